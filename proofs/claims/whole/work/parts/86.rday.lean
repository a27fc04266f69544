-- part 86: the class's reader: an item that tells a day
/-- a day is being read: its wants so far -/
def PD (J : Jr) (v : Nat → Nat) (N : Mem) : Prop := HX J N 7 ∧ (∀ i, nT J ≤ i → i < 6 → ∀ j, j < 8 → N.1 8 (8 * i + j) = nI 0) ∧ (∀ i, nT J ≤ i → i < 6 → N.1 10 i = nI 0) ∧ (∀ d, nD J < d → d < 8 → ∀ j, j < 4 → N.1 9 (4 * d + j) = nI 0) ∧ ∀ j, j < 4 → N.1 9 (4 * nD J + j) = nI (v j)
section DY
variable {J : Jr} {T : TL}
theorem DX.pd {N : Mem} (h : DX J N) (h8 : nD J < 8) : PD J (fun _ => 0) N := by
  obtain ⟨h1, ⟨z1, z2, z3⟩, hv⟩ := h
  refine ⟨h1, fun i hi1 hi2 j hj => ?_, z2, fun d hd1 hd2 => z3 d (by omega) hd2, fun j hj => z3 (nD J) (Nat.le_refl _) h8 j hj⟩
  by_cases e : i = nT J
  · subst e
    exact hv hi2 j hj
  · exact z1 i (by omega) hi2 j hj
theorem roomD_nat {N : Mem} (hW : WJ J) (h : HX J N 7) : f_X8_hasRoomForDay N 7 = b2 (decide (nD J < 8)) := by
  have h6 := hW.2.1
  unfold f_X8_hasRoomForDay
  rw [h.2.1]
  by_cases c : nD J < 8
  · rw [decide_eq_true c]
    simp (disch := omega) only [lit, ltI, leI, eqI, addI, mulI, subI, clI, ckI, if_pos, if_neg, if_true, if_false, Option.bind_some, b2_0, b2_n0, b2_1, b2_n1, Bool.true_eq_false, Bool.false_eq_true, b2_t, b2_f] <;> rfl
  · rw [decide_eq_false c]
    simp (disch := omega) only [lit, ltI, leI, eqI, addI, mulI, subI, clI, ckI, if_pos, if_neg, if_true, if_false, Option.bind_some, b2_0, b2_n0, b2_1, b2_n1, Bool.true_eq_false, Bool.false_eq_true, b2_t, b2_f] <;> rfl
theorem PD.set {v : Nat → Nat} {N : Mem} (h : PD J v N) {j x : Nat} (hj : j < 4) : PD J (upF v j x) (setI N 9 (4 * nD J + j) (nI x)) := by
  obtain ⟨⟨a1, a2, a3, a4, a5, a6, a7, a8, a9, a10, a11⟩, z1, z2, z3, hv⟩ := h
  have hne : ∀ c, c ≠ 9 → (setI N 9 (4 * nD J + j) (nI x)).1 c = N.1 c := fun c hc => setI_ne hc
  refine ⟨⟨?_, ?_, ?_, ?_, ?_, ?_, ?_, ?_, ?_, fun d hd k hk => ?_, ?_⟩, ?_, ?_, fun d hd1 hd2 k hk => ?_, fun k hk => ?_⟩
  · rw [hne 7 (by decide)]; exact a1
  · rw [hne 7 (by decide)]; exact a2
  · rw [hne 7 (by decide)]; exact a3
  · rw [hne 7 (by decide)]; exact a4
  · rw [hne 7 (by decide)]; exact a5
  · rw [hne 7 (by decide)]; exact a6
  · rw [hne 7 (by decide)]; exact a7
  · rw [hne 7 (by decide)]; exact a8
  · show ∀ i, i < nT J → ∀ k, k < 8 → (setI _ _ _ _).1 8 _ = _
    rw [hne 8 (by decide)]; exact a9
  · show (setI N 9 _ _).1 9 _ = _
    rw [setI_nk (by omega)]
    exact a10 d hd k hk
  · show ∀ i, i < nT J → (setI _ _ _ _).1 10 _ = _
    rw [hne 10 (by decide)]; exact a11
  · rw [hne 8 (by decide)]; exact z1
  · rw [hne 10 (by decide)]; exact z2
  · rw [setI_nk (by omega)]
    exact z3 d hd1 hd2 k hk
  · unfold upF
    by_cases e : k = j
    · subst e
      rw [if_pos rfl, setI_at]
    · rw [if_neg e, setI_nk (by omega)]
      exact hv k hk
theorem PD.fld {v : Nat → Nat} {N : Mem} (h : PD J v N) {k : Nat} {x : Int32} : PD J v (setI N 11 k x) := by
  obtain ⟨h1, z1, z2, z3, hv⟩ := h
  refine ⟨h1.same (setI_ne (by decide)) (setI_ne (by decide)) (setI_ne (by decide)) (setI_ne (by decide)), ?_, ?_, ?_, ?_⟩
  · rw [setI_ne (by decide)]; exact z1
  · rw [setI_ne (by decide)]; exact z2
  · rw [setI_ne (by decide)]; exact z3
  · rw [setI_ne (by decide)]; exact hv
theorem setWant_nat (hW : WJ J) {v : Nat → Nat} {N : Mem} (h : PD J v N) (h8 : nD J < 8) {j x : Nat} (hj : j < 4) : f_X8_setWant N 7 (nI j) (nI x) = some (setI N 9 (4 * nD J + j) (nI x)) := by
  have e := roomD_nat hW h.1
  rw [decide_eq_true h8] at e
  have e8 : nD J * 4 + j = 4 * nD J + j := by omega
  unfold f_X8_setWant
  simp only [vlet]
  rw [e, h.1.2.1]
  simp (disch := omega) only [lit, ltI, leI, eqI, addI, mulI, subI, clI, ckI, if_pos, if_neg, if_true, if_false, Option.bind_some, b2_0, b2_n0, b2_1, b2_n1, Bool.true_eq_false, Bool.false_eq_true, b2_t, b2_f, e8]
theorem readWant_nat (hW : WJ J) {v : Nat → Nat} {N : Mem} {k : Nat} (hC : CN T k N) (hk : k < 510) (h : PD J v N) (h8 : nD J < 8) {j hi : Nat} (hj : j < 4) (hh : hi ≤ 99) : (¬ (100 + 0 ≤ tc T k ∧ tc T k ≤ 100 + hi) → f_X6_readWant N (nI j) (nI hi) = some (0, N)) ∧ ((100 + 0 ≤ tc T k ∧ tc T k ≤ 100 + hi) → ∃ N', f_X6_readWant N (nI j) (nI hi) = some (1, N') ∧ CN T (k + 1) N' ∧ PD J (upF v j (tc T k - 100)) N' ∧ RF N N') := by
  have htn : f_X6_takeNumber N (0 : Int32) (nI hi) = some (if 100 + 0 ≤ tc T k ∧ tc T k ≤ 100 + hi then (1, adv (setI N 11 6 (nI (tc T k - 100))) k) else (0, N)) := takeNumber_nat hC (lo := 0) (by decide) hh
  refine ⟨fun c => ?_, fun c => ?_⟩
  · unfold f_X6_readWant
    rw [htn, if_neg c]
    rfl
  · have hC1 : CN T k (setI N 11 6 (nI (tc T k - 100))) := ⟨(RF.fld (Or.inr rfl)).ct hC.1, by rw [setI_nk (by decide)]; exact hC.2.1, hC.2.2⟩
    have hC2 := adv_cn hC1 hk
    have hP2 : PD J v (adv (setI N 11 6 (nI (tc T k - 100))) k) := h.fld.fld
    have e6 : (adv (setI N 11 6 (nI (tc T k - 100))) k).1 11 6 = nI (tc T k - 100) := by
      unfold adv
      rw [setI_nk (by decide), setI_at]
    have r2 : RF N (adv (setI N 11 6 (nI (tc T k - 100))) k) := (RF.fld (Or.inr rfl)).trans adv_rf
    refine ⟨setI (adv (setI N 11 6 (nI (tc T k - 100))) k) 9 (4 * nD J + j) (nI (tc T k - 100)), ?_, ?_, hP2.set hj (x := tc T k - 100), r2.trans (RF.drf (by decide))⟩
    · unfold f_X6_readWant
      rw [htn, if_pos c, Option.bind_some]
      dsimp only
      rw [if_neg n10, e6, setWant_nat hW hP2 h8 hj]
      rfl
    · exact ⟨(RF.drf (by decide)).ct hC2.1, by rw [setI_ne (by decide)]; exact hC2.2.1, hC2.2.2⟩
theorem unsure_nat {M : Mem} {x : Nat} (hx : x < 2 ^ 31) : f_X9_isUnsure M (nI x) = b2 (uns x) := by
  unfold f_X9_isUnsure uns
  by_cases c1 : 0 < x
  · by_cases c2 : x < 10
    · rw [decide_eq_true c1, decide_eq_true c2]
      simp (disch := omega) only [lit, ltI, leI, eqI, addI, mulI, subI, clI, ckI, if_pos, if_neg, if_true, if_false, Option.bind_some, b2_0, b2_n0, b2_1, b2_n1, Bool.true_eq_false, Bool.false_eq_true, b2_t, b2_f] <;> rfl
    · rw [decide_eq_true c1, decide_eq_false c2]
      simp (disch := omega) only [lit, ltI, leI, eqI, addI, mulI, subI, clI, ckI, if_pos, if_neg, if_true, if_false, Option.bind_some, b2_0, b2_n0, b2_1, b2_n1, Bool.true_eq_false, Bool.false_eq_true, b2_t, b2_f] <;> rfl
  · rw [decide_eq_false c1]
    simp (disch := omega) only [lit, ltI, leI, eqI, addI, mulI, subI, clI, ckI, if_pos, if_neg, if_true, if_false, Option.bind_some, b2_0, b2_n0, b2_1, b2_n1, Bool.true_eq_false, Bool.false_eq_true, b2_t, b2_f] <;> rfl
theorem un_low : ∀ c, c < 100 → nI c - (100 : Int32) ≤ (0 : Int32) := by decide +kernel
theorem unsure_code {M : Mem} {c : Nat} (hc : c ≤ 199) : f_X9_isUnsure M (nI c - (100 : Int32)) = b2 (decide (100 ≤ c) && uns (c - 100)) := by
  by_cases h : 100 ≤ c
  · have e : nI c - (100 : Int32) = nI (c - 100) := subI h
    rw [e, decide_eq_true h, Bool.true_and]
    exact unsure_nat (by omega)
  · have := un_low c (by omega)
    unfold f_X9_isUnsure
    rw [if_pos this, decide_eq_false h]
    rfl
theorem readRain_nat (hW : WJ J) {v : Nat → Nat} {N : Mem} {k : Nat} (hC : CN T k N) (hk : k < 510) (h : PD J v N) (h8 : nD J < 8) : (rnOk J (tc T k) = false → f_X6_readRain N = some (0, N)) ∧ (rnOk J (tc T k) = true → ∃ N', f_X6_readRain N = some (1, N') ∧ CN T (k + 1) N' ∧ PD J (upF v 3 (tc T k - 100)) N' ∧ RF N N') := by
  have ht := (tc_lt (T := T) k).1
  have hu4 := hW.2.2.2.2.2
  obtain ⟨f1, g1⟩ := readWant_nat hW hC hk h h8 (j := 3) (hi := 10) (by decide) (by decide)
  have f1 : _ → f_X6_readWant N (3 : Int32) (10 : Int32) = some (0, N) := f1
  have eu : f_X8_unsureDays N 7 = nI (unsTo J (nD J)) := h.1.2.2.1
  unfold f_X6_readRain
  rw [next_nat hC, Option.bind_some, unsure_code ht, eu]
  have hrn : rnOk J (tc T k) = (decide (100 ≤ tc T k) && decide (tc T k ≤ 110) && (!uns (tc T k - 100) || decide (unsTo J (nD J) < 4))) := rfl
  have n00 : (0 : Int32) = 0 := rfl
  cases cu : (decide (100 ≤ tc T k) && uns (tc T k - 100))
  · rw [if_pos b2_f, if_pos n00]
    by_cases c : 100 + 0 ≤ tc T k ∧ tc T k ≤ 100 + 10
    · rw [decide_eq_true (show 100 ≤ tc T k by omega), Bool.true_and] at cu
      have : rnOk J (tc T k) = true := by
        rw [hrn, cu, decide_eq_true (show 100 ≤ tc T k by omega), decide_eq_true (show tc T k ≤ 110 by omega)]
        rfl
      refine ⟨fun e => (by rw [this] at e; cases e), fun _ => ?_⟩
      obtain ⟨N1, e1, hC1, hP1, r1⟩ := g1 c
      have e1 : f_X6_readWant N (3 : Int32) (10 : Int32) = some (1, N1) := e1
      refine ⟨N1, ?_, hC1, hP1, r1⟩
      rw [e1]
      rfl
    · have : rnOk J (tc T k) = false := by
        rw [hrn]
        by_cases c1 : 100 ≤ tc T k
        · rw [decide_eq_false (show ¬ tc T k ≤ 110 by omega), Bool.and_false, Bool.false_and]
        · rw [decide_eq_false c1, Bool.false_and, Bool.false_and]
      refine ⟨fun _ => ?_, fun e => by rw [this] at e; cases e⟩
      rw [f1 c]
      rfl
  · have cu2 := cu
    simp only [Bool.and_eq_true, decide_eq_true_eq] at cu2
    have c10 : tc T k - 100 < 10 ∧ 0 < tc T k - 100 := by
      have := cu2.2
      unfold uns at this
      simp only [Bool.and_eq_true, decide_eq_true_eq] at this
      omega
    rw [if_neg b2_nt]
    by_cases c4 : unsTo J (nD J) < 4
    · have hlt : nI (unsTo J (nD J)) < (4 : Int32) := by
        have : (nI (unsTo J (nD J)) < nI 4) = (unsTo J (nD J) < 4) := ltI (by omega) (by decide)
        exact this.mpr c4
      have : rnOk J (tc T k) = true := by
        rw [hrn, cu2.2, decide_eq_true cu2.1, decide_eq_true (show tc T k ≤ 110 by omega), decide_eq_true c4]
        rfl
      rw [if_pos hlt, if_pos n00]
      refine ⟨fun e => (by rw [this] at e; cases e), fun _ => ?_⟩
      obtain ⟨N1, e1, hC1, hP1, r1⟩ := g1 (by omega)
      have e1 : f_X6_readWant N (3 : Int32) (10 : Int32) = some (1, N1) := e1
      refine ⟨N1, ?_, hC1, hP1, r1⟩
      rw [e1]
      rfl
    · have hlt : ¬ nI (unsTo J (nD J)) < (4 : Int32) := by
        have : (nI (unsTo J (nD J)) < nI 4) = (unsTo J (nD J) < 4) := ltI (by omega) (by decide)
        intro h
        exact c4 (this.mp h)
      have : rnOk J (tc T k) = false := by
        rw [hrn, cu2.2, decide_eq_false c4]
        simp
      rw [if_neg hlt, if_neg n10]
      exact ⟨fun _ => rfl, fun e => by rw [this] at e; cases e⟩
end DY
