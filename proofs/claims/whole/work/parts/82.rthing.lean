-- part 82: the class's reader: a thing's facts
def RF (N N' : Mem) : Prop := (∀ c, c ≠ 7 → c ≠ 8 → c ≠ 9 → c ≠ 10 → c ≠ 11 → N'.1 c = N.1 c) ∧ N'.1 11 4 = N.1 11 4 ∧ N'.2 = N.2
theorem RF.refl {N : Mem} : RF N N := ⟨fun _ _ _ _ _ _ => rfl, rfl, rfl⟩
theorem RF.trans {A B C : Mem} (h1 : RF A B) (h2 : RF B C) : RF A C := ⟨fun c a1 a2 a3 a4 a5 => (h2.1 c a1 a2 a3 a4 a5).trans (h1.1 c a1 a2 a3 a4 a5), h2.2.1.trans h1.2.1, h2.2.2.trans h1.2.2⟩
theorem RF.drf {N : Mem} {c k : Nat} {x : Int32} (h : 7 ≤ c ∧ c ≤ 10) : RF N (setI N c k x) := ⟨fun d _ _ _ _ _ => setI_ne (by omega), by rw [setI_ne (by omega)], rfl⟩
theorem RF.fld {N : Mem} {k : Nat} {x : Int32} (h : k = 5 ∨ k = 6) : RF N (setI N 11 k x) := ⟨fun d _ _ _ _ h => setI_ne h, by rw [setI_nk (by omega)], rfl⟩
theorem RF.ct {T : TL} {N N' : Mem} (h : RF N N') (c : CT T N) : CT T N' := c.same h.2.1 (h.1 12 (by decide) (by decide) (by decide) (by decide) (by decide)) (h.1 13 (by decide) (by decide) (by decide) (by decide) (by decide))
/-- what lies behind the told things and days in the draft: nought -/
def DZ (J : Jr) (N : Mem) : Prop := (∀ i, nT J < i → i < 6 → ∀ j, j < 8 → N.1 8 (8 * i + j) = nI 0) ∧ (∀ i, nT J ≤ i → i < 6 → N.1 10 i = nI 0) ∧ (∀ d, nD J ≤ d → d < 8 → ∀ j, j < 4 → N.1 9 (4 * d + j) = nI 0)
/-- a thing is being read: its facts so far -/
def PT (J : Jr) (v : Nat → Nat) (N : Mem) : Prop := HX J N 7 ∧ DZ J N ∧ ∀ j, j < 8 → N.1 8 (8 * nT J + j) = nI (v j)
def upF (v : Nat → Nat) (j x : Nat) : Nat → Nat := fun i => if i = j then x else v i
section TH
variable {J : Jr} {T : TL} {F : Nat}
theorem room_nat {N : Mem} (hW : WJ J) (h : HX J N 7) : f_X8_hasRoomForThing N 7 = b2 (decide (nT J < 6)) := by
  have h6 := hW.1
  unfold f_X8_hasRoomForThing
  rw [h.1]
  by_cases c : nT J < 6
  · rw [decide_eq_true c]
    simp (disch := omega) only [lit, ltI, leI, eqI, addI, mulI, subI, clI, ckI, if_pos, if_neg, if_true, if_false, Option.bind_some, b2_0, b2_n0, b2_1, b2_n1, Bool.true_eq_false, Bool.false_eq_true, b2_t, b2_f] <;> rfl
  · rw [decide_eq_false c]
    simp (disch := omega) only [lit, ltI, leI, eqI, addI, mulI, subI, clI, ckI, if_pos, if_neg, if_true, if_false, Option.bind_some, b2_0, b2_n0, b2_1, b2_n1, Bool.true_eq_false, Bool.false_eq_true, b2_t, b2_f] <;> rfl
theorem PT.set (hW : WJ J) {v : Nat → Nat} {N : Mem} (h : PT J v N) (h6 : nT J < 6) {j x : Nat} (hj : j < 8) : PT J (upF v j x) (setI N 8 (8 * nT J + j) (nI x)) := by
  obtain ⟨⟨a1, a2, a3, a4, a5, a6, a7, a8, a9, a10, a11⟩, ⟨z1, z2, z3⟩, hv⟩ := h
  refine ⟨⟨?_, ?_, ?_, ?_, ?_, ?_, ?_, ?_, fun i hi k hk => ?_, fun d hd k hk => ?_, fun i hi => ?_⟩, ⟨fun i hi1 hi2 k hk => ?_, fun i hi1 hi2 => ?_, fun d hd1 hd2 k hk => ?_⟩, fun k hk => ?_⟩
  · rw [setI_ne (by decide)]; exact a1
  · rw [setI_ne (by decide)]; exact a2
  · rw [setI_ne (by decide)]; exact a3
  · rw [setI_ne (by decide)]; exact a4
  · rw [setI_ne (by decide)]; exact a5
  · rw [setI_ne (by decide)]; exact a6
  · rw [setI_ne (by decide)]; exact a7
  · rw [setI_ne (by decide)]; exact a8
  · show (setI N 8 _ _).1 8 _ = _
    rw [setI_nk (by omega)]
    exact a9 i hi k hk
  · show (setI N 8 _ _).1 9 _ = _
    rw [setI_ne (by decide)]
    exact a10 d hd k hk
  · show (setI N 8 _ _).1 10 _ = _
    rw [setI_ne (by decide)]
    exact a11 i hi
  · rw [setI_nk (by omega)]
    exact z1 i hi1 hi2 k hk
  · rw [setI_ne (by decide)]
    exact z2 i hi1 hi2
  · rw [setI_ne (by decide)]
    exact z3 d hd1 hd2 k hk
  · unfold upF
    by_cases e : k = j
    · subst e
      rw [if_pos rfl, setI_at]
    · rw [if_neg e, setI_nk (by omega)]
      exact hv k hk
theorem setFact_nat (hW : WJ J) {v : Nat → Nat} {N : Mem} (h : PT J v N) (h6 : nT J < 6) {j x : Nat} (hj : j < 8) : f_X8_setFact N 7 (nI j) (nI x) = some (setI N 8 (8 * nT J + j) (nI x)) := by
  have e := room_nat hW h.1
  rw [decide_eq_true h6] at e
  have e8 : nT J * 8 + j = 8 * nT J + j := by omega
  unfold f_X8_setFact
  simp only [vlet]
  rw [e, h.1.1]
  simp (disch := omega) only [lit, ltI, leI, eqI, addI, mulI, subI, clI, ckI, if_pos, if_neg, if_true, if_false, Option.bind_some, b2_0, b2_n0, b2_1, b2_n1, Bool.true_eq_false, Bool.false_eq_true, b2_t, b2_f, e8]
theorem PT.fld (hW : WJ J) {v : Nat → Nat} {N : Mem} (h : PT J v N) {k : Nat} {x : Int32} : PT J v (setI N 11 k x) := by
  obtain ⟨h1, ⟨z1, z2, z3⟩, hv⟩ := h
  refine ⟨h1.same (setI_ne (by decide)) (setI_ne (by decide)) (setI_ne (by decide)) (setI_ne (by decide)), ⟨?_, ?_, ?_⟩, ?_⟩
  · rw [setI_ne (by decide)]; exact z1
  · rw [setI_ne (by decide)]; exact z2
  · rw [setI_ne (by decide)]; exact z3
  · rw [setI_ne (by decide)]; exact hv
theorem adv_rf {N : Mem} {k : Nat} : RF N (adv N k) := RF.fld (Or.inl rfl)
/-- one number into a fact -/
theorem readFact_nat (hW : WJ J) {v : Nat → Nat} {N : Mem} {k : Nat} (hC : CN T k N) (hk : k < 510) (h : PT J v N) (h6 : nT J < 6) {j lo hi : Nat} (hj : j < 8) (hl : lo ≤ 99) (hh : hi ≤ 99) : (¬ (100 + lo ≤ tc T k ∧ tc T k ≤ 100 + hi) → f_X6_readFact N (nI j) (nI lo) (nI hi) = some (0, N)) ∧ ((100 + lo ≤ tc T k ∧ tc T k ≤ 100 + hi) → ∃ N', f_X6_readFact N (nI j) (nI lo) (nI hi) = some (1, N') ∧ CN T (k + 1) N' ∧ PT J (upF v j (tc T k - 100)) N' ∧ RF N N') := by
  refine ⟨fun c => ?_, fun c => ?_⟩
  · unfold f_X6_readFact
    rw [takeNumber_nat hC hl hh, if_neg c]
    rfl
  · have hC1 : CN T k (setI N 11 6 (nI (tc T k - 100))) := ⟨(RF.fld (Or.inr rfl)).ct hC.1, by rw [setI_nk (by decide)]; exact hC.2.1, hC.2.2⟩
    have hC2 := adv_cn hC1 hk
    have hP2 : PT J v (adv (setI N 11 6 (nI (tc T k - 100))) k) := (h.fld hW).fld hW
    have e6 : (adv (setI N 11 6 (nI (tc T k - 100))) k).1 11 6 = nI (tc T k - 100) := by
      unfold adv
      rw [setI_nk (by decide), setI_at]
    have r2 : RF N (adv (setI N 11 6 (nI (tc T k - 100))) k) := (RF.fld (Or.inr rfl)).trans adv_rf
    refine ⟨_, ?_, ?_, hP2.set hW h6 hj (x := tc T k - 100), r2.trans (RF.drf (by decide))⟩
    · unfold f_X6_readFact
      rw [takeNumber_nat hC hl hh, if_pos c, Option.bind_some]
      dsimp only
      rw [if_neg (by decide), e6, setFact_nat hW hP2 h6 hj]
      rfl
    · exact ⟨(RF.drf (by decide)).ct hC2.1, by rw [setI_ne (by decide)]; exact hC2.2.1, hC2.2.2⟩
def v5 (T : TL) (k : Nat) : Nat → Nat := upF (upF (upF (upF (upF (upF (fun _ => 0) 0 (tc T k)) 1 (tc T (k + 1) - 100)) 2 (tc T (k + 2) - 100)) 3 (tc T (k + 3) - 100)) 4 (tc T (k + 4) - 100)) 5 (tc T (k + 5) - 100)
theorem readThing_nat (hW : WJ J) {N : Mem} {k : Nat} (hC : CN T k N) (hk : k < 500) (h : PT J (fun _ => 0) N) : (6 ≤ nT J → f_X6_readThing N = some (0, N)) ∧ (nT J < 6 → (∀ j, bad T bT (k + 1) = some j → ∃ N', f_X6_readThing N = some (0, N') ∧ CN T j N' ∧ RF N N') ∧ (bad T bT (k + 1) = none → ∃ N', f_X6_readThing N = some (1, N') ∧ CN T (k + 6) N' ∧ PT J (v5 T k) N' ∧ RF N N')) := by
  have hro := room_nat hW h.1
  refine ⟨fun h6 => ?_, fun h6 => ?_⟩
  · rw [decide_eq_false (by omega)] at hro
    unfold f_X6_readThing
    rw [hro, if_pos b2_f]
  · rw [decide_eq_true h6] at hro
    have hP1 := h.set hW h6 (j := 0) (x := tc T k) (by decide)
    have hs1 : f_X8_setFact N 7 (0 : Int32) (nI (tc T k)) = some (setI N 8 (8 * nT J + 0) (nI (tc T k))) := setFact_nat hW h h6 (j := 0) (by decide)
    have hC1 : CN T k (setI N 8 (8 * nT J + 0) (nI (tc T k))) := ⟨(RF.drf (by decide)).ct hC.1, by rw [setI_ne (by decide)]; exact hC.2.1, hC.2.2⟩
    have r1 : RF N (setI N 8 (8 * nT J + 0) (nI (tc T k))) := RF.drf (by decide)
    have e5 := hC1.2.1
    unfold f_X6_readThing
    rw [hro, if_neg b2_nt, next_nat hC, Option.bind_some, hs1, Option.bind_some]
    simp only [vlet]
    rw [e5, show nI k + (1 : Int32) = nI (k + 1) from addI k 1]
    generalize setI N 8 (8 * nT J + 0) (nI (tc T k)) = Na at hP1 hC1 r1 e5
    have hC2 := adv_cn hC1 (by omega)
    have hP2 : PT J _ (adv Na k) := hP1.fld hW
    have r2 : RF N (adv Na k) := r1.trans adv_rf
    rw [show setI Na 11 5 (nI (k + 1)) = adv Na k from rfl]
    generalize adv Na k = Nb at hC2 hP2 r2 ⊢
    unfold bT
    obtain ⟨f1, g1⟩ := readFact_nat hW hC2 (by omega) hP2 h6 (j := 1) (lo := 0) (hi := 9) (by decide) (by decide) (by decide)
    rw [bad_C]
    by_cases c1 : 100 + 0 ≤ tc T (k + 1) ∧ tc T (k + 1) ≤ 100 + 9
    rotate_left
    · have z : f_X6_readFact Nb (1 : Int32) (0 : Int32) (9 : Int32) = some (0, Nb) := f1 c1
      rw [if_neg c1, z]
      refine ⟨fun j hj => ?_, fun hj => by cases hj⟩
      cases hj
      exact ⟨Nb, rfl, hC2, r2⟩
    obtain ⟨N3, eN3, hCN3, hPN3, rN3⟩ := g1 c1
    have eN3 : f_X6_readFact Nb (1 : Int32) (0 : Int32) (9 : Int32) = some (1, N3) := eN3
    rw [if_pos c1, eN3, Option.bind_some]
    dsimp only
    rw [if_neg (by decide)]
    obtain ⟨f2, g2⟩ := readFact_nat hW hCN3 (by omega) hPN3 h6 (j := 2) (lo := 0) (hi := 9) (by decide) (by decide) (by decide)
    rw [bad_C]
    by_cases c2 : 100 + 0 ≤ tc T (k + 2) ∧ tc T (k + 2) ≤ 100 + 9
    rotate_left
    · have z : f_X6_readFact N3 (2 : Int32) (0 : Int32) (9 : Int32) = some (0, N3) := f2 c2
      rw [if_neg c2, z]
      refine ⟨fun j hj => ?_, fun hj => by cases hj⟩
      cases hj
      exact ⟨N3, rfl, hCN3, (r2.trans rN3)⟩
    obtain ⟨N4, eN4, hCN4, hPN4, rN4⟩ := g2 c2
    have eN4 : f_X6_readFact N3 (2 : Int32) (0 : Int32) (9 : Int32) = some (1, N4) := eN4
    rw [if_pos c2, eN4, Option.bind_some]
    dsimp only
    rw [if_neg (by decide)]
    obtain ⟨f3, g3⟩ := readFact_nat hW hCN4 (by omega) hPN4 h6 (j := 3) (lo := 1) (hi := 99) (by decide) (by decide) (by decide)
    rw [bad_C]
    by_cases c3 : 100 + 1 ≤ tc T (k + 3) ∧ tc T (k + 3) ≤ 100 + 99
    rotate_left
    · have z : f_X6_readFact N4 (3 : Int32) (1 : Int32) (99 : Int32) = some (0, N4) := f3 c3
      rw [if_neg c3, z]
      refine ⟨fun j hj => ?_, fun hj => by cases hj⟩
      cases hj
      exact ⟨N4, rfl, hCN4, ((r2.trans rN3).trans rN4)⟩
    obtain ⟨N5, eN5, hCN5, hPN5, rN5⟩ := g3 c3
    have eN5 : f_X6_readFact N4 (3 : Int32) (1 : Int32) (99 : Int32) = some (1, N5) := eN5
    rw [if_pos c3, eN5, Option.bind_some]
    dsimp only
    rw [if_neg (by decide)]
    obtain ⟨f4, g4⟩ := readFact_nat hW hCN5 (by omega) hPN5 h6 (j := 4) (lo := 1) (hi := 99) (by decide) (by decide) (by decide)
    rw [bad_C]
    by_cases c4 : 100 + 1 ≤ tc T (k + 4) ∧ tc T (k + 4) ≤ 100 + 99
    rotate_left
    · have z : f_X6_readFact N5 (4 : Int32) (1 : Int32) (99 : Int32) = some (0, N5) := f4 c4
      rw [if_neg c4, z]
      refine ⟨fun j hj => ?_, fun hj => by cases hj⟩
      cases hj
      exact ⟨N5, rfl, hCN5, (((r2.trans rN3).trans rN4).trans rN5)⟩
    obtain ⟨N6, eN6, hCN6, hPN6, rN6⟩ := g4 c4
    have eN6 : f_X6_readFact N5 (4 : Int32) (1 : Int32) (99 : Int32) = some (1, N6) := eN6
    rw [if_pos c4, eN6, Option.bind_some]
    dsimp only
    rw [if_neg (by decide)]
    obtain ⟨f5, g5⟩ := readFact_nat hW hCN6 (by omega) hPN6 h6 (j := 5) (lo := 0) (hi := 99) (by decide) (by decide) (by decide)
    rw [bad_C]
    by_cases c5 : 100 + 0 ≤ tc T (k + 5) ∧ tc T (k + 5) ≤ 100 + 99
    rotate_left
    · have z : f_X6_readFact N6 (5 : Int32) (0 : Int32) (99 : Int32) = some (0, N6) := f5 c5
      rw [if_neg c5, z]
      refine ⟨fun j hj => ?_, fun hj => by cases hj⟩
      cases hj
      exact ⟨N6, rfl, hCN6, ((((r2.trans rN3).trans rN4).trans rN5).trans rN6)⟩
    obtain ⟨N7, eN7, hCN7, hPN7, rN7⟩ := g5 c5
    have eN7 : f_X6_readFact N6 (5 : Int32) (0 : Int32) (99 : Int32) = some (1, N7) := eN7
    rw [if_pos c5, eN7, Option.bind_some]
    dsimp only
    rw [if_neg (by decide)]
    exact ⟨fun j hj => (by cases hj), fun _ => ⟨N7, rfl, hCN7, hPN7, (((((r2.trans rN3).trans rN4).trans rN5).trans rN6).trans rN7)⟩⟩
end TH
