-- part 45: the class's times
theorem ush63 : ∀ k, k < 64 → (((nI k).toInt64.toUInt64 &&& Int64.toUInt64 63).toBitVec % 64).toNat = k := by decide +kernel
theorem ush0 {v : Int64} {b i : Nat} (hb : b < 64) (h : lg_cmp ((v.toUInt64 >>> ((nI b).toInt64.toUInt64 &&& Int64.toUInt64 63)).toInt64) 0 = nI 0) (hi : b ≤ i) (h64 : i < 64) : bL v i = false := by
  have h0 : (v.toUInt64 >>> ((nI b).toInt64.toUInt64 &&& Int64.toUInt64 63)).toInt64 = 0 := (lg_cmp_eq _ _).mp h
  have h1 := congrArg Int64.toBitVec h0
  have h2 : (v.toUInt64 >>> ((nI b).toInt64.toUInt64 &&& Int64.toUInt64 63)).toBitVec = 0#64 := h1
  rw [UInt64.toBitVec_shiftRight] at h2
  have h2 : v.toBitVec >>> ((((nI b).toInt64.toUInt64 &&& Int64.toUInt64 63).toBitVec % 64).toNat) = 0#64 := h2
  rw [ush63 b hb] at h2
  have h3 := congrArg (fun x => x.getLsbD (i - b)) h2
  rw [BitVec.getLsbD_ushiftRight, show b + (i - b) = i by omega] at h3
  unfold bL
  rw [h3]
  simp
def SB (N : Mem) (c : Nat) (P : Nat → Prop) : Prop := ∀ x, x < 4096 → (bL (N.2 c (x / 64)) (x % 64) = true ↔ P x)
theorem SB.congr {N : Mem} {c : Nat} {P Q : Nat → Prop} (h : SB N c P) (e : ∀ x, x < 4096 → (P x ↔ Q x)) : SB N c Q := fun x hx => (h x hx).trans (e x hx)
def GF (N N' : Mem) : Prop := N'.1 = N.1 ∧ ∀ c, c ≠ 24 → N'.2 c = N.2 c
theorem GF.refl {N : Mem} : GF N N := ⟨rfl, fun _ _ => rfl⟩
theorem GF.trans {A B C : Mem} (h1 : GF A B) (h2 : GF B C) : GF A C := ⟨h2.1.trans h1.1, fun c a1 => (h2.2 c a1).trans (h1.2 c a1)⟩
theorem GF.pf {A B : Mem} (h : GF A B) : PF A B := ⟨fun c _ => by rw [h.1], fun c hc => h.2 c (by omega)⟩
theorem mark_nat {N : Mem} {y : Nat} {P : Nat → Prop} (hy : y < 4096) (hM : SB N 24 P) : ∃ N', f_X5_mark N (nI y) = some N' ∧ SB N' 24 (fun z => P z ∨ z = y) ∧ GF N N' := by
  refine ⟨setL N 24 (y / 64) (N.2 24 (y / 64) ||| ((1 : Int64) <<< ((nI (y % 64)).toInt64 &&& 63))), ?_, fun z hz => ?_, rfl, fun c hc => setL_ne hc⟩
  · unfold f_X5_mark
    simp only [vlet]
    simp (disch := omega) only [lit, ltI, leI, eqI, addI, mulI, subI, clI, ckI, if_pos, if_neg, if_true, if_false, Option.bind_some, b2_0, b2_n0, b2_1, b2_n1, Bool.true_eq_false, Bool.false_eq_true, b2_t, b2_f, divI, sub64]
  · by_cases e : z / 64 = y / 64
    · rw [e, setL_at, bL_set (Nat.mod_lt _ (by decide)) (Nat.mod_lt _ (by decide)), Bool.or_eq_true, ← e, hM z hz, decide_eq_true_eq]
      constructor
      · rintro (h | h)
        · exact Or.inl h
        · exact Or.inr (by omega)
      · rintro (h | h)
        · exact Or.inl h
        · exact Or.inr (by omega)
    · rw [setL_nk e, hM z hz]
      constructor
      · exact Or.inl
      · rintro (h | h)
        · exact h
        · exact absurd (by rw [h]) e
def frm (J : Jr) (s d x : Nat) (pl : List Nat) : List Nat := pl.flatMap (fun p => if (rdy x (p / 6) && rdy x (p % 6)) = true then (wsL J d).map (nx J s 0 d x p) else [])
theorem soak0 {J : Jr} {s d : Nat} : soakB J s 0 d = false := by unfold soakB; simp
theorem from_wash {J : Jr} (hW : WJ J) {F s d x p k : Nat} {f : Int32} {K : Int32 → Int32 → Int32 → Int32 → Mem → Option (Int32 × Mem)} (hd : d < nD J) (hx : okH J s x) (hp : okP J s d x p = true) :
    ∀ (m c n : Nat) (N : Mem) (P : Nat → Prop), c + m = 1 + df J d 2 → m < n → HX J N 3 → SB N 24 P →
      ∃ N', f_X5_reachFrom_96 F K n (nI d) (nI x) f (nI k) (nI (p / 6)) (nI (p % 6)) (nI c) N = K (nI d) (nI x) f (nI (k + 1)) N' ∧ SB N' 24 (fun z => P z ∨ z ∈ ((List.range (1 + df J d 2)).drop c).map (nx J s 0 d x p)) ∧ GF N N'
  | 0, c, n + 1, N, P, hc, _, hJ, hM => by
    have h8 := hW.2.1
    have h2 := (hW.2.2.2.1 d hd).2.2.1
    have e : (List.range (1 + df J d 2)).drop c = [] := List.drop_eq_nil_of_le (by rw [List.length_range]; omega)
    rw [e]
    refine ⟨N, ?_, hM.congr (fun z _ => by simp), GF.refl⟩
    rw [f_X5_reachFrom_96, lit 2, want_nat hJ hW hd (by decide)]
    simp (disch := omega) only [lit, ltI, leI, eqI, addI, mulI, subI, clI, ckI, if_pos, if_neg, if_true, if_false, Option.bind_some, b2_0, b2_n0, b2_1, b2_n1, Bool.true_eq_false, Bool.false_eq_true, b2_t, b2_f]
  | m + 1, c, n + 1, N, P, hc, hn, hJ, hM => by
    have h8 := hW.2.1
    have h2 := (hW.2.2.2.1 d hd).2.2.1
    have hcl : c < (List.range (1 + df J d 2)).length := by rw [List.length_range]; omega
    rw [List.drop_eq_getElem_cons hcl, List.getElem_range, List.map_cons]
    obtain ⟨q1, q2, q3, q4, q5, q6, q7⟩ := okP_of hp
    have hy := (nx_ok (w := 0) (c := c) hW hx hp).1
    have hmo := morning_nat hJ hW (s := s) (x := x) (t := p / 6) (b := p % 6) (ws := decide (c = 1)) (k := soakB J s 0 d) hx q1 q2 q5 q3 q4 q6 q7
    rw [show nxt J s x (p / 6) (p % 6) (decide (c = 1)) (soakB J s 0 d) = nx J s 0 d x p c from rfl, soak0] at hmo
    obtain ⟨N1, a1, a2, a3⟩ := mark_nat hy hM
    obtain ⟨N2, b1, b2', b3⟩ := from_wash hW (F := F) (k := k) (f := f) (K := K) hd hx hp m (c + 1) n N1 _ (by omega) (by omega) (hJ.pf a3.pf) a2
    refine ⟨N2, ?_, b2'.congr (fun z _ => by rw [List.mem_cons, or_assoc]), a3.trans b3⟩
    rw [f_X5_reachFrom_96, lit 2, want_nat hJ hW hd (by decide)]
    rcases (by omega : c = 0 ∨ c = 1) with rfl | rfl
    · have hmo : f_X8_morning N 3 (nI x) (nI (p / 6)) (nI (p % 6)) (nI 0) (nI 0) = nI (nx J s 0 d x p 0) := hmo
      simp (disch := omega) only [lit, ltI, leI, eqI, addI, mulI, subI, clI, ckI, if_pos, if_neg, if_true, if_false, Option.bind_some, b2_0, b2_n0, b2_1, b2_n1, Bool.true_eq_false, Bool.false_eq_true, b2_t, b2_f, hmo, a1]
      exact b1
    · have hmo : f_X8_morning N 3 (nI x) (nI (p / 6)) (nI (p % 6)) (nI 0) (nI 1) = nI (nx J s 0 d x p 1) := hmo
      simp (disch := omega) only [lit, ltI, leI, eqI, addI, mulI, subI, clI, ckI, if_pos, if_neg, if_true, if_false, Option.bind_some, b2_0, b2_n0, b2_1, b2_n1, Bool.true_eq_false, Bool.false_eq_true, b2_t, b2_f, hmo, a1]
      exact b1
  | _, _, 0, _, _, _, hn, _, _ => absurd hn (Nat.not_lt_zero _)
theorem frm_cons {J : Jr} {s d x p : Nat} {t : List Nat} : frm J s d x (p :: t) = (if (rdy x (p / 6) && rdy x (p % 6)) = true then (wsL J d).map (nx J s 0 d x p) else []) ++ frm J s d x t := by
  unfold frm; rw [List.flatMap_cons]
theorem wsL_ne {J : Jr} {d : Nat} : wsL J d ≠ [] := by unfold wsL; split <;> simp
theorem from_loop {J : Jr} (hW : WJ J) {F s d x : Nat} (hF : 100 ≤ F) (hd : d < nD J) (hx : okH J s x) :
    ∀ (m k n : Nat) (N : Mem) (P : Nat → Prop) (f : Bool), k + m = (pairL J s d 36).length → m < n → HX J N 3 → PR J s 0 N → SB N 24 P →
      ∃ N', f_X5_reachFrom_5 F n (nI d) (nI x) (b2 f) (nI k) N = some (b2 (f || !(frm J s d x ((pairL J s d 36).drop k)).isEmpty), N') ∧ SB N' 24 (fun z => P z ∨ z ∈ frm J s d x ((pairL J s d 36).drop k)) ∧ GF N N'
  | 0, k, n + 1, N, P, f, hk, _, hJ, hP, hM => by
    have h8 := hW.2.1
    have hlen := pair_len hW s d 36 (by decide)
    have e : (pairL J s d 36).drop k = [] := List.drop_eq_nil_of_le (by omega)
    have h19 := (hP.2 d (by omega)).1
    rw [e]
    refine ⟨N, ?_, hM.congr (fun z _ => by simp [frm]), GF.refl⟩
    rw [f_X5_reachFrom_5]
    simp (disch := omega) only [lit, ltI, leI, eqI, addI, mulI, subI, clI, ckI, if_pos, if_neg, if_true, if_false, Option.bind_some, b2_0, b2_n0, b2_1, b2_n1, Bool.true_eq_false, Bool.false_eq_true, b2_t, b2_f, h19, isDay_nat, and_b1]
    simp [frm]
  | m + 1, k, n + 1, N, P, f, hk, hn, hJ, hP, hM => by
    have h8 := hW.2.1
    have h2 := (hW.2.2.2.1 d hd).2.2.1
    have hlen := pair_len hW s d 36 (by decide)
    have h19 := (hP.2 d (by omega)).1
    have hkl : k < (pairL J s d 36).length := by omega
    have h18 := (hP.2 d (by omega)).2 k hkl
    rw [Nat.mul_comm 9 d] at h18
    have hg : (pairL J s d 36).getD k 0 = (pairL J s d 36)[k] := by rw [List.getD_eq_getElem?_getD, List.getElem?_eq_getElem hkl]; rfl
    obtain ⟨p36, hp⟩ := mem_pairL.mp (List.getElem_mem hkl)
    rw [List.drop_eq_getElem_cons hkl, frm_cons]
    rw [← hg] at p36 hp ⊢
    generalize (pairL J s d 36).getD k 0 = p at p36 hp h18 ⊢
    have hp' := hp
    unfold suitP suitsB at hp'
    simp only [Bool.and_eq_true, decide_eq_true_eq] at hp'
    have q1 : p / 6 < nT J := hp'.1.1.1.1.1.1.1.1.1
    have q2 : p % 6 < nT J := hp'.1.1.1.1.1.1.1.1.2
    have ih := from_loop hW (F := F) hF hd hx m (k + 1) n
    cases hr : (rdy x (p / 6) && rdy x (p % 6))
    · obtain ⟨N1, a1, a2, a3⟩ := ih N P f (by omega) (by omega) hJ hP hM
      refine ⟨N1, ?_, a2.congr (fun z _ => by simp), a3⟩
      rw [f_X5_reachFrom_5]
      simp only [vlet]
      cases r1 : rdy x (p / 6)
      · simp (disch := omega) only [lit, ltI, leI, eqI, addI, mulI, subI, clI, ckI, if_pos, if_neg, if_true, if_false, Option.bind_some, b2_0, b2_n0, b2_1, b2_n1, Bool.true_eq_false, Bool.false_eq_true, b2_t, b2_f, h19, h18, isDay_nat, divI, sub6, ready_nat hJ hW hx q1, r1]
        rw [a1]
        rfl
      · cases r2 : rdy x (p % 6)
        · simp (disch := omega) only [lit, ltI, leI, eqI, addI, mulI, subI, clI, ckI, if_pos, if_neg, if_true, if_false, Option.bind_some, b2_0, b2_n0, b2_1, b2_n1, Bool.true_eq_false, Bool.false_eq_true, b2_t, b2_f, h19, h18, isDay_nat, divI, sub6, ready_nat hJ hW hx q1, ready_nat hJ hW hx q2, r1, r2]
          rw [a1]
          rfl
        · rw [r1, r2] at hr
          cases hr
    · have r1 : rdy x (p / 6) = true := by simp only [Bool.and_eq_true] at hr; exact hr.1
      have r2 : rdy x (p % 6) = true := by simp only [Bool.and_eq_true] at hr; exact hr.2
      have hok : okP J s d x p = true := by unfold okP; rw [hp, r1, r2]; rfl
      obtain ⟨N1, a1, a2, a3⟩ := from_wash hW (F := F) (k := k) (f := b2 true) (K := fun y1 y2 y3 y4 N => f_X5_reachFrom_5 F n y1 y2 y3 y4 N) hd hx hok (1 + df J d 2) 0 F N P (by omega) (by omega) hJ hM
      rw [List.drop_zero, ← wsL_range h2] at a2
      obtain ⟨N2, b1, b2', b3⟩ := ih N1 _ true (by omega) (by omega) (hJ.pf a3.pf) (by unfold PR DP at *; rw [a3.1]; exact hP) a2
      refine ⟨N2, ?_, b2'.congr (fun z _ => by rw [if_pos rfl, List.mem_append, or_assoc]), a3.trans b3⟩
      rw [f_X5_reachFrom_5]
      simp only [vlet]
      simp (disch := omega) only [lit, ltI, leI, eqI, addI, mulI, subI, clI, ckI, if_pos, if_neg, if_true, if_false, Option.bind_some, b2_0, b2_n0, b2_1, b2_n1, Bool.true_eq_false, Bool.false_eq_true, b2_t, b2_f, h19, h18, isDay_nat, divI, sub6, ready_nat hJ hW hx q1, ready_nat hJ hW hx q2, r1, r2]
      refine (a1.trans b1).trans ?_
      have : ((wsL J d).map (nx J s 0 d x p) ++ frm J s d x ((pairL J s d 36).drop (k + 1))).isEmpty = false := by
        cases hw : wsL J d with
        | nil => exact absurd hw wsL_ne
        | cons a t => rfl
      rw [this]
      simp
  | _, _, 0, _, _, _, _, hn, _, _, _ => absurd hn (Nat.not_lt_zero _)
theorem mem_frm {J : Jr} {s d x z : Nat} : z ∈ frm J s d x (pairL J s d 36) ↔ ∃ p, p < 36 ∧ okP J s d x p = true ∧ ∃ c ∈ wsL J d, z = nx J s 0 d x p c := by
  unfold frm
  rw [List.mem_flatMap]
  constructor
  · rintro ⟨p, hp, h⟩
    obtain ⟨h1, h2⟩ := mem_pairL.mp hp
    split at h
    · rename_i r
      obtain ⟨c, hc, e⟩ := List.mem_map.mp h
      refine ⟨p, h1, ?_, c, hc, e.symm⟩
      unfold okP
      rw [h2, Bool.true_and]
      exact r
    · cases h
  · rintro ⟨p, h1, h2, c, hc, rfl⟩
    unfold okP at h2
    simp only [Bool.and_eq_true] at h2
    refine ⟨p, mem_pairL.mpr ⟨h1, h2.1.1⟩, ?_⟩
    rw [if_pos (by rw [h2.1.2, h2.2]; rfl)]
    exact List.mem_map.mpr ⟨c, hc, rfl⟩
