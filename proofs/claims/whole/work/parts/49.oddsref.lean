-- part 49: the reference's odds
theorem in_nat {M : Mem} {a lo hi : Nat} (ha : a < 2 ^ 31) (hl : lo < 2 ^ 31) (hh : hi < 2 ^ 31) : f_X10_in M (nI a) (nI lo) (nI hi) = b2 (decide (lo ≤ a) && decide (a ≤ hi)) := by
  unfold f_X10_in
  by_cases c1 : a < lo
  · simp (disch := omega) only [lit, ltI, leI, eqI, addI, mulI, subI, clI, ckI, if_pos, if_neg, if_true, if_false, Option.bind_some, b2_0, b2_n0, b2_1, b2_n1, Bool.true_eq_false, Bool.false_eq_true, b2_t, b2_f]
    rw [show decide (lo ≤ a) = false from decide_eq_false (by omega)]
    rfl
  · by_cases c2 : hi < a
    · simp (disch := omega) only [lit, ltI, leI, eqI, addI, mulI, subI, clI, ckI, if_pos, if_neg, if_true, if_false, Option.bind_some, b2_0, b2_n0, b2_1, b2_n1, Bool.true_eq_false, Bool.false_eq_true, b2_t, b2_f]
      rw [show decide (a ≤ hi) = false from decide_eq_false (by omega), Bool.and_false]
      rfl
    · simp (disch := omega) only [lit, ltI, leI, eqI, addI, mulI, subI, clI, ckI, if_pos, if_neg, if_true, if_false, Option.bind_some, b2_0, b2_n0, b2_1, b2_n1, Bool.true_eq_false, Bool.false_eq_true, b2_t, b2_f]
      rw [show decide (lo ≤ a) = true from decide_eq_true (by omega), show decide (a ≤ hi) = true from decide_eq_true (by omega)]
      rfl
theorem uns_in {r : Nat} : (decide (1 ≤ r) && decide (r ≤ 9)) = uns r := by
  unfold uns
  congr 1
  exact decide_eq_decide.mpr (by omega)
theorem odds_days {J : Jr} (hW : WJ J) {F s o w : Nat} {N : Mem} {K : Int32 → Int32 → Int32 → Mem → Option (Int32 × Mem)} (hJ : HJ J N) (hw : w < 256) :
    ∀ (m d n : Nat), d + m = nD J → m < n → f_X10_oddsOf_25 F K n (nI s) (nI o) (nI w) (nI (prT J w d)) (nI (unsTo J d)) (nI d) N = f_X10_oddsOf_145 F K F (nI s) (nI o) (nI w) (nI (prT J w (nD J))) (nI (unsTo J (nD J))) N
  | 0, d, n + 1, hd, _ => by
    have h8 := hW.2.1
    have hdd : d = nD J := by omega
    subst hdd
    rw [f_X10_oddsOf_25]
    simp (disch := omega) only [lit, ltI, leI, eqI, addI, mulI, subI, clI, ckI, if_pos, if_neg, if_true, if_false, Option.bind_some, b2_0, b2_n0, b2_1, b2_n1, Bool.true_eq_false, Bool.false_eq_true, b2_t, b2_f, hJ.2.1]
  | m + 1, d, n + 1, hd, hn => by
    have h8 := hW.2.1
    have hr := (hW.2.2.2.1 d (by omega)).2.2.2
    have e3 := hJ.2.2.2.1 d (by omega) 3 (by decide)
    have ih := odds_days hW (F := F) (s := s) (o := o) (K := K) hJ hw m (d + 1) n (by omega) (by omega)
    rw [prT, uns_S] at ih
    unfold rv at ih
    rw [f_X10_oddsOf_25]
    simp only [vlet]
    unfold f_X10_oddsOf_111
    have hra := rain_nat (M := N) (w := w) (d := d) (bit1' (s := w) (i := d) (by omega) (by omega))
    simp (disch := omega) only [lit, ltI, leI, eqI, addI, mulI, subI, clI, ckI, if_pos, if_neg, if_true, if_false, Option.bind_some, b2_0, b2_n0, b2_1, b2_n1, Bool.true_eq_false, Bool.false_eq_true, b2_t, b2_f, hJ.2.1, e3, in_nat, uns_in, hra]
    cases hu : uns (df J d 3)
    · simp only [hu, Bool.false_eq_true, if_false] at ih
      by_cases c10 : df J d 3 = 10
      · rw [show decide (df J d 3 = 10) = true from decide_eq_true c10] at ih
        cases hb : w.testBit d
        · rw [hb, if_neg (by decide)] at ih
          simp (disch := omega) only [lit, ltI, leI, eqI, addI, mulI, subI, clI, ckI, if_pos, if_neg, if_true, if_false, Option.bind_some, b2_0, b2_n0, b2_1, b2_n1, Bool.true_eq_false, Bool.false_eq_true, b2_t, b2_f, c10]
          exact ih
        · rw [hb, if_pos rfl] at ih
          simp (disch := omega) only [lit, ltI, leI, eqI, addI, mulI, subI, clI, ckI, if_pos, if_neg, if_true, if_false, Option.bind_some, b2_0, b2_n0, b2_1, b2_n1, Bool.true_eq_false, Bool.false_eq_true, b2_t, b2_f, c10]
          exact ih
      · rw [show decide (df J d 3 = 10) = false from decide_eq_false c10] at ih
        cases hb : w.testBit d
        · rw [hb, if_pos rfl] at ih
          simp (disch := omega) only [lit, ltI, leI, eqI, addI, mulI, subI, clI, ckI, if_pos, if_neg, if_true, if_false, Option.bind_some, b2_0, b2_n0, b2_1, b2_n1, Bool.true_eq_false, Bool.false_eq_true, b2_t, b2_f, c10]
          exact ih
        · rw [hb, if_neg (by decide)] at ih
          simp (disch := omega) only [lit, ltI, leI, eqI, addI, mulI, subI, clI, ckI, if_pos, if_neg, if_true, if_false, Option.bind_some, b2_0, b2_n0, b2_1, b2_n1, Bool.true_eq_false, Bool.false_eq_true, b2_t, b2_f, c10]
          exact ih
    · simp only [hu, if_true] at ih
      cases hb : w.testBit d
      · rw [hb, if_neg (by decide)] at ih
        simp (disch := omega) only [lit, ltI, leI, eqI, addI, mulI, subI, clI, ckI, if_pos, if_neg, if_true, if_false, Option.bind_some, b2_0, b2_n0, b2_1, b2_n1, Bool.true_eq_false, Bool.false_eq_true, b2_t, b2_f]
        exact ih
      · rw [hb, if_pos rfl] at ih
        simp (disch := omega) only [lit, ltI, leI, eqI, addI, mulI, subI, clI, ckI, if_pos, if_neg, if_true, if_false, Option.bind_some, b2_0, b2_n0, b2_1, b2_n1, Bool.true_eq_false, Bool.false_eq_true, b2_t, b2_f]
        exact ih
  | _, _, 0, _, hn => absurd hn (Nat.not_lt_zero _)
theorem odds_end {J : Jr} (hW : WJ J) {F s o w S : Nat} {N : Mem} {K : Int32 → Int32 → Int32 → Mem → Option (Int32 × Mem)} (hJ : HJ J N) (hw : w < 256) (hF : 4100 ≤ F) (hs : s < 64) (hS : S + 8 < 2 ^ 31) (hst : STP N S) :
    ∀ (m k c n : Nat), k + m = 4 → m < n → c * 10 ^ m = ch J w → ∃ N' S', f_X10_oddsOf_145 F K n (nI s) (nI o) (nI w) (nI c) (nI k) N = K (nI s) (nI (o + if (decide (0 < ch J w) && serves J s w) = true then ch J w else 0)) (nI (w + 1)) N' ∧ STP N' S' ∧ S' ≤ S + 8 ∧ FS N N'
  | 0, k, c, n + 1, hk, _, hc => by
    have hcc : ch J w ≤ 10000 := cc_le hW (w := w) (nD J) (Nat.le_refl _)
    rw [Nat.pow_zero, Nat.mul_one] at hc
    subst hc
    have hkk : k = 4 := by omega
    subst hkk
    rw [f_X10_oddsOf_145]
    by_cases h0 : ch J w = 0
    · refine ⟨N, S, ?_, hst, by omega, FS.refl⟩
      rw [h0]
      simp (disch := omega) only [lit, ltI, leI, eqI, addI, mulI, subI, clI, ckI, if_pos, if_neg, if_true, if_false, Option.bind_some, b2_0, b2_n0, b2_1, b2_n1, Bool.true_eq_false, Bool.false_eq_true, b2_t, b2_f]
      rfl
    · obtain ⟨N1, S1, a1, a2, a3, a4⟩ := isServing_nat hW (F := F) (wea_nat hw) hF hs hS hJ hst
      refine ⟨N1, S1, ?_, a2, a3, a4⟩
      rw [show decide (0 < ch J w) = true from decide_eq_true (by omega), Bool.true_and]
      simp (disch := omega) only [lit, ltI, leI, eqI, addI, mulI, subI, clI, ckI, if_pos, if_neg, if_true, if_false, Option.bind_some, b2_0, b2_n0, b2_1, b2_n1, Bool.true_eq_false, Bool.false_eq_true, b2_t, b2_f, h0, Nat.le_zero, a1]
      cases serves J s w
      · simp (disch := omega) only [lit, ltI, leI, eqI, addI, mulI, subI, clI, ckI, if_pos, if_neg, if_true, if_false, Option.bind_some, b2_0, b2_n0, b2_1, b2_n1, Bool.true_eq_false, Bool.false_eq_true, b2_t, b2_f]
      · simp (disch := omega) only [lit, ltI, leI, eqI, addI, mulI, subI, clI, ckI, if_pos, if_neg, if_true, if_false, Option.bind_some, b2_0, b2_n0, b2_1, b2_n1, Bool.true_eq_false, Bool.false_eq_true, b2_t, b2_f]
  | m + 1, k, c, n + 1, hk, hn, hc => by
    have hcc : ch J w ≤ 10000 := cc_le hW (w := w) (nD J) (Nat.le_refl _)
    obtain ⟨N1, S1, a1, a2⟩ := odds_end hW (F := F) (K := K) hJ hw hF hs hS hst m (k + 1) (c * 10) n (by omega) (by omega) (by rw [← hc, Nat.pow_succ, Nat.mul_assoc, Nat.mul_comm 10])
    refine ⟨N1, S1, ?_, a2⟩
    rw [f_X10_oddsOf_145]
    simp (disch := omega) only [lit, ltI, leI, eqI, addI, mulI, subI, clI, ckI, if_pos, if_neg, if_true, if_false, Option.bind_some, b2_0, b2_n0, b2_1, b2_n1, Bool.true_eq_false, Bool.false_eq_true, b2_t, b2_f]
    exact a1
  | _, _, _, 0, _, hn, _ => absurd hn (Nat.not_lt_zero _)
theorem odds_loop {J : Jr} (hW : WJ J) {F s : Nat} (hF : 4100 ≤ F) (hs : s < 64) :
    ∀ (m w n S : Nat) (N : Mem), w + m = 2 ^ nD J → m < n → S + 8 * m < 2 ^ 31 → HJ J N → STP N S →
      ∃ N' S', f_X10_oddsOf_4 F n (nI s) (nI (oddTo J s w)) (nI w) N = some (nI (odd J s), N') ∧ STP N' S' ∧ S' ≤ S + 8 * m ∧ FS N N'
  | 0, w, n + 1, S, N, hw, _, hS, hJ, hst => by
    have h8 := hW.2.1
    have h256 := pow8 hW
    have hww : w = 2 ^ nD J := by omega
    subst hww
    refine ⟨N, S, ?_, hst, by omega, FS.refl⟩
    rw [f_X10_oddsOf_4]
    simp (disch := omega) only [lit, ltI, leI, eqI, addI, mulI, subI, clI, ckI, if_pos, if_neg, if_true, if_false, Option.bind_some, b2_0, b2_n0, b2_1, b2_n1, Bool.true_eq_false, Bool.false_eq_true, b2_t, b2_f, hJ.2.1, nI_shl, Nat.one_mul]
    rfl
  | m + 1, w, n + 1, S, N, hw, hn, hS, hJ, hst => by
    have h8 := hW.2.1
    have h256 := pow8 hW
    have hu := hW.2.2.2.2.2
    obtain ⟨N1, S1, a1, a2, a3, a4⟩ := odds_end hW (F := F) (o := oddTo J s w) (K := fun y1 y2 y3 N => f_X10_oddsOf_4 F n y1 y2 y3 N) hJ (show w < 256 by omega) hF hs (by omega) hst (4 - unsTo J (nD J)) (unsTo J (nD J)) (prT J w (nD J)) F (by omega) (by omega) rfl
    have hd := odds_days hW (F := F) (s := s) (o := oddTo J s w) (K := fun y1 y2 y3 N => f_X10_oddsOf_4 F n y1 y2 y3 N) hJ (show w < 256 by omega) (nD J) 0 F (by omega) (by omega)
    rw [prT, unsTo] at hd
    obtain ⟨N2, S2, b1, b2', b3, b4⟩ := odds_loop hW (F := F) hF hs m (w + 1) n S1 N1 (by omega) (by omega) (by omega) (hJ.fs a4) a2
    refine ⟨N2, S2, ?_, b2', by omega, a4.trans b4⟩
    rw [f_X10_oddsOf_4]
    simp (disch := omega) only [lit, ltI, leI, eqI, addI, mulI, subI, clI, ckI, if_pos, if_neg, if_true, if_false, Option.bind_some, b2_0, b2_n0, b2_1, b2_n1, Bool.true_eq_false, Bool.false_eq_true, b2_t, b2_f, hJ.2.1, nI_shl, Nat.one_mul]
    exact (hd.trans a1).trans b1
  | _, _, 0, _, _, _, hn, _, _, _ => absurd hn (Nat.not_lt_zero _)
/-- the reference's oddsOf -/
theorem oddsR_nat {J : Jr} (hW : WJ J) {F s S : Nat} {N : Mem} (hF : 4100 ≤ F) (hs : s < 64) (hS : S + 2048 < 2 ^ 31) (hJ : HJ J N) (hst : STP N S) :
    ∃ N' S', f_X10_oddsOf F N (nI s) = some (nI (odd J s), N') ∧ STP N' S' ∧ S' ≤ S + 2048 ∧ FS N N' := by
  have h256 := pow8 hW
  obtain ⟨N2, S2, b1, b2', b3, b4⟩ := odds_loop hW (F := F) hF hs (2 ^ nD J) 0 F S N (by omega) (by omega) (by omega) hJ hst
  exact ⟨N2, S2, b1, b2', by omega, b4⟩
