-- part 48: chances
/-- a day's share of a weather's chance -/
def rv (J : Jr) (w d : Nat) : Nat := if uns (df J d 3) = true then (if w.testBit d = true then df J d 3 else 10 - df J d 3) else if w.testBit d = decide (df J d 3 = 10) then 1 else 0
def prT (J : Jr) (w : Nat) : Nat → Nat
  | 0 => 1
  | d + 1 => prT J w d * rv J w d
def cc (J : Jr) (w d : Nat) : Nat := prT J w d * 10 ^ (4 - unsTo J d)
def ch (J : Jr) (w : Nat) : Nat := cc J w (nD J)
theorem unsTo_mono {J : Jr} : ∀ m d, unsTo J d ≤ unsTo J (d + m)
  | 0, d => Nat.le_refl _
  | m + 1, d => by
    have := unsTo_mono (J := J) m d
    show unsTo J d ≤ unsTo J (d + m) + _
    omega
theorem uns4 {J : Jr} (hW : WJ J) {d : Nat} (hd : d ≤ nD J) : unsTo J d ≤ 4 := by
  have h := unsTo_mono (J := J) (nD J - d) d
  rw [show d + (nD J - d) = nD J by omega] at h
  have := hW.2.2.2.2.2
  omega
theorem uns_S {J : Jr} {d : Nat} : unsTo J (d + 1) = unsTo J d + if uns (df J d 3) = true then 1 else 0 := rfl
/-- the next share, as the class works it out -/
theorem cc_S {J : Jr} (hW : WJ J) {w d : Nat} (hd : d < nD J) : cc J w (d + 1) = cc J w d * (if w.testBit d = true then df J d 3 else 10 - df J d 3) / 10 := by
  have h4 := uns4 hW (d := d + 1) (by omega)
  have hr := (hW.2.2.2.1 d hd).2.2.2
  unfold cc
  rw [prT]
  rw [uns_S] at h4 ⊢
  unfold rv
  by_cases hu : uns (df J d 3) = true
  · rw [if_pos hu, if_pos hu] at *
    obtain ⟨e, he⟩ : ∃ e, 4 - unsTo J d = e + 1 := ⟨3 - unsTo J d, by omega⟩
    rw [he, show 4 - (unsTo J d + 1) = e by omega, Nat.pow_succ]
    generalize (if w.testBit d = true then df J d 3 else 10 - df J d 3) = v
    rw [show prT J w d * (10 ^ e * 10) * v = 10 * (prT J w d * v * 10 ^ e) by
      rw [Nat.mul_comm (10 ^ e) 10, Nat.mul_left_comm, Nat.mul_assoc 10, Nat.mul_assoc (prT J w d), Nat.mul_assoc (prT J w d), Nat.mul_comm (10 ^ e) v], Nat.mul_div_cancel_left _ (by decide)]
  · rw [if_neg hu, if_neg hu] at *
    rw [Nat.add_zero]
    have h2 : df J d 3 = 0 ∨ df J d 3 = 10 := by
      unfold uns at hu
      simp only [Bool.and_eq_true, decide_eq_true_eq] at hu
      omega
    generalize 10 ^ (4 - unsTo J d) = q
    generalize prT J w d = p
    rcases h2 with e | e <;> rw [e] <;> cases w.testBit d <;> simp
theorem cc_le {J : Jr} (hW : WJ J) {w : Nat} : ∀ d, d ≤ nD J → cc J w d ≤ 10000
  | 0, _ => by unfold cc; rw [prT, unsTo]; decide
  | d + 1, hd => by
    have ih := cc_le hW (w := w) d (by omega)
    have hr := (hW.2.2.2.1 d (by omega)).2.2.2
    rw [cc_S hW (by omega)]
    have hv : (if w.testBit d = true then df J d 3 else 10 - df J d 3) ≤ 10 := by split <;> omega
    have := Nat.mul_le_mul ih hv
    omega
theorem cc_0 {J : Jr} (hW : WJ J) {w : Nat} : ∀ m d, d + m ≤ nD J → cc J w d = 0 → cc J w (d + m) = 0
  | 0, _, _, h => h
  | m + 1, d, hd, h => by
    have ih := cc_0 hW (w := w) m d (by omega) h
    rw [← Nat.add_assoc, cc_S hW (by omega), ih, Nat.zero_mul]
theorem prT_le {J : Jr} (hW : WJ J) {w d : Nat} (hd : d ≤ nD J) : prT J w d ≤ 10000 := by
  have h := cc_le hW (w := w) d hd
  unfold cc at h
  exact Nat.le_trans (Nat.le_mul_of_pos_right _ (Nat.pow_pos (by decide))) h
theorem chance_loop {J : Jr} (hW : WJ J) {F w : Nat} {N : Mem} (hJ : HX J N 3) (hw : w < 256) : ∀ (m d n : Nat), d + m = nD J → m < n → f_X0_chanceOf_6 F N n (nI w) (nI (cc J w d)) (nI d) = some (nI (ch J w))
  | 0, d, n + 1, hd, _ => by
    have h8 := hW.2.1
    have hdd : d = nD J := by omega
    subst hdd
    rw [f_X0_chanceOf_6, show f_X8_days N 3 = nI (nD J) from hJ.2.1]
    simp (disch := omega) only [lit, ltI, leI, eqI, addI, mulI, subI, clI, ckI, if_pos, if_neg, if_true, if_false, Option.bind_some, b2_0, b2_n0, b2_1, b2_n1, Bool.true_eq_false, Bool.false_eq_true, b2_t, b2_f]
    rfl
  | m + 1, d, n + 1, hd, hn => by
    have h8 := hW.2.1
    have hc := cc_le hW (w := w) d (by omega)
    have hr := (hW.2.2.2.1 d (by omega)).2.2.2
    have ih := chance_loop hW (F := F) hJ hw m (d + 1) n (by omega) (by omega)
    rw [cc_S hW (by omega)] at ih
    rw [f_X0_chanceOf_6, show f_X8_days N 3 = nI (nD J) from hJ.2.1, lit 3, want_nat hJ hW (show d < nD J by omega) (by decide)]
    simp only [vlet]
    by_cases h0 : cc J w d = 0
    · have hz := cc_0 hW (w := w) (m + 1) d (by omega) h0
      rw [hd] at hz
      simp (disch := omega) only [lit, ltI, leI, eqI, addI, mulI, subI, clI, ckI, if_pos, if_neg, if_true, if_false, Option.bind_some, b2_0, b2_n0, b2_1, b2_n1, Bool.true_eq_false, Bool.false_eq_true, b2_t, b2_f, h0]
      unfold ch
      rw [hz]
    · have hb1 : cc J w d * df J d 3 ≤ 10000 * 10 := Nat.mul_le_mul hc hr
      have hb2 : cc J w d * (10 - df J d 3) ≤ 10000 * 10 := Nat.mul_le_mul hc (by omega)
      simp (disch := omega) only [lit, ltI, leI, eqI, addI, mulI, subI, clI, ckI, if_pos, if_neg, if_true, if_false, Option.bind_some, b2_0, b2_n0, b2_1, b2_n1, Bool.true_eq_false, Bool.false_eq_true, b2_t, b2_f, bit1, h0, divI, Nat.le_zero]
      cases hb : w.testBit d
      · rw [hb, if_neg (by decide)] at ih
        simp (disch := omega) only [lit, ltI, leI, eqI, addI, mulI, subI, clI, ckI, if_pos, if_neg, if_true, if_false, Option.bind_some, b2_0, b2_n0, b2_1, b2_n1, Bool.true_eq_false, Bool.false_eq_true, b2_t, b2_f, divI]
        exact ih
      · rw [hb, if_pos rfl] at ih
        simp (disch := omega) only [lit, ltI, leI, eqI, addI, mulI, subI, clI, ckI, if_pos, if_neg, if_true, if_false, Option.bind_some, b2_0, b2_n0, b2_1, b2_n1, Bool.true_eq_false, Bool.false_eq_true, b2_t, b2_f, divI]
        exact ih
  | _, _, 0, _, hn => absurd hn (Nat.not_lt_zero _)
theorem chance_nat {J : Jr} (hW : WJ J) {F w : Nat} {N : Mem} (hF : 100 ≤ F) (hJ : HX J N 3) (hw : w < 256) : f_X0_chanceOf F N (nI w) = some (nI (ch J w)) := by
  have h := chance_loop hW (F := F) hJ hw (nD J) 0 F (by omega) (by have := hW.2.1; omega)
  have e : cc J w 0 = 10000 := by unfold cc; rw [prT, unsTo]
  rw [e] at h
  exact h
def oddTo (J : Jr) (s : Nat) : Nat → Nat
  | 0 => 0
  | w + 1 => oddTo J s w + if (decide (0 < ch J w) && serves J s w) = true then ch J w else 0
def odd (J : Jr) (s : Nat) : Nat := oddTo J s (2 ^ nD J)
theorem odd_le {J : Jr} (hW : WJ J) {s : Nat} : ∀ w, oddTo J s w ≤ 10000 * w
  | 0 => Nat.le_refl _
  | w + 1 => by
    have h := odd_le hW (s := s) w
    have h2 := cc_le hW (w := w) (nD J) (Nat.le_refl _)
    have h2 : ch J w ≤ 10000 := h2
    unfold oddTo
    split <;> omega
theorem pow8 {J : Jr} (hW : WJ J) : 2 ^ nD J ≤ 256 := Nat.pow_le_pow_right (by decide) hW.2.1
theorem wea_nat {w : Nat} (h : w < 256) : wea (nI w) w := fun d hd => bit1' (by omega) (by omega)
def KF (N N' : Mem) : Prop := (∀ c, c < 17 ∨ 21 < c → c ≠ 26 → N'.1 c = N.1 c) ∧ ∀ c, c < 22 ∨ 24 < c → N'.2 c = N.2 c
theorem KF.refl {N : Mem} : KF N N := ⟨fun _ _ _ => rfl, fun _ _ => rfl⟩
theorem KF.trans {A B C : Mem} (h1 : KF A B) (h2 : KF B C) : KF A C := ⟨fun c a1 a2 => (h2.1 c a1 a2).trans (h1.1 c a1 a2), fun c a1 => (h2.2 c a1).trans (h1.2 c a1)⟩
theorem PF.kf {A B : Mem} (h : PF A B) : KF A B := ⟨fun c a _ => h.1 c a, h.2⟩
theorem HX.kf {J : Jr} {N N' : Mem} (h : HX J N 3) (f : KF N N') : HX J N' 3 := h.same (f.1 3 (by decide) (by decide)) (f.1 4 (by decide) (by decide)) (f.1 5 (by decide) (by decide)) (f.1 6 (by decide) (by decide))
/-- what the class knows of chances is right -/
def KN (J : Jr) (N : Mem) : Prop := ∀ s, s < 64 → N.1 26 s = nI (odd J s) ∨ N.1 26 s = -1
theorem KN.pf {J : Jr} {N N' : Mem} (h : KN J N) (f : PF N N') : KN J N' := fun s hs => by rw [f.1 26 (by decide)]; exact h s hs
theorem chances_loop {J : Jr} (hW : WJ J) {F s : Nat} (hF : 4100 ≤ F) (hs : s < 64) :
    ∀ (m w n : Nat) (N : Mem), w + m = 2 ^ nD J → m < n → HX J N 3 → KN J N →
      ∃ N', f_X0_chances_33 F n (nI s) (nI (oddTo J s w)) (nI w) N = some (nI (odd J s), N') ∧ KN J N' ∧ KF N N'
  | 0, w, n + 1, N, hw, _, hJ, hK => by
    have h8 := hW.2.1
    have h256 := pow8 hW
    have hww : w = 2 ^ nD J := by omega
    subst hww
    refine ⟨setI N 26 s (nI (odd J s)), ?_, fun q hq => ?_, fun c a1 a2 => setI_ne a2, fun _ _ => rfl⟩
    · rw [f_X0_chances_33, show f_X8_days N 3 = nI (nD J) from hJ.2.1]
      simp only [vlet]
      simp (disch := omega) only [lit, ltI, leI, eqI, addI, mulI, subI, clI, ckI, if_pos, if_neg, if_true, if_false, Option.bind_some, b2_0, b2_n0, b2_1, b2_n1, Bool.true_eq_false, Bool.false_eq_true, b2_t, b2_f, nI_shl, Nat.one_mul]
      rfl
    · by_cases e : q = s
      · subst e; exact Or.inl setI_at
      · rw [setI_nk e]; exact hK q hq
  | m + 1, w, n + 1, N, hw, hn, hJ, hK => by
    have h8 := hW.2.1
    have h256 := pow8 hW
    have hc : ch J w ≤ 10000 := cc_le hW (w := w) (nD J) (Nat.le_refl _)
    have ho := odd_le hW (s := s) w
    obtain ⟨N1, a1, a2, -, -⟩ := find_nat hW (F := F) (wea_nat (w := w) (by omega)) hF hs hJ
    have ih := chances_loop hW (F := F) hF hs m (w + 1) n
    unfold oddTo at ih
    rw [f_X0_chances_33, show f_X8_days N 3 = nI (nD J) from hJ.2.1, chance_nat hW (by omega) hJ (by omega)]
    simp (disch := omega) only [lit, ltI, leI, eqI, addI, mulI, subI, clI, ckI, if_pos, if_neg, if_true, if_false, Option.bind_some, b2_0, b2_n0, b2_1, b2_n1, Bool.true_eq_false, Bool.false_eq_true, b2_t, b2_f, nI_shl, Nat.one_mul]
    by_cases h0 : ch J w = 0
    · obtain ⟨N2, b1, b2', b3⟩ := ih N (by omega) (by omega) hJ hK
      refine ⟨N2, ?_, b2', b3⟩
      rw [h0] at b1 ⊢
      simp (disch := omega) only [lit, ltI, leI, eqI, addI, mulI, subI, clI, ckI, if_pos, if_neg, if_true, if_false, Option.bind_some, b2_0, b2_n0, b2_1, b2_n1, Bool.true_eq_false, Bool.false_eq_true, b2_t, b2_f]
      exact b1
    · obtain ⟨N2, b1, b2', b3⟩ := ih N1 (by omega) (by omega) (hJ.pf a2) (hK.pf a2)
      refine ⟨N2, ?_, b2', a2.kf.trans b3⟩
      simp (disch := omega) only [lit, ltI, leI, eqI, addI, mulI, subI, clI, ckI, if_pos, if_neg, if_true, if_false, Option.bind_some, b2_0, b2_n0, b2_1, b2_n1, Bool.true_eq_false, Bool.false_eq_true, b2_t, b2_f, h0, Nat.le_zero, a1]
      rw [show decide (0 < ch J w) = true from decide_eq_true (by omega), Bool.true_and] at b1
      cases hsv : serves J s w
      · rw [hsv] at b1
        simp (disch := omega) only [lit, ltI, leI, eqI, addI, mulI, subI, clI, ckI, if_pos, if_neg, if_true, if_false, Option.bind_some, b2_0, b2_n0, b2_1, b2_n1, Bool.true_eq_false, Bool.false_eq_true, b2_t, b2_f]
        exact b1
      · rw [hsv] at b1
        simp (disch := omega) only [lit, ltI, leI, eqI, addI, mulI, subI, clI, ckI, if_pos, if_neg, if_true, if_false, Option.bind_some, b2_0, b2_n0, b2_1, b2_n1, Bool.true_eq_false, Bool.false_eq_true, b2_t, b2_f]
        exact b1
  | _, _, 0, _, _, hn, _, _ => absurd hn (Nat.not_lt_zero _)
theorem odd_lt {J : Jr} (hW : WJ J) (s : Nat) : odd J s ≤ 2560000 := by
  have h := odd_le hW (s := s) (2 ^ nD J)
  have h2 := pow8 hW
  unfold odd
  omega
/-- the class's chances -/
theorem chances_nat {J : Jr} (hW : WJ J) {F s : Nat} {N : Mem} (hF : 4100 ≤ F) (hs : s < 64) (hJ : HX J N 3) (hK : KN J N) : ∃ N', f_X0_chances F N (nI s) = some (nI (odd J s), N') ∧ KN J N' ∧ KF N N' := by
  have ho := odd_lt hW s
  unfold f_X0_chances
  rcases hK s hs with h | h
  · refine ⟨N, ?_, hK, KF.refl⟩
    have hne : (nI (odd J s) = -nI 1) = False := neg1_ne (by omega)
    simp (disch := omega) only [lit, ltI, leI, eqI, addI, mulI, subI, clI, ckI, if_pos, if_neg, if_true, if_false, Option.bind_some, b2_0, b2_n0, b2_1, b2_n1, Bool.true_eq_false, Bool.false_eq_true, b2_t, b2_f, h, hne]
  · obtain ⟨N1, a1, a2, a3⟩ := chances_loop hW (F := F) hF hs (2 ^ nD J) 0 F N (by omega) (by have := pow8 hW; omega) hJ hK
    refine ⟨N1, ?_, a2, a3⟩
    have h : N.1 26 s = -nI 1 := h
    simp (disch := omega) only [lit, ltI, leI, eqI, addI, mulI, subI, clI, ckI, if_pos, if_neg, if_true, if_false, Option.bind_some, b2_0, b2_n0, b2_1, b2_n1, Bool.true_eq_false, Bool.false_eq_true, b2_t, b2_f, h]
    exact a1
