-- part 55: calls: needless; the first day of a thing
theorem sub_bit {s k i : Nat} : (sub s k).testBit i = (s.testBit i && !k.testBit i) := by
  unfold sub
  rw [Nat.testBit_xor, Nat.testBit_and]
  cases s.testBit i <;> cases k.testBit i <;> rfl
theorem pow_or {acc i : Nat} : nI acc ||| nI (1 * 2 ^ i) = nI (acc ||| 2 ^ i) := by rw [Nat.one_mul, nI_or]
/-- a thing is on by the k-th choice -/
def hit (k i : Nat) : Bool := decide (k / 12 = i) || decide (k / 2 % 6 = i)
/-- the first of m days from d on a thing is on -/
def fdS (l : List Nat) (i : Nat) : Nat → Nat → Option Nat
  | 0, _ => none
  | m + 1, d => if hit (l.getD d 0) i = true then some d else fdS l i m (d + 1)
theorem fdS_lt {l : List Nat} {i : Nat} : ∀ (m d e : Nat), fdS l i m d = some e → e < d + m
  | 0, _, _, h => by cases h
  | m + 1, d, e, h => by
    unfold fdS at h
    split at h
    · cases h; omega
    · have := fdS_lt m (d + 1) e h
      omega
theorem fdS_S {l : List Nat} {i m d : Nat} : fdS l i (m + 1) d = if hit (l.getD d 0) i = true then some d else fdS l i m (d + 1) := rfl
def fdO : Option Nat → Int32
  | none => -1
  | some e => nI e
def fdN : Option Nat → Nat
  | none => 99
  | some e => e
def dI : Nat → Int32
  | 0 => -1
  | m + 1 => nI m
theorem dI_pred (m : Nat) : nI m + (-nI 1) = dI m := by
  cases m with
  | zero => rfl
  | succ m => exact pk_m1 m
section CALLS
variable {J : Jr} {F : Nat}
theorem fdX_loop (hW : WJ J) {l : List Nat} {i : Nat} {N : Mem} (hJ : HX J N 3) (hl : l.length = nD J) (h72 : ∀ k ∈ l, k < 72) (hp : PL N 0 l) (hi : i < 6) : ∀ (m d n : Nat), d + m = nD J → m < n → f_X5_firstDayOf_2 F N n (nI i) (nI d) = some (fdO (fdS l i m d))
  | 0, d, n + 1, hd, _ => by
    have h8 := hW.2.1
    rw [f_X5_firstDayOf_2, show f_X8_days N 3 = nI (nD J) from hJ.2.1]
    simp (disch := omega) only [lit, ltI, leI, eqI, addI, mulI, subI, clI, ckI, if_pos, if_neg, if_true, if_false, Option.bind_some, b2_0, b2_n0, b2_1, b2_n1, Bool.true_eq_false, Bool.false_eq_true, b2_t, b2_f]
    rfl
  | m + 1, d, n + 1, hd, hn => by
    have h8 := hW.2.1
    have ih := fdX_loop hW hJ hl h72 hp hi m (d + 1) n (by omega) (by omega)
    obtain ⟨p1, p2⟩ := hp d (by omega)
    rw [Nat.zero_add] at p1 p2
    have hk := h72 _ (getD_mem (l := l) (j := d) (by omega))
    rw [f_X5_firstDayOf_2, show f_X8_days N 3 = nI (nD J) from hJ.2.1]
    unfold f_X5_topOn f_X5_bottomOn fdS hit
    generalize l.getD d 0 = k at p1 p2 hk ⊢
    simp (disch := omega) only [lit, ltI, leI, eqI, addI, mulI, subI, clI, ckI, if_pos, if_neg, if_true, if_false, Option.bind_some, b2_0, b2_n0, b2_1, b2_n1, Bool.true_eq_false, Bool.false_eq_true, b2_t, b2_f, isDay_nat, p1, divI, k26, sub6']
    by_cases c1 : k / 12 = i
    · rw [decide_eq_true c1, Bool.true_or]
      simp (disch := omega) only [lit, ltI, leI, eqI, addI, mulI, subI, clI, ckI, if_pos, if_neg, if_true, if_false, Option.bind_some, b2_0, b2_n0, b2_1, b2_n1, Bool.true_eq_false, Bool.false_eq_true, b2_t, b2_f]
      rfl
    · by_cases c2 : k / 2 % 6 = i
      · rw [decide_eq_false c1, decide_eq_true c2, Bool.false_or]
        simp (disch := omega) only [lit, ltI, leI, eqI, addI, mulI, subI, clI, ckI, if_pos, if_neg, if_true, if_false, Option.bind_some, b2_0, b2_n0, b2_1, b2_n1, Bool.true_eq_false, Bool.false_eq_true, b2_t, b2_f]
        rfl
      · rw [decide_eq_false c1, decide_eq_false c2, Bool.false_or]
        simp (disch := omega) only [lit, ltI, leI, eqI, addI, mulI, subI, clI, ckI, if_pos, if_neg, if_true, if_false, Option.bind_some, b2_0, b2_n0, b2_1, b2_n1, Bool.true_eq_false, Bool.false_eq_true, b2_t, b2_f]
        exact ih
  | _, _, 0, _, hn => absurd hn (Nat.not_lt_zero _)
theorem fdX_nat (hW : WJ J) (hF : 4100 ≤ F) {l : List Nat} {i : Nat} {N : Mem} (hJ : HX J N 3) (hl : l.length = nD J) (h72 : ∀ k ∈ l, k < 72) (hp : PL N 0 l) (hi : i < 6) : f_X5_firstDayOf F N (nI i) = some (fdO (fdS l i (nD J) 0)) :=
  fdX_loop hW hJ hl h72 hp hi (nD J) 0 F (by omega) (by have := hW.2.1; omega)
theorem fdR_loop (hW : WJ J) {l : List Nat} {i : Nat} {N : Mem} (hl : l.length = nD J) (h72 : ∀ k ∈ l, k < 72) (hp : PA N l) (hi : i < 6) : ∀ (m n : Nat), m ≤ nD J → m < n → f_X10_firstDay_24 F N n (nI i) (nI (fdN (fdS l i (nD J - m) m))) (dI m) = some (nI (fdN (fdS l i (nD J) 0)))
  | 0, n + 1, _, _ => by
    rw [f_X10_firstDay_24, Nat.sub_zero]
    rfl
  | m + 1, n + 1, hm, hn => by
    have h8 := hW.2.1
    have ih := fdR_loop hW hl h72 hp hi m n (by omega) (by omega)
    obtain ⟨p1, p2, -⟩ := hp m (by omega)
    have hk := h72 _ (getD_mem (l := l) (j := m) (by omega))
    rw [show nD J - m = nD J - (m + 1) + 1 by omega] at ih
    rw [fdS_S] at ih
    unfold hit at ih
    rw [f_X10_firstDay_24, show dI (m + 1) = nI m from rfl]
    generalize l.getD m 0 = k at p1 p2 hk ih
    by_cases c1 : k / 12 = i
    · rw [decide_eq_true c1, Bool.true_or, if_pos rfl] at ih
      simp (disch := omega) only [lit, ltI, leI, eqI, addI, mulI, subI, clI, ckI, if_pos, if_neg, if_true, if_false, Option.bind_some, b2_0, b2_n0, b2_1, b2_n1, Bool.true_eq_false, Bool.false_eq_true, b2_t, b2_f, p1, p2, dI_pred]
      exact ih
    · by_cases c2 : k / 2 % 6 = i
      · rw [decide_eq_false c1, decide_eq_true c2, Bool.false_or, if_pos rfl] at ih
        simp (disch := omega) only [lit, ltI, leI, eqI, addI, mulI, subI, clI, ckI, if_pos, if_neg, if_true, if_false, Option.bind_some, b2_0, b2_n0, b2_1, b2_n1, Bool.true_eq_false, Bool.false_eq_true, b2_t, b2_f, p1, p2, dI_pred]
        exact ih
      · rw [decide_eq_false c1, decide_eq_false c2, Bool.false_or, if_neg (by decide)] at ih
        simp (disch := omega) only [lit, ltI, leI, eqI, addI, mulI, subI, clI, ckI, if_pos, if_neg, if_true, if_false, Option.bind_some, b2_0, b2_n0, b2_1, b2_n1, Bool.true_eq_false, Bool.false_eq_true, b2_t, b2_f, p1, p2, dI_pred]
        exact ih
  | _, 0, _, hn => absurd hn (Nat.not_lt_zero _)
theorem fdR_nat (hW : WJ J) (hF : 4100 ≤ F) {l : List Nat} {i : Nat} {N : Mem} (hJ : HJ J N) (hl : l.length = nD J) (h72 : ∀ k ∈ l, k < 72) (hp : PA N l) (hi : i < nT J) : f_X10_firstDay F N (nI i) = some (if isK J 2 i = true then 0 else nI (fdN (fdS l i (nD J) 0))) := by
  have h6 := hW.1
  have h8 := hW.2.1
  have ht := tf_le hW hi (k := 0) (by decide)
  have h := fdR_loop (F := F) hW hl h72 hp (i := i) (by omega) (nD J) F (Nat.le_refl _) (by omega)
  rw [Nat.sub_self] at h
  have h : f_X10_firstDay_24 F N F (nI i) (nI 99) (dI (nD J)) = some (nI (fdN (fdS l i (nD J) 0))) := h
  have e : nI (nD J) - nI 1 = dI (nD J) := by
    cases hn : nD J with
    | zero => rfl
    | succ m => exact subI (a := m + 1) (b := 1) (by omega)
  unfold f_X10_firstDay isK
  simp only [vlet]
  rw [lit 0, of_nat hJ hW hi (by decide)]
  by_cases c : tf J i 0 = 2
  · rw [decide_eq_true c]
    simp (disch := omega) only [lit, ltI, leI, eqI, addI, mulI, subI, clI, ckI, if_pos, if_neg, if_true, if_false, Option.bind_some, b2_0, b2_n0, b2_1, b2_n1, Bool.true_eq_false, Bool.false_eq_true, b2_t, b2_f]
  · rw [decide_eq_false c]
    simp (disch := omega) only [lit, ltI, leI, eqI, addI, mulI, subI, clI, ckI, if_pos, if_neg, if_true, if_false, Option.bind_some, b2_0, b2_n0, b2_1, b2_n1, Bool.true_eq_false, Bool.false_eq_true, b2_t, b2_f, hJ.2.1, e]
    exact h
def ndl (J : Jr) (s w q : Nat) (l : List Nat) (i : Nat) : Bool := s.testBit i && (if q = 0 then serves J (sub s (2 ^ i)) w else !isK J 2 i && (fdS l i (nD J) 0).isNone)
theorem bitsTo_lt64 (hW : WJ J) (f : Nat → Bool) {i : Nat} (hi : i ≤ nT J) : bitsTo f i < 64 := Nat.lt_of_lt_of_le (bitsTo_lt f i) (Nat.pow_le_pow_right (by decide) (by have := hW.1; omega) : 2 ^ i ≤ 2 ^ 6)
theorem bitsTo_S {f : Nat → Bool} {n : Nat} : bitsTo f (n + 1) = bitsTo f n ||| (if f n = true then 2 ^ n else 0) := rfl
theorem spX_loop (hW : WJ J) {s w : Nat} {l : List Nat} {xw : Int32} (hw : wea xw w) (hF : 4100 ≤ F) (hs : s < 64) :
    ∀ (m i n : Nat) (N : Mem), i + m = nT J → m < n → HX J N 3 →
      ∃ N', f_X0_spares_5 F n (nI s) xw (nI (bitsTo (ndl J s w 0 l) i)) (nI i) N = some (nI (bitsTo (ndl J s w 0 l) (nT J)), N') ∧ PF N N'
  | 0, i, n + 1, N, hi, _, hJ => by
    have h6 := hW.1
    have hii : i = nT J := by omega
    subst hii
    refine ⟨N, ?_, PF.refl⟩
    rw [f_X0_spares_5, show f_X8_things N 3 = nI (nT J) from hJ.1]
    simp (disch := omega) only [lit, ltI, leI, eqI, addI, mulI, subI, clI, ckI, if_pos, if_neg, if_true, if_false, Option.bind_some, b2_0, b2_n0, b2_1, b2_n1, Bool.true_eq_false, Bool.false_eq_true, b2_t, b2_f]
  | m + 1, i, n + 1, N, hi, hn, hJ => by
    have h6 := hW.1
    have hl2 := sub_lt (k := 2 ^ i) hs
    have ih := spX_loop hW (l := l) hw hF hs m (i + 1) n
    rw [bitsTo_S] at ih
    rw [f_X0_spares_5, show f_X8_things N 3 = nI (nT J) from hJ.1]
    simp only [vlet]
    unfold ndl at ih ⊢
    rw [if_pos rfl] at ih
    cases hb : s.testBit i
    · rw [hb, Bool.false_and, if_neg (by decide), Nat.or_zero] at ih
      obtain ⟨N2, b1, b2'⟩ := ih N (by omega) (by omega) hJ
      refine ⟨N2, ?_, b2'⟩
      simp (disch := omega) only [lit, ltI, leI, eqI, addI, mulI, subI, clI, ckI, if_pos, if_neg, if_true, if_false, Option.bind_some, b2_0, b2_n0, b2_1, b2_n1, Bool.true_eq_false, Bool.false_eq_true, b2_t, b2_f, has_nat, hb]
      exact b1
    · obtain ⟨N1, a1, a2, -, -⟩ := find_nat hW (F := F) hw hF hl2 hJ
      rw [hb, Bool.true_and] at ih
      cases hsv : serves J (sub s (2 ^ i)) w
      · rw [hsv, if_neg (by decide), Nat.or_zero] at ih
        obtain ⟨N2, b1, b2'⟩ := ih N1 (by omega) (by omega) (hJ.pf a2)
        refine ⟨N2, ?_, a2.trans b2'⟩
        rw [hsv] at a1
        simp (disch := omega) only [lit, ltI, leI, eqI, addI, mulI, subI, clI, ckI, if_pos, if_neg, if_true, if_false, Option.bind_some, b2_0, b2_n0, b2_1, b2_n1, Bool.true_eq_false, Bool.false_eq_true, b2_t, b2_f, has_nat, hb, nI_shl, Nat.one_mul, subI_nat, a1]
        exact b1
      · rw [hsv, if_pos rfl] at ih
        obtain ⟨N2, b1, b2'⟩ := ih N1 (by omega) (by omega) (hJ.pf a2)
        refine ⟨N2, ?_, a2.trans b2'⟩
        rw [hsv] at a1
        simp (disch := omega) only [lit, ltI, leI, eqI, addI, mulI, subI, clI, ckI, if_pos, if_neg, if_true, if_false, Option.bind_some, b2_0, b2_n0, b2_1, b2_n1, Bool.true_eq_false, Bool.false_eq_true, b2_t, b2_f, has_nat, hb, nI_shl, Nat.one_mul, subI_nat, a1, nI_or]
        exact b1
  | _, _, 0, _, _, hn, _ => absurd hn (Nat.not_lt_zero _)
theorem nvX_loop (hW : WJ J) {s w : Nat} {l : List Nat} {N : Mem} (hF : 4100 ≤ F) (hs : s < 64) (hJ : HX J N 3) (hl : l.length = nD J) (h72 : ∀ k ∈ l, k < 72) (hp : PL N 0 l) :
    ∀ (m i n : Nat), i + m = nT J → m < n → f_X5_neverOn_4 F N n (nI s) (nI (bitsTo (ndl J s w 1 l) i)) (nI i) = some (nI (bitsTo (ndl J s w 1 l) (nT J)))
  | 0, i, n + 1, hi, _ => by
    have h6 := hW.1
    have hii : i = nT J := by omega
    subst hii
    rw [f_X5_neverOn_4, show f_X8_things N 3 = nI (nT J) from hJ.1]
    simp (disch := omega) only [lit, ltI, leI, eqI, addI, mulI, subI, clI, ckI, if_pos, if_neg, if_true, if_false, Option.bind_some, b2_0, b2_n0, b2_1, b2_n1, Bool.true_eq_false, Bool.false_eq_true, b2_t, b2_f]
  | m + 1, i, n + 1, hi, hn => by
    have h6 := hW.1
    have h8 := hW.2.1
    have hl2 := sub_lt (k := coatsB J) hs
    have ih := nvX_loop hW (w := w) hF hs hJ hl h72 hp m (i + 1) n (by omega) (by omega)
    rw [bitsTo_S] at ih
    have hfd := fdX_nat hW hF hJ hl h72 hp (i := i) (by omega)
    have hbit : (sub s (coatsB J)).testBit i = (s.testBit i && !isK J 2 i) := by
      rw [sub_bit, coats_bit]
      rw [show decide (i < nT J) = true from decide_eq_true (by omega), Bool.true_and]
    rw [f_X5_neverOn_4, show f_X8_things N 3 = nI (nT J) from hJ.1, show f_X8_coats N 3 = nI (coatsB J) from hJ.2.2.2.2.2.1]
    simp only [vlet]
    have hg : ndl J s w 1 l i = ((s.testBit i && !isK J 2 i) && (fdS l i (nD J) 0).isNone) := by
      unfold ndl
      rw [if_neg (by decide), Bool.and_assoc]
    rw [hg] at ih
    cases hb : (s.testBit i && !isK J 2 i)
    · rw [hb, Bool.false_and, if_neg (by decide), Nat.or_zero] at ih
      simp (disch := omega) only [lit, ltI, leI, eqI, addI, mulI, subI, clI, ckI, if_pos, if_neg, if_true, if_false, Option.bind_some, b2_0, b2_n0, b2_1, b2_n1, Bool.true_eq_false, Bool.false_eq_true, b2_t, b2_f, subI_nat, has_nat, hbit, hb]
      exact ih
    · rw [hb, Bool.true_and] at ih
      cases he : fdS l i (nD J) 0 with
      | none =>
        rw [he] at ih hfd
        rw [show (none : Option Nat).isNone = true from rfl, if_pos rfl] at ih
        have hneg : ¬ (nI 0 ≤ fdO none) := by decide
        simp (disch := omega) only [lit, ltI, leI, eqI, addI, mulI, subI, clI, ckI, if_pos, if_neg, if_true, if_false, Option.bind_some, b2_0, b2_n0, b2_1, b2_n1, Bool.true_eq_false, Bool.false_eq_true, b2_t, b2_f, subI_nat, has_nat, hbit, hb, hfd, hneg, nI_shl, Nat.one_mul, nI_or]
        exact ih
      | some e =>
        have := fdS_lt _ _ _ he
        rw [he] at ih hfd
        rw [show (some e).isNone = false from rfl, if_neg (by decide), Nat.or_zero] at ih
        have hpos : nI 0 ≤ fdO (some e) := by
          show nI 0 ≤ nI e
          rw [leI (by omega) (by omega)]
          omega
        simp (disch := omega) only [lit, ltI, leI, eqI, addI, mulI, subI, clI, ckI, if_pos, if_neg, if_true, if_false, Option.bind_some, b2_0, b2_n0, b2_1, b2_n1, Bool.true_eq_false, Bool.false_eq_true, b2_t, b2_f, subI_nat, has_nat, hbit, hb, hfd, hpos]
        exact ih
  | _, _, 0, _, hn => absurd hn (Nat.not_lt_zero _)
end CALLS
