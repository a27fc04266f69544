-- part 54: calls: desk
def bcT (k : Nat) : Nat → Nat
  | 0 => 0
  | i + 1 => bcT k i + if k.testBit i then 1 else 0
def bc (k : Nat) : Nat := bcT k 6
theorem bcT_le (k : Nat) : ∀ i, bcT k i ≤ i
  | 0 => Nat.le_refl _
  | i + 1 => by
    have := bcT_le k i
    unfold bcT
    split <;> omega
theorem bc_le (k : Nat) : bc k ≤ 6 := bcT_le k 6
theorem bitC0 : ∀ k, k < 64 → f_J6_bitCount_0f7a4 M0 (nI k) = nI (bc k) := by decide +kernel
theorem bitC {M : Mem} {k : Nat} (h : k < 64) : f_J6_bitCount_0f7a4 M (nI k) = nI (bc k) := bitC0 k h
theorem bitsIn_loop {F k : Nat} {M : Mem} (hk : k < 64) : ∀ (m i n : Nat), i + m = 6 → m < n → f_X10_bitsIn_4 F M n (nI k) (nI (bcT k i)) (nI i) = some (nI (bc k))
  | 0, i, n + 1, hi, _ => by
    have : i = 6 := by omega
    subst this
    rw [f_X10_bitsIn_4]
    simp (disch := omega) only [lit, ltI, leI, eqI, addI, mulI, subI, clI, ckI, if_pos, if_neg, if_true, if_false, Option.bind_some, b2_0, b2_n0, b2_1, b2_n1, Bool.true_eq_false, Bool.false_eq_true, b2_t, b2_f]
    rfl
  | m + 1, i, n + 1, hi, hn => by
    have hl := bcT_le k i
    have ih := bitsIn_loop (F := F) (M := M) hk m (i + 1) n (by omega) (by omega)
    unfold bcT at ih
    rw [f_X10_bitsIn_4]
    simp only [vlet]
    simp (disch := omega) only [lit, ltI, leI, eqI, addI, mulI, subI, clI, ckI, if_pos, if_neg, if_true, if_false, Option.bind_some, b2_0, b2_n0, b2_1, b2_n1, Bool.true_eq_false, Bool.false_eq_true, b2_t, b2_f, bit1]
    have e : nI (bcT k i) + b2 (k.testBit i) = nI (bcT k i + if k.testBit i then 1 else 0) := by
      cases k.testBit i
      · exact addI _ 0
      · exact addI _ 1
    rw [e]
    exact ih
  | _, _, 0, _, hn => absurd hn (Nat.not_lt_zero _)
theorem bitsIn_nat {F k : Nat} {M : Mem} (hF : 100 ≤ F) (hk : k < 64) : f_X10_bitsIn F M (nI k) = some (nI (bc k)) := bitsIn_loop hk 6 0 F rfl (by omega)
theorem betO_stop {v : Nat → Nat} {g : Nat → Bool} {a : Nat} : ∀ m, (∀ k, a ≤ k → k < a + m → g k = false) → betO v g (a + m) = betO v g a
  | 0, _ => rfl
  | m + 1, h => by
    have ih := betO_stop (v := v) m (fun k h1 h2 => h k h1 (by omega))
    have hg := h (a + m) (by omega) (by omega)
    rw [← Nat.add_assoc, betO_S, ih, hg]
    cases betO v g a <;> simp
theorem xor_0 {a b : Nat} (h : a ^^^ b = 0) : a = b := by
  have := congrArg (fun x => x ^^^ b) h
  simp only [Nat.xor_assoc, Nat.xor_self, Nat.xor_zero, Nat.zero_xor] at this
  exact this
section CALLS
variable {J : Jr} {F : Nat}
def sub (s k : Nat) : Nat := s ^^^ (s &&& k)
theorem sub_lt {s k : Nat} (h : s < 64) : sub s k < 64 := Nat.xor_lt_two_pow (n := 6) h (Nat.lt_of_le_of_lt Nat.and_le_left h)
def dsg (J : Jr) (s w lim k : Nat) : Bool := decide (sub k s = 0) && (decide (sm J (sub s k) 4 ≤ lim) && serves J (sub s k) w)
def dsO (J : Jr) (s w lim : Nat) : Nat → Option Nat := betO bc (dsg J s w lim)
theorem dsO_S {s w lim k : Nat} : dsO J s w lim (k + 1) = match dsO J s w lim k with
    | none => if dsg J s w lim k = true then some k else none
    | some b => if bc k < bc b ∧ dsg J s w lim k = true then some k else some b := rfl
def dsv : Option Nat → Nat
  | none => 7
  | some b => bc b
theorem dsO_all {s w lim n : Nat} (hs : s < n) : dsO J s w lim n = dsO J s w lim (s + 1) := by
  obtain ⟨m, rfl⟩ : ∃ m, n = s + 1 + m := ⟨n - (s + 1), by omega⟩
  refine betO_stop m (fun k h1 _ => ?_)
  unfold dsg
  have : sub k s ≠ 0 := by
    intro e
    have e := xor_0 e
    have := Nat.and_le_right (n := k) (m := s)
    omega
  rw [decide_eq_false this]
  rfl
theorem subI_nat {a b : Nat} : nI a &&& (nI b ^^^ -nI 1) = nI (sub a b) := nI_andn1 a b
theorem deskX_loop (hW : WJ J) {s w lim : Nat} {xw : Int32} (hw : wea xw w) (hF : 4100 ≤ F) (hs : s < 64) (hlim : lim < 2 ^ 31) :
    ∀ (m k n : Nat) (N : Mem), k + m = 2 ^ nT J → m < n → HX J N 3 →
      ∃ N', f_X0_takenOff_11 F n (nI s) xw (nI lim) (nO (dsO J s w lim k)) (nI (dsv (dsO J s w lim k))) (nI k) N = some (nO (dsO J s w lim (2 ^ nT J)), N') ∧ PF N N'
  | 0, k, n + 1, N, hk, _, hJ => by
    have h64 := pow6 hW
    have hkk : k = 2 ^ nT J := by omega
    refine ⟨N, ?_, PF.refl⟩
    rw [f_X0_takenOff_11, allX_nat hJ hW]
    simp only [all_lt hW (show k ≤ 64 by omega)]
    rw [if_pos (by omega), hkk]
  | m + 1, k, n + 1, N, hk, hn, hJ => by
    have h64 := pow6 hW
    have hk64 : k < 64 := by omega
    have hl1 := sub_lt (k := s) hk64
    have hl2 := sub_lt (k := k) hs
    have hsm := sm_lt hW (s := sub s k) (k := 4) (by decide)
    have hbc := bc_le k
    obtain ⟨N1, a1, a2, -, -⟩ := find_nat hW (F := F) hw hF hl2 hJ
    have ih := deskX_loop hW hw hF hs hlim m (k + 1) n
    have hS := dsO_S (J := J) (s := s) (w := w) (lim := lim) (k := k)
    have hsum := sumX_nat hW (F := F) (s := sub s k) (k := 4) (N := N) (o := 3) (by omega) hJ hl2 (by decide)
    have hno : dsg J s w lim k = false → dsO J s w lim (k + 1) = dsO J s w lim k := by
      intro hg
      rw [hS, hg]
      cases dsO J s w lim k <;> simp
    rw [f_X0_takenOff_11, allX_nat hJ hW]
    simp only [all_lt hW (show k ≤ 64 by omega)]
    rw [if_neg (by omega)]
    unfold f_X0_takenOff_59
    by_cases c0 : sub k s = 0
    · by_cases c1 : sm J (sub s k) 4 ≤ lim
      · have hg : dsg J s w lim k = serves J (sub s k) w := by
          unfold dsg
          rw [decide_eq_true c0, decide_eq_true c1, Bool.true_and, Bool.true_and]
        rw [hg] at hS
        by_cases c2 : bc k < dsv (dsO J s w lim k)
        · have hS2 : dsO J s w lim (k + 1) = if serves J (sub s k) w = true then some k else dsO J s w lim k := by
            rw [hS]
            cases hl : dsO J s w lim k with
            | none => rfl
            | some b =>
              rw [hl] at c2
              have c2 : bc k < bc b := c2
              simp [c2]
          have h7 : dsv (dsO J s w lim k) ≤ 7 := by
            cases dsO J s w lim k with
            | none => exact Nat.le_refl _
            | some b => have := bc_le b; show bc b ≤ 7; omega
          cases hsv : serves J (sub s k) w
          · rw [hsv, if_neg (by decide)] at hS2
            rw [hS2] at ih
            obtain ⟨N2, b1, b2'⟩ := ih N1 (by omega) (by omega) (hJ.pf a2)
            refine ⟨N2, ?_, a2.trans b2'⟩
            rw [hsv] at a1
            simp (disch := omega) only [lit, ltI, leI, eqI, addI, mulI, subI, clI, ckI, if_pos, if_neg, if_true, if_false, Option.bind_some, b2_0, b2_n0, b2_1, b2_n1, Bool.true_eq_false, Bool.false_eq_true, b2_t, b2_f, subI_nat, hsum, bitC, a1]
            exact b1
          · rw [hsv, if_pos rfl] at hS2
            rw [hS2] at ih
            obtain ⟨N2, b1, b2'⟩ := ih N1 (by omega) (by omega) (hJ.pf a2)
            refine ⟨N2, ?_, a2.trans b2'⟩
            rw [hsv] at a1
            simp (disch := omega) only [lit, ltI, leI, eqI, addI, mulI, subI, clI, ckI, if_pos, if_neg, if_true, if_false, Option.bind_some, b2_0, b2_n0, b2_1, b2_n1, Bool.true_eq_false, Bool.false_eq_true, b2_t, b2_f, subI_nat, hsum, bitC, a1]
            exact b1
        · have hS2 : dsO J s w lim (k + 1) = dsO J s w lim k := by
            rw [hS]
            cases hl : dsO J s w lim k with
            | none =>
              rw [hl] at c2
              exact absurd (show bc k < 7 by omega) c2
            | some b =>
              rw [hl] at c2
              have c2 : ¬ bc k < bc b := c2
              simp [c2]
          have h7 : dsv (dsO J s w lim k) ≤ 7 := by
            cases dsO J s w lim k with
            | none => exact Nat.le_refl _
            | some b => have := bc_le b; show bc b ≤ 7; omega
          rw [hS2] at ih
          obtain ⟨N2, b1, b2'⟩ := ih N (by omega) (by omega) hJ
          refine ⟨N2, ?_, b2'⟩
          simp (disch := omega) only [lit, ltI, leI, eqI, addI, mulI, subI, clI, ckI, if_pos, if_neg, if_true, if_false, Option.bind_some, b2_0, b2_n0, b2_1, b2_n1, Bool.true_eq_false, Bool.false_eq_true, b2_t, b2_f, subI_nat, hsum, bitC]
          exact b1
      · have hg : dsg J s w lim k = false := by
          unfold dsg
          rw [decide_eq_false c1]
          simp
        rw [hno hg] at ih
        obtain ⟨N2, b1, b2'⟩ := ih N (by omega) (by omega) hJ
        refine ⟨N2, ?_, b2'⟩
        simp (disch := omega) only [lit, ltI, leI, eqI, addI, mulI, subI, clI, ckI, if_pos, if_neg, if_true, if_false, Option.bind_some, b2_0, b2_n0, b2_1, b2_n1, Bool.true_eq_false, Bool.false_eq_true, b2_t, b2_f, subI_nat, hsum]
        exact b1
    · have hg : dsg J s w lim k = false := by
        unfold dsg
        rw [decide_eq_false c0]
        rfl
      rw [hno hg] at ih
      obtain ⟨N2, b1, b2'⟩ := ih N (by omega) (by omega) hJ
      refine ⟨N2, ?_, b2'⟩
      simp (disch := omega) only [lit, ltI, leI, eqI, addI, mulI, subI, clI, ckI, if_pos, if_neg, if_true, if_false, Option.bind_some, b2_0, b2_n0, b2_1, b2_n1, Bool.true_eq_false, Bool.false_eq_true, b2_t, b2_f, subI_nat]
      exact b1
  | _, _, 0, _, _, hn, _ => absurd hn (Nat.not_lt_zero _)
theorem deskR_loop (hW : WJ J) {s w lim : Nat} {xw : Int32} (hw : wea xw w) (hF : 4100 ≤ F) (hs : s < 64) (hlim : lim < 2 ^ 31) :
    ∀ (m k n S : Nat) (N : Mem), k + m = s + 1 → m < n → S + 8 * m < 2 ^ 31 → HJ J N → STP N S → N.1 43 0 = nI lim →
      ∃ N' S', f_X10_desk_14 F n xw (nI s) (nO (dsO J s w lim k)) (nI k) N = some (nO (dsO J s w lim (s + 1)), N') ∧ STP N' S' ∧ S' ≤ S + 8 * m ∧ FS N N'
  | 0, k, n + 1, S, N, hk, _, hS, hJ, hst, h43 => by
    have hkk : k = s + 1 := by omega
    refine ⟨N, S, ?_, hst, by omega, FS.refl⟩
    rw [f_X10_desk_14, hkk]
    simp (disch := omega) only [lit, ltI, leI, eqI, addI, mulI, subI, clI, ckI, if_pos, if_neg, if_true, if_false, Option.bind_some, b2_0, b2_n0, b2_1, b2_n1, Bool.true_eq_false, Bool.false_eq_true, b2_t, b2_f]
  | m + 1, k, n + 1, S, N, hk, hn, hS, hJ, hst, h43 => by
    have hk64 : k < 64 := by omega
    have hl1 := sub_lt (k := s) hk64
    have hl2 := sub_lt (k := k) hs
    have hsm := sm_lt hW (s := sub s k) (k := 4) (by decide)
    have hbc := bc_le k
    obtain ⟨N1, S1, a1, a2, a3, a4⟩ := isServing_nat hW (F := F) (S := S) hw hF hl2 (by omega) hJ hst
    have ih := deskR_loop hW hw hF hs hlim m (k + 1) n
    have hS' := dsO_S (J := J) (s := s) (w := w) (lim := lim) (k := k)
    have hsum := sumR_nat hW (F := F) (s := sub s k) (k := 4) (N := N) (by omega) hJ hl2 (by decide)
    have hbk := bitsIn_nat (F := F) (M := N) (k := k) (by omega) hk64
    have h431 : N1.1 43 0 = nI lim := by rw [a4.1 43 (by decide) (by decide) (by decide) (by decide) (by decide)]; exact h43
    have hno : dsg J s w lim k = false → dsO J s w lim (k + 1) = dsO J s w lim k := by
      intro hg
      rw [hS', hg]
      cases dsO J s w lim k <;> simp
    rw [f_X10_desk_14]
    unfold f_X10_desk_54
    by_cases c0 : sub k s = 0
    · by_cases c2 : bc k < dsv (dsO J s w lim k)
      · have hfewer : ∀ (A B : Option (Int32 × Mem)), (if nO (dsO J s w lim k) = -nI 9 then A else (f_X10_bitsIn F N (nI k)).bind fun x4 => (f_X10_bitsIn F N (nO (dsO J s w lim k))).bind fun x6 => if x6 ≤ x4 then B else A) = A := by
          intro A B
          cases hl : dsO J s w lim k with
          | none => rfl
          | some b =>
            rw [hl] at c2
            have c2 : bc k < bc b := c2
            have hb := betO_lt _ b hl
            have hbb := bc_le b
            have hbs := bitsIn_nat (F := F) (M := N) (k := b) (by omega) (by omega)
            simp (disch := omega) only [lit, ltI, leI, eqI, addI, mulI, subI, clI, ckI, if_pos, if_neg, if_true, if_false, Option.bind_some, b2_0, b2_n0, b2_1, b2_n1, Bool.true_eq_false, Bool.false_eq_true, b2_t, b2_f, nO_some, neg9, hbk, hbs]
        by_cases c1 : sm J (sub s k) 4 ≤ lim
        · have hg : dsg J s w lim k = serves J (sub s k) w := by
            unfold dsg
            rw [decide_eq_true c0, decide_eq_true c1, Bool.true_and, Bool.true_and]
          rw [hg] at hS'
          have hS2 : dsO J s w lim (k + 1) = if serves J (sub s k) w = true then some k else dsO J s w lim k := by
            rw [hS']
            cases hl : dsO J s w lim k with
            | none => rfl
            | some b =>
              rw [hl] at c2
              have c2 : bc k < bc b := c2
              simp [c2]
          cases hsv : serves J (sub s k) w
          · rw [hsv, if_neg (by decide)] at hS2
            rw [hS2] at ih
            obtain ⟨N2, S2, b1, b2', b3, b4⟩ := ih S1 N1 (by omega) (by omega) (by omega) (hJ.fs a4) a2 h431
            refine ⟨N2, S2, ?_, b2', by omega, a4.trans b4⟩
            rw [hsv] at a1
            simp (disch := omega) only [lit, ltI, leI, eqI, addI, mulI, subI, clI, ckI, if_pos, if_neg, if_true, if_false, Option.bind_some, b2_0, b2_n0, b2_1, b2_n1, Bool.true_eq_false, Bool.false_eq_true, b2_t, b2_f, subI_nat, hfewer, hsum, h43, a1]
            exact b1
          · rw [hsv, if_pos rfl] at hS2
            rw [hS2] at ih
            obtain ⟨N2, S2, b1, b2', b3, b4⟩ := ih S1 N1 (by omega) (by omega) (by omega) (hJ.fs a4) a2 h431
            refine ⟨N2, S2, ?_, b2', by omega, a4.trans b4⟩
            rw [hsv] at a1
            simp (disch := omega) only [lit, ltI, leI, eqI, addI, mulI, subI, clI, ckI, if_pos, if_neg, if_true, if_false, Option.bind_some, b2_0, b2_n0, b2_1, b2_n1, Bool.true_eq_false, Bool.false_eq_true, b2_t, b2_f, subI_nat, hfewer, hsum, h43, a1]
            exact b1
        · have hg : dsg J s w lim k = false := by
            unfold dsg
            rw [decide_eq_false c1]
            simp
          rw [hno hg] at ih
          obtain ⟨N2, S2, b1, b2', b3, b4⟩ := ih S N (by omega) (by omega) (by omega) hJ hst h43
          refine ⟨N2, S2, ?_, b2', by omega, b4⟩
          simp (disch := omega) only [lit, ltI, leI, eqI, addI, mulI, subI, clI, ckI, if_pos, if_neg, if_true, if_false, Option.bind_some, b2_0, b2_n0, b2_1, b2_n1, Bool.true_eq_false, Bool.false_eq_true, b2_t, b2_f, subI_nat, hfewer, hsum, h43]
          exact b1
      · have hS2 : dsO J s w lim (k + 1) = dsO J s w lim k := by
          rw [hS']
          cases hl : dsO J s w lim k with
          | none =>
            rw [hl] at c2
            exact absurd (show bc k < 7 by omega) c2
          | some b =>
            rw [hl] at c2
            have c2 : ¬ bc k < bc b := c2
            simp [c2]
        have hfewer : ∀ (A B : Option (Int32 × Mem)), (if nO (dsO J s w lim k) = -nI 9 then A else (f_X10_bitsIn F N (nI k)).bind fun x4 => (f_X10_bitsIn F N (nO (dsO J s w lim k))).bind fun x6 => if x6 ≤ x4 then B else A) = B := by
          intro A B
          cases hl : dsO J s w lim k with
          | none =>
            rw [hl] at c2
            exact absurd (show bc k < 7 by omega) c2
          | some b =>
            rw [hl] at c2
            have c2 : ¬ bc k < bc b := c2
            have hb := betO_lt _ b hl
            have hbb := bc_le b
            have hbs := bitsIn_nat (F := F) (M := N) (k := b) (by omega) (by omega)
            simp (disch := omega) only [lit, ltI, leI, eqI, addI, mulI, subI, clI, ckI, if_pos, if_neg, if_true, if_false, Option.bind_some, b2_0, b2_n0, b2_1, b2_n1, Bool.true_eq_false, Bool.false_eq_true, b2_t, b2_f, nO_some, neg9, hbk, hbs]
        rw [hS2] at ih
        obtain ⟨N2, S2, b1, b2', b3, b4⟩ := ih S N (by omega) (by omega) (by omega) hJ hst h43
        refine ⟨N2, S2, ?_, b2', by omega, b4⟩
        simp (disch := omega) only [lit, ltI, leI, eqI, addI, mulI, subI, clI, ckI, if_pos, if_neg, if_true, if_false, Option.bind_some, b2_0, b2_n0, b2_1, b2_n1, Bool.true_eq_false, Bool.false_eq_true, b2_t, b2_f, subI_nat, hfewer]
        exact b1
    · have hg : dsg J s w lim k = false := by
        unfold dsg
        rw [decide_eq_false c0]
        rfl
      rw [hno hg] at ih
      obtain ⟨N2, S2, b1, b2', b3, b4⟩ := ih S N (by omega) (by omega) (by omega) hJ hst h43
      refine ⟨N2, S2, ?_, b2', by omega, b4⟩
      simp (disch := omega) only [lit, ltI, leI, eqI, addI, mulI, subI, clI, ckI, if_pos, if_neg, if_true, if_false, Option.bind_some, b2_0, b2_n0, b2_1, b2_n1, Bool.true_eq_false, Bool.false_eq_true, b2_t, b2_f, subI_nat]
      exact b1
  | _, _, 0, _, _, _, hn, _, _, _, _ => absurd hn (Nat.not_lt_zero _)
/-- as ClsOK and RefOK, with the desk's limit -/
theorem desk_pair (hW : WJ J) (hF : 4100 ≤ F) {lim : Nat} (hlim : lim < 2 ^ 31) (a1 a2 : Int32) : ∃ v, (∀ N, HX J N 3 → N.1 35 0 = nI lim → ∃ N', f_X9_desk F N a1 a2 = some (v, N') ∧ PF N N') ∧ (∀ N S, HJ J N → STP N S → S + 131072 < 2 ^ 31 → N.1 43 0 = nI lim → ∃ N' S', f_X10_desk F N a1 a2 = some (v, N') ∧ STP N' S' ∧ S' ≤ S + 131072 ∧ FR N N') := by
  have h64 := pow6 hW
  have hs := st_lt hW a1
  have hst2 : st J a1 < 2 ^ nT J := Nat.mod_lt _ (Nat.two_pow_pos _)
  refine ⟨nO (dsO J (st J a1) (wt a2) lim (2 ^ nT J)), fun N hJ h35 => ?_, fun N S hJ hst hS h43 => ?_⟩
  · obtain ⟨N1, a, b⟩ := deskX_loop hW (F := F) (wea_any a2) hF hs hlim (2 ^ nT J) 0 F N (by omega) (by omega) hJ
    refine ⟨N1, ?_, b⟩
    unfold f_X9_desk f_X0_takenOff
    have a : f_X0_takenOff_11 F F (nI (st J a1)) a2 (nI lim) (-9 : Int32) (7 : Int32) (0 : Int32) N = some (nO (dsO J (st J a1) (wt a2) lim (2 ^ nT J)), N1) := a
    rw [if_pos (by decide), show (0 : Int32).toNatClampNeg = 0 from rfl, h35, allX_nat hJ hW, st_and, a, Option.bind_some]
  · obtain ⟨N1, S1, a, b, c, d⟩ := deskR_loop hW (F := F) (wea_any a2) hF hs hlim (st J a1 + 1) 0 F S N (by omega) (by omega) (by omega) hJ hst h43
    refine ⟨N1, S1, ?_, b, by omega, d.fr⟩
    unfold f_X10_desk
    rw [allR_nat hJ hW, Option.bind_some, st_and, dsO_all hst2]
    exact a
end CALLS
