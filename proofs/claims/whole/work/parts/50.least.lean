-- part 50: sums, the least set
theorem tf_le {J : Jr} (hW : WJ J) {i k : Nat} (hi : i < nT J) (hk : k < 8) : tf J i k ≤ 99 := by
  have h := hW.2.2.1 i hi
  rcases (by omega : k = 0 ∨ k = 1 ∨ k = 2 ∨ k = 3 ∨ k = 4 ∨ k = 5 ∨ k = 6 ∨ k = 7) with rfl | rfl | rfl | rfl | rfl | rfl | rfl | rfl <;> omega
theorem sumTo_le {J : Jr} (hW : WJ J) {s k : Nat} (hk : k < 8) : ∀ n, n ≤ nT J → sumTo J s k n ≤ 99 * n
  | 0, _ => Nat.le_refl _
  | n + 1, h => by
    have ih := sumTo_le hW (s := s) hk n (by omega)
    have := tf_le hW (show n < nT J by omega) hk
    unfold sumTo
    split <;> omega
def sm (J : Jr) (s k : Nat) : Nat := sumTo J s k (nT J)
theorem sm_lt {J : Jr} (hW : WJ J) {s k : Nat} (hk : k < 8) : sm J s k < 600 := by
  have h := sumTo_le hW (s := s) hk (nT J) (Nat.le_refl _)
  have := hW.1
  unfold sm
  omega
theorem sumX_loop {J : Jr} (hW : WJ J) {F s k o : Nat} {N : Mem} (hJ : HX J N o) (hs : s < 64) (hk : k < 8) : ∀ (m i n : Nat), i + m = nT J → m < n → f_X8_sum_5 F N o n (nI s) (nI k) (nI (sumTo J s k i)) (nI i) = some (nI (sm J s k))
  | 0, i, n + 1, hi, _ => by
    have h6 := hW.1
    have hii : i = nT J := by omega
    subst hii
    rw [f_X8_sum_5, hJ.1]
    simp (disch := omega) only [lit, ltI, leI, eqI, addI, mulI, subI, clI, ckI, if_pos, if_neg, if_true, if_false, Option.bind_some, b2_0, b2_n0, b2_1, b2_n1, Bool.true_eq_false, Bool.false_eq_true, b2_t, b2_f]
    rfl
  | m + 1, i, n + 1, hi, hn => by
    have h6 := hW.1
    have hl := sumTo_le hW (s := s) hk i (by omega)
    have ht := tf_le hW (show i < nT J by omega) hk
    have ih := sumX_loop hW (F := F) hJ hs hk m (i + 1) n (by omega) (by omega)
    unfold sumTo at ih
    rw [f_X8_sum_5, hJ.1, fact_nat hJ hW (show i < nT J by omega) hk]
    simp (disch := omega) only [lit, ltI, leI, eqI, addI, mulI, subI, clI, ckI, if_pos, if_neg, if_true, if_false, Option.bind_some, b2_0, b2_n0, b2_1, b2_n1, Bool.true_eq_false, Bool.false_eq_true, b2_t, b2_f, has_nat]
    cases hb : s.testBit i
    · rw [hb] at ih
      simp (disch := omega) only [lit, ltI, leI, eqI, addI, mulI, subI, clI, ckI, if_pos, if_neg, if_true, if_false, Option.bind_some, b2_0, b2_n0, b2_1, b2_n1, Bool.true_eq_false, Bool.false_eq_true, b2_t, b2_f]
      exact ih
    · rw [hb] at ih
      simp (disch := omega) only [lit, ltI, leI, eqI, addI, mulI, subI, clI, ckI, if_pos, if_neg, if_true, if_false, Option.bind_some, b2_0, b2_n0, b2_1, b2_n1, Bool.true_eq_false, Bool.false_eq_true, b2_t, b2_f]
      exact ih
  | _, _, 0, _, hn => absurd hn (Nat.not_lt_zero _)
theorem sumX_nat {J : Jr} (hW : WJ J) {F s k o : Nat} {N : Mem} (hF : 100 ≤ F) (hJ : HX J N o) (hs : s < 64) (hk : k < 8) : f_X8_sum F N o (nI s) (nI k) = some (nI (sm J s k)) :=
  sumX_loop hW (F := F) hJ hs hk (nT J) 0 F (by omega) (by have := hW.1; omega)
theorem sumR_loop {J : Jr} (hW : WJ J) {F s k : Nat} {N : Mem} (hJ : HJ J N) (hs : s < 64) (hk : k < 8) : ∀ (m i n : Nat), i + m = nT J → m < n → f_X10_sumOf_5 F N n (nI s) (nI k) (nI (sumTo J s k i)) (nI i) = some (nI (sm J s k))
  | 0, i, n + 1, hi, _ => by
    have h6 := hW.1
    have hii : i = nT J := by omega
    subst hii
    rw [f_X10_sumOf_5]
    simp (disch := omega) only [lit, ltI, leI, eqI, addI, mulI, subI, clI, ckI, if_pos, if_neg, if_true, if_false, Option.bind_some, b2_0, b2_n0, b2_1, b2_n1, Bool.true_eq_false, Bool.false_eq_true, b2_t, b2_f, hJ.1]
    rfl
  | m + 1, i, n + 1, hi, hn => by
    have h6 := hW.1
    have hl := sumTo_le hW (s := s) hk i (by omega)
    have ht := tf_le hW (show i < nT J by omega) hk
    have ih := sumR_loop hW (F := F) hJ hs hk m (i + 1) n (by omega) (by omega)
    unfold sumTo at ih
    rw [f_X10_sumOf_5, of_nat hJ hW (show i < nT J by omega) hk]
    simp (disch := omega) only [lit, ltI, leI, eqI, addI, mulI, subI, clI, ckI, if_pos, if_neg, if_true, if_false, Option.bind_some, b2_0, b2_n0, b2_1, b2_n1, Bool.true_eq_false, Bool.false_eq_true, b2_t, b2_f, hJ.1, isOf_nat]
    cases hb : s.testBit i
    · rw [hb] at ih
      simp (disch := omega) only [lit, ltI, leI, eqI, addI, mulI, subI, clI, ckI, if_pos, if_neg, if_true, if_false, Option.bind_some, b2_0, b2_n0, b2_1, b2_n1, Bool.true_eq_false, Bool.false_eq_true, b2_t, b2_f]
      exact ih
    · rw [hb] at ih
      simp (disch := omega) only [lit, ltI, leI, eqI, addI, mulI, subI, clI, ckI, if_pos, if_neg, if_true, if_false, Option.bind_some, b2_0, b2_n0, b2_1, b2_n1, Bool.true_eq_false, Bool.false_eq_true, b2_t, b2_f]
      exact ih
  | _, _, 0, _, hn => absurd hn (Nat.not_lt_zero _)
theorem sumR_nat {J : Jr} (hW : WJ J) {F s k : Nat} {N : Mem} (hF : 100 ≤ F) (hJ : HJ J N) (hs : s < 64) (hk : k < 8) : f_X10_sumOf F N (nI s) (nI k) = some (nI (sm J s k)) :=
  sumR_loop hW (F := F) hJ hs hk (nT J) 0 F (by omega) (by have := hW.1; omega)
/-- none is -9 -/
def nO : Option Nat → Int32
  | none => -9
  | some b => nI b
theorem neg9 {n : Nat} (h : n < 2 ^ 31) : (nI n = -nI 9) = False := by
  apply eq_false
  intro e
  have h1 := congrArg Int32.toInt e
  rw [nI_toInt h] at h1
  have h2 : (-nI 9).toInt = -9 := by decide
  omega
theorem nO_none : nO none = -nI 9 := rfl
theorem nO_some {b : Nat} : nO (some b) = nI b := rfl
/-- the better of what was found and s: g s is whether s is good, v its value -/
def betO (v : Nat → Nat) (g : Nat → Bool) : Nat → Option Nat
  | 0 => none
  | s + 1 => match betO v g s with
    | none => if g s = true then some s else none
    | some b => if v s < v b ∧ g s = true then some s else some b
theorem betO_lt {v : Nat → Nat} {g : Nat → Bool} : ∀ s b, betO v g s = some b → b < s
  | 0, b, h => by cases h
  | s + 1, b, h => by
    unfold betO at h
    cases hb : betO v g s with
    | none =>
      rw [hb] at h
      dsimp only at h
      split at h
      · cases h; omega
      · cases h
    | some b' =>
      rw [hb] at h
      dsimp only at h
      have := betO_lt s b' hb
      split at h
      · cases h; omega
      · cases h; omega
theorem pow6 {J : Jr} (hW : WJ J) : 2 ^ nT J ≤ 64 := Nat.pow_le_pow_right (by decide) hW.1
theorem all_lt {J : Jr} (hW : WJ J) {s : Nat} (hs : s ≤ 64) : (nI (allB J) < nI s) = (2 ^ nT J ≤ s) := by
  have h := pow6 hW
  have h0 := Nat.two_pow_pos (nT J)
  unfold allB
  rw [ltI (by omega) (by omega)]
  exact propext (by omega)
def lst (J : Jr) (e k : Nat) : Nat → Option Nat := betO (fun s => sm J s k) (fun s => decide (e ≤ odd J s))
def lsv (J : Jr) (k : Nat) : Option Nat → Nat
  | none => 1000
  | some b => sm J b k
theorem lsX_loop {J : Jr} (hW : WJ J) {F e k : Nat} (hF : 4100 ≤ F) (he : e ≤ 10000) (hk : k < 8) :
    ∀ (m s n : Nat) (N : Mem), s + m = 2 ^ nT J → m < n → HX J N 3 → KN J N →
      ∃ N', f_X0_smallest_11 F n (nI e) (nI k) (nO (lst J e k s)) (nI (lsv J k (lst J e k s))) (nI s) N = some (nO (lst J e k (2 ^ nT J)), N') ∧ KN J N' ∧ KF N N'
  | 0, s, n + 1, N, hs, _, hJ, hK => by
    have h64 := pow6 hW
    have hss : s = 2 ^ nT J := by omega
    refine ⟨N, ?_, hK, KF.refl⟩
    rw [f_X0_smallest_11, allX_nat hJ hW]
    simp only [all_lt hW (show s ≤ 64 by omega)]
    rw [if_pos (by omega), hss]
  | m + 1, s, n + 1, N, hs, hn, hJ, hK => by
    have h64 := pow6 hW
    have hsm := sm_lt hW (s := s) hk
    have hod := odd_lt hW s
    obtain ⟨N1, a1, a2, a3⟩ := chances_nat hW (F := F) hF (show s < 64 by omega) hJ hK
    have ih := lsX_loop hW (F := F) hF he hk m (s + 1) n
    rw [f_X0_smallest_11, allX_nat hJ hW]
    simp only [all_lt hW (show s ≤ 64 by omega)]
    rw [if_neg (by omega), sumX_nat hW (by omega) hJ (by omega) hk]
    have hstep : lst J e k (s + 1) = match lst J e k s with
      | none => if decide (e ≤ odd J s) = true then some s else none
      | some b => if sm J s k < sm J b k ∧ decide (e ≤ odd J s) = true then some s else some b := rfl
    cases hl : lst J e k s with
    | none =>
      rw [hl] at hstep
      dsimp only at hstep
      have : lsv J k none = 1000 := rfl
      rw [this]
      by_cases c : e ≤ odd J s
      · rw [if_pos (decide_eq_true c)] at hstep
        rw [hstep] at ih
        obtain ⟨N2, b1, b2', b3⟩ := ih N1 (by omega) (by omega) (hJ.kf a3) a2
        refine ⟨N2, ?_, b2', a3.trans b3⟩
        simp (disch := omega) only [lit, ltI, leI, eqI, addI, mulI, subI, clI, ckI, if_pos, if_neg, if_true, if_false, Option.bind_some, b2_0, b2_n0, b2_1, b2_n1, Bool.true_eq_false, Bool.false_eq_true, b2_t, b2_f, a1]
        exact b1
      · rw [if_neg (by rw [decide_eq_true_eq]; exact c)] at hstep
        rw [hstep] at ih
        obtain ⟨N2, b1, b2', b3⟩ := ih N1 (by omega) (by omega) (hJ.kf a3) a2
        refine ⟨N2, ?_, b2', a3.trans b3⟩
        simp (disch := omega) only [lit, ltI, leI, eqI, addI, mulI, subI, clI, ckI, if_pos, if_neg, if_true, if_false, Option.bind_some, b2_0, b2_n0, b2_1, b2_n1, Bool.true_eq_false, Bool.false_eq_true, b2_t, b2_f, a1]
        exact b1
    | some b =>
      rw [hl] at hstep
      dsimp only at hstep
      have hbm := sm_lt hW (s := b) hk
      have : lsv J k (some b) = sm J b k := rfl
      rw [this]
      by_cases c1 : sm J s k < sm J b k
      · by_cases c : e ≤ odd J s
        · rw [if_pos ⟨c1, decide_eq_true c⟩] at hstep
          rw [hstep] at ih
          obtain ⟨N2, b1, b2', b3⟩ := ih N1 (by omega) (by omega) (hJ.kf a3) a2
          refine ⟨N2, ?_, b2', a3.trans b3⟩
          simp (disch := omega) only [lit, ltI, leI, eqI, addI, mulI, subI, clI, ckI, if_pos, if_neg, if_true, if_false, Option.bind_some, b2_0, b2_n0, b2_1, b2_n1, Bool.true_eq_false, Bool.false_eq_true, b2_t, b2_f, a1]
          exact b1
        · rw [if_neg (by rintro ⟨-, h⟩; exact c (of_decide_eq_true h))] at hstep
          rw [hstep] at ih
          obtain ⟨N2, b1, b2', b3⟩ := ih N1 (by omega) (by omega) (hJ.kf a3) a2
          refine ⟨N2, ?_, b2', a3.trans b3⟩
          simp (disch := omega) only [lit, ltI, leI, eqI, addI, mulI, subI, clI, ckI, if_pos, if_neg, if_true, if_false, Option.bind_some, b2_0, b2_n0, b2_1, b2_n1, Bool.true_eq_false, Bool.false_eq_true, b2_t, b2_f, a1]
          exact b1
      · rw [if_neg (by rintro ⟨h, -⟩; exact c1 h)] at hstep
        rw [hstep] at ih
        obtain ⟨N2, b1, b2', b3⟩ := ih N (by omega) (by omega) hJ hK
        refine ⟨N2, ?_, b2', b3⟩
        simp (disch := omega) only [lit, ltI, leI, eqI, addI, mulI, subI, clI, ckI, if_pos, if_neg, if_true, if_false, Option.bind_some, b2_0, b2_n0, b2_1, b2_n1, Bool.true_eq_false, Bool.false_eq_true, b2_t, b2_f]
        exact b1
  | _, _, 0, _, _, hn, _, _ => absurd hn (Nat.not_lt_zero _)
theorem lsR_loop {J : Jr} (hW : WJ J) {F h k : Nat} (hF : 4100 ≤ F) (he : h ≤ 1000) (hk : k < 8) :
    ∀ (m s n S : Nat) (N : Mem), s + m = 2 ^ nT J → m < n → S + 2048 * m < 2 ^ 31 → HJ J N → STP N S →
      ∃ N' S', f_X10_least_39 F n (nI h) (nI k) (nO (lst J (10 * h) k s)) (nI s) N = some (nO (lst J (10 * h) k (2 ^ nT J)), N') ∧ STP N' S' ∧ S' ≤ S + 2048 * m ∧ FS N N'
  | 0, s, n + 1, S, N, hs, _, hS, hJ, hst => by
    have h64 := pow6 hW
    have hss : s = 2 ^ nT J := by omega
    refine ⟨N, S, ?_, hst, by omega, FS.refl⟩
    rw [f_X10_least_39, allR_nat hJ hW, Option.bind_some]
    simp only [all_lt hW (show s ≤ 64 by omega)]
    rw [if_pos (by omega), hss]
  | m + 1, s, n + 1, S, N, hs, hn, hS, hJ, hst => by
    have h64 := pow6 hW
    have hsm := sm_lt hW (s := s) hk
    have hod := odd_lt hW s
    have hS' : S + 2048 * m + 2048 < 2 ^ 31 := by rw [Nat.mul_succ, ← Nat.add_assoc] at hS; exact hS
    have hS1 : S + 2048 < 2 ^ 31 := Nat.lt_of_le_of_lt (Nat.add_le_add_right (Nat.le_add_right S _) 2048) hS'
    obtain ⟨N1, S1, a1, a2, a3, a4⟩ := oddsR_nat hW (F := F) (S := S) hF (show s < 64 by omega) hS1 hJ hst
    have ih := lsR_loop hW (F := F) hF he hk m (s + 1) n
    rw [f_X10_least_39, allR_nat hJ hW, Option.bind_some]
    simp only [all_lt hW (show s ≤ 64 by omega)]
    rw [if_neg (by omega)]
    unfold f_X10_least_77
    have hstep : lst J (10 * h) k (s + 1) = match lst J (10 * h) k s with
      | none => if decide (10 * h ≤ odd J s) = true then some s else none
      | some b => if sm J s k < sm J b k ∧ decide (10 * h ≤ odd J s) = true then some s else some b := rfl
    cases hl : lst J (10 * h) k s with
    | none =>
      rw [hl] at hstep
      dsimp only at hstep
      by_cases c : 10 * h ≤ odd J s
      · rw [if_pos (decide_eq_true c)] at hstep
        rw [hstep] at ih
        obtain ⟨N2, S2, b1, b2', b3, b4⟩ := ih S1 N1 (by omega) (by omega) (by omega) (hJ.fs a4) a2
        refine ⟨N2, S2, ?_, b2', by omega, a4.trans b4⟩
        simp (disch := omega) only [lit, ltI, leI, eqI, addI, mulI, subI, clI, ckI, if_pos, if_neg, if_true, if_false, Option.bind_some, b2_0, b2_n0, b2_1, b2_n1, Bool.true_eq_false, Bool.false_eq_true, b2_t, b2_f, a1, nO_none]
        exact b1
      · rw [if_neg (by rw [decide_eq_true_eq]; exact c)] at hstep
        rw [hstep] at ih
        obtain ⟨N2, S2, b1, b2', b3, b4⟩ := ih S1 N1 (by omega) (by omega) (by omega) (hJ.fs a4) a2
        refine ⟨N2, S2, ?_, b2', by omega, a4.trans b4⟩
        simp (disch := omega) only [lit, ltI, leI, eqI, addI, mulI, subI, clI, ckI, if_pos, if_neg, if_true, if_false, Option.bind_some, b2_0, b2_n0, b2_1, b2_n1, Bool.true_eq_false, Bool.false_eq_true, b2_t, b2_f, a1, nO_none]
        exact b1
    | some b =>
      rw [hl] at hstep
      dsimp only at hstep
      have hb := betO_lt s b hl
      have hbm := sm_lt hW (s := b) hk
      by_cases c1 : sm J s k < sm J b k
      · by_cases c : 10 * h ≤ odd J s
        · rw [if_pos ⟨c1, decide_eq_true c⟩] at hstep
          rw [hstep] at ih
          obtain ⟨N2, S2, b1, b2', b3, b4⟩ := ih S1 N1 (by omega) (by omega) (by omega) (hJ.fs a4) a2
          refine ⟨N2, S2, ?_, b2', by omega, a4.trans b4⟩
          simp (disch := omega) only [lit, ltI, leI, eqI, addI, mulI, subI, clI, ckI, if_pos, if_neg, if_true, if_false, Option.bind_some, b2_0, b2_n0, b2_1, b2_n1, Bool.true_eq_false, Bool.false_eq_true, b2_t, b2_f, a1, nO_some, neg9, sumR_nat hW (F := F) (s := s) (k := k) (N := N) (by omega) hJ (by omega) hk, sumR_nat hW (F := F) (s := b) (k := k) (N := N) (by omega) hJ (by omega) hk]
          exact b1
        · rw [if_neg (by rintro ⟨-, h⟩; exact c (of_decide_eq_true h))] at hstep
          rw [hstep] at ih
          obtain ⟨N2, S2, b1, b2', b3, b4⟩ := ih S1 N1 (by omega) (by omega) (by omega) (hJ.fs a4) a2
          refine ⟨N2, S2, ?_, b2', by omega, a4.trans b4⟩
          simp (disch := omega) only [lit, ltI, leI, eqI, addI, mulI, subI, clI, ckI, if_pos, if_neg, if_true, if_false, Option.bind_some, b2_0, b2_n0, b2_1, b2_n1, Bool.true_eq_false, Bool.false_eq_true, b2_t, b2_f, a1, nO_some, neg9, sumR_nat hW (F := F) (s := s) (k := k) (N := N) (by omega) hJ (by omega) hk, sumR_nat hW (F := F) (s := b) (k := k) (N := N) (by omega) hJ (by omega) hk]
          exact b1
      · rw [if_neg (by rintro ⟨h, -⟩; exact c1 h)] at hstep
        rw [hstep] at ih
        obtain ⟨N2, S2, b1, b2', b3, b4⟩ := ih S N (by omega) (by omega) (by omega) hJ hst
        refine ⟨N2, S2, ?_, b2', by omega, b4⟩
        simp (disch := omega) only [lit, ltI, leI, eqI, addI, mulI, subI, clI, ckI, if_pos, if_neg, if_true, if_false, Option.bind_some, b2_0, b2_n0, b2_1, b2_n1, Bool.true_eq_false, Bool.false_eq_true, b2_t, b2_f, nO_some, neg9, sumR_nat hW (F := F) (s := s) (k := k) (N := N) (by omega) hJ (by omega) hk, sumR_nat hW (F := F) (s := b) (k := k) (N := N) (by omega) hJ (by omega) hk]
        exact b1
  | _, _, 0, _, _, _, hn, _, _, _ => absurd hn (Nat.not_lt_zero _)
