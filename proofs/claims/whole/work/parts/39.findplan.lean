-- part 39: the reference's servesFrom, isServing, findPlan
def anyB (J : Jr) (s w r d : Nat) (l : List Nat) : Bool := l.any (fun x => lives J s w r d x)
theorem anyB_iff {J : Jr} {s w r d : Nat} {l : List Nat} : anyB J s w r d l = true ↔ anyL J s w r d l := by
  unfold anyB anyL; rw [List.any_eq_true]
theorem anyB_day {J : Jr} (hW : WJ J) {s w r d : Nat} (hd : d < nD J) {l : List Nat} : anyB J s w r (d + 1) (dayL J s w d l) = anyB J s w (r + 1) d l := by
  rw [Bool.eq_iff_iff, anyB_iff, anyB_iff]; exact any_day hW hd
theorem serves_loop {J : Jr} (hW : WJ J) {F s w : Nat} {xw : Int32} (hw : wea xw w) (hF : 4100 ≤ F) (hs : s < 64) :
    ∀ (r d n S : Nat) (l : List Nat) (N : Mem), d + r = nD J → r < n → S + r < 2 ^ 31 → (∀ x ∈ l, okH J s x) → HJ J N → LST N l → STP N S →
      ∃ N' S', f_X10_servesFrom_9 F n (nI s) xw (nI d) N = some (b2 (anyB J s w r d l), N') ∧ STP N' S' ∧ S' ≤ S + r ∧ FS N N'
  | 0, d, n + 1, S, l, N, hd, _, hS, hl, hJ, h48, hst => by
    have h8 := hW.2.1
    have hll := h48.2.1
    refine ⟨N, S, ?_, hst, by omega, FS.refl⟩
    rw [f_X10_servesFrom_9]
    simp (disch := omega) only [lit, ltI, leI, eqI, addI, mulI, subI, clI, ckI, if_pos, if_neg, if_true, if_false, Option.bind_some, b2_0, b2_n0, b2_1, b2_n1, Bool.true_eq_false, Bool.false_eq_true, b2_t, b2_f, hJ.2.1, h48.1]
    cases l with
    | nil => rfl
    | cons a t =>
      rw [List.length_cons] at hll ⊢
      simp (disch := omega) only [lit, ltI, leI, eqI, addI, mulI, subI, clI, ckI, if_pos, if_neg, if_true, if_false, Option.bind_some, b2_0, b2_n0, b2_1, b2_n1, Bool.true_eq_false, Bool.false_eq_true, b2_t, b2_f]
      rfl
  | r + 1, d, n + 1, S, l, N, hd, hn, hS, hl, hJ, h48, hst => by
    have h8 := hW.2.1
    have hll := h48.2.1
    rw [f_X10_servesFrom_9]
    simp (disch := omega) only [lit, ltI, leI, eqI, addI, mulI, subI, clI, ckI, if_pos, if_neg, if_true, if_false, Option.bind_some, b2_0, b2_n0, b2_1, b2_n1, Bool.true_eq_false, Bool.false_eq_true, b2_t, b2_f, hJ.2.1, h48.1]
    cases l with
    | nil =>
      refine ⟨N, S, ?_, hst, by omega, FS.refl⟩
      rfl
    | cons a t =>
      obtain ⟨N1, a1, a2, a3, a4⟩ := goDay_nat hW (F := F) hw hF hs (show d < nD J by omega) hl (by omega) hJ h48 hst
      obtain ⟨N2, S2, b1, b2', b3, b4⟩ := serves_loop hW (F := F) hw hF hs r (d + 1) n (S + 1) _ N1 (by omega) (by omega) (by omega) (day_ok hW (by omega) hl) (hJ.fs a4) a2 a3
      refine ⟨N2, S2, ?_, b2', by omega, a4.trans b4⟩
      rw [List.length_cons] at hll ⊢
      simp (disch := omega) only [lit, ltI, leI, eqI, addI, mulI, subI, clI, ckI, if_pos, if_neg, if_true, if_false, Option.bind_some, b2_0, b2_n0, b2_1, b2_n1, Bool.true_eq_false, Bool.false_eq_true, b2_t, b2_f, a1]
      rw [b1, anyB_day hW (by omega)]
  | _, _, 0, _, _, _, _, hn, _, _, _, _, _ => absurd hn (Nat.not_lt_zero _)
theorem begin_nat {F x : Nat} {N : Mem} : ∃ N', f_X10_begin N (nI x) = some N' ∧ LST N' [x] ∧ FS N N' := by
  refine ⟨setI (setI N 48 0 (nI x)) 36 22 (nI 1), ?_, ⟨setI_at, by simp, fun j hj => ?_⟩, (FS.arr (by decide)).trans (FS.fld (by decide))⟩
  · unfold f_X10_begin
    simp only [vlet]
    simp (disch := omega) only [lit, ltI, leI, eqI, addI, mulI, subI, clI, ckI, if_pos, if_neg, if_true, if_false, Option.bind_some, b2_0, b2_n0, b2_1, b2_n1, Bool.true_eq_false, Bool.false_eq_true, b2_t, b2_f]
  · have : j = 0 := by simp at hj; omega
    subst this
    rw [setI_ne (by decide)]
    exact setI_at
theorem STP.fs {N N' : Mem} {S : Nat} (h : STP N S) (e1 : N'.1 36 23 = N.1 36 23) (e2 : N'.1 50 = N.1 50) : STP N' S := ⟨e1.trans h.1, fun j hj => by rw [e2]; exact h.2 j hj⟩
theorem begin_stp {N N' : Mem} {S x : Nat} (h : f_X10_begin N (nI x) = some N') (hst : STP N S) : STP N' S := by
  unfold f_X10_begin at h
  simp only [vlet] at h
  rw [if_pos (by decide)] at h
  cases h
  exact hst.fs (by rw [setI_nk (by decide), setI_ne (by decide)]) (by rw [setI_ne (by decide), setI_ne (by decide)])
theorem servesFrom_nat {J : Jr} (hW : WJ J) {F s w x d S : Nat} {xw : Int32} {N : Mem} (hw : wea xw w) (hF : 4100 ≤ F) (hs : s < 64) (hd : d ≤ nD J) (hx : okH J s x) (hS : S + 8 < 2 ^ 31) (hJ : HJ J N) (hst : STP N S) :
    ∃ N' S', f_X10_servesFrom F N (nI x) (nI s) xw (nI d) = some (b2 (lives J s w (nD J - d) d x), N') ∧ STP N' S' ∧ S' ≤ S + 8 ∧ FS N N' := by
  have h8 := hW.2.1
  obtain ⟨N1, a1, a2, a3⟩ := begin_nat (F := F) (x := x) (N := N)
  obtain ⟨N2, S2, b1, b2', b3, b4⟩ := serves_loop hW (F := F) hw hF hs (nD J - d) d F S [x] N1 (by omega) (by omega) (by omega) (fun y hy => by rw [List.mem_singleton.mp hy]; exact hx) (hJ.fs a3) a2 (begin_stp a1 hst)
  refine ⟨N2, S2, ?_, b2', by omega, a3.trans b4⟩
  unfold f_X10_servesFrom
  rw [a1, Option.bind_some, b1]
  simp [anyB]
def serves (J : Jr) (s w : Nat) : Bool := lives J s w (nD J) 0 0
theorem isServing_nat {J : Jr} (hW : WJ J) {F s w S : Nat} {xw : Int32} {N : Mem} (hw : wea xw w) (hF : 4100 ≤ F) (hs : s < 64) (hS : S + 8 < 2 ^ 31) (hJ : HJ J N) (hst : STP N S) :
    ∃ N' S', f_X10_isServing F N (nI s) xw = some (b2 (serves J s w), N') ∧ STP N' S' ∧ S' ≤ S + 8 ∧ FS N N' := by
  obtain ⟨N2, S2, b1, b2', b3, b4⟩ := servesFrom_nat hW (F := F) hw hF hs (Nat.zero_le _) (okH_0 (J := J) (s := s)) hS hJ hst
  refine ⟨N2, S2, ?_, b2', b3, b4⟩
  unfold f_X10_isServing
  have b1 : f_X10_servesFrom F N 0 (nI s) xw 0 = some (b2 (lives J s w (nD J - 0) 0 0), N2) := b1
  rw [b1, Option.bind_some]
  dsimp only
  rw [if_pos b2_and1]
  rfl
-- the first plan
theorem first_in {α : Type} {g : Nat → Option α} {b : α} {p n : Nat} (hp : p < n) (h : g p = some b) (h0 : ∀ q, q < p → g q = none) : (List.range n).findSome? g = some b := by
  obtain ⟨m, hm⟩ : ∃ m, n = p + (m + 1) := ⟨n - p - 1, by omega⟩
  rw [hm, List.range_add, List.findSome?_append]
  have h1 : (List.range p).findSome? g = none := by
    rw [List.findSome?_eq_none_iff]
    intro q hq
    exact h0 q (List.mem_range.mp hq)
  rw [h1, List.range_succ_eq_map]
  simp [h]
/-- the k-th choice of a day lives on -/
def goodK (J : Jr) (s w r d x k : Nat) : Bool := decide (k % 2 ≤ df J d 2) && okP J s d x (k / 2) && lives J s w r (d + 1) (nx J s w d x (k / 2) (k % 2))
theorem fp_first {J : Jr} (hW : WJ J) {s w r d x k : Nat} {l : List Nat} (hd : d < nD J) (hk : k < 72) (hg : goodK J s w r d x k = true) (h0 : ∀ q, q < k → goodK J s w r d x q = false) (hl : fp J s w r (d + 1) (nx J s w d x (k / 2) (k % 2)) = some l) : fp J s w (r + 1) d x = some (k :: l) := by
  have h2 := (hW.2.2.2.1 d hd).2.2.1
  unfold goodK at hg
  simp only [Bool.and_eq_true, decide_eq_true_eq] at hg
  rw [fp]
  refine first_in (p := k / 2) (by omega) ?_ (fun q hq => ?_)
  · rw [if_pos hg.1.2]
    unfold wsL
    rcases (by omega : k % 2 = 0 ∨ k % 2 = 1) with e | e
    · have e3 : 2 * (k / 2) + 0 = k := by omega
      rw [e] at hl
      split <;> simp [hl, e3] <;> omega
    · have e3 : 2 * (k / 2) + 1 = k := by omega
      rw [e] at hl
      have e4 : df J d 2 = 1 := by omega
      rw [if_pos e4]
      have h3 := h0 (k - 1) (by omega)
      unfold goodK at h3
      rw [show (k - 1) / 2 = k / 2 by omega, show (k - 1) % 2 = 0 by omega, hg.1.2] at h3
      simp only [Nat.zero_le, decide_true, Bool.true_and] at h3
      unfold lives at h3
      rw [Option.isSome_eq_false_iff, Option.isNone_iff_eq_none] at h3
      simp [hl, h3]
      omega
  · by_cases c : okP J s d x q = true
    · rw [if_pos c]
      have h3 := h0 (2 * q) (by omega)
      have h4 := h0 (2 * q + 1) (by omega)
      unfold goodK at h3 h4
      rw [show 2 * q / 2 = q by omega, show 2 * q % 2 = 0 by omega, c] at h3
      rw [show (2 * q + 1) / 2 = q by omega, show (2 * q + 1) % 2 = 1 by omega, c] at h4
      simp only [Nat.zero_le, decide_true, Bool.true_and] at h3
      unfold lives at h3 h4
      rw [Option.isSome_eq_false_iff, Option.isNone_iff_eq_none] at h3
      unfold wsL
      split
      · rename_i e
        rw [e] at h4
        simp only [Nat.le_refl, decide_true, Bool.true_and] at h4
        rw [Option.isSome_eq_false_iff, Option.isNone_iff_eq_none] at h4
        simp [h3, h4]
      · simp [h3]
    · rw [if_neg c]
theorem lives_good {J : Jr} (hW : WJ J) {s w r d x : Nat} (hd : d < nD J) (h : lives J s w (r + 1) d x = true) : ∃ k, k < 72 ∧ goodK J s w r d x k = true ∧ ∀ q, q < k → goodK J s w r d x q = false := by
  have h2 := (hW.2.2.2.1 d hd).2.2.1
  obtain ⟨p, hp, ho, c, hc, hl⟩ := lives_S.mp h
  have hc1 : c ≤ df J d 2 ∧ c ≤ 1 := by
    unfold wsL at hc
    split at hc
    · simp only [List.mem_cons, List.not_mem_nil, or_false] at hc; omega
    · simp only [List.mem_cons, List.not_mem_nil, or_false] at hc; omega
  have hex : ∃ k, goodK J s w r d x k = true := ⟨2 * p + c, by
    unfold goodK
    rw [show (2 * p + c) / 2 = p by omega, show (2 * p + c) % 2 = c by omega, ho, hl]
    simp; exact hc1.1⟩
  obtain ⟨k, hk, hm⟩ := pk_least (fun k => goodK J s w r d x k = true) hex
  refine ⟨k, ?_, hk, fun q hq => Bool.eq_false_iff.mpr (hm q hq)⟩
  unfold goodK okP suitP suitsB at hk
  simp only [Bool.and_eq_true, decide_eq_true_eq] at hk
  have h6 := hW.1
  have := hk.1.2.1.1.1.1.1.1.1.1.1.1.1
  omega
