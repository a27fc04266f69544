-- part 99d: pack: the reference's troubles, the call
def sR (f : Nat → Nat → Nat) (i : Nat) : Nat → Nat
  | 0 => 0
  | n + 1 => sR f i n + f i n
def sC (f : Nat → Nat → Nat) (j : Nat) : Nat → Nat
  | 0 => 0
  | n + 1 => sC f j n + f n j
def sQ (f : Nat → Nat → Nat) (n : Nat) : Nat → Nat
  | 0 => 0
  | m + 1 => sQ f n m + sR f m n
def sL (f : Nat → Nat → Nat) : Nat → Nat
  | 0 => 0
  | n + 1 => sL f n + (sR f n n + sC f n n + f n n)
theorem sQ_col {f : Nat → Nat → Nat} {n : Nat} : ∀ m, sQ f (n + 1) m = sQ f n m + sC f n m
  | 0 => rfl
  | m + 1 => by
    have ih := sQ_col (f := f) (n := n) m
    have e1 : sQ f (n + 1) (m + 1) = sQ f (n + 1) m + sR f m (n + 1) := rfl
    have e2 : sR f m (n + 1) = sR f m n + f m n := rfl
    have e3 : sQ f n (m + 1) = sQ f n m + sR f m n := rfl
    have e4 : sC f n (m + 1) = sC f n m + f m n := rfl
    omega
theorem sQ_sq {f : Nat → Nat → Nat} : ∀ n, sQ f n n = sL f n
  | 0 => rfl
  | n + 1 => by
    have ih := sQ_sq (f := f) n
    have e1 : sQ f (n + 1) (n + 1) = sQ f (n + 1) n + sR f n (n + 1) := rfl
    have e2 : sR f n (n + 1) = sR f n n + f n n := rfl
    have e3 : sL f (n + 1) = sL f n + (sR f n n + sC f n n + f n n) := rfl
    have e4 := sQ_col (f := f) (n := n) n
    omega
section PK
variable {J : Jr} {s L D : Nat} {fd : Nat → Nat} {F : Nat}
def qB (s : Nat) (fd : Nat → Nat) (c i j : Nat) : Bool := s.testBit i && (s.testBit j && (decide (ly s c j < ly s c i) && decide (fd j < fd i)))
def qN (s : Nat) (fd : Nat → Nat) (c i j : Nat) : Nat := if qB s fd c i j = true then 1 else 0
theorem pr_qN {c i j : Nat} (hb : s.testBit i = true) : (if prB s fd c i j = true then 1 else 0) = qN s fd c i j + qN s fd c j i := by
  have hx : ¬ (decide (ly s c j < ly s c i) = true ∧ decide (ly s c i < ly s c j) = true) := by
    rw [decide_eq_true_eq, decide_eq_true_eq]
    omega
  unfold qN qB prB
  rw [hb, Bool.decide_and, Bool.decide_and]
  generalize decide (ly s c j < ly s c i) = p at hx ⊢
  generalize decide (ly s c i < ly s c j) = q at hx ⊢
  generalize decide (fd j < fd i) = r
  generalize decide (fd i < fd j) = t
  cases s.testBit j <;> cases p <;> cases q <;> cases r <;> cases t <;> first | rfl | exact absurd ⟨rfl, rfl⟩ hx
theorem t1_q {c i : Nat} (hb : s.testBit i = true) : ∀ n, t1 s fd c i n = sR (qN s fd c) i n + sC (qN s fd c) i n
  | 0 => rfl
  | n + 1 => by
    have ih := t1_q (c := c) hb n
    have e1 : sR (qN s fd c) i (n + 1) = sR (qN s fd c) i n + qN s fd c i n := rfl
    have e2 : sC (qN s fd c) i (n + 1) = sC (qN s fd c) i n + qN s fd c n i := rfl
    rw [t1_S, pr_qN hb, ih]
    omega
theorem q_no {c i : Nat} (hb : s.testBit i = false) : ∀ n, sR (qN s fd c) i n = 0 ∧ sC (qN s fd c) i n = 0
  | 0 => ⟨rfl, rfl⟩
  | n + 1 => by
    have ih := q_no (c := c) hb n
    have e1 : sR (qN s fd c) i (n + 1) = sR (qN s fd c) i n + qN s fd c i n := rfl
    have e2 : sC (qN s fd c) i (n + 1) = sC (qN s fd c) i n + qN s fd c n i := rfl
    have z1 : qN s fd c i n = 0 := by unfold qN qB; rw [hb, Bool.false_and]; rfl
    have z2 : qN s fd c n i = 0 := by unfold qN qB; rw [hb, Bool.false_and, Bool.and_false]; rfl
    omega
theorem q_diag {c i : Nat} : qN s fd c i i = 0 := by
  unfold qN qB
  rw [decide_eq_false (Nat.lt_irrefl _), Bool.false_and, Bool.and_false, Bool.and_false]
  rfl
theorem tt_q {c : Nat} : ∀ n, tt s fd c n = sL (qN s fd c) n
  | 0 => rfl
  | n + 1 => by
    have ih := tt_q (c := c) n
    have e : sL (qN s fd c) (n + 1) = sL (qN s fd c) n + (sR (qN s fd c) n n + sC (qN s fd c) n n + qN s fd c n n) := rfl
    rw [tt_S, ih, e, q_diag]
    cases hb : s.testBit n
    · have := q_no (fd := fd) (c := c) hb n
      rw [this.1, this.2, if_neg (by decide)]
    · rw [if_pos rfl, t1_q hb]
      rfl
theorem tt_top (hsT : ∀ j, s.testBit j = true → j < nT J) (h6 : nT J ≤ 6) {c : Nat} : tt s fd c 6 = tt s fd c (nT J) := by
  have : ∀ m, tt s fd c (nT J + m) = tt s fd c (nT J) := by
    intro m
    induction m with
    | zero => rfl
    | succ m ihm =>
      rw [← Nat.add_assoc, tt_S, ihm, if_neg (fun z => by have := hsT _ z; omega), Nat.add_zero]
  have h := this (6 - nT J)
  rwa [show nT J + (6 - nT J) = 6 by omega] at h
theorem sR_le {c i : Nat} : ∀ n, sR (qN s fd c) i n ≤ n
  | 0 => Nat.le_refl _
  | n + 1 => by
    have ih := sR_le (c := c) (i := i) n
    have e1 : sR (qN s fd c) i (n + 1) = sR (qN s fd c) i n + qN s fd c i n := rfl
    have : qN s fd c i n ≤ 1 := by unfold qN; split <;> decide
    omega
theorem sQ_le {c n : Nat} : ∀ m, sQ (qN s fd c) n m ≤ n * m
  | 0 => Nat.le_refl _
  | m + 1 => by
    have ih := sQ_le (c := c) (n := n) m
    have e1 : sQ (qN s fd c) n (m + 1) = sQ (qN s fd c) n m + sR (qN s fd c) m n := rfl
    have := sR_le (s := s) (fd := fd) (c := c) (i := m) n
    rw [Nat.mul_succ]
    omega
theorem fd_R (hW : WJ J) (hF : 4100 ≤ F) {l : List Nat} {i : Nat} {N : Mem} (hJ : HJ J N) (hl : l.length = nD J) (h72 : ∀ k ∈ l, k < 72) (hp : PA N l) (hi : i < nT J) : f_X10_firstDay F N (nI i) = some (nI (fdP J l i)) := by
  rw [fdR_nat hW hF hJ hl h72 hp hi]
  unfold fdP
  rw [coats_bit, decide_eq_true hi, Bool.true_and]
  split <;> rfl
theorem tr17_loop (hW : WJ J) (hs : s < 64) (hF : 4100 ≤ F) {l : List Nat} {N : Mem} (hJ : HJ J N) (hl : l.length = nD J) (h72 : ∀ k ∈ l, k < 72) (hp : PA N l) {c i x : Nat} (hi : i < nT J) (hx : x ≤ 100) (h55 : ∀ j, j < 6 → s.testBit j = true → N.1 55 j = nI (ly s c j)) {K : Int32 → Int32 → Int32 → Option Int32} :
    ∀ (m j n : Nat), j + m = nT J → m < n → f_X10_troubles_17 F N K n (nI s) (nI (x + sR (qN s (fdP J l) c) i j)) (nI i) (nI j) = K (nI s) (nI (x + sR (qN s (fdP J l) c) i (nT J))) (nI (i + 1))
  | 0, j, n + 1, hj, _ => by
    have h6 := hW.1
    have hjj : j = nT J := by omega
    subst hjj
    have e38 : N.1 38 0 = nI (nT J) := hJ.1
    rw [f_X10_troubles_17]
    simp (disch := omega) only [lit, ltI, leI, eqI, addI, mulI, subI, clI, ckI, if_pos, if_neg, if_true, if_false, Option.bind_some, b2_0, b2_n0, b2_1, b2_n1, Bool.true_eq_false, Bool.false_eq_true, b2_t, b2_f, e38]
  | m + 1, j, n + 1, hj, hn => by
    have h6 := hW.1
    have e38 : N.1 38 0 = nI (nT J) := hJ.1
    have ih := tr17_loop hW hs hF hJ hl h72 hp hi hx h55 (K := K) m (j + 1) n (by omega) (by omega)
    have hr : sR (qN s (fdP J l) c) i (j + 1) = sR (qN s (fdP J l) c) i j + qN s (fdP J l) c i j := rfl
    have hrl := sR_le (s := s) (fd := fdP J l) (c := c) (i := i) j
    have i1 : f_X10_isOf N (nI s) (nI i) = b2 (s.testBit i) := isOf_nat (by omega) (by omega)
    have i2 : f_X10_isOf N (nI s) (nI j) = b2 (s.testBit j) := isOf_nat (by omega) (by omega)
    have f1 := fd_R (F := F) hW hF hJ hl h72 hp hi
    have f2 := fd_R (F := F) hW hF hJ hl h72 hp (show j < nT J by omega)
    have b1 := fdP_le hW l i
    have b2' := fdP_le hW l j
    have l1 := ly_lt s c i
    have l2 := ly_lt s c j
    have e0 : nI (x + sR (qN s (fdP J l) c) i j) + nI 0 = nI (x + sR (qN s (fdP J l) c) i j) := addI _ 0
    rw [hr] at ih
    rw [f_X10_troubles_17]
    have hq : qN s (fdP J l) c i j = if qB s (fdP J l) c i j = true then 1 else 0 := rfl
    unfold qB at hq
    cases hb1 : s.testBit i
    · rw [hb1] at hq i1
      rw [hq, Bool.false_and, if_neg (by decide), Nat.add_zero] at ih
      simp (disch := omega) only [lit, ltI, leI, eqI, addI, mulI, subI, clI, ckI, if_pos, if_neg, if_true, if_false, Option.bind_some, b2_0, b2_n0, b2_1, b2_n1, Bool.true_eq_false, Bool.false_eq_true, b2_t, b2_f, e38, i1]
      exact ih
    · cases hb2 : s.testBit j
      · rw [hb1, hb2] at hq
        rw [hb1] at i1
        rw [hb2] at i2
        rw [hq, Bool.false_and, Bool.and_false, if_neg (by decide), Nat.add_zero] at ih
        simp (disch := omega) only [lit, ltI, leI, eqI, addI, mulI, subI, clI, ckI, if_pos, if_neg, if_true, if_false, Option.bind_some, b2_0, b2_n0, b2_1, b2_n1, Bool.true_eq_false, Bool.false_eq_true, b2_t, b2_f, e38, i1, i2]
        exact ih
      · have q1 := h55 i (by omega) hb1
        have q2 := h55 j (by omega) hb2
        rw [hb1, hb2, Bool.true_and, Bool.true_and] at hq
        rw [hb1] at i1
        rw [hb2] at i2
        by_cases c1 : ly s c j < ly s c i
        · by_cases c2 : fdP J l j < fdP J l i
          · rw [decide_eq_true c1, decide_eq_true c2, Bool.true_and, if_pos rfl] at hq
            rw [hq, ← Nat.add_assoc] at ih
            simp (disch := omega) only [lit, ltI, leI, eqI, addI, mulI, subI, clI, ckI, if_pos, if_neg, if_true, if_false, Option.bind_some, b2_0, b2_n0, b2_1, b2_n1, Bool.true_eq_false, Bool.false_eq_true, b2_t, b2_f, e38, i1, i2, q1, q2, f1, f2]
            exact ih
          · rw [decide_eq_false c2, Bool.and_false, if_neg (by decide)] at hq
            rw [hq, Nat.add_zero] at ih
            simp (disch := omega) only [lit, ltI, leI, eqI, addI, mulI, subI, clI, ckI, if_pos, if_neg, if_true, if_false, Option.bind_some, b2_0, b2_n0, b2_1, b2_n1, Bool.true_eq_false, Bool.false_eq_true, b2_t, b2_f, e38, i1, i2, q1, q2, f1, f2]
            exact ih
        · rw [decide_eq_false c1, Bool.false_and, if_neg (by decide)] at hq
          rw [hq, Nat.add_zero] at ih
          simp (disch := omega) only [lit, ltI, leI, eqI, addI, mulI, subI, clI, ckI, if_pos, if_neg, if_true, if_false, Option.bind_some, b2_0, b2_n0, b2_1, b2_n1, Bool.true_eq_false, Bool.false_eq_true, b2_t, b2_f, e38, i1, i2, q1, q2]
          exact ih
  | _, _, 0, _, hn => absurd hn (Nat.not_lt_zero _)
theorem tr4_loop (hW : WJ J) (hs : s < 64) (hF : 4100 ≤ F) {l : List Nat} {N : Mem} (hJ : HJ J N) (hl : l.length = nD J) (h72 : ∀ k ∈ l, k < 72) (hp : PA N l) {c : Nat} (h55 : ∀ j, j < 6 → s.testBit j = true → N.1 55 j = nI (ly s c j)) :
    ∀ (m i n : Nat), i + m = nT J → m < n → f_X10_troubles_4 F N n (nI s) (nI (sQ (qN s (fdP J l) c) (nT J) i)) (nI i) = some (nI (sQ (qN s (fdP J l) c) (nT J) (nT J)))
  | 0, i, n + 1, hi, _ => by
    have h6 := hW.1
    have hii : i = nT J := by omega
    subst hii
    have e38 : N.1 38 0 = nI (nT J) := hJ.1
    rw [f_X10_troubles_4]
    simp (disch := omega) only [lit, ltI, leI, eqI, addI, mulI, subI, clI, ckI, if_pos, if_neg, if_true, if_false, Option.bind_some, b2_0, b2_n0, b2_1, b2_n1, Bool.true_eq_false, Bool.false_eq_true, b2_t, b2_f, e38]
  | m + 1, i, n + 1, hi, hn => by
    have h6 := hW.1
    have e38 : N.1 38 0 = nI (nT J) := hJ.1
    have ih := tr4_loop hW hs hF hJ hl h72 hp h55 m (i + 1) n (by omega) (by omega)
    have hq := sQ_le (s := s) (fd := fdP J l) (c := c) (n := nT J) i
    have hx : sQ (qN s (fdP J l) c) (nT J) i ≤ 100 := by
      have : nT J * i ≤ 6 * 6 := Nat.mul_le_mul h6 (by omega)
      omega
    have h17 := tr17_loop (F := F) hW hs hF hJ hl h72 hp (c := c) (i := i) (x := sQ (qN s (fdP J l) c) (nT J) i) (by omega) hx h55 (K := fun y1 y2 y3 => f_X10_troubles_4 F N n y1 y2 y3) (nT J) 0 F (by omega) (by omega)
    have e0 : sQ (qN s (fdP J l) c) (nT J) i + sR (qN s (fdP J l) c) i 0 = sQ (qN s (fdP J l) c) (nT J) i := rfl
    rw [e0] at h17
    rw [f_X10_troubles_4]
    simp (disch := omega) only [lit, ltI, leI, eqI, addI, mulI, subI, clI, ckI, if_pos, if_neg, if_true, if_false, Option.bind_some, b2_0, b2_n0, b2_1, b2_n1, Bool.true_eq_false, Bool.false_eq_true, b2_t, b2_f, e38]
    rw [h17]
    exact ih
  | _, _, 0, _, hn => absurd hn (Nat.not_lt_zero _)
theorem trR_nat (hW : WJ J) (hs : s < 64) (hsT : ∀ j, s.testBit j = true → j < nT J) (hF : 4100 ≤ F) {l : List Nat} {N : Mem} (hJ : HJ J N) (hl : l.length = nD J) (h72 : ∀ k ∈ l, k < 72) (hp : PA N l) {c : Nat} (h55 : ∀ j, j < 6 → s.testBit j = true → N.1 55 j = nI (ly s c j)) : f_X10_troubles F N (nI s) = some (nI (tt s (fdP J l) c 6)) := by
  have h6 := hW.1
  have h := tr4_loop (F := F) hW hs hF hJ hl h72 hp h55 (nT J) 0 F (by omega) (by omega)
  rw [tt_top hsT h6, tt_q, ← sQ_sq]
  exact h
end PK
