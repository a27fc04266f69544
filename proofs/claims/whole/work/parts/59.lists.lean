-- part 59: lists: the class's sorted insertion
def posL (l : List Nat) (y : Nat) : Nat → Nat
  | 0 => 0
  | k + 1 => if l.getD k 0 ≤ y then k + 1 else posL l y k
theorem posL_le (l : List Nat) (y : Nat) : ∀ k, posL l y k ≤ k
  | 0 => Nat.le_refl _
  | k + 1 => by
    have := posL_le l y k
    unfold posL
    split <;> omega
def insL (l : List Nat) (y : Nat) : List Nat := l.take (posL l y l.length) ++ y :: l.drop (posL l y l.length)
theorem insL_len {l : List Nat} {y : Nat} : (insL l y).length = l.length + 1 := by
  have := posL_le l y l.length
  unfold insL
  rw [List.length_append, List.length_cons, List.length_take, List.length_drop]
  omega
/-- the class's lists: h had and o on in all, l those on, sorted -/
def CLs (h o : Nat) (l : List Nat) (N : Mem) : Prop := N.1 32 1 = nI l.length ∧ N.1 32 2 = nI h ∧ N.1 32 3 = nI o ∧ ∀ j, j < l.length → N.1 33 j = nI (l.getD j 0)
theorem add_loop {F h y : Nat} {l : List Nat} (hl : l.length < 20) (hy : y < 2 ^ 31) (hv : ∀ j, j < l.length → l.getD j 0 < 2 ^ 31) :
    ∀ (k n : Nat) (N : Mem), k ≤ l.length → k < n → (∀ j, j < k → N.1 33 j = nI (l.getD j 0)) → (∀ j, k ≤ j → j < l.length → N.1 33 (j + 1) = nI (l.getD j 0)) →
      ∃ N', f_X3_add_23 F n (nI h) (nI y) (nI k) N = f_X3_add_59 F (nI h) (nI y) (nI (posL l y k)) N' ∧ (∀ j, j < posL l y k → N'.1 33 j = nI (l.getD j 0)) ∧ (∀ j, posL l y k ≤ j → j < l.length → N'.1 33 (j + 1) = nI (l.getD j 0)) ∧ (∀ c, c ≠ 33 → N'.1 c = N.1 c) ∧ N'.2 = N.2
  | 0, n + 1, N, hk, _, h1, h2 => by
    refine ⟨N, ?_, h1, h2, fun _ _ => rfl, rfl⟩
    rw [f_X3_add_23, posL, if_pos (by decide)]
  | k + 1, n + 1, N, hk, hn, h1, h2 => by
    have hk1 := hv k (by omega)
    have e := h1 k (by omega)
    by_cases c : l.getD k 0 ≤ y
    · have hp : posL l y (k + 1) = k + 1 := by unfold posL; rw [if_pos c]
      rw [hp]
      refine ⟨N, ?_, h1, h2, fun _ _ => rfl, rfl⟩
      rw [f_X3_add_23]
      simp (disch := omega) only [lit, ltI, leI, eqI, addI, mulI, subI, clI, ckI, if_pos, if_neg, if_true, if_false, Option.bind_some, b2_0, b2_n0, b2_1, b2_n1, Bool.true_eq_false, Bool.false_eq_true, b2_t, b2_f, Nat.add_sub_cancel, e]
    · have hp : posL l y (k + 1) = posL l y k := by rw [posL, if_neg c]
      rw [hp]
      obtain ⟨N2, a1, a2, a3, a4, a5⟩ := add_loop (F := F) (h := h) hl hy hv k n (setI N 33 (k + 1) (nI (l.getD k 0))) (by omega) (by omega) (fun j hj => by rw [setI_nk (by omega)]; exact h1 j (by omega)) (fun j hj hj2 => by
        by_cases e : j = k
        · subst e; exact setI_at
        · rw [setI_nk (by omega)]; exact h2 j (by omega) hj2)
      refine ⟨N2, ?_, a2, a3, fun c hc => (a4 c hc).trans (setI_ne hc), a5⟩
      have ed : nI (k + 1) + (-nI 1) = nI k := dI_pred (k + 1)
      rw [f_X3_add_23]
      simp only [vlet]
      simp (disch := omega) only [lit, ltI, leI, eqI, addI, mulI, subI, clI, ckI, if_pos, if_neg, if_true, if_false, Option.bind_some, b2_0, b2_n0, b2_1, b2_n1, Bool.true_eq_false, Bool.false_eq_true, b2_t, b2_f, Nat.add_sub_cancel, e, ed]
      exact a1
  | _, 0, _, _, hn, _, _ => absurd hn (Nat.not_lt_zero _)
theorem insL_get {l : List Nat} {y j : Nat} (hj : j < l.length + 1) : (insL l y).getD j 0 = if j < posL l y l.length then l.getD j 0 else if j = posL l y l.length then y else l.getD (j - 1) 0 := by
  have hp := posL_le l y l.length
  unfold insL
  generalize posL l y l.length = p at hp ⊢
  rw [List.getD_eq_getElem?_getD, List.getElem?_append, List.length_take, Nat.min_eq_left hp]
  by_cases c1 : j < p
  · rw [if_pos c1, if_pos c1, List.getElem?_take, if_pos c1, ← List.getD_eq_getElem?_getD]
  · rw [if_neg c1, if_neg c1]
    by_cases c2 : j = p
    · subst c2
      rw [if_pos rfl, Nat.sub_self]
      rfl
    · rw [if_neg c2]
      obtain ⟨i, hi⟩ : ∃ i, j - p = i + 1 := ⟨j - p - 1, by omega⟩
      rw [hi, List.getElem?_cons_succ, List.getElem?_drop, ← List.getD_eq_getElem?_getD]
      congr 1
      omega
/-- a list is added -/
theorem add_nat {F h o nh y : Nat} {l : List Nat} {N : Mem} (hF : 4100 ≤ F) (hl : l.length < 20) (hy : y < 2 ^ 31) (hv : ∀ j, j < l.length → l.getD j 0 < 2 ^ 31) (hC : CLs h o l N) :
    ∃ N', f_X3_add F N (nI nh) (nI y) = some (1, N') ∧ CLs (h + nh) (o + y) (insL l y) N' ∧ (∀ c, c ≠ 32 → c ≠ 33 → N'.1 c = N.1 c) ∧ N'.2 = N.2 := by
  obtain ⟨c1, c2, c3, c4⟩ := hC
  obtain ⟨N1, a1, a2, a3, a4, a5⟩ := add_loop (F := F) (h := nh) (y := y) hl hy hv l.length F N (Nat.le_refl _) (by omega) c4 (fun j h1 h2 => by omega)
  have hp := posL_le l y l.length
  have h32 := a4 32 (by decide)
  generalize hP : posL l y l.length = p at a1 a2 a3 hp
  refine ⟨setI (setI (setI (setI N1 33 p (nI y)) 32 1 (nI (l.length + 1))) 32 2 (nI (h + nh))) 32 3 (nI (o + y)), ?_, ⟨?_, ?_, ?_, fun j hj => ?_⟩, fun c d1 d2 => ?_, ?_⟩
  · unfold f_X3_add
    have e59 : f_X3_add_59 F (nI nh) (nI y) (nI p) N1 = some (1, setI (setI (setI (setI N1 33 p (nI y)) 32 1 (nI (l.length + 1))) 32 2 (nI (h + nh))) 32 3 (nI (o + y))) := by
      unfold f_X3_add_59
      simp only [vlet]
      have e1 : (setI N1 33 p (nI y)).1 32 1 = nI l.length := by rw [setI_ne (by decide), h32]; exact c1
      have e2 : (setI (setI N1 33 p (nI y)) 32 1 (nI (l.length + 1))).1 32 2 = nI h := by rw [setI_nk (by decide), setI_ne (by decide), h32]; exact c2
      have e3 : (setI (setI (setI N1 33 p (nI y)) 32 1 (nI (l.length + 1))) 32 2 (nI (h + nh))).1 32 3 = nI o := by rw [setI_nk (by decide), setI_nk (by decide), setI_ne (by decide), h32]; exact c3
      simp (disch := omega) only [lit, ltI, leI, eqI, addI, mulI, subI, clI, ckI, if_pos, if_neg, if_true, if_false, Option.bind_some, b2_0, b2_n0, b2_1, b2_n1, Bool.true_eq_false, Bool.false_eq_true, b2_t, b2_f, e1, e2, e3]
    simp (disch := omega) only [lit, ltI, leI, eqI, addI, mulI, subI, clI, ckI, if_pos, if_neg, if_true, if_false, Option.bind_some, b2_0, b2_n0, b2_1, b2_n1, Bool.true_eq_false, Bool.false_eq_true, b2_t, b2_f, c1]
    exact a1.trans e59
  · rw [setI_nk (by decide), setI_nk (by decide), setI_at, insL_len]
  · rw [setI_nk (by decide), setI_at]
  · rw [setI_at]
  · rw [insL_len] at hj
    rw [setI_ne (by decide), setI_ne (by decide), setI_ne (by decide), insL_get hj, hP]
    by_cases d1 : j < p
    · rw [if_pos d1, setI_nk (by omega)]
      exact a2 j d1
    · rw [if_neg d1]
      by_cases d2 : j = p
      · subst d2
        rw [if_pos rfl, setI_at]
      · rw [if_neg d2, setI_nk d2]
        have := a3 (j - 1) (by omega) (by omega)
        rw [show j - 1 + 1 = j by omega] at this
        exact this
  · rw [setI_ne d1, setI_ne d1, setI_ne d1, setI_ne d2]
    exact a4 c d2
  · show N1.2 = N.2
    exact a5
