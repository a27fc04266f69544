-- part 63: span: sorted lists and counting; greatest common divisors
def Srt (l : List Nat) : Prop := ∀ i j, i < j → j < l.length → l.getD i 0 ≤ l.getD j 0
theorem posL_hi {l : List Nat} {y : Nat} : ∀ k j, posL l y k ≤ j → j < k → y < l.getD j 0
  | 0, _, _, h => absurd h (Nat.not_lt_zero _)
  | k + 1, j, h1, h2 => by
    unfold posL at h1
    split at h1
    · omega
    · by_cases e : j = k
      · subst e; omega
      · exact posL_hi k j h1 (by omega)
theorem posL_lo {l : List Nat} {y : Nat} : ∀ k, 0 < posL l y k → l.getD (posL l y k - 1) 0 ≤ y
  | 0, h => absurd h (Nat.lt_irrefl _)
  | k + 1, h => by
    unfold posL at h ⊢
    split
    · rename_i c
      exact c
    · rename_i c
      rw [if_neg c] at h
      exact posL_lo k h
theorem insL_srt {l : List Nat} {y : Nat} (h : Srt l) : Srt (insL l y) := by
  intro i j hij hj
  rw [insL_len] at hj
  have hp := posL_le l y l.length
  have hhi := posL_hi (l := l) (y := y) l.length
  have hlo := posL_lo (l := l) (y := y) l.length
  rw [insL_get (by omega), insL_get hj]
  generalize posL l y l.length = p at hp hhi hlo ⊢
  have hlow : ∀ i, i < p → l.getD i 0 ≤ y := by
    intro i hi
    have h1 := hlo (by omega)
    by_cases e : i = p - 1
    · rw [e]; exact h1
    · exact Nat.le_trans (h i (p - 1) (by omega) (by omega)) h1
  by_cases c1 : i < p
  · rw [if_pos c1]
    by_cases c2 : j < p
    · rw [if_pos c2]
      exact h i j hij (by omega)
    · rw [if_neg c2]
      by_cases c3 : j = p
      · rw [if_pos c3]
        exact hlow i c1
      · rw [if_neg c3]
        exact Nat.le_trans (hlow i c1) (Nat.le_of_lt (hhi (j - 1) (by omega) (by omega)))
  · rw [if_neg c1]
    have c2 : ¬ j < p := by omega
    have c3 : ¬ j = p := by omega
    rw [if_neg c2, if_neg c3]
    by_cases c4 : i = p
    · rw [if_pos c4]
      exact Nat.le_of_lt (hhi (j - 1) (by omega) (by omega))
    · rw [if_neg c4]
      exact h (i - 1) (j - 1) (by omega) (by omega)
theorem soF_srt : ∀ (os acc : List Nat), Srt acc → Srt (soF acc os)
  | [], _, h => h
  | a :: t, acc, h => soF_srt t (insL acc a) (insL_srt h)
theorem so_srt {L : LL} : Srt (so L) := soF_srt _ _ (fun i j _ hj => absurd hj (Nat.not_lt_zero _))
def cnt (v : Nat) (l : List Nat) : Nat := l.countP (fun x => decide (x ≤ v))
theorem cnt_ins {v y : Nat} {l : List Nat} : cnt v (insL l y) = cnt v l + cnt v [y] := by
  unfold insL
  generalize posL l y l.length = p
  have h : cnt v l = cnt v (l.take p) + cnt v (l.drop p) := by
    unfold cnt
    rw [← List.countP_append, List.take_append_drop]
  rw [h]
  unfold cnt
  rw [List.countP_append, List.countP_cons, List.countP_cons, List.countP_nil]
  omega
theorem cnt_soF {v : Nat} : ∀ (os acc : List Nat), cnt v (soF acc os) = cnt v acc + cnt v os
  | [], acc => rfl
  | a :: t, acc => by
    show cnt v (soF (insL acc a) t) = _
    rw [cnt_soF t, cnt_ins]
    unfold cnt
    rw [List.countP_cons, List.countP_cons, List.countP_nil]
    omega
theorem cnt_so {v : Nat} {L : LL} : cnt v (so L) = cnt v (L.map Prod.snd) := by
  unfold so
  rw [cnt_soF]
  show 0 + _ = _
  omega
theorem cnt_all {v : Nat} : ∀ l : List Nat, (∀ x ∈ l, x ≤ v) → cnt v l = l.length
  | [], _ => rfl
  | a :: t, h => by
    have := cnt_all t (fun x hx => h x (List.mem_cons_of_mem _ hx))
    unfold cnt at this ⊢
    rw [List.countP_cons, this, if_pos (decide_eq_true (h a List.mem_cons_self)), List.length_cons]
theorem cnt_none {v : Nat} : ∀ l : List Nat, (∀ x ∈ l, v < x) → cnt v l = 0
  | [], _ => rfl
  | a :: t, h => by
    have := cnt_none t (fun x hx => h x (List.mem_cons_of_mem _ hx))
    have ha := h a List.mem_cons_self
    unfold cnt at this ⊢
    rw [List.countP_cons, this, if_neg (by rw [decide_eq_true_eq]; omega)]
theorem cnt_split {v p : Nat} {l : List Nat} : cnt v l = cnt v (l.take p) + cnt v (l.drop p) := by
  unfold cnt
  rw [← List.countP_append, List.take_append_drop]
theorem mem_getD {l : List Nat} {x : Nat} (h : x ∈ l) : ∃ j, j < l.length ∧ l.getD j 0 = x := by
  obtain ⟨j, hj, e⟩ := List.mem_iff_getElem.mp h
  exact ⟨j, hj, by rw [List.getD_eq_getElem?_getD, List.getElem?_eq_getElem hj]; exact e⟩
theorem getD_take {l : List Nat} {p j : Nat} (h : j < p) : (l.take p).getD j 0 = l.getD j 0 := by
  rw [List.getD_eq_getElem?_getD, List.getD_eq_getElem?_getD, List.getElem?_take, if_pos h]
theorem getD_drop {l : List Nat} {p j : Nat} : (l.drop p).getD j 0 = l.getD (p + j) 0 := by
  rw [List.getD_eq_getElem?_getD, List.getD_eq_getElem?_getD, List.getElem?_drop]
/-- in a sorted list at least m are v at most just when the m-th is -/
theorem cnt_srt {l : List Nat} (h : Srt l) {v m : Nat} (h1 : 1 ≤ m) (h2 : m ≤ l.length) : m ≤ cnt v l ↔ l.getD (m - 1) 0 ≤ v := by
  constructor
  · intro hm
    by_cases c : l.getD (m - 1) 0 ≤ v
    · exact c
    · exfalso
      have e := cnt_split (v := v) (p := m - 1) (l := l)
      have e2 : cnt v (l.drop (m - 1)) = 0 := cnt_none _ (fun x hx => by
        obtain ⟨j, hj, rfl⟩ := mem_getD hx
        rw [List.length_drop] at hj
        rw [getD_drop]
        by_cases ej : j = 0
        · subst ej; rw [Nat.add_zero]; omega
        · have := h (m - 1) (m - 1 + j) (by omega) (by omega)
          omega)
      have e3 : cnt v (l.take (m - 1)) ≤ m - 1 := by
        have := List.countP_le_length (p := fun x => decide (x ≤ v)) (l := l.take (m - 1))
        rw [List.length_take] at this
        unfold cnt
        omega
      omega
  · intro hv
    have e := cnt_split (v := v) (p := m) (l := l)
    have e2 : cnt v (l.take m) = m := by
      rw [cnt_all _ (fun x hx => by
        obtain ⟨j, hj, rfl⟩ := mem_getD hx
        rw [List.length_take] at hj
        rw [getD_take (by omega)]
        by_cases ej : j = m - 1
        · rw [ej]; exact hv
        · have := h j (m - 1) (by omega) (by omega)
          omega), List.length_take]
      omega
    omega
