-- part 37: plans: what serves, the first plan; all states behind a day
def wsL (J : Jr) (d : Nat) : List Nat := if df J d 2 = 1 then [0, 1] else [0]
def suitP (J : Jr) (s d p : Nat) : Bool := suitsB J s d (p / 6) (p % 6)
def okP (J : Jr) (s d x p : Nat) : Bool := suitP J s d p && rdy x (p / 6) && rdy x (p % 6)
def nx (J : Jr) (s w d x p c : Nat) : Nat := nxt J s x (p / 6) (p % 6) (decide (c = 1)) (soakB J s w d)
def fp (J : Jr) (s w : Nat) : Nat → Nat → Nat → Option (List Nat)
  | 0, _, _ => some []
  | r + 1, d, x => (List.range 36).findSome? (fun p => if okP J s d x p then (wsL J d).findSome? (fun c => (fp J s w r (d + 1) (nx J s w d x p c)).map (fun l => (2 * p + c) :: l)) else none)
def lives (J : Jr) (s w r d x : Nat) : Bool := (fp J s w r d x).isSome
theorem lives_0 {J : Jr} {s w d x : Nat} : lives J s w 0 d x = true := rfl
theorem lives_S {J : Jr} {s w r d x : Nat} : lives J s w (r + 1) d x = true ↔ ∃ p, p < 36 ∧ okP J s d x p = true ∧ ∃ c ∈ wsL J d, lives J s w r (d + 1) (nx J s w d x p c) = true := by
  unfold lives
  rw [fp, List.findSome?_isSome_iff]
  constructor
  · rintro ⟨p, hp, h⟩
    refine ⟨p, List.mem_range.mp hp, ?_⟩
    split at h
    · rename_i c
      refine ⟨c, ?_⟩
      rw [List.findSome?_isSome_iff] at h
      obtain ⟨c, hc, h⟩ := h
      exact ⟨c, hc, by simpa using h⟩
    · cases h
  · rintro ⟨p, hp, h, c, hc, h2⟩
    refine ⟨p, List.mem_range.mpr hp, ?_⟩
    rw [if_pos h, List.findSome?_isSome_iff]
    exact ⟨c, hc, by simpa using h2⟩
theorem okP_of {J : Jr} {s d x p : Nat} (h : okP J s d x p = true) : p / 6 < nT J ∧ p % 6 < nT J ∧ s.testBit (p / 6) = true ∧ s.testBit (p % 6) = true ∧ p / 6 ≠ p % 6 ∧ rdy x (p / 6) = true ∧ rdy x (p % 6) = true := by
  unfold okP suitP suitsB at h
  simp only [Bool.and_eq_true, decide_eq_true_eq] at h
  obtain ⟨⟨⟨⟨⟨⟨⟨⟨⟨⟨⟨h1, h2⟩, h3⟩, h4⟩, h5⟩, h6⟩, -⟩, -⟩, -⟩, -⟩, h7⟩, h8⟩ := h
  refine ⟨h1, h2, h3, h4, fun e => ?_, h7, h8⟩
  rw [e] at h5
  unfold isK at h5 h6
  have := of_decide_eq_true h5
  have := of_decide_eq_true h6
  omega
theorem nx_ok {J : Jr} {s w d x p c : Nat} (hW : WJ J) (hx : okH J s x) (h : okP J s d x p = true) : okH J s (nx J s w d x p c) := by
  obtain ⟨h1, h2, h3, h4, h5, h6, h7⟩ := okP_of h
  exact nxt_ok hW hx h1 h2 h5 h3 h4
theorem okH_0 {J : Jr} {s : Nat} : okH J s 0 := ⟨by decide, fun i h => absurd (show dg 0 i = 0 by simp [dg]) h⟩
-- lists of states
def ins (l : List Nat) (y : Nat) : List Nat := if y ∈ l then l else l ++ [y]
def innL (J : Jr) (s w d : Nat) (pl : List Nat) (acc : List Nat) (x : Nat) : Nat → List Nat
  | 0 => acc
  | k + 1 => let a := innL J s w d pl acc x k; let p := pl.getD (k % pl.length) 0; if rdy x (p / 6) && rdy x (p % 6) then ins a (nx J s w d x p (k / pl.length)) else a
def outL (J : Jr) (s w d : Nat) (pl l : List Nat) (K : Nat) : Nat → List Nat
  | 0 => []
  | n + 1 => innL J s w d pl (outL J s w d pl l K n) (l.getD n 0) K
def pairL (J : Jr) (s d n : Nat) : List Nat := (List.range n).filter (suitP J s d)
def dayL (J : Jr) (s w d : Nat) (l : List Nat) : List Nat := outL J s w d (pairL J s d 36) l ((pairL J s d 36).length * (1 + df J d 2)) l.length
theorem mem_ins {l : List Nat} {y z : Nat} : z ∈ ins l y ↔ z ∈ l ∨ z = y := by
  unfold ins
  split
  · constructor
    · exact Or.inl
    · rintro (h | rfl)
      · exact h
      · assumption
  · simp
theorem nodup_ins {l : List Nat} {y : Nat} (h : l.Nodup) : (ins l y).Nodup := by
  unfold ins
  split
  · exact h
  · rename_i hy
    rw [List.nodup_append]
    refine ⟨h, by simp, ?_⟩
    intro a ha b hb e
    rw [List.mem_singleton] at hb
    subst hb; subst e
    exact hy ha
theorem innL_nodup {J : Jr} {s w d x : Nat} {pl acc : List Nat} (h : acc.Nodup) : ∀ k, (innL J s w d pl acc x k).Nodup
  | 0 => h
  | k + 1 => by
    unfold innL
    dsimp only
    split
    · exact nodup_ins (innL_nodup h k)
    · exact innL_nodup h k
theorem mem_innL {J : Jr} {s w d x : Nat} {pl acc : List Nat} : ∀ k z, z ∈ innL J s w d pl acc x k ↔ z ∈ acc ∨ ∃ j, j < k ∧ rdy x (pl.getD (j % pl.length) 0 / 6) = true ∧ rdy x (pl.getD (j % pl.length) 0 % 6) = true ∧ z = nx J s w d x (pl.getD (j % pl.length) 0) (j / pl.length)
  | 0, z => by simp [innL]
  | k + 1, z => by
    unfold innL
    dsimp only
    have ih := mem_innL (J := J) (s := s) (w := w) (d := d) (x := x) (pl := pl) (acc := acc) k z
    by_cases c : (rdy x (pl.getD (k % pl.length) 0 / 6) && rdy x (pl.getD (k % pl.length) 0 % 6)) = true
    · rw [if_pos c, mem_ins, ih]
      simp only [Bool.and_eq_true] at c
      constructor
      · rintro ((h | ⟨j, h1, h2⟩) | h)
        · exact Or.inl h
        · exact Or.inr ⟨j, by omega, h2⟩
        · exact Or.inr ⟨k, by omega, c.1, c.2, h⟩
      · rintro (h | ⟨j, h1, h2, h3, h4⟩)
        · exact Or.inl (Or.inl h)
        · by_cases e : j = k
          · subst e; exact Or.inr h4
          · exact Or.inl (Or.inr ⟨j, by omega, h2, h3, h4⟩)
    · rw [if_neg c, ih]
      constructor
      · rintro (h | ⟨j, h1, h2⟩)
        · exact Or.inl h
        · exact Or.inr ⟨j, by omega, h2⟩
      · rintro (h | ⟨j, h1, h2, h3, h4⟩)
        · exact Or.inl h
        · by_cases e : j = k
          · subst e
            rw [h2, h3] at c
            exact absurd rfl c
          · exact Or.inr ⟨j, by omega, h2, h3, h4⟩
theorem outL_nodup {J : Jr} {s w d K : Nat} {pl l : List Nat} : ∀ n, (outL J s w d pl l K n).Nodup
  | 0 => List.nodup_nil
  | n + 1 => innL_nodup (outL_nodup n) K
theorem mem_outL {J : Jr} {s w d K : Nat} {pl l : List Nat} : ∀ n z, z ∈ outL J s w d pl l K n ↔ ∃ i, i < n ∧ ∃ j, j < K ∧ rdy (l.getD i 0) (pl.getD (j % pl.length) 0 / 6) = true ∧ rdy (l.getD i 0) (pl.getD (j % pl.length) 0 % 6) = true ∧ z = nx J s w d (l.getD i 0) (pl.getD (j % pl.length) 0) (j / pl.length)
  | 0, z => by simp [outL]
  | n + 1, z => by
    unfold outL
    rw [mem_innL, mem_outL n z]
    constructor
    · rintro (⟨i, h1, h2⟩ | h)
      · exact ⟨i, by omega, h2⟩
      · exact ⟨n, by omega, h⟩
    · rintro ⟨i, h1, h2⟩
      by_cases e : i = n
      · subst e; exact Or.inr h2
      · exact Or.inl ⟨i, by omega, h2⟩
theorem mem_pairL {J : Jr} {s d n p : Nat} : p ∈ pairL J s d n ↔ p < n ∧ suitP J s d p = true := by
  unfold pairL
  rw [List.mem_filter, List.mem_range]
/-- the states behind a day -/
theorem mem_dayL {J : Jr} (hW : WJ J) {s w d : Nat} (hd : d < nD J) {l : List Nat} {z : Nat} : z ∈ dayL J s w d l ↔ ∃ x ∈ l, ∃ p, p < 36 ∧ okP J s d x p = true ∧ ∃ c ∈ wsL J d, z = nx J s w d x p c := by
  have h2 := (hW.2.2.2.1 d hd).2.2.1
  unfold dayL
  rw [mem_outL]
  generalize hpl : pairL J s d 36 = pl
  have hp : ∀ p, p ∈ pl ↔ p < 36 ∧ suitP J s d p = true := fun p => by rw [← hpl]; exact mem_pairL
  constructor
  · rintro ⟨i, hi, j, hj, r1, r2, rfl⟩
    have hpos : 0 < pl.length := by
      rcases Nat.eq_zero_or_pos pl.length with e | e
      · rw [e, Nat.zero_mul] at hj; omega
      · exact e
    have hm := Nat.mod_lt j hpos
    have hg : pl.getD (j % pl.length) 0 = pl[j % pl.length] := by rw [List.getD_eq_getElem?_getD, List.getElem?_eq_getElem hm]; rfl
    have hg2 : l.getD i 0 = l[i] := by rw [List.getD_eq_getElem?_getD, List.getElem?_eq_getElem hi]; rfl
    have hmem : pl.getD (j % pl.length) 0 ∈ pl := by rw [hg]; exact List.getElem_mem hm
    obtain ⟨h3, h4⟩ := (hp _).mp hmem
    refine ⟨l.getD i 0, by rw [hg2]; exact List.getElem_mem hi, pl.getD (j % pl.length) 0, h3, by unfold okP; rw [h4, r1, r2]; rfl, j / pl.length, ?_, rfl⟩
    have hq : j / pl.length < 1 + df J d 2 := Nat.div_lt_of_lt_mul hj
    generalize j / pl.length = q at hq ⊢
    unfold wsL
    split
    · simp only [List.mem_cons, List.not_mem_nil, or_false]; omega
    · simp only [List.mem_cons, List.not_mem_nil, or_false]; omega
  · rintro ⟨x, hx, p, h3, h4, c, hc, rfl⟩
    obtain ⟨i, hi, rfl⟩ := List.mem_iff_getElem.mp hx
    unfold okP at h4
    simp only [Bool.and_eq_true] at h4
    obtain ⟨q, hq, rfl⟩ := List.mem_iff_getElem.mp ((hp p).mpr ⟨h3, h4.1.1⟩)
    have hg2 : l.getD i 0 = l[i] := by rw [List.getD_eq_getElem?_getD, List.getElem?_eq_getElem hi]; rfl
    have hc2 : c < 1 + df J d 2 := by
      unfold wsL at hc
      split at hc
      · simp at hc; omega
      · simp at hc; omega
    have e1 : (q + pl.length * c) % pl.length = q := by rw [Nat.add_mul_mod_self_left]; exact Nat.mod_eq_of_lt hq
    have e2 : (q + pl.length * c) / pl.length = c := by
      rw [Nat.add_mul_div_left _ _ (by omega), Nat.div_eq_of_lt hq, Nat.zero_add]
    refine ⟨i, hi, q + pl.length * c, ?_, ?_⟩
    · have := Nat.mul_le_mul_left pl.length (show c + 1 ≤ 1 + df J d 2 by omega)
      rw [Nat.mul_add] at this
      omega
    · have hg : pl.getD q 0 = pl[q] := by rw [List.getD_eq_getElem?_getD, List.getElem?_eq_getElem hq]; rfl
      rw [e1, e2, hg2, hg]
      exact ⟨h4.1.2, h4.2, rfl⟩
/-- at least one of the states lives on -/
def anyL (J : Jr) (s w r d : Nat) (l : List Nat) : Prop := ∃ x ∈ l, lives J s w r d x = true
theorem any_day {J : Jr} (hW : WJ J) {s w r d : Nat} (hd : d < nD J) {l : List Nat} : anyL J s w r (d + 1) (dayL J s w d l) ↔ anyL J s w (r + 1) d l := by
  unfold anyL
  constructor
  · rintro ⟨z, hz, h⟩
    obtain ⟨x, hx, p, h3, h4, c, hc, rfl⟩ := (mem_dayL hW hd).mp hz
    exact ⟨x, hx, lives_S.mpr ⟨p, h3, h4, c, hc, h⟩⟩
  · rintro ⟨x, hx, h⟩
    obtain ⟨p, h3, h4, c, hc, h⟩ := lives_S.mp h
    exact ⟨_, (mem_dayL hW hd).mpr ⟨x, hx, p, h3, h4, c, hc, rfl⟩, h⟩
theorem day_ok {J : Jr} (hW : WJ J) {s w d : Nat} (hd : d < nD J) {l : List Nat} (h : ∀ x ∈ l, okH J s x) : ∀ z ∈ dayL J s w d l, okH J s z := by
  intro z hz
  obtain ⟨x, hx, p, h3, h4, c, hc, rfl⟩ := (mem_dayL hW hd).mp hz
  exact nx_ok hW (h x hx) h4
/-- different numbers below n are n at most -/
theorem pigeon : ∀ (n : Nat) (l : List Nat), l.Nodup → (∀ x ∈ l, x < n) → l.length ≤ n
  | 0, l, _, h => by
    cases l with
    | nil => simp
    | cons a t => exact absurd (h a List.mem_cons_self) (Nat.not_lt_zero _)
  | n + 1, l, hn, h => by
    have h1 := pigeon n (l.erase n) (hn.erase n) (fun x hx => by
      have h2 := (hn.mem_erase_iff).mp hx
      have := h x h2.2
      omega)
    by_cases c : n ∈ l
    · rw [List.length_erase_of_mem c] at h1
      omega
    · rw [List.erase_of_not_mem c] at h1
      omega
