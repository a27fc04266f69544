-- part 32: digits of bitwise expressions; the class's and the reference's small functions over a journey
theorem pow4 (i : Nat) : 2 ^ (2 * i) = 4 ^ i := by rw [Nat.pow_mul]
theorem dg_bits (h i : Nat) : h / 2 ^ (2 * i) &&& 3 = dg h i := by
  rw [pow4]
  exact Nat.and_two_pow_sub_one_eq_mod (h / 4 ^ i) 2
theorem dg_and (a b i : Nat) : dg (a &&& b) i = dg a i &&& dg b i := by
  unfold dg
  rw [← pow4, Nat.and_div_two_pow]
  exact Nat.and_mod_two_pow (n := 2)
theorem dg_or (a b i : Nat) : dg (a ||| b) i = dg a i ||| dg b i := by
  unfold dg
  rw [← pow4, Nat.or_div_two_pow]
  exact Nat.or_mod_two_pow (n := 2)
theorem dg_xor (a b i : Nat) : dg (a ^^^ b) i = dg a i ^^^ dg b i := by
  unfold dg
  rw [← pow4, Nat.xor_div_two_pow]
  exact Nat.xor_mod_two_pow (n := 2)
theorem split64 {P : Nat → Prop} (h : ∀ a, a < 64 → ∀ b, b < 64 → P (64 * a + b)) {x : Nat} (hx : x < 4096) : P x := by
  have := h (x / 64) (by omega) (x % 64) (by omega)
  rwa [show 64 * (x / 64) + x % 64 = x by omega] at this
theorem dg_3b : ∀ a, a < 64 → ∀ b, b < 64 → (∀ j, j < 6 → dg (64 * a + b) j ≤ 1) → ∀ i, i < 6 → dg (3 * (64 * a + b)) i = 3 * dg (64 * a + b) i := by decide +kernel
theorem dg_3 {u i : Nat} (hu : u < 4096) (hi : i < 6) (h : ∀ j, j < 6 → dg u j ≤ 1) : dg (3 * u) i = 3 * dg u i :=
  split64 (P := fun u => (∀ j, j < 6 → dg u j ≤ 1) → dg (3 * u) i = 3 * dg u i) (fun a ha b hb h => dg_3b a ha b hb h i hi) hu h
theorem dg_both : ∀ a, a < 64 → ∀ b, b < 64 → ∀ i, i < 6 → dg (((64 * a + b) &&& ((64 * a + b) / 2)) &&& 1365) i = if dg (64 * a + b) i = 3 then 1 else 0 := by decide +kernel
theorem dg_one : ∀ a, a < 64 → ∀ b, b < 64 → ∀ i, i < 6 → dg (((64 * a + b) ^^^ ((64 * a + b) / 2)) &&& 1365) i = if dg (64 * a + b) i = 1 ∨ dg (64 * a + b) i = 2 then 1 else 0 := by decide +kernel
theorem setd_b : ∀ i, i < 6 → ∀ v, v < 4 → ∀ a, a < 64 → ∀ b, b < 64 → ((64 * a + b) ^^^ ((64 * a + b) &&& (3 * 2 ^ (2 * i)))) ||| (v * 2 ^ (2 * i)) = sd (64 * a + b) i v := by decide +kernel
theorem setd {h i v : Nat} (hh : h < 4096) (hi : i < 6) (hv : v < 4) : (h ^^^ (h &&& (3 * 2 ^ (2 * i)))) ||| (v * 2 ^ (2 * i)) = sd h i v :=
  split64 (P := fun h => (h ^^^ (h &&& (3 * 2 ^ (2 * i)))) ||| (v * 2 ^ (2 * i)) = sd h i v) (fun a ha b hb => setd_b i hi v hv a ha b hb) hh
def dryN (h : Nat) : Nat := h ^^^ (h &&& (3 * ((h &&& (h / 2)) &&& 1365)))
def washN (L x : Nat) : Nat := (x ^^^ (x &&& (3 * ((x ^^^ (x / 2)) &&& 1365)))) ||| (3 * (((x ^^^ (x / 2)) &&& 1365) &&& L))
theorem and_lt {a b n : Nat} (h : a < n) : a &&& b < n := Nat.lt_of_le_of_lt Nat.and_le_left h
theorem dry_lt {h : Nat} (hh : h < 4096) : dryN h < 4096 := Nat.xor_lt_two_pow (n := 12) hh (and_lt hh)
theorem dry_dg {h i : Nat} (hh : h < 4096) (hi : i < 6) : dg (dryN h) i = if dg h i = 3 then 0 else dg h i := by
  have hb : ∀ j, j < 6 → dg ((h &&& (h / 2)) &&& 1365) j = if dg h j = 3 then 1 else 0 := fun j hj => split64 (P := fun h => dg ((h &&& (h / 2)) &&& 1365) j = if dg h j = 3 then 1 else 0) (fun a ha b hb => dg_both a ha b hb j hj) hh
  have hu : (h &&& (h / 2)) &&& 1365 < 4096 := and_lt (and_lt hh)
  rw [dryN, dg_xor, dg_and, dg_3 hu hi (fun j hj => by rw [hb j hj]; split <;> decide), hb i hi]
  have h4 := dg_lt h i
  generalize dg h i = x at h4 ⊢
  rcases (by omega : x = 0 ∨ x = 1 ∨ x = 2 ∨ x = 3) with rfl | rfl | rfl | rfl <;> decide
theorem wash_lt {L x : Nat} (hx : x < 4096) : washN L x < 4096 := by
  have h1 : ((x ^^^ (x / 2)) &&& 1365) < 1366 := Nat.lt_of_le_of_lt Nat.and_le_right (by decide)
  have h2 : (((x ^^^ (x / 2)) &&& 1365) &&& L) < 1366 := and_lt h1
  exact Nat.or_lt_two_pow (n := 12) (Nat.xor_lt_two_pow (n := 12) hx (and_lt hx)) (by omega)
theorem wash_dg {L x i : Nat} (hx : x < 4096) (hi : i < 6) (hL : ∀ j, j < 6 → dg L j ≤ 1) : dg (washN L x) i = if dg x i = 1 ∨ dg x i = 2 then 3 * dg L i else dg x i := by
  have hb : ∀ j, j < 6 → dg ((x ^^^ (x / 2)) &&& 1365) j = if dg x j = 1 ∨ dg x j = 2 then 1 else 0 := fun j hj => split64 (P := fun h => dg ((h ^^^ (h / 2)) &&& 1365) j = if dg h j = 1 ∨ dg h j = 2 then 1 else 0) (fun a ha b hb => dg_one a ha b hb j hj) hx
  have h1 : ((x ^^^ (x / 2)) &&& 1365) < 1366 := Nat.lt_of_le_of_lt Nat.and_le_right (by decide)
  have h2 : (((x ^^^ (x / 2)) &&& 1365) &&& L) < 1366 := and_lt h1
  have hl := hL i hi
  unfold washN
  generalize ((x ^^^ (x / 2)) &&& 1365) = u at hb h1 h2
  rw [dg_or, dg_xor, dg_and, dg_3 (u := u) (by omega) hi (fun j hj => by rw [hb j hj]; split <;> decide), dg_3 (u := u &&& L) (by omega) hi (fun j hj => by
    rw [dg_and, hb j hj]
    exact Nat.le_trans Nat.and_le_left (by split <;> decide)), dg_and, hb i hi]
  have h4 := dg_lt x i
  generalize dg x i = y at h4 ⊢
  generalize dg L i = z at hl ⊢
  rcases (by omega : z = 0 ∨ z = 1) with rfl | rfl <;> rcases (by omega : y = 0 ∨ y = 1 ∨ y = 2 ∨ y = 3) with rfl | rfl | rfl | rfl <;> decide
theorem evenTo_lt (f : Nat → Bool) : ∀ n, evenTo f n < 4 ^ n
  | 0 => Nat.one_pos
  | n + 1 => by
    have h := evenTo_lt f n
    have e : (4 : Nat) ^ n = 2 ^ (2 * n) := (pow4 n).symm
    have e2 : (4 : Nat) ^ (n + 1) = 2 ^ (2 * n + 2) := by rw [← pow4]; congr 1
    rw [e2]
    rw [e] at h
    refine Nat.or_lt_two_pow (Nat.lt_trans h (Nat.pow_lt_pow_right (by decide) (by omega))) ?_
    split
    · rw [e]; exact Nat.pow_lt_pow_right (by decide) (by omega)
    · exact Nat.two_pow_pos _
theorem dg_pow (n i : Nat) : dg (4 ^ n) i = if i = n then 1 else 0 := by
  unfold dg
  by_cases h : i = n
  · subst h; rw [if_pos rfl, Nat.div_self (Nat.pow_pos (by decide))]
  · rw [if_neg h]
    by_cases h2 : i < n
    · rw [Nat.pow_div (by omega) (by decide)]
      obtain ⟨m, hm⟩ : ∃ m, n - i = m + 1 := ⟨n - i - 1, by omega⟩
      rw [hm, Nat.pow_succ]
      omega
    · rw [Nat.div_eq_of_lt (Nat.pow_lt_pow_right (by decide) (by omega))]
theorem evenTo_dg (f : Nat → Bool) : ∀ n i, dg (evenTo f n) i = if i < n ∧ f i = true then 1 else 0
  | 0, i => by simp [evenTo, dg]
  | n + 1, i => by
    rw [evenTo, dg_or, evenTo_dg f n i]
    by_cases h : i = n
    · subst h
      cases hf : f i
      · simp [dg]
      · simp [dg_pow]
    · have h2 : dg (if f n then 4 ^ n else 0) i = 0 := by
        split
        · rw [dg_pow, if_neg h]
        · simp [dg]
      rw [h2, Nat.or_zero]
      by_cases h3 : i < n
      · simp [h3, Nat.lt_succ_of_lt h3]
      · have : ¬ i < n + 1 := by omega
        simp [h3, this]
