-- part 31: what a journey is, and what follows from it (in naturals)
/-- things, days, facts of things, wants of days, which are apart (bits) -/
abbrev Jr : Type := Nat × Nat × (Nat → Nat → Nat) × (Nat → Nat → Nat) × (Nat → Nat)
def nT (J : Jr) : Nat := J.1
def nD (J : Jr) : Nat := J.2.1
def tf (J : Jr) (i k : Nat) : Nat := J.2.2.1 i k
def df (J : Jr) (d k : Nat) : Nat := J.2.2.2.1 d k
def ap (J : Jr) (i : Nat) : Nat := J.2.2.2.2 i
def uns (r : Nat) : Bool := 0 < r && r < 10
/-- how many of the first d days are unsure -/
def unsTo (J : Jr) : Nat → Nat
  | 0 => 0
  | d + 1 => unsTo J d + if uns (df J d 3) then 1 else 0
def WJ (J : Jr) : Prop := nT J ≤ 6 ∧ nD J ≤ 8 ∧ (∀ i, i < nT J → tf J i 0 ≤ 2 ∧ tf J i 1 ≤ 9 ∧ tf J i 2 ≤ 9 ∧ (1 ≤ tf J i 3 ∧ tf J i 3 ≤ 99) ∧ (1 ≤ tf J i 4 ∧ tf J i 4 ≤ 99) ∧ tf J i 5 ≤ 99 ∧ (tf J i 6 ≤ 2 ∧ (tf J i 0 ≠ 2 → 1 ≤ tf J i 6)) ∧ tf J i 7 ≤ 1) ∧ (∀ d, d < nD J → df J d 0 ≤ 27 ∧ df J d 1 ≤ 9 ∧ df J d 2 ≤ 1 ∧ df J d 3 ≤ 10) ∧ (∀ i, i < nT J → ap J i < 64) ∧ unsTo J (nD J) ≤ 4
/-- the bits of the first n things that are so -/
def bitsTo (f : Nat → Bool) : Nat → Nat
  | 0 => 0
  | n + 1 => bitsTo f n ||| (if f n then 2 ^ n else 0)
theorem bitsTo_lt (f : Nat → Bool) : ∀ n, bitsTo f n < 2 ^ n
  | 0 => Nat.one_pos
  | n + 1 => by
    have h := bitsTo_lt f n
    have h2 : (if f n then 2 ^ n else 0) < 2 ^ (n + 1) := by split <;> rw [Nat.pow_succ] <;> have := Nat.two_pow_pos n <;> omega
    exact Nat.or_lt_two_pow (Nat.lt_trans h (by rw [Nat.pow_succ]; have := Nat.two_pow_pos n; omega)) h2
theorem bitsTo_bit (f : Nat → Bool) : ∀ n i, (bitsTo f n).testBit i = (decide (i < n) && f i)
  | 0, i => by simp [bitsTo]
  | n + 1, i => by
    rw [bitsTo, Nat.testBit_or, bitsTo_bit f n i]
    by_cases h : i = n
    · subst h
      cases hf : f i <;> simp [Nat.testBit_two_pow_self]
    · have h2 : (if f n then 2 ^ n else 0).testBit i = false := by
        split
        · rw [Nat.testBit_two_pow]; simp; omega
        · simp
      rw [h2, Bool.or_false]
      by_cases h3 : i < n
      · simp [h3, Nat.lt_succ_of_lt h3]
      · have : ¬ i < n + 1 := by omega
        simp [h3, this]
def isK (J : Jr) (k i : Nat) : Bool := decide (tf J i 0 = k)
def topsB (J : Jr) : Nat := bitsTo (isK J 0) (nT J)
def botsB (J : Jr) : Nat := bitsTo (isK J 1) (nT J)
def coatsB (J : Jr) : Nat := bitsTo (isK J 2) (nT J)
def lastB (J : Jr) : Nat := bitsTo (fun i => decide (tf J i 6 = 2)) (nT J)
/-- bits at even places -/
def evenTo (f : Nat → Bool) : Nat → Nat
  | 0 => 0
  | n + 1 => evenTo f n ||| (if f n then 4 ^ n else 0)
def lateB (J : Jr) : Nat := evenTo (fun i => decide (tf J i 7 ≠ 0)) (nT J)
def allB (J : Jr) : Nat := 2 ^ nT J - 1
def goesB (J : Jr) (i j : Nat) : Bool := !(ap J i).testBit j
/-- a fact added over a set's first n things -/
def sumTo (J : Jr) (s k : Nat) : Nat → Nat
  | 0 => 0
  | n + 1 => sumTo J s k n + if s.testBit n then tf J n k else 0
def warmTo (J : Jr) (s : Nat) : Nat → Nat
  | 0 => 0
  | n + 1 => if s.testBit n && isK J 2 n then max (warmTo J s n) (tf J n 1) else warmTo J s n
def warm (J : Jr) (s : Nat) : Nat := warmTo J s (nT J)
def coatTo (J : Jr) (s : Nat) : Nat → Bool
  | 0 => false
  | n + 1 => coatTo J s n || (s.testBit n && isK J 2 n)
def hasCoat (J : Jr) (s : Nat) : Bool := coatTo J s (nT J)
def suitsB (J : Jr) (s d t b : Nat) : Bool := decide (t < nT J) && decide (b < nT J) && s.testBit t && s.testBit b && isK J 0 t && isK J 1 b && goesB J t b && decide (df J d 1 ≤ tf J t 2) && decide (df J d 1 ≤ tf J b 2) && decide (df J d 0 ≤ tf J t 1 + tf J b 1 + warm J s)
def rdy (h i : Nat) : Bool := decide (dg h i ≤ 1)
def wornD (J : Jr) (h i : Nat) (k : Bool) : Nat := if dg h i = 0 ∧ tf J i 6 = 2 then (if k then 3 else 1) else 2
def worn (J : Jr) (h i : Nat) (k : Bool) : Nat := sd h i (wornD J h i k)
def nightD (J : Jr) (s h y : Nat) (ws : Bool) (i : Nat) : Nat := if dg h i = 3 then 0 else if ws && s.testBit i && (decide (dg y i = 1) || decide (dg y i = 2)) then (if tf J i 7 = 1 then 3 else 0) else dg y i
def nightTo (J : Jr) (s h c : Nat) (ws : Bool) : Nat → Nat
  | 0 => c
  | n + 1 => sd (nightTo J s h c ws n) n (nightD J s h (nightTo J s h c ws n) ws n)
/-- how all are behind a day -/
def nxt (J : Jr) (s h t b : Nat) (ws k : Bool) : Nat := nightTo J s h (worn J (worn J h t k) b k) ws (nT J)
def soakB (J : Jr) (s w d : Nat) : Bool := w.testBit d && !hasCoat J s
/-- how things are, so far as a set was worn -/
def okH (J : Jr) (s h : Nat) : Prop := h < 4096 ∧ ∀ i, dg h i ≠ 0 → i < nT J ∧ s.testBit i = true ∧ (dg h i = 1 → tf J i 6 = 2)
-- digits
theorem dg_hi {h i : Nat} (hh : h < 4096) (hi : 6 ≤ i) : dg h i = 0 := by
  have h1 : (4 : Nat) ^ 6 ≤ 4 ^ i := Nat.pow_le_pow_right (by decide) hi
  unfold dg
  rw [Nat.div_eq_of_lt (by omega)]
theorem sd_lt {h i v : Nat} (hh : h < 4096) (hi : i < 6) (hv : v < 4) : sd h i v < 4096 := by
  unfold sd dg
  rcases (by omega : i = 0 ∨ i = 1 ∨ i = 2 ∨ i = 3 ∨ i = 4 ∨ i = 5) with rfl | rfl | rfl | rfl | rfl | rfl <;> simp only [Nat.reducePow] <;> omega
theorem dg_sd {h i j v : Nat} (hh : h < 4096) (hi : i < 6) (hj : j < 6) (hv : v < 4) : dg (sd h i v) j = if j = i then v else dg h j := by
  unfold sd dg
  rcases (by omega : i = 0 ∨ i = 1 ∨ i = 2 ∨ i = 3 ∨ i = 4 ∨ i = 5) with rfl | rfl | rfl | rfl | rfl | rfl <;>
  rcases (by omega : j = 0 ∨ j = 1 ∨ j = 2 ∨ j = 3 ∨ j = 4 ∨ j = 5) with rfl | rfl | rfl | rfl | rfl | rfl <;> simp only [Nat.reducePow, Nat.reduceEqDiff, if_true, if_false] <;> omega
theorem dg_ext {a b : Nat} (ha : a < 4096) (hb : b < 4096) (h : ∀ i, i < 6 → dg a i = dg b i) : a = b := by
  have h0 := h 0 (by decide); have h1 := h 1 (by decide); have h2 := h 2 (by decide); have h3 := h 3 (by decide); have h4 := h 4 (by decide); have h5 := h 5 (by decide)
  simp only [dg] at h0 h1 h2 h3 h4 h5
  omega
