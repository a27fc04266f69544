-- part 34: warmth, fitness, a night: class and reference
theorem imaxI {a b : Nat} (ha : a < 2 ^ 31) (hb : b < 2 ^ 31) : imax (nI a) (nI b) = nI (max a b) := by
  unfold imax
  simp only [ltI ha hb]
  by_cases h : a < b
  · rw [if_pos h, Nat.max_eq_right (by omega)]
  · rw [if_neg h, Nat.max_eq_left (by omega)]
theorem warmTo_le {J : Jr} (hW : WJ J) (s : Nat) : ∀ n, n ≤ nT J → warmTo J s n ≤ 9
  | 0, _ => by simp [warmTo]
  | n + 1, h => by
    have h1 := warmTo_le hW s n (by omega)
    have h2 := (hW.2.2.1 n (by omega)).2.1
    unfold warmTo
    split <;> omega
theorem bits_lt {J : Jr} (hW : WJ J) (f : Nat → Bool) : bitsTo f (nT J) < 64 := Nat.lt_of_lt_of_le (bitsTo_lt f _) (Nat.pow_le_pow_right (by decide) hW.1 : 2 ^ nT J ≤ 2 ^ 6)
theorem b2_n0 {b : Bool} : (b2 b = nI 0) = (b = false) := b2_0
theorem b2_n1 {b : Bool} : (b2 b = nI 1) = (b = true) := b2_1
theorem b2_nt : ¬ b2 true = 0 := by decide
theorem b2n0 : (b2 false = (0 : Int32)) = True := by simp [b2]
theorem b2n1 : (b2 true = (0 : Int32)) = False := by simp [b2]
section CLS
variable {J : Jr} {M : Mem} {o : Nat}
theorem warmest_loop (h : HX J M o) (hW : WJ J) {F s : Nat} (hs : s < 64) : ∀ (k i n : Nat), i + k = nT J → k < n → f_X8_warmestCoat_4 F M o n (nI s) (nI (warmTo J s i)) (nI i) = some (nI (warm J s))
  | 0, i, n + 1, hi, _ => by
    have h6 := hW.1
    rw [f_X8_warmestCoat_4, h.1]
    simp (disch := omega) only [leI, if_pos]
    rw [show i = nT J by omega]; rfl
  | k + 1, i, n + 1, hi, hn => by
    have h6 := hW.1
    have h9 := warmTo_le hW s i (by omega)
    have hc := bits_lt hW (isK J 2)
    have hf := (hW.2.2.1 i (by omega)).2.1
    rw [f_X8_warmestCoat_4, h.1, h.2.2.2.2.2.1, nI_and, has_nat (Nat.lt_of_le_of_lt Nat.and_le_left (by omega)) (by omega), Nat.testBit_and, show (coatsB J).testBit i = isK J 2 i by rw [coatsB, bitsTo_bit]; simp; omega]
    simp (disch := omega) only [leI, if_neg]
    have hst := warmest_loop h hW (F := F) hs k (i + 1) n (by omega) (by omega)
    rw [lit 1, fact_nat h hW (by omega) (by decide), addI]
    unfold warmTo at hst
    cases hb : (s.testBit i && isK J 2 i)
    · rw [hb] at hst
      rw [if_pos b2_f]
      exact hst
    · rw [hb] at hst
      rw [if_neg b2_nt]
      simp only [Option.bind_some]
      rw [imaxI (by omega) (by omega)]
      exact hst
  | _, _, 0, _, hn => absurd hn (Nat.not_lt_zero _)
theorem warmest_nat (h : HX J M o) (hW : WJ J) {F s : Nat} (hs : s < 64) (hF : 7 ≤ F) : f_X8_warmestCoat F M o (nI s) = some (nI (warm J s)) := warmest_loop h hW hs (nT J) 0 F (by omega) (by have := hW.1; omega)
theorem suits_nat (h : HX J M o) (hW : WJ J) {d t b s : Nat} (hd : d < nD J) (ht : t < nT J) (hb : b < nT J) (h1 : s.testBit t = true) (h2 : s.testBit b = true) (h3 : isK J 0 t = true) (h4 : isK J 1 b = true) : f_X8_suits M o (nI d) (nI t) (nI b) (nI (warm J s)) = some (b2 (suitsB J s d t b)) := by
  have hft := hW.2.2.1 t ht
  have hfb := hW.2.2.1 b hb
  have hdd := hW.2.2.2.1 d hd
  have hw := warmTo_le hW s (nT J) (Nat.le_refl _)
  have hw : warm J s ≤ 9 := hw
  unfold f_X8_suits
  rw [lit 1, lit 2, lit 0, want_nat h hW hd (by decide), want_nat h hW hd (by decide), together_nat h hW ht hb, fact_nat h hW ht (by decide), fact_nat h hW ht (by decide), fact_nat h hW hb (by decide), fact_nat h hW hb (by decide)]
  simp only [Option.bind_some, addI]
  unfold suitsB
  simp only [ht, hb, h1, h2, h3, h4, decide_true, Bool.true_and]
  cases hg : goesB J t b
  · simp (disch := omega) only [lit, ltI, leI, eqI, addI, mulI, subI, clI, ckI, if_pos, if_neg, if_true, if_false, Option.bind_some, b2_0, b2_n0, b2_1, b2_n1, Bool.true_eq_false, Bool.false_eq_true, b2_t, b2_f]
    rfl
  · by_cases c1 : df J d 1 ≤ tf J t 2
    · by_cases c2 : df J d 1 ≤ tf J b 2
      · by_cases c3 : df J d 0 ≤ tf J t 1 + tf J b 1 + warm J s
        · simp (disch := omega) only [lit, ltI, leI, eqI, addI, mulI, subI, clI, ckI, if_pos, if_neg, if_true, if_false, Option.bind_some, b2_0, b2_n0, b2_1, b2_n1, Bool.true_eq_false, Bool.false_eq_true, b2_t, b2_f]
          simp [c1, c2, c3, b2]; rfl
        · simp (disch := omega) only [lit, ltI, leI, eqI, addI, mulI, subI, clI, ckI, if_pos, if_neg, if_true, if_false, Option.bind_some, b2_0, b2_n0, b2_1, b2_n1, Bool.true_eq_false, Bool.false_eq_true, b2_t, b2_f]
          simp [c1, c2, c3, b2]; rfl
      · simp (disch := omega) only [lit, ltI, leI, eqI, addI, mulI, subI, clI, ckI, if_pos, if_neg, if_true, if_false, Option.bind_some, b2_0, b2_n0, b2_1, b2_n1, Bool.true_eq_false, Bool.false_eq_true, b2_t, b2_f]
        simp [c1, c2, b2]; rfl
    · simp (disch := omega) only [lit, ltI, leI, eqI, addI, mulI, subI, clI, ckI, if_pos, if_neg, if_true, if_false, Option.bind_some, b2_0, b2_n0, b2_1, b2_n1, Bool.true_eq_false, Bool.false_eq_true, b2_t, b2_f]
      simp [c1, b2]; rfl
theorem ready_nat (h : HX J M o) (hW : WJ J) {s x i : Nat} (hx : okH J s x) (hi : i < nT J) : f_X8_isReady M o (nI x) (nI i) = b2 (rdy x i) := by
  have h6 := hW.1
  have h4 := dg_lt x i
  have hl := bits_lt hW (fun i => decide (tf J i 6 = 2))
  unfold f_X8_isReady rdy
  rw [stateOf_nat hx.1 (by omega), h.2.2.2.2.2.2.1, has_nat (by unfold lastB; omega) (by omega), show (lastB J).testBit i = decide (tf J i 6 = 2) by rw [lastB, bitsTo_bit]; simp; omega]
  rcases (by omega : dg x i = 0 ∨ dg x i = 1 ∨ dg x i = 2 ∨ dg x i = 3) with e | e | e | e
  · rw [e]; rfl
  · have e2 := (hx.2 i (by omega)).2.2 e
    rw [e2, e]; rfl
  · rw [e]; rfl
  · rw [e]; rfl
theorem worn_nat (h : HX J M o) (hW : WJ J) {x i : Nat} {k : Bool} (hx : x < 4096) (hi : i < nT J) : f_X8_worn M o (nI x) (nI i) (b2 k) = nI (worn J x i k) := by
  have h6 := hW.1
  have h4 := dg_lt x i
  have hl := bits_lt hW (fun i => decide (tf J i 6 = 2))
  have hsd : ∀ v, v < 4 → f_X8_worn_46 M o (nI x) (nI i) (nI v) = nI (sd x i v) := by
    intro v hv
    unfold f_X8_worn_46
    rw [mul2, lit 31, lit 3, nI_shl (by omega), nI_shl (by omega), nI_andn, nI_or, setd hx (by omega) hv]
  unfold f_X8_worn worn wornD
  rw [mul2, lit 31, lit 3, nI_shr (by omega) (by omega), nI_and, dg_bits, h.2.2.2.2.2.2.1]
  have hb1 := bit1 (s := lastB J) (i := i) (by unfold lastB; omega) (by omega)
  rw [show (nI 1) = (1 : Int32) from rfl] at hb1
  rw [hb1, show (lastB J).testBit i = decide (tf J i 6 = 2) by rw [lastB, bitsTo_bit]; simp; omega]
  simp (disch := omega) only [lit, ltI, leI, eqI, addI, mulI, subI, clI, ckI, if_pos, if_neg, if_true, if_false, Option.bind_some, b2_0, b2_n0, b2_1, b2_n1, Bool.true_eq_false, Bool.false_eq_true, b2_t, b2_f, hsd]
  by_cases c : dg x i = 0
  · by_cases c2 : tf J i 6 = 2
    · cases k <;> simp (disch := omega) only [lit, ltI, leI, eqI, addI, mulI, subI, clI, ckI, if_pos, if_neg, if_true, if_false, Option.bind_some, b2_0, b2_n0, b2_1, b2_n1, Bool.true_eq_false, Bool.false_eq_true, b2_t, b2_f, c, c2, decide_true, and_self]
    · cases k <;> simp (disch := omega) only [lit, ltI, leI, eqI, addI, mulI, subI, clI, ckI, if_pos, if_neg, if_true, if_false, Option.bind_some, b2_0, b2_n0, b2_1, b2_n1, Bool.true_eq_false, Bool.false_eq_true, b2_t, b2_f, c, c2, decide_false, and_false]
  · simp (disch := omega) only [lit, ltI, leI, eqI, addI, mulI, subI, clI, ckI, if_pos, if_neg, if_true, if_false, Option.bind_some, b2_0, b2_n0, b2_1, b2_n1, Bool.true_eq_false, Bool.false_eq_true, b2_t, b2_f, c, false_and]
end CLS
