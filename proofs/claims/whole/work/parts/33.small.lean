-- part 33: the class's and the reference's small functions over a journey
def HX (J : Jr) (M : Mem) (o : Nat) : Prop := M.1 o 3 = nI (nT J) ∧ M.1 o 4 = nI (nD J) ∧ M.1 o 5 = nI (unsTo J (nD J)) ∧ M.1 o 6 = nI (topsB J) ∧ M.1 o 7 = nI (botsB J) ∧ M.1 o 8 = nI (coatsB J) ∧ M.1 o 9 = nI (lastB J) ∧ M.1 o 10 = nI (lateB J) ∧ (∀ i, i < nT J → ∀ k, k < 8 → M.1 (o + 1) (8 * i + k) = nI (tf J i k)) ∧ (∀ d, d < nD J → ∀ k, k < 4 → M.1 (o + 2) (4 * d + k) = nI (df J d k)) ∧ (∀ i, i < nT J → M.1 (o + 3) i = nI (ap J i))
def HJ (J : Jr) (M : Mem) : Prop := M.1 38 0 = nI (nT J) ∧ M.1 41 0 = nI (nD J) ∧ (∀ i, i < nT J → ∀ k, k < 8 → M.1 39 (8 * i + k) = nI (tf J i k)) ∧ (∀ d, d < nD J → ∀ k, k < 4 → M.1 42 (4 * d + k) = nI (df J d k)) ∧ (∀ i, i < nT J → M.1 40 i = nI (ap J i))
theorem HX.same {J : Jr} {M M' : Mem} {o : Nat} (h : HX J M o) (e0 : M'.1 o = M.1 o) (e1 : M'.1 (o + 1) = M.1 (o + 1)) (e2 : M'.1 (o + 2) = M.1 (o + 2)) (e3 : M'.1 (o + 3) = M.1 (o + 3)) : HX J M' o := by
  unfold HX; rw [e0, e1, e2, e3]; exact h
theorem HJ.same {J : Jr} {M M' : Mem} (h : HJ J M) (e0 : M'.1 38 = M.1 38) (e1 : M'.1 41 = M.1 41) (e2 : M'.1 39 = M.1 39) (e3 : M'.1 42 = M.1 42) (e4 : M'.1 40 = M.1 40) : HJ J M' := by
  unfold HJ; rw [e0, e1, e2, e3, e4]; exact h
theorem tb {s i : Nat} : s.testBit i = decide (s / 2 ^ i % 2 = 1) := Nat.testBit_eq_decide_div_mod_eq
theorem bit1 {s i : Nat} (hs : s < 2 ^ 31) (hi : i < 32) : ((nI s >>> (nI i &&& nI 31)) &&& nI 1) = b2 (s.testBit i) := by
  rw [nI_shr hs hi, nI_and, Nat.and_one_is_mod, tb]
  have h := Nat.mod_lt (s / 2 ^ i) (show 0 < 2 by decide)
  rcases (by omega : s / 2 ^ i % 2 = 0 ∨ s / 2 ^ i % 2 = 1) with e | e <;> rw [e] <;> rfl
theorem bit1' {s i : Nat} (hs : s < 2 ^ 31) (hi : i < 32) : ((nI s >>> (nI i &&& (31 : Int32))) &&& (1 : Int32)) = b2 (s.testBit i) := bit1 hs hi
theorem tl0 (n : Nat) (h : n < 2 ^ 31) : (nI n < (0 : Int32)) = False := lt0I h
theorem has_nat {M : Mem} {s i : Nat} (hs : s < 2 ^ 31) (hi : i < 6) : f_X9_has M (nI s) (nI i) = b2 (s.testBit i) := by
  unfold f_X9_has
  rw [bit1' hs (by omega)]
  simp (disch := omega) only [lit, ltI, leI, if_neg]
  cases s.testBit i <;> rfl
theorem has_any {M : Mem} {s : Nat} {x : Int32} (hs : s < 2 ^ 31) : (∃ i, i < 6 ∧ x = nI i ∧ f_X9_has M (nI s) x = b2 (s.testBit i)) ∨ ((∀ i, i < 6 → x ≠ nI i) ∧ f_X9_has M (nI s) x = 0) := by
  rcases pk_ix x (n := 6) (by decide) with h | h | ⟨i, hi, rfl⟩
  · refine Or.inr ⟨fun i hi e => ?_, ?_⟩
    · subst e; exact nI_pos (by omega) h
    · unfold f_X9_has; rw [if_pos h]
  · refine Or.inr ⟨fun i hi e => ?_, ?_⟩
    · subst e
      rw [leI (by omega) (by omega)] at h
      omega
    · have h : (6 : Int32) ≤ x := h
      unfold f_X9_has
      by_cases h0 : x < 0
      · rw [if_pos h0]
      · rw [if_neg h0, if_pos h]
  · exact Or.inl ⟨i, hi, rfl, has_nat hs hi⟩
theorem mul2 (i : Nat) : (2 : Int32) * nI i = nI (2 * i) := mulI 2 i
theorem stateOf_nat {M : Mem} {h i : Nat} (hh : h < 4096) (hi : i < 6) : f_X9_stateOf M (nI h) (nI i) = nI (dg h i) := by
  unfold f_X9_stateOf
  rw [mul2, lit 31, lit 3, nI_shr (by omega) (by omega), nI_and, dg_bits]
theorem howIs_nat {M : Mem} {h i : Nat} (hh : h < 4096) (hi : i < 6) : f_X10_howIs M (nI h) (nI i) = nI (dg h i) := by
  unfold f_X10_howIs
  rw [mul2, lit 31, lit 3, nI_shr (by omega) (by omega), nI_and, dg_bits]
theorem isOf_nat {M : Mem} {s i : Nat} (hs : s < 2 ^ 31) (hi : i < 32) : f_X10_isOf M (nI s) (nI i) = b2 (s.testBit i) := by
  unfold f_X10_isOf
  rw [bit1' hs hi]
  cases s.testBit i <;> rfl
section CLS
variable {J : Jr} {M : Mem} {o : Nat}
theorem hasThing_nat (h : HX J M o) (hW : WJ J) {i : Nat} (hi : i < 2 ^ 31) : f_X8_hasThing M o (nI i) = b2 (decide (i < nT J)) := by
  have h6 := hW.1
  unfold f_X8_hasThing
  rw [h.1]
  by_cases hlt : i < nT J
  · simp (disch := omega) only [lit, ltI, leI, if_neg]
    simp [hlt, b2]; rfl
  · simp (disch := omega) only [lit, ltI, leI, if_neg, if_pos]
    simp [hlt, b2]; rfl
theorem hasThing_any (h : HX J M o) (hW : WJ J) (x : Int32) : (∃ i, i < nT J ∧ x = nI i ∧ f_X8_hasThing M o x = 1) ∨ ((∀ i, i < nT J → x ≠ nI i) ∧ f_X8_hasThing M o x = 0) := by
  have h6 := hW.1
  rcases pk_ix x (n := nT J) (by omega) with h0 | h0 | ⟨i, hi, rfl⟩
  · refine Or.inr ⟨fun i hi e => ?_, ?_⟩
    · subst e; exact nI_pos (by omega) h0
    · unfold f_X8_hasThing; rw [if_pos h0]
  · refine Or.inr ⟨fun i hi e => ?_, ?_⟩
    · subst e
      rw [leI (by omega) (by omega)] at h0
      omega
    · unfold f_X8_hasThing
      rw [h.1]
      by_cases h1 : x < 0
      · rw [if_pos h1]
      · rw [if_neg h1, if_pos h0]
  · exact Or.inl ⟨i, hi, rfl, by rw [hasThing_nat h hW (by omega)]; simp [hi, b2]⟩
theorem hasDay_any (h : HX J M o) (hW : WJ J) (x : Int32) : (∃ i, i < nD J ∧ x = nI i ∧ f_X8_hasDay M o x = 1) ∨ ((∀ i, i < nD J → x ≠ nI i) ∧ f_X8_hasDay M o x = 0) := by
  have h6 := hW.2.1
  rcases pk_ix x (n := nD J) (by omega) with h0 | h0 | ⟨i, hi, rfl⟩
  · refine Or.inr ⟨fun i hi e => ?_, ?_⟩
    · subst e; exact nI_pos (by omega) h0
    · unfold f_X8_hasDay; rw [if_pos h0]
  · refine Or.inr ⟨fun i hi e => ?_, ?_⟩
    · subst e
      rw [leI (by omega) (by omega)] at h0
      omega
    · unfold f_X8_hasDay
      rw [h.2.1]
      by_cases h1 : x < 0
      · rw [if_pos h1]
      · rw [if_neg h1, if_pos h0]
  · refine Or.inl ⟨i, hi, rfl, ?_⟩
    unfold f_X8_hasDay
    rw [h.2.1]
    simp (disch := omega) only [lit, ltI, leI, if_neg]
theorem hasDay_nat (h : HX J M o) (hW : WJ J) {d : Nat} (hd : d < nD J) : f_X8_hasDay M o (nI d) = 1 := by
  have h6 := hW.2.1
  rcases hasDay_any h hW (nI d) with ⟨i, hi, e, h1⟩ | ⟨h1, -⟩
  · exact h1
  · exact absurd rfl (h1 d hd)
theorem fact_nat (h : HX J M o) (hW : WJ J) {i k : Nat} (hi : i < nT J) (hk : k < 8) : f_X8_fact M o (nI i) (nI k) = some (nI (tf J i k)) := by
  have h6 := hW.1
  have h1 : f_X8_hasThing M o (nI i) = 1 := by rw [hasThing_nat h hW (by omega)]; simp [hi, b2]
  unfold f_X8_fact
  rw [h1, if_neg (by decide)]
  simp (disch := omega) only [lit, ltI, leI, mulI, addI, clI, ckI, if_neg, if_true]
  rw [show i * 8 + k = 8 * i + k by omega, h.2.2.2.2.2.2.2.2.1 i hi k hk]
theorem want_nat (h : HX J M o) (hW : WJ J) {d k : Nat} (hd : d < nD J) (hk : k < 4) : f_X8_want M o (nI d) (nI k) = some (nI (df J d k)) := by
  have h6 := hW.2.1
  unfold f_X8_want
  rw [hasDay_nat h hW hd, if_neg (by decide)]
  simp (disch := omega) only [lit, ltI, leI, mulI, addI, clI, ckI, if_neg, if_true]
  rw [show d * 4 + k = 4 * d + k by omega, h.2.2.2.2.2.2.2.2.2.1 d hd k hk]
theorem together_nat (h : HX J M o) (hW : WJ J) {i j : Nat} (hi : i < nT J) (hj : j < nT J) : f_X8_together M o (nI i) (nI j) = some (b2 (goesB J i j)) := by
  have h6 := hW.1
  have ha := hW.2.2.2.2.1 i hi
  unfold f_X8_together
  have h1 : f_X8_hasThing M o (nI i) = 1 := by rw [hasThing_nat h hW (by omega)]; simp [hi, b2]
  have h2 : f_X8_hasThing M o (nI j) = 1 := by rw [hasThing_nat h hW (by omega)]; simp [hj, b2]
  rw [h1, h2, if_neg (by decide), if_neg (by decide), ckI (by omega) (by decide), if_pos rfl, clI (by omega), h.2.2.2.2.2.2.2.2.2.2 i hi, bit1' (by omega) (by omega)]
  unfold goesB
  cases (ap J i).testBit j <;> rfl
end CLS
