-- part 57: calls: allGo
def SY (J : Jr) : Prop := ∀ i, i < nT J → ∀ j, j < nT J → (ap J i).testBit j = (ap J j).testBit i ∧ (ap J i).testBit i = false
section CALLS
variable {J : Jr} {F : Nat}
/-- each two of a set go together -/
def gg (J : Jr) (k : Nat) : Bool := decide (∀ i, i < nT J → ∀ j, j < nT J → k.testBit i = true → k.testBit j = true → (ap J i).testBit j = false)
theorem amX_in (hW : WJ J) {k i : Nat} {N : Mem} {K : Int32 → Int32 → Option Int32} (hJ : HX J N 3) (hk : k < 64) (hi : i < nT J) :
    ∀ (m j n : Nat), j + m = i → m < n → ((∀ j', j ≤ j' → j' < i → k.testBit i = true → k.testBit j' = true → goesB J i j' = true) → f_X0_allMatch_15 F N K n (nI k) (nI i) (nI j) = K (nI k) (nI (i + 1))) ∧ ((¬ ∀ j', j ≤ j' → j' < i → k.testBit i = true → k.testBit j' = true → goesB J i j' = true) → f_X0_allMatch_15 F N K n (nI k) (nI i) (nI j) = some 0)
  | 0, j, n + 1, hj, _ => by
    have h6 := hW.1
    refine ⟨fun _ => ?_, fun h => absurd (fun j' h1 h2 => by omega) h⟩
    rw [f_X0_allMatch_15]
    simp (disch := omega) only [lit, ltI, leI, eqI, addI, mulI, subI, clI, ckI, if_pos, if_neg, if_true, if_false, Option.bind_some, b2_0, b2_n0, b2_1, b2_n1, Bool.true_eq_false, Bool.false_eq_true, b2_t, b2_f]
  | m + 1, j, n + 1, hj, hn => by
    have h6 := hW.1
    obtain ⟨ih1, ih2⟩ := amX_in hW (K := K) hJ hk hi m (j + 1) n (by omega) (by omega)
    have htg := together_nat hJ hW hi (show j < nT J by omega)
    have hstep : f_X0_allMatch_15 F N K (n + 1) (nI k) (nI i) (nI j) = if k.testBit i = true ∧ k.testBit j = true ∧ goesB J i j = false then some 0 else f_X0_allMatch_15 F N K n (nI k) (nI i) (nI (j + 1)) := by
      rw [f_X0_allMatch_15]
      cases h1 : k.testBit i
      · simp (disch := omega) only [lit, ltI, leI, eqI, addI, mulI, subI, clI, ckI, if_pos, if_neg, if_true, if_false, Option.bind_some, b2_0, b2_n0, b2_1, b2_n1, Bool.true_eq_false, Bool.false_eq_true, b2_t, b2_f, has_nat, h1]
        simp
      · cases h2 : k.testBit j
        · simp (disch := omega) only [lit, ltI, leI, eqI, addI, mulI, subI, clI, ckI, if_pos, if_neg, if_true, if_false, Option.bind_some, b2_0, b2_n0, b2_1, b2_n1, Bool.true_eq_false, Bool.false_eq_true, b2_t, b2_f, has_nat, h1, h2]
          simp
        · cases h3 : goesB J i j
          · rw [h3] at htg
            simp (disch := omega) only [lit, ltI, leI, eqI, addI, mulI, subI, clI, ckI, if_pos, if_neg, if_true, if_false, Option.bind_some, b2_0, b2_n0, b2_1, b2_n1, Bool.true_eq_false, Bool.false_eq_true, b2_t, b2_f, has_nat, h1, h2, htg]
            simp
          · rw [h3] at htg
            simp (disch := omega) only [lit, ltI, leI, eqI, addI, mulI, subI, clI, ckI, if_pos, if_neg, if_true, if_false, Option.bind_some, b2_0, b2_n0, b2_1, b2_n1, Bool.true_eq_false, Bool.false_eq_true, b2_t, b2_f, has_nat, h1, h2, htg]
            simp
    rw [hstep]
    refine ⟨fun h => ?_, fun h => ?_⟩
    · rw [if_neg (by
        rintro ⟨a, b, c⟩
        have := h j (Nat.le_refl _) (by omega) a b
        rw [c] at this
        cases this)]
      exact ih1 (fun j' h1 h2 => h j' (by omega) h2)
    · by_cases c : k.testBit i = true ∧ k.testBit j = true ∧ goesB J i j = false
      · rw [if_pos c]
      · rw [if_neg c]
        refine ih2 (fun h' => h (fun j' h1 h2 a b => ?_))
        by_cases e : j' = j
        · subst e
          cases hg : goesB J i j'
          · exact absurd ⟨a, b, hg⟩ c
          · rfl
        · exact h' j' (by omega) h2 a b
  | _, _, 0, _, hn => absurd hn (Nat.not_lt_zero _)
theorem amX_out (hW : WJ J) {k : Nat} {N : Mem} (hF : 100 ≤ F) (hJ : HX J N 3) (hk : k < 64) :
    ∀ (m i n : Nat), i + m = nT J → m < n → ((∀ i', i ≤ i' → i' < nT J → ∀ j', j' < i' → k.testBit i' = true → k.testBit j' = true → goesB J i' j' = true) → f_X0_allMatch_2 F N n (nI k) (nI i) = some 1) ∧ ((¬ ∀ i', i ≤ i' → i' < nT J → ∀ j', j' < i' → k.testBit i' = true → k.testBit j' = true → goesB J i' j' = true) → f_X0_allMatch_2 F N n (nI k) (nI i) = some 0)
  | 0, i, n + 1, hi, _ => by
    have h6 := hW.1
    refine ⟨fun _ => ?_, fun h => absurd (fun i' h1 h2 => by omega) h⟩
    rw [f_X0_allMatch_2, show f_X8_things N 3 = nI (nT J) from hJ.1]
    simp (disch := omega) only [lit, ltI, leI, eqI, addI, mulI, subI, clI, ckI, if_pos, if_neg, if_true, if_false, Option.bind_some, b2_0, b2_n0, b2_1, b2_n1, Bool.true_eq_false, Bool.false_eq_true, b2_t, b2_f]
  | m + 1, i, n + 1, hi, hn => by
    have h6 := hW.1
    obtain ⟨ih1, ih2⟩ := amX_out hW hF hJ hk m (i + 1) n (by omega) (by omega)
    obtain ⟨a1, a2⟩ := amX_in hW (F := F) (K := fun y1 y2 => f_X0_allMatch_2 F N n y1 y2) hJ hk (show i < nT J by omega) i 0 F (by omega) (by omega)
    have hstep : f_X0_allMatch_2 F N (n + 1) (nI k) (nI i) = f_X0_allMatch_15 F N (fun y1 y2 => f_X0_allMatch_2 F N n y1 y2) F (nI k) (nI i) (nI 0) := by
      rw [f_X0_allMatch_2, show f_X8_things N 3 = nI (nT J) from hJ.1]
      simp (disch := omega) only [lit, ltI, leI, eqI, addI, mulI, subI, clI, ckI, if_pos, if_neg, if_true, if_false, Option.bind_some, b2_0, b2_n0, b2_1, b2_n1, Bool.true_eq_false, Bool.false_eq_true, b2_t, b2_f]
    rw [hstep]
    refine ⟨fun h => ?_, fun h => ?_⟩
    · rw [a1 (fun j' _ h2 => h i (Nat.le_refl _) (by omega) j' h2)]
      exact ih1 (fun i' h1 h2 => h i' (by omega) h2)
    · by_cases c : ∀ j', 0 ≤ j' → j' < i → k.testBit i = true → k.testBit j' = true → goesB J i j' = true
      · rw [a1 c]
        refine ih2 (fun h' => h (fun i' h1 h2 j' h3 => ?_))
        by_cases e : i' = i
        · subst e; exact c j' (Nat.zero_le _) h3
        · exact h' i' (by omega) h2 j' h3
      · rw [a2 c]
  | _, _, 0, _, hn => absurd hn (Nat.not_lt_zero _)
theorem gg_iff (hS : SY J) {k : Nat} : (∀ i', 0 ≤ i' → i' < nT J → ∀ j', j' < i' → k.testBit i' = true → k.testBit j' = true → goesB J i' j' = true) ↔ gg J k = true := by
  unfold gg goesB
  rw [decide_eq_true_eq]
  constructor
  · intro h i hi j hj a b
    by_cases c1 : j < i
    · simpa using h i (Nat.zero_le _) hi j c1 a b
    · by_cases c2 : i < j
      · rw [(hS i hi j hj).1]
        simpa using h j (Nat.zero_le _) hj i c2 b a
      · have : i = j := by omega
        subst this
        exact (hS i hi i hi).2
  · intro h i _ hi j hj a b
    rw [h i hi j (by omega) a b]
    rfl
theorem allMatch_nat (hW : WJ J) (hS : SY J) {k : Nat} {N : Mem} (hF : 100 ≤ F) (hJ : HX J N 3) (hk : k < 64) : f_X0_allMatch F N (nI k) = some (b2 (gg J k)) := by
  obtain ⟨a1, a2⟩ := amX_out hW hF hJ hk (nT J) 0 F (by omega) (by have := hW.1; omega)
  rw [gg_iff hS] at a1 a2
  unfold f_X0_allMatch
  cases h : gg J k
  · exact a2 (by rw [h]; decide)
  · exact a1 h
def agT (J : Jr) : Nat → Nat
  | 0 => 0
  | k + 1 => if (decide (bc (agT J k) < bc k) && gg J k) = true then k else agT J k
theorem agT_le : ∀ k, agT J k ≤ k
  | 0 => Nat.le_refl _
  | k + 1 => by
    have := agT_le k
    unfold agT
    split <;> omega
theorem agT_lt (hW : WJ J) {k : Nat} (hk : k ≤ 2 ^ nT J) : agT J k < 64 := by
  have h64 := pow6 hW
  cases k with
  | zero => show 0 < 64; decide
  | succ k =>
    have := agT_le (J := J) k
    unfold agT
    split <;> omega
theorem lmX_loop (hW : WJ J) (hS : SY J) {N : Mem} (hF : 100 ≤ F) (hJ : HX J N 3) : ∀ (m k n : Nat), k + m = 2 ^ nT J → m < n → f_X0_largestMatch_4 F N n (nI (agT J k)) (nI k) = some (nI (agT J (2 ^ nT J)))
  | 0, k, n + 1, hk, _ => by
    have h64 := pow6 hW
    have hkk : k = 2 ^ nT J := by omega
    rw [f_X0_largestMatch_4, allX_nat hJ hW]
    simp only [all_lt hW (show k ≤ 64 by omega)]
    rw [if_pos (by omega), hkk]
  | m + 1, k, n + 1, hk, hn => by
    have h64 := pow6 hW
    have hk64 : k < 64 := by omega
    have hb := agT_lt hW (k := k) (by omega)
    have ih := lmX_loop hW hS hF hJ m (k + 1) n (by omega) (by omega)
    have h1 := bc_le k
    have h2 := bc_le (agT J k)
    rw [agT] at ih
    rw [f_X0_largestMatch_4, allX_nat hJ hW]
    simp only [all_lt hW (show k ≤ 64 by omega)]
    rw [if_neg (by omega), bitC hk64, bitC hb, allMatch_nat hW hS hF hJ hk64]
    by_cases c : bc (agT J k) < bc k
    · rw [decide_eq_true c, Bool.true_and] at ih
      cases hg : gg J k
      · rw [hg, if_neg (by decide)] at ih
        simp (disch := omega) only [lit, ltI, leI, eqI, addI, mulI, subI, clI, ckI, if_pos, if_neg, if_true, if_false, Option.bind_some, b2_0, b2_n0, b2_1, b2_n1, Bool.true_eq_false, Bool.false_eq_true, b2_t, b2_f]
        exact ih
      · rw [hg, if_pos rfl] at ih
        simp (disch := omega) only [lit, ltI, leI, eqI, addI, mulI, subI, clI, ckI, if_pos, if_neg, if_true, if_false, Option.bind_some, b2_0, b2_n0, b2_1, b2_n1, Bool.true_eq_false, Bool.false_eq_true, b2_t, b2_f]
        exact ih
    · rw [decide_eq_false c, Bool.false_and, if_neg (by decide)] at ih
      simp (disch := omega) only [lit, ltI, leI, eqI, addI, mulI, subI, clI, ckI, if_pos, if_neg, if_true, if_false, Option.bind_some, b2_0, b2_n0, b2_1, b2_n1, Bool.true_eq_false, Bool.false_eq_true, b2_t, b2_f]
      exact ih
  | _, _, 0, _, hn => absurd hn (Nat.not_lt_zero _)
theorem and_gg {k i : Nat} (hW : WJ J) (hk : k < 2 ^ nT J) (hi : i < nT J) : (ap J i &&& k = 0) ↔ ∀ j, j < nT J → k.testBit j = true → (ap J i).testBit j = false := by
  constructor
  · intro e j hj a
    have := congrArg (fun x => x.testBit j) e
    simp only [Nat.testBit_and, Nat.zero_testBit, a, Bool.and_true] at this
    exact this
  · intro h
    apply Nat.eq_of_testBit_eq
    intro j
    rw [Nat.testBit_and, Nat.zero_testBit]
    cases a : k.testBit j
    · simp
    · have hj : j < nT J := by
        by_cases c : j < nT J
        · exact c
        · have := Nat.testBit_lt_two_pow (Nat.lt_of_lt_of_le hk (Nat.pow_le_pow_right (by decide) (show nT J ≤ j by omega)))
          rw [this] at a
          cases a
      rw [h j hj a]
      rfl
theorem agR_in (hW : WJ J) {k b q : Nat} {N : Mem} {K : Int32 → Int32 → Int32 → Option Int32} (hJ : HJ J N) (hk : k < 2 ^ nT J) :
    ∀ (m i n : Nat) (f : Bool), i + m = nT J → m < n → f_X10_allGo_44 F N K n (nI q) (nI b) (nI k) (b2 f) (nI i) = (if (f && decide (∀ i', i' < nT J → i ≤ i' → k.testBit i' = true → ap J i' &&& k = 0)) = true then K (nI q) (nI k) (nI (k + 1)) else K (nI q) (nI b) (nI (k + 1)))
  | 0, i, n + 1, f, hi, _ => by
    have h6 := hW.1
    have : (∀ i', i' < nT J → i ≤ i' → k.testBit i' = true → ap J i' &&& k = 0) := fun i' h1 h2 => by omega
    rw [decide_eq_true this, f_X10_allGo_44]
    cases f
    · simp (disch := omega) only [lit, ltI, leI, eqI, addI, mulI, subI, clI, ckI, if_pos, if_neg, if_true, if_false, Option.bind_some, b2_0, b2_n0, b2_1, b2_n1, Bool.true_eq_false, Bool.false_eq_true, b2_t, b2_f, hJ.1]
      rfl
    · simp (disch := omega) only [lit, ltI, leI, eqI, addI, mulI, subI, clI, ckI, if_pos, if_neg, if_true, if_false, Option.bind_some, b2_0, b2_n0, b2_1, b2_n1, Bool.true_eq_false, Bool.false_eq_true, b2_t, b2_f, hJ.1]
      rfl
  | m + 1, i, n + 1, f, hi, hn => by
    have h6 := hW.1
    have h64 := pow6 hW
    have ha := hW.2.2.2.2.1 i (by omega)
    have e40 := hJ.2.2.2.2 i (by omega)
    have ih := agR_in hW (b := b) (q := q) (K := K) hJ hk m (i + 1) n
    rw [f_X10_allGo_44]
    cases f
    · have := ih false (by omega) (by omega)
      simp (disch := omega) only [lit, ltI, leI, eqI, addI, mulI, subI, clI, ckI, if_pos, if_neg, if_true, if_false, Option.bind_some, b2_0, b2_n0, b2_1, b2_n1, Bool.true_eq_false, Bool.false_eq_true, b2_t, b2_f, hJ.1]
      exact this
    · have hsplit : (∀ i', i' < nT J → i ≤ i' → k.testBit i' = true → ap J i' &&& k = 0) ↔ (k.testBit i = true → ap J i &&& k = 0) ∧ (∀ i', i' < nT J → i + 1 ≤ i' → k.testBit i' = true → ap J i' &&& k = 0) := by
        constructor
        · intro h
          exact ⟨h i (by omega) (Nat.le_refl _), fun i' h1 h2 => h i' h1 (by omega)⟩
        · rintro ⟨h0, h⟩ i' h1 h2
          by_cases e : i' = i
          · subst e; exact h0
          · exact h i' h1 (by omega)
      cases hb : k.testBit i
      · have := ih true (by omega) (by omega)
        rw [hb] at hsplit
        have hs2 : (∀ i', i' < nT J → i ≤ i' → k.testBit i' = true → ap J i' &&& k = 0) ↔ (∀ i', i' < nT J → i + 1 ≤ i' → k.testBit i' = true → ap J i' &&& k = 0) := by
          rw [hsplit]
          simp
        rw [decide_eq_decide.mpr hs2]
        simp (disch := omega) only [lit, ltI, leI, eqI, addI, mulI, subI, clI, ckI, if_pos, if_neg, if_true, if_false, Option.bind_some, b2_0, b2_n0, b2_1, b2_n1, Bool.true_eq_false, Bool.false_eq_true, b2_t, b2_f, hJ.1, isOf_nat, hb]
        exact this
      · by_cases c : ap J i &&& k = 0
        · have := ih true (by omega) (by omega)
          have hs2 : (∀ i', i' < nT J → i ≤ i' → k.testBit i' = true → ap J i' &&& k = 0) ↔ (∀ i', i' < nT J → i + 1 ≤ i' → k.testBit i' = true → ap J i' &&& k = 0) := by
            rw [hsplit]
            simp [c]
          rw [decide_eq_decide.mpr hs2]
          simp (disch := omega) only [lit, ltI, leI, eqI, addI, mulI, subI, clI, ckI, if_pos, if_neg, if_true, if_false, Option.bind_some, b2_0, b2_n0, b2_1, b2_n1, Bool.true_eq_false, Bool.false_eq_true, b2_t, b2_f, hJ.1, isOf_nat, hb, e40, and0 ha]
          exact this
        · have := ih false (by omega) (by omega)
          have hs2 : ¬ (∀ i', i' < nT J → i ≤ i' → k.testBit i' = true → ap J i' &&& k = 0) := by
            rw [hsplit, hb]
            simp [c]
          rw [decide_eq_false hs2]
          simp (disch := omega) only [lit, ltI, leI, eqI, addI, mulI, subI, clI, ckI, if_pos, if_neg, if_true, if_false, Option.bind_some, b2_0, b2_n0, b2_1, b2_n1, Bool.true_eq_false, Bool.false_eq_true, b2_t, b2_f, hJ.1, isOf_nat, hb, e40, and0 ha]
          exact this
  | _, _, 0, _, _, hn => absurd hn (Nat.not_lt_zero _)
end CALLS
