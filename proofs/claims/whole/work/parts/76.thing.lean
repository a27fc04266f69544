-- part 76: calls: thing, goes, day
section CALLS
variable {J : Jr}
theorem hasX_yes (hW : WJ J) {i : Nat} (hi : i < nT J) {N : Mem} (hJ : HX J N 3) : f_X8_hasThing N 3 (nI i) = 1 := by
  have h6 := hW.1
  rw [hasThing_nat hJ hW (by omega), decide_eq_true hi]
  rfl
theorem hasX_no (hW : WJ J) {x : Int32} (h : ¬ ∃ i, i < nT J ∧ x = nI i) {N : Mem} (hJ : HX J N 3) : f_X8_hasThing N 3 x = 0 := by
  rcases hasThing_any hJ hW x with ⟨i, hi, e, -⟩ | ⟨-, e⟩
  · exact absurd ⟨i, hi, e⟩ h
  · exact e
theorem hasR_no (hW : WJ J) {x : Int32} (h : ¬ ∃ i, i < nT J ∧ x = nI i) {N : Mem} (hJ : HJ J N) : f_X10_isThing N x = some 0 := inThing_no hJ hW (fun i hi e => h ⟨i, hi, e⟩)
theorem thing_pair (hW : WJ J) {x : Nat} (hx : x < 4096) (a1 a2 : Int32) : ∃ v, (∀ N, HX J N 3 → N.1 14 1 = nI x → f_X9_thing N a1 a2 = some v) ∧ (∀ N, HJ J N → N.1 45 0 = nI x → f_X10_thing N a1 a2 = some v) := by
  have h6 := hW.1
  by_cases c1 : ∃ i, i < nT J ∧ a1 = nI i
  · obtain ⟨i, hi, rfl⟩ := c1
    rcases range_any a2 (n := 8) (by decide) with ⟨k, hk, rfl⟩ | h0 | ⟨h0, h1, h2⟩
    · by_cases c8 : k = 8
      · subst c8
        refine ⟨nI (dg x i), fun N hJ h => ?_, fun N hJ h => ?_⟩
        · have e : f_X9_stateOf N (f_X2_how N 14) (nI i) = nI (dg x i) := by
            rw [show f_X2_how N 14 = nI x from h]
            exact stateOf_nat hx (by omega)
          unfold f_X9_thing
          rw [hasX_yes hW hi hJ]
          simp (disch := omega) only [lit, ltI, leI, eqI, addI, mulI, subI, clI, ckI, if_pos, if_neg, if_true, if_false, Option.bind_some, b2_0, b2_n0, b2_1, b2_n1, Bool.true_eq_false, Bool.false_eq_true, b2_t, b2_f, e]
        · have e : f_X10_howIs N (N.1 45 0) (nI i) = nI (dg x i) := by
            rw [h]
            exact howIs_nat hx (by omega)
          have hin : f_X10_in N (nI 8) (0 : Int32) (8 : Int32) = 1 := inR_yes (n := 8) (by decide) (by decide)
          unfold f_X10_thing
          rw [inThing_yes hJ hW hi, hin]
          simp (disch := omega) only [lit, ltI, leI, eqI, addI, mulI, subI, clI, ckI, if_pos, if_neg, if_true, if_false, Option.bind_some, b2_0, b2_n0, b2_1, b2_n1, Bool.true_eq_false, Bool.false_eq_true, b2_t, b2_f, e]
      · refine ⟨nI (tf J i k), fun N hJ h => ?_, fun N hJ h => ?_⟩
        · have e := fact_nat hJ hW hi (show k < 8 by omega)
          unfold f_X9_thing
          rw [hasX_yes hW hi hJ]
          simp (disch := omega) only [lit, ltI, leI, eqI, addI, mulI, subI, clI, ckI, if_pos, if_neg, if_true, if_false, Option.bind_some, b2_0, b2_n0, b2_1, b2_n1, Bool.true_eq_false, Bool.false_eq_true, b2_t, b2_f, e]
        · have e := of_nat hJ hW hi (show k < 8 by omega)
          have hin : f_X10_in N (nI k) (0 : Int32) (8 : Int32) = 1 := inR_yes (n := 8) (by decide) hk
          unfold f_X10_thing
          rw [inThing_yes hJ hW hi, hin]
          simp (disch := omega) only [lit, ltI, leI, eqI, addI, mulI, subI, clI, ckI, if_pos, if_neg, if_true, if_false, Option.bind_some, b2_0, b2_n0, b2_1, b2_n1, Bool.true_eq_false, Bool.false_eq_true, b2_t, b2_f, e]
    · refine ⟨-1, fun N hJ h => ?_, fun N hJ h => ?_⟩
      · unfold f_X9_thing
        rw [hasX_yes hW hi hJ, if_neg (by decide), if_pos h0]
      · unfold f_X10_thing f_X10_in
        rw [inThing_yes hJ hW hi, Option.bind_some, if_neg (by decide), if_pos h0, if_pos rfl]
    · have h1 : (8 : Int32) < a2 := h1
      have h2 : ¬ a2 ≤ (8 : Int32) := h2
      refine ⟨-1, fun N hJ h => ?_, fun N hJ h => ?_⟩
      · unfold f_X9_thing
        rw [hasX_yes hW hi hJ, if_neg (by decide), if_neg h0, if_neg h2]
      · unfold f_X10_thing f_X10_in
        rw [inThing_yes hJ hW hi, Option.bind_some, if_neg (by decide), if_neg h0, if_pos h1, if_pos rfl]
  · refine ⟨-1, fun N hJ h => ?_, fun N hJ h => ?_⟩
    · unfold f_X9_thing
      rw [hasX_no hW c1 hJ, if_pos rfl]
    · unfold f_X10_thing
      rw [hasR_no hW c1 hJ, Option.bind_some, if_pos rfl]
theorem goes_pair (hW : WJ J) (a1 a2 : Int32) : ∃ v, (∀ N, HX J N 3 → f_X9_goes N a1 a2 = some v) ∧ (∀ N, HJ J N → f_X10_goes N a1 a2 = some v) := by
  have h6 := hW.1
  by_cases c1 : ∃ i, i < nT J ∧ a1 = nI i
  · obtain ⟨i, hi, rfl⟩ := c1
    by_cases c2 : ∃ j, j < nT J ∧ a2 = nI j
    · obtain ⟨j, hj, rfl⟩ := c2
      by_cases c3 : i = j
      · subst c3
        refine ⟨-1, fun N hJ => ?_, fun N hJ => ?_⟩
        · unfold f_X9_goes
          rw [hasX_yes hW hi hJ, if_neg (by decide), if_neg (by decide), if_pos rfl]
        · unfold f_X10_goes
          rw [inThing_yes hJ hW hi, Option.bind_some, if_neg (by decide), Option.bind_some, if_neg (by decide), if_pos rfl]
      · refine ⟨b2 (goesB J i j), fun N hJ => ?_, fun N hJ => ?_⟩
        · have e := together_nat hJ hW hi hj
          unfold f_X9_goes
          rw [hasX_yes hW hi hJ, hasX_yes hW hj hJ]
          simp (disch := omega) only [lit, ltI, leI, eqI, addI, mulI, subI, clI, ckI, if_pos, if_neg, if_true, if_false, Option.bind_some, b2_0, b2_n0, b2_1, b2_n1, Bool.true_eq_false, Bool.false_eq_true, b2_t, b2_f, e]
          cases goesB J i j <;> rfl
        · have e := going_nat hJ hW hi hj
          unfold f_X10_goes
          rw [inThing_yes hJ hW hi, inThing_yes hJ hW hj]
          simp (disch := omega) only [lit, ltI, leI, eqI, addI, mulI, subI, clI, ckI, if_pos, if_neg, if_true, if_false, Option.bind_some, b2_0, b2_n0, b2_1, b2_n1, Bool.true_eq_false, Bool.false_eq_true, b2_t, b2_f, e]
          cases goesB J i j <;> rfl
    · refine ⟨-1, fun N hJ => ?_, fun N hJ => ?_⟩
      · unfold f_X9_goes
        rw [hasX_yes hW hi hJ, hasX_no hW c2 hJ, if_neg (by decide), if_pos rfl]
      · unfold f_X10_goes
        rw [inThing_yes hJ hW hi, Option.bind_some, if_neg (by decide), hasR_no hW c2 hJ, Option.bind_some, if_pos rfl]
  · refine ⟨-1, fun N hJ => ?_, fun N hJ => ?_⟩
    · unfold f_X9_goes
      rw [hasX_no hW c1 hJ, if_pos rfl]
    · unfold f_X10_goes
      rw [hasR_no hW c1 hJ, Option.bind_some, if_pos rfl]
theorem day_pair (hW : WJ J) (a1 a2 : Int32) : ∃ v, (∀ N, HX J N 3 → f_X9_day N a1 a2 = some v) ∧ (∀ N, HJ J N → f_X10_day N a1 a2 = some v) := by
  have h8 := hW.2.1
  by_cases c1 : ∃ d, d < nD J ∧ a1 = nI d
  · obtain ⟨d, hd, rfl⟩ := c1
    rcases range_any a2 (n := 3) (by decide) with ⟨k, hk, rfl⟩ | h0 | ⟨h0, h1, h2⟩
    · refine ⟨nI (df J d k), fun N hJ => ?_, fun N hJ => ?_⟩
      · have e := want_nat hJ hW hd (show k < 4 by omega)
        unfold f_X9_day
        rw [hasDay_nat hJ hW hd]
        simp (disch := omega) only [lit, ltI, leI, eqI, addI, mulI, subI, clI, ckI, if_pos, if_neg, if_true, if_false, Option.bind_some, b2_0, b2_n0, b2_1, b2_n1, Bool.true_eq_false, Bool.false_eq_true, b2_t, b2_f, e]
      · have e := hJ.2.2.2.1 d hd k (by omega)
        have hin : f_X10_in N (nI k) (0 : Int32) (3 : Int32) = 1 := inR_yes (n := 3) (by decide) hk
        unfold f_X10_day
        rw [if_pos (by decide), show (0 : Int32).toNatClampNeg = 0 from rfl, inDay_yes hJ hW hd, hin]
        simp (disch := omega) only [lit, ltI, leI, eqI, addI, mulI, subI, clI, ckI, if_pos, if_neg, if_true, if_false, Option.bind_some, b2_0, b2_n0, b2_1, b2_n1, Bool.true_eq_false, Bool.false_eq_true, b2_t, b2_f, e]
    · refine ⟨-1, fun N hJ => ?_, fun N hJ => ?_⟩
      · unfold f_X9_day
        rw [hasDay_nat hJ hW hd, if_neg (by decide), if_pos h0]
      · unfold f_X10_day
        rw [if_pos (by decide), show (0 : Int32).toNatClampNeg = 0 from rfl, inDay_yes hJ hW hd, if_neg (by decide)]
        unfold f_X10_in
        rw [if_pos h0, if_pos rfl]
    · have h1 : (3 : Int32) < a2 := h1
      have h3 : (4 : Int32) ≤ a2 := by
        have h1 := Int32.lt_iff_toInt_lt.mp h1
        apply Int32.le_iff_toInt_le.mpr
        have e3 : (3 : Int32).toInt = 3 := by decide
        have e4 : (4 : Int32).toInt = 4 := by decide
        omega
      refine ⟨-1, fun N hJ => ?_, fun N hJ => ?_⟩
      · unfold f_X9_day
        rw [hasDay_nat hJ hW hd, if_neg (by decide), if_neg h0, if_pos h3]
      · unfold f_X10_day
        rw [if_pos (by decide), show (0 : Int32).toNatClampNeg = 0 from rfl, inDay_yes hJ hW hd, if_neg (by decide)]
        unfold f_X10_in
        rw [if_neg h0, if_pos h1, if_pos rfl]
  · have hno : ∀ i, i < nD J → a1 ≠ nI i := fun i hi e => c1 ⟨i, hi, e⟩
    refine ⟨-1, fun N hJ => ?_, fun N hJ => ?_⟩
    · unfold f_X9_day
      rcases hasDay_any hJ hW a1 with ⟨i, hi, e, -⟩ | ⟨-, h⟩
      · exact absurd e (hno i hi)
      · rw [h, if_pos rfl]
    · unfold f_X10_day
      rw [if_pos (by decide), show (0 : Int32).toNatClampNeg = 0 from rfl, inDay_no hJ hW hno, if_pos rfl]
end CALLS
