-- part 62: calls: use, the reference and the pair
section CALLS
variable {J : Jr} {F : Nat}
theorem inThing_yes {M : Mem} (hJ : HJ J M) (hW : WJ J) {d : Nat} (hd : d < nT J) : f_X10_isThing M (nI d) = some 1 := by
  have h6 := hW.1
  have e : nI (nT J) - (1 : Int32) = nI (nT J - 1) := subI (a := nT J) (b := 1) (by omega)
  have h : f_X10_in M (nI d) (0 : Int32) ((M.1 38 (0 : Int32).toNatClampNeg) - (1 : Int32)) = 1 := by
    rw [show M.1 38 (0 : Int32).toNatClampNeg = nI (nT J) from hJ.1, e]
    exact inR_yes (by omega) (by omega)
  unfold f_X10_isThing
  rw [h]
  rfl
theorem inThing_no {M : Mem} (hJ : HJ J M) (hW : WJ J) {x : Int32} (hx : ∀ i, i < nT J → x ≠ nI i) : f_X10_isThing M x = some 0 := by
  have h6 := hW.1
  have h : f_X10_in M x (0 : Int32) ((M.1 38 (0 : Int32).toNatClampNeg) - (1 : Int32)) = 0 := by
    rw [show M.1 38 (0 : Int32).toNatClampNeg = nI (nT J) from hJ.1]
    by_cases c : nT J = 0
    · rw [c]
      unfold f_X10_in
      by_cases h0 : x < 0
      · rw [if_pos h0]
      · rw [if_neg h0]
        have : nI 0 - (1 : Int32) < x := by
          apply Int32.lt_iff_toInt_lt.mpr
          have e : (nI 0 - (1 : Int32)).toInt = -1 := by decide
          have e0 : (0 : Int32).toInt = 0 := by decide
          have := mt Int32.lt_iff_toInt_lt.mpr h0
          rw [e0] at this
          rw [e]
          omega
        rw [if_pos this]
    · have e : nI (nT J) - (1 : Int32) = nI (nT J - 1) := subI (a := nT J) (b := 1) (by omega)
      rw [e]
      exact inR_no (by omega) (fun i hi => hx i (by omega))
  unfold f_X10_isThing
  rw [h]
  rfl
theorem UY.one {N : Mem} {t : Int64} : UY t N (setL N 36 0 (N.2 36 0 + t)) := ⟨rfl, setL_at, fun c hc => setL_ne hc⟩
theorem useR_nat (hW : WJ J) {x q i : Nat} {N : Mem} (hx : x < 4096) (hq : q ≤ 5) (hi : i < nT J) (hJ : HJ J N) (h45 : N.1 45 0 = nI x) : ∃ N', f_X10_use N (nI q) (nI i) = some (useN J x q i, N') ∧ UY (useT q) N N' := by
  have h6 := hW.1
  have ht1 := tf_le hW hi (k := 1) (by decide)
  have ht2 := tf_le hW hi (k := 2) (by decide)
  have hJ' : ∀ t, HJ J (setL N 36 0 (N.2 36 0 + t)) := fun t => hJ.same rfl rfl rfl rfl rfl
  have hof : ∀ t k, k < 8 → f_X10_of (setL N 36 0 (N.2 36 0 + t)) (nI i) (nI k) = some (nI (tf J i k)) := fun t k hk => of_nat (hJ' t) hW hi hk
  have ho1 : f_X10_of N (nI i) (1 : Int32) = some (nI (tf J i 1)) := of_nat hJ hW hi (k := 1) (by decide)
  have hin : f_X10_in N (nI q) (0 : Int32) (5 : Int32) = 1 := inR_yes (n := 5) (by decide) hq
  unfold f_X10_use
  rw [hin, if_neg (by decide), inThing_yes hJ hW hi, Option.bind_some, if_neg (by decide), ho1, Option.bind_some]
  simp only [vlet]
  rcases (by omega : q = 0 ∨ q = 1 ∨ q = 2 ∨ q = 3 ∨ q = 4 ∨ q = 5) with rfl | rfl | rfl | rfl | rfl | rfl
  · exact ⟨_, rfl, UY.one⟩
  · refine ⟨_, ?_, UY.one⟩
    have h2 : f_X10_of (setL N 36 0 (N.2 36 0 + 11)) (nI i) (2 : Int32) = some (nI (tf J i 2)) := hof 11 2 (by decide)
    rw [if_neg (by decide), if_pos (by decide), h2]
    rfl
  · refine ⟨_, ?_, UY.one⟩
    have h4 : f_X10_of (setL N 36 0 (N.2 36 0 + 101)) (nI i) (4 : Int32) = some (nI (tf J i 4)) := hof 101 4 (by decide)
    rw [if_neg (by decide), if_neg (by decide), if_pos (by decide), h4]
    rfl
  · refine ⟨_, ?_, UY.one⟩
    have h2 : f_X10_of (setL N 36 0 (N.2 36 0 + 1011)) (nI i) (2 : Int32) = some (nI (tf J i 2)) := hof 1011 2 (by decide)
    rw [if_neg (by decide), if_neg (by decide), if_neg (by decide), if_pos (by decide), h2, Option.bind_some, addI]
    have e : (2 : Int32) * nI (tf J i 1 + tf J i 2) = nI (2 * (tf J i 1 + tf J i 2)) := mulI 2 _
    rw [e]
    rfl
  · refine ⟨_, ?_, UY.one⟩
    have h4 : f_X10_of (setL N 36 0 (N.2 36 0 + 10101)) (nI i) (4 : Int32) = some (nI (tf J i 4)) := hof 10101 4 (by decide)
    have h5 : f_X10_of (setL N 36 0 (N.2 36 0 + 10101)) (nI i) (5 : Int32) = some (nI (tf J i 5)) := hof 10101 5 (by decide)
    rw [if_neg (by decide), if_neg (by decide), if_neg (by decide), if_neg (by decide), if_pos (by decide), h4, Option.bind_some, h5, Option.bind_some]
    rfl
  · refine ⟨_, ?_, UY.one⟩
    have hh : f_X10_howIs (setL N 36 0 (N.2 36 0 + 100001)) ((setL N 36 0 (N.2 36 0 + 100001)).1 45 (0 : Int32).toNatClampNeg) (nI i) = nI (dg x i) := by
      rw [show (setL N 36 0 (N.2 36 0 + 100001)).1 45 (0 : Int32).toNatClampNeg = nI x from h45]
      exact howIs_nat hx (by omega)
    rw [if_neg (by decide), if_neg (by decide), if_neg (by decide), if_neg (by decide), if_neg (by decide), if_pos (by decide), hh]
    rfl
theorem UX.refl {N : Mem} : UX 0 N N := ⟨rfl, (Int64.add_zero _).symm, fun _ _ => rfl⟩
theorem UY.refl {N : Mem} : UY 0 N N := ⟨rfl, (Int64.add_zero _).symm, fun _ _ => rfl⟩
theorem use_pair (hW : WJ J) {x : Nat} (hx : x < 4096) (a1 a2 : Int32) : ∃ v t, (∀ N, HX J N 3 → N.1 14 1 = nI x → ∃ N', f_X9_use N a1 a2 = some (v, N') ∧ UX t N N') ∧ (∀ N, HJ J N → N.1 45 0 = nI x → ∃ N', f_X10_use N a1 a2 = some (v, N') ∧ UY t N N') := by
  by_cases c1 : ∃ q, q ≤ 5 ∧ a1 = nI q
  · obtain ⟨q, hq, rfl⟩ := c1
    by_cases c2 : ∃ i, i < nT J ∧ a2 = nI i
    · obtain ⟨i, hi, rfl⟩ := c2
      exact ⟨useN J x q i, useT q, fun N hJ h => useX_nat hW hx hq hi hJ h, fun N hJ h => useR_nat hW hx hq hi hJ h⟩
    · have hno : ∀ i, i < nT J → a2 ≠ nI i := fun i hi e => c2 ⟨i, hi, e⟩
      refine ⟨-1000000, 0, fun N hJ h => ⟨N, ?_, UX.refl⟩, fun N hJ h => ⟨N, ?_, UY.refl⟩⟩
      · have hk : f_X1_isKind N (nI q) = 1 := by
          unfold f_X1_isKind
          simp (disch := omega) only [lit, ltI, leI, eqI, addI, mulI, subI, clI, ckI, if_pos, if_neg, if_true, if_false, Option.bind_some, b2_0, b2_n0, b2_1, b2_n1, Bool.true_eq_false, Bool.false_eq_true, b2_t, b2_f]
        unfold f_X9_use
        rcases hasThing_any hJ hW a2 with ⟨i, hi, e, -⟩ | ⟨-, e⟩
        · exact absurd e (hno i hi)
        · rw [hk, e, if_neg (by decide), if_pos rfl]
      · have hin : f_X10_in N (nI q) (0 : Int32) (5 : Int32) = 1 := inR_yes (n := 5) (by decide) hq
        unfold f_X10_use
        rw [hin, if_neg (by decide), inThing_no hJ hW hno, Option.bind_some, if_pos rfl]
  · have hno : ∀ i, i ≤ 5 → a1 ≠ nI i := fun i hi e => c1 ⟨i, hi, e⟩
    refine ⟨-1000000, 0, fun N hJ h => ⟨N, ?_, UX.refl⟩, fun N hJ h => ⟨N, ?_, UY.refl⟩⟩
    · have hk : f_X1_isKind N a1 = 0 := by
        unfold f_X1_isKind
        rcases range_any a1 (n := 5) (by decide) with ⟨i, hi, e⟩ | h0 | ⟨h0, h1, -⟩
        · exact absurd e (hno i hi)
        · rw [if_pos h0]
        · have h1 : (5 : Int32) < a1 := h1
          rw [if_neg h0, if_pos h1]
      unfold f_X9_use
      rw [hk, if_pos rfl]
    · have hin : f_X10_in N a1 (0 : Int32) (5 : Int32) = 0 := inR_no (n := 5) (by decide) hno
      unfold f_X10_use
      rw [hin, if_pos rfl]
end CALLS
