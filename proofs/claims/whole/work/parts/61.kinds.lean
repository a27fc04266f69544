-- part 61: calls: use
section CALLS
variable {J : Jr} {F : Nat}
def useN (J : Jr) (x q i : Nat) : Int32 :=
  if q = 0 then nI (tf J i 1) else if q = 1 then nI (tf J i 1) + nI (tf J i 2) else if q = 2 then nI (tf J i 1) - nI (tf J i 4) else if q = 3 then nI (2 * (tf J i 1 + tf J i 2)) else if q = 4 then nI (tf J i 1) - nI (tf J i 4) + nI (tf J i 5) else nI (tf J i 1) + nI (dg x i)
def useT (q : Nat) : Int64 := if q = 0 then 1 else if q = 1 then 11 else if q = 2 then 101 else if q = 3 then 1011 else if q = 4 then 10101 else 100001
/-- the class's trace grows by t, nothing else changes -/
def UX (t : Int64) (N N' : Mem) : Prop := N'.1 = N.1 ∧ N'.2 34 1 = N.2 34 1 + t ∧ (∀ c, c ≠ 34 → N'.2 c = N.2 c)
def UY (t : Int64) (N N' : Mem) : Prop := N'.1 = N.1 ∧ N'.2 36 0 = N.2 36 0 + t ∧ (∀ c, c ≠ 36 → N'.2 c = N.2 c)
theorem UX.one {N : Mem} {t : Int64} : UX t N (setL N 34 1 (N.2 34 1 + t)) := ⟨rfl, setL_at, fun c hc => setL_ne hc⟩
theorem UX.trans {A B C : Mem} {t u : Int64} (h1 : UX t A B) (h2 : UX u B C) : UX (t + u) A C := ⟨h2.1.trans h1.1, by rw [h2.2.1, h1.2.1, Int64.add_assoc], fun c hc => (h2.2.2 c hc).trans (h1.2.2 c hc)⟩
theorem HX.ux {t : Int64} {N N' : Mem} (h : HX J N 3) (u : UX t N N') : HX J N' 3 := h.same (by rw [u.1]) (by rw [u.1]) (by rw [u.1]) (by rw [u.1])
theorem asThing_nat (hW : WJ J) {i : Nat} {N : Mem} (hJ : HX J N 3) (hi : i < nT J) : ∃ N', f_X1_asThing N (nI i) = some (nI (tf J i 1), N') ∧ UX 1 N N' := by
  refine ⟨_, ?_, UX.one⟩
  unfold f_X1_asThing
  simp only [vlet]
  rw [lit 1, fact_nat (hJ.ux UX.one) hW hi (by decide)]
  rfl
theorem asOnce_nat (hW : WJ J) {i : Nat} {N : Mem} (hJ : HX J N 3) (hi : i < nT J) : ∃ N', f_X1_asOnce N (nI i) = some (nI (tf J i 1) + nI (tf J i 2), N') ∧ UX 11 N N' := by
  have u1 : UX 10 N (setL N 34 1 (N.2 34 1 + 10)) := UX.one
  obtain ⟨N2, a, u2⟩ := asThing_nat hW (hJ.ux u1) hi
  refine ⟨N2, ?_, u1.trans u2⟩
  unfold f_X1_asOnce
  simp only [vlet]
  rw [a, Option.bind_some]
  dsimp only
  rw [lit 2, fact_nat ((hJ.ux u1).ux u2) hW hi (by decide)]
  rfl
theorem asSpare_nat (hW : WJ J) {i : Nat} {N : Mem} (hJ : HX J N 3) (hi : i < nT J) : ∃ N', f_X1_asSpare N (nI i) = some (nI (tf J i 1) - nI (tf J i 4), N') ∧ UX 101 N N' := by
  have u1 : UX 100 N (setL N 34 1 (N.2 34 1 + 100)) := UX.one
  obtain ⟨N2, a, u2⟩ := asThing_nat hW (hJ.ux u1) hi
  refine ⟨N2, ?_, u1.trans u2⟩
  unfold f_X1_asSpare
  simp only [vlet]
  rw [a, Option.bind_some]
  dsimp only
  rw [lit 4, fact_nat ((hJ.ux u1).ux u2) hW hi (by decide)]
  rfl
theorem useX_nat (hW : WJ J) {x q i : Nat} {N : Mem} (hx : x < 4096) (hq : q ≤ 5) (hi : i < nT J) (hJ : HX J N 3) (h14 : N.1 14 1 = nI x) : ∃ N', f_X9_use N (nI q) (nI i) = some (useN J x q i, N') ∧ UX (useT q) N N' := by
  have h6 := hW.1
  have ht1 := tf_le hW hi (k := 1) (by decide)
  have ht2 := tf_le hW hi (k := 2) (by decide)
  have hk : f_X1_isKind N (nI q) = 1 := by
    unfold f_X1_isKind
    simp (disch := omega) only [lit, ltI, leI, eqI, addI, mulI, subI, clI, ckI, if_pos, if_neg, if_true, if_false, Option.bind_some, b2_0, b2_n0, b2_1, b2_n1, Bool.true_eq_false, Bool.false_eq_true, b2_t, b2_f]
  have hth : f_X8_hasThing N 3 (nI i) = 1 := by rw [hasThing_nat hJ hW (by omega)]; simp [hi, b2]
  have hst : f_X9_stateOf N (f_X2_how N 14) (nI i) = nI (dg x i) := by
    rw [show f_X2_how N 14 = nI x from h14]
    exact stateOf_nat hx (by omega)
  unfold f_X9_use
  rw [hk, hth, hst, if_neg (by decide), if_neg (by decide)]
  unfold f_X1_ask
  rcases (by omega : q = 0 ∨ q = 1 ∨ q = 2 ∨ q = 3 ∨ q = 4 ∨ q = 5) with rfl | rfl | rfl | rfl | rfl | rfl
  · obtain ⟨N1, a, u⟩ := asThing_nat hW hJ hi
    refine ⟨N1, ?_, u⟩
    simp (disch := omega) only [lit, ltI, leI, eqI, addI, mulI, subI, clI, ckI, if_pos, if_neg, if_true, if_false, Option.bind_some, b2_0, b2_n0, b2_1, b2_n1, Bool.true_eq_false, Bool.false_eq_true, b2_t, b2_f, a]
    rfl
  · obtain ⟨N1, a, u⟩ := asOnce_nat hW hJ hi
    refine ⟨N1, ?_, u⟩
    rw [a]
    rfl
  · obtain ⟨N1, a, u⟩ := asSpare_nat hW hJ hi
    refine ⟨N1, ?_, u⟩
    rw [a]
    rfl
  · have u1 : UX 1000 N (setL N 34 1 (N.2 34 1 + 1000)) := UX.one
    obtain ⟨N2, a, u2⟩ := asOnce_nat hW (hJ.ux u1) hi
    refine ⟨N2, ?_, by rw [show useT 3 = 1000 + 11 by decide +kernel]; exact u1.trans u2⟩
    unfold f_X1_asDouble
    simp only [vlet]
    rw [a]
    simp (disch := omega) only [lit, ltI, leI, eqI, addI, mulI, subI, clI, ckI, if_pos, if_neg, if_true, if_false, Option.bind_some, b2_0, b2_n0, b2_1, b2_n1, Bool.true_eq_false, Bool.false_eq_true, b2_t, b2_f]
    unfold useN
    rw [Nat.mul_comm]
    rfl
  · have u1 : UX 10000 N (setL N 34 1 (N.2 34 1 + 10000)) := UX.one
    obtain ⟨N2, a, u2⟩ := asSpare_nat hW (hJ.ux u1) hi
    refine ⟨N2, ?_, by rw [show useT 4 = 10000 + 101 by decide +kernel]; exact u1.trans u2⟩
    have hf := fact_nat ((hJ.ux u1).ux u2) hW hi (k := 5) (by decide)
    have hf : f_X8_fact N2 3 (nI i) (5 : Int32) = some (nI (tf J i 5)) := hf
    unfold f_X1_asBought
    simp only [vlet]
    rw [a, Option.bind_some]
    dsimp only
    rw [hf]
    rfl
  · have u1 : UX 100000 N (setL N 34 1 (N.2 34 1 + 100000)) := UX.one
    obtain ⟨N2, a, u2⟩ := asThing_nat hW (hJ.ux u1) hi
    refine ⟨N2, ?_, by rw [show useT 5 = 100000 + 1 by decide +kernel]; exact u1.trans u2⟩
    unfold f_X1_asSingle
    simp only [vlet]
    rw [a]
    rfl
end CALLS
