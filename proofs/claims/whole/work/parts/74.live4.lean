-- part 74: calls: live, the reference and the pair
section CALLS
variable {J : Jr} {F : Nat}
theorem of_k {k i : Nat} {N : Mem} (hW : WJ J) (hJ : HJ J N) (hi : i < nT J) (h : isK J k i = true) : f_X10_of N (nI i) (0 : Int32) = some (nI k) := by
  have e := of_nat hJ hW hi (k := 0) (by decide)
  have h : tf J i 0 = k := of_decide_eq_true h
  rw [h] at e
  exact e
theorem liveR_good (hW : WJ J) (hF : 100 ≤ F) {a : LV} {t b q u : Nat} {N : Mem} (hV : WV J a) (hJ : HJ J N) (hL : LY N 0 a) (ht : t < nT J) (hb : b < nT J) (kt : isK J 0 t = true) (kb : isK J 1 b = true) (hq : q ≤ 1) (hu : u ≤ 1) : ∃ N', f_X10_live F N (nI t) (nI b) (nI q) (nI u) = some (lvV J a t b q, N') ∧ LY N' 0 (lvA J a t b q u) ∧ FY 0 N N' := by
  have h6 := hW.1
  have h8 := hW.2.1
  have hD := hV.1
  have hs := hV.2.2
  have k1 := of_k hW hJ ht kt
  have k2 := of_k hW hJ hb kb
  have i1 : f_X10_in N (nI q) (0 : Int32) (1 : Int32) = 1 := inR_yes (n := 1) (by decide) hq
  have i2 : f_X10_in N (nI u) (0 : Int32) (1 : Int32) = 1 := inR_yes (n := 1) (by decide) hu
  have e44 : N.1 44 0 = nI a.1 := hL.1
  have e46 : N.1 46 0 = nI a.2.2 := hL.2.2
  have e41 : N.1 41 0 = nI (nD J) := hJ.2.1
  unfold f_X10_live
  rw [inThing_yes hJ hW ht, Option.bind_some, if_neg (by decide), k1, Option.bind_some, if_pos (by rfl), inThing_yes hJ hW hb, Option.bind_some, if_neg (by decide), k2, Option.bind_some, if_pos (by rfl), i1, if_neg (by decide), i2, if_neg (by decide)]
  by_cases c1 : a.1 < nD J
  · have m := mayWear_nat (F := F) hJ hW (s := a.2.2) (d := a.1) (t := t) (b := b) hs (by omega) c1 (by omega) (by omega)
    have hdd := (hW.2.2.2.1 a.1 c1).2.2.1
    have e42 := hJ.2.2.2.1 a.1 c1 2 (by decide)
    cases c2 : suitsB J a.2.2 a.1 t b
    · have hok : lvOK J a t b q = false := by unfold lvOK; rw [c2]; simp
      rw [c2] at m
      unfold lvV lvA
      rw [hok]
      refine ⟨N, ?_, hL, FY.refl⟩
      simp (disch := omega) only [lit, ltI, leI, eqI, addI, mulI, subI, clI, ckI, if_pos, if_neg, if_true, if_false, Option.bind_some, b2_0, b2_n0, b2_1, b2_n1, Bool.true_eq_false, Bool.false_eq_true, b2_t, b2_f, e41, e44, e46, m, live112_no]
    · rw [c2] at m
      by_cases c3 : q ≤ df J a.1 2
      · have hok : lvOK J a t b q = (rdy a.2.1 t && rdy a.2.1 b) := by
          unfold lvOK
          rw [c2, decide_eq_true c1, decide_eq_true c3, Bool.true_and, Bool.true_and, Bool.true_and]
        unfold lvV lvA
        rw [hok]
        obtain ⟨N1, b1, b2', b3⟩ := live112_nat (F := F) hW hF hV hJ hL ht hb hq hu
        refine ⟨N1, ?_, b2', b3⟩
        simp (disch := omega) only [lit, ltI, leI, eqI, addI, mulI, subI, clI, ckI, if_pos, if_neg, if_true, if_false, Option.bind_some, b2_0, b2_n0, b2_1, b2_n1, Bool.true_eq_false, Bool.false_eq_true, b2_t, b2_f, e41, e44, e46, m, e42]
        exact b1
      · have hok : lvOK J a t b q = false := by unfold lvOK; rw [decide_eq_false c3]; simp
        unfold lvV lvA
        rw [hok]
        refine ⟨N, ?_, hL, FY.refl⟩
        simp (disch := omega) only [lit, ltI, leI, eqI, addI, mulI, subI, clI, ckI, if_pos, if_neg, if_true, if_false, Option.bind_some, b2_0, b2_n0, b2_1, b2_n1, Bool.true_eq_false, Bool.false_eq_true, b2_t, b2_f, e41, e44, e46, m, e42, live112_no]
  · have hok : lvOK J a t b q = false := by unfold lvOK; rw [decide_eq_false c1]; simp
    unfold lvV lvA
    rw [hok]
    refine ⟨N, ?_, hL, FY.refl⟩
    simp (disch := omega) only [lit, ltI, leI, eqI, addI, mulI, subI, clI, ckI, if_pos, if_neg, if_true, if_false, Option.bind_some, b2_0, b2_n0, b2_1, b2_n1, Bool.true_eq_false, Bool.false_eq_true, b2_t, b2_f, e41, e44, live112_no]
theorem isThing_any {N : Mem} (hJ : HJ J N) (hW : WJ J) (x : Int32) : (∃ i, i < nT J ∧ x = nI i) ∨ f_X10_isThing N x = some 0 := by
  by_cases c : ∃ i, i < nT J ∧ x = nI i
  · exact Or.inl c
  · exact Or.inr (inThing_no hJ hW (fun i hi e => c ⟨i, hi, e⟩))
theorem liveR_bad1 (hW : WJ J) {N : Mem} (hJ : HJ J N) {a1 a2 a3 a4 : Int32} (h : ∀ i, i < nT J → a1 = nI i → isK J 0 i = false) : f_X10_live F N a1 a2 a3 a4 = some (-1, N) := by
  have h6 := hW.1
  unfold f_X10_live
  rcases isThing_any hJ hW a1 with ⟨t, ht, rfl⟩ | e
  · have k := h t ht rfl
    have k : ¬ tf J t 0 = 0 := of_decide_eq_false k
    have h2 := (hW.2.2.1 t ht).1
    have e : f_X10_of N (nI t) (0 : Int32) = some (nI (tf J t 0)) := of_nat hJ hW ht (k := 0) (by decide)
    rw [inThing_yes hJ hW ht, e]
    simp (disch := omega) only [lit, ltI, leI, eqI, addI, mulI, subI, clI, ckI, if_pos, if_neg, if_true, if_false, Option.bind_some, b2_0, b2_n0, b2_1, b2_n1, Bool.true_eq_false, Bool.false_eq_true, b2_t, b2_f]
  · rw [e]
    rfl
theorem liveR_bad2 (hW : WJ J) {N : Mem} (hJ : HJ J N) {t : Nat} (ht : t < nT J) (kt : isK J 0 t = true) {a2 a3 a4 : Int32} (h : ∀ i, i < nT J → a2 = nI i → isK J 1 i = false) : f_X10_live F N (nI t) a2 a3 a4 = some (-1, N) := by
  have h6 := hW.1
  unfold f_X10_live
  rw [inThing_yes hJ hW ht, Option.bind_some, if_neg (by decide), of_k hW hJ ht kt, Option.bind_some, if_pos (by rfl)]
  rcases isThing_any hJ hW a2 with ⟨b, hb, rfl⟩ | e
  · have k := h b hb rfl
    have k : ¬ tf J b 0 = 1 := of_decide_eq_false k
    have h2 := (hW.2.2.1 b hb).1
    have e : f_X10_of N (nI b) (0 : Int32) = some (nI (tf J b 0)) := of_nat hJ hW hb (k := 0) (by decide)
    rw [inThing_yes hJ hW hb, e]
    simp (disch := omega) only [lit, ltI, leI, eqI, addI, mulI, subI, clI, ckI, if_pos, if_neg, if_true, if_false, Option.bind_some, b2_0, b2_n0, b2_1, b2_n1, Bool.true_eq_false, Bool.false_eq_true, b2_t, b2_f]
  · rw [e]
    rfl
theorem liveR_bad3 (hW : WJ J) {N : Mem} (hJ : HJ J N) {t b : Nat} (ht : t < nT J) (kt : isK J 0 t = true) (hb : b < nT J) (kb : isK J 1 b = true) {a3 a4 : Int32} (h : f_X10_in N a3 (0 : Int32) (1 : Int32) = 0 ∨ f_X10_in N a4 (0 : Int32) (1 : Int32) = 0) : f_X10_live F N (nI t) (nI b) a3 a4 = some (-1, N) := by
  unfold f_X10_live
  rw [inThing_yes hJ hW ht, Option.bind_some, if_neg (by decide), of_k hW hJ ht kt, Option.bind_some, if_pos (by rfl), inThing_yes hJ hW hb, Option.bind_some, if_neg (by decide), of_k hW hJ hb kb, Option.bind_some, if_pos (by rfl)]
  by_cases c : f_X10_in N a3 (0 : Int32) (1 : Int32) = 0
  · rw [if_pos c]
  · rw [if_neg c, if_pos (h.resolve_left c)]
theorem bit_any (x : Int32) : (∃ q, q ≤ 1 ∧ x = nI q) ∨ ∀ q, q ≤ 1 → x ≠ nI q := by
  by_cases c : ∃ q, q ≤ 1 ∧ x = nI q
  · exact Or.inl c
  · exact Or.inr (fun q hq e => c ⟨q, hq, e⟩)
theorem live_pair (hW : WJ J) (hF : 100 ≤ F) {a : LV} (hV : WV J a) (a1 a2 a3 a4 : Int32) : ∃ v a', WV J a' ∧ (∀ N, HX J N 3 → LX N 14 a → ∃ N', f_X9_live F N a1 a2 a3 a4 = some (v, N') ∧ LX N' 14 a' ∧ OC 14 N N') ∧ (∀ N, HJ J N → LY N 0 a → ∃ N', f_X10_live F N a1 a2 a3 a4 = some (v, N') ∧ LY N' 0 a' ∧ FY 0 N N') := by
  have et : ∀ N, HX J N 3 → f_X8_tops N 3 = nI (bitsTo (isK J 0) (nT J)) := fun N hJ => hJ.2.2.2.1
  have eb : ∀ N, HX J N 3 → f_X8_bottoms N 3 = nI (bitsTo (isK J 1) (nT J)) := fun N hJ => hJ.2.2.2.2.1
  by_cases c1 : ∃ t, t < nT J ∧ a1 = nI t ∧ isK J 0 t = true
  · obtain ⟨t, ht, rfl, kt⟩ := c1
    have h1 : ∀ N, f_X9_has N (nI (bitsTo (isK J 0) (nT J))) (nI t) = 1 := by
      intro N
      rw [has_nat (by have := bits_lt hW (isK J 0); omega) (by have := hW.1; omega), bitsTo_bit, kt, decide_eq_true ht]
      rfl
    by_cases c2 : ∃ b, b < nT J ∧ a2 = nI b ∧ isK J 1 b = true
    · obtain ⟨b, hb, rfl, kb⟩ := c2
      have h2 : ∀ N, f_X9_has N (nI (bitsTo (isK J 1) (nT J))) (nI b) = 1 := by
        intro N
        rw [has_nat (by have := bits_lt hW (isK J 1); omega) (by have := hW.1; omega), bitsTo_bit, kb, decide_eq_true hb]
        rfl
      rcases bit_any a3 with ⟨q, hq, rfl⟩ | n3
      · rcases bit_any a4 with ⟨u, hu, rfl⟩ | n4
        · refine ⟨lvV J a t b q, lvA J a t b q u, ?_, fun N hJ hL => liveX_good hW hF hV hJ hL ht hb kt kb hq hu, fun N hJ hL => liveR_good hW hF hV hJ hL ht hb kt kb hq hu⟩
          unfold lvA
          cases hok : lvOK J a t b q
          · exact hV
          · exact wv_live hW hV hok
        · obtain ⟨g1, g2⟩ := notBit n4
          refine ⟨-1, a, hV, fun N hJ hL => ⟨N, ?_, hL, OC.refl⟩, fun N hJ hL => ⟨N, liveR_bad3 hW hJ ht kt hb kb (Or.inr (g2 N)), hL, FY.refl⟩⟩
          unfold f_X9_live
          rw [et N hJ, eb N hJ, h1, h2, isBit_nat hq, g1, if_neg (by decide), if_neg (by decide), if_neg (by decide), if_pos rfl]
      · obtain ⟨g1, g2⟩ := notBit n3
        refine ⟨-1, a, hV, fun N hJ hL => ⟨N, ?_, hL, OC.refl⟩, fun N hJ hL => ⟨N, liveR_bad3 hW hJ ht kt hb kb (Or.inl (g2 N)), hL, FY.refl⟩⟩
        unfold f_X9_live
        rw [et N hJ, eb N hJ, h1, h2, g1, if_neg (by decide), if_neg (by decide), if_pos rfl]
    · refine ⟨-1, a, hV, fun N hJ hL => ⟨N, ?_, hL, OC.refl⟩, fun N hJ hL => ⟨N, liveR_bad2 hW hJ ht kt (fun i hi e => ?_), hL, FY.refl⟩⟩
      · unfold f_X9_live
        rw [et N hJ, eb N hJ, h1, if_neg (by decide)]
        rcases hasB_any hW (N := N) (isK J 1) a2 with ⟨i, hi, e, k, -⟩ | ⟨-, e⟩
        · exact absurd ⟨i, hi, e, k⟩ c2
        · rw [e, if_pos rfl]
      · cases k : isK J 1 i
        · rfl
        · exact absurd ⟨i, hi, e, k⟩ c2
  · refine ⟨-1, a, hV, fun N hJ hL => ⟨N, ?_, hL, OC.refl⟩, fun N hJ hL => ⟨N, liveR_bad1 hW hJ (fun i hi e => ?_), hL, FY.refl⟩⟩
    · unfold f_X9_live
      rw [et N hJ]
      rcases hasB_any hW (N := N) (isK J 0) a1 with ⟨i, hi, e, k, -⟩ | ⟨-, e⟩
      · exact absurd ⟨i, hi, e, k⟩ c1
      · rw [e, if_pos rfl]
    · cases k : isK J 0 i
      · rfl
      · exact absurd ⟨i, hi, e, k⟩ c1
end CALLS
