-- part 71: calls: live
def lvOK (J : Jr) (a : LV) (t b q : Nat) : Bool := decide (a.1 < nD J) && (decide (q ≤ df J a.1 2) && (suitsB J a.2.2 a.1 t b && (rdy a.2.1 t && rdy a.2.1 b)))
def lvN (J : Jr) (a : LV) (t b q u : Nat) : LV := (a.1 + 1, nxt J a.2.2 a.2.1 t b (decide (q = 1)) (decide (u = 1) && !hasCoat J a.2.2), a.2.2)
theorem suits_of {J : Jr} {s d t b : Nat} (h : suitsB J s d t b = true) : t < nT J ∧ b < nT J ∧ s.testBit t = true ∧ s.testBit b = true ∧ t ≠ b := by
  unfold suitsB at h
  simp only [Bool.and_eq_true, decide_eq_true_eq] at h
  refine ⟨h.1.1.1.1.1.1.1.1.1, h.1.1.1.1.1.1.1.1.2, h.1.1.1.1.1.1.1.2, h.1.1.1.1.1.1.2, fun e => ?_⟩
  have h5 := h.1.1.1.1.1.2
  have h6 := h.1.1.1.1.2
  rw [e] at h5
  unfold isK at h5 h6
  have := of_decide_eq_true h5
  have := of_decide_eq_true h6
  omega
section CALLS
variable {J : Jr} {F : Nat}
theorem wv_live (hW : WJ J) {a : LV} {t b q u : Nat} (hV : WV J a) (h : lvOK J a t b q = true) : WV J (lvN J a t b q u) := by
  unfold lvOK at h
  simp only [Bool.and_eq_true, decide_eq_true_eq] at h
  obtain ⟨h1, h2, h3, h4, h5⟩ := h
  obtain ⟨q1, q2, q3, q4, q5⟩ := suits_of h3
  exact ⟨h1, nxt_ok hW hV.2.1 q1 q2 q5 q3 q4, hV.2.2⟩
theorem mayX_nat (hW : WJ J) (hF : 100 ≤ F) {a : LV} {t b q : Nat} {N : Mem} (hV : WV J a) (hJ : HX J N 3) (hL : LX N 14 a) (ht : t < nT J) (hb : b < nT J) (kt : isK J 0 t = true) (kb : isK J 1 b = true) (hq : q ≤ 1) : f_X2_mayWear F N 14 3 (nI t) (nI b) (nI q) = some (b2 (lvOK J a t b q)) := by
  have h6 := hW.1
  have h8 := hW.2.1
  have hs := hV.2.2
  have hD := hV.1
  unfold f_X2_mayWear f_X2_isOver lvOK
  rw [hL.1, hL.2.1, hL.2.2, show f_X8_days N 3 = nI (nD J) from hJ.2.1]
  by_cases c1 : a.1 < nD J
  · have hdd := (hW.2.2.2.1 a.1 c1).2.2.1
    rw [decide_eq_true c1, Bool.true_and, lit 2, want_nat hJ hW c1 (by decide), warmest_nat hJ hW hs (by omega)]
    by_cases c2 : q ≤ df J a.1 2
    · rw [decide_eq_true c2, Bool.true_and]
      cases c3 : a.2.2.testBit t
      · have hz : suitsB J a.2.2 a.1 t b = false := by unfold suitsB; rw [c3]; simp
        rw [hz, Bool.false_and]
        simp (disch := omega) only [lit, ltI, leI, eqI, addI, mulI, subI, clI, ckI, if_pos, if_neg, if_true, if_false, Option.bind_some, b2_0, b2_n0, b2_1, b2_n1, Bool.true_eq_false, Bool.false_eq_true, b2_t, b2_f, has_nat, c3]
      · cases c4 : a.2.2.testBit b
        · have hz : suitsB J a.2.2 a.1 t b = false := by unfold suitsB; rw [c4]; simp
          rw [hz, Bool.false_and]
          simp (disch := omega) only [lit, ltI, leI, eqI, addI, mulI, subI, clI, ckI, if_pos, if_neg, if_true, if_false, Option.bind_some, b2_0, b2_n0, b2_1, b2_n1, Bool.true_eq_false, Bool.false_eq_true, b2_t, b2_f, has_nat, c3, c4]
        · have hsu := suits_nat hJ hW c1 ht hb c3 c4 kt kb
          have r1 := ready_nat hJ hW hV.2.1 ht
          have r2 := ready_nat hJ hW hV.2.1 hb
          cases c5 : rdy a.2.1 t
          · rw [Bool.false_and, Bool.and_false]
            simp (disch := omega) only [lit, ltI, leI, eqI, addI, mulI, subI, clI, ckI, if_pos, if_neg, if_true, if_false, Option.bind_some, b2_0, b2_n0, b2_1, b2_n1, Bool.true_eq_false, Bool.false_eq_true, b2_t, b2_f, has_nat, c3, c4, r1, c5]
          · cases c6 : rdy a.2.1 b
            · rw [Bool.and_false, Bool.and_false]
              simp (disch := omega) only [lit, ltI, leI, eqI, addI, mulI, subI, clI, ckI, if_pos, if_neg, if_true, if_false, Option.bind_some, b2_0, b2_n0, b2_1, b2_n1, Bool.true_eq_false, Bool.false_eq_true, b2_t, b2_f, has_nat, c3, c4, r1, r2, c5, c6]
            · cases c7 : suitsB J a.2.2 a.1 t b
              · rw [c7] at hsu
                simp (disch := omega) only [lit, ltI, leI, eqI, addI, mulI, subI, clI, ckI, if_pos, if_neg, if_true, if_false, Option.bind_some, b2_0, b2_n0, b2_1, b2_n1, Bool.true_eq_false, Bool.false_eq_true, b2_t, b2_f, has_nat, c3, c4, r1, r2, c5, c6, hsu]
                rfl
              · rw [c7] at hsu
                simp (disch := omega) only [lit, ltI, leI, eqI, addI, mulI, subI, clI, ckI, if_pos, if_neg, if_true, if_false, Option.bind_some, b2_0, b2_n0, b2_1, b2_n1, Bool.true_eq_false, Bool.false_eq_true, b2_t, b2_f, has_nat, c3, c4, r1, r2, c5, c6, hsu]
                rfl
    · rw [decide_eq_false c2, Bool.false_and]
      simp (disch := omega) only [lit, ltI, leI, eqI, addI, mulI, subI, clI, ckI, if_pos, if_neg, if_true, if_false, Option.bind_some, b2_0, b2_n0, b2_1, b2_n1, Bool.true_eq_false, Bool.false_eq_true, b2_t, b2_f]
  · rw [decide_eq_false c1, Bool.false_and]
    simp (disch := omega) only [lit, ltI, leI, eqI, addI, mulI, subI, clI, ckI, if_pos, if_neg, if_true, if_false, Option.bind_some, b2_0, b2_n0, b2_1, b2_n1, Bool.true_eq_false, Bool.false_eq_true, b2_t, b2_f]
end CALLS
