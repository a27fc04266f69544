-- part 72: calls: live, the class's
section CALLS
variable {J : Jr} {F : Nat}
theorem wear23_nat {o : Nat} {y2 y3 : Int32} {q D : Nat} {k : Bool} {N : Mem} {x' : Nat} (hq : q ≤ 1) (hD : N.1 o 0 = nI D) (hm : f_X8_morning N 3 (N.1 o 1) y2 y3 (b2 k) (b2 (decide (q = 1))) = nI x') : f_X2_wear_23 o 3 y2 y3 (nI q) (b2 k) N = some (setI (setI N o 1 (nI x')) o 0 (nI (D + 1))) := by
  have e : (setI N o 1 (nI x')).1 o 0 = nI D := by rw [setI_nk (by decide)]; exact hD
  unfold f_X2_wear_23
  simp only [vlet]
  rcases (by omega : q = 0 ∨ q = 1) with rfl | rfl
  · have hm : f_X8_morning N 3 (N.1 o 1) y2 y3 (b2 k) (0 : Int32) = nI x' := hm
    rw [if_neg (by decide), hm, e, lit 1, addI]
  · have hm : f_X8_morning N 3 (N.1 o 1) y2 y3 (b2 k) (1 : Int32) = nI x' := hm
    rw [if_pos (by decide), hm, e, lit 1, addI]
theorem wearX_nat (hW : WJ J) {a : LV} {t b q u : Nat} {N : Mem} (hV : WV J a) (hJ : HX J N 3) (hL : LX N 14 a) (hq : q ≤ 1) (hu : u ≤ 1) (h : lvOK J a t b q = true) : ∃ N', f_X2_wear N 14 3 (nI t) (nI b) (nI q) (nI u) = some N' ∧ LX N' 14 (lvN J a t b q u) ∧ OC 14 N N' := by
  have hs := hV.2.2
  have h' := h
  unfold lvOK at h'
  simp only [Bool.and_eq_true, decide_eq_true_eq] at h'
  obtain ⟨h1, h2, h3, h4, h5⟩ := h'
  obtain ⟨q1, q2, q3, q4, q5⟩ := suits_of h3
  have hmo := morning_nat hJ hW (s := a.2.2) (x := a.2.1) (t := t) (b := b) (ws := decide (q = 1)) (k := decide (u = 1) && !hasCoat J a.2.2) hV.2.1 q1 q2 q5 q3 q4 h4 h5
  rw [← hL.2.1] at hmo
  have hw := wear23_nat (o := 14) hq hL.1 hmo
  refine ⟨setI (setI N 14 1 (nI (nxt J a.2.2 a.2.1 t b (decide (q = 1)) (decide (u = 1) && !hasCoat J a.2.2)))) 14 0 (nI (a.1 + 1)), ?_, ⟨setI_at, ?_, ?_⟩, fun d hd => ?_, rfl⟩
  rotate_left
  · rw [setI_nk (by decide)]; exact setI_at
  · rw [setI_nk (by decide), setI_nk (by decide)]; exact hL.2.2
  · rw [setI_ne hd, setI_ne hd]
  · refine Eq.trans ?_ hw
    unfold f_X2_wear
    have h31 : a.2.2 &&& coatsB J < 2 ^ 31 := Nat.lt_of_le_of_lt Nat.and_le_left (by omega)
    rw [hL.2.2, show f_X8_coats N 3 = nI (coatsB J) from hJ.2.2.2.2.2.1]
    rcases (by omega : u = 0 ∨ u = 1) with rfl | rfl
    · rw [if_neg (by decide)]
      rfl
    · rw [if_pos (by decide)]
      simp (disch := omega) only [lit, nI_and, eqI, coat_and]
      cases hasCoat J a.2.2
      · rw [if_pos rfl]
        rfl
      · rw [if_neg (by decide)]
        rfl
end CALLS
