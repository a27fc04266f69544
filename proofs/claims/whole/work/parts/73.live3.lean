-- part 73: calls: live, the pair
section CALLS
variable {J : Jr} {F : Nat}
theorem hasB_any (hW : WJ J) {N : Mem} (f : Nat → Bool) (x : Int32) : (∃ i, i < nT J ∧ x = nI i ∧ f i = true ∧ f_X9_has N (nI (bitsTo f (nT J))) x = 1) ∨ ((∀ i, i < nT J → x = nI i → f i = false) ∧ f_X9_has N (nI (bitsTo f (nT J))) x = 0) := by
  have h6 := hW.1
  have hb := bits_lt hW f
  rcases has_any (M := N) (s := bitsTo f (nT J)) (x := x) (by omega) with ⟨i, hi, e, h⟩ | ⟨hno, h⟩
  · rw [bitsTo_bit] at h
    cases hc : (decide (i < nT J) && f i)
    · rw [hc] at h
      refine Or.inr ⟨fun j hj ej => ?_, h⟩
      rw [e, eqI (by omega) (by omega)] at ej
      subst ej
      rw [decide_eq_true hj, Bool.true_and] at hc
      exact hc
    · rw [hc] at h
      simp only [Bool.and_eq_true, decide_eq_true_eq] at hc
      exact Or.inl ⟨i, hc.1, e, hc.2, h⟩
  · exact Or.inr ⟨fun j hj ej => absurd ej (hno j (by omega)), h⟩
def lvV (J : Jr) (a : LV) (t b q : Nat) : Int32 := if lvOK J a t b q = true then nI (a.1 + 1) else -2
def lvA (J : Jr) (a : LV) (t b q u : Nat) : LV := if lvOK J a t b q = true then lvN J a t b q u else a
theorem liveX_good (hW : WJ J) (hF : 100 ≤ F) {a : LV} {t b q u : Nat} {N : Mem} (hV : WV J a) (hJ : HX J N 3) (hL : LX N 14 a) (ht : t < nT J) (hb : b < nT J) (kt : isK J 0 t = true) (kb : isK J 1 b = true) (hq : q ≤ 1) (hu : u ≤ 1) : ∃ N', f_X9_live F N (nI t) (nI b) (nI q) (nI u) = some (lvV J a t b q, N') ∧ LX N' 14 (lvA J a t b q u) ∧ OC 14 N N' := by
  have h6 := hW.1
  have hb1 : f_X9_has N (f_X8_tops N 3) (nI t) = 1 := by
    rw [show f_X8_tops N 3 = nI (topsB J) from hJ.2.2.2.1, has_nat (by have := bits_lt hW (isK J 0); unfold topsB; omega) (by omega), tops_bit, kt, decide_eq_true ht]
    rfl
  have hb2 : f_X9_has N (f_X8_bottoms N 3) (nI b) = 1 := by
    rw [show f_X8_bottoms N 3 = nI (botsB J) from hJ.2.2.2.2.1, has_nat (by have := bits_lt hW (isK J 1); unfold botsB; omega) (by omega), bots_bit, kb, decide_eq_true hb]
    rfl
  have hm := mayX_nat hW hF hV hJ hL ht hb kt kb hq
  unfold f_X9_live lvV lvA
  rw [hb1, hb2, isBit_nat hq, isBit_nat hu, if_neg (by decide), if_neg (by decide), if_neg (by decide), if_neg (by decide), hm, Option.bind_some]
  cases hok : lvOK J a t b q
  · exact ⟨N, by rw [if_pos b2_f]; rfl, by rw [if_neg (by decide)]; exact hL, OC.refl⟩
  · obtain ⟨N1, c1, c2, c3⟩ := wearX_nat hW hV hJ hL hq hu hok
    refine ⟨N1, ?_, by rw [if_pos rfl]; exact c2, c3⟩
    rw [if_neg b2_nt, c1, Option.bind_some, if_pos rfl]
    show some (N1.1 14 0, N1) = _
    rw [c2.1]
    rfl
theorem live193_nat (hW : WJ J) (hF : 100 ≤ F) {a : LV} {t b q : Nat} {k : Bool} {N : Mem} (hV : WV J a) (hJ : HJ J N) (hL : LY N 0 a) (hq : q ≤ 1) (ht : t < nT J) (hb : b < nT J) : ∃ N', f_X10_live_193 F (b2 k) (nI q) (nI b) (nI t) (nI a.2.2) (nI a.2.1) (nI 0) N = some (nI (a.1 + 1), N') ∧ LY N' 0 (a.1 + 1, nxt J a.2.2 a.2.1 t b (decide (q = 1)) k, a.2.2) ∧ FY 0 N N' := by
  have hbe := behind_nat (F := F) hJ hW (s := a.2.2) (x := a.2.1) (t := t) (b := b) (ws := decide (q = 1)) (k := k) (by omega) hV.2.2 hV.2.1.1 ht hb
  rw [← nI_b2 hq] at hbe
  generalize nxt J a.2.2 a.2.1 t b (decide (q = 1)) k = x' at hbe ⊢
  have e1 : (setI N 45 0 (nI x')).1 44 0 = nI a.1 := by rw [setI_ne (by decide)]; exact hL.1
  have e2 : (setI (setI N 45 0 (nI x')) 44 0 (nI (a.1 + 1))).1 44 0 = nI (a.1 + 1) := setI_at
  refine ⟨setI (setI N 45 0 (nI x')) 44 0 (nI (a.1 + 1)), ?_, ⟨setI_at, ?_, ?_⟩, fun d h1 h2 h3 => by rw [setI_ne h1, setI_ne h2], fun j hj => ⟨?_, ?_, ?_⟩, rfl⟩
  · unfold f_X10_live_193
    simp only [vlet]
    simp (disch := omega) only [lit, ltI, leI, eqI, addI, mulI, subI, clI, ckI, if_pos, if_neg, if_true, if_false, Option.bind_some, b2_0, b2_n0, b2_1, b2_n1, Bool.true_eq_false, Bool.false_eq_true, b2_t, b2_f, hbe, e1, e2]
  · rw [setI_ne (by decide), setI_at]
  · rw [setI_ne (by decide), setI_ne (by decide)]; exact hL.2.2
  · rw [setI_nk hj, setI_ne (by decide)]
  · rw [setI_ne (by decide), setI_nk hj]
  · rw [setI_ne (by decide), setI_ne (by decide)]
theorem live112_no {y1 y2 y3 y4 : Int32} {N : Mem} : f_X10_live_112 F y1 y2 y3 y4 (nI 0) N = some (-2, N) := by
  unfold f_X10_live_112
  rw [if_pos (by rfl)]
theorem live112_nat (hW : WJ J) (hF : 100 ≤ F) {a : LV} {t b q u : Nat} {N : Mem} (hV : WV J a) (hJ : HJ J N) (hL : LY N 0 a) (ht : t < nT J) (hb : b < nT J) (hq : q ≤ 1) (hu : u ≤ 1) : ∃ N', f_X10_live_112 F (nI t) (nI b) (nI q) (nI u) (nI 1) N = some (if (rdy a.2.1 t && rdy a.2.1 b) = true then nI (a.1 + 1) else -2, N') ∧ LY N' 0 (if (rdy a.2.1 t && rdy a.2.1 b) = true then lvN J a t b q u else a) ∧ FY 0 N N' := by
  have h6 := hW.1
  have hx := hV.2.1.1
  have w1 : f_X10_isWearable N (nI a.2.1) (nI t) = b2 (rdy a.2.1 t) := wearable_nat hx (by omega)
  have w2 : f_X10_isWearable N (nI a.2.1) (nI b) = b2 (rdy a.2.1 b) := wearable_nat hx (by omega)
  have hco := coatR_nat (F := F) hJ hW (s := a.2.2) hV.2.2 (by omega)
  unfold f_X10_live_112
  cases r1 : rdy a.2.1 t
  · refine ⟨N, ?_, hL, FY.refl⟩
    rw [r1] at w1
    simp (disch := omega) only [lit, ltI, leI, eqI, addI, mulI, subI, clI, ckI, if_pos, if_neg, if_true, if_false, Option.bind_some, b2_0, b2_n0, b2_1, b2_n1, Bool.true_eq_false, Bool.false_eq_true, b2_t, b2_f, hL.1, hL.2.1, hL.2.2, w1]
    rfl
  · cases r2 : rdy a.2.1 b
    · refine ⟨N, ?_, hL, FY.refl⟩
      rw [r1] at w1
      rw [r2] at w2
      simp (disch := omega) only [lit, ltI, leI, eqI, addI, mulI, subI, clI, ckI, if_pos, if_neg, if_true, if_false, Option.bind_some, b2_0, b2_n0, b2_1, b2_n1, Bool.true_eq_false, Bool.false_eq_true, b2_t, b2_f, hL.1, hL.2.1, hL.2.2, w1, w2]
      rfl
    · rw [r1] at w1
      rw [r2] at w2
      obtain ⟨N1, c1, c2, c3⟩ := live193_nat hW hF (k := decide (u = 1) && !hasCoat J a.2.2) hV hJ hL hq ht hb
      refine ⟨N1, ?_, c2, c3⟩
      rcases (by omega : u = 0 ∨ u = 1) with rfl | rfl
      · simp (disch := omega) only [lit, ltI, leI, eqI, addI, mulI, subI, clI, ckI, if_pos, if_neg, if_true, if_false, Option.bind_some, b2_0, b2_n0, b2_1, b2_n1, Bool.true_eq_false, Bool.false_eq_true, b2_t, b2_f, hL.1, hL.2.1, hL.2.2, w1, w2]
        exact c1
      · cases hc : hasCoat J a.2.2
        · rw [hc] at c1 hco
          simp (disch := omega) only [lit, ltI, leI, eqI, addI, mulI, subI, clI, ckI, if_pos, if_neg, if_true, if_false, Option.bind_some, b2_0, b2_n0, b2_1, b2_n1, Bool.true_eq_false, Bool.false_eq_true, b2_t, b2_f, hL.1, hL.2.1, hL.2.2, w1, w2, hco]
          exact c1
        · rw [hc] at c1 hco
          simp (disch := omega) only [lit, ltI, leI, eqI, addI, mulI, subI, clI, ckI, if_pos, if_neg, if_true, if_false, Option.bind_some, b2_0, b2_n0, b2_1, b2_n1, Bool.true_eq_false, Bool.false_eq_true, b2_t, b2_f, hL.1, hL.2.1, hL.2.2, w1, w2, hco]
          exact c1
end CALLS
