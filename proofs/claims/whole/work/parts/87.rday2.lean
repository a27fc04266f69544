-- part 87: the class's reader: an item that tells a day, whole; an item
def dcM (N : Mem) (J : Jr) : Mem := setI (setI N 7 5 (nI (unsTo J (nD J)))) 7 4 (nI (nD J))
section DY
variable {J : Jr} {T : TL}
theorem PD.congr {v v' : Nat → Nat} {N : Mem} (h : PD J v N) (e : ∀ j, j < 4 → v j = v' j) : PD J v' N := ⟨h.1, h.2.1, h.2.2.1, h.2.2.2.1, fun j hj => by rw [h.2.2.2.2 j hj, e j hj]⟩
theorem dcM_ne {N : Mem} {c : Nat} (h : c ≠ 7) : (dcM N J).1 c = N.1 c := by
  unfold dcM
  rw [setI_ne h, setI_ne h]
theorem dcM_nk {N : Mem} {j : Nat} (h4 : j ≠ 4) (h5 : j ≠ 5) : (dcM N J).1 7 j = N.1 7 j := by
  unfold dcM
  rw [setI_nk h4, setI_nk h5]
theorem dcM_rf {N : Mem} : RF N (dcM N J) := ⟨fun c h _ _ _ _ => dcM_ne h, by rw [dcM_ne (by decide)], rfl⟩
theorem closeD_nat (hW : WJ J) {v : Nat → Nat} {N : Mem} (h : PD J v N) (h8 : nD J < 8) (hv : v 3 ≤ 99) : f_X8_closeDay N 7 = some (dcM N (addDy J v)) := by
  have hro := roomD_nat hW h.1
  rw [decide_eq_true h8] at hro
  have hu4 := hW.2.2.2.2.2
  have e3 := h.2.2.2.2 3 (by decide)
  have e8 : nD J * 4 + 3 = 4 * nD J + 3 := by omega
  have a2 := h.1.2.1
  have a3 := h.1.2.2.1
  have hun := unsure_nat (M := N) (x := v 3) (by omega)
  have hn : nD (addDy J v) = nD J + 1 := rfl
  unfold f_X8_closeDay dcM
  simp only [vlet]
  rw [hro, a2, hn, addDy_uns]
  cases c : uns (v 3)
  · rw [c] at hun
    have hs : setI N 7 5 (nI (unsTo J (nD J) + if false = true then 1 else 0)) = N := by
      rw [if_neg (by decide), Nat.add_zero]
      exact setI_same a3
    rw [hs]
    simp (disch := omega) only [lit, ltI, leI, eqI, addI, mulI, subI, clI, ckI, if_pos, if_neg, if_true, if_false, Option.bind_some, b2_0, b2_n0, b2_1, b2_n1, Bool.true_eq_false, Bool.false_eq_true, b2_t, b2_f, e8, e3, hun]
  · rw [c] at hun
    have e4 : (setI N 7 5 (nI (unsTo J (nD J) + 1))).1 7 4 = nI (nD J) := by rw [setI_nk (by decide)]; exact a2
    rw [if_pos rfl]
    simp (disch := omega) only [lit, ltI, leI, eqI, addI, mulI, subI, clI, ckI, if_pos, if_neg, if_true, if_false, Option.bind_some, b2_0, b2_n0, b2_1, b2_n1, Bool.true_eq_false, Bool.false_eq_true, b2_t, b2_f, e8, e3, hun, a3, e4]
theorem closeD_dx (hW : WJ J) {v : Nat → Nat} {N : Mem} (h : PD J v N) (h8 : nD J < 8) : DX (addDy J v) (dcM N (addDy J v)) := by
  obtain ⟨⟨a1, a2, a3, a4, a5, a6, a7, a8, a9, a10, a11⟩, z1, z2, z3, hv⟩ := h
  refine ⟨⟨?_, setI_at, ?_, ?_, ?_, ?_, ?_, ?_, ?_, fun d hd k hk => ?_, ?_⟩, ⟨fun i hi1 hi2 => ?_, ?_, fun d hd1 hd2 k hk => ?_⟩, fun hn k hk => ?_⟩
  · rw [dcM_nk (by decide) (by decide)]; exact a1
  · unfold dcM
    rw [setI_nk (by decide), setI_at]
  · rw [dcM_nk (by decide) (by decide)]; exact a4
  · rw [dcM_nk (by decide) (by decide)]; exact a5
  · rw [dcM_nk (by decide) (by decide)]; exact a6
  · rw [dcM_nk (by decide) (by decide)]; exact a7
  · rw [dcM_nk (by decide) (by decide)]; exact a8
  · show ∀ i, i < nT J → ∀ k, k < 8 → (dcM _ _).1 8 _ = _
    rw [dcM_ne (by decide)]; exact a9
  · show (dcM _ _).1 9 _ = _
    rw [dcM_ne (by decide)]
    have hd : d < nD J + 1 := hd
    by_cases e : d = nD J
    · subst e
      rw [addDy_at]
      exact hv k hk
    · rw [addDy_ne e]
      exact a10 d (by omega) k hk
  · show ∀ i, i < nT J → (dcM _ _).1 10 _ = _
    rw [dcM_ne (by decide)]; exact a11
  · rw [dcM_ne (by decide)]
    have hi1 : nT J < i := hi1
    exact z1 i (by omega) hi2
  · rw [dcM_ne (by decide)]; exact z2
  · rw [dcM_ne (by decide)]
    have hd1 : nD J + 1 ≤ d := hd1
    exact z3 d (by omega) hd2 k hk
  · rw [dcM_ne (by decide)]
    exact z1 (nT J) (Nat.le_refl _) hn k hk
/-- the end of an item that tells a day -/
theorem dyEnd_nat (hW : WJ J) {v : Nat → Nat} {N : Mem} {e : Nat} (hC : CN T e N) (he : e < 510) (h : PD J v N) (h8 : nD J < 8) (hv : v 3 ≤ 99) : IR T (if tc T e = 8 then .inr (e + 1, addDy J v) else .inl e) N ((f_X6_take N (8 : Int32)).bind fun p => if p.1 = 0 then some ((0 : Int32), p.2) else (f_X6_closeDay p.2).bind fun q => if q.1 = 0 then some ((0 : Int32), q.2) else some ((1 : Int32), q.2)) := by
  have ht : f_X6_take N (8 : Int32) = some (if tc T e = 8 then (1, adv N e) else (0, N)) := take_nat hC (c := 8) (by decide)
  rw [ht]
  by_cases c : tc T e = 8
  · have hP2 : PD J v (adv N e) := h.fld
    have hC2 := adv_cn hC (by omega)
    have hcl := closeD_nat hW hP2 h8 hv
    have hdx := closeD_dx hW hP2 h8
    rw [if_pos c, if_pos c]
    refine ⟨dcM (adv N e) (addDy J v), ?_, ?_, hdx, adv_rf.trans dcM_rf⟩
    · unfold f_X6_closeDay
      rw [Option.bind_some]
      dsimp only
      rw [if_neg n10, hcl]
      rfl
    · exact ⟨dcM_rf.ct hC2.1, by rw [dcM_ne (by decide)]; exact hC2.2.1, hC2.2.2⟩
  · rw [if_neg c, if_neg c]
    exact ⟨N, rfl, hC, RF.refl⟩
/-- from the word rain on -/
theorem dyRain_nat (hW : WJ J) {v : Nat → Nat} {N : Mem} {k e : Nat} (hC : CN T e N) (he : e < 508) (h : PD J v N) (h8 : nD J < 8) (hv : ∀ r, ∀ j, j < 4 → upF v 3 r j = dyV T k r j) (hv0 : v 3 = 0) : IR T (if tc T e = 7 then pRain T k e J else if tc T e = 8 then .inr (e + 1, addDy J (dyV T k 0)) else .inl e) N (((f_X6_take N (7 : Int32)).bind fun p14 => if p14.1 = 0 then some ((1 : Int32), p14.2) else (f_X6_readRain p14.2).bind fun p17 => if p17.1 = 0 then some ((0 : Int32), p17.2) else some ((1 : Int32), p17.2)).bind fun p16 => if p16.1 = 0 then some ((0 : Int32), p16.2) else (f_X6_take p16.2 (8 : Int32)).bind fun p => if p.1 = 0 then some ((0 : Int32), p.2) else (f_X6_closeDay p.2).bind fun q => if q.1 = 0 then some ((0 : Int32), q.2) else some ((1 : Int32), q.2)) := by
  have ht : f_X6_take N (7 : Int32) = some (if tc T e = 7 then (1, adv N e) else (0, N)) := take_nat hC (c := 7) (by decide)
  rw [ht, Option.bind_some]
  by_cases c : tc T e = 7
  · have hC1 := adv_cn hC (by omega)
    have hP1 : PD J v (adv N e) := h.fld
    obtain ⟨f1, g1⟩ := readRain_nat hW hC1 (by omega) hP1 h8
    unfold pRain
    rw [if_pos c, if_pos c]
    dsimp only
    rw [if_neg n10]
    cases hr : rnOk J (tc T (e + 1))
    · rw [f1 hr, if_neg (by decide)]
      exact ⟨adv N e, rfl, hC1, adv_rf⟩
    · obtain ⟨N2, e2, hC2, hP2, r2⟩ := g1 hr
      have h199 := (tc_lt (T := T) (e + 1)).1
      rw [e2, if_pos rfl]
      have hv3 : dyV T k (tc T (e + 1) - 100) 3 ≤ 99 := by
        show tc T (e + 1) - 100 ≤ 99
        omega
      exact (dyEnd_nat hW hC2 (by omega) (hP2.congr (hv _)) h8 hv3).of (adv_rf.trans r2)
  · have hP2 : PD J (dyV T k 0) N := by
      refine h.congr (fun j hj => ?_)
      rw [← hv 0 j hj]
      unfold upF
      by_cases e : j = 3
      · subst e
        rw [if_pos rfl, hv0]
      · rw [if_neg e]
    rw [if_neg c, if_neg c]
    exact dyEnd_nat hW hC (by omega) hP2 h8 (show (0 : Nat) ≤ 99 by decide)
def vd (T : TL) (k : Nat) : Nat → Nat := upF (upF (upF (fun _ => 0) 0 (tc T (k + 1) - 100)) 1 (tc T (k + 2) - 100)) 2 (if tc T (k + 3) = 6 then 1 else 0)
theorem vd_ok {k r : Nat} : ∀ j, j < 4 → upF (vd T k) 3 r j = dyV T k r j := by
  intro j hj
  rcases (by omega : j = 0 ∨ j = 1 ∨ j = 2 ∨ j = 3) with rfl | rfl | rfl | rfl <;> rfl
theorem day_nat (hW : WJ J) {N : Mem} {k : Nat} (hC : CN T k N) (hk : k < 500) (hD : DX J N) : IR T (pDay T k J) N ((f_X6_readDay N).bind fun p16 => if p16.1 = 0 then some ((0 : Int32), p16.2) else (f_X6_take p16.2 (8 : Int32)).bind fun p => if p.1 = 0 then some ((0 : Int32), p.2) else (f_X6_closeDay p.2).bind fun q => if q.1 = 0 then some ((0 : Int32), q.2) else some ((1 : Int32), q.2)) := by
  have hro := roomD_nat hW hD.1
  unfold pDay f_X6_readDay
  by_cases h8 : 8 ≤ nD J
  · rw [decide_eq_false (by omega)] at hro
    rw [if_pos h8, hro, if_pos b2_f]
    exact ⟨N, rfl, hC, RF.refl⟩
  have h8 : nD J < 8 := by omega
  rw [decide_eq_true h8] at hro
  have hn8 : ¬ 8 ≤ nD J := by omega
  simp only [vlet]
  rw [if_neg hn8, hro, if_neg b2_nt, hC.2.1, show nI k + (1 : Int32) = nI (k + 1) from addI k 1, show setI N 11 5 (nI (k + 1)) = adv N k from rfl]
  have hC1 := adv_cn hC (by omega)
  have hP1 : PD J (fun _ => 0) (adv N k) := (hD.pd h8).fld
  have r1 : RF N (adv N k) := adv_rf
  generalize adv N k = Na at hC1 hP1 r1 ⊢
  unfold bD
  obtain ⟨f1, g1⟩ := readWant_nat hW hC1 (by omega) hP1 h8 (j := 0) (hi := 27) (by decide) (by decide)
  rw [bad_C]
  by_cases c1 : 100 + 0 ≤ tc T (k + 1) ∧ tc T (k + 1) ≤ 100 + 27
  rotate_left
  · have z : f_X6_readWant Na (0 : Int32) (27 : Int32) = some (0, Na) := f1 c1
    rw [if_neg c1, z]
    exact ⟨Na, rfl, hC1, r1⟩
  obtain ⟨Nb, e2, hC2, hP2, r2⟩ := g1 c1
  have e2 : f_X6_readWant Na (0 : Int32) (27 : Int32) = some (1, Nb) := e2
  rw [if_pos c1, e2, Option.bind_some]
  dsimp only
  rw [if_neg n10]
  obtain ⟨f2, g2⟩ := readWant_nat hW hC2 (by omega) hP2 h8 (j := 1) (hi := 9) (by decide) (by decide)
  rw [bad_C]
  by_cases c2 : 100 + 0 ≤ tc T (k + 2) ∧ tc T (k + 2) ≤ 100 + 9
  rotate_left
  · have z : f_X6_readWant Nb (1 : Int32) (9 : Int32) = some (0, Nb) := f2 c2
    rw [if_neg c2, z]
    exact ⟨Nb, rfl, hC2, r1.trans r2⟩
  obtain ⟨Nc, e3, hC3, hP3, r3⟩ := g2 c2
  have e3 : f_X6_readWant Nb (1 : Int32) (9 : Int32) = some (1, Nc) := e3
  rw [if_pos c2, e3, Option.bind_some]
  dsimp only
  rw [if_neg n10]
  have rc : RF N Nc := (r1.trans r2).trans r3
  have hC3 : CN T (k + 3) Nc := hC3
  have ht : f_X6_take Nc (6 : Int32) = some (if tc T (k + 3) = 6 then (1, adv Nc (k + 3)) else (0, Nc)) := take_nat hC3 (c := 6) (by decide)
  rw [ht, Option.bind_some]
  unfold dyE bad
  by_cases c6 : tc T (k + 3) = 6
  · have hC4 := adv_cn hC3 (by omega)
    have hP4 : PD J _ (adv Nc (k + 3)) := hP3.fld
    have hs : f_X8_setWant (adv Nc (k + 3)) 7 (2 : Int32) (1 : Int32) = some (setI (adv Nc (k + 3)) 9 (4 * nD J + 2) (nI 1)) := setWant_nat hW hP4 h8 (j := 2) (x := 1) (by decide)
    have hP5 := hP4.set (j := 2) (x := 1) (by decide)
    have hC5 : CN T (k + 4) (setI (adv Nc (k + 3)) 9 (4 * nD J + 2) (nI 1)) := ⟨(RF.drf (by decide)).ct hC4.1, by rw [setI_ne (by decide)]; exact hC4.2.1, hC4.2.2⟩
    have r5 : RF Nc (setI (adv Nc (k + 3)) 9 (4 * nD J + 2) (nI 1)) := adv_rf.trans (RF.drf (by decide))
    rw [if_pos c6, if_pos c6]
    dsimp only
    rw [if_neg n10, hs, Option.bind_some]
    refine (dyRain_nat hW (k := k) hC5 (by omega) hP5 h8 (fun r j hj => ?_) rfl).of (rc.trans r5)
    rw [← vd_ok j hj]
    unfold vd
    rw [if_pos c6]
  · have hs : f_X8_setWant Nc 7 (2 : Int32) (0 : Int32) = some (setI Nc 9 (4 * nD J + 2) (nI 0)) := setWant_nat hW hP3 h8 (j := 2) (x := 0) (by decide)
    have hP5 := hP3.set (j := 2) (x := 0) (by decide)
    have hC5 : CN T (k + 3) (setI Nc 9 (4 * nD J + 2) (nI 0)) := ⟨(RF.drf (by decide)).ct hC3.1, by rw [setI_ne (by decide)]; exact hC3.2.1, hC3.2.2⟩
    have r5 : RF Nc (setI Nc 9 (4 * nD J + 2) (nI 0)) := RF.drf (by decide)
    have n00 : (0 : Int32) = 0 := rfl
    rw [if_neg c6, if_neg c6]
    dsimp only
    rw [if_pos n00, hs, Option.bind_some]
    refine (dyRain_nat hW (k := k) hC5 (by omega) hP5 h8 (fun r j hj => ?_) rfl).of (rc.trans r5)
    rw [← vd_ok j hj]
    unfold vd
    rw [if_neg c6]
end DY
