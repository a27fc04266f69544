-- part 84: the class's reader: an item that tells a thing, whole
section TH
variable {J : Jr} {T : TL}
theorem n10 : ¬ (1 : Int32) = 0 := by decide
theorem DX.pt {N : Mem} (h : DX J N) (h6 : nT J < 6) : PT J (fun _ => 0) N := ⟨h.1, h.2.1, h.2.2 h6⟩
theorem readThing_full (hW : WJ J) {N : Mem} (h : HX J N 7) (h6 : 6 ≤ nT J) : f_X6_readThing N = some (0, N) := by
  have hro := room_nat hW h
  rw [decide_eq_false (by omega)] at hro
  unfold f_X6_readThing
  rw [hro, if_pos b2_f]
def v7 (T : TL) (k : Nat) : Nat → Nat := upF (upF (v5 T k) 6 (tc T (k + 6) - 100)) 7 (if tc T (k + 7) = 3 then 1 else 0)
theorem readClothes_nat (hW : WJ J) {N : Mem} {k : Nat} (hC : CN T (k + 6) N) (hk : k < 500) (h : PT J (v5 T k) N) (h6 : nT J < 6) : (∀ j, bad T bC (k + 6) = some j → ∃ N', f_X6_readClothes N = some (0, N') ∧ CN T j N' ∧ RF N N') ∧ (bad T bC (k + 6) = none → ∃ N', f_X6_readClothes N = some (1, N') ∧ CN T (if tc T (k + 7) = 3 then k + 8 else k + 7) N' ∧ PT J (v7 T k) N' ∧ RF N N') := by
  obtain ⟨f1, g1⟩ := readFact_nat hW hC (by omega) h h6 (j := 6) (lo := 1) (hi := 2) (by decide) (by decide) (by decide)
  unfold f_X6_readClothes bC
  rw [bad_C]
  by_cases c1 : 100 + 1 ≤ tc T (k + 6) ∧ tc T (k + 6) ≤ 100 + 2
  rotate_left
  · have z : f_X6_readFact N (6 : Int32) (1 : Int32) (2 : Int32) = some (0, N) := f1 c1
    rw [if_neg c1, z]
    refine ⟨fun j hj => ?_, fun hj => by cases hj⟩
    cases hj
    exact ⟨N, rfl, hC, RF.refl⟩
  obtain ⟨N1, e1, hC1, hP1, r1⟩ := g1 c1
  have e1 : f_X6_readFact N (6 : Int32) (1 : Int32) (2 : Int32) = some (1, N1) := e1
  rw [if_pos c1, e1, Option.bind_some]
  dsimp only
  rw [if_neg (by decide)]
  refine ⟨fun j hj => (by cases hj), fun _ => ?_⟩
  have ht := take_nat hC1 (c := 3) (by decide)
  have ht : f_X6_take N1 (3 : Int32) = some (if tc T (k + 6 + 1) = 3 then (1, adv N1 (k + 6 + 1)) else (0, N1)) := ht
  rw [ht, Option.bind_some]
  by_cases c2 : tc T (k + 7) = 3
  · have hC2 := adv_cn hC1 (by omega)
    have hP2 : PT J _ (adv N1 (k + 6 + 1)) := hP1.fld hW
    rw [if_pos c2]
    dsimp only
    have hs : f_X8_setFact (adv N1 (k + 6 + 1)) 7 (7 : Int32) (1 : Int32) = some (setI (adv N1 (k + 6 + 1)) 8 (8 * nT J + 7) (nI 1)) := setFact_nat hW hP2 h6 (j := 7) (x := 1) (by decide)
    refine ⟨setI (adv N1 (k + 6 + 1)) 8 (8 * nT J + 7) (nI 1), ?_, ?_, ?_, r1.trans (adv_rf.trans (RF.drf (by decide)))⟩
    · rw [if_neg (by decide), hs]
      rfl
    · rw [if_pos c2]
      exact ⟨(RF.drf (by decide)).ct hC2.1, by rw [setI_ne (by decide)]; exact hC2.2.1, hC2.2.2⟩
    · have := hP2.set hW h6 (j := 7) (x := 1) (by decide)
      unfold v7
      rw [if_pos c2]
      exact this
  · rw [if_neg c2]
    dsimp only
    have hs : f_X8_setFact N1 7 (7 : Int32) (0 : Int32) = some (setI N1 8 (8 * nT J + 7) (nI 0)) := setFact_nat hW hP1 h6 (j := 7) (x := 0) (by decide)
    refine ⟨setI N1 8 (8 * nT J + 7) (nI 0), ?_, ?_, ?_, r1.trans (RF.drf (by decide))⟩
    · rw [if_pos rfl, hs]
      rfl
    · rw [if_neg c2]
      exact ⟨(RF.drf (by decide)).ct hC1.1, by rw [setI_ne (by decide)]; exact hC1.2.1, hC1.2.2⟩
    · have := hP1.set hW h6 (j := 7) (x := 0) (by decide)
      unfold v7
      rw [if_neg c2]
      exact this
theorem v5_at {k j : Nat} (hj : j ≤ 5) (hj0 : j ≠ 0) : v5 T k j = tc T (k + j) - 100 := by
  unfold v5 upF
  rcases (by omega : j = 1 ∨ j = 2 ∨ j = 3 ∨ j = 4 ∨ j = 5) with rfl | rfl | rfl | rfl | rfl <;> rfl
theorem v5_0 {k : Nat} : v5 T k 0 = tc T k ∧ v5 T k 6 = 0 ∧ v5 T k 7 = 0 := ⟨rfl, rfl, rfl⟩
theorem thV_coat {k : Nat} (h : tc T k = 2) : ∀ j, j < 8 → v5 T k j = thV T k j := by
  intro j hj
  unfold thV
  rw [h]
  by_cases c0 : j = 0
  · subst c0
    rw [v5_0.1, h]
    rfl
  · rw [if_neg c0]
    by_cases c5 : j ≤ 5
    · rw [if_pos c5, v5_at c5 c0]
    · rw [if_neg c5]
      rcases (by omega : j = 6 ∨ j = 7) with rfl | rfl
      · rfl
      · rfl
theorem thV_cl {k : Nat} (h : tc T k ≠ 2) : ∀ j, j < 8 → v7 T k j = thV T k j := by
  intro j hj
  unfold thV v7 upF
  by_cases c0 : j = 0
  · subst c0
    exact v5_0.1
  · rw [if_neg c0]
    by_cases c5 : j ≤ 5
    · rw [if_pos c5, if_neg (by omega), if_neg (by omega), v5_at c5 c0]
    · rw [if_neg c5]
      rcases (by omega : j = 6 ∨ j = 7) with rfl | rfl
      · rw [if_neg (by decide), if_pos rfl, if_pos rfl, if_neg h]
      · by_cases c : tc T (k + 7) = 3 <;> simp [h, c]
theorem thV_lt {k : Nat} (hw : tc T k ≤ 2) : ∀ j, j < 8 → thV T k j ≤ 99 := by
  intro j hj
  have h1 := (tc_lt (T := T) (k + j)).1
  have h2 := (tc_lt (T := T) (k + 6)).1
  unfold thV
  repeat' split
  all_goals omega
/-- the end of an item that tells a thing -/
theorem thEnd_nat (hW : WJ J) {N : Mem} {k e : Nat} (hw : tc T k ≤ 2) (hC : CN T e N) (he : e < 510) (h : PT J (thV T k) N) (h6 : nT J < 6) : IR T (if tc T e = 8 then .inr (e + 1, addTh J (thV T k)) else .inl e) N ((f_X6_take N (8 : Int32)).bind fun p => if p.1 = 0 then some ((0 : Int32), p.2) else (f_X6_closeThing p.2).bind fun q => if q.1 = 0 then some ((0 : Int32), q.2) else some ((1 : Int32), q.2)) := by
  have ht : f_X6_take N (8 : Int32) = some (if tc T e = 8 then (1, adv N e) else (0, N)) := take_nat hC (c := 8) (by decide)
  rw [ht]
  by_cases c : tc T e = 8
  · have hP2 : PT J (thV T k) (adv N e) := h.fld hW
    have hC2 := adv_cn hC (by omega)
    have hcl := close_nat hW hP2 h6 (thV_lt hw) (show thV T k 0 ≤ 2 from hw)
    have hdx := close_dx hW hP2 h6
    rw [if_pos c, if_pos c]
    refine ⟨clM (adv N e) (addTh J (thV T k)), ?_, ?_, hdx, adv_rf.trans clM_rf⟩
    · unfold f_X6_closeThing
      rw [Option.bind_some]
      dsimp only
      rw [if_neg (by decide), hcl]
      rfl
    · exact ⟨clM_rf.ct hC2.1, by rw [clM_ne (by decide)]; exact hC2.2.1, hC2.2.2⟩
  · rw [if_neg c, if_neg c]
    exact ⟨N, rfl, hC, RF.refl⟩
theorem IR.of {r : PR1} {N N1 : Mem} {x : Option (Int32 × Mem)} (h : IR T r N1 x) (f : RF N N1) : IR T r N x := by
  cases r with
  | inl j =>
    obtain ⟨N', h1, h2, h3⟩ := h
    exact ⟨N', h1, h2, f.trans h3⟩
  | inr q =>
    obtain ⟨N', h1, h2, h3, h4⟩ := h
    exact ⟨N', h1, h2, h3, f.trans h4⟩
theorem coat_nat (hW : WJ J) {N : Mem} {k : Nat} (hC : CN T k N) (hk : k < 500) (hD : DX J N) (hw : tc T k = 2) : IR T (pThing T k J) N ((f_X6_readThing N).bind fun p31 => if p31.1 = 0 then some ((0 : Int32), p31.2) else (f_X6_take p31.2 (8 : Int32)).bind fun p => if p.1 = 0 then some ((0 : Int32), p.2) else (f_X6_closeThing p.2).bind fun q => if q.1 = 0 then some ((0 : Int32), q.2) else some ((1 : Int32), q.2)) := by
  unfold pThing
  by_cases h6 : 6 ≤ nT J
  · rw [if_pos h6, readThing_full hW hD.1 h6]
    exact ⟨N, rfl, hC, RF.refl⟩
  · have h6 : nT J < 6 := by omega
    obtain ⟨b1, b2'⟩ := (readThing_nat hW hC hk (hD.pt h6)).2 h6
    rw [if_neg (by omega)]
    cases hb : bad T bT (k + 1) with
    | some j =>
      obtain ⟨N1, e1, hC1, r1⟩ := b1 j hb
      rw [e1]
      exact ⟨N1, rfl, hC1, r1⟩
    | none =>
      obtain ⟨N1, e1, hC1, hP1, r1⟩ := b2' hb
      have hE : thE T k = k + 6 := if_pos hw
      rw [e1, if_pos hw, hE, Option.bind_some]
      exact (thEnd_nat hW (by omega) hC1 (by omega) (hP1.congr (thV_coat hw)) h6).of r1
theorem cloth_nat (hW : WJ J) {N : Mem} {k : Nat} (hC : CN T k N) (hk : k < 500) (hD : DX J N) (hw : tc T k < 2) : IR T (pThing T k J) N (f_X6_readItem_16 N) := by
  unfold pThing f_X6_readItem_16
  by_cases h6 : 6 ≤ nT J
  · rw [if_pos h6, readThing_full hW hD.1 h6]
    exact ⟨N, rfl, hC, RF.refl⟩
  · have h6 : nT J < 6 := by omega
    obtain ⟨b1, b2'⟩ := (readThing_nat hW hC hk (hD.pt h6)).2 h6
    rw [if_neg (by omega)]
    cases hb : bad T bT (k + 1) with
    | some j =>
      obtain ⟨N1, e1, hC1, r1⟩ := b1 j hb
      rw [e1]
      exact ⟨N1, rfl, hC1, r1⟩
    | none =>
      obtain ⟨N1, e1, hC1, hP1, r1⟩ := b2' hb
      have hne : ¬ tc T k = 2 := by omega
      rw [e1, if_neg hne, Option.bind_some]
      dsimp only
      rw [if_neg n10]
      obtain ⟨d1, d2⟩ := readClothes_nat hW hC1 hk hP1 h6
      cases hb2 : bad T bC (k + 6) with
      | some j =>
        obtain ⟨N2, e2, hC2, r2⟩ := d1 j hb2
        rw [e2]
        exact ⟨N2, rfl, hC2, r1.trans r2⟩
      | none =>
        obtain ⟨N2, e2, hC2, hP2, r2⟩ := d2 hb2
        have hE : thE T k = if tc T (k + 7) = 3 then k + 8 else k + 7 := if_neg (by omega)
        rw [← hE] at hC2
        have hE2 : thE T k < 510 := by rw [hE]; split <;> omega
        rw [e2, Option.bind_some]
        exact (thEnd_nat hW (by omega) hC2 hE2 (hP2.congr (thV_cl (by omega))) h6).of (r1.trans r2)
end TH
