-- part 85: the class's reader: an item that tells which are apart
theorem DX.same {J : Jr} {N N' : Mem} (h : DX J N) (e7 : N'.1 7 = N.1 7) (e8 : N'.1 8 = N.1 8) (e9 : N'.1 9 = N.1 9) (e10 : N'.1 10 = N.1 10) : DX J N' := by
  refine ⟨h.1.same e7 e8 e9 e10, ?_, ?_⟩
  · unfold DZ
    rw [e8, e9, e10]
    exact h.2.1
  · rw [e8]
    exact h.2.2
theorem DX.fld {J : Jr} {N : Mem} {k : Nat} {x : Int32} (h : DX J N) : DX J (setI N 11 k x) := h.same (setI_ne (by decide)) (setI_ne (by decide)) (setI_ne (by decide)) (setI_ne (by decide))
section AP
variable {J : Jr} {T : TL}
theorem hun_nat {n : Nat} (h : n ≤ 6) : (100 : Int32) + (nI n - (1 : Int32)) = nI (99 + n) := by
  rcases (by omega : n = 0 ∨ n = 1 ∨ n = 2 ∨ n = 3 ∨ n = 4 ∨ n = 5 ∨ n = 6) with rfl | rfl | rfl | rfl | rfl | rfl | rfl <;> decide
theorem takeA_nat {N : Mem} {k n : Nat} (hC : CN T k N) (hn : n ≤ 6) : f_X6_takeNumber N (0 : Int32) (nI n - (1 : Int32)) = some (if 100 ≤ tc T k ∧ tc T k < 100 + n then (1, adv (setI N 11 6 (nI (tc T k - 100))) k) else (0, N)) := by
  have ht := (tc_lt (T := T) k).1
  have h6 := hC.2.2
  have e5 : (setI N 11 6 (nI (tc T k - 100))).1 11 5 = nI k := by rw [setI_nk (by decide)]; exact hC.2.1
  unfold f_X6_takeNumber
  simp only [vlet]
  rw [next_nat hC, Option.bind_some, hun_nat hn]
  by_cases c1 : 100 ≤ tc T k
  · by_cases c2 : tc T k < 100 + n
    · simp (disch := omega) only [lit, ltI, leI, eqI, addI, mulI, subI, clI, ckI, if_pos, if_neg, if_true, if_false, Option.bind_some, b2_0, b2_n0, b2_1, b2_n1, Bool.true_eq_false, Bool.false_eq_true, b2_t, b2_f, e5]
      rfl
    · simp (disch := omega) only [lit, ltI, leI, eqI, addI, mulI, subI, clI, ckI, if_pos, if_neg, if_true, if_false, Option.bind_some, b2_0, b2_n0, b2_1, b2_n1, Bool.true_eq_false, Bool.false_eq_true, b2_t, b2_f]
  · simp (disch := omega) only [lit, ltI, leI, eqI, addI, mulI, subI, clI, ckI, if_pos, if_neg, if_true, if_false, Option.bind_some, b2_0, b2_n0, b2_1, b2_n1, Bool.true_eq_false, Bool.false_eq_true, b2_t, b2_f]
theorem setApart_nat (hW : WJ J) {N : Mem} {a b : Nat} (h : HX J N 7) (ha : a < nT J) (hb : b < nT J) (hab : a ≠ b) : f_X8_setApart N 7 (nI a) (nI b) = some (setI (setI N 10 a (nI (ap J a ||| 2 ^ b))) 10 b (nI (ap J b ||| 2 ^ a))) := by
  have h6 := hW.1
  have t1 : f_X8_hasThing N 7 (nI a) = 1 := by rw [hasThing_nat h hW (by omega), decide_eq_true ha]; rfl
  have t2 : f_X8_hasThing N 7 (nI b) = 1 := by rw [hasThing_nat h hW (by omega), decide_eq_true hb]; rfl
  have ea : N.1 10 a = nI (ap J a) := h.2.2.2.2.2.2.2.2.2.2 a ha
  have eb : (setI N 10 a (nI (ap J a ||| 2 ^ b))).1 10 b = nI (ap J b) := by
    rw [setI_nk (fun e => hab e.symm)]
    exact h.2.2.2.2.2.2.2.2.2.2 b hb
  unfold f_X8_setApart
  simp only [vlet]
  rw [t1, t2]
  simp (disch := omega) only [lit, ltI, leI, eqI, addI, mulI, subI, clI, ckI, if_pos, if_neg, if_true, if_false, Option.bind_some, b2_0, b2_n0, b2_1, b2_n1, Bool.true_eq_false, Bool.false_eq_true, b2_t, b2_f, ea, nI_shl, pow_or, eb]
theorem setAp_dx (hW : WJ J) {N : Mem} {a b : Nat} (h : DX J N) (ha : a < nT J) (hb : b < nT J) (hab : a ≠ b) : DX (setAp J a b) (setI (setI N 10 a (nI (ap J a ||| 2 ^ b))) 10 b (nI (ap J b ||| 2 ^ a))) := by
  obtain ⟨⟨a1, a2, a3, a4, a5, a6, a7, a8, a9, a10, a11⟩, ⟨z1, z2, z3⟩, hv⟩ := h
  have hne : ∀ c, c ≠ 10 → (setI (setI N 10 a (nI (ap J a ||| 2 ^ b))) 10 b (nI (ap J b ||| 2 ^ a))).1 c = N.1 c := fun c hc => by rw [setI_ne hc, setI_ne hc]
  have e7 := hne 7 (by decide)
  have e8 := hne 8 (by decide)
  have e9 := hne 9 (by decide)
  have hap : ∀ i, i ≠ a → i ≠ b → (setI (setI N 10 a (nI (ap J a ||| 2 ^ b))) 10 b (nI (ap J b ||| 2 ^ a))).1 10 i = N.1 10 i := fun i h1 h2 => by rw [setI_nk h2, setI_nk h1]
  refine ⟨⟨?_, ?_, ?_, ?_, ?_, ?_, ?_, ?_, ?_, ?_, fun i hi => ?_⟩, ⟨?_, fun i h1 h2 => ?_, ?_⟩, ?_⟩
  · rw [e7]; exact a1
  · rw [e7]; exact a2
  · rw [e7, unsTo_congr (J := J) (J' := setAp J a b) (nD (setAp J a b)) (fun _ _ => rfl)]; exact a3
  · rw [e7]; exact a4
  · rw [e7]; exact a5
  · rw [e7]; exact a6
  · rw [e7]; exact a7
  · rw [e7]; exact a8
  · show ∀ i, i < nT J → ∀ k, k < 8 → (setI _ _ _ _).1 8 _ = _
    rw [e8]; exact a9
  · show ∀ i, i < nD J → ∀ k, k < 4 → (setI _ _ _ _).1 9 _ = _
    rw [e9]; exact a10
  · have hi : i < nT J := hi
    show (setI _ _ _ _).1 10 i = nI (if i = a then ap J a ||| 2 ^ b else if i = b then ap J b ||| 2 ^ a else ap J i)
    by_cases e : i = a
    · subst e
      rw [if_pos rfl, setI_nk hab, setI_at]
    · rw [if_neg e]
      by_cases e2 : i = b
      · subst e2
        rw [if_pos rfl, setI_at]
      · rw [if_neg e2, hap i e e2]
        exact a11 i hi
  · show ∀ i, nT J < i → i < 6 → ∀ j, j < 8 → (setI _ _ _ _).1 8 _ = _
    rw [e8]; exact z1
  · have h1 : nT J ≤ i := h1
    rw [hap i (by omega) (by omega)]
    exact z2 i h1 h2
  · show ∀ d, nD J ≤ d → d < 8 → ∀ j, j < 4 → (setI _ _ _ _).1 9 _ = _
    rw [e9]; exact z3
  · show nT J < 6 → ∀ j, j < 8 → (setI _ _ _ _).1 8 _ = _
    rw [e8]; exact hv
/-- the end of an item that tells which are apart -/
theorem apEnd_nat {J' : Jr} {N : Mem} {e : Nat} (hC : CN T e N) (he : e < 510) (h : DX J' N) : IR T (if tc T e = 8 then .inr (e + 1, J') else .inl e) N ((f_X6_take N (8 : Int32)).bind fun p => if p.1 = 0 then some ((0 : Int32), p.2) else some ((1 : Int32), p.2)) := by
  have ht : f_X6_take N (8 : Int32) = some (if tc T e = 8 then (1, adv N e) else (0, N)) := take_nat hC (c := 8) (by decide)
  rw [ht]
  by_cases c : tc T e = 8
  · rw [if_pos c, if_pos c]
    exact ⟨adv N e, rfl, adv_cn hC (by omega), h.fld, adv_rf⟩
  · rw [if_neg c, if_neg c]
    exact ⟨N, rfl, hC, RF.refl⟩
theorem isNextA_nat {N : Mem} {k c : Nat} (hC : CN T k N) (h1 : 100 ≤ c) (h2 : c ≤ 199) (h6 : N.1 11 6 = nI (c - 100)) : f_X6_isNext N ((100 : Int32) + (N.1 11 6)) = some (b2 (decide (tc T k = c))) := by
  have e : (100 : Int32) + nI (c - 100) = nI c := by
    have := addI 100 (c - 100)
    rw [show 100 + (c - 100) = c by omega] at this
    exact this
  rw [h6, e]
  exact isNext_nat hC (by omega)
theorem apart_nat (hW : WJ J) {N : Mem} {k : Nat} (hC : CN T k N) (hk : k < 500) (hD : DX J N) : IR T (pApart T k J) N ((f_X6_readApart N).bind fun p25 => if p25.1 = 0 then some ((0 : Int32), p25.2) else (f_X6_take p25.2 (8 : Int32)).bind fun p => if p.1 = 0 then some ((0 : Int32), p.2) else some ((1 : Int32), p.2)) := by
  have h6 := hW.1
  have hC1 := adv_cn hC (by omega)
  have hD1 : DX J (adv N k) := hD.fld
  have r1 : RF N (adv N k) := adv_rf
  have t1 := (tc_lt (T := T) (k + 1)).1
  have t2 := (tc_lt (T := T) (k + 2)).1
  unfold f_X6_readApart pApart
  simp only [vlet]
  rw [hC.2.1, show nI k + (1 : Int32) = nI (k + 1) from addI k 1, show setI N 11 5 (nI (k + 1)) = adv N k from rfl]
  generalize adv N k = Na at hC1 hD1 r1 ⊢
  rw [show f_X8_things Na 7 = nI (nT J) from hD1.1.1, takeA_nat hC1 h6, Option.bind_some]
  by_cases c1 : 100 ≤ tc T (k + 1) ∧ tc T (k + 1) < 100 + nT J
  rotate_left
  · rw [if_neg c1, if_neg c1]
    exact ⟨Na, rfl, hC1, r1⟩
  rw [if_pos c1, if_pos c1]
  dsimp only
  rw [if_neg n10]
  have hC2 : CN T (k + 2) (adv (setI Na 11 6 (nI (tc T (k + 1) - 100))) (k + 1)) := adv_cn ⟨(RF.fld (Or.inr rfl)).ct hC1.1, by rw [setI_nk (by decide)]; exact hC1.2.1, hC1.2.2⟩ (by omega)
  have hD2 : DX J (adv (setI Na 11 6 (nI (tc T (k + 1) - 100))) (k + 1)) := hD1.fld.fld
  have r2 : RF N (adv (setI Na 11 6 (nI (tc T (k + 1) - 100))) (k + 1)) := r1.trans ((RF.fld (Or.inr rfl)).trans adv_rf)
  have e2 : (adv (setI Na 11 6 (nI (tc T (k + 1) - 100))) (k + 1)).1 11 6 = nI (tc T (k + 1) - 100) := by
    unfold adv
    rw [setI_nk (by decide), setI_at]
  generalize adv (setI Na 11 6 (nI (tc T (k + 1) - 100))) (k + 1) = Nb at hC2 hD2 r2 e2 ⊢
  rw [isNextA_nat hC2 c1.1 t1 e2, Option.bind_some]
  by_cases c3 : tc T (k + 2) = tc T (k + 1)
  · have hno : ¬ (tc T (k + 2) ≠ tc T (k + 1) ∧ 100 ≤ tc T (k + 2) ∧ tc T (k + 2) < 100 + nT J) := fun z => z.1 c3
    rw [if_neg hno, decide_eq_true c3, if_neg b2_nt]
    exact ⟨Nb, rfl, hC2, r2⟩
  rw [decide_eq_false c3, if_pos b2_f, takeA_nat hC2 h6, Option.bind_some]
  by_cases c2 : 100 ≤ tc T (k + 2) ∧ tc T (k + 2) < 100 + nT J
  rotate_left
  · have hno : ¬ (tc T (k + 2) ≠ tc T (k + 1) ∧ 100 ≤ tc T (k + 2) ∧ tc T (k + 2) < 100 + nT J) := fun z => c2 z.2
    rw [if_neg hno, if_neg c2]
    exact ⟨Nb, rfl, hC2, r2⟩
  have hyes : tc T (k + 2) ≠ tc T (k + 1) ∧ 100 ≤ tc T (k + 2) ∧ tc T (k + 2) < 100 + nT J := ⟨c3, c2⟩
  rw [if_pos hyes, if_pos c2]
  dsimp only
  rw [if_neg n10]
  have hC3 : CN T (k + 3) (adv (setI Nb 11 6 (nI (tc T (k + 2) - 100))) (k + 2)) := adv_cn ⟨(RF.fld (Or.inr rfl)).ct hC2.1, by rw [setI_nk (by decide)]; exact hC2.2.1, hC2.2.2⟩ (by omega)
  have hD3 : DX J (adv (setI Nb 11 6 (nI (tc T (k + 2) - 100))) (k + 2)) := hD2.fld.fld
  have r3 : RF N (adv (setI Nb 11 6 (nI (tc T (k + 2) - 100))) (k + 2)) := r2.trans ((RF.fld (Or.inr rfl)).trans adv_rf)
  have e3 : (adv (setI Nb 11 6 (nI (tc T (k + 2) - 100))) (k + 2)).1 11 6 = nI (tc T (k + 2) - 100) := by
    unfold adv
    rw [setI_nk (by decide), setI_at]
  generalize adv (setI Nb 11 6 (nI (tc T (k + 2) - 100))) (k + 2) = Nc at hC3 hD3 r3 e3 ⊢
  have ha : tc T (k + 1) - 100 < nT J := by omega
  have hb : tc T (k + 2) - 100 < nT J := by omega
  have hab : tc T (k + 1) - 100 ≠ tc T (k + 2) - 100 := by omega
  have hdx := setAp_dx hW hD3 ha hb hab
  rw [e2, e3, setApart_nat hW hD3.1 ha hb hab, Option.bind_some, Option.bind_some]
  dsimp only
  rw [if_neg n10]
  have r4 : RF Nc (setI (setI Nc 10 (tc T (k + 1) - 100) (nI (ap J (tc T (k + 1) - 100) ||| 2 ^ (tc T (k + 2) - 100)))) 10 (tc T (k + 2) - 100) (nI (ap J (tc T (k + 2) - 100) ||| 2 ^ (tc T (k + 1) - 100)))) := (RF.drf (by decide)).trans (RF.drf (by decide))
  have hC4 : CN T (k + 3) (setI (setI Nc 10 (tc T (k + 1) - 100) (nI (ap J (tc T (k + 1) - 100) ||| 2 ^ (tc T (k + 2) - 100)))) 10 (tc T (k + 2) - 100) (nI (ap J (tc T (k + 2) - 100) ||| 2 ^ (tc T (k + 1) - 100)))) := ⟨r4.ct hC3.1, by rw [setI_ne (by decide), setI_ne (by decide)]; exact hC3.2.1, hC3.2.2⟩
  exact (apEnd_nat hC4 (by omega) hdx).of (r3.trans r4)
end AP
