-- part 95: the reference's reader: a day, the end of an item; how its states and the items agree
def est (T : TL) : Nat ⊕ Nat → Nat ⊕ Nat
  | .inl j => .inl j
  | .inr e => if tc T e = 8 then .inr (e + 1) else .inl e
theorem est_r {T : TL} {e : Nat} : est T (.inr e) = if tc T e = 8 then .inr (e + 1) else .inl e := rfl
def JR (T : TL) : PR1 → Mem → Prop
  | .inl j, N' => ST T (.inl j) N'
  | .inr q, N' => ST T (.inr q.1) N' ∧ HD q.2 N'
section RD
variable {J : Jr} {T : TL} {F : Nat}
theorem readDayR_nat (hT : WTx T) (hF : 600 ≤ F) (hW : WJ J) {N : Mem} {k : Nat} (h8 : nD J < 8) (hst : ST T (.inr (k + 1)) N) (hH : HD J N) : ∃ N', f_X10_readDay F N = some N' ∧ ST T (dyS T k J) N' ∧ RY N N' ∧ (∀ e, dyS T k J = .inr e → HD (addDy J (dyV T k (dyR T k))) N') := by
  unfold f_X10_readDay
  simp only [vlet]
  rw [if_pos (by decide), show (1 : Int32).toNatClampNeg = 1 from rfl, hH.2.1, show (32 : Int32) + (4 : Int32) * nI (nD J) = nI (32 + 4 * nD J) by rw [show (4 : Int32) * nI (nD J) = nI (4 * nD J) from mulI 4 _]; exact addI 32 _]
  obtain ⟨x1, M1, e1, sm1, d1, ok1⟩ := number_nat (F := F) hT hF hst (lo := 0) (hi := 27) (by decide) (by decide)
  have e1 : f_X10_number F N (0 : Int32) (27 : Int32) = some (x1, M1) := e1
  rw [e1, Option.bind_some, ckI (i := 32 + 4 * nD J) (by omega) (by decide), if_pos rfl, clI (n := 32 + 4 * nD J) (by omega)]
  have st1 := sm1.set (c := 42) (k := 32 + 4 * nD J) (x := x1) (by decide) (by decide)
  have hd1 := (hH.df d1).s42 (a := 32 + 4 * nD J) (x := x1) (by omega)
  have r1 : RY N (setI M1 42 (32 + 4 * nD J) x1) := d1.rg.trans (RY.set (by omega))
  have w1 : (setI M1 42 (32 + 4 * nD J) x1).1 42 (32 + 4 * nD J + 0) = x1 := setI_at
  generalize setI M1 42 (32 + 4 * nD J) x1 = N1 at st1 hd1 r1 w1 ⊢
  obtain ⟨x2, M2, e2, sm2, d2, ok2⟩ := number_nat (F := F) hT hF st1 (lo := 0) (hi := 9) (by decide) (by decide)
  have e2 : f_X10_number F N1 (0 : Int32) (9 : Int32) = some (x2, M2) := e2
  rw [e2, Option.bind_some, show nI (32 + 4 * nD J) + (1 : Int32) = nI (32 + 4 * nD J + 1) from addI _ 1, ckI (i := 32 + 4 * nD J + 1) (by omega) (by decide), if_pos rfl, clI (n := 32 + 4 * nD J + 1) (by omega)]
  have st2 := sm2.set (c := 42) (k := 32 + 4 * nD J + 1) (x := x2) (by decide) (by decide)
  have hd2 := (hd1.df d2).s42 (a := 32 + 4 * nD J + 1) (x := x2) (by omega)
  have r2 : RY N (setI M2 42 (32 + 4 * nD J + 1) x2) := r1.trans (d2.rg.trans (RY.set (by omega)))
  have w2 : (setI M2 42 (32 + 4 * nD J + 1) x2).1 42 (32 + 4 * nD J + 1) = x2 := setI_at
  have w2a : (setI M2 42 (32 + 4 * nD J + 1) x2).1 42 (32 + 4 * nD J + 0) = x1 := by rw [setI_nk (by omega), d2.1 42 (by decide)]; exact w1
  generalize setI M2 42 (32 + 4 * nD J + 1) x2 = N2 at st2 hd2 r2 w2 w2a ⊢
  obtain ⟨N3, e3, st3, d3⟩ := optional_nat (F := F) hT hF st2 (w := 6) (by decide)
  have e3 : f_X10_optional F N2 (6 : Int32) = some (b2 (oB T 6 (s2 T k)), N3) := e3
  have st3 : ST T (ost T 6 (s2 T k)) N3 := st3
  have hd3 := hd2.df d3
  have e42 : N3.1 42 = N2.1 42 := d3.1 42 (by decide)
  obtain ⟨N4, e4, st4, r4, hv⟩ := d61_nat (F := F) hT hF hW (b2 (oB T 6 (s2 T k))) h8 st3 hd3
  refine ⟨N4, ?_, st4, r2.trans (d3.rg.trans r4), fun f hf => ?_⟩
  · rw [e3, Option.bind_some, show nI (32 + 4 * nD J) + (2 : Int32) = nI (32 + 4 * nD J + 2) from addI _ 2]
    rw [← e4]
    dsimp only
    cases oB T 6 (s2 T k) <;> rfl
  · unfold dyS at hf
    cases hs : s2 T k with
    | inl j => rw [hs] at hf; cases hf
    | inr k3 =>
      obtain ⟨k2, q2, c2, rfl⟩ := nst_inv hs
      obtain ⟨k1, q1, c1, rfl⟩ := nst_inv q2
      cases q1
      have he : ost T 6 (s2 T k) = .inr (dyE T k) := by
        rw [hs, ost_r]
        unfold dyE
        by_cases c : tc T (k + 3) = 6
        · rw [if_pos c, if_pos c]
        · rw [if_neg c, if_neg c]
      have hx1 := ok1 (k + 1) rfl c1
      have hx2 := ok2 (k + 2) (by rw [nst_r, if_pos c1]) c2
      refine hv (dyE T k) he f (by rw [← hf]) (dyV T k (dyR T k)) ?_ ?_ ?_ rfl
      · rw [e42, w2a, hx1]
        rfl
      · rw [e42, w2, hx2]
        rfl
      · rw [hs, oB_r]
        show b2 (decide (tc T (k + 3) = 6)) = nI (if tc T (k + 3) = 6 then 1 else 0)
        by_cases c : tc T (k + 3) = 6
        · rw [decide_eq_true c, if_pos c]
          rfl
        · rw [decide_eq_false c, if_neg c]
          rfl
theorem srt_8 {c : Nat} (hc : c ≤ 199) (h : c ≤ 10 ∨ 100 ≤ c) : (nI (srt c) = nI 10) = (c = 8) := by
  have hs : srt c ≤ 11 := by
    unfold srt
    repeat' split
    all_goals omega
  rw [eqI (by omega) (by decide)]
  apply propext
  unfold srt
  constructor
  · intro e
    split at e
    · omega
    · split at e
      · omega
      · split at e
        · omega
        · split at e <;> omega
  · intro e
    rw [if_neg (by omega), if_pos e]
/-- the ; of an item -/
theorem endR_nat (hT : WTx T) (hF : 600 ≤ F) {N : Mem} {s : Nat ⊕ Nat} (h : ST T s N) : ∃ N', (if (N.1 36 11) = (10 : Int32) then ((f_X10_due F N (1 : Int32)).bind fun p9 => some p9.2) else ((f_X10_due F N (0 : Int32)).bind fun p11 => some p11.2)) = some N' ∧ ST T (est T s) N' ∧ DF N N' := by
  cases s with
  | inl j =>
    refine ⟨N, ?_, h, DF.refl⟩
    rw [due_inl hT h, due_inl hT h]
    split <;> rfl
  | inr e =>
    obtain ⟨t1, t2⟩ := tc_lt (T := T) e
    have h11 : (N.1 36 11 = (10 : Int32)) = (tc T e = 8) := by
      rw [h.2.2.2.2.1]
      exact srt_8 t1 t2
    rw [est_r]
    by_cases c : tc T e = 8
    · obtain ⟨N', a1, a2, a3⟩ := due_1 (F := F) hT hF h
      refine ⟨N', ?_, by rw [if_pos c]; exact a2, a3⟩
      rw [if_pos (h11.mpr c), a1]
      rfl
    · obtain ⟨N', a1, a2, a3⟩ := due_0 (F := F) h
      refine ⟨N', ?_, by rw [if_neg c]; exact a2, a3⟩
      rw [if_neg (fun z => c (h11.mp z)), a1]
      rfl
theorem s5_bad {k : Nat} : (∀ j, s5 T k = .inl j → bad T bT (k + 1) = some j) ∧ (∀ e, s5 T k = .inr e → bad T bT (k + 1) = none) := by
  unfold s5 bT
  rw [bad_C, nst_r]
  by_cases c1 : 100 + 0 ≤ tc T (k + 1) ∧ tc T (k + 1) ≤ 100 + 9
  rotate_left
  · rw [if_neg c1, if_neg c1]
    exact ⟨fun j h => by rw [← Sum.inl.inj h], fun e h => by cases h⟩
  rw [if_pos c1, if_pos c1, bad_C, nst_r]
  by_cases c2 : 100 + 0 ≤ tc T (k + 2) ∧ tc T (k + 2) ≤ 100 + 9
  rotate_left
  · rw [if_neg c2, if_neg c2]
    exact ⟨fun j h => by rw [← Sum.inl.inj h], fun e h => by cases h⟩
  rw [if_pos c2, if_pos c2, bad_C, nst_r]
  by_cases c3 : 100 + 1 ≤ tc T (k + 3) ∧ tc T (k + 3) ≤ 100 + 99
  rotate_left
  · rw [if_neg c3, if_neg c3]
    exact ⟨fun j h => by rw [← Sum.inl.inj h], fun e h => by cases h⟩
  rw [if_pos c3, if_pos c3, bad_C, nst_r]
  by_cases c4 : 100 + 1 ≤ tc T (k + 4) ∧ tc T (k + 4) ≤ 100 + 99
  rotate_left
  · rw [if_neg c4, if_neg c4]
    exact ⟨fun j h => by rw [← Sum.inl.inj h], fun e h => by cases h⟩
  rw [if_pos c4, if_pos c4, bad_C, nst_r]
  by_cases c5 : 100 + 0 ≤ tc T (k + 5) ∧ tc T (k + 5) ≤ 100 + 99
  rotate_left
  · rw [if_neg c5, if_neg c5]
    exact ⟨fun j h => by rw [← Sum.inl.inj h], fun e h => by cases h⟩
  rw [if_pos c5, if_pos c5]
  exact ⟨fun j h => (by cases h), fun e _ => rfl⟩
theorem th_rel {k : Nat} (h6 : nT J < 6) : (∀ j, est T (thS T k) = .inl j → pThing T k J = .inl j) ∧ (∀ e, est T (thS T k) = .inr e → pThing T k J = .inr (e, addTh J (thV T k)) ∧ ∃ f, thS T k = .inr f) := by
  have hn : ¬ 6 ≤ nT J := by omega
  unfold pThing
  rw [if_neg hn]
  cases hs : s5 T k with
  | inl j0 =>
    have hS : thS T k = .inl j0 := by
      unfold thS
      rw [hs]
      split <;> rfl
    rw [hS, (s5_bad (T := T) (k := k)).1 j0 hs]
    exact ⟨fun j h => by rw [← Sum.inl.inj h], fun e h => by cases h⟩
  | inr e0 =>
    have he0 := (s5_inv hs).2.2.2.2.2
    subst he0
    rw [(s5_bad (T := T) (k := k)).2 _ hs]
    dsimp only
    by_cases c2 : tc T k = 2
    · have hS : thS T k = .inr (k + 6) := by
        unfold thS
        rw [if_pos c2, hs]
      have hE : thE T k = k + 6 := if_pos c2
      rw [hS, if_pos c2, hE, est_r]
      show (∀ j, _ → (if tc T (k + 6) = 8 then (Sum.inr (k + 6 + 1, addTh J (thV T k)) : PR1) else .inl (k + 6)) = _) ∧ _
      by_cases c8 : tc T (k + 6) = 8
      · rw [if_pos c8, if_pos c8]
        refine ⟨fun j h => (by cases h), fun e h => ⟨?_, k + 6, rfl⟩⟩
        show (Sum.inr (k + 6 + 1, addTh J (thV T k)) : PR1) = _
        rw [← Sum.inr.inj h]
      · rw [if_neg c8, if_neg c8]
        exact ⟨fun j h => by rw [← Sum.inl.inj h], fun e h => by cases h⟩
    · rw [if_neg c2]
      unfold bC
      rw [bad_C]
      by_cases c6 : 100 + 1 ≤ tc T (k + 6) ∧ tc T (k + 6) ≤ 100 + 2
      rotate_left
      · have hS : thS T k = .inl (k + 6) := by
          unfold thS
          rw [if_neg c2, hs, nst_r, if_neg c6]
          rfl
        rw [hS, if_neg c6]
        exact ⟨fun j h => by rw [← Sum.inl.inj h], fun e h => by cases h⟩
      · have hE : thE T k = if tc T (k + 7) = 3 then k + 8 else k + 7 := if_neg c2
        have hS : thS T k = .inr (thE T k) := by
          unfold thS
          rw [if_neg c2, hs, nst_r, if_pos c6, ost_r, hE]
          by_cases c : tc T (k + 7) = 3
          · rw [if_pos c, if_pos c]
          · rw [if_neg c, if_neg c]
        rw [hS, if_pos c6, est_r]
        show (∀ j, _ → (if tc T (thE T k) = 8 then (Sum.inr (thE T k + 1, addTh J (thV T k)) : PR1) else .inl (thE T k)) = _) ∧ _
        by_cases c8 : tc T (thE T k) = 8
        · rw [if_pos c8, if_pos c8]
          refine ⟨fun j h => (by cases h), fun e h => ⟨?_, thE T k, rfl⟩⟩
          show (Sum.inr (thE T k + 1, addTh J (thV T k)) : PR1) = _
          rw [← Sum.inr.inj h]
        · rw [if_neg c8, if_neg c8]
          exact ⟨fun j h => by rw [← Sum.inl.inj h], fun e h => by cases h⟩
theorem dy_rel {k : Nat} (h8 : nD J < 8) : (∀ j, est T (dyS T k J) = .inl j → pDay T k J = .inl j) ∧ (∀ e, est T (dyS T k J) = .inr e → pDay T k J = .inr (e, addDy J (dyV T k (dyR T k))) ∧ ∃ f, dyS T k J = .inr f) := by
  have hn : ¬ 8 ≤ nD J := by omega
  unfold pDay bD
  rw [if_neg hn, bad_C]
  by_cases c1 : 100 + 0 ≤ tc T (k + 1) ∧ tc T (k + 1) ≤ 100 + 27
  rotate_left
  · have hS : dyS T k J = .inl (k + 1) := by
      unfold dyS s2
      rw [nst_r, if_neg c1]
      rfl
    rw [hS, if_neg c1]
    exact ⟨fun j h => by rw [← Sum.inl.inj h], fun e h => by cases h⟩
  rw [if_pos c1, bad_C]
  by_cases c2 : 100 + 0 ≤ tc T (k + 2) ∧ tc T (k + 2) ≤ 100 + 9
  rotate_left
  · have hS : dyS T k J = .inl (k + 2) := by
      unfold dyS s2
      rw [nst_r, if_pos c1, nst_r, if_neg c2]
      rfl
    rw [hS, if_neg c2]
    exact ⟨fun j h => by rw [← Sum.inl.inj h], fun e h => by cases h⟩
  have hS : dyS T k J = rst T J (.inr (dyE T k)) := by
    unfold dyS s2
    rw [nst_r, if_pos c1, nst_r, if_pos c2, ost_r]
    unfold dyE
    by_cases c : tc T (k + 3) = 6
    · rw [if_pos c, if_pos c]
    · rw [if_neg c, if_neg c]
  rw [if_pos c2, hS, rst_r]
  show (∀ j, _ → (if tc T (dyE T k) = 7 then pRain T k (dyE T k) J else if tc T (dyE T k) = 8 then (Sum.inr (dyE T k + 1, addDy J (dyV T k 0)) : PR1) else .inl (dyE T k)) = _) ∧ (∀ e, _ → (if tc T (dyE T k) = 7 then pRain T k (dyE T k) J else if tc T (dyE T k) = 8 then (Sum.inr (dyE T k + 1, addDy J (dyV T k 0)) : PR1) else .inl (dyE T k)) = _ ∧ _)
  by_cases c7 : tc T (dyE T k) = 7
  · have hR : dyR T k = tc T (dyE T k + 1) - 100 := if_pos c7
    rw [if_pos c7, if_pos c7, hR]
    unfold pRain
    by_cases hr : rnOk J (tc T (dyE T k + 1)) = true
    · rw [if_pos hr, if_pos hr, est_r]
      by_cases c8 : tc T (dyE T k + 2) = 8
      · rw [if_pos c8, if_pos c8]
        exact ⟨fun j h => (by cases h), fun e h => ⟨by rw [← Sum.inr.inj h], dyE T k + 2, rfl⟩⟩
      · rw [if_neg c8, if_neg c8]
        exact ⟨fun j h => by rw [← Sum.inl.inj h], fun e h => by cases h⟩
    · rw [if_neg hr, if_neg hr]
      exact ⟨fun j h => by rw [← Sum.inl.inj h], fun e h => by cases h⟩
  · have hR : dyR T k = 0 := if_neg c7
    rw [if_neg c7, if_neg c7, hR, est_r]
    by_cases c8 : tc T (dyE T k) = 8
    · rw [if_pos c8, if_pos c8]
      exact ⟨fun j h => (by cases h), fun e h => ⟨by rw [← Sum.inr.inj h], dyE T k, rfl⟩⟩
    · rw [if_neg c8, if_neg c8]
      exact ⟨fun j h => by rw [← Sum.inl.inj h], fun e h => by cases h⟩
end RD
