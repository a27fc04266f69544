-- part 88: the class's reader: all items
theorem fillI_loop {F c len : Nat} {v : Int32} (hl : len ≤ 4096) : ∀ (m j n : Nat) (N : Mem), j + m = len → m < n → (∀ k, k < j → N.1 c k = v) → ∃ N', f_J7_fill_53178_5 F c len n v (nI j) (nI len) N = some N' ∧ (∀ k, k < len → N'.1 c k = v) ∧ N'.2 = N.2 ∧ ∀ d, d ≠ c → N'.1 d = N.1 d
  | 0, j, n + 1, N, hj, _, h => by
    refine ⟨N, ?_, fun k hk => h k (by omega), rfl, fun _ _ => rfl⟩
    rw [f_J7_fill_53178_5]
    simp (disch := omega) only [lit, ltI, leI, eqI, addI, mulI, subI, clI, ckI, if_pos, if_neg, if_true, if_false, Option.bind_some, b2_0, b2_n0, b2_1, b2_n1, Bool.true_eq_false, Bool.false_eq_true, b2_t, b2_f]
  | m + 1, j, n + 1, N, hj, hn, h => by
    obtain ⟨N', a1, a2, a3, a4⟩ := fillI_loop (F := F) (c := c) (v := v) hl m (j + 1) n (setI N c j v) (by omega) (by omega) (fun k hk => by
      by_cases e : k = j
      · subst e; exact setI_at
      · rw [setI_nk e]; exact h k (by omega))
    refine ⟨N', ?_, a2, a3, fun d hd => (a4 d hd).trans (setI_ne hd)⟩
    rw [f_J7_fill_53178_5]
    simp only [vlet]
    simp (disch := omega) only [lit, ltI, leI, eqI, addI, mulI, subI, clI, ckI, if_pos, if_neg, if_true, if_false, Option.bind_some, b2_0, b2_n0, b2_1, b2_n1, Bool.true_eq_false, Bool.false_eq_true, b2_t, b2_f]
    exact a1
  | _, _, 0, _, _, hn, _ => absurd hn (Nat.not_lt_zero _)
theorem fillI_nat {F c len : Nat} {v : Int32} {N : Mem} (hl : len ≤ 4096) (hF : 4100 ≤ F) : ∃ N', f_J7_fill_53178 F N c len v = some N' ∧ (∀ k, k < len → N'.1 c k = v) ∧ N'.2 = N.2 ∧ ∀ d, d ≠ c → N'.1 d = N.1 d := by
  unfold f_J7_fill_53178
  exact fillI_loop hl len 0 F N (by omega) (by omega) (fun k hk => absurd hk (Nat.not_lt_zero _))
/-- apart only among the told -/
def BJ (J : Jr) : Prop := ∀ i, i < nT J → ap J i < 2 ^ nT J
def QJ (J : Jr) : Prop := WJ J ∧ SY J ∧ BJ J
theorem QJ0 : QJ J0 := ⟨⟨by decide, by decide, fun i h => absurd h (Nat.not_lt_zero _), fun i h => absurd h (Nat.not_lt_zero _), fun i h => absurd h (Nat.not_lt_zero _), by decide⟩, fun i h => absurd h (Nat.not_lt_zero _), fun i h => absurd h (Nat.not_lt_zero _)⟩
section OK
variable {J : Jr} {T : TL}
theorem addTh_ok (hQ : QJ J) {v : Nat → Nat} (h6 : nT J < 6) (h : v 0 ≤ 2 ∧ v 1 ≤ 9 ∧ v 2 ≤ 9 ∧ (1 ≤ v 3 ∧ v 3 ≤ 99) ∧ (1 ≤ v 4 ∧ v 4 ≤ 99) ∧ v 5 ≤ 99 ∧ (v 6 ≤ 2 ∧ (v 0 ≠ 2 → 1 ≤ v 6)) ∧ v 7 ≤ 1) : QJ (addTh J v) := by
  obtain ⟨⟨w1, w2, w3, w4, w5, w6⟩, hS, hB⟩ := hQ
  have hap : ∀ i, i < nT J → ap (addTh J v) i = ap J i := fun i hi => if_neg (by omega)
  have hapn : ap (addTh J v) (nT J) = 0 := if_pos rfl
  have hp : (2 : Nat) ^ nT J ≤ 2 ^ (nT J + 1) := Nat.pow_le_pow_right (by decide) (by omega)
  refine ⟨⟨h6, w2, fun i hi => ?_, w4, fun i hi => ?_, ?_⟩, fun i hi j hj => ?_, fun i hi => ?_⟩
  · have hi : i < nT J + 1 := hi
    by_cases e : i = nT J
    · subst e
      rw [addTh_at, addTh_at, addTh_at, addTh_at, addTh_at, addTh_at, addTh_at, addTh_at]
      exact h
    · rw [addTh_ne e, addTh_ne e, addTh_ne e, addTh_ne e, addTh_ne e, addTh_ne e, addTh_ne e, addTh_ne e]
      exact w3 i (by omega)
  · have hi : i < nT J + 1 := hi
    by_cases e : i = nT J
    · rw [e, hapn]
      decide
    · rw [hap i (by omega)]
      exact w5 i (by omega)
  · rw [unsTo_congr (J := J) (J' := addTh J v) (nD (addTh J v)) (fun _ _ => rfl)]
    exact w6
  · have hi : i < nT J + 1 := hi
    have hj : j < nT J + 1 := hj
    have hbit : ∀ j, j < nT J → (ap J j).testBit (nT J) = false := fun j hj => Nat.testBit_lt_two_pow (hB j hj)
    by_cases e : i = nT J
    · subst e
      rw [hapn, Nat.zero_testBit, Nat.zero_testBit]
      by_cases e2 : j = nT J
      · rw [e2, hapn, Nat.zero_testBit]
        exact ⟨rfl, rfl⟩
      · rw [hap j (by omega), hbit j (by omega)]
        exact ⟨rfl, rfl⟩
    · by_cases e2 : j = nT J
      · subst e2
        rw [hapn, hap i (by omega), hbit i (by omega), Nat.zero_testBit]
        exact ⟨rfl, (hS i (by omega) i (by omega)).2⟩
      · rw [hap i (by omega), hap j (by omega)]
        exact hS i (by omega) j (by omega)
  · have hi : i < nT J + 1 := hi
    show _ < 2 ^ (nT J + 1)
    by_cases e : i = nT J
    · rw [e, hapn]
      exact Nat.two_pow_pos _
    · rw [hap i (by omega)]
      exact Nat.lt_of_lt_of_le (hB i (by omega)) hp
theorem addDy_ok (hQ : QJ J) {v : Nat → Nat} (h8 : nD J < 8) (h : v 0 ≤ 27 ∧ v 1 ≤ 9 ∧ v 2 ≤ 1 ∧ v 3 ≤ 10) (hu : uns (v 3) = true → unsTo J (nD J) < 4) : QJ (addDy J v) := by
  obtain ⟨⟨w1, w2, w3, w4, w5, w6⟩, hS, hB⟩ := hQ
  refine ⟨⟨w1, h8, w3, fun d hd => ?_, w5, ?_⟩, hS, hB⟩
  · have hd : d < nD J + 1 := hd
    by_cases e : d = nD J
    · subst e
      rw [addDy_at, addDy_at, addDy_at, addDy_at]
      exact h
    · rw [addDy_ne e, addDy_ne e, addDy_ne e, addDy_ne e]
      exact w4 d (by omega)
  · show unsTo (addDy J v) (nD J + 1) ≤ 4
    rw [addDy_uns]
    cases c : uns (v 3)
    · simp; exact w6
    · have := hu c
      simp; omega
theorem bit_or2 {x b i : Nat} : (x ||| 2 ^ b).testBit i = (x.testBit i || decide (b = i)) := by
  rw [Nat.testBit_or, Nat.testBit_two_pow]
theorem setAp_ok (hQ : QJ J) {a b : Nat} (ha : a < nT J) (hb : b < nT J) (hab : a ≠ b) : QJ (setAp J a b) := by
  obtain ⟨⟨w1, w2, w3, w4, w5, w6⟩, hS, hB⟩ := hQ
  have hlt : ∀ x i, x < 2 ^ nT J → i < nT J → x ||| 2 ^ i < 2 ^ nT J := fun x i hx hi => Nat.or_lt_two_pow hx (Nat.pow_lt_pow_right (by decide) hi)
  have hBJ : BJ (setAp J a b) := by
    intro i hi
    have hi : i < nT J := hi
    show (if i = a then ap J a ||| 2 ^ b else if i = b then ap J b ||| 2 ^ a else ap J i) < 2 ^ nT J
    split
    · exact hlt _ _ (hB a ha) hb
    · split
      · exact hlt _ _ (hB b hb) ha
      · exact hB i hi
  have hbit : ∀ i j, (ap (setAp J a b) i).testBit j = ((ap J i).testBit j || (decide (i = a) && decide (b = j)) || (decide (i = b) && decide (a = j))) := by
    intro i j
    show (if i = a then ap J a ||| 2 ^ b else if i = b then ap J b ||| 2 ^ a else ap J i).testBit j = _
    by_cases e : i = a
    · subst e
      rw [if_pos rfl, bit_or2, decide_eq_true rfl, decide_eq_false hab]
      simp
    · rw [if_neg e, decide_eq_false e]
      by_cases e2 : i = b
      · subst e2
        rw [if_pos rfl, bit_or2, decide_eq_true rfl]
        simp
      · rw [if_neg e2, decide_eq_false e2]
        simp
  refine ⟨⟨w1, w2, w3, w4, fun i hi => ?_, ?_⟩, fun i hi j hj => ?_, hBJ⟩
  · have h1 := hBJ i hi
    have h2 : (2 : Nat) ^ nT J ≤ 2 ^ 6 := Nat.pow_le_pow_right (by decide) w1
    have h1 : ap (setAp J a b) i < 2 ^ nT J := h1
    omega
  · rw [unsTo_congr (J := J) (J' := setAp J a b) (nD (setAp J a b)) (fun _ _ => rfl)]
    exact w6
  · have hi : i < nT J := hi
    have hj : j < nT J := hj
    obtain ⟨s1, s2⟩ := hS i hi j hj
    rw [hbit i j, hbit j i, hbit i i, s1, s2]
    refine ⟨?_, ?_⟩
    · have e : ∀ x y : Nat, decide (x = y) = decide (y = x) := fun x y => decide_eq_decide.mpr eq_comm
      rw [e b j, e a j, e b i, e a i]
      generalize decide (i = a) = A
      generalize decide (i = b) = B
      generalize decide (j = a) = C
      generalize decide (j = b) = D
      generalize (ap J j).testBit i = x
      cases A <;> cases B <;> cases C <;> cases D <;> cases x <;> rfl
    · by_cases e1 : i = a
      · subst e1
        rw [decide_eq_false (show ¬ b = i from fun h => hab h.symm), decide_eq_false (show ¬ i = b from hab)]
        simp
      · by_cases e2 : i = b
        · subst e2
          rw [decide_eq_false e1, decide_eq_false (show ¬ a = i from hab)]
          simp
        · simp [e1, e2]
theorem tk8 {k : Nat} (h : tc T k = 8) : k < T.length := by
  have : ts T k < T.length := by
    by_cases c : ts T k < T.length
    · exact c
    · have := (tc_n9 (T := T) (k := k)).mpr c
      omega
  exact tk_lt this
theorem item_ok (hQ : QJ J) {k : Nat} {q : Nat × Jr} (h : pItem T k J = .inr q) : QJ q.2 ∧ k < q.1 ∧ q.1 ≤ T.length := by
  unfold pItem at h
  by_cases c2 : tc T k ≤ 2
  · rw [if_pos c2] at h
    unfold pThing at h
    by_cases h6 : 6 ≤ nT J
    · rw [if_pos h6] at h; cases h
    · rw [if_neg h6] at h
      cases hb : bad T bT (k + 1) with
      | some j => rw [hb] at h; cases h
      | none =>
        rw [hb] at h
        have b1 := bad_at bT (k + 1) hb 0 (by decide)
        have b2' := bad_at bT (k + 1) hb 1 (by decide)
        have b3 := bad_at bT (k + 1) hb 2 (by decide)
        have b4 := bad_at bT (k + 1) hb 3 (by decide)
        have b5 := bad_at bT (k + 1) hb 4 (by decide)
        simp only [bT, List.getD_cons_zero, List.getD_cons_succ] at b1 b2' b3 b4 b5
        rw [show k + 1 + 0 = k + 1 from rfl] at b1
        rw [show k + 1 + 1 = k + 2 from rfl] at b2'
        rw [show k + 1 + 2 = k + 3 from rfl] at b3
        rw [show k + 1 + 3 = k + 4 from rfl] at b4
        rw [show k + 1 + 4 = k + 5 from rfl] at b5
        dsimp only at h
        cases hb2 : bad T (if tc T k = 2 then [] else bC) (k + 6) with
        | some j => rw [hb2] at h; cases h
        | none =>
          rw [hb2] at h
          dsimp only at h
          by_cases c8 : tc T (thE T k) = 8
          · rw [if_pos c8] at h
            cases h
            have hE : k + 6 ≤ thE T k ∧ thE T k ≤ k + 8 := by
              unfold thE
              split
              · omega
              · split <;> omega
            have h6' : tc T k ≠ 2 → 100 + 1 ≤ tc T (k + 6) ∧ tc T (k + 6) ≤ 100 + 2 := by
              intro hne
              rw [if_neg hne] at hb2
              have := bad_at bC (k + 6) hb2 0 (by decide)
              exact this
            refine ⟨addTh_ok hQ (by omega) ⟨c2, ?_, ?_, ?_, ?_, ?_, ?_, ?_⟩, by dsimp only; omega, tk8 c8⟩
            · show tc T (k + 1) - 100 ≤ 9
              omega
            · show tc T (k + 2) - 100 ≤ 9
              omega
            · show 1 ≤ tc T (k + 3) - 100 ∧ tc T (k + 3) - 100 ≤ 99
              omega
            · show 1 ≤ tc T (k + 4) - 100 ∧ tc T (k + 4) - 100 ≤ 99
              omega
            · show tc T (k + 5) - 100 ≤ 99
              omega
            · show (if tc T k = 2 then 0 else tc T (k + 6) - 100) ≤ 2 ∧ (tc T k ≠ 2 → 1 ≤ (if tc T k = 2 then 0 else tc T (k + 6) - 100))
              by_cases e : tc T k = 2
              · rw [if_pos e]
                exact ⟨by decide, fun hne => absurd e hne⟩
              · rw [if_neg e]
                have := h6' e
                omega
            · show (if tc T k ≠ 2 ∧ tc T (k + 7) = 3 then 1 else 0) ≤ 1
              split <;> decide
          · rw [if_neg c8] at h; cases h
  rw [if_neg c2] at h
  by_cases c4 : tc T k = 4
  · rw [if_pos c4] at h
    unfold pApart at h
    by_cases a1 : 100 ≤ tc T (k + 1) ∧ tc T (k + 1) < 100 + nT J
    · rw [if_pos a1] at h
      by_cases a2 : tc T (k + 2) ≠ tc T (k + 1) ∧ 100 ≤ tc T (k + 2) ∧ tc T (k + 2) < 100 + nT J
      · rw [if_pos a2] at h
        by_cases c8 : tc T (k + 3) = 8
        · rw [if_pos c8] at h
          cases h
          exact ⟨setAp_ok hQ (by omega) (by omega) (by omega), by dsimp only; omega, tk8 c8⟩
        · rw [if_neg c8] at h; cases h
      · rw [if_neg a2] at h; cases h
    · rw [if_neg a1] at h; cases h
  rw [if_neg c4] at h
  by_cases c5 : tc T k = 5
  · rw [if_pos c5] at h
    unfold pDay at h
    by_cases h8 : 8 ≤ nD J
    · rw [if_pos h8] at h; cases h
    · rw [if_neg h8] at h
      cases hb : bad T bD (k + 1) with
      | some j => rw [hb] at h; cases h
      | none =>
        rw [hb] at h
        have b1 : 100 + 0 ≤ tc T (k + 1) ∧ tc T (k + 1) ≤ 100 + 27 := bad_at bD (k + 1) hb 0 (by decide)
        have b2' : 100 + 0 ≤ tc T (k + 2) ∧ tc T (k + 2) ≤ 100 + 9 := bad_at bD (k + 1) hb 1 (by decide)
        dsimp only at h
        have hE : k + 3 ≤ dyE T k ∧ dyE T k ≤ k + 4 := by
          unfold dyE
          split <;> omega
        have hv : ∀ r, r ≤ 10 → dyV T k r 0 ≤ 27 ∧ dyV T k r 1 ≤ 9 ∧ dyV T k r 2 ≤ 1 ∧ dyV T k r 3 ≤ 10 := by
          intro r hr
          refine ⟨?_, ?_, ?_, hr⟩
          · show tc T (k + 1) - 100 ≤ 27
            omega
          · show tc T (k + 2) - 100 ≤ 9
            omega
          · show (if tc T (k + 3) = 6 then 1 else 0) ≤ 1
            split <;> decide
        by_cases c7 : tc T (dyE T k) = 7
        · rw [if_pos c7] at h
          unfold pRain at h
          by_cases hr : rnOk J (tc T (dyE T k + 1)) = true
          · rw [if_pos hr] at h
            unfold rnOk at hr
            simp only [Bool.and_eq_true, decide_eq_true_eq] at hr
            by_cases c8 : tc T (dyE T k + 2) = 8
            · rw [if_pos c8] at h
              cases h
              refine ⟨addDy_ok hQ (by omega) (hv _ (by omega)) (fun hu => ?_), by dsimp only; omega, tk8 c8⟩
              have hu : uns (tc T (dyE T k + 1) - 100) = true := hu
              have := hr.2
              rw [hu] at this
              simpa using this
            · rw [if_neg c8] at h; cases h
          · rw [if_neg hr] at h; cases h
        · rw [if_neg c7] at h
          by_cases c8 : tc T (dyE T k) = 8
          · rw [if_pos c8] at h
            cases h
            refine ⟨addDy_ok hQ (by omega) (hv 0 (by decide)) (fun hu => by cases hu), by dsimp only; omega, tk8 c8⟩
          · rw [if_neg c8] at h; cases h
  · rw [if_neg c5] at h; cases h
end OK
