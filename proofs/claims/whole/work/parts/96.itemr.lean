-- part 96: the reference's reader: which are apart; an item
def ast (T : TL) (n : Nat) : Nat ⊕ Nat → Nat ⊕ Nat
  | .inl j => .inl j
  | .inr k => if 100 ≤ tc T k ∧ tc T k < 100 + n then .inr (k + 1) else .inl k
theorem ast_r {T : TL} {n k : Nat} : ast T n (.inr k) = if 100 ≤ tc T k ∧ tc T k < 100 + n then .inr (k + 1) else .inl k := rfl
theorem ST.nf {T : TL} {j : Nat} {N : Mem} (hT : WTx T) (h : ST T (.inl j) N) : ¬ N.1 36 13 = (-9 : Int32) := by
  have h5 := hT.1
  have hl := (ts_le (T := T) j).2
  rw [h.2]
  have := neg9 (n := ts T j) (by omega)
  intro e
  exact this.mp e
section RD
variable {J : Jr} {T : TL} {F : Nat}
theorem numA_nat (hT : WTx T) (hF : 600 ≤ F) {N : Mem} {n k : Nat} (hn : n ≤ 6) (h : ST T (.inr k) N) : ∃ x N', f_X10_number F N (0 : Int32) (nI n - (1 : Int32)) = some (x, N') ∧ ST T (ast T n (.inr k)) N' ∧ DF N N' ∧ (100 ≤ tc T k ∧ tc T k < 100 + n → x = nI (tc T k - 100)) := by
  cases n with
  | zero =>
    obtain ⟨t1, t2⟩ := tc_lt (T := T) k
    have h11 : (N.1 36 11 = (9 : Int32)) = (100 ≤ tc T k) := by
      rw [h.2.2.2.2.1]
      exact srt_9 t1 t2
    obtain ⟨N', a1, a2, a3⟩ := due_0 (F := F) h
    have hno : ¬ (100 ≤ tc T k ∧ tc T k < 100 + 0) := by omega
    refine ⟨N.1 36 12, N', ?_, by rw [ast_r, if_neg hno]; exact a2, a3, fun c => absurd c hno⟩
    unfold f_X10_number
    by_cases c : 100 ≤ tc T k
    · have hin : f_X10_in N (N.1 36 12) (0 : Int32) (nI 0 - (1 : Int32)) = 0 := by
        rw [h.2.2.2.2.2 c]
        have h1 : ¬ nI (tc T k - 100) < (0 : Int32) := nI_pos (by omega)
        have h2 : nI 0 - (1 : Int32) < nI (tc T k - 100) := by
          apply Int32.lt_iff_toInt_lt.mpr
          have e : (nI 0 - (1 : Int32)).toInt = -1 := by decide
          rw [e, nI_toInt (by omega)]
          omega
        unfold f_X10_in
        rw [if_neg h1, if_pos h2]
      rw [if_pos (h11.mpr c), hin, if_pos rfl, a1]
      rfl
    · rw [if_neg (fun z => c (h11.mp z)), a1]
      rfl
  | succ m =>
    obtain ⟨x, N', a1, a2, a3, a4⟩ := number_nat (F := F) hT hF h (lo := 0) (hi := m) (by decide) (by omega)
    have e : nI (m + 1) - (1 : Int32) = nI m := subI (a := m + 1) (b := 1) (by omega)
    have hs : nst T 0 m (.inr k) = ast T (m + 1) (.inr k) := by
      rw [nst_r, ast_r]
      by_cases c : 100 ≤ tc T k ∧ tc T k < 100 + (m + 1)
      · rw [if_pos c, if_pos (by omega)]
      · rw [if_neg c, if_neg (by omega)]
    rw [hs] at a2
    refine ⟨x, N', by rw [e]; exact a1, a2, a3, fun c => a4 k rfl (by omega)⟩
theorem i140_inl (hT : WTx T) {N : Mem} {j : Nat} (h : ST T (.inl j) N) (y t : Int32) : f_X10_item_140 F y t N = some N := by
  unfold f_X10_item_140
  rw [due_inl hT h, Option.bind_some]
  dsimp only
  rw [if_neg (h.nf hT), due_inl hT h, due_inl hT h]
  split <;> rfl
theorem i140_0 (hT : WTx T) {N : Mem} {e : Nat} (h : ST T (.inr e) N) (y : Int32) : ∃ N', f_X10_item_140 F y (0 : Int32) N = some N' ∧ ST T (.inl e) N' ∧ DF N N' := by
  obtain ⟨N', a1, a2, a3⟩ := due_0 (F := F) h
  refine ⟨N', ?_, a2, a3⟩
  unfold f_X10_item_140
  rw [a1, Option.bind_some]
  dsimp only
  rw [if_neg (a2.nf hT), due_inl hT a2, due_inl hT a2]
  split <;> rfl
theorem setApR {N : Mem} {a b : Nat} (h : HD J N) (ha : a < nT J) (hb : b < nT J) (hab : a ≠ b) : HD (setAp J a b) (setI (setI N 40 (6 + a) (nI (ap J a ||| 2 ^ b))) 40 (6 + b) (nI (ap J b ||| 2 ^ a))) := by
  obtain ⟨a1, a2, a3, a4, a5, a6⟩ := h
  refine ⟨?_, ?_, ?_, ?_, fun i hi => ?_, ?_⟩
  · rw [setI_ne (by decide), setI_ne (by decide)]; exact a1
  · rw [setI_ne (by decide), setI_ne (by decide)]; exact a2
  · rw [setI_ne (by decide), setI_ne (by decide)]; exact a3
  · rw [setI_ne (by decide), setI_ne (by decide)]; exact a4
  · have hi : i < nT J := hi
    show _ = nI (if i = a then ap J a ||| 2 ^ b else if i = b then ap J b ||| 2 ^ a else ap J i)
    by_cases e : i = a
    · subst e
      rw [if_pos rfl, setI_nk (by omega), setI_at]
    · rw [if_neg e]
      by_cases e2 : i = b
      · subst e2
        rw [if_pos rfl, setI_at]
      · rw [if_neg e2, setI_nk (by omega), setI_nk (by omega)]
        exact a5 i hi
  · rw [setI_ne (by decide), setI_ne (by decide), unsTo_congr (J := J) (J' := setAp J a b) (nD (setAp J a b)) (fun _ _ => rfl)]
    exact a6
theorem i140_1 (hT : WTx T) (hF : 600 ≤ F) (hW : WJ J) {N : Mem} {e a b : Nat} (h : ST T (.inr e) N) (hH : HD J N) (ha : a < nT J) (hb : b < nT J) (hab : a ≠ b) (h12 : N.1 36 12 = nI b) : ∃ N', f_X10_item_140 F (nI a) (1 : Int32) N = some N' ∧ ST T (est T (.inr (e + 1))) N' ∧ HD (setAp J a b) N' ∧ RY N N' := by
  have h6 := hW.1
  obtain ⟨N1, a1, a2, a3⟩ := due_1 (F := F) hT hF h
  have hH1 := hH.df a3
  have hap := setApR hH1 ha hb hab
  have st3 := (a2.set (c := 40) (k := 6 + a) (x := nI (ap J a ||| 2 ^ b)) (by decide) (by decide)).set (c := 40) (k := 6 + b) (x := nI (ap J b ||| 2 ^ a)) (by decide) (by decide)
  have r3 : RY N (setI (setI N1 40 (6 + a) (nI (ap J a ||| 2 ^ b))) 40 (6 + b) (nI (ap J b ||| 2 ^ a))) := a3.rg.trans ((RY.set (by omega)).trans (RY.set (by omega)))
  have ea : N1.1 40 (6 + a) = nI (ap J a) := hH1.2.2.2.2.1 a ha
  have eb : (setI N1 40 (6 + a) (nI (ap J a ||| 2 ^ b))).1 40 (6 + b) = nI (ap J b) := by
    rw [setI_nk (by omega)]
    exact hH1.2.2.2.2.1 b hb
  have q : ∀ x : Nat, (6 : Int32) + nI x = nI (6 + x) := fun x => addI 6 x
  have p1 : nI (ap J a) ||| ((1 : Int32) <<< (nI b &&& 31)) = nI (ap J a ||| 2 ^ b) := by
    have : (1 : Int32) <<< (nI b &&& nI 31) = nI (1 * 2 ^ b) := nI_shl (a := 1) (i := b) (by omega)
    rw [show (31 : Int32) = nI 31 from rfl, this, pow_or]
  have p2 : nI (ap J b) ||| ((1 : Int32) <<< (nI a &&& 31)) = nI (ap J b ||| 2 ^ a) := by
    have : (1 : Int32) <<< (nI a &&& nI 31) = nI (1 * 2 ^ a) := nI_shl (a := 1) (i := a) (by omega)
    rw [show (31 : Int32) = nI 31 from rfl, this, pow_or]
  obtain ⟨N4, c1, c2, c3⟩ := endR_nat (F := F) hT hF st3
  refine ⟨N4, ?_, c2, hap.df c3, r3.trans c3.rg⟩
  unfold f_X10_item_140
  rw [a1, Option.bind_some]
  simp only [vlet]
  rw [if_pos a2.2.1, h12, q, q, ckI (i := 6 + a) (by omega) (by decide), if_pos rfl, if_pos rfl, ckI (i := 6 + b) (by omega) (by decide), if_pos rfl, if_pos rfl, clI (n := 6 + a) (by omega), clI (n := 6 + b) (by omega), ea, p1, eb, p2]
  exact c1
theorem apartR_nat (hT : WTx T) (hF : 600 ≤ F) (hW : WJ J) {N : Mem} {k : Nat} (h : ST T (.inr (k + 1)) N) (hH : HD J N) : ∃ N', ((f_X10_number F N (0 : Int32) ((N.1 38 (1 : Int32).toNatClampNeg) - (1 : Int32))).bind fun p14 => if (p14.2.1 36 11) = (9 : Int32) then (if ck (1 : Int32) 2 = true then (if (p14.2.1 38 (1 : Int32).toNatClampNeg) ≤ (p14.2.1 36 12) then (f_X10_item_140 F p14.1 (0 : Int32) p14.2) else (if (p14.2.1 36 12) = p14.1 then (f_X10_item_140 F p14.1 (0 : Int32) p14.2) else (f_X10_item_140 F p14.1 (1 : Int32) p14.2))) else none) else (f_X10_item_140 F p14.1 (0 : Int32) p14.2)) = some N' ∧ JR T (pApart T k J) N' ∧ RY N N' := by
  have h6 := hW.1
  have k2 : ck (1 : Int32) 2 = true := by decide
  have e38 : N.1 38 (1 : Int32).toNatClampNeg = nI (nT J) := hH.1
  obtain ⟨x, N1, a1, a2, a3, a4⟩ := numA_nat (F := F) hT hF h6 h
  have hH1 := hH.df a3
  have e381 : N1.1 38 (1 : Int32).toNatClampNeg = nI (nT J) := hH1.1
  rw [e38, a1, Option.bind_some]
  dsimp only
  rw [if_pos k2, e381]
  unfold pApart
  rw [ast_r] at a2
  by_cases c1 : 100 ≤ tc T (k + 1) ∧ tc T (k + 1) < 100 + nT J
  rotate_left
  · rw [if_neg c1] at a2
    have hz : ∀ t, f_X10_item_140 F x t N1 = some N1 := fun t => i140_inl hT a2 x t
    refine ⟨N1, ?_, ?_, a3.rg⟩
    · rw [hz, hz]
      split
      · split
        · rfl
        · split <;> rfl
      · rfl
    · rw [if_neg c1]
      exact a2
  rw [if_pos c1] at a2
  rw [if_pos c1, a4 c1]
  obtain ⟨t1, t2⟩ := tc_lt (T := T) (k + 2)
  have u1' := (tc_lt (T := T) (k + 1)).1
  have h11 : (N1.1 36 11 = (9 : Int32)) = (100 ≤ tc T (k + 2)) := by
    rw [a2.2.2.2.2.1]
    exact srt_9 t1 t2
  have hbad : ¬ (tc T (k + 2) ≠ tc T (k + 1) ∧ 100 ≤ tc T (k + 2) ∧ tc T (k + 2) < 100 + nT J) → ∃ N', f_X10_item_140 F (nI (tc T (k + 1) - 100)) (0 : Int32) N1 = some N' ∧ JR T (if tc T (k + 2) ≠ tc T (k + 1) ∧ 100 ≤ tc T (k + 2) ∧ tc T (k + 2) < 100 + nT J then (if tc T (k + 3) = 8 then .inr (k + 4, setAp J (tc T (k + 1) - 100) (tc T (k + 2) - 100)) else .inl (k + 3)) else .inl (k + 2)) N' ∧ RY N N' := by
    intro hno
    obtain ⟨N2, b1, b2', b3⟩ := i140_0 (F := F) hT a2 (nI (tc T (k + 1) - 100))
    refine ⟨N2, b1, ?_, a3.rg.trans b3.rg⟩
    rw [if_neg hno]
    exact b2'
  by_cases c : 100 ≤ tc T (k + 2)
  rotate_left
  · rw [if_neg (fun z => c (h11.mp z))]
    exact hbad (fun z => c z.2.1)
  have h12 := a2.2.2.2.2.2 c
  have q1 : (nI (nT J) ≤ nI (tc T (k + 2) - 100)) = (nT J ≤ tc T (k + 2) - 100) := leI (by omega) (by omega)
  have q2 : (nI (tc T (k + 2) - 100) = nI (tc T (k + 1) - 100)) = (tc T (k + 2) - 100 = tc T (k + 1) - 100) := eqI (by omega) (by omega)
  rw [if_pos (h11.mpr c), h12]
  by_cases c2 : nT J ≤ tc T (k + 2) - 100
  · rw [if_pos (q1.mpr c2)]
    exact hbad (fun z => by omega)
  rw [if_neg (fun z => c2 (q1.mp z))]
  by_cases c3 : tc T (k + 2) - 100 = tc T (k + 1) - 100
  · rw [if_pos (q2.mpr c3)]
    exact hbad (fun z => by omega)
  rw [if_neg (fun z => c3 (q2.mp z))]
  have hyes : tc T (k + 2) ≠ tc T (k + 1) ∧ 100 ≤ tc T (k + 2) ∧ tc T (k + 2) < 100 + nT J := ⟨by omega, c, by omega⟩
  obtain ⟨N2, b1, b2', b3, b4⟩ := i140_1 (F := F) hT hF hW a2 hH1 (a := tc T (k + 1) - 100) (b := tc T (k + 2) - 100) (by omega) (by omega) (by omega) h12
  refine ⟨N2, b1, ?_, a3.rg.trans b4⟩
  rw [if_pos hyes]
  rw [est_r] at b2'
  by_cases c8 : tc T (k + 3) = 8
  · rw [if_pos (show tc T (k + 1 + 1 + 1) = 8 from c8)] at b2'
    rw [if_pos c8]
    exact ⟨b2', b3⟩
  · rw [if_neg (show ¬ tc T (k + 1 + 1 + 1) = 8 from c8)] at b2'
    rw [if_neg c8]
    exact b2'
theorem i51_0 (hT : WTx T) {N : Mem} {k : Nat} (h : ST T (.inr k) N) (y : Int32) : ∃ N', f_X10_item_51 F y (0 : Int32) N = some N' ∧ ST T (.inl k) N' ∧ DF N N' := by
  obtain ⟨N', a1, a2, a3⟩ := due_0 (F := F) h
  refine ⟨N', ?_, a2, a3⟩
  unfold f_X10_item_51
  rw [a1, Option.bind_some]
  dsimp only
  rw [if_neg (a2.nf hT)]
theorem itemR_nat (hT : WTx T) (hF : 600 ≤ F) (hW : WJ J) {N : Mem} {k : Nat} (h : ST T (.inr k) N) (hH : HD J N) : ∃ N', f_X10_item F N (nI (srt (tc T k))) = some N' ∧ JR T (pItem T k J) N' ∧ RY N N' := by
  have h6 := hW.1
  have h8 := hW.2.1
  have k2 : ck (1 : Int32) 2 = true := by decide
  have e38 : N.1 38 (1 : Int32).toNatClampNeg = nI (nT J) := hH.1
  have e41 : N.1 41 (1 : Int32).toNatClampNeg = nI (nD J) := hH.2.1
  obtain ⟨t1, t2⟩ := tc_lt (T := T) k
  have hs : srt (tc T k) ≤ 11 := by
    unfold srt
    repeat' split
    all_goals omega
  have p2 : ((2 : Int32) < nI (srt (tc T k))) = (2 < srt (tc T k)) := ltI (by decide) (by omega)
  have p4 : (nI (srt (tc T k)) = (4 : Int32)) = (tc T k = 4) := srt_w t1 t2 (by decide)
  have p5 : (nI (srt (tc T k)) = (5 : Int32)) = (tc T k = 5) := srt_w t1 t2 (by decide)
  have q6 : ((6 : Int32) ≤ nI (nT J)) = (6 ≤ nT J) := leI (by decide) (by omega)
  have q8 : ((8 : Int32) ≤ nI (nD J)) = (8 ≤ nD J) := leI (by decide) (by omega)
  unfold f_X10_item pItem
  rw [e38, e41, if_pos k2, if_pos k2]
  by_cases c2 : tc T k ≤ 2
  · have hsr : srt (tc T k) = tc T k := if_pos (by omega)
    rw [if_neg (fun z => by have := p2.mp z; omega), if_pos c2]
    by_cases n6 : 6 ≤ nT J
    · obtain ⟨N', a1, a2, a3⟩ := i51_0 (F := F) hT h (nI (srt (tc T k)))
      rw [if_pos (q6.mpr n6)]
      refine ⟨N', a1, ?_, a3.rg⟩
      unfold pThing
      rw [if_pos n6]
      exact a2
    · obtain ⟨N1, a1, a2, a3⟩ := due_1 (F := F) hT hF h
      rw [if_neg (fun z => n6 (q6.mp z))]
      have hH1 := hH.df a3
      obtain ⟨N2, b1, b2', b3, b4⟩ := readThingR_nat (F := F) (k := k) (w := tc T k) hT hF c2 rfl (show nT J < 6 by omega) a2 hH1
      obtain ⟨N3, c1, c3, c4⟩ := endR_nat (F := F) hT hF b2'
      obtain ⟨g1, g2⟩ := th_rel (T := T) (J := J) (k := k) (by omega)
      refine ⟨N3, ?_, ?_, a3.rg.trans (b3.trans c4.rg)⟩
      · unfold f_X10_item_51
        rw [a1, Option.bind_some]
        dsimp only
        rw [if_pos a2.2.1, if_neg (fun z => by have := p2.mp z; omega), hsr, b1, Option.bind_some]
        exact c1
      · cases he : est T (thS T k) with
        | inl j =>
          rw [g1 j he]
          rw [he] at c3
          exact c3
        | inr e =>
          obtain ⟨g3, f, hf⟩ := g2 e he
          rw [g3]
          rw [he] at c3
          exact ⟨c3, (b4 f hf).df c4⟩
  · have hsr : 2 < srt (tc T k) := by
      unfold srt
      repeat' split
      all_goals omega
    rw [if_pos (p2.mpr hsr), if_neg c2]
    by_cases c4 : tc T k = 4
    · obtain ⟨N1, a1, a2, a3⟩ := due_1 (F := F) hT hF h
      have hH1 := hH.df a3
      obtain ⟨N2, b1, b2', b3⟩ := apartR_nat (F := F) hT hF hW a2 hH1
      rw [if_pos (p4.mpr c4), if_pos c4]
      refine ⟨N2, ?_, b2', a3.rg.trans b3⟩
      unfold f_X10_item_51
      rw [a1, Option.bind_some]
      dsimp only
      rw [if_pos a2.2.1, if_pos (p2.mpr hsr), if_neg (fun z => by have := p5.mp z; omega), if_pos k2]
      exact b1
    · rw [if_neg (fun z => c4 (p4.mp z)), if_neg c4]
      by_cases c5 : tc T k = 5
      · rw [if_pos (p5.mpr c5), if_pos c5]
        by_cases n8 : 8 ≤ nD J
        · obtain ⟨N', a1, a2, a3⟩ := i51_0 (F := F) hT h (nI (srt (tc T k)))
          rw [if_pos (q8.mpr n8)]
          refine ⟨N', a1, ?_, a3.rg⟩
          unfold pDay
          rw [if_pos n8]
          exact a2
        · obtain ⟨N1, a1, a2, a3⟩ := due_1 (F := F) hT hF h
          rw [if_neg (fun z => n8 (q8.mp z))]
          have hH1 := hH.df a3
          obtain ⟨N2, b1, b2', b3, b4⟩ := readDayR_nat (F := F) (k := k) hT hF hW (show nD J < 8 by omega) a2 hH1
          obtain ⟨N3, c1, c3, c4'⟩ := endR_nat (F := F) hT hF b2'
          obtain ⟨g1, g2⟩ := dy_rel (T := T) (J := J) (k := k) (by omega)
          refine ⟨N3, ?_, ?_, a3.rg.trans (b3.trans c4'.rg)⟩
          · unfold f_X10_item_51
            rw [a1, Option.bind_some]
            dsimp only
            rw [if_pos a2.2.1, if_pos (p2.mpr hsr), if_pos (p5.mpr c5), b1, Option.bind_some]
            exact c1
          · cases he : est T (dyS T k J) with
            | inl j =>
              rw [g1 j he]
              rw [he] at c3
              exact c3
            | inr e =>
              obtain ⟨g3, f, hf⟩ := g2 e he
              rw [g3]
              rw [he] at c3
              exact ⟨c3, (b4 f hf).df c4'⟩
      · obtain ⟨N', a1, a2, a3⟩ := i51_0 (F := F) hT h (nI (srt (tc T k)))
        rw [if_neg (fun z => c5 (p5.mp z)), if_neg c5]
        exact ⟨N', a1, a2, a3.rg⟩
end RD
