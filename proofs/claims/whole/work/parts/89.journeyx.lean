-- part 89: the class's journey
section RD
variable {J : Jr} {T : TL} {F : Nat}
theorem item_nat (hW : WJ J) {N : Mem} {k : Nat} (hC : CN T k N) (hk : k < 500) (hD : DX J N) : IR T (pItem T k J) N (f_X6_readItem N) := by
  have h : ∀ c, c < 2 ^ 31 → f_X6_isNext N (nI c) = some (b2 (decide (tc T k = c))) := fun c hc => isNext_nat hC hc
  have h0 : f_X6_isNext N (0 : Int32) = some (b2 (decide (tc T k = 0))) := h 0 (by decide)
  have h1 : f_X6_isNext N (1 : Int32) = some (b2 (decide (tc T k = 1))) := h 1 (by decide)
  have h2 : f_X6_isNext N (2 : Int32) = some (b2 (decide (tc T k = 2))) := h 2 (by decide)
  have h4 : f_X6_isNext N (4 : Int32) = some (b2 (decide (tc T k = 4))) := h 4 (by decide)
  have h5 : f_X6_isNext N (5 : Int32) = some (b2 (decide (tc T k = 5))) := h 5 (by decide)
  unfold f_X6_readItem pItem
  rw [h0, Option.bind_some]
  by_cases c0 : tc T k = 0
  · rw [decide_eq_true c0, if_neg b2_nt, if_pos (show tc T k ≤ 2 by omega)]
    exact cloth_nat hW hC hk hD (by omega)
  rw [decide_eq_false c0, if_pos b2_f, h1, Option.bind_some]
  by_cases c1 : tc T k = 1
  · rw [decide_eq_true c1, if_neg b2_nt, if_pos (show tc T k ≤ 2 by omega)]
    exact cloth_nat hW hC hk hD (by omega)
  rw [decide_eq_false c1, if_pos b2_f, h2, Option.bind_some]
  by_cases c2 : tc T k = 2
  · rw [decide_eq_true c2, if_neg b2_nt, if_pos (show tc T k ≤ 2 by omega)]
    exact coat_nat hW hC hk hD c2
  rw [decide_eq_false c2, if_pos b2_f, h4, Option.bind_some, if_neg (show ¬ tc T k ≤ 2 by omega)]
  by_cases c4 : tc T k = 4
  · rw [decide_eq_true c4, if_neg b2_nt, if_pos c4]
    exact apart_nat hW hC hk hD
  rw [decide_eq_false c4, if_pos b2_f, h5, Option.bind_some, if_neg c4]
  by_cases c5 : tc T k = 5
  · rw [decide_eq_true c5, if_neg b2_nt, if_pos c5]
    exact day_nat hW hC hk hD
  rw [decide_eq_false c5, if_pos b2_f, if_neg c5]
  exact ⟨N, rfl, hC, RF.refl⟩
/-- how a whole text is read -/
def WR (T : TL) : PR1 → Mem → Option (Int32 × Mem) → Prop
  | .inl j, N, r => ∃ N', r = some ((-10 : Int32) - nI (ts T j), N') ∧ RF N N'
  | .inr q, N, r => ∃ N', r = some (nI q.1, N') ∧ DX q.2 N' ∧ RF N N'
theorem WR.of {r : PR1} {N N1 : Mem} {x : Option (Int32 × Mem)} (h : WR T r N1 x) (f : RF N N1) : WR T r N x := by
  cases r with
  | inl j =>
    obtain ⟨N', h1, h2⟩ := h
    exact ⟨N', h1, f.trans h2⟩
  | inr q =>
    obtain ⟨N', h1, h2, h3⟩ := h
    exact ⟨N', h1, h2, f.trans h3⟩
theorem TXX.rf {N N' : Mem} (h : TXX T N) (f : RF N N') : TXX T N' := h.same (f.1 1 (by decide) (by decide) (by decide) (by decide) (by decide)) (f.1 2 (by decide) (by decide) (by decide) (by decide) (by decide))
theorem read_loop (hT : WTx T) : ∀ (m k it n : Nat) (J : Jr) (N : Mem), k ≤ T.length → T.length + 1 ≤ k + m → m ≤ n → it ≤ k → QJ J → CN T k N → DX J N → TXX T N → WR T (pLoop T m k it J) N (f_X6_read_18 F n (nI it) N)
  | 0, k, _, _, _, _, h1, h2, _, _, _, _, _, _ => by omega
  | m + 1, k, it, 0, _, _, _, _, h3, _, _, _, _, _ => by omega
  | m + 1, k, it, n + 1, J, N, h1, h2, h3, h4, hQ, hC, hD, hX => by
    have h5 := hT.1
    have h9 : f_X6_isNext N (9 : Int32) = some (b2 (decide (tc T k = 9))) := isNext_nat hC (c := 9) (by decide)
    rw [pLoop, f_X6_read_18, h9, Option.bind_some]
    by_cases c9 : tc T k = 9
    · rw [decide_eq_true c9, if_neg b2_nt, if_pos c9]
      exact ⟨N, rfl, hD, RF.refl⟩
    have hk : k < T.length := by
      have : ts T k < T.length := by
        by_cases c : ts T k < T.length
        · exact c
        · exact absurd (tc_n9.mpr c) c9
      exact tk_lt this
    have hit : ¬ (500 : Int32) ≤ nI it := by
      have : (nI 500 ≤ nI it) = (500 ≤ it) := leI (by decide) (by omega)
      intro h
      have := this.mp h
      omega
    have hi := item_nat hQ.1 hC (by omega) hD
    rw [decide_eq_false c9, if_pos b2_f, if_neg c9, if_neg hit]
    cases hp : pItem T k J with
    | inl j =>
      rw [hp] at hi
      obtain ⟨N1, e1, hC1, r1⟩ := hi
      have hs := start_nat hT (hX.rf r1) hC1
      refine ⟨N1, ?_, r1⟩
      rw [e1, Option.bind_some]
      show (f_X6_startOfNext N1).bind _ = _
      rw [hs]
      rfl
    | inr q =>
      rw [hp] at hi
      obtain ⟨N1, e1, hC1, hD1, r1⟩ := hi
      obtain ⟨hQ1, hk1, hl1⟩ := item_ok hQ hp
      have ih := read_loop hT m q.1 (it + 1) n q.2 N1 hl1 (by omega) (by omega) (by omega) hQ1 hC1 hD1 (hX.rf r1)
      rw [e1, Option.bind_some]
      dsimp only
      rw [if_neg n10, show nI it + (1 : Int32) = nI (it + 1) from addI it 1]
      exact ih.of r1
/-- what the text T tells -/
def pAll (T : TL) : PR1 := pLoop T 600 0 0 J0
theorem emptyX_nat (hF : 4100 ≤ F) {N : Mem} : ∃ N', f_X8_empty F N 7 = some N' ∧ DX J0 N' ∧ RF N N' := by
  obtain ⟨A, a1, a2, a3, a4⟩ := fillI_nat (F := F) (c := 8) (len := 48) (v := 0) (N := N) (by decide) hF
  obtain ⟨B, b1, b2', b3, b4⟩ := fillI_nat (F := F) (c := 9) (len := 32) (v := 0) (N := A) (by decide) hF
  obtain ⟨C, c1, c2, c3, c4⟩ := fillI_nat (F := F) (c := 10) (len := 6) (v := 0) (N := B) (by decide) hF
  refine ⟨setI (setI (setI (setI (setI (setI (setI (setI C 7 3 0) 7 4 0) 7 5 0) 7 6 0) 7 7 0) 7 8 0) 7 9 0) 7 10 0, ?_, ?_, ?_⟩
  · have a1 : f_J7_fill_53178 F N (7 + 1) 48 (0 : Int32) = some A := a1
    have b1 : f_J7_fill_53178 F A (7 + 2) 32 (0 : Int32) = some B := b1
    have c1 : f_J7_fill_53178 F B (7 + 3) 6 (0 : Int32) = some C := c1
    unfold f_X8_empty
    simp only [vlet]
    rw [a1, Option.bind_some, b1, Option.bind_some, c1, Option.bind_some]
  · have hne : ∀ c, c ≠ 7 → (setI (setI (setI (setI (setI (setI (setI (setI C 7 3 0) 7 4 0) 7 5 0) 7 6 0) 7 7 0) 7 8 0) 7 9 0) 7 10 0).1 c = C.1 c := fun c hc => by
      rw [setI_ne hc, setI_ne hc, setI_ne hc, setI_ne hc, setI_ne hc, setI_ne hc, setI_ne hc, setI_ne hc]
    have e8 : ∀ k, k < 48 → C.1 8 k = 0 := fun k hk => by rw [c4 8 (by decide), b4 8 (by decide)]; exact a2 k hk
    have e9 : ∀ k, k < 32 → C.1 9 k = 0 := fun k hk => by rw [c4 9 (by decide)]; exact b2' k hk
    refine ⟨⟨?_, ?_, ?_, ?_, ?_, ?_, ?_, ?_, fun i hi => absurd hi (Nat.not_lt_zero _), fun i hi => absurd hi (Nat.not_lt_zero _), fun i hi => absurd hi (Nat.not_lt_zero _)⟩, ⟨fun i _ hi2 j hj => ?_, fun i _ hi2 => ?_, fun d _ hd2 j hj => ?_⟩, fun _ j hj => ?_⟩
    · repeat rw [setI_nk (by decide)]
      rw [setI_at]; rfl
    · repeat rw [setI_nk (by decide)]
      rw [setI_at]; rfl
    · repeat rw [setI_nk (by decide)]
      rw [setI_at]; rfl
    · repeat rw [setI_nk (by decide)]
      rw [setI_at]; rfl
    · repeat rw [setI_nk (by decide)]
      rw [setI_at]; rfl
    · repeat rw [setI_nk (by decide)]
      rw [setI_at]; rfl
    · repeat rw [setI_nk (by decide)]
      rw [setI_at]; rfl
    · rw [setI_at]; rfl
    · rw [hne 8 (by decide)]
      exact e8 _ (by omega)
    · rw [hne 10 (by decide)]
      exact c2 i hi2
    · rw [hne 9 (by decide)]
      exact e9 _ (by omega)
    · rw [hne 8 (by decide)]
      have : nT J0 = 0 := rfl
      exact e8 _ (by omega)
  · have ra : RF N A := ⟨fun c _ h _ _ _ => a4 c h, by rw [a4 11 (by decide)], a3⟩
    have rb : RF A B := ⟨fun c _ _ h _ _ => b4 c h, by rw [b4 11 (by decide)], b3⟩
    have rc : RF B C := ⟨fun c _ _ _ h _ => c4 c h, by rw [c4 11 (by decide)], c3⟩
    refine ((ra.trans rb).trans rc).trans ⟨fun c h _ _ _ _ => ?_, ?_, rfl⟩
    · rw [setI_ne h, setI_ne h, setI_ne h, setI_ne h, setI_ne h, setI_ne h, setI_ne h, setI_ne h]
    · repeat rw [setI_ne (by decide)]
/-- cells 7 to 13 are the reader's own -/
def QF (N N' : Mem) : Prop := (∀ c, c < 7 ∨ 13 < c → N'.1 c = N.1 c) ∧ N'.2 = N.2
theorem RF.qf {N N' : Mem} (h : RF N N') : QF N N' := ⟨fun c hc => h.1 c (by omega) (by omega) (by omega) (by omega) (by omega), h.2.2⟩
theorem SF.qf {N N' : Mem} (h : SF N N') : QF N N' := ⟨fun c hc => h.1 c (by omega) (by omega) (by omega), h.2⟩
theorem QF.trans {A B C : Mem} (h1 : QF A B) (h2 : QF B C) : QF A C := ⟨fun c hc => (h2.1 c hc).trans (h1.1 c hc), h2.2.trans h1.2⟩
def WQ (T : TL) : PR1 → Mem → Option (Int32 × Mem) → Prop
  | .inl j, N, r => ∃ N', r = some ((-10 : Int32) - nI (ts T j), N') ∧ QF N N'
  | .inr q, N, r => ∃ N', r = some (nI q.1, N') ∧ DX q.2 N' ∧ QF N N'
theorem read_nat (hT : WTx T) (hF : 4100 ≤ F) {N : Mem} (hX : TXX T N) : WQ T (pAll T) N (f_X6_read F N) := by
  have h5 := hT.1
  obtain ⟨A, a1, a2, a3⟩ := split_nat (F := F) hT (by omega) hX
  obtain ⟨B, b1, b2', b3⟩ := emptyX_nat (F := F) hF (N := A)
  have hXA : TXX T A := hX.same (a3.1 1 (by decide) (by decide) (by decide)) (a3.1 2 (by decide) (by decide) (by decide))
  have rB : RF A (setI B 11 5 0) := b3.trans (RF.fld (Or.inl rfl))
  have hCB : CN T 0 (setI B 11 5 0) := ⟨rB.ct a2, setI_at, by decide⟩
  have hw := read_loop (F := F) hT 600 0 0 F J0 (setI B 11 5 0) (Nat.zero_le _) (by omega) (by omega) (Nat.le_refl _) QJ0 hCB b2'.fld (hXA.rf rB)
  have e : f_X6_read F N = f_X6_read_18 F F (nI 0) (setI B 11 5 0) := by
    unfold f_X6_read
    simp only [vlet]
    rw [a1, Option.bind_some, b1, Option.bind_some]
    rfl
  rw [e]
  have hw : WR T (pAll T) (setI B 11 5 0) (f_X6_read_18 F F (nI 0) (setI B 11 5 0)) := hw
  cases hp : pAll T with
  | inl j =>
    rw [hp] at hw
    obtain ⟨N', h1, h2⟩ := hw
    exact ⟨N', h1, a3.qf.trans (rB.trans h2).qf⟩
  | inr q =>
    rw [hp] at hw
    obtain ⟨N', h1, h2, h3⟩ := hw
    exact ⟨N', h1, h2, a3.qf.trans (rB.trans h3).qf⟩
theorem loop_ok : ∀ (m k it : Nat) (J : Jr) (q : Nat × Jr), QJ J → pLoop T m k it J = .inr q → QJ q.2 ∧ q.1 ≤ it + m
  | 0, _, _, _, _, _, h => by cases h
  | m + 1, k, it, J, q, hQ, h => by
    rw [pLoop] at h
    split at h
    · cases h
      exact ⟨hQ, by dsimp only; omega⟩
    · cases hp : pItem T k J with
      | inl j => rw [hp] at h; cases h
      | inr q1 =>
        rw [hp] at h
        have := loop_ok m q1.1 (it + 1) q1.2 q (item_ok hQ hp).1 h
        exact ⟨this.1, by omega⟩
theorem all_ok {q : Nat × Jr} (h : pAll T = .inr q) : QJ q.2 ∧ q.1 ≤ 600 := by
  have := loop_ok 600 0 0 J0 q QJ0 h
  exact ⟨this.1, by omega⟩
end RD
