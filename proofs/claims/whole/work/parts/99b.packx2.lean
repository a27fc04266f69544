-- part 99b: pack: the class's call
section PK
variable {J : Jr} {s L D : Nat} {fd : Nat → Nat} {F : Nat}
theorem lay_nat (hW : WJ J) (hs : s < 64) (hsT : ∀ j, s.testBit j = true → j < nT J) (hF : 100 ≤ F) (hfd : ∀ j, fd j ≤ 99) (hL4 : L ≤ 4) (hD : D ≤ 999) :
    ∀ (r i n a : Nat) (N : Mem), i + r = 6 → r < n → 4 ^ cb s i ∣ a → okp J s L D a i = true → PKC J s L fd N → PKS J s D a i N → BS s fd (bst J s fd L D a) N →
      ∃ N', f_X4_lay F n N (nI i) (nI (tt s fd a i)) = some N' ∧ BS s fd (bst J s fd L D (a + 4 ^ cb s i)) N' ∧ LFm i N N'
  | 0, i, n + 1, a, N, hi, _, hd, hok, hC, hP, hB => by
    have hi6 : i = 6 := by omega
    subst hi6
    have h15 := tt_le2 (s := s) (fd := fd) (c := a) (i := 6) (by decide)
    have hb1 : bv s fd (bst J s fd L D a) < 2 ^ 31 := by
      cases bst J s fd L D a with
      | none => show 1000 < 2 ^ 31; decide
      | some b => have := tt_le2 (s := s) (fd := fd) (c := b) (i := 6) (by decide); show tt s fd b 6 < _; omega
    rw [f_X4_lay]
    unfold f_X4_lay_b
    by_cases c : tt s fd a 6 < bv s fd (bst J s fd L D a)
    · have hl := bst_leaf hok c
      have e1 : a + 4 ^ cb s 6 = a + 1 := by rw [cb_6]
      rw [e1, hl]
      refine ⟨setA (setI N 27 8 (nI (tt s fd a 6))) 30 (va_cpy (N.1 29) (N.1 30) 0 0 6), ?_, ⟨?_, fun c' hc j hj hbj => ?_⟩, ⟨fun c h1 h2 h3 h4 => ?_, fun k hk => ?_, fun j hj => ?_, fun k hk => ?_, rfl⟩⟩
      · rw [hB.1]
        simp (disch := omega) only [lit, ltI, leI, eqI, addI, mulI, subI, clI, ckI, if_pos, if_neg, if_true, if_false, Option.bind_some, b2_0, b2_n0, b2_1, b2_n1, Bool.true_eq_false, Bool.false_eq_true, b2_t, b2_f]
        rfl
      · rw [setA_ne (by decide), setI_at]
        rfl
      · cases hc
        rw [setA_at, cpy_in hj]
        exact hP.1 j hj hbj
      · rw [setA_ne h3, setI_ne h1]
      · rw [setA_ne (by decide), setI_nk hk]
      · rw [setA_ne (by decide), setI_ne (by decide)]
      · rw [setA_ne (by decide), setI_ne (by decide)]
    · have hp := bst_prune (i := 6) (by decide) hd (show bv s fd (bst J s fd L D a) ≤ tt s fd a 6 by omega)
      refine ⟨N, ?_, by rw [hp]; exact hB, LFm.refl⟩
      rw [hB.1]
      simp (disch := omega) only [lit, ltI, leI, eqI, addI, mulI, subI, clI, ckI, if_pos, if_neg, if_true, if_false, Option.bind_some, b2_0, b2_n0, b2_1, b2_n1, Bool.true_eq_false, Bool.false_eq_true, b2_t, b2_f]
  | r + 1, i, n + 1, a, N, hi, hn, hd, hok, hC, hP, hB => by
    have h15 := tt_le2 (s := s) (fd := fd) (c := a) (i := i) (by omega)
    have hb1 : bv s fd (bst J s fd L D a) < 2 ^ 31 := by
      cases bst J s fd L D a with
      | none => show 1000 < 2 ^ 31; decide
      | some b => have := tt_le2 (s := s) (fd := fd) (c := b) (i := 6) (by decide); show tt s fd b 6 < _; omega
    have hh : f_X9_has N (nI s) (nI i) = b2 (s.testBit i) := has_nat (by omega) (by omega)
    rw [f_X4_lay]
    unfold f_X4_lay_b
    by_cases c : tt s fd a i < bv s fd (bst J s fd L D a)
    rotate_left
    · have hp := bst_prune (i := i) (by omega) hd (show bv s fd (bst J s fd L D a) ≤ tt s fd a i by omega)
      refine ⟨N, ?_, by rw [hp]; exact hB, LFm.refl⟩
      rw [hB.1]
      simp (disch := omega) only [lit, ltI, leI, eqI, addI, mulI, subI, clI, ckI, if_pos, if_neg, if_true, if_false, Option.bind_some, b2_0, b2_n0, b2_1, b2_n1, Bool.true_eq_false, Bool.false_eq_true, b2_t, b2_f]
    cases hb : s.testBit i
    · have hcb : cb s i = cb s (i + 1) := by rw [cb_S (by omega), hb]; rfl
      rw [hb] at hh
      have hus : ∀ k, us J s a k (i + 1) = us J s a k i := fun k => by rw [us_S, hb, if_neg (fun z => by cases z.1), Nat.add_zero]
      have htt : tt s fd a (i + 1) = tt s fd a i := by rw [tt_S, hb, if_neg (by decide), Nat.add_zero]
      have hok2 : okp J s L D a (i + 1) = true := by rw [okp_S, hok, hb]; rfl
      obtain ⟨N1, a1, a2, a3⟩ := lay_nat hW hs hsT hF hfd hL4 hD r (i + 1) n a N (by omega) (by omega) (by rw [← hcb]; exact hd) hok2 hC ⟨fun j hj hbj => by
        by_cases e : j = i
        · rw [e, hb] at hbj; cases hbj
        · exact hP.1 j (by omega) hbj, fun k hk => by rw [hus k]; exact hP.2 k hk⟩ hB
      rw [htt] at a1
      rw [← hcb] at a2
      refine ⟨N1, ?_, a2, a3.low (by omega)⟩
      rw [hB.1, hC.1]
      simp (disch := omega) only [lit, ltI, leI, eqI, addI, mulI, subI, clI, ckI, if_pos, if_neg, if_true, if_false, Option.bind_some, b2_0, b2_n0, b2_1, b2_n1, Bool.true_eq_false, Bool.false_eq_true, b2_t, b2_f, hh, a1]
    · rw [hb] at hh
      have hit := hsT i hb
      have hz := (hW.2.2.1 i hit).2.2.2.1
      have hf := fact_nat hC.2.2.2 hW hit (k := 3) (by decide)
      have hK : KLok J s L D fd i (f_X4_lay F n) := fun a' N' q1 q2 q3 q4 q5 => lay_nat hW hs hsT hF hfd hL4 hD r (i + 1) n a' N' (by omega) (by omega) q1 q2 q3 q4 q5
      have hB0 : BS s fd (bst J s fd L D (a + 0 * 4 ^ cb s (i + 1))) N := by rw [Nat.zero_mul, Nat.add_zero]; exact hB
      obtain ⟨N1, a1, a2, a3⟩ := lay73_loop (F := F) hs hF hfd hL4 hD (by omega) hb hz hd hok hK L 0 F N (by omega) (by omega) hC hP hB0
      refine ⟨N1, ?_, a2, a3⟩
      rw [hB.1, hC.1]
      simp (disch := omega) only [lit, ltI, leI, eqI, addI, mulI, subI, clI, ckI, if_pos, if_neg, if_true, if_false, Option.bind_some, b2_0, b2_n0, b2_1, b2_n1, Bool.true_eq_false, Bool.false_eq_true, b2_t, b2_f, hh, hf]
      exact a1
  | _, _, 0, _, _, _, hn, _, _, _, _, _ => absurd hn (Nat.not_lt_zero _)
/-- the first day of a thing, as pack has it -/
def fdP (J : Jr) (l : List Nat) (j : Nat) : Nat := if (coatsB J).testBit j = true then 0 else fdN (fdS l j (nD J) 0)
theorem fdP_le (hW : WJ J) (l : List Nat) (j : Nat) : fdP J l j ≤ 99 := by
  have h8 := hW.2.1
  unfold fdP
  split
  · omega
  · cases h : fdS l j (nD J) 0 with
    | none => exact Nat.le_refl _
    | some e => have := fdS_lt _ _ _ h; show e ≤ 99; omega
theorem arr28_loop (hW : WJ J) (hF : 4100 ≤ F) {l : List Nat} (hl : l.length = nD J) (h72 : ∀ k ∈ l, k < 72) : ∀ (m j n : Nat) (N : Mem), j + m = 6 → m < n → HX J N 3 → PL N 0 l → (∀ k, k < j → N.1 28 k = nI (fdP J l k)) → ∃ N1, f_X4_arrange_28 F n (nI j) N = ((f_X4_lay F 8 N1 (nI 0) (nI 0)).bind fun p2 => if (nI 1000) ≤ (p2.1 27 8) then (some ((nI 0), p2)) else (some ((nI 1), p2))) ∧ (∀ k, k < 6 → N1.1 28 k = nI (fdP J l k)) ∧ OC 28 N N1
  | 0, j, n + 1, N, hj, _, hJ, hp, h => by
    have hjj : j = 6 := by omega
    subst hjj
    refine ⟨N, ?_, h, OC.refl⟩
    rw [f_X4_arrange_28]
    simp (disch := omega) only [lit, ltI, leI, eqI, addI, mulI, subI, clI, ckI, if_pos, if_neg, if_true, if_false, Option.bind_some, b2_0, b2_n0, b2_1, b2_n1, Bool.true_eq_false, Bool.false_eq_true, b2_t, b2_f]
    rfl
  | m + 1, j, n + 1, N, hj, hn, hJ, hp, h => by
    have h8 := hW.2.1
    have hcs := bits_lt hW (isK J 2)
    have hc64 : coatsB J < 64 := hcs
    have hfx := fdX_nat (F := F) hW hF hJ hl h72 hp (i := j) (by omega)
    have hh : f_X9_has N (nI (coatsB J)) (nI j) = b2 ((coatsB J).testBit j) := has_nat (by omega) (by omega)
    have hco : f_X8_coats N 3 = nI (coatsB J) := hJ.2.2.2.2.2.1
    have step : ∀ x : Nat, x = fdP J l j → ∃ N1, f_X4_arrange_28 F n (nI (j + 1)) (setI N 28 j (nI x)) = ((f_X4_lay F 8 N1 (nI 0) (nI 0)).bind fun p2 => if (nI 1000) ≤ (p2.1 27 8) then (some ((nI 0), p2)) else (some ((nI 1), p2))) ∧ (∀ k, k < 6 → N1.1 28 k = nI (fdP J l k)) ∧ OC 28 N N1 := by
      intro x hx
      have o1 : OC 28 N (setI N 28 j (nI x)) := OC.one
      obtain ⟨N1, a1, a2, a3⟩ := arr28_loop hW hF hl h72 m (j + 1) n (setI N 28 j (nI x)) (by omega) (by omega) (hJ.same (o1.1 3 (by decide)) (o1.1 4 (by decide)) (o1.1 5 (by decide)) (o1.1 6 (by decide))) (fun q hq => by rw [o1.1 20 (by decide), o1.1 21 (by decide)]; exact hp q hq) (fun k hk => by
        by_cases e : k = j
        · subst e
          rw [setI_at, hx]
        · rw [setI_nk e]
          exact h k (by omega))
      exact ⟨N1, a1, a2, ⟨fun d hd => (a3.1 d hd).trans (o1.1 d hd), a3.2.trans o1.2⟩⟩
    rw [f_X4_arrange_28, hfx]
    simp only [vlet]
    rw [hco]
    cases hcb : (coatsB J).testBit j
    · rw [hcb] at hh
      cases hfs : fdS l j (nD J) 0 with
      | none =>
        have hx : (99 : Nat) = fdP J l j := by
          unfold fdP
          rw [hcb, hfs]
          rfl
        obtain ⟨N1, b1, b2', b3⟩ := step 99 hx
        refine ⟨N1, ?_, b2', b3⟩
        rw [← b1]
        have hneg : ¬ (nI 0 : Int32) ≤ fdO none := by decide
        simp (disch := omega) only [lit, ltI, leI, eqI, addI, mulI, subI, clI, ckI, if_pos, if_neg, if_true, if_false, Option.bind_some, b2_0, b2_n0, b2_1, b2_n1, Bool.true_eq_false, Bool.false_eq_true, b2_t, b2_f, hh]
      | some e =>
        have he := fdS_lt _ _ _ hfs
        have hx : e = fdP J l j := by
          unfold fdP
          rw [hcb, hfs]
          rfl
        obtain ⟨N1, b1, b2', b3⟩ := step e hx
        refine ⟨N1, ?_, b2', b3⟩
        rw [← b1]
        have hpos : (nI 0 : Int32) ≤ fdO (some e) := by
          show nI 0 ≤ nI e
          rw [leI (by decide) (by omega)]
          exact Nat.zero_le _
        simp (disch := omega) only [lit, ltI, leI, eqI, addI, mulI, subI, clI, ckI, if_pos, if_neg, if_true, if_false, Option.bind_some, b2_0, b2_n0, b2_1, b2_n1, Bool.true_eq_false, Bool.false_eq_true, b2_t, b2_f, hh]
        rfl
    · rw [hcb] at hh
      have hx : (0 : Nat) = fdP J l j := by
        unfold fdP
        rw [hcb]
        rfl
      obtain ⟨N1, b1, b2', b3⟩ := step 0 hx
      refine ⟨N1, ?_, b2', b3⟩
      rw [← b1]
      simp (disch := omega) only [lit, ltI, leI, eqI, addI, mulI, subI, clI, ckI, if_pos, if_neg, if_true, if_false, Option.bind_some, b2_0, b2_n0, b2_1, b2_n1, Bool.true_eq_false, Bool.false_eq_true, b2_t, b2_f, hh]
  | _, _, 0, _, _, hn, _, _, _ => absurd hn (Nat.not_lt_zero _)
/-- the planner's and the packer's cells -/
def PKF (N N' : Mem) : Prop := (∀ c, c < 17 ∨ (21 < c ∧ c < 27) ∨ 31 < c → N'.1 c = N.1 c) ∧ ∀ c, c < 22 ∨ 24 < c → N'.2 c = N.2 c
theorem PKF.trans {A B C : Mem} (h1 : PKF A B) (h2 : PKF B C) : PKF A C := ⟨fun c a => (h2.1 c a).trans (h1.1 c a), fun c a => (h2.2 c a).trans (h1.2 c a)⟩
theorem PF.pkf {N N' : Mem} (h : PF N N') : PKF N N' := ⟨fun c hc => h.1 c (by omega), h.2⟩
theorem arrange_nat (hW : WJ J) (hs : s < 64) (hsT : ∀ j, s.testBit j = true → j < nT J) (hF : 4100 ≤ F) (hL4 : L ≤ 4) (hD : D ≤ 999) {l : List Nat} (hl : l.length = nD J) (h72 : ∀ k ∈ l, k < 72) {N : Mem} (hJ : HX J N 3) (hp : PL N 0 l) : ∃ N', f_X4_arrange F N (nI s) (nI L) (nI D) = some (b2 (bst J s (fdP J l) L D (4 ^ bc s)).isSome, N') ∧ BS s (fdP J l) (bst J s (fdP J l) L D (4 ^ bc s)) N' ∧ PKF N N' := by
  have e0 : ∀ c, c ≠ 27 → (setI (setI (setI N 27 6 (nI s)) 27 7 (nI L)) 27 8 (nI 1000)).1 c = N.1 c := fun c hc => by rw [setI_ne hc, setI_ne hc, setI_ne hc]
  have q6 : (setI (setI (setI N 27 6 (nI s)) 27 7 (nI L)) 27 8 (nI 1000)).1 27 6 = nI s := by rw [setI_nk (by decide), setI_nk (by decide), setI_at]
  have q7 : (setI (setI (setI N 27 6 (nI s)) 27 7 (nI L)) 27 8 (nI 1000)).1 27 7 = nI L := by rw [setI_nk (by decide), setI_at]
  have q8 : (setI (setI (setI N 27 6 (nI s)) 27 7 (nI L)) 27 8 (nI 1000)).1 27 8 = nI 1000 := setI_at
  have q2 : (setI (setI (setI N 27 6 (nI s)) 27 7 (nI L)) 27 8 (nI 1000)).2 = N.2 := rfl
  have hun : f_X4_arrange F N (nI s) (nI L) (nI D) = (f_J7_fill_53178 F (setI (setI (setI N 27 6 (nI s)) 27 7 (nI L)) 27 8 (nI 1000)) 31 4 (nI D)).bind fun p4 => f_X4_arrange_28 F F (nI 0) p4 := rfl
  rw [hun]
  generalize setI (setI (setI N 27 6 (nI s)) 27 7 (nI L)) 27 8 (nI 1000) = N0 at e0 q6 q7 q8 q2 ⊢
  obtain ⟨A, a1, a2, a3, a4⟩ := fillI_nat (F := F) (c := 31) (len := 4) (v := nI D) (N := N0) (by decide) hF
  have hA : ∀ c, c ≠ 27 → c ≠ 31 → A.1 c = N.1 c := fun c h1 h2 => by rw [a4 c h2, e0 c h1]
  have hJA : HX J A 3 := hJ.same (hA 3 (by decide) (by decide)) (hA 4 (by decide) (by decide)) (hA 5 (by decide) (by decide)) (hA 6 (by decide) (by decide))
  have hpA : PL A 0 l := fun q hq => by rw [hA 20 (by decide) (by decide), hA 21 (by decide) (by decide)]; exact hp q hq
  obtain ⟨B, b1, b2', b3⟩ := arr28_loop (F := F) hW hF hl h72 6 0 F A rfl (by omega) hJA hpA (fun k hk => absurd hk (Nat.not_lt_zero _))
  have hB : ∀ c, c ≠ 27 → c ≠ 28 → c ≠ 31 → B.1 c = N.1 c := fun c h1 h2 h3 => by rw [b3.1 c h2, hA c h1 h3]
  have hB27 : B.1 27 = N0.1 27 := by rw [b3.1 27 (by decide), a4 27 (by decide)]
  have hCB : PKC J s L (fdP J l) B := ⟨by rw [hB27]; exact q6, by rw [hB27]; exact q7, b2', hJ.same (hB 3 (by decide) (by decide) (by decide)) (hB 4 (by decide) (by decide) (by decide)) (hB 5 (by decide) (by decide) (by decide)) (hB 6 (by decide) (by decide) (by decide))⟩
  have hPB : PKS J s D 0 0 B := ⟨fun j hj => absurd hj (Nat.not_lt_zero _), fun k hk => by
    rw [b3.1 31 (by decide), a2 k hk]
    rfl⟩
  have hBB : BS s (fdP J l) (bst J s (fdP J l) L D 0) B := ⟨by rw [hB27]; exact q8, fun c hc => by cases hc⟩
  obtain ⟨C, c1, c2, c3⟩ := lay_nat (F := F) hW hs hsT (by omega) (fdP_le hW l) hL4 hD 6 0 8 0 B rfl (by decide) ⟨0, rfl⟩ rfl hCB hPB hBB
  have c1 : f_X4_lay F 8 B (nI 0) (nI 0) = some C := c1
  rw [Nat.zero_add, cb_0] at c2
  refine ⟨C, ?_, c2, ⟨fun c hc => ?_, fun c hc => ?_⟩⟩
  · rw [a1, Option.bind_some, b1, c1, Option.bind_some, c2.1]
    cases hb : bst J s (fdP J l) L D (4 ^ bc s) with
    | none => rfl
    | some b =>
      have := tt_le2 (s := s) (fd := fdP J l) (c := b) (i := 6) (by decide)
      have hno : ¬ nI 1000 ≤ nI (tt s (fdP J l) b 6) := by
        rw [leI (by decide) (by omega)]
        omega
      show (if nI 1000 ≤ nI (tt s (fdP J l) b 6) then _ else _) = _
      rw [if_neg hno]
      rfl
  · rw [c3.1 c (by omega) (by omega) (by omega) (by omega), hB c (by omega) (by omega) (by omega)]
  · rw [c3.2.2.2.2, b3.2, a3, q2]
end PK
