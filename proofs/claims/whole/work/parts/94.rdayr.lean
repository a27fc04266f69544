-- part 94: the reference's reader: a day
theorem ST.s14 {T : TL} {s : Nat ⊕ Nat} {N : Mem} {x : Int32} (h : ST T s N) : ST T s (setI N 36 14 x) := by
  cases s with
  | inl j =>
    obtain ⟨⟨h1, h2⟩, h3⟩ := h
    exact ⟨⟨by rw [setI_nk (by decide)]; exact h1, fun i hi => by rw [setI_ne (by decide)]; exact h2 i hi⟩, by rw [setI_nk (by decide)]; exact h3⟩
  | inr k =>
    obtain ⟨⟨h1, h2⟩, h3, h4, h5, h6, h7⟩ := h
    exact ⟨⟨by rw [setI_nk (by decide)]; exact h1, fun i hi => by rw [setI_ne (by decide)]; exact h2 i hi⟩, by rw [setI_nk (by decide)]; exact h3, by rw [setI_nk (by decide)]; exact h4, by rw [setI_nk (by decide)]; exact h5, by rw [setI_nk (by decide)]; exact h6, fun c => by rw [setI_nk (by decide)]; exact h7 c⟩
theorem HD.s42 {J : Jr} {N : Mem} (h : HD J N) {a : Nat} {x : Int32} (ha : 32 + 4 * nD J ≤ a) : HD J (setI N 42 a x) := by
  obtain ⟨a1, a2, a3, a4, a5, a6⟩ := h
  refine ⟨?_, ?_, ?_, fun i hi k hk => ?_, ?_, ?_⟩
  · rw [setI_ne (by decide)]; exact a1
  · rw [setI_ne (by decide)]; exact a2
  · rw [setI_ne (by decide)]; exact a3
  · rw [setI_nk (by omega)]; exact a4 i hi k hk
  · rw [setI_ne (by decide)]; exact a5
  · rw [setI_ne (by decide)]; exact a6
def u1 (x : Nat) : Nat := if uns x = true then 1 else 0
section DY
variable {J : Jr} {T : TL} {F : Nat}
theorem dy_fin {N : Mem} {v : Nat → Nat} (h : HD J N) (hv : ∀ j, j < 4 → N.1 42 (32 + 4 * nD J + j) = nI (v j)) : HD (addDy J v) (setI (setI N 36 14 (nI (unsTo J (nD J) + u1 (v 3)))) 41 1 (nI (nD J + 1))) := by
  obtain ⟨a1, a2, a3, a4, a5, a6⟩ := h
  refine ⟨?_, setI_at, ?_, fun i hi k hk => ?_, ?_, ?_⟩
  · rw [setI_ne (by decide), setI_ne (by decide)]; exact a1
  · rw [setI_ne (by decide), setI_ne (by decide)]; exact a3
  · rw [setI_ne (by decide), setI_ne (by decide)]
    have hi : i < nD J + 1 := hi
    by_cases e : i = nD J
    · subst e
      rw [addDy_at]
      exact hv k hk
    · rw [addDy_ne e]
      exact a4 i (by omega) k hk
  · rw [setI_ne (by decide), setI_ne (by decide)]; exact a5
  · rw [setI_ne (by decide), setI_at]
    show _ = nI (unsTo (addDy J v) (nD J + 1))
    rw [addDy_uns]
    rfl
def rst (T : TL) (J : Jr) : Nat ⊕ Nat → Nat ⊕ Nat
  | .inl j => .inl j
  | .inr e => if tc T e = 7 then (if rnOk J (tc T (e + 1)) = true then .inr (e + 2) else .inl (e + 1)) else .inr e
theorem rst_r {e : Nat} : rst T J (.inr e) = if tc T e = 7 then (if rnOk J (tc T (e + 1)) = true then .inr (e + 2) else .inl (e + 1)) else .inr e := rfl
def s2 (T : TL) (k : Nat) : Nat ⊕ Nat := nst T 0 9 (nst T 0 27 (.inr (k + 1)))
def dyS (T : TL) (k : Nat) (J : Jr) : Nat ⊕ Nat := rst T J (ost T 6 (s2 T k))
def dyR (T : TL) (k : Nat) : Nat := if tc T (dyE T k) = 7 then tc T (dyE T k + 1) - 100 else 0
theorem uns_inM {M : Mem} {c : Nat} (hc : c ≤ 99) : f_X10_in M (nI c) (1 : Int32) (9 : Int32) = b2 (uns c) := by
  have := in_nat (M := M) (a := c) (lo := 1) (hi := 9) (by omega) (by decide) (by decide)
  have e : (decide (1 ≤ c) && decide (c ≤ 9)) = uns c := by
    unfold uns
    by_cases c1 : 1 ≤ c
    · by_cases c2 : c ≤ 9
      · rw [decide_eq_true c1, decide_eq_true c2, decide_eq_true (show 0 < c by omega), decide_eq_true (show c < 10 by omega)]
      · rw [decide_eq_false c2, decide_eq_false (show ¬ c < 10 by omega), Bool.and_false, Bool.and_false]
    · rw [decide_eq_false c1, decide_eq_false (show ¬ 0 < c by omega), Bool.false_and, Bool.false_and]
  rw [e] at this
  exact this
theorem d135_bad {N : Mem} {e y : Nat} (hy1 : 32 ≤ y) (hy : y + 3 < 64) (h : ST T (.inr e) N) : ∃ N', f_X10_readDay_135 F (nI y) (0 : Int32) (nI (y + 3)) N = some N' ∧ ST T (.inl e) N' ∧ RY N N' := by
  obtain ⟨N1, a1, a2, a3⟩ := due_0 (F := F) h
  have ey : nI y + (3 : Int32) = nI (y + 3) := addI y 3
  have k2 : ck (1 : Int32) 2 = true := by decide
  have r1 : RY N (setI N1 42 (y + 3) (N.1 36 12)) := a3.rg.trans (RY.set (by omega))
  have st1 := a2.set (c := 42) (k := y + 3) (x := N.1 36 12) (by decide) (by decide)
  unfold f_X10_readDay_135
  rw [a1, Option.bind_some]
  simp only [vlet]
  rw [ckI (i := y + 3) (by omega) (by decide), if_pos rfl, ey, ckI (i := y + 3) (by omega) (by decide), if_pos rfl, clI (n := y + 3) (by omega), if_pos k2, if_pos k2, if_pos k2, if_pos k2]
  generalize setI N1 42 (y + 3) (N.1 36 12) = N2 at r1 st1 ⊢
  by_cases c : f_X10_in N2 (N2.1 42 (y + 3)) (1 : Int32) (9 : Int32) = 0
  · rw [if_pos c]
    exact ⟨_, rfl, st1.s14.set (by decide) (by decide), r1.trans ((RY.set (by omega)).trans (RY.set (by decide)))⟩
  · rw [if_neg c]
    exact ⟨_, rfl, st1.s14.set (by decide) (by decide), r1.trans ((RY.set (by omega)).trans (RY.set (by decide)))⟩
theorem d135_ok (hT : WTx T) (hF : 600 ≤ F) (hW : WJ J) {N : Mem} {e c : Nat} (h8 : nD J < 8) (h : ST T (.inr e) N) (hH : HD J N) (hc : N.1 36 12 = nI c) (hc1 : c ≤ 10) : ∃ N1, f_X10_readDay_135 F (nI (32 + 4 * nD J)) (1 : Int32) (nI (32 + 4 * nD J + 3)) N = some (setI (setI (setI N1 42 (32 + 4 * nD J + 3) (nI c)) 36 14 (nI (unsTo J (nD J) + u1 c))) 41 1 (nI (nD J + 1))) ∧ ST T (.inr (e + 1)) N1 ∧ DF N N1 := by
  obtain ⟨N1, a1, a2, a3⟩ := due_1 (F := F) hT hF h
  have hu4 := hW.2.2.2.2.2
  have ey : nI (32 + 4 * nD J) + (3 : Int32) = nI (32 + 4 * nD J + 3) := addI _ 3
  have k2 : ck (1 : Int32) 2 = true := by decide
  have hH1 := (hH.df a3).s42 (a := 32 + 4 * nD J + 3) (x := nI c) (by omega)
  have v1 : (setI N1 42 (32 + 4 * nD J + 3) (nI c)).1 42 (32 + 4 * nD J + 3) = nI c := setI_at
  refine ⟨N1, ?_, a2, a3⟩
  unfold f_X10_readDay_135
  rw [a1, Option.bind_some]
  simp only [vlet]
  rw [hc, ckI (i := 32 + 4 * nD J + 3) (by omega) (by decide), if_pos rfl, ey, ckI (i := 32 + 4 * nD J + 3) (by omega) (by decide), if_pos rfl, clI (n := 32 + 4 * nD J + 3) (by omega), if_pos k2, if_pos k2, if_pos k2, if_pos k2]
  generalize setI N1 42 (32 + 4 * nD J + 3) (nI c) = N2 at hH1 v1 ⊢
  have e41 : ∀ x, (setI N2 36 14 x).1 41 (1 : Int32).toNatClampNeg = nI (nD J) := fun x => by
    rw [setI_ne (by decide)]
    exact hH1.2.1
  rw [v1, uns_inM (by omega), hH1.2.2.2.2.2, e41, e41]
  have e1 : nI (nD J) + (1 : Int32) = nI (nD J + 1) := addI _ 1
  have ez : nI (unsTo J (nD J)) + (0 : Int32) = nI (unsTo J (nD J) + 0) := addI _ 0
  have eo : nI (unsTo J (nD J)) + (1 : Int32) = nI (unsTo J (nD J) + 1) := addI _ 1
  rw [e1, ez, eo]
  unfold u1
  cases uns c <;> rfl
theorem d61_nat (hT : WTx T) (hF : 600 ≤ F) (hW : WJ J) {N : Mem} {s : Nat ⊕ Nat} (t0 : Int32) (h8 : nD J < 8) (h : ST T s N) (hH : HD J N) : ∃ N', f_X10_readDay_61 F (nI (32 + 4 * nD J)) t0 (nI (32 + 4 * nD J + 2)) N = some N' ∧ ST T (rst T J s) N' ∧ RY N N' ∧ (∀ e, s = .inr e → ∀ f, rst T J s = .inr f → ∀ v : Nat → Nat, N.1 42 (32 + 4 * nD J + 0) = nI (v 0) → N.1 42 (32 + 4 * nD J + 1) = nI (v 1) → t0 = nI (v 2) → v 3 = (if tc T e = 7 then tc T (e + 1) - 100 else 0) → HD (addDy J v) N') := by
  have k2 : ck (1 : Int32) 2 = true := by decide
  have e3 : nI (32 + 4 * nD J) + (3 : Int32) = nI (32 + 4 * nD J + 3) := addI _ 3
  have hu4 := hW.2.2.2.2.2
  have st1 := (h.set (c := 42) (k := 32 + 4 * nD J + 2) (x := t0) (by decide) (by decide)).set (c := 42) (k := 32 + 4 * nD J + 3) (x := 0) (by decide) (by decide)
  have hH1 := (hH.s42 (a := 32 + 4 * nD J + 2) (x := t0) (by omega)).s42 (a := 32 + 4 * nD J + 3) (x := 0) (by omega)
  have r1 : RY N (setI (setI N 42 (32 + 4 * nD J + 2) t0) 42 (32 + 4 * nD J + 3) 0) := (RY.set (by omega)).trans (RY.set (by omega))
  have w0 : (setI (setI N 42 (32 + 4 * nD J + 2) t0) 42 (32 + 4 * nD J + 3) 0).1 42 (32 + 4 * nD J + 0) = N.1 42 (32 + 4 * nD J + 0) := by rw [setI_nk (by omega), setI_nk (by omega)]
  have w1 : (setI (setI N 42 (32 + 4 * nD J + 2) t0) 42 (32 + 4 * nD J + 3) 0).1 42 (32 + 4 * nD J + 1) = N.1 42 (32 + 4 * nD J + 1) := by rw [setI_nk (by omega), setI_nk (by omega)]
  have w2 : (setI (setI N 42 (32 + 4 * nD J + 2) t0) 42 (32 + 4 * nD J + 3) 0).1 42 (32 + 4 * nD J + 2) = t0 := by rw [setI_nk (by omega), setI_at]
  have w3 : (setI (setI N 42 (32 + 4 * nD J + 2) t0) 42 (32 + 4 * nD J + 3) 0).1 42 (32 + 4 * nD J + 3) = 0 := setI_at
  unfold f_X10_readDay_61
  simp only [vlet]
  rw [ckI (i := 32 + 4 * nD J + 2) (by omega) (by decide), if_pos rfl, e3, ckI (i := 32 + 4 * nD J + 3) (by omega) (by decide), if_pos rfl, clI (n := 32 + 4 * nD J + 2) (by omega), clI (n := 32 + 4 * nD J + 3) (by omega)]
  generalize setI (setI N 42 (32 + 4 * nD J + 2) t0) 42 (32 + 4 * nD J + 3) 0 = N1 at st1 hH1 r1 w0 w1 w2 w3 ⊢
  obtain ⟨N2, a1, a2, a3⟩ := optional_nat (F := F) hT hF st1 (w := 7) (by decide)
  have a1 : f_X10_optional F N1 (7 : Int32) = some (b2 (oB T 7 s), N2) := a1
  have hH2 := hH1.df a3
  have e42 : N2.1 42 = N1.1 42 := a3.1 42 (by decide)
  have e41 : N2.1 41 (1 : Int32).toNatClampNeg = nI (nD J) := hH2.2.1
  have e1 : nI (nD J) + (1 : Int32) = nI (nD J + 1) := addI _ 1
  rw [a1, Option.bind_some]
  dsimp only
  cases s with
  | inl j =>
    rw [show oB T 7 (.inl j : Nat ⊕ Nat) = false from rfl, if_pos b2_f, if_pos k2, if_pos k2]
    exact ⟨_, rfl, a2.set (by decide) (by decide), r1.trans (a3.rg.trans (RY.set (by decide))), fun e he => by cases he⟩
  | inr e =>
    rw [oB_r, rst_r]
    rw [ost_r] at a2
    by_cases c7 : tc T e = 7
    · rw [if_pos c7] at a2
      rw [decide_eq_true c7, if_neg b2_nt, if_pos c7]
      obtain ⟨t1, t2⟩ := tc_lt (T := T) (e + 1)
      have h11 : (N2.1 36 11 = (9 : Int32)) = (100 ≤ tc T (e + 1)) := by
        rw [a2.2.2.2.2.1]
        exact srt_9 t1 t2
      have hrn : rnOk J (tc T (e + 1)) = (decide (100 ≤ tc T (e + 1)) && decide (tc T (e + 1) ≤ 110) && (!uns (tc T (e + 1) - 100) || decide (unsTo J (nD J) < 4))) := rfl
      have e14 := hH2.2.2.2.2.2
      have hbad : rnOk J (tc T (e + 1)) = false → (∃ N', f_X10_readDay_135 F (nI (32 + 4 * nD J)) (0 : Int32) (nI (32 + 4 * nD J + 3)) N2 = some N' ∧ ST T (if rnOk J (tc T (e + 1)) = true then .inr (e + 2) else .inl (e + 1)) N' ∧ RY N N' ∧ (∀ g, (Sum.inr e : Nat ⊕ Nat) = .inr g → ∀ f, (if rnOk J (tc T (e + 1)) = true then (.inr (e + 2) : Nat ⊕ Nat) else .inl (e + 1)) = .inr f → ∀ v : Nat → Nat, N.1 42 (32 + 4 * nD J + 0) = nI (v 0) → N.1 42 (32 + 4 * nD J + 1) = nI (v 1) → t0 = nI (v 2) → v 3 = (if tc T g = 7 then tc T (g + 1) - 100 else 0) → HD (addDy J v) N')) := by
        intro hr
        obtain ⟨N3, b1, b2', b3⟩ := d135_bad (F := F) (y := 32 + 4 * nD J) (by omega) (by omega) a2
        refine ⟨N3, b1, ?_, r1.trans (a3.rg.trans b3), fun g hg f hf => ?_⟩
        · rw [hr, if_neg (by decide)]
          exact b2'
        · rw [hr, if_neg (by decide)] at hf
          cases hf
      have hgood : rnOk J (tc T (e + 1)) = true → (∃ N', f_X10_readDay_135 F (nI (32 + 4 * nD J)) (1 : Int32) (nI (32 + 4 * nD J + 3)) N2 = some N' ∧ ST T (if rnOk J (tc T (e + 1)) = true then .inr (e + 2) else .inl (e + 1)) N' ∧ RY N N' ∧ (∀ g, (Sum.inr e : Nat ⊕ Nat) = .inr g → ∀ f, (if rnOk J (tc T (e + 1)) = true then (.inr (e + 2) : Nat ⊕ Nat) else .inl (e + 1)) = .inr f → ∀ v : Nat → Nat, N.1 42 (32 + 4 * nD J + 0) = nI (v 0) → N.1 42 (32 + 4 * nD J + 1) = nI (v 1) → t0 = nI (v 2) → v 3 = (if tc T g = 7 then tc T (g + 1) - 100 else 0) → HD (addDy J v) N')) := by
        intro hr
        have hr2 := hr
        rw [hrn] at hr2
        simp only [Bool.and_eq_true, decide_eq_true_eq] at hr2
        have h12 := a2.2.2.2.2.2 hr2.1.1
        obtain ⟨N3, b1, b2', b3⟩ := d135_ok (F := F) hT hF hW h8 a2 hH2 h12 (by omega)
        have hH3 := (hH2.df b3).s42 (a := 32 + 4 * nD J + 3) (x := nI (tc T (e + 1) - 100)) (by omega)
        refine ⟨_, b1, ?_, r1.trans (a3.rg.trans (b3.rg.trans ((RY.set (by omega)).trans ((RY.set (by decide)).trans (RY.set (by decide)))))), fun g hg f hf v q0 q1 q2 q3 => ?_⟩
        · rw [if_pos hr]
          exact (b2'.set (c := 42) (by decide) (by decide)).s14.set (by decide) (by decide)
        · cases hg
          rw [if_pos c7] at q3
          have := dy_fin (v := v) hH3 (fun j hj => ?_)
          · rw [q3] at this
            exact this
          · rcases (by omega : j = 0 ∨ j = 1 ∨ j = 2 ∨ j = 3) with rfl | rfl | rfl | rfl
            · rw [setI_nk (by omega), b3.1 42 (by decide), e42, w0]; exact q0
            · rw [setI_nk (by omega), b3.1 42 (by decide), e42, w1]; exact q1
            · rw [setI_nk (by omega), b3.1 42 (by decide), e42, w2]; exact q2
            · rw [setI_at, q3]
      by_cases c : 100 ≤ tc T (e + 1)
      · have h12 := a2.2.2.2.2.2 c
        have q10 : ((10 : Int32) < nI (tc T (e + 1) - 100)) = (10 < tc T (e + 1) - 100) := ltI (by decide) (by omega)
        have q0 : (nI (tc T (e + 1) - 100) = (0 : Int32)) = (tc T (e + 1) - 100 = 0) := eqI (by omega) (by decide)
        have qx : (nI (tc T (e + 1) - 100) = (10 : Int32)) = (tc T (e + 1) - 100 = 10) := eqI (by omega) (by decide)
        have q4 : ((4 : Int32) ≤ nI (unsTo J (nD J))) = (4 ≤ unsTo J (nD J)) := leI (by decide) (by omega)
        rw [if_pos (h11.mpr c), h12, e14]
        by_cases c10 : tc T (e + 1) ≤ 110
        · have hr : rnOk J (tc T (e + 1)) = (!uns (tc T (e + 1) - 100) || decide (unsTo J (nD J) < 4)) := by
            rw [hrn, decide_eq_true c, decide_eq_true c10, Bool.true_and, Bool.true_and]
          unfold uns at hr
          rw [if_neg (fun z => by have := q10.mp z; omega)]
          by_cases z0 : tc T (e + 1) - 100 = 0
          · have hr : rnOk J (tc T (e + 1)) = true := by
              rw [hr, z0]
              rfl
            rw [if_pos (q0.mpr z0)]
            exact hgood hr
          · rw [if_neg (fun z => z0 (q0.mp z))]
            by_cases z10 : tc T (e + 1) - 100 = 10
            · have hr : rnOk J (tc T (e + 1)) = true := by
                rw [hr, z10]
                rfl
              rw [if_pos (qx.mpr z10)]
              exact hgood hr
            · rw [if_neg (fun z => z10 (qx.mp z))]
              rw [decide_eq_true (show 0 < tc T (e + 1) - 100 by omega), decide_eq_true (show tc T (e + 1) - 100 < 10 by omega)] at hr
              by_cases c4 : unsTo J (nD J) < 4
              · have hr : rnOk J (tc T (e + 1)) = true := by
                  rw [hr, decide_eq_true c4]
                  rfl
                rw [if_neg (fun z => by have := q4.mp z; omega)]
                exact hgood hr
              · have hr : rnOk J (tc T (e + 1)) = false := by
                  rw [hr, decide_eq_false c4]
                  rfl
                rw [if_pos (q4.mpr (by omega))]
                exact hbad hr
        · have hr : rnOk J (tc T (e + 1)) = false := by
            rw [hrn, decide_eq_false c10, Bool.and_false, Bool.false_and]
          rw [if_pos (q10.mpr (by omega))]
          exact hbad hr
      · have hr : rnOk J (tc T (e + 1)) = false := by
          rw [hrn, decide_eq_false c, Bool.false_and, Bool.false_and]
        rw [if_neg (fun z => c (h11.mp z))]
        exact hbad hr
    · rw [if_neg c7] at a2
      rw [decide_eq_false c7, if_pos b2_f, if_pos k2, if_pos k2, if_neg c7, e41, e1]
      refine ⟨_, rfl, a2.set (by decide) (by decide), r1.trans (a3.rg.trans (RY.set (by decide))), fun g hg f hf v q0 q1 q2 q3 => ?_⟩
      cases hg
      rw [if_neg c7] at q3
      have hs : setI N2 36 14 (nI (unsTo J (nD J) + u1 (v 3))) = N2 := by
        rw [q3]
        exact setI_same hH2.2.2.2.2.2
      have := dy_fin (v := v) hH2 (fun j hj => ?_)
      · rw [hs] at this
        exact this
      · rw [e42]
        rcases (by omega : j = 0 ∨ j = 1 ∨ j = 2 ∨ j = 3) with rfl | rfl | rfl | rfl
        · rw [w0]; exact q0
        · rw [w1]; exact q1
        · rw [w2]; exact q2
        · rw [w3, q3]; rfl
end DY
