-- part 56: calls: needless, the reference and the pair
section CALLS
variable {J : Jr} {F : Nat}
theorem ndR_loop (hW : WJ J) {s w q : Nat} {l : List Nat} {xw : Int32} (hw : wea xw w) (hF : 4100 ≤ F) (hs : s < 64) (hq : q ≤ 1) (hl : l.length = nD J) (h72 : ∀ k ∈ l, k < 72) :
    ∀ (m i n S : Nat) (N : Mem), i + m = nT J → m < n → S + 8 * m < 2 ^ 31 → HJ J N → STP N S → PA N l →
      ∃ N' S', f_X10_needless_38 F n xw (nI q) (nI s) (nI (bitsTo (ndl J s w q l) i)) (nI i) N = some (nI (bitsTo (ndl J s w q l) (nT J)), N') ∧ STP N' S' ∧ S' ≤ S + 8 * m ∧ FS N N'
  | 0, i, n + 1, S, N, hi, _, hS, hJ, hst, hp => by
    have h6 := hW.1
    have hii : i = nT J := by omega
    subst hii
    refine ⟨N, S, ?_, hst, by omega, FS.refl⟩
    rw [f_X10_needless_38]
    simp (disch := omega) only [lit, ltI, leI, eqI, addI, mulI, subI, clI, ckI, if_pos, if_neg, if_true, if_false, Option.bind_some, b2_0, b2_n0, b2_1, b2_n1, Bool.true_eq_false, Bool.false_eq_true, b2_t, b2_f, hJ.1]
  | m + 1, i, n + 1, S, N, hi, hn, hS, hJ, hst, hp => by
    have h6 := hW.1
    have h8 := hW.2.1
    have hl2 := sub_lt (k := 2 ^ i) hs
    have ih := ndR_loop hW hw hF hs hq hl h72 m (i + 1) n
    rw [bitsTo_S] at ih
    rw [f_X10_needless_38]
    simp only [vlet]
    cases hb : s.testBit i
    · have hg : ndl J s w q l i = false := by unfold ndl; rw [hb]; rfl
      rw [hg, if_neg (by decide), Nat.or_zero] at ih
      obtain ⟨N2, S2, b1, b2', b3, b4⟩ := ih S N (by omega) (by omega) (by omega) hJ hst hp
      refine ⟨N2, S2, ?_, b2', by omega, b4⟩
      simp (disch := omega) only [lit, ltI, leI, eqI, addI, mulI, subI, clI, ckI, if_pos, if_neg, if_true, if_false, Option.bind_some, b2_0, b2_n0, b2_1, b2_n1, Bool.true_eq_false, Bool.false_eq_true, b2_t, b2_f, hJ.1, isOf_nat, hb]
      exact b1
    · rcases (by omega : q = 0 ∨ q = 1) with rfl | rfl
      · obtain ⟨N1, S1, a1, a2, a3, a4⟩ := isServing_nat hW (F := F) (S := S) hw hF hl2 (by omega) hJ hst
        have hg : ndl J s w 0 l i = serves J (sub s (2 ^ i)) w := by unfold ndl; rw [hb, if_pos rfl, Bool.true_and]
        rw [hg] at ih
        cases hsv : serves J (sub s (2 ^ i)) w
        · rw [hsv, if_neg (by decide), Nat.or_zero] at ih
          obtain ⟨N2, S2, b1, b2', b3, b4⟩ := ih S1 N1 (by omega) (by omega) (by omega) (hJ.fs a4) a2 (hp.fs a4)
          refine ⟨N2, S2, ?_, b2', by omega, a4.trans b4⟩
          rw [hsv] at a1
          simp (disch := omega) only [lit, ltI, leI, eqI, addI, mulI, subI, clI, ckI, if_pos, if_neg, if_true, if_false, Option.bind_some, b2_0, b2_n0, b2_1, b2_n1, Bool.true_eq_false, Bool.false_eq_true, b2_t, b2_f, hJ.1, isOf_nat, hb, nI_shl, Nat.one_mul, subI_nat, a1, nI_or, Nat.or_zero]
          exact b1
        · rw [hsv, if_pos rfl] at ih
          obtain ⟨N2, S2, b1, b2', b3, b4⟩ := ih S1 N1 (by omega) (by omega) (by omega) (hJ.fs a4) a2 (hp.fs a4)
          refine ⟨N2, S2, ?_, b2', by omega, a4.trans b4⟩
          rw [hsv] at a1
          simp (disch := omega) only [lit, ltI, leI, eqI, addI, mulI, subI, clI, ckI, if_pos, if_neg, if_true, if_false, Option.bind_some, b2_0, b2_n0, b2_1, b2_n1, Bool.true_eq_false, Bool.false_eq_true, b2_t, b2_f, hJ.1, isOf_nat, hb, nI_shl, Nat.one_mul, subI_nat, a1, nI_or]
          exact b1
      · have hg : ndl J s w 1 l i = (!isK J 2 i && (fdS l i (nD J) 0).isNone) := by unfold ndl; rw [hb, if_neg (by decide), Bool.true_and]
        rw [hg] at ih
        have hof := of_nat hJ hW (i := i) (k := 0) (by omega) (by decide)
        have hfd := fdR_nat hW hF hJ hl h72 hp (i := i) (by omega)
        have ht := tf_le hW (show i < nT J by omega) (k := 0) (by decide)
        by_cases c : tf J i 0 = 2
        · have hk : isK J 2 i = true := decide_eq_true c
          rw [hk, Bool.not_true, Bool.false_and, if_neg (by decide), Nat.or_zero] at ih
          obtain ⟨N2, S2, b1, b2', b3, b4⟩ := ih S N (by omega) (by omega) (by omega) hJ hst hp
          refine ⟨N2, S2, ?_, b2', by omega, b4⟩
          simp (disch := omega) only [lit, ltI, leI, eqI, addI, mulI, subI, clI, ckI, if_pos, if_neg, if_true, if_false, Option.bind_some, b2_0, b2_n0, b2_1, b2_n1, Bool.true_eq_false, Bool.false_eq_true, b2_t, b2_f, hJ.1, isOf_nat, hb, hof, nI_or, Nat.or_zero]
          exact b1
        · have hk : isK J 2 i = false := decide_eq_false c
          rw [hk, if_neg (by decide)] at hfd
          rw [hk, Bool.not_false, Bool.true_and] at ih
          cases he : fdS l i (nD J) 0 with
          | none =>
            rw [he] at ih hfd
            have hfd : f_X10_firstDay F N (nI i) = some (nI 99) := hfd
            rw [show (none : Option Nat).isNone = true from rfl, if_pos rfl] at ih
            obtain ⟨N2, S2, b1, b2', b3, b4⟩ := ih S N (by omega) (by omega) (by omega) hJ hst hp
            refine ⟨N2, S2, ?_, b2', by omega, b4⟩
            simp (disch := omega) only [lit, ltI, leI, eqI, addI, mulI, subI, clI, ckI, if_pos, if_neg, if_true, if_false, Option.bind_some, b2_0, b2_n0, b2_1, b2_n1, Bool.true_eq_false, Bool.false_eq_true, b2_t, b2_f, hJ.1, isOf_nat, hb, hof, hfd, nI_shl, Nat.one_mul, nI_or]
            exact b1
          | some e =>
            have := fdS_lt _ _ _ he
            rw [he] at ih hfd
            have hfd : f_X10_firstDay F N (nI i) = some (nI e) := hfd
            rw [show (some e).isNone = false from rfl, if_neg (by decide), Nat.or_zero] at ih
            obtain ⟨N2, S2, b1, b2', b3, b4⟩ := ih S N (by omega) (by omega) (by omega) hJ hst hp
            refine ⟨N2, S2, ?_, b2', by omega, b4⟩
            simp (disch := omega) only [lit, ltI, leI, eqI, addI, mulI, subI, clI, ckI, if_pos, if_neg, if_true, if_false, Option.bind_some, b2_0, b2_n0, b2_1, b2_n1, Bool.true_eq_false, Bool.false_eq_true, b2_t, b2_f, hJ.1, isOf_nat, hb, hof, hfd, nI_or, Nat.or_zero]
            exact b1
  | _, _, 0, _, _, _, hn, _, _, _, _ => absurd hn (Nat.not_lt_zero _)
theorem FR.hj {N N' : Mem} (f : FR N N') (h : HJ J N) : HJ J N' := h.fr f
theorem needless_pair (hW : WJ J) (hF : 4100 ≤ F) (a1 a2 a3 : Int32) : ∃ v, ClsOK J v (fun N => f_X9_needless F N a1 a2 a3) ∧ RefOK J v (fun N => f_X10_needless F N a1 a2 a3) := by
  have h6 := hW.1
  have hgood : ∀ q, q ≤ 1 → a3 = nI q → ∃ v, ClsOK J v (fun N => f_X9_needless F N a1 a2 a3) ∧ RefOK J v (fun N => f_X10_needless F N a1 a2 a3) := by
    rintro q hq rfl
    have hbit : ∀ N, f_X9_isBit N (nI q) = 1 := by
      intro N
      rcases (by omega : q = 0 ∨ q = 1) with rfl | rfl <;> rfl
    cases hfp : fp J (st J a1) (wt a2) (nD J) 0 0 with
    | none =>
      have hsv : serves J (st J a1) (wt a2) = false := by unfold serves lives; rw [hfp]; rfl
      refine ⟨-2, fun N hJ hK => ?_, fun N S hJ hst hS => ?_⟩
      · obtain ⟨N1, a, b, -, -⟩ := find_nat hW (F := F) (wea_any a2) hF (st_lt hW a1) hJ
        refine ⟨N1, ?_, hK.pf b, b.kf⟩
        show f_X9_needless F N a1 a2 (nI q) = _
        unfold f_X9_needless
        rw [hbit, allX_nat hJ hW, st_and, a, hsv]
        simp (disch := omega) only [lit, ltI, leI, eqI, addI, mulI, subI, clI, ckI, if_pos, if_neg, if_true, if_false, Option.bind_some, b2_0, b2_n0, b2_1, b2_n1, Bool.true_eq_false, Bool.false_eq_true, b2_t, b2_f]
      · obtain ⟨N1, S1, a, -, b, c, e⟩ := findPlan_nat hW (F := F) (S := S) (wea_any a2) hF (st_lt hW a1) (by omega) hJ hst
        refine ⟨N1, S1, ?_, b, by omega, e⟩
        show f_X10_needless F N a1 a2 (nI q) = _
        unfold f_X10_needless
        rw [show f_X10_in N (nI q) (0 : Int32) (1 : Int32) = 1 from inR_yes (n := 1) (by decide) hq, allR_nat hJ hW, Option.bind_some, st_and, a, hsv]
        simp (disch := omega) only [lit, ltI, leI, eqI, addI, mulI, subI, clI, ckI, if_pos, if_neg, if_true, if_false, Option.bind_some, b2_0, b2_n0, b2_1, b2_n1, Bool.true_eq_false, Bool.false_eq_true, b2_t, b2_f]
    | some l =>
      have hsv : serves J (st J a1) (wt a2) = true := by unfold serves lives; rw [hfp]; rfl
      have hll := fp_len _ _ _ l hfp
      have hk := fp_lt _ _ _ l hfp
      refine ⟨nI (bitsTo (ndl J (st J a1) (wt a2) q l) (nT J)), fun N hJ hK => ?_, fun N S hJ hst hS => ?_⟩
      · obtain ⟨N1, a, b, -, hpl⟩ := find_nat hW (F := F) (wea_any a2) hF (st_lt hW a1) hJ
        have hpl := hpl l hfp
        rcases (by omega : q = 0 ∨ q = 1) with rfl | rfl
        · obtain ⟨N2, c, d⟩ := spX_loop hW (F := F) (l := l) (wea_any a2) hF (st_lt hW a1) (nT J) 0 F N1 (by omega) (by omega) (hJ.pf b)
          refine ⟨N2, ?_, hK.pf (b.trans d), (b.trans d).kf⟩
          show f_X9_needless F N a1 a2 (nI 0) = _
          unfold f_X9_needless f_X0_spares
          have c : f_X0_spares_5 F F (nI (st J a1)) a2 (0 : Int32) (0 : Int32) N1 = some (nI (bitsTo (ndl J (st J a1) (wt a2) 0 l) (nT J)), N2) := c
          rw [hbit, allX_nat hJ hW, st_and, a, hsv, Option.bind_some]
          dsimp only
          rw [c]
          rfl
        · have c := nvX_loop hW (F := F) (w := wt a2) hF (st_lt hW a1) (hJ.pf b) hll hk hpl (nT J) 0 F (by omega) (by omega)
          refine ⟨N1, ?_, hK.pf b, b.kf⟩
          show f_X9_needless F N a1 a2 (nI 1) = _
          unfold f_X9_needless f_X5_neverOn
          have c : f_X5_neverOn_4 F N1 F (nI (st J a1)) (0 : Int32) (0 : Int32) = some (nI (bitsTo (ndl J (st J a1) (wt a2) 1 l) (nT J))) := c
          rw [hbit, allX_nat hJ hW, st_and, a, hsv, Option.bind_some]
          dsimp only
          rw [c]
          rfl
      · obtain ⟨N1, S1, a, hpa, b, c, e⟩ := findPlan_nat hW (F := F) (S := S) (wea_any a2) hF (st_lt hW a1) (by omega) hJ hst
        obtain ⟨N2, S2, b1, b2', b3, b4⟩ := ndR_loop hW (F := F) (q := q) (wea_any a2) hF (st_lt hW a1) hq hll hk (nT J) 0 F S1 N1 (by omega) (by omega) (by omega) (hJ.fr e) b (hpa l hfp)
        refine ⟨N2, S2, ?_, b2', by omega, e.trans b4.fr⟩
        show f_X10_needless F N a1 a2 (nI q) = _
        unfold f_X10_needless
        rw [show f_X10_in N (nI q) (0 : Int32) (1 : Int32) = 1 from inR_yes (n := 1) (by decide) hq, allR_nat hJ hW, Option.bind_some, st_and, a, hsv, if_neg (by decide), Option.bind_some]
        exact b1
  rcases isBit_any (M := M0) a3 with ⟨e, -⟩ | ⟨e, -⟩ | ⟨n0, n1, -⟩
  · exact hgood 0 (by decide) e
  · exact hgood 1 (by decide) e
  · refine ⟨-1, ClsOK.const (fun N hJ => ?_), RefOK.const (fun N hJ => ?_)⟩
    · unfold f_X9_needless f_X9_isBit
      rw [if_neg n0, if_neg n1, if_pos rfl]
    · unfold f_X10_needless
      rw [show f_X10_in N a3 (0 : Int32) (1 : Int32) = 0 from inR_no (n := 1) (by decide) (fun i hi => by
        rcases (by omega : i = 0 ∨ i = 1) with rfl | rfl
        · exact n0
        · exact n1)]
      rfl
end CALLS
