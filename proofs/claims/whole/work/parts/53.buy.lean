-- part 53: calls: buy
theorem betO_S {v : Nat → Nat} {g : Nat → Bool} {s : Nat} : betO v g (s + 1) = match betO v g s with
    | none => if g s = true then some s else none
    | some b => if v s < v b ∧ g s = true then some s else some b := rfl
section CALLS
variable {J : Jr} {F : Nat}
def bgy (J : Jr) (s w k : Nat) : Bool := decide (k &&& s = 0) && serves J (s ||| k) w
def byO (J : Jr) (s w : Nat) : Nat → Option Nat := betO (fun k => sm J k 5) (bgy J s w)
theorem byO_S {s w k : Nat} : byO J s w (k + 1) = match byO J s w k with
    | none => if bgy J s w k = true then some k else none
    | some b => if sm J k 5 < sm J b 5 ∧ bgy J s w k = true then some k else some b := rfl
theorem and0 {a b : Nat} (ha : a < 64) : (nI a &&& nI b = nI 0) = (a &&& b = 0) := by
  rw [nI_and, eqI (Nat.lt_of_le_of_lt Nat.and_le_left (by omega)) (by decide)]
theorem buyX_loop (hW : WJ J) {s w : Nat} {xw : Int32} (hw : wea xw w) (hF : 4100 ≤ F) (hs : s < 64) :
    ∀ (m k n : Nat) (N : Mem), k + m = 2 ^ nT J → m < n → HX J N 3 →
      ∃ N', f_X0_purchase_11 F n (nI s) xw (nO (byO J s w k)) (nI (lsv J 5 (byO J s w k))) (nI k) N = some (nO (byO J s w (2 ^ nT J)), N') ∧ PF N N'
  | 0, k, n + 1, N, hk, _, hJ => by
    have h64 := pow6 hW
    have hkk : k = 2 ^ nT J := by omega
    refine ⟨N, ?_, PF.refl⟩
    rw [f_X0_purchase_11, allX_nat hJ hW]
    simp only [all_lt hW (show k ≤ 64 by omega)]
    rw [if_pos (by omega), hkk]
  | m + 1, k, n + 1, N, hk, hn, hJ => by
    have h64 := pow6 hW
    have hk64 : k < 64 := by omega
    have hsm := sm_lt hW (s := k) (k := 5) (by decide)
    have hor : s ||| k < 64 := Nat.or_lt_two_pow (n := 6) hs hk64
    obtain ⟨N1, a1, a2, -, -⟩ := find_nat hW (F := F) hw hF hor hJ
    have ih := buyX_loop hW hw hF hs m (k + 1) n
    have hS := byO_S (J := J) (s := s) (w := w) (k := k)
    rw [f_X0_purchase_11, allX_nat hJ hW]
    simp only [all_lt hW (show k ≤ 64 by omega)]
    rw [if_neg (by omega), lit 5, sumX_nat hW (by omega) hJ hk64 (by decide), Option.bind_some]
    simp only [lit, and0 hk64]
    by_cases c0 : k &&& s = 0
    · rw [if_pos c0, nI_or, a1]
      cases hl : byO J s w k with
      | none =>
        rw [hl] at hS
        have e1 : lsv J 5 none = 1000 := rfl
        rw [e1]
        dsimp only at hS
        unfold bgy at hS
        rw [decide_eq_true c0, Bool.true_and] at hS
        cases hsv : serves J (s ||| k) w
        · rw [hsv, if_neg (by decide)] at hS
          rw [hS] at ih
          obtain ⟨N2, b1, b2'⟩ := ih N1 (by omega) (by omega) (hJ.pf a2)
          refine ⟨N2, ?_, a2.trans b2'⟩
          simp (disch := omega) only [lit, ltI, leI, eqI, addI, mulI, subI, clI, ckI, if_pos, if_neg, if_true, if_false, Option.bind_some, b2_0, b2_n0, b2_1, b2_n1, Bool.true_eq_false, Bool.false_eq_true, b2_t, b2_f]
          exact b1
        · rw [hsv, if_pos rfl] at hS
          rw [hS] at ih
          obtain ⟨N2, b1, b2'⟩ := ih N1 (by omega) (by omega) (hJ.pf a2)
          refine ⟨N2, ?_, a2.trans b2'⟩
          simp (disch := omega) only [lit, ltI, leI, eqI, addI, mulI, subI, clI, ckI, if_pos, if_neg, if_true, if_false, Option.bind_some, b2_0, b2_n0, b2_1, b2_n1, Bool.true_eq_false, Bool.false_eq_true, b2_t, b2_f]
          exact b1
      | some b =>
        rw [hl] at hS
        have e1 : lsv J 5 (some b) = sm J b 5 := rfl
        rw [e1]
        dsimp only at hS
        unfold bgy at hS
        rw [decide_eq_true c0, Bool.true_and] at hS
        have hbm := sm_lt hW (s := b) (k := 5) (by decide)
        by_cases c1 : sm J k 5 < sm J b 5
        · cases hsv : serves J (s ||| k) w
          · rw [hsv, if_neg (by simp)] at hS
            rw [hS] at ih
            obtain ⟨N2, b1, b2'⟩ := ih N1 (by omega) (by omega) (hJ.pf a2)
            refine ⟨N2, ?_, a2.trans b2'⟩
            simp (disch := omega) only [lit, ltI, leI, eqI, addI, mulI, subI, clI, ckI, if_pos, if_neg, if_true, if_false, Option.bind_some, b2_0, b2_n0, b2_1, b2_n1, Bool.true_eq_false, Bool.false_eq_true, b2_t, b2_f]
            exact b1
          · rw [hsv, if_pos ⟨c1, rfl⟩] at hS
            rw [hS] at ih
            obtain ⟨N2, b1, b2'⟩ := ih N1 (by omega) (by omega) (hJ.pf a2)
            refine ⟨N2, ?_, a2.trans b2'⟩
            simp (disch := omega) only [lit, ltI, leI, eqI, addI, mulI, subI, clI, ckI, if_pos, if_neg, if_true, if_false, Option.bind_some, b2_0, b2_n0, b2_1, b2_n1, Bool.true_eq_false, Bool.false_eq_true, b2_t, b2_f]
            exact b1
        · rw [if_neg (by rintro ⟨h, -⟩; exact c1 h)] at hS
          rw [hS] at ih
          obtain ⟨N2, b1, b2'⟩ := ih N (by omega) (by omega) hJ
          refine ⟨N2, ?_, b2'⟩
          simp (disch := omega) only [lit, ltI, leI, eqI, addI, mulI, subI, clI, ckI, if_pos, if_neg, if_true, if_false, Option.bind_some, b2_0, b2_n0, b2_1, b2_n1, Bool.true_eq_false, Bool.false_eq_true, b2_t, b2_f]
          exact b1
    · rw [if_neg c0]
      have hg : bgy J s w k = false := by unfold bgy; rw [decide_eq_false c0]; rfl
      rw [hg] at hS
      have hS : byO J s w (k + 1) = byO J s w k := by
        rw [hS]
        cases byO J s w k <;> simp
      rw [hS] at ih
      obtain ⟨N2, b1, b2'⟩ := ih N (by omega) (by omega) hJ
      refine ⟨N2, ?_, b2'⟩
      rw [addI]
      exact b1
  | _, _, 0, _, _, hn, _ => absurd hn (Nat.not_lt_zero _)
def byV (J : Jr) (q : Nat) : Option Nat → Int32
  | none => -9
  | some b => if q = 0 then nI b else nI (sm J b 5)
theorem sm_0 {J : Jr} {k : Nat} : sm J 0 k = 0 := by
  have h : ∀ n, sumTo J 0 k n = 0 := by
    intro n
    induction n with
    | zero => rfl
    | succ n ih => unfold sumTo; rw [ih]; simp
  exact h _
theorem buyR_loop (hW : WJ J) {s w q : Nat} {xw : Int32} (hw : wea xw w) (hF : 4100 ≤ F) (hs : s < 64) (hq : q ≤ 1) :
    ∀ (m k n S : Nat) (N : Mem), k + m = 2 ^ nT J → m < n → S + 8 * m < 2 ^ 31 → HJ J N → STP N S →
      ∃ N' S', f_X10_buy_26 F n xw (nI q) (nI s) (nO (byO J s w k)) (nI k) N = some (byV J q (byO J s w (2 ^ nT J)), N') ∧ STP N' S' ∧ S' ≤ S + 8 * m ∧ FS N N'
  | 0, k, n + 1, S, N, hk, _, hS, hJ, hst => by
    have h64 := pow6 hW
    have hkk : k = 2 ^ nT J := by omega
    refine ⟨N, S, ?_, hst, by omega, FS.refl⟩
    rw [f_X10_buy_26, allR_nat hJ hW, Option.bind_some]
    simp only [all_lt hW (show k ≤ 64 by omega)]
    rw [if_pos (by omega), hkk]
    cases hl : byO J s w (2 ^ nT J) with
    | none => rfl
    | some b =>
      have hb := betO_lt _ b hl
      rcases (by omega : q = 0 ∨ q = 1) with rfl | rfl
      · simp (disch := omega) only [lit, ltI, leI, eqI, addI, mulI, subI, clI, ckI, if_pos, if_neg, if_true, if_false, Option.bind_some, b2_0, b2_n0, b2_1, b2_n1, Bool.true_eq_false, Bool.false_eq_true, b2_t, b2_f, nO_some, neg9]
        rfl
      · have hsum := sumR_nat hW (F := F) (s := b) (k := 5) (N := N) (by omega) hJ (by omega) (by decide)
        simp (disch := omega) only [lit, ltI, leI, eqI, addI, mulI, subI, clI, ckI, if_pos, if_neg, if_true, if_false, Option.bind_some, b2_0, b2_n0, b2_1, b2_n1, Bool.true_eq_false, Bool.false_eq_true, b2_t, b2_f, nO_some, neg9, hsum]
        rfl
  | m + 1, k, n + 1, S, N, hk, hn, hS, hJ, hst => by
    have h64 := pow6 hW
    have hk64 : k < 64 := by omega
    have hsm := sm_lt hW (s := k) (k := 5) (by decide)
    have hor : s ||| k < 64 := Nat.or_lt_two_pow (n := 6) hs hk64
    obtain ⟨N1, S1, a1, a2, a3, a4⟩ := isServing_nat hW (F := F) (S := S) hw hF hor (by omega) hJ hst
    have ih := buyR_loop hW hw hF hs hq m (k + 1) n
    have hB := byO_S (J := J) (s := s) (w := w) (k := k)
    rw [f_X10_buy_26, allR_nat hJ hW, Option.bind_some]
    simp only [all_lt hW (show k ≤ 64 by omega)]
    rw [if_neg (by omega)]
    unfold f_X10_buy_72
    simp only [lit, and0 hk64]
    by_cases c0 : k &&& s = 0
    · rw [if_pos c0, nI_or, a1]
      have hsk := sumR_nat hW (F := F) (s := k) (k := 5) (N := N) (by omega) hJ (by omega) (by decide)
      cases hl : byO J s w k with
      | none =>
        rw [hl] at hB
        dsimp only at hB
        unfold bgy at hB
        rw [decide_eq_true c0, Bool.true_and] at hB
        have hne : (nO none = nI 0) = False := by
          apply eq_false
          decide
        have hnn : (nO none = -nI 9) = True := by
          apply eq_true
          rfl
        cases hsv : serves J (s ||| k) w
        · rw [hsv, if_neg (by decide)] at hB
          rw [hB] at ih
          obtain ⟨N2, S2, b1, b2', b3, b4⟩ := ih S1 N1 (by omega) (by omega) (by omega) (hJ.fs a4) a2
          refine ⟨N2, S2, ?_, b2', by omega, a4.trans b4⟩
          simp (disch := omega) only [lit, ltI, leI, eqI, addI, mulI, subI, clI, ckI, if_pos, if_neg, if_true, if_false, Option.bind_some, b2_0, b2_n0, b2_1, b2_n1, Bool.true_eq_false, Bool.false_eq_true, b2_t, b2_f, hne, hnn]
          exact b1
        · rw [hsv, if_pos rfl] at hB
          rw [hB] at ih
          obtain ⟨N2, S2, b1, b2', b3, b4⟩ := ih S1 N1 (by omega) (by omega) (by omega) (hJ.fs a4) a2
          refine ⟨N2, S2, ?_, b2', by omega, a4.trans b4⟩
          simp (disch := omega) only [lit, ltI, leI, eqI, addI, mulI, subI, clI, ckI, if_pos, if_neg, if_true, if_false, Option.bind_some, b2_0, b2_n0, b2_1, b2_n1, Bool.true_eq_false, Bool.false_eq_true, b2_t, b2_f, hne, hnn]
          exact b1
      | some b =>
        rw [hl] at hB
        dsimp only at hB
        unfold bgy at hB
        rw [decide_eq_true c0, Bool.true_and] at hB
        have hb := betO_lt _ b hl
        have hbm := sm_lt hW (s := b) (k := 5) (by decide)
        have hsb := sumR_nat hW (F := F) (s := b) (k := 5) (N := N) (by omega) hJ (by omega) (by decide)
        by_cases c1 : sm J k 5 < sm J b 5
        · have hb0 : b ≠ 0 := by
            rintro rfl
            rw [sm_0] at c1
            omega
          cases hsv : serves J (s ||| k) w
          · rw [hsv, if_neg (by simp)] at hB
            rw [hB] at ih
            obtain ⟨N2, S2, b1, b2', b3, b4⟩ := ih S1 N1 (by omega) (by omega) (by omega) (hJ.fs a4) a2
            refine ⟨N2, S2, ?_, b2', by omega, a4.trans b4⟩
            simp (disch := omega) only [lit, ltI, leI, eqI, addI, mulI, subI, clI, ckI, if_pos, if_neg, if_true, if_false, Option.bind_some, b2_0, b2_n0, b2_1, b2_n1, Bool.true_eq_false, Bool.false_eq_true, b2_t, b2_f, nO_some, neg9, hsk, hsb]
            exact b1
          · rw [hsv, if_pos ⟨c1, rfl⟩] at hB
            rw [hB] at ih
            obtain ⟨N2, S2, b1, b2', b3, b4⟩ := ih S1 N1 (by omega) (by omega) (by omega) (hJ.fs a4) a2
            refine ⟨N2, S2, ?_, b2', by omega, a4.trans b4⟩
            simp (disch := omega) only [lit, ltI, leI, eqI, addI, mulI, subI, clI, ckI, if_pos, if_neg, if_true, if_false, Option.bind_some, b2_0, b2_n0, b2_1, b2_n1, Bool.true_eq_false, Bool.false_eq_true, b2_t, b2_f, nO_some, neg9, hsk, hsb]
            exact b1
        · rw [if_neg (by rintro ⟨h, -⟩; exact c1 h)] at hB
          rw [hB] at ih
          obtain ⟨N2, S2, b1, b2', b3, b4⟩ := ih S N (by omega) (by omega) (by omega) hJ hst
          refine ⟨N2, S2, ?_, b2', by omega, b4⟩
          simp (disch := omega) only [lit, ltI, leI, eqI, addI, mulI, subI, clI, ckI, if_pos, if_neg, if_true, if_false, Option.bind_some, b2_0, b2_n0, b2_1, b2_n1, Bool.true_eq_false, Bool.false_eq_true, b2_t, b2_f, nO_some, neg9, hsk, hsb]
          exact b1
    · rw [if_neg c0]
      have hg : bgy J s w k = false := by unfold bgy; rw [decide_eq_false c0]; rfl
      rw [hg] at hB
      have hB : byO J s w (k + 1) = byO J s w k := by
        rw [hB]
        cases byO J s w k <;> simp
      rw [hB] at ih
      obtain ⟨N2, S2, b1, b2', b3, b4⟩ := ih S N (by omega) (by omega) (by omega) hJ hst
      refine ⟨N2, S2, ?_, b2', by omega, b4⟩
      rw [addI, if_true]
      exact b1
  | _, _, 0, _, _, _, hn, _, _, _ => absurd hn (Nat.not_lt_zero _)
theorem buy_pair (hW : WJ J) (hF : 4100 ≤ F) (a1 a2 a3 : Int32) : ∃ v, ClsOK J v (fun N => f_X9_buy F N a1 a2 a3) ∧ RefOK J v (fun N => f_X10_buy F N a1 a2 a3) := by
  have h64 := pow6 hW
  have hgood : ∀ q, q ≤ 1 → a3 = nI q → ∃ v, ClsOK J v (fun N => f_X9_buy F N a1 a2 a3) ∧ RefOK J v (fun N => f_X10_buy F N a1 a2 a3) := by
    rintro q hq rfl
    refine ⟨byV J q (byO J (st J a1) (wt a2) (2 ^ nT J)), fun N hJ hK => ?_, fun N S hJ hst hS => ?_⟩
    · obtain ⟨N1, a, b⟩ := buyX_loop hW (F := F) (wea_any a2) hF (st_lt hW a1) (2 ^ nT J) 0 F N (by omega) (by omega) hJ
      refine ⟨N1, ?_, hK.pf b, b.kf⟩
      show f_X9_buy F N a1 a2 (nI q) = _
      unfold f_X9_buy f_X0_purchase
      have a : f_X0_purchase_11 F F (nI (st J a1)) a2 (-9 : Int32) (1000 : Int32) (0 : Int32) N = some (nO (byO J (st J a1) (wt a2) (2 ^ nT J)), N1) := a
      rw [allX_nat hJ hW, st_and, a, Option.bind_some]
      have hbit : f_X9_isBit N (nI q) = 1 := by
        rcases (by omega : q = 0 ∨ q = 1) with rfl | rfl <;> rfl
      rw [hbit, if_neg (by decide)]
      dsimp only
      cases hl : byO J (st J a1) (wt a2) (2 ^ nT J) with
      | none => rfl
      | some bb =>
        have hb := betO_lt _ bb hl
        have hsum := sumX_nat hW (F := F) (s := bb) (k := 5) (N := N1) (o := 3) (by omega) (hJ.pf b) (by omega) (by decide)
        rcases (by omega : q = 0 ∨ q = 1) with rfl | rfl
        · simp (disch := omega) only [lit, ltI, leI, eqI, addI, mulI, subI, clI, ckI, if_pos, if_neg, if_true, if_false, Option.bind_some, b2_0, b2_n0, b2_1, b2_n1, Bool.true_eq_false, Bool.false_eq_true, b2_t, b2_f, nO_some]
          rfl
        · simp (disch := omega) only [lit, ltI, leI, eqI, addI, mulI, subI, clI, ckI, if_pos, if_neg, if_true, if_false, Option.bind_some, b2_0, b2_n0, b2_1, b2_n1, Bool.true_eq_false, Bool.false_eq_true, b2_t, b2_f, nO_some, hsum]
          rfl
    · obtain ⟨N1, S1, a, b, c, d⟩ := buyR_loop hW (F := F) (q := q) (wea_any a2) hF (st_lt hW a1) hq (2 ^ nT J) 0 F S N (by omega) (by omega) (by omega) hJ hst
      refine ⟨N1, S1, ?_, b, by omega, d.fr⟩
      show f_X10_buy F N a1 a2 (nI q) = _
      unfold f_X10_buy
      rw [show f_X10_in N (nI q) (0 : Int32) (1 : Int32) = 1 from inR_yes (n := 1) (by decide) hq, if_neg (by decide), allR_nat hJ hW, Option.bind_some, st_and]
      exact a
  rcases isBit_any (M := M0) a3 with ⟨e, -⟩ | ⟨e, -⟩ | ⟨n0, n1, -⟩
  · exact hgood 0 (by decide) e
  · exact hgood 1 (by decide) e
  · refine ⟨-1, ClsOK.const (fun N hJ => ?_), RefOK.const (fun N hJ => ?_)⟩
    · unfold f_X9_buy f_X9_isBit
      rw [if_neg n0, if_neg n1, if_pos rfl]
    · unfold f_X10_buy
      rw [show f_X10_in N a3 (0 : Int32) (1 : Int32) = 0 from inR_no (n := 1) (by decide) (fun i hi => by
        rcases (by omega : i = 0 ∨ i = 1) with rfl | rfl
        · exact n0
        · exact n1)]
      rfl
end CALLS
