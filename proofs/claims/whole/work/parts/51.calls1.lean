-- part 51: calls: serves, plan, odds, least
theorem sh31 : ∀ k, k < 32 → (((nI k) &&& 31).toBitVec.smod 32).toNat = k := by decide +kernel
/-- a told weather as a number -/
def wt (x : Int32) : Nat := x.toBitVec.toNat % 256
theorem wea_any (x : Int32) : wea x (wt x) := by
  intro d hd
  apply Int32.toBitVec_inj.mp
  rw [Int32.toBitVec_and, Int32.toBitVec_shiftRight, BitVec.sshiftRight', sh31 d (by omega)]
  have hb : (x.toBitVec.sshiftRight d).getLsbD 0 = (wt x).testBit d := by
    rw [BitVec.getLsbD_sshiftRight, Nat.add_zero, if_pos (by omega)]
    show (true && x.toBitVec.getLsbD d) = _
    rw [Bool.true_and]
    unfold wt
    rw [show (256 : Nat) = 2 ^ 8 from rfl, Nat.testBit_mod_two_pow]
    simp [hd]
    rfl
  generalize x.toBitVec.sshiftRight d = y at hb
  rw [← hb]
  apply BitVec.eq_of_getLsbD_eq
  intro i hi
  show (y &&& 1#32).getLsbD i = _
  rw [BitVec.getLsbD_and, BitVec.getLsbD_one]
  by_cases e : i = 0
  · subst e
    cases y.getLsbD 0 <;> rfl
  · have : (b2 (y.getLsbD 0)).toBitVec.getLsbD i = false := by
      cases y.getLsbD 0
      · show (0#32).getLsbD i = false
        simp
      · show (1#32).getLsbD i = false
        rw [BitVec.getLsbD_one]
        simp [e]
    rw [this]
    simp [e]
theorem fs_mem {α β : Type} {f : α → Option β} {b : β} : ∀ {l : List α}, l.findSome? f = some b → ∃ a ∈ l, f a = some b := by
  intro l h
  exact List.exists_of_findSome?_eq_some h
theorem fp_len {J : Jr} {s w : Nat} : ∀ (r d x : Nat) (l : List Nat), fp J s w r d x = some l → l.length = r
  | 0, _, _, l, h => by
    rw [fp] at h
    cases h
    rfl
  | r + 1, d, x, l, h => by
    rw [fp] at h
    obtain ⟨p, -, h⟩ := fs_mem h
    split at h
    · obtain ⟨c, -, h⟩ := fs_mem h
      cases h2 : fp J s w r (d + 1) (nx J s w d x p c) with
      | none => rw [h2] at h; cases h
      | some l' =>
        rw [h2] at h
        simp only [Option.map_some] at h
        cases h
        rw [List.length_cons, fp_len r _ _ l' h2]
    · cases h
/-- a call of the class on journeys alone; of the reference -/
def ClsOK (J : Jr) (v : Int32) (f : Mem → Option (Int32 × Mem)) : Prop := ∀ N, HX J N 3 → KN J N → ∃ N', f N = some (v, N') ∧ KN J N' ∧ KF N N'
def RefOK (J : Jr) (v : Int32) (f : Mem → Option (Int32 × Mem)) : Prop := ∀ N S, HJ J N → STP N S → S + 131072 < 2 ^ 31 → ∃ N' S', f N = some (v, N') ∧ STP N' S' ∧ S' ≤ S + 131072 ∧ FR N N'
section CALLS
variable {J : Jr} {F : Nat}
theorem serves_pair (hW : WJ J) (hF : 4100 ≤ F) (a1 a2 : Int32) : ∃ v, ClsOK J v (fun N => f_X9_serves F N a1 a2) ∧ RefOK J v (fun N => f_X10_serves F N a1 a2) := by
  refine ⟨b2 (serves J (st J a1) (wt a2)), fun N hJ hK => ?_, fun N S hJ hst hS => ?_⟩
  · obtain ⟨N1, a, b, -, -⟩ := find_nat hW (F := F) (wea_any a2) hF (st_lt hW a1) hJ
    refine ⟨N1, ?_, hK.pf b, b.kf⟩
    show f_X9_serves F N a1 a2 = _
    unfold f_X9_serves
    rw [allX_nat hJ hW, st_and, a, Option.bind_some]
    cases serves J (st J a1) (wt a2) <;> rfl
  · obtain ⟨N1, S1, a, b, c, d⟩ := isServing_nat hW (F := F) (S := S) (wea_any a2) hF (st_lt hW a1) (by omega) hJ hst
    refine ⟨N1, S1, ?_, b, by omega, d.fr⟩
    show f_X10_serves F N a1 a2 = _
    unfold f_X10_serves
    rw [allR_nat hJ hW, Option.bind_some, st_and, a, Option.bind_some]
    cases serves J (st J a1) (wt a2) <;> rfl
theorem odds_pair (hW : WJ J) (hF : 4100 ≤ F) (a1 : Int32) : ∃ v, ClsOK J v (fun N => f_X9_odds F N a1) ∧ RefOK J v (fun N => f_X10_odds F N a1) := by
  refine ⟨nI (odd J (st J a1)), fun N hJ hK => ?_, fun N S hJ hst hS => ?_⟩
  · obtain ⟨N1, a, b, c⟩ := chances_nat hW (F := F) hF (st_lt hW a1) hJ hK
    refine ⟨N1, ?_, b, c⟩
    show f_X9_odds F N a1 = _
    unfold f_X9_odds
    rw [allX_nat hJ hW, st_and, a, Option.bind_some]
  · obtain ⟨N1, S1, a, b, c, d⟩ := oddsR_nat hW (F := F) (S := S) hF (st_lt hW a1) (by omega) hJ hst
    refine ⟨N1, S1, ?_, b, by omega, d.fr⟩
    show f_X10_odds F N a1 = _
    unfold f_X10_odds
    rw [allR_nat hJ hW, Option.bind_some, st_and, a, Option.bind_some]
theorem again_pair (hW : WJ J) (hF : 4100 ≤ F) (a1 : Int32) : ∃ v, ClsOK J v (fun N => f_X9_again F N a1) ∧ RefOK J v (fun N => f_X10_again F N a1) := by
  have h8 := hW.2.1
  refine ⟨if nD J = 0 then -2 else nI (agn J (st J a1) 9 [0]), fun N hJ hK => ?_, fun N S hJ hst hS => ?_⟩
  · show ∃ N', f_X9_again F N a1 = _ ∧ _
    unfold f_X9_again
    rw [show f_X8_days N 3 = nI (nD J) from hJ.2.1, allX_nat hJ hW, st_and]
    by_cases c : nD J = 0
    · refine ⟨N, ?_, hK, KF.refl⟩
      rw [c]
      rfl
    · obtain ⟨N1, a, b⟩ := timesX_nat hW (F := F) hF (st_lt hW a1) hJ
      refine ⟨N1, ?_, hK.pf b, b.kf⟩
      rw [if_neg c]
      simp (disch := omega) only [lit, ltI, leI, eqI, addI, mulI, subI, clI, ckI, if_pos, if_neg, if_true, if_false, Option.bind_some, b2_0, b2_n0, b2_1, b2_n1, Bool.true_eq_false, Bool.false_eq_true, b2_t, b2_f, a]
  · obtain ⟨N1, S1, a, b, c, d⟩ := againR_nat hW (F := F) (x := a1) (S := S) hF (by omega) hJ hst
    exact ⟨N1, S1, a, b, by omega, d.fr⟩
theorem range_any (x : Int32) {n : Nat} (hn : n + 1 < 2 ^ 31) : (∃ i, i ≤ n ∧ x = nI i) ∨ (x < 0) ∨ (¬ x < 0 ∧ nI n < x ∧ ¬ x ≤ nI n) := by
  rcases pk_ix x (n := n + 1) (by omega) with h | h | ⟨i, hi, rfl⟩
  · exact Or.inr (Or.inl h)
  · by_cases h0 : x < 0
    · exact Or.inr (Or.inl h0)
    · have e1 : (nI (n + 1)).toInt ≤ x.toInt := Int32.le_iff_toInt_le.mp h
      rw [nI_toInt (by omega)] at e1
      refine Or.inr (Or.inr ⟨h0, ?_, ?_⟩)
      · apply Int32.lt_iff_toInt_lt.mpr
        rw [nI_toInt (by omega)]
        omega
      · rw [Int32.le_iff_toInt_le, nI_toInt (by omega)]
        omega
  · exact Or.inl ⟨i, by omega, rfl⟩
theorem isBit_any {M : Mem} (x : Int32) : (x = nI 0 ∧ f_X9_isBit M x = 1) ∨ (x = nI 1 ∧ f_X9_isBit M x = 1) ∨ (x ≠ 0 ∧ x ≠ 1 ∧ f_X9_isBit M x = 0) := by
  unfold f_X9_isBit
  by_cases h0 : x = 0
  · exact Or.inl ⟨h0, if_pos h0⟩
  · by_cases h1 : x = 1
    · exact Or.inr (Or.inl ⟨h1, by rw [if_neg h0, if_pos h1]⟩)
    · exact Or.inr (Or.inr ⟨h0, h1, by rw [if_neg h0, if_neg h1]⟩)
theorem inR_no {M : Mem} {x : Int32} {n : Nat} (hn : n + 1 < 2 ^ 31) (h : ∀ i, i ≤ n → x ≠ nI i) : f_X10_in M x (nI 0) (nI n) = 0 := by
  unfold f_X10_in
  rcases range_any x hn with ⟨i, hi, e⟩ | h0 | ⟨h0, h1, -⟩
  · exact absurd e (h i hi)
  · have h0 : x < nI 0 := h0
    rw [if_pos h0]
  · have h0 : ¬ x < nI 0 := h0
    rw [if_neg h0, if_pos h1]
theorem inR_yes {M : Mem} {i n : Nat} (hn : n + 1 < 2 ^ 31) (h : i ≤ n) : f_X10_in M (nI i) (nI 0) (nI n) = 1 := by
  rw [in_nat (by omega) (by omega) (by omega)]
  rw [show decide (0 ≤ i) = true from decide_eq_true (by omega), show decide (i ≤ n) = true from decide_eq_true h]
  rfl
theorem RefOK.const {v : Int32} {f : Mem → Option (Int32 × Mem)} (h : ∀ N, HJ J N → f N = some (v, N)) : RefOK J v f := fun N S hJ hst hS => ⟨N, S, h N hJ, hst, by omega, FR.refl⟩
theorem ClsOK.const {v : Int32} {f : Mem → Option (Int32 × Mem)} (h : ∀ N, HX J N 3 → f N = some (v, N)) : ClsOK J v f := fun N hJ hK => ⟨N, h N hJ, hK, KF.refl⟩
theorem least_pair (hW : WJ J) (hF : 4100 ≤ F) (a1 a2 : Int32) : ∃ v, ClsOK J v (fun N => f_X9_least F N a1 a2) ∧ RefOK J v (fun N => f_X10_least F N a1 a2) := by
  have h64 := pow6 hW
  have hbad : ∀ (hb : ∀ M, f_X10_in M a2 (0 : Int32) (1 : Int32) = 0 ∨ f_X10_in M a1 (0 : Int32) (1000 : Int32) = 0), RefOK J (-1) (fun N => f_X10_least F N a1 a2) := by
    intro hb
    refine RefOK.const (fun N hJ => ?_)
    unfold f_X10_least
    by_cases c : f_X10_in N a1 (0 : Int32) (1000 : Int32) = 0
    · rw [if_pos c]
    · rw [if_neg c, if_pos ((hb N).resolve_right c)]
  have hgood : ∀ h, h ≤ 1000 → ∀ k, k < 8 → ∀ N, HX J N 3 → KN J N → ∃ N', f_X0_smallest F N ((10 : Int32) * nI h) (nI k) = some (nO (lst J (10 * h) k (2 ^ nT J)), N') ∧ KN J N' ∧ KF N N' := by
    intro h hh k hk N hJ hK
    have e : (10 : Int32) * nI h = nI (10 * h) := mulI 10 h
    rw [e]
    exact lsX_loop hW (F := F) hF (e := 10 * h) (by omega) hk (2 ^ nT J) 0 F N (by omega) (by omega) hJ hK
  have hgoodR : ∀ h, h ≤ 1000 → ∀ k, k < 8 → ∀ N S, HJ J N → STP N S → S + 131072 < 2 ^ 31 → ∃ N' S', f_X10_least_39 F F (nI h) (nI k) (-9 : Int32) (0 : Int32) N = some (nO (lst J (10 * h) k (2 ^ nT J)), N') ∧ STP N' S' ∧ S' ≤ S + 131072 ∧ FR N N' := by
    intro h hh k hk N S hJ hst hS
    obtain ⟨N', S', a, b, c, d⟩ := lsR_loop hW (F := F) (h := h) (k := k) hF hh hk (2 ^ nT J) 0 F S N (by omega) (by omega) (by omega) hJ hst
    exact ⟨N', S', a, b, by omega, d.fr⟩
  rcases range_any a1 (n := 1000) (by decide) with ⟨h, hh, rfl⟩ | h0 | ⟨h0, h1, -⟩
  · rcases isBit_any (M := M0) a2 with ⟨rfl, -⟩ | ⟨rfl, -⟩ | ⟨n0, n1, -⟩
    · refine ⟨nO (lst J (10 * h) 4 (2 ^ nT J)), fun N hJ hK => ?_, fun N S hJ hst hS => ?_⟩
      · obtain ⟨N', a, b, c⟩ := hgood h hh 4 (by decide) N hJ hK
        refine ⟨N', ?_, b, c⟩
        show f_X9_least F N (nI h) (nI 0) = _
        unfold f_X9_least f_X9_isBit
        have a : f_X0_smallest F N ((10 : Int32) * nI h) (4 : Int32) = some (nO (lst J (10 * h) 4 (2 ^ nT J)), N') := a
        rw [a]
        simp (disch := omega) only [lit, ltI, leI, eqI, addI, mulI, subI, clI, ckI, if_pos, if_neg, if_true, if_false, Option.bind_some, b2_0, b2_n0, b2_1, b2_n1, Bool.true_eq_false, Bool.false_eq_true, b2_t, b2_f]
      · obtain ⟨N', S', a, b⟩ := hgoodR h hh 4 (by decide) N S hJ hst hS
        refine ⟨N', S', ?_, b⟩
        show f_X10_least F N (nI h) (nI 0) = _
        unfold f_X10_least
        rw [show f_X10_in N (nI h) (0 : Int32) (1000 : Int32) = 1 from inR_yes (n := 1000) (by decide) hh, show f_X10_in N (nI 0) (0 : Int32) (1 : Int32) = 1 from inR_yes (n := 1) (i := 0) (by decide) (by decide)]
        exact a
    · refine ⟨nO (lst J (10 * h) 3 (2 ^ nT J)), fun N hJ hK => ?_, fun N S hJ hst hS => ?_⟩
      · obtain ⟨N', a, b, c⟩ := hgood h hh 3 (by decide) N hJ hK
        refine ⟨N', ?_, b, c⟩
        show f_X9_least F N (nI h) (nI 1) = _
        unfold f_X9_least f_X9_isBit
        have a : f_X0_smallest F N ((10 : Int32) * nI h) (3 : Int32) = some (nO (lst J (10 * h) 3 (2 ^ nT J)), N') := a
        rw [a]
        simp (disch := omega) only [lit, ltI, leI, eqI, addI, mulI, subI, clI, ckI, if_pos, if_neg, if_true, if_false, Option.bind_some, b2_0, b2_n0, b2_1, b2_n1, Bool.true_eq_false, Bool.false_eq_true, b2_t, b2_f]
      · obtain ⟨N', S', a, b⟩ := hgoodR h hh 3 (by decide) N S hJ hst hS
        refine ⟨N', S', ?_, b⟩
        show f_X10_least F N (nI h) (nI 1) = _
        unfold f_X10_least
        rw [show f_X10_in N (nI h) (0 : Int32) (1000 : Int32) = 1 from inR_yes (n := 1000) (by decide) hh, show f_X10_in N (nI 1) (0 : Int32) (1 : Int32) = 1 from inR_yes (n := 1) (i := 1) (by decide) (by decide)]
        exact a
    · refine ⟨-1, ClsOK.const (fun N hJ => ?_), hbad (fun M => Or.inl (inR_no (n := 1) (by decide) (fun i hi => ?_)))⟩
      · unfold f_X9_least f_X9_isBit
        rw [if_neg n0, if_neg n1]
        simp (disch := omega) only [lit, ltI, leI, eqI, addI, mulI, subI, clI, ckI, if_pos, if_neg, if_true, if_false, Option.bind_some, b2_0, b2_n0, b2_1, b2_n1, Bool.true_eq_false, Bool.false_eq_true, b2_t, b2_f]
      · rcases (by omega : i = 0 ∨ i = 1) with rfl | rfl
        · exact n0
        · exact n1
  · refine ⟨-1, ClsOK.const (fun N hJ => ?_), hbad (fun M => Or.inr (inR_no (n := 1000) (by decide) (fun i hi e => ?_)))⟩
    · unfold f_X9_least
      rw [if_pos h0]
    · subst e
      exact nI_pos (by omega) h0
  · refine ⟨-1, ClsOK.const (fun N hJ => ?_), hbad (fun M => Or.inr (inR_no (n := 1000) (by decide) (fun i hi e => ?_)))⟩
    · unfold f_X9_least
      have h1 : (1000 : Int32) < a1 := h1
      rw [if_neg h0, if_pos h1]
    · subst e
      rw [ltI (by omega) (by omega)] at h1
      omega
end CALLS
