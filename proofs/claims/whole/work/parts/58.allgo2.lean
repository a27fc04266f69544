-- part 58: calls: allGo, the reference and the pair
section CALLS
variable {J : Jr} {F : Nat}
theorem gg_iff2 (hW : WJ J) {k : Nat} (hk : k < 2 ^ nT J) : decide (∀ i', i' < nT J → 0 ≤ i' → k.testBit i' = true → ap J i' &&& k = 0) = gg J k := by
  unfold gg
  apply decide_eq_decide.mpr
  constructor
  · intro h i hi j hj a b
    exact (and_gg hW hk hi).mp (h i hi (Nat.zero_le _) a) j hj b
  · intro h i hi _ a
    exact (and_gg hW hk hi).mpr (fun j hj b => h i hi j hj a b)
theorem agR_loop (hW : WJ J) {q : Nat} {N : Mem} (hF : 100 ≤ F) (hJ : HJ J N) (hq : q ≤ 1) : ∀ (m k n : Nat), k + m = 2 ^ nT J → m < n → f_X10_allGo_15 F N n (nI q) (nI (agT J k)) (nI k) = some (nI (if q = 0 then agT J (2 ^ nT J) else bc (agT J (2 ^ nT J))))
  | 0, k, n + 1, hk, _ => by
    have h64 := pow6 hW
    have hkk : k = 2 ^ nT J := by omega
    have hb := agT_lt hW (k := k) (by omega)
    rw [f_X10_allGo_15, allR_nat hJ hW, Option.bind_some]
    simp only [all_lt hW (show k ≤ 64 by omega)]
    rw [if_pos (by omega), bitsIn_nat hF hb, hkk]
    rcases (by omega : q = 0 ∨ q = 1) with rfl | rfl <;> rfl
  | m + 1, k, n + 1, hk, hn => by
    have h64 := pow6 hW
    have hk64 : k < 64 := by omega
    have hb := agT_lt hW (k := k) (by omega)
    have ih := agR_loop hW hF hJ hq m (k + 1) n (by omega) (by omega)
    have h1 := bc_le k
    have h2 := bc_le (agT J k)
    rw [agT] at ih
    have hin := fun f => agR_in hW (F := F) (b := agT J k) (q := q) (K := fun y1 y2 y3 => f_X10_allGo_15 F N n y1 y2 y3) hJ (show k < 2 ^ nT J by omega) (nT J) 0 F f (by omega) (by have := hW.1; omega)
    rw [gg_iff2 hW (by omega)] at hin
    rw [f_X10_allGo_15, allR_nat hJ hW, Option.bind_some]
    simp only [all_lt hW (show k ≤ 64 by omega)]
    rw [if_neg (by omega), bitsIn_nat hF hb, bitsIn_nat hF hk64]
    by_cases c : bc (agT J k) < bc k
    · have hin := hin true
      rw [decide_eq_true c, Bool.true_and] at ih
      rw [Bool.true_and] at hin
      simp (disch := omega) only [lit, ltI, leI, eqI, addI, mulI, subI, clI, ckI, if_pos, if_neg, if_true, if_false, Option.bind_some, b2_0, b2_n0, b2_1, b2_n1, Bool.true_eq_false, Bool.false_eq_true, b2_t, b2_f]
      refine hin.trans ?_
      cases hg : gg J k
      · rw [hg, if_neg (by decide)] at ih
        rw [if_neg (by decide)]
        exact ih
      · rw [hg, if_pos rfl] at ih
        rw [if_pos rfl]
        exact ih
    · have hin := hin false
      rw [decide_eq_false c, Bool.false_and, if_neg (by decide)] at ih
      rw [Bool.false_and, if_neg (by decide)] at hin
      simp (disch := omega) only [lit, ltI, leI, eqI, addI, mulI, subI, clI, ckI, if_pos, if_neg, if_true, if_false, Option.bind_some, b2_0, b2_n0, b2_1, b2_n1, Bool.true_eq_false, Bool.false_eq_true, b2_t, b2_f]
      exact hin.trans ih
  | _, _, 0, _, hn => absurd hn (Nat.not_lt_zero _)
theorem allGo_pair (hW : WJ J) (hS : SY J) (hF : 4100 ≤ F) (a1 : Int32) : ∃ v, (∀ N, HX J N 3 → f_X9_allGo F N a1 = some v) ∧ (∀ N, HJ J N → f_X10_allGo F N a1 = some v) := by
  have h64 := pow6 hW
  have hb := agT_lt hW (k := 2 ^ nT J) (Nat.le_refl _)
  have hgood : ∀ q, q ≤ 1 → a1 = nI q → ∃ v, (∀ N, HX J N 3 → f_X9_allGo F N a1 = some v) ∧ (∀ N, HJ J N → f_X10_allGo F N a1 = some v) := by
    rintro q hq rfl
    refine ⟨nI (if q = 0 then agT J (2 ^ nT J) else bc (agT J (2 ^ nT J))), fun N hJ => ?_, fun N hJ => ?_⟩
    · have hbit : f_X9_isBit N (nI q) = 1 := by
        rcases (by omega : q = 0 ∨ q = 1) with rfl | rfl <;> rfl
      have a := lmX_loop hW hS (F := F) (by omega) hJ (2 ^ nT J) 0 F (by omega) (by omega)
      have a : f_X0_largestMatch_4 F N F (0 : Int32) (0 : Int32) = some (nI (agT J (2 ^ nT J))) := a
      unfold f_X9_allGo f_X0_largestMatch
      rw [hbit, if_neg (by decide), a, Option.bind_some, bitC hb]
      rcases (by omega : q = 0 ∨ q = 1) with rfl | rfl <;> rfl
    · unfold f_X10_allGo
      rw [show f_X10_in N (nI q) (0 : Int32) (1 : Int32) = 1 from inR_yes (n := 1) (by decide) hq, if_neg (by decide)]
      exact agR_loop hW (F := F) (by omega) hJ hq (2 ^ nT J) 0 F (by omega) (by omega)
  rcases isBit_any (M := M0) a1 with ⟨e, -⟩ | ⟨e, -⟩ | ⟨n0, n1, -⟩
  · exact hgood 0 (by decide) e
  · exact hgood 1 (by decide) e
  · refine ⟨-1, fun N hJ => ?_, fun N hJ => ?_⟩
    · unfold f_X9_allGo f_X9_isBit
      rw [if_neg n0, if_neg n1, if_pos rfl]
    · unfold f_X10_allGo
      rw [show f_X10_in N a1 (0 : Int32) (1 : Int32) = 0 from inR_no (n := 1) (by decide) (fun i hi => by
        rcases (by omega : i = 0 ∨ i = 1) with rfl | rfl
        · exact n0
        · exact n1)]
      rfl
end CALLS
