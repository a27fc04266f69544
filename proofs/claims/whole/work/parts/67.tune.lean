-- part 67: calls: tune, packs
def lo3 (k : Nat) : Nat := if k = 0 then 0 else 1
def hi3 (k : Nat) : Nat := if k = 1 then 4 else 999
def WT (t : Nat → Nat) : Prop := ∀ k, k < 3 → lo3 k ≤ t k ∧ t k ≤ hi3 k
def TX (t : Nat → Nat) (N : Mem) : Prop := ∀ k, k < 3 → N.1 35 k = nI (t k)
def TY (t : Nat → Nat) (N : Mem) : Prop := ∀ k, k < 3 → N.1 43 k = nI (t k)
/-- only cell c changes -/
def OC (c : Nat) (N N' : Mem) : Prop := (∀ d, d ≠ c → N'.1 d = N.1 d) ∧ N'.2 = N.2
theorem OC.refl {c : Nat} {N : Mem} : OC c N N := ⟨fun _ _ => rfl, rfl⟩
theorem OC.one {c k : Nat} {v : Int32} {N : Mem} : OC c N (setI N c k v) := ⟨fun d h => setI_ne h, rfl⟩
def upT (t : Nat → Nat) (k v : Nat) : Nat → Nat := fun j => if j = k then v else t j
theorem tl_nat {k : Nat} (h : k < 3) : tlV.getD k 0 = nI (lo3 k) := by
  rcases (by omega : k = 0 ∨ k = 1 ∨ k = 2) with rfl | rfl | rfl <;> rfl
theorem tm_nat {k : Nat} (h : k < 3) : tmV.getD k 0 = nI (hi3 k) := by
  rcases (by omega : k = 0 ∨ k = 1 ∨ k = 2) with rfl | rfl | rfl <;> rfl
theorem hi3_lt {k : Nat} : hi3 k ≤ 999 ∧ lo3 k ≤ 1 := by
  unfold hi3 lo3
  constructor <;> split <;> omega
theorem WT.up {t : Nat → Nat} {k v : Nat} (h : WT t) (h1 : lo3 k ≤ v) (h2 : v ≤ hi3 k) : WT (upT t k v) := by
  intro j hj
  unfold upT
  by_cases e : j = k
  · subst e; rw [if_pos rfl]; exact ⟨h1, h2⟩
  · rw [if_neg e]; exact h j hj
theorem TX.up {t : Nat → Nat} {k v : Nat} {N : Mem} (h : TX t N) : TX (upT t k v) (setI N 35 k (nI v)) := by
  intro j hj
  unfold upT
  by_cases e : j = k
  · subst e; rw [if_pos rfl, setI_at]
  · rw [if_neg e, setI_nk e]; exact h j hj
theorem TY.up {t : Nat → Nat} {k v : Nat} {N : Mem} (h : TY t N) : TY (upT t k v) (setI N 43 k (nI v)) := by
  intro j hj
  unfold upT
  by_cases e : j = k
  · subst e; rw [if_pos rfl, setI_at]
  · rw [if_neg e, setI_nk e]; exact h j hj
theorem tune31_nat {k v : Nat} {t : Nat → Nat} {N : Mem} (hk : k < 3) (hT : TY t N) {lo hi : Nat} (h1 : lo ≤ v) (h2 : v ≤ hi) (hh : hi ≤ 999) : f_X10_tune_31 (nI k) (nI v) (nI hi) (nI lo) (nI v) N = some (nI (t k), setI N 43 k (nI v)) := by
  have hin : f_X10_in N (nI v) (nI lo) (nI hi) = 1 := by
    rw [in_nat (by omega) (by omega) (by omega), show decide (lo ≤ v) = true from decide_eq_true h1, show decide (v ≤ hi) = true from decide_eq_true h2]
    rfl
  unfold f_X10_tune_31
  simp only [vlet]
  rw [hin]
  simp (disch := omega) only [lit, ltI, leI, eqI, addI, mulI, subI, clI, ckI, if_pos, if_neg, if_true, if_false, Option.bind_some, b2_0, b2_n0, b2_1, b2_n1, Bool.true_eq_false, Bool.false_eq_true, b2_t, b2_f, hT k hk]
theorem tune_pair {t : Nat → Nat} (hT : WT t) (a1 a2 : Int32) : ∃ v t', WT t' ∧ (∀ N, TX t N → ∃ N', f_X9_tune N a1 a2 = some (v, N') ∧ TX t' N' ∧ OC 35 N N') ∧ (∀ N, TY t N → ∃ N', f_X10_tune N a1 a2 = some (v, N') ∧ TY t' N' ∧ OC 43 N N') := by
  by_cases c1 : ∃ k, k < 3 ∧ a1 = nI k
  · obtain ⟨k, hk, rfl⟩ := c1
    have hb := hi3_lt (k := k)
    by_cases c2 : ∃ v, lo3 k ≤ v ∧ v ≤ hi3 k ∧ a2 = nI v
    · obtain ⟨v, hv1, hv2, rfl⟩ := c2
      refine ⟨nI (t k), upT t k v, hT.up hv1 hv2, fun N h => ⟨setI N 35 k (nI v), ?_, h.up, OC.one⟩, fun N h => ⟨setI N 43 k (nI v), ?_, h.up, OC.one⟩⟩
      · unfold f_X9_tune
        simp only [vlet]
        have e1 := tl_nat hk
        have e2 := tm_nat hk
        have e0 : (0 : Int32) = nI 0 := rfl
        rw [e0] at e1 e2
        simp (disch := omega) only [lit, ltI, leI, eqI, addI, mulI, subI, clI, ckI, if_pos, if_neg, if_true, if_false, Option.bind_some, b2_0, b2_n0, b2_1, b2_n1, Bool.true_eq_false, Bool.false_eq_true, b2_t, b2_f, e1, e2, h k hk]
      · have hin : f_X10_in N (nI k) (0 : Int32) (2 : Int32) = 1 := inR_yes (n := 2) (by decide) (by omega)
        unfold f_X10_tune
        rw [hin, if_neg (by decide)]
        rcases (by omega : k = 0 ∨ k = 1 ∨ k = 2) with rfl | rfl | rfl
        · rw [if_pos (by decide), if_neg (by decide)]
          exact tune31_nat (k := 0) hk h (lo := 0) (hi := 999) hv1 hv2 (by decide)
        · rw [if_neg (by decide), if_pos (by decide)]
          exact tune31_nat (k := 1) hk h (lo := 1) (hi := 4) hv1 hv2 (by decide)
        · rw [if_neg (by decide), if_neg (by decide)]
          exact tune31_nat (k := 2) hk h (lo := 1) (hi := 999) hv1 hv2 (by decide)
    · have hbad : ∀ lo hi : Nat, lo = lo3 k → hi = hi3 k → a2 < nI lo ∨ (¬ a2 < nI lo ∧ nI hi < a2 ∧ ¬ a2 ≤ nI hi) := by
        rintro lo hi rfl rfl
        by_cases h1 : a2 < nI (lo3 k)
        · exact Or.inl h1
        · refine Or.inr ⟨h1, ?_⟩
          rcases range_any a2 (n := hi3 k) (by omega) with ⟨i, hi, rfl⟩ | h0 | ⟨-, h2, h3⟩
          · exfalso
            rw [ltI (by omega) (by omega)] at h1
            exact c2 ⟨i, by omega, hi, rfl⟩
          · exfalso
            apply h1
            have h0 := Int32.lt_iff_toInt_lt.mp h0
            have e0 : (0 : Int32).toInt = 0 := by decide
            rw [e0] at h0
            apply Int32.lt_iff_toInt_lt.mpr
            rw [nI_toInt (by omega)]
            omega
          · exact ⟨h2, h3⟩
      have h31 : ∀ N lo hi, lo = lo3 k → hi = hi3 k → f_X10_tune_31 (nI k) a2 (nI hi) (nI lo) a2 N = some (-1, N) := by
        intro N lo hi e1 e2
        unfold f_X10_tune_31 f_X10_in
        rcases hbad lo hi e1 e2 with h | ⟨h, h2, -⟩
        · rw [if_pos h, if_pos rfl]
        · rw [if_neg h, if_pos h2, if_pos rfl]
      refine ⟨-1, t, hT, fun N h => ⟨N, ?_, h, OC.refl⟩, fun N h => ⟨N, ?_, h, OC.refl⟩⟩
      · unfold f_X9_tune
        have e1 := tl_nat hk
        have e2 := tm_nat hk
        have e0 : (0 : Int32) = nI 0 := rfl
        rw [e0] at e1 e2
        rcases hbad _ _ rfl rfl with h | ⟨h, -, h2⟩
        · simp (disch := omega) only [lit, ltI, leI, eqI, addI, mulI, subI, clI, ckI, if_pos, if_neg, if_true, if_false, Option.bind_some, b2_0, b2_n0, b2_1, b2_n1, Bool.true_eq_false, Bool.false_eq_true, b2_t, b2_f, e1, e2, h]
        · simp (disch := omega) only [lit, ltI, leI, eqI, addI, mulI, subI, clI, ckI, if_pos, if_neg, if_true, if_false, Option.bind_some, b2_0, b2_n0, b2_1, b2_n1, Bool.true_eq_false, Bool.false_eq_true, b2_t, b2_f, e1, e2, h, h2]
      · have hin : f_X10_in N (nI k) (0 : Int32) (2 : Int32) = 1 := inR_yes (n := 2) (by decide) (by omega)
        unfold f_X10_tune
        rw [hin, if_neg (by decide)]
        rcases (by omega : k = 0 ∨ k = 1 ∨ k = 2) with rfl | rfl | rfl
        · rw [if_pos (by decide), if_neg (by decide)]
          exact h31 N 0 999 rfl rfl
        · rw [if_neg (by decide), if_pos (by decide)]
          exact h31 N 1 4 rfl rfl
        · rw [if_neg (by decide), if_neg (by decide)]
          exact h31 N 1 999 rfl rfl
  · have hno : ∀ i, i ≤ 2 → a1 ≠ nI i := fun i hi e => c1 ⟨i, by omega, e⟩
    refine ⟨-1, t, hT, fun N h => ⟨N, ?_, h, OC.refl⟩, fun N h => ⟨N, ?_, h, OC.refl⟩⟩
    · unfold f_X9_tune
      rcases pk_ix a1 (n := 3) (by decide) with h0 | h0 | ⟨i, hi, e⟩
      · rw [if_pos h0]
      · have h0 : (3 : Int32) ≤ a1 := h0
        by_cases hz : a1 < 0
        · rw [if_pos hz]
        · rw [if_neg hz, if_pos h0]
      · exact absurd e (hno i (by omega))
    · have hin : f_X10_in N a1 (0 : Int32) (2 : Int32) = 0 := inR_no (n := 2) (by decide) hno
      unfold f_X10_tune
      rw [hin, if_pos rfl]
