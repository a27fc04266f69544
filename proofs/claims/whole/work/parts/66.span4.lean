-- part 66: calls: span
def mny (L : LL) (q : Nat) : Nat := if q = 0 then 1 else if q = 1 then L.length else (L.length - 1) / 2 + 1
def spV (L : LL) (q : Nat) : Int32 := if q ≤ 2 then (if L.length = 0 then -9 else nI ((so L).getD (mny L q - 1) 0)) else nI (wst L q)
theorem onAt_nat {L : LL} {N : Mem} (hW : WL L) (hX : XL L N) {k : Nat} (hk : k < L.length) : f_X3_onAt N (nI k) = some (nI ((so L).getD k 0)) := by
  have h20 := hW.1
  have h1 := hX.1
  rw [so_len] at h1
  have h2 := hX.2.2.2 k (by rw [so_len]; exact hk)
  unfold f_X3_onAt
  simp (disch := omega) only [lit, ltI, leI, eqI, addI, mulI, subI, clI, ckI, if_pos, if_neg, if_true, if_false, Option.bind_some, b2_0, b2_n0, b2_1, b2_n1, Bool.true_eq_false, Bool.false_eq_true, b2_t, b2_f, h1, h2]
theorem spanX_nat {F q : Nat} {L : LL} {N : Mem} (hF : 4100 ≤ F) (hW : WL L) (hX : XL L N) (hq : q ≤ 4) : f_X9_span F N (nI q) = some (spV L q) := by
  have h20 := hW.1
  have h1 := hX.1
  rw [so_len] at h1
  have hsz : f_X3_size N = nI L.length := h1
  unfold f_X9_span spV
  rw [wasteU_nat hF hW hX, wasteL_nat hF hW hX, hsz]
  rcases (by omega : q = 0 ∨ q = 1 ∨ q = 2 ∨ q = 3 ∨ q = 4) with rfl | rfl | rfl | rfl | rfl
  · by_cases c : L.length = 0
    · rw [c]; rfl
    · have := onAt_nat hW hX (k := 0) (by omega)
      simp (disch := omega) only [lit, ltI, leI, eqI, addI, mulI, subI, clI, ckI, if_pos, if_neg, if_true, if_false, Option.bind_some, b2_0, b2_n0, b2_1, b2_n1, Bool.true_eq_false, Bool.false_eq_true, b2_t, b2_f, c, this]
      rfl
  · by_cases c : L.length = 0
    · rw [c]; rfl
    · have := onAt_nat hW hX (k := L.length - 1) (by omega)
      simp (disch := omega) only [lit, ltI, leI, eqI, addI, mulI, subI, clI, ckI, if_pos, if_neg, if_true, if_false, Option.bind_some, b2_0, b2_n0, b2_1, b2_n1, Bool.true_eq_false, Bool.false_eq_true, b2_t, b2_f, c, this]
      rfl
  · by_cases c : L.length = 0
    · rw [c]; rfl
    · have := onAt_nat hW hX (k := (L.length - 1) / 2) (by omega)
      simp (disch := omega) only [lit, ltI, leI, eqI, addI, mulI, subI, clI, ckI, if_pos, if_neg, if_true, if_false, Option.bind_some, b2_0, b2_n0, b2_1, b2_n1, Bool.true_eq_false, Bool.false_eq_true, b2_t, b2_f, c, divI, this]
      rfl
  · rfl
  · rfl
theorem spanR_nat {F q : Nat} {L : LL} {N : Mem} (hF : 4100 ≤ F) (hW : WL L) (hY : YL L N) (hq : q ≤ 4) : f_X10_span F N (nI q) = some (spV L q) := by
  have h20 := hW.1
  have hin : f_X10_in N (nI q) (0 : Int32) (4 : Int32) = 1 := inR_yes (n := 4) (by decide) hq
  have hlp : ∀ m, 1 ≤ m → m ≤ L.length → f_X10_span_137 F N F (nI m) (nI 0) = some (nI ((so L).getD (m - 1) 0)) := fun m a b => span_loop hF hW hY a b ((so L).getD (m - 1) 0) 0 F (by omega) (by have := so_lt hW (j := m - 1) (by rw [so_len]; omega); omega)
  unfold f_X10_span spV
  rw [hin, hY.1]
  simp only [vlet]
  rcases (by omega : q = 0 ∨ q = 1 ∨ q = 2 ∨ q = 3 ∨ q = 4) with rfl | rfl | rfl | rfl | rfl
  · by_cases c : L.length = 0
    · rw [c]; rfl
    · have := hlp 1 (by omega) (by omega)
      simp (disch := omega) only [lit, ltI, leI, eqI, addI, mulI, subI, clI, ckI, if_pos, if_neg, if_true, if_false, Option.bind_some, b2_0, b2_n0, b2_1, b2_n1, Bool.true_eq_false, Bool.false_eq_true, b2_t, b2_f, c, this]
      rfl
  · by_cases c : L.length = 0
    · rw [c]; rfl
    · have := hlp L.length (by omega) (by omega)
      simp (disch := omega) only [lit, ltI, leI, eqI, addI, mulI, subI, clI, ckI, if_pos, if_neg, if_true, if_false, Option.bind_some, b2_0, b2_n0, b2_1, b2_n1, Bool.true_eq_false, Bool.false_eq_true, b2_t, b2_f, c, this]
      rfl
  · by_cases c : L.length = 0
    · rw [c]; rfl
    · have := hlp ((L.length - 1) / 2 + 1) (by omega) (by omega)
      simp (disch := omega) only [lit, ltI, leI, eqI, addI, mulI, subI, clI, ckI, if_pos, if_neg, if_true, if_false, Option.bind_some, b2_0, b2_n0, b2_1, b2_n1, Bool.true_eq_false, Bool.false_eq_true, b2_t, b2_f, c, divI, this]
      rfl
  · exact sums_loop (F := F) (q := 3) hF hW hY (Or.inl rfl) L.length 0 F (by omega) (by omega)
  · exact sums_loop (F := F) (q := 4) hF hW hY (Or.inr rfl) L.length 0 F (by omega) (by omega)
theorem span_pair {F : Nat} {L : LL} (hF : 4100 ≤ F) (hW : WL L) (a1 : Int32) : ∃ v, (∀ N, XL L N → f_X9_span F N a1 = some v) ∧ (∀ N, YL L N → f_X10_span F N a1 = some v) := by
  rcases range_any a1 (n := 4) (by decide) with ⟨q, hq, rfl⟩ | h0 | ⟨h0, h1, h2⟩
  · exact ⟨spV L q, fun N hX => spanX_nat hF hW hX hq, fun N hY => spanR_nat hF hW hY hq⟩
  · refine ⟨-1, fun N hX => ?_, fun N hY => ?_⟩
    · unfold f_X9_span
      rw [if_pos h0]
    · unfold f_X10_span f_X10_in
      rw [if_pos h0, if_pos rfl]
  · have h1 : (4 : Int32) < a1 := h1
    have h2 : ¬ a1 ≤ (4 : Int32) := h2
    refine ⟨-1, fun N hX => ?_, fun N hY => ?_⟩
    · unfold f_X9_span
      rw [if_neg h0, if_neg h2]
    · unfold f_X10_span f_X10_in
      rw [if_neg h0, if_pos h1, if_pos rfl]
