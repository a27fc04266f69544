-- part 40: the reference's findPlan
def FR (N N' : Mem) : Prop := (∀ c, c ≠ 36 → (c < 48 ∨ 56 < c) → N'.1 c = N.1 c) ∧ (∀ k, k ≠ 22 → k ≠ 23 → N'.1 36 k = N.1 36 k) ∧ N'.2 = N.2
theorem FR.refl {N : Mem} : FR N N := ⟨fun _ _ _ => rfl, fun _ _ _ => rfl, rfl⟩
theorem FR.trans {A B C : Mem} (h1 : FR A B) (h2 : FR B C) : FR A C := ⟨fun c a1 a2 => (h2.1 c a1 a2).trans (h1.1 c a1 a2), fun k a1 a2 => (h2.2.1 k a1 a2).trans (h1.2.1 k a1 a2), h2.2.2.trans h1.2.2⟩
theorem FS.fr {N N' : Mem} (h : FS N N') : FR N N' := ⟨fun c a1 a2 => h.1 c a1 (by omega) (by omega) (by omega) (by omega), h.2.1, h.2.2⟩
theorem FR.arr {N : Mem} {c k : Nat} {v : Int32} (h : 48 ≤ c ∧ c ≤ 56) : FR N (setI N c k v) := ⟨fun d a1 a2 => setI_ne (by omega), fun j _ _ => by rw [setI_ne (by omega)], rfl⟩
theorem HJ.fr {J : Jr} {N N' : Mem} (h : HJ J N) (f : FR N N') : HJ J N' := h.same (f.1 38 (by decide) (by decide)) (f.1 41 (by decide) (by decide)) (f.1 39 (by decide) (by decide)) (f.1 42 (by decide) (by decide)) (f.1 40 (by decide) (by decide))
/-- the plan as the reference holds it -/
def PA (N : Mem) (l : List Nat) : Prop := ∀ j, j < l.length → N.1 52 j = nI (l.getD j 0 / 12) ∧ N.1 53 j = nI (l.getD j 0 / 2 % 6) ∧ N.1 54 j = nI (l.getD j 0 % 2)
theorem PA.fs {N N' : Mem} {l : List Nat} (h : PA N l) (f : FS N N') : PA N' l := fun j hj => by
  rw [f.1 52 (by decide) (by decide) (by decide) (by decide) (by decide), f.1 53 (by decide) (by decide) (by decide) (by decide) (by decide), f.1 54 (by decide) (by decide) (by decide) (by decide) (by decide)]
  exact h j hj
def setP (N : Mem) (d k : Nat) : Mem := setI (setI (setI N 52 d (nI (k / 12))) 53 d (nI (k / 2 % 6))) 54 d (nI (k % 2))
theorem setP_fr {N : Mem} {d k : Nat} : FR N (setP N d k) := ((FR.arr (by decide)).trans (FR.arr (by decide))).trans (FR.arr (by decide))
theorem setP_PA {N : Mem} {k : Nat} {l : List Nat} (h : PA N l) : PA (setP N l.length k) (l ++ [k]) := by
  intro j hj
  rw [List.length_append, List.length_singleton] at hj
  unfold setP
  by_cases e : j = l.length
  · subst e
    rw [getD_app]
    refine ⟨?_, ?_, ?_⟩
    · rw [setI_ne (by decide), setI_ne (by decide), setI_at]
    · rw [setI_ne (by decide), setI_at]
    · rw [setI_at]
  · rw [getD_lt (by omega)]
    obtain ⟨h1, h2, h3⟩ := h j (by omega)
    refine ⟨?_, ?_, ?_⟩
    · rw [setI_ne (by decide), setI_ne (by decide), setI_nk e]
      exact h1
    · rw [setI_ne (by decide), setI_nk e, setI_ne (by decide)]
      exact h2
    · rw [setI_nk e, setI_ne (by decide), setI_ne (by decide)]
      exact h3
theorem setP_stp {N : Mem} {d k S : Nat} (h : STP N S) : STP (setP N d k) S := h.fs (by unfold setP; rw [setI_ne (by decide), setI_ne (by decide), setI_ne (by decide)]) (by unfold setP; rw [setI_ne (by decide), setI_ne (by decide), setI_ne (by decide)])
theorem k26 (k : Nat) : k / 2 / 6 = k / 12 := by omega
theorem sub6' (k : Nat) : k / 2 - k / 12 * 6 = k / 2 % 6 := by omega
theorem sub2 (k : Nat) : k - k / 2 * 2 = k % 2 := by omega
theorem plan_step {J : Jr} (hW : WJ J) {F s w d x k S n : Nat} {xw : Int32} {N : Mem} {K : Int32 → Int32 → Int32 → Int32 → Mem → Option (Int32 × Mem)} (hw : wea xw w) (hF : 4100 ≤ F) (hs : s < 64) (hd : d < nD J) (hx : okH J s x) (hk : k < 72) (hS : S + 8 < 2 ^ 31) (hJ : HJ J N) (hst : STP N S) :
    ∃ N' S', STP N' S' ∧ S' ≤ S + 8 ∧ FS N N' ∧ f_X10_findPlan_58 F K (n + 1) (nI s) xw (nI x) (nI d) (b2 (soakB J s w d)) (nI k) (nI 0) N = if goodK J s w (nD J - (d + 1)) d x k = true then f_X10_findPlan_58 F K n (nI s) xw (nI (nx J s w d x (k / 2) (k % 2))) (nI d) (b2 (soakB J s w d)) (nI (k + 1)) (nI 1) (setP N' d k) else f_X10_findPlan_58 F K n (nI s) xw (nI x) (nI d) (b2 (soakB J s w d)) (nI (k + 1)) (nI 0) N' := by
  have h8 := hW.2.1
  have hdd := (hW.2.2.2.1 d hd).2.2.1
  have e2 := hJ.2.2.2.1 d hd 2 (by decide)
  have hx1 := hx.1
  have hmw := mayWear_nat (F := F) hJ hW hs (show 7 ≤ F by omega) hd (show k / 12 < 6 by omega) (show k / 2 % 6 < 6 by omega)
  have hno : ∀ y8 y9, f_X10_findPlan_134 F (fun y1 y2 y3 y4 y5 y6 y7 N => f_X10_findPlan_58 F K n y1 y2 y3 y4 y5 y6 y7 N) (nI s) xw (nI x) (nI d) (b2 (soakB J s w d)) (nI k) y8 y9 (nI 0) N = f_X10_findPlan_58 F K n (nI s) xw (nI x) (nI d) (b2 (soakB J s w d)) (nI (k + 1)) (nI 0) N := by
    intro y8 y9
    unfold f_X10_findPlan_134 f_X10_findPlan_161 f_X10_findPlan_188
    simp (disch := omega) only [lit, ltI, leI, eqI, addI, mulI, subI, clI, ckI, if_pos, if_neg, if_true, if_false, Option.bind_some, b2_0, b2_n0, b2_1, b2_n1, Bool.true_eq_false, Bool.false_eq_true, b2_t, b2_f]
  have hgood : goodK J s w (nD J - (d + 1)) d x k = (decide (k % 2 ≤ df J d 2) && (suitsB J s d (k / 12) (k / 2 % 6) && rdy x (k / 12) && rdy x (k / 2 % 6)) && lives J s w (nD J - (d + 1)) (d + 1) (nx J s w d x (k / 2) (k % 2))) := by
    unfold goodK okP suitP
    rw [k26]
  by_cases hall : k % 2 ≤ df J d 2 ∧ suitsB J s d (k / 12) (k / 2 % 6) = true ∧ rdy x (k / 12) = true ∧ rdy x (k / 2 % 6) = true
  · obtain ⟨c1, c2, c3, c4⟩ := hall
    have hokp : okP J s d x (k / 2) = true := by unfold okP suitP; rw [k26, c2, c3, c4]; rfl
    obtain ⟨q1, q2, q3, q4, q5, -, -⟩ := okP_of hokp
    rw [k26] at q1
    have hbe := behind_nat (F := F) (ws := decide (k % 2 = 1)) (k := soakB J s w d) hJ hW (by omega) hs hx1 q1 q2
    have hnI : nI (k % 2) = b2 (decide (k % 2 = 1)) := nI_b2 (by omega)
    have hnx : nxt J s x (k / 12) (k / 2 % 6) (decide (k % 2 = 1)) (soakB J s w d) = nx J s w d x (k / 2) (k % 2) := by unfold nx; rw [k26]
    rw [hnx, ← hnI] at hbe
    obtain ⟨N2, S2, b1, b2', b3, b4⟩ := servesFrom_nat hW (F := F) hw hF hs (show d + 1 ≤ nD J by omega) (nx_ok (w := w) (c := k % 2) hW hx hokp) hS hJ hst
    refine ⟨N2, S2, b2', b3, b4, ?_⟩
    have hone : f_X10_findPlan_134 F (fun y1 y2 y3 y4 y5 y6 y7 N => f_X10_findPlan_58 F K n y1 y2 y3 y4 y5 y6 y7 N) (nI s) xw (nI x) (nI d) (b2 (soakB J s w d)) (nI k) (nI (k / 12)) (nI (k / 2 % 6)) (nI 1) N = if lives J s w (nD J - (d + 1)) (d + 1) (nx J s w d x (k / 2) (k % 2)) = true then f_X10_findPlan_58 F K n (nI s) xw (nI (nx J s w d x (k / 2) (k % 2))) (nI d) (b2 (soakB J s w d)) (nI (k + 1)) (nI 1) (setP N2 d k) else f_X10_findPlan_58 F K n (nI s) xw (nI x) (nI d) (b2 (soakB J s w d)) (nI (k + 1)) (nI 0) N2 := by
      unfold f_X10_findPlan_134 f_X10_findPlan_161 f_X10_findPlan_188
      simp only [vlet]
      simp (disch := omega) only [lit, ltI, leI, eqI, addI, mulI, subI, clI, ckI, if_pos, if_neg, if_true, if_false, Option.bind_some, b2_0, b2_n0, b2_1, b2_n1, Bool.true_eq_false, Bool.false_eq_true, b2_t, b2_f, divI, sub2, hbe, b1]
      cases lives J s w (nD J - (d + 1)) (d + 1) (nx J s w d x (k / 2) (k % 2))
      · simp (disch := omega) only [lit, ltI, leI, eqI, addI, mulI, subI, clI, ckI, if_pos, if_neg, if_true, if_false, Option.bind_some, b2_0, b2_n0, b2_1, b2_n1, Bool.true_eq_false, Bool.false_eq_true, b2_t, b2_f]
      · simp (disch := omega) only [lit, ltI, leI, eqI, addI, mulI, subI, clI, ckI, if_pos, if_neg, if_true, if_false, Option.bind_some, b2_0, b2_n0, b2_1, b2_n1, Bool.true_eq_false, Bool.false_eq_true, b2_t, b2_f] <;> rfl
    rw [f_X10_findPlan_58]
    simp only [vlet]
    simp (disch := omega) only [lit, ltI, leI, eqI, addI, mulI, subI, clI, ckI, if_pos, if_neg, if_true, if_false, Option.bind_some, b2_0, b2_n0, b2_1, b2_n1, Bool.true_eq_false, Bool.false_eq_true, b2_t, b2_f, e2, divI, k26, sub6', sub2, hmw, c2, wearable_nat, c3, c4, hone]
    rw [hgood, c2, c3, c4]
    simp [c1]
  · refine ⟨N, S, hst, by omega, FS.refl, ?_⟩
    have hg : goodK J s w (nD J - (d + 1)) d x k = false := by
      rw [hgood]
      rw [Bool.eq_false_iff]
      intro h
      simp only [Bool.and_eq_true, decide_eq_true_eq] at h
      exact hall ⟨h.1.1, h.1.2.1.1, h.1.2.1.2, h.1.2.2⟩
    rw [hg, if_neg (by decide), f_X10_findPlan_58]
    simp only [vlet]
    by_cases c1 : k % 2 ≤ df J d 2
    · cases c2 : suitsB J s d (k / 12) (k / 2 % 6)
      · simp (disch := omega) only [lit, ltI, leI, eqI, addI, mulI, subI, clI, ckI, if_pos, if_neg, if_true, if_false, Option.bind_some, b2_0, b2_n0, b2_1, b2_n1, Bool.true_eq_false, Bool.false_eq_true, b2_t, b2_f, e2, divI, k26, sub6', sub2, hmw, c2, hno]
      · cases c3 : rdy x (k / 12)
        · simp (disch := omega) only [lit, ltI, leI, eqI, addI, mulI, subI, clI, ckI, if_pos, if_neg, if_true, if_false, Option.bind_some, b2_0, b2_n0, b2_1, b2_n1, Bool.true_eq_false, Bool.false_eq_true, b2_t, b2_f, e2, divI, k26, sub6', sub2, hmw, c2, wearable_nat, c3, hno]
        · cases c4 : rdy x (k / 2 % 6)
          · simp (disch := omega) only [lit, ltI, leI, eqI, addI, mulI, subI, clI, ckI, if_pos, if_neg, if_true, if_false, Option.bind_some, b2_0, b2_n0, b2_1, b2_n1, Bool.true_eq_false, Bool.false_eq_true, b2_t, b2_f, e2, divI, k26, sub6', sub2, hmw, c2, wearable_nat, c3, c4, hno]
          · exact absurd ⟨c1, c2, c3, c4⟩ hall
    · simp (disch := omega) only [lit, ltI, leI, eqI, addI, mulI, subI, clI, ckI, if_pos, if_neg, if_true, if_false, Option.bind_some, b2_0, b2_n0, b2_1, b2_n1, Bool.true_eq_false, Bool.false_eq_true, b2_t, b2_f, e2, divI, k26, sub6', sub2, hno]
theorem plan_day {J : Jr} (hW : WJ J) {F s w d x kg : Nat} {xw : Int32} {K : Int32 → Int32 → Int32 → Int32 → Mem → Option (Int32 × Mem)} (hw : wea xw w) (hF : 4100 ≤ F) (hs : s < 64) (hd : d < nD J) (hx : okH J s x) (hkg : kg < 72) (hg : goodK J s w (nD J - (d + 1)) d x kg = true) (h0 : ∀ q, q < kg → goodK J s w (nD J - (d + 1)) d x q = false) :
    ∀ (m k n S : Nat) (N : Mem), k + m = kg → m + 1 < n → S + 8 * (m + 1) < 2 ^ 31 → HJ J N → STP N S →
      ∃ N' S', STP N' S' ∧ S' ≤ S + 8 * (m + 1) ∧ FS N N' ∧ f_X10_findPlan_58 F K n (nI s) xw (nI x) (nI d) (b2 (soakB J s w d)) (nI k) (nI 0) N = K (nI s) xw (nI (nx J s w d x (kg / 2) (kg % 2))) (nI (d + 1)) (setP N' d kg)
  | 0, k, n + 2, S, N, hk, _, hS, hJ, hst => by
    have hkk : k = kg := by omega
    subst hkk
    obtain ⟨N', S', a1, a2, a3, a4⟩ := plan_step hW (F := F) (n := n + 1) (K := K) hw hF hs hd hx hkg (by omega) hJ hst
    refine ⟨N', S', a1, by omega, a3, ?_⟩
    rw [a4, if_pos hg, f_X10_findPlan_58]
    have h8 := hW.2.1
    simp (disch := omega) only [lit, ltI, leI, eqI, addI, mulI, subI, clI, ckI, if_pos, if_neg, if_true, if_false, Option.bind_some, b2_0, b2_n0, b2_1, b2_n1, Bool.true_eq_false, Bool.false_eq_true, b2_t, b2_f]
  | m + 1, k, n + 1, S, N, hk, hn, hS, hJ, hst => by
    obtain ⟨N', S', a1, a2, a3, a4⟩ := plan_step hW (F := F) (n := n) (K := K) hw hF hs hd hx (show k < 72 by omega) (by omega) hJ hst
    obtain ⟨N2, S2, b1, b2', b3, b4⟩ := plan_day hW (F := F) (K := K) hw hF hs hd hx hkg hg h0 m (k + 1) n S' N' (by omega) (by omega) (by omega) (hJ.fs a3) a1
    refine ⟨N2, S2, b1, by omega, a3.trans b3, ?_⟩
    rw [a4, if_neg (by rw [h0 k (by omega)]; decide), b4]
  | _, _, 0, _, _, _, hn, _, _, _ => absurd hn (Nat.not_lt_zero _)
  | 0, _, 1, _, _, _, hn, _, _, _ => absurd hn (by omega)
theorem plan_days {J : Jr} (hW : WJ J) {F s w : Nat} {xw : Int32} (hw : wea xw w) (hF : 4100 ≤ F) (hs : s < 64) :
    ∀ (r d n S x : Nat) (acc : List Nat) (N : Mem), d + r = nD J → r < n → S + 600 * r < 2 ^ 31 → acc.length = d → okH J s x → lives J s w r d x = true → HJ J N → STP N S → PA N acc →
      ∃ N' S' l, f_X10_findPlan_16 F n (nI s) xw (nI x) (nI d) N = some (1, N') ∧ fp J s w r d x = some l ∧ PA N' (acc ++ l) ∧ STP N' S' ∧ S' ≤ S + 600 * r ∧ FR N N'
  | 0, d, n + 1, S, x, acc, N, hd, _, hS, ha, hx, hl, hJ, hst, hp => by
    have h8 := hW.2.1
    refine ⟨N, S, [], ?_, rfl, by rw [List.append_nil]; exact hp, hst, by omega, FR.refl⟩
    rw [f_X10_findPlan_16]
    simp (disch := omega) only [lit, ltI, leI, eqI, addI, mulI, subI, clI, ckI, if_pos, if_neg, if_true, if_false, Option.bind_some, b2_0, b2_n0, b2_1, b2_n1, Bool.true_eq_false, Bool.false_eq_true, b2_t, b2_f, hJ.2.1]
  | r + 1, d, n + 1, S, x, acc, N, hd, hn, hS, ha, hx, hl, hJ, hst, hp => by
    have h8 := hW.2.1
    obtain ⟨kg, hk72, hg, h0⟩ := lives_good hW (show d < nD J by omega) hl
    have hr : r = nD J - (d + 1) := by omega
    rw [hr] at hg h0
    obtain ⟨N1, S1, a1, a2, a3, a4⟩ := plan_day hW (F := F) (K := fun y1 y2 y3 y4 N => f_X10_findPlan_16 F n y1 y2 y3 y4 N) hw hF hs (show d < nD J by omega) hx hk72 hg h0 kg 0 F S N (by omega) (by omega) (by omega) hJ hst
    have hgg := hg
    unfold goodK at hgg
    simp only [Bool.and_eq_true, decide_eq_true_eq] at hgg
    obtain ⟨N2, S2, l, b1, b2', b3, b4, b5, b6⟩ := plan_days hW (F := F) hw hF hs r (d + 1) n S1 (nx J s w d x (kg / 2) (kg % 2)) (acc ++ [kg]) (setP N1 d kg) (by omega) (by omega) (by omega) (by rw [List.length_append, List.length_singleton, ha]) (nx_ok hW hx hgg.1.2) (by rw [hr]; exact hgg.2) ((hJ.fs a3).fr setP_fr) (setP_stp a1) (by rw [← ha]; exact setP_PA (hp.fs a3))
    refine ⟨N2, S2, kg :: l, ?_, ?_, by rw [List.append_assoc] at b3; exact b3, b4, by omega, (a3.fr.trans setP_fr).trans b6⟩
    · have a4 : f_X10_findPlan_58 F (fun y1 y2 y3 y4 N => f_X10_findPlan_16 F n y1 y2 y3 y4 N) F (nI s) xw (nI x) (nI d) (b2 (soakB J s w d)) (nI 0) (nI 0) N = f_X10_findPlan_16 F n (nI s) xw (nI (nx J s w d x (kg / 2) (kg % 2))) (nI (d + 1)) (setP N1 d kg) := a4
      rw [b1] at a4
      rw [f_X10_findPlan_16]
      rw [rain_nat (w := w) (hw d (by omega))]
      simp (disch := omega) only [lit, ltI, leI, eqI, addI, mulI, subI, clI, ckI, if_pos, if_neg, if_true, if_false, Option.bind_some, b2_0, b2_n0, b2_1, b2_n1, Bool.true_eq_false, Bool.false_eq_true, b2_t, b2_f, hJ.2.1, coatR_nat hJ hW]
      unfold soakB at a4
      cases hwd : w.testBit d
      · rw [hwd] at a4
        simp (disch := omega) only [lit, ltI, leI, eqI, addI, mulI, subI, clI, ckI, if_pos, if_neg, if_true, if_false, Option.bind_some, b2_0, b2_n0, b2_1, b2_n1, Bool.true_eq_false, Bool.false_eq_true, b2_t, b2_f]
        exact a4
      · rw [hwd] at a4
        cases hc : hasCoat J s
        · rw [hc] at a4
          simp (disch := omega) only [lit, ltI, leI, eqI, addI, mulI, subI, clI, ckI, if_pos, if_neg, if_true, if_false, Option.bind_some, b2_0, b2_n0, b2_1, b2_n1, Bool.true_eq_false, Bool.false_eq_true, b2_t, b2_f]
          exact a4
        · rw [hc] at a4
          simp (disch := omega) only [lit, ltI, leI, eqI, addI, mulI, subI, clI, ckI, if_pos, if_neg, if_true, if_false, Option.bind_some, b2_0, b2_n0, b2_1, b2_n1, Bool.true_eq_false, Bool.false_eq_true, b2_t, b2_f]
          exact a4
    · rw [← hr] at hg h0
      exact fp_first hW (by omega) hk72 hg h0 b2'
  | _, _, 0, _, _, _, _, _, hn, _, _, _, _, _, _, _ => absurd hn (Nat.not_lt_zero _)
/-- the reference's findPlan -/
theorem findPlan_nat {J : Jr} (hW : WJ J) {F s w S : Nat} {xw : Int32} {N : Mem} (hw : wea xw w) (hF : 4100 ≤ F) (hs : s < 64) (hS : S + 4900 < 2 ^ 31) (hJ : HJ J N) (hst : STP N S) :
    ∃ N' S', f_X10_findPlan F N (nI s) xw = some (b2 (serves J s w), N') ∧ (∀ l, fp J s w (nD J) 0 0 = some l → PA N' l) ∧ STP N' S' ∧ S' ≤ S + 4900 ∧ FR N N' := by
  have h8 := hW.2.1
  obtain ⟨N1, S1, a1, a2, a3, a4⟩ := isServing_nat hW (F := F) hw hF hs (by omega) hJ hst
  unfold f_X10_findPlan
  rw [a1, Option.bind_some]
  dsimp only
  cases hsv : serves J s w
  · refine ⟨N1, S1, if_pos b2_f, fun l hl => ?_, a2, by omega, a4.fr⟩
    unfold serves lives at hsv
    rw [hl] at hsv
    cases hsv
  · obtain ⟨N2, S2, l, b1, b2', b3, b4, b5, b6⟩ := plan_days hW (F := F) hw hF hs (nD J) 0 F S1 0 [] N1 (by omega) (by omega) (by omega) rfl okH_0 hsv (hJ.fs a4) a2 (fun j hj => absurd hj (Nat.not_lt_zero _))
    refine ⟨N2, S2, ?_, fun l' hl => ?_, b4, by omega, a4.fr.trans b6⟩
    · rw [if_neg b2_nt]
      exact b1
    · rw [b2'] at hl
      cases hl
      exact b3
