-- part 41: the class's planner: prepare
def PF (N N' : Mem) : Prop := (∀ c, c < 17 ∨ 21 < c → N'.1 c = N.1 c) ∧ ∀ c, c < 22 ∨ 24 < c → N'.2 c = N.2 c
theorem PF.refl {N : Mem} : PF N N := ⟨fun _ _ => rfl, fun _ _ => rfl⟩
theorem PF.trans {A B C : Mem} (h1 : PF A B) (h2 : PF B C) : PF A C := ⟨fun c a1 => (h2.1 c a1).trans (h1.1 c a1), fun c a1 => (h2.2 c a1).trans (h1.2 c a1)⟩
theorem setL_ne {N : Mem} {c k d : Nat} {v : Int64} (h : d ≠ c) : (setL N c k v).2 d = N.2 d := if_neg h
theorem setL_at {N : Mem} {c k : Nat} {v : Int64} : (setL N c k v).2 c k = v := by rw [setL_self, updL_at]
theorem setL_nk {N : Mem} {c k j : Nat} {v : Int64} (h : j ≠ k) : (setL N c k v).2 c j = N.2 c j := by rw [setL_self, updL_ne h]
theorem setL_1 {N : Mem} {c k : Nat} {v : Int64} : (setL N c k v).1 = N.1 := rfl
theorem PF.arr {N : Mem} {c k : Nat} {v : Int32} (h : 17 ≤ c ∧ c ≤ 21) : PF N (setI N c k v) := ⟨fun d a1 => setI_ne (by omega), fun d _ => rfl⟩
theorem PF.lng {N : Mem} {c k : Nat} {v : Int64} (h : 22 ≤ c ∧ c ≤ 24) : PF N (setL N c k v) := ⟨fun d _ => rfl, fun d a1 => setL_ne (by omega)⟩
theorem HX.pf {J : Jr} {N N' : Mem} (h : HX J N 3) (f : PF N N') : HX J N' 3 := h.same (f.1 3 (by decide)) (f.1 4 (by decide)) (f.1 5 (by decide)) (f.1 6 (by decide))
/-- a day's pairs as the planner holds them -/
def DP (J : Jr) (s : Nat) (N : Mem) (d : Nat) : Prop := N.1 19 d = nI (pairL J s d 36).length ∧ ∀ j, j < (pairL J s d 36).length → N.1 18 (9 * d + j) = nI ((pairL J s d 36).getD j 0)
theorem pairL_pre {J : Jr} {s d k : Nat} (hk : k ≤ 36) : pairL J s d k <+: pairL J s d 36 := by
  obtain ⟨m, hm⟩ : ∃ m, 36 = k + m := ⟨36 - k, by omega⟩
  rw [hm]
  unfold pairL
  rw [List.range_add, List.filter_append]
  exact List.prefix_append _ _
theorem dp_done {J : Jr} {s d : Nat} {N : Mem} (hp : ∀ e, e < d → DP J s N e) (h : ∀ j, j < (pairL J s d 36).length → N.1 18 (9 * d + j) = nI ((pairL J s d 36).getD j 0)) : ∀ e, e < d + 1 → DP J s (setI N 19 d (nI (pairL J s d 36).length)) e := by
  intro e he
  by_cases c : e = d
  · subst c
    exact ⟨setI_at, fun j hj => by rw [setI_ne (by decide)]; exact h j hj⟩
  · obtain ⟨h1, h2⟩ := hp e (by omega)
    exact ⟨by rw [setI_nk c]; exact h1, fun j hj => by rw [setI_ne (by decide)]; exact h2 j hj⟩
theorem two_bits {a b i j : Nat} (ha : a < 2 ^ 31) (hb : b < 2 ^ 31) (hi : i < 32) (hj : j < 32) : ((nI a >>> (nI i &&& nI 31)) &&& (nI b >>> (nI j &&& nI 31))) &&& nI 1 = b2 (a.testBit i && b.testBit j) := by
  rw [nI_shr ha hi, nI_shr hb hj, nI_and, nI_and, Nat.and_one_is_mod, tb, tb]
  have h := Nat.and_mod_two_pow (a := a / 2 ^ i) (b := b / 2 ^ j) (n := 1)
  rw [Nat.pow_one] at h
  rw [h]
  have h1 := Nat.mod_lt (a / 2 ^ i) (show 0 < 2 by decide)
  have h2 := Nat.mod_lt (b / 2 ^ j) (show 0 < 2 by decide)
  rcases (by omega : a / 2 ^ i % 2 = 0 ∨ a / 2 ^ i % 2 = 1) with e | e <;> rcases (by omega : b / 2 ^ j % 2 = 0 ∨ b / 2 ^ j % 2 = 1) with f | f <;> rw [e, f] <;> rfl
theorem prep_in {J : Jr} (hW : WJ J) {F s d : Nat} {K : Int32 → Int32 → Int32 → Int32 → Mem → Option Mem} (hs : s < 64) (hd : d < nD J) :
    ∀ (m k n : Nat) (N : Mem), k + m = 36 → m < n → HX J N 3 → (∀ e, e < d → DP J s N e) → (∀ j, j < (pairL J s d k).length → N.1 18 (9 * d + j) = nI ((pairL J s d k).getD j 0)) →
      ∃ N', f_X5_prepare_80 F K n (nI (s &&& topsB J)) (nI (s &&& botsB J)) (nI (warm J s)) (nI d) (nI (pairL J s d k).length) (nI k) N = K (nI (s &&& topsB J)) (nI (s &&& botsB J)) (nI (warm J s)) (nI (d + 1)) N' ∧ (∀ e, e < d + 1 → DP J s N' e) ∧ N'.1 17 = N.1 17 ∧ PF N N'
  | 0, k, n + 1, N, hk, _, hJ, hp, hq => by
    have h8 := hW.2.1
    have hk36 : k = 36 := by omega
    subst hk36
    refine ⟨setI N 19 d (nI (pairL J s d 36).length), ?_, dp_done hp hq, setI_ne (by decide), PF.arr (by decide)⟩
    rw [f_X5_prepare_80]
    simp only [vlet]
    simp (disch := omega) only [lit, ltI, leI, eqI, addI, mulI, subI, clI, ckI, if_pos, if_neg, if_true, if_false, Option.bind_some, b2_0, b2_n0, b2_1, b2_n1, Bool.true_eq_false, Bool.false_eq_true, b2_t, b2_f]
  | m + 1, k, n + 1, N, hk, hn, hJ, hp, hq => by
    have h8 := hW.2.1
    have hlen := pair_len hW s d k (by omega)
    have h36 := pair_len hW s d 36 (by decide)
    have hst : s &&& topsB J < 2 ^ 31 := Nat.lt_of_le_of_lt Nat.and_le_left (by omega)
    have hsb : s &&& botsB J < 2 ^ 31 := Nat.lt_of_le_of_lt Nat.and_le_left (by omega)
    by_cases c9 : (pairL J s d k).length = 9
    · have hpre := pairL_pre (J := J) (s := s) (d := d) (k := k) (by omega)
      have he : pairL J s d k = pairL J s d 36 := hpre.eq_of_length (by have := hpre.length_le; omega)
      rw [he] at c9 hq ⊢
      refine ⟨setI N 19 d (nI (pairL J s d 36).length), ?_, dp_done hp hq, setI_ne (by decide), PF.arr (by decide)⟩
      rw [f_X5_prepare_80]
      simp only [vlet]
      simp (disch := omega) only [lit, ltI, leI, eqI, addI, mulI, subI, clI, ckI, if_pos, if_neg, if_true, if_false, Option.bind_some, b2_0, b2_n0, b2_1, b2_n1, Bool.true_eq_false, Bool.false_eq_true, b2_t, b2_f]
    · rw [f_X5_prepare_80]
      simp only [vlet]
      simp (disch := omega) only [lit, ltI, leI, eqI, addI, mulI, subI, clI, ckI, if_pos, if_neg, if_true, if_false, Option.bind_some, b2_0, b2_n0, b2_1, b2_n1, Bool.true_eq_false, Bool.false_eq_true, b2_t, b2_f, divI, sub6, two_bits]
      have hS1 := pairL_S (J := J) (s := s) (d := d) (n := k)
      have ih := prep_in hW (F := F) (K := K) hs hd m (k + 1) n
      unfold suitP at hS1
      by_cases c : ((s &&& topsB J).testBit (k / 6) && (s &&& botsB J).testBit (k % 6)) = true
      · have c' := c
        rw [Nat.testBit_and, Nat.testBit_and, tops_bit, bots_bit] at c'
        simp only [Bool.and_eq_true, decide_eq_true_eq] at c'
        obtain ⟨⟨c1, c2, c3⟩, c4, c5, c6⟩ := c'
        rw [c]
        simp (disch := omega) only [lit, ltI, leI, eqI, addI, mulI, subI, clI, ckI, if_pos, if_neg, if_true, if_false, Option.bind_some, b2_0, b2_n0, b2_1, b2_n1, Bool.true_eq_false, Bool.false_eq_true, b2_t, b2_f, suits_nat hJ hW hd c2 c5 c1 c4 c3 c6]
        cases hsu : suitsB J s d (k / 6) (k % 6)
        · rw [hsu, if_neg (by decide)] at hS1
          rw [hS1] at ih
          simp (disch := omega) only [lit, ltI, leI, eqI, addI, mulI, subI, clI, ckI, if_pos, if_neg, if_true, if_false, Option.bind_some, b2_0, b2_n0, b2_1, b2_n1, Bool.true_eq_false, Bool.false_eq_true, b2_t, b2_f]
          exact ih N (by omega) (by omega) hJ hp hq
        · rw [hsu, if_pos rfl] at hS1
          have h9 := pair_len hW s d (k + 1) (by omega)
          rw [hS1, List.length_append, List.length_singleton] at h9
          rw [hS1] at ih
          simp (disch := omega) only [lit, ltI, leI, eqI, addI, mulI, subI, clI, ckI, if_pos, if_neg, if_true, if_false, Option.bind_some, b2_0, b2_n0, b2_1, b2_n1, Bool.true_eq_false, Bool.false_eq_true, b2_t, b2_f]
          have hf : PF N (setI N 18 (d * 9 + (pairL J s d k).length) (nI k)) := PF.arr (by decide)
          obtain ⟨N', a1, a2, a3, a4⟩ := ih (setI N 18 (d * 9 + (pairL J s d k).length) (nI k)) (by omega) (by omega) (hJ.pf hf) (fun e he => by
            have := pair_len hW s e 36 (by decide)
            obtain ⟨h1, h2⟩ := hp e he
            exact ⟨by rw [setI_ne (by decide)]; exact h1, fun j hj => by rw [setI_nk (by omega)]; exact h2 j hj⟩) (fun j hj => by
            rw [List.length_append, List.length_singleton] at hj
            by_cases e : j = (pairL J s d k).length
            · subst e; rw [Nat.mul_comm 9 d, setI_at, getD_app]
            · rw [setI_nk (by omega), getD_lt (by omega)]; exact hq j (by omega))
          rw [List.length_append, List.length_singleton] at a1
          exact ⟨N', a1, a2, a3.trans (setI_ne (by decide)), hf.trans a4⟩
      · have c0 : ((s &&& topsB J).testBit (k / 6) && (s &&& botsB J).testBit (k % 6)) = false := Bool.eq_false_iff.mpr c
        have hsu : suitsB J s d (k / 6) (k % 6) = false := by
          rw [Bool.eq_false_iff]
          intro h
          apply c
          unfold suitsB at h
          simp only [Bool.and_eq_true, decide_eq_true_eq] at h
          rw [Nat.testBit_and, Nat.testBit_and, tops_bit, bots_bit]
          simp [h.1.1.1.1.1.1.1.1.1, h.1.1.1.1.1.1.1.1.2, h.1.1.1.1.1.1.1.2, h.1.1.1.1.1.1.2, h.1.1.1.1.1.2, h.1.1.1.1.2]
        rw [hsu, if_neg (by decide)] at hS1
        rw [hS1] at ih
        rw [c0]
        simp (disch := omega) only [lit, ltI, leI, eqI, addI, mulI, subI, clI, ckI, if_pos, if_neg, if_true, if_false, Option.bind_some, b2_0, b2_n0, b2_1, b2_n1, Bool.true_eq_false, Bool.false_eq_true, b2_t, b2_f]
        exact ih N (by omega) (by omega) hJ hp hq
  | _, _, 0, _, _, hn, _, _, _ => absurd hn (Nat.not_lt_zero _)
theorem prep_out {J : Jr} (hW : WJ J) {F s : Nat} (hF : 100 ≤ F) (hs : s < 64) :
    ∀ (m d n : Nat) (N : Mem), d + m = nD J → m < n → HX J N 3 → (∀ e, e < d → DP J s N e) →
      ∃ N', f_X5_prepare_55 F n (nI (s &&& topsB J)) (nI (s &&& botsB J)) (nI (warm J s)) (nI d) N = some N' ∧ (∀ e, e < nD J → DP J s N' e) ∧ N'.1 17 = N.1 17 ∧ PF N N'
  | 0, d, n + 1, N, hd, _, hJ, hp => by
    have h8 := hW.2.1
    have hdd : d = nD J := by omega
    subst hdd
    refine ⟨N, ?_, hp, rfl, PF.refl⟩
    rw [f_X5_prepare_55, show f_X8_days N 3 = nI (nD J) from hJ.2.1]
    simp (disch := omega) only [lit, ltI, leI, eqI, addI, mulI, subI, clI, ckI, if_pos, if_neg, if_true, if_false, Option.bind_some, b2_0, b2_n0, b2_1, b2_n1, Bool.true_eq_false, Bool.false_eq_true, b2_t, b2_f]
  | m + 1, d, n + 1, N, hd, hn, hJ, hp => by
    have h8 := hW.2.1
    obtain ⟨N', a1, a2, a3, a4⟩ := prep_in hW (F := F) (K := fun y3 y4 y5 y6 N => f_X5_prepare_55 F n y3 y4 y5 y6 N) hs (show d < nD J by omega) 36 0 F N rfl (by omega) hJ hp (fun j hj => absurd hj (Nat.not_lt_zero _))
    obtain ⟨N2, b1, b2', b3, b4⟩ := prep_out hW (F := F) hF hs m (d + 1) n N' (by omega) (by omega) (hJ.pf a4) a2
    refine ⟨N2, ?_, b2', b3.trans a3, a4.trans b4⟩
    rw [f_X5_prepare_55, show f_X8_days N 3 = nI (nD J) from hJ.2.1]
    simp (disch := omega) only [lit, ltI, leI, eqI, addI, mulI, subI, clI, ckI, if_pos, if_neg, if_true, if_false, Option.bind_some, b2_0, b2_n0, b2_1, b2_n1, Bool.true_eq_false, Bool.false_eq_true, b2_t, b2_f]
    exact a1.trans b1
  | _, _, 0, _, _, hn, _, _ => absurd hn (Nat.not_lt_zero _)
/-- the planner is ready for a set and a weather -/
def PR (J : Jr) (s w : Nat) (N : Mem) : Prop := (∀ d, d < 8 → ((N.1 17 8) >>> (nI d &&& 31)) &&& 1 = b2 (soakB J s w d)) ∧ ∀ d, d < nD J → DP J s N d
theorem coat_and {J : Jr} {s : Nat} : (s &&& coatsB J = 0) = (hasCoat J s = false) := by
  have h : ∀ n, coatTo J s n = false ↔ ∀ i, i < n → (s.testBit i && isK J 2 i) = false := by
    intro n
    induction n with
    | zero => simp [coatTo]
    | succ n ih =>
      unfold coatTo
      rw [Bool.or_eq_false_iff, ih]
      constructor
      · rintro ⟨h1, h2⟩ i hi
        by_cases e : i = n
        · subst e; exact h2
        · exact h1 i (by omega)
      · intro h
        exact ⟨fun i hi => h i (by omega), h n (by omega)⟩
  apply propext
  unfold hasCoat
  rw [h]
  constructor
  · intro e i hi
    have := congrArg (fun x => x.testBit i) e
    simp only [Nat.testBit_and, coats_bit, Nat.zero_testBit] at this
    simpa [hi] using this
  · intro h
    apply Nat.eq_of_testBit_eq
    intro i
    rw [Nat.testBit_and, coats_bit, Nat.zero_testBit]
    by_cases hi : i < nT J
    · simpa [hi] using h i hi
    · simp [hi]
theorem prepare_nat {J : Jr} (hW : WJ J) {F s w : Nat} {xw : Int32} {N : Mem} (hw : wea xw w) (hF : 100 ≤ F) (hs : s < 64) (hJ : HX J N 3) :
    ∃ N', f_X5_prepare F N (nI s) xw = some N' ∧ PR J s w N' ∧ PF N N' := by
  have key : ∀ t0 : Int32, (∀ d, d < 8 → (t0 >>> (nI d &&& 31)) &&& 1 = b2 (soakB J s w d)) → ∃ N', f_X5_prepare_18 F (nI s) t0 N = some N' ∧ PR J s w N' ∧ PF N N' := by
    intro t0 ht
    have hf : PF N (setI N 17 8 t0) := PF.arr (by decide)
    have hJ' := hJ.pf hf
    obtain ⟨N', a1, a2, a3, a4⟩ := prep_out hW (F := F) hF hs (nD J) 0 F (setI N 17 8 t0) (by omega) (by have := hW.2.1; omega) hJ' (fun e he => absurd he (Nat.not_lt_zero _))
    refine ⟨N', ?_, ⟨fun d hd => by rw [a3, setI_at]; exact ht d hd, a2⟩, hf.trans a4⟩
    unfold f_X5_prepare_18
    simp only [vlet]
    rw [warmest_nat hJ' hW hs (by omega), Option.bind_some, show f_X8_tops (setI N 17 8 t0) 3 = nI (topsB J) from hJ'.2.2.2.1, show f_X8_bottoms (setI N 17 8 t0) 3 = nI (botsB J) from hJ'.2.2.2.2.1, nI_and, nI_and]
    exact a1
  unfold f_X5_prepare
  have h31 : s &&& coatsB J < 2 ^ 31 := Nat.lt_of_le_of_lt Nat.and_le_left (by omega)
  rw [show f_X8_coats N 3 = nI (coatsB J) from hJ.2.2.2.2.2.1, nI_and]
  simp (disch := omega) only [lit, eqI, coat_and]
  cases hc : hasCoat J s
  · rw [if_pos rfl]
    refine key xw (fun d hd => ?_)
    rw [hw d hd]
    unfold soakB
    rw [hc]
    simp
  · rw [if_neg (by decide)]
    refine key 0 (fun d hd => ?_)
    unfold soakB
    rw [hc]
    have h0 := bit1' (s := 0) (i := d) (by decide) (by omega)
    have h0 : ((0 : Int32) >>> (nI d &&& 31)) &&& 1 = b2 ((0 : Nat).testBit d) := h0
    rw [h0]
    simp
