-- part 99c: pack: the reference's layers and troubles
def LYR (N N' : Mem) : Prop := (∀ c, c ≠ 55 → c ≠ 56 → N'.1 c = N.1 c) ∧ N'.2 = N.2
theorem LYR.refl {N : Mem} : LYR N N := ⟨fun _ _ _ => rfl, rfl⟩
theorem LYR.trans {A B C : Mem} (h1 : LYR A B) (h2 : LYR B C) : LYR A C := ⟨fun c a b => (h2.1 c a b).trans (h1.1 c a b), h2.2.trans h1.2⟩
theorem LYR.set {N : Mem} {c k : Nat} {x : Int32} (h : c = 55 ∨ c = 56) : LYR N (setI N c k x) := ⟨fun d h1 h2 => setI_ne (by omega), rfl⟩
theorem LYR.fr {N N' : Mem} (h : LYR N N') : FR N N' := ⟨fun c h1 h2 => h.1 c (by omega) (by omega), fun k _ _ => by rw [h.1 36 (by decide) (by decide)], h.2⟩
section PK
variable {J : Jr} {s L D : Nat} {fd : Nat → Nat} {F : Nat}
def FLp (J : Jr) (s L D c r : Nat) : Prop := ∀ j, j < 6 → r ≤ j → s.testBit j = true → (ly s c j < L ∧ us J s c (ly s c j) 6 - us J s c (ly s c j) j ≤ D)
theorem us_zero {c k : Nat} : ∀ n, (∀ j, j < n → ¬ (s.testBit j = true ∧ ly s c j = k)) → us J s c k n = 0
  | 0, _ => rfl
  | n + 1, h => by rw [us_S, us_zero n (fun j hj => h j (by omega)), if_neg (h n (by omega))]
theorem us_6 {c k i : Nat} (h : i ≤ 6) : us J s c k i ≤ us J s c k 6 := by
  have := us_mono (J := J) (s := s) (c := c) (k := k) (6 - i) i
  rwa [show i + (6 - i) = 6 by omega] at this
theorem FL_us {c : Nat} (h : FLp J s L D c 0) (k : Nat) : us J s c k 6 ≤ D := by
  by_cases e : ∃ j, j < 6 ∧ s.testBit j = true ∧ ly s c j = k
  · obtain ⟨j, ⟨h1, h2, h3⟩, hm⟩ := pk_least (fun j => j < 6 ∧ s.testBit j = true ∧ ly s c j = k) e
    have hz := us_zero (J := J) (s := s) (c := c) (k := k) j (fun q hq z => hm q hq ⟨by omega, z.1, z.2⟩)
    have := (h j h1 (Nat.zero_le _) h2).2
    rw [h3, hz, Nat.sub_zero] at this
    exact this
  · rw [us_zero 6 (fun j hj z => e ⟨j, hj, z⟩)]
    exact Nat.zero_le _
theorem okp_of {c : Nat} (h : FLp J s L D c 0) : ∀ n, n ≤ 6 → okp J s L D c n = true
  | 0, _ => rfl
  | n + 1, hn => by
    rw [okp_S, okp_of h n (by omega), Bool.true_and]
    cases hb : s.testBit n
    · rfl
    · have h1 := h n (by omega) (Nat.zero_le _) hb
      have h2 := FL_us h (ly s c n)
      have h3 := us_6 (J := J) (s := s) (c := c) (k := ly s c n) (i := n + 1) (by omega)
      rw [decide_eq_true h1.1, decide_eq_true (show us J s c (ly s c n) (n + 1) ≤ D by omega)]
      rfl
theorem okp_low {c : Nat} : ∀ (n j : Nat), okp J s L D c n = true → j < n → s.testBit j = true → ly s c j < L
  | 0, _, _, hj, _ => absurd hj (Nat.not_lt_zero _)
  | n + 1, j, h, hj, hb => by
    rw [okp_S, Bool.and_eq_true] at h
    by_cases e : j = n
    · subst e
      have h2 := h.2
      rw [hb] at h2
      simp at h2
      exact h2.1
    · exact okp_low n j h.1 (by omega) hb
theorem okp_FL {c : Nat} : okp J s L D c 6 = true ↔ FLp J s L D c 0 := by
  constructor
  · intro h j hj _ hb
    have := okp_us 6 h (ly s c j)
    exact ⟨okp_low 6 j h hj hb, by omega⟩
  · intro h
    exact okp_of h 6 (Nat.le_refl _)
theorem us_le (hW : WJ J) (hsT : ∀ j, s.testBit j = true → j < nT J) {c k : Nat} : ∀ n, us J s c k n ≤ 99 * n
  | 0 => Nat.le_refl _
  | n + 1 => by
    have ih := us_le hW hsT (c := c) (k := k) n
    rw [us_S]
    by_cases e : s.testBit n = true ∧ ly s c n = k
    · have := tf_le hW (hsT n e.1) (k := 3) (by decide)
      rw [if_pos e]
      omega
    · rw [if_neg e]
      omega
theorem mod4 (x : Nat) : x - x / 4 * 4 = x % 4 := by omega
theorem bb1 {b : Bool} : b2 b &&& 1 = b2 b := by cases b <;> rfl
theorem lay38_loop (hW : WJ J) (hs : s < 64) (hsT : ∀ j, s.testBit j = true → j < nT J) (hL4 : L ≤ 4) (hD : D ≤ 999) {c : Nat} (hc : c < 4096) :
    ∀ (r n : Nat) (N : Mem) (g : Bool), r ≤ nT J → r < n → (g = true ↔ FLp J s L D c r) → HJ J N → N.1 43 1 = nI L → N.1 43 2 = nI D → (∀ k, k < 4 → N.1 56 k = nI (us J s c k 6 - us J s c k r)) → (∀ j, r ≤ j → j < 6 → s.testBit j = true → N.1 55 j = nI (ly s c j)) →
      ∃ N', f_X10_lay_38 F n (nI s) (nI (c / 4 ^ cb s r)) (b2 g) (dI r) N = some (b2 (okp J s L D c 6), N') ∧ (∀ j, j < 6 → s.testBit j = true → N'.1 55 j = nI (ly s c j)) ∧ LYR N N'
  | 0, n + 1, N, g, _, _, hg, hJ, h1, h2, h56, h55 => by
    have e : g = okp J s L D c 6 := by
      rw [Bool.eq_iff_iff, okp_FL]
      exact hg
    refine ⟨N, ?_, fun j hj hb => h55 j (Nat.zero_le _) hj hb, LYR.refl⟩
    rw [f_X10_lay_38, if_pos (by decide), if_pos bb1, e]
  | i + 1, n + 1, N, g, hi, hn, hg, hJ, h1, h2, h56, h55 => by
    have h6 := hW.1
    have ih := lay38_loop hW hs hsT hL4 hD hc i n
    have hneg : ¬ dI (i + 1) < 0 := nI_pos (by omega)
    have hio : f_X10_isOf N (nI s) (nI i) = b2 (s.testBit i) := isOf_nat (by omega) (by omega)
    have hdI : nI i + (-1 : Int32) = dI i := dI_pred i
    have hq : c / 4 ^ cb s (i + 1) < 4096 := Nat.lt_of_le_of_lt (Nat.div_le_self _ _) hc
    have hcb := cb_S (s := s) (i := i) (by omega)
    rw [f_X10_lay_38, if_neg hneg, show dI (i + 1) = nI i from rfl, hio, hdI]
    cases hb : s.testBit i
    · rw [hb, if_neg (by decide), Nat.add_zero] at hcb
      rw [if_pos b2_f]
      have hus : ∀ k, us J s c k (i + 1) = us J s c k i := fun k => by rw [us_S, hb, if_neg (fun z => by cases z.1), Nat.add_zero]
      rw [← hcb]
      refine ih N g (by omega) (by omega) ?_ hJ h1 h2 (fun k hk => by rw [← hus k]; exact h56 k hk) (fun j hj1 hj2 hbj => ?_)
      · rw [hg]
        constructor
        · intro h j hj1 hj2 hbj
          by_cases e : j = i
          · rw [e, hb] at hbj; cases hbj
          · exact h j hj1 (by omega) hbj
        · intro h j hj1 hj2 hbj
          exact h j hj1 (by omega) hbj
      · by_cases e : j = i
        · rw [e, hb] at hbj; cases hbj
        · exact h55 j (by omega) hj2 hbj
    · rw [hb, if_pos rfl] at hcb
      have hl4 := ly_lt s c i
      have hit : i < nT J := hsT i hb
      have hz := (hW.2.2.1 i hit).2.2.2.1
      have hu6 := us_le hW hsT (c := c) (k := ly s c i) 6
      have hui := us_6 (J := J) (s := s) (c := c) (k := ly s c i) (i := i + 1) (by omega)
      have husi : us J s c (ly s c i) (i + 1) = us J s c (ly s c i) i + tf J i 3 := by rw [us_S, if_pos ⟨hb, rfl⟩]
      have hly : ly s c i = c / 4 ^ cb s (i + 1) % 4 := rfl
      have hdv : c / 4 ^ cb s (i + 1) / 4 = c / 4 ^ cb s i := by
        rw [hcb, Nat.pow_succ, Nat.div_div_eq_div_mul]
      have r1 : LYR N (setI N 55 i (nI (ly s c i))) := LYR.set (Or.inl rfl)
      have e55 : (setI N 55 i (nI (ly s c i))).1 55 i = nI (ly s c i) := setI_at
      have hJ1 : HJ J (setI N 55 i (nI (ly s c i))) := hJ.fr r1.fr
      have hof := of_nat hJ1 hW hit (k := 3) (by decide)
      have e56 : (setI N 55 i (nI (ly s c i))).1 56 (ly s c i) = nI (us J s c (ly s c i) 6 - us J s c (ly s c i) (i + 1)) := by rw [setI_ne (by decide)]; exact h56 _ hl4
      have hsum : us J s c (ly s c i) 6 - us J s c (ly s c i) (i + 1) + tf J i 3 = us J s c (ly s c i) 6 - us J s c (ly s c i) i := by omega
      have r2 : LYR N (setI (setI N 55 i (nI (ly s c i))) 56 (ly s c i) (nI (us J s c (ly s c i) 6 - us J s c (ly s c i) i))) := r1.trans (LYR.set (Or.inr rfl))
      have q55 : (setI (setI N 55 i (nI (ly s c i))) 56 (ly s c i) (nI (us J s c (ly s c i) 6 - us J s c (ly s c i) i))).1 55 i = nI (ly s c i) := by rw [setI_ne (by decide)]; exact e55
      have q55o : ∀ j, j ≠ i → (setI (setI N 55 i (nI (ly s c i))) 56 (ly s c i) (nI (us J s c (ly s c i) 6 - us J s c (ly s c i) i))).1 55 j = N.1 55 j := fun j hj => by rw [setI_ne (by decide), setI_nk hj]
      have q56 : (setI (setI N 55 i (nI (ly s c i))) 56 (ly s c i) (nI (us J s c (ly s c i) 6 - us J s c (ly s c i) i))).1 56 (ly s c i) = nI (us J s c (ly s c i) 6 - us J s c (ly s c i) i) := setI_at
      have q56o : ∀ k, k ≠ ly s c i → (setI (setI N 55 i (nI (ly s c i))) 56 (ly s c i) (nI (us J s c (ly s c i) 6 - us J s c (ly s c i) i))).1 56 k = N.1 56 k := fun k hk => by rw [setI_nk hk, setI_ne (by decide)]
      generalize hM : setI (setI N 55 i (nI (ly s c i))) 56 (ly s c i) (nI (us J s c (ly s c i) 6 - us J s c (ly s c i) i)) = M at r2 q55 q55o q56 q56o
      have m1 : M.1 43 1 = nI L := by rw [r2.1 43 (by decide) (by decide)]; exact h1
      have m2 : M.1 43 2 = nI D := by rw [r2.1 43 (by decide) (by decide)]; exact h2
      have hcont : ∀ g' : Bool, (g' = true ↔ FLp J s L D c i) → ∃ N', f_X10_lay_38 F n (nI s) (nI (c / 4 ^ cb s i)) (b2 g') (dI i) M = some (b2 (okp J s L D c 6), N') ∧ (∀ j, j < 6 → s.testBit j = true → N'.1 55 j = nI (ly s c j)) ∧ LYR N N' := by
        intro g' hg'
        obtain ⟨N', a1, a2, a3⟩ := ih M g' (by omega) (by omega) hg' (hJ.fr r2.fr) m1 m2 (fun k hk => by
          by_cases e : k = ly s c i
          · rw [e, q56]
          · rw [q56o k e, h56 k hk, us_S (n := i), if_neg (fun z => e z.2.symm), Nat.add_zero]) (fun j hj1 hj2 hbj => by
          by_cases e : j = i
          · rw [e, q55]
          · rw [q55o j e]
            exact h55 j (by omega) hj2 hbj)
        exact ⟨N', a1, a2, r2.trans a3⟩
      have hF1 : FLp J s L D c i ↔ FLp J s L D c (i + 1) ∧ (ly s c i < L ∧ us J s c (ly s c i) 6 - us J s c (ly s c i) i ≤ D) := by
        constructor
        · intro h
          exact ⟨fun j hj1 hj2 hbj => h j hj1 (by omega) hbj, h i (by omega) (Nat.le_refl _) hb⟩
        · intro h j hj1 hj2 hbj
          by_cases e : j = i
          · rw [e]; exact h.2
          · exact h.1 j hj1 (by omega) hbj
      have hex : ∀ g' : Bool, (g' = true ↔ FLp J s L D c i) → ∀ x, x = f_X10_lay_38 F n (nI s) (nI (c / 4 ^ cb s i)) (b2 g') (dI i) M → ∃ N', x = some (b2 (okp J s L D c 6), N') ∧ (∀ j, j < 6 → s.testBit j = true → N'.1 55 j = nI (ly s c j)) ∧ LYR N N' := by
        intro g' hg' x hx
        obtain ⟨N', a1, a2, a3⟩ := hcont g' hg'
        exact ⟨N', hx.trans a1, a2, a3⟩
      have hmod : nI (c / 4 ^ cb s (i + 1)) - nI (c / 4 ^ cb s (i + 1)) / (4 : Int32) * (4 : Int32) = nI (ly s c i) := by
        rw [show nI (c / 4 ^ cb s (i + 1)) / (4 : Int32) = nI (c / 4 ^ cb s (i + 1) / 4) from divI (d := 4) (by omega) (by decide) (by decide), show nI (c / 4 ^ cb s (i + 1) / 4) * (4 : Int32) = nI (c / 4 ^ cb s (i + 1) / 4 * 4) from mulI _ 4, subI (by omega), mod4]
        rfl
      have hdiv4 : nI (c / 4 ^ cb s (i + 1)) / (4 : Int32) = nI (c / 4 ^ cb s i) := by
        rw [← hdv]
        exact divI (d := 4) (by omega) (by decide) (by decide)
      rw [if_neg b2_nt]
      simp only [vlet]
      rw [hmod, hdiv4]
      generalize c / 4 ^ cb s i = rest at hex hcont ⊢
      cases g
      · have hno : ¬ FLp J s L D c (i + 1) := fun h => by have := hg.mpr h; cases this
        refine hex false ⟨fun e => (by cases e), fun h => absurd (hF1.mp h).1 hno⟩ _ ?_
        simp (disch := omega) only [lit, ltI, leI, eqI, addI, mulI, subI, clI, ckI, if_pos, if_neg, if_true, if_false, Option.bind_some, b2_0, b2_n0, b2_1, b2_n1, Bool.true_eq_false, Bool.false_eq_true, b2_t, b2_f, e55, hof, e56, hsum, hM]
      · have hyes : FLp J s L D c (i + 1) := hg.mp rfl
        by_cases c1 : ly s c i < L
        · by_cases c2 : us J s c (ly s c i) 6 - us J s c (ly s c i) i ≤ D
          · refine hex true ⟨fun _ => hF1.mpr ⟨hyes, c1, c2⟩, fun _ => rfl⟩ _ ?_
            simp (disch := omega) only [lit, ltI, leI, eqI, addI, mulI, subI, clI, ckI, if_pos, if_neg, if_true, if_false, Option.bind_some, b2_0, b2_n0, b2_1, b2_n1, Bool.true_eq_false, Bool.false_eq_true, b2_t, b2_f, e55, hof, e56, hsum, hM, m1, m2, q55, q56]
          · refine hex false ⟨fun e => (by cases e), fun h => absurd (hF1.mp h).2.2 c2⟩ _ ?_
            simp (disch := omega) only [lit, ltI, leI, eqI, addI, mulI, subI, clI, ckI, if_pos, if_neg, if_true, if_false, Option.bind_some, b2_0, b2_n0, b2_1, b2_n1, Bool.true_eq_false, Bool.false_eq_true, b2_t, b2_f, e55, hof, e56, hsum, hM, m1, m2, q55, q56]
        · refine hex false ⟨fun e => (by cases e), fun h => absurd (hF1.mp h).2.1 c1⟩ _ ?_
          simp (disch := omega) only [lit, ltI, leI, eqI, addI, mulI, subI, clI, ckI, if_pos, if_neg, if_true, if_false, Option.bind_some, b2_0, b2_n0, b2_1, b2_n1, Bool.true_eq_false, Bool.false_eq_true, b2_t, b2_f, e55, hof, e56, hsum, hM, m1, q55]
  | _, 0, _, _, _, hn, _, _, _, _, _, _ => absurd hn (Nat.not_lt_zero _)
theorem lay5_loop (hW : WJ J) (hs : s < 64) (hsT : ∀ j, s.testBit j = true → j < nT J) (hL4 : L ≤ 4) (hD : D ≤ 999) (hF : 100 ≤ F) {c : Nat} (hc : c < 4096) (hcn : cb s (nT J) = 0) :
    ∀ (m k n : Nat) (N : Mem), k + m = 4 → m < n → HJ J N → N.1 43 1 = nI L → N.1 43 2 = nI D → (∀ q, q < k → N.1 56 q = 0) → ∃ N', f_X10_lay_5 F n (nI s) (nI c) (nI k) N = some (b2 (okp J s L D c 6), N') ∧ (∀ j, j < 6 → s.testBit j = true → N'.1 55 j = nI (ly s c j)) ∧ LYR N N'
  | 0, k, n + 1, N, hk, _, hJ, h1, h2, h0 => by
    have h6 := hW.1
    have hkk : k = 4 := by omega
    subst hkk
    have hus : ∀ q, us J s c q 6 = us J s c q (nT J) := by
      intro q
      have : ∀ m, us J s c q (nT J + m) = us J s c q (nT J) := by
        intro m
        induction m with
        | zero => rfl
        | succ m ihm =>
          rw [← Nat.add_assoc, us_S, ihm, if_neg (fun z => by have := hsT _ z.1; omega), Nat.add_zero]
      have h := this (6 - nT J)
      rwa [show nT J + (6 - nT J) = 6 by omega] at h
    obtain ⟨N', a1, a2, a3⟩ := lay38_loop (F := F) hW hs hsT hL4 hD hc (nT J) F N true (Nat.le_refl _) (by omega) ⟨fun _ j hj1 hj2 hbj => absurd (hsT j hbj) (by omega), fun _ => rfl⟩ hJ h1 h2 (fun q hq => by rw [hus q, Nat.sub_self]; exact h0 q hq) (fun j hj1 _ hbj => absurd (hsT j hbj) (by omega))
    rw [hcn, Nat.pow_zero, Nat.div_one] at a1
    have hdn : nI (nT J) - (1 : Int32) = dI (nT J) := by
      cases hn : nT J with
      | zero => rfl
      | succ m => exact subI (a := m + 1) (b := 1) (by omega)
    have e38 : N.1 38 0 = nI (nT J) := hJ.1
    refine ⟨N', ?_, a2, a3⟩
    rw [f_X10_lay_5, if_pos (by decide), if_pos (by decide)]
    simp only [vlet]
    rw [show (0 : Int32).toNatClampNeg = 0 from rfl, e38, hdn]
    exact a1
  | m + 1, k, n + 1, N, hk, hn, hJ, h1, h2, h0 => by
    have r1 : LYR N (setI N 56 k 0) := LYR.set (Or.inr rfl)
    obtain ⟨N', a1, a2, a3⟩ := lay5_loop hW hs hsT hL4 hD hF hc hcn m (k + 1) n (setI N 56 k 0) (by omega) (by omega) (hJ.fr r1.fr) (by rw [r1.1 43 (by decide) (by decide)]; exact h1) (by rw [r1.1 43 (by decide) (by decide)]; exact h2) (fun q hq => by
      by_cases e : q = k
      · rw [e, setI_at]
      · rw [setI_nk e]
        exact h0 q (by omega))
    refine ⟨N', ?_, a2, r1.trans a3⟩
    rw [f_X10_lay_5]
    simp only [vlet]
    simp (disch := omega) only [lit, ltI, leI, eqI, addI, mulI, subI, clI, ckI, if_pos, if_neg, if_true, if_false, Option.bind_some, b2_0, b2_n0, b2_1, b2_n1, Bool.true_eq_false, Bool.false_eq_true, b2_t, b2_f]
    exact a1
  | _, _, 0, _, _, hn, _, _, _, _ => absurd hn (Nat.not_lt_zero _)
theorem layR_nat (hW : WJ J) (hs : s < 64) (hsT : ∀ j, s.testBit j = true → j < nT J) (hL4 : L ≤ 4) (hD : D ≤ 999) (hF : 100 ≤ F) {c : Nat} (hc : c < 4096) {N : Mem} (hJ : HJ J N) (h1 : N.1 43 1 = nI L) (h2 : N.1 43 2 = nI D) : ∃ N', f_X10_lay F N (nI s) (nI c) = some (b2 (okp J s L D c 6), N') ∧ (∀ j, j < 6 → s.testBit j = true → N'.1 55 j = nI (ly s c j)) ∧ LYR N N' := by
  have h6 := hW.1
  have hcn : cb s (nT J) = 0 := by
    have : ∀ m, bcT s (nT J + m) = bcT s (nT J) := by
      intro m
      induction m with
      | zero => rfl
      | succ m ihm =>
        have e : bcT s (nT J + (m + 1)) = bcT s (nT J + m) + if s.testBit (nT J + m) = true then 1 else 0 := rfl
        rw [e, ihm, if_neg (fun z => by have := hsT _ z; omega), Nat.add_zero]
    have h := this (6 - nT J)
    rw [show nT J + (6 - nT J) = 6 by omega] at h
    unfold cb bc
    rw [h, Nat.sub_self]
  exact lay5_loop (F := F) hW hs hsT hL4 hD hF hc hcn 4 0 F N rfl (by omega) hJ h1 h2 (fun q hq => absurd hq (Nat.not_lt_zero _))
end PK
