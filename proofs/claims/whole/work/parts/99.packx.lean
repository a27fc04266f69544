-- part 99: pack: the class's layers
def PKC (J : Jr) (s L : Nat) (fd : Nat → Nat) (N : Mem) : Prop := N.1 27 6 = nI s ∧ N.1 27 7 = nI L ∧ (∀ j, j < 6 → N.1 28 j = nI (fd j)) ∧ HX J N 3
def PKS (J : Jr) (s D a i : Nat) (N : Mem) : Prop := (∀ j, j < i → s.testBit j = true → N.1 29 j = nI (ly s a j)) ∧ ∀ k, k < 4 → N.1 31 k = nI (D - us J s a k i)
def BS (s : Nat) (fd : Nat → Nat) (b : Option Nat) (N : Mem) : Prop := N.1 27 8 = nI (bv s fd b) ∧ ∀ c, b = some c → ∀ j, j < 6 → s.testBit j = true → N.1 30 j = nI (ly s c j)
def LFm (i : Nat) (N N' : Mem) : Prop := (∀ c, c ≠ 27 → c ≠ 29 → c ≠ 30 → c ≠ 31 → N'.1 c = N.1 c) ∧ (∀ k, k ≠ 8 → N'.1 27 k = N.1 27 k) ∧ (∀ j, j < i → N'.1 29 j = N.1 29 j) ∧ (∀ k, k < 4 → N'.1 31 k = N.1 31 k) ∧ N'.2 = N.2
theorem LFm.refl {i : Nat} {N : Mem} : LFm i N N := ⟨fun _ _ _ _ _ => rfl, fun _ _ => rfl, fun _ _ => rfl, fun _ _ => rfl, rfl⟩
theorem LFm.trans {i : Nat} {A B C : Mem} (h1 : LFm i A B) (h2 : LFm i B C) : LFm i A C := ⟨fun c a b d e => (h2.1 c a b d e).trans (h1.1 c a b d e), fun k a => (h2.2.1 k a).trans (h1.2.1 k a), fun k a => (h2.2.2.1 k a).trans (h1.2.2.1 k a), fun k a => (h2.2.2.2.1 k a).trans (h1.2.2.2.1 k a), h2.2.2.2.2.trans h1.2.2.2.2⟩
theorem LFm.low {i j : Nat} {A B : Mem} (h : LFm j A B) (hij : i ≤ j) : LFm i A B := ⟨h.1, h.2.1, fun k hk => h.2.2.1 k (by omega), h.2.2.2.1, h.2.2.2.2⟩
section PK
variable {J : Jr} {s L D : Nat} {fd : Nat → Nat} {F : Nat}
theorem PKC.of {N N' : Mem} (h : PKC J s L fd N) (e27 : ∀ k, k ≠ 8 → N'.1 27 k = N.1 27 k) (e28 : N'.1 28 = N.1 28) (e3 : N'.1 3 = N.1 3) (e4 : N'.1 4 = N.1 4) (e5 : N'.1 5 = N.1 5) (e6 : N'.1 6 = N.1 6) : PKC J s L fd N' := ⟨by rw [e27 6 (by decide)]; exact h.1, by rw [e27 7 (by decide)]; exact h.2.1, by rw [e28]; exact h.2.2.1, h.2.2.2.same e3 e4 e5 e6⟩
theorem PKC.lf {i : Nat} {N N' : Mem} (h : PKC J s L fd N) (f : LFm i N N') : PKC J s L fd N' := h.of f.2.1 (f.1 28 (by decide) (by decide) (by decide) (by decide)) (f.1 3 (by decide) (by decide) (by decide) (by decide)) (f.1 4 (by decide) (by decide) (by decide) (by decide)) (f.1 5 (by decide) (by decide) (by decide) (by decide)) (f.1 6 (by decide) (by decide) (by decide) (by decide))
theorem trX_loop (hs : s < 64) (hfd : ∀ j, fd j ≤ 99) {N : Mem} {c i : Nat} (hi : i < 6) (hC : PKC J s L fd N) (hl : ∀ j, j < i → s.testBit j = true → N.1 29 j = nI (ly s c j)) (hli : N.1 29 i = nI (ly s c i)) : ∀ (m j n : Nat), j + m = i → m < n → f_X4_troubleOf_4 F N n (nI i) (nI (t1 s fd c i j)) (nI j) = some (nI (t1 s fd c i i))
  | 0, j, n + 1, hj, _ => by
    have hjj : j = i := by omega
    subst hjj
    rw [f_X4_troubleOf_4]
    simp (disch := omega) only [lit, ltI, leI, eqI, addI, mulI, subI, clI, ckI, if_pos, if_neg, if_true, if_false, Option.bind_some, b2_0, b2_n0, b2_1, b2_n1, Bool.true_eq_false, Bool.false_eq_true, b2_t, b2_f]
  | m + 1, j, n + 1, hj, hn => by
    have ih := trX_loop hs hfd hi hC hl hli m (j + 1) n (by omega) (by omega)
    have h27 := hC.1
    have h28j := hC.2.2.1 j (by omega)
    have h28i := hC.2.2.1 i hi
    have fj := hfd j
    have fi := hfd i
    have li := ly_lt s c i
    have hh : f_X9_has N (nI s) (nI j) = b2 (s.testBit j) := has_nat (by omega) (by omega)
    have ht := t1_le (s := s) (fd := fd) (c := c) (i := i) j
    rw [t1_S] at ih
    rw [f_X4_troubleOf_4]
    cases hb : s.testBit j
    · have hp : prB s fd c i j = false := by unfold prB; rw [hb, Bool.false_and]
      rw [hp, if_neg (by decide), Nat.add_zero] at ih
      rw [hb] at hh
      unfold f_X4_troubleOf_50
      simp (disch := omega) only [lit, ltI, leI, eqI, addI, mulI, subI, clI, ckI, if_pos, if_neg, if_true, if_false, Option.bind_some, b2_0, b2_n0, b2_1, b2_n1, Bool.true_eq_false, Bool.false_eq_true, b2_t, b2_f, h27, h28j, h28i, hli, hh, ite_self]
      exact ih
    · rw [hb] at hh
      have hlj := hl j (by omega) hb
      have lj := ly_lt s c j
      have hpt : (ly s c j < ly s c i ∧ fd j < fd i) ∨ (ly s c i < ly s c j ∧ fd i < fd j) → prB s fd c i j = true := by
        intro h
        unfold prB
        rw [hb, Bool.true_and, Bool.or_eq_true, decide_eq_true_eq, decide_eq_true_eq]
        exact h
      have hpf : ¬ ((ly s c j < ly s c i ∧ fd j < fd i) ∨ (ly s c i < ly s c j ∧ fd i < fd j)) → prB s fd c i j = false := by
        intro h
        unfold prB
        rw [hb, Bool.true_and, Bool.or_eq_false_iff, decide_eq_false_iff_not, decide_eq_false_iff_not]
        omega
      unfold f_X4_troubleOf_50
      rcases Nat.lt_trichotomy (ly s c i) (ly s c j) with c1 | c1 | c1 <;> rcases Nat.lt_trichotomy (fd i) (fd j) with c2 | c2 | c2
      · rw [hpt (by omega), if_pos rfl] at ih
        simp (disch := omega) only [lit, ltI, leI, eqI, addI, mulI, subI, clI, ckI, if_pos, if_neg, if_true, if_false, Option.bind_some, b2_0, b2_n0, b2_1, b2_n1, Bool.true_eq_false, Bool.false_eq_true, b2_t, b2_f, h27, h28j, h28i, hli, hlj, hh]
        exact ih
      · rw [hpf (by omega), if_neg (by decide), Nat.add_zero] at ih
        simp (disch := omega) only [lit, ltI, leI, eqI, addI, mulI, subI, clI, ckI, if_pos, if_neg, if_true, if_false, Option.bind_some, b2_0, b2_n0, b2_1, b2_n1, Bool.true_eq_false, Bool.false_eq_true, b2_t, b2_f, h27, h28j, h28i, hli, hlj, hh]
        exact ih
      · rw [hpf (by omega), if_neg (by decide), Nat.add_zero] at ih
        simp (disch := omega) only [lit, ltI, leI, eqI, addI, mulI, subI, clI, ckI, if_pos, if_neg, if_true, if_false, Option.bind_some, b2_0, b2_n0, b2_1, b2_n1, Bool.true_eq_false, Bool.false_eq_true, b2_t, b2_f, h27, h28j, h28i, hli, hlj, hh]
        exact ih
      · rw [hpf (by omega), if_neg (by decide), Nat.add_zero] at ih
        simp (disch := omega) only [lit, ltI, leI, eqI, addI, mulI, subI, clI, ckI, if_pos, if_neg, if_true, if_false, Option.bind_some, b2_0, b2_n0, b2_1, b2_n1, Bool.true_eq_false, Bool.false_eq_true, b2_t, b2_f, h27, h28j, h28i, hli, hlj, hh]
        exact ih
      · rw [hpf (by omega), if_neg (by decide), Nat.add_zero] at ih
        simp (disch := omega) only [lit, ltI, leI, eqI, addI, mulI, subI, clI, ckI, if_pos, if_neg, if_true, if_false, Option.bind_some, b2_0, b2_n0, b2_1, b2_n1, Bool.true_eq_false, Bool.false_eq_true, b2_t, b2_f, h27, h28j, h28i, hli, hlj, hh]
        exact ih
      · rw [hpf (by omega), if_neg (by decide), Nat.add_zero] at ih
        simp (disch := omega) only [lit, ltI, leI, eqI, addI, mulI, subI, clI, ckI, if_pos, if_neg, if_true, if_false, Option.bind_some, b2_0, b2_n0, b2_1, b2_n1, Bool.true_eq_false, Bool.false_eq_true, b2_t, b2_f, h27, h28j, h28i, hli, hlj, hh]
        exact ih
      · rw [hpf (by omega), if_neg (by decide), Nat.add_zero] at ih
        simp (disch := omega) only [lit, ltI, leI, eqI, addI, mulI, subI, clI, ckI, if_pos, if_neg, if_true, if_false, Option.bind_some, b2_0, b2_n0, b2_1, b2_n1, Bool.true_eq_false, Bool.false_eq_true, b2_t, b2_f, h27, h28j, h28i, hli, hlj, hh]
        exact ih
      · rw [hpf (by omega), if_neg (by decide), Nat.add_zero] at ih
        simp (disch := omega) only [lit, ltI, leI, eqI, addI, mulI, subI, clI, ckI, if_pos, if_neg, if_true, if_false, Option.bind_some, b2_0, b2_n0, b2_1, b2_n1, Bool.true_eq_false, Bool.false_eq_true, b2_t, b2_f, h27, h28j, h28i, hli, hlj, hh]
        exact ih
      · rw [hpt (by omega), if_pos rfl] at ih
        simp (disch := omega) only [lit, ltI, leI, eqI, addI, mulI, subI, clI, ckI, if_pos, if_neg, if_true, if_false, Option.bind_some, b2_0, b2_n0, b2_1, b2_n1, Bool.true_eq_false, Bool.false_eq_true, b2_t, b2_f, h27, h28j, h28i, hli, hlj, hh]
        exact ih
  | _, _, 0, _, hn => absurd hn (Nat.not_lt_zero _)
theorem trX_nat (hs : s < 64) (hF : 100 ≤ F) (hfd : ∀ j, fd j ≤ 99) {N : Mem} {c i : Nat} (hi : i < 6) (hC : PKC J s L fd N) (hl : ∀ j, j < i + 1 → s.testBit j = true → N.1 29 j = nI (ly s c j)) (hb : s.testBit i = true) : f_X4_troubleOf F N (nI i) = some (nI (t1 s fd c i i)) := trX_loop (F := F) hs hfd hi hC (fun j hj => hl j (by omega)) (hl i (by omega) hb) i 0 F (by omega) (by omega)
def KLok (J : Jr) (s L D : Nat) (fd : Nat → Nat) (i : Nat) (KR : Mem → Int32 → Int32 → Option Mem) : Prop := ∀ a N, 4 ^ cb s (i + 1) ∣ a → okp J s L D a (i + 1) = true → PKC J s L fd N → PKS J s D a (i + 1) N → BS s fd (bst J s fd L D a) N → ∃ N', KR N (nI (i + 1)) (nI (tt s fd a (i + 1))) = some N' ∧ BS s fd (bst J s fd L D (a + 4 ^ cb s (i + 1))) N' ∧ LFm (i + 1) N N'
theorem lay73_loop (hs : s < 64) (hF : 100 ≤ F) (hfd : ∀ j, fd j ≤ 99) (hL4 : L ≤ 4) (hD : D ≤ 999) {KR : Mem → Int32 → Int32 → Option Mem} {i a : Nat} (hi : i < 6) (hb : s.testBit i = true) (hz : 1 ≤ tf J i 3 ∧ tf J i 3 ≤ 99) (hd : 4 ^ cb s i ∣ a) (hok : okp J s L D a i = true) (hK : KLok J s L D fd i KR) :
    ∀ (m l n : Nat) (N : Mem), l + m = L → m < n → PKC J s L fd N → PKS J s D a i N → BS s fd (bst J s fd L D (a + l * 4 ^ cb s (i + 1))) N →
      ∃ N', f_X4_lay_73 F KR n (nI i) (nI (tt s fd a i)) (nI (tf J i 3)) (nI l) N = some N' ∧ BS s fd (bst J s fd L D (a + 4 ^ cb s i)) N' ∧ LFm i N N'
  | 0, l, n + 1, N, hl, _, hC, hP, hB => by
    have hll : l = L := by omega
    subst hll
    have hS := cb_S (s := s) hi
    rw [if_pos hb] at hS
    have e4 : (4 : Nat) ^ cb s i = 4 * 4 ^ cb s (i + 1) := by rw [hS, Nat.pow_succ, Nat.mul_comm]
    have hp : 0 < 4 ^ cb s (i + 1) := Nat.pow_pos (by decide)
    have hle : l * 4 ^ cb s (i + 1) ≤ 4 ^ cb s i := by rw [e4]; exact Nat.mul_le_mul_right _ hL4
    have hst : bst J s fd l D (a + 4 ^ cb s i) = bst J s fd l D (a + l * 4 ^ cb s (i + 1)) := by
      have := bst_stop (J := J) (s := s) (fd := fd) (L := l) (D := D) (a := a + l * 4 ^ cb s (i + 1)) (m := 4 ^ cb s i - l * 4 ^ cb s (i + 1)) (fun c h1 h2 => by
        have hq1 : l ≤ (c - a) / 4 ^ cb s (i + 1) := (Nat.le_div_iff_mul_le hp).mpr (by omega)
        have hq2 : (c - a) / 4 ^ cb s (i + 1) < 4 := (Nat.div_lt_iff_lt_mul hp).mpr (by rw [← e4]; omega)
        have hm := Nat.div_add_mod (c - a) (4 ^ cb s (i + 1))
        have hr := Nat.mod_lt (c - a) hp
        rw [Nat.mul_comm] at hm
        exact sub_no (l := (c - a) / 4 ^ cb s (i + 1)) hb hi hd hq2 (fun z => by omega) (by omega) (by omega))
      rwa [show a + l * 4 ^ cb s (i + 1) + (4 ^ cb s i - l * 4 ^ cb s (i + 1)) = a + 4 ^ cb s i by omega] at this
    refine ⟨N, ?_, by rw [hst]; exact hB, LFm.refl⟩
    rw [f_X4_lay_73, hC.2.1]
    simp (disch := omega) only [lit, ltI, leI, eqI, addI, mulI, subI, clI, ckI, if_pos, if_neg, if_true, if_false, Option.bind_some, b2_0, b2_n0, b2_1, b2_n1, Bool.true_eq_false, Bool.false_eq_true, b2_t, b2_f]
  | m + 1, l, n + 1, N, hl, hn, hC, hP, hB => by
    have hl4 : l < 4 := by omega
    have h31 := hP.2 l hl4
    have huD := okp_us i hok l
    have hsub : a + (l + 1) * 4 ^ cb s (i + 1) = a + l * 4 ^ cb s (i + 1) + 4 ^ cb s (i + 1) := by rw [Nat.succ_mul]; omega
    have ih := lay73_loop hs hF hfd hL4 hD hi hb hz hd hok hK m (l + 1) n
    rw [f_X4_lay_73, hC.2.1]
    by_cases c : us J s a l i + tf J i 3 ≤ D
    · have hS := cb_S (s := s) hi
      rw [if_pos hb] at hS
      have e4 : (4 : Nat) ^ cb s i = 4 * 4 ^ cb s (i + 1) := by rw [hS, Nat.pow_succ, Nat.mul_comm]
      have hp : 0 < 4 ^ cb s (i + 1) := Nat.pow_pos (by decide)
      have hd2 : 4 ^ cb s (i + 1) ∣ a + l * 4 ^ cb s (i + 1) := Nat.dvd_add (Nat.dvd_trans ⟨4, by rw [e4, Nat.mul_comm]⟩ hd) ⟨l, Nat.mul_comm _ _⟩
      have hlm : l * 4 ^ cb s (i + 1) + 4 ^ cb s (i + 1) ≤ 4 * 4 ^ cb s (i + 1) := by
        rw [← Nat.succ_mul]
        exact Nat.mul_le_mul_right _ (by omega)
      have hlow : ∀ j, j < i → ly s (a + l * 4 ^ cb s (i + 1)) j = ly s a j := fun j hj => ly_blk hd (by omega) (by omega) hj (by omega)
      have hat : ly s (a + l * 4 ^ cb s (i + 1)) i = l := ly_sub hb hi hd hl4
      have hus : ∀ k, us J s (a + l * 4 ^ cb s (i + 1)) k (i + 1) = us J s a k i + if l = k then tf J i 3 else 0 := by
        intro k
        rw [us_S, us_congr i hlow, hat]
        by_cases e : l = k
        · rw [if_pos ⟨hb, e⟩, if_pos e]
        · rw [if_neg (fun z => e z.2), if_neg e]
      have htt : tt s fd (a + l * 4 ^ cb s (i + 1)) (i + 1) = tt s fd a i + t1 s fd (a + l * 4 ^ cb s (i + 1)) i i := by
        rw [tt_S, if_pos hb, tt_congr i hlow]
      have hok2 : okp J s L D (a + l * 4 ^ cb s (i + 1)) (i + 1) = true := by
        rw [okp_S, okp_congr i hlow, hok, hat, hus l, if_pos rfl, decide_eq_true (show l < L by omega), decide_eq_true c]
        simp
      have htl := tt_le2 (s := s) (fd := fd) (c := a) (i := i) (by omega)
      have ht1 := t1_le (s := s) (fd := fd) (c := a + l * 4 ^ cb s (i + 1)) (i := i) i
      have e31 : (setI N 29 i (nI l)).1 31 l = nI (D - us J s a l i) := by rw [setI_ne (by decide)]; exact h31
      have hM : ∀ c, c ≠ 29 → c ≠ 31 → (setI (setI N 29 i (nI l)) 31 l (nI (D - us J s a l i - tf J i 3))).1 c = N.1 c := fun c h1 h2 => by rw [setI_ne h2, setI_ne h1]
      have m29 : ∀ j, (setI (setI N 29 i (nI l)) 31 l (nI (D - us J s a l i - tf J i 3))).1 29 j = if j = i then nI l else N.1 29 j := by
        intro j
        rw [setI_ne (by decide)]
        by_cases e : j = i
        · subst e
          rw [setI_at, if_pos rfl]
        · rw [setI_nk e, if_neg e]
      have m31 : ∀ k, (setI (setI N 29 i (nI l)) 31 l (nI (D - us J s a l i - tf J i 3))).1 31 k = if k = l then nI (D - us J s a l i - tf J i 3) else N.1 31 k := by
        intro k
        by_cases e : k = l
        · subst e
          rw [setI_at, if_pos rfl]
        · rw [setI_nk e, if_neg e, setI_ne (by decide)]
      have m2 : (setI (setI N 29 i (nI l)) 31 l (nI (D - us J s a l i - tf J i 3))).2 = N.2 := rfl
      generalize hMM : setI (setI N 29 i (nI l)) 31 l (nI (D - us J s a l i - tf J i 3)) = M9 at hM m29 m31 m2
      have hC9 : PKC J s L fd M9 := hC.of (fun k _ => by rw [hM 27 (by decide) (by decide)]) (hM 28 (by decide) (by decide)) (hM 3 (by decide) (by decide)) (hM 4 (by decide) (by decide)) (hM 5 (by decide) (by decide)) (hM 6 (by decide) (by decide))
      have hP9 : PKS J s D (a + l * 4 ^ cb s (i + 1)) (i + 1) M9 := by
        refine ⟨fun j hj hbj => ?_, fun k hk => ?_⟩
        · rw [m29]
          by_cases e : j = i
          · rw [if_pos e, e, hat]
          · rw [if_neg e, hlow j (by omega)]
            exact hP.1 j (by omega) hbj
        · rw [m31, hus k]
          by_cases e : k = l
          · rw [if_pos e, if_pos e.symm, e]
            congr 1
            omega
          · rw [if_neg e, if_neg (fun z => e z.symm), Nat.add_zero]
            exact hP.2 k hk
      have hB9 : BS s fd (bst J s fd L D (a + l * 4 ^ cb s (i + 1))) M9 := ⟨by rw [hM 27 (by decide) (by decide)]; exact hB.1, fun c hc j hj hbj => by rw [hM 30 (by decide) (by decide)]; exact hB.2 c hc j hj hbj⟩
      have htr := trX_nat (F := F) hs hF hfd hi hC9 hP9.1 hb
      obtain ⟨N2, k1, k2, k3⟩ := hK _ M9 hd2 hok2 hC9 hP9 hB9
      rw [htt] at k1
      have n31 : N2.1 31 l = nI (D - us J s a l i - tf J i 3) := by rw [k3.2.2.2.1 l hl4, m31, if_pos rfl]
      have f2 : LFm i N (setI N2 31 l (nI (D - us J s a l i))) := by
        refine ⟨fun c h1 h2 h3 h4 => ?_, fun k hk => ?_, fun j hj => ?_, fun k hk => ?_, ?_⟩
        · rw [setI_ne h4, k3.1 c h1 h2 h3 h4, hM c h2 h4]
        · rw [setI_ne (by decide), k3.2.1 k hk, hM 27 (by decide) (by decide)]
        · rw [setI_ne (by decide), k3.2.2.1 j (by omega), m29, if_neg (by omega)]
        · by_cases e : k = l
          · subst e
            rw [setI_at, h31]
          · rw [setI_nk e, k3.2.2.2.1 k hk, m31, if_neg e]
        · show N2.2 = N.2
          rw [k3.2.2.2.2, m2]
      have hP2 : PKS J s D a i (setI N2 31 l (nI (D - us J s a l i))) := ⟨fun j hj hbj => by rw [f2.2.2.1 j hj]; exact hP.1 j hj hbj, fun k hk => by rw [f2.2.2.2.1 k hk]; exact hP.2 k hk⟩
      have hB2 : BS s fd (bst J s fd L D (a + (l + 1) * 4 ^ cb s (i + 1))) (setI N2 31 l (nI (D - us J s a l i))) := by
        rw [hsub]
        exact ⟨by rw [setI_ne (by decide)]; exact k2.1, fun c hc j hj hbj => by rw [setI_ne (by decide)]; exact k2.2 c hc j hj hbj⟩
      obtain ⟨N3, q1, q2, q3⟩ := ih _ (by omega) (by omega) (hC.lf f2) hP2 hB2
      refine ⟨N3, ?_, q2, f2.trans q3⟩
      have hback : D - us J s a l i - tf J i 3 + tf J i 3 = D - us J s a l i := by omega
      simp only [vlet]
      simp (disch := omega) only [lit, ltI, leI, eqI, addI, mulI, subI, clI, ckI, if_pos, if_neg, if_true, if_false, Option.bind_some, b2_0, b2_n0, b2_1, b2_n1, Bool.true_eq_false, Bool.false_eq_true, b2_t, b2_f, h31, e31, hMM, htr, k1, n31, hback]
      exact q1
    · have hno := bst_stop (J := J) (s := s) (fd := fd) (L := L) (D := D) (a := a + l * 4 ^ cb s (i + 1)) (m := 4 ^ cb s (i + 1)) (fun c' h1 h2 => sub_no hb hi hd hl4 (fun z => c z.2) h1 h2)
      rw [← hsub] at hno
      obtain ⟨N3, q1, q2, q3⟩ := ih N (by omega) (by omega) hC hP (by rw [hno]; exact hB)
      refine ⟨N3, ?_, q2, q3⟩
      simp (disch := omega) only [lit, ltI, leI, eqI, addI, mulI, subI, clI, ckI, if_pos, if_neg, if_true, if_false, Option.bind_some, b2_0, b2_n0, b2_1, b2_n1, Bool.true_eq_false, Bool.false_eq_true, b2_t, b2_f, h31]
      exact q1
  | _, _, 0, _, _, hn, _, _, _ => absurd hn (Nat.not_lt_zero _)
end PK
