-- part 99e: calls: pack
def pkV (s : Nat) (fd : Nat → Nat) : Option Nat → Option Nat → Int32
  | none, _ => -9
  | some b, none => nI (tt s fd b 6)
  | some b, some i => nI (ly s b i)
def bz (s : Nat) (fd : Nat → Nat) : Option Nat → Nat
  | none => 0
  | some b => tt s fd b 6
/-- what was asked for: the trouble, or a thing's layer -/
def askP (s : Nat) : Option Nat → Int32 → Prop
  | none, x => x = -1
  | some i, x => x = nI i ∧ i < 6 ∧ s.testBit i = true
theorem neg1I {i : Nat} (h : i < 2 ^ 31) : ¬ nI i = (-1 : Int32) := by
  intro e
  exact (neg1_ne h).mp e
section PK
variable {J : Jr} {s L D : Nat} {fd : Nat → Nat} {F : Nat}
theorem PA.lyr {l : List Nat} {N N' : Mem} (h : PA N l) (f : LYR N N') : PA N' l := fun j hj => by
  rw [f.1 52 (by decide) (by decide), f.1 53 (by decide) (by decide), f.1 54 (by decide) (by decide)]
  exact h j hj
theorem bst_S {c : Nat} : bst J s fd L D (c + 1) = match bst J s fd L D c with
    | none => if okp J s L D c 6 = true then some c else none
    | some b => if tt s fd c 6 < tt s fd b 6 ∧ okp J s L D c 6 = true then some c else some b := rfl
theorem p82_loop (hW : WJ J) (hs : s < 64) (hsT : ∀ j, s.testBit j = true → j < nT J) (hL4 : L ≤ 4) (hD : D ≤ 999) (hF : 4100 ≤ F) {l : List Nat} (hl : l.length = nD J) (h72 : ∀ k ∈ l, k < 72) {M4 : Nat} (hM : M4 ≤ 4096) {x : Int32} {q : Option Nat} (hq : askP s q x) :
    ∀ (m c n : Nat) (N : Mem), c + m = M4 → m < n → HJ J N → N.1 43 1 = nI L → N.1 43 2 = nI D → PA N l → ∃ N', f_X10_pack_82 F n x (nI s) (nO (bst J s (fdP J l) L D c)) (nI (bz s (fdP J l) (bst J s (fdP J l) L D c))) (nI M4) (nI c) N = some (pkV s (fdP J l) (bst J s (fdP J l) L D M4) q, N') ∧ LYR N N'
  | 0, c, n + 1, N, hc, _, hJ, h1, h2, hp => by
    have hcc : c = M4 := by omega
    subst hcc
    rw [f_X10_pack_82]
    have hle : nI c ≤ nI c := by rw [leI (by omega) (by omega)]; exact Nat.le_refl _
    rw [if_pos hle]
    cases hb : bst J s (fdP J l) L D c with
    | none => exact ⟨N, rfl, LYR.refl⟩
    | some b =>
      have hbl : b < c := betO_lt _ b hb
      have hne : ¬ nO (some b) = (-9 : Int32) := by
        intro e
        exact (neg9 (n := b) (by omega)).mp e
      rw [if_neg hne]
      cases q with
      | none =>
        have hx : x = -1 := hq
        rw [if_pos hx, if_neg hne]
        exact ⟨N, rfl, LYR.refl⟩
      | some i =>
        obtain ⟨hx, hi, hbi⟩ := hq
        obtain ⟨N1, a1, a2, a3⟩ := layR_nat (F := F) hW hs hsT hL4 hD (by omega) (c := b) (by omega) hJ h1 h2
        have a1 : f_X10_lay F N (nI s) (nO (some b)) = some (b2 (okp J s L D b 6), N1) := a1
        rw [hx, if_neg (neg1I (by omega)), a1, Option.bind_some]
        dsimp only
        rw [ckI (by omega) (by decide), if_pos rfl, clI (by omega), a2 i hi hbi]
        exact ⟨N1, rfl, a3⟩
  | m + 1, c, n + 1, N, hc, hn, hJ, h1, h2, hp => by
    have hlt : ¬ nI M4 ≤ nI c := by rw [leI (by omega) (by omega)]; omega
    obtain ⟨N1, a1, a2, a3⟩ := layR_nat (F := F) hW hs hsT hL4 hD (by omega) (c := c) (by omega) hJ h1 h2
    have hJ1 := hJ.fr a3.fr
    have hp1 := hp.lyr a3
    have htr := trR_nat (F := F) hW hs hsT hF hJ1 hl h72 hp1 a2
    have e1 : nI c + (1 : Int32) = nI (c + 1) := addI c 1
    have ih : ∀ b, bst J s (fdP J l) L D (c + 1) = b → ∃ N', f_X10_pack_82 F n x (nI s) (nO b) (nI (bz s (fdP J l) b)) (nI M4) (nI (c + 1)) N1 = some (pkV s (fdP J l) (bst J s (fdP J l) L D M4) q, N') ∧ LYR N N' := by
      intro b hb
      obtain ⟨N', b1, b2'⟩ := p82_loop hW hs hsT hL4 hD hF hl h72 hM hq m (c + 1) n N1 (by omega) (by omega) hJ1 (by rw [a3.1 43 (by decide) (by decide)]; exact h1) (by rw [a3.1 43 (by decide) (by decide)]; exact h2) hp1
      rw [hb] at b1
      exact ⟨N', b1, a3.trans b2'⟩
    have hS := bst_S (J := J) (s := s) (fd := fdP J l) (L := L) (D := D) (c := c)
    rw [f_X10_pack_82, if_neg hlt, a1, Option.bind_some]
    dsimp only
    rw [e1]
    cases ho : okp J s L D c 6
    · rw [if_pos b2_f]
      refine ih _ ?_
      rw [hS, ho]
      cases bst J s (fdP J l) L D c <;> simp
    · rw [if_neg b2_nt, htr, Option.bind_some]
      rw [ho] at hS
      cases hb : bst J s (fdP J l) L D c with
      | none =>
        rw [hb] at hS
        rw [if_pos (by rfl)]
        exact ih (some c) (by rw [hS]; simp)
      | some b =>
        rw [hb] at hS
        have hbl : b < c := betO_lt _ b hb
        have hne : ¬ nO (some b) = (-9 : Int32) := by
          intro e
          exact (neg9 (n := b) (by omega)).mp e
        have q1 := tt_le2 (s := s) (fd := fdP J l) (c := b) (i := 6) (by decide)
        have q2 := tt_le2 (s := s) (fd := fdP J l) (c := c) (i := 6) (by decide)
        have hcmp : (nI (bz s (fdP J l) (some b)) ≤ nI (tt s (fdP J l) c 6)) = (tt s (fdP J l) b 6 ≤ tt s (fdP J l) c 6) := leI (by show tt s (fdP J l) b 6 < _; omega) (by omega)
        rw [if_neg hne]
        by_cases c1 : tt s (fdP J l) b 6 ≤ tt s (fdP J l) c 6
        · rw [if_pos (hcmp.mpr c1)]
          refine ih (some b) ?_
          rw [hS]
          dsimp only
          rw [if_neg (fun z => by omega)]
        · rw [if_neg (fun z => c1 (hcmp.mp z))]
          refine ih (some c) ?_
          rw [hS]
          dsimp only
          rw [if_pos ⟨by omega, rfl⟩]
  | _, _, 0, _, _, hn, _, _, _, _ => absurd hn (Nat.not_lt_zero _)
theorem p62_loop {y3 y4 y5 y6 : Int32} {N : Mem} : ∀ (r k n : Nat), r < n → r ≤ 6 → f_X10_pack_62 F n y3 y4 y5 y6 (nI (4 ^ k)) (nI r) N = f_X10_pack_82 F F y3 y4 y5 y6 (nI (4 ^ (k + r))) (nI 0) N := by
  intro r
  induction r with
  | zero =>
    intro k n hn _
    obtain ⟨n', rfl⟩ : ∃ n', n = n' + 1 := ⟨n - 1, by omega⟩
    rw [f_X10_pack_62]
    simp (disch := omega) only [lit, ltI, leI, eqI, addI, mulI, subI, clI, ckI, if_pos, if_neg, if_true, if_false, Option.bind_some, b2_0, b2_n0, b2_1, b2_n1, Bool.true_eq_false, Bool.false_eq_true, b2_t, b2_f]
    rfl
  | succ r ihr =>
    intro k n hn hr
    obtain ⟨n', rfl⟩ : ∃ n', n = n' + 1 := ⟨n - 1, by omega⟩
    have hno : ¬ nI (r + 1) ≤ (0 : Int32) := by
      have : (nI (r + 1) ≤ nI 0) = (r + 1 ≤ 0) := leI (by omega) (by decide)
      intro h
      have := this.mp h
      omega
    have e4 : nI (4 ^ k) * (4 : Int32) = nI (4 ^ (k + 1)) := by
      rw [Nat.pow_succ]
      exact mulI _ 4
    have e1 : nI (r + 1) + (-1 : Int32) = nI r := predI (r + 1) (by omega)
    rw [f_X10_pack_62, if_neg hno, e4, e1, ihr (k + 1) n' (by omega) (by omega), show k + 1 + r = k + (r + 1) by omega]
theorem pack_good (hW : WJ J) (hF : 4100 ≤ F) (hL4 : L ≤ 4) (hD : D ≤ 999) (a1 a2 a3 : Int32) {q : Option Nat} (hq : askP (st J a1) q a3) : ∃ v, (∀ N, HX J N 3 → N.1 35 1 = nI L → N.1 35 2 = nI D → ∃ N', f_X9_pack_27 F a2 a3 (nI (st J a1)) N = some (v, N') ∧ PKF N N') ∧ (∀ N S, HJ J N → STP N S → S + 131072 < 2 ^ 31 → N.1 43 1 = nI L → N.1 43 2 = nI D → ∃ N' S', f_X10_pack_32 F a2 a3 (nI (st J a1)) N = some (v, N') ∧ STP N' S' ∧ S' ≤ S + 131072 ∧ FR N N') := by
  have h6 := hW.1
  have hs := st_lt hW a1
  have hsl : st J a1 < 2 ^ nT J := Nat.mod_lt _ (Nat.two_pow_pos _)
  have hsT : ∀ j, (st J a1).testBit j = true → j < nT J := by
    intro j hj
    rcases Nat.lt_or_ge j (nT J) with h | h
    · exact h
    · rw [Nat.testBit_lt_two_pow (Nat.lt_of_lt_of_le hsl (Nat.pow_le_pow_right (by decide) h))] at hj
      cases hj
  have hbc := bc_le (st J a1)
  have k13 : ck (1 : Int32) 3 = true := by decide
  have k23 : ck (2 : Int32) 3 = true := by decide
  cases hfp : fp J (st J a1) (wt a2) (nD J) 0 0 with
  | none =>
    have hsv : serves J (st J a1) (wt a2) = false := by unfold serves lives; rw [hfp]; rfl
    refine ⟨-2, fun N hJ t1 t2 => ?_, fun N S hJ hst hS t1 t2 => ?_⟩
    · obtain ⟨N1, a, b, -, -⟩ := find_nat hW (F := F) (wea_any a2) hF hs hJ
      refine ⟨N1, ?_, b.pkf⟩
      unfold f_X9_pack_27
      rw [a, hsv]
      rfl
    · obtain ⟨N1, S1, a, -, b, c, e⟩ := findPlan_nat hW (F := F) (S := S) (wea_any a2) hF hs (by omega) hJ hst
      refine ⟨N1, S1, ?_, b, by omega, e⟩
      unfold f_X10_pack_32
      rw [a, hsv]
      rfl
  | some l =>
    have hsv : serves J (st J a1) (wt a2) = true := by unfold serves lives; rw [hfp]; rfl
    have hll := fp_len _ _ _ l hfp
    have h72 := fp_lt _ _ _ l hfp
    refine ⟨pkV (st J a1) (fdP J l) (bst J (st J a1) (fdP J l) L D (4 ^ bc (st J a1))) q, fun N hJ t1 t2 => ?_, fun N S hJ hst hS t1 t2 => ?_⟩
    · obtain ⟨N1, a, b, -, hpl⟩ := find_nat hW (F := F) (wea_any a2) hF hs hJ
      obtain ⟨N2, c1, c2, c3⟩ := arrange_nat (F := F) hW hs hsT hF hL4 hD hll h72 (hJ.pf b) (hpl l hfp)
      refine ⟨N2, ?_, b.pkf.trans c3⟩
      have e1 : N1.1 35 (1 : Int32).toNatClampNeg = nI L := by rw [b.1 35 (by decide)]; exact t1
      have e2 : N1.1 35 (2 : Int32).toNatClampNeg = nI D := by rw [b.1 35 (by decide)]; exact t2
      unfold f_X9_pack_27
      rw [a, hsv, Option.bind_some]
      dsimp only
      rw [if_neg b2_nt, if_pos k13, if_pos k23, e1, e2, c1, Option.bind_some]
      dsimp only
      cases hb : bst J (st J a1) (fdP J l) L D (4 ^ bc (st J a1)) with
      | none => rfl
      | some b' =>
        rw [hb] at c2
        rw [show (some b').isSome = true from rfl, if_neg b2_nt]
        cases q with
        | none =>
          have hx : a3 = -1 := hq
          rw [if_pos hx]
          show some (N2.1 27 8, N2) = _
          rw [c2.1]
          rfl
        | some i =>
          obtain ⟨hx, hi, hbi⟩ := hq
          have h30 := c2.2 b' rfl i hi hbi
          rw [hx, if_neg (neg1I (by omega))]
          have hlo : f_X4_layerOf N2 (nI i) = some (nI (ly (st J a1) b' i)) := by
            unfold f_X4_layerOf
            simp (disch := omega) only [lit, ltI, leI, eqI, addI, mulI, subI, clI, ckI, if_pos, if_neg, if_true, if_false, Option.bind_some, b2_0, b2_n0, b2_1, b2_n1, Bool.true_eq_false, Bool.false_eq_true, b2_t, b2_f, h30]
          rw [hlo]
          rfl
    · obtain ⟨N1, S1, a, hpa, b, c, e⟩ := findPlan_nat hW (F := F) (S := S) (wea_any a2) hF hs (by omega) hJ hst
      have hJ1 := hJ.fr e
      have e431 : N1.1 43 = N.1 43 := e.1 43 (by decide) (by decide)
      have hM : 4 ^ bc (st J a1) ≤ 4096 := by
        have : (4 : Nat) ^ bc (st J a1) ≤ 4 ^ 6 := Nat.pow_le_pow_right (by decide) hbc
        exact this
      obtain ⟨N2, d1, d2⟩ := p82_loop (F := F) hW hs hsT hL4 hD hF hll h72 hM hq (4 ^ bc (st J a1)) 0 F N1 (Nat.zero_add _) (by omega) hJ1 (by rw [e431]; exact t1) (by rw [e431]; exact t2) (hpa l hfp)
      have hbi := bitsIn_nat (F := F) (M := N1) (k := st J a1) (by omega) hs
      have h62 := p62_loop (F := F) (y3 := a3) (y4 := nI (st J a1)) (y5 := -9) (y6 := 0) (N := N1) (bc (st J a1)) 0 F (by omega) hbc
      rw [Nat.zero_add] at h62
      have h62 : f_X10_pack_62 F F a3 (nI (st J a1)) (-9 : Int32) (0 : Int32) (1 : Int32) (nI (bc (st J a1))) N1 = f_X10_pack_82 F F a3 (nI (st J a1)) (-9 : Int32) (0 : Int32) (nI (4 ^ bc (st J a1))) (nI 0) N1 := h62
      refine ⟨N2, S1, ?_, b.fs (by rw [d2.1 36 (by decide) (by decide)]) (by rw [d2.1 50 (by decide) (by decide)]), by omega, e.trans d2.fr⟩
      unfold f_X10_pack_32
      rw [a, hsv, Option.bind_some]
      dsimp only
      rw [if_neg b2_nt, hbi, Option.bind_some, h62]
      exact d1
theorem pack_pair (hW : WJ J) (hF : 4100 ≤ F) (hL4 : L ≤ 4) (hD : D ≤ 999) (a1 a2 a3 : Int32) : ∃ v, (∀ N, HX J N 3 → N.1 35 1 = nI L → N.1 35 2 = nI D → ∃ N', f_X9_pack F N a1 a2 a3 = some (v, N') ∧ PKF N N') ∧ (∀ N S, HJ J N → STP N S → S + 131072 < 2 ^ 31 → N.1 43 1 = nI L → N.1 43 2 = nI D → ∃ N' S', f_X10_pack F N a1 a2 a3 = some (v, N') ∧ STP N' S' ∧ S' ≤ S + 131072 ∧ FR N N') := by
  have h6 := hW.1
  have hs := st_lt hW a1
  have hsl : st J a1 < 2 ^ nT J := Nat.mod_lt _ (Nat.two_pow_pos _)
  have hsT : ∀ j, (st J a1).testBit j = true → j < nT J := by
    intro j hj
    rcases Nat.lt_or_ge j (nT J) with h | h
    · exact h
    · rw [Nat.testBit_lt_two_pow (Nat.lt_of_lt_of_le hsl (Nat.pow_le_pow_right (by decide) h))] at hj
      cases hj
  by_cases c0 : a3 = -1
  · obtain ⟨v, p1, p2⟩ := pack_good (L := L) (D := D) hW hF hL4 hD a1 a2 a3 (q := none) c0
    refine ⟨v, fun N hJ t1 t2 => ?_, fun N S hJ hst hS t1 t2 => ?_⟩
    · obtain ⟨N', a, b⟩ := p1 N hJ t1 t2
      refine ⟨N', ?_, b⟩
      unfold f_X9_pack
      rw [if_pos c0, allX_nat hJ hW, st_and]
      exact a
    · obtain ⟨N', S', a, b⟩ := p2 N S hJ hst hS t1 t2
      refine ⟨N', S', ?_, b⟩
      unfold f_X10_pack
      rw [allR_nat hJ hW, Option.bind_some, if_pos c0, st_and]
      exact a
  by_cases c1 : ∃ i, i < 6 ∧ a3 = nI i ∧ (st J a1).testBit i = true
  · obtain ⟨i, hi, hx, hbi⟩ := c1
    have hit := hsT i hbi
    obtain ⟨v, p1, p2⟩ := pack_good (L := L) (D := D) hW hF hL4 hD a1 a2 a3 (q := some i) ⟨hx, hi, hbi⟩
    refine ⟨v, fun N hJ t1 t2 => ?_, fun N S hJ hst hS t1 t2 => ?_⟩
    · obtain ⟨N', a, b⟩ := p1 N hJ t1 t2
      refine ⟨N', ?_, b⟩
      have hh : f_X9_has N (nI (st J a1)) a3 = 1 := by
        rw [hx, has_nat (by omega) hi, hbi]
        rfl
      unfold f_X9_pack
      rw [if_neg c0, allX_nat hJ hW, st_and, hh, if_neg n10]
      exact a
    · obtain ⟨N', S', a, b⟩ := p2 N S hJ hst hS t1 t2
      refine ⟨N', S', ?_, b⟩
      have hh : f_X10_isOf N (nI (st J a1)) a3 = 1 := by
        rw [hx, isOf_nat (by omega) (by omega), hbi]
        rfl
      have ht : f_X10_isThing N a3 = some 1 := by rw [hx]; exact inThing_yes hJ hW hit
      unfold f_X10_pack
      rw [allR_nat hJ hW, Option.bind_some, if_neg c0, ht, Option.bind_some, if_neg n10, st_and, hh, if_neg n10]
      exact a
  · refine ⟨-1, fun N hJ t1 t2 => ⟨N, ?_, ⟨fun _ _ => rfl, fun _ _ => rfl⟩⟩, fun N S hJ hst hS t1 t2 => ⟨N, S, ?_, hst, by omega, FR.refl⟩⟩
    · unfold f_X9_pack
      rw [if_neg c0, allX_nat hJ hW, st_and]
      rcases has_any (M := N) (s := st J a1) (x := a3) (by omega) with ⟨i, hi, e, h⟩ | ⟨-, h⟩
      · cases hb : (st J a1).testBit i
        · rw [hb] at h
          rw [h]
          rfl
        · exact absurd ⟨i, hi, e, hb⟩ c1
      · rw [h, if_pos rfl]
    · unfold f_X10_pack
      rw [allR_nat hJ hW, Option.bind_some, if_neg c0]
      rcases isThing_any hJ hW a3 with ⟨i, hi, rfl⟩ | h
      · have hb : (st J a1).testBit i = false := by
          cases hb : (st J a1).testBit i
          · rfl
          · exact absurd ⟨i, by omega, rfl, hb⟩ c1
        have hh : f_X10_isOf N (nI (st J a1)) (nI i) = 0 := by
          rw [isOf_nat (by omega) (by omega), hb]
          rfl
        rw [inThing_yes hJ hW hi, Option.bind_some, if_neg n10, st_and, hh, if_pos rfl]
      · rw [h, Option.bind_some, if_pos rfl]
end PK
