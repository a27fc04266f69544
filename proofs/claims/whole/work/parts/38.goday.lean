-- part 38: the reference's day: all states behind it
theorem nI_b2 {q : Nat} (h : q ≤ 1) : nI q = b2 (decide (q = 1)) := by
  rcases (by omega : q = 0 ∨ q = 1) with rfl | rfl <;> rfl
theorem pairs9 : ∀ m, m < 64 → ∀ n, n < 64 → m &&& n = 0 → ((List.range 36).filter (fun p => m.testBit (p / 6) && n.testBit (p % 6))).length ≤ 9 := by decide +kernel
theorem tops_bit {J : Jr} {i : Nat} : (topsB J).testBit i = (decide (i < nT J) && isK J 0 i) := bitsTo_bit _ _ _
theorem bots_bit {J : Jr} {i : Nat} : (botsB J).testBit i = (decide (i < nT J) && isK J 1 i) := bitsTo_bit _ _ _
theorem coats_bit {J : Jr} {i : Nat} : (coatsB J).testBit i = (decide (i < nT J) && isK J 2 i) := bitsTo_bit _ _ _
theorem pair_len {J : Jr} (hW : WJ J) (s d n : Nat) (hn : n ≤ 36) : (pairL J s d n).length ≤ 9 := by
  have h1 : (pairL J s d n).length ≤ (pairL J s d 36).length := by
    unfold pairL
    refine List.Sublist.length_le (List.Sublist.filter _ ?_)
    obtain ⟨m, hm⟩ : ∃ m, 36 = n + m := ⟨36 - n, by omega⟩
    rw [hm, List.range_add]
    exact List.sublist_append_left _ _
  have h0 : topsB J &&& botsB J = 0 := by
    apply Nat.eq_of_testBit_eq
    intro i
    rw [Nat.testBit_and, tops_bit, bots_bit, Nat.zero_testBit]
    unfold isK
    by_cases c : tf J i 0 = 0
    · simp [c]
    · simp [c]
  have h2 := pairs9 (topsB J) (bits_lt hW _) (botsB J) (bits_lt hW _) h0
  have h3 : (pairL J s d 36).length ≤ ((List.range 36).filter (fun p => (topsB J).testBit (p / 6) && (botsB J).testBit (p % 6))).length := by
    unfold pairL
    rw [← List.countP_eq_length_filter, ← List.countP_eq_length_filter]
    apply List.countP_mono_left
    intro p hp h
    unfold suitP suitsB at h
    simp only [Bool.and_eq_true, decide_eq_true_eq] at h
    rw [tops_bit, bots_bit]
    simp [h.1.1.1.1.1.1.1.1.1, h.1.1.1.1.1.1.1.1.2, h.1.1.1.1.1.2, h.1.1.1.1.2]
  omega
theorem pairL_S {J : Jr} {s d n : Nat} : pairL J s d (n + 1) = if suitP J s d n then pairL J s d n ++ [n] else pairL J s d n := by
  unfold pairL
  rw [List.range_succ, List.filter_append]
  cases h : suitP J s d n <;> simp [h]
theorem getD_app {l : List Nat} {y : Nat} : (l ++ [y]).getD l.length 0 = y := by simp
theorem getD_lt {l : List Nat} {y j : Nat} (h : j < l.length) : (l ++ [y]).getD j 0 = l.getD j 0 := by
  rw [List.getD_eq_getElem?_getD, List.getD_eq_getElem?_getD, List.getElem?_append_left h]
-- which cells stay
def FS (N N' : Mem) : Prop := (∀ c, c ≠ 36 → c ≠ 48 → c ≠ 49 → c ≠ 50 → c ≠ 51 → N'.1 c = N.1 c) ∧ (∀ k, k ≠ 22 → k ≠ 23 → N'.1 36 k = N.1 36 k) ∧ N'.2 = N.2
theorem FS.refl {N : Mem} : FS N N := ⟨fun _ _ _ _ _ _ => rfl, fun _ _ _ => rfl, rfl⟩
theorem FS.trans {A B C : Mem} (h1 : FS A B) (h2 : FS B C) : FS A C := ⟨fun c a1 a2 a3 a4 a5 => (h2.1 c a1 a2 a3 a4 a5).trans (h1.1 c a1 a2 a3 a4 a5), fun k a1 a2 => (h2.2.1 k a1 a2).trans (h1.2.1 k a1 a2), h2.2.2.trans h1.2.2⟩
theorem setI_ne {N : Mem} {c k d : Nat} {v : Int32} (h : d ≠ c) : (setI N c k v).1 d = N.1 d := if_neg h
theorem setI_at {N : Mem} {c k : Nat} {v : Int32} : (setI N c k v).1 c k = v := by rw [setI_self, upd_at]
theorem setI_nk {N : Mem} {c k j : Nat} {v : Int32} (h : j ≠ k) : (setI N c k v).1 c j = N.1 c j := by rw [setI_self, upd_ne h]
theorem setI_2 {N : Mem} {c k : Nat} {v : Int32} : (setI N c k v).2 = N.2 := rfl
theorem FS.arr {N : Mem} {c k : Nat} {v : Int32} (h : c = 48 ∨ c = 49 ∨ c = 50 ∨ c = 51) : FS N (setI N c k v) := ⟨fun d a1 a2 a3 a4 a5 => setI_ne (by omega), fun j _ _ => by rw [setI_ne (by omega)], rfl⟩
theorem FS.fld {N : Mem} {k : Nat} {v : Int32} (h : k = 22 ∨ k = 23) : FS N (setI N 36 k v) := ⟨fun d a1 _ _ _ _ => setI_ne a1, fun j a1 a2 => setI_nk (by omega), rfl⟩
theorem HJ.fs {J : Jr} {N N' : Mem} (h : HJ J N) (f : FS N N') : HJ J N' := h.same (f.1 38 (by decide) (by decide) (by decide) (by decide) (by decide)) (f.1 41 (by decide) (by decide) (by decide) (by decide) (by decide)) (f.1 39 (by decide) (by decide) (by decide) (by decide) (by decide)) (f.1 42 (by decide) (by decide) (by decide) (by decide) (by decide)) (f.1 40 (by decide) (by decide) (by decide) (by decide) (by decide))
/-- the list of states -/
def LST (N : Mem) (l : List Nat) : Prop := N.1 36 22 = nI l.length ∧ l.length ≤ 4096 ∧ ∀ j, j < l.length → N.1 48 j = nI (l.getD j 0)
/-- the stamps, S the newest -/
def STP (N : Mem) (S : Nat) : Prop := N.1 36 23 = nI S ∧ ∀ j, j < 4096 → ∃ v, v ≤ S ∧ N.1 50 j = nI v
/-- what has been found so far -/
def GOT (N : Mem) (S : Nat) (acc : List Nat) : Prop := N.1 36 23 = nI S ∧ (∀ j, j < 4096 → ∃ v, v ≤ S ∧ N.1 50 j = nI v ∧ (v = S ↔ j ∈ acc)) ∧ (∀ j, j < acc.length → N.1 49 j = nI (acc.getD j 0)) ∧ acc.Nodup ∧ ∀ z ∈ acc, z < 4096
def F2 (N N' : Mem) : Prop := (∀ c, c ≠ 49 → c ≠ 50 → N'.1 c = N.1 c) ∧ N'.2 = N.2
theorem F2.refl {N : Mem} : F2 N N := ⟨fun _ _ _ => rfl, rfl⟩
theorem F2.trans {A B C : Mem} (h1 : F2 A B) (h2 : F2 B C) : F2 A C := ⟨fun c a1 a2 => (h2.1 c a1 a2).trans (h1.1 c a1 a2), h2.2.trans h1.2⟩
theorem F2.fs {N N' : Mem} (h : F2 N N') : FS N N' := ⟨fun c _ _ a3 a4 _ => h.1 c a3 a4, fun k _ _ => by rw [h.1 36 (by decide) (by decide)], h.2⟩
theorem got_add {N : Mem} {S y : Nat} {acc : List Nat} (h : GOT N S acc) (hS : S < 2 ^ 31) (hy : y < 4096) (hn : y ∉ acc) : GOT (setI (setI N 50 y (nI S)) 49 acc.length (nI y)) S (acc ++ [y]) ∧ F2 N (setI (setI N 50 y (nI S)) 49 acc.length (nI y)) := by
  obtain ⟨h1, h2, h3, h4, h5⟩ := h
  refine ⟨⟨?_, fun j hj => ?_, fun j hj => ?_, ?_, ?_⟩, fun c a1 a2 => ?_, rfl⟩
  · rw [setI_ne (by decide), setI_ne (by decide)]; exact h1
  · rw [setI_ne (by decide)]
    by_cases e : j = y
    · subst e
      exact ⟨S, Nat.le_refl _, setI_at, by simp⟩
    · obtain ⟨v, v1, v2, v3⟩ := h2 j hj
      exact ⟨v, v1, by rw [setI_nk e]; exact v2, by rw [v3]; simp [e]⟩
  · rw [List.length_append] at hj
    by_cases e : j = acc.length
    · subst e
      rw [setI_at, getD_app]
    · have hl : j < acc.length := by simp at hj; omega
      rw [setI_nk e, setI_ne (by decide), getD_lt hl]
      exact h3 j hl
  · have := nodup_ins (y := y) h4
    unfold ins at this
    rwa [if_neg hn] at this
  · intro z hz
    rcases List.mem_append.mp hz with h | h
    · exact h5 z h
    · rw [List.mem_singleton.mp h]; exact hy
  · rw [setI_ne a1, setI_ne a2]
theorem sub6 (p : Nat) : p - p / 6 * 6 = p % 6 := by omega
theorem inner {J : Jr} (hW : WJ J) {F s w d x i S : Nat} {pl acc0 : List Nat} {K : Int32 → Int32 → Int32 → Int32 → Int32 → Int32 → Mem → Option Mem} (hF : 7 ≤ F) (hs : s < 64) (hd : d < nD J) (hx : okH J s x) (hi : i < 4096) (hS : S < 2 ^ 31) (hpl : ∀ p ∈ pl, p < 36 ∧ suitP J s d p = true) (hl : pl.length ≤ 9) :
    ∀ (m k n : Nat) (N : Mem), k + m = pl.length * (1 + df J d 2) → m < n → HJ J N → (∀ j, j < pl.length → N.1 51 j = nI (pl.getD j 0)) → N.1 48 i = nI x → GOT N S (innL J s w d pl acc0 x k) →
      ∃ N', f_X10_goDay_102 F K n (nI s) (nI d) (nI pl.length) (b2 (soakB J s w d)) (nI (innL J s w d pl acc0 x k).length) (nI i) (nI k) N = K (nI s) (nI d) (nI pl.length) (b2 (soakB J s w d)) (nI (innL J s w d pl acc0 x (pl.length * (1 + df J d 2))).length) (nI (i + 1)) N' ∧ GOT N' S (innL J s w d pl acc0 x (pl.length * (1 + df J d 2))) ∧ F2 N N'
  | 0, k, n + 1, N, hk, _, hJ, hp, h48, hg => by
    have h8 := hW.2.1
    have hdd := (hW.2.2.2.1 d hd).2.2.1
    have e2 := hJ.2.2.2.1 d hd 2 (by decide)
    have hkk : k = pl.length * (1 + df J d 2) := by omega
    refine ⟨N, ?_, by rw [← hkk]; exact hg, F2.refl⟩
    rw [f_X10_goDay_102]
    have hb : pl.length * (1 + df J d 2) ≤ 18 := Nat.mul_le_mul hl (by omega : 1 + df J d 2 ≤ 2)
    simp (disch := omega) only [lit, ltI, leI, eqI, addI, mulI, subI, clI, ckI, if_pos, if_neg, if_true, if_false, Option.bind_some, b2_0, b2_n0, b2_1, b2_n1, Bool.true_eq_false, Bool.false_eq_true, b2_t, b2_f, e2]
    rw [← hkk]
  | m + 1, k, n + 1, N, hk, hn, hJ, hp, h48, hg => by
    have h6 := hW.1
    have h8 := hW.2.1
    have hdd := (hW.2.2.2.1 d hd).2.2.1
    have e2 := hJ.2.2.2.1 d hd 2 (by decide)
    have hb : pl.length * (1 + df J d 2) ≤ 18 := Nat.mul_le_mul hl (by omega : 1 + df J d 2 ≤ 2)
    have hpos : 0 < pl.length := by
      rcases Nat.eq_zero_or_pos pl.length with e | e
      · rw [e, Nat.zero_mul] at hk; omega
      · exact e
    have hm := Nat.mod_lt k hpos
    have hq : k / pl.length < 1 + df J d 2 := Nat.div_lt_of_lt_mul (by omega)
    have hg51 := hp (k % pl.length) hm
    have hmem : pl.getD (k % pl.length) 0 ∈ pl := by
      rw [List.getD_eq_getElem?_getD, List.getElem?_eq_getElem hm]
      exact List.getElem_mem hm
    obtain ⟨p36, hsu⟩ := hpl _ hmem
    have hx1 := hx.1
    have hstep : innL J s w d pl acc0 x (k + 1) = if (rdy x (pl.getD (k % pl.length) 0 / 6) && rdy x (pl.getD (k % pl.length) 0 % 6)) = true then ins (innL J s w d pl acc0 x k) (nx J s w d x (pl.getD (k % pl.length) 0) (k / pl.length)) else innL J s w d pl acc0 x k := rfl
    have ih := inner hW (F := F) (w := w) (i := i) (acc0 := acc0) (K := K) hF hs hd hx hi hS hpl hl m (k + 1) n
    generalize hacc : innL J s w d pl acc0 x k = acc at hg hstep ⊢
    generalize innL J s w d pl acc0 x (pl.length * (1 + df J d 2)) = R at ih ⊢
    generalize hp' : pl.getD (k % pl.length) 0 = p at hg51 hsu p36 hstep
    have hlen := pigeon 4096 acc hg.2.2.2.1 hg.2.2.2.2
    have hok : okP J s d x p = true → p / 6 < nT J ∧ p % 6 < nT J ∧ s.testBit (p / 6) = true ∧ s.testBit (p % 6) = true ∧ p / 6 ≠ p % 6 ∧ rdy x (p / 6) = true ∧ rdy x (p % 6) = true := okP_of
    rw [f_X10_goDay_102]
    simp only [vlet]
    rw [pk_rem (by omega) hpos (by omega)]
    have hc18 : ¬ pl.length * (1 + df J d 2) ≤ k := by omega
    simp (disch := omega) only [lit, ltI, leI, eqI, addI, mulI, subI, clI, ckI, if_pos, if_neg, if_true, if_false, Option.bind_some, b2_0, b2_n0, b2_1, b2_n1, Bool.true_eq_false, Bool.false_eq_true, b2_t, b2_f, e2, hc18, divI, hg51, sub6, h48, wearable_nat]
    cases r1 : rdy x (p / 6)
    · rw [r1, Bool.false_and, if_neg (by decide)] at hstep
      simp (disch := omega) only [lit, ltI, leI, eqI, addI, mulI, subI, clI, ckI, if_pos, if_neg, if_true, if_false, Option.bind_some, b2_0, b2_n0, b2_1, b2_n1, Bool.true_eq_false, Bool.false_eq_true, b2_t, b2_f]
      have := ih N (by omega) (by omega) hJ hp h48 (by rw [hstep]; exact hg)
      rw [hstep] at this
      exact this
    · cases r2 : rdy x (p % 6)
      · rw [r1, r2, Bool.and_false, if_neg (by decide)] at hstep
        simp (disch := omega) only [lit, ltI, leI, eqI, addI, mulI, subI, clI, ckI, if_pos, if_neg, if_true, if_false, Option.bind_some, b2_0, b2_n0, b2_1, b2_n1, Bool.true_eq_false, Bool.false_eq_true, b2_t, b2_f]
        have := ih N (by omega) (by omega) hJ hp h48 (by rw [hstep]; exact hg)
        rw [hstep] at this
        exact this
      · rw [r1, r2, Bool.and_self, if_pos rfl] at hstep
        have hokp : okP J s d x p = true := by unfold okP; rw [hsu, r1, r2]; rfl
        obtain ⟨q1, q2, q3, q4, q5, -, -⟩ := hok hokp
        have hy := (nx_ok (w := w) (c := k / pl.length) hW hx hokp).1
        have hnI : nI (k / pl.length) = b2 (decide (k / pl.length = 1)) := nI_b2 (by omega)
        have hbe := behind_nat (F := F) (ws := decide (k / pl.length = 1)) (k := soakB J s w d) hJ hW hF hs hx1 q1 q2
        rw [hnI]
        have hbe : f_X10_behind F N (nI x) (nI s) (nI (p / 6)) (nI (p % 6)) (b2 (decide (k / pl.length = 1))) (b2 (soakB J s w d)) = some (nI (nx J s w d x p (k / pl.length))) := hbe
        generalize nx J s w d x p (k / pl.length) = y at hy hstep hbe
        obtain ⟨v, v1, v2, v3⟩ := hg.2.1 y hy
        simp (disch := omega) only [lit, ltI, leI, eqI, addI, mulI, subI, clI, ckI, if_pos, if_neg, if_true, if_false, Option.bind_some, b2_0, b2_n0, b2_1, b2_n1, Bool.true_eq_false, Bool.false_eq_true, b2_t, b2_f, hbe, v2, hg.1]
        by_cases c : v = S
        · have hin := v3.mp c
          unfold ins at hstep
          rw [if_pos hin] at hstep
          simp (disch := omega) only [lit, ltI, leI, eqI, addI, mulI, subI, clI, ckI, if_pos, if_neg, if_true, if_false, Option.bind_some, b2_0, b2_n0, b2_1, b2_n1, Bool.true_eq_false, Bool.false_eq_true, b2_t, b2_f]
          have := ih N (by omega) (by omega) hJ hp h48 (by rw [hstep]; exact hg)
          rw [hstep] at this
          exact this
        · have hin : y ∉ acc := fun h => c (v3.mpr h)
          unfold ins at hstep
          rw [if_neg hin] at hstep
          have hl2 := pigeon 4096 (acc ++ [y]) (by
            have := nodup_ins (y := y) hg.2.2.2.1
            unfold ins at this
            rwa [if_neg hin] at this) (fun z hz => by
            rcases List.mem_append.mp hz with h | h
            · exact hg.2.2.2.2 z h
            · rw [List.mem_singleton.mp h]; exact hy)
          rw [List.length_append, List.length_singleton] at hl2
          obtain ⟨g1, g2⟩ := got_add hg hS hy hin
          simp (disch := omega) only [lit, ltI, leI, eqI, addI, mulI, subI, clI, ckI, if_pos, if_neg, if_true, if_false, Option.bind_some, b2_0, b2_n0, b2_1, b2_n1, Bool.true_eq_false, Bool.false_eq_true, b2_t, b2_f]
          have := ih _ (by omega) (by omega) (hJ.fs g2.fs) (fun j hj => by rw [g2.1 51 (by decide) (by decide)]; exact hp j hj) (by rw [g2.1 48 (by decide) (by decide)]; exact h48) (by rw [hstep]; exact g1)
          rw [hstep, List.length_append, List.length_singleton] at this
          obtain ⟨N', a1, a2, a3⟩ := this
          exact ⟨N', a1, a2, g2.trans a3⟩
  | _, _, 0, _, _, hn, _, _, _, _ => absurd hn (Nat.not_lt_zero _)
def F1 (N N' : Mem) : Prop := (∀ c, c ≠ 48 → N'.1 c = N.1 c) ∧ N'.2 = N.2
theorem copyL {F : Nat} {L : List Nat} (hl : L.length ≤ 4096) : ∀ (m j n : Nat) (N : Mem), j + m = L.length → m < n → (∀ k, k < L.length → N.1 49 k = nI (L.getD k 0)) → (∀ k, k < j → N.1 48 k = nI (L.getD k 0)) → ∃ N', f_X10_goDay_261 F n (nI L.length) (nI j) N = some N' ∧ (∀ k, k < L.length → N'.1 48 k = nI (L.getD k 0)) ∧ F1 N N'
  | 0, j, n + 1, N, hj, _, h1, h2 => by
    refine ⟨N, ?_, fun k hk => h2 k (by omega), fun _ _ => rfl, rfl⟩
    rw [f_X10_goDay_261]
    simp (disch := omega) only [lit, ltI, leI, eqI, addI, mulI, subI, clI, ckI, if_pos, if_neg, if_true, if_false, Option.bind_some, b2_0, b2_n0, b2_1, b2_n1, Bool.true_eq_false, Bool.false_eq_true, b2_t, b2_f]
  | m + 1, j, n + 1, N, hj, hn, h1, h2 => by
    have e := h1 j (by omega)
    obtain ⟨N', a1, a2, a3⟩ := copyL (F := F) hl m (j + 1) n (setI N 48 j (nI (L.getD j 0))) (by omega) (by omega) (fun k hk => by rw [setI_ne (by decide)]; exact h1 k hk) (fun k hk => by
      by_cases c : k = j
      · subst c; exact setI_at
      · rw [setI_nk c]; exact h2 k (by omega))
    refine ⟨N', ?_, a2, fun c hc => (a3.1 c hc).trans (setI_ne hc), a3.2⟩
    rw [f_X10_goDay_261]
    simp only [vlet]
    simp (disch := omega) only [lit, ltI, leI, eqI, addI, mulI, subI, clI, ckI, if_pos, if_neg, if_true, if_false, Option.bind_some, b2_0, b2_n0, b2_1, b2_n1, Bool.true_eq_false, Bool.false_eq_true, b2_t, b2_f, e]
    exact a1
  | _, _, 0, _, _, hn, _, _ => absurd hn (Nat.not_lt_zero _)
theorem outer {J : Jr} (hW : WJ J) {F s w d S : Nat} {pl l : List Nat} (hF : 4100 ≤ F) (hs : s < 64) (hd : d < nD J) (hl : ∀ x ∈ l, okH J s x) (hll : l.length ≤ 4096) (hS : S < 2 ^ 31) (hpl : ∀ p ∈ pl, p < 36 ∧ suitP J s d p = true) (hl9 : pl.length ≤ 9) :
    ∀ (m i n : Nat) (N : Mem), i + m = l.length → m < n → HJ J N → (∀ j, j < pl.length → N.1 51 j = nI (pl.getD j 0)) → LST N l → GOT N S (outL J s w d pl l (pl.length * (1 + df J d 2)) i) →
      ∃ N', f_X10_goDay_90 F n (nI s) (nI d) (nI pl.length) (b2 (soakB J s w d)) (nI (outL J s w d pl l (pl.length * (1 + df J d 2)) i).length) (nI i) N = some N' ∧ LST N' (outL J s w d pl l (pl.length * (1 + df J d 2)) l.length) ∧ STP N' S ∧ FS N N'
  | 0, i, n + 1, N, hi, _, hJ, hp, h48, hg => by
    have hii : i = l.length := by omega
    generalize hR : outL J s w d pl l (pl.length * (1 + df J d 2)) i = R at hg ⊢
    have hR2 : outL J s w d pl l (pl.length * (1 + df J d 2)) l.length = R := by rw [← hR, hii]
    rw [hR2]
    have hlen := pigeon 4096 R hg.2.2.2.1 hg.2.2.2.2
    obtain ⟨N', a1, a2, a3⟩ := copyL (F := F) (L := R) hlen R.length 0 F (setI N 36 22 (nI R.length)) (by omega) (by omega) (fun k hk => by rw [setI_ne (by decide)]; exact hg.2.2.1 k hk) (fun k hk => absurd hk (Nat.not_lt_zero _))
    refine ⟨N', ?_, ⟨by rw [a3.1 36 (by decide)]; exact setI_at, hlen, a2⟩, ⟨by rw [a3.1 36 (by decide), setI_nk (by decide)]; exact hg.1, fun j hj => ?_⟩, (FS.fld (Or.inl rfl)).trans ⟨fun c _ h2 _ _ _ => a3.1 c h2, fun k _ _ => by rw [a3.1 36 (by decide)], a3.2⟩⟩
    · rw [f_X10_goDay_90]
      simp only [vlet]
      simp (disch := omega) only [lit, ltI, leI, eqI, addI, mulI, subI, clI, ckI, if_pos, if_neg, if_true, if_false, Option.bind_some, b2_0, b2_n0, b2_1, b2_n1, Bool.true_eq_false, Bool.false_eq_true, b2_t, b2_f, h48.1]
      exact a1
    · obtain ⟨v, v1, v2, -⟩ := hg.2.1 j hj
      exact ⟨v, v1, by rw [a3.1 50 (by decide), setI_ne (by decide)]; exact v2⟩
  | m + 1, i, n + 1, N, hi, hn, hJ, hp, h48, hg => by
    have hil : i < l.length := by omega
    have hx : okH J s (l.getD i 0) := hl _ (by rw [List.getD_eq_getElem?_getD, List.getElem?_eq_getElem hil]; exact List.getElem_mem hil)
    obtain ⟨N', a1, a2, a3⟩ := inner (w := w) (acc0 := outL J s w d pl l (pl.length * (1 + df J d 2)) i) (K := fun y1 y3 y4 y5 y6 y7 N => f_X10_goDay_90 F n y1 y3 y4 y5 y6 y7 N) (i := i) hW (F := F) (by omega) hs hd hx (by omega) hS hpl hl9 (pl.length * (1 + df J d 2)) 0 F N (by omega) (by
      have h2 := (hW.2.2.2.1 d hd).2.2.1
      have hb : pl.length * (1 + df J d 2) ≤ 18 := Nat.mul_le_mul hl9 (by omega : 1 + df J d 2 ≤ 2)
      omega) hJ hp (h48.2.2 i hil) hg
    obtain ⟨N2, b1, b2', b3, b4⟩ := outer hW (F := F) (w := w) hF hs hd hl hll hS hpl hl9 m (i + 1) n N' (by omega) (by omega) (hJ.fs a3.fs) (fun j hj => by rw [a3.1 51 (by decide) (by decide)]; exact hp j hj) ⟨by rw [a3.1 36 (by decide) (by decide)]; exact h48.1, h48.2.1, fun j hj => by rw [a3.1 48 (by decide) (by decide)]; exact h48.2.2 j hj⟩ a2
    refine ⟨N2, ?_, b2', b3, a3.fs.trans b4⟩
    rw [f_X10_goDay_90]
    simp only [vlet]
    simp (disch := omega) only [lit, ltI, leI, eqI, addI, mulI, subI, clI, ckI, if_pos, if_neg, if_true, if_false, Option.bind_some, b2_0, b2_n0, b2_1, b2_n1, Bool.true_eq_false, Bool.false_eq_true, b2_t, b2_f, h48.1]
    exact a1.trans b1
  | _, _, 0, _, _, hn, _, _, _, _ => absurd hn (Nat.not_lt_zero _)
theorem rain_nat {M : Mem} {w d : Nat} {x : Int32} (hx : (x >>> (nI d &&& 31)) &&& 1 = b2 (w.testBit d)) : f_X10_isRain M x (nI d) = b2 (w.testBit d) := by
  unfold f_X10_isRain
  rw [hx]
  cases w.testBit d <;> rfl
/-- a weather as the class's and the reference's number: its bits below 8 -/
def wea (x : Int32) (w : Nat) : Prop := ∀ d, d < 8 → (x >>> (nI d &&& 31)) &&& 1 = b2 (w.testBit d)
theorem stp_up {N : Mem} {S : Nat} (h : STP N S) : STP (setI N 36 23 (nI (S + 1))) (S + 1) ∧ GOT (setI N 36 23 (nI (S + 1))) (S + 1) [] := by
  refine ⟨⟨setI_at, fun j hj => ?_⟩, setI_at, fun j hj => ?_, fun j hj => absurd hj (Nat.not_lt_zero _), List.nodup_nil, fun z hz => absurd hz List.not_mem_nil⟩
  · obtain ⟨v, v1, v2⟩ := h.2 j hj
    exact ⟨v, by omega, by rw [setI_ne (by decide)]; exact v2⟩
  · obtain ⟨v, v1, v2⟩ := h.2 j hj
    exact ⟨v, by omega, by rw [setI_ne (by decide)]; exact v2, by simp; omega⟩
theorem pairs_loop {J : Jr} (hW : WJ J) {F s w d S : Nat} {xw : Int32} {l : List Nat} (hw : wea xw w) (hF : 4100 ≤ F) (hs : s < 64) (hd : d < nD J) (hl : ∀ x ∈ l, okH J s x) (hS : S + 1 < 2 ^ 31) :
    ∀ (m k n : Nat) (N : Mem), k + m = 36 → m < n → HJ J N → (∀ j, j < (pairL J s d k).length → N.1 51 j = nI ((pairL J s d k).getD j 0)) → LST N l → STP N S →
      ∃ N', f_X10_goDay_6 F n (nI s) xw (nI d) (nI (pairL J s d k).length) (nI k) N = some N' ∧ LST N' (dayL J s w d l) ∧ STP N' (S + 1) ∧ FS N N'
  | 0, k, n + 1, N, hk, _, hJ, hp, h48, hst => by
    have h8 := hW.2.1
    have hk36 : k = 36 := by omega
    subst hk36
    have hpl : ∀ p ∈ pairL J s d 36, p < 36 ∧ suitP J s d p = true := fun p h => mem_pairL.mp h
    obtain ⟨g1, g2⟩ := stp_up hst
    have hf : FS N (setI N 36 23 (nI (S + 1))) := FS.fld (Or.inr rfl)
    obtain ⟨N', a1, a2, a3, a4⟩ := outer (w := w) hW (F := F) hF hs hd hl h48.2.1 hS hpl (pair_len hW s d 36 (by decide)) l.length 0 F (setI N 36 23 (nI (S + 1))) (by omega) (by have := h48.2.1; omega) (hJ.fs hf) (fun j hj => by rw [setI_ne (by decide)]; exact hp j hj) ⟨by rw [setI_nk (by decide)]; exact h48.1, h48.2.1, fun j hj => by rw [setI_ne (by decide)]; exact h48.2.2 j hj⟩ g2
    refine ⟨N', ?_, a2, a3, hf.trans a4⟩
    rw [f_X10_goDay_6]
    simp only [vlet]
    rw [rain_nat (w := w) (hw d (by omega))]
    simp (disch := omega) only [lit, ltI, leI, eqI, addI, mulI, subI, clI, ckI, if_pos, if_neg, if_true, if_false, Option.bind_some, b2_0, b2_n0, b2_1, b2_n1, Bool.true_eq_false, Bool.false_eq_true, b2_t, b2_f, coatR_nat hJ hW, hst.1]
    unfold soakB at a1
    cases hwd : w.testBit d
    · rw [hwd] at a1
      simp (disch := omega) only [lit, ltI, leI, eqI, addI, mulI, subI, clI, ckI, if_pos, if_neg, if_true, if_false, Option.bind_some, b2_0, b2_n0, b2_1, b2_n1, Bool.true_eq_false, Bool.false_eq_true, b2_t, b2_f]
      exact a1
    · rw [hwd] at a1
      cases hc : hasCoat J s
      · rw [hc] at a1
        simp (disch := omega) only [lit, ltI, leI, eqI, addI, mulI, subI, clI, ckI, if_pos, if_neg, if_true, if_false, Option.bind_some, b2_0, b2_n0, b2_1, b2_n1, Bool.true_eq_false, Bool.false_eq_true, b2_t, b2_f]
        exact a1
      · rw [hc] at a1
        simp (disch := omega) only [lit, ltI, leI, eqI, addI, mulI, subI, clI, ckI, if_pos, if_neg, if_true, if_false, Option.bind_some, b2_0, b2_n0, b2_1, b2_n1, Bool.true_eq_false, Bool.false_eq_true, b2_t, b2_f]
        exact a1
  | m + 1, k, n + 1, N, hk, hn, hJ, hp, h48, hst => by
    have h8 := hW.2.1
    have hmw := mayWear_nat (F := F) hJ hW hs (show 7 ≤ F by omega) hd (show k / 6 < 6 by omega) (show k % 6 < 6 by omega)
    have hlen := pair_len hW s d k (by omega)
    rw [f_X10_goDay_6]
    simp only [vlet]
    simp (disch := omega) only [lit, ltI, leI, eqI, addI, mulI, subI, clI, ckI, if_pos, if_neg, if_true, if_false, Option.bind_some, b2_0, b2_n0, b2_1, b2_n1, Bool.true_eq_false, Bool.false_eq_true, b2_t, b2_f, divI, sub6, hmw]
    have hS1 := pairL_S (J := J) (s := s) (d := d) (n := k)
    have ih := pairs_loop hW (F := F) hw hF hs hd hl hS m (k + 1) n
    unfold suitP at hS1
    cases hsu : suitsB J s d (k / 6) (k % 6)
    · rw [hsu, if_neg (by decide)] at hS1
      rw [hS1] at ih
      simp (disch := omega) only [lit, ltI, leI, eqI, addI, mulI, subI, clI, ckI, if_pos, if_neg, if_true, if_false, Option.bind_some, b2_0, b2_n0, b2_1, b2_n1, Bool.true_eq_false, Bool.false_eq_true, b2_t, b2_f]
      exact ih N (by omega) (by omega) hJ hp h48 hst
    · rw [hsu, if_pos rfl] at hS1
      have h9 := pair_len hW s d (k + 1) (by omega)
      rw [hS1, List.length_append, List.length_singleton] at h9
      rw [hS1] at ih
      simp (disch := omega) only [lit, ltI, leI, eqI, addI, mulI, subI, clI, ckI, if_pos, if_neg, if_true, if_false, Option.bind_some, b2_0, b2_n0, b2_1, b2_n1, Bool.true_eq_false, Bool.false_eq_true, b2_t, b2_f]
      have hf : FS N (setI N 51 (pairL J s d k).length (nI k)) := FS.arr (by omega)
      obtain ⟨N', a1, a2, a3, a4⟩ := ih (setI N 51 (pairL J s d k).length (nI k)) (by omega) (by omega) (hJ.fs hf) (fun j hj => by
        rw [List.length_append, List.length_singleton] at hj
        by_cases c : j = (pairL J s d k).length
        · subst c; rw [setI_at, getD_app]
        · rw [setI_nk c, getD_lt (by omega)]; exact hp j (by omega)) ⟨by rw [setI_ne (by decide)]; exact h48.1, h48.2.1, fun j hj => by rw [setI_ne (by decide)]; exact h48.2.2 j hj⟩ ⟨by rw [setI_ne (by decide)]; exact hst.1, fun j hj => by rw [setI_ne (by decide)]; exact hst.2 j hj⟩
      rw [List.length_append, List.length_singleton] at a1
      exact ⟨N', a1, a2, a3, hf.trans a4⟩
  | _, _, 0, _, _, hn, _, _, _, _ => absurd hn (Nat.not_lt_zero _)
/-- the reference's day -/
theorem goDay_nat {J : Jr} (hW : WJ J) {F s w d S : Nat} {xw : Int32} {l : List Nat} {N : Mem} (hw : wea xw w) (hF : 4100 ≤ F) (hs : s < 64) (hd : d < nD J) (hl : ∀ x ∈ l, okH J s x) (hS : S + 1 < 2 ^ 31) (hJ : HJ J N) (h48 : LST N l) (hst : STP N S) : ∃ N', f_X10_goDay F N (nI s) xw (nI d) = some N' ∧ LST N' (dayL J s w d l) ∧ STP N' (S + 1) ∧ FS N N' := by
  unfold f_X10_goDay
  exact pairs_loop hW hw hF hs hd hl hS 36 0 F N (by omega) (by omega) hJ (fun j hj => absurd hj (Nat.not_lt_zero _)) h48 hst
