-- part 91: the reference's tokens
def NX (N N' : Mem) : Prop := (∀ c, c ≠ 36 → N'.1 c = N.1 c) ∧ (∀ k, k ≠ 9 → k ≠ 10 → k ≠ 11 → k ≠ 12 → N'.1 36 k = N.1 36 k) ∧ N'.2 = N.2
theorem NX.refl {N : Mem} : NX N N := ⟨fun _ _ => rfl, fun _ _ _ _ _ => rfl, rfl⟩
theorem NX.trans {A B C : Mem} (h1 : NX A B) (h2 : NX B C) : NX A C := ⟨fun c a => (h2.1 c a).trans (h1.1 c a), fun k a b c d => (h2.2.1 k a b c d).trans (h1.2.1 k a b c d), h2.2.2.trans h1.2.2⟩
theorem NX.fld {N : Mem} {k : Nat} {x : Int32} (h : k = 9 ∨ k = 10 ∨ k = 11 ∨ k = 12) : NX N (setI N 36 k x) := ⟨fun c hc => setI_ne hc, fun j _ _ _ _ => setI_nk (by omega), rfl⟩
theorem TYY.nx {T : TL} {N N' : Mem} (h : TYY T N) (f : NX N N') : TYY T N' := by
  refine ⟨?_, fun j hj => ?_⟩
  · rw [f.2.1 2 (by decide) (by decide) (by decide) (by decide)]; exact h.1
  · rw [f.1 37 (by decide)]; exact h.2 j hj
section NXT
variable {T : TL} {N : Mem} {F : Nat}
theorem here_in (hT : WTx T) (hY : TYY T N) {p : Nat} (h9 : N.1 36 9 = nI p) (hp : p < T.length) : f_X10_here N = some (nI (T.getD p 0)) := by
  have h5 := hT.1
  have h : N.1 37 p &&& nI 255 = nI (T.getD p 0) := hY.2 p hp
  unfold f_X10_here
  rw [hY.1, h9]
  simp (disch := omega) only [lit, ltI, leI, eqI, addI, mulI, subI, clI, ckI, if_pos, if_neg, if_true, if_false, Option.bind_some, b2_0, b2_n0, b2_1, b2_n1, Bool.true_eq_false, Bool.false_eq_true, b2_t, b2_f, h]
theorem here_out (hT : WTx T) (hY : TYY T N) {p : Nat} (h9 : N.1 36 9 = nI p) (hp : T.length ≤ p) (hp2 : p < 1000) : f_X10_here N = some (-1) := by
  have h5 := hT.1
  unfold f_X10_here
  rw [hY.1, h9]
  simp (disch := omega) only [lit, ltI, leI, eqI, addI, mulI, subI, clI, ckI, if_pos, if_neg, if_true, if_false, Option.bind_some, b2_0, b2_n0, b2_1, b2_n1, Bool.true_eq_false, Bool.false_eq_true, b2_t, b2_f]
theorem inL {M : Mem} {x : Nat} (hx : x < 256) : f_X10_in M (nI x) (97 : Int32) (122 : Int32) = b2 (isL x) := by
  have := in_nat (M := M) (a := x) (lo := 97) (hi := 122) (by omega) (by decide) (by decide)
  exact this
theorem inD {M : Mem} {x : Nat} (hx : x < 256) : f_X10_in M (nI x) (48 : Int32) (57 : Int32) = b2 (isD x) := by
  have := in_nat (M := M) (a := x) (lo := 48) (hi := 57) (by omega) (by decide) (by decide)
  exact this
theorem inL_no {M : Mem} : f_X10_in M (-1 : Int32) (97 : Int32) (122 : Int32) = 0 := if_pos (by decide)
theorem inD_no {M : Mem} : f_X10_in M (-1 : Int32) (48 : Int32) (57 : Int32) = 0 := if_pos (by decide)
def ltA (T : TL) (q p : Nat) : Nat := if p - q ≤ 6 then vl 0 (sl T q (p - q)) else 0
theorem ltA_lt {q p : Nat} (hL : ∀ j, q ≤ j → j < p → isL (T.getD j 0) = true) : ltA T q p < 387420489 ∧ (p - q ≤ 5 → ltA T q p < 14348907) := by
  unfold ltA
  have hmem : ∀ x ∈ sl T q (p - q), 97 ≤ x ∧ x ≤ 122 := by
    intro x hx
    obtain ⟨j, h1, h2, h3⟩ := sl_mem _ _ _ hx
    have := hL j h1 (by omega)
    unfold isL at this
    simp only [Bool.and_eq_true, decide_eq_true_eq] at this
    omega
  have hb := vl_bound (sl T q (p - q)).reverse (fun x hx => hmem x (List.mem_reverse.mp hx))
  rw [← vl_0, List.length_reverse, sl_len] at hb
  have e6 : (27 : Nat) ^ 6 = 387420489 := by decide
  have e5 : (27 : Nat) ^ 5 = 14348907 := by decide
  by_cases c : p - q ≤ 6
  · rw [if_pos c]
    have h6 : (27 : Nat) ^ (p - q) ≤ 27 ^ 6 := Nat.pow_le_pow_right (by decide) c
    refine ⟨by omega, fun c5 => ?_⟩
    have h5 : (27 : Nat) ^ (p - q) ≤ 27 ^ 5 := Nat.pow_le_pow_right (by decide) c5
    omega
  · rw [if_neg c]
    exact ⟨by decide, fun _ => by decide⟩
/-- the end of a word -/
theorem wordEnd (hT : WTx T) {q p : Nat} (hq : q ≤ p) (hp : p ≤ T.length) (hL : ∀ j, q ≤ j → j < p → isL (T.getD j 0) = true) {M : Mem} : (p - q ≤ 6 → f_X10_meaning M (nI (ltA T q p)) = nI (srt (wcL (sl T q (p - q))))) ∧ (6 < p - q → f_X10_meaning M (0 : Int32) = nI (srt (wcL (sl T q (p - q))))) := by
  have hmem : ∀ x ∈ sl T q (p - q), 97 ≤ x ∧ x ≤ 122 := by
    intro x hx
    obtain ⟨j, h1, h2, h3⟩ := sl_mem _ _ _ hx
    have := hL j h1 (by omega)
    unfold isL at this
    simp only [Bool.and_eq_true, decide_eq_true_eq] at this
    omega
  refine ⟨fun c => ?_, fun c => ?_⟩
  · unfold ltA
    rw [if_pos c]
    exact meaning_nat hmem (by rw [sl_len]; exact c)
  · rw [wcL_long (by rw [sl_len]; exact c)]
    rfl
theorem word_loop (hT : WTx T) {q : Nat} : ∀ (m p n : Nat) (N : Mem), p + m = T.length → m < n → q ≤ p → (∀ j, q ≤ j → j < p → isL (T.getD j 0) = true) → TYY T N → N.1 36 9 = nI p → N.1 36 10 = nI q → ∃ N', f_X10_next_66 F n (nI (ltA T q p)) N = some N' ∧ N'.1 36 9 = nI (run T isL p) ∧ N'.1 36 10 = nI q ∧ N'.1 36 11 = nI (srt (wcL (sl T q (run T isL p - q)))) ∧ NX N N'
  | 0, p, n + 1, N, hp, _, hq, hL, hY, h9, h10 => by
    have h5 := hT.1
    have hw := wordEnd hT hq (by omega) hL (M := N)
    rw [run_end (by omega)]
    have hx := here_out hT hY h9 (by omega) (by omega)
    rw [f_X10_next_66, hx, Option.bind_some, inL_no, if_pos rfl, h9, h10]
    simp only [vlet]
    by_cases c : p - q ≤ 6
    · refine ⟨setI N 36 11 (f_X10_meaning N (nI (ltA T q p))), ?_, ?_, ?_, ?_, NX.fld (by decide)⟩
      · simp (disch := omega) only [lit, ltI, leI, eqI, addI, mulI, subI, clI, ckI, if_pos, if_neg, if_true, if_false, Option.bind_some, b2_0, b2_n0, b2_1, b2_n1, Bool.true_eq_false, Bool.false_eq_true, b2_t, b2_f]
      · rw [setI_nk (by decide)]; exact h9
      · rw [setI_nk (by decide)]; exact h10
      · rw [setI_at]; exact hw.1 c
    · refine ⟨setI N 36 11 (f_X10_meaning N (0 : Int32)), ?_, ?_, ?_, ?_, NX.fld (by decide)⟩
      · simp (disch := omega) only [lit, ltI, leI, eqI, addI, mulI, subI, clI, ckI, if_pos, if_neg, if_true, if_false, Option.bind_some, b2_0, b2_n0, b2_1, b2_n1, Bool.true_eq_false, Bool.false_eq_true, b2_t, b2_f]
      · rw [setI_nk (by decide)]; exact h9
      · rw [setI_nk (by decide)]; exact h10
      · rw [setI_at]; exact hw.2 (by omega)
  | m + 1, p, n + 1, N, hp, hn, hq, hL, hY, h9, h10 => by
    have h5 := hT.1
    have hb := tb_lt hT p
    have hx := here_in hT hY h9 (by omega)
    have hl := inL (M := N) hb
    rw [f_X10_next_66, hx, Option.bind_some, Option.bind_some, hl, h9, h10]
    simp only [vlet]
    cases hd : isL (T.getD p 0)
    · have hw := wordEnd hT hq (by omega) hL (M := N)
      rw [run_no hd, if_pos b2_f]
      by_cases c : p - q ≤ 6
      · refine ⟨setI N 36 11 (f_X10_meaning N (nI (ltA T q p))), ?_, ?_, ?_, ?_, NX.fld (by decide)⟩
        · simp (disch := omega) only [lit, ltI, leI, eqI, addI, mulI, subI, clI, ckI, if_pos, if_neg, if_true, if_false, Option.bind_some, b2_0, b2_n0, b2_1, b2_n1, Bool.true_eq_false, Bool.false_eq_true, b2_t, b2_f]
        · rw [setI_nk (by decide)]; exact h9
        · rw [setI_nk (by decide)]; exact h10
        · rw [setI_at]; exact hw.1 c
      · refine ⟨setI N 36 11 (f_X10_meaning N (0 : Int32)), ?_, ?_, ?_, ?_, NX.fld (by decide)⟩
        · simp (disch := omega) only [lit, ltI, leI, eqI, addI, mulI, subI, clI, ckI, if_pos, if_neg, if_true, if_false, Option.bind_some, b2_0, b2_n0, b2_1, b2_n1, Bool.true_eq_false, Bool.false_eq_true, b2_t, b2_f]
        · rw [setI_nk (by decide)]; exact h9
        · rw [setI_nk (by decide)]; exact h10
        · rw [setI_at]; exact hw.2 (by omega)
    · have hlt := (ltA_lt hL).2
      have hL' : ∀ j, q ≤ j → j < p + 1 → isL (T.getD j 0) = true := by
        intro j h1 h2
        by_cases e : j = p
        · rw [e]; exact hd
        · exact hL j h1 (by omega)
      have hN : NX N (setI N 36 9 (nI (p + 1))) := NX.fld (by decide)
      obtain ⟨N1, a1, a2, a3, a4, a5⟩ := word_loop hT m (p + 1) n (setI N 36 9 (nI (p + 1))) (by omega) (by omega) (by omega) hL' (hY.nx hN) setI_at (by rw [setI_nk (by decide)]; exact h10)
      rw [run_go (by omega) hd, if_neg b2_nt]
      refine ⟨N1, ?_, a2, a3, a4, hN.trans a5⟩
      have hr : 97 ≤ T.getD p 0 ∧ T.getD p 0 ≤ 122 := by
        have := hd
        unfold isL at this
        simp only [Bool.and_eq_true, decide_eq_true_eq] at this
        exact this
      by_cases c : 6 ≤ p - q
      · have e : ltA T q (p + 1) = 0 := if_neg (by omega)
        rw [e] at a1
        simp (disch := omega) only [lit, ltI, leI, eqI, addI, mulI, subI, clI, ckI, if_pos, if_neg, if_true, if_false, Option.bind_some, b2_0, b2_n0, b2_1, b2_n1, Bool.true_eq_false, Bool.false_eq_true, b2_t, b2_f]
        exact a1
      · have hlt := hlt (by omega)
        have e : ltA T q (p + 1) = 27 * ltA T q p + T.getD p 0 - 96 := by
          unfold ltA
          rw [if_pos (by omega), if_pos (by omega), show p + 1 - q = p - q + 1 by omega, sl_S, vl_S, show q + (p - q) = p by omega]
          unfold l27
          omega
        rw [e] at a1
        simp (disch := omega) only [lit, ltI, leI, eqI, addI, mulI, subI, clI, ckI, if_pos, if_neg, if_true, if_false, Option.bind_some, b2_0, b2_n0, b2_1, b2_n1, Bool.true_eq_false, Bool.false_eq_true, b2_t, b2_f]
        exact a1
  | _, _, 0, _, _, hn, _, _, _, _, _ => absurd hn (Nat.not_lt_zero _)
/-- the reference's value of some figures -/
def vOk (T : TL) (q p v : Nat) : Prop := (v ≤ 99 ∧ capL 0 (sl T q (p - q)) = v) ∨ (99 < v ∧ v < 1000 ∧ capL 0 (sl T q (p - q)) = 100)
def numC (T : TL) (q e : Nat) : Nat := if T.getD q 0 = 48 ∧ 1 < e - q then 10 else if capL 0 (sl T q (e - q)) ≤ 99 then 100 + capL 0 (sl T q (e - q)) else 10
theorem numEnd (hT : WTx T) {q p v : Nat} (hq : q ≤ p) (hp : p ≤ T.length) (hv : vOk T q p v) (h9 : N.1 36 9 = nI p) (h10 : N.1 36 10 = nI q) (h12 : N.1 36 12 = nI v) : ∃ N', (if (99 : Int32) < (N.1 36 12) then some (setI N 36 11 (11 : Int32)) else if nI (T.getD q 0) = (48 : Int32) then (if ((N.1 36 9) - (N.1 36 10)) ≤ (1 : Int32) then some (setI N 36 11 (9 : Int32)) else some (setI N 36 11 (11 : Int32))) else some (setI N 36 11 (9 : Int32))) = some N' ∧ N'.1 36 9 = nI p ∧ N'.1 36 10 = nI q ∧ N'.1 36 11 = nI (srt (numC T q p)) ∧ (100 ≤ numC T q p → N'.1 36 12 = nI (numC T q p - 100)) ∧ NX N N' := by
  have h5 := hT.1
  have hb := tb_lt hT q
  have hv1 : v < 1000 := by
    rcases hv with h | h <;> omega
  have hset : ∀ x : Nat, (setI N 36 11 (nI x)).1 36 9 = nI p ∧ (setI N 36 11 (nI x)).1 36 10 = nI q ∧ (setI N 36 11 (nI x)).1 36 11 = nI x ∧ (setI N 36 11 (nI x)).1 36 12 = nI v ∧ NX N (setI N 36 11 (nI x)) := fun x => ⟨by rw [setI_nk (by decide)]; exact h9, by rw [setI_nk (by decide)]; exact h10, setI_at, by rw [setI_nk (by decide)]; exact h12, NX.fld (by decide)⟩
  rw [h9, h10, h12]
  by_cases c1 : 99 < v
  · have hc : capL 0 (sl T q (p - q)) = 100 := by
      rcases hv with h | h
      · omega
      · exact h.2.2
    have hn : numC T q p = 10 := by
      unfold numC
      rw [hc]
      split
      · rfl
      · rfl
    obtain ⟨s1, s2, s3, s4, s5⟩ := hset 11
    refine ⟨setI N 36 11 (nI 11), ?_, s1, s2, ?_, fun h => ?_, s5⟩
    · simp (disch := omega) only [lit, ltI, leI, eqI, addI, mulI, subI, clI, ckI, if_pos, if_neg, if_true, if_false, Option.bind_some, b2_0, b2_n0, b2_1, b2_n1, Bool.true_eq_false, Bool.false_eq_true, b2_t, b2_f]
    · rw [s3, hn]; rfl
    · rw [hn] at h; omega
  · have hc : capL 0 (sl T q (p - q)) = v := by
      rcases hv with h | h
      · exact h.2
      · omega
    by_cases c2 : T.getD q 0 = 48
    · by_cases c3 : 1 < p - q
      · have hn : numC T q p = 10 := if_pos ⟨c2, c3⟩
        obtain ⟨s1, s2, s3, s4, s5⟩ := hset 11
        refine ⟨setI N 36 11 (nI 11), ?_, s1, s2, ?_, fun h => ?_, s5⟩
        · simp (disch := omega) only [lit, ltI, leI, eqI, addI, mulI, subI, clI, ckI, if_pos, if_neg, if_true, if_false, Option.bind_some, b2_0, b2_n0, b2_1, b2_n1, Bool.true_eq_false, Bool.false_eq_true, b2_t, b2_f, c2]
        · rw [s3, hn]; rfl
        · rw [hn] at h; omega
      · have hn : numC T q p = 100 + v := by
          unfold numC
          rw [hc, if_neg (fun z => c3 z.2), if_pos (by omega)]
        obtain ⟨s1, s2, s3, s4, s5⟩ := hset 9
        refine ⟨setI N 36 11 (nI 9), ?_, s1, s2, ?_, fun h => ?_, s5⟩
        · simp (disch := omega) only [lit, ltI, leI, eqI, addI, mulI, subI, clI, ckI, if_pos, if_neg, if_true, if_false, Option.bind_some, b2_0, b2_n0, b2_1, b2_n1, Bool.true_eq_false, Bool.false_eq_true, b2_t, b2_f, c2]
        · rw [s3, hn]
          unfold srt
          rw [if_neg (by omega), if_neg (by omega), if_neg (by omega), if_neg (by omega)]
        · rw [s4, hn]
          congr 1
          omega
    · have hn : numC T q p = 100 + v := by
        unfold numC
        rw [hc, if_neg (fun z => c2 z.1), if_pos (by omega)]
      obtain ⟨s1, s2, s3, s4, s5⟩ := hset 9
      refine ⟨setI N 36 11 (nI 9), ?_, s1, s2, ?_, fun h => ?_, s5⟩
      · simp (disch := omega) only [lit, ltI, leI, eqI, addI, mulI, subI, clI, ckI, if_pos, if_neg, if_true, if_false, Option.bind_some, b2_0, b2_n0, b2_1, b2_n1, Bool.true_eq_false, Bool.false_eq_true, b2_t, b2_f]
      · rw [s3, hn]
        unfold srt
        rw [if_neg (by omega), if_neg (by omega), if_neg (by omega), if_neg (by omega)]
      · rw [s4, hn]
        congr 1
        omega
theorem num_loop (hT : WTx T) {q : Nat} : ∀ (m p n v : Nat) (N : Mem), p + m = T.length → m < n → q ≤ p → vOk T q p v → TYY T N → N.1 36 9 = nI p → N.1 36 10 = nI q → N.1 36 12 = nI v → ∃ N', f_X10_next_164 F n (nI (T.getD q 0)) N = some N' ∧ N'.1 36 9 = nI (run T isD p) ∧ N'.1 36 10 = nI q ∧ N'.1 36 11 = nI (srt (numC T q (run T isD p))) ∧ (100 ≤ numC T q (run T isD p) → N'.1 36 12 = nI (numC T q (run T isD p) - 100)) ∧ NX N N'
  | 0, p, n + 1, v, N, hp, _, hq, hv, hY, h9, h10, h12 => by
    have h5 := hT.1
    have hx := here_out hT hY h9 (by omega) (by omega)
    rw [run_end (by omega), f_X10_next_164, hx, Option.bind_some, inD_no, if_pos rfl]
    simp only [vlet]
    exact numEnd hT hq (by omega) hv h9 h10 h12
  | m + 1, p, n + 1, v, N, hp, hn, hq, hv, hY, h9, h10, h12 => by
    have h5 := hT.1
    have hb := tb_lt hT p
    have hx := here_in hT hY h9 (by omega)
    have hl := inD (M := N) hb
    rw [f_X10_next_164, hx, Option.bind_some, Option.bind_some, hl]
    simp only [vlet]
    cases hd : isD (T.getD p 0)
    · rw [run_no hd, if_pos b2_f]
      exact numEnd hT hq (by omega) hv h9 h10 h12
    · have hr : 48 ≤ T.getD p 0 ∧ T.getD p 0 ≤ 57 := by
        have := hd
        unfold isD at this
        simp only [Bool.and_eq_true, decide_eq_true_eq] at this
        exact this
      have hsl : sl T q (p + 1 - q) = sl T q (p - q) ++ [T.getD p 0] := by
        rw [show p + 1 - q = p - q + 1 by omega, sl_S, show q + (p - q) = p by omega]
      have hv1 : v < 1000 := by
        rcases hv with h | h <;> omega
      rw [run_go (by omega) hd, if_neg b2_nt, h12]
      by_cases c : v ≤ 99
      · have hc : capL 0 (sl T q (p - q)) = v := by
          rcases hv with h | h
          · exact h.2
          · omega
        have hv' : vOk T q (p + 1) (10 * v + T.getD p 0 - 48) := by
          unfold vOk
          rw [hsl, capL_S, hc]
          unfold cap
          by_cases c2 : 10 * v + T.getD p 0 - 48 ≤ 99
          · left; omega
          · right; omega
        have hN1 : NX N (setI N 36 12 (nI (10 * v + T.getD p 0 - 48))) := NX.fld (by decide)
        have hN : NX N (setI (setI N 36 12 (nI (10 * v + T.getD p 0 - 48))) 36 9 (nI (p + 1))) := hN1.trans (NX.fld (by decide))
        have e9 : (setI N 36 12 (nI (10 * v + T.getD p 0 - 48))).1 36 9 = nI p := by rw [setI_nk (by decide)]; exact h9
        obtain ⟨N1, a1, a2⟩ := num_loop hT m (p + 1) n (10 * v + T.getD p 0 - 48) (setI (setI N 36 12 (nI (10 * v + T.getD p 0 - 48))) 36 9 (nI (p + 1))) (by omega) (by omega) (by omega) hv' (hY.nx hN) setI_at (by rw [setI_nk (by decide), setI_nk (by decide)]; exact h10) (by rw [setI_nk (by decide), setI_at])
        refine ⟨N1, ?_, a2.1, a2.2.1, a2.2.2.1, a2.2.2.2.1, hN.trans a2.2.2.2.2⟩
        simp (disch := omega) only [lit, ltI, leI, eqI, addI, mulI, subI, clI, ckI, if_pos, if_neg, if_true, if_false, Option.bind_some, b2_0, b2_n0, b2_1, b2_n1, Bool.true_eq_false, Bool.false_eq_true, b2_t, b2_f, e9]
        exact a1
      · have hc : capL 0 (sl T q (p - q)) = 100 := by
          rcases hv with h | h
          · omega
          · exact h.2.2
        have hv' : vOk T q (p + 1) v := by
          unfold vOk
          rw [hsl, capL_S, hc]
          unfold cap
          right; omega
        have hN1 : NX N (setI N 36 12 (nI v)) := NX.fld (by decide)
        have hN : NX N (setI (setI N 36 12 (nI v)) 36 9 (nI (p + 1))) := hN1.trans (NX.fld (by decide))
        have e9 : (setI N 36 12 (nI v)).1 36 9 = nI p := by rw [setI_nk (by decide)]; exact h9
        obtain ⟨N1, a1, a2⟩ := num_loop hT m (p + 1) n v (setI (setI N 36 12 (nI v)) 36 9 (nI (p + 1))) (by omega) (by omega) (by omega) hv' (hY.nx hN) setI_at (by rw [setI_nk (by decide), setI_nk (by decide)]; exact h10) (by rw [setI_nk (by decide), setI_at])
        refine ⟨N1, ?_, a2.1, a2.2.1, a2.2.2.1, a2.2.2.2.1, hN.trans a2.2.2.2.2⟩
        simp (disch := omega) only [lit, ltI, leI, eqI, addI, mulI, subI, clI, ckI, if_pos, if_neg, if_true, if_false, Option.bind_some, b2_0, b2_n0, b2_1, b2_n1, Bool.true_eq_false, Bool.false_eq_true, b2_t, b2_f, e9]
        exact a1
  | _, _, 0, _, _, _, hn, _, _, _, _, _, _ => absurd hn (Nat.not_lt_zero _)
end NXT
