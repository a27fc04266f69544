-- part 80: the class's tokens: split
def SF (N N' : Mem) : Prop := (∀ c, c ≠ 11 → c ≠ 12 → c ≠ 13 → N'.1 c = N.1 c) ∧ N'.2 = N.2
theorem SF.refl {N : Mem} : SF N N := ⟨fun _ _ _ _ => rfl, rfl⟩
theorem SF.trans {A B C : Mem} (h1 : SF A B) (h2 : SF B C) : SF A C := ⟨fun c a1 a2 a3 => (h2.1 c a1 a2 a3).trans (h1.1 c a1 a2 a3), h2.2.trans h1.2⟩
theorem TXX.same {T : TL} {N N' : Mem} (h : TXX T N) (e1 : N'.1 1 = N.1 1) (e2 : N'.1 2 = N.1 2) : TXX T N' := by
  unfold TXX; rw [e1, e2]; exact h
def CTK (T : TL) (N : Mem) (k : Nat) : Prop := ∀ j, j < k → N.1 12 j = nI (tc T j) ∧ N.1 13 j = nI (ts T j)
def tkM (N : Mem) (k c s : Nat) : Mem := setI (setI (setI N 12 k (nI c)) 13 k (nI s)) 11 4 (nI (k + 1))
theorem tkM_sf {N : Mem} {k c s : Nat} : SF N (tkM N k c s) := ⟨fun d h1 h2 h3 => by unfold tkM; rw [setI_ne h1, setI_ne h3, setI_ne h2], rfl⟩
theorem addToken_nat {N : Mem} {k c s : Nat} (h : N.1 11 4 = nI k) (hk : k < 500) : f_X6_addToken N (nI c) (nI s) = some (tkM N k c s) := by
  have e1 : (setI N 12 k (nI c)).1 11 4 = nI k := by rw [setI_ne (by decide)]; exact h
  have e2 : (setI (setI N 12 k (nI c)) 13 k (nI s)).1 11 4 = nI k := by rw [setI_ne (by decide)]; exact e1
  unfold f_X6_addToken
  simp only [vlet]
  simp (disch := omega) only [lit, ltI, leI, eqI, addI, mulI, subI, clI, ckI, if_pos, if_neg, if_true, if_false, Option.bind_some, b2_0, b2_n0, b2_1, b2_n1, Bool.true_eq_false, Bool.false_eq_true, b2_t, b2_f, h, e1, e2]
  rfl
theorem tkM_ctk {T : TL} {N : Mem} {k : Nat} (h : CTK T N k) : CTK T (tkM N k (tc T k) (ts T k)) (k + 1) := by
  intro j hj
  unfold tkM
  by_cases e : j = k
  · subst e
    refine ⟨?_, ?_⟩
    · rw [setI_ne (by decide), setI_ne (by decide), setI_at]
    · rw [setI_ne (by decide), setI_at]
  · have := h j (by omega)
    refine ⟨?_, ?_⟩
    · rw [setI_ne (by decide), setI_ne (by decide), setI_nk e]; exact this.1
    · rw [setI_ne (by decide), setI_nk e, setI_ne (by decide)]; exact this.2
/-- the tokens as the class has them -/
def CT (T : TL) (N : Mem) : Prop := ∃ K, K ≤ 500 ∧ ts T K = T.length ∧ N.1 11 4 = nI K ∧ CTK T N K
theorem te_blank {T : TL} {p : Nat} (h : T.getD p 0 = 32) : te T p = p + 1 := by
  unfold te
  rw [h]
  rfl
theorem split_loop {T : TL} {F : Nat} (hT : WTx T) (hF : 600 ≤ F) : ∀ (m p k n : Nat) (N : Mem), p ≤ T.length → T.length ≤ p + m → m < n → k ≤ p → sk T p = ts T k → TXX T N → N.1 11 4 = nI k → CTK T N k → ∃ N', f_X6_split_7 F n (nI p) N = some N' ∧ CT T N' ∧ SF N N'
  | 0, p, k, n + 1, N, h1, h2, _, hk, hs, hX, h4, hC => by
    have h5 := hT.1
    have hp : p = T.length := by omega
    have hsk : sk T p = p := run_end (by omega)
    have hz : ts T k = T.length := by omega
    refine ⟨N, ?_, ⟨k, by omega, hz, h4, hC⟩, SF.refl⟩
    rw [f_X6_split_7, len_X hX, hp]
    simp (disch := omega) only [lit, ltI, leI, eqI, addI, mulI, subI, clI, ckI, if_pos, if_neg, if_true, if_false, Option.bind_some, b2_0, b2_n0, b2_1, b2_n1, Bool.true_eq_false, Bool.false_eq_true, b2_t, b2_f]
  | m + 1, p, k, n + 1, N, h1, h2, hn, hk, hs, hX, h4, hC => by
    have h5 := hT.1
    by_cases hp : p < T.length
    · have ht := te_le hp
      have hb := tb_lt hT p
      have e := endOf_nat (F := F) hT hX hF hp
      have a := at_in hT hX hp
      have hmx : max (te T p) (p + 1) = te T p := Nat.max_eq_left (by omega)
      by_cases c : T.getD p 0 = 32
      · have hte := te_blank c
        have hsk : sk T (p + 1) = ts T k := by
          rw [← hs]
          exact (run_go hp (by unfold isB; rw [c]; rfl)).symm
        obtain ⟨N1, b1, b2', b3⟩ := split_loop hT hF m (p + 1) k n N (by omega) (by omega) (by omega) (by omega) hsk hX h4 hC
        refine ⟨N1, ?_, b2', b3⟩
        rw [f_X6_split_7, len_X hX]
        simp (disch := omega) only [lit, ltI, leI, eqI, addI, mulI, subI, clI, ckI, if_pos, if_neg, if_true, if_false, Option.bind_some, b2_0, b2_n0, b2_1, b2_n1, Bool.true_eq_false, Bool.false_eq_true, b2_t, b2_f, e, a, c, imaxI, hmx]
        rw [hte]
        exact b1
      · have hsk : sk T p = p := run_no (decide_eq_false c)
        have hts : ts T k = p := by omega
        have hco := codeOf_nat (F := F) hT hX hF hp
        have htc : tc T k = cdT T p (te T p) := by
          unfold tc
          rw [hts, if_pos hp]
        rw [← htc] at hco
        have hnx : te T p = tp T (k + 1) := by
          rw [tp_S (by omega), hts]
        have hadd := addToken_nat (c := tc T k) (s := p) h4 (by omega)
        have hC' := tkM_ctk hC
        rw [hts] at hC'
        have hX' : TXX T (tkM N k (tc T k) p) := hX.same (tkM_sf.1 1 (by decide) (by decide) (by decide)) (tkM_sf.1 2 (by decide) (by decide) (by decide))
        obtain ⟨N1, b1, b2', b3⟩ := split_loop hT hF m (te T p) (k + 1) n (tkM N k (tc T k) p) (by omega) (by omega) (by omega) (by omega) (by rw [hnx]; rfl) hX' setI_at hC'
        refine ⟨N1, ?_, b2', tkM_sf.trans b3⟩
        rw [f_X6_split_7, len_X hX]
        simp (disch := omega) only [lit, ltI, leI, eqI, addI, mulI, subI, clI, ckI, if_pos, if_neg, if_true, if_false, Option.bind_some, b2_0, b2_n0, b2_1, b2_n1, Bool.true_eq_false, Bool.false_eq_true, b2_t, b2_f, e, a, imaxI, hmx, hco, hadd]
        exact b1
    · exact split_loop hT hF 0 p k (n + 1) N h1 (by omega) (by omega) hk hs hX h4 hC
  | _, _, _, 0, _, _, _, hn, _, _, _, _, _ => absurd hn (Nat.not_lt_zero _)
theorem split_nat {T : TL} {F : Nat} {N : Mem} (hT : WTx T) (hF : 600 ≤ F) (hX : TXX T N) : ∃ N', f_X6_split F N = some N' ∧ CT T N' ∧ SF N N' := by
  have h5 := hT.1
  have e0 : SF N (setI N 11 4 0) := ⟨fun c c1 _ _ => setI_ne c1, rfl⟩
  have hX' : TXX T (setI N 11 4 0) := hX.same (e0.1 1 (by decide) (by decide) (by decide)) (e0.1 2 (by decide) (by decide) (by decide))
  obtain ⟨N1, b1, b2', b3⟩ := split_loop (F := F) hT hF T.length 0 0 F (setI N 11 4 0) (Nat.zero_le _) (by omega) (by omega) (Nat.le_refl _) rfl hX' setI_at (fun j hj => absurd hj (Nat.not_lt_zero _))
  exact ⟨N1, b1, b2', e0.trans b3⟩
/-- the class's reader stands at token k -/
def CN (T : TL) (k : Nat) (N : Mem) : Prop := CT T N ∧ N.1 11 5 = nI k ∧ k ≤ 510
theorem CT.same {T : TL} {N N' : Mem} (h : CT T N) (e1 : N'.1 11 4 = N.1 11 4) (e2 : N'.1 12 = N.1 12) (e3 : N'.1 13 = N.1 13) : CT T N' := by
  unfold CT CTK; rw [e1, e2, e3]; exact h
section NEXT
variable {T : TL} {k : Nat} {N : Mem}
theorem ts_ge {K : Nat} (h : ts T K = T.length) (hk : K ≤ k) : ts T k = T.length := by
  have := ts_ends h (k - K)
  rwa [show K + (k - K) = k by omega] at this
theorem next_nat (h : CN T k N) : f_X6_codeOfNext N = some (nI (tc T k)) := by
  obtain ⟨⟨K, h1, h2, h3, h4⟩, h5, h6⟩ := h
  unfold f_X6_codeOfNext
  rw [h5, h3]
  by_cases c : k < K
  · have := (h4 k c).1
    simp (disch := omega) only [lit, ltI, leI, eqI, addI, mulI, subI, clI, ckI, if_pos, if_neg, if_true, if_false, Option.bind_some, b2_0, b2_n0, b2_1, b2_n1, Bool.true_eq_false, Bool.false_eq_true, b2_t, b2_f, this]
  · rw [tc_9 (ts_ge h2 (by omega))]
    by_cases c2 : 500 ≤ k
    · simp (disch := omega) only [lit, ltI, leI, eqI, addI, mulI, subI, clI, ckI, if_pos, if_neg, if_true, if_false, Option.bind_some, b2_0, b2_n0, b2_1, b2_n1, Bool.true_eq_false, Bool.false_eq_true, b2_t, b2_f]
    · simp (disch := omega) only [lit, ltI, leI, eqI, addI, mulI, subI, clI, ckI, if_pos, if_neg, if_true, if_false, Option.bind_some, b2_0, b2_n0, b2_1, b2_n1, Bool.true_eq_false, Bool.false_eq_true, b2_t, b2_f]
theorem start_nat (hT : WTx T) (hX : TXX T N) (h : CN T k N) : f_X6_startOfNext N = some (nI (ts T k)) := by
  have h50 := hT.1
  obtain ⟨⟨K, h1, h2, h3, h4⟩, h5, h6⟩ := h
  unfold f_X6_startOfNext
  rw [h5, h3, len_X hX]
  by_cases c : k < K
  · have := (h4 k c).2
    simp (disch := omega) only [lit, ltI, leI, eqI, addI, mulI, subI, clI, ckI, if_pos, if_neg, if_true, if_false, Option.bind_some, b2_0, b2_n0, b2_1, b2_n1, Bool.true_eq_false, Bool.false_eq_true, b2_t, b2_f, this]
  · rw [ts_ge h2 (by omega)]
    by_cases c2 : 500 ≤ k
    · simp (disch := omega) only [lit, ltI, leI, eqI, addI, mulI, subI, clI, ckI, if_pos, if_neg, if_true, if_false, Option.bind_some, b2_0, b2_n0, b2_1, b2_n1, Bool.true_eq_false, Bool.false_eq_true, b2_t, b2_f]
    · simp (disch := omega) only [lit, ltI, leI, eqI, addI, mulI, subI, clI, ckI, if_pos, if_neg, if_true, if_false, Option.bind_some, b2_0, b2_n0, b2_1, b2_n1, Bool.true_eq_false, Bool.false_eq_true, b2_t, b2_f]
theorem isNext_nat (h : CN T k N) {c : Nat} (hc : c < 2 ^ 31) : f_X6_isNext N (nI c) = some (b2 (decide (tc T k = c))) := by
  have ht := (tc_lt (T := T) k).1
  unfold f_X6_isNext
  rw [next_nat h, Option.bind_some]
  by_cases e : tc T k = c
  · rw [decide_eq_true e]
    simp (disch := omega) only [lit, ltI, leI, eqI, addI, mulI, subI, clI, ckI, if_pos, if_neg, if_true, if_false, Option.bind_some, b2_0, b2_n0, b2_1, b2_n1, Bool.true_eq_false, Bool.false_eq_true, b2_t, b2_f] <;> rfl
  · rw [decide_eq_false e]
    simp (disch := omega) only [lit, ltI, leI, eqI, addI, mulI, subI, clI, ckI, if_pos, if_neg, if_true, if_false, Option.bind_some, b2_0, b2_n0, b2_1, b2_n1, Bool.true_eq_false, Bool.false_eq_true, b2_t, b2_f] <;> rfl
/-- one token on -/
def adv (N : Mem) (k : Nat) : Mem := setI N 11 5 (nI (k + 1))
theorem adv_cn (h : CN T k N) (hk : k < 510) : CN T (k + 1) (adv N k) := ⟨h.1.same (by unfold adv; rw [setI_nk (by decide)]) (by unfold adv; rw [setI_ne (by decide)]) (by unfold adv; rw [setI_ne (by decide)]), setI_at, by omega⟩
theorem take_nat (h : CN T k N) {c : Nat} (hc : c < 2 ^ 31) : f_X6_take N (nI c) = some (if tc T k = c then (1, adv N k) else (0, N)) := by
  have h6 := h.2.2
  unfold f_X6_take
  simp only [vlet]
  rw [isNext_nat h hc, Option.bind_some]
  by_cases e : tc T k = c
  · rw [decide_eq_true e, if_neg b2_nt, if_pos e, h.2.1]
    simp (disch := omega) only [lit, ltI, leI, eqI, addI, mulI, subI, clI, ckI, if_pos, if_neg, if_true, if_false, Option.bind_some, b2_0, b2_n0, b2_1, b2_n1, Bool.true_eq_false, Bool.false_eq_true, b2_t, b2_f]
    rfl
  · rw [decide_eq_false e, if_pos b2_f, if_neg e]
theorem takeNumber_nat (h : CN T k N) {lo hi : Nat} (hl : lo ≤ 99) (hh : hi ≤ 99) : f_X6_takeNumber N (nI lo) (nI hi) = some (if 100 + lo ≤ tc T k ∧ tc T k ≤ 100 + hi then (1, adv (setI N 11 6 (nI (tc T k - 100))) k) else (0, N)) := by
  have ht := (tc_lt (T := T) k).1
  have h6 := h.2.2
  have e5 : (setI N 11 6 (nI (tc T k - 100))).1 11 5 = nI k := by rw [setI_nk (by decide)]; exact h.2.1
  unfold f_X6_takeNumber
  simp only [vlet]
  rw [next_nat h, Option.bind_some]
  by_cases c1 : 100 + lo ≤ tc T k
  · by_cases c2 : tc T k ≤ 100 + hi
    · simp (disch := omega) only [lit, ltI, leI, eqI, addI, mulI, subI, clI, ckI, if_pos, if_neg, if_true, if_false, Option.bind_some, b2_0, b2_n0, b2_1, b2_n1, Bool.true_eq_false, Bool.false_eq_true, b2_t, b2_f, e5]
      rfl
    · simp (disch := omega) only [lit, ltI, leI, eqI, addI, mulI, subI, clI, ckI, if_pos, if_neg, if_true, if_false, Option.bind_some, b2_0, b2_n0, b2_1, b2_n1, Bool.true_eq_false, Bool.false_eq_true, b2_t, b2_f]
  · simp (disch := omega) only [lit, ltI, leI, eqI, addI, mulI, subI, clI, ckI, if_pos, if_neg, if_true, if_false, Option.bind_some, b2_0, b2_n0, b2_1, b2_n1, Bool.true_eq_false, Bool.false_eq_true, b2_t, b2_f]
end NEXT
