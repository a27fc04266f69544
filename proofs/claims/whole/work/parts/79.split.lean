-- part 79: the class's tokens
theorem iminI {a b : Nat} (ha : a < 2 ^ 31) (hb : b < 2 ^ 31) : imin (nI a) (nI b) = nI (min a b) := by
  unfold imin
  simp only [ltI hb ha]
  by_cases h : b < a
  · rw [if_pos h, Nat.min_eq_right (by omega)]
  · rw [if_neg h, Nat.min_eq_left (by omega)]
theorem tb_lt {T : TL} (hT : WTx T) (p : Nat) : T.getD p 0 < 256 := by
  by_cases h : p < T.length
  · rw [List.getD_eq_getElem?_getD, List.getElem?_eq_getElem h]
    exact hT.2 _ (List.getElem_mem h)
  · rw [List.getD_eq_getElem?_getD, List.getElem?_eq_none (by omega)]
    decide
theorem isDigit_nat {M : Mem} {x : Nat} (hx : x < 256) : f_X6_isDigit M (nI x) = b2 (isD x) := by
  unfold f_X6_isDigit isD
  by_cases c1 : 48 ≤ x
  · by_cases c2 : x ≤ 57
    · rw [decide_eq_true c1, decide_eq_true c2]
      simp (disch := omega) only [lit, ltI, leI, eqI, addI, mulI, subI, clI, ckI, if_pos, if_neg, if_true, if_false, Option.bind_some, b2_0, b2_n0, b2_1, b2_n1, Bool.true_eq_false, Bool.false_eq_true, b2_t, b2_f] <;> rfl
    · rw [decide_eq_true c1, decide_eq_false c2]
      simp (disch := omega) only [lit, ltI, leI, eqI, addI, mulI, subI, clI, ckI, if_pos, if_neg, if_true, if_false, Option.bind_some, b2_0, b2_n0, b2_1, b2_n1, Bool.true_eq_false, Bool.false_eq_true, b2_t, b2_f] <;> rfl
  · rw [decide_eq_false c1]
    simp (disch := omega) only [lit, ltI, leI, eqI, addI, mulI, subI, clI, ckI, if_pos, if_neg, if_true, if_false, Option.bind_some, b2_0, b2_n0, b2_1, b2_n1, Bool.true_eq_false, Bool.false_eq_true, b2_t, b2_f] <;> rfl
theorem isLetter_nat {M : Mem} {x : Nat} (hx : x < 256) : f_X6_isLetter M (nI x) = b2 (isL x) := by
  unfold f_X6_isLetter isL
  by_cases c1 : 97 ≤ x
  · by_cases c2 : x ≤ 122
    · rw [decide_eq_true c1, decide_eq_true c2]
      simp (disch := omega) only [lit, ltI, leI, eqI, addI, mulI, subI, clI, ckI, if_pos, if_neg, if_true, if_false, Option.bind_some, b2_0, b2_n0, b2_1, b2_n1, Bool.true_eq_false, Bool.false_eq_true, b2_t, b2_f] <;> rfl
    · rw [decide_eq_true c1, decide_eq_false c2]
      simp (disch := omega) only [lit, ltI, leI, eqI, addI, mulI, subI, clI, ckI, if_pos, if_neg, if_true, if_false, Option.bind_some, b2_0, b2_n0, b2_1, b2_n1, Bool.true_eq_false, Bool.false_eq_true, b2_t, b2_f] <;> rfl
  · rw [decide_eq_false c1]
    simp (disch := omega) only [lit, ltI, leI, eqI, addI, mulI, subI, clI, ckI, if_pos, if_neg, if_true, if_false, Option.bind_some, b2_0, b2_n0, b2_1, b2_n1, Bool.true_eq_false, Bool.false_eq_true, b2_t, b2_f] <;> rfl
theorem isL_D {x : Nat} (h : isD x = true) : isL x = false := by
  unfold isD at h
  unfold isL
  simp only [Bool.and_eq_true, decide_eq_true_eq] at h
  rw [decide_eq_false (by omega)]
  rfl
section TOK
variable {T : TL} {N : Mem} {F : Nat}
theorem at_in (hT : WTx T) (hX : TXX T N) {p : Nat} (hp : p < T.length) : f_X7_at N (nI p) = some (nI (T.getD p 0)) := by
  have h5 := hT.1
  have h : N.1 2 p &&& nI 255 = nI (T.getD p 0) := hX.2 p hp
  unfold f_X7_at
  rw [hX.1]
  simp (disch := omega) only [lit, ltI, leI, eqI, addI, mulI, subI, clI, ckI, if_pos, if_neg, if_true, if_false, Option.bind_some, b2_0, b2_n0, b2_1, b2_n1, Bool.true_eq_false, Bool.false_eq_true, b2_t, b2_f, h]
theorem len_X (hX : TXX T N) : f_X7_length N = nI T.length := hX.1
theorem endD_loop (hT : WTx T) (hX : TXX T N) : ∀ (m p n : Nat), p + m = T.length → m < n → f_X6_endOf_29 F N n (nI 1) (nI 0) (nI p) = some (nI (run T isD p))
  | 0, p, n + 1, hp, _ => by
    have h5 := hT.1
    rw [f_X6_endOf_29, len_X hX, run_end (by omega)]
    simp (disch := omega) only [lit, ltI, leI, eqI, addI, mulI, subI, clI, ckI, if_pos, if_neg, if_true, if_false, Option.bind_some, b2_0, b2_n0, b2_1, b2_n1, Bool.true_eq_false, Bool.false_eq_true, b2_t, b2_f]
  | m + 1, p, n + 1, hp, hn => by
    have h5 := hT.1
    have a := at_in hT hX (show p < T.length by omega)
    have d := isDigit_nat (M := N) (tb_lt hT p)
    have ih := endD_loop hT hX m (p + 1) n (by omega) (by omega)
    rw [f_X6_endOf_29, len_X hX]
    cases hd : isD (T.getD p 0)
    · rw [hd] at d
      rw [run_no hd]
      simp (disch := omega) only [lit, ltI, leI, eqI, addI, mulI, subI, clI, ckI, if_pos, if_neg, if_true, if_false, Option.bind_some, b2_0, b2_n0, b2_1, b2_n1, Bool.true_eq_false, Bool.false_eq_true, b2_t, b2_f, a, d]
    · rw [hd] at d
      rw [run_go (by omega) hd]
      simp (disch := omega) only [lit, ltI, leI, eqI, addI, mulI, subI, clI, ckI, if_pos, if_neg, if_true, if_false, Option.bind_some, b2_0, b2_n0, b2_1, b2_n1, Bool.true_eq_false, Bool.false_eq_true, b2_t, b2_f, a, d]
      exact ih
  | _, _, 0, _, hn => absurd hn (Nat.not_lt_zero _)
theorem endL_loop (hT : WTx T) (hX : TXX T N) : ∀ (m p n : Nat), p + m = T.length → m < n → f_X6_endOf_29 F N n (nI 0) (nI 1) (nI p) = some (nI (run T isL p))
  | 0, p, n + 1, hp, _ => by
    have h5 := hT.1
    rw [f_X6_endOf_29, len_X hX, run_end (by omega)]
    simp (disch := omega) only [lit, ltI, leI, eqI, addI, mulI, subI, clI, ckI, if_pos, if_neg, if_true, if_false, Option.bind_some, b2_0, b2_n0, b2_1, b2_n1, Bool.true_eq_false, Bool.false_eq_true, b2_t, b2_f]
  | m + 1, p, n + 1, hp, hn => by
    have h5 := hT.1
    have a := at_in hT hX (show p < T.length by omega)
    have d := isLetter_nat (M := N) (tb_lt hT p)
    have ih := endL_loop hT hX m (p + 1) n (by omega) (by omega)
    rw [f_X6_endOf_29, len_X hX]
    cases hd : isL (T.getD p 0)
    · rw [hd] at d
      rw [run_no hd]
      simp (disch := omega) only [lit, ltI, leI, eqI, addI, mulI, subI, clI, ckI, if_pos, if_neg, if_true, if_false, Option.bind_some, b2_0, b2_n0, b2_1, b2_n1, Bool.true_eq_false, Bool.false_eq_true, b2_t, b2_f, a, d]
    · rw [hd] at d
      rw [run_go (by omega) hd]
      simp (disch := omega) only [lit, ltI, leI, eqI, addI, mulI, subI, clI, ckI, if_pos, if_neg, if_true, if_false, Option.bind_some, b2_0, b2_n0, b2_1, b2_n1, Bool.true_eq_false, Bool.false_eq_true, b2_t, b2_f, a, d]
      exact ih
  | _, _, 0, _, hn => absurd hn (Nat.not_lt_zero _)
theorem end0 (hT : WTx T) (hX : TXX T N) {p : Nat} (hp : p ≤ T.length) : ∀ (n : Nat), 0 < n → f_X6_endOf_29 F N n (nI 0) (nI 0) (nI p) = some (nI p)
  | n + 1, _ => by
    have h5 := hT.1
    rw [f_X6_endOf_29, len_X hX]
    by_cases c : p < T.length
    · simp (disch := omega) only [lit, ltI, leI, eqI, addI, mulI, subI, clI, ckI, if_pos, if_neg, if_true, if_false, Option.bind_some, b2_0, b2_n0, b2_1, b2_n1, Bool.true_eq_false, Bool.false_eq_true, b2_t, b2_f]
    · simp (disch := omega) only [lit, ltI, leI, eqI, addI, mulI, subI, clI, ckI, if_pos, if_neg, if_true, if_false, Option.bind_some, b2_0, b2_n0, b2_1, b2_n1, Bool.true_eq_false, Bool.false_eq_true, b2_t, b2_f]
theorem endOf_nat (hT : WTx T) (hX : TXX T N) (hF : 600 ≤ F) {p : Nat} (hp : p < T.length) : f_X6_endOf F N (nI p) = some (nI (te T p)) := by
  have h5 := hT.1
  have e1 : nI p + (1 : Int32) = nI (p + 1) := addI p 1
  unfold f_X6_endOf te
  rw [at_in hT hX hp, Option.bind_some, Option.bind_some, isDigit_nat (tb_lt hT p), isLetter_nat (tb_lt hT p), e1]
  cases hd : isD (T.getD p 0)
  · rw [if_neg (by decide)]
    cases hl : isL (T.getD p 0)
    · rw [if_neg (by decide)]
      exact end0 hT hX (by omega) F (by omega)
    · rw [if_pos rfl]
      exact endL_loop hT hX (T.length - (p + 1)) (p + 1) F (by omega) (by omega)
  · rw [if_pos rfl, isL_D hd]
    exact endD_loop hT hX (T.length - (p + 1)) (p + 1) F (by omega) (by omega)
theorem num28_loop (hT : WTx T) (hX : TXX T N) : ∀ (m p a n e : Nat), p + m = e → e ≤ T.length → a ≤ 100 → (∀ j, p ≤ j → j < e → isD (T.getD j 0) = true) → m < n → f_X6_numberCode_28 F N n (nI e) (nI a) (nI p) = some (nI (if capL a (sl T p m) ≤ 99 then 100 + capL a (sl T p m) else 10))
  | 0, p, a, n + 1, e, hp, he, ha, hd, _ => by
    have h5 := hT.1
    rw [f_X6_numberCode_28]
    show _ = some (nI (if a ≤ 99 then 100 + a else 10))
    by_cases c : a ≤ 99
    · rw [if_pos c]
      simp (disch := omega) only [lit, ltI, leI, eqI, addI, mulI, subI, clI, ckI, if_pos, if_neg, if_true, if_false, Option.bind_some, b2_0, b2_n0, b2_1, b2_n1, Bool.true_eq_false, Bool.false_eq_true, b2_t, b2_f]
    · rw [if_neg c]
      simp (disch := omega) only [lit, ltI, leI, eqI, addI, mulI, subI, clI, ckI, if_pos, if_neg, if_true, if_false, Option.bind_some, b2_0, b2_n0, b2_1, b2_n1, Bool.true_eq_false, Bool.false_eq_true, b2_t, b2_f]
  | m + 1, p, a, n + 1, e, hp, he, ha, hd, hn => by
    have h5 := hT.1
    have hb := tb_lt hT p
    have x := at_in hT hX (show p < T.length by omega)
    have hdp := hd p (Nat.le_refl _) (by omega)
    unfold isD at hdp
    simp only [Bool.and_eq_true, decide_eq_true_eq] at hdp
    have hc : min (10 * a + T.getD p 0 - 48) 100 = cap a (T.getD p 0) := by unfold cap; omega
    have ih := num28_loop hT hX m (p + 1) (cap a (T.getD p 0)) n e (by omega) he (by unfold cap; omega) (fun j h1 h2 => hd j (by omega) h2) (by omega)
    rw [sl, capL_C, f_X6_numberCode_28]
    simp only [vlet]
    simp (disch := omega) only [lit, ltI, leI, eqI, addI, mulI, subI, clI, ckI, if_pos, if_neg, if_true, if_false, Option.bind_some, b2_0, b2_n0, b2_1, b2_n1, Bool.true_eq_false, Bool.false_eq_true, b2_t, b2_f, x, iminI, hc]
    exact ih
  | _, _, _, 0, _, _, _, _, _, hn => absurd hn (Nat.not_lt_zero _)
theorem numberCode_nat (hT : WTx T) (hX : TXX T N) (hF : 600 ≤ F) {q e : Nat} (hq : q < e) (he : e ≤ T.length) (hd : ∀ j, q ≤ j → j < e → isD (T.getD j 0) = true) : f_X6_numberCode F N (nI q) (nI e) = some (nI (if T.getD q 0 = 48 ∧ 1 < e - q then 10 else if capL 0 (sl T q (e - q)) ≤ 99 then 100 + capL 0 (sl T q (e - q)) else 10)) := by
  have h5 := hT.1
  have hb := tb_lt hT q
  have x := at_in hT hX (show q < T.length by omega)
  have h28 := num28_loop (F := F) hT hX (e - q) q 0 F e (by omega) he (by omega) hd (by omega)
  unfold f_X6_numberCode
  generalize (if capL 0 (sl T q (e - q)) ≤ 99 then 100 + capL 0 (sl T q (e - q)) else 10) = R at h28 ⊢
  by_cases c1 : T.getD q 0 = 48
  · by_cases c2 : 1 < e - q
    · have hk : (if T.getD q 0 = 48 ∧ 1 < e - q then 10 else R) = 10 := if_pos ⟨c1, c2⟩
      rw [hk]
      simp (disch := omega) only [lit, ltI, leI, eqI, addI, mulI, subI, clI, ckI, if_pos, if_neg, if_true, if_false, Option.bind_some, b2_0, b2_n0, b2_1, b2_n1, Bool.true_eq_false, Bool.false_eq_true, b2_t, b2_f, x, c1]
    · have hk : (if T.getD q 0 = 48 ∧ 1 < e - q then 10 else R) = R := if_neg (fun h => c2 h.2)
      rw [hk]
      simp (disch := omega) only [lit, ltI, leI, eqI, addI, mulI, subI, clI, ckI, if_pos, if_neg, if_true, if_false, Option.bind_some, b2_0, b2_n0, b2_1, b2_n1, Bool.true_eq_false, Bool.false_eq_true, b2_t, b2_f, x, c1]
      exact h28
  · have hk : (if T.getD q 0 = 48 ∧ 1 < e - q then 10 else R) = R := if_neg (fun h => c1 h.1)
    rw [hk]
    simp (disch := omega) only [lit, ltI, leI, eqI, addI, mulI, subI, clI, ckI, if_pos, if_neg, if_true, if_false, Option.bind_some, b2_0, b2_n0, b2_1, b2_n1, Bool.true_eq_false, Bool.false_eq_true, b2_t, b2_f, x]
    exact h28
theorem wB_lenS : ∀ k, k < 8 → lenS.getD k 0 = (wB k).length := by decide +kernel
theorem wB_sch : ∀ k, k < 8 → ∀ i, i < (wB k).length → sch k (nI i) = nI ((wB k).getD i 0) ∧ (wB k).getD i 0 < 256 := by decide +kernel
theorem isWord_loop (hT : WTx T) (hX : TXX T N) {k q : Nat} (hk : k < 8) (hq : q + (wB k).length ≤ T.length) : ∀ (m i n : Nat), i + m = (wB k).length → m < n → f_X6_isWord_15 F N k n (nI q) (nI i) = some (b2 (decide (sl T (q + i) m = (wB k).drop i)))
  | 0, i, n + 1, hi, _ => by
    have h6 := wB_len k hk
    rw [f_X6_isWord_15, wB_lenS k hk, List.drop_eq_nil_of_le (by omega)]
    simp (disch := omega) only [lit, ltI, leI, eqI, addI, mulI, subI, clI, ckI, if_pos, if_neg, if_true, if_false, Option.bind_some, b2_0, b2_n0, b2_1, b2_n1, Bool.true_eq_false, Bool.false_eq_true, b2_t, b2_f]
    rfl
  | m + 1, i, n + 1, hi, hn => by
    have h5 := hT.1
    have h6 := wB_len k hk
    obtain ⟨hs, hs2⟩ := wB_sch k hk i (by omega)
    have hb := tb_lt hT (q + i)
    have x := at_in hT hX (show q + i < T.length by omega)
    have ih := isWord_loop hT hX hk hq m (i + 1) n (by omega) (by omega)
    have hg : (wB k).getD i 0 = (wB k)[i] := by rw [List.getD_eq_getElem?_getD, List.getElem?_eq_getElem (by omega)]; rfl
    rw [f_X6_isWord_15, wB_lenS k hk, List.drop_eq_getElem_cons (by omega), ← hg, sl]
    by_cases c : T.getD (q + i) 0 = (wB k).getD i 0
    · rw [c]
      simp only [List.cons.injEq, true_and]
      rw [← Nat.add_assoc] at ih
      rw [c] at x
      simp (disch := omega) only [lit, ltI, leI, eqI, addI, mulI, subI, clI, ckI, if_pos, if_neg, if_true, if_false, Option.bind_some, b2_0, b2_n0, b2_1, b2_n1, Bool.true_eq_false, Bool.false_eq_true, b2_t, b2_f, x, hs]
      exact ih
    · have hne : ¬ (T.getD (q + i) 0 :: sl T (q + i + 1) m = (wB k).getD i 0 :: (wB k).drop (i + 1)) := by
        intro h
        exact c (List.cons.inj h).1
      rw [decide_eq_false hne]
      simp (disch := omega) only [lit, ltI, leI, eqI, addI, mulI, subI, clI, ckI, if_pos, if_neg, if_true, if_false, Option.bind_some, b2_0, b2_n0, b2_1, b2_n1, Bool.true_eq_false, Bool.false_eq_true, b2_t, b2_f, x, hs] <;> rfl
  | _, _, 0, _, hn => absurd hn (Nat.not_lt_zero _)
theorem isWord_nat (hT : WTx T) (hX : TXX T N) (hF : 600 ≤ F) {k q e : Nat} (hk : k < 8) (hq : q < e) (he : e ≤ T.length) : f_X6_isWord F N k (nI q) (nI e) = some (b2 (decide (sl T q (e - q) = wB k))) := by
  have h5 := hT.1
  have h6 := wB_len k hk
  unfold f_X6_isWord
  rw [wB_lenS k hk]
  by_cases c : e - q = (wB k).length
  · have h := isWord_loop (F := F) hT hX hk (q := q) (by omega) (e - q) 0 F (by omega) (by omega)
    simp (disch := omega) only [lit, ltI, leI, eqI, addI, mulI, subI, clI, ckI, if_pos, if_neg, if_true, if_false, Option.bind_some, b2_0, b2_n0, b2_1, b2_n1, Bool.true_eq_false, Bool.false_eq_true, b2_t, b2_f]
    exact h
  · have hne : ¬ sl T q (e - q) = wB k := by
      intro h
      have := congrArg List.length h
      rw [sl_len] at this
      exact c this
    rw [decide_eq_false hne]
    simp (disch := omega) only [lit, ltI, leI, eqI, addI, mulI, subI, clI, ckI, if_pos, if_neg, if_true, if_false, Option.bind_some, b2_0, b2_n0, b2_1, b2_n1, Bool.true_eq_false, Bool.false_eq_true, b2_t, b2_f] <;> rfl
theorem wordCode_nat (hT : WTx T) (hX : TXX T N) (hF : 600 ≤ F) {q e : Nat} (hq : q < e) (he : e ≤ T.length) : f_X6_wordCode F N (nI q) (nI e) = some (nI (wcL (sl T q (e - q)))) := by
  have h : ∀ k, k < 8 → f_X6_isWord F N k (nI q) (nI e) = some (b2 (decide (sl T q (e - q) = wB k))) := fun k hk => isWord_nat hT hX hF hk hq he
  unfold f_X6_wordCode wcL
  rw [h 0 (by decide), h 1 (by decide), h 2 (by decide), h 3 (by decide), h 4 (by decide), h 5 (by decide), h 6 (by decide), h 7 (by decide)]
  generalize sl T q (e - q) = l
  by_cases c0 : l = wB 0
  · rw [decide_eq_true c0, if_pos c0]; rfl
  rw [decide_eq_false c0, if_neg c0]
  by_cases c1 : l = wB 1
  · rw [decide_eq_true c1, if_pos c1]; rfl
  rw [decide_eq_false c1, if_neg c1]
  by_cases c2 : l = wB 2
  · rw [decide_eq_true c2, if_pos c2]; rfl
  rw [decide_eq_false c2, if_neg c2]
  by_cases c3 : l = wB 3
  · rw [decide_eq_true c3, if_pos c3]; rfl
  rw [decide_eq_false c3, if_neg c3]
  by_cases c4 : l = wB 4
  · rw [decide_eq_true c4, if_pos c4]; rfl
  rw [decide_eq_false c4, if_neg c4]
  by_cases c5 : l = wB 5
  · rw [decide_eq_true c5, if_pos c5]; rfl
  rw [decide_eq_false c5, if_neg c5]
  by_cases c6 : l = wB 6
  · rw [decide_eq_true c6, if_pos c6]; rfl
  rw [decide_eq_false c6, if_neg c6]
  by_cases c7 : l = wB 7
  · rw [decide_eq_true c7, if_pos c7]; rfl
  rw [decide_eq_false c7, if_neg c7]
  rfl
theorem te_D {q : Nat} (hd : isD (T.getD q 0) = true) : ∀ j, q ≤ j → j < te T q → isD (T.getD j 0) = true := by
  intro j h1 h2
  unfold te at h2
  rw [if_pos hd] at h2
  by_cases e : j = q
  · rw [e]; exact hd
  · exact run_in _ (q + 1) rfl j (by omega) h2
theorem te_L {q : Nat} (hd : isD (T.getD q 0) = false) (hl : isL (T.getD q 0) = true) : ∀ j, q ≤ j → j < te T q → isL (T.getD j 0) = true := by
  intro j h1 h2
  unfold te at h2
  rw [if_neg (by rw [hd]; decide), if_pos hl] at h2
  by_cases e : j = q
  · rw [e]; exact hl
  · exact run_in _ (q + 1) rfl j (by omega) h2
theorem codeOf_nat (hT : WTx T) (hX : TXX T N) (hF : 600 ≤ F) {q : Nat} (hq : q < T.length) : f_X6_codeOf F N (nI q) (nI (te T q)) = some (nI (cdT T q (te T q))) := by
  have ht := te_le hq
  have hb := tb_lt hT q
  have w := wordCode_nat (F := F) hT hX hF ht.1 ht.2
  unfold f_X6_codeOf
  rw [at_in hT hX hq, Option.bind_some, Option.bind_some, Option.bind_some, isDigit_nat hb, isLetter_nat hb]
  cases hd : isD (T.getD q 0)
  · cases hl : isL (T.getD q 0)
    · by_cases c : T.getD q 0 = 59
      · have hk : cdT T q (te T q) = 8 := by unfold cdT; rw [hd, hl, c]; rfl
        rw [hk]
        simp (disch := omega) only [lit, ltI, leI, eqI, addI, mulI, subI, clI, ckI, if_pos, if_neg, if_true, if_false, Option.bind_some, b2_0, b2_n0, b2_1, b2_n1, Bool.true_eq_false, Bool.false_eq_true, b2_t, b2_f, c]
      · have hk : cdT T q (te T q) = 10 := by
          unfold cdT
          rw [hd, hl]
          simp only [Bool.false_eq_true, if_false, if_neg c]
        rw [hk]
        simp (disch := omega) only [lit, ltI, leI, eqI, addI, mulI, subI, clI, ckI, if_pos, if_neg, if_true, if_false, Option.bind_some, b2_0, b2_n0, b2_1, b2_n1, Bool.true_eq_false, Bool.false_eq_true, b2_t, b2_f]
    · have hk : cdT T q (te T q) = wcL (sl T q (te T q - q)) := by
        unfold cdT
        rw [hd, hl]
        simp only [Bool.false_eq_true, if_false, if_true]
      rw [hk]
      simp (disch := omega) only [lit, ltI, leI, eqI, addI, mulI, subI, clI, ckI, if_pos, if_neg, if_true, if_false, Option.bind_some, b2_0, b2_n0, b2_1, b2_n1, Bool.true_eq_false, Bool.false_eq_true, b2_t, b2_f, w]
  · have n := numberCode_nat (F := F) hT hX hF ht.1 ht.2 (te_D hd)
    have hk : cdT T q (te T q) = (if T.getD q 0 = 48 ∧ 1 < te T q - q then 10 else if capL 0 (sl T q (te T q - q)) ≤ 99 then 100 + capL 0 (sl T q (te T q - q)) else 10) := by
      unfold cdT
      rw [hd]
      simp only [if_true]
    rw [hk, b2_t, if_neg (by decide), n]
    rfl
end TOK
