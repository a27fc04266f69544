-- part 36: the reference's small functions over a journey
theorem and_b1 {b : Bool} : b2 b &&& nI 1 = b2 b := by cases b <;> rfl
section REF
variable {J : Jr} {M : Mem}
theorem of_nat (h : HJ J M) (hW : WJ J) {i k : Nat} (hi : i < nT J) (hk : k < 8) : f_X10_of M (nI i) (nI k) = some (nI (tf J i k)) := by
  have h6 := hW.1
  unfold f_X10_of
  simp (disch := omega) only [lit, ltI, leI, eqI, addI, mulI, subI, clI, ckI, if_pos, if_neg, if_true, if_false, Option.bind_some, b2_0, b2_n0, b2_1, b2_n1, Bool.true_eq_false, Bool.false_eq_true, b2_t, b2_f]
  rw [h.2.2.1 i hi k hk]
theorem going_nat (h : HJ J M) (hW : WJ J) {i j : Nat} (hi : i < nT J) (hj : j < nT J) : f_X10_isGoing M (nI i) (nI j) = some (b2 (goesB J i j)) := by
  have h6 := hW.1
  have ha := hW.2.2.2.2.1 i hi
  unfold f_X10_isGoing goesB
  rw [ckI (by omega) (by decide), if_pos rfl, clI (by omega), h.2.2.2.2 i hi, bit1' (by omega) (by omega)]
  cases (ap J i).testBit j <;> rfl
theorem warmR_loop (h : HJ J M) (hW : WJ J) {F s : Nat} (hs : s < 64) : ∀ (k i n : Nat), i + k = nT J → k < n → f_X10_warmestCoat_4 F M n (nI s) (nI (warmTo J s i)) (nI i) = some (nI (warm J s))
  | 0, i, n + 1, hi, _ => by
    have h6 := hW.1
    rw [f_X10_warmestCoat_4]
    simp (disch := omega) only [lit, ltI, leI, eqI, addI, mulI, subI, clI, ckI, if_pos, if_neg, if_true, if_false, Option.bind_some, b2_0, b2_n0, b2_1, b2_n1, Bool.true_eq_false, Bool.false_eq_true, b2_t, b2_f, h.1]
    rw [show i = nT J by omega]; rfl
  | k + 1, i, n + 1, hi, hn => by
    have h6 := hW.1
    have h9 := warmTo_le hW s i (by omega)
    have hf := (hW.2.2.1 i (by omega)).2.1
    have hf0 := (hW.2.2.1 i (by omega)).1
    have hst := warmR_loop h hW (F := F) hs k (i + 1) n (by omega) (by omega)
    rw [f_X10_warmestCoat_4]
    simp (disch := omega) only [lit, ltI, leI, eqI, addI, mulI, subI, clI, ckI, if_pos, if_neg, if_true, if_false, Option.bind_some, b2_0, b2_n0, b2_1, b2_n1, Bool.true_eq_false, Bool.false_eq_true, b2_t, b2_f, h.1, isOf_nat, of_nat h hW]
    unfold warmTo at hst
    cases hb : s.testBit i
    · rw [hb] at hst
      simp (disch := omega) only [lit, ltI, leI, eqI, addI, mulI, subI, clI, ckI, if_pos, if_neg, if_true, if_false, Option.bind_some, b2_0, b2_n0, b2_1, b2_n1, Bool.true_eq_false, Bool.false_eq_true, b2_t, b2_f]
      exact hst
    · rw [hb] at hst
      by_cases hk : tf J i 0 = 2
      · have hk2 : isK J 2 i = true := by simp [isK, hk]
        rw [hk2] at hst
        have hst : f_X10_warmestCoat_4 F M n (nI s) (nI (max (warmTo J s i) (tf J i 1))) (nI (i + 1)) = some (nI (warm J s)) := hst
        by_cases c : tf J i 1 ≤ warmTo J s i
        · rw [Nat.max_eq_left c] at hst
          simp (disch := omega) only [lit, ltI, leI, eqI, addI, mulI, subI, clI, ckI, if_pos, if_neg, if_true, if_false, Option.bind_some, b2_0, b2_n0, b2_1, b2_n1, Bool.true_eq_false, Bool.false_eq_true, b2_t, b2_f]
          exact hst
        · rw [Nat.max_eq_right (by omega)] at hst
          simp (disch := omega) only [lit, ltI, leI, eqI, addI, mulI, subI, clI, ckI, if_pos, if_neg, if_true, if_false, Option.bind_some, b2_0, b2_n0, b2_1, b2_n1, Bool.true_eq_false, Bool.false_eq_true, b2_t, b2_f]
          exact hst
      · have hk2 : isK J 2 i = false := by simp [isK, hk]
        rw [hk2] at hst
        simp (disch := omega) only [lit, ltI, leI, eqI, addI, mulI, subI, clI, ckI, if_pos, if_neg, if_true, if_false, Option.bind_some, b2_0, b2_n0, b2_1, b2_n1, Bool.true_eq_false, Bool.false_eq_true, b2_t, b2_f]
        exact hst
  | _, _, 0, _, hn => absurd hn (Nat.not_lt_zero _)
theorem warmR_nat (h : HJ J M) (hW : WJ J) {F s : Nat} (hs : s < 64) (hF : 7 ≤ F) : f_X10_warmestCoat F M (nI s) = some (nI (warm J s)) := warmR_loop h hW hs (nT J) 0 F (by omega) (by have := hW.1; omega)
theorem coatR_loop (h : HJ J M) (hW : WJ J) {F s : Nat} (hs : s < 64) : ∀ (k i n : Nat), i + k = nT J → k < n → f_X10_hasCoat_4 F M n (nI s) (b2 (coatTo J s i)) (nI i) = some (b2 (hasCoat J s))
  | 0, i, n + 1, hi, _ => by
    have h6 := hW.1
    rw [f_X10_hasCoat_4]
    simp (disch := omega) only [lit, ltI, leI, eqI, addI, mulI, subI, clI, ckI, if_pos, if_neg, if_true, if_false, Option.bind_some, b2_0, b2_n0, b2_1, b2_n1, Bool.true_eq_false, Bool.false_eq_true, b2_t, b2_f, h.1, and_b1]
    rw [show i = nT J by omega]; rfl
  | k + 1, i, n + 1, hi, hn => by
    have h6 := hW.1
    have hf0 := (hW.2.2.1 i (by omega)).1
    have hst := coatR_loop h hW (F := F) hs k (i + 1) n (by omega) (by omega)
    rw [f_X10_hasCoat_4]
    simp (disch := omega) only [lit, ltI, leI, eqI, addI, mulI, subI, clI, ckI, if_pos, if_neg, if_true, if_false, Option.bind_some, b2_0, b2_n0, b2_1, b2_n1, Bool.true_eq_false, Bool.false_eq_true, b2_t, b2_f, h.1, isOf_nat, of_nat h hW]
    unfold coatTo at hst
    cases hc : coatTo J s i
    · rw [hc] at hst
      cases hb : s.testBit i
      · rw [hb] at hst
        simp (disch := omega) only [lit, ltI, leI, eqI, addI, mulI, subI, clI, ckI, if_pos, if_neg, if_true, if_false, Option.bind_some, b2_0, b2_n0, b2_1, b2_n1, Bool.true_eq_false, Bool.false_eq_true, b2_t, b2_f]
        exact hst
      · rw [hb] at hst
        by_cases hk : tf J i 0 = 2
        · have hk2 : isK J 2 i = true := by simp [isK, hk]
          rw [hk2] at hst
          simp (disch := omega) only [lit, ltI, leI, eqI, addI, mulI, subI, clI, ckI, if_pos, if_neg, if_true, if_false, Option.bind_some, b2_0, b2_n0, b2_1, b2_n1, Bool.true_eq_false, Bool.false_eq_true, b2_t, b2_f]
          exact hst
        · have hk2 : isK J 2 i = false := by simp [isK, hk]
          rw [hk2] at hst
          simp (disch := omega) only [lit, ltI, leI, eqI, addI, mulI, subI, clI, ckI, if_pos, if_neg, if_true, if_false, Option.bind_some, b2_0, b2_n0, b2_1, b2_n1, Bool.true_eq_false, Bool.false_eq_true, b2_t, b2_f]
          exact hst
    · rw [hc] at hst
      simp (disch := omega) only [lit, ltI, leI, eqI, addI, mulI, subI, clI, ckI, if_pos, if_neg, if_true, if_false, Option.bind_some, b2_0, b2_n0, b2_1, b2_n1, Bool.true_eq_false, Bool.false_eq_true, b2_t, b2_f]
      rw [Bool.true_or] at hst
      exact hst
  | _, _, 0, _, hn => absurd hn (Nat.not_lt_zero _)
theorem coatR_nat (h : HJ J M) (hW : WJ J) {F s : Nat} (hs : s < 64) (hF : 7 ≤ F) : f_X10_hasCoat F M (nI s) = some (b2 (hasCoat J s)) := coatR_loop h hW hs (nT J) 0 F (by omega) (by have := hW.1; omega)
theorem mayWear_tail (h : HJ J M) (hW : WJ J) {F s d t b : Nat} (hs : s < 64) (hF : 7 ≤ F) (hd : d < nD J) (ht : t < nT J) (hb : b < nT J) : f_X10_mayWear_73 F M (nI s) (nI d) (nI t) (nI b) (nI 1) = some (b2 (decide (df J d 1 ≤ tf J t 2) && decide (df J d 1 ≤ tf J b 2) && decide (df J d 0 ≤ tf J t 1 + tf J b 1 + warm J s))) := by
  have h6 := hW.1
  have h8 := hW.2.1
  have hft := hW.2.2.1 t ht
  have hfb := hW.2.2.1 b hb
  have hdd := hW.2.2.2.1 d hd
  have hw : warm J s ≤ 9 := warmTo_le hW s (nT J) (Nat.le_refl _)
  have e0 := h.2.2.2.1 d hd 0 (by decide)
  have e1 := h.2.2.2.1 d hd 1 (by decide)
  rw [Nat.add_zero] at e0
  unfold f_X10_mayWear_73
  simp (disch := omega) only [lit, ltI, leI, eqI, addI, mulI, subI, clI, ckI, if_pos, if_neg, if_true, if_false, Option.bind_some, b2_0, b2_n0, b2_1, b2_n1, Bool.true_eq_false, Bool.false_eq_true, b2_t, b2_f, of_nat h hW, warmR_nat h hW, e0, e1]
  by_cases c1 : df J d 1 ≤ tf J t 2
  · by_cases c2 : df J d 1 ≤ tf J b 2
    · by_cases c3 : df J d 0 ≤ tf J t 1 + tf J b 1 + warm J s
      · simp (disch := omega) only [lit, ltI, leI, eqI, addI, mulI, subI, clI, ckI, if_pos, if_neg, if_true, if_false, Option.bind_some, b2_0, b2_n0, b2_1, b2_n1, Bool.true_eq_false, Bool.false_eq_true, b2_t, b2_f]
        simp [c1, c2, c3, b2]; rfl
      · simp (disch := omega) only [lit, ltI, leI, eqI, addI, mulI, subI, clI, ckI, if_pos, if_neg, if_true, if_false, Option.bind_some, b2_0, b2_n0, b2_1, b2_n1, Bool.true_eq_false, Bool.false_eq_true, b2_t, b2_f]
        simp [c1, c2, c3, b2]; rfl
    · simp (disch := omega) only [lit, ltI, leI, eqI, addI, mulI, subI, clI, ckI, if_pos, if_neg, if_true, if_false, Option.bind_some, b2_0, b2_n0, b2_1, b2_n1, Bool.true_eq_false, Bool.false_eq_true, b2_t, b2_f]
      simp [c1, c2, b2]; rfl
  · simp (disch := omega) only [lit, ltI, leI, eqI, addI, mulI, subI, clI, ckI, if_pos, if_neg, if_true, if_false, Option.bind_some, b2_0, b2_n0, b2_1, b2_n1, Bool.true_eq_false, Bool.false_eq_true, b2_t, b2_f]
    simp [c1, b2]; rfl
theorem mayWear_no {F : Nat} {a b c d : Int32} : f_X10_mayWear_73 F M a b c d (nI 0) = some (nI 0) := by
  unfold f_X10_mayWear_73
  exact if_pos rfl
theorem mayWear_nat (h : HJ J M) (hW : WJ J) {F s d t b : Nat} (hs : s < 64) (hF : 7 ≤ F) (hd : d < nD J) (ht : t < 6) (hb : b < 6) : f_X10_mayWear F M (nI s) (nI d) (nI t) (nI b) = some (b2 (suitsB J s d t b)) := by
  have h6 := hW.1
  unfold f_X10_mayWear
  simp (disch := omega) only [lit, ltI, leI, eqI, addI, mulI, subI, clI, ckI, if_pos, if_neg, if_true, if_false, Option.bind_some, b2_0, b2_n0, b2_1, b2_n1, Bool.true_eq_false, Bool.false_eq_true, b2_t, b2_f, h.1, isOf_nat, mayWear_no]
  unfold suitsB
  by_cases c1 : t < nT J
  · by_cases c2 : b < nT J
    · have hft := (hW.2.2.1 t c1).1
      have hfb := (hW.2.2.1 b c2).1
      simp (disch := omega) only [lit, ltI, leI, eqI, addI, mulI, subI, clI, ckI, if_pos, if_neg, if_true, if_false, Option.bind_some, b2_0, b2_n0, b2_1, b2_n1, Bool.true_eq_false, Bool.false_eq_true, b2_t, b2_f, of_nat h hW, going_nat h hW, mayWear_tail h hW]
      cases c3 : s.testBit t
      · simp (disch := omega) only [lit, ltI, leI, eqI, addI, mulI, subI, clI, ckI, if_pos, if_neg, if_true, if_false, Option.bind_some, b2_0, b2_n0, b2_1, b2_n1, Bool.true_eq_false, Bool.false_eq_true, b2_t, b2_f, Bool.and_false, Bool.false_and] <;> rfl
      · cases c4 : s.testBit b
        · simp (disch := omega) only [lit, ltI, leI, eqI, addI, mulI, subI, clI, ckI, if_pos, if_neg, if_true, if_false, Option.bind_some, b2_0, b2_n0, b2_1, b2_n1, Bool.true_eq_false, Bool.false_eq_true, b2_t, b2_f, Bool.and_false, Bool.false_and] <;> rfl
        · by_cases c5 : tf J t 0 = 0
          · by_cases c6 : tf J b 0 = 1
            · cases c7 : goesB J t b
              · simp (disch := omega) only [lit, ltI, leI, eqI, addI, mulI, subI, clI, ckI, if_pos, if_neg, if_true, if_false, Option.bind_some, b2_0, b2_n0, b2_1, b2_n1, Bool.true_eq_false, Bool.false_eq_true, b2_t, b2_f, Bool.and_false, Bool.false_and] <;> rfl
              · simp (disch := omega) only [lit, ltI, leI, eqI, addI, mulI, subI, clI, ckI, if_pos, if_neg, if_true, if_false, Option.bind_some, b2_0, b2_n0, b2_1, b2_n1, Bool.true_eq_false, Bool.false_eq_true, b2_t, b2_f]
                simp [c1, c2, isK, c5, c6]
            · simp (disch := omega) only [lit, ltI, leI, eqI, addI, mulI, subI, clI, ckI, if_pos, if_neg, if_true, if_false, Option.bind_some, b2_0, b2_n0, b2_1, b2_n1, Bool.true_eq_false, Bool.false_eq_true, b2_t, b2_f]
              simp [isK, c6, b2]; rfl
          · simp (disch := omega) only [lit, ltI, leI, eqI, addI, mulI, subI, clI, ckI, if_pos, if_neg, if_true, if_false, Option.bind_some, b2_0, b2_n0, b2_1, b2_n1, Bool.true_eq_false, Bool.false_eq_true, b2_t, b2_f]
            simp [isK, c5, b2]; rfl
    · simp (disch := omega) only [lit, ltI, leI, eqI, addI, mulI, subI, clI, ckI, if_pos, if_neg, if_true, if_false, Option.bind_some, b2_0, b2_n0, b2_1, b2_n1, Bool.true_eq_false, Bool.false_eq_true, b2_t, b2_f]
      simp [c2, b2]; rfl
  · simp (disch := omega) only [lit, ltI, leI, eqI, addI, mulI, subI, clI, ckI, if_pos, if_neg, if_true, if_false, Option.bind_some, b2_0, b2_n0, b2_1, b2_n1, Bool.true_eq_false, Bool.false_eq_true, b2_t, b2_f]
    simp [c1, b2]; rfl
theorem wearable_nat {x i : Nat} (hx : x < 4096) (hi : i < 6) : f_X10_isWearable M (nI x) (nI i) = b2 (rdy x i) := by
  have h4 := dg_lt x i
  unfold f_X10_isWearable rdy
  rw [howIs_nat hx hi]
  by_cases c : dg x i ≤ 1
  · simp (disch := omega) only [lit, ltI, leI, eqI, addI, mulI, subI, clI, ckI, if_pos, if_neg, if_true, if_false, Option.bind_some, b2_0, b2_n0, b2_1, b2_n1, Bool.true_eq_false, Bool.false_eq_true, b2_t, b2_f]
    simp [c, b2]; rfl
  · simp (disch := omega) only [lit, ltI, leI, eqI, addI, mulI, subI, clI, ckI, if_pos, if_neg, if_true, if_false, Option.bind_some, b2_0, b2_n0, b2_1, b2_n1, Bool.true_eq_false, Bool.false_eq_true, b2_t, b2_f]
    simp [c, b2]; rfl
theorem setR {x i v : Nat} (hx : x < 4096) (hi : i < 6) (hv : v < 4) : (nI x &&& ((nI 3 <<< (nI (2 * i) &&& nI 31)) ^^^ -nI 1)) ||| (nI v <<< (nI (2 * i) &&& nI 31)) = nI (sd x i v) := by
  rw [nI_shl (by omega), nI_shl (by omega), nI_andn1, nI_or, setd hx hi hv]
theorem wornR_nat (h : HJ J M) (hW : WJ J) {x i : Nat} {k : Bool} (hx : x < 4096) (hi : i < nT J) : f_X10_worn M (nI x) (nI i) (b2 k) = some (nI (worn J x i k)) := by
  have h6 := hW.1
  have h4 := dg_lt x i
  have hf := (hW.2.2.1 i hi).2.2.2.2.2.2.1
  unfold f_X10_worn f_X10_worn_32 worn wornD
  simp (disch := omega) only [lit, ltI, leI, eqI, addI, mulI, subI, clI, ckI, if_pos, if_neg, if_true, if_false, Option.bind_some, b2_0, b2_n0, b2_1, b2_n1, Bool.true_eq_false, Bool.false_eq_true, b2_t, b2_f, howIs_nat, of_nat h hW, setR]
  by_cases c : dg x i = 0
  · by_cases c2 : tf J i 6 = 2
    · cases k <;> simp (disch := omega) only [lit, ltI, leI, eqI, addI, mulI, subI, clI, ckI, if_pos, if_neg, if_true, if_false, Option.bind_some, b2_0, b2_n0, b2_1, b2_n1, Bool.true_eq_false, Bool.false_eq_true, b2_t, b2_f, c, c2, and_self]
    · cases k <;> simp (disch := omega) only [lit, ltI, leI, eqI, addI, mulI, subI, clI, ckI, if_pos, if_neg, if_true, if_false, Option.bind_some, b2_0, b2_n0, b2_1, b2_n1, Bool.true_eq_false, Bool.false_eq_true, b2_t, b2_f, c, c2, and_false]
  · simp (disch := omega) only [lit, ltI, leI, eqI, addI, mulI, subI, clI, ckI, if_pos, if_neg, if_true, if_false, Option.bind_some, b2_0, b2_n0, b2_1, b2_n1, Bool.true_eq_false, Bool.false_eq_true, b2_t, b2_f, c, false_and]
theorem night_K {F : Nat} {s x y i v : Nat} {ws : Int32} {K : Int32 → Int32 → Int32 → Int32 → Int32 → Option Int32} (hy : y < 4096) (hi : i < 6) (hv : v < 4) : f_X10_behind_103 F M K (nI x) (nI s) ws (nI y) (nI i) (nI v) = K (nI x) (nI s) ws (nI (sd y i v)) (nI (i + 1)) := by
  unfold f_X10_behind_103 vlet
  simp (disch := omega) only [lit, ltI, leI, eqI, addI, mulI, subI, clI, ckI, if_pos, if_neg, if_true, if_false, Option.bind_some, b2_0, b2_n0, b2_1, b2_n1, Bool.true_eq_false, Bool.false_eq_true, b2_t, b2_f, setR]
theorem behind_loop (h : HJ J M) (hW : WJ J) {F s x c : Nat} {ws : Bool} (hs : s < 64) (hx : x < 4096) (hc : c < 4096) : ∀ (k i n : Nat), i + k = nT J → k < n → f_X10_behind_21 F M n (nI x) (nI s) (b2 ws) (nI (nightTo J s x c ws i)) (nI i) = some (nI (nightTo J s x c ws (nT J)))
  | 0, i, n + 1, hi, _ => by
    have h6 := hW.1
    rw [f_X10_behind_21]
    simp (disch := omega) only [lit, ltI, leI, eqI, addI, mulI, subI, clI, ckI, if_pos, if_neg, if_true, if_false, Option.bind_some, b2_0, b2_n0, b2_1, b2_n1, Bool.true_eq_false, Bool.false_eq_true, b2_t, b2_f, h.1]
    rw [show i = nT J by omega]
  | k + 1, i, n + 1, hi, hn => by
    have h6 := hW.1
    have h7 := (hW.2.2.1 i (by omega)).2.2.2.2.2.2.2
    have hst := behind_loop h hW (F := F) (ws := ws) hs hx hc k (i + 1) n (by omega) (by omega)
    have hlt := (night_dg (J := J) (s := s) (h := x) (ws := ws) hc i (by omega)).1
    have hd1 := dg_lt x i
    rw [f_X10_behind_21]
    generalize nightTo J s x c ws (nT J) = R at hst ⊢
    rw [nightTo] at hst
    generalize nightTo J s x c ws i = y at hst hlt ⊢
    have hd2 := dg_lt y i
    unfold nightD at hst
    simp (disch := omega) only [lit, ltI, leI, eqI, addI, mulI, subI, clI, ckI, if_pos, if_neg, if_true, if_false, Option.bind_some, b2_0, b2_n0, b2_1, b2_n1, Bool.true_eq_false, Bool.false_eq_true, b2_t, b2_f, h.1, isOf_nat, howIs_nat, of_nat h hW]
    by_cases c3 : dg x i = 3
    · rw [if_pos c3] at hst
      simp (disch := omega) only [lit, ltI, leI, eqI, addI, mulI, subI, clI, ckI, if_pos, if_neg, if_true, if_false, Option.bind_some, b2_0, b2_n0, b2_1, b2_n1, Bool.true_eq_false, Bool.false_eq_true, b2_t, b2_f, night_K]
      exact hst
    · rw [if_neg c3] at hst
      cases ws
      · simp only [Bool.false_and, Bool.false_eq_true, if_false] at hst
        simp (disch := omega) only [lit, ltI, leI, eqI, addI, mulI, subI, clI, ckI, if_pos, if_neg, if_true, if_false, Option.bind_some, b2_0, b2_n0, b2_1, b2_n1, Bool.true_eq_false, Bool.false_eq_true, b2_t, b2_f, night_K]
        exact hst
      · cases hb : s.testBit i
        · simp only [hb, Bool.false_and, Bool.and_false, Bool.false_eq_true, if_false] at hst
          simp (disch := omega) only [lit, ltI, leI, eqI, addI, mulI, subI, clI, ckI, if_pos, if_neg, if_true, if_false, Option.bind_some, b2_0, b2_n0, b2_1, b2_n1, Bool.true_eq_false, Bool.false_eq_true, b2_t, b2_f, night_K]
          exact hst
        · rcases (by omega : dg y i = 0 ∨ dg y i = 1 ∨ dg y i = 2 ∨ dg y i = 3) with e | e | e | e
          · simp [e, hb] at hst
            simp (disch := omega) only [lit, ltI, leI, eqI, addI, mulI, subI, clI, ckI, if_pos, if_neg, if_true, if_false, Option.bind_some, b2_0, b2_n0, b2_1, b2_n1, Bool.true_eq_false, Bool.false_eq_true, b2_t, b2_f, e, night_K]
            exact hst
          · rcases (by omega : tf J i 7 = 0 ∨ tf J i 7 = 1) with e7 | e7 <;> simp [e, hb, e7] at hst <;> simp (disch := omega) only [lit, ltI, leI, eqI, addI, mulI, subI, clI, ckI, if_pos, if_neg, if_true, if_false, Option.bind_some, b2_0, b2_n0, b2_1, b2_n1, Bool.true_eq_false, Bool.false_eq_true, b2_t, b2_f, e, e7, night_K] <;> exact hst
          · rcases (by omega : tf J i 7 = 0 ∨ tf J i 7 = 1) with e7 | e7 <;> simp [e, hb, e7] at hst <;> simp (disch := omega) only [lit, ltI, leI, eqI, addI, mulI, subI, clI, ckI, if_pos, if_neg, if_true, if_false, Option.bind_some, b2_0, b2_n0, b2_1, b2_n1, Bool.true_eq_false, Bool.false_eq_true, b2_t, b2_f, e, e7, night_K] <;> exact hst
          · simp [e, hb] at hst
            simp (disch := omega) only [lit, ltI, leI, eqI, addI, mulI, subI, clI, ckI, if_pos, if_neg, if_true, if_false, Option.bind_some, b2_0, b2_n0, b2_1, b2_n1, Bool.true_eq_false, Bool.false_eq_true, b2_t, b2_f, e, night_K]
            exact hst
  | _, _, 0, _, hn => absurd hn (Nat.not_lt_zero _)
theorem behind_nat (h : HJ J M) (hW : WJ J) {F s x t b : Nat} {ws k : Bool} (hF : 7 ≤ F) (hs : s < 64) (hx : x < 4096) (ht : t < nT J) (hb : b < nT J) : f_X10_behind F M (nI x) (nI s) (nI t) (nI b) (b2 ws) (b2 k) = some (nI (nxt J s x t b ws k)) := by
  have h6 := hW.1
  unfold f_X10_behind
  rw [wornR_nat h hW hx ht, Option.bind_some, wornR_nat h hW (worn_lt hx (by omega)) hb, Option.bind_some]
  exact behind_loop h hW hs hx (worn_lt (worn_lt hx (by omega)) (by omega)) (nT J) 0 F (by omega) (by omega)
end REF
