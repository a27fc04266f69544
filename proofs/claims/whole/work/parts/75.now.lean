-- part 75: calls: now, count
def frF (x i : Nat) : Bool := decide (dg x i = 0)
def nowV (J : Jr) (a : LV) (a1 : Int32) : Int32 := if a1 = 0 then nI a.1 else if a1 = 1 then nI a.2.2 else if a1 = 2 then nI (bitsTo (frF a.2.1) (nT J)) else if a1 = 3 then (if a.1 = nD J then 1 else 0) else -1
section CALLS
variable {J : Jr} {F : Nat}
theorem freshX_loop (hW : WJ J) {a : LV} {N : Mem} (hJ : HX J N 3) (hL : LX N 14 a) (hx : a.2.1 < 4096) : ∀ (m i n : Nat), i + m = nT J → m < n → f_X2_fresh_4 F N 14 3 n (nI (bitsTo (frF a.2.1) i)) (nI i) = some (nI (bitsTo (frF a.2.1) (nT J)))
  | 0, i, n + 1, hi, _ => by
    have h6 := hW.1
    have hii : i = nT J := by omega
    subst hii
    rw [f_X2_fresh_4, show f_X8_things N 3 = nI (nT J) from hJ.1]
    simp (disch := omega) only [lit, ltI, leI, eqI, addI, mulI, subI, clI, ckI, if_pos, if_neg, if_true, if_false, Option.bind_some, b2_0, b2_n0, b2_1, b2_n1, Bool.true_eq_false, Bool.false_eq_true, b2_t, b2_f]
  | m + 1, i, n + 1, hi, hn => by
    have h6 := hW.1
    have ih := freshX_loop hW hJ hL hx m (i + 1) n (by omega) (by omega)
    have e := stateOf_nat (M := N) hx (show i < 6 by omega)
    have hf : frF a.2.1 i = decide (dg a.2.1 i = 0) := rfl
    have hd := dg_lt a.2.1 i
    rw [f_X2_fresh_4, show f_X8_things N 3 = nI (nT J) from hJ.1]
    simp only [vlet]
    by_cases c : dg a.2.1 i = 0
    · rw [bitsTo_S, hf, decide_eq_true c, if_pos rfl] at ih
      simp (disch := omega) only [lit, ltI, leI, eqI, addI, mulI, subI, clI, ckI, if_pos, if_neg, if_true, if_false, Option.bind_some, b2_0, b2_n0, b2_1, b2_n1, Bool.true_eq_false, Bool.false_eq_true, b2_t, b2_f, hL.2.1, e, nI_shl, pow_or]
      exact ih
    · rw [bitsTo_S, hf, decide_eq_false c, if_neg (by decide), Nat.or_zero] at ih
      simp (disch := omega) only [lit, ltI, leI, eqI, addI, mulI, subI, clI, ckI, if_pos, if_neg, if_true, if_false, Option.bind_some, b2_0, b2_n0, b2_1, b2_n1, Bool.true_eq_false, Bool.false_eq_true, b2_t, b2_f, hL.2.1, e]
      exact ih
  | _, _, 0, _, hn => absurd hn (Nat.not_lt_zero _)
theorem nowX_nat (hW : WJ J) (hF : 100 ≤ F) {a : LV} {N : Mem} (hV : WV J a) (hJ : HX J N 3) (hL : LX N 14 a) (a1 : Int32) : f_X9_now F N a1 = some (nowV J a a1) := by
  have h6 := hW.1
  have h8 := hW.2.1
  have hD := hV.1
  have h := freshX_loop (F := F) hW hJ hL hV.2.1.1 (nT J) 0 F (by omega) (by omega)
  have h : f_X2_fresh F N 14 3 = some (nI (bitsTo (frF a.2.1) (nT J))) := h
  unfold f_X9_now nowV
  by_cases c0 : a1 = 0
  · rw [if_pos c0, if_pos c0]
    show some (N.1 14 0) = _
    rw [hL.1]
  · rw [if_neg c0, if_neg c0]
    by_cases c1 : a1 = 1
    · rw [if_pos c1, if_pos c1]
      show some (N.1 14 2) = _
      rw [hL.2.2]
    · rw [if_neg c1, if_neg c1]
      by_cases c2 : a1 = 2
      · rw [if_pos c2, if_pos c2, h]
        rfl
      · rw [if_neg c2, if_neg c2]
        by_cases c3 : a1 = 3
        · rw [if_pos c3, if_pos c3]
          unfold f_X2_isOver
          rw [hL.1, show f_X8_days N 3 = nI (nD J) from hJ.2.1]
          by_cases c4 : a.1 = nD J
          · rw [if_pos c4]
            simp (disch := omega) only [lit, ltI, leI, eqI, addI, mulI, subI, clI, ckI, if_pos, if_neg, if_true, if_false, Option.bind_some, b2_0, b2_n0, b2_1, b2_n1, Bool.true_eq_false, Bool.false_eq_true, b2_t, b2_f]
          · rw [if_neg c4]
            simp (disch := omega) only [lit, ltI, leI, eqI, addI, mulI, subI, clI, ckI, if_pos, if_neg, if_true, if_false, Option.bind_some, b2_0, b2_n0, b2_1, b2_n1, Bool.true_eq_false, Bool.false_eq_true, b2_t, b2_f]
        · rw [if_neg c3, if_neg c3]
theorem nowR_loop (hW : WJ J) {a : LV} {N : Mem} (hV : WV J a) (hJ : HJ J N) (hL : LY N 0 a) (a1 : Int32) : ∀ (m i n : Nat), i + m = nT J → m < n → f_X10_now_4 F N n a1 (nI (bitsTo (frF a.2.1) i)) (nI i) = some (nowV J a a1)
  | 0, i, n + 1, hi, _ => by
    have h6 := hW.1
    have h8 := hW.2.1
    have hD := hV.1
    have hii : i = nT J := by omega
    subst hii
    have e38 : N.1 38 (0 : Int32).toNatClampNeg = nI (nT J) := hJ.1
    have e41 : N.1 41 (0 : Int32).toNatClampNeg = nI (nD J) := hJ.2.1
    have e44 : N.1 44 (0 : Int32).toNatClampNeg = nI a.1 := hL.1
    have e46 : N.1 46 (0 : Int32).toNatClampNeg = nI a.2.2 := hL.2.2
    have k2 : ck (0 : Int32) 2 = true := by decide
    have k3 : ck (0 : Int32) 3 = true := by decide
    have hle : nI (nT J) ≤ nI (nT J) := by rw [leI (by omega) (by omega)]; exact Nat.le_refl _
    rw [f_X10_now_4, if_pos k2, e38, if_pos hle, if_pos k3, if_pos k3, if_pos k3, if_pos k2, e41, e44, e46]
    unfold nowV
    by_cases c0 : a1 = 0
    · rw [if_pos c0, if_pos c0]
    · rw [if_neg c0, if_neg c0]
      by_cases c1 : a1 = 1
      · rw [if_pos c1, if_pos c1]
      · rw [if_neg c1, if_neg c1]
        by_cases c2 : a1 = 2
        · rw [if_pos c2, if_pos c2]
        · rw [if_neg c2, if_neg c2]
          by_cases c3 : a1 = 3
          · rw [if_pos c3, if_pos c3]
            by_cases c4 : a.1 = nD J
            · rw [if_pos c4]
              simp (disch := omega) only [lit, ltI, leI, eqI, addI, mulI, subI, clI, ckI, if_pos, if_neg, if_true, if_false, Option.bind_some, b2_0, b2_n0, b2_1, b2_n1, Bool.true_eq_false, Bool.false_eq_true, b2_t, b2_f]
            · rw [if_neg c4]
              simp (disch := omega) only [lit, ltI, leI, eqI, addI, mulI, subI, clI, ckI, if_pos, if_neg, if_true, if_false, Option.bind_some, b2_0, b2_n0, b2_1, b2_n1, Bool.true_eq_false, Bool.false_eq_true, b2_t, b2_f]
          · rw [if_neg c3, if_neg c3]
  | m + 1, i, n + 1, hi, hn => by
    have h6 := hW.1
    have hx := hV.2.1.1
    have ih := nowR_loop hW hV hJ hL a1 m (i + 1) n (by omega) (by omega)
    have e := howIs_nat (M := N) hx (show i < 6 by omega)
    have hf : frF a.2.1 i = decide (dg a.2.1 i = 0) := rfl
    have hd := dg_lt a.2.1 i
    have e38 : N.1 38 0 = nI (nT J) := hJ.1
    have e45 : N.1 45 0 = nI a.2.1 := hL.2.1
    rw [f_X10_now_4]
    simp only [vlet]
    by_cases c : dg a.2.1 i = 0
    · rw [bitsTo_S, hf, decide_eq_true c, if_pos rfl] at ih
      simp (disch := omega) only [lit, ltI, leI, eqI, addI, mulI, subI, clI, ckI, if_pos, if_neg, if_true, if_false, Option.bind_some, b2_0, b2_n0, b2_1, b2_n1, Bool.true_eq_false, Bool.false_eq_true, b2_t, b2_f, e38, e45, e, nI_shl, pow_or]
      exact ih
    · rw [bitsTo_S, hf, decide_eq_false c, if_neg (by decide), Nat.or_zero] at ih
      have e0 : nI (bitsTo (frF a.2.1) i) ||| nI 0 = nI (bitsTo (frF a.2.1) i) := by rw [nI_or, Nat.or_zero]
      simp (disch := omega) only [lit, ltI, leI, eqI, addI, mulI, subI, clI, ckI, if_pos, if_neg, if_true, if_false, Option.bind_some, b2_0, b2_n0, b2_1, b2_n1, Bool.true_eq_false, Bool.false_eq_true, b2_t, b2_f, e38, e45, e, e0]
      exact ih
  | _, _, 0, _, hn => absurd hn (Nat.not_lt_zero _)
theorem nowR_nat (hW : WJ J) (hF : 100 ≤ F) {a : LV} {N : Mem} (hV : WV J a) (hJ : HJ J N) (hL : LY N 0 a) (a1 : Int32) : f_X10_now F N a1 = some (nowV J a a1) := nowR_loop hW hV hJ hL a1 (nT J) 0 F (by omega) (by have := hW.1; omega)
def cntV (J : Jr) (a : LV) (L : LL) (len : Nat) (a1 : Int32) : Int32 := if a1 = 0 then nI (nT J) else if a1 = 1 then nI (nD J) else if a1 = 2 then nI L.length else if a1 = 3 then nI len else if a1 = 4 then nI (sm J a.2.2 4) else if a1 = 5 then nI (sm J a.2.2 3) else -1
theorem countX_nat (hW : WJ J) (hF : 100 ≤ F) {a : LV} {L : LL} {len : Nat} {N : Mem} (hV : WV J a) (hJ : HX J N 3) (hL : LX N 14 a) (hX : XL L N) (ht : N.1 1 1 = nI len) (a1 : Int32) : f_X9_count F N a1 = some (cntV J a L len a1) := by
  have s4 := sumX_nat hW hF hJ (s := a.2.2) (k := 4) hV.2.2 (by decide)
  have s3 := sumX_nat hW hF hJ (s := a.2.2) (k := 3) hV.2.2 (by decide)
  rw [← hL.2.2] at s4 s3
  have s4 : f_X8_sum F N 3 (f_X2_set N 14) (4 : Int32) = some (nI (sm J a.2.2 4)) := s4
  have s3 : f_X8_sum F N 3 (f_X2_set N 14) (3 : Int32) = some (nI (sm J a.2.2 3)) := s3
  have hl := hX.1
  rw [so_len] at hl
  unfold f_X9_count cntV
  rw [s3, s4, show f_X8_things N 3 = nI (nT J) from hJ.1, show f_X8_days N 3 = nI (nD J) from hJ.2.1, show f_X3_size N = nI L.length from hl, show f_X7_length N = nI len from ht]
  by_cases c0 : a1 = 0
  · rw [if_pos c0, if_pos c0]
  · rw [if_neg c0, if_neg c0]
    by_cases c1 : a1 = 1
    · rw [if_pos c1, if_pos c1]
    · rw [if_neg c1, if_neg c1]
      by_cases c2 : a1 = 2
      · rw [if_pos c2, if_pos c2]
      · rw [if_neg c2, if_neg c2]
        by_cases c3 : a1 = 3
        · rw [if_pos c3, if_pos c3]
        · rw [if_neg c3, if_neg c3]
          by_cases c4 : a1 = 4
          · rw [if_pos c4, if_pos c4]
            rfl
          · rw [if_neg c4, if_neg c4]
            by_cases c5 : a1 = 5
            · rw [if_pos c5, if_pos c5]
              rfl
            · rw [if_neg c5, if_neg c5]
theorem countR_nat (hW : WJ J) (hF : 100 ≤ F) {a : LV} {L : LL} {len : Nat} {N : Mem} (hV : WV J a) (hJ : HJ J N) (hL : LY N 0 a) (hY : YL L N) (ht : N.1 36 2 = nI len) (a1 : Int32) : f_X10_count F N a1 = some (cntV J a L len a1) := by
  have s4 := sumR_nat hW hF hJ (s := a.2.2) (k := 4) hV.2.2 (by decide)
  have s3 := sumR_nat hW hF hJ (s := a.2.2) (k := 3) hV.2.2 (by decide)
  rw [← hL.2.2] at s4 s3
  have s4 : f_X10_sumOf F N (N.1 46 (0 : Int32).toNatClampNeg) (4 : Int32) = some (nI (sm J a.2.2 4)) := s4
  have s3 : f_X10_sumOf F N (N.1 46 (0 : Int32).toNatClampNeg) (3 : Int32) = some (nI (sm J a.2.2 3)) := s3
  have k2 : ck (0 : Int32) 2 = true := by decide
  have k3 : ck (0 : Int32) 3 = true := by decide
  unfold f_X10_count cntV
  rw [if_pos k2, if_pos k2, if_pos k3, if_pos k3, s3, s4, show N.1 38 (0 : Int32).toNatClampNeg = nI (nT J) from hJ.1, show N.1 41 (0 : Int32).toNatClampNeg = nI (nD J) from hJ.2.1, hY.1, ht]
  by_cases c0 : a1 = 0
  · rw [if_pos c0, if_pos c0]
  · rw [if_neg c0, if_neg c0]
    by_cases c1 : a1 = 1
    · rw [if_pos c1, if_pos c1]
    · rw [if_neg c1, if_neg c1]
      by_cases c2 : a1 = 2
      · rw [if_pos c2, if_pos c2]
      · rw [if_neg c2, if_neg c2]
        by_cases c3 : a1 = 3
        · rw [if_pos c3, if_pos c3]
        · rw [if_neg c3, if_neg c3]
          by_cases c4 : a1 = 4
          · rw [if_pos c4, if_pos c4]
            rfl
          · rw [if_neg c4, if_neg c4]
            by_cases c5 : a1 = 5
            · rw [if_pos c5, if_pos c5]
              rfl
            · rw [if_neg c5, if_neg c5]
end CALLS
