-- part 77: calls: type, clear
/-- the text: its bytes -/
abbrev TL : Type := List Nat
def WTx (T : TL) : Prop := T.length ≤ 500 ∧ ∀ x ∈ T, x < 256
def TXX (T : TL) (N : Mem) : Prop := N.1 1 1 = nI T.length ∧ ∀ j, j < T.length → N.1 2 j &&& (255 : Int32) = nI (T.getD j 0)
def TYY (T : TL) (N : Mem) : Prop := N.1 36 2 = nI T.length ∧ ∀ j, j < T.length → N.1 37 j &&& (255 : Int32) = nI (T.getD j 0)
def TXF (N N' : Mem) : Prop := (∀ c, c ≠ 1 → c ≠ 2 → N'.1 c = N.1 c) ∧ N'.2 = N.2
def TYF (N N' : Mem) : Prop := (∀ c, c ≠ 36 → c ≠ 37 → N'.1 c = N.1 c) ∧ (∀ k, k ≠ 2 → N'.1 36 k = N.1 36 k) ∧ N'.2 = N.2
theorem TXF.refl {N : Mem} : TXF N N := ⟨fun _ _ _ => rfl, rfl⟩
theorem TYF.refl {N : Mem} : TYF N N := ⟨fun _ _ _ => rfl, fun _ _ => rfl, rfl⟩
theorem TXF.trans {A B C : Mem} (h1 : TXF A B) (h2 : TXF B C) : TXF A C := ⟨fun c a1 a2 => (h2.1 c a1 a2).trans (h1.1 c a1 a2), h2.2.trans h1.2⟩
theorem TYF.trans {A B C : Mem} (h1 : TYF A B) (h2 : TYF B C) : TYF A C := ⟨fun c a1 a2 => (h2.1 c a1 a2).trans (h1.1 c a1 a2), fun k a1 => (h2.2.1 k a1).trans (h1.2.1 k a1), h2.2.2.trans h1.2.2⟩
theorem b255 : ∀ i, i < 32 → (255#32).getLsbD i = decide (i < 8) := by decide +kernel
theorem b255l : ∀ i, i < 64 → (255#64).getLsbD i = decide (i < 8) := by decide +kernel
theorem se8 (z : Int32) : z.toInt8.toInt32 &&& (255 : Int32) = z &&& (255 : Int32) := by
  apply Int32.toBitVec_inj.mp
  show ((z.toBitVec.signExtend 8).signExtend 32) &&& 255#32 = z.toBitVec &&& 255#32
  apply BitVec.eq_of_getLsbD_eq
  intro i hi
  rw [BitVec.getLsbD_and, BitVec.getLsbD_and, b255 i hi]
  by_cases c : i < 8
  · rw [decide_eq_true c, Bool.and_true, Bool.and_true, BitVec.getLsbD_signExtend, BitVec.getLsbD_signExtend]
    rw [if_pos c, if_pos hi, decide_eq_true hi, decide_eq_true c, Bool.true_and, Bool.true_and]
  · rw [decide_eq_false c, Bool.and_false, Bool.and_false]
/-- the byte that a shifted long gives -/
def bv8 (y : Int64) : Nat := y.toBitVec.toNat % 256
theorem bv8_lt (y : Int64) : bv8 y < 256 := Nat.mod_lt _ (by decide)
theorem bv8_bit (y : Int64) {i : Nat} (hi : i < 32) : (nI (bv8 y)).toBitVec.getLsbD i = (decide (i < 8) && y.toBitVec.getLsbD i) := by
  show (BitVec.ofNat 32 (y.toBitVec.toNat % 256)).getLsbD i = _
  rw [BitVec.getLsbD_ofNat, show (256 : Nat) = 2 ^ 8 from rfl, Nat.testBit_mod_two_pow, decide_eq_true hi, Bool.true_and]
  rfl
theorem byX (y : Int64) : (y.toInt32 &&& (255 : Int32)).toInt8.toInt32.toInt8.toInt32 &&& (255 : Int32) = nI (bv8 y) := by
  rw [se8, se8]
  apply Int32.toBitVec_inj.mp
  show ((y.toBitVec.signExtend 32) &&& 255#32) &&& 255#32 = _
  apply BitVec.eq_of_getLsbD_eq
  intro i hi
  rw [bv8_bit y hi, BitVec.getLsbD_and, BitVec.getLsbD_and, b255 i hi]
  by_cases c : i < 8
  · rw [decide_eq_true c, Bool.and_true, Bool.and_true, Bool.true_and, BitVec.getLsbD_signExtend, if_pos (by omega), decide_eq_true hi, Bool.true_and]
  · rw [decide_eq_false c, Bool.and_false, Bool.false_and]
theorem byY (y : Int64) : ((y &&& (255 : Int64)).toInt32).toInt8.toInt32.toInt8.toInt32 &&& (255 : Int32) = nI (bv8 y) := by
  rw [se8, se8]
  apply Int32.toBitVec_inj.mp
  show ((y.toBitVec &&& 255#64).signExtend 32) &&& 255#32 = _
  apply BitVec.eq_of_getLsbD_eq
  intro i hi
  rw [bv8_bit y hi, BitVec.getLsbD_and, b255 i hi]
  by_cases c : i < 8
  · rw [decide_eq_true c, Bool.and_true, Bool.true_and, BitVec.getLsbD_signExtend, if_pos (by omega), decide_eq_true hi, Bool.true_and, BitVec.getLsbD_and, b255l i (by omega), decide_eq_true c, Bool.and_true]
  · rw [decide_eq_false c, Bool.and_false, Bool.false_and]
/-- the text with the lowest m bytes of v -/
def apT (T : TL) (v : Int64) : Nat → TL
  | 0 => T
  | m + 1 => apT (T ++ [bv8 (v >>> (((8 : Int32) * nI m).toInt64 &&& 63))]) v m
theorem apT_len : ∀ (m : Nat) (T : TL) (v : Int64), (apT T v m).length = T.length + m
  | 0, _, _ => rfl
  | m + 1, T, v => by
    rw [apT, apT_len m, List.length_append, List.length_singleton]
    omega
theorem apT_lt : ∀ (m : Nat) (T : TL) (v : Int64), (∀ x ∈ T, x < 256) → ∀ x ∈ apT T v m, x < 256
  | 0, _, _, h => h
  | m + 1, T, v, h => by
    rw [apT]
    refine apT_lt m _ v (fun x hx => ?_)
    rcases List.mem_append.mp hx with h2 | h2
    · exact h x h2
    · rw [List.mem_singleton.mp h2]
      exact bv8_lt _
theorem tlA_app {T : TL} {b j : Nat} (hj : j < T.length) : (T ++ [b]).getD j 0 = T.getD j 0 := by
  rw [List.getD_eq_getElem?_getD, List.getD_eq_getElem?_getD, List.getElem?_append_left hj]
theorem tlA_end {T : TL} {b : Nat} : (T ++ [b]).getD T.length 0 = b := by
  rw [List.getD_eq_getElem?_getD, List.getElem?_append_right (Nat.le_refl _), Nat.sub_self]
  rfl
theorem typeX_loop {F : Nat} {v : Int64} : ∀ (m n : Nat) (T : TL) (N : Mem), m < n → T.length + m ≤ 500 → TXX T N → ∃ N', f_X9_type_32 F n v (dI m) N = some (nI (apT T v m).length, N') ∧ TXX (apT T v m) N' ∧ TXF N N'
  | 0, n + 1, T, N, _, hl, hT => by
    refine ⟨N, ?_, hT, TXF.refl⟩
    rw [f_X9_type_32, if_pos (by decide)]
    show some (N.1 1 1, N) = _
    rw [hT.1]
    rfl
  | m + 1, n + 1, T, N, hn, hl, hT => by
    have hb := byX (v >>> (((8 : Int32) * nI m).toInt64 &&& 63))
    have e1 := hT.1
    generalize hw : ((v >>> (((8 : Int32) * nI m).toInt64 &&& 63)).toInt32 &&& (255 : Int32)).toInt8.toInt32.toInt8.toInt32 = w at hb
    have hT' : TXX (T ++ [bv8 (v >>> (((8 : Int32) * nI m).toInt64 &&& 63))]) (setI (setI N 2 T.length w) 1 1 (nI (T.length + 1))) := by
      refine ⟨?_, fun j hj => ?_⟩
      · rw [setI_at, List.length_append, List.length_singleton]
      · rw [List.length_append, List.length_singleton] at hj
        rw [setI_ne (by decide)]
        by_cases e : j = T.length
        · subst e
          rw [setI_at, tlA_end, hb]
        · rw [setI_nk e, tlA_app (by omega)]
          exact hT.2 j (by omega)
    obtain ⟨N1, a1, a2, a3⟩ := typeX_loop (F := F) (v := v) m n _ _ (by omega) (by rw [List.length_append, List.length_singleton]; omega) hT'
    refine ⟨N1, ?_, a2, TXF.trans (A := N) (B := setI (setI N 2 T.length w) 1 1 (nI (T.length + 1))) ⟨fun c c1 c2 => by rw [setI_ne c1, setI_ne c2], rfl⟩ a3⟩
    have e2 : (setI N 2 T.length w).1 1 1 = nI T.length := by rw [setI_ne (by decide)]; exact e1
    have hneg : ¬ dI (m + 1) < 0 := nI_pos (by omega)
    have hadd : f_X7_add N ((v >>> (((8 : Int32) * nI m).toInt64 &&& 63)).toInt32 &&& (255 : Int32)) = some (setI (setI N 2 T.length w) 1 1 (nI (T.length + 1))) := by
      unfold f_X7_add
      simp only [vlet]
      rw [hw]
      simp (disch := omega) only [lit, ltI, leI, eqI, addI, mulI, subI, clI, ckI, if_pos, if_neg, if_true, if_false, Option.bind_some, b2_0, b2_n0, b2_1, b2_n1, Bool.true_eq_false, Bool.false_eq_true, b2_t, b2_f, e1, e2]
    rw [f_X9_type_32, if_neg hneg]
    show (f_X7_add N ((v >>> (((8 : Int32) * nI m).toInt64 &&& 63)).toInt32 &&& (255 : Int32))).bind _ = _
    rw [hadd, Option.bind_some]
    show f_X9_type_32 F n v (nI m + (-nI 1)) _ = _
    rw [dI_pred]
    exact a1
  | _, 0, _, _, hn, _, _ => absurd hn (Nat.not_lt_zero _)
theorem typeY_loop {F : Nat} {v : Int64} : ∀ (m n : Nat) (T : TL) (N : Mem), m < n → T.length + m ≤ 500 → TYY T N → ∃ N', f_X10_type_32 F n v (dI m) N = some (nI (apT T v m).length, N') ∧ TYY (apT T v m) N' ∧ TYF N N'
  | 0, n + 1, T, N, _, hl, hT => by
    refine ⟨N, ?_, hT, TYF.refl⟩
    rw [f_X10_type_32, if_pos (by decide), hT.1]
    rfl
  | m + 1, n + 1, T, N, hn, hl, hT => by
    have hb := byY (v >>> (((8 : Int32) * nI m).toInt64 &&& 63))
    have e1 := hT.1
    generalize hw : ((v >>> (((8 : Int32) * nI m).toInt64 &&& 63) &&& (255 : Int64)).toInt32).toInt8.toInt32.toInt8.toInt32 = w at hb
    have hT' : TYY (T ++ [bv8 (v >>> (((8 : Int32) * nI m).toInt64 &&& 63))]) (setI (setI N 37 T.length w) 36 2 (nI (T.length + 1))) := by
      refine ⟨?_, fun j hj => ?_⟩
      · rw [setI_at, List.length_append, List.length_singleton]
      · rw [List.length_append, List.length_singleton] at hj
        rw [setI_ne (by decide)]
        by_cases e : j = T.length
        · subst e
          rw [setI_at, tlA_end, hb]
        · rw [setI_nk e, tlA_app (by omega)]
          exact hT.2 j (by omega)
    obtain ⟨N1, a1, a2, a3⟩ := typeY_loop (F := F) (v := v) m n _ _ (by omega) (by rw [List.length_append, List.length_singleton]; omega) hT'
    refine ⟨N1, ?_, a2, TYF.trans (A := N) (B := setI (setI N 37 T.length w) 36 2 (nI (T.length + 1))) ⟨fun c c1 c2 => by rw [setI_ne c1, setI_ne c2], fun k hk => by rw [setI_nk hk, setI_ne (by decide)], rfl⟩ a3⟩
    have e2 : (setI N 37 T.length w).1 36 2 = nI T.length := by rw [setI_ne (by decide)]; exact e1
    have hneg : ¬ dI (m + 1) < 0 := nI_pos (by omega)
    rw [f_X10_type_32, if_neg hneg, show dI (m + 1) = nI m from rfl, hw]
    simp only [vlet]
    rw [show nI m + (-1 : Int32) = dI m from dI_pred m]
    simp (disch := omega) only [lit, ltI, leI, eqI, addI, mulI, subI, clI, ckI, if_pos, if_neg, if_true, if_false, Option.bind_some, b2_0, b2_n0, b2_1, b2_n1, Bool.true_eq_false, Bool.false_eq_true, b2_t, b2_f, e1, e2]
    exact a1
  | _, 0, _, _, hn, _, _ => absurd hn (Nat.not_lt_zero _)
theorem type_pair {F : Nat} (hF : 100 ≤ F) {T : TL} (hT : WTx T) (v : Int64) (a2 : Int32) : ∃ r T', WTx T' ∧ (∀ N, TXX T N → ∃ N', f_X9_type F N v a2 = some (r, N') ∧ TXX T' N' ∧ TXF N N') ∧ (∀ N, TYY T N → ∃ N', f_X10_type F N v a2 = some (r, N') ∧ TYY T' N' ∧ TYF N N') := by
  have hl := hT.1
  rcases range_any a2 (n := 8) (by decide) with ⟨k, hk, rfl⟩ | h0 | ⟨h0, h1, h2⟩
  · cases k with
    | zero =>
      refine ⟨-1, T, hT, fun N h => ⟨N, ?_, h, TXF.refl⟩, fun N h => ⟨N, ?_, h, TYF.refl⟩⟩
      · unfold f_X9_type
        rw [if_pos (by decide)]
      · unfold f_X10_type f_X10_in
        rw [if_pos (by decide)]
    | succ m =>
      have e1 : nI (m + 1) - (1 : Int32) = dI (m + 1) := subI (a := m + 1) (b := 1) (by omega)
      have hin : ∀ N, f_X10_in N (nI (m + 1)) (1 : Int32) (8 : Int32) = 1 := by
        intro N
        have := in_nat (M := N) (a := m + 1) (lo := 1) (hi := 8) (by omega) (by decide) (by decide)
        rw [decide_eq_true (show 1 ≤ m + 1 by omega), decide_eq_true hk] at this
        exact this
      by_cases c : T.length + (m + 1) ≤ 500
      · refine ⟨nI (apT T v (m + 1)).length, apT T v (m + 1), ⟨by rw [apT_len]; exact c, apT_lt _ _ _ hT.2⟩, fun N h => ?_, fun N h => ?_⟩
        · obtain ⟨N', b1, b2', b3⟩ := typeX_loop (F := F) (v := v) (m + 1) F T N (by omega) c h
          refine ⟨N', ?_, b2', b3⟩
          unfold f_X9_type f_X7_hasRoom
          rw [e1, h.1]
          simp (disch := omega) only [lit, ltI, leI, eqI, addI, mulI, subI, clI, ckI, if_pos, if_neg, if_true, if_false, Option.bind_some, b2_0, b2_n0, b2_1, b2_n1, Bool.true_eq_false, Bool.false_eq_true, b2_t, b2_f]
          exact b1
        · obtain ⟨N', b1, b2', b3⟩ := typeY_loop (F := F) (v := v) (m + 1) F T N (by omega) c h
          refine ⟨N', ?_, b2', b3⟩
          unfold f_X10_type
          rw [hin, e1, h.1]
          simp (disch := omega) only [lit, ltI, leI, eqI, addI, mulI, subI, clI, ckI, if_pos, if_neg, if_true, if_false, Option.bind_some, b2_0, b2_n0, b2_1, b2_n1, Bool.true_eq_false, Bool.false_eq_true, b2_t, b2_f]
          exact b1
      · refine ⟨-3, T, hT, fun N h => ⟨N, ?_, h, TXF.refl⟩, fun N h => ⟨N, ?_, h, TYF.refl⟩⟩
        · unfold f_X9_type f_X7_hasRoom
          rw [h.1]
          simp (disch := omega) only [lit, ltI, leI, eqI, addI, mulI, subI, clI, ckI, if_pos, if_neg, if_true, if_false, Option.bind_some, b2_0, b2_n0, b2_1, b2_n1, Bool.true_eq_false, Bool.false_eq_true, b2_t, b2_f]
        · unfold f_X10_type
          rw [hin, h.1]
          simp (disch := omega) only [lit, ltI, leI, eqI, addI, mulI, subI, clI, ckI, if_pos, if_neg, if_true, if_false, Option.bind_some, b2_0, b2_n0, b2_1, b2_n1, Bool.true_eq_false, Bool.false_eq_true, b2_t, b2_f]
  · have hlt : a2 < (1 : Int32) := by
      have h0 := Int32.lt_iff_toInt_lt.mp h0
      apply Int32.lt_iff_toInt_lt.mpr
      have e0 : (0 : Int32).toInt = 0 := by decide
      have e1 : (1 : Int32).toInt = 1 := by decide
      omega
    refine ⟨-1, T, hT, fun N h => ⟨N, ?_, h, TXF.refl⟩, fun N h => ⟨N, ?_, h, TYF.refl⟩⟩
    · unfold f_X9_type
      rw [if_pos hlt]
    · unfold f_X10_type f_X10_in
      rw [if_pos hlt, if_pos rfl]
  · have h1 : (8 : Int32) < a2 := h1
    have h2 : ¬ a2 ≤ (8 : Int32) := h2
    have hlt : ¬ a2 < (1 : Int32) := by
      intro h
      have h := Int32.lt_iff_toInt_lt.mp h
      have h1 := Int32.lt_iff_toInt_lt.mp h1
      have e8 : (8 : Int32).toInt = 8 := by decide
      have e1 : (1 : Int32).toInt = 1 := by decide
      omega
    refine ⟨-1, T, hT, fun N h => ⟨N, ?_, h, TXF.refl⟩, fun N h => ⟨N, ?_, h, TYF.refl⟩⟩
    · unfold f_X9_type
      rw [if_neg hlt, if_neg h2]
    · unfold f_X10_type f_X10_in
      rw [if_neg hlt, if_pos h1, if_pos rfl]
theorem WTx.nil : WTx [] := ⟨Nat.zero_le _, fun x h => absurd h List.not_mem_nil⟩
theorem clearX_nat {T : TL} {N : Mem} (h : TXX T N) : ∃ N', f_X9_clear N = some (nI T.length, N') ∧ TXX [] N' ∧ TXF N N' := by
  refine ⟨setI N 1 1 0, ?_, ⟨setI_at, fun j hj => absurd hj (Nat.not_lt_zero _)⟩, fun c c1 _ => setI_ne c1, rfl⟩
  unfold f_X9_clear f_X7_empty
  simp only [vlet]
  rw [Option.bind_some]
  show some (N.1 1 1, _) = _
  rw [h.1]
theorem clearY_nat {T : TL} {N : Mem} (h : TYY T N) : ∃ N', f_X10_clear N = some (nI T.length, N') ∧ TYY [] N' ∧ TYF N N' := by
  refine ⟨setI N 36 2 0, ?_, ⟨setI_at, fun j hj => absurd hj (Nat.not_lt_zero _)⟩, fun c c1 _ => setI_ne c1, fun k hk => setI_nk hk, rfl⟩
  unfold f_X10_clear
  simp only [vlet]
  rw [h.1]
