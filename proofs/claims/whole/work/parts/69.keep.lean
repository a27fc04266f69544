-- part 69: calls: keep, back
theorem copyX_nat {o o1 : Nat} (ho : o1 ≠ o) {a : LV} {N : Mem} (hL : LX N o1 a) : ∃ N', f_X2_copy N o o1 = some N' ∧ LX N' o a ∧ N'.1 o 3 = 1 ∧ OC o N N' := by
  refine ⟨setI (putX N o a) o 3 1, ?_, ⟨?_, ?_, ?_⟩, setI_at, fun d h => by rw [setI_ne h]; exact putX_oc.1 d h, rfl⟩
  · unfold f_X2_copy putX
    simp only [vlet]
    rw [hL.1, setI_ne ho, hL.2.1, setI_ne ho, setI_ne ho, hL.2.2]
  · rw [setI_nk (by decide)]; exact putX_lx.1
  · rw [setI_nk (by decide)]; exact putX_lx.2.1
  · rw [setI_nk (by decide)]; exact putX_lx.2.2
theorem copyR_nat {i k : Nat} (hi : i < 3) (hk : k < 3) (hik : i ≠ k) {a : LV} {N : Mem} (hL : LY N i a) : ∃ N', f_X10_copy N (nI i) (nI k) = some N' ∧ LY N' k a ∧ FY k N N' := by
  refine ⟨setI (setI (setI N 44 k (nI a.1)) 45 k (nI a.2.1)) 46 k (nI a.2.2), ?_, ⟨?_, ?_, setI_at⟩, fun d h1 h2 h3 => by rw [setI_ne h3, setI_ne h2, setI_ne h1], fun j hj => ⟨?_, ?_, ?_⟩, rfl⟩
  · have e2 : (setI N 44 k (nI a.1)).1 45 i = nI a.2.1 := by rw [setI_ne (by decide)]; exact hL.2.1
    have e3 : (setI (setI N 44 k (nI a.1)) 45 k (nI a.2.1)).1 46 i = nI a.2.2 := by rw [setI_ne (by decide), setI_ne (by decide)]; exact hL.2.2
    unfold f_X10_copy
    simp only [vlet]
    simp (disch := omega) only [lit, ltI, leI, eqI, addI, mulI, subI, clI, ckI, if_pos, if_neg, if_true, if_false, Option.bind_some, b2_0, b2_n0, b2_1, b2_n1, Bool.true_eq_false, Bool.false_eq_true, b2_t, b2_f, hL.1, e2, e3]
  · rw [setI_ne (by decide), setI_ne (by decide), setI_at]
  · rw [setI_ne (by decide), setI_at]
  · rw [setI_ne (by decide), setI_ne (by decide), setI_nk hj]
  · rw [setI_ne (by decide), setI_nk hj, setI_ne (by decide)]
  · rw [setI_nk hj, setI_ne (by decide), setI_ne (by decide)]
theorem imageAt_nat {M : Mem} {q : Nat} (h : q ≤ 1) : f_X9_imageAt M (nI q) = 15 + q := by
  rcases (by omega : q = 0 ∨ q = 1) with rfl | rfl <;> rfl
theorem isBit_nat {M : Mem} {q : Nat} (h : q ≤ 1) : f_X9_isBit M (nI q) = 1 := by
  rcases (by omega : q = 0 ∨ q = 1) with rfl | rfl <;> rfl
theorem keepX_nat {q : Nat} (hq : q ≤ 1) {a : LV} {N : Mem} (hL : LX N 14 a) : ∃ N', f_X9_keep N (nI q) = some (nI a.1, N') ∧ LX N' (15 + q) a ∧ N'.1 (15 + q) 3 = 1 ∧ OC (15 + q) N N' := by
  obtain ⟨N1, b1, b2', b3, b4⟩ := copyX_nat (o := 15 + q) (o1 := 14) (by omega) hL
  refine ⟨N1, ?_, b2', b3, b4⟩
  unfold f_X9_keep
  rw [isBit_nat hq, if_neg (by decide), imageAt_nat hq, b1, Option.bind_some]
  show some (N1.1 14 0, N1) = _
  rw [b4.1 14 (by omega), hL.1]
theorem keepR_nat {q : Nat} (hq : q ≤ 1) {a : LV} {N : Mem} (hL : LY N 0 a) : ∃ N', f_X10_keep N (nI q) = some (nI a.1, N') ∧ LY N' (1 + q) a ∧ N'.1 47 q = 1 ∧ (∀ j, j ≠ q → N'.1 47 j = N.1 47 j) ∧ (∀ d, d ≠ 44 → d ≠ 45 → d ≠ 46 → d ≠ 47 → N'.1 d = N.1 d) ∧ (∀ j, j ≠ 1 + q → N'.1 44 j = N.1 44 j ∧ N'.1 45 j = N.1 45 j ∧ N'.1 46 j = N.1 46 j) ∧ N'.2 = N.2 := by
  obtain ⟨N1, b1, b2', b3, b4, b5⟩ := copyR_nat (i := 0) (k := 1 + q) (by decide) (by omega) (by omega) hL
  have b1 : f_X10_copy N (0 : Int32) ((1 : Int32) + nI q) = some N1 := by
    rw [show (1 : Int32) + nI q = nI (1 + q) from addI 1 q]
    exact b1
  refine ⟨setI N1 47 q 1, ?_, ⟨?_, ?_, ?_⟩, setI_at, fun j hj => ?_, fun d h1 h2 h3 h4 => ?_, fun j hj => ?_, b5⟩
  · have hin : f_X10_in N (nI q) (0 : Int32) (1 : Int32) = 1 := inR_yes (n := 1) (by decide) hq
    have e : (setI N1 47 q 1).1 44 0 = nI a.1 := by rw [setI_ne (by decide), (b4 0 (by omega)).1]; exact hL.1
    unfold f_X10_keep
    rw [hin, if_neg (by decide), b1, Option.bind_some]
    simp only [vlet]
    rw [ckI (i := q) (by omega) (by decide), if_pos rfl, clI (by omega), if_pos (by decide)]
    show some ((setI N1 47 q 1).1 44 0, _) = _
    rw [e]
  · rw [setI_ne (by decide)]; exact b2'.1
  · rw [setI_ne (by decide)]; exact b2'.2.1
  · rw [setI_ne (by decide)]; exact b2'.2.2
  · rw [setI_nk hj, b3 47 (by decide) (by decide) (by decide)]
  · rw [setI_ne h4]; exact b3 d h1 h2 h3
  · rw [setI_ne (by decide), setI_ne (by decide), setI_ne (by decide)]; exact b4 j hj
