-- part 70: calls: back; keep and back as pairs
theorem backX_nat {q : Nat} (hq : q ≤ 1) {kp : Bool} {a : LV} {N : Mem} (h3 : N.1 (15 + q) 3 = b2 kp) (hL : kp = true → LX N (15 + q) a) : if kp = true then ∃ N', f_X9_back N (nI q) = some (nI a.1, N') ∧ LX N' 14 a ∧ OC 14 N N' else f_X9_back N (nI q) = some (-2, N) := by
  have hk : f_X2_isKept N (15 + q) = some (b2 kp) := by
    unfold f_X2_isKept
    rw [h3, if_pos b2_and1]
  cases kp
  · rw [if_neg (by decide)]
    unfold f_X9_back
    rw [isBit_nat hq, if_neg (by decide), imageAt_nat hq, hk, Option.bind_some, if_pos b2_f]
  · rw [if_pos rfl]
    obtain ⟨N1, b1, b2', b3, b4⟩ := copyX_nat (o := 14) (o1 := 15 + q) (by omega) (hL rfl)
    refine ⟨N1, ?_, b2', b4⟩
    unfold f_X9_back
    rw [isBit_nat hq, if_neg (by decide), imageAt_nat hq, hk, Option.bind_some, if_neg (by decide), b1, Option.bind_some]
    show some (N1.1 14 0, N1) = _
    rw [b2'.1]
theorem backR_nat {q : Nat} (hq : q ≤ 1) {kp : Bool} {a : LV} {N : Mem} (h3 : N.1 47 q = b2 kp) (hL : kp = true → LY N (1 + q) a) : if kp = true then ∃ N', f_X10_back N (nI q) = some (nI a.1, N') ∧ LY N' 0 a ∧ FY 0 N N' else f_X10_back N (nI q) = some (-2, N) := by
  have hin : f_X10_in N (nI q) (0 : Int32) (1 : Int32) = 1 := inR_yes (n := 1) (by decide) hq
  cases kp
  · rw [if_neg (by decide)]
    unfold f_X10_back
    rw [hin, if_neg (by decide), ckI (i := q) (by omega) (by decide), if_pos rfl, clI (by omega), h3, if_pos b2_f]
  · rw [if_pos rfl]
    obtain ⟨N1, b1, b2', b3⟩ := copyR_nat (i := 1 + q) (k := 0) (by omega) (by decide) (by omega) (hL rfl)
    have b1 : f_X10_copy N ((1 : Int32) + nI q) (0 : Int32) = some N1 := by
      rw [show (1 : Int32) + nI q = nI (1 + q) from addI 1 q]
      exact b1
    refine ⟨N1, ?_, b2', b3⟩
    unfold f_X10_back
    rw [hin, if_neg (by decide), ckI (i := q) (by omega) (by decide), if_pos rfl, clI (by omega), h3, if_neg (by decide), b1, Option.bind_some, if_pos (by decide)]
    show some (N1.1 44 0, N1) = _
    rw [b2'.1]
theorem notBit {a1 : Int32} (h : ∀ q, q ≤ 1 → a1 ≠ nI q) : (∀ N, f_X9_isBit N a1 = 0) ∧ ∀ N, f_X10_in N a1 (0 : Int32) (1 : Int32) = 0 := by
  refine ⟨fun N => ?_, fun N => inR_no (n := 1) (by decide) h⟩
  rcases isBit_any (M := N) a1 with ⟨e, -⟩ | ⟨e, -⟩ | ⟨-, -, e⟩
  · exact absurd e (h 0 (by decide))
  · exact absurd e (h 1 (by decide))
  · exact e
theorem keep_bad {a1 : Int32} (h : ∀ q, q ≤ 1 → a1 ≠ nI q) (N : Mem) : f_X9_keep N a1 = some (-1, N) ∧ f_X10_keep N a1 = some (-1, N) ∧ f_X9_back N a1 = some (-1, N) ∧ f_X10_back N a1 = some (-1, N) := by
  obtain ⟨h1, h2⟩ := notBit h
  refine ⟨?_, ?_, ?_, ?_⟩
  · unfold f_X9_keep; rw [h1, if_pos rfl]
  · unfold f_X10_keep; rw [h2, if_pos rfl]
  · unfold f_X9_back; rw [h1, if_pos rfl]
  · unfold f_X10_back; rw [h2, if_pos rfl]
