-- part 44: how often again: what it is, and the reference's
theorem wea0 : wea (nI 0) 0 := fun d hd => bit1' (by decide) (by omega)
/-- a told set as a number -/
def st (J : Jr) (x : Int32) : Nat := x.toBitVec.toNat % 2 ^ nT J
theorem st_lt {J : Jr} (hW : WJ J) (x : Int32) : st J x < 64 := Nat.lt_of_lt_of_le (Nat.mod_lt _ (Nat.two_pow_pos _)) (Nat.pow_le_pow_right (by decide) hW.1 : 2 ^ nT J ≤ 2 ^ 6)
theorem st_and {J : Jr} (x : Int32) : x &&& nI (allB J) = nI (st J x) := by
  apply Int32.toBitVec_inj.mp
  apply BitVec.eq_of_toNat_eq
  show (x.toBitVec &&& BitVec.ofNat 32 (2 ^ nT J - 1)).toNat = (BitVec.ofNat 32 (x.toBitVec.toNat % 2 ^ nT J)).toNat
  have hx := x.toBitVec.isLt
  rw [BitVec.toNat_and, BitVec.toNat_ofNat, BitVec.toNat_ofNat, ← Nat.and_two_pow_sub_one_eq_mod _ (nT J), Nat.mod_eq_of_lt (Nat.lt_of_le_of_lt Nat.and_le_left hx)]
  apply Nat.eq_of_testBit_eq
  intro i
  rw [Nat.testBit_and, Nat.testBit_and, Nat.testBit_mod_two_pow]
  by_cases c : i < 32
  · simp [c]
  · rw [Nat.testBit_lt_two_pow (Nat.lt_of_lt_of_le hx (Nat.pow_le_pow_right (by decide) (by omega)))]
    simp
theorem all_nat {J : Jr} (hW : WJ J) : (nI 1 <<< (nI (nT J) &&& nI 31)) - nI 1 = nI (allB J) := by
  have h6 := hW.1
  have := Nat.two_pow_pos (nT J)
  rw [nI_shl (by omega), Nat.one_mul, subI (by omega)]
  rfl
theorem allR_nat {J : Jr} {M : Mem} (h : HJ J M) (hW : WJ J) : f_X10_allThings M = some (nI (allB J)) := by
  have h6 := hW.1
  unfold f_X10_allThings
  simp (disch := omega) only [lit, ltI, leI, eqI, addI, mulI, subI, clI, ckI, if_pos, if_neg, if_true, if_false, Option.bind_some, b2_0, b2_n0, b2_1, b2_n1, Bool.true_eq_false, Bool.false_eq_true, b2_t, b2_f, h.1, all_nat hW]
theorem allX_nat {J : Jr} {M : Mem} (h : HX J M 3) (hW : WJ J) : f_X8_allThings M 3 = nI (allB J) := by
  unfold f_X8_allThings
  simp only [lit]
  rw [show M.1 3 3 = nI (nT J) from h.1]
  exact all_nat hW
/-- the states behind the days from d on without rain -/
def jd (J : Jr) (s : Nat) : Nat → Nat → List Nat → List Nat
  | 0, _, l => l
  | r + 1, d, l => jd J s r (d + 1) (dayL J s 0 d l)
def jl (J : Jr) (s : Nat) (l : List Nat) : List Nat := jd J s (nD J) 0 l
def agn (J : Jr) (s : Nat) : Nat → List Nat → Nat
  | 0, _ => 0
  | k + 1, l => if (jl J s l).isEmpty = true then 0 else 1 + agn J s k (jl J s l)
theorem jd_ok {J : Jr} (hW : WJ J) {s : Nat} : ∀ (r d : Nat) (l : List Nat), d + r = nD J → (∀ x ∈ l, okH J s x) → ∀ x ∈ jd J s r d l, okH J s x
  | 0, _, _, _, h => h
  | r + 1, d, l, hd, h => jd_ok hW r (d + 1) _ (by omega) (day_ok hW (by omega) h)
theorem jl_ok {J : Jr} (hW : WJ J) {s : Nat} {l : List Nat} (h : ∀ x ∈ l, okH J s x) : ∀ x ∈ jl J s l, okH J s x := jd_ok hW _ _ l (by omega) h
theorem agn_le {J : Jr} {s : Nat} : ∀ (k : Nat) (l : List Nat), agn J s k l ≤ k
  | 0, _ => Nat.le_refl _
  | k + 1, l => by
    unfold agn
    split
    · omega
    · have := agn_le (J := J) (s := s) k (jl J s l)
      omega
theorem len_empty {l : List Nat} : (l.length ≤ 0) = (l.isEmpty = true) := by
  cases l <;> simp
theorem againR_days {J : Jr} (hW : WJ J) {F s t : Nat} {K : Int32 → Int32 → Int32 → Mem → Option (Int32 × Mem)} (hF : 4100 ≤ F) (hs : s < 64) (ht : t < 9) :
    ∀ (r d n S : Nat) (l : List Nat) (N : Mem), d + r = nD J → r < n → S + r < 2 ^ 31 → (∀ x ∈ l, okH J s x) → HJ J N → LST N l → STP N S →
      ∃ N' S', f_X10_again_43 F K n (nI s) (nI t) (nI d) N = (if (jd J s r d l).isEmpty = true then K (nI s) (nI t) (nI 0) N' else K (nI s) (nI (t + 1)) (nI 1) N') ∧ LST N' (jd J s r d l) ∧ STP N' S' ∧ S' ≤ S + r ∧ FS N N'
  | 0, d, n + 1, S, l, N, hd, _, hS, hl, hJ, h48, hst => by
    have h8 := hW.2.1
    have hll := h48.2.1
    refine ⟨N, S, ?_, h48, hst, by omega, FS.refl⟩
    rw [f_X10_again_43, jd]
    simp (disch := omega) only [lit, ltI, leI, eqI, addI, mulI, subI, clI, ckI, if_pos, if_neg, if_true, if_false, Option.bind_some, b2_0, b2_n0, b2_1, b2_n1, Bool.true_eq_false, Bool.false_eq_true, b2_t, b2_f, hJ.2.1, h48.1, len_empty, Nat.add_zero]
  | r + 1, d, n + 1, S, l, N, hd, hn, hS, hl, hJ, h48, hst => by
    have h8 := hW.2.1
    obtain ⟨N1, a1, a2, a3, a4⟩ := goDay_nat hW (F := F) wea0 hF hs (show d < nD J by omega) hl (by omega) hJ h48 hst
    obtain ⟨N2, S2, b1, b2', b3, b4, b5⟩ := againR_days hW (F := F) (K := K) hF hs ht r (d + 1) n (S + 1) _ N1 (by omega) (by omega) (by omega) (day_ok hW (by omega) hl) (hJ.fs a4) a2 a3
    refine ⟨N2, S2, ?_, b2', b3, by omega, a4.trans b5⟩
    rw [f_X10_again_43, jd]
    simp (disch := omega) only [lit, ltI, leI, eqI, addI, mulI, subI, clI, ckI, if_pos, if_neg, if_true, if_false, Option.bind_some, b2_0, b2_n0, b2_1, b2_n1, Bool.true_eq_false, Bool.false_eq_true, b2_t, b2_f, hJ.2.1, a1]
    exact b1
  | _, _, 0, _, _, _, _, hn, _, _, _, _, _ => absurd hn (Nat.not_lt_zero _)
theorem againR_loop {J : Jr} (hW : WJ J) {F s : Nat} (hF : 4100 ≤ F) (hs : s < 64) :
    ∀ (k t n S : Nat) (l : List Nat) (N : Mem), t + k = 9 → k + 1 < n → S + 8 * k < 2 ^ 31 → (∀ x ∈ l, okH J s x) → HJ J N → LST N l → STP N S →
      ∃ N' S', f_X10_again_29 F n (nI s) (nI t) (nI 1) N = some (nI (t + agn J s k l), N') ∧ STP N' S' ∧ S' ≤ S + 8 * k ∧ FS N N'
  | 0, t, n + 1, S, l, N, ht, _, hS, hl, hJ, h48, hst => by
    refine ⟨N, S, ?_, hst, by omega, FS.refl⟩
    rw [f_X10_again_29]
    simp (disch := omega) only [lit, ltI, leI, eqI, addI, mulI, subI, clI, ckI, if_pos, if_neg, if_true, if_false, Option.bind_some, b2_0, b2_n0, b2_1, b2_n1, Bool.true_eq_false, Bool.false_eq_true, b2_t, b2_f]
    rfl
  | k + 1, t, n + 1, S, l, N, ht, hn, hS, hl, hJ, h48, hst => by
    have h8 := hW.2.1
    obtain ⟨N1, S1, a1, a2, a3, a4, a5⟩ := againR_days hW (F := F) (t := t) (K := fun y2 y3 y4 N => f_X10_again_29 F n y2 y3 y4 N) hF hs (by omega) (nD J) 0 F S l N (by omega) (by omega) (by omega) hl hJ h48 hst
    have ih := againR_loop hW (F := F) hF hs k (t + 1) n S1 (jl J s l) N1 (by omega) (by omega) (by omega) (jl_ok hW hl) (hJ.fs a5) a2 a3
    rw [f_X10_again_29]
    unfold agn
    have e : jd J s (nD J) 0 l = jl J s l := rfl
    rw [e] at a1 a2
    cases hj : (jl J s l).isEmpty
    · rw [hj, if_neg (by decide)] at a1
      obtain ⟨N2, S2, b1, b2', b3, b4⟩ := ih
      refine ⟨N2, S2, ?_, b2', by omega, a5.trans b4⟩
      simp (disch := omega) only [lit, ltI, leI, eqI, addI, mulI, subI, clI, ckI, if_pos, if_neg, if_true, if_false, Option.bind_some, b2_0, b2_n0, b2_1, b2_n1, Bool.true_eq_false, Bool.false_eq_true, b2_t, b2_f]
      rw [show (t + 1 + agn J s k (jl J s l)) = t + (1 + agn J s k (jl J s l)) by omega] at b1
      exact a1.trans b1
    · rw [hj, if_pos rfl] at a1
      refine ⟨N1, S1, ?_, a3, by omega, a5⟩
      simp (disch := omega) only [lit, ltI, leI, eqI, addI, mulI, subI, clI, ckI, if_pos, if_neg, if_true, if_false, Option.bind_some, b2_0, b2_n0, b2_1, b2_n1, Bool.true_eq_false, Bool.false_eq_true, b2_t, b2_f]
      rw [a1]
      obtain ⟨m, rfl⟩ : ∃ m, n = m + 1 := ⟨n - 1, by omega⟩
      show f_X10_again_29 F (m + 1) (nI s) (nI t) (nI 0) N1 = _
      rw [f_X10_again_29]
      simp (disch := omega) only [lit, ltI, leI, eqI, addI, mulI, subI, clI, ckI, if_pos, if_neg, if_true, if_false, Option.bind_some, b2_0, b2_n0, b2_1, b2_n1, Bool.true_eq_false, Bool.false_eq_true, b2_t, b2_f]
      rfl
  | _, _, 0, _, _, _, _, hn, _, _, _, _, _ => absurd hn (Nat.not_lt_zero _)
/-- the reference's again -/
theorem againR_nat {J : Jr} (hW : WJ J) {F S : Nat} {x : Int32} {N : Mem} (hF : 4100 ≤ F) (hS : S + 80 < 2 ^ 31) (hJ : HJ J N) (hst : STP N S) :
    ∃ N' S', f_X10_again F N x = some (if nD J = 0 then -2 else nI (agn J (st J x) 9 [0]), N') ∧ STP N' S' ∧ S' ≤ S + 80 ∧ FS N N' := by
  have h8 := hW.2.1
  unfold f_X10_again
  by_cases c : nD J = 0
  · refine ⟨N, S, ?_, hst, by omega, FS.refl⟩
    rw [if_pos c]
    have h41 := hJ.2.1
    rw [c] at h41
    rw [if_pos (by decide)]
    have h41 : N.1 41 (0 : Int32).toNatClampNeg = 0 := h41
    rw [if_pos h41]
  · obtain ⟨N1, a1, a2, a3⟩ := begin_nat (F := F) (x := 0) (N := N)
    obtain ⟨N2, S2, b1, b2', b3, b4⟩ := againR_loop hW (F := F) (s := st J x) hF (st_lt hW x) 9 0 F S [0] N1 rfl (by omega) (by omega) (fun y hy => by rw [List.mem_singleton.mp hy]; exact okH_0) (hJ.fs a3) a2 (begin_stp a1 hst)
    refine ⟨N2, S2, ?_, b2', by omega, a3.trans b4⟩
    rw [if_neg c]
    simp (disch := omega) only [lit, ltI, leI, eqI, addI, mulI, subI, clI, ckI, if_pos, if_neg, if_true, if_false, Option.bind_some, b2_0, b2_n0, b2_1, b2_n1, Bool.true_eq_false, Bool.false_eq_true, b2_t, b2_f, hJ.2.1, allR_nat hJ hW, a1, st_and]
    rw [b1, Nat.zero_add]
