-- part 42: the class's planner: days lived on with a memory of failures
def bL (v : Int64) (j : Nat) : Bool := v.toBitVec.getLsbD j
theorem sh63 : ∀ k, k < 64 → (((nI k).toInt64 &&& 63).toBitVec.smod 64).toNat = k := by decide +kernel
theorem ssh0 {x : BitVec 64} {j : Nat} (hj : j < 64) : (x.sshiftRight j).getLsbD 0 = x.getLsbD j := by
  rw [BitVec.getLsbD_sshiftRight, Nat.add_zero, if_pos hj]
  rfl
theorem bL_get {v : Int64} {j : Nat} (hj : j < 64) : (lg_cmp ((v >>> ((nI j).toInt64 &&& 63)) &&& 1) 0 = nI 0) = (bL v j = false) := by
  apply propext
  have h0 : (lg_cmp ((v >>> ((nI j).toInt64 &&& 63)) &&& 1) 0 = nI 0) ↔ (v >>> ((nI j).toInt64 &&& 63)) &&& 1 = 0 := lg_cmp_eq _ _
  rw [h0, ← Int64.toBitVec_inj, Int64.toBitVec_and, Int64.toBitVec_shiftRight, BitVec.sshiftRight', sh63 j hj]
  unfold bL
  rw [← ssh0 hj]
  generalize v.toBitVec.sshiftRight j = y
  show y &&& 1#64 = 0#64 ↔ _
  constructor
  · intro h
    have := congrArg (fun x => x.getLsbD 0) h
    rw [BitVec.getLsbD_and] at this
    simpa using this
  · intro h
    apply BitVec.eq_of_getLsbD_eq
    intro i hi
    rw [BitVec.getLsbD_and, BitVec.getLsbD_one]
    by_cases e : i = 0
    · subst e
      rw [h]
      simp
    · simp [e]
theorem bL_set {v : Int64} {i j : Nat} (hi : i < 64) (hj : j < 64) : bL (v ||| ((1 : Int64) <<< ((nI j).toInt64 &&& 63))) i = (bL v i || decide (i = j)) := by
  unfold bL
  rw [Int64.toBitVec_or, Int64.toBitVec_shiftLeft, BitVec.getLsbD_or, BitVec.shiftLeft_eq', sh63 j hj, BitVec.getLsbD_shiftLeft]
  congr 1
  show (decide (i < 64) && !decide (i < j) && (1#64).getLsbD (i - j)) = _
  rw [BitVec.getLsbD_one]
  by_cases e : i = j
  · subst e; simp [hi]
  · by_cases c : i < j
    · simp [c, e]
    · have : i - j ≠ 0 := by omega
      simp [this, e]
theorem bL_0 (j : Nat) : bL 0 j = false := by
  show (0#64).getLsbD j = false
  simp
theorem fill_loop {F c len : Nat} {v : Int64} (hl : len ≤ 4096) : ∀ (m j n : Nat) (N : Mem), j + m = len → m < n → (∀ k, k < j → N.2 c k = v) → ∃ N', f_J7_fill_d0a16_6 F c len n v (nI j) (nI len) N = some N' ∧ (∀ k, k < len → N'.2 c k = v) ∧ N'.1 = N.1 ∧ ∀ d, d ≠ c → N'.2 d = N.2 d
  | 0, j, n + 1, N, hj, _, h => by
    refine ⟨N, ?_, fun k hk => h k (by omega), rfl, fun _ _ => rfl⟩
    rw [f_J7_fill_d0a16_6]
    simp (disch := omega) only [lit, ltI, leI, eqI, addI, mulI, subI, clI, ckI, if_pos, if_neg, if_true, if_false, Option.bind_some, b2_0, b2_n0, b2_1, b2_n1, Bool.true_eq_false, Bool.false_eq_true, b2_t, b2_f]
  | m + 1, j, n + 1, N, hj, hn, h => by
    obtain ⟨N', a1, a2, a3, a4⟩ := fill_loop (F := F) (c := c) (v := v) hl m (j + 1) n (setL N c j v) (by omega) (by omega) (fun k hk => by
      by_cases e : k = j
      · subst e; exact setL_at
      · rw [setL_nk e]; exact h k (by omega))
    refine ⟨N', ?_, a2, a3, fun d hd => (a4 d hd).trans (setL_ne hd)⟩
    rw [f_J7_fill_d0a16_6]
    simp only [vlet]
    simp (disch := omega) only [lit, ltI, leI, eqI, addI, mulI, subI, clI, ckI, if_pos, if_neg, if_true, if_false, Option.bind_some, b2_0, b2_n0, b2_1, b2_n1, Bool.true_eq_false, Bool.false_eq_true, b2_t, b2_f]
    exact a1
  | _, _, 0, _, _, hn, _ => absurd hn (Nat.not_lt_zero _)
theorem fill_nat {F c len : Nat} {v : Int64} {N : Mem} (hl : len ≤ 4096) (hF : 4100 ≤ F) : ∃ N', f_J7_fill_d0a16 F N c len v = some N' ∧ (∀ k, k < len → N'.2 c k = v) ∧ N'.1 = N.1 ∧ ∀ d, d ≠ c → N'.2 d = N.2 d := by
  unfold f_J7_fill_d0a16
  exact fill_loop hl len 0 F N (by omega) (by omega) (fun k hk => absurd hk (Nat.not_lt_zero _))
/-- what is remembered as failed fails -/
def OKF (J : Jr) (s w : Nat) (N : Mem) : Prop := ∀ d x, d < nD J → x < 4096 → bL (N.2 22 (64 * d + x / 64)) (x % 64) = true → lives J s w (nD J - d) d x = false
/-- picked and washed from day d on -/
def PL (N : Mem) (d : Nat) (l : List Nat) : Prop := ∀ j, j < l.length → N.1 20 (d + j) = nI (l.getD j 0 / 2) ∧ N.1 21 (d + j) = nI (l.getD j 0 % 2)
def LF (d : Nat) (N N' : Mem) : Prop := (∀ c, c ≠ 20 → c ≠ 21 → N'.1 c = N.1 c) ∧ (∀ k, k < d → N'.1 20 k = N.1 20 k ∧ N'.1 21 k = N.1 21 k) ∧ ∀ c, c ≠ 22 → N'.2 c = N.2 c
theorem LF.refl {d : Nat} {N : Mem} : LF d N N := ⟨fun _ _ _ => rfl, fun _ _ => ⟨rfl, rfl⟩, fun _ _ => rfl⟩
theorem LF.trans {d : Nat} {A B C : Mem} (h1 : LF d A B) (h2 : LF d B C) : LF d A C := ⟨fun c a1 a2 => (h2.1 c a1 a2).trans (h1.1 c a1 a2), fun k hk => ⟨(h2.2.1 k hk).1.trans (h1.2.1 k hk).1, (h2.2.1 k hk).2.trans (h1.2.1 k hk).2⟩, fun c a1 => (h2.2.2 c a1).trans (h1.2.2 c a1)⟩
theorem LF.down {d : Nat} {A B : Mem} (h : LF (d + 1) A B) : LF d A B := ⟨h.1, fun k hk => h.2.1 k (by omega), h.2.2⟩
theorem LF.pf {d : Nat} {A B : Mem} (h : LF d A B) : PF A B := ⟨fun c hc => h.1 c (by omega) (by omega), fun c hc => h.2.2 c (by omega)⟩
theorem LF.t {d : Nat} {N : Mem} {v : Int32} : LF d N (setI N 20 d v) := ⟨fun c a1 _ => setI_ne a1, fun k hk => ⟨setI_nk (by omega), by rw [setI_ne (by decide)]⟩, fun _ _ => rfl⟩
theorem LF.w {d : Nat} {N : Mem} {v : Int32} : LF d N (setI N 21 d v) := ⟨fun c _ a1 => setI_ne a1, fun k hk => ⟨by rw [setI_ne (by decide)], setI_nk (by omega)⟩, fun _ _ => rfl⟩
theorem LF.l {d k : Nat} {N : Mem} {v : Int64} : LF d N (setL N 22 k v) := ⟨fun _ _ _ => rfl, fun _ _ => ⟨rfl, rfl⟩, fun c a1 => setL_ne a1⟩
theorem PR.lf {J : Jr} {s w d : Nat} {N N' : Mem} (h : PR J s w N) (f : LF d N N') : PR J s w N' := by
  unfold PR DP at *
  rw [f.1 17 (by decide) (by decide), f.1 18 (by decide) (by decide), f.1 19 (by decide) (by decide)]
  exact h
def gW (J : Jr) (s w r d x p c : Nat) : Option (List Nat) := (fp J s w r (d + 1) (nx J s w d x p c)).map (fun l => (2 * p + c) :: l)
def gP (J : Jr) (s w r d x p : Nat) : Option (List Nat) := if rdy x (p / 6) && rdy x (p % 6) then (wsL J d).findSome? (gW J s w r d x p) else none
theorem fs_filter {α : Type} {c b : Nat → Bool} {h : Nat → Option α} : ∀ l : List Nat, l.findSome? (fun p => if (c p && b p) = true then h p else none) = (l.filter c).findSome? (fun p => if b p = true then h p else none)
  | [] => rfl
  | a :: t => by
    rw [List.findSome?_cons, fs_filter t, List.filter_cons]
    cases hc : c a
    · simp
    · simp [List.findSome?_cons]
theorem fp_pairs {J : Jr} {s w r d x : Nat} : fp J s w (r + 1) d x = (pairL J s d 36).findSome? (gP J s w r d x) := by
  unfold pairL
  have h := fs_filter (c := suitP J s d) (b := fun p => rdy x (p / 6) && rdy x (p % 6)) (h := fun p => (wsL J d).findSome? (gW J s w r d x p)) (List.range 36)
  refine Eq.trans ?_ h
  rw [fp]
  congr 1
  funext p
  unfold okP
  rw [Bool.and_assoc]
  rfl
theorem wsL_range {J : Jr} {d : Nat} (h : df J d 2 ≤ 1) : wsL J d = List.range (1 + df J d 2) := by
  unfold wsL
  rcases (by omega : df J d 2 = 0 ∨ df J d 2 = 1) with e | e <;> rw [e] <;> rfl
theorem isDay_nat {M : Mem} {d : Nat} (h : d < 8) : f_X5_isDay M (nI d) = 1 := by
  unfold f_X5_isDay
  simp (disch := omega) only [lit, ltI, leI, eqI, addI, mulI, subI, clI, ckI, if_pos, if_neg, if_true, if_false, Option.bind_some, b2_0, b2_n0, b2_1, b2_n1, Bool.true_eq_false, Bool.false_eq_true, b2_t, b2_f]
theorem sub64 (x : Nat) : x - x / 64 * 64 = x % 64 := by omega
section LV
variable {J : Jr} {s w r d : Nat} {KR : Mem → Int32 → Int32 → Option (Int32 × Mem)}
def KRok (J : Jr) (s w r d : Nat) (KR : Mem → Int32 → Int32 → Option (Int32 × Mem)) : Prop := ∀ N x, okH J s x → HX J N 3 → PR J s w N → OKF J s w N → ∃ N', KR N (nI (d + 1)) (nI x) = some (b2 (lives J s w r (d + 1) x), N') ∧ OKF J s w N' ∧ LF (d + 1) N N' ∧ ∀ l, fp J s w r (d + 1) x = some l → PL N' (d + 1) l
theorem wash_nat (hW : WJ J) (hd : d < nD J) {F x p : Nat} (hx : okH J s x) (hp : okP J s d x p = true) (hK : KRok J s w r d KR) :
    ∀ (m c n : Nat) (N : Mem), c + m = 1 + df J d 2 → m < n → HX J N 3 → PR J s w N → OKF J s w N → N.1 20 d = nI p →
      ∃ N', f_X5_livesOnWith_76 F KR n (nI d) (nI x) (nI (p / 6)) (nI (p % 6)) (b2 (soakB J s w d)) (nI c) N = some (b2 (((List.range (1 + df J d 2)).drop c).findSome? (gW J s w r d x p)).isSome, N') ∧ OKF J s w N' ∧ LF d N N' ∧ ∀ l, ((List.range (1 + df J d 2)).drop c).findSome? (gW J s w r d x p) = some l → PL N' d l
  | 0, c, n + 1, N, hc, _, hJ, hP, hO, h20 => by
    have h8 := hW.2.1
    have h2 := (hW.2.2.2.1 d hd).2.2.1
    have e : (List.range (1 + df J d 2)).drop c = [] := List.drop_eq_nil_of_le (by rw [List.length_range]; omega)
    rw [e]
    refine ⟨N, ?_, hO, LF.refl, fun l hl => by cases hl⟩
    rw [f_X5_livesOnWith_76, lit 2, want_nat hJ hW hd (by decide)]
    simp (disch := omega) only [lit, ltI, leI, eqI, addI, mulI, subI, clI, ckI, if_pos, if_neg, if_true, if_false, Option.bind_some, b2_0, b2_n0, b2_1, b2_n1, Bool.true_eq_false, Bool.false_eq_true, b2_t, b2_f]
    rfl
  | m + 1, c, n + 1, N, hc, hn, hJ, hP, hO, h20 => by
    have h8 := hW.2.1
    have h2 := (hW.2.2.2.1 d hd).2.2.1
    have hcl : c < (List.range (1 + df J d 2)).length := by rw [List.length_range]; omega
    rw [List.drop_eq_getElem_cons hcl, List.getElem_range, List.findSome?_cons]
    have hf : LF d N (setI N 21 d (nI c)) := LF.w
    have hJ' := hJ.pf hf.pf
    have hP' := hP.lf hf
    have hO' : OKF J s w (setI N 21 d (nI c)) := hO
    obtain ⟨N1, a1, a2, a3, a4⟩ := hK (setI N 21 d (nI c)) (nx J s w d x p c) (nx_ok hW hx hp) hJ' hP' hO'
    obtain ⟨q1, q2, q3, q4, q5, q6, q7⟩ := okP_of hp
    have hmo := morning_nat hJ' hW (s := s) (x := x) (t := p / 6) (b := p % 6) (ws := decide (c = 1)) (k := soakB J s w d) hx q1 q2 q5 q3 q4 q6 q7
    have hmo : f_X8_morning (setI N 21 d (nI c)) 3 (nI x) (nI (p / 6)) (nI (p % 6)) (b2 (soakB J s w d)) (b2 (decide (c = 1))) = nI (nx J s w d x p c) := hmo
    have hone : f_X5_livesOnWith_76 F KR (n + 1) (nI d) (nI x) (nI (p / 6)) (nI (p % 6)) (b2 (soakB J s w d)) (nI c) N = if lives J s w r (d + 1) (nx J s w d x p c) = true then some (1, N1) else f_X5_livesOnWith_76 F KR n (nI d) (nI x) (nI (p / 6)) (nI (p % 6)) (b2 (soakB J s w d)) (nI (c + 1)) N1 := by
      rw [f_X5_livesOnWith_76, lit 2, want_nat hJ hW hd (by decide)]
      simp only [vlet]
      rcases (by omega : c = 0 ∨ c = 1) with rfl | rfl
      · have hmo : f_X8_morning (setI N 21 d (nI 0)) 3 (nI x) (nI (p / 6)) (nI (p % 6)) (b2 (soakB J s w d)) (nI 0) = nI (nx J s w d x p 0) := hmo
        simp (disch := omega) only [lit, ltI, leI, eqI, addI, mulI, subI, clI, ckI, if_pos, if_neg, if_true, if_false, Option.bind_some, b2_0, b2_n0, b2_1, b2_n1, Bool.true_eq_false, Bool.false_eq_true, b2_t, b2_f, hmo, a1]
        cases lives J s w r (d + 1) (nx J s w d x p 0)
        · simp (disch := omega) only [lit, ltI, leI, eqI, addI, mulI, subI, clI, ckI, if_pos, if_neg, if_true, if_false, Option.bind_some, b2_0, b2_n0, b2_1, b2_n1, Bool.true_eq_false, Bool.false_eq_true, b2_t, b2_f]
        · simp (disch := omega) only [lit, ltI, leI, eqI, addI, mulI, subI, clI, ckI, if_pos, if_neg, if_true, if_false, Option.bind_some, b2_0, b2_n0, b2_1, b2_n1, Bool.true_eq_false, Bool.false_eq_true, b2_t, b2_f]
      · have hmo : f_X8_morning (setI N 21 d (nI 1)) 3 (nI x) (nI (p / 6)) (nI (p % 6)) (b2 (soakB J s w d)) (nI 1) = nI (nx J s w d x p 1) := hmo
        simp (disch := omega) only [lit, ltI, leI, eqI, addI, mulI, subI, clI, ckI, if_pos, if_neg, if_true, if_false, Option.bind_some, b2_0, b2_n0, b2_1, b2_n1, Bool.true_eq_false, Bool.false_eq_true, b2_t, b2_f, hmo, a1]
        cases lives J s w r (d + 1) (nx J s w d x p 1)
        · simp (disch := omega) only [lit, ltI, leI, eqI, addI, mulI, subI, clI, ckI, if_pos, if_neg, if_true, if_false, Option.bind_some, b2_0, b2_n0, b2_1, b2_n1, Bool.true_eq_false, Bool.false_eq_true, b2_t, b2_f]
        · simp (disch := omega) only [lit, ltI, leI, eqI, addI, mulI, subI, clI, ckI, if_pos, if_neg, if_true, if_false, Option.bind_some, b2_0, b2_n0, b2_1, b2_n1, Bool.true_eq_false, Bool.false_eq_true, b2_t, b2_f]
    rw [hone]
    have hg : gW J s w r d x p c = (fp J s w r (d + 1) (nx J s w d x p c)).map (fun l => (2 * p + c) :: l) := rfl
    unfold lives
    cases hfp : fp J s w r (d + 1) (nx J s w d x p c) with
    | some l =>
      rw [hfp] at hg
      rw [hg]
      have hpl := a4 l hfp
      refine ⟨N1, rfl, a2, hf.trans a3.down, fun l' hl => ?_⟩
      simp only [Option.map_some] at hl
      cases hl
      intro j hj
      rcases Nat.eq_zero_or_pos j with rfl | hpos
      · refine ⟨?_, ?_⟩
        · rw [Nat.add_zero, (a3.2.1 d (by omega)).1, setI_ne (by decide), h20]
          show nI p = nI ((2 * p + c) / 2)
          congr 1; omega
        · rw [Nat.add_zero, (a3.2.1 d (by omega)).2, setI_at]
          show nI c = nI ((2 * p + c) % 2)
          congr 1; omega
      · obtain ⟨i, rfl⟩ : ∃ i, j = i + 1 := ⟨j - 1, by omega⟩
        rw [List.length_cons] at hj
        have := hpl i (by omega)
        rw [show d + (i + 1) = d + 1 + i by omega]
        exact this
    | none =>
      rw [hfp] at hg
      rw [hg]
      have ih := wash_nat hW hd (F := F) hx hp hK m (c + 1) n N1 (by omega) (by omega) (hJ'.pf a3.pf) (hP'.lf a3) a2 (by rw [(a3.2.1 d (by omega)).1, setI_ne (by decide)]; exact h20)
      obtain ⟨N2, b1, b2', b3, b4⟩ := ih
      exact ⟨N2, b1, b2', (hf.trans a3.down).trans b3, b4⟩
  | _, _, 0, _, _, hn, _, _, _, _ => absurd hn (Nat.not_lt_zero _)
theorem with_nat (hW : WJ J) (hd : d < nD J) {F x p : Nat} {N : Mem} (hF : 100 ≤ F) (hx : okH J s x) (hp36 : p < 36) (hp : suitP J s d p = true) (hK : KRok J s w r d KR) (hJ : HX J N 3) (hP : PR J s w N) (hO : OKF J s w N) :
    ∃ N', f_X5_livesOnWith F KR N (nI d) (nI x) (nI p) = some (b2 (gP J s w r d x p).isSome, N') ∧ OKF J s w N' ∧ LF d N N' ∧ ∀ l, gP J s w r d x p = some l → PL N' d l := by
  have h8 := hW.2.1
  have h2 := (hW.2.2.2.1 d hd).2.2.1
  have hp' := hp
  unfold suitP suitsB at hp'
  simp only [Bool.and_eq_true, decide_eq_true_eq] at hp'
  have q1 : p / 6 < nT J := hp'.1.1.1.1.1.1.1.1.1
  have q2 : p % 6 < nT J := hp'.1.1.1.1.1.1.1.1.2
  have hk := hP.1 d (by omega)
  unfold f_X5_livesOnWith gP
  simp only [vlet]
  rw [hk]
  cases r1 : rdy x (p / 6)
  · refine ⟨N, ?_, hO, LF.refl, fun l hl => by cases hl⟩
    simp (disch := omega) only [lit, ltI, leI, eqI, addI, mulI, subI, clI, ckI, if_pos, if_neg, if_true, if_false, Option.bind_some, b2_0, b2_n0, b2_1, b2_n1, Bool.true_eq_false, Bool.false_eq_true, b2_t, b2_f, divI, sub6, isDay_nat, ready_nat hJ hW hx q1, r1]
    rfl
  · cases r2 : rdy x (p % 6)
    · refine ⟨N, ?_, hO, LF.refl, fun l hl => by cases hl⟩
      simp (disch := omega) only [lit, ltI, leI, eqI, addI, mulI, subI, clI, ckI, if_pos, if_neg, if_true, if_false, Option.bind_some, b2_0, b2_n0, b2_1, b2_n1, Bool.true_eq_false, Bool.false_eq_true, b2_t, b2_f, divI, sub6, isDay_nat, ready_nat hJ hW hx q1, ready_nat hJ hW hx q2, r1, r2]
      rfl
    · have hok : okP J s d x p = true := by unfold okP; rw [hp, r1, r2]; rfl
      have hf : LF d N (setI N 20 d (nI p)) := LF.t
      obtain ⟨N1, a1, a2, a3, a4⟩ := wash_nat hW hd (F := F) (w := w) (r := r) (KR := KR) hx hok hK (1 + df J d 2) 0 F (setI N 20 d (nI p)) (by omega) (by omega) (hJ.pf hf.pf) (hP.lf hf) hO setI_at
      rw [List.drop_zero, ← wsL_range h2] at a1 a4
      refine ⟨N1, ?_, a2, hf.trans a3, a4⟩
      simp (disch := omega) only [lit, ltI, leI, eqI, addI, mulI, subI, clI, ckI, if_pos, if_neg, if_true, if_false, Option.bind_some, b2_0, b2_n0, b2_1, b2_n1, Bool.true_eq_false, Bool.false_eq_true, b2_t, b2_f, divI, sub6, isDay_nat, ready_nat hJ hW hx q1, ready_nat hJ hW hx q2, r1, r2]
      cases hs : soakB J s w d
      · rw [hs] at a1
        simp (disch := omega) only [lit, ltI, leI, eqI, addI, mulI, subI, clI, ckI, if_pos, if_neg, if_true, if_false, Option.bind_some, b2_0, b2_n0, b2_1, b2_n1, Bool.true_eq_false, Bool.false_eq_true, b2_t, b2_f]
        exact a1
      · rw [hs] at a1
        simp (disch := omega) only [lit, ltI, leI, eqI, addI, mulI, subI, clI, ckI, if_pos, if_neg, if_true, if_false, Option.bind_some, b2_0, b2_n0, b2_1, b2_n1, Bool.true_eq_false, Bool.false_eq_true, b2_t, b2_f]
        exact a1
end LV
