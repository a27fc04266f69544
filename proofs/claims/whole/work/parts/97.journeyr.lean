-- part 97: calls: journey, the reference's
/-- the reference's state behind a journey that was read -/
def JYS (J : Jr) (N : Mem) : Prop := HJ J N ∧ TYY [] N ∧ LY N 0 (0, 0, allB J) ∧ N.1 47 0 = 0 ∧ N.1 47 1 = 0
def JYF (N N' : Mem) : Prop := (∀ c, c < 36 ∨ c = 43 ∨ 47 < c → N'.1 c = N.1 c) ∧ (∀ k, k < 2 ∨ (2 < k ∧ k < 9) ∨ 14 < k → N'.1 36 k = N.1 36 k) ∧ N'.2 = N.2
theorem JYF.trans {A B C : Mem} (h1 : JYF A B) (h2 : JYF B C) : JYF A C := ⟨fun c a => (h2.1 c a).trans (h1.1 c a), fun k a => (h2.2.1 k a).trans (h1.2.1 k a), h2.2.2.trans h1.2.2⟩
theorem RY.jyf {N N' : Mem} (h : RY N N') : JYF N N' := ⟨fun c hc => h.1 c (by omega) (by omega) (by omega) (by omega) (by omega) (by omega), fun k hk => h.2.1 k (by omega), h.2.2.2.2.2.2.2⟩
theorem OC.jyf {N N' : Mem} {c : Nat} (h : OC c N N') (hc : c = 38 ∨ c = 39 ∨ c = 40 ∨ c = 41 ∨ c = 42 ∨ c = 44 ∨ c = 45 ∨ c = 46 ∨ c = 47) : JYF N N' := ⟨fun d hd => h.1 d (by omega), fun k _ => by rw [h.1 36 (by omega)], h.2⟩
section JN
variable {J : Jr} {T : TL} {F : Nat}
theorem cp169_loop (hW : WJ J) {y1 : Int32} : ∀ (m j n : Nat) (N : Mem), j + m = 32 → m < n → (∀ k, k < j → N.1 42 k = N.1 42 (32 + k)) → N.1 38 0 = nI (nT J) → ∃ N1 N', f_X10_journey_169 F n y1 (nI j) N = some (y1, N') ∧ OC 42 N N1 ∧ (∀ k, k < 32 → N1.1 42 k = N.1 42 (32 + k)) ∧ N' = setI (setI (setI (setI (setI (setI N1 44 0 0) 45 0 0) 46 0 (nI (allB J))) 47 0 0) 47 1 0) 36 2 0
  | 0, j, n + 1, N, hj, _, h, h38 => by
    have h6 := hW.1
    have hjj : j = 32 := by omega
    subst hjj
    have k2 : ck (0 : Int32) 2 = true := by decide
    have k3 : ck (0 : Int32) 3 = true := by decide
    have k12 : ck (1 : Int32) 2 = true := by decide
    refine ⟨N, _, ?_, OC.refl, fun k hk => h k hk, rfl⟩
    have hall : f_X10_allThings (setI (setI N 44 0 0) 45 0 0) = some (nI (allB J)) := by
      have e : (setI (setI N 44 0 (nI 0)) 45 0 (nI 0)).1 38 0 = nI (nT J) := by rw [setI_ne (by decide), setI_ne (by decide)]; exact h38
      have hb : 1 * 2 ^ nT J - 1 = allB J := by unfold allB; rw [Nat.one_mul]
      have hp := Nat.two_pow_pos (nT J)
      unfold f_X10_allThings
      simp (disch := omega) only [lit, ltI, leI, eqI, addI, mulI, subI, clI, ckI, if_pos, if_neg, if_true, if_false, Option.bind_some, b2_0, b2_n0, b2_1, b2_n1, Bool.true_eq_false, Bool.false_eq_true, b2_t, b2_f, e, nI_shl, hb]
    rw [f_X10_journey_169, if_pos (by decide)]
    simp only [vlet]
    rw [if_pos k3, if_pos k3, show (0 : Int32).toNatClampNeg = 0 from rfl, hall, Option.bind_some, if_pos k3, if_pos k2, if_pos k12]
    rfl
  | m + 1, j, n + 1, N, hj, hn, h, h38 => by
    have hoc : OC 42 N (setI N 42 j (N.1 42 (32 + j))) := OC.one
    obtain ⟨N1, N', a1, a2, a3, a4⟩ := cp169_loop hW (y1 := y1) m (j + 1) n (setI N 42 j (N.1 42 (32 + j))) (by omega) (by omega) (fun k hk => by
      by_cases e : k = j
      · subst e
        rw [setI_at, setI_nk (by omega)]
      · rw [setI_nk e, setI_nk (by omega)]
        exact h k (by omega)) (by rw [setI_ne (by decide)]; exact h38)
    refine ⟨N1, N', ?_, ⟨fun d hd => (a2.1 d hd).trans (hoc.1 d hd), a2.2.trans hoc.2⟩, fun k hk => ?_, a4⟩
    · rw [f_X10_journey_169]
      simp only [vlet]
      simp (disch := omega) only [lit, ltI, leI, eqI, addI, mulI, subI, clI, ckI, if_pos, if_neg, if_true, if_false, Option.bind_some, b2_0, b2_n0, b2_1, b2_n1, Bool.true_eq_false, Bool.false_eq_true, b2_t, b2_f]
      exact a1
    · rw [a3 k hk, setI_nk (by omega)]
  | _, _, 0, _, _, hn, _, _ => absurd hn (Nat.not_lt_zero _)
theorem cp140_loop {y1 : Int32} : ∀ (m j n : Nat) (N : Mem), j + m = 6 → m < n → (∀ k, k < j → N.1 40 k = N.1 40 (6 + k)) → ∃ N1, f_X10_journey_140 F n y1 (nI j) N = f_X10_journey_169 F F y1 (nI 0) N1 ∧ OC 40 N N1 ∧ (∀ k, k < 6 → N1.1 40 k = N.1 40 (6 + k))
  | 0, j, n + 1, N, hj, _, h => by
    have hjj : j = 6 := by omega
    subst hjj
    refine ⟨N, ?_, OC.refl, fun k hk => h k hk⟩
    rw [f_X10_journey_140]
    simp (disch := omega) only [lit, ltI, leI, eqI, addI, mulI, subI, clI, ckI, if_pos, if_neg, if_true, if_false, Option.bind_some, b2_0, b2_n0, b2_1, b2_n1, Bool.true_eq_false, Bool.false_eq_true, b2_t, b2_f]
  | m + 1, j, n + 1, N, hj, hn, h => by
    have hoc : OC 40 N (setI N 40 j (N.1 40 (6 + j))) := OC.one
    obtain ⟨N1, a1, a2, a3⟩ := cp140_loop (y1 := y1) m (j + 1) n (setI N 40 j (N.1 40 (6 + j))) (by omega) (by omega) (fun k hk => by
      by_cases e : k = j
      · subst e
        rw [setI_at, setI_nk (by omega)]
      · rw [setI_nk e, setI_nk (by omega)]
        exact h k (by omega))
    refine ⟨N1, ?_, ⟨fun d hd => (a2.1 d hd).trans (hoc.1 d hd), a2.2.trans hoc.2⟩, fun k hk => ?_⟩
    · rw [f_X10_journey_140]
      simp only [vlet]
      simp (disch := omega) only [lit, ltI, leI, eqI, addI, mulI, subI, clI, ckI, if_pos, if_neg, if_true, if_false, Option.bind_some, b2_0, b2_n0, b2_1, b2_n1, Bool.true_eq_false, Bool.false_eq_true, b2_t, b2_f]
      exact a1
    · rw [a3 k hk, setI_nk (by omega)]
  | _, _, 0, _, _, hn, _ => absurd hn (Nat.not_lt_zero _)
theorem cp111_loop {y1 : Int32} : ∀ (m j n : Nat) (N : Mem), j + m = 48 → m < n → (∀ k, k < j → N.1 39 k = N.1 39 (48 + k)) → ∃ N1, f_X10_journey_111 F n y1 (nI j) N = f_X10_journey_140 F F y1 (nI 0) N1 ∧ OC 39 N N1 ∧ (∀ k, k < 48 → N1.1 39 k = N.1 39 (48 + k))
  | 0, j, n + 1, N, hj, _, h => by
    have hjj : j = 48 := by omega
    subst hjj
    refine ⟨N, ?_, OC.refl, fun k hk => h k hk⟩
    rw [f_X10_journey_111]
    simp (disch := omega) only [lit, ltI, leI, eqI, addI, mulI, subI, clI, ckI, if_pos, if_neg, if_true, if_false, Option.bind_some, b2_0, b2_n0, b2_1, b2_n1, Bool.true_eq_false, Bool.false_eq_true, b2_t, b2_f]
  | m + 1, j, n + 1, N, hj, hn, h => by
    have hoc : OC 39 N (setI N 39 j (N.1 39 (48 + j))) := OC.one
    obtain ⟨N1, a1, a2, a3⟩ := cp111_loop (y1 := y1) m (j + 1) n (setI N 39 j (N.1 39 (48 + j))) (by omega) (by omega) (fun k hk => by
      by_cases e : k = j
      · subst e
        rw [setI_at, setI_nk (by omega)]
      · rw [setI_nk e, setI_nk (by omega)]
        exact h k (by omega))
    refine ⟨N1, ?_, ⟨fun d hd => (a2.1 d hd).trans (hoc.1 d hd), a2.2.trans hoc.2⟩, fun k hk => ?_⟩
    · rw [f_X10_journey_111]
      simp only [vlet]
      simp (disch := omega) only [lit, ltI, leI, eqI, addI, mulI, subI, clI, ckI, if_pos, if_neg, if_true, if_false, Option.bind_some, b2_0, b2_n0, b2_1, b2_n1, Bool.true_eq_false, Bool.false_eq_true, b2_t, b2_f]
      exact a1
    · rw [a3 k hk, setI_nk (by omega)]
  | _, _, 0, _, _, hn, _ => absurd hn (Nat.not_lt_zero _)
theorem j68_ok (hW : WJ J) (hF : 100 ≤ F) {N : Mem} {y1 : Int32} (hf : N.1 36 13 = -9) (hH : HD J N) : ∃ N', f_X10_journey_68 F y1 N = some (y1, N') ∧ JYS J N' ∧ JYF N N' := by
  have h6 := hW.1
  have h8 := hW.2.1
  have k2 : ck (0 : Int32) 2 = true := by decide
  have k12 : ck (1 : Int32) 2 = true := by decide
  obtain ⟨a1, a2, a3, a4, a5, a6⟩ := hH
  have o1 : OC 38 N (setI N 38 0 (nI (nT J))) := OC.one
  have o2 : OC 41 (setI N 38 0 (nI (nT J))) (setI (setI N 38 0 (nI (nT J))) 41 0 (nI (nD J))) := OC.one
  obtain ⟨A, b1, b2', b3⟩ := cp111_loop (F := F) (y1 := y1) 48 0 F (setI (setI N 38 0 (nI (nT J))) 41 0 (nI (nD J))) rfl (by omega) (fun k hk => absurd hk (Nat.not_lt_zero _))
  obtain ⟨B, c1, c2, c3⟩ := cp140_loop (F := F) (y1 := y1) 6 0 F A rfl (by omega) (fun k hk => absurd hk (Nat.not_lt_zero _))
  have hB38 : B.1 38 0 = nI (nT J) := by rw [c2.1 38 (by decide), b2'.1 38 (by decide), setI_ne (by decide), setI_at]
  obtain ⟨C, D, d1, d2, d3, d4⟩ := cp169_loop (F := F) hW (y1 := y1) 32 0 F B rfl (by omega) (fun k hk => absurd hk (Nat.not_lt_zero _)) hB38
  have hD : ∀ c, c ≠ 36 → c ≠ 44 → c ≠ 45 → c ≠ 46 → c ≠ 47 → D.1 c = C.1 c := by
    intro c h1 h2 h3 h4 h5
    rw [d4, setI_ne h1, setI_ne h5, setI_ne h5, setI_ne h4, setI_ne h3, setI_ne h2]
  refine ⟨D, ?_, ⟨⟨?_, ?_, fun i hi k hk => ?_, fun d hd k hk => ?_, fun i hi => ?_⟩, ⟨?_, fun j hj => absurd hj (Nat.not_lt_zero _)⟩, ⟨?_, ?_, ?_⟩, ?_, ?_⟩, ?_⟩
  · unfold f_X10_journey_68
    rw [if_pos hf, if_pos k12, if_pos k2]
    simp only [vlet]
    rw [show (0 : Int32).toNatClampNeg = 0 from rfl, show (1 : Int32).toNatClampNeg = 1 from rfl, a1, if_pos k12, if_pos k2, setI_ne (by decide), a2]
    show f_X10_journey_111 F F y1 (nI 0) _ = _
    rw [b1, c1, d1]
  · rw [hD 38 (by decide) (by decide) (by decide) (by decide) (by decide), d2.1 38 (by decide)]
    exact hB38
  · rw [hD 41 (by decide) (by decide) (by decide) (by decide) (by decide), d2.1 41 (by decide), c2.1 41 (by decide), b2'.1 41 (by decide), setI_at]
  · rw [hD 39 (by decide) (by decide) (by decide) (by decide) (by decide), d2.1 39 (by decide), c2.1 39 (by decide), b3 _ (by omega), setI_ne (by decide), setI_ne (by decide), ← Nat.add_assoc]
    exact a3 i hi k hk
  · rw [hD 42 (by decide) (by decide) (by decide) (by decide) (by decide), d3 _ (by omega), c2.1 42 (by decide), b2'.1 42 (by decide), setI_ne (by decide), setI_ne (by decide), ← Nat.add_assoc]
    exact a4 d hd k hk
  · rw [hD 40 (by decide) (by decide) (by decide) (by decide) (by decide), d2.1 40 (by decide), c3 _ (by omega), b2'.1 40 (by decide), setI_ne (by decide), setI_ne (by decide)]
    exact a5 i hi
  · rw [d4, setI_at]
    rfl
  · rw [d4, setI_ne (by decide), setI_ne (by decide), setI_ne (by decide), setI_ne (by decide), setI_ne (by decide), setI_at]
    rfl
  · rw [d4, setI_ne (by decide), setI_ne (by decide), setI_ne (by decide), setI_ne (by decide), setI_at]
    rfl
  · rw [d4, setI_ne (by decide), setI_ne (by decide), setI_ne (by decide), setI_at]
  · rw [d4, setI_ne (by decide), setI_nk (by decide), setI_at]
  · rw [d4, setI_ne (by decide), setI_at]
  · refine ((o1.jyf (by decide)).trans (o2.jyf (by decide))).trans (((b2'.jyf (by decide)).trans (c2.jyf (by decide))).trans ((d2.jyf (by decide)).trans ⟨fun c hc => hD c (by omega) (by omega) (by omega) (by omega) (by omega), fun k hk => ?_, ?_⟩))
    · rw [d4, setI_nk (by omega), setI_ne (by decide), setI_ne (by decide), setI_ne (by decide), setI_ne (by decide), setI_ne (by decide)]
    · rw [d4]
      rfl
theorem j68_bad (hT : WTx T) {N : Mem} {j : Nat} {y1 : Int32} (h : ST T (.inl j) N) : f_X10_journey_68 F y1 N = some ((-10 : Int32) - nI (ts T j), N) := by
  unfold f_X10_journey_68
  rw [if_neg (h.nf hT), h.2]
def LR (T : TL) (F : Nat) : PR1 → Mem → Option (Int32 × Mem) → Prop
  | .inl j, N, r => ∃ N' y, r = f_X10_journey_68 F y N' ∧ ST T (.inl j) N' ∧ RY N N'
  | .inr q, N, r => ∃ N', r = f_X10_journey_68 F (nI q.1) N' ∧ N'.1 36 13 = -9 ∧ HD q.2 N' ∧ RY N N'
theorem LR.of {r : PR1} {N N1 : Mem} {x : Option (Int32 × Mem)} (h : LR T F r N1 x) (f : RY N N1) : LR T F r N x := by
  cases r with
  | inl j =>
    obtain ⟨N', y, h1, h2, h3⟩ := h
    exact ⟨N', y, h1, h2, f.trans h3⟩
  | inr q =>
    obtain ⟨N', h1, h2, h3, h4⟩ := h
    exact ⟨N', h1, h2, h3, f.trans h4⟩
theorem srt_e {c : Nat} (hc : c ≤ 199) : (nI (srt c) = nI 8) = (c = 9) := by
  have hs : srt c ≤ 11 := by
    unfold srt
    repeat' split
    all_goals omega
  rw [eqI (by omega) (by decide)]
  apply propext
  unfold srt
  constructor
  · intro e
    split at e
    · omega
    · split at e
      · omega
      · split at e
        · omega
        · split at e <;> omega
  · intro e
    rw [if_neg (by omega), if_neg (by omega), if_pos e]
theorem readR_loop (hT : WTx T) (hF : 600 ≤ F) : ∀ (m k it n : Nat) (J : Jr) (N : Mem), k ≤ T.length → T.length + 1 ≤ k + m → m < n → QJ J → ST T (.inr k) N → HD J N → LR T F (pLoop T m k it J) N (f_X10_journey_36 F n (nI it) N)
  | 0, k, _, _, _, _, h1, h2, _, _, _, _ => by omega
  | m + 1, k, it, 0, _, _, _, _, h3, _, _, _ => by omega
  | m + 1, k, it, n + 1, J, N, h1, h2, h3, hQ, hS, hH => by
    have h5 := hT.1
    obtain ⟨t1, t2⟩ := tc_lt (T := T) k
    have h11 : (N.1 36 11 = (8 : Int32)) = (tc T k = 9) := by
      rw [hS.2.2.2.2.1]
      exact srt_e t1
    rw [pLoop, f_X10_journey_36, if_pos hS.2.1]
    by_cases c9 : tc T k = 9
    · rw [if_pos (h11.mpr c9), if_pos c9]
      exact ⟨N, rfl, hS.2.1, hH, RY.refl⟩
    rw [if_neg (fun z => c9 (h11.mp z)), if_neg c9, hS.2.2.2.2.1]
    obtain ⟨N1, a1, a2, a3⟩ := itemR_nat (F := F) hT hF hQ.1 hS hH
    rw [a1, Option.bind_some, show nI it + (1 : Int32) = nI (it + 1) from addI it 1]
    cases hp : pItem T k J with
    | inl j =>
      rw [hp] at a2
      have a2 : ST T (.inl j) N1 := a2
      refine ⟨N1, nI (it + 1), ?_, a2, a3⟩
      obtain ⟨n', hn'⟩ : ∃ n', n = n' + 1 := ⟨n - 1, by omega⟩
      rw [hn', f_X10_journey_36, if_neg (a2.nf hT)]
    | inr q =>
      rw [hp] at a2
      have a2 : ST T (.inr q.1) N1 ∧ HD q.2 N1 := a2
      obtain ⟨hQ1, hk1, hl1⟩ := item_ok hQ hp
      exact (readR_loop hT hF m q.1 (it + 1) n q.2 N1 hl1 (by omega) (by omega) hQ1 a2.1 a2.2).of a3
theorem journeyR_nat (hT : WTx T) (hF : 4100 ≤ F) {N : Mem} (hY : TYY T N) : ∃ N', f_X10_journey F N = some (jvl T, N') ∧ match pAll T with
    | .inl _ => RY N N'
    | .inr q => JYS q.2 N' ∧ JYF N N' := by
  have h5 := hT.1
  have k12 : ck (1 : Int32) 2 = true := by decide
  have r0 : RY N (setI (setI (setI (setI (setI N 36 9 0) 36 13 (-9)) 36 14 0) 38 1 0) 41 1 0) := ((((RY.set (by decide)).trans (RY.set (by decide))).trans (RY.set (by decide))).trans (RY.set (by decide))).trans (RY.set (by decide))
  have hH : HD J0 (setI (setI (setI (setI (setI N 36 9 0) 36 13 (-9)) 36 14 0) 38 1 0) 41 1 0) := by
    refine ⟨?_, setI_at, fun i hi => absurd hi (Nat.not_lt_zero _), fun i hi => absurd hi (Nat.not_lt_zero _), fun i hi => absurd hi (Nat.not_lt_zero _), ?_⟩
    · rw [setI_ne (by decide), setI_at]
      rfl
    · rw [setI_ne (by decide), setI_ne (by decide), setI_at]
      rfl
  have h9 : (setI (setI (setI (setI (setI N 36 9 0) 36 13 (-9)) 36 14 0) 38 1 0) 41 1 0).1 36 9 = nI 0 := by
    rw [setI_ne (by decide), setI_ne (by decide), setI_nk (by decide), setI_nk (by decide), setI_at]
    rfl
  have h13 : (setI (setI (setI (setI (setI N 36 9 0) 36 13 (-9)) 36 14 0) 38 1 0) 41 1 0).1 36 13 = -9 := by
    rw [setI_ne (by decide), setI_ne (by decide), setI_nk (by decide), setI_at]
  have hY0 : TYY T (setI (setI (setI (setI (setI N 36 9 0) 36 13 (-9)) 36 14 0) 38 1 0) 41 1 0) := by
    refine ⟨?_, fun j hj => ?_⟩
    · rw [r0.2.1 2 (by decide)]; exact hY.1
    · rw [r0.1 37 (by decide) (by decide) (by decide) (by decide) (by decide) (by decide)]; exact hY.2 j hj
  have e0 : f_X10_journey F N = (f_X10_next F (setI (setI (setI (setI (setI N 36 9 0) 36 13 (-9)) 36 14 0) 38 1 0) 41 1 0)).bind fun p8 => f_X10_journey_36 F F (nI 0) p8 := by
    unfold f_X10_journey
    simp only [vlet]
    rw [if_pos k12, if_pos k12]
    rfl
  rw [e0]
  generalize setI (setI (setI (setI (setI N 36 9 0) 36 13 (-9)) 36 14 0) 38 1 0) 41 1 0 = N0 at r0 hH h9 h13 hY0
  obtain ⟨N1, a1, a2⟩ := nextR_nat (F := F) hT (by omega) (Nat.zero_le _) hY0 h9
  have hS : ST T (.inr 0) N1 := by
    refine ⟨hY0.nx a2.2.2.2.2, ?_, TKA.rs (k := 0) a2⟩
    rw [a2.2.2.2.2.2.1 13 (by decide) (by decide) (by decide) (by decide)]
    exact h13
  have hH1 := hH.df a2.2.2.2.2.df
  have r1 : RY N N1 := r0.trans a2.2.2.2.2.df.rg
  have hl := readR_loop (F := F) hT (by omega) 600 0 0 F J0 N1 (Nat.zero_le _) (by omega) (by omega) QJ0 hS hH1
  have hl : LR T F (pAll T) N1 (f_X10_journey_36 F F (nI 0) N1) := hl
  rw [a1, Option.bind_some]
  unfold jvl
  cases hp : pAll T with
  | inl j =>
    rw [hp] at hl
    obtain ⟨N2, y, b1, b2', b3⟩ := hl
    refine ⟨N2, ?_, r1.trans b3⟩
    rw [b1, j68_bad hT b2']
  | inr q =>
    rw [hp] at hl
    obtain ⟨N2, b1, b2', b3, b4⟩ := hl
    obtain ⟨hQ, hq⟩ := all_ok hp
    obtain ⟨N3, c1, c2, c3⟩ := j68_ok (F := F) hQ.1 (by omega) (y1 := nI q.1) b2' b3
    refine ⟨N3, ?_, c2, (r1.trans b4).jyf.trans c3⟩
    rw [b1, c1]
end JN
