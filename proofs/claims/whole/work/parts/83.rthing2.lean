-- part 83: the class's reader: an item that tells a thing
theorem setI_same {N : Mem} {c k : Nat} {x : Int32} (h : N.1 c k = x) : setI N c k x = N := by
  refine Prod.ext ?_ rfl
  funext d j
  by_cases e : d = c
  · subst e
    by_cases e2 : j = k
    · subst e2
      rw [setI_at, h]
    · rw [setI_nk e2]
  · rw [setI_ne e]
theorem PT.congr {J : Jr} {v v' : Nat → Nat} {N : Mem} (h : PT J v N) (e : ∀ j, j < 8 → v j = v' j) : PT J v' N := ⟨h.1, h.2.1, fun j hj => by rw [h.2.2 j hj, e j hj]⟩
/-- the draft between items -/
def DX (J : Jr) (N : Mem) : Prop := HX J N 7 ∧ DZ J N ∧ (nT J < 6 → ∀ j, j < 8 → N.1 8 (8 * nT J + j) = nI 0)
def IR (T : TL) : PR1 → Mem → Option (Int32 × Mem) → Prop
  | .inl j, N, r => ∃ N', r = some (0, N') ∧ CN T j N' ∧ RF N N'
  | .inr q, N, r => ∃ N', r = some (1, N') ∧ CN T q.1 N' ∧ DX q.2 N' ∧ RF N N'
def cl3 (N : Mem) (J : Jr) : Mem := setI (setI (setI N 7 6 (nI (topsB J))) 7 7 (nI (botsB J))) 7 8 (nI (coatsB J))
def clM (N : Mem) (J : Jr) : Mem := setI (setI (setI (cl3 N J) 7 9 (nI (lastB J))) 7 10 (nI (lateB J))) 7 3 (nI (nT J))
theorem pow_or4 {acc i : Nat} : nI acc ||| nI (1 * 2 ^ (2 * i)) = nI (acc ||| 4 ^ i) := by rw [pow_or, pow4]
section TH
variable {J : Jr} {T : TL}
theorem c121_nat {N : Mem} {n x L : Nat} (hn : n < 6) (hx : x ≤ 99) (h3 : N.1 7 3 = nI n) (h7 : N.1 8 (8 * n + 7) = nI x) (h10 : N.1 7 10 = nI L) : f_X8_closeThing_121 7 N = some (setI (setI N 7 10 (nI (L ||| if x ≠ 0 then 4 ^ n else 0))) 7 3 (nI (n + 1))) := by
  have e8 : n * 8 + 7 = 8 * n + 7 := by omega
  unfold f_X8_closeThing_121
  simp only [vlet]
  rw [h3]
  by_cases c : x = 0
  · have hs : setI N 7 10 (nI (L ||| if x ≠ 0 then 4 ^ n else 0)) = N := by
      rw [if_neg (by omega), Nat.or_zero]
      exact setI_same h10
    rw [hs]
    simp (disch := omega) only [lit, ltI, leI, eqI, addI, mulI, subI, clI, ckI, if_pos, if_neg, if_true, if_false, Option.bind_some, b2_0, b2_n0, b2_1, b2_n1, Bool.true_eq_false, Bool.false_eq_true, b2_t, b2_f, e8, h7, c]
  · have e3 : (setI N 7 10 (nI (L ||| 4 ^ n))).1 7 3 = nI n := by rw [setI_nk (by decide)]; exact h3
    rw [if_pos (show x ≠ 0 from c)]
    simp (disch := omega) only [lit, ltI, leI, eqI, addI, mulI, subI, clI, ckI, if_pos, if_neg, if_true, if_false, Option.bind_some, b2_0, b2_n0, b2_1, b2_n1, Bool.true_eq_false, Bool.false_eq_true, b2_t, b2_f, e8, h7, h10, nI_shl, pow_or4, e3]
theorem c92_nat {N : Mem} {n x6 x7 L1 L : Nat} (hn : n < 6) (hx6 : x6 ≤ 99) (hx : x7 ≤ 99) (h3 : N.1 7 3 = nI n) (h6 : N.1 8 (8 * n + 6) = nI x6) (h7 : N.1 8 (8 * n + 7) = nI x7) (h9 : N.1 7 9 = nI L1) (h10 : N.1 7 10 = nI L) : f_X8_closeThing_92 7 (nI (1 * 2 ^ n)) N = some (setI (setI (setI N 7 9 (nI (L1 ||| if x6 = 2 then 2 ^ n else 0))) 7 10 (nI (L ||| if x7 ≠ 0 then 4 ^ n else 0))) 7 3 (nI (n + 1))) := by
  have e8 : n * 8 + 6 = 8 * n + 6 := by omega
  have hc : ∀ y, f_X8_closeThing_121 7 (setI N 7 9 y) = some (setI (setI (setI N 7 9 y) 7 10 (nI (L ||| if x7 ≠ 0 then 4 ^ n else 0))) 7 3 (nI (n + 1))) := by
    intro y
    exact c121_nat hn hx (by rw [setI_nk (by decide)]; exact h3) (by rw [setI_ne (by decide)]; exact h7) (by rw [setI_nk (by decide)]; exact h10)
  unfold f_X8_closeThing_92
  simp only [vlet]
  rw [h3]
  by_cases c : x6 = 2
  · rw [if_pos c]
    simp (disch := omega) only [lit, ltI, leI, eqI, addI, mulI, subI, clI, ckI, if_pos, if_neg, if_true, if_false, Option.bind_some, b2_0, b2_n0, b2_1, b2_n1, Bool.true_eq_false, Bool.false_eq_true, b2_t, b2_f, e8, h6, c, h9, pow_or]
    exact hc _
  · have hs : setI N 7 9 (nI (L1 ||| if x6 = 2 then 2 ^ n else 0)) = N := by
      rw [if_neg c, Nat.or_zero]
      exact setI_same h9
    have hc := hc (nI (L1 ||| if x6 = 2 then 2 ^ n else 0))
    rw [hs] at hc ⊢
    simp (disch := omega) only [lit, ltI, leI, eqI, addI, mulI, subI, clI, ckI, if_pos, if_neg, if_true, if_false, Option.bind_some, b2_0, b2_n0, b2_1, b2_n1, Bool.true_eq_false, Bool.false_eq_true, b2_t, b2_f, e8, h6]
    exact hc
theorem addTh_tops {v : Nat → Nat} : topsB (addTh J v) = topsB J ||| (if v 0 = 0 then 2 ^ nT J else 0) := addTh_isK
theorem addTh_bots {v : Nat → Nat} : botsB (addTh J v) = botsB J ||| (if v 0 = 1 then 2 ^ nT J else 0) := addTh_isK
theorem addTh_coats {v : Nat → Nat} : coatsB (addTh J v) = coatsB J ||| (if v 0 = 2 then 2 ^ nT J else 0) := addTh_isK
theorem cl3_nk {N : Mem} {j : Nat} (h : j < 6 ∨ 8 < j) : (cl3 N J).1 7 j = N.1 7 j := by
  unfold cl3
  rw [setI_nk (by omega), setI_nk (by omega), setI_nk (by omega)]
theorem cl3_ne {N : Mem} {c : Nat} (h : c ≠ 7) : (cl3 N J).1 c = N.1 c := by
  unfold cl3
  rw [setI_ne h, setI_ne h, setI_ne h]
theorem close_nat (hW : WJ J) {v : Nat → Nat} {N : Mem} (h : PT J v N) (h6 : nT J < 6) (hv : ∀ j, j < 8 → v j ≤ 99) (hv0 : v 0 ≤ 2) : f_X8_closeThing N 7 = some (clM N (addTh J v)) := by
  have hro := room_nat hW h.1
  rw [decide_eq_true h6] at hro
  have h3 := h.1.1
  obtain ⟨a1, a2, a3, a4, a5, a6, a7, a8, a9, a10, a11⟩ := h.1
  have e0 := h.2.2 0 (by decide)
  have e6 := h.2.2 6 (by decide)
  have e7 := h.2.2 7 (by decide)
  have e8 : nT J * 8 + 0 = 8 * nT J + 0 := by omega
  have h99 := hv 6 (by decide)
  have h97 := hv 7 (by decide)
  have hc := c92_nat (N := cl3 N (addTh J v)) h6 h99 h97 (by rw [cl3_nk (by decide)]; exact a1) (by rw [cl3_ne (by decide)]; exact e6) (by rw [cl3_ne (by decide)]; exact e7) (by rw [cl3_nk (by decide)]; exact a7) (by rw [cl3_nk (by decide)]; exact a8)
  rw [← addTh_last, ← addTh_late] at hc
  have hc : f_X8_closeThing_92 7 (nI (1 * 2 ^ nT J)) (cl3 N (addTh J v)) = some (clM N (addTh J v)) := hc
  unfold f_X8_closeThing
  simp only [vlet]
  rw [hro, a1]
  rcases (by omega : v 0 = 0 ∨ v 0 = 1 ∨ v 0 = 2) with c | c | c
  · have hm : setI N 7 6 (nI (topsB J ||| 2 ^ nT J)) = cl3 N (addTh J v) := by
      unfold cl3
      rw [addTh_tops, addTh_bots, addTh_coats, c, if_pos rfl, if_neg (by decide), if_neg (by decide), Nat.or_zero, Nat.or_zero]
      rw [setI_same (N := setI N 7 6 (nI (topsB J ||| 2 ^ nT J))) (c := 7) (k := 7) (by rw [setI_nk (by decide)]; exact a5), setI_same (N := setI N 7 6 (nI (topsB J ||| 2 ^ nT J))) (c := 7) (k := 8) (by rw [setI_nk (by decide)]; exact a6)]
    simp (disch := omega) only [lit, ltI, leI, eqI, addI, mulI, subI, clI, ckI, if_pos, if_neg, if_true, if_false, Option.bind_some, b2_0, b2_n0, b2_1, b2_n1, Bool.true_eq_false, Bool.false_eq_true, b2_t, b2_f, e8, e0, c, nI_shl, a4, pow_or, hm]
    exact hc
  · have hm : setI N 7 7 (nI (botsB J ||| 2 ^ nT J)) = cl3 N (addTh J v) := by
      unfold cl3
      rw [addTh_tops, addTh_bots, addTh_coats, c, if_pos rfl, if_neg (by decide), if_neg (by decide), Nat.or_zero, Nat.or_zero]
      rw [setI_same (N := N) (c := 7) (k := 6) a4, setI_same (N := setI N 7 7 (nI (botsB J ||| 2 ^ nT J))) (c := 7) (k := 8) (by rw [setI_nk (by decide)]; exact a6)]
    simp (disch := omega) only [lit, ltI, leI, eqI, addI, mulI, subI, clI, ckI, if_pos, if_neg, if_true, if_false, Option.bind_some, b2_0, b2_n0, b2_1, b2_n1, Bool.true_eq_false, Bool.false_eq_true, b2_t, b2_f, e8, e0, c, nI_shl, a5, pow_or, hm]
    exact hc
  · have hm : setI N 7 8 (nI (coatsB J ||| 2 ^ nT J)) = cl3 N (addTh J v) := by
      unfold cl3
      rw [addTh_tops, addTh_bots, addTh_coats, c, if_pos rfl, if_neg (by decide), if_neg (by decide), Nat.or_zero, Nat.or_zero]
      rw [setI_same (N := N) (c := 7) (k := 6) a4, setI_same (N := N) (c := 7) (k := 7) a5]
    simp (disch := omega) only [lit, ltI, leI, eqI, addI, mulI, subI, clI, ckI, if_pos, if_neg, if_true, if_false, Option.bind_some, b2_0, b2_n0, b2_1, b2_n1, Bool.true_eq_false, Bool.false_eq_true, b2_t, b2_f, e8, e0, c, nI_shl, a6, pow_or, hm]
    exact hc
theorem clM_ne {N : Mem} {c : Nat} (h : c ≠ 7) : (clM N J).1 c = N.1 c := by
  unfold clM
  rw [setI_ne h, setI_ne h, setI_ne h, cl3_ne h]
theorem clM_rf {N : Mem} : RF N (clM N J) := ⟨fun c h _ _ _ _ => clM_ne h, by rw [clM_ne (by decide)], rfl⟩
theorem clM_nk {N : Mem} {j : Nat} (h : j = 4 ∨ j = 5) : (clM N J).1 7 j = N.1 7 j := by
  unfold clM
  rw [setI_nk (by omega), setI_nk (by omega), setI_nk (by omega), cl3_nk (by omega)]
theorem close_dx (hW : WJ J) {v : Nat → Nat} {N : Mem} (h : PT J v N) (h6 : nT J < 6) : DX (addTh J v) (clM N (addTh J v)) := by
  obtain ⟨⟨a1, a2, a3, a4, a5, a6, a7, a8, a9, a10, a11⟩, ⟨z1, z2, z3⟩, hv⟩ := h
  refine ⟨⟨setI_at, ?_, ?_, ?_, ?_, ?_, ?_, ?_, fun i hi k hk => ?_, fun d hd k hk => ?_, fun i hi => ?_⟩, ⟨fun i hi1 hi2 k hk => ?_, fun i hi1 hi2 => ?_, fun d hd1 hd2 k hk => ?_⟩, fun hn k hk => ?_⟩
  · rw [clM_nk (by decide)]; exact a2
  · rw [clM_nk (by decide), a3, unsTo_congr (J := J) (J' := addTh J v) (nD (addTh J v)) (fun _ _ => rfl)]
    rfl
  · unfold clM cl3
    rw [setI_nk (by decide), setI_nk (by decide), setI_nk (by decide), setI_nk (by decide), setI_nk (by decide), setI_at]
  · unfold clM cl3
    rw [setI_nk (by decide), setI_nk (by decide), setI_nk (by decide), setI_nk (by decide), setI_at]
  · unfold clM cl3
    rw [setI_nk (by decide), setI_nk (by decide), setI_nk (by decide), setI_at]
  · unfold clM
    rw [setI_nk (by decide), setI_nk (by decide), setI_at]
  · unfold clM
    rw [setI_nk (by decide), setI_at]
  · show (clM N _).1 8 _ = _
    rw [clM_ne (by decide)]
    have hi : i < nT J + 1 := hi
    by_cases e : i = nT J
    · subst e
      rw [addTh_at]
      exact hv k hk
    · rw [addTh_ne e]
      exact a9 i (by omega) k hk
  · show (clM N _).1 9 _ = _
    rw [clM_ne (by decide)]
    exact a10 d hd k hk
  · show (clM N _).1 10 _ = _
    rw [clM_ne (by decide)]
    have hi : i < nT J + 1 := hi
    show _ = nI (if i = nT J then 0 else ap J i)
    by_cases e : i = nT J
    · rw [if_pos e]
      exact z2 i (by omega) (by omega)
    · rw [if_neg e]
      exact a11 i (by omega)
  · rw [clM_ne (by decide)]
    have hi1 : nT J + 1 < i := hi1
    exact z1 i (by omega) hi2 k hk
  · rw [clM_ne (by decide)]
    have hi1 : nT J + 1 ≤ i := hi1
    exact z2 i (by omega) hi2
  · rw [clM_ne (by decide)]
    exact z3 d hd1 hd2 k hk
  · rw [clM_ne (by decide)]
    have hn : nT J + 1 < 6 := hn
    exact z1 (nT J + 1) (by omega) hn k hk
end TH
