-- part 35: a day and its night
theorem wornD_lt (J : Jr) (h i : Nat) (k : Bool) : wornD J h i k < 4 := by
  unfold wornD; split
  · split <;> decide
  · decide
theorem worn_lt {J : Jr} {h i : Nat} {k : Bool} (hh : h < 4096) (hi : i < 6) : worn J h i k < 4096 := sd_lt hh hi (wornD_lt J h i k)
theorem worn_dg {J : Jr} {h i j : Nat} {k : Bool} (hh : h < 4096) (hi : i < 6) (hj : j < 6) : dg (worn J h i k) j = if j = i then wornD J h i k else dg h j := dg_sd hh hi hj (wornD_lt J h i k)
theorem wornD_congr {J : Jr} {h h' i : Nat} {k : Bool} (e : dg h i = dg h' i) : wornD J h i k = wornD J h' i k := by
  unfold wornD; rw [e]
theorem nightD_lt (J : Jr) (s h y : Nat) (ws : Bool) (i : Nat) : nightD J s h y ws i < 4 := by
  unfold nightD
  split
  · decide
  · split
    · split <;> decide
    · exact dg_lt _ _
theorem nightD_congr {J : Jr} {s h y y' i : Nat} {ws : Bool} (e : dg y i = dg y' i) : nightD J s h y ws i = nightD J s h y' ws i := by
  unfold nightD; rw [e]
theorem night_dg {J : Jr} {s h c : Nat} {ws : Bool} (hc : c < 4096) : ∀ n, n ≤ 6 → nightTo J s h c ws n < 4096 ∧ ∀ i, i < 6 → dg (nightTo J s h c ws n) i = if i < n then nightD J s h c ws i else dg c i
  | 0, _ => ⟨hc, fun i _ => by simp [nightTo]⟩
  | n + 1, hn => by
    obtain ⟨h1, h2⟩ := night_dg (J := J) (s := s) (h := h) (ws := ws) hc n (by omega)
    refine ⟨sd_lt h1 (by omega) (nightD_lt _ _ _ _ _ _), fun i hi => ?_⟩
    show dg (sd _ _ _) i = _
    rw [dg_sd h1 (by omega) hi (nightD_lt _ _ _ _ _ _), h2 i hi]
    by_cases e : i = n
    · subst e
      rw [if_pos rfl, if_pos (by omega)]
      exact nightD_congr (by rw [h2 i hi, if_neg (by omega)])
    · rw [if_neg e]
      by_cases e2 : i < n
      · rw [if_pos e2, if_pos (by omega)]
      · rw [if_neg e2, if_neg (by omega)]
theorem late_dg {J : Jr} (i : Nat) : dg (lateB J) i = if i < nT J ∧ tf J i 7 ≠ 0 then 1 else 0 := by
  rw [lateB, evenTo_dg]
  simp
section NXT
variable {J : Jr} {s x t b : Nat} {ws k : Bool}
/-- the two pieces that are on, behind the day -/
theorem on_dg (hx : x < 4096) (ht : t < 6) (hb : b < 6) (htb : t ≠ b) {i : Nat} (hi : i < 6) : dg (worn J (worn J x t k) b k) i = if i = b then wornD J x b k else if i = t then wornD J x t k else dg x i := by
  rw [worn_dg (worn_lt hx ht) hb hi, worn_dg hx ht hi]
  by_cases e : i = b
  · rw [if_pos e, if_pos e]
    exact wornD_congr (by rw [worn_dg hx ht hb, if_neg (fun z => htb z.symm)])
  · rw [if_neg e, if_neg e]
theorem nxt_dg (hW : WJ J) (hx : x < 4096) (ht : t < 6) (hb : b < 6) {i : Nat} (hi : i < 6) : dg (nxt J s x t b ws k) i = if i < nT J then nightD J s x (worn J (worn J x t k) b k) ws i else dg (worn J (worn J x t k) b k) i := (night_dg (worn_lt (worn_lt hx ht) hb) (nT J) hW.1).2 i hi
theorem nxt_lt (hW : WJ J) (hx : x < 4096) (ht : t < 6) (hb : b < 6) : nxt J s x t b ws k < 4096 := (night_dg (worn_lt (worn_lt hx ht) hb) (nT J) hW.1).1
theorem nxt_ok (hW : WJ J) (hx : okH J s x) (ht : t < nT J) (hb : b < nT J) (htb : t ≠ b) (h1 : s.testBit t = true) (h2 : s.testBit b = true) : okH J s (nxt J s x t b ws k) := by
  have h6 := hW.1
  refine ⟨nxt_lt hW hx.1 (by omega) (by omega), fun i hi => ?_⟩
  have hi6 : i < 6 := by
    rcases Nat.lt_or_ge i 6 with h | h
    · exact h
    · exact absurd (dg_hi (nxt_lt hW hx.1 (by omega) (by omega)) h) hi
  have hon : dg (worn J (worn J x t k) b k) i ≠ 0 → i < nT J ∧ s.testBit i = true ∧ (dg (worn J (worn J x t k) b k) i = 1 → tf J i 6 = 2) := by
    rw [on_dg hx.1 (by omega) (by omega) htb hi6]
    have hwd : ∀ j, wornD J x j k = 1 → tf J j 6 = 2 := by
      intro j hj
      unfold wornD at hj
      split at hj
      · rename_i c; exact c.2
      · cases hj
    by_cases e : i = b
    · subst e; rw [if_pos rfl]; exact fun _ => ⟨hb, h2, hwd _⟩
    · rw [if_neg e]
      by_cases e2 : i = t
      · subst e2; rw [if_pos rfl]; exact fun _ => ⟨ht, h1, hwd _⟩
      · rw [if_neg e2]; exact hx.2 i
  rw [nxt_dg hW hx.1 (by omega) (by omega) hi6] at hi ⊢
  by_cases hn : i < nT J
  · rw [if_pos hn] at hi ⊢
    unfold nightD at hi ⊢
    by_cases c : dg x i = 3
    · rw [if_pos c] at hi; exact absurd rfl hi
    · rw [if_neg c] at hi ⊢
      by_cases c2 : (ws && s.testBit i && (decide (dg (worn J (worn J x t k) b k) i = 1) || decide (dg (worn J (worn J x t k) b k) i = 2))) = true
      · rw [if_pos c2]
        simp only [Bool.and_eq_true] at c2
        refine ⟨hn, c2.1.2, fun z => ?_⟩
        split at z <;> cases z
      · rw [if_neg c2] at hi ⊢
        exact hon hi
  · rw [if_neg hn] at hi ⊢
    exact hon hi
/-- the class's way of a night -/
theorem nxt_alt (hW : WJ J) (hx : okH J s x) (ht : t < nT J) (hb : b < nT J) (htb : t ≠ b) (h1 : s.testBit t = true) (h2 : s.testBit b = true) (r1 : rdy x t = true) (r2 : rdy x b = true) : (if ws then washN (lateB J) (worn J (worn J (dryN x) t k) b k) else worn J (worn J (dryN x) t k) b k) = nxt J s x t b ws k := by
  have h6 := hW.1
  have hd := dry_lt hx.1
  have r1 : dg x t ≤ 1 := of_decide_eq_true r1
  have r2 : dg x b ≤ 1 := of_decide_eq_true r2
  have hc := worn_lt (J := J) (k := k) (worn_lt (J := J) (k := k) hd (show t < 6 by omega)) (show b < 6 by omega)
  have hL : ∀ j, j < 6 → dg (lateB J) j ≤ 1 := fun j _ => by rw [late_dg]; split <;> decide
  refine dg_ext ?_ (nxt_lt hW hx.1 (by omega) (by omega)) (fun i hi => ?_)
  · split
    · exact wash_lt hc
    · exact hc
  have e1 : dg (worn J (worn J (dryN x) t k) b k) i = if i = b then wornD J x b k else if i = t then wornD J x t k else if dg x i = 3 then 0 else dg x i := by
    rw [on_dg hd (by omega) (by omega) htb hi, dry_dg hx.1 hi]
    rw [wornD_congr (h := dryN x) (h' := x) (i := b) (by rw [dry_dg hx.1 (by omega), if_neg (by omega)]), wornD_congr (h := dryN x) (h' := x) (i := t) (by rw [dry_dg hx.1 (by omega), if_neg (by omega)])]
  have e2 := on_dg (J := J) (k := k) hx.1 (show t < 6 by omega) (show b < 6 by omega) htb hi
  have lhs : dg (if ws then washN (lateB J) (worn J (worn J (dryN x) t k) b k) else worn J (worn J (dryN x) t k) b k) i = if ws = true ∧ (dg (worn J (worn J (dryN x) t k) b k) i = 1 ∨ dg (worn J (worn J (dryN x) t k) b k) i = 2) then 3 * dg (lateB J) i else dg (worn J (worn J (dryN x) t k) b k) i := by
    cases ws
    · simp
    · simp only [if_true, true_and]
      exact wash_dg hc hi hL
  rw [lhs, nxt_dg hW hx.1 (by omega) (by omega) hi, late_dg]
  by_cases c3 : dg x i = 3
  · have nb : i ≠ b := fun e => by subst e; omega
    have nt : i ≠ t := fun e => by subst e; omega
    rw [if_neg nb, if_neg nt, if_pos c3] at e1
    rw [if_neg nb, if_neg nt] at e2
    have hn := (hx.2 i (by omega)).1
    rw [e1, if_pos hn]
    unfold nightD
    rw [if_pos c3, if_neg (by omega)]
  · have e3 : dg (worn J (worn J (dryN x) t k) b k) i = dg (worn J (worn J x t k) b k) i := by
      rw [e1, e2, if_neg c3]
    rw [e3]
    by_cases hn : i < nT J
    · rw [if_pos hn]
      unfold nightD
      rw [if_neg c3]
      have hs : dg (worn J (worn J x t k) b k) i ≠ 0 → s.testBit i = true := by
        rw [e2]
        intro hz
        by_cases e : i = b
        · subst e; exact h2
        · by_cases e' : i = t
          · subst e'; exact h1
          · rw [if_neg e, if_neg e'] at hz
            exact (hx.2 i hz).2.1
      have h7 := (hW.2.2.1 i hn).2.2.2.2.2.2.2
      generalize dg (worn J (worn J x t k) b k) i = y at hs ⊢
      by_cases hy : y = 1 ∨ y = 2
      · have hs := hs (by omega)
        have hd1 : (decide (y = 1) || decide (y = 2)) = true := by simp [hy]
        rw [hs, hd1]
        cases ws
        · simp
        · simp only [hy, hn, true_and, Bool.and_true, if_true]
          rcases (by omega : tf J i 7 = 0 ∨ tf J i 7 = 1) with e | e <;> rw [e] <;> rfl
      · have hd1 : (decide (y = 1) || decide (y = 2)) = false := by simp; omega
        rw [hd1, Bool.and_false]
        simp [hy]
    · rw [if_neg hn]
      have hz : dg (worn J (worn J x t k) b k) i = 0 := by
        rw [e2, if_neg (by omega), if_neg (by omega)]
        by_cases hz : dg x i = 0
        · exact hz
        · exact absurd (hx.2 i hz).1 hn
      rw [hz, if_neg (by omega)]
end NXT
theorem nI_andn1 (a b : Nat) : nI a &&& (nI b ^^^ -nI 1) = nI (a ^^^ (a &&& b)) := nI_andn a b
theorem morning_nat {J : Jr} {M : Mem} {o : Nat} (h : HX J M o) (hW : WJ J) {s x t b : Nat} {ws k : Bool} (hx : okH J s x) (ht : t < nT J) (hb : b < nT J) (htb : t ≠ b) (h1 : s.testBit t = true) (h2 : s.testBit b = true) (r1 : rdy x t = true) (r2 : rdy x b = true) : f_X8_morning M o (nI x) (nI t) (nI b) (b2 k) (b2 ws) = nI (nxt J s x t b ws k) := by
  have h6 := hW.1
  have hd := dry_lt hx.1
  have hxx := hx.1
  have hc := worn_lt (J := J) (k := k) (worn_lt (J := J) (k := k) hd (show t < 6 by omega)) (show b < 6 by omega)
  rw [← nxt_alt hW hx ht hb htb h1 h2 r1 r2]
  unfold f_X8_morning vlet
  simp only [lit]
  rw [nI_shr (a := x) (i := 1) (by omega) (by decide), nI_and, nI_and, mulI, nI_andn1]
  rw [show x ^^^ (x &&& 3 * (x &&& x / 2 ^ 1 &&& 1365)) = dryN x from rfl]
  rw [worn_nat h hW hd ht, worn_nat h hW (worn_lt hd (by omega)) hb]
  rw [nI_shr (i := 1) (by omega) (by decide), nI_xor, nI_and, mulI, nI_andn1, h.2.2.2.2.2.2.2.1, nI_and, mulI, nI_or]
  cases ws
  · simp (disch := omega) only [lit, ltI, leI, eqI, addI, mulI, subI, clI, ckI, if_pos, if_neg, if_true, if_false, Option.bind_some, b2_0, b2_n0, b2_1, b2_n1, Bool.true_eq_false, Bool.false_eq_true, b2_t, b2_f]
  · simp (disch := omega) only [lit, ltI, leI, eqI, addI, mulI, subI, clI, ckI, if_pos, if_neg, if_true, if_false, Option.bind_some, b2_0, b2_n0, b2_1, b2_n1, Bool.true_eq_false, Bool.false_eq_true, b2_t, b2_f]
    rfl
