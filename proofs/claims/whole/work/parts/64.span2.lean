-- part 64: span: both sides' loops
theorem getS {L : LL} {j : Nat} (h : j < L.length) : (L.map Prod.snd).getD j 0 = (L.getD j (0, 0)).2 := by
  rw [List.getD_eq_getElem?_getD, List.getD_eq_getElem?_getD, List.getElem?_map, List.getElem?_eq_getElem h]
  rfl
theorem getF {L : LL} {j : Nat} (h : j < L.length) : (L.map Prod.fst).getD j 0 = (L.getD j (0, 0)).1 := by
  rw [List.getD_eq_getElem?_getD, List.getD_eq_getElem?_getD, List.getElem?_map, List.getElem?_eq_getElem h]
  rfl
theorem take_S {l : List Nat} {j : Nat} (h : j < l.length) : l.take (j + 1) = l.take j ++ [l.getD j 0] := by
  rw [List.take_add_one, List.getD_eq_getElem?_getD, List.getElem?_eq_getElem h]
  rfl
theorem cnt_app {v x : Nat} {l : List Nat} : cnt v (l ++ [x]) = cnt v l + if x ≤ v then 1 else 0 := by
  unfold cnt
  rw [List.countP_append, List.countP_cons, List.countP_nil]
  by_cases c : x ≤ v <;> simp [c]
theorem WL.at {L : LL} (hW : WL L) {j : Nat} (hj : j < L.length) : (L.getD j (0, 0)).2 ≤ (L.getD j (0, 0)).1 ∧ (L.getD j (0, 0)).1 ≤ 99 := by
  have : L.getD j (0, 0) ∈ L := by
    rw [List.getD_eq_getElem?_getD, List.getElem?_eq_getElem hj]
    exact List.getElem_mem hj
  exact hW.2 _ this
theorem upTo_loop {F v : Nat} {L : LL} {N : Mem} (hW : WL L) (hY : YL L N) (hv : v < 1000) : ∀ (m j n : Nat), j + m = L.length → m < n → f_X10_upTo_4 F N n (nI v) (nI (cnt v ((L.map Prod.snd).take j))) (nI j) = some (nI (cnt v (L.map Prod.snd)))
  | 0, j, n + 1, hj, _ => by
    have h20 := hW.1
    have hjj : j = L.length := by omega
    subst hjj
    rw [f_X10_upTo_4, hY.1, List.take_of_length_le (by rw [List.length_map]; exact Nat.le_refl _)]
    simp (disch := omega) only [lit, ltI, leI, eqI, addI, mulI, subI, clI, ckI, if_pos, if_neg, if_true, if_false, Option.bind_some, b2_0, b2_n0, b2_1, b2_n1, Bool.true_eq_false, Bool.false_eq_true, b2_t, b2_f]
  | m + 1, j, n + 1, hj, hn => by
    have h20 := hW.1
    have ih := upTo_loop (F := F) hW hY hv m (j + 1) n (by omega) (by omega)
    have h58 := (hY.2 j (by omega)).2
    have hb := hW.at (j := j) (by omega)
    rw [take_S (by rw [List.length_map]; omega), cnt_app, getS (by omega)] at ih
    rw [f_X10_upTo_4, hY.1]
    by_cases c : (L.getD j (0, 0)).2 ≤ v
    · rw [if_pos c] at ih
      simp (disch := omega) only [lit, ltI, leI, eqI, addI, mulI, subI, clI, ckI, if_pos, if_neg, if_true, if_false, Option.bind_some, b2_0, b2_n0, b2_1, b2_n1, Bool.true_eq_false, Bool.false_eq_true, b2_t, b2_f, h58]
      exact ih
    · rw [if_neg c] at ih
      simp (disch := omega) only [lit, ltI, leI, eqI, addI, mulI, subI, clI, ckI, if_pos, if_neg, if_true, if_false, Option.bind_some, b2_0, b2_n0, b2_1, b2_n1, Bool.true_eq_false, Bool.false_eq_true, b2_t, b2_f, h58]
      exact ih
  | _, _, 0, _, hn => absurd hn (Nat.not_lt_zero _)
theorem upTo_nat {F v : Nat} {L : LL} {N : Mem} (hF : 4100 ≤ F) (hW : WL L) (hY : YL L N) (hv : v < 1000) : f_X10_upTo F N (nI v) = some (nI (cnt v (so L))) := by
  have h20 := hW.1
  rw [cnt_so]
  exact upTo_loop (F := F) hW hY hv L.length 0 F (by omega) (by omega)
theorem span_loop {F q : Nat} {L : LL} {N : Mem} (hF : 4100 ≤ F) (hW : WL L) (hY : YL L N) (h1 : 1 ≤ q) (h2 : q ≤ L.length) : ∀ (m v n : Nat), v + m = (so L).getD (q - 1) 0 → m < n → f_X10_span_137 F N n (nI q) (nI v) = some (nI ((so L).getD (q - 1) 0))
  | 0, v, n + 1, hv, _ => by
    have h20 := hW.1
    have hl := so_lt hW (j := q - 1) (by rw [so_len]; omega)
    have hc := List.countP_le_length (p := fun x => decide (x ≤ v)) (l := so L)
    rw [so_len] at hc
    have hc : cnt v (so L) ≤ L.length := hc
    have h := (cnt_srt (so_srt (L := L)) (v := v) h1 (by rw [so_len]; exact h2)).mpr (by omega)
    rw [f_X10_span_137, upTo_nat hF hW hY (by omega), Option.bind_some]
    rw [← hv, Nat.add_zero]
    simp (disch := omega) only [lit, ltI, leI, eqI, addI, mulI, subI, clI, ckI, if_pos, if_neg, if_true, if_false, Option.bind_some, b2_0, b2_n0, b2_1, b2_n1, Bool.true_eq_false, Bool.false_eq_true, b2_t, b2_f]
  | m + 1, v, n + 1, hv, hn => by
    have h20 := hW.1
    have hl := so_lt hW (j := q - 1) (by rw [so_len]; omega)
    have hc := List.countP_le_length (p := fun x => decide (x ≤ v)) (l := so L)
    rw [so_len] at hc
    have hc : cnt v (so L) ≤ L.length := hc
    have h : ¬ q ≤ cnt v (so L) := fun h => by
      have := (cnt_srt (so_srt (L := L)) (v := v) h1 (by rw [so_len]; exact h2)).mp h
      omega
    have ih := span_loop hF hW hY h1 h2 m (v + 1) n (by omega) (by omega)
    rw [f_X10_span_137, upTo_nat hF hW hY (by omega), Option.bind_some]
    simp (disch := omega) only [lit, ltI, leI, eqI, addI, mulI, subI, clI, ckI, if_pos, if_neg, if_true, if_false, Option.bind_some, b2_0, b2_n0, b2_1, b2_n1, Bool.true_eq_false, Bool.false_eq_true, b2_t, b2_f]
    exact ih
  | _, _, 0, _, hn => absurd hn (Nat.not_lt_zero _)
theorem common_nat {F : Nat} {N : Mem} : ∀ (n a b : Nat), b < n → a < 2 ^ 31 → b < 2 ^ 31 → f_X10_common_4 F N n (nI a) (nI b) = some (nI (Nat.gcd a b))
  | n + 1, a, b, hn, ha, hb => by
    rw [f_X10_common_4]
    by_cases c : b = 0
    · subst c
      rw [if_pos (by rfl), Nat.gcd_zero_right]
    · have hm := Nat.mod_lt a (show 0 < b by omega)
      have ih := common_nat (F := F) (N := N) n b (a % b) (by omega) hb (by omega)
      have e : Nat.gcd a b = Nat.gcd b (a % b) := by
        rw [Nat.gcd_comm a b, Nat.gcd_rec b a, Nat.gcd_comm]
      have hne : ¬ nI b = 0 := by
        intro h
        have h : nI b = nI 0 := h
        rw [eqI hb (by decide)] at h
        exact c h
      rw [if_neg hne, if_neg hne, pk_rem ha (by omega) hb, e]
      exact ih
  | 0, _, _, hn, _, _ => absurd hn (Nat.not_lt_zero _)
theorem lowered_loop {F h o x : Nat} {l : List Nat} {N : Mem} (hX : CLs h o l N) (hh : h < 3000) (h0 : 0 < h) (ho : o < 3000) (hx : x < 3000) : ∀ (k n : Nat), k < n → k < 3000 → Nat.gcd h o ≤ k → f_X3_lowered_5 F N n (nI x) (nI k) = some (nI (x / Nat.gcd h o))
  | 0, n + 1, _, _, hg => by
    have := Nat.gcd_pos_of_pos_left o h0
    omega
  | k + 1, n + 1, hn, hk, hg => by
    have hp := Nat.gcd_pos_of_pos_left o h0
    have e2 := hX.2.1
    have e3 := hX.2.2.1
    rw [f_X3_lowered_5, e2, e3]
    by_cases c1 : k + 1 ≤ 1
    · have : Nat.gcd h o = 1 := by omega
      rw [this, Nat.div_one]
      simp (disch := omega) only [lit, ltI, leI, eqI, addI, mulI, subI, clI, ckI, if_pos, if_neg, if_true, if_false, Option.bind_some, b2_0, b2_n0, b2_1, b2_n1, Bool.true_eq_false, Bool.false_eq_true, b2_t, b2_f]
    · have ed : nI (k + 1) + (-nI 1) = nI k := dI_pred (k + 1)
      have m1 := Nat.mod_lt h (show 0 < k + 1 by omega)
      have m2 := Nat.mod_lt o (show 0 < k + 1 by omega)
      have r1 := pk_rem (a := h) (d := k + 1) (by omega) (by omega) (by omega)
      have r2 := pk_rem (a := o) (d := k + 1) (by omega) (by omega) (by omega)
      rw [r1, r2]
      by_cases c2 : h % (k + 1) = 0 ∧ o % (k + 1) = 0
      · have hd : k + 1 ∣ Nat.gcd h o := Nat.dvd_gcd (Nat.dvd_of_mod_eq_zero c2.1) (Nat.dvd_of_mod_eq_zero c2.2)
        have := Nat.le_of_dvd hp hd
        have e : Nat.gcd h o = k + 1 := by omega
        rw [e]
        simp (disch := omega) only [lit, ltI, leI, eqI, addI, mulI, subI, clI, ckI, if_pos, if_neg, if_true, if_false, Option.bind_some, b2_0, b2_n0, b2_1, b2_n1, Bool.true_eq_false, Bool.false_eq_true, b2_t, b2_f, c2.1, c2.2, divI]
      · have hne : Nat.gcd h o ≠ k + 1 := by
          intro e
          apply c2
          constructor
          · exact Nat.mod_eq_zero_of_dvd (e ▸ Nat.gcd_dvd_left h o)
          · exact Nat.mod_eq_zero_of_dvd (e ▸ Nat.gcd_dvd_right h o)
        have ih := lowered_loop (F := F) hX hh h0 ho hx k n (by omega) (by omega) (by omega)
        by_cases c3 : h % (k + 1) = 0
        · have c4 : ¬ o % (k + 1) = 0 := fun e => c2 ⟨c3, e⟩
          simp (disch := omega) only [lit, ltI, leI, eqI, addI, mulI, subI, clI, ckI, if_pos, if_neg, if_true, if_false, Option.bind_some, b2_0, b2_n0, b2_1, b2_n1, Bool.true_eq_false, Bool.false_eq_true, b2_t, b2_f, c3, c4, ed]
          exact ih
        · simp (disch := omega) only [lit, ltI, leI, eqI, addI, mulI, subI, clI, ckI, if_pos, if_neg, if_true, if_false, Option.bind_some, b2_0, b2_n0, b2_1, b2_n1, Bool.true_eq_false, Bool.false_eq_true, b2_t, b2_f, c3, ed]
          exact ih
  | _, 0, hn, _, _ => absurd hn (Nat.not_lt_zero _)
