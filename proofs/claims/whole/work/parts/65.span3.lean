-- part 65: span: sums, both sides
theorem sum_le {B : Nat} : ∀ (l : List Nat), (∀ x ∈ l, x ≤ B) → l.sum ≤ B * l.length
  | [], _ => by simp
  | a :: t, h => by
    have := sum_le t (fun x hx => h x (List.mem_cons_of_mem _ hx))
    have ha := h a List.mem_cons_self
    rw [List.sum_cons, List.length_cons, Nat.mul_add, Nat.mul_one]
    omega
theorem sO_le : ∀ L : LL, (∀ p ∈ L, p.2 ≤ p.1 ∧ p.1 ≤ 99) → sO L ≤ sH L ∧ sH L ≤ 99 * L.length
  | [], _ => ⟨Nat.le_refl _, Nat.le_refl _⟩
  | p :: t, h => by
    obtain ⟨h1, h2⟩ := sO_le t (fun x hx => h x (List.mem_cons_of_mem _ hx))
    have hp := h p List.mem_cons_self
    unfold sO sH at *
    rw [List.map_cons, List.map_cons, List.sum_cons, List.sum_cons, List.length_cons]
    omega
theorem gcd_sub {h o : Nat} (hle : o ≤ h) : Nat.gcd (h - o) h = Nat.gcd h o := by
  apply Nat.dvd_antisymm
  · have d1 := Nat.gcd_dvd_left (h - o) h
    have d2 := Nat.gcd_dvd_right (h - o) h
    have d3 := Nat.dvd_sub d2 d1
    rw [show h - (h - o) = o by omega] at d3
    exact Nat.dvd_gcd d2 d3
  · have d1 := Nat.gcd_dvd_left h o
    have d2 := Nat.gcd_dvd_right h o
    exact Nat.dvd_gcd (Nat.dvd_sub d1 d2) d1
/-- the answer for waste's two numbers -/
def wst (L : LL) (q : Nat) : Nat := if sH L = 0 then q - 3 else if q = 3 then (sH L - sO L) / Nat.gcd (sH L) (sO L) else sH L / Nat.gcd (sH L) (sO L)
theorem sums_loop {F q : Nat} {L : LL} {N : Mem} (hF : 4100 ≤ F) (hW : WL L) (hY : YL L N) (hq : q = 3 ∨ q = 4) : ∀ (m j n : Nat), j + m = L.length → m < n → f_X10_span_23 F N n (nI q) (nI ((L.map Prod.fst).take j).sum) (nI ((L.map Prod.snd).take j).sum) (nI j) = some (nI (wst L q))
  | 0, j, n + 1, hj, _ => by
    have h20 := hW.1
    obtain ⟨b1, b2'⟩ := sO_le L hW.2
    have hjj : j = L.length := by omega
    subst hjj
    rw [f_X10_span_23, hY.1, List.take_of_length_le (by rw [List.length_map]; exact Nat.le_refl _), List.take_of_length_le (by rw [List.length_map]; exact Nat.le_refl _)]
    show (if nI L.length ≤ nI L.length then (if nI (sH L) = 0 then some (nI q - 3) else (f_X10_common F N (nI (sH L) - nI (sO L)) (nI (sH L))).bind fun x3 => if nI q = (3 : Int32) then (if x3 = 0 then none else some ((nI (sH L) - nI (sO L)) / x3)) else (if x3 = 0 then none else some (nI (sH L) / x3))) else _) = _
    have hc := common_nat (F := F) (N := N) F (sH L - sO L) (sH L) (by omega) (by omega) (by omega)
    rw [gcd_sub b1] at hc
    have hc : f_X10_common F N (nI (sH L - sO L)) (nI (sH L)) = some (nI (Nat.gcd (sH L) (sO L))) := hc
    unfold wst
    by_cases c : sH L = 0
    · rw [if_pos c, c, if_pos (by rw [leI (by omega) (by omega)]; exact Nat.le_refl _), if_pos (by rfl)]
      rcases hq with rfl | rfl <;> rfl
    · have hp := Nat.gcd_pos_of_pos_left (sO L) (show 0 < sH L by omega)
      have hle := Nat.le_of_dvd (show 0 < sH L by omega) (Nat.gcd_dvd_left (sH L) (sO L))
      rw [if_neg c]
      rcases hq with rfl | rfl
      · simp (disch := omega) only [lit, ltI, leI, eqI, addI, mulI, subI, clI, ckI, if_pos, if_neg, if_true, if_false, Option.bind_some, b2_0, b2_n0, b2_1, b2_n1, Bool.true_eq_false, Bool.false_eq_true, b2_t, b2_f, hc, divI, c]
      · simp (disch := omega) only [lit, ltI, leI, eqI, addI, mulI, subI, clI, ckI, if_pos, if_neg, if_true, if_false, Option.bind_some, b2_0, b2_n0, b2_1, b2_n1, Bool.true_eq_false, Bool.false_eq_true, b2_t, b2_f, hc, divI, c]
  | m + 1, j, n + 1, hj, hn => by
    have h20 := hW.1
    have ih := sums_loop hF hW hY hq m (j + 1) n (by omega) (by omega)
    obtain ⟨e1, e2⟩ := hY.2 j (by omega)
    rw [take_S (by rw [List.length_map]; omega), take_S (by rw [List.length_map]; omega), getS (by omega), getF (by omega), List.sum_append, List.sum_append, List.sum_singleton, List.sum_singleton] at ih
    rw [f_X10_span_23, hY.1]
    simp (disch := omega) only [lit, ltI, leI, eqI, addI, mulI, subI, clI, ckI, if_pos, if_neg, if_true, if_false, Option.bind_some, b2_0, b2_n0, b2_1, b2_n1, Bool.true_eq_false, Bool.false_eq_true, b2_t, b2_f, e1, e2]
    exact ih
  | _, _, 0, _, hn => absurd hn (Nat.not_lt_zero _)
theorem wasteU_nat {F : Nat} {L : LL} {N : Mem} (hF : 4100 ≤ F) (hW : WL L) (hX : XL L N) : f_X3_wasteUpper F N = some (nI (wst L 3)) := by
  have h20 := hW.1
  obtain ⟨b1, b2'⟩ := sO_le L hW.2
  unfold f_X3_wasteUpper f_X3_lowered
  rw [hX.2.1, hX.2.2.1, subI b1]
  unfold wst
  by_cases c : sH L = 0
  · rw [if_pos c, c]
    obtain ⟨n, rfl⟩ : ∃ n, F = n + 1 := ⟨F - 1, by omega⟩
    rw [f_X3_lowered_5, if_pos (by decide), Nat.zero_sub]
    rfl
  · have hle := Nat.le_of_dvd (show 0 < sH L by omega) (Nat.gcd_dvd_left (sH L) (sO L))
    rw [lowered_loop (F := F) hX (by omega) (by omega) (by omega) (by omega) (sH L) F (by omega) (by omega) hle, if_neg c, if_pos rfl]
    rfl
theorem wasteL_nat {F : Nat} {L : LL} {N : Mem} (hF : 4100 ≤ F) (hW : WL L) (hX : XL L N) : f_X3_wasteLower F N = some (nI (wst L 4)) := by
  have h20 := hW.1
  obtain ⟨b1, b2'⟩ := sO_le L hW.2
  unfold f_X3_wasteLower f_X3_lowered
  rw [hX.2.1]
  unfold wst
  by_cases c : sH L = 0
  · rw [if_pos c, c]
    obtain ⟨n, rfl⟩ : ∃ n, F = n + 1 := ⟨F - 1, by omega⟩
    rw [f_X3_lowered_5, if_pos (by decide)]
    rfl
  · have hp := Nat.gcd_pos_of_pos_left (sO L) (show 0 < sH L by omega)
    have hle := Nat.le_of_dvd (show 0 < sH L by omega) (Nat.gcd_dvd_left (sH L) (sO L))
    have h1 : 1 ≤ sH L / Nat.gcd (sH L) (sO L) := (Nat.le_div_iff_mul_le hp).mpr (by rw [Nat.one_mul]; exact hle)
    have h2 : sH L / Nat.gcd (sH L) (sO L) ≤ sH L := Nat.div_le_self _ _
    rw [lowered_loop (F := F) hX (by omega) (by omega) (by omega) (by omega) (sH L) F (by omega) (by omega) hle, if_neg c, if_neg (by decide), Option.bind_some, lit 1, imaxI (by omega) (by omega), Nat.max_eq_left h1]
