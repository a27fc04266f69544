-- part 60: calls: list
abbrev LL : Type := List (Nat × Nat)
def WL (L : LL) : Prop := L.length ≤ 20 ∧ ∀ p ∈ L, p.2 ≤ p.1 ∧ p.1 ≤ 99
def soF (acc : List Nat) (os : List Nat) : List Nat := os.foldl insL acc
def so (L : LL) : List Nat := soF [] (L.map Prod.snd)
def sH (L : LL) : Nat := (L.map Prod.fst).sum
def sO (L : LL) : Nat := (L.map Prod.snd).sum
theorem mem_insL {l : List Nat} {y x : Nat} : x ∈ insL l y ↔ x ∈ l ∨ x = y := by
  unfold insL
  generalize posL l y l.length = p
  have h : x ∈ l ↔ x ∈ l.take p ∨ x ∈ l.drop p := by
    rw [← List.mem_append, List.take_append_drop]
  rw [h, List.mem_append, List.mem_cons]
  constructor
  · rintro (h | h | h)
    · exact Or.inl (Or.inl h)
    · exact Or.inr h
    · exact Or.inl (Or.inr h)
  · rintro ((h | h) | h)
    · exact Or.inl h
    · exact Or.inr (Or.inr h)
    · exact Or.inr (Or.inl h)
theorem soF_len : ∀ (os acc : List Nat), (soF acc os).length = acc.length + os.length
  | [], acc => rfl
  | a :: t, acc => by
    show (soF (insL acc a) t).length = _
    rw [soF_len t, insL_len, List.length_cons]
    omega
theorem mem_soF {x : Nat} : ∀ (os acc : List Nat), x ∈ soF acc os ↔ x ∈ acc ∨ x ∈ os
  | [], acc => by show x ∈ acc ↔ _; simp
  | a :: t, acc => by
    show x ∈ soF (insL acc a) t ↔ _
    rw [mem_soF t, mem_insL, List.mem_cons, or_assoc]
theorem so_len {L : LL} : (so L).length = L.length := by
  unfold so
  rw [soF_len, List.length_map]
  simp
theorem so_add {L : LL} {a b : Nat} : so (L ++ [(a, b)]) = insL (so L) b := by
  unfold so soF
  rw [List.map_append, List.foldl_append]
  rfl
theorem sH_add {L : LL} {a b : Nat} : sH (L ++ [(a, b)]) = sH L + a := by
  unfold sH; simp
theorem sO_add {L : LL} {a b : Nat} : sO (L ++ [(a, b)]) = sO L + b := by
  unfold sO; simp
theorem so_lt {L : LL} (hW : WL L) {j : Nat} (hj : j < (so L).length) : (so L).getD j 0 ≤ 99 := by
  have h := getD_mem hj
  unfold so at h
  rw [mem_soF] at h
  rcases h with h | h
  · exact absurd h List.not_mem_nil
  · obtain ⟨p, hp, e⟩ := List.mem_map.mp h
    have := hW.2 p hp
    unfold so
    omega
theorem WL.add {L : LL} {a b : Nat} (hW : WL L) (hl : L.length < 20) (ha : a ≤ 99) (hb : b ≤ a) : WL (L ++ [(a, b)]) := by
  refine ⟨by rw [List.length_append, List.length_singleton]; omega, fun p hp => ?_⟩
  rcases List.mem_append.mp hp with h | h
  · exact hW.2 p h
  · rw [List.mem_singleton.mp h]
    exact ⟨hb, ha⟩
/-- the class's lists; the reference's -/
def XL (L : LL) (N : Mem) : Prop := CLs (sH L) (sO L) (so L) N
def YL (L : LL) (N : Mem) : Prop := N.1 36 30 = nI L.length ∧ ∀ j, j < L.length → N.1 57 j = nI (L.getD j (0, 0)).1 ∧ N.1 58 j = nI (L.getD j (0, 0)).2
def XLF (N N' : Mem) : Prop := (∀ c, c ≠ 32 → c ≠ 33 → N'.1 c = N.1 c) ∧ N'.2 = N.2
def YLF (N N' : Mem) : Prop := (∀ c, c ≠ 36 → c ≠ 57 → c ≠ 58 → N'.1 c = N.1 c) ∧ (∀ k, k ≠ 30 → N'.1 36 k = N.1 36 k) ∧ N'.2 = N.2
theorem XLF.refl {N : Mem} : XLF N N := ⟨fun _ _ _ => rfl, rfl⟩
theorem YLF.refl {N : Mem} : YLF N N := ⟨fun _ _ _ _ => rfl, fun _ _ => rfl, rfl⟩
theorem listX_good {F a b : Nat} {L : LL} {N : Mem} (hW : WL L) (hF : 4100 ≤ F) (ha : a ≤ 99) (hb : b ≤ a) (hl : L.length < 20) (hX : XL L N) : ∃ N', f_X9_list F N (nI a) (nI b) = some (nI (L.length + 1), N') ∧ XL (L ++ [(a, b)]) N' ∧ XLF N N' := by
  obtain ⟨N1, a1, a2, a3, a4⟩ := add_nat (F := F) (nh := a) (y := b) hF (by rw [so_len]; exact hl) (by omega) (fun j hj => by have := so_lt hW hj; omega) hX
  refine ⟨N1, ?_, ?_, a3, a4⟩
  · have hsz : f_X3_size N1 = nI (L.length + 1) := by
      have := a2.1
      rw [insL_len, so_len] at this
      exact this
    unfold f_X9_list
    simp (disch := omega) only [lit, ltI, leI, eqI, addI, mulI, subI, clI, ckI, if_pos, if_neg, if_true, if_false, Option.bind_some, b2_0, b2_n0, b2_1, b2_n1, Bool.true_eq_false, Bool.false_eq_true, b2_t, b2_f, a1, hsz]
  · unfold XL
    rw [so_add, sH_add, sO_add]
    exact a2
theorem listX_full {F a b : Nat} {L : LL} {N : Mem} (ha : a ≤ 99) (hb : b ≤ a) (hl : L.length = 20) (hX : XL L N) : f_X9_list F N (nI a) (nI b) = some (-3, N) := by
  have h1 := hX.1
  rw [so_len, hl] at h1
  unfold f_X9_list f_X3_add
  simp (disch := omega) only [lit, ltI, leI, eqI, addI, mulI, subI, clI, ckI, if_pos, if_neg, if_true, if_false, Option.bind_some, b2_0, b2_n0, b2_1, b2_n1, Bool.true_eq_false, Bool.false_eq_true, b2_t, b2_f, h1]
theorem listR_good {a b : Nat} {L : LL} {N : Mem} (ha : a ≤ 99) (hb : b ≤ a) (hl : L.length < 20) (hR : YL L N) : ∃ N', f_X10_list N (nI a) (nI b) = some (nI (L.length + 1), N') ∧ YL (L ++ [(a, b)]) N' ∧ YLF N N' := by
  obtain ⟨h1, h2⟩ := hR
  refine ⟨setI (setI (setI N 57 L.length (nI a)) 58 L.length (nI b)) 36 30 (nI (L.length + 1)), ?_, ⟨?_, fun j hj => ?_⟩, fun c c1 c2 c3 => ?_, fun k hk => ?_, rfl⟩
  · have e1 : (setI N 57 L.length (nI a)).1 36 30 = nI L.length := by rw [setI_ne (by decide)]; exact h1
    have e2 : (setI (setI N 57 L.length (nI a)) 58 L.length (nI b)).1 36 30 = nI L.length := by rw [setI_ne (by decide)]; exact e1
    have e3 : (setI (setI (setI N 57 L.length (nI a)) 58 L.length (nI b)) 36 30 (nI (L.length + 1))).1 36 30 = nI (L.length + 1) := setI_at
    have i1 : f_X10_in N (nI a) (0 : Int32) (99 : Int32) = 1 := inR_yes (n := 99) (by decide) ha
    have i2 : f_X10_in N (nI b) (0 : Int32) (nI a) = 1 := inR_yes (by omega) hb
    unfold f_X10_list
    rw [i1, i2]
    simp only [vlet]
    simp (disch := omega) only [lit, ltI, leI, eqI, addI, mulI, subI, clI, ckI, if_pos, if_neg, if_true, if_false, Option.bind_some, b2_0, b2_n0, b2_1, b2_n1, Bool.true_eq_false, Bool.false_eq_true, b2_t, b2_f, h1, e1, e2, e3]
  · rw [setI_at, List.length_append, List.length_singleton]
  · rw [List.length_append, List.length_singleton] at hj
    by_cases e : j = L.length
    · subst e
      refine ⟨?_, ?_⟩
      · rw [setI_ne (by decide), setI_ne (by decide), setI_at]
        simp
      · rw [setI_ne (by decide), setI_at]
        simp
    · have hg : (L ++ [(a, b)]).getD j (0, 0) = L.getD j (0, 0) := by
        rw [List.getD_eq_getElem?_getD, List.getD_eq_getElem?_getD, List.getElem?_append_left (by omega)]
      rw [hg]
      refine ⟨?_, ?_⟩
      · rw [setI_ne (by decide), setI_ne (by decide), setI_nk e]
        exact (h2 j (by omega)).1
      · rw [setI_ne (by decide), setI_nk e, setI_ne (by decide)]
        exact (h2 j (by omega)).2
  · rw [setI_ne c1, setI_ne c3, setI_ne c2]
  · rw [setI_nk hk, setI_ne (by decide), setI_ne (by decide)]
theorem listR_full {a b : Nat} {L : LL} {N : Mem} (ha : a ≤ 99) (hb : b ≤ a) (hl : L.length = 20) (hR : YL L N) : f_X10_list N (nI a) (nI b) = some (-3, N) := by
  have h1 := hR.1
  rw [hl] at h1
  have i1 : f_X10_in N (nI a) (0 : Int32) (99 : Int32) = 1 := inR_yes (n := 99) (by decide) ha
  have i2 : f_X10_in N (nI b) (0 : Int32) (nI a) = 1 := inR_yes (by omega) hb
  unfold f_X10_list
  rw [i1, i2]
  simp (disch := omega) only [lit, ltI, leI, eqI, addI, mulI, subI, clI, ckI, if_pos, if_neg, if_true, if_false, Option.bind_some, b2_0, b2_n0, b2_1, b2_n1, Bool.true_eq_false, Bool.false_eq_true, b2_t, b2_f, h1]
