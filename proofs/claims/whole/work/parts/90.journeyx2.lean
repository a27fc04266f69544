-- part 90: calls: journey, the class's
theorem setA_at {N : Mem} {c : Nat} {f : Nat → Int32} : (setA N c f).1 c = f := if_pos rfl
theorem setA_ne {N : Mem} {c d : Nat} {f : Nat → Int32} (h : d ≠ c) : (setA N c f).1 d = N.1 d := if_neg h
theorem cpy_in {f g : Nat → Int32} {n k : Nat} (h : k < n) : va_cpy f g 0 0 n k = f k := by
  unfold va_cpy
  rw [if_pos ⟨Nat.zero_le _, by omega⟩, Nat.sub_zero, Nat.zero_add]
def cpM (N : Mem) : Mem :=
  setI (setI (setI (setI (setI (setI (setI (setI (setA (setA (setA N 4 (va_cpy (N.1 8) (N.1 4) 0 0 48)) 5 (va_cpy (N.1 9) (N.1 5) 0 0 32)) 6 (va_cpy (N.1 10) (N.1 6) 0 0 6)) 3 3 (N.1 7 3)) 3 4 (N.1 7 4)) 3 5 (N.1 7 5)) 3 6 (N.1 7 6)) 3 7 (N.1 7 7)) 3 8 (N.1 7 8)) 3 9 (N.1 7 9)) 3 10 (N.1 7 10)
theorem copy_eq {N : Mem} : f_X8_copy N 3 7 = some (cpM N) := rfl
theorem cpM_ne {N : Mem} {c : Nat} (h : c < 3 ∨ 6 < c) : (cpM N).1 c = N.1 c := by
  unfold cpM
  rw [setI_ne (by omega), setI_ne (by omega), setI_ne (by omega), setI_ne (by omega), setI_ne (by omega), setI_ne (by omega), setI_ne (by omega), setI_ne (by omega), setA_ne (by omega), setA_ne (by omega), setA_ne (by omega)]
theorem cpM_arr {N : Mem} {c : Nat} (h : c ≠ 3) : (cpM N).1 c = (setA (setA (setA N 4 (va_cpy (N.1 8) (N.1 4) 0 0 48)) 5 (va_cpy (N.1 9) (N.1 5) 0 0 32)) 6 (va_cpy (N.1 10) (N.1 6) 0 0 6)).1 c := by
  unfold cpM
  rw [setI_ne h, setI_ne h, setI_ne h, setI_ne h, setI_ne h, setI_ne h, setI_ne h, setI_ne h]
theorem cpM_3 {N : Mem} : ∀ j, 3 ≤ j → j ≤ 10 → (cpM N).1 3 j = N.1 7 j := by
  intro j h1 h2
  unfold cpM
  rcases (by omega : j = 3 ∨ j = 4 ∨ j = 5 ∨ j = 6 ∨ j = 7 ∨ j = 8 ∨ j = 9 ∨ j = 10) with rfl | rfl | rfl | rfl | rfl | rfl | rfl | rfl
  · repeat rw [setI_nk (by decide)]
    rw [setI_at]
  · repeat rw [setI_nk (by decide)]
    rw [setI_at]
  · repeat rw [setI_nk (by decide)]
    rw [setI_at]
  · repeat rw [setI_nk (by decide)]
    rw [setI_at]
  · repeat rw [setI_nk (by decide)]
    rw [setI_at]
  · repeat rw [setI_nk (by decide)]
    rw [setI_at]
  · repeat rw [setI_nk (by decide)]
    rw [setI_at]
  · rw [setI_at]
theorem cpM_hx {J : Jr} {N : Mem} (hW : WJ J) (h : HX J N 7) : HX J (cpM N) 3 := by
  have h6 := hW.1
  have h8 := hW.2.1
  obtain ⟨a1, a2, a3, a4, a5, a6, a7, a8, a9, a10, a11⟩ := h
  refine ⟨?_, ?_, ?_, ?_, ?_, ?_, ?_, ?_, fun i hi k hk => ?_, fun d hd k hk => ?_, fun i hi => ?_⟩
  · rw [cpM_3 3 (by decide) (by decide)]; exact a1
  · rw [cpM_3 4 (by decide) (by decide)]; exact a2
  · rw [cpM_3 5 (by decide) (by decide)]; exact a3
  · rw [cpM_3 6 (by decide) (by decide)]; exact a4
  · rw [cpM_3 7 (by decide) (by decide)]; exact a5
  · rw [cpM_3 8 (by decide) (by decide)]; exact a6
  · rw [cpM_3 9 (by decide) (by decide)]; exact a7
  · rw [cpM_3 10 (by decide) (by decide)]; exact a8
  · show (cpM N).1 4 _ = _
    rw [cpM_arr (by decide), setA_ne (by decide), setA_ne (by decide), setA_at, cpy_in (by omega)]
    exact a9 i hi k hk
  · show (cpM N).1 5 _ = _
    rw [cpM_arr (by decide), setA_ne (by decide), setA_at, cpy_in (by omega)]
    exact a10 d hd k hk
  · show (cpM N).1 6 _ = _
    rw [cpM_arr (by decide), setA_at, cpy_in (by omega)]
    exact a11 i hi
theorem neg_s : ∀ s, s < 501 → ¬ (0 : Int32) ≤ (-10 : Int32) - nI s := by decide +kernel
def JXF (N N' : Mem) : Prop := (∀ c, 16 < c → c ≠ 26 → N'.1 c = N.1 c) ∧ N'.2 = N.2
/-- the class's state behind a journey that was read -/
def JXS (J : Jr) (N : Mem) : Prop := HX J N 3 ∧ TXX [] N ∧ LX N 14 (0, 0, allB J) ∧ N.1 15 3 = 0 ∧ N.1 16 3 = 0 ∧ KN J N
def jvl (T : TL) : Int32 := match pAll T with
  | .inl j => (-10 : Int32) - nI (ts T j)
  | .inr q => nI q.1
theorem journeyX_nat {T : TL} {F : Nat} (hT : WTx T) (hF : 4100 ≤ F) {N : Mem} (hX : TXX T N) : ∃ N', f_X9_journey F N = some (jvl T, N') ∧ match pAll T with
    | .inl _ => QF N N'
    | .inr q => JXS q.2 N' ∧ JXF N N' := by
  have hr := read_nat (F := F) hT hF hX
  unfold jvl
  cases hp : pAll T with
  | inl j =>
    rw [hp] at hr
    obtain ⟨N1, e1, h2⟩ := hr
    have h5 := hT.1
    have hl := (ts_le (T := T) j).2
    refine ⟨N1, ?_, h2⟩
    unfold f_X9_journey
    rw [e1, Option.bind_some]
    dsimp only
    rw [if_neg (neg_s _ (by omega))]
  | inr q =>
    rw [hp] at hr
    obtain ⟨N1, e1, hD, h2⟩ := hr
    obtain ⟨hQ, hq⟩ := all_ok hp
    have hpos : (0 : Int32) ≤ nI q.1 := by
      show nI 0 ≤ nI q.1
      rw [leI (by decide) (by omega)]
      exact Nat.zero_le _
    have hh := cpM_hx hQ.1 hD.1
    have hh2 : HX q.2 (setI (cpM N1) 1 1 0) 3 := hh.same (setI_ne (by decide)) (setI_ne (by decide)) (setI_ne (by decide)) (setI_ne (by decide))
    have hall : f_X8_allThings (setI (cpM N1) 1 1 0) 3 = nI (allB q.2) := allX_nat hh2 hQ.1
    obtain ⟨N3, f1, f2, f3, f4⟩ := fillI_nat (F := F) (c := 26) (len := 64) (v := -1) (N := setI (setI (putX (setI (cpM N1) 1 1 0) 14 (0, 0, allB q.2)) 15 3 0) 16 3 0) (by decide) hF
    have hne : ∀ c, c ≠ 1 → c ≠ 14 → c ≠ 15 → c ≠ 16 → c ≠ 26 → N3.1 c = (cpM N1).1 c := by
      intro c c1 c2 c3 c4 c5
      rw [f4 c c5, setI_ne c4, setI_ne c3, putX_oc.1 c c2, setI_ne c1]
    refine ⟨N3, ?_, ⟨?_, ⟨?_, fun j hj => absurd hj (Nat.not_lt_zero _)⟩, ⟨?_, ?_, ?_⟩, ?_, ?_, fun s hs => Or.inr (f2 s hs)⟩, ⟨fun c hc c26 => ?_, ?_⟩⟩
    · unfold f_X9_journey
      rw [e1, Option.bind_some]
      dsimp only
      rw [if_pos hpos, copy_eq, Option.bind_some]
      have e2 : f_X7_empty (cpM N1) = some (setI (cpM N1) 1 1 0) := rfl
      rw [e2, Option.bind_some, hall]
      have e3 : f_X2_start (setI (cpM N1) 1 1 0) 14 (nI (allB q.2)) = some (putX (setI (cpM N1) 1 1 0) 14 (0, 0, allB q.2)) := rfl
      rw [e3, Option.bind_some]
      have e4 : f_X2_forget (putX (setI (cpM N1) 1 1 0) 14 (0, 0, allB q.2)) 15 = some (setI (putX (setI (cpM N1) 1 1 0) 14 (0, 0, allB q.2)) 15 3 0) := rfl
      rw [e4, Option.bind_some]
      have e5 : f_X2_forget (setI (putX (setI (cpM N1) 1 1 0) 14 (0, 0, allB q.2)) 15 3 0) 16 = some (setI (setI (putX (setI (cpM N1) 1 1 0) 14 (0, 0, allB q.2)) 15 3 0) 16 3 0) := rfl
      rw [e5, Option.bind_some]
      unfold f_X0_forget
      rw [f1]
      rfl
    · exact hh.same (hne 3 (by decide) (by decide) (by decide) (by decide) (by decide)) (hne 4 (by decide) (by decide) (by decide) (by decide) (by decide)) (hne 5 (by decide) (by decide) (by decide) (by decide) (by decide)) (hne 6 (by decide) (by decide) (by decide) (by decide) (by decide))
    · rw [f4 1 (by decide), setI_ne (by decide), setI_ne (by decide), putX_oc.1 1 (by decide), setI_at]
      rfl
    · rw [f4 14 (by decide), setI_ne (by decide), setI_ne (by decide)]
      exact putX_lx.1
    · rw [f4 14 (by decide), setI_ne (by decide), setI_ne (by decide)]
      exact putX_lx.2.1
    · rw [f4 14 (by decide), setI_ne (by decide), setI_ne (by decide)]
      exact putX_lx.2.2
    · rw [f4 15 (by decide), setI_ne (by decide), setI_at]
    · rw [f4 16 (by decide), setI_at]
    · rw [hne c (by omega) (by omega) (by omega) (by omega) c26, cpM_ne (by omega)]
      exact h2.1 c (by omega)
    · rw [f3]
      exact h2.2
