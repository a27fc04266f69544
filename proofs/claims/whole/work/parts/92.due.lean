-- part 92: the reference's tokens: next, due, number, optional
def cdA (T : TL) (p : Nat) : Nat := if sk T p < T.length then cdT T (sk T p) (te T (sk T p)) else 9
def TKA (T : TL) (p : Nat) (N N' : Mem) : Prop := N'.1 36 9 = nI (tnx T p) ∧ N'.1 36 10 = nI (sk T p) ∧ N'.1 36 11 = nI (srt (cdA T p)) ∧ (100 ≤ cdA T p → N'.1 36 12 = nI (cdA T p - 100)) ∧ NX N N'
/-- the reference stands at token k -/
def RS (T : TL) (k : Nat) (N : Mem) : Prop := N.1 36 9 = nI (tp T (k + 1)) ∧ N.1 36 10 = nI (ts T k) ∧ N.1 36 11 = nI (srt (tc T k)) ∧ (100 ≤ tc T k → N.1 36 12 = nI (tc T k - 100))
def ST (T : TL) : Nat ⊕ Nat → Mem → Prop
  | .inl j, N => TYY T N ∧ N.1 36 13 = nI (ts T j)
  | .inr k, N => TYY T N ∧ N.1 36 13 = -9 ∧ RS T k N
def nst (T : TL) (lo hi : Nat) : Nat ⊕ Nat → Nat ⊕ Nat
  | .inl j => .inl j
  | .inr k => if 100 + lo ≤ tc T k ∧ tc T k ≤ 100 + hi then .inr (k + 1) else .inl k
def ost (T : TL) (w : Nat) : Nat ⊕ Nat → Nat ⊕ Nat
  | .inl j => .inl j
  | .inr k => if tc T k = w then .inr (k + 1) else .inr k
def oB (T : TL) (w : Nat) : Nat ⊕ Nat → Bool
  | .inl _ => false
  | .inr k => decide (tc T k = w)
theorem nst_r {T : TL} {lo hi k : Nat} : nst T lo hi (.inr k) = if 100 + lo ≤ tc T k ∧ tc T k ≤ 100 + hi then .inr (k + 1) else .inl k := rfl
theorem ost_r {T : TL} {w k : Nat} : ost T w (.inr k) = if tc T k = w then .inr (k + 1) else .inr k := rfl
theorem oB_r {T : TL} {w k : Nat} : oB T w (.inr k) = decide (tc T k = w) := rfl
/-- fields 9 to 13 alone change -/
def DF (N N' : Mem) : Prop := (∀ c, c ≠ 36 → N'.1 c = N.1 c) ∧ (∀ k, k < 9 ∨ 13 < k → N'.1 36 k = N.1 36 k) ∧ N'.2 = N.2
theorem DF.refl {N : Mem} : DF N N := ⟨fun _ _ => rfl, fun _ _ => rfl, rfl⟩
theorem DF.trans {A B C : Mem} (h1 : DF A B) (h2 : DF B C) : DF A C := ⟨fun c a => (h2.1 c a).trans (h1.1 c a), fun k a => (h2.2.1 k a).trans (h1.2.1 k a), h2.2.2.trans h1.2.2⟩
theorem NX.df {N N' : Mem} (h : NX N N') : DF N N' := ⟨h.1, fun k hk => h.2.1 k (by omega) (by omega) (by omega) (by omega), h.2.2⟩
theorem TYY.df {T : TL} {N N' : Mem} (h : TYY T N) (f : DF N N') : TYY T N' := by
  refine ⟨?_, fun j hj => ?_⟩
  · rw [f.2.1 2 (by decide)]; exact h.1
  · rw [f.1 37 (by decide)]; exact h.2 j hj
section NXT
variable {T : TL} {N : Mem} {F : Nat}
theorem nextR_loop (hT : WTx T) (hF : 600 ≤ F) : ∀ (m p n : Nat) (N : Mem), p + m = T.length → m < n → TYY T N → N.1 36 9 = nI p → ∃ N', f_X10_next_0 F n N = some N' ∧ TKA T p N N'
  | 0, p, n + 1, N, hp, _, hY, h9 => by
    have h5 := hT.1
    have hx := here_out hT hY h9 (by omega) (by omega)
    have hs : sk T p = p := run_end (by omega)
    have hN : NX N (setI (setI N 36 10 (nI p)) 36 12 0) := (NX.fld (by decide)).trans (NX.fld (by decide))
    have h9' : (setI (setI N 36 10 (nI p)) 36 12 0).1 36 9 = nI p := by rw [setI_nk (by decide), setI_nk (by decide)]; exact h9
    have hx2 := here_out hT (hY.nx hN) h9' (by omega) (by omega)
    refine ⟨setI (setI (setI N 36 10 (nI p)) 36 12 0) 36 11 (nI 8), ?_, ?_, ?_, ?_, ?_, hN.trans (NX.fld (by decide))⟩
    · rw [f_X10_next_0, hx, Option.bind_some, if_neg (by decide)]
      simp only [vlet]
      rw [h9, hx2, Option.bind_some, if_neg (by decide)]
      rfl
    · rw [setI_nk (by decide), h9']
      unfold tnx
      rw [hs, if_neg (by omega)]
    · rw [setI_nk (by decide), setI_nk (by decide), setI_at, hs]
    · rw [setI_at]
      unfold cdA
      rw [hs, if_neg (by omega)]
      rfl
    · intro h
      unfold cdA at h
      rw [hs, if_neg (by omega)] at h
      omega
  | m + 1, p, n + 1, N, hp, hn, hY, h9 => by
    have h5 := hT.1
    have hb := tb_lt hT p
    have hx := here_in hT hY h9 (by omega)
    by_cases c32 : T.getD p 0 = 32
    · have hs : sk T p = sk T (p + 1) := run_go (by omega) (by unfold isB; rw [c32]; rfl)
      have hN : NX N (setI N 36 9 (nI (p + 1))) := NX.fld (by decide)
      obtain ⟨N1, a1, a2, a3, a4, a5, a6⟩ := nextR_loop hT hF m (p + 1) n (setI N 36 9 (nI (p + 1))) (by omega) (by omega) (hY.nx hN) setI_at
      refine ⟨N1, ?_, ?_, ?_, ?_, ?_, hN.trans a6⟩
      · rw [f_X10_next_0, hx, Option.bind_some, c32]
        simp only [vlet]
        rw [if_pos (by rfl), h9, show nI p + (1 : Int32) = nI (p + 1) from addI p 1]
        exact a1
      · unfold tnx at a2 ⊢
        rw [hs]; exact a2
      · rw [hs]; exact a3
      · unfold cdA at a4 ⊢
        rw [hs]; exact a4
      · unfold cdA at a5 ⊢
        rw [hs]; exact a5
    · have hs : sk T p = p := run_no (decide_eq_false c32)
      have hN : NX N (setI (setI N 36 10 (nI p)) 36 12 0) := (NX.fld (by decide)).trans (NX.fld (by decide))
      have h9' : (setI (setI N 36 10 (nI p)) 36 12 0).1 36 9 = nI p := by rw [setI_nk (by decide), setI_nk (by decide)]; exact h9
      have h10' : (setI (setI N 36 10 (nI p)) 36 12 0).1 36 10 = nI p := by rw [setI_nk (by decide), setI_at]
      have h12' : (setI (setI N 36 10 (nI p)) 36 12 0).1 36 12 = nI 0 := setI_at
      have hY' := hY.nx hN
      have hx2 := here_in hT hY' h9' (by omega)
      have hlt : p < T.length := by omega
      have hcd : cdA T p = cdT T p (te T p) := by
        unfold cdA
        rw [hs, if_pos hlt]
      have htn : tnx T p = te T p := by
        unfold tnx
        rw [hs, if_pos hlt]
      have hne : ¬ nI (T.getD p 0) = (32 : Int32) := by
        have : (nI (T.getD p 0) = nI 32) = (T.getD p 0 = 32) := eqI (by omega) (by decide)
        intro h
        exact c32 (this.mp h)
      have hpos : (0 : Int32) ≤ nI (T.getD p 0) := by
        have : (nI 0 ≤ nI (T.getD p 0)) = (0 ≤ T.getD p 0) := leI (by decide) (by omega)
        exact this.mpr (Nat.zero_le _)
      rw [f_X10_next_0, hx, Option.bind_some, if_neg hne]
      simp only [vlet]
      rw [h9, hx2, Option.bind_some, if_pos hpos, inL hb, inD hb]
      unfold TKA
      rw [hs, hcd, htn]
      generalize setI (setI N 36 10 (nI p)) 36 12 0 = M6 at hN h9' h10' h12' hY' hx2 ⊢
      cases hL : isL (T.getD p 0)
      · rw [if_pos b2_f]
        cases hD : isD (T.getD p 0)
        · have hte : te T p = p + 1 := by
            unfold te
            rw [hD, hL]
            rfl
          have e9 : nI p + (1 : Int32) = nI (p + 1) := addI p 1
          rw [if_pos b2_f, h9', e9, hte]
          by_cases c59 : T.getD p 0 = 59
          · have hc : cdT T p (p + 1) = 8 := by
              unfold cdT
              rw [hD, hL, c59]
              rfl
            refine ⟨setI (setI M6 36 9 (nI (p + 1))) 36 11 (nI 10), ?_, ?_, ?_, ?_, ?_, hN.trans ((NX.fld (by decide)).trans (NX.fld (by decide)))⟩
            · rw [c59]
              rfl
            · rw [setI_nk (by decide), setI_at]
            · rw [setI_nk (by decide), setI_nk (by decide)]; exact h10'
            · rw [setI_at, hc]; rfl
            · intro h
              rw [hc] at h
              omega
          · have hc : cdT T p (p + 1) = 10 := by
              unfold cdT
              rw [hD, hL]
              simp only [Bool.false_eq_true, if_false, if_neg c59]
            have hne2 : ¬ nI (T.getD p 0) = (59 : Int32) := by
              have : (nI (T.getD p 0) = nI 59) = (T.getD p 0 = 59) := eqI (by omega) (by decide)
              intro h
              exact c59 (this.mp h)
            refine ⟨setI (setI M6 36 9 (nI (p + 1))) 36 11 (nI 11), ?_, ?_, ?_, ?_, ?_, hN.trans ((NX.fld (by decide)).trans (NX.fld (by decide)))⟩
            · rw [if_neg hne2]
              rfl
            · rw [setI_nk (by decide), setI_at]
            · rw [setI_nk (by decide), setI_nk (by decide)]; exact h10'
            · rw [setI_at, hc]; rfl
            · intro h
              rw [hc] at h
              omega
        · have hte : te T p = run T isD p := by
            unfold te
            rw [if_pos hD, ← run_go hlt hD]
          have hc : cdT T p (te T p) = numC T p (te T p) := by
            unfold cdT numC
            rw [hD]
            simp only [if_true]
          obtain ⟨N1, a1, a2, a3, a4, a5, a6⟩ := num_loop (F := F) hT (q := p) (m + 1) p F 0 M6 hp (by omega) (Nat.le_refl _) (Or.inl ⟨by decide, by rw [Nat.sub_self]; rfl⟩) hY' h9' h10' h12'
          rw [← hte] at a2 a4 a5
          rw [← hc] at a4 a5
          rw [if_neg b2_nt]
          exact ⟨N1, a1, a2, a3, a4, a5, hN.trans a6⟩
      · have hD : isD (T.getD p 0) = false := by
          cases hD : isD (T.getD p 0)
          · rfl
          · rw [isL_D hD] at hL; cases hL
        have hte : te T p = run T isL p := by
          unfold te
          rw [hD, if_neg (by decide), if_pos hL, ← run_go hlt hL]
        have hc : cdT T p (te T p) = wcL (sl T p (te T p - p)) := by
          unfold cdT
          rw [hD, hL]
          simp only [Bool.false_eq_true, if_false, if_true]
        have e0 : ltA T p p = 0 := by
          unfold ltA
          rw [Nat.sub_self]
          rfl
        obtain ⟨N1, a1, a2, a3, a4, a5⟩ := word_loop (F := F) hT (q := p) (m + 1) p F M6 hp (by omega) (Nat.le_refl _) (fun j h1 h2 => by omega) hY' h9' h10'
        rw [e0] at a1
        rw [← hte] at a2 a4
        rw [← hc] at a4
        have hw := wcL_lt (sl T p (te T p - p))
        rw [if_neg b2_nt]
        exact ⟨N1, a1, a2, a3, a4, fun h => by rw [hc] at h; omega, hN.trans a5⟩
  | _, _, 0, _, _, hn, _, _ => absurd hn (Nat.not_lt_zero _)
theorem nextR_nat (hT : WTx T) (hF : 600 ≤ F) {p : Nat} (hp : p ≤ T.length) (hY : TYY T N) (h9 : N.1 36 9 = nI p) : ∃ N', f_X10_next F N = some N' ∧ TKA T p N N' := by
  have h5 := hT.1
  exact nextR_loop hT hF (T.length - p) p F N (by omega) (by omega) hY h9
theorem TKA.rs {k : Nat} {N' : Mem} (h : TKA T (tp T k) N N') : RS T k N' := ⟨h.1, h.2.1, h.2.2.1, h.2.2.2.1⟩
theorem due_inl {j : Nat} (hT : WTx T) (h : ST T (.inl j) N) (a : Int32) : f_X10_due F N a = some (N.1 36 12, N) := by
  have h5 := hT.1
  have hl := (ts_le (T := T) j).2
  have hne : ¬ N.1 36 13 = (-9 : Int32) := by
    rw [h.2]
    have := neg9 (n := ts T j) (by omega)
    intro e
    exact this.mp e
  unfold f_X10_due
  rw [if_neg hne]
theorem due_0 {k : Nat} (h : ST T (.inr k) N) : ∃ N', f_X10_due F N (0 : Int32) = some (N.1 36 12, N') ∧ ST T (.inl k) N' ∧ DF N N' := by
  have hd : DF N (setI N 36 13 (nI (ts T k))) := ⟨fun c hc => setI_ne hc, fun j hj => setI_nk (by omega), rfl⟩
  refine ⟨setI N 36 13 (nI (ts T k)), ?_, ⟨h.1.df hd, setI_at⟩, hd⟩
  unfold f_X10_due
  rw [if_pos h.2.1, if_pos rfl]
  simp only [vlet]
  rw [h.2.2.2.1]
theorem due_1 {k : Nat} (hT : WTx T) (hF : 600 ≤ F) (h : ST T (.inr k) N) : ∃ N', f_X10_due F N (1 : Int32) = some (N.1 36 12, N') ∧ ST T (.inr (k + 1)) N' ∧ DF N N' := by
  obtain ⟨N', a1, a2⟩ := nextR_nat (F := F) hT hF (tp_le (k + 1)) h.1 h.2.2.1
  refine ⟨N', ?_, ⟨h.1.nx a2.2.2.2.2, ?_, a2.rs⟩, a2.2.2.2.2.df⟩
  · unfold f_X10_due
    rw [if_pos h.2.1, if_neg n10, a1]
    rfl
  · rw [a2.2.2.2.2.2.1 13 (by decide) (by decide) (by decide) (by decide)]
    exact h.2.1
theorem srt_9 {c : Nat} (hc : c ≤ 199) (h : c ≤ 10 ∨ 100 ≤ c) : (nI (srt c) = nI 9) = (100 ≤ c) := by
  have hs : srt c ≤ 11 := by
    unfold srt
    repeat' split
    all_goals omega
  rw [eqI (by omega) (by decide)]
  apply propext
  unfold srt
  constructor
  · intro e
    split at e
    · omega
    · split at e
      · omega
      · split at e
        · omega
        · split at e <;> omega
  · intro e
    rw [if_neg (by omega), if_neg (by omega), if_neg (by omega), if_neg (by omega)]
theorem number_nat (hT : WTx T) (hF : 600 ≤ F) {s : Nat ⊕ Nat} (h : ST T s N) {lo hi : Nat} (hl : lo ≤ 99) (hh : hi ≤ 99) : ∃ x N', f_X10_number F N (nI lo) (nI hi) = some (x, N') ∧ ST T (nst T lo hi s) N' ∧ DF N N' ∧ ∀ k, s = .inr k → 100 + lo ≤ tc T k ∧ tc T k ≤ 100 + hi → x = nI (tc T k - 100) := by
  cases s with
  | inl j =>
    refine ⟨N.1 36 12, N, ?_, h, DF.refl, fun k e => by cases e⟩
    unfold f_X10_number
    rw [due_inl hT h, due_inl hT h, Option.bind_some]
    split
    · split <;> rfl
    · rfl
  | inr k =>
    obtain ⟨t1, t2⟩ := tc_lt (T := T) k
    have h11 : (N.1 36 11 = (9 : Int32)) = (100 ≤ tc T k) := by
      rw [h.2.2.2.2.1]
      exact srt_9 t1 t2
    unfold f_X10_number
    rw [nst_r]
    by_cases c : 100 ≤ tc T k
    · have h12 := h.2.2.2.2.2 c
      rw [if_pos (h11.mpr c), h12, in_nat (by omega) (by omega) (by omega)]
      by_cases c2 : 100 + lo ≤ tc T k ∧ tc T k ≤ 100 + hi
      · obtain ⟨N', a1, a2, a3⟩ := due_1 (F := F) hT hF h
        rw [if_pos c2, decide_eq_true (show lo ≤ tc T k - 100 by omega), decide_eq_true (show tc T k - 100 ≤ hi by omega), if_neg (by decide), a1, Option.bind_some]
        exact ⟨N.1 36 12, N', rfl, a2, a3, fun k' e _ => by cases e; exact h12⟩
      · obtain ⟨N', a1, a2, a3⟩ := due_0 (F := F) h
        have hb : (decide (lo ≤ tc T k - 100) && decide (tc T k - 100 ≤ hi)) = false := by
          by_cases c3 : lo ≤ tc T k - 100
          · rw [decide_eq_false (show ¬ tc T k - 100 ≤ hi by omega), Bool.and_false]
          · rw [decide_eq_false c3, Bool.false_and]
        rw [if_neg c2, hb, if_pos b2_f, a1, Option.bind_some]
        exact ⟨N.1 36 12, N', rfl, a2, a3, fun k' e c3 => by cases e; exact absurd c3 c2⟩
    · obtain ⟨N', a1, a2, a3⟩ := due_0 (F := F) h
      have c2 : ¬ (100 + lo ≤ tc T k ∧ tc T k ≤ 100 + hi) := by omega
      rw [if_neg (fun e => c (h11.mp e)), if_neg c2, a1, Option.bind_some]
      exact ⟨N.1 36 12, N', rfl, a2, a3, fun k' e c3 => by cases e; exact absurd c3 c2⟩
theorem srt_w {c w : Nat} (hc : c ≤ 199) (h : c ≤ 10 ∨ 100 ≤ c) (hw : w ≤ 7) : (nI (srt c) = nI w) = (c = w) := by
  have hs : srt c ≤ 11 := by
    unfold srt
    repeat' split
    all_goals omega
  rw [eqI (by omega) (by omega)]
  apply propext
  unfold srt
  constructor
  · intro e
    split at e
    · omega
    · split at e
      · omega
      · split at e
        · omega
        · split at e <;> omega
  · intro e
    rw [if_pos (by omega), e]
theorem optional_nat (hT : WTx T) (hF : 600 ≤ F) {s : Nat ⊕ Nat} (h : ST T s N) {w : Nat} (hw : w ≤ 7) : ∃ N', f_X10_optional F N (nI w) = some (b2 (oB T w s), N') ∧ ST T (ost T w s) N' ∧ DF N N' := by
  have n00 : (0 : Int32) = 0 := rfl
  cases s with
  | inl j =>
    have h5 := hT.1
    have hl := (ts_le (T := T) j).2
    have hne : ¬ N.1 36 13 = (-9 : Int32) := by
      rw [h.2]
      have := neg9 (n := ts T j) (by omega)
      intro e
      exact this.mp e
    refine ⟨N, ?_, h, DF.refl⟩
    unfold f_X10_optional
    rw [if_neg hne, if_pos n00]
    rfl
  | inr k =>
    obtain ⟨t1, t2⟩ := tc_lt (T := T) k
    have h11 : (N.1 36 11 = nI w) = (tc T k = w) := by
      rw [h.2.2.2.2.1]
      exact srt_w t1 t2 hw
    unfold f_X10_optional
    rw [ost_r, oB_r, if_pos h.2.1]
    by_cases c : tc T k = w
    · obtain ⟨N', a1, a2, a3⟩ := due_1 (F := F) hT hF h
      refine ⟨N', ?_, by rw [if_pos c]; exact a2, a3⟩
      rw [if_pos (h11.mpr c), if_neg n10, a1, decide_eq_true c]
      rfl
    · refine ⟨N, ?_, by rw [if_neg c]; exact h, DF.refl⟩
      rw [if_neg (fun e => c (h11.mp e)), if_pos n00, decide_eq_false c]
      rfl
end NXT
