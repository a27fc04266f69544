-- part 99g: calls that change the state; questions
def putT (σ : SS) (T : TL) : SS := (sJ σ, sLs σ, sTn σ, sA σ, sI σ 0, sI σ 1, T)
def putA (σ : SS) (a : LV) : SS := (sJ σ, sLs σ, sTn σ, a, sI σ 0, sI σ 1, sT σ)
def putN (σ : SS) (t : Nat → Nat) : SS := (sJ σ, sLs σ, t, sA σ, sI σ 0, sI σ 1, sT σ)
def putL (σ : SS) (L : LL) : SS := (sJ σ, L, sTn σ, sA σ, sI σ 0, sI σ 1, sT σ)
def putI (σ : SS) (q : Nat) (a : LV) : SS := (sJ σ, sLs σ, sTn σ, sA σ, if q = 0 then (true, a) else sI σ 0, if q = 0 then sI σ 1 else (true, a), sT σ)
def putJ (σ : SS) (J : Jr) : SS := (J, sLs σ, sTn σ, (0, 0, allB J), (false, sA σ), (false, sA σ), [])
section W
variable {σ : SS} {N N' : Mem}
theorem sI_eq {q : Nat} (hq : q ≤ 1) {x0 x1 : Bool × LV} (a : Jr) (b : LL) (c : Nat → Nat) (d : LV) (e : TL) : sI (a, b, c, d, x0, x1, e) q = if q = 0 then x0 else x1 := rfl
theorem sI_same {q : Nat} (hq : q ≤ 1) : (if q = 0 then sI σ 0 else sI σ 1) = sI σ q := by
  rcases (by omega : q = 0 ∨ q = 1) with rfl | rfl <;> rfl
theorem XS.wT {T : TL} (h : XS σ N) (hT : TXX T N') (f : TXF N N') : XS (putT σ T) N' := by
  obtain ⟨h1, h2, h3, h4, h5, h6, h7⟩ := h
  refine ⟨h1.same (f.1 3 (by decide) (by decide)) (f.1 4 (by decide) (by decide)) (f.1 5 (by decide) (by decide)) (f.1 6 (by decide) (by decide)), h2.same (f.1 26 (by decide) (by decide)), h3.same (f.1 32 (by decide) (by decide)) (f.1 33 (by decide) (by decide)), h4.same (f.1 35 (by decide) (by decide)), h5.same (f.1 14 (by decide) (by decide)), fun q hq => ?_, hT⟩
  have e := f.1 (15 + q) (by omega) (by omega)
  rw [show sI (putT σ T) q = sI σ q from sI_same hq, e]
  exact ⟨(h6 q hq).1, fun k => ((h6 q hq).2 k).same e⟩
theorem YS.wT {T : TL} (h : YS σ N) (hT : TYY T N') (f : TYF N N') : YS (putT σ T) N' := by
  obtain ⟨h1, h2, h3, h4, h5, h6⟩ := h
  have e44 := f.1 44 (by decide) (by decide)
  have e45 := f.1 45 (by decide) (by decide)
  have e46 := f.1 46 (by decide) (by decide)
  refine ⟨h1.same (f.1 38 (by decide) (by decide)) (f.1 41 (by decide) (by decide)) (f.1 39 (by decide) (by decide)) (f.1 42 (by decide) (by decide)) (f.1 40 (by decide) (by decide)), h2.same (f.2.1 30 (by decide)) (f.1 57 (by decide) (by decide)) (f.1 58 (by decide) (by decide)), h3.same (f.1 43 (by decide) (by decide)), h4.same (by rw [e44]) (by rw [e45]) (by rw [e46]), fun q hq => ?_, hT⟩
  rw [show sI (putT σ T) q = sI σ q from sI_same hq, f.1 47 (by decide) (by decide)]
  exact ⟨(h5 q hq).1, fun k => ((h5 q hq).2 k).same (by rw [e44]) (by rw [e45]) (by rw [e46])⟩
theorem WS.wT {T : TL} (w : WS σ) (hT : WTx T) : WS (putT σ T) := ⟨w.1, w.2.1, w.2.2.1, w.2.2.2.1, fun q hq h => by rw [show sI (putT σ T) q = sI σ q from sI_same hq] at h ⊢; exact w.2.2.2.2.1 q hq h, hT⟩
theorem XS.wA {a : LV} (h : XS σ N) (hL : LX N' 14 a) (f : OC 14 N N') : XS (putA σ a) N' := by
  obtain ⟨h1, h2, h3, h4, h5, h6, h7⟩ := h
  refine ⟨h1.same (f.1 3 (by decide)) (f.1 4 (by decide)) (f.1 5 (by decide)) (f.1 6 (by decide)), h2.same (f.1 26 (by decide)), h3.same (f.1 32 (by decide)) (f.1 33 (by decide)), h4.same (f.1 35 (by decide)), hL, fun q hq => ?_, h7.same (f.1 1 (by decide)) (f.1 2 (by decide))⟩
  have e := f.1 (15 + q) (by omega)
  rw [show sI (putA σ a) q = sI σ q from sI_same hq, e]
  exact ⟨(h6 q hq).1, fun k => ((h6 q hq).2 k).same e⟩
theorem YS.wA {a : LV} (h : YS σ N) (hL : LY N' 0 a) (f : FY 0 N N') : YS (putA σ a) N' := by
  obtain ⟨h1, h2, h3, h4, h5, h6⟩ := h
  have e : ∀ c, c ≠ 44 → c ≠ 45 → c ≠ 46 → N'.1 c = N.1 c := f.1
  have e36 := e 36 (by decide) (by decide) (by decide)
  refine ⟨h1.same (e 38 (by decide) (by decide) (by decide)) (e 41 (by decide) (by decide) (by decide)) (e 39 (by decide) (by decide) (by decide)) (e 42 (by decide) (by decide) (by decide)) (e 40 (by decide) (by decide) (by decide)), h2.same (by rw [e36]) (e 57 (by decide) (by decide) (by decide)) (e 58 (by decide) (by decide) (by decide)), h3.same (e 43 (by decide) (by decide) (by decide)), hL, fun q hq => ?_, h6.same (by rw [e36]) (e 37 (by decide) (by decide) (by decide))⟩
  have o := f.2.1 (1 + q) (by omega)
  rw [show sI (putA σ a) q = sI σ q from sI_same hq, e 47 (by decide) (by decide) (by decide)]
  exact ⟨(h5 q hq).1, fun k => ((h5 q hq).2 k).same o.1 o.2.1 o.2.2⟩
theorem WS.wA {a : LV} (w : WS σ) (hV : WV (sJ σ) a) : WS (putA σ a) := ⟨w.1, w.2.1, w.2.2.1, hV, fun q hq h => by rw [show sI (putA σ a) q = sI σ q from sI_same hq] at h ⊢; exact w.2.2.2.2.1 q hq h, w.2.2.2.2.2⟩
theorem XS.wN {t : Nat → Nat} (h : XS σ N) (hT : TX t N') (f : OC 35 N N') : XS (putN σ t) N' := by
  obtain ⟨h1, h2, h3, h4, h5, h6, h7⟩ := h
  refine ⟨h1.same (f.1 3 (by decide)) (f.1 4 (by decide)) (f.1 5 (by decide)) (f.1 6 (by decide)), h2.same (f.1 26 (by decide)), h3.same (f.1 32 (by decide)) (f.1 33 (by decide)), hT, h5.same (f.1 14 (by decide)), fun q hq => ?_, h7.same (f.1 1 (by decide)) (f.1 2 (by decide))⟩
  have e := f.1 (15 + q) (by omega)
  rw [show sI (putN σ t) q = sI σ q from sI_same hq, e]
  exact ⟨(h6 q hq).1, fun k => ((h6 q hq).2 k).same e⟩
theorem YS.wN {t : Nat → Nat} (h : YS σ N) (hT : TY t N') (f : OC 43 N N') : YS (putN σ t) N' := by
  obtain ⟨h1, h2, h3, h4, h5, h6⟩ := h
  have e44 := f.1 44 (by decide)
  have e45 := f.1 45 (by decide)
  have e46 := f.1 46 (by decide)
  have e36 := f.1 36 (by decide)
  refine ⟨h1.same (f.1 38 (by decide)) (f.1 41 (by decide)) (f.1 39 (by decide)) (f.1 42 (by decide)) (f.1 40 (by decide)), h2.same (by rw [e36]) (f.1 57 (by decide)) (f.1 58 (by decide)), hT, h4.same (by rw [e44]) (by rw [e45]) (by rw [e46]), fun q hq => ?_, h6.same (by rw [e36]) (f.1 37 (by decide))⟩
  rw [show sI (putN σ t) q = sI σ q from sI_same hq, f.1 47 (by decide)]
  exact ⟨(h5 q hq).1, fun k => ((h5 q hq).2 k).same (by rw [e44]) (by rw [e45]) (by rw [e46])⟩
theorem WS.wN {t : Nat → Nat} (w : WS σ) (hT : WT t) : WS (putN σ t) := ⟨w.1, w.2.1, hT, w.2.2.2.1, fun q hq h => by rw [show sI (putN σ t) q = sI σ q from sI_same hq] at h ⊢; exact w.2.2.2.2.1 q hq h, w.2.2.2.2.2⟩
theorem XS.wL {L : LL} (h : XS σ N) (hL : XL L N') (f : XLF N N') : XS (putL σ L) N' := by
  obtain ⟨h1, h2, h3, h4, h5, h6, h7⟩ := h
  refine ⟨h1.same (f.1 3 (by decide) (by decide)) (f.1 4 (by decide) (by decide)) (f.1 5 (by decide) (by decide)) (f.1 6 (by decide) (by decide)), h2.same (f.1 26 (by decide) (by decide)), hL, h4.same (f.1 35 (by decide) (by decide)), h5.same (f.1 14 (by decide) (by decide)), fun q hq => ?_, h7.same (f.1 1 (by decide) (by decide)) (f.1 2 (by decide) (by decide))⟩
  have e := f.1 (15 + q) (by omega) (by omega)
  rw [show sI (putL σ L) q = sI σ q from sI_same hq, e]
  exact ⟨(h6 q hq).1, fun k => ((h6 q hq).2 k).same e⟩
theorem YS.wL {L : LL} (h : YS σ N) (hL : YL L N') (f : YLF N N') : YS (putL σ L) N' := by
  obtain ⟨h1, h2, h3, h4, h5, h6⟩ := h
  have e : ∀ c, c ≠ 36 → c ≠ 57 → c ≠ 58 → N'.1 c = N.1 c := f.1
  have e44 := e 44 (by decide) (by decide) (by decide)
  have e45 := e 45 (by decide) (by decide) (by decide)
  have e46 := e 46 (by decide) (by decide) (by decide)
  refine ⟨h1.same (e 38 (by decide) (by decide) (by decide)) (e 41 (by decide) (by decide) (by decide)) (e 39 (by decide) (by decide) (by decide)) (e 42 (by decide) (by decide) (by decide)) (e 40 (by decide) (by decide) (by decide)), hL, h3.same (e 43 (by decide) (by decide) (by decide)), h4.same (by rw [e44]) (by rw [e45]) (by rw [e46]), fun q hq => ?_, h6.same (f.2.1 2 (by decide)) (e 37 (by decide) (by decide) (by decide))⟩
  rw [show sI (putL σ L) q = sI σ q from sI_same hq, e 47 (by decide) (by decide) (by decide)]
  exact ⟨(h5 q hq).1, fun k => ((h5 q hq).2 k).same (by rw [e44]) (by rw [e45]) (by rw [e46])⟩
theorem WS.wL {L : LL} (w : WS σ) (hL : WL L) : WS (putL σ L) := ⟨w.1, hL, w.2.2.1, w.2.2.2.1, fun q hq h => by rw [show sI (putL σ L) q = sI σ q from sI_same hq] at h ⊢; exact w.2.2.2.2.1 q hq h, w.2.2.2.2.2⟩
theorem sI_wI {q p : Nat} {a : LV} (hq : q ≤ 1) (hp : p ≤ 1) : sI (putI σ q a) p = if p = q then (true, a) else sI σ p := by
  rcases (by omega : q = 0 ∨ q = 1) with rfl | rfl <;> rcases (by omega : p = 0 ∨ p = 1) with rfl | rfl <;> rfl
theorem XS.wI {q : Nat} {a : LV} (hq : q ≤ 1) (h : XS σ N) (hL : LX N' (15 + q) a) (h3' : N'.1 (15 + q) 3 = 1) (f : OC (15 + q) N N') : XS (putI σ q a) N' := by
  obtain ⟨h1, h2, h3, h4, h5, h6, h7⟩ := h
  refine ⟨h1.same (f.1 3 (by omega)) (f.1 4 (by omega)) (f.1 5 (by omega)) (f.1 6 (by omega)), h2.same (f.1 26 (by omega)), h3.same (f.1 32 (by omega)) (f.1 33 (by omega)), h4.same (f.1 35 (by omega)), h5.same (f.1 14 (by omega)), fun p hp => ?_, h7.same (f.1 1 (by omega)) (f.1 2 (by omega))⟩
  rw [sI_wI hq hp]
  by_cases e : p = q
  · subst e
    rw [if_pos rfl]
    exact ⟨h3', fun _ => hL⟩
  · have e' := f.1 (15 + p) (by omega)
    rw [if_neg e, e']
    exact ⟨(h6 p hp).1, fun k => ((h6 p hp).2 k).same e'⟩
theorem YS.wI {q : Nat} {a : LV} (hq : q ≤ 1) (h : YS σ N) (hL : LY N' (1 + q) a) (h3' : N'.1 47 q = 1) (f1 : ∀ j, j ≠ q → N'.1 47 j = N.1 47 j) (e : ∀ d, d ≠ 44 → d ≠ 45 → d ≠ 46 → d ≠ 47 → N'.1 d = N.1 d) (f3 : ∀ j, j ≠ 1 + q → N'.1 44 j = N.1 44 j ∧ N'.1 45 j = N.1 45 j ∧ N'.1 46 j = N.1 46 j) : YS (putI σ q a) N' := by
  obtain ⟨h1, h2, h3, h4, h5, h6⟩ := h
  have e36 := e 36 (by decide) (by decide) (by decide) (by decide)
  have o0 := f3 0 (by omega)
  refine ⟨h1.same (e 38 (by decide) (by decide) (by decide) (by decide)) (e 41 (by decide) (by decide) (by decide) (by decide)) (e 39 (by decide) (by decide) (by decide) (by decide)) (e 42 (by decide) (by decide) (by decide) (by decide)) (e 40 (by decide) (by decide) (by decide) (by decide)), h2.same (by rw [e36]) (e 57 (by decide) (by decide) (by decide) (by decide)) (e 58 (by decide) (by decide) (by decide) (by decide)), h3.same (e 43 (by decide) (by decide) (by decide) (by decide)), h4.same o0.1 o0.2.1 o0.2.2, fun p hp => ?_, h6.same (by rw [e36]) (e 37 (by decide) (by decide) (by decide) (by decide))⟩
  rw [sI_wI hq hp]
  by_cases c : p = q
  · subst c
    rw [if_pos rfl]
    exact ⟨h3', fun _ => hL⟩
  · have o := f3 (1 + p) (by omega)
    rw [if_neg c, f1 p c]
    exact ⟨(h5 p hp).1, fun k => ((h5 p hp).2 k).same o.1 o.2.1 o.2.2⟩
theorem WS.wI {q : Nat} {a : LV} (hq : q ≤ 1) (w : WS σ) (hV : WV (sJ σ) a) : WS (putI σ q a) := by
  refine ⟨w.1, w.2.1, w.2.2.1, w.2.2.2.1, fun p hp h => ?_, w.2.2.2.2.2⟩
  rw [sI_wI hq hp] at h ⊢
  by_cases e : p = q
  · rw [if_pos e]
    exact hV
  · rw [if_neg e] at h ⊢
    exact w.2.2.2.2.1 p hp h
end W
section CALLS
variable {F : Nat}
theorem c_type (hF : 4100 ≤ F) (y : Int64) (a2 : Int32) : CallOK (fun N => f_X9_type F N y a2) (fun N => f_X10_type F N y a2) := fun σ w => by
  obtain ⟨v, T', hT', a, b⟩ := type_pair (F := F) (by omega) w.2.2.2.2.2 y a2
  refine ⟨putT σ T', v, 0, w.wT hT', fun N hx => ?_, fun N S hy hst hS => ?_⟩
  · obtain ⟨N1, p1, p2, p3⟩ := a N hx.2.2.2.2.2.2
    exact ⟨N1, p1, hx.wT p2 p3, fun c hc => p3.1 c (by omega) (by omega), by rw [p3.2, Int64.add_zero], by rw [p3.2]⟩
  · obtain ⟨N1, p1, p2, p3⟩ := b N hy.2.2.2.2.2
    exact ⟨N1, S, p1, hy.wT p2 p3, fun c hc => p3.1 c (by omega) (by omega), by rw [p3.2.2, Int64.add_zero], by rw [p3.2.2], hst.fs (p3.2.1 23 (by decide)) (p3.1 50 (by decide) (by decide)), by omega⟩
theorem c_clear : CallOK (fun N => f_X9_clear N) (fun N => f_X10_clear N) := fun σ w => by
  refine ⟨putT σ [], nI (sT σ).length, 0, w.wT WTx.nil, fun N hx => ?_, fun N S hy hst hS => ?_⟩
  · obtain ⟨N1, p1, p2, p3⟩ := clearX_nat hx.2.2.2.2.2.2
    exact ⟨N1, p1, hx.wT p2 p3, fun c hc => p3.1 c (by omega) (by omega), by rw [p3.2, Int64.add_zero], by rw [p3.2]⟩
  · obtain ⟨N1, p1, p2, p3⟩ := clearY_nat hy.2.2.2.2.2
    exact ⟨N1, S, p1, hy.wT p2 p3, fun c hc => p3.1 c (by omega) (by omega), by rw [p3.2.2, Int64.add_zero], by rw [p3.2.2], hst.fs (p3.2.1 23 (by decide)) (p3.1 50 (by decide) (by decide)), by omega⟩
theorem allB_lt {J : Jr} (hW : WJ J) : allB J < 64 := by
  have := pow6 hW
  have := Nat.two_pow_pos (nT J)
  unfold allB
  omega
theorem c_journey (hF : 4100 ≤ F) : CallOK (fun N => f_X9_journey F N) (fun N => f_X10_journey F N) := fun σ w => by
  have hT := w.2.2.2.2.2
  cases hp : pAll (sT σ) with
  | inl j =>
    refine ⟨σ, jvl (sT σ), 0, w, fun N hx => ?_, fun N S hy hst hS => ?_⟩
    · obtain ⟨N1, p1, p2⟩ := journeyX_nat (F := F) hT hF hx.2.2.2.2.2.2
      rw [hp] at p2
      have p2 : QF N N1 := p2
      exact ⟨N1, p1, hx.off (fun c hc => p2.1 c (by omega)), fun c hc => p2.1 c (by omega), by rw [p2.2, Int64.add_zero], by rw [p2.2]⟩
    · obtain ⟨N1, p1, p2⟩ := journeyR_nat (F := F) hT hF hy.2.2.2.2.2
      rw [hp] at p2
      have p2 : RY N N1 := p2
      have hn : ∀ c, c ≠ 36 → c ≠ 38 → c ≠ 39 → c ≠ 40 → c ≠ 41 → c ≠ 42 → N1.1 c = N.1 c := p2.1
      have hy' : YS σ N1 := by
        obtain ⟨h1, h2, h3, h4, h5, h6⟩ := hy
        have hW := w.1.1
        have q6 := hW.1
        have q8 := hW.2.1
        have e44 := hn 44 (by decide) (by decide) (by decide) (by decide) (by decide) (by decide)
        have e45 := hn 45 (by decide) (by decide) (by decide) (by decide) (by decide) (by decide)
        have e46 := hn 46 (by decide) (by decide) (by decide) (by decide) (by decide) (by decide)
        have e47 := hn 47 (by decide) (by decide) (by decide) (by decide) (by decide) (by decide)
        refine ⟨⟨?_, ?_, fun i hi k hk => ?_, fun d hd k hk => ?_, fun i hi => ?_⟩, h2.same (p2.2.1 30 (by decide)) (hn 57 (by decide) (by decide) (by decide) (by decide) (by decide) (by decide)) (hn 58 (by decide) (by decide) (by decide) (by decide) (by decide) (by decide)), h3.same (hn 43 (by decide) (by decide) (by decide) (by decide) (by decide) (by decide)), h4.same (by rw [e44]) (by rw [e45]) (by rw [e46]), fun q hq => ⟨by rw [e47]; exact (h5 q hq).1, fun k => ((h5 q hq).2 k).same (by rw [e44]) (by rw [e45]) (by rw [e46])⟩, h6.same (p2.2.1 2 (by decide)) (hn 37 (by decide) (by decide) (by decide) (by decide) (by decide) (by decide))⟩
        · rw [p2.2.2.1]; exact h1.1
        · rw [p2.2.2.2.1]; exact h1.2.1
        · rw [p2.2.2.2.2.1 _ (by omega)]; exact h1.2.2.1 i hi k hk
        · rw [p2.2.2.2.2.2.2.1 _ (by omega)]; exact h1.2.2.2.1 d hd k hk
        · rw [p2.2.2.2.2.2.1 _ (by omega)]; exact h1.2.2.2.2 i hi
      exact ⟨N1, S, p1, hy', fun c hc => hn c (by omega) (by omega) (by omega) (by omega) (by omega) (by omega), by rw [p2.2.2.2.2.2.2.2, Int64.add_zero], by rw [p2.2.2.2.2.2.2.2], hst.fs (p2.2.1 23 (by decide)) (hn 50 (by decide) (by decide) (by decide) (by decide) (by decide) (by decide)), by omega⟩
  | inr q =>
    obtain ⟨hQ, hq⟩ := all_ok hp
    refine ⟨putJ σ q.2, jvl (sT σ), 0, ⟨hQ, w.2.1, w.2.2.1, ⟨Nat.zero_le _, okH_0, allB_lt hQ.1⟩, fun p hp' h => ?_, WTx.nil⟩, fun N hx => ?_, fun N S hy hst hS => ?_⟩
    · exfalso
      rcases (by omega : p = 0 ∨ p = 1) with rfl | rfl <;> cases h
    · obtain ⟨N1, p1, p2⟩ := journeyX_nat (F := F) hT hF hx.2.2.2.2.2.2
      rw [hp] at p2
      obtain ⟨⟨s1, s2, s3, s4, s5, s6⟩, f⟩ := p2
      refine ⟨N1, p1, ⟨s1, s6, hx.2.2.1.same (f.1 32 (by decide) (by decide)) (f.1 33 (by decide) (by decide)), hx.2.2.2.1.same (f.1 35 (by decide) (by decide)), s3, fun p hp' => ?_, s2⟩, fun c hc => f.1 c (by omega) (by omega), by rw [f.2, Int64.add_zero], by rw [f.2]⟩
      rcases (by omega : p = 0 ∨ p = 1) with rfl | rfl
      · exact ⟨s4, fun h => by cases h⟩
      · exact ⟨s5, fun h => by cases h⟩
    · obtain ⟨N1, p1, p2⟩ := journeyR_nat (F := F) hT hF hy.2.2.2.2.2
      rw [hp] at p2
      obtain ⟨⟨s1, s2, s3, s4, s5⟩, f⟩ := p2
      refine ⟨N1, S, p1, ⟨s1, hy.2.1.same (f.2.1 30 (by decide)) (f.1 57 (by decide)) (f.1 58 (by decide)), hy.2.2.1.same (f.1 43 (by decide)), s3, fun p hp' => ?_, s2⟩, fun c hc => f.1 c (by omega), by rw [f.2.2, Int64.add_zero], by rw [f.2.2], hst.fs (f.2.1 23 (by decide)) (f.1 50 (by decide)), by omega⟩
      rcases (by omega : p = 0 ∨ p = 1) with rfl | rfl
      · exact ⟨s4, fun h => by cases h⟩
      · exact ⟨s5, fun h => by cases h⟩
theorem c_tune (a1 a2 : Int32) : CallOK (fun N => f_X9_tune N a1 a2) (fun N => f_X10_tune N a1 a2) := fun σ w => by
  obtain ⟨v, t', hT', a, b⟩ := tune_pair w.2.2.1 a1 a2
  refine ⟨putN σ t', v, 0, w.wN hT', fun N hx => ?_, fun N S hy hst hS => ?_⟩
  · obtain ⟨N1, p1, p2, p3⟩ := a N hx.2.2.2.1
    exact ⟨N1, p1, hx.wN p2 p3, fun c hc => p3.1 c (by omega), by rw [p3.2, Int64.add_zero], by rw [p3.2]⟩
  · obtain ⟨N1, p1, p2, p3⟩ := b N hy.2.2.1
    exact ⟨N1, S, p1, hy.wN p2 p3, fun c hc => p3.1 c (by omega), by rw [p3.2, Int64.add_zero], by rw [p3.2], hst.fs (by rw [p3.1 36 (by decide)]) (p3.1 50 (by decide)), by omega⟩
theorem FY.stp {N N' : Mem} {k S : Nat} (f : FY k N N') (h : STP N S) : STP N' S := h.fs (by rw [f.1 36 (by decide) (by decide) (by decide)]) (f.1 50 (by decide) (by decide) (by decide))
theorem c_packs (a1 : Int32) : CallOK (fun N => f_X9_packs N a1) (fun N => f_X10_packs N a1) := fun σ w => by
  refine ⟨putA σ (0, 0, st (sJ σ) a1), nI (sA σ).2.2, 0, w.wA (wv_packs w.1.1 a1), fun N hx => ?_, fun N S hy hst hS => ?_⟩
  · obtain ⟨N1, p1, p2, p3, -⟩ := packsX_nat w.1.1 (a1 := a1) hx.1 hx.2.2.2.2.1
    exact ⟨N1, p1, hx.wA p2 p3, fun c hc => p3.1 c (by omega), by rw [p3.2, Int64.add_zero], by rw [p3.2]⟩
  · obtain ⟨N1, p1, p2, p3⟩ := packsR_nat w.1.1 (a1 := a1) hy.1 hy.2.2.2.1
    exact ⟨N1, S, p1, hy.wA p2 p3, fun c hc => p3.1 c (by omega) (by omega) (by omega), by rw [p3.2.2, Int64.add_zero], by rw [p3.2.2], p3.stp hst, by omega⟩
theorem c_live (hF : 4100 ≤ F) (a1 a2 a3 a4 : Int32) : CallOK (fun N => f_X9_live F N a1 a2 a3 a4) (fun N => f_X10_live F N a1 a2 a3 a4) := fun σ w => by
  obtain ⟨v, a', hV', a, b⟩ := live_pair (F := F) w.1.1 (by omega) w.2.2.2.1 a1 a2 a3 a4
  refine ⟨putA σ a', v, 0, w.wA hV', fun N hx => ?_, fun N S hy hst hS => ?_⟩
  · obtain ⟨N1, p1, p2, p3⟩ := a N hx.1 hx.2.2.2.2.1
    exact ⟨N1, p1, hx.wA p2 p3, fun c hc => p3.1 c (by omega), by rw [p3.2, Int64.add_zero], by rw [p3.2]⟩
  · obtain ⟨N1, p1, p2, p3⟩ := b N hy.1 hy.2.2.2.1
    exact ⟨N1, S, p1, hy.wA p2 p3, fun c hc => p3.1 c (by omega) (by omega) (by omega), by rw [p3.2.2, Int64.add_zero], by rw [p3.2.2], p3.stp hst, by omega⟩
theorem stay {σ : SS} {v : Int32} {fX fY : Mem → Option (Int32 × Mem)} (w : WS σ) (hx : ∀ N, XS σ N → fX N = some (v, N)) (hy : ∀ N, YS σ N → fY N = some (v, N)) : ∃ σ' v dt, WS σ' ∧ XR σ σ' v dt fX ∧ YR σ σ' v dt fY := ⟨σ, v, 0, w, fun N h => ⟨N, hx N h, h, fun _ _ => rfl, by rw [Int64.add_zero], rfl⟩, fun N S h hst hS => ⟨N, S, hy N h, h, fun _ _ => rfl, by rw [Int64.add_zero], rfl, hst, by omega⟩⟩
theorem c_list (hF : 4100 ≤ F) (a1 a2 : Int32) : CallOK (fun N => f_X9_list F N a1 a2) (fun N => f_X10_list N a1 a2) := fun σ w => by
  rcases range_any a1 (n := 99) (by decide) with ⟨a, ha, rfl⟩ | h0 | ⟨h0, h1, -⟩
  · have i1 : ∀ N, f_X10_in N (nI a) (0 : Int32) (99 : Int32) = 1 := fun N => inR_yes (n := 99) (by decide) ha
    have n0 : ¬ nI a < (0 : Int32) := nI_pos (by omega)
    have n9 : ¬ (99 : Int32) < nI a := by
      have : (nI 99 < nI a) = (99 < a) := ltI (by decide) (by omega)
      intro h
      have := this.mp h
      omega
    rcases range_any a2 (n := a) (by omega) with ⟨b, hb, rfl⟩ | h0 | ⟨h0, h1, h2⟩
    · by_cases c : (sLs σ).length < 20
      · refine ⟨putL σ (sLs σ ++ [(a, b)]), nI ((sLs σ).length + 1), 0, w.wL (w.2.1.add c ha hb), fun N hx => ?_, fun N S hy hst hS => ?_⟩
        · obtain ⟨N1, p1, p2, p3⟩ := listX_good (F := F) w.2.1 hF ha hb c hx.2.2.1
          exact ⟨N1, p1, hx.wL p2 p3, fun c hc => p3.1 c (by omega) (by omega), by rw [p3.2, Int64.add_zero], by rw [p3.2]⟩
        · obtain ⟨N1, p1, p2, p3⟩ := listR_good ha hb c hy.2.1
          exact ⟨N1, S, p1, hy.wL p2 p3, fun c hc => p3.1 c (by omega) (by omega) (by omega), by rw [p3.2.2, Int64.add_zero], by rw [p3.2.2], hst.fs (p3.2.1 23 (by decide)) (p3.1 50 (by decide) (by decide) (by decide)), by omega⟩
      · have c20 : (sLs σ).length = 20 := by
          have := w.2.1.1
          omega
        exact stay w (fun N hx => listX_full ha hb c20 hx.2.2.1) (fun N hy => listR_full ha hb c20 hy.2.1)
    · refine stay (v := -1) w (fun N _ => ?_) (fun N _ => ?_)
      · unfold f_X9_list
        rw [if_neg n0, if_neg n9, if_pos h0]
      · have i2 : f_X10_in N a2 (0 : Int32) (nI a) = 0 := if_pos h0
        unfold f_X10_list
        rw [i1, i2]
        rfl
    · refine stay (v := -1) w (fun N _ => ?_) (fun N _ => ?_)
      · unfold f_X9_list
        rw [if_neg n0, if_neg n9, if_neg h0, if_neg h2]
      · have i2 : f_X10_in N a2 (0 : Int32) (nI a) = 0 := by
          unfold f_X10_in
          rw [if_neg h0, if_pos h1]
        unfold f_X10_list
        rw [i1, i2]
        rfl
  · refine stay (v := -1) w (fun N _ => ?_) (fun N _ => ?_)
    · unfold f_X9_list
      rw [if_pos h0]
    · have i1 : f_X10_in N a1 (0 : Int32) (99 : Int32) = 0 := if_pos h0
      unfold f_X10_list
      rw [i1]
      rfl
  · have h1 : (99 : Int32) < a1 := h1
    refine stay (v := -1) w (fun N _ => ?_) (fun N _ => ?_)
    · unfold f_X9_list
      rw [if_neg h0, if_pos h1]
    · have i1 : f_X10_in N a1 (0 : Int32) (99 : Int32) = 0 := by
        unfold f_X10_in
        rw [if_neg h0, if_pos h1]
      unfold f_X10_list
      rw [i1]
      rfl
theorem c_use (a1 a2 : Int32) : CallOK (fun N => f_X9_use N a1 a2) (fun N => f_X10_use N a1 a2) := fun σ w => by
  obtain ⟨v, t, a, b⟩ := use_pair (J := sJ σ) w.1.1 (x := (sA σ).2.1) w.2.2.2.1.2.1.1 a1 a2
  refine ⟨σ, v, t, w, fun N hx => ?_, fun N S hy hst hS => ?_⟩
  · obtain ⟨N1, p1, p2⟩ := a N hx.1 hx.2.2.2.2.1.2.1
    exact ⟨N1, p1, hx.off (fun c _ => by rw [p2.1]), fun c _ => by rw [p2.1], p2.2.1, by rw [p2.2.2 36 (by decide)]⟩
  · obtain ⟨N1, p1, p2⟩ := b N hy.1 hy.2.2.2.1.2.1
    exact ⟨N1, S, p1, hy.off ⟨fun c _ => by rw [p2.1], by rw [p2.1], by rw [p2.1]⟩, fun c _ => by rw [p2.1], p2.2.1, by rw [p2.2.2 34 (by decide)], hst.fs (by rw [p2.1]) (by rw [p2.1]), by omega⟩
theorem c_keep (a1 : Int32) : CallOK (fun N => f_X9_keep N a1) (fun N => f_X10_keep N a1) := fun σ w => by
  rcases bit_any a1 with ⟨q, hq, rfl⟩ | hno
  · refine ⟨putI σ q (sA σ), nI (sA σ).1, 0, w.wI hq w.2.2.2.1, fun N hx => ?_, fun N S hy hst hS => ?_⟩
    · obtain ⟨N1, p1, p2, p3, p4⟩ := keepX_nat hq hx.2.2.2.2.1
      exact ⟨N1, p1, hx.wI hq p2 p3 p4, fun c hc => p4.1 c (by omega), by rw [p4.2, Int64.add_zero], by rw [p4.2]⟩
    · obtain ⟨N1, p1, p2, p3, p4, p5, p6, p7⟩ := keepR_nat hq hy.2.2.2.1
      exact ⟨N1, S, p1, hy.wI hq p2 p3 p4 p5 p6, fun c hc => p5 c (by omega) (by omega) (by omega) (by omega), by rw [p7, Int64.add_zero], by rw [p7], hst.fs (by rw [p5 36 (by decide) (by decide) (by decide) (by decide)]) (p5 50 (by decide) (by decide) (by decide) (by decide)), by omega⟩
  · exact stay (v := -1) w (fun N _ => (keep_bad hno N).1) (fun N _ => (keep_bad hno N).2.1)
theorem c_back (a1 : Int32) : CallOK (fun N => f_X9_back N a1) (fun N => f_X10_back N a1) := fun σ w => by
  rcases bit_any a1 with ⟨q, hq, rfl⟩ | hno
  · cases hk : (sI σ q).1
    · refine stay (v := -2) w (fun N hx => ?_) (fun N hy => ?_)
      · have := backX_nat hq (hx.2.2.2.2.2.1 q hq).1 (hx.2.2.2.2.2.1 q hq).2
        rw [hk] at this
        exact this
      · have := backR_nat hq (hy.2.2.2.2.1 q hq).1 (hy.2.2.2.2.1 q hq).2
        rw [hk] at this
        exact this
    · refine ⟨putA σ (sI σ q).2, nI (sI σ q).2.1, 0, w.wA (w.2.2.2.2.1 q hq hk), fun N hx => ?_, fun N S hy hst hS => ?_⟩
      · have := backX_nat hq (hx.2.2.2.2.2.1 q hq).1 (hx.2.2.2.2.2.1 q hq).2
        rw [hk, if_pos rfl] at this
        obtain ⟨N1, p1, p2, p3⟩ := this
        exact ⟨N1, p1, hx.wA p2 p3, fun c hc => p3.1 c (by omega), by rw [p3.2, Int64.add_zero], by rw [p3.2]⟩
      · have := backR_nat hq (hy.2.2.2.2.1 q hq).1 (hy.2.2.2.2.1 q hq).2
        rw [hk, if_pos rfl] at this
        obtain ⟨N1, p1, p2, p3⟩ := this
        exact ⟨N1, S, p1, hy.wA p2 p3, fun c hc => p3.1 c (by omega) (by omega) (by omega), by rw [p3.2.2, Int64.add_zero], by rw [p3.2.2], p3.stp hst, by omega⟩
  · exact stay (v := -1) w (fun N _ => (keep_bad hno N).2.2.1) (fun N _ => (keep_bad hno N).2.2.2)
-- questions
theorem a_thing (a1 a2 : Int32) : AskOK (fun N => f_X9_thing N a1 a2) (fun N => f_X10_thing N a1 a2) := fun σ w => by
  obtain ⟨v, a, b⟩ := thing_pair (J := sJ σ) w.1.1 (x := (sA σ).2.1) w.2.2.2.1.2.1.1 a1 a2
  exact ⟨v, fun N hx => a N hx.1 hx.2.2.2.2.1.2.1, fun N hy => b N hy.1 hy.2.2.2.1.2.1⟩
theorem a_goes (a1 a2 : Int32) : AskOK (fun N => f_X9_goes N a1 a2) (fun N => f_X10_goes N a1 a2) := fun σ w => by
  obtain ⟨v, a, b⟩ := goes_pair (J := sJ σ) w.1.1 a1 a2
  exact ⟨v, fun N hx => a N hx.1, fun N hy => b N hy.1⟩
theorem a_day (a1 a2 : Int32) : AskOK (fun N => f_X9_day N a1 a2) (fun N => f_X10_day N a1 a2) := fun σ w => by
  obtain ⟨v, a, b⟩ := day_pair (J := sJ σ) w.1.1 a1 a2
  exact ⟨v, fun N hx => a N hx.1, fun N hy => b N hy.1⟩
theorem a_now (hF : 4100 ≤ F) (a1 : Int32) : AskOK (fun N => f_X9_now F N a1) (fun N => f_X10_now F N a1) := fun σ w => ⟨nowV (sJ σ) (sA σ) a1, fun N hx => nowX_nat w.1.1 (by omega) w.2.2.2.1 hx.1 hx.2.2.2.2.1 a1, fun N hy => nowR_nat w.1.1 (by omega) w.2.2.2.1 hy.1 hy.2.2.2.1 a1⟩
theorem a_allGo (hF : 4100 ≤ F) (a1 : Int32) : AskOK (fun N => f_X9_allGo F N a1) (fun N => f_X10_allGo F N a1) := fun σ w => by
  obtain ⟨v, a, b⟩ := allGo_pair (J := sJ σ) w.1.1 w.1.2.1 hF a1
  exact ⟨v, fun N hx => a N hx.1, fun N hy => b N hy.1⟩
theorem a_span (hF : 4100 ≤ F) (a1 : Int32) : AskOK (fun N => f_X9_span F N a1) (fun N => f_X10_span F N a1) := fun σ w => by
  obtain ⟨v, a, b⟩ := span_pair (L := sLs σ) hF w.2.1 a1
  exact ⟨v, fun N hx => a N hx.2.2.1, fun N hy => b N hy.2.1⟩
theorem a_count (hF : 4100 ≤ F) (a1 : Int32) : AskOK (fun N => f_X9_count F N a1) (fun N => f_X10_count F N a1) := fun σ w => ⟨cntV (sJ σ) (sA σ) (sLs σ) (sT σ).length a1, fun N hx => countX_nat w.1.1 (by omega) w.2.2.2.1 hx.1 hx.2.2.2.2.1 hx.2.2.1 hx.2.2.2.2.2.2.1 a1, fun N hy => countR_nat w.1.1 (by omega) w.2.2.2.1 hy.1 hy.2.2.2.1 hy.2.1 hy.2.2.2.2.2.1 a1⟩
end CALLS
