-- part 93: the reference's reader: a thing
def HD (J : Jr) (N : Mem) : Prop := N.1 38 1 = nI (nT J) ∧ N.1 41 1 = nI (nD J) ∧ (∀ i, i < nT J → ∀ k, k < 8 → N.1 39 (48 + 8 * i + k) = nI (tf J i k)) ∧ (∀ d, d < nD J → ∀ k, k < 4 → N.1 42 (32 + 4 * d + k) = nI (df J d k)) ∧ (∀ i, i < nT J → N.1 40 (6 + i) = nI (ap J i)) ∧ N.1 36 14 = nI (unsTo J (nD J))
def RY (N N' : Mem) : Prop := (∀ c, c ≠ 36 → c ≠ 38 → c ≠ 39 → c ≠ 40 → c ≠ 41 → c ≠ 42 → N'.1 c = N.1 c) ∧ (∀ k, k < 9 ∨ 14 < k → N'.1 36 k = N.1 36 k) ∧ N'.1 38 0 = N.1 38 0 ∧ N'.1 41 0 = N.1 41 0 ∧ (∀ k, k < 48 → N'.1 39 k = N.1 39 k) ∧ (∀ k, k < 6 → N'.1 40 k = N.1 40 k) ∧ (∀ k, k < 32 → N'.1 42 k = N.1 42 k) ∧ N'.2 = N.2
theorem RY.refl {N : Mem} : RY N N := ⟨fun _ _ _ _ _ _ _ => rfl, fun _ _ => rfl, rfl, rfl, fun _ _ => rfl, fun _ _ => rfl, fun _ _ => rfl, rfl⟩
theorem RY.trans {A B C : Mem} (h1 : RY A B) (h2 : RY B C) : RY A C := ⟨fun c a b d e f g => (h2.1 c a b d e f g).trans (h1.1 c a b d e f g), fun k a => (h2.2.1 k a).trans (h1.2.1 k a), h2.2.2.1.trans h1.2.2.1, h2.2.2.2.1.trans h1.2.2.2.1, fun k a => (h2.2.2.2.2.1 k a).trans (h1.2.2.2.2.1 k a), fun k a => (h2.2.2.2.2.2.1 k a).trans (h1.2.2.2.2.2.1 k a), fun k a => (h2.2.2.2.2.2.2.1 k a).trans (h1.2.2.2.2.2.2.1 k a), h2.2.2.2.2.2.2.2.trans h1.2.2.2.2.2.2.2⟩
theorem DF.rg {N N' : Mem} (h : DF N N') : RY N N' := ⟨fun c a _ _ _ _ _ => h.1 c a, fun k hk => h.2.1 k (by omega), by rw [h.1 38 (by decide)], by rw [h.1 41 (by decide)], fun _ _ => by rw [h.1 39 (by decide)], fun _ _ => by rw [h.1 40 (by decide)], fun _ _ => by rw [h.1 42 (by decide)], h.2.2⟩
theorem RY.set {N : Mem} {c k : Nat} {x : Int32} (h : (c = 38 ∧ k = 1) ∨ (c = 41 ∧ k = 1) ∨ (c = 39 ∧ 48 ≤ k) ∨ (c = 40 ∧ 6 ≤ k) ∨ (c = 42 ∧ 32 ≤ k) ∨ (c = 36 ∧ 9 ≤ k ∧ k ≤ 14)) : RY N (setI N c k x) := by
  refine ⟨fun d h1 h2 h3 h4 h5 h6 => setI_ne (by omega), fun j hj => ?_, ?_, ?_, fun j hj => ?_, fun j hj => ?_, fun j hj => ?_, rfl⟩
  · by_cases e : c = 36
    · subst e; exact setI_nk (by omega)
    · rw [setI_ne (fun z => e z.symm)]
  · by_cases e : c = 38
    · subst e; exact setI_nk (by omega)
    · rw [setI_ne (fun z => e z.symm)]
  · by_cases e : c = 41
    · subst e; exact setI_nk (by omega)
    · rw [setI_ne (fun z => e z.symm)]
  · by_cases e : c = 39
    · subst e; exact setI_nk (by omega)
    · rw [setI_ne (fun z => e z.symm)]
  · by_cases e : c = 40
    · subst e; exact setI_nk (by omega)
    · rw [setI_ne (fun z => e z.symm)]
  · by_cases e : c = 42
    · subst e; exact setI_nk (by omega)
    · rw [setI_ne (fun z => e z.symm)]
theorem ST.same {T : TL} {s : Nat ⊕ Nat} {N N' : Mem} (h : ST T s N) (e6 : N'.1 36 = N.1 36) (e7 : N'.1 37 = N.1 37) : ST T s N' := by
  cases s with
  | inl j =>
    obtain ⟨⟨h1, h2⟩, h3⟩ := h
    exact ⟨⟨by rw [e6]; exact h1, fun i hi => by rw [e7]; exact h2 i hi⟩, by rw [e6]; exact h3⟩
  | inr k =>
    obtain ⟨⟨h1, h2⟩, h3, h4, h5, h6, h7⟩ := h
    exact ⟨⟨by rw [e6]; exact h1, fun i hi => by rw [e7]; exact h2 i hi⟩, by rw [e6]; exact h3, by rw [e6]; exact h4, by rw [e6]; exact h5, by rw [e6]; exact h6, fun c => by rw [e6]; exact h7 c⟩
theorem ST.set {T : TL} {s : Nat ⊕ Nat} {N : Mem} {c k : Nat} {x : Int32} (h : ST T s N) (h6 : c ≠ 36) (h7 : c ≠ 37) : ST T s (setI N c k x) := h.same (setI_ne (fun e => h6 e.symm)) (setI_ne (fun e => h7 e.symm))
theorem HD.df {J : Jr} {N N' : Mem} (h : HD J N) (f : DF N N') : HD J N' := by
  obtain ⟨a1, a2, a3, a4, a5, a6⟩ := h
  refine ⟨?_, ?_, ?_, ?_, ?_, ?_⟩
  · rw [f.1 38 (by decide)]; exact a1
  · rw [f.1 41 (by decide)]; exact a2
  · rw [f.1 39 (by decide)]; exact a3
  · rw [f.1 42 (by decide)]; exact a4
  · rw [f.1 40 (by decide)]; exact a5
  · rw [f.2.1 14 (by decide)]; exact a6
theorem HD.s39 {J : Jr} {N : Mem} (h : HD J N) {a : Nat} {x : Int32} (ha : 48 + 8 * nT J ≤ a) : HD J (setI N 39 a x) := by
  obtain ⟨a1, a2, a3, a4, a5, a6⟩ := h
  refine ⟨?_, ?_, fun i hi k hk => ?_, ?_, ?_, ?_⟩
  · rw [setI_ne (by decide)]; exact a1
  · rw [setI_ne (by decide)]; exact a2
  · rw [setI_nk (by omega)]; exact a3 i hi k hk
  · rw [setI_ne (by decide)]; exact a4
  · rw [setI_ne (by decide)]; exact a5
  · rw [setI_ne (by decide)]; exact a6
section TH
variable {J : Jr} {T : TL} {F : Nat}
theorem th_fin {N : Mem} {v : Nat → Nat} (h : HD J N) (hv : ∀ j, j < 8 → N.1 39 (48 + 8 * nT J + j) = nI (v j)) : HD (addTh J v) (setI (setI N 40 (6 + nT J) 0) 38 1 (nI (nT J + 1))) := by
  obtain ⟨a1, a2, a3, a4, a5, a6⟩ := h
  refine ⟨setI_at, ?_, fun i hi k hk => ?_, ?_, fun i hi => ?_, ?_⟩
  · rw [setI_ne (by decide), setI_ne (by decide)]; exact a2
  · rw [setI_ne (by decide), setI_ne (by decide)]
    have hi : i < nT J + 1 := hi
    by_cases e : i = nT J
    · subst e
      rw [addTh_at]
      exact hv k hk
    · rw [addTh_ne e]
      exact a3 i (by omega) k hk
  · rw [setI_ne (by decide), setI_ne (by decide)]; exact a4
  · rw [setI_ne (by decide)]
    have hi : i < nT J + 1 := hi
    show _ = nI (if i = nT J then 0 else ap J i)
    by_cases e : i = nT J
    · subst e
      rw [setI_at, if_pos rfl]
      rfl
    · rw [if_neg e, setI_nk (by omega)]
      exact a5 i (by omega)
  · rw [setI_ne (by decide), setI_ne (by decide), unsTo_congr (J := J) (J' := addTh J v) (nD (addTh J v)) (fun _ _ => rfl)]
    exact a6
def s5 (T : TL) (k : Nat) : Nat ⊕ Nat := nst T 0 99 (nst T 1 99 (nst T 1 99 (nst T 0 9 (nst T 0 9 (.inr (k + 1))))))
def thS (T : TL) (k : Nat) : Nat ⊕ Nat := if tc T k = 2 then s5 T k else ost T 3 (nst T 1 2 (s5 T k))
theorem nst_inv {lo hi e : Nat} {s : Nat ⊕ Nat} (h : nst T lo hi s = .inr e) : ∃ k, s = .inr k ∧ (100 + lo ≤ tc T k ∧ tc T k ≤ 100 + hi) ∧ e = k + 1 := by
  cases s with
  | inl j => cases h
  | inr k =>
    rw [nst_r] at h
    by_cases c : 100 + lo ≤ tc T k ∧ tc T k ≤ 100 + hi
    · rw [if_pos c] at h
      cases h
      exact ⟨k, rfl, c, rfl⟩
    · rw [if_neg c] at h
      cases h
theorem s5_inv {k e : Nat} (h : s5 T k = .inr e) : (100 + 0 ≤ tc T (k + 1) ∧ tc T (k + 1) ≤ 100 + 9) ∧ (100 + 0 ≤ tc T (k + 2) ∧ tc T (k + 2) ≤ 100 + 9) ∧ (100 + 1 ≤ tc T (k + 3) ∧ tc T (k + 3) ≤ 100 + 99) ∧ (100 + 1 ≤ tc T (k + 4) ∧ tc T (k + 4) ≤ 100 + 99) ∧ (100 + 0 ≤ tc T (k + 5) ∧ tc T (k + 5) ≤ 100 + 99) ∧ e = k + 6 := by
  obtain ⟨k5, e5, c5, rfl⟩ := nst_inv h
  obtain ⟨k4, e4, c4, rfl⟩ := nst_inv e5
  obtain ⟨k3, e3, c3, rfl⟩ := nst_inv e4
  obtain ⟨k2, e2, c2, rfl⟩ := nst_inv e3
  obtain ⟨k1, e1, c1, rfl⟩ := nst_inv e2
  cases e1
  exact ⟨c1, c2, c3, c4, c5, rfl⟩
theorem th145_nat {N : Mem} {n : Nat} {t : Int32} (hn : n < 6) (h : N.1 38 1 = nI n) : f_X10_readThing_145 F t (nI (48 + 8 * n + 7)) N = some (setI (setI (setI N 39 (48 + 8 * n + 7) t) 40 (6 + n) 0) 38 1 (nI (n + 1))) := by
  have e1 : (setI N 39 (48 + 8 * n + 7) t).1 38 1 = nI n := by rw [setI_ne (by decide)]; exact h
  have e2 : (setI (setI N 39 (48 + 8 * n + 7) t) 40 (6 + n) (nI 0)).1 38 1 = nI n := by rw [setI_ne (by decide)]; exact e1
  unfold f_X10_readThing_145
  simp only [vlet]
  simp (disch := omega) only [lit, ltI, leI, eqI, addI, mulI, subI, clI, ckI, if_pos, if_neg, if_true, if_false, Option.bind_some, b2_0, b2_n0, b2_1, b2_n1, Bool.true_eq_false, Bool.false_eq_true, b2_t, b2_f, e1, e2]
/-- the reference's five numbers of a thing -/
theorem th5_nat (hT : WTx T) (hF : 600 ≤ F) {N : Mem} {k w : Nat} (h6 : nT J < 6) (hst : ST T (.inr (k + 1)) N) (hH : HD J N) : ∃ N5, f_X10_readThing F N (nI w) = (if nI w = (2 : Int32) then f_X10_readThing_118 F (nI w) (nI (48 + 8 * nT J)) (0 : Int32) (nI (48 + 8 * nT J + 6)) N5 else (f_X10_number F N5 (1 : Int32) (2 : Int32)).bind fun p26 => f_X10_readThing_118 F (nI w) (nI (48 + 8 * nT J)) p26.1 (nI (48 + 8 * nT J + 6)) p26.2) ∧ ST T (s5 T k) N5 ∧ RY N N5 ∧ HD J N5 ∧ (∀ e, s5 T k = .inr e → N5.1 39 (48 + 8 * nT J) = nI w ∧ ∀ j, 1 ≤ j → j ≤ 5 → N5.1 39 (48 + 8 * nT J + j) = nI (tc T (k + j) - 100)) := by
  have st0 := hst.set (c := 39) (k := 48 + 8 * nT J) (x := nI w) (by decide) (by decide)
  have hd0 := hH.s39 (a := 48 + 8 * nT J) (x := nI w) (Nat.le_refl _)
  have r0 : RY N (setI N 39 (48 + 8 * nT J) (nI w)) := RY.set (by omega)
  have v0 : (setI N 39 (48 + 8 * nT J) (nI w)).1 39 (48 + 8 * nT J) = nI w := setI_at
  unfold f_X10_readThing
  simp only [vlet]
  rw [if_pos (by decide), show (1 : Int32).toNatClampNeg = 1 from rfl, hH.1, show (48 : Int32) + (8 : Int32) * nI (nT J) = nI (48 + 8 * nT J) by rw [show (8 : Int32) * nI (nT J) = nI (8 * nT J) from mulI 8 _]; exact addI 48 _]
  rw [ckI (by omega) (by decide), if_pos rfl, clI (by omega)]
  generalize setI N 39 (48 + 8 * nT J) (nI w) = N0 at st0 hd0 r0 v0 ⊢
  obtain ⟨x1, M1, e1, sm1, d1, ok1⟩ := number_nat (F := F) hT hF st0 (lo := 0) (hi := 9) (by decide) (by decide)
  have e1 : f_X10_number F N0 (0 : Int32) (9 : Int32) = some (x1, M1) := e1
  rw [e1, Option.bind_some, show nI (48 + 8 * nT J) + (1 : Int32) = nI (48 + 8 * nT J + 1) from addI _ 1, ckI (i := 48 + 8 * nT J + 1) (by omega) (by decide), if_pos rfl, clI (n := 48 + 8 * nT J + 1) (by omega)]
  have st1 := sm1.set (c := 39) (k := 48 + 8 * nT J + 1) (x := x1) (by decide) (by decide)
  have hd1 := (hd0.df d1).s39 (a := 48 + 8 * nT J + 1) (x := x1) (by omega)
  have r1 : RY N (setI M1 39 (48 + 8 * nT J + 1) x1) := r0.trans (d1.rg.trans (RY.set (by omega)))
  have w1 : (setI M1 39 (48 + 8 * nT J + 1) x1).1 39 (48 + 8 * nT J + 1) = x1 := setI_at
  have k1 : ∀ a, a ≠ 48 + 8 * nT J + 1 → (setI M1 39 (48 + 8 * nT J + 1) x1).1 39 a = N0.1 39 a := fun a ha => by rw [setI_nk ha, d1.1 39 (by decide)]
  generalize setI M1 39 (48 + 8 * nT J + 1) x1 = N1 at st1 hd1 r1 w1 k1 ⊢
  obtain ⟨x2, M2, e2, sm2, d2, ok2⟩ := number_nat (F := F) hT hF st1 (lo := 0) (hi := 9) (by decide) (by decide)
  have e2 : f_X10_number F N1 (0 : Int32) (9 : Int32) = some (x2, M2) := e2
  rw [e2, Option.bind_some, show nI (48 + 8 * nT J) + (2 : Int32) = nI (48 + 8 * nT J + 2) from addI _ 2, ckI (i := 48 + 8 * nT J + 2) (by omega) (by decide), if_pos rfl, clI (n := 48 + 8 * nT J + 2) (by omega)]
  have st2 := sm2.set (c := 39) (k := 48 + 8 * nT J + 2) (x := x2) (by decide) (by decide)
  have hd2 := (hd1.df d2).s39 (a := 48 + 8 * nT J + 2) (x := x2) (by omega)
  have r2 : RY N (setI M2 39 (48 + 8 * nT J + 2) x2) := r1.trans (d2.rg.trans (RY.set (by omega)))
  have w2 : (setI M2 39 (48 + 8 * nT J + 2) x2).1 39 (48 + 8 * nT J + 2) = x2 := setI_at
  have k2 : ∀ a, a ≠ 48 + 8 * nT J + 2 → (setI M2 39 (48 + 8 * nT J + 2) x2).1 39 a = N1.1 39 a := fun a ha => by rw [setI_nk ha, d2.1 39 (by decide)]
  generalize setI M2 39 (48 + 8 * nT J + 2) x2 = N2 at st2 hd2 r2 w2 k2 ⊢
  obtain ⟨x3, M3, e3, sm3, d3, ok3⟩ := number_nat (F := F) hT hF st2 (lo := 1) (hi := 99) (by decide) (by decide)
  have e3 : f_X10_number F N2 (1 : Int32) (99 : Int32) = some (x3, M3) := e3
  rw [e3, Option.bind_some, show nI (48 + 8 * nT J) + (3 : Int32) = nI (48 + 8 * nT J + 3) from addI _ 3, ckI (i := 48 + 8 * nT J + 3) (by omega) (by decide), if_pos rfl, clI (n := 48 + 8 * nT J + 3) (by omega)]
  have st3 := sm3.set (c := 39) (k := 48 + 8 * nT J + 3) (x := x3) (by decide) (by decide)
  have hd3 := (hd2.df d3).s39 (a := 48 + 8 * nT J + 3) (x := x3) (by omega)
  have r3 : RY N (setI M3 39 (48 + 8 * nT J + 3) x3) := r2.trans (d3.rg.trans (RY.set (by omega)))
  have w3 : (setI M3 39 (48 + 8 * nT J + 3) x3).1 39 (48 + 8 * nT J + 3) = x3 := setI_at
  have k3 : ∀ a, a ≠ 48 + 8 * nT J + 3 → (setI M3 39 (48 + 8 * nT J + 3) x3).1 39 a = N2.1 39 a := fun a ha => by rw [setI_nk ha, d3.1 39 (by decide)]
  generalize setI M3 39 (48 + 8 * nT J + 3) x3 = N3 at st3 hd3 r3 w3 k3 ⊢
  obtain ⟨x4, M4, e4, sm4, d4, ok4⟩ := number_nat (F := F) hT hF st3 (lo := 1) (hi := 99) (by decide) (by decide)
  have e4 : f_X10_number F N3 (1 : Int32) (99 : Int32) = some (x4, M4) := e4
  rw [e4, Option.bind_some, show nI (48 + 8 * nT J) + (4 : Int32) = nI (48 + 8 * nT J + 4) from addI _ 4, ckI (i := 48 + 8 * nT J + 4) (by omega) (by decide), if_pos rfl, clI (n := 48 + 8 * nT J + 4) (by omega)]
  have st4 := sm4.set (c := 39) (k := 48 + 8 * nT J + 4) (x := x4) (by decide) (by decide)
  have hd4 := (hd3.df d4).s39 (a := 48 + 8 * nT J + 4) (x := x4) (by omega)
  have r4 : RY N (setI M4 39 (48 + 8 * nT J + 4) x4) := r3.trans (d4.rg.trans (RY.set (by omega)))
  have w4 : (setI M4 39 (48 + 8 * nT J + 4) x4).1 39 (48 + 8 * nT J + 4) = x4 := setI_at
  have k4 : ∀ a, a ≠ 48 + 8 * nT J + 4 → (setI M4 39 (48 + 8 * nT J + 4) x4).1 39 a = N3.1 39 a := fun a ha => by rw [setI_nk ha, d4.1 39 (by decide)]
  generalize setI M4 39 (48 + 8 * nT J + 4) x4 = N4 at st4 hd4 r4 w4 k4 ⊢
  obtain ⟨x5, M5, e5, sm5, d5, ok5⟩ := number_nat (F := F) hT hF st4 (lo := 0) (hi := 99) (by decide) (by decide)
  have e5 : f_X10_number F N4 (0 : Int32) (99 : Int32) = some (x5, M5) := e5
  rw [e5, Option.bind_some, show nI (48 + 8 * nT J) + (5 : Int32) = nI (48 + 8 * nT J + 5) from addI _ 5, ckI (i := 48 + 8 * nT J + 5) (by omega) (by decide), if_pos rfl, clI (n := 48 + 8 * nT J + 5) (by omega)]
  have st5 := sm5.set (c := 39) (k := 48 + 8 * nT J + 5) (x := x5) (by decide) (by decide)
  have hd5 := (hd4.df d5).s39 (a := 48 + 8 * nT J + 5) (x := x5) (by omega)
  have r5 : RY N (setI M5 39 (48 + 8 * nT J + 5) x5) := r4.trans (d5.rg.trans (RY.set (by omega)))
  have w5 : (setI M5 39 (48 + 8 * nT J + 5) x5).1 39 (48 + 8 * nT J + 5) = x5 := setI_at
  have k5 : ∀ a, a ≠ 48 + 8 * nT J + 5 → (setI M5 39 (48 + 8 * nT J + 5) x5).1 39 a = N4.1 39 a := fun a ha => by rw [setI_nk ha, d5.1 39 (by decide)]
  generalize setI M5 39 (48 + 8 * nT J + 5) x5 = N5 at st5 hd5 r5 w5 k5 ⊢
  rw [show nI (48 + 8 * nT J) + (6 : Int32) = nI (48 + 8 * nT J + 6) from addI _ 6]
  refine ⟨N5, rfl, st5, r5, hd5, fun e he => ?_⟩
  obtain ⟨c1, c2, c3, c4, c5, -⟩ := s5_inv he
  have y1 := ok1 (k + 1) rfl c1
  have z1 : nst T 0 9 (.inr (k + 1)) = .inr (k + 2) := by rw [nst_r, if_pos c1]
  have y2 := ok2 (k + 2) z1 c2
  have z2 : nst T 0 9 (nst T 0 9 (.inr (k + 1))) = .inr (k + 3) := by rw [z1, nst_r, if_pos c2]
  have y3 := ok3 (k + 3) z2 c3
  have z3 : nst T 1 99 (nst T 0 9 (nst T 0 9 (.inr (k + 1)))) = .inr (k + 4) := by rw [z2, nst_r, if_pos c3]
  have y4 := ok4 (k + 4) z3 c4
  have z4 : nst T 1 99 (nst T 1 99 (nst T 0 9 (nst T 0 9 (.inr (k + 1))))) = .inr (k + 5) := by rw [z3, nst_r, if_pos c4]
  have y5 := ok5 (k + 5) z4 c5
  refine ⟨?_, fun j h1 h2 => ?_⟩
  · rw [k5 _ (by omega), k4 _ (by omega), k3 _ (by omega), k2 _ (by omega), k1 _ (by omega), v0]
  · rcases (by omega : j = 1 ∨ j = 2 ∨ j = 3 ∨ j = 4 ∨ j = 5) with rfl | rfl | rfl | rfl | rfl
    · rw [k5 _ (by omega), k4 _ (by omega), k3 _ (by omega), k2 _ (by omega), w1, y1]
    · rw [k5 _ (by omega), k4 _ (by omega), k3 _ (by omega), w2, y2]
    · rw [k5 _ (by omega), k4 _ (by omega), w3, y3]
    · rw [k5 _ (by omega), w4, y4]
    · rw [w5, y5]
theorem readThingR_nat (hT : WTx T) (hF : 600 ≤ F) {N : Mem} {k w : Nat} (hw : w ≤ 2) (htw : tc T k = w) (h6 : nT J < 6) (hst : ST T (.inr (k + 1)) N) (hH : HD J N) : ∃ N', f_X10_readThing F N (nI w) = some N' ∧ ST T (thS T k) N' ∧ RY N N' ∧ (∀ e, thS T k = .inr e → HD (addTh J (thV T k)) N') := by
  obtain ⟨N5, e5, st5, r5, hd5, hv5⟩ := th5_nat (w := w) hT hF h6 hst hH
  rw [e5]
  unfold thS
  rw [htw]
  have e67 : ∀ a : Nat, nI (48 + 8 * nT J) + (7 : Int32) = nI (48 + 8 * nT J + 7) := fun _ => addI _ 7
  by_cases c2 : w = 2
  · subst c2
    rw [if_pos (by rfl), if_pos rfl]
    have st6 := st5.set (c := 39) (k := 48 + 8 * nT J + 6) (x := 0) (by decide) (by decide)
    have hd6 := hd5.s39 (a := 48 + 8 * nT J + 6) (x := 0) (by omega)
    have r6 : RY N5 (setI N5 39 (48 + 8 * nT J + 6) 0) := RY.set (by omega)
    have w6 : (setI N5 39 (48 + 8 * nT J + 6) 0).1 39 (48 + 8 * nT J + 6) = 0 := setI_at
    have k6 : ∀ a, a ≠ 48 + 8 * nT J + 6 → (setI N5 39 (48 + 8 * nT J + 6) 0).1 39 a = N5.1 39 a := fun a ha => setI_nk ha
    have h118 : f_X10_readThing_118 F (nI 2) (nI (48 + 8 * nT J)) (0 : Int32) (nI (48 + 8 * nT J + 6)) N5 = f_X10_readThing_145 F (0 : Int32) (nI (48 + 8 * nT J + 7)) (setI N5 39 (48 + 8 * nT J + 6) 0) := by
      unfold f_X10_readThing_118
      simp only [vlet]
      rw [ckI (i := 48 + 8 * nT J + 6) (by omega) (by decide), if_pos rfl, clI (by omega), if_pos (by rfl), e67 0]
    rw [h118, th145_nat h6 hd6.1]
    generalize setI N5 39 (48 + 8 * nT J + 6) 0 = N6 at st6 hd6 r6 w6 k6 ⊢
    have hd7 := hd6.s39 (a := 48 + 8 * nT J + 7) (x := 0) (by omega)
    refine ⟨_, rfl, ?_, ?_, fun e he => ?_⟩
    · exact ((st6.set (by decide) (by decide)).set (by decide) (by decide)).set (by decide) (by decide)
    · exact r5.trans (r6.trans ((RY.set (by omega)).trans ((RY.set (by omega)).trans (RY.set (by omega)))))
    · obtain ⟨q0, q1⟩ := hv5 e he
      refine th_fin hd7 (fun j hj => ?_)
      unfold thV
      rw [htw]
      by_cases j0 : j = 0
      · subst j0
        rw [setI_nk (by omega), k6 _ (by omega)]
        exact q0
      · rw [if_neg j0]
        by_cases j5 : j ≤ 5
        · rw [if_pos j5, setI_nk (by omega), k6 _ (by omega)]
          exact q1 j (by omega) j5
        · rw [if_neg j5]
          rcases (by omega : j = 6 ∨ j = 7) with rfl | rfl
          · rw [setI_nk (by omega), w6]
            rfl
          · rw [setI_at]
            rfl
  · have hne : ¬ nI w = (2 : Int32) := by
      have : (nI w = nI 2) = (w = 2) := eqI (by omega) (by decide)
      intro h
      exact c2 (this.mp h)
    rw [if_neg hne, if_neg c2]
    obtain ⟨x6, M6, e6, sm6, d6, ok6⟩ := number_nat (F := F) hT hF st5 (lo := 1) (hi := 2) (by decide) (by decide)
    have e6 : f_X10_number F N5 (1 : Int32) (2 : Int32) = some (x6, M6) := e6
    rw [e6, Option.bind_some]
    have st6 := sm6.set (c := 39) (k := 48 + 8 * nT J + 6) (x := x6) (by decide) (by decide)
    have hd6 := (hd5.df d6).s39 (a := 48 + 8 * nT J + 6) (x := x6) (by omega)
    have r6 : RY N5 (setI M6 39 (48 + 8 * nT J + 6) x6) := d6.rg.trans (RY.set (by omega))
    have w6 : (setI M6 39 (48 + 8 * nT J + 6) x6).1 39 (48 + 8 * nT J + 6) = x6 := setI_at
    have k6 : ∀ a, a ≠ 48 + 8 * nT J + 6 → (setI M6 39 (48 + 8 * nT J + 6) x6).1 39 a = N5.1 39 a := fun a ha => by rw [setI_nk ha, d6.1 39 (by decide)]
    obtain ⟨N7, e7, st7, d7⟩ := optional_nat (F := F) hT hF st6 (w := 3) (by decide)
    have e7 : f_X10_optional F (setI M6 39 (48 + 8 * nT J + 6) x6) (3 : Int32) = some (b2 (oB T 3 (nst T 1 2 (s5 T k))), N7) := e7
    have h118 : f_X10_readThing_118 F (nI w) (nI (48 + 8 * nT J)) x6 (nI (48 + 8 * nT J + 6)) M6 = f_X10_readThing_145 F (b2 (oB T 3 (nst T 1 2 (s5 T k)))) (nI (48 + 8 * nT J + 7)) N7 := by
      unfold f_X10_readThing_118
      simp only [vlet]
      rw [ckI (i := 48 + 8 * nT J + 6) (by omega) (by decide), if_pos rfl, clI (by omega), if_neg hne, e7, Option.bind_some, e67 0]
      cases oB T 3 (nst T 1 2 (s5 T k)) <;> rfl
    generalize setI M6 39 (48 + 8 * nT J + 6) x6 = N6 at st6 hd6 r6 w6 k6 st7 d7 e7
    have hd6' := hd6.df d7
    have hd7 := hd6'.s39 (a := 48 + 8 * nT J + 7) (x := b2 (oB T 3 (nst T 1 2 (s5 T k)))) (by omega)
    dsimp only
    rw [h118, th145_nat h6 hd6'.1]
    refine ⟨_, rfl, ?_, ?_, fun e he => ?_⟩
    · exact ((st7.set (by decide) (by decide)).set (by decide) (by decide)).set (by decide) (by decide)
    · exact r5.trans (r6.trans (d7.rg.trans ((RY.set (by omega)).trans ((RY.set (by omega)).trans (RY.set (by omega))))))
    · cases hs6 : nst T 1 2 (s5 T k) with
      | inl j => rw [hs6] at he; cases he
      | inr e6' =>
        obtain ⟨k5, hs5, c6, rfl⟩ := nst_inv hs6
        obtain ⟨q0, q1⟩ := hv5 k5 hs5
        have hk5 := (s5_inv hs5).2.2.2.2.2
        subst hk5
        have hx6 := ok6 (k + 6) hs5 c6
        rw [hs6] at hd7
        refine th_fin hd7 (fun j hj => ?_)
        unfold thV
        rw [htw]
        by_cases j0 : j = 0
        · subst j0
          rw [setI_nk (by omega), d7.1 39 (by decide), k6 _ (by omega)]
          exact q0
        · rw [if_neg j0]
          by_cases j5 : j ≤ 5
          · rw [if_pos j5, setI_nk (by omega), d7.1 39 (by decide), k6 _ (by omega)]
            exact q1 j (by omega) j5
          · rw [if_neg j5]
            rcases (by omega : j = 6 ∨ j = 7) with rfl | rfl
            · rw [setI_nk (by omega), d7.1 39 (by decide), w6, if_pos rfl, if_neg c2]
              exact hx6
            · rw [setI_at, oB_r]
              by_cases c : tc T (k + 7) = 3
              · rw [decide_eq_true (show tc T (k + 6 + 1) = 3 from c), if_neg (show ¬ (7 : Nat) = 6 by decide), if_pos ⟨c2, c⟩]
                rfl
              · rw [decide_eq_false (show ¬ tc T (k + 6 + 1) = 3 from c), if_neg (show ¬ (7 : Nat) = 6 by decide), if_neg (fun z => c z.2)]
                rfl
end TH
