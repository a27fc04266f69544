-- part 99f: the state of both sides between calls
/-- journey, lists, tunes, life, the two images (kept, life), text -/
abbrev SS : Type := Jr × LL × (Nat → Nat) × LV × (Bool × LV) × (Bool × LV) × TL
def sJ (σ : SS) : Jr := σ.1
def sLs (σ : SS) : LL := σ.2.1
def sTn (σ : SS) : Nat → Nat := σ.2.2.1
def sA (σ : SS) : LV := σ.2.2.2.1
def sI (σ : SS) (q : Nat) : Bool × LV := if q = 0 then σ.2.2.2.2.1 else σ.2.2.2.2.2.1
def sT (σ : SS) : TL := σ.2.2.2.2.2.2
def WS (σ : SS) : Prop := QJ (sJ σ) ∧ WL (sLs σ) ∧ WT (sTn σ) ∧ WV (sJ σ) (sA σ) ∧ (∀ q, q ≤ 1 → (sI σ q).1 = true → WV (sJ σ) (sI σ q).2) ∧ WTx (sT σ)
def XS (σ : SS) (N : Mem) : Prop := HX (sJ σ) N 3 ∧ KN (sJ σ) N ∧ XL (sLs σ) N ∧ TX (sTn σ) N ∧ LX N 14 (sA σ) ∧ (∀ q, q ≤ 1 → N.1 (15 + q) 3 = b2 (sI σ q).1 ∧ ((sI σ q).1 = true → LX N (15 + q) (sI σ q).2)) ∧ TXX (sT σ) N
def YS (σ : SS) (N : Mem) : Prop := HJ (sJ σ) N ∧ YL (sLs σ) N ∧ TY (sTn σ) N ∧ LY N 0 (sA σ) ∧ (∀ q, q ≤ 1 → N.1 47 q = b2 (sI σ q).1 ∧ ((sI σ q).1 = true → LY N (1 + q) (sI σ q).2)) ∧ TYY (sT σ) N
/-- a call of the class, of the reference -/
def XR (σ σ' : SS) (v : Int32) (dt : Int64) (f : Mem → Option (Int32 × Mem)) : Prop := ∀ N, XS σ N → ∃ N1, f N = some (v, N1) ∧ XS σ' N1 ∧ (∀ c, 36 ≤ c → N1.1 c = N.1 c) ∧ N1.2 34 1 = N.2 34 1 + dt ∧ N1.2 36 0 = N.2 36 0
def YR (σ σ' : SS) (v : Int32) (dt : Int64) (f : Mem → Option (Int32 × Mem)) : Prop := ∀ N S, YS σ N → STP N S → S + 131072 < 2 ^ 31 → ∃ N2 S', f N = some (v, N2) ∧ YS σ' N2 ∧ (∀ c, c < 36 → N2.1 c = N.1 c) ∧ N2.2 36 0 = N.2 36 0 + dt ∧ N2.2 34 1 = N.2 34 1 ∧ STP N2 S' ∧ S' ≤ S + 131072
def CallOK (fX fY : Mem → Option (Int32 × Mem)) : Prop := ∀ σ, WS σ → ∃ σ' v dt, WS σ' ∧ XR σ σ' v dt fX ∧ YR σ σ' v dt fY
def AskOK (fX fY : Mem → Option Int32) : Prop := ∀ σ, WS σ → ∃ v, (∀ N, XS σ N → fX N = some v) ∧ ∀ N, YS σ N → fY N = some v
def INV (N : Mem) (S : Nat) : Prop := ∃ σ, WS σ ∧ XS σ N ∧ YS σ N ∧ STP N S ∧ N.2 34 1 = N.2 36 0
theorem KN.same {J : Jr} {N N' : Mem} (h : KN J N) (e : N'.1 26 = N.1 26) : KN J N' := fun s hs => by rw [e]; exact h s hs
theorem XL.same {L : LL} {N N' : Mem} (h : XL L N) (e1 : N'.1 32 = N.1 32) (e2 : N'.1 33 = N.1 33) : XL L N' := by
  unfold XL CLs at *
  rw [e1, e2]
  exact h
theorem TX.same {t : Nat → Nat} {N N' : Mem} (h : TX t N) (e : N'.1 35 = N.1 35) : TX t N' := fun k hk => by rw [e]; exact h k hk
theorem LX.same {o : Nat} {a : LV} {N N' : Mem} (h : LX N o a) (e : N'.1 o = N.1 o) : LX N' o a := by
  unfold LX at *
  rw [e]
  exact h
theorem YL.same {L : LL} {N N' : Mem} (h : YL L N) (e1 : N'.1 36 30 = N.1 36 30) (e2 : N'.1 57 = N.1 57) (e3 : N'.1 58 = N.1 58) : YL L N' := by
  unfold YL at *
  rw [e1, e2, e3]
  exact h
theorem TY.same {t : Nat → Nat} {N N' : Mem} (h : TY t N) (e : N'.1 43 = N.1 43) : TY t N' := fun k hk => by rw [e]; exact h k hk
theorem LY.same {k : Nat} {a : LV} {N N' : Mem} (h : LY N k a) (e1 : N'.1 44 k = N.1 44 k) (e2 : N'.1 45 k = N.1 45 k) (e3 : N'.1 46 k = N.1 46 k) : LY N' k a := by
  unfold LY at *
  rw [e1, e2, e3]
  exact h
theorem TYY.same {T : TL} {N N' : Mem} (h : TYY T N) (e1 : N'.1 36 2 = N.1 36 2) (e2 : N'.1 37 = N.1 37) : TYY T N' := by
  unfold TYY at *
  rw [e1, e2]
  exact h
section ST
variable {σ σ' : SS} {N N' : Mem}
/-- all of the class's told cells stand -/
def XE (N N' : Mem) : Prop := ∀ c, c < 7 ∨ (13 < c ∧ c < 17) ∨ c = 26 ∨ (31 < c ∧ c < 36) → N'.1 c = N.1 c
/-- all of the reference's told cells stand -/
def YE (N N' : Mem) : Prop := (∀ c, (36 < c ∧ c < 48) ∨ c = 57 ∨ c = 58 → N'.1 c = N.1 c) ∧ N'.1 36 2 = N.1 36 2 ∧ N'.1 36 30 = N.1 36 30
theorem XS.off (h : XS σ N) (e : XE N N') : XS σ N' := by
  obtain ⟨h1, h2, h3, h4, h5, h6, h7⟩ := h
  exact ⟨h1.same (e 3 (by decide)) (e 4 (by decide)) (e 5 (by decide)) (e 6 (by decide)), h2.same (e 26 (by decide)), h3.same (e 32 (by decide)) (e 33 (by decide)), h4.same (e 35 (by decide)), h5.same (e 14 (by decide)), fun q hq => ⟨by rw [e (15 + q) (by omega)]; exact (h6 q hq).1, fun k => ((h6 q hq).2 k).same (e (15 + q) (by omega))⟩, h7.same (e 1 (by decide)) (e 2 (by decide))⟩
theorem YS.off (h : YS σ N) (e : YE N N') : YS σ N' := by
  obtain ⟨h1, h2, h3, h4, h5, h6⟩ := h
  obtain ⟨e, e2, e30⟩ := e
  have e44 := e 44 (by decide)
  have e45 := e 45 (by decide)
  have e46 := e 46 (by decide)
  exact ⟨h1.same (e 38 (by decide)) (e 41 (by decide)) (e 39 (by decide)) (e 42 (by decide)) (e 40 (by decide)), h2.same e30 (e 57 (by decide)) (e 58 (by decide)), h3.same (e 43 (by decide)), h4.same (by rw [e44]) (by rw [e45]) (by rw [e46]), fun q hq => ⟨by rw [e 47 (by decide)]; exact (h5 q hq).1, fun k => ((h5 q hq).2 k).same (by rw [e44]) (by rw [e45]) (by rw [e46])⟩, h6.same e2 (e 37 (by decide))⟩
theorem XS.kf (h : XS σ N) (hK : KN (sJ σ) N') (f : KF N N') : XS σ N' := by
  obtain ⟨h1, h2, h3, h4, h5, h6, h7⟩ := h
  exact ⟨h1.kf f, hK, h3.same (f.1 32 (by decide) (by decide)) (f.1 33 (by decide) (by decide)), h4.same (f.1 35 (by decide) (by decide)), h5.same (f.1 14 (by decide) (by decide)), fun q hq => ⟨by rw [f.1 (15 + q) (by omega) (by omega)]; exact (h6 q hq).1, fun k => ((h6 q hq).2 k).same (f.1 (15 + q) (by omega) (by omega))⟩, h7.same (f.1 1 (by decide) (by decide)) (f.1 2 (by decide) (by decide))⟩
theorem FR.ye (f : FR N N') : YE N N' := ⟨fun c hc => f.1 c (by omega) (by omega), f.2.1 2 (by decide) (by decide), f.2.1 30 (by decide) (by decide)⟩
theorem XS.ge (h : XS σ N) (e : ∀ c, c < 36 → N'.1 c = N.1 c) : XS σ N' := h.off (fun c hc => e c (by omega))
theorem YS.lt (h : YS σ N) (e : ∀ c, 36 ≤ c → N'.1 c = N.1 c) : YS σ N' := h.off ⟨fun c hc => e c (by omega), by rw [e 36 (by decide)], by rw [e 36 (by decide)]⟩
theorem STP.lt {S : Nat} (h : STP N S) (e : ∀ c, 36 ≤ c → N'.1 c = N.1 c) : STP N' S := h.fs (by rw [e 36 (by decide)]) (e 50 (by decide))
end ST
/-- one call of both -/
theorem use_call {fX fY : Mem → Option (Int32 × Mem)} (h : CallOK fX fY) {N : Mem} {S : Nat} (hi : INV N S) (hS : S + 131072 < 2 ^ 31) : ∃ v N1 N2 S', fX N = some (v, N1) ∧ fY N1 = some (v, N2) ∧ INV N2 S' ∧ S' ≤ S + 131072 := by
  obtain ⟨σ, w, hx, hy, hst, ht⟩ := hi
  obtain ⟨σ', v, dt, w', cx, cy⟩ := h σ w
  obtain ⟨N1, a1, a2, a3, a4, a5⟩ := cx N hx
  obtain ⟨N2, S', b1, b2', b3, b4, b5, b6, b7⟩ := cy N1 S (hy.lt a3) (hst.lt a3) hS
  exact ⟨v, N1, N2, S', a1, b1, ⟨σ', w', a2.ge b3, b2', b6, by rw [b5, a4, b4, a5, ht]⟩, b7⟩
theorem use_ask {fX fY : Mem → Option Int32} (h : AskOK fX fY) {N : Mem} {S : Nat} (hi : INV N S) : ∃ v, fX N = some v ∧ fY N = some v := by
  obtain ⟨σ, w, hx, hy, -, -⟩ := hi
  obtain ⟨v, a, b⟩ := h σ w
  exact ⟨v, a N hx, b N hy⟩
-- calls that leave the state
theorem call_of {J : Jr} {fX fY : Mem → Option (Int32 × Mem)} {v : Int32} {σ : SS} (hJ : sJ σ = J) (cx : ClsOK J v fX) (cy : RefOK J v fY) : XR σ σ v 0 fX ∧ YR σ σ v 0 fY := by
  subst hJ
  refine ⟨fun N hx => ?_, fun N S hy hst hS => ?_⟩
  · obtain ⟨N1, a1, a2, a3⟩ := cx N hx.1 hx.2.1
    exact ⟨N1, a1, hx.kf a2 a3, fun c hc => a3.1 c (by omega) (by omega), by rw [a3.2 34 (by decide), Int64.add_zero], by rw [a3.2 36 (by decide)]⟩
  · obtain ⟨N2, S', b1, b2', b3, b4⟩ := cy N S hy.1 hst hS
    exact ⟨N2, S', b1, hy.off b4.ye, fun c hc => b4.1 c (by omega) (by omega), by rw [b4.2.2, Int64.add_zero], by rw [b4.2.2], b2', b3⟩
section CALLS
variable {F : Nat}
theorem c_serves (hF : 4100 ≤ F) (a1 a2 : Int32) : CallOK (fun N => f_X9_serves F N a1 a2) (fun N => f_X10_serves F N a1 a2) := fun σ w => by
  obtain ⟨v, a, b⟩ := serves_pair (J := sJ σ) w.1.1 hF a1 a2
  exact ⟨σ, v, 0, w, call_of rfl a b⟩
theorem c_plan (hF : 4100 ≤ F) (a1 a2 a3 a4 : Int32) : CallOK (fun N => f_X9_plan F N a1 a2 a3 a4) (fun N => f_X10_plan F N a1 a2 a3 a4) := fun σ w => by
  obtain ⟨v, a, b⟩ := plan_pair (J := sJ σ) w.1.1 hF a1 a2 a3 a4
  exact ⟨σ, v, 0, w, call_of rfl a b⟩
theorem c_odds (hF : 4100 ≤ F) (a1 : Int32) : CallOK (fun N => f_X9_odds F N a1) (fun N => f_X10_odds F N a1) := fun σ w => by
  obtain ⟨v, a, b⟩ := odds_pair (J := sJ σ) w.1.1 hF a1
  exact ⟨σ, v, 0, w, call_of rfl a b⟩
theorem c_least (hF : 4100 ≤ F) (a1 a2 : Int32) : CallOK (fun N => f_X9_least F N a1 a2) (fun N => f_X10_least F N a1 a2) := fun σ w => by
  obtain ⟨v, a, b⟩ := least_pair (J := sJ σ) w.1.1 hF a1 a2
  exact ⟨σ, v, 0, w, call_of rfl a b⟩
theorem c_needless (hF : 4100 ≤ F) (a1 a2 a3 : Int32) : CallOK (fun N => f_X9_needless F N a1 a2 a3) (fun N => f_X10_needless F N a1 a2 a3) := fun σ w => by
  obtain ⟨v, a, b⟩ := needless_pair (J := sJ σ) w.1.1 hF a1 a2 a3
  exact ⟨σ, v, 0, w, call_of rfl a b⟩
theorem c_buy (hF : 4100 ≤ F) (a1 a2 a3 : Int32) : CallOK (fun N => f_X9_buy F N a1 a2 a3) (fun N => f_X10_buy F N a1 a2 a3) := fun σ w => by
  obtain ⟨v, a, b⟩ := buy_pair (J := sJ σ) w.1.1 hF a1 a2 a3
  exact ⟨σ, v, 0, w, call_of rfl a b⟩
theorem c_again (hF : 4100 ≤ F) (a1 : Int32) : CallOK (fun N => f_X9_again F N a1) (fun N => f_X10_again F N a1) := fun σ w => by
  obtain ⟨v, a, b⟩ := again_pair (J := sJ σ) w.1.1 hF a1
  exact ⟨σ, v, 0, w, call_of rfl a b⟩
theorem tn_le {t : Nat → Nat} (h : WT t) {k : Nat} (hk : k < 3) : t k ≤ 999 := by
  have := (h k hk).2
  have := (hi3_lt (k := k)).1
  omega
theorem c_desk (hF : 4100 ≤ F) (a1 a2 : Int32) : CallOK (fun N => f_X9_desk F N a1 a2) (fun N => f_X10_desk F N a1 a2) := fun σ w => by
  have h0 := tn_le w.2.2.1 (k := 0) (by decide)
  obtain ⟨v, a, b⟩ := desk_pair (J := sJ σ) w.1.1 hF (lim := sTn σ 0) (by omega) a1 a2
  refine ⟨σ, v, 0, w, fun N hx => ?_, fun N S hy hst hS => ?_⟩
  · obtain ⟨N1, a1, a3⟩ := a N hx.1 (hx.2.2.2.1 0 (by decide))
    exact ⟨N1, a1, hx.kf (hx.2.1.pf a3) a3.kf, fun c hc => a3.1 c (by omega), by rw [a3.2 34 (by decide), Int64.add_zero], by rw [a3.2 36 (by decide)]⟩
  · obtain ⟨N2, S', b1, b2', b3, b4⟩ := b N S hy.1 hst hS (hy.2.2.1 0 (by decide))
    exact ⟨N2, S', b1, hy.off b4.ye, fun c hc => b4.1 c (by omega) (by omega), by rw [b4.2.2, Int64.add_zero], by rw [b4.2.2], b2', b3⟩
theorem c_pack (hF : 4100 ≤ F) (a1 a2 a3 : Int32) : CallOK (fun N => f_X9_pack F N a1 a2 a3) (fun N => f_X10_pack F N a1 a2 a3) := fun σ w => by
  have h2 := tn_le w.2.2.1 (k := 2) (by decide)
  have h1 : sTn σ 1 ≤ 4 := (w.2.2.1 1 (by decide)).2
  obtain ⟨v, a, b⟩ := pack_pair (J := sJ σ) (L := sTn σ 1) (D := sTn σ 2) w.1.1 hF h1 h2 a1 a2 a3
  refine ⟨σ, v, 0, w, fun N hx => ?_, fun N S hy hst hS => ?_⟩
  · obtain ⟨N1, a1, a3⟩ := a N hx.1 (hx.2.2.2.1 1 (by decide)) (hx.2.2.2.1 2 (by decide))
    exact ⟨N1, a1, hx.off (fun c hc => a3.1 c (by omega)), fun c hc => a3.1 c (by omega), by rw [a3.2 34 (by decide), Int64.add_zero], by rw [a3.2 36 (by decide)]⟩
  · obtain ⟨N2, S', b1, b2', b3, b4⟩ := b N S hy.1 hst hS (hy.2.2.1 1 (by decide)) (hy.2.2.1 2 (by decide))
    exact ⟨N2, S', b1, hy.off b4.ye, fun c hc => b4.1 c (by omega) (by omega), by rw [b4.2.2, Int64.add_zero], by rw [b4.2.2], b2', b3⟩
end CALLS
