-- part 68: life: packs, keep, back
/-- date, how all are, set -/
abbrev LV : Type := Nat × Nat × Nat
def LX (N : Mem) (o : Nat) (a : LV) : Prop := N.1 o 0 = nI a.1 ∧ N.1 o 1 = nI a.2.1 ∧ N.1 o 2 = nI a.2.2
def LY (N : Mem) (k : Nat) (a : LV) : Prop := N.1 44 k = nI a.1 ∧ N.1 45 k = nI a.2.1 ∧ N.1 46 k = nI a.2.2
def WV (J : Jr) (a : LV) : Prop := a.1 ≤ nD J ∧ okH J a.2.2 a.2.1 ∧ a.2.2 < 64
/-- the reference's frame: entry k of 44 to 46 -/
def FY (k : Nat) (N N' : Mem) : Prop := (∀ d, d ≠ 44 → d ≠ 45 → d ≠ 46 → N'.1 d = N.1 d) ∧ (∀ j, j ≠ k → N'.1 44 j = N.1 44 j ∧ N'.1 45 j = N.1 45 j ∧ N'.1 46 j = N.1 46 j) ∧ N'.2 = N.2
theorem FY.refl {k : Nat} {N : Mem} : FY k N N := ⟨fun _ _ _ _ => rfl, fun _ _ => ⟨rfl, rfl, rfl⟩, rfl⟩
def putX (N : Mem) (o : Nat) (a : LV) : Mem := setI (setI (setI N o 0 (nI a.1)) o 1 (nI a.2.1)) o 2 (nI a.2.2)
theorem putX_lx {N : Mem} {o : Nat} {a : LV} : LX (putX N o a) o a := by
  unfold putX
  exact ⟨by rw [setI_nk (by decide), setI_nk (by decide), setI_at], by rw [setI_nk (by decide), setI_at], setI_at⟩
theorem putX_oc {N : Mem} {o : Nat} {a : LV} : OC o N (putX N o a) := ⟨fun d h => by unfold putX; rw [setI_ne h, setI_ne h, setI_ne h], rfl⟩
theorem putX_3 {N : Mem} {o j : Nat} {a : LV} (h : 3 ≤ j) : (putX N o a).1 o j = N.1 o j := by
  unfold putX
  rw [setI_nk (by omega), setI_nk (by omega), setI_nk (by omega)]
section CALLS
variable {J : Jr}
theorem packsX_nat (hW : WJ J) {a : LV} {a1 : Int32} {N : Mem} (hJ : HX J N 3) (hL : LX N 14 a) : ∃ N', f_X9_packs N a1 = some (nI a.2.2, N') ∧ LX N' 14 (0, 0, st J a1) ∧ OC 14 N N' ∧ ∀ j, 3 ≤ j → N'.1 14 j = N.1 14 j := by
  refine ⟨putX N 14 (0, 0, st J a1), ?_, putX_lx, putX_oc, fun j hj => putX_3 hj⟩
  unfold f_X9_packs f_X2_start
  simp only [vlet]
  rw [allX_nat hJ hW, st_and, Option.bind_some]
  show some (N.1 14 2, _) = _
  rw [hL.2.2]
  rfl
theorem packsR_nat (hW : WJ J) {a : LV} {a1 : Int32} {N : Mem} (hJ : HJ J N) (hL : LY N 0 a) : ∃ N', f_X10_packs N a1 = some (nI a.2.2, N') ∧ LY N' 0 (0, 0, st J a1) ∧ FY 0 N N' := by
  refine ⟨setI (setI (setI N 46 0 (nI (st J a1))) 45 0 0) 44 0 0, ?_, ⟨setI_at, ?_, ?_⟩, fun d h1 h2 h3 => by rw [setI_ne h1, setI_ne h2, setI_ne h3], fun j hj => ⟨?_, ?_, ?_⟩, rfl⟩
  · unfold f_X10_packs
    simp only [vlet]
    rw [allR_nat hJ hW, Option.bind_some, st_and]
    show some (N.1 46 0, _) = _
    rw [hL.2.2]
    rfl
  · rw [setI_ne (by decide), setI_at]
    rfl
  · rw [setI_ne (by decide), setI_ne (by decide), setI_at]
  · rw [setI_nk hj, setI_ne (by decide), setI_ne (by decide)]
  · rw [setI_ne (by decide), setI_nk hj, setI_ne (by decide)]
  · rw [setI_ne (by decide), setI_ne (by decide), setI_nk hj]
theorem wv_packs (hW : WJ J) (a1 : Int32) : WV J (0, 0, st J a1) := ⟨Nat.zero_le _, okH_0, st_lt hW a1⟩
end CALLS
