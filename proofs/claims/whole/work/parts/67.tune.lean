-- part 67: calls: tune, packs
def lo3 (k : Nat) : Nat := if k = 0 then 0 else 1
def hi3 (k : Nat) : Nat := if k = 1 then 4 else 999
def WT (t : Nat → Nat) : Prop := ∀ k, k < 3 → lo3 k ≤ t k ∧ t k ≤ hi3 k
def TX (t : Nat → Nat) (N : Mem) : Prop := ∀ k, k < 3 → N.1 35 k = nI (t k)
def TY (t : Nat → Nat) (N : Mem) : Prop := ∀ k, k < 3 → N.1 43 k = nI (t k)
/-- only cell c changes -/
def OC (c : Nat) (N N' : Mem) : Prop := (∀ d, d ≠ c → N'.1 d = N.1 d) ∧ N'.2 = N.2
theorem OC.refl {c : Nat} {N : Mem} : OC c N N := ⟨fun _ _ => rfl, rfl⟩
theorem OC.one {c k : Nat} {v : Int32} {N : Mem} : OC c N (setI N c k v) := ⟨fun d h => setI_ne h, rfl⟩
def upT (t : Nat → Nat) (k v : Nat) : Nat → Nat := fun j => if j = k then v else t j
theorem tl_nat {k : Nat} (h : k < 3) : tlV.getD k 0 = nI (lo3 k) := by
  rcases (by omega : k = 0 ∨ k = 1 ∨ k = 2) with rfl | rfl | rfl <;> rfl
theorem tm_nat {k : Nat} (h : k < 3) : tmV.getD k 0 = nI (hi3 k) := by
  rcases (by omega : k = 0 ∨ k = 1 ∨ k = 2) with rfl | rfl | rfl <;> rfl
