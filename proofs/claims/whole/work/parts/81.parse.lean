-- part 81: what a text tells: items
/-- the first token from k on that is no number as bid -/
def bad (T : TL) : List (Nat × Nat) → Nat → Option Nat
  | [], _ => none
  | b :: r, k => if 100 + b.1 ≤ tc T k ∧ tc T k ≤ 100 + b.2 then bad T r (k + 1) else some k
def bT : List (Nat × Nat) := [(0, 9), (0, 9), (1, 99), (1, 99), (0, 99)]
def bC : List (Nat × Nat) := [(1, 2)]
def bD : List (Nat × Nat) := [(0, 27), (0, 9)]
def thV (T : TL) (k j : Nat) : Nat := if j = 0 then tc T k else if j ≤ 5 then tc T (k + j) - 100 else if j = 6 then (if tc T k = 2 then 0 else tc T (k + 6) - 100) else if tc T k ≠ 2 ∧ tc T (k + 7) = 3 then 1 else 0
def addTh (J : Jr) (v : Nat → Nat) : Jr := (nT J + 1, nD J, fun i j => if i = nT J then v j else tf J i j, df J, fun i => if i = nT J then 0 else ap J i)
def addDy (J : Jr) (v : Nat → Nat) : Jr := (nT J, nD J + 1, tf J, fun d j => if d = nD J then v j else df J d j, ap J)
def setAp (J : Jr) (a b : Nat) : Jr := (nT J, nD J, tf J, df J, fun i => if i = a then ap J a ||| 2 ^ b else if i = b then ap J b ||| 2 ^ a else ap J i)
abbrev PR1 : Type := Nat ⊕ (Nat × Jr)
/-- behind the numbers of a thing: where its ; should be -/
def thE (T : TL) (k : Nat) : Nat := if tc T k = 2 then k + 6 else if tc T (k + 7) = 3 then k + 8 else k + 7
def pThing (T : TL) (k : Nat) (J : Jr) : PR1 :=
  if 6 ≤ nT J then .inl k else
  match bad T bT (k + 1) with
  | some j => .inl j
  | none => match bad T (if tc T k = 2 then [] else bC) (k + 6) with
    | some j => .inl j
    | none => if tc T (thE T k) = 8 then .inr (thE T k + 1, addTh J (thV T k)) else .inl (thE T k)
def pApart (T : TL) (k : Nat) (J : Jr) : PR1 :=
  if 100 ≤ tc T (k + 1) ∧ tc T (k + 1) < 100 + nT J then
    (if tc T (k + 2) ≠ tc T (k + 1) ∧ 100 ≤ tc T (k + 2) ∧ tc T (k + 2) < 100 + nT J then
      (if tc T (k + 3) = 8 then .inr (k + 4, setAp J (tc T (k + 1) - 100) (tc T (k + 2) - 100)) else .inl (k + 3))
    else .inl (k + 2))
  else .inl (k + 1)
def dyE (T : TL) (k : Nat) : Nat := if tc T (k + 3) = 6 then k + 4 else k + 3
def dyV (T : TL) (k r j : Nat) : Nat := if j ≤ 1 then tc T (k + 1 + j) - 100 else if j = 2 then (if tc T (k + 3) = 6 then 1 else 0) else r
def rnOk (J : Jr) (c : Nat) : Bool := decide (100 ≤ c) && decide (c ≤ 110) && (!uns (c - 100) || decide (unsTo J (nD J) < 4))
def pRain (T : TL) (k e : Nat) (J : Jr) : PR1 :=
  if rnOk J (tc T (e + 1)) = true then (if tc T (e + 2) = 8 then .inr (e + 3, addDy J (dyV T k (tc T (e + 1) - 100))) else .inl (e + 2)) else .inl (e + 1)
def pDay (T : TL) (k : Nat) (J : Jr) : PR1 :=
  if 8 ≤ nD J then .inl k else
  match bad T bD (k + 1) with
  | some j => .inl j
  | none => if tc T (dyE T k) = 7 then pRain T k (dyE T k) J
    else if tc T (dyE T k) = 8 then .inr (dyE T k + 1, addDy J (dyV T k 0)) else .inl (dyE T k)
def pItem (T : TL) (k : Nat) (J : Jr) : PR1 := if tc T k ≤ 2 then pThing T k J else if tc T k = 4 then pApart T k J else if tc T k = 5 then pDay T k J else .inl k
/-- all items: the fault's token, or how many and what they tell -/
def pLoop (T : TL) : Nat → Nat → Nat → Jr → PR1
  | 0, k, _, _ => .inl k
  | n + 1, k, it, J => if tc T k = 9 then .inr (it, J) else match pItem T k J with
    | .inl j => .inl j
    | .inr q => pLoop T n q.1 (it + 1) q.2
def J0 : Jr := (0, 0, fun _ _ => 0, fun _ _ => 0, fun _ => 0)
theorem bad_le {T : TL} : ∀ (l : List (Nat × Nat)) (k j : Nat), bad T l k = some j → k ≤ j ∧ j < k + l.length
  | [], k, j, h => by cases h
  | b :: r, k, j, h => by
    unfold bad at h
    rw [List.length_cons]
    split at h
    · have := bad_le r (k + 1) j h
      omega
    · cases h
      omega
theorem bad_C {T : TL} {b : Nat × Nat} {r : List (Nat × Nat)} {k : Nat} : bad T (b :: r) k = if 100 + b.1 ≤ tc T k ∧ tc T k ≤ 100 + b.2 then bad T r (k + 1) else some k := rfl
theorem bad_at {T : TL} : ∀ (l : List (Nat × Nat)) (k : Nat), bad T l k = none → ∀ j, j < l.length → 100 + (l.getD j (0, 0)).1 ≤ tc T (k + j) ∧ tc T (k + j) ≤ 100 + (l.getD j (0, 0)).2
  | [], _, _, j, hj => absurd hj (Nat.not_lt_zero _)
  | b :: r, k, h, j, hj => by
    rw [bad_C] at h
    split at h
    · rename_i c
      cases j with
      | zero => exact c
      | succ j =>
        rw [List.length_cons] at hj
        have := bad_at r (k + 1) h j (by omega)
        rw [show k + (j + 1) = k + 1 + j by omega]
        exact this
    · cases h
theorem bitsTo_congr {f g : Nat → Bool} : ∀ n, (∀ i, i < n → f i = g i) → bitsTo f n = bitsTo g n
  | 0, _ => rfl
  | n + 1, h => by
    rw [bitsTo_S, bitsTo_S, bitsTo_congr n (fun i hi => h i (by omega)), h n (by omega)]
theorem evenTo_S {f : Nat → Bool} {n : Nat} : evenTo f (n + 1) = evenTo f n ||| (if f n = true then 4 ^ n else 0) := rfl
theorem evenTo_congr {f g : Nat → Bool} : ∀ n, (∀ i, i < n → f i = g i) → evenTo f n = evenTo g n
  | 0, _ => rfl
  | n + 1, h => by
    rw [evenTo_S, evenTo_S, evenTo_congr n (fun i hi => h i (by omega)), h n (by omega)]
section ADD
variable {J : Jr} {v : Nat → Nat}
theorem addTh_at {j : Nat} : tf (addTh J v) (nT J) j = v j := if_pos rfl
theorem addTh_ne {i j : Nat} (h : i ≠ nT J) : tf (addTh J v) i j = tf J i j := if_neg h
theorem addTh_isK {k : Nat} : bitsTo (isK (addTh J v) k) (nT J + 1) = bitsTo (isK J k) (nT J) ||| (if v 0 = k then 2 ^ nT J else 0) := by
  rw [bitsTo_S, bitsTo_congr (g := isK J k) (nT J) (fun i hi => by unfold isK; rw [addTh_ne (by omega)])]
  have : isK (addTh J v) k (nT J) = decide (v 0 = k) := by unfold isK; rw [addTh_at]
  rw [this]
  by_cases c : v 0 = k <;> simp [c]
theorem addTh_last : lastB (addTh J v) = lastB J ||| (if v 6 = 2 then 2 ^ nT J else 0) := by
  unfold lastB
  show bitsTo _ (nT J + 1) = _
  rw [bitsTo_S, bitsTo_congr (g := fun i => decide (tf J i 6 = 2)) (nT J) (fun i hi => by rw [addTh_ne (by omega)]), addTh_at]
  by_cases c : v 6 = 2 <;> simp [c]
theorem addTh_late : lateB (addTh J v) = lateB J ||| (if v 7 ≠ 0 then 4 ^ nT J else 0) := by
  unfold lateB
  show evenTo _ (nT J + 1) = _
  rw [evenTo_S, evenTo_congr (g := fun i => decide (tf J i 7 ≠ 0)) (nT J) (fun i hi => by rw [addTh_ne (by omega)]), addTh_at]
  by_cases c : v 7 = 0 <;> simp [c]
theorem unsTo_congr {J' : Jr} : ∀ n, (∀ d, d < n → df J' d 3 = df J d 3) → unsTo J' n = unsTo J n
  | 0, _ => rfl
  | n + 1, h => by
    rw [unsTo, unsTo, unsTo_congr n (fun i hi => h i (by omega)), h n (by omega)]
theorem addDy_at {j : Nat} : df (addDy J v) (nD J) j = v j := if_pos rfl
theorem addDy_ne {i j : Nat} (h : i ≠ nD J) : df (addDy J v) i j = df J i j := if_neg h
theorem addDy_uns : unsTo (addDy J v) (nD J + 1) = unsTo J (nD J) + if uns (v 3) = true then 1 else 0 := by
  rw [unsTo, unsTo_congr (J := J) (nD J) (fun d hd => addDy_ne (by omega)), addDy_at]
end ADD
