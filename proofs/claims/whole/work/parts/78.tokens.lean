-- part 78: the text's tokens: what they are
def isD (x : Nat) : Bool := decide (48 ≤ x) && decide (x ≤ 57)
def isL (x : Nat) : Bool := decide (97 ≤ x) && decide (x ≤ 122)
def isB (x : Nat) : Bool := decide (x = 32)
/-- where a run of such bytes ends -/
def runN (T : TL) (f : Nat → Bool) : Nat → Nat → Nat
  | 0, p => p
  | n + 1, p => if p < T.length ∧ f (T.getD p 0) = true then runN T f n (p + 1) else p
def run (T : TL) (f : Nat → Bool) (p : Nat) : Nat := runN T f (T.length - p) p
section RUN
variable {T : TL} {f : Nat → Bool}
theorem run_go {p : Nat} (h : p < T.length) (hf : f (T.getD p 0) = true) : run T f p = run T f (p + 1) := by
  unfold run
  obtain ⟨n, hn⟩ : ∃ n, T.length - p = n + 1 := ⟨T.length - p - 1, by omega⟩
  rw [hn, runN, if_pos ⟨h, hf⟩, show T.length - (p + 1) = n by omega]
theorem run_end {p : Nat} (h : ¬ p < T.length) : run T f p = p := by
  unfold run
  rw [show T.length - p = 0 by omega]
  rfl
theorem run_no {p : Nat} (hf : f (T.getD p 0) = false) : run T f p = p := by
  by_cases h : p < T.length
  · unfold run
    obtain ⟨n, hn⟩ : ∃ n, T.length - p = n + 1 := ⟨T.length - p - 1, by omega⟩
    rw [hn, runN, if_neg (by rw [hf]; simp)]
  · exact run_end h
theorem run_le : ∀ (n p : Nat), n = T.length - p → p ≤ run T f p ∧ (p ≤ T.length → run T f p ≤ T.length)
  | 0, p, hn => by
    by_cases h : p < T.length
    · omega
    · rw [run_end h]
      exact ⟨Nat.le_refl _, id⟩
  | n + 1, p, hn => by
    cases hf : f (T.getD p 0)
    · rw [run_no hf]
      exact ⟨Nat.le_refl _, id⟩
    · have h : p < T.length := by omega
      have ih := run_le n (p + 1) (by omega)
      rw [run_go h hf]
      exact ⟨by omega, fun _ => ih.2 (by omega)⟩
theorem run_in : ∀ (n p : Nat), n = T.length - p → ∀ j, p ≤ j → j < run T f p → f (T.getD j 0) = true
  | 0, p, hn, j, h1, h2 => by
    rw [run_end (by omega)] at h2
    omega
  | n + 1, p, hn, j, h1, h2 => by
    cases hf : f (T.getD p 0)
    · rw [run_no hf] at h2
      omega
    · have h : p < T.length := by omega
      by_cases e : j = p
      · subst e; exact hf
      · rw [run_go h hf] at h2
        exact run_in n (p + 1) (by omega) j (by omega) h2
theorem run_out (p : Nat) : ∀ (n p : Nat), n = T.length - p → run T f p < T.length → f (T.getD (run T f p) 0) = false
  | 0, p, hn, h2 => by
    rw [run_end (by omega)] at h2
    omega
  | n + 1, p, hn, h2 => by
    cases hf : f (T.getD p 0)
    · rw [run_no hf]
      exact hf
    · have h : p < T.length := by omega
      rw [run_go h hf] at h2 ⊢
      exact run_out p n (p + 1) (by omega) h2
end RUN
/-- behind the blanks; a token's end -/
def sk (T : TL) (p : Nat) : Nat := run T isB p
def te (T : TL) (q : Nat) : Nat := if isD (T.getD q 0) = true then run T isD (q + 1) else if isL (T.getD q 0) = true then run T isL (q + 1) else q + 1
theorem sk_le {T : TL} {p : Nat} (h : p ≤ T.length) : p ≤ sk T p ∧ sk T p ≤ T.length := ⟨(run_le _ p rfl).1, (run_le _ p rfl).2 h⟩
theorem te_le {T : TL} {q : Nat} (h : q < T.length) : q < te T q ∧ te T q ≤ T.length := by
  have h1 := run_le (T := T) (f := isD) _ (q + 1) rfl
  have h2 := run_le (T := T) (f := isL) _ (q + 1) rfl
  have h1' := h1.2 (by omega)
  have h2' := h2.2 (by omega)
  unfold te
  split
  · omega
  · split <;> omega
/-- the m bytes from q on -/
def sl (T : TL) : Nat → Nat → List Nat
  | _, 0 => []
  | q, m + 1 => T.getD q 0 :: sl T (q + 1) m
theorem sl_len {T : TL} : ∀ (m q : Nat), (sl T q m).length = m
  | 0, _ => rfl
  | m + 1, q => by rw [sl, List.length_cons, sl_len m]
theorem sl_S {T : TL} : ∀ (m q : Nat), sl T q (m + 1) = sl T q m ++ [T.getD (q + m) 0]
  | 0, q => rfl
  | m + 1, q => by
    rw [sl, sl_S m (q + 1), sl, show q + 1 + m = q + (m + 1) by omega]
    rfl
theorem sl_mem {T : TL} : ∀ (m q x : Nat), x ∈ sl T q m → ∃ j, q ≤ j ∧ j < q + m ∧ x = T.getD j 0
  | 0, _, _, h => absurd h List.not_mem_nil
  | m + 1, q, x, h => by
    rw [sl] at h
    rcases List.mem_cons.mp h with e | e
    · exact ⟨q, Nat.le_refl _, by omega, e⟩
    · obtain ⟨j, h1, h2, h3⟩ := sl_mem m (q + 1) x e
      exact ⟨j, by omega, by omega, h3⟩
/-- the words -/
def wB (k : Nat) : List Nat := [[116, 111, 112], [98, 111, 116, 116, 111, 109], [99, 111, 97, 116], [108, 97, 116, 101], [97, 112, 97, 114, 116], [100, 97, 121], [119, 97, 115, 104], [114, 97, 105, 110]].getD k []
def wcL (l : List Nat) : Nat := if l = wB 0 then 0 else if l = wB 1 then 1 else if l = wB 2 then 2 else if l = wB 3 then 3 else if l = wB 4 then 4 else if l = wB 5 then 5 else if l = wB 6 then 6 else if l = wB 7 then 7 else 10
/-- a number read with a cap -/
def cap (a x : Nat) : Nat := min (10 * a + (x - 48)) 100
def capL (a : Nat) (l : List Nat) : Nat := l.foldl cap a
theorem capL_C {a x : Nat} {r : List Nat} : capL a (x :: r) = capL (cap a x) r := List.foldl_cons
theorem capL_S (l : List Nat) (a x : Nat) : capL a (l ++ [x]) = cap (capL a l) x := by
  unfold capL
  rw [List.foldl_append]
  rfl
/-- the class's code of a token from q to e -/
def cdT (T : TL) (q e : Nat) : Nat := if isD (T.getD q 0) = true then (if T.getD q 0 = 48 ∧ 1 < e - q then 10 else if capL 0 (sl T q (e - q)) ≤ 99 then 100 + capL 0 (sl T q (e - q)) else 10) else if isL (T.getD q 0) = true then wcL (sl T q (e - q)) else if T.getD q 0 = 59 then 8 else 10
def tnx (T : TL) (p : Nat) : Nat := if sk T p < T.length then te T (sk T p) else sk T p
def tp (T : TL) : Nat → Nat
  | 0 => 0
  | k + 1 => tnx T (tp T k)
def ts (T : TL) (k : Nat) : Nat := sk T (tp T k)
def tc (T : TL) (k : Nat) : Nat := if ts T k < T.length then cdT T (ts T k) (te T (ts T k)) else 9
theorem tp_le {T : TL} : ∀ k, tp T k ≤ T.length
  | 0 => Nat.zero_le _
  | k + 1 => by
    have h := sk_le (tp_le (T := T) k)
    rw [tp, tnx]
    split
    · rename_i c
      exact (te_le c).2
    · exact h.2
theorem ts_le {T : TL} (k : Nat) : tp T k ≤ ts T k ∧ ts T k ≤ T.length := sk_le (tp_le k)
theorem tp_S {T : TL} {k : Nat} (h : ts T k < T.length) : tp T (k + 1) = te T (ts T k) := if_pos h
theorem ts_end {T : TL} {k : Nat} (h : ts T k = T.length) : tp T (k + 1) = T.length ∧ ts T (k + 1) = T.length := by
  have e : tp T (k + 1) = T.length := by
    rw [tp, tnx]
    show (if ts T k < T.length then _ else ts T k) = _
    rw [if_neg (by omega), h]
  refine ⟨e, ?_⟩
  have := ts_le (T := T) (k + 1)
  omega
theorem ts_ends {T : TL} {k : Nat} (h : ts T k = T.length) : ∀ m, ts T (k + m) = T.length
  | 0 => h
  | m + 1 => (ts_end (ts_ends h m)).2
theorem tk_le {T : TL} : ∀ k, ts T k < T.length → k ≤ tp T k
  | 0, _ => Nat.zero_le _
  | k + 1, h => by
    have h1 := ts_le (T := T) k
    by_cases c : ts T k < T.length
    · have ih := tk_le k c
      have := (te_le c).1
      rw [tp_S c]
      omega
    · have := (ts_end (T := T) (k := k) (by omega)).2
      omega
theorem tk_lt {T : TL} {k : Nat} (h : ts T k < T.length) : k < T.length := by
  have := tk_le k h
  have := ts_le (T := T) k
  omega
theorem tc_9 {T : TL} {k : Nat} (h : ts T k = T.length) : tc T k = 9 := if_neg (by omega)
theorem wcL_lt (l : List Nat) : wcL l ≤ 10 ∧ wcL l ≠ 8 ∧ wcL l ≠ 9 := by
  unfold wcL
  repeat' split
  all_goals omega
theorem capL_lt : ∀ (l : List Nat) (a : Nat), a ≤ 100 → capL a l ≤ 100
  | [], _, h => h
  | x :: r, a, _ => by
    rw [capL_C]
    exact capL_lt r _ (by unfold cap; omega)
theorem cdT_lt (T : TL) (q e : Nat) : cdT T q e ≤ 199 ∧ cdT T q e ≠ 9 ∧ (cdT T q e ≤ 10 ∨ 100 ≤ cdT T q e) := by
  have h := wcL_lt (sl T q (e - q))
  unfold cdT
  repeat' split
  all_goals omega
theorem tc_lt {T : TL} (k : Nat) : tc T k ≤ 199 ∧ (tc T k ≤ 10 ∨ 100 ≤ tc T k) := by
  have h := cdT_lt T (ts T k) (te T (ts T k))
  unfold tc
  split
  · exact ⟨h.1, h.2.2⟩
  · omega
theorem tc_n9 {T : TL} {k : Nat} : tc T k = 9 ↔ ¬ ts T k < T.length := by
  have h := cdT_lt T (ts T k) (te T (ts T k))
  unfold tc
  split
  · rename_i c
    exact ⟨fun e => absurd e h.2.1, fun e => absurd c e⟩
  · rename_i c
    exact ⟨fun _ => c, fun _ => rfl⟩
-- letters as a number to the base of 27
def l27 (a x : Nat) : Nat := 27 * a + (x - 96)
def vr : List Nat → Nat
  | [] => 0
  | x :: r => l27 (vr r) x
def vl (a : Nat) (l : List Nat) : Nat := l.foldl l27 a
theorem vr_C {x : Nat} {r : List Nat} : vr (x :: r) = l27 (vr r) x := by rw [vr]
theorem vl_C {a x : Nat} {r : List Nat} : vl a (x :: r) = vl (l27 a x) r := List.foldl_cons
theorem vl_vr (l : List Nat) : ∀ (s : List Nat), vl (vr s) l = vr (l.reverse ++ s) := by
  induction l with
  | nil => intro s; rfl
  | cons x r ih =>
    intro s
    rw [vl_C, ← vr_C, ih (x :: s), List.reverse_cons, List.append_assoc, List.singleton_append]
theorem vl_0 (l : List Nat) : vl 0 l = vr l.reverse := by
  have := vl_vr l []
  rw [List.append_nil] at this
  exact this
theorem vr_inj : ∀ (l m : List Nat), (∀ x ∈ l, 97 ≤ x ∧ x ≤ 122) → (∀ x ∈ m, 97 ≤ x ∧ x ≤ 122) → vr l = vr m → l = m
  | [], [], _, _, _ => rfl
  | [], y :: t, _, hm, h => by
    have := hm y List.mem_cons_self
    rw [vr_C, vr] at h
    unfold l27 at h
    omega
  | x :: r, [], hl, _, h => by
    have := hl x List.mem_cons_self
    rw [vr_C, vr] at h
    unfold l27 at h
    omega
  | x :: r, y :: t, hl, hm, h => by
    have h1 := hl x List.mem_cons_self
    have h2 := hm y List.mem_cons_self
    rw [vr_C, vr_C] at h
    unfold l27 at h
    have e : x = y := by omega
    have e2 : vr r = vr t := by omega
    rw [e, vr_inj r t (fun z hz => hl z (List.mem_cons_of_mem _ hz)) (fun z hz => hm z (List.mem_cons_of_mem _ hz)) e2]
theorem vl_inj {l m : List Nat} (hl : ∀ x ∈ l, 97 ≤ x ∧ x ≤ 122) (hm : ∀ x ∈ m, 97 ≤ x ∧ x ≤ 122) (h : vl 0 l = vl 0 m) : l = m := by
  rw [vl_0, vl_0] at h
  have := vr_inj _ _ (fun x hx => hl x (List.mem_reverse.mp hx)) (fun x hx => hm x (List.mem_reverse.mp hx)) h
  exact List.reverse_inj.mp this
theorem vl_S (l : List Nat) (x : Nat) : vl 0 (l ++ [x]) = l27 (vl 0 l) x := by
  rw [vl_0, vl_0, List.reverse_append, List.reverse_singleton, List.singleton_append, vr_C]
theorem vl_bound : ∀ (l : List Nat), (∀ x ∈ l, 97 ≤ x ∧ x ≤ 122) → vr l < 27 ^ l.length
  | [], _ => Nat.one_pos
  | x :: r, h => by
    have h1 := h x List.mem_cons_self
    have ih := vl_bound r (fun z hz => h z (List.mem_cons_of_mem _ hz))
    rw [vr_C, List.length_cons, Nat.pow_succ]
    unfold l27
    omega
theorem wB_ok : ∀ k, k < 8 → ∀ x ∈ wB k, 97 ≤ x ∧ x ≤ 122 := by decide +kernel
theorem wB_len : ∀ k, k < 8 → (wB k).length ≤ 6 := by decide +kernel
theorem wB_vl : vl 0 (wB 0) = 15001 ∧ vl 0 (wB 1) = 37078087 ∧ vl 0 (wB 2) = 70031 ∧ vl 0 (wB 3) = 237470 ∧ vl 0 (wB 4) = 847604 ∧ vl 0 (wB 5) = 2968 ∧ vl 0 (wB 6) = 453959 ∧ vl 0 (wB 7) = 355280 := by decide +kernel
/-- the reference's sort of a code -/
def srt (c : Nat) : Nat := if c ≤ 7 then c else if c = 8 then 10 else if c = 9 then 8 else if c = 10 then 11 else 9
theorem meaning_nat {M : Mem} {l : List Nat} (hl : ∀ x ∈ l, 97 ≤ x ∧ x ≤ 122) (h6 : l.length ≤ 6) : f_X10_meaning M (nI (vl 0 l)) = nI (srt (wcL l)) := by
  obtain ⟨v0, v1, v2, v3, v4, v5, v6, v7⟩ := wB_vl
  have hb := vl_bound l.reverse (fun x hx => hl x (List.mem_reverse.mp hx))
  rw [← vl_0, List.length_reverse] at hb
  have hb2 : (27 : Nat) ^ l.length ≤ 27 ^ 6 := Nat.pow_le_pow_right (by decide) h6
  have hne : ∀ k, k < 8 → l ≠ wB k → vl 0 l ≠ vl 0 (wB k) := fun k hk h e => h (vl_inj hl (wB_ok k hk) e)
  unfold f_X10_meaning wcL
  by_cases c0 : l = wB 0
  · rw [c0, v0]; rfl
  by_cases c1 : l = wB 1
  · rw [c1, v1]; rfl
  by_cases c2 : l = wB 2
  · rw [c2, v2]; rfl
  by_cases c3 : l = wB 3
  · rw [c3, v3]; rfl
  by_cases c4 : l = wB 4
  · rw [c4, v4]; rfl
  by_cases c5 : l = wB 5
  · rw [c5, v5]; rfl
  by_cases c6 : l = wB 6
  · rw [c6, v6]; rfl
  by_cases c7 : l = wB 7
  · rw [c7, v7]; rfl
  have n0 := hne 0 (by decide) c0
  have n1 := hne 1 (by decide) c1
  have n2 := hne 2 (by decide) c2
  have n3 := hne 3 (by decide) c3
  have n4 := hne 4 (by decide) c4
  have n5 := hne 5 (by decide) c5
  have n6 := hne 6 (by decide) c6
  have n7 := hne 7 (by decide) c7
  rw [v0] at n0; rw [v1] at n1; rw [v2] at n2; rw [v3] at n3; rw [v4] at n4; rw [v5] at n5; rw [v6] at n6; rw [v7] at n7
  rw [if_neg c0, if_neg c1, if_neg c2, if_neg c3, if_neg c4, if_neg c5, if_neg c6, if_neg c7]
  generalize vl 0 l = v at *
  have hv : v < 2 ^ 31 := by omega
  simp (disch := omega) only [lit, ltI, leI, eqI, addI, mulI, subI, clI, ckI, if_pos, if_neg, if_true, if_false, Option.bind_some, b2_0, b2_n0, b2_1, b2_n1, Bool.true_eq_false, Bool.false_eq_true, b2_t, b2_f]
  rfl
theorem wcL_long {l : List Nat} (h : 6 < l.length) : wcL l = 10 := by
  have hne : ∀ k, k < 8 → l ≠ wB k := fun k hk e => by
    have := wB_len k hk
    rw [← e] at this
    omega
  unfold wcL
  rw [if_neg (hne 0 (by decide)), if_neg (hne 1 (by decide)), if_neg (hne 2 (by decide)), if_neg (hne 3 (by decide)), if_neg (hne 4 (by decide)), if_neg (hne 5 (by decide)), if_neg (hne 6 (by decide)), if_neg (hne 7 (by decide))]
