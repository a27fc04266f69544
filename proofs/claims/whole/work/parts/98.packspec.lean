-- part 98: pack: layers by a code
theorem bcT_mono {s : Nat} : ∀ (m i : Nat), bcT s i ≤ bcT s (i + m)
  | 0, _ => Nat.le_refl _
  | m + 1, i => by
    have := bcT_mono (s := s) m i
    have e : bcT s (i + (m + 1)) = bcT s (i + m) + if s.testBit (i + m) then 1 else 0 := rfl
    rw [e]
    omega
/-- how many of the set from i on -/
def cb (s i : Nat) : Nat := bc s - bcT s i
theorem bcT_le6 {s i : Nat} (h : i ≤ 6) : bcT s i ≤ bc s := by
  have := bcT_mono (s := s) (6 - i) i
  rwa [show i + (6 - i) = 6 by omega] at this
theorem cb_S {s i : Nat} (h : i < 6) : cb s i = cb s (i + 1) + if s.testBit i = true then 1 else 0 := by
  have h1 := bcT_le6 (s := s) (i := i) (by omega)
  have h2 := bcT_le6 (s := s) (i := i + 1) (by omega)
  have e : bcT s (i + 1) = bcT s i + if s.testBit i = true then 1 else 0 := rfl
  unfold cb
  by_cases c : s.testBit i = true
  · rw [if_pos c] at e ⊢
    omega
  · rw [if_neg c] at e ⊢
    omega
theorem cb_6 {s : Nat} : cb s 6 = 0 := Nat.sub_self _
theorem cb_0 {s : Nat} : cb s 0 = bc s := rfl
theorem cb_mono {s i j : Nat} (h : i ≤ j) (hj : j ≤ 6) : cb s j ≤ cb s i := by
  have h1 := bcT_mono (s := s) (j - i) i
  rw [show i + (j - i) = j by omega] at h1
  unfold cb
  omega
/-- the layer of thing j by code c -/
def ly (s c j : Nat) : Nat := c / 4 ^ cb s (j + 1) % 4
theorem ly_lt (s c j : Nat) : ly s c j < 4 := Nat.mod_lt _ (by decide)
theorem blk_div {a c m e : Nat} (hd : 4 ^ m ∣ a) (h1 : a ≤ c) (h2 : c < a + 4 ^ m) (hm : m ≤ e) : c / 4 ^ e = a / 4 ^ e := by
  obtain ⟨q, rfl⟩ := hd
  have hp : 0 < 4 ^ m := Nat.pow_pos (by decide)
  have e1 : (4 : Nat) ^ e = 4 ^ m * 4 ^ (e - m) := by rw [← Nat.pow_add, show m + (e - m) = e by omega]
  rw [e1, ← Nat.div_div_eq_div_mul, ← Nat.div_div_eq_div_mul]
  have e2 : c / 4 ^ m = q := by
    apply Nat.div_eq_of_lt_le
    · rw [Nat.mul_comm]; exact h1
    · rw [Nat.succ_mul, Nat.mul_comm]; exact h2
  rw [e2, Nat.mul_div_cancel_left _ hp]
theorem ly_blk {s a c i j : Nat} (hd : 4 ^ cb s i ∣ a) (h1 : a ≤ c) (h2 : c < a + 4 ^ cb s i) (hj : j < i) (hi : i ≤ 6) : ly s c j = ly s a j := by
  unfold ly
  rw [blk_div hd h1 h2 (cb_mono (by omega) hi)]
theorem ly_sub {s a i l : Nat} (hb : s.testBit i = true) (hi : i < 6) (hd : 4 ^ cb s i ∣ a) (hl : l < 4) : ly s (a + l * 4 ^ cb s (i + 1)) i = l := by
  rw [cb_S hi, if_pos hb] at hd
  obtain ⟨q, rfl⟩ := hd
  have hp : 0 < 4 ^ cb s (i + 1) := Nat.pow_pos (by decide)
  unfold ly
  have e : 4 ^ (cb s (i + 1) + 1) * q + l * 4 ^ cb s (i + 1) = 4 ^ cb s (i + 1) * (4 * q + l) := by
    rw [Nat.pow_succ, Nat.mul_add, Nat.mul_assoc, Nat.mul_comm l]
  rw [e, Nat.mul_div_cancel_left _ hp]
  omega
section PK
variable {J : Jr} {s : Nat} {fd : Nat → Nat}
/-- what lies in layer k of the first n things -/
def us (J : Jr) (s c k : Nat) : Nat → Nat
  | 0 => 0
  | n + 1 => us J s c k n + if s.testBit n = true ∧ ly s c n = k then tf J n 3 else 0
def prB (s : Nat) (fd : Nat → Nat) (c i j : Nat) : Bool := s.testBit j && (decide (ly s c j < ly s c i ∧ fd j < fd i) || decide (ly s c i < ly s c j ∧ fd i < fd j))
def t1 (s : Nat) (fd : Nat → Nat) (c i : Nat) : Nat → Nat
  | 0 => 0
  | j + 1 => t1 s fd c i j + if prB s fd c i j = true then 1 else 0
def tt (s : Nat) (fd : Nat → Nat) (c : Nat) : Nat → Nat
  | 0 => 0
  | i + 1 => tt s fd c i + if s.testBit i = true then t1 s fd c i i else 0
def okp (J : Jr) (s L D c : Nat) : Nat → Bool
  | 0 => true
  | i + 1 => okp J s L D c i && (!s.testBit i || (decide (ly s c i < L) && decide (us J s c (ly s c i) (i + 1) ≤ D)))
theorem us_S {c k n : Nat} : us J s c k (n + 1) = us J s c k n + if s.testBit n = true ∧ ly s c n = k then tf J n 3 else 0 := rfl
theorem t1_S {c i j : Nat} : t1 s fd c i (j + 1) = t1 s fd c i j + if prB s fd c i j = true then 1 else 0 := rfl
theorem tt_S {c i : Nat} : tt s fd c (i + 1) = tt s fd c i + if s.testBit i = true then t1 s fd c i i else 0 := rfl
theorem okp_S {L D c i : Nat} : okp J s L D c (i + 1) = (okp J s L D c i && (!s.testBit i || (decide (ly s c i < L) && decide (us J s c (ly s c i) (i + 1) ≤ D)))) := rfl
theorem us_congr {c a k : Nat} : ∀ n, (∀ j, j < n → ly s c j = ly s a j) → us J s c k n = us J s a k n
  | 0, _ => rfl
  | n + 1, h => by rw [us_S, us_S, us_congr n (fun j hj => h j (by omega)), h n (by omega)]
theorem t1_congr {c a i : Nat} : ∀ n, (∀ j, j < n → ly s c j = ly s a j) → ly s c i = ly s a i → t1 s fd c i n = t1 s fd a i n
  | 0, _, _ => rfl
  | n + 1, h, hi => by
    rw [t1_S, t1_S, t1_congr n (fun j hj => h j (by omega)) hi]
    unfold prB
    rw [h n (by omega), hi]
theorem tt_congr {c a : Nat} : ∀ n, (∀ j, j < n → ly s c j = ly s a j) → tt s fd c n = tt s fd a n
  | 0, _ => rfl
  | n + 1, h => by rw [tt_S, tt_S, tt_congr n (fun j hj => h j (by omega)), t1_congr n (fun j hj => h j (by omega)) (h n (by omega))]
theorem okp_congr {L D c a : Nat} : ∀ n, (∀ j, j < n → ly s c j = ly s a j) → okp J s L D c n = okp J s L D a n
  | 0, _ => rfl
  | n + 1, h => by rw [okp_S, okp_S, okp_congr n (fun j hj => h j (by omega)), h n (by omega), us_congr (n + 1) h]
theorem us_mono {c k : Nat} : ∀ (m n : Nat), us J s c k n ≤ us J s c k (n + m)
  | 0, _ => Nat.le_refl _
  | m + 1, n => by
    have := us_mono (c := c) (k := k) m n
    rw [← Nat.add_assoc, us_S]
    omega
theorem tt_mono {c : Nat} : ∀ (m n : Nat), tt s fd c n ≤ tt s fd c (n + m)
  | 0, _ => Nat.le_refl _
  | m + 1, n => by
    have := tt_mono (c := c) m n
    rw [← Nat.add_assoc, tt_S]
    omega
theorem okp_mono {L D c : Nat} : ∀ (m n : Nat), okp J s L D c n = false → okp J s L D c (n + m) = false
  | 0, _, h => h
  | m + 1, n, h => by rw [← Nat.add_assoc, okp_S, okp_mono m n h, Bool.false_and]
theorem okp_us {L D c : Nat} : ∀ n, okp J s L D c n = true → ∀ k, us J s c k n ≤ D
  | 0, _, _ => Nat.zero_le _
  | n + 1, h, k => by
    rw [okp_S, Bool.and_eq_true] at h
    have ih := okp_us n h.1 k
    rw [us_S]
    by_cases c : s.testBit n = true ∧ ly s c n = k
    · have h2 := h.2
      rw [c.1, c.2, us_S, if_pos c] at h2
      simp at h2
      rw [if_pos c]
      omega
    · rw [if_neg c]
      omega
theorem t1_le {c i : Nat} : ∀ n, t1 s fd c i n ≤ n
  | 0 => Nat.le_refl _
  | n + 1 => by
    have := t1_le (c := c) (i := i) n
    rw [t1_S]
    split <;> omega
theorem tt_le {c : Nat} : tt s fd c 6 ≤ 15 := by
  have h0 := t1_le (s := s) (fd := fd) (c := c) (i := 0) 0
  have h1 := t1_le (s := s) (fd := fd) (c := c) (i := 1) 1
  have h2 := t1_le (s := s) (fd := fd) (c := c) (i := 2) 2
  have h3 := t1_le (s := s) (fd := fd) (c := c) (i := 3) 3
  have h4 := t1_le (s := s) (fd := fd) (c := c) (i := 4) 4
  have h5 := t1_le (s := s) (fd := fd) (c := c) (i := 5) 5
  rw [tt_S, tt_S, tt_S, tt_S, tt_S, tt_S]
  have hz : tt s fd c 0 = 0 := rfl
  rw [hz]
  split <;> split <;> split <;> split <;> split <;> split <;> omega
theorem tt_le2 {c i : Nat} (h : i ≤ 6) : tt s fd c i ≤ 15 := by
  have h1 := tt_mono (s := s) (fd := fd) (c := c) (6 - i) i
  rw [show i + (6 - i) = 6 by omega] at h1
  have := tt_le (s := s) (fd := fd) (c := c)
  omega
/-- the best code of the first n -/
def bst (J : Jr) (s : Nat) (fd : Nat → Nat) (L D : Nat) : Nat → Option Nat := betO (fun c => tt s fd c 6) (fun c => okp J s L D c 6)
def bv (s : Nat) (fd : Nat → Nat) : Option Nat → Nat
  | none => 1000
  | some b => tt s fd b 6
theorem betO_keep {v : Nat → Nat} {g : Nat → Bool} {a b : Nat} (h0 : betO v g a = some b) : ∀ m, (∀ c, a ≤ c → c < a + m → v b ≤ v c) → betO v g (a + m) = some b
  | 0, _ => h0
  | m + 1, h => by
    have ih := betO_keep h0 m (fun c h1 h2 => h c h1 (by omega))
    have := h (a + m) (by omega) (by omega)
    rw [← Nat.add_assoc, betO_S, ih]
    dsimp only
    rw [if_neg (by omega)]
theorem bst_stop {L D a m : Nat} (h : ∀ c, a ≤ c → c < a + m → okp J s L D c 6 = false) : bst J s fd L D (a + m) = bst J s fd L D a := betO_stop m h
theorem bst_prune {L D a i : Nat} (hi : i ≤ 6) (hd : 4 ^ cb s i ∣ a) (h : bv s fd (bst J s fd L D a) ≤ tt s fd a i) : bst J s fd L D (a + 4 ^ cb s i) = bst J s fd L D a := by
  have h15 := tt_le2 (s := s) (fd := fd) (c := a) hi
  cases hb : bst J s fd L D a with
  | none =>
    rw [hb] at h
    have h : 1000 ≤ tt s fd a i := h
    omega
  | some b =>
    rw [hb] at h
    have h : tt s fd b 6 ≤ tt s fd a i := h
    refine betO_keep hb _ (fun c h1 h2 => ?_)
    have e := tt_congr (s := s) (fd := fd) (c := c) (a := a) i (fun j hj => ly_blk hd h1 h2 hj hi)
    have m := tt_mono (s := s) (fd := fd) (c := c) (6 - i) i
    rw [show i + (6 - i) = 6 by omega] at m
    show tt s fd b 6 ≤ tt s fd c 6
    omega
theorem bst_leaf {L D a : Nat} (hv : okp J s L D a 6 = true) (h : tt s fd a 6 < bv s fd (bst J s fd L D a)) : bst J s fd L D (a + 1) = some a := by
  unfold bst
  rw [betO_S]
  cases hb : betO (fun c => tt s fd c 6) (fun c => okp J s L D c 6) a with
  | none =>
    dsimp only
    rw [if_pos hv]
  | some b =>
    have hb' : bst J s fd L D a = some b := hb
    rw [hb'] at h
    have h : tt s fd a 6 < tt s fd b 6 := h
    dsimp only
    rw [if_pos ⟨h, hv⟩]
/-- a layer that can't be -/
theorem sub_no {L D a i l c : Nat} (hb : s.testBit i = true) (hi : i < 6) (hd : 4 ^ cb s i ∣ a) (hl : l < 4) (h : ¬ (l < L ∧ us J s a l i + tf J i 3 ≤ D)) (h1 : a + l * 4 ^ cb s (i + 1) ≤ c) (h2 : c < a + l * 4 ^ cb s (i + 1) + 4 ^ cb s (i + 1)) : okp J s L D c 6 = false := by
  have hS := cb_S (s := s) hi
  rw [if_pos hb] at hS
  have hp : 0 < 4 ^ cb s (i + 1) := Nat.pow_pos (by decide)
  have e4 : (4 : Nat) ^ cb s i = 4 * 4 ^ cb s (i + 1) := by rw [hS, Nat.pow_succ, Nat.mul_comm]
  have hd2 : 4 ^ cb s (i + 1) ∣ a + l * 4 ^ cb s (i + 1) := Nat.dvd_add (Nat.dvd_trans ⟨4, by rw [e4, Nat.mul_comm]⟩ hd) ⟨l, Nat.mul_comm _ _⟩
  have hlm : l * 4 ^ cb s (i + 1) + 4 ^ cb s (i + 1) ≤ 4 * 4 ^ cb s (i + 1) := by
    rw [← Nat.succ_mul]
    exact Nat.mul_le_mul_right _ (by omega)
  have hlow : ∀ j, j < i → ly s c j = ly s a j := fun j hj => ly_blk hd (by omega) (by omega) hj (by omega)
  have hat : ly s c i = l := by
    rw [ly_blk (i := i + 1) hd2 h1 h2 (by omega) (by omega)]
    exact ly_sub hb hi hd hl
  have hno : okp J s L D c (i + 1) = false := by
    rw [okp_S, hat, us_S, if_pos ⟨hb, hat⟩, us_congr i hlow, hb]
    by_cases c1 : l < L
    · rw [decide_eq_false (fun z => h ⟨c1, z⟩)]
      simp
    · rw [decide_eq_false c1]
      simp
  have := okp_mono (6 - (i + 1)) (i + 1) hno
  rwa [show i + 1 + (6 - (i + 1)) = 6 by omega] at this
end PK
