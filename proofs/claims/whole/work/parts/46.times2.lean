-- part 46: the class's times: words, days, times
def TF (N N' : Mem) : Prop := N'.1 = N.1 ∧ ∀ c, c ≠ 23 → c ≠ 24 → N'.2 c = N.2 c
theorem TF.refl {N : Mem} : TF N N := ⟨rfl, fun _ _ _ => rfl⟩
theorem TF.trans {A B C : Mem} (h1 : TF A B) (h2 : TF B C) : TF A C := ⟨h2.1.trans h1.1, fun c a1 a2 => (h2.2 c a1 a2).trans (h1.2 c a1 a2)⟩
theorem TF.pf {A B : Mem} (h : TF A B) : PF A B := ⟨fun c _ => by rw [h.1], fun c hc => h.2 c (by omega) (by omega)⟩
theorem GF.tf {A B : Mem} (h : GF A B) : TF A B := ⟨h.1, fun c _ a => h.2 c a⟩
theorem PR.tf {J : Jr} {s w : Nat} {N N' : Mem} (h : PR J s w N) (f : TF N N') : PR J s w N' := by
  unfold PR DP at *
  rw [f.1]
  exact h
abbrev fr36 (J : Jr) (s d x : Nat) : List Nat := frm J s d x (pairL J s d 36)
theorem reachFrom_nat {J : Jr} (hW : WJ J) {F s d x : Nat} {N : Mem} {P : Nat → Prop} (hF : 100 ≤ F) (hd : d < nD J) (hx : okH J s x) (hJ : HX J N 3) (hP : PR J s 0 N) (hM : SB N 24 P) :
    ∃ N', f_X5_reachFrom F N (nI d) (nI x) = some (b2 (!(fr36 J s d x).isEmpty), N') ∧ SB N' 24 (fun z => P z ∨ z ∈ fr36 J s d x) ∧ GF N N' := by
  obtain ⟨N', a1, a2, a3⟩ := from_loop hW (F := F) hF hd hx (pairL J s d 36).length 0 F N P false (by omega) (by have := pair_len hW s d 36 (by decide); omega) hJ hP hM
  rw [List.drop_zero] at a1 a2
  exact ⟨N', a1, a2, a3⟩
theorem rn_bits {J : Jr} (hW : WJ J) {F s d wd : Nat} {l : List Nat} {K : Int32 → Int32 → Int32 → Mem → Option (Int32 × Mem)} (hF : 100 ≤ F) (hd : d < nD J) (hl : ∀ x ∈ l, okH J s x) (hwd : wd < 64) :
    ∀ (m b n : Nat) (N : Mem) (P : Nat → Prop) (f : Bool), b + m = 64 → m < n → HX J N 3 → PR J s 0 N → SB N 23 (· ∈ l) → SB N 24 P →
      ∃ N' f', f_X5_reachNext_21 F K n (nI d) (b2 f) (nI wd) (nI b) N = K (nI d) (b2 f') (nI (wd + 1)) N' ∧ SB N' 24 (fun z => P z ∨ ∃ x, 64 * wd + b ≤ x ∧ x < 64 * wd + 64 ∧ x ∈ l ∧ z ∈ fr36 J s d x) ∧ (f' = true ↔ f = true ∨ ∃ x, 64 * wd + b ≤ x ∧ x < 64 * wd + 64 ∧ x ∈ l ∧ fr36 J s d x ≠ []) ∧ GF N N'
  | 0, b, n + 1, N, P, f, hb, _, hJ, hP, h23, hM => by
    have hbb : b = 64 := by omega
    subst hbb
    refine ⟨N, f, ?_, hM.congr (fun z _ => ?_), ?_, GF.refl⟩
    · rw [f_X5_reachNext_21]
      simp (disch := omega) only [lit, ltI, leI, eqI, addI, mulI, subI, clI, ckI, if_pos, if_neg, if_true, if_false, Option.bind_some, b2_0, b2_n0, b2_1, b2_n1, Bool.true_eq_false, Bool.false_eq_true, b2_t, b2_f]
    · constructor
      · exact Or.inl
      · rintro (h | ⟨x, h1, h2, -⟩)
        · exact h
        · omega
    · constructor
      · exact Or.inl
      · rintro (h | ⟨x, h1, h2, -⟩)
        · exact h
        · omega
  | m + 1, b, n + 1, N, P, f, hb, hn, hJ, hP, h23, hM => by
    have hx23 := h23 (64 * wd + b) (by omega)
    rw [show (64 * wd + b) / 64 = wd by omega, show (64 * wd + b) % 64 = b by omega] at hx23
    rw [f_X5_reachNext_21]
    by_cases hz : lg_cmp (((N.2 23 wd).toUInt64 >>> ((nI b).toInt64.toUInt64 &&& Int64.toUInt64 63)).toInt64) 0 = nI 0
    · have hno : ∀ x, 64 * wd + b ≤ x → x < 64 * wd + 64 → x ∉ l := fun x h1 h2 hx => by
        have h3 := (h23 x (by omega)).mpr hx
        rw [show x / 64 = wd by omega, ush0 (by omega) hz (by omega) (by omega)] at h3
        cases h3
      refine ⟨N, f, ?_, hM.congr (fun z _ => ?_), ?_, GF.refl⟩
      · simp (disch := omega) only [lit, ltI, leI, eqI, addI, mulI, subI, clI, ckI, if_pos, if_neg, if_true, if_false, Option.bind_some, b2_0, b2_n0, b2_1, b2_n1, Bool.true_eq_false, Bool.false_eq_true, b2_t, b2_f, hz]
      · constructor
        · exact Or.inl
        · rintro (h | ⟨x, h1, h2, h3, -⟩)
          · exact h
          · exact absurd h3 (hno x h1 h2)
      · constructor
        · exact Or.inl
        · rintro (h | ⟨x, h1, h2, h3, -⟩)
          · exact h
          · exact absurd h3 (hno x h1 h2)
    · have ih := rn_bits hW (F := F) (K := K) hF hd hl hwd m (b + 1) n
      cases hbit : bL (N.2 23 wd) b
      · have hno : 64 * wd + b ∉ l := fun h => by
          have := hx23.mpr h
          rw [hbit] at this
          cases this
        obtain ⟨N1, f1, a1, a2, a3, a4⟩ := ih N P f (by omega) (by omega) hJ hP h23 hM
        refine ⟨N1, f1, ?_, a2.congr (fun z _ => ?_), a3.trans ?_, a4⟩
        · simp (disch := omega) only [lit, ltI, leI, eqI, addI, mulI, subI, clI, ckI, if_pos, if_neg, if_true, if_false, Option.bind_some, b2_0, b2_n0, b2_1, b2_n1, Bool.true_eq_false, Bool.false_eq_true, b2_t, b2_f, hz, bL_get, hbit]
          exact a1
        · constructor
          · rintro (h | ⟨x, h1, h2, h3⟩)
            · exact Or.inl h
            · exact Or.inr ⟨x, by omega, h2, h3⟩
          · rintro (h | ⟨x, h1, h2, h3, h4⟩)
            · exact Or.inl h
            · by_cases e : x = 64 * wd + b
              · subst e; exact absurd h3 hno
              · exact Or.inr ⟨x, by omega, h2, h3, h4⟩
        · constructor
          · rintro (h | ⟨x, h1, h2, h3⟩)
            · exact Or.inl h
            · exact Or.inr ⟨x, by omega, h2, h3⟩
          · rintro (h | ⟨x, h1, h2, h3, h4⟩)
            · exact Or.inl h
            · by_cases e : x = 64 * wd + b
              · subst e; exact absurd h3 hno
              · exact Or.inr ⟨x, by omega, h2, h3, h4⟩
      · have hin : 64 * wd + b ∈ l := hx23.mp hbit
        obtain ⟨N1, a1, a2, a3⟩ := reachFrom_nat hW (F := F) hF hd (hl _ hin) hJ hP hM
        obtain ⟨N2, f2, b1, b2', b3, b4⟩ := ih N1 _ (f || !(fr36 J s d (64 * wd + b)).isEmpty) (by omega) (by omega) (hJ.pf a3.pf) (hP.tf a3.tf) (fun x hx => by rw [a3.2 23 (by decide)]; exact h23 x hx) a2
        refine ⟨N2, f2, ?_, b2'.congr (fun z _ => ?_), b3.trans ?_, a3.trans b4⟩
        · simp (disch := omega) only [lit, ltI, leI, eqI, addI, mulI, subI, clI, ckI, if_pos, if_neg, if_true, if_false, Option.bind_some, b2_0, b2_n0, b2_1, b2_n1, Bool.true_eq_false, Bool.false_eq_true, b2_t, b2_f, hz, bL_get, hbit, a1]
          cases hfe : (fr36 J s d (64 * wd + b)).isEmpty
          · rw [hfe] at b1
            have b1 : f_X5_reachNext_21 F K n (nI d) (b2 (f || true)) (nI wd) (nI (b + 1)) N1 = K (nI d) (b2 f2) (nI (wd + 1)) N2 := b1
            rw [Bool.or_true] at b1
            exact b1
          · rw [hfe] at b1
            have b1 : f_X5_reachNext_21 F K n (nI d) (b2 (f || false)) (nI wd) (nI (b + 1)) N1 = K (nI d) (b2 f2) (nI (wd + 1)) N2 := b1
            rw [Bool.or_false] at b1
            exact b1
        · constructor
          · rintro ((h | h) | ⟨x, h1, h2, h3⟩)
            · exact Or.inl h
            · exact Or.inr ⟨_, Nat.le_refl _, by omega, hin, h⟩
            · exact Or.inr ⟨x, by omega, h2, h3⟩
          · rintro (h | ⟨x, h1, h2, h3, h4⟩)
            · exact Or.inl (Or.inl h)
            · by_cases e : x = 64 * wd + b
              · subst e; exact Or.inl (Or.inr h4)
              · exact Or.inr ⟨x, by omega, h2, h3, h4⟩
        · rw [Bool.or_eq_true]
          have hemp : ((!(fr36 J s d (64 * wd + b)).isEmpty) = true) ↔ fr36 J s d (64 * wd + b) ≠ [] := by
            cases fr36 J s d (64 * wd + b) <;> simp
          rw [hemp]
          constructor
          · rintro ((h | h) | ⟨x, h1, h2, h3⟩)
            · exact Or.inl h
            · exact Or.inr ⟨_, Nat.le_refl _, by omega, hin, h⟩
            · exact Or.inr ⟨x, by omega, h2, h3⟩
          · rintro (h | ⟨x, h1, h2, h3, h4⟩)
            · exact Or.inl (Or.inl h)
            · by_cases e : x = 64 * wd + b
              · subst e; exact Or.inl (Or.inr h4)
              · exact Or.inr ⟨x, by omega, h2, h3, h4⟩
  | _, _, 0, _, _, _, _, hn, _, _, _, _ => absurd hn (Nat.not_lt_zero _)
theorem rn_words {J : Jr} (hW : WJ J) {F s d : Nat} {l : List Nat} (hF : 100 ≤ F) (hd : d < nD J) (hl : ∀ x ∈ l, okH J s x) :
    ∀ (m wd n : Nat) (N : Mem) (P : Nat → Prop) (f : Bool), wd + m = 64 → m < n → HX J N 3 → PR J s 0 N → SB N 23 (· ∈ l) → SB N 24 P →
      ∃ N' f', f_X5_reachNext_12 F n (nI d) (b2 f) (nI wd) N = some (b2 f', N') ∧ SB N' 23 (fun z => P z ∨ ∃ x, 64 * wd ≤ x ∧ x ∈ l ∧ z ∈ fr36 J s d x) ∧ (f' = true ↔ f = true ∨ ∃ x, 64 * wd ≤ x ∧ x ∈ l ∧ fr36 J s d x ≠ []) ∧ TF N N'
  | 0, wd, n + 1, N, P, f, hb, _, hJ, hP, h23, hM => by
    have hbb : wd = 64 := by omega
    subst hbb
    have hno : ∀ x, 64 * 64 ≤ x → x ∉ l := fun x h1 h2 => by have := (hl x h2).1; omega
    refine ⟨setB N 23 (va_cpy (N.2 24) (N.2 23) 0 0 64), f, ?_, fun z hz => ?_, ?_, rfl, fun c a1 a2 => if_neg a1⟩
    · rw [f_X5_reachNext_12]
      simp only [vlet]
      simp (disch := omega) only [lit, ltI, leI, eqI, addI, mulI, subI, clI, ckI, if_pos, if_neg, if_true, if_false, Option.bind_some, b2_0, b2_n0, b2_1, b2_n1, Bool.true_eq_false, Bool.false_eq_true, b2_t, b2_f, and_b1]
    · have e : (setB N 23 (va_cpy (N.2 24) (N.2 23) 0 0 64)).2 23 (z / 64) = N.2 24 (z / 64) := by
        show (if (23 : Nat) = 23 then va_cpy (N.2 24) (N.2 23) 0 0 64 else N.2 23) (z / 64) = _
        rw [if_pos rfl]
        have := pk_cpy_in (f := N.2 24) (g := N.2 23) (sp := 0) (dp := 0) (n := 64) (j := z / 64) (Nat.zero_le _) (by omega)
        rw [this, Nat.sub_zero, Nat.zero_add]
      rw [e, hM z hz]
      constructor
      · exact Or.inl
      · rintro (h | ⟨x, h1, h2, -⟩)
        · exact h
        · exact absurd h2 (hno x h1)
    · constructor
      · exact Or.inl
      · rintro (h | ⟨x, h1, h2, -⟩)
        · exact h
        · exact absurd h2 (hno x h1)
  | m + 1, wd, n + 1, N, P, f, hb, hn, hJ, hP, h23, hM => by
    obtain ⟨N1, f1, a1, a2, a3, a4⟩ := rn_bits hW (F := F) (K := fun y1 y2 y3 N => f_X5_reachNext_12 F n y1 y2 y3 N) hF hd hl (show wd < 64 by omega) 64 0 F N P f rfl (by omega) hJ hP h23 hM
    obtain ⟨N2, f2, b1, b2', b3, b4⟩ := rn_words hW (F := F) hF hd hl m (wd + 1) n N1 _ f1 (by omega) (by omega) (hJ.pf a4.pf) (hP.tf a4.tf) (fun x hx => by rw [a4.2 23 (by decide)]; exact h23 x hx) a2
    refine ⟨N2, f2, ?_, b2'.congr (fun z _ => ?_), b3.trans ?_, a4.tf.trans b4⟩
    · rw [f_X5_reachNext_12]
      simp (disch := omega) only [lit, ltI, leI, eqI, addI, mulI, subI, clI, ckI, if_pos, if_neg, if_true, if_false, Option.bind_some, b2_0, b2_n0, b2_1, b2_n1, Bool.true_eq_false, Bool.false_eq_true, b2_t, b2_f]
      exact a1.trans b1
    · constructor
      · rintro ((h | ⟨x, h1, h2, h3⟩) | ⟨x, h1, h2⟩)
        · exact Or.inl h
        · exact Or.inr ⟨x, by omega, h3⟩
        · exact Or.inr ⟨x, by omega, h2⟩
      · rintro (h | ⟨x, h1, h2⟩)
        · exact Or.inl (Or.inl h)
        · by_cases c : x < 64 * wd + 64
          · exact Or.inl (Or.inr ⟨x, by omega, c, h2⟩)
          · exact Or.inr ⟨x, by omega, h2⟩
    · rw [a3]
      constructor
      · rintro ((h | ⟨x, h1, h2, h3⟩) | ⟨x, h1, h2⟩)
        · exact Or.inl h
        · exact Or.inr ⟨x, by omega, h3⟩
        · exact Or.inr ⟨x, by omega, h2⟩
      · rintro (h | ⟨x, h1, h2⟩)
        · exact Or.inl (Or.inl h)
        · by_cases c : x < 64 * wd + 64
          · exact Or.inl (Or.inr ⟨x, by omega, c, h2⟩)
          · exact Or.inr ⟨x, by omega, h2⟩
  | _, _, 0, _, _, _, _, hn, _, _, _, _ => absurd hn (Nat.not_lt_zero _)
theorem mem_day_frm {J : Jr} (hW : WJ J) {s d z : Nat} (hd : d < nD J) {l : List Nat} : z ∈ dayL J s 0 d l ↔ ∃ x ∈ l, z ∈ fr36 J s d x := by
  rw [mem_dayL hW hd]
  constructor
  · rintro ⟨x, hx, h⟩; exact ⟨x, hx, mem_frm.mpr h⟩
  · rintro ⟨x, hx, h⟩; exact ⟨x, hx, mem_frm.mp h⟩
theorem reachNext_nat {J : Jr} (hW : WJ J) {F s d : Nat} {l : List Nat} {N : Mem} (hF : 4100 ≤ F) (hd : d < nD J) (hl : ∀ x ∈ l, okH J s x) (hJ : HX J N 3) (hP : PR J s 0 N) (h23 : SB N 23 (· ∈ l)) :
    ∃ N', f_X5_reachNext F N (nI d) = some (b2 (!(dayL J s 0 d l).isEmpty), N') ∧ SB N' 23 (· ∈ dayL J s 0 d l) ∧ TF N N' := by
  obtain ⟨N1, a1, a2, a3, a4⟩ := fill_nat (F := F) (c := 24) (len := 64) (v := 0) (N := N) (by decide) hF
  have hf : TF N N1 := ⟨a3, fun c _ hc => a4 c hc⟩
  obtain ⟨N2, f2, b1, b2', b3, b4⟩ := rn_words hW (F := F) (by omega) hd hl 64 0 F N1 (fun _ => False) false rfl (by omega) (hJ.pf hf.pf) (hP.tf hf) (fun x hx => by rw [a4 23 (by decide)]; exact h23 x hx) (fun x hx => by
    rw [a2 _ (by omega), bL_0]
    simp)
  have he : f2 = !(dayL J s 0 d l).isEmpty := by
    rw [Bool.eq_iff_iff, b3]
    have hemp : ((!(dayL J s 0 d l).isEmpty) = true) ↔ ∃ z, z ∈ dayL J s 0 d l := by
      cases h : dayL J s 0 d l with
      | nil => simp
      | cons a t => exact ⟨fun _ => ⟨a, List.mem_cons_self⟩, fun _ => rfl⟩
    rw [hemp]
    constructor
    · rintro (h | ⟨x, -, h2, h3⟩)
      · cases h
      · obtain ⟨z, hz⟩ := List.exists_mem_of_ne_nil _ h3
        exact ⟨z, (mem_day_frm hW hd).mpr ⟨x, h2, hz⟩⟩
    · rintro ⟨z, hz⟩
      obtain ⟨x, hx, h⟩ := (mem_day_frm hW hd).mp hz
      exact Or.inr ⟨x, by omega, hx, List.ne_nil_of_mem h⟩
  refine ⟨N2, ?_, b2'.congr (fun z _ => ?_), hf.trans b4⟩
  · unfold f_X5_reachNext
    rw [a1, Option.bind_some, ← he]
    exact b1
  · rw [mem_day_frm hW hd]
    constructor
    · rintro (h | ⟨x, -, h⟩)
      · exact absurd h id
      · exact ⟨x, h⟩
    · rintro ⟨x, h⟩
      exact Or.inr ⟨x, by omega, h⟩
