-- part 47: the class's times is how often again
theorem day_nil {J : Jr} (hW : WJ J) {s d : Nat} (hd : d < nD J) : dayL J s 0 d [] = [] := by
  rw [List.eq_nil_iff_forall_not_mem]
  intro z hz
  obtain ⟨x, hx, -⟩ := (mem_day_frm hW hd).mp hz
  exact absurd hx List.not_mem_nil
theorem jd_nil {J : Jr} (hW : WJ J) {s : Nat} : ∀ (r d : Nat), d + r = nD J → jd J s r d [] = []
  | 0, _, _ => rfl
  | r + 1, d, hd => by
    rw [jd, day_nil hW (by omega)]
    exact jd_nil hW r (d + 1) (by omega)
theorem jd_mono {J : Jr} (hW : WJ J) {s : Nat} : ∀ (r d : Nat) (l l' : List Nat), d + r = nD J → (∀ x ∈ l, x ∈ l') → ∀ z ∈ jd J s r d l, z ∈ jd J s r d l'
  | 0, _, _, _, _, h => h
  | r + 1, d, l, l', hd, h => jd_mono hW r (d + 1) _ _ (by omega) (fun z hz => by
    obtain ⟨x, hx, h2⟩ := (mem_day_frm hW (by omega)).mp hz
    exact (mem_day_frm hW (by omega)).mpr ⟨x, h x hx, h2⟩)
def jit (J : Jr) (s : Nat) : Nat → List Nat
  | 0 => [0]
  | t + 1 => jl J s (jit J s t)
theorem jit_sub {J : Jr} (hW : WJ J) {s t : Nat} (h : 0 ∈ jit J s t) : ∀ n, ∀ z ∈ jit J s n, z ∈ jit J s (t + n)
  | 0, z, hz => by
    have : z = 0 := List.mem_singleton.mp hz
    subst this
    exact h
  | n + 1, z, hz => jd_mono hW (nD J) 0 _ _ (by omega) (jit_sub hW h n) z hz
theorem jit_nil {J : Jr} (hW : WJ J) {s n : Nat} (h : jit J s n = []) : ∀ m, jit J s (n + m) = []
  | 0 => h
  | m + 1 => by
    show jl J s (jit J s (n + m)) = []
    rw [jit_nil hW h m]
    exact jd_nil hW _ _ (by omega)
theorem jit_ne {J : Jr} (hW : WJ J) {s t : Nat} (h : 0 ∈ jit J s (t + 1)) : ∀ n, jit J s n ≠ [] := by
  intro n
  induction n using Nat.strongRecOn with
  | _ n ih =>
    by_cases c : n ≤ t + 1
    · intro e
      have := jit_nil hW e (t + 1 - n)
      rw [show n + (t + 1 - n) = t + 1 by omega] at this
      rw [this] at h
      exact absurd h List.not_mem_nil
    · have h1 := ih (n - (t + 1)) (by omega)
      obtain ⟨z, hz⟩ := List.exists_mem_of_ne_nil _ h1
      have := jit_sub hW h _ z hz
      rw [show t + 1 + (n - (t + 1)) = n by omega] at this
      exact List.ne_nil_of_mem this
theorem agn_full {J : Jr} (hW : WJ J) {s t : Nat} (h : 0 ∈ jit J s (t + 1)) : ∀ k m, agn J s k (jit J s m) = k
  | 0, _ => rfl
  | k + 1, m => by
    have h1 := jit_ne hW h (m + 1)
    unfold agn
    rw [show jl J s (jit J s m) = jit J s (m + 1) from rfl]
    have h2 : (jit J s (m + 1)).isEmpty = false := by
      cases h3 : jit J s (m + 1) with
      | nil => exact absurd h3 h1
      | cons a t => rfl
    rw [h2, if_neg (by decide), agn_full hW h k (m + 1)]
    omega
theorem jit_ok {J : Jr} (hW : WJ J) {s : Nat} : ∀ t, ∀ x ∈ jit J s t, okH J s x
  | 0, x, hx => by rw [List.mem_singleton.mp hx]; exact okH_0
  | t + 1, x, hx => jl_ok hW (jit_ok hW t) x hx
theorem bit00 {v : Int64} : (lg_cmp (v &&& 1) 0 = nI 0) = (bL v 0 = false) := by
  apply propext
  have h0 : (lg_cmp (v &&& 1) 0 = nI 0) ↔ v &&& 1 = 0 := lg_cmp_eq _ _
  rw [h0, ← Int64.toBitVec_inj, Int64.toBitVec_and]
  unfold bL
  generalize v.toBitVec = y
  show y &&& 1#64 = 0#64 ↔ _
  constructor
  · intro h
    have := congrArg (fun x => x.getLsbD 0) h
    rw [BitVec.getLsbD_and] at this
    simpa using this
  · intro h
    apply BitVec.eq_of_getLsbD_eq
    intro i hi
    rw [BitVec.getLsbD_and, BitVec.getLsbD_one]
    by_cases e : i = 0
    · subst e
      rw [h]
      simp
    · simp [e]
theorem times_days {J : Jr} (hW : WJ J) {F s t : Nat} {K : Int32 → Mem → Option (Int32 × Mem)} (hF : 4100 ≤ F) (ht : t < 9) :
    ∀ (r d n : Nat) (l : List Nat) (N : Mem), d + r = nD J → r < n → (∀ x ∈ l, okH J s x) → l.isEmpty = false → HX J N 3 → PR J s 0 N → SB N 23 (· ∈ l) →
      ∃ N', f_X5_times_31 F K n (nI t) (nI d) N = (if (jd J s r d l).isEmpty = true then some (nI t, N') else if 0 ∈ jd J s r d l then some (nI 9, N') else K (nI (t + 1)) N') ∧ SB N' 23 (· ∈ jd J s r d l) ∧ TF N N'
  | 0, d, n + 1, l, N, hd, _, hl, he, hJ, hP, h23 => by
    have h8 := hW.2.1
    have h0 := h23 0 (by decide)
    refine ⟨N, ?_, h23, TF.refl⟩
    rw [f_X5_times_31, show f_X8_days N 3 = nI (nD J) from hJ.2.1, jd, he]
    by_cases c : 0 ∈ l
    · have hb : bL (N.2 23 0) 0 = true := h0.mpr c
      simp (disch := omega) only [lit, ltI, leI, eqI, addI, mulI, subI, clI, ckI, if_pos, if_neg, if_true, if_false, Option.bind_some, b2_0, b2_n0, b2_1, b2_n1, Bool.true_eq_false, Bool.false_eq_true, b2_t, b2_f, bit00, hb]
    · have hb : bL (N.2 23 0) 0 = false := Bool.eq_false_iff.mpr (fun h => c (h0.mp h))
      simp (disch := omega) only [lit, ltI, leI, eqI, addI, mulI, subI, clI, ckI, if_pos, if_neg, if_true, if_false, Option.bind_some, b2_0, b2_n0, b2_1, b2_n1, Bool.true_eq_false, Bool.false_eq_true, b2_t, b2_f, bit00, hb]
  | r + 1, d, n + 1, l, N, hd, hn, hl, he, hJ, hP, h23 => by
    have h8 := hW.2.1
    obtain ⟨N1, a1, a2, a3⟩ := reachNext_nat hW (F := F) hF (show d < nD J by omega) hl hJ hP h23
    rw [f_X5_times_31, show f_X8_days N 3 = nI (nD J) from hJ.2.1, jd]
    cases hd1 : (dayL J s 0 d l).isEmpty
    · obtain ⟨N2, b1, b2', b3⟩ := times_days hW (K := K) hF ht r (d + 1) n _ N1 (by omega) (by omega) (day_ok hW (by omega) hl) hd1 (hJ.pf a3.pf) (hP.tf a3) a2
      refine ⟨N2, ?_, b2', a3.trans b3⟩
      rw [hd1] at a1
      simp (disch := omega) only [lit, ltI, leI, eqI, addI, mulI, subI, clI, ckI, if_pos, if_neg, if_true, if_false, Option.bind_some, b2_0, b2_n0, b2_1, b2_n1, Bool.true_eq_false, Bool.false_eq_true, b2_t, b2_f, a1, Bool.not_false]
      exact b1
    · rw [hd1] at a1
      have e : dayL J s 0 d l = [] := List.isEmpty_iff.mp hd1
      rw [e, jd_nil hW _ _ (by omega)]
      rw [e] at a2
      refine ⟨N1, ?_, a2, a3⟩
      simp (disch := omega) only [lit, ltI, leI, eqI, addI, mulI, subI, clI, ckI, if_pos, if_neg, if_true, if_false, Option.bind_some, b2_0, b2_n0, b2_1, b2_n1, Bool.true_eq_false, Bool.false_eq_true, b2_t, b2_f, a1, Bool.not_true]
      rfl
  | _, _, 0, _, _, _, hn, _, _, _, _, _ => absurd hn (Nat.not_lt_zero _)
theorem times_loop {J : Jr} (hW : WJ J) {F s : Nat} (hF : 4100 ≤ F) :
    ∀ (k t n : Nat) (N : Mem), t + k = 9 → k < n → (jit J s t).isEmpty = false → HX J N 3 → PR J s 0 N → SB N 23 (· ∈ jit J s t) →
      ∃ N', f_X5_times_23 F n (nI t) N = some (nI (t + agn J s k (jit J s t)), N') ∧ TF N N'
  | 0, t, n + 1, N, ht, _, he, hJ, hP, h23 => by
    have : t = 9 := by omega
    subst this
    refine ⟨N, ?_, TF.refl⟩
    rw [f_X5_times_23]
    simp (disch := omega) only [lit, ltI, leI, eqI, addI, mulI, subI, clI, ckI, if_pos, if_neg, if_true, if_false, Option.bind_some, b2_0, b2_n0, b2_1, b2_n1, Bool.true_eq_false, Bool.false_eq_true, b2_t, b2_f]
    rfl
  | k + 1, t, n + 1, N, ht, hn, he, hJ, hP, h23 => by
    obtain ⟨N1, a1, a2, a3⟩ := times_days hW (K := fun y2 N => f_X5_times_23 F n y2 N) hF (show t < 9 by omega) (nD J) 0 F (jit J s t) N (by omega) (by have := hW.2.1; omega) (jit_ok hW t) he hJ hP h23
    rw [show jd J s (nD J) 0 (jit J s t) = jit J s (t + 1) from rfl] at a1 a2
    rw [f_X5_times_23]
    unfold agn
    rw [show jl J s (jit J s t) = jit J s (t + 1) from rfl]
    cases hj : (jit J s (t + 1)).isEmpty
    · rw [hj, if_neg (by decide)] at a1
      by_cases c : 0 ∈ jit J s (t + 1)
      · rw [if_pos c] at a1
        refine ⟨N1, ?_, a3⟩
        simp (disch := omega) only [lit, ltI, leI, eqI, addI, mulI, subI, clI, ckI, if_pos, if_neg, if_true, if_false, Option.bind_some, b2_0, b2_n0, b2_1, b2_n1, Bool.true_eq_false, Bool.false_eq_true, b2_t, b2_f]
        rw [agn_full hW c, show t + (1 + k) = 9 by omega]
        exact a1
      · rw [if_neg c] at a1
        obtain ⟨N2, b1, b2'⟩ := times_loop hW hF k (t + 1) n N1 (by omega) (by omega) hj (hJ.pf a3.pf) (hP.tf a3) a2
        refine ⟨N2, ?_, a3.trans b2'⟩
        simp (disch := omega) only [lit, ltI, leI, eqI, addI, mulI, subI, clI, ckI, if_pos, if_neg, if_true, if_false, Option.bind_some, b2_0, b2_n0, b2_1, b2_n1, Bool.true_eq_false, Bool.false_eq_true, b2_t, b2_f]
        rw [show t + (1 + agn J s k (jit J s (t + 1))) = t + 1 + agn J s k (jit J s (t + 1)) by omega]
        exact a1.trans b1
    · rw [hj, if_pos rfl] at a1
      refine ⟨N1, ?_, a3⟩
      simp (disch := omega) only [lit, ltI, leI, eqI, addI, mulI, subI, clI, ckI, if_pos, if_neg, if_true, if_false, Option.bind_some, b2_0, b2_n0, b2_1, b2_n1, Bool.true_eq_false, Bool.false_eq_true, b2_t, b2_f]
      exact a1
  | _, _, 0, _, _, hn, _, _, _, _ => absurd hn (Nat.not_lt_zero _)
/-- the class's times -/
theorem timesX_nat {J : Jr} (hW : WJ J) {F s : Nat} {N : Mem} (hF : 4100 ≤ F) (hs : s < 64) (hJ : HX J N 3) :
    ∃ N', f_X5_times F N (nI s) = some (nI (agn J s 9 [0]), N') ∧ PF N N' := by
  obtain ⟨N1, a1, a2, a3⟩ := prepare_nat hW (F := F) wea0 (by omega) hs hJ
  obtain ⟨N2, b1, b2', b3, b4⟩ := fill_nat (F := F) (c := 23) (len := 64) (v := 0) (N := N1) (by decide) hF
  have hf2 : TF N1 N2 := ⟨b3, fun c hc _ => b4 c hc⟩
  have hf3 : TF N2 (setL N2 23 0 1) := ⟨rfl, fun c hc _ => setL_ne hc⟩
  obtain ⟨N3, c1, c2⟩ := times_loop hW (F := F) (s := s) hF 9 0 F (setL N2 23 0 1) rfl (by omega) rfl (((hJ.pf a3).pf hf2.pf).pf hf3.pf) ((a2.tf hf2).tf hf3) (fun x hx => by
    show _ ↔ x ∈ [0]
    rw [List.mem_singleton]
    by_cases e : x / 64 = 0
    · rw [e, setL_at]
      show (1#64).getLsbD (x % 64) = true ↔ _
      rw [BitVec.getLsbD_one]
      simp
      omega
    · rw [setL_nk e, b2' _ (by omega), bL_0]
      constructor
      · intro h; cases h
      · rintro rfl; exact absurd rfl e)
  refine ⟨N3, ?_, ((a3.trans hf2.pf).trans hf3.pf).trans c2.pf⟩
  unfold f_X5_times
  have a1 : f_X5_prepare F N (nI s) (0 : Int32) = some N1 := a1
  rw [a1, Option.bind_some, b1, Option.bind_some, if_pos (by decide)]
  simp only [vlet]
  rw [Nat.zero_add] at c1
  exact c1
