-- part 43: the class's planner: find
theorem okf_set {J : Jr} {s w d x : Nat} {N : Mem} (hO : OKF J s w N) (hx : x < 4096) (hl : lives J s w (nD J - d) d x = false) : OKF J s w (setL N 22 (64 * d + x / 64) (N.2 22 (64 * d + x / 64) ||| ((1 : Int64) <<< ((nI (x % 64)).toInt64 &&& 63)))) := by
  intro d' x' hd' hx' h
  by_cases e : 64 * d' + x' / 64 = 64 * d + x / 64
  · have e1 : d' = d := by omega
    have e2 : x' / 64 = x / 64 := by omega
    subst e1
    rw [e, setL_at, bL_set (Nat.mod_lt _ (by decide)) (Nat.mod_lt _ (by decide)), Bool.or_eq_true] at h
    rcases h with h | h
    · rw [← e] at h
      exact hO d' x' hd' hx' h
    · have h := of_decide_eq_true h
      have : x' = x := by omega
      subst this
      exact hl
  · rw [setL_nk e] at h
    exact hO d' x' hd' hx' h
section LV
variable {J : Jr} {s w r d : Nat} {KR : Mem → Int32 → Int32 → Option (Int32 × Mem)}
theorem on_loop (hW : WJ J) (hd : d + (r + 1) = nD J) {F x : Nat} (hF : 100 ≤ F) (hx : okH J s x) (hK : KRok J s w r d KR) :
    ∀ (m k n : Nat) (N : Mem), k + m = (pairL J s d 36).length → m < n → HX J N 3 → PR J s w N → OKF J s w N → fp J s w (r + 1) d x = ((pairL J s d 36).drop k).findSome? (gP J s w r d x) →
      ∃ N', f_X5_livesOn_67 F KR n (nI d) (nI x) (nI (64 * d + x / 64)) (nI k) N = some (b2 (lives J s w (r + 1) d x), N') ∧ OKF J s w N' ∧ LF d N N' ∧ ∀ l, fp J s w (r + 1) d x = some l → PL N' d l
  | 0, k, n + 1, N, hk, _, hJ, hP, hO, hf => by
    have h8 := hW.2.1
    have hx1 := hx.1
    have hlen := pair_len hW s d 36 (by decide)
    have e : (pairL J s d 36).drop k = [] := List.drop_eq_nil_of_le (by omega)
    rw [e] at hf
    have hf : fp J s w (r + 1) d x = none := hf
    have hl : lives J s w (r + 1) d x = false := by unfold lives; rw [hf]; rfl
    have h19 := (hP.2 d (by omega)).1
    refine ⟨_, ?_, okf_set hO hx1 (by rw [show nD J - d = r + 1 by omega]; exact hl), LF.l, fun l hl => by rw [hf] at hl; cases hl⟩
    rw [f_X5_livesOn_67, hl]
    simp only [vlet]
    simp (disch := omega) only [lit, ltI, leI, eqI, addI, mulI, subI, clI, ckI, if_pos, if_neg, if_true, if_false, Option.bind_some, b2_0, b2_n0, b2_1, b2_n1, Bool.true_eq_false, Bool.false_eq_true, b2_t, b2_f, h19, divI, sub64]
  | m + 1, k, n + 1, N, hk, hn, hJ, hP, hO, hf => by
    have h8 := hW.2.1
    have hx1 := hx.1
    have hlen := pair_len hW s d 36 (by decide)
    have h19 := (hP.2 d (by omega)).1
    have hkl : k < (pairL J s d 36).length := by omega
    have h18 := (hP.2 d (by omega)).2 k hkl
    rw [Nat.mul_comm 9 d] at h18
    have hg : (pairL J s d 36).getD k 0 = (pairL J s d 36)[k] := by rw [List.getD_eq_getElem?_getD, List.getElem?_eq_getElem hkl]; rfl
    obtain ⟨p36, hp⟩ := mem_pairL.mp (List.getElem_mem hkl)
    rw [List.drop_eq_getElem_cons hkl, List.findSome?_cons] at hf
    rw [← hg] at hf p36 hp
    generalize (pairL J s d 36).getD k 0 = p at hf p36 hp h18
    obtain ⟨N1, a1, a2, a3, a4⟩ := with_nat (F := F) hW (show d < nD J by omega) hF hx p36 hp hK hJ hP hO
    have hone : f_X5_livesOn_67 F KR (n + 1) (nI d) (nI x) (nI (64 * d + x / 64)) (nI k) N = if (gP J s w r d x p).isSome = true then some (1, N1) else f_X5_livesOn_67 F KR n (nI d) (nI x) (nI (64 * d + x / 64)) (nI (k + 1)) N1 := by
      rw [f_X5_livesOn_67]
      simp (disch := omega) only [lit, ltI, leI, eqI, addI, mulI, subI, clI, ckI, if_pos, if_neg, if_true, if_false, Option.bind_some, b2_0, b2_n0, b2_1, b2_n1, Bool.true_eq_false, Bool.false_eq_true, b2_t, b2_f, h19, h18, a1]
      cases (gP J s w r d x p).isSome
      · simp (disch := omega) only [lit, ltI, leI, eqI, addI, mulI, subI, clI, ckI, if_pos, if_neg, if_true, if_false, Option.bind_some, b2_0, b2_n0, b2_1, b2_n1, Bool.true_eq_false, Bool.false_eq_true, b2_t, b2_f]
      · simp (disch := omega) only [lit, ltI, leI, eqI, addI, mulI, subI, clI, ckI, if_pos, if_neg, if_true, if_false, Option.bind_some, b2_0, b2_n0, b2_1, b2_n1, Bool.true_eq_false, Bool.false_eq_true, b2_t, b2_f]
    rw [hone]
    cases hgp : gP J s w r d x p with
    | some l =>
      rw [hgp] at hf
      have hf : fp J s w (r + 1) d x = some l := hf
      refine ⟨N1, ?_, a2, a3, fun l' hl => by rw [hf] at hl; cases hl; exact a4 l hgp⟩
      unfold lives
      rw [hf]
      rfl
    | none =>
      rw [hgp] at hf
      obtain ⟨N2, b1, b2', b3, b4⟩ := on_loop hW hd (F := F) hF hx hK m (k + 1) n N1 (by omega) (by omega) (hJ.pf a3.pf) (hP.lf a3) a2 hf
      exact ⟨N2, b1, b2', a3.trans b3, b4⟩
  | _, _, 0, _, _, hn, _, _, _, _ => absurd hn (Nat.not_lt_zero _)
end LV
theorem livesOn_nat {J : Jr} (hW : WJ J) {F s w : Nat} (hF : 100 ≤ F) :
    ∀ (r d n : Nat) (N : Mem) (x : Nat), d + r = nD J → r < n → okH J s x → HX J N 3 → PR J s w N → OKF J s w N →
      ∃ N', f_X5_livesOn F n N (nI d) (nI x) = some (b2 (lives J s w r d x), N') ∧ OKF J s w N' ∧ LF d N N' ∧ ∀ l, fp J s w r d x = some l → PL N' d l
  | 0, d, n + 1, N, x, hd, _, hx, hJ, hP, hO => by
    have h8 := hW.2.1
    refine ⟨N, ?_, hO, LF.refl, fun l hl => ?_⟩
    · rw [f_X5_livesOn]
      unfold f_X5_livesOn_b
      rw [show f_X8_days N 3 = nI (nD J) from hJ.2.1]
      simp (disch := omega) only [lit, ltI, leI, eqI, addI, mulI, subI, clI, ckI, if_pos, if_neg, if_true, if_false, Option.bind_some, b2_0, b2_n0, b2_1, b2_n1, Bool.true_eq_false, Bool.false_eq_true, b2_t, b2_f]
      rfl
    · rw [fp] at hl
      cases hl
      exact fun j hj => absurd hj (Nat.not_lt_zero _)
  | r + 1, d, n + 1, N, x, hd, hn, hx, hJ, hP, hO => by
    have h8 := hW.2.1
    have hx1 := hx.1
    have hK : KRok J s w r d (f_X5_livesOn F n) := fun N x a1 a2 a3 a4 => livesOn_nat hW hF r (d + 1) n N x (by omega) (by omega) a1 a2 a3 a4
    rw [f_X5_livesOn]
    unfold f_X5_livesOn_b
    simp only [vlet]
    rw [show f_X8_days N 3 = nI (nD J) from hJ.2.1]
    have hc : d * 64 + x / 64 = 64 * d + x / 64 := by omega
    cases hb : bL (N.2 22 (64 * d + x / 64)) (x % 64)
    · obtain ⟨N1, a1, a2, a3, a4⟩ := on_loop hW hd (F := F) hF hx hK (pairL J s d 36).length 0 F N (by omega) (by have := pair_len hW s d 36 (by decide); omega) hJ hP hO (by rw [List.drop_zero]; exact fp_pairs)
      refine ⟨N1, ?_, a2, a3, a4⟩
      simp (disch := omega) only [lit, ltI, leI, eqI, addI, mulI, subI, clI, ckI, if_pos, if_neg, if_true, if_false, Option.bind_some, b2_0, b2_n0, b2_1, b2_n1, Bool.true_eq_false, Bool.false_eq_true, b2_t, b2_f, isDay_nat, divI, sub64, hc, bL_get, hb]
      exact a1
    · have hl := hO d x (by omega) hx1 hb
      rw [show nD J - d = r + 1 by omega] at hl
      refine ⟨N, ?_, hO, LF.refl, fun l hl' => ?_⟩
      · simp (disch := omega) only [lit, ltI, leI, eqI, addI, mulI, subI, clI, ckI, if_pos, if_neg, if_true, if_false, Option.bind_some, b2_0, b2_n0, b2_1, b2_n1, Bool.true_eq_false, Bool.false_eq_true, b2_t, b2_f, isDay_nat, divI, sub64, hc, bL_get, hb]
        rw [hl]
        rfl
      · unfold lives at hl
        rw [hl'] at hl
        cases hl
  | _, _, 0, _, _, _, hn, _, _, _, _ => absurd hn (Nat.not_lt_zero _)
/-- the class's find -/
theorem find_nat {J : Jr} (hW : WJ J) {F s w : Nat} {xw : Int32} {N : Mem} (hw : wea xw w) (hF : 4100 ≤ F) (hs : s < 64) (hJ : HX J N 3) :
    ∃ N', f_X5_find F N (nI s) xw = some (b2 (serves J s w), N') ∧ PF N N' ∧ PR J s w N' ∧ ∀ l, fp J s w (nD J) 0 0 = some l → PL N' 0 l := by
  have h8 := hW.2.1
  obtain ⟨N1, a1, a2, a3⟩ := prepare_nat hW (F := F) hw (by omega) hs hJ
  obtain ⟨N2, b1, b2', b3, b4⟩ := fill_nat (F := F) (c := 22) (len := 512) (v := 0) (N := N1) (by decide) hF
  have hf2 : PF N1 N2 := ⟨fun c _ => by rw [b3], fun c hc => b4 c (by omega)⟩
  have hP2 : PR J s w N2 := by unfold PR DP; rw [b3]; exact a2
  obtain ⟨N3, c1, c2, c3, c4⟩ := livesOn_nat hW (F := F) (s := s) (w := w) (by omega) (nD J) 0 10 N2 0 (by omega) (by omega) okH_0 ((hJ.pf a3).pf hf2) hP2 (fun d x hd hx h => by
    rw [b2' _ (by omega), bL_0] at h
    cases h)
  refine ⟨N3, ?_, (a3.trans hf2).trans c3.pf, hP2.lf c3, c4⟩
  unfold f_X5_find
  rw [a1, Option.bind_some, b1, Option.bind_some]
  have c1 : f_X5_livesOn F 10 N2 (0 : Int32) (0 : Int32) = some (b2 (lives J s w (nD J) 0 0), N3) := c1
  rw [c1, Option.bind_some]
  dsimp only
  rw [if_pos b2_and1]
  rfl
