-- part 99h: the law's loop
section LAW
variable {F : Nat} {xs : Nat → Int32} {L : Nat}
set_option maxHeartbeats 4000000 in
theorem law_step (hF : 4100 ≤ F) (hL : L ≤ 2560) {n i S : Nat} {N : Mem} (hi : i + 5 ≤ L) (h : INV N S) (hS : S + 131072 < 2 ^ 31) : ∃ N' S', f_L_law_18 F xs L (n + 1) (nI i) N = f_L_law_18 F xs L n (nI (i + 5)) N' ∧ INV N' S' ∧ S' ≤ S + 131072 := by
  have e5 : nI i + (5 : Int32) = nI (i + 5) := addI i 5
  have eL : (Int32.ofNat L) - (5 : Int32) = nI (L - 5) := subI (a := L) (b := 5) (by omega)
  have hlt : ¬ nI (L - 5) < nI i := by
    rw [ltI (by omega) (by omega)]
    omega
  have hk0 : ck (nI i) L = true := ckI (by omega) (by omega)
  have hk1 : ck (nI i + (1 : Int32)) L = true := by
    rw [show nI i + (1 : Int32) = nI (i + 1) from addI i 1]
    exact ckI (by omega) (by omega)
  have hk2 : ck (nI i + (2 : Int32)) L = true := by
    rw [show nI i + (2 : Int32) = nI (i + 2) from addI i 2]
    exact ckI (by omega) (by omega)
  have hk3 : ck (nI i + (3 : Int32)) L = true := by
    rw [show nI i + (3 : Int32) = nI (i + 3) from addI i 3]
    exact ckI (by omega) (by omega)
  have hk4 : ck (nI i + (4 : Int32)) L = true := by
    rw [show nI i + (4 : Int32) = nI (i + 4) from addI i 4]
    exact ckI (by omega) (by omega)
  rw [f_L_law_18, eL, if_neg hlt, if_pos hk0, e5]
  -- type
  by_cases c0 : (xs (nI i).toNatClampNeg) &&& (31 : Int32) = (0 : Int32)
  · obtain ⟨v, N1, N2, S', e1, e2, hi', hs'⟩ := use_call (c_type hF ((((xs (nI i + (1 : Int32)).toNatClampNeg).toInt64) <<< ((32 : Int32).toInt64 &&& 63)) ||| ((xs (nI i + (2 : Int32)).toNatClampNeg).toInt64 &&& (4294967295 : Int64))) (xs (nI i + (3 : Int32)).toNatClampNeg)) h hS
    refine ⟨N2, S', ?_, hi', hs'⟩
    rw [if_pos c0]
    simp only [hk1, hk2, hk3, hk4, if_true, e1, e2, Option.bind_some]
  rw [if_neg c0]
  -- clear
  by_cases c1 : (xs (nI i).toNatClampNeg) &&& (31 : Int32) = (1 : Int32)
  · obtain ⟨v, N1, N2, S', e1, e2, hi', hs'⟩ := use_call (c_clear) h hS
    refine ⟨N2, S', ?_, hi', hs'⟩
    rw [if_pos c1]
    simp only [hk1, hk2, hk3, hk4, if_true, e1, e2, Option.bind_some]
  rw [if_neg c1]
  -- journey
  by_cases c2 : (xs (nI i).toNatClampNeg) &&& (31 : Int32) = (2 : Int32)
  · obtain ⟨v, N1, N2, S', e1, e2, hi', hs'⟩ := use_call (c_journey hF) h hS
    refine ⟨N2, S', ?_, hi', hs'⟩
    rw [if_pos c2]
    simp only [hk1, hk2, hk3, hk4, if_true, e1, e2, Option.bind_some]
  rw [if_neg c2]
  -- thing
  by_cases c3 : (xs (nI i).toNatClampNeg) &&& (31 : Int32) = (3 : Int32)
  · obtain ⟨v, e1, e2⟩ := use_ask (a_thing (xs (nI i + (1 : Int32)).toNatClampNeg) (xs (nI i + (2 : Int32)).toNatClampNeg)) h
    refine ⟨N, S, ?_, h, by omega⟩
    rw [if_pos c3]
    simp only [hk1, hk2, hk3, hk4, if_true, e1, e2, Option.bind_some]
  rw [if_neg c3]
  -- goes
  by_cases c4 : (xs (nI i).toNatClampNeg) &&& (31 : Int32) = (4 : Int32)
  · obtain ⟨v, e1, e2⟩ := use_ask (a_goes (xs (nI i + (1 : Int32)).toNatClampNeg) (xs (nI i + (2 : Int32)).toNatClampNeg)) h
    refine ⟨N, S, ?_, h, by omega⟩
    rw [if_pos c4]
    simp only [hk1, hk2, hk3, hk4, if_true, e1, e2, Option.bind_some]
  rw [if_neg c4]
  -- day
  by_cases c5 : (xs (nI i).toNatClampNeg) &&& (31 : Int32) = (5 : Int32)
  · obtain ⟨v, e1, e2⟩ := use_ask (a_day (xs (nI i + (1 : Int32)).toNatClampNeg) (xs (nI i + (2 : Int32)).toNatClampNeg)) h
    refine ⟨N, S, ?_, h, by omega⟩
    rw [if_pos c5]
    simp only [hk1, hk2, hk3, hk4, if_true, e1, e2, Option.bind_some]
  rw [if_neg c5]
  -- tune
  by_cases c6 : (xs (nI i).toNatClampNeg) &&& (31 : Int32) = (6 : Int32)
  · obtain ⟨v, N1, N2, S', e1, e2, hi', hs'⟩ := use_call (c_tune (xs (nI i + (1 : Int32)).toNatClampNeg) (xs (nI i + (2 : Int32)).toNatClampNeg)) h hS
    refine ⟨N2, S', ?_, hi', hs'⟩
    rw [if_pos c6]
    simp only [hk1, hk2, hk3, hk4, if_true, e1, e2, Option.bind_some]
  rw [if_neg c6]
  -- packs
  by_cases c7 : (xs (nI i).toNatClampNeg) &&& (31 : Int32) = (7 : Int32)
  · obtain ⟨v, N1, N2, S', e1, e2, hi', hs'⟩ := use_call (c_packs (xs (nI i + (1 : Int32)).toNatClampNeg)) h hS
    refine ⟨N2, S', ?_, hi', hs'⟩
    rw [if_pos c7]
    simp only [hk1, hk2, hk3, hk4, if_true, e1, e2, Option.bind_some]
  rw [if_neg c7]
  -- live
  by_cases c8 : (xs (nI i).toNatClampNeg) &&& (31 : Int32) = (8 : Int32)
  · obtain ⟨v, N1, N2, S', e1, e2, hi', hs'⟩ := use_call (c_live hF (xs (nI i + (1 : Int32)).toNatClampNeg) (xs (nI i + (2 : Int32)).toNatClampNeg) (xs (nI i + (3 : Int32)).toNatClampNeg) (xs (nI i + (4 : Int32)).toNatClampNeg)) h hS
    refine ⟨N2, S', ?_, hi', hs'⟩
    rw [if_pos c8]
    simp only [hk1, hk2, hk3, hk4, if_true, e1, e2, Option.bind_some]
  rw [if_neg c8]
  -- now
  by_cases c9 : (xs (nI i).toNatClampNeg) &&& (31 : Int32) = (9 : Int32)
  · obtain ⟨v, e1, e2⟩ := use_ask (a_now hF (xs (nI i + (1 : Int32)).toNatClampNeg)) h
    refine ⟨N, S, ?_, h, by omega⟩
    rw [if_pos c9]
    simp only [hk1, hk2, hk3, hk4, if_true, e1, e2, Option.bind_some]
  rw [if_neg c9]
  -- serves
  by_cases c10 : (xs (nI i).toNatClampNeg) &&& (31 : Int32) = (10 : Int32)
  · obtain ⟨v, N1, N2, S', e1, e2, hi', hs'⟩ := use_call (c_serves hF (xs (nI i + (1 : Int32)).toNatClampNeg) (xs (nI i + (2 : Int32)).toNatClampNeg)) h hS
    refine ⟨N2, S', ?_, hi', hs'⟩
    rw [if_pos c10]
    simp only [hk1, hk2, hk3, hk4, if_true, e1, e2, Option.bind_some]
  rw [if_neg c10]
  -- plan
  by_cases c11 : (xs (nI i).toNatClampNeg) &&& (31 : Int32) = (11 : Int32)
  · obtain ⟨v, N1, N2, S', e1, e2, hi', hs'⟩ := use_call (c_plan hF (xs (nI i + (1 : Int32)).toNatClampNeg) (xs (nI i + (2 : Int32)).toNatClampNeg) (xs (nI i + (3 : Int32)).toNatClampNeg) (xs (nI i + (4 : Int32)).toNatClampNeg)) h hS
    refine ⟨N2, S', ?_, hi', hs'⟩
    rw [if_pos c11]
    simp only [hk1, hk2, hk3, hk4, if_true, e1, e2, Option.bind_some]
  rw [if_neg c11]
  -- odds
  by_cases c12 : (xs (nI i).toNatClampNeg) &&& (31 : Int32) = (12 : Int32)
  · obtain ⟨v, N1, N2, S', e1, e2, hi', hs'⟩ := use_call (c_odds hF (xs (nI i + (1 : Int32)).toNatClampNeg)) h hS
    refine ⟨N2, S', ?_, hi', hs'⟩
    rw [if_pos c12]
    simp only [hk1, hk2, hk3, hk4, if_true, e1, e2, Option.bind_some]
  rw [if_neg c12]
  -- least
  by_cases c13 : (xs (nI i).toNatClampNeg) &&& (31 : Int32) = (13 : Int32)
  · obtain ⟨v, N1, N2, S', e1, e2, hi', hs'⟩ := use_call (c_least hF (xs (nI i + (1 : Int32)).toNatClampNeg) (xs (nI i + (2 : Int32)).toNatClampNeg)) h hS
    refine ⟨N2, S', ?_, hi', hs'⟩
    rw [if_pos c13]
    simp only [hk1, hk2, hk3, hk4, if_true, e1, e2, Option.bind_some]
  rw [if_neg c13]
  -- needless
  by_cases c14 : (xs (nI i).toNatClampNeg) &&& (31 : Int32) = (14 : Int32)
  · obtain ⟨v, N1, N2, S', e1, e2, hi', hs'⟩ := use_call (c_needless hF (xs (nI i + (1 : Int32)).toNatClampNeg) (xs (nI i + (2 : Int32)).toNatClampNeg) (xs (nI i + (3 : Int32)).toNatClampNeg)) h hS
    refine ⟨N2, S', ?_, hi', hs'⟩
    rw [if_pos c14]
    simp only [hk1, hk2, hk3, hk4, if_true, e1, e2, Option.bind_some]
  rw [if_neg c14]
  -- buy
  by_cases c15 : (xs (nI i).toNatClampNeg) &&& (31 : Int32) = (15 : Int32)
  · obtain ⟨v, N1, N2, S', e1, e2, hi', hs'⟩ := use_call (c_buy hF (xs (nI i + (1 : Int32)).toNatClampNeg) (xs (nI i + (2 : Int32)).toNatClampNeg) (xs (nI i + (3 : Int32)).toNatClampNeg)) h hS
    refine ⟨N2, S', ?_, hi', hs'⟩
    rw [if_pos c15]
    simp only [hk1, hk2, hk3, hk4, if_true, e1, e2, Option.bind_some]
  rw [if_neg c15]
  -- desk
  by_cases c16 : (xs (nI i).toNatClampNeg) &&& (31 : Int32) = (16 : Int32)
  · obtain ⟨v, N1, N2, S', e1, e2, hi', hs'⟩ := use_call (c_desk hF (xs (nI i + (1 : Int32)).toNatClampNeg) (xs (nI i + (2 : Int32)).toNatClampNeg)) h hS
    refine ⟨N2, S', ?_, hi', hs'⟩
    rw [if_pos c16]
    simp only [hk1, hk2, hk3, hk4, if_true, e1, e2, Option.bind_some]
  rw [if_neg c16]
  -- pack
  by_cases c17 : (xs (nI i).toNatClampNeg) &&& (31 : Int32) = (17 : Int32)
  · obtain ⟨v, N1, N2, S', e1, e2, hi', hs'⟩ := use_call (c_pack hF (xs (nI i + (1 : Int32)).toNatClampNeg) (xs (nI i + (2 : Int32)).toNatClampNeg) (xs (nI i + (3 : Int32)).toNatClampNeg)) h hS
    refine ⟨N2, S', ?_, hi', hs'⟩
    rw [if_pos c17]
    simp only [hk1, hk2, hk3, hk4, if_true, e1, e2, Option.bind_some]
  rw [if_neg c17]
  -- allGo
  by_cases c18 : (xs (nI i).toNatClampNeg) &&& (31 : Int32) = (18 : Int32)
  · obtain ⟨v, e1, e2⟩ := use_ask (a_allGo hF (xs (nI i + (1 : Int32)).toNatClampNeg)) h
    refine ⟨N, S, ?_, h, by omega⟩
    rw [if_pos c18]
    simp only [hk1, hk2, hk3, hk4, if_true, e1, e2, Option.bind_some]
  rw [if_neg c18]
  -- again
  by_cases c19 : (xs (nI i).toNatClampNeg) &&& (31 : Int32) = (19 : Int32)
  · obtain ⟨v, N1, N2, S', e1, e2, hi', hs'⟩ := use_call (c_again hF (xs (nI i + (1 : Int32)).toNatClampNeg)) h hS
    refine ⟨N2, S', ?_, hi', hs'⟩
    rw [if_pos c19]
    simp only [hk1, hk2, hk3, hk4, if_true, e1, e2, Option.bind_some]
  rw [if_neg c19]
  -- list
  by_cases c20 : (xs (nI i).toNatClampNeg) &&& (31 : Int32) = (20 : Int32)
  · obtain ⟨v, N1, N2, S', e1, e2, hi', hs'⟩ := use_call (c_list hF (xs (nI i + (1 : Int32)).toNatClampNeg) (xs (nI i + (2 : Int32)).toNatClampNeg)) h hS
    refine ⟨N2, S', ?_, hi', hs'⟩
    rw [if_pos c20]
    simp only [hk1, hk2, hk3, hk4, if_true, e1, e2, Option.bind_some]
  rw [if_neg c20]
  -- span
  by_cases c21 : (xs (nI i).toNatClampNeg) &&& (31 : Int32) = (21 : Int32)
  · obtain ⟨v, e1, e2⟩ := use_ask (a_span hF (xs (nI i + (1 : Int32)).toNatClampNeg)) h
    refine ⟨N, S, ?_, h, by omega⟩
    rw [if_pos c21]
    simp only [hk1, hk2, hk3, hk4, if_true, e1, e2, Option.bind_some]
  rw [if_neg c21]
  -- use
  by_cases c22 : (xs (nI i).toNatClampNeg) &&& (31 : Int32) = (22 : Int32)
  · obtain ⟨v, N1, N2, S', e1, e2, hi', hs'⟩ := use_call (c_use (xs (nI i + (1 : Int32)).toNatClampNeg) (xs (nI i + (2 : Int32)).toNatClampNeg)) h hS
    refine ⟨N2, S', ?_, hi', hs'⟩
    rw [if_pos c22]
    simp only [hk1, hk2, hk3, hk4, if_true, e1, e2, Option.bind_some]
  rw [if_neg c22]
  -- keep
  by_cases c23 : (xs (nI i).toNatClampNeg) &&& (31 : Int32) = (23 : Int32)
  · obtain ⟨v, N1, N2, S', e1, e2, hi', hs'⟩ := use_call (c_keep (xs (nI i + (1 : Int32)).toNatClampNeg)) h hS
    refine ⟨N2, S', ?_, hi', hs'⟩
    rw [if_pos c23]
    simp only [hk1, hk2, hk3, hk4, if_true, e1, e2, Option.bind_some]
  rw [if_neg c23]
  -- back
  by_cases c24 : (xs (nI i).toNatClampNeg) &&& (31 : Int32) = (24 : Int32)
  · obtain ⟨v, N1, N2, S', e1, e2, hi', hs'⟩ := use_call (c_back (xs (nI i + (1 : Int32)).toNatClampNeg)) h hS
    refine ⟨N2, S', ?_, hi', hs'⟩
    rw [if_pos c24]
    simp only [hk1, hk2, hk3, hk4, if_true, e1, e2, Option.bind_some]
  rw [if_neg c24]
  -- count
  by_cases c25 : (xs (nI i).toNatClampNeg) &&& (31 : Int32) = (25 : Int32)
  · obtain ⟨v, e1, e2⟩ := use_ask (a_count hF (xs (nI i + (1 : Int32)).toNatClampNeg)) h
    refine ⟨N, S, ?_, h, by omega⟩
    rw [if_pos c25]
    simp only [hk1, hk2, hk3, hk4, if_true, e1, e2, Option.bind_some]
  rw [if_neg c25]
  -- trace
  have ht : lg_cmp (f_X9_trace N) (f_X10_trace N) = 0 := by
    obtain ⟨σ, -, -, -, -, ht⟩ := h
    exact (lg_cmp_eq _ _).mpr ht
  refine ⟨N, S, ?_, h, by omega⟩
  rw [if_pos ht]
  by_cases c26 : (xs (nI i).toNatClampNeg) &&& (31 : Int32) = (26 : Int32)
  · rw [if_pos c26]
  · rw [if_neg c26]
theorem low5 : ∀ L, L < 5 → ((nI L) - (5 : Int32)).toInt < 0 := by decide +kernel
theorem law_end {n i : Nat} {N : Mem} (hL : L ≤ 2560) (hi : L < i + 5) (hi2 : i < 4000) : f_L_law_18 F xs L (n + 1) (nI i) N = some (1, N) := by
  have hlt : (Int32.ofNat L) - (5 : Int32) < nI i := by
    by_cases c : 5 ≤ L
    · have eL : (Int32.ofNat L) - (5 : Int32) = nI (L - 5) := subI (a := L) (b := 5) c
      rw [eL, ltI (by omega) (by omega)]
      omega
    · have h1 : ((Int32.ofNat L) - (5 : Int32)).toInt < 0 := low5 L (by omega)
      apply Int32.lt_iff_toInt_lt.mpr
      rw [nI_toInt (by omega)]
      omega
  rw [f_L_law_18, if_pos hlt]
theorem law_loop (hF : 4100 ≤ F) (hL : L ≤ 2560) : ∀ (m k n S : Nat) (N : Mem), L < 5 * k + 5 * m + 5 → m < n → 5 * k ≤ L + 4 → S ≤ 131072 * k → INV N S → ∃ v, f_L_law_18 F xs L n (nI (5 * k)) N = some v ∧ v.1 = 1
  | 0, k, n + 1, S, N, h1, _, h3, hs, h => ⟨(1, N), law_end hL (by omega) (by omega), rfl⟩
  | m + 1, k, n + 1, S, N, h1, hn, h3, hs, h => by
    by_cases c : 5 * k + 5 ≤ L
    · obtain ⟨N', S', a, b, d⟩ := law_step (n := n) hF hL c h (by omega)
      obtain ⟨v, e1, e2⟩ := law_loop hF hL m (k + 1) n S' N' (by omega) (by omega) (by omega) (by omega) b
      refine ⟨v, ?_, e2⟩
      rw [a, show 5 * k + 5 = 5 * (k + 1) by omega]
      exact e1
    · exact ⟨(1, N), law_end hL (by omega) (by omega), rfl⟩
  | _, _, 0, _, _, _, hn, _, _, _ => absurd hn (Nat.not_lt_zero _)
end LAW
-- two new objects
def t0 (k : Nat) : Nat := if k = 0 then 200 else if k = 1 then 2 else 100
def σ0 : SS := (J0, [], t0, (0, 0, 0), (false, (0, 0, 0)), (false, (0, 0, 0)), [])
theorem inv0 : INV M0 0 := by
  refine ⟨σ0, ⟨QJ0, ⟨Nat.zero_le _, fun p h => absurd h List.not_mem_nil⟩, fun k hk => ?_, ⟨Nat.zero_le _, okH_0, by decide⟩, fun q hq h => ?_, WTx.nil⟩, ⟨⟨rfl, rfl, rfl, rfl, rfl, rfl, rfl, rfl, fun i hi => absurd hi (Nat.not_lt_zero _), fun i hi => absurd hi (Nat.not_lt_zero _), fun i hi => absurd hi (Nat.not_lt_zero _)⟩, fun s hs => Or.inr ?_, ⟨rfl, rfl, rfl, fun j hj => absurd hj (Nat.not_lt_zero _)⟩, fun k hk => ?_, ⟨rfl, rfl, rfl⟩, fun q hq => ⟨?_, fun h => ?_⟩, ⟨rfl, fun j hj => absurd hj (Nat.not_lt_zero _)⟩⟩, ⟨⟨rfl, rfl, fun i hi => absurd hi (Nat.not_lt_zero _), fun i hi => absurd hi (Nat.not_lt_zero _), fun i hi => absurd hi (Nat.not_lt_zero _)⟩, ⟨rfl, fun j hj => absurd hj (Nat.not_lt_zero _)⟩, fun k hk => ?_, ⟨rfl, rfl, rfl⟩, fun q hq => ⟨?_, fun h => ?_⟩, ⟨rfl, fun j hj => absurd hj (Nat.not_lt_zero _)⟩⟩, ⟨rfl, fun j _ => ⟨0, Nat.le_refl _, rfl⟩⟩, rfl⟩
  · rcases (by omega : k = 0 ∨ k = 1 ∨ k = 2) with rfl | rfl | rfl <;> decide
  · exfalso
    rcases (by omega : q = 0 ∨ q = 1) with rfl | rfl <;> cases h
  · show fillF (-1) 64 (fun _ => 0) s = -1
    unfold fillF
    rw [if_pos hs]
  · rcases (by omega : k = 0 ∨ k = 1 ∨ k = 2) with rfl | rfl | rfl <;> rfl
  · rcases (by omega : q = 0 ∨ q = 1) with rfl | rfl <;> rfl
  · exfalso
    rcases (by omega : q = 0 ∨ q = 1) with rfl | rfl <;> cases h
  · rcases (by omega : k = 0 ∨ k = 1 ∨ k = 2) with rfl | rfl | rfl <;> rfl
  · rcases (by omega : q = 0 ∨ q = 1) with rfl | rfl <;> rfl
  · exfalso
    rcases (by omega : q = 0 ∨ q = 1) with rfl | rfl <;> cases h
theorem hpure (xs : Nat → Int32) (L : Nat) (hL : L ≤ 2560) : ∃ (F n : Nat) (v : Int32 × Mem), f_L_law_18 F xs L n 0 M0 = some v ∧ v.1 = 1 := by
  obtain ⟨v, h1, h2⟩ := law_loop (F := 4200) (xs := xs) (L := L) (by decide) hL 600 0 700 0 M0 (by omega) (by decide) (by omega) (by decide) inv0
  exact ⟨4200, 700, v, h1, h2⟩
