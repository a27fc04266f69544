-- part 23: the law from its entry, down to its loop's function (printed by wip/gen/emitstart.py)
theorem mb1 {w : Cond} (i : Nat) (hi : tables_1_1[i]? = some w) : w ∈ lw_tbl := have h := List.mem_of_getElem? hi; List.mem_append.mpr (Or.inr (List.mem_append.mpr (Or.inl h)))
theorem mb2 {w : Cond} (i : Nat) (hi : tables_1_2[i]? = some w) : w ∈ lw_tbl := have h := List.mem_of_getElem? hi; List.mem_append.mpr (Or.inr (List.mem_append.mpr (Or.inr (List.mem_append.mpr (Or.inl h)))))
theorem mb3 {w : Cond} (i : Nat) (hi : tables_1_3[i]? = some w) : w ∈ lw_tbl := have h := List.mem_of_getElem? hi; List.mem_append.mpr (Or.inr (List.mem_append.mpr (Or.inr (List.mem_append.mpr (Or.inr (List.mem_append.mpr (Or.inl h)))))))
theorem mb4 {w : Cond} (i : Nat) (hi : tables_1_4[i]? = some w) : w ∈ lw_tbl := have h := List.mem_of_getElem? hi; List.mem_append.mpr (Or.inr (List.mem_append.mpr (Or.inr (List.mem_append.mpr (Or.inr (List.mem_append.mpr (Or.inr (List.mem_append.mpr (Or.inl h)))))))))
theorem mb5 {w : Cond} (i : Nat) (hi : tables_1_5[i]? = some w) : w ∈ lw_tbl := have h := List.mem_of_getElem? hi; List.mem_append.mpr (Or.inr (List.mem_append.mpr (Or.inr (List.mem_append.mpr (Or.inr (List.mem_append.mpr (Or.inr (List.mem_append.mpr (Or.inr (List.mem_append.mpr (Or.inl h)))))))))))
theorem mb6 {w : Cond} (i : Nat) (hi : tables_1_6[i]? = some w) : w ∈ lw_tbl := have h := List.mem_of_getElem? hi; List.mem_append.mpr (Or.inr (List.mem_append.mpr (Or.inr (List.mem_append.mpr (Or.inr (List.mem_append.mpr (Or.inr (List.mem_append.mpr (Or.inr (List.mem_append.mpr (Or.inr h)))))))))))
theorem nestL_in : ∀ q ∈ nestL, Cond.methodLinkNest q.1 q.2.1 q.2.2.1 q.2.2.2 ∈ lw_tbl := (List.forall_mem_cons.mpr ⟨mb3 34 rfl, (List.forall_mem_cons.mpr ⟨mb3 49 rfl, (List.forall_mem_cons.mpr ⟨mb3 161 rfl, (List.forall_mem_cons.mpr ⟨mb3 166 rfl, (List.forall_mem_cons.mpr ⟨mb3 167 rfl, (List.forall_mem_cons.mpr ⟨mb3 209 rfl, (List.forall_mem_cons.mpr ⟨mb4 61 rfl, (List.forall_mem_cons.mpr ⟨mb4 67 rfl, (List.forall_mem_cons.mpr ⟨mb4 108 rfl, (fun _ hh => absurd hh List.not_mem_nil)⟩)⟩)⟩)⟩)⟩)⟩)⟩)⟩)⟩)
theorem nestI_in : ∀ q ∈ nestI, Cond.methodLinkNest q.1 q.2.1 q.2.2.1 q.2.2.2 ∈ lw_tbl := (List.forall_mem_cons.mpr ⟨mb1 30 rfl, (List.forall_mem_cons.mpr ⟨mb1 44 rfl, (List.forall_mem_cons.mpr ⟨mb1 113 rfl, (List.forall_mem_cons.mpr ⟨mb1 220 rfl, (fun _ hh => absurd hh List.not_mem_nil)⟩)⟩)⟩)⟩)
theorem sref_in : ∀ q ∈ idxS, Cond.stringRef RX6 q.1 q.2 ∈ lw_tbl := (List.forall_mem_cons.mpr ⟨mb2 119 rfl, (List.forall_mem_cons.mpr ⟨mb2 172 rfl, (List.forall_mem_cons.mpr ⟨mb2 173 rfl, (List.forall_mem_cons.mpr ⟨mb2 174 rfl, (List.forall_mem_cons.mpr ⟨mb2 175 rfl, (List.forall_mem_cons.mpr ⟨mb2 176 rfl, (List.forall_mem_cons.mpr ⟨mb2 177 rfl, (List.forall_mem_cons.mpr ⟨mb2 178 rfl, (fun _ hh => absurd hh List.not_mem_nil)⟩)⟩)⟩)⟩)⟩)⟩)⟩)⟩)
theorem ls_tl : Cond.laysStatic "PackedCase" "TUNE_LEAST" "[I" ∈ lw_tbl := mb3 119 rfl
theorem ls_tm : Cond.laysStatic "PackedCase" "TUNE_MOST" "[I" ∈ lw_tbl := mb3 121 rfl
theorem ls_cs : Cond.laysStatic "java/lang/String" "COMPACT_STRINGS" "Z" ∈ lw_tbl := mb2 133 rfl
theorem ls_sf : Cond.laysStatic "jdk/internal/util/Preconditions" "SIOOBE_FORMATTER" "Ljava/util/function/BiFunction;" ∈ lw_tbl := mb2 149 rfl
theorem in_x : Cond.initialized "PackedCase" ∈ lw_tbl := mb1 1 rfl
theorem in_str : Cond.initialized "java/lang/String" ∈ lw_tbl := mb1 14 rfl
theorem in_pre : Cond.initialized "jdk/internal/util/Preconditions" ∈ lw_tbl := mb1 16 rfl
theorem ins_X0 : Cond.instantiable RX0 3 ∈ lw_tbl := mb1 166 rfl
theorem ins_X1 : Cond.instantiable RX1 2 ∈ lw_tbl := mb1 238 rfl
theorem ins_X2 : Cond.instantiable RX2 4 ∈ lw_tbl := mb1 112 rfl
theorem ins_X3 : Cond.instantiable RX3 4 ∈ lw_tbl := mb1 219 rfl
theorem ins_X4 : Cond.instantiable RX4 9 ∈ lw_tbl := mb1 185 rfl
theorem ins_X5 : Cond.instantiable RX5 9 ∈ lw_tbl := mb1 131 rfl
theorem ins_X6 : Cond.instantiable RX6 7 ∈ lw_tbl := mb1 84 rfl
theorem ins_X7 : Cond.instantiable RX7 2 ∈ lw_tbl := mb1 29 rfl
theorem ins_X8 : Cond.instantiable RX8 11 ∈ lw_tbl := mb1 43 rfl
theorem ins_X9 : Cond.instantiable RX9 13 ∈ lw_tbl := mb1 21 rfl
theorem ins_X10 : Cond.instantiable RX10 33 ∈ lw_tbl := mb5 34 rfl
theorem mlL_9 : Cond.methodLink RL 9 yX9_init ∈ lw_t := mt1 22 rfl rfl
theorem mf_X9_init : MF yX9_init mi_X9_init 0 := ⟨mt1 1 rfl rfl, mt1 24 rfl rfl, ⟨by decide, by decide⟩, by decide +kernel, by decide⟩
theorem im_X9 : Cond.instanceMethod yX9_init ∈ lw_t := mt1 23 rfl rfl
theorem mlL_12 : Cond.methodLink RL 12 yX10_init ∈ lw_t := mt5 35 rfl rfl
theorem mf_X10_init : MF yX10_init mi_X10_init 0 := ⟨mt1 12 rfl rfl, mt5 37 rfl rfl, ⟨by decide, by decide⟩, by decide +kernel, by decide⟩
theorem im_X10 : Cond.instanceMethod yX10_init ∈ lw_t := mt5 36 rfl rfl
theorem g_astore_n {l : Launch} {D : va_G} {aT : Nat → ClassId} {mi : Mi} {dep mc ms q0 cs sl : Nat} {nm : String} {κ : Kg} {pc n : Nat} {st : List Value} {loc : List (Option Value)} {ws : va_W} {i : Fin 4} {x : Nat} (hd : Dec mi pc (.astore_n i) 1 n) (hi : i.val < mi.2.1) (hok : okS loc i.val = true) (k : RG (l, D, aT, mi, dep, nm, mc, ms) q0 κ cs sl n st (loc.set i.val (some (.ref x))) ws) : RG (l, D, aT, mi, dep, nm, mc, ms) q0 κ cs sl pc (.ref x :: st) loc ws := by
  obtain ⟨p, e, R, s, m, args, below, meth, c, Q⟩ := κ
  obtain ⟨hd, rfl⟩ := hd
  intro C H locs ls hl hP hD hS
  exact lv_astore_n C.1.1 C.1.2.1 hd rfl hl hi rfl (fun ls' hl' => k C H locs ls' (lv_put hl' hok) hP hD hS)
def mapA {α β : Type _} (f : Nat → α → β) : Nat → List α → List β
  | _, [] => []
  | k, x :: t => f k x :: mapA f (k + 1) t
theorem mapA_get {α β : Type _} (f : Nat → α → β) : ∀ (l : List α) (k j : Nat), (mapA f k l)[j]? = l[j]?.map (f (k + j))
  | [], k, j => by simp [mapA]
  | x :: t, k, 0 => by simp [mapA]
  | x :: t, k, j + 1 => by
    have h := mapA_get f t (k + 1) j
    have e : k + (j + 1) = k + 1 + j := by omega
    rw [e]
    simpa [mapA] using h
theorem mapA_eq {α β : Type _} {f : Nat → α → β} {l : List α} : l.mapIdx f = mapA f 0 l := by
  apply List.ext_getElem?
  intro j
  rw [List.getElem?_mapIdx, mapA_get, Nat.zero_add]
/-- the heap's numbers when the two objects are new -/
def tune0 : Nat → Int32 := upd (upd (upd (fun _ => 0) (0 : Int32).toNatClampNeg 200) (1 : Int32).toNatClampNeg 2) (2 : Int32).toNatClampNeg 100
def M0 : Mem := (fun c => if c = 26 then fillF (-1) 64 (fun _ => 0) else if c = 35 then tune0 else if c = 43 then tune0 else fun _ => 0, fun _ _ => 0)
def wqf (qx : Nat) (qs : List Nat) (qm : Nat) (qs2 : List Nat) : Nat → Nat := fun k => if k = 0 then qx else if k < 36 then qs.getD (k - 1) 0 else if k = 36 then qm else qs2.getD (k - 37) 0
theorem world_new (D : va_G) (aT : Nat → ClassId) (wad : Nat → Nat) (qx : Nat) (qs : List Nat) (qm : Nat) (qs2 : List Nat) : mk_X9 aT qx qs ++ mk_X10 aT qm qs2 = world (D, aT, wqf qx qs qm qs2, wad) M0 := by
  rw [world, mapA_eq]
  simp only [shL, mapA, entS, fvs, mapA_eq]
  rfl
theorem hc9 : ∀ j, j < 13 → defaultValue (tyX9 j) = vp_V [.null, .null, .null, .null, .null, .null, .null, .null, .null, .null, .null, .null, .null] j := by decide
theorem cnL_7 : Cond.classLink RL 7 RX9 ∈ lw_t ∧ Cond.instantiable RX9 13 ∈ lw_t ∧ Cond.initialized RX9 ∈ lw_t := ⟨mt1 20 rfl rfl, mt1 21 rfl rfl, mt1 1 rfl rfl⟩
theorem cnL_10 : Cond.classLink RL 10 RX10 ∈ lw_t ∧ Cond.instantiable RX10 33 ∈ lw_t ∧ Cond.initialized RX10 ∈ lw_t := ⟨mt5 33 rfl rfl, mt5 34 rfl rfl, mt1 12 rfl rfl⟩
/-- what the Statement says of the start -/
theorem glob_start {s : State} {args : Array Value} (w0 : Nat → Nat) (D : va_G) (aT : Nat → ClassId) (hts : ∀ w ∈ lw_tbl, w.before args s = true) (hgv : (Jvm.Cond.and given_1 narrow_1).before args s = true) (hA : ∀ k, k < NC → s.heap.size ≤ w0 k) : ∃ wad : Nat → Nat, Glob (D, aT, w0, wad) s := by
  have hs := flat_of_before _ hgv
  have hAA : ∀ wad : Nat → Nat, ∀ a : Nat, a < s.heap.size → ¬ AA (D, aT, w0, wad) s.heap.size a := by
    intro wad a ha h
    rcases h with ⟨k, hk, rfl⟩ | h
    · have := hA k hk
      have h2 : wq (D, aT, w0, wad) k = w0 k := rfl
      omega
    · omega
  have hA0 := hAA (fun _ => 0)
  obtain ⟨adK, adV, hS, hE⟩ := vk_Sof (args := args) (s := s) (N := 8) (tm := fun i => Term.string RX6 (idxS.getD i (0, "")).1) (len := lenS) (byt := bytS) (A := AA (D, aT, w0, fun _ => 0) s.heap.size) lenS_lt
    (fun i hi => hs _ ((by decide +kernel : ∀ i, i < 8 → Cond.exactly (Term.string RX6 (idxS.getD i (0, "")).1) "java/lang/String" ∈ flatC (Jvm.Cond.and given_1 narrow_1)) i hi))
    (fun i hi => hs _ ((by decide +kernel : ∀ i, i < 8 → Cond.eq (.field (Term.string RX6 (idxS.getD i (0, "")).1) "java/lang/String" "coder" "B") (.int 0) ∈ flatC (Jvm.Cond.and given_1 narrow_1)) i hi))
    (fun i hi => hs _ ((by decide +kernel : ∀ i, i < 8 → Cond.arrayOf (.field (Term.string RX6 (idxS.getD i (0, "")).1) "java/lang/String" "value" "[B") .byte ∈ flatC (Jvm.Cond.and given_1 narrow_1)) i hi))
    (fun i hi => hs _ ((by decide +kernel : ∀ i, i < 8 → Cond.eq (.length (.field (Term.string RX6 (idxS.getD i (0, "")).1) "java/lang/String" "value" "[B")) (.int (Int32.ofNat (lenS.getD i 0))) ∈ flatC (Jvm.Cond.and given_1 narrow_1)) i hi))
    (fun i hi j hj => hs _ ((by decide +kernel : ∀ i, i < 8 → ∀ j, j < lenS.getD i 0 → Cond.eq (.elem (.field (Term.string RX6 (idxS.getD i (0, "")).1) "java/lang/String" "value" "[B") (.int (Int32.ofNat j))) (.int ((bytS.getD i []).getD j 0)) ∈ flatC (Jvm.Cond.and given_1 narrow_1)) i hi j hj))
    (fun i j hi hj hij => ((by decide +kernel : ∀ i, i < 8 → ∀ j, j < 8 → i ≠ j → Cond.not (Cond.eq (Term.string RX6 (idxS.getD i (0, "")).1) (Term.string RX6 (idxS.getD j (0, "")).1)) ∈ flatC (Jvm.Cond.and given_1 narrow_1) ∨ Cond.not (Cond.eq (Term.string RX6 (idxS.getD j (0, "")).1) (Term.string RX6 (idxS.getD i (0, "")).1)) ∈ flatC (Jvm.Cond.and given_1 narrow_1)) i hi j hj hij).imp (hs _) (hs _))
    hA0
  obtain ⟨tl, htl, hTL⟩ := va_Tof (args := args) (s := s) (tm := .static RX9 "TUNE_LEAST" "[I") (ty := .int) (N := 3) (f := fun j => .int (tlV.getD j 0)) (A := AA (D, aT, w0, fun _ => 0) s.heap.size) (by decide) (hs _ (by decide +kernel)) (va_eqt (hs _ (by decide +kernel)))
    (fun j hj => va_eqt (hs _ ((by decide +kernel : ∀ j, j < 3 → Cond.eq (.elem (.static RX9 "TUNE_LEAST" "[I") (.int (Int32.ofNat j))) (.int (tlV.getD j 0)) ∈ flatC (Jvm.Cond.and given_1 narrow_1)) j hj))) hA0
  obtain ⟨tm, htm, hTM⟩ := va_Tof (args := args) (s := s) (tm := .static RX9 "TUNE_MOST" "[I") (ty := .int) (N := 3) (f := fun j => .int (tmV.getD j 0)) (A := AA (D, aT, w0, fun _ => 0) s.heap.size) (by decide) (hs _ (by decide +kernel)) (va_eqt (hs _ (by decide +kernel)))
    (fun j hj => va_eqt (hs _ ((by decide +kernel : ∀ j, j < 3 → Cond.eq (.elem (.static RX9 "TUNE_MOST" "[I") (.int (Int32.ofNat j))) (.int (tmV.getD j 0)) ∈ flatC (Jvm.Cond.and given_1 narrow_1)) j hj))) hA0
  have hZl := va_Zref (hts _ ls_tl) (hts _ in_x) htl hA0
  have hZm := va_Zref (hts _ ls_tm) (hts _ in_x) htm hA0
  have hCS : va_Z "java/lang/String" "COMPACT_STRINGS" "Z" (.int 1) (AA (D, aT, w0, fun _ => 0) s.heap.size) s s.heap := va_Zof (hts _ ls_cs) (hts _ in_str) (va_eqi (hs _ (by decide +kernel))) hA0
  have hSF : va_Zq "jdk/internal/util/Preconditions" "SIOOBE_FORMATTER" "Ljava/util/function/BiFunction;" (AA (D, aT, w0, fun _ => 0) s.heap.size) s s.heap := va_Zqof (hts _ ls_sf) (hts _ in_pre) (hs _ (by decide +kernel)) hA0
  refine ⟨fun i => if i < 8 then adK i else if i < 16 then adV (i - 8) else if i = 16 then tl else tm, ?_⟩
  have e1 : ∀ i, i < 8 → wa (D, aT, w0, fun i => if i < 8 then adK i else if i < 16 then adV (i - 8) else if i = 16 then tl else tm) i = adK i := fun i hi => if_pos hi
  have e2 : ∀ i, i < 8 → wa (D, aT, w0, fun i => if i < 8 then adK i else if i < 16 then adV (i - 8) else if i = 16 then tl else tm) (8 + i) = adV i := by
    intro i hi
    show (if 8 + i < 8 then _ else if 8 + i < 16 then adV (8 + i - 8) else _) = _
    rw [if_neg (by omega), if_pos (by omega)]
    congr 1
    omega
  refine ⟨⟨fun i hi => ?_, fun i j hi hj e => hS.2 i j hi hj (by rw [← e1 i hi, ← e1 j hj]; exact e)⟩, fun i q hq => ?_, ⟨hZl, hTL⟩, ⟨hZm, hTM⟩, ⟨hCS, hSF⟩, fun q hq => va_Nw.of rfl (hts _ (nestL_in q hq))⟩
  · have h := hS.1 i hi
    show va_O "java/lang/String" (wa _ i) _ s s.heap ∧ va_OF "java/lang/String" "coder" "B" (.int 0) (wa _ i) _ s s.heap ∧ va_OF "java/lang/String" "value" "[B" (.ref (wa _ (8 + i))) (wa _ i) _ s s.heap ∧ va_T .byte (wa _ (8 + i)) _ _ _ s s.heap
    rw [e1 i hi, e2 i hi]
    exact h
  · have hi : i < 8 := (List.getElem?_eq_some_iff.mp hq).1
    rw [e1 i hi]
    have h3 : (Term.string RX6 (idxS.getD i (0, "")).1).eval args s none [] s = some (.ref (adK i)) := hE i hi
    have h4 : idxS.getD i (0, "") = q := by rw [List.getD_eq_getElem?_getD, hq]; rfl
    rw [h4] at h3
    exact vk_R.of (hts _ (sref_in q (List.mem_of_getElem? hq))) h3
set_option maxRecDepth 100000 in
set_option maxHeartbeats 4000000 in
theorem whole_start_open (hpure : ∀ (xs : Nat → Int32) (L : Nat), L ≤ 2560 → ∃ (F n : Nat) (v : Int32 × Mem), f_L_law_18 F xs L n 0 M0 = some v ∧ v.1 = 1) {p : Program} {e : Env} {s : State} {m : MethodId} {below : List Frame} {meth : Method} {c : Code} (l : Launch) {b L : Nat} {xs : Nat → Int32} (hL : L ≤ 2560) (C0 : lw_At p s m meth c b L xs) : W p l e room_1 s m #[Value.ref b] below meth c s.heap [] 0 0 (lw_Z below #[Value.ref b] s) (entryFrame m ([Value.ref b] : List Value).toArray 4) := by
  obtain ⟨hx, hb, hr, hml, hown, hts, hX, hbl, hlocks, hgv⟩ := id C0
  have hts2 : ∀ w ∈ lw_t, w.before #[Value.ref b] s = true := fun w hw => hts w (List.mem_filter.mp hw).1
  obtain ⟨c0, i0, hn0⟩ := u_known (C := RX0) (T := TX0) (N := 3) (n := 3) hts2 inw_X0 (hts _ ins_X0)
  obtain ⟨c1, i1, hn1⟩ := u_known (C := RX1) (T := TX1) (N := 2) (n := 2) hts2 inw_X1 (hts _ ins_X1)
  obtain ⟨c2, i2, hn2⟩ := u_known (C := RX2) (T := TX2) (N := 4) (n := 4) hts2 inw_X2 (hts _ ins_X2)
  obtain ⟨c3, i3, hn3⟩ := u_known (C := RX3) (T := TX3) (N := 4) (n := 4) hts2 inw_X3 (hts _ ins_X3)
  obtain ⟨c4, i4, hn4⟩ := u_known (C := RX4) (T := TX4) (N := 9) (n := 9) hts2 inw_X4 (hts _ ins_X4)
  obtain ⟨c5, i5, hn5⟩ := u_known (C := RX5) (T := TX5) (N := 9) (n := 9) hts2 inw_X5 (hts _ ins_X5)
  obtain ⟨c6, i6, hn6⟩ := u_known (C := RX6) (T := TX6) (N := 7) (n := 7) hts2 inw_X6 (hts _ ins_X6)
  obtain ⟨c7, i7, hn7⟩ := u_known (C := RX7) (T := TX7) (N := 2) (n := 2) hts2 inw_X7 (hts _ ins_X7)
  obtain ⟨c8, i8, hn8⟩ := u_known (C := RX8) (T := TX8) (N := 11) (n := 11) hts2 inw_X8 (hts _ ins_X8)
  obtain ⟨c9, i9, hn9⟩ := u_known (C := RX9) (T := TX9) (N := 13) (n := 13) hts2 inw_X9 (hts _ ins_X9)
  obtain ⟨c10, i10, hn10⟩ := u_known (C := RX10) (T := TX10) (N := 33) (n := 33) hts2 inw_X10 (hts _ ins_X10)
  obtain ⟨D, hKc⟩ : ∃ D : va_G, ∀ (k : Nat) (q : vw_C), cls[k]? = some q → u_Kn s q.1 q.2.1 q.2.2 (D.1 k) (D.2 k) := by
    refine ⟨(fun k => if k = 0 then c0 else if k = 1 then c1 else if k = 2 then c2 else if k = 3 then c3 else if k = 4 then c4 else if k = 5 then c5 else if k = 6 then c6 else if k = 7 then c7 else if k = 8 then c8 else if k = 9 then c9 else c10, fun k => if k = 0 then i0 else if k = 1 then i1 else if k = 2 then i2 else if k = 3 then i3 else if k = 4 then i4 else if k = 5 then i5 else if k = 6 then i6 else if k = 7 then i7 else if k = 8 then i8 else if k = 9 then i9 else i10), ?_⟩
    intro k q hq
    match k, hq with
    | 0, hq => cases hq; exact hn0
    | 1, hq => cases hq; exact hn1
    | 2, hq => cases hq; exact hn2
    | 3, hq => cases hq; exact hn3
    | 4, hq => cases hq; exact hn4
    | 5, hq => cases hq; exact hn5
    | 6, hq => cases hq; exact hn6
    | 7, hq => cases hq; exact hn7
    | 8, hq => cases hq; exact hn8
    | 9, hq => cases hq; exact hn9
    | 10, hq => cases hq; exact hn10
    | k + 11, hq => simp [cls] at hq
  have harr : ∀ ty : FieldType, Cond.arrayClass ty ∈ lw_t → (∀ n, ty ≠ .object n) → ∃ cA : ClassId, ArrOfT s cA ty ∧ va_RA s cA ty := by
    intro ty hm hno
    obtain ⟨cA, kA, comp, h1, h2, h3⟩ := Cond.arrayClass_spec (hts2 _ hm)
    refine ⟨cA, fun n z => ⟨fun k h => (by cases h), kA, h2, comp, h3⟩, ?_⟩
    cases ty with
    | object n => exact absurd rfl (hno n)
    | _ => exact h1
  obtain ⟨a0, ha0⟩ := harr .int ac_0 (fun n h => by cases h)
  obtain ⟨a1, ha1⟩ := harr .byte ac_1 (fun n h => by cases h)
  obtain ⟨a2, ha2⟩ := harr .boolean ac_2 (fun n h => by cases h)
  obtain ⟨a3, ha3⟩ := harr .long ac_3 (fun n h => by cases h)
  obtain ⟨aT, haT⟩ : ∃ aT : Nat → ClassId, aT 0 = a0 ∧ aT 1 = a1 ∧ aT 2 = a2 ∧ aT 3 = a3 := ⟨fun k => if k = 0 then a0 else if k = 1 then a1 else if k = 2 then a2 else a3, rfl, rfl, rfl, rfl⟩
  obtain ⟨rfl, rfl, rfl, rfl⟩ := haT
  have hK : va_K D cls (tysA aT) s := by
    refine ⟨hKc, fun k q h => ?_⟩
    match k, h with
    | 0, h => cases h; exact ha0
    | 1, h => cases h; exact ha1
    | 2, h => cases h; exact ha2
    | 3, h => cases h; exact ha3
    | k + 4, h => simp [tysA] at h
  have hNI : NestI s := fun q hq => va_Nw.of rfl (hts _ (nestI_in q hq))
  have hl := lv_entry ([.ref b]) (n := 4) (Nat.le_of_ble_eq_true rfl)
  rw [lg_entry_eq]
  generalize (lg_sl ([.ref b]) ++ List.replicate (4 - (lg_sl ([.ref b])).length) Slot.unset).toArray = ls at hl ⊢
  have hl : lv_has ls 4 (lvOf [some (.ref b), none, none, none]) := hl
  have C : CtxG D aT mi_L_law (AI s.heap.size s.heap.size) 100 meth.name 600000 7302250 p room_1 s m #[Value.ref b] meth c := ⟨⟨hx, hb, hml, hown, hts2⟩, ⟨hr, hlocks⟩, hK, fun q h => Or.inr h, hNI, ⟨Nat.le_of_ble_eq_true rfl, Nat.le_of_ble_eq_true rfl, Nat.le_refl _, Nat.le_refl _⟩, rfl⟩
  have hD : va_D (AI s.heap.size s.heap.size) ([] : va_W) := ⟨fun i j p q h => by simp at h, fun k q h => by simp at h⟩
  have hP : va_P D cls ([] : va_W) s.heap := fun k q h => by simp at h
  have main : RG (l, D, aT, mi_L_law, 100, meth.name, 600000, 7302250) s.heap.size (p, e, room_1, s, m, #[Value.ref b], below, meth, c, lw_Z below #[Value.ref b] s) 0 0 0 [] [some (.ref b), none, none, none] [] := by
    refine g_new (ci := 9) (fs := [.null, .null, .null, .null, .null, .null, .null, .null, .null, .null, .null, .null, .null]) (fun q => [(q, .inr (9, [.null, .null, .null, .null, .null, .null, .null, .null, .null, .null, .null, .null, .null]))]) D_L_law_0 rfl inw_X9 tyX9_ok cnL_7 hc9 (by decide) (by decide) (fun _ => rfl) fun qx => ?_
    refine g_dup D_L_law_3 rfl <| g_callI (wr := []) (av := []) D_L_law_4 mlL_9 mf_X9_init im_X9 rfl rfl (k_X9 l D aT qx) (Nat.le_of_ble_eq_true rfl) rfl rfl (Nat.le_of_ble_eq_true rfl) rfl (by decide) (by decide) fun qs hqs => g_astore_n D_L_law_7 (by decide) rfl ?_
    refine g_new (ci := 10) (fs := [.long 0, .null, .int 0, .null, .null, .null, .null, .null, .null, .int 0, .int 0, .int 0, .int 0, .int 0, .int 0, .null, .null, .null, .null, .null, .null, .null, .int 0, .int 0, .null, .null, .null, .null, .null, .null, .int 0, .null, .null]) (fun q => mk_X9 aT qx qs ++ [(q, .inr (10, [.long 0, .null, .int 0, .null, .null, .null, .null, .null, .null, .int 0, .int 0, .int 0, .int 0, .int 0, .int 0, .null, .null, .null, .null, .null, .null, .null, .int 0, .int 0, .null, .null, .null, .null, .null, .null, .int 0, .null, .null]))]) D_L_law_8 rfl inw_X10 tyX10_ok cnL_10 (by decide) (by decide) (by decide) (fun _ => rfl) fun qm => ?_
    refine g_dup D_L_law_11 rfl <| g_callI (wr := mk_X9 aT qx qs) (av := []) D_L_law_12 mlL_12 mf_X10_init im_X10 rfl rfl (k_X10 l D aT qm) (Nat.le_of_ble_eq_true rfl) rfl rfl (Nat.le_of_ble_eq_true rfl) rfl (by decide) (by decide) fun qs2 hqs2 => g_astore_n D_L_law_15 (by decide) rfl <| g_iconst D_L_law_16 (show Int32.ofInt 0 = 0 by decide) <| g_istore_n D_L_law_17 (by decide) rfl ?_
    intro C H locs ls hl hP hD hS
    have hA : ∀ a, AI s.heap.size s.heap.size a → s.heap.size ≤ a := fun a h => h.elim (fun e => Nat.le_of_eq e.symm) id
    have hw0 : ∀ wad : Nat → Nat, mk_X9 aT qx qs ++ mk_X10 aT qm qs2 = world (D, aT, wqf qx qs qm qs2, wad) M0 := fun wad => world_new D aT wad qx qs qm qs2
    have hge : ∀ k, k < NC → s.heap.size ≤ wqf qx qs qm qs2 k := by
      intro k hk
      have h1 : shL[k]? = some shL[k] := List.getElem?_eq_getElem (NC_ok ▸ hk)
      have h2 := hD.2 k _ (by rw [hw0 (fun _ => 0)]; exact world_at h1)
      exact hA _ h2
    obtain ⟨wad, hG⟩ := glob_start (wqf qx qs qm qs2) D aT hts hgv hge
    have hAA : ∀ a, AA (D, aT, wqf qx qs qm qs2, wad) s.heap.size a → s.heap.size ≤ a := by
      intro a h
      rcases h with ⟨k, hk, rfl⟩ | h
      · exact hge k hk
      · exact h
    have hinj : Inj (D, aT, wqf qx qs qm qs2, wad) := by
      intro i j hi hj e
      have h1 : shL[i]? = some shL[i] := List.getElem?_eq_getElem (NC_ok ▸ hi)
      have h2 : shL[j]? = some shL[j] := List.getElem?_eq_getElem (NC_ok ▸ hj)
      exact hD.1 i j _ _ (by rw [hw0 wad]; exact world_at h1) (by rw [hw0 wad]; exact world_at h2) e
    obtain ⟨F, n, v, hf, hv⟩ := hpure xs L hL
    have hbA : ¬ AA (D, aT, wqf qx qs qm qs2, wad) s.heap.size b := fun h => absurd (hAA b h) (Nat.not_le.mpr hbl)
    have hS2 : va_S (AA (D, aT, wqf qx qs qm qs2, wad) s.heap.size) s.heap H locs := ⟨hS.1, fun q h1 _ => hS.2.1 q h1 (fun h => absurd (hA q h) (Nat.not_le.mpr h1)), fun q hq => Or.inr (hA _ (hS.2.2 q hq))⟩
    have hR := x_L_law_18 (l := l) (w := (D, aT, wqf qx qs qm qs2, wad)) (κ := (p, e, room_1, s, m, #[Value.ref b], below, meth, c, 0 + 1 + 35 + 1 + 22, 0 + 13 + 2587 + 33 + 13061, lw_Z below #[Value.ref b] s)) ⟨rfl, Nat.le_of_ble_eq_true rfl, Nat.le_of_ble_eq_true rfl, hAA, b, rfl, rfl⟩ ⟨hX, hbl, hbA⟩ hv n 0 M0 hf
    exact hR ⟨⟨hx, hb, hml, hown, hts2⟩, ⟨hr, hlocks⟩, hK, hinj, hG, ⟨Nat.le_of_ble_eq_true rfl, Nat.le_of_ble_eq_true rfl, Nat.le_of_ble_eq_true rfl, Nat.le_of_ble_eq_true rfl⟩⟩ H locs ls hl (by rw [← hw0 wad]; exact hP) hS2
  exact main C s.heap [] ls hl hP hD va_S.rf

