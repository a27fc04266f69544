-- part 03: the light layer: one judgement RR over the kit's W, with the whole heap as two tables of numbers
abbrev Sh : Type := (Nat × Nat) ⊕ (Nat × List Nat)
abbrev Mem : Type := (Nat → Nat → Int32) × (Nat → Nat → Int64)
abbrev Wd : Type := va_G × (Nat → ClassId) × (Nat → Nat) × (Nat → Nat)
abbrev Mi : Type := ByteArray × Nat × String × Option FieldType
abbrev Res : Type := Option Value × Mem
/-- the address of a cell -/
def wq (w : Wd) (c : Nat) : Nat := w.2.2.1 c
/-- the addresses of the texts and the static arrays -/
def wa (w : Wd) (c : Nat) : Nat := w.2.2.2 c
def fv (w : Wd) (M : Mem) (c k : Nat) : Nat → Value
  | 0 => .int (M.1 c k)
  | 1 => .long (M.2 c k)
  | j + 2 => .ref (wq w j)
def fvs (w : Wd) (M : Mem) (c : Nat) (fs : List Nat) : List Value := fs.mapIdx (fun k x => fv w M c k x)
def entS (w : Wd) (M : Mem) (c : Nat) : Sh → va_E
  | .inl (t, n) => .inl (w.2.1 t, n, if t = 3 then .inr (.inl (M.2 c)) else .inl (M.1 c))
  | .inr (ci, fs) => .inr (ci, fvs w M c fs)
def world (w : Wd) (M : Mem) : va_W := shL.mapIdx (fun c sh => (wq w c, entS w M c sh))
def NC : Nat := 59
theorem NC_ok : shL.length = NC := rfl
def AA (w : Wd) (sz : Nat) : Nat → Prop := fun a => (∃ k, k < NC ∧ wq w k = a) ∨ sz ≤ a
def Inj (w : Wd) : Prop := ∀ i j, i < NC → j < NC → wq w i = wq w j → i = j
def tysOf (w : Wd) : List (ClassId × FieldType) := [(w.2.1 0, .int), (w.2.1 1, .byte), (w.2.1 2, .boolean), (w.2.1 3, .long)]
theorem sh_lt {c : Nat} {sh : Sh} (h : shL[c]? = some sh) : c < NC := NC_ok ▸ (List.getElem?_eq_some_iff.mp h).1
theorem world_at {w : Wd} {M : Mem} {c : Nat} {sh : Sh} (h : shL[c]? = some sh) : (world w M)[c]? = some (wq w c, entS w M c sh) := by
  rw [world, List.getElem?_mapIdx, h]; rfl
theorem world_inv {w : Wd} {M : Mem} {c : Nat} {q : Nat × va_E} (h : (world w M)[c]? = some q) : ∃ sh, shL[c]? = some sh ∧ q = (wq w c, entS w M c sh) := by
  rw [world, List.getElem?_mapIdx] at h
  cases hs : shL[c]? with
  | none => rw [hs] at h; cases h
  | some sh => rw [hs] at h; exact ⟨sh, rfl, (Option.some.inj h).symm⟩
theorem entS_congr {w : Wd} {M M' : Mem} {c : Nat} (h1 : M'.1 c = M.1 c) (h2 : M'.2 c = M.2 c) (sh : Sh) : entS w M' c sh = entS w M c sh := by
  rcases sh with ⟨t, n⟩ | ⟨ci, fs⟩
  · simp only [entS, h1, h2]
  · simp only [entS, fvs]
    congr 2
    apply List.ext_getElem?
    intro k
    simp only [List.getElem?_mapIdx]
    cases fs[k]? with
    | none => rfl
    | some x =>
      match x with
      | 0 => simp [fv, h1]
      | 1 => simp [fv, h2]
      | j + 2 => rfl
theorem world_set {w : Wd} {M M' : Mem} {c : Nat} {sh : Sh} {e : va_E} (h : shL[c]? = some sh) (he : entS w M' c sh = e) (ho : ∀ d, d ≠ c → M'.1 d = M.1 d ∧ M'.2 d = M.2 d) : (world w M).set c (wq w c, e) = world w M' := by
  apply List.ext_getElem?
  intro d
  rw [List.getElem?_set]
  by_cases hd : c = d
  · subst hd
    have hl : c < (world w M).length := by rw [world, List.length_mapIdx]; exact (List.getElem?_eq_some_iff.mp h).1
    rw [if_pos rfl, if_pos hl, world_at h, he]
  · rw [if_neg hd]
    rw [world, world, List.getElem?_mapIdx, List.getElem?_mapIdx]
    cases hs : shL[d]? with
    | none => rfl
    | some x =>
      have h2 := ho d (fun e => hd e.symm)
      show some (wq w d, entS w M d x) = some (wq w d, entS w M' d x)
      rw [entS_congr h2.1 h2.2]
theorem world_D {w : Wd} {M : Mem} {A : Nat → Prop} (hi : Inj w) (hA : ∀ k, k < NC → A (wq w k)) : va_D A (world w M) := by
  refine ⟨fun i j p q hp hq e => ?_, fun k q h => ?_⟩
  · obtain ⟨s1, h1, rfl⟩ := world_inv hp
    obtain ⟨s2, h2, rfl⟩ := world_inv hq
    exact hi i j (sh_lt h1) (sh_lt h2) e
  · obtain ⟨s1, h1, rfl⟩ := world_inv h
    exact hA k (sh_lt h1)
def setI (M : Mem) (c k : Nat) (v : Int32) : Mem := (fun d => if d = c then upd (M.1 c) k v else M.1 d, M.2)
def setL (M : Mem) (c k : Nat) (v : Int64) : Mem := (M.1, fun d => if d = c then vp_updL (M.2 c) k v else M.2 d)
def setA (M : Mem) (c : Nat) (f : Nat → Int32) : Mem := (fun d => if d = c then f else M.1 d, M.2)
def setB (M : Mem) (c : Nat) (f : Nat → Int64) : Mem := (M.1, fun d => if d = c then f else M.2 d)
theorem setI_off {M : Mem} {c k : Nat} {v : Int32} (d : Nat) (h : d ≠ c) : (setI M c k v).1 d = M.1 d ∧ (setI M c k v).2 d = M.2 d := ⟨if_neg h, rfl⟩
theorem setL_off {M : Mem} {c k : Nat} {v : Int64} (d : Nat) (h : d ≠ c) : (setL M c k v).1 d = M.1 d ∧ (setL M c k v).2 d = M.2 d := ⟨rfl, if_neg h⟩
theorem setA_off {M : Mem} {c : Nat} {v : Nat → Int32} (d : Nat) (h : d ≠ c) : (setA M c v).1 d = M.1 d ∧ (setA M c v).2 d = M.2 d := ⟨if_neg h, rfl⟩
theorem setB_off {M : Mem} {c : Nat} {v : Nat → Int64} (d : Nat) (h : d ≠ c) : (setB M c v).1 d = M.1 d ∧ (setB M c v).2 d = M.2 d := ⟨rfl, if_neg h⟩
/-- an index is in range -/
def ck (i : Int32) (n : Nat) : Bool := decide (0 ≤ i.toInt ∧ i.toInt < n)
theorem ck_in {i : Int32} {n : Nat} (h : ck i n = true) : vp_in i n := vp_in_iff.mpr (of_decide_eq_true h)
-- the texts, the static arrays, the nest's links
def lenS : List Nat := [3, 6, 4, 4, 5, 3, 4, 4]
def bytS : List (List Int32) := [[116, 111, 112], [98, 111, 116, 116, 111, 109], [99, 111, 97, 116], [108, 97, 116, 101], [97, 112, 97, 114, 116], [100, 97, 121], [119, 97, 115, 104], [114, 97, 105, 110]]
def idxS : List (Nat × String) := [(93, "top"), (99, "bottom"), (101, "coat"), (103, "late"), (105, "apart"), (107, "day"), (109, "wash"), (111, "rain")]
def tlV : List Int32 := [0, 1, 1]
def tmV : List Int32 := [999, 4, 999]
def nestL : List (String × Nat × MethodName × String) := [(RX6, 183, yX9_isUnsure, RX9), (RX8, 65, yX9_isUnsure, RX9), (RX2, 45, yX9_has, RX9), (RX8, 94, yX9_stateOf, RX9), (RX8, 75, yX9_has, RX9), (RX2, 34, yX9_stateOf, RX9), (RX0, 61, yX9_has, RX9), (RX5, 75, yX9_has, RX9), (RX4, 60, yX9_has, RX9)]
def Glob (w : Wd) (s : State) : Prop :=
  vk_S 8 lenS bytS (fun i => wa w i) (fun i => wa w (8 + i)) (AA w s.heap.size) s s.heap ∧
  (∀ i q, idxS[i]? = some q → vk_R RX6 q.1 q.2 (wa w i) s) ∧
  (va_Z RX9 "TUNE_LEAST" "[I" (.ref (wa w 16)) (AA w s.heap.size) s s.heap ∧ va_T .int (wa w 16) 3 (fun j => .int (tlV.getD j 0)) (AA w s.heap.size) s s.heap) ∧
  (va_Z RX9 "TUNE_MOST" "[I" (.ref (wa w 17)) (AA w s.heap.size) s s.heap ∧ va_T .int (wa w 17) 3 (fun j => .int (tmV.getD j 0)) (AA w s.heap.size) s s.heap) ∧
  (va_Z "java/lang/String" "COMPACT_STRINGS" "Z" (.int 1) (AA w s.heap.size) s s.heap ∧ va_Zq "jdk/internal/util/Preconditions" "SIOOBE_FORMATTER" "Ljava/util/function/BiFunction;" (AA w s.heap.size) s s.heap) ∧
  (∀ q ∈ nestL, va_Nw (.methodLinkNest q.1 q.2.1 q.2.2.1 q.2.2.2) s)
theorem AA_mono {w : Wd} {a b : Nat} (h : a ≤ b) (q : Nat) (hq : AA w b q) : AA w a q := hq.elim Or.inl (fun h2 => Or.inr (Nat.le_trans h h2))
theorem Glob.moved {w : Wd} {s U : State} {locs : List Loc} (h : Glob w s) (hW : s.WarmedH U.vm) (hS : va_S (AA w s.heap.size) s.heap U.heap locs) : Glob w U := by
  obtain ⟨g1, g2, ⟨g3, g4⟩, ⟨g5, g6⟩, ⟨g7, g9⟩, g8⟩ := h
  have hm := AA_mono (w := w) hS.1
  have hv := hW.alike
  refine ⟨((g1.kept hS.2.1).narrow hm).moved hv, fun i q hq => vk_R.warm hW (g2 i q hq), ⟨((g3.kept hS.2.1).narrow hm).moved hv, ((g4.kept hS.2.1).narrow hm).moved hv⟩, ⟨((g5.kept hS.2.1).narrow hm).moved hv, ((g6.kept hS.2.1).narrow hm).moved hv⟩, ⟨((g7.kept hS.2.1).narrow hm).moved hv, ((g9.kept hS.2.1).narrow hm).moved hv⟩, fun q hq => va_Nw.warmM hW (g8 q hq)⟩
/-- what a run of a method stands on -/
abbrev Ctx (w : Wd) (mi : Mi) (dep : Nat) (p : Program) (R : Room) (s : State) (m : MethodId) (args : Array Value) (meth : Method) (c : Code) (cs sl : Nat) : Prop :=
  CallFix p m c mi.1 mi.2.1 s args lw_t mi.2.2.1 ∧ (meth.sig.returnType = mi.2.2.2 ∧ meth.locks = false) ∧ va_K w.1 cls (tysOf w) s ∧ Inj w ∧ Glob w s ∧ (dep ≤ R.frames ∧ 128 * dep ≤ R.locals ∧ cs ≤ R.cells ∧ sl ≤ R.slots)
def lvOf (loc : List (Option Value)) : List (Nat × Value) := (loc.mapIdx (fun i o => o.map (fun v => (i, v)))).filterMap id
theorem mem_lvOf {loc : List (Option Value)} {i : Nat} {v : Value} : (i, v) ∈ lvOf loc ↔ loc[i]? = some (some v) := by
  rw [lvOf, List.mem_filterMap]
  constructor
  · rintro ⟨o, h1, h2⟩
    obtain ⟨k, hk⟩ := List.getElem?_of_mem h1
    rw [List.getElem?_mapIdx] at hk
    cases hx : loc[k]? with
    | none => rw [hx] at hk; cases hk
    | some y =>
      rw [hx] at hk
      have hk : y.map (fun v => (k, v)) = o := Option.some.inj hk
      have h2 : o = some (i, v) := h2
      rw [h2] at hk
      cases y with
      | none => cases hk
      | some z =>
        have hk : (k, z) = (i, v) := Option.some.inj hk
        cases hk
        exact hx
  · intro h
    refine ⟨some (i, v), List.mem_of_getElem? (i := i) ?_, rfl⟩
    rw [List.getElem?_mapIdx, h]
    rfl
theorem lv_mono {ls : Array Slot} {n : Nat} {l l' : List (Nat × Value)} (h : lv_has ls n l) (hs : ∀ q ∈ l', q ∈ l) : lv_has ls n l' := ⟨h.1, h.2.1, fun q hq => h.2.2 q (hs q hq)⟩
theorem lv_get {ls : Array Slot} {n : Nat} {loc : List (Option Value)} (h : lv_has ls n (lvOf loc)) {i : Nat} {v : Value} (hi : loc[i]? = some (some v)) : ls[i]? = some (.val v) := h.2.2 (i, v) (mem_lvOf.mpr hi)
/-- nothing long stands ahead of the place -/
def okS (loc : List (Option Value)) (i : Nat) : Bool := match i with
  | 0 => true
  | j + 1 => match loc[j]? with
    | some (some v) => v.category == 1
    | _ => true
theorem lv_put {ls : Array Slot} {n : Nat} {loc : List (Option Value)} {i : Nat} {v : Value} (h : lv_has ls n ((i, v) :: (lvOf loc).filter (fun q => !(q.1 == i) && !(q.1 + 1 == i && q.2.category == 2)))) (hok : okS loc i = true) : lv_has ls n (lvOf (loc.set i (some v))) := by
  refine lv_mono h (fun q hq => ?_)
  obtain ⟨j, u⟩ := q
  rw [mem_lvOf, List.getElem?_set] at hq
  by_cases hij : i = j
  · subst hij
    rw [if_pos rfl] at hq
    split at hq
    · cases hq
      exact List.mem_cons_self
    · cases hq
  · rw [if_neg hij] at hq
    refine List.mem_cons_of_mem _ (List.mem_filter.mpr ⟨mem_lvOf.mpr hq, ?_⟩)
    have h1 : (j == i) = false := beq_eq_false_iff_ne.mpr (fun e => hij e.symm)
    have h2 : (j + 1 == i && u.category == 2) = false := by
      by_cases hj : j + 1 = i
      · subst hj
        have h3 : u.category = 1 := by
          have h4 : (match loc[j]? with
            | some (some v) => v.category == 1
            | _ => true) = true := hok
          rw [hq] at h4
          exact beq_iff_eq.mp h4
        rw [h3]
        simp
      · rw [beq_eq_false_iff_ne.mpr hj]
        rfl
    show (!(j == i) && !(j + 1 == i && u.category == 2)) = true
    rw [h1, h2]
    rfl
abbrev Kp := Program × Env × Room × State × MethodId × Array Value × List Frame × Method × Code × Nat × Nat × (State → Prop)
def RR (l : Launch) (w : Wd) (mi : Mi) (dep : Nat) (κ : Kp) (pc : Nat) (st : List Value) (loc : List (Option Value)) (M : Mem) : Prop := match κ with
  | (p, e, R, s, m, args, below, meth, c, cs, sl, Q) => Ctx w mi dep p R s m args meth c cs sl → ∀ (H : Heap) (locs : List Loc) (ls : Array Slot), lv_has ls mi.2.1 (lvOf loc) → va_P w.1 cls (world w M) H → va_S (AA w s.heap.size) s.heap H locs → W p l e R s m args below meth c H locs cs sl Q (F0 m pc ls st)
def Dec (mi : Mi) (pc : Nat) (i : Instr) (len n : Nat) : Prop := decode mi.1 pc = .ok (i, len) ∧ pc + len = n
def DecJ (mi : Mi) (pc : Nat) (i : Instr) (off : Int) (n t : Nat) : Prop := decode mi.1 pc = .ok (i, 3) ∧ pc + 3 = n ∧ (pc : Int) + off = (t : Int)
theorem Ctx.D {w : Wd} {M : Mem} {mi : Mi} {dep : Nat} {p : Program} {R : Room} {s : State} {m : MethodId} {args : Array Value} {meth : Method} {c : Code} {cs sl : Nat} (C : Ctx w mi dep p R s m args meth c cs sl) : va_D (AA w s.heap.size) (world w M) := world_D C.2.2.2.1 (fun k hk => Or.inl ⟨k, hk, rfl⟩)
section ROWS
variable {l : Launch} {w : Wd} {mi : Mi} {dep : Nat} {κ : Kp} {pc n : Nat} {st : List Value} {loc : List (Option Value)} {M : Mem}
/-- fewer locals are known -/
theorem r_less {loc' : List (Option Value)} (h : ∀ (i : Nat) (v : Value), loc'[i]? = some (some v) → loc[i]? = some (some v)) (k : RR l w mi dep κ pc st loc' M) : RR l w mi dep κ pc st loc M := by
  obtain ⟨p, e, R, s, m, args, below, meth, c, cs, sl, Q⟩ := κ
  intro C H locs ls hl hP hS
  exact k C H locs ls (lv_mono hl (fun q hq => mem_lvOf.mpr (h q.1 q.2 (mem_lvOf.mp hq)))) hP hS

theorem r_iadd {x y : Int32} (hd : Dec mi pc (.iadd) 1 n) (k : RR l w mi dep κ n (.int (x + y) :: st) loc M) : RR l w mi dep κ pc (.int y :: .int x :: st) loc M := by
  obtain ⟨p, e, R, s, m, args, below, meth, c, cs, sl, Q⟩ := κ
  obtain ⟨hd, rfl⟩ := hd
  intro C H locs ls hl hP hS
  exact lv_iadd C.1.1 C.1.2.1 hd (k C H locs ls hl hP hS)
theorem r_isub {x y : Int32} (hd : Dec mi pc (.isub) 1 n) (k : RR l w mi dep κ n (.int (x - y) :: st) loc M) : RR l w mi dep κ pc (.int y :: .int x :: st) loc M := by
  obtain ⟨p, e, R, s, m, args, below, meth, c, cs, sl, Q⟩ := κ
  obtain ⟨hd, rfl⟩ := hd
  intro C H locs ls hl hP hS
  exact lv_isub C.1.1 C.1.2.1 hd (k C H locs ls hl hP hS)
theorem r_imul {x y : Int32} (hd : Dec mi pc (.imul) 1 n) (k : RR l w mi dep κ n (.int (x * y) :: st) loc M) : RR l w mi dep κ pc (.int y :: .int x :: st) loc M := by
  obtain ⟨p, e, R, s, m, args, below, meth, c, cs, sl, Q⟩ := κ
  obtain ⟨hd, rfl⟩ := hd
  intro C H locs ls hl hP hS
  exact lv_imul C.1.1 C.1.2.1 hd (k C H locs ls hl hP hS)
theorem r_iand {x y : Int32} (hd : Dec mi pc (.iand) 1 n) (k : RR l w mi dep κ n (.int (x &&& y) :: st) loc M) : RR l w mi dep κ pc (.int y :: .int x :: st) loc M := by
  obtain ⟨p, e, R, s, m, args, below, meth, c, cs, sl, Q⟩ := κ
  obtain ⟨hd, rfl⟩ := hd
  intro C H locs ls hl hP hS
  exact lv_iand C.1.1 C.1.2.1 hd (k C H locs ls hl hP hS)
theorem r_ior {x y : Int32} (hd : Dec mi pc (.ior) 1 n) (k : RR l w mi dep κ n (.int (x ||| y) :: st) loc M) : RR l w mi dep κ pc (.int y :: .int x :: st) loc M := by
  obtain ⟨p, e, R, s, m, args, below, meth, c, cs, sl, Q⟩ := κ
  obtain ⟨hd, rfl⟩ := hd
  intro C H locs ls hl hP hS
  exact lv_ior C.1.1 C.1.2.1 hd (k C H locs ls hl hP hS)
theorem r_ixor {x y : Int32} (hd : Dec mi pc (.ixor) 1 n) (k : RR l w mi dep κ n (.int (x ^^^ y) :: st) loc M) : RR l w mi dep κ pc (.int y :: .int x :: st) loc M := by
  obtain ⟨p, e, R, s, m, args, below, meth, c, cs, sl, Q⟩ := κ
  obtain ⟨hd, rfl⟩ := hd
  intro C H locs ls hl hP hS
  exact lv_ixor C.1.1 C.1.2.1 hd (k C H locs ls hl hP hS)
theorem r_ishl {x y : Int32} (hd : Dec mi pc (.ishl) 1 n) (k : RR l w mi dep κ n (.int (x <<< (y &&& 31)) :: st) loc M) : RR l w mi dep κ pc (.int y :: .int x :: st) loc M := by
  obtain ⟨p, e, R, s, m, args, below, meth, c, cs, sl, Q⟩ := κ
  obtain ⟨hd, rfl⟩ := hd
  intro C H locs ls hl hP hS
  exact lv_ishl C.1.1 C.1.2.1 hd (k C H locs ls hl hP hS)
theorem r_ishr {x y : Int32} (hd : Dec mi pc (.ishr) 1 n) (k : RR l w mi dep κ n (.int (x >>> (y &&& 31)) :: st) loc M) : RR l w mi dep κ pc (.int y :: .int x :: st) loc M := by
  obtain ⟨p, e, R, s, m, args, below, meth, c, cs, sl, Q⟩ := κ
  obtain ⟨hd, rfl⟩ := hd
  intro C H locs ls hl hP hS
  exact lv_ishr C.1.1 C.1.2.1 hd (k C H locs ls hl hP hS)
theorem r_idiv {x y : Int32} (hd : Dec mi pc (.idiv) 1 n) (hne : ¬ y = 0) (k : RR l w mi dep κ n (.int (x / y) :: st) loc M) : RR l w mi dep κ pc (.int y :: .int x :: st) loc M := by
  obtain ⟨p, e, R, s, m, args, below, meth, c, cs, sl, Q⟩ := κ
  obtain ⟨hd, rfl⟩ := hd
  intro C H locs ls hl hP hS
  exact lv_idiv C.1.1 C.1.2.1 hd hne (k C H locs ls hl hP hS)
theorem r_irem {x y : Int32} (hd : Dec mi pc (.irem) 1 n) (hne : ¬ y = 0) (k : RR l w mi dep κ n (.int (x - x / y * y) :: st) loc M) : RR l w mi dep κ pc (.int y :: .int x :: st) loc M := by
  obtain ⟨p, e, R, s, m, args, below, meth, c, cs, sl, Q⟩ := κ
  obtain ⟨hd, rfl⟩ := hd
  intro C H locs ls hl hP hS
  exact lv_irem C.1.1 C.1.2.1 hd hne (k C H locs ls hl hP hS)
theorem r_ladd {x y : Int64} (hd : Dec mi pc (.ladd) 1 n) (k : RR l w mi dep κ n (.long (x + y) :: st) loc M) : RR l w mi dep κ pc (.long y :: .long x :: st) loc M := by
  obtain ⟨p, e, R, s, m, args, below, meth, c, cs, sl, Q⟩ := κ
  obtain ⟨hd, rfl⟩ := hd
  intro C H locs ls hl hP hS
  exact lv_ladd C.1.1 C.1.2.1 hd (k C H locs ls hl hP hS)
theorem r_land {x y : Int64} (hd : Dec mi pc (.land) 1 n) (k : RR l w mi dep κ n (.long (x &&& y) :: st) loc M) : RR l w mi dep κ pc (.long y :: .long x :: st) loc M := by
  obtain ⟨p, e, R, s, m, args, below, meth, c, cs, sl, Q⟩ := κ
  obtain ⟨hd, rfl⟩ := hd
  intro C H locs ls hl hP hS
  exact lv_land C.1.1 C.1.2.1 hd (k C H locs ls hl hP hS)
theorem r_lor {x y : Int64} (hd : Dec mi pc (.lor) 1 n) (k : RR l w mi dep κ n (.long (x ||| y) :: st) loc M) : RR l w mi dep κ pc (.long y :: .long x :: st) loc M := by
  obtain ⟨p, e, R, s, m, args, below, meth, c, cs, sl, Q⟩ := κ
  obtain ⟨hd, rfl⟩ := hd
  intro C H locs ls hl hP hS
  exact lv_lor C.1.1 C.1.2.1 hd (k C H locs ls hl hP hS)
theorem r_lshl {x : Int64} {y : Int32} (hd : Dec mi pc (.lshl) 1 n) (k : RR l w mi dep κ n (.long (x <<< (y.toInt64 &&& 63)) :: st) loc M) : RR l w mi dep κ pc (.int y :: .long x :: st) loc M := by
  obtain ⟨p, e, R, s, m, args, below, meth, c, cs, sl, Q⟩ := κ
  obtain ⟨hd, rfl⟩ := hd
  intro C H locs ls hl hP hS
  exact lv_lshl C.1.1 C.1.2.1 hd rfl (k C H locs ls hl hP hS)
theorem r_lshr {x : Int64} {y : Int32} (hd : Dec mi pc (.lshr) 1 n) (k : RR l w mi dep κ n (.long (x >>> (y.toInt64 &&& 63)) :: st) loc M) : RR l w mi dep κ pc (.int y :: .long x :: st) loc M := by
  obtain ⟨p, e, R, s, m, args, below, meth, c, cs, sl, Q⟩ := κ
  obtain ⟨hd, rfl⟩ := hd
  intro C H locs ls hl hP hS
  exact lv_lshr C.1.1 C.1.2.1 hd rfl (k C H locs ls hl hP hS)
theorem r_lushr {x : Int64} {y : Int32} (hd : Dec mi pc (.lushr) 1 n) (k : RR l w mi dep κ n (.long ((x.toUInt64 >>> (y.toInt64.toUInt64 &&& Int64.toUInt64 63)).toInt64) :: st) loc M) : RR l w mi dep κ pc (.int y :: .long x :: st) loc M := by
  obtain ⟨p, e, R, s, m, args, below, meth, c, cs, sl, Q⟩ := κ
  obtain ⟨hd, rfl⟩ := hd
  intro C H locs ls hl hP hS
  exact lv_lushr C.1.1 C.1.2.1 hd rfl (k C H locs ls hl hP hS)
theorem r_iushr {x y : Int32} (hd : Dec mi pc (.iushr) 1 n) (k : RR l w mi dep κ n (.int ((x.toUInt32 >>> (y.toUInt32 &&& Int32.toUInt32 31)).toInt32) :: st) loc M) : RR l w mi dep κ pc (.int y :: .int x :: st) loc M := by
  obtain ⟨p, e, R, s, m, args, below, meth, c, cs, sl, Q⟩ := κ
  obtain ⟨hd, rfl⟩ := hd
  intro C H locs ls hl hP hS
  exact lv_iushr C.1.1 C.1.2.1 hd rfl (k C H locs ls hl hP hS)
theorem r_i2l {x : Int32} (hd : Dec mi pc (.i2l) 1 n) (k : RR l w mi dep κ n (.long x.toInt64 :: st) loc M) : RR l w mi dep κ pc (.int x :: st) loc M := by
  obtain ⟨p, e, R, s, m, args, below, meth, c, cs, sl, Q⟩ := κ
  obtain ⟨hd, rfl⟩ := hd
  intro C H locs ls hl hP hS
  exact lv_i2l C.1.1 C.1.2.1 hd rfl (k C H locs ls hl hP hS)
theorem r_l2i {x : Int64} (hd : Dec mi pc (.l2i) 1 n) (k : RR l w mi dep κ n (.int x.toInt32 :: st) loc M) : RR l w mi dep κ pc (.long x :: st) loc M := by
  obtain ⟨p, e, R, s, m, args, below, meth, c, cs, sl, Q⟩ := κ
  obtain ⟨hd, rfl⟩ := hd
  intro C H locs ls hl hP hS
  exact lv_l2i C.1.1 C.1.2.1 hd rfl (k C H locs ls hl hP hS)
theorem r_i2b {x : Int32} (hd : Dec mi pc (.i2b) 1 n) (k : RR l w mi dep κ n (.int x.toInt8.toInt32 :: st) loc M) : RR l w mi dep κ pc (.int x :: st) loc M := by
  obtain ⟨p, e, R, s, m, args, below, meth, c, cs, sl, Q⟩ := κ
  obtain ⟨hd, rfl⟩ := hd
  intro C H locs ls hl hP hS
  exact lv_i2b C.1.1 C.1.2.1 hd rfl (k C H locs ls hl hP hS)
theorem r_i2c {x : Int32} (hd : Dec mi pc (.i2c) 1 n) (k : RR l w mi dep κ n (.int (x.toUInt32 % 65536).toInt32 :: st) loc M) : RR l w mi dep κ pc (.int x :: st) loc M := by
  obtain ⟨p, e, R, s, m, args, below, meth, c, cs, sl, Q⟩ := κ
  obtain ⟨hd, rfl⟩ := hd
  intro C H locs ls hl hP hS
  exact lv_i2c C.1.1 C.1.2.1 hd rfl (k C H locs ls hl hP hS)
theorem r_pop {va : Value} (hd : Dec mi pc (.pop) 1 n) (hva : va.category = 1) (k : RR l w mi dep κ n (st) loc M) : RR l w mi dep κ pc (va :: st) loc M := by
  obtain ⟨p, e, R, s, m, args, below, meth, c, cs, sl, Q⟩ := κ
  obtain ⟨hd, rfl⟩ := hd
  intro C H locs ls hl hP hS
  exact lv_pop C.1.1 C.1.2.1 hd hva (k C H locs ls hl hP hS)
theorem r_dup {va : Value} (hd : Dec mi pc (.dup) 1 n) (hva : va.category = 1) (k : RR l w mi dep κ n (va :: va :: st) loc M) : RR l w mi dep κ pc (va :: st) loc M := by
  obtain ⟨p, e, R, s, m, args, below, meth, c, cs, sl, Q⟩ := κ
  obtain ⟨hd, rfl⟩ := hd
  intro C H locs ls hl hP hS
  exact lv_dup C.1.1 C.1.2.1 hd hva (k C H locs ls hl hP hS)
theorem r_dup2 {va vb : Value} (hd : Dec mi pc (.dup2) 1 n) (hva : va.category = 1) (hvb : vb.category = 1) (k : RR l w mi dep κ n (va :: vb :: va :: vb :: st) loc M) : RR l w mi dep κ pc (va :: vb :: st) loc M := by
  obtain ⟨p, e, R, s, m, args, below, meth, c, cs, sl, Q⟩ := κ
  obtain ⟨hd, rfl⟩ := hd
  intro C H locs ls hl hP hS
  exact lv_dup2_11 C.1.1 C.1.2.1 hd hva hvb (k C H locs ls hl hP hS)
theorem r_dup2l {va : Value} (hd : Dec mi pc (.dup2) 1 n) (hva : va.category = 2) (k : RR l w mi dep κ n (va :: va :: st) loc M) : RR l w mi dep κ pc (va :: st) loc M := by
  obtain ⟨p, e, R, s, m, args, below, meth, c, cs, sl, Q⟩ := κ
  obtain ⟨hd, rfl⟩ := hd
  intro C H locs ls hl hP hS
  exact lv_dup2_2 C.1.1 C.1.2.1 hd hva (k C H locs ls hl hP hS)
theorem r_lcmp {x y : Int64} (hd : Dec mi pc (.lcmp) 1 n) (k : RR l w mi dep κ n (.int (lg_cmp x y) :: st) loc M) : RR l w mi dep κ pc (.long y :: .long x :: st) loc M := by
  obtain ⟨p, e, R, s, m, args, below, meth, c, cs, sl, Q⟩ := κ
  obtain ⟨hd, rfl⟩ := hd
  intro C H locs ls hl hP hS
  exact W.lcmp C.1.1 C.1.2.1 hd (k C H locs ls hl hP hS)
theorem r_iconst {i : Int} {v : Int32} (hd : Dec mi pc (.iconst i) 1 n) (hv : Int32.ofInt i = v) (k : RR l w mi dep κ n (.int v :: st) loc M) : RR l w mi dep κ pc (st) loc M := by
  obtain ⟨p, e, R, s, m, args, below, meth, c, cs, sl, Q⟩ := κ
  obtain ⟨hd, rfl⟩ := hd
  intro C H locs ls hl hP hS
  exact lv_iconst C.1.1 C.1.2.1 hd hv (k C H locs ls hl hP hS)
theorem r_bipush {i : Int} {v : Int32} (hd : Dec mi pc (.bipush i) 2 n) (hv : (Int8.ofInt i).toInt32 = v) (k : RR l w mi dep κ n (.int v :: st) loc M) : RR l w mi dep κ pc (st) loc M := by
  obtain ⟨p, e, R, s, m, args, below, meth, c, cs, sl, Q⟩ := κ
  obtain ⟨hd, rfl⟩ := hd
  intro C H locs ls hl hP hS
  exact lv_bipush C.1.1 C.1.2.1 hd hv (k C H locs ls hl hP hS)
theorem r_sipush {i : Int} {v : Int32} (hd : Dec mi pc (.sipush i) 3 n) (hv : (Int16.ofInt i).toInt32 = v) (k : RR l w mi dep κ n (.int v :: st) loc M) : RR l w mi dep κ pc (st) loc M := by
  obtain ⟨p, e, R, s, m, args, below, meth, c, cs, sl, Q⟩ := κ
  obtain ⟨hd, rfl⟩ := hd
  intro C H locs ls hl hP hS
  exact lv_sipush C.1.1 C.1.2.1 hd hv (k C H locs ls hl hP hS)
theorem r_lconst {i : Fin 2} {v : Int64} (hd : Dec mi pc (.lconst i) 1 n) (hv : Int64.ofNat (i : Nat) = v) (k : RR l w mi dep κ n (.long v :: st) loc M) : RR l w mi dep κ pc (st) loc M := by
  obtain ⟨p, e, R, s, m, args, below, meth, c, cs, sl, Q⟩ := κ
  obtain ⟨hd, rfl⟩ := hd
  intro C H locs ls hl hP hS
  exact lv_lconst C.1.1 C.1.2.1 hd hv (k C H locs ls hl hP hS)
theorem r_ldc {i : Nat} {v : Int32} (hd : Dec mi pc (.ldc i) 2 n) (hc : Cond.constant mi.2.2.1 i v ∈ lw_t) (k : RR l w mi dep κ n (.int v :: st) loc M) : RR l w mi dep κ pc st loc M := by
  obtain ⟨p, e, R, s, m, args, below, meth, c, cs, sl, Q⟩ := κ
  obtain ⟨hd, rfl⟩ := hd
  intro C H locs ls hl hP hS
  exact lv_ldc C.1.1 C.1.2.1 C.1.2.2.2.1 (C.1.2.2.2.2 _ hc) hd (k C H locs ls hl hP hS)
theorem r_ldcw {i : Nat} {v : Int32} (hd : Dec mi pc (.ldc_w i) 3 n) (hc : Cond.constant mi.2.2.1 i v ∈ lw_t) (k : RR l w mi dep κ n (.int v :: st) loc M) : RR l w mi dep κ pc st loc M := by
  obtain ⟨p, e, R, s, m, args, below, meth, c, cs, sl, Q⟩ := κ
  obtain ⟨hd, rfl⟩ := hd
  intro C H locs ls hl hP hS
  exact lv_ldcw C.1.1 C.1.2.1 C.1.2.2.2.1 (C.1.2.2.2.2 _ hc) hd (k C H locs ls hl hP hS)
theorem r_ldc2 {i : Nat} {v : Int64} (hd : Dec mi pc (.ldc2_w i) 3 n) (hc : Cond.constantLong mi.2.2.1 i v ∈ lw_t) (k : RR l w mi dep κ n (.long v :: st) loc M) : RR l w mi dep κ pc st loc M := by
  obtain ⟨p, e, R, s, m, args, below, meth, c, cs, sl, Q⟩ := κ
  obtain ⟨hd, rfl⟩ := hd
  intro C H locs ls hl hP hS
  exact lv_ldc2 C.1.1 C.1.2.1 C.1.2.2.2.1 (C.1.2.2.2.2 _ hc) hd (k C H locs ls hl hP hS)
theorem r_iload {i : Nat} {x : Int32} (hd : Dec mi pc (.iload i) 2 n) (hi : loc[i]? = some (some (.int x))) (k : RR l w mi dep κ n (.int x :: st) loc M) : RR l w mi dep κ pc st loc M := by
  obtain ⟨p, e, R, s, m, args, below, meth, c, cs, sl, Q⟩ := κ
  obtain ⟨hd, rfl⟩ := hd
  intro C H locs ls hl hP hS
  exact lv_iload C.1.1 C.1.2.1 hd (lv_get hl hi) (k C H locs ls hl hP hS)
theorem r_iload_n {i : Fin 4} {x : Int32} (hd : Dec mi pc (.iload_n i) 1 n) (hi : loc[i.val]? = some (some (.int x))) (k : RR l w mi dep κ n (.int x :: st) loc M) : RR l w mi dep κ pc st loc M := by
  obtain ⟨p, e, R, s, m, args, below, meth, c, cs, sl, Q⟩ := κ
  obtain ⟨hd, rfl⟩ := hd
  intro C H locs ls hl hP hS
  exact lv_iload_n C.1.1 C.1.2.1 hd rfl (lv_get hl hi) (k C H locs ls hl hP hS)
theorem r_aload {i : Nat} {x : Nat} (hd : Dec mi pc (.aload i) 2 n) (hi : loc[i]? = some (some (.ref x))) (k : RR l w mi dep κ n (.ref x :: st) loc M) : RR l w mi dep κ pc st loc M := by
  obtain ⟨p, e, R, s, m, args, below, meth, c, cs, sl, Q⟩ := κ
  obtain ⟨hd, rfl⟩ := hd
  intro C H locs ls hl hP hS
  exact lv_aload C.1.1 C.1.2.1 hd (lv_get hl hi) (k C H locs ls hl hP hS)
theorem r_aload_n {i : Fin 4} {x : Nat} (hd : Dec mi pc (.aload_n i) 1 n) (hi : loc[i.val]? = some (some (.ref x))) (k : RR l w mi dep κ n (.ref x :: st) loc M) : RR l w mi dep κ pc st loc M := by
  obtain ⟨p, e, R, s, m, args, below, meth, c, cs, sl, Q⟩ := κ
  obtain ⟨hd, rfl⟩ := hd
  intro C H locs ls hl hP hS
  exact lv_aload_n C.1.1 C.1.2.1 hd rfl (lv_get hl hi) (k C H locs ls hl hP hS)
theorem r_lload {i : Nat} {x : Int64} (hd : Dec mi pc (.lload i) 2 n) (hi : loc[i]? = some (some (.long x))) (k : RR l w mi dep κ n (.long x :: st) loc M) : RR l w mi dep κ pc st loc M := by
  obtain ⟨p, e, R, s, m, args, below, meth, c, cs, sl, Q⟩ := κ
  obtain ⟨hd, rfl⟩ := hd
  intro C H locs ls hl hP hS
  exact lv_lload C.1.1 C.1.2.1 hd (lv_get hl hi) (k C H locs ls hl hP hS)
theorem r_lload_n {i : Fin 4} {x : Int64} (hd : Dec mi pc (.lload_n i) 1 n) (hi : loc[i.val]? = some (some (.long x))) (k : RR l w mi dep κ n (.long x :: st) loc M) : RR l w mi dep κ pc st loc M := by
  obtain ⟨p, e, R, s, m, args, below, meth, c, cs, sl, Q⟩ := κ
  obtain ⟨hd, rfl⟩ := hd
  intro C H locs ls hl hP hS
  exact lv_lload_n C.1.1 C.1.2.1 hd rfl (lv_get hl hi) (k C H locs ls hl hP hS)
theorem r_istore {i : Nat} {x : Int32} (hd : Dec mi pc (.istore i) 2 n) (hi : i < mi.2.1) (hok : okS loc i = true) (k : RR l w mi dep κ n st (loc.set i (some (.int x))) M) : RR l w mi dep κ pc (.int x :: st) loc M := by
  obtain ⟨p, e, R, s, m, args, below, meth, c, cs, sl, Q⟩ := κ
  obtain ⟨hd, rfl⟩ := hd
  intro C H locs ls hl hP hS
  exact lv_istore C.1.1 C.1.2.1 hd hl hi rfl (fun ls' hl' => k C H locs ls' (lv_put hl' hok) hP hS)
theorem r_istore_n {i : Fin 4} {x : Int32} (hd : Dec mi pc (.istore_n i) 1 n) (hi : i.val < mi.2.1) (hok : okS loc i.val = true) (k : RR l w mi dep κ n st (loc.set i.val (some (.int x))) M) : RR l w mi dep κ pc (.int x :: st) loc M := by
  obtain ⟨p, e, R, s, m, args, below, meth, c, cs, sl, Q⟩ := κ
  obtain ⟨hd, rfl⟩ := hd
  intro C H locs ls hl hP hS
  exact lv_istore_n C.1.1 C.1.2.1 hd rfl hl hi rfl (fun ls' hl' => k C H locs ls' (lv_put hl' hok) hP hS)
theorem r_astore {i : Nat} {x : Nat} (hd : Dec mi pc (.astore i) 2 n) (hi : i < mi.2.1) (hok : okS loc i = true) (k : RR l w mi dep κ n st (loc.set i (some (.ref x))) M) : RR l w mi dep κ pc (.ref x :: st) loc M := by
  obtain ⟨p, e, R, s, m, args, below, meth, c, cs, sl, Q⟩ := κ
  obtain ⟨hd, rfl⟩ := hd
  intro C H locs ls hl hP hS
  exact lv_astore C.1.1 C.1.2.1 hd hl hi rfl (fun ls' hl' => k C H locs ls' (lv_put hl' hok) hP hS)
theorem r_astore_n {i : Fin 4} {x : Nat} (hd : Dec mi pc (.astore_n i) 1 n) (hi : i.val < mi.2.1) (hok : okS loc i.val = true) (k : RR l w mi dep κ n st (loc.set i.val (some (.ref x))) M) : RR l w mi dep κ pc (.ref x :: st) loc M := by
  obtain ⟨p, e, R, s, m, args, below, meth, c, cs, sl, Q⟩ := κ
  obtain ⟨hd, rfl⟩ := hd
  intro C H locs ls hl hP hS
  exact lv_astore_n C.1.1 C.1.2.1 hd rfl hl hi rfl (fun ls' hl' => k C H locs ls' (lv_put hl' hok) hP hS)
theorem r_iinc {i : Nat} {d : Int} {x v : Int32} (hd : Dec mi pc (.iinc i d) 3 n) (hx : loc[i]? = some (some (.int x))) (hv : Int32.ofInt d = v) (hi : i < mi.2.1) (hok : okS loc i = true) (k : RR l w mi dep κ n st (loc.set i (some (.int (x + v)))) M) : RR l w mi dep κ pc st loc M := by
  obtain ⟨p, e, R, s, m, args, below, meth, c, cs, sl, Q⟩ := κ
  obtain ⟨hd, rfl⟩ := hd
  intro C H locs ls hl hP hS
  subst hv
  obtain ⟨z, hz⟩ := List.getElem?_of_mem (mem_lvOf.mpr hx)
  exact lv_iinc C.1.1 C.1.2.1 hd hl hz rfl hi rfl (fun ls' hl' => k C H locs ls' (lv_put hl' hok) hP hS)
theorem r_icmp_eq {x y : Int32} {t : Nat} {off : Int} (hd : DecJ mi pc (.if_icmp .eq off) off n t) (kt : x = y → RR l w mi dep κ t st loc M) (kf : ¬ x = y → RR l w mi dep κ n st loc M) : RR l w mi dep κ pc (.int y :: .int x :: st) loc M := by
  obtain ⟨p, e, R, s, m, args, below, meth, c, cs, sl, Q⟩ := κ
  obtain ⟨hd, rfl, ht⟩ := hd
  intro C H locs ls hl hP hS
  exact lv_icmp_eq C.1.1 C.1.2.1 hd ht (fun z => kt z C H locs ls hl hP hS) (fun z => kf z C H locs ls hl hP hS)
theorem r_if_eq {x : Int32} {t : Nat} {off : Int} (hd : DecJ mi pc (.ifCond .eq off) off n t) (kt : x = 0 → RR l w mi dep κ t st loc M) (kf : ¬ x = 0 → RR l w mi dep κ n st loc M) : RR l w mi dep κ pc (.int x :: st) loc M := by
  obtain ⟨p, e, R, s, m, args, below, meth, c, cs, sl, Q⟩ := κ
  obtain ⟨hd, rfl, ht⟩ := hd
  intro C H locs ls hl hP hS
  exact lv_if_eq C.1.1 C.1.2.1 hd ht (fun z => kt z C H locs ls hl hP hS) (fun z => kf z C H locs ls hl hP hS)
theorem r_icmp_ne {x y : Int32} {t : Nat} {off : Int} (hd : DecJ mi pc (.if_icmp .ne off) off n t) (kt : x = y → RR l w mi dep κ n st loc M) (kf : ¬ x = y → RR l w mi dep κ t st loc M) : RR l w mi dep κ pc (.int y :: .int x :: st) loc M := by
  obtain ⟨p, e, R, s, m, args, below, meth, c, cs, sl, Q⟩ := κ
  obtain ⟨hd, rfl, ht⟩ := hd
  intro C H locs ls hl hP hS
  exact lv_icmp_ne C.1.1 C.1.2.1 hd ht (fun z => kf z C H locs ls hl hP hS) (fun z => kt z C H locs ls hl hP hS)
theorem r_if_ne {x : Int32} {t : Nat} {off : Int} (hd : DecJ mi pc (.ifCond .ne off) off n t) (kt : x = 0 → RR l w mi dep κ n st loc M) (kf : ¬ x = 0 → RR l w mi dep κ t st loc M) : RR l w mi dep κ pc (.int x :: st) loc M := by
  obtain ⟨p, e, R, s, m, args, below, meth, c, cs, sl, Q⟩ := κ
  obtain ⟨hd, rfl, ht⟩ := hd
  intro C H locs ls hl hP hS
  exact lv_if_ne C.1.1 C.1.2.1 hd ht (fun z => kf z C H locs ls hl hP hS) (fun z => kt z C H locs ls hl hP hS)
theorem r_icmp_lt {x y : Int32} {t : Nat} {off : Int} (hd : DecJ mi pc (.if_icmp .lt off) off n t) (kt : x < y → RR l w mi dep κ t st loc M) (kf : ¬ x < y → RR l w mi dep κ n st loc M) : RR l w mi dep κ pc (.int y :: .int x :: st) loc M := by
  obtain ⟨p, e, R, s, m, args, below, meth, c, cs, sl, Q⟩ := κ
  obtain ⟨hd, rfl, ht⟩ := hd
  intro C H locs ls hl hP hS
  exact lv_icmp_lt C.1.1 C.1.2.1 hd ht (fun z => kt z C H locs ls hl hP hS) (fun z => kf z C H locs ls hl hP hS)
theorem r_if_lt {x : Int32} {t : Nat} {off : Int} (hd : DecJ mi pc (.ifCond .lt off) off n t) (kt : x < 0 → RR l w mi dep κ t st loc M) (kf : ¬ x < 0 → RR l w mi dep κ n st loc M) : RR l w mi dep κ pc (.int x :: st) loc M := by
  obtain ⟨p, e, R, s, m, args, below, meth, c, cs, sl, Q⟩ := κ
  obtain ⟨hd, rfl, ht⟩ := hd
  intro C H locs ls hl hP hS
  exact lv_if_lt C.1.1 C.1.2.1 hd ht (fun z => kt z C H locs ls hl hP hS) (fun z => kf z C H locs ls hl hP hS)
theorem r_icmp_ge {x y : Int32} {t : Nat} {off : Int} (hd : DecJ mi pc (.if_icmp .ge off) off n t) (kt : y ≤ x → RR l w mi dep κ t st loc M) (kf : ¬ y ≤ x → RR l w mi dep κ n st loc M) : RR l w mi dep κ pc (.int y :: .int x :: st) loc M := by
  obtain ⟨p, e, R, s, m, args, below, meth, c, cs, sl, Q⟩ := κ
  obtain ⟨hd, rfl, ht⟩ := hd
  intro C H locs ls hl hP hS
  exact lv_icmp_ge C.1.1 C.1.2.1 hd ht (fun z => kt z C H locs ls hl hP hS) (fun z => kf z C H locs ls hl hP hS)
theorem r_if_ge {x : Int32} {t : Nat} {off : Int} (hd : DecJ mi pc (.ifCond .ge off) off n t) (kt : 0 ≤ x → RR l w mi dep κ t st loc M) (kf : ¬ 0 ≤ x → RR l w mi dep κ n st loc M) : RR l w mi dep κ pc (.int x :: st) loc M := by
  obtain ⟨p, e, R, s, m, args, below, meth, c, cs, sl, Q⟩ := κ
  obtain ⟨hd, rfl, ht⟩ := hd
  intro C H locs ls hl hP hS
  exact lv_if_ge C.1.1 C.1.2.1 hd ht (fun z => kt z C H locs ls hl hP hS) (fun z => kf z C H locs ls hl hP hS)
theorem r_icmp_gt {x y : Int32} {t : Nat} {off : Int} (hd : DecJ mi pc (.if_icmp .gt off) off n t) (kt : y < x → RR l w mi dep κ t st loc M) (kf : ¬ y < x → RR l w mi dep κ n st loc M) : RR l w mi dep κ pc (.int y :: .int x :: st) loc M := by
  obtain ⟨p, e, R, s, m, args, below, meth, c, cs, sl, Q⟩ := κ
  obtain ⟨hd, rfl, ht⟩ := hd
  intro C H locs ls hl hP hS
  exact lv_icmp_gt C.1.1 C.1.2.1 hd ht (fun z => kt z C H locs ls hl hP hS) (fun z => kf z C H locs ls hl hP hS)
theorem r_if_gt {x : Int32} {t : Nat} {off : Int} (hd : DecJ mi pc (.ifCond .gt off) off n t) (kt : 0 < x → RR l w mi dep κ t st loc M) (kf : ¬ 0 < x → RR l w mi dep κ n st loc M) : RR l w mi dep κ pc (.int x :: st) loc M := by
  obtain ⟨p, e, R, s, m, args, below, meth, c, cs, sl, Q⟩ := κ
  obtain ⟨hd, rfl, ht⟩ := hd
  intro C H locs ls hl hP hS
  exact lv_if_gt C.1.1 C.1.2.1 hd ht (fun z => kt z C H locs ls hl hP hS) (fun z => kf z C H locs ls hl hP hS)
theorem r_icmp_le {x y : Int32} {t : Nat} {off : Int} (hd : DecJ mi pc (.if_icmp .le off) off n t) (kt : x ≤ y → RR l w mi dep κ t st loc M) (kf : ¬ x ≤ y → RR l w mi dep κ n st loc M) : RR l w mi dep κ pc (.int y :: .int x :: st) loc M := by
  obtain ⟨p, e, R, s, m, args, below, meth, c, cs, sl, Q⟩ := κ
  obtain ⟨hd, rfl, ht⟩ := hd
  intro C H locs ls hl hP hS
  exact lv_icmp_le C.1.1 C.1.2.1 hd ht (fun z => kt z C H locs ls hl hP hS) (fun z => kf z C H locs ls hl hP hS)
theorem r_if_le {x : Int32} {t : Nat} {off : Int} (hd : DecJ mi pc (.ifCond .le off) off n t) (kt : x ≤ 0 → RR l w mi dep κ t st loc M) (kf : ¬ x ≤ 0 → RR l w mi dep κ n st loc M) : RR l w mi dep κ pc (.int x :: st) loc M := by
  obtain ⟨p, e, R, s, m, args, below, meth, c, cs, sl, Q⟩ := κ
  obtain ⟨hd, rfl, ht⟩ := hd
  intro C H locs ls hl hP hS
  exact lv_if_le C.1.1 C.1.2.1 hd ht (fun z => kt z C H locs ls hl hP hS) (fun z => kf z C H locs ls hl hP hS)
theorem r_goto {t : Nat} {off : Int} (hd : DecJ mi pc (.goto off) off n t) (k : RR l w mi dep κ t st loc M) : RR l w mi dep κ pc st loc M := by
  obtain ⟨p, e, R, s, m, args, below, meth, c, cs, sl, Q⟩ := κ
  obtain ⟨hd, rfl, ht⟩ := hd
  intro C H locs ls hl hP hS
  exact lv_goto C.1.1 C.1.2.1 hd ht (k C H locs ls hl hP hS)
-- fields
def FL (own : String) (idx ci k : Nat) : Prop := ∃ (C : String) (T : u_T) (N : Nat), cls[ci]? = some (C, T, N) ∧ k < N ∧ (∀ x ∈ u_ws C T N, x ∈ lw_t) ∧ Cond.fieldLink own idx (T k).1 (T k).2.1 (T k).2.2.1 ∈ lw_t
def FP (own : String) (idx ci k : Nat) (ty : FieldType) : Prop := ∃ (C : String) (T : u_T) (N : Nat) (tf : Nat → FieldType), cls[ci]? = some (C, T, N) ∧ k < N ∧ (∀ x ∈ u_ws C T N, x ∈ lw_t) ∧ Cond.fieldLink own idx (T k).1 (T k).2.1 (T k).2.2.1 ∈ lw_t ∧ (∀ j, j < N → parseFieldDescriptor (T j).2.2.1 = some (tf j)) ∧ (∀ a, a < N → ∀ b, b < N → a ≠ b → (T a).2.1 ≠ (T b).2.1) ∧ (T k).2.2.2 = false ∧ parseFieldDescriptor (T k).2.2.1 = some ty
theorem fvs_at {w : Wd} {M : Mem} {o k x : Nat} {fs : List Nat} (h : fs[k]? = some x) : (fvs w M o fs)[k]? = some (fv w M o k x) := by
  rw [fvs, List.getElem?_mapIdx, h]; rfl
theorem r_get {i ci k o x : Nat} {fs : List Nat} (hd : Dec mi pc (.getfield i) 3 n) (hf : FL mi.2.2.1 i ci k) (hs : shL[o]? = some (.inr (ci, fs))) (hk : fs[k]? = some x) (kk : RR l w mi dep κ n (fv w M o k x :: st) loc M) : RR l w mi dep κ pc (.ref (wq w o) :: st) loc M := by
  obtain ⟨p, e, R, s, m, args, below, meth, c, cs, sl, Q⟩ := κ
  obtain ⟨hd, rfl⟩ := hd
  obtain ⟨CC, T, N, h1, h2, h3, h4⟩ := hf
  intro C H locs ls hl hP hS
  exact va_get C.1.1 C.1.2.1 C.1.2.2.2.2 h3 C.1.2.2.2.1 C.2.2.1 hP o (world_at hs) h1 k h2 (C.1.2.2.2.2 _ h4) (fun _ h => h) (fvs_at hk) hd (kk C H locs ls hl hP hS)
theorem fvs_set {w : Wd} {M M' : Mem} {o k : Nat} {fs : List Nat} {v : Value} (h : ∀ x, fs[k]? = some x → fv w M' o k x = v) (ho : ∀ j x, j ≠ k → fs[j]? = some x → fv w M' o j x = fv w M o j x) : (fvs w M o fs).set k v = fvs w M' o fs := by
  apply List.ext_getElem?
  intro j
  rw [List.getElem?_set, fvs, fvs, List.getElem?_mapIdx, List.getElem?_mapIdx, List.length_mapIdx]
  by_cases hj : k = j
  · subst hj
    rw [if_pos rfl]
    cases hx : fs[k]? with
    | none =>
      rw [if_neg]
      · rfl
      · intro hlt
        rw [List.getElem?_eq_none_iff] at hx
        omega
    | some x =>
      rw [if_pos (List.getElem?_eq_some_iff.mp hx).1]
      show some v = some (fv w M' o k x)
      rw [h x hx]
  · rw [if_neg hj]
    cases hx : fs[j]? with
    | none => rfl
    | some x =>
      show some (fv w M o j x) = some (fv w M' o j x)
      rw [ho j x (fun e => hj e.symm) hx]
theorem upd_at {f : Nat → Int32} {k : Nat} {x : Int32} : upd f k x k = x := if_pos rfl
theorem upd_ne {f : Nat → Int32} {k j : Nat} {x : Int32} (h : j ≠ k) : upd f k x j = f j := if_neg h
theorem updL_at {f : Nat → Int64} {k : Nat} {x : Int64} : vp_updL f k x k = x := if_pos rfl
theorem updL_ne {f : Nat → Int64} {k j : Nat} {x : Int64} (h : j ≠ k) : vp_updL f k x j = f j := if_neg h
theorem setI_self {M : Mem} {c k : Nat} {v : Int32} : (setI M c k v).1 c = upd (M.1 c) k v := if_pos rfl
theorem setL_self {M : Mem} {c k : Nat} {v : Int64} : (setL M c k v).2 c = vp_updL (M.2 c) k v := if_pos rfl
theorem setA_self {M : Mem} {c : Nat} {v : Nat → Int32} : (setA M c v).1 c = v := if_pos rfl
theorem setB_self {M : Mem} {c : Nat} {v : Nat → Int64} : (setB M c v).2 c = v := if_pos rfl
/-- an int or boolean field -/
theorem r_putI {i ci k o : Nat} {fs : List Nat} {ty : FieldType} {v : Int32} (hd : Dec mi pc (.putfield i) 3 n) (hf : FP mi.2.2.1 i ci k ty) (hs : shL[o]? = some (.inr (ci, fs))) (hk : fs[k]? = some 0) (hn : narrow ty (.int v) = .int v) (hfit : fits ty (.int v) = true) (kk : RR l w mi dep κ n st loc (setI M o k v)) : RR l w mi dep κ pc (.int v :: .ref (wq w o) :: st) loc M := by
  obtain ⟨p, e, R, s, m, args, below, meth, c, cs, sl, Q⟩ := κ
  obtain ⟨hd, rfl⟩ := hd
  obtain ⟨CC, T, N, tf, h1, h2, h3, h4, h5, h6, h7, h8⟩ := hf
  intro C H locs ls hl hP hS
  have hlen : k < (fvs w M o fs).length := by rw [fvs, List.length_mapIdx]; exact (List.getElem?_eq_some_iff.mp hk).1
  refine va_put C.1.1 C.1.2.1 C.1.2.2.2.2 h3 tf h5 h6 C.1.2.2.2.1 C.2.2.1 hP C.D hS o (world_at hs) h1 k h2 (C.1.2.2.2.2 _ h4) (fun _ h => h) h7 h8 hn hfit hlen hd (fun H1 locs1 hP1 _ hS1 => kk C H1 locs1 ls hl ?_ hS1)
  have he : entS w (setI M o k v) o (.inr (ci, fs)) = .inr (ci, (fvs w M o fs).set k (.int v)) := by
    show Sum.inr (ci, fvs w (setI M o k v) o fs) = _
    rw [fvs_set (M' := setI M o k v)]
    · intro x hx
      cases hk.symm.trans hx
      show Value.int ((setI M o k v).1 o k) = _
      rw [setI_self, upd_at]
    · intro j x hj hx
      match x with
      | 0 =>
        show Value.int ((setI M o k v).1 o j) = Value.int (M.1 o j)
        rw [setI_self, upd_ne hj]
      | 1 => rfl
      | y + 2 => rfl
  rw [world_set hs he setI_off] at hP1
  exact hP1
/-- a long field -/
theorem r_putL {i ci k o : Nat} {fs : List Nat} {v : Int64} (hd : Dec mi pc (.putfield i) 3 n) (hf : FP mi.2.2.1 i ci k .long) (hs : shL[o]? = some (.inr (ci, fs))) (hk : fs[k]? = some 1) (kk : RR l w mi dep κ n st loc (setL M o k v)) : RR l w mi dep κ pc (.long v :: .ref (wq w o) :: st) loc M := by
  obtain ⟨p, e, R, s, m, args, below, meth, c, cs, sl, Q⟩ := κ
  obtain ⟨hd, rfl⟩ := hd
  obtain ⟨CC, T, N, tf, h1, h2, h3, h4, h5, h6, h7, h8⟩ := hf
  intro C H locs ls hl hP hS
  have hlen : k < (fvs w M o fs).length := by rw [fvs, List.length_mapIdx]; exact (List.getElem?_eq_some_iff.mp hk).1
  refine va_put C.1.1 C.1.2.1 C.1.2.2.2.2 h3 tf h5 h6 C.1.2.2.2.1 C.2.2.1 hP C.D hS o (world_at hs) h1 k h2 (C.1.2.2.2.2 _ h4) (fun _ h => h) h7 h8 rfl rfl hlen hd (fun H1 locs1 hP1 _ hS1 => kk C H1 locs1 ls hl ?_ hS1)
  have he : entS w (setL M o k v) o (.inr (ci, fs)) = .inr (ci, (fvs w M o fs).set k (.long v)) := by
    show Sum.inr (ci, fvs w (setL M o k v) o fs) = _
    rw [fvs_set (M' := setL M o k v)]
    · intro x hx
      cases hk.symm.trans hx
      show Value.long ((setL M o k v).2 o k) = _
      rw [setL_self, updL_at]
    · intro j x hj hx
      match x with
      | 0 => rfl
      | 1 =>
        show Value.long ((setL M o k v).2 o j) = Value.long (M.2 o j)
        rw [setL_self, updL_ne hj]
      | y + 2 => rfl
  rw [world_set hs he setL_off] at hP1
  exact hP1
-- arrays
theorem entS_I {w : Wd} {M : Mem} {c t len : Nat} (ht : t ≠ 3) : entS w M c (.inl (t, len)) = .inl (w.2.1 t, len, .inl (M.1 c)) := by
  show Sum.inl (w.2.1 t, len, if t = 3 then _ else _) = _
  rw [if_neg ht]
theorem entS_L {w : Wd} {M : Mem} {c len : Nat} : entS w M c (.inl (3, len)) = .inl (w.2.1 3, len, .inr (.inl (M.2 c))) := rfl
theorem world_I {w : Wd} {M : Mem} {c t len : Nat} (h : shL[c]? = some (.inl (t, len))) (ht : t ≠ 3) : (world w M)[c]? = some (wq w c, .inl (w.2.1 t, len, .inl (M.1 c))) := by rw [world_at h, entS_I ht]
theorem world_L {w : Wd} {M : Mem} {c len : Nat} (h : shL[c]? = some (.inl (3, len))) : (world w M)[c]? = some (wq w c, .inl (w.2.1 3, len, .inr (.inl (M.2 c)))) := world_at h
theorem r_iald {c len : Nat} {i : Int32} (hd : Dec mi pc .iaload 1 n) (hs : shL[c]? = some (.inl (0, len))) (hc : ck i len = true) (kk : RR l w mi dep κ n (.int (M.1 c i.toNatClampNeg) :: st) loc M) : RR l w mi dep κ pc (.int i :: .ref (wq w c) :: st) loc M := by
  obtain ⟨p, e, R, s, m, args, below, meth, c0, cs, sl, Q⟩ := κ
  obtain ⟨hd, rfl⟩ := hd
  intro C H locs ls hl hP hS
  exact va_iald C.1.1 C.1.2.1 C.2.2.1 hP c 0 (world_I hs (by decide)) rfl (ck_in hc) hd (kk C H locs ls hl hP hS)
theorem r_bald {c len : Nat} {i : Int32} (hd : Dec mi pc .baload 1 n) (hs : shL[c]? = some (.inl (1, len))) (hc : ck i len = true) (kk : RR l w mi dep κ n (.int (M.1 c i.toNatClampNeg) :: st) loc M) : RR l w mi dep κ pc (.int i :: .ref (wq w c) :: st) loc M := by
  obtain ⟨p, e, R, s, m, args, below, meth, c0, cs, sl, Q⟩ := κ
  obtain ⟨hd, rfl⟩ := hd
  intro C H locs ls hl hP hS
  exact va_bald C.1.1 C.1.2.1 C.2.2.1 hP c 1 (world_I hs (by decide)) rfl (ck_in hc) hd (kk C H locs ls hl hP hS)
theorem r_zald {c len : Nat} {i : Int32} (hd : Dec mi pc .baload 1 n) (hs : shL[c]? = some (.inl (2, len))) (hc : ck i len = true) (kk : RR l w mi dep κ n (.int (M.1 c i.toNatClampNeg) :: st) loc M) : RR l w mi dep κ pc (.int i :: .ref (wq w c) :: st) loc M := by
  obtain ⟨p, e, R, s, m, args, below, meth, c0, cs, sl, Q⟩ := κ
  obtain ⟨hd, rfl⟩ := hd
  intro C H locs ls hl hP hS
  exact va_zald C.1.1 C.1.2.1 C.2.2.1 hP c 2 (world_I hs (by decide)) rfl (ck_in hc) hd (kk C H locs ls hl hP hS)
theorem r_lald {c len : Nat} {i : Int32} (hd : Dec mi pc .laload 1 n) (hs : shL[c]? = some (.inl (3, len))) (hc : ck i len = true) (kk : RR l w mi dep κ n (.long (M.2 c i.toNatClampNeg) :: st) loc M) : RR l w mi dep κ pc (.int i :: .ref (wq w c) :: st) loc M := by
  obtain ⟨p, e, R, s, m, args, below, meth, c0, cs, sl, Q⟩ := κ
  obtain ⟨hd, rfl⟩ := hd
  intro C H locs ls hl hP hS
  exact va_lald C.1.1 C.1.2.1 C.2.2.1 hP c 3 (world_L hs) rfl (ck_in hc) hd (kk C H locs ls hl hP hS)
theorem ent_setI {w : Wd} {M : Mem} {c t len k : Nat} {v : Int32} (ht : t ≠ 3) : entS w (setI M c k v) c (.inl (t, len)) = .inl (w.2.1 t, len, .inl (upd (M.1 c) k v)) := by rw [entS_I ht, setI_self]
theorem ent_setA {w : Wd} {M : Mem} {c t len : Nat} {v : Nat → Int32} (ht : t ≠ 3) : entS w (setA M c v) c (.inl (t, len)) = .inl (w.2.1 t, len, .inl v) := by rw [entS_I ht, setA_self]
theorem ent_setL {w : Wd} {M : Mem} {c len k : Nat} {v : Int64} : entS w (setL M c k v) c (.inl (3, len)) = .inl (w.2.1 3, len, .inr (.inl (vp_updL (M.2 c) k v))) := by rw [entS_L, setL_self]
theorem ent_setB {w : Wd} {M : Mem} {c len : Nat} {v : Nat → Int64} : entS w (setB M c v) c (.inl (3, len)) = .inl (w.2.1 3, len, .inr (.inl v)) := by rw [entS_L, setB_self]
theorem r_iast {c len : Nat} {i v : Int32} (hd : Dec mi pc .iastore 1 n) (hs : shL[c]? = some (.inl (0, len))) (hc : ck i len = true) (kk : RR l w mi dep κ n st loc (setI M c i.toNatClampNeg v)) : RR l w mi dep κ pc (.int v :: .int i :: .ref (wq w c) :: st) loc M := by
  obtain ⟨p, e, R, s, m, args, below, meth, c0, cs, sl, Q⟩ := κ
  obtain ⟨hd, rfl⟩ := hd
  intro C H locs ls hl hP hS
  refine va_iast C.1.1 C.1.2.1 C.2.2.1 hP C.D hS c 0 (world_I hs (by decide)) rfl (ck_in hc) hd (fun H1 locs1 hP1 _ hS1 => kk C H1 locs1 ls hl ?_ hS1)
  rw [world_set hs (ent_setI (by decide)) setI_off] at hP1
  exact hP1
theorem r_bast {c len : Nat} {i v : Int32} (hd : Dec mi pc .bastore 1 n) (hs : shL[c]? = some (.inl (1, len))) (hc : ck i len = true) (kk : RR l w mi dep κ n st loc (setI M c i.toNatClampNeg v.toInt8.toInt32)) : RR l w mi dep κ pc (.int v :: .int i :: .ref (wq w c) :: st) loc M := by
  obtain ⟨p, e, R, s, m, args, below, meth, c0, cs, sl, Q⟩ := κ
  obtain ⟨hd, rfl⟩ := hd
  intro C H locs ls hl hP hS
  refine va_bast C.1.1 C.1.2.1 C.2.2.1 hP C.D hS c 1 (world_I hs (by decide)) rfl (ck_in hc) hd (fun H1 locs1 hP1 _ hS1 => kk C H1 locs1 ls hl ?_ hS1)
  rw [vp_nar_byte, world_set hs (ent_setI (by decide)) setI_off] at hP1
  exact hP1
theorem r_zast {c len : Nat} {i v : Int32} (hd : Dec mi pc .bastore 1 n) (hs : shL[c]? = some (.inl (2, len))) (hv : vp_nar .boolean v = v) (hc : ck i len = true) (kk : RR l w mi dep κ n st loc (setI M c i.toNatClampNeg v)) : RR l w mi dep κ pc (.int v :: .int i :: .ref (wq w c) :: st) loc M := by
  obtain ⟨p, e, R, s, m, args, below, meth, c0, cs, sl, Q⟩ := κ
  obtain ⟨hd, rfl⟩ := hd
  intro C H locs ls hl hP hS
  refine va_zast C.1.1 C.1.2.1 C.2.2.1 hP C.D hS c 2 (world_I hs (by decide)) rfl (ck_in hc) hd (fun H1 locs1 hP1 _ hS1 => kk C H1 locs1 ls hl ?_ hS1)
  rw [hv, world_set hs (ent_setI (by decide)) setI_off] at hP1
  exact hP1
theorem r_last {c len : Nat} {i : Int32} {v : Int64} (hd : Dec mi pc .lastore 1 n) (hs : shL[c]? = some (.inl (3, len))) (hc : ck i len = true) (kk : RR l w mi dep κ n st loc (setL M c i.toNatClampNeg v)) : RR l w mi dep κ pc (.long v :: .int i :: .ref (wq w c) :: st) loc M := by
  obtain ⟨p, e, R, s, m, args, below, meth, c0, cs, sl, Q⟩ := κ
  obtain ⟨hd, rfl⟩ := hd
  intro C H locs ls hl hP hS
  refine va_last C.1.1 C.1.2.1 C.2.2.1 hP C.D hS c 3 (world_L hs) rfl (ck_in hc) hd (fun H1 locs1 hP1 _ hS1 => kk C H1 locs1 ls hl ?_ hS1)
  rw [world_set hs ent_setL setL_off] at hP1
  exact hP1
theorem r_alenI {c t len : Nat} {v : Int32} (hd : Dec mi pc .arraylength 1 n) (hs : shL[c]? = some (.inl (t, len))) (ht : t < 4) (hv : Int32.ofNat len = v) (kk : RR l w mi dep κ n (.int v :: st) loc M) : RR l w mi dep κ pc (.ref (wq w c) :: st) loc M := by
  obtain ⟨p, e, R, s, m, args, below, meth, c0, cs, sl, Q⟩ := κ
  obtain ⟨hd, rfl⟩ := hd
  intro C H locs ls hl hP hS
  match t, ht, hs with
  | 0, _, hs => exact va_alen C.1.1 C.1.2.1 C.2.2.1 hP c 0 (world_at hs) rfl hv hd (kk C H locs ls hl hP hS)
  | 1, _, hs => exact va_alen C.1.1 C.1.2.1 C.2.2.1 hP c 1 (world_at hs) rfl hv hd (kk C H locs ls hl hP hS)
  | 2, _, hs => exact va_alen C.1.1 C.1.2.1 C.2.2.1 hP c 2 (world_at hs) rfl hv hd (kk C H locs ls hl hP hS)
  | 3, _, hs => exact va_alen C.1.1 C.1.2.1 C.2.2.1 hP c 3 (world_at hs) rfl hv hd (kk C H locs ls hl hP hS)
/-- a copy of an int array's head over another's -/
theorem r_copyI {i c0 c1 n0 n1 : Nat} {len : Int32} (hd : Dec mi pc (.invokestatic i) 3 n) (hm : Cond.methodLink mi.2.2.1 i arraycopyName ∈ lw_t ∧ Cond.native arraycopyName ∈ lw_t ∧ Cond.static arraycopyName ∈ lw_t ∧ Cond.initialized "java/lang/System" ∈ lw_t) (h0 : shL[c0]? = some (.inl (0, n0))) (h1 : shL[c1]? = some (.inl (0, n1))) (hl0 : ¬ len < 0) (hl1 : len.toNatClampNeg ≤ n0) (hl2 : len.toNatClampNeg ≤ n1) (hdep : 1 ≤ dep) (hst : (st.map fun v => v.category).sum + (nativeFrameWords "java/lang/System" "arraycopy" 5 + 11) ≤ 128) (kk : RR l w mi dep κ n st loc (setA M c1 (va_cpy (M.1 c0) (M.1 c1) 0 0 len.toNatClampNeg))) : RR l w mi dep κ pc (.int len :: .int 0 :: .ref (wq w c1) :: .int 0 :: .ref (wq w c0) :: st) loc M := by
  obtain ⟨p, e, R, s, m, args, below, meth, c, cs, sl, Q⟩ := κ
  obtain ⟨hd, rfl⟩ := hd
  intro C H locs ls hl hP hS
  have hz : (0 : Int32).toNatClampNeg = 0 := rfl
  have hts := C.1.2.2.2.2
  refine va_copyi C.1.1 C.1.2.1 (C.1.2.2.1.trans hl.1.symm) C.1.2.2.2.1 (hts _ hm.1) (hts _ hm.2.1) (hts _ hm.2.2.1) (hts _ hm.2.2.2) C.2.2.1 hP C.D hS c0 c1 0 0 (world_I h0 (by decide)) (world_I h1 (by decide)) rfl rfl rfl (by decide) (by decide) hl0 (by rw [hz]; omega) (by rw [hz]; omega) (fun _ _ => rfl) (by have := C.2.2.2.2.2.1; omega) (by have := C.2.2.2.2.2.2.1; omega) hd (fun H1 locs1 hP1 _ hS1 => kk C H1 locs1 ls hl ?_ hS1)
  rw [hz, world_set h1 (ent_setA (by decide)) setA_off] at hP1
  exact hP1
theorem r_copyL {i c0 c1 n0 n1 : Nat} {len : Int32} (hd : Dec mi pc (.invokestatic i) 3 n) (hm : Cond.methodLink mi.2.2.1 i arraycopyName ∈ lw_t ∧ Cond.native arraycopyName ∈ lw_t ∧ Cond.static arraycopyName ∈ lw_t ∧ Cond.initialized "java/lang/System" ∈ lw_t) (h0 : shL[c0]? = some (.inl (3, n0))) (h1 : shL[c1]? = some (.inl (3, n1))) (hl0 : ¬ len < 0) (hl1 : len.toNatClampNeg ≤ n0) (hl2 : len.toNatClampNeg ≤ n1) (hdep : 1 ≤ dep) (hst : (st.map fun v => v.category).sum + (nativeFrameWords "java/lang/System" "arraycopy" 5 + 11) ≤ 128) (kk : RR l w mi dep κ n st loc (setB M c1 (va_cpy (M.2 c0) (M.2 c1) 0 0 len.toNatClampNeg))) : RR l w mi dep κ pc (.int len :: .int 0 :: .ref (wq w c1) :: .int 0 :: .ref (wq w c0) :: st) loc M := by
  obtain ⟨p, e, R, s, m, args, below, meth, c, cs, sl, Q⟩ := κ
  obtain ⟨hd, rfl⟩ := hd
  intro C H locs ls hl hP hS
  have hz : (0 : Int32).toNatClampNeg = 0 := rfl
  have hts := C.1.2.2.2.2
  refine va_copyl C.1.1 C.1.2.1 (C.1.2.2.1.trans hl.1.symm) C.1.2.2.2.1 (hts _ hm.1) (hts _ hm.2.1) (hts _ hm.2.2.1) (hts _ hm.2.2.2) C.2.2.1 hP C.D hS c0 c1 3 3 (world_L h0) (world_L h1) rfl rfl rfl (by decide) (by decide) hl0 (by rw [hz]; omega) (by rw [hz]; omega) (fun _ _ => rfl) (by have := C.2.2.2.2.2.1; omega) (by have := C.2.2.2.2.2.2.1; omega) hd (fun H1 locs1 hP1 _ hS1 => kk C H1 locs1 ls hl ?_ hS1)
  rw [hz, world_set h1 ent_setB setB_off] at hP1
  exact hP1
-- Math.max, Math.min
def imax (x y : Int32) : Int32 := if x < y then y else x
def imin (x y : Int32) : Int32 := if y < x then y else x
theorem r_max {i : Nat} {x y : Int32} (hd : Dec mi pc (.invokestatic i) 3 n) (hm : Cond.methodLink mi.2.2.1 i Lib.Math.max.name ∈ lw_t ∧ Cond.static Lib.Math.max.name ∈ lw_t ∧ Cond.initialized "java/lang/Math" ∈ lw_t ∧ Cond.code Lib.Math.max.name Lib.Math.max.code 2 (some .int) ∈ lw_t) (hdep : 1 ≤ dep) (hst : (st.map fun v => v.category).sum + 13 ≤ 128) (kk : RR l w mi dep κ n (.int (imax x y) :: st) loc M) : RR l w mi dep κ pc (.int y :: .int x :: st) loc M := by
  obtain ⟨p, e, R, s, m, args, below, meth, c, cs, sl, Q⟩ := κ
  obtain ⟨hd, rfl⟩ := hd
  intro C H locs ls hl hP hS
  have hts := C.1.2.2.2.2
  exact va_mmax C.1.1 C.1.2.1 (C.1.2.2.1.trans hl.1.symm) C.1.2.2.2.1 (hts _ hm.1) (hts _ hm.2.1) (hts _ hm.2.2.1) (hts _ hm.2.2.2) (by have := C.2.2.2.2.2.1; omega) (by have := C.2.2.2.2.2.2.1; omega) C.2.2.2.2.2.2.2.1 C.2.2.2.2.2.2.2.2 hd (kk C H locs ls hl hP hS)
theorem r_min {i : Nat} {x y : Int32} (hd : Dec mi pc (.invokestatic i) 3 n) (hm : Cond.methodLink mi.2.2.1 i Lib.Math.min.name ∈ lw_t ∧ Cond.static Lib.Math.min.name ∈ lw_t ∧ Cond.initialized "java/lang/Math" ∈ lw_t ∧ Cond.code Lib.Math.min.name Lib.Math.min.code 2 (some .int) ∈ lw_t) (hdep : 1 ≤ dep) (hst : (st.map fun v => v.category).sum + 13 ≤ 128) (kk : RR l w mi dep κ n (.int (imin x y) :: st) loc M) : RR l w mi dep κ pc (.int y :: .int x :: st) loc M := by
  obtain ⟨p, e, R, s, m, args, below, meth, c, cs, sl, Q⟩ := κ
  obtain ⟨hd, rfl⟩ := hd
  intro C H locs ls hl hP hS
  have hts := C.1.2.2.2.2
  exact va_mmin C.1.1 C.1.2.1 (C.1.2.2.1.trans hl.1.symm) C.1.2.2.2.1 (hts _ hm.1) (hts _ hm.2.1) (hts _ hm.2.2.1) (hts _ hm.2.2.2) (by have := C.2.2.2.2.2.1; omega) (by have := C.2.2.2.2.2.2.1; omega) C.2.2.2.2.2.2.2.1 C.2.2.2.2.2.2.2.2 hd (kk C H locs ls hl hP hS)
-- the static arrays and the texts
theorem r_gsL {i : Nat} (hd : Dec mi pc (.getstatic i) 3 n) (hf : Cond.fieldLink mi.2.2.1 i RX9 "TUNE_LEAST" "[I" ∈ lw_t) (kk : RR l w mi dep κ n (.ref (wa w 16) :: st) loc M) : RR l w mi dep κ pc st loc M := by
  obtain ⟨p, e, R, s, m, args, below, meth, c, cs, sl, Q⟩ := κ
  obtain ⟨hd, rfl⟩ := hd
  intro C H locs ls hl hP hS
  exact va_gets C.1.1 C.1.2.1 C.2.2.2.2.1.2.2.1.1 hS C.1.2.2.2.1 (C.1.2.2.2.2 _ hf) (fun _ h => h) hd (kk C H locs ls hl hP hS)
theorem r_gsM {i : Nat} (hd : Dec mi pc (.getstatic i) 3 n) (hf : Cond.fieldLink mi.2.2.1 i RX9 "TUNE_MOST" "[I" ∈ lw_t) (kk : RR l w mi dep κ n (.ref (wa w 17) :: st) loc M) : RR l w mi dep κ pc st loc M := by
  obtain ⟨p, e, R, s, m, args, below, meth, c, cs, sl, Q⟩ := κ
  obtain ⟨hd, rfl⟩ := hd
  intro C H locs ls hl hP hS
  exact va_gets C.1.1 C.1.2.1 C.2.2.2.2.1.2.2.2.1.1 hS C.1.2.2.2.1 (C.1.2.2.2.2 _ hf) (fun _ h => h) hd (kk C H locs ls hl hP hS)
theorem r_tl {i : Int32} (hd : Dec mi pc .iaload 1 n) (hc : ck i 3 = true) (kk : RR l w mi dep κ n (.int (tlV.getD i.toNatClampNeg 0) :: st) loc M) : RR l w mi dep κ pc (.int i :: .ref (wa w 16) :: st) loc M := by
  obtain ⟨p, e, R, s, m, args, below, meth, c, cs, sl, Q⟩ := κ
  obtain ⟨hd, rfl⟩ := hd
  intro C H locs ls hl hP hS
  exact va_ti C.1.1 C.1.2.1 C.2.2.2.2.1.2.2.1.2 hS (ck_in hc) rfl hd (kk C H locs ls hl hP hS)
theorem r_tm {i : Int32} (hd : Dec mi pc .iaload 1 n) (hc : ck i 3 = true) (kk : RR l w mi dep κ n (.int (tmV.getD i.toNatClampNeg 0) :: st) loc M) : RR l w mi dep κ pc (.int i :: .ref (wa w 17) :: st) loc M := by
  obtain ⟨p, e, R, s, m, args, below, meth, c, cs, sl, Q⟩ := κ
  obtain ⟨hd, rfl⟩ := hd
  intro C H locs ls hl hP hS
  exact va_ti C.1.1 C.1.2.1 C.2.2.2.2.1.2.2.2.1.2 hS (ck_in hc) rfl hd (kk C H locs ls hl hP hS)
theorem r_text {i j : Nat} {tx : String} (hd : Dec mi pc (.ldc i) 2 n) (ho : mi.2.2.1 = RX6) (hj : idxS[j]? = some (i, tx)) (kk : RR l w mi dep κ n (.ref (wa w j) :: st) loc M) : RR l w mi dep κ pc st loc M := by
  obtain ⟨p, e, R, s, m, args, below, meth, c, cs, sl, Q⟩ := κ
  obtain ⟨hd, rfl⟩ := hd
  intro C H locs ls hl hP hS
  exact va_ldcS C.1.1 C.1.2.1 (ho ▸ C.1.2.2.2.1) (C.2.2.2.2.1.2.1 j _ hj) hd (kk C H locs ls hl hP hS)
-- what a method gives
def Qres (w : Wd) (r : Res) : Array Value → State → Outcome → State → Prop := fun _ st o t => (o = .returned r.1 ∧ va_P w.1 cls (world w r.2) t.heap) ∧ va_F (AA w st.heap.size) st t
def RQ (w : Wd) (r : Res) (κ : Kp) : Prop := match κ with
  | (_, _, _, s, _, args, below, _, _, cs, sl, Q) => Q = MQ below (Qres w r) args s cs sl (AA w s.heap.size)
theorem r_iret {v : Int32} {r : Res} (hq : RQ w r κ) (hd : Dec mi pc .ireturn 1 n) (hr : mi.2.2.2 = some .int) (h : r = (some (.int v), M)) : RR l w mi dep κ pc [.int v] loc M := by
  obtain ⟨p, e, R, s, m, args, below, meth, c, cs, sl, Q⟩ := κ
  intro C H locs ls hl hP hS
  have hq : Q = _ := hq
  subst hq; subst h
  exact W.iret C.1.1 C.1.2.1 (C.2.1.1.trans hr) (fun t ht _ => ⟨⟨rfl, by rw [ht]; exact hP⟩, hS.F ht⟩) hS.2.2 hd.1 C.2.1.2
theorem r_zret {v : Int32} {r : Res} {ty : FieldType} (hq : RQ w r κ) (hd : Dec mi pc .ireturn 1 n) (hr : mi.2.2.2 = some ty) (hn : narrow ty (.int v) = .int v) (h : r = (some (.int v), M)) : RR l w mi dep κ pc [.int v] loc M := by
  obtain ⟨p, e, R, s, m, args, below, meth, c, cs, sl, Q⟩ := κ
  intro C H locs ls hl hP hS
  have hq : Q = _ := hq
  subst hq; subst h
  exact W.zret C.1.1 C.1.2.1 (C.2.1.1.trans hr) hn (fun t ht _ => ⟨⟨rfl, by rw [ht]; exact hP⟩, hS.F ht⟩) hS.2.2 hd.1 C.2.1.2
theorem r_lret {v : Int64} {r : Res} (hq : RQ w r κ) (hd : Dec mi pc .lreturn 1 n) (hr : mi.2.2.2 = some .long) (h : r = (some (.long v), M)) : RR l w mi dep κ pc [.long v] loc M := by
  obtain ⟨p, e, R, s, m, args, below, meth, c, cs, sl, Q⟩ := κ
  intro C H locs ls hl hP hS
  have hq : Q = _ := hq
  subst hq; subst h
  exact W.lret C.1.1 C.1.2.1 (C.2.1.1.trans hr) (fun t ht _ => ⟨⟨rfl, by rw [ht]; exact hP⟩, hS.F ht⟩) hS.2.2 hd.1 C.2.1.2
theorem r_vret {r : Res} (hq : RQ w r κ) (hd : Dec mi pc .return_ 1 n) (hr : mi.2.2.2 = none) (h : r = (none, M)) : RR l w mi dep κ pc [] loc M := by
  obtain ⟨p, e, R, s, m, args, below, meth, c, cs, sl, Q⟩ := κ
  intro C H locs ls hl hP hS
  have hq : Q = _ := hq
  subst hq; subst h
  exact W.vret C.1.1 C.1.2.1 (C.2.1.1.trans hr) (fun t ht _ => ⟨⟨rfl, by rw [ht]; exact hP⟩, hS.F ht⟩) hS.2.2 hd.1 C.2.1.2
theorem r_aret {o : Nat} {nm : String} {r : Res} (hq : RQ w r κ) (hd : Dec mi pc .areturn 1 n) (hr : mi.2.2.2 = some (.object nm)) (h : r = (some (.ref (wq w o)), M)) : RR l w mi dep κ pc [.ref (wq w o)] loc M := by
  obtain ⟨p, e, R, s, m, args, below, meth, c, cs, sl, Q⟩ := κ
  intro C H locs ls hl hP hS
  have hq : Q = _ := hq
  subst hq; subst h
  exact W.aret C.1.1 C.1.2.1 (C.2.1.1.trans hr) (Or.inl ⟨nm, rfl⟩) (Or.inr ⟨_, rfl⟩) (fun t ht _ => ⟨⟨rfl, by rw [ht]; exact hP⟩, hS.F ht⟩) hS.2.2 hd.1 C.2.1.2
-- contracts
def rmD (d : Nat) : Room := { frames := d, cells := 0, slots := 0, locals := 128 * d }
def Bef (w : Wd) (M : Mem) (sz : Nat) (U : State) : Prop := U.heap.size = sz ∧ va_P w.1 cls (world w M) U.heap ∧ va_K w.1 cls (tysOf w) U ∧ Inj w ∧ Glob w U
def wsD (mi : Mi) (y : MethodName) : List Cond := .code y mi.1 mi.2.1 mi.2.2.2 :: lw_t
def Cn (l : Launch) (w : Wd) (mi : Mi) (y : MethodName) (dep : Nat) (av : List Value) (M : Mem) (r : Res) : Prop := ∀ sz : Nat, Met l y (wsD mi y) (rmD dep) (va_Pc av (Bef w M sz)) (Qres w r) 0 0 (AA w sz)
theorem Cn_of {y : MethodName} {av : List Value} {r : Res} {loc0 : List (Option Value)} (hy : plainName y.cls = true) (hc : y.cls = mi.2.2.1) (h0 : lvOf loc0 = lv_args 0 av) (hn : (lg_sl av).length ≤ mi.2.1)
    (body : ∀ κ, RQ w r κ → RR l w mi dep κ 0 [] loc0 M) : Cn l w mi y dep av M r := by
  intro sz
  refine Met.ofW (cc := mi.1) (maxL := mi.2.1) (ret := mi.2.2.2) hy rfl ?_
  intro p e s m args below meth c s₁ B hml hv
  obtain ⟨rfl, hsz, hP, hK, hI, hG⟩ := hv
  subst hsz
  have hts := atoms_spec (ws := wsD mi y) B.pre
  have hown : s.vm.findClass mi.2.2.1 = some m.cls := hc ▸ findClass_of_methodNamed B.named
  have hl := lv_entry av hn
  have C : Ctx w mi dep p (headSpec (wsD mi y) (rmD dep)).room s m av.toArray meth c 0 0 := ⟨⟨B.exec, B.bytes, hml, hown, fun x hx => hts x (List.mem_cons_of_mem _ hx)⟩, ⟨B.returns, B.notSynchronized⟩, hK, hI, hG, ⟨Nat.le_refl _, Nat.le_refl _, Nat.zero_le _, Nat.zero_le _⟩⟩
  have hb := body (p, e, (headSpec (wsD mi y) (rmD dep)).room, s, m, av.toArray, below, meth, c, 0, 0, MQ below (Qres w r) av.toArray s 0 0 (AA w s.heap.size)) rfl
  rw [lg_entry_eq]
  exact hb C s.heap [] _ (by rw [h0]; exact hl) hP va_S.rf
/-- what is known of a method that is called -/
abbrev MF (y : MethodName) (mi : Mi) (n : Nat) : Prop := Cond.initialized y.cls ∈ lw_t ∧ Cond.code y mi.1 mi.2.1 mi.2.2.2 ∈ lw_t ∧ (y.cls ≠ "java/lang/invoke/MethodHandle" ∧ y.cls ≠ "java/lang/invoke/VarHandle") ∧ (parseMethodDescriptor y.desc).map (fun d => d.parameters.length) = some n ∧ mi.2.1 ≤ 100
abbrev MV (y : MethodName) : Prop := Cond.instanceMethod y ∈ lw_t ∧ Cond.selects y.cls y y ∈ lw_t
theorem len_of {y : MethodName} {n : Nat} (h : (parseMethodDescriptor y.desc).map (fun d => d.parameters.length) = some n) : ∀ sig, parseMethodDescriptor y.desc = some sig → n = sig.parameters.length := by
  intro sig hs
  rw [hs] at h
  exact (Option.some.inj h).symm
theorem good_ws {mi' : Mi} {y : MethodName} (h : Cond.code y mi'.1 mi'.2.1 mi'.2.2.2 ∈ lw_t) : GoodIn lw_t (wsD mi' y) := fun x hx => (List.mem_cons.mp hx).elim (fun e => e ▸ lw_tgood _ h) (fun h2 => lw_tgood x h2)
theorem Glob.callg {w : Wd} {U : State} {g : JFrame} {mk : MethodId} {a : Array Value} (h : Glob w U) : Glob w (U.calling g mk a) := by
  obtain ⟨g1, g2, ⟨g3, g4⟩, ⟨g5, g6⟩, ⟨g7, g9⟩, g8⟩ := h
  have hv : U.vm.Alike (U.calling g mk a).vm := Vm.Alike.refl U.vm
  exact ⟨g1.moved hv, fun i q hq => vk_R.same (u := U) rfl (g2 i q hq), ⟨g3.moved hv, g4.moved hv⟩, ⟨g5.moved hv, g6.moved hv⟩, ⟨g7.moved hv, g9.moved hv⟩, fun q hq => va_Nw.same (u := U) rfl rfl (g8 q hq)⟩
theorem blind_of {w : Wd} {M : Mem} {sz : Nat} {av : List Value} : FrameBlind (va_Pc av (Bef w M sz)) := fun a U g mk q => by
  obtain ⟨q1, q2, q3, q4, q5, q6⟩ := q
  exact ⟨q1, q2, q3, va_K.moved (u := U) (U := U.calling g mk a) (Vm.Alike.refl U.vm) q4, q5, q6.callg⟩

theorem Bef_at {κw : Wd} {M : Mem} {mi : Mi} {dep : Nat} {p : Program} {R : Room} {s U : State} {m : MethodId} {args : Array Value} {meth : Method} {c : Code} {cs sl : Nat} {H : Heap} {locs : List Loc} (C : Ctx κw mi dep p R s m args meth c cs sl) (hP : va_P κw.1 cls (world κw M) H) (hS : va_S (AA κw s.heap.size) s.heap H locs) (hU : U.heap = H) (hW : s.WarmedH U.vm) : Bef κw M H.size U := by
  subst hU
  exact ⟨rfl, hP, va_K.moved hW.alike C.2.2.1, C.2.2.2.1, C.2.2.2.2.1.moved hW hS⟩
theorem call_core {p : Program} {e : Env} {R : Room} {s : State} {m : MethodId} {args : Array Value} {below : List Frame} {meth : Method} {c : Code} {cs sl : Nat} {Q : State → Prop} {H : Heap} {locs : List Loc} {ls : Array Slot} {rest st0 : List Value} {av : Array Value} {r : Res}
    (hr : va_Run p l e R s m args below meth c H locs cs sl 0 0 (F0 m pc ls st0) rest (Qres w r av) (AA w H.size)) (hS : va_S (AA w s.heap.size) s.heap H locs)
    (kk : ∀ (H1 : Heap) (locs1 : List Loc), va_P w.1 cls (world w r.2) H1 → va_S (AA w s.heap.size) s.heap H1 locs1 → W p l e R s m args below meth c H1 locs1 cs sl Q (F0 m (pc + 3) ls (r.1.toList ++ rest))) : W p l e R s m args below meth c H locs cs sl Q (F0 m pc ls st0) := by
  intro T hT X
  obtain ⟨v, sb, t, T', L, h0, X', hL, e1, e2, ⟨⟨hv, hp⟩, hz, hk⟩, st⟩ := hr T hT X
  have hv : v = r.1 := by cases hv; rfl
  subst hv
  rw [h0] at hz hk
  have hm := AA_mono (w := w) hS.1
  obtain ⟨t2, a1, b1⟩ := kk T'.heap (locs ++ L) (by rw [e1]; exact hp)
    ⟨Nat.le_trans hS.1 (by rw [e1]; exact hz), fun q h1 h2 => by rw [e1, hk q (Nat.lt_of_lt_of_le h1 hS.1) (fun z => h2 (hm q z))]; exact hS.2.1 q h1 h2, fun q hq => by
      rcases List.mem_append.mp hq with h | h
      · exact hS.2.2 q h
      · exact hm _ (hL q h)⟩ T' rfl X'
  exact ⟨t2, st t2 a1, b1⟩
theorem calls_ok {dep' : Nat} {p : Program} {R : Room} {s : State} {m : MethodId} {args : Array Value} {meth : Method} {c : Code} {cs sl : Nat} (C : Ctx w mi dep p R s m args meth c cs sl) {y : MethodName} {mi' : Mi} {na : Nat} (hy : MF y mi' na) (hd : dep' + 1 ≤ dep) : (rmD dep').frames + 1 ≤ R.frames ∧ 8 + (mi'.2.1 + 11) + (rmD dep').locals ≤ R.locals := by
  have h1 := C.2.2.2.2.2.1
  have h2 := C.2.2.2.2.2.2.1
  have h3 := hy.2.2.2.2
  constructor
  · show dep' + 1 ≤ R.frames
    omega
  · show 8 + (mi'.2.1 + 11) + 128 * dep' ≤ R.locals
    omega
theorem r_callV {i na ci o dep' : Nat} {C0 : String} {T0 : u_T} {N0 : Nat} {y : MethodName} {mi' : Mi} {fs : List Nat} {av stk : List Value} {r : Res} (hd : Dec mi pc (.invokevirtual i) 3 n) (hm : Cond.methodLink mi.2.2.1 i y ∈ lw_t) (hy : MF y mi' na) (hv : MV y) (hs : shL[o]? = some (.inr (ci, fs))) (hci : cls[ci]? = some (C0, T0, N0)) (hcn : C0 = y.cls)
    (hc : Cn l w mi' y dep' (.ref (wq w o) :: av) M r) (hdep : dep' + 1 ≤ dep) (hn : av.length = na) (hst : stk = av.reverse ++ .ref (wq w o) :: st) (hw : (st.map fun v => v.category).sum ≤ 8) (kk : RR l w mi dep κ n (r.1.toList ++ st) loc r.2) : RR l w mi dep κ pc stk loc M := by
  obtain ⟨p, e, R, s, m, args, below, meth, c, cs, sl, Q⟩ := κ
  obtain ⟨hd, rfl⟩ := hd
  subst hcn
  intro C H locs ls hl hP hS
  have hts := C.1.2.2.2.2
  have hR := calls_ok C hy hdep
  have hrun := va_runV (l := l) (e := e) (R := R) (below := below) (meth := meth) (locs := locs) (cells := cs) (slots := sl) (g := F0 m pc ls stk) (rest := st) C.1 (hc H.size) (C := y.cls) (index := i) (bytes := mi'.1) (maxL := mi'.2.1) (ret := mi'.2.2.2) (n := na)
    ⟨⟨rfl, rfl, hR.1, hR.2, pay_in hts (good_ws hy.2.1), List.mem_cons_self, hts _ hy.2.1, hts _ hy.1, hy.2.2.1, len_of hy.2.2.2.1, hts _ hm⟩, hts _ hv.1, hts _ hv.2⟩
    ⟨blind_of, va_recv C.2.2.1 hP hci (world_at hs), fun U hU hW => ⟨rfl, Bef_at C hP hS hU hW⟩⟩ rfl hn hl.1 hst (by show 2 * 0 + _ ≤ 8; omega) hd ⟨C.2.2.2.2.2.2.2.1, C.2.2.2.2.2.2.2.2⟩
  exact call_core hrun hS (fun H1 locs1 hP1 hS1 => kk C H1 locs1 ls hl hP1 hS1)
theorem r_callS {i na dep' : Nat} {y : MethodName} {mi' : Mi} {av stk : List Value} {r : Res} (hd : Dec mi pc (.invokestatic i) 3 n) (hm : Cond.methodLink mi.2.2.1 i y ∈ lw_t) (hy : MF y mi' na) (hv : Cond.static y ∈ lw_t)
    (hc : Cn l w mi' y dep' av M r) (hdep : dep' + 1 ≤ dep) (hn : av.length = na) (hst : stk = av.reverse ++ st) (hw : (st.map fun v => v.category).sum ≤ 8) (kk : RR l w mi dep κ n (r.1.toList ++ st) loc r.2) : RR l w mi dep κ pc stk loc M := by
  obtain ⟨p, e, R, s, m, args, below, meth, c, cs, sl, Q⟩ := κ
  obtain ⟨hd, rfl⟩ := hd
  intro C H locs ls hl hP hS
  have hts := C.1.2.2.2.2
  have hR := calls_ok C hy hdep
  have hrun := va_runS (l := l) (e := e) (R := R) (below := below) (meth := meth) (locs := locs) (cells := cs) (slots := sl) (g := F0 m pc ls stk) (rest := st) C.1 (hc H.size) (index := i) (bytes := mi'.1) (maxL := mi'.2.1) (ret := mi'.2.2.2) (n := na)
    ⟨⟨rfl, rfl, hR.1, hR.2, pay_in hts (good_ws hy.2.1), List.mem_cons_self, hts _ hy.2.1, hts _ hy.1, hy.2.2.1, len_of hy.2.2.2.1, hts _ hm⟩, hts _ hv⟩
    ⟨blind_of, fun U hU hW => ⟨rfl, Bef_at C hP hS hU hW⟩⟩ rfl hn hl.1 hst (by show 2 * 0 + _ ≤ 8; omega) hd ⟨C.2.2.2.2.2.2.2.1, C.2.2.2.2.2.2.2.2⟩
  exact call_core hrun hS (fun H1 locs1 hP1 hS1 => kk C H1 locs1 ls hl hP1 hS1)
/-- a private static method of the nest's host -/
theorem r_callN {i na dep' : Nat} {y : MethodName} {mi' : Mi} {host : String} {av stk : List Value} {r : Res} (hd : Dec mi pc (.invokestatic i) 3 n) (hm : (mi.2.2.1, i, y, host) ∈ nestL) (hy : MF y mi' na) (hv : Cond.static y ∈ lw_t)
    (hc : Cn l w mi' y dep' av M r) (hdep : dep' + 1 ≤ dep) (hn : av.length = na) (hst : stk = av.reverse ++ st) (hw : (st.map fun v => v.category).sum ≤ 8) (kk : RR l w mi dep κ n (r.1.toList ++ st) loc r.2) : RR l w mi dep κ pc stk loc M := by
  obtain ⟨p, e, R, s, m, args, below, meth, c, cs, sl, Q⟩ := κ
  obtain ⟨hd, rfl⟩ := hd
  intro C H locs ls hl hP hS
  have hts := C.1.2.2.2.2
  have hR := calls_ok C hy hdep
  have hrun := va_runSN (l := l) (e := e) (R := R) (below := below) (meth := meth) (locs := locs) (cells := cs) (slots := sl) (g := F0 m pc ls stk) (rest := st) C.1 (hc H.size) (index := i) (host := host) (bytes := mi'.1) (maxL := mi'.2.1) (ret := mi'.2.2.2) (n := na)
    ⟨⟨⟨rfl, rfl, hR.1, hR.2, pay_in hts (good_ws hy.2.1), List.mem_cons_self⟩, hts _ hy.2.1, hts _ hy.1, hy.2.2.1, len_of hy.2.2.2.1, va_Nw.use rfl (C.2.2.2.2.1.2.2.2.2.2 _ hm)⟩, hts _ hv, trivial⟩
    ⟨blind_of, fun U hU hW => ⟨rfl, Bef_at C hP hS hU hW⟩⟩ rfl hn hl.1 hst (by show 2 * 0 + _ ≤ 8; omega) hd ⟨C.2.2.2.2.2.2.2.1, C.2.2.2.2.2.2.2.2⟩
  exact call_core hrun hS (fun H1 locs1 hP1 hS1 => kk C H1 locs1 ls hl hP1 hS1)
-- switches
theorem r_tabIn {dflt lo hi : Int} {offs : Array Int} {ln t : Nat} {x : Int32} {off : Int} (hd : decode mi.1 pc = .ok (.tableswitch dflt lo hi offs, ln)) (h1 : lo ≤ x.toInt) (h2 : x.toInt ≤ hi) (ho : offs[(x.toInt - lo).toNat]? = some off) (ht : (pc : Int) + off = (t : Int)) (k : RR l w mi dep κ t st loc M) : RR l w mi dep κ pc (.int x :: st) loc M := by
  obtain ⟨p, e, R, s, m, args, below, meth, c, cs, sl, Q⟩ := κ
  intro C H locs ls hl hP hS
  exact lv_tableIn C.1.1 C.1.2.1 hd (by omega) (by omega) ho ht (k C H locs ls hl hP hS)
theorem r_tabOut {dflt lo hi : Int} {offs : Array Int} {ln t : Nat} {x : Int32} (hd : decode mi.1 pc = .ok (.tableswitch dflt lo hi offs, ln)) (h : x.toInt < lo ∨ hi < x.toInt) (ht : (pc : Int) + dflt = (t : Int)) (k : RR l w mi dep κ t st loc M) : RR l w mi dep κ pc (.int x :: st) loc M := by
  obtain ⟨p, e, R, s, m, args, below, meth, c, cs, sl, Q⟩ := κ
  intro C H locs ls hl hP hS
  exact lv_tableOut C.1.1 C.1.2.1 hd h ht (k C H locs ls hl hP hS)
theorem r_lookup {dflt : Int} {ps : Array (Int × Int)} {ln t : Nat} {x : Int32} {off : Int} (hd : decode mi.1 pc = .ok (.lookupswitch dflt ps, ln)) (hp : (ps.toList.zip (ps.toList.drop 1)).all (fun (a, next) => a.1 < next.1) = true) (ho : Op.lookupswitch.offset ps.toList dflt x.toInt = off) (ht : (pc : Int) + off = (t : Int)) (k : RR l w mi dep κ t st loc M) : RR l w mi dep κ pc (.int x :: st) loc M := by
  obtain ⟨p, e, R, s, m, args, below, meth, c, cs, sl, Q⟩ := κ
  intro C H locs ls hl hP hS
  exact lv_lookup C.1.1 C.1.2.1 hd hp ho ht (k C H locs ls hl hP hS)
-- the paths of a function
theorem ifT {α : Sort _} {c : Prop} {inst : Decidable c} {a b : α} {r : α} (h : c) (e : (if c then a else b) = r) : a = r := (if_pos h).symm.trans e
theorem ifF {α : Sort _} {c : Prop} {inst : Decidable c} {a b : α} {r : α} (h : ¬ c) (e : (if c then a else b) = r) : b = r := (if_neg h).symm.trans e
theorem ckE {α : Type _} {b : Bool} {a : Option α} {r : α} (e : (if b = true then a else none) = some r) : b = true ∧ a = some r := by
  cases b with
  | false => simp at e
  | true => exact ⟨rfl, e⟩
theorem nzE {α : Type _} {x : Int32} {a : Option α} {r : α} (e : (if x = 0 then none else a) = some r) : ¬ x = 0 ∧ a = some r := by
  by_cases h : x = 0
  · rw [if_pos h] at e; cases e
  · rw [if_neg h] at e; exact ⟨h, e⟩
theorem bdE {α β : Type _} {o : Option α} {f : α → Option β} {r : β} (e : o.bind f = some r) : ∃ a, o = some a ∧ f a = some r := by
  cases o with
  | none => cases e
  | some a => exact ⟨a, rfl, e⟩
end ROWS

section ROWS2
variable {l : Launch} {w : Wd} {mi : Mi} {dep : Nat} {κ : Kp} {pc n : Nat} {st : List Value} {loc : List (Option Value)} {M : Mem}
theorem r_getI {i ci k o : Nat} {fs : List Nat} (hd : Dec mi pc (.getfield i) 3 n) (hf : FL mi.2.2.1 i ci k) (hs : shL[o]? = some (.inr (ci, fs))) (hk : fs[k]? = some 0) (kk : RR l w mi dep κ n (.int (M.1 o k) :: st) loc M) : RR l w mi dep κ pc (.ref (wq w o) :: st) loc M := r_get hd hf hs hk kk
theorem r_getL {i ci k o : Nat} {fs : List Nat} (hd : Dec mi pc (.getfield i) 3 n) (hf : FL mi.2.2.1 i ci k) (hs : shL[o]? = some (.inr (ci, fs))) (hk : fs[k]? = some 1) (kk : RR l w mi dep κ n (.long (M.2 o k) :: st) loc M) : RR l w mi dep κ pc (.ref (wq w o) :: st) loc M := r_get hd hf hs hk kk
theorem r_getR {i ci k o j : Nat} {fs : List Nat} (hd : Dec mi pc (.getfield i) 3 n) (hf : FL mi.2.2.1 i ci k) (hs : shL[o]? = some (.inr (ci, fs))) (hk : fs[k]? = some (j + 2)) (kk : RR l w mi dep κ n (.ref (wq w j) :: st) loc M) : RR l w mi dep κ pc (.ref (wq w o) :: st) loc M := r_get hd hf hs hk kk
/-- fewer locals, place by place -/
def Lss : List (Option Value) → List (Option Value) → Prop
  | [], _ => True
  | none :: a, _ :: b => Lss a b
  | some v :: a, some u :: b => v = u ∧ Lss a b
  | _, _ => False
theorem Lss.ok : ∀ {a b : List (Option Value)}, Lss a b → ∀ (i : Nat) (v : Value), a[i]? = some (some v) → b[i]? = some (some v)
  | [], _, _, i, v, h => by simp at h
  | none :: a, x :: b, hs, i, v, h => by
    have hs : Lss a b := hs
    cases i with
    | zero => simp at h
    | succ i => exact Lss.ok hs i v (by simpa using h)
  | some u :: a, some x :: b, hs, i, v, h => by
    have hs : u = x ∧ Lss a b := hs
    cases i with
    | zero => rw [← hs.1]; simpa using h
    | succ i => simpa using Lss.ok hs.2 i v (by simpa using h)
  | none :: a, [], hs, _, _, _ => hs.elim
  | some u :: a, [], hs, _, _, _ => hs.elim
  | some u :: a, none :: b, hs, _, _, _ => hs.elim
theorem r_ls {loc' : List (Option Value)} (k : RR l w mi dep κ pc st loc' M) (h : Lss loc' loc) : RR l w mi dep κ pc st loc M := r_less h.ok k
/-- a value with a name of its own -/
def vlet {α β : Sort _} (v : α) (f : α → β) : β := f v
theorem vlE {α : Sort _} {β : Sort _} {v : α} {f : α → β} {r : β} (P : α → Prop) (h : vlet v f = r) (k : ∀ x, f x = r → P x) : P v := k v h
theorem mlE {β : Sort _} {v : Mem} {f : Mem → β} {r : β} (h : vlet v f = r) (k : ∀ x, f x = r → RR l w mi dep κ pc st loc x) : RR l w mi dep κ pc st loc v := k v h
def NE (x : Int32) : Nat → Prop
  | 0 => True
  | j + 1 => NE x j ∧ ¬ x = Int32.ofNat j
theorem NE.out {x : Int32} : ∀ {k : Nat}, NE x k → k < 1000 → x.toInt < 0 ∨ (k : Int) - 1 < x.toInt
  | 0, _, _ => by omega
  | k + 1, h, hk => by
    have h1 := NE.out h.1 (by omega)
    have h2 : x.toInt ≠ k := fun e => h.2 (by
      apply Int32.toInt_inj.mp
      rw [e, Int32.toInt_ofNat_of_lt (by omega)])
    omega
theorem ne32 {x k : Int32} {a : Int} (h : ¬ x = k) (e : k.toInt = a) : ¬ x.toInt = a := fun e2 => h (Int32.toInt_inj.mp (e2.trans e.symm))
theorem r_tabEq {dflt lo hi : Int} {offs : Array Int} {ln t : Nat} {x k : Int32} {off : Int} (c : x = k) (hd : decode mi.1 pc = .ok (.tableswitch dflt lo hi offs, ln)) (hk : lo ≤ k.toInt ∧ k.toInt ≤ hi ∧ offs[(k.toInt - lo).toNat]? = some off) (ht : (pc : Int) + off = (t : Int)) (kk : RR l w mi dep κ t st loc M) : RR l w mi dep κ pc (.int x :: st) loc M := by
  subst c
  exact r_tabIn hd hk.1 hk.2.1 hk.2.2 ht kk
theorem r_lookEq {dflt : Int} {ps : Array (Int × Int)} {ln t : Nat} {x k : Int32} {off : Int} (c : x = k) (hd : decode mi.1 pc = .ok (.lookupswitch dflt ps, ln)) (hp : (ps.toList.zip (ps.toList.drop 1)).all (fun (a, next) => a.1 < next.1) = true) (ho : Op.lookupswitch.offset ps.toList dflt k.toInt = off) (ht : (pc : Int) + off = (t : Int)) (kk : RR l w mi dep κ t st loc M) : RR l w mi dep κ pc (.int x :: st) loc M := by
  subst c
  exact r_lookup hd hp ho ht kk
theorem look_out {d v : Int} : ∀ {ps : List (Int × Int)}, (∀ p ∈ ps, ¬ v = p.1) → Op.lookupswitch.offset ps d v = d := by
  intro ps h
  induction ps with
  | nil => rfl
  | cons a t ih =>
    have h1 := h a List.mem_cons_self
    have h2 := ih (fun p hp => h p (List.mem_cons_of_mem _ hp))
    show (if a.1 = v then a.2 else Op.lookupswitch.offset t d v) = d
    rw [if_neg (fun e => h1 e.symm)]
    exact h2
theorem r_lookOut {dflt : Int} {ps : Array (Int × Int)} {ln t : Nat} {x : Int32} (hd : decode mi.1 pc = .ok (.lookupswitch dflt ps, ln)) (hp : (ps.toList.zip (ps.toList.drop 1)).all (fun (a, next) => a.1 < next.1) = true) (ho : ∀ p ∈ ps.toList, ¬ x.toInt = p.1) (ht : (pc : Int) + dflt = (t : Int)) (kk : RR l w mi dep κ t st loc M) : RR l w mi dep κ pc (.int x :: st) loc M := r_lookup hd hp (look_out ho) ht kk
end ROWS2
/-- cells that hold a trip, a life -/
def isTrip (o : Nat) : Prop := shL[o]? = some (.inr (8, [o + 1 + 2, o + 2 + 2, o + 3 + 2, 0, 0, 0, 0, 0, 0, 0, 0])) ∧ shL[o + 1]? = some (.inl (0, 48)) ∧ shL[o + 2]? = some (.inl (0, 32)) ∧ shL[o + 3]? = some (.inl (0, 6))
def isLife (o : Nat) : Prop := shL[o]? = some (.inr (2, [0, 0, 0, 0]))
theorem trip_3 : isTrip 3 := ⟨rfl, rfl, rfl, rfl⟩
theorem trip_7 : isTrip 7 := ⟨rfl, rfl, rfl, rfl⟩
theorem life_14 : isLife 14 := rfl
theorem life_15 : isLife 15 := rfl
theorem life_16 : isLife 16 := rfl

