-- constructors: worlds that grow
def nestI : List (String × Nat × MethodName × String) := [(RX9, 11, yX7_init, RX9), (RX9, 18, yX8_init, RX9), (RX9, 37, yX2_init, RX9), (RX9, 75, yX3_init, RX9)]
def NestI (s : State) : Prop := ∀ q ∈ nestI, va_Nw (.methodLinkNest q.1 q.2.1 q.2.2.1 q.2.2.2) s
def tysA (aT : Nat → ClassId) : List (ClassId × FieldType) := [(aT 0, .int), (aT 1, .byte), (aT 2, .boolean), (aT 3, .long)]
abbrev Kg := Program × Env × Room × State × MethodId × Array Value × List Frame × Method × Code × (State → Prop)
abbrev CtxG (D : va_G) (aT : Nat → ClassId) (mi : Mi) (A : Nat → Prop) (dep : Nat) (nm : String) (mc ms : Nat) (p : Program) (R : Room) (s : State) (m : MethodId) (args : Array Value) (meth : Method) (c : Code) : Prop :=
  CallFix p m c mi.1 mi.2.1 s args lw_t mi.2.2.1 ∧ (meth.sig.returnType = mi.2.2.2 ∧ meth.locks = false) ∧ va_K D cls (tysA aT) s ∧ (∀ q, s.heap.size ≤ q → A q) ∧ NestI s ∧ (dep ≤ R.frames ∧ 128 * dep ≤ R.locals ∧ mc ≤ R.cells ∧ ms ≤ R.slots) ∧ meth.name = nm
abbrev Gp := Launch × va_G × (Nat → ClassId) × Mi × Nat × String × Nat × Nat
def AI (q sz : Nat) : Nat → Prop := fun a => a = q ∨ sz ≤ a
def RG (γ : Gp) (q0 : Nat) (κ : Kg) (cs sl : Nat) (pc : Nat) (st : List Value) (loc : List (Option Value)) (ws : va_W) : Prop := match γ, κ with
  | (l, D, aT, mi, dep, nm, mc, ms), (p, e, R, s, m, args, below, meth, c, Q) => CtxG D aT mi (AI q0 s.heap.size) dep nm mc ms p R s m args meth c → ∀ (H : Heap) (locs : List Loc) (ls : Array Slot), lv_has ls mi.2.1 (lvOf loc) → va_P D cls ws H → va_D (AI q0 s.heap.size) ws → va_S (AI q0 s.heap.size) s.heap H locs → W p l e R s m args below meth c H locs cs sl Q (F0 m pc ls st)
section GROWS
variable {l : Launch} {D : va_G} {aT : Nat → ClassId} {mi : Mi} {dep mc ms q0 cs sl : Nat} {nm : String} {κ : Kg} {pc n : Nat} {st : List Value} {loc : List (Option Value)} {ws : va_W}
theorem g_aload_n {i : Fin 4} {x : Nat} (hd : Dec mi pc (.aload_n i) 1 n) (hi : loc[i.val]? = some (some (.ref x))) (k : RG (l, D, aT, mi, dep, nm, mc, ms) q0 κ cs sl n (.ref x :: st) loc ws) : RG (l, D, aT, mi, dep, nm, mc, ms) q0 κ cs sl pc st loc ws := by
  obtain ⟨p, e, R, s, m, args, below, meth, c, Q⟩ := κ
  obtain ⟨hd, rfl⟩ := hd
  intro C H locs ls hl hP hD hS
  exact lv_aload_n C.1.1 C.1.2.1 hd rfl (lv_get hl hi) (k C H locs ls hl hP hD hS)
theorem g_iload_n {i : Fin 4} {x : Int32} (hd : Dec mi pc (.iload_n i) 1 n) (hi : loc[i.val]? = some (some (.int x))) (k : RG (l, D, aT, mi, dep, nm, mc, ms) q0 κ cs sl n (.int x :: st) loc ws) : RG (l, D, aT, mi, dep, nm, mc, ms) q0 κ cs sl pc st loc ws := by
  obtain ⟨p, e, R, s, m, args, below, meth, c, Q⟩ := κ
  obtain ⟨hd, rfl⟩ := hd
  intro C H locs ls hl hP hD hS
  exact lv_iload_n C.1.1 C.1.2.1 hd rfl (lv_get hl hi) (k C H locs ls hl hP hD hS)
theorem g_istore_n {i : Fin 4} {x : Int32} (hd : Dec mi pc (.istore_n i) 1 n) (hi : i.val < mi.2.1) (hok : okS loc i.val = true) (k : RG (l, D, aT, mi, dep, nm, mc, ms) q0 κ cs sl n st (loc.set i.val (some (.int x))) ws) : RG (l, D, aT, mi, dep, nm, mc, ms) q0 κ cs sl pc (.int x :: st) loc ws := by
  obtain ⟨p, e, R, s, m, args, below, meth, c, Q⟩ := κ
  obtain ⟨hd, rfl⟩ := hd
  intro C H locs ls hl hP hD hS
  exact lv_istore_n C.1.1 C.1.2.1 hd rfl hl hi rfl (fun ls' hl' => k C H locs ls' (lv_put hl' hok) hP hD hS)
theorem g_iinc {i : Nat} {d : Int} {x v : Int32} (hd : Dec mi pc (.iinc i d) 3 n) (hx : loc[i]? = some (some (.int x))) (hv : Int32.ofInt d = v) (hi : i < mi.2.1) (hok : okS loc i = true) (k : RG (l, D, aT, mi, dep, nm, mc, ms) q0 κ cs sl n st (loc.set i (some (.int (x + v)))) ws) : RG (l, D, aT, mi, dep, nm, mc, ms) q0 κ cs sl pc st loc ws := by
  obtain ⟨p, e, R, s, m, args, below, meth, c, Q⟩ := κ
  obtain ⟨hd, rfl⟩ := hd
  intro C H locs ls hl hP hD hS
  subst hv
  obtain ⟨z, hz⟩ := List.getElem?_of_mem (mem_lvOf.mpr hx)
  exact lv_iinc C.1.1 C.1.2.1 hd hl hz rfl hi rfl (fun ls' hl' => k C H locs ls' (lv_put hl' hok) hP hD hS)
theorem g_icmp_ge {x y : Int32} {t : Nat} {off : Int} (hd : DecJ mi pc (.if_icmp .ge off) off n t) (kt : y ≤ x → RG (l, D, aT, mi, dep, nm, mc, ms) q0 κ cs sl t st loc ws) (kf : ¬ y ≤ x → RG (l, D, aT, mi, dep, nm, mc, ms) q0 κ cs sl n st loc ws) : RG (l, D, aT, mi, dep, nm, mc, ms) q0 κ cs sl pc (.int y :: .int x :: st) loc ws := by
  obtain ⟨p, e, R, s, m, args, below, meth, c, Q⟩ := κ
  obtain ⟨hd, rfl, ht⟩ := hd
  intro C H locs ls hl hP hD hS
  exact lv_icmp_ge C.1.1 C.1.2.1 hd ht (fun z => kt z C H locs ls hl hP hD hS) (fun z => kf z C H locs ls hl hP hD hS)
theorem g_goto {t : Nat} {off : Int} (hd : DecJ mi pc (.goto off) off n t) (k : RG (l, D, aT, mi, dep, nm, mc, ms) q0 κ cs sl t st loc ws) : RG (l, D, aT, mi, dep, nm, mc, ms) q0 κ cs sl pc st loc ws := by
  obtain ⟨p, e, R, s, m, args, below, meth, c, Q⟩ := κ
  obtain ⟨hd, rfl, ht⟩ := hd
  intro C H locs ls hl hP hD hS
  exact lv_goto C.1.1 C.1.2.1 hd ht (k C H locs ls hl hP hD hS)
theorem g_dup {va : Value} (hd : Dec mi pc .dup 1 n) (hva : va.category = 1) (k : RG (l, D, aT, mi, dep, nm, mc, ms) q0 κ cs sl n (va :: va :: st) loc ws) : RG (l, D, aT, mi, dep, nm, mc, ms) q0 κ cs sl pc (va :: st) loc ws := by
  obtain ⟨p, e, R, s, m, args, below, meth, c, Q⟩ := κ
  obtain ⟨hd, rfl⟩ := hd
  intro C H locs ls hl hP hD hS
  exact lv_dup C.1.1 C.1.2.1 hd hva (k C H locs ls hl hP hD hS)
theorem g_iconst {i : Int} {v : Int32} (hd : Dec mi pc (.iconst i) 1 n) (hv : Int32.ofInt i = v) (k : RG (l, D, aT, mi, dep, nm, mc, ms) q0 κ cs sl n (.int v :: st) loc ws) : RG (l, D, aT, mi, dep, nm, mc, ms) q0 κ cs sl pc st loc ws := by
  obtain ⟨p, e, R, s, m, args, below, meth, c, Q⟩ := κ
  obtain ⟨hd, rfl⟩ := hd
  intro C H locs ls hl hP hD hS
  exact lv_iconst C.1.1 C.1.2.1 hd hv (k C H locs ls hl hP hD hS)
theorem g_bipush {i : Int} {v : Int32} (hd : Dec mi pc (.bipush i) 2 n) (hv : (Int8.ofInt i).toInt32 = v) (k : RG (l, D, aT, mi, dep, nm, mc, ms) q0 κ cs sl n (.int v :: st) loc ws) : RG (l, D, aT, mi, dep, nm, mc, ms) q0 κ cs sl pc st loc ws := by
  obtain ⟨p, e, R, s, m, args, below, meth, c, Q⟩ := κ
  obtain ⟨hd, rfl⟩ := hd
  intro C H locs ls hl hP hD hS
  exact lv_bipush C.1.1 C.1.2.1 hd hv (k C H locs ls hl hP hD hS)
theorem g_sipush {i : Int} {v : Int32} (hd : Dec mi pc (.sipush i) 3 n) (hv : (Int16.ofInt i).toInt32 = v) (k : RG (l, D, aT, mi, dep, nm, mc, ms) q0 κ cs sl n (.int v :: st) loc ws) : RG (l, D, aT, mi, dep, nm, mc, ms) q0 κ cs sl pc st loc ws := by
  obtain ⟨p, e, R, s, m, args, below, meth, c, Q⟩ := κ
  obtain ⟨hd, rfl⟩ := hd
  intro C H locs ls hl hP hD hS
  exact lv_sipush C.1.1 C.1.2.1 hd hv (k C H locs ls hl hP hD hS)
theorem g_objInit {i a : Nat} (hd : Dec mi pc (.invokespecial i) 3 n) (hm : Cond.methodLink mi.2.2.1 i Lib.objectInit ∈ lw_t ∧ Cond.instanceMethod Lib.objectInit ∈ lw_t ∧ Cond.code Lib.objectInit ⟨#[0xb1]⟩ 1 none ∈ lw_t) (hdep : 1 ≤ dep) (hw : (st.map fun v => v.category).sum + 12 ≤ 128) (k : RG (l, D, aT, mi, dep, nm, mc, ms) q0 κ cs sl n st loc ws) : RG (l, D, aT, mi, dep, nm, mc, ms) q0 κ cs sl pc (.ref a :: st) loc ws := by
  obtain ⟨p, e, R, s, m, args, below, meth, c, Q⟩ := κ
  obtain ⟨hd, rfl⟩ := hd
  intro C H locs ls hl hP hD hS
  have hts := C.1.2.2.2.2
  have h1 := C.2.2.2.2.2.1.1
  have h2 := C.2.2.2.2.2.1.2.1
  exact W.objInit C.1.1 C.1.2.1 C.1.2.2.2.1 (hts _ hm.1) (hts _ hm.2.1) (hts _ hm.2.2) rfl (hl.1.trans C.1.2.2.1.symm) rfl hd (by omega) (by show 2 * 0 + _ + 12 ≤ _; omega) (k C H locs ls hl hP hD hS)
theorem g_get {i ci k o a : Nat} {fs : List Value} {v : Value} (hd : Dec mi pc (.getfield i) 3 n) (hf : FL mi.2.2.1 i ci k) (hs : ws[o]? = some (a, .inr (ci, fs))) (hk : fs[k]? = some v) (kk : RG (l, D, aT, mi, dep, nm, mc, ms) q0 κ cs sl n (v :: st) loc ws) : RG (l, D, aT, mi, dep, nm, mc, ms) q0 κ cs sl pc (.ref a :: st) loc ws := by
  obtain ⟨p, e, R, s, m, args, below, meth, c, Q⟩ := κ
  obtain ⟨hd, rfl⟩ := hd
  obtain ⟨CC, T, N, h1, h2, h3, h4⟩ := hf
  intro C H locs ls hl hP hD hS
  exact va_get C.1.1 C.1.2.1 C.1.2.2.2.2 h3 C.1.2.2.2.1 C.2.2.1 hP o hs h1 k h2 (C.1.2.2.2.2 _ h4) (fun _ h => h) hk hd (kk C H locs ls hl hP hD hS)
/-- a final field, in its own class's constructor -/
def FF (own : String) (idx ci k : Nat) (ty : FieldType) : Prop := ∃ (C : String) (T : u_T) (N : Nat) (tf : Nat → FieldType), cls[ci]? = some (C, T, N) ∧ k < N ∧ (∀ x ∈ u_ws C T N, x ∈ lw_t) ∧ Cond.fieldLink own idx (T k).1 (T k).2.1 (T k).2.2.1 ∈ lw_t ∧ (∀ j, j < N → parseFieldDescriptor (T j).2.2.1 = some (tf j)) ∧ (∀ a, a < N → ∀ b, b < N → a ≠ b → (T a).2.1 ≠ (T b).2.1) ∧ (T k).2.2.2 = true ∧ (T k).1 = own ∧ parseFieldDescriptor (T k).2.2.1 = some ty
theorem g_putF {i ci k o a x : Nat} {fs : List Value} {ty : FieldType} (ws' : va_W) (hd : Dec mi pc (.putfield i) 3 n) (hnm : nm = "<init>") (hf : FF mi.2.2.1 i ci k ty) (hs : ws[o]? = some (a, .inr (ci, fs))) (hn : narrow ty (.ref x) = .ref x) (hfit : fits ty (.ref x) = true) (hlen : k < fs.length) (hw : ws.set o (a, .inr (ci, fs.set k (.ref x))) = ws') (kk : RG (l, D, aT, mi, dep, nm, mc, ms) q0 κ cs sl n st loc ws') : RG (l, D, aT, mi, dep, nm, mc, ms) q0 κ cs sl pc (.ref x :: .ref a :: st) loc ws := by
  obtain ⟨p, e, R, s, m, args, below, meth, c, Q⟩ := κ
  obtain ⟨hd, rfl⟩ := hd
  obtain ⟨CC, T, N, tf, h1, h2, h3, h4, h5, h6, h7, h8, h9⟩ := hf
  intro C H locs ls hl hP hD hS
  subst hw
  exact va_putF C.1.1 C.1.2.1 C.1.2.2.2.2 h3 tf h5 h6 C.1.2.2.2.1 C.2.2.1 hP hD hS o hs h1 k h2 (C.1.2.2.2.2 _ h4) (fun _ h => h) h7 (C.2.2.2.2.2.2.trans hnm) h8 h9 hn hfit hlen hd (fun H1 locs1 hP1 hD1 hS1 => kk C H1 locs1 ls hl hP1 hD1 hS1)
theorem g_iast {o a len : Nat} {f : Nat → Int32} {i v : Int32} (ws' : va_W) (hd : Dec mi pc .iastore 1 n) (hs : ws[o]? = some (a, .inl (aT 0, len, .inl f))) (hc : ck i len = true) (hw : ws.set o (a, .inl (aT 0, len, .inl (upd f i.toNatClampNeg v))) = ws') (kk : RG (l, D, aT, mi, dep, nm, mc, ms) q0 κ cs sl n st loc ws') : RG (l, D, aT, mi, dep, nm, mc, ms) q0 κ cs sl pc (.int v :: .int i :: .ref a :: st) loc ws := by
  obtain ⟨p, e, R, s, m, args, below, meth, c, Q⟩ := κ
  obtain ⟨hd, rfl⟩ := hd
  intro C H locs ls hl hP hD hS
  subst hw
  exact va_iast C.1.1 C.1.2.1 C.2.2.1 hP hD hS o 0 hs rfl (ck_in hc) hd (fun H1 locs1 hP1 hD1 hS1 => kk C H1 locs1 ls hl hP1 hD1 hS1)
theorem g_alen {o a len : Nat} {f : Nat → Int32} (hd : Dec mi pc .arraylength 1 n) (hs : ws[o]? = some (a, .inl (aT 0, len, .inl f))) (kk : RG (l, D, aT, mi, dep, nm, mc, ms) q0 κ cs sl n (.int (Int32.ofNat len) :: st) loc ws) : RG (l, D, aT, mi, dep, nm, mc, ms) q0 κ cs sl pc (.ref a :: st) loc ws := by
  obtain ⟨p, e, R, s, m, args, below, meth, c, Q⟩ := κ
  obtain ⟨hd, rfl⟩ := hd
  intro C H locs ls hl hP hD hS
  exact va_alen C.1.1 C.1.2.1 C.2.2.1 hP o 0 hs rfl rfl hd (kk C H locs ls hl hP hD hS)
/-- a new array of numbers -/
def a0of (t len : Nat) : vp_A := (len, if t = 3 then .inr (.inl (fun _ => 0)) else .inl (fun _ => 0))
def atOf : Nat → ArrayType
  | 0 => .int
  | 1 => .byte
  | 2 => .boolean
  | _ => .long
theorem g_newa {t len : Nat} {x : Int32} (ws' : Nat → va_W) (hd : Dec mi pc (.newarray (atOf t)) 2 n) (ht : t < 4) (hm : Cond.arrayClass (newarray.typeOf (atOf t)) ∈ lw_t) (hx : ¬ x < 0) (hxl : x.toNatClampNeg = len) (hb : len ≤ 10000) (hc : cs + 1 ≤ mc) (hsl : sl + len ≤ ms) (hw : ∀ q, ws ++ [(q, .inl (aT t, a0of t len))] = ws' q) (kk : ∀ q, RG (l, D, aT, mi, dep, nm, mc, ms) q0 κ (cs + 1) (sl + len) n (.ref q :: st) loc (ws' q)) : RG (l, D, aT, mi, dep, nm, mc, ms) q0 κ cs sl pc (.int x :: st) loc ws := by
  obtain ⟨p, e, R, s, m, args, below, meth, c, Q⟩ := κ
  obtain ⟨hd, rfl⟩ := hd
  intro C H locs ls hl hP hD hS
  have hR := C.2.2.2.2.2.1
  have key : ∀ (ty : FieldType), newarray.typeOf (atOf t) = ty → (tysA aT)[t]? = some (aT t, ty) → refKind ty = false → (∀ cA : ClassId, vp_cell cA (a0of t len) = arrV cA len (fun _ => defaultValue ty)) → componentBytes ty ≤ 8 → (∀ (U : State) (cA : ClassId), va_RA U cA ty → U.vm.findClass ("[" ++ ty.toString) = some cA) → W p l e R s m args below meth c H locs cs sl Q (F0 m pc ls (.int x :: st)) := by
    intro ty hty htt _ h0 hcb hra
    refine va_newa C.1.1 C.1.2.1 (C.1.2.2.2.2 _ hm) hty C.2.2.1 hP hD hS C.2.2.2.1 h0 hx hxl (Nat.le_trans (Nat.mul_le_mul hb hcb) (by decide)) (by omega) (by omega) hd (fun q cA H1 hK1 hP1 hD1 hS1 => ?_)
    have e1 := hra s cA (hK1.2 4 (cA, ty) rfl).2
    have e2 := hra s (aT t) (C.2.2.1.2 t (aT t, ty) htt).2
    have e3 : cA = aT t := Option.some.inj (e1.symm.trans e2)
    subst e3
    have hw1 := hw q
    rw [hw1] at hP1 hD1
    exact kk q C H1 locs ls hl hP1 hD1 hS1
  match t, ht with
  | 0, _ => exact key .int rfl rfl rfl (fun _ => rfl) (by decide) (fun U cA h => h)
  | 1, _ => exact key .byte rfl rfl rfl (fun _ => rfl) (by decide) (fun U cA h => h)
  | 2, _ => exact key .boolean rfl rfl rfl (fun _ => rfl) (by decide) (fun U cA h => h)
  | 3, _ => exact key .long rfl rfl rfl (fun _ => rfl) (by decide) (fun U cA h => h)
/-- a new object -/
theorem g_new {i ci N : Nat} {C0 : String} {T : u_T} {tf : Nat → FieldType} {fs : List Value} (ws' : Nat → va_W) (hd : Dec mi pc (.new i) 3 n) (hci : cls[ci]? = some (C0, T, N)) (hin : ∀ x ∈ u_ws C0 T N, x ∈ lw_t) (htf : ∀ j, j < N → parseFieldDescriptor (T j).2.2.1 = some (tf j)) (hm : Cond.classLink mi.2.2.1 i C0 ∈ lw_t ∧ Cond.instantiable C0 N ∈ lw_t ∧ Cond.initialized C0 ∈ lw_t) (hfs : ∀ j, j < N → defaultValue (tf j) = vp_V fs j) (hc : cs + 1 ≤ mc) (hsl : sl + N ≤ ms) (hw : ∀ q, ws ++ [(q, .inr (ci, fs))] = ws' q) (kk : ∀ q, RG (l, D, aT, mi, dep, nm, mc, ms) q0 κ (cs + 1) (sl + N) n (.ref q :: st) loc (ws' q)) : RG (l, D, aT, mi, dep, nm, mc, ms) q0 κ cs sl pc st loc ws := by
  obtain ⟨p, e, R, s, m, args, below, meth, c, Q⟩ := κ
  obtain ⟨hd, rfl⟩ := hd
  intro C H locs ls hl hP hD hS
  have hR := C.2.2.2.2.2.1
  have hts := C.1.2.2.2.2
  refine va_new C.1.1 C.1.2.1 hts hin tf htf C.1.2.2.2.1 (hts _ hm.1) (hts _ hm.2.1) (hts _ hm.2.2) C.2.2.1 hP hD hS C.2.2.2.1 hci hfs (by omega) (by omega) hd (fun q H1 hP1 hD1 hS1 => ?_)
  have hw1 := hw q
  rw [hw1] at hP1 hD1
  exact kk q C H1 locs ls hl hP1 hD1 hS1
end GROWS
-- contracts of constructors (and of fill): the world is one cell, what comes back is a list of cells
def rmI (d mc ms : Nat) : Room := { frames := d, cells := mc, slots := ms, locals := 128 * d }
def BefI (D : va_G) (aT : Nat → ClassId) (q : Nat) (e0 : va_E) (sz : Nat) (U : State) : Prop := U.heap.size = sz ∧ va_P D cls [(q, e0)] U.heap ∧ va_K D cls (tysA aT) U ∧ NestI U
def QI (D : va_G) (q n : Nat) (mk : List Nat → va_W) : Array Value → State → Outcome → State → Prop := fun _ st o t => (o = .returned none ∧ ∃ qs : List Nat, qs.length = n ∧ va_P D cls (mk qs) t.heap ∧ va_D (AI q st.heap.size) (mk qs)) ∧ va_F (AI q st.heap.size) st t
def CI (l : Launch) (D : va_G) (aT : Nat → ClassId) (mi : Mi) (y : MethodName) (dep q : Nat) (av : List Value) (e0 : va_E) (n : Nat) (mk : List Nat → va_W) (mc ms : Nat) : Prop := ∀ sz : Nat, Met l y (wsD mi y) (rmI dep mc ms) (va_Pc (.ref q :: av) (BefI D aT q e0 sz)) (QI D q n mk) mc ms (AI q sz)
def GQ (D : va_G) (q n : Nat) (mk : List Nat → va_W) (mc ms : Nat) (κ : Kg) : Prop := match κ with
  | (_, _, _, s, _, args, below, _, _, Q) => Q = MQ below (QI D q n mk) args s mc ms (AI q s.heap.size)
section GCON
variable {l : Launch} {D : va_G} {aT : Nat → ClassId} {mi : Mi} {dep mc ms q0 cs sl : Nat} {nm : String} {κ : Kg} {pc n : Nat} {st : List Value} {loc : List (Option Value)} {ws : va_W}
theorem g_vret {N : Nat} {mk : List Nat → va_W} (qs : List Nat) (hq : GQ D q0 N mk mc ms κ) (hd : Dec mi pc .return_ 1 n) (hr : mi.2.2.2 = none) (hn : qs.length = N) (hw : ws = mk qs) : RG (l, D, aT, mi, dep, nm, mc, ms) q0 κ mc ms pc [] loc ws := by
  obtain ⟨p, e, R, s, m, args, below, meth, c, Q⟩ := κ
  intro C H locs ls hl hP hD hS
  have hq : Q = _ := hq
  subst hq; subst hw
  exact W.vret C.1.1 C.1.2.1 (C.2.1.1.trans hr) (fun t ht _ => ⟨⟨rfl, qs, hn, by rw [ht]; exact hP, hD⟩, hS.F ht⟩) hS.2.2 hd.1 C.2.1.2
theorem CI_of {y : MethodName} {q N : Nat} {av : List Value} {e0 : va_E} {mk : List Nat → va_W} {loc0 : List (Option Value)} (hy : plainName y.cls = true) (hc : y.cls = mi.2.2.1) (h0 : lvOf loc0 = lv_args 0 (.ref q :: av)) (hn : (lg_sl (.ref q :: av)).length ≤ mi.2.1)
    (body : ∀ κ, GQ D q N mk mc ms κ → RG (l, D, aT, mi, dep, y.name, mc, ms) q κ 0 0 0 [] loc0 [(q, e0)]) : CI l D aT mi y dep q av e0 N mk mc ms := by
  intro sz
  refine Met.ofW (cc := mi.1) (maxL := mi.2.1) (ret := mi.2.2.2) hy rfl ?_
  intro p e s m args below meth c s₁ B hml hv
  obtain ⟨rfl, hsz, hP, hK, hI⟩ := hv
  subst hsz
  have hts := atoms_spec (ws := wsD mi y) B.pre
  have hown : s.vm.findClass mi.2.2.1 = some m.cls := hc ▸ findClass_of_methodNamed B.named
  have hl := lv_entry (.ref q :: av) hn
  have C : CtxG D aT mi (AI q s.heap.size) dep y.name mc ms p (headSpec (wsD mi y) (rmI dep mc ms)).room s m (Value.ref q :: av).toArray meth c := ⟨⟨B.exec, B.bytes, hml, hown, fun x hx => hts x (List.mem_cons_of_mem _ hx)⟩, ⟨B.returns, B.notSynchronized⟩, hK, fun x hx => Or.inr hx, hI, ⟨Nat.le_refl _, Nat.le_refl _, Nat.le_refl _, Nat.le_refl _⟩, (name_of_methodNamed B.named B.method).1⟩
  have hb := body (p, e, (headSpec (wsD mi y) (rmI dep mc ms)).room, s, m, (Value.ref q :: av).toArray, below, meth, c, MQ below (QI D q N mk) (Value.ref q :: av).toArray s mc ms (AI q s.heap.size)) rfl
  have hD : va_D (AI q s.heap.size) [(q, e0)] := ⟨fun i j p q h1 h2 _ => by
      have := (List.getElem?_eq_some_iff.mp h1).1
      have := (List.getElem?_eq_some_iff.mp h2).1
      simp at *
      omega, fun k x h => by
      have h1 := List.mem_of_getElem? h
      rw [List.mem_singleton] at h1
      subst h1
      exact Or.inl rfl⟩
  rw [lg_entry_eq]
  exact hb C s.heap [] _ (by rw [h0]; exact hl) hP hD va_S.rf
theorem NestI.moved {s U : State} (h : NestI s) (hW : s.WarmedH U.vm) : NestI U := fun q hq => va_Nw.warmM hW (h q hq)
theorem NestI.callg {U : State} {g : JFrame} {mk : MethodId} {a : Array Value} (h : NestI U) : NestI (U.calling g mk a) := fun q hq => va_Nw.same (u := U) rfl rfl (h q hq)
theorem blindI {q sz : Nat} {e0 : va_E} {av : List Value} : FrameBlind (va_Pc av (BefI D aT q e0 sz)) := fun a U g mk h => by
  obtain ⟨q1, q2, q3, q4, q5⟩ := h
  exact ⟨q1, q2, q3, va_K.moved (u := U) (U := U.calling g mk a) (Vm.Alike.refl U.vm) q4, q5.callg⟩
/-- behind a constructor's call: its object's cell was the world's last -/
theorem callI_core {p : Program} {e : Env} {R : Room} {s : State} {m : MethodId} {args : Array Value} {below : List Frame} {meth : Method} {c : Code} {Q : State → Prop} {H : Heap} {locs : List Loc} {ls : Array Slot} {rest st0 : List Value} {av : Array Value} {q N mc' ms' : Nat} {e0 : va_E} {mk : List Nat → va_W} {A : Nat → Prop} {wr : va_W}
    (hr : va_Run p l e R s m args below meth c H locs cs sl mc' ms' (F0 m pc ls st0) rest (QI D q N mk av) (AI q H.size)) (hP : va_P D cls (wr ++ [(q, e0)]) H) (hD : va_D A (wr ++ [(q, e0)])) (hS : va_S A s.heap H locs) (hA : ∀ q, s.heap.size ≤ q → A q)
    (kk : ∀ (qs : List Nat) (H1 : Heap) (locs1 : List Loc), qs.length = N → va_P D cls (wr ++ mk qs) H1 → va_D A (wr ++ mk qs) → va_S A s.heap H1 locs1 → W p l e R s m args below meth c H1 locs1 (cs + mc') (sl + ms') Q (F0 m (pc + 3) ls rest)) : W p l e R s m args below meth c H locs cs sl Q (F0 m pc ls st0) := by
  intro T hT X
  obtain ⟨v, sb, t, T', L, h0, X', hL, e1, e2, ⟨⟨hv, qs, hn, hp, hd⟩, hz, hk⟩, st⟩ := hr T hT X
  have hv : v = none := by cases hv; rfl
  subst hv
  rw [h0] at hz hk hd
  have hlast : (wr ++ [(q, e0)])[wr.length]? = some (q, e0) := by simp
  have hAq : A q := hD.2 _ _ hlast
  have hm : ∀ a, AI q H.size a → A a := fun a ha => ha.elim (fun e => e ▸ hAq) (fun h => hA a (Nat.le_trans hS.1 h))
  have hwr : ∀ (k : Nat) (x : Nat × va_E), wr[k]? = some x → x.1 < H.size ∧ x.1 ≠ q := by
    intro k x hx
    have hk1 : k < wr.length := (List.getElem?_eq_some_iff.mp hx).1
    have h1 : (wr ++ [(q, e0)])[k]? = some x := by rw [List.getElem?_append_left hk1]; exact hx
    refine ⟨(hP k x h1).lt, fun e => ?_⟩
    have := hD.1 k wr.length x (q, e0) h1 hlast e
    omega
  have hPr : va_P D cls wr t.heap := by
    intro k x hx
    have hk1 : k < wr.length := (List.getElem?_eq_some_iff.mp hx).1
    have h1 : (wr ++ [(q, e0)])[k]? = some x := by rw [List.getElem?_append_left hk1]; exact hx
    have h2 := hwr k x hx
    exact (hP k x h1).kept (hk x.1 h2.1 (fun h => h.elim h2.2 (fun h => by omega)))
  have hDr : va_D A wr := by
    refine ⟨fun i j p q hp hq e => ?_, fun k x hx => ?_⟩
    · have hi1 : i < wr.length := (List.getElem?_eq_some_iff.mp hp).1
      have hj1 : j < wr.length := (List.getElem?_eq_some_iff.mp hq).1
      exact hD.1 i j p q (by rw [List.getElem?_append_left hi1]; exact hp) (by rw [List.getElem?_append_left hj1]; exact hq) e
    · have hi1 : k < wr.length := (List.getElem?_eq_some_iff.mp hx).1
      exact hD.2 k x (by rw [List.getElem?_append_left hi1]; exact hx)
  obtain ⟨t2, a1, b1⟩ := kk qs T'.heap (locs ++ L) hn (by rw [e1]; exact hPr.app hp) (va_D.app hDr (hd.weaken (fun k x hx h => hm _ h)) (fun i j x y hx hy e => by
      have h2 := hwr i x hx
      have h3 := hd.2 j y hy
      rw [← e] at h3
      rcases h3 with h3 | h3
      · exact h2.2 h3
      · have := h2.1
        omega))
    ⟨Nat.le_trans hS.1 (by rw [e1]; exact hz), fun q h1 h2 => by rw [e1, hk q (Nat.lt_of_lt_of_le h1 hS.1) (fun z => h2 (hm q z))]; exact hS.2.1 q h1 h2, fun q hq => by
      rcases List.mem_append.mp hq with h | h
      · exact hS.2.2 q h
      · exact hm _ (hL q h)⟩ T' rfl X'
  exact ⟨t2, st t2 a1, b1⟩
theorem callI_ok {dep' mc' ms' : Nat} {A : Nat → Prop} {p : Program} {R : Room} {s : State} {m : MethodId} {args : Array Value} {meth : Method} {c : Code} (C : CtxG D aT mi A dep nm mc ms p R s m args meth c) {y : MethodName} {mi' : Mi} {na : Nat} (hy : MF y mi' na) (hd : dep' + 1 ≤ dep) : (rmI dep' mc' ms').frames + 1 ≤ R.frames ∧ 8 + (mi'.2.1 + 11) + (rmI dep' mc' ms').locals ≤ R.locals := by
  have h1 := C.2.2.2.2.2.1.1
  have h2 := C.2.2.2.2.2.1.2.1
  have h3 := hy.2.2.2.2
  constructor
  · show dep' + 1 ≤ R.frames
    omega
  · show 8 + (mi'.2.1 + 11) + 128 * dep' ≤ R.locals
    omega
theorem one_last {A : Nat → Prop} {wr : va_W} {q : Nat} {e0 : va_E} {H : Heap} (hP : va_P D cls (wr ++ [(q, e0)]) H) : va_P D cls [(q, e0)] H := by
  intro k x hx
  have h1 := List.mem_of_getElem? hx
  rw [List.mem_singleton] at h1
  subst h1
  exact hP wr.length _ (by simp)
theorem g_callI {i na dep' mc' ms' q N : Nat} {y : MethodName} {mi' : Mi} {av stk : List Value} {e0 : va_E} {mk : List Nat → va_W} {wr : va_W} (hd : Dec mi pc (.invokespecial i) 3 n) (hm : Cond.methodLink mi.2.2.1 i y ∈ lw_t) (hy : MF y mi' na) (hv : Cond.instanceMethod y ∈ lw_t) (hyn : y.name = "<init>") (hret : mi'.2.2.2 = none)
    (hc : CI l D aT mi' y dep' q av e0 N mk mc' ms') (hdep : dep' + 1 ≤ dep) (hn : av.length = na) (hst : stk = av.reverse ++ .ref q :: st) (hw : (st.map fun v => v.category).sum ≤ 8) (hws : ws = wr ++ [(q, e0)]) (hcc : cs + mc' ≤ mc) (hss : sl + ms' ≤ ms)
    (kk : ∀ qs : List Nat, qs.length = N → RG (l, D, aT, mi, dep, nm, mc, ms) q0 κ (cs + mc') (sl + ms') n st loc (wr ++ mk qs)) : RG (l, D, aT, mi, dep, nm, mc, ms) q0 κ cs sl pc stk loc ws := by
  obtain ⟨p, e, R, s, m, args, below, meth, c, Q⟩ := κ
  obtain ⟨hd, rfl⟩ := hd
  intro C H locs ls hl hP hD hS
  subst hws
  have hts := C.1.2.2.2.2
  have hR := callI_ok (mc' := mc') (ms' := ms') C hy hdep
  have hRm := C.2.2.2.2.2.1
  have hcode : Cond.code y mi'.1 mi'.2.1 none ∈ lw_t := hret ▸ hy.2.1
  have hmem : Cond.code y mi'.1 mi'.2.1 none ∈ wsD mi' y := by rw [wsD, hret]; exact List.mem_cons_self
  have hrun := va_runI (l := l) (e := e) (R := R) (below := below) (meth := meth) (locs := locs) (cells := cs) (slots := sl) (g := F0 m pc ls stk) (rest := st) C.1 (hc H.size) (index := i) (bytes := mi'.1) (maxL := mi'.2.1) (n := na)
    ⟨⟨rfl, rfl, hR.1, hR.2, pay_in hts (good_ws hy.2.1), hmem, hts _ hcode, hts _ hy.1, hy.2.2.1, len_of hy.2.2.2.1, hts _ hm⟩, hyn, hts _ hv⟩
    ⟨blindI, fun U hU hW => ⟨rfl, by rw [hU], by rw [hU]; exact one_last (A := fun _ => True) hP, va_K.moved hW.alike C.2.2.1, C.2.2.2.2.1.moved hW⟩⟩ rfl hn hl.1 hst (by show 2 * 0 + _ ≤ 8; omega) hd ⟨by omega, by omega⟩
  exact callI_core hrun hP hD hS C.2.2.2.1 (fun qs H1 locs1 hq hP1 hD1 hS1 => kk qs hq C H1 locs1 ls hl hP1 hD1 hS1)
theorem g_callIN {i na dep' mc' ms' q N : Nat} {y : MethodName} {mi' : Mi} {host : String} {av stk : List Value} {e0 : va_E} {mk : List Nat → va_W} {wr : va_W} (hd : Dec mi pc (.invokespecial i) 3 n) (hm : (mi.2.2.1, i, y, host) ∈ nestI) (hy : MF y mi' na) (hv : Cond.instanceMethod y ∈ lw_t) (hyn : y.name = "<init>") (hret : mi'.2.2.2 = none)
    (hc : CI l D aT mi' y dep' q av e0 N mk mc' ms') (hdep : dep' + 1 ≤ dep) (hn : av.length = na) (hst : stk = av.reverse ++ .ref q :: st) (hw : (st.map fun v => v.category).sum ≤ 8) (hws : ws = wr ++ [(q, e0)]) (hcc : cs + mc' ≤ mc) (hss : sl + ms' ≤ ms)
    (kk : ∀ qs : List Nat, qs.length = N → RG (l, D, aT, mi, dep, nm, mc, ms) q0 κ (cs + mc') (sl + ms') n st loc (wr ++ mk qs)) : RG (l, D, aT, mi, dep, nm, mc, ms) q0 κ cs sl pc stk loc ws := by
  obtain ⟨p, e, R, s, m, args, below, meth, c, Q⟩ := κ
  obtain ⟨hd, rfl⟩ := hd
  intro C H locs ls hl hP hD hS
  subst hws
  have hts := C.1.2.2.2.2
  have hR := callI_ok (mc' := mc') (ms' := ms') C hy hdep
  have hRm := C.2.2.2.2.2.1
  have hcode : Cond.code y mi'.1 mi'.2.1 none ∈ lw_t := hret ▸ hy.2.1
  have hmem : Cond.code y mi'.1 mi'.2.1 none ∈ wsD mi' y := by rw [wsD, hret]; exact List.mem_cons_self
  have hrun := va_runIN (l := l) (e := e) (R := R) (below := below) (meth := meth) (locs := locs) (cells := cs) (slots := sl) (g := F0 m pc ls stk) (rest := st) C.1 (hc H.size) (index := i) (host := host) (bytes := mi'.1) (maxL := mi'.2.1) (n := na)
    ⟨⟨⟨rfl, rfl, hR.1, hR.2, pay_in hts (good_ws hy.2.1), hmem⟩, hts _ hcode, hts _ hy.1, hy.2.2.1, len_of hy.2.2.2.1, va_Nw.use rfl (C.2.2.2.2.1 _ hm)⟩, hyn, hts _ hv⟩
    ⟨blindI, fun U hU hW => ⟨rfl, by rw [hU], by rw [hU]; exact one_last (A := fun _ => True) hP, va_K.moved hW.alike C.2.2.1, C.2.2.2.2.1.moved hW⟩⟩ rfl hn hl.1 hst (by show 2 * 0 + _ ≤ 8; omega) hd ⟨by omega, by omega⟩
  exact callI_core hrun hP hD hS C.2.2.2.1 (fun qs H1 locs1 hq hP1 hD1 hS1 => kk qs hq C H1 locs1 ls hl hP1 hD1 hS1)
theorem g_callS {i na dep' mc' ms' q N : Nat} {y : MethodName} {mi' : Mi} {av stk : List Value} {e0 : va_E} {mk : List Nat → va_W} {wr : va_W} (hd : Dec mi pc (.invokestatic i) 3 n) (hm : Cond.methodLink mi.2.2.1 i y ∈ lw_t) (hy : MF y mi' na) (hv : Cond.static y ∈ lw_t)
    (hc : CI l D aT mi' y dep' q av e0 N mk mc' ms') (hdep : dep' + 1 ≤ dep) (hn : (Value.ref q :: av).length = na) (hst : stk = (Value.ref q :: av).reverse ++ st) (hw : (st.map fun v => v.category).sum ≤ 8) (hws : ws = wr ++ [(q, e0)]) (hcc : cs + mc' ≤ mc) (hss : sl + ms' ≤ ms)
    (kk : ∀ qs : List Nat, qs.length = N → RG (l, D, aT, mi, dep, nm, mc, ms) q0 κ (cs + mc') (sl + ms') n st loc (wr ++ mk qs)) : RG (l, D, aT, mi, dep, nm, mc, ms) q0 κ cs sl pc stk loc ws := by
  obtain ⟨p, e, R, s, m, args, below, meth, c, Q⟩ := κ
  obtain ⟨hd, rfl⟩ := hd
  intro C H locs ls hl hP hD hS
  subst hws
  have hts := C.1.2.2.2.2
  have hR := callI_ok (mc' := mc') (ms' := ms') C hy hdep
  have hRm := C.2.2.2.2.2.1
  have hrun := va_runS (l := l) (e := e) (R := R) (below := below) (meth := meth) (locs := locs) (cells := cs) (slots := sl) (g := F0 m pc ls stk) (rest := st) C.1 (hc H.size) (index := i) (bytes := mi'.1) (maxL := mi'.2.1) (ret := mi'.2.2.2) (n := na)
    ⟨⟨rfl, rfl, hR.1, hR.2, pay_in hts (good_ws hy.2.1), List.mem_cons_self, hts _ hy.2.1, hts _ hy.1, hy.2.2.1, len_of hy.2.2.2.1, hts _ hm⟩, hts _ hv⟩
    ⟨blindI, fun U hU hW => ⟨rfl, by rw [hU], by rw [hU]; exact one_last (A := fun _ => True) hP, va_K.moved hW.alike C.2.2.1, C.2.2.2.2.1.moved hW⟩⟩ rfl hn hl.1 hst (by show 2 * 0 + _ ≤ 8; omega) hd ⟨by omega, by omega⟩
  exact callI_core hrun hP hD hS C.2.2.2.1 (fun qs H1 locs1 hq hP1 hD1 hS1 => kk qs hq C H1 locs1 ls hl hP1 hD1 hS1)
end GCON
