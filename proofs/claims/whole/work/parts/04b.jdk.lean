-- part 04b: the JDK's String.length and String.charAt over the eight constants
def mi_J0_length_8abf5 : Mi := (cJ0_length_8abf5, 1, RJ0, some .int)
theorem D_J0_length_8abf5_0 : Dec mi_J0_length_8abf5 0 (.aload_n 0) 1 1 := ⟨by decide +kernel, rfl⟩
theorem D_J0_length_8abf5_1 : Dec mi_J0_length_8abf5 1 (.getfield 9) 3 4 := ⟨by decide +kernel, rfl⟩
theorem D_J0_length_8abf5_4 : Dec mi_J0_length_8abf5 4 (.arraylength) 1 5 := ⟨by decide +kernel, rfl⟩
theorem D_J0_length_8abf5_5 : Dec mi_J0_length_8abf5 5 (.aload_n 0) 1 6 := ⟨by decide +kernel, rfl⟩
theorem D_J0_length_8abf5_6 : Dec mi_J0_length_8abf5 6 (.invokevirtual 335) 3 9 := ⟨by decide +kernel, rfl⟩
theorem D_J0_length_8abf5_9 : Dec mi_J0_length_8abf5 9 (.ishr) 1 10 := ⟨by decide +kernel, rfl⟩
theorem D_J0_length_8abf5_10 : Dec mi_J0_length_8abf5 10 (.ireturn) 1 11 := ⟨by decide +kernel, rfl⟩
def mi_J0_coder_7d493 : Mi := (cJ0_coder_7d493, 1, RJ0, some .byte)
theorem D_J0_coder_7d493_0 : Dec mi_J0_coder_7d493 0 (.getstatic 38) 3 3 := ⟨by decide +kernel, rfl⟩
theorem D_J0_coder_7d493_3 : DecJ mi_J0_coder_7d493 3 (.ifCond .eq 10) (10) 6 13 := ⟨by decide +kernel, rfl, by decide⟩
theorem D_J0_coder_7d493_6 : Dec mi_J0_coder_7d493 6 (.aload_n 0) 1 7 := ⟨by decide +kernel, rfl⟩
theorem D_J0_coder_7d493_7 : Dec mi_J0_coder_7d493 7 (.getfield 15) 3 10 := ⟨by decide +kernel, rfl⟩
theorem D_J0_coder_7d493_10 : DecJ mi_J0_coder_7d493 10 (.goto 4) (4) 13 14 := ⟨by decide +kernel, rfl, by decide⟩
theorem D_J0_coder_7d493_13 : Dec mi_J0_coder_7d493 13 (.iconst 1) 1 14 := ⟨by decide +kernel, rfl⟩
theorem D_J0_coder_7d493_14 : Dec mi_J0_coder_7d493 14 (.ireturn) 1 15 := ⟨by decide +kernel, rfl⟩
def mi_J0_charAt_5068e : Mi := (cJ0_charAt_5068e, 2, RJ0, some .char)
theorem D_J0_charAt_5068e_0 : Dec mi_J0_charAt_5068e 0 (.aload_n 0) 1 1 := ⟨by decide +kernel, rfl⟩
theorem D_J0_charAt_5068e_1 : Dec mi_J0_charAt_5068e 1 (.invokevirtual 492) 3 4 := ⟨by decide +kernel, rfl⟩
theorem D_J0_charAt_5068e_4 : DecJ mi_J0_charAt_5068e 4 (.ifCond .eq 12) (12) 7 16 := ⟨by decide +kernel, rfl, by decide⟩
theorem D_J0_charAt_5068e_7 : Dec mi_J0_charAt_5068e 7 (.aload_n 0) 1 8 := ⟨by decide +kernel, rfl⟩
theorem D_J0_charAt_5068e_8 : Dec mi_J0_charAt_5068e 8 (.getfield 9) 3 11 := ⟨by decide +kernel, rfl⟩
theorem D_J0_charAt_5068e_11 : Dec mi_J0_charAt_5068e 11 (.iload_n 1) 1 12 := ⟨by decide +kernel, rfl⟩
theorem D_J0_charAt_5068e_12 : Dec mi_J0_charAt_5068e 12 (.invokestatic 495) 3 15 := ⟨by decide +kernel, rfl⟩
theorem D_J0_charAt_5068e_15 : Dec mi_J0_charAt_5068e 15 (.ireturn) 1 16 := ⟨by decide +kernel, rfl⟩
theorem D_J0_charAt_5068e_16 : Dec mi_J0_charAt_5068e 16 (.aload_n 0) 1 17 := ⟨by decide +kernel, rfl⟩
theorem D_J0_charAt_5068e_17 : Dec mi_J0_charAt_5068e 17 (.getfield 9) 3 20 := ⟨by decide +kernel, rfl⟩
theorem D_J0_charAt_5068e_20 : Dec mi_J0_charAt_5068e 20 (.iload_n 1) 1 21 := ⟨by decide +kernel, rfl⟩
theorem D_J0_charAt_5068e_21 : Dec mi_J0_charAt_5068e 21 (.invokestatic 498) 3 24 := ⟨by decide +kernel, rfl⟩
theorem D_J0_charAt_5068e_24 : Dec mi_J0_charAt_5068e 24 (.ireturn) 1 25 := ⟨by decide +kernel, rfl⟩
def mi_J0_isLatin1_aae02 : Mi := (cJ0_isLatin1_aae02, 1, RJ0, some .boolean)
theorem D_J0_isLatin1_aae02_0 : Dec mi_J0_isLatin1_aae02 0 (.getstatic 38) 3 3 := ⟨by decide +kernel, rfl⟩
theorem D_J0_isLatin1_aae02_3 : DecJ mi_J0_isLatin1_aae02 3 (.ifCond .eq 14) (14) 6 17 := ⟨by decide +kernel, rfl, by decide⟩
theorem D_J0_isLatin1_aae02_6 : Dec mi_J0_isLatin1_aae02 6 (.aload_n 0) 1 7 := ⟨by decide +kernel, rfl⟩
theorem D_J0_isLatin1_aae02_7 : Dec mi_J0_isLatin1_aae02 7 (.getfield 15) 3 10 := ⟨by decide +kernel, rfl⟩
theorem D_J0_isLatin1_aae02_10 : DecJ mi_J0_isLatin1_aae02 10 (.ifCond .ne 7) (7) 13 17 := ⟨by decide +kernel, rfl, by decide⟩
theorem D_J0_isLatin1_aae02_13 : Dec mi_J0_isLatin1_aae02 13 (.iconst 1) 1 14 := ⟨by decide +kernel, rfl⟩
theorem D_J0_isLatin1_aae02_14 : DecJ mi_J0_isLatin1_aae02 14 (.goto 4) (4) 17 18 := ⟨by decide +kernel, rfl, by decide⟩
theorem D_J0_isLatin1_aae02_17 : Dec mi_J0_isLatin1_aae02 17 (.iconst 0) 1 18 := ⟨by decide +kernel, rfl⟩
theorem D_J0_isLatin1_aae02_18 : Dec mi_J0_isLatin1_aae02 18 (.ireturn) 1 19 := ⟨by decide +kernel, rfl⟩
def mi_J0_checkIndex_df160 : Mi := (cJ0_checkIndex_df160, 2, RJ0, none)
theorem D_J0_checkIndex_df160_0 : Dec mi_J0_checkIndex_df160 0 (.iload_n 0) 1 1 := ⟨by decide +kernel, rfl⟩
theorem D_J0_checkIndex_df160_1 : Dec mi_J0_checkIndex_df160 1 (.iload_n 1) 1 2 := ⟨by decide +kernel, rfl⟩
theorem D_J0_checkIndex_df160_2 : Dec mi_J0_checkIndex_df160 2 (.getstatic 1053) 3 5 := ⟨by decide +kernel, rfl⟩
theorem D_J0_checkIndex_df160_5 : Dec mi_J0_checkIndex_df160 5 (.invokestatic 1059) 3 8 := ⟨by decide +kernel, rfl⟩
theorem D_J0_checkIndex_df160_8 : Dec mi_J0_checkIndex_df160 8 (.pop) 1 9 := ⟨by decide +kernel, rfl⟩
theorem D_J0_checkIndex_df160_9 : Dec mi_J0_checkIndex_df160 9 (.return_) 1 10 := ⟨by decide +kernel, rfl⟩
def mi_J1_charAt_3b067 : Mi := (cJ1_charAt_3b067, 2, RJ1, some .char)
theorem D_J1_charAt_3b067_0 : Dec mi_J1_charAt_3b067 0 (.iload_n 1) 1 1 := ⟨by decide +kernel, rfl⟩
theorem D_J1_charAt_3b067_1 : Dec mi_J1_charAt_3b067 1 (.aload_n 0) 1 2 := ⟨by decide +kernel, rfl⟩
theorem D_J1_charAt_3b067_2 : Dec mi_J1_charAt_3b067 2 (.arraylength) 1 3 := ⟨by decide +kernel, rfl⟩
theorem D_J1_charAt_3b067_3 : Dec mi_J1_charAt_3b067 3 (.invokestatic 9) 3 6 := ⟨by decide +kernel, rfl⟩
theorem D_J1_charAt_3b067_6 : Dec mi_J1_charAt_3b067 6 (.aload_n 0) 1 7 := ⟨by decide +kernel, rfl⟩
theorem D_J1_charAt_3b067_7 : Dec mi_J1_charAt_3b067 7 (.iload_n 1) 1 8 := ⟨by decide +kernel, rfl⟩
theorem D_J1_charAt_3b067_8 : Dec mi_J1_charAt_3b067 8 (.baload) 1 9 := ⟨by decide +kernel, rfl⟩
theorem D_J1_charAt_3b067_9 : Dec mi_J1_charAt_3b067 9 (.sipush 255) 3 12 := ⟨by decide +kernel, rfl⟩
theorem D_J1_charAt_3b067_12 : Dec mi_J1_charAt_3b067 12 (.iand) 1 13 := ⟨by decide +kernel, rfl⟩
theorem D_J1_charAt_3b067_13 : Dec mi_J1_charAt_3b067 13 (.i2c) 1 14 := ⟨by decide +kernel, rfl⟩
theorem D_J1_charAt_3b067_14 : Dec mi_J1_charAt_3b067 14 (.ireturn) 1 15 := ⟨by decide +kernel, rfl⟩
def mi_J3_checkIndex_8e157 : Mi := (cJ3_checkIndex_8e157, 3, RJ3, some .int)
theorem D_J3_checkIndex_8e157_0 : Dec mi_J3_checkIndex_8e157 0 (.iload_n 0) 1 1 := ⟨by decide +kernel, rfl⟩
theorem D_J3_checkIndex_8e157_1 : DecJ mi_J3_checkIndex_8e157 1 (.ifCond .lt 8) (8) 4 9 := ⟨by decide +kernel, rfl, by decide⟩
theorem D_J3_checkIndex_8e157_4 : Dec mi_J3_checkIndex_8e157 4 (.iload_n 0) 1 5 := ⟨by decide +kernel, rfl⟩
theorem D_J3_checkIndex_8e157_5 : Dec mi_J3_checkIndex_8e157 5 (.iload_n 1) 1 6 := ⟨by decide +kernel, rfl⟩
theorem D_J3_checkIndex_8e157_6 : DecJ mi_J3_checkIndex_8e157 6 (.if_icmp .lt 10) (10) 9 16 := ⟨by decide +kernel, rfl, by decide⟩
theorem D_J3_checkIndex_8e157_9 : Dec mi_J3_checkIndex_8e157 9 (.aload_n 2) 1 10 := ⟨by decide +kernel, rfl⟩
theorem D_J3_checkIndex_8e157_10 : Dec mi_J3_checkIndex_8e157 10 (.iload_n 0) 1 11 := ⟨by decide +kernel, rfl⟩
theorem D_J3_checkIndex_8e157_11 : Dec mi_J3_checkIndex_8e157 11 (.iload_n 1) 1 12 := ⟨by decide +kernel, rfl⟩
theorem D_J3_checkIndex_8e157_12 : Dec mi_J3_checkIndex_8e157 12 (.invokestatic 95) 3 15 := ⟨by decide +kernel, rfl⟩
theorem D_J3_checkIndex_8e157_15 : Dec mi_J3_checkIndex_8e157 15 (.athrow) 1 16 := ⟨by decide +kernel, rfl⟩
theorem D_J3_checkIndex_8e157_16 : Dec mi_J3_checkIndex_8e157 16 (.iload_n 0) 1 17 := ⟨by decide +kernel, rfl⟩
theorem D_J3_checkIndex_8e157_17 : Dec mi_J3_checkIndex_8e157 17 (.ireturn) 1 18 := ⟨by decide +kernel, rfl⟩
theorem js_cs : Cond.fieldLink RJ0 38 "java/lang/String" "COMPACT_STRINGS" "Z" ∈ lw_t := mt2 132 rfl rfl
theorem js_val : Cond.fieldLink RJ0 9 "java/lang/String" "value" "[B" ∈ lw_t := mt6 157 rfl rfl
theorem js_cod : Cond.fieldLink RJ0 15 "java/lang/String" "coder" "B" ∈ lw_t := mt6 158 rfl rfl
theorem js_fmt : Cond.fieldLink RJ0 1053 "jdk/internal/util/Preconditions" "SIOOBE_FORMATTER" "Ljava/util/function/BiFunction;" ∈ lw_t := mt2 148 rfl rfl
theorem mf_J0_charAt_5068e : MF yJ0_charAt_5068e mi_J0_charAt_5068e 1 := ⟨mt1 14 rfl rfl, mt2 137 rfl rfl, ⟨by decide, by decide⟩, by decide +kernel, by decide⟩
theorem mf_J0_checkIndex_df160 : MF yJ0_checkIndex_df160 mi_J0_checkIndex_df160 2 := ⟨mt1 14 rfl rfl, mt2 147 rfl rfl, ⟨by decide, by decide⟩, by decide +kernel, by decide⟩
theorem mf_J0_coder_7d493 : MF yJ0_coder_7d493 mi_J0_coder_7d493 0 := ⟨mt1 14 rfl rfl, mt2 131 rfl rfl, ⟨by decide, by decide⟩, by decide +kernel, by decide⟩
theorem mf_J0_isLatin1_aae02 : MF yJ0_isLatin1_aae02 mi_J0_isLatin1_aae02 0 := ⟨mt1 14 rfl rfl, mt2 141 rfl rfl, ⟨by decide, by decide⟩, by decide +kernel, by decide⟩
theorem mf_J0_length_8abf5 : MF yJ0_length_8abf5 mi_J0_length_8abf5 0 := ⟨mt1 14 rfl rfl, mt2 127 rfl rfl, ⟨by decide, by decide⟩, by decide +kernel, by decide⟩
theorem mf_J1_charAt_3b067 : MF yJ1_charAt_3b067 mi_J1_charAt_3b067 2 := ⟨mt1 15 rfl rfl, mt2 144 rfl rfl, ⟨by decide, by decide⟩, by decide +kernel, by decide⟩
theorem mf_J3_checkIndex_8e157 : MF yJ3_checkIndex_8e157 mi_J3_checkIndex_8e157 3 := ⟨mt1 16 rfl rfl, mt2 152 rfl rfl, ⟨by decide, by decide⟩, by decide +kernel, by decide⟩
theorem ml_J0_1059 : Cond.methodLink RJ0 1059 yJ3_checkIndex_8e157 ∈ lw_t := mt2 150 rfl rfl
theorem ml_J0_335 : Cond.methodLink RJ0 335 yJ0_coder_7d493 ∈ lw_t := mt2 128 rfl rfl
theorem ml_J0_492 : Cond.methodLink RJ0 492 yJ0_isLatin1_aae02 ∈ lw_t := mt2 138 rfl rfl
theorem ml_J0_495 : Cond.methodLink RJ0 495 yJ1_charAt_3b067 ∈ lw_t := mt2 142 rfl rfl
theorem ml_J1_9 : Cond.methodLink RJ1 9 yJ0_checkIndex_df160 ∈ lw_t := mt2 145 rfl rfl
theorem ms_J0_checkIndex_df160 : Cond.static yJ0_checkIndex_df160 ∈ lw_t := mt2 146 rfl rfl
theorem ms_J1_charAt_3b067 : Cond.static yJ1_charAt_3b067 ∈ lw_t := mt2 143 rfl rfl
theorem ms_J3_checkIndex_8e157 : Cond.static yJ3_checkIndex_8e157 ∈ lw_t := mt2 151 rfl rfl
theorem mv_J0_charAt_5068e : MV yJ0_charAt_5068e := ⟨mt2 135 rfl rfl, mt2 136 rfl rfl⟩
theorem mv_J0_coder_7d493 : MV yJ0_coder_7d493 := ⟨mt2 129 rfl rfl, mt2 130 rfl rfl⟩
theorem mv_J0_isLatin1_aae02 : MV yJ0_isLatin1_aae02 := ⟨mt2 139 rfl rfl, mt2 140 rfl rfl⟩
theorem mv_J0_length_8abf5 : MV yJ0_length_8abf5 := ⟨mt2 125 rfl rfl, mt2 126 rfl rfl⟩
section ROWS3
variable {l : Launch} {w : Wd} {mi : Mi} {dep : Nat} {κ : Kp} {pc n : Nat} {st : List Value} {loc : List (Option Value)} {M : Mem}
theorem r_cs {i : Nat} (hd : Dec mi pc (.getstatic i) 3 n) (hf : Cond.fieldLink mi.2.2.1 i "java/lang/String" "COMPACT_STRINGS" "Z" ∈ lw_t) (kk : RR l w mi dep κ n (.int 1 :: st) loc M) : RR l w mi dep κ pc st loc M := by
  obtain ⟨p, e, R, s, m, args, below, meth, c, cs, sl, Q⟩ := κ
  obtain ⟨hd, rfl⟩ := hd
  intro C H locs ls hl hP hS
  exact va_gets C.1.1 C.1.2.1 C.2.2.2.2.1.2.2.2.2.1.1 hS C.1.2.2.2.1 (C.1.2.2.2.2 _ hf) (fun _ h => h) hd (kk C H locs ls hl hP hS)
theorem r_fmt {i : Nat} (hd : Dec mi pc (.getstatic i) 3 n) (hf : Cond.fieldLink mi.2.2.1 i "jdk/internal/util/Preconditions" "SIOOBE_FORMATTER" "Ljava/util/function/BiFunction;" ∈ lw_t) (kk : ∀ z : Value, z.category = 1 → (z = .null ∨ ∃ t, z = .ref t) → RR l w mi dep κ n (z :: st) loc M) : RR l w mi dep κ pc st loc M := by
  obtain ⟨p, e, R, s, m, args, below, meth, c, cs, sl, Q⟩ := κ
  obtain ⟨hd, rfl⟩ := hd
  intro C H locs ls hl hP hS
  rcases C.2.2.2.2.1.2.2.2.2.1.2 with hz | ⟨t, hz⟩
  · exact va_gets C.1.1 C.1.2.1 hz hS C.1.2.2.2.1 (C.1.2.2.2.2 _ hf) (fun _ h => h) hd (kk .null rfl (Or.inl rfl) C H locs ls hl hP hS)
  · exact va_gets C.1.1 C.1.2.1 hz hS C.1.2.2.2.1 (C.1.2.2.2.2 _ hf) (fun _ h => h) hd (kk (.ref t) rfl (Or.inr ⟨t, rfl⟩) C H locs ls hl hP hS)
theorem r_sval {i j : Nat} (hj : j < 8) (hd : Dec mi pc (.getfield i) 3 n) (hf : Cond.fieldLink mi.2.2.1 i "java/lang/String" "value" "[B" ∈ lw_t) (kk : RR l w mi dep κ n (.ref (wa w (8 + j)) :: st) loc M) : RR l w mi dep κ pc (.ref (wa w j) :: st) loc M := by
  obtain ⟨p, e, R, s, m, args, below, meth, c, cs, sl, Q⟩ := κ
  obtain ⟨hd, rfl⟩ := hd
  intro C H locs ls hl hP hS
  exact vk_getf C.1.1 C.1.2.1 (C.2.2.2.2.1.1.1 j hj).2.2.1 hS C.1.2.2.2.1 (C.1.2.2.2.2 _ hf) (fun _ h => h) hd (kk C H locs ls hl hP hS)
theorem r_scod {i j : Nat} (hj : j < 8) (hd : Dec mi pc (.getfield i) 3 n) (hf : Cond.fieldLink mi.2.2.1 i "java/lang/String" "coder" "B" ∈ lw_t) (kk : RR l w mi dep κ n (.int 0 :: st) loc M) : RR l w mi dep κ pc (.ref (wa w j) :: st) loc M := by
  obtain ⟨p, e, R, s, m, args, below, meth, c, cs, sl, Q⟩ := κ
  obtain ⟨hd, rfl⟩ := hd
  intro C H locs ls hl hP hS
  exact vk_getf C.1.1 C.1.2.1 (C.2.2.2.2.1.1.1 j hj).2.1 hS C.1.2.2.2.1 (C.1.2.2.2.2 _ hf) (fun _ h => h) hd (kk C H locs ls hl hP hS)
theorem r_salen {j : Nat} (hj : j < 8) (hd : Dec mi pc .arraylength 1 n) (kk : RR l w mi dep κ n (.int (nI (lenS.getD j 0)) :: st) loc M) : RR l w mi dep κ pc (.ref (wa w (8 + j)) :: st) loc M := by
  obtain ⟨p, e, R, s, m, args, below, meth, c, cs, sl, Q⟩ := κ
  obtain ⟨hd, rfl⟩ := hd
  intro C H locs ls hl hP hS
  exact va_tlen C.1.1 C.1.2.1 (C.2.2.2.2.1.1.1 j hj).2.2.2 hS rfl hd (kk C H locs ls hl hP hS)
theorem r_sbald {j : Nat} {i : Int32} (hj : j < 8) (hd : Dec mi pc .baload 1 n) (hc : ck i (lenS.getD j 0) = true) (kk : RR l w mi dep κ n (.int ((bytS.getD j []).getD i.toNatClampNeg 0) :: st) loc M) : RR l w mi dep κ pc (.int i :: .ref (wa w (8 + j)) :: st) loc M := by
  obtain ⟨p, e, R, s, m, args, below, meth, c, cs, sl, Q⟩ := κ
  obtain ⟨hd, rfl⟩ := hd
  intro C H locs ls hl hP hS
  exact va_tb C.1.1 C.1.2.1 (C.2.2.2.2.1.1.1 j hj).2.2.2 hS (ck_in hc) rfl hd (kk C H locs ls hl hP hS)
/-- a call on a text -/
theorem r_callT {i na j dep' : Nat} {y : MethodName} {mi' : Mi} {av stk : List Value} {r : Res} (hj : j < 8) (hd : Dec mi pc (.invokevirtual i) 3 n) (hm : Cond.methodLink mi.2.2.1 i y ∈ lw_t) (hy : MF y mi' na) (hv : MV y) (hcn : "java/lang/String" = y.cls)
    (hc : Cn l w mi' y dep' (.ref (wa w j) :: av) M r) (hdep : dep' + 1 ≤ dep) (hn : av.length = na) (hst : stk = av.reverse ++ .ref (wa w j) :: st) (hw : (st.map fun v => v.category).sum ≤ 8) (kk : RR l w mi dep κ n (r.1.toList ++ st) loc r.2) : RR l w mi dep κ pc stk loc M := by
  obtain ⟨p, e, R, s, m, args, below, meth, c, cs, sl, Q⟩ := κ
  obtain ⟨hd, rfl⟩ := hd
  intro C H locs ls hl hP hS
  have hts := C.1.2.2.2.2
  have hR := calls_ok C hy hdep
  have hrec : ∃ cell : Cell, H[wa w j]? = some cell ∧ cell.vm.isStatics = false ∧ s.vm.findClass y.cls = some cell.cls := by rw [← hcn]; exact vk_recv C.2.2.2.2.1.1 hj hS
  have hrun := va_runV (l := l) (e := e) (R := R) (below := below) (meth := meth) (locs := locs) (cells := cs) (slots := sl) (g := F0 m pc ls stk) (rest := st) C.1 (hc H.size) (C := y.cls) (index := i) (bytes := mi'.1) (maxL := mi'.2.1) (ret := mi'.2.2.2) (n := na)
    ⟨⟨rfl, rfl, hR.1, hR.2, pay_in hts (good_ws hy.2.1), List.mem_cons_self, hts _ hy.2.1, hts _ hy.1, hy.2.2.1, len_of hy.2.2.2.1, hts _ hm⟩, hts _ hv.1, hts _ hv.2⟩
    ⟨blind_of, hrec, fun U hU hW => ⟨rfl, Bef_at C hP hS hU hW⟩⟩ rfl hn hl.1 hst (by show 2 * 0 + _ ≤ 8; omega) hd ⟨C.2.2.2.2.2.2.2.1, C.2.2.2.2.2.2.2.2⟩
  exact call_core hrun hS (fun H1 locs1 hP1 hS1 => kk C H1 locs1 ls hl hP1 hS1)
end ROWS3
/-- the sign at k of the text j -/
def sch (j : Nat) (k : Int32) : Int32 := ((((bytS.getD j []).getD k.toNatClampNeg 0) &&& 255).toUInt32 % 65536).toInt32
theorem kj0 : Int32.ofInt 0 = (0 : Int32) := by decide
theorem kj1 : Int32.ofInt 1 = (1 : Int32) := by decide
theorem kj255 : (Int16.ofInt 255).toInt32 = (255 : Int32) := by decide
theorem x_coder {l : Launch} {w : Wd} {M : Mem} {j : Nat} (hj : j < 8) : Cn l w mi_J0_coder_7d493 yJ0_coder_7d493 0 [.ref (wa w j)] M (some (.int 0), M) :=
  Cn_of (loc0 := [some (.ref (wa w j))]) rfl rfl rfl (Nat.le_of_ble_eq_true rfl) fun κ hq => r_cs D_J0_coder_7d493_0 js_cs <| r_if_eq D_J0_coder_7d493_3 (fun c => absurd c (by decide)) (fun _ => r_aload_n D_J0_coder_7d493_6 rfl <| r_scod hj D_J0_coder_7d493_7 js_cod <| r_goto D_J0_coder_7d493_10 <| r_zret hq D_J0_coder_7d493_14 rfl rfl rfl)
theorem x_isLatin1 {l : Launch} {w : Wd} {M : Mem} {j : Nat} (hj : j < 8) : Cn l w mi_J0_isLatin1_aae02 yJ0_isLatin1_aae02 0 [.ref (wa w j)] M (some (.int 1), M) :=
  Cn_of (loc0 := [some (.ref (wa w j))]) rfl rfl rfl (Nat.le_of_ble_eq_true rfl) fun κ hq => r_cs D_J0_isLatin1_aae02_0 js_cs <| r_if_eq D_J0_isLatin1_aae02_3 (fun c => absurd c (by decide)) (fun _ => r_aload_n D_J0_isLatin1_aae02_6 rfl <| r_scod hj D_J0_isLatin1_aae02_7 js_cod <| r_if_ne D_J0_isLatin1_aae02_10 (fun _ => r_iconst D_J0_isLatin1_aae02_13 kj1 <| r_goto D_J0_isLatin1_aae02_14 <| r_zret hq D_J0_isLatin1_aae02_18 rfl rfl rfl) (fun c => absurd rfl c))
theorem shr0 (x : Int32) : x >>> ((0 : Int32) &&& 31) = x := by
  apply Int32.toBitVec_inj.mp
  simp
theorem x_length {l : Launch} {w : Wd} {M : Mem} {j : Nat} (hj : j < 8) : Cn l w mi_J0_length_8abf5 yJ0_length_8abf5 1 [.ref (wa w j)] M (some (.int (nI (lenS.getD j 0))), M) :=
  Cn_of (loc0 := [some (.ref (wa w j))]) rfl rfl rfl (Nat.le_of_ble_eq_true rfl) fun κ hq => r_aload_n D_J0_length_8abf5_0 rfl <| r_sval hj D_J0_length_8abf5_1 js_val <| r_salen hj D_J0_length_8abf5_4 <| r_aload_n D_J0_length_8abf5_5 rfl <| r_callT (av := []) hj D_J0_length_8abf5_6 ml_J0_335 mf_J0_coder_7d493 mv_J0_coder_7d493 rfl (x_coder hj) (Nat.le_of_ble_eq_true rfl) rfl rfl (Nat.le_of_ble_eq_true rfl) <| r_ishr D_J0_length_8abf5_9 <| r_iret hq D_J0_length_8abf5_10 rfl (by rw [shr0])
theorem x_pre {l : Launch} {w : Wd} {M : Mem} {i k : Int32} {z : Value} (hz : z = .null ∨ ∃ t, z = .ref t) (h0 : ¬ i < 0) (h1 : i < k) : Cn l w mi_J3_checkIndex_8e157 yJ3_checkIndex_8e157 0 [.int i, .int k, z] M (some (.int i), M) := by
  refine Cn_of (loc0 := [some (.int i), some (.int k), some z]) rfl rfl rfl ?_ ?_
  · rcases hz with rfl | ⟨t, rfl⟩ <;> exact Nat.le_of_ble_eq_true rfl
  · exact fun κ hq => r_iload_n D_J3_checkIndex_8e157_0 rfl <| r_if_lt D_J3_checkIndex_8e157_1 (fun c => absurd c h0) (fun _ => r_iload_n D_J3_checkIndex_8e157_4 rfl <| r_iload_n D_J3_checkIndex_8e157_5 rfl <| r_icmp_lt D_J3_checkIndex_8e157_6 (fun _ => r_iload_n D_J3_checkIndex_8e157_16 rfl <| r_iret hq D_J3_checkIndex_8e157_17 rfl rfl) (fun c => absurd h1 c))

theorem x_chk {l : Launch} {w : Wd} {M : Mem} {i k : Int32} (h0 : ¬ i < 0) (h1 : i < k) : Cn l w mi_J0_checkIndex_df160 yJ0_checkIndex_df160 1 [.int i, .int k] M (none, M) :=
  Cn_of (loc0 := [some (.int i), some (.int k)]) rfl rfl rfl (Nat.le_of_ble_eq_true rfl) fun κ hq => r_iload_n D_J0_checkIndex_df160_0 rfl <| r_iload_n D_J0_checkIndex_df160_1 rfl <| r_fmt D_J0_checkIndex_df160_2 js_fmt fun z hz1 hz => r_callS (av := [.int i, .int k, z]) D_J0_checkIndex_df160_5 ml_J0_1059 mf_J3_checkIndex_8e157 ms_J3_checkIndex_8e157 (x_pre hz h0 h1) (Nat.le_of_ble_eq_true rfl) rfl rfl (Nat.le_of_ble_eq_true rfl) <| r_pop D_J0_checkIndex_df160_8 rfl <| r_vret hq D_J0_checkIndex_df160_9 rfl rfl
theorem ck_lt {i : Int32} {n : Nat} (hn : n < 2 ^ 31) (h : ck i n = true) : ¬ i < 0 ∧ i < nI n := by
  have h1 := of_decide_eq_true h
  constructor
  · rw [Int32.lt_iff_toInt_lt, Int32.toInt_zero]; omega
  · rw [Int32.lt_iff_toInt_lt, nI_toInt hn]; omega
theorem lenS_lt : ∀ j, j < 8 → lenS.getD j 0 < 2 ^ 31 := by decide
theorem x_l1 {l : Launch} {w : Wd} {M : Mem} {j : Nat} {k : Int32} (hj : j < 8) (hk : ck k (lenS.getD j 0) = true) : Cn l w mi_J1_charAt_3b067 yJ1_charAt_3b067 2 [.ref (wa w (8 + j)), .int k] M (some (.int (sch j k)), M) :=
  have hc := ck_lt (lenS_lt j hj) hk
  Cn_of (loc0 := [some (.ref (wa w (8 + j))), some (.int k)]) rfl rfl rfl (Nat.le_of_ble_eq_true rfl) fun κ hq => r_iload_n D_J1_charAt_3b067_0 rfl <| r_aload_n D_J1_charAt_3b067_1 rfl <| r_salen hj D_J1_charAt_3b067_2 <| r_callS (av := [.int k, .int (nI (lenS.getD j 0))]) D_J1_charAt_3b067_3 ml_J1_9 mf_J0_checkIndex_df160 ms_J0_checkIndex_df160 (x_chk hc.1 hc.2) (Nat.le_of_ble_eq_true rfl) rfl rfl (Nat.le_of_ble_eq_true rfl) <| r_aload_n D_J1_charAt_3b067_6 rfl <| r_iload_n D_J1_charAt_3b067_7 rfl <| r_sbald hj D_J1_charAt_3b067_8 hk <| r_sipush D_J1_charAt_3b067_9 kj255 <| r_iand D_J1_charAt_3b067_12 <| r_i2c D_J1_charAt_3b067_13 <| r_zret hq D_J1_charAt_3b067_14 rfl (pk_nc _) rfl
theorem x_charAt {l : Launch} {w : Wd} {M : Mem} {j : Nat} {k : Int32} (hj : j < 8) (hk : ck k (lenS.getD j 0) = true) : Cn l w mi_J0_charAt_5068e yJ0_charAt_5068e 3 [.ref (wa w j), .int k] M (some (.int (sch j k)), M) :=
  Cn_of (loc0 := [some (.ref (wa w j)), some (.int k)]) rfl rfl rfl (Nat.le_of_ble_eq_true rfl) fun κ hq => r_aload_n D_J0_charAt_5068e_0 rfl <| r_callT (av := []) hj D_J0_charAt_5068e_1 ml_J0_492 mf_J0_isLatin1_aae02 mv_J0_isLatin1_aae02 rfl (x_isLatin1 hj) (Nat.le_of_ble_eq_true rfl) rfl rfl (Nat.le_of_ble_eq_true rfl) <| r_if_eq D_J0_charAt_5068e_4 (fun c => absurd c (by decide)) (fun _ => r_aload_n D_J0_charAt_5068e_7 rfl <| r_sval hj D_J0_charAt_5068e_8 js_val <| r_iload_n D_J0_charAt_5068e_11 rfl <| r_callS (av := [.ref (wa w (8 + j)), .int k]) D_J0_charAt_5068e_12 ml_J0_495 mf_J1_charAt_3b067 ms_J1_charAt_3b067 (x_l1 hj hk) (Nat.le_of_ble_eq_true rfl) rfl rfl (Nat.le_of_ble_eq_true rfl) <| r_zret hq D_J0_charAt_5068e_15 rfl (pk_nc _) rfl)
section ROWS4
variable {l : Launch} {w : Wd} {mi : Mi} {dep : Nat} {κ : Kp} {pc n : Nat} {st : List Value} {loc : List (Option Value)} {M : Mem}
theorem r_slen {i j : Nat} (hd : Dec mi pc (.invokevirtual i) 3 n) (hm : Cond.methodLink mi.2.2.1 i yJ0_length_8abf5 ∈ lw_t) (hj : j < 8) (hdep : 4 ≤ dep) (hw : (st.map fun v => v.category).sum ≤ 8) (kk : RR l w mi dep κ n (.int (nI (lenS.getD j 0)) :: st) loc M) : RR l w mi dep κ pc (.ref (wa w j) :: st) loc M :=
  r_callT (av := []) hj hd hm mf_J0_length_8abf5 mv_J0_length_8abf5 rfl (x_length hj) (by omega) rfl rfl hw kk
theorem r_schar {i j : Nat} {k : Int32} (hd : Dec mi pc (.invokevirtual i) 3 n) (hm : Cond.methodLink mi.2.2.1 i yJ0_charAt_5068e ∈ lw_t) (hj : j < 8) (hk : ck k (lenS.getD j 0) = true) (hdep : 4 ≤ dep) (hw : (st.map fun v => v.category).sum ≤ 8) (kk : RR l w mi dep κ n (.int (sch j k) :: st) loc M) : RR l w mi dep κ pc (.int k :: .ref (wa w j) :: st) loc M :=
  r_callT (av := [.int k]) hj hd hm mf_J0_charAt_5068e mv_J0_charAt_5068e rfl (x_charAt hj hk) (by omega) rfl rfl hw kk
end ROWS4

