-- X10_copy
theorem D_X10_copy_0 : Dec mi_X10_copy 0 (.aload_n 0) 1 1 := ⟨by decide +kernel, rfl⟩
theorem D_X10_copy_1 : Dec mi_X10_copy 1 (.getfield 32) 3 4 := ⟨by decide +kernel, rfl⟩
theorem D_X10_copy_4 : Dec mi_X10_copy 4 (.iload_n 2) 1 5 := ⟨by decide +kernel, rfl⟩
theorem D_X10_copy_5 : Dec mi_X10_copy 5 (.aload_n 0) 1 6 := ⟨by decide +kernel, rfl⟩
theorem D_X10_copy_6 : Dec mi_X10_copy 6 (.getfield 32) 3 9 := ⟨by decide +kernel, rfl⟩
theorem D_X10_copy_9 : Dec mi_X10_copy 9 (.iload_n 1) 1 10 := ⟨by decide +kernel, rfl⟩
theorem D_X10_copy_10 : Dec mi_X10_copy 10 (.iaload) 1 11 := ⟨by decide +kernel, rfl⟩
theorem D_X10_copy_11 : Dec mi_X10_copy 11 (.iastore) 1 12 := ⟨by decide +kernel, rfl⟩
theorem D_X10_copy_12 : Dec mi_X10_copy 12 (.aload_n 0) 1 13 := ⟨by decide +kernel, rfl⟩
theorem D_X10_copy_13 : Dec mi_X10_copy 13 (.getfield 35) 3 16 := ⟨by decide +kernel, rfl⟩
theorem D_X10_copy_16 : Dec mi_X10_copy 16 (.iload_n 2) 1 17 := ⟨by decide +kernel, rfl⟩
theorem D_X10_copy_17 : Dec mi_X10_copy 17 (.aload_n 0) 1 18 := ⟨by decide +kernel, rfl⟩
theorem D_X10_copy_18 : Dec mi_X10_copy 18 (.getfield 35) 3 21 := ⟨by decide +kernel, rfl⟩
theorem D_X10_copy_21 : Dec mi_X10_copy 21 (.iload_n 1) 1 22 := ⟨by decide +kernel, rfl⟩
theorem D_X10_copy_22 : Dec mi_X10_copy 22 (.iaload) 1 23 := ⟨by decide +kernel, rfl⟩
theorem D_X10_copy_23 : Dec mi_X10_copy 23 (.iastore) 1 24 := ⟨by decide +kernel, rfl⟩
theorem D_X10_copy_24 : Dec mi_X10_copy 24 (.aload_n 0) 1 25 := ⟨by decide +kernel, rfl⟩
theorem D_X10_copy_25 : Dec mi_X10_copy 25 (.getfield 38) 3 28 := ⟨by decide +kernel, rfl⟩
theorem D_X10_copy_28 : Dec mi_X10_copy 28 (.iload_n 2) 1 29 := ⟨by decide +kernel, rfl⟩
theorem D_X10_copy_29 : Dec mi_X10_copy 29 (.aload_n 0) 1 30 := ⟨by decide +kernel, rfl⟩
theorem D_X10_copy_30 : Dec mi_X10_copy 30 (.getfield 38) 3 33 := ⟨by decide +kernel, rfl⟩
theorem D_X10_copy_33 : Dec mi_X10_copy 33 (.iload_n 1) 1 34 := ⟨by decide +kernel, rfl⟩
theorem D_X10_copy_34 : Dec mi_X10_copy 34 (.iaload) 1 35 := ⟨by decide +kernel, rfl⟩
theorem D_X10_copy_35 : Dec mi_X10_copy 35 (.iastore) 1 36 := ⟨by decide +kernel, rfl⟩
theorem D_X10_copy_36 : Dec mi_X10_copy 36 (.return_) 1 37 := ⟨by decide +kernel, rfl⟩
def f_X10_copy (M : Mem) (a1 : Int32) (a2 : Int32) : Option Mem := if ck a1 3 = true then (if ck a2 3 = true then (vlet (setI M 44 a2.toNatClampNeg (M.1 44 a1.toNatClampNeg)) fun M3 => if ck a1 3 = true then (if ck a2 3 = true then (vlet (setI M3 45 a2.toNatClampNeg (M3.1 45 a1.toNatClampNeg)) fun M6 => if ck a1 3 = true then (if ck a2 3 = true then (vlet (setI M6 46 a2.toNatClampNeg (M6.1 46 a1.toNatClampNeg)) fun M9 => some M9) else none) else none) else none) else none) else none) else none
theorem x_X10_copy {l : Launch} {w : Wd} {M : Mem} {a1 : Int32} {a2 : Int32} {v : Mem} (h : f_X10_copy M a1 a2 = some v) : Cn l w mi_X10_copy yX10_copy (0) [.ref (wq w 36), .int a1, .int a2] M (none, v) :=
  Cn_of (loc0 := [some (.ref (wq w 36)), some (.int a1), some (.int a2)]) rfl rfl rfl (Nat.le_of_ble_eq_true rfl) fun κ hq => let_h (show (if ck a1 3 = true then (if ck a2 3 = true then (vlet (setI M 44 a2.toNatClampNeg (M.1 44 a1.toNatClampNeg)) fun M3 => if ck a1 3 = true then (if ck a2 3 = true then (vlet (setI M3 45 a2.toNatClampNeg (M3.1 45 a1.toNatClampNeg)) fun M6 => if ck a1 3 = true then (if ck a2 3 = true then (vlet (setI M6 46 a2.toNatClampNeg (M6.1 46 a1.toNatClampNeg)) fun M9 => some M9) else none) else none) else none) else none) else none) else none) = some v from h) fun h => r_aload_n D_X10_copy_0 rfl <| r_getR (j := 44) D_X10_copy_1 fl_X10_32 s_36 rfl <| r_iload_n D_X10_copy_4 rfl <| r_aload_n D_X10_copy_5 rfl <| r_getR (j := 44) D_X10_copy_6 fl_X10_32 s_36 rfl <| r_iload_n D_X10_copy_9 rfl <| (ckE h).elim fun c1 h => r_iald D_X10_copy_10 s_44 c1 <| (ckE h).elim fun c2 h => r_iast D_X10_copy_11 s_44 c2 <| mlE h fun M3 h => r_aload_n D_X10_copy_12 rfl <| r_getR (j := 45) D_X10_copy_13 fl_X10_35 s_36 rfl <| r_iload_n D_X10_copy_16 rfl <| r_aload_n D_X10_copy_17 rfl <| r_getR (j := 45) D_X10_copy_18 fl_X10_35 s_36 rfl <| r_iload_n D_X10_copy_21 rfl <| (ckE h).elim fun c4 h => r_iald D_X10_copy_22 s_45 c4 <| (ckE h).elim fun c5 h => r_iast D_X10_copy_23 s_45 c5 <| mlE h fun M6 h => r_aload_n D_X10_copy_24 rfl <| r_getR (j := 46) D_X10_copy_25 fl_X10_38 s_36 rfl <| r_iload_n D_X10_copy_28 rfl <| r_aload_n D_X10_copy_29 rfl <| r_getR (j := 46) D_X10_copy_30 fl_X10_38 s_36 rfl <| r_iload_n D_X10_copy_33 rfl <| (ckE h).elim fun c7 h => r_iald D_X10_copy_34 s_46 c7 <| (ckE h).elim fun c8 h => r_iast D_X10_copy_35 s_46 c8 <| mlE h fun M9 h => r_vret hq D_X10_copy_36 rfl (rtV h)
-- X10_keep
theorem D_X10_keep_0 : Dec mi_X10_keep 0 (.iload_n 1) 1 1 := ⟨by decide +kernel, rfl⟩
theorem D_X10_keep_1 : Dec mi_X10_keep 1 (.iconst 0) 1 2 := ⟨by decide +kernel, rfl⟩
theorem D_X10_keep_2 : Dec mi_X10_keep 2 (.iconst 1) 1 3 := ⟨by decide +kernel, rfl⟩
theorem D_X10_keep_3 : Dec mi_X10_keep 3 (.invokestatic 78) 3 6 := ⟨by decide +kernel, rfl⟩
theorem D_X10_keep_6 : DecJ mi_X10_keep 6 (.ifCond .ne 5) (5) 9 11 := ⟨by decide +kernel, rfl, by decide⟩
theorem D_X10_keep_9 : Dec mi_X10_keep 9 (.iconst (-1)) 1 10 := ⟨by decide +kernel, rfl⟩
theorem D_X10_keep_10 : Dec mi_X10_keep 10 (.ireturn) 1 11 := ⟨by decide +kernel, rfl⟩
theorem D_X10_keep_11 : Dec mi_X10_keep 11 (.aload_n 0) 1 12 := ⟨by decide +kernel, rfl⟩
theorem D_X10_keep_12 : Dec mi_X10_keep 12 (.iconst 0) 1 13 := ⟨by decide +kernel, rfl⟩
theorem D_X10_keep_13 : Dec mi_X10_keep 13 (.iconst 1) 1 14 := ⟨by decide +kernel, rfl⟩
theorem D_X10_keep_14 : Dec mi_X10_keep 14 (.iload_n 1) 1 15 := ⟨by decide +kernel, rfl⟩
theorem D_X10_keep_15 : Dec mi_X10_keep 15 (.iadd) 1 16 := ⟨by decide +kernel, rfl⟩
theorem D_X10_keep_16 : Dec mi_X10_keep 16 (.invokevirtual 246) 3 19 := ⟨by decide +kernel, rfl⟩
theorem D_X10_keep_19 : Dec mi_X10_keep 19 (.aload_n 0) 1 20 := ⟨by decide +kernel, rfl⟩
theorem D_X10_keep_20 : Dec mi_X10_keep 20 (.getfield 41) 3 23 := ⟨by decide +kernel, rfl⟩
theorem D_X10_keep_23 : Dec mi_X10_keep 23 (.iload_n 1) 1 24 := ⟨by decide +kernel, rfl⟩
theorem D_X10_keep_24 : Dec mi_X10_keep 24 (.iconst 1) 1 25 := ⟨by decide +kernel, rfl⟩
theorem D_X10_keep_25 : Dec mi_X10_keep 25 (.bastore) 1 26 := ⟨by decide +kernel, rfl⟩
theorem D_X10_keep_26 : Dec mi_X10_keep 26 (.aload_n 0) 1 27 := ⟨by decide +kernel, rfl⟩
theorem D_X10_keep_27 : Dec mi_X10_keep 27 (.getfield 32) 3 30 := ⟨by decide +kernel, rfl⟩
theorem D_X10_keep_30 : Dec mi_X10_keep 30 (.iconst 0) 1 31 := ⟨by decide +kernel, rfl⟩
theorem D_X10_keep_31 : Dec mi_X10_keep 31 (.iaload) 1 32 := ⟨by decide +kernel, rfl⟩
theorem D_X10_keep_32 : Dec mi_X10_keep 32 (.ireturn) 1 33 := ⟨by decide +kernel, rfl⟩
def f_X10_keep (M : Mem) (a1 : Int32) : Option (Int32 × Mem) := if (f_X10_in M a1 (0 : Int32) (1 : Int32)) = 0 then (some ((-1 : Int32), M)) else ((f_X10_copy M (0 : Int32) ((1 : Int32) + a1)).bind fun p2 => if ck a1 2 = true then (vlet (setI p2 47 a1.toNatClampNeg (1 : Int32)) fun M5 => if ck (0 : Int32) 3 = true then (some ((M5.1 44 (0 : Int32).toNatClampNeg), M5)) else none) else none)
theorem x_X10_keep {l : Launch} {w : Wd} {M : Mem} {a1 : Int32} {v : Int32 × Mem} (h : f_X10_keep M a1 = some v) : Cn l w mi_X10_keep yX10_keep (1) [.ref (wq w 36), .int a1] M (some (.int v.1), v.2) :=
  Cn_of (loc0 := [some (.ref (wq w 36)), some (.int a1)]) rfl rfl rfl (Nat.le_of_ble_eq_true rfl) fun κ hq => let_h (show (if (f_X10_in M a1 (0 : Int32) (1 : Int32)) = 0 then (some ((-1 : Int32), M)) else ((f_X10_copy M (0 : Int32) ((1 : Int32) + a1)).bind fun p2 => if ck a1 2 = true then (vlet (setI p2 47 a1.toNatClampNeg (1 : Int32)) fun M5 => if ck (0 : Int32) 3 = true then (some ((M5.1 44 (0 : Int32).toNatClampNeg), M5)) else none) else none)) = some v from h) fun h => r_iload_n D_X10_keep_0 rfl <| r_iconst D_X10_keep_1 ki_0 <| r_iconst D_X10_keep_2 ki_1 <| r_callS (av := [.int a1, .int (0 : Int32), .int (1 : Int32)]) D_X10_keep_3 ml_X10_78 mf_X10_in ms_X10_in (x_X10_in rfl) (Nat.le_of_ble_eq_true rfl) rfl rfl (Nat.le_of_ble_eq_true rfl) <| r_if_ne D_X10_keep_6 (fun c1 => let_h (ifT c1 h) fun h => r_iconst D_X10_keep_9 ki_m1 <| r_iret hq D_X10_keep_10 rfl (rtW h)) (fun c1 => let_h (ifF c1 h) fun h => r_aload_n D_X10_keep_11 rfl <| r_iconst D_X10_keep_12 ki_0 <| r_iconst D_X10_keep_13 ki_1 <| r_iload_n D_X10_keep_14 rfl <| r_iadd D_X10_keep_15 <| (bdE h).elim fun p2 q3 => let_h q3.2 fun h => r_callV (av := [.int (0 : Int32), .int ((1 : Int32) + a1)]) D_X10_keep_16 ml_X10_246 mf_X10_copy mv_X10_copy s_36 rfl rfl (x_X10_copy q3.1) (Nat.le_of_ble_eq_true rfl) rfl rfl (Nat.le_of_ble_eq_true rfl) <| r_aload_n D_X10_keep_19 rfl <| r_getR (j := 47) D_X10_keep_20 fl_X10_41 s_36 rfl <| r_iload_n D_X10_keep_23 rfl <| r_iconst D_X10_keep_24 ki_1 <| (ckE h).elim fun c4 h => r_zast D_X10_keep_25 s_47 rfl c4 <| mlE h fun M5 h => r_aload_n D_X10_keep_26 rfl <| r_getR (j := 44) D_X10_keep_27 fl_X10_32 s_36 rfl <| r_iconst D_X10_keep_30 ki_0 <| (ckE h).elim fun c6 h => r_iald D_X10_keep_31 s_44 c6 <| r_iret hq D_X10_keep_32 rfl (rtW h))
-- X10_back
theorem D_X10_back_0 : Dec mi_X10_back 0 (.iload_n 1) 1 1 := ⟨by decide +kernel, rfl⟩
theorem D_X10_back_1 : Dec mi_X10_back 1 (.iconst 0) 1 2 := ⟨by decide +kernel, rfl⟩
theorem D_X10_back_2 : Dec mi_X10_back 2 (.iconst 1) 1 3 := ⟨by decide +kernel, rfl⟩
theorem D_X10_back_3 : Dec mi_X10_back 3 (.invokestatic 78) 3 6 := ⟨by decide +kernel, rfl⟩
theorem D_X10_back_6 : DecJ mi_X10_back 6 (.ifCond .ne 5) (5) 9 11 := ⟨by decide +kernel, rfl, by decide⟩
theorem D_X10_back_9 : Dec mi_X10_back 9 (.iconst (-1)) 1 10 := ⟨by decide +kernel, rfl⟩
theorem D_X10_back_10 : Dec mi_X10_back 10 (.ireturn) 1 11 := ⟨by decide +kernel, rfl⟩
theorem D_X10_back_11 : Dec mi_X10_back 11 (.aload_n 0) 1 12 := ⟨by decide +kernel, rfl⟩
theorem D_X10_back_12 : Dec mi_X10_back 12 (.getfield 41) 3 15 := ⟨by decide +kernel, rfl⟩
theorem D_X10_back_15 : Dec mi_X10_back 15 (.iload_n 1) 1 16 := ⟨by decide +kernel, rfl⟩
theorem D_X10_back_16 : Dec mi_X10_back 16 (.baload) 1 17 := ⟨by decide +kernel, rfl⟩
theorem D_X10_back_17 : DecJ mi_X10_back 17 (.ifCond .ne 6) (6) 20 23 := ⟨by decide +kernel, rfl, by decide⟩
theorem D_X10_back_20 : Dec mi_X10_back 20 (.bipush (-2)) 2 22 := ⟨by decide +kernel, rfl⟩
theorem D_X10_back_22 : Dec mi_X10_back 22 (.ireturn) 1 23 := ⟨by decide +kernel, rfl⟩
theorem D_X10_back_23 : Dec mi_X10_back 23 (.aload_n 0) 1 24 := ⟨by decide +kernel, rfl⟩
theorem D_X10_back_24 : Dec mi_X10_back 24 (.iconst 1) 1 25 := ⟨by decide +kernel, rfl⟩
theorem D_X10_back_25 : Dec mi_X10_back 25 (.iload_n 1) 1 26 := ⟨by decide +kernel, rfl⟩
theorem D_X10_back_26 : Dec mi_X10_back 26 (.iadd) 1 27 := ⟨by decide +kernel, rfl⟩
theorem D_X10_back_27 : Dec mi_X10_back 27 (.iconst 0) 1 28 := ⟨by decide +kernel, rfl⟩
theorem D_X10_back_28 : Dec mi_X10_back 28 (.invokevirtual 246) 3 31 := ⟨by decide +kernel, rfl⟩
theorem D_X10_back_31 : Dec mi_X10_back 31 (.aload_n 0) 1 32 := ⟨by decide +kernel, rfl⟩
theorem D_X10_back_32 : Dec mi_X10_back 32 (.getfield 32) 3 35 := ⟨by decide +kernel, rfl⟩
theorem D_X10_back_35 : Dec mi_X10_back 35 (.iconst 0) 1 36 := ⟨by decide +kernel, rfl⟩
theorem D_X10_back_36 : Dec mi_X10_back 36 (.iaload) 1 37 := ⟨by decide +kernel, rfl⟩
theorem D_X10_back_37 : Dec mi_X10_back 37 (.ireturn) 1 38 := ⟨by decide +kernel, rfl⟩
def f_X10_back (M : Mem) (a1 : Int32) : Option (Int32 × Mem) := if (f_X10_in M a1 (0 : Int32) (1 : Int32)) = 0 then (some ((-1 : Int32), M)) else (if ck a1 2 = true then (if (M.1 47 a1.toNatClampNeg) = 0 then (some ((-2 : Int32), M)) else ((f_X10_copy M ((1 : Int32) + a1) (0 : Int32)).bind fun p4 => if ck (0 : Int32) 3 = true then (some ((p4.1 44 (0 : Int32).toNatClampNeg), p4)) else none)) else none)
theorem x_X10_back {l : Launch} {w : Wd} {M : Mem} {a1 : Int32} {v : Int32 × Mem} (h : f_X10_back M a1 = some v) : Cn l w mi_X10_back yX10_back (1) [.ref (wq w 36), .int a1] M (some (.int v.1), v.2) :=
  Cn_of (loc0 := [some (.ref (wq w 36)), some (.int a1)]) rfl rfl rfl (Nat.le_of_ble_eq_true rfl) fun κ hq => let_h (show (if (f_X10_in M a1 (0 : Int32) (1 : Int32)) = 0 then (some ((-1 : Int32), M)) else (if ck a1 2 = true then (if (M.1 47 a1.toNatClampNeg) = 0 then (some ((-2 : Int32), M)) else ((f_X10_copy M ((1 : Int32) + a1) (0 : Int32)).bind fun p4 => if ck (0 : Int32) 3 = true then (some ((p4.1 44 (0 : Int32).toNatClampNeg), p4)) else none)) else none)) = some v from h) fun h => r_iload_n D_X10_back_0 rfl <| r_iconst D_X10_back_1 ki_0 <| r_iconst D_X10_back_2 ki_1 <| r_callS (av := [.int a1, .int (0 : Int32), .int (1 : Int32)]) D_X10_back_3 ml_X10_78 mf_X10_in ms_X10_in (x_X10_in rfl) (Nat.le_of_ble_eq_true rfl) rfl rfl (Nat.le_of_ble_eq_true rfl) <| r_if_ne D_X10_back_6 (fun c1 => let_h (ifT c1 h) fun h => r_iconst D_X10_back_9 ki_m1 <| r_iret hq D_X10_back_10 rfl (rtW h)) (fun c1 => let_h (ifF c1 h) fun h => r_aload_n D_X10_back_11 rfl <| r_getR (j := 47) D_X10_back_12 fl_X10_41 s_36 rfl <| r_iload_n D_X10_back_15 rfl <| (ckE h).elim fun c2 h => r_zald D_X10_back_16 s_47 c2 <| r_if_ne D_X10_back_17 (fun c3 => let_h (ifT c3 h) fun h => r_bipush D_X10_back_20 k8_m2 <| r_iret hq D_X10_back_22 rfl (rtW h)) (fun c3 => let_h (ifF c3 h) fun h => r_aload_n D_X10_back_23 rfl <| r_iconst D_X10_back_24 ki_1 <| r_iload_n D_X10_back_25 rfl <| r_iadd D_X10_back_26 <| r_iconst D_X10_back_27 ki_0 <| (bdE h).elim fun p4 q5 => let_h q5.2 fun h => r_callV (av := [.int ((1 : Int32) + a1), .int (0 : Int32)]) D_X10_back_28 ml_X10_246 mf_X10_copy mv_X10_copy s_36 rfl rfl (x_X10_copy q5.1) (Nat.le_of_ble_eq_true rfl) rfl rfl (Nat.le_of_ble_eq_true rfl) <| r_aload_n D_X10_back_31 rfl <| r_getR (j := 44) D_X10_back_32 fl_X10_32 s_36 rfl <| r_iconst D_X10_back_35 ki_0 <| (ckE h).elim fun c6 h => r_iald D_X10_back_36 s_44 c6 <| r_iret hq D_X10_back_37 rfl (rtW h)))
-- X10_count
theorem D_X10_count_0 : Dec mi_X10_count 0 (.iload_n 1) 1 1 := ⟨by decide +kernel, rfl⟩
theorem D_X10_count_1 : decode mi_X10_count.1 1 = .ok (.tableswitch 87 0 5 #[39, 46, 53, 58, 63, 75], 39) := by decide +kernel
theorem D_X10_count_40 : Dec mi_X10_count 40 (.aload_n 0) 1 41 := ⟨by decide +kernel, rfl⟩
theorem D_X10_count_41 : Dec mi_X10_count 41 (.getfield 13) 3 44 := ⟨by decide +kernel, rfl⟩
theorem D_X10_count_44 : Dec mi_X10_count 44 (.iconst 0) 1 45 := ⟨by decide +kernel, rfl⟩
theorem D_X10_count_45 : Dec mi_X10_count 45 (.iaload) 1 46 := ⟨by decide +kernel, rfl⟩
theorem D_X10_count_46 : Dec mi_X10_count 46 (.ireturn) 1 47 := ⟨by decide +kernel, rfl⟩
theorem D_X10_count_47 : Dec mi_X10_count 47 (.aload_n 0) 1 48 := ⟨by decide +kernel, rfl⟩
theorem D_X10_count_48 : Dec mi_X10_count 48 (.getfield 23) 3 51 := ⟨by decide +kernel, rfl⟩
theorem D_X10_count_51 : Dec mi_X10_count 51 (.iconst 0) 1 52 := ⟨by decide +kernel, rfl⟩
theorem D_X10_count_52 : Dec mi_X10_count 52 (.iaload) 1 53 := ⟨by decide +kernel, rfl⟩
theorem D_X10_count_53 : Dec mi_X10_count 53 (.ireturn) 1 54 := ⟨by decide +kernel, rfl⟩
theorem D_X10_count_54 : Dec mi_X10_count 54 (.aload_n 0) 1 55 := ⟨by decide +kernel, rfl⟩
theorem D_X10_count_55 : Dec mi_X10_count 55 (.getfield 222) 3 58 := ⟨by decide +kernel, rfl⟩
theorem D_X10_count_58 : Dec mi_X10_count 58 (.ireturn) 1 59 := ⟨by decide +kernel, rfl⟩
theorem D_X10_count_59 : Dec mi_X10_count 59 (.aload_n 0) 1 60 := ⟨by decide +kernel, rfl⟩
theorem D_X10_count_60 : Dec mi_X10_count 60 (.getfield 82) 3 63 := ⟨by decide +kernel, rfl⟩
theorem D_X10_count_63 : Dec mi_X10_count 63 (.ireturn) 1 64 := ⟨by decide +kernel, rfl⟩
theorem D_X10_count_64 : Dec mi_X10_count 64 (.aload_n 0) 1 65 := ⟨by decide +kernel, rfl⟩
theorem D_X10_count_65 : Dec mi_X10_count 65 (.aload_n 0) 1 66 := ⟨by decide +kernel, rfl⟩
theorem D_X10_count_66 : Dec mi_X10_count 66 (.getfield 38) 3 69 := ⟨by decide +kernel, rfl⟩
theorem D_X10_count_69 : Dec mi_X10_count 69 (.iconst 0) 1 70 := ⟨by decide +kernel, rfl⟩
theorem D_X10_count_70 : Dec mi_X10_count 70 (.iaload) 1 71 := ⟨by decide +kernel, rfl⟩
theorem D_X10_count_71 : Dec mi_X10_count 71 (.iconst 4) 1 72 := ⟨by decide +kernel, rfl⟩
theorem D_X10_count_72 : Dec mi_X10_count 72 (.invokevirtual 207) 3 75 := ⟨by decide +kernel, rfl⟩
theorem D_X10_count_75 : Dec mi_X10_count 75 (.ireturn) 1 76 := ⟨by decide +kernel, rfl⟩
theorem D_X10_count_76 : Dec mi_X10_count 76 (.aload_n 0) 1 77 := ⟨by decide +kernel, rfl⟩
theorem D_X10_count_77 : Dec mi_X10_count 77 (.aload_n 0) 1 78 := ⟨by decide +kernel, rfl⟩
theorem D_X10_count_78 : Dec mi_X10_count 78 (.getfield 38) 3 81 := ⟨by decide +kernel, rfl⟩
theorem D_X10_count_81 : Dec mi_X10_count 81 (.iconst 0) 1 82 := ⟨by decide +kernel, rfl⟩
theorem D_X10_count_82 : Dec mi_X10_count 82 (.iaload) 1 83 := ⟨by decide +kernel, rfl⟩
theorem D_X10_count_83 : Dec mi_X10_count 83 (.iconst 3) 1 84 := ⟨by decide +kernel, rfl⟩
theorem D_X10_count_84 : Dec mi_X10_count 84 (.invokevirtual 207) 3 87 := ⟨by decide +kernel, rfl⟩
theorem D_X10_count_87 : Dec mi_X10_count 87 (.ireturn) 1 88 := ⟨by decide +kernel, rfl⟩
theorem D_X10_count_88 : Dec mi_X10_count 88 (.iconst (-1)) 1 89 := ⟨by decide +kernel, rfl⟩
theorem D_X10_count_89 : Dec mi_X10_count 89 (.ireturn) 1 90 := ⟨by decide +kernel, rfl⟩
def f_X10_count (F : Nat) (M : Mem) (a1 : Int32) : Option Int32 := if a1 = (0 : Int32) then (if ck (0 : Int32) 2 = true then (some (M.1 38 (0 : Int32).toNatClampNeg)) else none) else (if a1 = (1 : Int32) then (if ck (0 : Int32) 2 = true then (some (M.1 41 (0 : Int32).toNatClampNeg)) else none) else (if a1 = (2 : Int32) then (some (M.1 36 30)) else (if a1 = (3 : Int32) then (some (M.1 36 2)) else (if a1 = (4 : Int32) then (if ck (0 : Int32) 3 = true then ((f_X10_sumOf F M (M.1 46 (0 : Int32).toNatClampNeg) (4 : Int32)).bind fun x9 => some x9) else none) else (if a1 = (5 : Int32) then (if ck (0 : Int32) 3 = true then ((f_X10_sumOf F M (M.1 46 (0 : Int32).toNatClampNeg) (3 : Int32)).bind fun x13 => some x13) else none) else (some (-1 : Int32)))))))
theorem x_X10_count {l : Launch} {w : Wd} {F : Nat} {M : Mem} {a1 : Int32} {v : Int32} (h : f_X10_count F M a1 = some v) : Cn l w mi_X10_count yX10_count (2) [.ref (wq w 36), .int a1] M (some (.int v), M) :=
  Cn_of (loc0 := [some (.ref (wq w 36)), some (.int a1)]) rfl rfl rfl (Nat.le_of_ble_eq_true rfl) fun κ hq => let_h (show (if a1 = (0 : Int32) then (if ck (0 : Int32) 2 = true then (some (M.1 38 (0 : Int32).toNatClampNeg)) else none) else (if a1 = (1 : Int32) then (if ck (0 : Int32) 2 = true then (some (M.1 41 (0 : Int32).toNatClampNeg)) else none) else (if a1 = (2 : Int32) then (some (M.1 36 30)) else (if a1 = (3 : Int32) then (some (M.1 36 2)) else (if a1 = (4 : Int32) then (if ck (0 : Int32) 3 = true then ((f_X10_sumOf F M (M.1 46 (0 : Int32).toNatClampNeg) (4 : Int32)).bind fun x9 => some x9) else none) else (if a1 = (5 : Int32) then (if ck (0 : Int32) 3 = true then ((f_X10_sumOf F M (M.1 46 (0 : Int32).toNatClampNeg) (3 : Int32)).bind fun x13 => some x13) else none) else (some (-1 : Int32)))))))) = some v from h) fun h => r_iload_n D_X10_count_0 rfl <| dcs (fun c1 => let_h (ifT c1 h) fun h => r_tabEq (off := 39) (t := 40) c1 D_X10_count_1 (by decide) (by decide) <| r_aload_n D_X10_count_40 rfl <| r_getR (j := 38) D_X10_count_41 fl_X10_13 s_36 rfl <| r_iconst D_X10_count_44 ki_0 <| (ckE h).elim fun c2 h => r_iald D_X10_count_45 s_38 c2 <| r_iret hq D_X10_count_46 rfl (rtP h)) (fun c1 => let_h (ifF c1 h) fun h => dcs (fun c3 => let_h (ifT c3 h) fun h => r_tabEq (off := 46) (t := 47) c3 D_X10_count_1 (by decide) (by decide) <| r_aload_n D_X10_count_47 rfl <| r_getR (j := 41) D_X10_count_48 fl_X10_23 s_36 rfl <| r_iconst D_X10_count_51 ki_0 <| (ckE h).elim fun c4 h => r_iald D_X10_count_52 s_41 c4 <| r_iret hq D_X10_count_53 rfl (rtP h)) (fun c3 => let_h (ifF c3 h) fun h => dcs (fun c5 => let_h (ifT c5 h) fun h => r_tabEq (off := 53) (t := 54) c5 D_X10_count_1 (by decide) (by decide) <| r_aload_n D_X10_count_54 rfl <| r_getI D_X10_count_55 fl_X10_222 s_36 rfl <| r_iret hq D_X10_count_58 rfl (rtP h)) (fun c5 => let_h (ifF c5 h) fun h => dcs (fun c6 => let_h (ifT c6 h) fun h => r_tabEq (off := 58) (t := 59) c6 D_X10_count_1 (by decide) (by decide) <| r_aload_n D_X10_count_59 rfl <| r_getI D_X10_count_60 fl_X10_82 s_36 rfl <| r_iret hq D_X10_count_63 rfl (rtP h)) (fun c6 => let_h (ifF c6 h) fun h => dcs (fun c7 => let_h (ifT c7 h) fun h => r_tabEq (off := 63) (t := 64) c7 D_X10_count_1 (by decide) (by decide) <| r_aload_n D_X10_count_64 rfl <| r_aload_n D_X10_count_65 rfl <| r_getR (j := 46) D_X10_count_66 fl_X10_38 s_36 rfl <| r_iconst D_X10_count_69 ki_0 <| (ckE h).elim fun c8 h => r_iald D_X10_count_70 s_46 c8 <| r_iconst D_X10_count_71 ki_4 <| (bdE h).elim fun x9 q10 => let_h q10.2 fun h => r_callV (av := [.int (M.1 46 (0 : Int32).toNatClampNeg), .int (4 : Int32)]) D_X10_count_72 ml_X10_207 mf_X10_sumOf mv_X10_sumOf s_36 rfl rfl (x_X10_sumOf q10.1) (Nat.le_of_ble_eq_true rfl) rfl rfl (Nat.le_of_ble_eq_true rfl) <| r_iret hq D_X10_count_75 rfl (rtP h)) (fun c7 => let_h (ifF c7 h) fun h => dcs (fun c11 => let_h (ifT c11 h) fun h => r_tabEq (off := 75) (t := 76) c11 D_X10_count_1 (by decide) (by decide) <| r_aload_n D_X10_count_76 rfl <| r_aload_n D_X10_count_77 rfl <| r_getR (j := 46) D_X10_count_78 fl_X10_38 s_36 rfl <| r_iconst D_X10_count_81 ki_0 <| (ckE h).elim fun c12 h => r_iald D_X10_count_82 s_46 c12 <| r_iconst D_X10_count_83 ki_3 <| (bdE h).elim fun x13 q14 => let_h q14.2 fun h => r_callV (av := [.int (M.1 46 (0 : Int32).toNatClampNeg), .int (3 : Int32)]) D_X10_count_84 ml_X10_207 mf_X10_sumOf mv_X10_sumOf s_36 rfl rfl (x_X10_sumOf q14.1) (Nat.le_of_ble_eq_true rfl) rfl rfl (Nat.le_of_ble_eq_true rfl) <| r_iret hq D_X10_count_87 rfl (rtP h)) (fun c11 => let_h (ifF c11 h) fun h => r_tabOut (t := 88) D_X10_count_1 (NE.out (k := 6) ⟨⟨⟨⟨⟨⟨trivial, c1⟩, c3⟩, c5⟩, c6⟩, c7⟩, c11⟩ (by decide)) (by decide) <| r_iconst D_X10_count_88 ki_m1 <| r_iret hq D_X10_count_89 rfl (rtP h)))))))
-- X10_trace
theorem D_X10_trace_0 : Dec mi_X10_trace 0 (.aload_n 0) 1 1 := ⟨by decide +kernel, rfl⟩
theorem D_X10_trace_1 : Dec mi_X10_trace 1 (.getfield 232) 3 4 := ⟨by decide +kernel, rfl⟩
theorem D_X10_trace_4 : Dec mi_X10_trace 4 (.lreturn) 1 5 := ⟨by decide +kernel, rfl⟩
def f_X10_trace (M : Mem) : Int64 := (M.2 36 0)
theorem x_X10_trace {l : Launch} {w : Wd} {M : Mem} {v : Int64} (h : f_X10_trace M = v) : Cn l w mi_X10_trace yX10_trace (0) [.ref (wq w 36)] M (some (.long v), M) :=
  Cn_of (loc0 := [some (.ref (wq w 36))]) rfl rfl rfl (Nat.le_of_ble_eq_true rfl) fun κ hq => let_h (show ((M.2 36 0)) = v from h) fun h => r_aload_n D_X10_trace_0 rfl <| r_getL D_X10_trace_1 fl_X10_232 s_36 rfl <| r_lret hq D_X10_trace_4 rfl (rtTL h)
