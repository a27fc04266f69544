-- X9_use
theorem D_X9_use_0 : Dec mi_X9_use 0 (.aload_n 0) 1 1 := ⟨by decide +kernel, rfl⟩
theorem D_X9_use_1 : Dec mi_X9_use 1 (.getfield 83) 3 4 := ⟨by decide +kernel, rfl⟩
theorem D_X9_use_4 : Dec mi_X9_use 4 (.iload_n 1) 1 5 := ⟨by decide +kernel, rfl⟩
theorem D_X9_use_5 : Dec mi_X9_use 5 (.invokevirtual 258) 3 8 := ⟨by decide +kernel, rfl⟩
theorem D_X9_use_8 : DecJ mi_X9_use 8 (.ifCond .eq 14) (14) 11 22 := ⟨by decide +kernel, rfl, by decide⟩
theorem D_X9_use_11 : Dec mi_X9_use 11 (.aload_n 0) 1 12 := ⟨by decide +kernel, rfl⟩
theorem D_X9_use_12 : Dec mi_X9_use 12 (.getfield 19) 3 15 := ⟨by decide +kernel, rfl⟩
theorem D_X9_use_15 : Dec mi_X9_use 15 (.iload_n 2) 1 16 := ⟨by decide +kernel, rfl⟩
theorem D_X9_use_16 : Dec mi_X9_use 16 (.invokevirtual 122) 3 19 := ⟨by decide +kernel, rfl⟩
theorem D_X9_use_19 : DecJ mi_X9_use 19 (.ifCond .ne 7) (7) 22 26 := ⟨by decide +kernel, rfl, by decide⟩
theorem D_X9_use_22 : Dec mi_X9_use 22 (.ldc_w 261) 3 25 := ⟨by decide +kernel, rfl⟩
theorem D_X9_use_25 : Dec mi_X9_use 25 (.ireturn) 1 26 := ⟨by decide +kernel, rfl⟩
theorem D_X9_use_26 : Dec mi_X9_use 26 (.aload_n 0) 1 27 := ⟨by decide +kernel, rfl⟩
theorem D_X9_use_27 : Dec mi_X9_use 27 (.getfield 83) 3 30 := ⟨by decide +kernel, rfl⟩
theorem D_X9_use_30 : Dec mi_X9_use 30 (.iload_n 1) 1 31 := ⟨by decide +kernel, rfl⟩
theorem D_X9_use_31 : Dec mi_X9_use 31 (.iload_n 2) 1 32 := ⟨by decide +kernel, rfl⟩
theorem D_X9_use_32 : Dec mi_X9_use 32 (.aload_n 0) 1 33 := ⟨by decide +kernel, rfl⟩
theorem D_X9_use_33 : Dec mi_X9_use 33 (.getfield 38) 3 36 := ⟨by decide +kernel, rfl⟩
theorem D_X9_use_36 : Dec mi_X9_use 36 (.invokevirtual 125) 3 39 := ⟨by decide +kernel, rfl⟩
theorem D_X9_use_39 : Dec mi_X9_use 39 (.iload_n 2) 1 40 := ⟨by decide +kernel, rfl⟩
theorem D_X9_use_40 : Dec mi_X9_use 40 (.invokestatic 128) 3 43 := ⟨by decide +kernel, rfl⟩
theorem D_X9_use_43 : Dec mi_X9_use 43 (.invokevirtual 262) 3 46 := ⟨by decide +kernel, rfl⟩
theorem D_X9_use_46 : Dec mi_X9_use 46 (.ireturn) 1 47 := ⟨by decide +kernel, rfl⟩
def f_X9_use (M : Mem) (a1 : Int32) (a2 : Int32) : Option (Int32 × Mem) := if (f_X1_isKind M a1) = 0 then (some ((-1000000 : Int32), M)) else (if (f_X8_hasThing M 3 a2) = 0 then (some ((-1000000 : Int32), M)) else ((f_X1_ask M a1 a2 (f_X9_stateOf M (f_X2_how M 14) a2)).bind fun p3 => some (p3.1, p3.2)))
theorem x_X9_use {l : Launch} {w : Wd} {M : Mem} {a1 : Int32} {a2 : Int32} {v : Int32 × Mem} (h : f_X9_use M a1 a2 = some v) : Cn l w mi_X9_use yX9_use (6) [.ref (wq w 0), .int a1, .int a2] M (some (.int v.1), v.2) :=
  Cn_of (loc0 := [some (.ref (wq w 0)), some (.int a1), some (.int a2)]) rfl rfl rfl (Nat.le_of_ble_eq_true rfl) fun κ hq => let_h (show (if (f_X1_isKind M a1) = 0 then (some ((-1000000 : Int32), M)) else (if (f_X8_hasThing M 3 a2) = 0 then (some ((-1000000 : Int32), M)) else ((f_X1_ask M a1 a2 (f_X9_stateOf M (f_X2_how M 14) a2)).bind fun p3 => some (p3.1, p3.2)))) = some v from h) fun h => r_aload_n D_X9_use_0 rfl <| r_getR (j := 34) D_X9_use_1 fl_X9_83 s_0 rfl <| r_iload_n D_X9_use_4 rfl <| r_callV (av := [.int a1]) D_X9_use_5 ml_X9_258 mf_X1_isKind mv_X1_isKind s_34 rfl rfl (x_X1_isKind rfl) (Nat.le_of_ble_eq_true rfl) rfl rfl (Nat.le_of_ble_eq_true rfl) <| r_if_eq D_X9_use_8 (fun c1 => let_h (ifT c1 h) fun h => r_ldcw D_X9_use_22 ci_X9_261 <| r_iret hq D_X9_use_25 rfl (rtW h)) (fun c1 => let_h (ifF c1 h) fun h => r_aload_n D_X9_use_11 rfl <| r_getR (j := 3) D_X9_use_12 fl_X9_19 s_0 rfl <| r_iload_n D_X9_use_15 rfl <| r_callV (av := [.int a2]) D_X9_use_16 ml_X9_122 mf_X8_hasThing mv_X8_hasThing s_3 rfl rfl (x_X8_hasThing trip_3 rfl) (Nat.le_of_ble_eq_true rfl) rfl rfl (Nat.le_of_ble_eq_true rfl) <| r_if_ne D_X9_use_19 (fun c2 => let_h (ifT c2 h) fun h => r_ldcw D_X9_use_22 ci_X9_261 <| r_iret hq D_X9_use_25 rfl (rtW h)) (fun c2 => let_h (ifF c2 h) fun h => r_aload_n D_X9_use_26 rfl <| r_getR (j := 34) D_X9_use_27 fl_X9_83 s_0 rfl <| r_iload_n D_X9_use_30 rfl <| r_iload_n D_X9_use_31 rfl <| r_aload_n D_X9_use_32 rfl <| r_getR (j := 14) D_X9_use_33 fl_X9_38 s_0 rfl <| r_callV (av := []) D_X9_use_36 ml_X9_125 mf_X2_how mv_X2_how s_14 rfl rfl (x_X2_how life_14 rfl) (Nat.le_of_ble_eq_true rfl) rfl rfl (Nat.le_of_ble_eq_true rfl) <| r_iload_n D_X9_use_39 rfl <| r_callS (av := [.int (f_X2_how M 14), .int a2]) D_X9_use_40 ml_X9_128 mf_X9_stateOf ms_X9_stateOf (x_X9_stateOf rfl) (Nat.le_of_ble_eq_true rfl) rfl rfl (Nat.le_of_ble_eq_true rfl) <| (bdE h).elim fun p3 q4 => let_h q4.2 fun h => r_callV (av := [.int a1, .int a2, .int (f_X9_stateOf M (f_X2_how M 14) a2)]) D_X9_use_43 ml_X9_262 mf_X1_ask mv_X1_ask s_34 rfl rfl (x_X1_ask q4.1) (Nat.le_of_ble_eq_true rfl) rfl rfl (Nat.le_of_ble_eq_true rfl) <| r_iret hq D_X9_use_46 rfl (rtW h)))
-- X9_imageAt
theorem D_X9_imageAt_0 : Dec mi_X9_imageAt 0 (.iload_n 1) 1 1 := ⟨by decide +kernel, rfl⟩
theorem D_X9_imageAt_1 : DecJ mi_X9_imageAt 1 (.ifCond .ne 10) (10) 4 11 := ⟨by decide +kernel, rfl, by decide⟩
theorem D_X9_imageAt_4 : Dec mi_X9_imageAt 4 (.aload_n 0) 1 5 := ⟨by decide +kernel, rfl⟩
theorem D_X9_imageAt_5 : Dec mi_X9_imageAt 5 (.getfield 42) 3 8 := ⟨by decide +kernel, rfl⟩
theorem D_X9_imageAt_8 : DecJ mi_X9_imageAt 8 (.goto 7) (7) 11 15 := ⟨by decide +kernel, rfl, by decide⟩
theorem D_X9_imageAt_11 : Dec mi_X9_imageAt 11 (.aload_n 0) 1 12 := ⟨by decide +kernel, rfl⟩
theorem D_X9_imageAt_12 : Dec mi_X9_imageAt 12 (.getfield 45) 3 15 := ⟨by decide +kernel, rfl⟩
theorem D_X9_imageAt_15 : Dec mi_X9_imageAt 15 (.areturn) 1 16 := ⟨by decide +kernel, rfl⟩
def f_X9_imageAt (M : Mem) (a1 : Int32) : Nat := if a1 = 0 then (15) else (16)
theorem x_X9_imageAt {l : Launch} {w : Wd} {M : Mem} {a1 : Int32} {v : Nat} (h : f_X9_imageAt M a1 = v) : Cn l w mi_X9_imageAt yX9_imageAt (0) [.ref (wq w 0), .int a1] M (some (.ref (wq w v)), M) :=
  Cn_of (loc0 := [some (.ref (wq w 0)), some (.int a1)]) rfl rfl rfl (Nat.le_of_ble_eq_true rfl) fun κ hq => let_h (show (if a1 = 0 then (15) else (16)) = v from h) fun h => r_iload_n D_X9_imageAt_0 rfl <| r_if_ne D_X9_imageAt_1 (fun c1 => let_h (ifT c1 h) fun h => r_aload_n D_X9_imageAt_4 rfl <| r_getR (j := 15) D_X9_imageAt_5 fl_X9_42 s_0 rfl <| r_goto D_X9_imageAt_8 <| r_aret hq D_X9_imageAt_15 rfl (rtTA h)) (fun c1 => let_h (ifF c1 h) fun h => r_aload_n D_X9_imageAt_11 rfl <| r_getR (j := 16) D_X9_imageAt_12 fl_X9_45 s_0 rfl <| r_aret hq D_X9_imageAt_15 rfl (rtTA h))
theorem imgL (M : Mem) (a : Int32) : isLife (f_X9_imageAt M a) := by
  unfold f_X9_imageAt isLife
  split <;> rfl
-- X9_keep
theorem D_X9_keep_0 : Dec mi_X9_keep 0 (.iload_n 1) 1 1 := ⟨by decide +kernel, rfl⟩
theorem D_X9_keep_1 : Dec mi_X9_keep 1 (.invokestatic 163) 3 4 := ⟨by decide +kernel, rfl⟩
theorem D_X9_keep_4 : DecJ mi_X9_keep 4 (.ifCond .ne 5) (5) 7 9 := ⟨by decide +kernel, rfl, by decide⟩
theorem D_X9_keep_7 : Dec mi_X9_keep 7 (.iconst (-1)) 1 8 := ⟨by decide +kernel, rfl⟩
theorem D_X9_keep_8 : Dec mi_X9_keep 8 (.ireturn) 1 9 := ⟨by decide +kernel, rfl⟩
theorem D_X9_keep_9 : Dec mi_X9_keep 9 (.aload_n 0) 1 10 := ⟨by decide +kernel, rfl⟩
theorem D_X9_keep_10 : Dec mi_X9_keep 10 (.iload_n 1) 1 11 := ⟨by decide +kernel, rfl⟩
theorem D_X9_keep_11 : Dec mi_X9_keep 11 (.invokevirtual 265) 3 14 := ⟨by decide +kernel, rfl⟩
theorem D_X9_keep_14 : Dec mi_X9_keep 14 (.aload_n 0) 1 15 := ⟨by decide +kernel, rfl⟩
theorem D_X9_keep_15 : Dec mi_X9_keep 15 (.getfield 38) 3 18 := ⟨by decide +kernel, rfl⟩
theorem D_X9_keep_18 : Dec mi_X9_keep 18 (.invokevirtual 269) 3 21 := ⟨by decide +kernel, rfl⟩
theorem D_X9_keep_21 : Dec mi_X9_keep 21 (.aload_n 0) 1 22 := ⟨by decide +kernel, rfl⟩
theorem D_X9_keep_22 : Dec mi_X9_keep 22 (.getfield 38) 3 25 := ⟨by decide +kernel, rfl⟩
theorem D_X9_keep_25 : Dec mi_X9_keep 25 (.invokevirtual 174) 3 28 := ⟨by decide +kernel, rfl⟩
theorem D_X9_keep_28 : Dec mi_X9_keep 28 (.ireturn) 1 29 := ⟨by decide +kernel, rfl⟩
def f_X9_keep (M : Mem) (a1 : Int32) : Option (Int32 × Mem) := if (f_X9_isBit M a1) = 0 then (some ((-1 : Int32), M)) else ((f_X2_copy M (f_X9_imageAt M a1) 14).bind fun p2 => some ((f_X2_date p2 14), p2))
theorem x_X9_keep {l : Launch} {w : Wd} {M : Mem} {a1 : Int32} {v : Int32 × Mem} (h : f_X9_keep M a1 = some v) : Cn l w mi_X9_keep yX9_keep (1) [.ref (wq w 0), .int a1] M (some (.int v.1), v.2) :=
  Cn_of (loc0 := [some (.ref (wq w 0)), some (.int a1)]) rfl rfl rfl (Nat.le_of_ble_eq_true rfl) fun κ hq => let_h (show (if (f_X9_isBit M a1) = 0 then (some ((-1 : Int32), M)) else ((f_X2_copy M (f_X9_imageAt M a1) 14).bind fun p2 => some ((f_X2_date p2 14), p2))) = some v from h) fun h => r_iload_n D_X9_keep_0 rfl <| r_callS (av := [.int a1]) D_X9_keep_1 ml_X9_163 mf_X9_isBit ms_X9_isBit (x_X9_isBit rfl) (Nat.le_of_ble_eq_true rfl) rfl rfl (Nat.le_of_ble_eq_true rfl) <| r_if_ne D_X9_keep_4 (fun c1 => let_h (ifT c1 h) fun h => r_iconst D_X9_keep_7 ki_m1 <| r_iret hq D_X9_keep_8 rfl (rtW h)) (fun c1 => let_h (ifF c1 h) fun h => r_aload_n D_X9_keep_9 rfl <| r_iload_n D_X9_keep_10 rfl <| r_callV (av := [.int a1]) D_X9_keep_11 ml_X9_265 mf_X9_imageAt mv_X9_imageAt s_0 rfl rfl (x_X9_imageAt rfl) (Nat.le_of_ble_eq_true rfl) rfl rfl (Nat.le_of_ble_eq_true rfl) <| r_aload_n D_X9_keep_14 rfl <| r_getR (j := 14) D_X9_keep_15 fl_X9_38 s_0 rfl <| (bdE h).elim fun p2 q3 => let_h q3.2 fun h => r_callV (av := [.ref (wq w 14)]) D_X9_keep_18 ml_X9_269 mf_X2_copy mv_X2_copy (imgL _ _) rfl rfl (x_X2_copy (imgL _ _) life_14 q3.1) (Nat.le_of_ble_eq_true rfl) rfl rfl (Nat.le_of_ble_eq_true rfl) <| r_aload_n D_X9_keep_21 rfl <| r_getR (j := 14) D_X9_keep_22 fl_X9_38 s_0 rfl <| r_callV (av := []) D_X9_keep_25 ml_X9_174 mf_X2_date mv_X2_date s_14 rfl rfl (x_X2_date life_14 rfl) (Nat.le_of_ble_eq_true rfl) rfl rfl (Nat.le_of_ble_eq_true rfl) <| r_iret hq D_X9_keep_28 rfl (rtW h))
-- X9_back
theorem D_X9_back_0 : Dec mi_X9_back 0 (.iload_n 1) 1 1 := ⟨by decide +kernel, rfl⟩
theorem D_X9_back_1 : Dec mi_X9_back 1 (.invokestatic 163) 3 4 := ⟨by decide +kernel, rfl⟩
theorem D_X9_back_4 : DecJ mi_X9_back 4 (.ifCond .ne 5) (5) 7 9 := ⟨by decide +kernel, rfl, by decide⟩
theorem D_X9_back_7 : Dec mi_X9_back 7 (.iconst (-1)) 1 8 := ⟨by decide +kernel, rfl⟩
theorem D_X9_back_8 : Dec mi_X9_back 8 (.ireturn) 1 9 := ⟨by decide +kernel, rfl⟩
theorem D_X9_back_9 : Dec mi_X9_back 9 (.aload_n 0) 1 10 := ⟨by decide +kernel, rfl⟩
theorem D_X9_back_10 : Dec mi_X9_back 10 (.iload_n 1) 1 11 := ⟨by decide +kernel, rfl⟩
theorem D_X9_back_11 : Dec mi_X9_back 11 (.invokevirtual 265) 3 14 := ⟨by decide +kernel, rfl⟩
theorem D_X9_back_14 : Dec mi_X9_back 14 (.astore_n 2) 1 15 := ⟨by decide +kernel, rfl⟩
theorem D_X9_back_15 : Dec mi_X9_back 15 (.aload_n 2) 1 16 := ⟨by decide +kernel, rfl⟩
theorem D_X9_back_16 : Dec mi_X9_back 16 (.invokevirtual 272) 3 19 := ⟨by decide +kernel, rfl⟩
theorem D_X9_back_19 : DecJ mi_X9_back 19 (.ifCond .ne 6) (6) 22 25 := ⟨by decide +kernel, rfl, by decide⟩
theorem D_X9_back_22 : Dec mi_X9_back 22 (.bipush (-2)) 2 24 := ⟨by decide +kernel, rfl⟩
theorem D_X9_back_24 : Dec mi_X9_back 24 (.ireturn) 1 25 := ⟨by decide +kernel, rfl⟩
theorem D_X9_back_25 : Dec mi_X9_back 25 (.aload_n 0) 1 26 := ⟨by decide +kernel, rfl⟩
theorem D_X9_back_26 : Dec mi_X9_back 26 (.getfield 38) 3 29 := ⟨by decide +kernel, rfl⟩
theorem D_X9_back_29 : Dec mi_X9_back 29 (.aload_n 2) 1 30 := ⟨by decide +kernel, rfl⟩
theorem D_X9_back_30 : Dec mi_X9_back 30 (.invokevirtual 269) 3 33 := ⟨by decide +kernel, rfl⟩
theorem D_X9_back_33 : Dec mi_X9_back 33 (.aload_n 0) 1 34 := ⟨by decide +kernel, rfl⟩
theorem D_X9_back_34 : Dec mi_X9_back 34 (.getfield 38) 3 37 := ⟨by decide +kernel, rfl⟩
theorem D_X9_back_37 : Dec mi_X9_back 37 (.invokevirtual 174) 3 40 := ⟨by decide +kernel, rfl⟩
theorem D_X9_back_40 : Dec mi_X9_back 40 (.ireturn) 1 41 := ⟨by decide +kernel, rfl⟩
def f_X9_back (M : Mem) (a1 : Int32) : Option (Int32 × Mem) := if (f_X9_isBit M a1) = 0 then (some ((-1 : Int32), M)) else ((f_X2_isKept M (f_X9_imageAt M a1)).bind fun x2 => if x2 = 0 then (some ((-2 : Int32), M)) else ((f_X2_copy M 14 (f_X9_imageAt M a1)).bind fun p5 => some ((f_X2_date p5 14), p5)))
theorem x_X9_back {l : Launch} {w : Wd} {M : Mem} {a1 : Int32} {v : Int32 × Mem} (h : f_X9_back M a1 = some v) : Cn l w mi_X9_back yX9_back (1) [.ref (wq w 0), .int a1] M (some (.int v.1), v.2) :=
  Cn_of (loc0 := [some (.ref (wq w 0)), some (.int a1), none]) rfl rfl rfl (Nat.le_of_ble_eq_true rfl) fun κ hq => let_h (show (if (f_X9_isBit M a1) = 0 then (some ((-1 : Int32), M)) else ((f_X2_isKept M (f_X9_imageAt M a1)).bind fun x2 => if x2 = 0 then (some ((-2 : Int32), M)) else ((f_X2_copy M 14 (f_X9_imageAt M a1)).bind fun p5 => some ((f_X2_date p5 14), p5)))) = some v from h) fun h => r_iload_n D_X9_back_0 rfl <| r_callS (av := [.int a1]) D_X9_back_1 ml_X9_163 mf_X9_isBit ms_X9_isBit (x_X9_isBit rfl) (Nat.le_of_ble_eq_true rfl) rfl rfl (Nat.le_of_ble_eq_true rfl) <| r_if_ne D_X9_back_4 (fun c1 => let_h (ifT c1 h) fun h => r_iconst D_X9_back_7 ki_m1 <| r_iret hq D_X9_back_8 rfl (rtW h)) (fun c1 => let_h (ifF c1 h) fun h => r_aload_n D_X9_back_9 rfl <| r_iload_n D_X9_back_10 rfl <| r_callV (av := [.int a1]) D_X9_back_11 ml_X9_265 mf_X9_imageAt mv_X9_imageAt s_0 rfl rfl (x_X9_imageAt rfl) (Nat.le_of_ble_eq_true rfl) rfl rfl (Nat.le_of_ble_eq_true rfl) <| r_astore_n D_X9_back_14 (by decide) rfl <| r_aload_n D_X9_back_15 rfl <| (bdE h).elim fun x2 q3 => let_h q3.2 fun h => r_callV (av := []) D_X9_back_16 ml_X9_272 mf_X2_isKept mv_X2_isKept (imgL _ _) rfl rfl (x_X2_isKept (imgL _ _) q3.1) (Nat.le_of_ble_eq_true rfl) rfl rfl (Nat.le_of_ble_eq_true rfl) <| r_if_ne D_X9_back_19 (fun c4 => let_h (ifT c4 h) fun h => r_bipush D_X9_back_22 k8_m2 <| r_iret hq D_X9_back_24 rfl (rtW h)) (fun c4 => let_h (ifF c4 h) fun h => r_aload_n D_X9_back_25 rfl <| r_getR (j := 14) D_X9_back_26 fl_X9_38 s_0 rfl <| r_aload_n D_X9_back_29 rfl <| (bdE h).elim fun p5 q6 => let_h q6.2 fun h => r_callV (av := [.ref (wq w (f_X9_imageAt M a1))]) D_X9_back_30 ml_X9_269 mf_X2_copy mv_X2_copy s_14 rfl rfl (x_X2_copy life_14 (imgL _ _) q6.1) (Nat.le_of_ble_eq_true rfl) rfl rfl (Nat.le_of_ble_eq_true rfl) <| r_aload_n D_X9_back_33 rfl <| r_getR (j := 14) D_X9_back_34 fl_X9_38 s_0 rfl <| r_callV (av := []) D_X9_back_37 ml_X9_174 mf_X2_date mv_X2_date s_14 rfl rfl (x_X2_date life_14 rfl) (Nat.le_of_ble_eq_true rfl) rfl rfl (Nat.le_of_ble_eq_true rfl) <| r_iret hq D_X9_back_40 rfl (rtW h)))
-- X9_count
theorem D_X9_count_0 : Dec mi_X9_count 0 (.iload_n 1) 1 1 := ⟨by decide +kernel, rfl⟩
theorem D_X9_count_1 : decode mi_X9_count.1 1 = .ok (.tableswitch 103 0 5 #[39, 47, 55, 63, 71, 87], 39) := by decide +kernel
theorem D_X9_count_40 : Dec mi_X9_count 40 (.aload_n 0) 1 41 := ⟨by decide +kernel, rfl⟩
theorem D_X9_count_41 : Dec mi_X9_count 41 (.getfield 19) 3 44 := ⟨by decide +kernel, rfl⟩
theorem D_X9_count_44 : Dec mi_X9_count 44 (.invokevirtual 276) 3 47 := ⟨by decide +kernel, rfl⟩
theorem D_X9_count_47 : Dec mi_X9_count 47 (.ireturn) 1 48 := ⟨by decide +kernel, rfl⟩
theorem D_X9_count_48 : Dec mi_X9_count 48 (.aload_n 0) 1 49 := ⟨by decide +kernel, rfl⟩
theorem D_X9_count_49 : Dec mi_X9_count 49 (.getfield 19) 3 52 := ⟨by decide +kernel, rfl⟩
theorem D_X9_count_52 : Dec mi_X9_count 52 (.invokevirtual 238) 3 55 := ⟨by decide +kernel, rfl⟩
theorem D_X9_count_55 : Dec mi_X9_count 55 (.ireturn) 1 56 := ⟨by decide +kernel, rfl⟩
theorem D_X9_count_56 : Dec mi_X9_count 56 (.aload_n 0) 1 57 := ⟨by decide +kernel, rfl⟩
theorem D_X9_count_57 : Dec mi_X9_count 57 (.getfield 76) 3 60 := ⟨by decide +kernel, rfl⟩
theorem D_X9_count_60 : Dec mi_X9_count 60 (.invokevirtual 246) 3 63 := ⟨by decide +kernel, rfl⟩
theorem D_X9_count_63 : Dec mi_X9_count 63 (.ireturn) 1 64 := ⟨by decide +kernel, rfl⟩
theorem D_X9_count_64 : Dec mi_X9_count 64 (.aload_n 0) 1 65 := ⟨by decide +kernel, rfl⟩
theorem D_X9_count_65 : Dec mi_X9_count 65 (.getfield 12) 3 68 := ⟨by decide +kernel, rfl⟩
theorem D_X9_count_68 : Dec mi_X9_count 68 (.invokevirtual 99) 3 71 := ⟨by decide +kernel, rfl⟩
theorem D_X9_count_71 : Dec mi_X9_count 71 (.ireturn) 1 72 := ⟨by decide +kernel, rfl⟩
theorem D_X9_count_72 : Dec mi_X9_count 72 (.aload_n 0) 1 73 := ⟨by decide +kernel, rfl⟩
theorem D_X9_count_73 : Dec mi_X9_count 73 (.getfield 19) 3 76 := ⟨by decide +kernel, rfl⟩
theorem D_X9_count_76 : Dec mi_X9_count 76 (.aload_n 0) 1 77 := ⟨by decide +kernel, rfl⟩
theorem D_X9_count_77 : Dec mi_X9_count 77 (.getfield 38) 3 80 := ⟨by decide +kernel, rfl⟩
theorem D_X9_count_80 : Dec mi_X9_count 80 (.invokevirtual 151) 3 83 := ⟨by decide +kernel, rfl⟩
theorem D_X9_count_83 : Dec mi_X9_count 83 (.iconst 4) 1 84 := ⟨by decide +kernel, rfl⟩
theorem D_X9_count_84 : Dec mi_X9_count 84 (.invokevirtual 213) 3 87 := ⟨by decide +kernel, rfl⟩
theorem D_X9_count_87 : Dec mi_X9_count 87 (.ireturn) 1 88 := ⟨by decide +kernel, rfl⟩
theorem D_X9_count_88 : Dec mi_X9_count 88 (.aload_n 0) 1 89 := ⟨by decide +kernel, rfl⟩
theorem D_X9_count_89 : Dec mi_X9_count 89 (.getfield 19) 3 92 := ⟨by decide +kernel, rfl⟩
theorem D_X9_count_92 : Dec mi_X9_count 92 (.aload_n 0) 1 93 := ⟨by decide +kernel, rfl⟩
theorem D_X9_count_93 : Dec mi_X9_count 93 (.getfield 38) 3 96 := ⟨by decide +kernel, rfl⟩
theorem D_X9_count_96 : Dec mi_X9_count 96 (.invokevirtual 151) 3 99 := ⟨by decide +kernel, rfl⟩
theorem D_X9_count_99 : Dec mi_X9_count 99 (.iconst 3) 1 100 := ⟨by decide +kernel, rfl⟩
theorem D_X9_count_100 : Dec mi_X9_count 100 (.invokevirtual 213) 3 103 := ⟨by decide +kernel, rfl⟩
theorem D_X9_count_103 : Dec mi_X9_count 103 (.ireturn) 1 104 := ⟨by decide +kernel, rfl⟩
theorem D_X9_count_104 : Dec mi_X9_count 104 (.iconst (-1)) 1 105 := ⟨by decide +kernel, rfl⟩
theorem D_X9_count_105 : Dec mi_X9_count 105 (.ireturn) 1 106 := ⟨by decide +kernel, rfl⟩
def f_X9_count (F : Nat) (M : Mem) (a1 : Int32) : Option Int32 := if a1 = (0 : Int32) then (some (f_X8_things M 3)) else (if a1 = (1 : Int32) then (some (f_X8_days M 3)) else (if a1 = (2 : Int32) then (some (f_X3_size M)) else (if a1 = (3 : Int32) then (some (f_X7_length M)) else (if a1 = (4 : Int32) then ((f_X8_sum F M 3 (f_X2_set M 14) (4 : Int32)).bind fun x6 => some x6) else (if a1 = (5 : Int32) then ((f_X8_sum F M 3 (f_X2_set M 14) (3 : Int32)).bind fun x9 => some x9) else (some (-1 : Int32)))))))
theorem x_X9_count {l : Launch} {w : Wd} {F : Nat} {M : Mem} {a1 : Int32} {v : Int32} (h : f_X9_count F M a1 = some v) : Cn l w mi_X9_count yX9_count (3) [.ref (wq w 0), .int a1] M (some (.int v), M) :=
  Cn_of (loc0 := [some (.ref (wq w 0)), some (.int a1)]) rfl rfl rfl (Nat.le_of_ble_eq_true rfl) fun κ hq => let_h (show (if a1 = (0 : Int32) then (some (f_X8_things M 3)) else (if a1 = (1 : Int32) then (some (f_X8_days M 3)) else (if a1 = (2 : Int32) then (some (f_X3_size M)) else (if a1 = (3 : Int32) then (some (f_X7_length M)) else (if a1 = (4 : Int32) then ((f_X8_sum F M 3 (f_X2_set M 14) (4 : Int32)).bind fun x6 => some x6) else (if a1 = (5 : Int32) then ((f_X8_sum F M 3 (f_X2_set M 14) (3 : Int32)).bind fun x9 => some x9) else (some (-1 : Int32)))))))) = some v from h) fun h => r_iload_n D_X9_count_0 rfl <| dcs (fun c1 => let_h (ifT c1 h) fun h => r_tabEq (off := 39) (t := 40) c1 D_X9_count_1 (by decide) (by decide) <| r_aload_n D_X9_count_40 rfl <| r_getR (j := 3) D_X9_count_41 fl_X9_19 s_0 rfl <| r_callV (av := []) D_X9_count_44 ml_X9_276 mf_X8_things mv_X8_things s_3 rfl rfl (x_X8_things trip_3 rfl) (Nat.le_of_ble_eq_true rfl) rfl rfl (Nat.le_of_ble_eq_true rfl) <| r_iret hq D_X9_count_47 rfl (rtP h)) (fun c1 => let_h (ifF c1 h) fun h => dcs (fun c2 => let_h (ifT c2 h) fun h => r_tabEq (off := 47) (t := 48) c2 D_X9_count_1 (by decide) (by decide) <| r_aload_n D_X9_count_48 rfl <| r_getR (j := 3) D_X9_count_49 fl_X9_19 s_0 rfl <| r_callV (av := []) D_X9_count_52 ml_X9_238 mf_X8_days mv_X8_days s_3 rfl rfl (x_X8_days trip_3 rfl) (Nat.le_of_ble_eq_true rfl) rfl rfl (Nat.le_of_ble_eq_true rfl) <| r_iret hq D_X9_count_55 rfl (rtP h)) (fun c2 => let_h (ifF c2 h) fun h => dcs (fun c3 => let_h (ifT c3 h) fun h => r_tabEq (off := 55) (t := 56) c3 D_X9_count_1 (by decide) (by decide) <| r_aload_n D_X9_count_56 rfl <| r_getR (j := 32) D_X9_count_57 fl_X9_76 s_0 rfl <| r_callV (av := []) D_X9_count_60 ml_X9_246 mf_X3_size mv_X3_size s_32 rfl rfl (x_X3_size rfl) (Nat.le_of_ble_eq_true rfl) rfl rfl (Nat.le_of_ble_eq_true rfl) <| r_iret hq D_X9_count_63 rfl (rtP h)) (fun c3 => let_h (ifF c3 h) fun h => dcs (fun c4 => let_h (ifT c4 h) fun h => r_tabEq (off := 63) (t := 64) c4 D_X9_count_1 (by decide) (by decide) <| r_aload_n D_X9_count_64 rfl <| r_getR (j := 1) D_X9_count_65 fl_X9_12 s_0 rfl <| r_callV (av := []) D_X9_count_68 ml_X9_99 mf_X7_length mv_X7_length s_1 rfl rfl (x_X7_length rfl) (Nat.le_of_ble_eq_true rfl) rfl rfl (Nat.le_of_ble_eq_true rfl) <| r_iret hq D_X9_count_71 rfl (rtP h)) (fun c4 => let_h (ifF c4 h) fun h => dcs (fun c5 => let_h (ifT c5 h) fun h => r_tabEq (off := 71) (t := 72) c5 D_X9_count_1 (by decide) (by decide) <| r_aload_n D_X9_count_72 rfl <| r_getR (j := 3) D_X9_count_73 fl_X9_19 s_0 rfl <| r_aload_n D_X9_count_76 rfl <| r_getR (j := 14) D_X9_count_77 fl_X9_38 s_0 rfl <| r_callV (av := []) D_X9_count_80 ml_X9_151 mf_X2_set mv_X2_set s_14 rfl rfl (x_X2_set life_14 rfl) (Nat.le_of_ble_eq_true rfl) rfl rfl (Nat.le_of_ble_eq_true rfl) <| r_iconst D_X9_count_83 ki_4 <| (bdE h).elim fun x6 q7 => let_h q7.2 fun h => r_callV (av := [.int (f_X2_set M 14), .int (4 : Int32)]) D_X9_count_84 ml_X9_213 mf_X8_sum mv_X8_sum s_3 rfl rfl (x_X8_sum trip_3 q7.1) (Nat.le_of_ble_eq_true rfl) rfl rfl (Nat.le_of_ble_eq_true rfl) <| r_iret hq D_X9_count_87 rfl (rtP h)) (fun c5 => let_h (ifF c5 h) fun h => dcs (fun c8 => let_h (ifT c8 h) fun h => r_tabEq (off := 87) (t := 88) c8 D_X9_count_1 (by decide) (by decide) <| r_aload_n D_X9_count_88 rfl <| r_getR (j := 3) D_X9_count_89 fl_X9_19 s_0 rfl <| r_aload_n D_X9_count_92 rfl <| r_getR (j := 14) D_X9_count_93 fl_X9_38 s_0 rfl <| r_callV (av := []) D_X9_count_96 ml_X9_151 mf_X2_set mv_X2_set s_14 rfl rfl (x_X2_set life_14 rfl) (Nat.le_of_ble_eq_true rfl) rfl rfl (Nat.le_of_ble_eq_true rfl) <| r_iconst D_X9_count_99 ki_3 <| (bdE h).elim fun x9 q10 => let_h q10.2 fun h => r_callV (av := [.int (f_X2_set M 14), .int (3 : Int32)]) D_X9_count_100 ml_X9_213 mf_X8_sum mv_X8_sum s_3 rfl rfl (x_X8_sum trip_3 q10.1) (Nat.le_of_ble_eq_true rfl) rfl rfl (Nat.le_of_ble_eq_true rfl) <| r_iret hq D_X9_count_103 rfl (rtP h)) (fun c8 => let_h (ifF c8 h) fun h => r_tabOut (t := 104) D_X9_count_1 (NE.out (k := 6) ⟨⟨⟨⟨⟨⟨trivial, c1⟩, c2⟩, c3⟩, c4⟩, c5⟩, c8⟩ (by decide)) (by decide) <| r_iconst D_X9_count_104 ki_m1 <| r_iret hq D_X9_count_105 rfl (rtP h)))))))
-- X9_trace
theorem D_X9_trace_0 : Dec mi_X9_trace 0 (.aload_n 0) 1 1 := ⟨by decide +kernel, rfl⟩
theorem D_X9_trace_1 : Dec mi_X9_trace 1 (.getfield 83) 3 4 := ⟨by decide +kernel, rfl⟩
theorem D_X9_trace_4 : Dec mi_X9_trace 4 (.invokevirtual 279) 3 7 := ⟨by decide +kernel, rfl⟩
theorem D_X9_trace_7 : Dec mi_X9_trace 7 (.lreturn) 1 8 := ⟨by decide +kernel, rfl⟩
def f_X9_trace (M : Mem) : Int64 := (f_X1_asked M)
theorem x_X9_trace {l : Launch} {w : Wd} {M : Mem} {v : Int64} (h : f_X9_trace M = v) : Cn l w mi_X9_trace yX9_trace (1) [.ref (wq w 0)] M (some (.long v), M) :=
  Cn_of (loc0 := [some (.ref (wq w 0))]) rfl rfl rfl (Nat.le_of_ble_eq_true rfl) fun κ hq => let_h (show ((f_X1_asked M)) = v from h) fun h => r_aload_n D_X9_trace_0 rfl <| r_getR (j := 34) D_X9_trace_1 fl_X9_83 s_0 rfl <| r_callV (av := []) D_X9_trace_4 ml_X9_279 mf_X1_asked mv_X1_asked s_34 rfl rfl (x_X1_asked rfl) (Nat.le_of_ble_eq_true rfl) rfl rfl (Nat.le_of_ble_eq_true rfl) <| r_lret hq D_X9_trace_7 rfl (rtTL h)
-- X10_in
theorem D_X10_in_0 : Dec mi_X10_in 0 (.iload_n 0) 1 1 := ⟨by decide +kernel, rfl⟩
theorem D_X10_in_1 : Dec mi_X10_in 1 (.iload_n 1) 1 2 := ⟨by decide +kernel, rfl⟩
theorem D_X10_in_2 : DecJ mi_X10_in 2 (.if_icmp .lt 12) (12) 5 14 := ⟨by decide +kernel, rfl, by decide⟩
theorem D_X10_in_5 : Dec mi_X10_in 5 (.iload_n 0) 1 6 := ⟨by decide +kernel, rfl⟩
theorem D_X10_in_6 : Dec mi_X10_in 6 (.iload_n 2) 1 7 := ⟨by decide +kernel, rfl⟩
theorem D_X10_in_7 : DecJ mi_X10_in 7 (.if_icmp .gt 7) (7) 10 14 := ⟨by decide +kernel, rfl, by decide⟩
theorem D_X10_in_10 : Dec mi_X10_in 10 (.iconst 1) 1 11 := ⟨by decide +kernel, rfl⟩
theorem D_X10_in_11 : DecJ mi_X10_in 11 (.goto 4) (4) 14 15 := ⟨by decide +kernel, rfl, by decide⟩
theorem D_X10_in_14 : Dec mi_X10_in 14 (.iconst 0) 1 15 := ⟨by decide +kernel, rfl⟩
theorem D_X10_in_15 : Dec mi_X10_in 15 (.ireturn) 1 16 := ⟨by decide +kernel, rfl⟩
def f_X10_in (M : Mem) (a1 : Int32) (a2 : Int32) (a3 : Int32) : Int32 := if a1 < a2 then ((0 : Int32)) else (if a3 < a1 then ((0 : Int32)) else ((1 : Int32)))
theorem x_X10_in {l : Launch} {w : Wd} {M : Mem} {a1 : Int32} {a2 : Int32} {a3 : Int32} {v : Int32} (h : f_X10_in M a1 a2 a3 = v) : Cn l w mi_X10_in yX10_in (0) [.int a1, .int a2, .int a3] M (some (.int v), M) :=
  Cn_of (loc0 := [some (.int a1), some (.int a2), some (.int a3)]) rfl rfl rfl (Nat.le_of_ble_eq_true rfl) fun κ hq => let_h (show (if a1 < a2 then ((0 : Int32)) else (if a3 < a1 then ((0 : Int32)) else ((1 : Int32)))) = v from h) fun h => r_iload_n D_X10_in_0 rfl <| r_iload_n D_X10_in_1 rfl <| r_icmp_lt D_X10_in_2 (fun c1 => let_h (ifT c1 h) fun h => r_iconst D_X10_in_14 ki_0 <| r_zret hq D_X10_in_15 rfl rfl (rtT h)) (fun c1 => let_h (ifF c1 h) fun h => r_iload_n D_X10_in_5 rfl <| r_iload_n D_X10_in_6 rfl <| r_icmp_gt D_X10_in_7 (fun c2 => let_h (ifT c2 h) fun h => r_iconst D_X10_in_14 ki_0 <| r_zret hq D_X10_in_15 rfl rfl (rtT h)) (fun c2 => let_h (ifF c2 h) fun h => r_iconst D_X10_in_10 ki_1 <| r_goto D_X10_in_11 <| r_zret hq D_X10_in_15 rfl rfl (rtT h)))
-- X10_type
theorem D_X10_type_0 : Dec mi_X10_type 0 (.iload_n 3) 1 1 := ⟨by decide +kernel, rfl⟩
theorem D_X10_type_1 : Dec mi_X10_type 1 (.iconst 1) 1 2 := ⟨by decide +kernel, rfl⟩
theorem D_X10_type_2 : Dec mi_X10_type 2 (.bipush 8) 2 4 := ⟨by decide +kernel, rfl⟩
theorem D_X10_type_4 : Dec mi_X10_type 4 (.invokestatic 78) 3 7 := ⟨by decide +kernel, rfl⟩
theorem D_X10_type_7 : DecJ mi_X10_type 7 (.ifCond .ne 5) (5) 10 12 := ⟨by decide +kernel, rfl, by decide⟩
theorem D_X10_type_10 : Dec mi_X10_type 10 (.iconst (-1)) 1 11 := ⟨by decide +kernel, rfl⟩
theorem D_X10_type_11 : Dec mi_X10_type 11 (.ireturn) 1 12 := ⟨by decide +kernel, rfl⟩
theorem D_X10_type_12 : Dec mi_X10_type 12 (.aload_n 0) 1 13 := ⟨by decide +kernel, rfl⟩
theorem D_X10_type_13 : Dec mi_X10_type 13 (.getfield 82) 3 16 := ⟨by decide +kernel, rfl⟩
theorem D_X10_type_16 : Dec mi_X10_type 16 (.iload_n 3) 1 17 := ⟨by decide +kernel, rfl⟩
theorem D_X10_type_17 : Dec mi_X10_type 17 (.iadd) 1 18 := ⟨by decide +kernel, rfl⟩
theorem D_X10_type_18 : Dec mi_X10_type 18 (.sipush 500) 3 21 := ⟨by decide +kernel, rfl⟩
theorem D_X10_type_21 : DecJ mi_X10_type 21 (.if_icmp .le 6) (6) 24 27 := ⟨by decide +kernel, rfl, by decide⟩
theorem D_X10_type_24 : Dec mi_X10_type 24 (.bipush (-3)) 2 26 := ⟨by decide +kernel, rfl⟩
theorem D_X10_type_26 : Dec mi_X10_type 26 (.ireturn) 1 27 := ⟨by decide +kernel, rfl⟩
theorem D_X10_type_27 : Dec mi_X10_type 27 (.iload_n 3) 1 28 := ⟨by decide +kernel, rfl⟩
theorem D_X10_type_28 : Dec mi_X10_type 28 (.iconst 1) 1 29 := ⟨by decide +kernel, rfl⟩
theorem D_X10_type_29 : Dec mi_X10_type 29 (.isub) 1 30 := ⟨by decide +kernel, rfl⟩
theorem D_X10_type_30 : Dec mi_X10_type 30 (.istore 4) 2 32 := ⟨by decide +kernel, rfl⟩
theorem D_X10_type_32 : Dec mi_X10_type 32 (.iload 4) 2 34 := ⟨by decide +kernel, rfl⟩
theorem D_X10_type_34 : DecJ mi_X10_type 34 (.ifCond .lt 41) (41) 37 75 := ⟨by decide +kernel, rfl, by decide⟩
theorem D_X10_type_37 : Dec mi_X10_type 37 (.aload_n 0) 1 38 := ⟨by decide +kernel, rfl⟩
theorem D_X10_type_38 : Dec mi_X10_type 38 (.getfield 7) 3 41 := ⟨by decide +kernel, rfl⟩
theorem D_X10_type_41 : Dec mi_X10_type 41 (.aload_n 0) 1 42 := ⟨by decide +kernel, rfl⟩
theorem D_X10_type_42 : Dec mi_X10_type 42 (.getfield 82) 3 45 := ⟨by decide +kernel, rfl⟩
theorem D_X10_type_45 : Dec mi_X10_type 45 (.lload_n 1) 1 46 := ⟨by decide +kernel, rfl⟩
theorem D_X10_type_46 : Dec mi_X10_type 46 (.bipush 8) 2 48 := ⟨by decide +kernel, rfl⟩
theorem D_X10_type_48 : Dec mi_X10_type 48 (.iload 4) 2 50 := ⟨by decide +kernel, rfl⟩
theorem D_X10_type_50 : Dec mi_X10_type 50 (.imul) 1 51 := ⟨by decide +kernel, rfl⟩
theorem D_X10_type_51 : Dec mi_X10_type 51 (.lshr) 1 52 := ⟨by decide +kernel, rfl⟩
theorem D_X10_type_52 : Dec mi_X10_type 52 (.ldc2_w 86) 3 55 := ⟨by decide +kernel, rfl⟩
theorem D_X10_type_55 : Dec mi_X10_type 55 (.land) 1 56 := ⟨by decide +kernel, rfl⟩
theorem D_X10_type_56 : Dec mi_X10_type 56 (.l2i) 1 57 := ⟨by decide +kernel, rfl⟩
theorem D_X10_type_57 : Dec mi_X10_type 57 (.i2b) 1 58 := ⟨by decide +kernel, rfl⟩
theorem D_X10_type_58 : Dec mi_X10_type 58 (.bastore) 1 59 := ⟨by decide +kernel, rfl⟩
theorem D_X10_type_59 : Dec mi_X10_type 59 (.aload_n 0) 1 60 := ⟨by decide +kernel, rfl⟩
theorem D_X10_type_60 : Dec mi_X10_type 60 (.dup) 1 61 := ⟨by decide +kernel, rfl⟩
theorem D_X10_type_61 : Dec mi_X10_type 61 (.getfield 82) 3 64 := ⟨by decide +kernel, rfl⟩
theorem D_X10_type_64 : Dec mi_X10_type 64 (.iconst 1) 1 65 := ⟨by decide +kernel, rfl⟩
theorem D_X10_type_65 : Dec mi_X10_type 65 (.iadd) 1 66 := ⟨by decide +kernel, rfl⟩
theorem D_X10_type_66 : Dec mi_X10_type 66 (.putfield 82) 3 69 := ⟨by decide +kernel, rfl⟩
theorem D_X10_type_69 : Dec mi_X10_type 69 (.iinc 4 (-1)) 3 72 := ⟨by decide +kernel, rfl⟩
theorem D_X10_type_72 : DecJ mi_X10_type 72 (.goto (-40)) (-40) 75 32 := ⟨by decide +kernel, rfl, by decide⟩
theorem D_X10_type_75 : Dec mi_X10_type 75 (.aload_n 0) 1 76 := ⟨by decide +kernel, rfl⟩
theorem D_X10_type_76 : Dec mi_X10_type 76 (.getfield 82) 3 79 := ⟨by decide +kernel, rfl⟩
theorem D_X10_type_79 : Dec mi_X10_type 79 (.ireturn) 1 80 := ⟨by decide +kernel, rfl⟩
def f_X10_type_32 (F : Nat) : Nat → Int64 → Int32 → Mem → Option (Int32 × Mem)
  | 0, _, _, _ => none
  | n + 1, y1, y4, N => if y4 < 0 then (some ((N.1 36 2), N)) else (if ck (N.1 36 2) 500 = true then (vlet (setI N 37 (N.1 36 2).toNatClampNeg ((((y1 >>> (((8 : Int32) * y4).toInt64 &&& 63)) &&& (255 : Int64)).toInt32).toInt8.toInt32).toInt8.toInt32) fun M3 => vlet (setI M3 36 2 ((M3.1 36 2) + (1 : Int32))) fun M4 => f_X10_type_32 F n y1 (y4 + (-1 : Int32)) M4) else none)
theorem x_X10_type_32 {l : Launch} {w : Wd} {κ : Kp} {F : Nat} {v : Int32 × Mem} (hq : RQ w (some (.int v.1), v.2) κ) : ∀ (n : Nat) (y1 : Int64) (y4 : Int32) (N : Mem), f_X10_type_32 F n y1 y4 N = some v → RR l w mi_X10_type (1) κ 32 [] [some (.ref (wq w 36)), some (.long y1), none, none, some (.int y4)] N
  | 0, _, _, _, h => nomatch h
  | n + 1, y1, y4, N, h => let_h (show (if y4 < 0 then (some ((N.1 36 2), N)) else (if ck (N.1 36 2) 500 = true then (vlet (setI N 37 (N.1 36 2).toNatClampNeg ((((y1 >>> (((8 : Int32) * y4).toInt64 &&& 63)) &&& (255 : Int64)).toInt32).toInt8.toInt32).toInt8.toInt32) fun M3 => vlet (setI M3 36 2 ((M3.1 36 2) + (1 : Int32))) fun M4 => f_X10_type_32 F n y1 (y4 + (-1 : Int32)) M4) else none)) = some v from h) fun h => r_iload D_X10_type_32 rfl <| r_if_lt D_X10_type_34 (fun c1 => let_h (ifT c1 h) fun h => r_aload_n D_X10_type_75 rfl <| r_getI D_X10_type_76 fl_X10_82 s_36 rfl <| r_iret hq D_X10_type_79 rfl (rtW h)) (fun c1 => let_h (ifF c1 h) fun h => r_aload_n D_X10_type_37 rfl <| r_getR (j := 37) D_X10_type_38 fl_X10_7 s_36 rfl <| r_aload_n D_X10_type_41 rfl <| r_getI D_X10_type_42 fl_X10_82 s_36 rfl <| r_lload_n D_X10_type_45 rfl <| r_bipush D_X10_type_46 k8_8 <| r_iload D_X10_type_48 rfl <| r_imul D_X10_type_50 <| r_lshr D_X10_type_51 <| r_ldc2 D_X10_type_52 cl_X10_86 <| r_land D_X10_type_55 <| r_l2i D_X10_type_56 <| r_i2b D_X10_type_57 <| (ckE h).elim fun c2 h => r_bast D_X10_type_58 s_37 c2 <| mlE h fun M3 h => r_aload_n D_X10_type_59 rfl <| r_dup D_X10_type_60 rfl <| r_getI D_X10_type_61 fl_X10_82 s_36 rfl <| r_iconst D_X10_type_64 ki_1 <| r_iadd D_X10_type_65 <| r_putI D_X10_type_66 fp_X10_82 s_36 rfl rfl rfl <| mlE h fun M4 h => r_iinc D_X10_type_69 rfl ki_m1 (by decide) rfl <| r_goto D_X10_type_72 <| r_ls (x_X10_type_32 hq n y1 (y4 + (-1 : Int32)) M4 h) ⟨rfl, ⟨rfl, ⟨rfl, trivial⟩⟩⟩)
def f_X10_type (F : Nat) (M : Mem) (a1 : Int64) (a2 : Int32) : Option (Int32 × Mem) := if (f_X10_in M a2 (1 : Int32) (8 : Int32)) = 0 then (some ((-1 : Int32), M)) else (if ((M.1 36 2) + a2) ≤ (500 : Int32) then (f_X10_type_32 F F a1 (a2 - (1 : Int32)) M) else (some ((-3 : Int32), M)))
theorem x_X10_type {l : Launch} {w : Wd} {F : Nat} {M : Mem} {a1 : Int64} {a2 : Int32} {v : Int32 × Mem} (h : f_X10_type F M a1 a2 = some v) : Cn l w mi_X10_type yX10_type (1) [.ref (wq w 36), .long a1, .int a2] M (some (.int v.1), v.2) :=
  Cn_of (loc0 := [some (.ref (wq w 36)), some (.long a1), none, some (.int a2), none]) rfl rfl rfl (Nat.le_of_ble_eq_true rfl) fun κ hq => let_h (show (if (f_X10_in M a2 (1 : Int32) (8 : Int32)) = 0 then (some ((-1 : Int32), M)) else (if ((M.1 36 2) + a2) ≤ (500 : Int32) then (f_X10_type_32 F F a1 (a2 - (1 : Int32)) M) else (some ((-3 : Int32), M)))) = some v from h) fun h => r_iload_n D_X10_type_0 rfl <| r_iconst D_X10_type_1 ki_1 <| r_bipush D_X10_type_2 k8_8 <| r_callS (av := [.int a2, .int (1 : Int32), .int (8 : Int32)]) D_X10_type_4 ml_X10_78 mf_X10_in ms_X10_in (x_X10_in rfl) (Nat.le_of_ble_eq_true rfl) rfl rfl (Nat.le_of_ble_eq_true rfl) <| r_if_ne D_X10_type_7 (fun c1 => let_h (ifT c1 h) fun h => r_iconst D_X10_type_10 ki_m1 <| r_iret hq D_X10_type_11 rfl (rtW h)) (fun c1 => let_h (ifF c1 h) fun h => r_aload_n D_X10_type_12 rfl <| r_getI D_X10_type_13 fl_X10_82 s_36 rfl <| r_iload_n D_X10_type_16 rfl <| r_iadd D_X10_type_17 <| r_sipush D_X10_type_18 k16_500 <| r_icmp_le D_X10_type_21 (fun c2 => let_h (ifT c2 h) fun h => r_iload_n D_X10_type_27 rfl <| r_iconst D_X10_type_28 ki_1 <| r_isub D_X10_type_29 <| r_istore D_X10_type_30 (by decide) rfl <| r_ls (x_X10_type_32 hq F a1 (a2 - (1 : Int32)) M h) ⟨rfl, ⟨rfl, ⟨rfl, trivial⟩⟩⟩) (fun c2 => let_h (ifF c2 h) fun h => r_bipush D_X10_type_24 k8_m3 <| r_iret hq D_X10_type_26 rfl (rtW h)))
-- X10_clear
theorem D_X10_clear_0 : Dec mi_X10_clear 0 (.aload_n 0) 1 1 := ⟨by decide +kernel, rfl⟩
theorem D_X10_clear_1 : Dec mi_X10_clear 1 (.getfield 82) 3 4 := ⟨by decide +kernel, rfl⟩
theorem D_X10_clear_4 : Dec mi_X10_clear 4 (.istore_n 1) 1 5 := ⟨by decide +kernel, rfl⟩
theorem D_X10_clear_5 : Dec mi_X10_clear 5 (.aload_n 0) 1 6 := ⟨by decide +kernel, rfl⟩
theorem D_X10_clear_6 : Dec mi_X10_clear 6 (.iconst 0) 1 7 := ⟨by decide +kernel, rfl⟩
theorem D_X10_clear_7 : Dec mi_X10_clear 7 (.putfield 82) 3 10 := ⟨by decide +kernel, rfl⟩
theorem D_X10_clear_10 : Dec mi_X10_clear 10 (.iload_n 1) 1 11 := ⟨by decide +kernel, rfl⟩
theorem D_X10_clear_11 : Dec mi_X10_clear 11 (.ireturn) 1 12 := ⟨by decide +kernel, rfl⟩
def f_X10_clear (M : Mem) : Option (Int32 × Mem) := vlet (setI M 36 2 (0 : Int32)) fun M1 => some ((M.1 36 2), M1)
theorem x_X10_clear {l : Launch} {w : Wd} {M : Mem} {v : Int32 × Mem} (h : f_X10_clear M = some v) : Cn l w mi_X10_clear yX10_clear (0) [.ref (wq w 36)] M (some (.int v.1), v.2) :=
  Cn_of (loc0 := [some (.ref (wq w 36)), none]) rfl rfl rfl (Nat.le_of_ble_eq_true rfl) fun κ hq => let_h (show (vlet (setI M 36 2 (0 : Int32)) fun M1 => some ((M.1 36 2), M1)) = some v from h) fun h => r_aload_n D_X10_clear_0 rfl <| r_getI D_X10_clear_1 fl_X10_82 s_36 rfl <| r_istore_n D_X10_clear_4 (by decide) rfl <| r_aload_n D_X10_clear_5 rfl <| r_iconst D_X10_clear_6 ki_0 <| r_putI D_X10_clear_7 fp_X10_82 s_36 rfl rfl rfl <| mlE h fun M1 h => r_iload_n D_X10_clear_10 rfl <| r_iret hq D_X10_clear_11 rfl (rtW h)
-- X10_here
theorem D_X10_here_0 : Dec mi_X10_here 0 (.aload_n 0) 1 1 := ⟨by decide +kernel, rfl⟩
theorem D_X10_here_1 : Dec mi_X10_here 1 (.getfield 88) 3 4 := ⟨by decide +kernel, rfl⟩
theorem D_X10_here_4 : Dec mi_X10_here 4 (.aload_n 0) 1 5 := ⟨by decide +kernel, rfl⟩
theorem D_X10_here_5 : Dec mi_X10_here 5 (.getfield 82) 3 8 := ⟨by decide +kernel, rfl⟩
theorem D_X10_here_8 : DecJ mi_X10_here 8 (.if_icmp .ge 19) (19) 11 27 := ⟨by decide +kernel, rfl, by decide⟩
theorem D_X10_here_11 : Dec mi_X10_here 11 (.aload_n 0) 1 12 := ⟨by decide +kernel, rfl⟩
theorem D_X10_here_12 : Dec mi_X10_here 12 (.getfield 7) 3 15 := ⟨by decide +kernel, rfl⟩
theorem D_X10_here_15 : Dec mi_X10_here 15 (.aload_n 0) 1 16 := ⟨by decide +kernel, rfl⟩
theorem D_X10_here_16 : Dec mi_X10_here 16 (.getfield 88) 3 19 := ⟨by decide +kernel, rfl⟩
theorem D_X10_here_19 : Dec mi_X10_here 19 (.baload) 1 20 := ⟨by decide +kernel, rfl⟩
theorem D_X10_here_20 : Dec mi_X10_here 20 (.sipush 255) 3 23 := ⟨by decide +kernel, rfl⟩
theorem D_X10_here_23 : Dec mi_X10_here 23 (.iand) 1 24 := ⟨by decide +kernel, rfl⟩
theorem D_X10_here_24 : DecJ mi_X10_here 24 (.goto 4) (4) 27 28 := ⟨by decide +kernel, rfl, by decide⟩
theorem D_X10_here_27 : Dec mi_X10_here 27 (.iconst (-1)) 1 28 := ⟨by decide +kernel, rfl⟩
theorem D_X10_here_28 : Dec mi_X10_here 28 (.ireturn) 1 29 := ⟨by decide +kernel, rfl⟩
def f_X10_here (M : Mem) : Option Int32 := if (M.1 36 2) ≤ (M.1 36 9) then (some (-1 : Int32)) else (if ck (M.1 36 9) 500 = true then (some ((M.1 37 (M.1 36 9).toNatClampNeg) &&& (255 : Int32))) else none)
theorem x_X10_here {l : Launch} {w : Wd} {M : Mem} {v : Int32} (h : f_X10_here M = some v) : Cn l w mi_X10_here yX10_here (0) [.ref (wq w 36)] M (some (.int v), M) :=
  Cn_of (loc0 := [some (.ref (wq w 36))]) rfl rfl rfl (Nat.le_of_ble_eq_true rfl) fun κ hq => let_h (show (if (M.1 36 2) ≤ (M.1 36 9) then (some (-1 : Int32)) else (if ck (M.1 36 9) 500 = true then (some ((M.1 37 (M.1 36 9).toNatClampNeg) &&& (255 : Int32))) else none)) = some v from h) fun h => r_aload_n D_X10_here_0 rfl <| r_getI D_X10_here_1 fl_X10_88 s_36 rfl <| r_aload_n D_X10_here_4 rfl <| r_getI D_X10_here_5 fl_X10_82 s_36 rfl <| r_icmp_ge D_X10_here_8 (fun c1 => let_h (ifT c1 h) fun h => r_iconst D_X10_here_27 ki_m1 <| r_iret hq D_X10_here_28 rfl (rtP h)) (fun c1 => let_h (ifF c1 h) fun h => r_aload_n D_X10_here_11 rfl <| r_getR (j := 37) D_X10_here_12 fl_X10_7 s_36 rfl <| r_aload_n D_X10_here_15 rfl <| r_getI D_X10_here_16 fl_X10_88 s_36 rfl <| (ckE h).elim fun c2 h => r_bald D_X10_here_19 s_37 c2 <| r_sipush D_X10_here_20 k16_255 <| r_iand D_X10_here_23 <| r_goto D_X10_here_24 <| r_iret hq D_X10_here_28 rfl (rtP h))
-- X10_meaning
theorem D_X10_meaning_0 : Dec mi_X10_meaning 0 (.iload_n 0) 1 1 := ⟨by decide +kernel, rfl⟩
theorem D_X10_meaning_1 : decode mi_X10_meaning.1 1 = .ok (.lookupswitch 93 #[(2968, 85), (15001, 75), (70031, 79), (237470, 81), (355280, 90), (453959, 87), (847604, 83), (37078087, 77)], 75) := by decide +kernel
theorem D_X10_meaning_76 : Dec mi_X10_meaning 76 (.iconst 0) 1 77 := ⟨by decide +kernel, rfl⟩
theorem D_X10_meaning_77 : Dec mi_X10_meaning 77 (.ireturn) 1 78 := ⟨by decide +kernel, rfl⟩
theorem D_X10_meaning_78 : Dec mi_X10_meaning 78 (.iconst 1) 1 79 := ⟨by decide +kernel, rfl⟩
theorem D_X10_meaning_79 : Dec mi_X10_meaning 79 (.ireturn) 1 80 := ⟨by decide +kernel, rfl⟩
theorem D_X10_meaning_80 : Dec mi_X10_meaning 80 (.iconst 2) 1 81 := ⟨by decide +kernel, rfl⟩
theorem D_X10_meaning_81 : Dec mi_X10_meaning 81 (.ireturn) 1 82 := ⟨by decide +kernel, rfl⟩
theorem D_X10_meaning_82 : Dec mi_X10_meaning 82 (.iconst 3) 1 83 := ⟨by decide +kernel, rfl⟩
theorem D_X10_meaning_83 : Dec mi_X10_meaning 83 (.ireturn) 1 84 := ⟨by decide +kernel, rfl⟩
theorem D_X10_meaning_84 : Dec mi_X10_meaning 84 (.iconst 4) 1 85 := ⟨by decide +kernel, rfl⟩
theorem D_X10_meaning_85 : Dec mi_X10_meaning 85 (.ireturn) 1 86 := ⟨by decide +kernel, rfl⟩
theorem D_X10_meaning_86 : Dec mi_X10_meaning 86 (.iconst 5) 1 87 := ⟨by decide +kernel, rfl⟩
theorem D_X10_meaning_87 : Dec mi_X10_meaning 87 (.ireturn) 1 88 := ⟨by decide +kernel, rfl⟩
theorem D_X10_meaning_88 : Dec mi_X10_meaning 88 (.bipush 6) 2 90 := ⟨by decide +kernel, rfl⟩
theorem D_X10_meaning_90 : Dec mi_X10_meaning 90 (.ireturn) 1 91 := ⟨by decide +kernel, rfl⟩
theorem D_X10_meaning_91 : Dec mi_X10_meaning 91 (.bipush 7) 2 93 := ⟨by decide +kernel, rfl⟩
theorem D_X10_meaning_93 : Dec mi_X10_meaning 93 (.ireturn) 1 94 := ⟨by decide +kernel, rfl⟩
theorem D_X10_meaning_94 : Dec mi_X10_meaning 94 (.bipush 11) 2 96 := ⟨by decide +kernel, rfl⟩
theorem D_X10_meaning_96 : Dec mi_X10_meaning 96 (.ireturn) 1 97 := ⟨by decide +kernel, rfl⟩
def f_X10_meaning (M : Mem) (a1 : Int32) : Int32 := if a1 = (2968 : Int32) then ((5 : Int32)) else (if a1 = (15001 : Int32) then ((0 : Int32)) else (if a1 = (70031 : Int32) then ((2 : Int32)) else (if a1 = (237470 : Int32) then ((3 : Int32)) else (if a1 = (355280 : Int32) then ((7 : Int32)) else (if a1 = (453959 : Int32) then ((6 : Int32)) else (if a1 = (847604 : Int32) then ((4 : Int32)) else (if a1 = (37078087 : Int32) then ((1 : Int32)) else ((11 : Int32)))))))))
theorem x_X10_meaning {l : Launch} {w : Wd} {M : Mem} {a1 : Int32} {v : Int32} (h : f_X10_meaning M a1 = v) : Cn l w mi_X10_meaning yX10_meaning (0) [.int a1] M (some (.int v), M) :=
  Cn_of (loc0 := [some (.int a1)]) rfl rfl rfl (Nat.le_of_ble_eq_true rfl) fun κ hq => let_h (show (if a1 = (2968 : Int32) then ((5 : Int32)) else (if a1 = (15001 : Int32) then ((0 : Int32)) else (if a1 = (70031 : Int32) then ((2 : Int32)) else (if a1 = (237470 : Int32) then ((3 : Int32)) else (if a1 = (355280 : Int32) then ((7 : Int32)) else (if a1 = (453959 : Int32) then ((6 : Int32)) else (if a1 = (847604 : Int32) then ((4 : Int32)) else (if a1 = (37078087 : Int32) then ((1 : Int32)) else ((11 : Int32)))))))))) = v from h) fun h => r_iload_n D_X10_meaning_0 rfl <| dcs (fun c1 => let_h (ifT c1 h) fun h => r_lookEq (off := 85) (t := 86) c1 D_X10_meaning_1 (by decide) (by decide) (by decide) <| r_iconst D_X10_meaning_86 ki_5 <| r_iret hq D_X10_meaning_87 rfl (rtT h)) (fun c1 => let_h (ifF c1 h) fun h => dcs (fun c2 => let_h (ifT c2 h) fun h => r_lookEq (off := 75) (t := 76) c2 D_X10_meaning_1 (by decide) (by decide) (by decide) <| r_iconst D_X10_meaning_76 ki_0 <| r_iret hq D_X10_meaning_77 rfl (rtT h)) (fun c2 => let_h (ifF c2 h) fun h => dcs (fun c3 => let_h (ifT c3 h) fun h => r_lookEq (off := 79) (t := 80) c3 D_X10_meaning_1 (by decide) (by decide) (by decide) <| r_iconst D_X10_meaning_80 ki_2 <| r_iret hq D_X10_meaning_81 rfl (rtT h)) (fun c3 => let_h (ifF c3 h) fun h => dcs (fun c4 => let_h (ifT c4 h) fun h => r_lookEq (off := 81) (t := 82) c4 D_X10_meaning_1 (by decide) (by decide) (by decide) <| r_iconst D_X10_meaning_82 ki_3 <| r_iret hq D_X10_meaning_83 rfl (rtT h)) (fun c4 => let_h (ifF c4 h) fun h => dcs (fun c5 => let_h (ifT c5 h) fun h => r_lookEq (off := 90) (t := 91) c5 D_X10_meaning_1 (by decide) (by decide) (by decide) <| r_bipush D_X10_meaning_91 k8_7 <| r_iret hq D_X10_meaning_93 rfl (rtT h)) (fun c5 => let_h (ifF c5 h) fun h => dcs (fun c6 => let_h (ifT c6 h) fun h => r_lookEq (off := 87) (t := 88) c6 D_X10_meaning_1 (by decide) (by decide) (by decide) <| r_bipush D_X10_meaning_88 k8_6 <| r_iret hq D_X10_meaning_90 rfl (rtT h)) (fun c6 => let_h (ifF c6 h) fun h => dcs (fun c7 => let_h (ifT c7 h) fun h => r_lookEq (off := 83) (t := 84) c7 D_X10_meaning_1 (by decide) (by decide) (by decide) <| r_iconst D_X10_meaning_84 ki_4 <| r_iret hq D_X10_meaning_85 rfl (rtT h)) (fun c7 => let_h (ifF c7 h) fun h => dcs (fun c8 => let_h (ifT c8 h) fun h => r_lookEq (off := 77) (t := 78) c8 D_X10_meaning_1 (by decide) (by decide) (by decide) <| r_iconst D_X10_meaning_78 ki_1 <| r_iret hq D_X10_meaning_79 rfl (rtT h)) (fun c8 => let_h (ifF c8 h) fun h => r_lookOut (t := 94) D_X10_meaning_1 (by decide) (List.forall_mem_cons.mpr ⟨ne32 c1 (by decide), (List.forall_mem_cons.mpr ⟨ne32 c2 (by decide), (List.forall_mem_cons.mpr ⟨ne32 c3 (by decide), (List.forall_mem_cons.mpr ⟨ne32 c4 (by decide), (List.forall_mem_cons.mpr ⟨ne32 c5 (by decide), (List.forall_mem_cons.mpr ⟨ne32 c6 (by decide), (List.forall_mem_cons.mpr ⟨ne32 c7 (by decide), (List.forall_mem_cons.mpr ⟨ne32 c8 (by decide), (fun _ hh => absurd hh List.not_mem_nil)⟩)⟩)⟩)⟩)⟩)⟩)⟩)⟩) (by decide) <| r_bipush D_X10_meaning_94 k8_11 <| r_iret hq D_X10_meaning_96 rfl (rtT h)))))))))
-- X10_next
theorem D_X10_next_0 : Dec mi_X10_next 0 (.aload_n 0) 1 1 := ⟨by decide +kernel, rfl⟩
theorem D_X10_next_1 : Dec mi_X10_next 1 (.invokevirtual 91) 3 4 := ⟨by decide +kernel, rfl⟩
theorem D_X10_next_4 : Dec mi_X10_next 4 (.bipush 32) 2 6 := ⟨by decide +kernel, rfl⟩
theorem D_X10_next_6 : DecJ mi_X10_next 6 (.if_icmp .ne 16) (16) 9 22 := ⟨by decide +kernel, rfl, by decide⟩
theorem D_X10_next_9 : Dec mi_X10_next 9 (.aload_n 0) 1 10 := ⟨by decide +kernel, rfl⟩
theorem D_X10_next_10 : Dec mi_X10_next 10 (.dup) 1 11 := ⟨by decide +kernel, rfl⟩
theorem D_X10_next_11 : Dec mi_X10_next 11 (.getfield 88) 3 14 := ⟨by decide +kernel, rfl⟩
theorem D_X10_next_14 : Dec mi_X10_next 14 (.iconst 1) 1 15 := ⟨by decide +kernel, rfl⟩
theorem D_X10_next_15 : Dec mi_X10_next 15 (.iadd) 1 16 := ⟨by decide +kernel, rfl⟩
theorem D_X10_next_16 : Dec mi_X10_next 16 (.putfield 88) 3 19 := ⟨by decide +kernel, rfl⟩
theorem D_X10_next_19 : DecJ mi_X10_next 19 (.goto (-19)) (-19) 22 0 := ⟨by decide +kernel, rfl, by decide⟩
theorem D_X10_next_22 : Dec mi_X10_next 22 (.aload_n 0) 1 23 := ⟨by decide +kernel, rfl⟩
theorem D_X10_next_23 : Dec mi_X10_next 23 (.aload_n 0) 1 24 := ⟨by decide +kernel, rfl⟩
theorem D_X10_next_24 : Dec mi_X10_next 24 (.getfield 88) 3 27 := ⟨by decide +kernel, rfl⟩
theorem D_X10_next_27 : Dec mi_X10_next 27 (.putfield 95) 3 30 := ⟨by decide +kernel, rfl⟩
theorem D_X10_next_30 : Dec mi_X10_next 30 (.aload_n 0) 1 31 := ⟨by decide +kernel, rfl⟩
theorem D_X10_next_31 : Dec mi_X10_next 31 (.iconst 0) 1 32 := ⟨by decide +kernel, rfl⟩
theorem D_X10_next_32 : Dec mi_X10_next 32 (.putfield 98) 3 35 := ⟨by decide +kernel, rfl⟩
theorem D_X10_next_35 : Dec mi_X10_next 35 (.aload_n 0) 1 36 := ⟨by decide +kernel, rfl⟩
theorem D_X10_next_36 : Dec mi_X10_next 36 (.invokevirtual 91) 3 39 := ⟨by decide +kernel, rfl⟩
theorem D_X10_next_39 : Dec mi_X10_next 39 (.istore_n 1) 1 40 := ⟨by decide +kernel, rfl⟩
theorem D_X10_next_40 : Dec mi_X10_next 40 (.iload_n 1) 1 41 := ⟨by decide +kernel, rfl⟩
theorem D_X10_next_41 : DecJ mi_X10_next 41 (.ifCond .ge 12) (12) 44 53 := ⟨by decide +kernel, rfl, by decide⟩
theorem D_X10_next_44 : Dec mi_X10_next 44 (.aload_n 0) 1 45 := ⟨by decide +kernel, rfl⟩
theorem D_X10_next_45 : Dec mi_X10_next 45 (.bipush 8) 2 47 := ⟨by decide +kernel, rfl⟩
theorem D_X10_next_47 : Dec mi_X10_next 47 (.putfield 101) 3 50 := ⟨by decide +kernel, rfl⟩
theorem D_X10_next_50 : DecJ mi_X10_next 50 (.goto 245) (245) 53 295 := ⟨by decide +kernel, rfl, by decide⟩
theorem D_X10_next_53 : Dec mi_X10_next 53 (.iload_n 1) 1 54 := ⟨by decide +kernel, rfl⟩
theorem D_X10_next_54 : Dec mi_X10_next 54 (.bipush 97) 2 56 := ⟨by decide +kernel, rfl⟩
theorem D_X10_next_56 : Dec mi_X10_next 56 (.bipush 122) 2 58 := ⟨by decide +kernel, rfl⟩
theorem D_X10_next_58 : Dec mi_X10_next 58 (.invokestatic 78) 3 61 := ⟨by decide +kernel, rfl⟩
theorem D_X10_next_61 : DecJ mi_X10_next 61 (.ifCond .eq 92) (92) 64 153 := ⟨by decide +kernel, rfl, by decide⟩
theorem D_X10_next_64 : Dec mi_X10_next 64 (.iconst 0) 1 65 := ⟨by decide +kernel, rfl⟩
theorem D_X10_next_65 : Dec mi_X10_next 65 (.istore_n 2) 1 66 := ⟨by decide +kernel, rfl⟩
theorem D_X10_next_66 : Dec mi_X10_next 66 (.aload_n 0) 1 67 := ⟨by decide +kernel, rfl⟩
theorem D_X10_next_67 : Dec mi_X10_next 67 (.invokevirtual 91) 3 70 := ⟨by decide +kernel, rfl⟩
theorem D_X10_next_70 : Dec mi_X10_next 70 (.bipush 97) 2 72 := ⟨by decide +kernel, rfl⟩
theorem D_X10_next_72 : Dec mi_X10_next 72 (.bipush 122) 2 74 := ⟨by decide +kernel, rfl⟩
theorem D_X10_next_74 : Dec mi_X10_next 74 (.invokestatic 78) 3 77 := ⟨by decide +kernel, rfl⟩
theorem D_X10_next_77 : DecJ mi_X10_next 77 (.ifCond .eq 47) (47) 80 124 := ⟨by decide +kernel, rfl, by decide⟩
theorem D_X10_next_80 : Dec mi_X10_next 80 (.aload_n 0) 1 81 := ⟨by decide +kernel, rfl⟩
theorem D_X10_next_81 : Dec mi_X10_next 81 (.getfield 88) 3 84 := ⟨by decide +kernel, rfl⟩
theorem D_X10_next_84 : Dec mi_X10_next 84 (.aload_n 0) 1 85 := ⟨by decide +kernel, rfl⟩
theorem D_X10_next_85 : Dec mi_X10_next 85 (.getfield 95) 3 88 := ⟨by decide +kernel, rfl⟩
theorem D_X10_next_88 : Dec mi_X10_next 88 (.isub) 1 89 := ⟨by decide +kernel, rfl⟩
theorem D_X10_next_89 : Dec mi_X10_next 89 (.bipush 6) 2 91 := ⟨by decide +kernel, rfl⟩
theorem D_X10_next_91 : DecJ mi_X10_next 91 (.if_icmp .ge 18) (18) 94 109 := ⟨by decide +kernel, rfl, by decide⟩
theorem D_X10_next_94 : Dec mi_X10_next 94 (.bipush 27) 2 96 := ⟨by decide +kernel, rfl⟩
theorem D_X10_next_96 : Dec mi_X10_next 96 (.iload_n 2) 1 97 := ⟨by decide +kernel, rfl⟩
theorem D_X10_next_97 : Dec mi_X10_next 97 (.imul) 1 98 := ⟨by decide +kernel, rfl⟩
theorem D_X10_next_98 : Dec mi_X10_next 98 (.aload_n 0) 1 99 := ⟨by decide +kernel, rfl⟩
theorem D_X10_next_99 : Dec mi_X10_next 99 (.invokevirtual 91) 3 102 := ⟨by decide +kernel, rfl⟩
theorem D_X10_next_102 : Dec mi_X10_next 102 (.iadd) 1 103 := ⟨by decide +kernel, rfl⟩
theorem D_X10_next_103 : Dec mi_X10_next 103 (.bipush 96) 2 105 := ⟨by decide +kernel, rfl⟩
theorem D_X10_next_105 : Dec mi_X10_next 105 (.isub) 1 106 := ⟨by decide +kernel, rfl⟩
theorem D_X10_next_106 : DecJ mi_X10_next 106 (.goto 4) (4) 109 110 := ⟨by decide +kernel, rfl, by decide⟩
theorem D_X10_next_109 : Dec mi_X10_next 109 (.iconst 0) 1 110 := ⟨by decide +kernel, rfl⟩
theorem D_X10_next_110 : Dec mi_X10_next 110 (.istore_n 2) 1 111 := ⟨by decide +kernel, rfl⟩
theorem D_X10_next_111 : Dec mi_X10_next 111 (.aload_n 0) 1 112 := ⟨by decide +kernel, rfl⟩
theorem D_X10_next_112 : Dec mi_X10_next 112 (.dup) 1 113 := ⟨by decide +kernel, rfl⟩
theorem D_X10_next_113 : Dec mi_X10_next 113 (.getfield 88) 3 116 := ⟨by decide +kernel, rfl⟩
theorem D_X10_next_116 : Dec mi_X10_next 116 (.iconst 1) 1 117 := ⟨by decide +kernel, rfl⟩
theorem D_X10_next_117 : Dec mi_X10_next 117 (.iadd) 1 118 := ⟨by decide +kernel, rfl⟩
theorem D_X10_next_118 : Dec mi_X10_next 118 (.putfield 88) 3 121 := ⟨by decide +kernel, rfl⟩
theorem D_X10_next_121 : DecJ mi_X10_next 121 (.goto (-55)) (-55) 124 66 := ⟨by decide +kernel, rfl, by decide⟩
theorem D_X10_next_124 : Dec mi_X10_next 124 (.aload_n 0) 1 125 := ⟨by decide +kernel, rfl⟩
theorem D_X10_next_125 : Dec mi_X10_next 125 (.aload_n 0) 1 126 := ⟨by decide +kernel, rfl⟩
theorem D_X10_next_126 : Dec mi_X10_next 126 (.getfield 88) 3 129 := ⟨by decide +kernel, rfl⟩
theorem D_X10_next_129 : Dec mi_X10_next 129 (.aload_n 0) 1 130 := ⟨by decide +kernel, rfl⟩
theorem D_X10_next_130 : Dec mi_X10_next 130 (.getfield 95) 3 133 := ⟨by decide +kernel, rfl⟩
theorem D_X10_next_133 : Dec mi_X10_next 133 (.isub) 1 134 := ⟨by decide +kernel, rfl⟩
theorem D_X10_next_134 : Dec mi_X10_next 134 (.bipush 6) 2 136 := ⟨by decide +kernel, rfl⟩
theorem D_X10_next_136 : DecJ mi_X10_next 136 (.if_icmp .le 7) (7) 139 143 := ⟨by decide +kernel, rfl, by decide⟩
theorem D_X10_next_139 : Dec mi_X10_next 139 (.iconst 0) 1 140 := ⟨by decide +kernel, rfl⟩
theorem D_X10_next_140 : DecJ mi_X10_next 140 (.goto 4) (4) 143 144 := ⟨by decide +kernel, rfl, by decide⟩
theorem D_X10_next_143 : Dec mi_X10_next 143 (.iload_n 2) 1 144 := ⟨by decide +kernel, rfl⟩
theorem D_X10_next_144 : Dec mi_X10_next 144 (.invokestatic 104) 3 147 := ⟨by decide +kernel, rfl⟩
theorem D_X10_next_147 : Dec mi_X10_next 147 (.putfield 101) 3 150 := ⟨by decide +kernel, rfl⟩
theorem D_X10_next_150 : DecJ mi_X10_next 150 (.goto 145) (145) 153 295 := ⟨by decide +kernel, rfl, by decide⟩
theorem D_X10_next_153 : Dec mi_X10_next 153 (.iload_n 1) 1 154 := ⟨by decide +kernel, rfl⟩
theorem D_X10_next_154 : Dec mi_X10_next 154 (.bipush 48) 2 156 := ⟨by decide +kernel, rfl⟩
theorem D_X10_next_156 : Dec mi_X10_next 156 (.bipush 57) 2 158 := ⟨by decide +kernel, rfl⟩
theorem D_X10_next_158 : Dec mi_X10_next 158 (.invokestatic 78) 3 161 := ⟨by decide +kernel, rfl⟩
theorem D_X10_next_161 : DecJ mi_X10_next 161 (.ifCond .eq 107) (107) 164 268 := ⟨by decide +kernel, rfl, by decide⟩
theorem D_X10_next_164 : Dec mi_X10_next 164 (.aload_n 0) 1 165 := ⟨by decide +kernel, rfl⟩
theorem D_X10_next_165 : Dec mi_X10_next 165 (.invokevirtual 91) 3 168 := ⟨by decide +kernel, rfl⟩
theorem D_X10_next_168 : Dec mi_X10_next 168 (.bipush 48) 2 170 := ⟨by decide +kernel, rfl⟩
theorem D_X10_next_170 : Dec mi_X10_next 170 (.bipush 57) 2 172 := ⟨by decide +kernel, rfl⟩
theorem D_X10_next_172 : Dec mi_X10_next 172 (.invokestatic 78) 3 175 := ⟨by decide +kernel, rfl⟩
theorem D_X10_next_175 : DecJ mi_X10_next 175 (.ifCond .eq 51) (51) 178 226 := ⟨by decide +kernel, rfl, by decide⟩
theorem D_X10_next_178 : Dec mi_X10_next 178 (.aload_n 0) 1 179 := ⟨by decide +kernel, rfl⟩
theorem D_X10_next_179 : Dec mi_X10_next 179 (.aload_n 0) 1 180 := ⟨by decide +kernel, rfl⟩
theorem D_X10_next_180 : Dec mi_X10_next 180 (.getfield 98) 3 183 := ⟨by decide +kernel, rfl⟩
theorem D_X10_next_183 : Dec mi_X10_next 183 (.bipush 99) 2 185 := ⟨by decide +kernel, rfl⟩
theorem D_X10_next_185 : DecJ mi_X10_next 185 (.if_icmp .le 10) (10) 188 195 := ⟨by decide +kernel, rfl, by decide⟩
theorem D_X10_next_188 : Dec mi_X10_next 188 (.aload_n 0) 1 189 := ⟨by decide +kernel, rfl⟩
theorem D_X10_next_189 : Dec mi_X10_next 189 (.getfield 98) 3 192 := ⟨by decide +kernel, rfl⟩
theorem D_X10_next_192 : DecJ mi_X10_next 192 (.goto 18) (18) 195 210 := ⟨by decide +kernel, rfl, by decide⟩
theorem D_X10_next_195 : Dec mi_X10_next 195 (.bipush 10) 2 197 := ⟨by decide +kernel, rfl⟩
theorem D_X10_next_197 : Dec mi_X10_next 197 (.aload_n 0) 1 198 := ⟨by decide +kernel, rfl⟩
theorem D_X10_next_198 : Dec mi_X10_next 198 (.getfield 98) 3 201 := ⟨by decide +kernel, rfl⟩
theorem D_X10_next_201 : Dec mi_X10_next 201 (.imul) 1 202 := ⟨by decide +kernel, rfl⟩
theorem D_X10_next_202 : Dec mi_X10_next 202 (.aload_n 0) 1 203 := ⟨by decide +kernel, rfl⟩
theorem D_X10_next_203 : Dec mi_X10_next 203 (.invokevirtual 91) 3 206 := ⟨by decide +kernel, rfl⟩
theorem D_X10_next_206 : Dec mi_X10_next 206 (.iadd) 1 207 := ⟨by decide +kernel, rfl⟩
theorem D_X10_next_207 : Dec mi_X10_next 207 (.bipush 48) 2 209 := ⟨by decide +kernel, rfl⟩
theorem D_X10_next_209 : Dec mi_X10_next 209 (.isub) 1 210 := ⟨by decide +kernel, rfl⟩
theorem D_X10_next_210 : Dec mi_X10_next 210 (.putfield 98) 3 213 := ⟨by decide +kernel, rfl⟩
theorem D_X10_next_213 : Dec mi_X10_next 213 (.aload_n 0) 1 214 := ⟨by decide +kernel, rfl⟩
theorem D_X10_next_214 : Dec mi_X10_next 214 (.dup) 1 215 := ⟨by decide +kernel, rfl⟩
theorem D_X10_next_215 : Dec mi_X10_next 215 (.getfield 88) 3 218 := ⟨by decide +kernel, rfl⟩
theorem D_X10_next_218 : Dec mi_X10_next 218 (.iconst 1) 1 219 := ⟨by decide +kernel, rfl⟩
theorem D_X10_next_219 : Dec mi_X10_next 219 (.iadd) 1 220 := ⟨by decide +kernel, rfl⟩
theorem D_X10_next_220 : Dec mi_X10_next 220 (.putfield 88) 3 223 := ⟨by decide +kernel, rfl⟩
theorem D_X10_next_223 : DecJ mi_X10_next 223 (.goto (-59)) (-59) 226 164 := ⟨by decide +kernel, rfl, by decide⟩
theorem D_X10_next_226 : Dec mi_X10_next 226 (.aload_n 0) 1 227 := ⟨by decide +kernel, rfl⟩
theorem D_X10_next_227 : Dec mi_X10_next 227 (.aload_n 0) 1 228 := ⟨by decide +kernel, rfl⟩
theorem D_X10_next_228 : Dec mi_X10_next 228 (.getfield 98) 3 231 := ⟨by decide +kernel, rfl⟩
theorem D_X10_next_231 : Dec mi_X10_next 231 (.bipush 99) 2 233 := ⟨by decide +kernel, rfl⟩
theorem D_X10_next_233 : DecJ mi_X10_next 233 (.if_icmp .gt 22) (22) 236 255 := ⟨by decide +kernel, rfl, by decide⟩
theorem D_X10_next_236 : Dec mi_X10_next 236 (.iload_n 1) 1 237 := ⟨by decide +kernel, rfl⟩
theorem D_X10_next_237 : Dec mi_X10_next 237 (.bipush 48) 2 239 := ⟨by decide +kernel, rfl⟩
theorem D_X10_next_239 : DecJ mi_X10_next 239 (.if_icmp .ne 21) (21) 242 260 := ⟨by decide +kernel, rfl, by decide⟩
theorem D_X10_next_242 : Dec mi_X10_next 242 (.aload_n 0) 1 243 := ⟨by decide +kernel, rfl⟩
theorem D_X10_next_243 : Dec mi_X10_next 243 (.getfield 88) 3 246 := ⟨by decide +kernel, rfl⟩
theorem D_X10_next_246 : Dec mi_X10_next 246 (.aload_n 0) 1 247 := ⟨by decide +kernel, rfl⟩
theorem D_X10_next_247 : Dec mi_X10_next 247 (.getfield 95) 3 250 := ⟨by decide +kernel, rfl⟩
theorem D_X10_next_250 : Dec mi_X10_next 250 (.isub) 1 251 := ⟨by decide +kernel, rfl⟩
theorem D_X10_next_251 : Dec mi_X10_next 251 (.iconst 1) 1 252 := ⟨by decide +kernel, rfl⟩
theorem D_X10_next_252 : DecJ mi_X10_next 252 (.if_icmp .le 8) (8) 255 260 := ⟨by decide +kernel, rfl, by decide⟩
theorem D_X10_next_255 : Dec mi_X10_next 255 (.bipush 11) 2 257 := ⟨by decide +kernel, rfl⟩
theorem D_X10_next_257 : DecJ mi_X10_next 257 (.goto 5) (5) 260 262 := ⟨by decide +kernel, rfl, by decide⟩
theorem D_X10_next_260 : Dec mi_X10_next 260 (.bipush 9) 2 262 := ⟨by decide +kernel, rfl⟩
theorem D_X10_next_262 : Dec mi_X10_next 262 (.putfield 101) 3 265 := ⟨by decide +kernel, rfl⟩
theorem D_X10_next_265 : DecJ mi_X10_next 265 (.goto 30) (30) 268 295 := ⟨by decide +kernel, rfl, by decide⟩
theorem D_X10_next_268 : Dec mi_X10_next 268 (.aload_n 0) 1 269 := ⟨by decide +kernel, rfl⟩
theorem D_X10_next_269 : Dec mi_X10_next 269 (.dup) 1 270 := ⟨by decide +kernel, rfl⟩
theorem D_X10_next_270 : Dec mi_X10_next 270 (.getfield 88) 3 273 := ⟨by decide +kernel, rfl⟩
theorem D_X10_next_273 : Dec mi_X10_next 273 (.iconst 1) 1 274 := ⟨by decide +kernel, rfl⟩
theorem D_X10_next_274 : Dec mi_X10_next 274 (.iadd) 1 275 := ⟨by decide +kernel, rfl⟩
theorem D_X10_next_275 : Dec mi_X10_next 275 (.putfield 88) 3 278 := ⟨by decide +kernel, rfl⟩
theorem D_X10_next_278 : Dec mi_X10_next 278 (.aload_n 0) 1 279 := ⟨by decide +kernel, rfl⟩
theorem D_X10_next_279 : Dec mi_X10_next 279 (.iload_n 1) 1 280 := ⟨by decide +kernel, rfl⟩
theorem D_X10_next_280 : Dec mi_X10_next 280 (.bipush 59) 2 282 := ⟨by decide +kernel, rfl⟩
theorem D_X10_next_282 : DecJ mi_X10_next 282 (.if_icmp .ne 8) (8) 285 290 := ⟨by decide +kernel, rfl, by decide⟩
theorem D_X10_next_285 : Dec mi_X10_next 285 (.bipush 10) 2 287 := ⟨by decide +kernel, rfl⟩
theorem D_X10_next_287 : DecJ mi_X10_next 287 (.goto 5) (5) 290 292 := ⟨by decide +kernel, rfl, by decide⟩
theorem D_X10_next_290 : Dec mi_X10_next 290 (.bipush 11) 2 292 := ⟨by decide +kernel, rfl⟩
theorem D_X10_next_292 : Dec mi_X10_next 292 (.putfield 101) 3 295 := ⟨by decide +kernel, rfl⟩
theorem D_X10_next_295 : Dec mi_X10_next 295 (.return_) 1 296 := ⟨by decide +kernel, rfl⟩
def f_X10_next_66 (F : Nat) : Nat → Int32 → Mem → Option Mem
  | 0, _, _ => none
  | n + 1, y2, N => (f_X10_here N).bind fun x1 => if (f_X10_in N x1 (97 : Int32) (122 : Int32)) = 0 then (if ((N.1 36 9) - (N.1 36 10)) ≤ (6 : Int32) then (vlet (setI N 36 11 (f_X10_meaning N y2)) fun M5 => some M5) else (vlet (setI N 36 11 (f_X10_meaning N (0 : Int32))) fun M6 => some M6)) else (if (6 : Int32) ≤ ((N.1 36 9) - (N.1 36 10)) then (vlet (setI N 36 9 ((N.1 36 9) + (1 : Int32))) fun M8 => f_X10_next_66 F n (0 : Int32) M8) else ((f_X10_here N).bind fun x9 => vlet ((((27 : Int32) * y2) + x9) - (96 : Int32)) fun x11 => vlet (setI N 36 9 ((N.1 36 9) + (1 : Int32))) fun M12 => f_X10_next_66 F n x11 M12))
theorem x_X10_next_66 {l : Launch} {w : Wd} {κ : Kp} {F : Nat} {v : Mem} (hq : RQ w (none, v) κ) : ∀ (n : Nat) (y2 : Int32) (N : Mem), f_X10_next_66 F n y2 N = some v → RR l w mi_X10_next (1) κ 66 [] [some (.ref (wq w 36)), none, some (.int y2)] N
  | 0, _, _, h => nomatch h
  | n + 1, y2, N, h => let_h (show ((f_X10_here N).bind fun x1 => if (f_X10_in N x1 (97 : Int32) (122 : Int32)) = 0 then (if ((N.1 36 9) - (N.1 36 10)) ≤ (6 : Int32) then (vlet (setI N 36 11 (f_X10_meaning N y2)) fun M5 => some M5) else (vlet (setI N 36 11 (f_X10_meaning N (0 : Int32))) fun M6 => some M6)) else (if (6 : Int32) ≤ ((N.1 36 9) - (N.1 36 10)) then (vlet (setI N 36 9 ((N.1 36 9) + (1 : Int32))) fun M8 => f_X10_next_66 F n (0 : Int32) M8) else ((f_X10_here N).bind fun x9 => vlet ((((27 : Int32) * y2) + x9) - (96 : Int32)) fun x11 => vlet (setI N 36 9 ((N.1 36 9) + (1 : Int32))) fun M12 => f_X10_next_66 F n x11 M12))) = some v from h) fun h => r_aload_n D_X10_next_66 rfl <| (bdE h).elim fun x1 q2 => let_h q2.2 fun h => r_callV (av := []) D_X10_next_67 ml_X10_91 mf_X10_here mv_X10_here s_36 rfl rfl (x_X10_here q2.1) (Nat.le_of_ble_eq_true rfl) rfl rfl (Nat.le_of_ble_eq_true rfl) <| r_bipush D_X10_next_70 k8_97 <| r_bipush D_X10_next_72 k8_122 <| r_callS (av := [.int x1, .int (97 : Int32), .int (122 : Int32)]) D_X10_next_74 ml_X10_78 mf_X10_in ms_X10_in (x_X10_in rfl) (Nat.le_of_ble_eq_true rfl) rfl rfl (Nat.le_of_ble_eq_true rfl) <| r_if_eq D_X10_next_77 (fun c3 => let_h (ifT c3 h) fun h => r_aload_n D_X10_next_124 rfl <| r_aload_n D_X10_next_125 rfl <| r_getI D_X10_next_126 fl_X10_88 s_36 rfl <| r_aload_n D_X10_next_129 rfl <| r_getI D_X10_next_130 fl_X10_95 s_36 rfl <| r_isub D_X10_next_133 <| r_bipush D_X10_next_134 k8_6 <| r_icmp_le D_X10_next_136 (fun c4 => let_h (ifT c4 h) fun h => r_iload_n D_X10_next_143 rfl <| r_callS (av := [.int y2]) D_X10_next_144 ml_X10_104 mf_X10_meaning ms_X10_meaning (x_X10_meaning rfl) (Nat.le_of_ble_eq_true rfl) rfl rfl (Nat.le_of_ble_eq_true rfl) <| r_putI D_X10_next_147 fp_X10_101 s_36 rfl rfl rfl <| mlE h fun M5 h => r_goto D_X10_next_150 <| r_vret hq D_X10_next_295 rfl (rtV h)) (fun c4 => let_h (ifF c4 h) fun h => r_iconst D_X10_next_139 ki_0 <| r_goto D_X10_next_140 <| r_callS (av := [.int (0 : Int32)]) D_X10_next_144 ml_X10_104 mf_X10_meaning ms_X10_meaning (x_X10_meaning rfl) (Nat.le_of_ble_eq_true rfl) rfl rfl (Nat.le_of_ble_eq_true rfl) <| r_putI D_X10_next_147 fp_X10_101 s_36 rfl rfl rfl <| mlE h fun M6 h => r_goto D_X10_next_150 <| r_vret hq D_X10_next_295 rfl (rtV h))) (fun c3 => let_h (ifF c3 h) fun h => r_aload_n D_X10_next_80 rfl <| r_getI D_X10_next_81 fl_X10_88 s_36 rfl <| r_aload_n D_X10_next_84 rfl <| r_getI D_X10_next_85 fl_X10_95 s_36 rfl <| r_isub D_X10_next_88 <| r_bipush D_X10_next_89 k8_6 <| r_icmp_ge D_X10_next_91 (fun c7 => let_h (ifT c7 h) fun h => r_iconst D_X10_next_109 ki_0 <| r_istore_n D_X10_next_110 (by decide) rfl <| r_aload_n D_X10_next_111 rfl <| r_dup D_X10_next_112 rfl <| r_getI D_X10_next_113 fl_X10_88 s_36 rfl <| r_iconst D_X10_next_116 ki_1 <| r_iadd D_X10_next_117 <| r_putI D_X10_next_118 fp_X10_88 s_36 rfl rfl rfl <| mlE h fun M8 h => r_goto D_X10_next_121 <| r_ls (x_X10_next_66 hq n (0 : Int32) M8 h) ⟨rfl, ⟨rfl, trivial⟩⟩) (fun c7 => let_h (ifF c7 h) fun h => r_bipush D_X10_next_94 k8_27 <| r_iload_n D_X10_next_96 rfl <| r_imul D_X10_next_97 <| r_aload_n D_X10_next_98 rfl <| (bdE h).elim fun x9 q10 => let_h q10.2 fun h => r_callV (av := []) D_X10_next_99 ml_X10_91 mf_X10_here mv_X10_here s_36 rfl rfl (x_X10_here q10.1) (Nat.le_of_ble_eq_true rfl) rfl rfl (Nat.le_of_ble_eq_true rfl) <| r_iadd D_X10_next_102 <| r_bipush D_X10_next_103 k8_96 <| r_isub D_X10_next_105 <| r_goto D_X10_next_106 <| vlE (fun x11 => RR l w mi_X10_next (1) κ 110 [.int x11] [some (.ref (wq w 36)), none, some (.int y2)] N) h fun x11 h => r_istore_n D_X10_next_110 (by decide) rfl <| r_aload_n D_X10_next_111 rfl <| r_dup D_X10_next_112 rfl <| r_getI D_X10_next_113 fl_X10_88 s_36 rfl <| r_iconst D_X10_next_116 ki_1 <| r_iadd D_X10_next_117 <| r_putI D_X10_next_118 fp_X10_88 s_36 rfl rfl rfl <| mlE h fun M12 h => r_goto D_X10_next_121 <| r_ls (x_X10_next_66 hq n x11 M12 h) ⟨rfl, ⟨rfl, trivial⟩⟩))
def f_X10_next_164 (F : Nat) : Nat → Int32 → Mem → Option Mem
  | 0, _, _ => none
  | n + 1, y1, N => (f_X10_here N).bind fun x1 => if (f_X10_in N x1 (48 : Int32) (57 : Int32)) = 0 then (if (99 : Int32) < (N.1 36 12) then (vlet (setI N 36 11 (11 : Int32)) fun M5 => some M5) else (if y1 = (48 : Int32) then (if ((N.1 36 9) - (N.1 36 10)) ≤ (1 : Int32) then (vlet (setI N 36 11 (9 : Int32)) fun M8 => some M8) else (vlet (setI N 36 11 (11 : Int32)) fun M9 => some M9)) else (vlet (setI N 36 11 (9 : Int32)) fun M10 => some M10))) else (if (N.1 36 12) ≤ (99 : Int32) then ((f_X10_here N).bind fun x12 => vlet (setI N 36 12 ((((10 : Int32) * (N.1 36 12)) + x12) - (48 : Int32))) fun M14 => vlet (setI M14 36 9 ((M14.1 36 9) + (1 : Int32))) fun M15 => f_X10_next_164 F n y1 M15) else (vlet (setI N 36 12 (N.1 36 12)) fun M16 => vlet (setI M16 36 9 ((M16.1 36 9) + (1 : Int32))) fun M17 => f_X10_next_164 F n y1 M17))
theorem x_X10_next_164 {l : Launch} {w : Wd} {κ : Kp} {F : Nat} {v : Mem} (hq : RQ w (none, v) κ) : ∀ (n : Nat) (y1 : Int32) (N : Mem), f_X10_next_164 F n y1 N = some v → RR l w mi_X10_next (1) κ 164 [] [some (.ref (wq w 36)), some (.int y1), none] N
  | 0, _, _, h => nomatch h
  | n + 1, y1, N, h => let_h (show ((f_X10_here N).bind fun x1 => if (f_X10_in N x1 (48 : Int32) (57 : Int32)) = 0 then (if (99 : Int32) < (N.1 36 12) then (vlet (setI N 36 11 (11 : Int32)) fun M5 => some M5) else (if y1 = (48 : Int32) then (if ((N.1 36 9) - (N.1 36 10)) ≤ (1 : Int32) then (vlet (setI N 36 11 (9 : Int32)) fun M8 => some M8) else (vlet (setI N 36 11 (11 : Int32)) fun M9 => some M9)) else (vlet (setI N 36 11 (9 : Int32)) fun M10 => some M10))) else (if (N.1 36 12) ≤ (99 : Int32) then ((f_X10_here N).bind fun x12 => vlet (setI N 36 12 ((((10 : Int32) * (N.1 36 12)) + x12) - (48 : Int32))) fun M14 => vlet (setI M14 36 9 ((M14.1 36 9) + (1 : Int32))) fun M15 => f_X10_next_164 F n y1 M15) else (vlet (setI N 36 12 (N.1 36 12)) fun M16 => vlet (setI M16 36 9 ((M16.1 36 9) + (1 : Int32))) fun M17 => f_X10_next_164 F n y1 M17))) = some v from h) fun h => r_aload_n D_X10_next_164 rfl <| (bdE h).elim fun x1 q2 => let_h q2.2 fun h => r_callV (av := []) D_X10_next_165 ml_X10_91 mf_X10_here mv_X10_here s_36 rfl rfl (x_X10_here q2.1) (Nat.le_of_ble_eq_true rfl) rfl rfl (Nat.le_of_ble_eq_true rfl) <| r_bipush D_X10_next_168 k8_48 <| r_bipush D_X10_next_170 k8_57 <| r_callS (av := [.int x1, .int (48 : Int32), .int (57 : Int32)]) D_X10_next_172 ml_X10_78 mf_X10_in ms_X10_in (x_X10_in rfl) (Nat.le_of_ble_eq_true rfl) rfl rfl (Nat.le_of_ble_eq_true rfl) <| r_if_eq D_X10_next_175 (fun c3 => let_h (ifT c3 h) fun h => r_aload_n D_X10_next_226 rfl <| r_aload_n D_X10_next_227 rfl <| r_getI D_X10_next_228 fl_X10_98 s_36 rfl <| r_bipush D_X10_next_231 k8_99 <| r_icmp_gt D_X10_next_233 (fun c4 => let_h (ifT c4 h) fun h => r_bipush D_X10_next_255 k8_11 <| r_goto D_X10_next_257 <| r_putI D_X10_next_262 fp_X10_101 s_36 rfl rfl rfl <| mlE h fun M5 h => r_goto D_X10_next_265 <| r_vret hq D_X10_next_295 rfl (rtV h)) (fun c4 => let_h (ifF c4 h) fun h => r_iload_n D_X10_next_236 rfl <| r_bipush D_X10_next_237 k8_48 <| r_icmp_ne D_X10_next_239 (fun c6 => let_h (ifT c6 h) fun h => r_aload_n D_X10_next_242 rfl <| r_getI D_X10_next_243 fl_X10_88 s_36 rfl <| r_aload_n D_X10_next_246 rfl <| r_getI D_X10_next_247 fl_X10_95 s_36 rfl <| r_isub D_X10_next_250 <| r_iconst D_X10_next_251 ki_1 <| r_icmp_le D_X10_next_252 (fun c7 => let_h (ifT c7 h) fun h => r_bipush D_X10_next_260 k8_9 <| r_putI D_X10_next_262 fp_X10_101 s_36 rfl rfl rfl <| mlE h fun M8 h => r_goto D_X10_next_265 <| r_vret hq D_X10_next_295 rfl (rtV h)) (fun c7 => let_h (ifF c7 h) fun h => r_bipush D_X10_next_255 k8_11 <| r_goto D_X10_next_257 <| r_putI D_X10_next_262 fp_X10_101 s_36 rfl rfl rfl <| mlE h fun M9 h => r_goto D_X10_next_265 <| r_vret hq D_X10_next_295 rfl (rtV h))) (fun c6 => let_h (ifF c6 h) fun h => r_bipush D_X10_next_260 k8_9 <| r_putI D_X10_next_262 fp_X10_101 s_36 rfl rfl rfl <| mlE h fun M10 h => r_goto D_X10_next_265 <| r_vret hq D_X10_next_295 rfl (rtV h)))) (fun c3 => let_h (ifF c3 h) fun h => r_aload_n D_X10_next_178 rfl <| r_aload_n D_X10_next_179 rfl <| r_getI D_X10_next_180 fl_X10_98 s_36 rfl <| r_bipush D_X10_next_183 k8_99 <| r_icmp_le D_X10_next_185 (fun c11 => let_h (ifT c11 h) fun h => r_bipush D_X10_next_195 k8_10 <| r_aload_n D_X10_next_197 rfl <| r_getI D_X10_next_198 fl_X10_98 s_36 rfl <| r_imul D_X10_next_201 <| r_aload_n D_X10_next_202 rfl <| (bdE h).elim fun x12 q13 => let_h q13.2 fun h => r_callV (av := []) D_X10_next_203 ml_X10_91 mf_X10_here mv_X10_here s_36 rfl rfl (x_X10_here q13.1) (Nat.le_of_ble_eq_true rfl) rfl rfl (Nat.le_of_ble_eq_true rfl) <| r_iadd D_X10_next_206 <| r_bipush D_X10_next_207 k8_48 <| r_isub D_X10_next_209 <| r_putI D_X10_next_210 fp_X10_98 s_36 rfl rfl rfl <| mlE h fun M14 h => r_aload_n D_X10_next_213 rfl <| r_dup D_X10_next_214 rfl <| r_getI D_X10_next_215 fl_X10_88 s_36 rfl <| r_iconst D_X10_next_218 ki_1 <| r_iadd D_X10_next_219 <| r_putI D_X10_next_220 fp_X10_88 s_36 rfl rfl rfl <| mlE h fun M15 h => r_goto D_X10_next_223 <| r_ls (x_X10_next_164 hq n y1 M15 h) ⟨rfl, ⟨rfl, trivial⟩⟩) (fun c11 => let_h (ifF c11 h) fun h => r_aload_n D_X10_next_188 rfl <| r_getI D_X10_next_189 fl_X10_98 s_36 rfl <| r_goto D_X10_next_192 <| r_putI D_X10_next_210 fp_X10_98 s_36 rfl rfl rfl <| mlE h fun M16 h => r_aload_n D_X10_next_213 rfl <| r_dup D_X10_next_214 rfl <| r_getI D_X10_next_215 fl_X10_88 s_36 rfl <| r_iconst D_X10_next_218 ki_1 <| r_iadd D_X10_next_219 <| r_putI D_X10_next_220 fp_X10_88 s_36 rfl rfl rfl <| mlE h fun M17 h => r_goto D_X10_next_223 <| r_ls (x_X10_next_164 hq n y1 M17 h) ⟨rfl, ⟨rfl, trivial⟩⟩))
def f_X10_next_0 (F : Nat) : Nat → Mem → Option Mem
  | 0, _ => none
  | n + 1, N => (f_X10_here N).bind fun x1 => if x1 = (32 : Int32) then (vlet (setI N 36 9 ((N.1 36 9) + (1 : Int32))) fun M4 => f_X10_next_0 F n M4) else (vlet (setI N 36 10 (N.1 36 9)) fun M5 => vlet (setI M5 36 12 (0 : Int32)) fun M6 => (f_X10_here M6).bind fun x7 => if 0 ≤ x7 then (if (f_X10_in M6 x7 (97 : Int32) (122 : Int32)) = 0 then (if (f_X10_in M6 x7 (48 : Int32) (57 : Int32)) = 0 then (vlet (setI M6 36 9 ((M6.1 36 9) + (1 : Int32))) fun M12 => if x7 = (59 : Int32) then (vlet (setI M12 36 11 (10 : Int32)) fun M14 => some M14) else (vlet (setI M12 36 11 (11 : Int32)) fun M15 => some M15)) else (f_X10_next_164 F F x7 M6)) else (f_X10_next_66 F F (0 : Int32) M6)) else (vlet (setI M6 36 11 (8 : Int32)) fun M16 => some M16))
theorem x_X10_next_0 {l : Launch} {w : Wd} {κ : Kp} {F : Nat} {v : Mem} (hq : RQ w (none, v) κ) : ∀ (n : Nat) (N : Mem), f_X10_next_0 F n N = some v → RR l w mi_X10_next (1) κ 0 [] [some (.ref (wq w 36)), none, none] N
  | 0, _, h => nomatch h
  | n + 1, N, h => let_h (show ((f_X10_here N).bind fun x1 => if x1 = (32 : Int32) then (vlet (setI N 36 9 ((N.1 36 9) + (1 : Int32))) fun M4 => f_X10_next_0 F n M4) else (vlet (setI N 36 10 (N.1 36 9)) fun M5 => vlet (setI M5 36 12 (0 : Int32)) fun M6 => (f_X10_here M6).bind fun x7 => if 0 ≤ x7 then (if (f_X10_in M6 x7 (97 : Int32) (122 : Int32)) = 0 then (if (f_X10_in M6 x7 (48 : Int32) (57 : Int32)) = 0 then (vlet (setI M6 36 9 ((M6.1 36 9) + (1 : Int32))) fun M12 => if x7 = (59 : Int32) then (vlet (setI M12 36 11 (10 : Int32)) fun M14 => some M14) else (vlet (setI M12 36 11 (11 : Int32)) fun M15 => some M15)) else (f_X10_next_164 F F x7 M6)) else (f_X10_next_66 F F (0 : Int32) M6)) else (vlet (setI M6 36 11 (8 : Int32)) fun M16 => some M16))) = some v from h) fun h => r_aload_n D_X10_next_0 rfl <| (bdE h).elim fun x1 q2 => let_h q2.2 fun h => r_callV (av := []) D_X10_next_1 ml_X10_91 mf_X10_here mv_X10_here s_36 rfl rfl (x_X10_here q2.1) (Nat.le_of_ble_eq_true rfl) rfl rfl (Nat.le_of_ble_eq_true rfl) <| r_bipush D_X10_next_4 k8_32 <| r_icmp_ne D_X10_next_6 (fun c3 => let_h (ifT c3 h) fun h => r_aload_n D_X10_next_9 rfl <| r_dup D_X10_next_10 rfl <| r_getI D_X10_next_11 fl_X10_88 s_36 rfl <| r_iconst D_X10_next_14 ki_1 <| r_iadd D_X10_next_15 <| r_putI D_X10_next_16 fp_X10_88 s_36 rfl rfl rfl <| mlE h fun M4 h => r_goto D_X10_next_19 <| r_ls (x_X10_next_0 hq n M4 h) ⟨rfl, trivial⟩) (fun c3 => let_h (ifF c3 h) fun h => r_aload_n D_X10_next_22 rfl <| r_aload_n D_X10_next_23 rfl <| r_getI D_X10_next_24 fl_X10_88 s_36 rfl <| r_putI D_X10_next_27 fp_X10_95 s_36 rfl rfl rfl <| mlE h fun M5 h => r_aload_n D_X10_next_30 rfl <| r_iconst D_X10_next_31 ki_0 <| r_putI D_X10_next_32 fp_X10_98 s_36 rfl rfl rfl <| mlE h fun M6 h => r_aload_n D_X10_next_35 rfl <| (bdE h).elim fun x7 q8 => let_h q8.2 fun h => r_callV (av := []) D_X10_next_36 ml_X10_91 mf_X10_here mv_X10_here s_36 rfl rfl (x_X10_here q8.1) (Nat.le_of_ble_eq_true rfl) rfl rfl (Nat.le_of_ble_eq_true rfl) <| r_istore_n D_X10_next_39 (by decide) rfl <| r_iload_n D_X10_next_40 rfl <| r_if_ge D_X10_next_41 (fun c9 => let_h (ifT c9 h) fun h => r_iload_n D_X10_next_53 rfl <| r_bipush D_X10_next_54 k8_97 <| r_bipush D_X10_next_56 k8_122 <| r_callS (av := [.int x7, .int (97 : Int32), .int (122 : Int32)]) D_X10_next_58 ml_X10_78 mf_X10_in ms_X10_in (x_X10_in rfl) (Nat.le_of_ble_eq_true rfl) rfl rfl (Nat.le_of_ble_eq_true rfl) <| r_if_eq D_X10_next_61 (fun c10 => let_h (ifT c10 h) fun h => r_iload_n D_X10_next_153 rfl <| r_bipush D_X10_next_154 k8_48 <| r_bipush D_X10_next_156 k8_57 <| r_callS (av := [.int x7, .int (48 : Int32), .int (57 : Int32)]) D_X10_next_158 ml_X10_78 mf_X10_in ms_X10_in (x_X10_in rfl) (Nat.le_of_ble_eq_true rfl) rfl rfl (Nat.le_of_ble_eq_true rfl) <| r_if_eq D_X10_next_161 (fun c11 => let_h (ifT c11 h) fun h => r_aload_n D_X10_next_268 rfl <| r_dup D_X10_next_269 rfl <| r_getI D_X10_next_270 fl_X10_88 s_36 rfl <| r_iconst D_X10_next_273 ki_1 <| r_iadd D_X10_next_274 <| r_putI D_X10_next_275 fp_X10_88 s_36 rfl rfl rfl <| mlE h fun M12 h => r_aload_n D_X10_next_278 rfl <| r_iload_n D_X10_next_279 rfl <| r_bipush D_X10_next_280 k8_59 <| r_icmp_ne D_X10_next_282 (fun c13 => let_h (ifT c13 h) fun h => r_bipush D_X10_next_285 k8_10 <| r_goto D_X10_next_287 <| r_putI D_X10_next_292 fp_X10_101 s_36 rfl rfl rfl <| mlE h fun M14 h => r_vret hq D_X10_next_295 rfl (rtV h)) (fun c13 => let_h (ifF c13 h) fun h => r_bipush D_X10_next_290 k8_11 <| r_putI D_X10_next_292 fp_X10_101 s_36 rfl rfl rfl <| mlE h fun M15 h => r_vret hq D_X10_next_295 rfl (rtV h))) (fun c11 => let_h (ifF c11 h) fun h => r_ls (x_X10_next_164 hq F x7 M6 h) ⟨rfl, ⟨rfl, trivial⟩⟩)) (fun c10 => let_h (ifF c10 h) fun h => r_iconst D_X10_next_64 ki_0 <| r_istore_n D_X10_next_65 (by decide) rfl <| r_ls (x_X10_next_66 hq F (0 : Int32) M6 h) ⟨rfl, ⟨rfl, trivial⟩⟩)) (fun c9 => let_h (ifF c9 h) fun h => r_aload_n D_X10_next_44 rfl <| r_bipush D_X10_next_45 k8_8 <| r_putI D_X10_next_47 fp_X10_101 s_36 rfl rfl rfl <| mlE h fun M16 h => r_goto D_X10_next_50 <| r_vret hq D_X10_next_295 rfl (rtV h)))
def f_X10_next (F : Nat) (M : Mem) : Option Mem := f_X10_next_0 F F M
theorem x_X10_next {l : Launch} {w : Wd} {F : Nat} {M : Mem} {v : Mem} (h : f_X10_next F M = some v) : Cn l w mi_X10_next yX10_next (1) [.ref (wq w 36)] M (none, v) :=
  Cn_of (loc0 := [some (.ref (wq w 36)), none, none]) rfl rfl rfl (Nat.le_of_ble_eq_true rfl) fun κ hq => let_h (show (f_X10_next_0 F F M) = some v from h) fun h => r_ls (x_X10_next_0 hq F M h) ⟨rfl, trivial⟩
-- X10_due
theorem D_X10_due_0 : Dec mi_X10_due 0 (.aload_n 0) 1 1 := ⟨by decide +kernel, rfl⟩
theorem D_X10_due_1 : Dec mi_X10_due 1 (.getfield 98) 3 4 := ⟨by decide +kernel, rfl⟩
theorem D_X10_due_4 : Dec mi_X10_due 4 (.istore_n 2) 1 5 := ⟨by decide +kernel, rfl⟩
theorem D_X10_due_5 : Dec mi_X10_due 5 (.aload_n 0) 1 6 := ⟨by decide +kernel, rfl⟩
theorem D_X10_due_6 : Dec mi_X10_due 6 (.getfield 108) 3 9 := ⟨by decide +kernel, rfl⟩
theorem D_X10_due_9 : Dec mi_X10_due 9 (.bipush (-9)) 2 11 := ⟨by decide +kernel, rfl⟩
theorem D_X10_due_11 : DecJ mi_X10_due 11 (.if_icmp .ne 22) (22) 14 33 := ⟨by decide +kernel, rfl, by decide⟩
theorem D_X10_due_14 : Dec mi_X10_due 14 (.iload_n 1) 1 15 := ⟨by decide +kernel, rfl⟩
theorem D_X10_due_15 : DecJ mi_X10_due 15 (.ifCond .eq 10) (10) 18 25 := ⟨by decide +kernel, rfl, by decide⟩
theorem D_X10_due_18 : Dec mi_X10_due 18 (.aload_n 0) 1 19 := ⟨by decide +kernel, rfl⟩
theorem D_X10_due_19 : Dec mi_X10_due 19 (.invokevirtual 111) 3 22 := ⟨by decide +kernel, rfl⟩
theorem D_X10_due_22 : DecJ mi_X10_due 22 (.goto 11) (11) 25 33 := ⟨by decide +kernel, rfl, by decide⟩
theorem D_X10_due_25 : Dec mi_X10_due 25 (.aload_n 0) 1 26 := ⟨by decide +kernel, rfl⟩
theorem D_X10_due_26 : Dec mi_X10_due 26 (.aload_n 0) 1 27 := ⟨by decide +kernel, rfl⟩
theorem D_X10_due_27 : Dec mi_X10_due 27 (.getfield 95) 3 30 := ⟨by decide +kernel, rfl⟩
theorem D_X10_due_30 : Dec mi_X10_due 30 (.putfield 108) 3 33 := ⟨by decide +kernel, rfl⟩
theorem D_X10_due_33 : Dec mi_X10_due 33 (.iload_n 2) 1 34 := ⟨by decide +kernel, rfl⟩
theorem D_X10_due_34 : Dec mi_X10_due 34 (.ireturn) 1 35 := ⟨by decide +kernel, rfl⟩
def f_X10_due (F : Nat) (M : Mem) (a1 : Int32) : Option (Int32 × Mem) := if (M.1 36 13) = (-9 : Int32) then (if a1 = 0 then (vlet (setI M 36 13 (M.1 36 10)) fun M3 => some ((M.1 36 12), M3)) else ((f_X10_next F M).bind fun p4 => some ((M.1 36 12), p4))) else (some ((M.1 36 12), M))
theorem x_X10_due {l : Launch} {w : Wd} {F : Nat} {M : Mem} {a1 : Int32} {v : Int32 × Mem} (h : f_X10_due F M a1 = some v) : Cn l w mi_X10_due yX10_due (2) [.ref (wq w 36), .int a1] M (some (.int v.1), v.2) :=
  Cn_of (loc0 := [some (.ref (wq w 36)), some (.int a1), none]) rfl rfl rfl (Nat.le_of_ble_eq_true rfl) fun κ hq => let_h (show (if (M.1 36 13) = (-9 : Int32) then (if a1 = 0 then (vlet (setI M 36 13 (M.1 36 10)) fun M3 => some ((M.1 36 12), M3)) else ((f_X10_next F M).bind fun p4 => some ((M.1 36 12), p4))) else (some ((M.1 36 12), M))) = some v from h) fun h => r_aload_n D_X10_due_0 rfl <| r_getI D_X10_due_1 fl_X10_98 s_36 rfl <| r_istore_n D_X10_due_4 (by decide) rfl <| r_aload_n D_X10_due_5 rfl <| r_getI D_X10_due_6 fl_X10_108 s_36 rfl <| r_bipush D_X10_due_9 k8_m9 <| r_icmp_ne D_X10_due_11 (fun c1 => let_h (ifT c1 h) fun h => r_iload_n D_X10_due_14 rfl <| r_if_eq D_X10_due_15 (fun c2 => let_h (ifT c2 h) fun h => r_aload_n D_X10_due_25 rfl <| r_aload_n D_X10_due_26 rfl <| r_getI D_X10_due_27 fl_X10_95 s_36 rfl <| r_putI D_X10_due_30 fp_X10_108 s_36 rfl rfl rfl <| mlE h fun M3 h => r_iload_n D_X10_due_33 rfl <| r_iret hq D_X10_due_34 rfl (rtW h)) (fun c2 => let_h (ifF c2 h) fun h => r_aload_n D_X10_due_18 rfl <| (bdE h).elim fun p4 q5 => let_h q5.2 fun h => r_callV (av := []) D_X10_due_19 ml_X10_111 mf_X10_next mv_X10_next s_36 rfl rfl (x_X10_next q5.1) (Nat.le_of_ble_eq_true rfl) rfl rfl (Nat.le_of_ble_eq_true rfl) <| r_goto D_X10_due_22 <| r_iload_n D_X10_due_33 rfl <| r_iret hq D_X10_due_34 rfl (rtW h))) (fun c1 => let_h (ifF c1 h) fun h => r_iload_n D_X10_due_33 rfl <| r_iret hq D_X10_due_34 rfl (rtW h))
-- X10_number
theorem D_X10_number_0 : Dec mi_X10_number 0 (.aload_n 0) 1 1 := ⟨by decide +kernel, rfl⟩
theorem D_X10_number_1 : Dec mi_X10_number 1 (.aload_n 0) 1 2 := ⟨by decide +kernel, rfl⟩
theorem D_X10_number_2 : Dec mi_X10_number 2 (.getfield 101) 3 5 := ⟨by decide +kernel, rfl⟩
theorem D_X10_number_5 : Dec mi_X10_number 5 (.bipush 9) 2 7 := ⟨by decide +kernel, rfl⟩
theorem D_X10_number_7 : DecJ mi_X10_number 7 (.if_icmp .ne 19) (19) 10 26 := ⟨by decide +kernel, rfl, by decide⟩
theorem D_X10_number_10 : Dec mi_X10_number 10 (.aload_n 0) 1 11 := ⟨by decide +kernel, rfl⟩
theorem D_X10_number_11 : Dec mi_X10_number 11 (.getfield 98) 3 14 := ⟨by decide +kernel, rfl⟩
theorem D_X10_number_14 : Dec mi_X10_number 14 (.iload_n 1) 1 15 := ⟨by decide +kernel, rfl⟩
theorem D_X10_number_15 : Dec mi_X10_number 15 (.iload_n 2) 1 16 := ⟨by decide +kernel, rfl⟩
theorem D_X10_number_16 : Dec mi_X10_number 16 (.invokestatic 78) 3 19 := ⟨by decide +kernel, rfl⟩
theorem D_X10_number_19 : DecJ mi_X10_number 19 (.ifCond .eq 7) (7) 22 26 := ⟨by decide +kernel, rfl, by decide⟩
theorem D_X10_number_22 : Dec mi_X10_number 22 (.iconst 1) 1 23 := ⟨by decide +kernel, rfl⟩
theorem D_X10_number_23 : DecJ mi_X10_number 23 (.goto 4) (4) 26 27 := ⟨by decide +kernel, rfl, by decide⟩
theorem D_X10_number_26 : Dec mi_X10_number 26 (.iconst 0) 1 27 := ⟨by decide +kernel, rfl⟩
theorem D_X10_number_27 : Dec mi_X10_number 27 (.invokevirtual 114) 3 30 := ⟨by decide +kernel, rfl⟩
theorem D_X10_number_30 : Dec mi_X10_number 30 (.ireturn) 1 31 := ⟨by decide +kernel, rfl⟩
def f_X10_number (F : Nat) (M : Mem) (a1 : Int32) (a2 : Int32) : Option (Int32 × Mem) := if (M.1 36 11) = (9 : Int32) then (if (f_X10_in M (M.1 36 12) a1 a2) = 0 then ((f_X10_due F M (0 : Int32)).bind fun p3 => some (p3.1, p3.2)) else ((f_X10_due F M (1 : Int32)).bind fun p5 => some (p5.1, p5.2))) else ((f_X10_due F M (0 : Int32)).bind fun p7 => some (p7.1, p7.2))
theorem x_X10_number {l : Launch} {w : Wd} {F : Nat} {M : Mem} {a1 : Int32} {a2 : Int32} {v : Int32 × Mem} (h : f_X10_number F M a1 a2 = some v) : Cn l w mi_X10_number yX10_number (3) [.ref (wq w 36), .int a1, .int a2] M (some (.int v.1), v.2) :=
  Cn_of (loc0 := [some (.ref (wq w 36)), some (.int a1), some (.int a2)]) rfl rfl rfl (Nat.le_of_ble_eq_true rfl) fun κ hq => let_h (show (if (M.1 36 11) = (9 : Int32) then (if (f_X10_in M (M.1 36 12) a1 a2) = 0 then ((f_X10_due F M (0 : Int32)).bind fun p3 => some (p3.1, p3.2)) else ((f_X10_due F M (1 : Int32)).bind fun p5 => some (p5.1, p5.2))) else ((f_X10_due F M (0 : Int32)).bind fun p7 => some (p7.1, p7.2))) = some v from h) fun h => r_aload_n D_X10_number_0 rfl <| r_aload_n D_X10_number_1 rfl <| r_getI D_X10_number_2 fl_X10_101 s_36 rfl <| r_bipush D_X10_number_5 k8_9 <| r_icmp_ne D_X10_number_7 (fun c1 => let_h (ifT c1 h) fun h => r_aload_n D_X10_number_10 rfl <| r_getI D_X10_number_11 fl_X10_98 s_36 rfl <| r_iload_n D_X10_number_14 rfl <| r_iload_n D_X10_number_15 rfl <| r_callS (av := [.int (M.1 36 12), .int a1, .int a2]) D_X10_number_16 ml_X10_78 mf_X10_in ms_X10_in (x_X10_in rfl) (Nat.le_of_ble_eq_true rfl) rfl rfl (Nat.le_of_ble_eq_true rfl) <| r_if_eq D_X10_number_19 (fun c2 => let_h (ifT c2 h) fun h => r_iconst D_X10_number_26 ki_0 <| (bdE h).elim fun p3 q4 => let_h q4.2 fun h => r_callV (av := [.int (0 : Int32)]) D_X10_number_27 ml_X10_114 mf_X10_due mv_X10_due s_36 rfl rfl (x_X10_due q4.1) (Nat.le_of_ble_eq_true rfl) rfl rfl (Nat.le_of_ble_eq_true rfl) <| r_iret hq D_X10_number_30 rfl (rtW h)) (fun c2 => let_h (ifF c2 h) fun h => r_iconst D_X10_number_22 ki_1 <| r_goto D_X10_number_23 <| (bdE h).elim fun p5 q6 => let_h q6.2 fun h => r_callV (av := [.int (1 : Int32)]) D_X10_number_27 ml_X10_114 mf_X10_due mv_X10_due s_36 rfl rfl (x_X10_due q6.1) (Nat.le_of_ble_eq_true rfl) rfl rfl (Nat.le_of_ble_eq_true rfl) <| r_iret hq D_X10_number_30 rfl (rtW h))) (fun c1 => let_h (ifF c1 h) fun h => r_iconst D_X10_number_26 ki_0 <| (bdE h).elim fun p7 q8 => let_h q8.2 fun h => r_callV (av := [.int (0 : Int32)]) D_X10_number_27 ml_X10_114 mf_X10_due mv_X10_due s_36 rfl rfl (x_X10_due q8.1) (Nat.le_of_ble_eq_true rfl) rfl rfl (Nat.le_of_ble_eq_true rfl) <| r_iret hq D_X10_number_30 rfl (rtW h))
-- X10_optional
theorem D_X10_optional_0 : Dec mi_X10_optional 0 (.aload_n 0) 1 1 := ⟨by decide +kernel, rfl⟩
theorem D_X10_optional_1 : Dec mi_X10_optional 1 (.getfield 108) 3 4 := ⟨by decide +kernel, rfl⟩
theorem D_X10_optional_4 : Dec mi_X10_optional 4 (.bipush (-9)) 2 6 := ⟨by decide +kernel, rfl⟩
theorem D_X10_optional_6 : DecJ mi_X10_optional 6 (.if_icmp .ne 15) (15) 9 21 := ⟨by decide +kernel, rfl, by decide⟩
theorem D_X10_optional_9 : Dec mi_X10_optional 9 (.aload_n 0) 1 10 := ⟨by decide +kernel, rfl⟩
theorem D_X10_optional_10 : Dec mi_X10_optional 10 (.getfield 101) 3 13 := ⟨by decide +kernel, rfl⟩
theorem D_X10_optional_13 : Dec mi_X10_optional 13 (.iload_n 1) 1 14 := ⟨by decide +kernel, rfl⟩
theorem D_X10_optional_14 : DecJ mi_X10_optional 14 (.if_icmp .ne 7) (7) 17 21 := ⟨by decide +kernel, rfl, by decide⟩
theorem D_X10_optional_17 : Dec mi_X10_optional 17 (.iconst 1) 1 18 := ⟨by decide +kernel, rfl⟩
theorem D_X10_optional_18 : DecJ mi_X10_optional 18 (.goto 4) (4) 21 22 := ⟨by decide +kernel, rfl, by decide⟩
theorem D_X10_optional_21 : Dec mi_X10_optional 21 (.iconst 0) 1 22 := ⟨by decide +kernel, rfl⟩
theorem D_X10_optional_22 : Dec mi_X10_optional 22 (.istore_n 2) 1 23 := ⟨by decide +kernel, rfl⟩
theorem D_X10_optional_23 : Dec mi_X10_optional 23 (.iload_n 2) 1 24 := ⟨by decide +kernel, rfl⟩
theorem D_X10_optional_24 : DecJ mi_X10_optional 24 (.ifCond .eq 9) (9) 27 33 := ⟨by decide +kernel, rfl, by decide⟩
theorem D_X10_optional_27 : Dec mi_X10_optional 27 (.aload_n 0) 1 28 := ⟨by decide +kernel, rfl⟩
theorem D_X10_optional_28 : Dec mi_X10_optional 28 (.iconst 1) 1 29 := ⟨by decide +kernel, rfl⟩
theorem D_X10_optional_29 : Dec mi_X10_optional 29 (.invokevirtual 114) 3 32 := ⟨by decide +kernel, rfl⟩
theorem D_X10_optional_32 : Dec mi_X10_optional 32 (.pop) 1 33 := ⟨by decide +kernel, rfl⟩
theorem D_X10_optional_33 : Dec mi_X10_optional 33 (.iload_n 2) 1 34 := ⟨by decide +kernel, rfl⟩
theorem D_X10_optional_34 : Dec mi_X10_optional 34 (.ireturn) 1 35 := ⟨by decide +kernel, rfl⟩
def f_X10_optional (F : Nat) (M : Mem) (a1 : Int32) : Option (Int32 × Mem) := if (M.1 36 13) = (-9 : Int32) then (if (M.1 36 11) = a1 then (if (1 : Int32) = 0 then (some ((1 : Int32), M)) else ((f_X10_due F M (1 : Int32)).bind fun p4 => some ((1 : Int32), p4.2))) else (if (0 : Int32) = 0 then (some ((0 : Int32), M)) else ((f_X10_due F M (1 : Int32)).bind fun p7 => some ((0 : Int32), p7.2)))) else (if (0 : Int32) = 0 then (some ((0 : Int32), M)) else ((f_X10_due F M (1 : Int32)).bind fun p10 => some ((0 : Int32), p10.2)))
theorem x_X10_optional {l : Launch} {w : Wd} {F : Nat} {M : Mem} {a1 : Int32} {v : Int32 × Mem} (h : f_X10_optional F M a1 = some v) : Cn l w mi_X10_optional yX10_optional (3) [.ref (wq w 36), .int a1] M (some (.int v.1), v.2) :=
  Cn_of (loc0 := [some (.ref (wq w 36)), some (.int a1), none]) rfl rfl rfl (Nat.le_of_ble_eq_true rfl) fun κ hq => let_h (show (if (M.1 36 13) = (-9 : Int32) then (if (M.1 36 11) = a1 then (if (1 : Int32) = 0 then (some ((1 : Int32), M)) else ((f_X10_due F M (1 : Int32)).bind fun p4 => some ((1 : Int32), p4.2))) else (if (0 : Int32) = 0 then (some ((0 : Int32), M)) else ((f_X10_due F M (1 : Int32)).bind fun p7 => some ((0 : Int32), p7.2)))) else (if (0 : Int32) = 0 then (some ((0 : Int32), M)) else ((f_X10_due F M (1 : Int32)).bind fun p10 => some ((0 : Int32), p10.2)))) = some v from h) fun h => r_aload_n D_X10_optional_0 rfl <| r_getI D_X10_optional_1 fl_X10_108 s_36 rfl <| r_bipush D_X10_optional_4 k8_m9 <| r_icmp_ne D_X10_optional_6 (fun c1 => let_h (ifT c1 h) fun h => r_aload_n D_X10_optional_9 rfl <| r_getI D_X10_optional_10 fl_X10_101 s_36 rfl <| r_iload_n D_X10_optional_13 rfl <| r_icmp_ne D_X10_optional_14 (fun c2 => let_h (ifT c2 h) fun h => r_iconst D_X10_optional_17 ki_1 <| r_goto D_X10_optional_18 <| r_istore_n D_X10_optional_22 (by decide) rfl <| r_iload_n D_X10_optional_23 rfl <| r_if_eq D_X10_optional_24 (fun c3 => let_h (ifT c3 h) fun h => r_iload_n D_X10_optional_33 rfl <| r_zret hq D_X10_optional_34 rfl rfl (rtW h)) (fun c3 => let_h (ifF c3 h) fun h => r_aload_n D_X10_optional_27 rfl <| r_iconst D_X10_optional_28 ki_1 <| (bdE h).elim fun p4 q5 => let_h q5.2 fun h => r_callV (av := [.int (1 : Int32)]) D_X10_optional_29 ml_X10_114 mf_X10_due mv_X10_due s_36 rfl rfl (x_X10_due q5.1) (Nat.le_of_ble_eq_true rfl) rfl rfl (Nat.le_of_ble_eq_true rfl) <| r_pop D_X10_optional_32 rfl <| r_iload_n D_X10_optional_33 rfl <| r_zret hq D_X10_optional_34 rfl rfl (rtW h))) (fun c2 => let_h (ifF c2 h) fun h => r_iconst D_X10_optional_21 ki_0 <| r_istore_n D_X10_optional_22 (by decide) rfl <| r_iload_n D_X10_optional_23 rfl <| r_if_eq D_X10_optional_24 (fun c6 => let_h (ifT c6 h) fun h => r_iload_n D_X10_optional_33 rfl <| r_zret hq D_X10_optional_34 rfl rfl (rtW h)) (fun c6 => let_h (ifF c6 h) fun h => r_aload_n D_X10_optional_27 rfl <| r_iconst D_X10_optional_28 ki_1 <| (bdE h).elim fun p7 q8 => let_h q8.2 fun h => r_callV (av := [.int (1 : Int32)]) D_X10_optional_29 ml_X10_114 mf_X10_due mv_X10_due s_36 rfl rfl (x_X10_due q8.1) (Nat.le_of_ble_eq_true rfl) rfl rfl (Nat.le_of_ble_eq_true rfl) <| r_pop D_X10_optional_32 rfl <| r_iload_n D_X10_optional_33 rfl <| r_zret hq D_X10_optional_34 rfl rfl (rtW h)))) (fun c1 => let_h (ifF c1 h) fun h => r_iconst D_X10_optional_21 ki_0 <| r_istore_n D_X10_optional_22 (by decide) rfl <| r_iload_n D_X10_optional_23 rfl <| r_if_eq D_X10_optional_24 (fun c9 => let_h (ifT c9 h) fun h => r_iload_n D_X10_optional_33 rfl <| r_zret hq D_X10_optional_34 rfl rfl (rtW h)) (fun c9 => let_h (ifF c9 h) fun h => r_aload_n D_X10_optional_27 rfl <| r_iconst D_X10_optional_28 ki_1 <| (bdE h).elim fun p10 q11 => let_h q11.2 fun h => r_callV (av := [.int (1 : Int32)]) D_X10_optional_29 ml_X10_114 mf_X10_due mv_X10_due s_36 rfl rfl (x_X10_due q11.1) (Nat.le_of_ble_eq_true rfl) rfl rfl (Nat.le_of_ble_eq_true rfl) <| r_pop D_X10_optional_32 rfl <| r_iload_n D_X10_optional_33 rfl <| r_zret hq D_X10_optional_34 rfl rfl (rtW h)))
-- X10_readThing
theorem D_X10_readThing_0 : Dec mi_X10_readThing 0 (.bipush 48) 2 2 := ⟨by decide +kernel, rfl⟩
theorem D_X10_readThing_2 : Dec mi_X10_readThing 2 (.bipush 8) 2 4 := ⟨by decide +kernel, rfl⟩
theorem D_X10_readThing_4 : Dec mi_X10_readThing 4 (.aload_n 0) 1 5 := ⟨by decide +kernel, rfl⟩
theorem D_X10_readThing_5 : Dec mi_X10_readThing 5 (.getfield 13) 3 8 := ⟨by decide +kernel, rfl⟩
theorem D_X10_readThing_8 : Dec mi_X10_readThing 8 (.iconst 1) 1 9 := ⟨by decide +kernel, rfl⟩
theorem D_X10_readThing_9 : Dec mi_X10_readThing 9 (.iaload) 1 10 := ⟨by decide +kernel, rfl⟩
theorem D_X10_readThing_10 : Dec mi_X10_readThing 10 (.imul) 1 11 := ⟨by decide +kernel, rfl⟩
theorem D_X10_readThing_11 : Dec mi_X10_readThing 11 (.iadd) 1 12 := ⟨by decide +kernel, rfl⟩
theorem D_X10_readThing_12 : Dec mi_X10_readThing 12 (.istore_n 2) 1 13 := ⟨by decide +kernel, rfl⟩
theorem D_X10_readThing_13 : Dec mi_X10_readThing 13 (.aload_n 0) 1 14 := ⟨by decide +kernel, rfl⟩
theorem D_X10_readThing_14 : Dec mi_X10_readThing 14 (.getfield 17) 3 17 := ⟨by decide +kernel, rfl⟩
theorem D_X10_readThing_17 : Dec mi_X10_readThing 17 (.iload_n 2) 1 18 := ⟨by decide +kernel, rfl⟩
theorem D_X10_readThing_18 : Dec mi_X10_readThing 18 (.iload_n 1) 1 19 := ⟨by decide +kernel, rfl⟩
theorem D_X10_readThing_19 : Dec mi_X10_readThing 19 (.iastore) 1 20 := ⟨by decide +kernel, rfl⟩
theorem D_X10_readThing_20 : Dec mi_X10_readThing 20 (.aload_n 0) 1 21 := ⟨by decide +kernel, rfl⟩
theorem D_X10_readThing_21 : Dec mi_X10_readThing 21 (.getfield 17) 3 24 := ⟨by decide +kernel, rfl⟩
theorem D_X10_readThing_24 : Dec mi_X10_readThing 24 (.iload_n 2) 1 25 := ⟨by decide +kernel, rfl⟩
theorem D_X10_readThing_25 : Dec mi_X10_readThing 25 (.iconst 1) 1 26 := ⟨by decide +kernel, rfl⟩
theorem D_X10_readThing_26 : Dec mi_X10_readThing 26 (.iadd) 1 27 := ⟨by decide +kernel, rfl⟩
theorem D_X10_readThing_27 : Dec mi_X10_readThing 27 (.aload_n 0) 1 28 := ⟨by decide +kernel, rfl⟩
theorem D_X10_readThing_28 : Dec mi_X10_readThing 28 (.iconst 0) 1 29 := ⟨by decide +kernel, rfl⟩
theorem D_X10_readThing_29 : Dec mi_X10_readThing 29 (.bipush 9) 2 31 := ⟨by decide +kernel, rfl⟩
theorem D_X10_readThing_31 : Dec mi_X10_readThing 31 (.invokevirtual 118) 3 34 := ⟨by decide +kernel, rfl⟩
theorem D_X10_readThing_34 : Dec mi_X10_readThing 34 (.iastore) 1 35 := ⟨by decide +kernel, rfl⟩
theorem D_X10_readThing_35 : Dec mi_X10_readThing 35 (.aload_n 0) 1 36 := ⟨by decide +kernel, rfl⟩
theorem D_X10_readThing_36 : Dec mi_X10_readThing 36 (.getfield 17) 3 39 := ⟨by decide +kernel, rfl⟩
theorem D_X10_readThing_39 : Dec mi_X10_readThing 39 (.iload_n 2) 1 40 := ⟨by decide +kernel, rfl⟩
theorem D_X10_readThing_40 : Dec mi_X10_readThing 40 (.iconst 2) 1 41 := ⟨by decide +kernel, rfl⟩
theorem D_X10_readThing_41 : Dec mi_X10_readThing 41 (.iadd) 1 42 := ⟨by decide +kernel, rfl⟩
theorem D_X10_readThing_42 : Dec mi_X10_readThing 42 (.aload_n 0) 1 43 := ⟨by decide +kernel, rfl⟩
theorem D_X10_readThing_43 : Dec mi_X10_readThing 43 (.iconst 0) 1 44 := ⟨by decide +kernel, rfl⟩
theorem D_X10_readThing_44 : Dec mi_X10_readThing 44 (.bipush 9) 2 46 := ⟨by decide +kernel, rfl⟩
theorem D_X10_readThing_46 : Dec mi_X10_readThing 46 (.invokevirtual 118) 3 49 := ⟨by decide +kernel, rfl⟩
theorem D_X10_readThing_49 : Dec mi_X10_readThing 49 (.iastore) 1 50 := ⟨by decide +kernel, rfl⟩
theorem D_X10_readThing_50 : Dec mi_X10_readThing 50 (.aload_n 0) 1 51 := ⟨by decide +kernel, rfl⟩
theorem D_X10_readThing_51 : Dec mi_X10_readThing 51 (.getfield 17) 3 54 := ⟨by decide +kernel, rfl⟩
theorem D_X10_readThing_54 : Dec mi_X10_readThing 54 (.iload_n 2) 1 55 := ⟨by decide +kernel, rfl⟩
theorem D_X10_readThing_55 : Dec mi_X10_readThing 55 (.iconst 3) 1 56 := ⟨by decide +kernel, rfl⟩
theorem D_X10_readThing_56 : Dec mi_X10_readThing 56 (.iadd) 1 57 := ⟨by decide +kernel, rfl⟩
theorem D_X10_readThing_57 : Dec mi_X10_readThing 57 (.aload_n 0) 1 58 := ⟨by decide +kernel, rfl⟩
theorem D_X10_readThing_58 : Dec mi_X10_readThing 58 (.iconst 1) 1 59 := ⟨by decide +kernel, rfl⟩
theorem D_X10_readThing_59 : Dec mi_X10_readThing 59 (.bipush 99) 2 61 := ⟨by decide +kernel, rfl⟩
theorem D_X10_readThing_61 : Dec mi_X10_readThing 61 (.invokevirtual 118) 3 64 := ⟨by decide +kernel, rfl⟩
theorem D_X10_readThing_64 : Dec mi_X10_readThing 64 (.iastore) 1 65 := ⟨by decide +kernel, rfl⟩
theorem D_X10_readThing_65 : Dec mi_X10_readThing 65 (.aload_n 0) 1 66 := ⟨by decide +kernel, rfl⟩
theorem D_X10_readThing_66 : Dec mi_X10_readThing 66 (.getfield 17) 3 69 := ⟨by decide +kernel, rfl⟩
theorem D_X10_readThing_69 : Dec mi_X10_readThing 69 (.iload_n 2) 1 70 := ⟨by decide +kernel, rfl⟩
theorem D_X10_readThing_70 : Dec mi_X10_readThing 70 (.iconst 4) 1 71 := ⟨by decide +kernel, rfl⟩
theorem D_X10_readThing_71 : Dec mi_X10_readThing 71 (.iadd) 1 72 := ⟨by decide +kernel, rfl⟩
theorem D_X10_readThing_72 : Dec mi_X10_readThing 72 (.aload_n 0) 1 73 := ⟨by decide +kernel, rfl⟩
theorem D_X10_readThing_73 : Dec mi_X10_readThing 73 (.iconst 1) 1 74 := ⟨by decide +kernel, rfl⟩
theorem D_X10_readThing_74 : Dec mi_X10_readThing 74 (.bipush 99) 2 76 := ⟨by decide +kernel, rfl⟩
theorem D_X10_readThing_76 : Dec mi_X10_readThing 76 (.invokevirtual 118) 3 79 := ⟨by decide +kernel, rfl⟩
theorem D_X10_readThing_79 : Dec mi_X10_readThing 79 (.iastore) 1 80 := ⟨by decide +kernel, rfl⟩
theorem D_X10_readThing_80 : Dec mi_X10_readThing 80 (.aload_n 0) 1 81 := ⟨by decide +kernel, rfl⟩
theorem D_X10_readThing_81 : Dec mi_X10_readThing 81 (.getfield 17) 3 84 := ⟨by decide +kernel, rfl⟩
theorem D_X10_readThing_84 : Dec mi_X10_readThing 84 (.iload_n 2) 1 85 := ⟨by decide +kernel, rfl⟩
theorem D_X10_readThing_85 : Dec mi_X10_readThing 85 (.iconst 5) 1 86 := ⟨by decide +kernel, rfl⟩
theorem D_X10_readThing_86 : Dec mi_X10_readThing 86 (.iadd) 1 87 := ⟨by decide +kernel, rfl⟩
theorem D_X10_readThing_87 : Dec mi_X10_readThing 87 (.aload_n 0) 1 88 := ⟨by decide +kernel, rfl⟩
theorem D_X10_readThing_88 : Dec mi_X10_readThing 88 (.iconst 0) 1 89 := ⟨by decide +kernel, rfl⟩
theorem D_X10_readThing_89 : Dec mi_X10_readThing 89 (.bipush 99) 2 91 := ⟨by decide +kernel, rfl⟩
theorem D_X10_readThing_91 : Dec mi_X10_readThing 91 (.invokevirtual 118) 3 94 := ⟨by decide +kernel, rfl⟩
theorem D_X10_readThing_94 : Dec mi_X10_readThing 94 (.iastore) 1 95 := ⟨by decide +kernel, rfl⟩
theorem D_X10_readThing_95 : Dec mi_X10_readThing 95 (.aload_n 0) 1 96 := ⟨by decide +kernel, rfl⟩
theorem D_X10_readThing_96 : Dec mi_X10_readThing 96 (.getfield 17) 3 99 := ⟨by decide +kernel, rfl⟩
theorem D_X10_readThing_99 : Dec mi_X10_readThing 99 (.iload_n 2) 1 100 := ⟨by decide +kernel, rfl⟩
theorem D_X10_readThing_100 : Dec mi_X10_readThing 100 (.bipush 6) 2 102 := ⟨by decide +kernel, rfl⟩
theorem D_X10_readThing_102 : Dec mi_X10_readThing 102 (.iadd) 1 103 := ⟨by decide +kernel, rfl⟩
theorem D_X10_readThing_103 : Dec mi_X10_readThing 103 (.iload_n 1) 1 104 := ⟨by decide +kernel, rfl⟩
theorem D_X10_readThing_104 : Dec mi_X10_readThing 104 (.iconst 2) 1 105 := ⟨by decide +kernel, rfl⟩
theorem D_X10_readThing_105 : DecJ mi_X10_readThing 105 (.if_icmp .ne 7) (7) 108 112 := ⟨by decide +kernel, rfl, by decide⟩
theorem D_X10_readThing_108 : Dec mi_X10_readThing 108 (.iconst 0) 1 109 := ⟨by decide +kernel, rfl⟩
theorem D_X10_readThing_109 : DecJ mi_X10_readThing 109 (.goto 9) (9) 112 118 := ⟨by decide +kernel, rfl, by decide⟩
theorem D_X10_readThing_112 : Dec mi_X10_readThing 112 (.aload_n 0) 1 113 := ⟨by decide +kernel, rfl⟩
theorem D_X10_readThing_113 : Dec mi_X10_readThing 113 (.iconst 1) 1 114 := ⟨by decide +kernel, rfl⟩
theorem D_X10_readThing_114 : Dec mi_X10_readThing 114 (.iconst 2) 1 115 := ⟨by decide +kernel, rfl⟩
theorem D_X10_readThing_115 : Dec mi_X10_readThing 115 (.invokevirtual 118) 3 118 := ⟨by decide +kernel, rfl⟩
theorem D_X10_readThing_118 : Dec mi_X10_readThing 118 (.iastore) 1 119 := ⟨by decide +kernel, rfl⟩
theorem D_X10_readThing_119 : Dec mi_X10_readThing 119 (.aload_n 0) 1 120 := ⟨by decide +kernel, rfl⟩
theorem D_X10_readThing_120 : Dec mi_X10_readThing 120 (.getfield 17) 3 123 := ⟨by decide +kernel, rfl⟩
theorem D_X10_readThing_123 : Dec mi_X10_readThing 123 (.iload_n 2) 1 124 := ⟨by decide +kernel, rfl⟩
theorem D_X10_readThing_124 : Dec mi_X10_readThing 124 (.bipush 7) 2 126 := ⟨by decide +kernel, rfl⟩
theorem D_X10_readThing_126 : Dec mi_X10_readThing 126 (.iadd) 1 127 := ⟨by decide +kernel, rfl⟩
theorem D_X10_readThing_127 : Dec mi_X10_readThing 127 (.iload_n 1) 1 128 := ⟨by decide +kernel, rfl⟩
theorem D_X10_readThing_128 : Dec mi_X10_readThing 128 (.iconst 2) 1 129 := ⟨by decide +kernel, rfl⟩
theorem D_X10_readThing_129 : DecJ mi_X10_readThing 129 (.if_icmp .eq 15) (15) 132 144 := ⟨by decide +kernel, rfl, by decide⟩
theorem D_X10_readThing_132 : Dec mi_X10_readThing 132 (.aload_n 0) 1 133 := ⟨by decide +kernel, rfl⟩
theorem D_X10_readThing_133 : Dec mi_X10_readThing 133 (.iconst 3) 1 134 := ⟨by decide +kernel, rfl⟩
theorem D_X10_readThing_134 : Dec mi_X10_readThing 134 (.invokevirtual 122) 3 137 := ⟨by decide +kernel, rfl⟩
theorem D_X10_readThing_137 : DecJ mi_X10_readThing 137 (.ifCond .eq 7) (7) 140 144 := ⟨by decide +kernel, rfl, by decide⟩
theorem D_X10_readThing_140 : Dec mi_X10_readThing 140 (.iconst 1) 1 141 := ⟨by decide +kernel, rfl⟩
theorem D_X10_readThing_141 : DecJ mi_X10_readThing 141 (.goto 4) (4) 144 145 := ⟨by decide +kernel, rfl, by decide⟩
theorem D_X10_readThing_144 : Dec mi_X10_readThing 144 (.iconst 0) 1 145 := ⟨by decide +kernel, rfl⟩
theorem D_X10_readThing_145 : Dec mi_X10_readThing 145 (.iastore) 1 146 := ⟨by decide +kernel, rfl⟩
theorem D_X10_readThing_146 : Dec mi_X10_readThing 146 (.aload_n 0) 1 147 := ⟨by decide +kernel, rfl⟩
theorem D_X10_readThing_147 : Dec mi_X10_readThing 147 (.getfield 20) 3 150 := ⟨by decide +kernel, rfl⟩
theorem D_X10_readThing_150 : Dec mi_X10_readThing 150 (.bipush 6) 2 152 := ⟨by decide +kernel, rfl⟩
theorem D_X10_readThing_152 : Dec mi_X10_readThing 152 (.aload_n 0) 1 153 := ⟨by decide +kernel, rfl⟩
theorem D_X10_readThing_153 : Dec mi_X10_readThing 153 (.getfield 13) 3 156 := ⟨by decide +kernel, rfl⟩
theorem D_X10_readThing_156 : Dec mi_X10_readThing 156 (.iconst 1) 1 157 := ⟨by decide +kernel, rfl⟩
theorem D_X10_readThing_157 : Dec mi_X10_readThing 157 (.iaload) 1 158 := ⟨by decide +kernel, rfl⟩
theorem D_X10_readThing_158 : Dec mi_X10_readThing 158 (.iadd) 1 159 := ⟨by decide +kernel, rfl⟩
theorem D_X10_readThing_159 : Dec mi_X10_readThing 159 (.iconst 0) 1 160 := ⟨by decide +kernel, rfl⟩
theorem D_X10_readThing_160 : Dec mi_X10_readThing 160 (.iastore) 1 161 := ⟨by decide +kernel, rfl⟩
theorem D_X10_readThing_161 : Dec mi_X10_readThing 161 (.aload_n 0) 1 162 := ⟨by decide +kernel, rfl⟩
theorem D_X10_readThing_162 : Dec mi_X10_readThing 162 (.getfield 13) 3 165 := ⟨by decide +kernel, rfl⟩
theorem D_X10_readThing_165 : Dec mi_X10_readThing 165 (.iconst 1) 1 166 := ⟨by decide +kernel, rfl⟩
theorem D_X10_readThing_166 : Dec mi_X10_readThing 166 (.dup2) 1 167 := ⟨by decide +kernel, rfl⟩
theorem D_X10_readThing_167 : Dec mi_X10_readThing 167 (.iaload) 1 168 := ⟨by decide +kernel, rfl⟩
theorem D_X10_readThing_168 : Dec mi_X10_readThing 168 (.iconst 1) 1 169 := ⟨by decide +kernel, rfl⟩
theorem D_X10_readThing_169 : Dec mi_X10_readThing 169 (.iadd) 1 170 := ⟨by decide +kernel, rfl⟩
theorem D_X10_readThing_170 : Dec mi_X10_readThing 170 (.iastore) 1 171 := ⟨by decide +kernel, rfl⟩
theorem D_X10_readThing_171 : Dec mi_X10_readThing 171 (.return_) 1 172 := ⟨by decide +kernel, rfl⟩
def f_X10_readThing_145 (F : Nat) (t0 : Int32) (t1 : Int32) (N : Mem) : Option Mem := if ck t1 96 = true then (vlet (setI N 39 t1.toNatClampNeg t0) fun M2 => if ck (1 : Int32) 2 = true then (if ck ((6 : Int32) + (M2.1 38 (1 : Int32).toNatClampNeg)) 12 = true then (vlet (setI M2 40 ((6 : Int32) + (M2.1 38 (1 : Int32).toNatClampNeg)).toNatClampNeg (0 : Int32)) fun M5 => if ck (1 : Int32) 2 = true then (if ck (1 : Int32) 2 = true then (vlet (setI M5 38 (1 : Int32).toNatClampNeg ((M5.1 38 (1 : Int32).toNatClampNeg) + (1 : Int32))) fun M8 => some M8) else none) else none) else none) else none) else none
theorem x_X10_readThing_145 {l : Launch} {w : Wd} {κ : Kp} {F : Nat} {v : Mem} (hq : RQ w (none, v) κ) (t0 : Int32) (t1 : Int32) (N : Mem) (h : f_X10_readThing_145 F t0 t1 N = some v) : RR l w mi_X10_readThing (4) κ 145 [.int t0, .int t1, .ref (wq w 39)] [some (.ref (wq w 36)), none, none] N := let_h (show (if ck t1 96 = true then (vlet (setI N 39 t1.toNatClampNeg t0) fun M2 => if ck (1 : Int32) 2 = true then (if ck ((6 : Int32) + (M2.1 38 (1 : Int32).toNatClampNeg)) 12 = true then (vlet (setI M2 40 ((6 : Int32) + (M2.1 38 (1 : Int32).toNatClampNeg)).toNatClampNeg (0 : Int32)) fun M5 => if ck (1 : Int32) 2 = true then (if ck (1 : Int32) 2 = true then (vlet (setI M5 38 (1 : Int32).toNatClampNeg ((M5.1 38 (1 : Int32).toNatClampNeg) + (1 : Int32))) fun M8 => some M8) else none) else none) else none) else none) else none) = some v from h) fun h => (ckE h).elim fun c1 h => r_iast D_X10_readThing_145 s_39 c1 <| mlE h fun M2 h => r_aload_n D_X10_readThing_146 rfl <| r_getR (j := 40) D_X10_readThing_147 fl_X10_20 s_36 rfl <| r_bipush D_X10_readThing_150 k8_6 <| r_aload_n D_X10_readThing_152 rfl <| r_getR (j := 38) D_X10_readThing_153 fl_X10_13 s_36 rfl <| r_iconst D_X10_readThing_156 ki_1 <| (ckE h).elim fun c3 h => r_iald D_X10_readThing_157 s_38 c3 <| r_iadd D_X10_readThing_158 <| r_iconst D_X10_readThing_159 ki_0 <| (ckE h).elim fun c4 h => r_iast D_X10_readThing_160 s_40 c4 <| mlE h fun M5 h => r_aload_n D_X10_readThing_161 rfl <| r_getR (j := 38) D_X10_readThing_162 fl_X10_13 s_36 rfl <| r_iconst D_X10_readThing_165 ki_1 <| r_dup2 D_X10_readThing_166 rfl rfl <| (ckE h).elim fun c6 h => r_iald D_X10_readThing_167 s_38 c6 <| r_iconst D_X10_readThing_168 ki_1 <| r_iadd D_X10_readThing_169 <| (ckE h).elim fun c7 h => r_iast D_X10_readThing_170 s_38 c7 <| mlE h fun M8 h => r_vret hq D_X10_readThing_171 rfl (rtV h)
def f_X10_readThing_118 (F : Nat) (y1 : Int32) (y2 : Int32) (t0 : Int32) (t1 : Int32) (N : Mem) : Option Mem := if ck t1 96 = true then (vlet (setI N 39 t1.toNatClampNeg t0) fun M2 => if y1 = (2 : Int32) then (f_X10_readThing_145 F (0 : Int32) (y2 + (7 : Int32)) M2) else ((f_X10_optional F M2 (3 : Int32)).bind fun p4 => if p4.1 = 0 then (f_X10_readThing_145 F (0 : Int32) (y2 + (7 : Int32)) p4.2) else (f_X10_readThing_145 F (1 : Int32) (y2 + (7 : Int32)) p4.2))) else none
theorem x_X10_readThing_118 {l : Launch} {w : Wd} {κ : Kp} {F : Nat} {v : Mem} (hq : RQ w (none, v) κ) (y1 : Int32) (y2 : Int32) (t0 : Int32) (t1 : Int32) (N : Mem) (h : f_X10_readThing_118 F y1 y2 t0 t1 N = some v) : RR l w mi_X10_readThing (4) κ 118 [.int t0, .int t1, .ref (wq w 39)] [some (.ref (wq w 36)), some (.int y1), some (.int y2)] N := let_h (show (if ck t1 96 = true then (vlet (setI N 39 t1.toNatClampNeg t0) fun M2 => if y1 = (2 : Int32) then (f_X10_readThing_145 F (0 : Int32) (y2 + (7 : Int32)) M2) else ((f_X10_optional F M2 (3 : Int32)).bind fun p4 => if p4.1 = 0 then (f_X10_readThing_145 F (0 : Int32) (y2 + (7 : Int32)) p4.2) else (f_X10_readThing_145 F (1 : Int32) (y2 + (7 : Int32)) p4.2))) else none) = some v from h) fun h => (ckE h).elim fun c1 h => r_iast D_X10_readThing_118 s_39 c1 <| mlE h fun M2 h => r_aload_n D_X10_readThing_119 rfl <| r_getR (j := 39) D_X10_readThing_120 fl_X10_17 s_36 rfl <| r_iload_n D_X10_readThing_123 rfl <| r_bipush D_X10_readThing_124 k8_7 <| r_iadd D_X10_readThing_126 <| r_iload_n D_X10_readThing_127 rfl <| r_iconst D_X10_readThing_128 ki_2 <| r_icmp_eq D_X10_readThing_129 (fun c3 => let_h (ifT c3 h) fun h => r_iconst D_X10_readThing_144 ki_0 <| r_ls (x_X10_readThing_145 hq (0 : Int32) (y2 + (7 : Int32)) M2 h) ⟨rfl, trivial⟩) (fun c3 => let_h (ifF c3 h) fun h => r_aload_n D_X10_readThing_132 rfl <| r_iconst D_X10_readThing_133 ki_3 <| (bdE h).elim fun p4 q5 => let_h q5.2 fun h => r_callV (av := [.int (3 : Int32)]) D_X10_readThing_134 ml_X10_122 mf_X10_optional mv_X10_optional s_36 rfl rfl (x_X10_optional q5.1) (Nat.le_of_ble_eq_true rfl) rfl rfl (Nat.le_of_ble_eq_true rfl) <| r_if_eq D_X10_readThing_137 (fun c6 => let_h (ifT c6 h) fun h => r_iconst D_X10_readThing_144 ki_0 <| r_ls (x_X10_readThing_145 hq (0 : Int32) (y2 + (7 : Int32)) p4.2 h) ⟨rfl, trivial⟩) (fun c6 => let_h (ifF c6 h) fun h => r_iconst D_X10_readThing_140 ki_1 <| r_goto D_X10_readThing_141 <| r_ls (x_X10_readThing_145 hq (1 : Int32) (y2 + (7 : Int32)) p4.2 h) ⟨rfl, trivial⟩))
def f_X10_readThing (F : Nat) (M : Mem) (a1 : Int32) : Option Mem := if ck (1 : Int32) 2 = true then (vlet ((48 : Int32) + ((8 : Int32) * (M.1 38 (1 : Int32).toNatClampNeg))) fun x2 => if ck x2 96 = true then (vlet (setI M 39 x2.toNatClampNeg a1) fun M4 => (f_X10_number F M4 (0 : Int32) (9 : Int32)).bind fun p5 => if ck (x2 + (1 : Int32)) 96 = true then (vlet (setI p5.2 39 (x2 + (1 : Int32)).toNatClampNeg p5.1) fun M8 => (f_X10_number F M8 (0 : Int32) (9 : Int32)).bind fun p9 => if ck (x2 + (2 : Int32)) 96 = true then (vlet (setI p9.2 39 (x2 + (2 : Int32)).toNatClampNeg p9.1) fun M12 => (f_X10_number F M12 (1 : Int32) (99 : Int32)).bind fun p13 => if ck (x2 + (3 : Int32)) 96 = true then (vlet (setI p13.2 39 (x2 + (3 : Int32)).toNatClampNeg p13.1) fun M16 => (f_X10_number F M16 (1 : Int32) (99 : Int32)).bind fun p17 => if ck (x2 + (4 : Int32)) 96 = true then (vlet (setI p17.2 39 (x2 + (4 : Int32)).toNatClampNeg p17.1) fun M20 => (f_X10_number F M20 (0 : Int32) (99 : Int32)).bind fun p21 => if ck (x2 + (5 : Int32)) 96 = true then (vlet (setI p21.2 39 (x2 + (5 : Int32)).toNatClampNeg p21.1) fun M24 => if a1 = (2 : Int32) then (f_X10_readThing_118 F a1 x2 (0 : Int32) (x2 + (6 : Int32)) M24) else ((f_X10_number F M24 (1 : Int32) (2 : Int32)).bind fun p26 => f_X10_readThing_118 F a1 x2 p26.1 (x2 + (6 : Int32)) p26.2)) else none) else none) else none) else none) else none) else none) else none
theorem x_X10_readThing {l : Launch} {w : Wd} {F : Nat} {M : Mem} {a1 : Int32} {v : Mem} (h : f_X10_readThing F M a1 = some v) : Cn l w mi_X10_readThing yX10_readThing (4) [.ref (wq w 36), .int a1] M (none, v) :=
  Cn_of (loc0 := [some (.ref (wq w 36)), some (.int a1), none]) rfl rfl rfl (Nat.le_of_ble_eq_true rfl) fun κ hq => let_h (show (if ck (1 : Int32) 2 = true then (vlet ((48 : Int32) + ((8 : Int32) * (M.1 38 (1 : Int32).toNatClampNeg))) fun x2 => if ck x2 96 = true then (vlet (setI M 39 x2.toNatClampNeg a1) fun M4 => (f_X10_number F M4 (0 : Int32) (9 : Int32)).bind fun p5 => if ck (x2 + (1 : Int32)) 96 = true then (vlet (setI p5.2 39 (x2 + (1 : Int32)).toNatClampNeg p5.1) fun M8 => (f_X10_number F M8 (0 : Int32) (9 : Int32)).bind fun p9 => if ck (x2 + (2 : Int32)) 96 = true then (vlet (setI p9.2 39 (x2 + (2 : Int32)).toNatClampNeg p9.1) fun M12 => (f_X10_number F M12 (1 : Int32) (99 : Int32)).bind fun p13 => if ck (x2 + (3 : Int32)) 96 = true then (vlet (setI p13.2 39 (x2 + (3 : Int32)).toNatClampNeg p13.1) fun M16 => (f_X10_number F M16 (1 : Int32) (99 : Int32)).bind fun p17 => if ck (x2 + (4 : Int32)) 96 = true then (vlet (setI p17.2 39 (x2 + (4 : Int32)).toNatClampNeg p17.1) fun M20 => (f_X10_number F M20 (0 : Int32) (99 : Int32)).bind fun p21 => if ck (x2 + (5 : Int32)) 96 = true then (vlet (setI p21.2 39 (x2 + (5 : Int32)).toNatClampNeg p21.1) fun M24 => if a1 = (2 : Int32) then (f_X10_readThing_118 F a1 x2 (0 : Int32) (x2 + (6 : Int32)) M24) else ((f_X10_number F M24 (1 : Int32) (2 : Int32)).bind fun p26 => f_X10_readThing_118 F a1 x2 p26.1 (x2 + (6 : Int32)) p26.2)) else none) else none) else none) else none) else none) else none) else none) = some v from h) fun h => r_bipush D_X10_readThing_0 k8_48 <| r_bipush D_X10_readThing_2 k8_8 <| r_aload_n D_X10_readThing_4 rfl <| r_getR (j := 38) D_X10_readThing_5 fl_X10_13 s_36 rfl <| r_iconst D_X10_readThing_8 ki_1 <| (ckE h).elim fun c1 h => r_iald D_X10_readThing_9 s_38 c1 <| r_imul D_X10_readThing_10 <| r_iadd D_X10_readThing_11 <| vlE (fun x2 => RR l w mi_X10_readThing (4) κ 12 [.int x2] [some (.ref (wq w 36)), some (.int a1), none] M) h fun x2 h => r_istore_n D_X10_readThing_12 (by decide) rfl <| r_aload_n D_X10_readThing_13 rfl <| r_getR (j := 39) D_X10_readThing_14 fl_X10_17 s_36 rfl <| r_iload_n D_X10_readThing_17 rfl <| r_iload_n D_X10_readThing_18 rfl <| (ckE h).elim fun c3 h => r_iast D_X10_readThing_19 s_39 c3 <| mlE h fun M4 h => r_aload_n D_X10_readThing_20 rfl <| r_getR (j := 39) D_X10_readThing_21 fl_X10_17 s_36 rfl <| r_iload_n D_X10_readThing_24 rfl <| r_iconst D_X10_readThing_25 ki_1 <| r_iadd D_X10_readThing_26 <| r_aload_n D_X10_readThing_27 rfl <| r_iconst D_X10_readThing_28 ki_0 <| r_bipush D_X10_readThing_29 k8_9 <| (bdE h).elim fun p5 q6 => let_h q6.2 fun h => r_callV (av := [.int (0 : Int32), .int (9 : Int32)]) D_X10_readThing_31 ml_X10_118 mf_X10_number mv_X10_number s_36 rfl rfl (x_X10_number q6.1) (Nat.le_of_ble_eq_true rfl) rfl rfl (Nat.le_of_ble_eq_true rfl) <| (ckE h).elim fun c7 h => r_iast D_X10_readThing_34 s_39 c7 <| mlE h fun M8 h => r_aload_n D_X10_readThing_35 rfl <| r_getR (j := 39) D_X10_readThing_36 fl_X10_17 s_36 rfl <| r_iload_n D_X10_readThing_39 rfl <| r_iconst D_X10_readThing_40 ki_2 <| r_iadd D_X10_readThing_41 <| r_aload_n D_X10_readThing_42 rfl <| r_iconst D_X10_readThing_43 ki_0 <| r_bipush D_X10_readThing_44 k8_9 <| (bdE h).elim fun p9 q10 => let_h q10.2 fun h => r_callV (av := [.int (0 : Int32), .int (9 : Int32)]) D_X10_readThing_46 ml_X10_118 mf_X10_number mv_X10_number s_36 rfl rfl (x_X10_number q10.1) (Nat.le_of_ble_eq_true rfl) rfl rfl (Nat.le_of_ble_eq_true rfl) <| (ckE h).elim fun c11 h => r_iast D_X10_readThing_49 s_39 c11 <| mlE h fun M12 h => r_aload_n D_X10_readThing_50 rfl <| r_getR (j := 39) D_X10_readThing_51 fl_X10_17 s_36 rfl <| r_iload_n D_X10_readThing_54 rfl <| r_iconst D_X10_readThing_55 ki_3 <| r_iadd D_X10_readThing_56 <| r_aload_n D_X10_readThing_57 rfl <| r_iconst D_X10_readThing_58 ki_1 <| r_bipush D_X10_readThing_59 k8_99 <| (bdE h).elim fun p13 q14 => let_h q14.2 fun h => r_callV (av := [.int (1 : Int32), .int (99 : Int32)]) D_X10_readThing_61 ml_X10_118 mf_X10_number mv_X10_number s_36 rfl rfl (x_X10_number q14.1) (Nat.le_of_ble_eq_true rfl) rfl rfl (Nat.le_of_ble_eq_true rfl) <| (ckE h).elim fun c15 h => r_iast D_X10_readThing_64 s_39 c15 <| mlE h fun M16 h => r_aload_n D_X10_readThing_65 rfl <| r_getR (j := 39) D_X10_readThing_66 fl_X10_17 s_36 rfl <| r_iload_n D_X10_readThing_69 rfl <| r_iconst D_X10_readThing_70 ki_4 <| r_iadd D_X10_readThing_71 <| r_aload_n D_X10_readThing_72 rfl <| r_iconst D_X10_readThing_73 ki_1 <| r_bipush D_X10_readThing_74 k8_99 <| (bdE h).elim fun p17 q18 => let_h q18.2 fun h => r_callV (av := [.int (1 : Int32), .int (99 : Int32)]) D_X10_readThing_76 ml_X10_118 mf_X10_number mv_X10_number s_36 rfl rfl (x_X10_number q18.1) (Nat.le_of_ble_eq_true rfl) rfl rfl (Nat.le_of_ble_eq_true rfl) <| (ckE h).elim fun c19 h => r_iast D_X10_readThing_79 s_39 c19 <| mlE h fun M20 h => r_aload_n D_X10_readThing_80 rfl <| r_getR (j := 39) D_X10_readThing_81 fl_X10_17 s_36 rfl <| r_iload_n D_X10_readThing_84 rfl <| r_iconst D_X10_readThing_85 ki_5 <| r_iadd D_X10_readThing_86 <| r_aload_n D_X10_readThing_87 rfl <| r_iconst D_X10_readThing_88 ki_0 <| r_bipush D_X10_readThing_89 k8_99 <| (bdE h).elim fun p21 q22 => let_h q22.2 fun h => r_callV (av := [.int (0 : Int32), .int (99 : Int32)]) D_X10_readThing_91 ml_X10_118 mf_X10_number mv_X10_number s_36 rfl rfl (x_X10_number q22.1) (Nat.le_of_ble_eq_true rfl) rfl rfl (Nat.le_of_ble_eq_true rfl) <| (ckE h).elim fun c23 h => r_iast D_X10_readThing_94 s_39 c23 <| mlE h fun M24 h => r_aload_n D_X10_readThing_95 rfl <| r_getR (j := 39) D_X10_readThing_96 fl_X10_17 s_36 rfl <| r_iload_n D_X10_readThing_99 rfl <| r_bipush D_X10_readThing_100 k8_6 <| r_iadd D_X10_readThing_102 <| r_iload_n D_X10_readThing_103 rfl <| r_iconst D_X10_readThing_104 ki_2 <| r_icmp_ne D_X10_readThing_105 (fun c25 => let_h (ifT c25 h) fun h => r_iconst D_X10_readThing_108 ki_0 <| r_goto D_X10_readThing_109 <| r_ls (x_X10_readThing_118 hq a1 x2 (0 : Int32) (x2 + (6 : Int32)) M24 h) ⟨rfl, ⟨rfl, ⟨rfl, trivial⟩⟩⟩) (fun c25 => let_h (ifF c25 h) fun h => r_aload_n D_X10_readThing_112 rfl <| r_iconst D_X10_readThing_113 ki_1 <| r_iconst D_X10_readThing_114 ki_2 <| (bdE h).elim fun p26 q27 => let_h q27.2 fun h => r_callV (av := [.int (1 : Int32), .int (2 : Int32)]) D_X10_readThing_115 ml_X10_118 mf_X10_number mv_X10_number s_36 rfl rfl (x_X10_number q27.1) (Nat.le_of_ble_eq_true rfl) rfl rfl (Nat.le_of_ble_eq_true rfl) <| r_ls (x_X10_readThing_118 hq a1 x2 p26.1 (x2 + (6 : Int32)) p26.2 h) ⟨rfl, ⟨rfl, ⟨rfl, trivial⟩⟩⟩)
-- X10_readDay
theorem D_X10_readDay_0 : Dec mi_X10_readDay 0 (.bipush 32) 2 2 := ⟨by decide +kernel, rfl⟩
theorem D_X10_readDay_2 : Dec mi_X10_readDay 2 (.iconst 4) 1 3 := ⟨by decide +kernel, rfl⟩
theorem D_X10_readDay_3 : Dec mi_X10_readDay 3 (.aload_n 0) 1 4 := ⟨by decide +kernel, rfl⟩
theorem D_X10_readDay_4 : Dec mi_X10_readDay 4 (.getfield 23) 3 7 := ⟨by decide +kernel, rfl⟩
theorem D_X10_readDay_7 : Dec mi_X10_readDay 7 (.iconst 1) 1 8 := ⟨by decide +kernel, rfl⟩
theorem D_X10_readDay_8 : Dec mi_X10_readDay 8 (.iaload) 1 9 := ⟨by decide +kernel, rfl⟩
theorem D_X10_readDay_9 : Dec mi_X10_readDay 9 (.imul) 1 10 := ⟨by decide +kernel, rfl⟩
theorem D_X10_readDay_10 : Dec mi_X10_readDay 10 (.iadd) 1 11 := ⟨by decide +kernel, rfl⟩
theorem D_X10_readDay_11 : Dec mi_X10_readDay 11 (.istore_n 1) 1 12 := ⟨by decide +kernel, rfl⟩
theorem D_X10_readDay_12 : Dec mi_X10_readDay 12 (.aload_n 0) 1 13 := ⟨by decide +kernel, rfl⟩
theorem D_X10_readDay_13 : Dec mi_X10_readDay 13 (.getfield 26) 3 16 := ⟨by decide +kernel, rfl⟩
theorem D_X10_readDay_16 : Dec mi_X10_readDay 16 (.iload_n 1) 1 17 := ⟨by decide +kernel, rfl⟩
theorem D_X10_readDay_17 : Dec mi_X10_readDay 17 (.aload_n 0) 1 18 := ⟨by decide +kernel, rfl⟩
theorem D_X10_readDay_18 : Dec mi_X10_readDay 18 (.iconst 0) 1 19 := ⟨by decide +kernel, rfl⟩
theorem D_X10_readDay_19 : Dec mi_X10_readDay 19 (.bipush 27) 2 21 := ⟨by decide +kernel, rfl⟩
theorem D_X10_readDay_21 : Dec mi_X10_readDay 21 (.invokevirtual 118) 3 24 := ⟨by decide +kernel, rfl⟩
theorem D_X10_readDay_24 : Dec mi_X10_readDay 24 (.iastore) 1 25 := ⟨by decide +kernel, rfl⟩
theorem D_X10_readDay_25 : Dec mi_X10_readDay 25 (.aload_n 0) 1 26 := ⟨by decide +kernel, rfl⟩
theorem D_X10_readDay_26 : Dec mi_X10_readDay 26 (.getfield 26) 3 29 := ⟨by decide +kernel, rfl⟩
theorem D_X10_readDay_29 : Dec mi_X10_readDay 29 (.iload_n 1) 1 30 := ⟨by decide +kernel, rfl⟩
theorem D_X10_readDay_30 : Dec mi_X10_readDay 30 (.iconst 1) 1 31 := ⟨by decide +kernel, rfl⟩
theorem D_X10_readDay_31 : Dec mi_X10_readDay 31 (.iadd) 1 32 := ⟨by decide +kernel, rfl⟩
theorem D_X10_readDay_32 : Dec mi_X10_readDay 32 (.aload_n 0) 1 33 := ⟨by decide +kernel, rfl⟩
theorem D_X10_readDay_33 : Dec mi_X10_readDay 33 (.iconst 0) 1 34 := ⟨by decide +kernel, rfl⟩
theorem D_X10_readDay_34 : Dec mi_X10_readDay 34 (.bipush 9) 2 36 := ⟨by decide +kernel, rfl⟩
theorem D_X10_readDay_36 : Dec mi_X10_readDay 36 (.invokevirtual 118) 3 39 := ⟨by decide +kernel, rfl⟩
theorem D_X10_readDay_39 : Dec mi_X10_readDay 39 (.iastore) 1 40 := ⟨by decide +kernel, rfl⟩
theorem D_X10_readDay_40 : Dec mi_X10_readDay 40 (.aload_n 0) 1 41 := ⟨by decide +kernel, rfl⟩
theorem D_X10_readDay_41 : Dec mi_X10_readDay 41 (.getfield 26) 3 44 := ⟨by decide +kernel, rfl⟩
theorem D_X10_readDay_44 : Dec mi_X10_readDay 44 (.iload_n 1) 1 45 := ⟨by decide +kernel, rfl⟩
theorem D_X10_readDay_45 : Dec mi_X10_readDay 45 (.iconst 2) 1 46 := ⟨by decide +kernel, rfl⟩
theorem D_X10_readDay_46 : Dec mi_X10_readDay 46 (.iadd) 1 47 := ⟨by decide +kernel, rfl⟩
theorem D_X10_readDay_47 : Dec mi_X10_readDay 47 (.aload_n 0) 1 48 := ⟨by decide +kernel, rfl⟩
theorem D_X10_readDay_48 : Dec mi_X10_readDay 48 (.bipush 6) 2 50 := ⟨by decide +kernel, rfl⟩
theorem D_X10_readDay_50 : Dec mi_X10_readDay 50 (.invokevirtual 122) 3 53 := ⟨by decide +kernel, rfl⟩
theorem D_X10_readDay_53 : DecJ mi_X10_readDay 53 (.ifCond .eq 7) (7) 56 60 := ⟨by decide +kernel, rfl, by decide⟩
theorem D_X10_readDay_56 : Dec mi_X10_readDay 56 (.iconst 1) 1 57 := ⟨by decide +kernel, rfl⟩
theorem D_X10_readDay_57 : DecJ mi_X10_readDay 57 (.goto 4) (4) 60 61 := ⟨by decide +kernel, rfl, by decide⟩
theorem D_X10_readDay_60 : Dec mi_X10_readDay 60 (.iconst 0) 1 61 := ⟨by decide +kernel, rfl⟩
theorem D_X10_readDay_61 : Dec mi_X10_readDay 61 (.iastore) 1 62 := ⟨by decide +kernel, rfl⟩
theorem D_X10_readDay_62 : Dec mi_X10_readDay 62 (.aload_n 0) 1 63 := ⟨by decide +kernel, rfl⟩
theorem D_X10_readDay_63 : Dec mi_X10_readDay 63 (.getfield 26) 3 66 := ⟨by decide +kernel, rfl⟩
theorem D_X10_readDay_66 : Dec mi_X10_readDay 66 (.iload_n 1) 1 67 := ⟨by decide +kernel, rfl⟩
theorem D_X10_readDay_67 : Dec mi_X10_readDay 67 (.iconst 3) 1 68 := ⟨by decide +kernel, rfl⟩
theorem D_X10_readDay_68 : Dec mi_X10_readDay 68 (.iadd) 1 69 := ⟨by decide +kernel, rfl⟩
theorem D_X10_readDay_69 : Dec mi_X10_readDay 69 (.iconst 0) 1 70 := ⟨by decide +kernel, rfl⟩
theorem D_X10_readDay_70 : Dec mi_X10_readDay 70 (.iastore) 1 71 := ⟨by decide +kernel, rfl⟩
theorem D_X10_readDay_71 : Dec mi_X10_readDay 71 (.aload_n 0) 1 72 := ⟨by decide +kernel, rfl⟩
theorem D_X10_readDay_72 : Dec mi_X10_readDay 72 (.bipush 7) 2 74 := ⟨by decide +kernel, rfl⟩
theorem D_X10_readDay_74 : Dec mi_X10_readDay 74 (.invokevirtual 122) 3 77 := ⟨by decide +kernel, rfl⟩
theorem D_X10_readDay_77 : DecJ mi_X10_readDay 77 (.ifCond .eq 93) (93) 80 170 := ⟨by decide +kernel, rfl, by decide⟩
theorem D_X10_readDay_80 : Dec mi_X10_readDay 80 (.aload_n 0) 1 81 := ⟨by decide +kernel, rfl⟩
theorem D_X10_readDay_81 : Dec mi_X10_readDay 81 (.getfield 26) 3 84 := ⟨by decide +kernel, rfl⟩
theorem D_X10_readDay_84 : Dec mi_X10_readDay 84 (.iload_n 1) 1 85 := ⟨by decide +kernel, rfl⟩
theorem D_X10_readDay_85 : Dec mi_X10_readDay 85 (.iconst 3) 1 86 := ⟨by decide +kernel, rfl⟩
theorem D_X10_readDay_86 : Dec mi_X10_readDay 86 (.iadd) 1 87 := ⟨by decide +kernel, rfl⟩
theorem D_X10_readDay_87 : Dec mi_X10_readDay 87 (.aload_n 0) 1 88 := ⟨by decide +kernel, rfl⟩
theorem D_X10_readDay_88 : Dec mi_X10_readDay 88 (.aload_n 0) 1 89 := ⟨by decide +kernel, rfl⟩
theorem D_X10_readDay_89 : Dec mi_X10_readDay 89 (.getfield 101) 3 92 := ⟨by decide +kernel, rfl⟩
theorem D_X10_readDay_92 : Dec mi_X10_readDay 92 (.bipush 9) 2 94 := ⟨by decide +kernel, rfl⟩
theorem D_X10_readDay_94 : DecJ mi_X10_readDay 94 (.if_icmp .ne 40) (40) 97 134 := ⟨by decide +kernel, rfl, by decide⟩
theorem D_X10_readDay_97 : Dec mi_X10_readDay 97 (.aload_n 0) 1 98 := ⟨by decide +kernel, rfl⟩
theorem D_X10_readDay_98 : Dec mi_X10_readDay 98 (.getfield 98) 3 101 := ⟨by decide +kernel, rfl⟩
theorem D_X10_readDay_101 : Dec mi_X10_readDay 101 (.bipush 10) 2 103 := ⟨by decide +kernel, rfl⟩
theorem D_X10_readDay_103 : DecJ mi_X10_readDay 103 (.if_icmp .gt 31) (31) 106 134 := ⟨by decide +kernel, rfl, by decide⟩
theorem D_X10_readDay_106 : Dec mi_X10_readDay 106 (.aload_n 0) 1 107 := ⟨by decide +kernel, rfl⟩
theorem D_X10_readDay_107 : Dec mi_X10_readDay 107 (.getfield 98) 3 110 := ⟨by decide +kernel, rfl⟩
theorem D_X10_readDay_110 : DecJ mi_X10_readDay 110 (.ifCond .eq 20) (20) 113 130 := ⟨by decide +kernel, rfl, by decide⟩
theorem D_X10_readDay_113 : Dec mi_X10_readDay 113 (.aload_n 0) 1 114 := ⟨by decide +kernel, rfl⟩
theorem D_X10_readDay_114 : Dec mi_X10_readDay 114 (.getfield 98) 3 117 := ⟨by decide +kernel, rfl⟩
theorem D_X10_readDay_117 : Dec mi_X10_readDay 117 (.bipush 10) 2 119 := ⟨by decide +kernel, rfl⟩
theorem D_X10_readDay_119 : DecJ mi_X10_readDay 119 (.if_icmp .eq 11) (11) 122 130 := ⟨by decide +kernel, rfl, by decide⟩
theorem D_X10_readDay_122 : Dec mi_X10_readDay 122 (.aload_n 0) 1 123 := ⟨by decide +kernel, rfl⟩
theorem D_X10_readDay_123 : Dec mi_X10_readDay 123 (.getfield 126) 3 126 := ⟨by decide +kernel, rfl⟩
theorem D_X10_readDay_126 : Dec mi_X10_readDay 126 (.iconst 4) 1 127 := ⟨by decide +kernel, rfl⟩
theorem D_X10_readDay_127 : DecJ mi_X10_readDay 127 (.if_icmp .ge 7) (7) 130 134 := ⟨by decide +kernel, rfl, by decide⟩
theorem D_X10_readDay_130 : Dec mi_X10_readDay 130 (.iconst 1) 1 131 := ⟨by decide +kernel, rfl⟩
theorem D_X10_readDay_131 : DecJ mi_X10_readDay 131 (.goto 4) (4) 134 135 := ⟨by decide +kernel, rfl, by decide⟩
theorem D_X10_readDay_134 : Dec mi_X10_readDay 134 (.iconst 0) 1 135 := ⟨by decide +kernel, rfl⟩
theorem D_X10_readDay_135 : Dec mi_X10_readDay 135 (.invokevirtual 114) 3 138 := ⟨by decide +kernel, rfl⟩
theorem D_X10_readDay_138 : Dec mi_X10_readDay 138 (.iastore) 1 139 := ⟨by decide +kernel, rfl⟩
theorem D_X10_readDay_139 : Dec mi_X10_readDay 139 (.aload_n 0) 1 140 := ⟨by decide +kernel, rfl⟩
theorem D_X10_readDay_140 : Dec mi_X10_readDay 140 (.dup) 1 141 := ⟨by decide +kernel, rfl⟩
theorem D_X10_readDay_141 : Dec mi_X10_readDay 141 (.getfield 126) 3 144 := ⟨by decide +kernel, rfl⟩
theorem D_X10_readDay_144 : Dec mi_X10_readDay 144 (.aload_n 0) 1 145 := ⟨by decide +kernel, rfl⟩
theorem D_X10_readDay_145 : Dec mi_X10_readDay 145 (.getfield 26) 3 148 := ⟨by decide +kernel, rfl⟩
theorem D_X10_readDay_148 : Dec mi_X10_readDay 148 (.iload_n 1) 1 149 := ⟨by decide +kernel, rfl⟩
theorem D_X10_readDay_149 : Dec mi_X10_readDay 149 (.iconst 3) 1 150 := ⟨by decide +kernel, rfl⟩
theorem D_X10_readDay_150 : Dec mi_X10_readDay 150 (.iadd) 1 151 := ⟨by decide +kernel, rfl⟩
theorem D_X10_readDay_151 : Dec mi_X10_readDay 151 (.iaload) 1 152 := ⟨by decide +kernel, rfl⟩
theorem D_X10_readDay_152 : Dec mi_X10_readDay 152 (.iconst 1) 1 153 := ⟨by decide +kernel, rfl⟩
theorem D_X10_readDay_153 : Dec mi_X10_readDay 153 (.bipush 9) 2 155 := ⟨by decide +kernel, rfl⟩
theorem D_X10_readDay_155 : Dec mi_X10_readDay 155 (.invokestatic 78) 3 158 := ⟨by decide +kernel, rfl⟩
theorem D_X10_readDay_158 : DecJ mi_X10_readDay 158 (.ifCond .eq 7) (7) 161 165 := ⟨by decide +kernel, rfl, by decide⟩
theorem D_X10_readDay_161 : Dec mi_X10_readDay 161 (.iconst 1) 1 162 := ⟨by decide +kernel, rfl⟩
theorem D_X10_readDay_162 : DecJ mi_X10_readDay 162 (.goto 4) (4) 165 166 := ⟨by decide +kernel, rfl, by decide⟩
theorem D_X10_readDay_165 : Dec mi_X10_readDay 165 (.iconst 0) 1 166 := ⟨by decide +kernel, rfl⟩
theorem D_X10_readDay_166 : Dec mi_X10_readDay 166 (.iadd) 1 167 := ⟨by decide +kernel, rfl⟩
theorem D_X10_readDay_167 : Dec mi_X10_readDay 167 (.putfield 126) 3 170 := ⟨by decide +kernel, rfl⟩
theorem D_X10_readDay_170 : Dec mi_X10_readDay 170 (.aload_n 0) 1 171 := ⟨by decide +kernel, rfl⟩
theorem D_X10_readDay_171 : Dec mi_X10_readDay 171 (.getfield 23) 3 174 := ⟨by decide +kernel, rfl⟩
theorem D_X10_readDay_174 : Dec mi_X10_readDay 174 (.iconst 1) 1 175 := ⟨by decide +kernel, rfl⟩
theorem D_X10_readDay_175 : Dec mi_X10_readDay 175 (.dup2) 1 176 := ⟨by decide +kernel, rfl⟩
theorem D_X10_readDay_176 : Dec mi_X10_readDay 176 (.iaload) 1 177 := ⟨by decide +kernel, rfl⟩
theorem D_X10_readDay_177 : Dec mi_X10_readDay 177 (.iconst 1) 1 178 := ⟨by decide +kernel, rfl⟩
theorem D_X10_readDay_178 : Dec mi_X10_readDay 178 (.iadd) 1 179 := ⟨by decide +kernel, rfl⟩
theorem D_X10_readDay_179 : Dec mi_X10_readDay 179 (.iastore) 1 180 := ⟨by decide +kernel, rfl⟩
theorem D_X10_readDay_180 : Dec mi_X10_readDay 180 (.return_) 1 181 := ⟨by decide +kernel, rfl⟩
def f_X10_readDay_135 (F : Nat) (y1 : Int32) (t0 : Int32) (t2 : Int32) (N : Mem) : Option Mem := (f_X10_due F N t0).bind fun p1 => if ck t2 64 = true then (vlet (setI p1.2 42 t2.toNatClampNeg p1.1) fun M4 => if ck (y1 + (3 : Int32)) 64 = true then (if (f_X10_in M4 (M4.1 42 (y1 + (3 : Int32)).toNatClampNeg) (1 : Int32) (9 : Int32)) = 0 then (vlet (setI M4 36 14 ((M4.1 36 14) + (0 : Int32))) fun M7 => if ck (1 : Int32) 2 = true then (if ck (1 : Int32) 2 = true then (vlet (setI M7 41 (1 : Int32).toNatClampNeg ((M7.1 41 (1 : Int32).toNatClampNeg) + (1 : Int32))) fun M10 => some M10) else none) else none) else (vlet (setI M4 36 14 ((M4.1 36 14) + (1 : Int32))) fun M11 => if ck (1 : Int32) 2 = true then (if ck (1 : Int32) 2 = true then (vlet (setI M11 41 (1 : Int32).toNatClampNeg ((M11.1 41 (1 : Int32).toNatClampNeg) + (1 : Int32))) fun M14 => some M14) else none) else none)) else none) else none
theorem x_X10_readDay_135 {l : Launch} {w : Wd} {κ : Kp} {F : Nat} {v : Mem} (hq : RQ w (none, v) κ) (y1 : Int32) (t0 : Int32) (t2 : Int32) (N : Mem) (h : f_X10_readDay_135 F y1 t0 t2 N = some v) : RR l w mi_X10_readDay (4) κ 135 [.int t0, .ref (wq w 36), .int t2, .ref (wq w 42)] [some (.ref (wq w 36)), some (.int y1)] N := let_h (show ((f_X10_due F N t0).bind fun p1 => if ck t2 64 = true then (vlet (setI p1.2 42 t2.toNatClampNeg p1.1) fun M4 => if ck (y1 + (3 : Int32)) 64 = true then (if (f_X10_in M4 (M4.1 42 (y1 + (3 : Int32)).toNatClampNeg) (1 : Int32) (9 : Int32)) = 0 then (vlet (setI M4 36 14 ((M4.1 36 14) + (0 : Int32))) fun M7 => if ck (1 : Int32) 2 = true then (if ck (1 : Int32) 2 = true then (vlet (setI M7 41 (1 : Int32).toNatClampNeg ((M7.1 41 (1 : Int32).toNatClampNeg) + (1 : Int32))) fun M10 => some M10) else none) else none) else (vlet (setI M4 36 14 ((M4.1 36 14) + (1 : Int32))) fun M11 => if ck (1 : Int32) 2 = true then (if ck (1 : Int32) 2 = true then (vlet (setI M11 41 (1 : Int32).toNatClampNeg ((M11.1 41 (1 : Int32).toNatClampNeg) + (1 : Int32))) fun M14 => some M14) else none) else none)) else none) else none) = some v from h) fun h => (bdE h).elim fun p1 q2 => let_h q2.2 fun h => r_callV (av := [.int t0]) D_X10_readDay_135 ml_X10_114 mf_X10_due mv_X10_due s_36 rfl rfl (x_X10_due q2.1) (Nat.le_of_ble_eq_true rfl) rfl rfl (Nat.le_of_ble_eq_true rfl) <| (ckE h).elim fun c3 h => r_iast D_X10_readDay_138 s_42 c3 <| mlE h fun M4 h => r_aload_n D_X10_readDay_139 rfl <| r_dup D_X10_readDay_140 rfl <| r_getI D_X10_readDay_141 fl_X10_126 s_36 rfl <| r_aload_n D_X10_readDay_144 rfl <| r_getR (j := 42) D_X10_readDay_145 fl_X10_26 s_36 rfl <| r_iload_n D_X10_readDay_148 rfl <| r_iconst D_X10_readDay_149 ki_3 <| r_iadd D_X10_readDay_150 <| (ckE h).elim fun c5 h => r_iald D_X10_readDay_151 s_42 c5 <| r_iconst D_X10_readDay_152 ki_1 <| r_bipush D_X10_readDay_153 k8_9 <| r_callS (av := [.int (M4.1 42 (y1 + (3 : Int32)).toNatClampNeg), .int (1 : Int32), .int (9 : Int32)]) D_X10_readDay_155 ml_X10_78 mf_X10_in ms_X10_in (x_X10_in rfl) (Nat.le_of_ble_eq_true rfl) rfl rfl (Nat.le_of_ble_eq_true rfl) <| r_if_eq D_X10_readDay_158 (fun c6 => let_h (ifT c6 h) fun h => r_iconst D_X10_readDay_165 ki_0 <| r_iadd D_X10_readDay_166 <| r_putI D_X10_readDay_167 fp_X10_126 s_36 rfl rfl rfl <| mlE h fun M7 h => r_aload_n D_X10_readDay_170 rfl <| r_getR (j := 41) D_X10_readDay_171 fl_X10_23 s_36 rfl <| r_iconst D_X10_readDay_174 ki_1 <| r_dup2 D_X10_readDay_175 rfl rfl <| (ckE h).elim fun c8 h => r_iald D_X10_readDay_176 s_41 c8 <| r_iconst D_X10_readDay_177 ki_1 <| r_iadd D_X10_readDay_178 <| (ckE h).elim fun c9 h => r_iast D_X10_readDay_179 s_41 c9 <| mlE h fun M10 h => r_vret hq D_X10_readDay_180 rfl (rtV h)) (fun c6 => let_h (ifF c6 h) fun h => r_iconst D_X10_readDay_161 ki_1 <| r_goto D_X10_readDay_162 <| r_iadd D_X10_readDay_166 <| r_putI D_X10_readDay_167 fp_X10_126 s_36 rfl rfl rfl <| mlE h fun M11 h => r_aload_n D_X10_readDay_170 rfl <| r_getR (j := 41) D_X10_readDay_171 fl_X10_23 s_36 rfl <| r_iconst D_X10_readDay_174 ki_1 <| r_dup2 D_X10_readDay_175 rfl rfl <| (ckE h).elim fun c12 h => r_iald D_X10_readDay_176 s_41 c12 <| r_iconst D_X10_readDay_177 ki_1 <| r_iadd D_X10_readDay_178 <| (ckE h).elim fun c13 h => r_iast D_X10_readDay_179 s_41 c13 <| mlE h fun M14 h => r_vret hq D_X10_readDay_180 rfl (rtV h))
def f_X10_readDay_61 (F : Nat) (y1 : Int32) (t0 : Int32) (t1 : Int32) (N : Mem) : Option Mem := if ck t1 64 = true then (vlet (setI N 42 t1.toNatClampNeg t0) fun M2 => if ck (y1 + (3 : Int32)) 64 = true then (vlet (setI M2 42 (y1 + (3 : Int32)).toNatClampNeg (0 : Int32)) fun M4 => (f_X10_optional F M4 (7 : Int32)).bind fun p5 => if p5.1 = 0 then (if ck (1 : Int32) 2 = true then (if ck (1 : Int32) 2 = true then (vlet (setI p5.2 41 (1 : Int32).toNatClampNeg ((p5.2.1 41 (1 : Int32).toNatClampNeg) + (1 : Int32))) fun M10 => some M10) else none) else none) else (if (p5.2.1 36 11) = (9 : Int32) then (if (10 : Int32) < (p5.2.1 36 12) then (f_X10_readDay_135 F y1 (0 : Int32) (y1 + (3 : Int32)) p5.2) else (if (p5.2.1 36 12) = 0 then (f_X10_readDay_135 F y1 (1 : Int32) (y1 + (3 : Int32)) p5.2) else (if (p5.2.1 36 12) = (10 : Int32) then (f_X10_readDay_135 F y1 (1 : Int32) (y1 + (3 : Int32)) p5.2) else (if (4 : Int32) ≤ (p5.2.1 36 14) then (f_X10_readDay_135 F y1 (0 : Int32) (y1 + (3 : Int32)) p5.2) else (f_X10_readDay_135 F y1 (1 : Int32) (y1 + (3 : Int32)) p5.2))))) else (f_X10_readDay_135 F y1 (0 : Int32) (y1 + (3 : Int32)) p5.2))) else none) else none
theorem x_X10_readDay_61 {l : Launch} {w : Wd} {κ : Kp} {F : Nat} {v : Mem} (hq : RQ w (none, v) κ) (y1 : Int32) (t0 : Int32) (t1 : Int32) (N : Mem) (h : f_X10_readDay_61 F y1 t0 t1 N = some v) : RR l w mi_X10_readDay (4) κ 61 [.int t0, .int t1, .ref (wq w 42)] [some (.ref (wq w 36)), some (.int y1)] N := let_h (show (if ck t1 64 = true then (vlet (setI N 42 t1.toNatClampNeg t0) fun M2 => if ck (y1 + (3 : Int32)) 64 = true then (vlet (setI M2 42 (y1 + (3 : Int32)).toNatClampNeg (0 : Int32)) fun M4 => (f_X10_optional F M4 (7 : Int32)).bind fun p5 => if p5.1 = 0 then (if ck (1 : Int32) 2 = true then (if ck (1 : Int32) 2 = true then (vlet (setI p5.2 41 (1 : Int32).toNatClampNeg ((p5.2.1 41 (1 : Int32).toNatClampNeg) + (1 : Int32))) fun M10 => some M10) else none) else none) else (if (p5.2.1 36 11) = (9 : Int32) then (if (10 : Int32) < (p5.2.1 36 12) then (f_X10_readDay_135 F y1 (0 : Int32) (y1 + (3 : Int32)) p5.2) else (if (p5.2.1 36 12) = 0 then (f_X10_readDay_135 F y1 (1 : Int32) (y1 + (3 : Int32)) p5.2) else (if (p5.2.1 36 12) = (10 : Int32) then (f_X10_readDay_135 F y1 (1 : Int32) (y1 + (3 : Int32)) p5.2) else (if (4 : Int32) ≤ (p5.2.1 36 14) then (f_X10_readDay_135 F y1 (0 : Int32) (y1 + (3 : Int32)) p5.2) else (f_X10_readDay_135 F y1 (1 : Int32) (y1 + (3 : Int32)) p5.2))))) else (f_X10_readDay_135 F y1 (0 : Int32) (y1 + (3 : Int32)) p5.2))) else none) else none) = some v from h) fun h => (ckE h).elim fun c1 h => r_iast D_X10_readDay_61 s_42 c1 <| mlE h fun M2 h => r_aload_n D_X10_readDay_62 rfl <| r_getR (j := 42) D_X10_readDay_63 fl_X10_26 s_36 rfl <| r_iload_n D_X10_readDay_66 rfl <| r_iconst D_X10_readDay_67 ki_3 <| r_iadd D_X10_readDay_68 <| r_iconst D_X10_readDay_69 ki_0 <| (ckE h).elim fun c3 h => r_iast D_X10_readDay_70 s_42 c3 <| mlE h fun M4 h => r_aload_n D_X10_readDay_71 rfl <| r_bipush D_X10_readDay_72 k8_7 <| (bdE h).elim fun p5 q6 => let_h q6.2 fun h => r_callV (av := [.int (7 : Int32)]) D_X10_readDay_74 ml_X10_122 mf_X10_optional mv_X10_optional s_36 rfl rfl (x_X10_optional q6.1) (Nat.le_of_ble_eq_true rfl) rfl rfl (Nat.le_of_ble_eq_true rfl) <| r_if_eq D_X10_readDay_77 (fun c7 => let_h (ifT c7 h) fun h => r_aload_n D_X10_readDay_170 rfl <| r_getR (j := 41) D_X10_readDay_171 fl_X10_23 s_36 rfl <| r_iconst D_X10_readDay_174 ki_1 <| r_dup2 D_X10_readDay_175 rfl rfl <| (ckE h).elim fun c8 h => r_iald D_X10_readDay_176 s_41 c8 <| r_iconst D_X10_readDay_177 ki_1 <| r_iadd D_X10_readDay_178 <| (ckE h).elim fun c9 h => r_iast D_X10_readDay_179 s_41 c9 <| mlE h fun M10 h => r_vret hq D_X10_readDay_180 rfl (rtV h)) (fun c7 => let_h (ifF c7 h) fun h => r_aload_n D_X10_readDay_80 rfl <| r_getR (j := 42) D_X10_readDay_81 fl_X10_26 s_36 rfl <| r_iload_n D_X10_readDay_84 rfl <| r_iconst D_X10_readDay_85 ki_3 <| r_iadd D_X10_readDay_86 <| r_aload_n D_X10_readDay_87 rfl <| r_aload_n D_X10_readDay_88 rfl <| r_getI D_X10_readDay_89 fl_X10_101 s_36 rfl <| r_bipush D_X10_readDay_92 k8_9 <| r_icmp_ne D_X10_readDay_94 (fun c11 => let_h (ifT c11 h) fun h => r_aload_n D_X10_readDay_97 rfl <| r_getI D_X10_readDay_98 fl_X10_98 s_36 rfl <| r_bipush D_X10_readDay_101 k8_10 <| r_icmp_gt D_X10_readDay_103 (fun c12 => let_h (ifT c12 h) fun h => r_iconst D_X10_readDay_134 ki_0 <| r_ls (x_X10_readDay_135 hq y1 (0 : Int32) (y1 + (3 : Int32)) p5.2 h) ⟨rfl, ⟨rfl, trivial⟩⟩) (fun c12 => let_h (ifF c12 h) fun h => r_aload_n D_X10_readDay_106 rfl <| r_getI D_X10_readDay_107 fl_X10_98 s_36 rfl <| r_if_eq D_X10_readDay_110 (fun c13 => let_h (ifT c13 h) fun h => r_iconst D_X10_readDay_130 ki_1 <| r_goto D_X10_readDay_131 <| r_ls (x_X10_readDay_135 hq y1 (1 : Int32) (y1 + (3 : Int32)) p5.2 h) ⟨rfl, ⟨rfl, trivial⟩⟩) (fun c13 => let_h (ifF c13 h) fun h => r_aload_n D_X10_readDay_113 rfl <| r_getI D_X10_readDay_114 fl_X10_98 s_36 rfl <| r_bipush D_X10_readDay_117 k8_10 <| r_icmp_eq D_X10_readDay_119 (fun c14 => let_h (ifT c14 h) fun h => r_iconst D_X10_readDay_130 ki_1 <| r_goto D_X10_readDay_131 <| r_ls (x_X10_readDay_135 hq y1 (1 : Int32) (y1 + (3 : Int32)) p5.2 h) ⟨rfl, ⟨rfl, trivial⟩⟩) (fun c14 => let_h (ifF c14 h) fun h => r_aload_n D_X10_readDay_122 rfl <| r_getI D_X10_readDay_123 fl_X10_126 s_36 rfl <| r_iconst D_X10_readDay_126 ki_4 <| r_icmp_ge D_X10_readDay_127 (fun c15 => let_h (ifT c15 h) fun h => r_iconst D_X10_readDay_134 ki_0 <| r_ls (x_X10_readDay_135 hq y1 (0 : Int32) (y1 + (3 : Int32)) p5.2 h) ⟨rfl, ⟨rfl, trivial⟩⟩) (fun c15 => let_h (ifF c15 h) fun h => r_iconst D_X10_readDay_130 ki_1 <| r_goto D_X10_readDay_131 <| r_ls (x_X10_readDay_135 hq y1 (1 : Int32) (y1 + (3 : Int32)) p5.2 h) ⟨rfl, ⟨rfl, trivial⟩⟩))))) (fun c11 => let_h (ifF c11 h) fun h => r_iconst D_X10_readDay_134 ki_0 <| r_ls (x_X10_readDay_135 hq y1 (0 : Int32) (y1 + (3 : Int32)) p5.2 h) ⟨rfl, ⟨rfl, trivial⟩⟩))
def f_X10_readDay (F : Nat) (M : Mem) : Option Mem := if ck (1 : Int32) 2 = true then (vlet ((32 : Int32) + ((4 : Int32) * (M.1 41 (1 : Int32).toNatClampNeg))) fun x2 => (f_X10_number F M (0 : Int32) (27 : Int32)).bind fun p3 => if ck x2 64 = true then (vlet (setI p3.2 42 x2.toNatClampNeg p3.1) fun M6 => (f_X10_number F M6 (0 : Int32) (9 : Int32)).bind fun p7 => if ck (x2 + (1 : Int32)) 64 = true then (vlet (setI p7.2 42 (x2 + (1 : Int32)).toNatClampNeg p7.1) fun M10 => (f_X10_optional F M10 (6 : Int32)).bind fun p11 => if p11.1 = 0 then (f_X10_readDay_61 F x2 (0 : Int32) (x2 + (2 : Int32)) p11.2) else (f_X10_readDay_61 F x2 (1 : Int32) (x2 + (2 : Int32)) p11.2)) else none) else none) else none
theorem x_X10_readDay {l : Launch} {w : Wd} {F : Nat} {M : Mem} {v : Mem} (h : f_X10_readDay F M = some v) : Cn l w mi_X10_readDay yX10_readDay (4) [.ref (wq w 36)] M (none, v) :=
  Cn_of (loc0 := [some (.ref (wq w 36)), none]) rfl rfl rfl (Nat.le_of_ble_eq_true rfl) fun κ hq => let_h (show (if ck (1 : Int32) 2 = true then (vlet ((32 : Int32) + ((4 : Int32) * (M.1 41 (1 : Int32).toNatClampNeg))) fun x2 => (f_X10_number F M (0 : Int32) (27 : Int32)).bind fun p3 => if ck x2 64 = true then (vlet (setI p3.2 42 x2.toNatClampNeg p3.1) fun M6 => (f_X10_number F M6 (0 : Int32) (9 : Int32)).bind fun p7 => if ck (x2 + (1 : Int32)) 64 = true then (vlet (setI p7.2 42 (x2 + (1 : Int32)).toNatClampNeg p7.1) fun M10 => (f_X10_optional F M10 (6 : Int32)).bind fun p11 => if p11.1 = 0 then (f_X10_readDay_61 F x2 (0 : Int32) (x2 + (2 : Int32)) p11.2) else (f_X10_readDay_61 F x2 (1 : Int32) (x2 + (2 : Int32)) p11.2)) else none) else none) else none) = some v from h) fun h => r_bipush D_X10_readDay_0 k8_32 <| r_iconst D_X10_readDay_2 ki_4 <| r_aload_n D_X10_readDay_3 rfl <| r_getR (j := 41) D_X10_readDay_4 fl_X10_23 s_36 rfl <| r_iconst D_X10_readDay_7 ki_1 <| (ckE h).elim fun c1 h => r_iald D_X10_readDay_8 s_41 c1 <| r_imul D_X10_readDay_9 <| r_iadd D_X10_readDay_10 <| vlE (fun x2 => RR l w mi_X10_readDay (4) κ 11 [.int x2] [some (.ref (wq w 36)), none] M) h fun x2 h => r_istore_n D_X10_readDay_11 (by decide) rfl <| r_aload_n D_X10_readDay_12 rfl <| r_getR (j := 42) D_X10_readDay_13 fl_X10_26 s_36 rfl <| r_iload_n D_X10_readDay_16 rfl <| r_aload_n D_X10_readDay_17 rfl <| r_iconst D_X10_readDay_18 ki_0 <| r_bipush D_X10_readDay_19 k8_27 <| (bdE h).elim fun p3 q4 => let_h q4.2 fun h => r_callV (av := [.int (0 : Int32), .int (27 : Int32)]) D_X10_readDay_21 ml_X10_118 mf_X10_number mv_X10_number s_36 rfl rfl (x_X10_number q4.1) (Nat.le_of_ble_eq_true rfl) rfl rfl (Nat.le_of_ble_eq_true rfl) <| (ckE h).elim fun c5 h => r_iast D_X10_readDay_24 s_42 c5 <| mlE h fun M6 h => r_aload_n D_X10_readDay_25 rfl <| r_getR (j := 42) D_X10_readDay_26 fl_X10_26 s_36 rfl <| r_iload_n D_X10_readDay_29 rfl <| r_iconst D_X10_readDay_30 ki_1 <| r_iadd D_X10_readDay_31 <| r_aload_n D_X10_readDay_32 rfl <| r_iconst D_X10_readDay_33 ki_0 <| r_bipush D_X10_readDay_34 k8_9 <| (bdE h).elim fun p7 q8 => let_h q8.2 fun h => r_callV (av := [.int (0 : Int32), .int (9 : Int32)]) D_X10_readDay_36 ml_X10_118 mf_X10_number mv_X10_number s_36 rfl rfl (x_X10_number q8.1) (Nat.le_of_ble_eq_true rfl) rfl rfl (Nat.le_of_ble_eq_true rfl) <| (ckE h).elim fun c9 h => r_iast D_X10_readDay_39 s_42 c9 <| mlE h fun M10 h => r_aload_n D_X10_readDay_40 rfl <| r_getR (j := 42) D_X10_readDay_41 fl_X10_26 s_36 rfl <| r_iload_n D_X10_readDay_44 rfl <| r_iconst D_X10_readDay_45 ki_2 <| r_iadd D_X10_readDay_46 <| r_aload_n D_X10_readDay_47 rfl <| r_bipush D_X10_readDay_48 k8_6 <| (bdE h).elim fun p11 q12 => let_h q12.2 fun h => r_callV (av := [.int (6 : Int32)]) D_X10_readDay_50 ml_X10_122 mf_X10_optional mv_X10_optional s_36 rfl rfl (x_X10_optional q12.1) (Nat.le_of_ble_eq_true rfl) rfl rfl (Nat.le_of_ble_eq_true rfl) <| r_if_eq D_X10_readDay_53 (fun c13 => let_h (ifT c13 h) fun h => r_iconst D_X10_readDay_60 ki_0 <| r_ls (x_X10_readDay_61 hq x2 (0 : Int32) (x2 + (2 : Int32)) p11.2 h) ⟨rfl, ⟨rfl, trivial⟩⟩) (fun c13 => let_h (ifF c13 h) fun h => r_iconst D_X10_readDay_56 ki_1 <| r_goto D_X10_readDay_57 <| r_ls (x_X10_readDay_61 hq x2 (1 : Int32) (x2 + (2 : Int32)) p11.2 h) ⟨rfl, ⟨rfl, trivial⟩⟩)
-- X10_item
theorem D_X10_item_0 : Dec mi_X10_item 0 (.aload_n 0) 1 1 := ⟨by decide +kernel, rfl⟩
theorem D_X10_item_1 : Dec mi_X10_item 1 (.iload_n 1) 1 2 := ⟨by decide +kernel, rfl⟩
theorem D_X10_item_2 : Dec mi_X10_item 2 (.iconst 2) 1 3 := ⟨by decide +kernel, rfl⟩
theorem D_X10_item_3 : DecJ mi_X10_item 3 (.if_icmp .gt 22) (22) 6 25 := ⟨by decide +kernel, rfl, by decide⟩
theorem D_X10_item_6 : Dec mi_X10_item 6 (.aload_n 0) 1 7 := ⟨by decide +kernel, rfl⟩
theorem D_X10_item_7 : Dec mi_X10_item 7 (.getfield 13) 3 10 := ⟨by decide +kernel, rfl⟩
theorem D_X10_item_10 : Dec mi_X10_item 10 (.iconst 1) 1 11 := ⟨by decide +kernel, rfl⟩
theorem D_X10_item_11 : Dec mi_X10_item 11 (.iaload) 1 12 := ⟨by decide +kernel, rfl⟩
theorem D_X10_item_12 : Dec mi_X10_item 12 (.bipush 6) 2 14 := ⟨by decide +kernel, rfl⟩
theorem D_X10_item_14 : DecJ mi_X10_item 14 (.if_icmp .ge 7) (7) 17 21 := ⟨by decide +kernel, rfl, by decide⟩
theorem D_X10_item_17 : Dec mi_X10_item 17 (.iconst 1) 1 18 := ⟨by decide +kernel, rfl⟩
theorem D_X10_item_18 : DecJ mi_X10_item 18 (.goto 33) (33) 21 51 := ⟨by decide +kernel, rfl, by decide⟩
theorem D_X10_item_21 : Dec mi_X10_item 21 (.iconst 0) 1 22 := ⟨by decide +kernel, rfl⟩
theorem D_X10_item_22 : DecJ mi_X10_item 22 (.goto 29) (29) 25 51 := ⟨by decide +kernel, rfl, by decide⟩
theorem D_X10_item_25 : Dec mi_X10_item 25 (.iload_n 1) 1 26 := ⟨by decide +kernel, rfl⟩
theorem D_X10_item_26 : Dec mi_X10_item 26 (.iconst 4) 1 27 := ⟨by decide +kernel, rfl⟩
theorem D_X10_item_27 : DecJ mi_X10_item 27 (.if_icmp .eq 19) (19) 30 46 := ⟨by decide +kernel, rfl, by decide⟩
theorem D_X10_item_30 : Dec mi_X10_item 30 (.iload_n 1) 1 31 := ⟨by decide +kernel, rfl⟩
theorem D_X10_item_31 : Dec mi_X10_item 31 (.iconst 5) 1 32 := ⟨by decide +kernel, rfl⟩
theorem D_X10_item_32 : DecJ mi_X10_item 32 (.if_icmp .ne 18) (18) 35 50 := ⟨by decide +kernel, rfl, by decide⟩
theorem D_X10_item_35 : Dec mi_X10_item 35 (.aload_n 0) 1 36 := ⟨by decide +kernel, rfl⟩
theorem D_X10_item_36 : Dec mi_X10_item 36 (.getfield 23) 3 39 := ⟨by decide +kernel, rfl⟩
theorem D_X10_item_39 : Dec mi_X10_item 39 (.iconst 1) 1 40 := ⟨by decide +kernel, rfl⟩
theorem D_X10_item_40 : Dec mi_X10_item 40 (.iaload) 1 41 := ⟨by decide +kernel, rfl⟩
theorem D_X10_item_41 : Dec mi_X10_item 41 (.bipush 8) 2 43 := ⟨by decide +kernel, rfl⟩
theorem D_X10_item_43 : DecJ mi_X10_item 43 (.if_icmp .ge 7) (7) 46 50 := ⟨by decide +kernel, rfl, by decide⟩
theorem D_X10_item_46 : Dec mi_X10_item 46 (.iconst 1) 1 47 := ⟨by decide +kernel, rfl⟩
theorem D_X10_item_47 : DecJ mi_X10_item 47 (.goto 4) (4) 50 51 := ⟨by decide +kernel, rfl, by decide⟩
theorem D_X10_item_50 : Dec mi_X10_item 50 (.iconst 0) 1 51 := ⟨by decide +kernel, rfl⟩
theorem D_X10_item_51 : Dec mi_X10_item 51 (.invokevirtual 114) 3 54 := ⟨by decide +kernel, rfl⟩
theorem D_X10_item_54 : Dec mi_X10_item 54 (.pop) 1 55 := ⟨by decide +kernel, rfl⟩
theorem D_X10_item_55 : Dec mi_X10_item 55 (.aload_n 0) 1 56 := ⟨by decide +kernel, rfl⟩
theorem D_X10_item_56 : Dec mi_X10_item 56 (.getfield 108) 3 59 := ⟨by decide +kernel, rfl⟩
theorem D_X10_item_59 : Dec mi_X10_item 59 (.bipush (-9)) 2 61 := ⟨by decide +kernel, rfl⟩
theorem D_X10_item_61 : DecJ mi_X10_item 61 (.if_icmp .eq 4) (4) 64 65 := ⟨by decide +kernel, rfl, by decide⟩
theorem D_X10_item_64 : Dec mi_X10_item 64 (.return_) 1 65 := ⟨by decide +kernel, rfl⟩
theorem D_X10_item_65 : Dec mi_X10_item 65 (.iload_n 1) 1 66 := ⟨by decide +kernel, rfl⟩
theorem D_X10_item_66 : Dec mi_X10_item 66 (.iconst 2) 1 67 := ⟨by decide +kernel, rfl⟩
theorem D_X10_item_67 : DecJ mi_X10_item 67 (.if_icmp .gt 11) (11) 70 78 := ⟨by decide +kernel, rfl, by decide⟩
theorem D_X10_item_70 : Dec mi_X10_item 70 (.aload_n 0) 1 71 := ⟨by decide +kernel, rfl⟩
theorem D_X10_item_71 : Dec mi_X10_item 71 (.iload_n 1) 1 72 := ⟨by decide +kernel, rfl⟩
theorem D_X10_item_72 : Dec mi_X10_item 72 (.invokevirtual 129) 3 75 := ⟨by decide +kernel, rfl⟩
theorem D_X10_item_75 : DecJ mi_X10_item 75 (.goto 108) (108) 78 183 := ⟨by decide +kernel, rfl, by decide⟩
theorem D_X10_item_78 : Dec mi_X10_item 78 (.iload_n 1) 1 79 := ⟨by decide +kernel, rfl⟩
theorem D_X10_item_79 : Dec mi_X10_item 79 (.iconst 5) 1 80 := ⟨by decide +kernel, rfl⟩
theorem D_X10_item_80 : DecJ mi_X10_item 80 (.if_icmp .ne 10) (10) 83 90 := ⟨by decide +kernel, rfl, by decide⟩
theorem D_X10_item_83 : Dec mi_X10_item 83 (.aload_n 0) 1 84 := ⟨by decide +kernel, rfl⟩
theorem D_X10_item_84 : Dec mi_X10_item 84 (.invokevirtual 133) 3 87 := ⟨by decide +kernel, rfl⟩
theorem D_X10_item_87 : DecJ mi_X10_item 87 (.goto 96) (96) 90 183 := ⟨by decide +kernel, rfl, by decide⟩
theorem D_X10_item_90 : Dec mi_X10_item 90 (.aload_n 0) 1 91 := ⟨by decide +kernel, rfl⟩
theorem D_X10_item_91 : Dec mi_X10_item 91 (.iconst 0) 1 92 := ⟨by decide +kernel, rfl⟩
theorem D_X10_item_92 : Dec mi_X10_item 92 (.aload_n 0) 1 93 := ⟨by decide +kernel, rfl⟩
theorem D_X10_item_93 : Dec mi_X10_item 93 (.getfield 13) 3 96 := ⟨by decide +kernel, rfl⟩
theorem D_X10_item_96 : Dec mi_X10_item 96 (.iconst 1) 1 97 := ⟨by decide +kernel, rfl⟩
theorem D_X10_item_97 : Dec mi_X10_item 97 (.iaload) 1 98 := ⟨by decide +kernel, rfl⟩
theorem D_X10_item_98 : Dec mi_X10_item 98 (.iconst 1) 1 99 := ⟨by decide +kernel, rfl⟩
theorem D_X10_item_99 : Dec mi_X10_item 99 (.isub) 1 100 := ⟨by decide +kernel, rfl⟩
theorem D_X10_item_100 : Dec mi_X10_item 100 (.invokevirtual 118) 3 103 := ⟨by decide +kernel, rfl⟩
theorem D_X10_item_103 : Dec mi_X10_item 103 (.istore_n 2) 1 104 := ⟨by decide +kernel, rfl⟩
theorem D_X10_item_104 : Dec mi_X10_item 104 (.aload_n 0) 1 105 := ⟨by decide +kernel, rfl⟩
theorem D_X10_item_105 : Dec mi_X10_item 105 (.aload_n 0) 1 106 := ⟨by decide +kernel, rfl⟩
theorem D_X10_item_106 : Dec mi_X10_item 106 (.getfield 101) 3 109 := ⟨by decide +kernel, rfl⟩
theorem D_X10_item_109 : Dec mi_X10_item 109 (.bipush 9) 2 111 := ⟨by decide +kernel, rfl⟩
theorem D_X10_item_111 : DecJ mi_X10_item 111 (.if_icmp .ne 28) (28) 114 139 := ⟨by decide +kernel, rfl, by decide⟩
theorem D_X10_item_114 : Dec mi_X10_item 114 (.aload_n 0) 1 115 := ⟨by decide +kernel, rfl⟩
theorem D_X10_item_115 : Dec mi_X10_item 115 (.getfield 98) 3 118 := ⟨by decide +kernel, rfl⟩
theorem D_X10_item_118 : Dec mi_X10_item 118 (.aload_n 0) 1 119 := ⟨by decide +kernel, rfl⟩
theorem D_X10_item_119 : Dec mi_X10_item 119 (.getfield 13) 3 122 := ⟨by decide +kernel, rfl⟩
theorem D_X10_item_122 : Dec mi_X10_item 122 (.iconst 1) 1 123 := ⟨by decide +kernel, rfl⟩
theorem D_X10_item_123 : Dec mi_X10_item 123 (.iaload) 1 124 := ⟨by decide +kernel, rfl⟩
theorem D_X10_item_124 : DecJ mi_X10_item 124 (.if_icmp .ge 15) (15) 127 139 := ⟨by decide +kernel, rfl, by decide⟩
theorem D_X10_item_127 : Dec mi_X10_item 127 (.aload_n 0) 1 128 := ⟨by decide +kernel, rfl⟩
theorem D_X10_item_128 : Dec mi_X10_item 128 (.getfield 98) 3 131 := ⟨by decide +kernel, rfl⟩
theorem D_X10_item_131 : Dec mi_X10_item 131 (.iload_n 2) 1 132 := ⟨by decide +kernel, rfl⟩
theorem D_X10_item_132 : DecJ mi_X10_item 132 (.if_icmp .eq 7) (7) 135 139 := ⟨by decide +kernel, rfl, by decide⟩
theorem D_X10_item_135 : Dec mi_X10_item 135 (.iconst 1) 1 136 := ⟨by decide +kernel, rfl⟩
theorem D_X10_item_136 : DecJ mi_X10_item 136 (.goto 4) (4) 139 140 := ⟨by decide +kernel, rfl, by decide⟩
theorem D_X10_item_139 : Dec mi_X10_item 139 (.iconst 0) 1 140 := ⟨by decide +kernel, rfl⟩
theorem D_X10_item_140 : Dec mi_X10_item 140 (.invokevirtual 114) 3 143 := ⟨by decide +kernel, rfl⟩
theorem D_X10_item_143 : Dec mi_X10_item 143 (.istore_n 3) 1 144 := ⟨by decide +kernel, rfl⟩
theorem D_X10_item_144 : Dec mi_X10_item 144 (.aload_n 0) 1 145 := ⟨by decide +kernel, rfl⟩
theorem D_X10_item_145 : Dec mi_X10_item 145 (.getfield 108) 3 148 := ⟨by decide +kernel, rfl⟩
theorem D_X10_item_148 : Dec mi_X10_item 148 (.bipush (-9)) 2 150 := ⟨by decide +kernel, rfl⟩
theorem D_X10_item_150 : DecJ mi_X10_item 150 (.if_icmp .ne 33) (33) 153 183 := ⟨by decide +kernel, rfl, by decide⟩
theorem D_X10_item_153 : Dec mi_X10_item 153 (.aload_n 0) 1 154 := ⟨by decide +kernel, rfl⟩
theorem D_X10_item_154 : Dec mi_X10_item 154 (.getfield 20) 3 157 := ⟨by decide +kernel, rfl⟩
theorem D_X10_item_157 : Dec mi_X10_item 157 (.bipush 6) 2 159 := ⟨by decide +kernel, rfl⟩
theorem D_X10_item_159 : Dec mi_X10_item 159 (.iload_n 2) 1 160 := ⟨by decide +kernel, rfl⟩
theorem D_X10_item_160 : Dec mi_X10_item 160 (.iadd) 1 161 := ⟨by decide +kernel, rfl⟩
theorem D_X10_item_161 : Dec mi_X10_item 161 (.dup2) 1 162 := ⟨by decide +kernel, rfl⟩
theorem D_X10_item_162 : Dec mi_X10_item 162 (.iaload) 1 163 := ⟨by decide +kernel, rfl⟩
theorem D_X10_item_163 : Dec mi_X10_item 163 (.iconst 1) 1 164 := ⟨by decide +kernel, rfl⟩
theorem D_X10_item_164 : Dec mi_X10_item 164 (.iload_n 3) 1 165 := ⟨by decide +kernel, rfl⟩
theorem D_X10_item_165 : Dec mi_X10_item 165 (.ishl) 1 166 := ⟨by decide +kernel, rfl⟩
theorem D_X10_item_166 : Dec mi_X10_item 166 (.ior) 1 167 := ⟨by decide +kernel, rfl⟩
theorem D_X10_item_167 : Dec mi_X10_item 167 (.iastore) 1 168 := ⟨by decide +kernel, rfl⟩
theorem D_X10_item_168 : Dec mi_X10_item 168 (.aload_n 0) 1 169 := ⟨by decide +kernel, rfl⟩
theorem D_X10_item_169 : Dec mi_X10_item 169 (.getfield 20) 3 172 := ⟨by decide +kernel, rfl⟩
theorem D_X10_item_172 : Dec mi_X10_item 172 (.bipush 6) 2 174 := ⟨by decide +kernel, rfl⟩
theorem D_X10_item_174 : Dec mi_X10_item 174 (.iload_n 3) 1 175 := ⟨by decide +kernel, rfl⟩
theorem D_X10_item_175 : Dec mi_X10_item 175 (.iadd) 1 176 := ⟨by decide +kernel, rfl⟩
theorem D_X10_item_176 : Dec mi_X10_item 176 (.dup2) 1 177 := ⟨by decide +kernel, rfl⟩
theorem D_X10_item_177 : Dec mi_X10_item 177 (.iaload) 1 178 := ⟨by decide +kernel, rfl⟩
theorem D_X10_item_178 : Dec mi_X10_item 178 (.iconst 1) 1 179 := ⟨by decide +kernel, rfl⟩
theorem D_X10_item_179 : Dec mi_X10_item 179 (.iload_n 2) 1 180 := ⟨by decide +kernel, rfl⟩
theorem D_X10_item_180 : Dec mi_X10_item 180 (.ishl) 1 181 := ⟨by decide +kernel, rfl⟩
theorem D_X10_item_181 : Dec mi_X10_item 181 (.ior) 1 182 := ⟨by decide +kernel, rfl⟩
theorem D_X10_item_182 : Dec mi_X10_item 182 (.iastore) 1 183 := ⟨by decide +kernel, rfl⟩
theorem D_X10_item_183 : Dec mi_X10_item 183 (.aload_n 0) 1 184 := ⟨by decide +kernel, rfl⟩
theorem D_X10_item_184 : Dec mi_X10_item 184 (.aload_n 0) 1 185 := ⟨by decide +kernel, rfl⟩
theorem D_X10_item_185 : Dec mi_X10_item 185 (.getfield 101) 3 188 := ⟨by decide +kernel, rfl⟩
theorem D_X10_item_188 : Dec mi_X10_item 188 (.bipush 10) 2 190 := ⟨by decide +kernel, rfl⟩
theorem D_X10_item_190 : DecJ mi_X10_item 190 (.if_icmp .ne 7) (7) 193 197 := ⟨by decide +kernel, rfl, by decide⟩
theorem D_X10_item_193 : Dec mi_X10_item 193 (.iconst 1) 1 194 := ⟨by decide +kernel, rfl⟩
theorem D_X10_item_194 : DecJ mi_X10_item 194 (.goto 4) (4) 197 198 := ⟨by decide +kernel, rfl, by decide⟩
theorem D_X10_item_197 : Dec mi_X10_item 197 (.iconst 0) 1 198 := ⟨by decide +kernel, rfl⟩
theorem D_X10_item_198 : Dec mi_X10_item 198 (.invokevirtual 114) 3 201 := ⟨by decide +kernel, rfl⟩
theorem D_X10_item_201 : Dec mi_X10_item 201 (.pop) 1 202 := ⟨by decide +kernel, rfl⟩
theorem D_X10_item_202 : Dec mi_X10_item 202 (.return_) 1 203 := ⟨by decide +kernel, rfl⟩
def f_X10_item_140 (F : Nat) (y2 : Int32) (t0 : Int32) (N : Mem) : Option Mem := (f_X10_due F N t0).bind fun p1 => if (p1.2.1 36 13) = (-9 : Int32) then (if ck ((6 : Int32) + y2) 12 = true then (if ck ((6 : Int32) + y2) 12 = true then (vlet (setI p1.2 40 ((6 : Int32) + y2).toNatClampNeg ((p1.2.1 40 ((6 : Int32) + y2).toNatClampNeg) ||| ((1 : Int32) <<< (p1.1 &&& 31)))) fun M6 => if ck ((6 : Int32) + p1.1) 12 = true then (if ck ((6 : Int32) + p1.1) 12 = true then (vlet (setI M6 40 ((6 : Int32) + p1.1).toNatClampNeg ((M6.1 40 ((6 : Int32) + p1.1).toNatClampNeg) ||| ((1 : Int32) <<< (y2 &&& 31)))) fun M9 => if (M9.1 36 11) = (10 : Int32) then ((f_X10_due F M9 (1 : Int32)).bind fun p11 => some p11.2) else ((f_X10_due F M9 (0 : Int32)).bind fun p13 => some p13.2)) else none) else none) else none) else none) else (if (p1.2.1 36 11) = (10 : Int32) then ((f_X10_due F p1.2 (1 : Int32)).bind fun p16 => some p16.2) else ((f_X10_due F p1.2 (0 : Int32)).bind fun p18 => some p18.2))
theorem x_X10_item_140 {l : Launch} {w : Wd} {κ : Kp} {F : Nat} {v : Mem} (hq : RQ w (none, v) κ) (y2 : Int32) (t0 : Int32) (N : Mem) (h : f_X10_item_140 F y2 t0 N = some v) : RR l w mi_X10_item (5) κ 140 [.int t0, .ref (wq w 36)] [some (.ref (wq w 36)), none, some (.int y2), none] N := let_h (show ((f_X10_due F N t0).bind fun p1 => if (p1.2.1 36 13) = (-9 : Int32) then (if ck ((6 : Int32) + y2) 12 = true then (if ck ((6 : Int32) + y2) 12 = true then (vlet (setI p1.2 40 ((6 : Int32) + y2).toNatClampNeg ((p1.2.1 40 ((6 : Int32) + y2).toNatClampNeg) ||| ((1 : Int32) <<< (p1.1 &&& 31)))) fun M6 => if ck ((6 : Int32) + p1.1) 12 = true then (if ck ((6 : Int32) + p1.1) 12 = true then (vlet (setI M6 40 ((6 : Int32) + p1.1).toNatClampNeg ((M6.1 40 ((6 : Int32) + p1.1).toNatClampNeg) ||| ((1 : Int32) <<< (y2 &&& 31)))) fun M9 => if (M9.1 36 11) = (10 : Int32) then ((f_X10_due F M9 (1 : Int32)).bind fun p11 => some p11.2) else ((f_X10_due F M9 (0 : Int32)).bind fun p13 => some p13.2)) else none) else none) else none) else none) else (if (p1.2.1 36 11) = (10 : Int32) then ((f_X10_due F p1.2 (1 : Int32)).bind fun p16 => some p16.2) else ((f_X10_due F p1.2 (0 : Int32)).bind fun p18 => some p18.2))) = some v from h) fun h => (bdE h).elim fun p1 q2 => let_h q2.2 fun h => r_callV (av := [.int t0]) D_X10_item_140 ml_X10_114 mf_X10_due mv_X10_due s_36 rfl rfl (x_X10_due q2.1) (Nat.le_of_ble_eq_true rfl) rfl rfl (Nat.le_of_ble_eq_true rfl) <| r_istore_n D_X10_item_143 (by decide) rfl <| r_aload_n D_X10_item_144 rfl <| r_getI D_X10_item_145 fl_X10_108 s_36 rfl <| r_bipush D_X10_item_148 k8_m9 <| r_icmp_ne D_X10_item_150 (fun c3 => let_h (ifT c3 h) fun h => r_aload_n D_X10_item_153 rfl <| r_getR (j := 40) D_X10_item_154 fl_X10_20 s_36 rfl <| r_bipush D_X10_item_157 k8_6 <| r_iload_n D_X10_item_159 rfl <| r_iadd D_X10_item_160 <| r_dup2 D_X10_item_161 rfl rfl <| (ckE h).elim fun c4 h => r_iald D_X10_item_162 s_40 c4 <| r_iconst D_X10_item_163 ki_1 <| r_iload_n D_X10_item_164 rfl <| r_ishl D_X10_item_165 <| r_ior D_X10_item_166 <| (ckE h).elim fun c5 h => r_iast D_X10_item_167 s_40 c5 <| mlE h fun M6 h => r_aload_n D_X10_item_168 rfl <| r_getR (j := 40) D_X10_item_169 fl_X10_20 s_36 rfl <| r_bipush D_X10_item_172 k8_6 <| r_iload_n D_X10_item_174 rfl <| r_iadd D_X10_item_175 <| r_dup2 D_X10_item_176 rfl rfl <| (ckE h).elim fun c7 h => r_iald D_X10_item_177 s_40 c7 <| r_iconst D_X10_item_178 ki_1 <| r_iload_n D_X10_item_179 rfl <| r_ishl D_X10_item_180 <| r_ior D_X10_item_181 <| (ckE h).elim fun c8 h => r_iast D_X10_item_182 s_40 c8 <| mlE h fun M9 h => r_aload_n D_X10_item_183 rfl <| r_aload_n D_X10_item_184 rfl <| r_getI D_X10_item_185 fl_X10_101 s_36 rfl <| r_bipush D_X10_item_188 k8_10 <| r_icmp_ne D_X10_item_190 (fun c10 => let_h (ifT c10 h) fun h => r_iconst D_X10_item_193 ki_1 <| r_goto D_X10_item_194 <| (bdE h).elim fun p11 q12 => let_h q12.2 fun h => r_callV (av := [.int (1 : Int32)]) D_X10_item_198 ml_X10_114 mf_X10_due mv_X10_due s_36 rfl rfl (x_X10_due q12.1) (Nat.le_of_ble_eq_true rfl) rfl rfl (Nat.le_of_ble_eq_true rfl) <| r_pop D_X10_item_201 rfl <| r_vret hq D_X10_item_202 rfl (rtV h)) (fun c10 => let_h (ifF c10 h) fun h => r_iconst D_X10_item_197 ki_0 <| (bdE h).elim fun p13 q14 => let_h q14.2 fun h => r_callV (av := [.int (0 : Int32)]) D_X10_item_198 ml_X10_114 mf_X10_due mv_X10_due s_36 rfl rfl (x_X10_due q14.1) (Nat.le_of_ble_eq_true rfl) rfl rfl (Nat.le_of_ble_eq_true rfl) <| r_pop D_X10_item_201 rfl <| r_vret hq D_X10_item_202 rfl (rtV h))) (fun c3 => let_h (ifF c3 h) fun h => r_aload_n D_X10_item_183 rfl <| r_aload_n D_X10_item_184 rfl <| r_getI D_X10_item_185 fl_X10_101 s_36 rfl <| r_bipush D_X10_item_188 k8_10 <| r_icmp_ne D_X10_item_190 (fun c15 => let_h (ifT c15 h) fun h => r_iconst D_X10_item_193 ki_1 <| r_goto D_X10_item_194 <| (bdE h).elim fun p16 q17 => let_h q17.2 fun h => r_callV (av := [.int (1 : Int32)]) D_X10_item_198 ml_X10_114 mf_X10_due mv_X10_due s_36 rfl rfl (x_X10_due q17.1) (Nat.le_of_ble_eq_true rfl) rfl rfl (Nat.le_of_ble_eq_true rfl) <| r_pop D_X10_item_201 rfl <| r_vret hq D_X10_item_202 rfl (rtV h)) (fun c15 => let_h (ifF c15 h) fun h => r_iconst D_X10_item_197 ki_0 <| (bdE h).elim fun p18 q19 => let_h q19.2 fun h => r_callV (av := [.int (0 : Int32)]) D_X10_item_198 ml_X10_114 mf_X10_due mv_X10_due s_36 rfl rfl (x_X10_due q19.1) (Nat.le_of_ble_eq_true rfl) rfl rfl (Nat.le_of_ble_eq_true rfl) <| r_pop D_X10_item_201 rfl <| r_vret hq D_X10_item_202 rfl (rtV h)))
def f_X10_item_51 (F : Nat) (y1 : Int32) (t0 : Int32) (N : Mem) : Option Mem := (f_X10_due F N t0).bind fun p1 => if (p1.2.1 36 13) = (-9 : Int32) then (if (2 : Int32) < y1 then (if y1 = (5 : Int32) then ((f_X10_readDay F p1.2).bind fun p6 => if (p6.1 36 11) = (10 : Int32) then ((f_X10_due F p6 (1 : Int32)).bind fun p9 => some p9.2) else ((f_X10_due F p6 (0 : Int32)).bind fun p11 => some p11.2)) else (if ck (1 : Int32) 2 = true then ((f_X10_number F p1.2 (0 : Int32) ((p1.2.1 38 (1 : Int32).toNatClampNeg) - (1 : Int32))).bind fun p14 => if (p14.2.1 36 11) = (9 : Int32) then (if ck (1 : Int32) 2 = true then (if (p14.2.1 38 (1 : Int32).toNatClampNeg) ≤ (p14.2.1 36 12) then (f_X10_item_140 F p14.1 (0 : Int32) p14.2) else (if (p14.2.1 36 12) = p14.1 then (f_X10_item_140 F p14.1 (0 : Int32) p14.2) else (f_X10_item_140 F p14.1 (1 : Int32) p14.2))) else none) else (f_X10_item_140 F p14.1 (0 : Int32) p14.2)) else none)) else ((f_X10_readThing F p1.2 y1).bind fun p20 => if (p20.1 36 11) = (10 : Int32) then ((f_X10_due F p20 (1 : Int32)).bind fun p23 => some p23.2) else ((f_X10_due F p20 (0 : Int32)).bind fun p25 => some p25.2))) else (some p1.2)
theorem x_X10_item_51 {l : Launch} {w : Wd} {κ : Kp} {F : Nat} {v : Mem} (hq : RQ w (none, v) κ) (y1 : Int32) (t0 : Int32) (N : Mem) (h : f_X10_item_51 F y1 t0 N = some v) : RR l w mi_X10_item (5) κ 51 [.int t0, .ref (wq w 36)] [some (.ref (wq w 36)), some (.int y1), none, none] N := let_h (show ((f_X10_due F N t0).bind fun p1 => if (p1.2.1 36 13) = (-9 : Int32) then (if (2 : Int32) < y1 then (if y1 = (5 : Int32) then ((f_X10_readDay F p1.2).bind fun p6 => if (p6.1 36 11) = (10 : Int32) then ((f_X10_due F p6 (1 : Int32)).bind fun p9 => some p9.2) else ((f_X10_due F p6 (0 : Int32)).bind fun p11 => some p11.2)) else (if ck (1 : Int32) 2 = true then ((f_X10_number F p1.2 (0 : Int32) ((p1.2.1 38 (1 : Int32).toNatClampNeg) - (1 : Int32))).bind fun p14 => if (p14.2.1 36 11) = (9 : Int32) then (if ck (1 : Int32) 2 = true then (if (p14.2.1 38 (1 : Int32).toNatClampNeg) ≤ (p14.2.1 36 12) then (f_X10_item_140 F p14.1 (0 : Int32) p14.2) else (if (p14.2.1 36 12) = p14.1 then (f_X10_item_140 F p14.1 (0 : Int32) p14.2) else (f_X10_item_140 F p14.1 (1 : Int32) p14.2))) else none) else (f_X10_item_140 F p14.1 (0 : Int32) p14.2)) else none)) else ((f_X10_readThing F p1.2 y1).bind fun p20 => if (p20.1 36 11) = (10 : Int32) then ((f_X10_due F p20 (1 : Int32)).bind fun p23 => some p23.2) else ((f_X10_due F p20 (0 : Int32)).bind fun p25 => some p25.2))) else (some p1.2)) = some v from h) fun h => (bdE h).elim fun p1 q2 => let_h q2.2 fun h => r_callV (av := [.int t0]) D_X10_item_51 ml_X10_114 mf_X10_due mv_X10_due s_36 rfl rfl (x_X10_due q2.1) (Nat.le_of_ble_eq_true rfl) rfl rfl (Nat.le_of_ble_eq_true rfl) <| r_pop D_X10_item_54 rfl <| r_aload_n D_X10_item_55 rfl <| r_getI D_X10_item_56 fl_X10_108 s_36 rfl <| r_bipush D_X10_item_59 k8_m9 <| r_icmp_eq D_X10_item_61 (fun c3 => let_h (ifT c3 h) fun h => r_iload_n D_X10_item_65 rfl <| r_iconst D_X10_item_66 ki_2 <| r_icmp_gt D_X10_item_67 (fun c4 => let_h (ifT c4 h) fun h => r_iload_n D_X10_item_78 rfl <| r_iconst D_X10_item_79 ki_5 <| r_icmp_ne D_X10_item_80 (fun c5 => let_h (ifT c5 h) fun h => r_aload_n D_X10_item_83 rfl <| (bdE h).elim fun p6 q7 => let_h q7.2 fun h => r_callV (av := []) D_X10_item_84 ml_X10_133 mf_X10_readDay mv_X10_readDay s_36 rfl rfl (x_X10_readDay q7.1) (Nat.le_of_ble_eq_true rfl) rfl rfl (Nat.le_of_ble_eq_true rfl) <| r_goto D_X10_item_87 <| r_aload_n D_X10_item_183 rfl <| r_aload_n D_X10_item_184 rfl <| r_getI D_X10_item_185 fl_X10_101 s_36 rfl <| r_bipush D_X10_item_188 k8_10 <| r_icmp_ne D_X10_item_190 (fun c8 => let_h (ifT c8 h) fun h => r_iconst D_X10_item_193 ki_1 <| r_goto D_X10_item_194 <| (bdE h).elim fun p9 q10 => let_h q10.2 fun h => r_callV (av := [.int (1 : Int32)]) D_X10_item_198 ml_X10_114 mf_X10_due mv_X10_due s_36 rfl rfl (x_X10_due q10.1) (Nat.le_of_ble_eq_true rfl) rfl rfl (Nat.le_of_ble_eq_true rfl) <| r_pop D_X10_item_201 rfl <| r_vret hq D_X10_item_202 rfl (rtV h)) (fun c8 => let_h (ifF c8 h) fun h => r_iconst D_X10_item_197 ki_0 <| (bdE h).elim fun p11 q12 => let_h q12.2 fun h => r_callV (av := [.int (0 : Int32)]) D_X10_item_198 ml_X10_114 mf_X10_due mv_X10_due s_36 rfl rfl (x_X10_due q12.1) (Nat.le_of_ble_eq_true rfl) rfl rfl (Nat.le_of_ble_eq_true rfl) <| r_pop D_X10_item_201 rfl <| r_vret hq D_X10_item_202 rfl (rtV h))) (fun c5 => let_h (ifF c5 h) fun h => r_aload_n D_X10_item_90 rfl <| r_iconst D_X10_item_91 ki_0 <| r_aload_n D_X10_item_92 rfl <| r_getR (j := 38) D_X10_item_93 fl_X10_13 s_36 rfl <| r_iconst D_X10_item_96 ki_1 <| (ckE h).elim fun c13 h => r_iald D_X10_item_97 s_38 c13 <| r_iconst D_X10_item_98 ki_1 <| r_isub D_X10_item_99 <| (bdE h).elim fun p14 q15 => let_h q15.2 fun h => r_callV (av := [.int (0 : Int32), .int ((p1.2.1 38 (1 : Int32).toNatClampNeg) - (1 : Int32))]) D_X10_item_100 ml_X10_118 mf_X10_number mv_X10_number s_36 rfl rfl (x_X10_number q15.1) (Nat.le_of_ble_eq_true rfl) rfl rfl (Nat.le_of_ble_eq_true rfl) <| r_istore_n D_X10_item_103 (by decide) rfl <| r_aload_n D_X10_item_104 rfl <| r_aload_n D_X10_item_105 rfl <| r_getI D_X10_item_106 fl_X10_101 s_36 rfl <| r_bipush D_X10_item_109 k8_9 <| r_icmp_ne D_X10_item_111 (fun c16 => let_h (ifT c16 h) fun h => r_aload_n D_X10_item_114 rfl <| r_getI D_X10_item_115 fl_X10_98 s_36 rfl <| r_aload_n D_X10_item_118 rfl <| r_getR (j := 38) D_X10_item_119 fl_X10_13 s_36 rfl <| r_iconst D_X10_item_122 ki_1 <| (ckE h).elim fun c17 h => r_iald D_X10_item_123 s_38 c17 <| r_icmp_ge D_X10_item_124 (fun c18 => let_h (ifT c18 h) fun h => r_iconst D_X10_item_139 ki_0 <| r_ls (x_X10_item_140 hq p14.1 (0 : Int32) p14.2 h) ⟨rfl, ⟨rfl, trivial⟩⟩) (fun c18 => let_h (ifF c18 h) fun h => r_aload_n D_X10_item_127 rfl <| r_getI D_X10_item_128 fl_X10_98 s_36 rfl <| r_iload_n D_X10_item_131 rfl <| r_icmp_eq D_X10_item_132 (fun c19 => let_h (ifT c19 h) fun h => r_iconst D_X10_item_139 ki_0 <| r_ls (x_X10_item_140 hq p14.1 (0 : Int32) p14.2 h) ⟨rfl, ⟨rfl, trivial⟩⟩) (fun c19 => let_h (ifF c19 h) fun h => r_iconst D_X10_item_135 ki_1 <| r_goto D_X10_item_136 <| r_ls (x_X10_item_140 hq p14.1 (1 : Int32) p14.2 h) ⟨rfl, ⟨rfl, trivial⟩⟩))) (fun c16 => let_h (ifF c16 h) fun h => r_iconst D_X10_item_139 ki_0 <| r_ls (x_X10_item_140 hq p14.1 (0 : Int32) p14.2 h) ⟨rfl, ⟨rfl, trivial⟩⟩))) (fun c4 => let_h (ifF c4 h) fun h => r_aload_n D_X10_item_70 rfl <| r_iload_n D_X10_item_71 rfl <| (bdE h).elim fun p20 q21 => let_h q21.2 fun h => r_callV (av := [.int y1]) D_X10_item_72 ml_X10_129 mf_X10_readThing mv_X10_readThing s_36 rfl rfl (x_X10_readThing q21.1) (Nat.le_of_ble_eq_true rfl) rfl rfl (Nat.le_of_ble_eq_true rfl) <| r_goto D_X10_item_75 <| r_aload_n D_X10_item_183 rfl <| r_aload_n D_X10_item_184 rfl <| r_getI D_X10_item_185 fl_X10_101 s_36 rfl <| r_bipush D_X10_item_188 k8_10 <| r_icmp_ne D_X10_item_190 (fun c22 => let_h (ifT c22 h) fun h => r_iconst D_X10_item_193 ki_1 <| r_goto D_X10_item_194 <| (bdE h).elim fun p23 q24 => let_h q24.2 fun h => r_callV (av := [.int (1 : Int32)]) D_X10_item_198 ml_X10_114 mf_X10_due mv_X10_due s_36 rfl rfl (x_X10_due q24.1) (Nat.le_of_ble_eq_true rfl) rfl rfl (Nat.le_of_ble_eq_true rfl) <| r_pop D_X10_item_201 rfl <| r_vret hq D_X10_item_202 rfl (rtV h)) (fun c22 => let_h (ifF c22 h) fun h => r_iconst D_X10_item_197 ki_0 <| (bdE h).elim fun p25 q26 => let_h q26.2 fun h => r_callV (av := [.int (0 : Int32)]) D_X10_item_198 ml_X10_114 mf_X10_due mv_X10_due s_36 rfl rfl (x_X10_due q26.1) (Nat.le_of_ble_eq_true rfl) rfl rfl (Nat.le_of_ble_eq_true rfl) <| r_pop D_X10_item_201 rfl <| r_vret hq D_X10_item_202 rfl (rtV h)))) (fun c3 => let_h (ifF c3 h) fun h => r_vret hq D_X10_item_64 rfl (rtV h))
def f_X10_item (F : Nat) (M : Mem) (a1 : Int32) : Option Mem := if (2 : Int32) < a1 then (if a1 = (4 : Int32) then (f_X10_item_51 F a1 (1 : Int32) M) else (if a1 = (5 : Int32) then (if ck (1 : Int32) 2 = true then (if (8 : Int32) ≤ (M.1 41 (1 : Int32).toNatClampNeg) then (f_X10_item_51 F a1 (0 : Int32) M) else (f_X10_item_51 F a1 (1 : Int32) M)) else none) else (f_X10_item_51 F a1 (0 : Int32) M))) else (if ck (1 : Int32) 2 = true then (if (6 : Int32) ≤ (M.1 38 (1 : Int32).toNatClampNeg) then (f_X10_item_51 F a1 (0 : Int32) M) else (f_X10_item_51 F a1 (1 : Int32) M)) else none)
theorem x_X10_item {l : Launch} {w : Wd} {F : Nat} {M : Mem} {a1 : Int32} {v : Mem} (h : f_X10_item F M a1 = some v) : Cn l w mi_X10_item yX10_item (5) [.ref (wq w 36), .int a1] M (none, v) :=
  Cn_of (loc0 := [some (.ref (wq w 36)), some (.int a1), none, none]) rfl rfl rfl (Nat.le_of_ble_eq_true rfl) fun κ hq => let_h (show (if (2 : Int32) < a1 then (if a1 = (4 : Int32) then (f_X10_item_51 F a1 (1 : Int32) M) else (if a1 = (5 : Int32) then (if ck (1 : Int32) 2 = true then (if (8 : Int32) ≤ (M.1 41 (1 : Int32).toNatClampNeg) then (f_X10_item_51 F a1 (0 : Int32) M) else (f_X10_item_51 F a1 (1 : Int32) M)) else none) else (f_X10_item_51 F a1 (0 : Int32) M))) else (if ck (1 : Int32) 2 = true then (if (6 : Int32) ≤ (M.1 38 (1 : Int32).toNatClampNeg) then (f_X10_item_51 F a1 (0 : Int32) M) else (f_X10_item_51 F a1 (1 : Int32) M)) else none)) = some v from h) fun h => r_aload_n D_X10_item_0 rfl <| r_iload_n D_X10_item_1 rfl <| r_iconst D_X10_item_2 ki_2 <| r_icmp_gt D_X10_item_3 (fun c1 => let_h (ifT c1 h) fun h => r_iload_n D_X10_item_25 rfl <| r_iconst D_X10_item_26 ki_4 <| r_icmp_eq D_X10_item_27 (fun c2 => let_h (ifT c2 h) fun h => r_iconst D_X10_item_46 ki_1 <| r_goto D_X10_item_47 <| r_ls (x_X10_item_51 hq a1 (1 : Int32) M h) ⟨rfl, ⟨rfl, trivial⟩⟩) (fun c2 => let_h (ifF c2 h) fun h => r_iload_n D_X10_item_30 rfl <| r_iconst D_X10_item_31 ki_5 <| r_icmp_ne D_X10_item_32 (fun c3 => let_h (ifT c3 h) fun h => r_aload_n D_X10_item_35 rfl <| r_getR (j := 41) D_X10_item_36 fl_X10_23 s_36 rfl <| r_iconst D_X10_item_39 ki_1 <| (ckE h).elim fun c4 h => r_iald D_X10_item_40 s_41 c4 <| r_bipush D_X10_item_41 k8_8 <| r_icmp_ge D_X10_item_43 (fun c5 => let_h (ifT c5 h) fun h => r_iconst D_X10_item_50 ki_0 <| r_ls (x_X10_item_51 hq a1 (0 : Int32) M h) ⟨rfl, ⟨rfl, trivial⟩⟩) (fun c5 => let_h (ifF c5 h) fun h => r_iconst D_X10_item_46 ki_1 <| r_goto D_X10_item_47 <| r_ls (x_X10_item_51 hq a1 (1 : Int32) M h) ⟨rfl, ⟨rfl, trivial⟩⟩)) (fun c3 => let_h (ifF c3 h) fun h => r_iconst D_X10_item_50 ki_0 <| r_ls (x_X10_item_51 hq a1 (0 : Int32) M h) ⟨rfl, ⟨rfl, trivial⟩⟩))) (fun c1 => let_h (ifF c1 h) fun h => r_aload_n D_X10_item_6 rfl <| r_getR (j := 38) D_X10_item_7 fl_X10_13 s_36 rfl <| r_iconst D_X10_item_10 ki_1 <| (ckE h).elim fun c6 h => r_iald D_X10_item_11 s_38 c6 <| r_bipush D_X10_item_12 k8_6 <| r_icmp_ge D_X10_item_14 (fun c7 => let_h (ifT c7 h) fun h => r_iconst D_X10_item_21 ki_0 <| r_goto D_X10_item_22 <| r_ls (x_X10_item_51 hq a1 (0 : Int32) M h) ⟨rfl, ⟨rfl, trivial⟩⟩) (fun c7 => let_h (ifF c7 h) fun h => r_iconst D_X10_item_17 ki_1 <| r_goto D_X10_item_18 <| r_ls (x_X10_item_51 hq a1 (1 : Int32) M h) ⟨rfl, ⟨rfl, trivial⟩⟩))
