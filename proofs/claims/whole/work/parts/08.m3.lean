-- X6_codeOf
theorem D_X6_codeOf_0 : Dec mi_X6_codeOf 0 (.aload_n 0) 1 1 := ⟨by decide +kernel, rfl⟩
theorem D_X6_codeOf_1 : Dec mi_X6_codeOf 1 (.getfield 20) 3 4 := ⟨by decide +kernel, rfl⟩
theorem D_X6_codeOf_4 : Dec mi_X6_codeOf 4 (.iload_n 1) 1 5 := ⟨by decide +kernel, rfl⟩
theorem D_X6_codeOf_5 : Dec mi_X6_codeOf 5 (.invokevirtual 68) 3 8 := ⟨by decide +kernel, rfl⟩
theorem D_X6_codeOf_8 : Dec mi_X6_codeOf 8 (.invokestatic 78) 3 11 := ⟨by decide +kernel, rfl⟩
theorem D_X6_codeOf_11 : DecJ mi_X6_codeOf 11 (.ifCond .eq 10) (10) 14 21 := ⟨by decide +kernel, rfl, by decide⟩
theorem D_X6_codeOf_14 : Dec mi_X6_codeOf 14 (.aload_n 0) 1 15 := ⟨by decide +kernel, rfl⟩
theorem D_X6_codeOf_15 : Dec mi_X6_codeOf 15 (.iload_n 1) 1 16 := ⟨by decide +kernel, rfl⟩
theorem D_X6_codeOf_16 : Dec mi_X6_codeOf 16 (.iload_n 2) 1 17 := ⟨by decide +kernel, rfl⟩
theorem D_X6_codeOf_17 : Dec mi_X6_codeOf 17 (.invokevirtual 84) 3 20 := ⟨by decide +kernel, rfl⟩
theorem D_X6_codeOf_20 : Dec mi_X6_codeOf 20 (.ireturn) 1 21 := ⟨by decide +kernel, rfl⟩
theorem D_X6_codeOf_21 : Dec mi_X6_codeOf 21 (.aload_n 0) 1 22 := ⟨by decide +kernel, rfl⟩
theorem D_X6_codeOf_22 : Dec mi_X6_codeOf 22 (.getfield 20) 3 25 := ⟨by decide +kernel, rfl⟩
theorem D_X6_codeOf_25 : Dec mi_X6_codeOf 25 (.iload_n 1) 1 26 := ⟨by decide +kernel, rfl⟩
theorem D_X6_codeOf_26 : Dec mi_X6_codeOf 26 (.invokevirtual 68) 3 29 := ⟨by decide +kernel, rfl⟩
theorem D_X6_codeOf_29 : Dec mi_X6_codeOf 29 (.invokestatic 81) 3 32 := ⟨by decide +kernel, rfl⟩
theorem D_X6_codeOf_32 : DecJ mi_X6_codeOf 32 (.ifCond .eq 10) (10) 35 42 := ⟨by decide +kernel, rfl, by decide⟩
theorem D_X6_codeOf_35 : Dec mi_X6_codeOf 35 (.aload_n 0) 1 36 := ⟨by decide +kernel, rfl⟩
theorem D_X6_codeOf_36 : Dec mi_X6_codeOf 36 (.iload_n 1) 1 37 := ⟨by decide +kernel, rfl⟩
theorem D_X6_codeOf_37 : Dec mi_X6_codeOf 37 (.iload_n 2) 1 38 := ⟨by decide +kernel, rfl⟩
theorem D_X6_codeOf_38 : Dec mi_X6_codeOf 38 (.invokevirtual 87) 3 41 := ⟨by decide +kernel, rfl⟩
theorem D_X6_codeOf_41 : Dec mi_X6_codeOf 41 (.ireturn) 1 42 := ⟨by decide +kernel, rfl⟩
theorem D_X6_codeOf_42 : Dec mi_X6_codeOf 42 (.aload_n 0) 1 43 := ⟨by decide +kernel, rfl⟩
theorem D_X6_codeOf_43 : Dec mi_X6_codeOf 43 (.getfield 20) 3 46 := ⟨by decide +kernel, rfl⟩
theorem D_X6_codeOf_46 : Dec mi_X6_codeOf 46 (.iload_n 1) 1 47 := ⟨by decide +kernel, rfl⟩
theorem D_X6_codeOf_47 : Dec mi_X6_codeOf 47 (.invokevirtual 68) 3 50 := ⟨by decide +kernel, rfl⟩
theorem D_X6_codeOf_50 : Dec mi_X6_codeOf 50 (.bipush 59) 2 52 := ⟨by decide +kernel, rfl⟩
theorem D_X6_codeOf_52 : DecJ mi_X6_codeOf 52 (.if_icmp .ne 8) (8) 55 60 := ⟨by decide +kernel, rfl, by decide⟩
theorem D_X6_codeOf_55 : Dec mi_X6_codeOf 55 (.bipush 8) 2 57 := ⟨by decide +kernel, rfl⟩
theorem D_X6_codeOf_57 : DecJ mi_X6_codeOf 57 (.goto 5) (5) 60 62 := ⟨by decide +kernel, rfl, by decide⟩
theorem D_X6_codeOf_60 : Dec mi_X6_codeOf 60 (.bipush 10) 2 62 := ⟨by decide +kernel, rfl⟩
theorem D_X6_codeOf_62 : Dec mi_X6_codeOf 62 (.ireturn) 1 63 := ⟨by decide +kernel, rfl⟩
def f_X6_codeOf (F : Nat) (M : Mem) (a1 : Int32) (a2 : Int32) : Option Int32 := (f_X7_at M a1).bind fun x1 => if (f_X6_isDigit M x1) = 0 then ((f_X7_at M a1).bind fun x4 => if (f_X6_isLetter M x4) = 0 then ((f_X7_at M a1).bind fun x7 => if x7 = (59 : Int32) then (some (8 : Int32)) else (some (10 : Int32))) else ((f_X6_wordCode F M a1 a2).bind fun x10 => some x10)) else ((f_X6_numberCode F M a1 a2).bind fun x12 => some x12)
theorem x_X6_codeOf {l : Launch} {w : Wd} {F : Nat} {M : Mem} {a1 : Int32} {a2 : Int32} {v : Int32} (h : f_X6_codeOf F M a1 a2 = some v) : Cn l w mi_X6_codeOf yX6_codeOf (7) [.ref (wq w 11), .int a1, .int a2] M (some (.int v), M) :=
  Cn_of (loc0 := [some (.ref (wq w 11)), some (.int a1), some (.int a2)]) rfl rfl rfl (Nat.le_of_ble_eq_true rfl) fun κ hq => let_h (show ((f_X7_at M a1).bind fun x1 => if (f_X6_isDigit M x1) = 0 then ((f_X7_at M a1).bind fun x4 => if (f_X6_isLetter M x4) = 0 then ((f_X7_at M a1).bind fun x7 => if x7 = (59 : Int32) then (some (8 : Int32)) else (some (10 : Int32))) else ((f_X6_wordCode F M a1 a2).bind fun x10 => some x10)) else ((f_X6_numberCode F M a1 a2).bind fun x12 => some x12)) = some v from h) fun h => r_aload_n D_X6_codeOf_0 rfl <| r_getR (j := 1) D_X6_codeOf_1 fl_X6_20 s_11 rfl <| r_iload_n D_X6_codeOf_4 rfl <| (bdE h).elim fun x1 q2 => let_h q2.2 fun h => r_callV (av := [.int a1]) D_X6_codeOf_5 ml_X6_68 mf_X7_at mv_X7_at s_1 rfl rfl (x_X7_at q2.1) (Nat.le_of_ble_eq_true rfl) rfl rfl (Nat.le_of_ble_eq_true rfl) <| r_callS (av := [.int x1]) D_X6_codeOf_8 ml_X6_78 mf_X6_isDigit ms_X6_isDigit (x_X6_isDigit rfl) (Nat.le_of_ble_eq_true rfl) rfl rfl (Nat.le_of_ble_eq_true rfl) <| r_if_eq D_X6_codeOf_11 (fun c3 => let_h (ifT c3 h) fun h => r_aload_n D_X6_codeOf_21 rfl <| r_getR (j := 1) D_X6_codeOf_22 fl_X6_20 s_11 rfl <| r_iload_n D_X6_codeOf_25 rfl <| (bdE h).elim fun x4 q5 => let_h q5.2 fun h => r_callV (av := [.int a1]) D_X6_codeOf_26 ml_X6_68 mf_X7_at mv_X7_at s_1 rfl rfl (x_X7_at q5.1) (Nat.le_of_ble_eq_true rfl) rfl rfl (Nat.le_of_ble_eq_true rfl) <| r_callS (av := [.int x4]) D_X6_codeOf_29 ml_X6_81 mf_X6_isLetter ms_X6_isLetter (x_X6_isLetter rfl) (Nat.le_of_ble_eq_true rfl) rfl rfl (Nat.le_of_ble_eq_true rfl) <| r_if_eq D_X6_codeOf_32 (fun c6 => let_h (ifT c6 h) fun h => r_aload_n D_X6_codeOf_42 rfl <| r_getR (j := 1) D_X6_codeOf_43 fl_X6_20 s_11 rfl <| r_iload_n D_X6_codeOf_46 rfl <| (bdE h).elim fun x7 q8 => let_h q8.2 fun h => r_callV (av := [.int a1]) D_X6_codeOf_47 ml_X6_68 mf_X7_at mv_X7_at s_1 rfl rfl (x_X7_at q8.1) (Nat.le_of_ble_eq_true rfl) rfl rfl (Nat.le_of_ble_eq_true rfl) <| r_bipush D_X6_codeOf_50 k8_59 <| r_icmp_ne D_X6_codeOf_52 (fun c9 => let_h (ifT c9 h) fun h => r_bipush D_X6_codeOf_55 k8_8 <| r_goto D_X6_codeOf_57 <| r_iret hq D_X6_codeOf_62 rfl (rtP h)) (fun c9 => let_h (ifF c9 h) fun h => r_bipush D_X6_codeOf_60 k8_10 <| r_iret hq D_X6_codeOf_62 rfl (rtP h))) (fun c6 => let_h (ifF c6 h) fun h => r_aload_n D_X6_codeOf_35 rfl <| r_iload_n D_X6_codeOf_36 rfl <| r_iload_n D_X6_codeOf_37 rfl <| (bdE h).elim fun x10 q11 => let_h q11.2 fun h => r_callV (av := [.int a1, .int a2]) D_X6_codeOf_38 ml_X6_87 mf_X6_wordCode mv_X6_wordCode s_11 rfl rfl (x_X6_wordCode q11.1) (Nat.le_of_ble_eq_true rfl) rfl rfl (Nat.le_of_ble_eq_true rfl) <| r_iret hq D_X6_codeOf_41 rfl (rtP h))) (fun c3 => let_h (ifF c3 h) fun h => r_aload_n D_X6_codeOf_14 rfl <| r_iload_n D_X6_codeOf_15 rfl <| r_iload_n D_X6_codeOf_16 rfl <| (bdE h).elim fun x12 q13 => let_h q13.2 fun h => r_callV (av := [.int a1, .int a2]) D_X6_codeOf_17 ml_X6_84 mf_X6_numberCode mv_X6_numberCode s_11 rfl rfl (x_X6_numberCode q13.1) (Nat.le_of_ble_eq_true rfl) rfl rfl (Nat.le_of_ble_eq_true rfl) <| r_iret hq D_X6_codeOf_20 rfl (rtP h))
-- X6_addToken
theorem D_X6_addToken_0 : Dec mi_X6_addToken 0 (.aload_n 0) 1 1 := ⟨by decide +kernel, rfl⟩
theorem D_X6_addToken_1 : Dec mi_X6_addToken 1 (.getfield 52) 3 4 := ⟨by decide +kernel, rfl⟩
theorem D_X6_addToken_4 : DecJ mi_X6_addToken 4 (.ifCond .lt 43) (43) 7 47 := ⟨by decide +kernel, rfl, by decide⟩
theorem D_X6_addToken_7 : Dec mi_X6_addToken 7 (.aload_n 0) 1 8 := ⟨by decide +kernel, rfl⟩
theorem D_X6_addToken_8 : Dec mi_X6_addToken 8 (.getfield 52) 3 11 := ⟨by decide +kernel, rfl⟩
theorem D_X6_addToken_11 : Dec mi_X6_addToken 11 (.sipush 500) 3 14 := ⟨by decide +kernel, rfl⟩
theorem D_X6_addToken_14 : DecJ mi_X6_addToken 14 (.if_icmp .ge 33) (33) 17 47 := ⟨by decide +kernel, rfl, by decide⟩
theorem D_X6_addToken_17 : Dec mi_X6_addToken 17 (.aload_n 0) 1 18 := ⟨by decide +kernel, rfl⟩
theorem D_X6_addToken_18 : Dec mi_X6_addToken 18 (.getfield 13) 3 21 := ⟨by decide +kernel, rfl⟩
theorem D_X6_addToken_21 : Dec mi_X6_addToken 21 (.aload_n 0) 1 22 := ⟨by decide +kernel, rfl⟩
theorem D_X6_addToken_22 : Dec mi_X6_addToken 22 (.getfield 52) 3 25 := ⟨by decide +kernel, rfl⟩
theorem D_X6_addToken_25 : Dec mi_X6_addToken 25 (.iload_n 1) 1 26 := ⟨by decide +kernel, rfl⟩
theorem D_X6_addToken_26 : Dec mi_X6_addToken 26 (.iastore) 1 27 := ⟨by decide +kernel, rfl⟩
theorem D_X6_addToken_27 : Dec mi_X6_addToken 27 (.aload_n 0) 1 28 := ⟨by decide +kernel, rfl⟩
theorem D_X6_addToken_28 : Dec mi_X6_addToken 28 (.getfield 17) 3 31 := ⟨by decide +kernel, rfl⟩
theorem D_X6_addToken_31 : Dec mi_X6_addToken 31 (.aload_n 0) 1 32 := ⟨by decide +kernel, rfl⟩
theorem D_X6_addToken_32 : Dec mi_X6_addToken 32 (.getfield 52) 3 35 := ⟨by decide +kernel, rfl⟩
theorem D_X6_addToken_35 : Dec mi_X6_addToken 35 (.iload_n 2) 1 36 := ⟨by decide +kernel, rfl⟩
theorem D_X6_addToken_36 : Dec mi_X6_addToken 36 (.iastore) 1 37 := ⟨by decide +kernel, rfl⟩
theorem D_X6_addToken_37 : Dec mi_X6_addToken 37 (.aload_n 0) 1 38 := ⟨by decide +kernel, rfl⟩
theorem D_X6_addToken_38 : Dec mi_X6_addToken 38 (.dup) 1 39 := ⟨by decide +kernel, rfl⟩
theorem D_X6_addToken_39 : Dec mi_X6_addToken 39 (.getfield 52) 3 42 := ⟨by decide +kernel, rfl⟩
theorem D_X6_addToken_42 : Dec mi_X6_addToken 42 (.iconst 1) 1 43 := ⟨by decide +kernel, rfl⟩
theorem D_X6_addToken_43 : Dec mi_X6_addToken 43 (.iadd) 1 44 := ⟨by decide +kernel, rfl⟩
theorem D_X6_addToken_44 : Dec mi_X6_addToken 44 (.putfield 52) 3 47 := ⟨by decide +kernel, rfl⟩
theorem D_X6_addToken_47 : Dec mi_X6_addToken 47 (.return_) 1 48 := ⟨by decide +kernel, rfl⟩
def f_X6_addToken (M : Mem) (a1 : Int32) (a2 : Int32) : Option Mem := if (M.1 11 4) < 0 then (some M) else (if (500 : Int32) ≤ (M.1 11 4) then (some M) else (if ck (M.1 11 4) 500 = true then (vlet (setI M 12 (M.1 11 4).toNatClampNeg a1) fun M4 => if ck (M4.1 11 4) 500 = true then (vlet (setI M4 13 (M4.1 11 4).toNatClampNeg a2) fun M6 => vlet (setI M6 11 4 ((M6.1 11 4) + (1 : Int32))) fun M7 => some M7) else none) else none))
theorem x_X6_addToken {l : Launch} {w : Wd} {M : Mem} {a1 : Int32} {a2 : Int32} {v : Mem} (h : f_X6_addToken M a1 a2 = some v) : Cn l w mi_X6_addToken yX6_addToken (0) [.ref (wq w 11), .int a1, .int a2] M (none, v) :=
  Cn_of (loc0 := [some (.ref (wq w 11)), some (.int a1), some (.int a2)]) rfl rfl rfl (Nat.le_of_ble_eq_true rfl) fun κ hq => let_h (show (if (M.1 11 4) < 0 then (some M) else (if (500 : Int32) ≤ (M.1 11 4) then (some M) else (if ck (M.1 11 4) 500 = true then (vlet (setI M 12 (M.1 11 4).toNatClampNeg a1) fun M4 => if ck (M4.1 11 4) 500 = true then (vlet (setI M4 13 (M4.1 11 4).toNatClampNeg a2) fun M6 => vlet (setI M6 11 4 ((M6.1 11 4) + (1 : Int32))) fun M7 => some M7) else none) else none))) = some v from h) fun h => r_aload_n D_X6_addToken_0 rfl <| r_getI D_X6_addToken_1 fl_X6_52 s_11 rfl <| r_if_lt D_X6_addToken_4 (fun c1 => let_h (ifT c1 h) fun h => r_vret hq D_X6_addToken_47 rfl (rtV h)) (fun c1 => let_h (ifF c1 h) fun h => r_aload_n D_X6_addToken_7 rfl <| r_getI D_X6_addToken_8 fl_X6_52 s_11 rfl <| r_sipush D_X6_addToken_11 k16_500 <| r_icmp_ge D_X6_addToken_14 (fun c2 => let_h (ifT c2 h) fun h => r_vret hq D_X6_addToken_47 rfl (rtV h)) (fun c2 => let_h (ifF c2 h) fun h => r_aload_n D_X6_addToken_17 rfl <| r_getR (j := 12) D_X6_addToken_18 fl_X6_13 s_11 rfl <| r_aload_n D_X6_addToken_21 rfl <| r_getI D_X6_addToken_22 fl_X6_52 s_11 rfl <| r_iload_n D_X6_addToken_25 rfl <| (ckE h).elim fun c3 h => r_iast D_X6_addToken_26 s_12 c3 <| mlE h fun M4 h => r_aload_n D_X6_addToken_27 rfl <| r_getR (j := 13) D_X6_addToken_28 fl_X6_17 s_11 rfl <| r_aload_n D_X6_addToken_31 rfl <| r_getI D_X6_addToken_32 fl_X6_52 s_11 rfl <| r_iload_n D_X6_addToken_35 rfl <| (ckE h).elim fun c5 h => r_iast D_X6_addToken_36 s_13 c5 <| mlE h fun M6 h => r_aload_n D_X6_addToken_37 rfl <| r_dup D_X6_addToken_38 rfl <| r_getI D_X6_addToken_39 fl_X6_52 s_11 rfl <| r_iconst D_X6_addToken_42 ki_1 <| r_iadd D_X6_addToken_43 <| r_putI D_X6_addToken_44 fp_X6_52 s_11 rfl rfl rfl <| mlE h fun M7 h => r_vret hq D_X6_addToken_47 rfl (rtV h)))
-- X6_split
theorem D_X6_split_0 : Dec mi_X6_split 0 (.aload_n 0) 1 1 := ⟨by decide +kernel, rfl⟩
theorem D_X6_split_1 : Dec mi_X6_split 1 (.iconst 0) 1 2 := ⟨by decide +kernel, rfl⟩
theorem D_X6_split_2 : Dec mi_X6_split 2 (.putfield 52) 3 5 := ⟨by decide +kernel, rfl⟩
theorem D_X6_split_5 : Dec mi_X6_split 5 (.iconst 0) 1 6 := ⟨by decide +kernel, rfl⟩
theorem D_X6_split_6 : Dec mi_X6_split 6 (.istore_n 1) 1 7 := ⟨by decide +kernel, rfl⟩
theorem D_X6_split_7 : Dec mi_X6_split 7 (.iload_n 1) 1 8 := ⟨by decide +kernel, rfl⟩
theorem D_X6_split_8 : Dec mi_X6_split 8 (.aload_n 0) 1 9 := ⟨by decide +kernel, rfl⟩
theorem D_X6_split_9 : Dec mi_X6_split 9 (.getfield 20) 3 12 := ⟨by decide +kernel, rfl⟩
theorem D_X6_split_12 : Dec mi_X6_split 12 (.invokevirtual 55) 3 15 := ⟨by decide +kernel, rfl⟩
theorem D_X6_split_15 : DecJ mi_X6_split 15 (.if_icmp .ge 44) (44) 18 59 := ⟨by decide +kernel, rfl, by decide⟩
theorem D_X6_split_18 : Dec mi_X6_split 18 (.aload_n 0) 1 19 := ⟨by decide +kernel, rfl⟩
theorem D_X6_split_19 : Dec mi_X6_split 19 (.iload_n 1) 1 20 := ⟨by decide +kernel, rfl⟩
theorem D_X6_split_20 : Dec mi_X6_split 20 (.invokevirtual 58) 3 23 := ⟨by decide +kernel, rfl⟩
theorem D_X6_split_23 : Dec mi_X6_split 23 (.iload_n 1) 1 24 := ⟨by decide +kernel, rfl⟩
theorem D_X6_split_24 : Dec mi_X6_split 24 (.iconst 1) 1 25 := ⟨by decide +kernel, rfl⟩
theorem D_X6_split_25 : Dec mi_X6_split 25 (.iadd) 1 26 := ⟨by decide +kernel, rfl⟩
theorem D_X6_split_26 : Dec mi_X6_split 26 (.invokestatic 62) 3 29 := ⟨by decide +kernel, rfl⟩
theorem D_X6_split_29 : Dec mi_X6_split 29 (.istore_n 2) 1 30 := ⟨by decide +kernel, rfl⟩
theorem D_X6_split_30 : Dec mi_X6_split 30 (.aload_n 0) 1 31 := ⟨by decide +kernel, rfl⟩
theorem D_X6_split_31 : Dec mi_X6_split 31 (.getfield 20) 3 34 := ⟨by decide +kernel, rfl⟩
theorem D_X6_split_34 : Dec mi_X6_split 34 (.iload_n 1) 1 35 := ⟨by decide +kernel, rfl⟩
theorem D_X6_split_35 : Dec mi_X6_split 35 (.invokevirtual 68) 3 38 := ⟨by decide +kernel, rfl⟩
theorem D_X6_split_38 : Dec mi_X6_split 38 (.bipush 32) 2 40 := ⟨by decide +kernel, rfl⟩
theorem D_X6_split_40 : DecJ mi_X6_split 40 (.if_icmp .eq 14) (14) 43 54 := ⟨by decide +kernel, rfl, by decide⟩
theorem D_X6_split_43 : Dec mi_X6_split 43 (.aload_n 0) 1 44 := ⟨by decide +kernel, rfl⟩
theorem D_X6_split_44 : Dec mi_X6_split 44 (.aload_n 0) 1 45 := ⟨by decide +kernel, rfl⟩
theorem D_X6_split_45 : Dec mi_X6_split 45 (.iload_n 1) 1 46 := ⟨by decide +kernel, rfl⟩
theorem D_X6_split_46 : Dec mi_X6_split 46 (.iload_n 2) 1 47 := ⟨by decide +kernel, rfl⟩
theorem D_X6_split_47 : Dec mi_X6_split 47 (.invokevirtual 71) 3 50 := ⟨by decide +kernel, rfl⟩
theorem D_X6_split_50 : Dec mi_X6_split 50 (.iload_n 1) 1 51 := ⟨by decide +kernel, rfl⟩
theorem D_X6_split_51 : Dec mi_X6_split 51 (.invokevirtual 74) 3 54 := ⟨by decide +kernel, rfl⟩
theorem D_X6_split_54 : Dec mi_X6_split 54 (.iload_n 2) 1 55 := ⟨by decide +kernel, rfl⟩
theorem D_X6_split_55 : Dec mi_X6_split 55 (.istore_n 1) 1 56 := ⟨by decide +kernel, rfl⟩
theorem D_X6_split_56 : DecJ mi_X6_split 56 (.goto (-49)) (-49) 59 7 := ⟨by decide +kernel, rfl, by decide⟩
theorem D_X6_split_59 : Dec mi_X6_split 59 (.return_) 1 60 := ⟨by decide +kernel, rfl⟩
def f_X6_split_7 (F : Nat) : Nat → Int32 → Mem → Option Mem
  | 0, _, _ => none
  | n + 1, y1, N => if (f_X7_length N) ≤ y1 then (some N) else ((f_X6_endOf F N y1).bind fun x2 => (f_X7_at N y1).bind fun x4 => if x4 = (32 : Int32) then (f_X6_split_7 F n (imax x2 (y1 + (1 : Int32))) N) else ((f_X6_codeOf F N y1 (imax x2 (y1 + (1 : Int32)))).bind fun x7 => (f_X6_addToken N x7 y1).bind fun p9 => f_X6_split_7 F n (imax x2 (y1 + (1 : Int32))) p9))
theorem x_X6_split_7 {l : Launch} {w : Wd} {κ : Kp} {F : Nat} {v : Mem} (hq : RQ w (none, v) κ) : ∀ (n : Nat) (y1 : Int32) (N : Mem), f_X6_split_7 F n y1 N = some v → RR l w mi_X6_split (8) κ 7 [] [some (.ref (wq w 11)), some (.int y1), none] N
  | 0, _, _, h => nomatch h
  | n + 1, y1, N, h => let_h (show (if (f_X7_length N) ≤ y1 then (some N) else ((f_X6_endOf F N y1).bind fun x2 => (f_X7_at N y1).bind fun x4 => if x4 = (32 : Int32) then (f_X6_split_7 F n (imax x2 (y1 + (1 : Int32))) N) else ((f_X6_codeOf F N y1 (imax x2 (y1 + (1 : Int32)))).bind fun x7 => (f_X6_addToken N x7 y1).bind fun p9 => f_X6_split_7 F n (imax x2 (y1 + (1 : Int32))) p9))) = some v from h) fun h => r_iload_n D_X6_split_7 rfl <| r_aload_n D_X6_split_8 rfl <| r_getR (j := 1) D_X6_split_9 fl_X6_20 s_11 rfl <| r_callV (av := []) D_X6_split_12 ml_X6_55 mf_X7_length mv_X7_length s_1 rfl rfl (x_X7_length rfl) (Nat.le_of_ble_eq_true rfl) rfl rfl (Nat.le_of_ble_eq_true rfl) <| r_icmp_ge D_X6_split_15 (fun c1 => let_h (ifT c1 h) fun h => r_vret hq D_X6_split_59 rfl (rtV h)) (fun c1 => let_h (ifF c1 h) fun h => r_aload_n D_X6_split_18 rfl <| r_iload_n D_X6_split_19 rfl <| (bdE h).elim fun x2 q3 => let_h q3.2 fun h => r_callV (av := [.int y1]) D_X6_split_20 ml_X6_58 mf_X6_endOf mv_X6_endOf s_11 rfl rfl (x_X6_endOf q3.1) (Nat.le_of_ble_eq_true rfl) rfl rfl (Nat.le_of_ble_eq_true rfl) <| r_iload_n D_X6_split_23 rfl <| r_iconst D_X6_split_24 ki_1 <| r_iadd D_X6_split_25 <| r_max D_X6_split_26 mn_X6_62 (Nat.le_of_ble_eq_true rfl) (Nat.le_of_ble_eq_true rfl) <| r_istore_n D_X6_split_29 (by decide) rfl <| r_aload_n D_X6_split_30 rfl <| r_getR (j := 1) D_X6_split_31 fl_X6_20 s_11 rfl <| r_iload_n D_X6_split_34 rfl <| (bdE h).elim fun x4 q5 => let_h q5.2 fun h => r_callV (av := [.int y1]) D_X6_split_35 ml_X6_68 mf_X7_at mv_X7_at s_1 rfl rfl (x_X7_at q5.1) (Nat.le_of_ble_eq_true rfl) rfl rfl (Nat.le_of_ble_eq_true rfl) <| r_bipush D_X6_split_38 k8_32 <| r_icmp_eq D_X6_split_40 (fun c6 => let_h (ifT c6 h) fun h => r_iload_n D_X6_split_54 rfl <| r_istore_n D_X6_split_55 (by decide) rfl <| r_goto D_X6_split_56 <| r_ls (x_X6_split_7 hq n (imax x2 (y1 + (1 : Int32))) N h) ⟨rfl, ⟨rfl, trivial⟩⟩) (fun c6 => let_h (ifF c6 h) fun h => r_aload_n D_X6_split_43 rfl <| r_aload_n D_X6_split_44 rfl <| r_iload_n D_X6_split_45 rfl <| r_iload_n D_X6_split_46 rfl <| (bdE h).elim fun x7 q8 => let_h q8.2 fun h => r_callV (av := [.int y1, .int (imax x2 (y1 + (1 : Int32)))]) D_X6_split_47 ml_X6_71 mf_X6_codeOf mv_X6_codeOf s_11 rfl rfl (x_X6_codeOf q8.1) (Nat.le_of_ble_eq_true rfl) rfl rfl (Nat.le_of_ble_eq_true rfl) <| r_iload_n D_X6_split_50 rfl <| (bdE h).elim fun p9 q10 => let_h q10.2 fun h => r_callV (av := [.int x7, .int y1]) D_X6_split_51 ml_X6_74 mf_X6_addToken mv_X6_addToken s_11 rfl rfl (x_X6_addToken q10.1) (Nat.le_of_ble_eq_true rfl) rfl rfl (Nat.le_of_ble_eq_true rfl) <| r_iload_n D_X6_split_54 rfl <| r_istore_n D_X6_split_55 (by decide) rfl <| r_goto D_X6_split_56 <| r_ls (x_X6_split_7 hq n (imax x2 (y1 + (1 : Int32))) p9 h) ⟨rfl, ⟨rfl, trivial⟩⟩))
def f_X6_split (F : Nat) (M : Mem) : Option Mem := vlet (setI M 11 4 (0 : Int32)) fun M1 => f_X6_split_7 F F (0 : Int32) M1
theorem x_X6_split {l : Launch} {w : Wd} {F : Nat} {M : Mem} {v : Mem} (h : f_X6_split F M = some v) : Cn l w mi_X6_split yX6_split (8) [.ref (wq w 11)] M (none, v) :=
  Cn_of (loc0 := [some (.ref (wq w 11)), none, none]) rfl rfl rfl (Nat.le_of_ble_eq_true rfl) fun κ hq => let_h (show (vlet (setI M 11 4 (0 : Int32)) fun M1 => f_X6_split_7 F F (0 : Int32) M1) = some v from h) fun h => r_aload_n D_X6_split_0 rfl <| r_iconst D_X6_split_1 ki_0 <| r_putI D_X6_split_2 fp_X6_52 s_11 rfl rfl rfl <| mlE h fun M1 h => r_iconst D_X6_split_5 ki_0 <| r_istore_n D_X6_split_6 (by decide) rfl <| r_ls (x_X6_split_7 hq F (0 : Int32) M1 h) ⟨rfl, ⟨rfl, trivial⟩⟩
-- X8_empty
theorem D_X8_empty_0 : Dec mi_X8_empty 0 (.aload_n 0) 1 1 := ⟨by decide +kernel, rfl⟩
theorem D_X8_empty_1 : Dec mi_X8_empty 1 (.getfield 9) 3 4 := ⟨by decide +kernel, rfl⟩
theorem D_X8_empty_4 : Dec mi_X8_empty 4 (.iconst 0) 1 5 := ⟨by decide +kernel, rfl⟩
theorem D_X8_empty_5 : Dec mi_X8_empty 5 (.invokestatic 21) 3 8 := ⟨by decide +kernel, rfl⟩
theorem D_X8_empty_8 : Dec mi_X8_empty 8 (.aload_n 0) 1 9 := ⟨by decide +kernel, rfl⟩
theorem D_X8_empty_9 : Dec mi_X8_empty 9 (.getfield 15) 3 12 := ⟨by decide +kernel, rfl⟩
theorem D_X8_empty_12 : Dec mi_X8_empty 12 (.iconst 0) 1 13 := ⟨by decide +kernel, rfl⟩
theorem D_X8_empty_13 : Dec mi_X8_empty 13 (.invokestatic 21) 3 16 := ⟨by decide +kernel, rfl⟩
theorem D_X8_empty_16 : Dec mi_X8_empty 16 (.aload_n 0) 1 17 := ⟨by decide +kernel, rfl⟩
theorem D_X8_empty_17 : Dec mi_X8_empty 17 (.getfield 18) 3 20 := ⟨by decide +kernel, rfl⟩
theorem D_X8_empty_20 : Dec mi_X8_empty 20 (.iconst 0) 1 21 := ⟨by decide +kernel, rfl⟩
theorem D_X8_empty_21 : Dec mi_X8_empty 21 (.invokestatic 21) 3 24 := ⟨by decide +kernel, rfl⟩
theorem D_X8_empty_24 : Dec mi_X8_empty 24 (.aload_n 0) 1 25 := ⟨by decide +kernel, rfl⟩
theorem D_X8_empty_25 : Dec mi_X8_empty 25 (.iconst 0) 1 26 := ⟨by decide +kernel, rfl⟩
theorem D_X8_empty_26 : Dec mi_X8_empty 26 (.putfield 27) 3 29 := ⟨by decide +kernel, rfl⟩
theorem D_X8_empty_29 : Dec mi_X8_empty 29 (.aload_n 0) 1 30 := ⟨by decide +kernel, rfl⟩
theorem D_X8_empty_30 : Dec mi_X8_empty 30 (.iconst 0) 1 31 := ⟨by decide +kernel, rfl⟩
theorem D_X8_empty_31 : Dec mi_X8_empty 31 (.putfield 31) 3 34 := ⟨by decide +kernel, rfl⟩
theorem D_X8_empty_34 : Dec mi_X8_empty 34 (.aload_n 0) 1 35 := ⟨by decide +kernel, rfl⟩
theorem D_X8_empty_35 : Dec mi_X8_empty 35 (.iconst 0) 1 36 := ⟨by decide +kernel, rfl⟩
theorem D_X8_empty_36 : Dec mi_X8_empty 36 (.putfield 34) 3 39 := ⟨by decide +kernel, rfl⟩
theorem D_X8_empty_39 : Dec mi_X8_empty 39 (.aload_n 0) 1 40 := ⟨by decide +kernel, rfl⟩
theorem D_X8_empty_40 : Dec mi_X8_empty 40 (.iconst 0) 1 41 := ⟨by decide +kernel, rfl⟩
theorem D_X8_empty_41 : Dec mi_X8_empty 41 (.putfield 37) 3 44 := ⟨by decide +kernel, rfl⟩
theorem D_X8_empty_44 : Dec mi_X8_empty 44 (.aload_n 0) 1 45 := ⟨by decide +kernel, rfl⟩
theorem D_X8_empty_45 : Dec mi_X8_empty 45 (.iconst 0) 1 46 := ⟨by decide +kernel, rfl⟩
theorem D_X8_empty_46 : Dec mi_X8_empty 46 (.putfield 40) 3 49 := ⟨by decide +kernel, rfl⟩
theorem D_X8_empty_49 : Dec mi_X8_empty 49 (.aload_n 0) 1 50 := ⟨by decide +kernel, rfl⟩
theorem D_X8_empty_50 : Dec mi_X8_empty 50 (.iconst 0) 1 51 := ⟨by decide +kernel, rfl⟩
theorem D_X8_empty_51 : Dec mi_X8_empty 51 (.putfield 43) 3 54 := ⟨by decide +kernel, rfl⟩
theorem D_X8_empty_54 : Dec mi_X8_empty 54 (.aload_n 0) 1 55 := ⟨by decide +kernel, rfl⟩
theorem D_X8_empty_55 : Dec mi_X8_empty 55 (.iconst 0) 1 56 := ⟨by decide +kernel, rfl⟩
theorem D_X8_empty_56 : Dec mi_X8_empty 56 (.putfield 46) 3 59 := ⟨by decide +kernel, rfl⟩
theorem D_X8_empty_59 : Dec mi_X8_empty 59 (.aload_n 0) 1 60 := ⟨by decide +kernel, rfl⟩
theorem D_X8_empty_60 : Dec mi_X8_empty 60 (.iconst 0) 1 61 := ⟨by decide +kernel, rfl⟩
theorem D_X8_empty_61 : Dec mi_X8_empty 61 (.putfield 49) 3 64 := ⟨by decide +kernel, rfl⟩
theorem D_X8_empty_64 : Dec mi_X8_empty 64 (.return_) 1 65 := ⟨by decide +kernel, rfl⟩
def f_X8_empty (F : Nat) (M : Mem) (o : Nat) : Option Mem := (f_J7_fill_53178 F M (o + 1) 48 (0 : Int32)).bind fun p1 => (f_J7_fill_53178 F p1 (o + 2) 32 (0 : Int32)).bind fun p3 => (f_J7_fill_53178 F p3 (o + 3) 6 (0 : Int32)).bind fun p5 => vlet (setI p5 o 3 (0 : Int32)) fun M7 => vlet (setI M7 o 4 (0 : Int32)) fun M8 => vlet (setI M8 o 5 (0 : Int32)) fun M9 => vlet (setI M9 o 6 (0 : Int32)) fun M10 => vlet (setI M10 o 7 (0 : Int32)) fun M11 => vlet (setI M11 o 8 (0 : Int32)) fun M12 => vlet (setI M12 o 9 (0 : Int32)) fun M13 => vlet (setI M13 o 10 (0 : Int32)) fun M14 => some M14
theorem x_X8_empty {l : Launch} {w : Wd} {F : Nat} {M : Mem} {o : Nat} {v : Mem} (ho : isTrip o) (h : f_X8_empty F M o = some v) : Cn l w mi_X8_empty yX8_empty (1) [.ref (wq w o)] M (none, v) :=
  Cn_of (loc0 := [some (.ref (wq w o))]) rfl rfl rfl (Nat.le_of_ble_eq_true rfl) fun κ hq => let_h (show ((f_J7_fill_53178 F M (o + 1) 48 (0 : Int32)).bind fun p1 => (f_J7_fill_53178 F p1 (o + 2) 32 (0 : Int32)).bind fun p3 => (f_J7_fill_53178 F p3 (o + 3) 6 (0 : Int32)).bind fun p5 => vlet (setI p5 o 3 (0 : Int32)) fun M7 => vlet (setI M7 o 4 (0 : Int32)) fun M8 => vlet (setI M8 o 5 (0 : Int32)) fun M9 => vlet (setI M9 o 6 (0 : Int32)) fun M10 => vlet (setI M10 o 7 (0 : Int32)) fun M11 => vlet (setI M11 o 8 (0 : Int32)) fun M12 => vlet (setI M12 o 9 (0 : Int32)) fun M13 => vlet (setI M13 o 10 (0 : Int32)) fun M14 => some M14) = some v from h) fun h => r_aload_n D_X8_empty_0 rfl <| r_getR (j := (o + 1)) D_X8_empty_1 fl_X8_9 ho.1 rfl <| r_iconst D_X8_empty_4 ki_0 <| (bdE h).elim fun p1 q2 => let_h q2.2 fun h => r_callS (av := [.ref (wq w (o + 1)), .int (0 : Int32)]) D_X8_empty_5 ml_X8_21 mf_J7_fill_53178 ms_J7_fill_53178 (x_J7_fill_53178 ho.2.1 q2.1) (Nat.le_of_ble_eq_true rfl) rfl rfl (Nat.le_of_ble_eq_true rfl) <| r_aload_n D_X8_empty_8 rfl <| r_getR (j := (o + 2)) D_X8_empty_9 fl_X8_15 ho.1 rfl <| r_iconst D_X8_empty_12 ki_0 <| (bdE h).elim fun p3 q4 => let_h q4.2 fun h => r_callS (av := [.ref (wq w (o + 2)), .int (0 : Int32)]) D_X8_empty_13 ml_X8_21 mf_J7_fill_53178 ms_J7_fill_53178 (x_J7_fill_53178 ho.2.2.1 q4.1) (Nat.le_of_ble_eq_true rfl) rfl rfl (Nat.le_of_ble_eq_true rfl) <| r_aload_n D_X8_empty_16 rfl <| r_getR (j := (o + 3)) D_X8_empty_17 fl_X8_18 ho.1 rfl <| r_iconst D_X8_empty_20 ki_0 <| (bdE h).elim fun p5 q6 => let_h q6.2 fun h => r_callS (av := [.ref (wq w (o + 3)), .int (0 : Int32)]) D_X8_empty_21 ml_X8_21 mf_J7_fill_53178 ms_J7_fill_53178 (x_J7_fill_53178 ho.2.2.2 q6.1) (Nat.le_of_ble_eq_true rfl) rfl rfl (Nat.le_of_ble_eq_true rfl) <| r_aload_n D_X8_empty_24 rfl <| r_iconst D_X8_empty_25 ki_0 <| r_putI D_X8_empty_26 fp_X8_27 ho.1 rfl rfl rfl <| mlE h fun M7 h => r_aload_n D_X8_empty_29 rfl <| r_iconst D_X8_empty_30 ki_0 <| r_putI D_X8_empty_31 fp_X8_31 ho.1 rfl rfl rfl <| mlE h fun M8 h => r_aload_n D_X8_empty_34 rfl <| r_iconst D_X8_empty_35 ki_0 <| r_putI D_X8_empty_36 fp_X8_34 ho.1 rfl rfl rfl <| mlE h fun M9 h => r_aload_n D_X8_empty_39 rfl <| r_iconst D_X8_empty_40 ki_0 <| r_putI D_X8_empty_41 fp_X8_37 ho.1 rfl rfl rfl <| mlE h fun M10 h => r_aload_n D_X8_empty_44 rfl <| r_iconst D_X8_empty_45 ki_0 <| r_putI D_X8_empty_46 fp_X8_40 ho.1 rfl rfl rfl <| mlE h fun M11 h => r_aload_n D_X8_empty_49 rfl <| r_iconst D_X8_empty_50 ki_0 <| r_putI D_X8_empty_51 fp_X8_43 ho.1 rfl rfl rfl <| mlE h fun M12 h => r_aload_n D_X8_empty_54 rfl <| r_iconst D_X8_empty_55 ki_0 <| r_putI D_X8_empty_56 fp_X8_46 ho.1 rfl rfl rfl <| mlE h fun M13 h => r_aload_n D_X8_empty_59 rfl <| r_iconst D_X8_empty_60 ki_0 <| r_putI D_X8_empty_61 fp_X8_49 ho.1 rfl rfl rfl <| mlE h fun M14 h => r_vret hq D_X8_empty_64 rfl (rtV h)
-- X6_codeOfNext
theorem D_X6_codeOfNext_0 : Dec mi_X6_codeOfNext 0 (.aload_n 0) 1 1 := ⟨by decide +kernel, rfl⟩
theorem D_X6_codeOfNext_1 : Dec mi_X6_codeOfNext 1 (.getfield 36) 3 4 := ⟨by decide +kernel, rfl⟩
theorem D_X6_codeOfNext_4 : DecJ mi_X6_codeOfNext 4 (.ifCond .lt 36) (36) 7 40 := ⟨by decide +kernel, rfl, by decide⟩
theorem D_X6_codeOfNext_7 : Dec mi_X6_codeOfNext 7 (.aload_n 0) 1 8 := ⟨by decide +kernel, rfl⟩
theorem D_X6_codeOfNext_8 : Dec mi_X6_codeOfNext 8 (.getfield 36) 3 11 := ⟨by decide +kernel, rfl⟩
theorem D_X6_codeOfNext_11 : Dec mi_X6_codeOfNext 11 (.sipush 500) 3 14 := ⟨by decide +kernel, rfl⟩
theorem D_X6_codeOfNext_14 : DecJ mi_X6_codeOfNext 14 (.if_icmp .ge 26) (26) 17 40 := ⟨by decide +kernel, rfl, by decide⟩
theorem D_X6_codeOfNext_17 : Dec mi_X6_codeOfNext 17 (.aload_n 0) 1 18 := ⟨by decide +kernel, rfl⟩
theorem D_X6_codeOfNext_18 : Dec mi_X6_codeOfNext 18 (.getfield 36) 3 21 := ⟨by decide +kernel, rfl⟩
theorem D_X6_codeOfNext_21 : Dec mi_X6_codeOfNext 21 (.aload_n 0) 1 22 := ⟨by decide +kernel, rfl⟩
theorem D_X6_codeOfNext_22 : Dec mi_X6_codeOfNext 22 (.getfield 52) 3 25 := ⟨by decide +kernel, rfl⟩
theorem D_X6_codeOfNext_25 : DecJ mi_X6_codeOfNext 25 (.if_icmp .ge 15) (15) 28 40 := ⟨by decide +kernel, rfl, by decide⟩
theorem D_X6_codeOfNext_28 : Dec mi_X6_codeOfNext 28 (.aload_n 0) 1 29 := ⟨by decide +kernel, rfl⟩
theorem D_X6_codeOfNext_29 : Dec mi_X6_codeOfNext 29 (.getfield 13) 3 32 := ⟨by decide +kernel, rfl⟩
theorem D_X6_codeOfNext_32 : Dec mi_X6_codeOfNext 32 (.aload_n 0) 1 33 := ⟨by decide +kernel, rfl⟩
theorem D_X6_codeOfNext_33 : Dec mi_X6_codeOfNext 33 (.getfield 36) 3 36 := ⟨by decide +kernel, rfl⟩
theorem D_X6_codeOfNext_36 : Dec mi_X6_codeOfNext 36 (.iaload) 1 37 := ⟨by decide +kernel, rfl⟩
theorem D_X6_codeOfNext_37 : DecJ mi_X6_codeOfNext 37 (.goto 5) (5) 40 42 := ⟨by decide +kernel, rfl, by decide⟩
theorem D_X6_codeOfNext_40 : Dec mi_X6_codeOfNext 40 (.bipush 9) 2 42 := ⟨by decide +kernel, rfl⟩
theorem D_X6_codeOfNext_42 : Dec mi_X6_codeOfNext 42 (.ireturn) 1 43 := ⟨by decide +kernel, rfl⟩
def f_X6_codeOfNext (M : Mem) : Option Int32 := if (M.1 11 5) < 0 then (some (9 : Int32)) else (if (500 : Int32) ≤ (M.1 11 5) then (some (9 : Int32)) else (if (M.1 11 4) ≤ (M.1 11 5) then (some (9 : Int32)) else (if ck (M.1 11 5) 500 = true then (some (M.1 12 (M.1 11 5).toNatClampNeg)) else none)))
theorem x_X6_codeOfNext {l : Launch} {w : Wd} {M : Mem} {v : Int32} (h : f_X6_codeOfNext M = some v) : Cn l w mi_X6_codeOfNext yX6_codeOfNext (0) [.ref (wq w 11)] M (some (.int v), M) :=
  Cn_of (loc0 := [some (.ref (wq w 11))]) rfl rfl rfl (Nat.le_of_ble_eq_true rfl) fun κ hq => let_h (show (if (M.1 11 5) < 0 then (some (9 : Int32)) else (if (500 : Int32) ≤ (M.1 11 5) then (some (9 : Int32)) else (if (M.1 11 4) ≤ (M.1 11 5) then (some (9 : Int32)) else (if ck (M.1 11 5) 500 = true then (some (M.1 12 (M.1 11 5).toNatClampNeg)) else none)))) = some v from h) fun h => r_aload_n D_X6_codeOfNext_0 rfl <| r_getI D_X6_codeOfNext_1 fl_X6_36 s_11 rfl <| r_if_lt D_X6_codeOfNext_4 (fun c1 => let_h (ifT c1 h) fun h => r_bipush D_X6_codeOfNext_40 k8_9 <| r_iret hq D_X6_codeOfNext_42 rfl (rtP h)) (fun c1 => let_h (ifF c1 h) fun h => r_aload_n D_X6_codeOfNext_7 rfl <| r_getI D_X6_codeOfNext_8 fl_X6_36 s_11 rfl <| r_sipush D_X6_codeOfNext_11 k16_500 <| r_icmp_ge D_X6_codeOfNext_14 (fun c2 => let_h (ifT c2 h) fun h => r_bipush D_X6_codeOfNext_40 k8_9 <| r_iret hq D_X6_codeOfNext_42 rfl (rtP h)) (fun c2 => let_h (ifF c2 h) fun h => r_aload_n D_X6_codeOfNext_17 rfl <| r_getI D_X6_codeOfNext_18 fl_X6_36 s_11 rfl <| r_aload_n D_X6_codeOfNext_21 rfl <| r_getI D_X6_codeOfNext_22 fl_X6_52 s_11 rfl <| r_icmp_ge D_X6_codeOfNext_25 (fun c3 => let_h (ifT c3 h) fun h => r_bipush D_X6_codeOfNext_40 k8_9 <| r_iret hq D_X6_codeOfNext_42 rfl (rtP h)) (fun c3 => let_h (ifF c3 h) fun h => r_aload_n D_X6_codeOfNext_28 rfl <| r_getR (j := 12) D_X6_codeOfNext_29 fl_X6_13 s_11 rfl <| r_aload_n D_X6_codeOfNext_32 rfl <| r_getI D_X6_codeOfNext_33 fl_X6_36 s_11 rfl <| (ckE h).elim fun c4 h => r_iald D_X6_codeOfNext_36 s_12 c4 <| r_goto D_X6_codeOfNext_37 <| r_iret hq D_X6_codeOfNext_42 rfl (rtP h))))
-- X6_isNext
theorem D_X6_isNext_0 : Dec mi_X6_isNext 0 (.aload_n 0) 1 1 := ⟨by decide +kernel, rfl⟩
theorem D_X6_isNext_1 : Dec mi_X6_isNext 1 (.invokevirtual 148) 3 4 := ⟨by decide +kernel, rfl⟩
theorem D_X6_isNext_4 : Dec mi_X6_isNext 4 (.iload_n 1) 1 5 := ⟨by decide +kernel, rfl⟩
theorem D_X6_isNext_5 : DecJ mi_X6_isNext 5 (.if_icmp .ne 7) (7) 8 12 := ⟨by decide +kernel, rfl, by decide⟩
theorem D_X6_isNext_8 : Dec mi_X6_isNext 8 (.iconst 1) 1 9 := ⟨by decide +kernel, rfl⟩
theorem D_X6_isNext_9 : DecJ mi_X6_isNext 9 (.goto 4) (4) 12 13 := ⟨by decide +kernel, rfl, by decide⟩
theorem D_X6_isNext_12 : Dec mi_X6_isNext 12 (.iconst 0) 1 13 := ⟨by decide +kernel, rfl⟩
theorem D_X6_isNext_13 : Dec mi_X6_isNext 13 (.ireturn) 1 14 := ⟨by decide +kernel, rfl⟩
def f_X6_isNext (M : Mem) (a1 : Int32) : Option Int32 := (f_X6_codeOfNext M).bind fun x1 => if x1 = a1 then (some (1 : Int32)) else (some (0 : Int32))
theorem x_X6_isNext {l : Launch} {w : Wd} {M : Mem} {a1 : Int32} {v : Int32} (h : f_X6_isNext M a1 = some v) : Cn l w mi_X6_isNext yX6_isNext (1) [.ref (wq w 11), .int a1] M (some (.int v), M) :=
  Cn_of (loc0 := [some (.ref (wq w 11)), some (.int a1)]) rfl rfl rfl (Nat.le_of_ble_eq_true rfl) fun κ hq => let_h (show ((f_X6_codeOfNext M).bind fun x1 => if x1 = a1 then (some (1 : Int32)) else (some (0 : Int32))) = some v from h) fun h => r_aload_n D_X6_isNext_0 rfl <| (bdE h).elim fun x1 q2 => let_h q2.2 fun h => r_callV (av := []) D_X6_isNext_1 ml_X6_148 mf_X6_codeOfNext mv_X6_codeOfNext s_11 rfl rfl (x_X6_codeOfNext q2.1) (Nat.le_of_ble_eq_true rfl) rfl rfl (Nat.le_of_ble_eq_true rfl) <| r_iload_n D_X6_isNext_4 rfl <| r_icmp_ne D_X6_isNext_5 (fun c3 => let_h (ifT c3 h) fun h => r_iconst D_X6_isNext_8 ki_1 <| r_goto D_X6_isNext_9 <| r_zret hq D_X6_isNext_13 rfl rfl (rtP h)) (fun c3 => let_h (ifF c3 h) fun h => r_iconst D_X6_isNext_12 ki_0 <| r_zret hq D_X6_isNext_13 rfl rfl (rtP h))
-- X8_hasRoomForThing
theorem D_X8_hasRoomForThing_0 : Dec mi_X8_hasRoomForThing 0 (.aload_n 0) 1 1 := ⟨by decide +kernel, rfl⟩
theorem D_X8_hasRoomForThing_1 : Dec mi_X8_hasRoomForThing 1 (.getfield 27) 3 4 := ⟨by decide +kernel, rfl⟩
theorem D_X8_hasRoomForThing_4 : DecJ mi_X8_hasRoomForThing 4 (.ifCond .lt 16) (16) 7 20 := ⟨by decide +kernel, rfl, by decide⟩
theorem D_X8_hasRoomForThing_7 : Dec mi_X8_hasRoomForThing 7 (.aload_n 0) 1 8 := ⟨by decide +kernel, rfl⟩
theorem D_X8_hasRoomForThing_8 : Dec mi_X8_hasRoomForThing 8 (.getfield 27) 3 11 := ⟨by decide +kernel, rfl⟩
theorem D_X8_hasRoomForThing_11 : Dec mi_X8_hasRoomForThing 11 (.bipush 6) 2 13 := ⟨by decide +kernel, rfl⟩
theorem D_X8_hasRoomForThing_13 : DecJ mi_X8_hasRoomForThing 13 (.if_icmp .ge 7) (7) 16 20 := ⟨by decide +kernel, rfl, by decide⟩
theorem D_X8_hasRoomForThing_16 : Dec mi_X8_hasRoomForThing 16 (.iconst 1) 1 17 := ⟨by decide +kernel, rfl⟩
theorem D_X8_hasRoomForThing_17 : DecJ mi_X8_hasRoomForThing 17 (.goto 4) (4) 20 21 := ⟨by decide +kernel, rfl, by decide⟩
theorem D_X8_hasRoomForThing_20 : Dec mi_X8_hasRoomForThing 20 (.iconst 0) 1 21 := ⟨by decide +kernel, rfl⟩
theorem D_X8_hasRoomForThing_21 : Dec mi_X8_hasRoomForThing 21 (.ireturn) 1 22 := ⟨by decide +kernel, rfl⟩
def f_X8_hasRoomForThing (M : Mem) (o : Nat) : Int32 := if (M.1 o 3) < 0 then ((0 : Int32)) else (if (6 : Int32) ≤ (M.1 o 3) then ((0 : Int32)) else ((1 : Int32)))
theorem x_X8_hasRoomForThing {l : Launch} {w : Wd} {M : Mem} {o : Nat} {v : Int32} (ho : isTrip o) (h : f_X8_hasRoomForThing M o = v) : Cn l w mi_X8_hasRoomForThing yX8_hasRoomForThing (0) [.ref (wq w o)] M (some (.int v), M) :=
  Cn_of (loc0 := [some (.ref (wq w o))]) rfl rfl rfl (Nat.le_of_ble_eq_true rfl) fun κ hq => let_h (show (if (M.1 o 3) < 0 then ((0 : Int32)) else (if (6 : Int32) ≤ (M.1 o 3) then ((0 : Int32)) else ((1 : Int32)))) = v from h) fun h => r_aload_n D_X8_hasRoomForThing_0 rfl <| r_getI D_X8_hasRoomForThing_1 fl_X8_27 ho.1 rfl <| r_if_lt D_X8_hasRoomForThing_4 (fun c1 => let_h (ifT c1 h) fun h => r_iconst D_X8_hasRoomForThing_20 ki_0 <| r_zret hq D_X8_hasRoomForThing_21 rfl rfl (rtT h)) (fun c1 => let_h (ifF c1 h) fun h => r_aload_n D_X8_hasRoomForThing_7 rfl <| r_getI D_X8_hasRoomForThing_8 fl_X8_27 ho.1 rfl <| r_bipush D_X8_hasRoomForThing_11 k8_6 <| r_icmp_ge D_X8_hasRoomForThing_13 (fun c2 => let_h (ifT c2 h) fun h => r_iconst D_X8_hasRoomForThing_20 ki_0 <| r_zret hq D_X8_hasRoomForThing_21 rfl rfl (rtT h)) (fun c2 => let_h (ifF c2 h) fun h => r_iconst D_X8_hasRoomForThing_16 ki_1 <| r_goto D_X8_hasRoomForThing_17 <| r_zret hq D_X8_hasRoomForThing_21 rfl rfl (rtT h)))
-- X8_setFact
theorem D_X8_setFact_0 : Dec mi_X8_setFact 0 (.aload_n 0) 1 1 := ⟨by decide +kernel, rfl⟩
theorem D_X8_setFact_1 : Dec mi_X8_setFact 1 (.invokevirtual 58) 3 4 := ⟨by decide +kernel, rfl⟩
theorem D_X8_setFact_4 : DecJ mi_X8_setFact 4 (.ifCond .eq 28) (28) 7 32 := ⟨by decide +kernel, rfl, by decide⟩
theorem D_X8_setFact_7 : Dec mi_X8_setFact 7 (.iload_n 1) 1 8 := ⟨by decide +kernel, rfl⟩
theorem D_X8_setFact_8 : DecJ mi_X8_setFact 8 (.ifCond .lt 24) (24) 11 32 := ⟨by decide +kernel, rfl, by decide⟩
theorem D_X8_setFact_11 : Dec mi_X8_setFact 11 (.iload_n 1) 1 12 := ⟨by decide +kernel, rfl⟩
theorem D_X8_setFact_12 : Dec mi_X8_setFact 12 (.bipush 8) 2 14 := ⟨by decide +kernel, rfl⟩
theorem D_X8_setFact_14 : DecJ mi_X8_setFact 14 (.if_icmp .ge 18) (18) 17 32 := ⟨by decide +kernel, rfl, by decide⟩
theorem D_X8_setFact_17 : Dec mi_X8_setFact 17 (.aload_n 0) 1 18 := ⟨by decide +kernel, rfl⟩
theorem D_X8_setFact_18 : Dec mi_X8_setFact 18 (.getfield 9) 3 21 := ⟨by decide +kernel, rfl⟩
theorem D_X8_setFact_21 : Dec mi_X8_setFact 21 (.aload_n 0) 1 22 := ⟨by decide +kernel, rfl⟩
theorem D_X8_setFact_22 : Dec mi_X8_setFact 22 (.getfield 27) 3 25 := ⟨by decide +kernel, rfl⟩
theorem D_X8_setFact_25 : Dec mi_X8_setFact 25 (.bipush 8) 2 27 := ⟨by decide +kernel, rfl⟩
theorem D_X8_setFact_27 : Dec mi_X8_setFact 27 (.imul) 1 28 := ⟨by decide +kernel, rfl⟩
theorem D_X8_setFact_28 : Dec mi_X8_setFact 28 (.iload_n 1) 1 29 := ⟨by decide +kernel, rfl⟩
theorem D_X8_setFact_29 : Dec mi_X8_setFact 29 (.iadd) 1 30 := ⟨by decide +kernel, rfl⟩
theorem D_X8_setFact_30 : Dec mi_X8_setFact 30 (.iload_n 2) 1 31 := ⟨by decide +kernel, rfl⟩
theorem D_X8_setFact_31 : Dec mi_X8_setFact 31 (.iastore) 1 32 := ⟨by decide +kernel, rfl⟩
theorem D_X8_setFact_32 : Dec mi_X8_setFact 32 (.return_) 1 33 := ⟨by decide +kernel, rfl⟩
def f_X8_setFact (M : Mem) (o : Nat) (a1 : Int32) (a2 : Int32) : Option Mem := if (f_X8_hasRoomForThing M o) = 0 then (some M) else (if a1 < 0 then (some M) else (if (8 : Int32) ≤ a1 then (some M) else (if ck (((M.1 o 3) * (8 : Int32)) + a1) 48 = true then (vlet (setI M (o + 1) (((M.1 o 3) * (8 : Int32)) + a1).toNatClampNeg a2) fun M5 => some M5) else none)))
theorem x_X8_setFact {l : Launch} {w : Wd} {M : Mem} {o : Nat} {a1 : Int32} {a2 : Int32} {v : Mem} (ho : isTrip o) (h : f_X8_setFact M o a1 a2 = some v) : Cn l w mi_X8_setFact yX8_setFact (1) [.ref (wq w o), .int a1, .int a2] M (none, v) :=
  Cn_of (loc0 := [some (.ref (wq w o)), some (.int a1), some (.int a2)]) rfl rfl rfl (Nat.le_of_ble_eq_true rfl) fun κ hq => let_h (show (if (f_X8_hasRoomForThing M o) = 0 then (some M) else (if a1 < 0 then (some M) else (if (8 : Int32) ≤ a1 then (some M) else (if ck (((M.1 o 3) * (8 : Int32)) + a1) 48 = true then (vlet (setI M (o + 1) (((M.1 o 3) * (8 : Int32)) + a1).toNatClampNeg a2) fun M5 => some M5) else none)))) = some v from h) fun h => r_aload_n D_X8_setFact_0 rfl <| r_callV (av := []) D_X8_setFact_1 ml_X8_58 mf_X8_hasRoomForThing mv_X8_hasRoomForThing ho.1 rfl rfl (x_X8_hasRoomForThing ho rfl) (Nat.le_of_ble_eq_true rfl) rfl rfl (Nat.le_of_ble_eq_true rfl) <| r_if_eq D_X8_setFact_4 (fun c1 => let_h (ifT c1 h) fun h => r_vret hq D_X8_setFact_32 rfl (rtV h)) (fun c1 => let_h (ifF c1 h) fun h => r_iload_n D_X8_setFact_7 rfl <| r_if_lt D_X8_setFact_8 (fun c2 => let_h (ifT c2 h) fun h => r_vret hq D_X8_setFact_32 rfl (rtV h)) (fun c2 => let_h (ifF c2 h) fun h => r_iload_n D_X8_setFact_11 rfl <| r_bipush D_X8_setFact_12 k8_8 <| r_icmp_ge D_X8_setFact_14 (fun c3 => let_h (ifT c3 h) fun h => r_vret hq D_X8_setFact_32 rfl (rtV h)) (fun c3 => let_h (ifF c3 h) fun h => r_aload_n D_X8_setFact_17 rfl <| r_getR (j := (o + 1)) D_X8_setFact_18 fl_X8_9 ho.1 rfl <| r_aload_n D_X8_setFact_21 rfl <| r_getI D_X8_setFact_22 fl_X8_27 ho.1 rfl <| r_bipush D_X8_setFact_25 k8_8 <| r_imul D_X8_setFact_27 <| r_iload_n D_X8_setFact_28 rfl <| r_iadd D_X8_setFact_29 <| r_iload_n D_X8_setFact_30 rfl <| (ckE h).elim fun c4 h => r_iast D_X8_setFact_31 ho.2.1 c4 <| mlE h fun M5 h => r_vret hq D_X8_setFact_32 rfl (rtV h))))
-- X6_takeNumber
theorem D_X6_takeNumber_0 : Dec mi_X6_takeNumber 0 (.aload_n 0) 1 1 := ⟨by decide +kernel, rfl⟩
theorem D_X6_takeNumber_1 : Dec mi_X6_takeNumber 1 (.invokevirtual 148) 3 4 := ⟨by decide +kernel, rfl⟩
theorem D_X6_takeNumber_4 : Dec mi_X6_takeNumber 4 (.istore_n 3) 1 5 := ⟨by decide +kernel, rfl⟩
theorem D_X6_takeNumber_5 : Dec mi_X6_takeNumber 5 (.iload_n 3) 1 6 := ⟨by decide +kernel, rfl⟩
theorem D_X6_takeNumber_6 : Dec mi_X6_takeNumber 6 (.bipush 100) 2 8 := ⟨by decide +kernel, rfl⟩
theorem D_X6_takeNumber_8 : Dec mi_X6_takeNumber 8 (.iload_n 1) 1 9 := ⟨by decide +kernel, rfl⟩
theorem D_X6_takeNumber_9 : Dec mi_X6_takeNumber 9 (.iadd) 1 10 := ⟨by decide +kernel, rfl⟩
theorem D_X6_takeNumber_10 : DecJ mi_X6_takeNumber 10 (.if_icmp .lt 11) (11) 13 21 := ⟨by decide +kernel, rfl, by decide⟩
theorem D_X6_takeNumber_13 : Dec mi_X6_takeNumber 13 (.iload_n 3) 1 14 := ⟨by decide +kernel, rfl⟩
theorem D_X6_takeNumber_14 : Dec mi_X6_takeNumber 14 (.bipush 100) 2 16 := ⟨by decide +kernel, rfl⟩
theorem D_X6_takeNumber_16 : Dec mi_X6_takeNumber 16 (.iload_n 2) 1 17 := ⟨by decide +kernel, rfl⟩
theorem D_X6_takeNumber_17 : Dec mi_X6_takeNumber 17 (.iadd) 1 18 := ⟨by decide +kernel, rfl⟩
theorem D_X6_takeNumber_18 : DecJ mi_X6_takeNumber 18 (.if_icmp .le 5) (5) 21 23 := ⟨by decide +kernel, rfl, by decide⟩
theorem D_X6_takeNumber_21 : Dec mi_X6_takeNumber 21 (.iconst 0) 1 22 := ⟨by decide +kernel, rfl⟩
theorem D_X6_takeNumber_22 : Dec mi_X6_takeNumber 22 (.ireturn) 1 23 := ⟨by decide +kernel, rfl⟩
theorem D_X6_takeNumber_23 : Dec mi_X6_takeNumber 23 (.aload_n 0) 1 24 := ⟨by decide +kernel, rfl⟩
theorem D_X6_takeNumber_24 : Dec mi_X6_takeNumber 24 (.iload_n 3) 1 25 := ⟨by decide +kernel, rfl⟩
theorem D_X6_takeNumber_25 : Dec mi_X6_takeNumber 25 (.bipush 100) 2 27 := ⟨by decide +kernel, rfl⟩
theorem D_X6_takeNumber_27 : Dec mi_X6_takeNumber 27 (.isub) 1 28 := ⟨by decide +kernel, rfl⟩
theorem D_X6_takeNumber_28 : Dec mi_X6_takeNumber 28 (.putfield 162) 3 31 := ⟨by decide +kernel, rfl⟩
theorem D_X6_takeNumber_31 : Dec mi_X6_takeNumber 31 (.aload_n 0) 1 32 := ⟨by decide +kernel, rfl⟩
theorem D_X6_takeNumber_32 : Dec mi_X6_takeNumber 32 (.dup) 1 33 := ⟨by decide +kernel, rfl⟩
theorem D_X6_takeNumber_33 : Dec mi_X6_takeNumber 33 (.getfield 36) 3 36 := ⟨by decide +kernel, rfl⟩
theorem D_X6_takeNumber_36 : Dec mi_X6_takeNumber 36 (.iconst 1) 1 37 := ⟨by decide +kernel, rfl⟩
theorem D_X6_takeNumber_37 : Dec mi_X6_takeNumber 37 (.iadd) 1 38 := ⟨by decide +kernel, rfl⟩
theorem D_X6_takeNumber_38 : Dec mi_X6_takeNumber 38 (.putfield 36) 3 41 := ⟨by decide +kernel, rfl⟩
theorem D_X6_takeNumber_41 : Dec mi_X6_takeNumber 41 (.iconst 1) 1 42 := ⟨by decide +kernel, rfl⟩
theorem D_X6_takeNumber_42 : Dec mi_X6_takeNumber 42 (.ireturn) 1 43 := ⟨by decide +kernel, rfl⟩
def f_X6_takeNumber (M : Mem) (a1 : Int32) (a2 : Int32) : Option (Int32 × Mem) := (f_X6_codeOfNext M).bind fun x1 => if x1 < ((100 : Int32) + a1) then (some ((0 : Int32), M)) else (if x1 ≤ ((100 : Int32) + a2) then (vlet (setI M 11 6 (x1 - (100 : Int32))) fun M5 => vlet (setI M5 11 5 ((M5.1 11 5) + (1 : Int32))) fun M6 => some ((1 : Int32), M6)) else (some ((0 : Int32), M)))
theorem x_X6_takeNumber {l : Launch} {w : Wd} {M : Mem} {a1 : Int32} {a2 : Int32} {v : Int32 × Mem} (h : f_X6_takeNumber M a1 a2 = some v) : Cn l w mi_X6_takeNumber yX6_takeNumber (1) [.ref (wq w 11), .int a1, .int a2] M (some (.int v.1), v.2) :=
  Cn_of (loc0 := [some (.ref (wq w 11)), some (.int a1), some (.int a2), none]) rfl rfl rfl (Nat.le_of_ble_eq_true rfl) fun κ hq => let_h (show ((f_X6_codeOfNext M).bind fun x1 => if x1 < ((100 : Int32) + a1) then (some ((0 : Int32), M)) else (if x1 ≤ ((100 : Int32) + a2) then (vlet (setI M 11 6 (x1 - (100 : Int32))) fun M5 => vlet (setI M5 11 5 ((M5.1 11 5) + (1 : Int32))) fun M6 => some ((1 : Int32), M6)) else (some ((0 : Int32), M)))) = some v from h) fun h => r_aload_n D_X6_takeNumber_0 rfl <| (bdE h).elim fun x1 q2 => let_h q2.2 fun h => r_callV (av := []) D_X6_takeNumber_1 ml_X6_148 mf_X6_codeOfNext mv_X6_codeOfNext s_11 rfl rfl (x_X6_codeOfNext q2.1) (Nat.le_of_ble_eq_true rfl) rfl rfl (Nat.le_of_ble_eq_true rfl) <| r_istore_n D_X6_takeNumber_4 (by decide) rfl <| r_iload_n D_X6_takeNumber_5 rfl <| r_bipush D_X6_takeNumber_6 k8_100 <| r_iload_n D_X6_takeNumber_8 rfl <| r_iadd D_X6_takeNumber_9 <| r_icmp_lt D_X6_takeNumber_10 (fun c3 => let_h (ifT c3 h) fun h => r_iconst D_X6_takeNumber_21 ki_0 <| r_zret hq D_X6_takeNumber_22 rfl rfl (rtW h)) (fun c3 => let_h (ifF c3 h) fun h => r_iload_n D_X6_takeNumber_13 rfl <| r_bipush D_X6_takeNumber_14 k8_100 <| r_iload_n D_X6_takeNumber_16 rfl <| r_iadd D_X6_takeNumber_17 <| r_icmp_le D_X6_takeNumber_18 (fun c4 => let_h (ifT c4 h) fun h => r_aload_n D_X6_takeNumber_23 rfl <| r_iload_n D_X6_takeNumber_24 rfl <| r_bipush D_X6_takeNumber_25 k8_100 <| r_isub D_X6_takeNumber_27 <| r_putI D_X6_takeNumber_28 fp_X6_162 s_11 rfl rfl rfl <| mlE h fun M5 h => r_aload_n D_X6_takeNumber_31 rfl <| r_dup D_X6_takeNumber_32 rfl <| r_getI D_X6_takeNumber_33 fl_X6_36 s_11 rfl <| r_iconst D_X6_takeNumber_36 ki_1 <| r_iadd D_X6_takeNumber_37 <| r_putI D_X6_takeNumber_38 fp_X6_36 s_11 rfl rfl rfl <| mlE h fun M6 h => r_iconst D_X6_takeNumber_41 ki_1 <| r_zret hq D_X6_takeNumber_42 rfl rfl (rtW h)) (fun c4 => let_h (ifF c4 h) fun h => r_iconst D_X6_takeNumber_21 ki_0 <| r_zret hq D_X6_takeNumber_22 rfl rfl (rtW h)))
-- X6_readFact
theorem D_X6_readFact_0 : Dec mi_X6_readFact 0 (.aload_n 0) 1 1 := ⟨by decide +kernel, rfl⟩
theorem D_X6_readFact_1 : Dec mi_X6_readFact 1 (.iload_n 2) 1 2 := ⟨by decide +kernel, rfl⟩
theorem D_X6_readFact_2 : Dec mi_X6_readFact 2 (.iload_n 3) 1 3 := ⟨by decide +kernel, rfl⟩
theorem D_X6_readFact_3 : Dec mi_X6_readFact 3 (.invokevirtual 158) 3 6 := ⟨by decide +kernel, rfl⟩
theorem D_X6_readFact_6 : DecJ mi_X6_readFact 6 (.ifCond .ne 5) (5) 9 11 := ⟨by decide +kernel, rfl, by decide⟩
theorem D_X6_readFact_9 : Dec mi_X6_readFact 9 (.iconst 0) 1 10 := ⟨by decide +kernel, rfl⟩
theorem D_X6_readFact_10 : Dec mi_X6_readFact 10 (.ireturn) 1 11 := ⟨by decide +kernel, rfl⟩
theorem D_X6_readFact_11 : Dec mi_X6_readFact 11 (.aload_n 0) 1 12 := ⟨by decide +kernel, rfl⟩
theorem D_X6_readFact_12 : Dec mi_X6_readFact 12 (.getfield 24) 3 15 := ⟨by decide +kernel, rfl⟩
theorem D_X6_readFact_15 : Dec mi_X6_readFact 15 (.iload_n 1) 1 16 := ⟨by decide +kernel, rfl⟩
theorem D_X6_readFact_16 : Dec mi_X6_readFact 16 (.aload_n 0) 1 17 := ⟨by decide +kernel, rfl⟩
theorem D_X6_readFact_17 : Dec mi_X6_readFact 17 (.getfield 162) 3 20 := ⟨by decide +kernel, rfl⟩
theorem D_X6_readFact_20 : Dec mi_X6_readFact 20 (.invokevirtual 151) 3 23 := ⟨by decide +kernel, rfl⟩
theorem D_X6_readFact_23 : Dec mi_X6_readFact 23 (.iconst 1) 1 24 := ⟨by decide +kernel, rfl⟩
theorem D_X6_readFact_24 : Dec mi_X6_readFact 24 (.ireturn) 1 25 := ⟨by decide +kernel, rfl⟩
def f_X6_readFact (M : Mem) (a1 : Int32) (a2 : Int32) (a3 : Int32) : Option (Int32 × Mem) := (f_X6_takeNumber M a2 a3).bind fun p1 => if p1.1 = 0 then (some ((0 : Int32), p1.2)) else ((f_X8_setFact p1.2 7 a1 (p1.2.1 11 6)).bind fun p4 => some ((1 : Int32), p4))
theorem x_X6_readFact {l : Launch} {w : Wd} {M : Mem} {a1 : Int32} {a2 : Int32} {a3 : Int32} {v : Int32 × Mem} (h : f_X6_readFact M a1 a2 a3 = some v) : Cn l w mi_X6_readFact yX6_readFact (2) [.ref (wq w 11), .int a1, .int a2, .int a3] M (some (.int v.1), v.2) :=
  Cn_of (loc0 := [some (.ref (wq w 11)), some (.int a1), some (.int a2), some (.int a3)]) rfl rfl rfl (Nat.le_of_ble_eq_true rfl) fun κ hq => let_h (show ((f_X6_takeNumber M a2 a3).bind fun p1 => if p1.1 = 0 then (some ((0 : Int32), p1.2)) else ((f_X8_setFact p1.2 7 a1 (p1.2.1 11 6)).bind fun p4 => some ((1 : Int32), p4))) = some v from h) fun h => r_aload_n D_X6_readFact_0 rfl <| r_iload_n D_X6_readFact_1 rfl <| r_iload_n D_X6_readFact_2 rfl <| (bdE h).elim fun p1 q2 => let_h q2.2 fun h => r_callV (av := [.int a2, .int a3]) D_X6_readFact_3 ml_X6_158 mf_X6_takeNumber mv_X6_takeNumber s_11 rfl rfl (x_X6_takeNumber q2.1) (Nat.le_of_ble_eq_true rfl) rfl rfl (Nat.le_of_ble_eq_true rfl) <| r_if_ne D_X6_readFact_6 (fun c3 => let_h (ifT c3 h) fun h => r_iconst D_X6_readFact_9 ki_0 <| r_zret hq D_X6_readFact_10 rfl rfl (rtW h)) (fun c3 => let_h (ifF c3 h) fun h => r_aload_n D_X6_readFact_11 rfl <| r_getR (j := 7) D_X6_readFact_12 fl_X6_24 s_11 rfl <| r_iload_n D_X6_readFact_15 rfl <| r_aload_n D_X6_readFact_16 rfl <| r_getI D_X6_readFact_17 fl_X6_162 s_11 rfl <| (bdE h).elim fun p4 q5 => let_h q5.2 fun h => r_callV (av := [.int a1, .int (p1.2.1 11 6)]) D_X6_readFact_20 ml_X6_151 mf_X8_setFact mv_X8_setFact s_7 rfl rfl (x_X8_setFact trip_7 q5.1) (Nat.le_of_ble_eq_true rfl) rfl rfl (Nat.le_of_ble_eq_true rfl) <| r_iconst D_X6_readFact_23 ki_1 <| r_zret hq D_X6_readFact_24 rfl rfl (rtW h))
-- X6_readThing
theorem D_X6_readThing_0 : Dec mi_X6_readThing 0 (.aload_n 0) 1 1 := ⟨by decide +kernel, rfl⟩
theorem D_X6_readThing_1 : Dec mi_X6_readThing 1 (.getfield 24) 3 4 := ⟨by decide +kernel, rfl⟩
theorem D_X6_readThing_4 : Dec mi_X6_readThing 4 (.invokevirtual 145) 3 7 := ⟨by decide +kernel, rfl⟩
theorem D_X6_readThing_7 : DecJ mi_X6_readThing 7 (.ifCond .ne 5) (5) 10 12 := ⟨by decide +kernel, rfl, by decide⟩
theorem D_X6_readThing_10 : Dec mi_X6_readThing 10 (.iconst 0) 1 11 := ⟨by decide +kernel, rfl⟩
theorem D_X6_readThing_11 : Dec mi_X6_readThing 11 (.ireturn) 1 12 := ⟨by decide +kernel, rfl⟩
theorem D_X6_readThing_12 : Dec mi_X6_readThing 12 (.aload_n 0) 1 13 := ⟨by decide +kernel, rfl⟩
theorem D_X6_readThing_13 : Dec mi_X6_readThing 13 (.getfield 24) 3 16 := ⟨by decide +kernel, rfl⟩
theorem D_X6_readThing_16 : Dec mi_X6_readThing 16 (.iconst 0) 1 17 := ⟨by decide +kernel, rfl⟩
theorem D_X6_readThing_17 : Dec mi_X6_readThing 17 (.aload_n 0) 1 18 := ⟨by decide +kernel, rfl⟩
theorem D_X6_readThing_18 : Dec mi_X6_readThing 18 (.invokevirtual 148) 3 21 := ⟨by decide +kernel, rfl⟩
theorem D_X6_readThing_21 : Dec mi_X6_readThing 21 (.invokevirtual 151) 3 24 := ⟨by decide +kernel, rfl⟩
theorem D_X6_readThing_24 : Dec mi_X6_readThing 24 (.aload_n 0) 1 25 := ⟨by decide +kernel, rfl⟩
theorem D_X6_readThing_25 : Dec mi_X6_readThing 25 (.dup) 1 26 := ⟨by decide +kernel, rfl⟩
theorem D_X6_readThing_26 : Dec mi_X6_readThing 26 (.getfield 36) 3 29 := ⟨by decide +kernel, rfl⟩
theorem D_X6_readThing_29 : Dec mi_X6_readThing 29 (.iconst 1) 1 30 := ⟨by decide +kernel, rfl⟩
theorem D_X6_readThing_30 : Dec mi_X6_readThing 30 (.iadd) 1 31 := ⟨by decide +kernel, rfl⟩
theorem D_X6_readThing_31 : Dec mi_X6_readThing 31 (.putfield 36) 3 34 := ⟨by decide +kernel, rfl⟩
theorem D_X6_readThing_34 : Dec mi_X6_readThing 34 (.aload_n 0) 1 35 := ⟨by decide +kernel, rfl⟩
theorem D_X6_readThing_35 : Dec mi_X6_readThing 35 (.iconst 1) 1 36 := ⟨by decide +kernel, rfl⟩
theorem D_X6_readThing_36 : Dec mi_X6_readThing 36 (.iconst 0) 1 37 := ⟨by decide +kernel, rfl⟩
theorem D_X6_readThing_37 : Dec mi_X6_readThing 37 (.bipush 9) 2 39 := ⟨by decide +kernel, rfl⟩
theorem D_X6_readThing_39 : Dec mi_X6_readThing 39 (.invokevirtual 154) 3 42 := ⟨by decide +kernel, rfl⟩
theorem D_X6_readThing_42 : DecJ mi_X6_readThing 42 (.ifCond .eq 51) (51) 45 93 := ⟨by decide +kernel, rfl, by decide⟩
theorem D_X6_readThing_45 : Dec mi_X6_readThing 45 (.aload_n 0) 1 46 := ⟨by decide +kernel, rfl⟩
theorem D_X6_readThing_46 : Dec mi_X6_readThing 46 (.iconst 2) 1 47 := ⟨by decide +kernel, rfl⟩
theorem D_X6_readThing_47 : Dec mi_X6_readThing 47 (.iconst 0) 1 48 := ⟨by decide +kernel, rfl⟩
theorem D_X6_readThing_48 : Dec mi_X6_readThing 48 (.bipush 9) 2 50 := ⟨by decide +kernel, rfl⟩
theorem D_X6_readThing_50 : Dec mi_X6_readThing 50 (.invokevirtual 154) 3 53 := ⟨by decide +kernel, rfl⟩
theorem D_X6_readThing_53 : DecJ mi_X6_readThing 53 (.ifCond .eq 40) (40) 56 93 := ⟨by decide +kernel, rfl, by decide⟩
theorem D_X6_readThing_56 : Dec mi_X6_readThing 56 (.aload_n 0) 1 57 := ⟨by decide +kernel, rfl⟩
theorem D_X6_readThing_57 : Dec mi_X6_readThing 57 (.iconst 3) 1 58 := ⟨by decide +kernel, rfl⟩
theorem D_X6_readThing_58 : Dec mi_X6_readThing 58 (.iconst 1) 1 59 := ⟨by decide +kernel, rfl⟩
theorem D_X6_readThing_59 : Dec mi_X6_readThing 59 (.bipush 99) 2 61 := ⟨by decide +kernel, rfl⟩
theorem D_X6_readThing_61 : Dec mi_X6_readThing 61 (.invokevirtual 154) 3 64 := ⟨by decide +kernel, rfl⟩
theorem D_X6_readThing_64 : DecJ mi_X6_readThing 64 (.ifCond .eq 29) (29) 67 93 := ⟨by decide +kernel, rfl, by decide⟩
theorem D_X6_readThing_67 : Dec mi_X6_readThing 67 (.aload_n 0) 1 68 := ⟨by decide +kernel, rfl⟩
theorem D_X6_readThing_68 : Dec mi_X6_readThing 68 (.iconst 4) 1 69 := ⟨by decide +kernel, rfl⟩
theorem D_X6_readThing_69 : Dec mi_X6_readThing 69 (.iconst 1) 1 70 := ⟨by decide +kernel, rfl⟩
theorem D_X6_readThing_70 : Dec mi_X6_readThing 70 (.bipush 99) 2 72 := ⟨by decide +kernel, rfl⟩
theorem D_X6_readThing_72 : Dec mi_X6_readThing 72 (.invokevirtual 154) 3 75 := ⟨by decide +kernel, rfl⟩
theorem D_X6_readThing_75 : DecJ mi_X6_readThing 75 (.ifCond .eq 18) (18) 78 93 := ⟨by decide +kernel, rfl, by decide⟩
theorem D_X6_readThing_78 : Dec mi_X6_readThing 78 (.aload_n 0) 1 79 := ⟨by decide +kernel, rfl⟩
theorem D_X6_readThing_79 : Dec mi_X6_readThing 79 (.iconst 5) 1 80 := ⟨by decide +kernel, rfl⟩
theorem D_X6_readThing_80 : Dec mi_X6_readThing 80 (.iconst 0) 1 81 := ⟨by decide +kernel, rfl⟩
theorem D_X6_readThing_81 : Dec mi_X6_readThing 81 (.bipush 99) 2 83 := ⟨by decide +kernel, rfl⟩
theorem D_X6_readThing_83 : Dec mi_X6_readThing 83 (.invokevirtual 154) 3 86 := ⟨by decide +kernel, rfl⟩
theorem D_X6_readThing_86 : DecJ mi_X6_readThing 86 (.ifCond .eq 7) (7) 89 93 := ⟨by decide +kernel, rfl, by decide⟩
theorem D_X6_readThing_89 : Dec mi_X6_readThing 89 (.iconst 1) 1 90 := ⟨by decide +kernel, rfl⟩
theorem D_X6_readThing_90 : DecJ mi_X6_readThing 90 (.goto 4) (4) 93 94 := ⟨by decide +kernel, rfl, by decide⟩
theorem D_X6_readThing_93 : Dec mi_X6_readThing 93 (.iconst 0) 1 94 := ⟨by decide +kernel, rfl⟩
theorem D_X6_readThing_94 : Dec mi_X6_readThing 94 (.ireturn) 1 95 := ⟨by decide +kernel, rfl⟩
def f_X6_readThing (M : Mem) : Option (Int32 × Mem) := if (f_X8_hasRoomForThing M 7) = 0 then (some ((0 : Int32), M)) else ((f_X6_codeOfNext M).bind fun x2 => (f_X8_setFact M 7 (0 : Int32) x2).bind fun p4 => vlet (setI p4 11 5 ((p4.1 11 5) + (1 : Int32))) fun M6 => (f_X6_readFact M6 (1 : Int32) (0 : Int32) (9 : Int32)).bind fun p7 => if p7.1 = 0 then (some ((0 : Int32), p7.2)) else ((f_X6_readFact p7.2 (2 : Int32) (0 : Int32) (9 : Int32)).bind fun p10 => if p10.1 = 0 then (some ((0 : Int32), p10.2)) else ((f_X6_readFact p10.2 (3 : Int32) (1 : Int32) (99 : Int32)).bind fun p13 => if p13.1 = 0 then (some ((0 : Int32), p13.2)) else ((f_X6_readFact p13.2 (4 : Int32) (1 : Int32) (99 : Int32)).bind fun p16 => if p16.1 = 0 then (some ((0 : Int32), p16.2)) else ((f_X6_readFact p16.2 (5 : Int32) (0 : Int32) (99 : Int32)).bind fun p19 => if p19.1 = 0 then (some ((0 : Int32), p19.2)) else (some ((1 : Int32), p19.2)))))))
theorem x_X6_readThing {l : Launch} {w : Wd} {M : Mem} {v : Int32 × Mem} (h : f_X6_readThing M = some v) : Cn l w mi_X6_readThing yX6_readThing (3) [.ref (wq w 11)] M (some (.int v.1), v.2) :=
  Cn_of (loc0 := [some (.ref (wq w 11))]) rfl rfl rfl (Nat.le_of_ble_eq_true rfl) fun κ hq => let_h (show (if (f_X8_hasRoomForThing M 7) = 0 then (some ((0 : Int32), M)) else ((f_X6_codeOfNext M).bind fun x2 => (f_X8_setFact M 7 (0 : Int32) x2).bind fun p4 => vlet (setI p4 11 5 ((p4.1 11 5) + (1 : Int32))) fun M6 => (f_X6_readFact M6 (1 : Int32) (0 : Int32) (9 : Int32)).bind fun p7 => if p7.1 = 0 then (some ((0 : Int32), p7.2)) else ((f_X6_readFact p7.2 (2 : Int32) (0 : Int32) (9 : Int32)).bind fun p10 => if p10.1 = 0 then (some ((0 : Int32), p10.2)) else ((f_X6_readFact p10.2 (3 : Int32) (1 : Int32) (99 : Int32)).bind fun p13 => if p13.1 = 0 then (some ((0 : Int32), p13.2)) else ((f_X6_readFact p13.2 (4 : Int32) (1 : Int32) (99 : Int32)).bind fun p16 => if p16.1 = 0 then (some ((0 : Int32), p16.2)) else ((f_X6_readFact p16.2 (5 : Int32) (0 : Int32) (99 : Int32)).bind fun p19 => if p19.1 = 0 then (some ((0 : Int32), p19.2)) else (some ((1 : Int32), p19.2)))))))) = some v from h) fun h => r_aload_n D_X6_readThing_0 rfl <| r_getR (j := 7) D_X6_readThing_1 fl_X6_24 s_11 rfl <| r_callV (av := []) D_X6_readThing_4 ml_X6_145 mf_X8_hasRoomForThing mv_X8_hasRoomForThing s_7 rfl rfl (x_X8_hasRoomForThing trip_7 rfl) (Nat.le_of_ble_eq_true rfl) rfl rfl (Nat.le_of_ble_eq_true rfl) <| r_if_ne D_X6_readThing_7 (fun c1 => let_h (ifT c1 h) fun h => r_iconst D_X6_readThing_10 ki_0 <| r_zret hq D_X6_readThing_11 rfl rfl (rtW h)) (fun c1 => let_h (ifF c1 h) fun h => r_aload_n D_X6_readThing_12 rfl <| r_getR (j := 7) D_X6_readThing_13 fl_X6_24 s_11 rfl <| r_iconst D_X6_readThing_16 ki_0 <| r_aload_n D_X6_readThing_17 rfl <| (bdE h).elim fun x2 q3 => let_h q3.2 fun h => r_callV (av := []) D_X6_readThing_18 ml_X6_148 mf_X6_codeOfNext mv_X6_codeOfNext s_11 rfl rfl (x_X6_codeOfNext q3.1) (Nat.le_of_ble_eq_true rfl) rfl rfl (Nat.le_of_ble_eq_true rfl) <| (bdE h).elim fun p4 q5 => let_h q5.2 fun h => r_callV (av := [.int (0 : Int32), .int x2]) D_X6_readThing_21 ml_X6_151 mf_X8_setFact mv_X8_setFact s_7 rfl rfl (x_X8_setFact trip_7 q5.1) (Nat.le_of_ble_eq_true rfl) rfl rfl (Nat.le_of_ble_eq_true rfl) <| r_aload_n D_X6_readThing_24 rfl <| r_dup D_X6_readThing_25 rfl <| r_getI D_X6_readThing_26 fl_X6_36 s_11 rfl <| r_iconst D_X6_readThing_29 ki_1 <| r_iadd D_X6_readThing_30 <| r_putI D_X6_readThing_31 fp_X6_36 s_11 rfl rfl rfl <| mlE h fun M6 h => r_aload_n D_X6_readThing_34 rfl <| r_iconst D_X6_readThing_35 ki_1 <| r_iconst D_X6_readThing_36 ki_0 <| r_bipush D_X6_readThing_37 k8_9 <| (bdE h).elim fun p7 q8 => let_h q8.2 fun h => r_callV (av := [.int (1 : Int32), .int (0 : Int32), .int (9 : Int32)]) D_X6_readThing_39 ml_X6_154 mf_X6_readFact mv_X6_readFact s_11 rfl rfl (x_X6_readFact q8.1) (Nat.le_of_ble_eq_true rfl) rfl rfl (Nat.le_of_ble_eq_true rfl) <| r_if_eq D_X6_readThing_42 (fun c9 => let_h (ifT c9 h) fun h => r_iconst D_X6_readThing_93 ki_0 <| r_zret hq D_X6_readThing_94 rfl rfl (rtW h)) (fun c9 => let_h (ifF c9 h) fun h => r_aload_n D_X6_readThing_45 rfl <| r_iconst D_X6_readThing_46 ki_2 <| r_iconst D_X6_readThing_47 ki_0 <| r_bipush D_X6_readThing_48 k8_9 <| (bdE h).elim fun p10 q11 => let_h q11.2 fun h => r_callV (av := [.int (2 : Int32), .int (0 : Int32), .int (9 : Int32)]) D_X6_readThing_50 ml_X6_154 mf_X6_readFact mv_X6_readFact s_11 rfl rfl (x_X6_readFact q11.1) (Nat.le_of_ble_eq_true rfl) rfl rfl (Nat.le_of_ble_eq_true rfl) <| r_if_eq D_X6_readThing_53 (fun c12 => let_h (ifT c12 h) fun h => r_iconst D_X6_readThing_93 ki_0 <| r_zret hq D_X6_readThing_94 rfl rfl (rtW h)) (fun c12 => let_h (ifF c12 h) fun h => r_aload_n D_X6_readThing_56 rfl <| r_iconst D_X6_readThing_57 ki_3 <| r_iconst D_X6_readThing_58 ki_1 <| r_bipush D_X6_readThing_59 k8_99 <| (bdE h).elim fun p13 q14 => let_h q14.2 fun h => r_callV (av := [.int (3 : Int32), .int (1 : Int32), .int (99 : Int32)]) D_X6_readThing_61 ml_X6_154 mf_X6_readFact mv_X6_readFact s_11 rfl rfl (x_X6_readFact q14.1) (Nat.le_of_ble_eq_true rfl) rfl rfl (Nat.le_of_ble_eq_true rfl) <| r_if_eq D_X6_readThing_64 (fun c15 => let_h (ifT c15 h) fun h => r_iconst D_X6_readThing_93 ki_0 <| r_zret hq D_X6_readThing_94 rfl rfl (rtW h)) (fun c15 => let_h (ifF c15 h) fun h => r_aload_n D_X6_readThing_67 rfl <| r_iconst D_X6_readThing_68 ki_4 <| r_iconst D_X6_readThing_69 ki_1 <| r_bipush D_X6_readThing_70 k8_99 <| (bdE h).elim fun p16 q17 => let_h q17.2 fun h => r_callV (av := [.int (4 : Int32), .int (1 : Int32), .int (99 : Int32)]) D_X6_readThing_72 ml_X6_154 mf_X6_readFact mv_X6_readFact s_11 rfl rfl (x_X6_readFact q17.1) (Nat.le_of_ble_eq_true rfl) rfl rfl (Nat.le_of_ble_eq_true rfl) <| r_if_eq D_X6_readThing_75 (fun c18 => let_h (ifT c18 h) fun h => r_iconst D_X6_readThing_93 ki_0 <| r_zret hq D_X6_readThing_94 rfl rfl (rtW h)) (fun c18 => let_h (ifF c18 h) fun h => r_aload_n D_X6_readThing_78 rfl <| r_iconst D_X6_readThing_79 ki_5 <| r_iconst D_X6_readThing_80 ki_0 <| r_bipush D_X6_readThing_81 k8_99 <| (bdE h).elim fun p19 q20 => let_h q20.2 fun h => r_callV (av := [.int (5 : Int32), .int (0 : Int32), .int (99 : Int32)]) D_X6_readThing_83 ml_X6_154 mf_X6_readFact mv_X6_readFact s_11 rfl rfl (x_X6_readFact q20.1) (Nat.le_of_ble_eq_true rfl) rfl rfl (Nat.le_of_ble_eq_true rfl) <| r_if_eq D_X6_readThing_86 (fun c21 => let_h (ifT c21 h) fun h => r_iconst D_X6_readThing_93 ki_0 <| r_zret hq D_X6_readThing_94 rfl rfl (rtW h)) (fun c21 => let_h (ifF c21 h) fun h => r_iconst D_X6_readThing_89 ki_1 <| r_goto D_X6_readThing_90 <| r_zret hq D_X6_readThing_94 rfl rfl (rtW h)))))))
-- X6_take
theorem D_X6_take_0 : Dec mi_X6_take 0 (.aload_n 0) 1 1 := ⟨by decide +kernel, rfl⟩
theorem D_X6_take_1 : Dec mi_X6_take 1 (.iload_n 1) 1 2 := ⟨by decide +kernel, rfl⟩
theorem D_X6_take_2 : Dec mi_X6_take 2 (.invokevirtual 40) 3 5 := ⟨by decide +kernel, rfl⟩
theorem D_X6_take_5 : DecJ mi_X6_take 5 (.ifCond .ne 5) (5) 8 10 := ⟨by decide +kernel, rfl, by decide⟩
theorem D_X6_take_8 : Dec mi_X6_take 8 (.iconst 0) 1 9 := ⟨by decide +kernel, rfl⟩
theorem D_X6_take_9 : Dec mi_X6_take 9 (.ireturn) 1 10 := ⟨by decide +kernel, rfl⟩
theorem D_X6_take_10 : Dec mi_X6_take 10 (.aload_n 0) 1 11 := ⟨by decide +kernel, rfl⟩
theorem D_X6_take_11 : Dec mi_X6_take 11 (.dup) 1 12 := ⟨by decide +kernel, rfl⟩
theorem D_X6_take_12 : Dec mi_X6_take 12 (.getfield 36) 3 15 := ⟨by decide +kernel, rfl⟩
theorem D_X6_take_15 : Dec mi_X6_take 15 (.iconst 1) 1 16 := ⟨by decide +kernel, rfl⟩
theorem D_X6_take_16 : Dec mi_X6_take 16 (.iadd) 1 17 := ⟨by decide +kernel, rfl⟩
theorem D_X6_take_17 : Dec mi_X6_take 17 (.putfield 36) 3 20 := ⟨by decide +kernel, rfl⟩
theorem D_X6_take_20 : Dec mi_X6_take 20 (.iconst 1) 1 21 := ⟨by decide +kernel, rfl⟩
theorem D_X6_take_21 : Dec mi_X6_take 21 (.ireturn) 1 22 := ⟨by decide +kernel, rfl⟩
def f_X6_take (M : Mem) (a1 : Int32) : Option (Int32 × Mem) := (f_X6_isNext M a1).bind fun x1 => if x1 = 0 then (some ((0 : Int32), M)) else (vlet (setI M 11 5 ((M.1 11 5) + (1 : Int32))) fun M4 => some ((1 : Int32), M4))
theorem x_X6_take {l : Launch} {w : Wd} {M : Mem} {a1 : Int32} {v : Int32 × Mem} (h : f_X6_take M a1 = some v) : Cn l w mi_X6_take yX6_take (2) [.ref (wq w 11), .int a1] M (some (.int v.1), v.2) :=
  Cn_of (loc0 := [some (.ref (wq w 11)), some (.int a1)]) rfl rfl rfl (Nat.le_of_ble_eq_true rfl) fun κ hq => let_h (show ((f_X6_isNext M a1).bind fun x1 => if x1 = 0 then (some ((0 : Int32), M)) else (vlet (setI M 11 5 ((M.1 11 5) + (1 : Int32))) fun M4 => some ((1 : Int32), M4))) = some v from h) fun h => r_aload_n D_X6_take_0 rfl <| r_iload_n D_X6_take_1 rfl <| (bdE h).elim fun x1 q2 => let_h q2.2 fun h => r_callV (av := [.int a1]) D_X6_take_2 ml_X6_40 mf_X6_isNext mv_X6_isNext s_11 rfl rfl (x_X6_isNext q2.1) (Nat.le_of_ble_eq_true rfl) rfl rfl (Nat.le_of_ble_eq_true rfl) <| r_if_ne D_X6_take_5 (fun c3 => let_h (ifT c3 h) fun h => r_iconst D_X6_take_8 ki_0 <| r_zret hq D_X6_take_9 rfl rfl (rtW h)) (fun c3 => let_h (ifF c3 h) fun h => r_aload_n D_X6_take_10 rfl <| r_dup D_X6_take_11 rfl <| r_getI D_X6_take_12 fl_X6_36 s_11 rfl <| r_iconst D_X6_take_15 ki_1 <| r_iadd D_X6_take_16 <| r_putI D_X6_take_17 fp_X6_36 s_11 rfl rfl rfl <| mlE h fun M4 h => r_iconst D_X6_take_20 ki_1 <| r_zret hq D_X6_take_21 rfl rfl (rtW h))
-- X6_readClothes
theorem D_X6_readClothes_0 : Dec mi_X6_readClothes 0 (.aload_n 0) 1 1 := ⟨by decide +kernel, rfl⟩
theorem D_X6_readClothes_1 : Dec mi_X6_readClothes 1 (.bipush 6) 2 3 := ⟨by decide +kernel, rfl⟩
theorem D_X6_readClothes_3 : Dec mi_X6_readClothes 3 (.iconst 1) 1 4 := ⟨by decide +kernel, rfl⟩
theorem D_X6_readClothes_4 : Dec mi_X6_readClothes 4 (.iconst 2) 1 5 := ⟨by decide +kernel, rfl⟩
theorem D_X6_readClothes_5 : Dec mi_X6_readClothes 5 (.invokevirtual 154) 3 8 := ⟨by decide +kernel, rfl⟩
theorem D_X6_readClothes_8 : DecJ mi_X6_readClothes 8 (.ifCond .ne 5) (5) 11 13 := ⟨by decide +kernel, rfl, by decide⟩
theorem D_X6_readClothes_11 : Dec mi_X6_readClothes 11 (.iconst 0) 1 12 := ⟨by decide +kernel, rfl⟩
theorem D_X6_readClothes_12 : Dec mi_X6_readClothes 12 (.ireturn) 1 13 := ⟨by decide +kernel, rfl⟩
theorem D_X6_readClothes_13 : Dec mi_X6_readClothes 13 (.aload_n 0) 1 14 := ⟨by decide +kernel, rfl⟩
theorem D_X6_readClothes_14 : Dec mi_X6_readClothes 14 (.getfield 24) 3 17 := ⟨by decide +kernel, rfl⟩
theorem D_X6_readClothes_17 : Dec mi_X6_readClothes 17 (.bipush 7) 2 19 := ⟨by decide +kernel, rfl⟩
theorem D_X6_readClothes_19 : Dec mi_X6_readClothes 19 (.aload_n 0) 1 20 := ⟨by decide +kernel, rfl⟩
theorem D_X6_readClothes_20 : Dec mi_X6_readClothes 20 (.iconst 3) 1 21 := ⟨by decide +kernel, rfl⟩
theorem D_X6_readClothes_21 : Dec mi_X6_readClothes 21 (.invokevirtual 126) 3 24 := ⟨by decide +kernel, rfl⟩
theorem D_X6_readClothes_24 : DecJ mi_X6_readClothes 24 (.ifCond .eq 7) (7) 27 31 := ⟨by decide +kernel, rfl, by decide⟩
theorem D_X6_readClothes_27 : Dec mi_X6_readClothes 27 (.iconst 1) 1 28 := ⟨by decide +kernel, rfl⟩
theorem D_X6_readClothes_28 : DecJ mi_X6_readClothes 28 (.goto 4) (4) 31 32 := ⟨by decide +kernel, rfl, by decide⟩
theorem D_X6_readClothes_31 : Dec mi_X6_readClothes 31 (.iconst 0) 1 32 := ⟨by decide +kernel, rfl⟩
theorem D_X6_readClothes_32 : Dec mi_X6_readClothes 32 (.invokevirtual 151) 3 35 := ⟨by decide +kernel, rfl⟩
theorem D_X6_readClothes_35 : Dec mi_X6_readClothes 35 (.iconst 1) 1 36 := ⟨by decide +kernel, rfl⟩
theorem D_X6_readClothes_36 : Dec mi_X6_readClothes 36 (.ireturn) 1 37 := ⟨by decide +kernel, rfl⟩
def f_X6_readClothes (M : Mem) : Option (Int32 × Mem) := (f_X6_readFact M (6 : Int32) (1 : Int32) (2 : Int32)).bind fun p1 => if p1.1 = 0 then (some ((0 : Int32), p1.2)) else ((f_X6_take p1.2 (3 : Int32)).bind fun p4 => if p4.1 = 0 then ((f_X8_setFact p4.2 7 (7 : Int32) (0 : Int32)).bind fun p7 => some ((1 : Int32), p7)) else ((f_X8_setFact p4.2 7 (7 : Int32) (1 : Int32)).bind fun p9 => some ((1 : Int32), p9)))
theorem x_X6_readClothes {l : Launch} {w : Wd} {M : Mem} {v : Int32 × Mem} (h : f_X6_readClothes M = some v) : Cn l w mi_X6_readClothes yX6_readClothes (3) [.ref (wq w 11)] M (some (.int v.1), v.2) :=
  Cn_of (loc0 := [some (.ref (wq w 11))]) rfl rfl rfl (Nat.le_of_ble_eq_true rfl) fun κ hq => let_h (show ((f_X6_readFact M (6 : Int32) (1 : Int32) (2 : Int32)).bind fun p1 => if p1.1 = 0 then (some ((0 : Int32), p1.2)) else ((f_X6_take p1.2 (3 : Int32)).bind fun p4 => if p4.1 = 0 then ((f_X8_setFact p4.2 7 (7 : Int32) (0 : Int32)).bind fun p7 => some ((1 : Int32), p7)) else ((f_X8_setFact p4.2 7 (7 : Int32) (1 : Int32)).bind fun p9 => some ((1 : Int32), p9)))) = some v from h) fun h => r_aload_n D_X6_readClothes_0 rfl <| r_bipush D_X6_readClothes_1 k8_6 <| r_iconst D_X6_readClothes_3 ki_1 <| r_iconst D_X6_readClothes_4 ki_2 <| (bdE h).elim fun p1 q2 => let_h q2.2 fun h => r_callV (av := [.int (6 : Int32), .int (1 : Int32), .int (2 : Int32)]) D_X6_readClothes_5 ml_X6_154 mf_X6_readFact mv_X6_readFact s_11 rfl rfl (x_X6_readFact q2.1) (Nat.le_of_ble_eq_true rfl) rfl rfl (Nat.le_of_ble_eq_true rfl) <| r_if_ne D_X6_readClothes_8 (fun c3 => let_h (ifT c3 h) fun h => r_iconst D_X6_readClothes_11 ki_0 <| r_zret hq D_X6_readClothes_12 rfl rfl (rtW h)) (fun c3 => let_h (ifF c3 h) fun h => r_aload_n D_X6_readClothes_13 rfl <| r_getR (j := 7) D_X6_readClothes_14 fl_X6_24 s_11 rfl <| r_bipush D_X6_readClothes_17 k8_7 <| r_aload_n D_X6_readClothes_19 rfl <| r_iconst D_X6_readClothes_20 ki_3 <| (bdE h).elim fun p4 q5 => let_h q5.2 fun h => r_callV (av := [.int (3 : Int32)]) D_X6_readClothes_21 ml_X6_126 mf_X6_take mv_X6_take s_11 rfl rfl (x_X6_take q5.1) (Nat.le_of_ble_eq_true rfl) rfl rfl (Nat.le_of_ble_eq_true rfl) <| r_if_eq D_X6_readClothes_24 (fun c6 => let_h (ifT c6 h) fun h => r_iconst D_X6_readClothes_31 ki_0 <| (bdE h).elim fun p7 q8 => let_h q8.2 fun h => r_callV (av := [.int (7 : Int32), .int (0 : Int32)]) D_X6_readClothes_32 ml_X6_151 mf_X8_setFact mv_X8_setFact s_7 rfl rfl (x_X8_setFact trip_7 q8.1) (Nat.le_of_ble_eq_true rfl) rfl rfl (Nat.le_of_ble_eq_true rfl) <| r_iconst D_X6_readClothes_35 ki_1 <| r_zret hq D_X6_readClothes_36 rfl rfl (rtW h)) (fun c6 => let_h (ifF c6 h) fun h => r_iconst D_X6_readClothes_27 ki_1 <| r_goto D_X6_readClothes_28 <| (bdE h).elim fun p9 q10 => let_h q10.2 fun h => r_callV (av := [.int (7 : Int32), .int (1 : Int32)]) D_X6_readClothes_32 ml_X6_151 mf_X8_setFact mv_X8_setFact s_7 rfl rfl (x_X8_setFact trip_7 q10.1) (Nat.le_of_ble_eq_true rfl) rfl rfl (Nat.le_of_ble_eq_true rfl) <| r_iconst D_X6_readClothes_35 ki_1 <| r_zret hq D_X6_readClothes_36 rfl rfl (rtW h)))
-- X8_closeThing
theorem D_X8_closeThing_0 : Dec mi_X8_closeThing 0 (.aload_n 0) 1 1 := ⟨by decide +kernel, rfl⟩
theorem D_X8_closeThing_1 : Dec mi_X8_closeThing 1 (.invokevirtual 58) 3 4 := ⟨by decide +kernel, rfl⟩
theorem D_X8_closeThing_4 : DecJ mi_X8_closeThing 4 (.ifCond .ne 4) (4) 7 8 := ⟨by decide +kernel, rfl, by decide⟩
theorem D_X8_closeThing_7 : Dec mi_X8_closeThing 7 (.return_) 1 8 := ⟨by decide +kernel, rfl⟩
theorem D_X8_closeThing_8 : Dec mi_X8_closeThing 8 (.iconst 1) 1 9 := ⟨by decide +kernel, rfl⟩
theorem D_X8_closeThing_9 : Dec mi_X8_closeThing 9 (.aload_n 0) 1 10 := ⟨by decide +kernel, rfl⟩
theorem D_X8_closeThing_10 : Dec mi_X8_closeThing 10 (.getfield 27) 3 13 := ⟨by decide +kernel, rfl⟩
theorem D_X8_closeThing_13 : Dec mi_X8_closeThing 13 (.ishl) 1 14 := ⟨by decide +kernel, rfl⟩
theorem D_X8_closeThing_14 : Dec mi_X8_closeThing 14 (.istore_n 1) 1 15 := ⟨by decide +kernel, rfl⟩
theorem D_X8_closeThing_15 : Dec mi_X8_closeThing 15 (.aload_n 0) 1 16 := ⟨by decide +kernel, rfl⟩
theorem D_X8_closeThing_16 : Dec mi_X8_closeThing 16 (.getfield 9) 3 19 := ⟨by decide +kernel, rfl⟩
theorem D_X8_closeThing_19 : Dec mi_X8_closeThing 19 (.aload_n 0) 1 20 := ⟨by decide +kernel, rfl⟩
theorem D_X8_closeThing_20 : Dec mi_X8_closeThing 20 (.getfield 27) 3 23 := ⟨by decide +kernel, rfl⟩
theorem D_X8_closeThing_23 : Dec mi_X8_closeThing 23 (.bipush 8) 2 25 := ⟨by decide +kernel, rfl⟩
theorem D_X8_closeThing_25 : Dec mi_X8_closeThing 25 (.imul) 1 26 := ⟨by decide +kernel, rfl⟩
theorem D_X8_closeThing_26 : Dec mi_X8_closeThing 26 (.iconst 0) 1 27 := ⟨by decide +kernel, rfl⟩
theorem D_X8_closeThing_27 : Dec mi_X8_closeThing 27 (.iadd) 1 28 := ⟨by decide +kernel, rfl⟩
theorem D_X8_closeThing_28 : Dec mi_X8_closeThing 28 (.iaload) 1 29 := ⟨by decide +kernel, rfl⟩
theorem D_X8_closeThing_29 : decode mi_X8_closeThing.1 29 = .ok (.lookupswitch 53 #[(0, 27), (1, 40)], 27) := by decide +kernel
theorem D_X8_closeThing_56 : Dec mi_X8_closeThing 56 (.aload_n 0) 1 57 := ⟨by decide +kernel, rfl⟩
theorem D_X8_closeThing_57 : Dec mi_X8_closeThing 57 (.dup) 1 58 := ⟨by decide +kernel, rfl⟩
theorem D_X8_closeThing_58 : Dec mi_X8_closeThing 58 (.getfield 37) 3 61 := ⟨by decide +kernel, rfl⟩
theorem D_X8_closeThing_61 : Dec mi_X8_closeThing 61 (.iload_n 1) 1 62 := ⟨by decide +kernel, rfl⟩
theorem D_X8_closeThing_62 : Dec mi_X8_closeThing 62 (.ior) 1 63 := ⟨by decide +kernel, rfl⟩
theorem D_X8_closeThing_63 : Dec mi_X8_closeThing 63 (.putfield 37) 3 66 := ⟨by decide +kernel, rfl⟩
theorem D_X8_closeThing_66 : DecJ mi_X8_closeThing 66 (.goto 26) (26) 69 92 := ⟨by decide +kernel, rfl, by decide⟩
theorem D_X8_closeThing_69 : Dec mi_X8_closeThing 69 (.aload_n 0) 1 70 := ⟨by decide +kernel, rfl⟩
theorem D_X8_closeThing_70 : Dec mi_X8_closeThing 70 (.dup) 1 71 := ⟨by decide +kernel, rfl⟩
theorem D_X8_closeThing_71 : Dec mi_X8_closeThing 71 (.getfield 40) 3 74 := ⟨by decide +kernel, rfl⟩
theorem D_X8_closeThing_74 : Dec mi_X8_closeThing 74 (.iload_n 1) 1 75 := ⟨by decide +kernel, rfl⟩
theorem D_X8_closeThing_75 : Dec mi_X8_closeThing 75 (.ior) 1 76 := ⟨by decide +kernel, rfl⟩
theorem D_X8_closeThing_76 : Dec mi_X8_closeThing 76 (.putfield 40) 3 79 := ⟨by decide +kernel, rfl⟩
theorem D_X8_closeThing_79 : DecJ mi_X8_closeThing 79 (.goto 13) (13) 82 92 := ⟨by decide +kernel, rfl, by decide⟩
theorem D_X8_closeThing_82 : Dec mi_X8_closeThing 82 (.aload_n 0) 1 83 := ⟨by decide +kernel, rfl⟩
theorem D_X8_closeThing_83 : Dec mi_X8_closeThing 83 (.dup) 1 84 := ⟨by decide +kernel, rfl⟩
theorem D_X8_closeThing_84 : Dec mi_X8_closeThing 84 (.getfield 43) 3 87 := ⟨by decide +kernel, rfl⟩
theorem D_X8_closeThing_87 : Dec mi_X8_closeThing 87 (.iload_n 1) 1 88 := ⟨by decide +kernel, rfl⟩
theorem D_X8_closeThing_88 : Dec mi_X8_closeThing 88 (.ior) 1 89 := ⟨by decide +kernel, rfl⟩
theorem D_X8_closeThing_89 : Dec mi_X8_closeThing 89 (.putfield 43) 3 92 := ⟨by decide +kernel, rfl⟩
theorem D_X8_closeThing_92 : Dec mi_X8_closeThing 92 (.aload_n 0) 1 93 := ⟨by decide +kernel, rfl⟩
theorem D_X8_closeThing_93 : Dec mi_X8_closeThing 93 (.getfield 9) 3 96 := ⟨by decide +kernel, rfl⟩
theorem D_X8_closeThing_96 : Dec mi_X8_closeThing 96 (.aload_n 0) 1 97 := ⟨by decide +kernel, rfl⟩
theorem D_X8_closeThing_97 : Dec mi_X8_closeThing 97 (.getfield 27) 3 100 := ⟨by decide +kernel, rfl⟩
theorem D_X8_closeThing_100 : Dec mi_X8_closeThing 100 (.bipush 8) 2 102 := ⟨by decide +kernel, rfl⟩
theorem D_X8_closeThing_102 : Dec mi_X8_closeThing 102 (.imul) 1 103 := ⟨by decide +kernel, rfl⟩
theorem D_X8_closeThing_103 : Dec mi_X8_closeThing 103 (.bipush 6) 2 105 := ⟨by decide +kernel, rfl⟩
theorem D_X8_closeThing_105 : Dec mi_X8_closeThing 105 (.iadd) 1 106 := ⟨by decide +kernel, rfl⟩
theorem D_X8_closeThing_106 : Dec mi_X8_closeThing 106 (.iaload) 1 107 := ⟨by decide +kernel, rfl⟩
theorem D_X8_closeThing_107 : Dec mi_X8_closeThing 107 (.iconst 2) 1 108 := ⟨by decide +kernel, rfl⟩
theorem D_X8_closeThing_108 : DecJ mi_X8_closeThing 108 (.if_icmp .ne 13) (13) 111 121 := ⟨by decide +kernel, rfl, by decide⟩
theorem D_X8_closeThing_111 : Dec mi_X8_closeThing 111 (.aload_n 0) 1 112 := ⟨by decide +kernel, rfl⟩
theorem D_X8_closeThing_112 : Dec mi_X8_closeThing 112 (.dup) 1 113 := ⟨by decide +kernel, rfl⟩
theorem D_X8_closeThing_113 : Dec mi_X8_closeThing 113 (.getfield 46) 3 116 := ⟨by decide +kernel, rfl⟩
theorem D_X8_closeThing_116 : Dec mi_X8_closeThing 116 (.iload_n 1) 1 117 := ⟨by decide +kernel, rfl⟩
theorem D_X8_closeThing_117 : Dec mi_X8_closeThing 117 (.ior) 1 118 := ⟨by decide +kernel, rfl⟩
theorem D_X8_closeThing_118 : Dec mi_X8_closeThing 118 (.putfield 46) 3 121 := ⟨by decide +kernel, rfl⟩
theorem D_X8_closeThing_121 : Dec mi_X8_closeThing 121 (.aload_n 0) 1 122 := ⟨by decide +kernel, rfl⟩
theorem D_X8_closeThing_122 : Dec mi_X8_closeThing 122 (.getfield 9) 3 125 := ⟨by decide +kernel, rfl⟩
theorem D_X8_closeThing_125 : Dec mi_X8_closeThing 125 (.aload_n 0) 1 126 := ⟨by decide +kernel, rfl⟩
theorem D_X8_closeThing_126 : Dec mi_X8_closeThing 126 (.getfield 27) 3 129 := ⟨by decide +kernel, rfl⟩
theorem D_X8_closeThing_129 : Dec mi_X8_closeThing 129 (.bipush 8) 2 131 := ⟨by decide +kernel, rfl⟩
theorem D_X8_closeThing_131 : Dec mi_X8_closeThing 131 (.imul) 1 132 := ⟨by decide +kernel, rfl⟩
theorem D_X8_closeThing_132 : Dec mi_X8_closeThing 132 (.bipush 7) 2 134 := ⟨by decide +kernel, rfl⟩
theorem D_X8_closeThing_134 : Dec mi_X8_closeThing 134 (.iadd) 1 135 := ⟨by decide +kernel, rfl⟩
theorem D_X8_closeThing_135 : Dec mi_X8_closeThing 135 (.iaload) 1 136 := ⟨by decide +kernel, rfl⟩
theorem D_X8_closeThing_136 : DecJ mi_X8_closeThing 136 (.ifCond .eq 20) (20) 139 156 := ⟨by decide +kernel, rfl, by decide⟩
theorem D_X8_closeThing_139 : Dec mi_X8_closeThing 139 (.aload_n 0) 1 140 := ⟨by decide +kernel, rfl⟩
theorem D_X8_closeThing_140 : Dec mi_X8_closeThing 140 (.dup) 1 141 := ⟨by decide +kernel, rfl⟩
theorem D_X8_closeThing_141 : Dec mi_X8_closeThing 141 (.getfield 49) 3 144 := ⟨by decide +kernel, rfl⟩
theorem D_X8_closeThing_144 : Dec mi_X8_closeThing 144 (.iconst 1) 1 145 := ⟨by decide +kernel, rfl⟩
theorem D_X8_closeThing_145 : Dec mi_X8_closeThing 145 (.iconst 2) 1 146 := ⟨by decide +kernel, rfl⟩
theorem D_X8_closeThing_146 : Dec mi_X8_closeThing 146 (.aload_n 0) 1 147 := ⟨by decide +kernel, rfl⟩
theorem D_X8_closeThing_147 : Dec mi_X8_closeThing 147 (.getfield 27) 3 150 := ⟨by decide +kernel, rfl⟩
theorem D_X8_closeThing_150 : Dec mi_X8_closeThing 150 (.imul) 1 151 := ⟨by decide +kernel, rfl⟩
theorem D_X8_closeThing_151 : Dec mi_X8_closeThing 151 (.ishl) 1 152 := ⟨by decide +kernel, rfl⟩
theorem D_X8_closeThing_152 : Dec mi_X8_closeThing 152 (.ior) 1 153 := ⟨by decide +kernel, rfl⟩
theorem D_X8_closeThing_153 : Dec mi_X8_closeThing 153 (.putfield 49) 3 156 := ⟨by decide +kernel, rfl⟩
theorem D_X8_closeThing_156 : Dec mi_X8_closeThing 156 (.aload_n 0) 1 157 := ⟨by decide +kernel, rfl⟩
theorem D_X8_closeThing_157 : Dec mi_X8_closeThing 157 (.dup) 1 158 := ⟨by decide +kernel, rfl⟩
theorem D_X8_closeThing_158 : Dec mi_X8_closeThing 158 (.getfield 27) 3 161 := ⟨by decide +kernel, rfl⟩
theorem D_X8_closeThing_161 : Dec mi_X8_closeThing 161 (.iconst 1) 1 162 := ⟨by decide +kernel, rfl⟩
theorem D_X8_closeThing_162 : Dec mi_X8_closeThing 162 (.iadd) 1 163 := ⟨by decide +kernel, rfl⟩
theorem D_X8_closeThing_163 : Dec mi_X8_closeThing 163 (.putfield 27) 3 166 := ⟨by decide +kernel, rfl⟩
theorem D_X8_closeThing_166 : Dec mi_X8_closeThing 166 (.return_) 1 167 := ⟨by decide +kernel, rfl⟩
def f_X8_closeThing_121 (o : Nat) (N : Mem) : Option Mem := if ck (((N.1 o 3) * (8 : Int32)) + (7 : Int32)) 48 = true then (if (N.1 (o + 1) (((N.1 o 3) * (8 : Int32)) + (7 : Int32)).toNatClampNeg) = 0 then (vlet (setI N o 3 ((N.1 o 3) + (1 : Int32))) fun M3 => some M3) else (vlet (setI N o 10 ((N.1 o 10) ||| ((1 : Int32) <<< (((2 : Int32) * (N.1 o 3)) &&& 31)))) fun M4 => vlet (setI M4 o 3 ((M4.1 o 3) + (1 : Int32))) fun M5 => some M5)) else none
theorem x_X8_closeThing_121 {l : Launch} {w : Wd} {κ : Kp} {o : Nat} {v : Mem} (hq : RQ w (none, v) κ) (ho : isTrip o) (N : Mem) (h : f_X8_closeThing_121 o N = some v) : RR l w mi_X8_closeThing (1) κ 121 [] [some (.ref (wq w o)), none] N := let_h (show (if ck (((N.1 o 3) * (8 : Int32)) + (7 : Int32)) 48 = true then (if (N.1 (o + 1) (((N.1 o 3) * (8 : Int32)) + (7 : Int32)).toNatClampNeg) = 0 then (vlet (setI N o 3 ((N.1 o 3) + (1 : Int32))) fun M3 => some M3) else (vlet (setI N o 10 ((N.1 o 10) ||| ((1 : Int32) <<< (((2 : Int32) * (N.1 o 3)) &&& 31)))) fun M4 => vlet (setI M4 o 3 ((M4.1 o 3) + (1 : Int32))) fun M5 => some M5)) else none) = some v from h) fun h => r_aload_n D_X8_closeThing_121 rfl <| r_getR (j := (o + 1)) D_X8_closeThing_122 fl_X8_9 ho.1 rfl <| r_aload_n D_X8_closeThing_125 rfl <| r_getI D_X8_closeThing_126 fl_X8_27 ho.1 rfl <| r_bipush D_X8_closeThing_129 k8_8 <| r_imul D_X8_closeThing_131 <| r_bipush D_X8_closeThing_132 k8_7 <| r_iadd D_X8_closeThing_134 <| (ckE h).elim fun c1 h => r_iald D_X8_closeThing_135 ho.2.1 c1 <| r_if_eq D_X8_closeThing_136 (fun c2 => let_h (ifT c2 h) fun h => r_aload_n D_X8_closeThing_156 rfl <| r_dup D_X8_closeThing_157 rfl <| r_getI D_X8_closeThing_158 fl_X8_27 ho.1 rfl <| r_iconst D_X8_closeThing_161 ki_1 <| r_iadd D_X8_closeThing_162 <| r_putI D_X8_closeThing_163 fp_X8_27 ho.1 rfl rfl rfl <| mlE h fun M3 h => r_vret hq D_X8_closeThing_166 rfl (rtV h)) (fun c2 => let_h (ifF c2 h) fun h => r_aload_n D_X8_closeThing_139 rfl <| r_dup D_X8_closeThing_140 rfl <| r_getI D_X8_closeThing_141 fl_X8_49 ho.1 rfl <| r_iconst D_X8_closeThing_144 ki_1 <| r_iconst D_X8_closeThing_145 ki_2 <| r_aload_n D_X8_closeThing_146 rfl <| r_getI D_X8_closeThing_147 fl_X8_27 ho.1 rfl <| r_imul D_X8_closeThing_150 <| r_ishl D_X8_closeThing_151 <| r_ior D_X8_closeThing_152 <| r_putI D_X8_closeThing_153 fp_X8_49 ho.1 rfl rfl rfl <| mlE h fun M4 h => r_aload_n D_X8_closeThing_156 rfl <| r_dup D_X8_closeThing_157 rfl <| r_getI D_X8_closeThing_158 fl_X8_27 ho.1 rfl <| r_iconst D_X8_closeThing_161 ki_1 <| r_iadd D_X8_closeThing_162 <| r_putI D_X8_closeThing_163 fp_X8_27 ho.1 rfl rfl rfl <| mlE h fun M5 h => r_vret hq D_X8_closeThing_166 rfl (rtV h))
def f_X8_closeThing_92 (o : Nat) (y1 : Int32) (N : Mem) : Option Mem := if ck (((N.1 o 3) * (8 : Int32)) + (6 : Int32)) 48 = true then (if (N.1 (o + 1) (((N.1 o 3) * (8 : Int32)) + (6 : Int32)).toNatClampNeg) = (2 : Int32) then (vlet (setI N o 9 ((N.1 o 9) ||| y1)) fun M3 => f_X8_closeThing_121 o M3) else (f_X8_closeThing_121 o N)) else none
theorem x_X8_closeThing_92 {l : Launch} {w : Wd} {κ : Kp} {o : Nat} {v : Mem} (hq : RQ w (none, v) κ) (ho : isTrip o) (y1 : Int32) (N : Mem) (h : f_X8_closeThing_92 o y1 N = some v) : RR l w mi_X8_closeThing (1) κ 92 [] [some (.ref (wq w o)), some (.int y1)] N := let_h (show (if ck (((N.1 o 3) * (8 : Int32)) + (6 : Int32)) 48 = true then (if (N.1 (o + 1) (((N.1 o 3) * (8 : Int32)) + (6 : Int32)).toNatClampNeg) = (2 : Int32) then (vlet (setI N o 9 ((N.1 o 9) ||| y1)) fun M3 => f_X8_closeThing_121 o M3) else (f_X8_closeThing_121 o N)) else none) = some v from h) fun h => r_aload_n D_X8_closeThing_92 rfl <| r_getR (j := (o + 1)) D_X8_closeThing_93 fl_X8_9 ho.1 rfl <| r_aload_n D_X8_closeThing_96 rfl <| r_getI D_X8_closeThing_97 fl_X8_27 ho.1 rfl <| r_bipush D_X8_closeThing_100 k8_8 <| r_imul D_X8_closeThing_102 <| r_bipush D_X8_closeThing_103 k8_6 <| r_iadd D_X8_closeThing_105 <| (ckE h).elim fun c1 h => r_iald D_X8_closeThing_106 ho.2.1 c1 <| r_iconst D_X8_closeThing_107 ki_2 <| r_icmp_ne D_X8_closeThing_108 (fun c2 => let_h (ifT c2 h) fun h => r_aload_n D_X8_closeThing_111 rfl <| r_dup D_X8_closeThing_112 rfl <| r_getI D_X8_closeThing_113 fl_X8_46 ho.1 rfl <| r_iload_n D_X8_closeThing_116 rfl <| r_ior D_X8_closeThing_117 <| r_putI D_X8_closeThing_118 fp_X8_46 ho.1 rfl rfl rfl <| mlE h fun M3 h => r_ls (x_X8_closeThing_121 hq ho M3 h) ⟨rfl, trivial⟩) (fun c2 => let_h (ifF c2 h) fun h => r_ls (x_X8_closeThing_121 hq ho N h) ⟨rfl, trivial⟩)
def f_X8_closeThing (M : Mem) (o : Nat) : Option Mem := if (f_X8_hasRoomForThing M o) = 0 then (some M) else (vlet ((1 : Int32) <<< ((M.1 o 3) &&& 31)) fun x2 => if ck (((M.1 o 3) * (8 : Int32)) + (0 : Int32)) 48 = true then (if (M.1 (o + 1) (((M.1 o 3) * (8 : Int32)) + (0 : Int32)).toNatClampNeg) = (0 : Int32) then (vlet (setI M o 6 ((M.1 o 6) ||| x2)) fun M5 => f_X8_closeThing_92 o x2 M5) else (if (M.1 (o + 1) (((M.1 o 3) * (8 : Int32)) + (0 : Int32)).toNatClampNeg) = (1 : Int32) then (vlet (setI M o 7 ((M.1 o 7) ||| x2)) fun M7 => f_X8_closeThing_92 o x2 M7) else (vlet (setI M o 8 ((M.1 o 8) ||| x2)) fun M8 => f_X8_closeThing_92 o x2 M8))) else none)
theorem x_X8_closeThing {l : Launch} {w : Wd} {M : Mem} {o : Nat} {v : Mem} (ho : isTrip o) (h : f_X8_closeThing M o = some v) : Cn l w mi_X8_closeThing yX8_closeThing (1) [.ref (wq w o)] M (none, v) :=
  Cn_of (loc0 := [some (.ref (wq w o)), none]) rfl rfl rfl (Nat.le_of_ble_eq_true rfl) fun κ hq => let_h (show (if (f_X8_hasRoomForThing M o) = 0 then (some M) else (vlet ((1 : Int32) <<< ((M.1 o 3) &&& 31)) fun x2 => if ck (((M.1 o 3) * (8 : Int32)) + (0 : Int32)) 48 = true then (if (M.1 (o + 1) (((M.1 o 3) * (8 : Int32)) + (0 : Int32)).toNatClampNeg) = (0 : Int32) then (vlet (setI M o 6 ((M.1 o 6) ||| x2)) fun M5 => f_X8_closeThing_92 o x2 M5) else (if (M.1 (o + 1) (((M.1 o 3) * (8 : Int32)) + (0 : Int32)).toNatClampNeg) = (1 : Int32) then (vlet (setI M o 7 ((M.1 o 7) ||| x2)) fun M7 => f_X8_closeThing_92 o x2 M7) else (vlet (setI M o 8 ((M.1 o 8) ||| x2)) fun M8 => f_X8_closeThing_92 o x2 M8))) else none)) = some v from h) fun h => r_aload_n D_X8_closeThing_0 rfl <| r_callV (av := []) D_X8_closeThing_1 ml_X8_58 mf_X8_hasRoomForThing mv_X8_hasRoomForThing ho.1 rfl rfl (x_X8_hasRoomForThing ho rfl) (Nat.le_of_ble_eq_true rfl) rfl rfl (Nat.le_of_ble_eq_true rfl) <| r_if_ne D_X8_closeThing_4 (fun c1 => let_h (ifT c1 h) fun h => r_vret hq D_X8_closeThing_7 rfl (rtV h)) (fun c1 => let_h (ifF c1 h) fun h => r_iconst D_X8_closeThing_8 ki_1 <| r_aload_n D_X8_closeThing_9 rfl <| r_getI D_X8_closeThing_10 fl_X8_27 ho.1 rfl <| r_ishl D_X8_closeThing_13 <| vlE (fun x2 => RR l w mi_X8_closeThing (1) κ 14 [.int x2] [some (.ref (wq w o)), none] M) h fun x2 h => r_istore_n D_X8_closeThing_14 (by decide) rfl <| r_aload_n D_X8_closeThing_15 rfl <| r_getR (j := (o + 1)) D_X8_closeThing_16 fl_X8_9 ho.1 rfl <| r_aload_n D_X8_closeThing_19 rfl <| r_getI D_X8_closeThing_20 fl_X8_27 ho.1 rfl <| r_bipush D_X8_closeThing_23 k8_8 <| r_imul D_X8_closeThing_25 <| r_iconst D_X8_closeThing_26 ki_0 <| r_iadd D_X8_closeThing_27 <| (ckE h).elim fun c3 h => r_iald D_X8_closeThing_28 ho.2.1 c3 <| dcs (fun c4 => let_h (ifT c4 h) fun h => r_lookEq (off := 27) (t := 56) c4 D_X8_closeThing_29 (by decide) (by decide) (by decide) <| r_aload_n D_X8_closeThing_56 rfl <| r_dup D_X8_closeThing_57 rfl <| r_getI D_X8_closeThing_58 fl_X8_37 ho.1 rfl <| r_iload_n D_X8_closeThing_61 rfl <| r_ior D_X8_closeThing_62 <| r_putI D_X8_closeThing_63 fp_X8_37 ho.1 rfl rfl rfl <| mlE h fun M5 h => r_goto D_X8_closeThing_66 <| r_ls (x_X8_closeThing_92 hq ho x2 M5 h) ⟨rfl, ⟨rfl, trivial⟩⟩) (fun c4 => let_h (ifF c4 h) fun h => dcs (fun c6 => let_h (ifT c6 h) fun h => r_lookEq (off := 40) (t := 69) c6 D_X8_closeThing_29 (by decide) (by decide) (by decide) <| r_aload_n D_X8_closeThing_69 rfl <| r_dup D_X8_closeThing_70 rfl <| r_getI D_X8_closeThing_71 fl_X8_40 ho.1 rfl <| r_iload_n D_X8_closeThing_74 rfl <| r_ior D_X8_closeThing_75 <| r_putI D_X8_closeThing_76 fp_X8_40 ho.1 rfl rfl rfl <| mlE h fun M7 h => r_goto D_X8_closeThing_79 <| r_ls (x_X8_closeThing_92 hq ho x2 M7 h) ⟨rfl, ⟨rfl, trivial⟩⟩) (fun c6 => let_h (ifF c6 h) fun h => r_lookOut (t := 82) D_X8_closeThing_29 (by decide) (List.forall_mem_cons.mpr ⟨ne32 c4 (by decide), (List.forall_mem_cons.mpr ⟨ne32 c6 (by decide), (fun _ hh => absurd hh List.not_mem_nil)⟩)⟩) (by decide) <| r_aload_n D_X8_closeThing_82 rfl <| r_dup D_X8_closeThing_83 rfl <| r_getI D_X8_closeThing_84 fl_X8_43 ho.1 rfl <| r_iload_n D_X8_closeThing_87 rfl <| r_ior D_X8_closeThing_88 <| r_putI D_X8_closeThing_89 fp_X8_43 ho.1 rfl rfl rfl <| mlE h fun M8 h => r_ls (x_X8_closeThing_92 hq ho x2 M8 h) ⟨rfl, ⟨rfl, trivial⟩⟩)))
-- X6_closeThing
theorem D_X6_closeThing_0 : Dec mi_X6_closeThing 0 (.aload_n 0) 1 1 := ⟨by decide +kernel, rfl⟩
theorem D_X6_closeThing_1 : Dec mi_X6_closeThing 1 (.getfield 24) 3 4 := ⟨by decide +kernel, rfl⟩
theorem D_X6_closeThing_4 : Dec mi_X6_closeThing 4 (.invokevirtual 141) 3 7 := ⟨by decide +kernel, rfl⟩
theorem D_X6_closeThing_7 : Dec mi_X6_closeThing 7 (.iconst 1) 1 8 := ⟨by decide +kernel, rfl⟩
theorem D_X6_closeThing_8 : Dec mi_X6_closeThing 8 (.ireturn) 1 9 := ⟨by decide +kernel, rfl⟩
def f_X6_closeThing (M : Mem) : Option (Int32 × Mem) := (f_X8_closeThing M 7).bind fun p1 => some ((1 : Int32), p1)
theorem x_X6_closeThing {l : Launch} {w : Wd} {M : Mem} {v : Int32 × Mem} (h : f_X6_closeThing M = some v) : Cn l w mi_X6_closeThing yX6_closeThing (2) [.ref (wq w 11)] M (some (.int v.1), v.2) :=
  Cn_of (loc0 := [some (.ref (wq w 11))]) rfl rfl rfl (Nat.le_of_ble_eq_true rfl) fun κ hq => let_h (show ((f_X8_closeThing M 7).bind fun p1 => some ((1 : Int32), p1)) = some v from h) fun h => r_aload_n D_X6_closeThing_0 rfl <| r_getR (j := 7) D_X6_closeThing_1 fl_X6_24 s_11 rfl <| (bdE h).elim fun p1 q2 => let_h q2.2 fun h => r_callV (av := []) D_X6_closeThing_4 ml_X6_141 mf_X8_closeThing mv_X8_closeThing s_7 rfl rfl (x_X8_closeThing trip_7 q2.1) (Nat.le_of_ble_eq_true rfl) rfl rfl (Nat.le_of_ble_eq_true rfl) <| r_iconst D_X6_closeThing_7 ki_1 <| r_zret hq D_X6_closeThing_8 rfl rfl (rtW h)
-- X8_setApart
theorem D_X8_setApart_0 : Dec mi_X8_setApart 0 (.aload_n 0) 1 1 := ⟨by decide +kernel, rfl⟩
theorem D_X8_setApart_1 : Dec mi_X8_setApart 1 (.iload_n 1) 1 2 := ⟨by decide +kernel, rfl⟩
theorem D_X8_setApart_2 : Dec mi_X8_setApart 2 (.invokevirtual 69) 3 5 := ⟨by decide +kernel, rfl⟩
theorem D_X8_setApart_5 : DecJ mi_X8_setApart 5 (.ifCond .eq 35) (35) 8 40 := ⟨by decide +kernel, rfl, by decide⟩
theorem D_X8_setApart_8 : Dec mi_X8_setApart 8 (.aload_n 0) 1 9 := ⟨by decide +kernel, rfl⟩
theorem D_X8_setApart_9 : Dec mi_X8_setApart 9 (.iload_n 2) 1 10 := ⟨by decide +kernel, rfl⟩
theorem D_X8_setApart_10 : Dec mi_X8_setApart 10 (.invokevirtual 69) 3 13 := ⟨by decide +kernel, rfl⟩
theorem D_X8_setApart_13 : DecJ mi_X8_setApart 13 (.ifCond .eq 27) (27) 16 40 := ⟨by decide +kernel, rfl, by decide⟩
theorem D_X8_setApart_16 : Dec mi_X8_setApart 16 (.aload_n 0) 1 17 := ⟨by decide +kernel, rfl⟩
theorem D_X8_setApart_17 : Dec mi_X8_setApart 17 (.getfield 18) 3 20 := ⟨by decide +kernel, rfl⟩
theorem D_X8_setApart_20 : Dec mi_X8_setApart 20 (.iload_n 1) 1 21 := ⟨by decide +kernel, rfl⟩
theorem D_X8_setApart_21 : Dec mi_X8_setApart 21 (.dup2) 1 22 := ⟨by decide +kernel, rfl⟩
theorem D_X8_setApart_22 : Dec mi_X8_setApart 22 (.iaload) 1 23 := ⟨by decide +kernel, rfl⟩
theorem D_X8_setApart_23 : Dec mi_X8_setApart 23 (.iconst 1) 1 24 := ⟨by decide +kernel, rfl⟩
theorem D_X8_setApart_24 : Dec mi_X8_setApart 24 (.iload_n 2) 1 25 := ⟨by decide +kernel, rfl⟩
theorem D_X8_setApart_25 : Dec mi_X8_setApart 25 (.ishl) 1 26 := ⟨by decide +kernel, rfl⟩
theorem D_X8_setApart_26 : Dec mi_X8_setApart 26 (.ior) 1 27 := ⟨by decide +kernel, rfl⟩
theorem D_X8_setApart_27 : Dec mi_X8_setApart 27 (.iastore) 1 28 := ⟨by decide +kernel, rfl⟩
theorem D_X8_setApart_28 : Dec mi_X8_setApart 28 (.aload_n 0) 1 29 := ⟨by decide +kernel, rfl⟩
theorem D_X8_setApart_29 : Dec mi_X8_setApart 29 (.getfield 18) 3 32 := ⟨by decide +kernel, rfl⟩
theorem D_X8_setApart_32 : Dec mi_X8_setApart 32 (.iload_n 2) 1 33 := ⟨by decide +kernel, rfl⟩
theorem D_X8_setApart_33 : Dec mi_X8_setApart 33 (.dup2) 1 34 := ⟨by decide +kernel, rfl⟩
theorem D_X8_setApart_34 : Dec mi_X8_setApart 34 (.iaload) 1 35 := ⟨by decide +kernel, rfl⟩
theorem D_X8_setApart_35 : Dec mi_X8_setApart 35 (.iconst 1) 1 36 := ⟨by decide +kernel, rfl⟩
theorem D_X8_setApart_36 : Dec mi_X8_setApart 36 (.iload_n 1) 1 37 := ⟨by decide +kernel, rfl⟩
theorem D_X8_setApart_37 : Dec mi_X8_setApart 37 (.ishl) 1 38 := ⟨by decide +kernel, rfl⟩
theorem D_X8_setApart_38 : Dec mi_X8_setApart 38 (.ior) 1 39 := ⟨by decide +kernel, rfl⟩
theorem D_X8_setApart_39 : Dec mi_X8_setApart 39 (.iastore) 1 40 := ⟨by decide +kernel, rfl⟩
theorem D_X8_setApart_40 : Dec mi_X8_setApart 40 (.return_) 1 41 := ⟨by decide +kernel, rfl⟩
def f_X8_setApart (M : Mem) (o : Nat) (a1 : Int32) (a2 : Int32) : Option Mem := if (f_X8_hasThing M o a1) = 0 then (some M) else (if (f_X8_hasThing M o a2) = 0 then (some M) else (if ck a1 6 = true then (if ck a1 6 = true then (vlet (setI M (o + 3) a1.toNatClampNeg ((M.1 (o + 3) a1.toNatClampNeg) ||| ((1 : Int32) <<< (a2 &&& 31)))) fun M5 => if ck a2 6 = true then (if ck a2 6 = true then (vlet (setI M5 (o + 3) a2.toNatClampNeg ((M5.1 (o + 3) a2.toNatClampNeg) ||| ((1 : Int32) <<< (a1 &&& 31)))) fun M8 => some M8) else none) else none) else none) else none))
theorem x_X8_setApart {l : Launch} {w : Wd} {M : Mem} {o : Nat} {a1 : Int32} {a2 : Int32} {v : Mem} (ho : isTrip o) (h : f_X8_setApart M o a1 a2 = some v) : Cn l w mi_X8_setApart yX8_setApart (1) [.ref (wq w o), .int a1, .int a2] M (none, v) :=
  Cn_of (loc0 := [some (.ref (wq w o)), some (.int a1), some (.int a2)]) rfl rfl rfl (Nat.le_of_ble_eq_true rfl) fun κ hq => let_h (show (if (f_X8_hasThing M o a1) = 0 then (some M) else (if (f_X8_hasThing M o a2) = 0 then (some M) else (if ck a1 6 = true then (if ck a1 6 = true then (vlet (setI M (o + 3) a1.toNatClampNeg ((M.1 (o + 3) a1.toNatClampNeg) ||| ((1 : Int32) <<< (a2 &&& 31)))) fun M5 => if ck a2 6 = true then (if ck a2 6 = true then (vlet (setI M5 (o + 3) a2.toNatClampNeg ((M5.1 (o + 3) a2.toNatClampNeg) ||| ((1 : Int32) <<< (a1 &&& 31)))) fun M8 => some M8) else none) else none) else none) else none))) = some v from h) fun h => r_aload_n D_X8_setApart_0 rfl <| r_iload_n D_X8_setApart_1 rfl <| r_callV (av := [.int a1]) D_X8_setApart_2 ml_X8_69 mf_X8_hasThing mv_X8_hasThing ho.1 rfl rfl (x_X8_hasThing ho rfl) (Nat.le_of_ble_eq_true rfl) rfl rfl (Nat.le_of_ble_eq_true rfl) <| r_if_eq D_X8_setApart_5 (fun c1 => let_h (ifT c1 h) fun h => r_vret hq D_X8_setApart_40 rfl (rtV h)) (fun c1 => let_h (ifF c1 h) fun h => r_aload_n D_X8_setApart_8 rfl <| r_iload_n D_X8_setApart_9 rfl <| r_callV (av := [.int a2]) D_X8_setApart_10 ml_X8_69 mf_X8_hasThing mv_X8_hasThing ho.1 rfl rfl (x_X8_hasThing ho rfl) (Nat.le_of_ble_eq_true rfl) rfl rfl (Nat.le_of_ble_eq_true rfl) <| r_if_eq D_X8_setApart_13 (fun c2 => let_h (ifT c2 h) fun h => r_vret hq D_X8_setApart_40 rfl (rtV h)) (fun c2 => let_h (ifF c2 h) fun h => r_aload_n D_X8_setApart_16 rfl <| r_getR (j := (o + 3)) D_X8_setApart_17 fl_X8_18 ho.1 rfl <| r_iload_n D_X8_setApart_20 rfl <| r_dup2 D_X8_setApart_21 rfl rfl <| (ckE h).elim fun c3 h => r_iald D_X8_setApart_22 ho.2.2.2 c3 <| r_iconst D_X8_setApart_23 ki_1 <| r_iload_n D_X8_setApart_24 rfl <| r_ishl D_X8_setApart_25 <| r_ior D_X8_setApart_26 <| (ckE h).elim fun c4 h => r_iast D_X8_setApart_27 ho.2.2.2 c4 <| mlE h fun M5 h => r_aload_n D_X8_setApart_28 rfl <| r_getR (j := (o + 3)) D_X8_setApart_29 fl_X8_18 ho.1 rfl <| r_iload_n D_X8_setApart_32 rfl <| r_dup2 D_X8_setApart_33 rfl rfl <| (ckE h).elim fun c6 h => r_iald D_X8_setApart_34 ho.2.2.2 c6 <| r_iconst D_X8_setApart_35 ki_1 <| r_iload_n D_X8_setApart_36 rfl <| r_ishl D_X8_setApart_37 <| r_ior D_X8_setApart_38 <| (ckE h).elim fun c7 h => r_iast D_X8_setApart_39 ho.2.2.2 c7 <| mlE h fun M8 h => r_vret hq D_X8_setApart_40 rfl (rtV h)))
-- X6_readApart
theorem D_X6_readApart_0 : Dec mi_X6_readApart 0 (.aload_n 0) 1 1 := ⟨by decide +kernel, rfl⟩
theorem D_X6_readApart_1 : Dec mi_X6_readApart 1 (.dup) 1 2 := ⟨by decide +kernel, rfl⟩
theorem D_X6_readApart_2 : Dec mi_X6_readApart 2 (.getfield 36) 3 5 := ⟨by decide +kernel, rfl⟩
theorem D_X6_readApart_5 : Dec mi_X6_readApart 5 (.iconst 1) 1 6 := ⟨by decide +kernel, rfl⟩
theorem D_X6_readApart_6 : Dec mi_X6_readApart 6 (.iadd) 1 7 := ⟨by decide +kernel, rfl⟩
theorem D_X6_readApart_7 : Dec mi_X6_readApart 7 (.putfield 36) 3 10 := ⟨by decide +kernel, rfl⟩
theorem D_X6_readApart_10 : Dec mi_X6_readApart 10 (.aload_n 0) 1 11 := ⟨by decide +kernel, rfl⟩
theorem D_X6_readApart_11 : Dec mi_X6_readApart 11 (.getfield 24) 3 14 := ⟨by decide +kernel, rfl⟩
theorem D_X6_readApart_14 : Dec mi_X6_readApart 14 (.invokevirtual 165) 3 17 := ⟨by decide +kernel, rfl⟩
theorem D_X6_readApart_17 : Dec mi_X6_readApart 17 (.iconst 1) 1 18 := ⟨by decide +kernel, rfl⟩
theorem D_X6_readApart_18 : Dec mi_X6_readApart 18 (.isub) 1 19 := ⟨by decide +kernel, rfl⟩
theorem D_X6_readApart_19 : Dec mi_X6_readApart 19 (.istore_n 1) 1 20 := ⟨by decide +kernel, rfl⟩
theorem D_X6_readApart_20 : Dec mi_X6_readApart 20 (.aload_n 0) 1 21 := ⟨by decide +kernel, rfl⟩
theorem D_X6_readApart_21 : Dec mi_X6_readApart 21 (.iconst 0) 1 22 := ⟨by decide +kernel, rfl⟩
theorem D_X6_readApart_22 : Dec mi_X6_readApart 22 (.iload_n 1) 1 23 := ⟨by decide +kernel, rfl⟩
theorem D_X6_readApart_23 : Dec mi_X6_readApart 23 (.invokevirtual 158) 3 26 := ⟨by decide +kernel, rfl⟩
theorem D_X6_readApart_26 : DecJ mi_X6_readApart 26 (.ifCond .ne 5) (5) 29 31 := ⟨by decide +kernel, rfl, by decide⟩
theorem D_X6_readApart_29 : Dec mi_X6_readApart 29 (.iconst 0) 1 30 := ⟨by decide +kernel, rfl⟩
theorem D_X6_readApart_30 : Dec mi_X6_readApart 30 (.ireturn) 1 31 := ⟨by decide +kernel, rfl⟩
theorem D_X6_readApart_31 : Dec mi_X6_readApart 31 (.aload_n 0) 1 32 := ⟨by decide +kernel, rfl⟩
theorem D_X6_readApart_32 : Dec mi_X6_readApart 32 (.getfield 162) 3 35 := ⟨by decide +kernel, rfl⟩
theorem D_X6_readApart_35 : Dec mi_X6_readApart 35 (.istore_n 2) 1 36 := ⟨by decide +kernel, rfl⟩
theorem D_X6_readApart_36 : Dec mi_X6_readApart 36 (.aload_n 0) 1 37 := ⟨by decide +kernel, rfl⟩
theorem D_X6_readApart_37 : Dec mi_X6_readApart 37 (.bipush 100) 2 39 := ⟨by decide +kernel, rfl⟩
theorem D_X6_readApart_39 : Dec mi_X6_readApart 39 (.iload_n 2) 1 40 := ⟨by decide +kernel, rfl⟩
theorem D_X6_readApart_40 : Dec mi_X6_readApart 40 (.iadd) 1 41 := ⟨by decide +kernel, rfl⟩
theorem D_X6_readApart_41 : Dec mi_X6_readApart 41 (.invokevirtual 40) 3 44 := ⟨by decide +kernel, rfl⟩
theorem D_X6_readApart_44 : DecJ mi_X6_readApart 44 (.ifCond .ne 12) (12) 47 56 := ⟨by decide +kernel, rfl, by decide⟩
theorem D_X6_readApart_47 : Dec mi_X6_readApart 47 (.aload_n 0) 1 48 := ⟨by decide +kernel, rfl⟩
theorem D_X6_readApart_48 : Dec mi_X6_readApart 48 (.iconst 0) 1 49 := ⟨by decide +kernel, rfl⟩
theorem D_X6_readApart_49 : Dec mi_X6_readApart 49 (.iload_n 1) 1 50 := ⟨by decide +kernel, rfl⟩
theorem D_X6_readApart_50 : Dec mi_X6_readApart 50 (.invokevirtual 158) 3 53 := ⟨by decide +kernel, rfl⟩
theorem D_X6_readApart_53 : DecJ mi_X6_readApart 53 (.ifCond .ne 5) (5) 56 58 := ⟨by decide +kernel, rfl, by decide⟩
theorem D_X6_readApart_56 : Dec mi_X6_readApart 56 (.iconst 0) 1 57 := ⟨by decide +kernel, rfl⟩
theorem D_X6_readApart_57 : Dec mi_X6_readApart 57 (.ireturn) 1 58 := ⟨by decide +kernel, rfl⟩
theorem D_X6_readApart_58 : Dec mi_X6_readApart 58 (.aload_n 0) 1 59 := ⟨by decide +kernel, rfl⟩
theorem D_X6_readApart_59 : Dec mi_X6_readApart 59 (.getfield 24) 3 62 := ⟨by decide +kernel, rfl⟩
theorem D_X6_readApart_62 : Dec mi_X6_readApart 62 (.iload_n 2) 1 63 := ⟨by decide +kernel, rfl⟩
theorem D_X6_readApart_63 : Dec mi_X6_readApart 63 (.aload_n 0) 1 64 := ⟨by decide +kernel, rfl⟩
theorem D_X6_readApart_64 : Dec mi_X6_readApart 64 (.getfield 162) 3 67 := ⟨by decide +kernel, rfl⟩
theorem D_X6_readApart_67 : Dec mi_X6_readApart 67 (.invokevirtual 168) 3 70 := ⟨by decide +kernel, rfl⟩
theorem D_X6_readApart_70 : Dec mi_X6_readApart 70 (.iconst 1) 1 71 := ⟨by decide +kernel, rfl⟩
theorem D_X6_readApart_71 : Dec mi_X6_readApart 71 (.ireturn) 1 72 := ⟨by decide +kernel, rfl⟩
def f_X6_readApart (M : Mem) : Option (Int32 × Mem) := vlet (setI M 11 5 ((M.1 11 5) + (1 : Int32))) fun M1 => (f_X6_takeNumber M1 (0 : Int32) ((f_X8_things M1 7) - (1 : Int32))).bind fun p2 => if p2.1 = 0 then (some ((0 : Int32), p2.2)) else ((f_X6_isNext p2.2 ((100 : Int32) + (p2.2.1 11 6))).bind fun x5 => if x5 = 0 then ((f_X6_takeNumber p2.2 (0 : Int32) ((f_X8_things M1 7) - (1 : Int32))).bind fun p8 => if p8.1 = 0 then (some ((0 : Int32), p8.2)) else ((f_X8_setApart p8.2 7 (p2.2.1 11 6) (p8.2.1 11 6)).bind fun p11 => some ((1 : Int32), p11))) else (some ((0 : Int32), p2.2)))
theorem x_X6_readApart {l : Launch} {w : Wd} {M : Mem} {v : Int32 × Mem} (h : f_X6_readApart M = some v) : Cn l w mi_X6_readApart yX6_readApart (2) [.ref (wq w 11)] M (some (.int v.1), v.2) :=
  Cn_of (loc0 := [some (.ref (wq w 11)), none, none]) rfl rfl rfl (Nat.le_of_ble_eq_true rfl) fun κ hq => let_h (show (vlet (setI M 11 5 ((M.1 11 5) + (1 : Int32))) fun M1 => (f_X6_takeNumber M1 (0 : Int32) ((f_X8_things M1 7) - (1 : Int32))).bind fun p2 => if p2.1 = 0 then (some ((0 : Int32), p2.2)) else ((f_X6_isNext p2.2 ((100 : Int32) + (p2.2.1 11 6))).bind fun x5 => if x5 = 0 then ((f_X6_takeNumber p2.2 (0 : Int32) ((f_X8_things M1 7) - (1 : Int32))).bind fun p8 => if p8.1 = 0 then (some ((0 : Int32), p8.2)) else ((f_X8_setApart p8.2 7 (p2.2.1 11 6) (p8.2.1 11 6)).bind fun p11 => some ((1 : Int32), p11))) else (some ((0 : Int32), p2.2)))) = some v from h) fun h => r_aload_n D_X6_readApart_0 rfl <| r_dup D_X6_readApart_1 rfl <| r_getI D_X6_readApart_2 fl_X6_36 s_11 rfl <| r_iconst D_X6_readApart_5 ki_1 <| r_iadd D_X6_readApart_6 <| r_putI D_X6_readApart_7 fp_X6_36 s_11 rfl rfl rfl <| mlE h fun M1 h => r_aload_n D_X6_readApart_10 rfl <| r_getR (j := 7) D_X6_readApart_11 fl_X6_24 s_11 rfl <| r_callV (av := []) D_X6_readApart_14 ml_X6_165 mf_X8_things mv_X8_things s_7 rfl rfl (x_X8_things trip_7 rfl) (Nat.le_of_ble_eq_true rfl) rfl rfl (Nat.le_of_ble_eq_true rfl) <| r_iconst D_X6_readApart_17 ki_1 <| r_isub D_X6_readApart_18 <| r_istore_n D_X6_readApart_19 (by decide) rfl <| r_aload_n D_X6_readApart_20 rfl <| r_iconst D_X6_readApart_21 ki_0 <| r_iload_n D_X6_readApart_22 rfl <| (bdE h).elim fun p2 q3 => let_h q3.2 fun h => r_callV (av := [.int (0 : Int32), .int ((f_X8_things M1 7) - (1 : Int32))]) D_X6_readApart_23 ml_X6_158 mf_X6_takeNumber mv_X6_takeNumber s_11 rfl rfl (x_X6_takeNumber q3.1) (Nat.le_of_ble_eq_true rfl) rfl rfl (Nat.le_of_ble_eq_true rfl) <| r_if_ne D_X6_readApart_26 (fun c4 => let_h (ifT c4 h) fun h => r_iconst D_X6_readApart_29 ki_0 <| r_zret hq D_X6_readApart_30 rfl rfl (rtW h)) (fun c4 => let_h (ifF c4 h) fun h => r_aload_n D_X6_readApart_31 rfl <| r_getI D_X6_readApart_32 fl_X6_162 s_11 rfl <| r_istore_n D_X6_readApart_35 (by decide) rfl <| r_aload_n D_X6_readApart_36 rfl <| r_bipush D_X6_readApart_37 k8_100 <| r_iload_n D_X6_readApart_39 rfl <| r_iadd D_X6_readApart_40 <| (bdE h).elim fun x5 q6 => let_h q6.2 fun h => r_callV (av := [.int ((100 : Int32) + (p2.2.1 11 6))]) D_X6_readApart_41 ml_X6_40 mf_X6_isNext mv_X6_isNext s_11 rfl rfl (x_X6_isNext q6.1) (Nat.le_of_ble_eq_true rfl) rfl rfl (Nat.le_of_ble_eq_true rfl) <| r_if_ne D_X6_readApart_44 (fun c7 => let_h (ifT c7 h) fun h => r_aload_n D_X6_readApart_47 rfl <| r_iconst D_X6_readApart_48 ki_0 <| r_iload_n D_X6_readApart_49 rfl <| (bdE h).elim fun p8 q9 => let_h q9.2 fun h => r_callV (av := [.int (0 : Int32), .int ((f_X8_things M1 7) - (1 : Int32))]) D_X6_readApart_50 ml_X6_158 mf_X6_takeNumber mv_X6_takeNumber s_11 rfl rfl (x_X6_takeNumber q9.1) (Nat.le_of_ble_eq_true rfl) rfl rfl (Nat.le_of_ble_eq_true rfl) <| r_if_ne D_X6_readApart_53 (fun c10 => let_h (ifT c10 h) fun h => r_iconst D_X6_readApart_56 ki_0 <| r_zret hq D_X6_readApart_57 rfl rfl (rtW h)) (fun c10 => let_h (ifF c10 h) fun h => r_aload_n D_X6_readApart_58 rfl <| r_getR (j := 7) D_X6_readApart_59 fl_X6_24 s_11 rfl <| r_iload_n D_X6_readApart_62 rfl <| r_aload_n D_X6_readApart_63 rfl <| r_getI D_X6_readApart_64 fl_X6_162 s_11 rfl <| (bdE h).elim fun p11 q12 => let_h q12.2 fun h => r_callV (av := [.int (p2.2.1 11 6), .int (p8.2.1 11 6)]) D_X6_readApart_67 ml_X6_168 mf_X8_setApart mv_X8_setApart s_7 rfl rfl (x_X8_setApart trip_7 q12.1) (Nat.le_of_ble_eq_true rfl) rfl rfl (Nat.le_of_ble_eq_true rfl) <| r_iconst D_X6_readApart_70 ki_1 <| r_zret hq D_X6_readApart_71 rfl rfl (rtW h))) (fun c7 => let_h (ifF c7 h) fun h => r_iconst D_X6_readApart_56 ki_0 <| r_zret hq D_X6_readApart_57 rfl rfl (rtW h)))
-- X8_hasRoomForDay
theorem D_X8_hasRoomForDay_0 : Dec mi_X8_hasRoomForDay 0 (.aload_n 0) 1 1 := ⟨by decide +kernel, rfl⟩
theorem D_X8_hasRoomForDay_1 : Dec mi_X8_hasRoomForDay 1 (.getfield 31) 3 4 := ⟨by decide +kernel, rfl⟩
theorem D_X8_hasRoomForDay_4 : DecJ mi_X8_hasRoomForDay 4 (.ifCond .lt 16) (16) 7 20 := ⟨by decide +kernel, rfl, by decide⟩
theorem D_X8_hasRoomForDay_7 : Dec mi_X8_hasRoomForDay 7 (.aload_n 0) 1 8 := ⟨by decide +kernel, rfl⟩
theorem D_X8_hasRoomForDay_8 : Dec mi_X8_hasRoomForDay 8 (.getfield 31) 3 11 := ⟨by decide +kernel, rfl⟩
theorem D_X8_hasRoomForDay_11 : Dec mi_X8_hasRoomForDay 11 (.bipush 8) 2 13 := ⟨by decide +kernel, rfl⟩
theorem D_X8_hasRoomForDay_13 : DecJ mi_X8_hasRoomForDay 13 (.if_icmp .ge 7) (7) 16 20 := ⟨by decide +kernel, rfl, by decide⟩
theorem D_X8_hasRoomForDay_16 : Dec mi_X8_hasRoomForDay 16 (.iconst 1) 1 17 := ⟨by decide +kernel, rfl⟩
theorem D_X8_hasRoomForDay_17 : DecJ mi_X8_hasRoomForDay 17 (.goto 4) (4) 20 21 := ⟨by decide +kernel, rfl, by decide⟩
theorem D_X8_hasRoomForDay_20 : Dec mi_X8_hasRoomForDay 20 (.iconst 0) 1 21 := ⟨by decide +kernel, rfl⟩
theorem D_X8_hasRoomForDay_21 : Dec mi_X8_hasRoomForDay 21 (.ireturn) 1 22 := ⟨by decide +kernel, rfl⟩
def f_X8_hasRoomForDay (M : Mem) (o : Nat) : Int32 := if (M.1 o 4) < 0 then ((0 : Int32)) else (if (8 : Int32) ≤ (M.1 o 4) then ((0 : Int32)) else ((1 : Int32)))
theorem x_X8_hasRoomForDay {l : Launch} {w : Wd} {M : Mem} {o : Nat} {v : Int32} (ho : isTrip o) (h : f_X8_hasRoomForDay M o = v) : Cn l w mi_X8_hasRoomForDay yX8_hasRoomForDay (0) [.ref (wq w o)] M (some (.int v), M) :=
  Cn_of (loc0 := [some (.ref (wq w o))]) rfl rfl rfl (Nat.le_of_ble_eq_true rfl) fun κ hq => let_h (show (if (M.1 o 4) < 0 then ((0 : Int32)) else (if (8 : Int32) ≤ (M.1 o 4) then ((0 : Int32)) else ((1 : Int32)))) = v from h) fun h => r_aload_n D_X8_hasRoomForDay_0 rfl <| r_getI D_X8_hasRoomForDay_1 fl_X8_31 ho.1 rfl <| r_if_lt D_X8_hasRoomForDay_4 (fun c1 => let_h (ifT c1 h) fun h => r_iconst D_X8_hasRoomForDay_20 ki_0 <| r_zret hq D_X8_hasRoomForDay_21 rfl rfl (rtT h)) (fun c1 => let_h (ifF c1 h) fun h => r_aload_n D_X8_hasRoomForDay_7 rfl <| r_getI D_X8_hasRoomForDay_8 fl_X8_31 ho.1 rfl <| r_bipush D_X8_hasRoomForDay_11 k8_8 <| r_icmp_ge D_X8_hasRoomForDay_13 (fun c2 => let_h (ifT c2 h) fun h => r_iconst D_X8_hasRoomForDay_20 ki_0 <| r_zret hq D_X8_hasRoomForDay_21 rfl rfl (rtT h)) (fun c2 => let_h (ifF c2 h) fun h => r_iconst D_X8_hasRoomForDay_16 ki_1 <| r_goto D_X8_hasRoomForDay_17 <| r_zret hq D_X8_hasRoomForDay_21 rfl rfl (rtT h)))
-- X8_setWant
theorem D_X8_setWant_0 : Dec mi_X8_setWant 0 (.aload_n 0) 1 1 := ⟨by decide +kernel, rfl⟩
theorem D_X8_setWant_1 : Dec mi_X8_setWant 1 (.invokevirtual 62) 3 4 := ⟨by decide +kernel, rfl⟩
theorem D_X8_setWant_4 : DecJ mi_X8_setWant 4 (.ifCond .eq 26) (26) 7 30 := ⟨by decide +kernel, rfl, by decide⟩
theorem D_X8_setWant_7 : Dec mi_X8_setWant 7 (.iload_n 1) 1 8 := ⟨by decide +kernel, rfl⟩
theorem D_X8_setWant_8 : DecJ mi_X8_setWant 8 (.ifCond .lt 22) (22) 11 30 := ⟨by decide +kernel, rfl, by decide⟩
theorem D_X8_setWant_11 : Dec mi_X8_setWant 11 (.iload_n 1) 1 12 := ⟨by decide +kernel, rfl⟩
theorem D_X8_setWant_12 : Dec mi_X8_setWant 12 (.iconst 4) 1 13 := ⟨by decide +kernel, rfl⟩
theorem D_X8_setWant_13 : DecJ mi_X8_setWant 13 (.if_icmp .ge 17) (17) 16 30 := ⟨by decide +kernel, rfl, by decide⟩
theorem D_X8_setWant_16 : Dec mi_X8_setWant 16 (.aload_n 0) 1 17 := ⟨by decide +kernel, rfl⟩
theorem D_X8_setWant_17 : Dec mi_X8_setWant 17 (.getfield 15) 3 20 := ⟨by decide +kernel, rfl⟩
theorem D_X8_setWant_20 : Dec mi_X8_setWant 20 (.aload_n 0) 1 21 := ⟨by decide +kernel, rfl⟩
theorem D_X8_setWant_21 : Dec mi_X8_setWant 21 (.getfield 31) 3 24 := ⟨by decide +kernel, rfl⟩
theorem D_X8_setWant_24 : Dec mi_X8_setWant 24 (.iconst 4) 1 25 := ⟨by decide +kernel, rfl⟩
theorem D_X8_setWant_25 : Dec mi_X8_setWant 25 (.imul) 1 26 := ⟨by decide +kernel, rfl⟩
theorem D_X8_setWant_26 : Dec mi_X8_setWant 26 (.iload_n 1) 1 27 := ⟨by decide +kernel, rfl⟩
theorem D_X8_setWant_27 : Dec mi_X8_setWant 27 (.iadd) 1 28 := ⟨by decide +kernel, rfl⟩
theorem D_X8_setWant_28 : Dec mi_X8_setWant 28 (.iload_n 2) 1 29 := ⟨by decide +kernel, rfl⟩
theorem D_X8_setWant_29 : Dec mi_X8_setWant 29 (.iastore) 1 30 := ⟨by decide +kernel, rfl⟩
theorem D_X8_setWant_30 : Dec mi_X8_setWant 30 (.return_) 1 31 := ⟨by decide +kernel, rfl⟩
def f_X8_setWant (M : Mem) (o : Nat) (a1 : Int32) (a2 : Int32) : Option Mem := if (f_X8_hasRoomForDay M o) = 0 then (some M) else (if a1 < 0 then (some M) else (if (4 : Int32) ≤ a1 then (some M) else (if ck (((M.1 o 4) * (4 : Int32)) + a1) 32 = true then (vlet (setI M (o + 2) (((M.1 o 4) * (4 : Int32)) + a1).toNatClampNeg a2) fun M5 => some M5) else none)))
theorem x_X8_setWant {l : Launch} {w : Wd} {M : Mem} {o : Nat} {a1 : Int32} {a2 : Int32} {v : Mem} (ho : isTrip o) (h : f_X8_setWant M o a1 a2 = some v) : Cn l w mi_X8_setWant yX8_setWant (1) [.ref (wq w o), .int a1, .int a2] M (none, v) :=
  Cn_of (loc0 := [some (.ref (wq w o)), some (.int a1), some (.int a2)]) rfl rfl rfl (Nat.le_of_ble_eq_true rfl) fun κ hq => let_h (show (if (f_X8_hasRoomForDay M o) = 0 then (some M) else (if a1 < 0 then (some M) else (if (4 : Int32) ≤ a1 then (some M) else (if ck (((M.1 o 4) * (4 : Int32)) + a1) 32 = true then (vlet (setI M (o + 2) (((M.1 o 4) * (4 : Int32)) + a1).toNatClampNeg a2) fun M5 => some M5) else none)))) = some v from h) fun h => r_aload_n D_X8_setWant_0 rfl <| r_callV (av := []) D_X8_setWant_1 ml_X8_62 mf_X8_hasRoomForDay mv_X8_hasRoomForDay ho.1 rfl rfl (x_X8_hasRoomForDay ho rfl) (Nat.le_of_ble_eq_true rfl) rfl rfl (Nat.le_of_ble_eq_true rfl) <| r_if_eq D_X8_setWant_4 (fun c1 => let_h (ifT c1 h) fun h => r_vret hq D_X8_setWant_30 rfl (rtV h)) (fun c1 => let_h (ifF c1 h) fun h => r_iload_n D_X8_setWant_7 rfl <| r_if_lt D_X8_setWant_8 (fun c2 => let_h (ifT c2 h) fun h => r_vret hq D_X8_setWant_30 rfl (rtV h)) (fun c2 => let_h (ifF c2 h) fun h => r_iload_n D_X8_setWant_11 rfl <| r_iconst D_X8_setWant_12 ki_4 <| r_icmp_ge D_X8_setWant_13 (fun c3 => let_h (ifT c3 h) fun h => r_vret hq D_X8_setWant_30 rfl (rtV h)) (fun c3 => let_h (ifF c3 h) fun h => r_aload_n D_X8_setWant_16 rfl <| r_getR (j := (o + 2)) D_X8_setWant_17 fl_X8_15 ho.1 rfl <| r_aload_n D_X8_setWant_20 rfl <| r_getI D_X8_setWant_21 fl_X8_31 ho.1 rfl <| r_iconst D_X8_setWant_24 ki_4 <| r_imul D_X8_setWant_25 <| r_iload_n D_X8_setWant_26 rfl <| r_iadd D_X8_setWant_27 <| r_iload_n D_X8_setWant_28 rfl <| (ckE h).elim fun c4 h => r_iast D_X8_setWant_29 ho.2.2.1 c4 <| mlE h fun M5 h => r_vret hq D_X8_setWant_30 rfl (rtV h))))
-- X6_readWant
theorem D_X6_readWant_0 : Dec mi_X6_readWant 0 (.aload_n 0) 1 1 := ⟨by decide +kernel, rfl⟩
theorem D_X6_readWant_1 : Dec mi_X6_readWant 1 (.iconst 0) 1 2 := ⟨by decide +kernel, rfl⟩
theorem D_X6_readWant_2 : Dec mi_X6_readWant 2 (.iload_n 2) 1 3 := ⟨by decide +kernel, rfl⟩
theorem D_X6_readWant_3 : Dec mi_X6_readWant 3 (.invokevirtual 158) 3 6 := ⟨by decide +kernel, rfl⟩
theorem D_X6_readWant_6 : DecJ mi_X6_readWant 6 (.ifCond .ne 5) (5) 9 11 := ⟨by decide +kernel, rfl, by decide⟩
theorem D_X6_readWant_9 : Dec mi_X6_readWant 9 (.iconst 0) 1 10 := ⟨by decide +kernel, rfl⟩
theorem D_X6_readWant_10 : Dec mi_X6_readWant 10 (.ireturn) 1 11 := ⟨by decide +kernel, rfl⟩
theorem D_X6_readWant_11 : Dec mi_X6_readWant 11 (.aload_n 0) 1 12 := ⟨by decide +kernel, rfl⟩
theorem D_X6_readWant_12 : Dec mi_X6_readWant 12 (.getfield 24) 3 15 := ⟨by decide +kernel, rfl⟩
theorem D_X6_readWant_15 : Dec mi_X6_readWant 15 (.iload_n 1) 1 16 := ⟨by decide +kernel, rfl⟩
theorem D_X6_readWant_16 : Dec mi_X6_readWant 16 (.aload_n 0) 1 17 := ⟨by decide +kernel, rfl⟩
theorem D_X6_readWant_17 : Dec mi_X6_readWant 17 (.getfield 162) 3 20 := ⟨by decide +kernel, rfl⟩
theorem D_X6_readWant_20 : Dec mi_X6_readWant 20 (.invokevirtual 177) 3 23 := ⟨by decide +kernel, rfl⟩
theorem D_X6_readWant_23 : Dec mi_X6_readWant 23 (.iconst 1) 1 24 := ⟨by decide +kernel, rfl⟩
theorem D_X6_readWant_24 : Dec mi_X6_readWant 24 (.ireturn) 1 25 := ⟨by decide +kernel, rfl⟩
def f_X6_readWant (M : Mem) (a1 : Int32) (a2 : Int32) : Option (Int32 × Mem) := (f_X6_takeNumber M (0 : Int32) a2).bind fun p1 => if p1.1 = 0 then (some ((0 : Int32), p1.2)) else ((f_X8_setWant p1.2 7 a1 (p1.2.1 11 6)).bind fun p4 => some ((1 : Int32), p4))
theorem x_X6_readWant {l : Launch} {w : Wd} {M : Mem} {a1 : Int32} {a2 : Int32} {v : Int32 × Mem} (h : f_X6_readWant M a1 a2 = some v) : Cn l w mi_X6_readWant yX6_readWant (2) [.ref (wq w 11), .int a1, .int a2] M (some (.int v.1), v.2) :=
  Cn_of (loc0 := [some (.ref (wq w 11)), some (.int a1), some (.int a2)]) rfl rfl rfl (Nat.le_of_ble_eq_true rfl) fun κ hq => let_h (show ((f_X6_takeNumber M (0 : Int32) a2).bind fun p1 => if p1.1 = 0 then (some ((0 : Int32), p1.2)) else ((f_X8_setWant p1.2 7 a1 (p1.2.1 11 6)).bind fun p4 => some ((1 : Int32), p4))) = some v from h) fun h => r_aload_n D_X6_readWant_0 rfl <| r_iconst D_X6_readWant_1 ki_0 <| r_iload_n D_X6_readWant_2 rfl <| (bdE h).elim fun p1 q2 => let_h q2.2 fun h => r_callV (av := [.int (0 : Int32), .int a2]) D_X6_readWant_3 ml_X6_158 mf_X6_takeNumber mv_X6_takeNumber s_11 rfl rfl (x_X6_takeNumber q2.1) (Nat.le_of_ble_eq_true rfl) rfl rfl (Nat.le_of_ble_eq_true rfl) <| r_if_ne D_X6_readWant_6 (fun c3 => let_h (ifT c3 h) fun h => r_iconst D_X6_readWant_9 ki_0 <| r_zret hq D_X6_readWant_10 rfl rfl (rtW h)) (fun c3 => let_h (ifF c3 h) fun h => r_aload_n D_X6_readWant_11 rfl <| r_getR (j := 7) D_X6_readWant_12 fl_X6_24 s_11 rfl <| r_iload_n D_X6_readWant_15 rfl <| r_aload_n D_X6_readWant_16 rfl <| r_getI D_X6_readWant_17 fl_X6_162 s_11 rfl <| (bdE h).elim fun p4 q5 => let_h q5.2 fun h => r_callV (av := [.int a1, .int (p1.2.1 11 6)]) D_X6_readWant_20 ml_X6_177 mf_X8_setWant mv_X8_setWant s_7 rfl rfl (x_X8_setWant trip_7 q5.1) (Nat.le_of_ble_eq_true rfl) rfl rfl (Nat.le_of_ble_eq_true rfl) <| r_iconst D_X6_readWant_23 ki_1 <| r_zret hq D_X6_readWant_24 rfl rfl (rtW h))
-- X9_isUnsure
theorem D_X9_isUnsure_0 : Dec mi_X9_isUnsure 0 (.iload_n 0) 1 1 := ⟨by decide +kernel, rfl⟩
theorem D_X9_isUnsure_1 : DecJ mi_X9_isUnsure 1 (.ifCond .le 13) (13) 4 14 := ⟨by decide +kernel, rfl, by decide⟩
theorem D_X9_isUnsure_4 : Dec mi_X9_isUnsure 4 (.iload_n 0) 1 5 := ⟨by decide +kernel, rfl⟩
theorem D_X9_isUnsure_5 : Dec mi_X9_isUnsure 5 (.bipush 10) 2 7 := ⟨by decide +kernel, rfl⟩
theorem D_X9_isUnsure_7 : DecJ mi_X9_isUnsure 7 (.if_icmp .ge 7) (7) 10 14 := ⟨by decide +kernel, rfl, by decide⟩
theorem D_X9_isUnsure_10 : Dec mi_X9_isUnsure 10 (.iconst 1) 1 11 := ⟨by decide +kernel, rfl⟩
theorem D_X9_isUnsure_11 : DecJ mi_X9_isUnsure 11 (.goto 4) (4) 14 15 := ⟨by decide +kernel, rfl, by decide⟩
theorem D_X9_isUnsure_14 : Dec mi_X9_isUnsure 14 (.iconst 0) 1 15 := ⟨by decide +kernel, rfl⟩
theorem D_X9_isUnsure_15 : Dec mi_X9_isUnsure 15 (.ireturn) 1 16 := ⟨by decide +kernel, rfl⟩
def f_X9_isUnsure (M : Mem) (a1 : Int32) : Int32 := if a1 ≤ 0 then ((0 : Int32)) else (if (10 : Int32) ≤ a1 then ((0 : Int32)) else ((1 : Int32)))
theorem x_X9_isUnsure {l : Launch} {w : Wd} {M : Mem} {a1 : Int32} {v : Int32} (h : f_X9_isUnsure M a1 = v) : Cn l w mi_X9_isUnsure yX9_isUnsure (0) [.int a1] M (some (.int v), M) :=
  Cn_of (loc0 := [some (.int a1)]) rfl rfl rfl (Nat.le_of_ble_eq_true rfl) fun κ hq => let_h (show (if a1 ≤ 0 then ((0 : Int32)) else (if (10 : Int32) ≤ a1 then ((0 : Int32)) else ((1 : Int32)))) = v from h) fun h => r_iload_n D_X9_isUnsure_0 rfl <| r_if_le D_X9_isUnsure_1 (fun c1 => let_h (ifT c1 h) fun h => r_iconst D_X9_isUnsure_14 ki_0 <| r_zret hq D_X9_isUnsure_15 rfl rfl (rtT h)) (fun c1 => let_h (ifF c1 h) fun h => r_iload_n D_X9_isUnsure_4 rfl <| r_bipush D_X9_isUnsure_5 k8_10 <| r_icmp_ge D_X9_isUnsure_7 (fun c2 => let_h (ifT c2 h) fun h => r_iconst D_X9_isUnsure_14 ki_0 <| r_zret hq D_X9_isUnsure_15 rfl rfl (rtT h)) (fun c2 => let_h (ifF c2 h) fun h => r_iconst D_X9_isUnsure_10 ki_1 <| r_goto D_X9_isUnsure_11 <| r_zret hq D_X9_isUnsure_15 rfl rfl (rtT h)))
-- X8_unsureDays
theorem D_X8_unsureDays_0 : Dec mi_X8_unsureDays 0 (.aload_n 0) 1 1 := ⟨by decide +kernel, rfl⟩
theorem D_X8_unsureDays_1 : Dec mi_X8_unsureDays 1 (.getfield 34) 3 4 := ⟨by decide +kernel, rfl⟩
theorem D_X8_unsureDays_4 : Dec mi_X8_unsureDays 4 (.ireturn) 1 5 := ⟨by decide +kernel, rfl⟩
def f_X8_unsureDays (M : Mem) (o : Nat) : Int32 := (M.1 o 5)
theorem x_X8_unsureDays {l : Launch} {w : Wd} {M : Mem} {o : Nat} {v : Int32} (ho : isTrip o) (h : f_X8_unsureDays M o = v) : Cn l w mi_X8_unsureDays yX8_unsureDays (0) [.ref (wq w o)] M (some (.int v), M) :=
  Cn_of (loc0 := [some (.ref (wq w o))]) rfl rfl rfl (Nat.le_of_ble_eq_true rfl) fun κ hq => let_h (show ((M.1 o 5)) = v from h) fun h => r_aload_n D_X8_unsureDays_0 rfl <| r_getI D_X8_unsureDays_1 fl_X8_34 ho.1 rfl <| r_iret hq D_X8_unsureDays_4 rfl (rtT h)
-- X6_readRain
theorem D_X6_readRain_0 : Dec mi_X6_readRain 0 (.aload_n 0) 1 1 := ⟨by decide +kernel, rfl⟩
theorem D_X6_readRain_1 : Dec mi_X6_readRain 1 (.invokevirtual 148) 3 4 := ⟨by decide +kernel, rfl⟩
theorem D_X6_readRain_4 : Dec mi_X6_readRain 4 (.bipush 100) 2 6 := ⟨by decide +kernel, rfl⟩
theorem D_X6_readRain_6 : Dec mi_X6_readRain 6 (.isub) 1 7 := ⟨by decide +kernel, rfl⟩
theorem D_X6_readRain_7 : Dec mi_X6_readRain 7 (.invokestatic 183) 3 10 := ⟨by decide +kernel, rfl⟩
theorem D_X6_readRain_10 : DecJ mi_X6_readRain 10 (.ifCond .eq 18) (18) 13 28 := ⟨by decide +kernel, rfl, by decide⟩
theorem D_X6_readRain_13 : Dec mi_X6_readRain 13 (.aload_n 0) 1 14 := ⟨by decide +kernel, rfl⟩
theorem D_X6_readRain_14 : Dec mi_X6_readRain 14 (.getfield 24) 3 17 := ⟨by decide +kernel, rfl⟩
theorem D_X6_readRain_17 : Dec mi_X6_readRain 17 (.invokevirtual 186) 3 20 := ⟨by decide +kernel, rfl⟩
theorem D_X6_readRain_20 : Dec mi_X6_readRain 20 (.iconst 4) 1 21 := ⟨by decide +kernel, rfl⟩
theorem D_X6_readRain_21 : DecJ mi_X6_readRain 21 (.if_icmp .lt 7) (7) 24 28 := ⟨by decide +kernel, rfl, by decide⟩
theorem D_X6_readRain_24 : Dec mi_X6_readRain 24 (.iconst 1) 1 25 := ⟨by decide +kernel, rfl⟩
theorem D_X6_readRain_25 : DecJ mi_X6_readRain 25 (.goto 4) (4) 28 29 := ⟨by decide +kernel, rfl, by decide⟩
theorem D_X6_readRain_28 : Dec mi_X6_readRain 28 (.iconst 0) 1 29 := ⟨by decide +kernel, rfl⟩
theorem D_X6_readRain_29 : Dec mi_X6_readRain 29 (.istore_n 1) 1 30 := ⟨by decide +kernel, rfl⟩
theorem D_X6_readRain_30 : Dec mi_X6_readRain 30 (.iload_n 1) 1 31 := ⟨by decide +kernel, rfl⟩
theorem D_X6_readRain_31 : DecJ mi_X6_readRain 31 (.ifCond .ne 17) (17) 34 48 := ⟨by decide +kernel, rfl, by decide⟩
theorem D_X6_readRain_34 : Dec mi_X6_readRain 34 (.aload_n 0) 1 35 := ⟨by decide +kernel, rfl⟩
theorem D_X6_readRain_35 : Dec mi_X6_readRain 35 (.iconst 3) 1 36 := ⟨by decide +kernel, rfl⟩
theorem D_X6_readRain_36 : Dec mi_X6_readRain 36 (.bipush 10) 2 38 := ⟨by decide +kernel, rfl⟩
theorem D_X6_readRain_38 : Dec mi_X6_readRain 38 (.invokevirtual 174) 3 41 := ⟨by decide +kernel, rfl⟩
theorem D_X6_readRain_41 : DecJ mi_X6_readRain 41 (.ifCond .eq 7) (7) 44 48 := ⟨by decide +kernel, rfl, by decide⟩
theorem D_X6_readRain_44 : Dec mi_X6_readRain 44 (.iconst 1) 1 45 := ⟨by decide +kernel, rfl⟩
theorem D_X6_readRain_45 : DecJ mi_X6_readRain 45 (.goto 4) (4) 48 49 := ⟨by decide +kernel, rfl, by decide⟩
theorem D_X6_readRain_48 : Dec mi_X6_readRain 48 (.iconst 0) 1 49 := ⟨by decide +kernel, rfl⟩
theorem D_X6_readRain_49 : Dec mi_X6_readRain 49 (.ireturn) 1 50 := ⟨by decide +kernel, rfl⟩
def f_X6_readRain (M : Mem) : Option (Int32 × Mem) := (f_X6_codeOfNext M).bind fun x1 => if (f_X9_isUnsure M (x1 - (100 : Int32))) = 0 then (if (0 : Int32) = 0 then ((f_X6_readWant M (3 : Int32) (10 : Int32)).bind fun p5 => if p5.1 = 0 then (some ((0 : Int32), p5.2)) else (some ((1 : Int32), p5.2))) else (some ((0 : Int32), M))) else (if (f_X8_unsureDays M 7) < (4 : Int32) then (if (0 : Int32) = 0 then ((f_X6_readWant M (3 : Int32) (10 : Int32)).bind fun p10 => if p10.1 = 0 then (some ((0 : Int32), p10.2)) else (some ((1 : Int32), p10.2))) else (some ((0 : Int32), M))) else (if (1 : Int32) = 0 then ((f_X6_readWant M (3 : Int32) (10 : Int32)).bind fun p14 => if p14.1 = 0 then (some ((0 : Int32), p14.2)) else (some ((1 : Int32), p14.2))) else (some ((0 : Int32), M))))
theorem x_X6_readRain {l : Launch} {w : Wd} {M : Mem} {v : Int32 × Mem} (h : f_X6_readRain M = some v) : Cn l w mi_X6_readRain yX6_readRain (3) [.ref (wq w 11)] M (some (.int v.1), v.2) :=
  Cn_of (loc0 := [some (.ref (wq w 11)), none]) rfl rfl rfl (Nat.le_of_ble_eq_true rfl) fun κ hq => let_h (show ((f_X6_codeOfNext M).bind fun x1 => if (f_X9_isUnsure M (x1 - (100 : Int32))) = 0 then (if (0 : Int32) = 0 then ((f_X6_readWant M (3 : Int32) (10 : Int32)).bind fun p5 => if p5.1 = 0 then (some ((0 : Int32), p5.2)) else (some ((1 : Int32), p5.2))) else (some ((0 : Int32), M))) else (if (f_X8_unsureDays M 7) < (4 : Int32) then (if (0 : Int32) = 0 then ((f_X6_readWant M (3 : Int32) (10 : Int32)).bind fun p10 => if p10.1 = 0 then (some ((0 : Int32), p10.2)) else (some ((1 : Int32), p10.2))) else (some ((0 : Int32), M))) else (if (1 : Int32) = 0 then ((f_X6_readWant M (3 : Int32) (10 : Int32)).bind fun p14 => if p14.1 = 0 then (some ((0 : Int32), p14.2)) else (some ((1 : Int32), p14.2))) else (some ((0 : Int32), M))))) = some v from h) fun h => r_aload_n D_X6_readRain_0 rfl <| (bdE h).elim fun x1 q2 => let_h q2.2 fun h => r_callV (av := []) D_X6_readRain_1 ml_X6_148 mf_X6_codeOfNext mv_X6_codeOfNext s_11 rfl rfl (x_X6_codeOfNext q2.1) (Nat.le_of_ble_eq_true rfl) rfl rfl (Nat.le_of_ble_eq_true rfl) <| r_bipush D_X6_readRain_4 k8_100 <| r_isub D_X6_readRain_6 <| r_callN (av := [.int (x1 - (100 : Int32))]) D_X6_readRain_7 nl_X6_183 mf_X9_isUnsure ms_X9_isUnsure (x_X9_isUnsure rfl) (Nat.le_of_ble_eq_true rfl) rfl rfl (Nat.le_of_ble_eq_true rfl) <| r_if_eq D_X6_readRain_10 (fun c3 => let_h (ifT c3 h) fun h => r_iconst D_X6_readRain_28 ki_0 <| r_istore_n D_X6_readRain_29 (by decide) rfl <| r_iload_n D_X6_readRain_30 rfl <| r_if_ne D_X6_readRain_31 (fun c4 => let_h (ifT c4 h) fun h => r_aload_n D_X6_readRain_34 rfl <| r_iconst D_X6_readRain_35 ki_3 <| r_bipush D_X6_readRain_36 k8_10 <| (bdE h).elim fun p5 q6 => let_h q6.2 fun h => r_callV (av := [.int (3 : Int32), .int (10 : Int32)]) D_X6_readRain_38 ml_X6_174 mf_X6_readWant mv_X6_readWant s_11 rfl rfl (x_X6_readWant q6.1) (Nat.le_of_ble_eq_true rfl) rfl rfl (Nat.le_of_ble_eq_true rfl) <| r_if_eq D_X6_readRain_41 (fun c7 => let_h (ifT c7 h) fun h => r_iconst D_X6_readRain_48 ki_0 <| r_zret hq D_X6_readRain_49 rfl rfl (rtW h)) (fun c7 => let_h (ifF c7 h) fun h => r_iconst D_X6_readRain_44 ki_1 <| r_goto D_X6_readRain_45 <| r_zret hq D_X6_readRain_49 rfl rfl (rtW h))) (fun c4 => let_h (ifF c4 h) fun h => r_iconst D_X6_readRain_48 ki_0 <| r_zret hq D_X6_readRain_49 rfl rfl (rtW h))) (fun c3 => let_h (ifF c3 h) fun h => r_aload_n D_X6_readRain_13 rfl <| r_getR (j := 7) D_X6_readRain_14 fl_X6_24 s_11 rfl <| r_callV (av := []) D_X6_readRain_17 ml_X6_186 mf_X8_unsureDays mv_X8_unsureDays s_7 rfl rfl (x_X8_unsureDays trip_7 rfl) (Nat.le_of_ble_eq_true rfl) rfl rfl (Nat.le_of_ble_eq_true rfl) <| r_iconst D_X6_readRain_20 ki_4 <| r_icmp_lt D_X6_readRain_21 (fun c8 => let_h (ifT c8 h) fun h => r_iconst D_X6_readRain_28 ki_0 <| r_istore_n D_X6_readRain_29 (by decide) rfl <| r_iload_n D_X6_readRain_30 rfl <| r_if_ne D_X6_readRain_31 (fun c9 => let_h (ifT c9 h) fun h => r_aload_n D_X6_readRain_34 rfl <| r_iconst D_X6_readRain_35 ki_3 <| r_bipush D_X6_readRain_36 k8_10 <| (bdE h).elim fun p10 q11 => let_h q11.2 fun h => r_callV (av := [.int (3 : Int32), .int (10 : Int32)]) D_X6_readRain_38 ml_X6_174 mf_X6_readWant mv_X6_readWant s_11 rfl rfl (x_X6_readWant q11.1) (Nat.le_of_ble_eq_true rfl) rfl rfl (Nat.le_of_ble_eq_true rfl) <| r_if_eq D_X6_readRain_41 (fun c12 => let_h (ifT c12 h) fun h => r_iconst D_X6_readRain_48 ki_0 <| r_zret hq D_X6_readRain_49 rfl rfl (rtW h)) (fun c12 => let_h (ifF c12 h) fun h => r_iconst D_X6_readRain_44 ki_1 <| r_goto D_X6_readRain_45 <| r_zret hq D_X6_readRain_49 rfl rfl (rtW h))) (fun c9 => let_h (ifF c9 h) fun h => r_iconst D_X6_readRain_48 ki_0 <| r_zret hq D_X6_readRain_49 rfl rfl (rtW h))) (fun c8 => let_h (ifF c8 h) fun h => r_iconst D_X6_readRain_24 ki_1 <| r_goto D_X6_readRain_25 <| r_istore_n D_X6_readRain_29 (by decide) rfl <| r_iload_n D_X6_readRain_30 rfl <| r_if_ne D_X6_readRain_31 (fun c13 => let_h (ifT c13 h) fun h => r_aload_n D_X6_readRain_34 rfl <| r_iconst D_X6_readRain_35 ki_3 <| r_bipush D_X6_readRain_36 k8_10 <| (bdE h).elim fun p14 q15 => let_h q15.2 fun h => r_callV (av := [.int (3 : Int32), .int (10 : Int32)]) D_X6_readRain_38 ml_X6_174 mf_X6_readWant mv_X6_readWant s_11 rfl rfl (x_X6_readWant q15.1) (Nat.le_of_ble_eq_true rfl) rfl rfl (Nat.le_of_ble_eq_true rfl) <| r_if_eq D_X6_readRain_41 (fun c16 => let_h (ifT c16 h) fun h => r_iconst D_X6_readRain_48 ki_0 <| r_zret hq D_X6_readRain_49 rfl rfl (rtW h)) (fun c16 => let_h (ifF c16 h) fun h => r_iconst D_X6_readRain_44 ki_1 <| r_goto D_X6_readRain_45 <| r_zret hq D_X6_readRain_49 rfl rfl (rtW h))) (fun c13 => let_h (ifF c13 h) fun h => r_iconst D_X6_readRain_48 ki_0 <| r_zret hq D_X6_readRain_49 rfl rfl (rtW h))))
-- X6_readDay
theorem D_X6_readDay_0 : Dec mi_X6_readDay 0 (.aload_n 0) 1 1 := ⟨by decide +kernel, rfl⟩
theorem D_X6_readDay_1 : Dec mi_X6_readDay 1 (.getfield 24) 3 4 := ⟨by decide +kernel, rfl⟩
theorem D_X6_readDay_4 : Dec mi_X6_readDay 4 (.invokevirtual 171) 3 7 := ⟨by decide +kernel, rfl⟩
theorem D_X6_readDay_7 : DecJ mi_X6_readDay 7 (.ifCond .ne 5) (5) 10 12 := ⟨by decide +kernel, rfl, by decide⟩
theorem D_X6_readDay_10 : Dec mi_X6_readDay 10 (.iconst 0) 1 11 := ⟨by decide +kernel, rfl⟩
theorem D_X6_readDay_11 : Dec mi_X6_readDay 11 (.ireturn) 1 12 := ⟨by decide +kernel, rfl⟩
theorem D_X6_readDay_12 : Dec mi_X6_readDay 12 (.aload_n 0) 1 13 := ⟨by decide +kernel, rfl⟩
theorem D_X6_readDay_13 : Dec mi_X6_readDay 13 (.dup) 1 14 := ⟨by decide +kernel, rfl⟩
theorem D_X6_readDay_14 : Dec mi_X6_readDay 14 (.getfield 36) 3 17 := ⟨by decide +kernel, rfl⟩
theorem D_X6_readDay_17 : Dec mi_X6_readDay 17 (.iconst 1) 1 18 := ⟨by decide +kernel, rfl⟩
theorem D_X6_readDay_18 : Dec mi_X6_readDay 18 (.iadd) 1 19 := ⟨by decide +kernel, rfl⟩
theorem D_X6_readDay_19 : Dec mi_X6_readDay 19 (.putfield 36) 3 22 := ⟨by decide +kernel, rfl⟩
theorem D_X6_readDay_22 : Dec mi_X6_readDay 22 (.aload_n 0) 1 23 := ⟨by decide +kernel, rfl⟩
theorem D_X6_readDay_23 : Dec mi_X6_readDay 23 (.iconst 0) 1 24 := ⟨by decide +kernel, rfl⟩
theorem D_X6_readDay_24 : Dec mi_X6_readDay 24 (.bipush 27) 2 26 := ⟨by decide +kernel, rfl⟩
theorem D_X6_readDay_26 : Dec mi_X6_readDay 26 (.invokevirtual 174) 3 29 := ⟨by decide +kernel, rfl⟩
theorem D_X6_readDay_29 : DecJ mi_X6_readDay 29 (.ifCond .eq 13) (13) 32 42 := ⟨by decide +kernel, rfl, by decide⟩
theorem D_X6_readDay_32 : Dec mi_X6_readDay 32 (.aload_n 0) 1 33 := ⟨by decide +kernel, rfl⟩
theorem D_X6_readDay_33 : Dec mi_X6_readDay 33 (.iconst 1) 1 34 := ⟨by decide +kernel, rfl⟩
theorem D_X6_readDay_34 : Dec mi_X6_readDay 34 (.bipush 9) 2 36 := ⟨by decide +kernel, rfl⟩
theorem D_X6_readDay_36 : Dec mi_X6_readDay 36 (.invokevirtual 174) 3 39 := ⟨by decide +kernel, rfl⟩
theorem D_X6_readDay_39 : DecJ mi_X6_readDay 39 (.ifCond .ne 5) (5) 42 44 := ⟨by decide +kernel, rfl, by decide⟩
theorem D_X6_readDay_42 : Dec mi_X6_readDay 42 (.iconst 0) 1 43 := ⟨by decide +kernel, rfl⟩
theorem D_X6_readDay_43 : Dec mi_X6_readDay 43 (.ireturn) 1 44 := ⟨by decide +kernel, rfl⟩
theorem D_X6_readDay_44 : Dec mi_X6_readDay 44 (.aload_n 0) 1 45 := ⟨by decide +kernel, rfl⟩
theorem D_X6_readDay_45 : Dec mi_X6_readDay 45 (.getfield 24) 3 48 := ⟨by decide +kernel, rfl⟩
theorem D_X6_readDay_48 : Dec mi_X6_readDay 48 (.iconst 2) 1 49 := ⟨by decide +kernel, rfl⟩
theorem D_X6_readDay_49 : Dec mi_X6_readDay 49 (.aload_n 0) 1 50 := ⟨by decide +kernel, rfl⟩
theorem D_X6_readDay_50 : Dec mi_X6_readDay 50 (.bipush 6) 2 52 := ⟨by decide +kernel, rfl⟩
theorem D_X6_readDay_52 : Dec mi_X6_readDay 52 (.invokevirtual 126) 3 55 := ⟨by decide +kernel, rfl⟩
theorem D_X6_readDay_55 : DecJ mi_X6_readDay 55 (.ifCond .eq 7) (7) 58 62 := ⟨by decide +kernel, rfl, by decide⟩
theorem D_X6_readDay_58 : Dec mi_X6_readDay 58 (.iconst 1) 1 59 := ⟨by decide +kernel, rfl⟩
theorem D_X6_readDay_59 : DecJ mi_X6_readDay 59 (.goto 4) (4) 62 63 := ⟨by decide +kernel, rfl, by decide⟩
theorem D_X6_readDay_62 : Dec mi_X6_readDay 62 (.iconst 0) 1 63 := ⟨by decide +kernel, rfl⟩
theorem D_X6_readDay_63 : Dec mi_X6_readDay 63 (.invokevirtual 177) 3 66 := ⟨by decide +kernel, rfl⟩
theorem D_X6_readDay_66 : Dec mi_X6_readDay 66 (.aload_n 0) 1 67 := ⟨by decide +kernel, rfl⟩
theorem D_X6_readDay_67 : Dec mi_X6_readDay 67 (.bipush 7) 2 69 := ⟨by decide +kernel, rfl⟩
theorem D_X6_readDay_69 : Dec mi_X6_readDay 69 (.invokevirtual 126) 3 72 := ⟨by decide +kernel, rfl⟩
theorem D_X6_readDay_72 : DecJ mi_X6_readDay 72 (.ifCond .eq 10) (10) 75 82 := ⟨by decide +kernel, rfl, by decide⟩
theorem D_X6_readDay_75 : Dec mi_X6_readDay 75 (.aload_n 0) 1 76 := ⟨by decide +kernel, rfl⟩
theorem D_X6_readDay_76 : Dec mi_X6_readDay 76 (.invokevirtual 180) 3 79 := ⟨by decide +kernel, rfl⟩
theorem D_X6_readDay_79 : DecJ mi_X6_readDay 79 (.ifCond .eq 7) (7) 82 86 := ⟨by decide +kernel, rfl, by decide⟩
theorem D_X6_readDay_82 : Dec mi_X6_readDay 82 (.iconst 1) 1 83 := ⟨by decide +kernel, rfl⟩
theorem D_X6_readDay_83 : DecJ mi_X6_readDay 83 (.goto 4) (4) 86 87 := ⟨by decide +kernel, rfl, by decide⟩
theorem D_X6_readDay_86 : Dec mi_X6_readDay 86 (.iconst 0) 1 87 := ⟨by decide +kernel, rfl⟩
theorem D_X6_readDay_87 : Dec mi_X6_readDay 87 (.ireturn) 1 88 := ⟨by decide +kernel, rfl⟩
def f_X6_readDay (M : Mem) : Option (Int32 × Mem) := if (f_X8_hasRoomForDay M 7) = 0 then (some ((0 : Int32), M)) else (vlet (setI M 11 5 ((M.1 11 5) + (1 : Int32))) fun M2 => (f_X6_readWant M2 (0 : Int32) (27 : Int32)).bind fun p3 => if p3.1 = 0 then (some ((0 : Int32), p3.2)) else ((f_X6_readWant p3.2 (1 : Int32) (9 : Int32)).bind fun p6 => if p6.1 = 0 then (some ((0 : Int32), p6.2)) else ((f_X6_take p6.2 (6 : Int32)).bind fun p9 => if p9.1 = 0 then ((f_X8_setWant p9.2 7 (2 : Int32) (0 : Int32)).bind fun p12 => (f_X6_take p12 (7 : Int32)).bind fun p14 => if p14.1 = 0 then (some ((1 : Int32), p14.2)) else ((f_X6_readRain p14.2).bind fun p17 => if p17.1 = 0 then (some ((0 : Int32), p17.2)) else (some ((1 : Int32), p17.2)))) else ((f_X8_setWant p9.2 7 (2 : Int32) (1 : Int32)).bind fun p20 => (f_X6_take p20 (7 : Int32)).bind fun p22 => if p22.1 = 0 then (some ((1 : Int32), p22.2)) else ((f_X6_readRain p22.2).bind fun p25 => if p25.1 = 0 then (some ((0 : Int32), p25.2)) else (some ((1 : Int32), p25.2)))))))
theorem x_X6_readDay {l : Launch} {w : Wd} {M : Mem} {v : Int32 × Mem} (h : f_X6_readDay M = some v) : Cn l w mi_X6_readDay yX6_readDay (4) [.ref (wq w 11)] M (some (.int v.1), v.2) :=
  Cn_of (loc0 := [some (.ref (wq w 11))]) rfl rfl rfl (Nat.le_of_ble_eq_true rfl) fun κ hq => let_h (show (if (f_X8_hasRoomForDay M 7) = 0 then (some ((0 : Int32), M)) else (vlet (setI M 11 5 ((M.1 11 5) + (1 : Int32))) fun M2 => (f_X6_readWant M2 (0 : Int32) (27 : Int32)).bind fun p3 => if p3.1 = 0 then (some ((0 : Int32), p3.2)) else ((f_X6_readWant p3.2 (1 : Int32) (9 : Int32)).bind fun p6 => if p6.1 = 0 then (some ((0 : Int32), p6.2)) else ((f_X6_take p6.2 (6 : Int32)).bind fun p9 => if p9.1 = 0 then ((f_X8_setWant p9.2 7 (2 : Int32) (0 : Int32)).bind fun p12 => (f_X6_take p12 (7 : Int32)).bind fun p14 => if p14.1 = 0 then (some ((1 : Int32), p14.2)) else ((f_X6_readRain p14.2).bind fun p17 => if p17.1 = 0 then (some ((0 : Int32), p17.2)) else (some ((1 : Int32), p17.2)))) else ((f_X8_setWant p9.2 7 (2 : Int32) (1 : Int32)).bind fun p20 => (f_X6_take p20 (7 : Int32)).bind fun p22 => if p22.1 = 0 then (some ((1 : Int32), p22.2)) else ((f_X6_readRain p22.2).bind fun p25 => if p25.1 = 0 then (some ((0 : Int32), p25.2)) else (some ((1 : Int32), p25.2)))))))) = some v from h) fun h => r_aload_n D_X6_readDay_0 rfl <| r_getR (j := 7) D_X6_readDay_1 fl_X6_24 s_11 rfl <| r_callV (av := []) D_X6_readDay_4 ml_X6_171 mf_X8_hasRoomForDay mv_X8_hasRoomForDay s_7 rfl rfl (x_X8_hasRoomForDay trip_7 rfl) (Nat.le_of_ble_eq_true rfl) rfl rfl (Nat.le_of_ble_eq_true rfl) <| r_if_ne D_X6_readDay_7 (fun c1 => let_h (ifT c1 h) fun h => r_iconst D_X6_readDay_10 ki_0 <| r_zret hq D_X6_readDay_11 rfl rfl (rtW h)) (fun c1 => let_h (ifF c1 h) fun h => r_aload_n D_X6_readDay_12 rfl <| r_dup D_X6_readDay_13 rfl <| r_getI D_X6_readDay_14 fl_X6_36 s_11 rfl <| r_iconst D_X6_readDay_17 ki_1 <| r_iadd D_X6_readDay_18 <| r_putI D_X6_readDay_19 fp_X6_36 s_11 rfl rfl rfl <| mlE h fun M2 h => r_aload_n D_X6_readDay_22 rfl <| r_iconst D_X6_readDay_23 ki_0 <| r_bipush D_X6_readDay_24 k8_27 <| (bdE h).elim fun p3 q4 => let_h q4.2 fun h => r_callV (av := [.int (0 : Int32), .int (27 : Int32)]) D_X6_readDay_26 ml_X6_174 mf_X6_readWant mv_X6_readWant s_11 rfl rfl (x_X6_readWant q4.1) (Nat.le_of_ble_eq_true rfl) rfl rfl (Nat.le_of_ble_eq_true rfl) <| r_if_eq D_X6_readDay_29 (fun c5 => let_h (ifT c5 h) fun h => r_iconst D_X6_readDay_42 ki_0 <| r_zret hq D_X6_readDay_43 rfl rfl (rtW h)) (fun c5 => let_h (ifF c5 h) fun h => r_aload_n D_X6_readDay_32 rfl <| r_iconst D_X6_readDay_33 ki_1 <| r_bipush D_X6_readDay_34 k8_9 <| (bdE h).elim fun p6 q7 => let_h q7.2 fun h => r_callV (av := [.int (1 : Int32), .int (9 : Int32)]) D_X6_readDay_36 ml_X6_174 mf_X6_readWant mv_X6_readWant s_11 rfl rfl (x_X6_readWant q7.1) (Nat.le_of_ble_eq_true rfl) rfl rfl (Nat.le_of_ble_eq_true rfl) <| r_if_ne D_X6_readDay_39 (fun c8 => let_h (ifT c8 h) fun h => r_iconst D_X6_readDay_42 ki_0 <| r_zret hq D_X6_readDay_43 rfl rfl (rtW h)) (fun c8 => let_h (ifF c8 h) fun h => r_aload_n D_X6_readDay_44 rfl <| r_getR (j := 7) D_X6_readDay_45 fl_X6_24 s_11 rfl <| r_iconst D_X6_readDay_48 ki_2 <| r_aload_n D_X6_readDay_49 rfl <| r_bipush D_X6_readDay_50 k8_6 <| (bdE h).elim fun p9 q10 => let_h q10.2 fun h => r_callV (av := [.int (6 : Int32)]) D_X6_readDay_52 ml_X6_126 mf_X6_take mv_X6_take s_11 rfl rfl (x_X6_take q10.1) (Nat.le_of_ble_eq_true rfl) rfl rfl (Nat.le_of_ble_eq_true rfl) <| r_if_eq D_X6_readDay_55 (fun c11 => let_h (ifT c11 h) fun h => r_iconst D_X6_readDay_62 ki_0 <| (bdE h).elim fun p12 q13 => let_h q13.2 fun h => r_callV (av := [.int (2 : Int32), .int (0 : Int32)]) D_X6_readDay_63 ml_X6_177 mf_X8_setWant mv_X8_setWant s_7 rfl rfl (x_X8_setWant trip_7 q13.1) (Nat.le_of_ble_eq_true rfl) rfl rfl (Nat.le_of_ble_eq_true rfl) <| r_aload_n D_X6_readDay_66 rfl <| r_bipush D_X6_readDay_67 k8_7 <| (bdE h).elim fun p14 q15 => let_h q15.2 fun h => r_callV (av := [.int (7 : Int32)]) D_X6_readDay_69 ml_X6_126 mf_X6_take mv_X6_take s_11 rfl rfl (x_X6_take q15.1) (Nat.le_of_ble_eq_true rfl) rfl rfl (Nat.le_of_ble_eq_true rfl) <| r_if_eq D_X6_readDay_72 (fun c16 => let_h (ifT c16 h) fun h => r_iconst D_X6_readDay_82 ki_1 <| r_goto D_X6_readDay_83 <| r_zret hq D_X6_readDay_87 rfl rfl (rtW h)) (fun c16 => let_h (ifF c16 h) fun h => r_aload_n D_X6_readDay_75 rfl <| (bdE h).elim fun p17 q18 => let_h q18.2 fun h => r_callV (av := []) D_X6_readDay_76 ml_X6_180 mf_X6_readRain mv_X6_readRain s_11 rfl rfl (x_X6_readRain q18.1) (Nat.le_of_ble_eq_true rfl) rfl rfl (Nat.le_of_ble_eq_true rfl) <| r_if_eq D_X6_readDay_79 (fun c19 => let_h (ifT c19 h) fun h => r_iconst D_X6_readDay_86 ki_0 <| r_zret hq D_X6_readDay_87 rfl rfl (rtW h)) (fun c19 => let_h (ifF c19 h) fun h => r_iconst D_X6_readDay_82 ki_1 <| r_goto D_X6_readDay_83 <| r_zret hq D_X6_readDay_87 rfl rfl (rtW h)))) (fun c11 => let_h (ifF c11 h) fun h => r_iconst D_X6_readDay_58 ki_1 <| r_goto D_X6_readDay_59 <| (bdE h).elim fun p20 q21 => let_h q21.2 fun h => r_callV (av := [.int (2 : Int32), .int (1 : Int32)]) D_X6_readDay_63 ml_X6_177 mf_X8_setWant mv_X8_setWant s_7 rfl rfl (x_X8_setWant trip_7 q21.1) (Nat.le_of_ble_eq_true rfl) rfl rfl (Nat.le_of_ble_eq_true rfl) <| r_aload_n D_X6_readDay_66 rfl <| r_bipush D_X6_readDay_67 k8_7 <| (bdE h).elim fun p22 q23 => let_h q23.2 fun h => r_callV (av := [.int (7 : Int32)]) D_X6_readDay_69 ml_X6_126 mf_X6_take mv_X6_take s_11 rfl rfl (x_X6_take q23.1) (Nat.le_of_ble_eq_true rfl) rfl rfl (Nat.le_of_ble_eq_true rfl) <| r_if_eq D_X6_readDay_72 (fun c24 => let_h (ifT c24 h) fun h => r_iconst D_X6_readDay_82 ki_1 <| r_goto D_X6_readDay_83 <| r_zret hq D_X6_readDay_87 rfl rfl (rtW h)) (fun c24 => let_h (ifF c24 h) fun h => r_aload_n D_X6_readDay_75 rfl <| (bdE h).elim fun p25 q26 => let_h q26.2 fun h => r_callV (av := []) D_X6_readDay_76 ml_X6_180 mf_X6_readRain mv_X6_readRain s_11 rfl rfl (x_X6_readRain q26.1) (Nat.le_of_ble_eq_true rfl) rfl rfl (Nat.le_of_ble_eq_true rfl) <| r_if_eq D_X6_readDay_79 (fun c27 => let_h (ifT c27 h) fun h => r_iconst D_X6_readDay_86 ki_0 <| r_zret hq D_X6_readDay_87 rfl rfl (rtW h)) (fun c27 => let_h (ifF c27 h) fun h => r_iconst D_X6_readDay_82 ki_1 <| r_goto D_X6_readDay_83 <| r_zret hq D_X6_readDay_87 rfl rfl (rtW h)))))))
-- X8_closeDay
theorem D_X8_closeDay_0 : Dec mi_X8_closeDay 0 (.aload_n 0) 1 1 := ⟨by decide +kernel, rfl⟩
theorem D_X8_closeDay_1 : Dec mi_X8_closeDay 1 (.invokevirtual 62) 3 4 := ⟨by decide +kernel, rfl⟩
theorem D_X8_closeDay_4 : DecJ mi_X8_closeDay 4 (.ifCond .eq 42) (42) 7 46 := ⟨by decide +kernel, rfl, by decide⟩
theorem D_X8_closeDay_7 : Dec mi_X8_closeDay 7 (.aload_n 0) 1 8 := ⟨by decide +kernel, rfl⟩
theorem D_X8_closeDay_8 : Dec mi_X8_closeDay 8 (.getfield 15) 3 11 := ⟨by decide +kernel, rfl⟩
theorem D_X8_closeDay_11 : Dec mi_X8_closeDay 11 (.aload_n 0) 1 12 := ⟨by decide +kernel, rfl⟩
theorem D_X8_closeDay_12 : Dec mi_X8_closeDay 12 (.getfield 31) 3 15 := ⟨by decide +kernel, rfl⟩
theorem D_X8_closeDay_15 : Dec mi_X8_closeDay 15 (.iconst 4) 1 16 := ⟨by decide +kernel, rfl⟩
theorem D_X8_closeDay_16 : Dec mi_X8_closeDay 16 (.imul) 1 17 := ⟨by decide +kernel, rfl⟩
theorem D_X8_closeDay_17 : Dec mi_X8_closeDay 17 (.iconst 3) 1 18 := ⟨by decide +kernel, rfl⟩
theorem D_X8_closeDay_18 : Dec mi_X8_closeDay 18 (.iadd) 1 19 := ⟨by decide +kernel, rfl⟩
theorem D_X8_closeDay_19 : Dec mi_X8_closeDay 19 (.iaload) 1 20 := ⟨by decide +kernel, rfl⟩
theorem D_X8_closeDay_20 : Dec mi_X8_closeDay 20 (.invokestatic 65) 3 23 := ⟨by decide +kernel, rfl⟩
theorem D_X8_closeDay_23 : DecJ mi_X8_closeDay 23 (.ifCond .eq 13) (13) 26 36 := ⟨by decide +kernel, rfl, by decide⟩
theorem D_X8_closeDay_26 : Dec mi_X8_closeDay 26 (.aload_n 0) 1 27 := ⟨by decide +kernel, rfl⟩
theorem D_X8_closeDay_27 : Dec mi_X8_closeDay 27 (.dup) 1 28 := ⟨by decide +kernel, rfl⟩
theorem D_X8_closeDay_28 : Dec mi_X8_closeDay 28 (.getfield 34) 3 31 := ⟨by decide +kernel, rfl⟩
theorem D_X8_closeDay_31 : Dec mi_X8_closeDay 31 (.iconst 1) 1 32 := ⟨by decide +kernel, rfl⟩
theorem D_X8_closeDay_32 : Dec mi_X8_closeDay 32 (.iadd) 1 33 := ⟨by decide +kernel, rfl⟩
theorem D_X8_closeDay_33 : Dec mi_X8_closeDay 33 (.putfield 34) 3 36 := ⟨by decide +kernel, rfl⟩
theorem D_X8_closeDay_36 : Dec mi_X8_closeDay 36 (.aload_n 0) 1 37 := ⟨by decide +kernel, rfl⟩
theorem D_X8_closeDay_37 : Dec mi_X8_closeDay 37 (.dup) 1 38 := ⟨by decide +kernel, rfl⟩
theorem D_X8_closeDay_38 : Dec mi_X8_closeDay 38 (.getfield 31) 3 41 := ⟨by decide +kernel, rfl⟩
theorem D_X8_closeDay_41 : Dec mi_X8_closeDay 41 (.iconst 1) 1 42 := ⟨by decide +kernel, rfl⟩
theorem D_X8_closeDay_42 : Dec mi_X8_closeDay 42 (.iadd) 1 43 := ⟨by decide +kernel, rfl⟩
theorem D_X8_closeDay_43 : Dec mi_X8_closeDay 43 (.putfield 31) 3 46 := ⟨by decide +kernel, rfl⟩
theorem D_X8_closeDay_46 : Dec mi_X8_closeDay 46 (.return_) 1 47 := ⟨by decide +kernel, rfl⟩
def f_X8_closeDay (M : Mem) (o : Nat) : Option Mem := if (f_X8_hasRoomForDay M o) = 0 then (some M) else (if ck (((M.1 o 4) * (4 : Int32)) + (3 : Int32)) 32 = true then (if (f_X9_isUnsure M (M.1 (o + 2) (((M.1 o 4) * (4 : Int32)) + (3 : Int32)).toNatClampNeg)) = 0 then (vlet (setI M o 4 ((M.1 o 4) + (1 : Int32))) fun M4 => some M4) else (vlet (setI M o 5 ((M.1 o 5) + (1 : Int32))) fun M5 => vlet (setI M5 o 4 ((M5.1 o 4) + (1 : Int32))) fun M6 => some M6)) else none)
theorem x_X8_closeDay {l : Launch} {w : Wd} {M : Mem} {o : Nat} {v : Mem} (ho : isTrip o) (h : f_X8_closeDay M o = some v) : Cn l w mi_X8_closeDay yX8_closeDay (1) [.ref (wq w o)] M (none, v) :=
  Cn_of (loc0 := [some (.ref (wq w o))]) rfl rfl rfl (Nat.le_of_ble_eq_true rfl) fun κ hq => let_h (show (if (f_X8_hasRoomForDay M o) = 0 then (some M) else (if ck (((M.1 o 4) * (4 : Int32)) + (3 : Int32)) 32 = true then (if (f_X9_isUnsure M (M.1 (o + 2) (((M.1 o 4) * (4 : Int32)) + (3 : Int32)).toNatClampNeg)) = 0 then (vlet (setI M o 4 ((M.1 o 4) + (1 : Int32))) fun M4 => some M4) else (vlet (setI M o 5 ((M.1 o 5) + (1 : Int32))) fun M5 => vlet (setI M5 o 4 ((M5.1 o 4) + (1 : Int32))) fun M6 => some M6)) else none)) = some v from h) fun h => r_aload_n D_X8_closeDay_0 rfl <| r_callV (av := []) D_X8_closeDay_1 ml_X8_62 mf_X8_hasRoomForDay mv_X8_hasRoomForDay ho.1 rfl rfl (x_X8_hasRoomForDay ho rfl) (Nat.le_of_ble_eq_true rfl) rfl rfl (Nat.le_of_ble_eq_true rfl) <| r_if_eq D_X8_closeDay_4 (fun c1 => let_h (ifT c1 h) fun h => r_vret hq D_X8_closeDay_46 rfl (rtV h)) (fun c1 => let_h (ifF c1 h) fun h => r_aload_n D_X8_closeDay_7 rfl <| r_getR (j := (o + 2)) D_X8_closeDay_8 fl_X8_15 ho.1 rfl <| r_aload_n D_X8_closeDay_11 rfl <| r_getI D_X8_closeDay_12 fl_X8_31 ho.1 rfl <| r_iconst D_X8_closeDay_15 ki_4 <| r_imul D_X8_closeDay_16 <| r_iconst D_X8_closeDay_17 ki_3 <| r_iadd D_X8_closeDay_18 <| (ckE h).elim fun c2 h => r_iald D_X8_closeDay_19 ho.2.2.1 c2 <| r_callN (av := [.int (M.1 (o + 2) (((M.1 o 4) * (4 : Int32)) + (3 : Int32)).toNatClampNeg)]) D_X8_closeDay_20 nl_X8_65 mf_X9_isUnsure ms_X9_isUnsure (x_X9_isUnsure rfl) (Nat.le_of_ble_eq_true rfl) rfl rfl (Nat.le_of_ble_eq_true rfl) <| r_if_eq D_X8_closeDay_23 (fun c3 => let_h (ifT c3 h) fun h => r_aload_n D_X8_closeDay_36 rfl <| r_dup D_X8_closeDay_37 rfl <| r_getI D_X8_closeDay_38 fl_X8_31 ho.1 rfl <| r_iconst D_X8_closeDay_41 ki_1 <| r_iadd D_X8_closeDay_42 <| r_putI D_X8_closeDay_43 fp_X8_31 ho.1 rfl rfl rfl <| mlE h fun M4 h => r_vret hq D_X8_closeDay_46 rfl (rtV h)) (fun c3 => let_h (ifF c3 h) fun h => r_aload_n D_X8_closeDay_26 rfl <| r_dup D_X8_closeDay_27 rfl <| r_getI D_X8_closeDay_28 fl_X8_34 ho.1 rfl <| r_iconst D_X8_closeDay_31 ki_1 <| r_iadd D_X8_closeDay_32 <| r_putI D_X8_closeDay_33 fp_X8_34 ho.1 rfl rfl rfl <| mlE h fun M5 h => r_aload_n D_X8_closeDay_36 rfl <| r_dup D_X8_closeDay_37 rfl <| r_getI D_X8_closeDay_38 fl_X8_31 ho.1 rfl <| r_iconst D_X8_closeDay_41 ki_1 <| r_iadd D_X8_closeDay_42 <| r_putI D_X8_closeDay_43 fp_X8_31 ho.1 rfl rfl rfl <| mlE h fun M6 h => r_vret hq D_X8_closeDay_46 rfl (rtV h)))
-- X6_closeDay
theorem D_X6_closeDay_0 : Dec mi_X6_closeDay 0 (.aload_n 0) 1 1 := ⟨by decide +kernel, rfl⟩
theorem D_X6_closeDay_1 : Dec mi_X6_closeDay 1 (.getfield 24) 3 4 := ⟨by decide +kernel, rfl⟩
theorem D_X6_closeDay_4 : Dec mi_X6_closeDay 4 (.invokevirtual 143) 3 7 := ⟨by decide +kernel, rfl⟩
theorem D_X6_closeDay_7 : Dec mi_X6_closeDay 7 (.iconst 1) 1 8 := ⟨by decide +kernel, rfl⟩
theorem D_X6_closeDay_8 : Dec mi_X6_closeDay 8 (.ireturn) 1 9 := ⟨by decide +kernel, rfl⟩
def f_X6_closeDay (M : Mem) : Option (Int32 × Mem) := (f_X8_closeDay M 7).bind fun p1 => some ((1 : Int32), p1)
theorem x_X6_closeDay {l : Launch} {w : Wd} {M : Mem} {v : Int32 × Mem} (h : f_X6_closeDay M = some v) : Cn l w mi_X6_closeDay yX6_closeDay (2) [.ref (wq w 11)] M (some (.int v.1), v.2) :=
  Cn_of (loc0 := [some (.ref (wq w 11))]) rfl rfl rfl (Nat.le_of_ble_eq_true rfl) fun κ hq => let_h (show ((f_X8_closeDay M 7).bind fun p1 => some ((1 : Int32), p1)) = some v from h) fun h => r_aload_n D_X6_closeDay_0 rfl <| r_getR (j := 7) D_X6_closeDay_1 fl_X6_24 s_11 rfl <| (bdE h).elim fun p1 q2 => let_h q2.2 fun h => r_callV (av := []) D_X6_closeDay_4 ml_X6_143 mf_X8_closeDay mv_X8_closeDay s_7 rfl rfl (x_X8_closeDay trip_7 q2.1) (Nat.le_of_ble_eq_true rfl) rfl rfl (Nat.le_of_ble_eq_true rfl) <| r_iconst D_X6_closeDay_7 ki_1 <| r_zret hq D_X6_closeDay_8 rfl rfl (rtW h)
-- X6_readItem
theorem D_X6_readItem_0 : Dec mi_X6_readItem 0 (.aload_n 0) 1 1 := ⟨by decide +kernel, rfl⟩
theorem D_X6_readItem_1 : Dec mi_X6_readItem 1 (.iconst 0) 1 2 := ⟨by decide +kernel, rfl⟩
theorem D_X6_readItem_2 : Dec mi_X6_readItem 2 (.invokevirtual 40) 3 5 := ⟨by decide +kernel, rfl⟩
theorem D_X6_readItem_5 : DecJ mi_X6_readItem 5 (.ifCond .ne 11) (11) 8 16 := ⟨by decide +kernel, rfl, by decide⟩
theorem D_X6_readItem_8 : Dec mi_X6_readItem 8 (.aload_n 0) 1 9 := ⟨by decide +kernel, rfl⟩
theorem D_X6_readItem_9 : Dec mi_X6_readItem 9 (.iconst 1) 1 10 := ⟨by decide +kernel, rfl⟩
theorem D_X6_readItem_10 : Dec mi_X6_readItem 10 (.invokevirtual 40) 3 13 := ⟨by decide +kernel, rfl⟩
theorem D_X6_readItem_13 : DecJ mi_X6_readItem 13 (.ifCond .eq 39) (39) 16 52 := ⟨by decide +kernel, rfl, by decide⟩
theorem D_X6_readItem_16 : Dec mi_X6_readItem 16 (.aload_n 0) 1 17 := ⟨by decide +kernel, rfl⟩
theorem D_X6_readItem_17 : Dec mi_X6_readItem 17 (.invokevirtual 120) 3 20 := ⟨by decide +kernel, rfl⟩
theorem D_X6_readItem_20 : DecJ mi_X6_readItem 20 (.ifCond .eq 30) (30) 23 50 := ⟨by decide +kernel, rfl, by decide⟩
theorem D_X6_readItem_23 : Dec mi_X6_readItem 23 (.aload_n 0) 1 24 := ⟨by decide +kernel, rfl⟩
theorem D_X6_readItem_24 : Dec mi_X6_readItem 24 (.invokevirtual 123) 3 27 := ⟨by decide +kernel, rfl⟩
theorem D_X6_readItem_27 : DecJ mi_X6_readItem 27 (.ifCond .eq 23) (23) 30 50 := ⟨by decide +kernel, rfl, by decide⟩
theorem D_X6_readItem_30 : Dec mi_X6_readItem 30 (.aload_n 0) 1 31 := ⟨by decide +kernel, rfl⟩
theorem D_X6_readItem_31 : Dec mi_X6_readItem 31 (.bipush 8) 2 33 := ⟨by decide +kernel, rfl⟩
theorem D_X6_readItem_33 : Dec mi_X6_readItem 33 (.invokevirtual 126) 3 36 := ⟨by decide +kernel, rfl⟩
theorem D_X6_readItem_36 : DecJ mi_X6_readItem 36 (.ifCond .eq 14) (14) 39 50 := ⟨by decide +kernel, rfl, by decide⟩
theorem D_X6_readItem_39 : Dec mi_X6_readItem 39 (.aload_n 0) 1 40 := ⟨by decide +kernel, rfl⟩
theorem D_X6_readItem_40 : Dec mi_X6_readItem 40 (.invokevirtual 129) 3 43 := ⟨by decide +kernel, rfl⟩
theorem D_X6_readItem_43 : DecJ mi_X6_readItem 43 (.ifCond .eq 7) (7) 46 50 := ⟨by decide +kernel, rfl, by decide⟩
theorem D_X6_readItem_46 : Dec mi_X6_readItem 46 (.iconst 1) 1 47 := ⟨by decide +kernel, rfl⟩
theorem D_X6_readItem_47 : DecJ mi_X6_readItem 47 (.goto 4) (4) 50 51 := ⟨by decide +kernel, rfl, by decide⟩
theorem D_X6_readItem_50 : Dec mi_X6_readItem 50 (.iconst 0) 1 51 := ⟨by decide +kernel, rfl⟩
theorem D_X6_readItem_51 : Dec mi_X6_readItem 51 (.ireturn) 1 52 := ⟨by decide +kernel, rfl⟩
theorem D_X6_readItem_52 : Dec mi_X6_readItem 52 (.aload_n 0) 1 53 := ⟨by decide +kernel, rfl⟩
theorem D_X6_readItem_53 : Dec mi_X6_readItem 53 (.iconst 2) 1 54 := ⟨by decide +kernel, rfl⟩
theorem D_X6_readItem_54 : Dec mi_X6_readItem 54 (.invokevirtual 40) 3 57 := ⟨by decide +kernel, rfl⟩
theorem D_X6_readItem_57 : DecJ mi_X6_readItem 57 (.ifCond .eq 32) (32) 60 89 := ⟨by decide +kernel, rfl, by decide⟩
theorem D_X6_readItem_60 : Dec mi_X6_readItem 60 (.aload_n 0) 1 61 := ⟨by decide +kernel, rfl⟩
theorem D_X6_readItem_61 : Dec mi_X6_readItem 61 (.invokevirtual 120) 3 64 := ⟨by decide +kernel, rfl⟩
theorem D_X6_readItem_64 : DecJ mi_X6_readItem 64 (.ifCond .eq 23) (23) 67 87 := ⟨by decide +kernel, rfl, by decide⟩
theorem D_X6_readItem_67 : Dec mi_X6_readItem 67 (.aload_n 0) 1 68 := ⟨by decide +kernel, rfl⟩
theorem D_X6_readItem_68 : Dec mi_X6_readItem 68 (.bipush 8) 2 70 := ⟨by decide +kernel, rfl⟩
theorem D_X6_readItem_70 : Dec mi_X6_readItem 70 (.invokevirtual 126) 3 73 := ⟨by decide +kernel, rfl⟩
theorem D_X6_readItem_73 : DecJ mi_X6_readItem 73 (.ifCond .eq 14) (14) 76 87 := ⟨by decide +kernel, rfl, by decide⟩
theorem D_X6_readItem_76 : Dec mi_X6_readItem 76 (.aload_n 0) 1 77 := ⟨by decide +kernel, rfl⟩
theorem D_X6_readItem_77 : Dec mi_X6_readItem 77 (.invokevirtual 129) 3 80 := ⟨by decide +kernel, rfl⟩
theorem D_X6_readItem_80 : DecJ mi_X6_readItem 80 (.ifCond .eq 7) (7) 83 87 := ⟨by decide +kernel, rfl, by decide⟩
theorem D_X6_readItem_83 : Dec mi_X6_readItem 83 (.iconst 1) 1 84 := ⟨by decide +kernel, rfl⟩
theorem D_X6_readItem_84 : DecJ mi_X6_readItem 84 (.goto 4) (4) 87 88 := ⟨by decide +kernel, rfl, by decide⟩
theorem D_X6_readItem_87 : Dec mi_X6_readItem 87 (.iconst 0) 1 88 := ⟨by decide +kernel, rfl⟩
theorem D_X6_readItem_88 : Dec mi_X6_readItem 88 (.ireturn) 1 89 := ⟨by decide +kernel, rfl⟩
theorem D_X6_readItem_89 : Dec mi_X6_readItem 89 (.aload_n 0) 1 90 := ⟨by decide +kernel, rfl⟩
theorem D_X6_readItem_90 : Dec mi_X6_readItem 90 (.iconst 4) 1 91 := ⟨by decide +kernel, rfl⟩
theorem D_X6_readItem_91 : Dec mi_X6_readItem 91 (.invokevirtual 40) 3 94 := ⟨by decide +kernel, rfl⟩
theorem D_X6_readItem_94 : DecJ mi_X6_readItem 94 (.ifCond .eq 25) (25) 97 119 := ⟨by decide +kernel, rfl, by decide⟩
theorem D_X6_readItem_97 : Dec mi_X6_readItem 97 (.aload_n 0) 1 98 := ⟨by decide +kernel, rfl⟩
theorem D_X6_readItem_98 : Dec mi_X6_readItem 98 (.invokevirtual 132) 3 101 := ⟨by decide +kernel, rfl⟩
theorem D_X6_readItem_101 : DecJ mi_X6_readItem 101 (.ifCond .eq 16) (16) 104 117 := ⟨by decide +kernel, rfl, by decide⟩
theorem D_X6_readItem_104 : Dec mi_X6_readItem 104 (.aload_n 0) 1 105 := ⟨by decide +kernel, rfl⟩
theorem D_X6_readItem_105 : Dec mi_X6_readItem 105 (.bipush 8) 2 107 := ⟨by decide +kernel, rfl⟩
theorem D_X6_readItem_107 : Dec mi_X6_readItem 107 (.invokevirtual 126) 3 110 := ⟨by decide +kernel, rfl⟩
theorem D_X6_readItem_110 : DecJ mi_X6_readItem 110 (.ifCond .eq 7) (7) 113 117 := ⟨by decide +kernel, rfl, by decide⟩
theorem D_X6_readItem_113 : Dec mi_X6_readItem 113 (.iconst 1) 1 114 := ⟨by decide +kernel, rfl⟩
theorem D_X6_readItem_114 : DecJ mi_X6_readItem 114 (.goto 4) (4) 117 118 := ⟨by decide +kernel, rfl, by decide⟩
theorem D_X6_readItem_117 : Dec mi_X6_readItem 117 (.iconst 0) 1 118 := ⟨by decide +kernel, rfl⟩
theorem D_X6_readItem_118 : Dec mi_X6_readItem 118 (.ireturn) 1 119 := ⟨by decide +kernel, rfl⟩
theorem D_X6_readItem_119 : Dec mi_X6_readItem 119 (.aload_n 0) 1 120 := ⟨by decide +kernel, rfl⟩
theorem D_X6_readItem_120 : Dec mi_X6_readItem 120 (.iconst 5) 1 121 := ⟨by decide +kernel, rfl⟩
theorem D_X6_readItem_121 : Dec mi_X6_readItem 121 (.invokevirtual 40) 3 124 := ⟨by decide +kernel, rfl⟩
theorem D_X6_readItem_124 : DecJ mi_X6_readItem 124 (.ifCond .eq 30) (30) 127 154 := ⟨by decide +kernel, rfl, by decide⟩
theorem D_X6_readItem_127 : Dec mi_X6_readItem 127 (.aload_n 0) 1 128 := ⟨by decide +kernel, rfl⟩
theorem D_X6_readItem_128 : Dec mi_X6_readItem 128 (.invokevirtual 135) 3 131 := ⟨by decide +kernel, rfl⟩
theorem D_X6_readItem_131 : DecJ mi_X6_readItem 131 (.ifCond .eq 23) (23) 134 154 := ⟨by decide +kernel, rfl, by decide⟩
theorem D_X6_readItem_134 : Dec mi_X6_readItem 134 (.aload_n 0) 1 135 := ⟨by decide +kernel, rfl⟩
theorem D_X6_readItem_135 : Dec mi_X6_readItem 135 (.bipush 8) 2 137 := ⟨by decide +kernel, rfl⟩
theorem D_X6_readItem_137 : Dec mi_X6_readItem 137 (.invokevirtual 126) 3 140 := ⟨by decide +kernel, rfl⟩
theorem D_X6_readItem_140 : DecJ mi_X6_readItem 140 (.ifCond .eq 14) (14) 143 154 := ⟨by decide +kernel, rfl, by decide⟩
theorem D_X6_readItem_143 : Dec mi_X6_readItem 143 (.aload_n 0) 1 144 := ⟨by decide +kernel, rfl⟩
theorem D_X6_readItem_144 : Dec mi_X6_readItem 144 (.invokevirtual 138) 3 147 := ⟨by decide +kernel, rfl⟩
theorem D_X6_readItem_147 : DecJ mi_X6_readItem 147 (.ifCond .eq 7) (7) 150 154 := ⟨by decide +kernel, rfl, by decide⟩
theorem D_X6_readItem_150 : Dec mi_X6_readItem 150 (.iconst 1) 1 151 := ⟨by decide +kernel, rfl⟩
theorem D_X6_readItem_151 : DecJ mi_X6_readItem 151 (.goto 4) (4) 154 155 := ⟨by decide +kernel, rfl, by decide⟩
theorem D_X6_readItem_154 : Dec mi_X6_readItem 154 (.iconst 0) 1 155 := ⟨by decide +kernel, rfl⟩
theorem D_X6_readItem_155 : Dec mi_X6_readItem 155 (.ireturn) 1 156 := ⟨by decide +kernel, rfl⟩
def f_X6_readItem_16 (N : Mem) : Option (Int32 × Mem) := (f_X6_readThing N).bind fun p1 => if p1.1 = 0 then (some ((0 : Int32), p1.2)) else ((f_X6_readClothes p1.2).bind fun p4 => if p4.1 = 0 then (some ((0 : Int32), p4.2)) else ((f_X6_take p4.2 (8 : Int32)).bind fun p7 => if p7.1 = 0 then (some ((0 : Int32), p7.2)) else ((f_X6_closeThing p7.2).bind fun p10 => if p10.1 = 0 then (some ((0 : Int32), p10.2)) else (some ((1 : Int32), p10.2)))))
theorem x_X6_readItem_16 {l : Launch} {w : Wd} {κ : Kp} {v : Int32 × Mem} (hq : RQ w (some (.int v.1), v.2) κ) (N : Mem) (h : f_X6_readItem_16 N = some v) : RR l w mi_X6_readItem (5) κ 16 [] [some (.ref (wq w 11))] N := let_h (show ((f_X6_readThing N).bind fun p1 => if p1.1 = 0 then (some ((0 : Int32), p1.2)) else ((f_X6_readClothes p1.2).bind fun p4 => if p4.1 = 0 then (some ((0 : Int32), p4.2)) else ((f_X6_take p4.2 (8 : Int32)).bind fun p7 => if p7.1 = 0 then (some ((0 : Int32), p7.2)) else ((f_X6_closeThing p7.2).bind fun p10 => if p10.1 = 0 then (some ((0 : Int32), p10.2)) else (some ((1 : Int32), p10.2)))))) = some v from h) fun h => r_aload_n D_X6_readItem_16 rfl <| (bdE h).elim fun p1 q2 => let_h q2.2 fun h => r_callV (av := []) D_X6_readItem_17 ml_X6_120 mf_X6_readThing mv_X6_readThing s_11 rfl rfl (x_X6_readThing q2.1) (Nat.le_of_ble_eq_true rfl) rfl rfl (Nat.le_of_ble_eq_true rfl) <| r_if_eq D_X6_readItem_20 (fun c3 => let_h (ifT c3 h) fun h => r_iconst D_X6_readItem_50 ki_0 <| r_zret hq D_X6_readItem_51 rfl rfl (rtW h)) (fun c3 => let_h (ifF c3 h) fun h => r_aload_n D_X6_readItem_23 rfl <| (bdE h).elim fun p4 q5 => let_h q5.2 fun h => r_callV (av := []) D_X6_readItem_24 ml_X6_123 mf_X6_readClothes mv_X6_readClothes s_11 rfl rfl (x_X6_readClothes q5.1) (Nat.le_of_ble_eq_true rfl) rfl rfl (Nat.le_of_ble_eq_true rfl) <| r_if_eq D_X6_readItem_27 (fun c6 => let_h (ifT c6 h) fun h => r_iconst D_X6_readItem_50 ki_0 <| r_zret hq D_X6_readItem_51 rfl rfl (rtW h)) (fun c6 => let_h (ifF c6 h) fun h => r_aload_n D_X6_readItem_30 rfl <| r_bipush D_X6_readItem_31 k8_8 <| (bdE h).elim fun p7 q8 => let_h q8.2 fun h => r_callV (av := [.int (8 : Int32)]) D_X6_readItem_33 ml_X6_126 mf_X6_take mv_X6_take s_11 rfl rfl (x_X6_take q8.1) (Nat.le_of_ble_eq_true rfl) rfl rfl (Nat.le_of_ble_eq_true rfl) <| r_if_eq D_X6_readItem_36 (fun c9 => let_h (ifT c9 h) fun h => r_iconst D_X6_readItem_50 ki_0 <| r_zret hq D_X6_readItem_51 rfl rfl (rtW h)) (fun c9 => let_h (ifF c9 h) fun h => r_aload_n D_X6_readItem_39 rfl <| (bdE h).elim fun p10 q11 => let_h q11.2 fun h => r_callV (av := []) D_X6_readItem_40 ml_X6_129 mf_X6_closeThing mv_X6_closeThing s_11 rfl rfl (x_X6_closeThing q11.1) (Nat.le_of_ble_eq_true rfl) rfl rfl (Nat.le_of_ble_eq_true rfl) <| r_if_eq D_X6_readItem_43 (fun c12 => let_h (ifT c12 h) fun h => r_iconst D_X6_readItem_50 ki_0 <| r_zret hq D_X6_readItem_51 rfl rfl (rtW h)) (fun c12 => let_h (ifF c12 h) fun h => r_iconst D_X6_readItem_46 ki_1 <| r_goto D_X6_readItem_47 <| r_zret hq D_X6_readItem_51 rfl rfl (rtW h)))))
def f_X6_readItem (M : Mem) : Option (Int32 × Mem) := (f_X6_isNext M (0 : Int32)).bind fun x1 => if x1 = 0 then ((f_X6_isNext M (1 : Int32)).bind fun x4 => if x4 = 0 then ((f_X6_isNext M (2 : Int32)).bind fun x7 => if x7 = 0 then ((f_X6_isNext M (4 : Int32)).bind fun x10 => if x10 = 0 then ((f_X6_isNext M (5 : Int32)).bind fun x13 => if x13 = 0 then (some ((0 : Int32), M)) else ((f_X6_readDay M).bind fun p16 => if p16.1 = 0 then (some ((0 : Int32), p16.2)) else ((f_X6_take p16.2 (8 : Int32)).bind fun p19 => if p19.1 = 0 then (some ((0 : Int32), p19.2)) else ((f_X6_closeDay p19.2).bind fun p22 => if p22.1 = 0 then (some ((0 : Int32), p22.2)) else (some ((1 : Int32), p22.2)))))) else ((f_X6_readApart M).bind fun p25 => if p25.1 = 0 then (some ((0 : Int32), p25.2)) else ((f_X6_take p25.2 (8 : Int32)).bind fun p28 => if p28.1 = 0 then (some ((0 : Int32), p28.2)) else (some ((1 : Int32), p28.2))))) else ((f_X6_readThing M).bind fun p31 => if p31.1 = 0 then (some ((0 : Int32), p31.2)) else ((f_X6_take p31.2 (8 : Int32)).bind fun p34 => if p34.1 = 0 then (some ((0 : Int32), p34.2)) else ((f_X6_closeThing p34.2).bind fun p37 => if p37.1 = 0 then (some ((0 : Int32), p37.2)) else (some ((1 : Int32), p37.2)))))) else (f_X6_readItem_16 M)) else (f_X6_readItem_16 M)
theorem x_X6_readItem {l : Launch} {w : Wd} {M : Mem} {v : Int32 × Mem} (h : f_X6_readItem M = some v) : Cn l w mi_X6_readItem yX6_readItem (5) [.ref (wq w 11)] M (some (.int v.1), v.2) :=
  Cn_of (loc0 := [some (.ref (wq w 11))]) rfl rfl rfl (Nat.le_of_ble_eq_true rfl) fun κ hq => let_h (show ((f_X6_isNext M (0 : Int32)).bind fun x1 => if x1 = 0 then ((f_X6_isNext M (1 : Int32)).bind fun x4 => if x4 = 0 then ((f_X6_isNext M (2 : Int32)).bind fun x7 => if x7 = 0 then ((f_X6_isNext M (4 : Int32)).bind fun x10 => if x10 = 0 then ((f_X6_isNext M (5 : Int32)).bind fun x13 => if x13 = 0 then (some ((0 : Int32), M)) else ((f_X6_readDay M).bind fun p16 => if p16.1 = 0 then (some ((0 : Int32), p16.2)) else ((f_X6_take p16.2 (8 : Int32)).bind fun p19 => if p19.1 = 0 then (some ((0 : Int32), p19.2)) else ((f_X6_closeDay p19.2).bind fun p22 => if p22.1 = 0 then (some ((0 : Int32), p22.2)) else (some ((1 : Int32), p22.2)))))) else ((f_X6_readApart M).bind fun p25 => if p25.1 = 0 then (some ((0 : Int32), p25.2)) else ((f_X6_take p25.2 (8 : Int32)).bind fun p28 => if p28.1 = 0 then (some ((0 : Int32), p28.2)) else (some ((1 : Int32), p28.2))))) else ((f_X6_readThing M).bind fun p31 => if p31.1 = 0 then (some ((0 : Int32), p31.2)) else ((f_X6_take p31.2 (8 : Int32)).bind fun p34 => if p34.1 = 0 then (some ((0 : Int32), p34.2)) else ((f_X6_closeThing p34.2).bind fun p37 => if p37.1 = 0 then (some ((0 : Int32), p37.2)) else (some ((1 : Int32), p37.2)))))) else (f_X6_readItem_16 M)) else (f_X6_readItem_16 M)) = some v from h) fun h => r_aload_n D_X6_readItem_0 rfl <| r_iconst D_X6_readItem_1 ki_0 <| (bdE h).elim fun x1 q2 => let_h q2.2 fun h => r_callV (av := [.int (0 : Int32)]) D_X6_readItem_2 ml_X6_40 mf_X6_isNext mv_X6_isNext s_11 rfl rfl (x_X6_isNext q2.1) (Nat.le_of_ble_eq_true rfl) rfl rfl (Nat.le_of_ble_eq_true rfl) <| r_if_ne D_X6_readItem_5 (fun c3 => let_h (ifT c3 h) fun h => r_aload_n D_X6_readItem_8 rfl <| r_iconst D_X6_readItem_9 ki_1 <| (bdE h).elim fun x4 q5 => let_h q5.2 fun h => r_callV (av := [.int (1 : Int32)]) D_X6_readItem_10 ml_X6_40 mf_X6_isNext mv_X6_isNext s_11 rfl rfl (x_X6_isNext q5.1) (Nat.le_of_ble_eq_true rfl) rfl rfl (Nat.le_of_ble_eq_true rfl) <| r_if_eq D_X6_readItem_13 (fun c6 => let_h (ifT c6 h) fun h => r_aload_n D_X6_readItem_52 rfl <| r_iconst D_X6_readItem_53 ki_2 <| (bdE h).elim fun x7 q8 => let_h q8.2 fun h => r_callV (av := [.int (2 : Int32)]) D_X6_readItem_54 ml_X6_40 mf_X6_isNext mv_X6_isNext s_11 rfl rfl (x_X6_isNext q8.1) (Nat.le_of_ble_eq_true rfl) rfl rfl (Nat.le_of_ble_eq_true rfl) <| r_if_eq D_X6_readItem_57 (fun c9 => let_h (ifT c9 h) fun h => r_aload_n D_X6_readItem_89 rfl <| r_iconst D_X6_readItem_90 ki_4 <| (bdE h).elim fun x10 q11 => let_h q11.2 fun h => r_callV (av := [.int (4 : Int32)]) D_X6_readItem_91 ml_X6_40 mf_X6_isNext mv_X6_isNext s_11 rfl rfl (x_X6_isNext q11.1) (Nat.le_of_ble_eq_true rfl) rfl rfl (Nat.le_of_ble_eq_true rfl) <| r_if_eq D_X6_readItem_94 (fun c12 => let_h (ifT c12 h) fun h => r_aload_n D_X6_readItem_119 rfl <| r_iconst D_X6_readItem_120 ki_5 <| (bdE h).elim fun x13 q14 => let_h q14.2 fun h => r_callV (av := [.int (5 : Int32)]) D_X6_readItem_121 ml_X6_40 mf_X6_isNext mv_X6_isNext s_11 rfl rfl (x_X6_isNext q14.1) (Nat.le_of_ble_eq_true rfl) rfl rfl (Nat.le_of_ble_eq_true rfl) <| r_if_eq D_X6_readItem_124 (fun c15 => let_h (ifT c15 h) fun h => r_iconst D_X6_readItem_154 ki_0 <| r_zret hq D_X6_readItem_155 rfl rfl (rtW h)) (fun c15 => let_h (ifF c15 h) fun h => r_aload_n D_X6_readItem_127 rfl <| (bdE h).elim fun p16 q17 => let_h q17.2 fun h => r_callV (av := []) D_X6_readItem_128 ml_X6_135 mf_X6_readDay mv_X6_readDay s_11 rfl rfl (x_X6_readDay q17.1) (Nat.le_of_ble_eq_true rfl) rfl rfl (Nat.le_of_ble_eq_true rfl) <| r_if_eq D_X6_readItem_131 (fun c18 => let_h (ifT c18 h) fun h => r_iconst D_X6_readItem_154 ki_0 <| r_zret hq D_X6_readItem_155 rfl rfl (rtW h)) (fun c18 => let_h (ifF c18 h) fun h => r_aload_n D_X6_readItem_134 rfl <| r_bipush D_X6_readItem_135 k8_8 <| (bdE h).elim fun p19 q20 => let_h q20.2 fun h => r_callV (av := [.int (8 : Int32)]) D_X6_readItem_137 ml_X6_126 mf_X6_take mv_X6_take s_11 rfl rfl (x_X6_take q20.1) (Nat.le_of_ble_eq_true rfl) rfl rfl (Nat.le_of_ble_eq_true rfl) <| r_if_eq D_X6_readItem_140 (fun c21 => let_h (ifT c21 h) fun h => r_iconst D_X6_readItem_154 ki_0 <| r_zret hq D_X6_readItem_155 rfl rfl (rtW h)) (fun c21 => let_h (ifF c21 h) fun h => r_aload_n D_X6_readItem_143 rfl <| (bdE h).elim fun p22 q23 => let_h q23.2 fun h => r_callV (av := []) D_X6_readItem_144 ml_X6_138 mf_X6_closeDay mv_X6_closeDay s_11 rfl rfl (x_X6_closeDay q23.1) (Nat.le_of_ble_eq_true rfl) rfl rfl (Nat.le_of_ble_eq_true rfl) <| r_if_eq D_X6_readItem_147 (fun c24 => let_h (ifT c24 h) fun h => r_iconst D_X6_readItem_154 ki_0 <| r_zret hq D_X6_readItem_155 rfl rfl (rtW h)) (fun c24 => let_h (ifF c24 h) fun h => r_iconst D_X6_readItem_150 ki_1 <| r_goto D_X6_readItem_151 <| r_zret hq D_X6_readItem_155 rfl rfl (rtW h)))))) (fun c12 => let_h (ifF c12 h) fun h => r_aload_n D_X6_readItem_97 rfl <| (bdE h).elim fun p25 q26 => let_h q26.2 fun h => r_callV (av := []) D_X6_readItem_98 ml_X6_132 mf_X6_readApart mv_X6_readApart s_11 rfl rfl (x_X6_readApart q26.1) (Nat.le_of_ble_eq_true rfl) rfl rfl (Nat.le_of_ble_eq_true rfl) <| r_if_eq D_X6_readItem_101 (fun c27 => let_h (ifT c27 h) fun h => r_iconst D_X6_readItem_117 ki_0 <| r_zret hq D_X6_readItem_118 rfl rfl (rtW h)) (fun c27 => let_h (ifF c27 h) fun h => r_aload_n D_X6_readItem_104 rfl <| r_bipush D_X6_readItem_105 k8_8 <| (bdE h).elim fun p28 q29 => let_h q29.2 fun h => r_callV (av := [.int (8 : Int32)]) D_X6_readItem_107 ml_X6_126 mf_X6_take mv_X6_take s_11 rfl rfl (x_X6_take q29.1) (Nat.le_of_ble_eq_true rfl) rfl rfl (Nat.le_of_ble_eq_true rfl) <| r_if_eq D_X6_readItem_110 (fun c30 => let_h (ifT c30 h) fun h => r_iconst D_X6_readItem_117 ki_0 <| r_zret hq D_X6_readItem_118 rfl rfl (rtW h)) (fun c30 => let_h (ifF c30 h) fun h => r_iconst D_X6_readItem_113 ki_1 <| r_goto D_X6_readItem_114 <| r_zret hq D_X6_readItem_118 rfl rfl (rtW h))))) (fun c9 => let_h (ifF c9 h) fun h => r_aload_n D_X6_readItem_60 rfl <| (bdE h).elim fun p31 q32 => let_h q32.2 fun h => r_callV (av := []) D_X6_readItem_61 ml_X6_120 mf_X6_readThing mv_X6_readThing s_11 rfl rfl (x_X6_readThing q32.1) (Nat.le_of_ble_eq_true rfl) rfl rfl (Nat.le_of_ble_eq_true rfl) <| r_if_eq D_X6_readItem_64 (fun c33 => let_h (ifT c33 h) fun h => r_iconst D_X6_readItem_87 ki_0 <| r_zret hq D_X6_readItem_88 rfl rfl (rtW h)) (fun c33 => let_h (ifF c33 h) fun h => r_aload_n D_X6_readItem_67 rfl <| r_bipush D_X6_readItem_68 k8_8 <| (bdE h).elim fun p34 q35 => let_h q35.2 fun h => r_callV (av := [.int (8 : Int32)]) D_X6_readItem_70 ml_X6_126 mf_X6_take mv_X6_take s_11 rfl rfl (x_X6_take q35.1) (Nat.le_of_ble_eq_true rfl) rfl rfl (Nat.le_of_ble_eq_true rfl) <| r_if_eq D_X6_readItem_73 (fun c36 => let_h (ifT c36 h) fun h => r_iconst D_X6_readItem_87 ki_0 <| r_zret hq D_X6_readItem_88 rfl rfl (rtW h)) (fun c36 => let_h (ifF c36 h) fun h => r_aload_n D_X6_readItem_76 rfl <| (bdE h).elim fun p37 q38 => let_h q38.2 fun h => r_callV (av := []) D_X6_readItem_77 ml_X6_129 mf_X6_closeThing mv_X6_closeThing s_11 rfl rfl (x_X6_closeThing q38.1) (Nat.le_of_ble_eq_true rfl) rfl rfl (Nat.le_of_ble_eq_true rfl) <| r_if_eq D_X6_readItem_80 (fun c39 => let_h (ifT c39 h) fun h => r_iconst D_X6_readItem_87 ki_0 <| r_zret hq D_X6_readItem_88 rfl rfl (rtW h)) (fun c39 => let_h (ifF c39 h) fun h => r_iconst D_X6_readItem_83 ki_1 <| r_goto D_X6_readItem_84 <| r_zret hq D_X6_readItem_88 rfl rfl (rtW h)))))) (fun c6 => let_h (ifF c6 h) fun h => r_ls (x_X6_readItem_16 hq M h) ⟨rfl, trivial⟩)) (fun c3 => let_h (ifF c3 h) fun h => r_ls (x_X6_readItem_16 hq M h) ⟨rfl, trivial⟩)
