-- X5_bottomOn
theorem D_X5_bottomOn_0 : Dec mi_X5_bottomOn 0 (.aload_n 0) 1 1 := ⟨by decide +kernel, rfl⟩
theorem D_X5_bottomOn_1 : Dec mi_X5_bottomOn 1 (.iload_n 1) 1 2 := ⟨by decide +kernel, rfl⟩
theorem D_X5_bottomOn_2 : Dec mi_X5_bottomOn 2 (.invokevirtual 52) 3 5 := ⟨by decide +kernel, rfl⟩
theorem D_X5_bottomOn_5 : DecJ mi_X5_bottomOn 5 (.ifCond .eq 15) (15) 8 20 := ⟨by decide +kernel, rfl, by decide⟩
theorem D_X5_bottomOn_8 : Dec mi_X5_bottomOn 8 (.aload_n 0) 1 9 := ⟨by decide +kernel, rfl⟩
theorem D_X5_bottomOn_9 : Dec mi_X5_bottomOn 9 (.getfield 18) 3 12 := ⟨by decide +kernel, rfl⟩
theorem D_X5_bottomOn_12 : Dec mi_X5_bottomOn 12 (.iload_n 1) 1 13 := ⟨by decide +kernel, rfl⟩
theorem D_X5_bottomOn_13 : Dec mi_X5_bottomOn 13 (.iaload) 1 14 := ⟨by decide +kernel, rfl⟩
theorem D_X5_bottomOn_14 : Dec mi_X5_bottomOn 14 (.bipush 6) 2 16 := ⟨by decide +kernel, rfl⟩
theorem D_X5_bottomOn_16 : Dec mi_X5_bottomOn 16 (.irem) 1 17 := ⟨by decide +kernel, rfl⟩
theorem D_X5_bottomOn_17 : DecJ mi_X5_bottomOn 17 (.goto 5) (5) 20 22 := ⟨by decide +kernel, rfl, by decide⟩
theorem D_X5_bottomOn_20 : Dec mi_X5_bottomOn 20 (.bipush (-9)) 2 22 := ⟨by decide +kernel, rfl⟩
theorem D_X5_bottomOn_22 : Dec mi_X5_bottomOn 22 (.ireturn) 1 23 := ⟨by decide +kernel, rfl⟩
def f_X5_bottomOn (M : Mem) (a1 : Int32) : Option Int32 := if (f_X5_isDay M a1) = 0 then (some (-9 : Int32)) else (if ck a1 8 = true then (some ((M.1 20 a1.toNatClampNeg) - (M.1 20 a1.toNatClampNeg) / (6 : Int32) * (6 : Int32))) else none)
theorem x_X5_bottomOn {l : Launch} {w : Wd} {M : Mem} {a1 : Int32} {v : Int32} (h : f_X5_bottomOn M a1 = some v) : Cn l w mi_X5_bottomOn yX5_bottomOn (1) [.ref (wq w 17), .int a1] M (some (.int v), M) :=
  Cn_of (loc0 := [some (.ref (wq w 17)), some (.int a1)]) rfl rfl rfl (Nat.le_of_ble_eq_true rfl) fun κ hq => let_h (show (if (f_X5_isDay M a1) = 0 then (some (-9 : Int32)) else (if ck a1 8 = true then (some ((M.1 20 a1.toNatClampNeg) - (M.1 20 a1.toNatClampNeg) / (6 : Int32) * (6 : Int32))) else none)) = some v from h) fun h => r_aload_n D_X5_bottomOn_0 rfl <| r_iload_n D_X5_bottomOn_1 rfl <| r_callV (av := [.int a1]) D_X5_bottomOn_2 ml_X5_52 mf_X5_isDay mv_X5_isDay s_17 rfl rfl (x_X5_isDay rfl) (Nat.le_of_ble_eq_true rfl) rfl rfl (Nat.le_of_ble_eq_true rfl) <| r_if_eq D_X5_bottomOn_5 (fun c1 => let_h (ifT c1 h) fun h => r_bipush D_X5_bottomOn_20 k8_m9 <| r_iret hq D_X5_bottomOn_22 rfl (rtP h)) (fun c1 => let_h (ifF c1 h) fun h => r_aload_n D_X5_bottomOn_8 rfl <| r_getR (j := 20) D_X5_bottomOn_9 fl_X5_18 s_17 rfl <| r_iload_n D_X5_bottomOn_12 rfl <| (ckE h).elim fun c2 h => r_iald D_X5_bottomOn_13 s_20 c2 <| r_bipush D_X5_bottomOn_14 k8_6 <| r_irem D_X5_bottomOn_16 (by decide) <| r_goto D_X5_bottomOn_17 <| r_iret hq D_X5_bottomOn_22 rfl (rtP h))
-- X5_firstDayOf
theorem D_X5_firstDayOf_0 : Dec mi_X5_firstDayOf 0 (.iconst 0) 1 1 := ⟨by decide +kernel, rfl⟩
theorem D_X5_firstDayOf_1 : Dec mi_X5_firstDayOf 1 (.istore_n 2) 1 2 := ⟨by decide +kernel, rfl⟩
theorem D_X5_firstDayOf_2 : Dec mi_X5_firstDayOf 2 (.iload_n 2) 1 3 := ⟨by decide +kernel, rfl⟩
theorem D_X5_firstDayOf_3 : Dec mi_X5_firstDayOf 3 (.aload_n 0) 1 4 := ⟨by decide +kernel, rfl⟩
theorem D_X5_firstDayOf_4 : Dec mi_X5_firstDayOf 4 (.getfield 34) 3 7 := ⟨by decide +kernel, rfl⟩
theorem D_X5_firstDayOf_7 : Dec mi_X5_firstDayOf 7 (.invokevirtual 56) 3 10 := ⟨by decide +kernel, rfl⟩
theorem D_X5_firstDayOf_10 : DecJ mi_X5_firstDayOf 10 (.if_icmp .ge 29) (29) 13 39 := ⟨by decide +kernel, rfl, by decide⟩
theorem D_X5_firstDayOf_13 : Dec mi_X5_firstDayOf 13 (.aload_n 0) 1 14 := ⟨by decide +kernel, rfl⟩
theorem D_X5_firstDayOf_14 : Dec mi_X5_firstDayOf 14 (.iload_n 2) 1 15 := ⟨by decide +kernel, rfl⟩
theorem D_X5_firstDayOf_15 : Dec mi_X5_firstDayOf 15 (.invokevirtual 62) 3 18 := ⟨by decide +kernel, rfl⟩
theorem D_X5_firstDayOf_18 : Dec mi_X5_firstDayOf 18 (.iload_n 1) 1 19 := ⟨by decide +kernel, rfl⟩
theorem D_X5_firstDayOf_19 : DecJ mi_X5_firstDayOf 19 (.if_icmp .eq 12) (12) 22 31 := ⟨by decide +kernel, rfl, by decide⟩
theorem D_X5_firstDayOf_22 : Dec mi_X5_firstDayOf 22 (.aload_n 0) 1 23 := ⟨by decide +kernel, rfl⟩
theorem D_X5_firstDayOf_23 : Dec mi_X5_firstDayOf 23 (.iload_n 2) 1 24 := ⟨by decide +kernel, rfl⟩
theorem D_X5_firstDayOf_24 : Dec mi_X5_firstDayOf 24 (.invokevirtual 66) 3 27 := ⟨by decide +kernel, rfl⟩
theorem D_X5_firstDayOf_27 : Dec mi_X5_firstDayOf 27 (.iload_n 1) 1 28 := ⟨by decide +kernel, rfl⟩
theorem D_X5_firstDayOf_28 : DecJ mi_X5_firstDayOf 28 (.if_icmp .ne 5) (5) 31 33 := ⟨by decide +kernel, rfl, by decide⟩
theorem D_X5_firstDayOf_31 : Dec mi_X5_firstDayOf 31 (.iload_n 2) 1 32 := ⟨by decide +kernel, rfl⟩
theorem D_X5_firstDayOf_32 : Dec mi_X5_firstDayOf 32 (.ireturn) 1 33 := ⟨by decide +kernel, rfl⟩
theorem D_X5_firstDayOf_33 : Dec mi_X5_firstDayOf 33 (.iinc 2 1) 3 36 := ⟨by decide +kernel, rfl⟩
theorem D_X5_firstDayOf_36 : DecJ mi_X5_firstDayOf 36 (.goto (-34)) (-34) 39 2 := ⟨by decide +kernel, rfl, by decide⟩
theorem D_X5_firstDayOf_39 : Dec mi_X5_firstDayOf 39 (.iconst (-1)) 1 40 := ⟨by decide +kernel, rfl⟩
theorem D_X5_firstDayOf_40 : Dec mi_X5_firstDayOf 40 (.ireturn) 1 41 := ⟨by decide +kernel, rfl⟩
def f_X5_firstDayOf_2 (F : Nat) (M : Mem) : Nat → Int32 → Int32 → Option Int32
  | 0, _, _ => none
  | n + 1, y1, y2 => if (f_X8_days M 3) ≤ y2 then (some (-1 : Int32)) else ((f_X5_topOn M y2).bind fun x2 => if x2 = y1 then (some y2) else ((f_X5_bottomOn M y2).bind fun x5 => if x5 = y1 then (some y2) else (f_X5_firstDayOf_2 F M n y1 (y2 + (1 : Int32)))))
theorem x_X5_firstDayOf_2 {l : Launch} {w : Wd} {κ : Kp} {F : Nat} {M : Mem} {v : Int32} (hq : RQ w (some (.int v), M) κ) : ∀ (n : Nat) (y1 : Int32) (y2 : Int32), f_X5_firstDayOf_2 F M n y1 y2 = some v → RR l w mi_X5_firstDayOf (2) κ 2 [] [some (.ref (wq w 17)), some (.int y1), some (.int y2)] M
  | 0, _, _, h => nomatch h
  | n + 1, y1, y2, h => let_h (show (if (f_X8_days M 3) ≤ y2 then (some (-1 : Int32)) else ((f_X5_topOn M y2).bind fun x2 => if x2 = y1 then (some y2) else ((f_X5_bottomOn M y2).bind fun x5 => if x5 = y1 then (some y2) else (f_X5_firstDayOf_2 F M n y1 (y2 + (1 : Int32)))))) = some v from h) fun h => r_iload_n D_X5_firstDayOf_2 rfl <| r_aload_n D_X5_firstDayOf_3 rfl <| r_getR (j := 3) D_X5_firstDayOf_4 fl_X5_34 s_17 rfl <| r_callV (av := []) D_X5_firstDayOf_7 ml_X5_56 mf_X8_days mv_X8_days s_3 rfl rfl (x_X8_days trip_3 rfl) (Nat.le_of_ble_eq_true rfl) rfl rfl (Nat.le_of_ble_eq_true rfl) <| r_icmp_ge D_X5_firstDayOf_10 (fun c1 => let_h (ifT c1 h) fun h => r_iconst D_X5_firstDayOf_39 ki_m1 <| r_iret hq D_X5_firstDayOf_40 rfl (rtP h)) (fun c1 => let_h (ifF c1 h) fun h => r_aload_n D_X5_firstDayOf_13 rfl <| r_iload_n D_X5_firstDayOf_14 rfl <| (bdE h).elim fun x2 q3 => let_h q3.2 fun h => r_callV (av := [.int y2]) D_X5_firstDayOf_15 ml_X5_62 mf_X5_topOn mv_X5_topOn s_17 rfl rfl (x_X5_topOn q3.1) (Nat.le_of_ble_eq_true rfl) rfl rfl (Nat.le_of_ble_eq_true rfl) <| r_iload_n D_X5_firstDayOf_18 rfl <| r_icmp_eq D_X5_firstDayOf_19 (fun c4 => let_h (ifT c4 h) fun h => r_iload_n D_X5_firstDayOf_31 rfl <| r_iret hq D_X5_firstDayOf_32 rfl (rtP h)) (fun c4 => let_h (ifF c4 h) fun h => r_aload_n D_X5_firstDayOf_22 rfl <| r_iload_n D_X5_firstDayOf_23 rfl <| (bdE h).elim fun x5 q6 => let_h q6.2 fun h => r_callV (av := [.int y2]) D_X5_firstDayOf_24 ml_X5_66 mf_X5_bottomOn mv_X5_bottomOn s_17 rfl rfl (x_X5_bottomOn q6.1) (Nat.le_of_ble_eq_true rfl) rfl rfl (Nat.le_of_ble_eq_true rfl) <| r_iload_n D_X5_firstDayOf_27 rfl <| r_icmp_ne D_X5_firstDayOf_28 (fun c7 => let_h (ifT c7 h) fun h => r_iload_n D_X5_firstDayOf_31 rfl <| r_iret hq D_X5_firstDayOf_32 rfl (rtP h)) (fun c7 => let_h (ifF c7 h) fun h => r_iinc D_X5_firstDayOf_33 rfl ki_1 (by decide) rfl <| r_goto D_X5_firstDayOf_36 <| r_ls (x_X5_firstDayOf_2 hq n y1 (y2 + (1 : Int32)) h) ⟨rfl, ⟨rfl, ⟨rfl, trivial⟩⟩⟩)))
def f_X5_firstDayOf (F : Nat) (M : Mem) (a1 : Int32) : Option Int32 := f_X5_firstDayOf_2 F M F a1 (0 : Int32)
theorem x_X5_firstDayOf {l : Launch} {w : Wd} {F : Nat} {M : Mem} {a1 : Int32} {v : Int32} (h : f_X5_firstDayOf F M a1 = some v) : Cn l w mi_X5_firstDayOf yX5_firstDayOf (2) [.ref (wq w 17), .int a1] M (some (.int v), M) :=
  Cn_of (loc0 := [some (.ref (wq w 17)), some (.int a1), none]) rfl rfl rfl (Nat.le_of_ble_eq_true rfl) fun κ hq => let_h (show (f_X5_firstDayOf_2 F M F a1 (0 : Int32)) = some v from h) fun h => r_iconst D_X5_firstDayOf_0 ki_0 <| r_istore_n D_X5_firstDayOf_1 (by decide) rfl <| r_ls (x_X5_firstDayOf_2 hq F a1 (0 : Int32) h) ⟨rfl, ⟨rfl, ⟨rfl, trivial⟩⟩⟩
-- X4_troubleOf
theorem D_X4_troubleOf_0 : Dec mi_X4_troubleOf 0 (.iconst 0) 1 1 := ⟨by decide +kernel, rfl⟩
theorem D_X4_troubleOf_1 : Dec mi_X4_troubleOf 1 (.istore_n 2) 1 2 := ⟨by decide +kernel, rfl⟩
theorem D_X4_troubleOf_2 : Dec mi_X4_troubleOf 2 (.iconst 0) 1 3 := ⟨by decide +kernel, rfl⟩
theorem D_X4_troubleOf_3 : Dec mi_X4_troubleOf 3 (.istore_n 3) 1 4 := ⟨by decide +kernel, rfl⟩
theorem D_X4_troubleOf_4 : Dec mi_X4_troubleOf 4 (.iload_n 3) 1 5 := ⟨by decide +kernel, rfl⟩
theorem D_X4_troubleOf_5 : Dec mi_X4_troubleOf 5 (.iload_n 1) 1 6 := ⟨by decide +kernel, rfl⟩
theorem D_X4_troubleOf_6 : DecJ mi_X4_troubleOf 6 (.if_icmp .ge 113) (113) 9 119 := ⟨by decide +kernel, rfl, by decide⟩
theorem D_X4_troubleOf_9 : Dec mi_X4_troubleOf 9 (.iload_n 1) 1 10 := ⟨by decide +kernel, rfl⟩
theorem D_X4_troubleOf_10 : Dec mi_X4_troubleOf 10 (.bipush 6) 2 12 := ⟨by decide +kernel, rfl⟩
theorem D_X4_troubleOf_12 : DecJ mi_X4_troubleOf 12 (.if_icmp .ge 107) (107) 15 119 := ⟨by decide +kernel, rfl, by decide⟩
theorem D_X4_troubleOf_15 : Dec mi_X4_troubleOf 15 (.aload_n 0) 1 16 := ⟨by decide +kernel, rfl⟩
theorem D_X4_troubleOf_16 : Dec mi_X4_troubleOf 16 (.getfield 15) 3 19 := ⟨by decide +kernel, rfl⟩
theorem D_X4_troubleOf_19 : Dec mi_X4_troubleOf 19 (.iload_n 1) 1 20 := ⟨by decide +kernel, rfl⟩
theorem D_X4_troubleOf_20 : Dec mi_X4_troubleOf 20 (.iaload) 1 21 := ⟨by decide +kernel, rfl⟩
theorem D_X4_troubleOf_21 : Dec mi_X4_troubleOf 21 (.aload_n 0) 1 22 := ⟨by decide +kernel, rfl⟩
theorem D_X4_troubleOf_22 : Dec mi_X4_troubleOf 22 (.getfield 15) 3 25 := ⟨by decide +kernel, rfl⟩
theorem D_X4_troubleOf_25 : Dec mi_X4_troubleOf 25 (.iload_n 3) 1 26 := ⟨by decide +kernel, rfl⟩
theorem D_X4_troubleOf_26 : Dec mi_X4_troubleOf 26 (.iaload) 1 27 := ⟨by decide +kernel, rfl⟩
theorem D_X4_troubleOf_27 : DecJ mi_X4_troubleOf 27 (.if_icmp .le 22) (22) 30 49 := ⟨by decide +kernel, rfl, by decide⟩
theorem D_X4_troubleOf_30 : Dec mi_X4_troubleOf 30 (.aload_n 0) 1 31 := ⟨by decide +kernel, rfl⟩
theorem D_X4_troubleOf_31 : Dec mi_X4_troubleOf 31 (.getfield 9) 3 34 := ⟨by decide +kernel, rfl⟩
theorem D_X4_troubleOf_34 : Dec mi_X4_troubleOf 34 (.iload_n 3) 1 35 := ⟨by decide +kernel, rfl⟩
theorem D_X4_troubleOf_35 : Dec mi_X4_troubleOf 35 (.iaload) 1 36 := ⟨by decide +kernel, rfl⟩
theorem D_X4_troubleOf_36 : Dec mi_X4_troubleOf 36 (.aload_n 0) 1 37 := ⟨by decide +kernel, rfl⟩
theorem D_X4_troubleOf_37 : Dec mi_X4_troubleOf 37 (.getfield 9) 3 40 := ⟨by decide +kernel, rfl⟩
theorem D_X4_troubleOf_40 : Dec mi_X4_troubleOf 40 (.iload_n 1) 1 41 := ⟨by decide +kernel, rfl⟩
theorem D_X4_troubleOf_41 : Dec mi_X4_troubleOf 41 (.iaload) 1 42 := ⟨by decide +kernel, rfl⟩
theorem D_X4_troubleOf_42 : DecJ mi_X4_troubleOf 42 (.if_icmp .ge 7) (7) 45 49 := ⟨by decide +kernel, rfl, by decide⟩
theorem D_X4_troubleOf_45 : Dec mi_X4_troubleOf 45 (.iconst 1) 1 46 := ⟨by decide +kernel, rfl⟩
theorem D_X4_troubleOf_46 : DecJ mi_X4_troubleOf 46 (.goto 4) (4) 49 50 := ⟨by decide +kernel, rfl, by decide⟩
theorem D_X4_troubleOf_49 : Dec mi_X4_troubleOf 49 (.iconst 0) 1 50 := ⟨by decide +kernel, rfl⟩
theorem D_X4_troubleOf_50 : Dec mi_X4_troubleOf 50 (.istore 4) 2 52 := ⟨by decide +kernel, rfl⟩
theorem D_X4_troubleOf_52 : Dec mi_X4_troubleOf 52 (.aload_n 0) 1 53 := ⟨by decide +kernel, rfl⟩
theorem D_X4_troubleOf_53 : Dec mi_X4_troubleOf 53 (.getfield 15) 3 56 := ⟨by decide +kernel, rfl⟩
theorem D_X4_troubleOf_56 : Dec mi_X4_troubleOf 56 (.iload_n 3) 1 57 := ⟨by decide +kernel, rfl⟩
theorem D_X4_troubleOf_57 : Dec mi_X4_troubleOf 57 (.iaload) 1 58 := ⟨by decide +kernel, rfl⟩
theorem D_X4_troubleOf_58 : Dec mi_X4_troubleOf 58 (.aload_n 0) 1 59 := ⟨by decide +kernel, rfl⟩
theorem D_X4_troubleOf_59 : Dec mi_X4_troubleOf 59 (.getfield 15) 3 62 := ⟨by decide +kernel, rfl⟩
theorem D_X4_troubleOf_62 : Dec mi_X4_troubleOf 62 (.iload_n 1) 1 63 := ⟨by decide +kernel, rfl⟩
theorem D_X4_troubleOf_63 : Dec mi_X4_troubleOf 63 (.iaload) 1 64 := ⟨by decide +kernel, rfl⟩
theorem D_X4_troubleOf_64 : DecJ mi_X4_troubleOf 64 (.if_icmp .le 22) (22) 67 86 := ⟨by decide +kernel, rfl, by decide⟩
theorem D_X4_troubleOf_67 : Dec mi_X4_troubleOf 67 (.aload_n 0) 1 68 := ⟨by decide +kernel, rfl⟩
theorem D_X4_troubleOf_68 : Dec mi_X4_troubleOf 68 (.getfield 9) 3 71 := ⟨by decide +kernel, rfl⟩
theorem D_X4_troubleOf_71 : Dec mi_X4_troubleOf 71 (.iload_n 1) 1 72 := ⟨by decide +kernel, rfl⟩
theorem D_X4_troubleOf_72 : Dec mi_X4_troubleOf 72 (.iaload) 1 73 := ⟨by decide +kernel, rfl⟩
theorem D_X4_troubleOf_73 : Dec mi_X4_troubleOf 73 (.aload_n 0) 1 74 := ⟨by decide +kernel, rfl⟩
theorem D_X4_troubleOf_74 : Dec mi_X4_troubleOf 74 (.getfield 9) 3 77 := ⟨by decide +kernel, rfl⟩
theorem D_X4_troubleOf_77 : Dec mi_X4_troubleOf 77 (.iload_n 3) 1 78 := ⟨by decide +kernel, rfl⟩
theorem D_X4_troubleOf_78 : Dec mi_X4_troubleOf 78 (.iaload) 1 79 := ⟨by decide +kernel, rfl⟩
theorem D_X4_troubleOf_79 : DecJ mi_X4_troubleOf 79 (.if_icmp .ge 7) (7) 82 86 := ⟨by decide +kernel, rfl, by decide⟩
theorem D_X4_troubleOf_82 : Dec mi_X4_troubleOf 82 (.iconst 1) 1 83 := ⟨by decide +kernel, rfl⟩
theorem D_X4_troubleOf_83 : DecJ mi_X4_troubleOf 83 (.goto 4) (4) 86 87 := ⟨by decide +kernel, rfl, by decide⟩
theorem D_X4_troubleOf_86 : Dec mi_X4_troubleOf 86 (.iconst 0) 1 87 := ⟨by decide +kernel, rfl⟩
theorem D_X4_troubleOf_87 : Dec mi_X4_troubleOf 87 (.istore 5) 2 89 := ⟨by decide +kernel, rfl⟩
theorem D_X4_troubleOf_89 : Dec mi_X4_troubleOf 89 (.aload_n 0) 1 90 := ⟨by decide +kernel, rfl⟩
theorem D_X4_troubleOf_90 : Dec mi_X4_troubleOf 90 (.getfield 32) 3 93 := ⟨by decide +kernel, rfl⟩
theorem D_X4_troubleOf_93 : Dec mi_X4_troubleOf 93 (.iload_n 3) 1 94 := ⟨by decide +kernel, rfl⟩
theorem D_X4_troubleOf_94 : Dec mi_X4_troubleOf 94 (.invokestatic 60) 3 97 := ⟨by decide +kernel, rfl⟩
theorem D_X4_troubleOf_97 : DecJ mi_X4_troubleOf 97 (.ifCond .eq 16) (16) 100 113 := ⟨by decide +kernel, rfl, by decide⟩
theorem D_X4_troubleOf_100 : Dec mi_X4_troubleOf 100 (.iload 4) 2 102 := ⟨by decide +kernel, rfl⟩
theorem D_X4_troubleOf_102 : DecJ mi_X4_troubleOf 102 (.ifCond .ne 8) (8) 105 110 := ⟨by decide +kernel, rfl, by decide⟩
theorem D_X4_troubleOf_105 : Dec mi_X4_troubleOf 105 (.iload 5) 2 107 := ⟨by decide +kernel, rfl⟩
theorem D_X4_troubleOf_107 : DecJ mi_X4_troubleOf 107 (.ifCond .eq 6) (6) 110 113 := ⟨by decide +kernel, rfl, by decide⟩
theorem D_X4_troubleOf_110 : Dec mi_X4_troubleOf 110 (.iinc 2 1) 3 113 := ⟨by decide +kernel, rfl⟩
theorem D_X4_troubleOf_113 : Dec mi_X4_troubleOf 113 (.iinc 3 1) 3 116 := ⟨by decide +kernel, rfl⟩
theorem D_X4_troubleOf_116 : DecJ mi_X4_troubleOf 116 (.goto (-112)) (-112) 119 4 := ⟨by decide +kernel, rfl, by decide⟩
theorem D_X4_troubleOf_119 : Dec mi_X4_troubleOf 119 (.iload_n 2) 1 120 := ⟨by decide +kernel, rfl⟩
theorem D_X4_troubleOf_120 : Dec mi_X4_troubleOf 120 (.ireturn) 1 121 := ⟨by decide +kernel, rfl⟩
def f_X4_troubleOf_50 (F : Nat) (M : Mem) (K_4 : Int32 → Int32 → Int32 → Option Int32) (y1 : Int32) (y2 : Int32) (y3 : Int32) (t0 : Int32) : Option Int32 := if ck y3 6 = true then (if ck y1 6 = true then (if (M.1 29 y3.toNatClampNeg) ≤ (M.1 29 y1.toNatClampNeg) then (if (f_X9_has M (M.1 27 6) y3) = 0 then (K_4 y1 y2 (y3 + (1 : Int32))) else (if t0 = 0 then (if (0 : Int32) = 0 then (K_4 y1 y2 (y3 + (1 : Int32))) else (K_4 y1 (y2 + (1 : Int32)) (y3 + (1 : Int32)))) else (K_4 y1 (y2 + (1 : Int32)) (y3 + (1 : Int32))))) else (if ck y1 6 = true then (if ck y3 6 = true then (if (M.1 28 y3.toNatClampNeg) ≤ (M.1 28 y1.toNatClampNeg) then (if (f_X9_has M (M.1 27 6) y3) = 0 then (K_4 y1 y2 (y3 + (1 : Int32))) else (if t0 = 0 then (if (0 : Int32) = 0 then (K_4 y1 y2 (y3 + (1 : Int32))) else (K_4 y1 (y2 + (1 : Int32)) (y3 + (1 : Int32)))) else (K_4 y1 (y2 + (1 : Int32)) (y3 + (1 : Int32))))) else (if (f_X9_has M (M.1 27 6) y3) = 0 then (K_4 y1 y2 (y3 + (1 : Int32))) else (if t0 = 0 then (if (1 : Int32) = 0 then (K_4 y1 y2 (y3 + (1 : Int32))) else (K_4 y1 (y2 + (1 : Int32)) (y3 + (1 : Int32)))) else (K_4 y1 (y2 + (1 : Int32)) (y3 + (1 : Int32)))))) else none) else none)) else none) else none
theorem x_X4_troubleOf_50 {l : Launch} {w : Wd} {κ : Kp} {F : Nat} {M : Mem} {v : Int32} {K_4 : Int32 → Int32 → Int32 → Option Int32} (hq : RQ w (some (.int v), M) κ) (hK_4 : ∀ (y1 : Int32) (y2 : Int32) (y3 : Int32), K_4 y1 y2 y3 = some v → RR l w mi_X4_troubleOf (1) κ 4 [] [some (.ref (wq w 27)), some (.int y1), some (.int y2), some (.int y3), none, none] M) (y1 : Int32) (y2 : Int32) (y3 : Int32) (t0 : Int32) (h : f_X4_troubleOf_50 F M K_4 y1 y2 y3 t0 = some v) : RR l w mi_X4_troubleOf (1) κ 50 [.int t0] [some (.ref (wq w 27)), some (.int y1), some (.int y2), some (.int y3), none, none] M := let_h (show (if ck y3 6 = true then (if ck y1 6 = true then (if (M.1 29 y3.toNatClampNeg) ≤ (M.1 29 y1.toNatClampNeg) then (if (f_X9_has M (M.1 27 6) y3) = 0 then (K_4 y1 y2 (y3 + (1 : Int32))) else (if t0 = 0 then (if (0 : Int32) = 0 then (K_4 y1 y2 (y3 + (1 : Int32))) else (K_4 y1 (y2 + (1 : Int32)) (y3 + (1 : Int32)))) else (K_4 y1 (y2 + (1 : Int32)) (y3 + (1 : Int32))))) else (if ck y1 6 = true then (if ck y3 6 = true then (if (M.1 28 y3.toNatClampNeg) ≤ (M.1 28 y1.toNatClampNeg) then (if (f_X9_has M (M.1 27 6) y3) = 0 then (K_4 y1 y2 (y3 + (1 : Int32))) else (if t0 = 0 then (if (0 : Int32) = 0 then (K_4 y1 y2 (y3 + (1 : Int32))) else (K_4 y1 (y2 + (1 : Int32)) (y3 + (1 : Int32)))) else (K_4 y1 (y2 + (1 : Int32)) (y3 + (1 : Int32))))) else (if (f_X9_has M (M.1 27 6) y3) = 0 then (K_4 y1 y2 (y3 + (1 : Int32))) else (if t0 = 0 then (if (1 : Int32) = 0 then (K_4 y1 y2 (y3 + (1 : Int32))) else (K_4 y1 (y2 + (1 : Int32)) (y3 + (1 : Int32)))) else (K_4 y1 (y2 + (1 : Int32)) (y3 + (1 : Int32)))))) else none) else none)) else none) else none) = some v from h) fun h => r_istore D_X4_troubleOf_50 (by decide) rfl <| r_aload_n D_X4_troubleOf_52 rfl <| r_getR (j := 29) D_X4_troubleOf_53 fl_X4_15 s_27 rfl <| r_iload_n D_X4_troubleOf_56 rfl <| (ckE h).elim fun c1 h => r_iald D_X4_troubleOf_57 s_29 c1 <| r_aload_n D_X4_troubleOf_58 rfl <| r_getR (j := 29) D_X4_troubleOf_59 fl_X4_15 s_27 rfl <| r_iload_n D_X4_troubleOf_62 rfl <| (ckE h).elim fun c2 h => r_iald D_X4_troubleOf_63 s_29 c2 <| r_icmp_le D_X4_troubleOf_64 (fun c3 => let_h (ifT c3 h) fun h => r_iconst D_X4_troubleOf_86 ki_0 <| r_istore D_X4_troubleOf_87 (by decide) rfl <| r_aload_n D_X4_troubleOf_89 rfl <| r_getI D_X4_troubleOf_90 fl_X4_32 s_27 rfl <| r_iload_n D_X4_troubleOf_93 rfl <| r_callN (av := [.int (M.1 27 6), .int y3]) D_X4_troubleOf_94 nl_X4_60 mf_X9_has ms_X9_has (x_X9_has rfl) (Nat.le_of_ble_eq_true rfl) rfl rfl (Nat.le_of_ble_eq_true rfl) <| r_if_eq D_X4_troubleOf_97 (fun c4 => let_h (ifT c4 h) fun h => r_iinc D_X4_troubleOf_113 rfl ki_1 (by decide) rfl <| r_goto D_X4_troubleOf_116 <| r_ls (hK_4 y1 y2 (y3 + (1 : Int32)) h) ⟨rfl, ⟨rfl, ⟨rfl, ⟨rfl, trivial⟩⟩⟩⟩) (fun c4 => let_h (ifF c4 h) fun h => r_iload D_X4_troubleOf_100 rfl <| r_if_ne D_X4_troubleOf_102 (fun c5 => let_h (ifT c5 h) fun h => r_iload D_X4_troubleOf_105 rfl <| r_if_eq D_X4_troubleOf_107 (fun c6 => let_h (ifT c6 h) fun h => r_iinc D_X4_troubleOf_113 rfl ki_1 (by decide) rfl <| r_goto D_X4_troubleOf_116 <| r_ls (hK_4 y1 y2 (y3 + (1 : Int32)) h) ⟨rfl, ⟨rfl, ⟨rfl, ⟨rfl, trivial⟩⟩⟩⟩) (fun c6 => let_h (ifF c6 h) fun h => r_iinc D_X4_troubleOf_110 rfl ki_1 (by decide) rfl <| r_iinc D_X4_troubleOf_113 rfl ki_1 (by decide) rfl <| r_goto D_X4_troubleOf_116 <| r_ls (hK_4 y1 (y2 + (1 : Int32)) (y3 + (1 : Int32)) h) ⟨rfl, ⟨rfl, ⟨rfl, ⟨rfl, trivial⟩⟩⟩⟩)) (fun c5 => let_h (ifF c5 h) fun h => r_iinc D_X4_troubleOf_110 rfl ki_1 (by decide) rfl <| r_iinc D_X4_troubleOf_113 rfl ki_1 (by decide) rfl <| r_goto D_X4_troubleOf_116 <| r_ls (hK_4 y1 (y2 + (1 : Int32)) (y3 + (1 : Int32)) h) ⟨rfl, ⟨rfl, ⟨rfl, ⟨rfl, trivial⟩⟩⟩⟩))) (fun c3 => let_h (ifF c3 h) fun h => r_aload_n D_X4_troubleOf_67 rfl <| r_getR (j := 28) D_X4_troubleOf_68 fl_X4_9 s_27 rfl <| r_iload_n D_X4_troubleOf_71 rfl <| (ckE h).elim fun c7 h => r_iald D_X4_troubleOf_72 s_28 c7 <| r_aload_n D_X4_troubleOf_73 rfl <| r_getR (j := 28) D_X4_troubleOf_74 fl_X4_9 s_27 rfl <| r_iload_n D_X4_troubleOf_77 rfl <| (ckE h).elim fun c8 h => r_iald D_X4_troubleOf_78 s_28 c8 <| r_icmp_ge D_X4_troubleOf_79 (fun c9 => let_h (ifT c9 h) fun h => r_iconst D_X4_troubleOf_86 ki_0 <| r_istore D_X4_troubleOf_87 (by decide) rfl <| r_aload_n D_X4_troubleOf_89 rfl <| r_getI D_X4_troubleOf_90 fl_X4_32 s_27 rfl <| r_iload_n D_X4_troubleOf_93 rfl <| r_callN (av := [.int (M.1 27 6), .int y3]) D_X4_troubleOf_94 nl_X4_60 mf_X9_has ms_X9_has (x_X9_has rfl) (Nat.le_of_ble_eq_true rfl) rfl rfl (Nat.le_of_ble_eq_true rfl) <| r_if_eq D_X4_troubleOf_97 (fun c10 => let_h (ifT c10 h) fun h => r_iinc D_X4_troubleOf_113 rfl ki_1 (by decide) rfl <| r_goto D_X4_troubleOf_116 <| r_ls (hK_4 y1 y2 (y3 + (1 : Int32)) h) ⟨rfl, ⟨rfl, ⟨rfl, ⟨rfl, trivial⟩⟩⟩⟩) (fun c10 => let_h (ifF c10 h) fun h => r_iload D_X4_troubleOf_100 rfl <| r_if_ne D_X4_troubleOf_102 (fun c11 => let_h (ifT c11 h) fun h => r_iload D_X4_troubleOf_105 rfl <| r_if_eq D_X4_troubleOf_107 (fun c12 => let_h (ifT c12 h) fun h => r_iinc D_X4_troubleOf_113 rfl ki_1 (by decide) rfl <| r_goto D_X4_troubleOf_116 <| r_ls (hK_4 y1 y2 (y3 + (1 : Int32)) h) ⟨rfl, ⟨rfl, ⟨rfl, ⟨rfl, trivial⟩⟩⟩⟩) (fun c12 => let_h (ifF c12 h) fun h => r_iinc D_X4_troubleOf_110 rfl ki_1 (by decide) rfl <| r_iinc D_X4_troubleOf_113 rfl ki_1 (by decide) rfl <| r_goto D_X4_troubleOf_116 <| r_ls (hK_4 y1 (y2 + (1 : Int32)) (y3 + (1 : Int32)) h) ⟨rfl, ⟨rfl, ⟨rfl, ⟨rfl, trivial⟩⟩⟩⟩)) (fun c11 => let_h (ifF c11 h) fun h => r_iinc D_X4_troubleOf_110 rfl ki_1 (by decide) rfl <| r_iinc D_X4_troubleOf_113 rfl ki_1 (by decide) rfl <| r_goto D_X4_troubleOf_116 <| r_ls (hK_4 y1 (y2 + (1 : Int32)) (y3 + (1 : Int32)) h) ⟨rfl, ⟨rfl, ⟨rfl, ⟨rfl, trivial⟩⟩⟩⟩))) (fun c9 => let_h (ifF c9 h) fun h => r_iconst D_X4_troubleOf_82 ki_1 <| r_goto D_X4_troubleOf_83 <| r_istore D_X4_troubleOf_87 (by decide) rfl <| r_aload_n D_X4_troubleOf_89 rfl <| r_getI D_X4_troubleOf_90 fl_X4_32 s_27 rfl <| r_iload_n D_X4_troubleOf_93 rfl <| r_callN (av := [.int (M.1 27 6), .int y3]) D_X4_troubleOf_94 nl_X4_60 mf_X9_has ms_X9_has (x_X9_has rfl) (Nat.le_of_ble_eq_true rfl) rfl rfl (Nat.le_of_ble_eq_true rfl) <| r_if_eq D_X4_troubleOf_97 (fun c13 => let_h (ifT c13 h) fun h => r_iinc D_X4_troubleOf_113 rfl ki_1 (by decide) rfl <| r_goto D_X4_troubleOf_116 <| r_ls (hK_4 y1 y2 (y3 + (1 : Int32)) h) ⟨rfl, ⟨rfl, ⟨rfl, ⟨rfl, trivial⟩⟩⟩⟩) (fun c13 => let_h (ifF c13 h) fun h => r_iload D_X4_troubleOf_100 rfl <| r_if_ne D_X4_troubleOf_102 (fun c14 => let_h (ifT c14 h) fun h => r_iload D_X4_troubleOf_105 rfl <| r_if_eq D_X4_troubleOf_107 (fun c15 => let_h (ifT c15 h) fun h => r_iinc D_X4_troubleOf_113 rfl ki_1 (by decide) rfl <| r_goto D_X4_troubleOf_116 <| r_ls (hK_4 y1 y2 (y3 + (1 : Int32)) h) ⟨rfl, ⟨rfl, ⟨rfl, ⟨rfl, trivial⟩⟩⟩⟩) (fun c15 => let_h (ifF c15 h) fun h => r_iinc D_X4_troubleOf_110 rfl ki_1 (by decide) rfl <| r_iinc D_X4_troubleOf_113 rfl ki_1 (by decide) rfl <| r_goto D_X4_troubleOf_116 <| r_ls (hK_4 y1 (y2 + (1 : Int32)) (y3 + (1 : Int32)) h) ⟨rfl, ⟨rfl, ⟨rfl, ⟨rfl, trivial⟩⟩⟩⟩)) (fun c14 => let_h (ifF c14 h) fun h => r_iinc D_X4_troubleOf_110 rfl ki_1 (by decide) rfl <| r_iinc D_X4_troubleOf_113 rfl ki_1 (by decide) rfl <| r_goto D_X4_troubleOf_116 <| r_ls (hK_4 y1 (y2 + (1 : Int32)) (y3 + (1 : Int32)) h) ⟨rfl, ⟨rfl, ⟨rfl, ⟨rfl, trivial⟩⟩⟩⟩))))
def f_X4_troubleOf_4 (F : Nat) (M : Mem) : Nat → Int32 → Int32 → Int32 → Option Int32
  | 0, _, _, _ => none
  | n + 1, y1, y2, y3 => if y1 ≤ y3 then (some y2) else (if (6 : Int32) ≤ y1 then (some y2) else (if ck y1 6 = true then (if ck y3 6 = true then (if (M.1 29 y1.toNatClampNeg) ≤ (M.1 29 y3.toNatClampNeg) then (f_X4_troubleOf_50 F M (fun y1 y2 y3 => f_X4_troubleOf_4 F M n y1 y2 y3) y1 y2 y3 (0 : Int32)) else (if ck y3 6 = true then (if ck y1 6 = true then (if (M.1 28 y1.toNatClampNeg) ≤ (M.1 28 y3.toNatClampNeg) then (f_X4_troubleOf_50 F M (fun y1 y2 y3 => f_X4_troubleOf_4 F M n y1 y2 y3) y1 y2 y3 (0 : Int32)) else (f_X4_troubleOf_50 F M (fun y1 y2 y3 => f_X4_troubleOf_4 F M n y1 y2 y3) y1 y2 y3 (1 : Int32))) else none) else none)) else none) else none))
theorem x_X4_troubleOf_4 {l : Launch} {w : Wd} {κ : Kp} {F : Nat} {M : Mem} {v : Int32} (hq : RQ w (some (.int v), M) κ) : ∀ (n : Nat) (y1 : Int32) (y2 : Int32) (y3 : Int32), f_X4_troubleOf_4 F M n y1 y2 y3 = some v → RR l w mi_X4_troubleOf (1) κ 4 [] [some (.ref (wq w 27)), some (.int y1), some (.int y2), some (.int y3), none, none] M
  | 0, _, _, _, h => nomatch h
  | n + 1, y1, y2, y3, h => let_h (show (if y1 ≤ y3 then (some y2) else (if (6 : Int32) ≤ y1 then (some y2) else (if ck y1 6 = true then (if ck y3 6 = true then (if (M.1 29 y1.toNatClampNeg) ≤ (M.1 29 y3.toNatClampNeg) then (f_X4_troubleOf_50 F M (fun y1 y2 y3 => f_X4_troubleOf_4 F M n y1 y2 y3) y1 y2 y3 (0 : Int32)) else (if ck y3 6 = true then (if ck y1 6 = true then (if (M.1 28 y1.toNatClampNeg) ≤ (M.1 28 y3.toNatClampNeg) then (f_X4_troubleOf_50 F M (fun y1 y2 y3 => f_X4_troubleOf_4 F M n y1 y2 y3) y1 y2 y3 (0 : Int32)) else (f_X4_troubleOf_50 F M (fun y1 y2 y3 => f_X4_troubleOf_4 F M n y1 y2 y3) y1 y2 y3 (1 : Int32))) else none) else none)) else none) else none))) = some v from h) fun h => r_iload_n D_X4_troubleOf_4 rfl <| r_iload_n D_X4_troubleOf_5 rfl <| r_icmp_ge D_X4_troubleOf_6 (fun c1 => let_h (ifT c1 h) fun h => r_iload_n D_X4_troubleOf_119 rfl <| r_iret hq D_X4_troubleOf_120 rfl (rtP h)) (fun c1 => let_h (ifF c1 h) fun h => r_iload_n D_X4_troubleOf_9 rfl <| r_bipush D_X4_troubleOf_10 k8_6 <| r_icmp_ge D_X4_troubleOf_12 (fun c2 => let_h (ifT c2 h) fun h => r_iload_n D_X4_troubleOf_119 rfl <| r_iret hq D_X4_troubleOf_120 rfl (rtP h)) (fun c2 => let_h (ifF c2 h) fun h => r_aload_n D_X4_troubleOf_15 rfl <| r_getR (j := 29) D_X4_troubleOf_16 fl_X4_15 s_27 rfl <| r_iload_n D_X4_troubleOf_19 rfl <| (ckE h).elim fun c3 h => r_iald D_X4_troubleOf_20 s_29 c3 <| r_aload_n D_X4_troubleOf_21 rfl <| r_getR (j := 29) D_X4_troubleOf_22 fl_X4_15 s_27 rfl <| r_iload_n D_X4_troubleOf_25 rfl <| (ckE h).elim fun c4 h => r_iald D_X4_troubleOf_26 s_29 c4 <| r_icmp_le D_X4_troubleOf_27 (fun c5 => let_h (ifT c5 h) fun h => r_iconst D_X4_troubleOf_49 ki_0 <| r_ls (x_X4_troubleOf_50 hq (fun y1 y2 y3 h => x_X4_troubleOf_4 hq n y1 y2 y3 h) y1 y2 y3 (0 : Int32) h) ⟨rfl, ⟨rfl, ⟨rfl, ⟨rfl, trivial⟩⟩⟩⟩) (fun c5 => let_h (ifF c5 h) fun h => r_aload_n D_X4_troubleOf_30 rfl <| r_getR (j := 28) D_X4_troubleOf_31 fl_X4_9 s_27 rfl <| r_iload_n D_X4_troubleOf_34 rfl <| (ckE h).elim fun c6 h => r_iald D_X4_troubleOf_35 s_28 c6 <| r_aload_n D_X4_troubleOf_36 rfl <| r_getR (j := 28) D_X4_troubleOf_37 fl_X4_9 s_27 rfl <| r_iload_n D_X4_troubleOf_40 rfl <| (ckE h).elim fun c7 h => r_iald D_X4_troubleOf_41 s_28 c7 <| r_icmp_ge D_X4_troubleOf_42 (fun c8 => let_h (ifT c8 h) fun h => r_iconst D_X4_troubleOf_49 ki_0 <| r_ls (x_X4_troubleOf_50 hq (fun y1 y2 y3 h => x_X4_troubleOf_4 hq n y1 y2 y3 h) y1 y2 y3 (0 : Int32) h) ⟨rfl, ⟨rfl, ⟨rfl, ⟨rfl, trivial⟩⟩⟩⟩) (fun c8 => let_h (ifF c8 h) fun h => r_iconst D_X4_troubleOf_45 ki_1 <| r_goto D_X4_troubleOf_46 <| r_ls (x_X4_troubleOf_50 hq (fun y1 y2 y3 h => x_X4_troubleOf_4 hq n y1 y2 y3 h) y1 y2 y3 (1 : Int32) h) ⟨rfl, ⟨rfl, ⟨rfl, ⟨rfl, trivial⟩⟩⟩⟩))))
def f_X4_troubleOf (F : Nat) (M : Mem) (a1 : Int32) : Option Int32 := f_X4_troubleOf_4 F M F a1 (0 : Int32) (0 : Int32)
theorem x_X4_troubleOf {l : Launch} {w : Wd} {F : Nat} {M : Mem} {a1 : Int32} {v : Int32} (h : f_X4_troubleOf F M a1 = some v) : Cn l w mi_X4_troubleOf yX4_troubleOf (1) [.ref (wq w 27), .int a1] M (some (.int v), M) :=
  Cn_of (loc0 := [some (.ref (wq w 27)), some (.int a1), none, none, none, none]) rfl rfl rfl (Nat.le_of_ble_eq_true rfl) fun κ hq => let_h (show (f_X4_troubleOf_4 F M F a1 (0 : Int32) (0 : Int32)) = some v from h) fun h => r_iconst D_X4_troubleOf_0 ki_0 <| r_istore_n D_X4_troubleOf_1 (by decide) rfl <| r_iconst D_X4_troubleOf_2 ki_0 <| r_istore_n D_X4_troubleOf_3 (by decide) rfl <| r_ls (x_X4_troubleOf_4 hq F a1 (0 : Int32) (0 : Int32) h) ⟨rfl, ⟨rfl, ⟨rfl, ⟨rfl, trivial⟩⟩⟩⟩
-- X4_lay
theorem D_X4_lay_0 : Dec mi_X4_lay 0 (.iload_n 2) 1 1 := ⟨by decide +kernel, rfl⟩
theorem D_X4_lay_1 : Dec mi_X4_lay 1 (.aload_n 0) 1 2 := ⟨by decide +kernel, rfl⟩
theorem D_X4_lay_2 : Dec mi_X4_lay 2 (.getfield 39) 3 5 := ⟨by decide +kernel, rfl⟩
theorem D_X4_lay_5 : DecJ mi_X4_lay 5 (.if_icmp .lt 4) (4) 8 9 := ⟨by decide +kernel, rfl, by decide⟩
theorem D_X4_lay_8 : Dec mi_X4_lay 8 (.return_) 1 9 := ⟨by decide +kernel, rfl⟩
theorem D_X4_lay_9 : Dec mi_X4_lay 9 (.iload_n 1) 1 10 := ⟨by decide +kernel, rfl⟩
theorem D_X4_lay_10 : DecJ mi_X4_lay 10 (.ifCond .lt 9) (9) 13 19 := ⟨by decide +kernel, rfl, by decide⟩
theorem D_X4_lay_13 : Dec mi_X4_lay 13 (.iload_n 1) 1 14 := ⟨by decide +kernel, rfl⟩
theorem D_X4_lay_14 : Dec mi_X4_lay 14 (.bipush 6) 2 16 := ⟨by decide +kernel, rfl⟩
theorem D_X4_lay_16 : DecJ mi_X4_lay 16 (.if_icmp .lt 24) (24) 19 40 := ⟨by decide +kernel, rfl, by decide⟩
theorem D_X4_lay_19 : Dec mi_X4_lay 19 (.aload_n 0) 1 20 := ⟨by decide +kernel, rfl⟩
theorem D_X4_lay_20 : Dec mi_X4_lay 20 (.iload_n 2) 1 21 := ⟨by decide +kernel, rfl⟩
theorem D_X4_lay_21 : Dec mi_X4_lay 21 (.putfield 39) 3 24 := ⟨by decide +kernel, rfl⟩
theorem D_X4_lay_24 : Dec mi_X4_lay 24 (.aload_n 0) 1 25 := ⟨by decide +kernel, rfl⟩
theorem D_X4_lay_25 : Dec mi_X4_lay 25 (.getfield 15) 3 28 := ⟨by decide +kernel, rfl⟩
theorem D_X4_lay_28 : Dec mi_X4_lay 28 (.iconst 0) 1 29 := ⟨by decide +kernel, rfl⟩
theorem D_X4_lay_29 : Dec mi_X4_lay 29 (.aload_n 0) 1 30 := ⟨by decide +kernel, rfl⟩
theorem D_X4_lay_30 : Dec mi_X4_lay 30 (.getfield 18) 3 33 := ⟨by decide +kernel, rfl⟩
theorem D_X4_lay_33 : Dec mi_X4_lay 33 (.iconst 0) 1 34 := ⟨by decide +kernel, rfl⟩
theorem D_X4_lay_34 : Dec mi_X4_lay 34 (.bipush 6) 2 36 := ⟨by decide +kernel, rfl⟩
theorem D_X4_lay_36 : Dec mi_X4_lay 36 (.invokestatic 68) 3 39 := ⟨by decide +kernel, rfl⟩
theorem D_X4_lay_39 : Dec mi_X4_lay 39 (.return_) 1 40 := ⟨by decide +kernel, rfl⟩
theorem D_X4_lay_40 : Dec mi_X4_lay 40 (.aload_n 0) 1 41 := ⟨by decide +kernel, rfl⟩
theorem D_X4_lay_41 : Dec mi_X4_lay 41 (.getfield 32) 3 44 := ⟨by decide +kernel, rfl⟩
theorem D_X4_lay_44 : Dec mi_X4_lay 44 (.iload_n 1) 1 45 := ⟨by decide +kernel, rfl⟩
theorem D_X4_lay_45 : Dec mi_X4_lay 45 (.invokestatic 60) 3 48 := ⟨by decide +kernel, rfl⟩
theorem D_X4_lay_48 : DecJ mi_X4_lay 48 (.ifCond .ne 12) (12) 51 60 := ⟨by decide +kernel, rfl, by decide⟩
theorem D_X4_lay_51 : Dec mi_X4_lay 51 (.aload_n 0) 1 52 := ⟨by decide +kernel, rfl⟩
theorem D_X4_lay_52 : Dec mi_X4_lay 52 (.iload_n 1) 1 53 := ⟨by decide +kernel, rfl⟩
theorem D_X4_lay_53 : Dec mi_X4_lay 53 (.iconst 1) 1 54 := ⟨by decide +kernel, rfl⟩
theorem D_X4_lay_54 : Dec mi_X4_lay 54 (.iadd) 1 55 := ⟨by decide +kernel, rfl⟩
theorem D_X4_lay_55 : Dec mi_X4_lay 55 (.iload_n 2) 1 56 := ⟨by decide +kernel, rfl⟩
theorem D_X4_lay_56 : Dec mi_X4_lay 56 (.invokevirtual 64) 3 59 := ⟨by decide +kernel, rfl⟩
theorem D_X4_lay_59 : Dec mi_X4_lay 59 (.return_) 1 60 := ⟨by decide +kernel, rfl⟩
theorem D_X4_lay_60 : Dec mi_X4_lay 60 (.aload_n 0) 1 61 := ⟨by decide +kernel, rfl⟩
theorem D_X4_lay_61 : Dec mi_X4_lay 61 (.getfield 24) 3 64 := ⟨by decide +kernel, rfl⟩
theorem D_X4_lay_64 : Dec mi_X4_lay 64 (.iload_n 1) 1 65 := ⟨by decide +kernel, rfl⟩
theorem D_X4_lay_65 : Dec mi_X4_lay 65 (.iconst 3) 1 66 := ⟨by decide +kernel, rfl⟩
theorem D_X4_lay_66 : Dec mi_X4_lay 66 (.invokevirtual 74) 3 69 := ⟨by decide +kernel, rfl⟩
theorem D_X4_lay_69 : Dec mi_X4_lay 69 (.istore_n 3) 1 70 := ⟨by decide +kernel, rfl⟩
theorem D_X4_lay_70 : Dec mi_X4_lay 70 (.iconst 0) 1 71 := ⟨by decide +kernel, rfl⟩
theorem D_X4_lay_71 : Dec mi_X4_lay 71 (.istore 4) 2 73 := ⟨by decide +kernel, rfl⟩
theorem D_X4_lay_73 : Dec mi_X4_lay 73 (.iload 4) 2 75 := ⟨by decide +kernel, rfl⟩
theorem D_X4_lay_75 : Dec mi_X4_lay 75 (.aload_n 0) 1 76 := ⟨by decide +kernel, rfl⟩
theorem D_X4_lay_76 : Dec mi_X4_lay 76 (.getfield 36) 3 79 := ⟨by decide +kernel, rfl⟩
theorem D_X4_lay_79 : DecJ mi_X4_lay 79 (.if_icmp .ge 70) (70) 82 149 := ⟨by decide +kernel, rfl, by decide⟩
theorem D_X4_lay_82 : Dec mi_X4_lay 82 (.iload 4) 2 84 := ⟨by decide +kernel, rfl⟩
theorem D_X4_lay_84 : Dec mi_X4_lay 84 (.iconst 4) 1 85 := ⟨by decide +kernel, rfl⟩
theorem D_X4_lay_85 : DecJ mi_X4_lay 85 (.if_icmp .ge 64) (64) 88 149 := ⟨by decide +kernel, rfl, by decide⟩
theorem D_X4_lay_88 : Dec mi_X4_lay 88 (.aload_n 0) 1 89 := ⟨by decide +kernel, rfl⟩
theorem D_X4_lay_89 : Dec mi_X4_lay 89 (.getfield 21) 3 92 := ⟨by decide +kernel, rfl⟩
theorem D_X4_lay_92 : Dec mi_X4_lay 92 (.iload 4) 2 94 := ⟨by decide +kernel, rfl⟩
theorem D_X4_lay_94 : Dec mi_X4_lay 94 (.iaload) 1 95 := ⟨by decide +kernel, rfl⟩
theorem D_X4_lay_95 : Dec mi_X4_lay 95 (.iload_n 3) 1 96 := ⟨by decide +kernel, rfl⟩
theorem D_X4_lay_96 : DecJ mi_X4_lay 96 (.if_icmp .lt 47) (47) 99 143 := ⟨by decide +kernel, rfl, by decide⟩
theorem D_X4_lay_99 : Dec mi_X4_lay 99 (.aload_n 0) 1 100 := ⟨by decide +kernel, rfl⟩
theorem D_X4_lay_100 : Dec mi_X4_lay 100 (.getfield 15) 3 103 := ⟨by decide +kernel, rfl⟩
theorem D_X4_lay_103 : Dec mi_X4_lay 103 (.iload_n 1) 1 104 := ⟨by decide +kernel, rfl⟩
theorem D_X4_lay_104 : Dec mi_X4_lay 104 (.iload 4) 2 106 := ⟨by decide +kernel, rfl⟩
theorem D_X4_lay_106 : Dec mi_X4_lay 106 (.iastore) 1 107 := ⟨by decide +kernel, rfl⟩
theorem D_X4_lay_107 : Dec mi_X4_lay 107 (.aload_n 0) 1 108 := ⟨by decide +kernel, rfl⟩
theorem D_X4_lay_108 : Dec mi_X4_lay 108 (.getfield 21) 3 111 := ⟨by decide +kernel, rfl⟩
theorem D_X4_lay_111 : Dec mi_X4_lay 111 (.iload 4) 2 113 := ⟨by decide +kernel, rfl⟩
theorem D_X4_lay_113 : Dec mi_X4_lay 113 (.dup2) 1 114 := ⟨by decide +kernel, rfl⟩
theorem D_X4_lay_114 : Dec mi_X4_lay 114 (.iaload) 1 115 := ⟨by decide +kernel, rfl⟩
theorem D_X4_lay_115 : Dec mi_X4_lay 115 (.iload_n 3) 1 116 := ⟨by decide +kernel, rfl⟩
theorem D_X4_lay_116 : Dec mi_X4_lay 116 (.isub) 1 117 := ⟨by decide +kernel, rfl⟩
theorem D_X4_lay_117 : Dec mi_X4_lay 117 (.iastore) 1 118 := ⟨by decide +kernel, rfl⟩
theorem D_X4_lay_118 : Dec mi_X4_lay 118 (.aload_n 0) 1 119 := ⟨by decide +kernel, rfl⟩
theorem D_X4_lay_119 : Dec mi_X4_lay 119 (.iload_n 1) 1 120 := ⟨by decide +kernel, rfl⟩
theorem D_X4_lay_120 : Dec mi_X4_lay 120 (.iconst 1) 1 121 := ⟨by decide +kernel, rfl⟩
theorem D_X4_lay_121 : Dec mi_X4_lay 121 (.iadd) 1 122 := ⟨by decide +kernel, rfl⟩
theorem D_X4_lay_122 : Dec mi_X4_lay 122 (.iload_n 2) 1 123 := ⟨by decide +kernel, rfl⟩
theorem D_X4_lay_123 : Dec mi_X4_lay 123 (.aload_n 0) 1 124 := ⟨by decide +kernel, rfl⟩
theorem D_X4_lay_124 : Dec mi_X4_lay 124 (.iload_n 1) 1 125 := ⟨by decide +kernel, rfl⟩
theorem D_X4_lay_125 : Dec mi_X4_lay 125 (.invokevirtual 78) 3 128 := ⟨by decide +kernel, rfl⟩
theorem D_X4_lay_128 : Dec mi_X4_lay 128 (.iadd) 1 129 := ⟨by decide +kernel, rfl⟩
theorem D_X4_lay_129 : Dec mi_X4_lay 129 (.invokevirtual 64) 3 132 := ⟨by decide +kernel, rfl⟩
theorem D_X4_lay_132 : Dec mi_X4_lay 132 (.aload_n 0) 1 133 := ⟨by decide +kernel, rfl⟩
theorem D_X4_lay_133 : Dec mi_X4_lay 133 (.getfield 21) 3 136 := ⟨by decide +kernel, rfl⟩
theorem D_X4_lay_136 : Dec mi_X4_lay 136 (.iload 4) 2 138 := ⟨by decide +kernel, rfl⟩
theorem D_X4_lay_138 : Dec mi_X4_lay 138 (.dup2) 1 139 := ⟨by decide +kernel, rfl⟩
theorem D_X4_lay_139 : Dec mi_X4_lay 139 (.iaload) 1 140 := ⟨by decide +kernel, rfl⟩
theorem D_X4_lay_140 : Dec mi_X4_lay 140 (.iload_n 3) 1 141 := ⟨by decide +kernel, rfl⟩
theorem D_X4_lay_141 : Dec mi_X4_lay 141 (.iadd) 1 142 := ⟨by decide +kernel, rfl⟩
theorem D_X4_lay_142 : Dec mi_X4_lay 142 (.iastore) 1 143 := ⟨by decide +kernel, rfl⟩
theorem D_X4_lay_143 : Dec mi_X4_lay 143 (.iinc 4 1) 3 146 := ⟨by decide +kernel, rfl⟩
theorem D_X4_lay_146 : DecJ mi_X4_lay 146 (.goto (-73)) (-73) 149 73 := ⟨by decide +kernel, rfl, by decide⟩
theorem D_X4_lay_149 : Dec mi_X4_lay 149 (.return_) 1 150 := ⟨by decide +kernel, rfl⟩
def f_X4_lay_73 (F : Nat) (KR : Mem → Int32 → Int32 → Option Mem) : Nat → Int32 → Int32 → Int32 → Int32 → Mem → Option Mem
  | 0, _, _, _, _, _ => none
  | n + 1, y1, y2, y3, y4, N => if (N.1 27 7) ≤ y4 then (some N) else (if (4 : Int32) ≤ y4 then (some N) else (if ck y4 4 = true then (if (N.1 31 y4.toNatClampNeg) < y3 then (f_X4_lay_73 F KR n y1 y2 y3 (y4 + (1 : Int32)) N) else (if ck y1 6 = true then (vlet (setI N 29 y1.toNatClampNeg y4) fun M6 => if ck y4 4 = true then (if ck y4 4 = true then (vlet (setI M6 31 y4.toNatClampNeg ((M6.1 31 y4.toNatClampNeg) - y3)) fun M9 => (f_X4_troubleOf F M9 y1).bind fun x10 => (KR M9 (y1 + (1 : Int32)) (y2 + x10)).bind fun p12 => if ck y4 4 = true then (if ck y4 4 = true then (vlet (setI p12 31 y4.toNatClampNeg ((p12.1 31 y4.toNatClampNeg) + y3)) fun M16 => f_X4_lay_73 F KR n y1 y2 y3 (y4 + (1 : Int32)) M16) else none) else none) else none) else none) else none)) else none))
theorem x_X4_lay_73 {l : Launch} {w : Wd} {κ : Kp} {F : Nat} {dK : Nat} {KR : Mem → Int32 → Int32 → Option Mem} {v : Mem} (hq : RQ w (none, v) κ) (hdK : 6 ≤ dK) (hKR : ∀ (N : Mem) (a b : Int32) (v : Mem), KR N a b = some v → Cn l w mi_X4_lay yX4_lay dK [.ref (wq w 27), .int a, .int b] N (none, v)) : ∀ (n : Nat) (y1 : Int32) (y2 : Int32) (y3 : Int32) (y4 : Int32) (N : Mem), f_X4_lay_73 F KR n y1 y2 y3 y4 N = some v → RR l w mi_X4_lay (dK + 1) κ 73 [] [some (.ref (wq w 27)), some (.int y1), some (.int y2), some (.int y3), some (.int y4)] N
  | 0, _, _, _, _, _, h => nomatch h
  | n + 1, y1, y2, y3, y4, N, h => let_h (show (if (N.1 27 7) ≤ y4 then (some N) else (if (4 : Int32) ≤ y4 then (some N) else (if ck y4 4 = true then (if (N.1 31 y4.toNatClampNeg) < y3 then (f_X4_lay_73 F KR n y1 y2 y3 (y4 + (1 : Int32)) N) else (if ck y1 6 = true then (vlet (setI N 29 y1.toNatClampNeg y4) fun M6 => if ck y4 4 = true then (if ck y4 4 = true then (vlet (setI M6 31 y4.toNatClampNeg ((M6.1 31 y4.toNatClampNeg) - y3)) fun M9 => (f_X4_troubleOf F M9 y1).bind fun x10 => (KR M9 (y1 + (1 : Int32)) (y2 + x10)).bind fun p12 => if ck y4 4 = true then (if ck y4 4 = true then (vlet (setI p12 31 y4.toNatClampNeg ((p12.1 31 y4.toNatClampNeg) + y3)) fun M16 => f_X4_lay_73 F KR n y1 y2 y3 (y4 + (1 : Int32)) M16) else none) else none) else none) else none) else none)) else none))) = some v from h) fun h => r_iload D_X4_lay_73 rfl <| r_aload_n D_X4_lay_75 rfl <| r_getI D_X4_lay_76 fl_X4_36 s_27 rfl <| r_icmp_ge D_X4_lay_79 (fun c1 => let_h (ifT c1 h) fun h => r_vret hq D_X4_lay_149 rfl (rtV h)) (fun c1 => let_h (ifF c1 h) fun h => r_iload D_X4_lay_82 rfl <| r_iconst D_X4_lay_84 ki_4 <| r_icmp_ge D_X4_lay_85 (fun c2 => let_h (ifT c2 h) fun h => r_vret hq D_X4_lay_149 rfl (rtV h)) (fun c2 => let_h (ifF c2 h) fun h => r_aload_n D_X4_lay_88 rfl <| r_getR (j := 31) D_X4_lay_89 fl_X4_21 s_27 rfl <| r_iload D_X4_lay_92 rfl <| (ckE h).elim fun c3 h => r_iald D_X4_lay_94 s_31 c3 <| r_iload_n D_X4_lay_95 rfl <| r_icmp_lt D_X4_lay_96 (fun c4 => let_h (ifT c4 h) fun h => r_iinc D_X4_lay_143 rfl ki_1 (by decide) rfl <| r_goto D_X4_lay_146 <| r_ls (x_X4_lay_73 hq hdK hKR n y1 y2 y3 (y4 + (1 : Int32)) N h) ⟨rfl, ⟨rfl, ⟨rfl, ⟨rfl, ⟨rfl, trivial⟩⟩⟩⟩⟩) (fun c4 => let_h (ifF c4 h) fun h => r_aload_n D_X4_lay_99 rfl <| r_getR (j := 29) D_X4_lay_100 fl_X4_15 s_27 rfl <| r_iload_n D_X4_lay_103 rfl <| r_iload D_X4_lay_104 rfl <| (ckE h).elim fun c5 h => r_iast D_X4_lay_106 s_29 c5 <| mlE h fun M6 h => r_aload_n D_X4_lay_107 rfl <| r_getR (j := 31) D_X4_lay_108 fl_X4_21 s_27 rfl <| r_iload D_X4_lay_111 rfl <| r_dup2 D_X4_lay_113 rfl rfl <| (ckE h).elim fun c7 h => r_iald D_X4_lay_114 s_31 c7 <| r_iload_n D_X4_lay_115 rfl <| r_isub D_X4_lay_116 <| (ckE h).elim fun c8 h => r_iast D_X4_lay_117 s_31 c8 <| mlE h fun M9 h => r_aload_n D_X4_lay_118 rfl <| r_iload_n D_X4_lay_119 rfl <| r_iconst D_X4_lay_120 ki_1 <| r_iadd D_X4_lay_121 <| r_iload_n D_X4_lay_122 rfl <| r_aload_n D_X4_lay_123 rfl <| r_iload_n D_X4_lay_124 rfl <| (bdE h).elim fun x10 q11 => let_h q11.2 fun h => r_callV (av := [.int y1]) D_X4_lay_125 ml_X4_78 mf_X4_troubleOf mv_X4_troubleOf s_27 rfl rfl (x_X4_troubleOf q11.1) (by omega) rfl rfl (Nat.le_of_ble_eq_true rfl) <| r_iadd D_X4_lay_128 <| (bdE h).elim fun p12 q13 => let_h q13.2 fun h => r_callV (av := [.int (y1 + (1 : Int32)), .int (y2 + x10)]) D_X4_lay_129 ml_X4_64 mf_X4_lay mv_X4_lay s_27 rfl rfl (hKR _ _ _ _ q13.1) (by omega) rfl rfl (Nat.le_of_ble_eq_true rfl) <| r_aload_n D_X4_lay_132 rfl <| r_getR (j := 31) D_X4_lay_133 fl_X4_21 s_27 rfl <| r_iload D_X4_lay_136 rfl <| r_dup2 D_X4_lay_138 rfl rfl <| (ckE h).elim fun c14 h => r_iald D_X4_lay_139 s_31 c14 <| r_iload_n D_X4_lay_140 rfl <| r_iadd D_X4_lay_141 <| (ckE h).elim fun c15 h => r_iast D_X4_lay_142 s_31 c15 <| mlE h fun M16 h => r_iinc D_X4_lay_143 rfl ki_1 (by decide) rfl <| r_goto D_X4_lay_146 <| r_ls (x_X4_lay_73 hq hdK hKR n y1 y2 y3 (y4 + (1 : Int32)) M16 h) ⟨rfl, ⟨rfl, ⟨rfl, ⟨rfl, ⟨rfl, trivial⟩⟩⟩⟩⟩)))
def f_X4_lay_b (F : Nat) (KR : Mem → Int32 → Int32 → Option Mem) (M : Mem) (a1 : Int32) (a2 : Int32) : Option Mem := if a2 < (M.1 27 8) then (if a1 < 0 then (vlet (setI M 27 8 a2) fun M3 => vlet (setA M3 30 (va_cpy (M3.1 29) (M3.1 30) 0 0 (6 : Int32).toNatClampNeg)) fun M4 => some M4) else (if a1 < (6 : Int32) then (if (f_X9_has M (M.1 27 6) a1) = 0 then ((KR M (a1 + (1 : Int32)) a2).bind fun p7 => some p7) else ((f_X8_fact M 3 a1 (3 : Int32)).bind fun x9 => f_X4_lay_73 F KR F a1 a2 x9 (0 : Int32) M)) else (vlet (setI M 27 8 a2) fun M11 => vlet (setA M11 30 (va_cpy (M11.1 29) (M11.1 30) 0 0 (6 : Int32).toNatClampNeg)) fun M12 => some M12))) else (some M)
theorem x_X4_lay_b {l : Launch} {w : Wd} {F : Nat} {dK : Nat} {KR : Mem → Int32 → Int32 → Option Mem} {M : Mem} {a1 : Int32} {a2 : Int32} {v : Mem} (hdK : 6 ≤ dK) (hKR : ∀ (N : Mem) (a b : Int32) (v : Mem), KR N a b = some v → Cn l w mi_X4_lay yX4_lay dK [.ref (wq w 27), .int a, .int b] N (none, v)) (h : f_X4_lay_b F KR M a1 a2 = some v) : Cn l w mi_X4_lay yX4_lay (dK + 1) [.ref (wq w 27), .int a1, .int a2] M (none, v) :=
  Cn_of (loc0 := [some (.ref (wq w 27)), some (.int a1), some (.int a2), none, none]) rfl rfl rfl (Nat.le_of_ble_eq_true rfl) fun κ hq => let_h (show (if a2 < (M.1 27 8) then (if a1 < 0 then (vlet (setI M 27 8 a2) fun M3 => vlet (setA M3 30 (va_cpy (M3.1 29) (M3.1 30) 0 0 (6 : Int32).toNatClampNeg)) fun M4 => some M4) else (if a1 < (6 : Int32) then (if (f_X9_has M (M.1 27 6) a1) = 0 then ((KR M (a1 + (1 : Int32)) a2).bind fun p7 => some p7) else ((f_X8_fact M 3 a1 (3 : Int32)).bind fun x9 => f_X4_lay_73 F KR F a1 a2 x9 (0 : Int32) M)) else (vlet (setI M 27 8 a2) fun M11 => vlet (setA M11 30 (va_cpy (M11.1 29) (M11.1 30) 0 0 (6 : Int32).toNatClampNeg)) fun M12 => some M12))) else (some M)) = some v from h) fun h => r_iload_n D_X4_lay_0 rfl <| r_aload_n D_X4_lay_1 rfl <| r_getI D_X4_lay_2 fl_X4_39 s_27 rfl <| r_icmp_lt D_X4_lay_5 (fun c1 => let_h (ifT c1 h) fun h => r_iload_n D_X4_lay_9 rfl <| r_if_lt D_X4_lay_10 (fun c2 => let_h (ifT c2 h) fun h => r_aload_n D_X4_lay_19 rfl <| r_iload_n D_X4_lay_20 rfl <| r_putI D_X4_lay_21 fp_X4_39 s_27 rfl rfl rfl <| mlE h fun M3 h => r_aload_n D_X4_lay_24 rfl <| r_getR (j := 29) D_X4_lay_25 fl_X4_15 s_27 rfl <| r_iconst D_X4_lay_28 ki_0 <| r_aload_n D_X4_lay_29 rfl <| r_getR (j := 30) D_X4_lay_30 fl_X4_18 s_27 rfl <| r_iconst D_X4_lay_33 ki_0 <| r_bipush D_X4_lay_34 k8_6 <| r_copyI D_X4_lay_36 mn_X4_68 s_29 s_30 (by decide) (by decide) (by decide) (by omega) (by decide) <| mlE h fun M4 h => r_vret hq D_X4_lay_39 rfl (rtV h)) (fun c2 => let_h (ifF c2 h) fun h => r_iload_n D_X4_lay_13 rfl <| r_bipush D_X4_lay_14 k8_6 <| r_icmp_lt D_X4_lay_16 (fun c5 => let_h (ifT c5 h) fun h => r_aload_n D_X4_lay_40 rfl <| r_getI D_X4_lay_41 fl_X4_32 s_27 rfl <| r_iload_n D_X4_lay_44 rfl <| r_callN (av := [.int (M.1 27 6), .int a1]) D_X4_lay_45 nl_X4_60 mf_X9_has ms_X9_has (x_X9_has rfl) (by omega) rfl rfl (Nat.le_of_ble_eq_true rfl) <| r_if_ne D_X4_lay_48 (fun c6 => let_h (ifT c6 h) fun h => r_aload_n D_X4_lay_51 rfl <| r_iload_n D_X4_lay_52 rfl <| r_iconst D_X4_lay_53 ki_1 <| r_iadd D_X4_lay_54 <| r_iload_n D_X4_lay_55 rfl <| (bdE h).elim fun p7 q8 => let_h q8.2 fun h => r_callV (av := [.int (a1 + (1 : Int32)), .int a2]) D_X4_lay_56 ml_X4_64 mf_X4_lay mv_X4_lay s_27 rfl rfl (hKR _ _ _ _ q8.1) (by omega) rfl rfl (Nat.le_of_ble_eq_true rfl) <| r_vret hq D_X4_lay_59 rfl (rtV h)) (fun c6 => let_h (ifF c6 h) fun h => r_aload_n D_X4_lay_60 rfl <| r_getR (j := 3) D_X4_lay_61 fl_X4_24 s_27 rfl <| r_iload_n D_X4_lay_64 rfl <| r_iconst D_X4_lay_65 ki_3 <| (bdE h).elim fun x9 q10 => let_h q10.2 fun h => r_callV (av := [.int a1, .int (3 : Int32)]) D_X4_lay_66 ml_X4_74 mf_X8_fact mv_X8_fact s_3 rfl rfl (x_X8_fact trip_3 q10.1) (by omega) rfl rfl (Nat.le_of_ble_eq_true rfl) <| r_istore_n D_X4_lay_69 (by decide) rfl <| r_iconst D_X4_lay_70 ki_0 <| r_istore D_X4_lay_71 (by decide) rfl <| r_ls (x_X4_lay_73 hq hdK hKR F a1 a2 x9 (0 : Int32) M h) ⟨rfl, ⟨rfl, ⟨rfl, ⟨rfl, ⟨rfl, trivial⟩⟩⟩⟩⟩)) (fun c5 => let_h (ifF c5 h) fun h => r_aload_n D_X4_lay_19 rfl <| r_iload_n D_X4_lay_20 rfl <| r_putI D_X4_lay_21 fp_X4_39 s_27 rfl rfl rfl <| mlE h fun M11 h => r_aload_n D_X4_lay_24 rfl <| r_getR (j := 29) D_X4_lay_25 fl_X4_15 s_27 rfl <| r_iconst D_X4_lay_28 ki_0 <| r_aload_n D_X4_lay_29 rfl <| r_getR (j := 30) D_X4_lay_30 fl_X4_18 s_27 rfl <| r_iconst D_X4_lay_33 ki_0 <| r_bipush D_X4_lay_34 k8_6 <| r_copyI D_X4_lay_36 mn_X4_68 s_29 s_30 (by decide) (by decide) (by decide) (by omega) (by decide) <| mlE h fun M12 h => r_vret hq D_X4_lay_39 rfl (rtV h)))) (fun c1 => let_h (ifF c1 h) fun h => r_vret hq D_X4_lay_8 rfl (rtV h))
def f_X4_lay (F : Nat) : Nat → Mem → Int32 → Int32 → Option Mem
  | 0, _, _, _ => none
  | n + 1, M, a, b => f_X4_lay_b F (f_X4_lay F n) M a b
theorem x_X4_lay {l : Launch} {w : Wd} {F : Nat} : ∀ (n : Nat) {M : Mem} {a b : Int32} {v : Mem} (h : f_X4_lay F n M a b = some v), Cn l w mi_X4_lay yX4_lay (n + 6) [.ref (wq w 27), .int a, .int b] M (none, v)
  | 0, _, _, _, _, h => nomatch h
  | n + 1, M, a, b, v, h => (show n + 6 + 1 = (n + 1) + 6 by omega) ▸ x_X4_lay_b (dK := n + 6) (by omega) (fun N a b v h => x_X4_lay n h) h
-- X4_arrange
theorem D_X4_arrange_0 : Dec mi_X4_arrange 0 (.aload_n 0) 1 1 := ⟨by decide +kernel, rfl⟩
theorem D_X4_arrange_1 : Dec mi_X4_arrange 1 (.iload_n 1) 1 2 := ⟨by decide +kernel, rfl⟩
theorem D_X4_arrange_2 : Dec mi_X4_arrange 2 (.putfield 32) 3 5 := ⟨by decide +kernel, rfl⟩
theorem D_X4_arrange_5 : Dec mi_X4_arrange 5 (.aload_n 0) 1 6 := ⟨by decide +kernel, rfl⟩
theorem D_X4_arrange_6 : Dec mi_X4_arrange 6 (.iload_n 2) 1 7 := ⟨by decide +kernel, rfl⟩
theorem D_X4_arrange_7 : Dec mi_X4_arrange 7 (.putfield 36) 3 10 := ⟨by decide +kernel, rfl⟩
theorem D_X4_arrange_10 : Dec mi_X4_arrange 10 (.aload_n 0) 1 11 := ⟨by decide +kernel, rfl⟩
theorem D_X4_arrange_11 : Dec mi_X4_arrange 11 (.sipush 1000) 3 14 := ⟨by decide +kernel, rfl⟩
theorem D_X4_arrange_14 : Dec mi_X4_arrange 14 (.putfield 39) 3 17 := ⟨by decide +kernel, rfl⟩
theorem D_X4_arrange_17 : Dec mi_X4_arrange 17 (.aload_n 0) 1 18 := ⟨by decide +kernel, rfl⟩
theorem D_X4_arrange_18 : Dec mi_X4_arrange 18 (.getfield 21) 3 21 := ⟨by decide +kernel, rfl⟩
theorem D_X4_arrange_21 : Dec mi_X4_arrange 21 (.iload_n 3) 1 22 := ⟨by decide +kernel, rfl⟩
theorem D_X4_arrange_22 : Dec mi_X4_arrange 22 (.invokestatic 42) 3 25 := ⟨by decide +kernel, rfl⟩
theorem D_X4_arrange_25 : Dec mi_X4_arrange 25 (.iconst 0) 1 26 := ⟨by decide +kernel, rfl⟩
theorem D_X4_arrange_26 : Dec mi_X4_arrange 26 (.istore 4) 2 28 := ⟨by decide +kernel, rfl⟩
theorem D_X4_arrange_28 : Dec mi_X4_arrange 28 (.iload 4) 2 30 := ⟨by decide +kernel, rfl⟩
theorem D_X4_arrange_30 : Dec mi_X4_arrange 30 (.bipush 6) 2 32 := ⟨by decide +kernel, rfl⟩
theorem D_X4_arrange_32 : DecJ mi_X4_arrange 32 (.if_icmp .ge 58) (58) 35 90 := ⟨by decide +kernel, rfl, by decide⟩
theorem D_X4_arrange_35 : Dec mi_X4_arrange 35 (.aload_n 0) 1 36 := ⟨by decide +kernel, rfl⟩
theorem D_X4_arrange_36 : Dec mi_X4_arrange 36 (.getfield 28) 3 39 := ⟨by decide +kernel, rfl⟩
theorem D_X4_arrange_39 : Dec mi_X4_arrange 39 (.iload 4) 2 41 := ⟨by decide +kernel, rfl⟩
theorem D_X4_arrange_41 : Dec mi_X4_arrange 41 (.invokevirtual 48) 3 44 := ⟨by decide +kernel, rfl⟩
theorem D_X4_arrange_44 : Dec mi_X4_arrange 44 (.istore 5) 2 46 := ⟨by decide +kernel, rfl⟩
theorem D_X4_arrange_46 : Dec mi_X4_arrange 46 (.aload_n 0) 1 47 := ⟨by decide +kernel, rfl⟩
theorem D_X4_arrange_47 : Dec mi_X4_arrange 47 (.getfield 9) 3 50 := ⟨by decide +kernel, rfl⟩
theorem D_X4_arrange_50 : Dec mi_X4_arrange 50 (.iload 4) 2 52 := ⟨by decide +kernel, rfl⟩
theorem D_X4_arrange_52 : Dec mi_X4_arrange 52 (.aload_n 0) 1 53 := ⟨by decide +kernel, rfl⟩
theorem D_X4_arrange_53 : Dec mi_X4_arrange 53 (.getfield 24) 3 56 := ⟨by decide +kernel, rfl⟩
theorem D_X4_arrange_56 : Dec mi_X4_arrange 56 (.invokevirtual 54) 3 59 := ⟨by decide +kernel, rfl⟩
theorem D_X4_arrange_59 : Dec mi_X4_arrange 59 (.iload 4) 2 61 := ⟨by decide +kernel, rfl⟩
theorem D_X4_arrange_61 : Dec mi_X4_arrange 61 (.invokestatic 60) 3 64 := ⟨by decide +kernel, rfl⟩
theorem D_X4_arrange_64 : DecJ mi_X4_arrange 64 (.ifCond .eq 7) (7) 67 71 := ⟨by decide +kernel, rfl, by decide⟩
theorem D_X4_arrange_67 : Dec mi_X4_arrange 67 (.iconst 0) 1 68 := ⟨by decide +kernel, rfl⟩
theorem D_X4_arrange_68 : DecJ mi_X4_arrange 68 (.goto 15) (15) 71 83 := ⟨by decide +kernel, rfl, by decide⟩
theorem D_X4_arrange_71 : Dec mi_X4_arrange 71 (.iload 5) 2 73 := ⟨by decide +kernel, rfl⟩
theorem D_X4_arrange_73 : DecJ mi_X4_arrange 73 (.ifCond .ge 8) (8) 76 81 := ⟨by decide +kernel, rfl, by decide⟩
theorem D_X4_arrange_76 : Dec mi_X4_arrange 76 (.bipush 99) 2 78 := ⟨by decide +kernel, rfl⟩
theorem D_X4_arrange_78 : DecJ mi_X4_arrange 78 (.goto 5) (5) 81 83 := ⟨by decide +kernel, rfl, by decide⟩
theorem D_X4_arrange_81 : Dec mi_X4_arrange 81 (.iload 5) 2 83 := ⟨by decide +kernel, rfl⟩
theorem D_X4_arrange_83 : Dec mi_X4_arrange 83 (.iastore) 1 84 := ⟨by decide +kernel, rfl⟩
theorem D_X4_arrange_84 : Dec mi_X4_arrange 84 (.iinc 4 1) 3 87 := ⟨by decide +kernel, rfl⟩
theorem D_X4_arrange_87 : DecJ mi_X4_arrange 87 (.goto (-59)) (-59) 90 28 := ⟨by decide +kernel, rfl, by decide⟩
theorem D_X4_arrange_90 : Dec mi_X4_arrange 90 (.aload_n 0) 1 91 := ⟨by decide +kernel, rfl⟩
theorem D_X4_arrange_91 : Dec mi_X4_arrange 91 (.iconst 0) 1 92 := ⟨by decide +kernel, rfl⟩
theorem D_X4_arrange_92 : Dec mi_X4_arrange 92 (.iconst 0) 1 93 := ⟨by decide +kernel, rfl⟩
theorem D_X4_arrange_93 : Dec mi_X4_arrange 93 (.invokevirtual 64) 3 96 := ⟨by decide +kernel, rfl⟩
theorem D_X4_arrange_96 : Dec mi_X4_arrange 96 (.aload_n 0) 1 97 := ⟨by decide +kernel, rfl⟩
theorem D_X4_arrange_97 : Dec mi_X4_arrange 97 (.getfield 39) 3 100 := ⟨by decide +kernel, rfl⟩
theorem D_X4_arrange_100 : Dec mi_X4_arrange 100 (.sipush 1000) 3 103 := ⟨by decide +kernel, rfl⟩
theorem D_X4_arrange_103 : DecJ mi_X4_arrange 103 (.if_icmp .ge 7) (7) 106 110 := ⟨by decide +kernel, rfl, by decide⟩
theorem D_X4_arrange_106 : Dec mi_X4_arrange 106 (.iconst 1) 1 107 := ⟨by decide +kernel, rfl⟩
theorem D_X4_arrange_107 : DecJ mi_X4_arrange 107 (.goto 4) (4) 110 111 := ⟨by decide +kernel, rfl, by decide⟩
theorem D_X4_arrange_110 : Dec mi_X4_arrange 110 (.iconst 0) 1 111 := ⟨by decide +kernel, rfl⟩
theorem D_X4_arrange_111 : Dec mi_X4_arrange 111 (.ireturn) 1 112 := ⟨by decide +kernel, rfl⟩
def f_X4_arrange_28 (F : Nat) : Nat → Int32 → Mem → Option (Int32 × Mem)
  | 0, _, _ => none
  | n + 1, y4, N => if (6 : Int32) ≤ y4 then ((f_X4_lay F 8 N (0 : Int32) (0 : Int32)).bind fun p2 => if (1000 : Int32) ≤ (p2.1 27 8) then (some ((0 : Int32), p2)) else (some ((1 : Int32), p2))) else ((f_X5_firstDayOf F N y4).bind fun x5 => if (f_X9_has N (f_X8_coats N 3) y4) = 0 then (if 0 ≤ x5 then (if ck y4 6 = true then (vlet (setI N 28 y4.toNatClampNeg x5) fun M10 => f_X4_arrange_28 F n (y4 + (1 : Int32)) M10) else none) else (if ck y4 6 = true then (vlet (setI N 28 y4.toNatClampNeg (99 : Int32)) fun M12 => f_X4_arrange_28 F n (y4 + (1 : Int32)) M12) else none)) else (if ck y4 6 = true then (vlet (setI N 28 y4.toNatClampNeg (0 : Int32)) fun M14 => f_X4_arrange_28 F n (y4 + (1 : Int32)) M14) else none))
theorem x_X4_arrange_28 {l : Launch} {w : Wd} {κ : Kp} {F : Nat} {v : Int32 × Mem} (hq : RQ w (some (.int v.1), v.2) κ) : ∀ (n : Nat) (y4 : Int32) (N : Mem), f_X4_arrange_28 F n y4 N = some v → RR l w mi_X4_arrange (15) κ 28 [] [some (.ref (wq w 27)), none, none, none, some (.int y4), none] N
  | 0, _, _, h => nomatch h
  | n + 1, y4, N, h => let_h (show (if (6 : Int32) ≤ y4 then ((f_X4_lay F 8 N (0 : Int32) (0 : Int32)).bind fun p2 => if (1000 : Int32) ≤ (p2.1 27 8) then (some ((0 : Int32), p2)) else (some ((1 : Int32), p2))) else ((f_X5_firstDayOf F N y4).bind fun x5 => if (f_X9_has N (f_X8_coats N 3) y4) = 0 then (if 0 ≤ x5 then (if ck y4 6 = true then (vlet (setI N 28 y4.toNatClampNeg x5) fun M10 => f_X4_arrange_28 F n (y4 + (1 : Int32)) M10) else none) else (if ck y4 6 = true then (vlet (setI N 28 y4.toNatClampNeg (99 : Int32)) fun M12 => f_X4_arrange_28 F n (y4 + (1 : Int32)) M12) else none)) else (if ck y4 6 = true then (vlet (setI N 28 y4.toNatClampNeg (0 : Int32)) fun M14 => f_X4_arrange_28 F n (y4 + (1 : Int32)) M14) else none))) = some v from h) fun h => r_iload D_X4_arrange_28 rfl <| r_bipush D_X4_arrange_30 k8_6 <| r_icmp_ge D_X4_arrange_32 (fun c1 => let_h (ifT c1 h) fun h => r_aload_n D_X4_arrange_90 rfl <| r_iconst D_X4_arrange_91 ki_0 <| r_iconst D_X4_arrange_92 ki_0 <| (bdE h).elim fun p2 q3 => let_h q3.2 fun h => r_callV (av := [.int (0 : Int32), .int (0 : Int32)]) D_X4_arrange_93 ml_X4_64 mf_X4_lay mv_X4_lay s_27 rfl rfl (x_X4_lay 8 q3.1) (Nat.le_of_ble_eq_true rfl) rfl rfl (Nat.le_of_ble_eq_true rfl) <| r_aload_n D_X4_arrange_96 rfl <| r_getI D_X4_arrange_97 fl_X4_39 s_27 rfl <| r_sipush D_X4_arrange_100 k16_1000 <| r_icmp_ge D_X4_arrange_103 (fun c4 => let_h (ifT c4 h) fun h => r_iconst D_X4_arrange_110 ki_0 <| r_zret hq D_X4_arrange_111 rfl rfl (rtW h)) (fun c4 => let_h (ifF c4 h) fun h => r_iconst D_X4_arrange_106 ki_1 <| r_goto D_X4_arrange_107 <| r_zret hq D_X4_arrange_111 rfl rfl (rtW h))) (fun c1 => let_h (ifF c1 h) fun h => r_aload_n D_X4_arrange_35 rfl <| r_getR (j := 17) D_X4_arrange_36 fl_X4_28 s_27 rfl <| r_iload D_X4_arrange_39 rfl <| (bdE h).elim fun x5 q6 => let_h q6.2 fun h => r_callV (av := [.int y4]) D_X4_arrange_41 ml_X4_48 mf_X5_firstDayOf mv_X5_firstDayOf s_17 rfl rfl (x_X5_firstDayOf q6.1) (Nat.le_of_ble_eq_true rfl) rfl rfl (Nat.le_of_ble_eq_true rfl) <| r_istore D_X4_arrange_44 (by decide) rfl <| r_aload_n D_X4_arrange_46 rfl <| r_getR (j := 28) D_X4_arrange_47 fl_X4_9 s_27 rfl <| r_iload D_X4_arrange_50 rfl <| r_aload_n D_X4_arrange_52 rfl <| r_getR (j := 3) D_X4_arrange_53 fl_X4_24 s_27 rfl <| r_callV (av := []) D_X4_arrange_56 ml_X4_54 mf_X8_coats mv_X8_coats s_3 rfl rfl (x_X8_coats trip_3 rfl) (Nat.le_of_ble_eq_true rfl) rfl rfl (Nat.le_of_ble_eq_true rfl) <| r_iload D_X4_arrange_59 rfl <| r_callN (av := [.int (f_X8_coats N 3), .int y4]) D_X4_arrange_61 nl_X4_60 mf_X9_has ms_X9_has (x_X9_has rfl) (Nat.le_of_ble_eq_true rfl) rfl rfl (Nat.le_of_ble_eq_true rfl) <| r_if_eq D_X4_arrange_64 (fun c7 => let_h (ifT c7 h) fun h => r_iload D_X4_arrange_71 rfl <| r_if_ge D_X4_arrange_73 (fun c8 => let_h (ifT c8 h) fun h => r_iload D_X4_arrange_81 rfl <| (ckE h).elim fun c9 h => r_iast D_X4_arrange_83 s_28 c9 <| mlE h fun M10 h => r_iinc D_X4_arrange_84 rfl ki_1 (by decide) rfl <| r_goto D_X4_arrange_87 <| r_ls (x_X4_arrange_28 hq n (y4 + (1 : Int32)) M10 h) ⟨rfl, ⟨rfl, trivial⟩⟩) (fun c8 => let_h (ifF c8 h) fun h => r_bipush D_X4_arrange_76 k8_99 <| r_goto D_X4_arrange_78 <| (ckE h).elim fun c11 h => r_iast D_X4_arrange_83 s_28 c11 <| mlE h fun M12 h => r_iinc D_X4_arrange_84 rfl ki_1 (by decide) rfl <| r_goto D_X4_arrange_87 <| r_ls (x_X4_arrange_28 hq n (y4 + (1 : Int32)) M12 h) ⟨rfl, ⟨rfl, trivial⟩⟩)) (fun c7 => let_h (ifF c7 h) fun h => r_iconst D_X4_arrange_67 ki_0 <| r_goto D_X4_arrange_68 <| (ckE h).elim fun c13 h => r_iast D_X4_arrange_83 s_28 c13 <| mlE h fun M14 h => r_iinc D_X4_arrange_84 rfl ki_1 (by decide) rfl <| r_goto D_X4_arrange_87 <| r_ls (x_X4_arrange_28 hq n (y4 + (1 : Int32)) M14 h) ⟨rfl, ⟨rfl, trivial⟩⟩))
def f_X4_arrange (F : Nat) (M : Mem) (a1 : Int32) (a2 : Int32) (a3 : Int32) : Option (Int32 × Mem) := vlet (setI M 27 6 a1) fun M1 => vlet (setI M1 27 7 a2) fun M2 => vlet (setI M2 27 8 (1000 : Int32)) fun M3 => (f_J7_fill_53178 F M3 31 4 a3).bind fun p4 => f_X4_arrange_28 F F (0 : Int32) p4
theorem x_X4_arrange {l : Launch} {w : Wd} {F : Nat} {M : Mem} {a1 : Int32} {a2 : Int32} {a3 : Int32} {v : Int32 × Mem} (h : f_X4_arrange F M a1 a2 a3 = some v) : Cn l w mi_X4_arrange yX4_arrange (15) [.ref (wq w 27), .int a1, .int a2, .int a3] M (some (.int v.1), v.2) :=
  Cn_of (loc0 := [some (.ref (wq w 27)), some (.int a1), some (.int a2), some (.int a3), none, none]) rfl rfl rfl (Nat.le_of_ble_eq_true rfl) fun κ hq => let_h (show (vlet (setI M 27 6 a1) fun M1 => vlet (setI M1 27 7 a2) fun M2 => vlet (setI M2 27 8 (1000 : Int32)) fun M3 => (f_J7_fill_53178 F M3 31 4 a3).bind fun p4 => f_X4_arrange_28 F F (0 : Int32) p4) = some v from h) fun h => r_aload_n D_X4_arrange_0 rfl <| r_iload_n D_X4_arrange_1 rfl <| r_putI D_X4_arrange_2 fp_X4_32 s_27 rfl rfl rfl <| mlE h fun M1 h => r_aload_n D_X4_arrange_5 rfl <| r_iload_n D_X4_arrange_6 rfl <| r_putI D_X4_arrange_7 fp_X4_36 s_27 rfl rfl rfl <| mlE h fun M2 h => r_aload_n D_X4_arrange_10 rfl <| r_sipush D_X4_arrange_11 k16_1000 <| r_putI D_X4_arrange_14 fp_X4_39 s_27 rfl rfl rfl <| mlE h fun M3 h => r_aload_n D_X4_arrange_17 rfl <| r_getR (j := 31) D_X4_arrange_18 fl_X4_21 s_27 rfl <| r_iload_n D_X4_arrange_21 rfl <| (bdE h).elim fun p4 q5 => let_h q5.2 fun h => r_callS (av := [.ref (wq w 31), .int a3]) D_X4_arrange_22 ml_X4_42 mf_J7_fill_53178 ms_J7_fill_53178 (x_J7_fill_53178 s_31 q5.1) (Nat.le_of_ble_eq_true rfl) rfl rfl (Nat.le_of_ble_eq_true rfl) <| r_iconst D_X4_arrange_25 ki_0 <| r_istore D_X4_arrange_26 (by decide) rfl <| r_ls (x_X4_arrange_28 hq F (0 : Int32) p4 h) ⟨rfl, ⟨rfl, trivial⟩⟩
-- X4_trouble
theorem D_X4_trouble_0 : Dec mi_X4_trouble 0 (.aload_n 0) 1 1 := ⟨by decide +kernel, rfl⟩
theorem D_X4_trouble_1 : Dec mi_X4_trouble 1 (.getfield 39) 3 4 := ⟨by decide +kernel, rfl⟩
theorem D_X4_trouble_4 : Dec mi_X4_trouble 4 (.ireturn) 1 5 := ⟨by decide +kernel, rfl⟩
def f_X4_trouble (M : Mem) : Int32 := (M.1 27 8)
theorem x_X4_trouble {l : Launch} {w : Wd} {M : Mem} {v : Int32} (h : f_X4_trouble M = v) : Cn l w mi_X4_trouble yX4_trouble (0) [.ref (wq w 27)] M (some (.int v), M) :=
  Cn_of (loc0 := [some (.ref (wq w 27))]) rfl rfl rfl (Nat.le_of_ble_eq_true rfl) fun κ hq => let_h (show ((M.1 27 8)) = v from h) fun h => r_aload_n D_X4_trouble_0 rfl <| r_getI D_X4_trouble_1 fl_X4_39 s_27 rfl <| r_iret hq D_X4_trouble_4 rfl (rtT h)
-- X4_layerOf
theorem D_X4_layerOf_0 : Dec mi_X4_layerOf 0 (.iload_n 1) 1 1 := ⟨by decide +kernel, rfl⟩
theorem D_X4_layerOf_1 : DecJ mi_X4_layerOf 1 (.ifCond .lt 18) (18) 4 19 := ⟨by decide +kernel, rfl, by decide⟩
theorem D_X4_layerOf_4 : Dec mi_X4_layerOf 4 (.iload_n 1) 1 5 := ⟨by decide +kernel, rfl⟩
theorem D_X4_layerOf_5 : Dec mi_X4_layerOf 5 (.bipush 6) 2 7 := ⟨by decide +kernel, rfl⟩
theorem D_X4_layerOf_7 : DecJ mi_X4_layerOf 7 (.if_icmp .ge 12) (12) 10 19 := ⟨by decide +kernel, rfl, by decide⟩
theorem D_X4_layerOf_10 : Dec mi_X4_layerOf 10 (.aload_n 0) 1 11 := ⟨by decide +kernel, rfl⟩
theorem D_X4_layerOf_11 : Dec mi_X4_layerOf 11 (.getfield 18) 3 14 := ⟨by decide +kernel, rfl⟩
theorem D_X4_layerOf_14 : Dec mi_X4_layerOf 14 (.iload_n 1) 1 15 := ⟨by decide +kernel, rfl⟩
theorem D_X4_layerOf_15 : Dec mi_X4_layerOf 15 (.iaload) 1 16 := ⟨by decide +kernel, rfl⟩
theorem D_X4_layerOf_16 : DecJ mi_X4_layerOf 16 (.goto 5) (5) 19 21 := ⟨by decide +kernel, rfl, by decide⟩
theorem D_X4_layerOf_19 : Dec mi_X4_layerOf 19 (.bipush (-9)) 2 21 := ⟨by decide +kernel, rfl⟩
theorem D_X4_layerOf_21 : Dec mi_X4_layerOf 21 (.ireturn) 1 22 := ⟨by decide +kernel, rfl⟩
def f_X4_layerOf (M : Mem) (a1 : Int32) : Option Int32 := if a1 < 0 then (some (-9 : Int32)) else (if (6 : Int32) ≤ a1 then (some (-9 : Int32)) else (if ck a1 6 = true then (some (M.1 30 a1.toNatClampNeg)) else none))
theorem x_X4_layerOf {l : Launch} {w : Wd} {M : Mem} {a1 : Int32} {v : Int32} (h : f_X4_layerOf M a1 = some v) : Cn l w mi_X4_layerOf yX4_layerOf (0) [.ref (wq w 27), .int a1] M (some (.int v), M) :=
  Cn_of (loc0 := [some (.ref (wq w 27)), some (.int a1)]) rfl rfl rfl (Nat.le_of_ble_eq_true rfl) fun κ hq => let_h (show (if a1 < 0 then (some (-9 : Int32)) else (if (6 : Int32) ≤ a1 then (some (-9 : Int32)) else (if ck a1 6 = true then (some (M.1 30 a1.toNatClampNeg)) else none))) = some v from h) fun h => r_iload_n D_X4_layerOf_0 rfl <| r_if_lt D_X4_layerOf_1 (fun c1 => let_h (ifT c1 h) fun h => r_bipush D_X4_layerOf_19 k8_m9 <| r_iret hq D_X4_layerOf_21 rfl (rtP h)) (fun c1 => let_h (ifF c1 h) fun h => r_iload_n D_X4_layerOf_4 rfl <| r_bipush D_X4_layerOf_5 k8_6 <| r_icmp_ge D_X4_layerOf_7 (fun c2 => let_h (ifT c2 h) fun h => r_bipush D_X4_layerOf_19 k8_m9 <| r_iret hq D_X4_layerOf_21 rfl (rtP h)) (fun c2 => let_h (ifF c2 h) fun h => r_aload_n D_X4_layerOf_10 rfl <| r_getR (j := 30) D_X4_layerOf_11 fl_X4_18 s_27 rfl <| r_iload_n D_X4_layerOf_14 rfl <| (ckE h).elim fun c3 h => r_iald D_X4_layerOf_15 s_30 c3 <| r_goto D_X4_layerOf_16 <| r_iret hq D_X4_layerOf_21 rfl (rtP h)))
-- X5_washOn
theorem D_X5_washOn_0 : Dec mi_X5_washOn 0 (.aload_n 0) 1 1 := ⟨by decide +kernel, rfl⟩
theorem D_X5_washOn_1 : Dec mi_X5_washOn 1 (.iload_n 1) 1 2 := ⟨by decide +kernel, rfl⟩
theorem D_X5_washOn_2 : Dec mi_X5_washOn 2 (.invokevirtual 52) 3 5 := ⟨by decide +kernel, rfl⟩
theorem D_X5_washOn_5 : DecJ mi_X5_washOn 5 (.ifCond .eq 12) (12) 8 17 := ⟨by decide +kernel, rfl, by decide⟩
theorem D_X5_washOn_8 : Dec mi_X5_washOn 8 (.aload_n 0) 1 9 := ⟨by decide +kernel, rfl⟩
theorem D_X5_washOn_9 : Dec mi_X5_washOn 9 (.getfield 21) 3 12 := ⟨by decide +kernel, rfl⟩
theorem D_X5_washOn_12 : Dec mi_X5_washOn 12 (.iload_n 1) 1 13 := ⟨by decide +kernel, rfl⟩
theorem D_X5_washOn_13 : Dec mi_X5_washOn 13 (.iaload) 1 14 := ⟨by decide +kernel, rfl⟩
theorem D_X5_washOn_14 : DecJ mi_X5_washOn 14 (.goto 5) (5) 17 19 := ⟨by decide +kernel, rfl, by decide⟩
theorem D_X5_washOn_17 : Dec mi_X5_washOn 17 (.bipush (-9)) 2 19 := ⟨by decide +kernel, rfl⟩
theorem D_X5_washOn_19 : Dec mi_X5_washOn 19 (.ireturn) 1 20 := ⟨by decide +kernel, rfl⟩
def f_X5_washOn (M : Mem) (a1 : Int32) : Option Int32 := if (f_X5_isDay M a1) = 0 then (some (-9 : Int32)) else (if ck a1 8 = true then (some (M.1 21 a1.toNatClampNeg)) else none)
theorem x_X5_washOn {l : Launch} {w : Wd} {M : Mem} {a1 : Int32} {v : Int32} (h : f_X5_washOn M a1 = some v) : Cn l w mi_X5_washOn yX5_washOn (1) [.ref (wq w 17), .int a1] M (some (.int v), M) :=
  Cn_of (loc0 := [some (.ref (wq w 17)), some (.int a1)]) rfl rfl rfl (Nat.le_of_ble_eq_true rfl) fun κ hq => let_h (show (if (f_X5_isDay M a1) = 0 then (some (-9 : Int32)) else (if ck a1 8 = true then (some (M.1 21 a1.toNatClampNeg)) else none)) = some v from h) fun h => r_aload_n D_X5_washOn_0 rfl <| r_iload_n D_X5_washOn_1 rfl <| r_callV (av := [.int a1]) D_X5_washOn_2 ml_X5_52 mf_X5_isDay mv_X5_isDay s_17 rfl rfl (x_X5_isDay rfl) (Nat.le_of_ble_eq_true rfl) rfl rfl (Nat.le_of_ble_eq_true rfl) <| r_if_eq D_X5_washOn_5 (fun c1 => let_h (ifT c1 h) fun h => r_bipush D_X5_washOn_17 k8_m9 <| r_iret hq D_X5_washOn_19 rfl (rtP h)) (fun c1 => let_h (ifF c1 h) fun h => r_aload_n D_X5_washOn_8 rfl <| r_getR (j := 21) D_X5_washOn_9 fl_X5_21 s_17 rfl <| r_iload_n D_X5_washOn_12 rfl <| (ckE h).elim fun c2 h => r_iald D_X5_washOn_13 s_21 c2 <| r_goto D_X5_washOn_14 <| r_iret hq D_X5_washOn_19 rfl (rtP h))
-- X5_neverOn
theorem D_X5_neverOn_0 : Dec mi_X5_neverOn 0 (.iconst 0) 1 1 := ⟨by decide +kernel, rfl⟩
theorem D_X5_neverOn_1 : Dec mi_X5_neverOn 1 (.istore_n 2) 1 2 := ⟨by decide +kernel, rfl⟩
theorem D_X5_neverOn_2 : Dec mi_X5_neverOn 2 (.iconst 0) 1 3 := ⟨by decide +kernel, rfl⟩
theorem D_X5_neverOn_3 : Dec mi_X5_neverOn 3 (.istore_n 3) 1 4 := ⟨by decide +kernel, rfl⟩
theorem D_X5_neverOn_4 : Dec mi_X5_neverOn 4 (.iload_n 3) 1 5 := ⟨by decide +kernel, rfl⟩
theorem D_X5_neverOn_5 : Dec mi_X5_neverOn 5 (.aload_n 0) 1 6 := ⟨by decide +kernel, rfl⟩
theorem D_X5_neverOn_6 : Dec mi_X5_neverOn 6 (.getfield 34) 3 9 := ⟨by decide +kernel, rfl⟩
theorem D_X5_neverOn_9 : Dec mi_X5_neverOn 9 (.invokevirtual 69) 3 12 := ⟨by decide +kernel, rfl⟩
theorem D_X5_neverOn_12 : DecJ mi_X5_neverOn 12 (.if_icmp .ge 41) (41) 15 53 := ⟨by decide +kernel, rfl, by decide⟩
theorem D_X5_neverOn_15 : Dec mi_X5_neverOn 15 (.iload_n 1) 1 16 := ⟨by decide +kernel, rfl⟩
theorem D_X5_neverOn_16 : Dec mi_X5_neverOn 16 (.aload_n 0) 1 17 := ⟨by decide +kernel, rfl⟩
theorem D_X5_neverOn_17 : Dec mi_X5_neverOn 17 (.getfield 34) 3 20 := ⟨by decide +kernel, rfl⟩
theorem D_X5_neverOn_20 : Dec mi_X5_neverOn 20 (.invokevirtual 72) 3 23 := ⟨by decide +kernel, rfl⟩
theorem D_X5_neverOn_23 : Dec mi_X5_neverOn 23 (.iconst (-1)) 1 24 := ⟨by decide +kernel, rfl⟩
theorem D_X5_neverOn_24 : Dec mi_X5_neverOn 24 (.ixor) 1 25 := ⟨by decide +kernel, rfl⟩
theorem D_X5_neverOn_25 : Dec mi_X5_neverOn 25 (.iand) 1 26 := ⟨by decide +kernel, rfl⟩
theorem D_X5_neverOn_26 : Dec mi_X5_neverOn 26 (.iload_n 3) 1 27 := ⟨by decide +kernel, rfl⟩
theorem D_X5_neverOn_27 : Dec mi_X5_neverOn 27 (.invokestatic 75) 3 30 := ⟨by decide +kernel, rfl⟩
theorem D_X5_neverOn_30 : DecJ mi_X5_neverOn 30 (.ifCond .eq 17) (17) 33 47 := ⟨by decide +kernel, rfl, by decide⟩
theorem D_X5_neverOn_33 : Dec mi_X5_neverOn 33 (.aload_n 0) 1 34 := ⟨by decide +kernel, rfl⟩
theorem D_X5_neverOn_34 : Dec mi_X5_neverOn 34 (.iload_n 3) 1 35 := ⟨by decide +kernel, rfl⟩
theorem D_X5_neverOn_35 : Dec mi_X5_neverOn 35 (.invokevirtual 78) 3 38 := ⟨by decide +kernel, rfl⟩
theorem D_X5_neverOn_38 : DecJ mi_X5_neverOn 38 (.ifCond .ge 9) (9) 41 47 := ⟨by decide +kernel, rfl, by decide⟩
theorem D_X5_neverOn_41 : Dec mi_X5_neverOn 41 (.iload_n 2) 1 42 := ⟨by decide +kernel, rfl⟩
theorem D_X5_neverOn_42 : Dec mi_X5_neverOn 42 (.iconst 1) 1 43 := ⟨by decide +kernel, rfl⟩
theorem D_X5_neverOn_43 : Dec mi_X5_neverOn 43 (.iload_n 3) 1 44 := ⟨by decide +kernel, rfl⟩
theorem D_X5_neverOn_44 : Dec mi_X5_neverOn 44 (.ishl) 1 45 := ⟨by decide +kernel, rfl⟩
theorem D_X5_neverOn_45 : Dec mi_X5_neverOn 45 (.ior) 1 46 := ⟨by decide +kernel, rfl⟩
theorem D_X5_neverOn_46 : Dec mi_X5_neverOn 46 (.istore_n 2) 1 47 := ⟨by decide +kernel, rfl⟩
theorem D_X5_neverOn_47 : Dec mi_X5_neverOn 47 (.iinc 3 1) 3 50 := ⟨by decide +kernel, rfl⟩
theorem D_X5_neverOn_50 : DecJ mi_X5_neverOn 50 (.goto (-46)) (-46) 53 4 := ⟨by decide +kernel, rfl, by decide⟩
theorem D_X5_neverOn_53 : Dec mi_X5_neverOn 53 (.iload_n 2) 1 54 := ⟨by decide +kernel, rfl⟩
theorem D_X5_neverOn_54 : Dec mi_X5_neverOn 54 (.ireturn) 1 55 := ⟨by decide +kernel, rfl⟩
def f_X5_neverOn_4 (F : Nat) (M : Mem) : Nat → Int32 → Int32 → Int32 → Option Int32
  | 0, _, _, _ => none
  | n + 1, y1, y2, y3 => if (f_X8_things M 3) ≤ y3 then (some y2) else (if (f_X9_has M (y1 &&& ((f_X8_coats M 3) ^^^ (-1 : Int32))) y3) = 0 then (f_X5_neverOn_4 F M n y1 y2 (y3 + (1 : Int32))) else ((f_X5_firstDayOf F M y3).bind fun x3 => if 0 ≤ x3 then (f_X5_neverOn_4 F M n y1 y2 (y3 + (1 : Int32))) else (vlet (y2 ||| ((1 : Int32) <<< (y3 &&& 31))) fun x6 => f_X5_neverOn_4 F M n y1 x6 (y3 + (1 : Int32)))))
theorem x_X5_neverOn_4 {l : Launch} {w : Wd} {κ : Kp} {F : Nat} {M : Mem} {v : Int32} (hq : RQ w (some (.int v), M) κ) : ∀ (n : Nat) (y1 : Int32) (y2 : Int32) (y3 : Int32), f_X5_neverOn_4 F M n y1 y2 y3 = some v → RR l w mi_X5_neverOn (3) κ 4 [] [some (.ref (wq w 17)), some (.int y1), some (.int y2), some (.int y3)] M
  | 0, _, _, _, h => nomatch h
  | n + 1, y1, y2, y3, h => let_h (show (if (f_X8_things M 3) ≤ y3 then (some y2) else (if (f_X9_has M (y1 &&& ((f_X8_coats M 3) ^^^ (-1 : Int32))) y3) = 0 then (f_X5_neverOn_4 F M n y1 y2 (y3 + (1 : Int32))) else ((f_X5_firstDayOf F M y3).bind fun x3 => if 0 ≤ x3 then (f_X5_neverOn_4 F M n y1 y2 (y3 + (1 : Int32))) else (vlet (y2 ||| ((1 : Int32) <<< (y3 &&& 31))) fun x6 => f_X5_neverOn_4 F M n y1 x6 (y3 + (1 : Int32)))))) = some v from h) fun h => r_iload_n D_X5_neverOn_4 rfl <| r_aload_n D_X5_neverOn_5 rfl <| r_getR (j := 3) D_X5_neverOn_6 fl_X5_34 s_17 rfl <| r_callV (av := []) D_X5_neverOn_9 ml_X5_69 mf_X8_things mv_X8_things s_3 rfl rfl (x_X8_things trip_3 rfl) (Nat.le_of_ble_eq_true rfl) rfl rfl (Nat.le_of_ble_eq_true rfl) <| r_icmp_ge D_X5_neverOn_12 (fun c1 => let_h (ifT c1 h) fun h => r_iload_n D_X5_neverOn_53 rfl <| r_iret hq D_X5_neverOn_54 rfl (rtP h)) (fun c1 => let_h (ifF c1 h) fun h => r_iload_n D_X5_neverOn_15 rfl <| r_aload_n D_X5_neverOn_16 rfl <| r_getR (j := 3) D_X5_neverOn_17 fl_X5_34 s_17 rfl <| r_callV (av := []) D_X5_neverOn_20 ml_X5_72 mf_X8_coats mv_X8_coats s_3 rfl rfl (x_X8_coats trip_3 rfl) (Nat.le_of_ble_eq_true rfl) rfl rfl (Nat.le_of_ble_eq_true rfl) <| r_iconst D_X5_neverOn_23 ki_m1 <| r_ixor D_X5_neverOn_24 <| r_iand D_X5_neverOn_25 <| r_iload_n D_X5_neverOn_26 rfl <| r_callN (av := [.int (y1 &&& ((f_X8_coats M 3) ^^^ (-1 : Int32))), .int y3]) D_X5_neverOn_27 nl_X5_75 mf_X9_has ms_X9_has (x_X9_has rfl) (Nat.le_of_ble_eq_true rfl) rfl rfl (Nat.le_of_ble_eq_true rfl) <| r_if_eq D_X5_neverOn_30 (fun c2 => let_h (ifT c2 h) fun h => r_iinc D_X5_neverOn_47 rfl ki_1 (by decide) rfl <| r_goto D_X5_neverOn_50 <| r_ls (x_X5_neverOn_4 hq n y1 y2 (y3 + (1 : Int32)) h) ⟨rfl, ⟨rfl, ⟨rfl, ⟨rfl, trivial⟩⟩⟩⟩) (fun c2 => let_h (ifF c2 h) fun h => r_aload_n D_X5_neverOn_33 rfl <| r_iload_n D_X5_neverOn_34 rfl <| (bdE h).elim fun x3 q4 => let_h q4.2 fun h => r_callV (av := [.int y3]) D_X5_neverOn_35 ml_X5_78 mf_X5_firstDayOf mv_X5_firstDayOf s_17 rfl rfl (x_X5_firstDayOf q4.1) (Nat.le_of_ble_eq_true rfl) rfl rfl (Nat.le_of_ble_eq_true rfl) <| r_if_ge D_X5_neverOn_38 (fun c5 => let_h (ifT c5 h) fun h => r_iinc D_X5_neverOn_47 rfl ki_1 (by decide) rfl <| r_goto D_X5_neverOn_50 <| r_ls (x_X5_neverOn_4 hq n y1 y2 (y3 + (1 : Int32)) h) ⟨rfl, ⟨rfl, ⟨rfl, ⟨rfl, trivial⟩⟩⟩⟩) (fun c5 => let_h (ifF c5 h) fun h => r_iload_n D_X5_neverOn_41 rfl <| r_iconst D_X5_neverOn_42 ki_1 <| r_iload_n D_X5_neverOn_43 rfl <| r_ishl D_X5_neverOn_44 <| r_ior D_X5_neverOn_45 <| vlE (fun x6 => RR l w mi_X5_neverOn (3) κ 46 [.int x6] [some (.ref (wq w 17)), some (.int y1), some (.int y2), some (.int y3)] M) h fun x6 h => r_istore_n D_X5_neverOn_46 (by decide) rfl <| r_iinc D_X5_neverOn_47 rfl ki_1 (by decide) rfl <| r_goto D_X5_neverOn_50 <| r_ls (x_X5_neverOn_4 hq n y1 x6 (y3 + (1 : Int32)) h) ⟨rfl, ⟨rfl, ⟨rfl, ⟨rfl, trivial⟩⟩⟩⟩)))
def f_X5_neverOn (F : Nat) (M : Mem) (a1 : Int32) : Option Int32 := f_X5_neverOn_4 F M F a1 (0 : Int32) (0 : Int32)
theorem x_X5_neverOn {l : Launch} {w : Wd} {F : Nat} {M : Mem} {a1 : Int32} {v : Int32} (h : f_X5_neverOn F M a1 = some v) : Cn l w mi_X5_neverOn yX5_neverOn (3) [.ref (wq w 17), .int a1] M (some (.int v), M) :=
  Cn_of (loc0 := [some (.ref (wq w 17)), some (.int a1), none, none]) rfl rfl rfl (Nat.le_of_ble_eq_true rfl) fun κ hq => let_h (show (f_X5_neverOn_4 F M F a1 (0 : Int32) (0 : Int32)) = some v from h) fun h => r_iconst D_X5_neverOn_0 ki_0 <| r_istore_n D_X5_neverOn_1 (by decide) rfl <| r_iconst D_X5_neverOn_2 ki_0 <| r_istore_n D_X5_neverOn_3 (by decide) rfl <| r_ls (x_X5_neverOn_4 hq F a1 (0 : Int32) (0 : Int32) h) ⟨rfl, ⟨rfl, ⟨rfl, ⟨rfl, trivial⟩⟩⟩⟩
-- X5_mark
theorem D_X5_mark_0 : Dec mi_X5_mark 0 (.iload_n 1) 1 1 := ⟨by decide +kernel, rfl⟩
theorem D_X5_mark_1 : DecJ mi_X5_mark 1 (.ifCond .lt 28) (28) 4 29 := ⟨by decide +kernel, rfl, by decide⟩
theorem D_X5_mark_4 : Dec mi_X5_mark 4 (.iload_n 1) 1 5 := ⟨by decide +kernel, rfl⟩
theorem D_X5_mark_5 : Dec mi_X5_mark 5 (.sipush 4096) 3 8 := ⟨by decide +kernel, rfl⟩
theorem D_X5_mark_8 : DecJ mi_X5_mark 8 (.if_icmp .ge 21) (21) 11 29 := ⟨by decide +kernel, rfl, by decide⟩
theorem D_X5_mark_11 : Dec mi_X5_mark 11 (.aload_n 0) 1 12 := ⟨by decide +kernel, rfl⟩
theorem D_X5_mark_12 : Dec mi_X5_mark 12 (.getfield 31) 3 15 := ⟨by decide +kernel, rfl⟩
theorem D_X5_mark_15 : Dec mi_X5_mark 15 (.iload_n 1) 1 16 := ⟨by decide +kernel, rfl⟩
theorem D_X5_mark_16 : Dec mi_X5_mark 16 (.bipush 64) 2 18 := ⟨by decide +kernel, rfl⟩
theorem D_X5_mark_18 : Dec mi_X5_mark 18 (.idiv) 1 19 := ⟨by decide +kernel, rfl⟩
theorem D_X5_mark_19 : Dec mi_X5_mark 19 (.dup2) 1 20 := ⟨by decide +kernel, rfl⟩
theorem D_X5_mark_20 : Dec mi_X5_mark 20 (.laload) 1 21 := ⟨by decide +kernel, rfl⟩
theorem D_X5_mark_21 : Dec mi_X5_mark 21 (.lconst 1) 1 22 := ⟨by decide +kernel, rfl⟩
theorem D_X5_mark_22 : Dec mi_X5_mark 22 (.iload_n 1) 1 23 := ⟨by decide +kernel, rfl⟩
theorem D_X5_mark_23 : Dec mi_X5_mark 23 (.bipush 64) 2 25 := ⟨by decide +kernel, rfl⟩
theorem D_X5_mark_25 : Dec mi_X5_mark 25 (.irem) 1 26 := ⟨by decide +kernel, rfl⟩
theorem D_X5_mark_26 : Dec mi_X5_mark 26 (.lshl) 1 27 := ⟨by decide +kernel, rfl⟩
theorem D_X5_mark_27 : Dec mi_X5_mark 27 (.lor) 1 28 := ⟨by decide +kernel, rfl⟩
theorem D_X5_mark_28 : Dec mi_X5_mark 28 (.lastore) 1 29 := ⟨by decide +kernel, rfl⟩
theorem D_X5_mark_29 : Dec mi_X5_mark 29 (.return_) 1 30 := ⟨by decide +kernel, rfl⟩
def f_X5_mark (M : Mem) (a1 : Int32) : Option Mem := if a1 < 0 then (some M) else (if (4096 : Int32) ≤ a1 then (some M) else (if ck (a1 / (64 : Int32)) 64 = true then (if ck (a1 / (64 : Int32)) 64 = true then (vlet (setL M 24 (a1 / (64 : Int32)).toNatClampNeg ((M.2 24 (a1 / (64 : Int32)).toNatClampNeg) ||| ((1 : Int64) <<< ((a1 - a1 / (64 : Int32) * (64 : Int32)).toInt64 &&& 63)))) fun M5 => some M5) else none) else none))
theorem x_X5_mark {l : Launch} {w : Wd} {M : Mem} {a1 : Int32} {v : Mem} (h : f_X5_mark M a1 = some v) : Cn l w mi_X5_mark yX5_mark (0) [.ref (wq w 17), .int a1] M (none, v) :=
  Cn_of (loc0 := [some (.ref (wq w 17)), some (.int a1)]) rfl rfl rfl (Nat.le_of_ble_eq_true rfl) fun κ hq => let_h (show (if a1 < 0 then (some M) else (if (4096 : Int32) ≤ a1 then (some M) else (if ck (a1 / (64 : Int32)) 64 = true then (if ck (a1 / (64 : Int32)) 64 = true then (vlet (setL M 24 (a1 / (64 : Int32)).toNatClampNeg ((M.2 24 (a1 / (64 : Int32)).toNatClampNeg) ||| ((1 : Int64) <<< ((a1 - a1 / (64 : Int32) * (64 : Int32)).toInt64 &&& 63)))) fun M5 => some M5) else none) else none))) = some v from h) fun h => r_iload_n D_X5_mark_0 rfl <| r_if_lt D_X5_mark_1 (fun c1 => let_h (ifT c1 h) fun h => r_vret hq D_X5_mark_29 rfl (rtV h)) (fun c1 => let_h (ifF c1 h) fun h => r_iload_n D_X5_mark_4 rfl <| r_sipush D_X5_mark_5 k16_4096 <| r_icmp_ge D_X5_mark_8 (fun c2 => let_h (ifT c2 h) fun h => r_vret hq D_X5_mark_29 rfl (rtV h)) (fun c2 => let_h (ifF c2 h) fun h => r_aload_n D_X5_mark_11 rfl <| r_getR (j := 24) D_X5_mark_12 fl_X5_31 s_17 rfl <| r_iload_n D_X5_mark_15 rfl <| r_bipush D_X5_mark_16 k8_64 <| r_idiv D_X5_mark_18 (by decide) <| r_dup2 D_X5_mark_19 rfl rfl <| (ckE h).elim fun c3 h => r_lald D_X5_mark_20 s_24 c3 <| r_lconst (v := 1) D_X5_mark_21 (by decide) <| r_iload_n D_X5_mark_22 rfl <| r_bipush D_X5_mark_23 k8_64 <| r_irem D_X5_mark_25 (by decide) <| r_lshl D_X5_mark_26 <| r_lor D_X5_mark_27 <| (ckE h).elim fun c4 h => r_last D_X5_mark_28 s_24 c4 <| mlE h fun M5 h => r_vret hq D_X5_mark_29 rfl (rtV h)))
-- X5_reachFrom
theorem D_X5_reachFrom_0 : Dec mi_X5_reachFrom 0 (.iconst 0) 1 1 := ⟨by decide +kernel, rfl⟩
theorem D_X5_reachFrom_1 : Dec mi_X5_reachFrom 1 (.istore_n 3) 1 2 := ⟨by decide +kernel, rfl⟩
theorem D_X5_reachFrom_2 : Dec mi_X5_reachFrom 2 (.iconst 0) 1 3 := ⟨by decide +kernel, rfl⟩
theorem D_X5_reachFrom_3 : Dec mi_X5_reachFrom 3 (.istore 4) 2 5 := ⟨by decide +kernel, rfl⟩
theorem D_X5_reachFrom_5 : Dec mi_X5_reachFrom 5 (.aload_n 0) 1 6 := ⟨by decide +kernel, rfl⟩
theorem D_X5_reachFrom_6 : Dec mi_X5_reachFrom 6 (.iload_n 1) 1 7 := ⟨by decide +kernel, rfl⟩
theorem D_X5_reachFrom_7 : Dec mi_X5_reachFrom 7 (.invokevirtual 52) 3 10 := ⟨by decide +kernel, rfl⟩
theorem D_X5_reachFrom_10 : DecJ mi_X5_reachFrom 10 (.ifCond .eq 140) (140) 13 150 := ⟨by decide +kernel, rfl, by decide⟩
theorem D_X5_reachFrom_13 : Dec mi_X5_reachFrom 13 (.iload 4) 2 15 := ⟨by decide +kernel, rfl⟩
theorem D_X5_reachFrom_15 : Dec mi_X5_reachFrom 15 (.aload_n 0) 1 16 := ⟨by decide +kernel, rfl⟩
theorem D_X5_reachFrom_16 : Dec mi_X5_reachFrom 16 (.getfield 15) 3 19 := ⟨by decide +kernel, rfl⟩
theorem D_X5_reachFrom_19 : Dec mi_X5_reachFrom 19 (.iload_n 1) 1 20 := ⟨by decide +kernel, rfl⟩
theorem D_X5_reachFrom_20 : Dec mi_X5_reachFrom 20 (.iaload) 1 21 := ⟨by decide +kernel, rfl⟩
theorem D_X5_reachFrom_21 : DecJ mi_X5_reachFrom 21 (.if_icmp .ge 129) (129) 24 150 := ⟨by decide +kernel, rfl, by decide⟩
theorem D_X5_reachFrom_24 : Dec mi_X5_reachFrom 24 (.iload 4) 2 26 := ⟨by decide +kernel, rfl⟩
theorem D_X5_reachFrom_26 : Dec mi_X5_reachFrom 26 (.bipush 9) 2 28 := ⟨by decide +kernel, rfl⟩
theorem D_X5_reachFrom_28 : DecJ mi_X5_reachFrom 28 (.if_icmp .ge 122) (122) 31 150 := ⟨by decide +kernel, rfl, by decide⟩
theorem D_X5_reachFrom_31 : Dec mi_X5_reachFrom 31 (.aload_n 0) 1 32 := ⟨by decide +kernel, rfl⟩
theorem D_X5_reachFrom_32 : Dec mi_X5_reachFrom 32 (.getfield 11) 3 35 := ⟨by decide +kernel, rfl⟩
theorem D_X5_reachFrom_35 : Dec mi_X5_reachFrom 35 (.iload_n 1) 1 36 := ⟨by decide +kernel, rfl⟩
theorem D_X5_reachFrom_36 : Dec mi_X5_reachFrom 36 (.bipush 9) 2 38 := ⟨by decide +kernel, rfl⟩
theorem D_X5_reachFrom_38 : Dec mi_X5_reachFrom 38 (.imul) 1 39 := ⟨by decide +kernel, rfl⟩
theorem D_X5_reachFrom_39 : Dec mi_X5_reachFrom 39 (.iload 4) 2 41 := ⟨by decide +kernel, rfl⟩
theorem D_X5_reachFrom_41 : Dec mi_X5_reachFrom 41 (.iadd) 1 42 := ⟨by decide +kernel, rfl⟩
theorem D_X5_reachFrom_42 : Dec mi_X5_reachFrom 42 (.iaload) 1 43 := ⟨by decide +kernel, rfl⟩
theorem D_X5_reachFrom_43 : Dec mi_X5_reachFrom 43 (.bipush 6) 2 45 := ⟨by decide +kernel, rfl⟩
theorem D_X5_reachFrom_45 : Dec mi_X5_reachFrom 45 (.idiv) 1 46 := ⟨by decide +kernel, rfl⟩
theorem D_X5_reachFrom_46 : Dec mi_X5_reachFrom 46 (.istore 5) 2 48 := ⟨by decide +kernel, rfl⟩
theorem D_X5_reachFrom_48 : Dec mi_X5_reachFrom 48 (.aload_n 0) 1 49 := ⟨by decide +kernel, rfl⟩
theorem D_X5_reachFrom_49 : Dec mi_X5_reachFrom 49 (.getfield 11) 3 52 := ⟨by decide +kernel, rfl⟩
theorem D_X5_reachFrom_52 : Dec mi_X5_reachFrom 52 (.iload_n 1) 1 53 := ⟨by decide +kernel, rfl⟩
theorem D_X5_reachFrom_53 : Dec mi_X5_reachFrom 53 (.bipush 9) 2 55 := ⟨by decide +kernel, rfl⟩
theorem D_X5_reachFrom_55 : Dec mi_X5_reachFrom 55 (.imul) 1 56 := ⟨by decide +kernel, rfl⟩
theorem D_X5_reachFrom_56 : Dec mi_X5_reachFrom 56 (.iload 4) 2 58 := ⟨by decide +kernel, rfl⟩
theorem D_X5_reachFrom_58 : Dec mi_X5_reachFrom 58 (.iadd) 1 59 := ⟨by decide +kernel, rfl⟩
theorem D_X5_reachFrom_59 : Dec mi_X5_reachFrom 59 (.iaload) 1 60 := ⟨by decide +kernel, rfl⟩
theorem D_X5_reachFrom_60 : Dec mi_X5_reachFrom 60 (.bipush 6) 2 62 := ⟨by decide +kernel, rfl⟩
theorem D_X5_reachFrom_62 : Dec mi_X5_reachFrom 62 (.irem) 1 63 := ⟨by decide +kernel, rfl⟩
theorem D_X5_reachFrom_63 : Dec mi_X5_reachFrom 63 (.istore 6) 2 65 := ⟨by decide +kernel, rfl⟩
theorem D_X5_reachFrom_65 : Dec mi_X5_reachFrom 65 (.aload_n 0) 1 66 := ⟨by decide +kernel, rfl⟩
theorem D_X5_reachFrom_66 : Dec mi_X5_reachFrom 66 (.getfield 34) 3 69 := ⟨by decide +kernel, rfl⟩
theorem D_X5_reachFrom_69 : Dec mi_X5_reachFrom 69 (.iload_n 2) 1 70 := ⟨by decide +kernel, rfl⟩
theorem D_X5_reachFrom_70 : Dec mi_X5_reachFrom 70 (.iload 5) 2 72 := ⟨by decide +kernel, rfl⟩
theorem D_X5_reachFrom_72 : Dec mi_X5_reachFrom 72 (.invokevirtual 105) 3 75 := ⟨by decide +kernel, rfl⟩
theorem D_X5_reachFrom_75 : DecJ mi_X5_reachFrom 75 (.ifCond .eq 69) (69) 78 144 := ⟨by decide +kernel, rfl, by decide⟩
theorem D_X5_reachFrom_78 : Dec mi_X5_reachFrom 78 (.aload_n 0) 1 79 := ⟨by decide +kernel, rfl⟩
theorem D_X5_reachFrom_79 : Dec mi_X5_reachFrom 79 (.getfield 34) 3 82 := ⟨by decide +kernel, rfl⟩
theorem D_X5_reachFrom_82 : Dec mi_X5_reachFrom 82 (.iload_n 2) 1 83 := ⟨by decide +kernel, rfl⟩
theorem D_X5_reachFrom_83 : Dec mi_X5_reachFrom 83 (.iload 6) 2 85 := ⟨by decide +kernel, rfl⟩
theorem D_X5_reachFrom_85 : Dec mi_X5_reachFrom 85 (.invokevirtual 105) 3 88 := ⟨by decide +kernel, rfl⟩
theorem D_X5_reachFrom_88 : DecJ mi_X5_reachFrom 88 (.ifCond .eq 56) (56) 91 144 := ⟨by decide +kernel, rfl, by decide⟩
theorem D_X5_reachFrom_91 : Dec mi_X5_reachFrom 91 (.iconst 1) 1 92 := ⟨by decide +kernel, rfl⟩
theorem D_X5_reachFrom_92 : Dec mi_X5_reachFrom 92 (.istore_n 3) 1 93 := ⟨by decide +kernel, rfl⟩
theorem D_X5_reachFrom_93 : Dec mi_X5_reachFrom 93 (.iconst 0) 1 94 := ⟨by decide +kernel, rfl⟩
theorem D_X5_reachFrom_94 : Dec mi_X5_reachFrom 94 (.istore 7) 2 96 := ⟨by decide +kernel, rfl⟩
theorem D_X5_reachFrom_96 : Dec mi_X5_reachFrom 96 (.iload 7) 2 98 := ⟨by decide +kernel, rfl⟩
theorem D_X5_reachFrom_98 : Dec mi_X5_reachFrom 98 (.aload_n 0) 1 99 := ⟨by decide +kernel, rfl⟩
theorem D_X5_reachFrom_99 : Dec mi_X5_reachFrom 99 (.getfield 34) 3 102 := ⟨by decide +kernel, rfl⟩
theorem D_X5_reachFrom_102 : Dec mi_X5_reachFrom 102 (.iload_n 1) 1 103 := ⟨by decide +kernel, rfl⟩
theorem D_X5_reachFrom_103 : Dec mi_X5_reachFrom 103 (.iconst 2) 1 104 := ⟨by decide +kernel, rfl⟩
theorem D_X5_reachFrom_104 : Dec mi_X5_reachFrom 104 (.invokevirtual 108) 3 107 := ⟨by decide +kernel, rfl⟩
theorem D_X5_reachFrom_107 : DecJ mi_X5_reachFrom 107 (.if_icmp .gt 37) (37) 110 144 := ⟨by decide +kernel, rfl, by decide⟩
theorem D_X5_reachFrom_110 : Dec mi_X5_reachFrom 110 (.aload_n 0) 1 111 := ⟨by decide +kernel, rfl⟩
theorem D_X5_reachFrom_111 : Dec mi_X5_reachFrom 111 (.aload_n 0) 1 112 := ⟨by decide +kernel, rfl⟩
theorem D_X5_reachFrom_112 : Dec mi_X5_reachFrom 112 (.getfield 34) 3 115 := ⟨by decide +kernel, rfl⟩
theorem D_X5_reachFrom_115 : Dec mi_X5_reachFrom 115 (.iload_n 2) 1 116 := ⟨by decide +kernel, rfl⟩
theorem D_X5_reachFrom_116 : Dec mi_X5_reachFrom 116 (.iload 5) 2 118 := ⟨by decide +kernel, rfl⟩
theorem D_X5_reachFrom_118 : Dec mi_X5_reachFrom 118 (.iload 6) 2 120 := ⟨by decide +kernel, rfl⟩
theorem D_X5_reachFrom_120 : Dec mi_X5_reachFrom 120 (.iconst 0) 1 121 := ⟨by decide +kernel, rfl⟩
theorem D_X5_reachFrom_121 : Dec mi_X5_reachFrom 121 (.iload 7) 2 123 := ⟨by decide +kernel, rfl⟩
theorem D_X5_reachFrom_123 : Dec mi_X5_reachFrom 123 (.iconst 1) 1 124 := ⟨by decide +kernel, rfl⟩
theorem D_X5_reachFrom_124 : DecJ mi_X5_reachFrom 124 (.if_icmp .ne 7) (7) 127 131 := ⟨by decide +kernel, rfl, by decide⟩
theorem D_X5_reachFrom_127 : Dec mi_X5_reachFrom 127 (.iconst 1) 1 128 := ⟨by decide +kernel, rfl⟩
theorem D_X5_reachFrom_128 : DecJ mi_X5_reachFrom 128 (.goto 4) (4) 131 132 := ⟨by decide +kernel, rfl, by decide⟩
theorem D_X5_reachFrom_131 : Dec mi_X5_reachFrom 131 (.iconst 0) 1 132 := ⟨by decide +kernel, rfl⟩
theorem D_X5_reachFrom_132 : Dec mi_X5_reachFrom 132 (.invokevirtual 112) 3 135 := ⟨by decide +kernel, rfl⟩
theorem D_X5_reachFrom_135 : Dec mi_X5_reachFrom 135 (.invokevirtual 125) 3 138 := ⟨by decide +kernel, rfl⟩
theorem D_X5_reachFrom_138 : Dec mi_X5_reachFrom 138 (.iinc 7 1) 3 141 := ⟨by decide +kernel, rfl⟩
theorem D_X5_reachFrom_141 : DecJ mi_X5_reachFrom 141 (.goto (-45)) (-45) 144 96 := ⟨by decide +kernel, rfl, by decide⟩
theorem D_X5_reachFrom_144 : Dec mi_X5_reachFrom 144 (.iinc 4 1) 3 147 := ⟨by decide +kernel, rfl⟩
theorem D_X5_reachFrom_147 : DecJ mi_X5_reachFrom 147 (.goto (-142)) (-142) 150 5 := ⟨by decide +kernel, rfl, by decide⟩
theorem D_X5_reachFrom_150 : Dec mi_X5_reachFrom 150 (.iload_n 3) 1 151 := ⟨by decide +kernel, rfl⟩
theorem D_X5_reachFrom_151 : Dec mi_X5_reachFrom 151 (.ireturn) 1 152 := ⟨by decide +kernel, rfl⟩
def f_X5_reachFrom_96 (F : Nat) (K_5 : Int32 → Int32 → Int32 → Int32 → Mem → Option (Int32 × Mem)) : Nat → Int32 → Int32 → Int32 → Int32 → Int32 → Int32 → Int32 → Mem → Option (Int32 × Mem)
  | 0, _, _, _, _, _, _, _, _ => none
  | n + 1, y1, y2, y3, y4, y5, y6, y7, N => (f_X8_want N 3 y1 (2 : Int32)).bind fun x1 => if x1 < y7 then (K_5 y1 y2 y3 (y4 + (1 : Int32)) N) else (if y7 = (1 : Int32) then ((f_X5_mark N (f_X8_morning N 3 y2 y5 y6 (0 : Int32) (1 : Int32))).bind fun p5 => f_X5_reachFrom_96 F K_5 n y1 y2 y3 y4 y5 y6 (y7 + (1 : Int32)) p5) else ((f_X5_mark N (f_X8_morning N 3 y2 y5 y6 (0 : Int32) (0 : Int32))).bind fun p7 => f_X5_reachFrom_96 F K_5 n y1 y2 y3 y4 y5 y6 (y7 + (1 : Int32)) p7))
theorem x_X5_reachFrom_96 {l : Launch} {w : Wd} {κ : Kp} {F : Nat} {v : Int32 × Mem} {K_5 : Int32 → Int32 → Int32 → Int32 → Mem → Option (Int32 × Mem)} (hq : RQ w (some (.int v.1), v.2) κ) (hK_5 : ∀ (y1 : Int32) (y2 : Int32) (y3 : Int32) (y4 : Int32) (N : Mem), K_5 y1 y2 y3 y4 N = some v → RR l w mi_X5_reachFrom (2) κ 5 [] [some (.ref (wq w 17)), some (.int y1), some (.int y2), some (.int y3), some (.int y4), none, none, none] N) : ∀ (n : Nat) (y1 : Int32) (y2 : Int32) (y3 : Int32) (y4 : Int32) (y5 : Int32) (y6 : Int32) (y7 : Int32) (N : Mem), f_X5_reachFrom_96 F K_5 n y1 y2 y3 y4 y5 y6 y7 N = some v → RR l w mi_X5_reachFrom (2) κ 96 [] [some (.ref (wq w 17)), some (.int y1), some (.int y2), some (.int y3), some (.int y4), some (.int y5), some (.int y6), some (.int y7)] N
  | 0, _, _, _, _, _, _, _, _, h => nomatch h
  | n + 1, y1, y2, y3, y4, y5, y6, y7, N, h => let_h (show ((f_X8_want N 3 y1 (2 : Int32)).bind fun x1 => if x1 < y7 then (K_5 y1 y2 y3 (y4 + (1 : Int32)) N) else (if y7 = (1 : Int32) then ((f_X5_mark N (f_X8_morning N 3 y2 y5 y6 (0 : Int32) (1 : Int32))).bind fun p5 => f_X5_reachFrom_96 F K_5 n y1 y2 y3 y4 y5 y6 (y7 + (1 : Int32)) p5) else ((f_X5_mark N (f_X8_morning N 3 y2 y5 y6 (0 : Int32) (0 : Int32))).bind fun p7 => f_X5_reachFrom_96 F K_5 n y1 y2 y3 y4 y5 y6 (y7 + (1 : Int32)) p7))) = some v from h) fun h => r_iload D_X5_reachFrom_96 rfl <| r_aload_n D_X5_reachFrom_98 rfl <| r_getR (j := 3) D_X5_reachFrom_99 fl_X5_34 s_17 rfl <| r_iload_n D_X5_reachFrom_102 rfl <| r_iconst D_X5_reachFrom_103 ki_2 <| (bdE h).elim fun x1 q2 => let_h q2.2 fun h => r_callV (av := [.int y1, .int (2 : Int32)]) D_X5_reachFrom_104 ml_X5_108 mf_X8_want mv_X8_want s_3 rfl rfl (x_X8_want trip_3 q2.1) (Nat.le_of_ble_eq_true rfl) rfl rfl (Nat.le_of_ble_eq_true rfl) <| r_icmp_gt D_X5_reachFrom_107 (fun c3 => let_h (ifT c3 h) fun h => r_iinc D_X5_reachFrom_144 rfl ki_1 (by decide) rfl <| r_goto D_X5_reachFrom_147 <| r_ls (hK_5 y1 y2 y3 (y4 + (1 : Int32)) N h) ⟨rfl, ⟨rfl, ⟨rfl, ⟨rfl, ⟨rfl, trivial⟩⟩⟩⟩⟩) (fun c3 => let_h (ifF c3 h) fun h => r_aload_n D_X5_reachFrom_110 rfl <| r_aload_n D_X5_reachFrom_111 rfl <| r_getR (j := 3) D_X5_reachFrom_112 fl_X5_34 s_17 rfl <| r_iload_n D_X5_reachFrom_115 rfl <| r_iload D_X5_reachFrom_116 rfl <| r_iload D_X5_reachFrom_118 rfl <| r_iconst D_X5_reachFrom_120 ki_0 <| r_iload D_X5_reachFrom_121 rfl <| r_iconst D_X5_reachFrom_123 ki_1 <| r_icmp_ne D_X5_reachFrom_124 (fun c4 => let_h (ifT c4 h) fun h => r_iconst D_X5_reachFrom_127 ki_1 <| r_goto D_X5_reachFrom_128 <| r_callV (av := [.int y2, .int y5, .int y6, .int (0 : Int32), .int (1 : Int32)]) D_X5_reachFrom_132 ml_X5_112 mf_X8_morning mv_X8_morning s_3 rfl rfl (x_X8_morning trip_3 rfl) (Nat.le_of_ble_eq_true rfl) rfl rfl (Nat.le_of_ble_eq_true rfl) <| (bdE h).elim fun p5 q6 => let_h q6.2 fun h => r_callV (av := [.int (f_X8_morning N 3 y2 y5 y6 (0 : Int32) (1 : Int32))]) D_X5_reachFrom_135 ml_X5_125 mf_X5_mark mv_X5_mark s_17 rfl rfl (x_X5_mark q6.1) (Nat.le_of_ble_eq_true rfl) rfl rfl (Nat.le_of_ble_eq_true rfl) <| r_iinc D_X5_reachFrom_138 rfl ki_1 (by decide) rfl <| r_goto D_X5_reachFrom_141 <| r_ls (x_X5_reachFrom_96 hq hK_5 n y1 y2 y3 y4 y5 y6 (y7 + (1 : Int32)) p5 h) ⟨rfl, ⟨rfl, ⟨rfl, ⟨rfl, ⟨rfl, ⟨rfl, ⟨rfl, ⟨rfl, trivial⟩⟩⟩⟩⟩⟩⟩⟩) (fun c4 => let_h (ifF c4 h) fun h => r_iconst D_X5_reachFrom_131 ki_0 <| r_callV (av := [.int y2, .int y5, .int y6, .int (0 : Int32), .int (0 : Int32)]) D_X5_reachFrom_132 ml_X5_112 mf_X8_morning mv_X8_morning s_3 rfl rfl (x_X8_morning trip_3 rfl) (Nat.le_of_ble_eq_true rfl) rfl rfl (Nat.le_of_ble_eq_true rfl) <| (bdE h).elim fun p7 q8 => let_h q8.2 fun h => r_callV (av := [.int (f_X8_morning N 3 y2 y5 y6 (0 : Int32) (0 : Int32))]) D_X5_reachFrom_135 ml_X5_125 mf_X5_mark mv_X5_mark s_17 rfl rfl (x_X5_mark q8.1) (Nat.le_of_ble_eq_true rfl) rfl rfl (Nat.le_of_ble_eq_true rfl) <| r_iinc D_X5_reachFrom_138 rfl ki_1 (by decide) rfl <| r_goto D_X5_reachFrom_141 <| r_ls (x_X5_reachFrom_96 hq hK_5 n y1 y2 y3 y4 y5 y6 (y7 + (1 : Int32)) p7 h) ⟨rfl, ⟨rfl, ⟨rfl, ⟨rfl, ⟨rfl, ⟨rfl, ⟨rfl, ⟨rfl, trivial⟩⟩⟩⟩⟩⟩⟩⟩))
def f_X5_reachFrom_5 (F : Nat) : Nat → Int32 → Int32 → Int32 → Int32 → Mem → Option (Int32 × Mem)
  | 0, _, _, _, _, _ => none
  | n + 1, y1, y2, y3, y4, N => if (f_X5_isDay N y1) = 0 then (if y3 &&& 1 = y3 then some (y3, N) else none) else (if ck y1 8 = true then (if (N.1 19 y1.toNatClampNeg) ≤ y4 then (if y3 &&& 1 = y3 then some (y3, N) else none) else (if (9 : Int32) ≤ y4 then (if y3 &&& 1 = y3 then some (y3, N) else none) else (if ck ((y1 * (9 : Int32)) + y4) 72 = true then (vlet ((N.1 18 ((y1 * (9 : Int32)) + y4).toNatClampNeg) / (6 : Int32)) fun x6 => if ck ((y1 * (9 : Int32)) + y4) 72 = true then (vlet ((N.1 18 ((y1 * (9 : Int32)) + y4).toNatClampNeg) - (N.1 18 ((y1 * (9 : Int32)) + y4).toNatClampNeg) / (6 : Int32) * (6 : Int32)) fun x8 => if (f_X8_isReady N 3 y2 x6) = 0 then (f_X5_reachFrom_5 F n y1 y2 y3 (y4 + (1 : Int32)) N) else (if (f_X8_isReady N 3 y2 x8) = 0 then (f_X5_reachFrom_5 F n y1 y2 y3 (y4 + (1 : Int32)) N) else (f_X5_reachFrom_96 F (fun y1 y2 y3 y4 N => f_X5_reachFrom_5 F n y1 y2 y3 y4 N) F y1 y2 (1 : Int32) y4 x6 x8 (0 : Int32) N))) else none) else none))) else none)
theorem x_X5_reachFrom_5 {l : Launch} {w : Wd} {κ : Kp} {F : Nat} {v : Int32 × Mem} (hq : RQ w (some (.int v.1), v.2) κ) : ∀ (n : Nat) (y1 : Int32) (y2 : Int32) (y3 : Int32) (y4 : Int32) (N : Mem), f_X5_reachFrom_5 F n y1 y2 y3 y4 N = some v → RR l w mi_X5_reachFrom (2) κ 5 [] [some (.ref (wq w 17)), some (.int y1), some (.int y2), some (.int y3), some (.int y4), none, none, none] N
  | 0, _, _, _, _, _, h => nomatch h
  | n + 1, y1, y2, y3, y4, N, h => let_h (show (if (f_X5_isDay N y1) = 0 then (if y3 &&& 1 = y3 then some (y3, N) else none) else (if ck y1 8 = true then (if (N.1 19 y1.toNatClampNeg) ≤ y4 then (if y3 &&& 1 = y3 then some (y3, N) else none) else (if (9 : Int32) ≤ y4 then (if y3 &&& 1 = y3 then some (y3, N) else none) else (if ck ((y1 * (9 : Int32)) + y4) 72 = true then (vlet ((N.1 18 ((y1 * (9 : Int32)) + y4).toNatClampNeg) / (6 : Int32)) fun x6 => if ck ((y1 * (9 : Int32)) + y4) 72 = true then (vlet ((N.1 18 ((y1 * (9 : Int32)) + y4).toNatClampNeg) - (N.1 18 ((y1 * (9 : Int32)) + y4).toNatClampNeg) / (6 : Int32) * (6 : Int32)) fun x8 => if (f_X8_isReady N 3 y2 x6) = 0 then (f_X5_reachFrom_5 F n y1 y2 y3 (y4 + (1 : Int32)) N) else (if (f_X8_isReady N 3 y2 x8) = 0 then (f_X5_reachFrom_5 F n y1 y2 y3 (y4 + (1 : Int32)) N) else (f_X5_reachFrom_96 F (fun y1 y2 y3 y4 N => f_X5_reachFrom_5 F n y1 y2 y3 y4 N) F y1 y2 (1 : Int32) y4 x6 x8 (0 : Int32) N))) else none) else none))) else none)) = some v from h) fun h => r_aload_n D_X5_reachFrom_5 rfl <| r_iload_n D_X5_reachFrom_6 rfl <| r_callV (av := [.int y1]) D_X5_reachFrom_7 ml_X5_52 mf_X5_isDay mv_X5_isDay s_17 rfl rfl (x_X5_isDay rfl) (Nat.le_of_ble_eq_true rfl) rfl rfl (Nat.le_of_ble_eq_true rfl) <| r_if_eq D_X5_reachFrom_10 (fun c1 => let_h (ifT c1 h) fun h => r_iload_n D_X5_reachFrom_150 rfl <| (bzE h).elim fun cz h => r_zret hq D_X5_reachFrom_151 rfl (nbz cz) (rtW h)) (fun c1 => let_h (ifF c1 h) fun h => r_iload D_X5_reachFrom_13 rfl <| r_aload_n D_X5_reachFrom_15 rfl <| r_getR (j := 19) D_X5_reachFrom_16 fl_X5_15 s_17 rfl <| r_iload_n D_X5_reachFrom_19 rfl <| (ckE h).elim fun c2 h => r_iald D_X5_reachFrom_20 s_19 c2 <| r_icmp_ge D_X5_reachFrom_21 (fun c3 => let_h (ifT c3 h) fun h => r_iload_n D_X5_reachFrom_150 rfl <| (bzE h).elim fun cz h => r_zret hq D_X5_reachFrom_151 rfl (nbz cz) (rtW h)) (fun c3 => let_h (ifF c3 h) fun h => r_iload D_X5_reachFrom_24 rfl <| r_bipush D_X5_reachFrom_26 k8_9 <| r_icmp_ge D_X5_reachFrom_28 (fun c4 => let_h (ifT c4 h) fun h => r_iload_n D_X5_reachFrom_150 rfl <| (bzE h).elim fun cz h => r_zret hq D_X5_reachFrom_151 rfl (nbz cz) (rtW h)) (fun c4 => let_h (ifF c4 h) fun h => r_aload_n D_X5_reachFrom_31 rfl <| r_getR (j := 18) D_X5_reachFrom_32 fl_X5_11 s_17 rfl <| r_iload_n D_X5_reachFrom_35 rfl <| r_bipush D_X5_reachFrom_36 k8_9 <| r_imul D_X5_reachFrom_38 <| r_iload D_X5_reachFrom_39 rfl <| r_iadd D_X5_reachFrom_41 <| (ckE h).elim fun c5 h => r_iald D_X5_reachFrom_42 s_18 c5 <| r_bipush D_X5_reachFrom_43 k8_6 <| r_idiv D_X5_reachFrom_45 (by decide) <| vlE (fun x6 => RR l w mi_X5_reachFrom (2) κ 46 [.int x6] [some (.ref (wq w 17)), some (.int y1), some (.int y2), some (.int y3), some (.int y4), none, none, none] N) h fun x6 h => r_istore D_X5_reachFrom_46 (by decide) rfl <| r_aload_n D_X5_reachFrom_48 rfl <| r_getR (j := 18) D_X5_reachFrom_49 fl_X5_11 s_17 rfl <| r_iload_n D_X5_reachFrom_52 rfl <| r_bipush D_X5_reachFrom_53 k8_9 <| r_imul D_X5_reachFrom_55 <| r_iload D_X5_reachFrom_56 rfl <| r_iadd D_X5_reachFrom_58 <| (ckE h).elim fun c7 h => r_iald D_X5_reachFrom_59 s_18 c7 <| r_bipush D_X5_reachFrom_60 k8_6 <| r_irem D_X5_reachFrom_62 (by decide) <| vlE (fun x8 => RR l w mi_X5_reachFrom (2) κ 63 [.int x8] [some (.ref (wq w 17)), some (.int y1), some (.int y2), some (.int y3), some (.int y4), some (.int x6), none, none] N) h fun x8 h => r_istore D_X5_reachFrom_63 (by decide) rfl <| r_aload_n D_X5_reachFrom_65 rfl <| r_getR (j := 3) D_X5_reachFrom_66 fl_X5_34 s_17 rfl <| r_iload_n D_X5_reachFrom_69 rfl <| r_iload D_X5_reachFrom_70 rfl <| r_callV (av := [.int y2, .int x6]) D_X5_reachFrom_72 ml_X5_105 mf_X8_isReady mv_X8_isReady s_3 rfl rfl (x_X8_isReady trip_3 rfl) (Nat.le_of_ble_eq_true rfl) rfl rfl (Nat.le_of_ble_eq_true rfl) <| r_if_eq D_X5_reachFrom_75 (fun c9 => let_h (ifT c9 h) fun h => r_iinc D_X5_reachFrom_144 rfl ki_1 (by decide) rfl <| r_goto D_X5_reachFrom_147 <| r_ls (x_X5_reachFrom_5 hq n y1 y2 y3 (y4 + (1 : Int32)) N h) ⟨rfl, ⟨rfl, ⟨rfl, ⟨rfl, ⟨rfl, trivial⟩⟩⟩⟩⟩) (fun c9 => let_h (ifF c9 h) fun h => r_aload_n D_X5_reachFrom_78 rfl <| r_getR (j := 3) D_X5_reachFrom_79 fl_X5_34 s_17 rfl <| r_iload_n D_X5_reachFrom_82 rfl <| r_iload D_X5_reachFrom_83 rfl <| r_callV (av := [.int y2, .int x8]) D_X5_reachFrom_85 ml_X5_105 mf_X8_isReady mv_X8_isReady s_3 rfl rfl (x_X8_isReady trip_3 rfl) (Nat.le_of_ble_eq_true rfl) rfl rfl (Nat.le_of_ble_eq_true rfl) <| r_if_eq D_X5_reachFrom_88 (fun c10 => let_h (ifT c10 h) fun h => r_iinc D_X5_reachFrom_144 rfl ki_1 (by decide) rfl <| r_goto D_X5_reachFrom_147 <| r_ls (x_X5_reachFrom_5 hq n y1 y2 y3 (y4 + (1 : Int32)) N h) ⟨rfl, ⟨rfl, ⟨rfl, ⟨rfl, ⟨rfl, trivial⟩⟩⟩⟩⟩) (fun c10 => let_h (ifF c10 h) fun h => r_iconst D_X5_reachFrom_91 ki_1 <| r_istore_n D_X5_reachFrom_92 (by decide) rfl <| r_iconst D_X5_reachFrom_93 ki_0 <| r_istore D_X5_reachFrom_94 (by decide) rfl <| r_ls (x_X5_reachFrom_96 hq (fun y1 y2 y3 y4 N h => x_X5_reachFrom_5 hq n y1 y2 y3 y4 N h) F y1 y2 (1 : Int32) y4 x6 x8 (0 : Int32) N h) ⟨rfl, ⟨rfl, ⟨rfl, ⟨rfl, ⟨rfl, ⟨rfl, ⟨rfl, ⟨rfl, trivial⟩⟩⟩⟩⟩⟩⟩⟩)))))
def f_X5_reachFrom (F : Nat) (M : Mem) (a1 : Int32) (a2 : Int32) : Option (Int32 × Mem) := f_X5_reachFrom_5 F F a1 a2 (0 : Int32) (0 : Int32) M
theorem x_X5_reachFrom {l : Launch} {w : Wd} {F : Nat} {M : Mem} {a1 : Int32} {a2 : Int32} {v : Int32 × Mem} (h : f_X5_reachFrom F M a1 a2 = some v) : Cn l w mi_X5_reachFrom yX5_reachFrom (2) [.ref (wq w 17), .int a1, .int a2] M (some (.int v.1), v.2) :=
  Cn_of (loc0 := [some (.ref (wq w 17)), some (.int a1), some (.int a2), none, none, none, none, none]) rfl rfl rfl (Nat.le_of_ble_eq_true rfl) fun κ hq => let_h (show (f_X5_reachFrom_5 F F a1 a2 (0 : Int32) (0 : Int32) M) = some v from h) fun h => r_iconst D_X5_reachFrom_0 ki_0 <| r_istore_n D_X5_reachFrom_1 (by decide) rfl <| r_iconst D_X5_reachFrom_2 ki_0 <| r_istore D_X5_reachFrom_3 (by decide) rfl <| r_ls (x_X5_reachFrom_5 hq F a1 a2 (0 : Int32) (0 : Int32) M h) ⟨rfl, ⟨rfl, ⟨rfl, ⟨rfl, ⟨rfl, trivial⟩⟩⟩⟩⟩
-- X5_reachNext
theorem D_X5_reachNext_0 : Dec mi_X5_reachNext 0 (.aload_n 0) 1 1 := ⟨by decide +kernel, rfl⟩
theorem D_X5_reachNext_1 : Dec mi_X5_reachNext 1 (.getfield 31) 3 4 := ⟨by decide +kernel, rfl⟩
theorem D_X5_reachNext_4 : Dec mi_X5_reachNext 4 (.lconst 0) 1 5 := ⟨by decide +kernel, rfl⟩
theorem D_X5_reachNext_5 : Dec mi_X5_reachNext 5 (.invokestatic 42) 3 8 := ⟨by decide +kernel, rfl⟩
theorem D_X5_reachNext_8 : Dec mi_X5_reachNext 8 (.iconst 0) 1 9 := ⟨by decide +kernel, rfl⟩
theorem D_X5_reachNext_9 : Dec mi_X5_reachNext 9 (.istore_n 2) 1 10 := ⟨by decide +kernel, rfl⟩
theorem D_X5_reachNext_10 : Dec mi_X5_reachNext 10 (.iconst 0) 1 11 := ⟨by decide +kernel, rfl⟩
theorem D_X5_reachNext_11 : Dec mi_X5_reachNext 11 (.istore_n 3) 1 12 := ⟨by decide +kernel, rfl⟩
theorem D_X5_reachNext_12 : Dec mi_X5_reachNext 12 (.iload_n 3) 1 13 := ⟨by decide +kernel, rfl⟩
theorem D_X5_reachNext_13 : Dec mi_X5_reachNext 13 (.bipush 64) 2 15 := ⟨by decide +kernel, rfl⟩
theorem D_X5_reachNext_15 : DecJ mi_X5_reachNext 15 (.if_icmp .ge 72) (72) 18 87 := ⟨by decide +kernel, rfl, by decide⟩
theorem D_X5_reachNext_18 : Dec mi_X5_reachNext 18 (.iconst 0) 1 19 := ⟨by decide +kernel, rfl⟩
theorem D_X5_reachNext_19 : Dec mi_X5_reachNext 19 (.istore 4) 2 21 := ⟨by decide +kernel, rfl⟩
theorem D_X5_reachNext_21 : Dec mi_X5_reachNext 21 (.iload 4) 2 23 := ⟨by decide +kernel, rfl⟩
theorem D_X5_reachNext_23 : Dec mi_X5_reachNext 23 (.bipush 64) 2 25 := ⟨by decide +kernel, rfl⟩
theorem D_X5_reachNext_25 : DecJ mi_X5_reachNext 25 (.if_icmp .ge 56) (56) 28 81 := ⟨by decide +kernel, rfl, by decide⟩
theorem D_X5_reachNext_28 : Dec mi_X5_reachNext 28 (.aload_n 0) 1 29 := ⟨by decide +kernel, rfl⟩
theorem D_X5_reachNext_29 : Dec mi_X5_reachNext 29 (.getfield 28) 3 32 := ⟨by decide +kernel, rfl⟩
theorem D_X5_reachNext_32 : Dec mi_X5_reachNext 32 (.iload_n 3) 1 33 := ⟨by decide +kernel, rfl⟩
theorem D_X5_reachNext_33 : Dec mi_X5_reachNext 33 (.laload) 1 34 := ⟨by decide +kernel, rfl⟩
theorem D_X5_reachNext_34 : Dec mi_X5_reachNext 34 (.iload 4) 2 36 := ⟨by decide +kernel, rfl⟩
theorem D_X5_reachNext_36 : Dec mi_X5_reachNext 36 (.lushr) 1 37 := ⟨by decide +kernel, rfl⟩
theorem D_X5_reachNext_37 : Dec mi_X5_reachNext 37 (.lconst 0) 1 38 := ⟨by decide +kernel, rfl⟩
theorem D_X5_reachNext_38 : Dec mi_X5_reachNext 38 (.lcmp) 1 39 := ⟨by decide +kernel, rfl⟩
theorem D_X5_reachNext_39 : DecJ mi_X5_reachNext 39 (.ifCond .eq 42) (42) 42 81 := ⟨by decide +kernel, rfl, by decide⟩
theorem D_X5_reachNext_42 : Dec mi_X5_reachNext 42 (.aload_n 0) 1 43 := ⟨by decide +kernel, rfl⟩
theorem D_X5_reachNext_43 : Dec mi_X5_reachNext 43 (.getfield 28) 3 46 := ⟨by decide +kernel, rfl⟩
theorem D_X5_reachNext_46 : Dec mi_X5_reachNext 46 (.iload_n 3) 1 47 := ⟨by decide +kernel, rfl⟩
theorem D_X5_reachNext_47 : Dec mi_X5_reachNext 47 (.laload) 1 48 := ⟨by decide +kernel, rfl⟩
theorem D_X5_reachNext_48 : Dec mi_X5_reachNext 48 (.iload 4) 2 50 := ⟨by decide +kernel, rfl⟩
theorem D_X5_reachNext_50 : Dec mi_X5_reachNext 50 (.lshr) 1 51 := ⟨by decide +kernel, rfl⟩
theorem D_X5_reachNext_51 : Dec mi_X5_reachNext 51 (.lconst 1) 1 52 := ⟨by decide +kernel, rfl⟩
theorem D_X5_reachNext_52 : Dec mi_X5_reachNext 52 (.land) 1 53 := ⟨by decide +kernel, rfl⟩
theorem D_X5_reachNext_53 : Dec mi_X5_reachNext 53 (.lconst 0) 1 54 := ⟨by decide +kernel, rfl⟩
theorem D_X5_reachNext_54 : Dec mi_X5_reachNext 54 (.lcmp) 1 55 := ⟨by decide +kernel, rfl⟩
theorem D_X5_reachNext_55 : DecJ mi_X5_reachNext 55 (.ifCond .eq 20) (20) 58 75 := ⟨by decide +kernel, rfl, by decide⟩
theorem D_X5_reachNext_58 : Dec mi_X5_reachNext 58 (.aload_n 0) 1 59 := ⟨by decide +kernel, rfl⟩
theorem D_X5_reachNext_59 : Dec mi_X5_reachNext 59 (.iload_n 1) 1 60 := ⟨by decide +kernel, rfl⟩
theorem D_X5_reachNext_60 : Dec mi_X5_reachNext 60 (.bipush 64) 2 62 := ⟨by decide +kernel, rfl⟩
theorem D_X5_reachNext_62 : Dec mi_X5_reachNext 62 (.iload_n 3) 1 63 := ⟨by decide +kernel, rfl⟩
theorem D_X5_reachNext_63 : Dec mi_X5_reachNext 63 (.imul) 1 64 := ⟨by decide +kernel, rfl⟩
theorem D_X5_reachNext_64 : Dec mi_X5_reachNext 64 (.iload 4) 2 66 := ⟨by decide +kernel, rfl⟩
theorem D_X5_reachNext_66 : Dec mi_X5_reachNext 66 (.iadd) 1 67 := ⟨by decide +kernel, rfl⟩
theorem D_X5_reachNext_67 : Dec mi_X5_reachNext 67 (.invokevirtual 116) 3 70 := ⟨by decide +kernel, rfl⟩
theorem D_X5_reachNext_70 : DecJ mi_X5_reachNext 70 (.ifCond .eq 5) (5) 73 75 := ⟨by decide +kernel, rfl, by decide⟩
theorem D_X5_reachNext_73 : Dec mi_X5_reachNext 73 (.iconst 1) 1 74 := ⟨by decide +kernel, rfl⟩
theorem D_X5_reachNext_74 : Dec mi_X5_reachNext 74 (.istore_n 2) 1 75 := ⟨by decide +kernel, rfl⟩
theorem D_X5_reachNext_75 : Dec mi_X5_reachNext 75 (.iinc 4 1) 3 78 := ⟨by decide +kernel, rfl⟩
theorem D_X5_reachNext_78 : DecJ mi_X5_reachNext 78 (.goto (-57)) (-57) 81 21 := ⟨by decide +kernel, rfl, by decide⟩
theorem D_X5_reachNext_81 : Dec mi_X5_reachNext 81 (.iinc 3 1) 3 84 := ⟨by decide +kernel, rfl⟩
theorem D_X5_reachNext_84 : DecJ mi_X5_reachNext 84 (.goto (-72)) (-72) 87 12 := ⟨by decide +kernel, rfl, by decide⟩
theorem D_X5_reachNext_87 : Dec mi_X5_reachNext 87 (.aload_n 0) 1 88 := ⟨by decide +kernel, rfl⟩
theorem D_X5_reachNext_88 : Dec mi_X5_reachNext 88 (.getfield 31) 3 91 := ⟨by decide +kernel, rfl⟩
theorem D_X5_reachNext_91 : Dec mi_X5_reachNext 91 (.iconst 0) 1 92 := ⟨by decide +kernel, rfl⟩
theorem D_X5_reachNext_92 : Dec mi_X5_reachNext 92 (.aload_n 0) 1 93 := ⟨by decide +kernel, rfl⟩
theorem D_X5_reachNext_93 : Dec mi_X5_reachNext 93 (.getfield 28) 3 96 := ⟨by decide +kernel, rfl⟩
theorem D_X5_reachNext_96 : Dec mi_X5_reachNext 96 (.iconst 0) 1 97 := ⟨by decide +kernel, rfl⟩
theorem D_X5_reachNext_97 : Dec mi_X5_reachNext 97 (.bipush 64) 2 99 := ⟨by decide +kernel, rfl⟩
theorem D_X5_reachNext_99 : Dec mi_X5_reachNext 99 (.invokestatic 119) 3 102 := ⟨by decide +kernel, rfl⟩
theorem D_X5_reachNext_102 : Dec mi_X5_reachNext 102 (.iload_n 2) 1 103 := ⟨by decide +kernel, rfl⟩
theorem D_X5_reachNext_103 : Dec mi_X5_reachNext 103 (.ireturn) 1 104 := ⟨by decide +kernel, rfl⟩
def f_X5_reachNext_21 (F : Nat) (K_12 : Int32 → Int32 → Int32 → Mem → Option (Int32 × Mem)) : Nat → Int32 → Int32 → Int32 → Int32 → Mem → Option (Int32 × Mem)
  | 0, _, _, _, _, _ => none
  | n + 1, y1, y2, y3, y4, N => if (64 : Int32) ≤ y4 then (K_12 y1 y2 (y3 + (1 : Int32)) N) else (if ck y3 64 = true then (if (lg_cmp (((N.2 23 y3.toNatClampNeg).toUInt64 >>> (y4.toInt64.toUInt64 &&& Int64.toUInt64 63)).toInt64) (0 : Int64)) = 0 then (K_12 y1 y2 (y3 + (1 : Int32)) N) else (if ck y3 64 = true then (if (lg_cmp (((N.2 23 y3.toNatClampNeg) >>> (y4.toInt64 &&& 63)) &&& (1 : Int64)) (0 : Int64)) = 0 then (f_X5_reachNext_21 F K_12 n y1 y2 y3 (y4 + (1 : Int32)) N) else ((f_X5_reachFrom F N y1 (((64 : Int32) * y3) + y4)).bind fun p6 => if p6.1 = 0 then (f_X5_reachNext_21 F K_12 n y1 y2 y3 (y4 + (1 : Int32)) p6.2) else (f_X5_reachNext_21 F K_12 n y1 (1 : Int32) y3 (y4 + (1 : Int32)) p6.2))) else none)) else none)
theorem x_X5_reachNext_21 {l : Launch} {w : Wd} {κ : Kp} {F : Nat} {v : Int32 × Mem} {K_12 : Int32 → Int32 → Int32 → Mem → Option (Int32 × Mem)} (hq : RQ w (some (.int v.1), v.2) κ) (hK_12 : ∀ (y1 : Int32) (y2 : Int32) (y3 : Int32) (N : Mem), K_12 y1 y2 y3 N = some v → RR l w mi_X5_reachNext (3) κ 12 [] [some (.ref (wq w 17)), some (.int y1), some (.int y2), some (.int y3), none] N) : ∀ (n : Nat) (y1 : Int32) (y2 : Int32) (y3 : Int32) (y4 : Int32) (N : Mem), f_X5_reachNext_21 F K_12 n y1 y2 y3 y4 N = some v → RR l w mi_X5_reachNext (3) κ 21 [] [some (.ref (wq w 17)), some (.int y1), some (.int y2), some (.int y3), some (.int y4)] N
  | 0, _, _, _, _, _, h => nomatch h
  | n + 1, y1, y2, y3, y4, N, h => let_h (show (if (64 : Int32) ≤ y4 then (K_12 y1 y2 (y3 + (1 : Int32)) N) else (if ck y3 64 = true then (if (lg_cmp (((N.2 23 y3.toNatClampNeg).toUInt64 >>> (y4.toInt64.toUInt64 &&& Int64.toUInt64 63)).toInt64) (0 : Int64)) = 0 then (K_12 y1 y2 (y3 + (1 : Int32)) N) else (if ck y3 64 = true then (if (lg_cmp (((N.2 23 y3.toNatClampNeg) >>> (y4.toInt64 &&& 63)) &&& (1 : Int64)) (0 : Int64)) = 0 then (f_X5_reachNext_21 F K_12 n y1 y2 y3 (y4 + (1 : Int32)) N) else ((f_X5_reachFrom F N y1 (((64 : Int32) * y3) + y4)).bind fun p6 => if p6.1 = 0 then (f_X5_reachNext_21 F K_12 n y1 y2 y3 (y4 + (1 : Int32)) p6.2) else (f_X5_reachNext_21 F K_12 n y1 (1 : Int32) y3 (y4 + (1 : Int32)) p6.2))) else none)) else none)) = some v from h) fun h => r_iload D_X5_reachNext_21 rfl <| r_bipush D_X5_reachNext_23 k8_64 <| r_icmp_ge D_X5_reachNext_25 (fun c1 => let_h (ifT c1 h) fun h => r_iinc D_X5_reachNext_81 rfl ki_1 (by decide) rfl <| r_goto D_X5_reachNext_84 <| r_ls (hK_12 y1 y2 (y3 + (1 : Int32)) N h) ⟨rfl, ⟨rfl, ⟨rfl, ⟨rfl, trivial⟩⟩⟩⟩) (fun c1 => let_h (ifF c1 h) fun h => r_aload_n D_X5_reachNext_28 rfl <| r_getR (j := 23) D_X5_reachNext_29 fl_X5_28 s_17 rfl <| r_iload_n D_X5_reachNext_32 rfl <| (ckE h).elim fun c2 h => r_lald D_X5_reachNext_33 s_23 c2 <| r_iload D_X5_reachNext_34 rfl <| r_lushr D_X5_reachNext_36 <| r_lconst (v := 0) D_X5_reachNext_37 (by decide) <| r_lcmp D_X5_reachNext_38 <| r_if_eq D_X5_reachNext_39 (fun c3 => let_h (ifT c3 h) fun h => r_iinc D_X5_reachNext_81 rfl ki_1 (by decide) rfl <| r_goto D_X5_reachNext_84 <| r_ls (hK_12 y1 y2 (y3 + (1 : Int32)) N h) ⟨rfl, ⟨rfl, ⟨rfl, ⟨rfl, trivial⟩⟩⟩⟩) (fun c3 => let_h (ifF c3 h) fun h => r_aload_n D_X5_reachNext_42 rfl <| r_getR (j := 23) D_X5_reachNext_43 fl_X5_28 s_17 rfl <| r_iload_n D_X5_reachNext_46 rfl <| (ckE h).elim fun c4 h => r_lald D_X5_reachNext_47 s_23 c4 <| r_iload D_X5_reachNext_48 rfl <| r_lshr D_X5_reachNext_50 <| r_lconst (v := 1) D_X5_reachNext_51 (by decide) <| r_land D_X5_reachNext_52 <| r_lconst (v := 0) D_X5_reachNext_53 (by decide) <| r_lcmp D_X5_reachNext_54 <| r_if_eq D_X5_reachNext_55 (fun c5 => let_h (ifT c5 h) fun h => r_iinc D_X5_reachNext_75 rfl ki_1 (by decide) rfl <| r_goto D_X5_reachNext_78 <| r_ls (x_X5_reachNext_21 hq hK_12 n y1 y2 y3 (y4 + (1 : Int32)) N h) ⟨rfl, ⟨rfl, ⟨rfl, ⟨rfl, ⟨rfl, trivial⟩⟩⟩⟩⟩) (fun c5 => let_h (ifF c5 h) fun h => r_aload_n D_X5_reachNext_58 rfl <| r_iload_n D_X5_reachNext_59 rfl <| r_bipush D_X5_reachNext_60 k8_64 <| r_iload_n D_X5_reachNext_62 rfl <| r_imul D_X5_reachNext_63 <| r_iload D_X5_reachNext_64 rfl <| r_iadd D_X5_reachNext_66 <| (bdE h).elim fun p6 q7 => let_h q7.2 fun h => r_callV (av := [.int y1, .int (((64 : Int32) * y3) + y4)]) D_X5_reachNext_67 ml_X5_116 mf_X5_reachFrom mv_X5_reachFrom s_17 rfl rfl (x_X5_reachFrom q7.1) (Nat.le_of_ble_eq_true rfl) rfl rfl (Nat.le_of_ble_eq_true rfl) <| r_if_eq D_X5_reachNext_70 (fun c8 => let_h (ifT c8 h) fun h => r_iinc D_X5_reachNext_75 rfl ki_1 (by decide) rfl <| r_goto D_X5_reachNext_78 <| r_ls (x_X5_reachNext_21 hq hK_12 n y1 y2 y3 (y4 + (1 : Int32)) p6.2 h) ⟨rfl, ⟨rfl, ⟨rfl, ⟨rfl, ⟨rfl, trivial⟩⟩⟩⟩⟩) (fun c8 => let_h (ifF c8 h) fun h => r_iconst D_X5_reachNext_73 ki_1 <| r_istore_n D_X5_reachNext_74 (by decide) rfl <| r_iinc D_X5_reachNext_75 rfl ki_1 (by decide) rfl <| r_goto D_X5_reachNext_78 <| r_ls (x_X5_reachNext_21 hq hK_12 n y1 (1 : Int32) y3 (y4 + (1 : Int32)) p6.2 h) ⟨rfl, ⟨rfl, ⟨rfl, ⟨rfl, ⟨rfl, trivial⟩⟩⟩⟩⟩))))
def f_X5_reachNext_12 (F : Nat) : Nat → Int32 → Int32 → Int32 → Mem → Option (Int32 × Mem)
  | 0, _, _, _, _ => none
  | n + 1, y1, y2, y3, N => if (64 : Int32) ≤ y3 then (vlet (setB N 23 (va_cpy (N.2 24) (N.2 23) 0 0 (64 : Int32).toNatClampNeg)) fun M2 => if y2 &&& 1 = y2 then some (y2, M2) else none) else (f_X5_reachNext_21 F (fun y1 y2 y3 N => f_X5_reachNext_12 F n y1 y2 y3 N) F y1 y2 y3 (0 : Int32) N)
theorem x_X5_reachNext_12 {l : Launch} {w : Wd} {κ : Kp} {F : Nat} {v : Int32 × Mem} (hq : RQ w (some (.int v.1), v.2) κ) : ∀ (n : Nat) (y1 : Int32) (y2 : Int32) (y3 : Int32) (N : Mem), f_X5_reachNext_12 F n y1 y2 y3 N = some v → RR l w mi_X5_reachNext (3) κ 12 [] [some (.ref (wq w 17)), some (.int y1), some (.int y2), some (.int y3), none] N
  | 0, _, _, _, _, h => nomatch h
  | n + 1, y1, y2, y3, N, h => let_h (show (if (64 : Int32) ≤ y3 then (vlet (setB N 23 (va_cpy (N.2 24) (N.2 23) 0 0 (64 : Int32).toNatClampNeg)) fun M2 => if y2 &&& 1 = y2 then some (y2, M2) else none) else (f_X5_reachNext_21 F (fun y1 y2 y3 N => f_X5_reachNext_12 F n y1 y2 y3 N) F y1 y2 y3 (0 : Int32) N)) = some v from h) fun h => r_iload_n D_X5_reachNext_12 rfl <| r_bipush D_X5_reachNext_13 k8_64 <| r_icmp_ge D_X5_reachNext_15 (fun c1 => let_h (ifT c1 h) fun h => r_aload_n D_X5_reachNext_87 rfl <| r_getR (j := 24) D_X5_reachNext_88 fl_X5_31 s_17 rfl <| r_iconst D_X5_reachNext_91 ki_0 <| r_aload_n D_X5_reachNext_92 rfl <| r_getR (j := 23) D_X5_reachNext_93 fl_X5_28 s_17 rfl <| r_iconst D_X5_reachNext_96 ki_0 <| r_bipush D_X5_reachNext_97 k8_64 <| r_copyL D_X5_reachNext_99 mn_X5_119 s_24 s_23 (by decide) (by decide) (by decide) (Nat.le_of_ble_eq_true rfl) (by decide) <| mlE h fun M2 h => r_iload_n D_X5_reachNext_102 rfl <| (bzE h).elim fun cz h => r_zret hq D_X5_reachNext_103 rfl (nbz cz) (rtW h)) (fun c1 => let_h (ifF c1 h) fun h => r_iconst D_X5_reachNext_18 ki_0 <| r_istore D_X5_reachNext_19 (by decide) rfl <| r_ls (x_X5_reachNext_21 hq (fun y1 y2 y3 N h => x_X5_reachNext_12 hq n y1 y2 y3 N h) F y1 y2 y3 (0 : Int32) N h) ⟨rfl, ⟨rfl, ⟨rfl, ⟨rfl, ⟨rfl, trivial⟩⟩⟩⟩⟩)
def f_X5_reachNext (F : Nat) (M : Mem) (a1 : Int32) : Option (Int32 × Mem) := (f_J7_fill_d0a16 F M 24 64 (0 : Int64)).bind fun p1 => f_X5_reachNext_12 F F a1 (0 : Int32) (0 : Int32) p1
theorem x_X5_reachNext {l : Launch} {w : Wd} {F : Nat} {M : Mem} {a1 : Int32} {v : Int32 × Mem} (h : f_X5_reachNext F M a1 = some v) : Cn l w mi_X5_reachNext yX5_reachNext (3) [.ref (wq w 17), .int a1] M (some (.int v.1), v.2) :=
  Cn_of (loc0 := [some (.ref (wq w 17)), some (.int a1), none, none, none]) rfl rfl rfl (Nat.le_of_ble_eq_true rfl) fun κ hq => let_h (show ((f_J7_fill_d0a16 F M 24 64 (0 : Int64)).bind fun p1 => f_X5_reachNext_12 F F a1 (0 : Int32) (0 : Int32) p1) = some v from h) fun h => r_aload_n D_X5_reachNext_0 rfl <| r_getR (j := 24) D_X5_reachNext_1 fl_X5_31 s_17 rfl <| r_lconst (v := 0) D_X5_reachNext_4 (by decide) <| (bdE h).elim fun p1 q2 => let_h q2.2 fun h => r_callS (av := [.ref (wq w 24), .long (0 : Int64)]) D_X5_reachNext_5 ml_X5_42 mf_J7_fill_d0a16 ms_J7_fill_d0a16 (x_J7_fill_d0a16 s_24 q2.1) (Nat.le_of_ble_eq_true rfl) rfl rfl (Nat.le_of_ble_eq_true rfl) <| r_iconst D_X5_reachNext_8 ki_0 <| r_istore_n D_X5_reachNext_9 (by decide) rfl <| r_iconst D_X5_reachNext_10 ki_0 <| r_istore_n D_X5_reachNext_11 (by decide) rfl <| r_ls (x_X5_reachNext_12 hq F a1 (0 : Int32) (0 : Int32) p1 h) ⟨rfl, ⟨rfl, ⟨rfl, ⟨rfl, trivial⟩⟩⟩⟩
-- X5_times
theorem D_X5_times_0 : Dec mi_X5_times 0 (.aload_n 0) 1 1 := ⟨by decide +kernel, rfl⟩
theorem D_X5_times_1 : Dec mi_X5_times 1 (.iload_n 1) 1 2 := ⟨by decide +kernel, rfl⟩
theorem D_X5_times_2 : Dec mi_X5_times 2 (.iconst 0) 1 3 := ⟨by decide +kernel, rfl⟩
theorem D_X5_times_3 : Dec mi_X5_times 3 (.invokevirtual 38) 3 6 := ⟨by decide +kernel, rfl⟩
theorem D_X5_times_6 : Dec mi_X5_times 6 (.aload_n 0) 1 7 := ⟨by decide +kernel, rfl⟩
theorem D_X5_times_7 : Dec mi_X5_times 7 (.getfield 28) 3 10 := ⟨by decide +kernel, rfl⟩
theorem D_X5_times_10 : Dec mi_X5_times 10 (.lconst 0) 1 11 := ⟨by decide +kernel, rfl⟩
theorem D_X5_times_11 : Dec mi_X5_times 11 (.invokestatic 42) 3 14 := ⟨by decide +kernel, rfl⟩
theorem D_X5_times_14 : Dec mi_X5_times 14 (.aload_n 0) 1 15 := ⟨by decide +kernel, rfl⟩
theorem D_X5_times_15 : Dec mi_X5_times 15 (.getfield 28) 3 18 := ⟨by decide +kernel, rfl⟩
theorem D_X5_times_18 : Dec mi_X5_times 18 (.iconst 0) 1 19 := ⟨by decide +kernel, rfl⟩
theorem D_X5_times_19 : Dec mi_X5_times 19 (.lconst 1) 1 20 := ⟨by decide +kernel, rfl⟩
theorem D_X5_times_20 : Dec mi_X5_times 20 (.lastore) 1 21 := ⟨by decide +kernel, rfl⟩
theorem D_X5_times_21 : Dec mi_X5_times 21 (.iconst 0) 1 22 := ⟨by decide +kernel, rfl⟩
theorem D_X5_times_22 : Dec mi_X5_times 22 (.istore_n 2) 1 23 := ⟨by decide +kernel, rfl⟩
theorem D_X5_times_23 : Dec mi_X5_times 23 (.iload_n 2) 1 24 := ⟨by decide +kernel, rfl⟩
theorem D_X5_times_24 : Dec mi_X5_times 24 (.bipush 9) 2 26 := ⟨by decide +kernel, rfl⟩
theorem D_X5_times_26 : DecJ mi_X5_times 26 (.if_icmp .ge 54) (54) 29 80 := ⟨by decide +kernel, rfl, by decide⟩
theorem D_X5_times_29 : Dec mi_X5_times 29 (.iconst 0) 1 30 := ⟨by decide +kernel, rfl⟩
theorem D_X5_times_30 : Dec mi_X5_times 30 (.istore_n 3) 1 31 := ⟨by decide +kernel, rfl⟩
theorem D_X5_times_31 : Dec mi_X5_times 31 (.iload_n 3) 1 32 := ⟨by decide +kernel, rfl⟩
theorem D_X5_times_32 : Dec mi_X5_times 32 (.aload_n 0) 1 33 := ⟨by decide +kernel, rfl⟩
theorem D_X5_times_33 : Dec mi_X5_times 33 (.getfield 34) 3 36 := ⟨by decide +kernel, rfl⟩
theorem D_X5_times_36 : Dec mi_X5_times 36 (.invokevirtual 56) 3 39 := ⟨by decide +kernel, rfl⟩
theorem D_X5_times_39 : DecJ mi_X5_times 39 (.if_icmp .ge 19) (19) 42 58 := ⟨by decide +kernel, rfl, by decide⟩
theorem D_X5_times_42 : Dec mi_X5_times 42 (.aload_n 0) 1 43 := ⟨by decide +kernel, rfl⟩
theorem D_X5_times_43 : Dec mi_X5_times 43 (.iload_n 3) 1 44 := ⟨by decide +kernel, rfl⟩
theorem D_X5_times_44 : Dec mi_X5_times 44 (.invokevirtual 81) 3 47 := ⟨by decide +kernel, rfl⟩
theorem D_X5_times_47 : DecJ mi_X5_times 47 (.ifCond .ne 5) (5) 50 52 := ⟨by decide +kernel, rfl, by decide⟩
theorem D_X5_times_50 : Dec mi_X5_times 50 (.iload_n 2) 1 51 := ⟨by decide +kernel, rfl⟩
theorem D_X5_times_51 : Dec mi_X5_times 51 (.ireturn) 1 52 := ⟨by decide +kernel, rfl⟩
theorem D_X5_times_52 : Dec mi_X5_times 52 (.iinc 3 1) 3 55 := ⟨by decide +kernel, rfl⟩
theorem D_X5_times_55 : DecJ mi_X5_times 55 (.goto (-24)) (-24) 58 31 := ⟨by decide +kernel, rfl, by decide⟩
theorem D_X5_times_58 : Dec mi_X5_times 58 (.aload_n 0) 1 59 := ⟨by decide +kernel, rfl⟩
theorem D_X5_times_59 : Dec mi_X5_times 59 (.getfield 28) 3 62 := ⟨by decide +kernel, rfl⟩
theorem D_X5_times_62 : Dec mi_X5_times 62 (.iconst 0) 1 63 := ⟨by decide +kernel, rfl⟩
theorem D_X5_times_63 : Dec mi_X5_times 63 (.laload) 1 64 := ⟨by decide +kernel, rfl⟩
theorem D_X5_times_64 : Dec mi_X5_times 64 (.lconst 1) 1 65 := ⟨by decide +kernel, rfl⟩
theorem D_X5_times_65 : Dec mi_X5_times 65 (.land) 1 66 := ⟨by decide +kernel, rfl⟩
theorem D_X5_times_66 : Dec mi_X5_times 66 (.lconst 0) 1 67 := ⟨by decide +kernel, rfl⟩
theorem D_X5_times_67 : Dec mi_X5_times 67 (.lcmp) 1 68 := ⟨by decide +kernel, rfl⟩
theorem D_X5_times_68 : DecJ mi_X5_times 68 (.ifCond .eq 6) (6) 71 74 := ⟨by decide +kernel, rfl, by decide⟩
theorem D_X5_times_71 : Dec mi_X5_times 71 (.bipush 9) 2 73 := ⟨by decide +kernel, rfl⟩
theorem D_X5_times_73 : Dec mi_X5_times 73 (.ireturn) 1 74 := ⟨by decide +kernel, rfl⟩
theorem D_X5_times_74 : Dec mi_X5_times 74 (.iinc 2 1) 3 77 := ⟨by decide +kernel, rfl⟩
theorem D_X5_times_77 : DecJ mi_X5_times 77 (.goto (-54)) (-54) 80 23 := ⟨by decide +kernel, rfl, by decide⟩
theorem D_X5_times_80 : Dec mi_X5_times 80 (.bipush 9) 2 82 := ⟨by decide +kernel, rfl⟩
theorem D_X5_times_82 : Dec mi_X5_times 82 (.ireturn) 1 83 := ⟨by decide +kernel, rfl⟩
def f_X5_times_31 (F : Nat) (K_23 : Int32 → Mem → Option (Int32 × Mem)) : Nat → Int32 → Int32 → Mem → Option (Int32 × Mem)
  | 0, _, _, _ => none
  | n + 1, y2, y3, N => if (f_X8_days N 3) ≤ y3 then (if ck (0 : Int32) 64 = true then (if (lg_cmp ((N.2 23 (0 : Int32).toNatClampNeg) &&& (1 : Int64)) (0 : Int64)) = 0 then (K_23 (y2 + (1 : Int32)) N) else (some ((9 : Int32), N))) else none) else ((f_X5_reachNext F N y3).bind fun p4 => if p4.1 = 0 then (some (y2, p4.2)) else (f_X5_times_31 F K_23 n y2 (y3 + (1 : Int32)) p4.2))
theorem x_X5_times_31 {l : Launch} {w : Wd} {κ : Kp} {F : Nat} {v : Int32 × Mem} {K_23 : Int32 → Mem → Option (Int32 × Mem)} (hq : RQ w (some (.int v.1), v.2) κ) (hK_23 : ∀ (y2 : Int32) (N : Mem), K_23 y2 N = some v → RR l w mi_X5_times (4) κ 23 [] [some (.ref (wq w 17)), none, some (.int y2), none] N) : ∀ (n : Nat) (y2 : Int32) (y3 : Int32) (N : Mem), f_X5_times_31 F K_23 n y2 y3 N = some v → RR l w mi_X5_times (4) κ 31 [] [some (.ref (wq w 17)), none, some (.int y2), some (.int y3)] N
  | 0, _, _, _, h => nomatch h
  | n + 1, y2, y3, N, h => let_h (show (if (f_X8_days N 3) ≤ y3 then (if ck (0 : Int32) 64 = true then (if (lg_cmp ((N.2 23 (0 : Int32).toNatClampNeg) &&& (1 : Int64)) (0 : Int64)) = 0 then (K_23 (y2 + (1 : Int32)) N) else (some ((9 : Int32), N))) else none) else ((f_X5_reachNext F N y3).bind fun p4 => if p4.1 = 0 then (some (y2, p4.2)) else (f_X5_times_31 F K_23 n y2 (y3 + (1 : Int32)) p4.2))) = some v from h) fun h => r_iload_n D_X5_times_31 rfl <| r_aload_n D_X5_times_32 rfl <| r_getR (j := 3) D_X5_times_33 fl_X5_34 s_17 rfl <| r_callV (av := []) D_X5_times_36 ml_X5_56 mf_X8_days mv_X8_days s_3 rfl rfl (x_X8_days trip_3 rfl) (Nat.le_of_ble_eq_true rfl) rfl rfl (Nat.le_of_ble_eq_true rfl) <| r_icmp_ge D_X5_times_39 (fun c1 => let_h (ifT c1 h) fun h => r_aload_n D_X5_times_58 rfl <| r_getR (j := 23) D_X5_times_59 fl_X5_28 s_17 rfl <| r_iconst D_X5_times_62 ki_0 <| (ckE h).elim fun c2 h => r_lald D_X5_times_63 s_23 c2 <| r_lconst (v := 1) D_X5_times_64 (by decide) <| r_land D_X5_times_65 <| r_lconst (v := 0) D_X5_times_66 (by decide) <| r_lcmp D_X5_times_67 <| r_if_eq D_X5_times_68 (fun c3 => let_h (ifT c3 h) fun h => r_iinc D_X5_times_74 rfl ki_1 (by decide) rfl <| r_goto D_X5_times_77 <| r_ls (hK_23 (y2 + (1 : Int32)) N h) ⟨rfl, ⟨rfl, trivial⟩⟩) (fun c3 => let_h (ifF c3 h) fun h => r_bipush D_X5_times_71 k8_9 <| r_iret hq D_X5_times_73 rfl (rtW h))) (fun c1 => let_h (ifF c1 h) fun h => r_aload_n D_X5_times_42 rfl <| r_iload_n D_X5_times_43 rfl <| (bdE h).elim fun p4 q5 => let_h q5.2 fun h => r_callV (av := [.int y3]) D_X5_times_44 ml_X5_81 mf_X5_reachNext mv_X5_reachNext s_17 rfl rfl (x_X5_reachNext q5.1) (Nat.le_of_ble_eq_true rfl) rfl rfl (Nat.le_of_ble_eq_true rfl) <| r_if_ne D_X5_times_47 (fun c6 => let_h (ifT c6 h) fun h => r_iload_n D_X5_times_50 rfl <| r_iret hq D_X5_times_51 rfl (rtW h)) (fun c6 => let_h (ifF c6 h) fun h => r_iinc D_X5_times_52 rfl ki_1 (by decide) rfl <| r_goto D_X5_times_55 <| r_ls (x_X5_times_31 hq hK_23 n y2 (y3 + (1 : Int32)) p4.2 h) ⟨rfl, ⟨rfl, ⟨rfl, trivial⟩⟩⟩))
def f_X5_times_23 (F : Nat) : Nat → Int32 → Mem → Option (Int32 × Mem)
  | 0, _, _ => none
  | n + 1, y2, N => if (9 : Int32) ≤ y2 then (some ((9 : Int32), N)) else (f_X5_times_31 F (fun y2 N => f_X5_times_23 F n y2 N) F y2 (0 : Int32) N)
theorem x_X5_times_23 {l : Launch} {w : Wd} {κ : Kp} {F : Nat} {v : Int32 × Mem} (hq : RQ w (some (.int v.1), v.2) κ) : ∀ (n : Nat) (y2 : Int32) (N : Mem), f_X5_times_23 F n y2 N = some v → RR l w mi_X5_times (4) κ 23 [] [some (.ref (wq w 17)), none, some (.int y2), none] N
  | 0, _, _, h => nomatch h
  | n + 1, y2, N, h => let_h (show (if (9 : Int32) ≤ y2 then (some ((9 : Int32), N)) else (f_X5_times_31 F (fun y2 N => f_X5_times_23 F n y2 N) F y2 (0 : Int32) N)) = some v from h) fun h => r_iload_n D_X5_times_23 rfl <| r_bipush D_X5_times_24 k8_9 <| r_icmp_ge D_X5_times_26 (fun c1 => let_h (ifT c1 h) fun h => r_bipush D_X5_times_80 k8_9 <| r_iret hq D_X5_times_82 rfl (rtW h)) (fun c1 => let_h (ifF c1 h) fun h => r_iconst D_X5_times_29 ki_0 <| r_istore_n D_X5_times_30 (by decide) rfl <| r_ls (x_X5_times_31 hq (fun y2 N h => x_X5_times_23 hq n y2 N h) F y2 (0 : Int32) N h) ⟨rfl, ⟨rfl, ⟨rfl, trivial⟩⟩⟩)
def f_X5_times (F : Nat) (M : Mem) (a1 : Int32) : Option (Int32 × Mem) := (f_X5_prepare F M a1 (0 : Int32)).bind fun p1 => (f_J7_fill_d0a16 F p1 23 64 (0 : Int64)).bind fun p3 => if ck (0 : Int32) 64 = true then (vlet (setL p3 23 (0 : Int32).toNatClampNeg (1 : Int64)) fun M6 => f_X5_times_23 F F (0 : Int32) M6) else none
theorem x_X5_times {l : Launch} {w : Wd} {F : Nat} {M : Mem} {a1 : Int32} {v : Int32 × Mem} (h : f_X5_times F M a1 = some v) : Cn l w mi_X5_times yX5_times (4) [.ref (wq w 17), .int a1] M (some (.int v.1), v.2) :=
  Cn_of (loc0 := [some (.ref (wq w 17)), some (.int a1), none, none]) rfl rfl rfl (Nat.le_of_ble_eq_true rfl) fun κ hq => let_h (show ((f_X5_prepare F M a1 (0 : Int32)).bind fun p1 => (f_J7_fill_d0a16 F p1 23 64 (0 : Int64)).bind fun p3 => if ck (0 : Int32) 64 = true then (vlet (setL p3 23 (0 : Int32).toNatClampNeg (1 : Int64)) fun M6 => f_X5_times_23 F F (0 : Int32) M6) else none) = some v from h) fun h => r_aload_n D_X5_times_0 rfl <| r_iload_n D_X5_times_1 rfl <| r_iconst D_X5_times_2 ki_0 <| (bdE h).elim fun p1 q2 => let_h q2.2 fun h => r_callV (av := [.int a1, .int (0 : Int32)]) D_X5_times_3 ml_X5_38 mf_X5_prepare mv_X5_prepare s_17 rfl rfl (x_X5_prepare q2.1) (Nat.le_of_ble_eq_true rfl) rfl rfl (Nat.le_of_ble_eq_true rfl) <| r_aload_n D_X5_times_6 rfl <| r_getR (j := 23) D_X5_times_7 fl_X5_28 s_17 rfl <| r_lconst (v := 0) D_X5_times_10 (by decide) <| (bdE h).elim fun p3 q4 => let_h q4.2 fun h => r_callS (av := [.ref (wq w 23), .long (0 : Int64)]) D_X5_times_11 ml_X5_42 mf_J7_fill_d0a16 ms_J7_fill_d0a16 (x_J7_fill_d0a16 s_23 q4.1) (Nat.le_of_ble_eq_true rfl) rfl rfl (Nat.le_of_ble_eq_true rfl) <| r_aload_n D_X5_times_14 rfl <| r_getR (j := 23) D_X5_times_15 fl_X5_28 s_17 rfl <| r_iconst D_X5_times_18 ki_0 <| r_lconst (v := 1) D_X5_times_19 (by decide) <| (ckE h).elim fun c5 h => r_last D_X5_times_20 s_23 c5 <| mlE h fun M6 h => r_iconst D_X5_times_21 ki_0 <| r_istore_n D_X5_times_22 (by decide) rfl <| r_ls (x_X5_times_23 hq F (0 : Int32) M6 h) ⟨rfl, ⟨rfl, trivial⟩⟩
-- X7_length
theorem D_X7_length_0 : Dec mi_X7_length 0 (.aload_n 0) 1 1 := ⟨by decide +kernel, rfl⟩
theorem D_X7_length_1 : Dec mi_X7_length 1 (.getfield 13) 3 4 := ⟨by decide +kernel, rfl⟩
theorem D_X7_length_4 : Dec mi_X7_length 4 (.ireturn) 1 5 := ⟨by decide +kernel, rfl⟩
def f_X7_length (M : Mem) : Int32 := (M.1 1 1)
theorem x_X7_length {l : Launch} {w : Wd} {M : Mem} {v : Int32} (h : f_X7_length M = v) : Cn l w mi_X7_length yX7_length (0) [.ref (wq w 1)] M (some (.int v), M) :=
  Cn_of (loc0 := [some (.ref (wq w 1))]) rfl rfl rfl (Nat.le_of_ble_eq_true rfl) fun κ hq => let_h (show ((M.1 1 1)) = v from h) fun h => r_aload_n D_X7_length_0 rfl <| r_getI D_X7_length_1 fl_X7_13 s_1 rfl <| r_iret hq D_X7_length_4 rfl (rtT h)
-- X7_at
theorem D_X7_at_0 : Dec mi_X7_at 0 (.iload_n 1) 1 1 := ⟨by decide +kernel, rfl⟩
theorem D_X7_at_1 : DecJ mi_X7_at 1 (.ifCond .lt 31) (31) 4 32 := ⟨by decide +kernel, rfl, by decide⟩
theorem D_X7_at_4 : Dec mi_X7_at 4 (.iload_n 1) 1 5 := ⟨by decide +kernel, rfl⟩
theorem D_X7_at_5 : Dec mi_X7_at 5 (.aload_n 0) 1 6 := ⟨by decide +kernel, rfl⟩
theorem D_X7_at_6 : Dec mi_X7_at 6 (.getfield 13) 3 9 := ⟨by decide +kernel, rfl⟩
theorem D_X7_at_9 : DecJ mi_X7_at 9 (.if_icmp .ge 23) (23) 12 32 := ⟨by decide +kernel, rfl, by decide⟩
theorem D_X7_at_12 : Dec mi_X7_at 12 (.iload_n 1) 1 13 := ⟨by decide +kernel, rfl⟩
theorem D_X7_at_13 : Dec mi_X7_at 13 (.sipush 500) 3 16 := ⟨by decide +kernel, rfl⟩
theorem D_X7_at_16 : DecJ mi_X7_at 16 (.if_icmp .ge 16) (16) 19 32 := ⟨by decide +kernel, rfl, by decide⟩
theorem D_X7_at_19 : Dec mi_X7_at 19 (.aload_n 0) 1 20 := ⟨by decide +kernel, rfl⟩
theorem D_X7_at_20 : Dec mi_X7_at 20 (.getfield 9) 3 23 := ⟨by decide +kernel, rfl⟩
theorem D_X7_at_23 : Dec mi_X7_at 23 (.iload_n 1) 1 24 := ⟨by decide +kernel, rfl⟩
theorem D_X7_at_24 : Dec mi_X7_at 24 (.baload) 1 25 := ⟨by decide +kernel, rfl⟩
theorem D_X7_at_25 : Dec mi_X7_at 25 (.sipush 255) 3 28 := ⟨by decide +kernel, rfl⟩
theorem D_X7_at_28 : Dec mi_X7_at 28 (.iand) 1 29 := ⟨by decide +kernel, rfl⟩
theorem D_X7_at_29 : DecJ mi_X7_at 29 (.goto 4) (4) 32 33 := ⟨by decide +kernel, rfl, by decide⟩
theorem D_X7_at_32 : Dec mi_X7_at 32 (.iconst (-1)) 1 33 := ⟨by decide +kernel, rfl⟩
theorem D_X7_at_33 : Dec mi_X7_at 33 (.ireturn) 1 34 := ⟨by decide +kernel, rfl⟩
def f_X7_at (M : Mem) (a1 : Int32) : Option Int32 := if a1 < 0 then (some (-1 : Int32)) else (if (M.1 1 1) ≤ a1 then (some (-1 : Int32)) else (if (500 : Int32) ≤ a1 then (some (-1 : Int32)) else (if ck a1 500 = true then (some ((M.1 2 a1.toNatClampNeg) &&& (255 : Int32))) else none)))
theorem x_X7_at {l : Launch} {w : Wd} {M : Mem} {a1 : Int32} {v : Int32} (h : f_X7_at M a1 = some v) : Cn l w mi_X7_at yX7_at (0) [.ref (wq w 1), .int a1] M (some (.int v), M) :=
  Cn_of (loc0 := [some (.ref (wq w 1)), some (.int a1)]) rfl rfl rfl (Nat.le_of_ble_eq_true rfl) fun κ hq => let_h (show (if a1 < 0 then (some (-1 : Int32)) else (if (M.1 1 1) ≤ a1 then (some (-1 : Int32)) else (if (500 : Int32) ≤ a1 then (some (-1 : Int32)) else (if ck a1 500 = true then (some ((M.1 2 a1.toNatClampNeg) &&& (255 : Int32))) else none)))) = some v from h) fun h => r_iload_n D_X7_at_0 rfl <| r_if_lt D_X7_at_1 (fun c1 => let_h (ifT c1 h) fun h => r_iconst D_X7_at_32 ki_m1 <| r_iret hq D_X7_at_33 rfl (rtP h)) (fun c1 => let_h (ifF c1 h) fun h => r_iload_n D_X7_at_4 rfl <| r_aload_n D_X7_at_5 rfl <| r_getI D_X7_at_6 fl_X7_13 s_1 rfl <| r_icmp_ge D_X7_at_9 (fun c2 => let_h (ifT c2 h) fun h => r_iconst D_X7_at_32 ki_m1 <| r_iret hq D_X7_at_33 rfl (rtP h)) (fun c2 => let_h (ifF c2 h) fun h => r_iload_n D_X7_at_12 rfl <| r_sipush D_X7_at_13 k16_500 <| r_icmp_ge D_X7_at_16 (fun c3 => let_h (ifT c3 h) fun h => r_iconst D_X7_at_32 ki_m1 <| r_iret hq D_X7_at_33 rfl (rtP h)) (fun c3 => let_h (ifF c3 h) fun h => r_aload_n D_X7_at_19 rfl <| r_getR (j := 2) D_X7_at_20 fl_X7_9 s_1 rfl <| r_iload_n D_X7_at_23 rfl <| (ckE h).elim fun c4 h => r_bald D_X7_at_24 s_2 c4 <| r_sipush D_X7_at_25 k16_255 <| r_iand D_X7_at_28 <| r_goto D_X7_at_29 <| r_iret hq D_X7_at_33 rfl (rtP h))))
-- X6_isDigit
theorem D_X6_isDigit_0 : Dec mi_X6_isDigit 0 (.iload_n 0) 1 1 := ⟨by decide +kernel, rfl⟩
theorem D_X6_isDigit_1 : Dec mi_X6_isDigit 1 (.bipush 48) 2 3 := ⟨by decide +kernel, rfl⟩
theorem D_X6_isDigit_3 : DecJ mi_X6_isDigit 3 (.if_icmp .lt 13) (13) 6 16 := ⟨by decide +kernel, rfl, by decide⟩
theorem D_X6_isDigit_6 : Dec mi_X6_isDigit 6 (.iload_n 0) 1 7 := ⟨by decide +kernel, rfl⟩
theorem D_X6_isDigit_7 : Dec mi_X6_isDigit 7 (.bipush 57) 2 9 := ⟨by decide +kernel, rfl⟩
theorem D_X6_isDigit_9 : DecJ mi_X6_isDigit 9 (.if_icmp .gt 7) (7) 12 16 := ⟨by decide +kernel, rfl, by decide⟩
theorem D_X6_isDigit_12 : Dec mi_X6_isDigit 12 (.iconst 1) 1 13 := ⟨by decide +kernel, rfl⟩
theorem D_X6_isDigit_13 : DecJ mi_X6_isDigit 13 (.goto 4) (4) 16 17 := ⟨by decide +kernel, rfl, by decide⟩
theorem D_X6_isDigit_16 : Dec mi_X6_isDigit 16 (.iconst 0) 1 17 := ⟨by decide +kernel, rfl⟩
theorem D_X6_isDigit_17 : Dec mi_X6_isDigit 17 (.ireturn) 1 18 := ⟨by decide +kernel, rfl⟩
def f_X6_isDigit (M : Mem) (a1 : Int32) : Int32 := if a1 < (48 : Int32) then ((0 : Int32)) else (if (57 : Int32) < a1 then ((0 : Int32)) else ((1 : Int32)))
theorem x_X6_isDigit {l : Launch} {w : Wd} {M : Mem} {a1 : Int32} {v : Int32} (h : f_X6_isDigit M a1 = v) : Cn l w mi_X6_isDigit yX6_isDigit (0) [.int a1] M (some (.int v), M) :=
  Cn_of (loc0 := [some (.int a1)]) rfl rfl rfl (Nat.le_of_ble_eq_true rfl) fun κ hq => let_h (show (if a1 < (48 : Int32) then ((0 : Int32)) else (if (57 : Int32) < a1 then ((0 : Int32)) else ((1 : Int32)))) = v from h) fun h => r_iload_n D_X6_isDigit_0 rfl <| r_bipush D_X6_isDigit_1 k8_48 <| r_icmp_lt D_X6_isDigit_3 (fun c1 => let_h (ifT c1 h) fun h => r_iconst D_X6_isDigit_16 ki_0 <| r_zret hq D_X6_isDigit_17 rfl rfl (rtT h)) (fun c1 => let_h (ifF c1 h) fun h => r_iload_n D_X6_isDigit_6 rfl <| r_bipush D_X6_isDigit_7 k8_57 <| r_icmp_gt D_X6_isDigit_9 (fun c2 => let_h (ifT c2 h) fun h => r_iconst D_X6_isDigit_16 ki_0 <| r_zret hq D_X6_isDigit_17 rfl rfl (rtT h)) (fun c2 => let_h (ifF c2 h) fun h => r_iconst D_X6_isDigit_12 ki_1 <| r_goto D_X6_isDigit_13 <| r_zret hq D_X6_isDigit_17 rfl rfl (rtT h)))
-- X6_isLetter
theorem D_X6_isLetter_0 : Dec mi_X6_isLetter 0 (.iload_n 0) 1 1 := ⟨by decide +kernel, rfl⟩
theorem D_X6_isLetter_1 : Dec mi_X6_isLetter 1 (.bipush 97) 2 3 := ⟨by decide +kernel, rfl⟩
theorem D_X6_isLetter_3 : DecJ mi_X6_isLetter 3 (.if_icmp .lt 13) (13) 6 16 := ⟨by decide +kernel, rfl, by decide⟩
theorem D_X6_isLetter_6 : Dec mi_X6_isLetter 6 (.iload_n 0) 1 7 := ⟨by decide +kernel, rfl⟩
theorem D_X6_isLetter_7 : Dec mi_X6_isLetter 7 (.bipush 122) 2 9 := ⟨by decide +kernel, rfl⟩
theorem D_X6_isLetter_9 : DecJ mi_X6_isLetter 9 (.if_icmp .gt 7) (7) 12 16 := ⟨by decide +kernel, rfl, by decide⟩
theorem D_X6_isLetter_12 : Dec mi_X6_isLetter 12 (.iconst 1) 1 13 := ⟨by decide +kernel, rfl⟩
theorem D_X6_isLetter_13 : DecJ mi_X6_isLetter 13 (.goto 4) (4) 16 17 := ⟨by decide +kernel, rfl, by decide⟩
theorem D_X6_isLetter_16 : Dec mi_X6_isLetter 16 (.iconst 0) 1 17 := ⟨by decide +kernel, rfl⟩
theorem D_X6_isLetter_17 : Dec mi_X6_isLetter 17 (.ireturn) 1 18 := ⟨by decide +kernel, rfl⟩
def f_X6_isLetter (M : Mem) (a1 : Int32) : Int32 := if a1 < (97 : Int32) then ((0 : Int32)) else (if (122 : Int32) < a1 then ((0 : Int32)) else ((1 : Int32)))
theorem x_X6_isLetter {l : Launch} {w : Wd} {M : Mem} {a1 : Int32} {v : Int32} (h : f_X6_isLetter M a1 = v) : Cn l w mi_X6_isLetter yX6_isLetter (0) [.int a1] M (some (.int v), M) :=
  Cn_of (loc0 := [some (.int a1)]) rfl rfl rfl (Nat.le_of_ble_eq_true rfl) fun κ hq => let_h (show (if a1 < (97 : Int32) then ((0 : Int32)) else (if (122 : Int32) < a1 then ((0 : Int32)) else ((1 : Int32)))) = v from h) fun h => r_iload_n D_X6_isLetter_0 rfl <| r_bipush D_X6_isLetter_1 k8_97 <| r_icmp_lt D_X6_isLetter_3 (fun c1 => let_h (ifT c1 h) fun h => r_iconst D_X6_isLetter_16 ki_0 <| r_zret hq D_X6_isLetter_17 rfl rfl (rtT h)) (fun c1 => let_h (ifF c1 h) fun h => r_iload_n D_X6_isLetter_6 rfl <| r_bipush D_X6_isLetter_7 k8_122 <| r_icmp_gt D_X6_isLetter_9 (fun c2 => let_h (ifT c2 h) fun h => r_iconst D_X6_isLetter_16 ki_0 <| r_zret hq D_X6_isLetter_17 rfl rfl (rtT h)) (fun c2 => let_h (ifF c2 h) fun h => r_iconst D_X6_isLetter_12 ki_1 <| r_goto D_X6_isLetter_13 <| r_zret hq D_X6_isLetter_17 rfl rfl (rtT h)))
-- X6_endOf
theorem D_X6_endOf_0 : Dec mi_X6_endOf 0 (.aload_n 0) 1 1 := ⟨by decide +kernel, rfl⟩
theorem D_X6_endOf_1 : Dec mi_X6_endOf 1 (.getfield 20) 3 4 := ⟨by decide +kernel, rfl⟩
theorem D_X6_endOf_4 : Dec mi_X6_endOf 4 (.iload_n 1) 1 5 := ⟨by decide +kernel, rfl⟩
theorem D_X6_endOf_5 : Dec mi_X6_endOf 5 (.invokevirtual 68) 3 8 := ⟨by decide +kernel, rfl⟩
theorem D_X6_endOf_8 : Dec mi_X6_endOf 8 (.invokestatic 78) 3 11 := ⟨by decide +kernel, rfl⟩
theorem D_X6_endOf_11 : Dec mi_X6_endOf 11 (.istore_n 2) 1 12 := ⟨by decide +kernel, rfl⟩
theorem D_X6_endOf_12 : Dec mi_X6_endOf 12 (.aload_n 0) 1 13 := ⟨by decide +kernel, rfl⟩
theorem D_X6_endOf_13 : Dec mi_X6_endOf 13 (.getfield 20) 3 16 := ⟨by decide +kernel, rfl⟩
theorem D_X6_endOf_16 : Dec mi_X6_endOf 16 (.iload_n 1) 1 17 := ⟨by decide +kernel, rfl⟩
theorem D_X6_endOf_17 : Dec mi_X6_endOf 17 (.invokevirtual 68) 3 20 := ⟨by decide +kernel, rfl⟩
theorem D_X6_endOf_20 : Dec mi_X6_endOf 20 (.invokestatic 81) 3 23 := ⟨by decide +kernel, rfl⟩
theorem D_X6_endOf_23 : Dec mi_X6_endOf 23 (.istore_n 3) 1 24 := ⟨by decide +kernel, rfl⟩
theorem D_X6_endOf_24 : Dec mi_X6_endOf 24 (.iload_n 1) 1 25 := ⟨by decide +kernel, rfl⟩
theorem D_X6_endOf_25 : Dec mi_X6_endOf 25 (.iconst 1) 1 26 := ⟨by decide +kernel, rfl⟩
theorem D_X6_endOf_26 : Dec mi_X6_endOf 26 (.iadd) 1 27 := ⟨by decide +kernel, rfl⟩
theorem D_X6_endOf_27 : Dec mi_X6_endOf 27 (.istore 4) 2 29 := ⟨by decide +kernel, rfl⟩
theorem D_X6_endOf_29 : Dec mi_X6_endOf 29 (.iload 4) 2 31 := ⟨by decide +kernel, rfl⟩
theorem D_X6_endOf_31 : Dec mi_X6_endOf 31 (.aload_n 0) 1 32 := ⟨by decide +kernel, rfl⟩
theorem D_X6_endOf_32 : Dec mi_X6_endOf 32 (.getfield 20) 3 35 := ⟨by decide +kernel, rfl⟩
theorem D_X6_endOf_35 : Dec mi_X6_endOf 35 (.invokevirtual 55) 3 38 := ⟨by decide +kernel, rfl⟩
theorem D_X6_endOf_38 : DecJ mi_X6_endOf 38 (.if_icmp .ge 47) (47) 41 85 := ⟨by decide +kernel, rfl, by decide⟩
theorem D_X6_endOf_41 : Dec mi_X6_endOf 41 (.iload_n 2) 1 42 := ⟨by decide +kernel, rfl⟩
theorem D_X6_endOf_42 : DecJ mi_X6_endOf 42 (.ifCond .eq 18) (18) 45 60 := ⟨by decide +kernel, rfl, by decide⟩
theorem D_X6_endOf_45 : Dec mi_X6_endOf 45 (.aload_n 0) 1 46 := ⟨by decide +kernel, rfl⟩
theorem D_X6_endOf_46 : Dec mi_X6_endOf 46 (.getfield 20) 3 49 := ⟨by decide +kernel, rfl⟩
theorem D_X6_endOf_49 : Dec mi_X6_endOf 49 (.iload 4) 2 51 := ⟨by decide +kernel, rfl⟩
theorem D_X6_endOf_51 : Dec mi_X6_endOf 51 (.invokevirtual 68) 3 54 := ⟨by decide +kernel, rfl⟩
theorem D_X6_endOf_54 : Dec mi_X6_endOf 54 (.invokestatic 78) 3 57 := ⟨by decide +kernel, rfl⟩
theorem D_X6_endOf_57 : DecJ mi_X6_endOf 57 (.ifCond .ne 22) (22) 60 79 := ⟨by decide +kernel, rfl, by decide⟩
theorem D_X6_endOf_60 : Dec mi_X6_endOf 60 (.iload_n 3) 1 61 := ⟨by decide +kernel, rfl⟩
theorem D_X6_endOf_61 : DecJ mi_X6_endOf 61 (.ifCond .eq 24) (24) 64 85 := ⟨by decide +kernel, rfl, by decide⟩
theorem D_X6_endOf_64 : Dec mi_X6_endOf 64 (.aload_n 0) 1 65 := ⟨by decide +kernel, rfl⟩
theorem D_X6_endOf_65 : Dec mi_X6_endOf 65 (.getfield 20) 3 68 := ⟨by decide +kernel, rfl⟩
theorem D_X6_endOf_68 : Dec mi_X6_endOf 68 (.iload 4) 2 70 := ⟨by decide +kernel, rfl⟩
theorem D_X6_endOf_70 : Dec mi_X6_endOf 70 (.invokevirtual 68) 3 73 := ⟨by decide +kernel, rfl⟩
theorem D_X6_endOf_73 : Dec mi_X6_endOf 73 (.invokestatic 81) 3 76 := ⟨by decide +kernel, rfl⟩
theorem D_X6_endOf_76 : DecJ mi_X6_endOf 76 (.ifCond .eq 9) (9) 79 85 := ⟨by decide +kernel, rfl, by decide⟩
theorem D_X6_endOf_79 : Dec mi_X6_endOf 79 (.iinc 4 1) 3 82 := ⟨by decide +kernel, rfl⟩
theorem D_X6_endOf_82 : DecJ mi_X6_endOf 82 (.goto (-53)) (-53) 85 29 := ⟨by decide +kernel, rfl, by decide⟩
theorem D_X6_endOf_85 : Dec mi_X6_endOf 85 (.iload 4) 2 87 := ⟨by decide +kernel, rfl⟩
theorem D_X6_endOf_87 : Dec mi_X6_endOf 87 (.ireturn) 1 88 := ⟨by decide +kernel, rfl⟩
def f_X6_endOf_29 (F : Nat) (M : Mem) : Nat → Int32 → Int32 → Int32 → Option Int32
  | 0, _, _, _ => none
  | n + 1, y2, y3, y4 => if (f_X7_length M) ≤ y4 then (some y4) else (if y2 = 0 then (if y3 = 0 then (some y4) else ((f_X7_at M y4).bind fun x4 => if (f_X6_isLetter M x4) = 0 then (some y4) else (f_X6_endOf_29 F M n y2 y3 (y4 + (1 : Int32))))) else ((f_X7_at M y4).bind fun x7 => if (f_X6_isDigit M x7) = 0 then (if y3 = 0 then (some y4) else ((f_X7_at M y4).bind fun x11 => if (f_X6_isLetter M x11) = 0 then (some y4) else (f_X6_endOf_29 F M n y2 y3 (y4 + (1 : Int32))))) else (f_X6_endOf_29 F M n y2 y3 (y4 + (1 : Int32)))))
theorem x_X6_endOf_29 {l : Launch} {w : Wd} {κ : Kp} {F : Nat} {M : Mem} {v : Int32} (hq : RQ w (some (.int v), M) κ) : ∀ (n : Nat) (y2 : Int32) (y3 : Int32) (y4 : Int32), f_X6_endOf_29 F M n y2 y3 y4 = some v → RR l w mi_X6_endOf (1) κ 29 [] [some (.ref (wq w 11)), none, some (.int y2), some (.int y3), some (.int y4)] M
  | 0, _, _, _, h => nomatch h
  | n + 1, y2, y3, y4, h => let_h (show (if (f_X7_length M) ≤ y4 then (some y4) else (if y2 = 0 then (if y3 = 0 then (some y4) else ((f_X7_at M y4).bind fun x4 => if (f_X6_isLetter M x4) = 0 then (some y4) else (f_X6_endOf_29 F M n y2 y3 (y4 + (1 : Int32))))) else ((f_X7_at M y4).bind fun x7 => if (f_X6_isDigit M x7) = 0 then (if y3 = 0 then (some y4) else ((f_X7_at M y4).bind fun x11 => if (f_X6_isLetter M x11) = 0 then (some y4) else (f_X6_endOf_29 F M n y2 y3 (y4 + (1 : Int32))))) else (f_X6_endOf_29 F M n y2 y3 (y4 + (1 : Int32)))))) = some v from h) fun h => r_iload D_X6_endOf_29 rfl <| r_aload_n D_X6_endOf_31 rfl <| r_getR (j := 1) D_X6_endOf_32 fl_X6_20 s_11 rfl <| r_callV (av := []) D_X6_endOf_35 ml_X6_55 mf_X7_length mv_X7_length s_1 rfl rfl (x_X7_length rfl) (Nat.le_of_ble_eq_true rfl) rfl rfl (Nat.le_of_ble_eq_true rfl) <| r_icmp_ge D_X6_endOf_38 (fun c1 => let_h (ifT c1 h) fun h => r_iload D_X6_endOf_85 rfl <| r_iret hq D_X6_endOf_87 rfl (rtP h)) (fun c1 => let_h (ifF c1 h) fun h => r_iload_n D_X6_endOf_41 rfl <| r_if_eq D_X6_endOf_42 (fun c2 => let_h (ifT c2 h) fun h => r_iload_n D_X6_endOf_60 rfl <| r_if_eq D_X6_endOf_61 (fun c3 => let_h (ifT c3 h) fun h => r_iload D_X6_endOf_85 rfl <| r_iret hq D_X6_endOf_87 rfl (rtP h)) (fun c3 => let_h (ifF c3 h) fun h => r_aload_n D_X6_endOf_64 rfl <| r_getR (j := 1) D_X6_endOf_65 fl_X6_20 s_11 rfl <| r_iload D_X6_endOf_68 rfl <| (bdE h).elim fun x4 q5 => let_h q5.2 fun h => r_callV (av := [.int y4]) D_X6_endOf_70 ml_X6_68 mf_X7_at mv_X7_at s_1 rfl rfl (x_X7_at q5.1) (Nat.le_of_ble_eq_true rfl) rfl rfl (Nat.le_of_ble_eq_true rfl) <| r_callS (av := [.int x4]) D_X6_endOf_73 ml_X6_81 mf_X6_isLetter ms_X6_isLetter (x_X6_isLetter rfl) (Nat.le_of_ble_eq_true rfl) rfl rfl (Nat.le_of_ble_eq_true rfl) <| r_if_eq D_X6_endOf_76 (fun c6 => let_h (ifT c6 h) fun h => r_iload D_X6_endOf_85 rfl <| r_iret hq D_X6_endOf_87 rfl (rtP h)) (fun c6 => let_h (ifF c6 h) fun h => r_iinc D_X6_endOf_79 rfl ki_1 (by decide) rfl <| r_goto D_X6_endOf_82 <| r_ls (x_X6_endOf_29 hq n y2 y3 (y4 + (1 : Int32)) h) ⟨rfl, ⟨rfl, ⟨rfl, ⟨rfl, trivial⟩⟩⟩⟩))) (fun c2 => let_h (ifF c2 h) fun h => r_aload_n D_X6_endOf_45 rfl <| r_getR (j := 1) D_X6_endOf_46 fl_X6_20 s_11 rfl <| r_iload D_X6_endOf_49 rfl <| (bdE h).elim fun x7 q8 => let_h q8.2 fun h => r_callV (av := [.int y4]) D_X6_endOf_51 ml_X6_68 mf_X7_at mv_X7_at s_1 rfl rfl (x_X7_at q8.1) (Nat.le_of_ble_eq_true rfl) rfl rfl (Nat.le_of_ble_eq_true rfl) <| r_callS (av := [.int x7]) D_X6_endOf_54 ml_X6_78 mf_X6_isDigit ms_X6_isDigit (x_X6_isDigit rfl) (Nat.le_of_ble_eq_true rfl) rfl rfl (Nat.le_of_ble_eq_true rfl) <| r_if_ne D_X6_endOf_57 (fun c9 => let_h (ifT c9 h) fun h => r_iload_n D_X6_endOf_60 rfl <| r_if_eq D_X6_endOf_61 (fun c10 => let_h (ifT c10 h) fun h => r_iload D_X6_endOf_85 rfl <| r_iret hq D_X6_endOf_87 rfl (rtP h)) (fun c10 => let_h (ifF c10 h) fun h => r_aload_n D_X6_endOf_64 rfl <| r_getR (j := 1) D_X6_endOf_65 fl_X6_20 s_11 rfl <| r_iload D_X6_endOf_68 rfl <| (bdE h).elim fun x11 q12 => let_h q12.2 fun h => r_callV (av := [.int y4]) D_X6_endOf_70 ml_X6_68 mf_X7_at mv_X7_at s_1 rfl rfl (x_X7_at q12.1) (Nat.le_of_ble_eq_true rfl) rfl rfl (Nat.le_of_ble_eq_true rfl) <| r_callS (av := [.int x11]) D_X6_endOf_73 ml_X6_81 mf_X6_isLetter ms_X6_isLetter (x_X6_isLetter rfl) (Nat.le_of_ble_eq_true rfl) rfl rfl (Nat.le_of_ble_eq_true rfl) <| r_if_eq D_X6_endOf_76 (fun c13 => let_h (ifT c13 h) fun h => r_iload D_X6_endOf_85 rfl <| r_iret hq D_X6_endOf_87 rfl (rtP h)) (fun c13 => let_h (ifF c13 h) fun h => r_iinc D_X6_endOf_79 rfl ki_1 (by decide) rfl <| r_goto D_X6_endOf_82 <| r_ls (x_X6_endOf_29 hq n y2 y3 (y4 + (1 : Int32)) h) ⟨rfl, ⟨rfl, ⟨rfl, ⟨rfl, trivial⟩⟩⟩⟩))) (fun c9 => let_h (ifF c9 h) fun h => r_iinc D_X6_endOf_79 rfl ki_1 (by decide) rfl <| r_goto D_X6_endOf_82 <| r_ls (x_X6_endOf_29 hq n y2 y3 (y4 + (1 : Int32)) h) ⟨rfl, ⟨rfl, ⟨rfl, ⟨rfl, trivial⟩⟩⟩⟩)))
def f_X6_endOf (F : Nat) (M : Mem) (a1 : Int32) : Option Int32 := (f_X7_at M a1).bind fun x1 => (f_X7_at M a1).bind fun x3 => f_X6_endOf_29 F M F (f_X6_isDigit M x1) (f_X6_isLetter M x3) (a1 + (1 : Int32))
theorem x_X6_endOf {l : Launch} {w : Wd} {F : Nat} {M : Mem} {a1 : Int32} {v : Int32} (h : f_X6_endOf F M a1 = some v) : Cn l w mi_X6_endOf yX6_endOf (1) [.ref (wq w 11), .int a1] M (some (.int v), M) :=
  Cn_of (loc0 := [some (.ref (wq w 11)), some (.int a1), none, none, none]) rfl rfl rfl (Nat.le_of_ble_eq_true rfl) fun κ hq => let_h (show ((f_X7_at M a1).bind fun x1 => (f_X7_at M a1).bind fun x3 => f_X6_endOf_29 F M F (f_X6_isDigit M x1) (f_X6_isLetter M x3) (a1 + (1 : Int32))) = some v from h) fun h => r_aload_n D_X6_endOf_0 rfl <| r_getR (j := 1) D_X6_endOf_1 fl_X6_20 s_11 rfl <| r_iload_n D_X6_endOf_4 rfl <| (bdE h).elim fun x1 q2 => let_h q2.2 fun h => r_callV (av := [.int a1]) D_X6_endOf_5 ml_X6_68 mf_X7_at mv_X7_at s_1 rfl rfl (x_X7_at q2.1) (Nat.le_of_ble_eq_true rfl) rfl rfl (Nat.le_of_ble_eq_true rfl) <| r_callS (av := [.int x1]) D_X6_endOf_8 ml_X6_78 mf_X6_isDigit ms_X6_isDigit (x_X6_isDigit rfl) (Nat.le_of_ble_eq_true rfl) rfl rfl (Nat.le_of_ble_eq_true rfl) <| r_istore_n D_X6_endOf_11 (by decide) rfl <| r_aload_n D_X6_endOf_12 rfl <| r_getR (j := 1) D_X6_endOf_13 fl_X6_20 s_11 rfl <| r_iload_n D_X6_endOf_16 rfl <| (bdE h).elim fun x3 q4 => let_h q4.2 fun h => r_callV (av := [.int a1]) D_X6_endOf_17 ml_X6_68 mf_X7_at mv_X7_at s_1 rfl rfl (x_X7_at q4.1) (Nat.le_of_ble_eq_true rfl) rfl rfl (Nat.le_of_ble_eq_true rfl) <| r_callS (av := [.int x3]) D_X6_endOf_20 ml_X6_81 mf_X6_isLetter ms_X6_isLetter (x_X6_isLetter rfl) (Nat.le_of_ble_eq_true rfl) rfl rfl (Nat.le_of_ble_eq_true rfl) <| r_istore_n D_X6_endOf_23 (by decide) rfl <| r_iload_n D_X6_endOf_24 rfl <| r_iconst D_X6_endOf_25 ki_1 <| r_iadd D_X6_endOf_26 <| r_istore D_X6_endOf_27 (by decide) rfl <| r_ls (x_X6_endOf_29 hq F (f_X6_isDigit M x1) (f_X6_isLetter M x3) (a1 + (1 : Int32)) h) ⟨rfl, ⟨rfl, ⟨rfl, ⟨rfl, trivial⟩⟩⟩⟩
-- X6_numberCode
theorem D_X6_numberCode_0 : Dec mi_X6_numberCode 0 (.aload_n 0) 1 1 := ⟨by decide +kernel, rfl⟩
theorem D_X6_numberCode_1 : Dec mi_X6_numberCode 1 (.getfield 20) 3 4 := ⟨by decide +kernel, rfl⟩
theorem D_X6_numberCode_4 : Dec mi_X6_numberCode 4 (.iload_n 1) 1 5 := ⟨by decide +kernel, rfl⟩
theorem D_X6_numberCode_5 : Dec mi_X6_numberCode 5 (.invokevirtual 68) 3 8 := ⟨by decide +kernel, rfl⟩
theorem D_X6_numberCode_8 : Dec mi_X6_numberCode 8 (.bipush 48) 2 10 := ⟨by decide +kernel, rfl⟩
theorem D_X6_numberCode_10 : DecJ mi_X6_numberCode 10 (.if_icmp .ne 13) (13) 13 23 := ⟨by decide +kernel, rfl, by decide⟩
theorem D_X6_numberCode_13 : Dec mi_X6_numberCode 13 (.iload_n 2) 1 14 := ⟨by decide +kernel, rfl⟩
theorem D_X6_numberCode_14 : Dec mi_X6_numberCode 14 (.iload_n 1) 1 15 := ⟨by decide +kernel, rfl⟩
theorem D_X6_numberCode_15 : Dec mi_X6_numberCode 15 (.isub) 1 16 := ⟨by decide +kernel, rfl⟩
theorem D_X6_numberCode_16 : Dec mi_X6_numberCode 16 (.iconst 1) 1 17 := ⟨by decide +kernel, rfl⟩
theorem D_X6_numberCode_17 : DecJ mi_X6_numberCode 17 (.if_icmp .le 6) (6) 20 23 := ⟨by decide +kernel, rfl, by decide⟩
theorem D_X6_numberCode_20 : Dec mi_X6_numberCode 20 (.bipush 10) 2 22 := ⟨by decide +kernel, rfl⟩
theorem D_X6_numberCode_22 : Dec mi_X6_numberCode 22 (.ireturn) 1 23 := ⟨by decide +kernel, rfl⟩
theorem D_X6_numberCode_23 : Dec mi_X6_numberCode 23 (.iconst 0) 1 24 := ⟨by decide +kernel, rfl⟩
theorem D_X6_numberCode_24 : Dec mi_X6_numberCode 24 (.istore_n 3) 1 25 := ⟨by decide +kernel, rfl⟩
theorem D_X6_numberCode_25 : Dec mi_X6_numberCode 25 (.iload_n 1) 1 26 := ⟨by decide +kernel, rfl⟩
theorem D_X6_numberCode_26 : Dec mi_X6_numberCode 26 (.istore 4) 2 28 := ⟨by decide +kernel, rfl⟩
theorem D_X6_numberCode_28 : Dec mi_X6_numberCode 28 (.iload 4) 2 30 := ⟨by decide +kernel, rfl⟩
theorem D_X6_numberCode_30 : Dec mi_X6_numberCode 30 (.iload_n 2) 1 31 := ⟨by decide +kernel, rfl⟩
theorem D_X6_numberCode_31 : DecJ mi_X6_numberCode 31 (.if_icmp .ge 32) (32) 34 63 := ⟨by decide +kernel, rfl, by decide⟩
theorem D_X6_numberCode_34 : Dec mi_X6_numberCode 34 (.bipush 10) 2 36 := ⟨by decide +kernel, rfl⟩
theorem D_X6_numberCode_36 : Dec mi_X6_numberCode 36 (.iload_n 3) 1 37 := ⟨by decide +kernel, rfl⟩
theorem D_X6_numberCode_37 : Dec mi_X6_numberCode 37 (.imul) 1 38 := ⟨by decide +kernel, rfl⟩
theorem D_X6_numberCode_38 : Dec mi_X6_numberCode 38 (.aload_n 0) 1 39 := ⟨by decide +kernel, rfl⟩
theorem D_X6_numberCode_39 : Dec mi_X6_numberCode 39 (.getfield 20) 3 42 := ⟨by decide +kernel, rfl⟩
theorem D_X6_numberCode_42 : Dec mi_X6_numberCode 42 (.iload 4) 2 44 := ⟨by decide +kernel, rfl⟩
theorem D_X6_numberCode_44 : Dec mi_X6_numberCode 44 (.invokevirtual 68) 3 47 := ⟨by decide +kernel, rfl⟩
theorem D_X6_numberCode_47 : Dec mi_X6_numberCode 47 (.iadd) 1 48 := ⟨by decide +kernel, rfl⟩
theorem D_X6_numberCode_48 : Dec mi_X6_numberCode 48 (.bipush 48) 2 50 := ⟨by decide +kernel, rfl⟩
theorem D_X6_numberCode_50 : Dec mi_X6_numberCode 50 (.isub) 1 51 := ⟨by decide +kernel, rfl⟩
theorem D_X6_numberCode_51 : Dec mi_X6_numberCode 51 (.bipush 100) 2 53 := ⟨by decide +kernel, rfl⟩
theorem D_X6_numberCode_53 : Dec mi_X6_numberCode 53 (.invokestatic 90) 3 56 := ⟨by decide +kernel, rfl⟩
theorem D_X6_numberCode_56 : Dec mi_X6_numberCode 56 (.istore_n 3) 1 57 := ⟨by decide +kernel, rfl⟩
theorem D_X6_numberCode_57 : Dec mi_X6_numberCode 57 (.iinc 4 1) 3 60 := ⟨by decide +kernel, rfl⟩
theorem D_X6_numberCode_60 : DecJ mi_X6_numberCode 60 (.goto (-32)) (-32) 63 28 := ⟨by decide +kernel, rfl, by decide⟩
theorem D_X6_numberCode_63 : Dec mi_X6_numberCode 63 (.iload_n 3) 1 64 := ⟨by decide +kernel, rfl⟩
theorem D_X6_numberCode_64 : Dec mi_X6_numberCode 64 (.bipush 99) 2 66 := ⟨by decide +kernel, rfl⟩
theorem D_X6_numberCode_66 : DecJ mi_X6_numberCode 66 (.if_icmp .le 8) (8) 69 74 := ⟨by decide +kernel, rfl, by decide⟩
theorem D_X6_numberCode_69 : Dec mi_X6_numberCode 69 (.bipush 10) 2 71 := ⟨by decide +kernel, rfl⟩
theorem D_X6_numberCode_71 : DecJ mi_X6_numberCode 71 (.goto 7) (7) 74 78 := ⟨by decide +kernel, rfl, by decide⟩
theorem D_X6_numberCode_74 : Dec mi_X6_numberCode 74 (.bipush 100) 2 76 := ⟨by decide +kernel, rfl⟩
theorem D_X6_numberCode_76 : Dec mi_X6_numberCode 76 (.iload_n 3) 1 77 := ⟨by decide +kernel, rfl⟩
theorem D_X6_numberCode_77 : Dec mi_X6_numberCode 77 (.iadd) 1 78 := ⟨by decide +kernel, rfl⟩
theorem D_X6_numberCode_78 : Dec mi_X6_numberCode 78 (.ireturn) 1 79 := ⟨by decide +kernel, rfl⟩
def f_X6_numberCode_28 (F : Nat) (M : Mem) : Nat → Int32 → Int32 → Int32 → Option Int32
  | 0, _, _, _ => none
  | n + 1, y2, y3, y4 => if y2 ≤ y4 then (if y3 ≤ (99 : Int32) then (some ((100 : Int32) + y3)) else (some (10 : Int32))) else ((f_X7_at M y4).bind fun x3 => vlet (imin ((((10 : Int32) * y3) + x3) - (48 : Int32)) (100 : Int32)) fun x5 => f_X6_numberCode_28 F M n y2 x5 (y4 + (1 : Int32)))
theorem x_X6_numberCode_28 {l : Launch} {w : Wd} {κ : Kp} {F : Nat} {M : Mem} {v : Int32} (hq : RQ w (some (.int v), M) κ) : ∀ (n : Nat) (y2 : Int32) (y3 : Int32) (y4 : Int32), f_X6_numberCode_28 F M n y2 y3 y4 = some v → RR l w mi_X6_numberCode (1) κ 28 [] [some (.ref (wq w 11)), none, some (.int y2), some (.int y3), some (.int y4)] M
  | 0, _, _, _, h => nomatch h
  | n + 1, y2, y3, y4, h => let_h (show (if y2 ≤ y4 then (if y3 ≤ (99 : Int32) then (some ((100 : Int32) + y3)) else (some (10 : Int32))) else ((f_X7_at M y4).bind fun x3 => vlet (imin ((((10 : Int32) * y3) + x3) - (48 : Int32)) (100 : Int32)) fun x5 => f_X6_numberCode_28 F M n y2 x5 (y4 + (1 : Int32)))) = some v from h) fun h => r_iload D_X6_numberCode_28 rfl <| r_iload_n D_X6_numberCode_30 rfl <| r_icmp_ge D_X6_numberCode_31 (fun c1 => let_h (ifT c1 h) fun h => r_iload_n D_X6_numberCode_63 rfl <| r_bipush D_X6_numberCode_64 k8_99 <| r_icmp_le D_X6_numberCode_66 (fun c2 => let_h (ifT c2 h) fun h => r_bipush D_X6_numberCode_74 k8_100 <| r_iload_n D_X6_numberCode_76 rfl <| r_iadd D_X6_numberCode_77 <| r_iret hq D_X6_numberCode_78 rfl (rtP h)) (fun c2 => let_h (ifF c2 h) fun h => r_bipush D_X6_numberCode_69 k8_10 <| r_goto D_X6_numberCode_71 <| r_iret hq D_X6_numberCode_78 rfl (rtP h))) (fun c1 => let_h (ifF c1 h) fun h => r_bipush D_X6_numberCode_34 k8_10 <| r_iload_n D_X6_numberCode_36 rfl <| r_imul D_X6_numberCode_37 <| r_aload_n D_X6_numberCode_38 rfl <| r_getR (j := 1) D_X6_numberCode_39 fl_X6_20 s_11 rfl <| r_iload D_X6_numberCode_42 rfl <| (bdE h).elim fun x3 q4 => let_h q4.2 fun h => r_callV (av := [.int y4]) D_X6_numberCode_44 ml_X6_68 mf_X7_at mv_X7_at s_1 rfl rfl (x_X7_at q4.1) (Nat.le_of_ble_eq_true rfl) rfl rfl (Nat.le_of_ble_eq_true rfl) <| r_iadd D_X6_numberCode_47 <| r_bipush D_X6_numberCode_48 k8_48 <| r_isub D_X6_numberCode_50 <| r_bipush D_X6_numberCode_51 k8_100 <| r_min D_X6_numberCode_53 mn_X6_90 (Nat.le_of_ble_eq_true rfl) (Nat.le_of_ble_eq_true rfl) <| vlE (fun x5 => RR l w mi_X6_numberCode (1) κ 56 [.int x5] [some (.ref (wq w 11)), none, some (.int y2), some (.int y3), some (.int y4)] M) h fun x5 h => r_istore_n D_X6_numberCode_56 (by decide) rfl <| r_iinc D_X6_numberCode_57 rfl ki_1 (by decide) rfl <| r_goto D_X6_numberCode_60 <| r_ls (x_X6_numberCode_28 hq n y2 x5 (y4 + (1 : Int32)) h) ⟨rfl, ⟨rfl, ⟨rfl, ⟨rfl, trivial⟩⟩⟩⟩)
def f_X6_numberCode (F : Nat) (M : Mem) (a1 : Int32) (a2 : Int32) : Option Int32 := (f_X7_at M a1).bind fun x1 => if x1 = (48 : Int32) then (if (a2 - a1) ≤ (1 : Int32) then (f_X6_numberCode_28 F M F a2 (0 : Int32) a1) else (some (10 : Int32))) else (f_X6_numberCode_28 F M F a2 (0 : Int32) a1)
theorem x_X6_numberCode {l : Launch} {w : Wd} {F : Nat} {M : Mem} {a1 : Int32} {a2 : Int32} {v : Int32} (h : f_X6_numberCode F M a1 a2 = some v) : Cn l w mi_X6_numberCode yX6_numberCode (1) [.ref (wq w 11), .int a1, .int a2] M (some (.int v), M) :=
  Cn_of (loc0 := [some (.ref (wq w 11)), some (.int a1), some (.int a2), none, none]) rfl rfl rfl (Nat.le_of_ble_eq_true rfl) fun κ hq => let_h (show ((f_X7_at M a1).bind fun x1 => if x1 = (48 : Int32) then (if (a2 - a1) ≤ (1 : Int32) then (f_X6_numberCode_28 F M F a2 (0 : Int32) a1) else (some (10 : Int32))) else (f_X6_numberCode_28 F M F a2 (0 : Int32) a1)) = some v from h) fun h => r_aload_n D_X6_numberCode_0 rfl <| r_getR (j := 1) D_X6_numberCode_1 fl_X6_20 s_11 rfl <| r_iload_n D_X6_numberCode_4 rfl <| (bdE h).elim fun x1 q2 => let_h q2.2 fun h => r_callV (av := [.int a1]) D_X6_numberCode_5 ml_X6_68 mf_X7_at mv_X7_at s_1 rfl rfl (x_X7_at q2.1) (Nat.le_of_ble_eq_true rfl) rfl rfl (Nat.le_of_ble_eq_true rfl) <| r_bipush D_X6_numberCode_8 k8_48 <| r_icmp_ne D_X6_numberCode_10 (fun c3 => let_h (ifT c3 h) fun h => r_iload_n D_X6_numberCode_13 rfl <| r_iload_n D_X6_numberCode_14 rfl <| r_isub D_X6_numberCode_15 <| r_iconst D_X6_numberCode_16 ki_1 <| r_icmp_le D_X6_numberCode_17 (fun c4 => let_h (ifT c4 h) fun h => r_iconst D_X6_numberCode_23 ki_0 <| r_istore_n D_X6_numberCode_24 (by decide) rfl <| r_iload_n D_X6_numberCode_25 rfl <| r_istore D_X6_numberCode_26 (by decide) rfl <| r_ls (x_X6_numberCode_28 hq F a2 (0 : Int32) a1 h) ⟨rfl, ⟨rfl, ⟨rfl, ⟨rfl, trivial⟩⟩⟩⟩) (fun c4 => let_h (ifF c4 h) fun h => r_bipush D_X6_numberCode_20 k8_10 <| r_iret hq D_X6_numberCode_22 rfl (rtP h))) (fun c3 => let_h (ifF c3 h) fun h => r_iconst D_X6_numberCode_23 ki_0 <| r_istore_n D_X6_numberCode_24 (by decide) rfl <| r_iload_n D_X6_numberCode_25 rfl <| r_istore D_X6_numberCode_26 (by decide) rfl <| r_ls (x_X6_numberCode_28 hq F a2 (0 : Int32) a1 h) ⟨rfl, ⟨rfl, ⟨rfl, ⟨rfl, trivial⟩⟩⟩⟩)
-- X6_isWord
theorem D_X6_isWord_0 : Dec mi_X6_isWord 0 (.iload_n 3) 1 1 := ⟨by decide +kernel, rfl⟩
theorem D_X6_isWord_1 : Dec mi_X6_isWord 1 (.iload_n 2) 1 2 := ⟨by decide +kernel, rfl⟩
theorem D_X6_isWord_2 : Dec mi_X6_isWord 2 (.isub) 1 3 := ⟨by decide +kernel, rfl⟩
theorem D_X6_isWord_3 : Dec mi_X6_isWord 3 (.aload_n 1) 1 4 := ⟨by decide +kernel, rfl⟩
theorem D_X6_isWord_4 : Dec mi_X6_isWord 4 (.invokevirtual 113) 3 7 := ⟨by decide +kernel, rfl⟩
theorem D_X6_isWord_7 : DecJ mi_X6_isWord 7 (.if_icmp .eq 5) (5) 10 12 := ⟨by decide +kernel, rfl, by decide⟩
theorem D_X6_isWord_10 : Dec mi_X6_isWord 10 (.iconst 0) 1 11 := ⟨by decide +kernel, rfl⟩
theorem D_X6_isWord_11 : Dec mi_X6_isWord 11 (.ireturn) 1 12 := ⟨by decide +kernel, rfl⟩
theorem D_X6_isWord_12 : Dec mi_X6_isWord 12 (.iconst 0) 1 13 := ⟨by decide +kernel, rfl⟩
theorem D_X6_isWord_13 : Dec mi_X6_isWord 13 (.istore 4) 2 15 := ⟨by decide +kernel, rfl⟩
theorem D_X6_isWord_15 : Dec mi_X6_isWord 15 (.iload 4) 2 17 := ⟨by decide +kernel, rfl⟩
theorem D_X6_isWord_17 : Dec mi_X6_isWord 17 (.aload_n 1) 1 18 := ⟨by decide +kernel, rfl⟩
theorem D_X6_isWord_18 : Dec mi_X6_isWord 18 (.invokevirtual 113) 3 21 := ⟨by decide +kernel, rfl⟩
theorem D_X6_isWord_21 : DecJ mi_X6_isWord 21 (.if_icmp .ge 31) (31) 24 52 := ⟨by decide +kernel, rfl, by decide⟩
theorem D_X6_isWord_24 : Dec mi_X6_isWord 24 (.aload_n 0) 1 25 := ⟨by decide +kernel, rfl⟩
theorem D_X6_isWord_25 : Dec mi_X6_isWord 25 (.getfield 20) 3 28 := ⟨by decide +kernel, rfl⟩
theorem D_X6_isWord_28 : Dec mi_X6_isWord 28 (.iload_n 2) 1 29 := ⟨by decide +kernel, rfl⟩
theorem D_X6_isWord_29 : Dec mi_X6_isWord 29 (.iload 4) 2 31 := ⟨by decide +kernel, rfl⟩
theorem D_X6_isWord_31 : Dec mi_X6_isWord 31 (.iadd) 1 32 := ⟨by decide +kernel, rfl⟩
theorem D_X6_isWord_32 : Dec mi_X6_isWord 32 (.invokevirtual 68) 3 35 := ⟨by decide +kernel, rfl⟩
theorem D_X6_isWord_35 : Dec mi_X6_isWord 35 (.aload_n 1) 1 36 := ⟨by decide +kernel, rfl⟩
theorem D_X6_isWord_36 : Dec mi_X6_isWord 36 (.iload 4) 2 38 := ⟨by decide +kernel, rfl⟩
theorem D_X6_isWord_38 : Dec mi_X6_isWord 38 (.invokevirtual 116) 3 41 := ⟨by decide +kernel, rfl⟩
theorem D_X6_isWord_41 : DecJ mi_X6_isWord 41 (.if_icmp .eq 5) (5) 44 46 := ⟨by decide +kernel, rfl, by decide⟩
theorem D_X6_isWord_44 : Dec mi_X6_isWord 44 (.iconst 0) 1 45 := ⟨by decide +kernel, rfl⟩
theorem D_X6_isWord_45 : Dec mi_X6_isWord 45 (.ireturn) 1 46 := ⟨by decide +kernel, rfl⟩
theorem D_X6_isWord_46 : Dec mi_X6_isWord 46 (.iinc 4 1) 3 49 := ⟨by decide +kernel, rfl⟩
theorem D_X6_isWord_49 : DecJ mi_X6_isWord 49 (.goto (-34)) (-34) 52 15 := ⟨by decide +kernel, rfl, by decide⟩
theorem D_X6_isWord_52 : Dec mi_X6_isWord 52 (.iconst 1) 1 53 := ⟨by decide +kernel, rfl⟩
theorem D_X6_isWord_53 : Dec mi_X6_isWord 53 (.ireturn) 1 54 := ⟨by decide +kernel, rfl⟩
def f_X6_isWord_15 (F : Nat) (M : Mem) (o1 : Nat) : Nat → Int32 → Int32 → Option Int32
  | 0, _, _ => none
  | n + 1, y2, y4 => if (nI (lenS.getD o1 0)) ≤ y4 then (some (1 : Int32)) else ((f_X7_at M (y2 + y4)).bind fun x2 => if ck y4 (lenS.getD o1 0) = true then (if x2 = (sch o1 y4) then (f_X6_isWord_15 F M o1 n y2 (y4 + (1 : Int32))) else (some (0 : Int32))) else none)
theorem x_X6_isWord_15 {l : Launch} {w : Wd} {κ : Kp} {F : Nat} {M : Mem} {o1 : Nat} {v : Int32} (hq : RQ w (some (.int v), M) κ) (ho1 : o1 < 8) : ∀ (n : Nat) (y2 : Int32) (y4 : Int32), f_X6_isWord_15 F M o1 n y2 y4 = some v → RR l w mi_X6_isWord (5) κ 15 [] [some (.ref (wq w 11)), some (.ref (wa w o1)), some (.int y2), none, some (.int y4)] M
  | 0, _, _, h => nomatch h
  | n + 1, y2, y4, h => let_h (show (if (nI (lenS.getD o1 0)) ≤ y4 then (some (1 : Int32)) else ((f_X7_at M (y2 + y4)).bind fun x2 => if ck y4 (lenS.getD o1 0) = true then (if x2 = (sch o1 y4) then (f_X6_isWord_15 F M o1 n y2 (y4 + (1 : Int32))) else (some (0 : Int32))) else none)) = some v from h) fun h => r_iload D_X6_isWord_15 rfl <| r_aload_n D_X6_isWord_17 rfl <| r_slen D_X6_isWord_18 ml_X6_113 ho1 (Nat.le_of_ble_eq_true rfl) (Nat.le_of_ble_eq_true rfl) <| r_icmp_ge D_X6_isWord_21 (fun c1 => let_h (ifT c1 h) fun h => r_iconst D_X6_isWord_52 ki_1 <| r_zret hq D_X6_isWord_53 rfl rfl (rtP h)) (fun c1 => let_h (ifF c1 h) fun h => r_aload_n D_X6_isWord_24 rfl <| r_getR (j := 1) D_X6_isWord_25 fl_X6_20 s_11 rfl <| r_iload_n D_X6_isWord_28 rfl <| r_iload D_X6_isWord_29 rfl <| r_iadd D_X6_isWord_31 <| (bdE h).elim fun x2 q3 => let_h q3.2 fun h => r_callV (av := [.int (y2 + y4)]) D_X6_isWord_32 ml_X6_68 mf_X7_at mv_X7_at s_1 rfl rfl (x_X7_at q3.1) (Nat.le_of_ble_eq_true rfl) rfl rfl (Nat.le_of_ble_eq_true rfl) <| r_aload_n D_X6_isWord_35 rfl <| r_iload D_X6_isWord_36 rfl <| (ckE h).elim fun c4 h => r_schar D_X6_isWord_38 ml_X6_116 ho1 c4 (Nat.le_of_ble_eq_true rfl) (Nat.le_of_ble_eq_true rfl) <| r_icmp_eq D_X6_isWord_41 (fun c5 => let_h (ifT c5 h) fun h => r_iinc D_X6_isWord_46 rfl ki_1 (by decide) rfl <| r_goto D_X6_isWord_49 <| r_ls (x_X6_isWord_15 hq ho1 n y2 (y4 + (1 : Int32)) h) ⟨rfl, ⟨rfl, ⟨rfl, ⟨rfl, trivial⟩⟩⟩⟩) (fun c5 => let_h (ifF c5 h) fun h => r_iconst D_X6_isWord_44 ki_0 <| r_zret hq D_X6_isWord_45 rfl rfl (rtP h)))
def f_X6_isWord (F : Nat) (M : Mem) (o1 : Nat) (a2 : Int32) (a3 : Int32) : Option Int32 := if (a3 - a2) = (nI (lenS.getD o1 0)) then (f_X6_isWord_15 F M o1 F a2 (0 : Int32)) else (some (0 : Int32))
theorem x_X6_isWord {l : Launch} {w : Wd} {F : Nat} {M : Mem} {o1 : Nat} {a2 : Int32} {a3 : Int32} {v : Int32} (ho1 : o1 < 8) (h : f_X6_isWord F M o1 a2 a3 = some v) : Cn l w mi_X6_isWord yX6_isWord (5) [.ref (wq w 11), .ref (wa w o1), .int a2, .int a3] M (some (.int v), M) :=
  Cn_of (loc0 := [some (.ref (wq w 11)), some (.ref (wa w o1)), some (.int a2), some (.int a3), none]) rfl rfl rfl (Nat.le_of_ble_eq_true rfl) fun κ hq => let_h (show (if (a3 - a2) = (nI (lenS.getD o1 0)) then (f_X6_isWord_15 F M o1 F a2 (0 : Int32)) else (some (0 : Int32))) = some v from h) fun h => r_iload_n D_X6_isWord_0 rfl <| r_iload_n D_X6_isWord_1 rfl <| r_isub D_X6_isWord_2 <| r_aload_n D_X6_isWord_3 rfl <| r_slen D_X6_isWord_4 ml_X6_113 ho1 (Nat.le_of_ble_eq_true rfl) (Nat.le_of_ble_eq_true rfl) <| r_icmp_eq D_X6_isWord_7 (fun c1 => let_h (ifT c1 h) fun h => r_iconst D_X6_isWord_12 ki_0 <| r_istore D_X6_isWord_13 (by decide) rfl <| r_ls (x_X6_isWord_15 hq ho1 F a2 (0 : Int32) h) ⟨rfl, ⟨rfl, ⟨rfl, ⟨rfl, trivial⟩⟩⟩⟩) (fun c1 => let_h (ifF c1 h) fun h => r_iconst D_X6_isWord_10 ki_0 <| r_zret hq D_X6_isWord_11 rfl rfl (rtP h))
-- X6_wordCode
theorem D_X6_wordCode_0 : Dec mi_X6_wordCode 0 (.aload_n 0) 1 1 := ⟨by decide +kernel, rfl⟩
theorem D_X6_wordCode_1 : Dec mi_X6_wordCode 1 (.ldc 93) 2 3 := ⟨by decide +kernel, rfl⟩
theorem D_X6_wordCode_3 : Dec mi_X6_wordCode 3 (.iload_n 1) 1 4 := ⟨by decide +kernel, rfl⟩
theorem D_X6_wordCode_4 : Dec mi_X6_wordCode 4 (.iload_n 2) 1 5 := ⟨by decide +kernel, rfl⟩
theorem D_X6_wordCode_5 : Dec mi_X6_wordCode 5 (.invokevirtual 95) 3 8 := ⟨by decide +kernel, rfl⟩
theorem D_X6_wordCode_8 : DecJ mi_X6_wordCode 8 (.ifCond .eq 5) (5) 11 13 := ⟨by decide +kernel, rfl, by decide⟩
theorem D_X6_wordCode_11 : Dec mi_X6_wordCode 11 (.iconst 0) 1 12 := ⟨by decide +kernel, rfl⟩
theorem D_X6_wordCode_12 : Dec mi_X6_wordCode 12 (.ireturn) 1 13 := ⟨by decide +kernel, rfl⟩
theorem D_X6_wordCode_13 : Dec mi_X6_wordCode 13 (.aload_n 0) 1 14 := ⟨by decide +kernel, rfl⟩
theorem D_X6_wordCode_14 : Dec mi_X6_wordCode 14 (.ldc 99) 2 16 := ⟨by decide +kernel, rfl⟩
theorem D_X6_wordCode_16 : Dec mi_X6_wordCode 16 (.iload_n 1) 1 17 := ⟨by decide +kernel, rfl⟩
theorem D_X6_wordCode_17 : Dec mi_X6_wordCode 17 (.iload_n 2) 1 18 := ⟨by decide +kernel, rfl⟩
theorem D_X6_wordCode_18 : Dec mi_X6_wordCode 18 (.invokevirtual 95) 3 21 := ⟨by decide +kernel, rfl⟩
theorem D_X6_wordCode_21 : DecJ mi_X6_wordCode 21 (.ifCond .eq 5) (5) 24 26 := ⟨by decide +kernel, rfl, by decide⟩
theorem D_X6_wordCode_24 : Dec mi_X6_wordCode 24 (.iconst 1) 1 25 := ⟨by decide +kernel, rfl⟩
theorem D_X6_wordCode_25 : Dec mi_X6_wordCode 25 (.ireturn) 1 26 := ⟨by decide +kernel, rfl⟩
theorem D_X6_wordCode_26 : Dec mi_X6_wordCode 26 (.aload_n 0) 1 27 := ⟨by decide +kernel, rfl⟩
theorem D_X6_wordCode_27 : Dec mi_X6_wordCode 27 (.ldc 101) 2 29 := ⟨by decide +kernel, rfl⟩
theorem D_X6_wordCode_29 : Dec mi_X6_wordCode 29 (.iload_n 1) 1 30 := ⟨by decide +kernel, rfl⟩
theorem D_X6_wordCode_30 : Dec mi_X6_wordCode 30 (.iload_n 2) 1 31 := ⟨by decide +kernel, rfl⟩
theorem D_X6_wordCode_31 : Dec mi_X6_wordCode 31 (.invokevirtual 95) 3 34 := ⟨by decide +kernel, rfl⟩
theorem D_X6_wordCode_34 : DecJ mi_X6_wordCode 34 (.ifCond .eq 5) (5) 37 39 := ⟨by decide +kernel, rfl, by decide⟩
theorem D_X6_wordCode_37 : Dec mi_X6_wordCode 37 (.iconst 2) 1 38 := ⟨by decide +kernel, rfl⟩
theorem D_X6_wordCode_38 : Dec mi_X6_wordCode 38 (.ireturn) 1 39 := ⟨by decide +kernel, rfl⟩
theorem D_X6_wordCode_39 : Dec mi_X6_wordCode 39 (.aload_n 0) 1 40 := ⟨by decide +kernel, rfl⟩
theorem D_X6_wordCode_40 : Dec mi_X6_wordCode 40 (.ldc 103) 2 42 := ⟨by decide +kernel, rfl⟩
theorem D_X6_wordCode_42 : Dec mi_X6_wordCode 42 (.iload_n 1) 1 43 := ⟨by decide +kernel, rfl⟩
theorem D_X6_wordCode_43 : Dec mi_X6_wordCode 43 (.iload_n 2) 1 44 := ⟨by decide +kernel, rfl⟩
theorem D_X6_wordCode_44 : Dec mi_X6_wordCode 44 (.invokevirtual 95) 3 47 := ⟨by decide +kernel, rfl⟩
theorem D_X6_wordCode_47 : DecJ mi_X6_wordCode 47 (.ifCond .eq 5) (5) 50 52 := ⟨by decide +kernel, rfl, by decide⟩
theorem D_X6_wordCode_50 : Dec mi_X6_wordCode 50 (.iconst 3) 1 51 := ⟨by decide +kernel, rfl⟩
theorem D_X6_wordCode_51 : Dec mi_X6_wordCode 51 (.ireturn) 1 52 := ⟨by decide +kernel, rfl⟩
theorem D_X6_wordCode_52 : Dec mi_X6_wordCode 52 (.aload_n 0) 1 53 := ⟨by decide +kernel, rfl⟩
theorem D_X6_wordCode_53 : Dec mi_X6_wordCode 53 (.ldc 105) 2 55 := ⟨by decide +kernel, rfl⟩
theorem D_X6_wordCode_55 : Dec mi_X6_wordCode 55 (.iload_n 1) 1 56 := ⟨by decide +kernel, rfl⟩
theorem D_X6_wordCode_56 : Dec mi_X6_wordCode 56 (.iload_n 2) 1 57 := ⟨by decide +kernel, rfl⟩
theorem D_X6_wordCode_57 : Dec mi_X6_wordCode 57 (.invokevirtual 95) 3 60 := ⟨by decide +kernel, rfl⟩
theorem D_X6_wordCode_60 : DecJ mi_X6_wordCode 60 (.ifCond .eq 5) (5) 63 65 := ⟨by decide +kernel, rfl, by decide⟩
theorem D_X6_wordCode_63 : Dec mi_X6_wordCode 63 (.iconst 4) 1 64 := ⟨by decide +kernel, rfl⟩
theorem D_X6_wordCode_64 : Dec mi_X6_wordCode 64 (.ireturn) 1 65 := ⟨by decide +kernel, rfl⟩
theorem D_X6_wordCode_65 : Dec mi_X6_wordCode 65 (.aload_n 0) 1 66 := ⟨by decide +kernel, rfl⟩
theorem D_X6_wordCode_66 : Dec mi_X6_wordCode 66 (.ldc 107) 2 68 := ⟨by decide +kernel, rfl⟩
theorem D_X6_wordCode_68 : Dec mi_X6_wordCode 68 (.iload_n 1) 1 69 := ⟨by decide +kernel, rfl⟩
theorem D_X6_wordCode_69 : Dec mi_X6_wordCode 69 (.iload_n 2) 1 70 := ⟨by decide +kernel, rfl⟩
theorem D_X6_wordCode_70 : Dec mi_X6_wordCode 70 (.invokevirtual 95) 3 73 := ⟨by decide +kernel, rfl⟩
theorem D_X6_wordCode_73 : DecJ mi_X6_wordCode 73 (.ifCond .eq 5) (5) 76 78 := ⟨by decide +kernel, rfl, by decide⟩
theorem D_X6_wordCode_76 : Dec mi_X6_wordCode 76 (.iconst 5) 1 77 := ⟨by decide +kernel, rfl⟩
theorem D_X6_wordCode_77 : Dec mi_X6_wordCode 77 (.ireturn) 1 78 := ⟨by decide +kernel, rfl⟩
theorem D_X6_wordCode_78 : Dec mi_X6_wordCode 78 (.aload_n 0) 1 79 := ⟨by decide +kernel, rfl⟩
theorem D_X6_wordCode_79 : Dec mi_X6_wordCode 79 (.ldc 109) 2 81 := ⟨by decide +kernel, rfl⟩
theorem D_X6_wordCode_81 : Dec mi_X6_wordCode 81 (.iload_n 1) 1 82 := ⟨by decide +kernel, rfl⟩
theorem D_X6_wordCode_82 : Dec mi_X6_wordCode 82 (.iload_n 2) 1 83 := ⟨by decide +kernel, rfl⟩
theorem D_X6_wordCode_83 : Dec mi_X6_wordCode 83 (.invokevirtual 95) 3 86 := ⟨by decide +kernel, rfl⟩
theorem D_X6_wordCode_86 : DecJ mi_X6_wordCode 86 (.ifCond .eq 6) (6) 89 92 := ⟨by decide +kernel, rfl, by decide⟩
theorem D_X6_wordCode_89 : Dec mi_X6_wordCode 89 (.bipush 6) 2 91 := ⟨by decide +kernel, rfl⟩
theorem D_X6_wordCode_91 : Dec mi_X6_wordCode 91 (.ireturn) 1 92 := ⟨by decide +kernel, rfl⟩
theorem D_X6_wordCode_92 : Dec mi_X6_wordCode 92 (.aload_n 0) 1 93 := ⟨by decide +kernel, rfl⟩
theorem D_X6_wordCode_93 : Dec mi_X6_wordCode 93 (.ldc 111) 2 95 := ⟨by decide +kernel, rfl⟩
theorem D_X6_wordCode_95 : Dec mi_X6_wordCode 95 (.iload_n 1) 1 96 := ⟨by decide +kernel, rfl⟩
theorem D_X6_wordCode_96 : Dec mi_X6_wordCode 96 (.iload_n 2) 1 97 := ⟨by decide +kernel, rfl⟩
theorem D_X6_wordCode_97 : Dec mi_X6_wordCode 97 (.invokevirtual 95) 3 100 := ⟨by decide +kernel, rfl⟩
theorem D_X6_wordCode_100 : DecJ mi_X6_wordCode 100 (.ifCond .eq 8) (8) 103 108 := ⟨by decide +kernel, rfl, by decide⟩
theorem D_X6_wordCode_103 : Dec mi_X6_wordCode 103 (.bipush 7) 2 105 := ⟨by decide +kernel, rfl⟩
theorem D_X6_wordCode_105 : DecJ mi_X6_wordCode 105 (.goto 5) (5) 108 110 := ⟨by decide +kernel, rfl, by decide⟩
theorem D_X6_wordCode_108 : Dec mi_X6_wordCode 108 (.bipush 10) 2 110 := ⟨by decide +kernel, rfl⟩
theorem D_X6_wordCode_110 : Dec mi_X6_wordCode 110 (.ireturn) 1 111 := ⟨by decide +kernel, rfl⟩
def f_X6_wordCode (F : Nat) (M : Mem) (a1 : Int32) (a2 : Int32) : Option Int32 := (f_X6_isWord F M 0 a1 a2).bind fun x1 => if x1 = 0 then ((f_X6_isWord F M 1 a1 a2).bind fun x4 => if x4 = 0 then ((f_X6_isWord F M 2 a1 a2).bind fun x7 => if x7 = 0 then ((f_X6_isWord F M 3 a1 a2).bind fun x10 => if x10 = 0 then ((f_X6_isWord F M 4 a1 a2).bind fun x13 => if x13 = 0 then ((f_X6_isWord F M 5 a1 a2).bind fun x16 => if x16 = 0 then ((f_X6_isWord F M 6 a1 a2).bind fun x19 => if x19 = 0 then ((f_X6_isWord F M 7 a1 a2).bind fun x22 => if x22 = 0 then (some (10 : Int32)) else (some (7 : Int32))) else (some (6 : Int32))) else (some (5 : Int32))) else (some (4 : Int32))) else (some (3 : Int32))) else (some (2 : Int32))) else (some (1 : Int32))) else (some (0 : Int32))
theorem x_X6_wordCode {l : Launch} {w : Wd} {F : Nat} {M : Mem} {a1 : Int32} {a2 : Int32} {v : Int32} (h : f_X6_wordCode F M a1 a2 = some v) : Cn l w mi_X6_wordCode yX6_wordCode (6) [.ref (wq w 11), .int a1, .int a2] M (some (.int v), M) :=
  Cn_of (loc0 := [some (.ref (wq w 11)), some (.int a1), some (.int a2)]) rfl rfl rfl (Nat.le_of_ble_eq_true rfl) fun κ hq => let_h (show ((f_X6_isWord F M 0 a1 a2).bind fun x1 => if x1 = 0 then ((f_X6_isWord F M 1 a1 a2).bind fun x4 => if x4 = 0 then ((f_X6_isWord F M 2 a1 a2).bind fun x7 => if x7 = 0 then ((f_X6_isWord F M 3 a1 a2).bind fun x10 => if x10 = 0 then ((f_X6_isWord F M 4 a1 a2).bind fun x13 => if x13 = 0 then ((f_X6_isWord F M 5 a1 a2).bind fun x16 => if x16 = 0 then ((f_X6_isWord F M 6 a1 a2).bind fun x19 => if x19 = 0 then ((f_X6_isWord F M 7 a1 a2).bind fun x22 => if x22 = 0 then (some (10 : Int32)) else (some (7 : Int32))) else (some (6 : Int32))) else (some (5 : Int32))) else (some (4 : Int32))) else (some (3 : Int32))) else (some (2 : Int32))) else (some (1 : Int32))) else (some (0 : Int32))) = some v from h) fun h => r_aload_n D_X6_wordCode_0 rfl <| r_text (j := 0) D_X6_wordCode_1 rfl rfl <| r_iload_n D_X6_wordCode_3 rfl <| r_iload_n D_X6_wordCode_4 rfl <| (bdE h).elim fun x1 q2 => let_h q2.2 fun h => r_callV (av := [.ref (wa w 0), .int a1, .int a2]) D_X6_wordCode_5 ml_X6_95 mf_X6_isWord mv_X6_isWord s_11 rfl rfl (x_X6_isWord (by decide) q2.1) (Nat.le_of_ble_eq_true rfl) rfl rfl (Nat.le_of_ble_eq_true rfl) <| r_if_eq D_X6_wordCode_8 (fun c3 => let_h (ifT c3 h) fun h => r_aload_n D_X6_wordCode_13 rfl <| r_text (j := 1) D_X6_wordCode_14 rfl rfl <| r_iload_n D_X6_wordCode_16 rfl <| r_iload_n D_X6_wordCode_17 rfl <| (bdE h).elim fun x4 q5 => let_h q5.2 fun h => r_callV (av := [.ref (wa w 1), .int a1, .int a2]) D_X6_wordCode_18 ml_X6_95 mf_X6_isWord mv_X6_isWord s_11 rfl rfl (x_X6_isWord (by decide) q5.1) (Nat.le_of_ble_eq_true rfl) rfl rfl (Nat.le_of_ble_eq_true rfl) <| r_if_eq D_X6_wordCode_21 (fun c6 => let_h (ifT c6 h) fun h => r_aload_n D_X6_wordCode_26 rfl <| r_text (j := 2) D_X6_wordCode_27 rfl rfl <| r_iload_n D_X6_wordCode_29 rfl <| r_iload_n D_X6_wordCode_30 rfl <| (bdE h).elim fun x7 q8 => let_h q8.2 fun h => r_callV (av := [.ref (wa w 2), .int a1, .int a2]) D_X6_wordCode_31 ml_X6_95 mf_X6_isWord mv_X6_isWord s_11 rfl rfl (x_X6_isWord (by decide) q8.1) (Nat.le_of_ble_eq_true rfl) rfl rfl (Nat.le_of_ble_eq_true rfl) <| r_if_eq D_X6_wordCode_34 (fun c9 => let_h (ifT c9 h) fun h => r_aload_n D_X6_wordCode_39 rfl <| r_text (j := 3) D_X6_wordCode_40 rfl rfl <| r_iload_n D_X6_wordCode_42 rfl <| r_iload_n D_X6_wordCode_43 rfl <| (bdE h).elim fun x10 q11 => let_h q11.2 fun h => r_callV (av := [.ref (wa w 3), .int a1, .int a2]) D_X6_wordCode_44 ml_X6_95 mf_X6_isWord mv_X6_isWord s_11 rfl rfl (x_X6_isWord (by decide) q11.1) (Nat.le_of_ble_eq_true rfl) rfl rfl (Nat.le_of_ble_eq_true rfl) <| r_if_eq D_X6_wordCode_47 (fun c12 => let_h (ifT c12 h) fun h => r_aload_n D_X6_wordCode_52 rfl <| r_text (j := 4) D_X6_wordCode_53 rfl rfl <| r_iload_n D_X6_wordCode_55 rfl <| r_iload_n D_X6_wordCode_56 rfl <| (bdE h).elim fun x13 q14 => let_h q14.2 fun h => r_callV (av := [.ref (wa w 4), .int a1, .int a2]) D_X6_wordCode_57 ml_X6_95 mf_X6_isWord mv_X6_isWord s_11 rfl rfl (x_X6_isWord (by decide) q14.1) (Nat.le_of_ble_eq_true rfl) rfl rfl (Nat.le_of_ble_eq_true rfl) <| r_if_eq D_X6_wordCode_60 (fun c15 => let_h (ifT c15 h) fun h => r_aload_n D_X6_wordCode_65 rfl <| r_text (j := 5) D_X6_wordCode_66 rfl rfl <| r_iload_n D_X6_wordCode_68 rfl <| r_iload_n D_X6_wordCode_69 rfl <| (bdE h).elim fun x16 q17 => let_h q17.2 fun h => r_callV (av := [.ref (wa w 5), .int a1, .int a2]) D_X6_wordCode_70 ml_X6_95 mf_X6_isWord mv_X6_isWord s_11 rfl rfl (x_X6_isWord (by decide) q17.1) (Nat.le_of_ble_eq_true rfl) rfl rfl (Nat.le_of_ble_eq_true rfl) <| r_if_eq D_X6_wordCode_73 (fun c18 => let_h (ifT c18 h) fun h => r_aload_n D_X6_wordCode_78 rfl <| r_text (j := 6) D_X6_wordCode_79 rfl rfl <| r_iload_n D_X6_wordCode_81 rfl <| r_iload_n D_X6_wordCode_82 rfl <| (bdE h).elim fun x19 q20 => let_h q20.2 fun h => r_callV (av := [.ref (wa w 6), .int a1, .int a2]) D_X6_wordCode_83 ml_X6_95 mf_X6_isWord mv_X6_isWord s_11 rfl rfl (x_X6_isWord (by decide) q20.1) (Nat.le_of_ble_eq_true rfl) rfl rfl (Nat.le_of_ble_eq_true rfl) <| r_if_eq D_X6_wordCode_86 (fun c21 => let_h (ifT c21 h) fun h => r_aload_n D_X6_wordCode_92 rfl <| r_text (j := 7) D_X6_wordCode_93 rfl rfl <| r_iload_n D_X6_wordCode_95 rfl <| r_iload_n D_X6_wordCode_96 rfl <| (bdE h).elim fun x22 q23 => let_h q23.2 fun h => r_callV (av := [.ref (wa w 7), .int a1, .int a2]) D_X6_wordCode_97 ml_X6_95 mf_X6_isWord mv_X6_isWord s_11 rfl rfl (x_X6_isWord (by decide) q23.1) (Nat.le_of_ble_eq_true rfl) rfl rfl (Nat.le_of_ble_eq_true rfl) <| r_if_eq D_X6_wordCode_100 (fun c24 => let_h (ifT c24 h) fun h => r_bipush D_X6_wordCode_108 k8_10 <| r_iret hq D_X6_wordCode_110 rfl (rtP h)) (fun c24 => let_h (ifF c24 h) fun h => r_bipush D_X6_wordCode_103 k8_7 <| r_goto D_X6_wordCode_105 <| r_iret hq D_X6_wordCode_110 rfl (rtP h))) (fun c21 => let_h (ifF c21 h) fun h => r_bipush D_X6_wordCode_89 k8_6 <| r_iret hq D_X6_wordCode_91 rfl (rtP h))) (fun c18 => let_h (ifF c18 h) fun h => r_iconst D_X6_wordCode_76 ki_5 <| r_iret hq D_X6_wordCode_77 rfl (rtP h))) (fun c15 => let_h (ifF c15 h) fun h => r_iconst D_X6_wordCode_63 ki_4 <| r_iret hq D_X6_wordCode_64 rfl (rtP h))) (fun c12 => let_h (ifF c12 h) fun h => r_iconst D_X6_wordCode_50 ki_3 <| r_iret hq D_X6_wordCode_51 rfl (rtP h))) (fun c9 => let_h (ifF c9 h) fun h => r_iconst D_X6_wordCode_37 ki_2 <| r_iret hq D_X6_wordCode_38 rfl (rtP h))) (fun c6 => let_h (ifF c6 h) fun h => r_iconst D_X6_wordCode_24 ki_1 <| r_iret hq D_X6_wordCode_25 rfl (rtP h))) (fun c3 => let_h (ifF c3 h) fun h => r_iconst D_X6_wordCode_11 ki_0 <| r_iret hq D_X6_wordCode_12 rfl (rtP h))
