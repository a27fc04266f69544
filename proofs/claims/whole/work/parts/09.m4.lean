-- X6_startOfNext
theorem D_X6_startOfNext_0 : Dec mi_X6_startOfNext 0 (.aload_n 0) 1 1 := ⟨by decide +kernel, rfl⟩
theorem D_X6_startOfNext_1 : Dec mi_X6_startOfNext 1 (.getfield 36) 3 4 := ⟨by decide +kernel, rfl⟩
theorem D_X6_startOfNext_4 : DecJ mi_X6_startOfNext 4 (.ifCond .lt 36) (36) 7 40 := ⟨by decide +kernel, rfl, by decide⟩
theorem D_X6_startOfNext_7 : Dec mi_X6_startOfNext 7 (.aload_n 0) 1 8 := ⟨by decide +kernel, rfl⟩
theorem D_X6_startOfNext_8 : Dec mi_X6_startOfNext 8 (.getfield 36) 3 11 := ⟨by decide +kernel, rfl⟩
theorem D_X6_startOfNext_11 : Dec mi_X6_startOfNext 11 (.sipush 500) 3 14 := ⟨by decide +kernel, rfl⟩
theorem D_X6_startOfNext_14 : DecJ mi_X6_startOfNext 14 (.if_icmp .ge 26) (26) 17 40 := ⟨by decide +kernel, rfl, by decide⟩
theorem D_X6_startOfNext_17 : Dec mi_X6_startOfNext 17 (.aload_n 0) 1 18 := ⟨by decide +kernel, rfl⟩
theorem D_X6_startOfNext_18 : Dec mi_X6_startOfNext 18 (.getfield 36) 3 21 := ⟨by decide +kernel, rfl⟩
theorem D_X6_startOfNext_21 : Dec mi_X6_startOfNext 21 (.aload_n 0) 1 22 := ⟨by decide +kernel, rfl⟩
theorem D_X6_startOfNext_22 : Dec mi_X6_startOfNext 22 (.getfield 52) 3 25 := ⟨by decide +kernel, rfl⟩
theorem D_X6_startOfNext_25 : DecJ mi_X6_startOfNext 25 (.if_icmp .ge 15) (15) 28 40 := ⟨by decide +kernel, rfl, by decide⟩
theorem D_X6_startOfNext_28 : Dec mi_X6_startOfNext 28 (.aload_n 0) 1 29 := ⟨by decide +kernel, rfl⟩
theorem D_X6_startOfNext_29 : Dec mi_X6_startOfNext 29 (.getfield 17) 3 32 := ⟨by decide +kernel, rfl⟩
theorem D_X6_startOfNext_32 : Dec mi_X6_startOfNext 32 (.aload_n 0) 1 33 := ⟨by decide +kernel, rfl⟩
theorem D_X6_startOfNext_33 : Dec mi_X6_startOfNext 33 (.getfield 36) 3 36 := ⟨by decide +kernel, rfl⟩
theorem D_X6_startOfNext_36 : Dec mi_X6_startOfNext 36 (.iaload) 1 37 := ⟨by decide +kernel, rfl⟩
theorem D_X6_startOfNext_37 : DecJ mi_X6_startOfNext 37 (.goto 10) (10) 40 47 := ⟨by decide +kernel, rfl, by decide⟩
theorem D_X6_startOfNext_40 : Dec mi_X6_startOfNext 40 (.aload_n 0) 1 41 := ⟨by decide +kernel, rfl⟩
theorem D_X6_startOfNext_41 : Dec mi_X6_startOfNext 41 (.getfield 20) 3 44 := ⟨by decide +kernel, rfl⟩
theorem D_X6_startOfNext_44 : Dec mi_X6_startOfNext 44 (.invokevirtual 55) 3 47 := ⟨by decide +kernel, rfl⟩
theorem D_X6_startOfNext_47 : Dec mi_X6_startOfNext 47 (.ireturn) 1 48 := ⟨by decide +kernel, rfl⟩
def f_X6_startOfNext (M : Mem) : Option Int32 := if (M.1 11 5) < 0 then (some (f_X7_length M)) else (if (500 : Int32) ≤ (M.1 11 5) then (some (f_X7_length M)) else (if (M.1 11 4) ≤ (M.1 11 5) then (some (f_X7_length M)) else (if ck (M.1 11 5) 500 = true then (some (M.1 13 (M.1 11 5).toNatClampNeg)) else none)))
theorem x_X6_startOfNext {l : Launch} {w : Wd} {M : Mem} {v : Int32} (h : f_X6_startOfNext M = some v) : Cn l w mi_X6_startOfNext yX6_startOfNext (1) [.ref (wq w 11)] M (some (.int v), M) :=
  Cn_of (loc0 := [some (.ref (wq w 11))]) rfl rfl rfl (Nat.le_of_ble_eq_true rfl) fun κ hq => let_h (show (if (M.1 11 5) < 0 then (some (f_X7_length M)) else (if (500 : Int32) ≤ (M.1 11 5) then (some (f_X7_length M)) else (if (M.1 11 4) ≤ (M.1 11 5) then (some (f_X7_length M)) else (if ck (M.1 11 5) 500 = true then (some (M.1 13 (M.1 11 5).toNatClampNeg)) else none)))) = some v from h) fun h => r_aload_n D_X6_startOfNext_0 rfl <| r_getI D_X6_startOfNext_1 fl_X6_36 s_11 rfl <| r_if_lt D_X6_startOfNext_4 (fun c1 => let_h (ifT c1 h) fun h => r_aload_n D_X6_startOfNext_40 rfl <| r_getR (j := 1) D_X6_startOfNext_41 fl_X6_20 s_11 rfl <| r_callV (av := []) D_X6_startOfNext_44 ml_X6_55 mf_X7_length mv_X7_length s_1 rfl rfl (x_X7_length rfl) (Nat.le_of_ble_eq_true rfl) rfl rfl (Nat.le_of_ble_eq_true rfl) <| r_iret hq D_X6_startOfNext_47 rfl (rtP h)) (fun c1 => let_h (ifF c1 h) fun h => r_aload_n D_X6_startOfNext_7 rfl <| r_getI D_X6_startOfNext_8 fl_X6_36 s_11 rfl <| r_sipush D_X6_startOfNext_11 k16_500 <| r_icmp_ge D_X6_startOfNext_14 (fun c2 => let_h (ifT c2 h) fun h => r_aload_n D_X6_startOfNext_40 rfl <| r_getR (j := 1) D_X6_startOfNext_41 fl_X6_20 s_11 rfl <| r_callV (av := []) D_X6_startOfNext_44 ml_X6_55 mf_X7_length mv_X7_length s_1 rfl rfl (x_X7_length rfl) (Nat.le_of_ble_eq_true rfl) rfl rfl (Nat.le_of_ble_eq_true rfl) <| r_iret hq D_X6_startOfNext_47 rfl (rtP h)) (fun c2 => let_h (ifF c2 h) fun h => r_aload_n D_X6_startOfNext_17 rfl <| r_getI D_X6_startOfNext_18 fl_X6_36 s_11 rfl <| r_aload_n D_X6_startOfNext_21 rfl <| r_getI D_X6_startOfNext_22 fl_X6_52 s_11 rfl <| r_icmp_ge D_X6_startOfNext_25 (fun c3 => let_h (ifT c3 h) fun h => r_aload_n D_X6_startOfNext_40 rfl <| r_getR (j := 1) D_X6_startOfNext_41 fl_X6_20 s_11 rfl <| r_callV (av := []) D_X6_startOfNext_44 ml_X6_55 mf_X7_length mv_X7_length s_1 rfl rfl (x_X7_length rfl) (Nat.le_of_ble_eq_true rfl) rfl rfl (Nat.le_of_ble_eq_true rfl) <| r_iret hq D_X6_startOfNext_47 rfl (rtP h)) (fun c3 => let_h (ifF c3 h) fun h => r_aload_n D_X6_startOfNext_28 rfl <| r_getR (j := 13) D_X6_startOfNext_29 fl_X6_17 s_11 rfl <| r_aload_n D_X6_startOfNext_32 rfl <| r_getI D_X6_startOfNext_33 fl_X6_36 s_11 rfl <| (ckE h).elim fun c4 h => r_iald D_X6_startOfNext_36 s_13 c4 <| r_goto D_X6_startOfNext_37 <| r_iret hq D_X6_startOfNext_47 rfl (rtP h))))
-- X6_read
theorem D_X6_read_0 : Dec mi_X6_read 0 (.aload_n 0) 1 1 := ⟨by decide +kernel, rfl⟩
theorem D_X6_read_1 : Dec mi_X6_read 1 (.invokevirtual 28) 3 4 := ⟨by decide +kernel, rfl⟩
theorem D_X6_read_4 : Dec mi_X6_read 4 (.aload_n 0) 1 5 := ⟨by decide +kernel, rfl⟩
theorem D_X6_read_5 : Dec mi_X6_read 5 (.getfield 24) 3 8 := ⟨by decide +kernel, rfl⟩
theorem D_X6_read_8 : Dec mi_X6_read 8 (.invokevirtual 31) 3 11 := ⟨by decide +kernel, rfl⟩
theorem D_X6_read_11 : Dec mi_X6_read 11 (.aload_n 0) 1 12 := ⟨by decide +kernel, rfl⟩
theorem D_X6_read_12 : Dec mi_X6_read 12 (.iconst 0) 1 13 := ⟨by decide +kernel, rfl⟩
theorem D_X6_read_13 : Dec mi_X6_read 13 (.putfield 36) 3 16 := ⟨by decide +kernel, rfl⟩
theorem D_X6_read_16 : Dec mi_X6_read 16 (.iconst 0) 1 17 := ⟨by decide +kernel, rfl⟩
theorem D_X6_read_17 : Dec mi_X6_read 17 (.istore_n 1) 1 18 := ⟨by decide +kernel, rfl⟩
theorem D_X6_read_18 : Dec mi_X6_read 18 (.aload_n 0) 1 19 := ⟨by decide +kernel, rfl⟩
theorem D_X6_read_19 : Dec mi_X6_read 19 (.bipush 9) 2 21 := ⟨by decide +kernel, rfl⟩
theorem D_X6_read_21 : Dec mi_X6_read 21 (.invokevirtual 40) 3 24 := ⟨by decide +kernel, rfl⟩
theorem D_X6_read_24 : DecJ mi_X6_read 24 (.ifCond .ne 31) (31) 27 55 := ⟨by decide +kernel, rfl, by decide⟩
theorem D_X6_read_27 : Dec mi_X6_read 27 (.iload_n 1) 1 28 := ⟨by decide +kernel, rfl⟩
theorem D_X6_read_28 : Dec mi_X6_read 28 (.sipush 500) 3 31 := ⟨by decide +kernel, rfl⟩
theorem D_X6_read_31 : DecJ mi_X6_read 31 (.if_icmp .ge 24) (24) 34 55 := ⟨by decide +kernel, rfl, by decide⟩
theorem D_X6_read_34 : Dec mi_X6_read 34 (.aload_n 0) 1 35 := ⟨by decide +kernel, rfl⟩
theorem D_X6_read_35 : Dec mi_X6_read 35 (.invokevirtual 44) 3 38 := ⟨by decide +kernel, rfl⟩
theorem D_X6_read_38 : DecJ mi_X6_read 38 (.ifCond .ne 11) (11) 41 49 := ⟨by decide +kernel, rfl, by decide⟩
theorem D_X6_read_41 : Dec mi_X6_read 41 (.bipush (-10)) 2 43 := ⟨by decide +kernel, rfl⟩
theorem D_X6_read_43 : Dec mi_X6_read 43 (.aload_n 0) 1 44 := ⟨by decide +kernel, rfl⟩
theorem D_X6_read_44 : Dec mi_X6_read 44 (.invokevirtual 48) 3 47 := ⟨by decide +kernel, rfl⟩
theorem D_X6_read_47 : Dec mi_X6_read 47 (.isub) 1 48 := ⟨by decide +kernel, rfl⟩
theorem D_X6_read_48 : Dec mi_X6_read 48 (.ireturn) 1 49 := ⟨by decide +kernel, rfl⟩
theorem D_X6_read_49 : Dec mi_X6_read 49 (.iinc 1 1) 3 52 := ⟨by decide +kernel, rfl⟩
theorem D_X6_read_52 : DecJ mi_X6_read 52 (.goto (-34)) (-34) 55 18 := ⟨by decide +kernel, rfl, by decide⟩
theorem D_X6_read_55 : Dec mi_X6_read 55 (.iload_n 1) 1 56 := ⟨by decide +kernel, rfl⟩
theorem D_X6_read_56 : Dec mi_X6_read 56 (.ireturn) 1 57 := ⟨by decide +kernel, rfl⟩
def f_X6_read_18 (F : Nat) : Nat → Int32 → Mem → Option (Int32 × Mem)
  | 0, _, _ => none
  | n + 1, y1, N => (f_X6_isNext N (9 : Int32)).bind fun x1 => if x1 = 0 then (if (500 : Int32) ≤ y1 then (some (y1, N)) else ((f_X6_readItem N).bind fun p5 => if p5.1 = 0 then ((f_X6_startOfNext p5.2).bind fun x8 => some (((-10 : Int32) - x8), p5.2)) else (f_X6_read_18 F n (y1 + (1 : Int32)) p5.2))) else (some (y1, N))
theorem x_X6_read_18 {l : Launch} {w : Wd} {κ : Kp} {F : Nat} {v : Int32 × Mem} (hq : RQ w (some (.int v.1), v.2) κ) : ∀ (n : Nat) (y1 : Int32) (N : Mem), f_X6_read_18 F n y1 N = some v → RR l w mi_X6_read (9) κ 18 [] [some (.ref (wq w 11)), some (.int y1)] N
  | 0, _, _, h => nomatch h
  | n + 1, y1, N, h => let_h (show ((f_X6_isNext N (9 : Int32)).bind fun x1 => if x1 = 0 then (if (500 : Int32) ≤ y1 then (some (y1, N)) else ((f_X6_readItem N).bind fun p5 => if p5.1 = 0 then ((f_X6_startOfNext p5.2).bind fun x8 => some (((-10 : Int32) - x8), p5.2)) else (f_X6_read_18 F n (y1 + (1 : Int32)) p5.2))) else (some (y1, N))) = some v from h) fun h => r_aload_n D_X6_read_18 rfl <| r_bipush D_X6_read_19 k8_9 <| (bdE h).elim fun x1 q2 => let_h q2.2 fun h => r_callV (av := [.int (9 : Int32)]) D_X6_read_21 ml_X6_40 mf_X6_isNext mv_X6_isNext s_11 rfl rfl (x_X6_isNext q2.1) (Nat.le_of_ble_eq_true rfl) rfl rfl (Nat.le_of_ble_eq_true rfl) <| r_if_ne D_X6_read_24 (fun c3 => let_h (ifT c3 h) fun h => r_iload_n D_X6_read_27 rfl <| r_sipush D_X6_read_28 k16_500 <| r_icmp_ge D_X6_read_31 (fun c4 => let_h (ifT c4 h) fun h => r_iload_n D_X6_read_55 rfl <| r_iret hq D_X6_read_56 rfl (rtW h)) (fun c4 => let_h (ifF c4 h) fun h => r_aload_n D_X6_read_34 rfl <| (bdE h).elim fun p5 q6 => let_h q6.2 fun h => r_callV (av := []) D_X6_read_35 ml_X6_44 mf_X6_readItem mv_X6_readItem s_11 rfl rfl (x_X6_readItem q6.1) (Nat.le_of_ble_eq_true rfl) rfl rfl (Nat.le_of_ble_eq_true rfl) <| r_if_ne D_X6_read_38 (fun c7 => let_h (ifT c7 h) fun h => r_bipush D_X6_read_41 k8_m10 <| r_aload_n D_X6_read_43 rfl <| (bdE h).elim fun x8 q9 => let_h q9.2 fun h => r_callV (av := []) D_X6_read_44 ml_X6_48 mf_X6_startOfNext mv_X6_startOfNext s_11 rfl rfl (x_X6_startOfNext q9.1) (Nat.le_of_ble_eq_true rfl) rfl rfl (Nat.le_of_ble_eq_true rfl) <| r_isub D_X6_read_47 <| r_iret hq D_X6_read_48 rfl (rtW h)) (fun c7 => let_h (ifF c7 h) fun h => r_iinc D_X6_read_49 rfl ki_1 (by decide) rfl <| r_goto D_X6_read_52 <| r_ls (x_X6_read_18 hq n (y1 + (1 : Int32)) p5.2 h) ⟨rfl, ⟨rfl, trivial⟩⟩))) (fun c3 => let_h (ifF c3 h) fun h => r_iload_n D_X6_read_55 rfl <| r_iret hq D_X6_read_56 rfl (rtW h))
def f_X6_read (F : Nat) (M : Mem) : Option (Int32 × Mem) := (f_X6_split F M).bind fun p1 => (f_X8_empty F p1 7).bind fun p3 => vlet (setI p3 11 5 (0 : Int32)) fun M5 => f_X6_read_18 F F (0 : Int32) M5
theorem x_X6_read {l : Launch} {w : Wd} {F : Nat} {M : Mem} {v : Int32 × Mem} (h : f_X6_read F M = some v) : Cn l w mi_X6_read yX6_read (9) [.ref (wq w 11)] M (some (.int v.1), v.2) :=
  Cn_of (loc0 := [some (.ref (wq w 11)), none]) rfl rfl rfl (Nat.le_of_ble_eq_true rfl) fun κ hq => let_h (show ((f_X6_split F M).bind fun p1 => (f_X8_empty F p1 7).bind fun p3 => vlet (setI p3 11 5 (0 : Int32)) fun M5 => f_X6_read_18 F F (0 : Int32) M5) = some v from h) fun h => r_aload_n D_X6_read_0 rfl <| (bdE h).elim fun p1 q2 => let_h q2.2 fun h => r_callV (av := []) D_X6_read_1 ml_X6_28 mf_X6_split mv_X6_split s_11 rfl rfl (x_X6_split q2.1) (Nat.le_of_ble_eq_true rfl) rfl rfl (Nat.le_of_ble_eq_true rfl) <| r_aload_n D_X6_read_4 rfl <| r_getR (j := 7) D_X6_read_5 fl_X6_24 s_11 rfl <| (bdE h).elim fun p3 q4 => let_h q4.2 fun h => r_callV (av := []) D_X6_read_8 ml_X6_31 mf_X8_empty mv_X8_empty s_7 rfl rfl (x_X8_empty trip_7 q4.1) (Nat.le_of_ble_eq_true rfl) rfl rfl (Nat.le_of_ble_eq_true rfl) <| r_aload_n D_X6_read_11 rfl <| r_iconst D_X6_read_12 ki_0 <| r_putI D_X6_read_13 fp_X6_36 s_11 rfl rfl rfl <| mlE h fun M5 h => r_iconst D_X6_read_16 ki_0 <| r_istore_n D_X6_read_17 (by decide) rfl <| r_ls (x_X6_read_18 hq F (0 : Int32) M5 h) ⟨rfl, ⟨rfl, trivial⟩⟩
-- X7_hasRoom
theorem D_X7_hasRoom_0 : Dec mi_X7_hasRoom 0 (.aload_n 0) 1 1 := ⟨by decide +kernel, rfl⟩
theorem D_X7_hasRoom_1 : Dec mi_X7_hasRoom 1 (.getfield 13) 3 4 := ⟨by decide +kernel, rfl⟩
theorem D_X7_hasRoom_4 : Dec mi_X7_hasRoom 4 (.iload_n 1) 1 5 := ⟨by decide +kernel, rfl⟩
theorem D_X7_hasRoom_5 : Dec mi_X7_hasRoom 5 (.iadd) 1 6 := ⟨by decide +kernel, rfl⟩
theorem D_X7_hasRoom_6 : Dec mi_X7_hasRoom 6 (.sipush 500) 3 9 := ⟨by decide +kernel, rfl⟩
theorem D_X7_hasRoom_9 : DecJ mi_X7_hasRoom 9 (.if_icmp .gt 7) (7) 12 16 := ⟨by decide +kernel, rfl, by decide⟩
theorem D_X7_hasRoom_12 : Dec mi_X7_hasRoom 12 (.iconst 1) 1 13 := ⟨by decide +kernel, rfl⟩
theorem D_X7_hasRoom_13 : DecJ mi_X7_hasRoom 13 (.goto 4) (4) 16 17 := ⟨by decide +kernel, rfl, by decide⟩
theorem D_X7_hasRoom_16 : Dec mi_X7_hasRoom 16 (.iconst 0) 1 17 := ⟨by decide +kernel, rfl⟩
theorem D_X7_hasRoom_17 : Dec mi_X7_hasRoom 17 (.ireturn) 1 18 := ⟨by decide +kernel, rfl⟩
def f_X7_hasRoom (M : Mem) (a1 : Int32) : Int32 := if (500 : Int32) < ((M.1 1 1) + a1) then ((0 : Int32)) else ((1 : Int32))
theorem x_X7_hasRoom {l : Launch} {w : Wd} {M : Mem} {a1 : Int32} {v : Int32} (h : f_X7_hasRoom M a1 = v) : Cn l w mi_X7_hasRoom yX7_hasRoom (0) [.ref (wq w 1), .int a1] M (some (.int v), M) :=
  Cn_of (loc0 := [some (.ref (wq w 1)), some (.int a1)]) rfl rfl rfl (Nat.le_of_ble_eq_true rfl) fun κ hq => let_h (show (if (500 : Int32) < ((M.1 1 1) + a1) then ((0 : Int32)) else ((1 : Int32))) = v from h) fun h => r_aload_n D_X7_hasRoom_0 rfl <| r_getI D_X7_hasRoom_1 fl_X7_13 s_1 rfl <| r_iload_n D_X7_hasRoom_4 rfl <| r_iadd D_X7_hasRoom_5 <| r_sipush D_X7_hasRoom_6 k16_500 <| r_icmp_gt D_X7_hasRoom_9 (fun c1 => let_h (ifT c1 h) fun h => r_iconst D_X7_hasRoom_16 ki_0 <| r_zret hq D_X7_hasRoom_17 rfl rfl (rtT h)) (fun c1 => let_h (ifF c1 h) fun h => r_iconst D_X7_hasRoom_12 ki_1 <| r_goto D_X7_hasRoom_13 <| r_zret hq D_X7_hasRoom_17 rfl rfl (rtT h))
-- X7_add
theorem D_X7_add_0 : Dec mi_X7_add 0 (.aload_n 0) 1 1 := ⟨by decide +kernel, rfl⟩
theorem D_X7_add_1 : Dec mi_X7_add 1 (.getfield 13) 3 4 := ⟨by decide +kernel, rfl⟩
theorem D_X7_add_4 : DecJ mi_X7_add 4 (.ifCond .lt 34) (34) 7 38 := ⟨by decide +kernel, rfl, by decide⟩
theorem D_X7_add_7 : Dec mi_X7_add 7 (.aload_n 0) 1 8 := ⟨by decide +kernel, rfl⟩
theorem D_X7_add_8 : Dec mi_X7_add 8 (.getfield 13) 3 11 := ⟨by decide +kernel, rfl⟩
theorem D_X7_add_11 : Dec mi_X7_add 11 (.sipush 500) 3 14 := ⟨by decide +kernel, rfl⟩
theorem D_X7_add_14 : DecJ mi_X7_add 14 (.if_icmp .ge 24) (24) 17 38 := ⟨by decide +kernel, rfl, by decide⟩
theorem D_X7_add_17 : Dec mi_X7_add 17 (.aload_n 0) 1 18 := ⟨by decide +kernel, rfl⟩
theorem D_X7_add_18 : Dec mi_X7_add 18 (.getfield 9) 3 21 := ⟨by decide +kernel, rfl⟩
theorem D_X7_add_21 : Dec mi_X7_add 21 (.aload_n 0) 1 22 := ⟨by decide +kernel, rfl⟩
theorem D_X7_add_22 : Dec mi_X7_add 22 (.getfield 13) 3 25 := ⟨by decide +kernel, rfl⟩
theorem D_X7_add_25 : Dec mi_X7_add 25 (.iload_n 1) 1 26 := ⟨by decide +kernel, rfl⟩
theorem D_X7_add_26 : Dec mi_X7_add 26 (.i2b) 1 27 := ⟨by decide +kernel, rfl⟩
theorem D_X7_add_27 : Dec mi_X7_add 27 (.bastore) 1 28 := ⟨by decide +kernel, rfl⟩
theorem D_X7_add_28 : Dec mi_X7_add 28 (.aload_n 0) 1 29 := ⟨by decide +kernel, rfl⟩
theorem D_X7_add_29 : Dec mi_X7_add 29 (.dup) 1 30 := ⟨by decide +kernel, rfl⟩
theorem D_X7_add_30 : Dec mi_X7_add 30 (.getfield 13) 3 33 := ⟨by decide +kernel, rfl⟩
theorem D_X7_add_33 : Dec mi_X7_add 33 (.iconst 1) 1 34 := ⟨by decide +kernel, rfl⟩
theorem D_X7_add_34 : Dec mi_X7_add 34 (.iadd) 1 35 := ⟨by decide +kernel, rfl⟩
theorem D_X7_add_35 : Dec mi_X7_add 35 (.putfield 13) 3 38 := ⟨by decide +kernel, rfl⟩
theorem D_X7_add_38 : Dec mi_X7_add 38 (.return_) 1 39 := ⟨by decide +kernel, rfl⟩
def f_X7_add (M : Mem) (a1 : Int32) : Option Mem := if (M.1 1 1) < 0 then (some M) else (if (500 : Int32) ≤ (M.1 1 1) then (some M) else (if ck (M.1 1 1) 500 = true then (vlet (setI M 2 (M.1 1 1).toNatClampNeg a1.toInt8.toInt32.toInt8.toInt32) fun M4 => vlet (setI M4 1 1 ((M4.1 1 1) + (1 : Int32))) fun M5 => some M5) else none))
theorem x_X7_add {l : Launch} {w : Wd} {M : Mem} {a1 : Int32} {v : Mem} (h : f_X7_add M a1 = some v) : Cn l w mi_X7_add yX7_add (0) [.ref (wq w 1), .int a1] M (none, v) :=
  Cn_of (loc0 := [some (.ref (wq w 1)), some (.int a1)]) rfl rfl rfl (Nat.le_of_ble_eq_true rfl) fun κ hq => let_h (show (if (M.1 1 1) < 0 then (some M) else (if (500 : Int32) ≤ (M.1 1 1) then (some M) else (if ck (M.1 1 1) 500 = true then (vlet (setI M 2 (M.1 1 1).toNatClampNeg a1.toInt8.toInt32.toInt8.toInt32) fun M4 => vlet (setI M4 1 1 ((M4.1 1 1) + (1 : Int32))) fun M5 => some M5) else none))) = some v from h) fun h => r_aload_n D_X7_add_0 rfl <| r_getI D_X7_add_1 fl_X7_13 s_1 rfl <| r_if_lt D_X7_add_4 (fun c1 => let_h (ifT c1 h) fun h => r_vret hq D_X7_add_38 rfl (rtV h)) (fun c1 => let_h (ifF c1 h) fun h => r_aload_n D_X7_add_7 rfl <| r_getI D_X7_add_8 fl_X7_13 s_1 rfl <| r_sipush D_X7_add_11 k16_500 <| r_icmp_ge D_X7_add_14 (fun c2 => let_h (ifT c2 h) fun h => r_vret hq D_X7_add_38 rfl (rtV h)) (fun c2 => let_h (ifF c2 h) fun h => r_aload_n D_X7_add_17 rfl <| r_getR (j := 2) D_X7_add_18 fl_X7_9 s_1 rfl <| r_aload_n D_X7_add_21 rfl <| r_getI D_X7_add_22 fl_X7_13 s_1 rfl <| r_iload_n D_X7_add_25 rfl <| r_i2b D_X7_add_26 <| (ckE h).elim fun c3 h => r_bast D_X7_add_27 s_2 c3 <| mlE h fun M4 h => r_aload_n D_X7_add_28 rfl <| r_dup D_X7_add_29 rfl <| r_getI D_X7_add_30 fl_X7_13 s_1 rfl <| r_iconst D_X7_add_33 ki_1 <| r_iadd D_X7_add_34 <| r_putI D_X7_add_35 fp_X7_13 s_1 rfl rfl rfl <| mlE h fun M5 h => r_vret hq D_X7_add_38 rfl (rtV h)))
-- X7_empty
theorem D_X7_empty_0 : Dec mi_X7_empty 0 (.aload_n 0) 1 1 := ⟨by decide +kernel, rfl⟩
theorem D_X7_empty_1 : Dec mi_X7_empty 1 (.iconst 0) 1 2 := ⟨by decide +kernel, rfl⟩
theorem D_X7_empty_2 : Dec mi_X7_empty 2 (.putfield 13) 3 5 := ⟨by decide +kernel, rfl⟩
theorem D_X7_empty_5 : Dec mi_X7_empty 5 (.return_) 1 6 := ⟨by decide +kernel, rfl⟩
def f_X7_empty (M : Mem) : Option Mem := vlet (setI M 1 1 (0 : Int32)) fun M1 => some M1
theorem x_X7_empty {l : Launch} {w : Wd} {M : Mem} {v : Mem} (h : f_X7_empty M = some v) : Cn l w mi_X7_empty yX7_empty (0) [.ref (wq w 1)] M (none, v) :=
  Cn_of (loc0 := [some (.ref (wq w 1))]) rfl rfl rfl (Nat.le_of_ble_eq_true rfl) fun κ hq => let_h (show (vlet (setI M 1 1 (0 : Int32)) fun M1 => some M1) = some v from h) fun h => r_aload_n D_X7_empty_0 rfl <| r_iconst D_X7_empty_1 ki_0 <| r_putI D_X7_empty_2 fp_X7_13 s_1 rfl rfl rfl <| mlE h fun M1 h => r_vret hq D_X7_empty_5 rfl (rtV h)
-- X8_copy
theorem D_X8_copy_0 : Dec mi_X8_copy 0 (.aload_n 1) 1 1 := ⟨by decide +kernel, rfl⟩
theorem D_X8_copy_1 : Dec mi_X8_copy 1 (.getfield 9) 3 4 := ⟨by decide +kernel, rfl⟩
theorem D_X8_copy_4 : Dec mi_X8_copy 4 (.iconst 0) 1 5 := ⟨by decide +kernel, rfl⟩
theorem D_X8_copy_5 : Dec mi_X8_copy 5 (.aload_n 0) 1 6 := ⟨by decide +kernel, rfl⟩
theorem D_X8_copy_6 : Dec mi_X8_copy 6 (.getfield 9) 3 9 := ⟨by decide +kernel, rfl⟩
theorem D_X8_copy_9 : Dec mi_X8_copy 9 (.iconst 0) 1 10 := ⟨by decide +kernel, rfl⟩
theorem D_X8_copy_10 : Dec mi_X8_copy 10 (.bipush 48) 2 12 := ⟨by decide +kernel, rfl⟩
theorem D_X8_copy_12 : Dec mi_X8_copy 12 (.invokestatic 52) 3 15 := ⟨by decide +kernel, rfl⟩
theorem D_X8_copy_15 : Dec mi_X8_copy 15 (.aload_n 1) 1 16 := ⟨by decide +kernel, rfl⟩
theorem D_X8_copy_16 : Dec mi_X8_copy 16 (.getfield 15) 3 19 := ⟨by decide +kernel, rfl⟩
theorem D_X8_copy_19 : Dec mi_X8_copy 19 (.iconst 0) 1 20 := ⟨by decide +kernel, rfl⟩
theorem D_X8_copy_20 : Dec mi_X8_copy 20 (.aload_n 0) 1 21 := ⟨by decide +kernel, rfl⟩
theorem D_X8_copy_21 : Dec mi_X8_copy 21 (.getfield 15) 3 24 := ⟨by decide +kernel, rfl⟩
theorem D_X8_copy_24 : Dec mi_X8_copy 24 (.iconst 0) 1 25 := ⟨by decide +kernel, rfl⟩
theorem D_X8_copy_25 : Dec mi_X8_copy 25 (.bipush 32) 2 27 := ⟨by decide +kernel, rfl⟩
theorem D_X8_copy_27 : Dec mi_X8_copy 27 (.invokestatic 52) 3 30 := ⟨by decide +kernel, rfl⟩
theorem D_X8_copy_30 : Dec mi_X8_copy 30 (.aload_n 1) 1 31 := ⟨by decide +kernel, rfl⟩
theorem D_X8_copy_31 : Dec mi_X8_copy 31 (.getfield 18) 3 34 := ⟨by decide +kernel, rfl⟩
theorem D_X8_copy_34 : Dec mi_X8_copy 34 (.iconst 0) 1 35 := ⟨by decide +kernel, rfl⟩
theorem D_X8_copy_35 : Dec mi_X8_copy 35 (.aload_n 0) 1 36 := ⟨by decide +kernel, rfl⟩
theorem D_X8_copy_36 : Dec mi_X8_copy 36 (.getfield 18) 3 39 := ⟨by decide +kernel, rfl⟩
theorem D_X8_copy_39 : Dec mi_X8_copy 39 (.iconst 0) 1 40 := ⟨by decide +kernel, rfl⟩
theorem D_X8_copy_40 : Dec mi_X8_copy 40 (.bipush 6) 2 42 := ⟨by decide +kernel, rfl⟩
theorem D_X8_copy_42 : Dec mi_X8_copy 42 (.invokestatic 52) 3 45 := ⟨by decide +kernel, rfl⟩
theorem D_X8_copy_45 : Dec mi_X8_copy 45 (.aload_n 0) 1 46 := ⟨by decide +kernel, rfl⟩
theorem D_X8_copy_46 : Dec mi_X8_copy 46 (.aload_n 1) 1 47 := ⟨by decide +kernel, rfl⟩
theorem D_X8_copy_47 : Dec mi_X8_copy 47 (.getfield 27) 3 50 := ⟨by decide +kernel, rfl⟩
theorem D_X8_copy_50 : Dec mi_X8_copy 50 (.putfield 27) 3 53 := ⟨by decide +kernel, rfl⟩
theorem D_X8_copy_53 : Dec mi_X8_copy 53 (.aload_n 0) 1 54 := ⟨by decide +kernel, rfl⟩
theorem D_X8_copy_54 : Dec mi_X8_copy 54 (.aload_n 1) 1 55 := ⟨by decide +kernel, rfl⟩
theorem D_X8_copy_55 : Dec mi_X8_copy 55 (.getfield 31) 3 58 := ⟨by decide +kernel, rfl⟩
theorem D_X8_copy_58 : Dec mi_X8_copy 58 (.putfield 31) 3 61 := ⟨by decide +kernel, rfl⟩
theorem D_X8_copy_61 : Dec mi_X8_copy 61 (.aload_n 0) 1 62 := ⟨by decide +kernel, rfl⟩
theorem D_X8_copy_62 : Dec mi_X8_copy 62 (.aload_n 1) 1 63 := ⟨by decide +kernel, rfl⟩
theorem D_X8_copy_63 : Dec mi_X8_copy 63 (.getfield 34) 3 66 := ⟨by decide +kernel, rfl⟩
theorem D_X8_copy_66 : Dec mi_X8_copy 66 (.putfield 34) 3 69 := ⟨by decide +kernel, rfl⟩
theorem D_X8_copy_69 : Dec mi_X8_copy 69 (.aload_n 0) 1 70 := ⟨by decide +kernel, rfl⟩
theorem D_X8_copy_70 : Dec mi_X8_copy 70 (.aload_n 1) 1 71 := ⟨by decide +kernel, rfl⟩
theorem D_X8_copy_71 : Dec mi_X8_copy 71 (.getfield 37) 3 74 := ⟨by decide +kernel, rfl⟩
theorem D_X8_copy_74 : Dec mi_X8_copy 74 (.putfield 37) 3 77 := ⟨by decide +kernel, rfl⟩
theorem D_X8_copy_77 : Dec mi_X8_copy 77 (.aload_n 0) 1 78 := ⟨by decide +kernel, rfl⟩
theorem D_X8_copy_78 : Dec mi_X8_copy 78 (.aload_n 1) 1 79 := ⟨by decide +kernel, rfl⟩
theorem D_X8_copy_79 : Dec mi_X8_copy 79 (.getfield 40) 3 82 := ⟨by decide +kernel, rfl⟩
theorem D_X8_copy_82 : Dec mi_X8_copy 82 (.putfield 40) 3 85 := ⟨by decide +kernel, rfl⟩
theorem D_X8_copy_85 : Dec mi_X8_copy 85 (.aload_n 0) 1 86 := ⟨by decide +kernel, rfl⟩
theorem D_X8_copy_86 : Dec mi_X8_copy 86 (.aload_n 1) 1 87 := ⟨by decide +kernel, rfl⟩
theorem D_X8_copy_87 : Dec mi_X8_copy 87 (.getfield 43) 3 90 := ⟨by decide +kernel, rfl⟩
theorem D_X8_copy_90 : Dec mi_X8_copy 90 (.putfield 43) 3 93 := ⟨by decide +kernel, rfl⟩
theorem D_X8_copy_93 : Dec mi_X8_copy 93 (.aload_n 0) 1 94 := ⟨by decide +kernel, rfl⟩
theorem D_X8_copy_94 : Dec mi_X8_copy 94 (.aload_n 1) 1 95 := ⟨by decide +kernel, rfl⟩
theorem D_X8_copy_95 : Dec mi_X8_copy 95 (.getfield 46) 3 98 := ⟨by decide +kernel, rfl⟩
theorem D_X8_copy_98 : Dec mi_X8_copy 98 (.putfield 46) 3 101 := ⟨by decide +kernel, rfl⟩
theorem D_X8_copy_101 : Dec mi_X8_copy 101 (.aload_n 0) 1 102 := ⟨by decide +kernel, rfl⟩
theorem D_X8_copy_102 : Dec mi_X8_copy 102 (.aload_n 1) 1 103 := ⟨by decide +kernel, rfl⟩
theorem D_X8_copy_103 : Dec mi_X8_copy 103 (.getfield 49) 3 106 := ⟨by decide +kernel, rfl⟩
theorem D_X8_copy_106 : Dec mi_X8_copy 106 (.putfield 49) 3 109 := ⟨by decide +kernel, rfl⟩
theorem D_X8_copy_109 : Dec mi_X8_copy 109 (.return_) 1 110 := ⟨by decide +kernel, rfl⟩
def f_X8_copy (M : Mem) (o : Nat) (o1 : Nat) : Option Mem := vlet (setA M (o + 1) (va_cpy (M.1 (o1 + 1)) (M.1 (o + 1)) 0 0 (48 : Int32).toNatClampNeg)) fun M1 => vlet (setA M1 (o + 2) (va_cpy (M1.1 (o1 + 2)) (M1.1 (o + 2)) 0 0 (32 : Int32).toNatClampNeg)) fun M2 => vlet (setA M2 (o + 3) (va_cpy (M2.1 (o1 + 3)) (M2.1 (o + 3)) 0 0 (6 : Int32).toNatClampNeg)) fun M3 => vlet (setI M3 o 3 (M3.1 o1 3)) fun M4 => vlet (setI M4 o 4 (M4.1 o1 4)) fun M5 => vlet (setI M5 o 5 (M5.1 o1 5)) fun M6 => vlet (setI M6 o 6 (M6.1 o1 6)) fun M7 => vlet (setI M7 o 7 (M7.1 o1 7)) fun M8 => vlet (setI M8 o 8 (M8.1 o1 8)) fun M9 => vlet (setI M9 o 9 (M9.1 o1 9)) fun M10 => vlet (setI M10 o 10 (M10.1 o1 10)) fun M11 => some M11
theorem x_X8_copy {l : Launch} {w : Wd} {M : Mem} {o : Nat} {o1 : Nat} {v : Mem} (ho : isTrip o) (ho1 : isTrip o1) (h : f_X8_copy M o o1 = some v) : Cn l w mi_X8_copy yX8_copy (1) [.ref (wq w o), .ref (wq w o1)] M (none, v) :=
  Cn_of (loc0 := [some (.ref (wq w o)), some (.ref (wq w o1))]) rfl rfl rfl (Nat.le_of_ble_eq_true rfl) fun κ hq => let_h (show (vlet (setA M (o + 1) (va_cpy (M.1 (o1 + 1)) (M.1 (o + 1)) 0 0 (48 : Int32).toNatClampNeg)) fun M1 => vlet (setA M1 (o + 2) (va_cpy (M1.1 (o1 + 2)) (M1.1 (o + 2)) 0 0 (32 : Int32).toNatClampNeg)) fun M2 => vlet (setA M2 (o + 3) (va_cpy (M2.1 (o1 + 3)) (M2.1 (o + 3)) 0 0 (6 : Int32).toNatClampNeg)) fun M3 => vlet (setI M3 o 3 (M3.1 o1 3)) fun M4 => vlet (setI M4 o 4 (M4.1 o1 4)) fun M5 => vlet (setI M5 o 5 (M5.1 o1 5)) fun M6 => vlet (setI M6 o 6 (M6.1 o1 6)) fun M7 => vlet (setI M7 o 7 (M7.1 o1 7)) fun M8 => vlet (setI M8 o 8 (M8.1 o1 8)) fun M9 => vlet (setI M9 o 9 (M9.1 o1 9)) fun M10 => vlet (setI M10 o 10 (M10.1 o1 10)) fun M11 => some M11) = some v from h) fun h => r_aload_n D_X8_copy_0 rfl <| r_getR (j := (o1 + 1)) D_X8_copy_1 fl_X8_9 ho1.1 rfl <| r_iconst D_X8_copy_4 ki_0 <| r_aload_n D_X8_copy_5 rfl <| r_getR (j := (o + 1)) D_X8_copy_6 fl_X8_9 ho.1 rfl <| r_iconst D_X8_copy_9 ki_0 <| r_bipush D_X8_copy_10 k8_48 <| r_copyI D_X8_copy_12 mn_X8_52 ho1.2.1 ho.2.1 (by decide) (by decide) (by decide) (Nat.le_of_ble_eq_true rfl) (by decide) <| mlE h fun M1 h => r_aload_n D_X8_copy_15 rfl <| r_getR (j := (o1 + 2)) D_X8_copy_16 fl_X8_15 ho1.1 rfl <| r_iconst D_X8_copy_19 ki_0 <| r_aload_n D_X8_copy_20 rfl <| r_getR (j := (o + 2)) D_X8_copy_21 fl_X8_15 ho.1 rfl <| r_iconst D_X8_copy_24 ki_0 <| r_bipush D_X8_copy_25 k8_32 <| r_copyI D_X8_copy_27 mn_X8_52 ho1.2.2.1 ho.2.2.1 (by decide) (by decide) (by decide) (Nat.le_of_ble_eq_true rfl) (by decide) <| mlE h fun M2 h => r_aload_n D_X8_copy_30 rfl <| r_getR (j := (o1 + 3)) D_X8_copy_31 fl_X8_18 ho1.1 rfl <| r_iconst D_X8_copy_34 ki_0 <| r_aload_n D_X8_copy_35 rfl <| r_getR (j := (o + 3)) D_X8_copy_36 fl_X8_18 ho.1 rfl <| r_iconst D_X8_copy_39 ki_0 <| r_bipush D_X8_copy_40 k8_6 <| r_copyI D_X8_copy_42 mn_X8_52 ho1.2.2.2 ho.2.2.2 (by decide) (by decide) (by decide) (Nat.le_of_ble_eq_true rfl) (by decide) <| mlE h fun M3 h => r_aload_n D_X8_copy_45 rfl <| r_aload_n D_X8_copy_46 rfl <| r_getI D_X8_copy_47 fl_X8_27 ho1.1 rfl <| r_putI D_X8_copy_50 fp_X8_27 ho.1 rfl rfl rfl <| mlE h fun M4 h => r_aload_n D_X8_copy_53 rfl <| r_aload_n D_X8_copy_54 rfl <| r_getI D_X8_copy_55 fl_X8_31 ho1.1 rfl <| r_putI D_X8_copy_58 fp_X8_31 ho.1 rfl rfl rfl <| mlE h fun M5 h => r_aload_n D_X8_copy_61 rfl <| r_aload_n D_X8_copy_62 rfl <| r_getI D_X8_copy_63 fl_X8_34 ho1.1 rfl <| r_putI D_X8_copy_66 fp_X8_34 ho.1 rfl rfl rfl <| mlE h fun M6 h => r_aload_n D_X8_copy_69 rfl <| r_aload_n D_X8_copy_70 rfl <| r_getI D_X8_copy_71 fl_X8_37 ho1.1 rfl <| r_putI D_X8_copy_74 fp_X8_37 ho.1 rfl rfl rfl <| mlE h fun M7 h => r_aload_n D_X8_copy_77 rfl <| r_aload_n D_X8_copy_78 rfl <| r_getI D_X8_copy_79 fl_X8_40 ho1.1 rfl <| r_putI D_X8_copy_82 fp_X8_40 ho.1 rfl rfl rfl <| mlE h fun M8 h => r_aload_n D_X8_copy_85 rfl <| r_aload_n D_X8_copy_86 rfl <| r_getI D_X8_copy_87 fl_X8_43 ho1.1 rfl <| r_putI D_X8_copy_90 fp_X8_43 ho.1 rfl rfl rfl <| mlE h fun M9 h => r_aload_n D_X8_copy_93 rfl <| r_aload_n D_X8_copy_94 rfl <| r_getI D_X8_copy_95 fl_X8_46 ho1.1 rfl <| r_putI D_X8_copy_98 fp_X8_46 ho.1 rfl rfl rfl <| mlE h fun M10 h => r_aload_n D_X8_copy_101 rfl <| r_aload_n D_X8_copy_102 rfl <| r_getI D_X8_copy_103 fl_X8_49 ho1.1 rfl <| r_putI D_X8_copy_106 fp_X8_49 ho.1 rfl rfl rfl <| mlE h fun M11 h => r_vret hq D_X8_copy_109 rfl (rtV h)
-- X9_type
theorem D_X9_type_0 : Dec mi_X9_type 0 (.iload_n 3) 1 1 := ⟨by decide +kernel, rfl⟩
theorem D_X9_type_1 : Dec mi_X9_type 1 (.iconst 1) 1 2 := ⟨by decide +kernel, rfl⟩
theorem D_X9_type_2 : DecJ mi_X9_type 2 (.if_icmp .lt 9) (9) 5 11 := ⟨by decide +kernel, rfl, by decide⟩
theorem D_X9_type_5 : Dec mi_X9_type 5 (.iload_n 3) 1 6 := ⟨by decide +kernel, rfl⟩
theorem D_X9_type_6 : Dec mi_X9_type 6 (.bipush 8) 2 8 := ⟨by decide +kernel, rfl⟩
theorem D_X9_type_8 : DecJ mi_X9_type 8 (.if_icmp .le 5) (5) 11 13 := ⟨by decide +kernel, rfl, by decide⟩
theorem D_X9_type_11 : Dec mi_X9_type 11 (.iconst (-1)) 1 12 := ⟨by decide +kernel, rfl⟩
theorem D_X9_type_12 : Dec mi_X9_type 12 (.ireturn) 1 13 := ⟨by decide +kernel, rfl⟩
theorem D_X9_type_13 : Dec mi_X9_type 13 (.aload_n 0) 1 14 := ⟨by decide +kernel, rfl⟩
theorem D_X9_type_14 : Dec mi_X9_type 14 (.getfield 12) 3 17 := ⟨by decide +kernel, rfl⟩
theorem D_X9_type_17 : Dec mi_X9_type 17 (.iload_n 3) 1 18 := ⟨by decide +kernel, rfl⟩
theorem D_X9_type_18 : Dec mi_X9_type 18 (.invokevirtual 91) 3 21 := ⟨by decide +kernel, rfl⟩
theorem D_X9_type_21 : DecJ mi_X9_type 21 (.ifCond .ne 6) (6) 24 27 := ⟨by decide +kernel, rfl, by decide⟩
theorem D_X9_type_24 : Dec mi_X9_type 24 (.bipush (-3)) 2 26 := ⟨by decide +kernel, rfl⟩
theorem D_X9_type_26 : Dec mi_X9_type 26 (.ireturn) 1 27 := ⟨by decide +kernel, rfl⟩
theorem D_X9_type_27 : Dec mi_X9_type 27 (.iload_n 3) 1 28 := ⟨by decide +kernel, rfl⟩
theorem D_X9_type_28 : Dec mi_X9_type 28 (.iconst 1) 1 29 := ⟨by decide +kernel, rfl⟩
theorem D_X9_type_29 : Dec mi_X9_type 29 (.isub) 1 30 := ⟨by decide +kernel, rfl⟩
theorem D_X9_type_30 : Dec mi_X9_type 30 (.istore 4) 2 32 := ⟨by decide +kernel, rfl⟩
theorem D_X9_type_32 : Dec mi_X9_type 32 (.iload 4) 2 34 := ⟨by decide +kernel, rfl⟩
theorem D_X9_type_34 : DecJ mi_X9_type 34 (.ifCond .lt 28) (28) 37 62 := ⟨by decide +kernel, rfl, by decide⟩
theorem D_X9_type_37 : Dec mi_X9_type 37 (.aload_n 0) 1 38 := ⟨by decide +kernel, rfl⟩
theorem D_X9_type_38 : Dec mi_X9_type 38 (.getfield 12) 3 41 := ⟨by decide +kernel, rfl⟩
theorem D_X9_type_41 : Dec mi_X9_type 41 (.lload_n 1) 1 42 := ⟨by decide +kernel, rfl⟩
theorem D_X9_type_42 : Dec mi_X9_type 42 (.bipush 8) 2 44 := ⟨by decide +kernel, rfl⟩
theorem D_X9_type_44 : Dec mi_X9_type 44 (.iload 4) 2 46 := ⟨by decide +kernel, rfl⟩
theorem D_X9_type_46 : Dec mi_X9_type 46 (.imul) 1 47 := ⟨by decide +kernel, rfl⟩
theorem D_X9_type_47 : Dec mi_X9_type 47 (.lshr) 1 48 := ⟨by decide +kernel, rfl⟩
theorem D_X9_type_48 : Dec mi_X9_type 48 (.l2i) 1 49 := ⟨by decide +kernel, rfl⟩
theorem D_X9_type_49 : Dec mi_X9_type 49 (.sipush 255) 3 52 := ⟨by decide +kernel, rfl⟩
theorem D_X9_type_52 : Dec mi_X9_type 52 (.iand) 1 53 := ⟨by decide +kernel, rfl⟩
theorem D_X9_type_53 : Dec mi_X9_type 53 (.invokevirtual 95) 3 56 := ⟨by decide +kernel, rfl⟩
theorem D_X9_type_56 : Dec mi_X9_type 56 (.iinc 4 (-1)) 3 59 := ⟨by decide +kernel, rfl⟩
theorem D_X9_type_59 : DecJ mi_X9_type 59 (.goto (-27)) (-27) 62 32 := ⟨by decide +kernel, rfl, by decide⟩
theorem D_X9_type_62 : Dec mi_X9_type 62 (.aload_n 0) 1 63 := ⟨by decide +kernel, rfl⟩
theorem D_X9_type_63 : Dec mi_X9_type 63 (.getfield 12) 3 66 := ⟨by decide +kernel, rfl⟩
theorem D_X9_type_66 : Dec mi_X9_type 66 (.invokevirtual 99) 3 69 := ⟨by decide +kernel, rfl⟩
theorem D_X9_type_69 : Dec mi_X9_type 69 (.ireturn) 1 70 := ⟨by decide +kernel, rfl⟩
def f_X9_type_32 (F : Nat) : Nat → Int64 → Int32 → Mem → Option (Int32 × Mem)
  | 0, _, _, _ => none
  | n + 1, y1, y4, N => if y4 < 0 then (some ((f_X7_length N), N)) else ((f_X7_add N ((y1 >>> (((8 : Int32) * y4).toInt64 &&& 63)).toInt32 &&& (255 : Int32))).bind fun p2 => f_X9_type_32 F n y1 (y4 + (-1 : Int32)) p2)
theorem x_X9_type_32 {l : Launch} {w : Wd} {κ : Kp} {F : Nat} {v : Int32 × Mem} (hq : RQ w (some (.int v.1), v.2) κ) : ∀ (n : Nat) (y1 : Int64) (y4 : Int32) (N : Mem), f_X9_type_32 F n y1 y4 N = some v → RR l w mi_X9_type (1) κ 32 [] [some (.ref (wq w 0)), some (.long y1), none, none, some (.int y4)] N
  | 0, _, _, _, h => nomatch h
  | n + 1, y1, y4, N, h => let_h (show (if y4 < 0 then (some ((f_X7_length N), N)) else ((f_X7_add N ((y1 >>> (((8 : Int32) * y4).toInt64 &&& 63)).toInt32 &&& (255 : Int32))).bind fun p2 => f_X9_type_32 F n y1 (y4 + (-1 : Int32)) p2)) = some v from h) fun h => r_iload D_X9_type_32 rfl <| r_if_lt D_X9_type_34 (fun c1 => let_h (ifT c1 h) fun h => r_aload_n D_X9_type_62 rfl <| r_getR (j := 1) D_X9_type_63 fl_X9_12 s_0 rfl <| r_callV (av := []) D_X9_type_66 ml_X9_99 mf_X7_length mv_X7_length s_1 rfl rfl (x_X7_length rfl) (Nat.le_of_ble_eq_true rfl) rfl rfl (Nat.le_of_ble_eq_true rfl) <| r_iret hq D_X9_type_69 rfl (rtW h)) (fun c1 => let_h (ifF c1 h) fun h => r_aload_n D_X9_type_37 rfl <| r_getR (j := 1) D_X9_type_38 fl_X9_12 s_0 rfl <| r_lload_n D_X9_type_41 rfl <| r_bipush D_X9_type_42 k8_8 <| r_iload D_X9_type_44 rfl <| r_imul D_X9_type_46 <| r_lshr D_X9_type_47 <| r_l2i D_X9_type_48 <| r_sipush D_X9_type_49 k16_255 <| r_iand D_X9_type_52 <| (bdE h).elim fun p2 q3 => let_h q3.2 fun h => r_callV (av := [.int ((y1 >>> (((8 : Int32) * y4).toInt64 &&& 63)).toInt32 &&& (255 : Int32))]) D_X9_type_53 ml_X9_95 mf_X7_add mv_X7_add s_1 rfl rfl (x_X7_add q3.1) (Nat.le_of_ble_eq_true rfl) rfl rfl (Nat.le_of_ble_eq_true rfl) <| r_iinc D_X9_type_56 rfl ki_m1 (by decide) rfl <| r_goto D_X9_type_59 <| r_ls (x_X9_type_32 hq n y1 (y4 + (-1 : Int32)) p2 h) ⟨rfl, ⟨rfl, ⟨rfl, trivial⟩⟩⟩)
def f_X9_type (F : Nat) (M : Mem) (a1 : Int64) (a2 : Int32) : Option (Int32 × Mem) := if a2 < (1 : Int32) then (some ((-1 : Int32), M)) else (if a2 ≤ (8 : Int32) then (if (f_X7_hasRoom M a2) = 0 then (some ((-3 : Int32), M)) else (f_X9_type_32 F F a1 (a2 - (1 : Int32)) M)) else (some ((-1 : Int32), M)))
theorem x_X9_type {l : Launch} {w : Wd} {F : Nat} {M : Mem} {a1 : Int64} {a2 : Int32} {v : Int32 × Mem} (h : f_X9_type F M a1 a2 = some v) : Cn l w mi_X9_type yX9_type (1) [.ref (wq w 0), .long a1, .int a2] M (some (.int v.1), v.2) :=
  Cn_of (loc0 := [some (.ref (wq w 0)), some (.long a1), none, some (.int a2), none]) rfl rfl rfl (Nat.le_of_ble_eq_true rfl) fun κ hq => let_h (show (if a2 < (1 : Int32) then (some ((-1 : Int32), M)) else (if a2 ≤ (8 : Int32) then (if (f_X7_hasRoom M a2) = 0 then (some ((-3 : Int32), M)) else (f_X9_type_32 F F a1 (a2 - (1 : Int32)) M)) else (some ((-1 : Int32), M)))) = some v from h) fun h => r_iload_n D_X9_type_0 rfl <| r_iconst D_X9_type_1 ki_1 <| r_icmp_lt D_X9_type_2 (fun c1 => let_h (ifT c1 h) fun h => r_iconst D_X9_type_11 ki_m1 <| r_iret hq D_X9_type_12 rfl (rtW h)) (fun c1 => let_h (ifF c1 h) fun h => r_iload_n D_X9_type_5 rfl <| r_bipush D_X9_type_6 k8_8 <| r_icmp_le D_X9_type_8 (fun c2 => let_h (ifT c2 h) fun h => r_aload_n D_X9_type_13 rfl <| r_getR (j := 1) D_X9_type_14 fl_X9_12 s_0 rfl <| r_iload_n D_X9_type_17 rfl <| r_callV (av := [.int a2]) D_X9_type_18 ml_X9_91 mf_X7_hasRoom mv_X7_hasRoom s_1 rfl rfl (x_X7_hasRoom rfl) (Nat.le_of_ble_eq_true rfl) rfl rfl (Nat.le_of_ble_eq_true rfl) <| r_if_ne D_X9_type_21 (fun c3 => let_h (ifT c3 h) fun h => r_bipush D_X9_type_24 k8_m3 <| r_iret hq D_X9_type_26 rfl (rtW h)) (fun c3 => let_h (ifF c3 h) fun h => r_iload_n D_X9_type_27 rfl <| r_iconst D_X9_type_28 ki_1 <| r_isub D_X9_type_29 <| r_istore D_X9_type_30 (by decide) rfl <| r_ls (x_X9_type_32 hq F a1 (a2 - (1 : Int32)) M h) ⟨rfl, ⟨rfl, ⟨rfl, trivial⟩⟩⟩)) (fun c2 => let_h (ifF c2 h) fun h => r_iconst D_X9_type_11 ki_m1 <| r_iret hq D_X9_type_12 rfl (rtW h)))
-- X9_clear
theorem D_X9_clear_0 : Dec mi_X9_clear 0 (.aload_n 0) 1 1 := ⟨by decide +kernel, rfl⟩
theorem D_X9_clear_1 : Dec mi_X9_clear 1 (.getfield 12) 3 4 := ⟨by decide +kernel, rfl⟩
theorem D_X9_clear_4 : Dec mi_X9_clear 4 (.invokevirtual 99) 3 7 := ⟨by decide +kernel, rfl⟩
theorem D_X9_clear_7 : Dec mi_X9_clear 7 (.istore_n 1) 1 8 := ⟨by decide +kernel, rfl⟩
theorem D_X9_clear_8 : Dec mi_X9_clear 8 (.aload_n 0) 1 9 := ⟨by decide +kernel, rfl⟩
theorem D_X9_clear_9 : Dec mi_X9_clear 9 (.getfield 12) 3 12 := ⟨by decide +kernel, rfl⟩
theorem D_X9_clear_12 : Dec mi_X9_clear 12 (.invokevirtual 103) 3 15 := ⟨by decide +kernel, rfl⟩
theorem D_X9_clear_15 : Dec mi_X9_clear 15 (.iload_n 1) 1 16 := ⟨by decide +kernel, rfl⟩
theorem D_X9_clear_16 : Dec mi_X9_clear 16 (.ireturn) 1 17 := ⟨by decide +kernel, rfl⟩
def f_X9_clear (M : Mem) : Option (Int32 × Mem) := (f_X7_empty M).bind fun p1 => some ((f_X7_length M), p1)
theorem x_X9_clear {l : Launch} {w : Wd} {M : Mem} {v : Int32 × Mem} (h : f_X9_clear M = some v) : Cn l w mi_X9_clear yX9_clear (1) [.ref (wq w 0)] M (some (.int v.1), v.2) :=
  Cn_of (loc0 := [some (.ref (wq w 0)), none]) rfl rfl rfl (Nat.le_of_ble_eq_true rfl) fun κ hq => let_h (show ((f_X7_empty M).bind fun p1 => some ((f_X7_length M), p1)) = some v from h) fun h => r_aload_n D_X9_clear_0 rfl <| r_getR (j := 1) D_X9_clear_1 fl_X9_12 s_0 rfl <| r_callV (av := []) D_X9_clear_4 ml_X9_99 mf_X7_length mv_X7_length s_1 rfl rfl (x_X7_length rfl) (Nat.le_of_ble_eq_true rfl) rfl rfl (Nat.le_of_ble_eq_true rfl) <| r_istore_n D_X9_clear_7 (by decide) rfl <| r_aload_n D_X9_clear_8 rfl <| r_getR (j := 1) D_X9_clear_9 fl_X9_12 s_0 rfl <| (bdE h).elim fun p1 q2 => let_h q2.2 fun h => r_callV (av := []) D_X9_clear_12 ml_X9_103 mf_X7_empty mv_X7_empty s_1 rfl rfl (x_X7_empty q2.1) (Nat.le_of_ble_eq_true rfl) rfl rfl (Nat.le_of_ble_eq_true rfl) <| r_iload_n D_X9_clear_15 rfl <| r_iret hq D_X9_clear_16 rfl (rtW h)
-- X9_journey
theorem D_X9_journey_0 : Dec mi_X9_journey 0 (.aload_n 0) 1 1 := ⟨by decide +kernel, rfl⟩
theorem D_X9_journey_1 : Dec mi_X9_journey 1 (.getfield 31) 3 4 := ⟨by decide +kernel, rfl⟩
theorem D_X9_journey_4 : Dec mi_X9_journey 4 (.invokevirtual 106) 3 7 := ⟨by decide +kernel, rfl⟩
theorem D_X9_journey_7 : Dec mi_X9_journey 7 (.istore_n 1) 1 8 := ⟨by decide +kernel, rfl⟩
theorem D_X9_journey_8 : Dec mi_X9_journey 8 (.iload_n 1) 1 9 := ⟨by decide +kernel, rfl⟩
theorem D_X9_journey_9 : DecJ mi_X9_journey 9 (.ifCond .ge 5) (5) 12 14 := ⟨by decide +kernel, rfl, by decide⟩
theorem D_X9_journey_12 : Dec mi_X9_journey 12 (.iload_n 1) 1 13 := ⟨by decide +kernel, rfl⟩
theorem D_X9_journey_13 : Dec mi_X9_journey 13 (.ireturn) 1 14 := ⟨by decide +kernel, rfl⟩
theorem D_X9_journey_14 : Dec mi_X9_journey 14 (.aload_n 0) 1 15 := ⟨by decide +kernel, rfl⟩
theorem D_X9_journey_15 : Dec mi_X9_journey 15 (.getfield 19) 3 18 := ⟨by decide +kernel, rfl⟩
theorem D_X9_journey_18 : Dec mi_X9_journey 18 (.aload_n 0) 1 19 := ⟨by decide +kernel, rfl⟩
theorem D_X9_journey_19 : Dec mi_X9_journey 19 (.getfield 23) 3 22 := ⟨by decide +kernel, rfl⟩
theorem D_X9_journey_22 : Dec mi_X9_journey 22 (.invokevirtual 109) 3 25 := ⟨by decide +kernel, rfl⟩
theorem D_X9_journey_25 : Dec mi_X9_journey 25 (.aload_n 0) 1 26 := ⟨by decide +kernel, rfl⟩
theorem D_X9_journey_26 : Dec mi_X9_journey 26 (.getfield 12) 3 29 := ⟨by decide +kernel, rfl⟩
theorem D_X9_journey_29 : Dec mi_X9_journey 29 (.invokevirtual 103) 3 32 := ⟨by decide +kernel, rfl⟩
theorem D_X9_journey_32 : Dec mi_X9_journey 32 (.aload_n 0) 1 33 := ⟨by decide +kernel, rfl⟩
theorem D_X9_journey_33 : Dec mi_X9_journey 33 (.getfield 38) 3 36 := ⟨by decide +kernel, rfl⟩
theorem D_X9_journey_36 : Dec mi_X9_journey 36 (.aload_n 0) 1 37 := ⟨by decide +kernel, rfl⟩
theorem D_X9_journey_37 : Dec mi_X9_journey 37 (.getfield 19) 3 40 := ⟨by decide +kernel, rfl⟩
theorem D_X9_journey_40 : Dec mi_X9_journey 40 (.invokevirtual 112) 3 43 := ⟨by decide +kernel, rfl⟩
theorem D_X9_journey_43 : Dec mi_X9_journey 43 (.invokevirtual 115) 3 46 := ⟨by decide +kernel, rfl⟩
theorem D_X9_journey_46 : Dec mi_X9_journey 46 (.aload_n 0) 1 47 := ⟨by decide +kernel, rfl⟩
theorem D_X9_journey_47 : Dec mi_X9_journey 47 (.getfield 42) 3 50 := ⟨by decide +kernel, rfl⟩
theorem D_X9_journey_50 : Dec mi_X9_journey 50 (.invokevirtual 118) 3 53 := ⟨by decide +kernel, rfl⟩
theorem D_X9_journey_53 : Dec mi_X9_journey 53 (.aload_n 0) 1 54 := ⟨by decide +kernel, rfl⟩
theorem D_X9_journey_54 : Dec mi_X9_journey 54 (.getfield 45) 3 57 := ⟨by decide +kernel, rfl⟩
theorem D_X9_journey_57 : Dec mi_X9_journey 57 (.invokevirtual 118) 3 60 := ⟨by decide +kernel, rfl⟩
theorem D_X9_journey_60 : Dec mi_X9_journey 60 (.aload_n 0) 1 61 := ⟨by decide +kernel, rfl⟩
theorem D_X9_journey_61 : Dec mi_X9_journey 61 (.getfield 62) 3 64 := ⟨by decide +kernel, rfl⟩
theorem D_X9_journey_64 : Dec mi_X9_journey 64 (.invokevirtual 121) 3 67 := ⟨by decide +kernel, rfl⟩
theorem D_X9_journey_67 : Dec mi_X9_journey 67 (.iload_n 1) 1 68 := ⟨by decide +kernel, rfl⟩
theorem D_X9_journey_68 : Dec mi_X9_journey 68 (.ireturn) 1 69 := ⟨by decide +kernel, rfl⟩
def f_X9_journey (F : Nat) (M : Mem) : Option (Int32 × Mem) := (f_X6_read F M).bind fun p1 => if 0 ≤ p1.1 then ((f_X8_copy p1.2 3 7).bind fun p4 => (f_X7_empty p4).bind fun p6 => (f_X2_start p6 14 (f_X8_allThings p6 3)).bind fun p8 => (f_X2_forget p8 15).bind fun p10 => (f_X2_forget p10 16).bind fun p12 => (f_X0_forget F p12).bind fun p14 => some (p1.1, p14)) else (some (p1.1, p1.2))
theorem x_X9_journey {l : Launch} {w : Wd} {F : Nat} {M : Mem} {v : Int32 × Mem} (h : f_X9_journey F M = some v) : Cn l w mi_X9_journey yX9_journey (10) [.ref (wq w 0)] M (some (.int v.1), v.2) :=
  Cn_of (loc0 := [some (.ref (wq w 0)), none]) rfl rfl rfl (Nat.le_of_ble_eq_true rfl) fun κ hq => let_h (show ((f_X6_read F M).bind fun p1 => if 0 ≤ p1.1 then ((f_X8_copy p1.2 3 7).bind fun p4 => (f_X7_empty p4).bind fun p6 => (f_X2_start p6 14 (f_X8_allThings p6 3)).bind fun p8 => (f_X2_forget p8 15).bind fun p10 => (f_X2_forget p10 16).bind fun p12 => (f_X0_forget F p12).bind fun p14 => some (p1.1, p14)) else (some (p1.1, p1.2))) = some v from h) fun h => r_aload_n D_X9_journey_0 rfl <| r_getR (j := 11) D_X9_journey_1 fl_X9_31 s_0 rfl <| (bdE h).elim fun p1 q2 => let_h q2.2 fun h => r_callV (av := []) D_X9_journey_4 ml_X9_106 mf_X6_read mv_X6_read s_11 rfl rfl (x_X6_read q2.1) (Nat.le_of_ble_eq_true rfl) rfl rfl (Nat.le_of_ble_eq_true rfl) <| r_istore_n D_X9_journey_7 (by decide) rfl <| r_iload_n D_X9_journey_8 rfl <| r_if_ge D_X9_journey_9 (fun c3 => let_h (ifT c3 h) fun h => r_aload_n D_X9_journey_14 rfl <| r_getR (j := 3) D_X9_journey_15 fl_X9_19 s_0 rfl <| r_aload_n D_X9_journey_18 rfl <| r_getR (j := 7) D_X9_journey_19 fl_X9_23 s_0 rfl <| (bdE h).elim fun p4 q5 => let_h q5.2 fun h => r_callV (av := [.ref (wq w 7)]) D_X9_journey_22 ml_X9_109 mf_X8_copy mv_X8_copy s_3 rfl rfl (x_X8_copy trip_3 trip_7 q5.1) (Nat.le_of_ble_eq_true rfl) rfl rfl (Nat.le_of_ble_eq_true rfl) <| r_aload_n D_X9_journey_25 rfl <| r_getR (j := 1) D_X9_journey_26 fl_X9_12 s_0 rfl <| (bdE h).elim fun p6 q7 => let_h q7.2 fun h => r_callV (av := []) D_X9_journey_29 ml_X9_103 mf_X7_empty mv_X7_empty s_1 rfl rfl (x_X7_empty q7.1) (Nat.le_of_ble_eq_true rfl) rfl rfl (Nat.le_of_ble_eq_true rfl) <| r_aload_n D_X9_journey_32 rfl <| r_getR (j := 14) D_X9_journey_33 fl_X9_38 s_0 rfl <| r_aload_n D_X9_journey_36 rfl <| r_getR (j := 3) D_X9_journey_37 fl_X9_19 s_0 rfl <| r_callV (av := []) D_X9_journey_40 ml_X9_112 mf_X8_allThings mv_X8_allThings s_3 rfl rfl (x_X8_allThings trip_3 rfl) (Nat.le_of_ble_eq_true rfl) rfl rfl (Nat.le_of_ble_eq_true rfl) <| (bdE h).elim fun p8 q9 => let_h q9.2 fun h => r_callV (av := [.int (f_X8_allThings p6 3)]) D_X9_journey_43 ml_X9_115 mf_X2_start mv_X2_start s_14 rfl rfl (x_X2_start life_14 q9.1) (Nat.le_of_ble_eq_true rfl) rfl rfl (Nat.le_of_ble_eq_true rfl) <| r_aload_n D_X9_journey_46 rfl <| r_getR (j := 15) D_X9_journey_47 fl_X9_42 s_0 rfl <| (bdE h).elim fun p10 q11 => let_h q11.2 fun h => r_callV (av := []) D_X9_journey_50 ml_X9_118 mf_X2_forget mv_X2_forget s_15 rfl rfl (x_X2_forget life_15 q11.1) (Nat.le_of_ble_eq_true rfl) rfl rfl (Nat.le_of_ble_eq_true rfl) <| r_aload_n D_X9_journey_53 rfl <| r_getR (j := 16) D_X9_journey_54 fl_X9_45 s_0 rfl <| (bdE h).elim fun p12 q13 => let_h q13.2 fun h => r_callV (av := []) D_X9_journey_57 ml_X9_118 mf_X2_forget mv_X2_forget s_16 rfl rfl (x_X2_forget life_16 q13.1) (Nat.le_of_ble_eq_true rfl) rfl rfl (Nat.le_of_ble_eq_true rfl) <| r_aload_n D_X9_journey_60 rfl <| r_getR (j := 25) D_X9_journey_61 fl_X9_62 s_0 rfl <| (bdE h).elim fun p14 q15 => let_h q15.2 fun h => r_callV (av := []) D_X9_journey_64 ml_X9_121 mf_X0_forget mv_X0_forget s_25 rfl rfl (x_X0_forget q15.1) (Nat.le_of_ble_eq_true rfl) rfl rfl (Nat.le_of_ble_eq_true rfl) <| r_iload_n D_X9_journey_67 rfl <| r_iret hq D_X9_journey_68 rfl (rtW h)) (fun c3 => let_h (ifF c3 h) fun h => r_iload_n D_X9_journey_12 rfl <| r_iret hq D_X9_journey_13 rfl (rtW h))
-- X9_thing
theorem D_X9_thing_0 : Dec mi_X9_thing 0 (.aload_n 0) 1 1 := ⟨by decide +kernel, rfl⟩
theorem D_X9_thing_1 : Dec mi_X9_thing 1 (.getfield 19) 3 4 := ⟨by decide +kernel, rfl⟩
theorem D_X9_thing_4 : Dec mi_X9_thing 4 (.iload_n 1) 1 5 := ⟨by decide +kernel, rfl⟩
theorem D_X9_thing_5 : Dec mi_X9_thing 5 (.invokevirtual 122) 3 8 := ⟨by decide +kernel, rfl⟩
theorem D_X9_thing_8 : DecJ mi_X9_thing 8 (.ifCond .eq 13) (13) 11 21 := ⟨by decide +kernel, rfl, by decide⟩
theorem D_X9_thing_11 : Dec mi_X9_thing 11 (.iload_n 2) 1 12 := ⟨by decide +kernel, rfl⟩
theorem D_X9_thing_12 : DecJ mi_X9_thing 12 (.ifCond .lt 9) (9) 15 21 := ⟨by decide +kernel, rfl, by decide⟩
theorem D_X9_thing_15 : Dec mi_X9_thing 15 (.iload_n 2) 1 16 := ⟨by decide +kernel, rfl⟩
theorem D_X9_thing_16 : Dec mi_X9_thing 16 (.bipush 8) 2 18 := ⟨by decide +kernel, rfl⟩
theorem D_X9_thing_18 : DecJ mi_X9_thing 18 (.if_icmp .le 5) (5) 21 23 := ⟨by decide +kernel, rfl, by decide⟩
theorem D_X9_thing_21 : Dec mi_X9_thing 21 (.iconst (-1)) 1 22 := ⟨by decide +kernel, rfl⟩
theorem D_X9_thing_22 : Dec mi_X9_thing 22 (.ireturn) 1 23 := ⟨by decide +kernel, rfl⟩
theorem D_X9_thing_23 : Dec mi_X9_thing 23 (.iload_n 2) 1 24 := ⟨by decide +kernel, rfl⟩
theorem D_X9_thing_24 : Dec mi_X9_thing 24 (.bipush 8) 2 26 := ⟨by decide +kernel, rfl⟩
theorem D_X9_thing_26 : DecJ mi_X9_thing 26 (.if_icmp .ne 17) (17) 29 43 := ⟨by decide +kernel, rfl, by decide⟩
theorem D_X9_thing_29 : Dec mi_X9_thing 29 (.aload_n 0) 1 30 := ⟨by decide +kernel, rfl⟩
theorem D_X9_thing_30 : Dec mi_X9_thing 30 (.getfield 38) 3 33 := ⟨by decide +kernel, rfl⟩
theorem D_X9_thing_33 : Dec mi_X9_thing 33 (.invokevirtual 125) 3 36 := ⟨by decide +kernel, rfl⟩
theorem D_X9_thing_36 : Dec mi_X9_thing 36 (.iload_n 1) 1 37 := ⟨by decide +kernel, rfl⟩
theorem D_X9_thing_37 : Dec mi_X9_thing 37 (.invokestatic 128) 3 40 := ⟨by decide +kernel, rfl⟩
theorem D_X9_thing_40 : DecJ mi_X9_thing 40 (.goto 12) (12) 43 52 := ⟨by decide +kernel, rfl, by decide⟩
theorem D_X9_thing_43 : Dec mi_X9_thing 43 (.aload_n 0) 1 44 := ⟨by decide +kernel, rfl⟩
theorem D_X9_thing_44 : Dec mi_X9_thing 44 (.getfield 19) 3 47 := ⟨by decide +kernel, rfl⟩
theorem D_X9_thing_47 : Dec mi_X9_thing 47 (.iload_n 1) 1 48 := ⟨by decide +kernel, rfl⟩
theorem D_X9_thing_48 : Dec mi_X9_thing 48 (.iload_n 2) 1 49 := ⟨by decide +kernel, rfl⟩
theorem D_X9_thing_49 : Dec mi_X9_thing 49 (.invokevirtual 132) 3 52 := ⟨by decide +kernel, rfl⟩
theorem D_X9_thing_52 : Dec mi_X9_thing 52 (.ireturn) 1 53 := ⟨by decide +kernel, rfl⟩
def f_X9_thing (M : Mem) (a1 : Int32) (a2 : Int32) : Option Int32 := if (f_X8_hasThing M 3 a1) = 0 then (some (-1 : Int32)) else (if a2 < 0 then (some (-1 : Int32)) else (if a2 ≤ (8 : Int32) then (if a2 = (8 : Int32) then (some (f_X9_stateOf M (f_X2_how M 14) a1)) else ((f_X8_fact M 3 a1 a2).bind fun x5 => some x5)) else (some (-1 : Int32))))
theorem x_X9_thing {l : Launch} {w : Wd} {M : Mem} {a1 : Int32} {a2 : Int32} {v : Int32} (h : f_X9_thing M a1 a2 = some v) : Cn l w mi_X9_thing yX9_thing (2) [.ref (wq w 0), .int a1, .int a2] M (some (.int v), M) :=
  Cn_of (loc0 := [some (.ref (wq w 0)), some (.int a1), some (.int a2)]) rfl rfl rfl (Nat.le_of_ble_eq_true rfl) fun κ hq => let_h (show (if (f_X8_hasThing M 3 a1) = 0 then (some (-1 : Int32)) else (if a2 < 0 then (some (-1 : Int32)) else (if a2 ≤ (8 : Int32) then (if a2 = (8 : Int32) then (some (f_X9_stateOf M (f_X2_how M 14) a1)) else ((f_X8_fact M 3 a1 a2).bind fun x5 => some x5)) else (some (-1 : Int32))))) = some v from h) fun h => r_aload_n D_X9_thing_0 rfl <| r_getR (j := 3) D_X9_thing_1 fl_X9_19 s_0 rfl <| r_iload_n D_X9_thing_4 rfl <| r_callV (av := [.int a1]) D_X9_thing_5 ml_X9_122 mf_X8_hasThing mv_X8_hasThing s_3 rfl rfl (x_X8_hasThing trip_3 rfl) (Nat.le_of_ble_eq_true rfl) rfl rfl (Nat.le_of_ble_eq_true rfl) <| r_if_eq D_X9_thing_8 (fun c1 => let_h (ifT c1 h) fun h => r_iconst D_X9_thing_21 ki_m1 <| r_iret hq D_X9_thing_22 rfl (rtP h)) (fun c1 => let_h (ifF c1 h) fun h => r_iload_n D_X9_thing_11 rfl <| r_if_lt D_X9_thing_12 (fun c2 => let_h (ifT c2 h) fun h => r_iconst D_X9_thing_21 ki_m1 <| r_iret hq D_X9_thing_22 rfl (rtP h)) (fun c2 => let_h (ifF c2 h) fun h => r_iload_n D_X9_thing_15 rfl <| r_bipush D_X9_thing_16 k8_8 <| r_icmp_le D_X9_thing_18 (fun c3 => let_h (ifT c3 h) fun h => r_iload_n D_X9_thing_23 rfl <| r_bipush D_X9_thing_24 k8_8 <| r_icmp_ne D_X9_thing_26 (fun c4 => let_h (ifT c4 h) fun h => r_aload_n D_X9_thing_29 rfl <| r_getR (j := 14) D_X9_thing_30 fl_X9_38 s_0 rfl <| r_callV (av := []) D_X9_thing_33 ml_X9_125 mf_X2_how mv_X2_how s_14 rfl rfl (x_X2_how life_14 rfl) (Nat.le_of_ble_eq_true rfl) rfl rfl (Nat.le_of_ble_eq_true rfl) <| r_iload_n D_X9_thing_36 rfl <| r_callS (av := [.int (f_X2_how M 14), .int a1]) D_X9_thing_37 ml_X9_128 mf_X9_stateOf ms_X9_stateOf (x_X9_stateOf rfl) (Nat.le_of_ble_eq_true rfl) rfl rfl (Nat.le_of_ble_eq_true rfl) <| r_goto D_X9_thing_40 <| r_iret hq D_X9_thing_52 rfl (rtP h)) (fun c4 => let_h (ifF c4 h) fun h => r_aload_n D_X9_thing_43 rfl <| r_getR (j := 3) D_X9_thing_44 fl_X9_19 s_0 rfl <| r_iload_n D_X9_thing_47 rfl <| r_iload_n D_X9_thing_48 rfl <| (bdE h).elim fun x5 q6 => let_h q6.2 fun h => r_callV (av := [.int a1, .int a2]) D_X9_thing_49 ml_X9_132 mf_X8_fact mv_X8_fact s_3 rfl rfl (x_X8_fact trip_3 q6.1) (Nat.le_of_ble_eq_true rfl) rfl rfl (Nat.le_of_ble_eq_true rfl) <| r_iret hq D_X9_thing_52 rfl (rtP h))) (fun c3 => let_h (ifF c3 h) fun h => r_iconst D_X9_thing_21 ki_m1 <| r_iret hq D_X9_thing_22 rfl (rtP h))))
-- X9_goes
theorem D_X9_goes_0 : Dec mi_X9_goes 0 (.aload_n 0) 1 1 := ⟨by decide +kernel, rfl⟩
theorem D_X9_goes_1 : Dec mi_X9_goes 1 (.getfield 19) 3 4 := ⟨by decide +kernel, rfl⟩
theorem D_X9_goes_4 : Dec mi_X9_goes 4 (.iload_n 1) 1 5 := ⟨by decide +kernel, rfl⟩
theorem D_X9_goes_5 : Dec mi_X9_goes 5 (.invokevirtual 122) 3 8 := ⟨by decide +kernel, rfl⟩
theorem D_X9_goes_8 : DecJ mi_X9_goes 8 (.ifCond .eq 19) (19) 11 27 := ⟨by decide +kernel, rfl, by decide⟩
theorem D_X9_goes_11 : Dec mi_X9_goes 11 (.aload_n 0) 1 12 := ⟨by decide +kernel, rfl⟩
theorem D_X9_goes_12 : Dec mi_X9_goes 12 (.getfield 19) 3 15 := ⟨by decide +kernel, rfl⟩
theorem D_X9_goes_15 : Dec mi_X9_goes 15 (.iload_n 2) 1 16 := ⟨by decide +kernel, rfl⟩
theorem D_X9_goes_16 : Dec mi_X9_goes 16 (.invokevirtual 122) 3 19 := ⟨by decide +kernel, rfl⟩
theorem D_X9_goes_19 : DecJ mi_X9_goes 19 (.ifCond .eq 8) (8) 22 27 := ⟨by decide +kernel, rfl, by decide⟩
theorem D_X9_goes_22 : Dec mi_X9_goes 22 (.iload_n 1) 1 23 := ⟨by decide +kernel, rfl⟩
theorem D_X9_goes_23 : Dec mi_X9_goes 23 (.iload_n 2) 1 24 := ⟨by decide +kernel, rfl⟩
theorem D_X9_goes_24 : DecJ mi_X9_goes 24 (.if_icmp .ne 5) (5) 27 29 := ⟨by decide +kernel, rfl, by decide⟩
theorem D_X9_goes_27 : Dec mi_X9_goes 27 (.iconst (-1)) 1 28 := ⟨by decide +kernel, rfl⟩
theorem D_X9_goes_28 : Dec mi_X9_goes 28 (.ireturn) 1 29 := ⟨by decide +kernel, rfl⟩
theorem D_X9_goes_29 : Dec mi_X9_goes 29 (.aload_n 0) 1 30 := ⟨by decide +kernel, rfl⟩
theorem D_X9_goes_30 : Dec mi_X9_goes 30 (.getfield 19) 3 33 := ⟨by decide +kernel, rfl⟩
theorem D_X9_goes_33 : Dec mi_X9_goes 33 (.iload_n 1) 1 34 := ⟨by decide +kernel, rfl⟩
theorem D_X9_goes_34 : Dec mi_X9_goes 34 (.iload_n 2) 1 35 := ⟨by decide +kernel, rfl⟩
theorem D_X9_goes_35 : Dec mi_X9_goes 35 (.invokevirtual 135) 3 38 := ⟨by decide +kernel, rfl⟩
theorem D_X9_goes_38 : DecJ mi_X9_goes 38 (.ifCond .eq 7) (7) 41 45 := ⟨by decide +kernel, rfl, by decide⟩
theorem D_X9_goes_41 : Dec mi_X9_goes 41 (.iconst 1) 1 42 := ⟨by decide +kernel, rfl⟩
theorem D_X9_goes_42 : DecJ mi_X9_goes 42 (.goto 4) (4) 45 46 := ⟨by decide +kernel, rfl, by decide⟩
theorem D_X9_goes_45 : Dec mi_X9_goes 45 (.iconst 0) 1 46 := ⟨by decide +kernel, rfl⟩
theorem D_X9_goes_46 : Dec mi_X9_goes 46 (.ireturn) 1 47 := ⟨by decide +kernel, rfl⟩
def f_X9_goes (M : Mem) (a1 : Int32) (a2 : Int32) : Option Int32 := if (f_X8_hasThing M 3 a1) = 0 then (some (-1 : Int32)) else (if (f_X8_hasThing M 3 a2) = 0 then (some (-1 : Int32)) else (if a1 = a2 then (some (-1 : Int32)) else ((f_X8_together M 3 a1 a2).bind fun x4 => if x4 = 0 then (some (0 : Int32)) else (some (1 : Int32)))))
theorem x_X9_goes {l : Launch} {w : Wd} {M : Mem} {a1 : Int32} {a2 : Int32} {v : Int32} (h : f_X9_goes M a1 a2 = some v) : Cn l w mi_X9_goes yX9_goes (2) [.ref (wq w 0), .int a1, .int a2] M (some (.int v), M) :=
  Cn_of (loc0 := [some (.ref (wq w 0)), some (.int a1), some (.int a2)]) rfl rfl rfl (Nat.le_of_ble_eq_true rfl) fun κ hq => let_h (show (if (f_X8_hasThing M 3 a1) = 0 then (some (-1 : Int32)) else (if (f_X8_hasThing M 3 a2) = 0 then (some (-1 : Int32)) else (if a1 = a2 then (some (-1 : Int32)) else ((f_X8_together M 3 a1 a2).bind fun x4 => if x4 = 0 then (some (0 : Int32)) else (some (1 : Int32)))))) = some v from h) fun h => r_aload_n D_X9_goes_0 rfl <| r_getR (j := 3) D_X9_goes_1 fl_X9_19 s_0 rfl <| r_iload_n D_X9_goes_4 rfl <| r_callV (av := [.int a1]) D_X9_goes_5 ml_X9_122 mf_X8_hasThing mv_X8_hasThing s_3 rfl rfl (x_X8_hasThing trip_3 rfl) (Nat.le_of_ble_eq_true rfl) rfl rfl (Nat.le_of_ble_eq_true rfl) <| r_if_eq D_X9_goes_8 (fun c1 => let_h (ifT c1 h) fun h => r_iconst D_X9_goes_27 ki_m1 <| r_iret hq D_X9_goes_28 rfl (rtP h)) (fun c1 => let_h (ifF c1 h) fun h => r_aload_n D_X9_goes_11 rfl <| r_getR (j := 3) D_X9_goes_12 fl_X9_19 s_0 rfl <| r_iload_n D_X9_goes_15 rfl <| r_callV (av := [.int a2]) D_X9_goes_16 ml_X9_122 mf_X8_hasThing mv_X8_hasThing s_3 rfl rfl (x_X8_hasThing trip_3 rfl) (Nat.le_of_ble_eq_true rfl) rfl rfl (Nat.le_of_ble_eq_true rfl) <| r_if_eq D_X9_goes_19 (fun c2 => let_h (ifT c2 h) fun h => r_iconst D_X9_goes_27 ki_m1 <| r_iret hq D_X9_goes_28 rfl (rtP h)) (fun c2 => let_h (ifF c2 h) fun h => r_iload_n D_X9_goes_22 rfl <| r_iload_n D_X9_goes_23 rfl <| r_icmp_ne D_X9_goes_24 (fun c3 => let_h (ifT c3 h) fun h => r_iconst D_X9_goes_27 ki_m1 <| r_iret hq D_X9_goes_28 rfl (rtP h)) (fun c3 => let_h (ifF c3 h) fun h => r_aload_n D_X9_goes_29 rfl <| r_getR (j := 3) D_X9_goes_30 fl_X9_19 s_0 rfl <| r_iload_n D_X9_goes_33 rfl <| r_iload_n D_X9_goes_34 rfl <| (bdE h).elim fun x4 q5 => let_h q5.2 fun h => r_callV (av := [.int a1, .int a2]) D_X9_goes_35 ml_X9_135 mf_X8_together mv_X8_together s_3 rfl rfl (x_X8_together trip_3 q5.1) (Nat.le_of_ble_eq_true rfl) rfl rfl (Nat.le_of_ble_eq_true rfl) <| r_if_eq D_X9_goes_38 (fun c6 => let_h (ifT c6 h) fun h => r_iconst D_X9_goes_45 ki_0 <| r_iret hq D_X9_goes_46 rfl (rtP h)) (fun c6 => let_h (ifF c6 h) fun h => r_iconst D_X9_goes_41 ki_1 <| r_goto D_X9_goes_42 <| r_iret hq D_X9_goes_46 rfl (rtP h)))))
-- X9_day
theorem D_X9_day_0 : Dec mi_X9_day 0 (.aload_n 0) 1 1 := ⟨by decide +kernel, rfl⟩
theorem D_X9_day_1 : Dec mi_X9_day 1 (.getfield 19) 3 4 := ⟨by decide +kernel, rfl⟩
theorem D_X9_day_4 : Dec mi_X9_day 4 (.iload_n 1) 1 5 := ⟨by decide +kernel, rfl⟩
theorem D_X9_day_5 : Dec mi_X9_day 5 (.invokevirtual 139) 3 8 := ⟨by decide +kernel, rfl⟩
theorem D_X9_day_8 : DecJ mi_X9_day 8 (.ifCond .eq 24) (24) 11 32 := ⟨by decide +kernel, rfl, by decide⟩
theorem D_X9_day_11 : Dec mi_X9_day 11 (.iload_n 2) 1 12 := ⟨by decide +kernel, rfl⟩
theorem D_X9_day_12 : DecJ mi_X9_day 12 (.ifCond .lt 20) (20) 15 32 := ⟨by decide +kernel, rfl, by decide⟩
theorem D_X9_day_15 : Dec mi_X9_day 15 (.iload_n 2) 1 16 := ⟨by decide +kernel, rfl⟩
theorem D_X9_day_16 : Dec mi_X9_day 16 (.iconst 4) 1 17 := ⟨by decide +kernel, rfl⟩
theorem D_X9_day_17 : DecJ mi_X9_day 17 (.if_icmp .ge 15) (15) 20 32 := ⟨by decide +kernel, rfl, by decide⟩
theorem D_X9_day_20 : Dec mi_X9_day 20 (.aload_n 0) 1 21 := ⟨by decide +kernel, rfl⟩
theorem D_X9_day_21 : Dec mi_X9_day 21 (.getfield 19) 3 24 := ⟨by decide +kernel, rfl⟩
theorem D_X9_day_24 : Dec mi_X9_day 24 (.iload_n 1) 1 25 := ⟨by decide +kernel, rfl⟩
theorem D_X9_day_25 : Dec mi_X9_day 25 (.iload_n 2) 1 26 := ⟨by decide +kernel, rfl⟩
theorem D_X9_day_26 : Dec mi_X9_day 26 (.invokevirtual 142) 3 29 := ⟨by decide +kernel, rfl⟩
theorem D_X9_day_29 : DecJ mi_X9_day 29 (.goto 4) (4) 32 33 := ⟨by decide +kernel, rfl, by decide⟩
theorem D_X9_day_32 : Dec mi_X9_day 32 (.iconst (-1)) 1 33 := ⟨by decide +kernel, rfl⟩
theorem D_X9_day_33 : Dec mi_X9_day 33 (.ireturn) 1 34 := ⟨by decide +kernel, rfl⟩
def f_X9_day (M : Mem) (a1 : Int32) (a2 : Int32) : Option Int32 := if (f_X8_hasDay M 3 a1) = 0 then (some (-1 : Int32)) else (if a2 < 0 then (some (-1 : Int32)) else (if (4 : Int32) ≤ a2 then (some (-1 : Int32)) else ((f_X8_want M 3 a1 a2).bind fun x4 => some x4)))
theorem x_X9_day {l : Launch} {w : Wd} {M : Mem} {a1 : Int32} {a2 : Int32} {v : Int32} (h : f_X9_day M a1 a2 = some v) : Cn l w mi_X9_day yX9_day (2) [.ref (wq w 0), .int a1, .int a2] M (some (.int v), M) :=
  Cn_of (loc0 := [some (.ref (wq w 0)), some (.int a1), some (.int a2)]) rfl rfl rfl (Nat.le_of_ble_eq_true rfl) fun κ hq => let_h (show (if (f_X8_hasDay M 3 a1) = 0 then (some (-1 : Int32)) else (if a2 < 0 then (some (-1 : Int32)) else (if (4 : Int32) ≤ a2 then (some (-1 : Int32)) else ((f_X8_want M 3 a1 a2).bind fun x4 => some x4)))) = some v from h) fun h => r_aload_n D_X9_day_0 rfl <| r_getR (j := 3) D_X9_day_1 fl_X9_19 s_0 rfl <| r_iload_n D_X9_day_4 rfl <| r_callV (av := [.int a1]) D_X9_day_5 ml_X9_139 mf_X8_hasDay mv_X8_hasDay s_3 rfl rfl (x_X8_hasDay trip_3 rfl) (Nat.le_of_ble_eq_true rfl) rfl rfl (Nat.le_of_ble_eq_true rfl) <| r_if_eq D_X9_day_8 (fun c1 => let_h (ifT c1 h) fun h => r_iconst D_X9_day_32 ki_m1 <| r_iret hq D_X9_day_33 rfl (rtP h)) (fun c1 => let_h (ifF c1 h) fun h => r_iload_n D_X9_day_11 rfl <| r_if_lt D_X9_day_12 (fun c2 => let_h (ifT c2 h) fun h => r_iconst D_X9_day_32 ki_m1 <| r_iret hq D_X9_day_33 rfl (rtP h)) (fun c2 => let_h (ifF c2 h) fun h => r_iload_n D_X9_day_15 rfl <| r_iconst D_X9_day_16 ki_4 <| r_icmp_ge D_X9_day_17 (fun c3 => let_h (ifT c3 h) fun h => r_iconst D_X9_day_32 ki_m1 <| r_iret hq D_X9_day_33 rfl (rtP h)) (fun c3 => let_h (ifF c3 h) fun h => r_aload_n D_X9_day_20 rfl <| r_getR (j := 3) D_X9_day_21 fl_X9_19 s_0 rfl <| r_iload_n D_X9_day_24 rfl <| r_iload_n D_X9_day_25 rfl <| (bdE h).elim fun x4 q5 => let_h q5.2 fun h => r_callV (av := [.int a1, .int a2]) D_X9_day_26 ml_X9_142 mf_X8_want mv_X8_want s_3 rfl rfl (x_X8_want trip_3 q5.1) (Nat.le_of_ble_eq_true rfl) rfl rfl (Nat.le_of_ble_eq_true rfl) <| r_goto D_X9_day_29 <| r_iret hq D_X9_day_33 rfl (rtP h))))
-- X9_tune
theorem D_X9_tune_0 : Dec mi_X9_tune 0 (.iload_n 1) 1 1 := ⟨by decide +kernel, rfl⟩
theorem D_X9_tune_1 : DecJ mi_X9_tune 1 (.ifCond .lt 26) (26) 4 27 := ⟨by decide +kernel, rfl, by decide⟩
theorem D_X9_tune_4 : Dec mi_X9_tune 4 (.iload_n 1) 1 5 := ⟨by decide +kernel, rfl⟩
theorem D_X9_tune_5 : Dec mi_X9_tune 5 (.iconst 3) 1 6 := ⟨by decide +kernel, rfl⟩
theorem D_X9_tune_6 : DecJ mi_X9_tune 6 (.if_icmp .ge 21) (21) 9 27 := ⟨by decide +kernel, rfl, by decide⟩
theorem D_X9_tune_9 : Dec mi_X9_tune 9 (.iload_n 2) 1 10 := ⟨by decide +kernel, rfl⟩
theorem D_X9_tune_10 : Dec mi_X9_tune 10 (.getstatic 145) 3 13 := ⟨by decide +kernel, rfl⟩
theorem D_X9_tune_13 : Dec mi_X9_tune 13 (.iload_n 1) 1 14 := ⟨by decide +kernel, rfl⟩
theorem D_X9_tune_14 : Dec mi_X9_tune 14 (.iaload) 1 15 := ⟨by decide +kernel, rfl⟩
theorem D_X9_tune_15 : DecJ mi_X9_tune 15 (.if_icmp .lt 12) (12) 18 27 := ⟨by decide +kernel, rfl, by decide⟩
theorem D_X9_tune_18 : Dec mi_X9_tune 18 (.iload_n 2) 1 19 := ⟨by decide +kernel, rfl⟩
theorem D_X9_tune_19 : Dec mi_X9_tune 19 (.getstatic 148) 3 22 := ⟨by decide +kernel, rfl⟩
theorem D_X9_tune_22 : Dec mi_X9_tune 22 (.iload_n 1) 1 23 := ⟨by decide +kernel, rfl⟩
theorem D_X9_tune_23 : Dec mi_X9_tune 23 (.iaload) 1 24 := ⟨by decide +kernel, rfl⟩
theorem D_X9_tune_24 : DecJ mi_X9_tune 24 (.if_icmp .le 5) (5) 27 29 := ⟨by decide +kernel, rfl, by decide⟩
theorem D_X9_tune_27 : Dec mi_X9_tune 27 (.iconst (-1)) 1 28 := ⟨by decide +kernel, rfl⟩
theorem D_X9_tune_28 : Dec mi_X9_tune 28 (.ireturn) 1 29 := ⟨by decide +kernel, rfl⟩
theorem D_X9_tune_29 : Dec mi_X9_tune 29 (.aload_n 0) 1 30 := ⟨by decide +kernel, rfl⟩
theorem D_X9_tune_30 : Dec mi_X9_tune 30 (.getfield 87) 3 33 := ⟨by decide +kernel, rfl⟩
theorem D_X9_tune_33 : Dec mi_X9_tune 33 (.iload_n 1) 1 34 := ⟨by decide +kernel, rfl⟩
theorem D_X9_tune_34 : Dec mi_X9_tune 34 (.iaload) 1 35 := ⟨by decide +kernel, rfl⟩
theorem D_X9_tune_35 : Dec mi_X9_tune 35 (.istore_n 3) 1 36 := ⟨by decide +kernel, rfl⟩
theorem D_X9_tune_36 : Dec mi_X9_tune 36 (.aload_n 0) 1 37 := ⟨by decide +kernel, rfl⟩
theorem D_X9_tune_37 : Dec mi_X9_tune 37 (.getfield 87) 3 40 := ⟨by decide +kernel, rfl⟩
theorem D_X9_tune_40 : Dec mi_X9_tune 40 (.iload_n 1) 1 41 := ⟨by decide +kernel, rfl⟩
theorem D_X9_tune_41 : Dec mi_X9_tune 41 (.iload_n 2) 1 42 := ⟨by decide +kernel, rfl⟩
theorem D_X9_tune_42 : Dec mi_X9_tune 42 (.iastore) 1 43 := ⟨by decide +kernel, rfl⟩
theorem D_X9_tune_43 : Dec mi_X9_tune 43 (.iload_n 3) 1 44 := ⟨by decide +kernel, rfl⟩
theorem D_X9_tune_44 : Dec mi_X9_tune 44 (.ireturn) 1 45 := ⟨by decide +kernel, rfl⟩
def f_X9_tune (M : Mem) (a1 : Int32) (a2 : Int32) : Option (Int32 × Mem) := if a1 < 0 then (some ((-1 : Int32), M)) else (if (3 : Int32) ≤ a1 then (some ((-1 : Int32), M)) else (if ck a1 3 = true then (if a2 < (tlV.getD a1.toNatClampNeg 0) then (some ((-1 : Int32), M)) else (if ck a1 3 = true then (if a2 ≤ (tmV.getD a1.toNatClampNeg 0) then (if ck a1 3 = true then (if ck a1 3 = true then (vlet (setI M 35 a1.toNatClampNeg a2) fun M9 => some ((M.1 35 a1.toNatClampNeg), M9)) else none) else none) else (some ((-1 : Int32), M))) else none)) else none))
theorem x_X9_tune {l : Launch} {w : Wd} {M : Mem} {a1 : Int32} {a2 : Int32} {v : Int32 × Mem} (h : f_X9_tune M a1 a2 = some v) : Cn l w mi_X9_tune yX9_tune (0) [.ref (wq w 0), .int a1, .int a2] M (some (.int v.1), v.2) :=
  Cn_of (loc0 := [some (.ref (wq w 0)), some (.int a1), some (.int a2), none]) rfl rfl rfl (Nat.le_of_ble_eq_true rfl) fun κ hq => let_h (show (if a1 < 0 then (some ((-1 : Int32), M)) else (if (3 : Int32) ≤ a1 then (some ((-1 : Int32), M)) else (if ck a1 3 = true then (if a2 < (tlV.getD a1.toNatClampNeg 0) then (some ((-1 : Int32), M)) else (if ck a1 3 = true then (if a2 ≤ (tmV.getD a1.toNatClampNeg 0) then (if ck a1 3 = true then (if ck a1 3 = true then (vlet (setI M 35 a1.toNatClampNeg a2) fun M9 => some ((M.1 35 a1.toNatClampNeg), M9)) else none) else none) else (some ((-1 : Int32), M))) else none)) else none))) = some v from h) fun h => r_iload_n D_X9_tune_0 rfl <| r_if_lt D_X9_tune_1 (fun c1 => let_h (ifT c1 h) fun h => r_iconst D_X9_tune_27 ki_m1 <| r_iret hq D_X9_tune_28 rfl (rtW h)) (fun c1 => let_h (ifF c1 h) fun h => r_iload_n D_X9_tune_4 rfl <| r_iconst D_X9_tune_5 ki_3 <| r_icmp_ge D_X9_tune_6 (fun c2 => let_h (ifT c2 h) fun h => r_iconst D_X9_tune_27 ki_m1 <| r_iret hq D_X9_tune_28 rfl (rtW h)) (fun c2 => let_h (ifF c2 h) fun h => r_iload_n D_X9_tune_9 rfl <| r_gsL D_X9_tune_10 gs_X9_145 <| r_iload_n D_X9_tune_13 rfl <| (ckE h).elim fun c3 h => r_tl D_X9_tune_14 c3 <| r_icmp_lt D_X9_tune_15 (fun c4 => let_h (ifT c4 h) fun h => r_iconst D_X9_tune_27 ki_m1 <| r_iret hq D_X9_tune_28 rfl (rtW h)) (fun c4 => let_h (ifF c4 h) fun h => r_iload_n D_X9_tune_18 rfl <| r_gsM D_X9_tune_19 gs_X9_148 <| r_iload_n D_X9_tune_22 rfl <| (ckE h).elim fun c5 h => r_tm D_X9_tune_23 c5 <| r_icmp_le D_X9_tune_24 (fun c6 => let_h (ifT c6 h) fun h => r_aload_n D_X9_tune_29 rfl <| r_getR (j := 35) D_X9_tune_30 fl_X9_87 s_0 rfl <| r_iload_n D_X9_tune_33 rfl <| (ckE h).elim fun c7 h => r_iald D_X9_tune_34 s_35 c7 <| r_istore_n D_X9_tune_35 (by decide) rfl <| r_aload_n D_X9_tune_36 rfl <| r_getR (j := 35) D_X9_tune_37 fl_X9_87 s_0 rfl <| r_iload_n D_X9_tune_40 rfl <| r_iload_n D_X9_tune_41 rfl <| (ckE h).elim fun c8 h => r_iast D_X9_tune_42 s_35 c8 <| mlE h fun M9 h => r_iload_n D_X9_tune_43 rfl <| r_iret hq D_X9_tune_44 rfl (rtW h)) (fun c6 => let_h (ifF c6 h) fun h => r_iconst D_X9_tune_27 ki_m1 <| r_iret hq D_X9_tune_28 rfl (rtW h)))))
-- X9_packs
theorem D_X9_packs_0 : Dec mi_X9_packs 0 (.aload_n 0) 1 1 := ⟨by decide +kernel, rfl⟩
theorem D_X9_packs_1 : Dec mi_X9_packs 1 (.getfield 38) 3 4 := ⟨by decide +kernel, rfl⟩
theorem D_X9_packs_4 : Dec mi_X9_packs 4 (.invokevirtual 151) 3 7 := ⟨by decide +kernel, rfl⟩
theorem D_X9_packs_7 : Dec mi_X9_packs 7 (.istore_n 2) 1 8 := ⟨by decide +kernel, rfl⟩
theorem D_X9_packs_8 : Dec mi_X9_packs 8 (.aload_n 0) 1 9 := ⟨by decide +kernel, rfl⟩
theorem D_X9_packs_9 : Dec mi_X9_packs 9 (.getfield 38) 3 12 := ⟨by decide +kernel, rfl⟩
theorem D_X9_packs_12 : Dec mi_X9_packs 12 (.iload_n 1) 1 13 := ⟨by decide +kernel, rfl⟩
theorem D_X9_packs_13 : Dec mi_X9_packs 13 (.aload_n 0) 1 14 := ⟨by decide +kernel, rfl⟩
theorem D_X9_packs_14 : Dec mi_X9_packs 14 (.getfield 19) 3 17 := ⟨by decide +kernel, rfl⟩
theorem D_X9_packs_17 : Dec mi_X9_packs 17 (.invokevirtual 112) 3 20 := ⟨by decide +kernel, rfl⟩
theorem D_X9_packs_20 : Dec mi_X9_packs 20 (.iand) 1 21 := ⟨by decide +kernel, rfl⟩
theorem D_X9_packs_21 : Dec mi_X9_packs 21 (.invokevirtual 115) 3 24 := ⟨by decide +kernel, rfl⟩
theorem D_X9_packs_24 : Dec mi_X9_packs 24 (.iload_n 2) 1 25 := ⟨by decide +kernel, rfl⟩
theorem D_X9_packs_25 : Dec mi_X9_packs 25 (.ireturn) 1 26 := ⟨by decide +kernel, rfl⟩
def f_X9_packs (M : Mem) (a1 : Int32) : Option (Int32 × Mem) := (f_X2_start M 14 (a1 &&& (f_X8_allThings M 3))).bind fun p1 => some ((f_X2_set M 14), p1)
theorem x_X9_packs {l : Launch} {w : Wd} {M : Mem} {a1 : Int32} {v : Int32 × Mem} (h : f_X9_packs M a1 = some v) : Cn l w mi_X9_packs yX9_packs (1) [.ref (wq w 0), .int a1] M (some (.int v.1), v.2) :=
  Cn_of (loc0 := [some (.ref (wq w 0)), some (.int a1), none]) rfl rfl rfl (Nat.le_of_ble_eq_true rfl) fun κ hq => let_h (show ((f_X2_start M 14 (a1 &&& (f_X8_allThings M 3))).bind fun p1 => some ((f_X2_set M 14), p1)) = some v from h) fun h => r_aload_n D_X9_packs_0 rfl <| r_getR (j := 14) D_X9_packs_1 fl_X9_38 s_0 rfl <| r_callV (av := []) D_X9_packs_4 ml_X9_151 mf_X2_set mv_X2_set s_14 rfl rfl (x_X2_set life_14 rfl) (Nat.le_of_ble_eq_true rfl) rfl rfl (Nat.le_of_ble_eq_true rfl) <| r_istore_n D_X9_packs_7 (by decide) rfl <| r_aload_n D_X9_packs_8 rfl <| r_getR (j := 14) D_X9_packs_9 fl_X9_38 s_0 rfl <| r_iload_n D_X9_packs_12 rfl <| r_aload_n D_X9_packs_13 rfl <| r_getR (j := 3) D_X9_packs_14 fl_X9_19 s_0 rfl <| r_callV (av := []) D_X9_packs_17 ml_X9_112 mf_X8_allThings mv_X8_allThings s_3 rfl rfl (x_X8_allThings trip_3 rfl) (Nat.le_of_ble_eq_true rfl) rfl rfl (Nat.le_of_ble_eq_true rfl) <| r_iand D_X9_packs_20 <| (bdE h).elim fun p1 q2 => let_h q2.2 fun h => r_callV (av := [.int (a1 &&& (f_X8_allThings M 3))]) D_X9_packs_21 ml_X9_115 mf_X2_start mv_X2_start s_14 rfl rfl (x_X2_start life_14 q2.1) (Nat.le_of_ble_eq_true rfl) rfl rfl (Nat.le_of_ble_eq_true rfl) <| r_iload_n D_X9_packs_24 rfl <| r_iret hq D_X9_packs_25 rfl (rtW h)
-- X9_isBit
theorem D_X9_isBit_0 : Dec mi_X9_isBit 0 (.iload_n 0) 1 1 := ⟨by decide +kernel, rfl⟩
theorem D_X9_isBit_1 : DecJ mi_X9_isBit 1 (.ifCond .eq 8) (8) 4 9 := ⟨by decide +kernel, rfl, by decide⟩
theorem D_X9_isBit_4 : Dec mi_X9_isBit 4 (.iload_n 0) 1 5 := ⟨by decide +kernel, rfl⟩
theorem D_X9_isBit_5 : Dec mi_X9_isBit 5 (.iconst 1) 1 6 := ⟨by decide +kernel, rfl⟩
theorem D_X9_isBit_6 : DecJ mi_X9_isBit 6 (.if_icmp .ne 7) (7) 9 13 := ⟨by decide +kernel, rfl, by decide⟩
theorem D_X9_isBit_9 : Dec mi_X9_isBit 9 (.iconst 1) 1 10 := ⟨by decide +kernel, rfl⟩
theorem D_X9_isBit_10 : DecJ mi_X9_isBit 10 (.goto 4) (4) 13 14 := ⟨by decide +kernel, rfl, by decide⟩
theorem D_X9_isBit_13 : Dec mi_X9_isBit 13 (.iconst 0) 1 14 := ⟨by decide +kernel, rfl⟩
theorem D_X9_isBit_14 : Dec mi_X9_isBit 14 (.ireturn) 1 15 := ⟨by decide +kernel, rfl⟩
def f_X9_isBit (M : Mem) (a1 : Int32) : Int32 := if a1 = 0 then ((1 : Int32)) else (if a1 = (1 : Int32) then ((1 : Int32)) else ((0 : Int32)))
theorem x_X9_isBit {l : Launch} {w : Wd} {M : Mem} {a1 : Int32} {v : Int32} (h : f_X9_isBit M a1 = v) : Cn l w mi_X9_isBit yX9_isBit (0) [.int a1] M (some (.int v), M) :=
  Cn_of (loc0 := [some (.int a1)]) rfl rfl rfl (Nat.le_of_ble_eq_true rfl) fun κ hq => let_h (show (if a1 = 0 then ((1 : Int32)) else (if a1 = (1 : Int32) then ((1 : Int32)) else ((0 : Int32)))) = v from h) fun h => r_iload_n D_X9_isBit_0 rfl <| r_if_eq D_X9_isBit_1 (fun c1 => let_h (ifT c1 h) fun h => r_iconst D_X9_isBit_9 ki_1 <| r_goto D_X9_isBit_10 <| r_zret hq D_X9_isBit_14 rfl rfl (rtT h)) (fun c1 => let_h (ifF c1 h) fun h => r_iload_n D_X9_isBit_4 rfl <| r_iconst D_X9_isBit_5 ki_1 <| r_icmp_ne D_X9_isBit_6 (fun c2 => let_h (ifT c2 h) fun h => r_iconst D_X9_isBit_9 ki_1 <| r_goto D_X9_isBit_10 <| r_zret hq D_X9_isBit_14 rfl rfl (rtT h)) (fun c2 => let_h (ifF c2 h) fun h => r_iconst D_X9_isBit_13 ki_0 <| r_zret hq D_X9_isBit_14 rfl rfl (rtT h)))
-- X9_live
theorem D_X9_live_0 : Dec mi_X9_live 0 (.aload_n 0) 1 1 := ⟨by decide +kernel, rfl⟩
theorem D_X9_live_1 : Dec mi_X9_live 1 (.getfield 19) 3 4 := ⟨by decide +kernel, rfl⟩
theorem D_X9_live_4 : Dec mi_X9_live 4 (.invokevirtual 154) 3 7 := ⟨by decide +kernel, rfl⟩
theorem D_X9_live_7 : Dec mi_X9_live 7 (.iload_n 1) 1 8 := ⟨by decide +kernel, rfl⟩
theorem D_X9_live_8 : Dec mi_X9_live 8 (.invokestatic 157) 3 11 := ⟨by decide +kernel, rfl⟩
theorem D_X9_live_11 : DecJ mi_X9_live 11 (.ifCond .eq 32) (32) 14 43 := ⟨by decide +kernel, rfl, by decide⟩
theorem D_X9_live_14 : Dec mi_X9_live 14 (.aload_n 0) 1 15 := ⟨by decide +kernel, rfl⟩
theorem D_X9_live_15 : Dec mi_X9_live 15 (.getfield 19) 3 18 := ⟨by decide +kernel, rfl⟩
theorem D_X9_live_18 : Dec mi_X9_live 18 (.invokevirtual 160) 3 21 := ⟨by decide +kernel, rfl⟩
theorem D_X9_live_21 : Dec mi_X9_live 21 (.iload_n 2) 1 22 := ⟨by decide +kernel, rfl⟩
theorem D_X9_live_22 : Dec mi_X9_live 22 (.invokestatic 157) 3 25 := ⟨by decide +kernel, rfl⟩
theorem D_X9_live_25 : DecJ mi_X9_live 25 (.ifCond .eq 18) (18) 28 43 := ⟨by decide +kernel, rfl, by decide⟩
theorem D_X9_live_28 : Dec mi_X9_live 28 (.iload_n 3) 1 29 := ⟨by decide +kernel, rfl⟩
theorem D_X9_live_29 : Dec mi_X9_live 29 (.invokestatic 163) 3 32 := ⟨by decide +kernel, rfl⟩
theorem D_X9_live_32 : DecJ mi_X9_live 32 (.ifCond .eq 11) (11) 35 43 := ⟨by decide +kernel, rfl, by decide⟩
theorem D_X9_live_35 : Dec mi_X9_live 35 (.iload 4) 2 37 := ⟨by decide +kernel, rfl⟩
theorem D_X9_live_37 : Dec mi_X9_live 37 (.invokestatic 163) 3 40 := ⟨by decide +kernel, rfl⟩
theorem D_X9_live_40 : DecJ mi_X9_live 40 (.ifCond .ne 5) (5) 43 45 := ⟨by decide +kernel, rfl, by decide⟩
theorem D_X9_live_43 : Dec mi_X9_live 43 (.iconst (-1)) 1 44 := ⟨by decide +kernel, rfl⟩
theorem D_X9_live_44 : Dec mi_X9_live 44 (.ireturn) 1 45 := ⟨by decide +kernel, rfl⟩
theorem D_X9_live_45 : Dec mi_X9_live 45 (.aload_n 0) 1 46 := ⟨by decide +kernel, rfl⟩
theorem D_X9_live_46 : Dec mi_X9_live 46 (.getfield 38) 3 49 := ⟨by decide +kernel, rfl⟩
theorem D_X9_live_49 : Dec mi_X9_live 49 (.aload_n 0) 1 50 := ⟨by decide +kernel, rfl⟩
theorem D_X9_live_50 : Dec mi_X9_live 50 (.getfield 19) 3 53 := ⟨by decide +kernel, rfl⟩
theorem D_X9_live_53 : Dec mi_X9_live 53 (.iload_n 1) 1 54 := ⟨by decide +kernel, rfl⟩
theorem D_X9_live_54 : Dec mi_X9_live 54 (.iload_n 2) 1 55 := ⟨by decide +kernel, rfl⟩
theorem D_X9_live_55 : Dec mi_X9_live 55 (.iload_n 3) 1 56 := ⟨by decide +kernel, rfl⟩
theorem D_X9_live_56 : Dec mi_X9_live 56 (.invokevirtual 166) 3 59 := ⟨by decide +kernel, rfl⟩
theorem D_X9_live_59 : DecJ mi_X9_live 59 (.ifCond .ne 6) (6) 62 65 := ⟨by decide +kernel, rfl, by decide⟩
theorem D_X9_live_62 : Dec mi_X9_live 62 (.bipush (-2)) 2 64 := ⟨by decide +kernel, rfl⟩
theorem D_X9_live_64 : Dec mi_X9_live 64 (.ireturn) 1 65 := ⟨by decide +kernel, rfl⟩
theorem D_X9_live_65 : Dec mi_X9_live 65 (.aload_n 0) 1 66 := ⟨by decide +kernel, rfl⟩
theorem D_X9_live_66 : Dec mi_X9_live 66 (.getfield 38) 3 69 := ⟨by decide +kernel, rfl⟩
theorem D_X9_live_69 : Dec mi_X9_live 69 (.aload_n 0) 1 70 := ⟨by decide +kernel, rfl⟩
theorem D_X9_live_70 : Dec mi_X9_live 70 (.getfield 19) 3 73 := ⟨by decide +kernel, rfl⟩
theorem D_X9_live_73 : Dec mi_X9_live 73 (.iload_n 1) 1 74 := ⟨by decide +kernel, rfl⟩
theorem D_X9_live_74 : Dec mi_X9_live 74 (.iload_n 2) 1 75 := ⟨by decide +kernel, rfl⟩
theorem D_X9_live_75 : Dec mi_X9_live 75 (.iload_n 3) 1 76 := ⟨by decide +kernel, rfl⟩
theorem D_X9_live_76 : Dec mi_X9_live 76 (.iload 4) 2 78 := ⟨by decide +kernel, rfl⟩
theorem D_X9_live_78 : Dec mi_X9_live 78 (.invokevirtual 170) 3 81 := ⟨by decide +kernel, rfl⟩
theorem D_X9_live_81 : Dec mi_X9_live 81 (.aload_n 0) 1 82 := ⟨by decide +kernel, rfl⟩
theorem D_X9_live_82 : Dec mi_X9_live 82 (.getfield 38) 3 85 := ⟨by decide +kernel, rfl⟩
theorem D_X9_live_85 : Dec mi_X9_live 85 (.invokevirtual 174) 3 88 := ⟨by decide +kernel, rfl⟩
theorem D_X9_live_88 : Dec mi_X9_live 88 (.ireturn) 1 89 := ⟨by decide +kernel, rfl⟩
def f_X9_live (F : Nat) (M : Mem) (a1 : Int32) (a2 : Int32) (a3 : Int32) (a4 : Int32) : Option (Int32 × Mem) := if (f_X9_has M (f_X8_tops M 3) a1) = 0 then (some ((-1 : Int32), M)) else (if (f_X9_has M (f_X8_bottoms M 3) a2) = 0 then (some ((-1 : Int32), M)) else (if (f_X9_isBit M a3) = 0 then (some ((-1 : Int32), M)) else (if (f_X9_isBit M a4) = 0 then (some ((-1 : Int32), M)) else ((f_X2_mayWear F M 14 3 a1 a2 a3).bind fun x5 => if x5 = 0 then (some ((-2 : Int32), M)) else ((f_X2_wear M 14 3 a1 a2 a3 a4).bind fun p8 => some ((f_X2_date p8 14), p8))))))
theorem x_X9_live {l : Launch} {w : Wd} {F : Nat} {M : Mem} {a1 : Int32} {a2 : Int32} {a3 : Int32} {a4 : Int32} {v : Int32 × Mem} (h : f_X9_live F M a1 a2 a3 a4 = some v) : Cn l w mi_X9_live yX9_live (4) [.ref (wq w 0), .int a1, .int a2, .int a3, .int a4] M (some (.int v.1), v.2) :=
  Cn_of (loc0 := [some (.ref (wq w 0)), some (.int a1), some (.int a2), some (.int a3), some (.int a4)]) rfl rfl rfl (Nat.le_of_ble_eq_true rfl) fun κ hq => let_h (show (if (f_X9_has M (f_X8_tops M 3) a1) = 0 then (some ((-1 : Int32), M)) else (if (f_X9_has M (f_X8_bottoms M 3) a2) = 0 then (some ((-1 : Int32), M)) else (if (f_X9_isBit M a3) = 0 then (some ((-1 : Int32), M)) else (if (f_X9_isBit M a4) = 0 then (some ((-1 : Int32), M)) else ((f_X2_mayWear F M 14 3 a1 a2 a3).bind fun x5 => if x5 = 0 then (some ((-2 : Int32), M)) else ((f_X2_wear M 14 3 a1 a2 a3 a4).bind fun p8 => some ((f_X2_date p8 14), p8))))))) = some v from h) fun h => r_aload_n D_X9_live_0 rfl <| r_getR (j := 3) D_X9_live_1 fl_X9_19 s_0 rfl <| r_callV (av := []) D_X9_live_4 ml_X9_154 mf_X8_tops mv_X8_tops s_3 rfl rfl (x_X8_tops trip_3 rfl) (Nat.le_of_ble_eq_true rfl) rfl rfl (Nat.le_of_ble_eq_true rfl) <| r_iload_n D_X9_live_7 rfl <| r_callS (av := [.int (f_X8_tops M 3), .int a1]) D_X9_live_8 ml_X9_157 mf_X9_has ms_X9_has (x_X9_has rfl) (Nat.le_of_ble_eq_true rfl) rfl rfl (Nat.le_of_ble_eq_true rfl) <| r_if_eq D_X9_live_11 (fun c1 => let_h (ifT c1 h) fun h => r_iconst D_X9_live_43 ki_m1 <| r_iret hq D_X9_live_44 rfl (rtW h)) (fun c1 => let_h (ifF c1 h) fun h => r_aload_n D_X9_live_14 rfl <| r_getR (j := 3) D_X9_live_15 fl_X9_19 s_0 rfl <| r_callV (av := []) D_X9_live_18 ml_X9_160 mf_X8_bottoms mv_X8_bottoms s_3 rfl rfl (x_X8_bottoms trip_3 rfl) (Nat.le_of_ble_eq_true rfl) rfl rfl (Nat.le_of_ble_eq_true rfl) <| r_iload_n D_X9_live_21 rfl <| r_callS (av := [.int (f_X8_bottoms M 3), .int a2]) D_X9_live_22 ml_X9_157 mf_X9_has ms_X9_has (x_X9_has rfl) (Nat.le_of_ble_eq_true rfl) rfl rfl (Nat.le_of_ble_eq_true rfl) <| r_if_eq D_X9_live_25 (fun c2 => let_h (ifT c2 h) fun h => r_iconst D_X9_live_43 ki_m1 <| r_iret hq D_X9_live_44 rfl (rtW h)) (fun c2 => let_h (ifF c2 h) fun h => r_iload_n D_X9_live_28 rfl <| r_callS (av := [.int a3]) D_X9_live_29 ml_X9_163 mf_X9_isBit ms_X9_isBit (x_X9_isBit rfl) (Nat.le_of_ble_eq_true rfl) rfl rfl (Nat.le_of_ble_eq_true rfl) <| r_if_eq D_X9_live_32 (fun c3 => let_h (ifT c3 h) fun h => r_iconst D_X9_live_43 ki_m1 <| r_iret hq D_X9_live_44 rfl (rtW h)) (fun c3 => let_h (ifF c3 h) fun h => r_iload D_X9_live_35 rfl <| r_callS (av := [.int a4]) D_X9_live_37 ml_X9_163 mf_X9_isBit ms_X9_isBit (x_X9_isBit rfl) (Nat.le_of_ble_eq_true rfl) rfl rfl (Nat.le_of_ble_eq_true rfl) <| r_if_ne D_X9_live_40 (fun c4 => let_h (ifT c4 h) fun h => r_iconst D_X9_live_43 ki_m1 <| r_iret hq D_X9_live_44 rfl (rtW h)) (fun c4 => let_h (ifF c4 h) fun h => r_aload_n D_X9_live_45 rfl <| r_getR (j := 14) D_X9_live_46 fl_X9_38 s_0 rfl <| r_aload_n D_X9_live_49 rfl <| r_getR (j := 3) D_X9_live_50 fl_X9_19 s_0 rfl <| r_iload_n D_X9_live_53 rfl <| r_iload_n D_X9_live_54 rfl <| r_iload_n D_X9_live_55 rfl <| (bdE h).elim fun x5 q6 => let_h q6.2 fun h => r_callV (av := [.ref (wq w 3), .int a1, .int a2, .int a3]) D_X9_live_56 ml_X9_166 mf_X2_mayWear mv_X2_mayWear s_14 rfl rfl (x_X2_mayWear life_14 trip_3 q6.1) (Nat.le_of_ble_eq_true rfl) rfl rfl (Nat.le_of_ble_eq_true rfl) <| r_if_ne D_X9_live_59 (fun c7 => let_h (ifT c7 h) fun h => r_bipush D_X9_live_62 k8_m2 <| r_iret hq D_X9_live_64 rfl (rtW h)) (fun c7 => let_h (ifF c7 h) fun h => r_aload_n D_X9_live_65 rfl <| r_getR (j := 14) D_X9_live_66 fl_X9_38 s_0 rfl <| r_aload_n D_X9_live_69 rfl <| r_getR (j := 3) D_X9_live_70 fl_X9_19 s_0 rfl <| r_iload_n D_X9_live_73 rfl <| r_iload_n D_X9_live_74 rfl <| r_iload_n D_X9_live_75 rfl <| r_iload D_X9_live_76 rfl <| (bdE h).elim fun p8 q9 => let_h q9.2 fun h => r_callV (av := [.ref (wq w 3), .int a1, .int a2, .int a3, .int a4]) D_X9_live_78 ml_X9_170 mf_X2_wear mv_X2_wear s_14 rfl rfl (x_X2_wear life_14 trip_3 q9.1) (Nat.le_of_ble_eq_true rfl) rfl rfl (Nat.le_of_ble_eq_true rfl) <| r_aload_n D_X9_live_81 rfl <| r_getR (j := 14) D_X9_live_82 fl_X9_38 s_0 rfl <| r_callV (av := []) D_X9_live_85 ml_X9_174 mf_X2_date mv_X2_date s_14 rfl rfl (x_X2_date life_14 rfl) (Nat.le_of_ble_eq_true rfl) rfl rfl (Nat.le_of_ble_eq_true rfl) <| r_iret hq D_X9_live_88 rfl (rtW h))))))
-- X9_now
theorem D_X9_now_0 : Dec mi_X9_now 0 (.iload_n 1) 1 1 := ⟨by decide +kernel, rfl⟩
theorem D_X9_now_1 : decode mi_X9_now.1 1 = .ok (.tableswitch 79 0 3 #[31, 39, 47, 59], 31) := by decide +kernel
theorem D_X9_now_32 : Dec mi_X9_now 32 (.aload_n 0) 1 33 := ⟨by decide +kernel, rfl⟩
theorem D_X9_now_33 : Dec mi_X9_now 33 (.getfield 38) 3 36 := ⟨by decide +kernel, rfl⟩
theorem D_X9_now_36 : Dec mi_X9_now 36 (.invokevirtual 174) 3 39 := ⟨by decide +kernel, rfl⟩
theorem D_X9_now_39 : Dec mi_X9_now 39 (.ireturn) 1 40 := ⟨by decide +kernel, rfl⟩
theorem D_X9_now_40 : Dec mi_X9_now 40 (.aload_n 0) 1 41 := ⟨by decide +kernel, rfl⟩
theorem D_X9_now_41 : Dec mi_X9_now 41 (.getfield 38) 3 44 := ⟨by decide +kernel, rfl⟩
theorem D_X9_now_44 : Dec mi_X9_now 44 (.invokevirtual 151) 3 47 := ⟨by decide +kernel, rfl⟩
theorem D_X9_now_47 : Dec mi_X9_now 47 (.ireturn) 1 48 := ⟨by decide +kernel, rfl⟩
theorem D_X9_now_48 : Dec mi_X9_now 48 (.aload_n 0) 1 49 := ⟨by decide +kernel, rfl⟩
theorem D_X9_now_49 : Dec mi_X9_now 49 (.getfield 38) 3 52 := ⟨by decide +kernel, rfl⟩
theorem D_X9_now_52 : Dec mi_X9_now 52 (.aload_n 0) 1 53 := ⟨by decide +kernel, rfl⟩
theorem D_X9_now_53 : Dec mi_X9_now 53 (.getfield 19) 3 56 := ⟨by decide +kernel, rfl⟩
theorem D_X9_now_56 : Dec mi_X9_now 56 (.invokevirtual 177) 3 59 := ⟨by decide +kernel, rfl⟩
theorem D_X9_now_59 : Dec mi_X9_now 59 (.ireturn) 1 60 := ⟨by decide +kernel, rfl⟩
theorem D_X9_now_60 : Dec mi_X9_now 60 (.aload_n 0) 1 61 := ⟨by decide +kernel, rfl⟩
theorem D_X9_now_61 : Dec mi_X9_now 61 (.getfield 38) 3 64 := ⟨by decide +kernel, rfl⟩
theorem D_X9_now_64 : Dec mi_X9_now 64 (.aload_n 0) 1 65 := ⟨by decide +kernel, rfl⟩
theorem D_X9_now_65 : Dec mi_X9_now 65 (.getfield 19) 3 68 := ⟨by decide +kernel, rfl⟩
theorem D_X9_now_68 : Dec mi_X9_now 68 (.invokevirtual 181) 3 71 := ⟨by decide +kernel, rfl⟩
theorem D_X9_now_71 : DecJ mi_X9_now 71 (.ifCond .eq 7) (7) 74 78 := ⟨by decide +kernel, rfl, by decide⟩
theorem D_X9_now_74 : Dec mi_X9_now 74 (.iconst 1) 1 75 := ⟨by decide +kernel, rfl⟩
theorem D_X9_now_75 : DecJ mi_X9_now 75 (.goto 4) (4) 78 79 := ⟨by decide +kernel, rfl, by decide⟩
theorem D_X9_now_78 : Dec mi_X9_now 78 (.iconst 0) 1 79 := ⟨by decide +kernel, rfl⟩
theorem D_X9_now_79 : Dec mi_X9_now 79 (.ireturn) 1 80 := ⟨by decide +kernel, rfl⟩
theorem D_X9_now_80 : Dec mi_X9_now 80 (.iconst (-1)) 1 81 := ⟨by decide +kernel, rfl⟩
theorem D_X9_now_81 : Dec mi_X9_now 81 (.ireturn) 1 82 := ⟨by decide +kernel, rfl⟩
def f_X9_now (F : Nat) (M : Mem) (a1 : Int32) : Option Int32 := if a1 = (0 : Int32) then (some (f_X2_date M 14)) else (if a1 = (1 : Int32) then (some (f_X2_set M 14)) else (if a1 = (2 : Int32) then ((f_X2_fresh F M 14 3).bind fun x4 => some x4) else (if a1 = (3 : Int32) then (if (f_X2_isOver M 14 3) = 0 then (some (0 : Int32)) else (some (1 : Int32))) else (some (-1 : Int32)))))
theorem x_X9_now {l : Launch} {w : Wd} {F : Nat} {M : Mem} {a1 : Int32} {v : Int32} (h : f_X9_now F M a1 = some v) : Cn l w mi_X9_now yX9_now (2) [.ref (wq w 0), .int a1] M (some (.int v), M) :=
  Cn_of (loc0 := [some (.ref (wq w 0)), some (.int a1)]) rfl rfl rfl (Nat.le_of_ble_eq_true rfl) fun κ hq => let_h (show (if a1 = (0 : Int32) then (some (f_X2_date M 14)) else (if a1 = (1 : Int32) then (some (f_X2_set M 14)) else (if a1 = (2 : Int32) then ((f_X2_fresh F M 14 3).bind fun x4 => some x4) else (if a1 = (3 : Int32) then (if (f_X2_isOver M 14 3) = 0 then (some (0 : Int32)) else (some (1 : Int32))) else (some (-1 : Int32)))))) = some v from h) fun h => r_iload_n D_X9_now_0 rfl <| dcs (fun c1 => let_h (ifT c1 h) fun h => r_tabEq (off := 31) (t := 32) c1 D_X9_now_1 (by decide) (by decide) <| r_aload_n D_X9_now_32 rfl <| r_getR (j := 14) D_X9_now_33 fl_X9_38 s_0 rfl <| r_callV (av := []) D_X9_now_36 ml_X9_174 mf_X2_date mv_X2_date s_14 rfl rfl (x_X2_date life_14 rfl) (Nat.le_of_ble_eq_true rfl) rfl rfl (Nat.le_of_ble_eq_true rfl) <| r_iret hq D_X9_now_39 rfl (rtP h)) (fun c1 => let_h (ifF c1 h) fun h => dcs (fun c2 => let_h (ifT c2 h) fun h => r_tabEq (off := 39) (t := 40) c2 D_X9_now_1 (by decide) (by decide) <| r_aload_n D_X9_now_40 rfl <| r_getR (j := 14) D_X9_now_41 fl_X9_38 s_0 rfl <| r_callV (av := []) D_X9_now_44 ml_X9_151 mf_X2_set mv_X2_set s_14 rfl rfl (x_X2_set life_14 rfl) (Nat.le_of_ble_eq_true rfl) rfl rfl (Nat.le_of_ble_eq_true rfl) <| r_iret hq D_X9_now_47 rfl (rtP h)) (fun c2 => let_h (ifF c2 h) fun h => dcs (fun c3 => let_h (ifT c3 h) fun h => r_tabEq (off := 47) (t := 48) c3 D_X9_now_1 (by decide) (by decide) <| r_aload_n D_X9_now_48 rfl <| r_getR (j := 14) D_X9_now_49 fl_X9_38 s_0 rfl <| r_aload_n D_X9_now_52 rfl <| r_getR (j := 3) D_X9_now_53 fl_X9_19 s_0 rfl <| (bdE h).elim fun x4 q5 => let_h q5.2 fun h => r_callV (av := [.ref (wq w 3)]) D_X9_now_56 ml_X9_177 mf_X2_fresh mv_X2_fresh s_14 rfl rfl (x_X2_fresh life_14 trip_3 q5.1) (Nat.le_of_ble_eq_true rfl) rfl rfl (Nat.le_of_ble_eq_true rfl) <| r_iret hq D_X9_now_59 rfl (rtP h)) (fun c3 => let_h (ifF c3 h) fun h => dcs (fun c6 => let_h (ifT c6 h) fun h => r_tabEq (off := 59) (t := 60) c6 D_X9_now_1 (by decide) (by decide) <| r_aload_n D_X9_now_60 rfl <| r_getR (j := 14) D_X9_now_61 fl_X9_38 s_0 rfl <| r_aload_n D_X9_now_64 rfl <| r_getR (j := 3) D_X9_now_65 fl_X9_19 s_0 rfl <| r_callV (av := [.ref (wq w 3)]) D_X9_now_68 ml_X9_181 mf_X2_isOver mv_X2_isOver s_14 rfl rfl (x_X2_isOver life_14 trip_3 rfl) (Nat.le_of_ble_eq_true rfl) rfl rfl (Nat.le_of_ble_eq_true rfl) <| r_if_eq D_X9_now_71 (fun c7 => let_h (ifT c7 h) fun h => r_iconst D_X9_now_78 ki_0 <| r_iret hq D_X9_now_79 rfl (rtP h)) (fun c7 => let_h (ifF c7 h) fun h => r_iconst D_X9_now_74 ki_1 <| r_goto D_X9_now_75 <| r_iret hq D_X9_now_79 rfl (rtP h))) (fun c6 => let_h (ifF c6 h) fun h => r_tabOut (t := 80) D_X9_now_1 (NE.out (k := 4) ⟨⟨⟨⟨trivial, c1⟩, c2⟩, c3⟩, c6⟩ (by decide)) (by decide) <| r_iconst D_X9_now_80 ki_m1 <| r_iret hq D_X9_now_81 rfl (rtP h)))))
-- X9_serves
theorem D_X9_serves_0 : Dec mi_X9_serves 0 (.aload_n 0) 1 1 := ⟨by decide +kernel, rfl⟩
theorem D_X9_serves_1 : Dec mi_X9_serves 1 (.getfield 53) 3 4 := ⟨by decide +kernel, rfl⟩
theorem D_X9_serves_4 : Dec mi_X9_serves 4 (.iload_n 1) 1 5 := ⟨by decide +kernel, rfl⟩
theorem D_X9_serves_5 : Dec mi_X9_serves 5 (.aload_n 0) 1 6 := ⟨by decide +kernel, rfl⟩
theorem D_X9_serves_6 : Dec mi_X9_serves 6 (.getfield 19) 3 9 := ⟨by decide +kernel, rfl⟩
theorem D_X9_serves_9 : Dec mi_X9_serves 9 (.invokevirtual 112) 3 12 := ⟨by decide +kernel, rfl⟩
theorem D_X9_serves_12 : Dec mi_X9_serves 12 (.iand) 1 13 := ⟨by decide +kernel, rfl⟩
theorem D_X9_serves_13 : Dec mi_X9_serves 13 (.iload_n 2) 1 14 := ⟨by decide +kernel, rfl⟩
theorem D_X9_serves_14 : Dec mi_X9_serves 14 (.invokevirtual 185) 3 17 := ⟨by decide +kernel, rfl⟩
theorem D_X9_serves_17 : DecJ mi_X9_serves 17 (.ifCond .eq 7) (7) 20 24 := ⟨by decide +kernel, rfl, by decide⟩
theorem D_X9_serves_20 : Dec mi_X9_serves 20 (.iconst 1) 1 21 := ⟨by decide +kernel, rfl⟩
theorem D_X9_serves_21 : DecJ mi_X9_serves 21 (.goto 4) (4) 24 25 := ⟨by decide +kernel, rfl, by decide⟩
theorem D_X9_serves_24 : Dec mi_X9_serves 24 (.iconst 0) 1 25 := ⟨by decide +kernel, rfl⟩
theorem D_X9_serves_25 : Dec mi_X9_serves 25 (.ireturn) 1 26 := ⟨by decide +kernel, rfl⟩
def f_X9_serves (F : Nat) (M : Mem) (a1 : Int32) (a2 : Int32) : Option (Int32 × Mem) := (f_X5_find F M (a1 &&& (f_X8_allThings M 3)) a2).bind fun p1 => if p1.1 = 0 then (some ((0 : Int32), p1.2)) else (some ((1 : Int32), p1.2))
theorem x_X9_serves {l : Launch} {w : Wd} {F : Nat} {M : Mem} {a1 : Int32} {a2 : Int32} {v : Int32 × Mem} (h : f_X9_serves F M a1 a2 = some v) : Cn l w mi_X9_serves yX9_serves (28) [.ref (wq w 0), .int a1, .int a2] M (some (.int v.1), v.2) :=
  Cn_of (loc0 := [some (.ref (wq w 0)), some (.int a1), some (.int a2)]) rfl rfl rfl (Nat.le_of_ble_eq_true rfl) fun κ hq => let_h (show ((f_X5_find F M (a1 &&& (f_X8_allThings M 3)) a2).bind fun p1 => if p1.1 = 0 then (some ((0 : Int32), p1.2)) else (some ((1 : Int32), p1.2))) = some v from h) fun h => r_aload_n D_X9_serves_0 rfl <| r_getR (j := 17) D_X9_serves_1 fl_X9_53 s_0 rfl <| r_iload_n D_X9_serves_4 rfl <| r_aload_n D_X9_serves_5 rfl <| r_getR (j := 3) D_X9_serves_6 fl_X9_19 s_0 rfl <| r_callV (av := []) D_X9_serves_9 ml_X9_112 mf_X8_allThings mv_X8_allThings s_3 rfl rfl (x_X8_allThings trip_3 rfl) (Nat.le_of_ble_eq_true rfl) rfl rfl (Nat.le_of_ble_eq_true rfl) <| r_iand D_X9_serves_12 <| r_iload_n D_X9_serves_13 rfl <| (bdE h).elim fun p1 q2 => let_h q2.2 fun h => r_callV (av := [.int (a1 &&& (f_X8_allThings M 3)), .int a2]) D_X9_serves_14 ml_X9_185 mf_X5_find mv_X5_find s_17 rfl rfl (x_X5_find q2.1) (Nat.le_of_ble_eq_true rfl) rfl rfl (Nat.le_of_ble_eq_true rfl) <| r_if_eq D_X9_serves_17 (fun c3 => let_h (ifT c3 h) fun h => r_iconst D_X9_serves_24 ki_0 <| r_iret hq D_X9_serves_25 rfl (rtW h)) (fun c3 => let_h (ifF c3 h) fun h => r_iconst D_X9_serves_20 ki_1 <| r_goto D_X9_serves_21 <| r_iret hq D_X9_serves_25 rfl (rtW h))
-- X9_plan
theorem D_X9_plan_0 : Dec mi_X9_plan 0 (.aload_n 0) 1 1 := ⟨by decide +kernel, rfl⟩
theorem D_X9_plan_1 : Dec mi_X9_plan 1 (.getfield 19) 3 4 := ⟨by decide +kernel, rfl⟩
theorem D_X9_plan_4 : Dec mi_X9_plan 4 (.iload_n 3) 1 5 := ⟨by decide +kernel, rfl⟩
theorem D_X9_plan_5 : Dec mi_X9_plan 5 (.invokevirtual 139) 3 8 := ⟨by decide +kernel, rfl⟩
theorem D_X9_plan_8 : DecJ mi_X9_plan 8 (.ifCond .eq 14) (14) 11 22 := ⟨by decide +kernel, rfl, by decide⟩
theorem D_X9_plan_11 : Dec mi_X9_plan 11 (.iload 4) 2 13 := ⟨by decide +kernel, rfl⟩
theorem D_X9_plan_13 : DecJ mi_X9_plan 13 (.ifCond .lt 9) (9) 16 22 := ⟨by decide +kernel, rfl, by decide⟩
theorem D_X9_plan_16 : Dec mi_X9_plan 16 (.iload 4) 2 18 := ⟨by decide +kernel, rfl⟩
theorem D_X9_plan_18 : Dec mi_X9_plan 18 (.iconst 2) 1 19 := ⟨by decide +kernel, rfl⟩
theorem D_X9_plan_19 : DecJ mi_X9_plan 19 (.if_icmp .le 5) (5) 22 24 := ⟨by decide +kernel, rfl, by decide⟩
theorem D_X9_plan_22 : Dec mi_X9_plan 22 (.iconst (-1)) 1 23 := ⟨by decide +kernel, rfl⟩
theorem D_X9_plan_23 : Dec mi_X9_plan 23 (.ireturn) 1 24 := ⟨by decide +kernel, rfl⟩
theorem D_X9_plan_24 : Dec mi_X9_plan 24 (.aload_n 0) 1 25 := ⟨by decide +kernel, rfl⟩
theorem D_X9_plan_25 : Dec mi_X9_plan 25 (.getfield 53) 3 28 := ⟨by decide +kernel, rfl⟩
theorem D_X9_plan_28 : Dec mi_X9_plan 28 (.iload_n 1) 1 29 := ⟨by decide +kernel, rfl⟩
theorem D_X9_plan_29 : Dec mi_X9_plan 29 (.aload_n 0) 1 30 := ⟨by decide +kernel, rfl⟩
theorem D_X9_plan_30 : Dec mi_X9_plan 30 (.getfield 19) 3 33 := ⟨by decide +kernel, rfl⟩
theorem D_X9_plan_33 : Dec mi_X9_plan 33 (.invokevirtual 112) 3 36 := ⟨by decide +kernel, rfl⟩
theorem D_X9_plan_36 : Dec mi_X9_plan 36 (.iand) 1 37 := ⟨by decide +kernel, rfl⟩
theorem D_X9_plan_37 : Dec mi_X9_plan 37 (.iload_n 2) 1 38 := ⟨by decide +kernel, rfl⟩
theorem D_X9_plan_38 : Dec mi_X9_plan 38 (.invokevirtual 185) 3 41 := ⟨by decide +kernel, rfl⟩
theorem D_X9_plan_41 : DecJ mi_X9_plan 41 (.ifCond .ne 6) (6) 44 47 := ⟨by decide +kernel, rfl, by decide⟩
theorem D_X9_plan_44 : Dec mi_X9_plan 44 (.bipush (-9)) 2 46 := ⟨by decide +kernel, rfl⟩
theorem D_X9_plan_46 : Dec mi_X9_plan 46 (.ireturn) 1 47 := ⟨by decide +kernel, rfl⟩
theorem D_X9_plan_47 : Dec mi_X9_plan 47 (.iload 4) 2 49 := ⟨by decide +kernel, rfl⟩
theorem D_X9_plan_49 : decode mi_X9_plan.1 49 = .ok (.lookupswitch 45 #[(0, 27), (1, 36)], 27) := by decide +kernel
theorem D_X9_plan_76 : Dec mi_X9_plan 76 (.aload_n 0) 1 77 := ⟨by decide +kernel, rfl⟩
theorem D_X9_plan_77 : Dec mi_X9_plan 77 (.getfield 53) 3 80 := ⟨by decide +kernel, rfl⟩
theorem D_X9_plan_80 : Dec mi_X9_plan 80 (.iload_n 3) 1 81 := ⟨by decide +kernel, rfl⟩
theorem D_X9_plan_81 : Dec mi_X9_plan 81 (.invokevirtual 188) 3 84 := ⟨by decide +kernel, rfl⟩
theorem D_X9_plan_84 : Dec mi_X9_plan 84 (.ireturn) 1 85 := ⟨by decide +kernel, rfl⟩
theorem D_X9_plan_85 : Dec mi_X9_plan 85 (.aload_n 0) 1 86 := ⟨by decide +kernel, rfl⟩
theorem D_X9_plan_86 : Dec mi_X9_plan 86 (.getfield 53) 3 89 := ⟨by decide +kernel, rfl⟩
theorem D_X9_plan_89 : Dec mi_X9_plan 89 (.iload_n 3) 1 90 := ⟨by decide +kernel, rfl⟩
theorem D_X9_plan_90 : Dec mi_X9_plan 90 (.invokevirtual 192) 3 93 := ⟨by decide +kernel, rfl⟩
theorem D_X9_plan_93 : Dec mi_X9_plan 93 (.ireturn) 1 94 := ⟨by decide +kernel, rfl⟩
theorem D_X9_plan_94 : Dec mi_X9_plan 94 (.aload_n 0) 1 95 := ⟨by decide +kernel, rfl⟩
theorem D_X9_plan_95 : Dec mi_X9_plan 95 (.getfield 53) 3 98 := ⟨by decide +kernel, rfl⟩
theorem D_X9_plan_98 : Dec mi_X9_plan 98 (.iload_n 3) 1 99 := ⟨by decide +kernel, rfl⟩
theorem D_X9_plan_99 : Dec mi_X9_plan 99 (.invokevirtual 195) 3 102 := ⟨by decide +kernel, rfl⟩
theorem D_X9_plan_102 : Dec mi_X9_plan 102 (.ireturn) 1 103 := ⟨by decide +kernel, rfl⟩
def f_X9_plan (F : Nat) (M : Mem) (a1 : Int32) (a2 : Int32) (a3 : Int32) (a4 : Int32) : Option (Int32 × Mem) := if (f_X8_hasDay M 3 a3) = 0 then (some ((-1 : Int32), M)) else (if a4 < 0 then (some ((-1 : Int32), M)) else (if a4 ≤ (2 : Int32) then ((f_X5_find F M (a1 &&& (f_X8_allThings M 3)) a2).bind fun p4 => if p4.1 = 0 then (some ((-9 : Int32), p4.2)) else (if a4 = (0 : Int32) then ((f_X5_topOn p4.2 a3).bind fun x8 => some (x8, p4.2)) else (if a4 = (1 : Int32) then ((f_X5_bottomOn p4.2 a3).bind fun x11 => some (x11, p4.2)) else ((f_X5_washOn p4.2 a3).bind fun x13 => some (x13, p4.2))))) else (some ((-1 : Int32), M))))
theorem x_X9_plan {l : Launch} {w : Wd} {F : Nat} {M : Mem} {a1 : Int32} {a2 : Int32} {a3 : Int32} {a4 : Int32} {v : Int32 × Mem} (h : f_X9_plan F M a1 a2 a3 a4 = some v) : Cn l w mi_X9_plan yX9_plan (28) [.ref (wq w 0), .int a1, .int a2, .int a3, .int a4] M (some (.int v.1), v.2) :=
  Cn_of (loc0 := [some (.ref (wq w 0)), some (.int a1), some (.int a2), some (.int a3), some (.int a4)]) rfl rfl rfl (Nat.le_of_ble_eq_true rfl) fun κ hq => let_h (show (if (f_X8_hasDay M 3 a3) = 0 then (some ((-1 : Int32), M)) else (if a4 < 0 then (some ((-1 : Int32), M)) else (if a4 ≤ (2 : Int32) then ((f_X5_find F M (a1 &&& (f_X8_allThings M 3)) a2).bind fun p4 => if p4.1 = 0 then (some ((-9 : Int32), p4.2)) else (if a4 = (0 : Int32) then ((f_X5_topOn p4.2 a3).bind fun x8 => some (x8, p4.2)) else (if a4 = (1 : Int32) then ((f_X5_bottomOn p4.2 a3).bind fun x11 => some (x11, p4.2)) else ((f_X5_washOn p4.2 a3).bind fun x13 => some (x13, p4.2))))) else (some ((-1 : Int32), M))))) = some v from h) fun h => r_aload_n D_X9_plan_0 rfl <| r_getR (j := 3) D_X9_plan_1 fl_X9_19 s_0 rfl <| r_iload_n D_X9_plan_4 rfl <| r_callV (av := [.int a3]) D_X9_plan_5 ml_X9_139 mf_X8_hasDay mv_X8_hasDay s_3 rfl rfl (x_X8_hasDay trip_3 rfl) (Nat.le_of_ble_eq_true rfl) rfl rfl (Nat.le_of_ble_eq_true rfl) <| r_if_eq D_X9_plan_8 (fun c1 => let_h (ifT c1 h) fun h => r_iconst D_X9_plan_22 ki_m1 <| r_iret hq D_X9_plan_23 rfl (rtW h)) (fun c1 => let_h (ifF c1 h) fun h => r_iload D_X9_plan_11 rfl <| r_if_lt D_X9_plan_13 (fun c2 => let_h (ifT c2 h) fun h => r_iconst D_X9_plan_22 ki_m1 <| r_iret hq D_X9_plan_23 rfl (rtW h)) (fun c2 => let_h (ifF c2 h) fun h => r_iload D_X9_plan_16 rfl <| r_iconst D_X9_plan_18 ki_2 <| r_icmp_le D_X9_plan_19 (fun c3 => let_h (ifT c3 h) fun h => r_aload_n D_X9_plan_24 rfl <| r_getR (j := 17) D_X9_plan_25 fl_X9_53 s_0 rfl <| r_iload_n D_X9_plan_28 rfl <| r_aload_n D_X9_plan_29 rfl <| r_getR (j := 3) D_X9_plan_30 fl_X9_19 s_0 rfl <| r_callV (av := []) D_X9_plan_33 ml_X9_112 mf_X8_allThings mv_X8_allThings s_3 rfl rfl (x_X8_allThings trip_3 rfl) (Nat.le_of_ble_eq_true rfl) rfl rfl (Nat.le_of_ble_eq_true rfl) <| r_iand D_X9_plan_36 <| r_iload_n D_X9_plan_37 rfl <| (bdE h).elim fun p4 q5 => let_h q5.2 fun h => r_callV (av := [.int (a1 &&& (f_X8_allThings M 3)), .int a2]) D_X9_plan_38 ml_X9_185 mf_X5_find mv_X5_find s_17 rfl rfl (x_X5_find q5.1) (Nat.le_of_ble_eq_true rfl) rfl rfl (Nat.le_of_ble_eq_true rfl) <| r_if_ne D_X9_plan_41 (fun c6 => let_h (ifT c6 h) fun h => r_bipush D_X9_plan_44 k8_m9 <| r_iret hq D_X9_plan_46 rfl (rtW h)) (fun c6 => let_h (ifF c6 h) fun h => r_iload D_X9_plan_47 rfl <| dcs (fun c7 => let_h (ifT c7 h) fun h => r_lookEq (off := 27) (t := 76) c7 D_X9_plan_49 (by decide) (by decide) (by decide) <| r_aload_n D_X9_plan_76 rfl <| r_getR (j := 17) D_X9_plan_77 fl_X9_53 s_0 rfl <| r_iload_n D_X9_plan_80 rfl <| (bdE h).elim fun x8 q9 => let_h q9.2 fun h => r_callV (av := [.int a3]) D_X9_plan_81 ml_X9_188 mf_X5_topOn mv_X5_topOn s_17 rfl rfl (x_X5_topOn q9.1) (Nat.le_of_ble_eq_true rfl) rfl rfl (Nat.le_of_ble_eq_true rfl) <| r_iret hq D_X9_plan_84 rfl (rtW h)) (fun c7 => let_h (ifF c7 h) fun h => dcs (fun c10 => let_h (ifT c10 h) fun h => r_lookEq (off := 36) (t := 85) c10 D_X9_plan_49 (by decide) (by decide) (by decide) <| r_aload_n D_X9_plan_85 rfl <| r_getR (j := 17) D_X9_plan_86 fl_X9_53 s_0 rfl <| r_iload_n D_X9_plan_89 rfl <| (bdE h).elim fun x11 q12 => let_h q12.2 fun h => r_callV (av := [.int a3]) D_X9_plan_90 ml_X9_192 mf_X5_bottomOn mv_X5_bottomOn s_17 rfl rfl (x_X5_bottomOn q12.1) (Nat.le_of_ble_eq_true rfl) rfl rfl (Nat.le_of_ble_eq_true rfl) <| r_iret hq D_X9_plan_93 rfl (rtW h)) (fun c10 => let_h (ifF c10 h) fun h => r_lookOut (t := 94) D_X9_plan_49 (by decide) (List.forall_mem_cons.mpr ⟨ne32 c7 (by decide), (List.forall_mem_cons.mpr ⟨ne32 c10 (by decide), (fun _ hh => absurd hh List.not_mem_nil)⟩)⟩) (by decide) <| r_aload_n D_X9_plan_94 rfl <| r_getR (j := 17) D_X9_plan_95 fl_X9_53 s_0 rfl <| r_iload_n D_X9_plan_98 rfl <| (bdE h).elim fun x13 q14 => let_h q14.2 fun h => r_callV (av := [.int a3]) D_X9_plan_99 ml_X9_195 mf_X5_washOn mv_X5_washOn s_17 rfl rfl (x_X5_washOn q14.1) (Nat.le_of_ble_eq_true rfl) rfl rfl (Nat.le_of_ble_eq_true rfl) <| r_iret hq D_X9_plan_102 rfl (rtW h))))) (fun c3 => let_h (ifF c3 h) fun h => r_iconst D_X9_plan_22 ki_m1 <| r_iret hq D_X9_plan_23 rfl (rtW h))))
-- X9_odds
theorem D_X9_odds_0 : Dec mi_X9_odds 0 (.aload_n 0) 1 1 := ⟨by decide +kernel, rfl⟩
theorem D_X9_odds_1 : Dec mi_X9_odds 1 (.getfield 62) 3 4 := ⟨by decide +kernel, rfl⟩
theorem D_X9_odds_4 : Dec mi_X9_odds 4 (.iload_n 1) 1 5 := ⟨by decide +kernel, rfl⟩
theorem D_X9_odds_5 : Dec mi_X9_odds 5 (.aload_n 0) 1 6 := ⟨by decide +kernel, rfl⟩
theorem D_X9_odds_6 : Dec mi_X9_odds 6 (.getfield 19) 3 9 := ⟨by decide +kernel, rfl⟩
theorem D_X9_odds_9 : Dec mi_X9_odds 9 (.invokevirtual 112) 3 12 := ⟨by decide +kernel, rfl⟩
theorem D_X9_odds_12 : Dec mi_X9_odds 12 (.iand) 1 13 := ⟨by decide +kernel, rfl⟩
theorem D_X9_odds_13 : Dec mi_X9_odds 13 (.invokevirtual 198) 3 16 := ⟨by decide +kernel, rfl⟩
theorem D_X9_odds_16 : Dec mi_X9_odds 16 (.ireturn) 1 17 := ⟨by decide +kernel, rfl⟩
def f_X9_odds (F : Nat) (M : Mem) (a1 : Int32) : Option (Int32 × Mem) := (f_X0_chances F M (a1 &&& (f_X8_allThings M 3))).bind fun p1 => some (p1.1, p1.2)
theorem x_X9_odds {l : Launch} {w : Wd} {F : Nat} {M : Mem} {a1 : Int32} {v : Int32 × Mem} (h : f_X9_odds F M a1 = some v) : Cn l w mi_X9_odds yX9_odds (29) [.ref (wq w 0), .int a1] M (some (.int v.1), v.2) :=
  Cn_of (loc0 := [some (.ref (wq w 0)), some (.int a1)]) rfl rfl rfl (Nat.le_of_ble_eq_true rfl) fun κ hq => let_h (show ((f_X0_chances F M (a1 &&& (f_X8_allThings M 3))).bind fun p1 => some (p1.1, p1.2)) = some v from h) fun h => r_aload_n D_X9_odds_0 rfl <| r_getR (j := 25) D_X9_odds_1 fl_X9_62 s_0 rfl <| r_iload_n D_X9_odds_4 rfl <| r_aload_n D_X9_odds_5 rfl <| r_getR (j := 3) D_X9_odds_6 fl_X9_19 s_0 rfl <| r_callV (av := []) D_X9_odds_9 ml_X9_112 mf_X8_allThings mv_X8_allThings s_3 rfl rfl (x_X8_allThings trip_3 rfl) (Nat.le_of_ble_eq_true rfl) rfl rfl (Nat.le_of_ble_eq_true rfl) <| r_iand D_X9_odds_12 <| (bdE h).elim fun p1 q2 => let_h q2.2 fun h => r_callV (av := [.int (a1 &&& (f_X8_allThings M 3))]) D_X9_odds_13 ml_X9_198 mf_X0_chances mv_X0_chances s_25 rfl rfl (x_X0_chances q2.1) (Nat.le_of_ble_eq_true rfl) rfl rfl (Nat.le_of_ble_eq_true rfl) <| r_iret hq D_X9_odds_16 rfl (rtW h)
-- X9_least
theorem D_X9_least_0 : Dec mi_X9_least 0 (.iload_n 1) 1 1 := ⟨by decide +kernel, rfl⟩
theorem D_X9_least_1 : DecJ mi_X9_least 1 (.ifCond .lt 17) (17) 4 18 := ⟨by decide +kernel, rfl, by decide⟩
theorem D_X9_least_4 : Dec mi_X9_least 4 (.iload_n 1) 1 5 := ⟨by decide +kernel, rfl⟩
theorem D_X9_least_5 : Dec mi_X9_least 5 (.sipush 1000) 3 8 := ⟨by decide +kernel, rfl⟩
theorem D_X9_least_8 : DecJ mi_X9_least 8 (.if_icmp .gt 10) (10) 11 18 := ⟨by decide +kernel, rfl, by decide⟩
theorem D_X9_least_11 : Dec mi_X9_least 11 (.iload_n 2) 1 12 := ⟨by decide +kernel, rfl⟩
theorem D_X9_least_12 : Dec mi_X9_least 12 (.invokestatic 163) 3 15 := ⟨by decide +kernel, rfl⟩
theorem D_X9_least_15 : DecJ mi_X9_least 15 (.ifCond .ne 5) (5) 18 20 := ⟨by decide +kernel, rfl, by decide⟩
theorem D_X9_least_18 : Dec mi_X9_least 18 (.iconst (-1)) 1 19 := ⟨by decide +kernel, rfl⟩
theorem D_X9_least_19 : Dec mi_X9_least 19 (.ireturn) 1 20 := ⟨by decide +kernel, rfl⟩
theorem D_X9_least_20 : Dec mi_X9_least 20 (.aload_n 0) 1 21 := ⟨by decide +kernel, rfl⟩
theorem D_X9_least_21 : Dec mi_X9_least 21 (.getfield 62) 3 24 := ⟨by decide +kernel, rfl⟩
theorem D_X9_least_24 : Dec mi_X9_least 24 (.bipush 10) 2 26 := ⟨by decide +kernel, rfl⟩
theorem D_X9_least_26 : Dec mi_X9_least 26 (.iload_n 1) 1 27 := ⟨by decide +kernel, rfl⟩
theorem D_X9_least_27 : Dec mi_X9_least 27 (.imul) 1 28 := ⟨by decide +kernel, rfl⟩
theorem D_X9_least_28 : Dec mi_X9_least 28 (.iload_n 2) 1 29 := ⟨by decide +kernel, rfl⟩
theorem D_X9_least_29 : DecJ mi_X9_least 29 (.ifCond .ne 7) (7) 32 36 := ⟨by decide +kernel, rfl, by decide⟩
theorem D_X9_least_32 : Dec mi_X9_least 32 (.iconst 4) 1 33 := ⟨by decide +kernel, rfl⟩
theorem D_X9_least_33 : DecJ mi_X9_least 33 (.goto 4) (4) 36 37 := ⟨by decide +kernel, rfl, by decide⟩
theorem D_X9_least_36 : Dec mi_X9_least 36 (.iconst 3) 1 37 := ⟨by decide +kernel, rfl⟩
theorem D_X9_least_37 : Dec mi_X9_least 37 (.invokevirtual 201) 3 40 := ⟨by decide +kernel, rfl⟩
theorem D_X9_least_40 : Dec mi_X9_least 40 (.ireturn) 1 41 := ⟨by decide +kernel, rfl⟩
def f_X9_least (F : Nat) (M : Mem) (a1 : Int32) (a2 : Int32) : Option (Int32 × Mem) := if a1 < 0 then (some ((-1 : Int32), M)) else (if (1000 : Int32) < a1 then (some ((-1 : Int32), M)) else (if (f_X9_isBit M a2) = 0 then (some ((-1 : Int32), M)) else (if a2 = 0 then ((f_X0_smallest F M ((10 : Int32) * a1) (4 : Int32)).bind fun p5 => some (p5.1, p5.2)) else ((f_X0_smallest F M ((10 : Int32) * a1) (3 : Int32)).bind fun p7 => some (p7.1, p7.2)))))
theorem x_X9_least {l : Launch} {w : Wd} {F : Nat} {M : Mem} {a1 : Int32} {a2 : Int32} {v : Int32 × Mem} (h : f_X9_least F M a1 a2 = some v) : Cn l w mi_X9_least yX9_least (30) [.ref (wq w 0), .int a1, .int a2] M (some (.int v.1), v.2) :=
  Cn_of (loc0 := [some (.ref (wq w 0)), some (.int a1), some (.int a2)]) rfl rfl rfl (Nat.le_of_ble_eq_true rfl) fun κ hq => let_h (show (if a1 < 0 then (some ((-1 : Int32), M)) else (if (1000 : Int32) < a1 then (some ((-1 : Int32), M)) else (if (f_X9_isBit M a2) = 0 then (some ((-1 : Int32), M)) else (if a2 = 0 then ((f_X0_smallest F M ((10 : Int32) * a1) (4 : Int32)).bind fun p5 => some (p5.1, p5.2)) else ((f_X0_smallest F M ((10 : Int32) * a1) (3 : Int32)).bind fun p7 => some (p7.1, p7.2)))))) = some v from h) fun h => r_iload_n D_X9_least_0 rfl <| r_if_lt D_X9_least_1 (fun c1 => let_h (ifT c1 h) fun h => r_iconst D_X9_least_18 ki_m1 <| r_iret hq D_X9_least_19 rfl (rtW h)) (fun c1 => let_h (ifF c1 h) fun h => r_iload_n D_X9_least_4 rfl <| r_sipush D_X9_least_5 k16_1000 <| r_icmp_gt D_X9_least_8 (fun c2 => let_h (ifT c2 h) fun h => r_iconst D_X9_least_18 ki_m1 <| r_iret hq D_X9_least_19 rfl (rtW h)) (fun c2 => let_h (ifF c2 h) fun h => r_iload_n D_X9_least_11 rfl <| r_callS (av := [.int a2]) D_X9_least_12 ml_X9_163 mf_X9_isBit ms_X9_isBit (x_X9_isBit rfl) (Nat.le_of_ble_eq_true rfl) rfl rfl (Nat.le_of_ble_eq_true rfl) <| r_if_ne D_X9_least_15 (fun c3 => let_h (ifT c3 h) fun h => r_iconst D_X9_least_18 ki_m1 <| r_iret hq D_X9_least_19 rfl (rtW h)) (fun c3 => let_h (ifF c3 h) fun h => r_aload_n D_X9_least_20 rfl <| r_getR (j := 25) D_X9_least_21 fl_X9_62 s_0 rfl <| r_bipush D_X9_least_24 k8_10 <| r_iload_n D_X9_least_26 rfl <| r_imul D_X9_least_27 <| r_iload_n D_X9_least_28 rfl <| r_if_ne D_X9_least_29 (fun c4 => let_h (ifT c4 h) fun h => r_iconst D_X9_least_32 ki_4 <| r_goto D_X9_least_33 <| (bdE h).elim fun p5 q6 => let_h q6.2 fun h => r_callV (av := [.int ((10 : Int32) * a1), .int (4 : Int32)]) D_X9_least_37 ml_X9_201 mf_X0_smallest mv_X0_smallest s_25 rfl rfl (x_X0_smallest q6.1) (Nat.le_of_ble_eq_true rfl) rfl rfl (Nat.le_of_ble_eq_true rfl) <| r_iret hq D_X9_least_40 rfl (rtW h)) (fun c4 => let_h (ifF c4 h) fun h => r_iconst D_X9_least_36 ki_3 <| (bdE h).elim fun p7 q8 => let_h q8.2 fun h => r_callV (av := [.int ((10 : Int32) * a1), .int (3 : Int32)]) D_X9_least_37 ml_X9_201 mf_X0_smallest mv_X0_smallest s_25 rfl rfl (x_X0_smallest q8.1) (Nat.le_of_ble_eq_true rfl) rfl rfl (Nat.le_of_ble_eq_true rfl) <| r_iret hq D_X9_least_40 rfl (rtW h)))))
-- X9_needless
theorem D_X9_needless_0 : Dec mi_X9_needless 0 (.iload_n 3) 1 1 := ⟨by decide +kernel, rfl⟩
theorem D_X9_needless_1 : Dec mi_X9_needless 1 (.invokestatic 163) 3 4 := ⟨by decide +kernel, rfl⟩
theorem D_X9_needless_4 : DecJ mi_X9_needless 4 (.ifCond .ne 5) (5) 7 9 := ⟨by decide +kernel, rfl, by decide⟩
theorem D_X9_needless_7 : Dec mi_X9_needless 7 (.iconst (-1)) 1 8 := ⟨by decide +kernel, rfl⟩
theorem D_X9_needless_8 : Dec mi_X9_needless 8 (.ireturn) 1 9 := ⟨by decide +kernel, rfl⟩
theorem D_X9_needless_9 : Dec mi_X9_needless 9 (.iload_n 1) 1 10 := ⟨by decide +kernel, rfl⟩
theorem D_X9_needless_10 : Dec mi_X9_needless 10 (.aload_n 0) 1 11 := ⟨by decide +kernel, rfl⟩
theorem D_X9_needless_11 : Dec mi_X9_needless 11 (.getfield 19) 3 14 := ⟨by decide +kernel, rfl⟩
theorem D_X9_needless_14 : Dec mi_X9_needless 14 (.invokevirtual 112) 3 17 := ⟨by decide +kernel, rfl⟩
theorem D_X9_needless_17 : Dec mi_X9_needless 17 (.iand) 1 18 := ⟨by decide +kernel, rfl⟩
theorem D_X9_needless_18 : Dec mi_X9_needless 18 (.istore 4) 2 20 := ⟨by decide +kernel, rfl⟩
theorem D_X9_needless_20 : Dec mi_X9_needless 20 (.aload_n 0) 1 21 := ⟨by decide +kernel, rfl⟩
theorem D_X9_needless_21 : Dec mi_X9_needless 21 (.getfield 53) 3 24 := ⟨by decide +kernel, rfl⟩
theorem D_X9_needless_24 : Dec mi_X9_needless 24 (.iload 4) 2 26 := ⟨by decide +kernel, rfl⟩
theorem D_X9_needless_26 : Dec mi_X9_needless 26 (.iload_n 2) 1 27 := ⟨by decide +kernel, rfl⟩
theorem D_X9_needless_27 : Dec mi_X9_needless 27 (.invokevirtual 185) 3 30 := ⟨by decide +kernel, rfl⟩
theorem D_X9_needless_30 : DecJ mi_X9_needless 30 (.ifCond .ne 6) (6) 33 36 := ⟨by decide +kernel, rfl, by decide⟩
theorem D_X9_needless_33 : Dec mi_X9_needless 33 (.bipush (-2)) 2 35 := ⟨by decide +kernel, rfl⟩
theorem D_X9_needless_35 : Dec mi_X9_needless 35 (.ireturn) 1 36 := ⟨by decide +kernel, rfl⟩
theorem D_X9_needless_36 : Dec mi_X9_needless 36 (.iload_n 3) 1 37 := ⟨by decide +kernel, rfl⟩
theorem D_X9_needless_37 : DecJ mi_X9_needless 37 (.ifCond .ne 16) (16) 40 53 := ⟨by decide +kernel, rfl, by decide⟩
theorem D_X9_needless_40 : Dec mi_X9_needless 40 (.aload_n 0) 1 41 := ⟨by decide +kernel, rfl⟩
theorem D_X9_needless_41 : Dec mi_X9_needless 41 (.getfield 62) 3 44 := ⟨by decide +kernel, rfl⟩
theorem D_X9_needless_44 : Dec mi_X9_needless 44 (.iload 4) 2 46 := ⟨by decide +kernel, rfl⟩
theorem D_X9_needless_46 : Dec mi_X9_needless 46 (.iload_n 2) 1 47 := ⟨by decide +kernel, rfl⟩
theorem D_X9_needless_47 : Dec mi_X9_needless 47 (.invokevirtual 204) 3 50 := ⟨by decide +kernel, rfl⟩
theorem D_X9_needless_50 : DecJ mi_X9_needless 50 (.goto 12) (12) 53 62 := ⟨by decide +kernel, rfl, by decide⟩
theorem D_X9_needless_53 : Dec mi_X9_needless 53 (.aload_n 0) 1 54 := ⟨by decide +kernel, rfl⟩
theorem D_X9_needless_54 : Dec mi_X9_needless 54 (.getfield 53) 3 57 := ⟨by decide +kernel, rfl⟩
theorem D_X9_needless_57 : Dec mi_X9_needless 57 (.iload 4) 2 59 := ⟨by decide +kernel, rfl⟩
theorem D_X9_needless_59 : Dec mi_X9_needless 59 (.invokevirtual 207) 3 62 := ⟨by decide +kernel, rfl⟩
theorem D_X9_needless_62 : Dec mi_X9_needless 62 (.ireturn) 1 63 := ⟨by decide +kernel, rfl⟩
def f_X9_needless (F : Nat) (M : Mem) (a1 : Int32) (a2 : Int32) (a3 : Int32) : Option (Int32 × Mem) := if (f_X9_isBit M a3) = 0 then (some ((-1 : Int32), M)) else ((f_X5_find F M (a1 &&& (f_X8_allThings M 3)) a2).bind fun p2 => if p2.1 = 0 then (some ((-2 : Int32), p2.2)) else (if a3 = 0 then ((f_X0_spares F p2.2 (a1 &&& (f_X8_allThings M 3)) a2).bind fun p6 => some (p6.1, p6.2)) else ((f_X5_neverOn F p2.2 (a1 &&& (f_X8_allThings M 3))).bind fun x8 => some (x8, p2.2))))
theorem x_X9_needless {l : Launch} {w : Wd} {F : Nat} {M : Mem} {a1 : Int32} {a2 : Int32} {a3 : Int32} {v : Int32 × Mem} (h : f_X9_needless F M a1 a2 a3 = some v) : Cn l w mi_X9_needless yX9_needless (29) [.ref (wq w 0), .int a1, .int a2, .int a3] M (some (.int v.1), v.2) :=
  Cn_of (loc0 := [some (.ref (wq w 0)), some (.int a1), some (.int a2), some (.int a3), none]) rfl rfl rfl (Nat.le_of_ble_eq_true rfl) fun κ hq => let_h (show (if (f_X9_isBit M a3) = 0 then (some ((-1 : Int32), M)) else ((f_X5_find F M (a1 &&& (f_X8_allThings M 3)) a2).bind fun p2 => if p2.1 = 0 then (some ((-2 : Int32), p2.2)) else (if a3 = 0 then ((f_X0_spares F p2.2 (a1 &&& (f_X8_allThings M 3)) a2).bind fun p6 => some (p6.1, p6.2)) else ((f_X5_neverOn F p2.2 (a1 &&& (f_X8_allThings M 3))).bind fun x8 => some (x8, p2.2))))) = some v from h) fun h => r_iload_n D_X9_needless_0 rfl <| r_callS (av := [.int a3]) D_X9_needless_1 ml_X9_163 mf_X9_isBit ms_X9_isBit (x_X9_isBit rfl) (Nat.le_of_ble_eq_true rfl) rfl rfl (Nat.le_of_ble_eq_true rfl) <| r_if_ne D_X9_needless_4 (fun c1 => let_h (ifT c1 h) fun h => r_iconst D_X9_needless_7 ki_m1 <| r_iret hq D_X9_needless_8 rfl (rtW h)) (fun c1 => let_h (ifF c1 h) fun h => r_iload_n D_X9_needless_9 rfl <| r_aload_n D_X9_needless_10 rfl <| r_getR (j := 3) D_X9_needless_11 fl_X9_19 s_0 rfl <| r_callV (av := []) D_X9_needless_14 ml_X9_112 mf_X8_allThings mv_X8_allThings s_3 rfl rfl (x_X8_allThings trip_3 rfl) (Nat.le_of_ble_eq_true rfl) rfl rfl (Nat.le_of_ble_eq_true rfl) <| r_iand D_X9_needless_17 <| r_istore D_X9_needless_18 (by decide) rfl <| r_aload_n D_X9_needless_20 rfl <| r_getR (j := 17) D_X9_needless_21 fl_X9_53 s_0 rfl <| r_iload D_X9_needless_24 rfl <| r_iload_n D_X9_needless_26 rfl <| (bdE h).elim fun p2 q3 => let_h q3.2 fun h => r_callV (av := [.int (a1 &&& (f_X8_allThings M 3)), .int a2]) D_X9_needless_27 ml_X9_185 mf_X5_find mv_X5_find s_17 rfl rfl (x_X5_find q3.1) (Nat.le_of_ble_eq_true rfl) rfl rfl (Nat.le_of_ble_eq_true rfl) <| r_if_ne D_X9_needless_30 (fun c4 => let_h (ifT c4 h) fun h => r_bipush D_X9_needless_33 k8_m2 <| r_iret hq D_X9_needless_35 rfl (rtW h)) (fun c4 => let_h (ifF c4 h) fun h => r_iload_n D_X9_needless_36 rfl <| r_if_ne D_X9_needless_37 (fun c5 => let_h (ifT c5 h) fun h => r_aload_n D_X9_needless_40 rfl <| r_getR (j := 25) D_X9_needless_41 fl_X9_62 s_0 rfl <| r_iload D_X9_needless_44 rfl <| r_iload_n D_X9_needless_46 rfl <| (bdE h).elim fun p6 q7 => let_h q7.2 fun h => r_callV (av := [.int (a1 &&& (f_X8_allThings M 3)), .int a2]) D_X9_needless_47 ml_X9_204 mf_X0_spares mv_X0_spares s_25 rfl rfl (x_X0_spares q7.1) (Nat.le_of_ble_eq_true rfl) rfl rfl (Nat.le_of_ble_eq_true rfl) <| r_goto D_X9_needless_50 <| r_iret hq D_X9_needless_62 rfl (rtW h)) (fun c5 => let_h (ifF c5 h) fun h => r_aload_n D_X9_needless_53 rfl <| r_getR (j := 17) D_X9_needless_54 fl_X9_53 s_0 rfl <| r_iload D_X9_needless_57 rfl <| (bdE h).elim fun x8 q9 => let_h q9.2 fun h => r_callV (av := [.int (a1 &&& (f_X8_allThings M 3))]) D_X9_needless_59 ml_X9_207 mf_X5_neverOn mv_X5_neverOn s_17 rfl rfl (x_X5_neverOn q9.1) (Nat.le_of_ble_eq_true rfl) rfl rfl (Nat.le_of_ble_eq_true rfl) <| r_iret hq D_X9_needless_62 rfl (rtW h))))
-- X9_buy
theorem D_X9_buy_0 : Dec mi_X9_buy 0 (.iload_n 3) 1 1 := ⟨by decide +kernel, rfl⟩
theorem D_X9_buy_1 : Dec mi_X9_buy 1 (.invokestatic 163) 3 4 := ⟨by decide +kernel, rfl⟩
theorem D_X9_buy_4 : DecJ mi_X9_buy 4 (.ifCond .ne 5) (5) 7 9 := ⟨by decide +kernel, rfl, by decide⟩
theorem D_X9_buy_7 : Dec mi_X9_buy 7 (.iconst (-1)) 1 8 := ⟨by decide +kernel, rfl⟩
theorem D_X9_buy_8 : Dec mi_X9_buy 8 (.ireturn) 1 9 := ⟨by decide +kernel, rfl⟩
theorem D_X9_buy_9 : Dec mi_X9_buy 9 (.aload_n 0) 1 10 := ⟨by decide +kernel, rfl⟩
theorem D_X9_buy_10 : Dec mi_X9_buy 10 (.getfield 62) 3 13 := ⟨by decide +kernel, rfl⟩
theorem D_X9_buy_13 : Dec mi_X9_buy 13 (.iload_n 1) 1 14 := ⟨by decide +kernel, rfl⟩
theorem D_X9_buy_14 : Dec mi_X9_buy 14 (.aload_n 0) 1 15 := ⟨by decide +kernel, rfl⟩
theorem D_X9_buy_15 : Dec mi_X9_buy 15 (.getfield 19) 3 18 := ⟨by decide +kernel, rfl⟩
theorem D_X9_buy_18 : Dec mi_X9_buy 18 (.invokevirtual 112) 3 21 := ⟨by decide +kernel, rfl⟩
theorem D_X9_buy_21 : Dec mi_X9_buy 21 (.iand) 1 22 := ⟨by decide +kernel, rfl⟩
theorem D_X9_buy_22 : Dec mi_X9_buy 22 (.iload_n 2) 1 23 := ⟨by decide +kernel, rfl⟩
theorem D_X9_buy_23 : Dec mi_X9_buy 23 (.invokevirtual 210) 3 26 := ⟨by decide +kernel, rfl⟩
theorem D_X9_buy_26 : Dec mi_X9_buy 26 (.istore 4) 2 28 := ⟨by decide +kernel, rfl⟩
theorem D_X9_buy_28 : Dec mi_X9_buy 28 (.iload 4) 2 30 := ⟨by decide +kernel, rfl⟩
theorem D_X9_buy_30 : DecJ mi_X9_buy 30 (.ifCond .lt 7) (7) 33 37 := ⟨by decide +kernel, rfl, by decide⟩
theorem D_X9_buy_33 : Dec mi_X9_buy 33 (.iload_n 3) 1 34 := ⟨by decide +kernel, rfl⟩
theorem D_X9_buy_34 : DecJ mi_X9_buy 34 (.ifCond .ne 8) (8) 37 42 := ⟨by decide +kernel, rfl, by decide⟩
theorem D_X9_buy_37 : Dec mi_X9_buy 37 (.iload 4) 2 39 := ⟨by decide +kernel, rfl⟩
theorem D_X9_buy_39 : DecJ mi_X9_buy 39 (.goto 13) (13) 42 52 := ⟨by decide +kernel, rfl, by decide⟩
theorem D_X9_buy_42 : Dec mi_X9_buy 42 (.aload_n 0) 1 43 := ⟨by decide +kernel, rfl⟩
theorem D_X9_buy_43 : Dec mi_X9_buy 43 (.getfield 19) 3 46 := ⟨by decide +kernel, rfl⟩
theorem D_X9_buy_46 : Dec mi_X9_buy 46 (.iload 4) 2 48 := ⟨by decide +kernel, rfl⟩
theorem D_X9_buy_48 : Dec mi_X9_buy 48 (.iconst 5) 1 49 := ⟨by decide +kernel, rfl⟩
theorem D_X9_buy_49 : Dec mi_X9_buy 49 (.invokevirtual 213) 3 52 := ⟨by decide +kernel, rfl⟩
theorem D_X9_buy_52 : Dec mi_X9_buy 52 (.ireturn) 1 53 := ⟨by decide +kernel, rfl⟩
def f_X9_buy (F : Nat) (M : Mem) (a1 : Int32) (a2 : Int32) (a3 : Int32) : Option (Int32 × Mem) := if (f_X9_isBit M a3) = 0 then (some ((-1 : Int32), M)) else ((f_X0_purchase F M (a1 &&& (f_X8_allThings M 3)) a2).bind fun p2 => if p2.1 < 0 then (some (p2.1, p2.2)) else (if a3 = 0 then (some (p2.1, p2.2)) else ((f_X8_sum F p2.2 3 p2.1 (5 : Int32)).bind fun x6 => some (x6, p2.2))))
theorem x_X9_buy {l : Launch} {w : Wd} {F : Nat} {M : Mem} {a1 : Int32} {a2 : Int32} {a3 : Int32} {v : Int32 × Mem} (h : f_X9_buy F M a1 a2 a3 = some v) : Cn l w mi_X9_buy yX9_buy (29) [.ref (wq w 0), .int a1, .int a2, .int a3] M (some (.int v.1), v.2) :=
  Cn_of (loc0 := [some (.ref (wq w 0)), some (.int a1), some (.int a2), some (.int a3), none]) rfl rfl rfl (Nat.le_of_ble_eq_true rfl) fun κ hq => let_h (show (if (f_X9_isBit M a3) = 0 then (some ((-1 : Int32), M)) else ((f_X0_purchase F M (a1 &&& (f_X8_allThings M 3)) a2).bind fun p2 => if p2.1 < 0 then (some (p2.1, p2.2)) else (if a3 = 0 then (some (p2.1, p2.2)) else ((f_X8_sum F p2.2 3 p2.1 (5 : Int32)).bind fun x6 => some (x6, p2.2))))) = some v from h) fun h => r_iload_n D_X9_buy_0 rfl <| r_callS (av := [.int a3]) D_X9_buy_1 ml_X9_163 mf_X9_isBit ms_X9_isBit (x_X9_isBit rfl) (Nat.le_of_ble_eq_true rfl) rfl rfl (Nat.le_of_ble_eq_true rfl) <| r_if_ne D_X9_buy_4 (fun c1 => let_h (ifT c1 h) fun h => r_iconst D_X9_buy_7 ki_m1 <| r_iret hq D_X9_buy_8 rfl (rtW h)) (fun c1 => let_h (ifF c1 h) fun h => r_aload_n D_X9_buy_9 rfl <| r_getR (j := 25) D_X9_buy_10 fl_X9_62 s_0 rfl <| r_iload_n D_X9_buy_13 rfl <| r_aload_n D_X9_buy_14 rfl <| r_getR (j := 3) D_X9_buy_15 fl_X9_19 s_0 rfl <| r_callV (av := []) D_X9_buy_18 ml_X9_112 mf_X8_allThings mv_X8_allThings s_3 rfl rfl (x_X8_allThings trip_3 rfl) (Nat.le_of_ble_eq_true rfl) rfl rfl (Nat.le_of_ble_eq_true rfl) <| r_iand D_X9_buy_21 <| r_iload_n D_X9_buy_22 rfl <| (bdE h).elim fun p2 q3 => let_h q3.2 fun h => r_callV (av := [.int (a1 &&& (f_X8_allThings M 3)), .int a2]) D_X9_buy_23 ml_X9_210 mf_X0_purchase mv_X0_purchase s_25 rfl rfl (x_X0_purchase q3.1) (Nat.le_of_ble_eq_true rfl) rfl rfl (Nat.le_of_ble_eq_true rfl) <| r_istore D_X9_buy_26 (by decide) rfl <| r_iload D_X9_buy_28 rfl <| r_if_lt D_X9_buy_30 (fun c4 => let_h (ifT c4 h) fun h => r_iload D_X9_buy_37 rfl <| r_goto D_X9_buy_39 <| r_iret hq D_X9_buy_52 rfl (rtW h)) (fun c4 => let_h (ifF c4 h) fun h => r_iload_n D_X9_buy_33 rfl <| r_if_ne D_X9_buy_34 (fun c5 => let_h (ifT c5 h) fun h => r_iload D_X9_buy_37 rfl <| r_goto D_X9_buy_39 <| r_iret hq D_X9_buy_52 rfl (rtW h)) (fun c5 => let_h (ifF c5 h) fun h => r_aload_n D_X9_buy_42 rfl <| r_getR (j := 3) D_X9_buy_43 fl_X9_19 s_0 rfl <| r_iload D_X9_buy_46 rfl <| r_iconst D_X9_buy_48 ki_5 <| (bdE h).elim fun x6 q7 => let_h q7.2 fun h => r_callV (av := [.int p2.1, .int (5 : Int32)]) D_X9_buy_49 ml_X9_213 mf_X8_sum mv_X8_sum s_3 rfl rfl (x_X8_sum trip_3 q7.1) (Nat.le_of_ble_eq_true rfl) rfl rfl (Nat.le_of_ble_eq_true rfl) <| r_iret hq D_X9_buy_52 rfl (rtW h))))
-- X9_desk
theorem D_X9_desk_0 : Dec mi_X9_desk 0 (.aload_n 0) 1 1 := ⟨by decide +kernel, rfl⟩
theorem D_X9_desk_1 : Dec mi_X9_desk 1 (.getfield 62) 3 4 := ⟨by decide +kernel, rfl⟩
theorem D_X9_desk_4 : Dec mi_X9_desk 4 (.iload_n 1) 1 5 := ⟨by decide +kernel, rfl⟩
theorem D_X9_desk_5 : Dec mi_X9_desk 5 (.aload_n 0) 1 6 := ⟨by decide +kernel, rfl⟩
theorem D_X9_desk_6 : Dec mi_X9_desk 6 (.getfield 19) 3 9 := ⟨by decide +kernel, rfl⟩
theorem D_X9_desk_9 : Dec mi_X9_desk 9 (.invokevirtual 112) 3 12 := ⟨by decide +kernel, rfl⟩
theorem D_X9_desk_12 : Dec mi_X9_desk 12 (.iand) 1 13 := ⟨by decide +kernel, rfl⟩
theorem D_X9_desk_13 : Dec mi_X9_desk 13 (.iload_n 2) 1 14 := ⟨by decide +kernel, rfl⟩
theorem D_X9_desk_14 : Dec mi_X9_desk 14 (.aload_n 0) 1 15 := ⟨by decide +kernel, rfl⟩
theorem D_X9_desk_15 : Dec mi_X9_desk 15 (.getfield 87) 3 18 := ⟨by decide +kernel, rfl⟩
theorem D_X9_desk_18 : Dec mi_X9_desk 18 (.iconst 0) 1 19 := ⟨by decide +kernel, rfl⟩
theorem D_X9_desk_19 : Dec mi_X9_desk 19 (.iaload) 1 20 := ⟨by decide +kernel, rfl⟩
theorem D_X9_desk_20 : Dec mi_X9_desk 20 (.invokevirtual 216) 3 23 := ⟨by decide +kernel, rfl⟩
theorem D_X9_desk_23 : Dec mi_X9_desk 23 (.ireturn) 1 24 := ⟨by decide +kernel, rfl⟩
def f_X9_desk (F : Nat) (M : Mem) (a1 : Int32) (a2 : Int32) : Option (Int32 × Mem) := if ck (0 : Int32) 3 = true then ((f_X0_takenOff F M (a1 &&& (f_X8_allThings M 3)) a2 (M.1 35 (0 : Int32).toNatClampNeg)).bind fun p2 => some (p2.1, p2.2)) else none
theorem x_X9_desk {l : Launch} {w : Wd} {F : Nat} {M : Mem} {a1 : Int32} {a2 : Int32} {v : Int32 × Mem} (h : f_X9_desk F M a1 a2 = some v) : Cn l w mi_X9_desk yX9_desk (29) [.ref (wq w 0), .int a1, .int a2] M (some (.int v.1), v.2) :=
  Cn_of (loc0 := [some (.ref (wq w 0)), some (.int a1), some (.int a2)]) rfl rfl rfl (Nat.le_of_ble_eq_true rfl) fun κ hq => let_h (show (if ck (0 : Int32) 3 = true then ((f_X0_takenOff F M (a1 &&& (f_X8_allThings M 3)) a2 (M.1 35 (0 : Int32).toNatClampNeg)).bind fun p2 => some (p2.1, p2.2)) else none) = some v from h) fun h => r_aload_n D_X9_desk_0 rfl <| r_getR (j := 25) D_X9_desk_1 fl_X9_62 s_0 rfl <| r_iload_n D_X9_desk_4 rfl <| r_aload_n D_X9_desk_5 rfl <| r_getR (j := 3) D_X9_desk_6 fl_X9_19 s_0 rfl <| r_callV (av := []) D_X9_desk_9 ml_X9_112 mf_X8_allThings mv_X8_allThings s_3 rfl rfl (x_X8_allThings trip_3 rfl) (Nat.le_of_ble_eq_true rfl) rfl rfl (Nat.le_of_ble_eq_true rfl) <| r_iand D_X9_desk_12 <| r_iload_n D_X9_desk_13 rfl <| r_aload_n D_X9_desk_14 rfl <| r_getR (j := 35) D_X9_desk_15 fl_X9_87 s_0 rfl <| r_iconst D_X9_desk_18 ki_0 <| (ckE h).elim fun c1 h => r_iald D_X9_desk_19 s_35 c1 <| (bdE h).elim fun p2 q3 => let_h q3.2 fun h => r_callV (av := [.int (a1 &&& (f_X8_allThings M 3)), .int a2, .int (M.1 35 (0 : Int32).toNatClampNeg)]) D_X9_desk_20 ml_X9_216 mf_X0_takenOff mv_X0_takenOff s_25 rfl rfl (x_X0_takenOff q3.1) (Nat.le_of_ble_eq_true rfl) rfl rfl (Nat.le_of_ble_eq_true rfl) <| r_iret hq D_X9_desk_23 rfl (rtW h)
-- X9_pack
theorem D_X9_pack_0 : Dec mi_X9_pack 0 (.iload_n 1) 1 1 := ⟨by decide +kernel, rfl⟩
theorem D_X9_pack_1 : Dec mi_X9_pack 1 (.aload_n 0) 1 2 := ⟨by decide +kernel, rfl⟩
theorem D_X9_pack_2 : Dec mi_X9_pack 2 (.getfield 19) 3 5 := ⟨by decide +kernel, rfl⟩
theorem D_X9_pack_5 : Dec mi_X9_pack 5 (.invokevirtual 112) 3 8 := ⟨by decide +kernel, rfl⟩
theorem D_X9_pack_8 : Dec mi_X9_pack 8 (.iand) 1 9 := ⟨by decide +kernel, rfl⟩
theorem D_X9_pack_9 : Dec mi_X9_pack 9 (.istore 4) 2 11 := ⟨by decide +kernel, rfl⟩
theorem D_X9_pack_11 : Dec mi_X9_pack 11 (.iload_n 3) 1 12 := ⟨by decide +kernel, rfl⟩
theorem D_X9_pack_12 : Dec mi_X9_pack 12 (.iconst (-1)) 1 13 := ⟨by decide +kernel, rfl⟩
theorem D_X9_pack_13 : DecJ mi_X9_pack 13 (.if_icmp .eq 14) (14) 16 27 := ⟨by decide +kernel, rfl, by decide⟩
theorem D_X9_pack_16 : Dec mi_X9_pack 16 (.iload 4) 2 18 := ⟨by decide +kernel, rfl⟩
theorem D_X9_pack_18 : Dec mi_X9_pack 18 (.iload_n 3) 1 19 := ⟨by decide +kernel, rfl⟩
theorem D_X9_pack_19 : Dec mi_X9_pack 19 (.invokestatic 157) 3 22 := ⟨by decide +kernel, rfl⟩
theorem D_X9_pack_22 : DecJ mi_X9_pack 22 (.ifCond .ne 5) (5) 25 27 := ⟨by decide +kernel, rfl, by decide⟩
theorem D_X9_pack_25 : Dec mi_X9_pack 25 (.iconst (-1)) 1 26 := ⟨by decide +kernel, rfl⟩
theorem D_X9_pack_26 : Dec mi_X9_pack 26 (.ireturn) 1 27 := ⟨by decide +kernel, rfl⟩
theorem D_X9_pack_27 : Dec mi_X9_pack 27 (.aload_n 0) 1 28 := ⟨by decide +kernel, rfl⟩
theorem D_X9_pack_28 : Dec mi_X9_pack 28 (.getfield 53) 3 31 := ⟨by decide +kernel, rfl⟩
theorem D_X9_pack_31 : Dec mi_X9_pack 31 (.iload 4) 2 33 := ⟨by decide +kernel, rfl⟩
theorem D_X9_pack_33 : Dec mi_X9_pack 33 (.iload_n 2) 1 34 := ⟨by decide +kernel, rfl⟩
theorem D_X9_pack_34 : Dec mi_X9_pack 34 (.invokevirtual 185) 3 37 := ⟨by decide +kernel, rfl⟩
theorem D_X9_pack_37 : DecJ mi_X9_pack 37 (.ifCond .ne 6) (6) 40 43 := ⟨by decide +kernel, rfl, by decide⟩
theorem D_X9_pack_40 : Dec mi_X9_pack 40 (.bipush (-2)) 2 42 := ⟨by decide +kernel, rfl⟩
theorem D_X9_pack_42 : Dec mi_X9_pack 42 (.ireturn) 1 43 := ⟨by decide +kernel, rfl⟩
theorem D_X9_pack_43 : Dec mi_X9_pack 43 (.aload_n 0) 1 44 := ⟨by decide +kernel, rfl⟩
theorem D_X9_pack_44 : Dec mi_X9_pack 44 (.getfield 69) 3 47 := ⟨by decide +kernel, rfl⟩
theorem D_X9_pack_47 : Dec mi_X9_pack 47 (.iload 4) 2 49 := ⟨by decide +kernel, rfl⟩
theorem D_X9_pack_49 : Dec mi_X9_pack 49 (.aload_n 0) 1 50 := ⟨by decide +kernel, rfl⟩
theorem D_X9_pack_50 : Dec mi_X9_pack 50 (.getfield 87) 3 53 := ⟨by decide +kernel, rfl⟩
theorem D_X9_pack_53 : Dec mi_X9_pack 53 (.iconst 1) 1 54 := ⟨by decide +kernel, rfl⟩
theorem D_X9_pack_54 : Dec mi_X9_pack 54 (.iaload) 1 55 := ⟨by decide +kernel, rfl⟩
theorem D_X9_pack_55 : Dec mi_X9_pack 55 (.aload_n 0) 1 56 := ⟨by decide +kernel, rfl⟩
theorem D_X9_pack_56 : Dec mi_X9_pack 56 (.getfield 87) 3 59 := ⟨by decide +kernel, rfl⟩
theorem D_X9_pack_59 : Dec mi_X9_pack 59 (.iconst 2) 1 60 := ⟨by decide +kernel, rfl⟩
theorem D_X9_pack_60 : Dec mi_X9_pack 60 (.iaload) 1 61 := ⟨by decide +kernel, rfl⟩
theorem D_X9_pack_61 : Dec mi_X9_pack 61 (.invokevirtual 220) 3 64 := ⟨by decide +kernel, rfl⟩
theorem D_X9_pack_64 : DecJ mi_X9_pack 64 (.ifCond .ne 6) (6) 67 70 := ⟨by decide +kernel, rfl, by decide⟩
theorem D_X9_pack_67 : Dec mi_X9_pack 67 (.bipush (-9)) 2 69 := ⟨by decide +kernel, rfl⟩
theorem D_X9_pack_69 : Dec mi_X9_pack 69 (.ireturn) 1 70 := ⟨by decide +kernel, rfl⟩
theorem D_X9_pack_70 : Dec mi_X9_pack 70 (.iload_n 3) 1 71 := ⟨by decide +kernel, rfl⟩
theorem D_X9_pack_71 : Dec mi_X9_pack 71 (.iconst (-1)) 1 72 := ⟨by decide +kernel, rfl⟩
theorem D_X9_pack_72 : DecJ mi_X9_pack 72 (.if_icmp .ne 13) (13) 75 85 := ⟨by decide +kernel, rfl, by decide⟩
theorem D_X9_pack_75 : Dec mi_X9_pack 75 (.aload_n 0) 1 76 := ⟨by decide +kernel, rfl⟩
theorem D_X9_pack_76 : Dec mi_X9_pack 76 (.getfield 69) 3 79 := ⟨by decide +kernel, rfl⟩
theorem D_X9_pack_79 : Dec mi_X9_pack 79 (.invokevirtual 224) 3 82 := ⟨by decide +kernel, rfl⟩
theorem D_X9_pack_82 : DecJ mi_X9_pack 82 (.goto 11) (11) 85 93 := ⟨by decide +kernel, rfl, by decide⟩
theorem D_X9_pack_85 : Dec mi_X9_pack 85 (.aload_n 0) 1 86 := ⟨by decide +kernel, rfl⟩
theorem D_X9_pack_86 : Dec mi_X9_pack 86 (.getfield 69) 3 89 := ⟨by decide +kernel, rfl⟩
theorem D_X9_pack_89 : Dec mi_X9_pack 89 (.iload_n 3) 1 90 := ⟨by decide +kernel, rfl⟩
theorem D_X9_pack_90 : Dec mi_X9_pack 90 (.invokevirtual 227) 3 93 := ⟨by decide +kernel, rfl⟩
theorem D_X9_pack_93 : Dec mi_X9_pack 93 (.ireturn) 1 94 := ⟨by decide +kernel, rfl⟩
def f_X9_pack_27 (F : Nat) (y2 : Int32) (y3 : Int32) (y4 : Int32) (N : Mem) : Option (Int32 × Mem) := (f_X5_find F N y4 y2).bind fun p1 => if p1.1 = 0 then (some ((-2 : Int32), p1.2)) else (if ck (1 : Int32) 3 = true then (if ck (2 : Int32) 3 = true then ((f_X4_arrange F p1.2 y4 (p1.2.1 35 (1 : Int32).toNatClampNeg) (p1.2.1 35 (2 : Int32).toNatClampNeg)).bind fun p6 => if p6.1 = 0 then (some ((-9 : Int32), p6.2)) else (if y3 = (-1 : Int32) then (some ((f_X4_trouble p6.2), p6.2)) else ((f_X4_layerOf p6.2 y3).bind fun x10 => some (x10, p6.2)))) else none) else none)
theorem x_X9_pack_27 {l : Launch} {w : Wd} {κ : Kp} {F : Nat} {v : Int32 × Mem} (hq : RQ w (some (.int v.1), v.2) κ) (y2 : Int32) (y3 : Int32) (y4 : Int32) (N : Mem) (h : f_X9_pack_27 F y2 y3 y4 N = some v) : RR l w mi_X9_pack (28) κ 27 [] [some (.ref (wq w 0)), none, some (.int y2), some (.int y3), some (.int y4)] N := let_h (show ((f_X5_find F N y4 y2).bind fun p1 => if p1.1 = 0 then (some ((-2 : Int32), p1.2)) else (if ck (1 : Int32) 3 = true then (if ck (2 : Int32) 3 = true then ((f_X4_arrange F p1.2 y4 (p1.2.1 35 (1 : Int32).toNatClampNeg) (p1.2.1 35 (2 : Int32).toNatClampNeg)).bind fun p6 => if p6.1 = 0 then (some ((-9 : Int32), p6.2)) else (if y3 = (-1 : Int32) then (some ((f_X4_trouble p6.2), p6.2)) else ((f_X4_layerOf p6.2 y3).bind fun x10 => some (x10, p6.2)))) else none) else none)) = some v from h) fun h => r_aload_n D_X9_pack_27 rfl <| r_getR (j := 17) D_X9_pack_28 fl_X9_53 s_0 rfl <| r_iload D_X9_pack_31 rfl <| r_iload_n D_X9_pack_33 rfl <| (bdE h).elim fun p1 q2 => let_h q2.2 fun h => r_callV (av := [.int y4, .int y2]) D_X9_pack_34 ml_X9_185 mf_X5_find mv_X5_find s_17 rfl rfl (x_X5_find q2.1) (Nat.le_of_ble_eq_true rfl) rfl rfl (Nat.le_of_ble_eq_true rfl) <| r_if_ne D_X9_pack_37 (fun c3 => let_h (ifT c3 h) fun h => r_bipush D_X9_pack_40 k8_m2 <| r_iret hq D_X9_pack_42 rfl (rtW h)) (fun c3 => let_h (ifF c3 h) fun h => r_aload_n D_X9_pack_43 rfl <| r_getR (j := 27) D_X9_pack_44 fl_X9_69 s_0 rfl <| r_iload D_X9_pack_47 rfl <| r_aload_n D_X9_pack_49 rfl <| r_getR (j := 35) D_X9_pack_50 fl_X9_87 s_0 rfl <| r_iconst D_X9_pack_53 ki_1 <| (ckE h).elim fun c4 h => r_iald D_X9_pack_54 s_35 c4 <| r_aload_n D_X9_pack_55 rfl <| r_getR (j := 35) D_X9_pack_56 fl_X9_87 s_0 rfl <| r_iconst D_X9_pack_59 ki_2 <| (ckE h).elim fun c5 h => r_iald D_X9_pack_60 s_35 c5 <| (bdE h).elim fun p6 q7 => let_h q7.2 fun h => r_callV (av := [.int y4, .int (p1.2.1 35 (1 : Int32).toNatClampNeg), .int (p1.2.1 35 (2 : Int32).toNatClampNeg)]) D_X9_pack_61 ml_X9_220 mf_X4_arrange mv_X4_arrange s_27 rfl rfl (x_X4_arrange q7.1) (Nat.le_of_ble_eq_true rfl) rfl rfl (Nat.le_of_ble_eq_true rfl) <| r_if_ne D_X9_pack_64 (fun c8 => let_h (ifT c8 h) fun h => r_bipush D_X9_pack_67 k8_m9 <| r_iret hq D_X9_pack_69 rfl (rtW h)) (fun c8 => let_h (ifF c8 h) fun h => r_iload_n D_X9_pack_70 rfl <| r_iconst D_X9_pack_71 ki_m1 <| r_icmp_ne D_X9_pack_72 (fun c9 => let_h (ifT c9 h) fun h => r_aload_n D_X9_pack_75 rfl <| r_getR (j := 27) D_X9_pack_76 fl_X9_69 s_0 rfl <| r_callV (av := []) D_X9_pack_79 ml_X9_224 mf_X4_trouble mv_X4_trouble s_27 rfl rfl (x_X4_trouble rfl) (Nat.le_of_ble_eq_true rfl) rfl rfl (Nat.le_of_ble_eq_true rfl) <| r_goto D_X9_pack_82 <| r_iret hq D_X9_pack_93 rfl (rtW h)) (fun c9 => let_h (ifF c9 h) fun h => r_aload_n D_X9_pack_85 rfl <| r_getR (j := 27) D_X9_pack_86 fl_X9_69 s_0 rfl <| r_iload_n D_X9_pack_89 rfl <| (bdE h).elim fun x10 q11 => let_h q11.2 fun h => r_callV (av := [.int y3]) D_X9_pack_90 ml_X9_227 mf_X4_layerOf mv_X4_layerOf s_27 rfl rfl (x_X4_layerOf q11.1) (Nat.le_of_ble_eq_true rfl) rfl rfl (Nat.le_of_ble_eq_true rfl) <| r_iret hq D_X9_pack_93 rfl (rtW h))))
def f_X9_pack (F : Nat) (M : Mem) (a1 : Int32) (a2 : Int32) (a3 : Int32) : Option (Int32 × Mem) := if a3 = (-1 : Int32) then (f_X9_pack_27 F a2 a3 (a1 &&& (f_X8_allThings M 3)) M) else (if (f_X9_has M (a1 &&& (f_X8_allThings M 3)) a3) = 0 then (some ((-1 : Int32), M)) else (f_X9_pack_27 F a2 a3 (a1 &&& (f_X8_allThings M 3)) M))
theorem x_X9_pack {l : Launch} {w : Wd} {F : Nat} {M : Mem} {a1 : Int32} {a2 : Int32} {a3 : Int32} {v : Int32 × Mem} (h : f_X9_pack F M a1 a2 a3 = some v) : Cn l w mi_X9_pack yX9_pack (28) [.ref (wq w 0), .int a1, .int a2, .int a3] M (some (.int v.1), v.2) :=
  Cn_of (loc0 := [some (.ref (wq w 0)), some (.int a1), some (.int a2), some (.int a3), none]) rfl rfl rfl (Nat.le_of_ble_eq_true rfl) fun κ hq => let_h (show (if a3 = (-1 : Int32) then (f_X9_pack_27 F a2 a3 (a1 &&& (f_X8_allThings M 3)) M) else (if (f_X9_has M (a1 &&& (f_X8_allThings M 3)) a3) = 0 then (some ((-1 : Int32), M)) else (f_X9_pack_27 F a2 a3 (a1 &&& (f_X8_allThings M 3)) M))) = some v from h) fun h => r_iload_n D_X9_pack_0 rfl <| r_aload_n D_X9_pack_1 rfl <| r_getR (j := 3) D_X9_pack_2 fl_X9_19 s_0 rfl <| r_callV (av := []) D_X9_pack_5 ml_X9_112 mf_X8_allThings mv_X8_allThings s_3 rfl rfl (x_X8_allThings trip_3 rfl) (Nat.le_of_ble_eq_true rfl) rfl rfl (Nat.le_of_ble_eq_true rfl) <| r_iand D_X9_pack_8 <| r_istore D_X9_pack_9 (by decide) rfl <| r_iload_n D_X9_pack_11 rfl <| r_iconst D_X9_pack_12 ki_m1 <| r_icmp_eq D_X9_pack_13 (fun c1 => let_h (ifT c1 h) fun h => r_ls (x_X9_pack_27 hq a2 a3 (a1 &&& (f_X8_allThings M 3)) M h) ⟨rfl, ⟨rfl, ⟨rfl, ⟨rfl, trivial⟩⟩⟩⟩) (fun c1 => let_h (ifF c1 h) fun h => r_iload D_X9_pack_16 rfl <| r_iload_n D_X9_pack_18 rfl <| r_callS (av := [.int (a1 &&& (f_X8_allThings M 3)), .int a3]) D_X9_pack_19 ml_X9_157 mf_X9_has ms_X9_has (x_X9_has rfl) (Nat.le_of_ble_eq_true rfl) rfl rfl (Nat.le_of_ble_eq_true rfl) <| r_if_ne D_X9_pack_22 (fun c2 => let_h (ifT c2 h) fun h => r_iconst D_X9_pack_25 ki_m1 <| r_iret hq D_X9_pack_26 rfl (rtW h)) (fun c2 => let_h (ifF c2 h) fun h => r_ls (x_X9_pack_27 hq a2 a3 (a1 &&& (f_X8_allThings M 3)) M h) ⟨rfl, ⟨rfl, ⟨rfl, ⟨rfl, trivial⟩⟩⟩⟩))
-- X9_allGo
theorem D_X9_allGo_0 : Dec mi_X9_allGo 0 (.iload_n 1) 1 1 := ⟨by decide +kernel, rfl⟩
theorem D_X9_allGo_1 : Dec mi_X9_allGo 1 (.invokestatic 163) 3 4 := ⟨by decide +kernel, rfl⟩
theorem D_X9_allGo_4 : DecJ mi_X9_allGo 4 (.ifCond .ne 5) (5) 7 9 := ⟨by decide +kernel, rfl, by decide⟩
theorem D_X9_allGo_7 : Dec mi_X9_allGo 7 (.iconst (-1)) 1 8 := ⟨by decide +kernel, rfl⟩
theorem D_X9_allGo_8 : Dec mi_X9_allGo 8 (.ireturn) 1 9 := ⟨by decide +kernel, rfl⟩
theorem D_X9_allGo_9 : Dec mi_X9_allGo 9 (.aload_n 0) 1 10 := ⟨by decide +kernel, rfl⟩
theorem D_X9_allGo_10 : Dec mi_X9_allGo 10 (.getfield 62) 3 13 := ⟨by decide +kernel, rfl⟩
theorem D_X9_allGo_13 : Dec mi_X9_allGo 13 (.invokevirtual 230) 3 16 := ⟨by decide +kernel, rfl⟩
theorem D_X9_allGo_16 : Dec mi_X9_allGo 16 (.istore_n 2) 1 17 := ⟨by decide +kernel, rfl⟩
theorem D_X9_allGo_17 : Dec mi_X9_allGo 17 (.iload_n 1) 1 18 := ⟨by decide +kernel, rfl⟩
theorem D_X9_allGo_18 : DecJ mi_X9_allGo 18 (.ifCond .ne 7) (7) 21 25 := ⟨by decide +kernel, rfl, by decide⟩
theorem D_X9_allGo_21 : Dec mi_X9_allGo 21 (.iload_n 2) 1 22 := ⟨by decide +kernel, rfl⟩
theorem D_X9_allGo_22 : DecJ mi_X9_allGo 22 (.goto 7) (7) 25 29 := ⟨by decide +kernel, rfl, by decide⟩
theorem D_X9_allGo_25 : Dec mi_X9_allGo 25 (.iload_n 2) 1 26 := ⟨by decide +kernel, rfl⟩
theorem D_X9_allGo_26 : Dec mi_X9_allGo 26 (.invokestatic 233) 3 29 := ⟨by decide +kernel, rfl⟩
theorem D_X9_allGo_29 : Dec mi_X9_allGo 29 (.ireturn) 1 30 := ⟨by decide +kernel, rfl⟩
def f_X9_allGo (F : Nat) (M : Mem) (a1 : Int32) : Option Int32 := if (f_X9_isBit M a1) = 0 then (some (-1 : Int32)) else ((f_X0_largestMatch F M).bind fun x2 => if a1 = 0 then (some x2) else (some (f_J6_bitCount_0f7a4 M x2)))
theorem x_X9_allGo {l : Launch} {w : Wd} {F : Nat} {M : Mem} {a1 : Int32} {v : Int32} (h : f_X9_allGo F M a1 = some v) : Cn l w mi_X9_allGo yX9_allGo (4) [.ref (wq w 0), .int a1] M (some (.int v), M) :=
  Cn_of (loc0 := [some (.ref (wq w 0)), some (.int a1), none]) rfl rfl rfl (Nat.le_of_ble_eq_true rfl) fun κ hq => let_h (show (if (f_X9_isBit M a1) = 0 then (some (-1 : Int32)) else ((f_X0_largestMatch F M).bind fun x2 => if a1 = 0 then (some x2) else (some (f_J6_bitCount_0f7a4 M x2)))) = some v from h) fun h => r_iload_n D_X9_allGo_0 rfl <| r_callS (av := [.int a1]) D_X9_allGo_1 ml_X9_163 mf_X9_isBit ms_X9_isBit (x_X9_isBit rfl) (Nat.le_of_ble_eq_true rfl) rfl rfl (Nat.le_of_ble_eq_true rfl) <| r_if_ne D_X9_allGo_4 (fun c1 => let_h (ifT c1 h) fun h => r_iconst D_X9_allGo_7 ki_m1 <| r_iret hq D_X9_allGo_8 rfl (rtP h)) (fun c1 => let_h (ifF c1 h) fun h => r_aload_n D_X9_allGo_9 rfl <| r_getR (j := 25) D_X9_allGo_10 fl_X9_62 s_0 rfl <| (bdE h).elim fun x2 q3 => let_h q3.2 fun h => r_callV (av := []) D_X9_allGo_13 ml_X9_230 mf_X0_largestMatch mv_X0_largestMatch s_25 rfl rfl (x_X0_largestMatch q3.1) (Nat.le_of_ble_eq_true rfl) rfl rfl (Nat.le_of_ble_eq_true rfl) <| r_istore_n D_X9_allGo_16 (by decide) rfl <| r_iload_n D_X9_allGo_17 rfl <| r_if_ne D_X9_allGo_18 (fun c4 => let_h (ifT c4 h) fun h => r_iload_n D_X9_allGo_21 rfl <| r_goto D_X9_allGo_22 <| r_iret hq D_X9_allGo_29 rfl (rtP h)) (fun c4 => let_h (ifF c4 h) fun h => r_iload_n D_X9_allGo_25 rfl <| r_callS (av := [.int x2]) D_X9_allGo_26 ml_X9_233 mf_J6_bitCount_0f7a4 ms_J6_bitCount_0f7a4 (x_J6_bitCount_0f7a4 rfl) (Nat.le_of_ble_eq_true rfl) rfl rfl (Nat.le_of_ble_eq_true rfl) <| r_iret hq D_X9_allGo_29 rfl (rtP h)))
-- X9_again
theorem D_X9_again_0 : Dec mi_X9_again 0 (.aload_n 0) 1 1 := ⟨by decide +kernel, rfl⟩
theorem D_X9_again_1 : Dec mi_X9_again 1 (.getfield 19) 3 4 := ⟨by decide +kernel, rfl⟩
theorem D_X9_again_4 : Dec mi_X9_again 4 (.invokevirtual 238) 3 7 := ⟨by decide +kernel, rfl⟩
theorem D_X9_again_7 : DecJ mi_X9_again 7 (.ifCond .ne 8) (8) 10 15 := ⟨by decide +kernel, rfl, by decide⟩
theorem D_X9_again_10 : Dec mi_X9_again 10 (.bipush (-2)) 2 12 := ⟨by decide +kernel, rfl⟩
theorem D_X9_again_12 : DecJ mi_X9_again 12 (.goto 19) (19) 15 31 := ⟨by decide +kernel, rfl, by decide⟩
theorem D_X9_again_15 : Dec mi_X9_again 15 (.aload_n 0) 1 16 := ⟨by decide +kernel, rfl⟩
theorem D_X9_again_16 : Dec mi_X9_again 16 (.getfield 53) 3 19 := ⟨by decide +kernel, rfl⟩
theorem D_X9_again_19 : Dec mi_X9_again 19 (.iload_n 1) 1 20 := ⟨by decide +kernel, rfl⟩
theorem D_X9_again_20 : Dec mi_X9_again 20 (.aload_n 0) 1 21 := ⟨by decide +kernel, rfl⟩
theorem D_X9_again_21 : Dec mi_X9_again 21 (.getfield 19) 3 24 := ⟨by decide +kernel, rfl⟩
theorem D_X9_again_24 : Dec mi_X9_again 24 (.invokevirtual 112) 3 27 := ⟨by decide +kernel, rfl⟩
theorem D_X9_again_27 : Dec mi_X9_again 27 (.iand) 1 28 := ⟨by decide +kernel, rfl⟩
theorem D_X9_again_28 : Dec mi_X9_again 28 (.invokevirtual 241) 3 31 := ⟨by decide +kernel, rfl⟩
theorem D_X9_again_31 : Dec mi_X9_again 31 (.ireturn) 1 32 := ⟨by decide +kernel, rfl⟩
def f_X9_again (F : Nat) (M : Mem) (a1 : Int32) : Option (Int32 × Mem) := if (f_X8_days M 3) = 0 then (some ((-2 : Int32), M)) else ((f_X5_times F M (a1 &&& (f_X8_allThings M 3))).bind fun p2 => some (p2.1, p2.2))
theorem x_X9_again {l : Launch} {w : Wd} {F : Nat} {M : Mem} {a1 : Int32} {v : Int32 × Mem} (h : f_X9_again F M a1 = some v) : Cn l w mi_X9_again yX9_again (5) [.ref (wq w 0), .int a1] M (some (.int v.1), v.2) :=
  Cn_of (loc0 := [some (.ref (wq w 0)), some (.int a1)]) rfl rfl rfl (Nat.le_of_ble_eq_true rfl) fun κ hq => let_h (show (if (f_X8_days M 3) = 0 then (some ((-2 : Int32), M)) else ((f_X5_times F M (a1 &&& (f_X8_allThings M 3))).bind fun p2 => some (p2.1, p2.2))) = some v from h) fun h => r_aload_n D_X9_again_0 rfl <| r_getR (j := 3) D_X9_again_1 fl_X9_19 s_0 rfl <| r_callV (av := []) D_X9_again_4 ml_X9_238 mf_X8_days mv_X8_days s_3 rfl rfl (x_X8_days trip_3 rfl) (Nat.le_of_ble_eq_true rfl) rfl rfl (Nat.le_of_ble_eq_true rfl) <| r_if_ne D_X9_again_7 (fun c1 => let_h (ifT c1 h) fun h => r_bipush D_X9_again_10 k8_m2 <| r_goto D_X9_again_12 <| r_iret hq D_X9_again_31 rfl (rtW h)) (fun c1 => let_h (ifF c1 h) fun h => r_aload_n D_X9_again_15 rfl <| r_getR (j := 17) D_X9_again_16 fl_X9_53 s_0 rfl <| r_iload_n D_X9_again_19 rfl <| r_aload_n D_X9_again_20 rfl <| r_getR (j := 3) D_X9_again_21 fl_X9_19 s_0 rfl <| r_callV (av := []) D_X9_again_24 ml_X9_112 mf_X8_allThings mv_X8_allThings s_3 rfl rfl (x_X8_allThings trip_3 rfl) (Nat.le_of_ble_eq_true rfl) rfl rfl (Nat.le_of_ble_eq_true rfl) <| r_iand D_X9_again_27 <| (bdE h).elim fun p2 q3 => let_h q3.2 fun h => r_callV (av := [.int (a1 &&& (f_X8_allThings M 3))]) D_X9_again_28 ml_X9_241 mf_X5_times mv_X5_times s_17 rfl rfl (x_X5_times q3.1) (Nat.le_of_ble_eq_true rfl) rfl rfl (Nat.le_of_ble_eq_true rfl) <| r_iret hq D_X9_again_31 rfl (rtW h))
-- X9_list
theorem D_X9_list_0 : Dec mi_X9_list 0 (.iload_n 1) 1 1 := ⟨by decide +kernel, rfl⟩
theorem D_X9_list_1 : DecJ mi_X9_list 1 (.ifCond .lt 18) (18) 4 19 := ⟨by decide +kernel, rfl, by decide⟩
theorem D_X9_list_4 : Dec mi_X9_list 4 (.iload_n 1) 1 5 := ⟨by decide +kernel, rfl⟩
theorem D_X9_list_5 : Dec mi_X9_list 5 (.bipush 99) 2 7 := ⟨by decide +kernel, rfl⟩
theorem D_X9_list_7 : DecJ mi_X9_list 7 (.if_icmp .gt 12) (12) 10 19 := ⟨by decide +kernel, rfl, by decide⟩
theorem D_X9_list_10 : Dec mi_X9_list 10 (.iload_n 2) 1 11 := ⟨by decide +kernel, rfl⟩
theorem D_X9_list_11 : DecJ mi_X9_list 11 (.ifCond .lt 8) (8) 14 19 := ⟨by decide +kernel, rfl, by decide⟩
theorem D_X9_list_14 : Dec mi_X9_list 14 (.iload_n 2) 1 15 := ⟨by decide +kernel, rfl⟩
theorem D_X9_list_15 : Dec mi_X9_list 15 (.iload_n 1) 1 16 := ⟨by decide +kernel, rfl⟩
theorem D_X9_list_16 : DecJ mi_X9_list 16 (.if_icmp .le 5) (5) 19 21 := ⟨by decide +kernel, rfl, by decide⟩
theorem D_X9_list_19 : Dec mi_X9_list 19 (.iconst (-1)) 1 20 := ⟨by decide +kernel, rfl⟩
theorem D_X9_list_20 : Dec mi_X9_list 20 (.ireturn) 1 21 := ⟨by decide +kernel, rfl⟩
theorem D_X9_list_21 : Dec mi_X9_list 21 (.aload_n 0) 1 22 := ⟨by decide +kernel, rfl⟩
theorem D_X9_list_22 : Dec mi_X9_list 22 (.getfield 76) 3 25 := ⟨by decide +kernel, rfl⟩
theorem D_X9_list_25 : Dec mi_X9_list 25 (.iload_n 1) 1 26 := ⟨by decide +kernel, rfl⟩
theorem D_X9_list_26 : Dec mi_X9_list 26 (.iload_n 2) 1 27 := ⟨by decide +kernel, rfl⟩
theorem D_X9_list_27 : Dec mi_X9_list 27 (.invokevirtual 244) 3 30 := ⟨by decide +kernel, rfl⟩
theorem D_X9_list_30 : DecJ mi_X9_list 30 (.ifCond .eq 13) (13) 33 43 := ⟨by decide +kernel, rfl, by decide⟩
theorem D_X9_list_33 : Dec mi_X9_list 33 (.aload_n 0) 1 34 := ⟨by decide +kernel, rfl⟩
theorem D_X9_list_34 : Dec mi_X9_list 34 (.getfield 76) 3 37 := ⟨by decide +kernel, rfl⟩
theorem D_X9_list_37 : Dec mi_X9_list 37 (.invokevirtual 246) 3 40 := ⟨by decide +kernel, rfl⟩
theorem D_X9_list_40 : DecJ mi_X9_list 40 (.goto 5) (5) 43 45 := ⟨by decide +kernel, rfl, by decide⟩
theorem D_X9_list_43 : Dec mi_X9_list 43 (.bipush (-3)) 2 45 := ⟨by decide +kernel, rfl⟩
theorem D_X9_list_45 : Dec mi_X9_list 45 (.ireturn) 1 46 := ⟨by decide +kernel, rfl⟩
def f_X9_list (F : Nat) (M : Mem) (a1 : Int32) (a2 : Int32) : Option (Int32 × Mem) := if a1 < 0 then (some ((-1 : Int32), M)) else (if (99 : Int32) < a1 then (some ((-1 : Int32), M)) else (if a2 < 0 then (some ((-1 : Int32), M)) else (if a2 ≤ a1 then ((f_X3_add F M a1 a2).bind fun p5 => if p5.1 = 0 then (some ((-3 : Int32), p5.2)) else (some ((f_X3_size p5.2), p5.2))) else (some ((-1 : Int32), M)))))
theorem x_X9_list {l : Launch} {w : Wd} {F : Nat} {M : Mem} {a1 : Int32} {a2 : Int32} {v : Int32 × Mem} (h : f_X9_list F M a1 a2 = some v) : Cn l w mi_X9_list yX9_list (1) [.ref (wq w 0), .int a1, .int a2] M (some (.int v.1), v.2) :=
  Cn_of (loc0 := [some (.ref (wq w 0)), some (.int a1), some (.int a2)]) rfl rfl rfl (Nat.le_of_ble_eq_true rfl) fun κ hq => let_h (show (if a1 < 0 then (some ((-1 : Int32), M)) else (if (99 : Int32) < a1 then (some ((-1 : Int32), M)) else (if a2 < 0 then (some ((-1 : Int32), M)) else (if a2 ≤ a1 then ((f_X3_add F M a1 a2).bind fun p5 => if p5.1 = 0 then (some ((-3 : Int32), p5.2)) else (some ((f_X3_size p5.2), p5.2))) else (some ((-1 : Int32), M)))))) = some v from h) fun h => r_iload_n D_X9_list_0 rfl <| r_if_lt D_X9_list_1 (fun c1 => let_h (ifT c1 h) fun h => r_iconst D_X9_list_19 ki_m1 <| r_iret hq D_X9_list_20 rfl (rtW h)) (fun c1 => let_h (ifF c1 h) fun h => r_iload_n D_X9_list_4 rfl <| r_bipush D_X9_list_5 k8_99 <| r_icmp_gt D_X9_list_7 (fun c2 => let_h (ifT c2 h) fun h => r_iconst D_X9_list_19 ki_m1 <| r_iret hq D_X9_list_20 rfl (rtW h)) (fun c2 => let_h (ifF c2 h) fun h => r_iload_n D_X9_list_10 rfl <| r_if_lt D_X9_list_11 (fun c3 => let_h (ifT c3 h) fun h => r_iconst D_X9_list_19 ki_m1 <| r_iret hq D_X9_list_20 rfl (rtW h)) (fun c3 => let_h (ifF c3 h) fun h => r_iload_n D_X9_list_14 rfl <| r_iload_n D_X9_list_15 rfl <| r_icmp_le D_X9_list_16 (fun c4 => let_h (ifT c4 h) fun h => r_aload_n D_X9_list_21 rfl <| r_getR (j := 32) D_X9_list_22 fl_X9_76 s_0 rfl <| r_iload_n D_X9_list_25 rfl <| r_iload_n D_X9_list_26 rfl <| (bdE h).elim fun p5 q6 => let_h q6.2 fun h => r_callV (av := [.int a1, .int a2]) D_X9_list_27 ml_X9_244 mf_X3_add mv_X3_add s_32 rfl rfl (x_X3_add q6.1) (Nat.le_of_ble_eq_true rfl) rfl rfl (Nat.le_of_ble_eq_true rfl) <| r_if_eq D_X9_list_30 (fun c7 => let_h (ifT c7 h) fun h => r_bipush D_X9_list_43 k8_m3 <| r_iret hq D_X9_list_45 rfl (rtW h)) (fun c7 => let_h (ifF c7 h) fun h => r_aload_n D_X9_list_33 rfl <| r_getR (j := 32) D_X9_list_34 fl_X9_76 s_0 rfl <| r_callV (av := []) D_X9_list_37 ml_X9_246 mf_X3_size mv_X3_size s_32 rfl rfl (x_X3_size rfl) (Nat.le_of_ble_eq_true rfl) rfl rfl (Nat.le_of_ble_eq_true rfl) <| r_goto D_X9_list_40 <| r_iret hq D_X9_list_45 rfl (rtW h))) (fun c4 => let_h (ifF c4 h) fun h => r_iconst D_X9_list_19 ki_m1 <| r_iret hq D_X9_list_20 rfl (rtW h)))))
-- X9_span
theorem D_X9_span_0 : Dec mi_X9_span 0 (.iload_n 1) 1 1 := ⟨by decide +kernel, rfl⟩
theorem D_X9_span_1 : DecJ mi_X9_span 1 (.ifCond .lt 8) (8) 4 9 := ⟨by decide +kernel, rfl, by decide⟩
theorem D_X9_span_4 : Dec mi_X9_span 4 (.iload_n 1) 1 5 := ⟨by decide +kernel, rfl⟩
theorem D_X9_span_5 : Dec mi_X9_span 5 (.iconst 4) 1 6 := ⟨by decide +kernel, rfl⟩
theorem D_X9_span_6 : DecJ mi_X9_span 6 (.if_icmp .le 5) (5) 9 11 := ⟨by decide +kernel, rfl, by decide⟩
theorem D_X9_span_9 : Dec mi_X9_span 9 (.iconst (-1)) 1 10 := ⟨by decide +kernel, rfl⟩
theorem D_X9_span_10 : Dec mi_X9_span 10 (.ireturn) 1 11 := ⟨by decide +kernel, rfl⟩
theorem D_X9_span_11 : Dec mi_X9_span 11 (.iload_n 1) 1 12 := ⟨by decide +kernel, rfl⟩
theorem D_X9_span_12 : Dec mi_X9_span 12 (.iconst 3) 1 13 := ⟨by decide +kernel, rfl⟩
theorem D_X9_span_13 : DecJ mi_X9_span 13 (.if_icmp .ne 11) (11) 16 24 := ⟨by decide +kernel, rfl, by decide⟩
theorem D_X9_span_16 : Dec mi_X9_span 16 (.aload_n 0) 1 17 := ⟨by decide +kernel, rfl⟩
theorem D_X9_span_17 : Dec mi_X9_span 17 (.getfield 76) 3 20 := ⟨by decide +kernel, rfl⟩
theorem D_X9_span_20 : Dec mi_X9_span 20 (.invokevirtual 249) 3 23 := ⟨by decide +kernel, rfl⟩
theorem D_X9_span_23 : Dec mi_X9_span 23 (.ireturn) 1 24 := ⟨by decide +kernel, rfl⟩
theorem D_X9_span_24 : Dec mi_X9_span 24 (.iload_n 1) 1 25 := ⟨by decide +kernel, rfl⟩
theorem D_X9_span_25 : Dec mi_X9_span 25 (.iconst 4) 1 26 := ⟨by decide +kernel, rfl⟩
theorem D_X9_span_26 : DecJ mi_X9_span 26 (.if_icmp .ne 11) (11) 29 37 := ⟨by decide +kernel, rfl, by decide⟩
theorem D_X9_span_29 : Dec mi_X9_span 29 (.aload_n 0) 1 30 := ⟨by decide +kernel, rfl⟩
theorem D_X9_span_30 : Dec mi_X9_span 30 (.getfield 76) 3 33 := ⟨by decide +kernel, rfl⟩
theorem D_X9_span_33 : Dec mi_X9_span 33 (.invokevirtual 252) 3 36 := ⟨by decide +kernel, rfl⟩
theorem D_X9_span_36 : Dec mi_X9_span 36 (.ireturn) 1 37 := ⟨by decide +kernel, rfl⟩
theorem D_X9_span_37 : Dec mi_X9_span 37 (.aload_n 0) 1 38 := ⟨by decide +kernel, rfl⟩
theorem D_X9_span_38 : Dec mi_X9_span 38 (.getfield 76) 3 41 := ⟨by decide +kernel, rfl⟩
theorem D_X9_span_41 : Dec mi_X9_span 41 (.invokevirtual 246) 3 44 := ⟨by decide +kernel, rfl⟩
theorem D_X9_span_44 : DecJ mi_X9_span 44 (.ifCond .ne 6) (6) 47 50 := ⟨by decide +kernel, rfl, by decide⟩
theorem D_X9_span_47 : Dec mi_X9_span 47 (.bipush (-9)) 2 49 := ⟨by decide +kernel, rfl⟩
theorem D_X9_span_49 : Dec mi_X9_span 49 (.ireturn) 1 50 := ⟨by decide +kernel, rfl⟩
theorem D_X9_span_50 : Dec mi_X9_span 50 (.iload_n 1) 1 51 := ⟨by decide +kernel, rfl⟩
theorem D_X9_span_51 : decode mi_X9_span.1 51 = .ok (.lookupswitch 51 #[(0, 25), (1, 34)], 25) := by decide +kernel
theorem D_X9_span_76 : Dec mi_X9_span 76 (.aload_n 0) 1 77 := ⟨by decide +kernel, rfl⟩
theorem D_X9_span_77 : Dec mi_X9_span 77 (.getfield 76) 3 80 := ⟨by decide +kernel, rfl⟩
theorem D_X9_span_80 : Dec mi_X9_span 80 (.iconst 0) 1 81 := ⟨by decide +kernel, rfl⟩
theorem D_X9_span_81 : Dec mi_X9_span 81 (.invokevirtual 255) 3 84 := ⟨by decide +kernel, rfl⟩
theorem D_X9_span_84 : Dec mi_X9_span 84 (.ireturn) 1 85 := ⟨by decide +kernel, rfl⟩
theorem D_X9_span_85 : Dec mi_X9_span 85 (.aload_n 0) 1 86 := ⟨by decide +kernel, rfl⟩
theorem D_X9_span_86 : Dec mi_X9_span 86 (.getfield 76) 3 89 := ⟨by decide +kernel, rfl⟩
theorem D_X9_span_89 : Dec mi_X9_span 89 (.aload_n 0) 1 90 := ⟨by decide +kernel, rfl⟩
theorem D_X9_span_90 : Dec mi_X9_span 90 (.getfield 76) 3 93 := ⟨by decide +kernel, rfl⟩
theorem D_X9_span_93 : Dec mi_X9_span 93 (.invokevirtual 246) 3 96 := ⟨by decide +kernel, rfl⟩
theorem D_X9_span_96 : Dec mi_X9_span 96 (.iconst 1) 1 97 := ⟨by decide +kernel, rfl⟩
theorem D_X9_span_97 : Dec mi_X9_span 97 (.isub) 1 98 := ⟨by decide +kernel, rfl⟩
theorem D_X9_span_98 : Dec mi_X9_span 98 (.invokevirtual 255) 3 101 := ⟨by decide +kernel, rfl⟩
theorem D_X9_span_101 : Dec mi_X9_span 101 (.ireturn) 1 102 := ⟨by decide +kernel, rfl⟩
theorem D_X9_span_102 : Dec mi_X9_span 102 (.aload_n 0) 1 103 := ⟨by decide +kernel, rfl⟩
theorem D_X9_span_103 : Dec mi_X9_span 103 (.getfield 76) 3 106 := ⟨by decide +kernel, rfl⟩
theorem D_X9_span_106 : Dec mi_X9_span 106 (.aload_n 0) 1 107 := ⟨by decide +kernel, rfl⟩
theorem D_X9_span_107 : Dec mi_X9_span 107 (.getfield 76) 3 110 := ⟨by decide +kernel, rfl⟩
theorem D_X9_span_110 : Dec mi_X9_span 110 (.invokevirtual 246) 3 113 := ⟨by decide +kernel, rfl⟩
theorem D_X9_span_113 : Dec mi_X9_span 113 (.iconst 1) 1 114 := ⟨by decide +kernel, rfl⟩
theorem D_X9_span_114 : Dec mi_X9_span 114 (.isub) 1 115 := ⟨by decide +kernel, rfl⟩
theorem D_X9_span_115 : Dec mi_X9_span 115 (.iconst 2) 1 116 := ⟨by decide +kernel, rfl⟩
theorem D_X9_span_116 : Dec mi_X9_span 116 (.idiv) 1 117 := ⟨by decide +kernel, rfl⟩
theorem D_X9_span_117 : Dec mi_X9_span 117 (.invokevirtual 255) 3 120 := ⟨by decide +kernel, rfl⟩
theorem D_X9_span_120 : Dec mi_X9_span 120 (.ireturn) 1 121 := ⟨by decide +kernel, rfl⟩
def f_X9_span (F : Nat) (M : Mem) (a1 : Int32) : Option Int32 := if a1 < 0 then (some (-1 : Int32)) else (if a1 ≤ (4 : Int32) then (if a1 = (3 : Int32) then ((f_X3_wasteUpper F M).bind fun x4 => some x4) else (if a1 = (4 : Int32) then ((f_X3_wasteLower F M).bind fun x7 => some x7) else (if (f_X3_size M) = 0 then (some (-9 : Int32)) else (if a1 = (0 : Int32) then ((f_X3_onAt M (0 : Int32)).bind fun x11 => some x11) else (if a1 = (1 : Int32) then ((f_X3_onAt M ((f_X3_size M) - (1 : Int32))).bind fun x14 => some x14) else ((f_X3_onAt M (((f_X3_size M) - (1 : Int32)) / (2 : Int32))).bind fun x16 => some x16)))))) else (some (-1 : Int32)))
theorem x_X9_span {l : Launch} {w : Wd} {F : Nat} {M : Mem} {a1 : Int32} {v : Int32} (h : f_X9_span F M a1 = some v) : Cn l w mi_X9_span yX9_span (2) [.ref (wq w 0), .int a1] M (some (.int v), M) :=
  Cn_of (loc0 := [some (.ref (wq w 0)), some (.int a1)]) rfl rfl rfl (Nat.le_of_ble_eq_true rfl) fun κ hq => let_h (show (if a1 < 0 then (some (-1 : Int32)) else (if a1 ≤ (4 : Int32) then (if a1 = (3 : Int32) then ((f_X3_wasteUpper F M).bind fun x4 => some x4) else (if a1 = (4 : Int32) then ((f_X3_wasteLower F M).bind fun x7 => some x7) else (if (f_X3_size M) = 0 then (some (-9 : Int32)) else (if a1 = (0 : Int32) then ((f_X3_onAt M (0 : Int32)).bind fun x11 => some x11) else (if a1 = (1 : Int32) then ((f_X3_onAt M ((f_X3_size M) - (1 : Int32))).bind fun x14 => some x14) else ((f_X3_onAt M (((f_X3_size M) - (1 : Int32)) / (2 : Int32))).bind fun x16 => some x16)))))) else (some (-1 : Int32)))) = some v from h) fun h => r_iload_n D_X9_span_0 rfl <| r_if_lt D_X9_span_1 (fun c1 => let_h (ifT c1 h) fun h => r_iconst D_X9_span_9 ki_m1 <| r_iret hq D_X9_span_10 rfl (rtP h)) (fun c1 => let_h (ifF c1 h) fun h => r_iload_n D_X9_span_4 rfl <| r_iconst D_X9_span_5 ki_4 <| r_icmp_le D_X9_span_6 (fun c2 => let_h (ifT c2 h) fun h => r_iload_n D_X9_span_11 rfl <| r_iconst D_X9_span_12 ki_3 <| r_icmp_ne D_X9_span_13 (fun c3 => let_h (ifT c3 h) fun h => r_aload_n D_X9_span_16 rfl <| r_getR (j := 32) D_X9_span_17 fl_X9_76 s_0 rfl <| (bdE h).elim fun x4 q5 => let_h q5.2 fun h => r_callV (av := []) D_X9_span_20 ml_X9_249 mf_X3_wasteUpper mv_X3_wasteUpper s_32 rfl rfl (x_X3_wasteUpper q5.1) (Nat.le_of_ble_eq_true rfl) rfl rfl (Nat.le_of_ble_eq_true rfl) <| r_iret hq D_X9_span_23 rfl (rtP h)) (fun c3 => let_h (ifF c3 h) fun h => r_iload_n D_X9_span_24 rfl <| r_iconst D_X9_span_25 ki_4 <| r_icmp_ne D_X9_span_26 (fun c6 => let_h (ifT c6 h) fun h => r_aload_n D_X9_span_29 rfl <| r_getR (j := 32) D_X9_span_30 fl_X9_76 s_0 rfl <| (bdE h).elim fun x7 q8 => let_h q8.2 fun h => r_callV (av := []) D_X9_span_33 ml_X9_252 mf_X3_wasteLower mv_X3_wasteLower s_32 rfl rfl (x_X3_wasteLower q8.1) (Nat.le_of_ble_eq_true rfl) rfl rfl (Nat.le_of_ble_eq_true rfl) <| r_iret hq D_X9_span_36 rfl (rtP h)) (fun c6 => let_h (ifF c6 h) fun h => r_aload_n D_X9_span_37 rfl <| r_getR (j := 32) D_X9_span_38 fl_X9_76 s_0 rfl <| r_callV (av := []) D_X9_span_41 ml_X9_246 mf_X3_size mv_X3_size s_32 rfl rfl (x_X3_size rfl) (Nat.le_of_ble_eq_true rfl) rfl rfl (Nat.le_of_ble_eq_true rfl) <| r_if_ne D_X9_span_44 (fun c9 => let_h (ifT c9 h) fun h => r_bipush D_X9_span_47 k8_m9 <| r_iret hq D_X9_span_49 rfl (rtP h)) (fun c9 => let_h (ifF c9 h) fun h => r_iload_n D_X9_span_50 rfl <| dcs (fun c10 => let_h (ifT c10 h) fun h => r_lookEq (off := 25) (t := 76) c10 D_X9_span_51 (by decide) (by decide) (by decide) <| r_aload_n D_X9_span_76 rfl <| r_getR (j := 32) D_X9_span_77 fl_X9_76 s_0 rfl <| r_iconst D_X9_span_80 ki_0 <| (bdE h).elim fun x11 q12 => let_h q12.2 fun h => r_callV (av := [.int (0 : Int32)]) D_X9_span_81 ml_X9_255 mf_X3_onAt mv_X3_onAt s_32 rfl rfl (x_X3_onAt q12.1) (Nat.le_of_ble_eq_true rfl) rfl rfl (Nat.le_of_ble_eq_true rfl) <| r_iret hq D_X9_span_84 rfl (rtP h)) (fun c10 => let_h (ifF c10 h) fun h => dcs (fun c13 => let_h (ifT c13 h) fun h => r_lookEq (off := 34) (t := 85) c13 D_X9_span_51 (by decide) (by decide) (by decide) <| r_aload_n D_X9_span_85 rfl <| r_getR (j := 32) D_X9_span_86 fl_X9_76 s_0 rfl <| r_aload_n D_X9_span_89 rfl <| r_getR (j := 32) D_X9_span_90 fl_X9_76 s_0 rfl <| r_callV (av := []) D_X9_span_93 ml_X9_246 mf_X3_size mv_X3_size s_32 rfl rfl (x_X3_size rfl) (Nat.le_of_ble_eq_true rfl) rfl rfl (Nat.le_of_ble_eq_true rfl) <| r_iconst D_X9_span_96 ki_1 <| r_isub D_X9_span_97 <| (bdE h).elim fun x14 q15 => let_h q15.2 fun h => r_callV (av := [.int ((f_X3_size M) - (1 : Int32))]) D_X9_span_98 ml_X9_255 mf_X3_onAt mv_X3_onAt s_32 rfl rfl (x_X3_onAt q15.1) (Nat.le_of_ble_eq_true rfl) rfl rfl (Nat.le_of_ble_eq_true rfl) <| r_iret hq D_X9_span_101 rfl (rtP h)) (fun c13 => let_h (ifF c13 h) fun h => r_lookOut (t := 102) D_X9_span_51 (by decide) (List.forall_mem_cons.mpr ⟨ne32 c10 (by decide), (List.forall_mem_cons.mpr ⟨ne32 c13 (by decide), (fun _ hh => absurd hh List.not_mem_nil)⟩)⟩) (by decide) <| r_aload_n D_X9_span_102 rfl <| r_getR (j := 32) D_X9_span_103 fl_X9_76 s_0 rfl <| r_aload_n D_X9_span_106 rfl <| r_getR (j := 32) D_X9_span_107 fl_X9_76 s_0 rfl <| r_callV (av := []) D_X9_span_110 ml_X9_246 mf_X3_size mv_X3_size s_32 rfl rfl (x_X3_size rfl) (Nat.le_of_ble_eq_true rfl) rfl rfl (Nat.le_of_ble_eq_true rfl) <| r_iconst D_X9_span_113 ki_1 <| r_isub D_X9_span_114 <| r_iconst D_X9_span_115 ki_2 <| r_idiv D_X9_span_116 (by decide) <| (bdE h).elim fun x16 q17 => let_h q17.2 fun h => r_callV (av := [.int (((f_X3_size M) - (1 : Int32)) / (2 : Int32))]) D_X9_span_117 ml_X9_255 mf_X3_onAt mv_X3_onAt s_32 rfl rfl (x_X3_onAt q17.1) (Nat.le_of_ble_eq_true rfl) rfl rfl (Nat.le_of_ble_eq_true rfl) <| r_iret hq D_X9_span_120 rfl (rtP h))))))) (fun c2 => let_h (ifF c2 h) fun h => r_iconst D_X9_span_9 ki_m1 <| r_iret hq D_X9_span_10 rfl (rtP h)))
