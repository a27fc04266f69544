-- X8_allThings
theorem D_X8_allThings_0 : Dec mi_X8_allThings 0 (.iconst 1) 1 1 := ⟨by decide +kernel, rfl⟩
theorem D_X8_allThings_1 : Dec mi_X8_allThings 1 (.aload_n 0) 1 2 := ⟨by decide +kernel, rfl⟩
theorem D_X8_allThings_2 : Dec mi_X8_allThings 2 (.getfield 27) 3 5 := ⟨by decide +kernel, rfl⟩
theorem D_X8_allThings_5 : Dec mi_X8_allThings 5 (.ishl) 1 6 := ⟨by decide +kernel, rfl⟩
theorem D_X8_allThings_6 : Dec mi_X8_allThings 6 (.iconst 1) 1 7 := ⟨by decide +kernel, rfl⟩
theorem D_X8_allThings_7 : Dec mi_X8_allThings 7 (.isub) 1 8 := ⟨by decide +kernel, rfl⟩
theorem D_X8_allThings_8 : Dec mi_X8_allThings 8 (.ireturn) 1 9 := ⟨by decide +kernel, rfl⟩
def f_X8_allThings (M : Mem) (o : Nat) : Int32 := (((1 : Int32) <<< ((M.1 o 3) &&& 31)) - (1 : Int32))
theorem x_X8_allThings {l : Launch} {w : Wd} {M : Mem} {o : Nat} {v : Int32} (ho : isTrip o) (h : f_X8_allThings M o = v) : Cn l w mi_X8_allThings yX8_allThings (0) [.ref (wq w o)] M (some (.int v), M) :=
  Cn_of (loc0 := [some (.ref (wq w o))]) rfl rfl rfl (Nat.le_of_ble_eq_true rfl) fun κ hq => let_h (show ((((1 : Int32) <<< ((M.1 o 3) &&& 31)) - (1 : Int32))) = v from h) fun h => r_iconst D_X8_allThings_0 ki_1 <| r_aload_n D_X8_allThings_1 rfl <| r_getI D_X8_allThings_2 fl_X8_27 ho.1 rfl <| r_ishl D_X8_allThings_5 <| r_iconst D_X8_allThings_6 ki_1 <| r_isub D_X8_allThings_7 <| r_iret hq D_X8_allThings_8 rfl (rtT h)
-- X8_sum
theorem D_X8_sum_0 : Dec mi_X8_sum 0 (.iconst 0) 1 1 := ⟨by decide +kernel, rfl⟩
theorem D_X8_sum_1 : Dec mi_X8_sum 1 (.istore_n 3) 1 2 := ⟨by decide +kernel, rfl⟩
theorem D_X8_sum_2 : Dec mi_X8_sum 2 (.iconst 0) 1 3 := ⟨by decide +kernel, rfl⟩
theorem D_X8_sum_3 : Dec mi_X8_sum 3 (.istore 4) 2 5 := ⟨by decide +kernel, rfl⟩
theorem D_X8_sum_5 : Dec mi_X8_sum 5 (.iload 4) 2 7 := ⟨by decide +kernel, rfl⟩
theorem D_X8_sum_7 : Dec mi_X8_sum 7 (.aload_n 0) 1 8 := ⟨by decide +kernel, rfl⟩
theorem D_X8_sum_8 : Dec mi_X8_sum 8 (.getfield 27) 3 11 := ⟨by decide +kernel, rfl⟩
theorem D_X8_sum_11 : DecJ mi_X8_sum 11 (.if_icmp .ge 28) (28) 14 39 := ⟨by decide +kernel, rfl, by decide⟩
theorem D_X8_sum_14 : Dec mi_X8_sum 14 (.iload_n 1) 1 15 := ⟨by decide +kernel, rfl⟩
theorem D_X8_sum_15 : Dec mi_X8_sum 15 (.iload 4) 2 17 := ⟨by decide +kernel, rfl⟩
theorem D_X8_sum_17 : Dec mi_X8_sum 17 (.invokestatic 75) 3 20 := ⟨by decide +kernel, rfl⟩
theorem D_X8_sum_20 : DecJ mi_X8_sum 20 (.ifCond .eq 13) (13) 23 33 := ⟨by decide +kernel, rfl, by decide⟩
theorem D_X8_sum_23 : Dec mi_X8_sum 23 (.iload_n 3) 1 24 := ⟨by decide +kernel, rfl⟩
theorem D_X8_sum_24 : Dec mi_X8_sum 24 (.aload_n 0) 1 25 := ⟨by decide +kernel, rfl⟩
theorem D_X8_sum_25 : Dec mi_X8_sum 25 (.iload 4) 2 27 := ⟨by decide +kernel, rfl⟩
theorem D_X8_sum_27 : Dec mi_X8_sum 27 (.iload_n 2) 1 28 := ⟨by decide +kernel, rfl⟩
theorem D_X8_sum_28 : Dec mi_X8_sum 28 (.invokevirtual 79) 3 31 := ⟨by decide +kernel, rfl⟩
theorem D_X8_sum_31 : Dec mi_X8_sum 31 (.iadd) 1 32 := ⟨by decide +kernel, rfl⟩
theorem D_X8_sum_32 : Dec mi_X8_sum 32 (.istore_n 3) 1 33 := ⟨by decide +kernel, rfl⟩
theorem D_X8_sum_33 : Dec mi_X8_sum 33 (.iinc 4 1) 3 36 := ⟨by decide +kernel, rfl⟩
theorem D_X8_sum_36 : DecJ mi_X8_sum 36 (.goto (-31)) (-31) 39 5 := ⟨by decide +kernel, rfl, by decide⟩
theorem D_X8_sum_39 : Dec mi_X8_sum 39 (.iload_n 3) 1 40 := ⟨by decide +kernel, rfl⟩
theorem D_X8_sum_40 : Dec mi_X8_sum 40 (.ireturn) 1 41 := ⟨by decide +kernel, rfl⟩
def f_X8_sum_5 (F : Nat) (M : Mem) (o : Nat) : Nat → Int32 → Int32 → Int32 → Int32 → Option Int32
  | 0, _, _, _, _ => none
  | n + 1, y1, y2, y3, y4 => if (M.1 o 3) ≤ y4 then (some y3) else (if (f_X9_has M y1 y4) = 0 then (f_X8_sum_5 F M o n y1 y2 y3 (y4 + (1 : Int32))) else ((f_X8_fact M o y4 y2).bind fun x3 => f_X8_sum_5 F M o n y1 y2 (y3 + x3) (y4 + (1 : Int32))))
theorem x_X8_sum_5 {l : Launch} {w : Wd} {κ : Kp} {F : Nat} {M : Mem} {o : Nat} {v : Int32} (hq : RQ w (some (.int v), M) κ) (ho : isTrip o) : ∀ (n : Nat) (y1 : Int32) (y2 : Int32) (y3 : Int32) (y4 : Int32), f_X8_sum_5 F M o n y1 y2 y3 y4 = some v → RR l w mi_X8_sum (2) κ 5 [] [some (.ref (wq w o)), some (.int y1), some (.int y2), some (.int y3), some (.int y4)] M
  | 0, _, _, _, _, h => nomatch h
  | n + 1, y1, y2, y3, y4, h => let_h (show (if (M.1 o 3) ≤ y4 then (some y3) else (if (f_X9_has M y1 y4) = 0 then (f_X8_sum_5 F M o n y1 y2 y3 (y4 + (1 : Int32))) else ((f_X8_fact M o y4 y2).bind fun x3 => f_X8_sum_5 F M o n y1 y2 (y3 + x3) (y4 + (1 : Int32))))) = some v from h) fun h => r_iload D_X8_sum_5 rfl <| r_aload_n D_X8_sum_7 rfl <| r_getI D_X8_sum_8 fl_X8_27 ho.1 rfl <| r_icmp_ge D_X8_sum_11 (fun c1 => let_h (ifT c1 h) fun h => r_iload_n D_X8_sum_39 rfl <| r_iret hq D_X8_sum_40 rfl (rtP h)) (fun c1 => let_h (ifF c1 h) fun h => r_iload_n D_X8_sum_14 rfl <| r_iload D_X8_sum_15 rfl <| r_callN (av := [.int y1, .int y4]) D_X8_sum_17 nl_X8_75 mf_X9_has ms_X9_has (x_X9_has rfl) (Nat.le_of_ble_eq_true rfl) rfl rfl (Nat.le_of_ble_eq_true rfl) <| r_if_eq D_X8_sum_20 (fun c2 => let_h (ifT c2 h) fun h => r_iinc D_X8_sum_33 rfl ki_1 (by decide) rfl <| r_goto D_X8_sum_36 <| r_ls (x_X8_sum_5 hq ho n y1 y2 y3 (y4 + (1 : Int32)) h) ⟨rfl, ⟨rfl, ⟨rfl, ⟨rfl, ⟨rfl, trivial⟩⟩⟩⟩⟩) (fun c2 => let_h (ifF c2 h) fun h => r_iload_n D_X8_sum_23 rfl <| r_aload_n D_X8_sum_24 rfl <| r_iload D_X8_sum_25 rfl <| r_iload_n D_X8_sum_27 rfl <| (bdE h).elim fun x3 q4 => let_h q4.2 fun h => r_callV (av := [.int y4, .int y2]) D_X8_sum_28 ml_X8_79 mf_X8_fact mv_X8_fact ho.1 rfl rfl (x_X8_fact ho q4.1) (Nat.le_of_ble_eq_true rfl) rfl rfl (Nat.le_of_ble_eq_true rfl) <| r_iadd D_X8_sum_31 <| r_istore_n D_X8_sum_32 (by decide) rfl <| r_iinc D_X8_sum_33 rfl ki_1 (by decide) rfl <| r_goto D_X8_sum_36 <| r_ls (x_X8_sum_5 hq ho n y1 y2 (y3 + x3) (y4 + (1 : Int32)) h) ⟨rfl, ⟨rfl, ⟨rfl, ⟨rfl, ⟨rfl, trivial⟩⟩⟩⟩⟩))
def f_X8_sum (F : Nat) (M : Mem) (o : Nat) (a1 : Int32) (a2 : Int32) : Option Int32 := f_X8_sum_5 F M o F a1 a2 (0 : Int32) (0 : Int32)
theorem x_X8_sum {l : Launch} {w : Wd} {F : Nat} {M : Mem} {o : Nat} {a1 : Int32} {a2 : Int32} {v : Int32} (ho : isTrip o) (h : f_X8_sum F M o a1 a2 = some v) : Cn l w mi_X8_sum yX8_sum (2) [.ref (wq w o), .int a1, .int a2] M (some (.int v), M) :=
  Cn_of (loc0 := [some (.ref (wq w o)), some (.int a1), some (.int a2), none, none]) rfl rfl rfl (Nat.le_of_ble_eq_true rfl) fun κ hq => let_h (show (f_X8_sum_5 F M o F a1 a2 (0 : Int32) (0 : Int32)) = some v from h) fun h => r_iconst D_X8_sum_0 ki_0 <| r_istore_n D_X8_sum_1 (by decide) rfl <| r_iconst D_X8_sum_2 ki_0 <| r_istore D_X8_sum_3 (by decide) rfl <| r_ls (x_X8_sum_5 hq ho F a1 a2 (0 : Int32) (0 : Int32) h) ⟨rfl, ⟨rfl, ⟨rfl, ⟨rfl, ⟨rfl, trivial⟩⟩⟩⟩⟩
-- X0_smallest
theorem D_X0_smallest_0 : Dec mi_X0_smallest 0 (.bipush (-9)) 2 2 := ⟨by decide +kernel, rfl⟩
theorem D_X0_smallest_2 : Dec mi_X0_smallest 2 (.istore_n 3) 1 3 := ⟨by decide +kernel, rfl⟩
theorem D_X0_smallest_3 : Dec mi_X0_smallest 3 (.sipush 1000) 3 6 := ⟨by decide +kernel, rfl⟩
theorem D_X0_smallest_6 : Dec mi_X0_smallest 6 (.istore 4) 2 8 := ⟨by decide +kernel, rfl⟩
theorem D_X0_smallest_8 : Dec mi_X0_smallest 8 (.iconst 0) 1 9 := ⟨by decide +kernel, rfl⟩
theorem D_X0_smallest_9 : Dec mi_X0_smallest 9 (.istore 5) 2 11 := ⟨by decide +kernel, rfl⟩
theorem D_X0_smallest_11 : Dec mi_X0_smallest 11 (.iload 5) 2 13 := ⟨by decide +kernel, rfl⟩
theorem D_X0_smallest_13 : Dec mi_X0_smallest 13 (.aload_n 0) 1 14 := ⟨by decide +kernel, rfl⟩
theorem D_X0_smallest_14 : Dec mi_X0_smallest 14 (.getfield 15) 3 17 := ⟨by decide +kernel, rfl⟩
theorem D_X0_smallest_17 : Dec mi_X0_smallest 17 (.invokevirtual 49) 3 20 := ⟨by decide +kernel, rfl⟩
theorem D_X0_smallest_20 : DecJ mi_X0_smallest 20 (.if_icmp .gt 45) (45) 23 65 := ⟨by decide +kernel, rfl, by decide⟩
theorem D_X0_smallest_23 : Dec mi_X0_smallest 23 (.aload_n 0) 1 24 := ⟨by decide +kernel, rfl⟩
theorem D_X0_smallest_24 : Dec mi_X0_smallest 24 (.getfield 15) 3 27 := ⟨by decide +kernel, rfl⟩
theorem D_X0_smallest_27 : Dec mi_X0_smallest 27 (.iload 5) 2 29 := ⟨by decide +kernel, rfl⟩
theorem D_X0_smallest_29 : Dec mi_X0_smallest 29 (.iload_n 2) 1 30 := ⟨by decide +kernel, rfl⟩
theorem D_X0_smallest_30 : Dec mi_X0_smallest 30 (.invokevirtual 52) 3 33 := ⟨by decide +kernel, rfl⟩
theorem D_X0_smallest_33 : Dec mi_X0_smallest 33 (.istore 6) 2 35 := ⟨by decide +kernel, rfl⟩
theorem D_X0_smallest_35 : Dec mi_X0_smallest 35 (.iload 6) 2 37 := ⟨by decide +kernel, rfl⟩
theorem D_X0_smallest_37 : Dec mi_X0_smallest 37 (.iload 4) 2 39 := ⟨by decide +kernel, rfl⟩
theorem D_X0_smallest_39 : DecJ mi_X0_smallest 39 (.if_icmp .ge 20) (20) 42 59 := ⟨by decide +kernel, rfl, by decide⟩
theorem D_X0_smallest_42 : Dec mi_X0_smallest 42 (.aload_n 0) 1 43 := ⟨by decide +kernel, rfl⟩
theorem D_X0_smallest_43 : Dec mi_X0_smallest 43 (.iload 5) 2 45 := ⟨by decide +kernel, rfl⟩
theorem D_X0_smallest_45 : Dec mi_X0_smallest 45 (.invokevirtual 55) 3 48 := ⟨by decide +kernel, rfl⟩
theorem D_X0_smallest_48 : Dec mi_X0_smallest 48 (.iload_n 1) 1 49 := ⟨by decide +kernel, rfl⟩
theorem D_X0_smallest_49 : DecJ mi_X0_smallest 49 (.if_icmp .lt 10) (10) 52 59 := ⟨by decide +kernel, rfl, by decide⟩
theorem D_X0_smallest_52 : Dec mi_X0_smallest 52 (.iload 5) 2 54 := ⟨by decide +kernel, rfl⟩
theorem D_X0_smallest_54 : Dec mi_X0_smallest 54 (.istore_n 3) 1 55 := ⟨by decide +kernel, rfl⟩
theorem D_X0_smallest_55 : Dec mi_X0_smallest 55 (.iload 6) 2 57 := ⟨by decide +kernel, rfl⟩
theorem D_X0_smallest_57 : Dec mi_X0_smallest 57 (.istore 4) 2 59 := ⟨by decide +kernel, rfl⟩
theorem D_X0_smallest_59 : Dec mi_X0_smallest 59 (.iinc 5 1) 3 62 := ⟨by decide +kernel, rfl⟩
theorem D_X0_smallest_62 : DecJ mi_X0_smallest 62 (.goto (-51)) (-51) 65 11 := ⟨by decide +kernel, rfl, by decide⟩
theorem D_X0_smallest_65 : Dec mi_X0_smallest 65 (.iload_n 3) 1 66 := ⟨by decide +kernel, rfl⟩
theorem D_X0_smallest_66 : Dec mi_X0_smallest 66 (.ireturn) 1 67 := ⟨by decide +kernel, rfl⟩
def f_X0_smallest_11 (F : Nat) : Nat → Int32 → Int32 → Int32 → Int32 → Int32 → Mem → Option (Int32 × Mem)
  | 0, _, _, _, _, _, _ => none
  | n + 1, y1, y2, y3, y4, y5, N => if (f_X8_allThings N 3) < y5 then (some (y3, N)) else ((f_X8_sum F N 3 y5 y2).bind fun x2 => if y4 ≤ x2 then (f_X0_smallest_11 F n y1 y2 y3 y4 (y5 + (1 : Int32)) N) else ((f_X0_chances F N y5).bind fun p5 => if p5.1 < y1 then (f_X0_smallest_11 F n y1 y2 y3 y4 (y5 + (1 : Int32)) p5.2) else (f_X0_smallest_11 F n y1 y2 y5 x2 (y5 + (1 : Int32)) p5.2)))
theorem x_X0_smallest_11 {l : Launch} {w : Wd} {κ : Kp} {F : Nat} {v : Int32 × Mem} (hq : RQ w (some (.int v.1), v.2) κ) : ∀ (n : Nat) (y1 : Int32) (y2 : Int32) (y3 : Int32) (y4 : Int32) (y5 : Int32) (N : Mem), f_X0_smallest_11 F n y1 y2 y3 y4 y5 N = some v → RR l w mi_X0_smallest (29) κ 11 [] [some (.ref (wq w 25)), some (.int y1), some (.int y2), some (.int y3), some (.int y4), some (.int y5), none] N
  | 0, _, _, _, _, _, _, h => nomatch h
  | n + 1, y1, y2, y3, y4, y5, N, h => let_h (show (if (f_X8_allThings N 3) < y5 then (some (y3, N)) else ((f_X8_sum F N 3 y5 y2).bind fun x2 => if y4 ≤ x2 then (f_X0_smallest_11 F n y1 y2 y3 y4 (y5 + (1 : Int32)) N) else ((f_X0_chances F N y5).bind fun p5 => if p5.1 < y1 then (f_X0_smallest_11 F n y1 y2 y3 y4 (y5 + (1 : Int32)) p5.2) else (f_X0_smallest_11 F n y1 y2 y5 x2 (y5 + (1 : Int32)) p5.2)))) = some v from h) fun h => r_iload D_X0_smallest_11 rfl <| r_aload_n D_X0_smallest_13 rfl <| r_getR (j := 3) D_X0_smallest_14 fl_X0_15 s_25 rfl <| r_callV (av := []) D_X0_smallest_17 ml_X0_49 mf_X8_allThings mv_X8_allThings s_3 rfl rfl (x_X8_allThings trip_3 rfl) (Nat.le_of_ble_eq_true rfl) rfl rfl (Nat.le_of_ble_eq_true rfl) <| r_icmp_gt D_X0_smallest_20 (fun c1 => let_h (ifT c1 h) fun h => r_iload_n D_X0_smallest_65 rfl <| r_iret hq D_X0_smallest_66 rfl (rtW h)) (fun c1 => let_h (ifF c1 h) fun h => r_aload_n D_X0_smallest_23 rfl <| r_getR (j := 3) D_X0_smallest_24 fl_X0_15 s_25 rfl <| r_iload D_X0_smallest_27 rfl <| r_iload_n D_X0_smallest_29 rfl <| (bdE h).elim fun x2 q3 => let_h q3.2 fun h => r_callV (av := [.int y5, .int y2]) D_X0_smallest_30 ml_X0_52 mf_X8_sum mv_X8_sum s_3 rfl rfl (x_X8_sum trip_3 q3.1) (Nat.le_of_ble_eq_true rfl) rfl rfl (Nat.le_of_ble_eq_true rfl) <| r_istore D_X0_smallest_33 (by decide) rfl <| r_iload D_X0_smallest_35 rfl <| r_iload D_X0_smallest_37 rfl <| r_icmp_ge D_X0_smallest_39 (fun c4 => let_h (ifT c4 h) fun h => r_iinc D_X0_smallest_59 rfl ki_1 (by decide) rfl <| r_goto D_X0_smallest_62 <| r_ls (x_X0_smallest_11 hq n y1 y2 y3 y4 (y5 + (1 : Int32)) N h) ⟨rfl, ⟨rfl, ⟨rfl, ⟨rfl, ⟨rfl, ⟨rfl, trivial⟩⟩⟩⟩⟩⟩) (fun c4 => let_h (ifF c4 h) fun h => r_aload_n D_X0_smallest_42 rfl <| r_iload D_X0_smallest_43 rfl <| (bdE h).elim fun p5 q6 => let_h q6.2 fun h => r_callV (av := [.int y5]) D_X0_smallest_45 ml_X0_55 mf_X0_chances mv_X0_chances s_25 rfl rfl (x_X0_chances q6.1) (Nat.le_of_ble_eq_true rfl) rfl rfl (Nat.le_of_ble_eq_true rfl) <| r_iload_n D_X0_smallest_48 rfl <| r_icmp_lt D_X0_smallest_49 (fun c7 => let_h (ifT c7 h) fun h => r_iinc D_X0_smallest_59 rfl ki_1 (by decide) rfl <| r_goto D_X0_smallest_62 <| r_ls (x_X0_smallest_11 hq n y1 y2 y3 y4 (y5 + (1 : Int32)) p5.2 h) ⟨rfl, ⟨rfl, ⟨rfl, ⟨rfl, ⟨rfl, ⟨rfl, trivial⟩⟩⟩⟩⟩⟩) (fun c7 => let_h (ifF c7 h) fun h => r_iload D_X0_smallest_52 rfl <| r_istore_n D_X0_smallest_54 (by decide) rfl <| r_iload D_X0_smallest_55 rfl <| r_istore D_X0_smallest_57 (by decide) rfl <| r_iinc D_X0_smallest_59 rfl ki_1 (by decide) rfl <| r_goto D_X0_smallest_62 <| r_ls (x_X0_smallest_11 hq n y1 y2 y5 x2 (y5 + (1 : Int32)) p5.2 h) ⟨rfl, ⟨rfl, ⟨rfl, ⟨rfl, ⟨rfl, ⟨rfl, trivial⟩⟩⟩⟩⟩⟩)))
def f_X0_smallest (F : Nat) (M : Mem) (a1 : Int32) (a2 : Int32) : Option (Int32 × Mem) := f_X0_smallest_11 F F a1 a2 (-9 : Int32) (1000 : Int32) (0 : Int32) M
theorem x_X0_smallest {l : Launch} {w : Wd} {F : Nat} {M : Mem} {a1 : Int32} {a2 : Int32} {v : Int32 × Mem} (h : f_X0_smallest F M a1 a2 = some v) : Cn l w mi_X0_smallest yX0_smallest (29) [.ref (wq w 25), .int a1, .int a2] M (some (.int v.1), v.2) :=
  Cn_of (loc0 := [some (.ref (wq w 25)), some (.int a1), some (.int a2), none, none, none, none]) rfl rfl rfl (Nat.le_of_ble_eq_true rfl) fun κ hq => let_h (show (f_X0_smallest_11 F F a1 a2 (-9 : Int32) (1000 : Int32) (0 : Int32) M) = some v from h) fun h => r_bipush D_X0_smallest_0 k8_m9 <| r_istore_n D_X0_smallest_2 (by decide) rfl <| r_sipush D_X0_smallest_3 k16_1000 <| r_istore D_X0_smallest_6 (by decide) rfl <| r_iconst D_X0_smallest_8 ki_0 <| r_istore D_X0_smallest_9 (by decide) rfl <| r_ls (x_X0_smallest_11 hq F a1 a2 (-9 : Int32) (1000 : Int32) (0 : Int32) M h) ⟨rfl, ⟨rfl, ⟨rfl, ⟨rfl, ⟨rfl, ⟨rfl, trivial⟩⟩⟩⟩⟩⟩
-- X8_things
theorem D_X8_things_0 : Dec mi_X8_things 0 (.aload_n 0) 1 1 := ⟨by decide +kernel, rfl⟩
theorem D_X8_things_1 : Dec mi_X8_things 1 (.getfield 27) 3 4 := ⟨by decide +kernel, rfl⟩
theorem D_X8_things_4 : Dec mi_X8_things 4 (.ireturn) 1 5 := ⟨by decide +kernel, rfl⟩
def f_X8_things (M : Mem) (o : Nat) : Int32 := (M.1 o 3)
theorem x_X8_things {l : Launch} {w : Wd} {M : Mem} {o : Nat} {v : Int32} (ho : isTrip o) (h : f_X8_things M o = v) : Cn l w mi_X8_things yX8_things (0) [.ref (wq w o)] M (some (.int v), M) :=
  Cn_of (loc0 := [some (.ref (wq w o))]) rfl rfl rfl (Nat.le_of_ble_eq_true rfl) fun κ hq => let_h (show ((M.1 o 3)) = v from h) fun h => r_aload_n D_X8_things_0 rfl <| r_getI D_X8_things_1 fl_X8_27 ho.1 rfl <| r_iret hq D_X8_things_4 rfl (rtT h)
-- X0_spares
theorem D_X0_spares_0 : Dec mi_X0_spares 0 (.iconst 0) 1 1 := ⟨by decide +kernel, rfl⟩
theorem D_X0_spares_1 : Dec mi_X0_spares 1 (.istore_n 3) 1 2 := ⟨by decide +kernel, rfl⟩
theorem D_X0_spares_2 : Dec mi_X0_spares 2 (.iconst 0) 1 3 := ⟨by decide +kernel, rfl⟩
theorem D_X0_spares_3 : Dec mi_X0_spares 3 (.istore 4) 2 5 := ⟨by decide +kernel, rfl⟩
theorem D_X0_spares_5 : Dec mi_X0_spares 5 (.iload 4) 2 7 := ⟨by decide +kernel, rfl⟩
theorem D_X0_spares_7 : Dec mi_X0_spares 7 (.aload_n 0) 1 8 := ⟨by decide +kernel, rfl⟩
theorem D_X0_spares_8 : Dec mi_X0_spares 8 (.getfield 15) 3 11 := ⟨by decide +kernel, rfl⟩
theorem D_X0_spares_11 : Dec mi_X0_spares 11 (.invokevirtual 58) 3 14 := ⟨by decide +kernel, rfl⟩
theorem D_X0_spares_14 : DecJ mi_X0_spares 14 (.if_icmp .ge 44) (44) 17 58 := ⟨by decide +kernel, rfl, by decide⟩
theorem D_X0_spares_17 : Dec mi_X0_spares 17 (.iload_n 1) 1 18 := ⟨by decide +kernel, rfl⟩
theorem D_X0_spares_18 : Dec mi_X0_spares 18 (.iload 4) 2 20 := ⟨by decide +kernel, rfl⟩
theorem D_X0_spares_20 : Dec mi_X0_spares 20 (.invokestatic 61) 3 23 := ⟨by decide +kernel, rfl⟩
theorem D_X0_spares_23 : DecJ mi_X0_spares 23 (.ifCond .eq 29) (29) 26 52 := ⟨by decide +kernel, rfl, by decide⟩
theorem D_X0_spares_26 : Dec mi_X0_spares 26 (.aload_n 0) 1 27 := ⟨by decide +kernel, rfl⟩
theorem D_X0_spares_27 : Dec mi_X0_spares 27 (.getfield 19) 3 30 := ⟨by decide +kernel, rfl⟩
theorem D_X0_spares_30 : Dec mi_X0_spares 30 (.iload_n 1) 1 31 := ⟨by decide +kernel, rfl⟩
theorem D_X0_spares_31 : Dec mi_X0_spares 31 (.iconst 1) 1 32 := ⟨by decide +kernel, rfl⟩
theorem D_X0_spares_32 : Dec mi_X0_spares 32 (.iload 4) 2 34 := ⟨by decide +kernel, rfl⟩
theorem D_X0_spares_34 : Dec mi_X0_spares 34 (.ishl) 1 35 := ⟨by decide +kernel, rfl⟩
theorem D_X0_spares_35 : Dec mi_X0_spares 35 (.iconst (-1)) 1 36 := ⟨by decide +kernel, rfl⟩
theorem D_X0_spares_36 : Dec mi_X0_spares 36 (.ixor) 1 37 := ⟨by decide +kernel, rfl⟩
theorem D_X0_spares_37 : Dec mi_X0_spares 37 (.iand) 1 38 := ⟨by decide +kernel, rfl⟩
theorem D_X0_spares_38 : Dec mi_X0_spares 38 (.iload_n 2) 1 39 := ⟨by decide +kernel, rfl⟩
theorem D_X0_spares_39 : Dec mi_X0_spares 39 (.invokevirtual 39) 3 42 := ⟨by decide +kernel, rfl⟩
theorem D_X0_spares_42 : DecJ mi_X0_spares 42 (.ifCond .eq 10) (10) 45 52 := ⟨by decide +kernel, rfl, by decide⟩
theorem D_X0_spares_45 : Dec mi_X0_spares 45 (.iload_n 3) 1 46 := ⟨by decide +kernel, rfl⟩
theorem D_X0_spares_46 : Dec mi_X0_spares 46 (.iconst 1) 1 47 := ⟨by decide +kernel, rfl⟩
theorem D_X0_spares_47 : Dec mi_X0_spares 47 (.iload 4) 2 49 := ⟨by decide +kernel, rfl⟩
theorem D_X0_spares_49 : Dec mi_X0_spares 49 (.ishl) 1 50 := ⟨by decide +kernel, rfl⟩
theorem D_X0_spares_50 : Dec mi_X0_spares 50 (.ior) 1 51 := ⟨by decide +kernel, rfl⟩
theorem D_X0_spares_51 : Dec mi_X0_spares 51 (.istore_n 3) 1 52 := ⟨by decide +kernel, rfl⟩
theorem D_X0_spares_52 : Dec mi_X0_spares 52 (.iinc 4 1) 3 55 := ⟨by decide +kernel, rfl⟩
theorem D_X0_spares_55 : DecJ mi_X0_spares 55 (.goto (-50)) (-50) 58 5 := ⟨by decide +kernel, rfl, by decide⟩
theorem D_X0_spares_58 : Dec mi_X0_spares 58 (.iload_n 3) 1 59 := ⟨by decide +kernel, rfl⟩
theorem D_X0_spares_59 : Dec mi_X0_spares 59 (.ireturn) 1 60 := ⟨by decide +kernel, rfl⟩
def f_X0_spares_5 (F : Nat) : Nat → Int32 → Int32 → Int32 → Int32 → Mem → Option (Int32 × Mem)
  | 0, _, _, _, _, _ => none
  | n + 1, y1, y2, y3, y4, N => if (f_X8_things N 3) ≤ y4 then (some (y3, N)) else (if (f_X9_has N y1 y4) = 0 then (f_X0_spares_5 F n y1 y2 y3 (y4 + (1 : Int32)) N) else ((f_X5_find F N (y1 &&& (((1 : Int32) <<< (y4 &&& 31)) ^^^ (-1 : Int32))) y2).bind fun p3 => if p3.1 = 0 then (f_X0_spares_5 F n y1 y2 y3 (y4 + (1 : Int32)) p3.2) else (vlet (y3 ||| ((1 : Int32) <<< (y4 &&& 31))) fun x6 => f_X0_spares_5 F n y1 y2 x6 (y4 + (1 : Int32)) p3.2)))
theorem x_X0_spares_5 {l : Launch} {w : Wd} {κ : Kp} {F : Nat} {v : Int32 × Mem} (hq : RQ w (some (.int v.1), v.2) κ) : ∀ (n : Nat) (y1 : Int32) (y2 : Int32) (y3 : Int32) (y4 : Int32) (N : Mem), f_X0_spares_5 F n y1 y2 y3 y4 N = some v → RR l w mi_X0_spares (28) κ 5 [] [some (.ref (wq w 25)), some (.int y1), some (.int y2), some (.int y3), some (.int y4)] N
  | 0, _, _, _, _, _, h => nomatch h
  | n + 1, y1, y2, y3, y4, N, h => let_h (show (if (f_X8_things N 3) ≤ y4 then (some (y3, N)) else (if (f_X9_has N y1 y4) = 0 then (f_X0_spares_5 F n y1 y2 y3 (y4 + (1 : Int32)) N) else ((f_X5_find F N (y1 &&& (((1 : Int32) <<< (y4 &&& 31)) ^^^ (-1 : Int32))) y2).bind fun p3 => if p3.1 = 0 then (f_X0_spares_5 F n y1 y2 y3 (y4 + (1 : Int32)) p3.2) else (vlet (y3 ||| ((1 : Int32) <<< (y4 &&& 31))) fun x6 => f_X0_spares_5 F n y1 y2 x6 (y4 + (1 : Int32)) p3.2)))) = some v from h) fun h => r_iload D_X0_spares_5 rfl <| r_aload_n D_X0_spares_7 rfl <| r_getR (j := 3) D_X0_spares_8 fl_X0_15 s_25 rfl <| r_callV (av := []) D_X0_spares_11 ml_X0_58 mf_X8_things mv_X8_things s_3 rfl rfl (x_X8_things trip_3 rfl) (Nat.le_of_ble_eq_true rfl) rfl rfl (Nat.le_of_ble_eq_true rfl) <| r_icmp_ge D_X0_spares_14 (fun c1 => let_h (ifT c1 h) fun h => r_iload_n D_X0_spares_58 rfl <| r_iret hq D_X0_spares_59 rfl (rtW h)) (fun c1 => let_h (ifF c1 h) fun h => r_iload_n D_X0_spares_17 rfl <| r_iload D_X0_spares_18 rfl <| r_callN (av := [.int y1, .int y4]) D_X0_spares_20 nl_X0_61 mf_X9_has ms_X9_has (x_X9_has rfl) (Nat.le_of_ble_eq_true rfl) rfl rfl (Nat.le_of_ble_eq_true rfl) <| r_if_eq D_X0_spares_23 (fun c2 => let_h (ifT c2 h) fun h => r_iinc D_X0_spares_52 rfl ki_1 (by decide) rfl <| r_goto D_X0_spares_55 <| r_ls (x_X0_spares_5 hq n y1 y2 y3 (y4 + (1 : Int32)) N h) ⟨rfl, ⟨rfl, ⟨rfl, ⟨rfl, ⟨rfl, trivial⟩⟩⟩⟩⟩) (fun c2 => let_h (ifF c2 h) fun h => r_aload_n D_X0_spares_26 rfl <| r_getR (j := 17) D_X0_spares_27 fl_X0_19 s_25 rfl <| r_iload_n D_X0_spares_30 rfl <| r_iconst D_X0_spares_31 ki_1 <| r_iload D_X0_spares_32 rfl <| r_ishl D_X0_spares_34 <| r_iconst D_X0_spares_35 ki_m1 <| r_ixor D_X0_spares_36 <| r_iand D_X0_spares_37 <| r_iload_n D_X0_spares_38 rfl <| (bdE h).elim fun p3 q4 => let_h q4.2 fun h => r_callV (av := [.int (y1 &&& (((1 : Int32) <<< (y4 &&& 31)) ^^^ (-1 : Int32))), .int y2]) D_X0_spares_39 ml_X0_39 mf_X5_find mv_X5_find s_17 rfl rfl (x_X5_find q4.1) (Nat.le_of_ble_eq_true rfl) rfl rfl (Nat.le_of_ble_eq_true rfl) <| r_if_eq D_X0_spares_42 (fun c5 => let_h (ifT c5 h) fun h => r_iinc D_X0_spares_52 rfl ki_1 (by decide) rfl <| r_goto D_X0_spares_55 <| r_ls (x_X0_spares_5 hq n y1 y2 y3 (y4 + (1 : Int32)) p3.2 h) ⟨rfl, ⟨rfl, ⟨rfl, ⟨rfl, ⟨rfl, trivial⟩⟩⟩⟩⟩) (fun c5 => let_h (ifF c5 h) fun h => r_iload_n D_X0_spares_45 rfl <| r_iconst D_X0_spares_46 ki_1 <| r_iload D_X0_spares_47 rfl <| r_ishl D_X0_spares_49 <| r_ior D_X0_spares_50 <| vlE (fun x6 => RR l w mi_X0_spares (28) κ 51 [.int x6] [some (.ref (wq w 25)), some (.int y1), some (.int y2), some (.int y3), some (.int y4)] p3.2) h fun x6 h => r_istore_n D_X0_spares_51 (by decide) rfl <| r_iinc D_X0_spares_52 rfl ki_1 (by decide) rfl <| r_goto D_X0_spares_55 <| r_ls (x_X0_spares_5 hq n y1 y2 x6 (y4 + (1 : Int32)) p3.2 h) ⟨rfl, ⟨rfl, ⟨rfl, ⟨rfl, ⟨rfl, trivial⟩⟩⟩⟩⟩)))
def f_X0_spares (F : Nat) (M : Mem) (a1 : Int32) (a2 : Int32) : Option (Int32 × Mem) := f_X0_spares_5 F F a1 a2 (0 : Int32) (0 : Int32) M
theorem x_X0_spares {l : Launch} {w : Wd} {F : Nat} {M : Mem} {a1 : Int32} {a2 : Int32} {v : Int32 × Mem} (h : f_X0_spares F M a1 a2 = some v) : Cn l w mi_X0_spares yX0_spares (28) [.ref (wq w 25), .int a1, .int a2] M (some (.int v.1), v.2) :=
  Cn_of (loc0 := [some (.ref (wq w 25)), some (.int a1), some (.int a2), none, none]) rfl rfl rfl (Nat.le_of_ble_eq_true rfl) fun κ hq => let_h (show (f_X0_spares_5 F F a1 a2 (0 : Int32) (0 : Int32) M) = some v from h) fun h => r_iconst D_X0_spares_0 ki_0 <| r_istore_n D_X0_spares_1 (by decide) rfl <| r_iconst D_X0_spares_2 ki_0 <| r_istore D_X0_spares_3 (by decide) rfl <| r_ls (x_X0_spares_5 hq F a1 a2 (0 : Int32) (0 : Int32) M h) ⟨rfl, ⟨rfl, ⟨rfl, ⟨rfl, ⟨rfl, trivial⟩⟩⟩⟩⟩
-- X0_purchase
theorem D_X0_purchase_0 : Dec mi_X0_purchase 0 (.bipush (-9)) 2 2 := ⟨by decide +kernel, rfl⟩
theorem D_X0_purchase_2 : Dec mi_X0_purchase 2 (.istore_n 3) 1 3 := ⟨by decide +kernel, rfl⟩
theorem D_X0_purchase_3 : Dec mi_X0_purchase 3 (.sipush 1000) 3 6 := ⟨by decide +kernel, rfl⟩
theorem D_X0_purchase_6 : Dec mi_X0_purchase 6 (.istore 4) 2 8 := ⟨by decide +kernel, rfl⟩
theorem D_X0_purchase_8 : Dec mi_X0_purchase 8 (.iconst 0) 1 9 := ⟨by decide +kernel, rfl⟩
theorem D_X0_purchase_9 : Dec mi_X0_purchase 9 (.istore 5) 2 11 := ⟨by decide +kernel, rfl⟩
theorem D_X0_purchase_11 : Dec mi_X0_purchase 11 (.iload 5) 2 13 := ⟨by decide +kernel, rfl⟩
theorem D_X0_purchase_13 : Dec mi_X0_purchase 13 (.aload_n 0) 1 14 := ⟨by decide +kernel, rfl⟩
theorem D_X0_purchase_14 : Dec mi_X0_purchase 14 (.getfield 15) 3 17 := ⟨by decide +kernel, rfl⟩
theorem D_X0_purchase_17 : Dec mi_X0_purchase 17 (.invokevirtual 49) 3 20 := ⟨by decide +kernel, rfl⟩
theorem D_X0_purchase_20 : DecJ mi_X0_purchase 20 (.if_icmp .gt 57) (57) 23 77 := ⟨by decide +kernel, rfl, by decide⟩
theorem D_X0_purchase_23 : Dec mi_X0_purchase 23 (.aload_n 0) 1 24 := ⟨by decide +kernel, rfl⟩
theorem D_X0_purchase_24 : Dec mi_X0_purchase 24 (.getfield 15) 3 27 := ⟨by decide +kernel, rfl⟩
theorem D_X0_purchase_27 : Dec mi_X0_purchase 27 (.iload 5) 2 29 := ⟨by decide +kernel, rfl⟩
theorem D_X0_purchase_29 : Dec mi_X0_purchase 29 (.iconst 5) 1 30 := ⟨by decide +kernel, rfl⟩
theorem D_X0_purchase_30 : Dec mi_X0_purchase 30 (.invokevirtual 52) 3 33 := ⟨by decide +kernel, rfl⟩
theorem D_X0_purchase_33 : Dec mi_X0_purchase 33 (.istore 6) 2 35 := ⟨by decide +kernel, rfl⟩
theorem D_X0_purchase_35 : Dec mi_X0_purchase 35 (.iload 5) 2 37 := ⟨by decide +kernel, rfl⟩
theorem D_X0_purchase_37 : Dec mi_X0_purchase 37 (.iload_n 1) 1 38 := ⟨by decide +kernel, rfl⟩
theorem D_X0_purchase_38 : Dec mi_X0_purchase 38 (.iand) 1 39 := ⟨by decide +kernel, rfl⟩
theorem D_X0_purchase_39 : DecJ mi_X0_purchase 39 (.ifCond .ne 32) (32) 42 71 := ⟨by decide +kernel, rfl, by decide⟩
theorem D_X0_purchase_42 : Dec mi_X0_purchase 42 (.iload 6) 2 44 := ⟨by decide +kernel, rfl⟩
theorem D_X0_purchase_44 : Dec mi_X0_purchase 44 (.iload 4) 2 46 := ⟨by decide +kernel, rfl⟩
theorem D_X0_purchase_46 : DecJ mi_X0_purchase 46 (.if_icmp .ge 25) (25) 49 71 := ⟨by decide +kernel, rfl, by decide⟩
theorem D_X0_purchase_49 : Dec mi_X0_purchase 49 (.aload_n 0) 1 50 := ⟨by decide +kernel, rfl⟩
theorem D_X0_purchase_50 : Dec mi_X0_purchase 50 (.getfield 19) 3 53 := ⟨by decide +kernel, rfl⟩
theorem D_X0_purchase_53 : Dec mi_X0_purchase 53 (.iload_n 1) 1 54 := ⟨by decide +kernel, rfl⟩
theorem D_X0_purchase_54 : Dec mi_X0_purchase 54 (.iload 5) 2 56 := ⟨by decide +kernel, rfl⟩
theorem D_X0_purchase_56 : Dec mi_X0_purchase 56 (.ior) 1 57 := ⟨by decide +kernel, rfl⟩
theorem D_X0_purchase_57 : Dec mi_X0_purchase 57 (.iload_n 2) 1 58 := ⟨by decide +kernel, rfl⟩
theorem D_X0_purchase_58 : Dec mi_X0_purchase 58 (.invokevirtual 39) 3 61 := ⟨by decide +kernel, rfl⟩
theorem D_X0_purchase_61 : DecJ mi_X0_purchase 61 (.ifCond .eq 10) (10) 64 71 := ⟨by decide +kernel, rfl, by decide⟩
theorem D_X0_purchase_64 : Dec mi_X0_purchase 64 (.iload 5) 2 66 := ⟨by decide +kernel, rfl⟩
theorem D_X0_purchase_66 : Dec mi_X0_purchase 66 (.istore_n 3) 1 67 := ⟨by decide +kernel, rfl⟩
theorem D_X0_purchase_67 : Dec mi_X0_purchase 67 (.iload 6) 2 69 := ⟨by decide +kernel, rfl⟩
theorem D_X0_purchase_69 : Dec mi_X0_purchase 69 (.istore 4) 2 71 := ⟨by decide +kernel, rfl⟩
theorem D_X0_purchase_71 : Dec mi_X0_purchase 71 (.iinc 5 1) 3 74 := ⟨by decide +kernel, rfl⟩
theorem D_X0_purchase_74 : DecJ mi_X0_purchase 74 (.goto (-63)) (-63) 77 11 := ⟨by decide +kernel, rfl, by decide⟩
theorem D_X0_purchase_77 : Dec mi_X0_purchase 77 (.iload_n 3) 1 78 := ⟨by decide +kernel, rfl⟩
theorem D_X0_purchase_78 : Dec mi_X0_purchase 78 (.ireturn) 1 79 := ⟨by decide +kernel, rfl⟩
def f_X0_purchase_11 (F : Nat) : Nat → Int32 → Int32 → Int32 → Int32 → Int32 → Mem → Option (Int32 × Mem)
  | 0, _, _, _, _, _, _ => none
  | n + 1, y1, y2, y3, y4, y5, N => if (f_X8_allThings N 3) < y5 then (some (y3, N)) else ((f_X8_sum F N 3 y5 (5 : Int32)).bind fun x2 => if (y5 &&& y1) = 0 then (if y4 ≤ x2 then (f_X0_purchase_11 F n y1 y2 y3 y4 (y5 + (1 : Int32)) N) else ((f_X5_find F N (y1 ||| y5) y2).bind fun p6 => if p6.1 = 0 then (f_X0_purchase_11 F n y1 y2 y3 y4 (y5 + (1 : Int32)) p6.2) else (f_X0_purchase_11 F n y1 y2 y5 x2 (y5 + (1 : Int32)) p6.2))) else (f_X0_purchase_11 F n y1 y2 y3 y4 (y5 + (1 : Int32)) N))
theorem x_X0_purchase_11 {l : Launch} {w : Wd} {κ : Kp} {F : Nat} {v : Int32 × Mem} (hq : RQ w (some (.int v.1), v.2) κ) : ∀ (n : Nat) (y1 : Int32) (y2 : Int32) (y3 : Int32) (y4 : Int32) (y5 : Int32) (N : Mem), f_X0_purchase_11 F n y1 y2 y3 y4 y5 N = some v → RR l w mi_X0_purchase (28) κ 11 [] [some (.ref (wq w 25)), some (.int y1), some (.int y2), some (.int y3), some (.int y4), some (.int y5), none] N
  | 0, _, _, _, _, _, _, h => nomatch h
  | n + 1, y1, y2, y3, y4, y5, N, h => let_h (show (if (f_X8_allThings N 3) < y5 then (some (y3, N)) else ((f_X8_sum F N 3 y5 (5 : Int32)).bind fun x2 => if (y5 &&& y1) = 0 then (if y4 ≤ x2 then (f_X0_purchase_11 F n y1 y2 y3 y4 (y5 + (1 : Int32)) N) else ((f_X5_find F N (y1 ||| y5) y2).bind fun p6 => if p6.1 = 0 then (f_X0_purchase_11 F n y1 y2 y3 y4 (y5 + (1 : Int32)) p6.2) else (f_X0_purchase_11 F n y1 y2 y5 x2 (y5 + (1 : Int32)) p6.2))) else (f_X0_purchase_11 F n y1 y2 y3 y4 (y5 + (1 : Int32)) N))) = some v from h) fun h => r_iload D_X0_purchase_11 rfl <| r_aload_n D_X0_purchase_13 rfl <| r_getR (j := 3) D_X0_purchase_14 fl_X0_15 s_25 rfl <| r_callV (av := []) D_X0_purchase_17 ml_X0_49 mf_X8_allThings mv_X8_allThings s_3 rfl rfl (x_X8_allThings trip_3 rfl) (Nat.le_of_ble_eq_true rfl) rfl rfl (Nat.le_of_ble_eq_true rfl) <| r_icmp_gt D_X0_purchase_20 (fun c1 => let_h (ifT c1 h) fun h => r_iload_n D_X0_purchase_77 rfl <| r_iret hq D_X0_purchase_78 rfl (rtW h)) (fun c1 => let_h (ifF c1 h) fun h => r_aload_n D_X0_purchase_23 rfl <| r_getR (j := 3) D_X0_purchase_24 fl_X0_15 s_25 rfl <| r_iload D_X0_purchase_27 rfl <| r_iconst D_X0_purchase_29 ki_5 <| (bdE h).elim fun x2 q3 => let_h q3.2 fun h => r_callV (av := [.int y5, .int (5 : Int32)]) D_X0_purchase_30 ml_X0_52 mf_X8_sum mv_X8_sum s_3 rfl rfl (x_X8_sum trip_3 q3.1) (Nat.le_of_ble_eq_true rfl) rfl rfl (Nat.le_of_ble_eq_true rfl) <| r_istore D_X0_purchase_33 (by decide) rfl <| r_iload D_X0_purchase_35 rfl <| r_iload_n D_X0_purchase_37 rfl <| r_iand D_X0_purchase_38 <| r_if_ne D_X0_purchase_39 (fun c4 => let_h (ifT c4 h) fun h => r_iload D_X0_purchase_42 rfl <| r_iload D_X0_purchase_44 rfl <| r_icmp_ge D_X0_purchase_46 (fun c5 => let_h (ifT c5 h) fun h => r_iinc D_X0_purchase_71 rfl ki_1 (by decide) rfl <| r_goto D_X0_purchase_74 <| r_ls (x_X0_purchase_11 hq n y1 y2 y3 y4 (y5 + (1 : Int32)) N h) ⟨rfl, ⟨rfl, ⟨rfl, ⟨rfl, ⟨rfl, ⟨rfl, trivial⟩⟩⟩⟩⟩⟩) (fun c5 => let_h (ifF c5 h) fun h => r_aload_n D_X0_purchase_49 rfl <| r_getR (j := 17) D_X0_purchase_50 fl_X0_19 s_25 rfl <| r_iload_n D_X0_purchase_53 rfl <| r_iload D_X0_purchase_54 rfl <| r_ior D_X0_purchase_56 <| r_iload_n D_X0_purchase_57 rfl <| (bdE h).elim fun p6 q7 => let_h q7.2 fun h => r_callV (av := [.int (y1 ||| y5), .int y2]) D_X0_purchase_58 ml_X0_39 mf_X5_find mv_X5_find s_17 rfl rfl (x_X5_find q7.1) (Nat.le_of_ble_eq_true rfl) rfl rfl (Nat.le_of_ble_eq_true rfl) <| r_if_eq D_X0_purchase_61 (fun c8 => let_h (ifT c8 h) fun h => r_iinc D_X0_purchase_71 rfl ki_1 (by decide) rfl <| r_goto D_X0_purchase_74 <| r_ls (x_X0_purchase_11 hq n y1 y2 y3 y4 (y5 + (1 : Int32)) p6.2 h) ⟨rfl, ⟨rfl, ⟨rfl, ⟨rfl, ⟨rfl, ⟨rfl, trivial⟩⟩⟩⟩⟩⟩) (fun c8 => let_h (ifF c8 h) fun h => r_iload D_X0_purchase_64 rfl <| r_istore_n D_X0_purchase_66 (by decide) rfl <| r_iload D_X0_purchase_67 rfl <| r_istore D_X0_purchase_69 (by decide) rfl <| r_iinc D_X0_purchase_71 rfl ki_1 (by decide) rfl <| r_goto D_X0_purchase_74 <| r_ls (x_X0_purchase_11 hq n y1 y2 y5 x2 (y5 + (1 : Int32)) p6.2 h) ⟨rfl, ⟨rfl, ⟨rfl, ⟨rfl, ⟨rfl, ⟨rfl, trivial⟩⟩⟩⟩⟩⟩))) (fun c4 => let_h (ifF c4 h) fun h => r_iinc D_X0_purchase_71 rfl ki_1 (by decide) rfl <| r_goto D_X0_purchase_74 <| r_ls (x_X0_purchase_11 hq n y1 y2 y3 y4 (y5 + (1 : Int32)) N h) ⟨rfl, ⟨rfl, ⟨rfl, ⟨rfl, ⟨rfl, ⟨rfl, trivial⟩⟩⟩⟩⟩⟩))
def f_X0_purchase (F : Nat) (M : Mem) (a1 : Int32) (a2 : Int32) : Option (Int32 × Mem) := f_X0_purchase_11 F F a1 a2 (-9 : Int32) (1000 : Int32) (0 : Int32) M
theorem x_X0_purchase {l : Launch} {w : Wd} {F : Nat} {M : Mem} {a1 : Int32} {a2 : Int32} {v : Int32 × Mem} (h : f_X0_purchase F M a1 a2 = some v) : Cn l w mi_X0_purchase yX0_purchase (28) [.ref (wq w 25), .int a1, .int a2] M (some (.int v.1), v.2) :=
  Cn_of (loc0 := [some (.ref (wq w 25)), some (.int a1), some (.int a2), none, none, none, none]) rfl rfl rfl (Nat.le_of_ble_eq_true rfl) fun κ hq => let_h (show (f_X0_purchase_11 F F a1 a2 (-9 : Int32) (1000 : Int32) (0 : Int32) M) = some v from h) fun h => r_bipush D_X0_purchase_0 k8_m9 <| r_istore_n D_X0_purchase_2 (by decide) rfl <| r_sipush D_X0_purchase_3 k16_1000 <| r_istore D_X0_purchase_6 (by decide) rfl <| r_iconst D_X0_purchase_8 ki_0 <| r_istore D_X0_purchase_9 (by decide) rfl <| r_ls (x_X0_purchase_11 hq F a1 a2 (-9 : Int32) (1000 : Int32) (0 : Int32) M h) ⟨rfl, ⟨rfl, ⟨rfl, ⟨rfl, ⟨rfl, ⟨rfl, trivial⟩⟩⟩⟩⟩⟩
-- J6_bitCount_0f7a4
theorem D_J6_bitCount_0f7a4_0 : Dec mi_J6_bitCount_0f7a4 0 (.iload_n 0) 1 1 := ⟨by decide +kernel, rfl⟩
theorem D_J6_bitCount_0f7a4_1 : Dec mi_J6_bitCount_0f7a4 1 (.iload_n 0) 1 2 := ⟨by decide +kernel, rfl⟩
theorem D_J6_bitCount_0f7a4_2 : Dec mi_J6_bitCount_0f7a4 2 (.iconst 1) 1 3 := ⟨by decide +kernel, rfl⟩
theorem D_J6_bitCount_0f7a4_3 : Dec mi_J6_bitCount_0f7a4 3 (.iushr) 1 4 := ⟨by decide +kernel, rfl⟩
theorem D_J6_bitCount_0f7a4_4 : Dec mi_J6_bitCount_0f7a4 4 (.ldc_w 265) 3 7 := ⟨by decide +kernel, rfl⟩
theorem D_J6_bitCount_0f7a4_7 : Dec mi_J6_bitCount_0f7a4 7 (.iand) 1 8 := ⟨by decide +kernel, rfl⟩
theorem D_J6_bitCount_0f7a4_8 : Dec mi_J6_bitCount_0f7a4 8 (.isub) 1 9 := ⟨by decide +kernel, rfl⟩
theorem D_J6_bitCount_0f7a4_9 : Dec mi_J6_bitCount_0f7a4 9 (.istore_n 0) 1 10 := ⟨by decide +kernel, rfl⟩
theorem D_J6_bitCount_0f7a4_10 : Dec mi_J6_bitCount_0f7a4 10 (.iload_n 0) 1 11 := ⟨by decide +kernel, rfl⟩
theorem D_J6_bitCount_0f7a4_11 : Dec mi_J6_bitCount_0f7a4 11 (.ldc_w 266) 3 14 := ⟨by decide +kernel, rfl⟩
theorem D_J6_bitCount_0f7a4_14 : Dec mi_J6_bitCount_0f7a4 14 (.iand) 1 15 := ⟨by decide +kernel, rfl⟩
theorem D_J6_bitCount_0f7a4_15 : Dec mi_J6_bitCount_0f7a4 15 (.iload_n 0) 1 16 := ⟨by decide +kernel, rfl⟩
theorem D_J6_bitCount_0f7a4_16 : Dec mi_J6_bitCount_0f7a4 16 (.iconst 2) 1 17 := ⟨by decide +kernel, rfl⟩
theorem D_J6_bitCount_0f7a4_17 : Dec mi_J6_bitCount_0f7a4 17 (.iushr) 1 18 := ⟨by decide +kernel, rfl⟩
theorem D_J6_bitCount_0f7a4_18 : Dec mi_J6_bitCount_0f7a4 18 (.ldc_w 266) 3 21 := ⟨by decide +kernel, rfl⟩
theorem D_J6_bitCount_0f7a4_21 : Dec mi_J6_bitCount_0f7a4 21 (.iand) 1 22 := ⟨by decide +kernel, rfl⟩
theorem D_J6_bitCount_0f7a4_22 : Dec mi_J6_bitCount_0f7a4 22 (.iadd) 1 23 := ⟨by decide +kernel, rfl⟩
theorem D_J6_bitCount_0f7a4_23 : Dec mi_J6_bitCount_0f7a4 23 (.istore_n 0) 1 24 := ⟨by decide +kernel, rfl⟩
theorem D_J6_bitCount_0f7a4_24 : Dec mi_J6_bitCount_0f7a4 24 (.iload_n 0) 1 25 := ⟨by decide +kernel, rfl⟩
theorem D_J6_bitCount_0f7a4_25 : Dec mi_J6_bitCount_0f7a4 25 (.iload_n 0) 1 26 := ⟨by decide +kernel, rfl⟩
theorem D_J6_bitCount_0f7a4_26 : Dec mi_J6_bitCount_0f7a4 26 (.iconst 4) 1 27 := ⟨by decide +kernel, rfl⟩
theorem D_J6_bitCount_0f7a4_27 : Dec mi_J6_bitCount_0f7a4 27 (.iushr) 1 28 := ⟨by decide +kernel, rfl⟩
theorem D_J6_bitCount_0f7a4_28 : Dec mi_J6_bitCount_0f7a4 28 (.iadd) 1 29 := ⟨by decide +kernel, rfl⟩
theorem D_J6_bitCount_0f7a4_29 : Dec mi_J6_bitCount_0f7a4 29 (.ldc_w 267) 3 32 := ⟨by decide +kernel, rfl⟩
theorem D_J6_bitCount_0f7a4_32 : Dec mi_J6_bitCount_0f7a4 32 (.iand) 1 33 := ⟨by decide +kernel, rfl⟩
theorem D_J6_bitCount_0f7a4_33 : Dec mi_J6_bitCount_0f7a4 33 (.istore_n 0) 1 34 := ⟨by decide +kernel, rfl⟩
theorem D_J6_bitCount_0f7a4_34 : Dec mi_J6_bitCount_0f7a4 34 (.iload_n 0) 1 35 := ⟨by decide +kernel, rfl⟩
theorem D_J6_bitCount_0f7a4_35 : Dec mi_J6_bitCount_0f7a4 35 (.iload_n 0) 1 36 := ⟨by decide +kernel, rfl⟩
theorem D_J6_bitCount_0f7a4_36 : Dec mi_J6_bitCount_0f7a4 36 (.bipush 8) 2 38 := ⟨by decide +kernel, rfl⟩
theorem D_J6_bitCount_0f7a4_38 : Dec mi_J6_bitCount_0f7a4 38 (.iushr) 1 39 := ⟨by decide +kernel, rfl⟩
theorem D_J6_bitCount_0f7a4_39 : Dec mi_J6_bitCount_0f7a4 39 (.iadd) 1 40 := ⟨by decide +kernel, rfl⟩
theorem D_J6_bitCount_0f7a4_40 : Dec mi_J6_bitCount_0f7a4 40 (.istore_n 0) 1 41 := ⟨by decide +kernel, rfl⟩
theorem D_J6_bitCount_0f7a4_41 : Dec mi_J6_bitCount_0f7a4 41 (.iload_n 0) 1 42 := ⟨by decide +kernel, rfl⟩
theorem D_J6_bitCount_0f7a4_42 : Dec mi_J6_bitCount_0f7a4 42 (.iload_n 0) 1 43 := ⟨by decide +kernel, rfl⟩
theorem D_J6_bitCount_0f7a4_43 : Dec mi_J6_bitCount_0f7a4 43 (.bipush 16) 2 45 := ⟨by decide +kernel, rfl⟩
theorem D_J6_bitCount_0f7a4_45 : Dec mi_J6_bitCount_0f7a4 45 (.iushr) 1 46 := ⟨by decide +kernel, rfl⟩
theorem D_J6_bitCount_0f7a4_46 : Dec mi_J6_bitCount_0f7a4 46 (.iadd) 1 47 := ⟨by decide +kernel, rfl⟩
theorem D_J6_bitCount_0f7a4_47 : Dec mi_J6_bitCount_0f7a4 47 (.istore_n 0) 1 48 := ⟨by decide +kernel, rfl⟩
theorem D_J6_bitCount_0f7a4_48 : Dec mi_J6_bitCount_0f7a4 48 (.iload_n 0) 1 49 := ⟨by decide +kernel, rfl⟩
theorem D_J6_bitCount_0f7a4_49 : Dec mi_J6_bitCount_0f7a4 49 (.bipush 63) 2 51 := ⟨by decide +kernel, rfl⟩
theorem D_J6_bitCount_0f7a4_51 : Dec mi_J6_bitCount_0f7a4 51 (.iand) 1 52 := ⟨by decide +kernel, rfl⟩
theorem D_J6_bitCount_0f7a4_52 : Dec mi_J6_bitCount_0f7a4 52 (.ireturn) 1 53 := ⟨by decide +kernel, rfl⟩
def f_J6_bitCount_0f7a4 (M : Mem) (a1 : Int32) : Int32 := vlet (a1 - ((a1.toUInt32 >>> ((1 : Int32).toUInt32 &&& Int32.toUInt32 31)).toInt32 &&& (1431655765 : Int32))) fun x1 => vlet ((x1 &&& (858993459 : Int32)) + ((x1.toUInt32 >>> ((2 : Int32).toUInt32 &&& Int32.toUInt32 31)).toInt32 &&& (858993459 : Int32))) fun x2 => vlet ((x2 + (x2.toUInt32 >>> ((4 : Int32).toUInt32 &&& Int32.toUInt32 31)).toInt32) &&& (252645135 : Int32)) fun x3 => vlet (x3 + (x3.toUInt32 >>> ((8 : Int32).toUInt32 &&& Int32.toUInt32 31)).toInt32) fun x4 => vlet (x4 + (x4.toUInt32 >>> ((16 : Int32).toUInt32 &&& Int32.toUInt32 31)).toInt32) fun x5 => (x5 &&& (63 : Int32))
theorem x_J6_bitCount_0f7a4 {l : Launch} {w : Wd} {M : Mem} {a1 : Int32} {v : Int32} (h : f_J6_bitCount_0f7a4 M a1 = v) : Cn l w mi_J6_bitCount_0f7a4 yJ6_bitCount_0f7a4 (0) [.int a1] M (some (.int v), M) :=
  Cn_of (loc0 := [some (.int a1)]) rfl rfl rfl (Nat.le_of_ble_eq_true rfl) fun κ hq => let_h (show (vlet (a1 - ((a1.toUInt32 >>> ((1 : Int32).toUInt32 &&& Int32.toUInt32 31)).toInt32 &&& (1431655765 : Int32))) fun x1 => vlet ((x1 &&& (858993459 : Int32)) + ((x1.toUInt32 >>> ((2 : Int32).toUInt32 &&& Int32.toUInt32 31)).toInt32 &&& (858993459 : Int32))) fun x2 => vlet ((x2 + (x2.toUInt32 >>> ((4 : Int32).toUInt32 &&& Int32.toUInt32 31)).toInt32) &&& (252645135 : Int32)) fun x3 => vlet (x3 + (x3.toUInt32 >>> ((8 : Int32).toUInt32 &&& Int32.toUInt32 31)).toInt32) fun x4 => vlet (x4 + (x4.toUInt32 >>> ((16 : Int32).toUInt32 &&& Int32.toUInt32 31)).toInt32) fun x5 => (x5 &&& (63 : Int32))) = v from h) fun h => r_iload_n D_J6_bitCount_0f7a4_0 rfl <| r_iload_n D_J6_bitCount_0f7a4_1 rfl <| r_iconst D_J6_bitCount_0f7a4_2 ki_1 <| r_iushr D_J6_bitCount_0f7a4_3 <| r_ldcw D_J6_bitCount_0f7a4_4 ci_J6_265 <| r_iand D_J6_bitCount_0f7a4_7 <| r_isub D_J6_bitCount_0f7a4_8 <| vlE (fun x1 => RR l w mi_J6_bitCount_0f7a4 (0) κ 9 [.int x1] [some (.int a1)] M) h fun x1 h => r_istore_n D_J6_bitCount_0f7a4_9 (by decide) rfl <| r_iload_n D_J6_bitCount_0f7a4_10 rfl <| r_ldcw D_J6_bitCount_0f7a4_11 ci_J6_266 <| r_iand D_J6_bitCount_0f7a4_14 <| r_iload_n D_J6_bitCount_0f7a4_15 rfl <| r_iconst D_J6_bitCount_0f7a4_16 ki_2 <| r_iushr D_J6_bitCount_0f7a4_17 <| r_ldcw D_J6_bitCount_0f7a4_18 ci_J6_266 <| r_iand D_J6_bitCount_0f7a4_21 <| r_iadd D_J6_bitCount_0f7a4_22 <| vlE (fun x2 => RR l w mi_J6_bitCount_0f7a4 (0) κ 23 [.int x2] [some (.int x1)] M) h fun x2 h => r_istore_n D_J6_bitCount_0f7a4_23 (by decide) rfl <| r_iload_n D_J6_bitCount_0f7a4_24 rfl <| r_iload_n D_J6_bitCount_0f7a4_25 rfl <| r_iconst D_J6_bitCount_0f7a4_26 ki_4 <| r_iushr D_J6_bitCount_0f7a4_27 <| r_iadd D_J6_bitCount_0f7a4_28 <| r_ldcw D_J6_bitCount_0f7a4_29 ci_J6_267 <| r_iand D_J6_bitCount_0f7a4_32 <| vlE (fun x3 => RR l w mi_J6_bitCount_0f7a4 (0) κ 33 [.int x3] [some (.int x2)] M) h fun x3 h => r_istore_n D_J6_bitCount_0f7a4_33 (by decide) rfl <| r_iload_n D_J6_bitCount_0f7a4_34 rfl <| r_iload_n D_J6_bitCount_0f7a4_35 rfl <| r_bipush D_J6_bitCount_0f7a4_36 k8_8 <| r_iushr D_J6_bitCount_0f7a4_38 <| r_iadd D_J6_bitCount_0f7a4_39 <| vlE (fun x4 => RR l w mi_J6_bitCount_0f7a4 (0) κ 40 [.int x4] [some (.int x3)] M) h fun x4 h => r_istore_n D_J6_bitCount_0f7a4_40 (by decide) rfl <| r_iload_n D_J6_bitCount_0f7a4_41 rfl <| r_iload_n D_J6_bitCount_0f7a4_42 rfl <| r_bipush D_J6_bitCount_0f7a4_43 k8_16 <| r_iushr D_J6_bitCount_0f7a4_45 <| r_iadd D_J6_bitCount_0f7a4_46 <| vlE (fun x5 => RR l w mi_J6_bitCount_0f7a4 (0) κ 47 [.int x5] [some (.int x4)] M) h fun x5 h => r_istore_n D_J6_bitCount_0f7a4_47 (by decide) rfl <| r_iload_n D_J6_bitCount_0f7a4_48 rfl <| r_bipush D_J6_bitCount_0f7a4_49 k8_63 <| r_iand D_J6_bitCount_0f7a4_51 <| r_iret hq D_J6_bitCount_0f7a4_52 rfl (rtT h)
-- X0_takenOff
theorem D_X0_takenOff_0 : Dec mi_X0_takenOff 0 (.bipush (-9)) 2 2 := ⟨by decide +kernel, rfl⟩
theorem D_X0_takenOff_2 : Dec mi_X0_takenOff 2 (.istore 4) 2 4 := ⟨by decide +kernel, rfl⟩
theorem D_X0_takenOff_4 : Dec mi_X0_takenOff 4 (.bipush 7) 2 6 := ⟨by decide +kernel, rfl⟩
theorem D_X0_takenOff_6 : Dec mi_X0_takenOff 6 (.istore 5) 2 8 := ⟨by decide +kernel, rfl⟩
theorem D_X0_takenOff_8 : Dec mi_X0_takenOff 8 (.iconst 0) 1 9 := ⟨by decide +kernel, rfl⟩
theorem D_X0_takenOff_9 : Dec mi_X0_takenOff 9 (.istore 6) 2 11 := ⟨by decide +kernel, rfl⟩
theorem D_X0_takenOff_11 : Dec mi_X0_takenOff 11 (.iload 6) 2 13 := ⟨by decide +kernel, rfl⟩
theorem D_X0_takenOff_13 : Dec mi_X0_takenOff 13 (.aload_n 0) 1 14 := ⟨by decide +kernel, rfl⟩
theorem D_X0_takenOff_14 : Dec mi_X0_takenOff 14 (.getfield 15) 3 17 := ⟨by decide +kernel, rfl⟩
theorem D_X0_takenOff_17 : Dec mi_X0_takenOff 17 (.invokevirtual 49) 3 20 := ⟨by decide +kernel, rfl⟩
theorem D_X0_takenOff_20 : DecJ mi_X0_takenOff 20 (.if_icmp .gt 86) (86) 23 106 := ⟨by decide +kernel, rfl, by decide⟩
theorem D_X0_takenOff_23 : Dec mi_X0_takenOff 23 (.iload_n 1) 1 24 := ⟨by decide +kernel, rfl⟩
theorem D_X0_takenOff_24 : Dec mi_X0_takenOff 24 (.iload 6) 2 26 := ⟨by decide +kernel, rfl⟩
theorem D_X0_takenOff_26 : Dec mi_X0_takenOff 26 (.iconst (-1)) 1 27 := ⟨by decide +kernel, rfl⟩
theorem D_X0_takenOff_27 : Dec mi_X0_takenOff 27 (.ixor) 1 28 := ⟨by decide +kernel, rfl⟩
theorem D_X0_takenOff_28 : Dec mi_X0_takenOff 28 (.iand) 1 29 := ⟨by decide +kernel, rfl⟩
theorem D_X0_takenOff_29 : Dec mi_X0_takenOff 29 (.istore 7) 2 31 := ⟨by decide +kernel, rfl⟩
theorem D_X0_takenOff_31 : Dec mi_X0_takenOff 31 (.iload 6) 2 33 := ⟨by decide +kernel, rfl⟩
theorem D_X0_takenOff_33 : Dec mi_X0_takenOff 33 (.iload_n 1) 1 34 := ⟨by decide +kernel, rfl⟩
theorem D_X0_takenOff_34 : Dec mi_X0_takenOff 34 (.iconst (-1)) 1 35 := ⟨by decide +kernel, rfl⟩
theorem D_X0_takenOff_35 : Dec mi_X0_takenOff 35 (.ixor) 1 36 := ⟨by decide +kernel, rfl⟩
theorem D_X0_takenOff_36 : Dec mi_X0_takenOff 36 (.iand) 1 37 := ⟨by decide +kernel, rfl⟩
theorem D_X0_takenOff_37 : DecJ mi_X0_takenOff 37 (.ifCond .ne 21) (21) 40 58 := ⟨by decide +kernel, rfl, by decide⟩
theorem D_X0_takenOff_40 : Dec mi_X0_takenOff 40 (.aload_n 0) 1 41 := ⟨by decide +kernel, rfl⟩
theorem D_X0_takenOff_41 : Dec mi_X0_takenOff 41 (.getfield 15) 3 44 := ⟨by decide +kernel, rfl⟩
theorem D_X0_takenOff_44 : Dec mi_X0_takenOff 44 (.iload 7) 2 46 := ⟨by decide +kernel, rfl⟩
theorem D_X0_takenOff_46 : Dec mi_X0_takenOff 46 (.iconst 4) 1 47 := ⟨by decide +kernel, rfl⟩
theorem D_X0_takenOff_47 : Dec mi_X0_takenOff 47 (.invokevirtual 52) 3 50 := ⟨by decide +kernel, rfl⟩
theorem D_X0_takenOff_50 : Dec mi_X0_takenOff 50 (.iload_n 3) 1 51 := ⟨by decide +kernel, rfl⟩
theorem D_X0_takenOff_51 : DecJ mi_X0_takenOff 51 (.if_icmp .gt 7) (7) 54 58 := ⟨by decide +kernel, rfl, by decide⟩
theorem D_X0_takenOff_54 : Dec mi_X0_takenOff 54 (.iconst 1) 1 55 := ⟨by decide +kernel, rfl⟩
theorem D_X0_takenOff_55 : DecJ mi_X0_takenOff 55 (.goto 4) (4) 58 59 := ⟨by decide +kernel, rfl, by decide⟩
theorem D_X0_takenOff_58 : Dec mi_X0_takenOff 58 (.iconst 0) 1 59 := ⟨by decide +kernel, rfl⟩
theorem D_X0_takenOff_59 : Dec mi_X0_takenOff 59 (.istore 8) 2 61 := ⟨by decide +kernel, rfl⟩
theorem D_X0_takenOff_61 : Dec mi_X0_takenOff 61 (.iload 8) 2 63 := ⟨by decide +kernel, rfl⟩
theorem D_X0_takenOff_63 : DecJ mi_X0_takenOff 63 (.ifCond .eq 37) (37) 66 100 := ⟨by decide +kernel, rfl, by decide⟩
theorem D_X0_takenOff_66 : Dec mi_X0_takenOff 66 (.iload 6) 2 68 := ⟨by decide +kernel, rfl⟩
theorem D_X0_takenOff_68 : Dec mi_X0_takenOff 68 (.invokestatic 64) 3 71 := ⟨by decide +kernel, rfl⟩
theorem D_X0_takenOff_71 : Dec mi_X0_takenOff 71 (.iload 5) 2 73 := ⟨by decide +kernel, rfl⟩
theorem D_X0_takenOff_73 : DecJ mi_X0_takenOff 73 (.if_icmp .ge 27) (27) 76 100 := ⟨by decide +kernel, rfl, by decide⟩
theorem D_X0_takenOff_76 : Dec mi_X0_takenOff 76 (.aload_n 0) 1 77 := ⟨by decide +kernel, rfl⟩
theorem D_X0_takenOff_77 : Dec mi_X0_takenOff 77 (.getfield 19) 3 80 := ⟨by decide +kernel, rfl⟩
theorem D_X0_takenOff_80 : Dec mi_X0_takenOff 80 (.iload 7) 2 82 := ⟨by decide +kernel, rfl⟩
theorem D_X0_takenOff_82 : Dec mi_X0_takenOff 82 (.iload_n 2) 1 83 := ⟨by decide +kernel, rfl⟩
theorem D_X0_takenOff_83 : Dec mi_X0_takenOff 83 (.invokevirtual 39) 3 86 := ⟨by decide +kernel, rfl⟩
theorem D_X0_takenOff_86 : DecJ mi_X0_takenOff 86 (.ifCond .eq 14) (14) 89 100 := ⟨by decide +kernel, rfl, by decide⟩
theorem D_X0_takenOff_89 : Dec mi_X0_takenOff 89 (.iload 6) 2 91 := ⟨by decide +kernel, rfl⟩
theorem D_X0_takenOff_91 : Dec mi_X0_takenOff 91 (.istore 4) 2 93 := ⟨by decide +kernel, rfl⟩
theorem D_X0_takenOff_93 : Dec mi_X0_takenOff 93 (.iload 6) 2 95 := ⟨by decide +kernel, rfl⟩
theorem D_X0_takenOff_95 : Dec mi_X0_takenOff 95 (.invokestatic 64) 3 98 := ⟨by decide +kernel, rfl⟩
theorem D_X0_takenOff_98 : Dec mi_X0_takenOff 98 (.istore 5) 2 100 := ⟨by decide +kernel, rfl⟩
theorem D_X0_takenOff_100 : Dec mi_X0_takenOff 100 (.iinc 6 1) 3 103 := ⟨by decide +kernel, rfl⟩
theorem D_X0_takenOff_103 : DecJ mi_X0_takenOff 103 (.goto (-92)) (-92) 106 11 := ⟨by decide +kernel, rfl, by decide⟩
theorem D_X0_takenOff_106 : Dec mi_X0_takenOff 106 (.iload 4) 2 108 := ⟨by decide +kernel, rfl⟩
theorem D_X0_takenOff_108 : Dec mi_X0_takenOff 108 (.ireturn) 1 109 := ⟨by decide +kernel, rfl⟩
def f_X0_takenOff_59 (F : Nat) (K_11 : Int32 → Int32 → Int32 → Int32 → Int32 → Int32 → Mem → Option (Int32 × Mem)) (y1 : Int32) (y2 : Int32) (y3 : Int32) (y4 : Int32) (y5 : Int32) (y6 : Int32) (y7 : Int32) (t0 : Int32) (N : Mem) : Option (Int32 × Mem) := if t0 = 0 then (K_11 y1 y2 y3 y4 y5 (y6 + (1 : Int32)) N) else (if y5 ≤ (f_J6_bitCount_0f7a4 N y6) then (K_11 y1 y2 y3 y4 y5 (y6 + (1 : Int32)) N) else ((f_X5_find F N y7 y2).bind fun p3 => if p3.1 = 0 then (K_11 y1 y2 y3 y4 y5 (y6 + (1 : Int32)) p3.2) else (K_11 y1 y2 y3 y6 (f_J6_bitCount_0f7a4 p3.2 y6) (y6 + (1 : Int32)) p3.2)))
theorem x_X0_takenOff_59 {l : Launch} {w : Wd} {κ : Kp} {F : Nat} {v : Int32 × Mem} {K_11 : Int32 → Int32 → Int32 → Int32 → Int32 → Int32 → Mem → Option (Int32 × Mem)} (hq : RQ w (some (.int v.1), v.2) κ) (hK_11 : ∀ (y1 : Int32) (y2 : Int32) (y3 : Int32) (y4 : Int32) (y5 : Int32) (y6 : Int32) (N : Mem), K_11 y1 y2 y3 y4 y5 y6 N = some v → RR l w mi_X0_takenOff (28) κ 11 [] [some (.ref (wq w 25)), some (.int y1), some (.int y2), some (.int y3), some (.int y4), some (.int y5), some (.int y6), none, none] N) (y1 : Int32) (y2 : Int32) (y3 : Int32) (y4 : Int32) (y5 : Int32) (y6 : Int32) (y7 : Int32) (t0 : Int32) (N : Mem) (h : f_X0_takenOff_59 F K_11 y1 y2 y3 y4 y5 y6 y7 t0 N = some v) : RR l w mi_X0_takenOff (28) κ 59 [.int t0] [some (.ref (wq w 25)), some (.int y1), some (.int y2), some (.int y3), some (.int y4), some (.int y5), some (.int y6), some (.int y7), none] N := let_h (show (if t0 = 0 then (K_11 y1 y2 y3 y4 y5 (y6 + (1 : Int32)) N) else (if y5 ≤ (f_J6_bitCount_0f7a4 N y6) then (K_11 y1 y2 y3 y4 y5 (y6 + (1 : Int32)) N) else ((f_X5_find F N y7 y2).bind fun p3 => if p3.1 = 0 then (K_11 y1 y2 y3 y4 y5 (y6 + (1 : Int32)) p3.2) else (K_11 y1 y2 y3 y6 (f_J6_bitCount_0f7a4 p3.2 y6) (y6 + (1 : Int32)) p3.2)))) = some v from h) fun h => r_istore D_X0_takenOff_59 (by decide) rfl <| r_iload D_X0_takenOff_61 rfl <| r_if_eq D_X0_takenOff_63 (fun c1 => let_h (ifT c1 h) fun h => r_iinc D_X0_takenOff_100 rfl ki_1 (by decide) rfl <| r_goto D_X0_takenOff_103 <| r_ls (hK_11 y1 y2 y3 y4 y5 (y6 + (1 : Int32)) N h) ⟨rfl, ⟨rfl, ⟨rfl, ⟨rfl, ⟨rfl, ⟨rfl, ⟨rfl, trivial⟩⟩⟩⟩⟩⟩⟩) (fun c1 => let_h (ifF c1 h) fun h => r_iload D_X0_takenOff_66 rfl <| r_callS (av := [.int y6]) D_X0_takenOff_68 ml_X0_64 mf_J6_bitCount_0f7a4 ms_J6_bitCount_0f7a4 (x_J6_bitCount_0f7a4 rfl) (Nat.le_of_ble_eq_true rfl) rfl rfl (Nat.le_of_ble_eq_true rfl) <| r_iload D_X0_takenOff_71 rfl <| r_icmp_ge D_X0_takenOff_73 (fun c2 => let_h (ifT c2 h) fun h => r_iinc D_X0_takenOff_100 rfl ki_1 (by decide) rfl <| r_goto D_X0_takenOff_103 <| r_ls (hK_11 y1 y2 y3 y4 y5 (y6 + (1 : Int32)) N h) ⟨rfl, ⟨rfl, ⟨rfl, ⟨rfl, ⟨rfl, ⟨rfl, ⟨rfl, trivial⟩⟩⟩⟩⟩⟩⟩) (fun c2 => let_h (ifF c2 h) fun h => r_aload_n D_X0_takenOff_76 rfl <| r_getR (j := 17) D_X0_takenOff_77 fl_X0_19 s_25 rfl <| r_iload D_X0_takenOff_80 rfl <| r_iload_n D_X0_takenOff_82 rfl <| (bdE h).elim fun p3 q4 => let_h q4.2 fun h => r_callV (av := [.int y7, .int y2]) D_X0_takenOff_83 ml_X0_39 mf_X5_find mv_X5_find s_17 rfl rfl (x_X5_find q4.1) (Nat.le_of_ble_eq_true rfl) rfl rfl (Nat.le_of_ble_eq_true rfl) <| r_if_eq D_X0_takenOff_86 (fun c5 => let_h (ifT c5 h) fun h => r_iinc D_X0_takenOff_100 rfl ki_1 (by decide) rfl <| r_goto D_X0_takenOff_103 <| r_ls (hK_11 y1 y2 y3 y4 y5 (y6 + (1 : Int32)) p3.2 h) ⟨rfl, ⟨rfl, ⟨rfl, ⟨rfl, ⟨rfl, ⟨rfl, ⟨rfl, trivial⟩⟩⟩⟩⟩⟩⟩) (fun c5 => let_h (ifF c5 h) fun h => r_iload D_X0_takenOff_89 rfl <| r_istore D_X0_takenOff_91 (by decide) rfl <| r_iload D_X0_takenOff_93 rfl <| r_callS (av := [.int y6]) D_X0_takenOff_95 ml_X0_64 mf_J6_bitCount_0f7a4 ms_J6_bitCount_0f7a4 (x_J6_bitCount_0f7a4 rfl) (Nat.le_of_ble_eq_true rfl) rfl rfl (Nat.le_of_ble_eq_true rfl) <| r_istore D_X0_takenOff_98 (by decide) rfl <| r_iinc D_X0_takenOff_100 rfl ki_1 (by decide) rfl <| r_goto D_X0_takenOff_103 <| r_ls (hK_11 y1 y2 y3 y6 (f_J6_bitCount_0f7a4 p3.2 y6) (y6 + (1 : Int32)) p3.2 h) ⟨rfl, ⟨rfl, ⟨rfl, ⟨rfl, ⟨rfl, ⟨rfl, ⟨rfl, trivial⟩⟩⟩⟩⟩⟩⟩)))
def f_X0_takenOff_11 (F : Nat) : Nat → Int32 → Int32 → Int32 → Int32 → Int32 → Int32 → Mem → Option (Int32 × Mem)
  | 0, _, _, _, _, _, _, _ => none
  | n + 1, y1, y2, y3, y4, y5, y6, N => if (f_X8_allThings N 3) < y6 then (some (y4, N)) else (if (y6 &&& (y1 ^^^ (-1 : Int32))) = 0 then ((f_X8_sum F N 3 (y1 &&& (y6 ^^^ (-1 : Int32))) (4 : Int32)).bind fun x3 => if y3 < x3 then (f_X0_takenOff_59 F (fun y1 y2 y3 y4 y5 y6 N => f_X0_takenOff_11 F n y1 y2 y3 y4 y5 y6 N) y1 y2 y3 y4 y5 y6 (y1 &&& (y6 ^^^ (-1 : Int32))) (0 : Int32) N) else (f_X0_takenOff_59 F (fun y1 y2 y3 y4 y5 y6 N => f_X0_takenOff_11 F n y1 y2 y3 y4 y5 y6 N) y1 y2 y3 y4 y5 y6 (y1 &&& (y6 ^^^ (-1 : Int32))) (1 : Int32) N)) else (f_X0_takenOff_59 F (fun y1 y2 y3 y4 y5 y6 N => f_X0_takenOff_11 F n y1 y2 y3 y4 y5 y6 N) y1 y2 y3 y4 y5 y6 (y1 &&& (y6 ^^^ (-1 : Int32))) (0 : Int32) N))
theorem x_X0_takenOff_11 {l : Launch} {w : Wd} {κ : Kp} {F : Nat} {v : Int32 × Mem} (hq : RQ w (some (.int v.1), v.2) κ) : ∀ (n : Nat) (y1 : Int32) (y2 : Int32) (y3 : Int32) (y4 : Int32) (y5 : Int32) (y6 : Int32) (N : Mem), f_X0_takenOff_11 F n y1 y2 y3 y4 y5 y6 N = some v → RR l w mi_X0_takenOff (28) κ 11 [] [some (.ref (wq w 25)), some (.int y1), some (.int y2), some (.int y3), some (.int y4), some (.int y5), some (.int y6), none, none] N
  | 0, _, _, _, _, _, _, _, h => nomatch h
  | n + 1, y1, y2, y3, y4, y5, y6, N, h => let_h (show (if (f_X8_allThings N 3) < y6 then (some (y4, N)) else (if (y6 &&& (y1 ^^^ (-1 : Int32))) = 0 then ((f_X8_sum F N 3 (y1 &&& (y6 ^^^ (-1 : Int32))) (4 : Int32)).bind fun x3 => if y3 < x3 then (f_X0_takenOff_59 F (fun y1 y2 y3 y4 y5 y6 N => f_X0_takenOff_11 F n y1 y2 y3 y4 y5 y6 N) y1 y2 y3 y4 y5 y6 (y1 &&& (y6 ^^^ (-1 : Int32))) (0 : Int32) N) else (f_X0_takenOff_59 F (fun y1 y2 y3 y4 y5 y6 N => f_X0_takenOff_11 F n y1 y2 y3 y4 y5 y6 N) y1 y2 y3 y4 y5 y6 (y1 &&& (y6 ^^^ (-1 : Int32))) (1 : Int32) N)) else (f_X0_takenOff_59 F (fun y1 y2 y3 y4 y5 y6 N => f_X0_takenOff_11 F n y1 y2 y3 y4 y5 y6 N) y1 y2 y3 y4 y5 y6 (y1 &&& (y6 ^^^ (-1 : Int32))) (0 : Int32) N))) = some v from h) fun h => r_iload D_X0_takenOff_11 rfl <| r_aload_n D_X0_takenOff_13 rfl <| r_getR (j := 3) D_X0_takenOff_14 fl_X0_15 s_25 rfl <| r_callV (av := []) D_X0_takenOff_17 ml_X0_49 mf_X8_allThings mv_X8_allThings s_3 rfl rfl (x_X8_allThings trip_3 rfl) (Nat.le_of_ble_eq_true rfl) rfl rfl (Nat.le_of_ble_eq_true rfl) <| r_icmp_gt D_X0_takenOff_20 (fun c1 => let_h (ifT c1 h) fun h => r_iload D_X0_takenOff_106 rfl <| r_iret hq D_X0_takenOff_108 rfl (rtW h)) (fun c1 => let_h (ifF c1 h) fun h => r_iload_n D_X0_takenOff_23 rfl <| r_iload D_X0_takenOff_24 rfl <| r_iconst D_X0_takenOff_26 ki_m1 <| r_ixor D_X0_takenOff_27 <| r_iand D_X0_takenOff_28 <| r_istore D_X0_takenOff_29 (by decide) rfl <| r_iload D_X0_takenOff_31 rfl <| r_iload_n D_X0_takenOff_33 rfl <| r_iconst D_X0_takenOff_34 ki_m1 <| r_ixor D_X0_takenOff_35 <| r_iand D_X0_takenOff_36 <| r_if_ne D_X0_takenOff_37 (fun c2 => let_h (ifT c2 h) fun h => r_aload_n D_X0_takenOff_40 rfl <| r_getR (j := 3) D_X0_takenOff_41 fl_X0_15 s_25 rfl <| r_iload D_X0_takenOff_44 rfl <| r_iconst D_X0_takenOff_46 ki_4 <| (bdE h).elim fun x3 q4 => let_h q4.2 fun h => r_callV (av := [.int (y1 &&& (y6 ^^^ (-1 : Int32))), .int (4 : Int32)]) D_X0_takenOff_47 ml_X0_52 mf_X8_sum mv_X8_sum s_3 rfl rfl (x_X8_sum trip_3 q4.1) (Nat.le_of_ble_eq_true rfl) rfl rfl (Nat.le_of_ble_eq_true rfl) <| r_iload_n D_X0_takenOff_50 rfl <| r_icmp_gt D_X0_takenOff_51 (fun c5 => let_h (ifT c5 h) fun h => r_iconst D_X0_takenOff_58 ki_0 <| r_ls (x_X0_takenOff_59 hq (fun y1 y2 y3 y4 y5 y6 N h => x_X0_takenOff_11 hq n y1 y2 y3 y4 y5 y6 N h) y1 y2 y3 y4 y5 y6 (y1 &&& (y6 ^^^ (-1 : Int32))) (0 : Int32) N h) ⟨rfl, ⟨rfl, ⟨rfl, ⟨rfl, ⟨rfl, ⟨rfl, ⟨rfl, ⟨rfl, trivial⟩⟩⟩⟩⟩⟩⟩⟩) (fun c5 => let_h (ifF c5 h) fun h => r_iconst D_X0_takenOff_54 ki_1 <| r_goto D_X0_takenOff_55 <| r_ls (x_X0_takenOff_59 hq (fun y1 y2 y3 y4 y5 y6 N h => x_X0_takenOff_11 hq n y1 y2 y3 y4 y5 y6 N h) y1 y2 y3 y4 y5 y6 (y1 &&& (y6 ^^^ (-1 : Int32))) (1 : Int32) N h) ⟨rfl, ⟨rfl, ⟨rfl, ⟨rfl, ⟨rfl, ⟨rfl, ⟨rfl, ⟨rfl, trivial⟩⟩⟩⟩⟩⟩⟩⟩)) (fun c2 => let_h (ifF c2 h) fun h => r_iconst D_X0_takenOff_58 ki_0 <| r_ls (x_X0_takenOff_59 hq (fun y1 y2 y3 y4 y5 y6 N h => x_X0_takenOff_11 hq n y1 y2 y3 y4 y5 y6 N h) y1 y2 y3 y4 y5 y6 (y1 &&& (y6 ^^^ (-1 : Int32))) (0 : Int32) N h) ⟨rfl, ⟨rfl, ⟨rfl, ⟨rfl, ⟨rfl, ⟨rfl, ⟨rfl, ⟨rfl, trivial⟩⟩⟩⟩⟩⟩⟩⟩))
def f_X0_takenOff (F : Nat) (M : Mem) (a1 : Int32) (a2 : Int32) (a3 : Int32) : Option (Int32 × Mem) := f_X0_takenOff_11 F F a1 a2 a3 (-9 : Int32) (7 : Int32) (0 : Int32) M
theorem x_X0_takenOff {l : Launch} {w : Wd} {F : Nat} {M : Mem} {a1 : Int32} {a2 : Int32} {a3 : Int32} {v : Int32 × Mem} (h : f_X0_takenOff F M a1 a2 a3 = some v) : Cn l w mi_X0_takenOff yX0_takenOff (28) [.ref (wq w 25), .int a1, .int a2, .int a3] M (some (.int v.1), v.2) :=
  Cn_of (loc0 := [some (.ref (wq w 25)), some (.int a1), some (.int a2), some (.int a3), none, none, none, none, none]) rfl rfl rfl (Nat.le_of_ble_eq_true rfl) fun κ hq => let_h (show (f_X0_takenOff_11 F F a1 a2 a3 (-9 : Int32) (7 : Int32) (0 : Int32) M) = some v from h) fun h => r_bipush D_X0_takenOff_0 k8_m9 <| r_istore D_X0_takenOff_2 (by decide) rfl <| r_bipush D_X0_takenOff_4 k8_7 <| r_istore D_X0_takenOff_6 (by decide) rfl <| r_iconst D_X0_takenOff_8 ki_0 <| r_istore D_X0_takenOff_9 (by decide) rfl <| r_ls (x_X0_takenOff_11 hq F a1 a2 a3 (-9 : Int32) (7 : Int32) (0 : Int32) M h) ⟨rfl, ⟨rfl, ⟨rfl, ⟨rfl, ⟨rfl, ⟨rfl, ⟨rfl, trivial⟩⟩⟩⟩⟩⟩⟩
-- X0_allMatch
theorem D_X0_allMatch_0 : Dec mi_X0_allMatch 0 (.iconst 0) 1 1 := ⟨by decide +kernel, rfl⟩
theorem D_X0_allMatch_1 : Dec mi_X0_allMatch 1 (.istore_n 2) 1 2 := ⟨by decide +kernel, rfl⟩
theorem D_X0_allMatch_2 : Dec mi_X0_allMatch 2 (.iload_n 2) 1 3 := ⟨by decide +kernel, rfl⟩
theorem D_X0_allMatch_3 : Dec mi_X0_allMatch 3 (.aload_n 0) 1 4 := ⟨by decide +kernel, rfl⟩
theorem D_X0_allMatch_4 : Dec mi_X0_allMatch 4 (.getfield 15) 3 7 := ⟨by decide +kernel, rfl⟩
theorem D_X0_allMatch_7 : Dec mi_X0_allMatch 7 (.invokevirtual 58) 3 10 := ⟨by decide +kernel, rfl⟩
theorem D_X0_allMatch_10 : DecJ mi_X0_allMatch 10 (.if_icmp .ge 52) (52) 13 62 := ⟨by decide +kernel, rfl, by decide⟩
theorem D_X0_allMatch_13 : Dec mi_X0_allMatch 13 (.iconst 0) 1 14 := ⟨by decide +kernel, rfl⟩
theorem D_X0_allMatch_14 : Dec mi_X0_allMatch 14 (.istore_n 3) 1 15 := ⟨by decide +kernel, rfl⟩
theorem D_X0_allMatch_15 : Dec mi_X0_allMatch 15 (.iload_n 3) 1 16 := ⟨by decide +kernel, rfl⟩
theorem D_X0_allMatch_16 : Dec mi_X0_allMatch 16 (.iload_n 2) 1 17 := ⟨by decide +kernel, rfl⟩
theorem D_X0_allMatch_17 : DecJ mi_X0_allMatch 17 (.if_icmp .ge 39) (39) 20 56 := ⟨by decide +kernel, rfl, by decide⟩
theorem D_X0_allMatch_20 : Dec mi_X0_allMatch 20 (.iload_n 1) 1 21 := ⟨by decide +kernel, rfl⟩
theorem D_X0_allMatch_21 : Dec mi_X0_allMatch 21 (.iload_n 2) 1 22 := ⟨by decide +kernel, rfl⟩
theorem D_X0_allMatch_22 : Dec mi_X0_allMatch 22 (.invokestatic 61) 3 25 := ⟨by decide +kernel, rfl⟩
theorem D_X0_allMatch_25 : DecJ mi_X0_allMatch 25 (.ifCond .eq 25) (25) 28 50 := ⟨by decide +kernel, rfl, by decide⟩
theorem D_X0_allMatch_28 : Dec mi_X0_allMatch 28 (.iload_n 1) 1 29 := ⟨by decide +kernel, rfl⟩
theorem D_X0_allMatch_29 : Dec mi_X0_allMatch 29 (.iload_n 3) 1 30 := ⟨by decide +kernel, rfl⟩
theorem D_X0_allMatch_30 : Dec mi_X0_allMatch 30 (.invokestatic 61) 3 33 := ⟨by decide +kernel, rfl⟩
theorem D_X0_allMatch_33 : DecJ mi_X0_allMatch 33 (.ifCond .eq 17) (17) 36 50 := ⟨by decide +kernel, rfl, by decide⟩
theorem D_X0_allMatch_36 : Dec mi_X0_allMatch 36 (.aload_n 0) 1 37 := ⟨by decide +kernel, rfl⟩
theorem D_X0_allMatch_37 : Dec mi_X0_allMatch 37 (.getfield 15) 3 40 := ⟨by decide +kernel, rfl⟩
theorem D_X0_allMatch_40 : Dec mi_X0_allMatch 40 (.iload_n 2) 1 41 := ⟨by decide +kernel, rfl⟩
theorem D_X0_allMatch_41 : Dec mi_X0_allMatch 41 (.iload_n 3) 1 42 := ⟨by decide +kernel, rfl⟩
theorem D_X0_allMatch_42 : Dec mi_X0_allMatch 42 (.invokevirtual 73) 3 45 := ⟨by decide +kernel, rfl⟩
theorem D_X0_allMatch_45 : DecJ mi_X0_allMatch 45 (.ifCond .ne 5) (5) 48 50 := ⟨by decide +kernel, rfl, by decide⟩
theorem D_X0_allMatch_48 : Dec mi_X0_allMatch 48 (.iconst 0) 1 49 := ⟨by decide +kernel, rfl⟩
theorem D_X0_allMatch_49 : Dec mi_X0_allMatch 49 (.ireturn) 1 50 := ⟨by decide +kernel, rfl⟩
theorem D_X0_allMatch_50 : Dec mi_X0_allMatch 50 (.iinc 3 1) 3 53 := ⟨by decide +kernel, rfl⟩
theorem D_X0_allMatch_53 : DecJ mi_X0_allMatch 53 (.goto (-38)) (-38) 56 15 := ⟨by decide +kernel, rfl, by decide⟩
theorem D_X0_allMatch_56 : Dec mi_X0_allMatch 56 (.iinc 2 1) 3 59 := ⟨by decide +kernel, rfl⟩
theorem D_X0_allMatch_59 : DecJ mi_X0_allMatch 59 (.goto (-57)) (-57) 62 2 := ⟨by decide +kernel, rfl, by decide⟩
theorem D_X0_allMatch_62 : Dec mi_X0_allMatch 62 (.iconst 1) 1 63 := ⟨by decide +kernel, rfl⟩
theorem D_X0_allMatch_63 : Dec mi_X0_allMatch 63 (.ireturn) 1 64 := ⟨by decide +kernel, rfl⟩
def f_X0_allMatch_15 (F : Nat) (M : Mem) (K_2 : Int32 → Int32 → Option Int32) : Nat → Int32 → Int32 → Int32 → Option Int32
  | 0, _, _, _ => none
  | n + 1, y1, y2, y3 => if y2 ≤ y3 then (K_2 y1 (y2 + (1 : Int32))) else (if (f_X9_has M y1 y2) = 0 then (f_X0_allMatch_15 F M K_2 n y1 y2 (y3 + (1 : Int32))) else (if (f_X9_has M y1 y3) = 0 then (f_X0_allMatch_15 F M K_2 n y1 y2 (y3 + (1 : Int32))) else ((f_X8_together M 3 y2 y3).bind fun x4 => if x4 = 0 then (some (0 : Int32)) else (f_X0_allMatch_15 F M K_2 n y1 y2 (y3 + (1 : Int32))))))
theorem x_X0_allMatch_15 {l : Launch} {w : Wd} {κ : Kp} {F : Nat} {M : Mem} {v : Int32} {K_2 : Int32 → Int32 → Option Int32} (hq : RQ w (some (.int v), M) κ) (hK_2 : ∀ (y1 : Int32) (y2 : Int32), K_2 y1 y2 = some v → RR l w mi_X0_allMatch (2) κ 2 [] [some (.ref (wq w 25)), some (.int y1), some (.int y2), none] M) : ∀ (n : Nat) (y1 : Int32) (y2 : Int32) (y3 : Int32), f_X0_allMatch_15 F M K_2 n y1 y2 y3 = some v → RR l w mi_X0_allMatch (2) κ 15 [] [some (.ref (wq w 25)), some (.int y1), some (.int y2), some (.int y3)] M
  | 0, _, _, _, h => nomatch h
  | n + 1, y1, y2, y3, h => let_h (show (if y2 ≤ y3 then (K_2 y1 (y2 + (1 : Int32))) else (if (f_X9_has M y1 y2) = 0 then (f_X0_allMatch_15 F M K_2 n y1 y2 (y3 + (1 : Int32))) else (if (f_X9_has M y1 y3) = 0 then (f_X0_allMatch_15 F M K_2 n y1 y2 (y3 + (1 : Int32))) else ((f_X8_together M 3 y2 y3).bind fun x4 => if x4 = 0 then (some (0 : Int32)) else (f_X0_allMatch_15 F M K_2 n y1 y2 (y3 + (1 : Int32))))))) = some v from h) fun h => r_iload_n D_X0_allMatch_15 rfl <| r_iload_n D_X0_allMatch_16 rfl <| r_icmp_ge D_X0_allMatch_17 (fun c1 => let_h (ifT c1 h) fun h => r_iinc D_X0_allMatch_56 rfl ki_1 (by decide) rfl <| r_goto D_X0_allMatch_59 <| r_ls (hK_2 y1 (y2 + (1 : Int32)) h) ⟨rfl, ⟨rfl, ⟨rfl, trivial⟩⟩⟩) (fun c1 => let_h (ifF c1 h) fun h => r_iload_n D_X0_allMatch_20 rfl <| r_iload_n D_X0_allMatch_21 rfl <| r_callN (av := [.int y1, .int y2]) D_X0_allMatch_22 nl_X0_61 mf_X9_has ms_X9_has (x_X9_has rfl) (Nat.le_of_ble_eq_true rfl) rfl rfl (Nat.le_of_ble_eq_true rfl) <| r_if_eq D_X0_allMatch_25 (fun c2 => let_h (ifT c2 h) fun h => r_iinc D_X0_allMatch_50 rfl ki_1 (by decide) rfl <| r_goto D_X0_allMatch_53 <| r_ls (x_X0_allMatch_15 hq hK_2 n y1 y2 (y3 + (1 : Int32)) h) ⟨rfl, ⟨rfl, ⟨rfl, ⟨rfl, trivial⟩⟩⟩⟩) (fun c2 => let_h (ifF c2 h) fun h => r_iload_n D_X0_allMatch_28 rfl <| r_iload_n D_X0_allMatch_29 rfl <| r_callN (av := [.int y1, .int y3]) D_X0_allMatch_30 nl_X0_61 mf_X9_has ms_X9_has (x_X9_has rfl) (Nat.le_of_ble_eq_true rfl) rfl rfl (Nat.le_of_ble_eq_true rfl) <| r_if_eq D_X0_allMatch_33 (fun c3 => let_h (ifT c3 h) fun h => r_iinc D_X0_allMatch_50 rfl ki_1 (by decide) rfl <| r_goto D_X0_allMatch_53 <| r_ls (x_X0_allMatch_15 hq hK_2 n y1 y2 (y3 + (1 : Int32)) h) ⟨rfl, ⟨rfl, ⟨rfl, ⟨rfl, trivial⟩⟩⟩⟩) (fun c3 => let_h (ifF c3 h) fun h => r_aload_n D_X0_allMatch_36 rfl <| r_getR (j := 3) D_X0_allMatch_37 fl_X0_15 s_25 rfl <| r_iload_n D_X0_allMatch_40 rfl <| r_iload_n D_X0_allMatch_41 rfl <| (bdE h).elim fun x4 q5 => let_h q5.2 fun h => r_callV (av := [.int y2, .int y3]) D_X0_allMatch_42 ml_X0_73 mf_X8_together mv_X8_together s_3 rfl rfl (x_X8_together trip_3 q5.1) (Nat.le_of_ble_eq_true rfl) rfl rfl (Nat.le_of_ble_eq_true rfl) <| r_if_ne D_X0_allMatch_45 (fun c6 => let_h (ifT c6 h) fun h => r_iconst D_X0_allMatch_48 ki_0 <| r_zret hq D_X0_allMatch_49 rfl rfl (rtP h)) (fun c6 => let_h (ifF c6 h) fun h => r_iinc D_X0_allMatch_50 rfl ki_1 (by decide) rfl <| r_goto D_X0_allMatch_53 <| r_ls (x_X0_allMatch_15 hq hK_2 n y1 y2 (y3 + (1 : Int32)) h) ⟨rfl, ⟨rfl, ⟨rfl, ⟨rfl, trivial⟩⟩⟩⟩))))
def f_X0_allMatch_2 (F : Nat) (M : Mem) : Nat → Int32 → Int32 → Option Int32
  | 0, _, _ => none
  | n + 1, y1, y2 => if (f_X8_things M 3) ≤ y2 then (some (1 : Int32)) else (f_X0_allMatch_15 F M (fun y1 y2 => f_X0_allMatch_2 F M n y1 y2) F y1 y2 (0 : Int32))
theorem x_X0_allMatch_2 {l : Launch} {w : Wd} {κ : Kp} {F : Nat} {M : Mem} {v : Int32} (hq : RQ w (some (.int v), M) κ) : ∀ (n : Nat) (y1 : Int32) (y2 : Int32), f_X0_allMatch_2 F M n y1 y2 = some v → RR l w mi_X0_allMatch (2) κ 2 [] [some (.ref (wq w 25)), some (.int y1), some (.int y2), none] M
  | 0, _, _, h => nomatch h
  | n + 1, y1, y2, h => let_h (show (if (f_X8_things M 3) ≤ y2 then (some (1 : Int32)) else (f_X0_allMatch_15 F M (fun y1 y2 => f_X0_allMatch_2 F M n y1 y2) F y1 y2 (0 : Int32))) = some v from h) fun h => r_iload_n D_X0_allMatch_2 rfl <| r_aload_n D_X0_allMatch_3 rfl <| r_getR (j := 3) D_X0_allMatch_4 fl_X0_15 s_25 rfl <| r_callV (av := []) D_X0_allMatch_7 ml_X0_58 mf_X8_things mv_X8_things s_3 rfl rfl (x_X8_things trip_3 rfl) (Nat.le_of_ble_eq_true rfl) rfl rfl (Nat.le_of_ble_eq_true rfl) <| r_icmp_ge D_X0_allMatch_10 (fun c1 => let_h (ifT c1 h) fun h => r_iconst D_X0_allMatch_62 ki_1 <| r_zret hq D_X0_allMatch_63 rfl rfl (rtP h)) (fun c1 => let_h (ifF c1 h) fun h => r_iconst D_X0_allMatch_13 ki_0 <| r_istore_n D_X0_allMatch_14 (by decide) rfl <| r_ls (x_X0_allMatch_15 hq (fun y1 y2 h => x_X0_allMatch_2 hq n y1 y2 h) F y1 y2 (0 : Int32) h) ⟨rfl, ⟨rfl, ⟨rfl, ⟨rfl, trivial⟩⟩⟩⟩)
def f_X0_allMatch (F : Nat) (M : Mem) (a1 : Int32) : Option Int32 := f_X0_allMatch_2 F M F a1 (0 : Int32)
theorem x_X0_allMatch {l : Launch} {w : Wd} {F : Nat} {M : Mem} {a1 : Int32} {v : Int32} (h : f_X0_allMatch F M a1 = some v) : Cn l w mi_X0_allMatch yX0_allMatch (2) [.ref (wq w 25), .int a1] M (some (.int v), M) :=
  Cn_of (loc0 := [some (.ref (wq w 25)), some (.int a1), none, none]) rfl rfl rfl (Nat.le_of_ble_eq_true rfl) fun κ hq => let_h (show (f_X0_allMatch_2 F M F a1 (0 : Int32)) = some v from h) fun h => r_iconst D_X0_allMatch_0 ki_0 <| r_istore_n D_X0_allMatch_1 (by decide) rfl <| r_ls (x_X0_allMatch_2 hq F a1 (0 : Int32) h) ⟨rfl, ⟨rfl, ⟨rfl, trivial⟩⟩⟩
-- X0_largestMatch
theorem D_X0_largestMatch_0 : Dec mi_X0_largestMatch 0 (.iconst 0) 1 1 := ⟨by decide +kernel, rfl⟩
theorem D_X0_largestMatch_1 : Dec mi_X0_largestMatch 1 (.istore_n 1) 1 2 := ⟨by decide +kernel, rfl⟩
theorem D_X0_largestMatch_2 : Dec mi_X0_largestMatch 2 (.iconst 0) 1 3 := ⟨by decide +kernel, rfl⟩
theorem D_X0_largestMatch_3 : Dec mi_X0_largestMatch 3 (.istore_n 2) 1 4 := ⟨by decide +kernel, rfl⟩
theorem D_X0_largestMatch_4 : Dec mi_X0_largestMatch 4 (.iload_n 2) 1 5 := ⟨by decide +kernel, rfl⟩
theorem D_X0_largestMatch_5 : Dec mi_X0_largestMatch 5 (.aload_n 0) 1 6 := ⟨by decide +kernel, rfl⟩
theorem D_X0_largestMatch_6 : Dec mi_X0_largestMatch 6 (.getfield 15) 3 9 := ⟨by decide +kernel, rfl⟩
theorem D_X0_largestMatch_9 : Dec mi_X0_largestMatch 9 (.invokevirtual 49) 3 12 := ⟨by decide +kernel, rfl⟩
theorem D_X0_largestMatch_12 : DecJ mi_X0_largestMatch 12 (.if_icmp .gt 30) (30) 15 42 := ⟨by decide +kernel, rfl, by decide⟩
theorem D_X0_largestMatch_15 : Dec mi_X0_largestMatch 15 (.iload_n 2) 1 16 := ⟨by decide +kernel, rfl⟩
theorem D_X0_largestMatch_16 : Dec mi_X0_largestMatch 16 (.invokestatic 64) 3 19 := ⟨by decide +kernel, rfl⟩
theorem D_X0_largestMatch_19 : Dec mi_X0_largestMatch 19 (.iload_n 1) 1 20 := ⟨by decide +kernel, rfl⟩
theorem D_X0_largestMatch_20 : Dec mi_X0_largestMatch 20 (.invokestatic 64) 3 23 := ⟨by decide +kernel, rfl⟩
theorem D_X0_largestMatch_23 : DecJ mi_X0_largestMatch 23 (.if_icmp .le 13) (13) 26 36 := ⟨by decide +kernel, rfl, by decide⟩
theorem D_X0_largestMatch_26 : Dec mi_X0_largestMatch 26 (.aload_n 0) 1 27 := ⟨by decide +kernel, rfl⟩
theorem D_X0_largestMatch_27 : Dec mi_X0_largestMatch 27 (.iload_n 2) 1 28 := ⟨by decide +kernel, rfl⟩
theorem D_X0_largestMatch_28 : Dec mi_X0_largestMatch 28 (.invokevirtual 69) 3 31 := ⟨by decide +kernel, rfl⟩
theorem D_X0_largestMatch_31 : DecJ mi_X0_largestMatch 31 (.ifCond .eq 5) (5) 34 36 := ⟨by decide +kernel, rfl, by decide⟩
theorem D_X0_largestMatch_34 : Dec mi_X0_largestMatch 34 (.iload_n 2) 1 35 := ⟨by decide +kernel, rfl⟩
theorem D_X0_largestMatch_35 : Dec mi_X0_largestMatch 35 (.istore_n 1) 1 36 := ⟨by decide +kernel, rfl⟩
theorem D_X0_largestMatch_36 : Dec mi_X0_largestMatch 36 (.iinc 2 1) 3 39 := ⟨by decide +kernel, rfl⟩
theorem D_X0_largestMatch_39 : DecJ mi_X0_largestMatch 39 (.goto (-35)) (-35) 42 4 := ⟨by decide +kernel, rfl, by decide⟩
theorem D_X0_largestMatch_42 : Dec mi_X0_largestMatch 42 (.iload_n 1) 1 43 := ⟨by decide +kernel, rfl⟩
theorem D_X0_largestMatch_43 : Dec mi_X0_largestMatch 43 (.ireturn) 1 44 := ⟨by decide +kernel, rfl⟩
def f_X0_largestMatch_4 (F : Nat) (M : Mem) : Nat → Int32 → Int32 → Option Int32
  | 0, _, _ => none
  | n + 1, y1, y2 => if (f_X8_allThings M 3) < y2 then (some y1) else (if (f_J6_bitCount_0f7a4 M y2) ≤ (f_J6_bitCount_0f7a4 M y1) then (f_X0_largestMatch_4 F M n y1 (y2 + (1 : Int32))) else ((f_X0_allMatch F M y2).bind fun x3 => if x3 = 0 then (f_X0_largestMatch_4 F M n y1 (y2 + (1 : Int32))) else (f_X0_largestMatch_4 F M n y2 (y2 + (1 : Int32)))))
theorem x_X0_largestMatch_4 {l : Launch} {w : Wd} {κ : Kp} {F : Nat} {M : Mem} {v : Int32} (hq : RQ w (some (.int v), M) κ) : ∀ (n : Nat) (y1 : Int32) (y2 : Int32), f_X0_largestMatch_4 F M n y1 y2 = some v → RR l w mi_X0_largestMatch (3) κ 4 [] [some (.ref (wq w 25)), some (.int y1), some (.int y2)] M
  | 0, _, _, h => nomatch h
  | n + 1, y1, y2, h => let_h (show (if (f_X8_allThings M 3) < y2 then (some y1) else (if (f_J6_bitCount_0f7a4 M y2) ≤ (f_J6_bitCount_0f7a4 M y1) then (f_X0_largestMatch_4 F M n y1 (y2 + (1 : Int32))) else ((f_X0_allMatch F M y2).bind fun x3 => if x3 = 0 then (f_X0_largestMatch_4 F M n y1 (y2 + (1 : Int32))) else (f_X0_largestMatch_4 F M n y2 (y2 + (1 : Int32)))))) = some v from h) fun h => r_iload_n D_X0_largestMatch_4 rfl <| r_aload_n D_X0_largestMatch_5 rfl <| r_getR (j := 3) D_X0_largestMatch_6 fl_X0_15 s_25 rfl <| r_callV (av := []) D_X0_largestMatch_9 ml_X0_49 mf_X8_allThings mv_X8_allThings s_3 rfl rfl (x_X8_allThings trip_3 rfl) (Nat.le_of_ble_eq_true rfl) rfl rfl (Nat.le_of_ble_eq_true rfl) <| r_icmp_gt D_X0_largestMatch_12 (fun c1 => let_h (ifT c1 h) fun h => r_iload_n D_X0_largestMatch_42 rfl <| r_iret hq D_X0_largestMatch_43 rfl (rtP h)) (fun c1 => let_h (ifF c1 h) fun h => r_iload_n D_X0_largestMatch_15 rfl <| r_callS (av := [.int y2]) D_X0_largestMatch_16 ml_X0_64 mf_J6_bitCount_0f7a4 ms_J6_bitCount_0f7a4 (x_J6_bitCount_0f7a4 rfl) (Nat.le_of_ble_eq_true rfl) rfl rfl (Nat.le_of_ble_eq_true rfl) <| r_iload_n D_X0_largestMatch_19 rfl <| r_callS (av := [.int y1]) D_X0_largestMatch_20 ml_X0_64 mf_J6_bitCount_0f7a4 ms_J6_bitCount_0f7a4 (x_J6_bitCount_0f7a4 rfl) (Nat.le_of_ble_eq_true rfl) rfl rfl (Nat.le_of_ble_eq_true rfl) <| r_icmp_le D_X0_largestMatch_23 (fun c2 => let_h (ifT c2 h) fun h => r_iinc D_X0_largestMatch_36 rfl ki_1 (by decide) rfl <| r_goto D_X0_largestMatch_39 <| r_ls (x_X0_largestMatch_4 hq n y1 (y2 + (1 : Int32)) h) ⟨rfl, ⟨rfl, ⟨rfl, trivial⟩⟩⟩) (fun c2 => let_h (ifF c2 h) fun h => r_aload_n D_X0_largestMatch_26 rfl <| r_iload_n D_X0_largestMatch_27 rfl <| (bdE h).elim fun x3 q4 => let_h q4.2 fun h => r_callV (av := [.int y2]) D_X0_largestMatch_28 ml_X0_69 mf_X0_allMatch mv_X0_allMatch s_25 rfl rfl (x_X0_allMatch q4.1) (Nat.le_of_ble_eq_true rfl) rfl rfl (Nat.le_of_ble_eq_true rfl) <| r_if_eq D_X0_largestMatch_31 (fun c5 => let_h (ifT c5 h) fun h => r_iinc D_X0_largestMatch_36 rfl ki_1 (by decide) rfl <| r_goto D_X0_largestMatch_39 <| r_ls (x_X0_largestMatch_4 hq n y1 (y2 + (1 : Int32)) h) ⟨rfl, ⟨rfl, ⟨rfl, trivial⟩⟩⟩) (fun c5 => let_h (ifF c5 h) fun h => r_iload_n D_X0_largestMatch_34 rfl <| r_istore_n D_X0_largestMatch_35 (by decide) rfl <| r_iinc D_X0_largestMatch_36 rfl ki_1 (by decide) rfl <| r_goto D_X0_largestMatch_39 <| r_ls (x_X0_largestMatch_4 hq n y2 (y2 + (1 : Int32)) h) ⟨rfl, ⟨rfl, ⟨rfl, trivial⟩⟩⟩)))
def f_X0_largestMatch (F : Nat) (M : Mem) : Option Int32 := f_X0_largestMatch_4 F M F (0 : Int32) (0 : Int32)
theorem x_X0_largestMatch {l : Launch} {w : Wd} {F : Nat} {M : Mem} {v : Int32} (h : f_X0_largestMatch F M = some v) : Cn l w mi_X0_largestMatch yX0_largestMatch (3) [.ref (wq w 25)] M (some (.int v), M) :=
  Cn_of (loc0 := [some (.ref (wq w 25)), none, none]) rfl rfl rfl (Nat.le_of_ble_eq_true rfl) fun κ hq => let_h (show (f_X0_largestMatch_4 F M F (0 : Int32) (0 : Int32)) = some v from h) fun h => r_iconst D_X0_largestMatch_0 ki_0 <| r_istore_n D_X0_largestMatch_1 (by decide) rfl <| r_iconst D_X0_largestMatch_2 ki_0 <| r_istore_n D_X0_largestMatch_3 (by decide) rfl <| r_ls (x_X0_largestMatch_4 hq F (0 : Int32) (0 : Int32) h) ⟨rfl, ⟨rfl, ⟨rfl, trivial⟩⟩⟩
-- X1_isKind
theorem D_X1_isKind_0 : Dec mi_X1_isKind 0 (.iload_n 1) 1 1 := ⟨by decide +kernel, rfl⟩
theorem D_X1_isKind_1 : DecJ mi_X1_isKind 1 (.ifCond .lt 12) (12) 4 13 := ⟨by decide +kernel, rfl, by decide⟩
theorem D_X1_isKind_4 : Dec mi_X1_isKind 4 (.iload_n 1) 1 5 := ⟨by decide +kernel, rfl⟩
theorem D_X1_isKind_5 : Dec mi_X1_isKind 5 (.iconst 5) 1 6 := ⟨by decide +kernel, rfl⟩
theorem D_X1_isKind_6 : DecJ mi_X1_isKind 6 (.if_icmp .gt 7) (7) 9 13 := ⟨by decide +kernel, rfl, by decide⟩
theorem D_X1_isKind_9 : Dec mi_X1_isKind 9 (.iconst 1) 1 10 := ⟨by decide +kernel, rfl⟩
theorem D_X1_isKind_10 : DecJ mi_X1_isKind 10 (.goto 4) (4) 13 14 := ⟨by decide +kernel, rfl, by decide⟩
theorem D_X1_isKind_13 : Dec mi_X1_isKind 13 (.iconst 0) 1 14 := ⟨by decide +kernel, rfl⟩
theorem D_X1_isKind_14 : Dec mi_X1_isKind 14 (.ireturn) 1 15 := ⟨by decide +kernel, rfl⟩
def f_X1_isKind (M : Mem) (a1 : Int32) : Int32 := if a1 < 0 then ((0 : Int32)) else (if (5 : Int32) < a1 then ((0 : Int32)) else ((1 : Int32)))
theorem x_X1_isKind {l : Launch} {w : Wd} {M : Mem} {a1 : Int32} {v : Int32} (h : f_X1_isKind M a1 = v) : Cn l w mi_X1_isKind yX1_isKind (0) [.ref (wq w 34), .int a1] M (some (.int v), M) :=
  Cn_of (loc0 := [some (.ref (wq w 34)), some (.int a1)]) rfl rfl rfl (Nat.le_of_ble_eq_true rfl) fun κ hq => let_h (show (if a1 < 0 then ((0 : Int32)) else (if (5 : Int32) < a1 then ((0 : Int32)) else ((1 : Int32)))) = v from h) fun h => r_iload_n D_X1_isKind_0 rfl <| r_if_lt D_X1_isKind_1 (fun c1 => let_h (ifT c1 h) fun h => r_iconst D_X1_isKind_13 ki_0 <| r_zret hq D_X1_isKind_14 rfl rfl (rtT h)) (fun c1 => let_h (ifF c1 h) fun h => r_iload_n D_X1_isKind_4 rfl <| r_iconst D_X1_isKind_5 ki_5 <| r_icmp_gt D_X1_isKind_6 (fun c2 => let_h (ifT c2 h) fun h => r_iconst D_X1_isKind_13 ki_0 <| r_zret hq D_X1_isKind_14 rfl rfl (rtT h)) (fun c2 => let_h (ifF c2 h) fun h => r_iconst D_X1_isKind_9 ki_1 <| r_goto D_X1_isKind_10 <| r_zret hq D_X1_isKind_14 rfl rfl (rtT h)))
-- X1_asked
theorem D_X1_asked_0 : Dec mi_X1_asked 0 (.aload_n 0) 1 1 := ⟨by decide +kernel, rfl⟩
theorem D_X1_asked_1 : Dec mi_X1_asked 1 (.getfield 15) 3 4 := ⟨by decide +kernel, rfl⟩
theorem D_X1_asked_4 : Dec mi_X1_asked 4 (.lreturn) 1 5 := ⟨by decide +kernel, rfl⟩
def f_X1_asked (M : Mem) : Int64 := (M.2 34 1)
theorem x_X1_asked {l : Launch} {w : Wd} {M : Mem} {v : Int64} (h : f_X1_asked M = v) : Cn l w mi_X1_asked yX1_asked (0) [.ref (wq w 34)] M (some (.long v), M) :=
  Cn_of (loc0 := [some (.ref (wq w 34))]) rfl rfl rfl (Nat.le_of_ble_eq_true rfl) fun κ hq => let_h (show ((M.2 34 1)) = v from h) fun h => r_aload_n D_X1_asked_0 rfl <| r_getL D_X1_asked_1 fl_X1_15 s_34 rfl <| r_lret hq D_X1_asked_4 rfl (rtTL h)
-- X1_asThing
theorem D_X1_asThing_0 : Dec mi_X1_asThing 0 (.aload_n 0) 1 1 := ⟨by decide +kernel, rfl⟩
theorem D_X1_asThing_1 : Dec mi_X1_asThing 1 (.dup) 1 2 := ⟨by decide +kernel, rfl⟩
theorem D_X1_asThing_2 : Dec mi_X1_asThing 2 (.getfield 15) 3 5 := ⟨by decide +kernel, rfl⟩
theorem D_X1_asThing_5 : Dec mi_X1_asThing 5 (.lconst 1) 1 6 := ⟨by decide +kernel, rfl⟩
theorem D_X1_asThing_6 : Dec mi_X1_asThing 6 (.ladd) 1 7 := ⟨by decide +kernel, rfl⟩
theorem D_X1_asThing_7 : Dec mi_X1_asThing 7 (.putfield 15) 3 10 := ⟨by decide +kernel, rfl⟩
theorem D_X1_asThing_10 : Dec mi_X1_asThing 10 (.aload_n 0) 1 11 := ⟨by decide +kernel, rfl⟩
theorem D_X1_asThing_11 : Dec mi_X1_asThing 11 (.getfield 9) 3 14 := ⟨by decide +kernel, rfl⟩
theorem D_X1_asThing_14 : Dec mi_X1_asThing 14 (.iload_n 1) 1 15 := ⟨by decide +kernel, rfl⟩
theorem D_X1_asThing_15 : Dec mi_X1_asThing 15 (.iconst 1) 1 16 := ⟨by decide +kernel, rfl⟩
theorem D_X1_asThing_16 : Dec mi_X1_asThing 16 (.invokevirtual 40) 3 19 := ⟨by decide +kernel, rfl⟩
theorem D_X1_asThing_19 : Dec mi_X1_asThing 19 (.ireturn) 1 20 := ⟨by decide +kernel, rfl⟩
def f_X1_asThing (M : Mem) (a1 : Int32) : Option (Int32 × Mem) := vlet (setL M 34 1 ((M.2 34 1) + (1 : Int64))) fun M1 => (f_X8_fact M1 3 a1 (1 : Int32)).bind fun x2 => some (x2, M1)
theorem x_X1_asThing {l : Launch} {w : Wd} {M : Mem} {a1 : Int32} {v : Int32 × Mem} (h : f_X1_asThing M a1 = some v) : Cn l w mi_X1_asThing yX1_asThing (2) [.ref (wq w 34), .int a1] M (some (.int v.1), v.2) :=
  Cn_of (loc0 := [some (.ref (wq w 34)), some (.int a1)]) rfl rfl rfl (Nat.le_of_ble_eq_true rfl) fun κ hq => let_h (show (vlet (setL M 34 1 ((M.2 34 1) + (1 : Int64))) fun M1 => (f_X8_fact M1 3 a1 (1 : Int32)).bind fun x2 => some (x2, M1)) = some v from h) fun h => r_aload_n D_X1_asThing_0 rfl <| r_dup D_X1_asThing_1 rfl <| r_getL D_X1_asThing_2 fl_X1_15 s_34 rfl <| r_lconst (v := 1) D_X1_asThing_5 (by decide) <| r_ladd D_X1_asThing_6 <| r_putL D_X1_asThing_7 fp_X1_15 s_34 rfl <| mlE h fun M1 h => r_aload_n D_X1_asThing_10 rfl <| r_getR (j := 3) D_X1_asThing_11 fl_X1_9 s_34 rfl <| r_iload_n D_X1_asThing_14 rfl <| r_iconst D_X1_asThing_15 ki_1 <| (bdE h).elim fun x2 q3 => let_h q3.2 fun h => r_callV (av := [.int a1, .int (1 : Int32)]) D_X1_asThing_16 ml_X1_40 mf_X8_fact mv_X8_fact s_3 rfl rfl (x_X8_fact trip_3 q3.1) (Nat.le_of_ble_eq_true rfl) rfl rfl (Nat.le_of_ble_eq_true rfl) <| r_iret hq D_X1_asThing_19 rfl (rtW h)
-- X1_asOnce
theorem D_X1_asOnce_0 : Dec mi_X1_asOnce 0 (.aload_n 0) 1 1 := ⟨by decide +kernel, rfl⟩
theorem D_X1_asOnce_1 : Dec mi_X1_asOnce 1 (.dup) 1 2 := ⟨by decide +kernel, rfl⟩
theorem D_X1_asOnce_2 : Dec mi_X1_asOnce 2 (.getfield 15) 3 5 := ⟨by decide +kernel, rfl⟩
theorem D_X1_asOnce_5 : Dec mi_X1_asOnce 5 (.ldc2_w 45) 3 8 := ⟨by decide +kernel, rfl⟩
theorem D_X1_asOnce_8 : Dec mi_X1_asOnce 8 (.ladd) 1 9 := ⟨by decide +kernel, rfl⟩
theorem D_X1_asOnce_9 : Dec mi_X1_asOnce 9 (.putfield 15) 3 12 := ⟨by decide +kernel, rfl⟩
theorem D_X1_asOnce_12 : Dec mi_X1_asOnce 12 (.aload_n 0) 1 13 := ⟨by decide +kernel, rfl⟩
theorem D_X1_asOnce_13 : Dec mi_X1_asOnce 13 (.iload_n 1) 1 14 := ⟨by decide +kernel, rfl⟩
theorem D_X1_asOnce_14 : Dec mi_X1_asOnce 14 (.invokevirtual 19) 3 17 := ⟨by decide +kernel, rfl⟩
theorem D_X1_asOnce_17 : Dec mi_X1_asOnce 17 (.aload_n 0) 1 18 := ⟨by decide +kernel, rfl⟩
theorem D_X1_asOnce_18 : Dec mi_X1_asOnce 18 (.getfield 9) 3 21 := ⟨by decide +kernel, rfl⟩
theorem D_X1_asOnce_21 : Dec mi_X1_asOnce 21 (.iload_n 1) 1 22 := ⟨by decide +kernel, rfl⟩
theorem D_X1_asOnce_22 : Dec mi_X1_asOnce 22 (.iconst 2) 1 23 := ⟨by decide +kernel, rfl⟩
theorem D_X1_asOnce_23 : Dec mi_X1_asOnce 23 (.invokevirtual 40) 3 26 := ⟨by decide +kernel, rfl⟩
theorem D_X1_asOnce_26 : Dec mi_X1_asOnce 26 (.iadd) 1 27 := ⟨by decide +kernel, rfl⟩
theorem D_X1_asOnce_27 : Dec mi_X1_asOnce 27 (.ireturn) 1 28 := ⟨by decide +kernel, rfl⟩
def f_X1_asOnce (M : Mem) (a1 : Int32) : Option (Int32 × Mem) := vlet (setL M 34 1 ((M.2 34 1) + (10 : Int64))) fun M1 => (f_X1_asThing M1 a1).bind fun p2 => (f_X8_fact p2.2 3 a1 (2 : Int32)).bind fun x4 => some ((p2.1 + x4), p2.2)
theorem x_X1_asOnce {l : Launch} {w : Wd} {M : Mem} {a1 : Int32} {v : Int32 × Mem} (h : f_X1_asOnce M a1 = some v) : Cn l w mi_X1_asOnce yX1_asOnce (3) [.ref (wq w 34), .int a1] M (some (.int v.1), v.2) :=
  Cn_of (loc0 := [some (.ref (wq w 34)), some (.int a1)]) rfl rfl rfl (Nat.le_of_ble_eq_true rfl) fun κ hq => let_h (show (vlet (setL M 34 1 ((M.2 34 1) + (10 : Int64))) fun M1 => (f_X1_asThing M1 a1).bind fun p2 => (f_X8_fact p2.2 3 a1 (2 : Int32)).bind fun x4 => some ((p2.1 + x4), p2.2)) = some v from h) fun h => r_aload_n D_X1_asOnce_0 rfl <| r_dup D_X1_asOnce_1 rfl <| r_getL D_X1_asOnce_2 fl_X1_15 s_34 rfl <| r_ldc2 D_X1_asOnce_5 cl_X1_45 <| r_ladd D_X1_asOnce_8 <| r_putL D_X1_asOnce_9 fp_X1_15 s_34 rfl <| mlE h fun M1 h => r_aload_n D_X1_asOnce_12 rfl <| r_iload_n D_X1_asOnce_13 rfl <| (bdE h).elim fun p2 q3 => let_h q3.2 fun h => r_callV (av := [.int a1]) D_X1_asOnce_14 ml_X1_19 mf_X1_asThing mv_X1_asThing s_34 rfl rfl (x_X1_asThing q3.1) (Nat.le_of_ble_eq_true rfl) rfl rfl (Nat.le_of_ble_eq_true rfl) <| r_aload_n D_X1_asOnce_17 rfl <| r_getR (j := 3) D_X1_asOnce_18 fl_X1_9 s_34 rfl <| r_iload_n D_X1_asOnce_21 rfl <| r_iconst D_X1_asOnce_22 ki_2 <| (bdE h).elim fun x4 q5 => let_h q5.2 fun h => r_callV (av := [.int a1, .int (2 : Int32)]) D_X1_asOnce_23 ml_X1_40 mf_X8_fact mv_X8_fact s_3 rfl rfl (x_X8_fact trip_3 q5.1) (Nat.le_of_ble_eq_true rfl) rfl rfl (Nat.le_of_ble_eq_true rfl) <| r_iadd D_X1_asOnce_26 <| r_iret hq D_X1_asOnce_27 rfl (rtW h)
-- X1_asSpare
theorem D_X1_asSpare_0 : Dec mi_X1_asSpare 0 (.aload_n 0) 1 1 := ⟨by decide +kernel, rfl⟩
theorem D_X1_asSpare_1 : Dec mi_X1_asSpare 1 (.dup) 1 2 := ⟨by decide +kernel, rfl⟩
theorem D_X1_asSpare_2 : Dec mi_X1_asSpare 2 (.getfield 15) 3 5 := ⟨by decide +kernel, rfl⟩
theorem D_X1_asSpare_5 : Dec mi_X1_asSpare 5 (.ldc2_w 47) 3 8 := ⟨by decide +kernel, rfl⟩
theorem D_X1_asSpare_8 : Dec mi_X1_asSpare 8 (.ladd) 1 9 := ⟨by decide +kernel, rfl⟩
theorem D_X1_asSpare_9 : Dec mi_X1_asSpare 9 (.putfield 15) 3 12 := ⟨by decide +kernel, rfl⟩
theorem D_X1_asSpare_12 : Dec mi_X1_asSpare 12 (.aload_n 0) 1 13 := ⟨by decide +kernel, rfl⟩
theorem D_X1_asSpare_13 : Dec mi_X1_asSpare 13 (.iload_n 1) 1 14 := ⟨by decide +kernel, rfl⟩
theorem D_X1_asSpare_14 : Dec mi_X1_asSpare 14 (.invokevirtual 19) 3 17 := ⟨by decide +kernel, rfl⟩
theorem D_X1_asSpare_17 : Dec mi_X1_asSpare 17 (.aload_n 0) 1 18 := ⟨by decide +kernel, rfl⟩
theorem D_X1_asSpare_18 : Dec mi_X1_asSpare 18 (.getfield 9) 3 21 := ⟨by decide +kernel, rfl⟩
theorem D_X1_asSpare_21 : Dec mi_X1_asSpare 21 (.iload_n 1) 1 22 := ⟨by decide +kernel, rfl⟩
theorem D_X1_asSpare_22 : Dec mi_X1_asSpare 22 (.iconst 4) 1 23 := ⟨by decide +kernel, rfl⟩
theorem D_X1_asSpare_23 : Dec mi_X1_asSpare 23 (.invokevirtual 40) 3 26 := ⟨by decide +kernel, rfl⟩
theorem D_X1_asSpare_26 : Dec mi_X1_asSpare 26 (.isub) 1 27 := ⟨by decide +kernel, rfl⟩
theorem D_X1_asSpare_27 : Dec mi_X1_asSpare 27 (.ireturn) 1 28 := ⟨by decide +kernel, rfl⟩
def f_X1_asSpare (M : Mem) (a1 : Int32) : Option (Int32 × Mem) := vlet (setL M 34 1 ((M.2 34 1) + (100 : Int64))) fun M1 => (f_X1_asThing M1 a1).bind fun p2 => (f_X8_fact p2.2 3 a1 (4 : Int32)).bind fun x4 => some ((p2.1 - x4), p2.2)
theorem x_X1_asSpare {l : Launch} {w : Wd} {M : Mem} {a1 : Int32} {v : Int32 × Mem} (h : f_X1_asSpare M a1 = some v) : Cn l w mi_X1_asSpare yX1_asSpare (3) [.ref (wq w 34), .int a1] M (some (.int v.1), v.2) :=
  Cn_of (loc0 := [some (.ref (wq w 34)), some (.int a1)]) rfl rfl rfl (Nat.le_of_ble_eq_true rfl) fun κ hq => let_h (show (vlet (setL M 34 1 ((M.2 34 1) + (100 : Int64))) fun M1 => (f_X1_asThing M1 a1).bind fun p2 => (f_X8_fact p2.2 3 a1 (4 : Int32)).bind fun x4 => some ((p2.1 - x4), p2.2)) = some v from h) fun h => r_aload_n D_X1_asSpare_0 rfl <| r_dup D_X1_asSpare_1 rfl <| r_getL D_X1_asSpare_2 fl_X1_15 s_34 rfl <| r_ldc2 D_X1_asSpare_5 cl_X1_47 <| r_ladd D_X1_asSpare_8 <| r_putL D_X1_asSpare_9 fp_X1_15 s_34 rfl <| mlE h fun M1 h => r_aload_n D_X1_asSpare_12 rfl <| r_iload_n D_X1_asSpare_13 rfl <| (bdE h).elim fun p2 q3 => let_h q3.2 fun h => r_callV (av := [.int a1]) D_X1_asSpare_14 ml_X1_19 mf_X1_asThing mv_X1_asThing s_34 rfl rfl (x_X1_asThing q3.1) (Nat.le_of_ble_eq_true rfl) rfl rfl (Nat.le_of_ble_eq_true rfl) <| r_aload_n D_X1_asSpare_17 rfl <| r_getR (j := 3) D_X1_asSpare_18 fl_X1_9 s_34 rfl <| r_iload_n D_X1_asSpare_21 rfl <| r_iconst D_X1_asSpare_22 ki_4 <| (bdE h).elim fun x4 q5 => let_h q5.2 fun h => r_callV (av := [.int a1, .int (4 : Int32)]) D_X1_asSpare_23 ml_X1_40 mf_X8_fact mv_X8_fact s_3 rfl rfl (x_X8_fact trip_3 q5.1) (Nat.le_of_ble_eq_true rfl) rfl rfl (Nat.le_of_ble_eq_true rfl) <| r_isub D_X1_asSpare_26 <| r_iret hq D_X1_asSpare_27 rfl (rtW h)
-- X1_asDouble
theorem D_X1_asDouble_0 : Dec mi_X1_asDouble 0 (.aload_n 0) 1 1 := ⟨by decide +kernel, rfl⟩
theorem D_X1_asDouble_1 : Dec mi_X1_asDouble 1 (.dup) 1 2 := ⟨by decide +kernel, rfl⟩
theorem D_X1_asDouble_2 : Dec mi_X1_asDouble 2 (.getfield 15) 3 5 := ⟨by decide +kernel, rfl⟩
theorem D_X1_asDouble_5 : Dec mi_X1_asDouble 5 (.ldc2_w 49) 3 8 := ⟨by decide +kernel, rfl⟩
theorem D_X1_asDouble_8 : Dec mi_X1_asDouble 8 (.ladd) 1 9 := ⟨by decide +kernel, rfl⟩
theorem D_X1_asDouble_9 : Dec mi_X1_asDouble 9 (.putfield 15) 3 12 := ⟨by decide +kernel, rfl⟩
theorem D_X1_asDouble_12 : Dec mi_X1_asDouble 12 (.aload_n 0) 1 13 := ⟨by decide +kernel, rfl⟩
theorem D_X1_asDouble_13 : Dec mi_X1_asDouble 13 (.iload_n 1) 1 14 := ⟨by decide +kernel, rfl⟩
theorem D_X1_asDouble_14 : Dec mi_X1_asDouble 14 (.invokevirtual 23) 3 17 := ⟨by decide +kernel, rfl⟩
theorem D_X1_asDouble_17 : Dec mi_X1_asDouble 17 (.iconst 2) 1 18 := ⟨by decide +kernel, rfl⟩
theorem D_X1_asDouble_18 : Dec mi_X1_asDouble 18 (.imul) 1 19 := ⟨by decide +kernel, rfl⟩
theorem D_X1_asDouble_19 : Dec mi_X1_asDouble 19 (.ireturn) 1 20 := ⟨by decide +kernel, rfl⟩
def f_X1_asDouble (M : Mem) (a1 : Int32) : Option (Int32 × Mem) := vlet (setL M 34 1 ((M.2 34 1) + (1000 : Int64))) fun M1 => (f_X1_asOnce M1 a1).bind fun p2 => some ((p2.1 * (2 : Int32)), p2.2)
theorem x_X1_asDouble {l : Launch} {w : Wd} {M : Mem} {a1 : Int32} {v : Int32 × Mem} (h : f_X1_asDouble M a1 = some v) : Cn l w mi_X1_asDouble yX1_asDouble (4) [.ref (wq w 34), .int a1] M (some (.int v.1), v.2) :=
  Cn_of (loc0 := [some (.ref (wq w 34)), some (.int a1)]) rfl rfl rfl (Nat.le_of_ble_eq_true rfl) fun κ hq => let_h (show (vlet (setL M 34 1 ((M.2 34 1) + (1000 : Int64))) fun M1 => (f_X1_asOnce M1 a1).bind fun p2 => some ((p2.1 * (2 : Int32)), p2.2)) = some v from h) fun h => r_aload_n D_X1_asDouble_0 rfl <| r_dup D_X1_asDouble_1 rfl <| r_getL D_X1_asDouble_2 fl_X1_15 s_34 rfl <| r_ldc2 D_X1_asDouble_5 cl_X1_49 <| r_ladd D_X1_asDouble_8 <| r_putL D_X1_asDouble_9 fp_X1_15 s_34 rfl <| mlE h fun M1 h => r_aload_n D_X1_asDouble_12 rfl <| r_iload_n D_X1_asDouble_13 rfl <| (bdE h).elim fun p2 q3 => let_h q3.2 fun h => r_callV (av := [.int a1]) D_X1_asDouble_14 ml_X1_23 mf_X1_asOnce mv_X1_asOnce s_34 rfl rfl (x_X1_asOnce q3.1) (Nat.le_of_ble_eq_true rfl) rfl rfl (Nat.le_of_ble_eq_true rfl) <| r_iconst D_X1_asDouble_17 ki_2 <| r_imul D_X1_asDouble_18 <| r_iret hq D_X1_asDouble_19 rfl (rtW h)
-- X1_asBought
theorem D_X1_asBought_0 : Dec mi_X1_asBought 0 (.aload_n 0) 1 1 := ⟨by decide +kernel, rfl⟩
theorem D_X1_asBought_1 : Dec mi_X1_asBought 1 (.dup) 1 2 := ⟨by decide +kernel, rfl⟩
theorem D_X1_asBought_2 : Dec mi_X1_asBought 2 (.getfield 15) 3 5 := ⟨by decide +kernel, rfl⟩
theorem D_X1_asBought_5 : Dec mi_X1_asBought 5 (.ldc2_w 51) 3 8 := ⟨by decide +kernel, rfl⟩
theorem D_X1_asBought_8 : Dec mi_X1_asBought 8 (.ladd) 1 9 := ⟨by decide +kernel, rfl⟩
theorem D_X1_asBought_9 : Dec mi_X1_asBought 9 (.putfield 15) 3 12 := ⟨by decide +kernel, rfl⟩
theorem D_X1_asBought_12 : Dec mi_X1_asBought 12 (.aload_n 0) 1 13 := ⟨by decide +kernel, rfl⟩
theorem D_X1_asBought_13 : Dec mi_X1_asBought 13 (.iload_n 1) 1 14 := ⟨by decide +kernel, rfl⟩
theorem D_X1_asBought_14 : Dec mi_X1_asBought 14 (.invokevirtual 26) 3 17 := ⟨by decide +kernel, rfl⟩
theorem D_X1_asBought_17 : Dec mi_X1_asBought 17 (.aload_n 0) 1 18 := ⟨by decide +kernel, rfl⟩
theorem D_X1_asBought_18 : Dec mi_X1_asBought 18 (.getfield 9) 3 21 := ⟨by decide +kernel, rfl⟩
theorem D_X1_asBought_21 : Dec mi_X1_asBought 21 (.iload_n 1) 1 22 := ⟨by decide +kernel, rfl⟩
theorem D_X1_asBought_22 : Dec mi_X1_asBought 22 (.iconst 5) 1 23 := ⟨by decide +kernel, rfl⟩
theorem D_X1_asBought_23 : Dec mi_X1_asBought 23 (.invokevirtual 40) 3 26 := ⟨by decide +kernel, rfl⟩
theorem D_X1_asBought_26 : Dec mi_X1_asBought 26 (.iadd) 1 27 := ⟨by decide +kernel, rfl⟩
theorem D_X1_asBought_27 : Dec mi_X1_asBought 27 (.ireturn) 1 28 := ⟨by decide +kernel, rfl⟩
def f_X1_asBought (M : Mem) (a1 : Int32) : Option (Int32 × Mem) := vlet (setL M 34 1 ((M.2 34 1) + (10000 : Int64))) fun M1 => (f_X1_asSpare M1 a1).bind fun p2 => (f_X8_fact p2.2 3 a1 (5 : Int32)).bind fun x4 => some ((p2.1 + x4), p2.2)
theorem x_X1_asBought {l : Launch} {w : Wd} {M : Mem} {a1 : Int32} {v : Int32 × Mem} (h : f_X1_asBought M a1 = some v) : Cn l w mi_X1_asBought yX1_asBought (4) [.ref (wq w 34), .int a1] M (some (.int v.1), v.2) :=
  Cn_of (loc0 := [some (.ref (wq w 34)), some (.int a1)]) rfl rfl rfl (Nat.le_of_ble_eq_true rfl) fun κ hq => let_h (show (vlet (setL M 34 1 ((M.2 34 1) + (10000 : Int64))) fun M1 => (f_X1_asSpare M1 a1).bind fun p2 => (f_X8_fact p2.2 3 a1 (5 : Int32)).bind fun x4 => some ((p2.1 + x4), p2.2)) = some v from h) fun h => r_aload_n D_X1_asBought_0 rfl <| r_dup D_X1_asBought_1 rfl <| r_getL D_X1_asBought_2 fl_X1_15 s_34 rfl <| r_ldc2 D_X1_asBought_5 cl_X1_51 <| r_ladd D_X1_asBought_8 <| r_putL D_X1_asBought_9 fp_X1_15 s_34 rfl <| mlE h fun M1 h => r_aload_n D_X1_asBought_12 rfl <| r_iload_n D_X1_asBought_13 rfl <| (bdE h).elim fun p2 q3 => let_h q3.2 fun h => r_callV (av := [.int a1]) D_X1_asBought_14 ml_X1_26 mf_X1_asSpare mv_X1_asSpare s_34 rfl rfl (x_X1_asSpare q3.1) (Nat.le_of_ble_eq_true rfl) rfl rfl (Nat.le_of_ble_eq_true rfl) <| r_aload_n D_X1_asBought_17 rfl <| r_getR (j := 3) D_X1_asBought_18 fl_X1_9 s_34 rfl <| r_iload_n D_X1_asBought_21 rfl <| r_iconst D_X1_asBought_22 ki_5 <| (bdE h).elim fun x4 q5 => let_h q5.2 fun h => r_callV (av := [.int a1, .int (5 : Int32)]) D_X1_asBought_23 ml_X1_40 mf_X8_fact mv_X8_fact s_3 rfl rfl (x_X8_fact trip_3 q5.1) (Nat.le_of_ble_eq_true rfl) rfl rfl (Nat.le_of_ble_eq_true rfl) <| r_iadd D_X1_asBought_26 <| r_iret hq D_X1_asBought_27 rfl (rtW h)
-- X1_asSingle
theorem D_X1_asSingle_0 : Dec mi_X1_asSingle 0 (.aload_n 0) 1 1 := ⟨by decide +kernel, rfl⟩
theorem D_X1_asSingle_1 : Dec mi_X1_asSingle 1 (.dup) 1 2 := ⟨by decide +kernel, rfl⟩
theorem D_X1_asSingle_2 : Dec mi_X1_asSingle 2 (.getfield 15) 3 5 := ⟨by decide +kernel, rfl⟩
theorem D_X1_asSingle_5 : Dec mi_X1_asSingle 5 (.ldc2_w 53) 3 8 := ⟨by decide +kernel, rfl⟩
theorem D_X1_asSingle_8 : Dec mi_X1_asSingle 8 (.ladd) 1 9 := ⟨by decide +kernel, rfl⟩
theorem D_X1_asSingle_9 : Dec mi_X1_asSingle 9 (.putfield 15) 3 12 := ⟨by decide +kernel, rfl⟩
theorem D_X1_asSingle_12 : Dec mi_X1_asSingle 12 (.aload_n 0) 1 13 := ⟨by decide +kernel, rfl⟩
theorem D_X1_asSingle_13 : Dec mi_X1_asSingle 13 (.iload_n 1) 1 14 := ⟨by decide +kernel, rfl⟩
theorem D_X1_asSingle_14 : Dec mi_X1_asSingle 14 (.invokevirtual 19) 3 17 := ⟨by decide +kernel, rfl⟩
theorem D_X1_asSingle_17 : Dec mi_X1_asSingle 17 (.iload_n 2) 1 18 := ⟨by decide +kernel, rfl⟩
theorem D_X1_asSingle_18 : Dec mi_X1_asSingle 18 (.iadd) 1 19 := ⟨by decide +kernel, rfl⟩
theorem D_X1_asSingle_19 : Dec mi_X1_asSingle 19 (.ireturn) 1 20 := ⟨by decide +kernel, rfl⟩
def f_X1_asSingle (M : Mem) (a1 : Int32) (a2 : Int32) : Option (Int32 × Mem) := vlet (setL M 34 1 ((M.2 34 1) + (100000 : Int64))) fun M1 => (f_X1_asThing M1 a1).bind fun p2 => some ((p2.1 + a2), p2.2)
theorem x_X1_asSingle {l : Launch} {w : Wd} {M : Mem} {a1 : Int32} {a2 : Int32} {v : Int32 × Mem} (h : f_X1_asSingle M a1 a2 = some v) : Cn l w mi_X1_asSingle yX1_asSingle (3) [.ref (wq w 34), .int a1, .int a2] M (some (.int v.1), v.2) :=
  Cn_of (loc0 := [some (.ref (wq w 34)), some (.int a1), some (.int a2)]) rfl rfl rfl (Nat.le_of_ble_eq_true rfl) fun κ hq => let_h (show (vlet (setL M 34 1 ((M.2 34 1) + (100000 : Int64))) fun M1 => (f_X1_asThing M1 a1).bind fun p2 => some ((p2.1 + a2), p2.2)) = some v from h) fun h => r_aload_n D_X1_asSingle_0 rfl <| r_dup D_X1_asSingle_1 rfl <| r_getL D_X1_asSingle_2 fl_X1_15 s_34 rfl <| r_ldc2 D_X1_asSingle_5 cl_X1_53 <| r_ladd D_X1_asSingle_8 <| r_putL D_X1_asSingle_9 fp_X1_15 s_34 rfl <| mlE h fun M1 h => r_aload_n D_X1_asSingle_12 rfl <| r_iload_n D_X1_asSingle_13 rfl <| (bdE h).elim fun p2 q3 => let_h q3.2 fun h => r_callV (av := [.int a1]) D_X1_asSingle_14 ml_X1_19 mf_X1_asThing mv_X1_asThing s_34 rfl rfl (x_X1_asThing q3.1) (Nat.le_of_ble_eq_true rfl) rfl rfl (Nat.le_of_ble_eq_true rfl) <| r_iload_n D_X1_asSingle_17 rfl <| r_iadd D_X1_asSingle_18 <| r_iret hq D_X1_asSingle_19 rfl (rtW h)
-- X1_ask
theorem D_X1_ask_0 : Dec mi_X1_ask 0 (.iload_n 1) 1 1 := ⟨by decide +kernel, rfl⟩
theorem D_X1_ask_1 : decode mi_X1_ask.1 1 = .ok (.tableswitch 76 0 5 #[39, 45, 51, 57, 63, 69], 39) := by decide +kernel
theorem D_X1_ask_40 : Dec mi_X1_ask 40 (.aload_n 0) 1 41 := ⟨by decide +kernel, rfl⟩
theorem D_X1_ask_41 : Dec mi_X1_ask 41 (.iload_n 2) 1 42 := ⟨by decide +kernel, rfl⟩
theorem D_X1_ask_42 : Dec mi_X1_ask 42 (.invokevirtual 19) 3 45 := ⟨by decide +kernel, rfl⟩
theorem D_X1_ask_45 : Dec mi_X1_ask 45 (.ireturn) 1 46 := ⟨by decide +kernel, rfl⟩
theorem D_X1_ask_46 : Dec mi_X1_ask 46 (.aload_n 0) 1 47 := ⟨by decide +kernel, rfl⟩
theorem D_X1_ask_47 : Dec mi_X1_ask 47 (.iload_n 2) 1 48 := ⟨by decide +kernel, rfl⟩
theorem D_X1_ask_48 : Dec mi_X1_ask 48 (.invokevirtual 23) 3 51 := ⟨by decide +kernel, rfl⟩
theorem D_X1_ask_51 : Dec mi_X1_ask 51 (.ireturn) 1 52 := ⟨by decide +kernel, rfl⟩
theorem D_X1_ask_52 : Dec mi_X1_ask 52 (.aload_n 0) 1 53 := ⟨by decide +kernel, rfl⟩
theorem D_X1_ask_53 : Dec mi_X1_ask 53 (.iload_n 2) 1 54 := ⟨by decide +kernel, rfl⟩
theorem D_X1_ask_54 : Dec mi_X1_ask 54 (.invokevirtual 26) 3 57 := ⟨by decide +kernel, rfl⟩
theorem D_X1_ask_57 : Dec mi_X1_ask 57 (.ireturn) 1 58 := ⟨by decide +kernel, rfl⟩
theorem D_X1_ask_58 : Dec mi_X1_ask 58 (.aload_n 0) 1 59 := ⟨by decide +kernel, rfl⟩
theorem D_X1_ask_59 : Dec mi_X1_ask 59 (.iload_n 2) 1 60 := ⟨by decide +kernel, rfl⟩
theorem D_X1_ask_60 : Dec mi_X1_ask 60 (.invokevirtual 29) 3 63 := ⟨by decide +kernel, rfl⟩
theorem D_X1_ask_63 : Dec mi_X1_ask 63 (.ireturn) 1 64 := ⟨by decide +kernel, rfl⟩
theorem D_X1_ask_64 : Dec mi_X1_ask 64 (.aload_n 0) 1 65 := ⟨by decide +kernel, rfl⟩
theorem D_X1_ask_65 : Dec mi_X1_ask 65 (.iload_n 2) 1 66 := ⟨by decide +kernel, rfl⟩
theorem D_X1_ask_66 : Dec mi_X1_ask 66 (.invokevirtual 32) 3 69 := ⟨by decide +kernel, rfl⟩
theorem D_X1_ask_69 : Dec mi_X1_ask 69 (.ireturn) 1 70 := ⟨by decide +kernel, rfl⟩
theorem D_X1_ask_70 : Dec mi_X1_ask 70 (.aload_n 0) 1 71 := ⟨by decide +kernel, rfl⟩
theorem D_X1_ask_71 : Dec mi_X1_ask 71 (.iload_n 2) 1 72 := ⟨by decide +kernel, rfl⟩
theorem D_X1_ask_72 : Dec mi_X1_ask 72 (.iload_n 3) 1 73 := ⟨by decide +kernel, rfl⟩
theorem D_X1_ask_73 : Dec mi_X1_ask 73 (.invokevirtual 35) 3 76 := ⟨by decide +kernel, rfl⟩
theorem D_X1_ask_76 : Dec mi_X1_ask 76 (.ireturn) 1 77 := ⟨by decide +kernel, rfl⟩
theorem D_X1_ask_77 : Dec mi_X1_ask 77 (.ldc 39) 2 79 := ⟨by decide +kernel, rfl⟩
theorem D_X1_ask_79 : Dec mi_X1_ask 79 (.ireturn) 1 80 := ⟨by decide +kernel, rfl⟩
def f_X1_ask (M : Mem) (a1 : Int32) (a2 : Int32) (a3 : Int32) : Option (Int32 × Mem) := if a1 = (0 : Int32) then ((f_X1_asThing M a2).bind fun p2 => some (p2.1, p2.2)) else (if a1 = (1 : Int32) then ((f_X1_asOnce M a2).bind fun p5 => some (p5.1, p5.2)) else (if a1 = (2 : Int32) then ((f_X1_asSpare M a2).bind fun p8 => some (p8.1, p8.2)) else (if a1 = (3 : Int32) then ((f_X1_asDouble M a2).bind fun p11 => some (p11.1, p11.2)) else (if a1 = (4 : Int32) then ((f_X1_asBought M a2).bind fun p14 => some (p14.1, p14.2)) else (if a1 = (5 : Int32) then ((f_X1_asSingle M a2 a3).bind fun p17 => some (p17.1, p17.2)) else (some ((-1000000 : Int32), M)))))))
theorem x_X1_ask {l : Launch} {w : Wd} {M : Mem} {a1 : Int32} {a2 : Int32} {a3 : Int32} {v : Int32 × Mem} (h : f_X1_ask M a1 a2 a3 = some v) : Cn l w mi_X1_ask yX1_ask (5) [.ref (wq w 34), .int a1, .int a2, .int a3] M (some (.int v.1), v.2) :=
  Cn_of (loc0 := [some (.ref (wq w 34)), some (.int a1), some (.int a2), some (.int a3)]) rfl rfl rfl (Nat.le_of_ble_eq_true rfl) fun κ hq => let_h (show (if a1 = (0 : Int32) then ((f_X1_asThing M a2).bind fun p2 => some (p2.1, p2.2)) else (if a1 = (1 : Int32) then ((f_X1_asOnce M a2).bind fun p5 => some (p5.1, p5.2)) else (if a1 = (2 : Int32) then ((f_X1_asSpare M a2).bind fun p8 => some (p8.1, p8.2)) else (if a1 = (3 : Int32) then ((f_X1_asDouble M a2).bind fun p11 => some (p11.1, p11.2)) else (if a1 = (4 : Int32) then ((f_X1_asBought M a2).bind fun p14 => some (p14.1, p14.2)) else (if a1 = (5 : Int32) then ((f_X1_asSingle M a2 a3).bind fun p17 => some (p17.1, p17.2)) else (some ((-1000000 : Int32), M)))))))) = some v from h) fun h => r_iload_n D_X1_ask_0 rfl <| dcs (fun c1 => let_h (ifT c1 h) fun h => r_tabEq (off := 39) (t := 40) c1 D_X1_ask_1 (by decide) (by decide) <| r_aload_n D_X1_ask_40 rfl <| r_iload_n D_X1_ask_41 rfl <| (bdE h).elim fun p2 q3 => let_h q3.2 fun h => r_callV (av := [.int a2]) D_X1_ask_42 ml_X1_19 mf_X1_asThing mv_X1_asThing s_34 rfl rfl (x_X1_asThing q3.1) (Nat.le_of_ble_eq_true rfl) rfl rfl (Nat.le_of_ble_eq_true rfl) <| r_iret hq D_X1_ask_45 rfl (rtW h)) (fun c1 => let_h (ifF c1 h) fun h => dcs (fun c4 => let_h (ifT c4 h) fun h => r_tabEq (off := 45) (t := 46) c4 D_X1_ask_1 (by decide) (by decide) <| r_aload_n D_X1_ask_46 rfl <| r_iload_n D_X1_ask_47 rfl <| (bdE h).elim fun p5 q6 => let_h q6.2 fun h => r_callV (av := [.int a2]) D_X1_ask_48 ml_X1_23 mf_X1_asOnce mv_X1_asOnce s_34 rfl rfl (x_X1_asOnce q6.1) (Nat.le_of_ble_eq_true rfl) rfl rfl (Nat.le_of_ble_eq_true rfl) <| r_iret hq D_X1_ask_51 rfl (rtW h)) (fun c4 => let_h (ifF c4 h) fun h => dcs (fun c7 => let_h (ifT c7 h) fun h => r_tabEq (off := 51) (t := 52) c7 D_X1_ask_1 (by decide) (by decide) <| r_aload_n D_X1_ask_52 rfl <| r_iload_n D_X1_ask_53 rfl <| (bdE h).elim fun p8 q9 => let_h q9.2 fun h => r_callV (av := [.int a2]) D_X1_ask_54 ml_X1_26 mf_X1_asSpare mv_X1_asSpare s_34 rfl rfl (x_X1_asSpare q9.1) (Nat.le_of_ble_eq_true rfl) rfl rfl (Nat.le_of_ble_eq_true rfl) <| r_iret hq D_X1_ask_57 rfl (rtW h)) (fun c7 => let_h (ifF c7 h) fun h => dcs (fun c10 => let_h (ifT c10 h) fun h => r_tabEq (off := 57) (t := 58) c10 D_X1_ask_1 (by decide) (by decide) <| r_aload_n D_X1_ask_58 rfl <| r_iload_n D_X1_ask_59 rfl <| (bdE h).elim fun p11 q12 => let_h q12.2 fun h => r_callV (av := [.int a2]) D_X1_ask_60 ml_X1_29 mf_X1_asDouble mv_X1_asDouble s_34 rfl rfl (x_X1_asDouble q12.1) (Nat.le_of_ble_eq_true rfl) rfl rfl (Nat.le_of_ble_eq_true rfl) <| r_iret hq D_X1_ask_63 rfl (rtW h)) (fun c10 => let_h (ifF c10 h) fun h => dcs (fun c13 => let_h (ifT c13 h) fun h => r_tabEq (off := 63) (t := 64) c13 D_X1_ask_1 (by decide) (by decide) <| r_aload_n D_X1_ask_64 rfl <| r_iload_n D_X1_ask_65 rfl <| (bdE h).elim fun p14 q15 => let_h q15.2 fun h => r_callV (av := [.int a2]) D_X1_ask_66 ml_X1_32 mf_X1_asBought mv_X1_asBought s_34 rfl rfl (x_X1_asBought q15.1) (Nat.le_of_ble_eq_true rfl) rfl rfl (Nat.le_of_ble_eq_true rfl) <| r_iret hq D_X1_ask_69 rfl (rtW h)) (fun c13 => let_h (ifF c13 h) fun h => dcs (fun c16 => let_h (ifT c16 h) fun h => r_tabEq (off := 69) (t := 70) c16 D_X1_ask_1 (by decide) (by decide) <| r_aload_n D_X1_ask_70 rfl <| r_iload_n D_X1_ask_71 rfl <| r_iload_n D_X1_ask_72 rfl <| (bdE h).elim fun p17 q18 => let_h q18.2 fun h => r_callV (av := [.int a2, .int a3]) D_X1_ask_73 ml_X1_35 mf_X1_asSingle mv_X1_asSingle s_34 rfl rfl (x_X1_asSingle q18.1) (Nat.le_of_ble_eq_true rfl) rfl rfl (Nat.le_of_ble_eq_true rfl) <| r_iret hq D_X1_ask_76 rfl (rtW h)) (fun c16 => let_h (ifF c16 h) fun h => r_tabOut (t := 77) D_X1_ask_1 (NE.out (k := 6) ⟨⟨⟨⟨⟨⟨trivial, c1⟩, c4⟩, c7⟩, c10⟩, c13⟩, c16⟩ (by decide)) (by decide) <| r_ldc D_X1_ask_77 ci_X1_39 <| r_iret hq D_X1_ask_79 rfl (rtW h)))))))
-- X2_date
theorem D_X2_date_0 : Dec mi_X2_date 0 (.aload_n 0) 1 1 := ⟨by decide +kernel, rfl⟩
theorem D_X2_date_1 : Dec mi_X2_date 1 (.getfield 9) 3 4 := ⟨by decide +kernel, rfl⟩
theorem D_X2_date_4 : Dec mi_X2_date 4 (.ireturn) 1 5 := ⟨by decide +kernel, rfl⟩
def f_X2_date (M : Mem) (o : Nat) : Int32 := (M.1 o 0)
theorem x_X2_date {l : Launch} {w : Wd} {M : Mem} {o : Nat} {v : Int32} (ho : isLife o) (h : f_X2_date M o = v) : Cn l w mi_X2_date yX2_date (0) [.ref (wq w o)] M (some (.int v), M) :=
  Cn_of (loc0 := [some (.ref (wq w o))]) rfl rfl rfl (Nat.le_of_ble_eq_true rfl) fun κ hq => let_h (show ((M.1 o 0)) = v from h) fun h => r_aload_n D_X2_date_0 rfl <| r_getI D_X2_date_1 fl_X2_9 ho rfl <| r_iret hq D_X2_date_4 rfl (rtT h)
-- X2_how
theorem D_X2_how_0 : Dec mi_X2_how 0 (.aload_n 0) 1 1 := ⟨by decide +kernel, rfl⟩
theorem D_X2_how_1 : Dec mi_X2_how 1 (.getfield 15) 3 4 := ⟨by decide +kernel, rfl⟩
theorem D_X2_how_4 : Dec mi_X2_how 4 (.ireturn) 1 5 := ⟨by decide +kernel, rfl⟩
def f_X2_how (M : Mem) (o : Nat) : Int32 := (M.1 o 1)
theorem x_X2_how {l : Launch} {w : Wd} {M : Mem} {o : Nat} {v : Int32} (ho : isLife o) (h : f_X2_how M o = v) : Cn l w mi_X2_how yX2_how (0) [.ref (wq w o)] M (some (.int v), M) :=
  Cn_of (loc0 := [some (.ref (wq w o))]) rfl rfl rfl (Nat.le_of_ble_eq_true rfl) fun κ hq => let_h (show ((M.1 o 1)) = v from h) fun h => r_aload_n D_X2_how_0 rfl <| r_getI D_X2_how_1 fl_X2_15 ho rfl <| r_iret hq D_X2_how_4 rfl (rtT h)
-- X2_set
theorem D_X2_set_0 : Dec mi_X2_set 0 (.aload_n 0) 1 1 := ⟨by decide +kernel, rfl⟩
theorem D_X2_set_1 : Dec mi_X2_set 1 (.getfield 18) 3 4 := ⟨by decide +kernel, rfl⟩
theorem D_X2_set_4 : Dec mi_X2_set 4 (.ireturn) 1 5 := ⟨by decide +kernel, rfl⟩
def f_X2_set (M : Mem) (o : Nat) : Int32 := (M.1 o 2)
theorem x_X2_set {l : Launch} {w : Wd} {M : Mem} {o : Nat} {v : Int32} (ho : isLife o) (h : f_X2_set M o = v) : Cn l w mi_X2_set yX2_set (0) [.ref (wq w o)] M (some (.int v), M) :=
  Cn_of (loc0 := [some (.ref (wq w o))]) rfl rfl rfl (Nat.le_of_ble_eq_true rfl) fun κ hq => let_h (show ((M.1 o 2)) = v from h) fun h => r_aload_n D_X2_set_0 rfl <| r_getI D_X2_set_1 fl_X2_18 ho rfl <| r_iret hq D_X2_set_4 rfl (rtT h)
-- X2_isKept
theorem D_X2_isKept_0 : Dec mi_X2_isKept 0 (.aload_n 0) 1 1 := ⟨by decide +kernel, rfl⟩
theorem D_X2_isKept_1 : Dec mi_X2_isKept 1 (.getfield 21) 3 4 := ⟨by decide +kernel, rfl⟩
theorem D_X2_isKept_4 : Dec mi_X2_isKept 4 (.ireturn) 1 5 := ⟨by decide +kernel, rfl⟩
def f_X2_isKept (M : Mem) (o : Nat) : Option Int32 := if (M.1 o 3) &&& 1 = (M.1 o 3) then some (M.1 o 3) else none
theorem x_X2_isKept {l : Launch} {w : Wd} {M : Mem} {o : Nat} {v : Int32} (ho : isLife o) (h : f_X2_isKept M o = some v) : Cn l w mi_X2_isKept yX2_isKept (0) [.ref (wq w o)] M (some (.int v), M) :=
  Cn_of (loc0 := [some (.ref (wq w o))]) rfl rfl rfl (Nat.le_of_ble_eq_true rfl) fun κ hq => let_h (show (if (M.1 o 3) &&& 1 = (M.1 o 3) then some (M.1 o 3) else none) = some v from h) fun h => r_aload_n D_X2_isKept_0 rfl <| r_getI D_X2_isKept_1 fl_X2_21 ho rfl <| (bzE h).elim fun cz h => r_zret hq D_X2_isKept_4 rfl (nbz cz) (rtP h)
-- X2_forget
theorem D_X2_forget_0 : Dec mi_X2_forget 0 (.aload_n 0) 1 1 := ⟨by decide +kernel, rfl⟩
theorem D_X2_forget_1 : Dec mi_X2_forget 1 (.iconst 0) 1 2 := ⟨by decide +kernel, rfl⟩
theorem D_X2_forget_2 : Dec mi_X2_forget 2 (.putfield 21) 3 5 := ⟨by decide +kernel, rfl⟩
theorem D_X2_forget_5 : Dec mi_X2_forget 5 (.return_) 1 6 := ⟨by decide +kernel, rfl⟩
def f_X2_forget (M : Mem) (o : Nat) : Option Mem := vlet (setI M o 3 (0 : Int32)) fun M1 => some M1
theorem x_X2_forget {l : Launch} {w : Wd} {M : Mem} {o : Nat} {v : Mem} (ho : isLife o) (h : f_X2_forget M o = some v) : Cn l w mi_X2_forget yX2_forget (0) [.ref (wq w o)] M (none, v) :=
  Cn_of (loc0 := [some (.ref (wq w o))]) rfl rfl rfl (Nat.le_of_ble_eq_true rfl) fun κ hq => let_h (show (vlet (setI M o 3 (0 : Int32)) fun M1 => some M1) = some v from h) fun h => r_aload_n D_X2_forget_0 rfl <| r_iconst D_X2_forget_1 ki_0 <| r_putI D_X2_forget_2 fp_X2_21 ho rfl rfl rfl <| mlE h fun M1 h => r_vret hq D_X2_forget_5 rfl (rtV h)
-- X2_start
theorem D_X2_start_0 : Dec mi_X2_start 0 (.aload_n 0) 1 1 := ⟨by decide +kernel, rfl⟩
theorem D_X2_start_1 : Dec mi_X2_start 1 (.iconst 0) 1 2 := ⟨by decide +kernel, rfl⟩
theorem D_X2_start_2 : Dec mi_X2_start 2 (.putfield 9) 3 5 := ⟨by decide +kernel, rfl⟩
theorem D_X2_start_5 : Dec mi_X2_start 5 (.aload_n 0) 1 6 := ⟨by decide +kernel, rfl⟩
theorem D_X2_start_6 : Dec mi_X2_start 6 (.iconst 0) 1 7 := ⟨by decide +kernel, rfl⟩
theorem D_X2_start_7 : Dec mi_X2_start 7 (.putfield 15) 3 10 := ⟨by decide +kernel, rfl⟩
theorem D_X2_start_10 : Dec mi_X2_start 10 (.aload_n 0) 1 11 := ⟨by decide +kernel, rfl⟩
theorem D_X2_start_11 : Dec mi_X2_start 11 (.iload_n 1) 1 12 := ⟨by decide +kernel, rfl⟩
theorem D_X2_start_12 : Dec mi_X2_start 12 (.putfield 18) 3 15 := ⟨by decide +kernel, rfl⟩
theorem D_X2_start_15 : Dec mi_X2_start 15 (.return_) 1 16 := ⟨by decide +kernel, rfl⟩
def f_X2_start (M : Mem) (o : Nat) (a1 : Int32) : Option Mem := vlet (setI M o 0 (0 : Int32)) fun M1 => vlet (setI M1 o 1 (0 : Int32)) fun M2 => vlet (setI M2 o 2 a1) fun M3 => some M3
theorem x_X2_start {l : Launch} {w : Wd} {M : Mem} {o : Nat} {a1 : Int32} {v : Mem} (ho : isLife o) (h : f_X2_start M o a1 = some v) : Cn l w mi_X2_start yX2_start (0) [.ref (wq w o), .int a1] M (none, v) :=
  Cn_of (loc0 := [some (.ref (wq w o)), some (.int a1)]) rfl rfl rfl (Nat.le_of_ble_eq_true rfl) fun κ hq => let_h (show (vlet (setI M o 0 (0 : Int32)) fun M1 => vlet (setI M1 o 1 (0 : Int32)) fun M2 => vlet (setI M2 o 2 a1) fun M3 => some M3) = some v from h) fun h => r_aload_n D_X2_start_0 rfl <| r_iconst D_X2_start_1 ki_0 <| r_putI D_X2_start_2 fp_X2_9 ho rfl rfl rfl <| mlE h fun M1 h => r_aload_n D_X2_start_5 rfl <| r_iconst D_X2_start_6 ki_0 <| r_putI D_X2_start_7 fp_X2_15 ho rfl rfl rfl <| mlE h fun M2 h => r_aload_n D_X2_start_10 rfl <| r_iload_n D_X2_start_11 rfl <| r_putI D_X2_start_12 fp_X2_18 ho rfl rfl rfl <| mlE h fun M3 h => r_vret hq D_X2_start_15 rfl (rtV h)
-- X2_copy
theorem D_X2_copy_0 : Dec mi_X2_copy 0 (.aload_n 0) 1 1 := ⟨by decide +kernel, rfl⟩
theorem D_X2_copy_1 : Dec mi_X2_copy 1 (.aload_n 1) 1 2 := ⟨by decide +kernel, rfl⟩
theorem D_X2_copy_2 : Dec mi_X2_copy 2 (.getfield 9) 3 5 := ⟨by decide +kernel, rfl⟩
theorem D_X2_copy_5 : Dec mi_X2_copy 5 (.putfield 9) 3 8 := ⟨by decide +kernel, rfl⟩
theorem D_X2_copy_8 : Dec mi_X2_copy 8 (.aload_n 0) 1 9 := ⟨by decide +kernel, rfl⟩
theorem D_X2_copy_9 : Dec mi_X2_copy 9 (.aload_n 1) 1 10 := ⟨by decide +kernel, rfl⟩
theorem D_X2_copy_10 : Dec mi_X2_copy 10 (.getfield 15) 3 13 := ⟨by decide +kernel, rfl⟩
theorem D_X2_copy_13 : Dec mi_X2_copy 13 (.putfield 15) 3 16 := ⟨by decide +kernel, rfl⟩
theorem D_X2_copy_16 : Dec mi_X2_copy 16 (.aload_n 0) 1 17 := ⟨by decide +kernel, rfl⟩
theorem D_X2_copy_17 : Dec mi_X2_copy 17 (.aload_n 1) 1 18 := ⟨by decide +kernel, rfl⟩
theorem D_X2_copy_18 : Dec mi_X2_copy 18 (.getfield 18) 3 21 := ⟨by decide +kernel, rfl⟩
theorem D_X2_copy_21 : Dec mi_X2_copy 21 (.putfield 18) 3 24 := ⟨by decide +kernel, rfl⟩
theorem D_X2_copy_24 : Dec mi_X2_copy 24 (.aload_n 0) 1 25 := ⟨by decide +kernel, rfl⟩
theorem D_X2_copy_25 : Dec mi_X2_copy 25 (.iconst 1) 1 26 := ⟨by decide +kernel, rfl⟩
theorem D_X2_copy_26 : Dec mi_X2_copy 26 (.putfield 21) 3 29 := ⟨by decide +kernel, rfl⟩
theorem D_X2_copy_29 : Dec mi_X2_copy 29 (.return_) 1 30 := ⟨by decide +kernel, rfl⟩
def f_X2_copy (M : Mem) (o : Nat) (o1 : Nat) : Option Mem := vlet (setI M o 0 (M.1 o1 0)) fun M1 => vlet (setI M1 o 1 (M1.1 o1 1)) fun M2 => vlet (setI M2 o 2 (M2.1 o1 2)) fun M3 => vlet (setI M3 o 3 (1 : Int32)) fun M4 => some M4
theorem x_X2_copy {l : Launch} {w : Wd} {M : Mem} {o : Nat} {o1 : Nat} {v : Mem} (ho : isLife o) (ho1 : isLife o1) (h : f_X2_copy M o o1 = some v) : Cn l w mi_X2_copy yX2_copy (0) [.ref (wq w o), .ref (wq w o1)] M (none, v) :=
  Cn_of (loc0 := [some (.ref (wq w o)), some (.ref (wq w o1))]) rfl rfl rfl (Nat.le_of_ble_eq_true rfl) fun κ hq => let_h (show (vlet (setI M o 0 (M.1 o1 0)) fun M1 => vlet (setI M1 o 1 (M1.1 o1 1)) fun M2 => vlet (setI M2 o 2 (M2.1 o1 2)) fun M3 => vlet (setI M3 o 3 (1 : Int32)) fun M4 => some M4) = some v from h) fun h => r_aload_n D_X2_copy_0 rfl <| r_aload_n D_X2_copy_1 rfl <| r_getI D_X2_copy_2 fl_X2_9 ho1 rfl <| r_putI D_X2_copy_5 fp_X2_9 ho rfl rfl rfl <| mlE h fun M1 h => r_aload_n D_X2_copy_8 rfl <| r_aload_n D_X2_copy_9 rfl <| r_getI D_X2_copy_10 fl_X2_15 ho1 rfl <| r_putI D_X2_copy_13 fp_X2_15 ho rfl rfl rfl <| mlE h fun M2 h => r_aload_n D_X2_copy_16 rfl <| r_aload_n D_X2_copy_17 rfl <| r_getI D_X2_copy_18 fl_X2_18 ho1 rfl <| r_putI D_X2_copy_21 fp_X2_18 ho rfl rfl rfl <| mlE h fun M3 h => r_aload_n D_X2_copy_24 rfl <| r_iconst D_X2_copy_25 ki_1 <| r_putI D_X2_copy_26 fp_X2_21 ho rfl rfl rfl <| mlE h fun M4 h => r_vret hq D_X2_copy_29 rfl (rtV h)
-- X2_isOver
theorem D_X2_isOver_0 : Dec mi_X2_isOver 0 (.aload_n 0) 1 1 := ⟨by decide +kernel, rfl⟩
theorem D_X2_isOver_1 : Dec mi_X2_isOver 1 (.getfield 9) 3 4 := ⟨by decide +kernel, rfl⟩
theorem D_X2_isOver_4 : Dec mi_X2_isOver 4 (.aload_n 1) 1 5 := ⟨by decide +kernel, rfl⟩
theorem D_X2_isOver_5 : Dec mi_X2_isOver 5 (.invokevirtual 25) 3 8 := ⟨by decide +kernel, rfl⟩
theorem D_X2_isOver_8 : DecJ mi_X2_isOver 8 (.if_icmp .lt 7) (7) 11 15 := ⟨by decide +kernel, rfl, by decide⟩
theorem D_X2_isOver_11 : Dec mi_X2_isOver 11 (.iconst 1) 1 12 := ⟨by decide +kernel, rfl⟩
theorem D_X2_isOver_12 : DecJ mi_X2_isOver 12 (.goto 4) (4) 15 16 := ⟨by decide +kernel, rfl, by decide⟩
theorem D_X2_isOver_15 : Dec mi_X2_isOver 15 (.iconst 0) 1 16 := ⟨by decide +kernel, rfl⟩
theorem D_X2_isOver_16 : Dec mi_X2_isOver 16 (.ireturn) 1 17 := ⟨by decide +kernel, rfl⟩
def f_X2_isOver (M : Mem) (o : Nat) (o1 : Nat) : Int32 := if (M.1 o 0) < (f_X8_days M o1) then ((0 : Int32)) else ((1 : Int32))
theorem x_X2_isOver {l : Launch} {w : Wd} {M : Mem} {o : Nat} {o1 : Nat} {v : Int32} (ho : isLife o) (ho1 : isTrip o1) (h : f_X2_isOver M o o1 = v) : Cn l w mi_X2_isOver yX2_isOver (1) [.ref (wq w o), .ref (wq w o1)] M (some (.int v), M) :=
  Cn_of (loc0 := [some (.ref (wq w o)), some (.ref (wq w o1))]) rfl rfl rfl (Nat.le_of_ble_eq_true rfl) fun κ hq => let_h (show (if (M.1 o 0) < (f_X8_days M o1) then ((0 : Int32)) else ((1 : Int32))) = v from h) fun h => r_aload_n D_X2_isOver_0 rfl <| r_getI D_X2_isOver_1 fl_X2_9 ho rfl <| r_aload_n D_X2_isOver_4 rfl <| r_callV (av := []) D_X2_isOver_5 ml_X2_25 mf_X8_days mv_X8_days ho1.1 rfl rfl (x_X8_days ho1 rfl) (Nat.le_of_ble_eq_true rfl) rfl rfl (Nat.le_of_ble_eq_true rfl) <| r_icmp_lt D_X2_isOver_8 (fun c1 => let_h (ifT c1 h) fun h => r_iconst D_X2_isOver_15 ki_0 <| r_zret hq D_X2_isOver_16 rfl rfl (rtT h)) (fun c1 => let_h (ifF c1 h) fun h => r_iconst D_X2_isOver_11 ki_1 <| r_goto D_X2_isOver_12 <| r_zret hq D_X2_isOver_16 rfl rfl (rtT h))
-- X2_fresh
theorem D_X2_fresh_0 : Dec mi_X2_fresh 0 (.iconst 0) 1 1 := ⟨by decide +kernel, rfl⟩
theorem D_X2_fresh_1 : Dec mi_X2_fresh 1 (.istore_n 2) 1 2 := ⟨by decide +kernel, rfl⟩
theorem D_X2_fresh_2 : Dec mi_X2_fresh 2 (.iconst 0) 1 3 := ⟨by decide +kernel, rfl⟩
theorem D_X2_fresh_3 : Dec mi_X2_fresh 3 (.istore_n 3) 1 4 := ⟨by decide +kernel, rfl⟩
theorem D_X2_fresh_4 : Dec mi_X2_fresh 4 (.iload_n 3) 1 5 := ⟨by decide +kernel, rfl⟩
theorem D_X2_fresh_5 : Dec mi_X2_fresh 5 (.aload_n 1) 1 6 := ⟨by decide +kernel, rfl⟩
theorem D_X2_fresh_6 : Dec mi_X2_fresh 6 (.invokevirtual 31) 3 9 := ⟨by decide +kernel, rfl⟩
theorem D_X2_fresh_9 : DecJ mi_X2_fresh 9 (.if_icmp .ge 26) (26) 12 35 := ⟨by decide +kernel, rfl, by decide⟩
theorem D_X2_fresh_12 : Dec mi_X2_fresh 12 (.aload_n 0) 1 13 := ⟨by decide +kernel, rfl⟩
theorem D_X2_fresh_13 : Dec mi_X2_fresh 13 (.getfield 15) 3 16 := ⟨by decide +kernel, rfl⟩
theorem D_X2_fresh_16 : Dec mi_X2_fresh 16 (.iload_n 3) 1 17 := ⟨by decide +kernel, rfl⟩
theorem D_X2_fresh_17 : Dec mi_X2_fresh 17 (.invokestatic 34) 3 20 := ⟨by decide +kernel, rfl⟩
theorem D_X2_fresh_20 : DecJ mi_X2_fresh 20 (.ifCond .ne 9) (9) 23 29 := ⟨by decide +kernel, rfl, by decide⟩
theorem D_X2_fresh_23 : Dec mi_X2_fresh 23 (.iload_n 2) 1 24 := ⟨by decide +kernel, rfl⟩
theorem D_X2_fresh_24 : Dec mi_X2_fresh 24 (.iconst 1) 1 25 := ⟨by decide +kernel, rfl⟩
theorem D_X2_fresh_25 : Dec mi_X2_fresh 25 (.iload_n 3) 1 26 := ⟨by decide +kernel, rfl⟩
theorem D_X2_fresh_26 : Dec mi_X2_fresh 26 (.ishl) 1 27 := ⟨by decide +kernel, rfl⟩
theorem D_X2_fresh_27 : Dec mi_X2_fresh 27 (.ior) 1 28 := ⟨by decide +kernel, rfl⟩
theorem D_X2_fresh_28 : Dec mi_X2_fresh 28 (.istore_n 2) 1 29 := ⟨by decide +kernel, rfl⟩
theorem D_X2_fresh_29 : Dec mi_X2_fresh 29 (.iinc 3 1) 3 32 := ⟨by decide +kernel, rfl⟩
theorem D_X2_fresh_32 : DecJ mi_X2_fresh 32 (.goto (-28)) (-28) 35 4 := ⟨by decide +kernel, rfl, by decide⟩
theorem D_X2_fresh_35 : Dec mi_X2_fresh 35 (.iload_n 2) 1 36 := ⟨by decide +kernel, rfl⟩
theorem D_X2_fresh_36 : Dec mi_X2_fresh 36 (.ireturn) 1 37 := ⟨by decide +kernel, rfl⟩
def f_X2_fresh_4 (F : Nat) (M : Mem) (o : Nat) (o1 : Nat) : Nat → Int32 → Int32 → Option Int32
  | 0, _, _ => none
  | n + 1, y2, y3 => if (f_X8_things M o1) ≤ y3 then (some y2) else (if (f_X9_stateOf M (M.1 o 1) y3) = 0 then (vlet (y2 ||| ((1 : Int32) <<< (y3 &&& 31))) fun x3 => f_X2_fresh_4 F M o o1 n x3 (y3 + (1 : Int32))) else (f_X2_fresh_4 F M o o1 n y2 (y3 + (1 : Int32))))
theorem x_X2_fresh_4 {l : Launch} {w : Wd} {κ : Kp} {F : Nat} {M : Mem} {o : Nat} {o1 : Nat} {v : Int32} (hq : RQ w (some (.int v), M) κ) (ho : isLife o) (ho1 : isTrip o1) : ∀ (n : Nat) (y2 : Int32) (y3 : Int32), f_X2_fresh_4 F M o o1 n y2 y3 = some v → RR l w mi_X2_fresh (1) κ 4 [] [some (.ref (wq w o)), some (.ref (wq w o1)), some (.int y2), some (.int y3)] M
  | 0, _, _, h => nomatch h
  | n + 1, y2, y3, h => let_h (show (if (f_X8_things M o1) ≤ y3 then (some y2) else (if (f_X9_stateOf M (M.1 o 1) y3) = 0 then (vlet (y2 ||| ((1 : Int32) <<< (y3 &&& 31))) fun x3 => f_X2_fresh_4 F M o o1 n x3 (y3 + (1 : Int32))) else (f_X2_fresh_4 F M o o1 n y2 (y3 + (1 : Int32))))) = some v from h) fun h => r_iload_n D_X2_fresh_4 rfl <| r_aload_n D_X2_fresh_5 rfl <| r_callV (av := []) D_X2_fresh_6 ml_X2_31 mf_X8_things mv_X8_things ho1.1 rfl rfl (x_X8_things ho1 rfl) (Nat.le_of_ble_eq_true rfl) rfl rfl (Nat.le_of_ble_eq_true rfl) <| r_icmp_ge D_X2_fresh_9 (fun c1 => let_h (ifT c1 h) fun h => r_iload_n D_X2_fresh_35 rfl <| r_iret hq D_X2_fresh_36 rfl (rtP h)) (fun c1 => let_h (ifF c1 h) fun h => r_aload_n D_X2_fresh_12 rfl <| r_getI D_X2_fresh_13 fl_X2_15 ho rfl <| r_iload_n D_X2_fresh_16 rfl <| r_callN (av := [.int (M.1 o 1), .int y3]) D_X2_fresh_17 nl_X2_34 mf_X9_stateOf ms_X9_stateOf (x_X9_stateOf rfl) (Nat.le_of_ble_eq_true rfl) rfl rfl (Nat.le_of_ble_eq_true rfl) <| r_if_ne D_X2_fresh_20 (fun c2 => let_h (ifT c2 h) fun h => r_iload_n D_X2_fresh_23 rfl <| r_iconst D_X2_fresh_24 ki_1 <| r_iload_n D_X2_fresh_25 rfl <| r_ishl D_X2_fresh_26 <| r_ior D_X2_fresh_27 <| vlE (fun x3 => RR l w mi_X2_fresh (1) κ 28 [.int x3] [some (.ref (wq w o)), some (.ref (wq w o1)), some (.int y2), some (.int y3)] M) h fun x3 h => r_istore_n D_X2_fresh_28 (by decide) rfl <| r_iinc D_X2_fresh_29 rfl ki_1 (by decide) rfl <| r_goto D_X2_fresh_32 <| r_ls (x_X2_fresh_4 hq ho ho1 n x3 (y3 + (1 : Int32)) h) ⟨rfl, ⟨rfl, ⟨rfl, ⟨rfl, trivial⟩⟩⟩⟩) (fun c2 => let_h (ifF c2 h) fun h => r_iinc D_X2_fresh_29 rfl ki_1 (by decide) rfl <| r_goto D_X2_fresh_32 <| r_ls (x_X2_fresh_4 hq ho ho1 n y2 (y3 + (1 : Int32)) h) ⟨rfl, ⟨rfl, ⟨rfl, ⟨rfl, trivial⟩⟩⟩⟩))
def f_X2_fresh (F : Nat) (M : Mem) (o : Nat) (o1 : Nat) : Option Int32 := f_X2_fresh_4 F M o o1 F (0 : Int32) (0 : Int32)
theorem x_X2_fresh {l : Launch} {w : Wd} {F : Nat} {M : Mem} {o : Nat} {o1 : Nat} {v : Int32} (ho : isLife o) (ho1 : isTrip o1) (h : f_X2_fresh F M o o1 = some v) : Cn l w mi_X2_fresh yX2_fresh (1) [.ref (wq w o), .ref (wq w o1)] M (some (.int v), M) :=
  Cn_of (loc0 := [some (.ref (wq w o)), some (.ref (wq w o1)), none, none]) rfl rfl rfl (Nat.le_of_ble_eq_true rfl) fun κ hq => let_h (show (f_X2_fresh_4 F M o o1 F (0 : Int32) (0 : Int32)) = some v from h) fun h => r_iconst D_X2_fresh_0 ki_0 <| r_istore_n D_X2_fresh_1 (by decide) rfl <| r_iconst D_X2_fresh_2 ki_0 <| r_istore_n D_X2_fresh_3 (by decide) rfl <| r_ls (x_X2_fresh_4 hq ho ho1 F (0 : Int32) (0 : Int32) h) ⟨rfl, ⟨rfl, ⟨rfl, ⟨rfl, trivial⟩⟩⟩⟩
-- X2_mayWear
theorem D_X2_mayWear_0 : Dec mi_X2_mayWear 0 (.aload_n 0) 1 1 := ⟨by decide +kernel, rfl⟩
theorem D_X2_mayWear_1 : Dec mi_X2_mayWear 1 (.aload_n 1) 1 2 := ⟨by decide +kernel, rfl⟩
theorem D_X2_mayWear_2 : Dec mi_X2_mayWear 2 (.invokevirtual 38) 3 5 := ⟨by decide +kernel, rfl⟩
theorem D_X2_mayWear_5 : DecJ mi_X2_mayWear 5 (.ifCond .ne 88) (88) 8 93 := ⟨by decide +kernel, rfl, by decide⟩
theorem D_X2_mayWear_8 : Dec mi_X2_mayWear 8 (.iload 4) 2 10 := ⟨by decide +kernel, rfl⟩
theorem D_X2_mayWear_10 : Dec mi_X2_mayWear 10 (.aload_n 1) 1 11 := ⟨by decide +kernel, rfl⟩
theorem D_X2_mayWear_11 : Dec mi_X2_mayWear 11 (.aload_n 0) 1 12 := ⟨by decide +kernel, rfl⟩
theorem D_X2_mayWear_12 : Dec mi_X2_mayWear 12 (.getfield 9) 3 15 := ⟨by decide +kernel, rfl⟩
theorem D_X2_mayWear_15 : Dec mi_X2_mayWear 15 (.iconst 2) 1 16 := ⟨by decide +kernel, rfl⟩
theorem D_X2_mayWear_16 : Dec mi_X2_mayWear 16 (.invokevirtual 42) 3 19 := ⟨by decide +kernel, rfl⟩
theorem D_X2_mayWear_19 : DecJ mi_X2_mayWear 19 (.if_icmp .gt 74) (74) 22 93 := ⟨by decide +kernel, rfl, by decide⟩
theorem D_X2_mayWear_22 : Dec mi_X2_mayWear 22 (.aload_n 0) 1 23 := ⟨by decide +kernel, rfl⟩
theorem D_X2_mayWear_23 : Dec mi_X2_mayWear 23 (.getfield 18) 3 26 := ⟨by decide +kernel, rfl⟩
theorem D_X2_mayWear_26 : Dec mi_X2_mayWear 26 (.iload_n 2) 1 27 := ⟨by decide +kernel, rfl⟩
theorem D_X2_mayWear_27 : Dec mi_X2_mayWear 27 (.invokestatic 45) 3 30 := ⟨by decide +kernel, rfl⟩
theorem D_X2_mayWear_30 : DecJ mi_X2_mayWear 30 (.ifCond .eq 63) (63) 33 93 := ⟨by decide +kernel, rfl, by decide⟩
theorem D_X2_mayWear_33 : Dec mi_X2_mayWear 33 (.aload_n 0) 1 34 := ⟨by decide +kernel, rfl⟩
theorem D_X2_mayWear_34 : Dec mi_X2_mayWear 34 (.getfield 18) 3 37 := ⟨by decide +kernel, rfl⟩
theorem D_X2_mayWear_37 : Dec mi_X2_mayWear 37 (.iload_n 3) 1 38 := ⟨by decide +kernel, rfl⟩
theorem D_X2_mayWear_38 : Dec mi_X2_mayWear 38 (.invokestatic 45) 3 41 := ⟨by decide +kernel, rfl⟩
theorem D_X2_mayWear_41 : DecJ mi_X2_mayWear 41 (.ifCond .eq 52) (52) 44 93 := ⟨by decide +kernel, rfl, by decide⟩
theorem D_X2_mayWear_44 : Dec mi_X2_mayWear 44 (.aload_n 1) 1 45 := ⟨by decide +kernel, rfl⟩
theorem D_X2_mayWear_45 : Dec mi_X2_mayWear 45 (.aload_n 0) 1 46 := ⟨by decide +kernel, rfl⟩
theorem D_X2_mayWear_46 : Dec mi_X2_mayWear 46 (.getfield 15) 3 49 := ⟨by decide +kernel, rfl⟩
theorem D_X2_mayWear_49 : Dec mi_X2_mayWear 49 (.iload_n 2) 1 50 := ⟨by decide +kernel, rfl⟩
theorem D_X2_mayWear_50 : Dec mi_X2_mayWear 50 (.invokevirtual 49) 3 53 := ⟨by decide +kernel, rfl⟩
theorem D_X2_mayWear_53 : DecJ mi_X2_mayWear 53 (.ifCond .eq 40) (40) 56 93 := ⟨by decide +kernel, rfl, by decide⟩
theorem D_X2_mayWear_56 : Dec mi_X2_mayWear 56 (.aload_n 1) 1 57 := ⟨by decide +kernel, rfl⟩
theorem D_X2_mayWear_57 : Dec mi_X2_mayWear 57 (.aload_n 0) 1 58 := ⟨by decide +kernel, rfl⟩
theorem D_X2_mayWear_58 : Dec mi_X2_mayWear 58 (.getfield 15) 3 61 := ⟨by decide +kernel, rfl⟩
theorem D_X2_mayWear_61 : Dec mi_X2_mayWear 61 (.iload_n 3) 1 62 := ⟨by decide +kernel, rfl⟩
theorem D_X2_mayWear_62 : Dec mi_X2_mayWear 62 (.invokevirtual 49) 3 65 := ⟨by decide +kernel, rfl⟩
theorem D_X2_mayWear_65 : DecJ mi_X2_mayWear 65 (.ifCond .eq 28) (28) 68 93 := ⟨by decide +kernel, rfl, by decide⟩
theorem D_X2_mayWear_68 : Dec mi_X2_mayWear 68 (.aload_n 1) 1 69 := ⟨by decide +kernel, rfl⟩
theorem D_X2_mayWear_69 : Dec mi_X2_mayWear 69 (.aload_n 0) 1 70 := ⟨by decide +kernel, rfl⟩
theorem D_X2_mayWear_70 : Dec mi_X2_mayWear 70 (.getfield 9) 3 73 := ⟨by decide +kernel, rfl⟩
theorem D_X2_mayWear_73 : Dec mi_X2_mayWear 73 (.iload_n 2) 1 74 := ⟨by decide +kernel, rfl⟩
theorem D_X2_mayWear_74 : Dec mi_X2_mayWear 74 (.iload_n 3) 1 75 := ⟨by decide +kernel, rfl⟩
theorem D_X2_mayWear_75 : Dec mi_X2_mayWear 75 (.aload_n 1) 1 76 := ⟨by decide +kernel, rfl⟩
theorem D_X2_mayWear_76 : Dec mi_X2_mayWear 76 (.aload_n 0) 1 77 := ⟨by decide +kernel, rfl⟩
theorem D_X2_mayWear_77 : Dec mi_X2_mayWear 77 (.getfield 18) 3 80 := ⟨by decide +kernel, rfl⟩
theorem D_X2_mayWear_80 : Dec mi_X2_mayWear 80 (.invokevirtual 52) 3 83 := ⟨by decide +kernel, rfl⟩
theorem D_X2_mayWear_83 : Dec mi_X2_mayWear 83 (.invokevirtual 56) 3 86 := ⟨by decide +kernel, rfl⟩
theorem D_X2_mayWear_86 : DecJ mi_X2_mayWear 86 (.ifCond .eq 7) (7) 89 93 := ⟨by decide +kernel, rfl, by decide⟩
theorem D_X2_mayWear_89 : Dec mi_X2_mayWear 89 (.iconst 1) 1 90 := ⟨by decide +kernel, rfl⟩
theorem D_X2_mayWear_90 : DecJ mi_X2_mayWear 90 (.goto 4) (4) 93 94 := ⟨by decide +kernel, rfl, by decide⟩
theorem D_X2_mayWear_93 : Dec mi_X2_mayWear 93 (.iconst 0) 1 94 := ⟨by decide +kernel, rfl⟩
theorem D_X2_mayWear_94 : Dec mi_X2_mayWear 94 (.ireturn) 1 95 := ⟨by decide +kernel, rfl⟩
def f_X2_mayWear (F : Nat) (M : Mem) (o : Nat) (o1 : Nat) (a2 : Int32) (a3 : Int32) (a4 : Int32) : Option Int32 := if (f_X2_isOver M o o1) = 0 then ((f_X8_want M o1 (M.1 o 0) (2 : Int32)).bind fun x2 => if x2 < a4 then (some (0 : Int32)) else (if (f_X9_has M (M.1 o 2) a2) = 0 then (some (0 : Int32)) else (if (f_X9_has M (M.1 o 2) a3) = 0 then (some (0 : Int32)) else (if (f_X8_isReady M o1 (M.1 o 1) a2) = 0 then (some (0 : Int32)) else (if (f_X8_isReady M o1 (M.1 o 1) a3) = 0 then (some (0 : Int32)) else ((f_X8_warmestCoat F M o1 (M.1 o 2)).bind fun x9 => (f_X8_suits M o1 (M.1 o 0) a2 a3 x9).bind fun x11 => if x11 = 0 then (some (0 : Int32)) else (some (1 : Int32)))))))) else (some (0 : Int32))
theorem x_X2_mayWear {l : Launch} {w : Wd} {F : Nat} {M : Mem} {o : Nat} {o1 : Nat} {a2 : Int32} {a3 : Int32} {a4 : Int32} {v : Int32} (ho : isLife o) (ho1 : isTrip o1) (h : f_X2_mayWear F M o o1 a2 a3 a4 = some v) : Cn l w mi_X2_mayWear yX2_mayWear (3) [.ref (wq w o), .ref (wq w o1), .int a2, .int a3, .int a4] M (some (.int v), M) :=
  Cn_of (loc0 := [some (.ref (wq w o)), some (.ref (wq w o1)), some (.int a2), some (.int a3), some (.int a4)]) rfl rfl rfl (Nat.le_of_ble_eq_true rfl) fun κ hq => let_h (show (if (f_X2_isOver M o o1) = 0 then ((f_X8_want M o1 (M.1 o 0) (2 : Int32)).bind fun x2 => if x2 < a4 then (some (0 : Int32)) else (if (f_X9_has M (M.1 o 2) a2) = 0 then (some (0 : Int32)) else (if (f_X9_has M (M.1 o 2) a3) = 0 then (some (0 : Int32)) else (if (f_X8_isReady M o1 (M.1 o 1) a2) = 0 then (some (0 : Int32)) else (if (f_X8_isReady M o1 (M.1 o 1) a3) = 0 then (some (0 : Int32)) else ((f_X8_warmestCoat F M o1 (M.1 o 2)).bind fun x9 => (f_X8_suits M o1 (M.1 o 0) a2 a3 x9).bind fun x11 => if x11 = 0 then (some (0 : Int32)) else (some (1 : Int32)))))))) else (some (0 : Int32))) = some v from h) fun h => r_aload_n D_X2_mayWear_0 rfl <| r_aload_n D_X2_mayWear_1 rfl <| r_callV (av := [.ref (wq w o1)]) D_X2_mayWear_2 ml_X2_38 mf_X2_isOver mv_X2_isOver ho rfl rfl (x_X2_isOver ho ho1 rfl) (Nat.le_of_ble_eq_true rfl) rfl rfl (Nat.le_of_ble_eq_true rfl) <| r_if_ne D_X2_mayWear_5 (fun c1 => let_h (ifT c1 h) fun h => r_iload D_X2_mayWear_8 rfl <| r_aload_n D_X2_mayWear_10 rfl <| r_aload_n D_X2_mayWear_11 rfl <| r_getI D_X2_mayWear_12 fl_X2_9 ho rfl <| r_iconst D_X2_mayWear_15 ki_2 <| (bdE h).elim fun x2 q3 => let_h q3.2 fun h => r_callV (av := [.int (M.1 o 0), .int (2 : Int32)]) D_X2_mayWear_16 ml_X2_42 mf_X8_want mv_X8_want ho1.1 rfl rfl (x_X8_want ho1 q3.1) (Nat.le_of_ble_eq_true rfl) rfl rfl (Nat.le_of_ble_eq_true rfl) <| r_icmp_gt D_X2_mayWear_19 (fun c4 => let_h (ifT c4 h) fun h => r_iconst D_X2_mayWear_93 ki_0 <| r_zret hq D_X2_mayWear_94 rfl rfl (rtP h)) (fun c4 => let_h (ifF c4 h) fun h => r_aload_n D_X2_mayWear_22 rfl <| r_getI D_X2_mayWear_23 fl_X2_18 ho rfl <| r_iload_n D_X2_mayWear_26 rfl <| r_callN (av := [.int (M.1 o 2), .int a2]) D_X2_mayWear_27 nl_X2_45 mf_X9_has ms_X9_has (x_X9_has rfl) (Nat.le_of_ble_eq_true rfl) rfl rfl (Nat.le_of_ble_eq_true rfl) <| r_if_eq D_X2_mayWear_30 (fun c5 => let_h (ifT c5 h) fun h => r_iconst D_X2_mayWear_93 ki_0 <| r_zret hq D_X2_mayWear_94 rfl rfl (rtP h)) (fun c5 => let_h (ifF c5 h) fun h => r_aload_n D_X2_mayWear_33 rfl <| r_getI D_X2_mayWear_34 fl_X2_18 ho rfl <| r_iload_n D_X2_mayWear_37 rfl <| r_callN (av := [.int (M.1 o 2), .int a3]) D_X2_mayWear_38 nl_X2_45 mf_X9_has ms_X9_has (x_X9_has rfl) (Nat.le_of_ble_eq_true rfl) rfl rfl (Nat.le_of_ble_eq_true rfl) <| r_if_eq D_X2_mayWear_41 (fun c6 => let_h (ifT c6 h) fun h => r_iconst D_X2_mayWear_93 ki_0 <| r_zret hq D_X2_mayWear_94 rfl rfl (rtP h)) (fun c6 => let_h (ifF c6 h) fun h => r_aload_n D_X2_mayWear_44 rfl <| r_aload_n D_X2_mayWear_45 rfl <| r_getI D_X2_mayWear_46 fl_X2_15 ho rfl <| r_iload_n D_X2_mayWear_49 rfl <| r_callV (av := [.int (M.1 o 1), .int a2]) D_X2_mayWear_50 ml_X2_49 mf_X8_isReady mv_X8_isReady ho1.1 rfl rfl (x_X8_isReady ho1 rfl) (Nat.le_of_ble_eq_true rfl) rfl rfl (Nat.le_of_ble_eq_true rfl) <| r_if_eq D_X2_mayWear_53 (fun c7 => let_h (ifT c7 h) fun h => r_iconst D_X2_mayWear_93 ki_0 <| r_zret hq D_X2_mayWear_94 rfl rfl (rtP h)) (fun c7 => let_h (ifF c7 h) fun h => r_aload_n D_X2_mayWear_56 rfl <| r_aload_n D_X2_mayWear_57 rfl <| r_getI D_X2_mayWear_58 fl_X2_15 ho rfl <| r_iload_n D_X2_mayWear_61 rfl <| r_callV (av := [.int (M.1 o 1), .int a3]) D_X2_mayWear_62 ml_X2_49 mf_X8_isReady mv_X8_isReady ho1.1 rfl rfl (x_X8_isReady ho1 rfl) (Nat.le_of_ble_eq_true rfl) rfl rfl (Nat.le_of_ble_eq_true rfl) <| r_if_eq D_X2_mayWear_65 (fun c8 => let_h (ifT c8 h) fun h => r_iconst D_X2_mayWear_93 ki_0 <| r_zret hq D_X2_mayWear_94 rfl rfl (rtP h)) (fun c8 => let_h (ifF c8 h) fun h => r_aload_n D_X2_mayWear_68 rfl <| r_aload_n D_X2_mayWear_69 rfl <| r_getI D_X2_mayWear_70 fl_X2_9 ho rfl <| r_iload_n D_X2_mayWear_73 rfl <| r_iload_n D_X2_mayWear_74 rfl <| r_aload_n D_X2_mayWear_75 rfl <| r_aload_n D_X2_mayWear_76 rfl <| r_getI D_X2_mayWear_77 fl_X2_18 ho rfl <| (bdE h).elim fun x9 q10 => let_h q10.2 fun h => r_callV (av := [.int (M.1 o 2)]) D_X2_mayWear_80 ml_X2_52 mf_X8_warmestCoat mv_X8_warmestCoat ho1.1 rfl rfl (x_X8_warmestCoat ho1 q10.1) (Nat.le_of_ble_eq_true rfl) rfl rfl (Nat.le_of_ble_eq_true rfl) <| (bdE h).elim fun x11 q12 => let_h q12.2 fun h => r_callV (av := [.int (M.1 o 0), .int a2, .int a3, .int x9]) D_X2_mayWear_83 ml_X2_56 mf_X8_suits mv_X8_suits ho1.1 rfl rfl (x_X8_suits ho1 q12.1) (Nat.le_of_ble_eq_true rfl) rfl rfl (Nat.le_of_ble_eq_true rfl) <| r_if_eq D_X2_mayWear_86 (fun c13 => let_h (ifT c13 h) fun h => r_iconst D_X2_mayWear_93 ki_0 <| r_zret hq D_X2_mayWear_94 rfl rfl (rtP h)) (fun c13 => let_h (ifF c13 h) fun h => r_iconst D_X2_mayWear_89 ki_1 <| r_goto D_X2_mayWear_90 <| r_zret hq D_X2_mayWear_94 rfl rfl (rtP h)))))))) (fun c1 => let_h (ifF c1 h) fun h => r_iconst D_X2_mayWear_93 ki_0 <| r_zret hq D_X2_mayWear_94 rfl rfl (rtP h))
-- X2_wear
theorem D_X2_wear_0 : Dec mi_X2_wear 0 (.iload 5) 2 2 := ⟨by decide +kernel, rfl⟩
theorem D_X2_wear_2 : Dec mi_X2_wear 2 (.iconst 1) 1 3 := ⟨by decide +kernel, rfl⟩
theorem D_X2_wear_3 : DecJ mi_X2_wear 3 (.if_icmp .ne 19) (19) 6 22 := ⟨by decide +kernel, rfl, by decide⟩
theorem D_X2_wear_6 : Dec mi_X2_wear 6 (.aload_n 0) 1 7 := ⟨by decide +kernel, rfl⟩
theorem D_X2_wear_7 : Dec mi_X2_wear 7 (.getfield 18) 3 10 := ⟨by decide +kernel, rfl⟩
theorem D_X2_wear_10 : Dec mi_X2_wear 10 (.aload_n 1) 1 11 := ⟨by decide +kernel, rfl⟩
theorem D_X2_wear_11 : Dec mi_X2_wear 11 (.invokevirtual 60) 3 14 := ⟨by decide +kernel, rfl⟩
theorem D_X2_wear_14 : Dec mi_X2_wear 14 (.iand) 1 15 := ⟨by decide +kernel, rfl⟩
theorem D_X2_wear_15 : DecJ mi_X2_wear 15 (.ifCond .ne 7) (7) 18 22 := ⟨by decide +kernel, rfl, by decide⟩
theorem D_X2_wear_18 : Dec mi_X2_wear 18 (.iconst 1) 1 19 := ⟨by decide +kernel, rfl⟩
theorem D_X2_wear_19 : DecJ mi_X2_wear 19 (.goto 4) (4) 22 23 := ⟨by decide +kernel, rfl, by decide⟩
theorem D_X2_wear_22 : Dec mi_X2_wear 22 (.iconst 0) 1 23 := ⟨by decide +kernel, rfl⟩
theorem D_X2_wear_23 : Dec mi_X2_wear 23 (.istore 6) 2 25 := ⟨by decide +kernel, rfl⟩
theorem D_X2_wear_25 : Dec mi_X2_wear 25 (.aload_n 0) 1 26 := ⟨by decide +kernel, rfl⟩
theorem D_X2_wear_26 : Dec mi_X2_wear 26 (.aload_n 1) 1 27 := ⟨by decide +kernel, rfl⟩
theorem D_X2_wear_27 : Dec mi_X2_wear 27 (.aload_n 0) 1 28 := ⟨by decide +kernel, rfl⟩
theorem D_X2_wear_28 : Dec mi_X2_wear 28 (.getfield 15) 3 31 := ⟨by decide +kernel, rfl⟩
theorem D_X2_wear_31 : Dec mi_X2_wear 31 (.iload_n 2) 1 32 := ⟨by decide +kernel, rfl⟩
theorem D_X2_wear_32 : Dec mi_X2_wear 32 (.iload_n 3) 1 33 := ⟨by decide +kernel, rfl⟩
theorem D_X2_wear_33 : Dec mi_X2_wear 33 (.iload 6) 2 35 := ⟨by decide +kernel, rfl⟩
theorem D_X2_wear_35 : Dec mi_X2_wear 35 (.iload 4) 2 37 := ⟨by decide +kernel, rfl⟩
theorem D_X2_wear_37 : Dec mi_X2_wear 37 (.iconst 1) 1 38 := ⟨by decide +kernel, rfl⟩
theorem D_X2_wear_38 : DecJ mi_X2_wear 38 (.if_icmp .ne 7) (7) 41 45 := ⟨by decide +kernel, rfl, by decide⟩
theorem D_X2_wear_41 : Dec mi_X2_wear 41 (.iconst 1) 1 42 := ⟨by decide +kernel, rfl⟩
theorem D_X2_wear_42 : DecJ mi_X2_wear 42 (.goto 4) (4) 45 46 := ⟨by decide +kernel, rfl, by decide⟩
theorem D_X2_wear_45 : Dec mi_X2_wear 45 (.iconst 0) 1 46 := ⟨by decide +kernel, rfl⟩
theorem D_X2_wear_46 : Dec mi_X2_wear 46 (.invokevirtual 63) 3 49 := ⟨by decide +kernel, rfl⟩
theorem D_X2_wear_49 : Dec mi_X2_wear 49 (.putfield 15) 3 52 := ⟨by decide +kernel, rfl⟩
theorem D_X2_wear_52 : Dec mi_X2_wear 52 (.aload_n 0) 1 53 := ⟨by decide +kernel, rfl⟩
theorem D_X2_wear_53 : Dec mi_X2_wear 53 (.dup) 1 54 := ⟨by decide +kernel, rfl⟩
theorem D_X2_wear_54 : Dec mi_X2_wear 54 (.getfield 9) 3 57 := ⟨by decide +kernel, rfl⟩
theorem D_X2_wear_57 : Dec mi_X2_wear 57 (.iconst 1) 1 58 := ⟨by decide +kernel, rfl⟩
theorem D_X2_wear_58 : Dec mi_X2_wear 58 (.iadd) 1 59 := ⟨by decide +kernel, rfl⟩
theorem D_X2_wear_59 : Dec mi_X2_wear 59 (.putfield 9) 3 62 := ⟨by decide +kernel, rfl⟩
theorem D_X2_wear_62 : Dec mi_X2_wear 62 (.return_) 1 63 := ⟨by decide +kernel, rfl⟩
def f_X2_wear_23 (o : Nat) (o1 : Nat) (y2 : Int32) (y3 : Int32) (y4 : Int32) (t0 : Int32) (N : Mem) : Option Mem := if y4 = (1 : Int32) then (vlet (setI N o 1 (f_X8_morning N o1 (N.1 o 1) y2 y3 t0 (1 : Int32))) fun M2 => vlet (setI M2 o 0 ((M2.1 o 0) + (1 : Int32))) fun M3 => some M3) else (vlet (setI N o 1 (f_X8_morning N o1 (N.1 o 1) y2 y3 t0 (0 : Int32))) fun M4 => vlet (setI M4 o 0 ((M4.1 o 0) + (1 : Int32))) fun M5 => some M5)
theorem x_X2_wear_23 {l : Launch} {w : Wd} {κ : Kp} {o : Nat} {o1 : Nat} {v : Mem} (hq : RQ w (none, v) κ) (ho : isLife o) (ho1 : isTrip o1) (y2 : Int32) (y3 : Int32) (y4 : Int32) (t0 : Int32) (N : Mem) (h : f_X2_wear_23 o o1 y2 y3 y4 t0 N = some v) : RR l w mi_X2_wear (2) κ 23 [.int t0] [some (.ref (wq w o)), some (.ref (wq w o1)), some (.int y2), some (.int y3), some (.int y4), none, none] N := let_h (show (if y4 = (1 : Int32) then (vlet (setI N o 1 (f_X8_morning N o1 (N.1 o 1) y2 y3 t0 (1 : Int32))) fun M2 => vlet (setI M2 o 0 ((M2.1 o 0) + (1 : Int32))) fun M3 => some M3) else (vlet (setI N o 1 (f_X8_morning N o1 (N.1 o 1) y2 y3 t0 (0 : Int32))) fun M4 => vlet (setI M4 o 0 ((M4.1 o 0) + (1 : Int32))) fun M5 => some M5)) = some v from h) fun h => r_istore D_X2_wear_23 (by decide) rfl <| r_aload_n D_X2_wear_25 rfl <| r_aload_n D_X2_wear_26 rfl <| r_aload_n D_X2_wear_27 rfl <| r_getI D_X2_wear_28 fl_X2_15 ho rfl <| r_iload_n D_X2_wear_31 rfl <| r_iload_n D_X2_wear_32 rfl <| r_iload D_X2_wear_33 rfl <| r_iload D_X2_wear_35 rfl <| r_iconst D_X2_wear_37 ki_1 <| r_icmp_ne D_X2_wear_38 (fun c1 => let_h (ifT c1 h) fun h => r_iconst D_X2_wear_41 ki_1 <| r_goto D_X2_wear_42 <| r_callV (av := [.int (N.1 o 1), .int y2, .int y3, .int t0, .int (1 : Int32)]) D_X2_wear_46 ml_X2_63 mf_X8_morning mv_X8_morning ho1.1 rfl rfl (x_X8_morning ho1 rfl) (Nat.le_of_ble_eq_true rfl) rfl rfl (Nat.le_of_ble_eq_true rfl) <| r_putI D_X2_wear_49 fp_X2_15 ho rfl rfl rfl <| mlE h fun M2 h => r_aload_n D_X2_wear_52 rfl <| r_dup D_X2_wear_53 rfl <| r_getI D_X2_wear_54 fl_X2_9 ho rfl <| r_iconst D_X2_wear_57 ki_1 <| r_iadd D_X2_wear_58 <| r_putI D_X2_wear_59 fp_X2_9 ho rfl rfl rfl <| mlE h fun M3 h => r_vret hq D_X2_wear_62 rfl (rtV h)) (fun c1 => let_h (ifF c1 h) fun h => r_iconst D_X2_wear_45 ki_0 <| r_callV (av := [.int (N.1 o 1), .int y2, .int y3, .int t0, .int (0 : Int32)]) D_X2_wear_46 ml_X2_63 mf_X8_morning mv_X8_morning ho1.1 rfl rfl (x_X8_morning ho1 rfl) (Nat.le_of_ble_eq_true rfl) rfl rfl (Nat.le_of_ble_eq_true rfl) <| r_putI D_X2_wear_49 fp_X2_15 ho rfl rfl rfl <| mlE h fun M4 h => r_aload_n D_X2_wear_52 rfl <| r_dup D_X2_wear_53 rfl <| r_getI D_X2_wear_54 fl_X2_9 ho rfl <| r_iconst D_X2_wear_57 ki_1 <| r_iadd D_X2_wear_58 <| r_putI D_X2_wear_59 fp_X2_9 ho rfl rfl rfl <| mlE h fun M5 h => r_vret hq D_X2_wear_62 rfl (rtV h))
def f_X2_wear (M : Mem) (o : Nat) (o1 : Nat) (a2 : Int32) (a3 : Int32) (a4 : Int32) (a5 : Int32) : Option Mem := if a5 = (1 : Int32) then (if ((M.1 o 2) &&& (f_X8_coats M o1)) = 0 then (f_X2_wear_23 o o1 a2 a3 a4 (1 : Int32) M) else (f_X2_wear_23 o o1 a2 a3 a4 (0 : Int32) M)) else (f_X2_wear_23 o o1 a2 a3 a4 (0 : Int32) M)
theorem x_X2_wear {l : Launch} {w : Wd} {M : Mem} {o : Nat} {o1 : Nat} {a2 : Int32} {a3 : Int32} {a4 : Int32} {a5 : Int32} {v : Mem} (ho : isLife o) (ho1 : isTrip o1) (h : f_X2_wear M o o1 a2 a3 a4 a5 = some v) : Cn l w mi_X2_wear yX2_wear (2) [.ref (wq w o), .ref (wq w o1), .int a2, .int a3, .int a4, .int a5] M (none, v) :=
  Cn_of (loc0 := [some (.ref (wq w o)), some (.ref (wq w o1)), some (.int a2), some (.int a3), some (.int a4), some (.int a5), none]) rfl rfl rfl (Nat.le_of_ble_eq_true rfl) fun κ hq => let_h (show (if a5 = (1 : Int32) then (if ((M.1 o 2) &&& (f_X8_coats M o1)) = 0 then (f_X2_wear_23 o o1 a2 a3 a4 (1 : Int32) M) else (f_X2_wear_23 o o1 a2 a3 a4 (0 : Int32) M)) else (f_X2_wear_23 o o1 a2 a3 a4 (0 : Int32) M)) = some v from h) fun h => r_iload D_X2_wear_0 rfl <| r_iconst D_X2_wear_2 ki_1 <| r_icmp_ne D_X2_wear_3 (fun c1 => let_h (ifT c1 h) fun h => r_aload_n D_X2_wear_6 rfl <| r_getI D_X2_wear_7 fl_X2_18 ho rfl <| r_aload_n D_X2_wear_10 rfl <| r_callV (av := []) D_X2_wear_11 ml_X2_60 mf_X8_coats mv_X8_coats ho1.1 rfl rfl (x_X8_coats ho1 rfl) (Nat.le_of_ble_eq_true rfl) rfl rfl (Nat.le_of_ble_eq_true rfl) <| r_iand D_X2_wear_14 <| r_if_ne D_X2_wear_15 (fun c2 => let_h (ifT c2 h) fun h => r_iconst D_X2_wear_18 ki_1 <| r_goto D_X2_wear_19 <| r_ls (x_X2_wear_23 hq ho ho1 a2 a3 a4 (1 : Int32) M h) ⟨rfl, ⟨rfl, ⟨rfl, ⟨rfl, ⟨rfl, trivial⟩⟩⟩⟩⟩) (fun c2 => let_h (ifF c2 h) fun h => r_iconst D_X2_wear_22 ki_0 <| r_ls (x_X2_wear_23 hq ho ho1 a2 a3 a4 (0 : Int32) M h) ⟨rfl, ⟨rfl, ⟨rfl, ⟨rfl, ⟨rfl, trivial⟩⟩⟩⟩⟩)) (fun c1 => let_h (ifF c1 h) fun h => r_iconst D_X2_wear_22 ki_0 <| r_ls (x_X2_wear_23 hq ho ho1 a2 a3 a4 (0 : Int32) M h) ⟨rfl, ⟨rfl, ⟨rfl, ⟨rfl, ⟨rfl, trivial⟩⟩⟩⟩⟩)
-- X3_size
theorem D_X3_size_0 : Dec mi_X3_size 0 (.aload_n 0) 1 1 := ⟨by decide +kernel, rfl⟩
theorem D_X3_size_1 : Dec mi_X3_size 1 (.getfield 15) 3 4 := ⟨by decide +kernel, rfl⟩
theorem D_X3_size_4 : Dec mi_X3_size 4 (.ireturn) 1 5 := ⟨by decide +kernel, rfl⟩
def f_X3_size (M : Mem) : Int32 := (M.1 32 1)
theorem x_X3_size {l : Launch} {w : Wd} {M : Mem} {v : Int32} (h : f_X3_size M = v) : Cn l w mi_X3_size yX3_size (0) [.ref (wq w 32)] M (some (.int v), M) :=
  Cn_of (loc0 := [some (.ref (wq w 32))]) rfl rfl rfl (Nat.le_of_ble_eq_true rfl) fun κ hq => let_h (show ((M.1 32 1)) = v from h) fun h => r_aload_n D_X3_size_0 rfl <| r_getI D_X3_size_1 fl_X3_15 s_32 rfl <| r_iret hq D_X3_size_4 rfl (rtT h)
-- X3_add
theorem D_X3_add_0 : Dec mi_X3_add 0 (.aload_n 0) 1 1 := ⟨by decide +kernel, rfl⟩
theorem D_X3_add_1 : Dec mi_X3_add 1 (.getfield 15) 3 4 := ⟨by decide +kernel, rfl⟩
theorem D_X3_add_4 : DecJ mi_X3_add 4 (.ifCond .lt 12) (12) 7 16 := ⟨by decide +kernel, rfl, by decide⟩
theorem D_X3_add_7 : Dec mi_X3_add 7 (.aload_n 0) 1 8 := ⟨by decide +kernel, rfl⟩
theorem D_X3_add_8 : Dec mi_X3_add 8 (.getfield 15) 3 11 := ⟨by decide +kernel, rfl⟩
theorem D_X3_add_11 : Dec mi_X3_add 11 (.bipush 20) 2 13 := ⟨by decide +kernel, rfl⟩
theorem D_X3_add_13 : DecJ mi_X3_add 13 (.if_icmp .lt 5) (5) 16 18 := ⟨by decide +kernel, rfl, by decide⟩
theorem D_X3_add_16 : Dec mi_X3_add 16 (.iconst 0) 1 17 := ⟨by decide +kernel, rfl⟩
theorem D_X3_add_17 : Dec mi_X3_add 17 (.ireturn) 1 18 := ⟨by decide +kernel, rfl⟩
theorem D_X3_add_18 : Dec mi_X3_add 18 (.aload_n 0) 1 19 := ⟨by decide +kernel, rfl⟩
theorem D_X3_add_19 : Dec mi_X3_add 19 (.getfield 15) 3 22 := ⟨by decide +kernel, rfl⟩
theorem D_X3_add_22 : Dec mi_X3_add 22 (.istore_n 3) 1 23 := ⟨by decide +kernel, rfl⟩
theorem D_X3_add_23 : Dec mi_X3_add 23 (.iload_n 3) 1 24 := ⟨by decide +kernel, rfl⟩
theorem D_X3_add_24 : DecJ mi_X3_add 24 (.ifCond .le 35) (35) 27 59 := ⟨by decide +kernel, rfl, by decide⟩
theorem D_X3_add_27 : Dec mi_X3_add 27 (.aload_n 0) 1 28 := ⟨by decide +kernel, rfl⟩
theorem D_X3_add_28 : Dec mi_X3_add 28 (.getfield 11) 3 31 := ⟨by decide +kernel, rfl⟩
theorem D_X3_add_31 : Dec mi_X3_add 31 (.iload_n 3) 1 32 := ⟨by decide +kernel, rfl⟩
theorem D_X3_add_32 : Dec mi_X3_add 32 (.iconst 1) 1 33 := ⟨by decide +kernel, rfl⟩
theorem D_X3_add_33 : Dec mi_X3_add 33 (.isub) 1 34 := ⟨by decide +kernel, rfl⟩
theorem D_X3_add_34 : Dec mi_X3_add 34 (.iaload) 1 35 := ⟨by decide +kernel, rfl⟩
theorem D_X3_add_35 : Dec mi_X3_add 35 (.iload_n 2) 1 36 := ⟨by decide +kernel, rfl⟩
theorem D_X3_add_36 : DecJ mi_X3_add 36 (.if_icmp .le 23) (23) 39 59 := ⟨by decide +kernel, rfl, by decide⟩
theorem D_X3_add_39 : Dec mi_X3_add 39 (.aload_n 0) 1 40 := ⟨by decide +kernel, rfl⟩
theorem D_X3_add_40 : Dec mi_X3_add 40 (.getfield 11) 3 43 := ⟨by decide +kernel, rfl⟩
theorem D_X3_add_43 : Dec mi_X3_add 43 (.iload_n 3) 1 44 := ⟨by decide +kernel, rfl⟩
theorem D_X3_add_44 : Dec mi_X3_add 44 (.aload_n 0) 1 45 := ⟨by decide +kernel, rfl⟩
theorem D_X3_add_45 : Dec mi_X3_add 45 (.getfield 11) 3 48 := ⟨by decide +kernel, rfl⟩
theorem D_X3_add_48 : Dec mi_X3_add 48 (.iload_n 3) 1 49 := ⟨by decide +kernel, rfl⟩
theorem D_X3_add_49 : Dec mi_X3_add 49 (.iconst 1) 1 50 := ⟨by decide +kernel, rfl⟩
theorem D_X3_add_50 : Dec mi_X3_add 50 (.isub) 1 51 := ⟨by decide +kernel, rfl⟩
theorem D_X3_add_51 : Dec mi_X3_add 51 (.iaload) 1 52 := ⟨by decide +kernel, rfl⟩
theorem D_X3_add_52 : Dec mi_X3_add 52 (.iastore) 1 53 := ⟨by decide +kernel, rfl⟩
theorem D_X3_add_53 : Dec mi_X3_add 53 (.iinc 3 (-1)) 3 56 := ⟨by decide +kernel, rfl⟩
theorem D_X3_add_56 : DecJ mi_X3_add 56 (.goto (-33)) (-33) 59 23 := ⟨by decide +kernel, rfl, by decide⟩
theorem D_X3_add_59 : Dec mi_X3_add 59 (.aload_n 0) 1 60 := ⟨by decide +kernel, rfl⟩
theorem D_X3_add_60 : Dec mi_X3_add 60 (.getfield 11) 3 63 := ⟨by decide +kernel, rfl⟩
theorem D_X3_add_63 : Dec mi_X3_add 63 (.iload_n 3) 1 64 := ⟨by decide +kernel, rfl⟩
theorem D_X3_add_64 : Dec mi_X3_add 64 (.iload_n 2) 1 65 := ⟨by decide +kernel, rfl⟩
theorem D_X3_add_65 : Dec mi_X3_add 65 (.iastore) 1 66 := ⟨by decide +kernel, rfl⟩
theorem D_X3_add_66 : Dec mi_X3_add 66 (.aload_n 0) 1 67 := ⟨by decide +kernel, rfl⟩
theorem D_X3_add_67 : Dec mi_X3_add 67 (.dup) 1 68 := ⟨by decide +kernel, rfl⟩
theorem D_X3_add_68 : Dec mi_X3_add 68 (.getfield 15) 3 71 := ⟨by decide +kernel, rfl⟩
theorem D_X3_add_71 : Dec mi_X3_add 71 (.iconst 1) 1 72 := ⟨by decide +kernel, rfl⟩
theorem D_X3_add_72 : Dec mi_X3_add 72 (.iadd) 1 73 := ⟨by decide +kernel, rfl⟩
theorem D_X3_add_73 : Dec mi_X3_add 73 (.putfield 15) 3 76 := ⟨by decide +kernel, rfl⟩
theorem D_X3_add_76 : Dec mi_X3_add 76 (.aload_n 0) 1 77 := ⟨by decide +kernel, rfl⟩
theorem D_X3_add_77 : Dec mi_X3_add 77 (.dup) 1 78 := ⟨by decide +kernel, rfl⟩
theorem D_X3_add_78 : Dec mi_X3_add 78 (.getfield 19) 3 81 := ⟨by decide +kernel, rfl⟩
theorem D_X3_add_81 : Dec mi_X3_add 81 (.iload_n 1) 1 82 := ⟨by decide +kernel, rfl⟩
theorem D_X3_add_82 : Dec mi_X3_add 82 (.iadd) 1 83 := ⟨by decide +kernel, rfl⟩
theorem D_X3_add_83 : Dec mi_X3_add 83 (.putfield 19) 3 86 := ⟨by decide +kernel, rfl⟩
theorem D_X3_add_86 : Dec mi_X3_add 86 (.aload_n 0) 1 87 := ⟨by decide +kernel, rfl⟩
theorem D_X3_add_87 : Dec mi_X3_add 87 (.dup) 1 88 := ⟨by decide +kernel, rfl⟩
theorem D_X3_add_88 : Dec mi_X3_add 88 (.getfield 22) 3 91 := ⟨by decide +kernel, rfl⟩
theorem D_X3_add_91 : Dec mi_X3_add 91 (.iload_n 2) 1 92 := ⟨by decide +kernel, rfl⟩
theorem D_X3_add_92 : Dec mi_X3_add 92 (.iadd) 1 93 := ⟨by decide +kernel, rfl⟩
theorem D_X3_add_93 : Dec mi_X3_add 93 (.putfield 22) 3 96 := ⟨by decide +kernel, rfl⟩
theorem D_X3_add_96 : Dec mi_X3_add 96 (.iconst 1) 1 97 := ⟨by decide +kernel, rfl⟩
theorem D_X3_add_97 : Dec mi_X3_add 97 (.ireturn) 1 98 := ⟨by decide +kernel, rfl⟩
def f_X3_add_59 (F : Nat) (y1 : Int32) (y2 : Int32) (y3 : Int32) (N : Mem) : Option (Int32 × Mem) := if ck y3 20 = true then (vlet (setI N 33 y3.toNatClampNeg y2) fun M2 => vlet (setI M2 32 1 ((M2.1 32 1) + (1 : Int32))) fun M3 => vlet (setI M3 32 2 ((M3.1 32 2) + y1)) fun M4 => vlet (setI M4 32 3 ((M4.1 32 3) + y2)) fun M5 => some ((1 : Int32), M5)) else none
theorem x_X3_add_59 {l : Launch} {w : Wd} {κ : Kp} {F : Nat} {v : Int32 × Mem} (hq : RQ w (some (.int v.1), v.2) κ) (y1 : Int32) (y2 : Int32) (y3 : Int32) (N : Mem) (h : f_X3_add_59 F y1 y2 y3 N = some v) : RR l w mi_X3_add (0) κ 59 [] [some (.ref (wq w 32)), some (.int y1), some (.int y2), some (.int y3)] N := let_h (show (if ck y3 20 = true then (vlet (setI N 33 y3.toNatClampNeg y2) fun M2 => vlet (setI M2 32 1 ((M2.1 32 1) + (1 : Int32))) fun M3 => vlet (setI M3 32 2 ((M3.1 32 2) + y1)) fun M4 => vlet (setI M4 32 3 ((M4.1 32 3) + y2)) fun M5 => some ((1 : Int32), M5)) else none) = some v from h) fun h => r_aload_n D_X3_add_59 rfl <| r_getR (j := 33) D_X3_add_60 fl_X3_11 s_32 rfl <| r_iload_n D_X3_add_63 rfl <| r_iload_n D_X3_add_64 rfl <| (ckE h).elim fun c1 h => r_iast D_X3_add_65 s_33 c1 <| mlE h fun M2 h => r_aload_n D_X3_add_66 rfl <| r_dup D_X3_add_67 rfl <| r_getI D_X3_add_68 fl_X3_15 s_32 rfl <| r_iconst D_X3_add_71 ki_1 <| r_iadd D_X3_add_72 <| r_putI D_X3_add_73 fp_X3_15 s_32 rfl rfl rfl <| mlE h fun M3 h => r_aload_n D_X3_add_76 rfl <| r_dup D_X3_add_77 rfl <| r_getI D_X3_add_78 fl_X3_19 s_32 rfl <| r_iload_n D_X3_add_81 rfl <| r_iadd D_X3_add_82 <| r_putI D_X3_add_83 fp_X3_19 s_32 rfl rfl rfl <| mlE h fun M4 h => r_aload_n D_X3_add_86 rfl <| r_dup D_X3_add_87 rfl <| r_getI D_X3_add_88 fl_X3_22 s_32 rfl <| r_iload_n D_X3_add_91 rfl <| r_iadd D_X3_add_92 <| r_putI D_X3_add_93 fp_X3_22 s_32 rfl rfl rfl <| mlE h fun M5 h => r_iconst D_X3_add_96 ki_1 <| r_zret hq D_X3_add_97 rfl rfl (rtW h)
def f_X3_add_23 (F : Nat) : Nat → Int32 → Int32 → Int32 → Mem → Option (Int32 × Mem)
  | 0, _, _, _, _ => none
  | n + 1, y1, y2, y3, N => if y3 ≤ 0 then (f_X3_add_59 F y1 y2 y3 N) else (if ck (y3 - (1 : Int32)) 20 = true then (if (N.1 33 (y3 - (1 : Int32)).toNatClampNeg) ≤ y2 then (f_X3_add_59 F y1 y2 y3 N) else (if ck (y3 - (1 : Int32)) 20 = true then (if ck y3 20 = true then (vlet (setI N 33 y3.toNatClampNeg (N.1 33 (y3 - (1 : Int32)).toNatClampNeg)) fun M6 => f_X3_add_23 F n y1 y2 (y3 + (-1 : Int32)) M6) else none) else none)) else none)
theorem x_X3_add_23 {l : Launch} {w : Wd} {κ : Kp} {F : Nat} {v : Int32 × Mem} (hq : RQ w (some (.int v.1), v.2) κ) : ∀ (n : Nat) (y1 : Int32) (y2 : Int32) (y3 : Int32) (N : Mem), f_X3_add_23 F n y1 y2 y3 N = some v → RR l w mi_X3_add (0) κ 23 [] [some (.ref (wq w 32)), some (.int y1), some (.int y2), some (.int y3)] N
  | 0, _, _, _, _, h => nomatch h
  | n + 1, y1, y2, y3, N, h => let_h (show (if y3 ≤ 0 then (f_X3_add_59 F y1 y2 y3 N) else (if ck (y3 - (1 : Int32)) 20 = true then (if (N.1 33 (y3 - (1 : Int32)).toNatClampNeg) ≤ y2 then (f_X3_add_59 F y1 y2 y3 N) else (if ck (y3 - (1 : Int32)) 20 = true then (if ck y3 20 = true then (vlet (setI N 33 y3.toNatClampNeg (N.1 33 (y3 - (1 : Int32)).toNatClampNeg)) fun M6 => f_X3_add_23 F n y1 y2 (y3 + (-1 : Int32)) M6) else none) else none)) else none)) = some v from h) fun h => r_iload_n D_X3_add_23 rfl <| r_if_le D_X3_add_24 (fun c1 => let_h (ifT c1 h) fun h => r_ls (x_X3_add_59 hq y1 y2 y3 N h) ⟨rfl, ⟨rfl, ⟨rfl, ⟨rfl, trivial⟩⟩⟩⟩) (fun c1 => let_h (ifF c1 h) fun h => r_aload_n D_X3_add_27 rfl <| r_getR (j := 33) D_X3_add_28 fl_X3_11 s_32 rfl <| r_iload_n D_X3_add_31 rfl <| r_iconst D_X3_add_32 ki_1 <| r_isub D_X3_add_33 <| (ckE h).elim fun c2 h => r_iald D_X3_add_34 s_33 c2 <| r_iload_n D_X3_add_35 rfl <| r_icmp_le D_X3_add_36 (fun c3 => let_h (ifT c3 h) fun h => r_ls (x_X3_add_59 hq y1 y2 y3 N h) ⟨rfl, ⟨rfl, ⟨rfl, ⟨rfl, trivial⟩⟩⟩⟩) (fun c3 => let_h (ifF c3 h) fun h => r_aload_n D_X3_add_39 rfl <| r_getR (j := 33) D_X3_add_40 fl_X3_11 s_32 rfl <| r_iload_n D_X3_add_43 rfl <| r_aload_n D_X3_add_44 rfl <| r_getR (j := 33) D_X3_add_45 fl_X3_11 s_32 rfl <| r_iload_n D_X3_add_48 rfl <| r_iconst D_X3_add_49 ki_1 <| r_isub D_X3_add_50 <| (ckE h).elim fun c4 h => r_iald D_X3_add_51 s_33 c4 <| (ckE h).elim fun c5 h => r_iast D_X3_add_52 s_33 c5 <| mlE h fun M6 h => r_iinc D_X3_add_53 rfl ki_m1 (by decide) rfl <| r_goto D_X3_add_56 <| r_ls (x_X3_add_23 hq n y1 y2 (y3 + (-1 : Int32)) M6 h) ⟨rfl, ⟨rfl, ⟨rfl, ⟨rfl, trivial⟩⟩⟩⟩))
def f_X3_add (F : Nat) (M : Mem) (a1 : Int32) (a2 : Int32) : Option (Int32 × Mem) := if (M.1 32 1) < 0 then (some ((0 : Int32), M)) else (if (M.1 32 1) < (20 : Int32) then (f_X3_add_23 F F a1 a2 (M.1 32 1) M) else (some ((0 : Int32), M)))
theorem x_X3_add {l : Launch} {w : Wd} {F : Nat} {M : Mem} {a1 : Int32} {a2 : Int32} {v : Int32 × Mem} (h : f_X3_add F M a1 a2 = some v) : Cn l w mi_X3_add yX3_add (0) [.ref (wq w 32), .int a1, .int a2] M (some (.int v.1), v.2) :=
  Cn_of (loc0 := [some (.ref (wq w 32)), some (.int a1), some (.int a2), none]) rfl rfl rfl (Nat.le_of_ble_eq_true rfl) fun κ hq => let_h (show (if (M.1 32 1) < 0 then (some ((0 : Int32), M)) else (if (M.1 32 1) < (20 : Int32) then (f_X3_add_23 F F a1 a2 (M.1 32 1) M) else (some ((0 : Int32), M)))) = some v from h) fun h => r_aload_n D_X3_add_0 rfl <| r_getI D_X3_add_1 fl_X3_15 s_32 rfl <| r_if_lt D_X3_add_4 (fun c1 => let_h (ifT c1 h) fun h => r_iconst D_X3_add_16 ki_0 <| r_zret hq D_X3_add_17 rfl rfl (rtW h)) (fun c1 => let_h (ifF c1 h) fun h => r_aload_n D_X3_add_7 rfl <| r_getI D_X3_add_8 fl_X3_15 s_32 rfl <| r_bipush D_X3_add_11 k8_20 <| r_icmp_lt D_X3_add_13 (fun c2 => let_h (ifT c2 h) fun h => r_aload_n D_X3_add_18 rfl <| r_getI D_X3_add_19 fl_X3_15 s_32 rfl <| r_istore_n D_X3_add_22 (by decide) rfl <| r_ls (x_X3_add_23 hq F a1 a2 (M.1 32 1) M h) ⟨rfl, ⟨rfl, ⟨rfl, ⟨rfl, trivial⟩⟩⟩⟩) (fun c2 => let_h (ifF c2 h) fun h => r_iconst D_X3_add_16 ki_0 <| r_zret hq D_X3_add_17 rfl rfl (rtW h)))
-- X3_onAt
theorem D_X3_onAt_0 : Dec mi_X3_onAt 0 (.iload_n 1) 1 1 := ⟨by decide +kernel, rfl⟩
theorem D_X3_onAt_1 : DecJ mi_X3_onAt 1 (.ifCond .lt 26) (26) 4 27 := ⟨by decide +kernel, rfl, by decide⟩
theorem D_X3_onAt_4 : Dec mi_X3_onAt 4 (.iload_n 1) 1 5 := ⟨by decide +kernel, rfl⟩
theorem D_X3_onAt_5 : Dec mi_X3_onAt 5 (.aload_n 0) 1 6 := ⟨by decide +kernel, rfl⟩
theorem D_X3_onAt_6 : Dec mi_X3_onAt 6 (.getfield 15) 3 9 := ⟨by decide +kernel, rfl⟩
theorem D_X3_onAt_9 : DecJ mi_X3_onAt 9 (.if_icmp .ge 18) (18) 12 27 := ⟨by decide +kernel, rfl, by decide⟩
theorem D_X3_onAt_12 : Dec mi_X3_onAt 12 (.iload_n 1) 1 13 := ⟨by decide +kernel, rfl⟩
theorem D_X3_onAt_13 : Dec mi_X3_onAt 13 (.bipush 20) 2 15 := ⟨by decide +kernel, rfl⟩
theorem D_X3_onAt_15 : DecJ mi_X3_onAt 15 (.if_icmp .ge 12) (12) 18 27 := ⟨by decide +kernel, rfl, by decide⟩
theorem D_X3_onAt_18 : Dec mi_X3_onAt 18 (.aload_n 0) 1 19 := ⟨by decide +kernel, rfl⟩
theorem D_X3_onAt_19 : Dec mi_X3_onAt 19 (.getfield 11) 3 22 := ⟨by decide +kernel, rfl⟩
theorem D_X3_onAt_22 : Dec mi_X3_onAt 22 (.iload_n 1) 1 23 := ⟨by decide +kernel, rfl⟩
theorem D_X3_onAt_23 : Dec mi_X3_onAt 23 (.iaload) 1 24 := ⟨by decide +kernel, rfl⟩
theorem D_X3_onAt_24 : DecJ mi_X3_onAt 24 (.goto 5) (5) 27 29 := ⟨by decide +kernel, rfl, by decide⟩
theorem D_X3_onAt_27 : Dec mi_X3_onAt 27 (.bipush (-9)) 2 29 := ⟨by decide +kernel, rfl⟩
theorem D_X3_onAt_29 : Dec mi_X3_onAt 29 (.ireturn) 1 30 := ⟨by decide +kernel, rfl⟩
def f_X3_onAt (M : Mem) (a1 : Int32) : Option Int32 := if a1 < 0 then (some (-9 : Int32)) else (if (M.1 32 1) ≤ a1 then (some (-9 : Int32)) else (if (20 : Int32) ≤ a1 then (some (-9 : Int32)) else (if ck a1 20 = true then (some (M.1 33 a1.toNatClampNeg)) else none)))
theorem x_X3_onAt {l : Launch} {w : Wd} {M : Mem} {a1 : Int32} {v : Int32} (h : f_X3_onAt M a1 = some v) : Cn l w mi_X3_onAt yX3_onAt (0) [.ref (wq w 32), .int a1] M (some (.int v), M) :=
  Cn_of (loc0 := [some (.ref (wq w 32)), some (.int a1)]) rfl rfl rfl (Nat.le_of_ble_eq_true rfl) fun κ hq => let_h (show (if a1 < 0 then (some (-9 : Int32)) else (if (M.1 32 1) ≤ a1 then (some (-9 : Int32)) else (if (20 : Int32) ≤ a1 then (some (-9 : Int32)) else (if ck a1 20 = true then (some (M.1 33 a1.toNatClampNeg)) else none)))) = some v from h) fun h => r_iload_n D_X3_onAt_0 rfl <| r_if_lt D_X3_onAt_1 (fun c1 => let_h (ifT c1 h) fun h => r_bipush D_X3_onAt_27 k8_m9 <| r_iret hq D_X3_onAt_29 rfl (rtP h)) (fun c1 => let_h (ifF c1 h) fun h => r_iload_n D_X3_onAt_4 rfl <| r_aload_n D_X3_onAt_5 rfl <| r_getI D_X3_onAt_6 fl_X3_15 s_32 rfl <| r_icmp_ge D_X3_onAt_9 (fun c2 => let_h (ifT c2 h) fun h => r_bipush D_X3_onAt_27 k8_m9 <| r_iret hq D_X3_onAt_29 rfl (rtP h)) (fun c2 => let_h (ifF c2 h) fun h => r_iload_n D_X3_onAt_12 rfl <| r_bipush D_X3_onAt_13 k8_20 <| r_icmp_ge D_X3_onAt_15 (fun c3 => let_h (ifT c3 h) fun h => r_bipush D_X3_onAt_27 k8_m9 <| r_iret hq D_X3_onAt_29 rfl (rtP h)) (fun c3 => let_h (ifF c3 h) fun h => r_aload_n D_X3_onAt_18 rfl <| r_getR (j := 33) D_X3_onAt_19 fl_X3_11 s_32 rfl <| r_iload_n D_X3_onAt_22 rfl <| (ckE h).elim fun c4 h => r_iald D_X3_onAt_23 s_33 c4 <| r_goto D_X3_onAt_24 <| r_iret hq D_X3_onAt_29 rfl (rtP h))))
-- X3_lowered
theorem D_X3_lowered_0 : Dec mi_X3_lowered 0 (.aload_n 0) 1 1 := ⟨by decide +kernel, rfl⟩
theorem D_X3_lowered_1 : Dec mi_X3_lowered 1 (.getfield 19) 3 4 := ⟨by decide +kernel, rfl⟩
theorem D_X3_lowered_4 : Dec mi_X3_lowered 4 (.istore_n 2) 1 5 := ⟨by decide +kernel, rfl⟩
theorem D_X3_lowered_5 : Dec mi_X3_lowered 5 (.iload_n 2) 1 6 := ⟨by decide +kernel, rfl⟩
theorem D_X3_lowered_6 : Dec mi_X3_lowered 6 (.iconst 1) 1 7 := ⟨by decide +kernel, rfl⟩
theorem D_X3_lowered_7 : DecJ mi_X3_lowered 7 (.if_icmp .le 31) (31) 10 38 := ⟨by decide +kernel, rfl, by decide⟩
theorem D_X3_lowered_10 : Dec mi_X3_lowered 10 (.aload_n 0) 1 11 := ⟨by decide +kernel, rfl⟩
theorem D_X3_lowered_11 : Dec mi_X3_lowered 11 (.getfield 19) 3 14 := ⟨by decide +kernel, rfl⟩
theorem D_X3_lowered_14 : Dec mi_X3_lowered 14 (.iload_n 2) 1 15 := ⟨by decide +kernel, rfl⟩
theorem D_X3_lowered_15 : Dec mi_X3_lowered 15 (.irem) 1 16 := ⟨by decide +kernel, rfl⟩
theorem D_X3_lowered_16 : DecJ mi_X3_lowered 16 (.ifCond .ne 16) (16) 19 32 := ⟨by decide +kernel, rfl, by decide⟩
theorem D_X3_lowered_19 : Dec mi_X3_lowered 19 (.aload_n 0) 1 20 := ⟨by decide +kernel, rfl⟩
theorem D_X3_lowered_20 : Dec mi_X3_lowered 20 (.getfield 22) 3 23 := ⟨by decide +kernel, rfl⟩
theorem D_X3_lowered_23 : Dec mi_X3_lowered 23 (.iload_n 2) 1 24 := ⟨by decide +kernel, rfl⟩
theorem D_X3_lowered_24 : Dec mi_X3_lowered 24 (.irem) 1 25 := ⟨by decide +kernel, rfl⟩
theorem D_X3_lowered_25 : DecJ mi_X3_lowered 25 (.ifCond .ne 7) (7) 28 32 := ⟨by decide +kernel, rfl, by decide⟩
theorem D_X3_lowered_28 : Dec mi_X3_lowered 28 (.iload_n 1) 1 29 := ⟨by decide +kernel, rfl⟩
theorem D_X3_lowered_29 : Dec mi_X3_lowered 29 (.iload_n 2) 1 30 := ⟨by decide +kernel, rfl⟩
theorem D_X3_lowered_30 : Dec mi_X3_lowered 30 (.idiv) 1 31 := ⟨by decide +kernel, rfl⟩
theorem D_X3_lowered_31 : Dec mi_X3_lowered 31 (.ireturn) 1 32 := ⟨by decide +kernel, rfl⟩
theorem D_X3_lowered_32 : Dec mi_X3_lowered 32 (.iinc 2 (-1)) 3 35 := ⟨by decide +kernel, rfl⟩
theorem D_X3_lowered_35 : DecJ mi_X3_lowered 35 (.goto (-30)) (-30) 38 5 := ⟨by decide +kernel, rfl, by decide⟩
theorem D_X3_lowered_38 : Dec mi_X3_lowered 38 (.iload_n 1) 1 39 := ⟨by decide +kernel, rfl⟩
theorem D_X3_lowered_39 : Dec mi_X3_lowered 39 (.ireturn) 1 40 := ⟨by decide +kernel, rfl⟩
def f_X3_lowered_5 (F : Nat) (M : Mem) : Nat → Int32 → Int32 → Option Int32
  | 0, _, _ => none
  | n + 1, y1, y2 => if y2 ≤ (1 : Int32) then (some y1) else (if y2 = 0 then none else if ((M.1 32 2) - (M.1 32 2) / y2 * y2) = 0 then (if y2 = 0 then none else if ((M.1 32 3) - (M.1 32 3) / y2 * y2) = 0 then (if y2 = 0 then none else some (y1 / y2)) else (f_X3_lowered_5 F M n y1 (y2 + (-1 : Int32)))) else (f_X3_lowered_5 F M n y1 (y2 + (-1 : Int32))))
theorem x_X3_lowered_5 {l : Launch} {w : Wd} {κ : Kp} {F : Nat} {M : Mem} {v : Int32} (hq : RQ w (some (.int v), M) κ) : ∀ (n : Nat) (y1 : Int32) (y2 : Int32), f_X3_lowered_5 F M n y1 y2 = some v → RR l w mi_X3_lowered (0) κ 5 [] [some (.ref (wq w 32)), some (.int y1), some (.int y2)] M
  | 0, _, _, h => nomatch h
  | n + 1, y1, y2, h => let_h (show (if y2 ≤ (1 : Int32) then (some y1) else (if y2 = 0 then none else if ((M.1 32 2) - (M.1 32 2) / y2 * y2) = 0 then (if y2 = 0 then none else if ((M.1 32 3) - (M.1 32 3) / y2 * y2) = 0 then (if y2 = 0 then none else some (y1 / y2)) else (f_X3_lowered_5 F M n y1 (y2 + (-1 : Int32)))) else (f_X3_lowered_5 F M n y1 (y2 + (-1 : Int32))))) = some v from h) fun h => r_iload_n D_X3_lowered_5 rfl <| r_iconst D_X3_lowered_6 ki_1 <| r_icmp_le D_X3_lowered_7 (fun c1 => let_h (ifT c1 h) fun h => r_iload_n D_X3_lowered_38 rfl <| r_iret hq D_X3_lowered_39 rfl (rtP h)) (fun c1 => let_h (ifF c1 h) fun h => r_aload_n D_X3_lowered_10 rfl <| r_getI D_X3_lowered_11 fl_X3_19 s_32 rfl <| r_iload_n D_X3_lowered_14 rfl <| (nzE h).elim fun c6 h => r_irem D_X3_lowered_15 c6 <| r_if_ne D_X3_lowered_16 (fun c2 => let_h (ifT c2 h) fun h => r_aload_n D_X3_lowered_19 rfl <| r_getI D_X3_lowered_20 fl_X3_22 s_32 rfl <| r_iload_n D_X3_lowered_23 rfl <| (nzE h).elim fun c5 h => r_irem D_X3_lowered_24 c5 <| r_if_ne D_X3_lowered_25 (fun c3 => let_h (ifT c3 h) fun h => r_iload_n D_X3_lowered_28 rfl <| r_iload_n D_X3_lowered_29 rfl <| (nzE h).elim fun c4 h => r_idiv D_X3_lowered_30 c4 <| r_iret hq D_X3_lowered_31 rfl (rtP h)) (fun c3 => let_h (ifF c3 h) fun h => r_iinc D_X3_lowered_32 rfl ki_m1 (by decide) rfl <| r_goto D_X3_lowered_35 <| r_ls (x_X3_lowered_5 hq n y1 (y2 + (-1 : Int32)) h) ⟨rfl, ⟨rfl, ⟨rfl, trivial⟩⟩⟩)) (fun c2 => let_h (ifF c2 h) fun h => r_iinc D_X3_lowered_32 rfl ki_m1 (by decide) rfl <| r_goto D_X3_lowered_35 <| r_ls (x_X3_lowered_5 hq n y1 (y2 + (-1 : Int32)) h) ⟨rfl, ⟨rfl, ⟨rfl, trivial⟩⟩⟩))
def f_X3_lowered (F : Nat) (M : Mem) (a1 : Int32) : Option Int32 := f_X3_lowered_5 F M F a1 (M.1 32 2)
theorem x_X3_lowered {l : Launch} {w : Wd} {F : Nat} {M : Mem} {a1 : Int32} {v : Int32} (h : f_X3_lowered F M a1 = some v) : Cn l w mi_X3_lowered yX3_lowered (0) [.ref (wq w 32), .int a1] M (some (.int v), M) :=
  Cn_of (loc0 := [some (.ref (wq w 32)), some (.int a1), none]) rfl rfl rfl (Nat.le_of_ble_eq_true rfl) fun κ hq => let_h (show (f_X3_lowered_5 F M F a1 (M.1 32 2)) = some v from h) fun h => r_aload_n D_X3_lowered_0 rfl <| r_getI D_X3_lowered_1 fl_X3_19 s_32 rfl <| r_istore_n D_X3_lowered_4 (by decide) rfl <| r_ls (x_X3_lowered_5 hq F a1 (M.1 32 2) h) ⟨rfl, ⟨rfl, ⟨rfl, trivial⟩⟩⟩
-- X3_wasteUpper
theorem D_X3_wasteUpper_0 : Dec mi_X3_wasteUpper 0 (.aload_n 0) 1 1 := ⟨by decide +kernel, rfl⟩
theorem D_X3_wasteUpper_1 : Dec mi_X3_wasteUpper 1 (.aload_n 0) 1 2 := ⟨by decide +kernel, rfl⟩
theorem D_X3_wasteUpper_2 : Dec mi_X3_wasteUpper 2 (.getfield 19) 3 5 := ⟨by decide +kernel, rfl⟩
theorem D_X3_wasteUpper_5 : Dec mi_X3_wasteUpper 5 (.aload_n 0) 1 6 := ⟨by decide +kernel, rfl⟩
theorem D_X3_wasteUpper_6 : Dec mi_X3_wasteUpper 6 (.getfield 22) 3 9 := ⟨by decide +kernel, rfl⟩
theorem D_X3_wasteUpper_9 : Dec mi_X3_wasteUpper 9 (.isub) 1 10 := ⟨by decide +kernel, rfl⟩
theorem D_X3_wasteUpper_10 : Dec mi_X3_wasteUpper 10 (.invokevirtual 25) 3 13 := ⟨by decide +kernel, rfl⟩
theorem D_X3_wasteUpper_13 : Dec mi_X3_wasteUpper 13 (.ireturn) 1 14 := ⟨by decide +kernel, rfl⟩
def f_X3_wasteUpper (F : Nat) (M : Mem) : Option Int32 := (f_X3_lowered F M ((M.1 32 2) - (M.1 32 3))).bind fun x1 => some x1
theorem x_X3_wasteUpper {l : Launch} {w : Wd} {F : Nat} {M : Mem} {v : Int32} (h : f_X3_wasteUpper F M = some v) : Cn l w mi_X3_wasteUpper yX3_wasteUpper (1) [.ref (wq w 32)] M (some (.int v), M) :=
  Cn_of (loc0 := [some (.ref (wq w 32))]) rfl rfl rfl (Nat.le_of_ble_eq_true rfl) fun κ hq => let_h (show ((f_X3_lowered F M ((M.1 32 2) - (M.1 32 3))).bind fun x1 => some x1) = some v from h) fun h => r_aload_n D_X3_wasteUpper_0 rfl <| r_aload_n D_X3_wasteUpper_1 rfl <| r_getI D_X3_wasteUpper_2 fl_X3_19 s_32 rfl <| r_aload_n D_X3_wasteUpper_5 rfl <| r_getI D_X3_wasteUpper_6 fl_X3_22 s_32 rfl <| r_isub D_X3_wasteUpper_9 <| (bdE h).elim fun x1 q2 => let_h q2.2 fun h => r_callV (av := [.int ((M.1 32 2) - (M.1 32 3))]) D_X3_wasteUpper_10 ml_X3_25 mf_X3_lowered mv_X3_lowered s_32 rfl rfl (x_X3_lowered q2.1) (Nat.le_of_ble_eq_true rfl) rfl rfl (Nat.le_of_ble_eq_true rfl) <| r_iret hq D_X3_wasteUpper_13 rfl (rtP h)
-- X3_wasteLower
theorem D_X3_wasteLower_0 : Dec mi_X3_wasteLower 0 (.aload_n 0) 1 1 := ⟨by decide +kernel, rfl⟩
theorem D_X3_wasteLower_1 : Dec mi_X3_wasteLower 1 (.aload_n 0) 1 2 := ⟨by decide +kernel, rfl⟩
theorem D_X3_wasteLower_2 : Dec mi_X3_wasteLower 2 (.getfield 19) 3 5 := ⟨by decide +kernel, rfl⟩
theorem D_X3_wasteLower_5 : Dec mi_X3_wasteLower 5 (.invokevirtual 25) 3 8 := ⟨by decide +kernel, rfl⟩
theorem D_X3_wasteLower_8 : Dec mi_X3_wasteLower 8 (.iconst 1) 1 9 := ⟨by decide +kernel, rfl⟩
theorem D_X3_wasteLower_9 : Dec mi_X3_wasteLower 9 (.invokestatic 29) 3 12 := ⟨by decide +kernel, rfl⟩
theorem D_X3_wasteLower_12 : Dec mi_X3_wasteLower 12 (.ireturn) 1 13 := ⟨by decide +kernel, rfl⟩
def f_X3_wasteLower (F : Nat) (M : Mem) : Option Int32 := (f_X3_lowered F M (M.1 32 2)).bind fun x1 => some (imax x1 (1 : Int32))
theorem x_X3_wasteLower {l : Launch} {w : Wd} {F : Nat} {M : Mem} {v : Int32} (h : f_X3_wasteLower F M = some v) : Cn l w mi_X3_wasteLower yX3_wasteLower (1) [.ref (wq w 32)] M (some (.int v), M) :=
  Cn_of (loc0 := [some (.ref (wq w 32))]) rfl rfl rfl (Nat.le_of_ble_eq_true rfl) fun κ hq => let_h (show ((f_X3_lowered F M (M.1 32 2)).bind fun x1 => some (imax x1 (1 : Int32))) = some v from h) fun h => r_aload_n D_X3_wasteLower_0 rfl <| r_aload_n D_X3_wasteLower_1 rfl <| r_getI D_X3_wasteLower_2 fl_X3_19 s_32 rfl <| (bdE h).elim fun x1 q2 => let_h q2.2 fun h => r_callV (av := [.int (M.1 32 2)]) D_X3_wasteLower_5 ml_X3_25 mf_X3_lowered mv_X3_lowered s_32 rfl rfl (x_X3_lowered q2.1) (Nat.le_of_ble_eq_true rfl) rfl rfl (Nat.le_of_ble_eq_true rfl) <| r_iconst D_X3_wasteLower_8 ki_1 <| r_max D_X3_wasteLower_9 mn_X3_29 (Nat.le_of_ble_eq_true rfl) (Nat.le_of_ble_eq_true rfl) <| r_iret hq D_X3_wasteLower_12 rfl (rtP h)
-- X5_topOn
theorem D_X5_topOn_0 : Dec mi_X5_topOn 0 (.aload_n 0) 1 1 := ⟨by decide +kernel, rfl⟩
theorem D_X5_topOn_1 : Dec mi_X5_topOn 1 (.iload_n 1) 1 2 := ⟨by decide +kernel, rfl⟩
theorem D_X5_topOn_2 : Dec mi_X5_topOn 2 (.invokevirtual 52) 3 5 := ⟨by decide +kernel, rfl⟩
theorem D_X5_topOn_5 : DecJ mi_X5_topOn 5 (.ifCond .eq 15) (15) 8 20 := ⟨by decide +kernel, rfl, by decide⟩
theorem D_X5_topOn_8 : Dec mi_X5_topOn 8 (.aload_n 0) 1 9 := ⟨by decide +kernel, rfl⟩
theorem D_X5_topOn_9 : Dec mi_X5_topOn 9 (.getfield 18) 3 12 := ⟨by decide +kernel, rfl⟩
theorem D_X5_topOn_12 : Dec mi_X5_topOn 12 (.iload_n 1) 1 13 := ⟨by decide +kernel, rfl⟩
theorem D_X5_topOn_13 : Dec mi_X5_topOn 13 (.iaload) 1 14 := ⟨by decide +kernel, rfl⟩
theorem D_X5_topOn_14 : Dec mi_X5_topOn 14 (.bipush 6) 2 16 := ⟨by decide +kernel, rfl⟩
theorem D_X5_topOn_16 : Dec mi_X5_topOn 16 (.idiv) 1 17 := ⟨by decide +kernel, rfl⟩
theorem D_X5_topOn_17 : DecJ mi_X5_topOn 17 (.goto 5) (5) 20 22 := ⟨by decide +kernel, rfl, by decide⟩
theorem D_X5_topOn_20 : Dec mi_X5_topOn 20 (.bipush (-9)) 2 22 := ⟨by decide +kernel, rfl⟩
theorem D_X5_topOn_22 : Dec mi_X5_topOn 22 (.ireturn) 1 23 := ⟨by decide +kernel, rfl⟩
def f_X5_topOn (M : Mem) (a1 : Int32) : Option Int32 := if (f_X5_isDay M a1) = 0 then (some (-9 : Int32)) else (if ck a1 8 = true then (some ((M.1 20 a1.toNatClampNeg) / (6 : Int32))) else none)
theorem x_X5_topOn {l : Launch} {w : Wd} {M : Mem} {a1 : Int32} {v : Int32} (h : f_X5_topOn M a1 = some v) : Cn l w mi_X5_topOn yX5_topOn (1) [.ref (wq w 17), .int a1] M (some (.int v), M) :=
  Cn_of (loc0 := [some (.ref (wq w 17)), some (.int a1)]) rfl rfl rfl (Nat.le_of_ble_eq_true rfl) fun κ hq => let_h (show (if (f_X5_isDay M a1) = 0 then (some (-9 : Int32)) else (if ck a1 8 = true then (some ((M.1 20 a1.toNatClampNeg) / (6 : Int32))) else none)) = some v from h) fun h => r_aload_n D_X5_topOn_0 rfl <| r_iload_n D_X5_topOn_1 rfl <| r_callV (av := [.int a1]) D_X5_topOn_2 ml_X5_52 mf_X5_isDay mv_X5_isDay s_17 rfl rfl (x_X5_isDay rfl) (Nat.le_of_ble_eq_true rfl) rfl rfl (Nat.le_of_ble_eq_true rfl) <| r_if_eq D_X5_topOn_5 (fun c1 => let_h (ifT c1 h) fun h => r_bipush D_X5_topOn_20 k8_m9 <| r_iret hq D_X5_topOn_22 rfl (rtP h)) (fun c1 => let_h (ifF c1 h) fun h => r_aload_n D_X5_topOn_8 rfl <| r_getR (j := 20) D_X5_topOn_9 fl_X5_18 s_17 rfl <| r_iload_n D_X5_topOn_12 rfl <| (ckE h).elim fun c2 h => r_iald D_X5_topOn_13 s_20 c2 <| r_bipush D_X5_topOn_14 k8_6 <| r_idiv D_X5_topOn_16 (by decide) <| r_goto D_X5_topOn_17 <| r_iret hq D_X5_topOn_22 rfl (rtP h))
