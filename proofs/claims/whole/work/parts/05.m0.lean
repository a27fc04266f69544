-- J7_fill_53178
theorem D_J7_fill_53178_0 : Dec mi_J7_fill_53178 0 (.iconst 0) 1 1 := ⟨by decide +kernel, rfl⟩
theorem D_J7_fill_53178_1 : Dec mi_J7_fill_53178 1 (.istore_n 2) 1 2 := ⟨by decide +kernel, rfl⟩
theorem D_J7_fill_53178_2 : Dec mi_J7_fill_53178 2 (.aload_n 0) 1 3 := ⟨by decide +kernel, rfl⟩
theorem D_J7_fill_53178_3 : Dec mi_J7_fill_53178 3 (.arraylength) 1 4 := ⟨by decide +kernel, rfl⟩
theorem D_J7_fill_53178_4 : Dec mi_J7_fill_53178 4 (.istore_n 3) 1 5 := ⟨by decide +kernel, rfl⟩
theorem D_J7_fill_53178_5 : Dec mi_J7_fill_53178 5 (.iload_n 2) 1 6 := ⟨by decide +kernel, rfl⟩
theorem D_J7_fill_53178_6 : Dec mi_J7_fill_53178 6 (.iload_n 3) 1 7 := ⟨by decide +kernel, rfl⟩
theorem D_J7_fill_53178_7 : DecJ mi_J7_fill_53178 7 (.if_icmp .ge 13) (13) 10 20 := ⟨by decide +kernel, rfl, by decide⟩
theorem D_J7_fill_53178_10 : Dec mi_J7_fill_53178 10 (.aload_n 0) 1 11 := ⟨by decide +kernel, rfl⟩
theorem D_J7_fill_53178_11 : Dec mi_J7_fill_53178 11 (.iload_n 2) 1 12 := ⟨by decide +kernel, rfl⟩
theorem D_J7_fill_53178_12 : Dec mi_J7_fill_53178 12 (.iload_n 1) 1 13 := ⟨by decide +kernel, rfl⟩
theorem D_J7_fill_53178_13 : Dec mi_J7_fill_53178 13 (.iastore) 1 14 := ⟨by decide +kernel, rfl⟩
theorem D_J7_fill_53178_14 : Dec mi_J7_fill_53178 14 (.iinc 2 1) 3 17 := ⟨by decide +kernel, rfl⟩
theorem D_J7_fill_53178_17 : DecJ mi_J7_fill_53178 17 (.goto (-12)) (-12) 20 5 := ⟨by decide +kernel, rfl, by decide⟩
theorem D_J7_fill_53178_20 : Dec mi_J7_fill_53178 20 (.return_) 1 21 := ⟨by decide +kernel, rfl⟩
def f_J7_fill_53178_5 (F : Nat) (o1 : Nat) (len : Nat) : Nat → Int32 → Int32 → Int32 → Mem → Option Mem
  | 0, _, _, _, _ => none
  | n + 1, y1, y2, y3, N => if y3 ≤ y2 then (some N) else (if ck y2 len = true then (vlet (setI N o1 y2.toNatClampNeg y1) fun M3 => f_J7_fill_53178_5 F o1 len n y1 (y2 + (1 : Int32)) y3 M3) else none)
theorem x_J7_fill_53178_5 {l : Launch} {w : Wd} {κ : Kp} {F : Nat} {o1 : Nat} {len : Nat} {v : Mem} (hq : RQ w (none, v) κ) (ho1 : shL[o1]? = some (.inl (0, len))) : ∀ (n : Nat) (y1 : Int32) (y2 : Int32) (y3 : Int32) (N : Mem), f_J7_fill_53178_5 F o1 len n y1 y2 y3 N = some v → RR l w mi_J7_fill_53178 (0) κ 5 [] [some (.ref (wq w o1)), some (.int y1), some (.int y2), some (.int y3)] N
  | 0, _, _, _, _, h => nomatch h
  | n + 1, y1, y2, y3, N, h => let_h (show (if y3 ≤ y2 then (some N) else (if ck y2 len = true then (vlet (setI N o1 y2.toNatClampNeg y1) fun M3 => f_J7_fill_53178_5 F o1 len n y1 (y2 + (1 : Int32)) y3 M3) else none)) = some v from h) fun h => r_iload_n D_J7_fill_53178_5 rfl <| r_iload_n D_J7_fill_53178_6 rfl <| r_icmp_ge D_J7_fill_53178_7 (fun c1 => let_h (ifT c1 h) fun h => r_vret hq D_J7_fill_53178_20 rfl (rtV h)) (fun c1 => let_h (ifF c1 h) fun h => r_aload_n D_J7_fill_53178_10 rfl <| r_iload_n D_J7_fill_53178_11 rfl <| r_iload_n D_J7_fill_53178_12 rfl <| (ckE h).elim fun c2 h => r_iast D_J7_fill_53178_13 ho1 c2 <| mlE h fun M3 h => r_iinc D_J7_fill_53178_14 rfl ki_1 (by decide) rfl <| r_goto D_J7_fill_53178_17 <| r_ls (x_J7_fill_53178_5 hq ho1 n y1 (y2 + (1 : Int32)) y3 M3 h) ⟨rfl, ⟨rfl, ⟨rfl, ⟨rfl, trivial⟩⟩⟩⟩)
def f_J7_fill_53178 (F : Nat) (M : Mem) (o1 : Nat) (len : Nat) (a2 : Int32) : Option Mem := f_J7_fill_53178_5 F o1 len F a2 (0 : Int32) (Int32.ofNat len) M
theorem x_J7_fill_53178 {l : Launch} {w : Wd} {F : Nat} {M : Mem} {o1 : Nat} {len : Nat} {a2 : Int32} {v : Mem} (ho1 : shL[o1]? = some (.inl (0, len))) (h : f_J7_fill_53178 F M o1 len a2 = some v) : Cn l w mi_J7_fill_53178 yJ7_fill_53178 (0) [.ref (wq w o1), .int a2] M (none, v) :=
  Cn_of (loc0 := [some (.ref (wq w o1)), some (.int a2), none, none]) rfl rfl rfl (Nat.le_of_ble_eq_true rfl) fun κ hq => let_h (show (f_J7_fill_53178_5 F o1 len F a2 (0 : Int32) (Int32.ofNat len) M) = some v from h) fun h => r_iconst D_J7_fill_53178_0 ki_0 <| r_istore_n D_J7_fill_53178_1 (by decide) rfl <| r_aload_n D_J7_fill_53178_2 rfl <| r_alenI D_J7_fill_53178_3 ho1 (by decide) rfl <| r_istore_n D_J7_fill_53178_4 (by decide) rfl <| r_ls (x_J7_fill_53178_5 hq ho1 F a2 (0 : Int32) (Int32.ofNat len) M h) ⟨rfl, ⟨rfl, ⟨rfl, ⟨rfl, trivial⟩⟩⟩⟩
-- X0_forget
theorem D_X0_forget_0 : Dec mi_X0_forget 0 (.aload_n 0) 1 1 := ⟨by decide +kernel, rfl⟩
theorem D_X0_forget_1 : Dec mi_X0_forget 1 (.getfield 9) 3 4 := ⟨by decide +kernel, rfl⟩
theorem D_X0_forget_4 : Dec mi_X0_forget 4 (.iconst (-1)) 1 5 := ⟨by decide +kernel, rfl⟩
theorem D_X0_forget_5 : Dec mi_X0_forget 5 (.invokestatic 23) 3 8 := ⟨by decide +kernel, rfl⟩
theorem D_X0_forget_8 : Dec mi_X0_forget 8 (.return_) 1 9 := ⟨by decide +kernel, rfl⟩
def f_X0_forget (F : Nat) (M : Mem) : Option Mem := (f_J7_fill_53178 F M 26 64 (-1 : Int32)).bind fun p1 => some p1
theorem x_X0_forget {l : Launch} {w : Wd} {F : Nat} {M : Mem} {v : Mem} (h : f_X0_forget F M = some v) : Cn l w mi_X0_forget yX0_forget (1) [.ref (wq w 25)] M (none, v) :=
  Cn_of (loc0 := [some (.ref (wq w 25))]) rfl rfl rfl (Nat.le_of_ble_eq_true rfl) fun κ hq => let_h (show ((f_J7_fill_53178 F M 26 64 (-1 : Int32)).bind fun p1 => some p1) = some v from h) fun h => r_aload_n D_X0_forget_0 rfl <| r_getR (j := 26) D_X0_forget_1 fl_X0_9 s_25 rfl <| r_iconst D_X0_forget_4 ki_m1 <| (bdE h).elim fun p1 q2 => let_h q2.2 fun h => r_callS (av := [.ref (wq w 26), .int (-1 : Int32)]) D_X0_forget_5 ml_X0_23 mf_J7_fill_53178 ms_J7_fill_53178 (x_J7_fill_53178 s_26 q2.1) (Nat.le_of_ble_eq_true rfl) rfl rfl (Nat.le_of_ble_eq_true rfl) <| r_vret hq D_X0_forget_8 rfl (rtV h)
-- X8_days
theorem D_X8_days_0 : Dec mi_X8_days 0 (.aload_n 0) 1 1 := ⟨by decide +kernel, rfl⟩
theorem D_X8_days_1 : Dec mi_X8_days 1 (.getfield 31) 3 4 := ⟨by decide +kernel, rfl⟩
theorem D_X8_days_4 : Dec mi_X8_days 4 (.ireturn) 1 5 := ⟨by decide +kernel, rfl⟩
def f_X8_days (M : Mem) (o : Nat) : Int32 := (M.1 o 4)
theorem x_X8_days {l : Launch} {w : Wd} {M : Mem} {o : Nat} {v : Int32} (ho : isTrip o) (h : f_X8_days M o = v) : Cn l w mi_X8_days yX8_days (0) [.ref (wq w o)] M (some (.int v), M) :=
  Cn_of (loc0 := [some (.ref (wq w o))]) rfl rfl rfl (Nat.le_of_ble_eq_true rfl) fun κ hq => let_h (show ((M.1 o 4)) = v from h) fun h => r_aload_n D_X8_days_0 rfl <| r_getI D_X8_days_1 fl_X8_31 ho.1 rfl <| r_iret hq D_X8_days_4 rfl (rtT h)
-- X8_hasDay
theorem D_X8_hasDay_0 : Dec mi_X8_hasDay 0 (.iload_n 1) 1 1 := ⟨by decide +kernel, rfl⟩
theorem D_X8_hasDay_1 : DecJ mi_X8_hasDay 1 (.ifCond .lt 21) (21) 4 22 := ⟨by decide +kernel, rfl, by decide⟩
theorem D_X8_hasDay_4 : Dec mi_X8_hasDay 4 (.iload_n 1) 1 5 := ⟨by decide +kernel, rfl⟩
theorem D_X8_hasDay_5 : Dec mi_X8_hasDay 5 (.aload_n 0) 1 6 := ⟨by decide +kernel, rfl⟩
theorem D_X8_hasDay_6 : Dec mi_X8_hasDay 6 (.getfield 31) 3 9 := ⟨by decide +kernel, rfl⟩
theorem D_X8_hasDay_9 : DecJ mi_X8_hasDay 9 (.if_icmp .ge 13) (13) 12 22 := ⟨by decide +kernel, rfl, by decide⟩
theorem D_X8_hasDay_12 : Dec mi_X8_hasDay 12 (.iload_n 1) 1 13 := ⟨by decide +kernel, rfl⟩
theorem D_X8_hasDay_13 : Dec mi_X8_hasDay 13 (.bipush 8) 2 15 := ⟨by decide +kernel, rfl⟩
theorem D_X8_hasDay_15 : DecJ mi_X8_hasDay 15 (.if_icmp .ge 7) (7) 18 22 := ⟨by decide +kernel, rfl, by decide⟩
theorem D_X8_hasDay_18 : Dec mi_X8_hasDay 18 (.iconst 1) 1 19 := ⟨by decide +kernel, rfl⟩
theorem D_X8_hasDay_19 : DecJ mi_X8_hasDay 19 (.goto 4) (4) 22 23 := ⟨by decide +kernel, rfl, by decide⟩
theorem D_X8_hasDay_22 : Dec mi_X8_hasDay 22 (.iconst 0) 1 23 := ⟨by decide +kernel, rfl⟩
theorem D_X8_hasDay_23 : Dec mi_X8_hasDay 23 (.ireturn) 1 24 := ⟨by decide +kernel, rfl⟩
def f_X8_hasDay (M : Mem) (o : Nat) (a1 : Int32) : Int32 := if a1 < 0 then ((0 : Int32)) else (if (M.1 o 4) ≤ a1 then ((0 : Int32)) else (if (8 : Int32) ≤ a1 then ((0 : Int32)) else ((1 : Int32))))
theorem x_X8_hasDay {l : Launch} {w : Wd} {M : Mem} {o : Nat} {a1 : Int32} {v : Int32} (ho : isTrip o) (h : f_X8_hasDay M o a1 = v) : Cn l w mi_X8_hasDay yX8_hasDay (0) [.ref (wq w o), .int a1] M (some (.int v), M) :=
  Cn_of (loc0 := [some (.ref (wq w o)), some (.int a1)]) rfl rfl rfl (Nat.le_of_ble_eq_true rfl) fun κ hq => let_h (show (if a1 < 0 then ((0 : Int32)) else (if (M.1 o 4) ≤ a1 then ((0 : Int32)) else (if (8 : Int32) ≤ a1 then ((0 : Int32)) else ((1 : Int32))))) = v from h) fun h => r_iload_n D_X8_hasDay_0 rfl <| r_if_lt D_X8_hasDay_1 (fun c1 => let_h (ifT c1 h) fun h => r_iconst D_X8_hasDay_22 ki_0 <| r_zret hq D_X8_hasDay_23 rfl rfl (rtT h)) (fun c1 => let_h (ifF c1 h) fun h => r_iload_n D_X8_hasDay_4 rfl <| r_aload_n D_X8_hasDay_5 rfl <| r_getI D_X8_hasDay_6 fl_X8_31 ho.1 rfl <| r_icmp_ge D_X8_hasDay_9 (fun c2 => let_h (ifT c2 h) fun h => r_iconst D_X8_hasDay_22 ki_0 <| r_zret hq D_X8_hasDay_23 rfl rfl (rtT h)) (fun c2 => let_h (ifF c2 h) fun h => r_iload_n D_X8_hasDay_12 rfl <| r_bipush D_X8_hasDay_13 k8_8 <| r_icmp_ge D_X8_hasDay_15 (fun c3 => let_h (ifT c3 h) fun h => r_iconst D_X8_hasDay_22 ki_0 <| r_zret hq D_X8_hasDay_23 rfl rfl (rtT h)) (fun c3 => let_h (ifF c3 h) fun h => r_iconst D_X8_hasDay_18 ki_1 <| r_goto D_X8_hasDay_19 <| r_zret hq D_X8_hasDay_23 rfl rfl (rtT h))))
-- X8_want
theorem D_X8_want_0 : Dec mi_X8_want 0 (.aload_n 0) 1 1 := ⟨by decide +kernel, rfl⟩
theorem D_X8_want_1 : Dec mi_X8_want 1 (.iload_n 1) 1 2 := ⟨by decide +kernel, rfl⟩
theorem D_X8_want_2 : Dec mi_X8_want 2 (.invokevirtual 72) 3 5 := ⟨by decide +kernel, rfl⟩
theorem D_X8_want_5 : DecJ mi_X8_want 5 (.ifCond .eq 25) (25) 8 30 := ⟨by decide +kernel, rfl, by decide⟩
theorem D_X8_want_8 : Dec mi_X8_want 8 (.iload_n 2) 1 9 := ⟨by decide +kernel, rfl⟩
theorem D_X8_want_9 : DecJ mi_X8_want 9 (.ifCond .lt 21) (21) 12 30 := ⟨by decide +kernel, rfl, by decide⟩
theorem D_X8_want_12 : Dec mi_X8_want 12 (.iload_n 2) 1 13 := ⟨by decide +kernel, rfl⟩
theorem D_X8_want_13 : Dec mi_X8_want 13 (.iconst 4) 1 14 := ⟨by decide +kernel, rfl⟩
theorem D_X8_want_14 : DecJ mi_X8_want 14 (.if_icmp .ge 16) (16) 17 30 := ⟨by decide +kernel, rfl, by decide⟩
theorem D_X8_want_17 : Dec mi_X8_want 17 (.aload_n 0) 1 18 := ⟨by decide +kernel, rfl⟩
theorem D_X8_want_18 : Dec mi_X8_want 18 (.getfield 15) 3 21 := ⟨by decide +kernel, rfl⟩
theorem D_X8_want_21 : Dec mi_X8_want 21 (.iload_n 1) 1 22 := ⟨by decide +kernel, rfl⟩
theorem D_X8_want_22 : Dec mi_X8_want 22 (.iconst 4) 1 23 := ⟨by decide +kernel, rfl⟩
theorem D_X8_want_23 : Dec mi_X8_want 23 (.imul) 1 24 := ⟨by decide +kernel, rfl⟩
theorem D_X8_want_24 : Dec mi_X8_want 24 (.iload_n 2) 1 25 := ⟨by decide +kernel, rfl⟩
theorem D_X8_want_25 : Dec mi_X8_want 25 (.iadd) 1 26 := ⟨by decide +kernel, rfl⟩
theorem D_X8_want_26 : Dec mi_X8_want 26 (.iaload) 1 27 := ⟨by decide +kernel, rfl⟩
theorem D_X8_want_27 : DecJ mi_X8_want 27 (.goto 4) (4) 30 31 := ⟨by decide +kernel, rfl, by decide⟩
theorem D_X8_want_30 : Dec mi_X8_want 30 (.iconst 0) 1 31 := ⟨by decide +kernel, rfl⟩
theorem D_X8_want_31 : Dec mi_X8_want 31 (.ireturn) 1 32 := ⟨by decide +kernel, rfl⟩
def f_X8_want (M : Mem) (o : Nat) (a1 : Int32) (a2 : Int32) : Option Int32 := if (f_X8_hasDay M o a1) = 0 then (some (0 : Int32)) else (if a2 < 0 then (some (0 : Int32)) else (if (4 : Int32) ≤ a2 then (some (0 : Int32)) else (if ck ((a1 * (4 : Int32)) + a2) 32 = true then (some (M.1 (o + 2) ((a1 * (4 : Int32)) + a2).toNatClampNeg)) else none)))
theorem x_X8_want {l : Launch} {w : Wd} {M : Mem} {o : Nat} {a1 : Int32} {a2 : Int32} {v : Int32} (ho : isTrip o) (h : f_X8_want M o a1 a2 = some v) : Cn l w mi_X8_want yX8_want (1) [.ref (wq w o), .int a1, .int a2] M (some (.int v), M) :=
  Cn_of (loc0 := [some (.ref (wq w o)), some (.int a1), some (.int a2)]) rfl rfl rfl (Nat.le_of_ble_eq_true rfl) fun κ hq => let_h (show (if (f_X8_hasDay M o a1) = 0 then (some (0 : Int32)) else (if a2 < 0 then (some (0 : Int32)) else (if (4 : Int32) ≤ a2 then (some (0 : Int32)) else (if ck ((a1 * (4 : Int32)) + a2) 32 = true then (some (M.1 (o + 2) ((a1 * (4 : Int32)) + a2).toNatClampNeg)) else none)))) = some v from h) fun h => r_aload_n D_X8_want_0 rfl <| r_iload_n D_X8_want_1 rfl <| r_callV (av := [.int a1]) D_X8_want_2 ml_X8_72 mf_X8_hasDay mv_X8_hasDay ho.1 rfl rfl (x_X8_hasDay ho rfl) (Nat.le_of_ble_eq_true rfl) rfl rfl (Nat.le_of_ble_eq_true rfl) <| r_if_eq D_X8_want_5 (fun c1 => let_h (ifT c1 h) fun h => r_iconst D_X8_want_30 ki_0 <| r_iret hq D_X8_want_31 rfl (rtP h)) (fun c1 => let_h (ifF c1 h) fun h => r_iload_n D_X8_want_8 rfl <| r_if_lt D_X8_want_9 (fun c2 => let_h (ifT c2 h) fun h => r_iconst D_X8_want_30 ki_0 <| r_iret hq D_X8_want_31 rfl (rtP h)) (fun c2 => let_h (ifF c2 h) fun h => r_iload_n D_X8_want_12 rfl <| r_iconst D_X8_want_13 ki_4 <| r_icmp_ge D_X8_want_14 (fun c3 => let_h (ifT c3 h) fun h => r_iconst D_X8_want_30 ki_0 <| r_iret hq D_X8_want_31 rfl (rtP h)) (fun c3 => let_h (ifF c3 h) fun h => r_aload_n D_X8_want_17 rfl <| r_getR (j := (o + 2)) D_X8_want_18 fl_X8_15 ho.1 rfl <| r_iload_n D_X8_want_21 rfl <| r_iconst D_X8_want_22 ki_4 <| r_imul D_X8_want_23 <| r_iload_n D_X8_want_24 rfl <| r_iadd D_X8_want_25 <| (ckE h).elim fun c4 h => r_iald D_X8_want_26 ho.2.2.1 c4 <| r_goto D_X8_want_27 <| r_iret hq D_X8_want_31 rfl (rtP h))))
-- X0_chanceOf
theorem D_X0_chanceOf_0 : Dec mi_X0_chanceOf 0 (.sipush 10000) 3 3 := ⟨by decide +kernel, rfl⟩
theorem D_X0_chanceOf_3 : Dec mi_X0_chanceOf 3 (.istore_n 2) 1 4 := ⟨by decide +kernel, rfl⟩
theorem D_X0_chanceOf_4 : Dec mi_X0_chanceOf 4 (.iconst 0) 1 5 := ⟨by decide +kernel, rfl⟩
theorem D_X0_chanceOf_5 : Dec mi_X0_chanceOf 5 (.istore_n 3) 1 6 := ⟨by decide +kernel, rfl⟩
theorem D_X0_chanceOf_6 : Dec mi_X0_chanceOf 6 (.iload_n 3) 1 7 := ⟨by decide +kernel, rfl⟩
theorem D_X0_chanceOf_7 : Dec mi_X0_chanceOf 7 (.aload_n 0) 1 8 := ⟨by decide +kernel, rfl⟩
theorem D_X0_chanceOf_8 : Dec mi_X0_chanceOf 8 (.getfield 15) 3 11 := ⟨by decide +kernel, rfl⟩
theorem D_X0_chanceOf_11 : Dec mi_X0_chanceOf 11 (.invokevirtual 29) 3 14 := ⟨by decide +kernel, rfl⟩
theorem D_X0_chanceOf_14 : DecJ mi_X0_chanceOf 14 (.if_icmp .ge 48) (48) 17 62 := ⟨by decide +kernel, rfl, by decide⟩
theorem D_X0_chanceOf_17 : Dec mi_X0_chanceOf 17 (.iload_n 2) 1 18 := ⟨by decide +kernel, rfl⟩
theorem D_X0_chanceOf_18 : DecJ mi_X0_chanceOf 18 (.ifCond .le 44) (44) 21 62 := ⟨by decide +kernel, rfl, by decide⟩
theorem D_X0_chanceOf_21 : Dec mi_X0_chanceOf 21 (.aload_n 0) 1 22 := ⟨by decide +kernel, rfl⟩
theorem D_X0_chanceOf_22 : Dec mi_X0_chanceOf 22 (.getfield 15) 3 25 := ⟨by decide +kernel, rfl⟩
theorem D_X0_chanceOf_25 : Dec mi_X0_chanceOf 25 (.iload_n 3) 1 26 := ⟨by decide +kernel, rfl⟩
theorem D_X0_chanceOf_26 : Dec mi_X0_chanceOf 26 (.iconst 3) 1 27 := ⟨by decide +kernel, rfl⟩
theorem D_X0_chanceOf_27 : Dec mi_X0_chanceOf 27 (.invokevirtual 45) 3 30 := ⟨by decide +kernel, rfl⟩
theorem D_X0_chanceOf_30 : Dec mi_X0_chanceOf 30 (.istore 4) 2 32 := ⟨by decide +kernel, rfl⟩
theorem D_X0_chanceOf_32 : Dec mi_X0_chanceOf 32 (.iload_n 2) 1 33 := ⟨by decide +kernel, rfl⟩
theorem D_X0_chanceOf_33 : Dec mi_X0_chanceOf 33 (.iload_n 1) 1 34 := ⟨by decide +kernel, rfl⟩
theorem D_X0_chanceOf_34 : Dec mi_X0_chanceOf 34 (.iload_n 3) 1 35 := ⟨by decide +kernel, rfl⟩
theorem D_X0_chanceOf_35 : Dec mi_X0_chanceOf 35 (.ishr) 1 36 := ⟨by decide +kernel, rfl⟩
theorem D_X0_chanceOf_36 : Dec mi_X0_chanceOf 36 (.iconst 1) 1 37 := ⟨by decide +kernel, rfl⟩
theorem D_X0_chanceOf_37 : Dec mi_X0_chanceOf 37 (.iand) 1 38 := ⟨by decide +kernel, rfl⟩
theorem D_X0_chanceOf_38 : DecJ mi_X0_chanceOf 38 (.ifCond .eq 8) (8) 41 46 := ⟨by decide +kernel, rfl, by decide⟩
theorem D_X0_chanceOf_41 : Dec mi_X0_chanceOf 41 (.iload 4) 2 43 := ⟨by decide +kernel, rfl⟩
theorem D_X0_chanceOf_43 : DecJ mi_X0_chanceOf 43 (.goto 8) (8) 46 51 := ⟨by decide +kernel, rfl, by decide⟩
theorem D_X0_chanceOf_46 : Dec mi_X0_chanceOf 46 (.bipush 10) 2 48 := ⟨by decide +kernel, rfl⟩
theorem D_X0_chanceOf_48 : Dec mi_X0_chanceOf 48 (.iload 4) 2 50 := ⟨by decide +kernel, rfl⟩
theorem D_X0_chanceOf_50 : Dec mi_X0_chanceOf 50 (.isub) 1 51 := ⟨by decide +kernel, rfl⟩
theorem D_X0_chanceOf_51 : Dec mi_X0_chanceOf 51 (.imul) 1 52 := ⟨by decide +kernel, rfl⟩
theorem D_X0_chanceOf_52 : Dec mi_X0_chanceOf 52 (.bipush 10) 2 54 := ⟨by decide +kernel, rfl⟩
theorem D_X0_chanceOf_54 : Dec mi_X0_chanceOf 54 (.idiv) 1 55 := ⟨by decide +kernel, rfl⟩
theorem D_X0_chanceOf_55 : Dec mi_X0_chanceOf 55 (.istore_n 2) 1 56 := ⟨by decide +kernel, rfl⟩
theorem D_X0_chanceOf_56 : Dec mi_X0_chanceOf 56 (.iinc 3 1) 3 59 := ⟨by decide +kernel, rfl⟩
theorem D_X0_chanceOf_59 : DecJ mi_X0_chanceOf 59 (.goto (-53)) (-53) 62 6 := ⟨by decide +kernel, rfl, by decide⟩
theorem D_X0_chanceOf_62 : Dec mi_X0_chanceOf 62 (.iload_n 2) 1 63 := ⟨by decide +kernel, rfl⟩
theorem D_X0_chanceOf_63 : Dec mi_X0_chanceOf 63 (.ireturn) 1 64 := ⟨by decide +kernel, rfl⟩
def f_X0_chanceOf_6 (F : Nat) (M : Mem) : Nat → Int32 → Int32 → Int32 → Option Int32
  | 0, _, _, _ => none
  | n + 1, y1, y2, y3 => if (f_X8_days M 3) ≤ y3 then (some y2) else (if y2 ≤ 0 then (some y2) else ((f_X8_want M 3 y3 (3 : Int32)).bind fun x3 => if ((y1 >>> (y3 &&& 31)) &&& (1 : Int32)) = 0 then (vlet ((y2 * ((10 : Int32) - x3)) / (10 : Int32)) fun x6 => f_X0_chanceOf_6 F M n y1 x6 (y3 + (1 : Int32))) else (f_X0_chanceOf_6 F M n y1 ((y2 * x3) / (10 : Int32)) (y3 + (1 : Int32)))))
theorem x_X0_chanceOf_6 {l : Launch} {w : Wd} {κ : Kp} {F : Nat} {M : Mem} {v : Int32} (hq : RQ w (some (.int v), M) κ) : ∀ (n : Nat) (y1 : Int32) (y2 : Int32) (y3 : Int32), f_X0_chanceOf_6 F M n y1 y2 y3 = some v → RR l w mi_X0_chanceOf (2) κ 6 [] [some (.ref (wq w 25)), some (.int y1), some (.int y2), some (.int y3), none] M
  | 0, _, _, _, h => nomatch h
  | n + 1, y1, y2, y3, h => let_h (show (if (f_X8_days M 3) ≤ y3 then (some y2) else (if y2 ≤ 0 then (some y2) else ((f_X8_want M 3 y3 (3 : Int32)).bind fun x3 => if ((y1 >>> (y3 &&& 31)) &&& (1 : Int32)) = 0 then (vlet ((y2 * ((10 : Int32) - x3)) / (10 : Int32)) fun x6 => f_X0_chanceOf_6 F M n y1 x6 (y3 + (1 : Int32))) else (f_X0_chanceOf_6 F M n y1 ((y2 * x3) / (10 : Int32)) (y3 + (1 : Int32)))))) = some v from h) fun h => r_iload_n D_X0_chanceOf_6 rfl <| r_aload_n D_X0_chanceOf_7 rfl <| r_getR (j := 3) D_X0_chanceOf_8 fl_X0_15 s_25 rfl <| r_callV (av := []) D_X0_chanceOf_11 ml_X0_29 mf_X8_days mv_X8_days s_3 rfl rfl (x_X8_days trip_3 rfl) (Nat.le_of_ble_eq_true rfl) rfl rfl (Nat.le_of_ble_eq_true rfl) <| r_icmp_ge D_X0_chanceOf_14 (fun c1 => let_h (ifT c1 h) fun h => r_iload_n D_X0_chanceOf_62 rfl <| r_iret hq D_X0_chanceOf_63 rfl (rtP h)) (fun c1 => let_h (ifF c1 h) fun h => r_iload_n D_X0_chanceOf_17 rfl <| r_if_le D_X0_chanceOf_18 (fun c2 => let_h (ifT c2 h) fun h => r_iload_n D_X0_chanceOf_62 rfl <| r_iret hq D_X0_chanceOf_63 rfl (rtP h)) (fun c2 => let_h (ifF c2 h) fun h => r_aload_n D_X0_chanceOf_21 rfl <| r_getR (j := 3) D_X0_chanceOf_22 fl_X0_15 s_25 rfl <| r_iload_n D_X0_chanceOf_25 rfl <| r_iconst D_X0_chanceOf_26 ki_3 <| (bdE h).elim fun x3 q4 => let_h q4.2 fun h => r_callV (av := [.int y3, .int (3 : Int32)]) D_X0_chanceOf_27 ml_X0_45 mf_X8_want mv_X8_want s_3 rfl rfl (x_X8_want trip_3 q4.1) (Nat.le_of_ble_eq_true rfl) rfl rfl (Nat.le_of_ble_eq_true rfl) <| r_istore D_X0_chanceOf_30 (by decide) rfl <| r_iload_n D_X0_chanceOf_32 rfl <| r_iload_n D_X0_chanceOf_33 rfl <| r_iload_n D_X0_chanceOf_34 rfl <| r_ishr D_X0_chanceOf_35 <| r_iconst D_X0_chanceOf_36 ki_1 <| r_iand D_X0_chanceOf_37 <| r_if_eq D_X0_chanceOf_38 (fun c5 => let_h (ifT c5 h) fun h => r_bipush D_X0_chanceOf_46 k8_10 <| r_iload D_X0_chanceOf_48 rfl <| r_isub D_X0_chanceOf_50 <| r_imul D_X0_chanceOf_51 <| r_bipush D_X0_chanceOf_52 k8_10 <| r_idiv D_X0_chanceOf_54 (by decide) <| vlE (fun x6 => RR l w mi_X0_chanceOf (2) κ 55 [.int x6] [some (.ref (wq w 25)), some (.int y1), some (.int y2), some (.int y3), some (.int x3)] M) h fun x6 h => r_istore_n D_X0_chanceOf_55 (by decide) rfl <| r_iinc D_X0_chanceOf_56 rfl ki_1 (by decide) rfl <| r_goto D_X0_chanceOf_59 <| r_ls (x_X0_chanceOf_6 hq n y1 x6 (y3 + (1 : Int32)) h) ⟨rfl, ⟨rfl, ⟨rfl, ⟨rfl, trivial⟩⟩⟩⟩) (fun c5 => let_h (ifF c5 h) fun h => r_iload D_X0_chanceOf_41 rfl <| r_goto D_X0_chanceOf_43 <| r_imul D_X0_chanceOf_51 <| r_bipush D_X0_chanceOf_52 k8_10 <| r_idiv D_X0_chanceOf_54 (by decide) <| r_istore_n D_X0_chanceOf_55 (by decide) rfl <| r_iinc D_X0_chanceOf_56 rfl ki_1 (by decide) rfl <| r_goto D_X0_chanceOf_59 <| r_ls (x_X0_chanceOf_6 hq n y1 ((y2 * x3) / (10 : Int32)) (y3 + (1 : Int32)) h) ⟨rfl, ⟨rfl, ⟨rfl, ⟨rfl, trivial⟩⟩⟩⟩)))
def f_X0_chanceOf (F : Nat) (M : Mem) (a1 : Int32) : Option Int32 := f_X0_chanceOf_6 F M F a1 (10000 : Int32) (0 : Int32)
theorem x_X0_chanceOf {l : Launch} {w : Wd} {F : Nat} {M : Mem} {a1 : Int32} {v : Int32} (h : f_X0_chanceOf F M a1 = some v) : Cn l w mi_X0_chanceOf yX0_chanceOf (2) [.ref (wq w 25), .int a1] M (some (.int v), M) :=
  Cn_of (loc0 := [some (.ref (wq w 25)), some (.int a1), none, none, none]) rfl rfl rfl (Nat.le_of_ble_eq_true rfl) fun κ hq => let_h (show (f_X0_chanceOf_6 F M F a1 (10000 : Int32) (0 : Int32)) = some v from h) fun h => r_sipush D_X0_chanceOf_0 k16_10000 <| r_istore_n D_X0_chanceOf_3 (by decide) rfl <| r_iconst D_X0_chanceOf_4 ki_0 <| r_istore_n D_X0_chanceOf_5 (by decide) rfl <| r_ls (x_X0_chanceOf_6 hq F a1 (10000 : Int32) (0 : Int32) h) ⟨rfl, ⟨rfl, ⟨rfl, ⟨rfl, trivial⟩⟩⟩⟩
-- X8_coats
theorem D_X8_coats_0 : Dec mi_X8_coats 0 (.aload_n 0) 1 1 := ⟨by decide +kernel, rfl⟩
theorem D_X8_coats_1 : Dec mi_X8_coats 1 (.getfield 43) 3 4 := ⟨by decide +kernel, rfl⟩
theorem D_X8_coats_4 : Dec mi_X8_coats 4 (.ireturn) 1 5 := ⟨by decide +kernel, rfl⟩
def f_X8_coats (M : Mem) (o : Nat) : Int32 := (M.1 o 8)
theorem x_X8_coats {l : Launch} {w : Wd} {M : Mem} {o : Nat} {v : Int32} (ho : isTrip o) (h : f_X8_coats M o = v) : Cn l w mi_X8_coats yX8_coats (0) [.ref (wq w o)] M (some (.int v), M) :=
  Cn_of (loc0 := [some (.ref (wq w o))]) rfl rfl rfl (Nat.le_of_ble_eq_true rfl) fun κ hq => let_h (show ((M.1 o 8)) = v from h) fun h => r_aload_n D_X8_coats_0 rfl <| r_getI D_X8_coats_1 fl_X8_43 ho.1 rfl <| r_iret hq D_X8_coats_4 rfl (rtT h)
-- X8_tops
theorem D_X8_tops_0 : Dec mi_X8_tops 0 (.aload_n 0) 1 1 := ⟨by decide +kernel, rfl⟩
theorem D_X8_tops_1 : Dec mi_X8_tops 1 (.getfield 37) 3 4 := ⟨by decide +kernel, rfl⟩
theorem D_X8_tops_4 : Dec mi_X8_tops 4 (.ireturn) 1 5 := ⟨by decide +kernel, rfl⟩
def f_X8_tops (M : Mem) (o : Nat) : Int32 := (M.1 o 6)
theorem x_X8_tops {l : Launch} {w : Wd} {M : Mem} {o : Nat} {v : Int32} (ho : isTrip o) (h : f_X8_tops M o = v) : Cn l w mi_X8_tops yX8_tops (0) [.ref (wq w o)] M (some (.int v), M) :=
  Cn_of (loc0 := [some (.ref (wq w o))]) rfl rfl rfl (Nat.le_of_ble_eq_true rfl) fun κ hq => let_h (show ((M.1 o 6)) = v from h) fun h => r_aload_n D_X8_tops_0 rfl <| r_getI D_X8_tops_1 fl_X8_37 ho.1 rfl <| r_iret hq D_X8_tops_4 rfl (rtT h)
-- X8_bottoms
theorem D_X8_bottoms_0 : Dec mi_X8_bottoms 0 (.aload_n 0) 1 1 := ⟨by decide +kernel, rfl⟩
theorem D_X8_bottoms_1 : Dec mi_X8_bottoms 1 (.getfield 40) 3 4 := ⟨by decide +kernel, rfl⟩
theorem D_X8_bottoms_4 : Dec mi_X8_bottoms 4 (.ireturn) 1 5 := ⟨by decide +kernel, rfl⟩
def f_X8_bottoms (M : Mem) (o : Nat) : Int32 := (M.1 o 7)
theorem x_X8_bottoms {l : Launch} {w : Wd} {M : Mem} {o : Nat} {v : Int32} (ho : isTrip o) (h : f_X8_bottoms M o = v) : Cn l w mi_X8_bottoms yX8_bottoms (0) [.ref (wq w o)] M (some (.int v), M) :=
  Cn_of (loc0 := [some (.ref (wq w o))]) rfl rfl rfl (Nat.le_of_ble_eq_true rfl) fun κ hq => let_h (show ((M.1 o 7)) = v from h) fun h => r_aload_n D_X8_bottoms_0 rfl <| r_getI D_X8_bottoms_1 fl_X8_40 ho.1 rfl <| r_iret hq D_X8_bottoms_4 rfl (rtT h)
-- X9_has
theorem D_X9_has_0 : Dec mi_X9_has 0 (.iload_n 1) 1 1 := ⟨by decide +kernel, rfl⟩
theorem D_X9_has_1 : DecJ mi_X9_has 1 (.ifCond .lt 21) (21) 4 22 := ⟨by decide +kernel, rfl, by decide⟩
theorem D_X9_has_4 : Dec mi_X9_has 4 (.iload_n 1) 1 5 := ⟨by decide +kernel, rfl⟩
theorem D_X9_has_5 : Dec mi_X9_has 5 (.bipush 6) 2 7 := ⟨by decide +kernel, rfl⟩
theorem D_X9_has_7 : DecJ mi_X9_has 7 (.if_icmp .ge 15) (15) 10 22 := ⟨by decide +kernel, rfl, by decide⟩
theorem D_X9_has_10 : Dec mi_X9_has 10 (.iload_n 0) 1 11 := ⟨by decide +kernel, rfl⟩
theorem D_X9_has_11 : Dec mi_X9_has 11 (.iload_n 1) 1 12 := ⟨by decide +kernel, rfl⟩
theorem D_X9_has_12 : Dec mi_X9_has 12 (.ishr) 1 13 := ⟨by decide +kernel, rfl⟩
theorem D_X9_has_13 : Dec mi_X9_has 13 (.iconst 1) 1 14 := ⟨by decide +kernel, rfl⟩
theorem D_X9_has_14 : Dec mi_X9_has 14 (.iand) 1 15 := ⟨by decide +kernel, rfl⟩
theorem D_X9_has_15 : DecJ mi_X9_has 15 (.ifCond .eq 7) (7) 18 22 := ⟨by decide +kernel, rfl, by decide⟩
theorem D_X9_has_18 : Dec mi_X9_has 18 (.iconst 1) 1 19 := ⟨by decide +kernel, rfl⟩
theorem D_X9_has_19 : DecJ mi_X9_has 19 (.goto 4) (4) 22 23 := ⟨by decide +kernel, rfl, by decide⟩
theorem D_X9_has_22 : Dec mi_X9_has 22 (.iconst 0) 1 23 := ⟨by decide +kernel, rfl⟩
theorem D_X9_has_23 : Dec mi_X9_has 23 (.ireturn) 1 24 := ⟨by decide +kernel, rfl⟩
def f_X9_has (M : Mem) (a1 : Int32) (a2 : Int32) : Int32 := if a2 < 0 then ((0 : Int32)) else (if (6 : Int32) ≤ a2 then ((0 : Int32)) else (if ((a1 >>> (a2 &&& 31)) &&& (1 : Int32)) = 0 then ((0 : Int32)) else ((1 : Int32))))
theorem x_X9_has {l : Launch} {w : Wd} {M : Mem} {a1 : Int32} {a2 : Int32} {v : Int32} (h : f_X9_has M a1 a2 = v) : Cn l w mi_X9_has yX9_has (0) [.int a1, .int a2] M (some (.int v), M) :=
  Cn_of (loc0 := [some (.int a1), some (.int a2)]) rfl rfl rfl (Nat.le_of_ble_eq_true rfl) fun κ hq => let_h (show (if a2 < 0 then ((0 : Int32)) else (if (6 : Int32) ≤ a2 then ((0 : Int32)) else (if ((a1 >>> (a2 &&& 31)) &&& (1 : Int32)) = 0 then ((0 : Int32)) else ((1 : Int32))))) = v from h) fun h => r_iload_n D_X9_has_0 rfl <| r_if_lt D_X9_has_1 (fun c1 => let_h (ifT c1 h) fun h => r_iconst D_X9_has_22 ki_0 <| r_zret hq D_X9_has_23 rfl rfl (rtT h)) (fun c1 => let_h (ifF c1 h) fun h => r_iload_n D_X9_has_4 rfl <| r_bipush D_X9_has_5 k8_6 <| r_icmp_ge D_X9_has_7 (fun c2 => let_h (ifT c2 h) fun h => r_iconst D_X9_has_22 ki_0 <| r_zret hq D_X9_has_23 rfl rfl (rtT h)) (fun c2 => let_h (ifF c2 h) fun h => r_iload_n D_X9_has_10 rfl <| r_iload_n D_X9_has_11 rfl <| r_ishr D_X9_has_12 <| r_iconst D_X9_has_13 ki_1 <| r_iand D_X9_has_14 <| r_if_eq D_X9_has_15 (fun c3 => let_h (ifT c3 h) fun h => r_iconst D_X9_has_22 ki_0 <| r_zret hq D_X9_has_23 rfl rfl (rtT h)) (fun c3 => let_h (ifF c3 h) fun h => r_iconst D_X9_has_18 ki_1 <| r_goto D_X9_has_19 <| r_zret hq D_X9_has_23 rfl rfl (rtT h))))
-- X8_hasThing
theorem D_X8_hasThing_0 : Dec mi_X8_hasThing 0 (.iload_n 1) 1 1 := ⟨by decide +kernel, rfl⟩
theorem D_X8_hasThing_1 : DecJ mi_X8_hasThing 1 (.ifCond .lt 21) (21) 4 22 := ⟨by decide +kernel, rfl, by decide⟩
theorem D_X8_hasThing_4 : Dec mi_X8_hasThing 4 (.iload_n 1) 1 5 := ⟨by decide +kernel, rfl⟩
theorem D_X8_hasThing_5 : Dec mi_X8_hasThing 5 (.aload_n 0) 1 6 := ⟨by decide +kernel, rfl⟩
theorem D_X8_hasThing_6 : Dec mi_X8_hasThing 6 (.getfield 27) 3 9 := ⟨by decide +kernel, rfl⟩
theorem D_X8_hasThing_9 : DecJ mi_X8_hasThing 9 (.if_icmp .ge 13) (13) 12 22 := ⟨by decide +kernel, rfl, by decide⟩
theorem D_X8_hasThing_12 : Dec mi_X8_hasThing 12 (.iload_n 1) 1 13 := ⟨by decide +kernel, rfl⟩
theorem D_X8_hasThing_13 : Dec mi_X8_hasThing 13 (.bipush 6) 2 15 := ⟨by decide +kernel, rfl⟩
theorem D_X8_hasThing_15 : DecJ mi_X8_hasThing 15 (.if_icmp .ge 7) (7) 18 22 := ⟨by decide +kernel, rfl, by decide⟩
theorem D_X8_hasThing_18 : Dec mi_X8_hasThing 18 (.iconst 1) 1 19 := ⟨by decide +kernel, rfl⟩
theorem D_X8_hasThing_19 : DecJ mi_X8_hasThing 19 (.goto 4) (4) 22 23 := ⟨by decide +kernel, rfl, by decide⟩
theorem D_X8_hasThing_22 : Dec mi_X8_hasThing 22 (.iconst 0) 1 23 := ⟨by decide +kernel, rfl⟩
theorem D_X8_hasThing_23 : Dec mi_X8_hasThing 23 (.ireturn) 1 24 := ⟨by decide +kernel, rfl⟩
def f_X8_hasThing (M : Mem) (o : Nat) (a1 : Int32) : Int32 := if a1 < 0 then ((0 : Int32)) else (if (M.1 o 3) ≤ a1 then ((0 : Int32)) else (if (6 : Int32) ≤ a1 then ((0 : Int32)) else ((1 : Int32))))
theorem x_X8_hasThing {l : Launch} {w : Wd} {M : Mem} {o : Nat} {a1 : Int32} {v : Int32} (ho : isTrip o) (h : f_X8_hasThing M o a1 = v) : Cn l w mi_X8_hasThing yX8_hasThing (0) [.ref (wq w o), .int a1] M (some (.int v), M) :=
  Cn_of (loc0 := [some (.ref (wq w o)), some (.int a1)]) rfl rfl rfl (Nat.le_of_ble_eq_true rfl) fun κ hq => let_h (show (if a1 < 0 then ((0 : Int32)) else (if (M.1 o 3) ≤ a1 then ((0 : Int32)) else (if (6 : Int32) ≤ a1 then ((0 : Int32)) else ((1 : Int32))))) = v from h) fun h => r_iload_n D_X8_hasThing_0 rfl <| r_if_lt D_X8_hasThing_1 (fun c1 => let_h (ifT c1 h) fun h => r_iconst D_X8_hasThing_22 ki_0 <| r_zret hq D_X8_hasThing_23 rfl rfl (rtT h)) (fun c1 => let_h (ifF c1 h) fun h => r_iload_n D_X8_hasThing_4 rfl <| r_aload_n D_X8_hasThing_5 rfl <| r_getI D_X8_hasThing_6 fl_X8_27 ho.1 rfl <| r_icmp_ge D_X8_hasThing_9 (fun c2 => let_h (ifT c2 h) fun h => r_iconst D_X8_hasThing_22 ki_0 <| r_zret hq D_X8_hasThing_23 rfl rfl (rtT h)) (fun c2 => let_h (ifF c2 h) fun h => r_iload_n D_X8_hasThing_12 rfl <| r_bipush D_X8_hasThing_13 k8_6 <| r_icmp_ge D_X8_hasThing_15 (fun c3 => let_h (ifT c3 h) fun h => r_iconst D_X8_hasThing_22 ki_0 <| r_zret hq D_X8_hasThing_23 rfl rfl (rtT h)) (fun c3 => let_h (ifF c3 h) fun h => r_iconst D_X8_hasThing_18 ki_1 <| r_goto D_X8_hasThing_19 <| r_zret hq D_X8_hasThing_23 rfl rfl (rtT h))))
-- X8_fact
theorem D_X8_fact_0 : Dec mi_X8_fact 0 (.aload_n 0) 1 1 := ⟨by decide +kernel, rfl⟩
theorem D_X8_fact_1 : Dec mi_X8_fact 1 (.iload_n 1) 1 2 := ⟨by decide +kernel, rfl⟩
theorem D_X8_fact_2 : Dec mi_X8_fact 2 (.invokevirtual 69) 3 5 := ⟨by decide +kernel, rfl⟩
theorem D_X8_fact_5 : DecJ mi_X8_fact 5 (.ifCond .eq 27) (27) 8 32 := ⟨by decide +kernel, rfl, by decide⟩
theorem D_X8_fact_8 : Dec mi_X8_fact 8 (.iload_n 2) 1 9 := ⟨by decide +kernel, rfl⟩
theorem D_X8_fact_9 : DecJ mi_X8_fact 9 (.ifCond .lt 23) (23) 12 32 := ⟨by decide +kernel, rfl, by decide⟩
theorem D_X8_fact_12 : Dec mi_X8_fact 12 (.iload_n 2) 1 13 := ⟨by decide +kernel, rfl⟩
theorem D_X8_fact_13 : Dec mi_X8_fact 13 (.bipush 8) 2 15 := ⟨by decide +kernel, rfl⟩
theorem D_X8_fact_15 : DecJ mi_X8_fact 15 (.if_icmp .ge 17) (17) 18 32 := ⟨by decide +kernel, rfl, by decide⟩
theorem D_X8_fact_18 : Dec mi_X8_fact 18 (.aload_n 0) 1 19 := ⟨by decide +kernel, rfl⟩
theorem D_X8_fact_19 : Dec mi_X8_fact 19 (.getfield 9) 3 22 := ⟨by decide +kernel, rfl⟩
theorem D_X8_fact_22 : Dec mi_X8_fact 22 (.iload_n 1) 1 23 := ⟨by decide +kernel, rfl⟩
theorem D_X8_fact_23 : Dec mi_X8_fact 23 (.bipush 8) 2 25 := ⟨by decide +kernel, rfl⟩
theorem D_X8_fact_25 : Dec mi_X8_fact 25 (.imul) 1 26 := ⟨by decide +kernel, rfl⟩
theorem D_X8_fact_26 : Dec mi_X8_fact 26 (.iload_n 2) 1 27 := ⟨by decide +kernel, rfl⟩
theorem D_X8_fact_27 : Dec mi_X8_fact 27 (.iadd) 1 28 := ⟨by decide +kernel, rfl⟩
theorem D_X8_fact_28 : Dec mi_X8_fact 28 (.iaload) 1 29 := ⟨by decide +kernel, rfl⟩
theorem D_X8_fact_29 : DecJ mi_X8_fact 29 (.goto 4) (4) 32 33 := ⟨by decide +kernel, rfl, by decide⟩
theorem D_X8_fact_32 : Dec mi_X8_fact 32 (.iconst 0) 1 33 := ⟨by decide +kernel, rfl⟩
theorem D_X8_fact_33 : Dec mi_X8_fact 33 (.ireturn) 1 34 := ⟨by decide +kernel, rfl⟩
def f_X8_fact (M : Mem) (o : Nat) (a1 : Int32) (a2 : Int32) : Option Int32 := if (f_X8_hasThing M o a1) = 0 then (some (0 : Int32)) else (if a2 < 0 then (some (0 : Int32)) else (if (8 : Int32) ≤ a2 then (some (0 : Int32)) else (if ck ((a1 * (8 : Int32)) + a2) 48 = true then (some (M.1 (o + 1) ((a1 * (8 : Int32)) + a2).toNatClampNeg)) else none)))
theorem x_X8_fact {l : Launch} {w : Wd} {M : Mem} {o : Nat} {a1 : Int32} {a2 : Int32} {v : Int32} (ho : isTrip o) (h : f_X8_fact M o a1 a2 = some v) : Cn l w mi_X8_fact yX8_fact (1) [.ref (wq w o), .int a1, .int a2] M (some (.int v), M) :=
  Cn_of (loc0 := [some (.ref (wq w o)), some (.int a1), some (.int a2)]) rfl rfl rfl (Nat.le_of_ble_eq_true rfl) fun κ hq => let_h (show (if (f_X8_hasThing M o a1) = 0 then (some (0 : Int32)) else (if a2 < 0 then (some (0 : Int32)) else (if (8 : Int32) ≤ a2 then (some (0 : Int32)) else (if ck ((a1 * (8 : Int32)) + a2) 48 = true then (some (M.1 (o + 1) ((a1 * (8 : Int32)) + a2).toNatClampNeg)) else none)))) = some v from h) fun h => r_aload_n D_X8_fact_0 rfl <| r_iload_n D_X8_fact_1 rfl <| r_callV (av := [.int a1]) D_X8_fact_2 ml_X8_69 mf_X8_hasThing mv_X8_hasThing ho.1 rfl rfl (x_X8_hasThing ho rfl) (Nat.le_of_ble_eq_true rfl) rfl rfl (Nat.le_of_ble_eq_true rfl) <| r_if_eq D_X8_fact_5 (fun c1 => let_h (ifT c1 h) fun h => r_iconst D_X8_fact_32 ki_0 <| r_iret hq D_X8_fact_33 rfl (rtP h)) (fun c1 => let_h (ifF c1 h) fun h => r_iload_n D_X8_fact_8 rfl <| r_if_lt D_X8_fact_9 (fun c2 => let_h (ifT c2 h) fun h => r_iconst D_X8_fact_32 ki_0 <| r_iret hq D_X8_fact_33 rfl (rtP h)) (fun c2 => let_h (ifF c2 h) fun h => r_iload_n D_X8_fact_12 rfl <| r_bipush D_X8_fact_13 k8_8 <| r_icmp_ge D_X8_fact_15 (fun c3 => let_h (ifT c3 h) fun h => r_iconst D_X8_fact_32 ki_0 <| r_iret hq D_X8_fact_33 rfl (rtP h)) (fun c3 => let_h (ifF c3 h) fun h => r_aload_n D_X8_fact_18 rfl <| r_getR (j := (o + 1)) D_X8_fact_19 fl_X8_9 ho.1 rfl <| r_iload_n D_X8_fact_22 rfl <| r_bipush D_X8_fact_23 k8_8 <| r_imul D_X8_fact_25 <| r_iload_n D_X8_fact_26 rfl <| r_iadd D_X8_fact_27 <| (ckE h).elim fun c4 h => r_iald D_X8_fact_28 ho.2.1 c4 <| r_goto D_X8_fact_29 <| r_iret hq D_X8_fact_33 rfl (rtP h))))
-- X8_warmestCoat
theorem D_X8_warmestCoat_0 : Dec mi_X8_warmestCoat 0 (.iconst 0) 1 1 := ⟨by decide +kernel, rfl⟩
theorem D_X8_warmestCoat_1 : Dec mi_X8_warmestCoat 1 (.istore_n 2) 1 2 := ⟨by decide +kernel, rfl⟩
theorem D_X8_warmestCoat_2 : Dec mi_X8_warmestCoat 2 (.iconst 0) 1 3 := ⟨by decide +kernel, rfl⟩
theorem D_X8_warmestCoat_3 : Dec mi_X8_warmestCoat 3 (.istore_n 3) 1 4 := ⟨by decide +kernel, rfl⟩
theorem D_X8_warmestCoat_4 : Dec mi_X8_warmestCoat 4 (.iload_n 3) 1 5 := ⟨by decide +kernel, rfl⟩
theorem D_X8_warmestCoat_5 : Dec mi_X8_warmestCoat 5 (.aload_n 0) 1 6 := ⟨by decide +kernel, rfl⟩
theorem D_X8_warmestCoat_6 : Dec mi_X8_warmestCoat 6 (.getfield 27) 3 9 := ⟨by decide +kernel, rfl⟩
theorem D_X8_warmestCoat_9 : DecJ mi_X8_warmestCoat 9 (.if_icmp .ge 33) (33) 12 42 := ⟨by decide +kernel, rfl, by decide⟩
theorem D_X8_warmestCoat_12 : Dec mi_X8_warmestCoat 12 (.iload_n 1) 1 13 := ⟨by decide +kernel, rfl⟩
theorem D_X8_warmestCoat_13 : Dec mi_X8_warmestCoat 13 (.aload_n 0) 1 14 := ⟨by decide +kernel, rfl⟩
theorem D_X8_warmestCoat_14 : Dec mi_X8_warmestCoat 14 (.getfield 43) 3 17 := ⟨by decide +kernel, rfl⟩
theorem D_X8_warmestCoat_17 : Dec mi_X8_warmestCoat 17 (.iand) 1 18 := ⟨by decide +kernel, rfl⟩
theorem D_X8_warmestCoat_18 : Dec mi_X8_warmestCoat 18 (.iload_n 3) 1 19 := ⟨by decide +kernel, rfl⟩
theorem D_X8_warmestCoat_19 : Dec mi_X8_warmestCoat 19 (.invokestatic 75) 3 22 := ⟨by decide +kernel, rfl⟩
theorem D_X8_warmestCoat_22 : DecJ mi_X8_warmestCoat 22 (.ifCond .eq 14) (14) 25 36 := ⟨by decide +kernel, rfl, by decide⟩
theorem D_X8_warmestCoat_25 : Dec mi_X8_warmestCoat 25 (.iload_n 2) 1 26 := ⟨by decide +kernel, rfl⟩
theorem D_X8_warmestCoat_26 : Dec mi_X8_warmestCoat 26 (.aload_n 0) 1 27 := ⟨by decide +kernel, rfl⟩
theorem D_X8_warmestCoat_27 : Dec mi_X8_warmestCoat 27 (.iload_n 3) 1 28 := ⟨by decide +kernel, rfl⟩
theorem D_X8_warmestCoat_28 : Dec mi_X8_warmestCoat 28 (.iconst 1) 1 29 := ⟨by decide +kernel, rfl⟩
theorem D_X8_warmestCoat_29 : Dec mi_X8_warmestCoat 29 (.invokevirtual 79) 3 32 := ⟨by decide +kernel, rfl⟩
theorem D_X8_warmestCoat_32 : Dec mi_X8_warmestCoat 32 (.invokestatic 83) 3 35 := ⟨by decide +kernel, rfl⟩
theorem D_X8_warmestCoat_35 : Dec mi_X8_warmestCoat 35 (.istore_n 2) 1 36 := ⟨by decide +kernel, rfl⟩
theorem D_X8_warmestCoat_36 : Dec mi_X8_warmestCoat 36 (.iinc 3 1) 3 39 := ⟨by decide +kernel, rfl⟩
theorem D_X8_warmestCoat_39 : DecJ mi_X8_warmestCoat 39 (.goto (-35)) (-35) 42 4 := ⟨by decide +kernel, rfl, by decide⟩
theorem D_X8_warmestCoat_42 : Dec mi_X8_warmestCoat 42 (.iload_n 2) 1 43 := ⟨by decide +kernel, rfl⟩
theorem D_X8_warmestCoat_43 : Dec mi_X8_warmestCoat 43 (.ireturn) 1 44 := ⟨by decide +kernel, rfl⟩
def f_X8_warmestCoat_4 (F : Nat) (M : Mem) (o : Nat) : Nat → Int32 → Int32 → Int32 → Option Int32
  | 0, _, _, _ => none
  | n + 1, y1, y2, y3 => if (M.1 o 3) ≤ y3 then (some y2) else (if (f_X9_has M (y1 &&& (M.1 o 8)) y3) = 0 then (f_X8_warmestCoat_4 F M o n y1 y2 (y3 + (1 : Int32))) else ((f_X8_fact M o y3 (1 : Int32)).bind fun x3 => f_X8_warmestCoat_4 F M o n y1 (imax y2 x3) (y3 + (1 : Int32))))
theorem x_X8_warmestCoat_4 {l : Launch} {w : Wd} {κ : Kp} {F : Nat} {M : Mem} {o : Nat} {v : Int32} (hq : RQ w (some (.int v), M) κ) (ho : isTrip o) : ∀ (n : Nat) (y1 : Int32) (y2 : Int32) (y3 : Int32), f_X8_warmestCoat_4 F M o n y1 y2 y3 = some v → RR l w mi_X8_warmestCoat (2) κ 4 [] [some (.ref (wq w o)), some (.int y1), some (.int y2), some (.int y3)] M
  | 0, _, _, _, h => nomatch h
  | n + 1, y1, y2, y3, h => let_h (show (if (M.1 o 3) ≤ y3 then (some y2) else (if (f_X9_has M (y1 &&& (M.1 o 8)) y3) = 0 then (f_X8_warmestCoat_4 F M o n y1 y2 (y3 + (1 : Int32))) else ((f_X8_fact M o y3 (1 : Int32)).bind fun x3 => f_X8_warmestCoat_4 F M o n y1 (imax y2 x3) (y3 + (1 : Int32))))) = some v from h) fun h => r_iload_n D_X8_warmestCoat_4 rfl <| r_aload_n D_X8_warmestCoat_5 rfl <| r_getI D_X8_warmestCoat_6 fl_X8_27 ho.1 rfl <| r_icmp_ge D_X8_warmestCoat_9 (fun c1 => let_h (ifT c1 h) fun h => r_iload_n D_X8_warmestCoat_42 rfl <| r_iret hq D_X8_warmestCoat_43 rfl (rtP h)) (fun c1 => let_h (ifF c1 h) fun h => r_iload_n D_X8_warmestCoat_12 rfl <| r_aload_n D_X8_warmestCoat_13 rfl <| r_getI D_X8_warmestCoat_14 fl_X8_43 ho.1 rfl <| r_iand D_X8_warmestCoat_17 <| r_iload_n D_X8_warmestCoat_18 rfl <| r_callN (av := [.int (y1 &&& (M.1 o 8)), .int y3]) D_X8_warmestCoat_19 nl_X8_75 mf_X9_has ms_X9_has (x_X9_has rfl) (Nat.le_of_ble_eq_true rfl) rfl rfl (Nat.le_of_ble_eq_true rfl) <| r_if_eq D_X8_warmestCoat_22 (fun c2 => let_h (ifT c2 h) fun h => r_iinc D_X8_warmestCoat_36 rfl ki_1 (by decide) rfl <| r_goto D_X8_warmestCoat_39 <| r_ls (x_X8_warmestCoat_4 hq ho n y1 y2 (y3 + (1 : Int32)) h) ⟨rfl, ⟨rfl, ⟨rfl, ⟨rfl, trivial⟩⟩⟩⟩) (fun c2 => let_h (ifF c2 h) fun h => r_iload_n D_X8_warmestCoat_25 rfl <| r_aload_n D_X8_warmestCoat_26 rfl <| r_iload_n D_X8_warmestCoat_27 rfl <| r_iconst D_X8_warmestCoat_28 ki_1 <| (bdE h).elim fun x3 q4 => let_h q4.2 fun h => r_callV (av := [.int y3, .int (1 : Int32)]) D_X8_warmestCoat_29 ml_X8_79 mf_X8_fact mv_X8_fact ho.1 rfl rfl (x_X8_fact ho q4.1) (Nat.le_of_ble_eq_true rfl) rfl rfl (Nat.le_of_ble_eq_true rfl) <| r_max D_X8_warmestCoat_32 mn_X8_83 (Nat.le_of_ble_eq_true rfl) (Nat.le_of_ble_eq_true rfl) <| r_istore_n D_X8_warmestCoat_35 (by decide) rfl <| r_iinc D_X8_warmestCoat_36 rfl ki_1 (by decide) rfl <| r_goto D_X8_warmestCoat_39 <| r_ls (x_X8_warmestCoat_4 hq ho n y1 (imax y2 x3) (y3 + (1 : Int32)) h) ⟨rfl, ⟨rfl, ⟨rfl, ⟨rfl, trivial⟩⟩⟩⟩))
def f_X8_warmestCoat (F : Nat) (M : Mem) (o : Nat) (a1 : Int32) : Option Int32 := f_X8_warmestCoat_4 F M o F a1 (0 : Int32) (0 : Int32)
theorem x_X8_warmestCoat {l : Launch} {w : Wd} {F : Nat} {M : Mem} {o : Nat} {a1 : Int32} {v : Int32} (ho : isTrip o) (h : f_X8_warmestCoat F M o a1 = some v) : Cn l w mi_X8_warmestCoat yX8_warmestCoat (2) [.ref (wq w o), .int a1] M (some (.int v), M) :=
  Cn_of (loc0 := [some (.ref (wq w o)), some (.int a1), none, none]) rfl rfl rfl (Nat.le_of_ble_eq_true rfl) fun κ hq => let_h (show (f_X8_warmestCoat_4 F M o F a1 (0 : Int32) (0 : Int32)) = some v from h) fun h => r_iconst D_X8_warmestCoat_0 ki_0 <| r_istore_n D_X8_warmestCoat_1 (by decide) rfl <| r_iconst D_X8_warmestCoat_2 ki_0 <| r_istore_n D_X8_warmestCoat_3 (by decide) rfl <| r_ls (x_X8_warmestCoat_4 hq ho F a1 (0 : Int32) (0 : Int32) h) ⟨rfl, ⟨rfl, ⟨rfl, ⟨rfl, trivial⟩⟩⟩⟩
-- X8_together
theorem D_X8_together_0 : Dec mi_X8_together 0 (.aload_n 0) 1 1 := ⟨by decide +kernel, rfl⟩
theorem D_X8_together_1 : Dec mi_X8_together 1 (.iload_n 1) 1 2 := ⟨by decide +kernel, rfl⟩
theorem D_X8_together_2 : Dec mi_X8_together 2 (.invokevirtual 69) 3 5 := ⟨by decide +kernel, rfl⟩
theorem D_X8_together_5 : DecJ mi_X8_together 5 (.ifCond .eq 28) (28) 8 33 := ⟨by decide +kernel, rfl, by decide⟩
theorem D_X8_together_8 : Dec mi_X8_together 8 (.aload_n 0) 1 9 := ⟨by decide +kernel, rfl⟩
theorem D_X8_together_9 : Dec mi_X8_together 9 (.iload_n 2) 1 10 := ⟨by decide +kernel, rfl⟩
theorem D_X8_together_10 : Dec mi_X8_together 10 (.invokevirtual 69) 3 13 := ⟨by decide +kernel, rfl⟩
theorem D_X8_together_13 : DecJ mi_X8_together 13 (.ifCond .eq 20) (20) 16 33 := ⟨by decide +kernel, rfl, by decide⟩
theorem D_X8_together_16 : Dec mi_X8_together 16 (.aload_n 0) 1 17 := ⟨by decide +kernel, rfl⟩
theorem D_X8_together_17 : Dec mi_X8_together 17 (.getfield 18) 3 20 := ⟨by decide +kernel, rfl⟩
theorem D_X8_together_20 : Dec mi_X8_together 20 (.iload_n 1) 1 21 := ⟨by decide +kernel, rfl⟩
theorem D_X8_together_21 : Dec mi_X8_together 21 (.iaload) 1 22 := ⟨by decide +kernel, rfl⟩
theorem D_X8_together_22 : Dec mi_X8_together 22 (.iload_n 2) 1 23 := ⟨by decide +kernel, rfl⟩
theorem D_X8_together_23 : Dec mi_X8_together 23 (.ishr) 1 24 := ⟨by decide +kernel, rfl⟩
theorem D_X8_together_24 : Dec mi_X8_together 24 (.iconst 1) 1 25 := ⟨by decide +kernel, rfl⟩
theorem D_X8_together_25 : Dec mi_X8_together 25 (.iand) 1 26 := ⟨by decide +kernel, rfl⟩
theorem D_X8_together_26 : DecJ mi_X8_together 26 (.ifCond .ne 7) (7) 29 33 := ⟨by decide +kernel, rfl, by decide⟩
theorem D_X8_together_29 : Dec mi_X8_together 29 (.iconst 1) 1 30 := ⟨by decide +kernel, rfl⟩
theorem D_X8_together_30 : DecJ mi_X8_together 30 (.goto 4) (4) 33 34 := ⟨by decide +kernel, rfl, by decide⟩
theorem D_X8_together_33 : Dec mi_X8_together 33 (.iconst 0) 1 34 := ⟨by decide +kernel, rfl⟩
theorem D_X8_together_34 : Dec mi_X8_together 34 (.ireturn) 1 35 := ⟨by decide +kernel, rfl⟩
def f_X8_together (M : Mem) (o : Nat) (a1 : Int32) (a2 : Int32) : Option Int32 := if (f_X8_hasThing M o a1) = 0 then (some (0 : Int32)) else (if (f_X8_hasThing M o a2) = 0 then (some (0 : Int32)) else (if ck a1 6 = true then (if (((M.1 (o + 3) a1.toNatClampNeg) >>> (a2 &&& 31)) &&& (1 : Int32)) = 0 then (some (1 : Int32)) else (some (0 : Int32))) else none))
theorem x_X8_together {l : Launch} {w : Wd} {M : Mem} {o : Nat} {a1 : Int32} {a2 : Int32} {v : Int32} (ho : isTrip o) (h : f_X8_together M o a1 a2 = some v) : Cn l w mi_X8_together yX8_together (1) [.ref (wq w o), .int a1, .int a2] M (some (.int v), M) :=
  Cn_of (loc0 := [some (.ref (wq w o)), some (.int a1), some (.int a2)]) rfl rfl rfl (Nat.le_of_ble_eq_true rfl) fun κ hq => let_h (show (if (f_X8_hasThing M o a1) = 0 then (some (0 : Int32)) else (if (f_X8_hasThing M o a2) = 0 then (some (0 : Int32)) else (if ck a1 6 = true then (if (((M.1 (o + 3) a1.toNatClampNeg) >>> (a2 &&& 31)) &&& (1 : Int32)) = 0 then (some (1 : Int32)) else (some (0 : Int32))) else none))) = some v from h) fun h => r_aload_n D_X8_together_0 rfl <| r_iload_n D_X8_together_1 rfl <| r_callV (av := [.int a1]) D_X8_together_2 ml_X8_69 mf_X8_hasThing mv_X8_hasThing ho.1 rfl rfl (x_X8_hasThing ho rfl) (Nat.le_of_ble_eq_true rfl) rfl rfl (Nat.le_of_ble_eq_true rfl) <| r_if_eq D_X8_together_5 (fun c1 => let_h (ifT c1 h) fun h => r_iconst D_X8_together_33 ki_0 <| r_zret hq D_X8_together_34 rfl rfl (rtP h)) (fun c1 => let_h (ifF c1 h) fun h => r_aload_n D_X8_together_8 rfl <| r_iload_n D_X8_together_9 rfl <| r_callV (av := [.int a2]) D_X8_together_10 ml_X8_69 mf_X8_hasThing mv_X8_hasThing ho.1 rfl rfl (x_X8_hasThing ho rfl) (Nat.le_of_ble_eq_true rfl) rfl rfl (Nat.le_of_ble_eq_true rfl) <| r_if_eq D_X8_together_13 (fun c2 => let_h (ifT c2 h) fun h => r_iconst D_X8_together_33 ki_0 <| r_zret hq D_X8_together_34 rfl rfl (rtP h)) (fun c2 => let_h (ifF c2 h) fun h => r_aload_n D_X8_together_16 rfl <| r_getR (j := (o + 3)) D_X8_together_17 fl_X8_18 ho.1 rfl <| r_iload_n D_X8_together_20 rfl <| (ckE h).elim fun c3 h => r_iald D_X8_together_21 ho.2.2.2 c3 <| r_iload_n D_X8_together_22 rfl <| r_ishr D_X8_together_23 <| r_iconst D_X8_together_24 ki_1 <| r_iand D_X8_together_25 <| r_if_ne D_X8_together_26 (fun c4 => let_h (ifT c4 h) fun h => r_iconst D_X8_together_29 ki_1 <| r_goto D_X8_together_30 <| r_zret hq D_X8_together_34 rfl rfl (rtP h)) (fun c4 => let_h (ifF c4 h) fun h => r_iconst D_X8_together_33 ki_0 <| r_zret hq D_X8_together_34 rfl rfl (rtP h))))
-- X8_suits
theorem D_X8_suits_0 : Dec mi_X8_suits 0 (.aload_n 0) 1 1 := ⟨by decide +kernel, rfl⟩
theorem D_X8_suits_1 : Dec mi_X8_suits 1 (.iload_n 1) 1 2 := ⟨by decide +kernel, rfl⟩
theorem D_X8_suits_2 : Dec mi_X8_suits 2 (.iconst 1) 1 3 := ⟨by decide +kernel, rfl⟩
theorem D_X8_suits_3 : Dec mi_X8_suits 3 (.invokevirtual 88) 3 6 := ⟨by decide +kernel, rfl⟩
theorem D_X8_suits_6 : Dec mi_X8_suits 6 (.istore 5) 2 8 := ⟨by decide +kernel, rfl⟩
theorem D_X8_suits_8 : Dec mi_X8_suits 8 (.aload_n 0) 1 9 := ⟨by decide +kernel, rfl⟩
theorem D_X8_suits_9 : Dec mi_X8_suits 9 (.iload_n 2) 1 10 := ⟨by decide +kernel, rfl⟩
theorem D_X8_suits_10 : Dec mi_X8_suits 10 (.iload_n 3) 1 11 := ⟨by decide +kernel, rfl⟩
theorem D_X8_suits_11 : Dec mi_X8_suits 11 (.invokevirtual 91) 3 14 := ⟨by decide +kernel, rfl⟩
theorem D_X8_suits_14 : DecJ mi_X8_suits 14 (.ifCond .eq 54) (54) 17 68 := ⟨by decide +kernel, rfl, by decide⟩
theorem D_X8_suits_17 : Dec mi_X8_suits 17 (.aload_n 0) 1 18 := ⟨by decide +kernel, rfl⟩
theorem D_X8_suits_18 : Dec mi_X8_suits 18 (.iload_n 2) 1 19 := ⟨by decide +kernel, rfl⟩
theorem D_X8_suits_19 : Dec mi_X8_suits 19 (.iconst 2) 1 20 := ⟨by decide +kernel, rfl⟩
theorem D_X8_suits_20 : Dec mi_X8_suits 20 (.invokevirtual 79) 3 23 := ⟨by decide +kernel, rfl⟩
theorem D_X8_suits_23 : Dec mi_X8_suits 23 (.iload 5) 2 25 := ⟨by decide +kernel, rfl⟩
theorem D_X8_suits_25 : DecJ mi_X8_suits 25 (.if_icmp .lt 43) (43) 28 68 := ⟨by decide +kernel, rfl, by decide⟩
theorem D_X8_suits_28 : Dec mi_X8_suits 28 (.aload_n 0) 1 29 := ⟨by decide +kernel, rfl⟩
theorem D_X8_suits_29 : Dec mi_X8_suits 29 (.iload_n 3) 1 30 := ⟨by decide +kernel, rfl⟩
theorem D_X8_suits_30 : Dec mi_X8_suits 30 (.iconst 2) 1 31 := ⟨by decide +kernel, rfl⟩
theorem D_X8_suits_31 : Dec mi_X8_suits 31 (.invokevirtual 79) 3 34 := ⟨by decide +kernel, rfl⟩
theorem D_X8_suits_34 : Dec mi_X8_suits 34 (.iload 5) 2 36 := ⟨by decide +kernel, rfl⟩
theorem D_X8_suits_36 : DecJ mi_X8_suits 36 (.if_icmp .lt 32) (32) 39 68 := ⟨by decide +kernel, rfl, by decide⟩
theorem D_X8_suits_39 : Dec mi_X8_suits 39 (.aload_n 0) 1 40 := ⟨by decide +kernel, rfl⟩
theorem D_X8_suits_40 : Dec mi_X8_suits 40 (.iload_n 2) 1 41 := ⟨by decide +kernel, rfl⟩
theorem D_X8_suits_41 : Dec mi_X8_suits 41 (.iconst 1) 1 42 := ⟨by decide +kernel, rfl⟩
theorem D_X8_suits_42 : Dec mi_X8_suits 42 (.invokevirtual 79) 3 45 := ⟨by decide +kernel, rfl⟩
theorem D_X8_suits_45 : Dec mi_X8_suits 45 (.aload_n 0) 1 46 := ⟨by decide +kernel, rfl⟩
theorem D_X8_suits_46 : Dec mi_X8_suits 46 (.iload_n 3) 1 47 := ⟨by decide +kernel, rfl⟩
theorem D_X8_suits_47 : Dec mi_X8_suits 47 (.iconst 1) 1 48 := ⟨by decide +kernel, rfl⟩
theorem D_X8_suits_48 : Dec mi_X8_suits 48 (.invokevirtual 79) 3 51 := ⟨by decide +kernel, rfl⟩
theorem D_X8_suits_51 : Dec mi_X8_suits 51 (.iadd) 1 52 := ⟨by decide +kernel, rfl⟩
theorem D_X8_suits_52 : Dec mi_X8_suits 52 (.iload 4) 2 54 := ⟨by decide +kernel, rfl⟩
theorem D_X8_suits_54 : Dec mi_X8_suits 54 (.iadd) 1 55 := ⟨by decide +kernel, rfl⟩
theorem D_X8_suits_55 : Dec mi_X8_suits 55 (.aload_n 0) 1 56 := ⟨by decide +kernel, rfl⟩
theorem D_X8_suits_56 : Dec mi_X8_suits 56 (.iload_n 1) 1 57 := ⟨by decide +kernel, rfl⟩
theorem D_X8_suits_57 : Dec mi_X8_suits 57 (.iconst 0) 1 58 := ⟨by decide +kernel, rfl⟩
theorem D_X8_suits_58 : Dec mi_X8_suits 58 (.invokevirtual 88) 3 61 := ⟨by decide +kernel, rfl⟩
theorem D_X8_suits_61 : DecJ mi_X8_suits 61 (.if_icmp .lt 7) (7) 64 68 := ⟨by decide +kernel, rfl, by decide⟩
theorem D_X8_suits_64 : Dec mi_X8_suits 64 (.iconst 1) 1 65 := ⟨by decide +kernel, rfl⟩
theorem D_X8_suits_65 : DecJ mi_X8_suits 65 (.goto 4) (4) 68 69 := ⟨by decide +kernel, rfl, by decide⟩
theorem D_X8_suits_68 : Dec mi_X8_suits 68 (.iconst 0) 1 69 := ⟨by decide +kernel, rfl⟩
theorem D_X8_suits_69 : Dec mi_X8_suits 69 (.ireturn) 1 70 := ⟨by decide +kernel, rfl⟩
def f_X8_suits (M : Mem) (o : Nat) (a1 : Int32) (a2 : Int32) (a3 : Int32) (a4 : Int32) : Option Int32 := (f_X8_want M o a1 (1 : Int32)).bind fun x1 => (f_X8_together M o a2 a3).bind fun x3 => if x3 = 0 then (some (0 : Int32)) else ((f_X8_fact M o a2 (2 : Int32)).bind fun x6 => if x6 < x1 then (some (0 : Int32)) else ((f_X8_fact M o a3 (2 : Int32)).bind fun x9 => if x9 < x1 then (some (0 : Int32)) else ((f_X8_fact M o a2 (1 : Int32)).bind fun x12 => (f_X8_fact M o a3 (1 : Int32)).bind fun x14 => (f_X8_want M o a1 (0 : Int32)).bind fun x16 => if ((x12 + x14) + a4) < x16 then (some (0 : Int32)) else (some (1 : Int32)))))
theorem x_X8_suits {l : Launch} {w : Wd} {M : Mem} {o : Nat} {a1 : Int32} {a2 : Int32} {a3 : Int32} {a4 : Int32} {v : Int32} (ho : isTrip o) (h : f_X8_suits M o a1 a2 a3 a4 = some v) : Cn l w mi_X8_suits yX8_suits (2) [.ref (wq w o), .int a1, .int a2, .int a3, .int a4] M (some (.int v), M) :=
  Cn_of (loc0 := [some (.ref (wq w o)), some (.int a1), some (.int a2), some (.int a3), some (.int a4), none]) rfl rfl rfl (Nat.le_of_ble_eq_true rfl) fun κ hq => let_h (show ((f_X8_want M o a1 (1 : Int32)).bind fun x1 => (f_X8_together M o a2 a3).bind fun x3 => if x3 = 0 then (some (0 : Int32)) else ((f_X8_fact M o a2 (2 : Int32)).bind fun x6 => if x6 < x1 then (some (0 : Int32)) else ((f_X8_fact M o a3 (2 : Int32)).bind fun x9 => if x9 < x1 then (some (0 : Int32)) else ((f_X8_fact M o a2 (1 : Int32)).bind fun x12 => (f_X8_fact M o a3 (1 : Int32)).bind fun x14 => (f_X8_want M o a1 (0 : Int32)).bind fun x16 => if ((x12 + x14) + a4) < x16 then (some (0 : Int32)) else (some (1 : Int32)))))) = some v from h) fun h => r_aload_n D_X8_suits_0 rfl <| r_iload_n D_X8_suits_1 rfl <| r_iconst D_X8_suits_2 ki_1 <| (bdE h).elim fun x1 q2 => let_h q2.2 fun h => r_callV (av := [.int a1, .int (1 : Int32)]) D_X8_suits_3 ml_X8_88 mf_X8_want mv_X8_want ho.1 rfl rfl (x_X8_want ho q2.1) (Nat.le_of_ble_eq_true rfl) rfl rfl (Nat.le_of_ble_eq_true rfl) <| r_istore D_X8_suits_6 (by decide) rfl <| r_aload_n D_X8_suits_8 rfl <| r_iload_n D_X8_suits_9 rfl <| r_iload_n D_X8_suits_10 rfl <| (bdE h).elim fun x3 q4 => let_h q4.2 fun h => r_callV (av := [.int a2, .int a3]) D_X8_suits_11 ml_X8_91 mf_X8_together mv_X8_together ho.1 rfl rfl (x_X8_together ho q4.1) (Nat.le_of_ble_eq_true rfl) rfl rfl (Nat.le_of_ble_eq_true rfl) <| r_if_eq D_X8_suits_14 (fun c5 => let_h (ifT c5 h) fun h => r_iconst D_X8_suits_68 ki_0 <| r_zret hq D_X8_suits_69 rfl rfl (rtP h)) (fun c5 => let_h (ifF c5 h) fun h => r_aload_n D_X8_suits_17 rfl <| r_iload_n D_X8_suits_18 rfl <| r_iconst D_X8_suits_19 ki_2 <| (bdE h).elim fun x6 q7 => let_h q7.2 fun h => r_callV (av := [.int a2, .int (2 : Int32)]) D_X8_suits_20 ml_X8_79 mf_X8_fact mv_X8_fact ho.1 rfl rfl (x_X8_fact ho q7.1) (Nat.le_of_ble_eq_true rfl) rfl rfl (Nat.le_of_ble_eq_true rfl) <| r_iload D_X8_suits_23 rfl <| r_icmp_lt D_X8_suits_25 (fun c8 => let_h (ifT c8 h) fun h => r_iconst D_X8_suits_68 ki_0 <| r_zret hq D_X8_suits_69 rfl rfl (rtP h)) (fun c8 => let_h (ifF c8 h) fun h => r_aload_n D_X8_suits_28 rfl <| r_iload_n D_X8_suits_29 rfl <| r_iconst D_X8_suits_30 ki_2 <| (bdE h).elim fun x9 q10 => let_h q10.2 fun h => r_callV (av := [.int a3, .int (2 : Int32)]) D_X8_suits_31 ml_X8_79 mf_X8_fact mv_X8_fact ho.1 rfl rfl (x_X8_fact ho q10.1) (Nat.le_of_ble_eq_true rfl) rfl rfl (Nat.le_of_ble_eq_true rfl) <| r_iload D_X8_suits_34 rfl <| r_icmp_lt D_X8_suits_36 (fun c11 => let_h (ifT c11 h) fun h => r_iconst D_X8_suits_68 ki_0 <| r_zret hq D_X8_suits_69 rfl rfl (rtP h)) (fun c11 => let_h (ifF c11 h) fun h => r_aload_n D_X8_suits_39 rfl <| r_iload_n D_X8_suits_40 rfl <| r_iconst D_X8_suits_41 ki_1 <| (bdE h).elim fun x12 q13 => let_h q13.2 fun h => r_callV (av := [.int a2, .int (1 : Int32)]) D_X8_suits_42 ml_X8_79 mf_X8_fact mv_X8_fact ho.1 rfl rfl (x_X8_fact ho q13.1) (Nat.le_of_ble_eq_true rfl) rfl rfl (Nat.le_of_ble_eq_true rfl) <| r_aload_n D_X8_suits_45 rfl <| r_iload_n D_X8_suits_46 rfl <| r_iconst D_X8_suits_47 ki_1 <| (bdE h).elim fun x14 q15 => let_h q15.2 fun h => r_callV (av := [.int a3, .int (1 : Int32)]) D_X8_suits_48 ml_X8_79 mf_X8_fact mv_X8_fact ho.1 rfl rfl (x_X8_fact ho q15.1) (Nat.le_of_ble_eq_true rfl) rfl rfl (Nat.le_of_ble_eq_true rfl) <| r_iadd D_X8_suits_51 <| r_iload D_X8_suits_52 rfl <| r_iadd D_X8_suits_54 <| r_aload_n D_X8_suits_55 rfl <| r_iload_n D_X8_suits_56 rfl <| r_iconst D_X8_suits_57 ki_0 <| (bdE h).elim fun x16 q17 => let_h q17.2 fun h => r_callV (av := [.int a1, .int (0 : Int32)]) D_X8_suits_58 ml_X8_88 mf_X8_want mv_X8_want ho.1 rfl rfl (x_X8_want ho q17.1) (Nat.le_of_ble_eq_true rfl) rfl rfl (Nat.le_of_ble_eq_true rfl) <| r_icmp_lt D_X8_suits_61 (fun c18 => let_h (ifT c18 h) fun h => r_iconst D_X8_suits_68 ki_0 <| r_zret hq D_X8_suits_69 rfl rfl (rtP h)) (fun c18 => let_h (ifF c18 h) fun h => r_iconst D_X8_suits_64 ki_1 <| r_goto D_X8_suits_65 <| r_zret hq D_X8_suits_69 rfl rfl (rtP h)))))
-- X5_prepare
theorem D_X5_prepare_0 : Dec mi_X5_prepare 0 (.aload_n 0) 1 1 := ⟨by decide +kernel, rfl⟩
theorem D_X5_prepare_1 : Dec mi_X5_prepare 1 (.iload_n 1) 1 2 := ⟨by decide +kernel, rfl⟩
theorem D_X5_prepare_2 : Dec mi_X5_prepare 2 (.aload_n 0) 1 3 := ⟨by decide +kernel, rfl⟩
theorem D_X5_prepare_3 : Dec mi_X5_prepare 3 (.getfield 34) 3 6 := ⟨by decide +kernel, rfl⟩
theorem D_X5_prepare_6 : Dec mi_X5_prepare 6 (.invokevirtual 72) 3 9 := ⟨by decide +kernel, rfl⟩
theorem D_X5_prepare_9 : Dec mi_X5_prepare 9 (.iand) 1 10 := ⟨by decide +kernel, rfl⟩
theorem D_X5_prepare_10 : DecJ mi_X5_prepare 10 (.ifCond .ne 7) (7) 13 17 := ⟨by decide +kernel, rfl, by decide⟩
theorem D_X5_prepare_13 : Dec mi_X5_prepare 13 (.iload_n 2) 1 14 := ⟨by decide +kernel, rfl⟩
theorem D_X5_prepare_14 : DecJ mi_X5_prepare 14 (.goto 4) (4) 17 18 := ⟨by decide +kernel, rfl, by decide⟩
theorem D_X5_prepare_17 : Dec mi_X5_prepare 17 (.iconst 0) 1 18 := ⟨by decide +kernel, rfl⟩
theorem D_X5_prepare_18 : Dec mi_X5_prepare 18 (.putfield 84) 3 21 := ⟨by decide +kernel, rfl⟩
theorem D_X5_prepare_21 : Dec mi_X5_prepare 21 (.iload_n 1) 1 22 := ⟨by decide +kernel, rfl⟩
theorem D_X5_prepare_22 : Dec mi_X5_prepare 22 (.aload_n 0) 1 23 := ⟨by decide +kernel, rfl⟩
theorem D_X5_prepare_23 : Dec mi_X5_prepare 23 (.getfield 34) 3 26 := ⟨by decide +kernel, rfl⟩
theorem D_X5_prepare_26 : Dec mi_X5_prepare 26 (.invokevirtual 88) 3 29 := ⟨by decide +kernel, rfl⟩
theorem D_X5_prepare_29 : Dec mi_X5_prepare 29 (.iand) 1 30 := ⟨by decide +kernel, rfl⟩
theorem D_X5_prepare_30 : Dec mi_X5_prepare 30 (.istore_n 3) 1 31 := ⟨by decide +kernel, rfl⟩
theorem D_X5_prepare_31 : Dec mi_X5_prepare 31 (.iload_n 1) 1 32 := ⟨by decide +kernel, rfl⟩
theorem D_X5_prepare_32 : Dec mi_X5_prepare 32 (.aload_n 0) 1 33 := ⟨by decide +kernel, rfl⟩
theorem D_X5_prepare_33 : Dec mi_X5_prepare 33 (.getfield 34) 3 36 := ⟨by decide +kernel, rfl⟩
theorem D_X5_prepare_36 : Dec mi_X5_prepare 36 (.invokevirtual 91) 3 39 := ⟨by decide +kernel, rfl⟩
theorem D_X5_prepare_39 : Dec mi_X5_prepare 39 (.iand) 1 40 := ⟨by decide +kernel, rfl⟩
theorem D_X5_prepare_40 : Dec mi_X5_prepare 40 (.istore 4) 2 42 := ⟨by decide +kernel, rfl⟩
theorem D_X5_prepare_42 : Dec mi_X5_prepare 42 (.aload_n 0) 1 43 := ⟨by decide +kernel, rfl⟩
theorem D_X5_prepare_43 : Dec mi_X5_prepare 43 (.getfield 34) 3 46 := ⟨by decide +kernel, rfl⟩
theorem D_X5_prepare_46 : Dec mi_X5_prepare 46 (.iload_n 1) 1 47 := ⟨by decide +kernel, rfl⟩
theorem D_X5_prepare_47 : Dec mi_X5_prepare 47 (.invokevirtual 94) 3 50 := ⟨by decide +kernel, rfl⟩
theorem D_X5_prepare_50 : Dec mi_X5_prepare 50 (.istore 5) 2 52 := ⟨by decide +kernel, rfl⟩
theorem D_X5_prepare_52 : Dec mi_X5_prepare 52 (.iconst 0) 1 53 := ⟨by decide +kernel, rfl⟩
theorem D_X5_prepare_53 : Dec mi_X5_prepare 53 (.istore 6) 2 55 := ⟨by decide +kernel, rfl⟩
theorem D_X5_prepare_55 : Dec mi_X5_prepare 55 (.iload 6) 2 57 := ⟨by decide +kernel, rfl⟩
theorem D_X5_prepare_57 : Dec mi_X5_prepare 57 (.aload_n 0) 1 58 := ⟨by decide +kernel, rfl⟩
theorem D_X5_prepare_58 : Dec mi_X5_prepare 58 (.getfield 34) 3 61 := ⟨by decide +kernel, rfl⟩
theorem D_X5_prepare_61 : Dec mi_X5_prepare 61 (.invokevirtual 56) 3 64 := ⟨by decide +kernel, rfl⟩
theorem D_X5_prepare_64 : DecJ mi_X5_prepare 64 (.if_icmp .ge 116) (116) 67 180 := ⟨by decide +kernel, rfl, by decide⟩
theorem D_X5_prepare_67 : Dec mi_X5_prepare 67 (.iload 6) 2 69 := ⟨by decide +kernel, rfl⟩
theorem D_X5_prepare_69 : Dec mi_X5_prepare 69 (.bipush 8) 2 71 := ⟨by decide +kernel, rfl⟩
theorem D_X5_prepare_71 : DecJ mi_X5_prepare 71 (.if_icmp .ge 109) (109) 74 180 := ⟨by decide +kernel, rfl, by decide⟩
theorem D_X5_prepare_74 : Dec mi_X5_prepare 74 (.iconst 0) 1 75 := ⟨by decide +kernel, rfl⟩
theorem D_X5_prepare_75 : Dec mi_X5_prepare 75 (.istore 7) 2 77 := ⟨by decide +kernel, rfl⟩
theorem D_X5_prepare_77 : Dec mi_X5_prepare 77 (.iconst 0) 1 78 := ⟨by decide +kernel, rfl⟩
theorem D_X5_prepare_78 : Dec mi_X5_prepare 78 (.istore 8) 2 80 := ⟨by decide +kernel, rfl⟩
theorem D_X5_prepare_80 : Dec mi_X5_prepare 80 (.iload 8) 2 82 := ⟨by decide +kernel, rfl⟩
theorem D_X5_prepare_82 : Dec mi_X5_prepare 82 (.bipush 36) 2 84 := ⟨by decide +kernel, rfl⟩
theorem D_X5_prepare_84 : DecJ mi_X5_prepare 84 (.if_icmp .ge 81) (81) 87 165 := ⟨by decide +kernel, rfl, by decide⟩
theorem D_X5_prepare_87 : Dec mi_X5_prepare 87 (.iload 7) 2 89 := ⟨by decide +kernel, rfl⟩
theorem D_X5_prepare_89 : Dec mi_X5_prepare 89 (.bipush 9) 2 91 := ⟨by decide +kernel, rfl⟩
theorem D_X5_prepare_91 : DecJ mi_X5_prepare 91 (.if_icmp .ge 74) (74) 94 165 := ⟨by decide +kernel, rfl, by decide⟩
theorem D_X5_prepare_94 : Dec mi_X5_prepare 94 (.iload 8) 2 96 := ⟨by decide +kernel, rfl⟩
theorem D_X5_prepare_96 : Dec mi_X5_prepare 96 (.bipush 6) 2 98 := ⟨by decide +kernel, rfl⟩
theorem D_X5_prepare_98 : Dec mi_X5_prepare 98 (.idiv) 1 99 := ⟨by decide +kernel, rfl⟩
theorem D_X5_prepare_99 : Dec mi_X5_prepare 99 (.istore 9) 2 101 := ⟨by decide +kernel, rfl⟩
theorem D_X5_prepare_101 : Dec mi_X5_prepare 101 (.iload 8) 2 103 := ⟨by decide +kernel, rfl⟩
theorem D_X5_prepare_103 : Dec mi_X5_prepare 103 (.bipush 6) 2 105 := ⟨by decide +kernel, rfl⟩
theorem D_X5_prepare_105 : Dec mi_X5_prepare 105 (.irem) 1 106 := ⟨by decide +kernel, rfl⟩
theorem D_X5_prepare_106 : Dec mi_X5_prepare 106 (.istore 10) 2 108 := ⟨by decide +kernel, rfl⟩
theorem D_X5_prepare_108 : Dec mi_X5_prepare 108 (.iload_n 3) 1 109 := ⟨by decide +kernel, rfl⟩
theorem D_X5_prepare_109 : Dec mi_X5_prepare 109 (.iload 9) 2 111 := ⟨by decide +kernel, rfl⟩
theorem D_X5_prepare_111 : Dec mi_X5_prepare 111 (.ishr) 1 112 := ⟨by decide +kernel, rfl⟩
theorem D_X5_prepare_112 : Dec mi_X5_prepare 112 (.iload 4) 2 114 := ⟨by decide +kernel, rfl⟩
theorem D_X5_prepare_114 : Dec mi_X5_prepare 114 (.iload 10) 2 116 := ⟨by decide +kernel, rfl⟩
theorem D_X5_prepare_116 : Dec mi_X5_prepare 116 (.ishr) 1 117 := ⟨by decide +kernel, rfl⟩
theorem D_X5_prepare_117 : Dec mi_X5_prepare 117 (.iand) 1 118 := ⟨by decide +kernel, rfl⟩
theorem D_X5_prepare_118 : Dec mi_X5_prepare 118 (.iconst 1) 1 119 := ⟨by decide +kernel, rfl⟩
theorem D_X5_prepare_119 : Dec mi_X5_prepare 119 (.iand) 1 120 := ⟨by decide +kernel, rfl⟩
theorem D_X5_prepare_120 : DecJ mi_X5_prepare 120 (.ifCond .eq 39) (39) 123 159 := ⟨by decide +kernel, rfl, by decide⟩
theorem D_X5_prepare_123 : Dec mi_X5_prepare 123 (.aload_n 0) 1 124 := ⟨by decide +kernel, rfl⟩
theorem D_X5_prepare_124 : Dec mi_X5_prepare 124 (.getfield 34) 3 127 := ⟨by decide +kernel, rfl⟩
theorem D_X5_prepare_127 : Dec mi_X5_prepare 127 (.iload 6) 2 129 := ⟨by decide +kernel, rfl⟩
theorem D_X5_prepare_129 : Dec mi_X5_prepare 129 (.iload 9) 2 131 := ⟨by decide +kernel, rfl⟩
theorem D_X5_prepare_131 : Dec mi_X5_prepare 131 (.iload 10) 2 133 := ⟨by decide +kernel, rfl⟩
theorem D_X5_prepare_133 : Dec mi_X5_prepare 133 (.iload 5) 2 135 := ⟨by decide +kernel, rfl⟩
theorem D_X5_prepare_135 : Dec mi_X5_prepare 135 (.invokevirtual 97) 3 138 := ⟨by decide +kernel, rfl⟩
theorem D_X5_prepare_138 : DecJ mi_X5_prepare 138 (.ifCond .eq 21) (21) 141 159 := ⟨by decide +kernel, rfl, by decide⟩
theorem D_X5_prepare_141 : Dec mi_X5_prepare 141 (.aload_n 0) 1 142 := ⟨by decide +kernel, rfl⟩
theorem D_X5_prepare_142 : Dec mi_X5_prepare 142 (.getfield 11) 3 145 := ⟨by decide +kernel, rfl⟩
theorem D_X5_prepare_145 : Dec mi_X5_prepare 145 (.iload 6) 2 147 := ⟨by decide +kernel, rfl⟩
theorem D_X5_prepare_147 : Dec mi_X5_prepare 147 (.bipush 9) 2 149 := ⟨by decide +kernel, rfl⟩
theorem D_X5_prepare_149 : Dec mi_X5_prepare 149 (.imul) 1 150 := ⟨by decide +kernel, rfl⟩
theorem D_X5_prepare_150 : Dec mi_X5_prepare 150 (.iload 7) 2 152 := ⟨by decide +kernel, rfl⟩
theorem D_X5_prepare_152 : Dec mi_X5_prepare 152 (.iadd) 1 153 := ⟨by decide +kernel, rfl⟩
theorem D_X5_prepare_153 : Dec mi_X5_prepare 153 (.iload 8) 2 155 := ⟨by decide +kernel, rfl⟩
theorem D_X5_prepare_155 : Dec mi_X5_prepare 155 (.iastore) 1 156 := ⟨by decide +kernel, rfl⟩
theorem D_X5_prepare_156 : Dec mi_X5_prepare 156 (.iinc 7 1) 3 159 := ⟨by decide +kernel, rfl⟩
theorem D_X5_prepare_159 : Dec mi_X5_prepare 159 (.iinc 8 1) 3 162 := ⟨by decide +kernel, rfl⟩
theorem D_X5_prepare_162 : DecJ mi_X5_prepare 162 (.goto (-82)) (-82) 165 80 := ⟨by decide +kernel, rfl, by decide⟩
theorem D_X5_prepare_165 : Dec mi_X5_prepare 165 (.aload_n 0) 1 166 := ⟨by decide +kernel, rfl⟩
theorem D_X5_prepare_166 : Dec mi_X5_prepare 166 (.getfield 15) 3 169 := ⟨by decide +kernel, rfl⟩
theorem D_X5_prepare_169 : Dec mi_X5_prepare 169 (.iload 6) 2 171 := ⟨by decide +kernel, rfl⟩
theorem D_X5_prepare_171 : Dec mi_X5_prepare 171 (.iload 7) 2 173 := ⟨by decide +kernel, rfl⟩
theorem D_X5_prepare_173 : Dec mi_X5_prepare 173 (.iastore) 1 174 := ⟨by decide +kernel, rfl⟩
theorem D_X5_prepare_174 : Dec mi_X5_prepare 174 (.iinc 6 1) 3 177 := ⟨by decide +kernel, rfl⟩
theorem D_X5_prepare_177 : DecJ mi_X5_prepare 177 (.goto (-122)) (-122) 180 55 := ⟨by decide +kernel, rfl, by decide⟩
theorem D_X5_prepare_180 : Dec mi_X5_prepare 180 (.return_) 1 181 := ⟨by decide +kernel, rfl⟩
def f_X5_prepare_80 (F : Nat) (K_55 : Int32 → Int32 → Int32 → Int32 → Mem → Option Mem) : Nat → Int32 → Int32 → Int32 → Int32 → Int32 → Int32 → Mem → Option Mem
  | 0, _, _, _, _, _, _, _ => none
  | n + 1, y3, y4, y5, y6, y7, y8, N => if (36 : Int32) ≤ y8 then (if ck y6 8 = true then (vlet (setI N 19 y6.toNatClampNeg y7) fun M3 => K_55 y3 y4 y5 (y6 + (1 : Int32)) M3) else none) else (if (9 : Int32) ≤ y7 then (if ck y6 8 = true then (vlet (setI N 19 y6.toNatClampNeg y7) fun M6 => K_55 y3 y4 y5 (y6 + (1 : Int32)) M6) else none) else (vlet (y8 - y8 / (6 : Int32) * (6 : Int32)) fun x7 => if (((y3 >>> ((y8 / (6 : Int32)) &&& 31)) &&& (y4 >>> (x7 &&& 31))) &&& (1 : Int32)) = 0 then (f_X5_prepare_80 F K_55 n y3 y4 y5 y6 y7 (y8 + (1 : Int32)) N) else ((f_X8_suits N 3 y6 (y8 / (6 : Int32)) x7 y5).bind fun x9 => if x9 = 0 then (f_X5_prepare_80 F K_55 n y3 y4 y5 y6 y7 (y8 + (1 : Int32)) N) else (if ck ((y6 * (9 : Int32)) + y7) 72 = true then (vlet (setI N 18 ((y6 * (9 : Int32)) + y7).toNatClampNeg y8) fun M13 => f_X5_prepare_80 F K_55 n y3 y4 y5 y6 (y7 + (1 : Int32)) (y8 + (1 : Int32)) M13) else none))))
theorem x_X5_prepare_80 {l : Launch} {w : Wd} {κ : Kp} {F : Nat} {v : Mem} {K_55 : Int32 → Int32 → Int32 → Int32 → Mem → Option Mem} (hq : RQ w (none, v) κ) (hK_55 : ∀ (y3 : Int32) (y4 : Int32) (y5 : Int32) (y6 : Int32) (N : Mem), K_55 y3 y4 y5 y6 N = some v → RR l w mi_X5_prepare (3) κ 55 [] [some (.ref (wq w 17)), none, none, some (.int y3), some (.int y4), some (.int y5), some (.int y6), none, none, none, none] N) : ∀ (n : Nat) (y3 : Int32) (y4 : Int32) (y5 : Int32) (y6 : Int32) (y7 : Int32) (y8 : Int32) (N : Mem), f_X5_prepare_80 F K_55 n y3 y4 y5 y6 y7 y8 N = some v → RR l w mi_X5_prepare (3) κ 80 [] [some (.ref (wq w 17)), none, none, some (.int y3), some (.int y4), some (.int y5), some (.int y6), some (.int y7), some (.int y8), none, none] N
  | 0, _, _, _, _, _, _, _, h => nomatch h
  | n + 1, y3, y4, y5, y6, y7, y8, N, h => let_h (show (if (36 : Int32) ≤ y8 then (if ck y6 8 = true then (vlet (setI N 19 y6.toNatClampNeg y7) fun M3 => K_55 y3 y4 y5 (y6 + (1 : Int32)) M3) else none) else (if (9 : Int32) ≤ y7 then (if ck y6 8 = true then (vlet (setI N 19 y6.toNatClampNeg y7) fun M6 => K_55 y3 y4 y5 (y6 + (1 : Int32)) M6) else none) else (vlet (y8 - y8 / (6 : Int32) * (6 : Int32)) fun x7 => if (((y3 >>> ((y8 / (6 : Int32)) &&& 31)) &&& (y4 >>> (x7 &&& 31))) &&& (1 : Int32)) = 0 then (f_X5_prepare_80 F K_55 n y3 y4 y5 y6 y7 (y8 + (1 : Int32)) N) else ((f_X8_suits N 3 y6 (y8 / (6 : Int32)) x7 y5).bind fun x9 => if x9 = 0 then (f_X5_prepare_80 F K_55 n y3 y4 y5 y6 y7 (y8 + (1 : Int32)) N) else (if ck ((y6 * (9 : Int32)) + y7) 72 = true then (vlet (setI N 18 ((y6 * (9 : Int32)) + y7).toNatClampNeg y8) fun M13 => f_X5_prepare_80 F K_55 n y3 y4 y5 y6 (y7 + (1 : Int32)) (y8 + (1 : Int32)) M13) else none))))) = some v from h) fun h => r_iload D_X5_prepare_80 rfl <| r_bipush D_X5_prepare_82 k8_36 <| r_icmp_ge D_X5_prepare_84 (fun c1 => let_h (ifT c1 h) fun h => r_aload_n D_X5_prepare_165 rfl <| r_getR (j := 19) D_X5_prepare_166 fl_X5_15 s_17 rfl <| r_iload D_X5_prepare_169 rfl <| r_iload D_X5_prepare_171 rfl <| (ckE h).elim fun c2 h => r_iast D_X5_prepare_173 s_19 c2 <| mlE h fun M3 h => r_iinc D_X5_prepare_174 rfl ki_1 (by decide) rfl <| r_goto D_X5_prepare_177 <| r_ls (hK_55 y3 y4 y5 (y6 + (1 : Int32)) M3 h) ⟨rfl, ⟨rfl, ⟨rfl, ⟨rfl, ⟨rfl, trivial⟩⟩⟩⟩⟩) (fun c1 => let_h (ifF c1 h) fun h => r_iload D_X5_prepare_87 rfl <| r_bipush D_X5_prepare_89 k8_9 <| r_icmp_ge D_X5_prepare_91 (fun c4 => let_h (ifT c4 h) fun h => r_aload_n D_X5_prepare_165 rfl <| r_getR (j := 19) D_X5_prepare_166 fl_X5_15 s_17 rfl <| r_iload D_X5_prepare_169 rfl <| r_iload D_X5_prepare_171 rfl <| (ckE h).elim fun c5 h => r_iast D_X5_prepare_173 s_19 c5 <| mlE h fun M6 h => r_iinc D_X5_prepare_174 rfl ki_1 (by decide) rfl <| r_goto D_X5_prepare_177 <| r_ls (hK_55 y3 y4 y5 (y6 + (1 : Int32)) M6 h) ⟨rfl, ⟨rfl, ⟨rfl, ⟨rfl, ⟨rfl, trivial⟩⟩⟩⟩⟩) (fun c4 => let_h (ifF c4 h) fun h => r_iload D_X5_prepare_94 rfl <| r_bipush D_X5_prepare_96 k8_6 <| r_idiv D_X5_prepare_98 (by decide) <| r_istore D_X5_prepare_99 (by decide) rfl <| r_iload D_X5_prepare_101 rfl <| r_bipush D_X5_prepare_103 k8_6 <| r_irem D_X5_prepare_105 (by decide) <| vlE (fun x7 => RR l w mi_X5_prepare (3) κ 106 [.int x7] [some (.ref (wq w 17)), none, none, some (.int y3), some (.int y4), some (.int y5), some (.int y6), some (.int y7), some (.int y8), some (.int (y8 / (6 : Int32))), none] N) h fun x7 h => r_istore D_X5_prepare_106 (by decide) rfl <| r_iload_n D_X5_prepare_108 rfl <| r_iload D_X5_prepare_109 rfl <| r_ishr D_X5_prepare_111 <| r_iload D_X5_prepare_112 rfl <| r_iload D_X5_prepare_114 rfl <| r_ishr D_X5_prepare_116 <| r_iand D_X5_prepare_117 <| r_iconst D_X5_prepare_118 ki_1 <| r_iand D_X5_prepare_119 <| r_if_eq D_X5_prepare_120 (fun c8 => let_h (ifT c8 h) fun h => r_iinc D_X5_prepare_159 rfl ki_1 (by decide) rfl <| r_goto D_X5_prepare_162 <| r_ls (x_X5_prepare_80 hq hK_55 n y3 y4 y5 y6 y7 (y8 + (1 : Int32)) N h) ⟨rfl, ⟨rfl, ⟨rfl, ⟨rfl, ⟨rfl, ⟨rfl, ⟨rfl, trivial⟩⟩⟩⟩⟩⟩⟩) (fun c8 => let_h (ifF c8 h) fun h => r_aload_n D_X5_prepare_123 rfl <| r_getR (j := 3) D_X5_prepare_124 fl_X5_34 s_17 rfl <| r_iload D_X5_prepare_127 rfl <| r_iload D_X5_prepare_129 rfl <| r_iload D_X5_prepare_131 rfl <| r_iload D_X5_prepare_133 rfl <| (bdE h).elim fun x9 q10 => let_h q10.2 fun h => r_callV (av := [.int y6, .int (y8 / (6 : Int32)), .int x7, .int y5]) D_X5_prepare_135 ml_X5_97 mf_X8_suits mv_X8_suits s_3 rfl rfl (x_X8_suits trip_3 q10.1) (Nat.le_of_ble_eq_true rfl) rfl rfl (Nat.le_of_ble_eq_true rfl) <| r_if_eq D_X5_prepare_138 (fun c11 => let_h (ifT c11 h) fun h => r_iinc D_X5_prepare_159 rfl ki_1 (by decide) rfl <| r_goto D_X5_prepare_162 <| r_ls (x_X5_prepare_80 hq hK_55 n y3 y4 y5 y6 y7 (y8 + (1 : Int32)) N h) ⟨rfl, ⟨rfl, ⟨rfl, ⟨rfl, ⟨rfl, ⟨rfl, ⟨rfl, trivial⟩⟩⟩⟩⟩⟩⟩) (fun c11 => let_h (ifF c11 h) fun h => r_aload_n D_X5_prepare_141 rfl <| r_getR (j := 18) D_X5_prepare_142 fl_X5_11 s_17 rfl <| r_iload D_X5_prepare_145 rfl <| r_bipush D_X5_prepare_147 k8_9 <| r_imul D_X5_prepare_149 <| r_iload D_X5_prepare_150 rfl <| r_iadd D_X5_prepare_152 <| r_iload D_X5_prepare_153 rfl <| (ckE h).elim fun c12 h => r_iast D_X5_prepare_155 s_18 c12 <| mlE h fun M13 h => r_iinc D_X5_prepare_156 rfl ki_1 (by decide) rfl <| r_iinc D_X5_prepare_159 rfl ki_1 (by decide) rfl <| r_goto D_X5_prepare_162 <| r_ls (x_X5_prepare_80 hq hK_55 n y3 y4 y5 y6 (y7 + (1 : Int32)) (y8 + (1 : Int32)) M13 h) ⟨rfl, ⟨rfl, ⟨rfl, ⟨rfl, ⟨rfl, ⟨rfl, ⟨rfl, trivial⟩⟩⟩⟩⟩⟩⟩))))
def f_X5_prepare_55 (F : Nat) : Nat → Int32 → Int32 → Int32 → Int32 → Mem → Option Mem
  | 0, _, _, _, _, _ => none
  | n + 1, y3, y4, y5, y6, N => if (f_X8_days N 3) ≤ y6 then (some N) else (if (8 : Int32) ≤ y6 then (some N) else (f_X5_prepare_80 F (fun y3 y4 y5 y6 N => f_X5_prepare_55 F n y3 y4 y5 y6 N) F y3 y4 y5 y6 (0 : Int32) (0 : Int32) N))
theorem x_X5_prepare_55 {l : Launch} {w : Wd} {κ : Kp} {F : Nat} {v : Mem} (hq : RQ w (none, v) κ) : ∀ (n : Nat) (y3 : Int32) (y4 : Int32) (y5 : Int32) (y6 : Int32) (N : Mem), f_X5_prepare_55 F n y3 y4 y5 y6 N = some v → RR l w mi_X5_prepare (3) κ 55 [] [some (.ref (wq w 17)), none, none, some (.int y3), some (.int y4), some (.int y5), some (.int y6), none, none, none, none] N
  | 0, _, _, _, _, _, h => nomatch h
  | n + 1, y3, y4, y5, y6, N, h => let_h (show (if (f_X8_days N 3) ≤ y6 then (some N) else (if (8 : Int32) ≤ y6 then (some N) else (f_X5_prepare_80 F (fun y3 y4 y5 y6 N => f_X5_prepare_55 F n y3 y4 y5 y6 N) F y3 y4 y5 y6 (0 : Int32) (0 : Int32) N))) = some v from h) fun h => r_iload D_X5_prepare_55 rfl <| r_aload_n D_X5_prepare_57 rfl <| r_getR (j := 3) D_X5_prepare_58 fl_X5_34 s_17 rfl <| r_callV (av := []) D_X5_prepare_61 ml_X5_56 mf_X8_days mv_X8_days s_3 rfl rfl (x_X8_days trip_3 rfl) (Nat.le_of_ble_eq_true rfl) rfl rfl (Nat.le_of_ble_eq_true rfl) <| r_icmp_ge D_X5_prepare_64 (fun c1 => let_h (ifT c1 h) fun h => r_vret hq D_X5_prepare_180 rfl (rtV h)) (fun c1 => let_h (ifF c1 h) fun h => r_iload D_X5_prepare_67 rfl <| r_bipush D_X5_prepare_69 k8_8 <| r_icmp_ge D_X5_prepare_71 (fun c2 => let_h (ifT c2 h) fun h => r_vret hq D_X5_prepare_180 rfl (rtV h)) (fun c2 => let_h (ifF c2 h) fun h => r_iconst D_X5_prepare_74 ki_0 <| r_istore D_X5_prepare_75 (by decide) rfl <| r_iconst D_X5_prepare_77 ki_0 <| r_istore D_X5_prepare_78 (by decide) rfl <| r_ls (x_X5_prepare_80 hq (fun y3 y4 y5 y6 N h => x_X5_prepare_55 hq n y3 y4 y5 y6 N h) F y3 y4 y5 y6 (0 : Int32) (0 : Int32) N h) ⟨rfl, ⟨rfl, ⟨rfl, ⟨rfl, ⟨rfl, ⟨rfl, ⟨rfl, trivial⟩⟩⟩⟩⟩⟩⟩))
def f_X5_prepare_18 (F : Nat) (y1 : Int32) (t0 : Int32) (N : Mem) : Option Mem := vlet (setI N 17 8 t0) fun M1 => (f_X8_warmestCoat F M1 3 y1).bind fun x2 => f_X5_prepare_55 F F (y1 &&& (f_X8_tops M1 3)) (y1 &&& (f_X8_bottoms M1 3)) x2 (0 : Int32) M1
theorem x_X5_prepare_18 {l : Launch} {w : Wd} {κ : Kp} {F : Nat} {v : Mem} (hq : RQ w (none, v) κ) (y1 : Int32) (t0 : Int32) (N : Mem) (h : f_X5_prepare_18 F y1 t0 N = some v) : RR l w mi_X5_prepare (3) κ 18 [.int t0, .ref (wq w 17)] [some (.ref (wq w 17)), some (.int y1), none, none, none, none, none, none, none, none, none] N := let_h (show (vlet (setI N 17 8 t0) fun M1 => (f_X8_warmestCoat F M1 3 y1).bind fun x2 => f_X5_prepare_55 F F (y1 &&& (f_X8_tops M1 3)) (y1 &&& (f_X8_bottoms M1 3)) x2 (0 : Int32) M1) = some v from h) fun h => r_putI D_X5_prepare_18 fp_X5_84 s_17 rfl rfl rfl <| mlE h fun M1 h => r_iload_n D_X5_prepare_21 rfl <| r_aload_n D_X5_prepare_22 rfl <| r_getR (j := 3) D_X5_prepare_23 fl_X5_34 s_17 rfl <| r_callV (av := []) D_X5_prepare_26 ml_X5_88 mf_X8_tops mv_X8_tops s_3 rfl rfl (x_X8_tops trip_3 rfl) (Nat.le_of_ble_eq_true rfl) rfl rfl (Nat.le_of_ble_eq_true rfl) <| r_iand D_X5_prepare_29 <| r_istore_n D_X5_prepare_30 (by decide) rfl <| r_iload_n D_X5_prepare_31 rfl <| r_aload_n D_X5_prepare_32 rfl <| r_getR (j := 3) D_X5_prepare_33 fl_X5_34 s_17 rfl <| r_callV (av := []) D_X5_prepare_36 ml_X5_91 mf_X8_bottoms mv_X8_bottoms s_3 rfl rfl (x_X8_bottoms trip_3 rfl) (Nat.le_of_ble_eq_true rfl) rfl rfl (Nat.le_of_ble_eq_true rfl) <| r_iand D_X5_prepare_39 <| r_istore D_X5_prepare_40 (by decide) rfl <| r_aload_n D_X5_prepare_42 rfl <| r_getR (j := 3) D_X5_prepare_43 fl_X5_34 s_17 rfl <| r_iload_n D_X5_prepare_46 rfl <| (bdE h).elim fun x2 q3 => let_h q3.2 fun h => r_callV (av := [.int y1]) D_X5_prepare_47 ml_X5_94 mf_X8_warmestCoat mv_X8_warmestCoat s_3 rfl rfl (x_X8_warmestCoat trip_3 q3.1) (Nat.le_of_ble_eq_true rfl) rfl rfl (Nat.le_of_ble_eq_true rfl) <| r_istore D_X5_prepare_50 (by decide) rfl <| r_iconst D_X5_prepare_52 ki_0 <| r_istore D_X5_prepare_53 (by decide) rfl <| r_ls (x_X5_prepare_55 hq F (y1 &&& (f_X8_tops M1 3)) (y1 &&& (f_X8_bottoms M1 3)) x2 (0 : Int32) M1 h) ⟨rfl, ⟨rfl, ⟨rfl, ⟨rfl, ⟨rfl, trivial⟩⟩⟩⟩⟩
def f_X5_prepare (F : Nat) (M : Mem) (a1 : Int32) (a2 : Int32) : Option Mem := if (a1 &&& (f_X8_coats M 3)) = 0 then (f_X5_prepare_18 F a1 a2 M) else (f_X5_prepare_18 F a1 (0 : Int32) M)
theorem x_X5_prepare {l : Launch} {w : Wd} {F : Nat} {M : Mem} {a1 : Int32} {a2 : Int32} {v : Mem} (h : f_X5_prepare F M a1 a2 = some v) : Cn l w mi_X5_prepare yX5_prepare (3) [.ref (wq w 17), .int a1, .int a2] M (none, v) :=
  Cn_of (loc0 := [some (.ref (wq w 17)), some (.int a1), some (.int a2), none, none, none, none, none, none, none, none]) rfl rfl rfl (Nat.le_of_ble_eq_true rfl) fun κ hq => let_h (show (if (a1 &&& (f_X8_coats M 3)) = 0 then (f_X5_prepare_18 F a1 a2 M) else (f_X5_prepare_18 F a1 (0 : Int32) M)) = some v from h) fun h => r_aload_n D_X5_prepare_0 rfl <| r_iload_n D_X5_prepare_1 rfl <| r_aload_n D_X5_prepare_2 rfl <| r_getR (j := 3) D_X5_prepare_3 fl_X5_34 s_17 rfl <| r_callV (av := []) D_X5_prepare_6 ml_X5_72 mf_X8_coats mv_X8_coats s_3 rfl rfl (x_X8_coats trip_3 rfl) (Nat.le_of_ble_eq_true rfl) rfl rfl (Nat.le_of_ble_eq_true rfl) <| r_iand D_X5_prepare_9 <| r_if_ne D_X5_prepare_10 (fun c1 => let_h (ifT c1 h) fun h => r_iload_n D_X5_prepare_13 rfl <| r_goto D_X5_prepare_14 <| r_ls (x_X5_prepare_18 hq a1 a2 M h) ⟨rfl, ⟨rfl, trivial⟩⟩) (fun c1 => let_h (ifF c1 h) fun h => r_iconst D_X5_prepare_17 ki_0 <| r_ls (x_X5_prepare_18 hq a1 (0 : Int32) M h) ⟨rfl, ⟨rfl, trivial⟩⟩)
-- J7_fill_d0a16
theorem D_J7_fill_d0a16_0 : Dec mi_J7_fill_d0a16 0 (.iconst 0) 1 1 := ⟨by decide +kernel, rfl⟩
theorem D_J7_fill_d0a16_1 : Dec mi_J7_fill_d0a16 1 (.istore_n 3) 1 2 := ⟨by decide +kernel, rfl⟩
theorem D_J7_fill_d0a16_2 : Dec mi_J7_fill_d0a16 2 (.aload_n 0) 1 3 := ⟨by decide +kernel, rfl⟩
theorem D_J7_fill_d0a16_3 : Dec mi_J7_fill_d0a16 3 (.arraylength) 1 4 := ⟨by decide +kernel, rfl⟩
theorem D_J7_fill_d0a16_4 : Dec mi_J7_fill_d0a16 4 (.istore 4) 2 6 := ⟨by decide +kernel, rfl⟩
theorem D_J7_fill_d0a16_6 : Dec mi_J7_fill_d0a16 6 (.iload_n 3) 1 7 := ⟨by decide +kernel, rfl⟩
theorem D_J7_fill_d0a16_7 : Dec mi_J7_fill_d0a16 7 (.iload 4) 2 9 := ⟨by decide +kernel, rfl⟩
theorem D_J7_fill_d0a16_9 : DecJ mi_J7_fill_d0a16 9 (.if_icmp .ge 13) (13) 12 22 := ⟨by decide +kernel, rfl, by decide⟩
theorem D_J7_fill_d0a16_12 : Dec mi_J7_fill_d0a16 12 (.aload_n 0) 1 13 := ⟨by decide +kernel, rfl⟩
theorem D_J7_fill_d0a16_13 : Dec mi_J7_fill_d0a16 13 (.iload_n 3) 1 14 := ⟨by decide +kernel, rfl⟩
theorem D_J7_fill_d0a16_14 : Dec mi_J7_fill_d0a16 14 (.lload_n 1) 1 15 := ⟨by decide +kernel, rfl⟩
theorem D_J7_fill_d0a16_15 : Dec mi_J7_fill_d0a16 15 (.lastore) 1 16 := ⟨by decide +kernel, rfl⟩
theorem D_J7_fill_d0a16_16 : Dec mi_J7_fill_d0a16 16 (.iinc 3 1) 3 19 := ⟨by decide +kernel, rfl⟩
theorem D_J7_fill_d0a16_19 : DecJ mi_J7_fill_d0a16 19 (.goto (-13)) (-13) 22 6 := ⟨by decide +kernel, rfl, by decide⟩
theorem D_J7_fill_d0a16_22 : Dec mi_J7_fill_d0a16 22 (.return_) 1 23 := ⟨by decide +kernel, rfl⟩
def f_J7_fill_d0a16_6 (F : Nat) (o1 : Nat) (len : Nat) : Nat → Int64 → Int32 → Int32 → Mem → Option Mem
  | 0, _, _, _, _ => none
  | n + 1, y1, y3, y4, N => if y4 ≤ y3 then (some N) else (if ck y3 len = true then (vlet (setL N o1 y3.toNatClampNeg y1) fun M3 => f_J7_fill_d0a16_6 F o1 len n y1 (y3 + (1 : Int32)) y4 M3) else none)
theorem x_J7_fill_d0a16_6 {l : Launch} {w : Wd} {κ : Kp} {F : Nat} {o1 : Nat} {len : Nat} {v : Mem} (hq : RQ w (none, v) κ) (ho1 : shL[o1]? = some (.inl (3, len))) : ∀ (n : Nat) (y1 : Int64) (y3 : Int32) (y4 : Int32) (N : Mem), f_J7_fill_d0a16_6 F o1 len n y1 y3 y4 N = some v → RR l w mi_J7_fill_d0a16 (0) κ 6 [] [some (.ref (wq w o1)), some (.long y1), none, some (.int y3), some (.int y4)] N
  | 0, _, _, _, _, h => nomatch h
  | n + 1, y1, y3, y4, N, h => let_h (show (if y4 ≤ y3 then (some N) else (if ck y3 len = true then (vlet (setL N o1 y3.toNatClampNeg y1) fun M3 => f_J7_fill_d0a16_6 F o1 len n y1 (y3 + (1 : Int32)) y4 M3) else none)) = some v from h) fun h => r_iload_n D_J7_fill_d0a16_6 rfl <| r_iload D_J7_fill_d0a16_7 rfl <| r_icmp_ge D_J7_fill_d0a16_9 (fun c1 => let_h (ifT c1 h) fun h => r_vret hq D_J7_fill_d0a16_22 rfl (rtV h)) (fun c1 => let_h (ifF c1 h) fun h => r_aload_n D_J7_fill_d0a16_12 rfl <| r_iload_n D_J7_fill_d0a16_13 rfl <| r_lload_n D_J7_fill_d0a16_14 rfl <| (ckE h).elim fun c2 h => r_last D_J7_fill_d0a16_15 ho1 c2 <| mlE h fun M3 h => r_iinc D_J7_fill_d0a16_16 rfl ki_1 (by decide) rfl <| r_goto D_J7_fill_d0a16_19 <| r_ls (x_J7_fill_d0a16_6 hq ho1 n y1 (y3 + (1 : Int32)) y4 M3 h) ⟨rfl, ⟨rfl, ⟨rfl, ⟨rfl, trivial⟩⟩⟩⟩)
def f_J7_fill_d0a16 (F : Nat) (M : Mem) (o1 : Nat) (len : Nat) (a2 : Int64) : Option Mem := f_J7_fill_d0a16_6 F o1 len F a2 (0 : Int32) (Int32.ofNat len) M
theorem x_J7_fill_d0a16 {l : Launch} {w : Wd} {F : Nat} {M : Mem} {o1 : Nat} {len : Nat} {a2 : Int64} {v : Mem} (ho1 : shL[o1]? = some (.inl (3, len))) (h : f_J7_fill_d0a16 F M o1 len a2 = some v) : Cn l w mi_J7_fill_d0a16 yJ7_fill_d0a16 (0) [.ref (wq w o1), .long a2] M (none, v) :=
  Cn_of (loc0 := [some (.ref (wq w o1)), some (.long a2), none, none, none]) rfl rfl rfl (Nat.le_of_ble_eq_true rfl) fun κ hq => let_h (show (f_J7_fill_d0a16_6 F o1 len F a2 (0 : Int32) (Int32.ofNat len) M) = some v from h) fun h => r_iconst D_J7_fill_d0a16_0 ki_0 <| r_istore_n D_J7_fill_d0a16_1 (by decide) rfl <| r_aload_n D_J7_fill_d0a16_2 rfl <| r_alenI D_J7_fill_d0a16_3 ho1 (by decide) rfl <| r_istore D_J7_fill_d0a16_4 (by decide) rfl <| r_ls (x_J7_fill_d0a16_6 hq ho1 F a2 (0 : Int32) (Int32.ofNat len) M h) ⟨rfl, ⟨rfl, ⟨rfl, ⟨rfl, trivial⟩⟩⟩⟩
-- X5_isDay
theorem D_X5_isDay_0 : Dec mi_X5_isDay 0 (.iload_n 1) 1 1 := ⟨by decide +kernel, rfl⟩
theorem D_X5_isDay_1 : DecJ mi_X5_isDay 1 (.ifCond .lt 13) (13) 4 14 := ⟨by decide +kernel, rfl, by decide⟩
theorem D_X5_isDay_4 : Dec mi_X5_isDay 4 (.iload_n 1) 1 5 := ⟨by decide +kernel, rfl⟩
theorem D_X5_isDay_5 : Dec mi_X5_isDay 5 (.bipush 8) 2 7 := ⟨by decide +kernel, rfl⟩
theorem D_X5_isDay_7 : DecJ mi_X5_isDay 7 (.if_icmp .ge 7) (7) 10 14 := ⟨by decide +kernel, rfl, by decide⟩
theorem D_X5_isDay_10 : Dec mi_X5_isDay 10 (.iconst 1) 1 11 := ⟨by decide +kernel, rfl⟩
theorem D_X5_isDay_11 : DecJ mi_X5_isDay 11 (.goto 4) (4) 14 15 := ⟨by decide +kernel, rfl, by decide⟩
theorem D_X5_isDay_14 : Dec mi_X5_isDay 14 (.iconst 0) 1 15 := ⟨by decide +kernel, rfl⟩
theorem D_X5_isDay_15 : Dec mi_X5_isDay 15 (.ireturn) 1 16 := ⟨by decide +kernel, rfl⟩
def f_X5_isDay (M : Mem) (a1 : Int32) : Int32 := if a1 < 0 then ((0 : Int32)) else (if (8 : Int32) ≤ a1 then ((0 : Int32)) else ((1 : Int32)))
theorem x_X5_isDay {l : Launch} {w : Wd} {M : Mem} {a1 : Int32} {v : Int32} (h : f_X5_isDay M a1 = v) : Cn l w mi_X5_isDay yX5_isDay (0) [.ref (wq w 17), .int a1] M (some (.int v), M) :=
  Cn_of (loc0 := [some (.ref (wq w 17)), some (.int a1)]) rfl rfl rfl (Nat.le_of_ble_eq_true rfl) fun κ hq => let_h (show (if a1 < 0 then ((0 : Int32)) else (if (8 : Int32) ≤ a1 then ((0 : Int32)) else ((1 : Int32)))) = v from h) fun h => r_iload_n D_X5_isDay_0 rfl <| r_if_lt D_X5_isDay_1 (fun c1 => let_h (ifT c1 h) fun h => r_iconst D_X5_isDay_14 ki_0 <| r_zret hq D_X5_isDay_15 rfl rfl (rtT h)) (fun c1 => let_h (ifF c1 h) fun h => r_iload_n D_X5_isDay_4 rfl <| r_bipush D_X5_isDay_5 k8_8 <| r_icmp_ge D_X5_isDay_7 (fun c2 => let_h (ifT c2 h) fun h => r_iconst D_X5_isDay_14 ki_0 <| r_zret hq D_X5_isDay_15 rfl rfl (rtT h)) (fun c2 => let_h (ifF c2 h) fun h => r_iconst D_X5_isDay_10 ki_1 <| r_goto D_X5_isDay_11 <| r_zret hq D_X5_isDay_15 rfl rfl (rtT h)))
-- X9_stateOf
theorem D_X9_stateOf_0 : Dec mi_X9_stateOf 0 (.iload_n 0) 1 1 := ⟨by decide +kernel, rfl⟩
theorem D_X9_stateOf_1 : Dec mi_X9_stateOf 1 (.iconst 2) 1 2 := ⟨by decide +kernel, rfl⟩
theorem D_X9_stateOf_2 : Dec mi_X9_stateOf 2 (.iload_n 1) 1 3 := ⟨by decide +kernel, rfl⟩
theorem D_X9_stateOf_3 : Dec mi_X9_stateOf 3 (.imul) 1 4 := ⟨by decide +kernel, rfl⟩
theorem D_X9_stateOf_4 : Dec mi_X9_stateOf 4 (.ishr) 1 5 := ⟨by decide +kernel, rfl⟩
theorem D_X9_stateOf_5 : Dec mi_X9_stateOf 5 (.iconst 3) 1 6 := ⟨by decide +kernel, rfl⟩
theorem D_X9_stateOf_6 : Dec mi_X9_stateOf 6 (.iand) 1 7 := ⟨by decide +kernel, rfl⟩
theorem D_X9_stateOf_7 : Dec mi_X9_stateOf 7 (.ireturn) 1 8 := ⟨by decide +kernel, rfl⟩
def f_X9_stateOf (M : Mem) (a1 : Int32) (a2 : Int32) : Int32 := ((a1 >>> (((2 : Int32) * a2) &&& 31)) &&& (3 : Int32))
theorem x_X9_stateOf {l : Launch} {w : Wd} {M : Mem} {a1 : Int32} {a2 : Int32} {v : Int32} (h : f_X9_stateOf M a1 a2 = v) : Cn l w mi_X9_stateOf yX9_stateOf (0) [.int a1, .int a2] M (some (.int v), M) :=
  Cn_of (loc0 := [some (.int a1), some (.int a2)]) rfl rfl rfl (Nat.le_of_ble_eq_true rfl) fun κ hq => let_h (show (((a1 >>> (((2 : Int32) * a2) &&& 31)) &&& (3 : Int32))) = v from h) fun h => r_iload_n D_X9_stateOf_0 rfl <| r_iconst D_X9_stateOf_1 ki_2 <| r_iload_n D_X9_stateOf_2 rfl <| r_imul D_X9_stateOf_3 <| r_ishr D_X9_stateOf_4 <| r_iconst D_X9_stateOf_5 ki_3 <| r_iand D_X9_stateOf_6 <| r_iret hq D_X9_stateOf_7 rfl (rtT h)
-- X8_isReady
theorem D_X8_isReady_0 : Dec mi_X8_isReady 0 (.iload_n 1) 1 1 := ⟨by decide +kernel, rfl⟩
theorem D_X8_isReady_1 : Dec mi_X8_isReady 1 (.iload_n 2) 1 2 := ⟨by decide +kernel, rfl⟩
theorem D_X8_isReady_2 : Dec mi_X8_isReady 2 (.invokestatic 94) 3 5 := ⟨by decide +kernel, rfl⟩
theorem D_X8_isReady_5 : Dec mi_X8_isReady 5 (.istore_n 3) 1 6 := ⟨by decide +kernel, rfl⟩
theorem D_X8_isReady_6 : Dec mi_X8_isReady 6 (.iload_n 3) 1 7 := ⟨by decide +kernel, rfl⟩
theorem D_X8_isReady_7 : DecJ mi_X8_isReady 7 (.ifCond .eq 19) (19) 10 26 := ⟨by decide +kernel, rfl, by decide⟩
theorem D_X8_isReady_10 : Dec mi_X8_isReady 10 (.iload_n 3) 1 11 := ⟨by decide +kernel, rfl⟩
theorem D_X8_isReady_11 : Dec mi_X8_isReady 11 (.iconst 1) 1 12 := ⟨by decide +kernel, rfl⟩
theorem D_X8_isReady_12 : DecJ mi_X8_isReady 12 (.if_icmp .ne 18) (18) 15 30 := ⟨by decide +kernel, rfl, by decide⟩
theorem D_X8_isReady_15 : Dec mi_X8_isReady 15 (.aload_n 0) 1 16 := ⟨by decide +kernel, rfl⟩
theorem D_X8_isReady_16 : Dec mi_X8_isReady 16 (.getfield 46) 3 19 := ⟨by decide +kernel, rfl⟩
theorem D_X8_isReady_19 : Dec mi_X8_isReady 19 (.iload_n 2) 1 20 := ⟨by decide +kernel, rfl⟩
theorem D_X8_isReady_20 : Dec mi_X8_isReady 20 (.invokestatic 75) 3 23 := ⟨by decide +kernel, rfl⟩
theorem D_X8_isReady_23 : DecJ mi_X8_isReady 23 (.ifCond .eq 7) (7) 26 30 := ⟨by decide +kernel, rfl, by decide⟩
theorem D_X8_isReady_26 : Dec mi_X8_isReady 26 (.iconst 1) 1 27 := ⟨by decide +kernel, rfl⟩
theorem D_X8_isReady_27 : DecJ mi_X8_isReady 27 (.goto 4) (4) 30 31 := ⟨by decide +kernel, rfl, by decide⟩
theorem D_X8_isReady_30 : Dec mi_X8_isReady 30 (.iconst 0) 1 31 := ⟨by decide +kernel, rfl⟩
theorem D_X8_isReady_31 : Dec mi_X8_isReady 31 (.ireturn) 1 32 := ⟨by decide +kernel, rfl⟩
def f_X8_isReady (M : Mem) (o : Nat) (a1 : Int32) (a2 : Int32) : Int32 := if (f_X9_stateOf M a1 a2) = 0 then ((1 : Int32)) else (if (f_X9_stateOf M a1 a2) = (1 : Int32) then (if (f_X9_has M (M.1 o 9) a2) = 0 then ((0 : Int32)) else ((1 : Int32))) else ((0 : Int32)))
theorem x_X8_isReady {l : Launch} {w : Wd} {M : Mem} {o : Nat} {a1 : Int32} {a2 : Int32} {v : Int32} (ho : isTrip o) (h : f_X8_isReady M o a1 a2 = v) : Cn l w mi_X8_isReady yX8_isReady (1) [.ref (wq w o), .int a1, .int a2] M (some (.int v), M) :=
  Cn_of (loc0 := [some (.ref (wq w o)), some (.int a1), some (.int a2), none]) rfl rfl rfl (Nat.le_of_ble_eq_true rfl) fun κ hq => let_h (show (if (f_X9_stateOf M a1 a2) = 0 then ((1 : Int32)) else (if (f_X9_stateOf M a1 a2) = (1 : Int32) then (if (f_X9_has M (M.1 o 9) a2) = 0 then ((0 : Int32)) else ((1 : Int32))) else ((0 : Int32)))) = v from h) fun h => r_iload_n D_X8_isReady_0 rfl <| r_iload_n D_X8_isReady_1 rfl <| r_callN (av := [.int a1, .int a2]) D_X8_isReady_2 nl_X8_94 mf_X9_stateOf ms_X9_stateOf (x_X9_stateOf rfl) (Nat.le_of_ble_eq_true rfl) rfl rfl (Nat.le_of_ble_eq_true rfl) <| r_istore_n D_X8_isReady_5 (by decide) rfl <| r_iload_n D_X8_isReady_6 rfl <| r_if_eq D_X8_isReady_7 (fun c1 => let_h (ifT c1 h) fun h => r_iconst D_X8_isReady_26 ki_1 <| r_goto D_X8_isReady_27 <| r_zret hq D_X8_isReady_31 rfl rfl (rtT h)) (fun c1 => let_h (ifF c1 h) fun h => r_iload_n D_X8_isReady_10 rfl <| r_iconst D_X8_isReady_11 ki_1 <| r_icmp_ne D_X8_isReady_12 (fun c2 => let_h (ifT c2 h) fun h => r_aload_n D_X8_isReady_15 rfl <| r_getI D_X8_isReady_16 fl_X8_46 ho.1 rfl <| r_iload_n D_X8_isReady_19 rfl <| r_callN (av := [.int (M.1 o 9), .int a2]) D_X8_isReady_20 nl_X8_75 mf_X9_has ms_X9_has (x_X9_has rfl) (Nat.le_of_ble_eq_true rfl) rfl rfl (Nat.le_of_ble_eq_true rfl) <| r_if_eq D_X8_isReady_23 (fun c3 => let_h (ifT c3 h) fun h => r_iconst D_X8_isReady_30 ki_0 <| r_zret hq D_X8_isReady_31 rfl rfl (rtT h)) (fun c3 => let_h (ifF c3 h) fun h => r_iconst D_X8_isReady_26 ki_1 <| r_goto D_X8_isReady_27 <| r_zret hq D_X8_isReady_31 rfl rfl (rtT h))) (fun c2 => let_h (ifF c2 h) fun h => r_iconst D_X8_isReady_30 ki_0 <| r_zret hq D_X8_isReady_31 rfl rfl (rtT h)))
-- X8_worn
theorem D_X8_worn_0 : Dec mi_X8_worn 0 (.iload_n 1) 1 1 := ⟨by decide +kernel, rfl⟩
theorem D_X8_worn_1 : Dec mi_X8_worn 1 (.iconst 2) 1 2 := ⟨by decide +kernel, rfl⟩
theorem D_X8_worn_2 : Dec mi_X8_worn 2 (.iload_n 2) 1 3 := ⟨by decide +kernel, rfl⟩
theorem D_X8_worn_3 : Dec mi_X8_worn 3 (.imul) 1 4 := ⟨by decide +kernel, rfl⟩
theorem D_X8_worn_4 : Dec mi_X8_worn 4 (.ishr) 1 5 := ⟨by decide +kernel, rfl⟩
theorem D_X8_worn_5 : Dec mi_X8_worn 5 (.iconst 3) 1 6 := ⟨by decide +kernel, rfl⟩
theorem D_X8_worn_6 : Dec mi_X8_worn 6 (.iand) 1 7 := ⟨by decide +kernel, rfl⟩
theorem D_X8_worn_7 : DecJ mi_X8_worn 7 (.ifCond .ne 18) (18) 10 25 := ⟨by decide +kernel, rfl, by decide⟩
theorem D_X8_worn_10 : Dec mi_X8_worn 10 (.aload_n 0) 1 11 := ⟨by decide +kernel, rfl⟩
theorem D_X8_worn_11 : Dec mi_X8_worn 11 (.getfield 46) 3 14 := ⟨by decide +kernel, rfl⟩
theorem D_X8_worn_14 : Dec mi_X8_worn 14 (.iload_n 2) 1 15 := ⟨by decide +kernel, rfl⟩
theorem D_X8_worn_15 : Dec mi_X8_worn 15 (.ishr) 1 16 := ⟨by decide +kernel, rfl⟩
theorem D_X8_worn_16 : Dec mi_X8_worn 16 (.iconst 1) 1 17 := ⟨by decide +kernel, rfl⟩
theorem D_X8_worn_17 : Dec mi_X8_worn 17 (.iand) 1 18 := ⟨by decide +kernel, rfl⟩
theorem D_X8_worn_18 : DecJ mi_X8_worn 18 (.ifCond .eq 7) (7) 21 25 := ⟨by decide +kernel, rfl, by decide⟩
theorem D_X8_worn_21 : Dec mi_X8_worn 21 (.iconst 1) 1 22 := ⟨by decide +kernel, rfl⟩
theorem D_X8_worn_22 : DecJ mi_X8_worn 22 (.goto 4) (4) 25 26 := ⟨by decide +kernel, rfl, by decide⟩
theorem D_X8_worn_25 : Dec mi_X8_worn 25 (.iconst 0) 1 26 := ⟨by decide +kernel, rfl⟩
theorem D_X8_worn_26 : Dec mi_X8_worn 26 (.istore 4) 2 28 := ⟨by decide +kernel, rfl⟩
theorem D_X8_worn_28 : Dec mi_X8_worn 28 (.iload 4) 2 30 := ⟨by decide +kernel, rfl⟩
theorem D_X8_worn_30 : DecJ mi_X8_worn 30 (.ifCond .ne 7) (7) 33 37 := ⟨by decide +kernel, rfl, by decide⟩
theorem D_X8_worn_33 : Dec mi_X8_worn 33 (.iconst 2) 1 34 := ⟨by decide +kernel, rfl⟩
theorem D_X8_worn_34 : DecJ mi_X8_worn 34 (.goto 12) (12) 37 46 := ⟨by decide +kernel, rfl, by decide⟩
theorem D_X8_worn_37 : Dec mi_X8_worn 37 (.iload_n 3) 1 38 := ⟨by decide +kernel, rfl⟩
theorem D_X8_worn_38 : DecJ mi_X8_worn 38 (.ifCond .eq 7) (7) 41 45 := ⟨by decide +kernel, rfl, by decide⟩
theorem D_X8_worn_41 : Dec mi_X8_worn 41 (.iconst 3) 1 42 := ⟨by decide +kernel, rfl⟩
theorem D_X8_worn_42 : DecJ mi_X8_worn 42 (.goto 4) (4) 45 46 := ⟨by decide +kernel, rfl, by decide⟩
theorem D_X8_worn_45 : Dec mi_X8_worn 45 (.iconst 1) 1 46 := ⟨by decide +kernel, rfl⟩
theorem D_X8_worn_46 : Dec mi_X8_worn 46 (.istore 5) 2 48 := ⟨by decide +kernel, rfl⟩
theorem D_X8_worn_48 : Dec mi_X8_worn 48 (.iload_n 1) 1 49 := ⟨by decide +kernel, rfl⟩
theorem D_X8_worn_49 : Dec mi_X8_worn 49 (.iconst 3) 1 50 := ⟨by decide +kernel, rfl⟩
theorem D_X8_worn_50 : Dec mi_X8_worn 50 (.iconst 2) 1 51 := ⟨by decide +kernel, rfl⟩
theorem D_X8_worn_51 : Dec mi_X8_worn 51 (.iload_n 2) 1 52 := ⟨by decide +kernel, rfl⟩
theorem D_X8_worn_52 : Dec mi_X8_worn 52 (.imul) 1 53 := ⟨by decide +kernel, rfl⟩
theorem D_X8_worn_53 : Dec mi_X8_worn 53 (.ishl) 1 54 := ⟨by decide +kernel, rfl⟩
theorem D_X8_worn_54 : Dec mi_X8_worn 54 (.iconst (-1)) 1 55 := ⟨by decide +kernel, rfl⟩
theorem D_X8_worn_55 : Dec mi_X8_worn 55 (.ixor) 1 56 := ⟨by decide +kernel, rfl⟩
theorem D_X8_worn_56 : Dec mi_X8_worn 56 (.iand) 1 57 := ⟨by decide +kernel, rfl⟩
theorem D_X8_worn_57 : Dec mi_X8_worn 57 (.iload 5) 2 59 := ⟨by decide +kernel, rfl⟩
theorem D_X8_worn_59 : Dec mi_X8_worn 59 (.iconst 2) 1 60 := ⟨by decide +kernel, rfl⟩
theorem D_X8_worn_60 : Dec mi_X8_worn 60 (.iload_n 2) 1 61 := ⟨by decide +kernel, rfl⟩
theorem D_X8_worn_61 : Dec mi_X8_worn 61 (.imul) 1 62 := ⟨by decide +kernel, rfl⟩
theorem D_X8_worn_62 : Dec mi_X8_worn 62 (.ishl) 1 63 := ⟨by decide +kernel, rfl⟩
theorem D_X8_worn_63 : Dec mi_X8_worn 63 (.ior) 1 64 := ⟨by decide +kernel, rfl⟩
theorem D_X8_worn_64 : Dec mi_X8_worn 64 (.ireturn) 1 65 := ⟨by decide +kernel, rfl⟩
def f_X8_worn_46 (M : Mem) (o : Nat) (y1 : Int32) (y2 : Int32) (t0 : Int32) : Int32 := ((y1 &&& (((3 : Int32) <<< (((2 : Int32) * y2) &&& 31)) ^^^ (-1 : Int32))) ||| (t0 <<< (((2 : Int32) * y2) &&& 31)))
theorem x_X8_worn_46 {l : Launch} {w : Wd} {κ : Kp} {M : Mem} {o : Nat} {v : Int32} (hq : RQ w (some (.int v), M) κ) (ho : isTrip o) (y1 : Int32) (y2 : Int32) (t0 : Int32) (h : f_X8_worn_46 M o y1 y2 t0 = v) : RR l w mi_X8_worn (0) κ 46 [.int t0] [none, some (.int y1), some (.int y2), none, none, none] M := let_h (show (((y1 &&& (((3 : Int32) <<< (((2 : Int32) * y2) &&& 31)) ^^^ (-1 : Int32))) ||| (t0 <<< (((2 : Int32) * y2) &&& 31)))) = v from h) fun h => r_istore D_X8_worn_46 (by decide) rfl <| r_iload_n D_X8_worn_48 rfl <| r_iconst D_X8_worn_49 ki_3 <| r_iconst D_X8_worn_50 ki_2 <| r_iload_n D_X8_worn_51 rfl <| r_imul D_X8_worn_52 <| r_ishl D_X8_worn_53 <| r_iconst D_X8_worn_54 ki_m1 <| r_ixor D_X8_worn_55 <| r_iand D_X8_worn_56 <| r_iload D_X8_worn_57 rfl <| r_iconst D_X8_worn_59 ki_2 <| r_iload_n D_X8_worn_60 rfl <| r_imul D_X8_worn_61 <| r_ishl D_X8_worn_62 <| r_ior D_X8_worn_63 <| r_iret hq D_X8_worn_64 rfl (rtT h)
def f_X8_worn (M : Mem) (o : Nat) (a1 : Int32) (a2 : Int32) (a3 : Int32) : Int32 := if ((a1 >>> (((2 : Int32) * a2) &&& 31)) &&& (3 : Int32)) = 0 then (if (((M.1 o 9) >>> (a2 &&& 31)) &&& (1 : Int32)) = 0 then (if (0 : Int32) = 0 then (f_X8_worn_46 M o a1 a2 (2 : Int32)) else (if a3 = 0 then (f_X8_worn_46 M o a1 a2 (1 : Int32)) else (f_X8_worn_46 M o a1 a2 (3 : Int32)))) else (if (1 : Int32) = 0 then (f_X8_worn_46 M o a1 a2 (2 : Int32)) else (if a3 = 0 then (f_X8_worn_46 M o a1 a2 (1 : Int32)) else (f_X8_worn_46 M o a1 a2 (3 : Int32))))) else (if (0 : Int32) = 0 then (f_X8_worn_46 M o a1 a2 (2 : Int32)) else (if a3 = 0 then (f_X8_worn_46 M o a1 a2 (1 : Int32)) else (f_X8_worn_46 M o a1 a2 (3 : Int32))))
theorem x_X8_worn {l : Launch} {w : Wd} {M : Mem} {o : Nat} {a1 : Int32} {a2 : Int32} {a3 : Int32} {v : Int32} (ho : isTrip o) (h : f_X8_worn M o a1 a2 a3 = v) : Cn l w mi_X8_worn yX8_worn (0) [.ref (wq w o), .int a1, .int a2, .int a3] M (some (.int v), M) :=
  Cn_of (loc0 := [some (.ref (wq w o)), some (.int a1), some (.int a2), some (.int a3), none, none]) rfl rfl rfl (Nat.le_of_ble_eq_true rfl) fun κ hq => let_h (show (if ((a1 >>> (((2 : Int32) * a2) &&& 31)) &&& (3 : Int32)) = 0 then (if (((M.1 o 9) >>> (a2 &&& 31)) &&& (1 : Int32)) = 0 then (if (0 : Int32) = 0 then (f_X8_worn_46 M o a1 a2 (2 : Int32)) else (if a3 = 0 then (f_X8_worn_46 M o a1 a2 (1 : Int32)) else (f_X8_worn_46 M o a1 a2 (3 : Int32)))) else (if (1 : Int32) = 0 then (f_X8_worn_46 M o a1 a2 (2 : Int32)) else (if a3 = 0 then (f_X8_worn_46 M o a1 a2 (1 : Int32)) else (f_X8_worn_46 M o a1 a2 (3 : Int32))))) else (if (0 : Int32) = 0 then (f_X8_worn_46 M o a1 a2 (2 : Int32)) else (if a3 = 0 then (f_X8_worn_46 M o a1 a2 (1 : Int32)) else (f_X8_worn_46 M o a1 a2 (3 : Int32))))) = v from h) fun h => r_iload_n D_X8_worn_0 rfl <| r_iconst D_X8_worn_1 ki_2 <| r_iload_n D_X8_worn_2 rfl <| r_imul D_X8_worn_3 <| r_ishr D_X8_worn_4 <| r_iconst D_X8_worn_5 ki_3 <| r_iand D_X8_worn_6 <| r_if_ne D_X8_worn_7 (fun c1 => let_h (ifT c1 h) fun h => r_aload_n D_X8_worn_10 rfl <| r_getI D_X8_worn_11 fl_X8_46 ho.1 rfl <| r_iload_n D_X8_worn_14 rfl <| r_ishr D_X8_worn_15 <| r_iconst D_X8_worn_16 ki_1 <| r_iand D_X8_worn_17 <| r_if_eq D_X8_worn_18 (fun c2 => let_h (ifT c2 h) fun h => r_iconst D_X8_worn_25 ki_0 <| r_istore D_X8_worn_26 (by decide) rfl <| r_iload D_X8_worn_28 rfl <| r_if_ne D_X8_worn_30 (fun c3 => let_h (ifT c3 h) fun h => r_iconst D_X8_worn_33 ki_2 <| r_goto D_X8_worn_34 <| r_ls (x_X8_worn_46 hq ho a1 a2 (2 : Int32) h) ⟨rfl, ⟨rfl, trivial⟩⟩) (fun c3 => let_h (ifF c3 h) fun h => r_iload_n D_X8_worn_37 rfl <| r_if_eq D_X8_worn_38 (fun c4 => let_h (ifT c4 h) fun h => r_iconst D_X8_worn_45 ki_1 <| r_ls (x_X8_worn_46 hq ho a1 a2 (1 : Int32) h) ⟨rfl, ⟨rfl, trivial⟩⟩) (fun c4 => let_h (ifF c4 h) fun h => r_iconst D_X8_worn_41 ki_3 <| r_goto D_X8_worn_42 <| r_ls (x_X8_worn_46 hq ho a1 a2 (3 : Int32) h) ⟨rfl, ⟨rfl, trivial⟩⟩))) (fun c2 => let_h (ifF c2 h) fun h => r_iconst D_X8_worn_21 ki_1 <| r_goto D_X8_worn_22 <| r_istore D_X8_worn_26 (by decide) rfl <| r_iload D_X8_worn_28 rfl <| r_if_ne D_X8_worn_30 (fun c5 => let_h (ifT c5 h) fun h => r_iconst D_X8_worn_33 ki_2 <| r_goto D_X8_worn_34 <| r_ls (x_X8_worn_46 hq ho a1 a2 (2 : Int32) h) ⟨rfl, ⟨rfl, trivial⟩⟩) (fun c5 => let_h (ifF c5 h) fun h => r_iload_n D_X8_worn_37 rfl <| r_if_eq D_X8_worn_38 (fun c6 => let_h (ifT c6 h) fun h => r_iconst D_X8_worn_45 ki_1 <| r_ls (x_X8_worn_46 hq ho a1 a2 (1 : Int32) h) ⟨rfl, ⟨rfl, trivial⟩⟩) (fun c6 => let_h (ifF c6 h) fun h => r_iconst D_X8_worn_41 ki_3 <| r_goto D_X8_worn_42 <| r_ls (x_X8_worn_46 hq ho a1 a2 (3 : Int32) h) ⟨rfl, ⟨rfl, trivial⟩⟩)))) (fun c1 => let_h (ifF c1 h) fun h => r_iconst D_X8_worn_25 ki_0 <| r_istore D_X8_worn_26 (by decide) rfl <| r_iload D_X8_worn_28 rfl <| r_if_ne D_X8_worn_30 (fun c7 => let_h (ifT c7 h) fun h => r_iconst D_X8_worn_33 ki_2 <| r_goto D_X8_worn_34 <| r_ls (x_X8_worn_46 hq ho a1 a2 (2 : Int32) h) ⟨rfl, ⟨rfl, trivial⟩⟩) (fun c7 => let_h (ifF c7 h) fun h => r_iload_n D_X8_worn_37 rfl <| r_if_eq D_X8_worn_38 (fun c8 => let_h (ifT c8 h) fun h => r_iconst D_X8_worn_45 ki_1 <| r_ls (x_X8_worn_46 hq ho a1 a2 (1 : Int32) h) ⟨rfl, ⟨rfl, trivial⟩⟩) (fun c8 => let_h (ifF c8 h) fun h => r_iconst D_X8_worn_41 ki_3 <| r_goto D_X8_worn_42 <| r_ls (x_X8_worn_46 hq ho a1 a2 (3 : Int32) h) ⟨rfl, ⟨rfl, trivial⟩⟩)))
-- X8_morning
theorem D_X8_morning_0 : Dec mi_X8_morning 0 (.iload_n 1) 1 1 := ⟨by decide +kernel, rfl⟩
theorem D_X8_morning_1 : Dec mi_X8_morning 1 (.iload_n 1) 1 2 := ⟨by decide +kernel, rfl⟩
theorem D_X8_morning_2 : Dec mi_X8_morning 2 (.iconst 1) 1 3 := ⟨by decide +kernel, rfl⟩
theorem D_X8_morning_3 : Dec mi_X8_morning 3 (.ishr) 1 4 := ⟨by decide +kernel, rfl⟩
theorem D_X8_morning_4 : Dec mi_X8_morning 4 (.iand) 1 5 := ⟨by decide +kernel, rfl⟩
theorem D_X8_morning_5 : Dec mi_X8_morning 5 (.sipush 1365) 3 8 := ⟨by decide +kernel, rfl⟩
theorem D_X8_morning_8 : Dec mi_X8_morning 8 (.iand) 1 9 := ⟨by decide +kernel, rfl⟩
theorem D_X8_morning_9 : Dec mi_X8_morning 9 (.istore 6) 2 11 := ⟨by decide +kernel, rfl⟩
theorem D_X8_morning_11 : Dec mi_X8_morning 11 (.iload_n 1) 1 12 := ⟨by decide +kernel, rfl⟩
theorem D_X8_morning_12 : Dec mi_X8_morning 12 (.iconst 3) 1 13 := ⟨by decide +kernel, rfl⟩
theorem D_X8_morning_13 : Dec mi_X8_morning 13 (.iload 6) 2 15 := ⟨by decide +kernel, rfl⟩
theorem D_X8_morning_15 : Dec mi_X8_morning 15 (.imul) 1 16 := ⟨by decide +kernel, rfl⟩
theorem D_X8_morning_16 : Dec mi_X8_morning 16 (.iconst (-1)) 1 17 := ⟨by decide +kernel, rfl⟩
theorem D_X8_morning_17 : Dec mi_X8_morning 17 (.ixor) 1 18 := ⟨by decide +kernel, rfl⟩
theorem D_X8_morning_18 : Dec mi_X8_morning 18 (.iand) 1 19 := ⟨by decide +kernel, rfl⟩
theorem D_X8_morning_19 : Dec mi_X8_morning 19 (.istore 7) 2 21 := ⟨by decide +kernel, rfl⟩
theorem D_X8_morning_21 : Dec mi_X8_morning 21 (.aload_n 0) 1 22 := ⟨by decide +kernel, rfl⟩
theorem D_X8_morning_22 : Dec mi_X8_morning 22 (.iload 7) 2 24 := ⟨by decide +kernel, rfl⟩
theorem D_X8_morning_24 : Dec mi_X8_morning 24 (.iload_n 2) 1 25 := ⟨by decide +kernel, rfl⟩
theorem D_X8_morning_25 : Dec mi_X8_morning 25 (.iload 4) 2 27 := ⟨by decide +kernel, rfl⟩
theorem D_X8_morning_27 : Dec mi_X8_morning 27 (.invokevirtual 97) 3 30 := ⟨by decide +kernel, rfl⟩
theorem D_X8_morning_30 : Dec mi_X8_morning 30 (.istore 7) 2 32 := ⟨by decide +kernel, rfl⟩
theorem D_X8_morning_32 : Dec mi_X8_morning 32 (.aload_n 0) 1 33 := ⟨by decide +kernel, rfl⟩
theorem D_X8_morning_33 : Dec mi_X8_morning 33 (.iload 7) 2 35 := ⟨by decide +kernel, rfl⟩
theorem D_X8_morning_35 : Dec mi_X8_morning 35 (.iload_n 3) 1 36 := ⟨by decide +kernel, rfl⟩
theorem D_X8_morning_36 : Dec mi_X8_morning 36 (.iload 4) 2 38 := ⟨by decide +kernel, rfl⟩
theorem D_X8_morning_38 : Dec mi_X8_morning 38 (.invokevirtual 97) 3 41 := ⟨by decide +kernel, rfl⟩
theorem D_X8_morning_41 : Dec mi_X8_morning 41 (.istore 7) 2 43 := ⟨by decide +kernel, rfl⟩
theorem D_X8_morning_43 : Dec mi_X8_morning 43 (.iload 5) 2 45 := ⟨by decide +kernel, rfl⟩
theorem D_X8_morning_45 : DecJ mi_X8_morning 45 (.ifCond .ne 6) (6) 48 51 := ⟨by decide +kernel, rfl, by decide⟩
theorem D_X8_morning_48 : Dec mi_X8_morning 48 (.iload 7) 2 50 := ⟨by decide +kernel, rfl⟩
theorem D_X8_morning_50 : Dec mi_X8_morning 50 (.ireturn) 1 51 := ⟨by decide +kernel, rfl⟩
theorem D_X8_morning_51 : Dec mi_X8_morning 51 (.iload 7) 2 53 := ⟨by decide +kernel, rfl⟩
theorem D_X8_morning_53 : Dec mi_X8_morning 53 (.iload 7) 2 55 := ⟨by decide +kernel, rfl⟩
theorem D_X8_morning_55 : Dec mi_X8_morning 55 (.iconst 1) 1 56 := ⟨by decide +kernel, rfl⟩
theorem D_X8_morning_56 : Dec mi_X8_morning 56 (.ishr) 1 57 := ⟨by decide +kernel, rfl⟩
theorem D_X8_morning_57 : Dec mi_X8_morning 57 (.ixor) 1 58 := ⟨by decide +kernel, rfl⟩
theorem D_X8_morning_58 : Dec mi_X8_morning 58 (.sipush 1365) 3 61 := ⟨by decide +kernel, rfl⟩
theorem D_X8_morning_61 : Dec mi_X8_morning 61 (.iand) 1 62 := ⟨by decide +kernel, rfl⟩
theorem D_X8_morning_62 : Dec mi_X8_morning 62 (.istore 8) 2 64 := ⟨by decide +kernel, rfl⟩
theorem D_X8_morning_64 : Dec mi_X8_morning 64 (.iload 7) 2 66 := ⟨by decide +kernel, rfl⟩
theorem D_X8_morning_66 : Dec mi_X8_morning 66 (.iconst 3) 1 67 := ⟨by decide +kernel, rfl⟩
theorem D_X8_morning_67 : Dec mi_X8_morning 67 (.iload 8) 2 69 := ⟨by decide +kernel, rfl⟩
theorem D_X8_morning_69 : Dec mi_X8_morning 69 (.imul) 1 70 := ⟨by decide +kernel, rfl⟩
theorem D_X8_morning_70 : Dec mi_X8_morning 70 (.iconst (-1)) 1 71 := ⟨by decide +kernel, rfl⟩
theorem D_X8_morning_71 : Dec mi_X8_morning 71 (.ixor) 1 72 := ⟨by decide +kernel, rfl⟩
theorem D_X8_morning_72 : Dec mi_X8_morning 72 (.iand) 1 73 := ⟨by decide +kernel, rfl⟩
theorem D_X8_morning_73 : Dec mi_X8_morning 73 (.iconst 3) 1 74 := ⟨by decide +kernel, rfl⟩
theorem D_X8_morning_74 : Dec mi_X8_morning 74 (.iload 8) 2 76 := ⟨by decide +kernel, rfl⟩
theorem D_X8_morning_76 : Dec mi_X8_morning 76 (.aload_n 0) 1 77 := ⟨by decide +kernel, rfl⟩
theorem D_X8_morning_77 : Dec mi_X8_morning 77 (.getfield 49) 3 80 := ⟨by decide +kernel, rfl⟩
theorem D_X8_morning_80 : Dec mi_X8_morning 80 (.iand) 1 81 := ⟨by decide +kernel, rfl⟩
theorem D_X8_morning_81 : Dec mi_X8_morning 81 (.imul) 1 82 := ⟨by decide +kernel, rfl⟩
theorem D_X8_morning_82 : Dec mi_X8_morning 82 (.ior) 1 83 := ⟨by decide +kernel, rfl⟩
theorem D_X8_morning_83 : Dec mi_X8_morning 83 (.ireturn) 1 84 := ⟨by decide +kernel, rfl⟩
def f_X8_morning (M : Mem) (o : Nat) (a1 : Int32) (a2 : Int32) (a3 : Int32) (a4 : Int32) (a5 : Int32) : Int32 := vlet ((a1 &&& (a1 >>> ((1 : Int32) &&& 31))) &&& (1365 : Int32)) fun x1 => vlet (a1 &&& (((3 : Int32) * x1) ^^^ (-1 : Int32))) fun x2 => vlet (f_X8_worn M o (f_X8_worn M o x2 a2 a4) a3 a4) fun x3 => if a5 = 0 then (x3) else (vlet ((x3 ^^^ (x3 >>> ((1 : Int32) &&& 31))) &&& (1365 : Int32)) fun x5 => ((x3 &&& (((3 : Int32) * x5) ^^^ (-1 : Int32))) ||| ((3 : Int32) * (x5 &&& (M.1 o 10)))))
theorem x_X8_morning {l : Launch} {w : Wd} {M : Mem} {o : Nat} {a1 : Int32} {a2 : Int32} {a3 : Int32} {a4 : Int32} {a5 : Int32} {v : Int32} (ho : isTrip o) (h : f_X8_morning M o a1 a2 a3 a4 a5 = v) : Cn l w mi_X8_morning yX8_morning (1) [.ref (wq w o), .int a1, .int a2, .int a3, .int a4, .int a5] M (some (.int v), M) :=
  Cn_of (loc0 := [some (.ref (wq w o)), some (.int a1), some (.int a2), some (.int a3), some (.int a4), some (.int a5), none, none, none]) rfl rfl rfl (Nat.le_of_ble_eq_true rfl) fun κ hq => let_h (show (vlet ((a1 &&& (a1 >>> ((1 : Int32) &&& 31))) &&& (1365 : Int32)) fun x1 => vlet (a1 &&& (((3 : Int32) * x1) ^^^ (-1 : Int32))) fun x2 => vlet (f_X8_worn M o (f_X8_worn M o x2 a2 a4) a3 a4) fun x3 => if a5 = 0 then (x3) else (vlet ((x3 ^^^ (x3 >>> ((1 : Int32) &&& 31))) &&& (1365 : Int32)) fun x5 => ((x3 &&& (((3 : Int32) * x5) ^^^ (-1 : Int32))) ||| ((3 : Int32) * (x5 &&& (M.1 o 10)))))) = v from h) fun h => r_iload_n D_X8_morning_0 rfl <| r_iload_n D_X8_morning_1 rfl <| r_iconst D_X8_morning_2 ki_1 <| r_ishr D_X8_morning_3 <| r_iand D_X8_morning_4 <| r_sipush D_X8_morning_5 k16_1365 <| r_iand D_X8_morning_8 <| vlE (fun x1 => RR l w mi_X8_morning (1) κ 9 [.int x1] [some (.ref (wq w o)), some (.int a1), some (.int a2), some (.int a3), some (.int a4), some (.int a5), none, none, none] M) h fun x1 h => r_istore D_X8_morning_9 (by decide) rfl <| r_iload_n D_X8_morning_11 rfl <| r_iconst D_X8_morning_12 ki_3 <| r_iload D_X8_morning_13 rfl <| r_imul D_X8_morning_15 <| r_iconst D_X8_morning_16 ki_m1 <| r_ixor D_X8_morning_17 <| r_iand D_X8_morning_18 <| vlE (fun x2 => RR l w mi_X8_morning (1) κ 19 [.int x2] [some (.ref (wq w o)), some (.int a1), some (.int a2), some (.int a3), some (.int a4), some (.int a5), some (.int x1), none, none] M) h fun x2 h => r_istore D_X8_morning_19 (by decide) rfl <| r_aload_n D_X8_morning_21 rfl <| r_iload D_X8_morning_22 rfl <| r_iload_n D_X8_morning_24 rfl <| r_iload D_X8_morning_25 rfl <| r_callV (av := [.int x2, .int a2, .int a4]) D_X8_morning_27 ml_X8_97 mf_X8_worn mv_X8_worn ho.1 rfl rfl (x_X8_worn ho rfl) (Nat.le_of_ble_eq_true rfl) rfl rfl (Nat.le_of_ble_eq_true rfl) <| r_istore D_X8_morning_30 (by decide) rfl <| r_aload_n D_X8_morning_32 rfl <| r_iload D_X8_morning_33 rfl <| r_iload_n D_X8_morning_35 rfl <| r_iload D_X8_morning_36 rfl <| r_callV (av := [.int (f_X8_worn M o x2 a2 a4), .int a3, .int a4]) D_X8_morning_38 ml_X8_97 mf_X8_worn mv_X8_worn ho.1 rfl rfl (x_X8_worn ho rfl) (Nat.le_of_ble_eq_true rfl) rfl rfl (Nat.le_of_ble_eq_true rfl) <| vlE (fun x3 => RR l w mi_X8_morning (1) κ 41 [.int x3] [some (.ref (wq w o)), some (.int a1), some (.int a2), some (.int a3), some (.int a4), some (.int a5), some (.int x1), some (.int (f_X8_worn M o x2 a2 a4)), none] M) h fun x3 h => r_istore D_X8_morning_41 (by decide) rfl <| r_iload D_X8_morning_43 rfl <| r_if_ne D_X8_morning_45 (fun c4 => let_h (ifT c4 h) fun h => r_iload D_X8_morning_48 rfl <| r_iret hq D_X8_morning_50 rfl (rtT h)) (fun c4 => let_h (ifF c4 h) fun h => r_iload D_X8_morning_51 rfl <| r_iload D_X8_morning_53 rfl <| r_iconst D_X8_morning_55 ki_1 <| r_ishr D_X8_morning_56 <| r_ixor D_X8_morning_57 <| r_sipush D_X8_morning_58 k16_1365 <| r_iand D_X8_morning_61 <| vlE (fun x5 => RR l w mi_X8_morning (1) κ 62 [.int x5] [some (.ref (wq w o)), some (.int a1), some (.int a2), some (.int a3), some (.int a4), some (.int a5), some (.int x1), some (.int x3), none] M) h fun x5 h => r_istore D_X8_morning_62 (by decide) rfl <| r_iload D_X8_morning_64 rfl <| r_iconst D_X8_morning_66 ki_3 <| r_iload D_X8_morning_67 rfl <| r_imul D_X8_morning_69 <| r_iconst D_X8_morning_70 ki_m1 <| r_ixor D_X8_morning_71 <| r_iand D_X8_morning_72 <| r_iconst D_X8_morning_73 ki_3 <| r_iload D_X8_morning_74 rfl <| r_aload_n D_X8_morning_76 rfl <| r_getI D_X8_morning_77 fl_X8_49 ho.1 rfl <| r_iand D_X8_morning_80 <| r_imul D_X8_morning_81 <| r_ior D_X8_morning_82 <| r_iret hq D_X8_morning_83 rfl (rtT h))
-- X5_livesOnWith
theorem D_X5_livesOnWith_0 : Dec mi_X5_livesOnWith 0 (.iload_n 3) 1 1 := ⟨by decide +kernel, rfl⟩
theorem D_X5_livesOnWith_1 : Dec mi_X5_livesOnWith 1 (.bipush 6) 2 3 := ⟨by decide +kernel, rfl⟩
theorem D_X5_livesOnWith_3 : Dec mi_X5_livesOnWith 3 (.idiv) 1 4 := ⟨by decide +kernel, rfl⟩
theorem D_X5_livesOnWith_4 : Dec mi_X5_livesOnWith 4 (.istore 4) 2 6 := ⟨by decide +kernel, rfl⟩
theorem D_X5_livesOnWith_6 : Dec mi_X5_livesOnWith 6 (.iload_n 3) 1 7 := ⟨by decide +kernel, rfl⟩
theorem D_X5_livesOnWith_7 : Dec mi_X5_livesOnWith 7 (.bipush 6) 2 9 := ⟨by decide +kernel, rfl⟩
theorem D_X5_livesOnWith_9 : Dec mi_X5_livesOnWith 9 (.irem) 1 10 := ⟨by decide +kernel, rfl⟩
theorem D_X5_livesOnWith_10 : Dec mi_X5_livesOnWith 10 (.istore 5) 2 12 := ⟨by decide +kernel, rfl⟩
theorem D_X5_livesOnWith_12 : Dec mi_X5_livesOnWith 12 (.aload_n 0) 1 13 := ⟨by decide +kernel, rfl⟩
theorem D_X5_livesOnWith_13 : Dec mi_X5_livesOnWith 13 (.iload_n 1) 1 14 := ⟨by decide +kernel, rfl⟩
theorem D_X5_livesOnWith_14 : Dec mi_X5_livesOnWith 14 (.invokevirtual 52) 3 17 := ⟨by decide +kernel, rfl⟩
theorem D_X5_livesOnWith_17 : DecJ mi_X5_livesOnWith 17 (.ifCond .eq 29) (29) 20 46 := ⟨by decide +kernel, rfl, by decide⟩
theorem D_X5_livesOnWith_20 : Dec mi_X5_livesOnWith 20 (.aload_n 0) 1 21 := ⟨by decide +kernel, rfl⟩
theorem D_X5_livesOnWith_21 : Dec mi_X5_livesOnWith 21 (.getfield 34) 3 24 := ⟨by decide +kernel, rfl⟩
theorem D_X5_livesOnWith_24 : Dec mi_X5_livesOnWith 24 (.iload_n 2) 1 25 := ⟨by decide +kernel, rfl⟩
theorem D_X5_livesOnWith_25 : Dec mi_X5_livesOnWith 25 (.iload 4) 2 27 := ⟨by decide +kernel, rfl⟩
theorem D_X5_livesOnWith_27 : Dec mi_X5_livesOnWith 27 (.invokevirtual 105) 3 30 := ⟨by decide +kernel, rfl⟩
theorem D_X5_livesOnWith_30 : DecJ mi_X5_livesOnWith 30 (.ifCond .eq 16) (16) 33 46 := ⟨by decide +kernel, rfl, by decide⟩
theorem D_X5_livesOnWith_33 : Dec mi_X5_livesOnWith 33 (.aload_n 0) 1 34 := ⟨by decide +kernel, rfl⟩
theorem D_X5_livesOnWith_34 : Dec mi_X5_livesOnWith 34 (.getfield 34) 3 37 := ⟨by decide +kernel, rfl⟩
theorem D_X5_livesOnWith_37 : Dec mi_X5_livesOnWith 37 (.iload_n 2) 1 38 := ⟨by decide +kernel, rfl⟩
theorem D_X5_livesOnWith_38 : Dec mi_X5_livesOnWith 38 (.iload 5) 2 40 := ⟨by decide +kernel, rfl⟩
theorem D_X5_livesOnWith_40 : Dec mi_X5_livesOnWith 40 (.invokevirtual 105) 3 43 := ⟨by decide +kernel, rfl⟩
theorem D_X5_livesOnWith_43 : DecJ mi_X5_livesOnWith 43 (.ifCond .ne 5) (5) 46 48 := ⟨by decide +kernel, rfl, by decide⟩
theorem D_X5_livesOnWith_46 : Dec mi_X5_livesOnWith 46 (.iconst 0) 1 47 := ⟨by decide +kernel, rfl⟩
theorem D_X5_livesOnWith_47 : Dec mi_X5_livesOnWith 47 (.ireturn) 1 48 := ⟨by decide +kernel, rfl⟩
theorem D_X5_livesOnWith_48 : Dec mi_X5_livesOnWith 48 (.aload_n 0) 1 49 := ⟨by decide +kernel, rfl⟩
theorem D_X5_livesOnWith_49 : Dec mi_X5_livesOnWith 49 (.getfield 84) 3 52 := ⟨by decide +kernel, rfl⟩
theorem D_X5_livesOnWith_52 : Dec mi_X5_livesOnWith 52 (.iload_n 1) 1 53 := ⟨by decide +kernel, rfl⟩
theorem D_X5_livesOnWith_53 : Dec mi_X5_livesOnWith 53 (.ishr) 1 54 := ⟨by decide +kernel, rfl⟩
theorem D_X5_livesOnWith_54 : Dec mi_X5_livesOnWith 54 (.iconst 1) 1 55 := ⟨by decide +kernel, rfl⟩
theorem D_X5_livesOnWith_55 : Dec mi_X5_livesOnWith 55 (.iand) 1 56 := ⟨by decide +kernel, rfl⟩
theorem D_X5_livesOnWith_56 : DecJ mi_X5_livesOnWith 56 (.ifCond .eq 7) (7) 59 63 := ⟨by decide +kernel, rfl, by decide⟩
theorem D_X5_livesOnWith_59 : Dec mi_X5_livesOnWith 59 (.iconst 1) 1 60 := ⟨by decide +kernel, rfl⟩
theorem D_X5_livesOnWith_60 : DecJ mi_X5_livesOnWith 60 (.goto 4) (4) 63 64 := ⟨by decide +kernel, rfl, by decide⟩
theorem D_X5_livesOnWith_63 : Dec mi_X5_livesOnWith 63 (.iconst 0) 1 64 := ⟨by decide +kernel, rfl⟩
theorem D_X5_livesOnWith_64 : Dec mi_X5_livesOnWith 64 (.istore 6) 2 66 := ⟨by decide +kernel, rfl⟩
theorem D_X5_livesOnWith_66 : Dec mi_X5_livesOnWith 66 (.aload_n 0) 1 67 := ⟨by decide +kernel, rfl⟩
theorem D_X5_livesOnWith_67 : Dec mi_X5_livesOnWith 67 (.getfield 18) 3 70 := ⟨by decide +kernel, rfl⟩
theorem D_X5_livesOnWith_70 : Dec mi_X5_livesOnWith 70 (.iload_n 1) 1 71 := ⟨by decide +kernel, rfl⟩
theorem D_X5_livesOnWith_71 : Dec mi_X5_livesOnWith 71 (.iload_n 3) 1 72 := ⟨by decide +kernel, rfl⟩
theorem D_X5_livesOnWith_72 : Dec mi_X5_livesOnWith 72 (.iastore) 1 73 := ⟨by decide +kernel, rfl⟩
theorem D_X5_livesOnWith_73 : Dec mi_X5_livesOnWith 73 (.iconst 0) 1 74 := ⟨by decide +kernel, rfl⟩
theorem D_X5_livesOnWith_74 : Dec mi_X5_livesOnWith 74 (.istore 7) 2 76 := ⟨by decide +kernel, rfl⟩
theorem D_X5_livesOnWith_76 : Dec mi_X5_livesOnWith 76 (.iload 7) 2 78 := ⟨by decide +kernel, rfl⟩
theorem D_X5_livesOnWith_78 : Dec mi_X5_livesOnWith 78 (.aload_n 0) 1 79 := ⟨by decide +kernel, rfl⟩
theorem D_X5_livesOnWith_79 : Dec mi_X5_livesOnWith 79 (.getfield 34) 3 82 := ⟨by decide +kernel, rfl⟩
theorem D_X5_livesOnWith_82 : Dec mi_X5_livesOnWith 82 (.iload_n 1) 1 83 := ⟨by decide +kernel, rfl⟩
theorem D_X5_livesOnWith_83 : Dec mi_X5_livesOnWith 83 (.iconst 2) 1 84 := ⟨by decide +kernel, rfl⟩
theorem D_X5_livesOnWith_84 : Dec mi_X5_livesOnWith 84 (.invokevirtual 108) 3 87 := ⟨by decide +kernel, rfl⟩
theorem D_X5_livesOnWith_87 : DecJ mi_X5_livesOnWith 87 (.if_icmp .gt 54) (54) 90 141 := ⟨by decide +kernel, rfl, by decide⟩
theorem D_X5_livesOnWith_90 : Dec mi_X5_livesOnWith 90 (.aload_n 0) 1 91 := ⟨by decide +kernel, rfl⟩
theorem D_X5_livesOnWith_91 : Dec mi_X5_livesOnWith 91 (.getfield 21) 3 94 := ⟨by decide +kernel, rfl⟩
theorem D_X5_livesOnWith_94 : Dec mi_X5_livesOnWith 94 (.iload_n 1) 1 95 := ⟨by decide +kernel, rfl⟩
theorem D_X5_livesOnWith_95 : Dec mi_X5_livesOnWith 95 (.iload 7) 2 97 := ⟨by decide +kernel, rfl⟩
theorem D_X5_livesOnWith_97 : Dec mi_X5_livesOnWith 97 (.iastore) 1 98 := ⟨by decide +kernel, rfl⟩
theorem D_X5_livesOnWith_98 : Dec mi_X5_livesOnWith 98 (.aload_n 0) 1 99 := ⟨by decide +kernel, rfl⟩
theorem D_X5_livesOnWith_99 : Dec mi_X5_livesOnWith 99 (.iload_n 1) 1 100 := ⟨by decide +kernel, rfl⟩
theorem D_X5_livesOnWith_100 : Dec mi_X5_livesOnWith 100 (.iconst 1) 1 101 := ⟨by decide +kernel, rfl⟩
theorem D_X5_livesOnWith_101 : Dec mi_X5_livesOnWith 101 (.iadd) 1 102 := ⟨by decide +kernel, rfl⟩
theorem D_X5_livesOnWith_102 : Dec mi_X5_livesOnWith 102 (.aload_n 0) 1 103 := ⟨by decide +kernel, rfl⟩
theorem D_X5_livesOnWith_103 : Dec mi_X5_livesOnWith 103 (.getfield 34) 3 106 := ⟨by decide +kernel, rfl⟩
theorem D_X5_livesOnWith_106 : Dec mi_X5_livesOnWith 106 (.iload_n 2) 1 107 := ⟨by decide +kernel, rfl⟩
theorem D_X5_livesOnWith_107 : Dec mi_X5_livesOnWith 107 (.iload 4) 2 109 := ⟨by decide +kernel, rfl⟩
theorem D_X5_livesOnWith_109 : Dec mi_X5_livesOnWith 109 (.iload 5) 2 111 := ⟨by decide +kernel, rfl⟩
theorem D_X5_livesOnWith_111 : Dec mi_X5_livesOnWith 111 (.iload 6) 2 113 := ⟨by decide +kernel, rfl⟩
theorem D_X5_livesOnWith_113 : Dec mi_X5_livesOnWith 113 (.iload 7) 2 115 := ⟨by decide +kernel, rfl⟩
theorem D_X5_livesOnWith_115 : Dec mi_X5_livesOnWith 115 (.iconst 1) 1 116 := ⟨by decide +kernel, rfl⟩
theorem D_X5_livesOnWith_116 : DecJ mi_X5_livesOnWith 116 (.if_icmp .ne 7) (7) 119 123 := ⟨by decide +kernel, rfl, by decide⟩
theorem D_X5_livesOnWith_119 : Dec mi_X5_livesOnWith 119 (.iconst 1) 1 120 := ⟨by decide +kernel, rfl⟩
theorem D_X5_livesOnWith_120 : DecJ mi_X5_livesOnWith 120 (.goto 4) (4) 123 124 := ⟨by decide +kernel, rfl, by decide⟩
theorem D_X5_livesOnWith_123 : Dec mi_X5_livesOnWith 123 (.iconst 0) 1 124 := ⟨by decide +kernel, rfl⟩
theorem D_X5_livesOnWith_124 : Dec mi_X5_livesOnWith 124 (.invokevirtual 112) 3 127 := ⟨by decide +kernel, rfl⟩
theorem D_X5_livesOnWith_127 : Dec mi_X5_livesOnWith 127 (.invokevirtual 48) 3 130 := ⟨by decide +kernel, rfl⟩
theorem D_X5_livesOnWith_130 : DecJ mi_X5_livesOnWith 130 (.ifCond .eq 5) (5) 133 135 := ⟨by decide +kernel, rfl, by decide⟩
theorem D_X5_livesOnWith_133 : Dec mi_X5_livesOnWith 133 (.iconst 1) 1 134 := ⟨by decide +kernel, rfl⟩
theorem D_X5_livesOnWith_134 : Dec mi_X5_livesOnWith 134 (.ireturn) 1 135 := ⟨by decide +kernel, rfl⟩
theorem D_X5_livesOnWith_135 : Dec mi_X5_livesOnWith 135 (.iinc 7 1) 3 138 := ⟨by decide +kernel, rfl⟩
theorem D_X5_livesOnWith_138 : DecJ mi_X5_livesOnWith 138 (.goto (-62)) (-62) 141 76 := ⟨by decide +kernel, rfl, by decide⟩
theorem D_X5_livesOnWith_141 : Dec mi_X5_livesOnWith 141 (.iconst 0) 1 142 := ⟨by decide +kernel, rfl⟩
theorem D_X5_livesOnWith_142 : Dec mi_X5_livesOnWith 142 (.ireturn) 1 143 := ⟨by decide +kernel, rfl⟩
def f_X5_livesOnWith_76 (F : Nat) (KR : Mem → Int32 → Int32 → Option (Int32 × Mem)) : Nat → Int32 → Int32 → Int32 → Int32 → Int32 → Int32 → Mem → Option (Int32 × Mem)
  | 0, _, _, _, _, _, _, _ => none
  | n + 1, y1, y2, y4, y5, y6, y7, N => (f_X8_want N 3 y1 (2 : Int32)).bind fun x1 => if x1 < y7 then (some ((0 : Int32), N)) else (if ck y1 8 = true then (vlet (setI N 21 y1.toNatClampNeg y7) fun M5 => if y7 = (1 : Int32) then ((KR M5 (y1 + (1 : Int32)) (f_X8_morning M5 3 y2 y4 y5 y6 (1 : Int32))).bind fun p7 => if p7.1 = 0 then (f_X5_livesOnWith_76 F KR n y1 y2 y4 y5 y6 (y7 + (1 : Int32)) p7.2) else (some ((1 : Int32), p7.2))) else ((KR M5 (y1 + (1 : Int32)) (f_X8_morning M5 3 y2 y4 y5 y6 (0 : Int32))).bind fun p10 => if p10.1 = 0 then (f_X5_livesOnWith_76 F KR n y1 y2 y4 y5 y6 (y7 + (1 : Int32)) p10.2) else (some ((1 : Int32), p10.2)))) else none)
theorem x_X5_livesOnWith_76 {l : Launch} {w : Wd} {κ : Kp} {F : Nat} {dK : Nat} {KR : Mem → Int32 → Int32 → Option (Int32 × Mem)} {v : Int32 × Mem} (hq : RQ w (some (.int v.1), v.2) κ) (hdK : 6 ≤ dK) (hKR : ∀ (N : Mem) (a b : Int32) (v : Int32 × Mem), KR N a b = some v → Cn l w mi_X5_livesOn yX5_livesOn dK [.ref (wq w 17), .int a, .int b] N (some (.int v.1), v.2)) : ∀ (n : Nat) (y1 : Int32) (y2 : Int32) (y4 : Int32) (y5 : Int32) (y6 : Int32) (y7 : Int32) (N : Mem), f_X5_livesOnWith_76 F KR n y1 y2 y4 y5 y6 y7 N = some v → RR l w mi_X5_livesOnWith (dK + 1) κ 76 [] [some (.ref (wq w 17)), some (.int y1), some (.int y2), none, some (.int y4), some (.int y5), some (.int y6), some (.int y7)] N
  | 0, _, _, _, _, _, _, _, h => nomatch h
  | n + 1, y1, y2, y4, y5, y6, y7, N, h => let_h (show ((f_X8_want N 3 y1 (2 : Int32)).bind fun x1 => if x1 < y7 then (some ((0 : Int32), N)) else (if ck y1 8 = true then (vlet (setI N 21 y1.toNatClampNeg y7) fun M5 => if y7 = (1 : Int32) then ((KR M5 (y1 + (1 : Int32)) (f_X8_morning M5 3 y2 y4 y5 y6 (1 : Int32))).bind fun p7 => if p7.1 = 0 then (f_X5_livesOnWith_76 F KR n y1 y2 y4 y5 y6 (y7 + (1 : Int32)) p7.2) else (some ((1 : Int32), p7.2))) else ((KR M5 (y1 + (1 : Int32)) (f_X8_morning M5 3 y2 y4 y5 y6 (0 : Int32))).bind fun p10 => if p10.1 = 0 then (f_X5_livesOnWith_76 F KR n y1 y2 y4 y5 y6 (y7 + (1 : Int32)) p10.2) else (some ((1 : Int32), p10.2)))) else none)) = some v from h) fun h => r_iload D_X5_livesOnWith_76 rfl <| r_aload_n D_X5_livesOnWith_78 rfl <| r_getR (j := 3) D_X5_livesOnWith_79 fl_X5_34 s_17 rfl <| r_iload_n D_X5_livesOnWith_82 rfl <| r_iconst D_X5_livesOnWith_83 ki_2 <| (bdE h).elim fun x1 q2 => let_h q2.2 fun h => r_callV (av := [.int y1, .int (2 : Int32)]) D_X5_livesOnWith_84 ml_X5_108 mf_X8_want mv_X8_want s_3 rfl rfl (x_X8_want trip_3 q2.1) (by omega) rfl rfl (Nat.le_of_ble_eq_true rfl) <| r_icmp_gt D_X5_livesOnWith_87 (fun c3 => let_h (ifT c3 h) fun h => r_iconst D_X5_livesOnWith_141 ki_0 <| r_zret hq D_X5_livesOnWith_142 rfl rfl (rtW h)) (fun c3 => let_h (ifF c3 h) fun h => r_aload_n D_X5_livesOnWith_90 rfl <| r_getR (j := 21) D_X5_livesOnWith_91 fl_X5_21 s_17 rfl <| r_iload_n D_X5_livesOnWith_94 rfl <| r_iload D_X5_livesOnWith_95 rfl <| (ckE h).elim fun c4 h => r_iast D_X5_livesOnWith_97 s_21 c4 <| mlE h fun M5 h => r_aload_n D_X5_livesOnWith_98 rfl <| r_iload_n D_X5_livesOnWith_99 rfl <| r_iconst D_X5_livesOnWith_100 ki_1 <| r_iadd D_X5_livesOnWith_101 <| r_aload_n D_X5_livesOnWith_102 rfl <| r_getR (j := 3) D_X5_livesOnWith_103 fl_X5_34 s_17 rfl <| r_iload_n D_X5_livesOnWith_106 rfl <| r_iload D_X5_livesOnWith_107 rfl <| r_iload D_X5_livesOnWith_109 rfl <| r_iload D_X5_livesOnWith_111 rfl <| r_iload D_X5_livesOnWith_113 rfl <| r_iconst D_X5_livesOnWith_115 ki_1 <| r_icmp_ne D_X5_livesOnWith_116 (fun c6 => let_h (ifT c6 h) fun h => r_iconst D_X5_livesOnWith_119 ki_1 <| r_goto D_X5_livesOnWith_120 <| r_callV (av := [.int y2, .int y4, .int y5, .int y6, .int (1 : Int32)]) D_X5_livesOnWith_124 ml_X5_112 mf_X8_morning mv_X8_morning s_3 rfl rfl (x_X8_morning trip_3 rfl) (by omega) rfl rfl (Nat.le_of_ble_eq_true rfl) <| (bdE h).elim fun p7 q8 => let_h q8.2 fun h => r_callV (av := [.int (y1 + (1 : Int32)), .int (f_X8_morning M5 3 y2 y4 y5 y6 (1 : Int32))]) D_X5_livesOnWith_127 ml_X5_48 mf_X5_livesOn mv_X5_livesOn s_17 rfl rfl (hKR _ _ _ _ q8.1) (by omega) rfl rfl (Nat.le_of_ble_eq_true rfl) <| r_if_eq D_X5_livesOnWith_130 (fun c9 => let_h (ifT c9 h) fun h => r_iinc D_X5_livesOnWith_135 rfl ki_1 (by decide) rfl <| r_goto D_X5_livesOnWith_138 <| r_ls (x_X5_livesOnWith_76 hq hdK hKR n y1 y2 y4 y5 y6 (y7 + (1 : Int32)) p7.2 h) ⟨rfl, ⟨rfl, ⟨rfl, ⟨rfl, ⟨rfl, ⟨rfl, ⟨rfl, trivial⟩⟩⟩⟩⟩⟩⟩) (fun c9 => let_h (ifF c9 h) fun h => r_iconst D_X5_livesOnWith_133 ki_1 <| r_zret hq D_X5_livesOnWith_134 rfl rfl (rtW h))) (fun c6 => let_h (ifF c6 h) fun h => r_iconst D_X5_livesOnWith_123 ki_0 <| r_callV (av := [.int y2, .int y4, .int y5, .int y6, .int (0 : Int32)]) D_X5_livesOnWith_124 ml_X5_112 mf_X8_morning mv_X8_morning s_3 rfl rfl (x_X8_morning trip_3 rfl) (by omega) rfl rfl (Nat.le_of_ble_eq_true rfl) <| (bdE h).elim fun p10 q11 => let_h q11.2 fun h => r_callV (av := [.int (y1 + (1 : Int32)), .int (f_X8_morning M5 3 y2 y4 y5 y6 (0 : Int32))]) D_X5_livesOnWith_127 ml_X5_48 mf_X5_livesOn mv_X5_livesOn s_17 rfl rfl (hKR _ _ _ _ q11.1) (by omega) rfl rfl (Nat.le_of_ble_eq_true rfl) <| r_if_eq D_X5_livesOnWith_130 (fun c12 => let_h (ifT c12 h) fun h => r_iinc D_X5_livesOnWith_135 rfl ki_1 (by decide) rfl <| r_goto D_X5_livesOnWith_138 <| r_ls (x_X5_livesOnWith_76 hq hdK hKR n y1 y2 y4 y5 y6 (y7 + (1 : Int32)) p10.2 h) ⟨rfl, ⟨rfl, ⟨rfl, ⟨rfl, ⟨rfl, ⟨rfl, ⟨rfl, trivial⟩⟩⟩⟩⟩⟩⟩) (fun c12 => let_h (ifF c12 h) fun h => r_iconst D_X5_livesOnWith_133 ki_1 <| r_zret hq D_X5_livesOnWith_134 rfl rfl (rtW h))))
def f_X5_livesOnWith (F : Nat) (KR : Mem → Int32 → Int32 → Option (Int32 × Mem)) (M : Mem) (a1 : Int32) (a2 : Int32) (a3 : Int32) : Option (Int32 × Mem) := vlet (a3 - a3 / (6 : Int32) * (6 : Int32)) fun x1 => if (f_X5_isDay M a1) = 0 then (some ((0 : Int32), M)) else (if (f_X8_isReady M 3 a2 (a3 / (6 : Int32))) = 0 then (some ((0 : Int32), M)) else (if (f_X8_isReady M 3 a2 x1) = 0 then (some ((0 : Int32), M)) else (if (((M.1 17 8) >>> (a1 &&& 31)) &&& (1 : Int32)) = 0 then (if ck a1 8 = true then (vlet (setI M 20 a1.toNatClampNeg a3) fun M7 => f_X5_livesOnWith_76 F KR F a1 a2 (a3 / (6 : Int32)) x1 (0 : Int32) (0 : Int32) M7) else none) else (if ck a1 8 = true then (vlet (setI M 20 a1.toNatClampNeg a3) fun M9 => f_X5_livesOnWith_76 F KR F a1 a2 (a3 / (6 : Int32)) x1 (1 : Int32) (0 : Int32) M9) else none))))
theorem x_X5_livesOnWith {l : Launch} {w : Wd} {F : Nat} {dK : Nat} {KR : Mem → Int32 → Int32 → Option (Int32 × Mem)} {M : Mem} {a1 : Int32} {a2 : Int32} {a3 : Int32} {v : Int32 × Mem} (hdK : 6 ≤ dK) (hKR : ∀ (N : Mem) (a b : Int32) (v : Int32 × Mem), KR N a b = some v → Cn l w mi_X5_livesOn yX5_livesOn dK [.ref (wq w 17), .int a, .int b] N (some (.int v.1), v.2)) (h : f_X5_livesOnWith F KR M a1 a2 a3 = some v) : Cn l w mi_X5_livesOnWith yX5_livesOnWith (dK + 1) [.ref (wq w 17), .int a1, .int a2, .int a3] M (some (.int v.1), v.2) :=
  Cn_of (loc0 := [some (.ref (wq w 17)), some (.int a1), some (.int a2), some (.int a3), none, none, none, none]) rfl rfl rfl (Nat.le_of_ble_eq_true rfl) fun κ hq => let_h (show (vlet (a3 - a3 / (6 : Int32) * (6 : Int32)) fun x1 => if (f_X5_isDay M a1) = 0 then (some ((0 : Int32), M)) else (if (f_X8_isReady M 3 a2 (a3 / (6 : Int32))) = 0 then (some ((0 : Int32), M)) else (if (f_X8_isReady M 3 a2 x1) = 0 then (some ((0 : Int32), M)) else (if (((M.1 17 8) >>> (a1 &&& 31)) &&& (1 : Int32)) = 0 then (if ck a1 8 = true then (vlet (setI M 20 a1.toNatClampNeg a3) fun M7 => f_X5_livesOnWith_76 F KR F a1 a2 (a3 / (6 : Int32)) x1 (0 : Int32) (0 : Int32) M7) else none) else (if ck a1 8 = true then (vlet (setI M 20 a1.toNatClampNeg a3) fun M9 => f_X5_livesOnWith_76 F KR F a1 a2 (a3 / (6 : Int32)) x1 (1 : Int32) (0 : Int32) M9) else none))))) = some v from h) fun h => r_iload_n D_X5_livesOnWith_0 rfl <| r_bipush D_X5_livesOnWith_1 k8_6 <| r_idiv D_X5_livesOnWith_3 (by decide) <| r_istore D_X5_livesOnWith_4 (by decide) rfl <| r_iload_n D_X5_livesOnWith_6 rfl <| r_bipush D_X5_livesOnWith_7 k8_6 <| r_irem D_X5_livesOnWith_9 (by decide) <| vlE (fun x1 => RR l w mi_X5_livesOnWith (dK + 1) κ 10 [.int x1] [some (.ref (wq w 17)), some (.int a1), some (.int a2), some (.int a3), some (.int (a3 / (6 : Int32))), none, none, none] M) h fun x1 h => r_istore D_X5_livesOnWith_10 (by decide) rfl <| r_aload_n D_X5_livesOnWith_12 rfl <| r_iload_n D_X5_livesOnWith_13 rfl <| r_callV (av := [.int a1]) D_X5_livesOnWith_14 ml_X5_52 mf_X5_isDay mv_X5_isDay s_17 rfl rfl (x_X5_isDay rfl) (by omega) rfl rfl (Nat.le_of_ble_eq_true rfl) <| r_if_eq D_X5_livesOnWith_17 (fun c2 => let_h (ifT c2 h) fun h => r_iconst D_X5_livesOnWith_46 ki_0 <| r_zret hq D_X5_livesOnWith_47 rfl rfl (rtW h)) (fun c2 => let_h (ifF c2 h) fun h => r_aload_n D_X5_livesOnWith_20 rfl <| r_getR (j := 3) D_X5_livesOnWith_21 fl_X5_34 s_17 rfl <| r_iload_n D_X5_livesOnWith_24 rfl <| r_iload D_X5_livesOnWith_25 rfl <| r_callV (av := [.int a2, .int (a3 / (6 : Int32))]) D_X5_livesOnWith_27 ml_X5_105 mf_X8_isReady mv_X8_isReady s_3 rfl rfl (x_X8_isReady trip_3 rfl) (by omega) rfl rfl (Nat.le_of_ble_eq_true rfl) <| r_if_eq D_X5_livesOnWith_30 (fun c3 => let_h (ifT c3 h) fun h => r_iconst D_X5_livesOnWith_46 ki_0 <| r_zret hq D_X5_livesOnWith_47 rfl rfl (rtW h)) (fun c3 => let_h (ifF c3 h) fun h => r_aload_n D_X5_livesOnWith_33 rfl <| r_getR (j := 3) D_X5_livesOnWith_34 fl_X5_34 s_17 rfl <| r_iload_n D_X5_livesOnWith_37 rfl <| r_iload D_X5_livesOnWith_38 rfl <| r_callV (av := [.int a2, .int x1]) D_X5_livesOnWith_40 ml_X5_105 mf_X8_isReady mv_X8_isReady s_3 rfl rfl (x_X8_isReady trip_3 rfl) (by omega) rfl rfl (Nat.le_of_ble_eq_true rfl) <| r_if_ne D_X5_livesOnWith_43 (fun c4 => let_h (ifT c4 h) fun h => r_iconst D_X5_livesOnWith_46 ki_0 <| r_zret hq D_X5_livesOnWith_47 rfl rfl (rtW h)) (fun c4 => let_h (ifF c4 h) fun h => r_aload_n D_X5_livesOnWith_48 rfl <| r_getI D_X5_livesOnWith_49 fl_X5_84 s_17 rfl <| r_iload_n D_X5_livesOnWith_52 rfl <| r_ishr D_X5_livesOnWith_53 <| r_iconst D_X5_livesOnWith_54 ki_1 <| r_iand D_X5_livesOnWith_55 <| r_if_eq D_X5_livesOnWith_56 (fun c5 => let_h (ifT c5 h) fun h => r_iconst D_X5_livesOnWith_63 ki_0 <| r_istore D_X5_livesOnWith_64 (by decide) rfl <| r_aload_n D_X5_livesOnWith_66 rfl <| r_getR (j := 20) D_X5_livesOnWith_67 fl_X5_18 s_17 rfl <| r_iload_n D_X5_livesOnWith_70 rfl <| r_iload_n D_X5_livesOnWith_71 rfl <| (ckE h).elim fun c6 h => r_iast D_X5_livesOnWith_72 s_20 c6 <| mlE h fun M7 h => r_iconst D_X5_livesOnWith_73 ki_0 <| r_istore D_X5_livesOnWith_74 (by decide) rfl <| r_ls (x_X5_livesOnWith_76 hq hdK hKR F a1 a2 (a3 / (6 : Int32)) x1 (0 : Int32) (0 : Int32) M7 h) ⟨rfl, ⟨rfl, ⟨rfl, ⟨rfl, ⟨rfl, ⟨rfl, ⟨rfl, trivial⟩⟩⟩⟩⟩⟩⟩) (fun c5 => let_h (ifF c5 h) fun h => r_iconst D_X5_livesOnWith_59 ki_1 <| r_goto D_X5_livesOnWith_60 <| r_istore D_X5_livesOnWith_64 (by decide) rfl <| r_aload_n D_X5_livesOnWith_66 rfl <| r_getR (j := 20) D_X5_livesOnWith_67 fl_X5_18 s_17 rfl <| r_iload_n D_X5_livesOnWith_70 rfl <| r_iload_n D_X5_livesOnWith_71 rfl <| (ckE h).elim fun c8 h => r_iast D_X5_livesOnWith_72 s_20 c8 <| mlE h fun M9 h => r_iconst D_X5_livesOnWith_73 ki_0 <| r_istore D_X5_livesOnWith_74 (by decide) rfl <| r_ls (x_X5_livesOnWith_76 hq hdK hKR F a1 a2 (a3 / (6 : Int32)) x1 (1 : Int32) (0 : Int32) M9 h) ⟨rfl, ⟨rfl, ⟨rfl, ⟨rfl, ⟨rfl, ⟨rfl, ⟨rfl, trivial⟩⟩⟩⟩⟩⟩⟩))))
-- X5_livesOn
theorem D_X5_livesOn_0 : Dec mi_X5_livesOn 0 (.iload_n 1) 1 1 := ⟨by decide +kernel, rfl⟩
theorem D_X5_livesOn_1 : Dec mi_X5_livesOn 1 (.aload_n 0) 1 2 := ⟨by decide +kernel, rfl⟩
theorem D_X5_livesOn_2 : Dec mi_X5_livesOn 2 (.getfield 34) 3 5 := ⟨by decide +kernel, rfl⟩
theorem D_X5_livesOn_5 : Dec mi_X5_livesOn 5 (.invokevirtual 56) 3 8 := ⟨by decide +kernel, rfl⟩
theorem D_X5_livesOn_8 : DecJ mi_X5_livesOn 8 (.if_icmp .lt 5) (5) 11 13 := ⟨by decide +kernel, rfl, by decide⟩
theorem D_X5_livesOn_11 : Dec mi_X5_livesOn 11 (.iconst 1) 1 12 := ⟨by decide +kernel, rfl⟩
theorem D_X5_livesOn_12 : Dec mi_X5_livesOn 12 (.ireturn) 1 13 := ⟨by decide +kernel, rfl⟩
theorem D_X5_livesOn_13 : Dec mi_X5_livesOn 13 (.aload_n 0) 1 14 := ⟨by decide +kernel, rfl⟩
theorem D_X5_livesOn_14 : Dec mi_X5_livesOn 14 (.iload_n 1) 1 15 := ⟨by decide +kernel, rfl⟩
theorem D_X5_livesOn_15 : Dec mi_X5_livesOn 15 (.invokevirtual 52) 3 18 := ⟨by decide +kernel, rfl⟩
theorem D_X5_livesOn_18 : DecJ mi_X5_livesOn 18 (.ifCond .eq 14) (14) 21 32 := ⟨by decide +kernel, rfl, by decide⟩
theorem D_X5_livesOn_21 : Dec mi_X5_livesOn 21 (.iload_n 2) 1 22 := ⟨by decide +kernel, rfl⟩
theorem D_X5_livesOn_22 : DecJ mi_X5_livesOn 22 (.ifCond .lt 10) (10) 25 32 := ⟨by decide +kernel, rfl, by decide⟩
theorem D_X5_livesOn_25 : Dec mi_X5_livesOn 25 (.iload_n 2) 1 26 := ⟨by decide +kernel, rfl⟩
theorem D_X5_livesOn_26 : Dec mi_X5_livesOn 26 (.sipush 4096) 3 29 := ⟨by decide +kernel, rfl⟩
theorem D_X5_livesOn_29 : DecJ mi_X5_livesOn 29 (.if_icmp .lt 5) (5) 32 34 := ⟨by decide +kernel, rfl, by decide⟩
theorem D_X5_livesOn_32 : Dec mi_X5_livesOn 32 (.iconst 0) 1 33 := ⟨by decide +kernel, rfl⟩
theorem D_X5_livesOn_33 : Dec mi_X5_livesOn 33 (.ireturn) 1 34 := ⟨by decide +kernel, rfl⟩
theorem D_X5_livesOn_34 : Dec mi_X5_livesOn 34 (.iload_n 1) 1 35 := ⟨by decide +kernel, rfl⟩
theorem D_X5_livesOn_35 : Dec mi_X5_livesOn 35 (.bipush 64) 2 37 := ⟨by decide +kernel, rfl⟩
theorem D_X5_livesOn_37 : Dec mi_X5_livesOn 37 (.imul) 1 38 := ⟨by decide +kernel, rfl⟩
theorem D_X5_livesOn_38 : Dec mi_X5_livesOn 38 (.iload_n 2) 1 39 := ⟨by decide +kernel, rfl⟩
theorem D_X5_livesOn_39 : Dec mi_X5_livesOn 39 (.bipush 64) 2 41 := ⟨by decide +kernel, rfl⟩
theorem D_X5_livesOn_41 : Dec mi_X5_livesOn 41 (.idiv) 1 42 := ⟨by decide +kernel, rfl⟩
theorem D_X5_livesOn_42 : Dec mi_X5_livesOn 42 (.iadd) 1 43 := ⟨by decide +kernel, rfl⟩
theorem D_X5_livesOn_43 : Dec mi_X5_livesOn 43 (.istore_n 3) 1 44 := ⟨by decide +kernel, rfl⟩
theorem D_X5_livesOn_44 : Dec mi_X5_livesOn 44 (.aload_n 0) 1 45 := ⟨by decide +kernel, rfl⟩
theorem D_X5_livesOn_45 : Dec mi_X5_livesOn 45 (.getfield 24) 3 48 := ⟨by decide +kernel, rfl⟩
theorem D_X5_livesOn_48 : Dec mi_X5_livesOn 48 (.iload_n 3) 1 49 := ⟨by decide +kernel, rfl⟩
theorem D_X5_livesOn_49 : Dec mi_X5_livesOn 49 (.laload) 1 50 := ⟨by decide +kernel, rfl⟩
theorem D_X5_livesOn_50 : Dec mi_X5_livesOn 50 (.iload_n 2) 1 51 := ⟨by decide +kernel, rfl⟩
theorem D_X5_livesOn_51 : Dec mi_X5_livesOn 51 (.bipush 64) 2 53 := ⟨by decide +kernel, rfl⟩
theorem D_X5_livesOn_53 : Dec mi_X5_livesOn 53 (.irem) 1 54 := ⟨by decide +kernel, rfl⟩
theorem D_X5_livesOn_54 : Dec mi_X5_livesOn 54 (.lshr) 1 55 := ⟨by decide +kernel, rfl⟩
theorem D_X5_livesOn_55 : Dec mi_X5_livesOn 55 (.lconst 1) 1 56 := ⟨by decide +kernel, rfl⟩
theorem D_X5_livesOn_56 : Dec mi_X5_livesOn 56 (.land) 1 57 := ⟨by decide +kernel, rfl⟩
theorem D_X5_livesOn_57 : Dec mi_X5_livesOn 57 (.lconst 0) 1 58 := ⟨by decide +kernel, rfl⟩
theorem D_X5_livesOn_58 : Dec mi_X5_livesOn 58 (.lcmp) 1 59 := ⟨by decide +kernel, rfl⟩
theorem D_X5_livesOn_59 : DecJ mi_X5_livesOn 59 (.ifCond .eq 5) (5) 62 64 := ⟨by decide +kernel, rfl, by decide⟩
theorem D_X5_livesOn_62 : Dec mi_X5_livesOn 62 (.iconst 0) 1 63 := ⟨by decide +kernel, rfl⟩
theorem D_X5_livesOn_63 : Dec mi_X5_livesOn 63 (.ireturn) 1 64 := ⟨by decide +kernel, rfl⟩
theorem D_X5_livesOn_64 : Dec mi_X5_livesOn 64 (.iconst 0) 1 65 := ⟨by decide +kernel, rfl⟩
theorem D_X5_livesOn_65 : Dec mi_X5_livesOn 65 (.istore 4) 2 67 := ⟨by decide +kernel, rfl⟩
theorem D_X5_livesOn_67 : Dec mi_X5_livesOn 67 (.iload 4) 2 69 := ⟨by decide +kernel, rfl⟩
theorem D_X5_livesOn_69 : Dec mi_X5_livesOn 69 (.aload_n 0) 1 70 := ⟨by decide +kernel, rfl⟩
theorem D_X5_livesOn_70 : Dec mi_X5_livesOn 70 (.getfield 15) 3 73 := ⟨by decide +kernel, rfl⟩
theorem D_X5_livesOn_73 : Dec mi_X5_livesOn 73 (.iload_n 1) 1 74 := ⟨by decide +kernel, rfl⟩
theorem D_X5_livesOn_74 : Dec mi_X5_livesOn 74 (.iaload) 1 75 := ⟨by decide +kernel, rfl⟩
theorem D_X5_livesOn_75 : DecJ mi_X5_livesOn 75 (.if_icmp .ge 39) (39) 78 114 := ⟨by decide +kernel, rfl, by decide⟩
theorem D_X5_livesOn_78 : Dec mi_X5_livesOn 78 (.iload 4) 2 80 := ⟨by decide +kernel, rfl⟩
theorem D_X5_livesOn_80 : Dec mi_X5_livesOn 80 (.bipush 9) 2 82 := ⟨by decide +kernel, rfl⟩
theorem D_X5_livesOn_82 : DecJ mi_X5_livesOn 82 (.if_icmp .ge 32) (32) 85 114 := ⟨by decide +kernel, rfl, by decide⟩
theorem D_X5_livesOn_85 : Dec mi_X5_livesOn 85 (.aload_n 0) 1 86 := ⟨by decide +kernel, rfl⟩
theorem D_X5_livesOn_86 : Dec mi_X5_livesOn 86 (.iload_n 1) 1 87 := ⟨by decide +kernel, rfl⟩
theorem D_X5_livesOn_87 : Dec mi_X5_livesOn 87 (.iload_n 2) 1 88 := ⟨by decide +kernel, rfl⟩
theorem D_X5_livesOn_88 : Dec mi_X5_livesOn 88 (.aload_n 0) 1 89 := ⟨by decide +kernel, rfl⟩
theorem D_X5_livesOn_89 : Dec mi_X5_livesOn 89 (.getfield 11) 3 92 := ⟨by decide +kernel, rfl⟩
theorem D_X5_livesOn_92 : Dec mi_X5_livesOn 92 (.iload_n 1) 1 93 := ⟨by decide +kernel, rfl⟩
theorem D_X5_livesOn_93 : Dec mi_X5_livesOn 93 (.bipush 9) 2 95 := ⟨by decide +kernel, rfl⟩
theorem D_X5_livesOn_95 : Dec mi_X5_livesOn 95 (.imul) 1 96 := ⟨by decide +kernel, rfl⟩
theorem D_X5_livesOn_96 : Dec mi_X5_livesOn 96 (.iload 4) 2 98 := ⟨by decide +kernel, rfl⟩
theorem D_X5_livesOn_98 : Dec mi_X5_livesOn 98 (.iadd) 1 99 := ⟨by decide +kernel, rfl⟩
theorem D_X5_livesOn_99 : Dec mi_X5_livesOn 99 (.iaload) 1 100 := ⟨by decide +kernel, rfl⟩
theorem D_X5_livesOn_100 : Dec mi_X5_livesOn 100 (.invokevirtual 101) 3 103 := ⟨by decide +kernel, rfl⟩
theorem D_X5_livesOn_103 : DecJ mi_X5_livesOn 103 (.ifCond .eq 5) (5) 106 108 := ⟨by decide +kernel, rfl, by decide⟩
theorem D_X5_livesOn_106 : Dec mi_X5_livesOn 106 (.iconst 1) 1 107 := ⟨by decide +kernel, rfl⟩
theorem D_X5_livesOn_107 : Dec mi_X5_livesOn 107 (.ireturn) 1 108 := ⟨by decide +kernel, rfl⟩
theorem D_X5_livesOn_108 : Dec mi_X5_livesOn 108 (.iinc 4 1) 3 111 := ⟨by decide +kernel, rfl⟩
theorem D_X5_livesOn_111 : DecJ mi_X5_livesOn 111 (.goto (-44)) (-44) 114 67 := ⟨by decide +kernel, rfl, by decide⟩
theorem D_X5_livesOn_114 : Dec mi_X5_livesOn 114 (.aload_n 0) 1 115 := ⟨by decide +kernel, rfl⟩
theorem D_X5_livesOn_115 : Dec mi_X5_livesOn 115 (.getfield 24) 3 118 := ⟨by decide +kernel, rfl⟩
theorem D_X5_livesOn_118 : Dec mi_X5_livesOn 118 (.iload_n 3) 1 119 := ⟨by decide +kernel, rfl⟩
theorem D_X5_livesOn_119 : Dec mi_X5_livesOn 119 (.dup2) 1 120 := ⟨by decide +kernel, rfl⟩
theorem D_X5_livesOn_120 : Dec mi_X5_livesOn 120 (.laload) 1 121 := ⟨by decide +kernel, rfl⟩
theorem D_X5_livesOn_121 : Dec mi_X5_livesOn 121 (.lconst 1) 1 122 := ⟨by decide +kernel, rfl⟩
theorem D_X5_livesOn_122 : Dec mi_X5_livesOn 122 (.iload_n 2) 1 123 := ⟨by decide +kernel, rfl⟩
theorem D_X5_livesOn_123 : Dec mi_X5_livesOn 123 (.bipush 64) 2 125 := ⟨by decide +kernel, rfl⟩
theorem D_X5_livesOn_125 : Dec mi_X5_livesOn 125 (.irem) 1 126 := ⟨by decide +kernel, rfl⟩
theorem D_X5_livesOn_126 : Dec mi_X5_livesOn 126 (.lshl) 1 127 := ⟨by decide +kernel, rfl⟩
theorem D_X5_livesOn_127 : Dec mi_X5_livesOn 127 (.lor) 1 128 := ⟨by decide +kernel, rfl⟩
theorem D_X5_livesOn_128 : Dec mi_X5_livesOn 128 (.lastore) 1 129 := ⟨by decide +kernel, rfl⟩
theorem D_X5_livesOn_129 : Dec mi_X5_livesOn 129 (.iconst 0) 1 130 := ⟨by decide +kernel, rfl⟩
theorem D_X5_livesOn_130 : Dec mi_X5_livesOn 130 (.ireturn) 1 131 := ⟨by decide +kernel, rfl⟩
def f_X5_livesOn_67 (F : Nat) (KR : Mem → Int32 → Int32 → Option (Int32 × Mem)) : Nat → Int32 → Int32 → Int32 → Int32 → Mem → Option (Int32 × Mem)
  | 0, _, _, _, _, _ => none
  | n + 1, y1, y2, y3, y4, N => if ck y1 8 = true then (if (N.1 19 y1.toNatClampNeg) ≤ y4 then (if ck y3 512 = true then (if ck y3 512 = true then (vlet (setL N 22 y3.toNatClampNeg ((N.2 22 y3.toNatClampNeg) ||| ((1 : Int64) <<< ((y2 - y2 / (64 : Int32) * (64 : Int32)).toInt64 &&& 63)))) fun M5 => some ((0 : Int32), M5)) else none) else none) else (if (9 : Int32) ≤ y4 then (if ck y3 512 = true then (if ck y3 512 = true then (vlet (setL N 22 y3.toNatClampNeg ((N.2 22 y3.toNatClampNeg) ||| ((1 : Int64) <<< ((y2 - y2 / (64 : Int32) * (64 : Int32)).toInt64 &&& 63)))) fun M9 => some ((0 : Int32), M9)) else none) else none) else (if ck ((y1 * (9 : Int32)) + y4) 72 = true then ((f_X5_livesOnWith F KR N y1 y2 (N.1 18 ((y1 * (9 : Int32)) + y4).toNatClampNeg)).bind fun p11 => if p11.1 = 0 then (f_X5_livesOn_67 F KR n y1 y2 y3 (y4 + (1 : Int32)) p11.2) else (some ((1 : Int32), p11.2))) else none))) else none
theorem x_X5_livesOn_67 {l : Launch} {w : Wd} {κ : Kp} {F : Nat} {dK : Nat} {KR : Mem → Int32 → Int32 → Option (Int32 × Mem)} {v : Int32 × Mem} (hq : RQ w (some (.int v.1), v.2) κ) (hdK : 6 ≤ dK) (hKR : ∀ (N : Mem) (a b : Int32) (v : Int32 × Mem), KR N a b = some v → Cn l w mi_X5_livesOn yX5_livesOn dK [.ref (wq w 17), .int a, .int b] N (some (.int v.1), v.2)) : ∀ (n : Nat) (y1 : Int32) (y2 : Int32) (y3 : Int32) (y4 : Int32) (N : Mem), f_X5_livesOn_67 F KR n y1 y2 y3 y4 N = some v → RR l w mi_X5_livesOn (dK + 2) κ 67 [] [some (.ref (wq w 17)), some (.int y1), some (.int y2), some (.int y3), some (.int y4)] N
  | 0, _, _, _, _, _, h => nomatch h
  | n + 1, y1, y2, y3, y4, N, h => let_h (show (if ck y1 8 = true then (if (N.1 19 y1.toNatClampNeg) ≤ y4 then (if ck y3 512 = true then (if ck y3 512 = true then (vlet (setL N 22 y3.toNatClampNeg ((N.2 22 y3.toNatClampNeg) ||| ((1 : Int64) <<< ((y2 - y2 / (64 : Int32) * (64 : Int32)).toInt64 &&& 63)))) fun M5 => some ((0 : Int32), M5)) else none) else none) else (if (9 : Int32) ≤ y4 then (if ck y3 512 = true then (if ck y3 512 = true then (vlet (setL N 22 y3.toNatClampNeg ((N.2 22 y3.toNatClampNeg) ||| ((1 : Int64) <<< ((y2 - y2 / (64 : Int32) * (64 : Int32)).toInt64 &&& 63)))) fun M9 => some ((0 : Int32), M9)) else none) else none) else (if ck ((y1 * (9 : Int32)) + y4) 72 = true then ((f_X5_livesOnWith F KR N y1 y2 (N.1 18 ((y1 * (9 : Int32)) + y4).toNatClampNeg)).bind fun p11 => if p11.1 = 0 then (f_X5_livesOn_67 F KR n y1 y2 y3 (y4 + (1 : Int32)) p11.2) else (some ((1 : Int32), p11.2))) else none))) else none) = some v from h) fun h => r_iload D_X5_livesOn_67 rfl <| r_aload_n D_X5_livesOn_69 rfl <| r_getR (j := 19) D_X5_livesOn_70 fl_X5_15 s_17 rfl <| r_iload_n D_X5_livesOn_73 rfl <| (ckE h).elim fun c1 h => r_iald D_X5_livesOn_74 s_19 c1 <| r_icmp_ge D_X5_livesOn_75 (fun c2 => let_h (ifT c2 h) fun h => r_aload_n D_X5_livesOn_114 rfl <| r_getR (j := 22) D_X5_livesOn_115 fl_X5_24 s_17 rfl <| r_iload_n D_X5_livesOn_118 rfl <| r_dup2 D_X5_livesOn_119 rfl rfl <| (ckE h).elim fun c3 h => r_lald D_X5_livesOn_120 s_22 c3 <| r_lconst (v := 1) D_X5_livesOn_121 (by decide) <| r_iload_n D_X5_livesOn_122 rfl <| r_bipush D_X5_livesOn_123 k8_64 <| r_irem D_X5_livesOn_125 (by decide) <| r_lshl D_X5_livesOn_126 <| r_lor D_X5_livesOn_127 <| (ckE h).elim fun c4 h => r_last D_X5_livesOn_128 s_22 c4 <| mlE h fun M5 h => r_iconst D_X5_livesOn_129 ki_0 <| r_zret hq D_X5_livesOn_130 rfl rfl (rtW h)) (fun c2 => let_h (ifF c2 h) fun h => r_iload D_X5_livesOn_78 rfl <| r_bipush D_X5_livesOn_80 k8_9 <| r_icmp_ge D_X5_livesOn_82 (fun c6 => let_h (ifT c6 h) fun h => r_aload_n D_X5_livesOn_114 rfl <| r_getR (j := 22) D_X5_livesOn_115 fl_X5_24 s_17 rfl <| r_iload_n D_X5_livesOn_118 rfl <| r_dup2 D_X5_livesOn_119 rfl rfl <| (ckE h).elim fun c7 h => r_lald D_X5_livesOn_120 s_22 c7 <| r_lconst (v := 1) D_X5_livesOn_121 (by decide) <| r_iload_n D_X5_livesOn_122 rfl <| r_bipush D_X5_livesOn_123 k8_64 <| r_irem D_X5_livesOn_125 (by decide) <| r_lshl D_X5_livesOn_126 <| r_lor D_X5_livesOn_127 <| (ckE h).elim fun c8 h => r_last D_X5_livesOn_128 s_22 c8 <| mlE h fun M9 h => r_iconst D_X5_livesOn_129 ki_0 <| r_zret hq D_X5_livesOn_130 rfl rfl (rtW h)) (fun c6 => let_h (ifF c6 h) fun h => r_aload_n D_X5_livesOn_85 rfl <| r_iload_n D_X5_livesOn_86 rfl <| r_iload_n D_X5_livesOn_87 rfl <| r_aload_n D_X5_livesOn_88 rfl <| r_getR (j := 18) D_X5_livesOn_89 fl_X5_11 s_17 rfl <| r_iload_n D_X5_livesOn_92 rfl <| r_bipush D_X5_livesOn_93 k8_9 <| r_imul D_X5_livesOn_95 <| r_iload D_X5_livesOn_96 rfl <| r_iadd D_X5_livesOn_98 <| (ckE h).elim fun c10 h => r_iald D_X5_livesOn_99 s_18 c10 <| (bdE h).elim fun p11 q12 => let_h q12.2 fun h => r_callV (av := [.int y1, .int y2, .int (N.1 18 ((y1 * (9 : Int32)) + y4).toNatClampNeg)]) D_X5_livesOn_100 ml_X5_101 mf_X5_livesOnWith mv_X5_livesOnWith s_17 rfl rfl (x_X5_livesOnWith hdK hKR q12.1) (by omega) rfl rfl (Nat.le_of_ble_eq_true rfl) <| r_if_eq D_X5_livesOn_103 (fun c13 => let_h (ifT c13 h) fun h => r_iinc D_X5_livesOn_108 rfl ki_1 (by decide) rfl <| r_goto D_X5_livesOn_111 <| r_ls (x_X5_livesOn_67 hq hdK hKR n y1 y2 y3 (y4 + (1 : Int32)) p11.2 h) ⟨rfl, ⟨rfl, ⟨rfl, ⟨rfl, ⟨rfl, trivial⟩⟩⟩⟩⟩) (fun c13 => let_h (ifF c13 h) fun h => r_iconst D_X5_livesOn_106 ki_1 <| r_zret hq D_X5_livesOn_107 rfl rfl (rtW h))))
def f_X5_livesOn_b (F : Nat) (KR : Mem → Int32 → Int32 → Option (Int32 × Mem)) (M : Mem) (a1 : Int32) (a2 : Int32) : Option (Int32 × Mem) := if a1 < (f_X8_days M 3) then (if (f_X5_isDay M a1) = 0 then (some ((0 : Int32), M)) else (if a2 < 0 then (some ((0 : Int32), M)) else (if a2 < (4096 : Int32) then (vlet ((a1 * (64 : Int32)) + (a2 / (64 : Int32))) fun x5 => if ck x5 512 = true then (if (lg_cmp (((M.2 22 x5.toNatClampNeg) >>> ((a2 - a2 / (64 : Int32) * (64 : Int32)).toInt64 &&& 63)) &&& (1 : Int64)) (0 : Int64)) = 0 then (f_X5_livesOn_67 F KR F a1 a2 x5 (0 : Int32) M) else (some ((0 : Int32), M))) else none) else (some ((0 : Int32), M))))) else (some ((1 : Int32), M))
theorem x_X5_livesOn_b {l : Launch} {w : Wd} {F : Nat} {dK : Nat} {KR : Mem → Int32 → Int32 → Option (Int32 × Mem)} {M : Mem} {a1 : Int32} {a2 : Int32} {v : Int32 × Mem} (hdK : 6 ≤ dK) (hKR : ∀ (N : Mem) (a b : Int32) (v : Int32 × Mem), KR N a b = some v → Cn l w mi_X5_livesOn yX5_livesOn dK [.ref (wq w 17), .int a, .int b] N (some (.int v.1), v.2)) (h : f_X5_livesOn_b F KR M a1 a2 = some v) : Cn l w mi_X5_livesOn yX5_livesOn (dK + 2) [.ref (wq w 17), .int a1, .int a2] M (some (.int v.1), v.2) :=
  Cn_of (loc0 := [some (.ref (wq w 17)), some (.int a1), some (.int a2), none, none]) rfl rfl rfl (Nat.le_of_ble_eq_true rfl) fun κ hq => let_h (show (if a1 < (f_X8_days M 3) then (if (f_X5_isDay M a1) = 0 then (some ((0 : Int32), M)) else (if a2 < 0 then (some ((0 : Int32), M)) else (if a2 < (4096 : Int32) then (vlet ((a1 * (64 : Int32)) + (a2 / (64 : Int32))) fun x5 => if ck x5 512 = true then (if (lg_cmp (((M.2 22 x5.toNatClampNeg) >>> ((a2 - a2 / (64 : Int32) * (64 : Int32)).toInt64 &&& 63)) &&& (1 : Int64)) (0 : Int64)) = 0 then (f_X5_livesOn_67 F KR F a1 a2 x5 (0 : Int32) M) else (some ((0 : Int32), M))) else none) else (some ((0 : Int32), M))))) else (some ((1 : Int32), M))) = some v from h) fun h => r_iload_n D_X5_livesOn_0 rfl <| r_aload_n D_X5_livesOn_1 rfl <| r_getR (j := 3) D_X5_livesOn_2 fl_X5_34 s_17 rfl <| r_callV (av := []) D_X5_livesOn_5 ml_X5_56 mf_X8_days mv_X8_days s_3 rfl rfl (x_X8_days trip_3 rfl) (by omega) rfl rfl (Nat.le_of_ble_eq_true rfl) <| r_icmp_lt D_X5_livesOn_8 (fun c1 => let_h (ifT c1 h) fun h => r_aload_n D_X5_livesOn_13 rfl <| r_iload_n D_X5_livesOn_14 rfl <| r_callV (av := [.int a1]) D_X5_livesOn_15 ml_X5_52 mf_X5_isDay mv_X5_isDay s_17 rfl rfl (x_X5_isDay rfl) (by omega) rfl rfl (Nat.le_of_ble_eq_true rfl) <| r_if_eq D_X5_livesOn_18 (fun c2 => let_h (ifT c2 h) fun h => r_iconst D_X5_livesOn_32 ki_0 <| r_zret hq D_X5_livesOn_33 rfl rfl (rtW h)) (fun c2 => let_h (ifF c2 h) fun h => r_iload_n D_X5_livesOn_21 rfl <| r_if_lt D_X5_livesOn_22 (fun c3 => let_h (ifT c3 h) fun h => r_iconst D_X5_livesOn_32 ki_0 <| r_zret hq D_X5_livesOn_33 rfl rfl (rtW h)) (fun c3 => let_h (ifF c3 h) fun h => r_iload_n D_X5_livesOn_25 rfl <| r_sipush D_X5_livesOn_26 k16_4096 <| r_icmp_lt D_X5_livesOn_29 (fun c4 => let_h (ifT c4 h) fun h => r_iload_n D_X5_livesOn_34 rfl <| r_bipush D_X5_livesOn_35 k8_64 <| r_imul D_X5_livesOn_37 <| r_iload_n D_X5_livesOn_38 rfl <| r_bipush D_X5_livesOn_39 k8_64 <| r_idiv D_X5_livesOn_41 (by decide) <| r_iadd D_X5_livesOn_42 <| vlE (fun x5 => RR l w mi_X5_livesOn (dK + 2) κ 43 [.int x5] [some (.ref (wq w 17)), some (.int a1), some (.int a2), none, none] M) h fun x5 h => r_istore_n D_X5_livesOn_43 (by decide) rfl <| r_aload_n D_X5_livesOn_44 rfl <| r_getR (j := 22) D_X5_livesOn_45 fl_X5_24 s_17 rfl <| r_iload_n D_X5_livesOn_48 rfl <| (ckE h).elim fun c6 h => r_lald D_X5_livesOn_49 s_22 c6 <| r_iload_n D_X5_livesOn_50 rfl <| r_bipush D_X5_livesOn_51 k8_64 <| r_irem D_X5_livesOn_53 (by decide) <| r_lshr D_X5_livesOn_54 <| r_lconst (v := 1) D_X5_livesOn_55 (by decide) <| r_land D_X5_livesOn_56 <| r_lconst (v := 0) D_X5_livesOn_57 (by decide) <| r_lcmp D_X5_livesOn_58 <| r_if_eq D_X5_livesOn_59 (fun c7 => let_h (ifT c7 h) fun h => r_iconst D_X5_livesOn_64 ki_0 <| r_istore D_X5_livesOn_65 (by decide) rfl <| r_ls (x_X5_livesOn_67 hq hdK hKR F a1 a2 x5 (0 : Int32) M h) ⟨rfl, ⟨rfl, ⟨rfl, ⟨rfl, ⟨rfl, trivial⟩⟩⟩⟩⟩) (fun c7 => let_h (ifF c7 h) fun h => r_iconst D_X5_livesOn_62 ki_0 <| r_zret hq D_X5_livesOn_63 rfl rfl (rtW h))) (fun c4 => let_h (ifF c4 h) fun h => r_iconst D_X5_livesOn_32 ki_0 <| r_zret hq D_X5_livesOn_33 rfl rfl (rtW h))))) (fun c1 => let_h (ifF c1 h) fun h => r_iconst D_X5_livesOn_11 ki_1 <| r_zret hq D_X5_livesOn_12 rfl rfl (rtW h))
def f_X5_livesOn (F : Nat) : Nat → Mem → Int32 → Int32 → Option (Int32 × Mem)
  | 0, _, _, _ => none
  | n + 1, M, a, b => f_X5_livesOn_b F (f_X5_livesOn F n) M a b
theorem x_X5_livesOn {l : Launch} {w : Wd} {F : Nat} : ∀ (n : Nat) {M : Mem} {a b : Int32} {v : Int32 × Mem} (h : f_X5_livesOn F n M a b = some v), Cn l w mi_X5_livesOn yX5_livesOn (2 * n + 6) [.ref (wq w 17), .int a, .int b] M (some (.int v.1), v.2)
  | 0, _, _, _, _, h => nomatch h
  | n + 1, M, a, b, v, h => (show 2 * n + 6 + 2 = 2 * (n + 1) + 6 by omega) ▸ x_X5_livesOn_b (dK := 2 * n + 6) (by omega) (fun N a b v h => x_X5_livesOn n h) h
-- X5_find
theorem D_X5_find_0 : Dec mi_X5_find 0 (.aload_n 0) 1 1 := ⟨by decide +kernel, rfl⟩
theorem D_X5_find_1 : Dec mi_X5_find 1 (.iload_n 1) 1 2 := ⟨by decide +kernel, rfl⟩
theorem D_X5_find_2 : Dec mi_X5_find 2 (.iload_n 2) 1 3 := ⟨by decide +kernel, rfl⟩
theorem D_X5_find_3 : Dec mi_X5_find 3 (.invokevirtual 38) 3 6 := ⟨by decide +kernel, rfl⟩
theorem D_X5_find_6 : Dec mi_X5_find 6 (.aload_n 0) 1 7 := ⟨by decide +kernel, rfl⟩
theorem D_X5_find_7 : Dec mi_X5_find 7 (.getfield 24) 3 10 := ⟨by decide +kernel, rfl⟩
theorem D_X5_find_10 : Dec mi_X5_find 10 (.lconst 0) 1 11 := ⟨by decide +kernel, rfl⟩
theorem D_X5_find_11 : Dec mi_X5_find 11 (.invokestatic 42) 3 14 := ⟨by decide +kernel, rfl⟩
theorem D_X5_find_14 : Dec mi_X5_find 14 (.aload_n 0) 1 15 := ⟨by decide +kernel, rfl⟩
theorem D_X5_find_15 : Dec mi_X5_find 15 (.iconst 0) 1 16 := ⟨by decide +kernel, rfl⟩
theorem D_X5_find_16 : Dec mi_X5_find 16 (.iconst 0) 1 17 := ⟨by decide +kernel, rfl⟩
theorem D_X5_find_17 : Dec mi_X5_find 17 (.invokevirtual 48) 3 20 := ⟨by decide +kernel, rfl⟩
theorem D_X5_find_20 : Dec mi_X5_find 20 (.ireturn) 1 21 := ⟨by decide +kernel, rfl⟩
def f_X5_find (F : Nat) (M : Mem) (a1 : Int32) (a2 : Int32) : Option (Int32 × Mem) := (f_X5_prepare F M a1 a2).bind fun p1 => (f_J7_fill_d0a16 F p1 22 512 (0 : Int64)).bind fun p3 => (f_X5_livesOn F 10 p3 (0 : Int32) (0 : Int32)).bind fun p5 => if p5.1 &&& 1 = p5.1 then some (p5.1, p5.2) else none
theorem x_X5_find {l : Launch} {w : Wd} {F : Nat} {M : Mem} {a1 : Int32} {a2 : Int32} {v : Int32 × Mem} (h : f_X5_find F M a1 a2 = some v) : Cn l w mi_X5_find yX5_find (27) [.ref (wq w 17), .int a1, .int a2] M (some (.int v.1), v.2) :=
  Cn_of (loc0 := [some (.ref (wq w 17)), some (.int a1), some (.int a2)]) rfl rfl rfl (Nat.le_of_ble_eq_true rfl) fun κ hq => let_h (show ((f_X5_prepare F M a1 a2).bind fun p1 => (f_J7_fill_d0a16 F p1 22 512 (0 : Int64)).bind fun p3 => (f_X5_livesOn F 10 p3 (0 : Int32) (0 : Int32)).bind fun p5 => if p5.1 &&& 1 = p5.1 then some (p5.1, p5.2) else none) = some v from h) fun h => r_aload_n D_X5_find_0 rfl <| r_iload_n D_X5_find_1 rfl <| r_iload_n D_X5_find_2 rfl <| (bdE h).elim fun p1 q2 => let_h q2.2 fun h => r_callV (av := [.int a1, .int a2]) D_X5_find_3 ml_X5_38 mf_X5_prepare mv_X5_prepare s_17 rfl rfl (x_X5_prepare q2.1) (Nat.le_of_ble_eq_true rfl) rfl rfl (Nat.le_of_ble_eq_true rfl) <| r_aload_n D_X5_find_6 rfl <| r_getR (j := 22) D_X5_find_7 fl_X5_24 s_17 rfl <| r_lconst (v := 0) D_X5_find_10 (by decide) <| (bdE h).elim fun p3 q4 => let_h q4.2 fun h => r_callS (av := [.ref (wq w 22), .long (0 : Int64)]) D_X5_find_11 ml_X5_42 mf_J7_fill_d0a16 ms_J7_fill_d0a16 (x_J7_fill_d0a16 s_22 q4.1) (Nat.le_of_ble_eq_true rfl) rfl rfl (Nat.le_of_ble_eq_true rfl) <| r_aload_n D_X5_find_14 rfl <| r_iconst D_X5_find_15 ki_0 <| r_iconst D_X5_find_16 ki_0 <| (bdE h).elim fun p5 q6 => let_h q6.2 fun h => r_callV (av := [.int (0 : Int32), .int (0 : Int32)]) D_X5_find_17 ml_X5_48 mf_X5_livesOn mv_X5_livesOn s_17 rfl rfl (x_X5_livesOn 10 q6.1) (Nat.le_of_ble_eq_true rfl) rfl rfl (Nat.le_of_ble_eq_true rfl) <| (bzE h).elim fun cz h => r_zret hq D_X5_find_20 rfl (nbz cz) (rtW h)
-- X0_chances
theorem D_X0_chances_0 : Dec mi_X0_chances 0 (.iload_n 1) 1 1 := ⟨by decide +kernel, rfl⟩
theorem D_X0_chances_1 : DecJ mi_X0_chances 1 (.ifCond .lt 9) (9) 4 10 := ⟨by decide +kernel, rfl, by decide⟩
theorem D_X0_chances_4 : Dec mi_X0_chances 4 (.iload_n 1) 1 5 := ⟨by decide +kernel, rfl⟩
theorem D_X0_chances_5 : Dec mi_X0_chances 5 (.bipush 64) 2 7 := ⟨by decide +kernel, rfl⟩
theorem D_X0_chances_7 : DecJ mi_X0_chances 7 (.if_icmp .lt 5) (5) 10 12 := ⟨by decide +kernel, rfl, by decide⟩
theorem D_X0_chances_10 : Dec mi_X0_chances 10 (.iconst 0) 1 11 := ⟨by decide +kernel, rfl⟩
theorem D_X0_chances_11 : Dec mi_X0_chances 11 (.ireturn) 1 12 := ⟨by decide +kernel, rfl⟩
theorem D_X0_chances_12 : Dec mi_X0_chances 12 (.aload_n 0) 1 13 := ⟨by decide +kernel, rfl⟩
theorem D_X0_chances_13 : Dec mi_X0_chances 13 (.getfield 9) 3 16 := ⟨by decide +kernel, rfl⟩
theorem D_X0_chances_16 : Dec mi_X0_chances 16 (.iload_n 1) 1 17 := ⟨by decide +kernel, rfl⟩
theorem D_X0_chances_17 : Dec mi_X0_chances 17 (.iaload) 1 18 := ⟨by decide +kernel, rfl⟩
theorem D_X0_chances_18 : Dec mi_X0_chances 18 (.iconst (-1)) 1 19 := ⟨by decide +kernel, rfl⟩
theorem D_X0_chances_19 : DecJ mi_X0_chances 19 (.if_icmp .eq 10) (10) 22 29 := ⟨by decide +kernel, rfl, by decide⟩
theorem D_X0_chances_22 : Dec mi_X0_chances 22 (.aload_n 0) 1 23 := ⟨by decide +kernel, rfl⟩
theorem D_X0_chances_23 : Dec mi_X0_chances 23 (.getfield 9) 3 26 := ⟨by decide +kernel, rfl⟩
theorem D_X0_chances_26 : Dec mi_X0_chances 26 (.iload_n 1) 1 27 := ⟨by decide +kernel, rfl⟩
theorem D_X0_chances_27 : Dec mi_X0_chances 27 (.iaload) 1 28 := ⟨by decide +kernel, rfl⟩
theorem D_X0_chances_28 : Dec mi_X0_chances 28 (.ireturn) 1 29 := ⟨by decide +kernel, rfl⟩
theorem D_X0_chances_29 : Dec mi_X0_chances 29 (.iconst 0) 1 30 := ⟨by decide +kernel, rfl⟩
theorem D_X0_chances_30 : Dec mi_X0_chances 30 (.istore_n 2) 1 31 := ⟨by decide +kernel, rfl⟩
theorem D_X0_chances_31 : Dec mi_X0_chances 31 (.iconst 0) 1 32 := ⟨by decide +kernel, rfl⟩
theorem D_X0_chances_32 : Dec mi_X0_chances 32 (.istore_n 3) 1 33 := ⟨by decide +kernel, rfl⟩
theorem D_X0_chances_33 : Dec mi_X0_chances 33 (.iload_n 3) 1 34 := ⟨by decide +kernel, rfl⟩
theorem D_X0_chances_34 : Dec mi_X0_chances 34 (.iconst 1) 1 35 := ⟨by decide +kernel, rfl⟩
theorem D_X0_chances_35 : Dec mi_X0_chances 35 (.aload_n 0) 1 36 := ⟨by decide +kernel, rfl⟩
theorem D_X0_chances_36 : Dec mi_X0_chances 36 (.getfield 15) 3 39 := ⟨by decide +kernel, rfl⟩
theorem D_X0_chances_39 : Dec mi_X0_chances 39 (.invokevirtual 29) 3 42 := ⟨by decide +kernel, rfl⟩
theorem D_X0_chances_42 : Dec mi_X0_chances 42 (.ishl) 1 43 := ⟨by decide +kernel, rfl⟩
theorem D_X0_chances_43 : DecJ mi_X0_chances 43 (.if_icmp .ge 38) (38) 46 81 := ⟨by decide +kernel, rfl, by decide⟩
theorem D_X0_chances_46 : Dec mi_X0_chances 46 (.aload_n 0) 1 47 := ⟨by decide +kernel, rfl⟩
theorem D_X0_chances_47 : Dec mi_X0_chances 47 (.iload_n 3) 1 48 := ⟨by decide +kernel, rfl⟩
theorem D_X0_chances_48 : Dec mi_X0_chances 48 (.invokevirtual 35) 3 51 := ⟨by decide +kernel, rfl⟩
theorem D_X0_chances_51 : Dec mi_X0_chances 51 (.istore 4) 2 53 := ⟨by decide +kernel, rfl⟩
theorem D_X0_chances_53 : Dec mi_X0_chances 53 (.iload 4) 2 55 := ⟨by decide +kernel, rfl⟩
theorem D_X0_chances_55 : DecJ mi_X0_chances 55 (.ifCond .le 20) (20) 58 75 := ⟨by decide +kernel, rfl, by decide⟩
theorem D_X0_chances_58 : Dec mi_X0_chances 58 (.aload_n 0) 1 59 := ⟨by decide +kernel, rfl⟩
theorem D_X0_chances_59 : Dec mi_X0_chances 59 (.getfield 19) 3 62 := ⟨by decide +kernel, rfl⟩
theorem D_X0_chances_62 : Dec mi_X0_chances 62 (.iload_n 1) 1 63 := ⟨by decide +kernel, rfl⟩
theorem D_X0_chances_63 : Dec mi_X0_chances 63 (.iload_n 3) 1 64 := ⟨by decide +kernel, rfl⟩
theorem D_X0_chances_64 : Dec mi_X0_chances 64 (.invokevirtual 39) 3 67 := ⟨by decide +kernel, rfl⟩
theorem D_X0_chances_67 : DecJ mi_X0_chances 67 (.ifCond .eq 8) (8) 70 75 := ⟨by decide +kernel, rfl, by decide⟩
theorem D_X0_chances_70 : Dec mi_X0_chances 70 (.iload_n 2) 1 71 := ⟨by decide +kernel, rfl⟩
theorem D_X0_chances_71 : Dec mi_X0_chances 71 (.iload 4) 2 73 := ⟨by decide +kernel, rfl⟩
theorem D_X0_chances_73 : Dec mi_X0_chances 73 (.iadd) 1 74 := ⟨by decide +kernel, rfl⟩
theorem D_X0_chances_74 : Dec mi_X0_chances 74 (.istore_n 2) 1 75 := ⟨by decide +kernel, rfl⟩
theorem D_X0_chances_75 : Dec mi_X0_chances 75 (.iinc 3 1) 3 78 := ⟨by decide +kernel, rfl⟩
theorem D_X0_chances_78 : DecJ mi_X0_chances 78 (.goto (-45)) (-45) 81 33 := ⟨by decide +kernel, rfl, by decide⟩
theorem D_X0_chances_81 : Dec mi_X0_chances 81 (.aload_n 0) 1 82 := ⟨by decide +kernel, rfl⟩
theorem D_X0_chances_82 : Dec mi_X0_chances 82 (.getfield 9) 3 85 := ⟨by decide +kernel, rfl⟩
theorem D_X0_chances_85 : Dec mi_X0_chances 85 (.iload_n 1) 1 86 := ⟨by decide +kernel, rfl⟩
theorem D_X0_chances_86 : Dec mi_X0_chances 86 (.iload_n 2) 1 87 := ⟨by decide +kernel, rfl⟩
theorem D_X0_chances_87 : Dec mi_X0_chances 87 (.iastore) 1 88 := ⟨by decide +kernel, rfl⟩
theorem D_X0_chances_88 : Dec mi_X0_chances 88 (.iload_n 2) 1 89 := ⟨by decide +kernel, rfl⟩
theorem D_X0_chances_89 : Dec mi_X0_chances 89 (.ireturn) 1 90 := ⟨by decide +kernel, rfl⟩
def f_X0_chances_33 (F : Nat) : Nat → Int32 → Int32 → Int32 → Mem → Option (Int32 × Mem)
  | 0, _, _, _, _ => none
  | n + 1, y1, y2, y3, N => if ((1 : Int32) <<< ((f_X8_days N 3) &&& 31)) ≤ y3 then (if ck y1 64 = true then (vlet (setI N 26 y1.toNatClampNeg y2) fun M3 => some (y2, M3)) else none) else ((f_X0_chanceOf F N y3).bind fun x4 => if x4 ≤ 0 then (f_X0_chances_33 F n y1 y2 (y3 + (1 : Int32)) N) else ((f_X5_find F N y1 y3).bind fun p7 => if p7.1 = 0 then (f_X0_chances_33 F n y1 y2 (y3 + (1 : Int32)) p7.2) else (f_X0_chances_33 F n y1 (y2 + x4) (y3 + (1 : Int32)) p7.2)))
theorem x_X0_chances_33 {l : Launch} {w : Wd} {κ : Kp} {F : Nat} {v : Int32 × Mem} (hq : RQ w (some (.int v.1), v.2) κ) : ∀ (n : Nat) (y1 : Int32) (y2 : Int32) (y3 : Int32) (N : Mem), f_X0_chances_33 F n y1 y2 y3 N = some v → RR l w mi_X0_chances (28) κ 33 [] [some (.ref (wq w 25)), some (.int y1), some (.int y2), some (.int y3), none] N
  | 0, _, _, _, _, h => nomatch h
  | n + 1, y1, y2, y3, N, h => let_h (show (if ((1 : Int32) <<< ((f_X8_days N 3) &&& 31)) ≤ y3 then (if ck y1 64 = true then (vlet (setI N 26 y1.toNatClampNeg y2) fun M3 => some (y2, M3)) else none) else ((f_X0_chanceOf F N y3).bind fun x4 => if x4 ≤ 0 then (f_X0_chances_33 F n y1 y2 (y3 + (1 : Int32)) N) else ((f_X5_find F N y1 y3).bind fun p7 => if p7.1 = 0 then (f_X0_chances_33 F n y1 y2 (y3 + (1 : Int32)) p7.2) else (f_X0_chances_33 F n y1 (y2 + x4) (y3 + (1 : Int32)) p7.2)))) = some v from h) fun h => r_iload_n D_X0_chances_33 rfl <| r_iconst D_X0_chances_34 ki_1 <| r_aload_n D_X0_chances_35 rfl <| r_getR (j := 3) D_X0_chances_36 fl_X0_15 s_25 rfl <| r_callV (av := []) D_X0_chances_39 ml_X0_29 mf_X8_days mv_X8_days s_3 rfl rfl (x_X8_days trip_3 rfl) (Nat.le_of_ble_eq_true rfl) rfl rfl (Nat.le_of_ble_eq_true rfl) <| r_ishl D_X0_chances_42 <| r_icmp_ge D_X0_chances_43 (fun c1 => let_h (ifT c1 h) fun h => r_aload_n D_X0_chances_81 rfl <| r_getR (j := 26) D_X0_chances_82 fl_X0_9 s_25 rfl <| r_iload_n D_X0_chances_85 rfl <| r_iload_n D_X0_chances_86 rfl <| (ckE h).elim fun c2 h => r_iast D_X0_chances_87 s_26 c2 <| mlE h fun M3 h => r_iload_n D_X0_chances_88 rfl <| r_iret hq D_X0_chances_89 rfl (rtW h)) (fun c1 => let_h (ifF c1 h) fun h => r_aload_n D_X0_chances_46 rfl <| r_iload_n D_X0_chances_47 rfl <| (bdE h).elim fun x4 q5 => let_h q5.2 fun h => r_callV (av := [.int y3]) D_X0_chances_48 ml_X0_35 mf_X0_chanceOf mv_X0_chanceOf s_25 rfl rfl (x_X0_chanceOf q5.1) (Nat.le_of_ble_eq_true rfl) rfl rfl (Nat.le_of_ble_eq_true rfl) <| r_istore D_X0_chances_51 (by decide) rfl <| r_iload D_X0_chances_53 rfl <| r_if_le D_X0_chances_55 (fun c6 => let_h (ifT c6 h) fun h => r_iinc D_X0_chances_75 rfl ki_1 (by decide) rfl <| r_goto D_X0_chances_78 <| r_ls (x_X0_chances_33 hq n y1 y2 (y3 + (1 : Int32)) N h) ⟨rfl, ⟨rfl, ⟨rfl, ⟨rfl, trivial⟩⟩⟩⟩) (fun c6 => let_h (ifF c6 h) fun h => r_aload_n D_X0_chances_58 rfl <| r_getR (j := 17) D_X0_chances_59 fl_X0_19 s_25 rfl <| r_iload_n D_X0_chances_62 rfl <| r_iload_n D_X0_chances_63 rfl <| (bdE h).elim fun p7 q8 => let_h q8.2 fun h => r_callV (av := [.int y1, .int y3]) D_X0_chances_64 ml_X0_39 mf_X5_find mv_X5_find s_17 rfl rfl (x_X5_find q8.1) (Nat.le_of_ble_eq_true rfl) rfl rfl (Nat.le_of_ble_eq_true rfl) <| r_if_eq D_X0_chances_67 (fun c9 => let_h (ifT c9 h) fun h => r_iinc D_X0_chances_75 rfl ki_1 (by decide) rfl <| r_goto D_X0_chances_78 <| r_ls (x_X0_chances_33 hq n y1 y2 (y3 + (1 : Int32)) p7.2 h) ⟨rfl, ⟨rfl, ⟨rfl, ⟨rfl, trivial⟩⟩⟩⟩) (fun c9 => let_h (ifF c9 h) fun h => r_iload_n D_X0_chances_70 rfl <| r_iload D_X0_chances_71 rfl <| r_iadd D_X0_chances_73 <| r_istore_n D_X0_chances_74 (by decide) rfl <| r_iinc D_X0_chances_75 rfl ki_1 (by decide) rfl <| r_goto D_X0_chances_78 <| r_ls (x_X0_chances_33 hq n y1 (y2 + x4) (y3 + (1 : Int32)) p7.2 h) ⟨rfl, ⟨rfl, ⟨rfl, ⟨rfl, trivial⟩⟩⟩⟩)))
def f_X0_chances (F : Nat) (M : Mem) (a1 : Int32) : Option (Int32 × Mem) := if a1 < 0 then (some ((0 : Int32), M)) else (if a1 < (64 : Int32) then (if ck a1 64 = true then (if (M.1 26 a1.toNatClampNeg) = (-1 : Int32) then (f_X0_chances_33 F F a1 (0 : Int32) (0 : Int32) M) else (if ck a1 64 = true then (some ((M.1 26 a1.toNatClampNeg), M)) else none)) else none) else (some ((0 : Int32), M)))
theorem x_X0_chances {l : Launch} {w : Wd} {F : Nat} {M : Mem} {a1 : Int32} {v : Int32 × Mem} (h : f_X0_chances F M a1 = some v) : Cn l w mi_X0_chances yX0_chances (28) [.ref (wq w 25), .int a1] M (some (.int v.1), v.2) :=
  Cn_of (loc0 := [some (.ref (wq w 25)), some (.int a1), none, none, none]) rfl rfl rfl (Nat.le_of_ble_eq_true rfl) fun κ hq => let_h (show (if a1 < 0 then (some ((0 : Int32), M)) else (if a1 < (64 : Int32) then (if ck a1 64 = true then (if (M.1 26 a1.toNatClampNeg) = (-1 : Int32) then (f_X0_chances_33 F F a1 (0 : Int32) (0 : Int32) M) else (if ck a1 64 = true then (some ((M.1 26 a1.toNatClampNeg), M)) else none)) else none) else (some ((0 : Int32), M)))) = some v from h) fun h => r_iload_n D_X0_chances_0 rfl <| r_if_lt D_X0_chances_1 (fun c1 => let_h (ifT c1 h) fun h => r_iconst D_X0_chances_10 ki_0 <| r_iret hq D_X0_chances_11 rfl (rtW h)) (fun c1 => let_h (ifF c1 h) fun h => r_iload_n D_X0_chances_4 rfl <| r_bipush D_X0_chances_5 k8_64 <| r_icmp_lt D_X0_chances_7 (fun c2 => let_h (ifT c2 h) fun h => r_aload_n D_X0_chances_12 rfl <| r_getR (j := 26) D_X0_chances_13 fl_X0_9 s_25 rfl <| r_iload_n D_X0_chances_16 rfl <| (ckE h).elim fun c3 h => r_iald D_X0_chances_17 s_26 c3 <| r_iconst D_X0_chances_18 ki_m1 <| r_icmp_eq D_X0_chances_19 (fun c4 => let_h (ifT c4 h) fun h => r_iconst D_X0_chances_29 ki_0 <| r_istore_n D_X0_chances_30 (by decide) rfl <| r_iconst D_X0_chances_31 ki_0 <| r_istore_n D_X0_chances_32 (by decide) rfl <| r_ls (x_X0_chances_33 hq F a1 (0 : Int32) (0 : Int32) M h) ⟨rfl, ⟨rfl, ⟨rfl, ⟨rfl, trivial⟩⟩⟩⟩) (fun c4 => let_h (ifF c4 h) fun h => r_aload_n D_X0_chances_22 rfl <| r_getR (j := 26) D_X0_chances_23 fl_X0_9 s_25 rfl <| r_iload_n D_X0_chances_26 rfl <| (ckE h).elim fun c5 h => r_iald D_X0_chances_27 s_26 c5 <| r_iret hq D_X0_chances_28 rfl (rtW h))) (fun c2 => let_h (ifF c2 h) fun h => r_iconst D_X0_chances_10 ki_0 <| r_iret hq D_X0_chances_11 rfl (rtW h)))
