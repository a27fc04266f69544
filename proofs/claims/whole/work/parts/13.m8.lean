-- X10_buy
theorem D_X10_buy_0 : Dec mi_X10_buy 0 (.iload_n 3) 1 1 := ⟨by decide +kernel, rfl⟩
theorem D_X10_buy_1 : Dec mi_X10_buy 1 (.iconst 0) 1 2 := ⟨by decide +kernel, rfl⟩
theorem D_X10_buy_2 : Dec mi_X10_buy 2 (.iconst 1) 1 3 := ⟨by decide +kernel, rfl⟩
theorem D_X10_buy_3 : Dec mi_X10_buy 3 (.invokestatic 78) 3 6 := ⟨by decide +kernel, rfl⟩
theorem D_X10_buy_6 : DecJ mi_X10_buy 6 (.ifCond .ne 5) (5) 9 11 := ⟨by decide +kernel, rfl, by decide⟩
theorem D_X10_buy_9 : Dec mi_X10_buy 9 (.iconst (-1)) 1 10 := ⟨by decide +kernel, rfl⟩
theorem D_X10_buy_10 : Dec mi_X10_buy 10 (.ireturn) 1 11 := ⟨by decide +kernel, rfl⟩
theorem D_X10_buy_11 : Dec mi_X10_buy 11 (.iload_n 1) 1 12 := ⟨by decide +kernel, rfl⟩
theorem D_X10_buy_12 : Dec mi_X10_buy 12 (.aload_n 0) 1 13 := ⟨by decide +kernel, rfl⟩
theorem D_X10_buy_13 : Dec mi_X10_buy 13 (.invokevirtual 139) 3 16 := ⟨by decide +kernel, rfl⟩
theorem D_X10_buy_16 : Dec mi_X10_buy 16 (.iand) 1 17 := ⟨by decide +kernel, rfl⟩
theorem D_X10_buy_17 : Dec mi_X10_buy 17 (.istore 4) 2 19 := ⟨by decide +kernel, rfl⟩
theorem D_X10_buy_19 : Dec mi_X10_buy 19 (.bipush (-9)) 2 21 := ⟨by decide +kernel, rfl⟩
theorem D_X10_buy_21 : Dec mi_X10_buy 21 (.istore 5) 2 23 := ⟨by decide +kernel, rfl⟩
theorem D_X10_buy_23 : Dec mi_X10_buy 23 (.iconst 0) 1 24 := ⟨by decide +kernel, rfl⟩
theorem D_X10_buy_24 : Dec mi_X10_buy 24 (.istore 6) 2 26 := ⟨by decide +kernel, rfl⟩
theorem D_X10_buy_26 : Dec mi_X10_buy 26 (.iload 6) 2 28 := ⟨by decide +kernel, rfl⟩
theorem D_X10_buy_28 : Dec mi_X10_buy 28 (.aload_n 0) 1 29 := ⟨by decide +kernel, rfl⟩
theorem D_X10_buy_29 : Dec mi_X10_buy 29 (.invokevirtual 139) 3 32 := ⟨by decide +kernel, rfl⟩
theorem D_X10_buy_32 : DecJ mi_X10_buy 32 (.if_icmp .gt 80) (80) 35 112 := ⟨by decide +kernel, rfl, by decide⟩
theorem D_X10_buy_35 : Dec mi_X10_buy 35 (.iload 6) 2 37 := ⟨by decide +kernel, rfl⟩
theorem D_X10_buy_37 : Dec mi_X10_buy 37 (.iload 4) 2 39 := ⟨by decide +kernel, rfl⟩
theorem D_X10_buy_39 : Dec mi_X10_buy 39 (.iand) 1 40 := ⟨by decide +kernel, rfl⟩
theorem D_X10_buy_40 : DecJ mi_X10_buy 40 (.ifCond .ne 31) (31) 43 71 := ⟨by decide +kernel, rfl, by decide⟩
theorem D_X10_buy_43 : Dec mi_X10_buy 43 (.iload 5) 2 45 := ⟨by decide +kernel, rfl⟩
theorem D_X10_buy_45 : Dec mi_X10_buy 45 (.bipush (-9)) 2 47 := ⟨by decide +kernel, rfl⟩
theorem D_X10_buy_47 : DecJ mi_X10_buy 47 (.if_icmp .eq 20) (20) 50 67 := ⟨by decide +kernel, rfl, by decide⟩
theorem D_X10_buy_50 : Dec mi_X10_buy 50 (.aload_n 0) 1 51 := ⟨by decide +kernel, rfl⟩
theorem D_X10_buy_51 : Dec mi_X10_buy 51 (.iload 6) 2 53 := ⟨by decide +kernel, rfl⟩
theorem D_X10_buy_53 : Dec mi_X10_buy 53 (.iconst 5) 1 54 := ⟨by decide +kernel, rfl⟩
theorem D_X10_buy_54 : Dec mi_X10_buy 54 (.invokevirtual 207) 3 57 := ⟨by decide +kernel, rfl⟩
theorem D_X10_buy_57 : Dec mi_X10_buy 57 (.aload_n 0) 1 58 := ⟨by decide +kernel, rfl⟩
theorem D_X10_buy_58 : Dec mi_X10_buy 58 (.iload 5) 2 60 := ⟨by decide +kernel, rfl⟩
theorem D_X10_buy_60 : Dec mi_X10_buy 60 (.iconst 5) 1 61 := ⟨by decide +kernel, rfl⟩
theorem D_X10_buy_61 : Dec mi_X10_buy 61 (.invokevirtual 207) 3 64 := ⟨by decide +kernel, rfl⟩
theorem D_X10_buy_64 : DecJ mi_X10_buy 64 (.if_icmp .ge 7) (7) 67 71 := ⟨by decide +kernel, rfl, by decide⟩
theorem D_X10_buy_67 : Dec mi_X10_buy 67 (.iconst 1) 1 68 := ⟨by decide +kernel, rfl⟩
theorem D_X10_buy_68 : DecJ mi_X10_buy 68 (.goto 4) (4) 71 72 := ⟨by decide +kernel, rfl, by decide⟩
theorem D_X10_buy_71 : Dec mi_X10_buy 71 (.iconst 0) 1 72 := ⟨by decide +kernel, rfl⟩
theorem D_X10_buy_72 : Dec mi_X10_buy 72 (.istore 7) 2 74 := ⟨by decide +kernel, rfl⟩
theorem D_X10_buy_74 : Dec mi_X10_buy 74 (.iload 7) 2 76 := ⟨by decide +kernel, rfl⟩
theorem D_X10_buy_76 : DecJ mi_X10_buy 76 (.ifCond .eq 26) (26) 79 102 := ⟨by decide +kernel, rfl, by decide⟩
theorem D_X10_buy_79 : Dec mi_X10_buy 79 (.iload 5) 2 81 := ⟨by decide +kernel, rfl⟩
theorem D_X10_buy_81 : DecJ mi_X10_buy 81 (.ifCond .eq 21) (21) 84 102 := ⟨by decide +kernel, rfl, by decide⟩
theorem D_X10_buy_84 : Dec mi_X10_buy 84 (.aload_n 0) 1 85 := ⟨by decide +kernel, rfl⟩
theorem D_X10_buy_85 : Dec mi_X10_buy 85 (.iload 4) 2 87 := ⟨by decide +kernel, rfl⟩
theorem D_X10_buy_87 : Dec mi_X10_buy 87 (.iload 6) 2 89 := ⟨by decide +kernel, rfl⟩
theorem D_X10_buy_89 : Dec mi_X10_buy 89 (.ior) 1 90 := ⟨by decide +kernel, rfl⟩
theorem D_X10_buy_90 : Dec mi_X10_buy 90 (.iload_n 2) 1 91 := ⟨by decide +kernel, rfl⟩
theorem D_X10_buy_91 : Dec mi_X10_buy 91 (.invokevirtual 198) 3 94 := ⟨by decide +kernel, rfl⟩
theorem D_X10_buy_94 : DecJ mi_X10_buy 94 (.ifCond .eq 8) (8) 97 102 := ⟨by decide +kernel, rfl, by decide⟩
theorem D_X10_buy_97 : Dec mi_X10_buy 97 (.iload 6) 2 99 := ⟨by decide +kernel, rfl⟩
theorem D_X10_buy_99 : DecJ mi_X10_buy 99 (.goto 5) (5) 102 104 := ⟨by decide +kernel, rfl, by decide⟩
theorem D_X10_buy_102 : Dec mi_X10_buy 102 (.iload 5) 2 104 := ⟨by decide +kernel, rfl⟩
theorem D_X10_buy_104 : Dec mi_X10_buy 104 (.istore 5) 2 106 := ⟨by decide +kernel, rfl⟩
theorem D_X10_buy_106 : Dec mi_X10_buy 106 (.iinc 6 1) 3 109 := ⟨by decide +kernel, rfl⟩
theorem D_X10_buy_109 : DecJ mi_X10_buy 109 (.goto (-83)) (-83) 112 26 := ⟨by decide +kernel, rfl, by decide⟩
theorem D_X10_buy_112 : Dec mi_X10_buy 112 (.iload 5) 2 114 := ⟨by decide +kernel, rfl⟩
theorem D_X10_buy_114 : Dec mi_X10_buy 114 (.bipush (-9)) 2 116 := ⟨by decide +kernel, rfl⟩
theorem D_X10_buy_116 : DecJ mi_X10_buy 116 (.if_icmp .eq 7) (7) 119 123 := ⟨by decide +kernel, rfl, by decide⟩
theorem D_X10_buy_119 : Dec mi_X10_buy 119 (.iload_n 3) 1 120 := ⟨by decide +kernel, rfl⟩
theorem D_X10_buy_120 : DecJ mi_X10_buy 120 (.ifCond .ne 8) (8) 123 128 := ⟨by decide +kernel, rfl, by decide⟩
theorem D_X10_buy_123 : Dec mi_X10_buy 123 (.iload 5) 2 125 := ⟨by decide +kernel, rfl⟩
theorem D_X10_buy_125 : DecJ mi_X10_buy 125 (.goto 10) (10) 128 135 := ⟨by decide +kernel, rfl, by decide⟩
theorem D_X10_buy_128 : Dec mi_X10_buy 128 (.aload_n 0) 1 129 := ⟨by decide +kernel, rfl⟩
theorem D_X10_buy_129 : Dec mi_X10_buy 129 (.iload 5) 2 131 := ⟨by decide +kernel, rfl⟩
theorem D_X10_buy_131 : Dec mi_X10_buy 131 (.iconst 5) 1 132 := ⟨by decide +kernel, rfl⟩
theorem D_X10_buy_132 : Dec mi_X10_buy 132 (.invokevirtual 207) 3 135 := ⟨by decide +kernel, rfl⟩
theorem D_X10_buy_135 : Dec mi_X10_buy 135 (.ireturn) 1 136 := ⟨by decide +kernel, rfl⟩
def f_X10_buy_72 (F : Nat) (K_26 : Int32 → Int32 → Int32 → Int32 → Int32 → Mem → Option (Int32 × Mem)) (y2 : Int32) (y3 : Int32) (y4 : Int32) (y5 : Int32) (y6 : Int32) (t0 : Int32) (N : Mem) : Option (Int32 × Mem) := if t0 = 0 then (K_26 y2 y3 y4 y5 (y6 + (1 : Int32)) N) else (if y5 = 0 then (K_26 y2 y3 y4 y5 (y6 + (1 : Int32)) N) else ((f_X10_isServing F N (y4 ||| y6) y2).bind fun p3 => if p3.1 = 0 then (K_26 y2 y3 y4 y5 (y6 + (1 : Int32)) p3.2) else (K_26 y2 y3 y4 y6 (y6 + (1 : Int32)) p3.2)))
theorem x_X10_buy_72 {l : Launch} {w : Wd} {κ : Kp} {F : Nat} {v : Int32 × Mem} {K_26 : Int32 → Int32 → Int32 → Int32 → Int32 → Mem → Option (Int32 × Mem)} (hq : RQ w (some (.int v.1), v.2) κ) (hK_26 : ∀ (y2 : Int32) (y3 : Int32) (y4 : Int32) (y5 : Int32) (y6 : Int32) (N : Mem), K_26 y2 y3 y4 y5 y6 N = some v → RR l w mi_X10_buy (6) κ 26 [] [some (.ref (wq w 36)), none, some (.int y2), some (.int y3), some (.int y4), some (.int y5), some (.int y6), none] N) (y2 : Int32) (y3 : Int32) (y4 : Int32) (y5 : Int32) (y6 : Int32) (t0 : Int32) (N : Mem) (h : f_X10_buy_72 F K_26 y2 y3 y4 y5 y6 t0 N = some v) : RR l w mi_X10_buy (6) κ 72 [.int t0] [some (.ref (wq w 36)), none, some (.int y2), some (.int y3), some (.int y4), some (.int y5), some (.int y6), none] N := let_h (show (if t0 = 0 then (K_26 y2 y3 y4 y5 (y6 + (1 : Int32)) N) else (if y5 = 0 then (K_26 y2 y3 y4 y5 (y6 + (1 : Int32)) N) else ((f_X10_isServing F N (y4 ||| y6) y2).bind fun p3 => if p3.1 = 0 then (K_26 y2 y3 y4 y5 (y6 + (1 : Int32)) p3.2) else (K_26 y2 y3 y4 y6 (y6 + (1 : Int32)) p3.2)))) = some v from h) fun h => r_istore D_X10_buy_72 (by decide) rfl <| r_iload D_X10_buy_74 rfl <| r_if_eq D_X10_buy_76 (fun c1 => let_h (ifT c1 h) fun h => r_iload D_X10_buy_102 rfl <| r_istore D_X10_buy_104 (by decide) rfl <| r_iinc D_X10_buy_106 rfl ki_1 (by decide) rfl <| r_goto D_X10_buy_109 <| r_ls (hK_26 y2 y3 y4 y5 (y6 + (1 : Int32)) N h) ⟨rfl, ⟨rfl, ⟨rfl, ⟨rfl, ⟨rfl, ⟨rfl, trivial⟩⟩⟩⟩⟩⟩) (fun c1 => let_h (ifF c1 h) fun h => r_iload D_X10_buy_79 rfl <| r_if_eq D_X10_buy_81 (fun c2 => let_h (ifT c2 h) fun h => r_iload D_X10_buy_102 rfl <| r_istore D_X10_buy_104 (by decide) rfl <| r_iinc D_X10_buy_106 rfl ki_1 (by decide) rfl <| r_goto D_X10_buy_109 <| r_ls (hK_26 y2 y3 y4 y5 (y6 + (1 : Int32)) N h) ⟨rfl, ⟨rfl, ⟨rfl, ⟨rfl, ⟨rfl, ⟨rfl, trivial⟩⟩⟩⟩⟩⟩) (fun c2 => let_h (ifF c2 h) fun h => r_aload_n D_X10_buy_84 rfl <| r_iload D_X10_buy_85 rfl <| r_iload D_X10_buy_87 rfl <| r_ior D_X10_buy_89 <| r_iload_n D_X10_buy_90 rfl <| (bdE h).elim fun p3 q4 => let_h q4.2 fun h => r_callV (av := [.int (y4 ||| y6), .int y2]) D_X10_buy_91 ml_X10_198 mf_X10_isServing mv_X10_isServing s_36 rfl rfl (x_X10_isServing q4.1) (Nat.le_of_ble_eq_true rfl) rfl rfl (Nat.le_of_ble_eq_true rfl) <| r_if_eq D_X10_buy_94 (fun c5 => let_h (ifT c5 h) fun h => r_iload D_X10_buy_102 rfl <| r_istore D_X10_buy_104 (by decide) rfl <| r_iinc D_X10_buy_106 rfl ki_1 (by decide) rfl <| r_goto D_X10_buy_109 <| r_ls (hK_26 y2 y3 y4 y5 (y6 + (1 : Int32)) p3.2 h) ⟨rfl, ⟨rfl, ⟨rfl, ⟨rfl, ⟨rfl, ⟨rfl, trivial⟩⟩⟩⟩⟩⟩) (fun c5 => let_h (ifF c5 h) fun h => r_iload D_X10_buy_97 rfl <| r_goto D_X10_buy_99 <| r_istore D_X10_buy_104 (by decide) rfl <| r_iinc D_X10_buy_106 rfl ki_1 (by decide) rfl <| r_goto D_X10_buy_109 <| r_ls (hK_26 y2 y3 y4 y6 (y6 + (1 : Int32)) p3.2 h) ⟨rfl, ⟨rfl, ⟨rfl, ⟨rfl, ⟨rfl, ⟨rfl, trivial⟩⟩⟩⟩⟩⟩)))
def f_X10_buy_26 (F : Nat) : Nat → Int32 → Int32 → Int32 → Int32 → Int32 → Mem → Option (Int32 × Mem)
  | 0, _, _, _, _, _, _ => none
  | n + 1, y2, y3, y4, y5, y6, N => (f_X10_allThings N).bind fun x1 => if x1 < y6 then (if y5 = (-9 : Int32) then (some (y5, N)) else (if y3 = 0 then (some (y5, N)) else ((f_X10_sumOf F N y5 (5 : Int32)).bind fun x6 => some (x6, N)))) else (if (y6 &&& y4) = 0 then (if y5 = (-9 : Int32) then (f_X10_buy_72 F (fun y2 y3 y4 y5 y6 N => f_X10_buy_26 F n y2 y3 y4 y5 y6 N) y2 y3 y4 y5 y6 (1 : Int32) N) else ((f_X10_sumOf F N y6 (5 : Int32)).bind fun x10 => (f_X10_sumOf F N y5 (5 : Int32)).bind fun x12 => if x12 ≤ x10 then (f_X10_buy_72 F (fun y2 y3 y4 y5 y6 N => f_X10_buy_26 F n y2 y3 y4 y5 y6 N) y2 y3 y4 y5 y6 (0 : Int32) N) else (f_X10_buy_72 F (fun y2 y3 y4 y5 y6 N => f_X10_buy_26 F n y2 y3 y4 y5 y6 N) y2 y3 y4 y5 y6 (1 : Int32) N))) else (f_X10_buy_72 F (fun y2 y3 y4 y5 y6 N => f_X10_buy_26 F n y2 y3 y4 y5 y6 N) y2 y3 y4 y5 y6 (0 : Int32) N))
theorem x_X10_buy_26 {l : Launch} {w : Wd} {κ : Kp} {F : Nat} {v : Int32 × Mem} (hq : RQ w (some (.int v.1), v.2) κ) : ∀ (n : Nat) (y2 : Int32) (y3 : Int32) (y4 : Int32) (y5 : Int32) (y6 : Int32) (N : Mem), f_X10_buy_26 F n y2 y3 y4 y5 y6 N = some v → RR l w mi_X10_buy (6) κ 26 [] [some (.ref (wq w 36)), none, some (.int y2), some (.int y3), some (.int y4), some (.int y5), some (.int y6), none] N
  | 0, _, _, _, _, _, _, h => nomatch h
  | n + 1, y2, y3, y4, y5, y6, N, h => let_h (show ((f_X10_allThings N).bind fun x1 => if x1 < y6 then (if y5 = (-9 : Int32) then (some (y5, N)) else (if y3 = 0 then (some (y5, N)) else ((f_X10_sumOf F N y5 (5 : Int32)).bind fun x6 => some (x6, N)))) else (if (y6 &&& y4) = 0 then (if y5 = (-9 : Int32) then (f_X10_buy_72 F (fun y2 y3 y4 y5 y6 N => f_X10_buy_26 F n y2 y3 y4 y5 y6 N) y2 y3 y4 y5 y6 (1 : Int32) N) else ((f_X10_sumOf F N y6 (5 : Int32)).bind fun x10 => (f_X10_sumOf F N y5 (5 : Int32)).bind fun x12 => if x12 ≤ x10 then (f_X10_buy_72 F (fun y2 y3 y4 y5 y6 N => f_X10_buy_26 F n y2 y3 y4 y5 y6 N) y2 y3 y4 y5 y6 (0 : Int32) N) else (f_X10_buy_72 F (fun y2 y3 y4 y5 y6 N => f_X10_buy_26 F n y2 y3 y4 y5 y6 N) y2 y3 y4 y5 y6 (1 : Int32) N))) else (f_X10_buy_72 F (fun y2 y3 y4 y5 y6 N => f_X10_buy_26 F n y2 y3 y4 y5 y6 N) y2 y3 y4 y5 y6 (0 : Int32) N))) = some v from h) fun h => r_iload D_X10_buy_26 rfl <| r_aload_n D_X10_buy_28 rfl <| (bdE h).elim fun x1 q2 => let_h q2.2 fun h => r_callV (av := []) D_X10_buy_29 ml_X10_139 mf_X10_allThings mv_X10_allThings s_36 rfl rfl (x_X10_allThings q2.1) (Nat.le_of_ble_eq_true rfl) rfl rfl (Nat.le_of_ble_eq_true rfl) <| r_icmp_gt D_X10_buy_32 (fun c3 => let_h (ifT c3 h) fun h => r_iload D_X10_buy_112 rfl <| r_bipush D_X10_buy_114 k8_m9 <| r_icmp_eq D_X10_buy_116 (fun c4 => let_h (ifT c4 h) fun h => r_iload D_X10_buy_123 rfl <| r_goto D_X10_buy_125 <| r_iret hq D_X10_buy_135 rfl (rtW h)) (fun c4 => let_h (ifF c4 h) fun h => r_iload_n D_X10_buy_119 rfl <| r_if_ne D_X10_buy_120 (fun c5 => let_h (ifT c5 h) fun h => r_iload D_X10_buy_123 rfl <| r_goto D_X10_buy_125 <| r_iret hq D_X10_buy_135 rfl (rtW h)) (fun c5 => let_h (ifF c5 h) fun h => r_aload_n D_X10_buy_128 rfl <| r_iload D_X10_buy_129 rfl <| r_iconst D_X10_buy_131 ki_5 <| (bdE h).elim fun x6 q7 => let_h q7.2 fun h => r_callV (av := [.int y5, .int (5 : Int32)]) D_X10_buy_132 ml_X10_207 mf_X10_sumOf mv_X10_sumOf s_36 rfl rfl (x_X10_sumOf q7.1) (Nat.le_of_ble_eq_true rfl) rfl rfl (Nat.le_of_ble_eq_true rfl) <| r_iret hq D_X10_buy_135 rfl (rtW h)))) (fun c3 => let_h (ifF c3 h) fun h => r_iload D_X10_buy_35 rfl <| r_iload D_X10_buy_37 rfl <| r_iand D_X10_buy_39 <| r_if_ne D_X10_buy_40 (fun c8 => let_h (ifT c8 h) fun h => r_iload D_X10_buy_43 rfl <| r_bipush D_X10_buy_45 k8_m9 <| r_icmp_eq D_X10_buy_47 (fun c9 => let_h (ifT c9 h) fun h => r_iconst D_X10_buy_67 ki_1 <| r_goto D_X10_buy_68 <| r_ls (x_X10_buy_72 hq (fun y2 y3 y4 y5 y6 N h => x_X10_buy_26 hq n y2 y3 y4 y5 y6 N h) y2 y3 y4 y5 y6 (1 : Int32) N h) ⟨rfl, ⟨rfl, ⟨rfl, ⟨rfl, ⟨rfl, ⟨rfl, trivial⟩⟩⟩⟩⟩⟩) (fun c9 => let_h (ifF c9 h) fun h => r_aload_n D_X10_buy_50 rfl <| r_iload D_X10_buy_51 rfl <| r_iconst D_X10_buy_53 ki_5 <| (bdE h).elim fun x10 q11 => let_h q11.2 fun h => r_callV (av := [.int y6, .int (5 : Int32)]) D_X10_buy_54 ml_X10_207 mf_X10_sumOf mv_X10_sumOf s_36 rfl rfl (x_X10_sumOf q11.1) (Nat.le_of_ble_eq_true rfl) rfl rfl (Nat.le_of_ble_eq_true rfl) <| r_aload_n D_X10_buy_57 rfl <| r_iload D_X10_buy_58 rfl <| r_iconst D_X10_buy_60 ki_5 <| (bdE h).elim fun x12 q13 => let_h q13.2 fun h => r_callV (av := [.int y5, .int (5 : Int32)]) D_X10_buy_61 ml_X10_207 mf_X10_sumOf mv_X10_sumOf s_36 rfl rfl (x_X10_sumOf q13.1) (Nat.le_of_ble_eq_true rfl) rfl rfl (Nat.le_of_ble_eq_true rfl) <| r_icmp_ge D_X10_buy_64 (fun c14 => let_h (ifT c14 h) fun h => r_iconst D_X10_buy_71 ki_0 <| r_ls (x_X10_buy_72 hq (fun y2 y3 y4 y5 y6 N h => x_X10_buy_26 hq n y2 y3 y4 y5 y6 N h) y2 y3 y4 y5 y6 (0 : Int32) N h) ⟨rfl, ⟨rfl, ⟨rfl, ⟨rfl, ⟨rfl, ⟨rfl, trivial⟩⟩⟩⟩⟩⟩) (fun c14 => let_h (ifF c14 h) fun h => r_iconst D_X10_buy_67 ki_1 <| r_goto D_X10_buy_68 <| r_ls (x_X10_buy_72 hq (fun y2 y3 y4 y5 y6 N h => x_X10_buy_26 hq n y2 y3 y4 y5 y6 N h) y2 y3 y4 y5 y6 (1 : Int32) N h) ⟨rfl, ⟨rfl, ⟨rfl, ⟨rfl, ⟨rfl, ⟨rfl, trivial⟩⟩⟩⟩⟩⟩))) (fun c8 => let_h (ifF c8 h) fun h => r_iconst D_X10_buy_71 ki_0 <| r_ls (x_X10_buy_72 hq (fun y2 y3 y4 y5 y6 N h => x_X10_buy_26 hq n y2 y3 y4 y5 y6 N h) y2 y3 y4 y5 y6 (0 : Int32) N h) ⟨rfl, ⟨rfl, ⟨rfl, ⟨rfl, ⟨rfl, ⟨rfl, trivial⟩⟩⟩⟩⟩⟩))
def f_X10_buy (F : Nat) (M : Mem) (a1 : Int32) (a2 : Int32) (a3 : Int32) : Option (Int32 × Mem) := if (f_X10_in M a3 (0 : Int32) (1 : Int32)) = 0 then (some ((-1 : Int32), M)) else ((f_X10_allThings M).bind fun x2 => f_X10_buy_26 F F a2 a3 (a1 &&& x2) (-9 : Int32) (0 : Int32) M)
theorem x_X10_buy {l : Launch} {w : Wd} {F : Nat} {M : Mem} {a1 : Int32} {a2 : Int32} {a3 : Int32} {v : Int32 × Mem} (h : f_X10_buy F M a1 a2 a3 = some v) : Cn l w mi_X10_buy yX10_buy (6) [.ref (wq w 36), .int a1, .int a2, .int a3] M (some (.int v.1), v.2) :=
  Cn_of (loc0 := [some (.ref (wq w 36)), some (.int a1), some (.int a2), some (.int a3), none, none, none, none]) rfl rfl rfl (Nat.le_of_ble_eq_true rfl) fun κ hq => let_h (show (if (f_X10_in M a3 (0 : Int32) (1 : Int32)) = 0 then (some ((-1 : Int32), M)) else ((f_X10_allThings M).bind fun x2 => f_X10_buy_26 F F a2 a3 (a1 &&& x2) (-9 : Int32) (0 : Int32) M)) = some v from h) fun h => r_iload_n D_X10_buy_0 rfl <| r_iconst D_X10_buy_1 ki_0 <| r_iconst D_X10_buy_2 ki_1 <| r_callS (av := [.int a3, .int (0 : Int32), .int (1 : Int32)]) D_X10_buy_3 ml_X10_78 mf_X10_in ms_X10_in (x_X10_in rfl) (Nat.le_of_ble_eq_true rfl) rfl rfl (Nat.le_of_ble_eq_true rfl) <| r_if_ne D_X10_buy_6 (fun c1 => let_h (ifT c1 h) fun h => r_iconst D_X10_buy_9 ki_m1 <| r_iret hq D_X10_buy_10 rfl (rtW h)) (fun c1 => let_h (ifF c1 h) fun h => r_iload_n D_X10_buy_11 rfl <| r_aload_n D_X10_buy_12 rfl <| (bdE h).elim fun x2 q3 => let_h q3.2 fun h => r_callV (av := []) D_X10_buy_13 ml_X10_139 mf_X10_allThings mv_X10_allThings s_36 rfl rfl (x_X10_allThings q3.1) (Nat.le_of_ble_eq_true rfl) rfl rfl (Nat.le_of_ble_eq_true rfl) <| r_iand D_X10_buy_16 <| r_istore D_X10_buy_17 (by decide) rfl <| r_bipush D_X10_buy_19 k8_m9 <| r_istore D_X10_buy_21 (by decide) rfl <| r_iconst D_X10_buy_23 ki_0 <| r_istore D_X10_buy_24 (by decide) rfl <| r_ls (x_X10_buy_26 hq F a2 a3 (a1 &&& x2) (-9 : Int32) (0 : Int32) M h) ⟨rfl, ⟨rfl, ⟨rfl, ⟨rfl, ⟨rfl, ⟨rfl, trivial⟩⟩⟩⟩⟩⟩)
-- X10_bitsIn
theorem D_X10_bitsIn_0 : Dec mi_X10_bitsIn 0 (.iconst 0) 1 1 := ⟨by decide +kernel, rfl⟩
theorem D_X10_bitsIn_1 : Dec mi_X10_bitsIn 1 (.istore_n 1) 1 2 := ⟨by decide +kernel, rfl⟩
theorem D_X10_bitsIn_2 : Dec mi_X10_bitsIn 2 (.iconst 0) 1 3 := ⟨by decide +kernel, rfl⟩
theorem D_X10_bitsIn_3 : Dec mi_X10_bitsIn 3 (.istore_n 2) 1 4 := ⟨by decide +kernel, rfl⟩
theorem D_X10_bitsIn_4 : Dec mi_X10_bitsIn 4 (.iload_n 2) 1 5 := ⟨by decide +kernel, rfl⟩
theorem D_X10_bitsIn_5 : Dec mi_X10_bitsIn 5 (.bipush 6) 2 7 := ⟨by decide +kernel, rfl⟩
theorem D_X10_bitsIn_7 : DecJ mi_X10_bitsIn 7 (.if_icmp .ge 17) (17) 10 24 := ⟨by decide +kernel, rfl, by decide⟩
theorem D_X10_bitsIn_10 : Dec mi_X10_bitsIn 10 (.iload_n 1) 1 11 := ⟨by decide +kernel, rfl⟩
theorem D_X10_bitsIn_11 : Dec mi_X10_bitsIn 11 (.iload_n 0) 1 12 := ⟨by decide +kernel, rfl⟩
theorem D_X10_bitsIn_12 : Dec mi_X10_bitsIn 12 (.iload_n 2) 1 13 := ⟨by decide +kernel, rfl⟩
theorem D_X10_bitsIn_13 : Dec mi_X10_bitsIn 13 (.ishr) 1 14 := ⟨by decide +kernel, rfl⟩
theorem D_X10_bitsIn_14 : Dec mi_X10_bitsIn 14 (.iconst 1) 1 15 := ⟨by decide +kernel, rfl⟩
theorem D_X10_bitsIn_15 : Dec mi_X10_bitsIn 15 (.iand) 1 16 := ⟨by decide +kernel, rfl⟩
theorem D_X10_bitsIn_16 : Dec mi_X10_bitsIn 16 (.iadd) 1 17 := ⟨by decide +kernel, rfl⟩
theorem D_X10_bitsIn_17 : Dec mi_X10_bitsIn 17 (.istore_n 1) 1 18 := ⟨by decide +kernel, rfl⟩
theorem D_X10_bitsIn_18 : Dec mi_X10_bitsIn 18 (.iinc 2 1) 3 21 := ⟨by decide +kernel, rfl⟩
theorem D_X10_bitsIn_21 : DecJ mi_X10_bitsIn 21 (.goto (-17)) (-17) 24 4 := ⟨by decide +kernel, rfl, by decide⟩
theorem D_X10_bitsIn_24 : Dec mi_X10_bitsIn 24 (.iload_n 1) 1 25 := ⟨by decide +kernel, rfl⟩
theorem D_X10_bitsIn_25 : Dec mi_X10_bitsIn 25 (.ireturn) 1 26 := ⟨by decide +kernel, rfl⟩
def f_X10_bitsIn_4 (F : Nat) (M : Mem) : Nat → Int32 → Int32 → Int32 → Option Int32
  | 0, _, _, _ => none
  | n + 1, y0, y1, y2 => if (6 : Int32) ≤ y2 then (some y1) else (vlet (y1 + ((y0 >>> (y2 &&& 31)) &&& (1 : Int32))) fun x2 => f_X10_bitsIn_4 F M n y0 x2 (y2 + (1 : Int32)))
theorem x_X10_bitsIn_4 {l : Launch} {w : Wd} {κ : Kp} {F : Nat} {M : Mem} {v : Int32} (hq : RQ w (some (.int v), M) κ) : ∀ (n : Nat) (y0 : Int32) (y1 : Int32) (y2 : Int32), f_X10_bitsIn_4 F M n y0 y1 y2 = some v → RR l w mi_X10_bitsIn (0) κ 4 [] [some (.int y0), some (.int y1), some (.int y2)] M
  | 0, _, _, _, h => nomatch h
  | n + 1, y0, y1, y2, h => let_h (show (if (6 : Int32) ≤ y2 then (some y1) else (vlet (y1 + ((y0 >>> (y2 &&& 31)) &&& (1 : Int32))) fun x2 => f_X10_bitsIn_4 F M n y0 x2 (y2 + (1 : Int32)))) = some v from h) fun h => r_iload_n D_X10_bitsIn_4 rfl <| r_bipush D_X10_bitsIn_5 k8_6 <| r_icmp_ge D_X10_bitsIn_7 (fun c1 => let_h (ifT c1 h) fun h => r_iload_n D_X10_bitsIn_24 rfl <| r_iret hq D_X10_bitsIn_25 rfl (rtP h)) (fun c1 => let_h (ifF c1 h) fun h => r_iload_n D_X10_bitsIn_10 rfl <| r_iload_n D_X10_bitsIn_11 rfl <| r_iload_n D_X10_bitsIn_12 rfl <| r_ishr D_X10_bitsIn_13 <| r_iconst D_X10_bitsIn_14 ki_1 <| r_iand D_X10_bitsIn_15 <| r_iadd D_X10_bitsIn_16 <| vlE (fun x2 => RR l w mi_X10_bitsIn (0) κ 17 [.int x2] [some (.int y0), some (.int y1), some (.int y2)] M) h fun x2 h => r_istore_n D_X10_bitsIn_17 (by decide) rfl <| r_iinc D_X10_bitsIn_18 rfl ki_1 (by decide) rfl <| r_goto D_X10_bitsIn_21 <| r_ls (x_X10_bitsIn_4 hq n y0 x2 (y2 + (1 : Int32)) h) ⟨rfl, ⟨rfl, ⟨rfl, trivial⟩⟩⟩)
def f_X10_bitsIn (F : Nat) (M : Mem) (a1 : Int32) : Option Int32 := f_X10_bitsIn_4 F M F a1 (0 : Int32) (0 : Int32)
theorem x_X10_bitsIn {l : Launch} {w : Wd} {F : Nat} {M : Mem} {a1 : Int32} {v : Int32} (h : f_X10_bitsIn F M a1 = some v) : Cn l w mi_X10_bitsIn yX10_bitsIn (0) [.int a1] M (some (.int v), M) :=
  Cn_of (loc0 := [some (.int a1), none, none]) rfl rfl rfl (Nat.le_of_ble_eq_true rfl) fun κ hq => let_h (show (f_X10_bitsIn_4 F M F a1 (0 : Int32) (0 : Int32)) = some v from h) fun h => r_iconst D_X10_bitsIn_0 ki_0 <| r_istore_n D_X10_bitsIn_1 (by decide) rfl <| r_iconst D_X10_bitsIn_2 ki_0 <| r_istore_n D_X10_bitsIn_3 (by decide) rfl <| r_ls (x_X10_bitsIn_4 hq F a1 (0 : Int32) (0 : Int32) h) ⟨rfl, ⟨rfl, ⟨rfl, trivial⟩⟩⟩
-- X10_desk
theorem D_X10_desk_0 : Dec mi_X10_desk 0 (.iload_n 1) 1 1 := ⟨by decide +kernel, rfl⟩
theorem D_X10_desk_1 : Dec mi_X10_desk 1 (.aload_n 0) 1 2 := ⟨by decide +kernel, rfl⟩
theorem D_X10_desk_2 : Dec mi_X10_desk 2 (.invokevirtual 139) 3 5 := ⟨by decide +kernel, rfl⟩
theorem D_X10_desk_5 : Dec mi_X10_desk 5 (.iand) 1 6 := ⟨by decide +kernel, rfl⟩
theorem D_X10_desk_6 : Dec mi_X10_desk 6 (.istore_n 3) 1 7 := ⟨by decide +kernel, rfl⟩
theorem D_X10_desk_7 : Dec mi_X10_desk 7 (.bipush (-9)) 2 9 := ⟨by decide +kernel, rfl⟩
theorem D_X10_desk_9 : Dec mi_X10_desk 9 (.istore 4) 2 11 := ⟨by decide +kernel, rfl⟩
theorem D_X10_desk_11 : Dec mi_X10_desk 11 (.iconst 0) 1 12 := ⟨by decide +kernel, rfl⟩
theorem D_X10_desk_12 : Dec mi_X10_desk 12 (.istore 5) 2 14 := ⟨by decide +kernel, rfl⟩
theorem D_X10_desk_14 : Dec mi_X10_desk 14 (.iload 5) 2 16 := ⟨by decide +kernel, rfl⟩
theorem D_X10_desk_16 : Dec mi_X10_desk 16 (.iload_n 3) 1 17 := ⟨by decide +kernel, rfl⟩
theorem D_X10_desk_17 : DecJ mi_X10_desk 17 (.if_icmp .gt 93) (93) 20 110 := ⟨by decide +kernel, rfl, by decide⟩
theorem D_X10_desk_20 : Dec mi_X10_desk 20 (.iload 5) 2 22 := ⟨by decide +kernel, rfl⟩
theorem D_X10_desk_22 : Dec mi_X10_desk 22 (.iload_n 3) 1 23 := ⟨by decide +kernel, rfl⟩
theorem D_X10_desk_23 : Dec mi_X10_desk 23 (.iconst (-1)) 1 24 := ⟨by decide +kernel, rfl⟩
theorem D_X10_desk_24 : Dec mi_X10_desk 24 (.ixor) 1 25 := ⟨by decide +kernel, rfl⟩
theorem D_X10_desk_25 : Dec mi_X10_desk 25 (.iand) 1 26 := ⟨by decide +kernel, rfl⟩
theorem D_X10_desk_26 : DecJ mi_X10_desk 26 (.ifCond .ne 27) (27) 29 53 := ⟨by decide +kernel, rfl, by decide⟩
theorem D_X10_desk_29 : Dec mi_X10_desk 29 (.iload 4) 2 31 := ⟨by decide +kernel, rfl⟩
theorem D_X10_desk_31 : Dec mi_X10_desk 31 (.bipush (-9)) 2 33 := ⟨by decide +kernel, rfl⟩
theorem D_X10_desk_33 : DecJ mi_X10_desk 33 (.if_icmp .eq 16) (16) 36 49 := ⟨by decide +kernel, rfl, by decide⟩
theorem D_X10_desk_36 : Dec mi_X10_desk 36 (.iload 5) 2 38 := ⟨by decide +kernel, rfl⟩
theorem D_X10_desk_38 : Dec mi_X10_desk 38 (.invokestatic 213) 3 41 := ⟨by decide +kernel, rfl⟩
theorem D_X10_desk_41 : Dec mi_X10_desk 41 (.iload 4) 2 43 := ⟨by decide +kernel, rfl⟩
theorem D_X10_desk_43 : Dec mi_X10_desk 43 (.invokestatic 213) 3 46 := ⟨by decide +kernel, rfl⟩
theorem D_X10_desk_46 : DecJ mi_X10_desk 46 (.if_icmp .ge 7) (7) 49 53 := ⟨by decide +kernel, rfl, by decide⟩
theorem D_X10_desk_49 : Dec mi_X10_desk 49 (.iconst 1) 1 50 := ⟨by decide +kernel, rfl⟩
theorem D_X10_desk_50 : DecJ mi_X10_desk 50 (.goto 4) (4) 53 54 := ⟨by decide +kernel, rfl, by decide⟩
theorem D_X10_desk_53 : Dec mi_X10_desk 53 (.iconst 0) 1 54 := ⟨by decide +kernel, rfl⟩
theorem D_X10_desk_54 : Dec mi_X10_desk 54 (.istore 6) 2 56 := ⟨by decide +kernel, rfl⟩
theorem D_X10_desk_56 : Dec mi_X10_desk 56 (.iload 6) 2 58 := ⟨by decide +kernel, rfl⟩
theorem D_X10_desk_58 : DecJ mi_X10_desk 58 (.ifCond .eq 42) (42) 61 100 := ⟨by decide +kernel, rfl, by decide⟩
theorem D_X10_desk_61 : Dec mi_X10_desk 61 (.aload_n 0) 1 62 := ⟨by decide +kernel, rfl⟩
theorem D_X10_desk_62 : Dec mi_X10_desk 62 (.iload_n 3) 1 63 := ⟨by decide +kernel, rfl⟩
theorem D_X10_desk_63 : Dec mi_X10_desk 63 (.iload 5) 2 65 := ⟨by decide +kernel, rfl⟩
theorem D_X10_desk_65 : Dec mi_X10_desk 65 (.iconst (-1)) 1 66 := ⟨by decide +kernel, rfl⟩
theorem D_X10_desk_66 : Dec mi_X10_desk 66 (.ixor) 1 67 := ⟨by decide +kernel, rfl⟩
theorem D_X10_desk_67 : Dec mi_X10_desk 67 (.iand) 1 68 := ⟨by decide +kernel, rfl⟩
theorem D_X10_desk_68 : Dec mi_X10_desk 68 (.iconst 4) 1 69 := ⟨by decide +kernel, rfl⟩
theorem D_X10_desk_69 : Dec mi_X10_desk 69 (.invokevirtual 207) 3 72 := ⟨by decide +kernel, rfl⟩
theorem D_X10_desk_72 : Dec mi_X10_desk 72 (.aload_n 0) 1 73 := ⟨by decide +kernel, rfl⟩
theorem D_X10_desk_73 : Dec mi_X10_desk 73 (.getfield 29) 3 76 := ⟨by decide +kernel, rfl⟩
theorem D_X10_desk_76 : Dec mi_X10_desk 76 (.iconst 0) 1 77 := ⟨by decide +kernel, rfl⟩
theorem D_X10_desk_77 : Dec mi_X10_desk 77 (.iaload) 1 78 := ⟨by decide +kernel, rfl⟩
theorem D_X10_desk_78 : DecJ mi_X10_desk 78 (.if_icmp .gt 22) (22) 81 100 := ⟨by decide +kernel, rfl, by decide⟩
theorem D_X10_desk_81 : Dec mi_X10_desk 81 (.aload_n 0) 1 82 := ⟨by decide +kernel, rfl⟩
theorem D_X10_desk_82 : Dec mi_X10_desk 82 (.iload_n 3) 1 83 := ⟨by decide +kernel, rfl⟩
theorem D_X10_desk_83 : Dec mi_X10_desk 83 (.iload 5) 2 85 := ⟨by decide +kernel, rfl⟩
theorem D_X10_desk_85 : Dec mi_X10_desk 85 (.iconst (-1)) 1 86 := ⟨by decide +kernel, rfl⟩
theorem D_X10_desk_86 : Dec mi_X10_desk 86 (.ixor) 1 87 := ⟨by decide +kernel, rfl⟩
theorem D_X10_desk_87 : Dec mi_X10_desk 87 (.iand) 1 88 := ⟨by decide +kernel, rfl⟩
theorem D_X10_desk_88 : Dec mi_X10_desk 88 (.iload_n 2) 1 89 := ⟨by decide +kernel, rfl⟩
theorem D_X10_desk_89 : Dec mi_X10_desk 89 (.invokevirtual 198) 3 92 := ⟨by decide +kernel, rfl⟩
theorem D_X10_desk_92 : DecJ mi_X10_desk 92 (.ifCond .eq 8) (8) 95 100 := ⟨by decide +kernel, rfl, by decide⟩
theorem D_X10_desk_95 : Dec mi_X10_desk 95 (.iload 5) 2 97 := ⟨by decide +kernel, rfl⟩
theorem D_X10_desk_97 : DecJ mi_X10_desk 97 (.goto 5) (5) 100 102 := ⟨by decide +kernel, rfl, by decide⟩
theorem D_X10_desk_100 : Dec mi_X10_desk 100 (.iload 4) 2 102 := ⟨by decide +kernel, rfl⟩
theorem D_X10_desk_102 : Dec mi_X10_desk 102 (.istore 4) 2 104 := ⟨by decide +kernel, rfl⟩
theorem D_X10_desk_104 : Dec mi_X10_desk 104 (.iinc 5 1) 3 107 := ⟨by decide +kernel, rfl⟩
theorem D_X10_desk_107 : DecJ mi_X10_desk 107 (.goto (-93)) (-93) 110 14 := ⟨by decide +kernel, rfl, by decide⟩
theorem D_X10_desk_110 : Dec mi_X10_desk 110 (.iload 4) 2 112 := ⟨by decide +kernel, rfl⟩
theorem D_X10_desk_112 : Dec mi_X10_desk 112 (.ireturn) 1 113 := ⟨by decide +kernel, rfl⟩
def f_X10_desk_54 (F : Nat) (K_14 : Int32 → Int32 → Int32 → Int32 → Mem → Option (Int32 × Mem)) (y2 : Int32) (y3 : Int32) (y4 : Int32) (y5 : Int32) (t0 : Int32) (N : Mem) : Option (Int32 × Mem) := if t0 = 0 then (K_14 y2 y3 y4 (y5 + (1 : Int32)) N) else ((f_X10_sumOf F N (y3 &&& (y5 ^^^ (-1 : Int32))) (4 : Int32)).bind fun x2 => if ck (0 : Int32) 3 = true then (if (N.1 43 (0 : Int32).toNatClampNeg) < x2 then (K_14 y2 y3 y4 (y5 + (1 : Int32)) N) else ((f_X10_isServing F N (y3 &&& (y5 ^^^ (-1 : Int32))) y2).bind fun p6 => if p6.1 = 0 then (K_14 y2 y3 y4 (y5 + (1 : Int32)) p6.2) else (K_14 y2 y3 y5 (y5 + (1 : Int32)) p6.2))) else none)
theorem x_X10_desk_54 {l : Launch} {w : Wd} {κ : Kp} {F : Nat} {v : Int32 × Mem} {K_14 : Int32 → Int32 → Int32 → Int32 → Mem → Option (Int32 × Mem)} (hq : RQ w (some (.int v.1), v.2) κ) (hK_14 : ∀ (y2 : Int32) (y3 : Int32) (y4 : Int32) (y5 : Int32) (N : Mem), K_14 y2 y3 y4 y5 N = some v → RR l w mi_X10_desk (6) κ 14 [] [some (.ref (wq w 36)), none, some (.int y2), some (.int y3), some (.int y4), some (.int y5), none] N) (y2 : Int32) (y3 : Int32) (y4 : Int32) (y5 : Int32) (t0 : Int32) (N : Mem) (h : f_X10_desk_54 F K_14 y2 y3 y4 y5 t0 N = some v) : RR l w mi_X10_desk (6) κ 54 [.int t0] [some (.ref (wq w 36)), none, some (.int y2), some (.int y3), some (.int y4), some (.int y5), none] N := let_h (show (if t0 = 0 then (K_14 y2 y3 y4 (y5 + (1 : Int32)) N) else ((f_X10_sumOf F N (y3 &&& (y5 ^^^ (-1 : Int32))) (4 : Int32)).bind fun x2 => if ck (0 : Int32) 3 = true then (if (N.1 43 (0 : Int32).toNatClampNeg) < x2 then (K_14 y2 y3 y4 (y5 + (1 : Int32)) N) else ((f_X10_isServing F N (y3 &&& (y5 ^^^ (-1 : Int32))) y2).bind fun p6 => if p6.1 = 0 then (K_14 y2 y3 y4 (y5 + (1 : Int32)) p6.2) else (K_14 y2 y3 y5 (y5 + (1 : Int32)) p6.2))) else none)) = some v from h) fun h => r_istore D_X10_desk_54 (by decide) rfl <| r_iload D_X10_desk_56 rfl <| r_if_eq D_X10_desk_58 (fun c1 => let_h (ifT c1 h) fun h => r_iload D_X10_desk_100 rfl <| r_istore D_X10_desk_102 (by decide) rfl <| r_iinc D_X10_desk_104 rfl ki_1 (by decide) rfl <| r_goto D_X10_desk_107 <| r_ls (hK_14 y2 y3 y4 (y5 + (1 : Int32)) N h) ⟨rfl, ⟨rfl, ⟨rfl, ⟨rfl, ⟨rfl, trivial⟩⟩⟩⟩⟩) (fun c1 => let_h (ifF c1 h) fun h => r_aload_n D_X10_desk_61 rfl <| r_iload_n D_X10_desk_62 rfl <| r_iload D_X10_desk_63 rfl <| r_iconst D_X10_desk_65 ki_m1 <| r_ixor D_X10_desk_66 <| r_iand D_X10_desk_67 <| r_iconst D_X10_desk_68 ki_4 <| (bdE h).elim fun x2 q3 => let_h q3.2 fun h => r_callV (av := [.int (y3 &&& (y5 ^^^ (-1 : Int32))), .int (4 : Int32)]) D_X10_desk_69 ml_X10_207 mf_X10_sumOf mv_X10_sumOf s_36 rfl rfl (x_X10_sumOf q3.1) (Nat.le_of_ble_eq_true rfl) rfl rfl (Nat.le_of_ble_eq_true rfl) <| r_aload_n D_X10_desk_72 rfl <| r_getR (j := 43) D_X10_desk_73 fl_X10_29 s_36 rfl <| r_iconst D_X10_desk_76 ki_0 <| (ckE h).elim fun c4 h => r_iald D_X10_desk_77 s_43 c4 <| r_icmp_gt D_X10_desk_78 (fun c5 => let_h (ifT c5 h) fun h => r_iload D_X10_desk_100 rfl <| r_istore D_X10_desk_102 (by decide) rfl <| r_iinc D_X10_desk_104 rfl ki_1 (by decide) rfl <| r_goto D_X10_desk_107 <| r_ls (hK_14 y2 y3 y4 (y5 + (1 : Int32)) N h) ⟨rfl, ⟨rfl, ⟨rfl, ⟨rfl, ⟨rfl, trivial⟩⟩⟩⟩⟩) (fun c5 => let_h (ifF c5 h) fun h => r_aload_n D_X10_desk_81 rfl <| r_iload_n D_X10_desk_82 rfl <| r_iload D_X10_desk_83 rfl <| r_iconst D_X10_desk_85 ki_m1 <| r_ixor D_X10_desk_86 <| r_iand D_X10_desk_87 <| r_iload_n D_X10_desk_88 rfl <| (bdE h).elim fun p6 q7 => let_h q7.2 fun h => r_callV (av := [.int (y3 &&& (y5 ^^^ (-1 : Int32))), .int y2]) D_X10_desk_89 ml_X10_198 mf_X10_isServing mv_X10_isServing s_36 rfl rfl (x_X10_isServing q7.1) (Nat.le_of_ble_eq_true rfl) rfl rfl (Nat.le_of_ble_eq_true rfl) <| r_if_eq D_X10_desk_92 (fun c8 => let_h (ifT c8 h) fun h => r_iload D_X10_desk_100 rfl <| r_istore D_X10_desk_102 (by decide) rfl <| r_iinc D_X10_desk_104 rfl ki_1 (by decide) rfl <| r_goto D_X10_desk_107 <| r_ls (hK_14 y2 y3 y4 (y5 + (1 : Int32)) p6.2 h) ⟨rfl, ⟨rfl, ⟨rfl, ⟨rfl, ⟨rfl, trivial⟩⟩⟩⟩⟩) (fun c8 => let_h (ifF c8 h) fun h => r_iload D_X10_desk_95 rfl <| r_goto D_X10_desk_97 <| r_istore D_X10_desk_102 (by decide) rfl <| r_iinc D_X10_desk_104 rfl ki_1 (by decide) rfl <| r_goto D_X10_desk_107 <| r_ls (hK_14 y2 y3 y5 (y5 + (1 : Int32)) p6.2 h) ⟨rfl, ⟨rfl, ⟨rfl, ⟨rfl, ⟨rfl, trivial⟩⟩⟩⟩⟩)))
def f_X10_desk_14 (F : Nat) : Nat → Int32 → Int32 → Int32 → Int32 → Mem → Option (Int32 × Mem)
  | 0, _, _, _, _, _ => none
  | n + 1, y2, y3, y4, y5, N => if y3 < y5 then (some (y4, N)) else (if (y5 &&& (y3 ^^^ (-1 : Int32))) = 0 then (if y4 = (-9 : Int32) then (f_X10_desk_54 F (fun y2 y3 y4 y5 N => f_X10_desk_14 F n y2 y3 y4 y5 N) y2 y3 y4 y5 (1 : Int32) N) else ((f_X10_bitsIn F N y5).bind fun x4 => (f_X10_bitsIn F N y4).bind fun x6 => if x6 ≤ x4 then (f_X10_desk_54 F (fun y2 y3 y4 y5 N => f_X10_desk_14 F n y2 y3 y4 y5 N) y2 y3 y4 y5 (0 : Int32) N) else (f_X10_desk_54 F (fun y2 y3 y4 y5 N => f_X10_desk_14 F n y2 y3 y4 y5 N) y2 y3 y4 y5 (1 : Int32) N))) else (f_X10_desk_54 F (fun y2 y3 y4 y5 N => f_X10_desk_14 F n y2 y3 y4 y5 N) y2 y3 y4 y5 (0 : Int32) N))
theorem x_X10_desk_14 {l : Launch} {w : Wd} {κ : Kp} {F : Nat} {v : Int32 × Mem} (hq : RQ w (some (.int v.1), v.2) κ) : ∀ (n : Nat) (y2 : Int32) (y3 : Int32) (y4 : Int32) (y5 : Int32) (N : Mem), f_X10_desk_14 F n y2 y3 y4 y5 N = some v → RR l w mi_X10_desk (6) κ 14 [] [some (.ref (wq w 36)), none, some (.int y2), some (.int y3), some (.int y4), some (.int y5), none] N
  | 0, _, _, _, _, _, h => nomatch h
  | n + 1, y2, y3, y4, y5, N, h => let_h (show (if y3 < y5 then (some (y4, N)) else (if (y5 &&& (y3 ^^^ (-1 : Int32))) = 0 then (if y4 = (-9 : Int32) then (f_X10_desk_54 F (fun y2 y3 y4 y5 N => f_X10_desk_14 F n y2 y3 y4 y5 N) y2 y3 y4 y5 (1 : Int32) N) else ((f_X10_bitsIn F N y5).bind fun x4 => (f_X10_bitsIn F N y4).bind fun x6 => if x6 ≤ x4 then (f_X10_desk_54 F (fun y2 y3 y4 y5 N => f_X10_desk_14 F n y2 y3 y4 y5 N) y2 y3 y4 y5 (0 : Int32) N) else (f_X10_desk_54 F (fun y2 y3 y4 y5 N => f_X10_desk_14 F n y2 y3 y4 y5 N) y2 y3 y4 y5 (1 : Int32) N))) else (f_X10_desk_54 F (fun y2 y3 y4 y5 N => f_X10_desk_14 F n y2 y3 y4 y5 N) y2 y3 y4 y5 (0 : Int32) N))) = some v from h) fun h => r_iload D_X10_desk_14 rfl <| r_iload_n D_X10_desk_16 rfl <| r_icmp_gt D_X10_desk_17 (fun c1 => let_h (ifT c1 h) fun h => r_iload D_X10_desk_110 rfl <| r_iret hq D_X10_desk_112 rfl (rtW h)) (fun c1 => let_h (ifF c1 h) fun h => r_iload D_X10_desk_20 rfl <| r_iload_n D_X10_desk_22 rfl <| r_iconst D_X10_desk_23 ki_m1 <| r_ixor D_X10_desk_24 <| r_iand D_X10_desk_25 <| r_if_ne D_X10_desk_26 (fun c2 => let_h (ifT c2 h) fun h => r_iload D_X10_desk_29 rfl <| r_bipush D_X10_desk_31 k8_m9 <| r_icmp_eq D_X10_desk_33 (fun c3 => let_h (ifT c3 h) fun h => r_iconst D_X10_desk_49 ki_1 <| r_goto D_X10_desk_50 <| r_ls (x_X10_desk_54 hq (fun y2 y3 y4 y5 N h => x_X10_desk_14 hq n y2 y3 y4 y5 N h) y2 y3 y4 y5 (1 : Int32) N h) ⟨rfl, ⟨rfl, ⟨rfl, ⟨rfl, ⟨rfl, trivial⟩⟩⟩⟩⟩) (fun c3 => let_h (ifF c3 h) fun h => r_iload D_X10_desk_36 rfl <| (bdE h).elim fun x4 q5 => let_h q5.2 fun h => r_callS (av := [.int y5]) D_X10_desk_38 ml_X10_213 mf_X10_bitsIn ms_X10_bitsIn (x_X10_bitsIn q5.1) (Nat.le_of_ble_eq_true rfl) rfl rfl (Nat.le_of_ble_eq_true rfl) <| r_iload D_X10_desk_41 rfl <| (bdE h).elim fun x6 q7 => let_h q7.2 fun h => r_callS (av := [.int y4]) D_X10_desk_43 ml_X10_213 mf_X10_bitsIn ms_X10_bitsIn (x_X10_bitsIn q7.1) (Nat.le_of_ble_eq_true rfl) rfl rfl (Nat.le_of_ble_eq_true rfl) <| r_icmp_ge D_X10_desk_46 (fun c8 => let_h (ifT c8 h) fun h => r_iconst D_X10_desk_53 ki_0 <| r_ls (x_X10_desk_54 hq (fun y2 y3 y4 y5 N h => x_X10_desk_14 hq n y2 y3 y4 y5 N h) y2 y3 y4 y5 (0 : Int32) N h) ⟨rfl, ⟨rfl, ⟨rfl, ⟨rfl, ⟨rfl, trivial⟩⟩⟩⟩⟩) (fun c8 => let_h (ifF c8 h) fun h => r_iconst D_X10_desk_49 ki_1 <| r_goto D_X10_desk_50 <| r_ls (x_X10_desk_54 hq (fun y2 y3 y4 y5 N h => x_X10_desk_14 hq n y2 y3 y4 y5 N h) y2 y3 y4 y5 (1 : Int32) N h) ⟨rfl, ⟨rfl, ⟨rfl, ⟨rfl, ⟨rfl, trivial⟩⟩⟩⟩⟩))) (fun c2 => let_h (ifF c2 h) fun h => r_iconst D_X10_desk_53 ki_0 <| r_ls (x_X10_desk_54 hq (fun y2 y3 y4 y5 N h => x_X10_desk_14 hq n y2 y3 y4 y5 N h) y2 y3 y4 y5 (0 : Int32) N h) ⟨rfl, ⟨rfl, ⟨rfl, ⟨rfl, ⟨rfl, trivial⟩⟩⟩⟩⟩))
def f_X10_desk (F : Nat) (M : Mem) (a1 : Int32) (a2 : Int32) : Option (Int32 × Mem) := (f_X10_allThings M).bind fun x1 => f_X10_desk_14 F F a2 (a1 &&& x1) (-9 : Int32) (0 : Int32) M
theorem x_X10_desk {l : Launch} {w : Wd} {F : Nat} {M : Mem} {a1 : Int32} {a2 : Int32} {v : Int32 × Mem} (h : f_X10_desk F M a1 a2 = some v) : Cn l w mi_X10_desk yX10_desk (6) [.ref (wq w 36), .int a1, .int a2] M (some (.int v.1), v.2) :=
  Cn_of (loc0 := [some (.ref (wq w 36)), some (.int a1), some (.int a2), none, none, none, none]) rfl rfl rfl (Nat.le_of_ble_eq_true rfl) fun κ hq => let_h (show ((f_X10_allThings M).bind fun x1 => f_X10_desk_14 F F a2 (a1 &&& x1) (-9 : Int32) (0 : Int32) M) = some v from h) fun h => r_iload_n D_X10_desk_0 rfl <| r_aload_n D_X10_desk_1 rfl <| (bdE h).elim fun x1 q2 => let_h q2.2 fun h => r_callV (av := []) D_X10_desk_2 ml_X10_139 mf_X10_allThings mv_X10_allThings s_36 rfl rfl (x_X10_allThings q2.1) (Nat.le_of_ble_eq_true rfl) rfl rfl (Nat.le_of_ble_eq_true rfl) <| r_iand D_X10_desk_5 <| r_istore_n D_X10_desk_6 (by decide) rfl <| r_bipush D_X10_desk_7 k8_m9 <| r_istore D_X10_desk_9 (by decide) rfl <| r_iconst D_X10_desk_11 ki_0 <| r_istore D_X10_desk_12 (by decide) rfl <| r_ls (x_X10_desk_14 hq F a2 (a1 &&& x1) (-9 : Int32) (0 : Int32) M h) ⟨rfl, ⟨rfl, ⟨rfl, ⟨rfl, ⟨rfl, trivial⟩⟩⟩⟩⟩
-- X10_lay
theorem D_X10_lay_0 : Dec mi_X10_lay 0 (.iload_n 2) 1 1 := ⟨by decide +kernel, rfl⟩
theorem D_X10_lay_1 : Dec mi_X10_lay 1 (.istore_n 3) 1 2 := ⟨by decide +kernel, rfl⟩
theorem D_X10_lay_2 : Dec mi_X10_lay 2 (.iconst 0) 1 3 := ⟨by decide +kernel, rfl⟩
theorem D_X10_lay_3 : Dec mi_X10_lay 3 (.istore 4) 2 5 := ⟨by decide +kernel, rfl⟩
theorem D_X10_lay_5 : Dec mi_X10_lay 5 (.iload 4) 2 7 := ⟨by decide +kernel, rfl⟩
theorem D_X10_lay_7 : Dec mi_X10_lay 7 (.iconst 4) 1 8 := ⟨by decide +kernel, rfl⟩
theorem D_X10_lay_8 : DecJ mi_X10_lay 8 (.if_icmp .ge 17) (17) 11 25 := ⟨by decide +kernel, rfl, by decide⟩
theorem D_X10_lay_11 : Dec mi_X10_lay 11 (.aload_n 0) 1 12 := ⟨by decide +kernel, rfl⟩
theorem D_X10_lay_12 : Dec mi_X10_lay 12 (.getfield 69) 3 15 := ⟨by decide +kernel, rfl⟩
theorem D_X10_lay_15 : Dec mi_X10_lay 15 (.iload 4) 2 17 := ⟨by decide +kernel, rfl⟩
theorem D_X10_lay_17 : Dec mi_X10_lay 17 (.iconst 0) 1 18 := ⟨by decide +kernel, rfl⟩
theorem D_X10_lay_18 : Dec mi_X10_lay 18 (.iastore) 1 19 := ⟨by decide +kernel, rfl⟩
theorem D_X10_lay_19 : Dec mi_X10_lay 19 (.iinc 4 1) 3 22 := ⟨by decide +kernel, rfl⟩
theorem D_X10_lay_22 : DecJ mi_X10_lay 22 (.goto (-17)) (-17) 25 5 := ⟨by decide +kernel, rfl, by decide⟩
theorem D_X10_lay_25 : Dec mi_X10_lay 25 (.iconst 1) 1 26 := ⟨by decide +kernel, rfl⟩
theorem D_X10_lay_26 : Dec mi_X10_lay 26 (.istore 4) 2 28 := ⟨by decide +kernel, rfl⟩
theorem D_X10_lay_28 : Dec mi_X10_lay 28 (.aload_n 0) 1 29 := ⟨by decide +kernel, rfl⟩
theorem D_X10_lay_29 : Dec mi_X10_lay 29 (.getfield 13) 3 32 := ⟨by decide +kernel, rfl⟩
theorem D_X10_lay_32 : Dec mi_X10_lay 32 (.iconst 0) 1 33 := ⟨by decide +kernel, rfl⟩
theorem D_X10_lay_33 : Dec mi_X10_lay 33 (.iaload) 1 34 := ⟨by decide +kernel, rfl⟩
theorem D_X10_lay_34 : Dec mi_X10_lay 34 (.iconst 1) 1 35 := ⟨by decide +kernel, rfl⟩
theorem D_X10_lay_35 : Dec mi_X10_lay 35 (.isub) 1 36 := ⟨by decide +kernel, rfl⟩
theorem D_X10_lay_36 : Dec mi_X10_lay 36 (.istore 5) 2 38 := ⟨by decide +kernel, rfl⟩
theorem D_X10_lay_38 : Dec mi_X10_lay 38 (.iload 5) 2 40 := ⟨by decide +kernel, rfl⟩
theorem D_X10_lay_40 : DecJ mi_X10_lay 40 (.ifCond .lt 103) (103) 43 143 := ⟨by decide +kernel, rfl, by decide⟩
theorem D_X10_lay_43 : Dec mi_X10_lay 43 (.iload_n 1) 1 44 := ⟨by decide +kernel, rfl⟩
theorem D_X10_lay_44 : Dec mi_X10_lay 44 (.iload 5) 2 46 := ⟨by decide +kernel, rfl⟩
theorem D_X10_lay_46 : Dec mi_X10_lay 46 (.invokestatic 155) 3 49 := ⟨by decide +kernel, rfl⟩
theorem D_X10_lay_49 : DecJ mi_X10_lay 49 (.ifCond .eq 88) (88) 52 137 := ⟨by decide +kernel, rfl, by decide⟩
theorem D_X10_lay_52 : Dec mi_X10_lay 52 (.aload_n 0) 1 53 := ⟨by decide +kernel, rfl⟩
theorem D_X10_lay_53 : Dec mi_X10_lay 53 (.getfield 66) 3 56 := ⟨by decide +kernel, rfl⟩
theorem D_X10_lay_56 : Dec mi_X10_lay 56 (.iload 5) 2 58 := ⟨by decide +kernel, rfl⟩
theorem D_X10_lay_58 : Dec mi_X10_lay 58 (.iload_n 3) 1 59 := ⟨by decide +kernel, rfl⟩
theorem D_X10_lay_59 : Dec mi_X10_lay 59 (.iconst 4) 1 60 := ⟨by decide +kernel, rfl⟩
theorem D_X10_lay_60 : Dec mi_X10_lay 60 (.irem) 1 61 := ⟨by decide +kernel, rfl⟩
theorem D_X10_lay_61 : Dec mi_X10_lay 61 (.iastore) 1 62 := ⟨by decide +kernel, rfl⟩
theorem D_X10_lay_62 : Dec mi_X10_lay 62 (.iload_n 3) 1 63 := ⟨by decide +kernel, rfl⟩
theorem D_X10_lay_63 : Dec mi_X10_lay 63 (.iconst 4) 1 64 := ⟨by decide +kernel, rfl⟩
theorem D_X10_lay_64 : Dec mi_X10_lay 64 (.idiv) 1 65 := ⟨by decide +kernel, rfl⟩
theorem D_X10_lay_65 : Dec mi_X10_lay 65 (.istore_n 3) 1 66 := ⟨by decide +kernel, rfl⟩
theorem D_X10_lay_66 : Dec mi_X10_lay 66 (.aload_n 0) 1 67 := ⟨by decide +kernel, rfl⟩
theorem D_X10_lay_67 : Dec mi_X10_lay 67 (.getfield 69) 3 70 := ⟨by decide +kernel, rfl⟩
theorem D_X10_lay_70 : Dec mi_X10_lay 70 (.aload_n 0) 1 71 := ⟨by decide +kernel, rfl⟩
theorem D_X10_lay_71 : Dec mi_X10_lay 71 (.getfield 66) 3 74 := ⟨by decide +kernel, rfl⟩
theorem D_X10_lay_74 : Dec mi_X10_lay 74 (.iload 5) 2 76 := ⟨by decide +kernel, rfl⟩
theorem D_X10_lay_76 : Dec mi_X10_lay 76 (.iaload) 1 77 := ⟨by decide +kernel, rfl⟩
theorem D_X10_lay_77 : Dec mi_X10_lay 77 (.dup2) 1 78 := ⟨by decide +kernel, rfl⟩
theorem D_X10_lay_78 : Dec mi_X10_lay 78 (.iaload) 1 79 := ⟨by decide +kernel, rfl⟩
theorem D_X10_lay_79 : Dec mi_X10_lay 79 (.aload_n 0) 1 80 := ⟨by decide +kernel, rfl⟩
theorem D_X10_lay_80 : Dec mi_X10_lay 80 (.iload 5) 2 82 := ⟨by decide +kernel, rfl⟩
theorem D_X10_lay_82 : Dec mi_X10_lay 82 (.iconst 3) 1 83 := ⟨by decide +kernel, rfl⟩
theorem D_X10_lay_83 : Dec mi_X10_lay 83 (.invokevirtual 148) 3 86 := ⟨by decide +kernel, rfl⟩
theorem D_X10_lay_86 : Dec mi_X10_lay 86 (.iadd) 1 87 := ⟨by decide +kernel, rfl⟩
theorem D_X10_lay_87 : Dec mi_X10_lay 87 (.iastore) 1 88 := ⟨by decide +kernel, rfl⟩
theorem D_X10_lay_88 : Dec mi_X10_lay 88 (.iload 4) 2 90 := ⟨by decide +kernel, rfl⟩
theorem D_X10_lay_90 : DecJ mi_X10_lay 90 (.ifCond .eq 44) (44) 93 134 := ⟨by decide +kernel, rfl, by decide⟩
theorem D_X10_lay_93 : Dec mi_X10_lay 93 (.aload_n 0) 1 94 := ⟨by decide +kernel, rfl⟩
theorem D_X10_lay_94 : Dec mi_X10_lay 94 (.getfield 66) 3 97 := ⟨by decide +kernel, rfl⟩
theorem D_X10_lay_97 : Dec mi_X10_lay 97 (.iload 5) 2 99 := ⟨by decide +kernel, rfl⟩
theorem D_X10_lay_99 : Dec mi_X10_lay 99 (.iaload) 1 100 := ⟨by decide +kernel, rfl⟩
theorem D_X10_lay_100 : Dec mi_X10_lay 100 (.aload_n 0) 1 101 := ⟨by decide +kernel, rfl⟩
theorem D_X10_lay_101 : Dec mi_X10_lay 101 (.getfield 29) 3 104 := ⟨by decide +kernel, rfl⟩
theorem D_X10_lay_104 : Dec mi_X10_lay 104 (.iconst 1) 1 105 := ⟨by decide +kernel, rfl⟩
theorem D_X10_lay_105 : Dec mi_X10_lay 105 (.iaload) 1 106 := ⟨by decide +kernel, rfl⟩
theorem D_X10_lay_106 : DecJ mi_X10_lay 106 (.if_icmp .ge 28) (28) 109 134 := ⟨by decide +kernel, rfl, by decide⟩
theorem D_X10_lay_109 : Dec mi_X10_lay 109 (.aload_n 0) 1 110 := ⟨by decide +kernel, rfl⟩
theorem D_X10_lay_110 : Dec mi_X10_lay 110 (.getfield 69) 3 113 := ⟨by decide +kernel, rfl⟩
theorem D_X10_lay_113 : Dec mi_X10_lay 113 (.aload_n 0) 1 114 := ⟨by decide +kernel, rfl⟩
theorem D_X10_lay_114 : Dec mi_X10_lay 114 (.getfield 66) 3 117 := ⟨by decide +kernel, rfl⟩
theorem D_X10_lay_117 : Dec mi_X10_lay 117 (.iload 5) 2 119 := ⟨by decide +kernel, rfl⟩
theorem D_X10_lay_119 : Dec mi_X10_lay 119 (.iaload) 1 120 := ⟨by decide +kernel, rfl⟩
theorem D_X10_lay_120 : Dec mi_X10_lay 120 (.iaload) 1 121 := ⟨by decide +kernel, rfl⟩
theorem D_X10_lay_121 : Dec mi_X10_lay 121 (.aload_n 0) 1 122 := ⟨by decide +kernel, rfl⟩
theorem D_X10_lay_122 : Dec mi_X10_lay 122 (.getfield 29) 3 125 := ⟨by decide +kernel, rfl⟩
theorem D_X10_lay_125 : Dec mi_X10_lay 125 (.iconst 2) 1 126 := ⟨by decide +kernel, rfl⟩
theorem D_X10_lay_126 : Dec mi_X10_lay 126 (.iaload) 1 127 := ⟨by decide +kernel, rfl⟩
theorem D_X10_lay_127 : DecJ mi_X10_lay 127 (.if_icmp .gt 7) (7) 130 134 := ⟨by decide +kernel, rfl, by decide⟩
theorem D_X10_lay_130 : Dec mi_X10_lay 130 (.iconst 1) 1 131 := ⟨by decide +kernel, rfl⟩
theorem D_X10_lay_131 : DecJ mi_X10_lay 131 (.goto 4) (4) 134 135 := ⟨by decide +kernel, rfl, by decide⟩
theorem D_X10_lay_134 : Dec mi_X10_lay 134 (.iconst 0) 1 135 := ⟨by decide +kernel, rfl⟩
theorem D_X10_lay_135 : Dec mi_X10_lay 135 (.istore 4) 2 137 := ⟨by decide +kernel, rfl⟩
theorem D_X10_lay_137 : Dec mi_X10_lay 137 (.iinc 5 (-1)) 3 140 := ⟨by decide +kernel, rfl⟩
theorem D_X10_lay_140 : DecJ mi_X10_lay 140 (.goto (-102)) (-102) 143 38 := ⟨by decide +kernel, rfl, by decide⟩
theorem D_X10_lay_143 : Dec mi_X10_lay 143 (.iload 4) 2 145 := ⟨by decide +kernel, rfl⟩
theorem D_X10_lay_145 : Dec mi_X10_lay 145 (.ireturn) 1 146 := ⟨by decide +kernel, rfl⟩
def f_X10_lay_38 (F : Nat) : Nat → Int32 → Int32 → Int32 → Int32 → Mem → Option (Int32 × Mem)
  | 0, _, _, _, _, _ => none
  | n + 1, y1, y3, y4, y5, N => if y5 < 0 then (if y4 &&& 1 = y4 then some (y4, N) else none) else (if (f_X10_isOf N y1 y5) = 0 then (f_X10_lay_38 F n y1 y3 y4 (y5 + (-1 : Int32)) N) else (if ck y5 6 = true then (vlet (setI N 55 y5.toNatClampNeg (y3 - y3 / (4 : Int32) * (4 : Int32))) fun M4 => if ck y5 6 = true then (if ck (M4.1 55 y5.toNatClampNeg) 4 = true then ((f_X10_of M4 y5 (3 : Int32)).bind fun x7 => if ck (M4.1 55 y5.toNatClampNeg) 4 = true then (vlet (setI M4 56 (M4.1 55 y5.toNatClampNeg).toNatClampNeg ((M4.1 56 (M4.1 55 y5.toNatClampNeg).toNatClampNeg) + x7)) fun M10 => if y4 = 0 then (f_X10_lay_38 F n y1 (y3 / (4 : Int32)) (0 : Int32) (y5 + (-1 : Int32)) M10) else (if ck y5 6 = true then (if ck (1 : Int32) 3 = true then (if (M10.1 43 (1 : Int32).toNatClampNeg) ≤ (M10.1 55 y5.toNatClampNeg) then (f_X10_lay_38 F n y1 (y3 / (4 : Int32)) (0 : Int32) (y5 + (-1 : Int32)) M10) else (if ck y5 6 = true then (if ck (M10.1 55 y5.toNatClampNeg) 4 = true then (if ck (2 : Int32) 3 = true then (if (M10.1 43 (2 : Int32).toNatClampNeg) < (M10.1 56 (M10.1 55 y5.toNatClampNeg).toNatClampNeg) then (f_X10_lay_38 F n y1 (y3 / (4 : Int32)) (0 : Int32) (y5 + (-1 : Int32)) M10) else (f_X10_lay_38 F n y1 (y3 / (4 : Int32)) (1 : Int32) (y5 + (-1 : Int32)) M10)) else none) else none) else none)) else none) else none)) else none) else none) else none) else none))
theorem x_X10_lay_38 {l : Launch} {w : Wd} {κ : Kp} {F : Nat} {v : Int32 × Mem} (hq : RQ w (some (.int v.1), v.2) κ) : ∀ (n : Nat) (y1 : Int32) (y3 : Int32) (y4 : Int32) (y5 : Int32) (N : Mem), f_X10_lay_38 F n y1 y3 y4 y5 N = some v → RR l w mi_X10_lay (1) κ 38 [] [some (.ref (wq w 36)), some (.int y1), none, some (.int y3), some (.int y4), some (.int y5)] N
  | 0, _, _, _, _, _, h => nomatch h
  | n + 1, y1, y3, y4, y5, N, h => let_h (show (if y5 < 0 then (if y4 &&& 1 = y4 then some (y4, N) else none) else (if (f_X10_isOf N y1 y5) = 0 then (f_X10_lay_38 F n y1 y3 y4 (y5 + (-1 : Int32)) N) else (if ck y5 6 = true then (vlet (setI N 55 y5.toNatClampNeg (y3 - y3 / (4 : Int32) * (4 : Int32))) fun M4 => if ck y5 6 = true then (if ck (M4.1 55 y5.toNatClampNeg) 4 = true then ((f_X10_of M4 y5 (3 : Int32)).bind fun x7 => if ck (M4.1 55 y5.toNatClampNeg) 4 = true then (vlet (setI M4 56 (M4.1 55 y5.toNatClampNeg).toNatClampNeg ((M4.1 56 (M4.1 55 y5.toNatClampNeg).toNatClampNeg) + x7)) fun M10 => if y4 = 0 then (f_X10_lay_38 F n y1 (y3 / (4 : Int32)) (0 : Int32) (y5 + (-1 : Int32)) M10) else (if ck y5 6 = true then (if ck (1 : Int32) 3 = true then (if (M10.1 43 (1 : Int32).toNatClampNeg) ≤ (M10.1 55 y5.toNatClampNeg) then (f_X10_lay_38 F n y1 (y3 / (4 : Int32)) (0 : Int32) (y5 + (-1 : Int32)) M10) else (if ck y5 6 = true then (if ck (M10.1 55 y5.toNatClampNeg) 4 = true then (if ck (2 : Int32) 3 = true then (if (M10.1 43 (2 : Int32).toNatClampNeg) < (M10.1 56 (M10.1 55 y5.toNatClampNeg).toNatClampNeg) then (f_X10_lay_38 F n y1 (y3 / (4 : Int32)) (0 : Int32) (y5 + (-1 : Int32)) M10) else (f_X10_lay_38 F n y1 (y3 / (4 : Int32)) (1 : Int32) (y5 + (-1 : Int32)) M10)) else none) else none) else none)) else none) else none)) else none) else none) else none) else none))) = some v from h) fun h => r_iload D_X10_lay_38 rfl <| r_if_lt D_X10_lay_40 (fun c1 => let_h (ifT c1 h) fun h => r_iload D_X10_lay_143 rfl <| (bzE h).elim fun cz h => r_zret hq D_X10_lay_145 rfl (nbz cz) (rtW h)) (fun c1 => let_h (ifF c1 h) fun h => r_iload_n D_X10_lay_43 rfl <| r_iload D_X10_lay_44 rfl <| r_callS (av := [.int y1, .int y5]) D_X10_lay_46 ml_X10_155 mf_X10_isOf ms_X10_isOf (x_X10_isOf rfl) (Nat.le_of_ble_eq_true rfl) rfl rfl (Nat.le_of_ble_eq_true rfl) <| r_if_eq D_X10_lay_49 (fun c2 => let_h (ifT c2 h) fun h => r_iinc D_X10_lay_137 rfl ki_m1 (by decide) rfl <| r_goto D_X10_lay_140 <| r_ls (x_X10_lay_38 hq n y1 y3 y4 (y5 + (-1 : Int32)) N h) ⟨rfl, ⟨rfl, ⟨rfl, ⟨rfl, ⟨rfl, trivial⟩⟩⟩⟩⟩) (fun c2 => let_h (ifF c2 h) fun h => r_aload_n D_X10_lay_52 rfl <| r_getR (j := 55) D_X10_lay_53 fl_X10_66 s_36 rfl <| r_iload D_X10_lay_56 rfl <| r_iload_n D_X10_lay_58 rfl <| r_iconst D_X10_lay_59 ki_4 <| r_irem D_X10_lay_60 (by decide) <| (ckE h).elim fun c3 h => r_iast D_X10_lay_61 s_55 c3 <| mlE h fun M4 h => r_iload_n D_X10_lay_62 rfl <| r_iconst D_X10_lay_63 ki_4 <| r_idiv D_X10_lay_64 (by decide) <| r_istore_n D_X10_lay_65 (by decide) rfl <| r_aload_n D_X10_lay_66 rfl <| r_getR (j := 56) D_X10_lay_67 fl_X10_69 s_36 rfl <| r_aload_n D_X10_lay_70 rfl <| r_getR (j := 55) D_X10_lay_71 fl_X10_66 s_36 rfl <| r_iload D_X10_lay_74 rfl <| (ckE h).elim fun c5 h => r_iald D_X10_lay_76 s_55 c5 <| r_dup2 D_X10_lay_77 rfl rfl <| (ckE h).elim fun c6 h => r_iald D_X10_lay_78 s_56 c6 <| r_aload_n D_X10_lay_79 rfl <| r_iload D_X10_lay_80 rfl <| r_iconst D_X10_lay_82 ki_3 <| (bdE h).elim fun x7 q8 => let_h q8.2 fun h => r_callV (av := [.int y5, .int (3 : Int32)]) D_X10_lay_83 ml_X10_148 mf_X10_of mv_X10_of s_36 rfl rfl (x_X10_of q8.1) (Nat.le_of_ble_eq_true rfl) rfl rfl (Nat.le_of_ble_eq_true rfl) <| r_iadd D_X10_lay_86 <| (ckE h).elim fun c9 h => r_iast D_X10_lay_87 s_56 c9 <| mlE h fun M10 h => r_iload D_X10_lay_88 rfl <| r_if_eq D_X10_lay_90 (fun c11 => let_h (ifT c11 h) fun h => r_iconst D_X10_lay_134 ki_0 <| r_istore D_X10_lay_135 (by decide) rfl <| r_iinc D_X10_lay_137 rfl ki_m1 (by decide) rfl <| r_goto D_X10_lay_140 <| r_ls (x_X10_lay_38 hq n y1 (y3 / (4 : Int32)) (0 : Int32) (y5 + (-1 : Int32)) M10 h) ⟨rfl, ⟨rfl, ⟨rfl, ⟨rfl, ⟨rfl, trivial⟩⟩⟩⟩⟩) (fun c11 => let_h (ifF c11 h) fun h => r_aload_n D_X10_lay_93 rfl <| r_getR (j := 55) D_X10_lay_94 fl_X10_66 s_36 rfl <| r_iload D_X10_lay_97 rfl <| (ckE h).elim fun c12 h => r_iald D_X10_lay_99 s_55 c12 <| r_aload_n D_X10_lay_100 rfl <| r_getR (j := 43) D_X10_lay_101 fl_X10_29 s_36 rfl <| r_iconst D_X10_lay_104 ki_1 <| (ckE h).elim fun c13 h => r_iald D_X10_lay_105 s_43 c13 <| r_icmp_ge D_X10_lay_106 (fun c14 => let_h (ifT c14 h) fun h => r_iconst D_X10_lay_134 ki_0 <| r_istore D_X10_lay_135 (by decide) rfl <| r_iinc D_X10_lay_137 rfl ki_m1 (by decide) rfl <| r_goto D_X10_lay_140 <| r_ls (x_X10_lay_38 hq n y1 (y3 / (4 : Int32)) (0 : Int32) (y5 + (-1 : Int32)) M10 h) ⟨rfl, ⟨rfl, ⟨rfl, ⟨rfl, ⟨rfl, trivial⟩⟩⟩⟩⟩) (fun c14 => let_h (ifF c14 h) fun h => r_aload_n D_X10_lay_109 rfl <| r_getR (j := 56) D_X10_lay_110 fl_X10_69 s_36 rfl <| r_aload_n D_X10_lay_113 rfl <| r_getR (j := 55) D_X10_lay_114 fl_X10_66 s_36 rfl <| r_iload D_X10_lay_117 rfl <| (ckE h).elim fun c15 h => r_iald D_X10_lay_119 s_55 c15 <| (ckE h).elim fun c16 h => r_iald D_X10_lay_120 s_56 c16 <| r_aload_n D_X10_lay_121 rfl <| r_getR (j := 43) D_X10_lay_122 fl_X10_29 s_36 rfl <| r_iconst D_X10_lay_125 ki_2 <| (ckE h).elim fun c17 h => r_iald D_X10_lay_126 s_43 c17 <| r_icmp_gt D_X10_lay_127 (fun c18 => let_h (ifT c18 h) fun h => r_iconst D_X10_lay_134 ki_0 <| r_istore D_X10_lay_135 (by decide) rfl <| r_iinc D_X10_lay_137 rfl ki_m1 (by decide) rfl <| r_goto D_X10_lay_140 <| r_ls (x_X10_lay_38 hq n y1 (y3 / (4 : Int32)) (0 : Int32) (y5 + (-1 : Int32)) M10 h) ⟨rfl, ⟨rfl, ⟨rfl, ⟨rfl, ⟨rfl, trivial⟩⟩⟩⟩⟩) (fun c18 => let_h (ifF c18 h) fun h => r_iconst D_X10_lay_130 ki_1 <| r_goto D_X10_lay_131 <| r_istore D_X10_lay_135 (by decide) rfl <| r_iinc D_X10_lay_137 rfl ki_m1 (by decide) rfl <| r_goto D_X10_lay_140 <| r_ls (x_X10_lay_38 hq n y1 (y3 / (4 : Int32)) (1 : Int32) (y5 + (-1 : Int32)) M10 h) ⟨rfl, ⟨rfl, ⟨rfl, ⟨rfl, ⟨rfl, trivial⟩⟩⟩⟩⟩)))))
def f_X10_lay_5 (F : Nat) : Nat → Int32 → Int32 → Int32 → Mem → Option (Int32 × Mem)
  | 0, _, _, _, _ => none
  | n + 1, y1, y3, y4, N => if (4 : Int32) ≤ y4 then (if ck (0 : Int32) 2 = true then (vlet ((N.1 38 (0 : Int32).toNatClampNeg) - (1 : Int32)) fun x3 => f_X10_lay_38 F F y1 y3 (1 : Int32) x3 N) else none) else (if ck y4 4 = true then (vlet (setI N 56 y4.toNatClampNeg (0 : Int32)) fun M5 => f_X10_lay_5 F n y1 y3 (y4 + (1 : Int32)) M5) else none)
theorem x_X10_lay_5 {l : Launch} {w : Wd} {κ : Kp} {F : Nat} {v : Int32 × Mem} (hq : RQ w (some (.int v.1), v.2) κ) : ∀ (n : Nat) (y1 : Int32) (y3 : Int32) (y4 : Int32) (N : Mem), f_X10_lay_5 F n y1 y3 y4 N = some v → RR l w mi_X10_lay (1) κ 5 [] [some (.ref (wq w 36)), some (.int y1), none, some (.int y3), some (.int y4), none] N
  | 0, _, _, _, _, h => nomatch h
  | n + 1, y1, y3, y4, N, h => let_h (show (if (4 : Int32) ≤ y4 then (if ck (0 : Int32) 2 = true then (vlet ((N.1 38 (0 : Int32).toNatClampNeg) - (1 : Int32)) fun x3 => f_X10_lay_38 F F y1 y3 (1 : Int32) x3 N) else none) else (if ck y4 4 = true then (vlet (setI N 56 y4.toNatClampNeg (0 : Int32)) fun M5 => f_X10_lay_5 F n y1 y3 (y4 + (1 : Int32)) M5) else none)) = some v from h) fun h => r_iload D_X10_lay_5 rfl <| r_iconst D_X10_lay_7 ki_4 <| r_icmp_ge D_X10_lay_8 (fun c1 => let_h (ifT c1 h) fun h => r_iconst D_X10_lay_25 ki_1 <| r_istore D_X10_lay_26 (by decide) rfl <| r_aload_n D_X10_lay_28 rfl <| r_getR (j := 38) D_X10_lay_29 fl_X10_13 s_36 rfl <| r_iconst D_X10_lay_32 ki_0 <| (ckE h).elim fun c2 h => r_iald D_X10_lay_33 s_38 c2 <| r_iconst D_X10_lay_34 ki_1 <| r_isub D_X10_lay_35 <| vlE (fun x3 => RR l w mi_X10_lay (1) κ 36 [.int x3] [some (.ref (wq w 36)), some (.int y1), none, some (.int y3), some (.int (1 : Int32)), none] N) h fun x3 h => r_istore D_X10_lay_36 (by decide) rfl <| r_ls (x_X10_lay_38 hq F y1 y3 (1 : Int32) x3 N h) ⟨rfl, ⟨rfl, ⟨rfl, ⟨rfl, ⟨rfl, trivial⟩⟩⟩⟩⟩) (fun c1 => let_h (ifF c1 h) fun h => r_aload_n D_X10_lay_11 rfl <| r_getR (j := 56) D_X10_lay_12 fl_X10_69 s_36 rfl <| r_iload D_X10_lay_15 rfl <| r_iconst D_X10_lay_17 ki_0 <| (ckE h).elim fun c4 h => r_iast D_X10_lay_18 s_56 c4 <| mlE h fun M5 h => r_iinc D_X10_lay_19 rfl ki_1 (by decide) rfl <| r_goto D_X10_lay_22 <| r_ls (x_X10_lay_5 hq n y1 y3 (y4 + (1 : Int32)) M5 h) ⟨rfl, ⟨rfl, ⟨rfl, ⟨rfl, trivial⟩⟩⟩⟩)
def f_X10_lay (F : Nat) (M : Mem) (a1 : Int32) (a2 : Int32) : Option (Int32 × Mem) := f_X10_lay_5 F F a1 a2 (0 : Int32) M
theorem x_X10_lay {l : Launch} {w : Wd} {F : Nat} {M : Mem} {a1 : Int32} {a2 : Int32} {v : Int32 × Mem} (h : f_X10_lay F M a1 a2 = some v) : Cn l w mi_X10_lay yX10_lay (1) [.ref (wq w 36), .int a1, .int a2] M (some (.int v.1), v.2) :=
  Cn_of (loc0 := [some (.ref (wq w 36)), some (.int a1), some (.int a2), none, none, none]) rfl rfl rfl (Nat.le_of_ble_eq_true rfl) fun κ hq => let_h (show (f_X10_lay_5 F F a1 a2 (0 : Int32) M) = some v from h) fun h => r_iload_n D_X10_lay_0 rfl <| r_istore_n D_X10_lay_1 (by decide) rfl <| r_iconst D_X10_lay_2 ki_0 <| r_istore D_X10_lay_3 (by decide) rfl <| r_ls (x_X10_lay_5 hq F a1 a2 (0 : Int32) M h) ⟨rfl, ⟨rfl, ⟨rfl, ⟨rfl, trivial⟩⟩⟩⟩
-- X10_troubles
theorem D_X10_troubles_0 : Dec mi_X10_troubles 0 (.iconst 0) 1 1 := ⟨by decide +kernel, rfl⟩
theorem D_X10_troubles_1 : Dec mi_X10_troubles 1 (.istore_n 2) 1 2 := ⟨by decide +kernel, rfl⟩
theorem D_X10_troubles_2 : Dec mi_X10_troubles 2 (.iconst 0) 1 3 := ⟨by decide +kernel, rfl⟩
theorem D_X10_troubles_3 : Dec mi_X10_troubles 3 (.istore_n 3) 1 4 := ⟨by decide +kernel, rfl⟩
theorem D_X10_troubles_4 : Dec mi_X10_troubles 4 (.iload_n 3) 1 5 := ⟨by decide +kernel, rfl⟩
theorem D_X10_troubles_5 : Dec mi_X10_troubles 5 (.aload_n 0) 1 6 := ⟨by decide +kernel, rfl⟩
theorem D_X10_troubles_6 : Dec mi_X10_troubles 6 (.getfield 13) 3 9 := ⟨by decide +kernel, rfl⟩
theorem D_X10_troubles_9 : Dec mi_X10_troubles 9 (.iconst 0) 1 10 := ⟨by decide +kernel, rfl⟩
theorem D_X10_troubles_10 : Dec mi_X10_troubles 10 (.iaload) 1 11 := ⟨by decide +kernel, rfl⟩
theorem D_X10_troubles_11 : DecJ mi_X10_troubles 11 (.if_icmp .ge 84) (84) 14 95 := ⟨by decide +kernel, rfl, by decide⟩
theorem D_X10_troubles_14 : Dec mi_X10_troubles 14 (.iconst 0) 1 15 := ⟨by decide +kernel, rfl⟩
theorem D_X10_troubles_15 : Dec mi_X10_troubles 15 (.istore 4) 2 17 := ⟨by decide +kernel, rfl⟩
theorem D_X10_troubles_17 : Dec mi_X10_troubles 17 (.iload 4) 2 19 := ⟨by decide +kernel, rfl⟩
theorem D_X10_troubles_19 : Dec mi_X10_troubles 19 (.aload_n 0) 1 20 := ⟨by decide +kernel, rfl⟩
theorem D_X10_troubles_20 : Dec mi_X10_troubles 20 (.getfield 13) 3 23 := ⟨by decide +kernel, rfl⟩
theorem D_X10_troubles_23 : Dec mi_X10_troubles 23 (.iconst 0) 1 24 := ⟨by decide +kernel, rfl⟩
theorem D_X10_troubles_24 : Dec mi_X10_troubles 24 (.iaload) 1 25 := ⟨by decide +kernel, rfl⟩
theorem D_X10_troubles_25 : DecJ mi_X10_troubles 25 (.if_icmp .ge 64) (64) 28 89 := ⟨by decide +kernel, rfl, by decide⟩
theorem D_X10_troubles_28 : Dec mi_X10_troubles 28 (.iload_n 2) 1 29 := ⟨by decide +kernel, rfl⟩
theorem D_X10_troubles_29 : Dec mi_X10_troubles 29 (.iload_n 1) 1 30 := ⟨by decide +kernel, rfl⟩
theorem D_X10_troubles_30 : Dec mi_X10_troubles 30 (.iload_n 3) 1 31 := ⟨by decide +kernel, rfl⟩
theorem D_X10_troubles_31 : Dec mi_X10_troubles 31 (.invokestatic 155) 3 34 := ⟨by decide +kernel, rfl⟩
theorem D_X10_troubles_34 : DecJ mi_X10_troubles 34 (.ifCond .eq 46) (46) 37 80 := ⟨by decide +kernel, rfl, by decide⟩
theorem D_X10_troubles_37 : Dec mi_X10_troubles 37 (.iload_n 1) 1 38 := ⟨by decide +kernel, rfl⟩
theorem D_X10_troubles_38 : Dec mi_X10_troubles 38 (.iload 4) 2 40 := ⟨by decide +kernel, rfl⟩
theorem D_X10_troubles_40 : Dec mi_X10_troubles 40 (.invokestatic 155) 3 43 := ⟨by decide +kernel, rfl⟩
theorem D_X10_troubles_43 : DecJ mi_X10_troubles 43 (.ifCond .eq 37) (37) 46 80 := ⟨by decide +kernel, rfl, by decide⟩
theorem D_X10_troubles_46 : Dec mi_X10_troubles 46 (.aload_n 0) 1 47 := ⟨by decide +kernel, rfl⟩
theorem D_X10_troubles_47 : Dec mi_X10_troubles 47 (.getfield 66) 3 50 := ⟨by decide +kernel, rfl⟩
theorem D_X10_troubles_50 : Dec mi_X10_troubles 50 (.iload_n 3) 1 51 := ⟨by decide +kernel, rfl⟩
theorem D_X10_troubles_51 : Dec mi_X10_troubles 51 (.iaload) 1 52 := ⟨by decide +kernel, rfl⟩
theorem D_X10_troubles_52 : Dec mi_X10_troubles 52 (.aload_n 0) 1 53 := ⟨by decide +kernel, rfl⟩
theorem D_X10_troubles_53 : Dec mi_X10_troubles 53 (.getfield 66) 3 56 := ⟨by decide +kernel, rfl⟩
theorem D_X10_troubles_56 : Dec mi_X10_troubles 56 (.iload 4) 2 58 := ⟨by decide +kernel, rfl⟩
theorem D_X10_troubles_58 : Dec mi_X10_troubles 58 (.iaload) 1 59 := ⟨by decide +kernel, rfl⟩
theorem D_X10_troubles_59 : DecJ mi_X10_troubles 59 (.if_icmp .le 21) (21) 62 80 := ⟨by decide +kernel, rfl, by decide⟩
theorem D_X10_troubles_62 : Dec mi_X10_troubles 62 (.aload_n 0) 1 63 := ⟨by decide +kernel, rfl⟩
theorem D_X10_troubles_63 : Dec mi_X10_troubles 63 (.iload 4) 2 65 := ⟨by decide +kernel, rfl⟩
theorem D_X10_troubles_65 : Dec mi_X10_troubles 65 (.invokevirtual 210) 3 68 := ⟨by decide +kernel, rfl⟩
theorem D_X10_troubles_68 : Dec mi_X10_troubles 68 (.aload_n 0) 1 69 := ⟨by decide +kernel, rfl⟩
theorem D_X10_troubles_69 : Dec mi_X10_troubles 69 (.iload_n 3) 1 70 := ⟨by decide +kernel, rfl⟩
theorem D_X10_troubles_70 : Dec mi_X10_troubles 70 (.invokevirtual 210) 3 73 := ⟨by decide +kernel, rfl⟩
theorem D_X10_troubles_73 : DecJ mi_X10_troubles 73 (.if_icmp .ge 7) (7) 76 80 := ⟨by decide +kernel, rfl, by decide⟩
theorem D_X10_troubles_76 : Dec mi_X10_troubles 76 (.iconst 1) 1 77 := ⟨by decide +kernel, rfl⟩
theorem D_X10_troubles_77 : DecJ mi_X10_troubles 77 (.goto 4) (4) 80 81 := ⟨by decide +kernel, rfl, by decide⟩
theorem D_X10_troubles_80 : Dec mi_X10_troubles 80 (.iconst 0) 1 81 := ⟨by decide +kernel, rfl⟩
theorem D_X10_troubles_81 : Dec mi_X10_troubles 81 (.iadd) 1 82 := ⟨by decide +kernel, rfl⟩
theorem D_X10_troubles_82 : Dec mi_X10_troubles 82 (.istore_n 2) 1 83 := ⟨by decide +kernel, rfl⟩
theorem D_X10_troubles_83 : Dec mi_X10_troubles 83 (.iinc 4 1) 3 86 := ⟨by decide +kernel, rfl⟩
theorem D_X10_troubles_86 : DecJ mi_X10_troubles 86 (.goto (-69)) (-69) 89 17 := ⟨by decide +kernel, rfl, by decide⟩
theorem D_X10_troubles_89 : Dec mi_X10_troubles 89 (.iinc 3 1) 3 92 := ⟨by decide +kernel, rfl⟩
theorem D_X10_troubles_92 : DecJ mi_X10_troubles 92 (.goto (-88)) (-88) 95 4 := ⟨by decide +kernel, rfl, by decide⟩
theorem D_X10_troubles_95 : Dec mi_X10_troubles 95 (.iload_n 2) 1 96 := ⟨by decide +kernel, rfl⟩
theorem D_X10_troubles_96 : Dec mi_X10_troubles 96 (.ireturn) 1 97 := ⟨by decide +kernel, rfl⟩
def f_X10_troubles_17 (F : Nat) (M : Mem) (K_4 : Int32 → Int32 → Int32 → Option Int32) : Nat → Int32 → Int32 → Int32 → Int32 → Option Int32
  | 0, _, _, _, _ => none
  | n + 1, y1, y2, y3, y4 => if ck (0 : Int32) 2 = true then (if (M.1 38 (0 : Int32).toNatClampNeg) ≤ y4 then (K_4 y1 y2 (y3 + (1 : Int32))) else (if (f_X10_isOf M y1 y3) = 0 then (f_X10_troubles_17 F M K_4 n y1 (y2 + (0 : Int32)) y3 (y4 + (1 : Int32))) else (if (f_X10_isOf M y1 y4) = 0 then (f_X10_troubles_17 F M K_4 n y1 (y2 + (0 : Int32)) y3 (y4 + (1 : Int32))) else (if ck y3 6 = true then (if ck y4 6 = true then (if (M.1 55 y3.toNatClampNeg) ≤ (M.1 55 y4.toNatClampNeg) then (f_X10_troubles_17 F M K_4 n y1 (y2 + (0 : Int32)) y3 (y4 + (1 : Int32))) else ((f_X10_firstDay F M y4).bind fun x8 => (f_X10_firstDay F M y3).bind fun x10 => if x10 ≤ x8 then (f_X10_troubles_17 F M K_4 n y1 (y2 + (0 : Int32)) y3 (y4 + (1 : Int32))) else (f_X10_troubles_17 F M K_4 n y1 (y2 + (1 : Int32)) y3 (y4 + (1 : Int32))))) else none) else none)))) else none
theorem x_X10_troubles_17 {l : Launch} {w : Wd} {κ : Kp} {F : Nat} {M : Mem} {v : Int32} {K_4 : Int32 → Int32 → Int32 → Option Int32} (hq : RQ w (some (.int v), M) κ) (hK_4 : ∀ (y1 : Int32) (y2 : Int32) (y3 : Int32), K_4 y1 y2 y3 = some v → RR l w mi_X10_troubles (2) κ 4 [] [some (.ref (wq w 36)), some (.int y1), some (.int y2), some (.int y3), none] M) : ∀ (n : Nat) (y1 : Int32) (y2 : Int32) (y3 : Int32) (y4 : Int32), f_X10_troubles_17 F M K_4 n y1 y2 y3 y4 = some v → RR l w mi_X10_troubles (2) κ 17 [] [some (.ref (wq w 36)), some (.int y1), some (.int y2), some (.int y3), some (.int y4)] M
  | 0, _, _, _, _, h => nomatch h
  | n + 1, y1, y2, y3, y4, h => let_h (show (if ck (0 : Int32) 2 = true then (if (M.1 38 (0 : Int32).toNatClampNeg) ≤ y4 then (K_4 y1 y2 (y3 + (1 : Int32))) else (if (f_X10_isOf M y1 y3) = 0 then (f_X10_troubles_17 F M K_4 n y1 (y2 + (0 : Int32)) y3 (y4 + (1 : Int32))) else (if (f_X10_isOf M y1 y4) = 0 then (f_X10_troubles_17 F M K_4 n y1 (y2 + (0 : Int32)) y3 (y4 + (1 : Int32))) else (if ck y3 6 = true then (if ck y4 6 = true then (if (M.1 55 y3.toNatClampNeg) ≤ (M.1 55 y4.toNatClampNeg) then (f_X10_troubles_17 F M K_4 n y1 (y2 + (0 : Int32)) y3 (y4 + (1 : Int32))) else ((f_X10_firstDay F M y4).bind fun x8 => (f_X10_firstDay F M y3).bind fun x10 => if x10 ≤ x8 then (f_X10_troubles_17 F M K_4 n y1 (y2 + (0 : Int32)) y3 (y4 + (1 : Int32))) else (f_X10_troubles_17 F M K_4 n y1 (y2 + (1 : Int32)) y3 (y4 + (1 : Int32))))) else none) else none)))) else none) = some v from h) fun h => r_iload D_X10_troubles_17 rfl <| r_aload_n D_X10_troubles_19 rfl <| r_getR (j := 38) D_X10_troubles_20 fl_X10_13 s_36 rfl <| r_iconst D_X10_troubles_23 ki_0 <| (ckE h).elim fun c1 h => r_iald D_X10_troubles_24 s_38 c1 <| r_icmp_ge D_X10_troubles_25 (fun c2 => let_h (ifT c2 h) fun h => r_iinc D_X10_troubles_89 rfl ki_1 (by decide) rfl <| r_goto D_X10_troubles_92 <| r_ls (hK_4 y1 y2 (y3 + (1 : Int32)) h) ⟨rfl, ⟨rfl, ⟨rfl, ⟨rfl, trivial⟩⟩⟩⟩) (fun c2 => let_h (ifF c2 h) fun h => r_iload_n D_X10_troubles_28 rfl <| r_iload_n D_X10_troubles_29 rfl <| r_iload_n D_X10_troubles_30 rfl <| r_callS (av := [.int y1, .int y3]) D_X10_troubles_31 ml_X10_155 mf_X10_isOf ms_X10_isOf (x_X10_isOf rfl) (Nat.le_of_ble_eq_true rfl) rfl rfl (Nat.le_of_ble_eq_true rfl) <| r_if_eq D_X10_troubles_34 (fun c3 => let_h (ifT c3 h) fun h => r_iconst D_X10_troubles_80 ki_0 <| r_iadd D_X10_troubles_81 <| r_istore_n D_X10_troubles_82 (by decide) rfl <| r_iinc D_X10_troubles_83 rfl ki_1 (by decide) rfl <| r_goto D_X10_troubles_86 <| r_ls (x_X10_troubles_17 hq hK_4 n y1 (y2 + (0 : Int32)) y3 (y4 + (1 : Int32)) h) ⟨rfl, ⟨rfl, ⟨rfl, ⟨rfl, ⟨rfl, trivial⟩⟩⟩⟩⟩) (fun c3 => let_h (ifF c3 h) fun h => r_iload_n D_X10_troubles_37 rfl <| r_iload D_X10_troubles_38 rfl <| r_callS (av := [.int y1, .int y4]) D_X10_troubles_40 ml_X10_155 mf_X10_isOf ms_X10_isOf (x_X10_isOf rfl) (Nat.le_of_ble_eq_true rfl) rfl rfl (Nat.le_of_ble_eq_true rfl) <| r_if_eq D_X10_troubles_43 (fun c4 => let_h (ifT c4 h) fun h => r_iconst D_X10_troubles_80 ki_0 <| r_iadd D_X10_troubles_81 <| r_istore_n D_X10_troubles_82 (by decide) rfl <| r_iinc D_X10_troubles_83 rfl ki_1 (by decide) rfl <| r_goto D_X10_troubles_86 <| r_ls (x_X10_troubles_17 hq hK_4 n y1 (y2 + (0 : Int32)) y3 (y4 + (1 : Int32)) h) ⟨rfl, ⟨rfl, ⟨rfl, ⟨rfl, ⟨rfl, trivial⟩⟩⟩⟩⟩) (fun c4 => let_h (ifF c4 h) fun h => r_aload_n D_X10_troubles_46 rfl <| r_getR (j := 55) D_X10_troubles_47 fl_X10_66 s_36 rfl <| r_iload_n D_X10_troubles_50 rfl <| (ckE h).elim fun c5 h => r_iald D_X10_troubles_51 s_55 c5 <| r_aload_n D_X10_troubles_52 rfl <| r_getR (j := 55) D_X10_troubles_53 fl_X10_66 s_36 rfl <| r_iload D_X10_troubles_56 rfl <| (ckE h).elim fun c6 h => r_iald D_X10_troubles_58 s_55 c6 <| r_icmp_le D_X10_troubles_59 (fun c7 => let_h (ifT c7 h) fun h => r_iconst D_X10_troubles_80 ki_0 <| r_iadd D_X10_troubles_81 <| r_istore_n D_X10_troubles_82 (by decide) rfl <| r_iinc D_X10_troubles_83 rfl ki_1 (by decide) rfl <| r_goto D_X10_troubles_86 <| r_ls (x_X10_troubles_17 hq hK_4 n y1 (y2 + (0 : Int32)) y3 (y4 + (1 : Int32)) h) ⟨rfl, ⟨rfl, ⟨rfl, ⟨rfl, ⟨rfl, trivial⟩⟩⟩⟩⟩) (fun c7 => let_h (ifF c7 h) fun h => r_aload_n D_X10_troubles_62 rfl <| r_iload D_X10_troubles_63 rfl <| (bdE h).elim fun x8 q9 => let_h q9.2 fun h => r_callV (av := [.int y4]) D_X10_troubles_65 ml_X10_210 mf_X10_firstDay mv_X10_firstDay s_36 rfl rfl (x_X10_firstDay q9.1) (Nat.le_of_ble_eq_true rfl) rfl rfl (Nat.le_of_ble_eq_true rfl) <| r_aload_n D_X10_troubles_68 rfl <| r_iload_n D_X10_troubles_69 rfl <| (bdE h).elim fun x10 q11 => let_h q11.2 fun h => r_callV (av := [.int y3]) D_X10_troubles_70 ml_X10_210 mf_X10_firstDay mv_X10_firstDay s_36 rfl rfl (x_X10_firstDay q11.1) (Nat.le_of_ble_eq_true rfl) rfl rfl (Nat.le_of_ble_eq_true rfl) <| r_icmp_ge D_X10_troubles_73 (fun c12 => let_h (ifT c12 h) fun h => r_iconst D_X10_troubles_80 ki_0 <| r_iadd D_X10_troubles_81 <| r_istore_n D_X10_troubles_82 (by decide) rfl <| r_iinc D_X10_troubles_83 rfl ki_1 (by decide) rfl <| r_goto D_X10_troubles_86 <| r_ls (x_X10_troubles_17 hq hK_4 n y1 (y2 + (0 : Int32)) y3 (y4 + (1 : Int32)) h) ⟨rfl, ⟨rfl, ⟨rfl, ⟨rfl, ⟨rfl, trivial⟩⟩⟩⟩⟩) (fun c12 => let_h (ifF c12 h) fun h => r_iconst D_X10_troubles_76 ki_1 <| r_goto D_X10_troubles_77 <| r_iadd D_X10_troubles_81 <| r_istore_n D_X10_troubles_82 (by decide) rfl <| r_iinc D_X10_troubles_83 rfl ki_1 (by decide) rfl <| r_goto D_X10_troubles_86 <| r_ls (x_X10_troubles_17 hq hK_4 n y1 (y2 + (1 : Int32)) y3 (y4 + (1 : Int32)) h) ⟨rfl, ⟨rfl, ⟨rfl, ⟨rfl, ⟨rfl, trivial⟩⟩⟩⟩⟩)))))
def f_X10_troubles_4 (F : Nat) (M : Mem) : Nat → Int32 → Int32 → Int32 → Option Int32
  | 0, _, _, _ => none
  | n + 1, y1, y2, y3 => if ck (0 : Int32) 2 = true then (if (M.1 38 (0 : Int32).toNatClampNeg) ≤ y3 then (some y2) else (f_X10_troubles_17 F M (fun y1 y2 y3 => f_X10_troubles_4 F M n y1 y2 y3) F y1 y2 y3 (0 : Int32))) else none
theorem x_X10_troubles_4 {l : Launch} {w : Wd} {κ : Kp} {F : Nat} {M : Mem} {v : Int32} (hq : RQ w (some (.int v), M) κ) : ∀ (n : Nat) (y1 : Int32) (y2 : Int32) (y3 : Int32), f_X10_troubles_4 F M n y1 y2 y3 = some v → RR l w mi_X10_troubles (2) κ 4 [] [some (.ref (wq w 36)), some (.int y1), some (.int y2), some (.int y3), none] M
  | 0, _, _, _, h => nomatch h
  | n + 1, y1, y2, y3, h => let_h (show (if ck (0 : Int32) 2 = true then (if (M.1 38 (0 : Int32).toNatClampNeg) ≤ y3 then (some y2) else (f_X10_troubles_17 F M (fun y1 y2 y3 => f_X10_troubles_4 F M n y1 y2 y3) F y1 y2 y3 (0 : Int32))) else none) = some v from h) fun h => r_iload_n D_X10_troubles_4 rfl <| r_aload_n D_X10_troubles_5 rfl <| r_getR (j := 38) D_X10_troubles_6 fl_X10_13 s_36 rfl <| r_iconst D_X10_troubles_9 ki_0 <| (ckE h).elim fun c1 h => r_iald D_X10_troubles_10 s_38 c1 <| r_icmp_ge D_X10_troubles_11 (fun c2 => let_h (ifT c2 h) fun h => r_iload_n D_X10_troubles_95 rfl <| r_iret hq D_X10_troubles_96 rfl (rtP h)) (fun c2 => let_h (ifF c2 h) fun h => r_iconst D_X10_troubles_14 ki_0 <| r_istore D_X10_troubles_15 (by decide) rfl <| r_ls (x_X10_troubles_17 hq (fun y1 y2 y3 h => x_X10_troubles_4 hq n y1 y2 y3 h) F y1 y2 y3 (0 : Int32) h) ⟨rfl, ⟨rfl, ⟨rfl, ⟨rfl, ⟨rfl, trivial⟩⟩⟩⟩⟩)
def f_X10_troubles (F : Nat) (M : Mem) (a1 : Int32) : Option Int32 := f_X10_troubles_4 F M F a1 (0 : Int32) (0 : Int32)
theorem x_X10_troubles {l : Launch} {w : Wd} {F : Nat} {M : Mem} {a1 : Int32} {v : Int32} (h : f_X10_troubles F M a1 = some v) : Cn l w mi_X10_troubles yX10_troubles (2) [.ref (wq w 36), .int a1] M (some (.int v), M) :=
  Cn_of (loc0 := [some (.ref (wq w 36)), some (.int a1), none, none, none]) rfl rfl rfl (Nat.le_of_ble_eq_true rfl) fun κ hq => let_h (show (f_X10_troubles_4 F M F a1 (0 : Int32) (0 : Int32)) = some v from h) fun h => r_iconst D_X10_troubles_0 ki_0 <| r_istore_n D_X10_troubles_1 (by decide) rfl <| r_iconst D_X10_troubles_2 ki_0 <| r_istore_n D_X10_troubles_3 (by decide) rfl <| r_ls (x_X10_troubles_4 hq F a1 (0 : Int32) (0 : Int32) h) ⟨rfl, ⟨rfl, ⟨rfl, ⟨rfl, trivial⟩⟩⟩⟩
-- X10_pack
theorem D_X10_pack_0 : Dec mi_X10_pack 0 (.iload_n 1) 1 1 := ⟨by decide +kernel, rfl⟩
theorem D_X10_pack_1 : Dec mi_X10_pack 1 (.aload_n 0) 1 2 := ⟨by decide +kernel, rfl⟩
theorem D_X10_pack_2 : Dec mi_X10_pack 2 (.invokevirtual 139) 3 5 := ⟨by decide +kernel, rfl⟩
theorem D_X10_pack_5 : Dec mi_X10_pack 5 (.iand) 1 6 := ⟨by decide +kernel, rfl⟩
theorem D_X10_pack_6 : Dec mi_X10_pack 6 (.istore 4) 2 8 := ⟨by decide +kernel, rfl⟩
theorem D_X10_pack_8 : Dec mi_X10_pack 8 (.iload_n 3) 1 9 := ⟨by decide +kernel, rfl⟩
theorem D_X10_pack_9 : Dec mi_X10_pack 9 (.iconst (-1)) 1 10 := ⟨by decide +kernel, rfl⟩
theorem D_X10_pack_10 : DecJ mi_X10_pack 10 (.if_icmp .eq 22) (22) 13 32 := ⟨by decide +kernel, rfl, by decide⟩
theorem D_X10_pack_13 : Dec mi_X10_pack 13 (.aload_n 0) 1 14 := ⟨by decide +kernel, rfl⟩
theorem D_X10_pack_14 : Dec mi_X10_pack 14 (.iload_n 3) 1 15 := ⟨by decide +kernel, rfl⟩
theorem D_X10_pack_15 : Dec mi_X10_pack 15 (.invokevirtual 142) 3 18 := ⟨by decide +kernel, rfl⟩
theorem D_X10_pack_18 : DecJ mi_X10_pack 18 (.ifCond .eq 12) (12) 21 30 := ⟨by decide +kernel, rfl, by decide⟩
theorem D_X10_pack_21 : Dec mi_X10_pack 21 (.iload 4) 2 23 := ⟨by decide +kernel, rfl⟩
theorem D_X10_pack_23 : Dec mi_X10_pack 23 (.iload_n 3) 1 24 := ⟨by decide +kernel, rfl⟩
theorem D_X10_pack_24 : Dec mi_X10_pack 24 (.invokestatic 155) 3 27 := ⟨by decide +kernel, rfl⟩
theorem D_X10_pack_27 : DecJ mi_X10_pack 27 (.ifCond .ne 5) (5) 30 32 := ⟨by decide +kernel, rfl, by decide⟩
theorem D_X10_pack_30 : Dec mi_X10_pack 30 (.iconst (-1)) 1 31 := ⟨by decide +kernel, rfl⟩
theorem D_X10_pack_31 : Dec mi_X10_pack 31 (.ireturn) 1 32 := ⟨by decide +kernel, rfl⟩
theorem D_X10_pack_32 : Dec mi_X10_pack 32 (.aload_n 0) 1 33 := ⟨by decide +kernel, rfl⟩
theorem D_X10_pack_33 : Dec mi_X10_pack 33 (.iload 4) 2 35 := ⟨by decide +kernel, rfl⟩
theorem D_X10_pack_35 : Dec mi_X10_pack 35 (.iload_n 2) 1 36 := ⟨by decide +kernel, rfl⟩
theorem D_X10_pack_36 : Dec mi_X10_pack 36 (.invokevirtual 201) 3 39 := ⟨by decide +kernel, rfl⟩
theorem D_X10_pack_39 : DecJ mi_X10_pack 39 (.ifCond .ne 6) (6) 42 45 := ⟨by decide +kernel, rfl, by decide⟩
theorem D_X10_pack_42 : Dec mi_X10_pack 42 (.bipush (-2)) 2 44 := ⟨by decide +kernel, rfl⟩
theorem D_X10_pack_44 : Dec mi_X10_pack 44 (.ireturn) 1 45 := ⟨by decide +kernel, rfl⟩
theorem D_X10_pack_45 : Dec mi_X10_pack 45 (.bipush (-9)) 2 47 := ⟨by decide +kernel, rfl⟩
theorem D_X10_pack_47 : Dec mi_X10_pack 47 (.istore 5) 2 49 := ⟨by decide +kernel, rfl⟩
theorem D_X10_pack_49 : Dec mi_X10_pack 49 (.iconst 0) 1 50 := ⟨by decide +kernel, rfl⟩
theorem D_X10_pack_50 : Dec mi_X10_pack 50 (.istore 6) 2 52 := ⟨by decide +kernel, rfl⟩
theorem D_X10_pack_52 : Dec mi_X10_pack 52 (.iconst 1) 1 53 := ⟨by decide +kernel, rfl⟩
theorem D_X10_pack_53 : Dec mi_X10_pack 53 (.istore 7) 2 55 := ⟨by decide +kernel, rfl⟩
theorem D_X10_pack_55 : Dec mi_X10_pack 55 (.iload 4) 2 57 := ⟨by decide +kernel, rfl⟩
theorem D_X10_pack_57 : Dec mi_X10_pack 57 (.invokestatic 213) 3 60 := ⟨by decide +kernel, rfl⟩
theorem D_X10_pack_60 : Dec mi_X10_pack 60 (.istore 8) 2 62 := ⟨by decide +kernel, rfl⟩
theorem D_X10_pack_62 : Dec mi_X10_pack 62 (.iload 8) 2 64 := ⟨by decide +kernel, rfl⟩
theorem D_X10_pack_64 : DecJ mi_X10_pack 64 (.ifCond .le 15) (15) 67 79 := ⟨by decide +kernel, rfl, by decide⟩
theorem D_X10_pack_67 : Dec mi_X10_pack 67 (.iload 7) 2 69 := ⟨by decide +kernel, rfl⟩
theorem D_X10_pack_69 : Dec mi_X10_pack 69 (.iconst 4) 1 70 := ⟨by decide +kernel, rfl⟩
theorem D_X10_pack_70 : Dec mi_X10_pack 70 (.imul) 1 71 := ⟨by decide +kernel, rfl⟩
theorem D_X10_pack_71 : Dec mi_X10_pack 71 (.istore 7) 2 73 := ⟨by decide +kernel, rfl⟩
theorem D_X10_pack_73 : Dec mi_X10_pack 73 (.iinc 8 (-1)) 3 76 := ⟨by decide +kernel, rfl⟩
theorem D_X10_pack_76 : DecJ mi_X10_pack 76 (.goto (-14)) (-14) 79 62 := ⟨by decide +kernel, rfl, by decide⟩
theorem D_X10_pack_79 : Dec mi_X10_pack 79 (.iconst 0) 1 80 := ⟨by decide +kernel, rfl⟩
theorem D_X10_pack_80 : Dec mi_X10_pack 80 (.istore 8) 2 82 := ⟨by decide +kernel, rfl⟩
theorem D_X10_pack_82 : Dec mi_X10_pack 82 (.iload 8) 2 84 := ⟨by decide +kernel, rfl⟩
theorem D_X10_pack_84 : Dec mi_X10_pack 84 (.iload 7) 2 86 := ⟨by decide +kernel, rfl⟩
theorem D_X10_pack_86 : DecJ mi_X10_pack 86 (.if_icmp .ge 50) (50) 89 136 := ⟨by decide +kernel, rfl, by decide⟩
theorem D_X10_pack_89 : Dec mi_X10_pack 89 (.aload_n 0) 1 90 := ⟨by decide +kernel, rfl⟩
theorem D_X10_pack_90 : Dec mi_X10_pack 90 (.iload 4) 2 92 := ⟨by decide +kernel, rfl⟩
theorem D_X10_pack_92 : Dec mi_X10_pack 92 (.iload 8) 2 94 := ⟨by decide +kernel, rfl⟩
theorem D_X10_pack_94 : Dec mi_X10_pack 94 (.invokevirtual 216) 3 97 := ⟨by decide +kernel, rfl⟩
theorem D_X10_pack_97 : DecJ mi_X10_pack 97 (.ifCond .eq 33) (33) 100 130 := ⟨by decide +kernel, rfl, by decide⟩
theorem D_X10_pack_100 : Dec mi_X10_pack 100 (.aload_n 0) 1 101 := ⟨by decide +kernel, rfl⟩
theorem D_X10_pack_101 : Dec mi_X10_pack 101 (.iload 4) 2 103 := ⟨by decide +kernel, rfl⟩
theorem D_X10_pack_103 : Dec mi_X10_pack 103 (.invokevirtual 219) 3 106 := ⟨by decide +kernel, rfl⟩
theorem D_X10_pack_106 : Dec mi_X10_pack 106 (.istore 9) 2 108 := ⟨by decide +kernel, rfl⟩
theorem D_X10_pack_108 : Dec mi_X10_pack 108 (.iload 5) 2 110 := ⟨by decide +kernel, rfl⟩
theorem D_X10_pack_110 : Dec mi_X10_pack 110 (.bipush (-9)) 2 112 := ⟨by decide +kernel, rfl⟩
theorem D_X10_pack_112 : DecJ mi_X10_pack 112 (.if_icmp .eq 10) (10) 115 122 := ⟨by decide +kernel, rfl, by decide⟩
theorem D_X10_pack_115 : Dec mi_X10_pack 115 (.iload 9) 2 117 := ⟨by decide +kernel, rfl⟩
theorem D_X10_pack_117 : Dec mi_X10_pack 117 (.iload 6) 2 119 := ⟨by decide +kernel, rfl⟩
theorem D_X10_pack_119 : DecJ mi_X10_pack 119 (.if_icmp .ge 11) (11) 122 130 := ⟨by decide +kernel, rfl, by decide⟩
theorem D_X10_pack_122 : Dec mi_X10_pack 122 (.iload 8) 2 124 := ⟨by decide +kernel, rfl⟩
theorem D_X10_pack_124 : Dec mi_X10_pack 124 (.istore 5) 2 126 := ⟨by decide +kernel, rfl⟩
theorem D_X10_pack_126 : Dec mi_X10_pack 126 (.iload 9) 2 128 := ⟨by decide +kernel, rfl⟩
theorem D_X10_pack_128 : Dec mi_X10_pack 128 (.istore 6) 2 130 := ⟨by decide +kernel, rfl⟩
theorem D_X10_pack_130 : Dec mi_X10_pack 130 (.iinc 8 1) 3 133 := ⟨by decide +kernel, rfl⟩
theorem D_X10_pack_133 : DecJ mi_X10_pack 133 (.goto (-51)) (-51) 136 82 := ⟨by decide +kernel, rfl, by decide⟩
theorem D_X10_pack_136 : Dec mi_X10_pack 136 (.iload 5) 2 138 := ⟨by decide +kernel, rfl⟩
theorem D_X10_pack_138 : Dec mi_X10_pack 138 (.bipush (-9)) 2 140 := ⟨by decide +kernel, rfl⟩
theorem D_X10_pack_140 : DecJ mi_X10_pack 140 (.if_icmp .eq 8) (8) 143 148 := ⟨by decide +kernel, rfl, by decide⟩
theorem D_X10_pack_143 : Dec mi_X10_pack 143 (.iload_n 3) 1 144 := ⟨by decide +kernel, rfl⟩
theorem D_X10_pack_144 : Dec mi_X10_pack 144 (.iconst (-1)) 1 145 := ⟨by decide +kernel, rfl⟩
theorem D_X10_pack_145 : DecJ mi_X10_pack 145 (.if_icmp .ne 18) (18) 148 163 := ⟨by decide +kernel, rfl, by decide⟩
theorem D_X10_pack_148 : Dec mi_X10_pack 148 (.iload 5) 2 150 := ⟨by decide +kernel, rfl⟩
theorem D_X10_pack_150 : Dec mi_X10_pack 150 (.bipush (-9)) 2 152 := ⟨by decide +kernel, rfl⟩
theorem D_X10_pack_152 : DecJ mi_X10_pack 152 (.if_icmp .ne 8) (8) 155 160 := ⟨by decide +kernel, rfl, by decide⟩
theorem D_X10_pack_155 : Dec mi_X10_pack 155 (.bipush (-9)) 2 157 := ⟨by decide +kernel, rfl⟩
theorem D_X10_pack_157 : DecJ mi_X10_pack 157 (.goto 5) (5) 160 162 := ⟨by decide +kernel, rfl, by decide⟩
theorem D_X10_pack_160 : Dec mi_X10_pack 160 (.iload 6) 2 162 := ⟨by decide +kernel, rfl⟩
theorem D_X10_pack_162 : Dec mi_X10_pack 162 (.ireturn) 1 163 := ⟨by decide +kernel, rfl⟩
theorem D_X10_pack_163 : Dec mi_X10_pack 163 (.aload_n 0) 1 164 := ⟨by decide +kernel, rfl⟩
theorem D_X10_pack_164 : Dec mi_X10_pack 164 (.iload 4) 2 166 := ⟨by decide +kernel, rfl⟩
theorem D_X10_pack_166 : Dec mi_X10_pack 166 (.iload 5) 2 168 := ⟨by decide +kernel, rfl⟩
theorem D_X10_pack_168 : Dec mi_X10_pack 168 (.invokevirtual 216) 3 171 := ⟨by decide +kernel, rfl⟩
theorem D_X10_pack_171 : Dec mi_X10_pack 171 (.pop) 1 172 := ⟨by decide +kernel, rfl⟩
theorem D_X10_pack_172 : Dec mi_X10_pack 172 (.aload_n 0) 1 173 := ⟨by decide +kernel, rfl⟩
theorem D_X10_pack_173 : Dec mi_X10_pack 173 (.getfield 66) 3 176 := ⟨by decide +kernel, rfl⟩
theorem D_X10_pack_176 : Dec mi_X10_pack 176 (.iload_n 3) 1 177 := ⟨by decide +kernel, rfl⟩
theorem D_X10_pack_177 : Dec mi_X10_pack 177 (.iaload) 1 178 := ⟨by decide +kernel, rfl⟩
theorem D_X10_pack_178 : Dec mi_X10_pack 178 (.ireturn) 1 179 := ⟨by decide +kernel, rfl⟩
def f_X10_pack_82 (F : Nat) : Nat → Int32 → Int32 → Int32 → Int32 → Int32 → Int32 → Mem → Option (Int32 × Mem)
  | 0, _, _, _, _, _, _, _ => none
  | n + 1, y3, y4, y5, y6, y7, y8, N => if y7 ≤ y8 then (if y5 = (-9 : Int32) then (if y5 = (-9 : Int32) then (some ((-9 : Int32), N)) else (some (y6, N))) else (if y3 = (-1 : Int32) then (if y5 = (-9 : Int32) then (some ((-9 : Int32), N)) else (some (y6, N))) else ((f_X10_lay F N y4 y5).bind fun p6 => if ck y3 6 = true then (some ((p6.2.1 55 y3.toNatClampNeg), p6.2)) else none))) else ((f_X10_lay F N y4 y8).bind fun p9 => if p9.1 = 0 then (f_X10_pack_82 F n y3 y4 y5 y6 y7 (y8 + (1 : Int32)) p9.2) else ((f_X10_troubles F p9.2 y4).bind fun x12 => if y5 = (-9 : Int32) then (f_X10_pack_82 F n y3 y4 y8 x12 y7 (y8 + (1 : Int32)) p9.2) else (if y6 ≤ x12 then (f_X10_pack_82 F n y3 y4 y5 y6 y7 (y8 + (1 : Int32)) p9.2) else (f_X10_pack_82 F n y3 y4 y8 x12 y7 (y8 + (1 : Int32)) p9.2))))
theorem x_X10_pack_82 {l : Launch} {w : Wd} {κ : Kp} {F : Nat} {v : Int32 × Mem} (hq : RQ w (some (.int v.1), v.2) κ) : ∀ (n : Nat) (y3 : Int32) (y4 : Int32) (y5 : Int32) (y6 : Int32) (y7 : Int32) (y8 : Int32) (N : Mem), f_X10_pack_82 F n y3 y4 y5 y6 y7 y8 N = some v → RR l w mi_X10_pack (7) κ 82 [] [some (.ref (wq w 36)), none, none, some (.int y3), some (.int y4), some (.int y5), some (.int y6), some (.int y7), some (.int y8), none] N
  | 0, _, _, _, _, _, _, _, h => nomatch h
  | n + 1, y3, y4, y5, y6, y7, y8, N, h => let_h (show (if y7 ≤ y8 then (if y5 = (-9 : Int32) then (if y5 = (-9 : Int32) then (some ((-9 : Int32), N)) else (some (y6, N))) else (if y3 = (-1 : Int32) then (if y5 = (-9 : Int32) then (some ((-9 : Int32), N)) else (some (y6, N))) else ((f_X10_lay F N y4 y5).bind fun p6 => if ck y3 6 = true then (some ((p6.2.1 55 y3.toNatClampNeg), p6.2)) else none))) else ((f_X10_lay F N y4 y8).bind fun p9 => if p9.1 = 0 then (f_X10_pack_82 F n y3 y4 y5 y6 y7 (y8 + (1 : Int32)) p9.2) else ((f_X10_troubles F p9.2 y4).bind fun x12 => if y5 = (-9 : Int32) then (f_X10_pack_82 F n y3 y4 y8 x12 y7 (y8 + (1 : Int32)) p9.2) else (if y6 ≤ x12 then (f_X10_pack_82 F n y3 y4 y5 y6 y7 (y8 + (1 : Int32)) p9.2) else (f_X10_pack_82 F n y3 y4 y8 x12 y7 (y8 + (1 : Int32)) p9.2))))) = some v from h) fun h => r_iload D_X10_pack_82 rfl <| r_iload D_X10_pack_84 rfl <| r_icmp_ge D_X10_pack_86 (fun c1 => let_h (ifT c1 h) fun h => r_iload D_X10_pack_136 rfl <| r_bipush D_X10_pack_138 k8_m9 <| r_icmp_eq D_X10_pack_140 (fun c2 => let_h (ifT c2 h) fun h => r_iload D_X10_pack_148 rfl <| r_bipush D_X10_pack_150 k8_m9 <| r_icmp_ne D_X10_pack_152 (fun c3 => let_h (ifT c3 h) fun h => r_bipush D_X10_pack_155 k8_m9 <| r_goto D_X10_pack_157 <| r_iret hq D_X10_pack_162 rfl (rtW h)) (fun c3 => let_h (ifF c3 h) fun h => r_iload D_X10_pack_160 rfl <| r_iret hq D_X10_pack_162 rfl (rtW h))) (fun c2 => let_h (ifF c2 h) fun h => r_iload_n D_X10_pack_143 rfl <| r_iconst D_X10_pack_144 ki_m1 <| r_icmp_ne D_X10_pack_145 (fun c4 => let_h (ifT c4 h) fun h => r_iload D_X10_pack_148 rfl <| r_bipush D_X10_pack_150 k8_m9 <| r_icmp_ne D_X10_pack_152 (fun c5 => let_h (ifT c5 h) fun h => r_bipush D_X10_pack_155 k8_m9 <| r_goto D_X10_pack_157 <| r_iret hq D_X10_pack_162 rfl (rtW h)) (fun c5 => let_h (ifF c5 h) fun h => r_iload D_X10_pack_160 rfl <| r_iret hq D_X10_pack_162 rfl (rtW h))) (fun c4 => let_h (ifF c4 h) fun h => r_aload_n D_X10_pack_163 rfl <| r_iload D_X10_pack_164 rfl <| r_iload D_X10_pack_166 rfl <| (bdE h).elim fun p6 q7 => let_h q7.2 fun h => r_callV (av := [.int y4, .int y5]) D_X10_pack_168 ml_X10_216 mf_X10_lay mv_X10_lay s_36 rfl rfl (x_X10_lay q7.1) (Nat.le_of_ble_eq_true rfl) rfl rfl (Nat.le_of_ble_eq_true rfl) <| r_pop D_X10_pack_171 rfl <| r_aload_n D_X10_pack_172 rfl <| r_getR (j := 55) D_X10_pack_173 fl_X10_66 s_36 rfl <| r_iload_n D_X10_pack_176 rfl <| (ckE h).elim fun c8 h => r_iald D_X10_pack_177 s_55 c8 <| r_iret hq D_X10_pack_178 rfl (rtW h)))) (fun c1 => let_h (ifF c1 h) fun h => r_aload_n D_X10_pack_89 rfl <| r_iload D_X10_pack_90 rfl <| r_iload D_X10_pack_92 rfl <| (bdE h).elim fun p9 q10 => let_h q10.2 fun h => r_callV (av := [.int y4, .int y8]) D_X10_pack_94 ml_X10_216 mf_X10_lay mv_X10_lay s_36 rfl rfl (x_X10_lay q10.1) (Nat.le_of_ble_eq_true rfl) rfl rfl (Nat.le_of_ble_eq_true rfl) <| r_if_eq D_X10_pack_97 (fun c11 => let_h (ifT c11 h) fun h => r_iinc D_X10_pack_130 rfl ki_1 (by decide) rfl <| r_goto D_X10_pack_133 <| r_ls (x_X10_pack_82 hq n y3 y4 y5 y6 y7 (y8 + (1 : Int32)) p9.2 h) ⟨rfl, ⟨rfl, ⟨rfl, ⟨rfl, ⟨rfl, ⟨rfl, ⟨rfl, trivial⟩⟩⟩⟩⟩⟩⟩) (fun c11 => let_h (ifF c11 h) fun h => r_aload_n D_X10_pack_100 rfl <| r_iload D_X10_pack_101 rfl <| (bdE h).elim fun x12 q13 => let_h q13.2 fun h => r_callV (av := [.int y4]) D_X10_pack_103 ml_X10_219 mf_X10_troubles mv_X10_troubles s_36 rfl rfl (x_X10_troubles q13.1) (Nat.le_of_ble_eq_true rfl) rfl rfl (Nat.le_of_ble_eq_true rfl) <| r_istore D_X10_pack_106 (by decide) rfl <| r_iload D_X10_pack_108 rfl <| r_bipush D_X10_pack_110 k8_m9 <| r_icmp_eq D_X10_pack_112 (fun c14 => let_h (ifT c14 h) fun h => r_iload D_X10_pack_122 rfl <| r_istore D_X10_pack_124 (by decide) rfl <| r_iload D_X10_pack_126 rfl <| r_istore D_X10_pack_128 (by decide) rfl <| r_iinc D_X10_pack_130 rfl ki_1 (by decide) rfl <| r_goto D_X10_pack_133 <| r_ls (x_X10_pack_82 hq n y3 y4 y8 x12 y7 (y8 + (1 : Int32)) p9.2 h) ⟨rfl, ⟨rfl, ⟨rfl, ⟨rfl, ⟨rfl, ⟨rfl, ⟨rfl, trivial⟩⟩⟩⟩⟩⟩⟩) (fun c14 => let_h (ifF c14 h) fun h => r_iload D_X10_pack_115 rfl <| r_iload D_X10_pack_117 rfl <| r_icmp_ge D_X10_pack_119 (fun c15 => let_h (ifT c15 h) fun h => r_iinc D_X10_pack_130 rfl ki_1 (by decide) rfl <| r_goto D_X10_pack_133 <| r_ls (x_X10_pack_82 hq n y3 y4 y5 y6 y7 (y8 + (1 : Int32)) p9.2 h) ⟨rfl, ⟨rfl, ⟨rfl, ⟨rfl, ⟨rfl, ⟨rfl, ⟨rfl, trivial⟩⟩⟩⟩⟩⟩⟩) (fun c15 => let_h (ifF c15 h) fun h => r_iload D_X10_pack_122 rfl <| r_istore D_X10_pack_124 (by decide) rfl <| r_iload D_X10_pack_126 rfl <| r_istore D_X10_pack_128 (by decide) rfl <| r_iinc D_X10_pack_130 rfl ki_1 (by decide) rfl <| r_goto D_X10_pack_133 <| r_ls (x_X10_pack_82 hq n y3 y4 y8 x12 y7 (y8 + (1 : Int32)) p9.2 h) ⟨rfl, ⟨rfl, ⟨rfl, ⟨rfl, ⟨rfl, ⟨rfl, ⟨rfl, trivial⟩⟩⟩⟩⟩⟩⟩))))
def f_X10_pack_62 (F : Nat) : Nat → Int32 → Int32 → Int32 → Int32 → Int32 → Int32 → Mem → Option (Int32 × Mem)
  | 0, _, _, _, _, _, _, _ => none
  | n + 1, y3, y4, y5, y6, y7, y8, N => if y8 ≤ 0 then (f_X10_pack_82 F F y3 y4 y5 y6 y7 (0 : Int32) N) else (f_X10_pack_62 F n y3 y4 y5 y6 (y7 * (4 : Int32)) (y8 + (-1 : Int32)) N)
theorem x_X10_pack_62 {l : Launch} {w : Wd} {κ : Kp} {F : Nat} {v : Int32 × Mem} (hq : RQ w (some (.int v.1), v.2) κ) : ∀ (n : Nat) (y3 : Int32) (y4 : Int32) (y5 : Int32) (y6 : Int32) (y7 : Int32) (y8 : Int32) (N : Mem), f_X10_pack_62 F n y3 y4 y5 y6 y7 y8 N = some v → RR l w mi_X10_pack (7) κ 62 [] [some (.ref (wq w 36)), none, none, some (.int y3), some (.int y4), some (.int y5), some (.int y6), some (.int y7), some (.int y8), none] N
  | 0, _, _, _, _, _, _, _, h => nomatch h
  | n + 1, y3, y4, y5, y6, y7, y8, N, h => let_h (show (if y8 ≤ 0 then (f_X10_pack_82 F F y3 y4 y5 y6 y7 (0 : Int32) N) else (f_X10_pack_62 F n y3 y4 y5 y6 (y7 * (4 : Int32)) (y8 + (-1 : Int32)) N)) = some v from h) fun h => r_iload D_X10_pack_62 rfl <| r_if_le D_X10_pack_64 (fun c1 => let_h (ifT c1 h) fun h => r_iconst D_X10_pack_79 ki_0 <| r_istore D_X10_pack_80 (by decide) rfl <| r_ls (x_X10_pack_82 hq F y3 y4 y5 y6 y7 (0 : Int32) N h) ⟨rfl, ⟨rfl, ⟨rfl, ⟨rfl, ⟨rfl, ⟨rfl, ⟨rfl, trivial⟩⟩⟩⟩⟩⟩⟩) (fun c1 => let_h (ifF c1 h) fun h => r_iload D_X10_pack_67 rfl <| r_iconst D_X10_pack_69 ki_4 <| r_imul D_X10_pack_70 <| r_istore D_X10_pack_71 (by decide) rfl <| r_iinc D_X10_pack_73 rfl ki_m1 (by decide) rfl <| r_goto D_X10_pack_76 <| r_ls (x_X10_pack_62 hq n y3 y4 y5 y6 (y7 * (4 : Int32)) (y8 + (-1 : Int32)) N h) ⟨rfl, ⟨rfl, ⟨rfl, ⟨rfl, ⟨rfl, ⟨rfl, ⟨rfl, trivial⟩⟩⟩⟩⟩⟩⟩)
def f_X10_pack_32 (F : Nat) (y2 : Int32) (y3 : Int32) (y4 : Int32) (N : Mem) : Option (Int32 × Mem) := (f_X10_findPlan F N y4 y2).bind fun p1 => if p1.1 = 0 then (some ((-2 : Int32), p1.2)) else ((f_X10_bitsIn F p1.2 y4).bind fun x4 => f_X10_pack_62 F F y3 y4 (-9 : Int32) (0 : Int32) (1 : Int32) x4 p1.2)
theorem x_X10_pack_32 {l : Launch} {w : Wd} {κ : Kp} {F : Nat} {v : Int32 × Mem} (hq : RQ w (some (.int v.1), v.2) κ) (y2 : Int32) (y3 : Int32) (y4 : Int32) (N : Mem) (h : f_X10_pack_32 F y2 y3 y4 N = some v) : RR l w mi_X10_pack (7) κ 32 [] [some (.ref (wq w 36)), none, some (.int y2), some (.int y3), some (.int y4), none, none, none, none, none] N := let_h (show ((f_X10_findPlan F N y4 y2).bind fun p1 => if p1.1 = 0 then (some ((-2 : Int32), p1.2)) else ((f_X10_bitsIn F p1.2 y4).bind fun x4 => f_X10_pack_62 F F y3 y4 (-9 : Int32) (0 : Int32) (1 : Int32) x4 p1.2)) = some v from h) fun h => r_aload_n D_X10_pack_32 rfl <| r_iload D_X10_pack_33 rfl <| r_iload_n D_X10_pack_35 rfl <| (bdE h).elim fun p1 q2 => let_h q2.2 fun h => r_callV (av := [.int y4, .int y2]) D_X10_pack_36 ml_X10_201 mf_X10_findPlan mv_X10_findPlan s_36 rfl rfl (x_X10_findPlan q2.1) (Nat.le_of_ble_eq_true rfl) rfl rfl (Nat.le_of_ble_eq_true rfl) <| r_if_ne D_X10_pack_39 (fun c3 => let_h (ifT c3 h) fun h => r_bipush D_X10_pack_42 k8_m2 <| r_iret hq D_X10_pack_44 rfl (rtW h)) (fun c3 => let_h (ifF c3 h) fun h => r_bipush D_X10_pack_45 k8_m9 <| r_istore D_X10_pack_47 (by decide) rfl <| r_iconst D_X10_pack_49 ki_0 <| r_istore D_X10_pack_50 (by decide) rfl <| r_iconst D_X10_pack_52 ki_1 <| r_istore D_X10_pack_53 (by decide) rfl <| r_iload D_X10_pack_55 rfl <| (bdE h).elim fun x4 q5 => let_h q5.2 fun h => r_callS (av := [.int y4]) D_X10_pack_57 ml_X10_213 mf_X10_bitsIn ms_X10_bitsIn (x_X10_bitsIn q5.1) (Nat.le_of_ble_eq_true rfl) rfl rfl (Nat.le_of_ble_eq_true rfl) <| r_istore D_X10_pack_60 (by decide) rfl <| r_ls (x_X10_pack_62 hq F y3 y4 (-9 : Int32) (0 : Int32) (1 : Int32) x4 p1.2 h) ⟨rfl, ⟨rfl, ⟨rfl, ⟨rfl, ⟨rfl, ⟨rfl, ⟨rfl, trivial⟩⟩⟩⟩⟩⟩⟩)
def f_X10_pack (F : Nat) (M : Mem) (a1 : Int32) (a2 : Int32) (a3 : Int32) : Option (Int32 × Mem) := (f_X10_allThings M).bind fun x1 => if a3 = (-1 : Int32) then (f_X10_pack_32 F a2 a3 (a1 &&& x1) M) else ((f_X10_isThing M a3).bind fun x4 => if x4 = 0 then (some ((-1 : Int32), M)) else (if (f_X10_isOf M (a1 &&& x1) a3) = 0 then (some ((-1 : Int32), M)) else (f_X10_pack_32 F a2 a3 (a1 &&& x1) M)))
theorem x_X10_pack {l : Launch} {w : Wd} {F : Nat} {M : Mem} {a1 : Int32} {a2 : Int32} {a3 : Int32} {v : Int32 × Mem} (h : f_X10_pack F M a1 a2 a3 = some v) : Cn l w mi_X10_pack yX10_pack (7) [.ref (wq w 36), .int a1, .int a2, .int a3] M (some (.int v.1), v.2) :=
  Cn_of (loc0 := [some (.ref (wq w 36)), some (.int a1), some (.int a2), some (.int a3), none, none, none, none, none, none]) rfl rfl rfl (Nat.le_of_ble_eq_true rfl) fun κ hq => let_h (show ((f_X10_allThings M).bind fun x1 => if a3 = (-1 : Int32) then (f_X10_pack_32 F a2 a3 (a1 &&& x1) M) else ((f_X10_isThing M a3).bind fun x4 => if x4 = 0 then (some ((-1 : Int32), M)) else (if (f_X10_isOf M (a1 &&& x1) a3) = 0 then (some ((-1 : Int32), M)) else (f_X10_pack_32 F a2 a3 (a1 &&& x1) M)))) = some v from h) fun h => r_iload_n D_X10_pack_0 rfl <| r_aload_n D_X10_pack_1 rfl <| (bdE h).elim fun x1 q2 => let_h q2.2 fun h => r_callV (av := []) D_X10_pack_2 ml_X10_139 mf_X10_allThings mv_X10_allThings s_36 rfl rfl (x_X10_allThings q2.1) (Nat.le_of_ble_eq_true rfl) rfl rfl (Nat.le_of_ble_eq_true rfl) <| r_iand D_X10_pack_5 <| r_istore D_X10_pack_6 (by decide) rfl <| r_iload_n D_X10_pack_8 rfl <| r_iconst D_X10_pack_9 ki_m1 <| r_icmp_eq D_X10_pack_10 (fun c3 => let_h (ifT c3 h) fun h => r_ls (x_X10_pack_32 hq a2 a3 (a1 &&& x1) M h) ⟨rfl, ⟨rfl, ⟨rfl, ⟨rfl, trivial⟩⟩⟩⟩) (fun c3 => let_h (ifF c3 h) fun h => r_aload_n D_X10_pack_13 rfl <| r_iload_n D_X10_pack_14 rfl <| (bdE h).elim fun x4 q5 => let_h q5.2 fun h => r_callV (av := [.int a3]) D_X10_pack_15 ml_X10_142 mf_X10_isThing mv_X10_isThing s_36 rfl rfl (x_X10_isThing q5.1) (Nat.le_of_ble_eq_true rfl) rfl rfl (Nat.le_of_ble_eq_true rfl) <| r_if_eq D_X10_pack_18 (fun c6 => let_h (ifT c6 h) fun h => r_iconst D_X10_pack_30 ki_m1 <| r_iret hq D_X10_pack_31 rfl (rtW h)) (fun c6 => let_h (ifF c6 h) fun h => r_iload D_X10_pack_21 rfl <| r_iload_n D_X10_pack_23 rfl <| r_callS (av := [.int (a1 &&& x1), .int a3]) D_X10_pack_24 ml_X10_155 mf_X10_isOf ms_X10_isOf (x_X10_isOf rfl) (Nat.le_of_ble_eq_true rfl) rfl rfl (Nat.le_of_ble_eq_true rfl) <| r_if_ne D_X10_pack_27 (fun c7 => let_h (ifT c7 h) fun h => r_iconst D_X10_pack_30 ki_m1 <| r_iret hq D_X10_pack_31 rfl (rtW h)) (fun c7 => let_h (ifF c7 h) fun h => r_ls (x_X10_pack_32 hq a2 a3 (a1 &&& x1) M h) ⟨rfl, ⟨rfl, ⟨rfl, ⟨rfl, trivial⟩⟩⟩⟩)))
-- X10_allGo
theorem D_X10_allGo_0 : Dec mi_X10_allGo 0 (.iload_n 1) 1 1 := ⟨by decide +kernel, rfl⟩
theorem D_X10_allGo_1 : Dec mi_X10_allGo 1 (.iconst 0) 1 2 := ⟨by decide +kernel, rfl⟩
theorem D_X10_allGo_2 : Dec mi_X10_allGo 2 (.iconst 1) 1 3 := ⟨by decide +kernel, rfl⟩
theorem D_X10_allGo_3 : Dec mi_X10_allGo 3 (.invokestatic 78) 3 6 := ⟨by decide +kernel, rfl⟩
theorem D_X10_allGo_6 : DecJ mi_X10_allGo 6 (.ifCond .ne 5) (5) 9 11 := ⟨by decide +kernel, rfl, by decide⟩
theorem D_X10_allGo_9 : Dec mi_X10_allGo 9 (.iconst (-1)) 1 10 := ⟨by decide +kernel, rfl⟩
theorem D_X10_allGo_10 : Dec mi_X10_allGo 10 (.ireturn) 1 11 := ⟨by decide +kernel, rfl⟩
theorem D_X10_allGo_11 : Dec mi_X10_allGo 11 (.iconst 0) 1 12 := ⟨by decide +kernel, rfl⟩
theorem D_X10_allGo_12 : Dec mi_X10_allGo 12 (.istore_n 2) 1 13 := ⟨by decide +kernel, rfl⟩
theorem D_X10_allGo_13 : Dec mi_X10_allGo 13 (.iconst 0) 1 14 := ⟨by decide +kernel, rfl⟩
theorem D_X10_allGo_14 : Dec mi_X10_allGo 14 (.istore_n 3) 1 15 := ⟨by decide +kernel, rfl⟩
theorem D_X10_allGo_15 : Dec mi_X10_allGo 15 (.iload_n 3) 1 16 := ⟨by decide +kernel, rfl⟩
theorem D_X10_allGo_16 : Dec mi_X10_allGo 16 (.aload_n 0) 1 17 := ⟨by decide +kernel, rfl⟩
theorem D_X10_allGo_17 : Dec mi_X10_allGo 17 (.invokevirtual 139) 3 20 := ⟨by decide +kernel, rfl⟩
theorem D_X10_allGo_20 : DecJ mi_X10_allGo 20 (.if_icmp .gt 91) (91) 23 111 := ⟨by decide +kernel, rfl, by decide⟩
theorem D_X10_allGo_23 : Dec mi_X10_allGo 23 (.iload_n 3) 1 24 := ⟨by decide +kernel, rfl⟩
theorem D_X10_allGo_24 : Dec mi_X10_allGo 24 (.invokestatic 213) 3 27 := ⟨by decide +kernel, rfl⟩
theorem D_X10_allGo_27 : Dec mi_X10_allGo 27 (.iload_n 2) 1 28 := ⟨by decide +kernel, rfl⟩
theorem D_X10_allGo_28 : Dec mi_X10_allGo 28 (.invokestatic 213) 3 31 := ⟨by decide +kernel, rfl⟩
theorem D_X10_allGo_31 : DecJ mi_X10_allGo 31 (.if_icmp .le 7) (7) 34 38 := ⟨by decide +kernel, rfl, by decide⟩
theorem D_X10_allGo_34 : Dec mi_X10_allGo 34 (.iconst 1) 1 35 := ⟨by decide +kernel, rfl⟩
theorem D_X10_allGo_35 : DecJ mi_X10_allGo 35 (.goto 4) (4) 38 39 := ⟨by decide +kernel, rfl, by decide⟩
theorem D_X10_allGo_38 : Dec mi_X10_allGo 38 (.iconst 0) 1 39 := ⟨by decide +kernel, rfl⟩
theorem D_X10_allGo_39 : Dec mi_X10_allGo 39 (.istore 4) 2 41 := ⟨by decide +kernel, rfl⟩
theorem D_X10_allGo_41 : Dec mi_X10_allGo 41 (.iconst 0) 1 42 := ⟨by decide +kernel, rfl⟩
theorem D_X10_allGo_42 : Dec mi_X10_allGo 42 (.istore 5) 2 44 := ⟨by decide +kernel, rfl⟩
theorem D_X10_allGo_44 : Dec mi_X10_allGo 44 (.iload 5) 2 46 := ⟨by decide +kernel, rfl⟩
theorem D_X10_allGo_46 : Dec mi_X10_allGo 46 (.aload_n 0) 1 47 := ⟨by decide +kernel, rfl⟩
theorem D_X10_allGo_47 : Dec mi_X10_allGo 47 (.getfield 13) 3 50 := ⟨by decide +kernel, rfl⟩
theorem D_X10_allGo_50 : Dec mi_X10_allGo 50 (.iconst 0) 1 51 := ⟨by decide +kernel, rfl⟩
theorem D_X10_allGo_51 : Dec mi_X10_allGo 51 (.iaload) 1 52 := ⟨by decide +kernel, rfl⟩
theorem D_X10_allGo_52 : DecJ mi_X10_allGo 52 (.if_icmp .ge 42) (42) 55 94 := ⟨by decide +kernel, rfl, by decide⟩
theorem D_X10_allGo_55 : Dec mi_X10_allGo 55 (.iload 4) 2 57 := ⟨by decide +kernel, rfl⟩
theorem D_X10_allGo_57 : DecJ mi_X10_allGo 57 (.ifCond .eq 28) (28) 60 85 := ⟨by decide +kernel, rfl, by decide⟩
theorem D_X10_allGo_60 : Dec mi_X10_allGo 60 (.iload_n 3) 1 61 := ⟨by decide +kernel, rfl⟩
theorem D_X10_allGo_61 : Dec mi_X10_allGo 61 (.iload 5) 2 63 := ⟨by decide +kernel, rfl⟩
theorem D_X10_allGo_63 : Dec mi_X10_allGo 63 (.invokestatic 155) 3 66 := ⟨by decide +kernel, rfl⟩
theorem D_X10_allGo_66 : DecJ mi_X10_allGo 66 (.ifCond .eq 15) (15) 69 81 := ⟨by decide +kernel, rfl, by decide⟩
theorem D_X10_allGo_69 : Dec mi_X10_allGo 69 (.aload_n 0) 1 70 := ⟨by decide +kernel, rfl⟩
theorem D_X10_allGo_70 : Dec mi_X10_allGo 70 (.getfield 20) 3 73 := ⟨by decide +kernel, rfl⟩
theorem D_X10_allGo_73 : Dec mi_X10_allGo 73 (.iload 5) 2 75 := ⟨by decide +kernel, rfl⟩
theorem D_X10_allGo_75 : Dec mi_X10_allGo 75 (.iaload) 1 76 := ⟨by decide +kernel, rfl⟩
theorem D_X10_allGo_76 : Dec mi_X10_allGo 76 (.iload_n 3) 1 77 := ⟨by decide +kernel, rfl⟩
theorem D_X10_allGo_77 : Dec mi_X10_allGo 77 (.iand) 1 78 := ⟨by decide +kernel, rfl⟩
theorem D_X10_allGo_78 : DecJ mi_X10_allGo 78 (.ifCond .ne 7) (7) 81 85 := ⟨by decide +kernel, rfl, by decide⟩
theorem D_X10_allGo_81 : Dec mi_X10_allGo 81 (.iconst 1) 1 82 := ⟨by decide +kernel, rfl⟩
theorem D_X10_allGo_82 : DecJ mi_X10_allGo 82 (.goto 4) (4) 85 86 := ⟨by decide +kernel, rfl, by decide⟩
theorem D_X10_allGo_85 : Dec mi_X10_allGo 85 (.iconst 0) 1 86 := ⟨by decide +kernel, rfl⟩
theorem D_X10_allGo_86 : Dec mi_X10_allGo 86 (.istore 4) 2 88 := ⟨by decide +kernel, rfl⟩
theorem D_X10_allGo_88 : Dec mi_X10_allGo 88 (.iinc 5 1) 3 91 := ⟨by decide +kernel, rfl⟩
theorem D_X10_allGo_91 : DecJ mi_X10_allGo 91 (.goto (-47)) (-47) 94 44 := ⟨by decide +kernel, rfl, by decide⟩
theorem D_X10_allGo_94 : Dec mi_X10_allGo 94 (.iload 4) 2 96 := ⟨by decide +kernel, rfl⟩
theorem D_X10_allGo_96 : DecJ mi_X10_allGo 96 (.ifCond .eq 7) (7) 99 103 := ⟨by decide +kernel, rfl, by decide⟩
theorem D_X10_allGo_99 : Dec mi_X10_allGo 99 (.iload_n 3) 1 100 := ⟨by decide +kernel, rfl⟩
theorem D_X10_allGo_100 : DecJ mi_X10_allGo 100 (.goto 4) (4) 103 104 := ⟨by decide +kernel, rfl, by decide⟩
theorem D_X10_allGo_103 : Dec mi_X10_allGo 103 (.iload_n 2) 1 104 := ⟨by decide +kernel, rfl⟩
theorem D_X10_allGo_104 : Dec mi_X10_allGo 104 (.istore_n 2) 1 105 := ⟨by decide +kernel, rfl⟩
theorem D_X10_allGo_105 : Dec mi_X10_allGo 105 (.iinc 3 1) 3 108 := ⟨by decide +kernel, rfl⟩
theorem D_X10_allGo_108 : DecJ mi_X10_allGo 108 (.goto (-93)) (-93) 111 15 := ⟨by decide +kernel, rfl, by decide⟩
theorem D_X10_allGo_111 : Dec mi_X10_allGo 111 (.iload_n 1) 1 112 := ⟨by decide +kernel, rfl⟩
theorem D_X10_allGo_112 : DecJ mi_X10_allGo 112 (.ifCond .ne 7) (7) 115 119 := ⟨by decide +kernel, rfl, by decide⟩
theorem D_X10_allGo_115 : Dec mi_X10_allGo 115 (.iload_n 2) 1 116 := ⟨by decide +kernel, rfl⟩
theorem D_X10_allGo_116 : DecJ mi_X10_allGo 116 (.goto 7) (7) 119 123 := ⟨by decide +kernel, rfl, by decide⟩
theorem D_X10_allGo_119 : Dec mi_X10_allGo 119 (.iload_n 2) 1 120 := ⟨by decide +kernel, rfl⟩
theorem D_X10_allGo_120 : Dec mi_X10_allGo 120 (.invokestatic 213) 3 123 := ⟨by decide +kernel, rfl⟩
theorem D_X10_allGo_123 : Dec mi_X10_allGo 123 (.ireturn) 1 124 := ⟨by decide +kernel, rfl⟩
def f_X10_allGo_44 (F : Nat) (M : Mem) (K_15 : Int32 → Int32 → Int32 → Option Int32) : Nat → Int32 → Int32 → Int32 → Int32 → Int32 → Option Int32
  | 0, _, _, _, _, _ => none
  | n + 1, y1, y2, y3, y4, y5 => if ck (0 : Int32) 2 = true then (if (M.1 38 (0 : Int32).toNatClampNeg) ≤ y5 then (if y4 = 0 then (K_15 y1 y2 (y3 + (1 : Int32))) else (K_15 y1 y3 (y3 + (1 : Int32)))) else (if y4 = 0 then (f_X10_allGo_44 F M K_15 n y1 y2 y3 (0 : Int32) (y5 + (1 : Int32))) else (if (f_X10_isOf M y3 y5) = 0 then (f_X10_allGo_44 F M K_15 n y1 y2 y3 (1 : Int32) (y5 + (1 : Int32))) else (if ck y5 12 = true then (if ((M.1 40 y5.toNatClampNeg) &&& y3) = 0 then (f_X10_allGo_44 F M K_15 n y1 y2 y3 (1 : Int32) (y5 + (1 : Int32))) else (f_X10_allGo_44 F M K_15 n y1 y2 y3 (0 : Int32) (y5 + (1 : Int32)))) else none)))) else none
theorem x_X10_allGo_44 {l : Launch} {w : Wd} {κ : Kp} {F : Nat} {M : Mem} {v : Int32} {K_15 : Int32 → Int32 → Int32 → Option Int32} (hq : RQ w (some (.int v), M) κ) (hK_15 : ∀ (y1 : Int32) (y2 : Int32) (y3 : Int32), K_15 y1 y2 y3 = some v → RR l w mi_X10_allGo (1) κ 15 [] [some (.ref (wq w 36)), some (.int y1), some (.int y2), some (.int y3), none, none] M) : ∀ (n : Nat) (y1 : Int32) (y2 : Int32) (y3 : Int32) (y4 : Int32) (y5 : Int32), f_X10_allGo_44 F M K_15 n y1 y2 y3 y4 y5 = some v → RR l w mi_X10_allGo (1) κ 44 [] [some (.ref (wq w 36)), some (.int y1), some (.int y2), some (.int y3), some (.int y4), some (.int y5)] M
  | 0, _, _, _, _, _, h => nomatch h
  | n + 1, y1, y2, y3, y4, y5, h => let_h (show (if ck (0 : Int32) 2 = true then (if (M.1 38 (0 : Int32).toNatClampNeg) ≤ y5 then (if y4 = 0 then (K_15 y1 y2 (y3 + (1 : Int32))) else (K_15 y1 y3 (y3 + (1 : Int32)))) else (if y4 = 0 then (f_X10_allGo_44 F M K_15 n y1 y2 y3 (0 : Int32) (y5 + (1 : Int32))) else (if (f_X10_isOf M y3 y5) = 0 then (f_X10_allGo_44 F M K_15 n y1 y2 y3 (1 : Int32) (y5 + (1 : Int32))) else (if ck y5 12 = true then (if ((M.1 40 y5.toNatClampNeg) &&& y3) = 0 then (f_X10_allGo_44 F M K_15 n y1 y2 y3 (1 : Int32) (y5 + (1 : Int32))) else (f_X10_allGo_44 F M K_15 n y1 y2 y3 (0 : Int32) (y5 + (1 : Int32)))) else none)))) else none) = some v from h) fun h => r_iload D_X10_allGo_44 rfl <| r_aload_n D_X10_allGo_46 rfl <| r_getR (j := 38) D_X10_allGo_47 fl_X10_13 s_36 rfl <| r_iconst D_X10_allGo_50 ki_0 <| (ckE h).elim fun c1 h => r_iald D_X10_allGo_51 s_38 c1 <| r_icmp_ge D_X10_allGo_52 (fun c2 => let_h (ifT c2 h) fun h => r_iload D_X10_allGo_94 rfl <| r_if_eq D_X10_allGo_96 (fun c3 => let_h (ifT c3 h) fun h => r_iload_n D_X10_allGo_103 rfl <| r_istore_n D_X10_allGo_104 (by decide) rfl <| r_iinc D_X10_allGo_105 rfl ki_1 (by decide) rfl <| r_goto D_X10_allGo_108 <| r_ls (hK_15 y1 y2 (y3 + (1 : Int32)) h) ⟨rfl, ⟨rfl, ⟨rfl, ⟨rfl, trivial⟩⟩⟩⟩) (fun c3 => let_h (ifF c3 h) fun h => r_iload_n D_X10_allGo_99 rfl <| r_goto D_X10_allGo_100 <| r_istore_n D_X10_allGo_104 (by decide) rfl <| r_iinc D_X10_allGo_105 rfl ki_1 (by decide) rfl <| r_goto D_X10_allGo_108 <| r_ls (hK_15 y1 y3 (y3 + (1 : Int32)) h) ⟨rfl, ⟨rfl, ⟨rfl, ⟨rfl, trivial⟩⟩⟩⟩)) (fun c2 => let_h (ifF c2 h) fun h => r_iload D_X10_allGo_55 rfl <| r_if_eq D_X10_allGo_57 (fun c4 => let_h (ifT c4 h) fun h => r_iconst D_X10_allGo_85 ki_0 <| r_istore D_X10_allGo_86 (by decide) rfl <| r_iinc D_X10_allGo_88 rfl ki_1 (by decide) rfl <| r_goto D_X10_allGo_91 <| r_ls (x_X10_allGo_44 hq hK_15 n y1 y2 y3 (0 : Int32) (y5 + (1 : Int32)) h) ⟨rfl, ⟨rfl, ⟨rfl, ⟨rfl, ⟨rfl, ⟨rfl, trivial⟩⟩⟩⟩⟩⟩) (fun c4 => let_h (ifF c4 h) fun h => r_iload_n D_X10_allGo_60 rfl <| r_iload D_X10_allGo_61 rfl <| r_callS (av := [.int y3, .int y5]) D_X10_allGo_63 ml_X10_155 mf_X10_isOf ms_X10_isOf (x_X10_isOf rfl) (Nat.le_of_ble_eq_true rfl) rfl rfl (Nat.le_of_ble_eq_true rfl) <| r_if_eq D_X10_allGo_66 (fun c5 => let_h (ifT c5 h) fun h => r_iconst D_X10_allGo_81 ki_1 <| r_goto D_X10_allGo_82 <| r_istore D_X10_allGo_86 (by decide) rfl <| r_iinc D_X10_allGo_88 rfl ki_1 (by decide) rfl <| r_goto D_X10_allGo_91 <| r_ls (x_X10_allGo_44 hq hK_15 n y1 y2 y3 (1 : Int32) (y5 + (1 : Int32)) h) ⟨rfl, ⟨rfl, ⟨rfl, ⟨rfl, ⟨rfl, ⟨rfl, trivial⟩⟩⟩⟩⟩⟩) (fun c5 => let_h (ifF c5 h) fun h => r_aload_n D_X10_allGo_69 rfl <| r_getR (j := 40) D_X10_allGo_70 fl_X10_20 s_36 rfl <| r_iload D_X10_allGo_73 rfl <| (ckE h).elim fun c6 h => r_iald D_X10_allGo_75 s_40 c6 <| r_iload_n D_X10_allGo_76 rfl <| r_iand D_X10_allGo_77 <| r_if_ne D_X10_allGo_78 (fun c7 => let_h (ifT c7 h) fun h => r_iconst D_X10_allGo_81 ki_1 <| r_goto D_X10_allGo_82 <| r_istore D_X10_allGo_86 (by decide) rfl <| r_iinc D_X10_allGo_88 rfl ki_1 (by decide) rfl <| r_goto D_X10_allGo_91 <| r_ls (x_X10_allGo_44 hq hK_15 n y1 y2 y3 (1 : Int32) (y5 + (1 : Int32)) h) ⟨rfl, ⟨rfl, ⟨rfl, ⟨rfl, ⟨rfl, ⟨rfl, trivial⟩⟩⟩⟩⟩⟩) (fun c7 => let_h (ifF c7 h) fun h => r_iconst D_X10_allGo_85 ki_0 <| r_istore D_X10_allGo_86 (by decide) rfl <| r_iinc D_X10_allGo_88 rfl ki_1 (by decide) rfl <| r_goto D_X10_allGo_91 <| r_ls (x_X10_allGo_44 hq hK_15 n y1 y2 y3 (0 : Int32) (y5 + (1 : Int32)) h) ⟨rfl, ⟨rfl, ⟨rfl, ⟨rfl, ⟨rfl, ⟨rfl, trivial⟩⟩⟩⟩⟩⟩))))
def f_X10_allGo_15 (F : Nat) (M : Mem) : Nat → Int32 → Int32 → Int32 → Option Int32
  | 0, _, _, _ => none
  | n + 1, y1, y2, y3 => (f_X10_allThings M).bind fun x1 => if x1 < y3 then (if y1 = 0 then (some y2) else ((f_X10_bitsIn F M y2).bind fun x5 => some x5)) else ((f_X10_bitsIn F M y3).bind fun x7 => (f_X10_bitsIn F M y2).bind fun x9 => if x7 ≤ x9 then (f_X10_allGo_44 F M (fun y1 y2 y3 => f_X10_allGo_15 F M n y1 y2 y3) F y1 y2 y3 (0 : Int32) (0 : Int32)) else (f_X10_allGo_44 F M (fun y1 y2 y3 => f_X10_allGo_15 F M n y1 y2 y3) F y1 y2 y3 (1 : Int32) (0 : Int32)))
theorem x_X10_allGo_15 {l : Launch} {w : Wd} {κ : Kp} {F : Nat} {M : Mem} {v : Int32} (hq : RQ w (some (.int v), M) κ) : ∀ (n : Nat) (y1 : Int32) (y2 : Int32) (y3 : Int32), f_X10_allGo_15 F M n y1 y2 y3 = some v → RR l w mi_X10_allGo (1) κ 15 [] [some (.ref (wq w 36)), some (.int y1), some (.int y2), some (.int y3), none, none] M
  | 0, _, _, _, h => nomatch h
  | n + 1, y1, y2, y3, h => let_h (show ((f_X10_allThings M).bind fun x1 => if x1 < y3 then (if y1 = 0 then (some y2) else ((f_X10_bitsIn F M y2).bind fun x5 => some x5)) else ((f_X10_bitsIn F M y3).bind fun x7 => (f_X10_bitsIn F M y2).bind fun x9 => if x7 ≤ x9 then (f_X10_allGo_44 F M (fun y1 y2 y3 => f_X10_allGo_15 F M n y1 y2 y3) F y1 y2 y3 (0 : Int32) (0 : Int32)) else (f_X10_allGo_44 F M (fun y1 y2 y3 => f_X10_allGo_15 F M n y1 y2 y3) F y1 y2 y3 (1 : Int32) (0 : Int32)))) = some v from h) fun h => r_iload_n D_X10_allGo_15 rfl <| r_aload_n D_X10_allGo_16 rfl <| (bdE h).elim fun x1 q2 => let_h q2.2 fun h => r_callV (av := []) D_X10_allGo_17 ml_X10_139 mf_X10_allThings mv_X10_allThings s_36 rfl rfl (x_X10_allThings q2.1) (Nat.le_of_ble_eq_true rfl) rfl rfl (Nat.le_of_ble_eq_true rfl) <| r_icmp_gt D_X10_allGo_20 (fun c3 => let_h (ifT c3 h) fun h => r_iload_n D_X10_allGo_111 rfl <| r_if_ne D_X10_allGo_112 (fun c4 => let_h (ifT c4 h) fun h => r_iload_n D_X10_allGo_115 rfl <| r_goto D_X10_allGo_116 <| r_iret hq D_X10_allGo_123 rfl (rtP h)) (fun c4 => let_h (ifF c4 h) fun h => r_iload_n D_X10_allGo_119 rfl <| (bdE h).elim fun x5 q6 => let_h q6.2 fun h => r_callS (av := [.int y2]) D_X10_allGo_120 ml_X10_213 mf_X10_bitsIn ms_X10_bitsIn (x_X10_bitsIn q6.1) (Nat.le_of_ble_eq_true rfl) rfl rfl (Nat.le_of_ble_eq_true rfl) <| r_iret hq D_X10_allGo_123 rfl (rtP h))) (fun c3 => let_h (ifF c3 h) fun h => r_iload_n D_X10_allGo_23 rfl <| (bdE h).elim fun x7 q8 => let_h q8.2 fun h => r_callS (av := [.int y3]) D_X10_allGo_24 ml_X10_213 mf_X10_bitsIn ms_X10_bitsIn (x_X10_bitsIn q8.1) (Nat.le_of_ble_eq_true rfl) rfl rfl (Nat.le_of_ble_eq_true rfl) <| r_iload_n D_X10_allGo_27 rfl <| (bdE h).elim fun x9 q10 => let_h q10.2 fun h => r_callS (av := [.int y2]) D_X10_allGo_28 ml_X10_213 mf_X10_bitsIn ms_X10_bitsIn (x_X10_bitsIn q10.1) (Nat.le_of_ble_eq_true rfl) rfl rfl (Nat.le_of_ble_eq_true rfl) <| r_icmp_le D_X10_allGo_31 (fun c11 => let_h (ifT c11 h) fun h => r_iconst D_X10_allGo_38 ki_0 <| r_istore D_X10_allGo_39 (by decide) rfl <| r_iconst D_X10_allGo_41 ki_0 <| r_istore D_X10_allGo_42 (by decide) rfl <| r_ls (x_X10_allGo_44 hq (fun y1 y2 y3 h => x_X10_allGo_15 hq n y1 y2 y3 h) F y1 y2 y3 (0 : Int32) (0 : Int32) h) ⟨rfl, ⟨rfl, ⟨rfl, ⟨rfl, ⟨rfl, ⟨rfl, trivial⟩⟩⟩⟩⟩⟩) (fun c11 => let_h (ifF c11 h) fun h => r_iconst D_X10_allGo_34 ki_1 <| r_goto D_X10_allGo_35 <| r_istore D_X10_allGo_39 (by decide) rfl <| r_iconst D_X10_allGo_41 ki_0 <| r_istore D_X10_allGo_42 (by decide) rfl <| r_ls (x_X10_allGo_44 hq (fun y1 y2 y3 h => x_X10_allGo_15 hq n y1 y2 y3 h) F y1 y2 y3 (1 : Int32) (0 : Int32) h) ⟨rfl, ⟨rfl, ⟨rfl, ⟨rfl, ⟨rfl, ⟨rfl, trivial⟩⟩⟩⟩⟩⟩))
def f_X10_allGo (F : Nat) (M : Mem) (a1 : Int32) : Option Int32 := if (f_X10_in M a1 (0 : Int32) (1 : Int32)) = 0 then (some (-1 : Int32)) else (f_X10_allGo_15 F M F a1 (0 : Int32) (0 : Int32))
theorem x_X10_allGo {l : Launch} {w : Wd} {F : Nat} {M : Mem} {a1 : Int32} {v : Int32} (h : f_X10_allGo F M a1 = some v) : Cn l w mi_X10_allGo yX10_allGo (1) [.ref (wq w 36), .int a1] M (some (.int v), M) :=
  Cn_of (loc0 := [some (.ref (wq w 36)), some (.int a1), none, none, none, none]) rfl rfl rfl (Nat.le_of_ble_eq_true rfl) fun κ hq => let_h (show (if (f_X10_in M a1 (0 : Int32) (1 : Int32)) = 0 then (some (-1 : Int32)) else (f_X10_allGo_15 F M F a1 (0 : Int32) (0 : Int32))) = some v from h) fun h => r_iload_n D_X10_allGo_0 rfl <| r_iconst D_X10_allGo_1 ki_0 <| r_iconst D_X10_allGo_2 ki_1 <| r_callS (av := [.int a1, .int (0 : Int32), .int (1 : Int32)]) D_X10_allGo_3 ml_X10_78 mf_X10_in ms_X10_in (x_X10_in rfl) (Nat.le_of_ble_eq_true rfl) rfl rfl (Nat.le_of_ble_eq_true rfl) <| r_if_ne D_X10_allGo_6 (fun c1 => let_h (ifT c1 h) fun h => r_iconst D_X10_allGo_9 ki_m1 <| r_iret hq D_X10_allGo_10 rfl (rtP h)) (fun c1 => let_h (ifF c1 h) fun h => r_iconst D_X10_allGo_11 ki_0 <| r_istore_n D_X10_allGo_12 (by decide) rfl <| r_iconst D_X10_allGo_13 ki_0 <| r_istore_n D_X10_allGo_14 (by decide) rfl <| r_ls (x_X10_allGo_15 hq F a1 (0 : Int32) (0 : Int32) h) ⟨rfl, ⟨rfl, ⟨rfl, ⟨rfl, trivial⟩⟩⟩⟩)
-- X10_again
theorem D_X10_again_0 : Dec mi_X10_again 0 (.aload_n 0) 1 1 := ⟨by decide +kernel, rfl⟩
theorem D_X10_again_1 : Dec mi_X10_again 1 (.getfield 23) 3 4 := ⟨by decide +kernel, rfl⟩
theorem D_X10_again_4 : Dec mi_X10_again 4 (.iconst 0) 1 5 := ⟨by decide +kernel, rfl⟩
theorem D_X10_again_5 : Dec mi_X10_again 5 (.iaload) 1 6 := ⟨by decide +kernel, rfl⟩
theorem D_X10_again_6 : DecJ mi_X10_again 6 (.ifCond .ne 6) (6) 9 12 := ⟨by decide +kernel, rfl, by decide⟩
theorem D_X10_again_9 : Dec mi_X10_again 9 (.bipush (-2)) 2 11 := ⟨by decide +kernel, rfl⟩
theorem D_X10_again_11 : Dec mi_X10_again 11 (.ireturn) 1 12 := ⟨by decide +kernel, rfl⟩
theorem D_X10_again_12 : Dec mi_X10_again 12 (.iload_n 1) 1 13 := ⟨by decide +kernel, rfl⟩
theorem D_X10_again_13 : Dec mi_X10_again 13 (.aload_n 0) 1 14 := ⟨by decide +kernel, rfl⟩
theorem D_X10_again_14 : Dec mi_X10_again 14 (.invokevirtual 139) 3 17 := ⟨by decide +kernel, rfl⟩
theorem D_X10_again_17 : Dec mi_X10_again 17 (.iand) 1 18 := ⟨by decide +kernel, rfl⟩
theorem D_X10_again_18 : Dec mi_X10_again 18 (.istore_n 2) 1 19 := ⟨by decide +kernel, rfl⟩
theorem D_X10_again_19 : Dec mi_X10_again 19 (.iconst 0) 1 20 := ⟨by decide +kernel, rfl⟩
theorem D_X10_again_20 : Dec mi_X10_again 20 (.istore_n 3) 1 21 := ⟨by decide +kernel, rfl⟩
theorem D_X10_again_21 : Dec mi_X10_again 21 (.aload_n 0) 1 22 := ⟨by decide +kernel, rfl⟩
theorem D_X10_again_22 : Dec mi_X10_again 22 (.iconst 0) 1 23 := ⟨by decide +kernel, rfl⟩
theorem D_X10_again_23 : Dec mi_X10_again 23 (.invokevirtual 188) 3 26 := ⟨by decide +kernel, rfl⟩
theorem D_X10_again_26 : Dec mi_X10_again 26 (.iconst 1) 1 27 := ⟨by decide +kernel, rfl⟩
theorem D_X10_again_27 : Dec mi_X10_again 27 (.istore 4) 2 29 := ⟨by decide +kernel, rfl⟩
theorem D_X10_again_29 : Dec mi_X10_again 29 (.iload 4) 2 31 := ⟨by decide +kernel, rfl⟩
theorem D_X10_again_31 : DecJ mi_X10_again 31 (.ifCond .eq 67) (67) 34 98 := ⟨by decide +kernel, rfl, by decide⟩
theorem D_X10_again_34 : Dec mi_X10_again 34 (.iload_n 3) 1 35 := ⟨by decide +kernel, rfl⟩
theorem D_X10_again_35 : Dec mi_X10_again 35 (.bipush 9) 2 37 := ⟨by decide +kernel, rfl⟩
theorem D_X10_again_37 : DecJ mi_X10_again 37 (.if_icmp .ge 61) (61) 40 98 := ⟨by decide +kernel, rfl, by decide⟩
theorem D_X10_again_40 : Dec mi_X10_again 40 (.iconst 0) 1 41 := ⟨by decide +kernel, rfl⟩
theorem D_X10_again_41 : Dec mi_X10_again 41 (.istore 5) 2 43 := ⟨by decide +kernel, rfl⟩
theorem D_X10_again_43 : Dec mi_X10_again 43 (.iload 5) 2 45 := ⟨by decide +kernel, rfl⟩
theorem D_X10_again_45 : Dec mi_X10_again 45 (.aload_n 0) 1 46 := ⟨by decide +kernel, rfl⟩
theorem D_X10_again_46 : Dec mi_X10_again 46 (.getfield 23) 3 49 := ⟨by decide +kernel, rfl⟩
theorem D_X10_again_49 : Dec mi_X10_again 49 (.iconst 0) 1 50 := ⟨by decide +kernel, rfl⟩
theorem D_X10_again_50 : Dec mi_X10_again 50 (.iaload) 1 51 := ⟨by decide +kernel, rfl⟩
theorem D_X10_again_51 : DecJ mi_X10_again 51 (.if_icmp .ge 17) (17) 54 68 := ⟨by decide +kernel, rfl, by decide⟩
theorem D_X10_again_54 : Dec mi_X10_again 54 (.aload_n 0) 1 55 := ⟨by decide +kernel, rfl⟩
theorem D_X10_again_55 : Dec mi_X10_again 55 (.iload_n 2) 1 56 := ⟨by decide +kernel, rfl⟩
theorem D_X10_again_56 : Dec mi_X10_again 56 (.iconst 0) 1 57 := ⟨by decide +kernel, rfl⟩
theorem D_X10_again_57 : Dec mi_X10_again 57 (.iload 5) 2 59 := ⟨by decide +kernel, rfl⟩
theorem D_X10_again_59 : Dec mi_X10_again 59 (.invokevirtual 191) 3 62 := ⟨by decide +kernel, rfl⟩
theorem D_X10_again_62 : Dec mi_X10_again 62 (.iinc 5 1) 3 65 := ⟨by decide +kernel, rfl⟩
theorem D_X10_again_65 : DecJ mi_X10_again 65 (.goto (-22)) (-22) 68 43 := ⟨by decide +kernel, rfl, by decide⟩
theorem D_X10_again_68 : Dec mi_X10_again 68 (.aload_n 0) 1 69 := ⟨by decide +kernel, rfl⟩
theorem D_X10_again_69 : Dec mi_X10_again 69 (.getfield 165) 3 72 := ⟨by decide +kernel, rfl⟩
theorem D_X10_again_72 : DecJ mi_X10_again 72 (.ifCond .le 7) (7) 75 79 := ⟨by decide +kernel, rfl, by decide⟩
theorem D_X10_again_75 : Dec mi_X10_again 75 (.iconst 1) 1 76 := ⟨by decide +kernel, rfl⟩
theorem D_X10_again_76 : DecJ mi_X10_again 76 (.goto 4) (4) 79 80 := ⟨by decide +kernel, rfl, by decide⟩
theorem D_X10_again_79 : Dec mi_X10_again 79 (.iconst 0) 1 80 := ⟨by decide +kernel, rfl⟩
theorem D_X10_again_80 : Dec mi_X10_again 80 (.istore 4) 2 82 := ⟨by decide +kernel, rfl⟩
theorem D_X10_again_82 : Dec mi_X10_again 82 (.iload_n 3) 1 83 := ⟨by decide +kernel, rfl⟩
theorem D_X10_again_83 : Dec mi_X10_again 83 (.iload 4) 2 85 := ⟨by decide +kernel, rfl⟩
theorem D_X10_again_85 : DecJ mi_X10_again 85 (.ifCond .eq 7) (7) 88 92 := ⟨by decide +kernel, rfl, by decide⟩
theorem D_X10_again_88 : Dec mi_X10_again 88 (.iconst 1) 1 89 := ⟨by decide +kernel, rfl⟩
theorem D_X10_again_89 : DecJ mi_X10_again 89 (.goto 4) (4) 92 93 := ⟨by decide +kernel, rfl, by decide⟩
theorem D_X10_again_92 : Dec mi_X10_again 92 (.iconst 0) 1 93 := ⟨by decide +kernel, rfl⟩
theorem D_X10_again_93 : Dec mi_X10_again 93 (.iadd) 1 94 := ⟨by decide +kernel, rfl⟩
theorem D_X10_again_94 : Dec mi_X10_again 94 (.istore_n 3) 1 95 := ⟨by decide +kernel, rfl⟩
theorem D_X10_again_95 : DecJ mi_X10_again 95 (.goto (-66)) (-66) 98 29 := ⟨by decide +kernel, rfl, by decide⟩
theorem D_X10_again_98 : Dec mi_X10_again 98 (.iload_n 3) 1 99 := ⟨by decide +kernel, rfl⟩
theorem D_X10_again_99 : Dec mi_X10_again 99 (.ireturn) 1 100 := ⟨by decide +kernel, rfl⟩
def f_X10_again_43 (F : Nat) (K_29 : Int32 → Int32 → Int32 → Mem → Option (Int32 × Mem)) : Nat → Int32 → Int32 → Int32 → Mem → Option (Int32 × Mem)
  | 0, _, _, _, _ => none
  | n + 1, y2, y3, y5, N => if ck (0 : Int32) 2 = true then (if (N.1 41 (0 : Int32).toNatClampNeg) ≤ y5 then (if (N.1 36 22) ≤ 0 then (if (0 : Int32) = 0 then (K_29 y2 (y3 + (0 : Int32)) (0 : Int32) N) else (K_29 y2 (y3 + (1 : Int32)) (0 : Int32) N)) else (if (1 : Int32) = 0 then (K_29 y2 (y3 + (0 : Int32)) (1 : Int32) N) else (K_29 y2 (y3 + (1 : Int32)) (1 : Int32) N))) else ((f_X10_goDay F N y2 (0 : Int32) y5).bind fun p6 => f_X10_again_43 F K_29 n y2 y3 (y5 + (1 : Int32)) p6)) else none
theorem x_X10_again_43 {l : Launch} {w : Wd} {κ : Kp} {F : Nat} {v : Int32 × Mem} {K_29 : Int32 → Int32 → Int32 → Mem → Option (Int32 × Mem)} (hq : RQ w (some (.int v.1), v.2) κ) (hK_29 : ∀ (y2 : Int32) (y3 : Int32) (y4 : Int32) (N : Mem), K_29 y2 y3 y4 N = some v → RR l w mi_X10_again (4) κ 29 [] [some (.ref (wq w 36)), none, some (.int y2), some (.int y3), some (.int y4), none] N) : ∀ (n : Nat) (y2 : Int32) (y3 : Int32) (y5 : Int32) (N : Mem), f_X10_again_43 F K_29 n y2 y3 y5 N = some v → RR l w mi_X10_again (4) κ 43 [] [some (.ref (wq w 36)), none, some (.int y2), some (.int y3), none, some (.int y5)] N
  | 0, _, _, _, _, h => nomatch h
  | n + 1, y2, y3, y5, N, h => let_h (show (if ck (0 : Int32) 2 = true then (if (N.1 41 (0 : Int32).toNatClampNeg) ≤ y5 then (if (N.1 36 22) ≤ 0 then (if (0 : Int32) = 0 then (K_29 y2 (y3 + (0 : Int32)) (0 : Int32) N) else (K_29 y2 (y3 + (1 : Int32)) (0 : Int32) N)) else (if (1 : Int32) = 0 then (K_29 y2 (y3 + (0 : Int32)) (1 : Int32) N) else (K_29 y2 (y3 + (1 : Int32)) (1 : Int32) N))) else ((f_X10_goDay F N y2 (0 : Int32) y5).bind fun p6 => f_X10_again_43 F K_29 n y2 y3 (y5 + (1 : Int32)) p6)) else none) = some v from h) fun h => r_iload D_X10_again_43 rfl <| r_aload_n D_X10_again_45 rfl <| r_getR (j := 41) D_X10_again_46 fl_X10_23 s_36 rfl <| r_iconst D_X10_again_49 ki_0 <| (ckE h).elim fun c1 h => r_iald D_X10_again_50 s_41 c1 <| r_icmp_ge D_X10_again_51 (fun c2 => let_h (ifT c2 h) fun h => r_aload_n D_X10_again_68 rfl <| r_getI D_X10_again_69 fl_X10_165 s_36 rfl <| r_if_le D_X10_again_72 (fun c3 => let_h (ifT c3 h) fun h => r_iconst D_X10_again_79 ki_0 <| r_istore D_X10_again_80 (by decide) rfl <| r_iload_n D_X10_again_82 rfl <| r_iload D_X10_again_83 rfl <| r_if_eq D_X10_again_85 (fun c4 => let_h (ifT c4 h) fun h => r_iconst D_X10_again_92 ki_0 <| r_iadd D_X10_again_93 <| r_istore_n D_X10_again_94 (by decide) rfl <| r_goto D_X10_again_95 <| r_ls (hK_29 y2 (y3 + (0 : Int32)) (0 : Int32) N h) ⟨rfl, ⟨rfl, ⟨rfl, ⟨rfl, trivial⟩⟩⟩⟩) (fun c4 => let_h (ifF c4 h) fun h => r_iconst D_X10_again_88 ki_1 <| r_goto D_X10_again_89 <| r_iadd D_X10_again_93 <| r_istore_n D_X10_again_94 (by decide) rfl <| r_goto D_X10_again_95 <| r_ls (hK_29 y2 (y3 + (1 : Int32)) (0 : Int32) N h) ⟨rfl, ⟨rfl, ⟨rfl, ⟨rfl, trivial⟩⟩⟩⟩)) (fun c3 => let_h (ifF c3 h) fun h => r_iconst D_X10_again_75 ki_1 <| r_goto D_X10_again_76 <| r_istore D_X10_again_80 (by decide) rfl <| r_iload_n D_X10_again_82 rfl <| r_iload D_X10_again_83 rfl <| r_if_eq D_X10_again_85 (fun c5 => let_h (ifT c5 h) fun h => r_iconst D_X10_again_92 ki_0 <| r_iadd D_X10_again_93 <| r_istore_n D_X10_again_94 (by decide) rfl <| r_goto D_X10_again_95 <| r_ls (hK_29 y2 (y3 + (0 : Int32)) (1 : Int32) N h) ⟨rfl, ⟨rfl, ⟨rfl, ⟨rfl, trivial⟩⟩⟩⟩) (fun c5 => let_h (ifF c5 h) fun h => r_iconst D_X10_again_88 ki_1 <| r_goto D_X10_again_89 <| r_iadd D_X10_again_93 <| r_istore_n D_X10_again_94 (by decide) rfl <| r_goto D_X10_again_95 <| r_ls (hK_29 y2 (y3 + (1 : Int32)) (1 : Int32) N h) ⟨rfl, ⟨rfl, ⟨rfl, ⟨rfl, trivial⟩⟩⟩⟩))) (fun c2 => let_h (ifF c2 h) fun h => r_aload_n D_X10_again_54 rfl <| r_iload_n D_X10_again_55 rfl <| r_iconst D_X10_again_56 ki_0 <| r_iload D_X10_again_57 rfl <| (bdE h).elim fun p6 q7 => let_h q7.2 fun h => r_callV (av := [.int y2, .int (0 : Int32), .int y5]) D_X10_again_59 ml_X10_191 mf_X10_goDay mv_X10_goDay s_36 rfl rfl (x_X10_goDay q7.1) (Nat.le_of_ble_eq_true rfl) rfl rfl (Nat.le_of_ble_eq_true rfl) <| r_iinc D_X10_again_62 rfl ki_1 (by decide) rfl <| r_goto D_X10_again_65 <| r_ls (x_X10_again_43 hq hK_29 n y2 y3 (y5 + (1 : Int32)) p6 h) ⟨rfl, ⟨rfl, ⟨rfl, ⟨rfl, trivial⟩⟩⟩⟩)
def f_X10_again_29 (F : Nat) : Nat → Int32 → Int32 → Int32 → Mem → Option (Int32 × Mem)
  | 0, _, _, _, _ => none
  | n + 1, y2, y3, y4, N => if y4 = 0 then (some (y3, N)) else (if (9 : Int32) ≤ y3 then (some (y3, N)) else (f_X10_again_43 F (fun y2 y3 y4 N => f_X10_again_29 F n y2 y3 y4 N) F y2 y3 (0 : Int32) N))
theorem x_X10_again_29 {l : Launch} {w : Wd} {κ : Kp} {F : Nat} {v : Int32 × Mem} (hq : RQ w (some (.int v.1), v.2) κ) : ∀ (n : Nat) (y2 : Int32) (y3 : Int32) (y4 : Int32) (N : Mem), f_X10_again_29 F n y2 y3 y4 N = some v → RR l w mi_X10_again (4) κ 29 [] [some (.ref (wq w 36)), none, some (.int y2), some (.int y3), some (.int y4), none] N
  | 0, _, _, _, _, h => nomatch h
  | n + 1, y2, y3, y4, N, h => let_h (show (if y4 = 0 then (some (y3, N)) else (if (9 : Int32) ≤ y3 then (some (y3, N)) else (f_X10_again_43 F (fun y2 y3 y4 N => f_X10_again_29 F n y2 y3 y4 N) F y2 y3 (0 : Int32) N))) = some v from h) fun h => r_iload D_X10_again_29 rfl <| r_if_eq D_X10_again_31 (fun c1 => let_h (ifT c1 h) fun h => r_iload_n D_X10_again_98 rfl <| r_iret hq D_X10_again_99 rfl (rtW h)) (fun c1 => let_h (ifF c1 h) fun h => r_iload_n D_X10_again_34 rfl <| r_bipush D_X10_again_35 k8_9 <| r_icmp_ge D_X10_again_37 (fun c2 => let_h (ifT c2 h) fun h => r_iload_n D_X10_again_98 rfl <| r_iret hq D_X10_again_99 rfl (rtW h)) (fun c2 => let_h (ifF c2 h) fun h => r_iconst D_X10_again_40 ki_0 <| r_istore D_X10_again_41 (by decide) rfl <| r_ls (x_X10_again_43 hq (fun y2 y3 y4 N h => x_X10_again_29 hq n y2 y3 y4 N h) F y2 y3 (0 : Int32) N h) ⟨rfl, ⟨rfl, ⟨rfl, ⟨rfl, trivial⟩⟩⟩⟩))
def f_X10_again (F : Nat) (M : Mem) (a1 : Int32) : Option (Int32 × Mem) := if ck (0 : Int32) 2 = true then (if (M.1 41 (0 : Int32).toNatClampNeg) = 0 then (some ((-2 : Int32), M)) else ((f_X10_allThings M).bind fun x3 => (f_X10_begin M (0 : Int32)).bind fun p5 => f_X10_again_29 F F (a1 &&& x3) (0 : Int32) (1 : Int32) p5)) else none
theorem x_X10_again {l : Launch} {w : Wd} {F : Nat} {M : Mem} {a1 : Int32} {v : Int32 × Mem} (h : f_X10_again F M a1 = some v) : Cn l w mi_X10_again yX10_again (4) [.ref (wq w 36), .int a1] M (some (.int v.1), v.2) :=
  Cn_of (loc0 := [some (.ref (wq w 36)), some (.int a1), none, none, none, none]) rfl rfl rfl (Nat.le_of_ble_eq_true rfl) fun κ hq => let_h (show (if ck (0 : Int32) 2 = true then (if (M.1 41 (0 : Int32).toNatClampNeg) = 0 then (some ((-2 : Int32), M)) else ((f_X10_allThings M).bind fun x3 => (f_X10_begin M (0 : Int32)).bind fun p5 => f_X10_again_29 F F (a1 &&& x3) (0 : Int32) (1 : Int32) p5)) else none) = some v from h) fun h => r_aload_n D_X10_again_0 rfl <| r_getR (j := 41) D_X10_again_1 fl_X10_23 s_36 rfl <| r_iconst D_X10_again_4 ki_0 <| (ckE h).elim fun c1 h => r_iald D_X10_again_5 s_41 c1 <| r_if_ne D_X10_again_6 (fun c2 => let_h (ifT c2 h) fun h => r_bipush D_X10_again_9 k8_m2 <| r_iret hq D_X10_again_11 rfl (rtW h)) (fun c2 => let_h (ifF c2 h) fun h => r_iload_n D_X10_again_12 rfl <| r_aload_n D_X10_again_13 rfl <| (bdE h).elim fun x3 q4 => let_h q4.2 fun h => r_callV (av := []) D_X10_again_14 ml_X10_139 mf_X10_allThings mv_X10_allThings s_36 rfl rfl (x_X10_allThings q4.1) (Nat.le_of_ble_eq_true rfl) rfl rfl (Nat.le_of_ble_eq_true rfl) <| r_iand D_X10_again_17 <| r_istore_n D_X10_again_18 (by decide) rfl <| r_iconst D_X10_again_19 ki_0 <| r_istore_n D_X10_again_20 (by decide) rfl <| r_aload_n D_X10_again_21 rfl <| r_iconst D_X10_again_22 ki_0 <| (bdE h).elim fun p5 q6 => let_h q6.2 fun h => r_callV (av := [.int (0 : Int32)]) D_X10_again_23 ml_X10_188 mf_X10_begin mv_X10_begin s_36 rfl rfl (x_X10_begin q6.1) (Nat.le_of_ble_eq_true rfl) rfl rfl (Nat.le_of_ble_eq_true rfl) <| r_iconst D_X10_again_26 ki_1 <| r_istore D_X10_again_27 (by decide) rfl <| r_ls (x_X10_again_29 hq F (a1 &&& x3) (0 : Int32) (1 : Int32) p5 h) ⟨rfl, ⟨rfl, ⟨rfl, ⟨rfl, trivial⟩⟩⟩⟩)
-- X10_list
theorem D_X10_list_0 : Dec mi_X10_list 0 (.iload_n 1) 1 1 := ⟨by decide +kernel, rfl⟩
theorem D_X10_list_1 : Dec mi_X10_list 1 (.iconst 0) 1 2 := ⟨by decide +kernel, rfl⟩
theorem D_X10_list_2 : Dec mi_X10_list 2 (.bipush 99) 2 4 := ⟨by decide +kernel, rfl⟩
theorem D_X10_list_4 : Dec mi_X10_list 4 (.invokestatic 78) 3 7 := ⟨by decide +kernel, rfl⟩
theorem D_X10_list_7 : DecJ mi_X10_list 7 (.ifCond .eq 12) (12) 10 19 := ⟨by decide +kernel, rfl, by decide⟩
theorem D_X10_list_10 : Dec mi_X10_list 10 (.iload_n 2) 1 11 := ⟨by decide +kernel, rfl⟩
theorem D_X10_list_11 : Dec mi_X10_list 11 (.iconst 0) 1 12 := ⟨by decide +kernel, rfl⟩
theorem D_X10_list_12 : Dec mi_X10_list 12 (.iload_n 1) 1 13 := ⟨by decide +kernel, rfl⟩
theorem D_X10_list_13 : Dec mi_X10_list 13 (.invokestatic 78) 3 16 := ⟨by decide +kernel, rfl⟩
theorem D_X10_list_16 : DecJ mi_X10_list 16 (.ifCond .ne 5) (5) 19 21 := ⟨by decide +kernel, rfl, by decide⟩
theorem D_X10_list_19 : Dec mi_X10_list 19 (.iconst (-1)) 1 20 := ⟨by decide +kernel, rfl⟩
theorem D_X10_list_20 : Dec mi_X10_list 20 (.ireturn) 1 21 := ⟨by decide +kernel, rfl⟩
theorem D_X10_list_21 : Dec mi_X10_list 21 (.aload_n 0) 1 22 := ⟨by decide +kernel, rfl⟩
theorem D_X10_list_22 : Dec mi_X10_list 22 (.getfield 222) 3 25 := ⟨by decide +kernel, rfl⟩
theorem D_X10_list_25 : Dec mi_X10_list 25 (.bipush 20) 2 27 := ⟨by decide +kernel, rfl⟩
theorem D_X10_list_27 : DecJ mi_X10_list 27 (.if_icmp .ne 6) (6) 30 33 := ⟨by decide +kernel, rfl, by decide⟩
theorem D_X10_list_30 : Dec mi_X10_list 30 (.bipush (-3)) 2 32 := ⟨by decide +kernel, rfl⟩
theorem D_X10_list_32 : Dec mi_X10_list 32 (.ireturn) 1 33 := ⟨by decide +kernel, rfl⟩
theorem D_X10_list_33 : Dec mi_X10_list 33 (.aload_n 0) 1 34 := ⟨by decide +kernel, rfl⟩
theorem D_X10_list_34 : Dec mi_X10_list 34 (.getfield 72) 3 37 := ⟨by decide +kernel, rfl⟩
theorem D_X10_list_37 : Dec mi_X10_list 37 (.aload_n 0) 1 38 := ⟨by decide +kernel, rfl⟩
theorem D_X10_list_38 : Dec mi_X10_list 38 (.getfield 222) 3 41 := ⟨by decide +kernel, rfl⟩
theorem D_X10_list_41 : Dec mi_X10_list 41 (.iload_n 1) 1 42 := ⟨by decide +kernel, rfl⟩
theorem D_X10_list_42 : Dec mi_X10_list 42 (.iastore) 1 43 := ⟨by decide +kernel, rfl⟩
theorem D_X10_list_43 : Dec mi_X10_list 43 (.aload_n 0) 1 44 := ⟨by decide +kernel, rfl⟩
theorem D_X10_list_44 : Dec mi_X10_list 44 (.getfield 75) 3 47 := ⟨by decide +kernel, rfl⟩
theorem D_X10_list_47 : Dec mi_X10_list 47 (.aload_n 0) 1 48 := ⟨by decide +kernel, rfl⟩
theorem D_X10_list_48 : Dec mi_X10_list 48 (.getfield 222) 3 51 := ⟨by decide +kernel, rfl⟩
theorem D_X10_list_51 : Dec mi_X10_list 51 (.iload_n 2) 1 52 := ⟨by decide +kernel, rfl⟩
theorem D_X10_list_52 : Dec mi_X10_list 52 (.iastore) 1 53 := ⟨by decide +kernel, rfl⟩
theorem D_X10_list_53 : Dec mi_X10_list 53 (.aload_n 0) 1 54 := ⟨by decide +kernel, rfl⟩
theorem D_X10_list_54 : Dec mi_X10_list 54 (.dup) 1 55 := ⟨by decide +kernel, rfl⟩
theorem D_X10_list_55 : Dec mi_X10_list 55 (.getfield 222) 3 58 := ⟨by decide +kernel, rfl⟩
theorem D_X10_list_58 : Dec mi_X10_list 58 (.iconst 1) 1 59 := ⟨by decide +kernel, rfl⟩
theorem D_X10_list_59 : Dec mi_X10_list 59 (.iadd) 1 60 := ⟨by decide +kernel, rfl⟩
theorem D_X10_list_60 : Dec mi_X10_list 60 (.putfield 222) 3 63 := ⟨by decide +kernel, rfl⟩
theorem D_X10_list_63 : Dec mi_X10_list 63 (.aload_n 0) 1 64 := ⟨by decide +kernel, rfl⟩
theorem D_X10_list_64 : Dec mi_X10_list 64 (.getfield 222) 3 67 := ⟨by decide +kernel, rfl⟩
theorem D_X10_list_67 : Dec mi_X10_list 67 (.ireturn) 1 68 := ⟨by decide +kernel, rfl⟩
def f_X10_list (M : Mem) (a1 : Int32) (a2 : Int32) : Option (Int32 × Mem) := if (f_X10_in M a1 (0 : Int32) (99 : Int32)) = 0 then (some ((-1 : Int32), M)) else (if (f_X10_in M a2 (0 : Int32) a1) = 0 then (some ((-1 : Int32), M)) else (if (M.1 36 30) = (20 : Int32) then (some ((-3 : Int32), M)) else (if ck (M.1 36 30) 20 = true then (vlet (setI M 57 (M.1 36 30).toNatClampNeg a1) fun M5 => if ck (M5.1 36 30) 20 = true then (vlet (setI M5 58 (M5.1 36 30).toNatClampNeg a2) fun M7 => vlet (setI M7 36 30 ((M7.1 36 30) + (1 : Int32))) fun M8 => some ((M8.1 36 30), M8)) else none) else none)))
theorem x_X10_list {l : Launch} {w : Wd} {M : Mem} {a1 : Int32} {a2 : Int32} {v : Int32 × Mem} (h : f_X10_list M a1 a2 = some v) : Cn l w mi_X10_list yX10_list (1) [.ref (wq w 36), .int a1, .int a2] M (some (.int v.1), v.2) :=
  Cn_of (loc0 := [some (.ref (wq w 36)), some (.int a1), some (.int a2)]) rfl rfl rfl (Nat.le_of_ble_eq_true rfl) fun κ hq => let_h (show (if (f_X10_in M a1 (0 : Int32) (99 : Int32)) = 0 then (some ((-1 : Int32), M)) else (if (f_X10_in M a2 (0 : Int32) a1) = 0 then (some ((-1 : Int32), M)) else (if (M.1 36 30) = (20 : Int32) then (some ((-3 : Int32), M)) else (if ck (M.1 36 30) 20 = true then (vlet (setI M 57 (M.1 36 30).toNatClampNeg a1) fun M5 => if ck (M5.1 36 30) 20 = true then (vlet (setI M5 58 (M5.1 36 30).toNatClampNeg a2) fun M7 => vlet (setI M7 36 30 ((M7.1 36 30) + (1 : Int32))) fun M8 => some ((M8.1 36 30), M8)) else none) else none)))) = some v from h) fun h => r_iload_n D_X10_list_0 rfl <| r_iconst D_X10_list_1 ki_0 <| r_bipush D_X10_list_2 k8_99 <| r_callS (av := [.int a1, .int (0 : Int32), .int (99 : Int32)]) D_X10_list_4 ml_X10_78 mf_X10_in ms_X10_in (x_X10_in rfl) (Nat.le_of_ble_eq_true rfl) rfl rfl (Nat.le_of_ble_eq_true rfl) <| r_if_eq D_X10_list_7 (fun c1 => let_h (ifT c1 h) fun h => r_iconst D_X10_list_19 ki_m1 <| r_iret hq D_X10_list_20 rfl (rtW h)) (fun c1 => let_h (ifF c1 h) fun h => r_iload_n D_X10_list_10 rfl <| r_iconst D_X10_list_11 ki_0 <| r_iload_n D_X10_list_12 rfl <| r_callS (av := [.int a2, .int (0 : Int32), .int a1]) D_X10_list_13 ml_X10_78 mf_X10_in ms_X10_in (x_X10_in rfl) (Nat.le_of_ble_eq_true rfl) rfl rfl (Nat.le_of_ble_eq_true rfl) <| r_if_ne D_X10_list_16 (fun c2 => let_h (ifT c2 h) fun h => r_iconst D_X10_list_19 ki_m1 <| r_iret hq D_X10_list_20 rfl (rtW h)) (fun c2 => let_h (ifF c2 h) fun h => r_aload_n D_X10_list_21 rfl <| r_getI D_X10_list_22 fl_X10_222 s_36 rfl <| r_bipush D_X10_list_25 k8_20 <| r_icmp_ne D_X10_list_27 (fun c3 => let_h (ifT c3 h) fun h => r_bipush D_X10_list_30 k8_m3 <| r_iret hq D_X10_list_32 rfl (rtW h)) (fun c3 => let_h (ifF c3 h) fun h => r_aload_n D_X10_list_33 rfl <| r_getR (j := 57) D_X10_list_34 fl_X10_72 s_36 rfl <| r_aload_n D_X10_list_37 rfl <| r_getI D_X10_list_38 fl_X10_222 s_36 rfl <| r_iload_n D_X10_list_41 rfl <| (ckE h).elim fun c4 h => r_iast D_X10_list_42 s_57 c4 <| mlE h fun M5 h => r_aload_n D_X10_list_43 rfl <| r_getR (j := 58) D_X10_list_44 fl_X10_75 s_36 rfl <| r_aload_n D_X10_list_47 rfl <| r_getI D_X10_list_48 fl_X10_222 s_36 rfl <| r_iload_n D_X10_list_51 rfl <| (ckE h).elim fun c6 h => r_iast D_X10_list_52 s_58 c6 <| mlE h fun M7 h => r_aload_n D_X10_list_53 rfl <| r_dup D_X10_list_54 rfl <| r_getI D_X10_list_55 fl_X10_222 s_36 rfl <| r_iconst D_X10_list_58 ki_1 <| r_iadd D_X10_list_59 <| r_putI D_X10_list_60 fp_X10_222 s_36 rfl rfl rfl <| mlE h fun M8 h => r_aload_n D_X10_list_63 rfl <| r_getI D_X10_list_64 fl_X10_222 s_36 rfl <| r_iret hq D_X10_list_67 rfl (rtW h))))
-- X10_common
theorem D_X10_common_0 : Dec mi_X10_common 0 (.iload_n 0) 1 1 := ⟨by decide +kernel, rfl⟩
theorem D_X10_common_1 : Dec mi_X10_common 1 (.istore_n 2) 1 2 := ⟨by decide +kernel, rfl⟩
theorem D_X10_common_2 : Dec mi_X10_common 2 (.iload_n 1) 1 3 := ⟨by decide +kernel, rfl⟩
theorem D_X10_common_3 : Dec mi_X10_common 3 (.istore_n 3) 1 4 := ⟨by decide +kernel, rfl⟩
theorem D_X10_common_4 : Dec mi_X10_common 4 (.iload_n 3) 1 5 := ⟨by decide +kernel, rfl⟩
theorem D_X10_common_5 : DecJ mi_X10_common 5 (.ifCond .eq 16) (16) 8 21 := ⟨by decide +kernel, rfl, by decide⟩
theorem D_X10_common_8 : Dec mi_X10_common 8 (.iload_n 2) 1 9 := ⟨by decide +kernel, rfl⟩
theorem D_X10_common_9 : Dec mi_X10_common 9 (.iload_n 3) 1 10 := ⟨by decide +kernel, rfl⟩
theorem D_X10_common_10 : Dec mi_X10_common 10 (.irem) 1 11 := ⟨by decide +kernel, rfl⟩
theorem D_X10_common_11 : Dec mi_X10_common 11 (.istore 4) 2 13 := ⟨by decide +kernel, rfl⟩
theorem D_X10_common_13 : Dec mi_X10_common 13 (.iload_n 3) 1 14 := ⟨by decide +kernel, rfl⟩
theorem D_X10_common_14 : Dec mi_X10_common 14 (.istore_n 2) 1 15 := ⟨by decide +kernel, rfl⟩
theorem D_X10_common_15 : Dec mi_X10_common 15 (.iload 4) 2 17 := ⟨by decide +kernel, rfl⟩
theorem D_X10_common_17 : Dec mi_X10_common 17 (.istore_n 3) 1 18 := ⟨by decide +kernel, rfl⟩
theorem D_X10_common_18 : DecJ mi_X10_common 18 (.goto (-14)) (-14) 21 4 := ⟨by decide +kernel, rfl, by decide⟩
theorem D_X10_common_21 : Dec mi_X10_common 21 (.iload_n 2) 1 22 := ⟨by decide +kernel, rfl⟩
theorem D_X10_common_22 : Dec mi_X10_common 22 (.ireturn) 1 23 := ⟨by decide +kernel, rfl⟩
def f_X10_common_4 (F : Nat) (M : Mem) : Nat → Int32 → Int32 → Option Int32
  | 0, _, _ => none
  | n + 1, y2, y3 => if y3 = 0 then (some y2) else (if y3 = 0 then none else f_X10_common_4 F M n y3 (y2 - y2 / y3 * y3))
theorem x_X10_common_4 {l : Launch} {w : Wd} {κ : Kp} {F : Nat} {M : Mem} {v : Int32} (hq : RQ w (some (.int v), M) κ) : ∀ (n : Nat) (y2 : Int32) (y3 : Int32), f_X10_common_4 F M n y2 y3 = some v → RR l w mi_X10_common (0) κ 4 [] [none, none, some (.int y2), some (.int y3), none] M
  | 0, _, _, h => nomatch h
  | n + 1, y2, y3, h => let_h (show (if y3 = 0 then (some y2) else (if y3 = 0 then none else f_X10_common_4 F M n y3 (y2 - y2 / y3 * y3))) = some v from h) fun h => r_iload_n D_X10_common_4 rfl <| r_if_eq D_X10_common_5 (fun c1 => let_h (ifT c1 h) fun h => r_iload_n D_X10_common_21 rfl <| r_iret hq D_X10_common_22 rfl (rtP h)) (fun c1 => let_h (ifF c1 h) fun h => r_iload_n D_X10_common_8 rfl <| r_iload_n D_X10_common_9 rfl <| (nzE h).elim fun c2 h => r_irem D_X10_common_10 c2 <| r_istore D_X10_common_11 (by decide) rfl <| r_iload_n D_X10_common_13 rfl <| r_istore_n D_X10_common_14 (by decide) rfl <| r_iload D_X10_common_15 rfl <| r_istore_n D_X10_common_17 (by decide) rfl <| r_goto D_X10_common_18 <| r_ls (x_X10_common_4 hq n y3 (y2 - y2 / y3 * y3) h) ⟨rfl, ⟨rfl, trivial⟩⟩)
def f_X10_common (F : Nat) (M : Mem) (a1 : Int32) (a2 : Int32) : Option Int32 := f_X10_common_4 F M F a1 a2
theorem x_X10_common {l : Launch} {w : Wd} {F : Nat} {M : Mem} {a1 : Int32} {a2 : Int32} {v : Int32} (h : f_X10_common F M a1 a2 = some v) : Cn l w mi_X10_common yX10_common (0) [.int a1, .int a2] M (some (.int v), M) :=
  Cn_of (loc0 := [some (.int a1), some (.int a2), none, none, none]) rfl rfl rfl (Nat.le_of_ble_eq_true rfl) fun κ hq => let_h (show (f_X10_common_4 F M F a1 a2) = some v from h) fun h => r_iload_n D_X10_common_0 rfl <| r_istore_n D_X10_common_1 (by decide) rfl <| r_iload_n D_X10_common_2 rfl <| r_istore_n D_X10_common_3 (by decide) rfl <| r_ls (x_X10_common_4 hq F a1 a2 h) ⟨rfl, ⟨rfl, trivial⟩⟩
-- X10_upTo
theorem D_X10_upTo_0 : Dec mi_X10_upTo 0 (.iconst 0) 1 1 := ⟨by decide +kernel, rfl⟩
theorem D_X10_upTo_1 : Dec mi_X10_upTo 1 (.istore_n 2) 1 2 := ⟨by decide +kernel, rfl⟩
theorem D_X10_upTo_2 : Dec mi_X10_upTo 2 (.iconst 0) 1 3 := ⟨by decide +kernel, rfl⟩
theorem D_X10_upTo_3 : Dec mi_X10_upTo 3 (.istore_n 3) 1 4 := ⟨by decide +kernel, rfl⟩
theorem D_X10_upTo_4 : Dec mi_X10_upTo 4 (.iload_n 3) 1 5 := ⟨by decide +kernel, rfl⟩
theorem D_X10_upTo_5 : Dec mi_X10_upTo 5 (.aload_n 0) 1 6 := ⟨by decide +kernel, rfl⟩
theorem D_X10_upTo_6 : Dec mi_X10_upTo 6 (.getfield 222) 3 9 := ⟨by decide +kernel, rfl⟩
theorem D_X10_upTo_9 : DecJ mi_X10_upTo 9 (.if_icmp .ge 27) (27) 12 36 := ⟨by decide +kernel, rfl, by decide⟩
theorem D_X10_upTo_12 : Dec mi_X10_upTo 12 (.iload_n 2) 1 13 := ⟨by decide +kernel, rfl⟩
theorem D_X10_upTo_13 : Dec mi_X10_upTo 13 (.aload_n 0) 1 14 := ⟨by decide +kernel, rfl⟩
theorem D_X10_upTo_14 : Dec mi_X10_upTo 14 (.getfield 75) 3 17 := ⟨by decide +kernel, rfl⟩
theorem D_X10_upTo_17 : Dec mi_X10_upTo 17 (.iload_n 3) 1 18 := ⟨by decide +kernel, rfl⟩
theorem D_X10_upTo_18 : Dec mi_X10_upTo 18 (.iaload) 1 19 := ⟨by decide +kernel, rfl⟩
theorem D_X10_upTo_19 : Dec mi_X10_upTo 19 (.iload_n 1) 1 20 := ⟨by decide +kernel, rfl⟩
theorem D_X10_upTo_20 : DecJ mi_X10_upTo 20 (.if_icmp .gt 7) (7) 23 27 := ⟨by decide +kernel, rfl, by decide⟩
theorem D_X10_upTo_23 : Dec mi_X10_upTo 23 (.iconst 1) 1 24 := ⟨by decide +kernel, rfl⟩
theorem D_X10_upTo_24 : DecJ mi_X10_upTo 24 (.goto 4) (4) 27 28 := ⟨by decide +kernel, rfl, by decide⟩
theorem D_X10_upTo_27 : Dec mi_X10_upTo 27 (.iconst 0) 1 28 := ⟨by decide +kernel, rfl⟩
theorem D_X10_upTo_28 : Dec mi_X10_upTo 28 (.iadd) 1 29 := ⟨by decide +kernel, rfl⟩
theorem D_X10_upTo_29 : Dec mi_X10_upTo 29 (.istore_n 2) 1 30 := ⟨by decide +kernel, rfl⟩
theorem D_X10_upTo_30 : Dec mi_X10_upTo 30 (.iinc 3 1) 3 33 := ⟨by decide +kernel, rfl⟩
theorem D_X10_upTo_33 : DecJ mi_X10_upTo 33 (.goto (-29)) (-29) 36 4 := ⟨by decide +kernel, rfl, by decide⟩
theorem D_X10_upTo_36 : Dec mi_X10_upTo 36 (.iload_n 2) 1 37 := ⟨by decide +kernel, rfl⟩
theorem D_X10_upTo_37 : Dec mi_X10_upTo 37 (.ireturn) 1 38 := ⟨by decide +kernel, rfl⟩
def f_X10_upTo_4 (F : Nat) (M : Mem) : Nat → Int32 → Int32 → Int32 → Option Int32
  | 0, _, _, _ => none
  | n + 1, y1, y2, y3 => if (M.1 36 30) ≤ y3 then (some y2) else (if ck y3 20 = true then (if y1 < (M.1 58 y3.toNatClampNeg) then (f_X10_upTo_4 F M n y1 (y2 + (0 : Int32)) (y3 + (1 : Int32))) else (f_X10_upTo_4 F M n y1 (y2 + (1 : Int32)) (y3 + (1 : Int32)))) else none)
theorem x_X10_upTo_4 {l : Launch} {w : Wd} {κ : Kp} {F : Nat} {M : Mem} {v : Int32} (hq : RQ w (some (.int v), M) κ) : ∀ (n : Nat) (y1 : Int32) (y2 : Int32) (y3 : Int32), f_X10_upTo_4 F M n y1 y2 y3 = some v → RR l w mi_X10_upTo (0) κ 4 [] [some (.ref (wq w 36)), some (.int y1), some (.int y2), some (.int y3)] M
  | 0, _, _, _, h => nomatch h
  | n + 1, y1, y2, y3, h => let_h (show (if (M.1 36 30) ≤ y3 then (some y2) else (if ck y3 20 = true then (if y1 < (M.1 58 y3.toNatClampNeg) then (f_X10_upTo_4 F M n y1 (y2 + (0 : Int32)) (y3 + (1 : Int32))) else (f_X10_upTo_4 F M n y1 (y2 + (1 : Int32)) (y3 + (1 : Int32)))) else none)) = some v from h) fun h => r_iload_n D_X10_upTo_4 rfl <| r_aload_n D_X10_upTo_5 rfl <| r_getI D_X10_upTo_6 fl_X10_222 s_36 rfl <| r_icmp_ge D_X10_upTo_9 (fun c1 => let_h (ifT c1 h) fun h => r_iload_n D_X10_upTo_36 rfl <| r_iret hq D_X10_upTo_37 rfl (rtP h)) (fun c1 => let_h (ifF c1 h) fun h => r_iload_n D_X10_upTo_12 rfl <| r_aload_n D_X10_upTo_13 rfl <| r_getR (j := 58) D_X10_upTo_14 fl_X10_75 s_36 rfl <| r_iload_n D_X10_upTo_17 rfl <| (ckE h).elim fun c2 h => r_iald D_X10_upTo_18 s_58 c2 <| r_iload_n D_X10_upTo_19 rfl <| r_icmp_gt D_X10_upTo_20 (fun c3 => let_h (ifT c3 h) fun h => r_iconst D_X10_upTo_27 ki_0 <| r_iadd D_X10_upTo_28 <| r_istore_n D_X10_upTo_29 (by decide) rfl <| r_iinc D_X10_upTo_30 rfl ki_1 (by decide) rfl <| r_goto D_X10_upTo_33 <| r_ls (x_X10_upTo_4 hq n y1 (y2 + (0 : Int32)) (y3 + (1 : Int32)) h) ⟨rfl, ⟨rfl, ⟨rfl, ⟨rfl, trivial⟩⟩⟩⟩) (fun c3 => let_h (ifF c3 h) fun h => r_iconst D_X10_upTo_23 ki_1 <| r_goto D_X10_upTo_24 <| r_iadd D_X10_upTo_28 <| r_istore_n D_X10_upTo_29 (by decide) rfl <| r_iinc D_X10_upTo_30 rfl ki_1 (by decide) rfl <| r_goto D_X10_upTo_33 <| r_ls (x_X10_upTo_4 hq n y1 (y2 + (1 : Int32)) (y3 + (1 : Int32)) h) ⟨rfl, ⟨rfl, ⟨rfl, ⟨rfl, trivial⟩⟩⟩⟩))
def f_X10_upTo (F : Nat) (M : Mem) (a1 : Int32) : Option Int32 := f_X10_upTo_4 F M F a1 (0 : Int32) (0 : Int32)
theorem x_X10_upTo {l : Launch} {w : Wd} {F : Nat} {M : Mem} {a1 : Int32} {v : Int32} (h : f_X10_upTo F M a1 = some v) : Cn l w mi_X10_upTo yX10_upTo (0) [.ref (wq w 36), .int a1] M (some (.int v), M) :=
  Cn_of (loc0 := [some (.ref (wq w 36)), some (.int a1), none, none]) rfl rfl rfl (Nat.le_of_ble_eq_true rfl) fun κ hq => let_h (show (f_X10_upTo_4 F M F a1 (0 : Int32) (0 : Int32)) = some v from h) fun h => r_iconst D_X10_upTo_0 ki_0 <| r_istore_n D_X10_upTo_1 (by decide) rfl <| r_iconst D_X10_upTo_2 ki_0 <| r_istore_n D_X10_upTo_3 (by decide) rfl <| r_ls (x_X10_upTo_4 hq F a1 (0 : Int32) (0 : Int32) h) ⟨rfl, ⟨rfl, ⟨rfl, ⟨rfl, trivial⟩⟩⟩⟩
-- X10_span
theorem D_X10_span_0 : Dec mi_X10_span 0 (.iload_n 1) 1 1 := ⟨by decide +kernel, rfl⟩
theorem D_X10_span_1 : Dec mi_X10_span 1 (.iconst 0) 1 2 := ⟨by decide +kernel, rfl⟩
theorem D_X10_span_2 : Dec mi_X10_span 2 (.iconst 4) 1 3 := ⟨by decide +kernel, rfl⟩
theorem D_X10_span_3 : Dec mi_X10_span 3 (.invokestatic 78) 3 6 := ⟨by decide +kernel, rfl⟩
theorem D_X10_span_6 : DecJ mi_X10_span 6 (.ifCond .ne 5) (5) 9 11 := ⟨by decide +kernel, rfl, by decide⟩
theorem D_X10_span_9 : Dec mi_X10_span 9 (.iconst (-1)) 1 10 := ⟨by decide +kernel, rfl⟩
theorem D_X10_span_10 : Dec mi_X10_span 10 (.ireturn) 1 11 := ⟨by decide +kernel, rfl⟩
theorem D_X10_span_11 : Dec mi_X10_span 11 (.iload_n 1) 1 12 := ⟨by decide +kernel, rfl⟩
theorem D_X10_span_12 : Dec mi_X10_span 12 (.iconst 2) 1 13 := ⟨by decide +kernel, rfl⟩
theorem D_X10_span_13 : DecJ mi_X10_span 13 (.if_icmp .le 81) (81) 16 94 := ⟨by decide +kernel, rfl, by decide⟩
theorem D_X10_span_16 : Dec mi_X10_span 16 (.iconst 0) 1 17 := ⟨by decide +kernel, rfl⟩
theorem D_X10_span_17 : Dec mi_X10_span 17 (.istore_n 2) 1 18 := ⟨by decide +kernel, rfl⟩
theorem D_X10_span_18 : Dec mi_X10_span 18 (.iconst 0) 1 19 := ⟨by decide +kernel, rfl⟩
theorem D_X10_span_19 : Dec mi_X10_span 19 (.istore_n 3) 1 20 := ⟨by decide +kernel, rfl⟩
theorem D_X10_span_20 : Dec mi_X10_span 20 (.iconst 0) 1 21 := ⟨by decide +kernel, rfl⟩
theorem D_X10_span_21 : Dec mi_X10_span 21 (.istore 4) 2 23 := ⟨by decide +kernel, rfl⟩
theorem D_X10_span_23 : Dec mi_X10_span 23 (.iload 4) 2 25 := ⟨by decide +kernel, rfl⟩
theorem D_X10_span_25 : Dec mi_X10_span 25 (.aload_n 0) 1 26 := ⟨by decide +kernel, rfl⟩
theorem D_X10_span_26 : Dec mi_X10_span 26 (.getfield 222) 3 29 := ⟨by decide +kernel, rfl⟩
theorem D_X10_span_29 : DecJ mi_X10_span 29 (.if_icmp .ge 29) (29) 32 58 := ⟨by decide +kernel, rfl, by decide⟩
theorem D_X10_span_32 : Dec mi_X10_span 32 (.iload_n 2) 1 33 := ⟨by decide +kernel, rfl⟩
theorem D_X10_span_33 : Dec mi_X10_span 33 (.aload_n 0) 1 34 := ⟨by decide +kernel, rfl⟩
theorem D_X10_span_34 : Dec mi_X10_span 34 (.getfield 72) 3 37 := ⟨by decide +kernel, rfl⟩
theorem D_X10_span_37 : Dec mi_X10_span 37 (.iload 4) 2 39 := ⟨by decide +kernel, rfl⟩
theorem D_X10_span_39 : Dec mi_X10_span 39 (.iaload) 1 40 := ⟨by decide +kernel, rfl⟩
theorem D_X10_span_40 : Dec mi_X10_span 40 (.iadd) 1 41 := ⟨by decide +kernel, rfl⟩
theorem D_X10_span_41 : Dec mi_X10_span 41 (.istore_n 2) 1 42 := ⟨by decide +kernel, rfl⟩
theorem D_X10_span_42 : Dec mi_X10_span 42 (.iload_n 3) 1 43 := ⟨by decide +kernel, rfl⟩
theorem D_X10_span_43 : Dec mi_X10_span 43 (.aload_n 0) 1 44 := ⟨by decide +kernel, rfl⟩
theorem D_X10_span_44 : Dec mi_X10_span 44 (.getfield 75) 3 47 := ⟨by decide +kernel, rfl⟩
theorem D_X10_span_47 : Dec mi_X10_span 47 (.iload 4) 2 49 := ⟨by decide +kernel, rfl⟩
theorem D_X10_span_49 : Dec mi_X10_span 49 (.iaload) 1 50 := ⟨by decide +kernel, rfl⟩
theorem D_X10_span_50 : Dec mi_X10_span 50 (.iadd) 1 51 := ⟨by decide +kernel, rfl⟩
theorem D_X10_span_51 : Dec mi_X10_span 51 (.istore_n 3) 1 52 := ⟨by decide +kernel, rfl⟩
theorem D_X10_span_52 : Dec mi_X10_span 52 (.iinc 4 1) 3 55 := ⟨by decide +kernel, rfl⟩
theorem D_X10_span_55 : DecJ mi_X10_span 55 (.goto (-32)) (-32) 58 23 := ⟨by decide +kernel, rfl, by decide⟩
theorem D_X10_span_58 : Dec mi_X10_span 58 (.iload_n 2) 1 59 := ⟨by decide +kernel, rfl⟩
theorem D_X10_span_59 : DecJ mi_X10_span 59 (.ifCond .ne 7) (7) 62 66 := ⟨by decide +kernel, rfl, by decide⟩
theorem D_X10_span_62 : Dec mi_X10_span 62 (.iload_n 1) 1 63 := ⟨by decide +kernel, rfl⟩
theorem D_X10_span_63 : Dec mi_X10_span 63 (.iconst 3) 1 64 := ⟨by decide +kernel, rfl⟩
theorem D_X10_span_64 : Dec mi_X10_span 64 (.isub) 1 65 := ⟨by decide +kernel, rfl⟩
theorem D_X10_span_65 : Dec mi_X10_span 65 (.ireturn) 1 66 := ⟨by decide +kernel, rfl⟩
theorem D_X10_span_66 : Dec mi_X10_span 66 (.iload_n 2) 1 67 := ⟨by decide +kernel, rfl⟩
theorem D_X10_span_67 : Dec mi_X10_span 67 (.iload_n 3) 1 68 := ⟨by decide +kernel, rfl⟩
theorem D_X10_span_68 : Dec mi_X10_span 68 (.isub) 1 69 := ⟨by decide +kernel, rfl⟩
theorem D_X10_span_69 : Dec mi_X10_span 69 (.iload_n 2) 1 70 := ⟨by decide +kernel, rfl⟩
theorem D_X10_span_70 : Dec mi_X10_span 70 (.invokestatic 225) 3 73 := ⟨by decide +kernel, rfl⟩
theorem D_X10_span_73 : Dec mi_X10_span 73 (.istore 4) 2 75 := ⟨by decide +kernel, rfl⟩
theorem D_X10_span_75 : Dec mi_X10_span 75 (.iload_n 1) 1 76 := ⟨by decide +kernel, rfl⟩
theorem D_X10_span_76 : Dec mi_X10_span 76 (.iconst 3) 1 77 := ⟨by decide +kernel, rfl⟩
theorem D_X10_span_77 : DecJ mi_X10_span 77 (.if_icmp .ne 12) (12) 80 89 := ⟨by decide +kernel, rfl, by decide⟩
theorem D_X10_span_80 : Dec mi_X10_span 80 (.iload_n 2) 1 81 := ⟨by decide +kernel, rfl⟩
theorem D_X10_span_81 : Dec mi_X10_span 81 (.iload_n 3) 1 82 := ⟨by decide +kernel, rfl⟩
theorem D_X10_span_82 : Dec mi_X10_span 82 (.isub) 1 83 := ⟨by decide +kernel, rfl⟩
theorem D_X10_span_83 : Dec mi_X10_span 83 (.iload 4) 2 85 := ⟨by decide +kernel, rfl⟩
theorem D_X10_span_85 : Dec mi_X10_span 85 (.idiv) 1 86 := ⟨by decide +kernel, rfl⟩
theorem D_X10_span_86 : DecJ mi_X10_span 86 (.goto 7) (7) 89 93 := ⟨by decide +kernel, rfl, by decide⟩
theorem D_X10_span_89 : Dec mi_X10_span 89 (.iload_n 2) 1 90 := ⟨by decide +kernel, rfl⟩
theorem D_X10_span_90 : Dec mi_X10_span 90 (.iload 4) 2 92 := ⟨by decide +kernel, rfl⟩
theorem D_X10_span_92 : Dec mi_X10_span 92 (.idiv) 1 93 := ⟨by decide +kernel, rfl⟩
theorem D_X10_span_93 : Dec mi_X10_span 93 (.ireturn) 1 94 := ⟨by decide +kernel, rfl⟩
theorem D_X10_span_94 : Dec mi_X10_span 94 (.aload_n 0) 1 95 := ⟨by decide +kernel, rfl⟩
theorem D_X10_span_95 : Dec mi_X10_span 95 (.getfield 222) 3 98 := ⟨by decide +kernel, rfl⟩
theorem D_X10_span_98 : DecJ mi_X10_span 98 (.ifCond .ne 6) (6) 101 104 := ⟨by decide +kernel, rfl, by decide⟩
theorem D_X10_span_101 : Dec mi_X10_span 101 (.bipush (-9)) 2 103 := ⟨by decide +kernel, rfl⟩
theorem D_X10_span_103 : Dec mi_X10_span 103 (.ireturn) 1 104 := ⟨by decide +kernel, rfl⟩
theorem D_X10_span_104 : Dec mi_X10_span 104 (.iload_n 1) 1 105 := ⟨by decide +kernel, rfl⟩
theorem D_X10_span_105 : DecJ mi_X10_span 105 (.ifCond .ne 7) (7) 108 112 := ⟨by decide +kernel, rfl, by decide⟩
theorem D_X10_span_108 : Dec mi_X10_span 108 (.iconst 1) 1 109 := ⟨by decide +kernel, rfl⟩
theorem D_X10_span_109 : DecJ mi_X10_span 109 (.goto 25) (25) 112 134 := ⟨by decide +kernel, rfl, by decide⟩
theorem D_X10_span_112 : Dec mi_X10_span 112 (.iload_n 1) 1 113 := ⟨by decide +kernel, rfl⟩
theorem D_X10_span_113 : Dec mi_X10_span 113 (.iconst 1) 1 114 := ⟨by decide +kernel, rfl⟩
theorem D_X10_span_114 : DecJ mi_X10_span 114 (.if_icmp .ne 10) (10) 117 124 := ⟨by decide +kernel, rfl, by decide⟩
theorem D_X10_span_117 : Dec mi_X10_span 117 (.aload_n 0) 1 118 := ⟨by decide +kernel, rfl⟩
theorem D_X10_span_118 : Dec mi_X10_span 118 (.getfield 222) 3 121 := ⟨by decide +kernel, rfl⟩
theorem D_X10_span_121 : DecJ mi_X10_span 121 (.goto 13) (13) 124 134 := ⟨by decide +kernel, rfl, by decide⟩
theorem D_X10_span_124 : Dec mi_X10_span 124 (.aload_n 0) 1 125 := ⟨by decide +kernel, rfl⟩
theorem D_X10_span_125 : Dec mi_X10_span 125 (.getfield 222) 3 128 := ⟨by decide +kernel, rfl⟩
theorem D_X10_span_128 : Dec mi_X10_span 128 (.iconst 1) 1 129 := ⟨by decide +kernel, rfl⟩
theorem D_X10_span_129 : Dec mi_X10_span 129 (.isub) 1 130 := ⟨by decide +kernel, rfl⟩
theorem D_X10_span_130 : Dec mi_X10_span 130 (.iconst 2) 1 131 := ⟨by decide +kernel, rfl⟩
theorem D_X10_span_131 : Dec mi_X10_span 131 (.idiv) 1 132 := ⟨by decide +kernel, rfl⟩
theorem D_X10_span_132 : Dec mi_X10_span 132 (.iconst 1) 1 133 := ⟨by decide +kernel, rfl⟩
theorem D_X10_span_133 : Dec mi_X10_span 133 (.iadd) 1 134 := ⟨by decide +kernel, rfl⟩
theorem D_X10_span_134 : Dec mi_X10_span 134 (.istore_n 2) 1 135 := ⟨by decide +kernel, rfl⟩
theorem D_X10_span_135 : Dec mi_X10_span 135 (.iconst 0) 1 136 := ⟨by decide +kernel, rfl⟩
theorem D_X10_span_136 : Dec mi_X10_span 136 (.istore_n 3) 1 137 := ⟨by decide +kernel, rfl⟩
theorem D_X10_span_137 : Dec mi_X10_span 137 (.aload_n 0) 1 138 := ⟨by decide +kernel, rfl⟩
theorem D_X10_span_138 : Dec mi_X10_span 138 (.iload_n 3) 1 139 := ⟨by decide +kernel, rfl⟩
theorem D_X10_span_139 : Dec mi_X10_span 139 (.invokevirtual 228) 3 142 := ⟨by decide +kernel, rfl⟩
theorem D_X10_span_142 : Dec mi_X10_span 142 (.iload_n 2) 1 143 := ⟨by decide +kernel, rfl⟩
theorem D_X10_span_143 : DecJ mi_X10_span 143 (.if_icmp .ge 9) (9) 146 152 := ⟨by decide +kernel, rfl, by decide⟩
theorem D_X10_span_146 : Dec mi_X10_span 146 (.iinc 3 1) 3 149 := ⟨by decide +kernel, rfl⟩
theorem D_X10_span_149 : DecJ mi_X10_span 149 (.goto (-12)) (-12) 152 137 := ⟨by decide +kernel, rfl, by decide⟩
theorem D_X10_span_152 : Dec mi_X10_span 152 (.iload_n 3) 1 153 := ⟨by decide +kernel, rfl⟩
theorem D_X10_span_153 : Dec mi_X10_span 153 (.ireturn) 1 154 := ⟨by decide +kernel, rfl⟩
def f_X10_span_23 (F : Nat) (M : Mem) : Nat → Int32 → Int32 → Int32 → Int32 → Option Int32
  | 0, _, _, _, _ => none
  | n + 1, y1, y2, y3, y4 => if (M.1 36 30) ≤ y4 then (if y2 = 0 then (some (y1 - (3 : Int32))) else ((f_X10_common F M (y2 - y3) y2).bind fun x3 => if y1 = (3 : Int32) then (if x3 = 0 then none else some ((y2 - y3) / x3)) else (if x3 = 0 then none else some (y2 / x3)))) else (if ck y4 20 = true then (if ck y4 20 = true then (f_X10_span_23 F M n y1 (y2 + (M.1 57 y4.toNatClampNeg)) (y3 + (M.1 58 y4.toNatClampNeg)) (y4 + (1 : Int32))) else none) else none)
theorem x_X10_span_23 {l : Launch} {w : Wd} {κ : Kp} {F : Nat} {M : Mem} {v : Int32} (hq : RQ w (some (.int v), M) κ) : ∀ (n : Nat) (y1 : Int32) (y2 : Int32) (y3 : Int32) (y4 : Int32), f_X10_span_23 F M n y1 y2 y3 y4 = some v → RR l w mi_X10_span (1) κ 23 [] [some (.ref (wq w 36)), some (.int y1), some (.int y2), some (.int y3), some (.int y4)] M
  | 0, _, _, _, _, h => nomatch h
  | n + 1, y1, y2, y3, y4, h => let_h (show (if (M.1 36 30) ≤ y4 then (if y2 = 0 then (some (y1 - (3 : Int32))) else ((f_X10_common F M (y2 - y3) y2).bind fun x3 => if y1 = (3 : Int32) then (if x3 = 0 then none else some ((y2 - y3) / x3)) else (if x3 = 0 then none else some (y2 / x3)))) else (if ck y4 20 = true then (if ck y4 20 = true then (f_X10_span_23 F M n y1 (y2 + (M.1 57 y4.toNatClampNeg)) (y3 + (M.1 58 y4.toNatClampNeg)) (y4 + (1 : Int32))) else none) else none)) = some v from h) fun h => r_iload D_X10_span_23 rfl <| r_aload_n D_X10_span_25 rfl <| r_getI D_X10_span_26 fl_X10_222 s_36 rfl <| r_icmp_ge D_X10_span_29 (fun c1 => let_h (ifT c1 h) fun h => r_iload_n D_X10_span_58 rfl <| r_if_ne D_X10_span_59 (fun c2 => let_h (ifT c2 h) fun h => r_iload_n D_X10_span_62 rfl <| r_iconst D_X10_span_63 ki_3 <| r_isub D_X10_span_64 <| r_iret hq D_X10_span_65 rfl (rtP h)) (fun c2 => let_h (ifF c2 h) fun h => r_iload_n D_X10_span_66 rfl <| r_iload_n D_X10_span_67 rfl <| r_isub D_X10_span_68 <| r_iload_n D_X10_span_69 rfl <| (bdE h).elim fun x3 q4 => let_h q4.2 fun h => r_callS (av := [.int (y2 - y3), .int y2]) D_X10_span_70 ml_X10_225 mf_X10_common ms_X10_common (x_X10_common q4.1) (Nat.le_of_ble_eq_true rfl) rfl rfl (Nat.le_of_ble_eq_true rfl) <| r_istore D_X10_span_73 (by decide) rfl <| r_iload_n D_X10_span_75 rfl <| r_iconst D_X10_span_76 ki_3 <| r_icmp_ne D_X10_span_77 (fun c5 => let_h (ifT c5 h) fun h => r_iload_n D_X10_span_80 rfl <| r_iload_n D_X10_span_81 rfl <| r_isub D_X10_span_82 <| r_iload D_X10_span_83 rfl <| (nzE h).elim fun c6 h => r_idiv D_X10_span_85 c6 <| r_goto D_X10_span_86 <| r_iret hq D_X10_span_93 rfl (rtP h)) (fun c5 => let_h (ifF c5 h) fun h => r_iload_n D_X10_span_89 rfl <| r_iload D_X10_span_90 rfl <| (nzE h).elim fun c7 h => r_idiv D_X10_span_92 c7 <| r_iret hq D_X10_span_93 rfl (rtP h)))) (fun c1 => let_h (ifF c1 h) fun h => r_iload_n D_X10_span_32 rfl <| r_aload_n D_X10_span_33 rfl <| r_getR (j := 57) D_X10_span_34 fl_X10_72 s_36 rfl <| r_iload D_X10_span_37 rfl <| (ckE h).elim fun c8 h => r_iald D_X10_span_39 s_57 c8 <| r_iadd D_X10_span_40 <| r_istore_n D_X10_span_41 (by decide) rfl <| r_iload_n D_X10_span_42 rfl <| r_aload_n D_X10_span_43 rfl <| r_getR (j := 58) D_X10_span_44 fl_X10_75 s_36 rfl <| r_iload D_X10_span_47 rfl <| (ckE h).elim fun c9 h => r_iald D_X10_span_49 s_58 c9 <| r_iadd D_X10_span_50 <| r_istore_n D_X10_span_51 (by decide) rfl <| r_iinc D_X10_span_52 rfl ki_1 (by decide) rfl <| r_goto D_X10_span_55 <| r_ls (x_X10_span_23 hq n y1 (y2 + (M.1 57 y4.toNatClampNeg)) (y3 + (M.1 58 y4.toNatClampNeg)) (y4 + (1 : Int32)) h) ⟨rfl, ⟨rfl, ⟨rfl, ⟨rfl, ⟨rfl, trivial⟩⟩⟩⟩⟩)
def f_X10_span_137 (F : Nat) (M : Mem) : Nat → Int32 → Int32 → Option Int32
  | 0, _, _ => none
  | n + 1, y2, y3 => (f_X10_upTo F M y3).bind fun x1 => if y2 ≤ x1 then (some y3) else (f_X10_span_137 F M n y2 (y3 + (1 : Int32)))
theorem x_X10_span_137 {l : Launch} {w : Wd} {κ : Kp} {F : Nat} {M : Mem} {v : Int32} (hq : RQ w (some (.int v), M) κ) : ∀ (n : Nat) (y2 : Int32) (y3 : Int32), f_X10_span_137 F M n y2 y3 = some v → RR l w mi_X10_span (1) κ 137 [] [some (.ref (wq w 36)), none, some (.int y2), some (.int y3), none] M
  | 0, _, _, h => nomatch h
  | n + 1, y2, y3, h => let_h (show ((f_X10_upTo F M y3).bind fun x1 => if y2 ≤ x1 then (some y3) else (f_X10_span_137 F M n y2 (y3 + (1 : Int32)))) = some v from h) fun h => r_aload_n D_X10_span_137 rfl <| r_iload_n D_X10_span_138 rfl <| (bdE h).elim fun x1 q2 => let_h q2.2 fun h => r_callV (av := [.int y3]) D_X10_span_139 ml_X10_228 mf_X10_upTo mv_X10_upTo s_36 rfl rfl (x_X10_upTo q2.1) (Nat.le_of_ble_eq_true rfl) rfl rfl (Nat.le_of_ble_eq_true rfl) <| r_iload_n D_X10_span_142 rfl <| r_icmp_ge D_X10_span_143 (fun c3 => let_h (ifT c3 h) fun h => r_iload_n D_X10_span_152 rfl <| r_iret hq D_X10_span_153 rfl (rtP h)) (fun c3 => let_h (ifF c3 h) fun h => r_iinc D_X10_span_146 rfl ki_1 (by decide) rfl <| r_goto D_X10_span_149 <| r_ls (x_X10_span_137 hq n y2 (y3 + (1 : Int32)) h) ⟨rfl, ⟨rfl, ⟨rfl, trivial⟩⟩⟩)
def f_X10_span (F : Nat) (M : Mem) (a1 : Int32) : Option Int32 := if (f_X10_in M a1 (0 : Int32) (4 : Int32)) = 0 then (some (-1 : Int32)) else (if a1 ≤ (2 : Int32) then (if (M.1 36 30) = 0 then (some (-9 : Int32)) else (if a1 = 0 then (f_X10_span_137 F M F (1 : Int32) (0 : Int32)) else (if a1 = (1 : Int32) then (f_X10_span_137 F M F (M.1 36 30) (0 : Int32)) else (vlet ((((M.1 36 30) - (1 : Int32)) / (2 : Int32)) + (1 : Int32)) fun x6 => f_X10_span_137 F M F x6 (0 : Int32))))) else (f_X10_span_23 F M F a1 (0 : Int32) (0 : Int32) (0 : Int32)))
theorem x_X10_span {l : Launch} {w : Wd} {F : Nat} {M : Mem} {a1 : Int32} {v : Int32} (h : f_X10_span F M a1 = some v) : Cn l w mi_X10_span yX10_span (1) [.ref (wq w 36), .int a1] M (some (.int v), M) :=
  Cn_of (loc0 := [some (.ref (wq w 36)), some (.int a1), none, none, none]) rfl rfl rfl (Nat.le_of_ble_eq_true rfl) fun κ hq => let_h (show (if (f_X10_in M a1 (0 : Int32) (4 : Int32)) = 0 then (some (-1 : Int32)) else (if a1 ≤ (2 : Int32) then (if (M.1 36 30) = 0 then (some (-9 : Int32)) else (if a1 = 0 then (f_X10_span_137 F M F (1 : Int32) (0 : Int32)) else (if a1 = (1 : Int32) then (f_X10_span_137 F M F (M.1 36 30) (0 : Int32)) else (vlet ((((M.1 36 30) - (1 : Int32)) / (2 : Int32)) + (1 : Int32)) fun x6 => f_X10_span_137 F M F x6 (0 : Int32))))) else (f_X10_span_23 F M F a1 (0 : Int32) (0 : Int32) (0 : Int32)))) = some v from h) fun h => r_iload_n D_X10_span_0 rfl <| r_iconst D_X10_span_1 ki_0 <| r_iconst D_X10_span_2 ki_4 <| r_callS (av := [.int a1, .int (0 : Int32), .int (4 : Int32)]) D_X10_span_3 ml_X10_78 mf_X10_in ms_X10_in (x_X10_in rfl) (Nat.le_of_ble_eq_true rfl) rfl rfl (Nat.le_of_ble_eq_true rfl) <| r_if_ne D_X10_span_6 (fun c1 => let_h (ifT c1 h) fun h => r_iconst D_X10_span_9 ki_m1 <| r_iret hq D_X10_span_10 rfl (rtP h)) (fun c1 => let_h (ifF c1 h) fun h => r_iload_n D_X10_span_11 rfl <| r_iconst D_X10_span_12 ki_2 <| r_icmp_le D_X10_span_13 (fun c2 => let_h (ifT c2 h) fun h => r_aload_n D_X10_span_94 rfl <| r_getI D_X10_span_95 fl_X10_222 s_36 rfl <| r_if_ne D_X10_span_98 (fun c3 => let_h (ifT c3 h) fun h => r_bipush D_X10_span_101 k8_m9 <| r_iret hq D_X10_span_103 rfl (rtP h)) (fun c3 => let_h (ifF c3 h) fun h => r_iload_n D_X10_span_104 rfl <| r_if_ne D_X10_span_105 (fun c4 => let_h (ifT c4 h) fun h => r_iconst D_X10_span_108 ki_1 <| r_goto D_X10_span_109 <| r_istore_n D_X10_span_134 (by decide) rfl <| r_iconst D_X10_span_135 ki_0 <| r_istore_n D_X10_span_136 (by decide) rfl <| r_ls (x_X10_span_137 hq F (1 : Int32) (0 : Int32) h) ⟨rfl, ⟨rfl, ⟨rfl, trivial⟩⟩⟩) (fun c4 => let_h (ifF c4 h) fun h => r_iload_n D_X10_span_112 rfl <| r_iconst D_X10_span_113 ki_1 <| r_icmp_ne D_X10_span_114 (fun c5 => let_h (ifT c5 h) fun h => r_aload_n D_X10_span_117 rfl <| r_getI D_X10_span_118 fl_X10_222 s_36 rfl <| r_goto D_X10_span_121 <| r_istore_n D_X10_span_134 (by decide) rfl <| r_iconst D_X10_span_135 ki_0 <| r_istore_n D_X10_span_136 (by decide) rfl <| r_ls (x_X10_span_137 hq F (M.1 36 30) (0 : Int32) h) ⟨rfl, ⟨rfl, ⟨rfl, trivial⟩⟩⟩) (fun c5 => let_h (ifF c5 h) fun h => r_aload_n D_X10_span_124 rfl <| r_getI D_X10_span_125 fl_X10_222 s_36 rfl <| r_iconst D_X10_span_128 ki_1 <| r_isub D_X10_span_129 <| r_iconst D_X10_span_130 ki_2 <| r_idiv D_X10_span_131 (by decide) <| r_iconst D_X10_span_132 ki_1 <| r_iadd D_X10_span_133 <| vlE (fun x6 => RR l w mi_X10_span (1) κ 134 [.int x6] [some (.ref (wq w 36)), some (.int a1), none, none, none] M) h fun x6 h => r_istore_n D_X10_span_134 (by decide) rfl <| r_iconst D_X10_span_135 ki_0 <| r_istore_n D_X10_span_136 (by decide) rfl <| r_ls (x_X10_span_137 hq F x6 (0 : Int32) h) ⟨rfl, ⟨rfl, ⟨rfl, trivial⟩⟩⟩)))) (fun c2 => let_h (ifF c2 h) fun h => r_iconst D_X10_span_16 ki_0 <| r_istore_n D_X10_span_17 (by decide) rfl <| r_iconst D_X10_span_18 ki_0 <| r_istore_n D_X10_span_19 (by decide) rfl <| r_iconst D_X10_span_20 ki_0 <| r_istore D_X10_span_21 (by decide) rfl <| r_ls (x_X10_span_23 hq F a1 (0 : Int32) (0 : Int32) (0 : Int32) h) ⟨rfl, ⟨rfl, ⟨rfl, ⟨rfl, ⟨rfl, trivial⟩⟩⟩⟩⟩))
-- X10_use
theorem D_X10_use_0 : Dec mi_X10_use 0 (.iload_n 1) 1 1 := ⟨by decide +kernel, rfl⟩
theorem D_X10_use_1 : Dec mi_X10_use 1 (.iconst 0) 1 2 := ⟨by decide +kernel, rfl⟩
theorem D_X10_use_2 : Dec mi_X10_use 2 (.iconst 5) 1 3 := ⟨by decide +kernel, rfl⟩
theorem D_X10_use_3 : Dec mi_X10_use 3 (.invokestatic 78) 3 6 := ⟨by decide +kernel, rfl⟩
theorem D_X10_use_6 : DecJ mi_X10_use 6 (.ifCond .eq 11) (11) 9 17 := ⟨by decide +kernel, rfl, by decide⟩
theorem D_X10_use_9 : Dec mi_X10_use 9 (.aload_n 0) 1 10 := ⟨by decide +kernel, rfl⟩
theorem D_X10_use_10 : Dec mi_X10_use 10 (.iload_n 2) 1 11 := ⟨by decide +kernel, rfl⟩
theorem D_X10_use_11 : Dec mi_X10_use 11 (.invokevirtual 142) 3 14 := ⟨by decide +kernel, rfl⟩
theorem D_X10_use_14 : DecJ mi_X10_use 14 (.ifCond .ne 6) (6) 17 20 := ⟨by decide +kernel, rfl, by decide⟩
theorem D_X10_use_17 : Dec mi_X10_use 17 (.ldc 231) 2 19 := ⟨by decide +kernel, rfl⟩
theorem D_X10_use_19 : Dec mi_X10_use 19 (.ireturn) 1 20 := ⟨by decide +kernel, rfl⟩
theorem D_X10_use_20 : Dec mi_X10_use 20 (.aload_n 0) 1 21 := ⟨by decide +kernel, rfl⟩
theorem D_X10_use_21 : Dec mi_X10_use 21 (.iload_n 2) 1 22 := ⟨by decide +kernel, rfl⟩
theorem D_X10_use_22 : Dec mi_X10_use 22 (.iconst 1) 1 23 := ⟨by decide +kernel, rfl⟩
theorem D_X10_use_23 : Dec mi_X10_use 23 (.invokevirtual 148) 3 26 := ⟨by decide +kernel, rfl⟩
theorem D_X10_use_26 : Dec mi_X10_use 26 (.istore_n 3) 1 27 := ⟨by decide +kernel, rfl⟩
theorem D_X10_use_27 : Dec mi_X10_use 27 (.iload_n 1) 1 28 := ⟨by decide +kernel, rfl⟩
theorem D_X10_use_28 : decode mi_X10_use.1 28 = .ok (.tableswitch 141 0 4 #[36, 48, 69, 90, 113], 36) := by decide +kernel
theorem D_X10_use_64 : Dec mi_X10_use 64 (.aload_n 0) 1 65 := ⟨by decide +kernel, rfl⟩
theorem D_X10_use_65 : Dec mi_X10_use 65 (.dup) 1 66 := ⟨by decide +kernel, rfl⟩
theorem D_X10_use_66 : Dec mi_X10_use 66 (.getfield 232) 3 69 := ⟨by decide +kernel, rfl⟩
theorem D_X10_use_69 : Dec mi_X10_use 69 (.lconst 1) 1 70 := ⟨by decide +kernel, rfl⟩
theorem D_X10_use_70 : Dec mi_X10_use 70 (.ladd) 1 71 := ⟨by decide +kernel, rfl⟩
theorem D_X10_use_71 : Dec mi_X10_use 71 (.putfield 232) 3 74 := ⟨by decide +kernel, rfl⟩
theorem D_X10_use_74 : Dec mi_X10_use 74 (.iload_n 3) 1 75 := ⟨by decide +kernel, rfl⟩
theorem D_X10_use_75 : Dec mi_X10_use 75 (.ireturn) 1 76 := ⟨by decide +kernel, rfl⟩
theorem D_X10_use_76 : Dec mi_X10_use 76 (.aload_n 0) 1 77 := ⟨by decide +kernel, rfl⟩
theorem D_X10_use_77 : Dec mi_X10_use 77 (.dup) 1 78 := ⟨by decide +kernel, rfl⟩
theorem D_X10_use_78 : Dec mi_X10_use 78 (.getfield 232) 3 81 := ⟨by decide +kernel, rfl⟩
theorem D_X10_use_81 : Dec mi_X10_use 81 (.ldc2_w 236) 3 84 := ⟨by decide +kernel, rfl⟩
theorem D_X10_use_84 : Dec mi_X10_use 84 (.ladd) 1 85 := ⟨by decide +kernel, rfl⟩
theorem D_X10_use_85 : Dec mi_X10_use 85 (.putfield 232) 3 88 := ⟨by decide +kernel, rfl⟩
theorem D_X10_use_88 : Dec mi_X10_use 88 (.iload_n 3) 1 89 := ⟨by decide +kernel, rfl⟩
theorem D_X10_use_89 : Dec mi_X10_use 89 (.aload_n 0) 1 90 := ⟨by decide +kernel, rfl⟩
theorem D_X10_use_90 : Dec mi_X10_use 90 (.iload_n 2) 1 91 := ⟨by decide +kernel, rfl⟩
theorem D_X10_use_91 : Dec mi_X10_use 91 (.iconst 2) 1 92 := ⟨by decide +kernel, rfl⟩
theorem D_X10_use_92 : Dec mi_X10_use 92 (.invokevirtual 148) 3 95 := ⟨by decide +kernel, rfl⟩
theorem D_X10_use_95 : Dec mi_X10_use 95 (.iadd) 1 96 := ⟨by decide +kernel, rfl⟩
theorem D_X10_use_96 : Dec mi_X10_use 96 (.ireturn) 1 97 := ⟨by decide +kernel, rfl⟩
theorem D_X10_use_97 : Dec mi_X10_use 97 (.aload_n 0) 1 98 := ⟨by decide +kernel, rfl⟩
theorem D_X10_use_98 : Dec mi_X10_use 98 (.dup) 1 99 := ⟨by decide +kernel, rfl⟩
theorem D_X10_use_99 : Dec mi_X10_use 99 (.getfield 232) 3 102 := ⟨by decide +kernel, rfl⟩
theorem D_X10_use_102 : Dec mi_X10_use 102 (.ldc2_w 238) 3 105 := ⟨by decide +kernel, rfl⟩
theorem D_X10_use_105 : Dec mi_X10_use 105 (.ladd) 1 106 := ⟨by decide +kernel, rfl⟩
theorem D_X10_use_106 : Dec mi_X10_use 106 (.putfield 232) 3 109 := ⟨by decide +kernel, rfl⟩
theorem D_X10_use_109 : Dec mi_X10_use 109 (.iload_n 3) 1 110 := ⟨by decide +kernel, rfl⟩
theorem D_X10_use_110 : Dec mi_X10_use 110 (.aload_n 0) 1 111 := ⟨by decide +kernel, rfl⟩
theorem D_X10_use_111 : Dec mi_X10_use 111 (.iload_n 2) 1 112 := ⟨by decide +kernel, rfl⟩
theorem D_X10_use_112 : Dec mi_X10_use 112 (.iconst 4) 1 113 := ⟨by decide +kernel, rfl⟩
theorem D_X10_use_113 : Dec mi_X10_use 113 (.invokevirtual 148) 3 116 := ⟨by decide +kernel, rfl⟩
theorem D_X10_use_116 : Dec mi_X10_use 116 (.isub) 1 117 := ⟨by decide +kernel, rfl⟩
theorem D_X10_use_117 : Dec mi_X10_use 117 (.ireturn) 1 118 := ⟨by decide +kernel, rfl⟩
theorem D_X10_use_118 : Dec mi_X10_use 118 (.aload_n 0) 1 119 := ⟨by decide +kernel, rfl⟩
theorem D_X10_use_119 : Dec mi_X10_use 119 (.dup) 1 120 := ⟨by decide +kernel, rfl⟩
theorem D_X10_use_120 : Dec mi_X10_use 120 (.getfield 232) 3 123 := ⟨by decide +kernel, rfl⟩
theorem D_X10_use_123 : Dec mi_X10_use 123 (.ldc2_w 240) 3 126 := ⟨by decide +kernel, rfl⟩
theorem D_X10_use_126 : Dec mi_X10_use 126 (.ladd) 1 127 := ⟨by decide +kernel, rfl⟩
theorem D_X10_use_127 : Dec mi_X10_use 127 (.putfield 232) 3 130 := ⟨by decide +kernel, rfl⟩
theorem D_X10_use_130 : Dec mi_X10_use 130 (.iconst 2) 1 131 := ⟨by decide +kernel, rfl⟩
theorem D_X10_use_131 : Dec mi_X10_use 131 (.iload_n 3) 1 132 := ⟨by decide +kernel, rfl⟩
theorem D_X10_use_132 : Dec mi_X10_use 132 (.aload_n 0) 1 133 := ⟨by decide +kernel, rfl⟩
theorem D_X10_use_133 : Dec mi_X10_use 133 (.iload_n 2) 1 134 := ⟨by decide +kernel, rfl⟩
theorem D_X10_use_134 : Dec mi_X10_use 134 (.iconst 2) 1 135 := ⟨by decide +kernel, rfl⟩
theorem D_X10_use_135 : Dec mi_X10_use 135 (.invokevirtual 148) 3 138 := ⟨by decide +kernel, rfl⟩
theorem D_X10_use_138 : Dec mi_X10_use 138 (.iadd) 1 139 := ⟨by decide +kernel, rfl⟩
theorem D_X10_use_139 : Dec mi_X10_use 139 (.imul) 1 140 := ⟨by decide +kernel, rfl⟩
theorem D_X10_use_140 : Dec mi_X10_use 140 (.ireturn) 1 141 := ⟨by decide +kernel, rfl⟩
theorem D_X10_use_141 : Dec mi_X10_use 141 (.aload_n 0) 1 142 := ⟨by decide +kernel, rfl⟩
theorem D_X10_use_142 : Dec mi_X10_use 142 (.dup) 1 143 := ⟨by decide +kernel, rfl⟩
theorem D_X10_use_143 : Dec mi_X10_use 143 (.getfield 232) 3 146 := ⟨by decide +kernel, rfl⟩
theorem D_X10_use_146 : Dec mi_X10_use 146 (.ldc2_w 242) 3 149 := ⟨by decide +kernel, rfl⟩
theorem D_X10_use_149 : Dec mi_X10_use 149 (.ladd) 1 150 := ⟨by decide +kernel, rfl⟩
theorem D_X10_use_150 : Dec mi_X10_use 150 (.putfield 232) 3 153 := ⟨by decide +kernel, rfl⟩
theorem D_X10_use_153 : Dec mi_X10_use 153 (.iload_n 3) 1 154 := ⟨by decide +kernel, rfl⟩
theorem D_X10_use_154 : Dec mi_X10_use 154 (.aload_n 0) 1 155 := ⟨by decide +kernel, rfl⟩
theorem D_X10_use_155 : Dec mi_X10_use 155 (.iload_n 2) 1 156 := ⟨by decide +kernel, rfl⟩
theorem D_X10_use_156 : Dec mi_X10_use 156 (.iconst 4) 1 157 := ⟨by decide +kernel, rfl⟩
theorem D_X10_use_157 : Dec mi_X10_use 157 (.invokevirtual 148) 3 160 := ⟨by decide +kernel, rfl⟩
theorem D_X10_use_160 : Dec mi_X10_use 160 (.isub) 1 161 := ⟨by decide +kernel, rfl⟩
theorem D_X10_use_161 : Dec mi_X10_use 161 (.aload_n 0) 1 162 := ⟨by decide +kernel, rfl⟩
theorem D_X10_use_162 : Dec mi_X10_use 162 (.iload_n 2) 1 163 := ⟨by decide +kernel, rfl⟩
theorem D_X10_use_163 : Dec mi_X10_use 163 (.iconst 5) 1 164 := ⟨by decide +kernel, rfl⟩
theorem D_X10_use_164 : Dec mi_X10_use 164 (.invokevirtual 148) 3 167 := ⟨by decide +kernel, rfl⟩
theorem D_X10_use_167 : Dec mi_X10_use 167 (.iadd) 1 168 := ⟨by decide +kernel, rfl⟩
theorem D_X10_use_168 : Dec mi_X10_use 168 (.ireturn) 1 169 := ⟨by decide +kernel, rfl⟩
theorem D_X10_use_169 : Dec mi_X10_use 169 (.aload_n 0) 1 170 := ⟨by decide +kernel, rfl⟩
theorem D_X10_use_170 : Dec mi_X10_use 170 (.dup) 1 171 := ⟨by decide +kernel, rfl⟩
theorem D_X10_use_171 : Dec mi_X10_use 171 (.getfield 232) 3 174 := ⟨by decide +kernel, rfl⟩
theorem D_X10_use_174 : Dec mi_X10_use 174 (.ldc2_w 244) 3 177 := ⟨by decide +kernel, rfl⟩
theorem D_X10_use_177 : Dec mi_X10_use 177 (.ladd) 1 178 := ⟨by decide +kernel, rfl⟩
theorem D_X10_use_178 : Dec mi_X10_use 178 (.putfield 232) 3 181 := ⟨by decide +kernel, rfl⟩
theorem D_X10_use_181 : Dec mi_X10_use 181 (.iload_n 3) 1 182 := ⟨by decide +kernel, rfl⟩
theorem D_X10_use_182 : Dec mi_X10_use 182 (.aload_n 0) 1 183 := ⟨by decide +kernel, rfl⟩
theorem D_X10_use_183 : Dec mi_X10_use 183 (.getfield 35) 3 186 := ⟨by decide +kernel, rfl⟩
theorem D_X10_use_186 : Dec mi_X10_use 186 (.iconst 0) 1 187 := ⟨by decide +kernel, rfl⟩
theorem D_X10_use_187 : Dec mi_X10_use 187 (.iaload) 1 188 := ⟨by decide +kernel, rfl⟩
theorem D_X10_use_188 : Dec mi_X10_use 188 (.iload_n 2) 1 189 := ⟨by decide +kernel, rfl⟩
theorem D_X10_use_189 : Dec mi_X10_use 189 (.invokestatic 145) 3 192 := ⟨by decide +kernel, rfl⟩
theorem D_X10_use_192 : Dec mi_X10_use 192 (.iadd) 1 193 := ⟨by decide +kernel, rfl⟩
theorem D_X10_use_193 : Dec mi_X10_use 193 (.ireturn) 1 194 := ⟨by decide +kernel, rfl⟩
def f_X10_use (M : Mem) (a1 : Int32) (a2 : Int32) : Option (Int32 × Mem) := if (f_X10_in M a1 (0 : Int32) (5 : Int32)) = 0 then (some ((-1000000 : Int32), M)) else ((f_X10_isThing M a2).bind fun x2 => if x2 = 0 then (some ((-1000000 : Int32), M)) else ((f_X10_of M a2 (1 : Int32)).bind fun x5 => if a1 = (0 : Int32) then (vlet (setL M 36 0 ((M.2 36 0) + (1 : Int64))) fun M8 => some (x5, M8)) else (if a1 = (1 : Int32) then (vlet (setL M 36 0 ((M.2 36 0) + (11 : Int64))) fun M10 => (f_X10_of M10 a2 (2 : Int32)).bind fun x11 => some ((x5 + x11), M10)) else (if a1 = (2 : Int32) then (vlet (setL M 36 0 ((M.2 36 0) + (101 : Int64))) fun M14 => (f_X10_of M14 a2 (4 : Int32)).bind fun x15 => some ((x5 - x15), M14)) else (if a1 = (3 : Int32) then (vlet (setL M 36 0 ((M.2 36 0) + (1011 : Int64))) fun M18 => (f_X10_of M18 a2 (2 : Int32)).bind fun x19 => some (((2 : Int32) * (x5 + x19)), M18)) else (if a1 = (4 : Int32) then (vlet (setL M 36 0 ((M.2 36 0) + (10101 : Int64))) fun M22 => (f_X10_of M22 a2 (4 : Int32)).bind fun x23 => (f_X10_of M22 a2 (5 : Int32)).bind fun x25 => some (((x5 - x23) + x25), M22)) else (vlet (setL M 36 0 ((M.2 36 0) + (100001 : Int64))) fun M27 => if ck (0 : Int32) 3 = true then (some ((x5 + (f_X10_howIs M27 (M27.1 45 (0 : Int32).toNatClampNeg) a2)), M27)) else none)))))))
theorem x_X10_use {l : Launch} {w : Wd} {M : Mem} {a1 : Int32} {a2 : Int32} {v : Int32 × Mem} (h : f_X10_use M a1 a2 = some v) : Cn l w mi_X10_use yX10_use (2) [.ref (wq w 36), .int a1, .int a2] M (some (.int v.1), v.2) :=
  Cn_of (loc0 := [some (.ref (wq w 36)), some (.int a1), some (.int a2), none]) rfl rfl rfl (Nat.le_of_ble_eq_true rfl) fun κ hq => let_h (show (if (f_X10_in M a1 (0 : Int32) (5 : Int32)) = 0 then (some ((-1000000 : Int32), M)) else ((f_X10_isThing M a2).bind fun x2 => if x2 = 0 then (some ((-1000000 : Int32), M)) else ((f_X10_of M a2 (1 : Int32)).bind fun x5 => if a1 = (0 : Int32) then (vlet (setL M 36 0 ((M.2 36 0) + (1 : Int64))) fun M8 => some (x5, M8)) else (if a1 = (1 : Int32) then (vlet (setL M 36 0 ((M.2 36 0) + (11 : Int64))) fun M10 => (f_X10_of M10 a2 (2 : Int32)).bind fun x11 => some ((x5 + x11), M10)) else (if a1 = (2 : Int32) then (vlet (setL M 36 0 ((M.2 36 0) + (101 : Int64))) fun M14 => (f_X10_of M14 a2 (4 : Int32)).bind fun x15 => some ((x5 - x15), M14)) else (if a1 = (3 : Int32) then (vlet (setL M 36 0 ((M.2 36 0) + (1011 : Int64))) fun M18 => (f_X10_of M18 a2 (2 : Int32)).bind fun x19 => some (((2 : Int32) * (x5 + x19)), M18)) else (if a1 = (4 : Int32) then (vlet (setL M 36 0 ((M.2 36 0) + (10101 : Int64))) fun M22 => (f_X10_of M22 a2 (4 : Int32)).bind fun x23 => (f_X10_of M22 a2 (5 : Int32)).bind fun x25 => some (((x5 - x23) + x25), M22)) else (vlet (setL M 36 0 ((M.2 36 0) + (100001 : Int64))) fun M27 => if ck (0 : Int32) 3 = true then (some ((x5 + (f_X10_howIs M27 (M27.1 45 (0 : Int32).toNatClampNeg) a2)), M27)) else none)))))))) = some v from h) fun h => r_iload_n D_X10_use_0 rfl <| r_iconst D_X10_use_1 ki_0 <| r_iconst D_X10_use_2 ki_5 <| r_callS (av := [.int a1, .int (0 : Int32), .int (5 : Int32)]) D_X10_use_3 ml_X10_78 mf_X10_in ms_X10_in (x_X10_in rfl) (Nat.le_of_ble_eq_true rfl) rfl rfl (Nat.le_of_ble_eq_true rfl) <| r_if_eq D_X10_use_6 (fun c1 => let_h (ifT c1 h) fun h => r_ldc D_X10_use_17 ci_X10_231 <| r_iret hq D_X10_use_19 rfl (rtW h)) (fun c1 => let_h (ifF c1 h) fun h => r_aload_n D_X10_use_9 rfl <| r_iload_n D_X10_use_10 rfl <| (bdE h).elim fun x2 q3 => let_h q3.2 fun h => r_callV (av := [.int a2]) D_X10_use_11 ml_X10_142 mf_X10_isThing mv_X10_isThing s_36 rfl rfl (x_X10_isThing q3.1) (Nat.le_of_ble_eq_true rfl) rfl rfl (Nat.le_of_ble_eq_true rfl) <| r_if_ne D_X10_use_14 (fun c4 => let_h (ifT c4 h) fun h => r_ldc D_X10_use_17 ci_X10_231 <| r_iret hq D_X10_use_19 rfl (rtW h)) (fun c4 => let_h (ifF c4 h) fun h => r_aload_n D_X10_use_20 rfl <| r_iload_n D_X10_use_21 rfl <| r_iconst D_X10_use_22 ki_1 <| (bdE h).elim fun x5 q6 => let_h q6.2 fun h => r_callV (av := [.int a2, .int (1 : Int32)]) D_X10_use_23 ml_X10_148 mf_X10_of mv_X10_of s_36 rfl rfl (x_X10_of q6.1) (Nat.le_of_ble_eq_true rfl) rfl rfl (Nat.le_of_ble_eq_true rfl) <| r_istore_n D_X10_use_26 (by decide) rfl <| r_iload_n D_X10_use_27 rfl <| dcs (fun c7 => let_h (ifT c7 h) fun h => r_tabEq (off := 36) (t := 64) c7 D_X10_use_28 (by decide) (by decide) <| r_aload_n D_X10_use_64 rfl <| r_dup D_X10_use_65 rfl <| r_getL D_X10_use_66 fl_X10_232 s_36 rfl <| r_lconst (v := 1) D_X10_use_69 (by decide) <| r_ladd D_X10_use_70 <| r_putL D_X10_use_71 fp_X10_232 s_36 rfl <| mlE h fun M8 h => r_iload_n D_X10_use_74 rfl <| r_iret hq D_X10_use_75 rfl (rtW h)) (fun c7 => let_h (ifF c7 h) fun h => dcs (fun c9 => let_h (ifT c9 h) fun h => r_tabEq (off := 48) (t := 76) c9 D_X10_use_28 (by decide) (by decide) <| r_aload_n D_X10_use_76 rfl <| r_dup D_X10_use_77 rfl <| r_getL D_X10_use_78 fl_X10_232 s_36 rfl <| r_ldc2 D_X10_use_81 cl_X10_236 <| r_ladd D_X10_use_84 <| r_putL D_X10_use_85 fp_X10_232 s_36 rfl <| mlE h fun M10 h => r_iload_n D_X10_use_88 rfl <| r_aload_n D_X10_use_89 rfl <| r_iload_n D_X10_use_90 rfl <| r_iconst D_X10_use_91 ki_2 <| (bdE h).elim fun x11 q12 => let_h q12.2 fun h => r_callV (av := [.int a2, .int (2 : Int32)]) D_X10_use_92 ml_X10_148 mf_X10_of mv_X10_of s_36 rfl rfl (x_X10_of q12.1) (Nat.le_of_ble_eq_true rfl) rfl rfl (Nat.le_of_ble_eq_true rfl) <| r_iadd D_X10_use_95 <| r_iret hq D_X10_use_96 rfl (rtW h)) (fun c9 => let_h (ifF c9 h) fun h => dcs (fun c13 => let_h (ifT c13 h) fun h => r_tabEq (off := 69) (t := 97) c13 D_X10_use_28 (by decide) (by decide) <| r_aload_n D_X10_use_97 rfl <| r_dup D_X10_use_98 rfl <| r_getL D_X10_use_99 fl_X10_232 s_36 rfl <| r_ldc2 D_X10_use_102 cl_X10_238 <| r_ladd D_X10_use_105 <| r_putL D_X10_use_106 fp_X10_232 s_36 rfl <| mlE h fun M14 h => r_iload_n D_X10_use_109 rfl <| r_aload_n D_X10_use_110 rfl <| r_iload_n D_X10_use_111 rfl <| r_iconst D_X10_use_112 ki_4 <| (bdE h).elim fun x15 q16 => let_h q16.2 fun h => r_callV (av := [.int a2, .int (4 : Int32)]) D_X10_use_113 ml_X10_148 mf_X10_of mv_X10_of s_36 rfl rfl (x_X10_of q16.1) (Nat.le_of_ble_eq_true rfl) rfl rfl (Nat.le_of_ble_eq_true rfl) <| r_isub D_X10_use_116 <| r_iret hq D_X10_use_117 rfl (rtW h)) (fun c13 => let_h (ifF c13 h) fun h => dcs (fun c17 => let_h (ifT c17 h) fun h => r_tabEq (off := 90) (t := 118) c17 D_X10_use_28 (by decide) (by decide) <| r_aload_n D_X10_use_118 rfl <| r_dup D_X10_use_119 rfl <| r_getL D_X10_use_120 fl_X10_232 s_36 rfl <| r_ldc2 D_X10_use_123 cl_X10_240 <| r_ladd D_X10_use_126 <| r_putL D_X10_use_127 fp_X10_232 s_36 rfl <| mlE h fun M18 h => r_iconst D_X10_use_130 ki_2 <| r_iload_n D_X10_use_131 rfl <| r_aload_n D_X10_use_132 rfl <| r_iload_n D_X10_use_133 rfl <| r_iconst D_X10_use_134 ki_2 <| (bdE h).elim fun x19 q20 => let_h q20.2 fun h => r_callV (av := [.int a2, .int (2 : Int32)]) D_X10_use_135 ml_X10_148 mf_X10_of mv_X10_of s_36 rfl rfl (x_X10_of q20.1) (Nat.le_of_ble_eq_true rfl) rfl rfl (Nat.le_of_ble_eq_true rfl) <| r_iadd D_X10_use_138 <| r_imul D_X10_use_139 <| r_iret hq D_X10_use_140 rfl (rtW h)) (fun c17 => let_h (ifF c17 h) fun h => dcs (fun c21 => let_h (ifT c21 h) fun h => r_tabEq (off := 113) (t := 141) c21 D_X10_use_28 (by decide) (by decide) <| r_aload_n D_X10_use_141 rfl <| r_dup D_X10_use_142 rfl <| r_getL D_X10_use_143 fl_X10_232 s_36 rfl <| r_ldc2 D_X10_use_146 cl_X10_242 <| r_ladd D_X10_use_149 <| r_putL D_X10_use_150 fp_X10_232 s_36 rfl <| mlE h fun M22 h => r_iload_n D_X10_use_153 rfl <| r_aload_n D_X10_use_154 rfl <| r_iload_n D_X10_use_155 rfl <| r_iconst D_X10_use_156 ki_4 <| (bdE h).elim fun x23 q24 => let_h q24.2 fun h => r_callV (av := [.int a2, .int (4 : Int32)]) D_X10_use_157 ml_X10_148 mf_X10_of mv_X10_of s_36 rfl rfl (x_X10_of q24.1) (Nat.le_of_ble_eq_true rfl) rfl rfl (Nat.le_of_ble_eq_true rfl) <| r_isub D_X10_use_160 <| r_aload_n D_X10_use_161 rfl <| r_iload_n D_X10_use_162 rfl <| r_iconst D_X10_use_163 ki_5 <| (bdE h).elim fun x25 q26 => let_h q26.2 fun h => r_callV (av := [.int a2, .int (5 : Int32)]) D_X10_use_164 ml_X10_148 mf_X10_of mv_X10_of s_36 rfl rfl (x_X10_of q26.1) (Nat.le_of_ble_eq_true rfl) rfl rfl (Nat.le_of_ble_eq_true rfl) <| r_iadd D_X10_use_167 <| r_iret hq D_X10_use_168 rfl (rtW h)) (fun c21 => let_h (ifF c21 h) fun h => r_tabOut (t := 169) D_X10_use_28 (NE.out (k := 5) ⟨⟨⟨⟨⟨trivial, c7⟩, c9⟩, c13⟩, c17⟩, c21⟩ (by decide)) (by decide) <| r_aload_n D_X10_use_169 rfl <| r_dup D_X10_use_170 rfl <| r_getL D_X10_use_171 fl_X10_232 s_36 rfl <| r_ldc2 D_X10_use_174 cl_X10_244 <| r_ladd D_X10_use_177 <| r_putL D_X10_use_178 fp_X10_232 s_36 rfl <| mlE h fun M27 h => r_iload_n D_X10_use_181 rfl <| r_aload_n D_X10_use_182 rfl <| r_getR (j := 45) D_X10_use_183 fl_X10_35 s_36 rfl <| r_iconst D_X10_use_186 ki_0 <| (ckE h).elim fun c28 h => r_iald D_X10_use_187 s_45 c28 <| r_iload_n D_X10_use_188 rfl <| r_callS (av := [.int (M27.1 45 (0 : Int32).toNatClampNeg), .int a2]) D_X10_use_189 ml_X10_145 mf_X10_howIs ms_X10_howIs (x_X10_howIs rfl) (Nat.le_of_ble_eq_true rfl) rfl rfl (Nat.le_of_ble_eq_true rfl) <| r_iadd D_X10_use_192 <| r_iret hq D_X10_use_193 rfl (rtW h))))))))
