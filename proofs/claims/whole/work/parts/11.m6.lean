-- X10_allThings
theorem D_X10_allThings_0 : Dec mi_X10_allThings 0 (.iconst 1) 1 1 := ⟨by decide +kernel, rfl⟩
theorem D_X10_allThings_1 : Dec mi_X10_allThings 1 (.aload_n 0) 1 2 := ⟨by decide +kernel, rfl⟩
theorem D_X10_allThings_2 : Dec mi_X10_allThings 2 (.getfield 13) 3 5 := ⟨by decide +kernel, rfl⟩
theorem D_X10_allThings_5 : Dec mi_X10_allThings 5 (.iconst 0) 1 6 := ⟨by decide +kernel, rfl⟩
theorem D_X10_allThings_6 : Dec mi_X10_allThings 6 (.iaload) 1 7 := ⟨by decide +kernel, rfl⟩
theorem D_X10_allThings_7 : Dec mi_X10_allThings 7 (.ishl) 1 8 := ⟨by decide +kernel, rfl⟩
theorem D_X10_allThings_8 : Dec mi_X10_allThings 8 (.iconst 1) 1 9 := ⟨by decide +kernel, rfl⟩
theorem D_X10_allThings_9 : Dec mi_X10_allThings 9 (.isub) 1 10 := ⟨by decide +kernel, rfl⟩
theorem D_X10_allThings_10 : Dec mi_X10_allThings 10 (.ireturn) 1 11 := ⟨by decide +kernel, rfl⟩
def f_X10_allThings (M : Mem) : Option Int32 := if ck (0 : Int32) 2 = true then (some (((1 : Int32) <<< ((M.1 38 (0 : Int32).toNatClampNeg) &&& 31)) - (1 : Int32))) else none
theorem x_X10_allThings {l : Launch} {w : Wd} {M : Mem} {v : Int32} (h : f_X10_allThings M = some v) : Cn l w mi_X10_allThings yX10_allThings (0) [.ref (wq w 36)] M (some (.int v), M) :=
  Cn_of (loc0 := [some (.ref (wq w 36))]) rfl rfl rfl (Nat.le_of_ble_eq_true rfl) fun κ hq => let_h (show (if ck (0 : Int32) 2 = true then (some (((1 : Int32) <<< ((M.1 38 (0 : Int32).toNatClampNeg) &&& 31)) - (1 : Int32))) else none) = some v from h) fun h => r_iconst D_X10_allThings_0 ki_1 <| r_aload_n D_X10_allThings_1 rfl <| r_getR (j := 38) D_X10_allThings_2 fl_X10_13 s_36 rfl <| r_iconst D_X10_allThings_5 ki_0 <| (ckE h).elim fun c1 h => r_iald D_X10_allThings_6 s_38 c1 <| r_ishl D_X10_allThings_7 <| r_iconst D_X10_allThings_8 ki_1 <| r_isub D_X10_allThings_9 <| r_iret hq D_X10_allThings_10 rfl (rtP h)
-- X10_journey
theorem D_X10_journey_0 : Dec mi_X10_journey 0 (.aload_n 0) 1 1 := ⟨by decide +kernel, rfl⟩
theorem D_X10_journey_1 : Dec mi_X10_journey 1 (.iconst 0) 1 2 := ⟨by decide +kernel, rfl⟩
theorem D_X10_journey_2 : Dec mi_X10_journey 2 (.putfield 88) 3 5 := ⟨by decide +kernel, rfl⟩
theorem D_X10_journey_5 : Dec mi_X10_journey 5 (.aload_n 0) 1 6 := ⟨by decide +kernel, rfl⟩
theorem D_X10_journey_6 : Dec mi_X10_journey 6 (.bipush (-9)) 2 8 := ⟨by decide +kernel, rfl⟩
theorem D_X10_journey_8 : Dec mi_X10_journey 8 (.putfield 108) 3 11 := ⟨by decide +kernel, rfl⟩
theorem D_X10_journey_11 : Dec mi_X10_journey 11 (.aload_n 0) 1 12 := ⟨by decide +kernel, rfl⟩
theorem D_X10_journey_12 : Dec mi_X10_journey 12 (.iconst 0) 1 13 := ⟨by decide +kernel, rfl⟩
theorem D_X10_journey_13 : Dec mi_X10_journey 13 (.putfield 126) 3 16 := ⟨by decide +kernel, rfl⟩
theorem D_X10_journey_16 : Dec mi_X10_journey 16 (.aload_n 0) 1 17 := ⟨by decide +kernel, rfl⟩
theorem D_X10_journey_17 : Dec mi_X10_journey 17 (.getfield 13) 3 20 := ⟨by decide +kernel, rfl⟩
theorem D_X10_journey_20 : Dec mi_X10_journey 20 (.iconst 1) 1 21 := ⟨by decide +kernel, rfl⟩
theorem D_X10_journey_21 : Dec mi_X10_journey 21 (.iconst 0) 1 22 := ⟨by decide +kernel, rfl⟩
theorem D_X10_journey_22 : Dec mi_X10_journey 22 (.iastore) 1 23 := ⟨by decide +kernel, rfl⟩
theorem D_X10_journey_23 : Dec mi_X10_journey 23 (.aload_n 0) 1 24 := ⟨by decide +kernel, rfl⟩
theorem D_X10_journey_24 : Dec mi_X10_journey 24 (.getfield 23) 3 27 := ⟨by decide +kernel, rfl⟩
theorem D_X10_journey_27 : Dec mi_X10_journey 27 (.iconst 1) 1 28 := ⟨by decide +kernel, rfl⟩
theorem D_X10_journey_28 : Dec mi_X10_journey 28 (.iconst 0) 1 29 := ⟨by decide +kernel, rfl⟩
theorem D_X10_journey_29 : Dec mi_X10_journey 29 (.iastore) 1 30 := ⟨by decide +kernel, rfl⟩
theorem D_X10_journey_30 : Dec mi_X10_journey 30 (.iconst 0) 1 31 := ⟨by decide +kernel, rfl⟩
theorem D_X10_journey_31 : Dec mi_X10_journey 31 (.istore_n 1) 1 32 := ⟨by decide +kernel, rfl⟩
theorem D_X10_journey_32 : Dec mi_X10_journey 32 (.aload_n 0) 1 33 := ⟨by decide +kernel, rfl⟩
theorem D_X10_journey_33 : Dec mi_X10_journey 33 (.invokevirtual 111) 3 36 := ⟨by decide +kernel, rfl⟩
theorem D_X10_journey_36 : Dec mi_X10_journey 36 (.aload_n 0) 1 37 := ⟨by decide +kernel, rfl⟩
theorem D_X10_journey_37 : Dec mi_X10_journey 37 (.getfield 108) 3 40 := ⟨by decide +kernel, rfl⟩
theorem D_X10_journey_40 : Dec mi_X10_journey 40 (.bipush (-9)) 2 42 := ⟨by decide +kernel, rfl⟩
theorem D_X10_journey_42 : DecJ mi_X10_journey 42 (.if_icmp .ne 26) (26) 45 68 := ⟨by decide +kernel, rfl, by decide⟩
theorem D_X10_journey_45 : Dec mi_X10_journey 45 (.aload_n 0) 1 46 := ⟨by decide +kernel, rfl⟩
theorem D_X10_journey_46 : Dec mi_X10_journey 46 (.getfield 101) 3 49 := ⟨by decide +kernel, rfl⟩
theorem D_X10_journey_49 : Dec mi_X10_journey 49 (.bipush 8) 2 51 := ⟨by decide +kernel, rfl⟩
theorem D_X10_journey_51 : DecJ mi_X10_journey 51 (.if_icmp .eq 17) (17) 54 68 := ⟨by decide +kernel, rfl, by decide⟩
theorem D_X10_journey_54 : Dec mi_X10_journey 54 (.aload_n 0) 1 55 := ⟨by decide +kernel, rfl⟩
theorem D_X10_journey_55 : Dec mi_X10_journey 55 (.aload_n 0) 1 56 := ⟨by decide +kernel, rfl⟩
theorem D_X10_journey_56 : Dec mi_X10_journey 56 (.getfield 101) 3 59 := ⟨by decide +kernel, rfl⟩
theorem D_X10_journey_59 : Dec mi_X10_journey 59 (.invokevirtual 136) 3 62 := ⟨by decide +kernel, rfl⟩
theorem D_X10_journey_62 : Dec mi_X10_journey 62 (.iinc 1 1) 3 65 := ⟨by decide +kernel, rfl⟩
theorem D_X10_journey_65 : DecJ mi_X10_journey 65 (.goto (-29)) (-29) 68 36 := ⟨by decide +kernel, rfl, by decide⟩
theorem D_X10_journey_68 : Dec mi_X10_journey 68 (.aload_n 0) 1 69 := ⟨by decide +kernel, rfl⟩
theorem D_X10_journey_69 : Dec mi_X10_journey 69 (.getfield 108) 3 72 := ⟨by decide +kernel, rfl⟩
theorem D_X10_journey_72 : Dec mi_X10_journey 72 (.bipush (-9)) 2 74 := ⟨by decide +kernel, rfl⟩
theorem D_X10_journey_74 : DecJ mi_X10_journey 74 (.if_icmp .eq 11) (11) 77 85 := ⟨by decide +kernel, rfl, by decide⟩
theorem D_X10_journey_77 : Dec mi_X10_journey 77 (.bipush (-10)) 2 79 := ⟨by decide +kernel, rfl⟩
theorem D_X10_journey_79 : Dec mi_X10_journey 79 (.aload_n 0) 1 80 := ⟨by decide +kernel, rfl⟩
theorem D_X10_journey_80 : Dec mi_X10_journey 80 (.getfield 108) 3 83 := ⟨by decide +kernel, rfl⟩
theorem D_X10_journey_83 : Dec mi_X10_journey 83 (.isub) 1 84 := ⟨by decide +kernel, rfl⟩
theorem D_X10_journey_84 : Dec mi_X10_journey 84 (.ireturn) 1 85 := ⟨by decide +kernel, rfl⟩
theorem D_X10_journey_85 : Dec mi_X10_journey 85 (.aload_n 0) 1 86 := ⟨by decide +kernel, rfl⟩
theorem D_X10_journey_86 : Dec mi_X10_journey 86 (.getfield 13) 3 89 := ⟨by decide +kernel, rfl⟩
theorem D_X10_journey_89 : Dec mi_X10_journey 89 (.iconst 0) 1 90 := ⟨by decide +kernel, rfl⟩
theorem D_X10_journey_90 : Dec mi_X10_journey 90 (.aload_n 0) 1 91 := ⟨by decide +kernel, rfl⟩
theorem D_X10_journey_91 : Dec mi_X10_journey 91 (.getfield 13) 3 94 := ⟨by decide +kernel, rfl⟩
theorem D_X10_journey_94 : Dec mi_X10_journey 94 (.iconst 1) 1 95 := ⟨by decide +kernel, rfl⟩
theorem D_X10_journey_95 : Dec mi_X10_journey 95 (.iaload) 1 96 := ⟨by decide +kernel, rfl⟩
theorem D_X10_journey_96 : Dec mi_X10_journey 96 (.iastore) 1 97 := ⟨by decide +kernel, rfl⟩
theorem D_X10_journey_97 : Dec mi_X10_journey 97 (.aload_n 0) 1 98 := ⟨by decide +kernel, rfl⟩
theorem D_X10_journey_98 : Dec mi_X10_journey 98 (.getfield 23) 3 101 := ⟨by decide +kernel, rfl⟩
theorem D_X10_journey_101 : Dec mi_X10_journey 101 (.iconst 0) 1 102 := ⟨by decide +kernel, rfl⟩
theorem D_X10_journey_102 : Dec mi_X10_journey 102 (.aload_n 0) 1 103 := ⟨by decide +kernel, rfl⟩
theorem D_X10_journey_103 : Dec mi_X10_journey 103 (.getfield 23) 3 106 := ⟨by decide +kernel, rfl⟩
theorem D_X10_journey_106 : Dec mi_X10_journey 106 (.iconst 1) 1 107 := ⟨by decide +kernel, rfl⟩
theorem D_X10_journey_107 : Dec mi_X10_journey 107 (.iaload) 1 108 := ⟨by decide +kernel, rfl⟩
theorem D_X10_journey_108 : Dec mi_X10_journey 108 (.iastore) 1 109 := ⟨by decide +kernel, rfl⟩
theorem D_X10_journey_109 : Dec mi_X10_journey 109 (.iconst 0) 1 110 := ⟨by decide +kernel, rfl⟩
theorem D_X10_journey_110 : Dec mi_X10_journey 110 (.istore_n 2) 1 111 := ⟨by decide +kernel, rfl⟩
theorem D_X10_journey_111 : Dec mi_X10_journey 111 (.iload_n 2) 1 112 := ⟨by decide +kernel, rfl⟩
theorem D_X10_journey_112 : Dec mi_X10_journey 112 (.bipush 48) 2 114 := ⟨by decide +kernel, rfl⟩
theorem D_X10_journey_114 : DecJ mi_X10_journey 114 (.if_icmp .ge 24) (24) 117 138 := ⟨by decide +kernel, rfl, by decide⟩
theorem D_X10_journey_117 : Dec mi_X10_journey 117 (.aload_n 0) 1 118 := ⟨by decide +kernel, rfl⟩
theorem D_X10_journey_118 : Dec mi_X10_journey 118 (.getfield 17) 3 121 := ⟨by decide +kernel, rfl⟩
theorem D_X10_journey_121 : Dec mi_X10_journey 121 (.iload_n 2) 1 122 := ⟨by decide +kernel, rfl⟩
theorem D_X10_journey_122 : Dec mi_X10_journey 122 (.aload_n 0) 1 123 := ⟨by decide +kernel, rfl⟩
theorem D_X10_journey_123 : Dec mi_X10_journey 123 (.getfield 17) 3 126 := ⟨by decide +kernel, rfl⟩
theorem D_X10_journey_126 : Dec mi_X10_journey 126 (.bipush 48) 2 128 := ⟨by decide +kernel, rfl⟩
theorem D_X10_journey_128 : Dec mi_X10_journey 128 (.iload_n 2) 1 129 := ⟨by decide +kernel, rfl⟩
theorem D_X10_journey_129 : Dec mi_X10_journey 129 (.iadd) 1 130 := ⟨by decide +kernel, rfl⟩
theorem D_X10_journey_130 : Dec mi_X10_journey 130 (.iaload) 1 131 := ⟨by decide +kernel, rfl⟩
theorem D_X10_journey_131 : Dec mi_X10_journey 131 (.iastore) 1 132 := ⟨by decide +kernel, rfl⟩
theorem D_X10_journey_132 : Dec mi_X10_journey 132 (.iinc 2 1) 3 135 := ⟨by decide +kernel, rfl⟩
theorem D_X10_journey_135 : DecJ mi_X10_journey 135 (.goto (-24)) (-24) 138 111 := ⟨by decide +kernel, rfl, by decide⟩
theorem D_X10_journey_138 : Dec mi_X10_journey 138 (.iconst 0) 1 139 := ⟨by decide +kernel, rfl⟩
theorem D_X10_journey_139 : Dec mi_X10_journey 139 (.istore_n 2) 1 140 := ⟨by decide +kernel, rfl⟩
theorem D_X10_journey_140 : Dec mi_X10_journey 140 (.iload_n 2) 1 141 := ⟨by decide +kernel, rfl⟩
theorem D_X10_journey_141 : Dec mi_X10_journey 141 (.bipush 6) 2 143 := ⟨by decide +kernel, rfl⟩
theorem D_X10_journey_143 : DecJ mi_X10_journey 143 (.if_icmp .ge 24) (24) 146 167 := ⟨by decide +kernel, rfl, by decide⟩
theorem D_X10_journey_146 : Dec mi_X10_journey 146 (.aload_n 0) 1 147 := ⟨by decide +kernel, rfl⟩
theorem D_X10_journey_147 : Dec mi_X10_journey 147 (.getfield 20) 3 150 := ⟨by decide +kernel, rfl⟩
theorem D_X10_journey_150 : Dec mi_X10_journey 150 (.iload_n 2) 1 151 := ⟨by decide +kernel, rfl⟩
theorem D_X10_journey_151 : Dec mi_X10_journey 151 (.aload_n 0) 1 152 := ⟨by decide +kernel, rfl⟩
theorem D_X10_journey_152 : Dec mi_X10_journey 152 (.getfield 20) 3 155 := ⟨by decide +kernel, rfl⟩
theorem D_X10_journey_155 : Dec mi_X10_journey 155 (.bipush 6) 2 157 := ⟨by decide +kernel, rfl⟩
theorem D_X10_journey_157 : Dec mi_X10_journey 157 (.iload_n 2) 1 158 := ⟨by decide +kernel, rfl⟩
theorem D_X10_journey_158 : Dec mi_X10_journey 158 (.iadd) 1 159 := ⟨by decide +kernel, rfl⟩
theorem D_X10_journey_159 : Dec mi_X10_journey 159 (.iaload) 1 160 := ⟨by decide +kernel, rfl⟩
theorem D_X10_journey_160 : Dec mi_X10_journey 160 (.iastore) 1 161 := ⟨by decide +kernel, rfl⟩
theorem D_X10_journey_161 : Dec mi_X10_journey 161 (.iinc 2 1) 3 164 := ⟨by decide +kernel, rfl⟩
theorem D_X10_journey_164 : DecJ mi_X10_journey 164 (.goto (-24)) (-24) 167 140 := ⟨by decide +kernel, rfl, by decide⟩
theorem D_X10_journey_167 : Dec mi_X10_journey 167 (.iconst 0) 1 168 := ⟨by decide +kernel, rfl⟩
theorem D_X10_journey_168 : Dec mi_X10_journey 168 (.istore_n 2) 1 169 := ⟨by decide +kernel, rfl⟩
theorem D_X10_journey_169 : Dec mi_X10_journey 169 (.iload_n 2) 1 170 := ⟨by decide +kernel, rfl⟩
theorem D_X10_journey_170 : Dec mi_X10_journey 170 (.bipush 32) 2 172 := ⟨by decide +kernel, rfl⟩
theorem D_X10_journey_172 : DecJ mi_X10_journey 172 (.if_icmp .ge 24) (24) 175 196 := ⟨by decide +kernel, rfl, by decide⟩
theorem D_X10_journey_175 : Dec mi_X10_journey 175 (.aload_n 0) 1 176 := ⟨by decide +kernel, rfl⟩
theorem D_X10_journey_176 : Dec mi_X10_journey 176 (.getfield 26) 3 179 := ⟨by decide +kernel, rfl⟩
theorem D_X10_journey_179 : Dec mi_X10_journey 179 (.iload_n 2) 1 180 := ⟨by decide +kernel, rfl⟩
theorem D_X10_journey_180 : Dec mi_X10_journey 180 (.aload_n 0) 1 181 := ⟨by decide +kernel, rfl⟩
theorem D_X10_journey_181 : Dec mi_X10_journey 181 (.getfield 26) 3 184 := ⟨by decide +kernel, rfl⟩
theorem D_X10_journey_184 : Dec mi_X10_journey 184 (.bipush 32) 2 186 := ⟨by decide +kernel, rfl⟩
theorem D_X10_journey_186 : Dec mi_X10_journey 186 (.iload_n 2) 1 187 := ⟨by decide +kernel, rfl⟩
theorem D_X10_journey_187 : Dec mi_X10_journey 187 (.iadd) 1 188 := ⟨by decide +kernel, rfl⟩
theorem D_X10_journey_188 : Dec mi_X10_journey 188 (.iaload) 1 189 := ⟨by decide +kernel, rfl⟩
theorem D_X10_journey_189 : Dec mi_X10_journey 189 (.iastore) 1 190 := ⟨by decide +kernel, rfl⟩
theorem D_X10_journey_190 : Dec mi_X10_journey 190 (.iinc 2 1) 3 193 := ⟨by decide +kernel, rfl⟩
theorem D_X10_journey_193 : DecJ mi_X10_journey 193 (.goto (-24)) (-24) 196 169 := ⟨by decide +kernel, rfl, by decide⟩
theorem D_X10_journey_196 : Dec mi_X10_journey 196 (.aload_n 0) 1 197 := ⟨by decide +kernel, rfl⟩
theorem D_X10_journey_197 : Dec mi_X10_journey 197 (.getfield 32) 3 200 := ⟨by decide +kernel, rfl⟩
theorem D_X10_journey_200 : Dec mi_X10_journey 200 (.iconst 0) 1 201 := ⟨by decide +kernel, rfl⟩
theorem D_X10_journey_201 : Dec mi_X10_journey 201 (.iconst 0) 1 202 := ⟨by decide +kernel, rfl⟩
theorem D_X10_journey_202 : Dec mi_X10_journey 202 (.iastore) 1 203 := ⟨by decide +kernel, rfl⟩
theorem D_X10_journey_203 : Dec mi_X10_journey 203 (.aload_n 0) 1 204 := ⟨by decide +kernel, rfl⟩
theorem D_X10_journey_204 : Dec mi_X10_journey 204 (.getfield 35) 3 207 := ⟨by decide +kernel, rfl⟩
theorem D_X10_journey_207 : Dec mi_X10_journey 207 (.iconst 0) 1 208 := ⟨by decide +kernel, rfl⟩
theorem D_X10_journey_208 : Dec mi_X10_journey 208 (.iconst 0) 1 209 := ⟨by decide +kernel, rfl⟩
theorem D_X10_journey_209 : Dec mi_X10_journey 209 (.iastore) 1 210 := ⟨by decide +kernel, rfl⟩
theorem D_X10_journey_210 : Dec mi_X10_journey 210 (.aload_n 0) 1 211 := ⟨by decide +kernel, rfl⟩
theorem D_X10_journey_211 : Dec mi_X10_journey 211 (.getfield 38) 3 214 := ⟨by decide +kernel, rfl⟩
theorem D_X10_journey_214 : Dec mi_X10_journey 214 (.iconst 0) 1 215 := ⟨by decide +kernel, rfl⟩
theorem D_X10_journey_215 : Dec mi_X10_journey 215 (.aload_n 0) 1 216 := ⟨by decide +kernel, rfl⟩
theorem D_X10_journey_216 : Dec mi_X10_journey 216 (.invokevirtual 139) 3 219 := ⟨by decide +kernel, rfl⟩
theorem D_X10_journey_219 : Dec mi_X10_journey 219 (.iastore) 1 220 := ⟨by decide +kernel, rfl⟩
theorem D_X10_journey_220 : Dec mi_X10_journey 220 (.aload_n 0) 1 221 := ⟨by decide +kernel, rfl⟩
theorem D_X10_journey_221 : Dec mi_X10_journey 221 (.getfield 41) 3 224 := ⟨by decide +kernel, rfl⟩
theorem D_X10_journey_224 : Dec mi_X10_journey 224 (.iconst 0) 1 225 := ⟨by decide +kernel, rfl⟩
theorem D_X10_journey_225 : Dec mi_X10_journey 225 (.iconst 0) 1 226 := ⟨by decide +kernel, rfl⟩
theorem D_X10_journey_226 : Dec mi_X10_journey 226 (.bastore) 1 227 := ⟨by decide +kernel, rfl⟩
theorem D_X10_journey_227 : Dec mi_X10_journey 227 (.aload_n 0) 1 228 := ⟨by decide +kernel, rfl⟩
theorem D_X10_journey_228 : Dec mi_X10_journey 228 (.getfield 41) 3 231 := ⟨by decide +kernel, rfl⟩
theorem D_X10_journey_231 : Dec mi_X10_journey 231 (.iconst 1) 1 232 := ⟨by decide +kernel, rfl⟩
theorem D_X10_journey_232 : Dec mi_X10_journey 232 (.iconst 0) 1 233 := ⟨by decide +kernel, rfl⟩
theorem D_X10_journey_233 : Dec mi_X10_journey 233 (.bastore) 1 234 := ⟨by decide +kernel, rfl⟩
theorem D_X10_journey_234 : Dec mi_X10_journey 234 (.aload_n 0) 1 235 := ⟨by decide +kernel, rfl⟩
theorem D_X10_journey_235 : Dec mi_X10_journey 235 (.iconst 0) 1 236 := ⟨by decide +kernel, rfl⟩
theorem D_X10_journey_236 : Dec mi_X10_journey 236 (.putfield 82) 3 239 := ⟨by decide +kernel, rfl⟩
theorem D_X10_journey_239 : Dec mi_X10_journey 239 (.iload_n 1) 1 240 := ⟨by decide +kernel, rfl⟩
theorem D_X10_journey_240 : Dec mi_X10_journey 240 (.ireturn) 1 241 := ⟨by decide +kernel, rfl⟩
def f_X10_journey_169 (F : Nat) : Nat → Int32 → Int32 → Mem → Option (Int32 × Mem)
  | 0, _, _, _ => none
  | n + 1, y1, y2, N => if (32 : Int32) ≤ y2 then (if ck (0 : Int32) 3 = true then (vlet (setI N 44 (0 : Int32).toNatClampNeg (0 : Int32)) fun M3 => if ck (0 : Int32) 3 = true then (vlet (setI M3 45 (0 : Int32).toNatClampNeg (0 : Int32)) fun M5 => (f_X10_allThings M5).bind fun x6 => if ck (0 : Int32) 3 = true then (vlet (setI M5 46 (0 : Int32).toNatClampNeg x6) fun M9 => if ck (0 : Int32) 2 = true then (vlet (setI M9 47 (0 : Int32).toNatClampNeg (0 : Int32)) fun M11 => if ck (1 : Int32) 2 = true then (vlet (setI M11 47 (1 : Int32).toNatClampNeg (0 : Int32)) fun M13 => vlet (setI M13 36 2 (0 : Int32)) fun M14 => some (y1, M14)) else none) else none) else none) else none) else none) else (if ck ((32 : Int32) + y2) 64 = true then (if ck y2 64 = true then (vlet (setI N 42 y2.toNatClampNeg (N.1 42 ((32 : Int32) + y2).toNatClampNeg)) fun M17 => f_X10_journey_169 F n y1 (y2 + (1 : Int32)) M17) else none) else none)
theorem x_X10_journey_169 {l : Launch} {w : Wd} {κ : Kp} {F : Nat} {v : Int32 × Mem} (hq : RQ w (some (.int v.1), v.2) κ) : ∀ (n : Nat) (y1 : Int32) (y2 : Int32) (N : Mem), f_X10_journey_169 F n y1 y2 N = some v → RR l w mi_X10_journey (6) κ 169 [] [some (.ref (wq w 36)), some (.int y1), some (.int y2)] N
  | 0, _, _, _, h => nomatch h
  | n + 1, y1, y2, N, h => let_h (show (if (32 : Int32) ≤ y2 then (if ck (0 : Int32) 3 = true then (vlet (setI N 44 (0 : Int32).toNatClampNeg (0 : Int32)) fun M3 => if ck (0 : Int32) 3 = true then (vlet (setI M3 45 (0 : Int32).toNatClampNeg (0 : Int32)) fun M5 => (f_X10_allThings M5).bind fun x6 => if ck (0 : Int32) 3 = true then (vlet (setI M5 46 (0 : Int32).toNatClampNeg x6) fun M9 => if ck (0 : Int32) 2 = true then (vlet (setI M9 47 (0 : Int32).toNatClampNeg (0 : Int32)) fun M11 => if ck (1 : Int32) 2 = true then (vlet (setI M11 47 (1 : Int32).toNatClampNeg (0 : Int32)) fun M13 => vlet (setI M13 36 2 (0 : Int32)) fun M14 => some (y1, M14)) else none) else none) else none) else none) else none) else (if ck ((32 : Int32) + y2) 64 = true then (if ck y2 64 = true then (vlet (setI N 42 y2.toNatClampNeg (N.1 42 ((32 : Int32) + y2).toNatClampNeg)) fun M17 => f_X10_journey_169 F n y1 (y2 + (1 : Int32)) M17) else none) else none)) = some v from h) fun h => r_iload_n D_X10_journey_169 rfl <| r_bipush D_X10_journey_170 k8_32 <| r_icmp_ge D_X10_journey_172 (fun c1 => let_h (ifT c1 h) fun h => r_aload_n D_X10_journey_196 rfl <| r_getR (j := 44) D_X10_journey_197 fl_X10_32 s_36 rfl <| r_iconst D_X10_journey_200 ki_0 <| r_iconst D_X10_journey_201 ki_0 <| (ckE h).elim fun c2 h => r_iast D_X10_journey_202 s_44 c2 <| mlE h fun M3 h => r_aload_n D_X10_journey_203 rfl <| r_getR (j := 45) D_X10_journey_204 fl_X10_35 s_36 rfl <| r_iconst D_X10_journey_207 ki_0 <| r_iconst D_X10_journey_208 ki_0 <| (ckE h).elim fun c4 h => r_iast D_X10_journey_209 s_45 c4 <| mlE h fun M5 h => r_aload_n D_X10_journey_210 rfl <| r_getR (j := 46) D_X10_journey_211 fl_X10_38 s_36 rfl <| r_iconst D_X10_journey_214 ki_0 <| r_aload_n D_X10_journey_215 rfl <| (bdE h).elim fun x6 q7 => let_h q7.2 fun h => r_callV (av := []) D_X10_journey_216 ml_X10_139 mf_X10_allThings mv_X10_allThings s_36 rfl rfl (x_X10_allThings q7.1) (Nat.le_of_ble_eq_true rfl) rfl rfl (Nat.le_of_ble_eq_true rfl) <| (ckE h).elim fun c8 h => r_iast D_X10_journey_219 s_46 c8 <| mlE h fun M9 h => r_aload_n D_X10_journey_220 rfl <| r_getR (j := 47) D_X10_journey_221 fl_X10_41 s_36 rfl <| r_iconst D_X10_journey_224 ki_0 <| r_iconst D_X10_journey_225 ki_0 <| (ckE h).elim fun c10 h => r_zast D_X10_journey_226 s_47 rfl c10 <| mlE h fun M11 h => r_aload_n D_X10_journey_227 rfl <| r_getR (j := 47) D_X10_journey_228 fl_X10_41 s_36 rfl <| r_iconst D_X10_journey_231 ki_1 <| r_iconst D_X10_journey_232 ki_0 <| (ckE h).elim fun c12 h => r_zast D_X10_journey_233 s_47 rfl c12 <| mlE h fun M13 h => r_aload_n D_X10_journey_234 rfl <| r_iconst D_X10_journey_235 ki_0 <| r_putI D_X10_journey_236 fp_X10_82 s_36 rfl rfl rfl <| mlE h fun M14 h => r_iload_n D_X10_journey_239 rfl <| r_iret hq D_X10_journey_240 rfl (rtW h)) (fun c1 => let_h (ifF c1 h) fun h => r_aload_n D_X10_journey_175 rfl <| r_getR (j := 42) D_X10_journey_176 fl_X10_26 s_36 rfl <| r_iload_n D_X10_journey_179 rfl <| r_aload_n D_X10_journey_180 rfl <| r_getR (j := 42) D_X10_journey_181 fl_X10_26 s_36 rfl <| r_bipush D_X10_journey_184 k8_32 <| r_iload_n D_X10_journey_186 rfl <| r_iadd D_X10_journey_187 <| (ckE h).elim fun c15 h => r_iald D_X10_journey_188 s_42 c15 <| (ckE h).elim fun c16 h => r_iast D_X10_journey_189 s_42 c16 <| mlE h fun M17 h => r_iinc D_X10_journey_190 rfl ki_1 (by decide) rfl <| r_goto D_X10_journey_193 <| r_ls (x_X10_journey_169 hq n y1 (y2 + (1 : Int32)) M17 h) ⟨rfl, ⟨rfl, ⟨rfl, trivial⟩⟩⟩)
def f_X10_journey_140 (F : Nat) : Nat → Int32 → Int32 → Mem → Option (Int32 × Mem)
  | 0, _, _, _ => none
  | n + 1, y1, y2, N => if (6 : Int32) ≤ y2 then (f_X10_journey_169 F F y1 (0 : Int32) N) else (if ck ((6 : Int32) + y2) 12 = true then (if ck y2 12 = true then (vlet (setI N 40 y2.toNatClampNeg (N.1 40 ((6 : Int32) + y2).toNatClampNeg)) fun M4 => f_X10_journey_140 F n y1 (y2 + (1 : Int32)) M4) else none) else none)
theorem x_X10_journey_140 {l : Launch} {w : Wd} {κ : Kp} {F : Nat} {v : Int32 × Mem} (hq : RQ w (some (.int v.1), v.2) κ) : ∀ (n : Nat) (y1 : Int32) (y2 : Int32) (N : Mem), f_X10_journey_140 F n y1 y2 N = some v → RR l w mi_X10_journey (6) κ 140 [] [some (.ref (wq w 36)), some (.int y1), some (.int y2)] N
  | 0, _, _, _, h => nomatch h
  | n + 1, y1, y2, N, h => let_h (show (if (6 : Int32) ≤ y2 then (f_X10_journey_169 F F y1 (0 : Int32) N) else (if ck ((6 : Int32) + y2) 12 = true then (if ck y2 12 = true then (vlet (setI N 40 y2.toNatClampNeg (N.1 40 ((6 : Int32) + y2).toNatClampNeg)) fun M4 => f_X10_journey_140 F n y1 (y2 + (1 : Int32)) M4) else none) else none)) = some v from h) fun h => r_iload_n D_X10_journey_140 rfl <| r_bipush D_X10_journey_141 k8_6 <| r_icmp_ge D_X10_journey_143 (fun c1 => let_h (ifT c1 h) fun h => r_iconst D_X10_journey_167 ki_0 <| r_istore_n D_X10_journey_168 (by decide) rfl <| r_ls (x_X10_journey_169 hq F y1 (0 : Int32) N h) ⟨rfl, ⟨rfl, ⟨rfl, trivial⟩⟩⟩) (fun c1 => let_h (ifF c1 h) fun h => r_aload_n D_X10_journey_146 rfl <| r_getR (j := 40) D_X10_journey_147 fl_X10_20 s_36 rfl <| r_iload_n D_X10_journey_150 rfl <| r_aload_n D_X10_journey_151 rfl <| r_getR (j := 40) D_X10_journey_152 fl_X10_20 s_36 rfl <| r_bipush D_X10_journey_155 k8_6 <| r_iload_n D_X10_journey_157 rfl <| r_iadd D_X10_journey_158 <| (ckE h).elim fun c2 h => r_iald D_X10_journey_159 s_40 c2 <| (ckE h).elim fun c3 h => r_iast D_X10_journey_160 s_40 c3 <| mlE h fun M4 h => r_iinc D_X10_journey_161 rfl ki_1 (by decide) rfl <| r_goto D_X10_journey_164 <| r_ls (x_X10_journey_140 hq n y1 (y2 + (1 : Int32)) M4 h) ⟨rfl, ⟨rfl, ⟨rfl, trivial⟩⟩⟩)
def f_X10_journey_111 (F : Nat) : Nat → Int32 → Int32 → Mem → Option (Int32 × Mem)
  | 0, _, _, _ => none
  | n + 1, y1, y2, N => if (48 : Int32) ≤ y2 then (f_X10_journey_140 F F y1 (0 : Int32) N) else (if ck ((48 : Int32) + y2) 96 = true then (if ck y2 96 = true then (vlet (setI N 39 y2.toNatClampNeg (N.1 39 ((48 : Int32) + y2).toNatClampNeg)) fun M4 => f_X10_journey_111 F n y1 (y2 + (1 : Int32)) M4) else none) else none)
theorem x_X10_journey_111 {l : Launch} {w : Wd} {κ : Kp} {F : Nat} {v : Int32 × Mem} (hq : RQ w (some (.int v.1), v.2) κ) : ∀ (n : Nat) (y1 : Int32) (y2 : Int32) (N : Mem), f_X10_journey_111 F n y1 y2 N = some v → RR l w mi_X10_journey (6) κ 111 [] [some (.ref (wq w 36)), some (.int y1), some (.int y2)] N
  | 0, _, _, _, h => nomatch h
  | n + 1, y1, y2, N, h => let_h (show (if (48 : Int32) ≤ y2 then (f_X10_journey_140 F F y1 (0 : Int32) N) else (if ck ((48 : Int32) + y2) 96 = true then (if ck y2 96 = true then (vlet (setI N 39 y2.toNatClampNeg (N.1 39 ((48 : Int32) + y2).toNatClampNeg)) fun M4 => f_X10_journey_111 F n y1 (y2 + (1 : Int32)) M4) else none) else none)) = some v from h) fun h => r_iload_n D_X10_journey_111 rfl <| r_bipush D_X10_journey_112 k8_48 <| r_icmp_ge D_X10_journey_114 (fun c1 => let_h (ifT c1 h) fun h => r_iconst D_X10_journey_138 ki_0 <| r_istore_n D_X10_journey_139 (by decide) rfl <| r_ls (x_X10_journey_140 hq F y1 (0 : Int32) N h) ⟨rfl, ⟨rfl, ⟨rfl, trivial⟩⟩⟩) (fun c1 => let_h (ifF c1 h) fun h => r_aload_n D_X10_journey_117 rfl <| r_getR (j := 39) D_X10_journey_118 fl_X10_17 s_36 rfl <| r_iload_n D_X10_journey_121 rfl <| r_aload_n D_X10_journey_122 rfl <| r_getR (j := 39) D_X10_journey_123 fl_X10_17 s_36 rfl <| r_bipush D_X10_journey_126 k8_48 <| r_iload_n D_X10_journey_128 rfl <| r_iadd D_X10_journey_129 <| (ckE h).elim fun c2 h => r_iald D_X10_journey_130 s_39 c2 <| (ckE h).elim fun c3 h => r_iast D_X10_journey_131 s_39 c3 <| mlE h fun M4 h => r_iinc D_X10_journey_132 rfl ki_1 (by decide) rfl <| r_goto D_X10_journey_135 <| r_ls (x_X10_journey_111 hq n y1 (y2 + (1 : Int32)) M4 h) ⟨rfl, ⟨rfl, ⟨rfl, trivial⟩⟩⟩)
def f_X10_journey_68 (F : Nat) (y1 : Int32) (N : Mem) : Option (Int32 × Mem) := if (N.1 36 13) = (-9 : Int32) then (if ck (1 : Int32) 2 = true then (if ck (0 : Int32) 2 = true then (vlet (setI N 38 (0 : Int32).toNatClampNeg (N.1 38 (1 : Int32).toNatClampNeg)) fun M4 => if ck (1 : Int32) 2 = true then (if ck (0 : Int32) 2 = true then (vlet (setI M4 41 (0 : Int32).toNatClampNeg (M4.1 41 (1 : Int32).toNatClampNeg)) fun M7 => f_X10_journey_111 F F y1 (0 : Int32) M7) else none) else none) else none) else none) else (some (((-10 : Int32) - (N.1 36 13)), N))
theorem x_X10_journey_68 {l : Launch} {w : Wd} {κ : Kp} {F : Nat} {v : Int32 × Mem} (hq : RQ w (some (.int v.1), v.2) κ) (y1 : Int32) (N : Mem) (h : f_X10_journey_68 F y1 N = some v) : RR l w mi_X10_journey (6) κ 68 [] [some (.ref (wq w 36)), some (.int y1), none] N := let_h (show (if (N.1 36 13) = (-9 : Int32) then (if ck (1 : Int32) 2 = true then (if ck (0 : Int32) 2 = true then (vlet (setI N 38 (0 : Int32).toNatClampNeg (N.1 38 (1 : Int32).toNatClampNeg)) fun M4 => if ck (1 : Int32) 2 = true then (if ck (0 : Int32) 2 = true then (vlet (setI M4 41 (0 : Int32).toNatClampNeg (M4.1 41 (1 : Int32).toNatClampNeg)) fun M7 => f_X10_journey_111 F F y1 (0 : Int32) M7) else none) else none) else none) else none) else (some (((-10 : Int32) - (N.1 36 13)), N))) = some v from h) fun h => r_aload_n D_X10_journey_68 rfl <| r_getI D_X10_journey_69 fl_X10_108 s_36 rfl <| r_bipush D_X10_journey_72 k8_m9 <| r_icmp_eq D_X10_journey_74 (fun c1 => let_h (ifT c1 h) fun h => r_aload_n D_X10_journey_85 rfl <| r_getR (j := 38) D_X10_journey_86 fl_X10_13 s_36 rfl <| r_iconst D_X10_journey_89 ki_0 <| r_aload_n D_X10_journey_90 rfl <| r_getR (j := 38) D_X10_journey_91 fl_X10_13 s_36 rfl <| r_iconst D_X10_journey_94 ki_1 <| (ckE h).elim fun c2 h => r_iald D_X10_journey_95 s_38 c2 <| (ckE h).elim fun c3 h => r_iast D_X10_journey_96 s_38 c3 <| mlE h fun M4 h => r_aload_n D_X10_journey_97 rfl <| r_getR (j := 41) D_X10_journey_98 fl_X10_23 s_36 rfl <| r_iconst D_X10_journey_101 ki_0 <| r_aload_n D_X10_journey_102 rfl <| r_getR (j := 41) D_X10_journey_103 fl_X10_23 s_36 rfl <| r_iconst D_X10_journey_106 ki_1 <| (ckE h).elim fun c5 h => r_iald D_X10_journey_107 s_41 c5 <| (ckE h).elim fun c6 h => r_iast D_X10_journey_108 s_41 c6 <| mlE h fun M7 h => r_iconst D_X10_journey_109 ki_0 <| r_istore_n D_X10_journey_110 (by decide) rfl <| r_ls (x_X10_journey_111 hq F y1 (0 : Int32) M7 h) ⟨rfl, ⟨rfl, ⟨rfl, trivial⟩⟩⟩) (fun c1 => let_h (ifF c1 h) fun h => r_bipush D_X10_journey_77 k8_m10 <| r_aload_n D_X10_journey_79 rfl <| r_getI D_X10_journey_80 fl_X10_108 s_36 rfl <| r_isub D_X10_journey_83 <| r_iret hq D_X10_journey_84 rfl (rtW h))
def f_X10_journey_36 (F : Nat) : Nat → Int32 → Mem → Option (Int32 × Mem)
  | 0, _, _ => none
  | n + 1, y1, N => if (N.1 36 13) = (-9 : Int32) then (if (N.1 36 11) = (8 : Int32) then (f_X10_journey_68 F y1 N) else ((f_X10_item F N (N.1 36 11)).bind fun p3 => f_X10_journey_36 F n (y1 + (1 : Int32)) p3)) else (f_X10_journey_68 F y1 N)
theorem x_X10_journey_36 {l : Launch} {w : Wd} {κ : Kp} {F : Nat} {v : Int32 × Mem} (hq : RQ w (some (.int v.1), v.2) κ) : ∀ (n : Nat) (y1 : Int32) (N : Mem), f_X10_journey_36 F n y1 N = some v → RR l w mi_X10_journey (6) κ 36 [] [some (.ref (wq w 36)), some (.int y1), none] N
  | 0, _, _, h => nomatch h
  | n + 1, y1, N, h => let_h (show (if (N.1 36 13) = (-9 : Int32) then (if (N.1 36 11) = (8 : Int32) then (f_X10_journey_68 F y1 N) else ((f_X10_item F N (N.1 36 11)).bind fun p3 => f_X10_journey_36 F n (y1 + (1 : Int32)) p3)) else (f_X10_journey_68 F y1 N)) = some v from h) fun h => r_aload_n D_X10_journey_36 rfl <| r_getI D_X10_journey_37 fl_X10_108 s_36 rfl <| r_bipush D_X10_journey_40 k8_m9 <| r_icmp_ne D_X10_journey_42 (fun c1 => let_h (ifT c1 h) fun h => r_aload_n D_X10_journey_45 rfl <| r_getI D_X10_journey_46 fl_X10_101 s_36 rfl <| r_bipush D_X10_journey_49 k8_8 <| r_icmp_eq D_X10_journey_51 (fun c2 => let_h (ifT c2 h) fun h => r_ls (x_X10_journey_68 hq y1 N h) ⟨rfl, ⟨rfl, trivial⟩⟩) (fun c2 => let_h (ifF c2 h) fun h => r_aload_n D_X10_journey_54 rfl <| r_aload_n D_X10_journey_55 rfl <| r_getI D_X10_journey_56 fl_X10_101 s_36 rfl <| (bdE h).elim fun p3 q4 => let_h q4.2 fun h => r_callV (av := [.int (N.1 36 11)]) D_X10_journey_59 ml_X10_136 mf_X10_item mv_X10_item s_36 rfl rfl (x_X10_item q4.1) (Nat.le_of_ble_eq_true rfl) rfl rfl (Nat.le_of_ble_eq_true rfl) <| r_iinc D_X10_journey_62 rfl ki_1 (by decide) rfl <| r_goto D_X10_journey_65 <| r_ls (x_X10_journey_36 hq n (y1 + (1 : Int32)) p3 h) ⟨rfl, ⟨rfl, trivial⟩⟩)) (fun c1 => let_h (ifF c1 h) fun h => r_ls (x_X10_journey_68 hq y1 N h) ⟨rfl, ⟨rfl, trivial⟩⟩)
def f_X10_journey (F : Nat) (M : Mem) : Option (Int32 × Mem) := vlet (setI M 36 9 (0 : Int32)) fun M1 => vlet (setI M1 36 13 (-9 : Int32)) fun M2 => vlet (setI M2 36 14 (0 : Int32)) fun M3 => if ck (1 : Int32) 2 = true then (vlet (setI M3 38 (1 : Int32).toNatClampNeg (0 : Int32)) fun M5 => if ck (1 : Int32) 2 = true then (vlet (setI M5 41 (1 : Int32).toNatClampNeg (0 : Int32)) fun M7 => (f_X10_next F M7).bind fun p8 => f_X10_journey_36 F F (0 : Int32) p8) else none) else none
theorem x_X10_journey {l : Launch} {w : Wd} {F : Nat} {M : Mem} {v : Int32 × Mem} (h : f_X10_journey F M = some v) : Cn l w mi_X10_journey yX10_journey (6) [.ref (wq w 36)] M (some (.int v.1), v.2) :=
  Cn_of (loc0 := [some (.ref (wq w 36)), none, none]) rfl rfl rfl (Nat.le_of_ble_eq_true rfl) fun κ hq => let_h (show (vlet (setI M 36 9 (0 : Int32)) fun M1 => vlet (setI M1 36 13 (-9 : Int32)) fun M2 => vlet (setI M2 36 14 (0 : Int32)) fun M3 => if ck (1 : Int32) 2 = true then (vlet (setI M3 38 (1 : Int32).toNatClampNeg (0 : Int32)) fun M5 => if ck (1 : Int32) 2 = true then (vlet (setI M5 41 (1 : Int32).toNatClampNeg (0 : Int32)) fun M7 => (f_X10_next F M7).bind fun p8 => f_X10_journey_36 F F (0 : Int32) p8) else none) else none) = some v from h) fun h => r_aload_n D_X10_journey_0 rfl <| r_iconst D_X10_journey_1 ki_0 <| r_putI D_X10_journey_2 fp_X10_88 s_36 rfl rfl rfl <| mlE h fun M1 h => r_aload_n D_X10_journey_5 rfl <| r_bipush D_X10_journey_6 k8_m9 <| r_putI D_X10_journey_8 fp_X10_108 s_36 rfl rfl rfl <| mlE h fun M2 h => r_aload_n D_X10_journey_11 rfl <| r_iconst D_X10_journey_12 ki_0 <| r_putI D_X10_journey_13 fp_X10_126 s_36 rfl rfl rfl <| mlE h fun M3 h => r_aload_n D_X10_journey_16 rfl <| r_getR (j := 38) D_X10_journey_17 fl_X10_13 s_36 rfl <| r_iconst D_X10_journey_20 ki_1 <| r_iconst D_X10_journey_21 ki_0 <| (ckE h).elim fun c4 h => r_iast D_X10_journey_22 s_38 c4 <| mlE h fun M5 h => r_aload_n D_X10_journey_23 rfl <| r_getR (j := 41) D_X10_journey_24 fl_X10_23 s_36 rfl <| r_iconst D_X10_journey_27 ki_1 <| r_iconst D_X10_journey_28 ki_0 <| (ckE h).elim fun c6 h => r_iast D_X10_journey_29 s_41 c6 <| mlE h fun M7 h => r_iconst D_X10_journey_30 ki_0 <| r_istore_n D_X10_journey_31 (by decide) rfl <| r_aload_n D_X10_journey_32 rfl <| (bdE h).elim fun p8 q9 => let_h q9.2 fun h => r_callV (av := []) D_X10_journey_33 ml_X10_111 mf_X10_next mv_X10_next s_36 rfl rfl (x_X10_next q9.1) (Nat.le_of_ble_eq_true rfl) rfl rfl (Nat.le_of_ble_eq_true rfl) <| r_ls (x_X10_journey_36 hq F (0 : Int32) p8 h) ⟨rfl, ⟨rfl, trivial⟩⟩
-- X10_isThing
theorem D_X10_isThing_0 : Dec mi_X10_isThing 0 (.iload_n 1) 1 1 := ⟨by decide +kernel, rfl⟩
theorem D_X10_isThing_1 : Dec mi_X10_isThing 1 (.iconst 0) 1 2 := ⟨by decide +kernel, rfl⟩
theorem D_X10_isThing_2 : Dec mi_X10_isThing 2 (.aload_n 0) 1 3 := ⟨by decide +kernel, rfl⟩
theorem D_X10_isThing_3 : Dec mi_X10_isThing 3 (.getfield 13) 3 6 := ⟨by decide +kernel, rfl⟩
theorem D_X10_isThing_6 : Dec mi_X10_isThing 6 (.iconst 0) 1 7 := ⟨by decide +kernel, rfl⟩
theorem D_X10_isThing_7 : Dec mi_X10_isThing 7 (.iaload) 1 8 := ⟨by decide +kernel, rfl⟩
theorem D_X10_isThing_8 : Dec mi_X10_isThing 8 (.iconst 1) 1 9 := ⟨by decide +kernel, rfl⟩
theorem D_X10_isThing_9 : Dec mi_X10_isThing 9 (.isub) 1 10 := ⟨by decide +kernel, rfl⟩
theorem D_X10_isThing_10 : Dec mi_X10_isThing 10 (.invokestatic 78) 3 13 := ⟨by decide +kernel, rfl⟩
theorem D_X10_isThing_13 : Dec mi_X10_isThing 13 (.ireturn) 1 14 := ⟨by decide +kernel, rfl⟩
def f_X10_isThing (M : Mem) (a1 : Int32) : Option Int32 := if ck (0 : Int32) 2 = true then (if (f_X10_in M a1 (0 : Int32) ((M.1 38 (0 : Int32).toNatClampNeg) - (1 : Int32))) &&& 1 = (f_X10_in M a1 (0 : Int32) ((M.1 38 (0 : Int32).toNatClampNeg) - (1 : Int32))) then some (f_X10_in M a1 (0 : Int32) ((M.1 38 (0 : Int32).toNatClampNeg) - (1 : Int32))) else none) else none
theorem x_X10_isThing {l : Launch} {w : Wd} {M : Mem} {a1 : Int32} {v : Int32} (h : f_X10_isThing M a1 = some v) : Cn l w mi_X10_isThing yX10_isThing (1) [.ref (wq w 36), .int a1] M (some (.int v), M) :=
  Cn_of (loc0 := [some (.ref (wq w 36)), some (.int a1)]) rfl rfl rfl (Nat.le_of_ble_eq_true rfl) fun κ hq => let_h (show (if ck (0 : Int32) 2 = true then (if (f_X10_in M a1 (0 : Int32) ((M.1 38 (0 : Int32).toNatClampNeg) - (1 : Int32))) &&& 1 = (f_X10_in M a1 (0 : Int32) ((M.1 38 (0 : Int32).toNatClampNeg) - (1 : Int32))) then some (f_X10_in M a1 (0 : Int32) ((M.1 38 (0 : Int32).toNatClampNeg) - (1 : Int32))) else none) else none) = some v from h) fun h => r_iload_n D_X10_isThing_0 rfl <| r_iconst D_X10_isThing_1 ki_0 <| r_aload_n D_X10_isThing_2 rfl <| r_getR (j := 38) D_X10_isThing_3 fl_X10_13 s_36 rfl <| r_iconst D_X10_isThing_6 ki_0 <| (ckE h).elim fun c1 h => r_iald D_X10_isThing_7 s_38 c1 <| r_iconst D_X10_isThing_8 ki_1 <| r_isub D_X10_isThing_9 <| r_callS (av := [.int a1, .int (0 : Int32), .int ((M.1 38 (0 : Int32).toNatClampNeg) - (1 : Int32))]) D_X10_isThing_10 ml_X10_78 mf_X10_in ms_X10_in (x_X10_in rfl) (Nat.le_of_ble_eq_true rfl) rfl rfl (Nat.le_of_ble_eq_true rfl) <| (bzE h).elim fun cz h => r_zret hq D_X10_isThing_13 rfl (nbz cz) (rtP h)
-- X10_of
theorem D_X10_of_0 : Dec mi_X10_of 0 (.aload_n 0) 1 1 := ⟨by decide +kernel, rfl⟩
theorem D_X10_of_1 : Dec mi_X10_of 1 (.getfield 17) 3 4 := ⟨by decide +kernel, rfl⟩
theorem D_X10_of_4 : Dec mi_X10_of 4 (.bipush 8) 2 6 := ⟨by decide +kernel, rfl⟩
theorem D_X10_of_6 : Dec mi_X10_of 6 (.iload_n 1) 1 7 := ⟨by decide +kernel, rfl⟩
theorem D_X10_of_7 : Dec mi_X10_of 7 (.imul) 1 8 := ⟨by decide +kernel, rfl⟩
theorem D_X10_of_8 : Dec mi_X10_of 8 (.iload_n 2) 1 9 := ⟨by decide +kernel, rfl⟩
theorem D_X10_of_9 : Dec mi_X10_of 9 (.iadd) 1 10 := ⟨by decide +kernel, rfl⟩
theorem D_X10_of_10 : Dec mi_X10_of 10 (.iaload) 1 11 := ⟨by decide +kernel, rfl⟩
theorem D_X10_of_11 : Dec mi_X10_of 11 (.ireturn) 1 12 := ⟨by decide +kernel, rfl⟩
def f_X10_of (M : Mem) (a1 : Int32) (a2 : Int32) : Option Int32 := if ck (((8 : Int32) * a1) + a2) 96 = true then (some (M.1 39 (((8 : Int32) * a1) + a2).toNatClampNeg)) else none
theorem x_X10_of {l : Launch} {w : Wd} {M : Mem} {a1 : Int32} {a2 : Int32} {v : Int32} (h : f_X10_of M a1 a2 = some v) : Cn l w mi_X10_of yX10_of (0) [.ref (wq w 36), .int a1, .int a2] M (some (.int v), M) :=
  Cn_of (loc0 := [some (.ref (wq w 36)), some (.int a1), some (.int a2)]) rfl rfl rfl (Nat.le_of_ble_eq_true rfl) fun κ hq => let_h (show (if ck (((8 : Int32) * a1) + a2) 96 = true then (some (M.1 39 (((8 : Int32) * a1) + a2).toNatClampNeg)) else none) = some v from h) fun h => r_aload_n D_X10_of_0 rfl <| r_getR (j := 39) D_X10_of_1 fl_X10_17 s_36 rfl <| r_bipush D_X10_of_4 k8_8 <| r_iload_n D_X10_of_6 rfl <| r_imul D_X10_of_7 <| r_iload_n D_X10_of_8 rfl <| r_iadd D_X10_of_9 <| (ckE h).elim fun c1 h => r_iald D_X10_of_10 s_39 c1 <| r_iret hq D_X10_of_11 rfl (rtP h)
-- X10_howIs
theorem D_X10_howIs_0 : Dec mi_X10_howIs 0 (.iload_n 0) 1 1 := ⟨by decide +kernel, rfl⟩
theorem D_X10_howIs_1 : Dec mi_X10_howIs 1 (.iconst 2) 1 2 := ⟨by decide +kernel, rfl⟩
theorem D_X10_howIs_2 : Dec mi_X10_howIs 2 (.iload_n 1) 1 3 := ⟨by decide +kernel, rfl⟩
theorem D_X10_howIs_3 : Dec mi_X10_howIs 3 (.imul) 1 4 := ⟨by decide +kernel, rfl⟩
theorem D_X10_howIs_4 : Dec mi_X10_howIs 4 (.ishr) 1 5 := ⟨by decide +kernel, rfl⟩
theorem D_X10_howIs_5 : Dec mi_X10_howIs 5 (.iconst 3) 1 6 := ⟨by decide +kernel, rfl⟩
theorem D_X10_howIs_6 : Dec mi_X10_howIs 6 (.iand) 1 7 := ⟨by decide +kernel, rfl⟩
theorem D_X10_howIs_7 : Dec mi_X10_howIs 7 (.ireturn) 1 8 := ⟨by decide +kernel, rfl⟩
def f_X10_howIs (M : Mem) (a1 : Int32) (a2 : Int32) : Int32 := ((a1 >>> (((2 : Int32) * a2) &&& 31)) &&& (3 : Int32))
theorem x_X10_howIs {l : Launch} {w : Wd} {M : Mem} {a1 : Int32} {a2 : Int32} {v : Int32} (h : f_X10_howIs M a1 a2 = v) : Cn l w mi_X10_howIs yX10_howIs (0) [.int a1, .int a2] M (some (.int v), M) :=
  Cn_of (loc0 := [some (.int a1), some (.int a2)]) rfl rfl rfl (Nat.le_of_ble_eq_true rfl) fun κ hq => let_h (show (((a1 >>> (((2 : Int32) * a2) &&& 31)) &&& (3 : Int32))) = v from h) fun h => r_iload_n D_X10_howIs_0 rfl <| r_iconst D_X10_howIs_1 ki_2 <| r_iload_n D_X10_howIs_2 rfl <| r_imul D_X10_howIs_3 <| r_ishr D_X10_howIs_4 <| r_iconst D_X10_howIs_5 ki_3 <| r_iand D_X10_howIs_6 <| r_iret hq D_X10_howIs_7 rfl (rtT h)
-- X10_thing
theorem D_X10_thing_0 : Dec mi_X10_thing 0 (.aload_n 0) 1 1 := ⟨by decide +kernel, rfl⟩
theorem D_X10_thing_1 : Dec mi_X10_thing 1 (.iload_n 1) 1 2 := ⟨by decide +kernel, rfl⟩
theorem D_X10_thing_2 : Dec mi_X10_thing 2 (.invokevirtual 142) 3 5 := ⟨by decide +kernel, rfl⟩
theorem D_X10_thing_5 : DecJ mi_X10_thing 5 (.ifCond .eq 41) (41) 8 46 := ⟨by decide +kernel, rfl, by decide⟩
theorem D_X10_thing_8 : Dec mi_X10_thing 8 (.iload_n 2) 1 9 := ⟨by decide +kernel, rfl⟩
theorem D_X10_thing_9 : Dec mi_X10_thing 9 (.iconst 0) 1 10 := ⟨by decide +kernel, rfl⟩
theorem D_X10_thing_10 : Dec mi_X10_thing 10 (.bipush 8) 2 12 := ⟨by decide +kernel, rfl⟩
theorem D_X10_thing_12 : Dec mi_X10_thing 12 (.invokestatic 78) 3 15 := ⟨by decide +kernel, rfl⟩
theorem D_X10_thing_15 : DecJ mi_X10_thing 15 (.ifCond .eq 31) (31) 18 46 := ⟨by decide +kernel, rfl, by decide⟩
theorem D_X10_thing_18 : Dec mi_X10_thing 18 (.iload_n 2) 1 19 := ⟨by decide +kernel, rfl⟩
theorem D_X10_thing_19 : Dec mi_X10_thing 19 (.bipush 8) 2 21 := ⟨by decide +kernel, rfl⟩
theorem D_X10_thing_21 : DecJ mi_X10_thing 21 (.if_icmp .ne 16) (16) 24 37 := ⟨by decide +kernel, rfl, by decide⟩
theorem D_X10_thing_24 : Dec mi_X10_thing 24 (.aload_n 0) 1 25 := ⟨by decide +kernel, rfl⟩
theorem D_X10_thing_25 : Dec mi_X10_thing 25 (.getfield 35) 3 28 := ⟨by decide +kernel, rfl⟩
theorem D_X10_thing_28 : Dec mi_X10_thing 28 (.iconst 0) 1 29 := ⟨by decide +kernel, rfl⟩
theorem D_X10_thing_29 : Dec mi_X10_thing 29 (.iaload) 1 30 := ⟨by decide +kernel, rfl⟩
theorem D_X10_thing_30 : Dec mi_X10_thing 30 (.iload_n 1) 1 31 := ⟨by decide +kernel, rfl⟩
theorem D_X10_thing_31 : Dec mi_X10_thing 31 (.invokestatic 145) 3 34 := ⟨by decide +kernel, rfl⟩
theorem D_X10_thing_34 : DecJ mi_X10_thing 34 (.goto 13) (13) 37 47 := ⟨by decide +kernel, rfl, by decide⟩
theorem D_X10_thing_37 : Dec mi_X10_thing 37 (.aload_n 0) 1 38 := ⟨by decide +kernel, rfl⟩
theorem D_X10_thing_38 : Dec mi_X10_thing 38 (.iload_n 1) 1 39 := ⟨by decide +kernel, rfl⟩
theorem D_X10_thing_39 : Dec mi_X10_thing 39 (.iload_n 2) 1 40 := ⟨by decide +kernel, rfl⟩
theorem D_X10_thing_40 : Dec mi_X10_thing 40 (.invokevirtual 148) 3 43 := ⟨by decide +kernel, rfl⟩
theorem D_X10_thing_43 : DecJ mi_X10_thing 43 (.goto 4) (4) 46 47 := ⟨by decide +kernel, rfl, by decide⟩
theorem D_X10_thing_46 : Dec mi_X10_thing 46 (.iconst (-1)) 1 47 := ⟨by decide +kernel, rfl⟩
theorem D_X10_thing_47 : Dec mi_X10_thing 47 (.ireturn) 1 48 := ⟨by decide +kernel, rfl⟩
def f_X10_thing (M : Mem) (a1 : Int32) (a2 : Int32) : Option Int32 := (f_X10_isThing M a1).bind fun x1 => if x1 = 0 then (some (-1 : Int32)) else (if (f_X10_in M a2 (0 : Int32) (8 : Int32)) = 0 then (some (-1 : Int32)) else (if a2 = (8 : Int32) then (if ck (0 : Int32) 3 = true then (some (f_X10_howIs M (M.1 45 (0 : Int32).toNatClampNeg) a1)) else none) else ((f_X10_of M a1 a2).bind fun x7 => some x7)))
theorem x_X10_thing {l : Launch} {w : Wd} {M : Mem} {a1 : Int32} {a2 : Int32} {v : Int32} (h : f_X10_thing M a1 a2 = some v) : Cn l w mi_X10_thing yX10_thing (2) [.ref (wq w 36), .int a1, .int a2] M (some (.int v), M) :=
  Cn_of (loc0 := [some (.ref (wq w 36)), some (.int a1), some (.int a2)]) rfl rfl rfl (Nat.le_of_ble_eq_true rfl) fun κ hq => let_h (show ((f_X10_isThing M a1).bind fun x1 => if x1 = 0 then (some (-1 : Int32)) else (if (f_X10_in M a2 (0 : Int32) (8 : Int32)) = 0 then (some (-1 : Int32)) else (if a2 = (8 : Int32) then (if ck (0 : Int32) 3 = true then (some (f_X10_howIs M (M.1 45 (0 : Int32).toNatClampNeg) a1)) else none) else ((f_X10_of M a1 a2).bind fun x7 => some x7)))) = some v from h) fun h => r_aload_n D_X10_thing_0 rfl <| r_iload_n D_X10_thing_1 rfl <| (bdE h).elim fun x1 q2 => let_h q2.2 fun h => r_callV (av := [.int a1]) D_X10_thing_2 ml_X10_142 mf_X10_isThing mv_X10_isThing s_36 rfl rfl (x_X10_isThing q2.1) (Nat.le_of_ble_eq_true rfl) rfl rfl (Nat.le_of_ble_eq_true rfl) <| r_if_eq D_X10_thing_5 (fun c3 => let_h (ifT c3 h) fun h => r_iconst D_X10_thing_46 ki_m1 <| r_iret hq D_X10_thing_47 rfl (rtP h)) (fun c3 => let_h (ifF c3 h) fun h => r_iload_n D_X10_thing_8 rfl <| r_iconst D_X10_thing_9 ki_0 <| r_bipush D_X10_thing_10 k8_8 <| r_callS (av := [.int a2, .int (0 : Int32), .int (8 : Int32)]) D_X10_thing_12 ml_X10_78 mf_X10_in ms_X10_in (x_X10_in rfl) (Nat.le_of_ble_eq_true rfl) rfl rfl (Nat.le_of_ble_eq_true rfl) <| r_if_eq D_X10_thing_15 (fun c4 => let_h (ifT c4 h) fun h => r_iconst D_X10_thing_46 ki_m1 <| r_iret hq D_X10_thing_47 rfl (rtP h)) (fun c4 => let_h (ifF c4 h) fun h => r_iload_n D_X10_thing_18 rfl <| r_bipush D_X10_thing_19 k8_8 <| r_icmp_ne D_X10_thing_21 (fun c5 => let_h (ifT c5 h) fun h => r_aload_n D_X10_thing_24 rfl <| r_getR (j := 45) D_X10_thing_25 fl_X10_35 s_36 rfl <| r_iconst D_X10_thing_28 ki_0 <| (ckE h).elim fun c6 h => r_iald D_X10_thing_29 s_45 c6 <| r_iload_n D_X10_thing_30 rfl <| r_callS (av := [.int (M.1 45 (0 : Int32).toNatClampNeg), .int a1]) D_X10_thing_31 ml_X10_145 mf_X10_howIs ms_X10_howIs (x_X10_howIs rfl) (Nat.le_of_ble_eq_true rfl) rfl rfl (Nat.le_of_ble_eq_true rfl) <| r_goto D_X10_thing_34 <| r_iret hq D_X10_thing_47 rfl (rtP h)) (fun c5 => let_h (ifF c5 h) fun h => r_aload_n D_X10_thing_37 rfl <| r_iload_n D_X10_thing_38 rfl <| r_iload_n D_X10_thing_39 rfl <| (bdE h).elim fun x7 q8 => let_h q8.2 fun h => r_callV (av := [.int a1, .int a2]) D_X10_thing_40 ml_X10_148 mf_X10_of mv_X10_of s_36 rfl rfl (x_X10_of q8.1) (Nat.le_of_ble_eq_true rfl) rfl rfl (Nat.le_of_ble_eq_true rfl) <| r_goto D_X10_thing_43 <| r_iret hq D_X10_thing_47 rfl (rtP h))))
-- X10_isGoing
theorem D_X10_isGoing_0 : Dec mi_X10_isGoing 0 (.aload_n 0) 1 1 := ⟨by decide +kernel, rfl⟩
theorem D_X10_isGoing_1 : Dec mi_X10_isGoing 1 (.getfield 20) 3 4 := ⟨by decide +kernel, rfl⟩
theorem D_X10_isGoing_4 : Dec mi_X10_isGoing 4 (.iload_n 1) 1 5 := ⟨by decide +kernel, rfl⟩
theorem D_X10_isGoing_5 : Dec mi_X10_isGoing 5 (.iaload) 1 6 := ⟨by decide +kernel, rfl⟩
theorem D_X10_isGoing_6 : Dec mi_X10_isGoing 6 (.iload_n 2) 1 7 := ⟨by decide +kernel, rfl⟩
theorem D_X10_isGoing_7 : Dec mi_X10_isGoing 7 (.ishr) 1 8 := ⟨by decide +kernel, rfl⟩
theorem D_X10_isGoing_8 : Dec mi_X10_isGoing 8 (.iconst 1) 1 9 := ⟨by decide +kernel, rfl⟩
theorem D_X10_isGoing_9 : Dec mi_X10_isGoing 9 (.iand) 1 10 := ⟨by decide +kernel, rfl⟩
theorem D_X10_isGoing_10 : DecJ mi_X10_isGoing 10 (.ifCond .ne 7) (7) 13 17 := ⟨by decide +kernel, rfl, by decide⟩
theorem D_X10_isGoing_13 : Dec mi_X10_isGoing 13 (.iconst 1) 1 14 := ⟨by decide +kernel, rfl⟩
theorem D_X10_isGoing_14 : DecJ mi_X10_isGoing 14 (.goto 4) (4) 17 18 := ⟨by decide +kernel, rfl, by decide⟩
theorem D_X10_isGoing_17 : Dec mi_X10_isGoing 17 (.iconst 0) 1 18 := ⟨by decide +kernel, rfl⟩
theorem D_X10_isGoing_18 : Dec mi_X10_isGoing 18 (.ireturn) 1 19 := ⟨by decide +kernel, rfl⟩
def f_X10_isGoing (M : Mem) (a1 : Int32) (a2 : Int32) : Option Int32 := if ck a1 12 = true then (if (((M.1 40 a1.toNatClampNeg) >>> (a2 &&& 31)) &&& (1 : Int32)) = 0 then (some (1 : Int32)) else (some (0 : Int32))) else none
theorem x_X10_isGoing {l : Launch} {w : Wd} {M : Mem} {a1 : Int32} {a2 : Int32} {v : Int32} (h : f_X10_isGoing M a1 a2 = some v) : Cn l w mi_X10_isGoing yX10_isGoing (0) [.ref (wq w 36), .int a1, .int a2] M (some (.int v), M) :=
  Cn_of (loc0 := [some (.ref (wq w 36)), some (.int a1), some (.int a2)]) rfl rfl rfl (Nat.le_of_ble_eq_true rfl) fun κ hq => let_h (show (if ck a1 12 = true then (if (((M.1 40 a1.toNatClampNeg) >>> (a2 &&& 31)) &&& (1 : Int32)) = 0 then (some (1 : Int32)) else (some (0 : Int32))) else none) = some v from h) fun h => r_aload_n D_X10_isGoing_0 rfl <| r_getR (j := 40) D_X10_isGoing_1 fl_X10_20 s_36 rfl <| r_iload_n D_X10_isGoing_4 rfl <| (ckE h).elim fun c1 h => r_iald D_X10_isGoing_5 s_40 c1 <| r_iload_n D_X10_isGoing_6 rfl <| r_ishr D_X10_isGoing_7 <| r_iconst D_X10_isGoing_8 ki_1 <| r_iand D_X10_isGoing_9 <| r_if_ne D_X10_isGoing_10 (fun c2 => let_h (ifT c2 h) fun h => r_iconst D_X10_isGoing_13 ki_1 <| r_goto D_X10_isGoing_14 <| r_zret hq D_X10_isGoing_18 rfl rfl (rtP h)) (fun c2 => let_h (ifF c2 h) fun h => r_iconst D_X10_isGoing_17 ki_0 <| r_zret hq D_X10_isGoing_18 rfl rfl (rtP h))
-- X10_goes
theorem D_X10_goes_0 : Dec mi_X10_goes 0 (.aload_n 0) 1 1 := ⟨by decide +kernel, rfl⟩
theorem D_X10_goes_1 : Dec mi_X10_goes 1 (.iload_n 1) 1 2 := ⟨by decide +kernel, rfl⟩
theorem D_X10_goes_2 : Dec mi_X10_goes 2 (.invokevirtual 142) 3 5 := ⟨by decide +kernel, rfl⟩
theorem D_X10_goes_5 : DecJ mi_X10_goes 5 (.ifCond .eq 33) (33) 8 38 := ⟨by decide +kernel, rfl, by decide⟩
theorem D_X10_goes_8 : Dec mi_X10_goes 8 (.aload_n 0) 1 9 := ⟨by decide +kernel, rfl⟩
theorem D_X10_goes_9 : Dec mi_X10_goes 9 (.iload_n 2) 1 10 := ⟨by decide +kernel, rfl⟩
theorem D_X10_goes_10 : Dec mi_X10_goes 10 (.invokevirtual 142) 3 13 := ⟨by decide +kernel, rfl⟩
theorem D_X10_goes_13 : DecJ mi_X10_goes 13 (.ifCond .eq 25) (25) 16 38 := ⟨by decide +kernel, rfl, by decide⟩
theorem D_X10_goes_16 : Dec mi_X10_goes 16 (.iload_n 1) 1 17 := ⟨by decide +kernel, rfl⟩
theorem D_X10_goes_17 : Dec mi_X10_goes 17 (.iload_n 2) 1 18 := ⟨by decide +kernel, rfl⟩
theorem D_X10_goes_18 : DecJ mi_X10_goes 18 (.if_icmp .eq 20) (20) 21 38 := ⟨by decide +kernel, rfl, by decide⟩
theorem D_X10_goes_21 : Dec mi_X10_goes 21 (.aload_n 0) 1 22 := ⟨by decide +kernel, rfl⟩
theorem D_X10_goes_22 : Dec mi_X10_goes 22 (.iload_n 1) 1 23 := ⟨by decide +kernel, rfl⟩
theorem D_X10_goes_23 : Dec mi_X10_goes 23 (.iload_n 2) 1 24 := ⟨by decide +kernel, rfl⟩
theorem D_X10_goes_24 : Dec mi_X10_goes 24 (.invokevirtual 151) 3 27 := ⟨by decide +kernel, rfl⟩
theorem D_X10_goes_27 : DecJ mi_X10_goes 27 (.ifCond .eq 7) (7) 30 34 := ⟨by decide +kernel, rfl, by decide⟩
theorem D_X10_goes_30 : Dec mi_X10_goes 30 (.iconst 1) 1 31 := ⟨by decide +kernel, rfl⟩
theorem D_X10_goes_31 : DecJ mi_X10_goes 31 (.goto 8) (8) 34 39 := ⟨by decide +kernel, rfl, by decide⟩
theorem D_X10_goes_34 : Dec mi_X10_goes 34 (.iconst 0) 1 35 := ⟨by decide +kernel, rfl⟩
theorem D_X10_goes_35 : DecJ mi_X10_goes 35 (.goto 4) (4) 38 39 := ⟨by decide +kernel, rfl, by decide⟩
theorem D_X10_goes_38 : Dec mi_X10_goes 38 (.iconst (-1)) 1 39 := ⟨by decide +kernel, rfl⟩
theorem D_X10_goes_39 : Dec mi_X10_goes 39 (.ireturn) 1 40 := ⟨by decide +kernel, rfl⟩
def f_X10_goes (M : Mem) (a1 : Int32) (a2 : Int32) : Option Int32 := (f_X10_isThing M a1).bind fun x1 => if x1 = 0 then (some (-1 : Int32)) else ((f_X10_isThing M a2).bind fun x4 => if x4 = 0 then (some (-1 : Int32)) else (if a1 = a2 then (some (-1 : Int32)) else ((f_X10_isGoing M a1 a2).bind fun x8 => if x8 = 0 then (some (0 : Int32)) else (some (1 : Int32)))))
theorem x_X10_goes {l : Launch} {w : Wd} {M : Mem} {a1 : Int32} {a2 : Int32} {v : Int32} (h : f_X10_goes M a1 a2 = some v) : Cn l w mi_X10_goes yX10_goes (2) [.ref (wq w 36), .int a1, .int a2] M (some (.int v), M) :=
  Cn_of (loc0 := [some (.ref (wq w 36)), some (.int a1), some (.int a2)]) rfl rfl rfl (Nat.le_of_ble_eq_true rfl) fun κ hq => let_h (show ((f_X10_isThing M a1).bind fun x1 => if x1 = 0 then (some (-1 : Int32)) else ((f_X10_isThing M a2).bind fun x4 => if x4 = 0 then (some (-1 : Int32)) else (if a1 = a2 then (some (-1 : Int32)) else ((f_X10_isGoing M a1 a2).bind fun x8 => if x8 = 0 then (some (0 : Int32)) else (some (1 : Int32)))))) = some v from h) fun h => r_aload_n D_X10_goes_0 rfl <| r_iload_n D_X10_goes_1 rfl <| (bdE h).elim fun x1 q2 => let_h q2.2 fun h => r_callV (av := [.int a1]) D_X10_goes_2 ml_X10_142 mf_X10_isThing mv_X10_isThing s_36 rfl rfl (x_X10_isThing q2.1) (Nat.le_of_ble_eq_true rfl) rfl rfl (Nat.le_of_ble_eq_true rfl) <| r_if_eq D_X10_goes_5 (fun c3 => let_h (ifT c3 h) fun h => r_iconst D_X10_goes_38 ki_m1 <| r_iret hq D_X10_goes_39 rfl (rtP h)) (fun c3 => let_h (ifF c3 h) fun h => r_aload_n D_X10_goes_8 rfl <| r_iload_n D_X10_goes_9 rfl <| (bdE h).elim fun x4 q5 => let_h q5.2 fun h => r_callV (av := [.int a2]) D_X10_goes_10 ml_X10_142 mf_X10_isThing mv_X10_isThing s_36 rfl rfl (x_X10_isThing q5.1) (Nat.le_of_ble_eq_true rfl) rfl rfl (Nat.le_of_ble_eq_true rfl) <| r_if_eq D_X10_goes_13 (fun c6 => let_h (ifT c6 h) fun h => r_iconst D_X10_goes_38 ki_m1 <| r_iret hq D_X10_goes_39 rfl (rtP h)) (fun c6 => let_h (ifF c6 h) fun h => r_iload_n D_X10_goes_16 rfl <| r_iload_n D_X10_goes_17 rfl <| r_icmp_eq D_X10_goes_18 (fun c7 => let_h (ifT c7 h) fun h => r_iconst D_X10_goes_38 ki_m1 <| r_iret hq D_X10_goes_39 rfl (rtP h)) (fun c7 => let_h (ifF c7 h) fun h => r_aload_n D_X10_goes_21 rfl <| r_iload_n D_X10_goes_22 rfl <| r_iload_n D_X10_goes_23 rfl <| (bdE h).elim fun x8 q9 => let_h q9.2 fun h => r_callV (av := [.int a1, .int a2]) D_X10_goes_24 ml_X10_151 mf_X10_isGoing mv_X10_isGoing s_36 rfl rfl (x_X10_isGoing q9.1) (Nat.le_of_ble_eq_true rfl) rfl rfl (Nat.le_of_ble_eq_true rfl) <| r_if_eq D_X10_goes_27 (fun c10 => let_h (ifT c10 h) fun h => r_iconst D_X10_goes_34 ki_0 <| r_goto D_X10_goes_35 <| r_iret hq D_X10_goes_39 rfl (rtP h)) (fun c10 => let_h (ifF c10 h) fun h => r_iconst D_X10_goes_30 ki_1 <| r_goto D_X10_goes_31 <| r_iret hq D_X10_goes_39 rfl (rtP h)))))
-- X10_day
theorem D_X10_day_0 : Dec mi_X10_day 0 (.iload_n 1) 1 1 := ⟨by decide +kernel, rfl⟩
theorem D_X10_day_1 : Dec mi_X10_day 1 (.iconst 0) 1 2 := ⟨by decide +kernel, rfl⟩
theorem D_X10_day_2 : Dec mi_X10_day 2 (.aload_n 0) 1 3 := ⟨by decide +kernel, rfl⟩
theorem D_X10_day_3 : Dec mi_X10_day 3 (.getfield 23) 3 6 := ⟨by decide +kernel, rfl⟩
theorem D_X10_day_6 : Dec mi_X10_day 6 (.iconst 0) 1 7 := ⟨by decide +kernel, rfl⟩
theorem D_X10_day_7 : Dec mi_X10_day 7 (.iaload) 1 8 := ⟨by decide +kernel, rfl⟩
theorem D_X10_day_8 : Dec mi_X10_day 8 (.iconst 1) 1 9 := ⟨by decide +kernel, rfl⟩
theorem D_X10_day_9 : Dec mi_X10_day 9 (.isub) 1 10 := ⟨by decide +kernel, rfl⟩
theorem D_X10_day_10 : Dec mi_X10_day 10 (.invokestatic 78) 3 13 := ⟨by decide +kernel, rfl⟩
theorem D_X10_day_13 : DecJ mi_X10_day 13 (.ifCond .eq 25) (25) 16 38 := ⟨by decide +kernel, rfl, by decide⟩
theorem D_X10_day_16 : Dec mi_X10_day 16 (.iload_n 2) 1 17 := ⟨by decide +kernel, rfl⟩
theorem D_X10_day_17 : Dec mi_X10_day 17 (.iconst 0) 1 18 := ⟨by decide +kernel, rfl⟩
theorem D_X10_day_18 : Dec mi_X10_day 18 (.iconst 3) 1 19 := ⟨by decide +kernel, rfl⟩
theorem D_X10_day_19 : Dec mi_X10_day 19 (.invokestatic 78) 3 22 := ⟨by decide +kernel, rfl⟩
theorem D_X10_day_22 : DecJ mi_X10_day 22 (.ifCond .eq 16) (16) 25 38 := ⟨by decide +kernel, rfl, by decide⟩
theorem D_X10_day_25 : Dec mi_X10_day 25 (.aload_n 0) 1 26 := ⟨by decide +kernel, rfl⟩
theorem D_X10_day_26 : Dec mi_X10_day 26 (.getfield 26) 3 29 := ⟨by decide +kernel, rfl⟩
theorem D_X10_day_29 : Dec mi_X10_day 29 (.iconst 4) 1 30 := ⟨by decide +kernel, rfl⟩
theorem D_X10_day_30 : Dec mi_X10_day 30 (.iload_n 1) 1 31 := ⟨by decide +kernel, rfl⟩
theorem D_X10_day_31 : Dec mi_X10_day 31 (.imul) 1 32 := ⟨by decide +kernel, rfl⟩
theorem D_X10_day_32 : Dec mi_X10_day 32 (.iload_n 2) 1 33 := ⟨by decide +kernel, rfl⟩
theorem D_X10_day_33 : Dec mi_X10_day 33 (.iadd) 1 34 := ⟨by decide +kernel, rfl⟩
theorem D_X10_day_34 : Dec mi_X10_day 34 (.iaload) 1 35 := ⟨by decide +kernel, rfl⟩
theorem D_X10_day_35 : DecJ mi_X10_day 35 (.goto 4) (4) 38 39 := ⟨by decide +kernel, rfl, by decide⟩
theorem D_X10_day_38 : Dec mi_X10_day 38 (.iconst (-1)) 1 39 := ⟨by decide +kernel, rfl⟩
theorem D_X10_day_39 : Dec mi_X10_day 39 (.ireturn) 1 40 := ⟨by decide +kernel, rfl⟩
def f_X10_day (M : Mem) (a1 : Int32) (a2 : Int32) : Option Int32 := if ck (0 : Int32) 2 = true then (if (f_X10_in M a1 (0 : Int32) ((M.1 41 (0 : Int32).toNatClampNeg) - (1 : Int32))) = 0 then (some (-1 : Int32)) else (if (f_X10_in M a2 (0 : Int32) (3 : Int32)) = 0 then (some (-1 : Int32)) else (if ck (((4 : Int32) * a1) + a2) 64 = true then (some (M.1 42 (((4 : Int32) * a1) + a2).toNatClampNeg)) else none))) else none
theorem x_X10_day {l : Launch} {w : Wd} {M : Mem} {a1 : Int32} {a2 : Int32} {v : Int32} (h : f_X10_day M a1 a2 = some v) : Cn l w mi_X10_day yX10_day (1) [.ref (wq w 36), .int a1, .int a2] M (some (.int v), M) :=
  Cn_of (loc0 := [some (.ref (wq w 36)), some (.int a1), some (.int a2)]) rfl rfl rfl (Nat.le_of_ble_eq_true rfl) fun κ hq => let_h (show (if ck (0 : Int32) 2 = true then (if (f_X10_in M a1 (0 : Int32) ((M.1 41 (0 : Int32).toNatClampNeg) - (1 : Int32))) = 0 then (some (-1 : Int32)) else (if (f_X10_in M a2 (0 : Int32) (3 : Int32)) = 0 then (some (-1 : Int32)) else (if ck (((4 : Int32) * a1) + a2) 64 = true then (some (M.1 42 (((4 : Int32) * a1) + a2).toNatClampNeg)) else none))) else none) = some v from h) fun h => r_iload_n D_X10_day_0 rfl <| r_iconst D_X10_day_1 ki_0 <| r_aload_n D_X10_day_2 rfl <| r_getR (j := 41) D_X10_day_3 fl_X10_23 s_36 rfl <| r_iconst D_X10_day_6 ki_0 <| (ckE h).elim fun c1 h => r_iald D_X10_day_7 s_41 c1 <| r_iconst D_X10_day_8 ki_1 <| r_isub D_X10_day_9 <| r_callS (av := [.int a1, .int (0 : Int32), .int ((M.1 41 (0 : Int32).toNatClampNeg) - (1 : Int32))]) D_X10_day_10 ml_X10_78 mf_X10_in ms_X10_in (x_X10_in rfl) (Nat.le_of_ble_eq_true rfl) rfl rfl (Nat.le_of_ble_eq_true rfl) <| r_if_eq D_X10_day_13 (fun c2 => let_h (ifT c2 h) fun h => r_iconst D_X10_day_38 ki_m1 <| r_iret hq D_X10_day_39 rfl (rtP h)) (fun c2 => let_h (ifF c2 h) fun h => r_iload_n D_X10_day_16 rfl <| r_iconst D_X10_day_17 ki_0 <| r_iconst D_X10_day_18 ki_3 <| r_callS (av := [.int a2, .int (0 : Int32), .int (3 : Int32)]) D_X10_day_19 ml_X10_78 mf_X10_in ms_X10_in (x_X10_in rfl) (Nat.le_of_ble_eq_true rfl) rfl rfl (Nat.le_of_ble_eq_true rfl) <| r_if_eq D_X10_day_22 (fun c3 => let_h (ifT c3 h) fun h => r_iconst D_X10_day_38 ki_m1 <| r_iret hq D_X10_day_39 rfl (rtP h)) (fun c3 => let_h (ifF c3 h) fun h => r_aload_n D_X10_day_25 rfl <| r_getR (j := 42) D_X10_day_26 fl_X10_26 s_36 rfl <| r_iconst D_X10_day_29 ki_4 <| r_iload_n D_X10_day_30 rfl <| r_imul D_X10_day_31 <| r_iload_n D_X10_day_32 rfl <| r_iadd D_X10_day_33 <| (ckE h).elim fun c4 h => r_iald D_X10_day_34 s_42 c4 <| r_goto D_X10_day_35 <| r_iret hq D_X10_day_39 rfl (rtP h)))
-- X10_tune
theorem D_X10_tune_0 : Dec mi_X10_tune 0 (.iload_n 1) 1 1 := ⟨by decide +kernel, rfl⟩
theorem D_X10_tune_1 : Dec mi_X10_tune 1 (.iconst 0) 1 2 := ⟨by decide +kernel, rfl⟩
theorem D_X10_tune_2 : Dec mi_X10_tune 2 (.iconst 2) 1 3 := ⟨by decide +kernel, rfl⟩
theorem D_X10_tune_3 : Dec mi_X10_tune 3 (.invokestatic 78) 3 6 := ⟨by decide +kernel, rfl⟩
theorem D_X10_tune_6 : DecJ mi_X10_tune 6 (.ifCond .eq 31) (31) 9 37 := ⟨by decide +kernel, rfl, by decide⟩
theorem D_X10_tune_9 : Dec mi_X10_tune 9 (.iload_n 2) 1 10 := ⟨by decide +kernel, rfl⟩
theorem D_X10_tune_10 : Dec mi_X10_tune 10 (.iload_n 1) 1 11 := ⟨by decide +kernel, rfl⟩
theorem D_X10_tune_11 : DecJ mi_X10_tune 11 (.ifCond .ne 7) (7) 14 18 := ⟨by decide +kernel, rfl, by decide⟩
theorem D_X10_tune_14 : Dec mi_X10_tune 14 (.iconst 0) 1 15 := ⟨by decide +kernel, rfl⟩
theorem D_X10_tune_15 : DecJ mi_X10_tune 15 (.goto 4) (4) 18 19 := ⟨by decide +kernel, rfl, by decide⟩
theorem D_X10_tune_18 : Dec mi_X10_tune 18 (.iconst 1) 1 19 := ⟨by decide +kernel, rfl⟩
theorem D_X10_tune_19 : Dec mi_X10_tune 19 (.iload_n 1) 1 20 := ⟨by decide +kernel, rfl⟩
theorem D_X10_tune_20 : Dec mi_X10_tune 20 (.iconst 1) 1 21 := ⟨by decide +kernel, rfl⟩
theorem D_X10_tune_21 : DecJ mi_X10_tune 21 (.if_icmp .ne 7) (7) 24 28 := ⟨by decide +kernel, rfl, by decide⟩
theorem D_X10_tune_24 : Dec mi_X10_tune 24 (.iconst 4) 1 25 := ⟨by decide +kernel, rfl⟩
theorem D_X10_tune_25 : DecJ mi_X10_tune 25 (.goto 6) (6) 28 31 := ⟨by decide +kernel, rfl, by decide⟩
theorem D_X10_tune_28 : Dec mi_X10_tune 28 (.sipush 999) 3 31 := ⟨by decide +kernel, rfl⟩
theorem D_X10_tune_31 : Dec mi_X10_tune 31 (.invokestatic 78) 3 34 := ⟨by decide +kernel, rfl⟩
theorem D_X10_tune_34 : DecJ mi_X10_tune 34 (.ifCond .ne 5) (5) 37 39 := ⟨by decide +kernel, rfl, by decide⟩
theorem D_X10_tune_37 : Dec mi_X10_tune 37 (.iconst (-1)) 1 38 := ⟨by decide +kernel, rfl⟩
theorem D_X10_tune_38 : Dec mi_X10_tune 38 (.ireturn) 1 39 := ⟨by decide +kernel, rfl⟩
theorem D_X10_tune_39 : Dec mi_X10_tune 39 (.aload_n 0) 1 40 := ⟨by decide +kernel, rfl⟩
theorem D_X10_tune_40 : Dec mi_X10_tune 40 (.getfield 29) 3 43 := ⟨by decide +kernel, rfl⟩
theorem D_X10_tune_43 : Dec mi_X10_tune 43 (.iload_n 1) 1 44 := ⟨by decide +kernel, rfl⟩
theorem D_X10_tune_44 : Dec mi_X10_tune 44 (.iaload) 1 45 := ⟨by decide +kernel, rfl⟩
theorem D_X10_tune_45 : Dec mi_X10_tune 45 (.istore_n 3) 1 46 := ⟨by decide +kernel, rfl⟩
theorem D_X10_tune_46 : Dec mi_X10_tune 46 (.aload_n 0) 1 47 := ⟨by decide +kernel, rfl⟩
theorem D_X10_tune_47 : Dec mi_X10_tune 47 (.getfield 29) 3 50 := ⟨by decide +kernel, rfl⟩
theorem D_X10_tune_50 : Dec mi_X10_tune 50 (.iload_n 1) 1 51 := ⟨by decide +kernel, rfl⟩
theorem D_X10_tune_51 : Dec mi_X10_tune 51 (.iload_n 2) 1 52 := ⟨by decide +kernel, rfl⟩
theorem D_X10_tune_52 : Dec mi_X10_tune 52 (.iastore) 1 53 := ⟨by decide +kernel, rfl⟩
theorem D_X10_tune_53 : Dec mi_X10_tune 53 (.iload_n 3) 1 54 := ⟨by decide +kernel, rfl⟩
theorem D_X10_tune_54 : Dec mi_X10_tune 54 (.ireturn) 1 55 := ⟨by decide +kernel, rfl⟩
def f_X10_tune_31 (y1 : Int32) (y2 : Int32) (t0 : Int32) (t1 : Int32) (t2 : Int32) (N : Mem) : Option (Int32 × Mem) := if (f_X10_in N t2 t1 t0) = 0 then (some ((-1 : Int32), N)) else (if ck y1 3 = true then (if ck y1 3 = true then (vlet (setI N 43 y1.toNatClampNeg y2) fun M4 => some ((N.1 43 y1.toNatClampNeg), M4)) else none) else none)
theorem x_X10_tune_31 {l : Launch} {w : Wd} {κ : Kp} {v : Int32 × Mem} (hq : RQ w (some (.int v.1), v.2) κ) (y1 : Int32) (y2 : Int32) (t0 : Int32) (t1 : Int32) (t2 : Int32) (N : Mem) (h : f_X10_tune_31 y1 y2 t0 t1 t2 N = some v) : RR l w mi_X10_tune (1) κ 31 [.int t0, .int t1, .int t2] [some (.ref (wq w 36)), some (.int y1), some (.int y2), none] N := let_h (show (if (f_X10_in N t2 t1 t0) = 0 then (some ((-1 : Int32), N)) else (if ck y1 3 = true then (if ck y1 3 = true then (vlet (setI N 43 y1.toNatClampNeg y2) fun M4 => some ((N.1 43 y1.toNatClampNeg), M4)) else none) else none)) = some v from h) fun h => r_callS (av := [.int t2, .int t1, .int t0]) D_X10_tune_31 ml_X10_78 mf_X10_in ms_X10_in (x_X10_in rfl) (Nat.le_of_ble_eq_true rfl) rfl rfl (Nat.le_of_ble_eq_true rfl) <| r_if_ne D_X10_tune_34 (fun c1 => let_h (ifT c1 h) fun h => r_iconst D_X10_tune_37 ki_m1 <| r_iret hq D_X10_tune_38 rfl (rtW h)) (fun c1 => let_h (ifF c1 h) fun h => r_aload_n D_X10_tune_39 rfl <| r_getR (j := 43) D_X10_tune_40 fl_X10_29 s_36 rfl <| r_iload_n D_X10_tune_43 rfl <| (ckE h).elim fun c2 h => r_iald D_X10_tune_44 s_43 c2 <| r_istore_n D_X10_tune_45 (by decide) rfl <| r_aload_n D_X10_tune_46 rfl <| r_getR (j := 43) D_X10_tune_47 fl_X10_29 s_36 rfl <| r_iload_n D_X10_tune_50 rfl <| r_iload_n D_X10_tune_51 rfl <| (ckE h).elim fun c3 h => r_iast D_X10_tune_52 s_43 c3 <| mlE h fun M4 h => r_iload_n D_X10_tune_53 rfl <| r_iret hq D_X10_tune_54 rfl (rtW h))
def f_X10_tune (M : Mem) (a1 : Int32) (a2 : Int32) : Option (Int32 × Mem) := if (f_X10_in M a1 (0 : Int32) (2 : Int32)) = 0 then (some ((-1 : Int32), M)) else (if a1 = 0 then (if a1 = (1 : Int32) then (f_X10_tune_31 a1 a2 (4 : Int32) (0 : Int32) a2 M) else (f_X10_tune_31 a1 a2 (999 : Int32) (0 : Int32) a2 M)) else (if a1 = (1 : Int32) then (f_X10_tune_31 a1 a2 (4 : Int32) (1 : Int32) a2 M) else (f_X10_tune_31 a1 a2 (999 : Int32) (1 : Int32) a2 M)))
theorem x_X10_tune {l : Launch} {w : Wd} {M : Mem} {a1 : Int32} {a2 : Int32} {v : Int32 × Mem} (h : f_X10_tune M a1 a2 = some v) : Cn l w mi_X10_tune yX10_tune (1) [.ref (wq w 36), .int a1, .int a2] M (some (.int v.1), v.2) :=
  Cn_of (loc0 := [some (.ref (wq w 36)), some (.int a1), some (.int a2), none]) rfl rfl rfl (Nat.le_of_ble_eq_true rfl) fun κ hq => let_h (show (if (f_X10_in M a1 (0 : Int32) (2 : Int32)) = 0 then (some ((-1 : Int32), M)) else (if a1 = 0 then (if a1 = (1 : Int32) then (f_X10_tune_31 a1 a2 (4 : Int32) (0 : Int32) a2 M) else (f_X10_tune_31 a1 a2 (999 : Int32) (0 : Int32) a2 M)) else (if a1 = (1 : Int32) then (f_X10_tune_31 a1 a2 (4 : Int32) (1 : Int32) a2 M) else (f_X10_tune_31 a1 a2 (999 : Int32) (1 : Int32) a2 M)))) = some v from h) fun h => r_iload_n D_X10_tune_0 rfl <| r_iconst D_X10_tune_1 ki_0 <| r_iconst D_X10_tune_2 ki_2 <| r_callS (av := [.int a1, .int (0 : Int32), .int (2 : Int32)]) D_X10_tune_3 ml_X10_78 mf_X10_in ms_X10_in (x_X10_in rfl) (Nat.le_of_ble_eq_true rfl) rfl rfl (Nat.le_of_ble_eq_true rfl) <| r_if_eq D_X10_tune_6 (fun c1 => let_h (ifT c1 h) fun h => r_iconst D_X10_tune_37 ki_m1 <| r_iret hq D_X10_tune_38 rfl (rtW h)) (fun c1 => let_h (ifF c1 h) fun h => r_iload_n D_X10_tune_9 rfl <| r_iload_n D_X10_tune_10 rfl <| r_if_ne D_X10_tune_11 (fun c2 => let_h (ifT c2 h) fun h => r_iconst D_X10_tune_14 ki_0 <| r_goto D_X10_tune_15 <| r_iload_n D_X10_tune_19 rfl <| r_iconst D_X10_tune_20 ki_1 <| r_icmp_ne D_X10_tune_21 (fun c3 => let_h (ifT c3 h) fun h => r_iconst D_X10_tune_24 ki_4 <| r_goto D_X10_tune_25 <| r_ls (x_X10_tune_31 hq a1 a2 (4 : Int32) (0 : Int32) a2 M h) ⟨rfl, ⟨rfl, ⟨rfl, trivial⟩⟩⟩) (fun c3 => let_h (ifF c3 h) fun h => r_sipush D_X10_tune_28 k16_999 <| r_ls (x_X10_tune_31 hq a1 a2 (999 : Int32) (0 : Int32) a2 M h) ⟨rfl, ⟨rfl, ⟨rfl, trivial⟩⟩⟩)) (fun c2 => let_h (ifF c2 h) fun h => r_iconst D_X10_tune_18 ki_1 <| r_iload_n D_X10_tune_19 rfl <| r_iconst D_X10_tune_20 ki_1 <| r_icmp_ne D_X10_tune_21 (fun c4 => let_h (ifT c4 h) fun h => r_iconst D_X10_tune_24 ki_4 <| r_goto D_X10_tune_25 <| r_ls (x_X10_tune_31 hq a1 a2 (4 : Int32) (1 : Int32) a2 M h) ⟨rfl, ⟨rfl, ⟨rfl, trivial⟩⟩⟩) (fun c4 => let_h (ifF c4 h) fun h => r_sipush D_X10_tune_28 k16_999 <| r_ls (x_X10_tune_31 hq a1 a2 (999 : Int32) (1 : Int32) a2 M h) ⟨rfl, ⟨rfl, ⟨rfl, trivial⟩⟩⟩)))
-- X10_isOf
theorem D_X10_isOf_0 : Dec mi_X10_isOf 0 (.iload_n 0) 1 1 := ⟨by decide +kernel, rfl⟩
theorem D_X10_isOf_1 : Dec mi_X10_isOf 1 (.iload_n 1) 1 2 := ⟨by decide +kernel, rfl⟩
theorem D_X10_isOf_2 : Dec mi_X10_isOf 2 (.ishr) 1 3 := ⟨by decide +kernel, rfl⟩
theorem D_X10_isOf_3 : Dec mi_X10_isOf 3 (.iconst 1) 1 4 := ⟨by decide +kernel, rfl⟩
theorem D_X10_isOf_4 : Dec mi_X10_isOf 4 (.iand) 1 5 := ⟨by decide +kernel, rfl⟩
theorem D_X10_isOf_5 : Dec mi_X10_isOf 5 (.iconst 1) 1 6 := ⟨by decide +kernel, rfl⟩
theorem D_X10_isOf_6 : DecJ mi_X10_isOf 6 (.if_icmp .ne 7) (7) 9 13 := ⟨by decide +kernel, rfl, by decide⟩
theorem D_X10_isOf_9 : Dec mi_X10_isOf 9 (.iconst 1) 1 10 := ⟨by decide +kernel, rfl⟩
theorem D_X10_isOf_10 : DecJ mi_X10_isOf 10 (.goto 4) (4) 13 14 := ⟨by decide +kernel, rfl, by decide⟩
theorem D_X10_isOf_13 : Dec mi_X10_isOf 13 (.iconst 0) 1 14 := ⟨by decide +kernel, rfl⟩
theorem D_X10_isOf_14 : Dec mi_X10_isOf 14 (.ireturn) 1 15 := ⟨by decide +kernel, rfl⟩
def f_X10_isOf (M : Mem) (a1 : Int32) (a2 : Int32) : Int32 := if ((a1 >>> (a2 &&& 31)) &&& (1 : Int32)) = (1 : Int32) then ((1 : Int32)) else ((0 : Int32))
theorem x_X10_isOf {l : Launch} {w : Wd} {M : Mem} {a1 : Int32} {a2 : Int32} {v : Int32} (h : f_X10_isOf M a1 a2 = v) : Cn l w mi_X10_isOf yX10_isOf (0) [.int a1, .int a2] M (some (.int v), M) :=
  Cn_of (loc0 := [some (.int a1), some (.int a2)]) rfl rfl rfl (Nat.le_of_ble_eq_true rfl) fun κ hq => let_h (show (if ((a1 >>> (a2 &&& 31)) &&& (1 : Int32)) = (1 : Int32) then ((1 : Int32)) else ((0 : Int32))) = v from h) fun h => r_iload_n D_X10_isOf_0 rfl <| r_iload_n D_X10_isOf_1 rfl <| r_ishr D_X10_isOf_2 <| r_iconst D_X10_isOf_3 ki_1 <| r_iand D_X10_isOf_4 <| r_iconst D_X10_isOf_5 ki_1 <| r_icmp_ne D_X10_isOf_6 (fun c1 => let_h (ifT c1 h) fun h => r_iconst D_X10_isOf_9 ki_1 <| r_goto D_X10_isOf_10 <| r_zret hq D_X10_isOf_14 rfl rfl (rtT h)) (fun c1 => let_h (ifF c1 h) fun h => r_iconst D_X10_isOf_13 ki_0 <| r_zret hq D_X10_isOf_14 rfl rfl (rtT h))
-- X10_warmestCoat
theorem D_X10_warmestCoat_0 : Dec mi_X10_warmestCoat 0 (.iconst 0) 1 1 := ⟨by decide +kernel, rfl⟩
theorem D_X10_warmestCoat_1 : Dec mi_X10_warmestCoat 1 (.istore_n 2) 1 2 := ⟨by decide +kernel, rfl⟩
theorem D_X10_warmestCoat_2 : Dec mi_X10_warmestCoat 2 (.iconst 0) 1 3 := ⟨by decide +kernel, rfl⟩
theorem D_X10_warmestCoat_3 : Dec mi_X10_warmestCoat 3 (.istore_n 3) 1 4 := ⟨by decide +kernel, rfl⟩
theorem D_X10_warmestCoat_4 : Dec mi_X10_warmestCoat 4 (.iload_n 3) 1 5 := ⟨by decide +kernel, rfl⟩
theorem D_X10_warmestCoat_5 : Dec mi_X10_warmestCoat 5 (.aload_n 0) 1 6 := ⟨by decide +kernel, rfl⟩
theorem D_X10_warmestCoat_6 : Dec mi_X10_warmestCoat 6 (.getfield 13) 3 9 := ⟨by decide +kernel, rfl⟩
theorem D_X10_warmestCoat_9 : Dec mi_X10_warmestCoat 9 (.iconst 0) 1 10 := ⟨by decide +kernel, rfl⟩
theorem D_X10_warmestCoat_10 : Dec mi_X10_warmestCoat 10 (.iaload) 1 11 := ⟨by decide +kernel, rfl⟩
theorem D_X10_warmestCoat_11 : DecJ mi_X10_warmestCoat 11 (.if_icmp .ge 48) (48) 14 59 := ⟨by decide +kernel, rfl, by decide⟩
theorem D_X10_warmestCoat_14 : Dec mi_X10_warmestCoat 14 (.iload_n 1) 1 15 := ⟨by decide +kernel, rfl⟩
theorem D_X10_warmestCoat_15 : Dec mi_X10_warmestCoat 15 (.iload_n 3) 1 16 := ⟨by decide +kernel, rfl⟩
theorem D_X10_warmestCoat_16 : Dec mi_X10_warmestCoat 16 (.invokestatic 155) 3 19 := ⟨by decide +kernel, rfl⟩
theorem D_X10_warmestCoat_19 : DecJ mi_X10_warmestCoat 19 (.ifCond .eq 32) (32) 22 51 := ⟨by decide +kernel, rfl, by decide⟩
theorem D_X10_warmestCoat_22 : Dec mi_X10_warmestCoat 22 (.aload_n 0) 1 23 := ⟨by decide +kernel, rfl⟩
theorem D_X10_warmestCoat_23 : Dec mi_X10_warmestCoat 23 (.iload_n 3) 1 24 := ⟨by decide +kernel, rfl⟩
theorem D_X10_warmestCoat_24 : Dec mi_X10_warmestCoat 24 (.iconst 0) 1 25 := ⟨by decide +kernel, rfl⟩
theorem D_X10_warmestCoat_25 : Dec mi_X10_warmestCoat 25 (.invokevirtual 148) 3 28 := ⟨by decide +kernel, rfl⟩
theorem D_X10_warmestCoat_28 : Dec mi_X10_warmestCoat 28 (.iconst 2) 1 29 := ⟨by decide +kernel, rfl⟩
theorem D_X10_warmestCoat_29 : DecJ mi_X10_warmestCoat 29 (.if_icmp .ne 22) (22) 32 51 := ⟨by decide +kernel, rfl, by decide⟩
theorem D_X10_warmestCoat_32 : Dec mi_X10_warmestCoat 32 (.aload_n 0) 1 33 := ⟨by decide +kernel, rfl⟩
theorem D_X10_warmestCoat_33 : Dec mi_X10_warmestCoat 33 (.iload_n 3) 1 34 := ⟨by decide +kernel, rfl⟩
theorem D_X10_warmestCoat_34 : Dec mi_X10_warmestCoat 34 (.iconst 1) 1 35 := ⟨by decide +kernel, rfl⟩
theorem D_X10_warmestCoat_35 : Dec mi_X10_warmestCoat 35 (.invokevirtual 148) 3 38 := ⟨by decide +kernel, rfl⟩
theorem D_X10_warmestCoat_38 : Dec mi_X10_warmestCoat 38 (.iload_n 2) 1 39 := ⟨by decide +kernel, rfl⟩
theorem D_X10_warmestCoat_39 : DecJ mi_X10_warmestCoat 39 (.if_icmp .le 12) (12) 42 51 := ⟨by decide +kernel, rfl, by decide⟩
theorem D_X10_warmestCoat_42 : Dec mi_X10_warmestCoat 42 (.aload_n 0) 1 43 := ⟨by decide +kernel, rfl⟩
theorem D_X10_warmestCoat_43 : Dec mi_X10_warmestCoat 43 (.iload_n 3) 1 44 := ⟨by decide +kernel, rfl⟩
theorem D_X10_warmestCoat_44 : Dec mi_X10_warmestCoat 44 (.iconst 1) 1 45 := ⟨by decide +kernel, rfl⟩
theorem D_X10_warmestCoat_45 : Dec mi_X10_warmestCoat 45 (.invokevirtual 148) 3 48 := ⟨by decide +kernel, rfl⟩
theorem D_X10_warmestCoat_48 : DecJ mi_X10_warmestCoat 48 (.goto 4) (4) 51 52 := ⟨by decide +kernel, rfl, by decide⟩
theorem D_X10_warmestCoat_51 : Dec mi_X10_warmestCoat 51 (.iload_n 2) 1 52 := ⟨by decide +kernel, rfl⟩
theorem D_X10_warmestCoat_52 : Dec mi_X10_warmestCoat 52 (.istore_n 2) 1 53 := ⟨by decide +kernel, rfl⟩
theorem D_X10_warmestCoat_53 : Dec mi_X10_warmestCoat 53 (.iinc 3 1) 3 56 := ⟨by decide +kernel, rfl⟩
theorem D_X10_warmestCoat_56 : DecJ mi_X10_warmestCoat 56 (.goto (-52)) (-52) 59 4 := ⟨by decide +kernel, rfl, by decide⟩
theorem D_X10_warmestCoat_59 : Dec mi_X10_warmestCoat 59 (.iload_n 2) 1 60 := ⟨by decide +kernel, rfl⟩
theorem D_X10_warmestCoat_60 : Dec mi_X10_warmestCoat 60 (.ireturn) 1 61 := ⟨by decide +kernel, rfl⟩
def f_X10_warmestCoat_4 (F : Nat) (M : Mem) : Nat → Int32 → Int32 → Int32 → Option Int32
  | 0, _, _, _ => none
  | n + 1, y1, y2, y3 => if ck (0 : Int32) 2 = true then (if (M.1 38 (0 : Int32).toNatClampNeg) ≤ y3 then (some y2) else (if (f_X10_isOf M y1 y3) = 0 then (f_X10_warmestCoat_4 F M n y1 y2 (y3 + (1 : Int32))) else ((f_X10_of M y3 (0 : Int32)).bind fun x4 => if x4 = (2 : Int32) then ((f_X10_of M y3 (1 : Int32)).bind fun x7 => if x7 ≤ y2 then (f_X10_warmestCoat_4 F M n y1 y2 (y3 + (1 : Int32))) else ((f_X10_of M y3 (1 : Int32)).bind fun x10 => f_X10_warmestCoat_4 F M n y1 x10 (y3 + (1 : Int32)))) else (f_X10_warmestCoat_4 F M n y1 y2 (y3 + (1 : Int32)))))) else none
theorem x_X10_warmestCoat_4 {l : Launch} {w : Wd} {κ : Kp} {F : Nat} {M : Mem} {v : Int32} (hq : RQ w (some (.int v), M) κ) : ∀ (n : Nat) (y1 : Int32) (y2 : Int32) (y3 : Int32), f_X10_warmestCoat_4 F M n y1 y2 y3 = some v → RR l w mi_X10_warmestCoat (1) κ 4 [] [some (.ref (wq w 36)), some (.int y1), some (.int y2), some (.int y3)] M
  | 0, _, _, _, h => nomatch h
  | n + 1, y1, y2, y3, h => let_h (show (if ck (0 : Int32) 2 = true then (if (M.1 38 (0 : Int32).toNatClampNeg) ≤ y3 then (some y2) else (if (f_X10_isOf M y1 y3) = 0 then (f_X10_warmestCoat_4 F M n y1 y2 (y3 + (1 : Int32))) else ((f_X10_of M y3 (0 : Int32)).bind fun x4 => if x4 = (2 : Int32) then ((f_X10_of M y3 (1 : Int32)).bind fun x7 => if x7 ≤ y2 then (f_X10_warmestCoat_4 F M n y1 y2 (y3 + (1 : Int32))) else ((f_X10_of M y3 (1 : Int32)).bind fun x10 => f_X10_warmestCoat_4 F M n y1 x10 (y3 + (1 : Int32)))) else (f_X10_warmestCoat_4 F M n y1 y2 (y3 + (1 : Int32)))))) else none) = some v from h) fun h => r_iload_n D_X10_warmestCoat_4 rfl <| r_aload_n D_X10_warmestCoat_5 rfl <| r_getR (j := 38) D_X10_warmestCoat_6 fl_X10_13 s_36 rfl <| r_iconst D_X10_warmestCoat_9 ki_0 <| (ckE h).elim fun c1 h => r_iald D_X10_warmestCoat_10 s_38 c1 <| r_icmp_ge D_X10_warmestCoat_11 (fun c2 => let_h (ifT c2 h) fun h => r_iload_n D_X10_warmestCoat_59 rfl <| r_iret hq D_X10_warmestCoat_60 rfl (rtP h)) (fun c2 => let_h (ifF c2 h) fun h => r_iload_n D_X10_warmestCoat_14 rfl <| r_iload_n D_X10_warmestCoat_15 rfl <| r_callS (av := [.int y1, .int y3]) D_X10_warmestCoat_16 ml_X10_155 mf_X10_isOf ms_X10_isOf (x_X10_isOf rfl) (Nat.le_of_ble_eq_true rfl) rfl rfl (Nat.le_of_ble_eq_true rfl) <| r_if_eq D_X10_warmestCoat_19 (fun c3 => let_h (ifT c3 h) fun h => r_iload_n D_X10_warmestCoat_51 rfl <| r_istore_n D_X10_warmestCoat_52 (by decide) rfl <| r_iinc D_X10_warmestCoat_53 rfl ki_1 (by decide) rfl <| r_goto D_X10_warmestCoat_56 <| r_ls (x_X10_warmestCoat_4 hq n y1 y2 (y3 + (1 : Int32)) h) ⟨rfl, ⟨rfl, ⟨rfl, ⟨rfl, trivial⟩⟩⟩⟩) (fun c3 => let_h (ifF c3 h) fun h => r_aload_n D_X10_warmestCoat_22 rfl <| r_iload_n D_X10_warmestCoat_23 rfl <| r_iconst D_X10_warmestCoat_24 ki_0 <| (bdE h).elim fun x4 q5 => let_h q5.2 fun h => r_callV (av := [.int y3, .int (0 : Int32)]) D_X10_warmestCoat_25 ml_X10_148 mf_X10_of mv_X10_of s_36 rfl rfl (x_X10_of q5.1) (Nat.le_of_ble_eq_true rfl) rfl rfl (Nat.le_of_ble_eq_true rfl) <| r_iconst D_X10_warmestCoat_28 ki_2 <| r_icmp_ne D_X10_warmestCoat_29 (fun c6 => let_h (ifT c6 h) fun h => r_aload_n D_X10_warmestCoat_32 rfl <| r_iload_n D_X10_warmestCoat_33 rfl <| r_iconst D_X10_warmestCoat_34 ki_1 <| (bdE h).elim fun x7 q8 => let_h q8.2 fun h => r_callV (av := [.int y3, .int (1 : Int32)]) D_X10_warmestCoat_35 ml_X10_148 mf_X10_of mv_X10_of s_36 rfl rfl (x_X10_of q8.1) (Nat.le_of_ble_eq_true rfl) rfl rfl (Nat.le_of_ble_eq_true rfl) <| r_iload_n D_X10_warmestCoat_38 rfl <| r_icmp_le D_X10_warmestCoat_39 (fun c9 => let_h (ifT c9 h) fun h => r_iload_n D_X10_warmestCoat_51 rfl <| r_istore_n D_X10_warmestCoat_52 (by decide) rfl <| r_iinc D_X10_warmestCoat_53 rfl ki_1 (by decide) rfl <| r_goto D_X10_warmestCoat_56 <| r_ls (x_X10_warmestCoat_4 hq n y1 y2 (y3 + (1 : Int32)) h) ⟨rfl, ⟨rfl, ⟨rfl, ⟨rfl, trivial⟩⟩⟩⟩) (fun c9 => let_h (ifF c9 h) fun h => r_aload_n D_X10_warmestCoat_42 rfl <| r_iload_n D_X10_warmestCoat_43 rfl <| r_iconst D_X10_warmestCoat_44 ki_1 <| (bdE h).elim fun x10 q11 => let_h q11.2 fun h => r_callV (av := [.int y3, .int (1 : Int32)]) D_X10_warmestCoat_45 ml_X10_148 mf_X10_of mv_X10_of s_36 rfl rfl (x_X10_of q11.1) (Nat.le_of_ble_eq_true rfl) rfl rfl (Nat.le_of_ble_eq_true rfl) <| r_goto D_X10_warmestCoat_48 <| r_istore_n D_X10_warmestCoat_52 (by decide) rfl <| r_iinc D_X10_warmestCoat_53 rfl ki_1 (by decide) rfl <| r_goto D_X10_warmestCoat_56 <| r_ls (x_X10_warmestCoat_4 hq n y1 x10 (y3 + (1 : Int32)) h) ⟨rfl, ⟨rfl, ⟨rfl, ⟨rfl, trivial⟩⟩⟩⟩)) (fun c6 => let_h (ifF c6 h) fun h => r_iload_n D_X10_warmestCoat_51 rfl <| r_istore_n D_X10_warmestCoat_52 (by decide) rfl <| r_iinc D_X10_warmestCoat_53 rfl ki_1 (by decide) rfl <| r_goto D_X10_warmestCoat_56 <| r_ls (x_X10_warmestCoat_4 hq n y1 y2 (y3 + (1 : Int32)) h) ⟨rfl, ⟨rfl, ⟨rfl, ⟨rfl, trivial⟩⟩⟩⟩)))
def f_X10_warmestCoat (F : Nat) (M : Mem) (a1 : Int32) : Option Int32 := f_X10_warmestCoat_4 F M F a1 (0 : Int32) (0 : Int32)
theorem x_X10_warmestCoat {l : Launch} {w : Wd} {F : Nat} {M : Mem} {a1 : Int32} {v : Int32} (h : f_X10_warmestCoat F M a1 = some v) : Cn l w mi_X10_warmestCoat yX10_warmestCoat (1) [.ref (wq w 36), .int a1] M (some (.int v), M) :=
  Cn_of (loc0 := [some (.ref (wq w 36)), some (.int a1), none, none]) rfl rfl rfl (Nat.le_of_ble_eq_true rfl) fun κ hq => let_h (show (f_X10_warmestCoat_4 F M F a1 (0 : Int32) (0 : Int32)) = some v from h) fun h => r_iconst D_X10_warmestCoat_0 ki_0 <| r_istore_n D_X10_warmestCoat_1 (by decide) rfl <| r_iconst D_X10_warmestCoat_2 ki_0 <| r_istore_n D_X10_warmestCoat_3 (by decide) rfl <| r_ls (x_X10_warmestCoat_4 hq F a1 (0 : Int32) (0 : Int32) h) ⟨rfl, ⟨rfl, ⟨rfl, ⟨rfl, trivial⟩⟩⟩⟩
-- X10_hasCoat
theorem D_X10_hasCoat_0 : Dec mi_X10_hasCoat 0 (.iconst 0) 1 1 := ⟨by decide +kernel, rfl⟩
theorem D_X10_hasCoat_1 : Dec mi_X10_hasCoat 1 (.istore_n 2) 1 2 := ⟨by decide +kernel, rfl⟩
theorem D_X10_hasCoat_2 : Dec mi_X10_hasCoat 2 (.iconst 0) 1 3 := ⟨by decide +kernel, rfl⟩
theorem D_X10_hasCoat_3 : Dec mi_X10_hasCoat 3 (.istore_n 3) 1 4 := ⟨by decide +kernel, rfl⟩
theorem D_X10_hasCoat_4 : Dec mi_X10_hasCoat 4 (.iload_n 3) 1 5 := ⟨by decide +kernel, rfl⟩
theorem D_X10_hasCoat_5 : Dec mi_X10_hasCoat 5 (.aload_n 0) 1 6 := ⟨by decide +kernel, rfl⟩
theorem D_X10_hasCoat_6 : Dec mi_X10_hasCoat 6 (.getfield 13) 3 9 := ⟨by decide +kernel, rfl⟩
theorem D_X10_hasCoat_9 : Dec mi_X10_hasCoat 9 (.iconst 0) 1 10 := ⟨by decide +kernel, rfl⟩
theorem D_X10_hasCoat_10 : Dec mi_X10_hasCoat 10 (.iaload) 1 11 := ⟨by decide +kernel, rfl⟩
theorem D_X10_hasCoat_11 : DecJ mi_X10_hasCoat 11 (.if_icmp .ge 37) (37) 14 48 := ⟨by decide +kernel, rfl, by decide⟩
theorem D_X10_hasCoat_14 : Dec mi_X10_hasCoat 14 (.iload_n 2) 1 15 := ⟨by decide +kernel, rfl⟩
theorem D_X10_hasCoat_15 : DecJ mi_X10_hasCoat 15 (.ifCond .ne 21) (21) 18 36 := ⟨by decide +kernel, rfl, by decide⟩
theorem D_X10_hasCoat_18 : Dec mi_X10_hasCoat 18 (.iload_n 1) 1 19 := ⟨by decide +kernel, rfl⟩
theorem D_X10_hasCoat_19 : Dec mi_X10_hasCoat 19 (.iload_n 3) 1 20 := ⟨by decide +kernel, rfl⟩
theorem D_X10_hasCoat_20 : Dec mi_X10_hasCoat 20 (.invokestatic 155) 3 23 := ⟨by decide +kernel, rfl⟩
theorem D_X10_hasCoat_23 : DecJ mi_X10_hasCoat 23 (.ifCond .eq 17) (17) 26 40 := ⟨by decide +kernel, rfl, by decide⟩
theorem D_X10_hasCoat_26 : Dec mi_X10_hasCoat 26 (.aload_n 0) 1 27 := ⟨by decide +kernel, rfl⟩
theorem D_X10_hasCoat_27 : Dec mi_X10_hasCoat 27 (.iload_n 3) 1 28 := ⟨by decide +kernel, rfl⟩
theorem D_X10_hasCoat_28 : Dec mi_X10_hasCoat 28 (.iconst 0) 1 29 := ⟨by decide +kernel, rfl⟩
theorem D_X10_hasCoat_29 : Dec mi_X10_hasCoat 29 (.invokevirtual 148) 3 32 := ⟨by decide +kernel, rfl⟩
theorem D_X10_hasCoat_32 : Dec mi_X10_hasCoat 32 (.iconst 2) 1 33 := ⟨by decide +kernel, rfl⟩
theorem D_X10_hasCoat_33 : DecJ mi_X10_hasCoat 33 (.if_icmp .ne 7) (7) 36 40 := ⟨by decide +kernel, rfl, by decide⟩
theorem D_X10_hasCoat_36 : Dec mi_X10_hasCoat 36 (.iconst 1) 1 37 := ⟨by decide +kernel, rfl⟩
theorem D_X10_hasCoat_37 : DecJ mi_X10_hasCoat 37 (.goto 4) (4) 40 41 := ⟨by decide +kernel, rfl, by decide⟩
theorem D_X10_hasCoat_40 : Dec mi_X10_hasCoat 40 (.iconst 0) 1 41 := ⟨by decide +kernel, rfl⟩
theorem D_X10_hasCoat_41 : Dec mi_X10_hasCoat 41 (.istore_n 2) 1 42 := ⟨by decide +kernel, rfl⟩
theorem D_X10_hasCoat_42 : Dec mi_X10_hasCoat 42 (.iinc 3 1) 3 45 := ⟨by decide +kernel, rfl⟩
theorem D_X10_hasCoat_45 : DecJ mi_X10_hasCoat 45 (.goto (-41)) (-41) 48 4 := ⟨by decide +kernel, rfl, by decide⟩
theorem D_X10_hasCoat_48 : Dec mi_X10_hasCoat 48 (.iload_n 2) 1 49 := ⟨by decide +kernel, rfl⟩
theorem D_X10_hasCoat_49 : Dec mi_X10_hasCoat 49 (.ireturn) 1 50 := ⟨by decide +kernel, rfl⟩
def f_X10_hasCoat_4 (F : Nat) (M : Mem) : Nat → Int32 → Int32 → Int32 → Option Int32
  | 0, _, _, _ => none
  | n + 1, y1, y2, y3 => if ck (0 : Int32) 2 = true then (if (M.1 38 (0 : Int32).toNatClampNeg) ≤ y3 then (if y2 &&& 1 = y2 then some y2 else none) else (if y2 = 0 then (if (f_X10_isOf M y1 y3) = 0 then (f_X10_hasCoat_4 F M n y1 (0 : Int32) (y3 + (1 : Int32))) else ((f_X10_of M y3 (0 : Int32)).bind fun x5 => if x5 = (2 : Int32) then (f_X10_hasCoat_4 F M n y1 (1 : Int32) (y3 + (1 : Int32))) else (f_X10_hasCoat_4 F M n y1 (0 : Int32) (y3 + (1 : Int32))))) else (f_X10_hasCoat_4 F M n y1 (1 : Int32) (y3 + (1 : Int32))))) else none
theorem x_X10_hasCoat_4 {l : Launch} {w : Wd} {κ : Kp} {F : Nat} {M : Mem} {v : Int32} (hq : RQ w (some (.int v), M) κ) : ∀ (n : Nat) (y1 : Int32) (y2 : Int32) (y3 : Int32), f_X10_hasCoat_4 F M n y1 y2 y3 = some v → RR l w mi_X10_hasCoat (1) κ 4 [] [some (.ref (wq w 36)), some (.int y1), some (.int y2), some (.int y3)] M
  | 0, _, _, _, h => nomatch h
  | n + 1, y1, y2, y3, h => let_h (show (if ck (0 : Int32) 2 = true then (if (M.1 38 (0 : Int32).toNatClampNeg) ≤ y3 then (if y2 &&& 1 = y2 then some y2 else none) else (if y2 = 0 then (if (f_X10_isOf M y1 y3) = 0 then (f_X10_hasCoat_4 F M n y1 (0 : Int32) (y3 + (1 : Int32))) else ((f_X10_of M y3 (0 : Int32)).bind fun x5 => if x5 = (2 : Int32) then (f_X10_hasCoat_4 F M n y1 (1 : Int32) (y3 + (1 : Int32))) else (f_X10_hasCoat_4 F M n y1 (0 : Int32) (y3 + (1 : Int32))))) else (f_X10_hasCoat_4 F M n y1 (1 : Int32) (y3 + (1 : Int32))))) else none) = some v from h) fun h => r_iload_n D_X10_hasCoat_4 rfl <| r_aload_n D_X10_hasCoat_5 rfl <| r_getR (j := 38) D_X10_hasCoat_6 fl_X10_13 s_36 rfl <| r_iconst D_X10_hasCoat_9 ki_0 <| (ckE h).elim fun c1 h => r_iald D_X10_hasCoat_10 s_38 c1 <| r_icmp_ge D_X10_hasCoat_11 (fun c2 => let_h (ifT c2 h) fun h => r_iload_n D_X10_hasCoat_48 rfl <| (bzE h).elim fun cz h => r_zret hq D_X10_hasCoat_49 rfl (nbz cz) (rtP h)) (fun c2 => let_h (ifF c2 h) fun h => r_iload_n D_X10_hasCoat_14 rfl <| r_if_ne D_X10_hasCoat_15 (fun c3 => let_h (ifT c3 h) fun h => r_iload_n D_X10_hasCoat_18 rfl <| r_iload_n D_X10_hasCoat_19 rfl <| r_callS (av := [.int y1, .int y3]) D_X10_hasCoat_20 ml_X10_155 mf_X10_isOf ms_X10_isOf (x_X10_isOf rfl) (Nat.le_of_ble_eq_true rfl) rfl rfl (Nat.le_of_ble_eq_true rfl) <| r_if_eq D_X10_hasCoat_23 (fun c4 => let_h (ifT c4 h) fun h => r_iconst D_X10_hasCoat_40 ki_0 <| r_istore_n D_X10_hasCoat_41 (by decide) rfl <| r_iinc D_X10_hasCoat_42 rfl ki_1 (by decide) rfl <| r_goto D_X10_hasCoat_45 <| r_ls (x_X10_hasCoat_4 hq n y1 (0 : Int32) (y3 + (1 : Int32)) h) ⟨rfl, ⟨rfl, ⟨rfl, ⟨rfl, trivial⟩⟩⟩⟩) (fun c4 => let_h (ifF c4 h) fun h => r_aload_n D_X10_hasCoat_26 rfl <| r_iload_n D_X10_hasCoat_27 rfl <| r_iconst D_X10_hasCoat_28 ki_0 <| (bdE h).elim fun x5 q6 => let_h q6.2 fun h => r_callV (av := [.int y3, .int (0 : Int32)]) D_X10_hasCoat_29 ml_X10_148 mf_X10_of mv_X10_of s_36 rfl rfl (x_X10_of q6.1) (Nat.le_of_ble_eq_true rfl) rfl rfl (Nat.le_of_ble_eq_true rfl) <| r_iconst D_X10_hasCoat_32 ki_2 <| r_icmp_ne D_X10_hasCoat_33 (fun c7 => let_h (ifT c7 h) fun h => r_iconst D_X10_hasCoat_36 ki_1 <| r_goto D_X10_hasCoat_37 <| r_istore_n D_X10_hasCoat_41 (by decide) rfl <| r_iinc D_X10_hasCoat_42 rfl ki_1 (by decide) rfl <| r_goto D_X10_hasCoat_45 <| r_ls (x_X10_hasCoat_4 hq n y1 (1 : Int32) (y3 + (1 : Int32)) h) ⟨rfl, ⟨rfl, ⟨rfl, ⟨rfl, trivial⟩⟩⟩⟩) (fun c7 => let_h (ifF c7 h) fun h => r_iconst D_X10_hasCoat_40 ki_0 <| r_istore_n D_X10_hasCoat_41 (by decide) rfl <| r_iinc D_X10_hasCoat_42 rfl ki_1 (by decide) rfl <| r_goto D_X10_hasCoat_45 <| r_ls (x_X10_hasCoat_4 hq n y1 (0 : Int32) (y3 + (1 : Int32)) h) ⟨rfl, ⟨rfl, ⟨rfl, ⟨rfl, trivial⟩⟩⟩⟩))) (fun c3 => let_h (ifF c3 h) fun h => r_iconst D_X10_hasCoat_36 ki_1 <| r_goto D_X10_hasCoat_37 <| r_istore_n D_X10_hasCoat_41 (by decide) rfl <| r_iinc D_X10_hasCoat_42 rfl ki_1 (by decide) rfl <| r_goto D_X10_hasCoat_45 <| r_ls (x_X10_hasCoat_4 hq n y1 (1 : Int32) (y3 + (1 : Int32)) h) ⟨rfl, ⟨rfl, ⟨rfl, ⟨rfl, trivial⟩⟩⟩⟩))
def f_X10_hasCoat (F : Nat) (M : Mem) (a1 : Int32) : Option Int32 := f_X10_hasCoat_4 F M F a1 (0 : Int32) (0 : Int32)
theorem x_X10_hasCoat {l : Launch} {w : Wd} {F : Nat} {M : Mem} {a1 : Int32} {v : Int32} (h : f_X10_hasCoat F M a1 = some v) : Cn l w mi_X10_hasCoat yX10_hasCoat (1) [.ref (wq w 36), .int a1] M (some (.int v), M) :=
  Cn_of (loc0 := [some (.ref (wq w 36)), some (.int a1), none, none]) rfl rfl rfl (Nat.le_of_ble_eq_true rfl) fun κ hq => let_h (show (f_X10_hasCoat_4 F M F a1 (0 : Int32) (0 : Int32)) = some v from h) fun h => r_iconst D_X10_hasCoat_0 ki_0 <| r_istore_n D_X10_hasCoat_1 (by decide) rfl <| r_iconst D_X10_hasCoat_2 ki_0 <| r_istore_n D_X10_hasCoat_3 (by decide) rfl <| r_ls (x_X10_hasCoat_4 hq F a1 (0 : Int32) (0 : Int32) h) ⟨rfl, ⟨rfl, ⟨rfl, ⟨rfl, trivial⟩⟩⟩⟩
-- X10_mayWear
theorem D_X10_mayWear_0 : Dec mi_X10_mayWear 0 (.iload_n 3) 1 1 := ⟨by decide +kernel, rfl⟩
theorem D_X10_mayWear_1 : Dec mi_X10_mayWear 1 (.aload_n 0) 1 2 := ⟨by decide +kernel, rfl⟩
theorem D_X10_mayWear_2 : Dec mi_X10_mayWear 2 (.getfield 13) 3 5 := ⟨by decide +kernel, rfl⟩
theorem D_X10_mayWear_5 : Dec mi_X10_mayWear 5 (.iconst 0) 1 6 := ⟨by decide +kernel, rfl⟩
theorem D_X10_mayWear_6 : Dec mi_X10_mayWear 6 (.iaload) 1 7 := ⟨by decide +kernel, rfl⟩
theorem D_X10_mayWear_7 : DecJ mi_X10_mayWear 7 (.if_icmp .ge 65) (65) 10 72 := ⟨by decide +kernel, rfl, by decide⟩
theorem D_X10_mayWear_10 : Dec mi_X10_mayWear 10 (.iload 4) 2 12 := ⟨by decide +kernel, rfl⟩
theorem D_X10_mayWear_12 : Dec mi_X10_mayWear 12 (.aload_n 0) 1 13 := ⟨by decide +kernel, rfl⟩
theorem D_X10_mayWear_13 : Dec mi_X10_mayWear 13 (.getfield 13) 3 16 := ⟨by decide +kernel, rfl⟩
theorem D_X10_mayWear_16 : Dec mi_X10_mayWear 16 (.iconst 0) 1 17 := ⟨by decide +kernel, rfl⟩
theorem D_X10_mayWear_17 : Dec mi_X10_mayWear 17 (.iaload) 1 18 := ⟨by decide +kernel, rfl⟩
theorem D_X10_mayWear_18 : DecJ mi_X10_mayWear 18 (.if_icmp .ge 54) (54) 21 72 := ⟨by decide +kernel, rfl, by decide⟩
theorem D_X10_mayWear_21 : Dec mi_X10_mayWear 21 (.iload_n 1) 1 22 := ⟨by decide +kernel, rfl⟩
theorem D_X10_mayWear_22 : Dec mi_X10_mayWear 22 (.iload_n 3) 1 23 := ⟨by decide +kernel, rfl⟩
theorem D_X10_mayWear_23 : Dec mi_X10_mayWear 23 (.invokestatic 155) 3 26 := ⟨by decide +kernel, rfl⟩
theorem D_X10_mayWear_26 : DecJ mi_X10_mayWear 26 (.ifCond .eq 46) (46) 29 72 := ⟨by decide +kernel, rfl, by decide⟩
theorem D_X10_mayWear_29 : Dec mi_X10_mayWear 29 (.iload_n 1) 1 30 := ⟨by decide +kernel, rfl⟩
theorem D_X10_mayWear_30 : Dec mi_X10_mayWear 30 (.iload 4) 2 32 := ⟨by decide +kernel, rfl⟩
theorem D_X10_mayWear_32 : Dec mi_X10_mayWear 32 (.invokestatic 155) 3 35 := ⟨by decide +kernel, rfl⟩
theorem D_X10_mayWear_35 : DecJ mi_X10_mayWear 35 (.ifCond .eq 37) (37) 38 72 := ⟨by decide +kernel, rfl, by decide⟩
theorem D_X10_mayWear_38 : Dec mi_X10_mayWear 38 (.aload_n 0) 1 39 := ⟨by decide +kernel, rfl⟩
theorem D_X10_mayWear_39 : Dec mi_X10_mayWear 39 (.iload_n 3) 1 40 := ⟨by decide +kernel, rfl⟩
theorem D_X10_mayWear_40 : Dec mi_X10_mayWear 40 (.iconst 0) 1 41 := ⟨by decide +kernel, rfl⟩
theorem D_X10_mayWear_41 : Dec mi_X10_mayWear 41 (.invokevirtual 148) 3 44 := ⟨by decide +kernel, rfl⟩
theorem D_X10_mayWear_44 : DecJ mi_X10_mayWear 44 (.ifCond .ne 28) (28) 47 72 := ⟨by decide +kernel, rfl, by decide⟩
theorem D_X10_mayWear_47 : Dec mi_X10_mayWear 47 (.aload_n 0) 1 48 := ⟨by decide +kernel, rfl⟩
theorem D_X10_mayWear_48 : Dec mi_X10_mayWear 48 (.iload 4) 2 50 := ⟨by decide +kernel, rfl⟩
theorem D_X10_mayWear_50 : Dec mi_X10_mayWear 50 (.iconst 0) 1 51 := ⟨by decide +kernel, rfl⟩
theorem D_X10_mayWear_51 : Dec mi_X10_mayWear 51 (.invokevirtual 148) 3 54 := ⟨by decide +kernel, rfl⟩
theorem D_X10_mayWear_54 : Dec mi_X10_mayWear 54 (.iconst 1) 1 55 := ⟨by decide +kernel, rfl⟩
theorem D_X10_mayWear_55 : DecJ mi_X10_mayWear 55 (.if_icmp .ne 17) (17) 58 72 := ⟨by decide +kernel, rfl, by decide⟩
theorem D_X10_mayWear_58 : Dec mi_X10_mayWear 58 (.aload_n 0) 1 59 := ⟨by decide +kernel, rfl⟩
theorem D_X10_mayWear_59 : Dec mi_X10_mayWear 59 (.iload_n 3) 1 60 := ⟨by decide +kernel, rfl⟩
theorem D_X10_mayWear_60 : Dec mi_X10_mayWear 60 (.iload 4) 2 62 := ⟨by decide +kernel, rfl⟩
theorem D_X10_mayWear_62 : Dec mi_X10_mayWear 62 (.invokevirtual 151) 3 65 := ⟨by decide +kernel, rfl⟩
theorem D_X10_mayWear_65 : DecJ mi_X10_mayWear 65 (.ifCond .eq 7) (7) 68 72 := ⟨by decide +kernel, rfl, by decide⟩
theorem D_X10_mayWear_68 : Dec mi_X10_mayWear 68 (.iconst 1) 1 69 := ⟨by decide +kernel, rfl⟩
theorem D_X10_mayWear_69 : DecJ mi_X10_mayWear 69 (.goto 4) (4) 72 73 := ⟨by decide +kernel, rfl, by decide⟩
theorem D_X10_mayWear_72 : Dec mi_X10_mayWear 72 (.iconst 0) 1 73 := ⟨by decide +kernel, rfl⟩
theorem D_X10_mayWear_73 : Dec mi_X10_mayWear 73 (.istore 5) 2 75 := ⟨by decide +kernel, rfl⟩
theorem D_X10_mayWear_75 : Dec mi_X10_mayWear 75 (.iload 5) 2 77 := ⟨by decide +kernel, rfl⟩
theorem D_X10_mayWear_77 : DecJ mi_X10_mayWear 77 (.ifCond .eq 77) (77) 80 154 := ⟨by decide +kernel, rfl, by decide⟩
theorem D_X10_mayWear_80 : Dec mi_X10_mayWear 80 (.aload_n 0) 1 81 := ⟨by decide +kernel, rfl⟩
theorem D_X10_mayWear_81 : Dec mi_X10_mayWear 81 (.iload_n 3) 1 82 := ⟨by decide +kernel, rfl⟩
theorem D_X10_mayWear_82 : Dec mi_X10_mayWear 82 (.iconst 2) 1 83 := ⟨by decide +kernel, rfl⟩
theorem D_X10_mayWear_83 : Dec mi_X10_mayWear 83 (.invokevirtual 148) 3 86 := ⟨by decide +kernel, rfl⟩
theorem D_X10_mayWear_86 : Dec mi_X10_mayWear 86 (.aload_n 0) 1 87 := ⟨by decide +kernel, rfl⟩
theorem D_X10_mayWear_87 : Dec mi_X10_mayWear 87 (.getfield 26) 3 90 := ⟨by decide +kernel, rfl⟩
theorem D_X10_mayWear_90 : Dec mi_X10_mayWear 90 (.iconst 4) 1 91 := ⟨by decide +kernel, rfl⟩
theorem D_X10_mayWear_91 : Dec mi_X10_mayWear 91 (.iload_n 2) 1 92 := ⟨by decide +kernel, rfl⟩
theorem D_X10_mayWear_92 : Dec mi_X10_mayWear 92 (.imul) 1 93 := ⟨by decide +kernel, rfl⟩
theorem D_X10_mayWear_93 : Dec mi_X10_mayWear 93 (.iconst 1) 1 94 := ⟨by decide +kernel, rfl⟩
theorem D_X10_mayWear_94 : Dec mi_X10_mayWear 94 (.iadd) 1 95 := ⟨by decide +kernel, rfl⟩
theorem D_X10_mayWear_95 : Dec mi_X10_mayWear 95 (.iaload) 1 96 := ⟨by decide +kernel, rfl⟩
theorem D_X10_mayWear_96 : DecJ mi_X10_mayWear 96 (.if_icmp .lt 58) (58) 99 154 := ⟨by decide +kernel, rfl, by decide⟩
theorem D_X10_mayWear_99 : Dec mi_X10_mayWear 99 (.aload_n 0) 1 100 := ⟨by decide +kernel, rfl⟩
theorem D_X10_mayWear_100 : Dec mi_X10_mayWear 100 (.iload 4) 2 102 := ⟨by decide +kernel, rfl⟩
theorem D_X10_mayWear_102 : Dec mi_X10_mayWear 102 (.iconst 2) 1 103 := ⟨by decide +kernel, rfl⟩
theorem D_X10_mayWear_103 : Dec mi_X10_mayWear 103 (.invokevirtual 148) 3 106 := ⟨by decide +kernel, rfl⟩
theorem D_X10_mayWear_106 : Dec mi_X10_mayWear 106 (.aload_n 0) 1 107 := ⟨by decide +kernel, rfl⟩
theorem D_X10_mayWear_107 : Dec mi_X10_mayWear 107 (.getfield 26) 3 110 := ⟨by decide +kernel, rfl⟩
theorem D_X10_mayWear_110 : Dec mi_X10_mayWear 110 (.iconst 4) 1 111 := ⟨by decide +kernel, rfl⟩
theorem D_X10_mayWear_111 : Dec mi_X10_mayWear 111 (.iload_n 2) 1 112 := ⟨by decide +kernel, rfl⟩
theorem D_X10_mayWear_112 : Dec mi_X10_mayWear 112 (.imul) 1 113 := ⟨by decide +kernel, rfl⟩
theorem D_X10_mayWear_113 : Dec mi_X10_mayWear 113 (.iconst 1) 1 114 := ⟨by decide +kernel, rfl⟩
theorem D_X10_mayWear_114 : Dec mi_X10_mayWear 114 (.iadd) 1 115 := ⟨by decide +kernel, rfl⟩
theorem D_X10_mayWear_115 : Dec mi_X10_mayWear 115 (.iaload) 1 116 := ⟨by decide +kernel, rfl⟩
theorem D_X10_mayWear_116 : DecJ mi_X10_mayWear 116 (.if_icmp .lt 38) (38) 119 154 := ⟨by decide +kernel, rfl, by decide⟩
theorem D_X10_mayWear_119 : Dec mi_X10_mayWear 119 (.aload_n 0) 1 120 := ⟨by decide +kernel, rfl⟩
theorem D_X10_mayWear_120 : Dec mi_X10_mayWear 120 (.iload_n 3) 1 121 := ⟨by decide +kernel, rfl⟩
theorem D_X10_mayWear_121 : Dec mi_X10_mayWear 121 (.iconst 1) 1 122 := ⟨by decide +kernel, rfl⟩
theorem D_X10_mayWear_122 : Dec mi_X10_mayWear 122 (.invokevirtual 148) 3 125 := ⟨by decide +kernel, rfl⟩
theorem D_X10_mayWear_125 : Dec mi_X10_mayWear 125 (.aload_n 0) 1 126 := ⟨by decide +kernel, rfl⟩
theorem D_X10_mayWear_126 : Dec mi_X10_mayWear 126 (.iload 4) 2 128 := ⟨by decide +kernel, rfl⟩
theorem D_X10_mayWear_128 : Dec mi_X10_mayWear 128 (.iconst 1) 1 129 := ⟨by decide +kernel, rfl⟩
theorem D_X10_mayWear_129 : Dec mi_X10_mayWear 129 (.invokevirtual 148) 3 132 := ⟨by decide +kernel, rfl⟩
theorem D_X10_mayWear_132 : Dec mi_X10_mayWear 132 (.iadd) 1 133 := ⟨by decide +kernel, rfl⟩
theorem D_X10_mayWear_133 : Dec mi_X10_mayWear 133 (.aload_n 0) 1 134 := ⟨by decide +kernel, rfl⟩
theorem D_X10_mayWear_134 : Dec mi_X10_mayWear 134 (.iload_n 1) 1 135 := ⟨by decide +kernel, rfl⟩
theorem D_X10_mayWear_135 : Dec mi_X10_mayWear 135 (.invokevirtual 158) 3 138 := ⟨by decide +kernel, rfl⟩
theorem D_X10_mayWear_138 : Dec mi_X10_mayWear 138 (.iadd) 1 139 := ⟨by decide +kernel, rfl⟩
theorem D_X10_mayWear_139 : Dec mi_X10_mayWear 139 (.aload_n 0) 1 140 := ⟨by decide +kernel, rfl⟩
theorem D_X10_mayWear_140 : Dec mi_X10_mayWear 140 (.getfield 26) 3 143 := ⟨by decide +kernel, rfl⟩
theorem D_X10_mayWear_143 : Dec mi_X10_mayWear 143 (.iconst 4) 1 144 := ⟨by decide +kernel, rfl⟩
theorem D_X10_mayWear_144 : Dec mi_X10_mayWear 144 (.iload_n 2) 1 145 := ⟨by decide +kernel, rfl⟩
theorem D_X10_mayWear_145 : Dec mi_X10_mayWear 145 (.imul) 1 146 := ⟨by decide +kernel, rfl⟩
theorem D_X10_mayWear_146 : Dec mi_X10_mayWear 146 (.iaload) 1 147 := ⟨by decide +kernel, rfl⟩
theorem D_X10_mayWear_147 : DecJ mi_X10_mayWear 147 (.if_icmp .lt 7) (7) 150 154 := ⟨by decide +kernel, rfl, by decide⟩
theorem D_X10_mayWear_150 : Dec mi_X10_mayWear 150 (.iconst 1) 1 151 := ⟨by decide +kernel, rfl⟩
theorem D_X10_mayWear_151 : DecJ mi_X10_mayWear 151 (.goto 4) (4) 154 155 := ⟨by decide +kernel, rfl, by decide⟩
theorem D_X10_mayWear_154 : Dec mi_X10_mayWear 154 (.iconst 0) 1 155 := ⟨by decide +kernel, rfl⟩
theorem D_X10_mayWear_155 : Dec mi_X10_mayWear 155 (.ireturn) 1 156 := ⟨by decide +kernel, rfl⟩
def f_X10_mayWear_73 (F : Nat) (M : Mem) (y1 : Int32) (y2 : Int32) (y3 : Int32) (y4 : Int32) (t0 : Int32) : Option Int32 := if t0 = 0 then (some (0 : Int32)) else ((f_X10_of M y3 (2 : Int32)).bind fun x2 => if ck (((4 : Int32) * y2) + (1 : Int32)) 64 = true then (if x2 < (M.1 42 (((4 : Int32) * y2) + (1 : Int32)).toNatClampNeg) then (some (0 : Int32)) else ((f_X10_of M y4 (2 : Int32)).bind fun x6 => if ck (((4 : Int32) * y2) + (1 : Int32)) 64 = true then (if x6 < (M.1 42 (((4 : Int32) * y2) + (1 : Int32)).toNatClampNeg) then (some (0 : Int32)) else ((f_X10_of M y3 (1 : Int32)).bind fun x10 => (f_X10_of M y4 (1 : Int32)).bind fun x12 => (f_X10_warmestCoat F M y1).bind fun x14 => if ck ((4 : Int32) * y2) 64 = true then (if ((x10 + x12) + x14) < (M.1 42 ((4 : Int32) * y2).toNatClampNeg) then (some (0 : Int32)) else (some (1 : Int32))) else none)) else none)) else none)
theorem x_X10_mayWear_73 {l : Launch} {w : Wd} {κ : Kp} {F : Nat} {M : Mem} {v : Int32} (hq : RQ w (some (.int v), M) κ) (y1 : Int32) (y2 : Int32) (y3 : Int32) (y4 : Int32) (t0 : Int32) (h : f_X10_mayWear_73 F M y1 y2 y3 y4 t0 = some v) : RR l w mi_X10_mayWear (2) κ 73 [.int t0] [some (.ref (wq w 36)), some (.int y1), some (.int y2), some (.int y3), some (.int y4), none] M := let_h (show (if t0 = 0 then (some (0 : Int32)) else ((f_X10_of M y3 (2 : Int32)).bind fun x2 => if ck (((4 : Int32) * y2) + (1 : Int32)) 64 = true then (if x2 < (M.1 42 (((4 : Int32) * y2) + (1 : Int32)).toNatClampNeg) then (some (0 : Int32)) else ((f_X10_of M y4 (2 : Int32)).bind fun x6 => if ck (((4 : Int32) * y2) + (1 : Int32)) 64 = true then (if x6 < (M.1 42 (((4 : Int32) * y2) + (1 : Int32)).toNatClampNeg) then (some (0 : Int32)) else ((f_X10_of M y3 (1 : Int32)).bind fun x10 => (f_X10_of M y4 (1 : Int32)).bind fun x12 => (f_X10_warmestCoat F M y1).bind fun x14 => if ck ((4 : Int32) * y2) 64 = true then (if ((x10 + x12) + x14) < (M.1 42 ((4 : Int32) * y2).toNatClampNeg) then (some (0 : Int32)) else (some (1 : Int32))) else none)) else none)) else none)) = some v from h) fun h => r_istore D_X10_mayWear_73 (by decide) rfl <| r_iload D_X10_mayWear_75 rfl <| r_if_eq D_X10_mayWear_77 (fun c1 => let_h (ifT c1 h) fun h => r_iconst D_X10_mayWear_154 ki_0 <| r_zret hq D_X10_mayWear_155 rfl rfl (rtP h)) (fun c1 => let_h (ifF c1 h) fun h => r_aload_n D_X10_mayWear_80 rfl <| r_iload_n D_X10_mayWear_81 rfl <| r_iconst D_X10_mayWear_82 ki_2 <| (bdE h).elim fun x2 q3 => let_h q3.2 fun h => r_callV (av := [.int y3, .int (2 : Int32)]) D_X10_mayWear_83 ml_X10_148 mf_X10_of mv_X10_of s_36 rfl rfl (x_X10_of q3.1) (Nat.le_of_ble_eq_true rfl) rfl rfl (Nat.le_of_ble_eq_true rfl) <| r_aload_n D_X10_mayWear_86 rfl <| r_getR (j := 42) D_X10_mayWear_87 fl_X10_26 s_36 rfl <| r_iconst D_X10_mayWear_90 ki_4 <| r_iload_n D_X10_mayWear_91 rfl <| r_imul D_X10_mayWear_92 <| r_iconst D_X10_mayWear_93 ki_1 <| r_iadd D_X10_mayWear_94 <| (ckE h).elim fun c4 h => r_iald D_X10_mayWear_95 s_42 c4 <| r_icmp_lt D_X10_mayWear_96 (fun c5 => let_h (ifT c5 h) fun h => r_iconst D_X10_mayWear_154 ki_0 <| r_zret hq D_X10_mayWear_155 rfl rfl (rtP h)) (fun c5 => let_h (ifF c5 h) fun h => r_aload_n D_X10_mayWear_99 rfl <| r_iload D_X10_mayWear_100 rfl <| r_iconst D_X10_mayWear_102 ki_2 <| (bdE h).elim fun x6 q7 => let_h q7.2 fun h => r_callV (av := [.int y4, .int (2 : Int32)]) D_X10_mayWear_103 ml_X10_148 mf_X10_of mv_X10_of s_36 rfl rfl (x_X10_of q7.1) (Nat.le_of_ble_eq_true rfl) rfl rfl (Nat.le_of_ble_eq_true rfl) <| r_aload_n D_X10_mayWear_106 rfl <| r_getR (j := 42) D_X10_mayWear_107 fl_X10_26 s_36 rfl <| r_iconst D_X10_mayWear_110 ki_4 <| r_iload_n D_X10_mayWear_111 rfl <| r_imul D_X10_mayWear_112 <| r_iconst D_X10_mayWear_113 ki_1 <| r_iadd D_X10_mayWear_114 <| (ckE h).elim fun c8 h => r_iald D_X10_mayWear_115 s_42 c8 <| r_icmp_lt D_X10_mayWear_116 (fun c9 => let_h (ifT c9 h) fun h => r_iconst D_X10_mayWear_154 ki_0 <| r_zret hq D_X10_mayWear_155 rfl rfl (rtP h)) (fun c9 => let_h (ifF c9 h) fun h => r_aload_n D_X10_mayWear_119 rfl <| r_iload_n D_X10_mayWear_120 rfl <| r_iconst D_X10_mayWear_121 ki_1 <| (bdE h).elim fun x10 q11 => let_h q11.2 fun h => r_callV (av := [.int y3, .int (1 : Int32)]) D_X10_mayWear_122 ml_X10_148 mf_X10_of mv_X10_of s_36 rfl rfl (x_X10_of q11.1) (Nat.le_of_ble_eq_true rfl) rfl rfl (Nat.le_of_ble_eq_true rfl) <| r_aload_n D_X10_mayWear_125 rfl <| r_iload D_X10_mayWear_126 rfl <| r_iconst D_X10_mayWear_128 ki_1 <| (bdE h).elim fun x12 q13 => let_h q13.2 fun h => r_callV (av := [.int y4, .int (1 : Int32)]) D_X10_mayWear_129 ml_X10_148 mf_X10_of mv_X10_of s_36 rfl rfl (x_X10_of q13.1) (Nat.le_of_ble_eq_true rfl) rfl rfl (Nat.le_of_ble_eq_true rfl) <| r_iadd D_X10_mayWear_132 <| r_aload_n D_X10_mayWear_133 rfl <| r_iload_n D_X10_mayWear_134 rfl <| (bdE h).elim fun x14 q15 => let_h q15.2 fun h => r_callV (av := [.int y1]) D_X10_mayWear_135 ml_X10_158 mf_X10_warmestCoat mv_X10_warmestCoat s_36 rfl rfl (x_X10_warmestCoat q15.1) (Nat.le_of_ble_eq_true rfl) rfl rfl (Nat.le_of_ble_eq_true rfl) <| r_iadd D_X10_mayWear_138 <| r_aload_n D_X10_mayWear_139 rfl <| r_getR (j := 42) D_X10_mayWear_140 fl_X10_26 s_36 rfl <| r_iconst D_X10_mayWear_143 ki_4 <| r_iload_n D_X10_mayWear_144 rfl <| r_imul D_X10_mayWear_145 <| (ckE h).elim fun c16 h => r_iald D_X10_mayWear_146 s_42 c16 <| r_icmp_lt D_X10_mayWear_147 (fun c17 => let_h (ifT c17 h) fun h => r_iconst D_X10_mayWear_154 ki_0 <| r_zret hq D_X10_mayWear_155 rfl rfl (rtP h)) (fun c17 => let_h (ifF c17 h) fun h => r_iconst D_X10_mayWear_150 ki_1 <| r_goto D_X10_mayWear_151 <| r_zret hq D_X10_mayWear_155 rfl rfl (rtP h)))))
def f_X10_mayWear (F : Nat) (M : Mem) (a1 : Int32) (a2 : Int32) (a3 : Int32) (a4 : Int32) : Option Int32 := if ck (0 : Int32) 2 = true then (if (M.1 38 (0 : Int32).toNatClampNeg) ≤ a3 then (f_X10_mayWear_73 F M a1 a2 a3 a4 (0 : Int32)) else (if ck (0 : Int32) 2 = true then (if (M.1 38 (0 : Int32).toNatClampNeg) ≤ a4 then (f_X10_mayWear_73 F M a1 a2 a3 a4 (0 : Int32)) else (if (f_X10_isOf M a1 a3) = 0 then (f_X10_mayWear_73 F M a1 a2 a3 a4 (0 : Int32)) else (if (f_X10_isOf M a1 a4) = 0 then (f_X10_mayWear_73 F M a1 a2 a3 a4 (0 : Int32)) else ((f_X10_of M a3 (0 : Int32)).bind fun x7 => if x7 = 0 then ((f_X10_of M a4 (0 : Int32)).bind fun x10 => if x10 = (1 : Int32) then ((f_X10_isGoing M a3 a4).bind fun x13 => if x13 = 0 then (f_X10_mayWear_73 F M a1 a2 a3 a4 (0 : Int32)) else (f_X10_mayWear_73 F M a1 a2 a3 a4 (1 : Int32))) else (f_X10_mayWear_73 F M a1 a2 a3 a4 (0 : Int32))) else (f_X10_mayWear_73 F M a1 a2 a3 a4 (0 : Int32)))))) else none)) else none
theorem x_X10_mayWear {l : Launch} {w : Wd} {F : Nat} {M : Mem} {a1 : Int32} {a2 : Int32} {a3 : Int32} {a4 : Int32} {v : Int32} (h : f_X10_mayWear F M a1 a2 a3 a4 = some v) : Cn l w mi_X10_mayWear yX10_mayWear (2) [.ref (wq w 36), .int a1, .int a2, .int a3, .int a4] M (some (.int v), M) :=
  Cn_of (loc0 := [some (.ref (wq w 36)), some (.int a1), some (.int a2), some (.int a3), some (.int a4), none]) rfl rfl rfl (Nat.le_of_ble_eq_true rfl) fun κ hq => let_h (show (if ck (0 : Int32) 2 = true then (if (M.1 38 (0 : Int32).toNatClampNeg) ≤ a3 then (f_X10_mayWear_73 F M a1 a2 a3 a4 (0 : Int32)) else (if ck (0 : Int32) 2 = true then (if (M.1 38 (0 : Int32).toNatClampNeg) ≤ a4 then (f_X10_mayWear_73 F M a1 a2 a3 a4 (0 : Int32)) else (if (f_X10_isOf M a1 a3) = 0 then (f_X10_mayWear_73 F M a1 a2 a3 a4 (0 : Int32)) else (if (f_X10_isOf M a1 a4) = 0 then (f_X10_mayWear_73 F M a1 a2 a3 a4 (0 : Int32)) else ((f_X10_of M a3 (0 : Int32)).bind fun x7 => if x7 = 0 then ((f_X10_of M a4 (0 : Int32)).bind fun x10 => if x10 = (1 : Int32) then ((f_X10_isGoing M a3 a4).bind fun x13 => if x13 = 0 then (f_X10_mayWear_73 F M a1 a2 a3 a4 (0 : Int32)) else (f_X10_mayWear_73 F M a1 a2 a3 a4 (1 : Int32))) else (f_X10_mayWear_73 F M a1 a2 a3 a4 (0 : Int32))) else (f_X10_mayWear_73 F M a1 a2 a3 a4 (0 : Int32)))))) else none)) else none) = some v from h) fun h => r_iload_n D_X10_mayWear_0 rfl <| r_aload_n D_X10_mayWear_1 rfl <| r_getR (j := 38) D_X10_mayWear_2 fl_X10_13 s_36 rfl <| r_iconst D_X10_mayWear_5 ki_0 <| (ckE h).elim fun c1 h => r_iald D_X10_mayWear_6 s_38 c1 <| r_icmp_ge D_X10_mayWear_7 (fun c2 => let_h (ifT c2 h) fun h => r_iconst D_X10_mayWear_72 ki_0 <| r_ls (x_X10_mayWear_73 hq a1 a2 a3 a4 (0 : Int32) h) ⟨rfl, ⟨rfl, ⟨rfl, ⟨rfl, ⟨rfl, trivial⟩⟩⟩⟩⟩) (fun c2 => let_h (ifF c2 h) fun h => r_iload D_X10_mayWear_10 rfl <| r_aload_n D_X10_mayWear_12 rfl <| r_getR (j := 38) D_X10_mayWear_13 fl_X10_13 s_36 rfl <| r_iconst D_X10_mayWear_16 ki_0 <| (ckE h).elim fun c3 h => r_iald D_X10_mayWear_17 s_38 c3 <| r_icmp_ge D_X10_mayWear_18 (fun c4 => let_h (ifT c4 h) fun h => r_iconst D_X10_mayWear_72 ki_0 <| r_ls (x_X10_mayWear_73 hq a1 a2 a3 a4 (0 : Int32) h) ⟨rfl, ⟨rfl, ⟨rfl, ⟨rfl, ⟨rfl, trivial⟩⟩⟩⟩⟩) (fun c4 => let_h (ifF c4 h) fun h => r_iload_n D_X10_mayWear_21 rfl <| r_iload_n D_X10_mayWear_22 rfl <| r_callS (av := [.int a1, .int a3]) D_X10_mayWear_23 ml_X10_155 mf_X10_isOf ms_X10_isOf (x_X10_isOf rfl) (Nat.le_of_ble_eq_true rfl) rfl rfl (Nat.le_of_ble_eq_true rfl) <| r_if_eq D_X10_mayWear_26 (fun c5 => let_h (ifT c5 h) fun h => r_iconst D_X10_mayWear_72 ki_0 <| r_ls (x_X10_mayWear_73 hq a1 a2 a3 a4 (0 : Int32) h) ⟨rfl, ⟨rfl, ⟨rfl, ⟨rfl, ⟨rfl, trivial⟩⟩⟩⟩⟩) (fun c5 => let_h (ifF c5 h) fun h => r_iload_n D_X10_mayWear_29 rfl <| r_iload D_X10_mayWear_30 rfl <| r_callS (av := [.int a1, .int a4]) D_X10_mayWear_32 ml_X10_155 mf_X10_isOf ms_X10_isOf (x_X10_isOf rfl) (Nat.le_of_ble_eq_true rfl) rfl rfl (Nat.le_of_ble_eq_true rfl) <| r_if_eq D_X10_mayWear_35 (fun c6 => let_h (ifT c6 h) fun h => r_iconst D_X10_mayWear_72 ki_0 <| r_ls (x_X10_mayWear_73 hq a1 a2 a3 a4 (0 : Int32) h) ⟨rfl, ⟨rfl, ⟨rfl, ⟨rfl, ⟨rfl, trivial⟩⟩⟩⟩⟩) (fun c6 => let_h (ifF c6 h) fun h => r_aload_n D_X10_mayWear_38 rfl <| r_iload_n D_X10_mayWear_39 rfl <| r_iconst D_X10_mayWear_40 ki_0 <| (bdE h).elim fun x7 q8 => let_h q8.2 fun h => r_callV (av := [.int a3, .int (0 : Int32)]) D_X10_mayWear_41 ml_X10_148 mf_X10_of mv_X10_of s_36 rfl rfl (x_X10_of q8.1) (Nat.le_of_ble_eq_true rfl) rfl rfl (Nat.le_of_ble_eq_true rfl) <| r_if_ne D_X10_mayWear_44 (fun c9 => let_h (ifT c9 h) fun h => r_aload_n D_X10_mayWear_47 rfl <| r_iload D_X10_mayWear_48 rfl <| r_iconst D_X10_mayWear_50 ki_0 <| (bdE h).elim fun x10 q11 => let_h q11.2 fun h => r_callV (av := [.int a4, .int (0 : Int32)]) D_X10_mayWear_51 ml_X10_148 mf_X10_of mv_X10_of s_36 rfl rfl (x_X10_of q11.1) (Nat.le_of_ble_eq_true rfl) rfl rfl (Nat.le_of_ble_eq_true rfl) <| r_iconst D_X10_mayWear_54 ki_1 <| r_icmp_ne D_X10_mayWear_55 (fun c12 => let_h (ifT c12 h) fun h => r_aload_n D_X10_mayWear_58 rfl <| r_iload_n D_X10_mayWear_59 rfl <| r_iload D_X10_mayWear_60 rfl <| (bdE h).elim fun x13 q14 => let_h q14.2 fun h => r_callV (av := [.int a3, .int a4]) D_X10_mayWear_62 ml_X10_151 mf_X10_isGoing mv_X10_isGoing s_36 rfl rfl (x_X10_isGoing q14.1) (Nat.le_of_ble_eq_true rfl) rfl rfl (Nat.le_of_ble_eq_true rfl) <| r_if_eq D_X10_mayWear_65 (fun c15 => let_h (ifT c15 h) fun h => r_iconst D_X10_mayWear_72 ki_0 <| r_ls (x_X10_mayWear_73 hq a1 a2 a3 a4 (0 : Int32) h) ⟨rfl, ⟨rfl, ⟨rfl, ⟨rfl, ⟨rfl, trivial⟩⟩⟩⟩⟩) (fun c15 => let_h (ifF c15 h) fun h => r_iconst D_X10_mayWear_68 ki_1 <| r_goto D_X10_mayWear_69 <| r_ls (x_X10_mayWear_73 hq a1 a2 a3 a4 (1 : Int32) h) ⟨rfl, ⟨rfl, ⟨rfl, ⟨rfl, ⟨rfl, trivial⟩⟩⟩⟩⟩)) (fun c12 => let_h (ifF c12 h) fun h => r_iconst D_X10_mayWear_72 ki_0 <| r_ls (x_X10_mayWear_73 hq a1 a2 a3 a4 (0 : Int32) h) ⟨rfl, ⟨rfl, ⟨rfl, ⟨rfl, ⟨rfl, trivial⟩⟩⟩⟩⟩)) (fun c9 => let_h (ifF c9 h) fun h => r_iconst D_X10_mayWear_72 ki_0 <| r_ls (x_X10_mayWear_73 hq a1 a2 a3 a4 (0 : Int32) h) ⟨rfl, ⟨rfl, ⟨rfl, ⟨rfl, ⟨rfl, trivial⟩⟩⟩⟩⟩)))))
-- X10_isWearable
theorem D_X10_isWearable_0 : Dec mi_X10_isWearable 0 (.iload_n 0) 1 1 := ⟨by decide +kernel, rfl⟩
theorem D_X10_isWearable_1 : Dec mi_X10_isWearable 1 (.iload_n 1) 1 2 := ⟨by decide +kernel, rfl⟩
theorem D_X10_isWearable_2 : Dec mi_X10_isWearable 2 (.invokestatic 145) 3 5 := ⟨by decide +kernel, rfl⟩
theorem D_X10_isWearable_5 : Dec mi_X10_isWearable 5 (.iconst 1) 1 6 := ⟨by decide +kernel, rfl⟩
theorem D_X10_isWearable_6 : DecJ mi_X10_isWearable 6 (.if_icmp .gt 7) (7) 9 13 := ⟨by decide +kernel, rfl, by decide⟩
theorem D_X10_isWearable_9 : Dec mi_X10_isWearable 9 (.iconst 1) 1 10 := ⟨by decide +kernel, rfl⟩
theorem D_X10_isWearable_10 : DecJ mi_X10_isWearable 10 (.goto 4) (4) 13 14 := ⟨by decide +kernel, rfl, by decide⟩
theorem D_X10_isWearable_13 : Dec mi_X10_isWearable 13 (.iconst 0) 1 14 := ⟨by decide +kernel, rfl⟩
theorem D_X10_isWearable_14 : Dec mi_X10_isWearable 14 (.ireturn) 1 15 := ⟨by decide +kernel, rfl⟩
def f_X10_isWearable (M : Mem) (a1 : Int32) (a2 : Int32) : Int32 := if (1 : Int32) < (f_X10_howIs M a1 a2) then ((0 : Int32)) else ((1 : Int32))
theorem x_X10_isWearable {l : Launch} {w : Wd} {M : Mem} {a1 : Int32} {a2 : Int32} {v : Int32} (h : f_X10_isWearable M a1 a2 = v) : Cn l w mi_X10_isWearable yX10_isWearable (1) [.int a1, .int a2] M (some (.int v), M) :=
  Cn_of (loc0 := [some (.int a1), some (.int a2)]) rfl rfl rfl (Nat.le_of_ble_eq_true rfl) fun κ hq => let_h (show (if (1 : Int32) < (f_X10_howIs M a1 a2) then ((0 : Int32)) else ((1 : Int32))) = v from h) fun h => r_iload_n D_X10_isWearable_0 rfl <| r_iload_n D_X10_isWearable_1 rfl <| r_callS (av := [.int a1, .int a2]) D_X10_isWearable_2 ml_X10_145 mf_X10_howIs ms_X10_howIs (x_X10_howIs rfl) (Nat.le_of_ble_eq_true rfl) rfl rfl (Nat.le_of_ble_eq_true rfl) <| r_iconst D_X10_isWearable_5 ki_1 <| r_icmp_gt D_X10_isWearable_6 (fun c1 => let_h (ifT c1 h) fun h => r_iconst D_X10_isWearable_13 ki_0 <| r_zret hq D_X10_isWearable_14 rfl rfl (rtT h)) (fun c1 => let_h (ifF c1 h) fun h => r_iconst D_X10_isWearable_9 ki_1 <| r_goto D_X10_isWearable_10 <| r_zret hq D_X10_isWearable_14 rfl rfl (rtT h))
-- X10_worn
theorem D_X10_worn_0 : Dec mi_X10_worn 0 (.iload_n 1) 1 1 := ⟨by decide +kernel, rfl⟩
theorem D_X10_worn_1 : Dec mi_X10_worn 1 (.iload_n 2) 1 2 := ⟨by decide +kernel, rfl⟩
theorem D_X10_worn_2 : Dec mi_X10_worn 2 (.invokestatic 145) 3 5 := ⟨by decide +kernel, rfl⟩
theorem D_X10_worn_5 : DecJ mi_X10_worn 5 (.ifCond .ne 26) (26) 8 31 := ⟨by decide +kernel, rfl, by decide⟩
theorem D_X10_worn_8 : Dec mi_X10_worn 8 (.aload_n 0) 1 9 := ⟨by decide +kernel, rfl⟩
theorem D_X10_worn_9 : Dec mi_X10_worn 9 (.iload_n 2) 1 10 := ⟨by decide +kernel, rfl⟩
theorem D_X10_worn_10 : Dec mi_X10_worn 10 (.bipush 6) 2 12 := ⟨by decide +kernel, rfl⟩
theorem D_X10_worn_12 : Dec mi_X10_worn 12 (.invokevirtual 148) 3 15 := ⟨by decide +kernel, rfl⟩
theorem D_X10_worn_15 : Dec mi_X10_worn 15 (.iconst 2) 1 16 := ⟨by decide +kernel, rfl⟩
theorem D_X10_worn_16 : DecJ mi_X10_worn 16 (.if_icmp .ne 15) (15) 19 31 := ⟨by decide +kernel, rfl, by decide⟩
theorem D_X10_worn_19 : Dec mi_X10_worn 19 (.iload_n 3) 1 20 := ⟨by decide +kernel, rfl⟩
theorem D_X10_worn_20 : DecJ mi_X10_worn 20 (.ifCond .eq 7) (7) 23 27 := ⟨by decide +kernel, rfl, by decide⟩
theorem D_X10_worn_23 : Dec mi_X10_worn 23 (.iconst 3) 1 24 := ⟨by decide +kernel, rfl⟩
theorem D_X10_worn_24 : DecJ mi_X10_worn 24 (.goto 8) (8) 27 32 := ⟨by decide +kernel, rfl, by decide⟩
theorem D_X10_worn_27 : Dec mi_X10_worn 27 (.iconst 1) 1 28 := ⟨by decide +kernel, rfl⟩
theorem D_X10_worn_28 : DecJ mi_X10_worn 28 (.goto 4) (4) 31 32 := ⟨by decide +kernel, rfl, by decide⟩
theorem D_X10_worn_31 : Dec mi_X10_worn 31 (.iconst 2) 1 32 := ⟨by decide +kernel, rfl⟩
theorem D_X10_worn_32 : Dec mi_X10_worn 32 (.istore 4) 2 34 := ⟨by decide +kernel, rfl⟩
theorem D_X10_worn_34 : Dec mi_X10_worn 34 (.iload_n 1) 1 35 := ⟨by decide +kernel, rfl⟩
theorem D_X10_worn_35 : Dec mi_X10_worn 35 (.iconst 3) 1 36 := ⟨by decide +kernel, rfl⟩
theorem D_X10_worn_36 : Dec mi_X10_worn 36 (.iconst 2) 1 37 := ⟨by decide +kernel, rfl⟩
theorem D_X10_worn_37 : Dec mi_X10_worn 37 (.iload_n 2) 1 38 := ⟨by decide +kernel, rfl⟩
theorem D_X10_worn_38 : Dec mi_X10_worn 38 (.imul) 1 39 := ⟨by decide +kernel, rfl⟩
theorem D_X10_worn_39 : Dec mi_X10_worn 39 (.ishl) 1 40 := ⟨by decide +kernel, rfl⟩
theorem D_X10_worn_40 : Dec mi_X10_worn 40 (.iconst (-1)) 1 41 := ⟨by decide +kernel, rfl⟩
theorem D_X10_worn_41 : Dec mi_X10_worn 41 (.ixor) 1 42 := ⟨by decide +kernel, rfl⟩
theorem D_X10_worn_42 : Dec mi_X10_worn 42 (.iand) 1 43 := ⟨by decide +kernel, rfl⟩
theorem D_X10_worn_43 : Dec mi_X10_worn 43 (.iload 4) 2 45 := ⟨by decide +kernel, rfl⟩
theorem D_X10_worn_45 : Dec mi_X10_worn 45 (.iconst 2) 1 46 := ⟨by decide +kernel, rfl⟩
theorem D_X10_worn_46 : Dec mi_X10_worn 46 (.iload_n 2) 1 47 := ⟨by decide +kernel, rfl⟩
theorem D_X10_worn_47 : Dec mi_X10_worn 47 (.imul) 1 48 := ⟨by decide +kernel, rfl⟩
theorem D_X10_worn_48 : Dec mi_X10_worn 48 (.ishl) 1 49 := ⟨by decide +kernel, rfl⟩
theorem D_X10_worn_49 : Dec mi_X10_worn 49 (.ior) 1 50 := ⟨by decide +kernel, rfl⟩
theorem D_X10_worn_50 : Dec mi_X10_worn 50 (.ireturn) 1 51 := ⟨by decide +kernel, rfl⟩
def f_X10_worn_32 (M : Mem) (y1 : Int32) (y2 : Int32) (t0 : Int32) : Option Int32 := some ((y1 &&& (((3 : Int32) <<< (((2 : Int32) * y2) &&& 31)) ^^^ (-1 : Int32))) ||| (t0 <<< (((2 : Int32) * y2) &&& 31)))
theorem x_X10_worn_32 {l : Launch} {w : Wd} {κ : Kp} {M : Mem} {v : Int32} (hq : RQ w (some (.int v), M) κ) (y1 : Int32) (y2 : Int32) (t0 : Int32) (h : f_X10_worn_32 M y1 y2 t0 = some v) : RR l w mi_X10_worn (1) κ 32 [.int t0] [none, some (.int y1), some (.int y2), none, none] M := let_h (show (some ((y1 &&& (((3 : Int32) <<< (((2 : Int32) * y2) &&& 31)) ^^^ (-1 : Int32))) ||| (t0 <<< (((2 : Int32) * y2) &&& 31)))) = some v from h) fun h => r_istore D_X10_worn_32 (by decide) rfl <| r_iload_n D_X10_worn_34 rfl <| r_iconst D_X10_worn_35 ki_3 <| r_iconst D_X10_worn_36 ki_2 <| r_iload_n D_X10_worn_37 rfl <| r_imul D_X10_worn_38 <| r_ishl D_X10_worn_39 <| r_iconst D_X10_worn_40 ki_m1 <| r_ixor D_X10_worn_41 <| r_iand D_X10_worn_42 <| r_iload D_X10_worn_43 rfl <| r_iconst D_X10_worn_45 ki_2 <| r_iload_n D_X10_worn_46 rfl <| r_imul D_X10_worn_47 <| r_ishl D_X10_worn_48 <| r_ior D_X10_worn_49 <| r_iret hq D_X10_worn_50 rfl (rtP h)
def f_X10_worn (M : Mem) (a1 : Int32) (a2 : Int32) (a3 : Int32) : Option Int32 := if (f_X10_howIs M a1 a2) = 0 then ((f_X10_of M a2 (6 : Int32)).bind fun x2 => if x2 = (2 : Int32) then (if a3 = 0 then (f_X10_worn_32 M a1 a2 (1 : Int32)) else (f_X10_worn_32 M a1 a2 (3 : Int32))) else (f_X10_worn_32 M a1 a2 (2 : Int32))) else (f_X10_worn_32 M a1 a2 (2 : Int32))
theorem x_X10_worn {l : Launch} {w : Wd} {M : Mem} {a1 : Int32} {a2 : Int32} {a3 : Int32} {v : Int32} (h : f_X10_worn M a1 a2 a3 = some v) : Cn l w mi_X10_worn yX10_worn (1) [.ref (wq w 36), .int a1, .int a2, .int a3] M (some (.int v), M) :=
  Cn_of (loc0 := [some (.ref (wq w 36)), some (.int a1), some (.int a2), some (.int a3), none]) rfl rfl rfl (Nat.le_of_ble_eq_true rfl) fun κ hq => let_h (show (if (f_X10_howIs M a1 a2) = 0 then ((f_X10_of M a2 (6 : Int32)).bind fun x2 => if x2 = (2 : Int32) then (if a3 = 0 then (f_X10_worn_32 M a1 a2 (1 : Int32)) else (f_X10_worn_32 M a1 a2 (3 : Int32))) else (f_X10_worn_32 M a1 a2 (2 : Int32))) else (f_X10_worn_32 M a1 a2 (2 : Int32))) = some v from h) fun h => r_iload_n D_X10_worn_0 rfl <| r_iload_n D_X10_worn_1 rfl <| r_callS (av := [.int a1, .int a2]) D_X10_worn_2 ml_X10_145 mf_X10_howIs ms_X10_howIs (x_X10_howIs rfl) (Nat.le_of_ble_eq_true rfl) rfl rfl (Nat.le_of_ble_eq_true rfl) <| r_if_ne D_X10_worn_5 (fun c1 => let_h (ifT c1 h) fun h => r_aload_n D_X10_worn_8 rfl <| r_iload_n D_X10_worn_9 rfl <| r_bipush D_X10_worn_10 k8_6 <| (bdE h).elim fun x2 q3 => let_h q3.2 fun h => r_callV (av := [.int a2, .int (6 : Int32)]) D_X10_worn_12 ml_X10_148 mf_X10_of mv_X10_of s_36 rfl rfl (x_X10_of q3.1) (Nat.le_of_ble_eq_true rfl) rfl rfl (Nat.le_of_ble_eq_true rfl) <| r_iconst D_X10_worn_15 ki_2 <| r_icmp_ne D_X10_worn_16 (fun c4 => let_h (ifT c4 h) fun h => r_iload_n D_X10_worn_19 rfl <| r_if_eq D_X10_worn_20 (fun c5 => let_h (ifT c5 h) fun h => r_iconst D_X10_worn_27 ki_1 <| r_goto D_X10_worn_28 <| r_ls (x_X10_worn_32 hq a1 a2 (1 : Int32) h) ⟨rfl, ⟨rfl, trivial⟩⟩) (fun c5 => let_h (ifF c5 h) fun h => r_iconst D_X10_worn_23 ki_3 <| r_goto D_X10_worn_24 <| r_ls (x_X10_worn_32 hq a1 a2 (3 : Int32) h) ⟨rfl, ⟨rfl, trivial⟩⟩)) (fun c4 => let_h (ifF c4 h) fun h => r_iconst D_X10_worn_31 ki_2 <| r_ls (x_X10_worn_32 hq a1 a2 (2 : Int32) h) ⟨rfl, ⟨rfl, trivial⟩⟩)) (fun c1 => let_h (ifF c1 h) fun h => r_iconst D_X10_worn_31 ki_2 <| r_ls (x_X10_worn_32 hq a1 a2 (2 : Int32) h) ⟨rfl, ⟨rfl, trivial⟩⟩)
-- X10_behind
theorem D_X10_behind_0 : Dec mi_X10_behind 0 (.aload_n 0) 1 1 := ⟨by decide +kernel, rfl⟩
theorem D_X10_behind_1 : Dec mi_X10_behind 1 (.aload_n 0) 1 2 := ⟨by decide +kernel, rfl⟩
theorem D_X10_behind_2 : Dec mi_X10_behind 2 (.iload_n 1) 1 3 := ⟨by decide +kernel, rfl⟩
theorem D_X10_behind_3 : Dec mi_X10_behind 3 (.iload_n 3) 1 4 := ⟨by decide +kernel, rfl⟩
theorem D_X10_behind_4 : Dec mi_X10_behind 4 (.iload 6) 2 6 := ⟨by decide +kernel, rfl⟩
theorem D_X10_behind_6 : Dec mi_X10_behind 6 (.invokevirtual 161) 3 9 := ⟨by decide +kernel, rfl⟩
theorem D_X10_behind_9 : Dec mi_X10_behind 9 (.iload 4) 2 11 := ⟨by decide +kernel, rfl⟩
theorem D_X10_behind_11 : Dec mi_X10_behind 11 (.iload 6) 2 13 := ⟨by decide +kernel, rfl⟩
theorem D_X10_behind_13 : Dec mi_X10_behind 13 (.invokevirtual 161) 3 16 := ⟨by decide +kernel, rfl⟩
theorem D_X10_behind_16 : Dec mi_X10_behind 16 (.istore 7) 2 18 := ⟨by decide +kernel, rfl⟩
theorem D_X10_behind_18 : Dec mi_X10_behind 18 (.iconst 0) 1 19 := ⟨by decide +kernel, rfl⟩
theorem D_X10_behind_19 : Dec mi_X10_behind 19 (.istore 8) 2 21 := ⟨by decide +kernel, rfl⟩
theorem D_X10_behind_21 : Dec mi_X10_behind 21 (.iload 8) 2 23 := ⟨by decide +kernel, rfl⟩
theorem D_X10_behind_23 : Dec mi_X10_behind 23 (.aload_n 0) 1 24 := ⟨by decide +kernel, rfl⟩
theorem D_X10_behind_24 : Dec mi_X10_behind 24 (.getfield 13) 3 27 := ⟨by decide +kernel, rfl⟩
theorem D_X10_behind_27 : Dec mi_X10_behind 27 (.iconst 0) 1 28 := ⟨by decide +kernel, rfl⟩
theorem D_X10_behind_28 : Dec mi_X10_behind 28 (.iaload) 1 29 := ⟨by decide +kernel, rfl⟩
theorem D_X10_behind_29 : DecJ mi_X10_behind 29 (.if_icmp .ge 101) (101) 32 130 := ⟨by decide +kernel, rfl, by decide⟩
theorem D_X10_behind_32 : Dec mi_X10_behind 32 (.iload 7) 2 34 := ⟨by decide +kernel, rfl⟩
theorem D_X10_behind_34 : Dec mi_X10_behind 34 (.iload 8) 2 36 := ⟨by decide +kernel, rfl⟩
theorem D_X10_behind_36 : Dec mi_X10_behind 36 (.invokestatic 145) 3 39 := ⟨by decide +kernel, rfl⟩
theorem D_X10_behind_39 : Dec mi_X10_behind 39 (.istore 9) 2 41 := ⟨by decide +kernel, rfl⟩
theorem D_X10_behind_41 : Dec mi_X10_behind 41 (.iload_n 1) 1 42 := ⟨by decide +kernel, rfl⟩
theorem D_X10_behind_42 : Dec mi_X10_behind 42 (.iload 8) 2 44 := ⟨by decide +kernel, rfl⟩
theorem D_X10_behind_44 : Dec mi_X10_behind 44 (.invokestatic 145) 3 47 := ⟨by decide +kernel, rfl⟩
theorem D_X10_behind_47 : Dec mi_X10_behind 47 (.iconst 3) 1 48 := ⟨by decide +kernel, rfl⟩
theorem D_X10_behind_48 : DecJ mi_X10_behind 48 (.if_icmp .ne 9) (9) 51 57 := ⟨by decide +kernel, rfl, by decide⟩
theorem D_X10_behind_51 : Dec mi_X10_behind 51 (.iconst 0) 1 52 := ⟨by decide +kernel, rfl⟩
theorem D_X10_behind_52 : Dec mi_X10_behind 52 (.istore 9) 2 54 := ⟨by decide +kernel, rfl⟩
theorem D_X10_behind_54 : DecJ mi_X10_behind 54 (.goto 49) (49) 57 103 := ⟨by decide +kernel, rfl, by decide⟩
theorem D_X10_behind_57 : Dec mi_X10_behind 57 (.iload 5) 2 59 := ⟨by decide +kernel, rfl⟩
theorem D_X10_behind_59 : Dec mi_X10_behind 59 (.iconst 1) 1 60 := ⟨by decide +kernel, rfl⟩
theorem D_X10_behind_60 : DecJ mi_X10_behind 60 (.if_icmp .ne 43) (43) 63 103 := ⟨by decide +kernel, rfl, by decide⟩
theorem D_X10_behind_63 : Dec mi_X10_behind 63 (.iload_n 2) 1 64 := ⟨by decide +kernel, rfl⟩
theorem D_X10_behind_64 : Dec mi_X10_behind 64 (.iload 8) 2 66 := ⟨by decide +kernel, rfl⟩
theorem D_X10_behind_66 : Dec mi_X10_behind 66 (.invokestatic 155) 3 69 := ⟨by decide +kernel, rfl⟩
theorem D_X10_behind_69 : DecJ mi_X10_behind 69 (.ifCond .eq 34) (34) 72 103 := ⟨by decide +kernel, rfl, by decide⟩
theorem D_X10_behind_72 : Dec mi_X10_behind 72 (.iload 9) 2 74 := ⟨by decide +kernel, rfl⟩
theorem D_X10_behind_74 : Dec mi_X10_behind 74 (.iconst 1) 1 75 := ⟨by decide +kernel, rfl⟩
theorem D_X10_behind_75 : DecJ mi_X10_behind 75 (.if_icmp .eq 9) (9) 78 84 := ⟨by decide +kernel, rfl, by decide⟩
theorem D_X10_behind_78 : Dec mi_X10_behind 78 (.iload 9) 2 80 := ⟨by decide +kernel, rfl⟩
theorem D_X10_behind_80 : Dec mi_X10_behind 80 (.iconst 2) 1 81 := ⟨by decide +kernel, rfl⟩
theorem D_X10_behind_81 : DecJ mi_X10_behind 81 (.if_icmp .ne 22) (22) 84 103 := ⟨by decide +kernel, rfl, by decide⟩
theorem D_X10_behind_84 : Dec mi_X10_behind 84 (.aload_n 0) 1 85 := ⟨by decide +kernel, rfl⟩
theorem D_X10_behind_85 : Dec mi_X10_behind 85 (.iload 8) 2 87 := ⟨by decide +kernel, rfl⟩
theorem D_X10_behind_87 : Dec mi_X10_behind 87 (.bipush 7) 2 89 := ⟨by decide +kernel, rfl⟩
theorem D_X10_behind_89 : Dec mi_X10_behind 89 (.invokevirtual 148) 3 92 := ⟨by decide +kernel, rfl⟩
theorem D_X10_behind_92 : Dec mi_X10_behind 92 (.iconst 1) 1 93 := ⟨by decide +kernel, rfl⟩
theorem D_X10_behind_93 : DecJ mi_X10_behind 93 (.if_icmp .ne 7) (7) 96 100 := ⟨by decide +kernel, rfl, by decide⟩
theorem D_X10_behind_96 : Dec mi_X10_behind 96 (.iconst 3) 1 97 := ⟨by decide +kernel, rfl⟩
theorem D_X10_behind_97 : DecJ mi_X10_behind 97 (.goto 4) (4) 100 101 := ⟨by decide +kernel, rfl, by decide⟩
theorem D_X10_behind_100 : Dec mi_X10_behind 100 (.iconst 0) 1 101 := ⟨by decide +kernel, rfl⟩
theorem D_X10_behind_101 : Dec mi_X10_behind 101 (.istore 9) 2 103 := ⟨by decide +kernel, rfl⟩
theorem D_X10_behind_103 : Dec mi_X10_behind 103 (.iload 7) 2 105 := ⟨by decide +kernel, rfl⟩
theorem D_X10_behind_105 : Dec mi_X10_behind 105 (.iconst 3) 1 106 := ⟨by decide +kernel, rfl⟩
theorem D_X10_behind_106 : Dec mi_X10_behind 106 (.iconst 2) 1 107 := ⟨by decide +kernel, rfl⟩
theorem D_X10_behind_107 : Dec mi_X10_behind 107 (.iload 8) 2 109 := ⟨by decide +kernel, rfl⟩
theorem D_X10_behind_109 : Dec mi_X10_behind 109 (.imul) 1 110 := ⟨by decide +kernel, rfl⟩
theorem D_X10_behind_110 : Dec mi_X10_behind 110 (.ishl) 1 111 := ⟨by decide +kernel, rfl⟩
theorem D_X10_behind_111 : Dec mi_X10_behind 111 (.iconst (-1)) 1 112 := ⟨by decide +kernel, rfl⟩
theorem D_X10_behind_112 : Dec mi_X10_behind 112 (.ixor) 1 113 := ⟨by decide +kernel, rfl⟩
theorem D_X10_behind_113 : Dec mi_X10_behind 113 (.iand) 1 114 := ⟨by decide +kernel, rfl⟩
theorem D_X10_behind_114 : Dec mi_X10_behind 114 (.iload 9) 2 116 := ⟨by decide +kernel, rfl⟩
theorem D_X10_behind_116 : Dec mi_X10_behind 116 (.iconst 2) 1 117 := ⟨by decide +kernel, rfl⟩
theorem D_X10_behind_117 : Dec mi_X10_behind 117 (.iload 8) 2 119 := ⟨by decide +kernel, rfl⟩
theorem D_X10_behind_119 : Dec mi_X10_behind 119 (.imul) 1 120 := ⟨by decide +kernel, rfl⟩
theorem D_X10_behind_120 : Dec mi_X10_behind 120 (.ishl) 1 121 := ⟨by decide +kernel, rfl⟩
theorem D_X10_behind_121 : Dec mi_X10_behind 121 (.ior) 1 122 := ⟨by decide +kernel, rfl⟩
theorem D_X10_behind_122 : Dec mi_X10_behind 122 (.istore 7) 2 124 := ⟨by decide +kernel, rfl⟩
theorem D_X10_behind_124 : Dec mi_X10_behind 124 (.iinc 8 1) 3 127 := ⟨by decide +kernel, rfl⟩
theorem D_X10_behind_127 : DecJ mi_X10_behind 127 (.goto (-106)) (-106) 130 21 := ⟨by decide +kernel, rfl, by decide⟩
theorem D_X10_behind_130 : Dec mi_X10_behind 130 (.iload 7) 2 132 := ⟨by decide +kernel, rfl⟩
theorem D_X10_behind_132 : Dec mi_X10_behind 132 (.ireturn) 1 133 := ⟨by decide +kernel, rfl⟩
def f_X10_behind_103 (F : Nat) (M : Mem) (K_21 : Int32 → Int32 → Int32 → Int32 → Int32 → Option Int32) (y1 : Int32) (y2 : Int32) (y5 : Int32) (y7 : Int32) (y8 : Int32) (y9 : Int32) : Option Int32 := vlet ((y7 &&& (((3 : Int32) <<< (((2 : Int32) * y8) &&& 31)) ^^^ (-1 : Int32))) ||| (y9 <<< (((2 : Int32) * y8) &&& 31))) fun x1 => K_21 y1 y2 y5 x1 (y8 + (1 : Int32))
theorem x_X10_behind_103 {l : Launch} {w : Wd} {κ : Kp} {F : Nat} {M : Mem} {v : Int32} {K_21 : Int32 → Int32 → Int32 → Int32 → Int32 → Option Int32} (hq : RQ w (some (.int v), M) κ) (hK_21 : ∀ (y1 : Int32) (y2 : Int32) (y5 : Int32) (y7 : Int32) (y8 : Int32), K_21 y1 y2 y5 y7 y8 = some v → RR l w mi_X10_behind (2) κ 21 [] [some (.ref (wq w 36)), some (.int y1), some (.int y2), none, none, some (.int y5), none, some (.int y7), some (.int y8), none] M) (y1 : Int32) (y2 : Int32) (y5 : Int32) (y7 : Int32) (y8 : Int32) (y9 : Int32) (h : f_X10_behind_103 F M K_21 y1 y2 y5 y7 y8 y9 = some v) : RR l w mi_X10_behind (2) κ 103 [] [some (.ref (wq w 36)), some (.int y1), some (.int y2), none, none, some (.int y5), none, some (.int y7), some (.int y8), some (.int y9)] M := let_h (show (vlet ((y7 &&& (((3 : Int32) <<< (((2 : Int32) * y8) &&& 31)) ^^^ (-1 : Int32))) ||| (y9 <<< (((2 : Int32) * y8) &&& 31))) fun x1 => K_21 y1 y2 y5 x1 (y8 + (1 : Int32))) = some v from h) fun h => r_iload D_X10_behind_103 rfl <| r_iconst D_X10_behind_105 ki_3 <| r_iconst D_X10_behind_106 ki_2 <| r_iload D_X10_behind_107 rfl <| r_imul D_X10_behind_109 <| r_ishl D_X10_behind_110 <| r_iconst D_X10_behind_111 ki_m1 <| r_ixor D_X10_behind_112 <| r_iand D_X10_behind_113 <| r_iload D_X10_behind_114 rfl <| r_iconst D_X10_behind_116 ki_2 <| r_iload D_X10_behind_117 rfl <| r_imul D_X10_behind_119 <| r_ishl D_X10_behind_120 <| r_ior D_X10_behind_121 <| vlE (fun x1 => RR l w mi_X10_behind (2) κ 122 [.int x1] [some (.ref (wq w 36)), some (.int y1), some (.int y2), none, none, some (.int y5), none, some (.int y7), some (.int y8), some (.int y9)] M) h fun x1 h => r_istore D_X10_behind_122 (by decide) rfl <| r_iinc D_X10_behind_124 rfl ki_1 (by decide) rfl <| r_goto D_X10_behind_127 <| r_ls (hK_21 y1 y2 y5 x1 (y8 + (1 : Int32)) h) ⟨rfl, ⟨rfl, ⟨rfl, ⟨rfl, ⟨rfl, ⟨rfl, trivial⟩⟩⟩⟩⟩⟩
def f_X10_behind_21 (F : Nat) (M : Mem) : Nat → Int32 → Int32 → Int32 → Int32 → Int32 → Option Int32
  | 0, _, _, _, _, _ => none
  | n + 1, y1, y2, y5, y7, y8 => if ck (0 : Int32) 2 = true then (if (M.1 38 (0 : Int32).toNatClampNeg) ≤ y8 then (some y7) else (if (f_X10_howIs M y1 y8) = (3 : Int32) then (f_X10_behind_103 F M (fun y1 y2 y5 y7 y8 => f_X10_behind_21 F M n y1 y2 y5 y7 y8) y1 y2 y5 y7 y8 (0 : Int32)) else (if y5 = (1 : Int32) then (if (f_X10_isOf M y2 y8) = 0 then (f_X10_behind_103 F M (fun y1 y2 y5 y7 y8 => f_X10_behind_21 F M n y1 y2 y5 y7 y8) y1 y2 y5 y7 y8 (f_X10_howIs M y7 y8)) else (if (f_X10_howIs M y7 y8) = (1 : Int32) then ((f_X10_of M y8 (7 : Int32)).bind fun x7 => if x7 = (1 : Int32) then (f_X10_behind_103 F M (fun y1 y2 y5 y7 y8 => f_X10_behind_21 F M n y1 y2 y5 y7 y8) y1 y2 y5 y7 y8 (3 : Int32)) else (f_X10_behind_103 F M (fun y1 y2 y5 y7 y8 => f_X10_behind_21 F M n y1 y2 y5 y7 y8) y1 y2 y5 y7 y8 (0 : Int32))) else (if (f_X10_howIs M y7 y8) = (2 : Int32) then ((f_X10_of M y8 (7 : Int32)).bind fun x11 => if x11 = (1 : Int32) then (f_X10_behind_103 F M (fun y1 y2 y5 y7 y8 => f_X10_behind_21 F M n y1 y2 y5 y7 y8) y1 y2 y5 y7 y8 (3 : Int32)) else (f_X10_behind_103 F M (fun y1 y2 y5 y7 y8 => f_X10_behind_21 F M n y1 y2 y5 y7 y8) y1 y2 y5 y7 y8 (0 : Int32))) else (f_X10_behind_103 F M (fun y1 y2 y5 y7 y8 => f_X10_behind_21 F M n y1 y2 y5 y7 y8) y1 y2 y5 y7 y8 (f_X10_howIs M y7 y8))))) else (f_X10_behind_103 F M (fun y1 y2 y5 y7 y8 => f_X10_behind_21 F M n y1 y2 y5 y7 y8) y1 y2 y5 y7 y8 (f_X10_howIs M y7 y8))))) else none
theorem x_X10_behind_21 {l : Launch} {w : Wd} {κ : Kp} {F : Nat} {M : Mem} {v : Int32} (hq : RQ w (some (.int v), M) κ) : ∀ (n : Nat) (y1 : Int32) (y2 : Int32) (y5 : Int32) (y7 : Int32) (y8 : Int32), f_X10_behind_21 F M n y1 y2 y5 y7 y8 = some v → RR l w mi_X10_behind (2) κ 21 [] [some (.ref (wq w 36)), some (.int y1), some (.int y2), none, none, some (.int y5), none, some (.int y7), some (.int y8), none] M
  | 0, _, _, _, _, _, h => nomatch h
  | n + 1, y1, y2, y5, y7, y8, h => let_h (show (if ck (0 : Int32) 2 = true then (if (M.1 38 (0 : Int32).toNatClampNeg) ≤ y8 then (some y7) else (if (f_X10_howIs M y1 y8) = (3 : Int32) then (f_X10_behind_103 F M (fun y1 y2 y5 y7 y8 => f_X10_behind_21 F M n y1 y2 y5 y7 y8) y1 y2 y5 y7 y8 (0 : Int32)) else (if y5 = (1 : Int32) then (if (f_X10_isOf M y2 y8) = 0 then (f_X10_behind_103 F M (fun y1 y2 y5 y7 y8 => f_X10_behind_21 F M n y1 y2 y5 y7 y8) y1 y2 y5 y7 y8 (f_X10_howIs M y7 y8)) else (if (f_X10_howIs M y7 y8) = (1 : Int32) then ((f_X10_of M y8 (7 : Int32)).bind fun x7 => if x7 = (1 : Int32) then (f_X10_behind_103 F M (fun y1 y2 y5 y7 y8 => f_X10_behind_21 F M n y1 y2 y5 y7 y8) y1 y2 y5 y7 y8 (3 : Int32)) else (f_X10_behind_103 F M (fun y1 y2 y5 y7 y8 => f_X10_behind_21 F M n y1 y2 y5 y7 y8) y1 y2 y5 y7 y8 (0 : Int32))) else (if (f_X10_howIs M y7 y8) = (2 : Int32) then ((f_X10_of M y8 (7 : Int32)).bind fun x11 => if x11 = (1 : Int32) then (f_X10_behind_103 F M (fun y1 y2 y5 y7 y8 => f_X10_behind_21 F M n y1 y2 y5 y7 y8) y1 y2 y5 y7 y8 (3 : Int32)) else (f_X10_behind_103 F M (fun y1 y2 y5 y7 y8 => f_X10_behind_21 F M n y1 y2 y5 y7 y8) y1 y2 y5 y7 y8 (0 : Int32))) else (f_X10_behind_103 F M (fun y1 y2 y5 y7 y8 => f_X10_behind_21 F M n y1 y2 y5 y7 y8) y1 y2 y5 y7 y8 (f_X10_howIs M y7 y8))))) else (f_X10_behind_103 F M (fun y1 y2 y5 y7 y8 => f_X10_behind_21 F M n y1 y2 y5 y7 y8) y1 y2 y5 y7 y8 (f_X10_howIs M y7 y8))))) else none) = some v from h) fun h => r_iload D_X10_behind_21 rfl <| r_aload_n D_X10_behind_23 rfl <| r_getR (j := 38) D_X10_behind_24 fl_X10_13 s_36 rfl <| r_iconst D_X10_behind_27 ki_0 <| (ckE h).elim fun c1 h => r_iald D_X10_behind_28 s_38 c1 <| r_icmp_ge D_X10_behind_29 (fun c2 => let_h (ifT c2 h) fun h => r_iload D_X10_behind_130 rfl <| r_iret hq D_X10_behind_132 rfl (rtP h)) (fun c2 => let_h (ifF c2 h) fun h => r_iload D_X10_behind_32 rfl <| r_iload D_X10_behind_34 rfl <| r_callS (av := [.int y7, .int y8]) D_X10_behind_36 ml_X10_145 mf_X10_howIs ms_X10_howIs (x_X10_howIs rfl) (Nat.le_of_ble_eq_true rfl) rfl rfl (Nat.le_of_ble_eq_true rfl) <| r_istore D_X10_behind_39 (by decide) rfl <| r_iload_n D_X10_behind_41 rfl <| r_iload D_X10_behind_42 rfl <| r_callS (av := [.int y1, .int y8]) D_X10_behind_44 ml_X10_145 mf_X10_howIs ms_X10_howIs (x_X10_howIs rfl) (Nat.le_of_ble_eq_true rfl) rfl rfl (Nat.le_of_ble_eq_true rfl) <| r_iconst D_X10_behind_47 ki_3 <| r_icmp_ne D_X10_behind_48 (fun c3 => let_h (ifT c3 h) fun h => r_iconst D_X10_behind_51 ki_0 <| r_istore D_X10_behind_52 (by decide) rfl <| r_goto D_X10_behind_54 <| r_ls (x_X10_behind_103 hq (fun y1 y2 y5 y7 y8 h => x_X10_behind_21 hq n y1 y2 y5 y7 y8 h) y1 y2 y5 y7 y8 (0 : Int32) h) ⟨rfl, ⟨rfl, ⟨rfl, ⟨rfl, ⟨rfl, ⟨rfl, ⟨rfl, trivial⟩⟩⟩⟩⟩⟩⟩) (fun c3 => let_h (ifF c3 h) fun h => r_iload D_X10_behind_57 rfl <| r_iconst D_X10_behind_59 ki_1 <| r_icmp_ne D_X10_behind_60 (fun c4 => let_h (ifT c4 h) fun h => r_iload_n D_X10_behind_63 rfl <| r_iload D_X10_behind_64 rfl <| r_callS (av := [.int y2, .int y8]) D_X10_behind_66 ml_X10_155 mf_X10_isOf ms_X10_isOf (x_X10_isOf rfl) (Nat.le_of_ble_eq_true rfl) rfl rfl (Nat.le_of_ble_eq_true rfl) <| r_if_eq D_X10_behind_69 (fun c5 => let_h (ifT c5 h) fun h => r_ls (x_X10_behind_103 hq (fun y1 y2 y5 y7 y8 h => x_X10_behind_21 hq n y1 y2 y5 y7 y8 h) y1 y2 y5 y7 y8 (f_X10_howIs M y7 y8) h) ⟨rfl, ⟨rfl, ⟨rfl, ⟨rfl, ⟨rfl, ⟨rfl, ⟨rfl, trivial⟩⟩⟩⟩⟩⟩⟩) (fun c5 => let_h (ifF c5 h) fun h => r_iload D_X10_behind_72 rfl <| r_iconst D_X10_behind_74 ki_1 <| r_icmp_eq D_X10_behind_75 (fun c6 => let_h (ifT c6 h) fun h => r_aload_n D_X10_behind_84 rfl <| r_iload D_X10_behind_85 rfl <| r_bipush D_X10_behind_87 k8_7 <| (bdE h).elim fun x7 q8 => let_h q8.2 fun h => r_callV (av := [.int y8, .int (7 : Int32)]) D_X10_behind_89 ml_X10_148 mf_X10_of mv_X10_of s_36 rfl rfl (x_X10_of q8.1) (Nat.le_of_ble_eq_true rfl) rfl rfl (Nat.le_of_ble_eq_true rfl) <| r_iconst D_X10_behind_92 ki_1 <| r_icmp_ne D_X10_behind_93 (fun c9 => let_h (ifT c9 h) fun h => r_iconst D_X10_behind_96 ki_3 <| r_goto D_X10_behind_97 <| r_istore D_X10_behind_101 (by decide) rfl <| r_ls (x_X10_behind_103 hq (fun y1 y2 y5 y7 y8 h => x_X10_behind_21 hq n y1 y2 y5 y7 y8 h) y1 y2 y5 y7 y8 (3 : Int32) h) ⟨rfl, ⟨rfl, ⟨rfl, ⟨rfl, ⟨rfl, ⟨rfl, ⟨rfl, trivial⟩⟩⟩⟩⟩⟩⟩) (fun c9 => let_h (ifF c9 h) fun h => r_iconst D_X10_behind_100 ki_0 <| r_istore D_X10_behind_101 (by decide) rfl <| r_ls (x_X10_behind_103 hq (fun y1 y2 y5 y7 y8 h => x_X10_behind_21 hq n y1 y2 y5 y7 y8 h) y1 y2 y5 y7 y8 (0 : Int32) h) ⟨rfl, ⟨rfl, ⟨rfl, ⟨rfl, ⟨rfl, ⟨rfl, ⟨rfl, trivial⟩⟩⟩⟩⟩⟩⟩)) (fun c6 => let_h (ifF c6 h) fun h => r_iload D_X10_behind_78 rfl <| r_iconst D_X10_behind_80 ki_2 <| r_icmp_ne D_X10_behind_81 (fun c10 => let_h (ifT c10 h) fun h => r_aload_n D_X10_behind_84 rfl <| r_iload D_X10_behind_85 rfl <| r_bipush D_X10_behind_87 k8_7 <| (bdE h).elim fun x11 q12 => let_h q12.2 fun h => r_callV (av := [.int y8, .int (7 : Int32)]) D_X10_behind_89 ml_X10_148 mf_X10_of mv_X10_of s_36 rfl rfl (x_X10_of q12.1) (Nat.le_of_ble_eq_true rfl) rfl rfl (Nat.le_of_ble_eq_true rfl) <| r_iconst D_X10_behind_92 ki_1 <| r_icmp_ne D_X10_behind_93 (fun c13 => let_h (ifT c13 h) fun h => r_iconst D_X10_behind_96 ki_3 <| r_goto D_X10_behind_97 <| r_istore D_X10_behind_101 (by decide) rfl <| r_ls (x_X10_behind_103 hq (fun y1 y2 y5 y7 y8 h => x_X10_behind_21 hq n y1 y2 y5 y7 y8 h) y1 y2 y5 y7 y8 (3 : Int32) h) ⟨rfl, ⟨rfl, ⟨rfl, ⟨rfl, ⟨rfl, ⟨rfl, ⟨rfl, trivial⟩⟩⟩⟩⟩⟩⟩) (fun c13 => let_h (ifF c13 h) fun h => r_iconst D_X10_behind_100 ki_0 <| r_istore D_X10_behind_101 (by decide) rfl <| r_ls (x_X10_behind_103 hq (fun y1 y2 y5 y7 y8 h => x_X10_behind_21 hq n y1 y2 y5 y7 y8 h) y1 y2 y5 y7 y8 (0 : Int32) h) ⟨rfl, ⟨rfl, ⟨rfl, ⟨rfl, ⟨rfl, ⟨rfl, ⟨rfl, trivial⟩⟩⟩⟩⟩⟩⟩)) (fun c10 => let_h (ifF c10 h) fun h => r_ls (x_X10_behind_103 hq (fun y1 y2 y5 y7 y8 h => x_X10_behind_21 hq n y1 y2 y5 y7 y8 h) y1 y2 y5 y7 y8 (f_X10_howIs M y7 y8) h) ⟨rfl, ⟨rfl, ⟨rfl, ⟨rfl, ⟨rfl, ⟨rfl, ⟨rfl, trivial⟩⟩⟩⟩⟩⟩⟩)))) (fun c4 => let_h (ifF c4 h) fun h => r_ls (x_X10_behind_103 hq (fun y1 y2 y5 y7 y8 h => x_X10_behind_21 hq n y1 y2 y5 y7 y8 h) y1 y2 y5 y7 y8 (f_X10_howIs M y7 y8) h) ⟨rfl, ⟨rfl, ⟨rfl, ⟨rfl, ⟨rfl, ⟨rfl, ⟨rfl, trivial⟩⟩⟩⟩⟩⟩⟩)))
def f_X10_behind (F : Nat) (M : Mem) (a1 : Int32) (a2 : Int32) (a3 : Int32) (a4 : Int32) (a5 : Int32) (a6 : Int32) : Option Int32 := (f_X10_worn M a1 a3 a6).bind fun x1 => (f_X10_worn M x1 a4 a6).bind fun x3 => f_X10_behind_21 F M F a1 a2 a5 x3 (0 : Int32)
theorem x_X10_behind {l : Launch} {w : Wd} {F : Nat} {M : Mem} {a1 : Int32} {a2 : Int32} {a3 : Int32} {a4 : Int32} {a5 : Int32} {a6 : Int32} {v : Int32} (h : f_X10_behind F M a1 a2 a3 a4 a5 a6 = some v) : Cn l w mi_X10_behind yX10_behind (2) [.ref (wq w 36), .int a1, .int a2, .int a3, .int a4, .int a5, .int a6] M (some (.int v), M) :=
  Cn_of (loc0 := [some (.ref (wq w 36)), some (.int a1), some (.int a2), some (.int a3), some (.int a4), some (.int a5), some (.int a6), none, none, none]) rfl rfl rfl (Nat.le_of_ble_eq_true rfl) fun κ hq => let_h (show ((f_X10_worn M a1 a3 a6).bind fun x1 => (f_X10_worn M x1 a4 a6).bind fun x3 => f_X10_behind_21 F M F a1 a2 a5 x3 (0 : Int32)) = some v from h) fun h => r_aload_n D_X10_behind_0 rfl <| r_aload_n D_X10_behind_1 rfl <| r_iload_n D_X10_behind_2 rfl <| r_iload_n D_X10_behind_3 rfl <| r_iload D_X10_behind_4 rfl <| (bdE h).elim fun x1 q2 => let_h q2.2 fun h => r_callV (av := [.int a1, .int a3, .int a6]) D_X10_behind_6 ml_X10_161 mf_X10_worn mv_X10_worn s_36 rfl rfl (x_X10_worn q2.1) (Nat.le_of_ble_eq_true rfl) rfl rfl (Nat.le_of_ble_eq_true rfl) <| r_iload D_X10_behind_9 rfl <| r_iload D_X10_behind_11 rfl <| (bdE h).elim fun x3 q4 => let_h q4.2 fun h => r_callV (av := [.int x1, .int a4, .int a6]) D_X10_behind_13 ml_X10_161 mf_X10_worn mv_X10_worn s_36 rfl rfl (x_X10_worn q4.1) (Nat.le_of_ble_eq_true rfl) rfl rfl (Nat.le_of_ble_eq_true rfl) <| r_istore D_X10_behind_16 (by decide) rfl <| r_iconst D_X10_behind_18 ki_0 <| r_istore D_X10_behind_19 (by decide) rfl <| r_ls (x_X10_behind_21 hq F a1 a2 a5 x3 (0 : Int32) h) ⟨rfl, ⟨rfl, ⟨rfl, ⟨rfl, ⟨rfl, ⟨rfl, trivial⟩⟩⟩⟩⟩⟩
-- X10_isRain
theorem D_X10_isRain_0 : Dec mi_X10_isRain 0 (.iload_n 1) 1 1 := ⟨by decide +kernel, rfl⟩
theorem D_X10_isRain_1 : Dec mi_X10_isRain 1 (.iload_n 2) 1 2 := ⟨by decide +kernel, rfl⟩
theorem D_X10_isRain_2 : Dec mi_X10_isRain 2 (.ishr) 1 3 := ⟨by decide +kernel, rfl⟩
theorem D_X10_isRain_3 : Dec mi_X10_isRain 3 (.iconst 1) 1 4 := ⟨by decide +kernel, rfl⟩
theorem D_X10_isRain_4 : Dec mi_X10_isRain 4 (.iand) 1 5 := ⟨by decide +kernel, rfl⟩
theorem D_X10_isRain_5 : Dec mi_X10_isRain 5 (.iconst 1) 1 6 := ⟨by decide +kernel, rfl⟩
theorem D_X10_isRain_6 : DecJ mi_X10_isRain 6 (.if_icmp .ne 7) (7) 9 13 := ⟨by decide +kernel, rfl, by decide⟩
theorem D_X10_isRain_9 : Dec mi_X10_isRain 9 (.iconst 1) 1 10 := ⟨by decide +kernel, rfl⟩
theorem D_X10_isRain_10 : DecJ mi_X10_isRain 10 (.goto 4) (4) 13 14 := ⟨by decide +kernel, rfl, by decide⟩
theorem D_X10_isRain_13 : Dec mi_X10_isRain 13 (.iconst 0) 1 14 := ⟨by decide +kernel, rfl⟩
theorem D_X10_isRain_14 : Dec mi_X10_isRain 14 (.ireturn) 1 15 := ⟨by decide +kernel, rfl⟩
def f_X10_isRain (M : Mem) (a1 : Int32) (a2 : Int32) : Int32 := if ((a1 >>> (a2 &&& 31)) &&& (1 : Int32)) = (1 : Int32) then ((1 : Int32)) else ((0 : Int32))
theorem x_X10_isRain {l : Launch} {w : Wd} {M : Mem} {a1 : Int32} {a2 : Int32} {v : Int32} (h : f_X10_isRain M a1 a2 = v) : Cn l w mi_X10_isRain yX10_isRain (0) [.ref (wq w 36), .int a1, .int a2] M (some (.int v), M) :=
  Cn_of (loc0 := [some (.ref (wq w 36)), some (.int a1), some (.int a2)]) rfl rfl rfl (Nat.le_of_ble_eq_true rfl) fun κ hq => let_h (show (if ((a1 >>> (a2 &&& 31)) &&& (1 : Int32)) = (1 : Int32) then ((1 : Int32)) else ((0 : Int32))) = v from h) fun h => r_iload_n D_X10_isRain_0 rfl <| r_iload_n D_X10_isRain_1 rfl <| r_ishr D_X10_isRain_2 <| r_iconst D_X10_isRain_3 ki_1 <| r_iand D_X10_isRain_4 <| r_iconst D_X10_isRain_5 ki_1 <| r_icmp_ne D_X10_isRain_6 (fun c1 => let_h (ifT c1 h) fun h => r_iconst D_X10_isRain_9 ki_1 <| r_goto D_X10_isRain_10 <| r_zret hq D_X10_isRain_14 rfl rfl (rtT h)) (fun c1 => let_h (ifF c1 h) fun h => r_iconst D_X10_isRain_13 ki_0 <| r_zret hq D_X10_isRain_14 rfl rfl (rtT h))
-- X10_begin
theorem D_X10_begin_0 : Dec mi_X10_begin 0 (.aload_n 0) 1 1 := ⟨by decide +kernel, rfl⟩
theorem D_X10_begin_1 : Dec mi_X10_begin 1 (.getfield 45) 3 4 := ⟨by decide +kernel, rfl⟩
theorem D_X10_begin_4 : Dec mi_X10_begin 4 (.iconst 0) 1 5 := ⟨by decide +kernel, rfl⟩
theorem D_X10_begin_5 : Dec mi_X10_begin 5 (.iload_n 1) 1 6 := ⟨by decide +kernel, rfl⟩
theorem D_X10_begin_6 : Dec mi_X10_begin 6 (.iastore) 1 7 := ⟨by decide +kernel, rfl⟩
theorem D_X10_begin_7 : Dec mi_X10_begin 7 (.aload_n 0) 1 8 := ⟨by decide +kernel, rfl⟩
theorem D_X10_begin_8 : Dec mi_X10_begin 8 (.iconst 1) 1 9 := ⟨by decide +kernel, rfl⟩
theorem D_X10_begin_9 : Dec mi_X10_begin 9 (.putfield 165) 3 12 := ⟨by decide +kernel, rfl⟩
theorem D_X10_begin_12 : Dec mi_X10_begin 12 (.return_) 1 13 := ⟨by decide +kernel, rfl⟩
def f_X10_begin (M : Mem) (a1 : Int32) : Option Mem := if ck (0 : Int32) 4096 = true then (vlet (setI M 48 (0 : Int32).toNatClampNeg a1) fun M2 => vlet (setI M2 36 22 (1 : Int32)) fun M3 => some M3) else none
theorem x_X10_begin {l : Launch} {w : Wd} {M : Mem} {a1 : Int32} {v : Mem} (h : f_X10_begin M a1 = some v) : Cn l w mi_X10_begin yX10_begin (0) [.ref (wq w 36), .int a1] M (none, v) :=
  Cn_of (loc0 := [some (.ref (wq w 36)), some (.int a1)]) rfl rfl rfl (Nat.le_of_ble_eq_true rfl) fun κ hq => let_h (show (if ck (0 : Int32) 4096 = true then (vlet (setI M 48 (0 : Int32).toNatClampNeg a1) fun M2 => vlet (setI M2 36 22 (1 : Int32)) fun M3 => some M3) else none) = some v from h) fun h => r_aload_n D_X10_begin_0 rfl <| r_getR (j := 48) D_X10_begin_1 fl_X10_45 s_36 rfl <| r_iconst D_X10_begin_4 ki_0 <| r_iload_n D_X10_begin_5 rfl <| (ckE h).elim fun c1 h => r_iast D_X10_begin_6 s_48 c1 <| mlE h fun M2 h => r_aload_n D_X10_begin_7 rfl <| r_iconst D_X10_begin_8 ki_1 <| r_putI D_X10_begin_9 fp_X10_165 s_36 rfl rfl rfl <| mlE h fun M3 h => r_vret hq D_X10_begin_12 rfl (rtV h)
-- X10_goDay
theorem D_X10_goDay_0 : Dec mi_X10_goDay 0 (.iconst 0) 1 1 := ⟨by decide +kernel, rfl⟩
theorem D_X10_goDay_1 : Dec mi_X10_goDay 1 (.istore 4) 2 3 := ⟨by decide +kernel, rfl⟩
theorem D_X10_goDay_3 : Dec mi_X10_goDay 3 (.iconst 0) 1 4 := ⟨by decide +kernel, rfl⟩
theorem D_X10_goDay_4 : Dec mi_X10_goDay 4 (.istore 5) 2 6 := ⟨by decide +kernel, rfl⟩
theorem D_X10_goDay_6 : Dec mi_X10_goDay 6 (.iload 5) 2 8 := ⟨by decide +kernel, rfl⟩
theorem D_X10_goDay_8 : Dec mi_X10_goDay 8 (.bipush 36) 2 10 := ⟨by decide +kernel, rfl⟩
theorem D_X10_goDay_10 : DecJ mi_X10_goDay 10 (.if_icmp .ge 40) (40) 13 50 := ⟨by decide +kernel, rfl, by decide⟩
theorem D_X10_goDay_13 : Dec mi_X10_goDay 13 (.aload_n 0) 1 14 := ⟨by decide +kernel, rfl⟩
theorem D_X10_goDay_14 : Dec mi_X10_goDay 14 (.iload_n 1) 1 15 := ⟨by decide +kernel, rfl⟩
theorem D_X10_goDay_15 : Dec mi_X10_goDay 15 (.iload_n 3) 1 16 := ⟨by decide +kernel, rfl⟩
theorem D_X10_goDay_16 : Dec mi_X10_goDay 16 (.iload 5) 2 18 := ⟨by decide +kernel, rfl⟩
theorem D_X10_goDay_18 : Dec mi_X10_goDay 18 (.bipush 6) 2 20 := ⟨by decide +kernel, rfl⟩
theorem D_X10_goDay_20 : Dec mi_X10_goDay 20 (.idiv) 1 21 := ⟨by decide +kernel, rfl⟩
theorem D_X10_goDay_21 : Dec mi_X10_goDay 21 (.iload 5) 2 23 := ⟨by decide +kernel, rfl⟩
theorem D_X10_goDay_23 : Dec mi_X10_goDay 23 (.bipush 6) 2 25 := ⟨by decide +kernel, rfl⟩
theorem D_X10_goDay_25 : Dec mi_X10_goDay 25 (.irem) 1 26 := ⟨by decide +kernel, rfl⟩
theorem D_X10_goDay_26 : Dec mi_X10_goDay 26 (.invokevirtual 168) 3 29 := ⟨by decide +kernel, rfl⟩
theorem D_X10_goDay_29 : DecJ mi_X10_goDay 29 (.ifCond .eq 15) (15) 32 44 := ⟨by decide +kernel, rfl, by decide⟩
theorem D_X10_goDay_32 : Dec mi_X10_goDay 32 (.aload_n 0) 1 33 := ⟨by decide +kernel, rfl⟩
theorem D_X10_goDay_33 : Dec mi_X10_goDay 33 (.getfield 54) 3 36 := ⟨by decide +kernel, rfl⟩
theorem D_X10_goDay_36 : Dec mi_X10_goDay 36 (.iload 4) 2 38 := ⟨by decide +kernel, rfl⟩
theorem D_X10_goDay_38 : Dec mi_X10_goDay 38 (.iload 5) 2 40 := ⟨by decide +kernel, rfl⟩
theorem D_X10_goDay_40 : Dec mi_X10_goDay 40 (.iastore) 1 41 := ⟨by decide +kernel, rfl⟩
theorem D_X10_goDay_41 : Dec mi_X10_goDay 41 (.iinc 4 1) 3 44 := ⟨by decide +kernel, rfl⟩
theorem D_X10_goDay_44 : Dec mi_X10_goDay 44 (.iinc 5 1) 3 47 := ⟨by decide +kernel, rfl⟩
theorem D_X10_goDay_47 : DecJ mi_X10_goDay 47 (.goto (-41)) (-41) 50 6 := ⟨by decide +kernel, rfl, by decide⟩
theorem D_X10_goDay_50 : Dec mi_X10_goDay 50 (.aload_n 0) 1 51 := ⟨by decide +kernel, rfl⟩
theorem D_X10_goDay_51 : Dec mi_X10_goDay 51 (.iload_n 2) 1 52 := ⟨by decide +kernel, rfl⟩
theorem D_X10_goDay_52 : Dec mi_X10_goDay 52 (.iload_n 3) 1 53 := ⟨by decide +kernel, rfl⟩
theorem D_X10_goDay_53 : Dec mi_X10_goDay 53 (.invokevirtual 172) 3 56 := ⟨by decide +kernel, rfl⟩
theorem D_X10_goDay_56 : DecJ mi_X10_goDay 56 (.ifCond .eq 15) (15) 59 71 := ⟨by decide +kernel, rfl, by decide⟩
theorem D_X10_goDay_59 : Dec mi_X10_goDay 59 (.aload_n 0) 1 60 := ⟨by decide +kernel, rfl⟩
theorem D_X10_goDay_60 : Dec mi_X10_goDay 60 (.iload_n 1) 1 61 := ⟨by decide +kernel, rfl⟩
theorem D_X10_goDay_61 : Dec mi_X10_goDay 61 (.invokevirtual 175) 3 64 := ⟨by decide +kernel, rfl⟩
theorem D_X10_goDay_64 : DecJ mi_X10_goDay 64 (.ifCond .ne 7) (7) 67 71 := ⟨by decide +kernel, rfl, by decide⟩
theorem D_X10_goDay_67 : Dec mi_X10_goDay 67 (.iconst 1) 1 68 := ⟨by decide +kernel, rfl⟩
theorem D_X10_goDay_68 : DecJ mi_X10_goDay 68 (.goto 4) (4) 71 72 := ⟨by decide +kernel, rfl, by decide⟩
theorem D_X10_goDay_71 : Dec mi_X10_goDay 71 (.iconst 0) 1 72 := ⟨by decide +kernel, rfl⟩
theorem D_X10_goDay_72 : Dec mi_X10_goDay 72 (.istore 5) 2 74 := ⟨by decide +kernel, rfl⟩
theorem D_X10_goDay_74 : Dec mi_X10_goDay 74 (.iconst 0) 1 75 := ⟨by decide +kernel, rfl⟩
theorem D_X10_goDay_75 : Dec mi_X10_goDay 75 (.istore 6) 2 77 := ⟨by decide +kernel, rfl⟩
theorem D_X10_goDay_77 : Dec mi_X10_goDay 77 (.aload_n 0) 1 78 := ⟨by decide +kernel, rfl⟩
theorem D_X10_goDay_78 : Dec mi_X10_goDay 78 (.dup) 1 79 := ⟨by decide +kernel, rfl⟩
theorem D_X10_goDay_79 : Dec mi_X10_goDay 79 (.getfield 178) 3 82 := ⟨by decide +kernel, rfl⟩
theorem D_X10_goDay_82 : Dec mi_X10_goDay 82 (.iconst 1) 1 83 := ⟨by decide +kernel, rfl⟩
theorem D_X10_goDay_83 : Dec mi_X10_goDay 83 (.iadd) 1 84 := ⟨by decide +kernel, rfl⟩
theorem D_X10_goDay_84 : Dec mi_X10_goDay 84 (.putfield 178) 3 87 := ⟨by decide +kernel, rfl⟩
theorem D_X10_goDay_87 : Dec mi_X10_goDay 87 (.iconst 0) 1 88 := ⟨by decide +kernel, rfl⟩
theorem D_X10_goDay_88 : Dec mi_X10_goDay 88 (.istore 7) 2 90 := ⟨by decide +kernel, rfl⟩
theorem D_X10_goDay_90 : Dec mi_X10_goDay 90 (.iload 7) 2 92 := ⟨by decide +kernel, rfl⟩
theorem D_X10_goDay_92 : Dec mi_X10_goDay 92 (.aload_n 0) 1 93 := ⟨by decide +kernel, rfl⟩
theorem D_X10_goDay_93 : Dec mi_X10_goDay 93 (.getfield 165) 3 96 := ⟨by decide +kernel, rfl⟩
theorem D_X10_goDay_96 : DecJ mi_X10_goDay 96 (.if_icmp .ge 156) (156) 99 252 := ⟨by decide +kernel, rfl, by decide⟩
theorem D_X10_goDay_99 : Dec mi_X10_goDay 99 (.iconst 0) 1 100 := ⟨by decide +kernel, rfl⟩
theorem D_X10_goDay_100 : Dec mi_X10_goDay 100 (.istore 8) 2 102 := ⟨by decide +kernel, rfl⟩
theorem D_X10_goDay_102 : Dec mi_X10_goDay 102 (.iload 8) 2 104 := ⟨by decide +kernel, rfl⟩
theorem D_X10_goDay_104 : Dec mi_X10_goDay 104 (.iload 4) 2 106 := ⟨by decide +kernel, rfl⟩
theorem D_X10_goDay_106 : Dec mi_X10_goDay 106 (.iconst 1) 1 107 := ⟨by decide +kernel, rfl⟩
theorem D_X10_goDay_107 : Dec mi_X10_goDay 107 (.aload_n 0) 1 108 := ⟨by decide +kernel, rfl⟩
theorem D_X10_goDay_108 : Dec mi_X10_goDay 108 (.getfield 26) 3 111 := ⟨by decide +kernel, rfl⟩
theorem D_X10_goDay_111 : Dec mi_X10_goDay 111 (.iconst 4) 1 112 := ⟨by decide +kernel, rfl⟩
theorem D_X10_goDay_112 : Dec mi_X10_goDay 112 (.iload_n 3) 1 113 := ⟨by decide +kernel, rfl⟩
theorem D_X10_goDay_113 : Dec mi_X10_goDay 113 (.imul) 1 114 := ⟨by decide +kernel, rfl⟩
theorem D_X10_goDay_114 : Dec mi_X10_goDay 114 (.iconst 2) 1 115 := ⟨by decide +kernel, rfl⟩
theorem D_X10_goDay_115 : Dec mi_X10_goDay 115 (.iadd) 1 116 := ⟨by decide +kernel, rfl⟩
theorem D_X10_goDay_116 : Dec mi_X10_goDay 116 (.iaload) 1 117 := ⟨by decide +kernel, rfl⟩
theorem D_X10_goDay_117 : Dec mi_X10_goDay 117 (.iadd) 1 118 := ⟨by decide +kernel, rfl⟩
theorem D_X10_goDay_118 : Dec mi_X10_goDay 118 (.imul) 1 119 := ⟨by decide +kernel, rfl⟩
theorem D_X10_goDay_119 : DecJ mi_X10_goDay 119 (.if_icmp .ge 127) (127) 122 246 := ⟨by decide +kernel, rfl, by decide⟩
theorem D_X10_goDay_122 : Dec mi_X10_goDay 122 (.aload_n 0) 1 123 := ⟨by decide +kernel, rfl⟩
theorem D_X10_goDay_123 : Dec mi_X10_goDay 123 (.getfield 54) 3 126 := ⟨by decide +kernel, rfl⟩
theorem D_X10_goDay_126 : Dec mi_X10_goDay 126 (.iload 8) 2 128 := ⟨by decide +kernel, rfl⟩
theorem D_X10_goDay_128 : Dec mi_X10_goDay 128 (.iload 4) 2 130 := ⟨by decide +kernel, rfl⟩
theorem D_X10_goDay_130 : Dec mi_X10_goDay 130 (.irem) 1 131 := ⟨by decide +kernel, rfl⟩
theorem D_X10_goDay_131 : Dec mi_X10_goDay 131 (.iaload) 1 132 := ⟨by decide +kernel, rfl⟩
theorem D_X10_goDay_132 : Dec mi_X10_goDay 132 (.istore 9) 2 134 := ⟨by decide +kernel, rfl⟩
theorem D_X10_goDay_134 : Dec mi_X10_goDay 134 (.iload 9) 2 136 := ⟨by decide +kernel, rfl⟩
theorem D_X10_goDay_136 : Dec mi_X10_goDay 136 (.bipush 6) 2 138 := ⟨by decide +kernel, rfl⟩
theorem D_X10_goDay_138 : Dec mi_X10_goDay 138 (.idiv) 1 139 := ⟨by decide +kernel, rfl⟩
theorem D_X10_goDay_139 : Dec mi_X10_goDay 139 (.istore 10) 2 141 := ⟨by decide +kernel, rfl⟩
theorem D_X10_goDay_141 : Dec mi_X10_goDay 141 (.iload 9) 2 143 := ⟨by decide +kernel, rfl⟩
theorem D_X10_goDay_143 : Dec mi_X10_goDay 143 (.bipush 6) 2 145 := ⟨by decide +kernel, rfl⟩
theorem D_X10_goDay_145 : Dec mi_X10_goDay 145 (.irem) 1 146 := ⟨by decide +kernel, rfl⟩
theorem D_X10_goDay_146 : Dec mi_X10_goDay 146 (.istore 11) 2 148 := ⟨by decide +kernel, rfl⟩
theorem D_X10_goDay_148 : Dec mi_X10_goDay 148 (.aload_n 0) 1 149 := ⟨by decide +kernel, rfl⟩
theorem D_X10_goDay_149 : Dec mi_X10_goDay 149 (.getfield 45) 3 152 := ⟨by decide +kernel, rfl⟩
theorem D_X10_goDay_152 : Dec mi_X10_goDay 152 (.iload 7) 2 154 := ⟨by decide +kernel, rfl⟩
theorem D_X10_goDay_154 : Dec mi_X10_goDay 154 (.iaload) 1 155 := ⟨by decide +kernel, rfl⟩
theorem D_X10_goDay_155 : Dec mi_X10_goDay 155 (.iload 10) 2 157 := ⟨by decide +kernel, rfl⟩
theorem D_X10_goDay_157 : Dec mi_X10_goDay 157 (.invokestatic 181) 3 160 := ⟨by decide +kernel, rfl⟩
theorem D_X10_goDay_160 : DecJ mi_X10_goDay 160 (.ifCond .eq 80) (80) 163 240 := ⟨by decide +kernel, rfl, by decide⟩
theorem D_X10_goDay_163 : Dec mi_X10_goDay 163 (.aload_n 0) 1 164 := ⟨by decide +kernel, rfl⟩
theorem D_X10_goDay_164 : Dec mi_X10_goDay 164 (.getfield 45) 3 167 := ⟨by decide +kernel, rfl⟩
theorem D_X10_goDay_167 : Dec mi_X10_goDay 167 (.iload 7) 2 169 := ⟨by decide +kernel, rfl⟩
theorem D_X10_goDay_169 : Dec mi_X10_goDay 169 (.iaload) 1 170 := ⟨by decide +kernel, rfl⟩
theorem D_X10_goDay_170 : Dec mi_X10_goDay 170 (.iload 11) 2 172 := ⟨by decide +kernel, rfl⟩
theorem D_X10_goDay_172 : Dec mi_X10_goDay 172 (.invokestatic 181) 3 175 := ⟨by decide +kernel, rfl⟩
theorem D_X10_goDay_175 : DecJ mi_X10_goDay 175 (.ifCond .eq 65) (65) 178 240 := ⟨by decide +kernel, rfl, by decide⟩
theorem D_X10_goDay_178 : Dec mi_X10_goDay 178 (.aload_n 0) 1 179 := ⟨by decide +kernel, rfl⟩
theorem D_X10_goDay_179 : Dec mi_X10_goDay 179 (.aload_n 0) 1 180 := ⟨by decide +kernel, rfl⟩
theorem D_X10_goDay_180 : Dec mi_X10_goDay 180 (.getfield 45) 3 183 := ⟨by decide +kernel, rfl⟩
theorem D_X10_goDay_183 : Dec mi_X10_goDay 183 (.iload 7) 2 185 := ⟨by decide +kernel, rfl⟩
theorem D_X10_goDay_185 : Dec mi_X10_goDay 185 (.iaload) 1 186 := ⟨by decide +kernel, rfl⟩
theorem D_X10_goDay_186 : Dec mi_X10_goDay 186 (.iload_n 1) 1 187 := ⟨by decide +kernel, rfl⟩
theorem D_X10_goDay_187 : Dec mi_X10_goDay 187 (.iload 10) 2 189 := ⟨by decide +kernel, rfl⟩
theorem D_X10_goDay_189 : Dec mi_X10_goDay 189 (.iload 11) 2 191 := ⟨by decide +kernel, rfl⟩
theorem D_X10_goDay_191 : Dec mi_X10_goDay 191 (.iload 8) 2 193 := ⟨by decide +kernel, rfl⟩
theorem D_X10_goDay_193 : Dec mi_X10_goDay 193 (.iload 4) 2 195 := ⟨by decide +kernel, rfl⟩
theorem D_X10_goDay_195 : Dec mi_X10_goDay 195 (.idiv) 1 196 := ⟨by decide +kernel, rfl⟩
theorem D_X10_goDay_196 : Dec mi_X10_goDay 196 (.iload 5) 2 198 := ⟨by decide +kernel, rfl⟩
theorem D_X10_goDay_198 : Dec mi_X10_goDay 198 (.invokevirtual 184) 3 201 := ⟨by decide +kernel, rfl⟩
theorem D_X10_goDay_201 : Dec mi_X10_goDay 201 (.istore 12) 2 203 := ⟨by decide +kernel, rfl⟩
theorem D_X10_goDay_203 : Dec mi_X10_goDay 203 (.aload_n 0) 1 204 := ⟨by decide +kernel, rfl⟩
theorem D_X10_goDay_204 : Dec mi_X10_goDay 204 (.getfield 51) 3 207 := ⟨by decide +kernel, rfl⟩
theorem D_X10_goDay_207 : Dec mi_X10_goDay 207 (.iload 12) 2 209 := ⟨by decide +kernel, rfl⟩
theorem D_X10_goDay_209 : Dec mi_X10_goDay 209 (.iaload) 1 210 := ⟨by decide +kernel, rfl⟩
theorem D_X10_goDay_210 : Dec mi_X10_goDay 210 (.aload_n 0) 1 211 := ⟨by decide +kernel, rfl⟩
theorem D_X10_goDay_211 : Dec mi_X10_goDay 211 (.getfield 178) 3 214 := ⟨by decide +kernel, rfl⟩
theorem D_X10_goDay_214 : DecJ mi_X10_goDay 214 (.if_icmp .eq 26) (26) 217 240 := ⟨by decide +kernel, rfl, by decide⟩
theorem D_X10_goDay_217 : Dec mi_X10_goDay 217 (.aload_n 0) 1 218 := ⟨by decide +kernel, rfl⟩
theorem D_X10_goDay_218 : Dec mi_X10_goDay 218 (.getfield 51) 3 221 := ⟨by decide +kernel, rfl⟩
theorem D_X10_goDay_221 : Dec mi_X10_goDay 221 (.iload 12) 2 223 := ⟨by decide +kernel, rfl⟩
theorem D_X10_goDay_223 : Dec mi_X10_goDay 223 (.aload_n 0) 1 224 := ⟨by decide +kernel, rfl⟩
theorem D_X10_goDay_224 : Dec mi_X10_goDay 224 (.getfield 178) 3 227 := ⟨by decide +kernel, rfl⟩
theorem D_X10_goDay_227 : Dec mi_X10_goDay 227 (.iastore) 1 228 := ⟨by decide +kernel, rfl⟩
theorem D_X10_goDay_228 : Dec mi_X10_goDay 228 (.aload_n 0) 1 229 := ⟨by decide +kernel, rfl⟩
theorem D_X10_goDay_229 : Dec mi_X10_goDay 229 (.getfield 48) 3 232 := ⟨by decide +kernel, rfl⟩
theorem D_X10_goDay_232 : Dec mi_X10_goDay 232 (.iload 6) 2 234 := ⟨by decide +kernel, rfl⟩
theorem D_X10_goDay_234 : Dec mi_X10_goDay 234 (.iload 12) 2 236 := ⟨by decide +kernel, rfl⟩
theorem D_X10_goDay_236 : Dec mi_X10_goDay 236 (.iastore) 1 237 := ⟨by decide +kernel, rfl⟩
theorem D_X10_goDay_237 : Dec mi_X10_goDay 237 (.iinc 6 1) 3 240 := ⟨by decide +kernel, rfl⟩
theorem D_X10_goDay_240 : Dec mi_X10_goDay 240 (.iinc 8 1) 3 243 := ⟨by decide +kernel, rfl⟩
theorem D_X10_goDay_243 : DecJ mi_X10_goDay 243 (.goto (-141)) (-141) 246 102 := ⟨by decide +kernel, rfl, by decide⟩
theorem D_X10_goDay_246 : Dec mi_X10_goDay 246 (.iinc 7 1) 3 249 := ⟨by decide +kernel, rfl⟩
theorem D_X10_goDay_249 : DecJ mi_X10_goDay 249 (.goto (-159)) (-159) 252 90 := ⟨by decide +kernel, rfl, by decide⟩
theorem D_X10_goDay_252 : Dec mi_X10_goDay 252 (.aload_n 0) 1 253 := ⟨by decide +kernel, rfl⟩
theorem D_X10_goDay_253 : Dec mi_X10_goDay 253 (.iload 6) 2 255 := ⟨by decide +kernel, rfl⟩
theorem D_X10_goDay_255 : Dec mi_X10_goDay 255 (.putfield 165) 3 258 := ⟨by decide +kernel, rfl⟩
theorem D_X10_goDay_258 : Dec mi_X10_goDay 258 (.iconst 0) 1 259 := ⟨by decide +kernel, rfl⟩
theorem D_X10_goDay_259 : Dec mi_X10_goDay 259 (.istore 7) 2 261 := ⟨by decide +kernel, rfl⟩
theorem D_X10_goDay_261 : Dec mi_X10_goDay 261 (.iload 7) 2 263 := ⟨by decide +kernel, rfl⟩
theorem D_X10_goDay_263 : Dec mi_X10_goDay 263 (.iload 6) 2 265 := ⟨by decide +kernel, rfl⟩
theorem D_X10_goDay_265 : DecJ mi_X10_goDay 265 (.if_icmp .ge 23) (23) 268 288 := ⟨by decide +kernel, rfl, by decide⟩
theorem D_X10_goDay_268 : Dec mi_X10_goDay 268 (.aload_n 0) 1 269 := ⟨by decide +kernel, rfl⟩
theorem D_X10_goDay_269 : Dec mi_X10_goDay 269 (.getfield 45) 3 272 := ⟨by decide +kernel, rfl⟩
theorem D_X10_goDay_272 : Dec mi_X10_goDay 272 (.iload 7) 2 274 := ⟨by decide +kernel, rfl⟩
theorem D_X10_goDay_274 : Dec mi_X10_goDay 274 (.aload_n 0) 1 275 := ⟨by decide +kernel, rfl⟩
theorem D_X10_goDay_275 : Dec mi_X10_goDay 275 (.getfield 48) 3 278 := ⟨by decide +kernel, rfl⟩
theorem D_X10_goDay_278 : Dec mi_X10_goDay 278 (.iload 7) 2 280 := ⟨by decide +kernel, rfl⟩
theorem D_X10_goDay_280 : Dec mi_X10_goDay 280 (.iaload) 1 281 := ⟨by decide +kernel, rfl⟩
theorem D_X10_goDay_281 : Dec mi_X10_goDay 281 (.iastore) 1 282 := ⟨by decide +kernel, rfl⟩
theorem D_X10_goDay_282 : Dec mi_X10_goDay 282 (.iinc 7 1) 3 285 := ⟨by decide +kernel, rfl⟩
theorem D_X10_goDay_285 : DecJ mi_X10_goDay 285 (.goto (-24)) (-24) 288 261 := ⟨by decide +kernel, rfl, by decide⟩
theorem D_X10_goDay_288 : Dec mi_X10_goDay 288 (.return_) 1 289 := ⟨by decide +kernel, rfl⟩
def f_X10_goDay_102 (F : Nat) (K_90 : Int32 → Int32 → Int32 → Int32 → Int32 → Int32 → Mem → Option Mem) : Nat → Int32 → Int32 → Int32 → Int32 → Int32 → Int32 → Int32 → Mem → Option Mem
  | 0, _, _, _, _, _, _, _, _ => none
  | n + 1, y1, y3, y4, y5, y6, y7, y8, N => if ck (((4 : Int32) * y3) + (2 : Int32)) 64 = true then (if (y4 * ((1 : Int32) + (N.1 42 (((4 : Int32) * y3) + (2 : Int32)).toNatClampNeg))) ≤ y8 then (K_90 y1 y3 y4 y5 y6 (y7 + (1 : Int32)) N) else (if y4 = 0 then none else if ck (y8 - y8 / y4 * y4) 9 = true then (vlet (N.1 51 (y8 - y8 / y4 * y4).toNatClampNeg) fun x4 => vlet (x4 - x4 / (6 : Int32) * (6 : Int32)) fun x5 => if ck y7 4096 = true then (if (f_X10_isWearable N (N.1 48 y7.toNatClampNeg) (x4 / (6 : Int32))) = 0 then (f_X10_goDay_102 F K_90 n y1 y3 y4 y5 y6 y7 (y8 + (1 : Int32)) N) else (if ck y7 4096 = true then (if (f_X10_isWearable N (N.1 48 y7.toNatClampNeg) x5) = 0 then (f_X10_goDay_102 F K_90 n y1 y3 y4 y5 y6 y7 (y8 + (1 : Int32)) N) else (if ck y7 4096 = true then (if y4 = 0 then none else (f_X10_behind F N (N.1 48 y7.toNatClampNeg) y1 (x4 / (6 : Int32)) x5 (y8 / y4) y5).bind fun x11 => if ck x11 4096 = true then (if (N.1 50 x11.toNatClampNeg) = (N.1 36 23) then (f_X10_goDay_102 F K_90 n y1 y3 y4 y5 y6 y7 (y8 + (1 : Int32)) N) else (if ck x11 4096 = true then (vlet (setI N 50 x11.toNatClampNeg (N.1 36 23)) fun M16 => if ck y6 4096 = true then (vlet (setI M16 49 y6.toNatClampNeg x11) fun M18 => f_X10_goDay_102 F K_90 n y1 y3 y4 y5 (y6 + (1 : Int32)) y7 (y8 + (1 : Int32)) M18) else none) else none)) else none) else none)) else none)) else none) else none)) else none
theorem x_X10_goDay_102 {l : Launch} {w : Wd} {κ : Kp} {F : Nat} {v : Mem} {K_90 : Int32 → Int32 → Int32 → Int32 → Int32 → Int32 → Mem → Option Mem} (hq : RQ w (none, v) κ) (hK_90 : ∀ (y1 : Int32) (y3 : Int32) (y4 : Int32) (y5 : Int32) (y6 : Int32) (y7 : Int32) (N : Mem), K_90 y1 y3 y4 y5 y6 y7 N = some v → RR l w mi_X10_goDay (3) κ 90 [] [some (.ref (wq w 36)), some (.int y1), none, some (.int y3), some (.int y4), some (.int y5), some (.int y6), some (.int y7), none, none, none, none, none] N) : ∀ (n : Nat) (y1 : Int32) (y3 : Int32) (y4 : Int32) (y5 : Int32) (y6 : Int32) (y7 : Int32) (y8 : Int32) (N : Mem), f_X10_goDay_102 F K_90 n y1 y3 y4 y5 y6 y7 y8 N = some v → RR l w mi_X10_goDay (3) κ 102 [] [some (.ref (wq w 36)), some (.int y1), none, some (.int y3), some (.int y4), some (.int y5), some (.int y6), some (.int y7), some (.int y8), none, none, none, none] N
  | 0, _, _, _, _, _, _, _, _, h => nomatch h
  | n + 1, y1, y3, y4, y5, y6, y7, y8, N, h => let_h (show (if ck (((4 : Int32) * y3) + (2 : Int32)) 64 = true then (if (y4 * ((1 : Int32) + (N.1 42 (((4 : Int32) * y3) + (2 : Int32)).toNatClampNeg))) ≤ y8 then (K_90 y1 y3 y4 y5 y6 (y7 + (1 : Int32)) N) else (if y4 = 0 then none else if ck (y8 - y8 / y4 * y4) 9 = true then (vlet (N.1 51 (y8 - y8 / y4 * y4).toNatClampNeg) fun x4 => vlet (x4 - x4 / (6 : Int32) * (6 : Int32)) fun x5 => if ck y7 4096 = true then (if (f_X10_isWearable N (N.1 48 y7.toNatClampNeg) (x4 / (6 : Int32))) = 0 then (f_X10_goDay_102 F K_90 n y1 y3 y4 y5 y6 y7 (y8 + (1 : Int32)) N) else (if ck y7 4096 = true then (if (f_X10_isWearable N (N.1 48 y7.toNatClampNeg) x5) = 0 then (f_X10_goDay_102 F K_90 n y1 y3 y4 y5 y6 y7 (y8 + (1 : Int32)) N) else (if ck y7 4096 = true then (if y4 = 0 then none else (f_X10_behind F N (N.1 48 y7.toNatClampNeg) y1 (x4 / (6 : Int32)) x5 (y8 / y4) y5).bind fun x11 => if ck x11 4096 = true then (if (N.1 50 x11.toNatClampNeg) = (N.1 36 23) then (f_X10_goDay_102 F K_90 n y1 y3 y4 y5 y6 y7 (y8 + (1 : Int32)) N) else (if ck x11 4096 = true then (vlet (setI N 50 x11.toNatClampNeg (N.1 36 23)) fun M16 => if ck y6 4096 = true then (vlet (setI M16 49 y6.toNatClampNeg x11) fun M18 => f_X10_goDay_102 F K_90 n y1 y3 y4 y5 (y6 + (1 : Int32)) y7 (y8 + (1 : Int32)) M18) else none) else none)) else none) else none)) else none)) else none) else none)) else none) = some v from h) fun h => r_iload D_X10_goDay_102 rfl <| r_iload D_X10_goDay_104 rfl <| r_iconst D_X10_goDay_106 ki_1 <| r_aload_n D_X10_goDay_107 rfl <| r_getR (j := 42) D_X10_goDay_108 fl_X10_26 s_36 rfl <| r_iconst D_X10_goDay_111 ki_4 <| r_iload_n D_X10_goDay_112 rfl <| r_imul D_X10_goDay_113 <| r_iconst D_X10_goDay_114 ki_2 <| r_iadd D_X10_goDay_115 <| (ckE h).elim fun c1 h => r_iald D_X10_goDay_116 s_42 c1 <| r_iadd D_X10_goDay_117 <| r_imul D_X10_goDay_118 <| r_icmp_ge D_X10_goDay_119 (fun c2 => let_h (ifT c2 h) fun h => r_iinc D_X10_goDay_246 rfl ki_1 (by decide) rfl <| r_goto D_X10_goDay_249 <| r_ls (hK_90 y1 y3 y4 y5 y6 (y7 + (1 : Int32)) N h) ⟨rfl, ⟨rfl, ⟨rfl, ⟨rfl, ⟨rfl, ⟨rfl, ⟨rfl, trivial⟩⟩⟩⟩⟩⟩⟩) (fun c2 => let_h (ifF c2 h) fun h => r_aload_n D_X10_goDay_122 rfl <| r_getR (j := 51) D_X10_goDay_123 fl_X10_54 s_36 rfl <| r_iload D_X10_goDay_126 rfl <| r_iload D_X10_goDay_128 rfl <| (nzE h).elim fun c20 h => r_irem D_X10_goDay_130 c20 <| (ckE h).elim fun c3 h => r_iald D_X10_goDay_131 s_51 c3 <| vlE (fun x4 => RR l w mi_X10_goDay (3) κ 132 [.int x4] [some (.ref (wq w 36)), some (.int y1), none, some (.int y3), some (.int y4), some (.int y5), some (.int y6), some (.int y7), some (.int y8), none, none, none, none] N) h fun x4 h => r_istore D_X10_goDay_132 (by decide) rfl <| r_iload D_X10_goDay_134 rfl <| r_bipush D_X10_goDay_136 k8_6 <| r_idiv D_X10_goDay_138 (by decide) <| r_istore D_X10_goDay_139 (by decide) rfl <| r_iload D_X10_goDay_141 rfl <| r_bipush D_X10_goDay_143 k8_6 <| r_irem D_X10_goDay_145 (by decide) <| vlE (fun x5 => RR l w mi_X10_goDay (3) κ 146 [.int x5] [some (.ref (wq w 36)), some (.int y1), none, some (.int y3), some (.int y4), some (.int y5), some (.int y6), some (.int y7), some (.int y8), some (.int x4), some (.int (x4 / (6 : Int32))), none, none] N) h fun x5 h => r_istore D_X10_goDay_146 (by decide) rfl <| r_aload_n D_X10_goDay_148 rfl <| r_getR (j := 48) D_X10_goDay_149 fl_X10_45 s_36 rfl <| r_iload D_X10_goDay_152 rfl <| (ckE h).elim fun c6 h => r_iald D_X10_goDay_154 s_48 c6 <| r_iload D_X10_goDay_155 rfl <| r_callS (av := [.int (N.1 48 y7.toNatClampNeg), .int (x4 / (6 : Int32))]) D_X10_goDay_157 ml_X10_181 mf_X10_isWearable ms_X10_isWearable (x_X10_isWearable rfl) (Nat.le_of_ble_eq_true rfl) rfl rfl (Nat.le_of_ble_eq_true rfl) <| r_if_eq D_X10_goDay_160 (fun c7 => let_h (ifT c7 h) fun h => r_iinc D_X10_goDay_240 rfl ki_1 (by decide) rfl <| r_goto D_X10_goDay_243 <| r_ls (x_X10_goDay_102 hq hK_90 n y1 y3 y4 y5 y6 y7 (y8 + (1 : Int32)) N h) ⟨rfl, ⟨rfl, ⟨rfl, ⟨rfl, ⟨rfl, ⟨rfl, ⟨rfl, ⟨rfl, trivial⟩⟩⟩⟩⟩⟩⟩⟩) (fun c7 => let_h (ifF c7 h) fun h => r_aload_n D_X10_goDay_163 rfl <| r_getR (j := 48) D_X10_goDay_164 fl_X10_45 s_36 rfl <| r_iload D_X10_goDay_167 rfl <| (ckE h).elim fun c8 h => r_iald D_X10_goDay_169 s_48 c8 <| r_iload D_X10_goDay_170 rfl <| r_callS (av := [.int (N.1 48 y7.toNatClampNeg), .int x5]) D_X10_goDay_172 ml_X10_181 mf_X10_isWearable ms_X10_isWearable (x_X10_isWearable rfl) (Nat.le_of_ble_eq_true rfl) rfl rfl (Nat.le_of_ble_eq_true rfl) <| r_if_eq D_X10_goDay_175 (fun c9 => let_h (ifT c9 h) fun h => r_iinc D_X10_goDay_240 rfl ki_1 (by decide) rfl <| r_goto D_X10_goDay_243 <| r_ls (x_X10_goDay_102 hq hK_90 n y1 y3 y4 y5 y6 y7 (y8 + (1 : Int32)) N h) ⟨rfl, ⟨rfl, ⟨rfl, ⟨rfl, ⟨rfl, ⟨rfl, ⟨rfl, ⟨rfl, trivial⟩⟩⟩⟩⟩⟩⟩⟩) (fun c9 => let_h (ifF c9 h) fun h => r_aload_n D_X10_goDay_178 rfl <| r_aload_n D_X10_goDay_179 rfl <| r_getR (j := 48) D_X10_goDay_180 fl_X10_45 s_36 rfl <| r_iload D_X10_goDay_183 rfl <| (ckE h).elim fun c10 h => r_iald D_X10_goDay_185 s_48 c10 <| r_iload_n D_X10_goDay_186 rfl <| r_iload D_X10_goDay_187 rfl <| r_iload D_X10_goDay_189 rfl <| r_iload D_X10_goDay_191 rfl <| r_iload D_X10_goDay_193 rfl <| (nzE h).elim fun c19 h => r_idiv D_X10_goDay_195 c19 <| r_iload D_X10_goDay_196 rfl <| (bdE h).elim fun x11 q12 => let_h q12.2 fun h => r_callV (av := [.int (N.1 48 y7.toNatClampNeg), .int y1, .int (x4 / (6 : Int32)), .int x5, .int (y8 / y4), .int y5]) D_X10_goDay_198 ml_X10_184 mf_X10_behind mv_X10_behind s_36 rfl rfl (x_X10_behind q12.1) (Nat.le_of_ble_eq_true rfl) rfl rfl (Nat.le_of_ble_eq_true rfl) <| r_istore D_X10_goDay_201 (by decide) rfl <| r_aload_n D_X10_goDay_203 rfl <| r_getR (j := 50) D_X10_goDay_204 fl_X10_51 s_36 rfl <| r_iload D_X10_goDay_207 rfl <| (ckE h).elim fun c13 h => r_iald D_X10_goDay_209 s_50 c13 <| r_aload_n D_X10_goDay_210 rfl <| r_getI D_X10_goDay_211 fl_X10_178 s_36 rfl <| r_icmp_eq D_X10_goDay_214 (fun c14 => let_h (ifT c14 h) fun h => r_iinc D_X10_goDay_240 rfl ki_1 (by decide) rfl <| r_goto D_X10_goDay_243 <| r_ls (x_X10_goDay_102 hq hK_90 n y1 y3 y4 y5 y6 y7 (y8 + (1 : Int32)) N h) ⟨rfl, ⟨rfl, ⟨rfl, ⟨rfl, ⟨rfl, ⟨rfl, ⟨rfl, ⟨rfl, trivial⟩⟩⟩⟩⟩⟩⟩⟩) (fun c14 => let_h (ifF c14 h) fun h => r_aload_n D_X10_goDay_217 rfl <| r_getR (j := 50) D_X10_goDay_218 fl_X10_51 s_36 rfl <| r_iload D_X10_goDay_221 rfl <| r_aload_n D_X10_goDay_223 rfl <| r_getI D_X10_goDay_224 fl_X10_178 s_36 rfl <| (ckE h).elim fun c15 h => r_iast D_X10_goDay_227 s_50 c15 <| mlE h fun M16 h => r_aload_n D_X10_goDay_228 rfl <| r_getR (j := 49) D_X10_goDay_229 fl_X10_48 s_36 rfl <| r_iload D_X10_goDay_232 rfl <| r_iload D_X10_goDay_234 rfl <| (ckE h).elim fun c17 h => r_iast D_X10_goDay_236 s_49 c17 <| mlE h fun M18 h => r_iinc D_X10_goDay_237 rfl ki_1 (by decide) rfl <| r_iinc D_X10_goDay_240 rfl ki_1 (by decide) rfl <| r_goto D_X10_goDay_243 <| r_ls (x_X10_goDay_102 hq hK_90 n y1 y3 y4 y5 (y6 + (1 : Int32)) y7 (y8 + (1 : Int32)) M18 h) ⟨rfl, ⟨rfl, ⟨rfl, ⟨rfl, ⟨rfl, ⟨rfl, ⟨rfl, ⟨rfl, trivial⟩⟩⟩⟩⟩⟩⟩⟩))))
def f_X10_goDay_261 (F : Nat) : Nat → Int32 → Int32 → Mem → Option Mem
  | 0, _, _, _ => none
  | n + 1, y6, y7, N => if y6 ≤ y7 then (some N) else (if ck y7 4096 = true then (if ck y7 4096 = true then (vlet (setI N 48 y7.toNatClampNeg (N.1 49 y7.toNatClampNeg)) fun M4 => f_X10_goDay_261 F n y6 (y7 + (1 : Int32)) M4) else none) else none)
theorem x_X10_goDay_261 {l : Launch} {w : Wd} {κ : Kp} {F : Nat} {v : Mem} (hq : RQ w (none, v) κ) : ∀ (n : Nat) (y6 : Int32) (y7 : Int32) (N : Mem), f_X10_goDay_261 F n y6 y7 N = some v → RR l w mi_X10_goDay (3) κ 261 [] [some (.ref (wq w 36)), none, none, none, none, none, some (.int y6), some (.int y7), none, none, none, none, none] N
  | 0, _, _, _, h => nomatch h
  | n + 1, y6, y7, N, h => let_h (show (if y6 ≤ y7 then (some N) else (if ck y7 4096 = true then (if ck y7 4096 = true then (vlet (setI N 48 y7.toNatClampNeg (N.1 49 y7.toNatClampNeg)) fun M4 => f_X10_goDay_261 F n y6 (y7 + (1 : Int32)) M4) else none) else none)) = some v from h) fun h => r_iload D_X10_goDay_261 rfl <| r_iload D_X10_goDay_263 rfl <| r_icmp_ge D_X10_goDay_265 (fun c1 => let_h (ifT c1 h) fun h => r_vret hq D_X10_goDay_288 rfl (rtV h)) (fun c1 => let_h (ifF c1 h) fun h => r_aload_n D_X10_goDay_268 rfl <| r_getR (j := 48) D_X10_goDay_269 fl_X10_45 s_36 rfl <| r_iload D_X10_goDay_272 rfl <| r_aload_n D_X10_goDay_274 rfl <| r_getR (j := 49) D_X10_goDay_275 fl_X10_48 s_36 rfl <| r_iload D_X10_goDay_278 rfl <| (ckE h).elim fun c2 h => r_iald D_X10_goDay_280 s_49 c2 <| (ckE h).elim fun c3 h => r_iast D_X10_goDay_281 s_48 c3 <| mlE h fun M4 h => r_iinc D_X10_goDay_282 rfl ki_1 (by decide) rfl <| r_goto D_X10_goDay_285 <| r_ls (x_X10_goDay_261 hq n y6 (y7 + (1 : Int32)) M4 h) ⟨rfl, ⟨rfl, ⟨rfl, trivial⟩⟩⟩)
def f_X10_goDay_90 (F : Nat) : Nat → Int32 → Int32 → Int32 → Int32 → Int32 → Int32 → Mem → Option Mem
  | 0, _, _, _, _, _, _, _ => none
  | n + 1, y1, y3, y4, y5, y6, y7, N => if (N.1 36 22) ≤ y7 then (vlet (setI N 36 22 y6) fun M2 => f_X10_goDay_261 F F y6 (0 : Int32) M2) else (f_X10_goDay_102 F (fun y1 y3 y4 y5 y6 y7 N => f_X10_goDay_90 F n y1 y3 y4 y5 y6 y7 N) F y1 y3 y4 y5 y6 y7 (0 : Int32) N)
theorem x_X10_goDay_90 {l : Launch} {w : Wd} {κ : Kp} {F : Nat} {v : Mem} (hq : RQ w (none, v) κ) : ∀ (n : Nat) (y1 : Int32) (y3 : Int32) (y4 : Int32) (y5 : Int32) (y6 : Int32) (y7 : Int32) (N : Mem), f_X10_goDay_90 F n y1 y3 y4 y5 y6 y7 N = some v → RR l w mi_X10_goDay (3) κ 90 [] [some (.ref (wq w 36)), some (.int y1), none, some (.int y3), some (.int y4), some (.int y5), some (.int y6), some (.int y7), none, none, none, none, none] N
  | 0, _, _, _, _, _, _, _, h => nomatch h
  | n + 1, y1, y3, y4, y5, y6, y7, N, h => let_h (show (if (N.1 36 22) ≤ y7 then (vlet (setI N 36 22 y6) fun M2 => f_X10_goDay_261 F F y6 (0 : Int32) M2) else (f_X10_goDay_102 F (fun y1 y3 y4 y5 y6 y7 N => f_X10_goDay_90 F n y1 y3 y4 y5 y6 y7 N) F y1 y3 y4 y5 y6 y7 (0 : Int32) N)) = some v from h) fun h => r_iload D_X10_goDay_90 rfl <| r_aload_n D_X10_goDay_92 rfl <| r_getI D_X10_goDay_93 fl_X10_165 s_36 rfl <| r_icmp_ge D_X10_goDay_96 (fun c1 => let_h (ifT c1 h) fun h => r_aload_n D_X10_goDay_252 rfl <| r_iload D_X10_goDay_253 rfl <| r_putI D_X10_goDay_255 fp_X10_165 s_36 rfl rfl rfl <| mlE h fun M2 h => r_iconst D_X10_goDay_258 ki_0 <| r_istore D_X10_goDay_259 (by decide) rfl <| r_ls (x_X10_goDay_261 hq F y6 (0 : Int32) M2 h) ⟨rfl, ⟨rfl, ⟨rfl, trivial⟩⟩⟩) (fun c1 => let_h (ifF c1 h) fun h => r_iconst D_X10_goDay_99 ki_0 <| r_istore D_X10_goDay_100 (by decide) rfl <| r_ls (x_X10_goDay_102 hq (fun y1 y3 y4 y5 y6 y7 N h => x_X10_goDay_90 hq n y1 y3 y4 y5 y6 y7 N h) F y1 y3 y4 y5 y6 y7 (0 : Int32) N h) ⟨rfl, ⟨rfl, ⟨rfl, ⟨rfl, ⟨rfl, ⟨rfl, ⟨rfl, ⟨rfl, trivial⟩⟩⟩⟩⟩⟩⟩⟩)
def f_X10_goDay_6 (F : Nat) : Nat → Int32 → Int32 → Int32 → Int32 → Int32 → Mem → Option Mem
  | 0, _, _, _, _, _, _ => none
  | n + 1, y1, y2, y3, y4, y5, N => if (36 : Int32) ≤ y5 then (if (f_X10_isRain N y2 y3) = 0 then (vlet (setI N 36 23 ((N.1 36 23) + (1 : Int32))) fun M3 => f_X10_goDay_90 F F y1 y3 y4 (0 : Int32) (0 : Int32) (0 : Int32) M3) else ((f_X10_hasCoat F N y1).bind fun x4 => if x4 = 0 then (vlet (setI N 36 23 ((N.1 36 23) + (1 : Int32))) fun M7 => f_X10_goDay_90 F F y1 y3 y4 (1 : Int32) (0 : Int32) (0 : Int32) M7) else (vlet (setI N 36 23 ((N.1 36 23) + (1 : Int32))) fun M8 => f_X10_goDay_90 F F y1 y3 y4 (0 : Int32) (0 : Int32) (0 : Int32) M8))) else ((f_X10_mayWear F N y1 y3 (y5 / (6 : Int32)) (y5 - y5 / (6 : Int32) * (6 : Int32))).bind fun x9 => if x9 = 0 then (f_X10_goDay_6 F n y1 y2 y3 y4 (y5 + (1 : Int32)) N) else (if ck y4 9 = true then (vlet (setI N 51 y4.toNatClampNeg y5) fun M13 => f_X10_goDay_6 F n y1 y2 y3 (y4 + (1 : Int32)) (y5 + (1 : Int32)) M13) else none))
theorem x_X10_goDay_6 {l : Launch} {w : Wd} {κ : Kp} {F : Nat} {v : Mem} (hq : RQ w (none, v) κ) : ∀ (n : Nat) (y1 : Int32) (y2 : Int32) (y3 : Int32) (y4 : Int32) (y5 : Int32) (N : Mem), f_X10_goDay_6 F n y1 y2 y3 y4 y5 N = some v → RR l w mi_X10_goDay (3) κ 6 [] [some (.ref (wq w 36)), some (.int y1), some (.int y2), some (.int y3), some (.int y4), some (.int y5), none, none, none, none, none, none, none] N
  | 0, _, _, _, _, _, _, h => nomatch h
  | n + 1, y1, y2, y3, y4, y5, N, h => let_h (show (if (36 : Int32) ≤ y5 then (if (f_X10_isRain N y2 y3) = 0 then (vlet (setI N 36 23 ((N.1 36 23) + (1 : Int32))) fun M3 => f_X10_goDay_90 F F y1 y3 y4 (0 : Int32) (0 : Int32) (0 : Int32) M3) else ((f_X10_hasCoat F N y1).bind fun x4 => if x4 = 0 then (vlet (setI N 36 23 ((N.1 36 23) + (1 : Int32))) fun M7 => f_X10_goDay_90 F F y1 y3 y4 (1 : Int32) (0 : Int32) (0 : Int32) M7) else (vlet (setI N 36 23 ((N.1 36 23) + (1 : Int32))) fun M8 => f_X10_goDay_90 F F y1 y3 y4 (0 : Int32) (0 : Int32) (0 : Int32) M8))) else ((f_X10_mayWear F N y1 y3 (y5 / (6 : Int32)) (y5 - y5 / (6 : Int32) * (6 : Int32))).bind fun x9 => if x9 = 0 then (f_X10_goDay_6 F n y1 y2 y3 y4 (y5 + (1 : Int32)) N) else (if ck y4 9 = true then (vlet (setI N 51 y4.toNatClampNeg y5) fun M13 => f_X10_goDay_6 F n y1 y2 y3 (y4 + (1 : Int32)) (y5 + (1 : Int32)) M13) else none))) = some v from h) fun h => r_iload D_X10_goDay_6 rfl <| r_bipush D_X10_goDay_8 k8_36 <| r_icmp_ge D_X10_goDay_10 (fun c1 => let_h (ifT c1 h) fun h => r_aload_n D_X10_goDay_50 rfl <| r_iload_n D_X10_goDay_51 rfl <| r_iload_n D_X10_goDay_52 rfl <| r_callV (av := [.int y2, .int y3]) D_X10_goDay_53 ml_X10_172 mf_X10_isRain mv_X10_isRain s_36 rfl rfl (x_X10_isRain rfl) (Nat.le_of_ble_eq_true rfl) rfl rfl (Nat.le_of_ble_eq_true rfl) <| r_if_eq D_X10_goDay_56 (fun c2 => let_h (ifT c2 h) fun h => r_iconst D_X10_goDay_71 ki_0 <| r_istore D_X10_goDay_72 (by decide) rfl <| r_iconst D_X10_goDay_74 ki_0 <| r_istore D_X10_goDay_75 (by decide) rfl <| r_aload_n D_X10_goDay_77 rfl <| r_dup D_X10_goDay_78 rfl <| r_getI D_X10_goDay_79 fl_X10_178 s_36 rfl <| r_iconst D_X10_goDay_82 ki_1 <| r_iadd D_X10_goDay_83 <| r_putI D_X10_goDay_84 fp_X10_178 s_36 rfl rfl rfl <| mlE h fun M3 h => r_iconst D_X10_goDay_87 ki_0 <| r_istore D_X10_goDay_88 (by decide) rfl <| r_ls (x_X10_goDay_90 hq F y1 y3 y4 (0 : Int32) (0 : Int32) (0 : Int32) M3 h) ⟨rfl, ⟨rfl, ⟨rfl, ⟨rfl, ⟨rfl, ⟨rfl, ⟨rfl, trivial⟩⟩⟩⟩⟩⟩⟩) (fun c2 => let_h (ifF c2 h) fun h => r_aload_n D_X10_goDay_59 rfl <| r_iload_n D_X10_goDay_60 rfl <| (bdE h).elim fun x4 q5 => let_h q5.2 fun h => r_callV (av := [.int y1]) D_X10_goDay_61 ml_X10_175 mf_X10_hasCoat mv_X10_hasCoat s_36 rfl rfl (x_X10_hasCoat q5.1) (Nat.le_of_ble_eq_true rfl) rfl rfl (Nat.le_of_ble_eq_true rfl) <| r_if_ne D_X10_goDay_64 (fun c6 => let_h (ifT c6 h) fun h => r_iconst D_X10_goDay_67 ki_1 <| r_goto D_X10_goDay_68 <| r_istore D_X10_goDay_72 (by decide) rfl <| r_iconst D_X10_goDay_74 ki_0 <| r_istore D_X10_goDay_75 (by decide) rfl <| r_aload_n D_X10_goDay_77 rfl <| r_dup D_X10_goDay_78 rfl <| r_getI D_X10_goDay_79 fl_X10_178 s_36 rfl <| r_iconst D_X10_goDay_82 ki_1 <| r_iadd D_X10_goDay_83 <| r_putI D_X10_goDay_84 fp_X10_178 s_36 rfl rfl rfl <| mlE h fun M7 h => r_iconst D_X10_goDay_87 ki_0 <| r_istore D_X10_goDay_88 (by decide) rfl <| r_ls (x_X10_goDay_90 hq F y1 y3 y4 (1 : Int32) (0 : Int32) (0 : Int32) M7 h) ⟨rfl, ⟨rfl, ⟨rfl, ⟨rfl, ⟨rfl, ⟨rfl, ⟨rfl, trivial⟩⟩⟩⟩⟩⟩⟩) (fun c6 => let_h (ifF c6 h) fun h => r_iconst D_X10_goDay_71 ki_0 <| r_istore D_X10_goDay_72 (by decide) rfl <| r_iconst D_X10_goDay_74 ki_0 <| r_istore D_X10_goDay_75 (by decide) rfl <| r_aload_n D_X10_goDay_77 rfl <| r_dup D_X10_goDay_78 rfl <| r_getI D_X10_goDay_79 fl_X10_178 s_36 rfl <| r_iconst D_X10_goDay_82 ki_1 <| r_iadd D_X10_goDay_83 <| r_putI D_X10_goDay_84 fp_X10_178 s_36 rfl rfl rfl <| mlE h fun M8 h => r_iconst D_X10_goDay_87 ki_0 <| r_istore D_X10_goDay_88 (by decide) rfl <| r_ls (x_X10_goDay_90 hq F y1 y3 y4 (0 : Int32) (0 : Int32) (0 : Int32) M8 h) ⟨rfl, ⟨rfl, ⟨rfl, ⟨rfl, ⟨rfl, ⟨rfl, ⟨rfl, trivial⟩⟩⟩⟩⟩⟩⟩))) (fun c1 => let_h (ifF c1 h) fun h => r_aload_n D_X10_goDay_13 rfl <| r_iload_n D_X10_goDay_14 rfl <| r_iload_n D_X10_goDay_15 rfl <| r_iload D_X10_goDay_16 rfl <| r_bipush D_X10_goDay_18 k8_6 <| r_idiv D_X10_goDay_20 (by decide) <| r_iload D_X10_goDay_21 rfl <| r_bipush D_X10_goDay_23 k8_6 <| r_irem D_X10_goDay_25 (by decide) <| (bdE h).elim fun x9 q10 => let_h q10.2 fun h => r_callV (av := [.int y1, .int y3, .int (y5 / (6 : Int32)), .int (y5 - y5 / (6 : Int32) * (6 : Int32))]) D_X10_goDay_26 ml_X10_168 mf_X10_mayWear mv_X10_mayWear s_36 rfl rfl (x_X10_mayWear q10.1) (Nat.le_of_ble_eq_true rfl) rfl rfl (Nat.le_of_ble_eq_true rfl) <| r_if_eq D_X10_goDay_29 (fun c11 => let_h (ifT c11 h) fun h => r_iinc D_X10_goDay_44 rfl ki_1 (by decide) rfl <| r_goto D_X10_goDay_47 <| r_ls (x_X10_goDay_6 hq n y1 y2 y3 y4 (y5 + (1 : Int32)) N h) ⟨rfl, ⟨rfl, ⟨rfl, ⟨rfl, ⟨rfl, ⟨rfl, trivial⟩⟩⟩⟩⟩⟩) (fun c11 => let_h (ifF c11 h) fun h => r_aload_n D_X10_goDay_32 rfl <| r_getR (j := 51) D_X10_goDay_33 fl_X10_54 s_36 rfl <| r_iload D_X10_goDay_36 rfl <| r_iload D_X10_goDay_38 rfl <| (ckE h).elim fun c12 h => r_iast D_X10_goDay_40 s_51 c12 <| mlE h fun M13 h => r_iinc D_X10_goDay_41 rfl ki_1 (by decide) rfl <| r_iinc D_X10_goDay_44 rfl ki_1 (by decide) rfl <| r_goto D_X10_goDay_47 <| r_ls (x_X10_goDay_6 hq n y1 y2 y3 (y4 + (1 : Int32)) (y5 + (1 : Int32)) M13 h) ⟨rfl, ⟨rfl, ⟨rfl, ⟨rfl, ⟨rfl, ⟨rfl, trivial⟩⟩⟩⟩⟩⟩))
def f_X10_goDay (F : Nat) (M : Mem) (a1 : Int32) (a2 : Int32) (a3 : Int32) : Option Mem := f_X10_goDay_6 F F a1 a2 a3 (0 : Int32) (0 : Int32) M
theorem x_X10_goDay {l : Launch} {w : Wd} {F : Nat} {M : Mem} {a1 : Int32} {a2 : Int32} {a3 : Int32} {v : Mem} (h : f_X10_goDay F M a1 a2 a3 = some v) : Cn l w mi_X10_goDay yX10_goDay (3) [.ref (wq w 36), .int a1, .int a2, .int a3] M (none, v) :=
  Cn_of (loc0 := [some (.ref (wq w 36)), some (.int a1), some (.int a2), some (.int a3), none, none, none, none, none, none, none, none, none]) rfl rfl rfl (Nat.le_of_ble_eq_true rfl) fun κ hq => let_h (show (f_X10_goDay_6 F F a1 a2 a3 (0 : Int32) (0 : Int32) M) = some v from h) fun h => r_iconst D_X10_goDay_0 ki_0 <| r_istore D_X10_goDay_1 (by decide) rfl <| r_iconst D_X10_goDay_3 ki_0 <| r_istore D_X10_goDay_4 (by decide) rfl <| r_ls (x_X10_goDay_6 hq F a1 a2 a3 (0 : Int32) (0 : Int32) M h) ⟨rfl, ⟨rfl, ⟨rfl, ⟨rfl, ⟨rfl, ⟨rfl, trivial⟩⟩⟩⟩⟩⟩
