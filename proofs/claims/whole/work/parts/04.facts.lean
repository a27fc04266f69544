-- part 04: links and methods, out of the tables (printed by wip/gen/emit.py)

theorem let_h {p : Prop} {q : Prop} (h : p) (k : p → q) : q := k h
theorem dcs {c q : Prop} (a : c → q) (b : ¬ c → q) : q := (Classical.em c).elim a b
theorem rtT {v x : Int32} {M : Mem} (h : x = v) : ((some (.int v), M) : Res) = (some (.int x), M) := by rw [h]
theorem rtP {v x : Int32} {M : Mem} (h : some x = some v) : ((some (.int v), M) : Res) = (some (.int x), M) := by cases h; rfl
theorem rtW {v : Int32 × Mem} {x : Int32} {M : Mem} (h : some (x, M) = some v) : ((some (.int v.1), v.2) : Res) = (some (.int x), M) := by cases h; rfl
theorem rtTL {v x : Int64} {M : Mem} (h : x = v) : ((some (.long v), M) : Res) = (some (.long x), M) := by rw [h]
theorem rtPL {v x : Int64} {M : Mem} (h : some x = some v) : ((some (.long v), M) : Res) = (some (.long x), M) := by cases h; rfl
theorem rtWL {v : Int64 × Mem} {x : Int64} {M : Mem} (h : some (x, M) = some v) : ((some (.long v.1), v.2) : Res) = (some (.long x), M) := by cases h; rfl
theorem rtTA {w : Wd} {v x : Nat} {M : Mem} (h : x = v) : ((some (.ref (wq w v)), M) : Res) = (some (.ref (wq w x)), M) := by rw [h]
theorem rtV {v M : Mem} (h : some M = some v) : ((none, v) : Res) = (none, M) := by cases h; rfl
theorem nbz {v : Int32} (h : v &&& 1 = v) : narrow .boolean (.int v) = .int v := by
  show Value.int (v &&& 1) = .int v
  rw [h]
theorem bzE {α : Type _} {c : Prop} {inst : Decidable c} {a : Option α} {r : α} (e : (if c then a else none) = some r) : c ∧ a = some r := by
  by_cases h : c
  · rw [if_pos h] at e; exact ⟨h, e⟩
  · rw [if_neg h] at e; cases e

theorem k16_1000 : (Int16.ofInt (1000)).toInt32 = (1000 : Int32) := by decide
theorem k16_10000 : (Int16.ofInt (10000)).toInt32 = (10000 : Int32) := by decide
theorem k16_1365 : (Int16.ofInt (1365)).toInt32 = (1365 : Int32) := by decide
theorem k16_255 : (Int16.ofInt (255)).toInt32 = (255 : Int32) := by decide
theorem k16_4096 : (Int16.ofInt (4096)).toInt32 = (4096 : Int32) := by decide
theorem k16_500 : (Int16.ofInt (500)).toInt32 = (500 : Int32) := by decide
theorem k16_999 : (Int16.ofInt (999)).toInt32 = (999 : Int32) := by decide
theorem k8_10 : (Int8.ofInt (10)).toInt32 = (10 : Int32) := by decide
theorem k8_100 : (Int8.ofInt (100)).toInt32 = (100 : Int32) := by decide
theorem k8_11 : (Int8.ofInt (11)).toInt32 = (11 : Int32) := by decide
theorem k8_12 : (Int8.ofInt (12)).toInt32 = (12 : Int32) := by decide
theorem k8_122 : (Int8.ofInt (122)).toInt32 = (122 : Int32) := by decide
theorem k8_16 : (Int8.ofInt (16)).toInt32 = (16 : Int32) := by decide
theorem k8_20 : (Int8.ofInt (20)).toInt32 = (20 : Int32) := by decide
theorem k8_27 : (Int8.ofInt (27)).toInt32 = (27 : Int32) := by decide
theorem k8_32 : (Int8.ofInt (32)).toInt32 = (32 : Int32) := by decide
theorem k8_36 : (Int8.ofInt (36)).toInt32 = (36 : Int32) := by decide
theorem k8_48 : (Int8.ofInt (48)).toInt32 = (48 : Int32) := by decide
theorem k8_57 : (Int8.ofInt (57)).toInt32 = (57 : Int32) := by decide
theorem k8_59 : (Int8.ofInt (59)).toInt32 = (59 : Int32) := by decide
theorem k8_6 : (Int8.ofInt (6)).toInt32 = (6 : Int32) := by decide
theorem k8_63 : (Int8.ofInt (63)).toInt32 = (63 : Int32) := by decide
theorem k8_64 : (Int8.ofInt (64)).toInt32 = (64 : Int32) := by decide
theorem k8_7 : (Int8.ofInt (7)).toInt32 = (7 : Int32) := by decide
theorem k8_8 : (Int8.ofInt (8)).toInt32 = (8 : Int32) := by decide
theorem k8_9 : (Int8.ofInt (9)).toInt32 = (9 : Int32) := by decide
theorem k8_96 : (Int8.ofInt (96)).toInt32 = (96 : Int32) := by decide
theorem k8_97 : (Int8.ofInt (97)).toInt32 = (97 : Int32) := by decide
theorem k8_99 : (Int8.ofInt (99)).toInt32 = (99 : Int32) := by decide
theorem k8_m10 : (Int8.ofInt (-10)).toInt32 = (-10 : Int32) := by decide
theorem k8_m2 : (Int8.ofInt (-2)).toInt32 = (-2 : Int32) := by decide
theorem k8_m3 : (Int8.ofInt (-3)).toInt32 = (-3 : Int32) := by decide
theorem k8_m9 : (Int8.ofInt (-9)).toInt32 = (-9 : Int32) := by decide
theorem ki_0 : Int32.ofInt (0) = (0 : Int32) := by decide
theorem ki_1 : Int32.ofInt (1) = (1 : Int32) := by decide
theorem ki_2 : Int32.ofInt (2) = (2 : Int32) := by decide
theorem ki_3 : Int32.ofInt (3) = (3 : Int32) := by decide
theorem ki_4 : Int32.ofInt (4) = (4 : Int32) := by decide
theorem ki_5 : Int32.ofInt (5) = (5 : Int32) := by decide
theorem ki_m1 : Int32.ofInt (-1) = (-1 : Int32) := by decide
theorem inw_X0 : ∀ x ∈ u_ws RX0 TX0 3, x ∈ lw_t := by
  intro x hx
  obtain ⟨k, hk, rfl⟩ := List.mem_map.mp hx
  have hk := List.mem_range.mp hk
  exact match k, hk with
  | 0, _ => mt1 177 rfl rfl
  | 1, _ => mt1 179 rfl rfl
  | 2, _ => mt1 181 rfl rfl
  | j + 3, hh => absurd hh (by omega)
theorem inw_X1 : ∀ x ∈ u_ws RX1 TX1 2, x ∈ lw_t := by
  intro x hx
  obtain ⟨k, hk, rfl⟩ := List.mem_map.mp hx
  have hk := List.mem_range.mp hk
  exact match k, hk with
  | 0, _ => mt2 5 rfl rfl
  | 1, _ => mt2 7 rfl rfl
  | j + 2, hh => absurd hh (by omega)
theorem inw_X2 : ∀ x ∈ u_ws RX2 TX2 4, x ∈ lw_t := by
  intro x hx
  obtain ⟨k, hk, rfl⟩ := List.mem_map.mp hx
  have hk := List.mem_range.mp hk
  exact match k, hk with
  | 0, _ => mt1 121 rfl rfl
  | 1, _ => mt1 123 rfl rfl
  | 2, _ => mt1 125 rfl rfl
  | 3, _ => mt1 127 rfl rfl
  | j + 4, hh => absurd hh (by omega)
theorem inw_X3 : ∀ x ∈ u_ws RX3 TX3 4, x ∈ lw_t := by
  intro x hx
  obtain ⟨k, hk, rfl⟩ := List.mem_map.mp hx
  have hk := List.mem_range.mp hk
  exact match k, hk with
  | 0, _ => mt1 228 rfl rfl
  | 1, _ => mt1 230 rfl rfl
  | 2, _ => mt1 232 rfl rfl
  | 3, _ => mt1 234 rfl rfl
  | j + 4, hh => absurd hh (by omega)
theorem inw_X4 : ∀ x ∈ u_ws RX4 TX4 9, x ∈ lw_t := by
  intro x hx
  obtain ⟨k, hk, rfl⟩ := List.mem_map.mp hx
  have hk := List.mem_range.mp hk
  exact match k, hk with
  | 0, _ => mt1 199 rfl rfl
  | 1, _ => mt1 201 rfl rfl
  | 2, _ => mt1 203 rfl rfl
  | 3, _ => mt1 205 rfl rfl
  | 4, _ => mt1 207 rfl rfl
  | 5, _ => mt1 209 rfl rfl
  | 6, _ => mt1 211 rfl rfl
  | 7, _ => mt1 213 rfl rfl
  | 8, _ => mt1 215 rfl rfl
  | j + 9, hh => absurd hh (by omega)
theorem inw_X5 : ∀ x ∈ u_ws RX5 TX5 9, x ∈ lw_t := by
  intro x hx
  obtain ⟨k, hk, rfl⟩ := List.mem_map.mp hx
  have hk := List.mem_range.mp hk
  exact match k, hk with
  | 0, _ => mt1 145 rfl rfl
  | 1, _ => mt1 147 rfl rfl
  | 2, _ => mt1 149 rfl rfl
  | 3, _ => mt1 151 rfl rfl
  | 4, _ => mt1 153 rfl rfl
  | 5, _ => mt1 155 rfl rfl
  | 6, _ => mt1 157 rfl rfl
  | 7, _ => mt1 159 rfl rfl
  | 8, _ => mt1 161 rfl rfl
  | j + 9, hh => absurd hh (by omega)
theorem inw_X6 : ∀ x ∈ u_ws RX6 TX6 7, x ∈ lw_t := by
  intro x hx
  obtain ⟨k, hk, rfl⟩ := List.mem_map.mp hx
  have hk := List.mem_range.mp hk
  exact match k, hk with
  | 0, _ => mt1 96 rfl rfl
  | 1, _ => mt1 98 rfl rfl
  | 2, _ => mt1 100 rfl rfl
  | 3, _ => mt1 102 rfl rfl
  | 4, _ => mt1 104 rfl rfl
  | 5, _ => mt1 106 rfl rfl
  | 6, _ => mt1 108 rfl rfl
  | j + 7, hh => absurd hh (by omega)
theorem inw_X7 : ∀ x ∈ u_ws RX7 TX7 2, x ∈ lw_t := by
  intro x hx
  obtain ⟨k, hk, rfl⟩ := List.mem_map.mp hx
  have hk := List.mem_range.mp hk
  exact match k, hk with
  | 0, _ => mt1 36 rfl rfl
  | 1, _ => mt1 38 rfl rfl
  | j + 2, hh => absurd hh (by omega)
theorem inw_X8 : ∀ x ∈ u_ws RX8 TX8 11, x ∈ lw_t := by
  intro x hx
  obtain ⟨k, hk, rfl⟩ := List.mem_map.mp hx
  have hk := List.mem_range.mp hk
  exact match k, hk with
  | 0, _ => mt1 59 rfl rfl
  | 1, _ => mt1 61 rfl rfl
  | 2, _ => mt1 63 rfl rfl
  | 3, _ => mt1 65 rfl rfl
  | 4, _ => mt1 67 rfl rfl
  | 5, _ => mt1 69 rfl rfl
  | 6, _ => mt1 71 rfl rfl
  | 7, _ => mt1 73 rfl rfl
  | 8, _ => mt1 75 rfl rfl
  | 9, _ => mt1 77 rfl rfl
  | 10, _ => mt1 79 rfl rfl
  | j + 11, hh => absurd hh (by omega)
theorem inw_X9 : ∀ x ∈ u_ws RX9 TX9 13, x ∈ lw_t := by
  intro x hx
  obtain ⟨k, hk, rfl⟩ := List.mem_map.mp hx
  have hk := List.mem_range.mp hk
  exact match k, hk with
  | 0, _ => mt2 23 rfl rfl
  | 1, _ => mt2 25 rfl rfl
  | 2, _ => mt2 27 rfl rfl
  | 3, _ => mt2 29 rfl rfl
  | 4, _ => mt2 31 rfl rfl
  | 5, _ => mt2 33 rfl rfl
  | 6, _ => mt2 35 rfl rfl
  | 7, _ => mt2 37 rfl rfl
  | 8, _ => mt2 39 rfl rfl
  | 9, _ => mt2 41 rfl rfl
  | 10, _ => mt2 43 rfl rfl
  | 11, _ => mt2 45 rfl rfl
  | 12, _ => mt2 47 rfl rfl
  | j + 13, hh => absurd hh (by omega)
theorem inw_X10 : ∀ x ∈ u_ws RX10 TX10 33, x ∈ lw_t := by
  intro x hx
  obtain ⟨k, hk, rfl⟩ := List.mem_map.mp hx
  have hk := List.mem_range.mp hk
  exact match k, hk with
  | 0, _ => mt5 72 rfl rfl
  | 1, _ => mt5 74 rfl rfl
  | 2, _ => mt5 76 rfl rfl
  | 3, _ => mt5 78 rfl rfl
  | 4, _ => mt5 80 rfl rfl
  | 5, _ => mt5 82 rfl rfl
  | 6, _ => mt5 84 rfl rfl
  | 7, _ => mt5 86 rfl rfl
  | 8, _ => mt5 88 rfl rfl
  | 9, _ => mt5 90 rfl rfl
  | 10, _ => mt5 92 rfl rfl
  | 11, _ => mt5 94 rfl rfl
  | 12, _ => mt5 96 rfl rfl
  | 13, _ => mt5 98 rfl rfl
  | 14, _ => mt5 100 rfl rfl
  | 15, _ => mt5 102 rfl rfl
  | 16, _ => mt5 104 rfl rfl
  | 17, _ => mt5 106 rfl rfl
  | 18, _ => mt5 108 rfl rfl
  | 19, _ => mt5 110 rfl rfl
  | 20, _ => mt5 112 rfl rfl
  | 21, _ => mt5 114 rfl rfl
  | 22, _ => mt5 116 rfl rfl
  | 23, _ => mt5 118 rfl rfl
  | 24, _ => mt5 120 rfl rfl
  | 25, _ => mt5 122 rfl rfl
  | 26, _ => mt5 124 rfl rfl
  | 27, _ => mt5 126 rfl rfl
  | 28, _ => mt5 128 rfl rfl
  | 29, _ => mt5 130 rfl rfl
  | 30, _ => mt5 132 rfl rfl
  | 31, _ => mt5 134 rfl rfl
  | 32, _ => mt5 136 rfl rfl
  | j + 33, hh => absurd hh (by omega)
def mi_J7_fill_53178 : Mi := (cJ7_fill_53178, 4, RJ7, none)
def mi_X0_forget : Mi := (cX0_forget, 1, RX0, none)
def mi_X8_days : Mi := (cX8_days, 1, RX8, some .int)
def mi_X8_hasDay : Mi := (cX8_hasDay, 2, RX8, some .boolean)
def mi_X8_want : Mi := (cX8_want, 3, RX8, some .int)
def mi_X0_chanceOf : Mi := (cX0_chanceOf, 5, RX0, some .int)
def mi_X8_coats : Mi := (cX8_coats, 1, RX8, some .int)
def mi_X8_tops : Mi := (cX8_tops, 1, RX8, some .int)
def mi_X8_bottoms : Mi := (cX8_bottoms, 1, RX8, some .int)
def mi_X9_has : Mi := (cX9_has, 2, RX9, some .boolean)
def mi_X8_hasThing : Mi := (cX8_hasThing, 2, RX8, some .boolean)
def mi_X8_fact : Mi := (cX8_fact, 3, RX8, some .int)
def mi_X8_warmestCoat : Mi := (cX8_warmestCoat, 4, RX8, some .int)
def mi_X8_together : Mi := (cX8_together, 3, RX8, some .boolean)
def mi_X8_suits : Mi := (cX8_suits, 6, RX8, some .boolean)
def mi_X5_prepare : Mi := (cX5_prepare, 11, RX5, none)
def mi_J7_fill_d0a16 : Mi := (cJ7_fill_d0a16, 5, RJ7, none)
def mi_X5_isDay : Mi := (cX5_isDay, 2, RX5, some .boolean)
def mi_X9_stateOf : Mi := (cX9_stateOf, 2, RX9, some .int)
def mi_X8_isReady : Mi := (cX8_isReady, 4, RX8, some .boolean)
def mi_X8_worn : Mi := (cX8_worn, 6, RX8, some .int)
def mi_X8_morning : Mi := (cX8_morning, 9, RX8, some .int)
def mi_X5_livesOnWith : Mi := (cX5_livesOnWith, 8, RX5, some .boolean)
def mi_X5_livesOn : Mi := (cX5_livesOn, 5, RX5, some .boolean)
def mi_X5_find : Mi := (cX5_find, 3, RX5, some .boolean)
def mi_X0_chances : Mi := (cX0_chances, 5, RX0, some .int)
def mi_X8_allThings : Mi := (cX8_allThings, 1, RX8, some .int)
def mi_X8_sum : Mi := (cX8_sum, 5, RX8, some .int)
def mi_X0_smallest : Mi := (cX0_smallest, 7, RX0, some .int)
def mi_X8_things : Mi := (cX8_things, 1, RX8, some .int)
def mi_X0_spares : Mi := (cX0_spares, 5, RX0, some .int)
def mi_X0_purchase : Mi := (cX0_purchase, 7, RX0, some .int)
def mi_J6_bitCount_0f7a4 : Mi := (cJ6_bitCount_0f7a4, 1, RJ6, some .int)
def mi_X0_takenOff : Mi := (cX0_takenOff, 9, RX0, some .int)
def mi_X0_allMatch : Mi := (cX0_allMatch, 4, RX0, some .boolean)
def mi_X0_largestMatch : Mi := (cX0_largestMatch, 3, RX0, some .int)
def mi_X1_isKind : Mi := (cX1_isKind, 2, RX1, some .boolean)
def mi_X1_asked : Mi := (cX1_asked, 1, RX1, some .long)
def mi_X1_asThing : Mi := (cX1_asThing, 2, RX1, some .int)
def mi_X1_asOnce : Mi := (cX1_asOnce, 2, RX1, some .int)
def mi_X1_asSpare : Mi := (cX1_asSpare, 2, RX1, some .int)
def mi_X1_asDouble : Mi := (cX1_asDouble, 2, RX1, some .int)
def mi_X1_asBought : Mi := (cX1_asBought, 2, RX1, some .int)
def mi_X1_asSingle : Mi := (cX1_asSingle, 3, RX1, some .int)
def mi_X1_ask : Mi := (cX1_ask, 4, RX1, some .int)
def mi_X2_date : Mi := (cX2_date, 1, RX2, some .int)
def mi_X2_how : Mi := (cX2_how, 1, RX2, some .int)
def mi_X2_set : Mi := (cX2_set, 1, RX2, some .int)
def mi_X2_isKept : Mi := (cX2_isKept, 1, RX2, some .boolean)
def mi_X2_forget : Mi := (cX2_forget, 1, RX2, none)
def mi_X2_start : Mi := (cX2_start, 2, RX2, none)
def mi_X2_copy : Mi := (cX2_copy, 2, RX2, none)
def mi_X2_isOver : Mi := (cX2_isOver, 2, RX2, some .boolean)
def mi_X2_fresh : Mi := (cX2_fresh, 4, RX2, some .int)
def mi_X2_mayWear : Mi := (cX2_mayWear, 5, RX2, some .boolean)
def mi_X2_wear : Mi := (cX2_wear, 7, RX2, none)
def mi_X3_size : Mi := (cX3_size, 1, RX3, some .int)
def mi_X3_add : Mi := (cX3_add, 4, RX3, some .boolean)
def mi_X3_onAt : Mi := (cX3_onAt, 2, RX3, some .int)
def mi_X3_lowered : Mi := (cX3_lowered, 3, RX3, some .int)
def mi_X3_wasteUpper : Mi := (cX3_wasteUpper, 1, RX3, some .int)
def mi_X3_wasteLower : Mi := (cX3_wasteLower, 1, RX3, some .int)
def mi_X5_topOn : Mi := (cX5_topOn, 2, RX5, some .int)
def mi_X5_bottomOn : Mi := (cX5_bottomOn, 2, RX5, some .int)
def mi_X5_firstDayOf : Mi := (cX5_firstDayOf, 3, RX5, some .int)
def mi_X4_troubleOf : Mi := (cX4_troubleOf, 6, RX4, some .int)
def mi_X4_lay : Mi := (cX4_lay, 5, RX4, none)
def mi_X4_arrange : Mi := (cX4_arrange, 6, RX4, some .boolean)
def mi_X4_trouble : Mi := (cX4_trouble, 1, RX4, some .int)
def mi_X4_layerOf : Mi := (cX4_layerOf, 2, RX4, some .int)
def mi_X5_washOn : Mi := (cX5_washOn, 2, RX5, some .int)
def mi_X5_neverOn : Mi := (cX5_neverOn, 4, RX5, some .int)
def mi_X5_mark : Mi := (cX5_mark, 2, RX5, none)
def mi_X5_reachFrom : Mi := (cX5_reachFrom, 8, RX5, some .boolean)
def mi_X5_reachNext : Mi := (cX5_reachNext, 5, RX5, some .boolean)
def mi_X5_times : Mi := (cX5_times, 4, RX5, some .int)
def mi_X7_length : Mi := (cX7_length, 1, RX7, some .int)
def mi_X7_at : Mi := (cX7_at, 2, RX7, some .int)
def mi_X6_isDigit : Mi := (cX6_isDigit, 1, RX6, some .boolean)
def mi_X6_isLetter : Mi := (cX6_isLetter, 1, RX6, some .boolean)
def mi_X6_endOf : Mi := (cX6_endOf, 5, RX6, some .int)
def mi_X6_numberCode : Mi := (cX6_numberCode, 5, RX6, some .int)
def mi_X6_isWord : Mi := (cX6_isWord, 5, RX6, some .boolean)
def mi_X6_wordCode : Mi := (cX6_wordCode, 3, RX6, some .int)
def mi_X6_codeOf : Mi := (cX6_codeOf, 3, RX6, some .int)
def mi_X6_addToken : Mi := (cX6_addToken, 3, RX6, none)
def mi_X6_split : Mi := (cX6_split, 3, RX6, none)
def mi_X8_empty : Mi := (cX8_empty, 1, RX8, none)
def mi_X6_codeOfNext : Mi := (cX6_codeOfNext, 1, RX6, some .int)
def mi_X6_isNext : Mi := (cX6_isNext, 2, RX6, some .boolean)
def mi_X8_hasRoomForThing : Mi := (cX8_hasRoomForThing, 1, RX8, some .boolean)
def mi_X8_setFact : Mi := (cX8_setFact, 3, RX8, none)
def mi_X6_takeNumber : Mi := (cX6_takeNumber, 4, RX6, some .boolean)
def mi_X6_readFact : Mi := (cX6_readFact, 4, RX6, some .boolean)
def mi_X6_readThing : Mi := (cX6_readThing, 1, RX6, some .boolean)
def mi_X6_take : Mi := (cX6_take, 2, RX6, some .boolean)
def mi_X6_readClothes : Mi := (cX6_readClothes, 1, RX6, some .boolean)
def mi_X8_closeThing : Mi := (cX8_closeThing, 2, RX8, none)
def mi_X6_closeThing : Mi := (cX6_closeThing, 1, RX6, some .boolean)
def mi_X8_setApart : Mi := (cX8_setApart, 3, RX8, none)
def mi_X6_readApart : Mi := (cX6_readApart, 3, RX6, some .boolean)
def mi_X8_hasRoomForDay : Mi := (cX8_hasRoomForDay, 1, RX8, some .boolean)
def mi_X8_setWant : Mi := (cX8_setWant, 3, RX8, none)
def mi_X6_readWant : Mi := (cX6_readWant, 3, RX6, some .boolean)
def mi_X9_isUnsure : Mi := (cX9_isUnsure, 1, RX9, some .boolean)
def mi_X8_unsureDays : Mi := (cX8_unsureDays, 1, RX8, some .int)
def mi_X6_readRain : Mi := (cX6_readRain, 2, RX6, some .boolean)
def mi_X6_readDay : Mi := (cX6_readDay, 1, RX6, some .boolean)
def mi_X8_closeDay : Mi := (cX8_closeDay, 1, RX8, none)
def mi_X6_closeDay : Mi := (cX6_closeDay, 1, RX6, some .boolean)
def mi_X6_readItem : Mi := (cX6_readItem, 1, RX6, some .boolean)
def mi_X6_startOfNext : Mi := (cX6_startOfNext, 1, RX6, some .int)
def mi_X6_read : Mi := (cX6_read, 2, RX6, some .int)
def mi_X7_hasRoom : Mi := (cX7_hasRoom, 2, RX7, some .boolean)
def mi_X7_add : Mi := (cX7_add, 2, RX7, none)
def mi_X7_empty : Mi := (cX7_empty, 1, RX7, none)
def mi_X8_copy : Mi := (cX8_copy, 2, RX8, none)
def mi_X9_type : Mi := (cX9_type, 5, RX9, some .int)
def mi_X9_clear : Mi := (cX9_clear, 2, RX9, some .int)
def mi_X9_journey : Mi := (cX9_journey, 2, RX9, some .int)
def mi_X9_thing : Mi := (cX9_thing, 3, RX9, some .int)
def mi_X9_goes : Mi := (cX9_goes, 3, RX9, some .int)
def mi_X9_day : Mi := (cX9_day, 3, RX9, some .int)
def mi_X9_tune : Mi := (cX9_tune, 4, RX9, some .int)
def mi_X9_packs : Mi := (cX9_packs, 3, RX9, some .int)
def mi_X9_isBit : Mi := (cX9_isBit, 1, RX9, some .boolean)
def mi_X9_live : Mi := (cX9_live, 5, RX9, some .int)
def mi_X9_now : Mi := (cX9_now, 2, RX9, some .int)
def mi_X9_serves : Mi := (cX9_serves, 3, RX9, some .int)
def mi_X9_plan : Mi := (cX9_plan, 5, RX9, some .int)
def mi_X9_odds : Mi := (cX9_odds, 2, RX9, some .int)
def mi_X9_least : Mi := (cX9_least, 3, RX9, some .int)
def mi_X9_needless : Mi := (cX9_needless, 5, RX9, some .int)
def mi_X9_buy : Mi := (cX9_buy, 5, RX9, some .int)
def mi_X9_desk : Mi := (cX9_desk, 3, RX9, some .int)
def mi_X9_pack : Mi := (cX9_pack, 5, RX9, some .int)
def mi_X9_allGo : Mi := (cX9_allGo, 3, RX9, some .int)
def mi_X9_again : Mi := (cX9_again, 2, RX9, some .int)
def mi_X9_list : Mi := (cX9_list, 3, RX9, some .int)
def mi_X9_span : Mi := (cX9_span, 2, RX9, some .int)
def mi_X9_use : Mi := (cX9_use, 3, RX9, some .int)
def mi_X9_imageAt : Mi := (cX9_imageAt, 2, RX9, some (.object "PackedCase$Life"))
def mi_X9_keep : Mi := (cX9_keep, 2, RX9, some .int)
def mi_X9_back : Mi := (cX9_back, 3, RX9, some .int)
def mi_X9_count : Mi := (cX9_count, 2, RX9, some .int)
def mi_X9_trace : Mi := (cX9_trace, 1, RX9, some .long)
def mi_X10_in : Mi := (cX10_in, 3, RX10, some .boolean)
def mi_X10_type : Mi := (cX10_type, 5, RX10, some .int)
def mi_X10_clear : Mi := (cX10_clear, 2, RX10, some .int)
def mi_X10_here : Mi := (cX10_here, 1, RX10, some .int)
def mi_X10_meaning : Mi := (cX10_meaning, 1, RX10, some .int)
def mi_X10_next : Mi := (cX10_next, 3, RX10, none)
def mi_X10_due : Mi := (cX10_due, 3, RX10, some .int)
def mi_X10_number : Mi := (cX10_number, 3, RX10, some .int)
def mi_X10_optional : Mi := (cX10_optional, 3, RX10, some .boolean)
def mi_X10_readThing : Mi := (cX10_readThing, 3, RX10, none)
def mi_X10_readDay : Mi := (cX10_readDay, 2, RX10, none)
def mi_X10_item : Mi := (cX10_item, 4, RX10, none)
def mi_X10_allThings : Mi := (cX10_allThings, 1, RX10, some .int)
def mi_X10_journey : Mi := (cX10_journey, 3, RX10, some .int)
def mi_X10_isThing : Mi := (cX10_isThing, 2, RX10, some .boolean)
def mi_X10_of : Mi := (cX10_of, 3, RX10, some .int)
def mi_X10_howIs : Mi := (cX10_howIs, 2, RX10, some .int)
def mi_X10_thing : Mi := (cX10_thing, 3, RX10, some .int)
def mi_X10_isGoing : Mi := (cX10_isGoing, 3, RX10, some .boolean)
def mi_X10_goes : Mi := (cX10_goes, 3, RX10, some .int)
def mi_X10_day : Mi := (cX10_day, 3, RX10, some .int)
def mi_X10_tune : Mi := (cX10_tune, 4, RX10, some .int)
def mi_X10_isOf : Mi := (cX10_isOf, 2, RX10, some .boolean)
def mi_X10_warmestCoat : Mi := (cX10_warmestCoat, 4, RX10, some .int)
def mi_X10_hasCoat : Mi := (cX10_hasCoat, 4, RX10, some .boolean)
def mi_X10_mayWear : Mi := (cX10_mayWear, 6, RX10, some .boolean)
def mi_X10_isWearable : Mi := (cX10_isWearable, 2, RX10, some .boolean)
def mi_X10_worn : Mi := (cX10_worn, 5, RX10, some .int)
def mi_X10_behind : Mi := (cX10_behind, 10, RX10, some .int)
def mi_X10_isRain : Mi := (cX10_isRain, 3, RX10, some .boolean)
def mi_X10_begin : Mi := (cX10_begin, 2, RX10, none)
def mi_X10_goDay : Mi := (cX10_goDay, 13, RX10, none)
def mi_X10_servesFrom : Mi := (cX10_servesFrom, 6, RX10, some .boolean)
def mi_X10_isServing : Mi := (cX10_isServing, 3, RX10, some .boolean)
def mi_X10_packs : Mi := (cX10_packs, 3, RX10, some .int)
def mi_X10_live : Mi := (cX10_live, 7, RX10, some .int)
def mi_X10_now : Mi := (cX10_now, 4, RX10, some .int)
def mi_X10_serves : Mi := (cX10_serves, 3, RX10, some .int)
def mi_X10_findPlan : Mi := (cX10_findPlan, 12, RX10, some .boolean)
def mi_X10_plan : Mi := (cX10_plan, 5, RX10, some .int)
def mi_X10_oddsOf : Mi := (cX10_oddsOf, 9, RX10, some .int)
def mi_X10_odds : Mi := (cX10_odds, 2, RX10, some .int)
def mi_X10_sumOf : Mi := (cX10_sumOf, 5, RX10, some .int)
def mi_X10_least : Mi := (cX10_least, 7, RX10, some .int)
def mi_X10_firstDay : Mi := (cX10_firstDay, 4, RX10, some .int)
def mi_X10_needless : Mi := (cX10_needless, 8, RX10, some .int)
def mi_X10_buy : Mi := (cX10_buy, 8, RX10, some .int)
def mi_X10_bitsIn : Mi := (cX10_bitsIn, 3, RX10, some .int)
def mi_X10_desk : Mi := (cX10_desk, 7, RX10, some .int)
def mi_X10_lay : Mi := (cX10_lay, 6, RX10, some .boolean)
def mi_X10_troubles : Mi := (cX10_troubles, 5, RX10, some .int)
def mi_X10_pack : Mi := (cX10_pack, 10, RX10, some .int)
def mi_X10_allGo : Mi := (cX10_allGo, 6, RX10, some .int)
def mi_X10_again : Mi := (cX10_again, 6, RX10, some .int)
def mi_X10_list : Mi := (cX10_list, 3, RX10, some .int)
def mi_X10_common : Mi := (cX10_common, 5, RX10, some .int)
def mi_X10_upTo : Mi := (cX10_upTo, 4, RX10, some .int)
def mi_X10_span : Mi := (cX10_span, 5, RX10, some .int)
def mi_X10_use : Mi := (cX10_use, 4, RX10, some .int)
def mi_X10_copy : Mi := (cX10_copy, 3, RX10, none)
def mi_X10_keep : Mi := (cX10_keep, 2, RX10, some .int)
def mi_X10_back : Mi := (cX10_back, 2, RX10, some .int)
def mi_X10_count : Mi := (cX10_count, 2, RX10, some .int)
def mi_X10_trace : Mi := (cX10_trace, 1, RX10, some .long)
theorem ci_J6_265 : Cond.constant RJ6 265 (1431655765) ∈ lw_t := mt4 94 rfl rfl
theorem ci_J6_266 : Cond.constant RJ6 266 (858993459) ∈ lw_t := mt4 95 rfl rfl
theorem ci_J6_267 : Cond.constant RJ6 267 (252645135) ∈ lw_t := mt4 96 rfl rfl
theorem ci_X10_231 : Cond.constant RX10 231 (-1000000) ∈ lw_t := mt6 130 rfl rfl
theorem ci_X1_39 : Cond.constant RX1 39 (-1000000) ∈ lw_t := mt4 239 rfl rfl
theorem ci_X9_261 : Cond.constant RX9 261 (-1000000) ∈ lw_t := mt4 204 rfl rfl
theorem cl_X10_236 : Cond.constantLong RX10 236 (11) ∈ lw_t := mt6 131 rfl rfl
theorem cl_X10_238 : Cond.constantLong RX10 238 (101) ∈ lw_t := mt6 132 rfl rfl
theorem cl_X10_240 : Cond.constantLong RX10 240 (1011) ∈ lw_t := mt6 133 rfl rfl
theorem cl_X10_242 : Cond.constantLong RX10 242 (10101) ∈ lw_t := mt6 134 rfl rfl
theorem cl_X10_244 : Cond.constantLong RX10 244 (100001) ∈ lw_t := mt6 135 rfl rfl
theorem cl_X10_86 : Cond.constantLong RX10 86 (255) ∈ lw_t := mt5 147 rfl rfl
theorem cl_X1_45 : Cond.constantLong RX1 45 (10) ∈ lw_t := mt4 218 rfl rfl
theorem cl_X1_47 : Cond.constantLong RX1 47 (100) ∈ lw_t := mt4 223 rfl rfl
theorem cl_X1_49 : Cond.constantLong RX1 49 (1000) ∈ lw_t := mt4 228 rfl rfl
theorem cl_X1_51 : Cond.constantLong RX1 51 (10000) ∈ lw_t := mt4 233 rfl rfl
theorem cl_X1_53 : Cond.constantLong RX1 53 (100000) ∈ lw_t := mt4 238 rfl rfl
theorem fl_X0_15 : FL RX0 15 0 0 := ⟨RX0, TX0, 3, rfl, by decide, inw_X0, mt1 174 rfl rfl⟩
theorem fl_X0_19 : FL RX0 19 0 1 := ⟨RX0, TX0, 3, rfl, by decide, inw_X0, mt1 175 rfl rfl⟩
theorem fl_X0_9 : FL RX0 9 0 2 := ⟨RX0, TX0, 3, rfl, by decide, inw_X0, mt1 176 rfl rfl⟩
theorem fl_X10_101 : FL RX10 101 10 11 := ⟨RX10, TX10, 33, rfl, by decide, inw_X10, mt5 50 rfl rfl⟩
theorem fl_X10_108 : FL RX10 108 10 13 := ⟨RX10, TX10, 33, rfl, by decide, inw_X10, mt5 52 rfl rfl⟩
theorem fl_X10_126 : FL RX10 126 10 14 := ⟨RX10, TX10, 33, rfl, by decide, inw_X10, mt5 53 rfl rfl⟩
theorem fl_X10_13 : FL RX10 13 10 3 := ⟨RX10, TX10, 33, rfl, by decide, inw_X10, mt5 42 rfl rfl⟩
theorem fl_X10_165 : FL RX10 165 10 22 := ⟨RX10, TX10, 33, rfl, by decide, inw_X10, mt5 61 rfl rfl⟩
theorem fl_X10_17 : FL RX10 17 10 4 := ⟨RX10, TX10, 33, rfl, by decide, inw_X10, mt5 43 rfl rfl⟩
theorem fl_X10_178 : FL RX10 178 10 23 := ⟨RX10, TX10, 33, rfl, by decide, inw_X10, mt5 62 rfl rfl⟩
theorem fl_X10_20 : FL RX10 20 10 5 := ⟨RX10, TX10, 33, rfl, by decide, inw_X10, mt5 44 rfl rfl⟩
theorem fl_X10_222 : FL RX10 222 10 30 := ⟨RX10, TX10, 33, rfl, by decide, inw_X10, mt5 69 rfl rfl⟩
theorem fl_X10_23 : FL RX10 23 10 6 := ⟨RX10, TX10, 33, rfl, by decide, inw_X10, mt5 45 rfl rfl⟩
theorem fl_X10_232 : FL RX10 232 10 0 := ⟨RX10, TX10, 33, rfl, by decide, inw_X10, mt5 39 rfl rfl⟩
theorem fl_X10_26 : FL RX10 26 10 7 := ⟨RX10, TX10, 33, rfl, by decide, inw_X10, mt5 46 rfl rfl⟩
theorem fl_X10_29 : FL RX10 29 10 8 := ⟨RX10, TX10, 33, rfl, by decide, inw_X10, mt5 47 rfl rfl⟩
theorem fl_X10_32 : FL RX10 32 10 15 := ⟨RX10, TX10, 33, rfl, by decide, inw_X10, mt5 54 rfl rfl⟩
theorem fl_X10_35 : FL RX10 35 10 16 := ⟨RX10, TX10, 33, rfl, by decide, inw_X10, mt5 55 rfl rfl⟩
theorem fl_X10_38 : FL RX10 38 10 17 := ⟨RX10, TX10, 33, rfl, by decide, inw_X10, mt5 56 rfl rfl⟩
theorem fl_X10_41 : FL RX10 41 10 18 := ⟨RX10, TX10, 33, rfl, by decide, inw_X10, mt5 57 rfl rfl⟩
theorem fl_X10_45 : FL RX10 45 10 19 := ⟨RX10, TX10, 33, rfl, by decide, inw_X10, mt5 58 rfl rfl⟩
theorem fl_X10_48 : FL RX10 48 10 20 := ⟨RX10, TX10, 33, rfl, by decide, inw_X10, mt5 59 rfl rfl⟩
theorem fl_X10_51 : FL RX10 51 10 21 := ⟨RX10, TX10, 33, rfl, by decide, inw_X10, mt5 60 rfl rfl⟩
theorem fl_X10_54 : FL RX10 54 10 24 := ⟨RX10, TX10, 33, rfl, by decide, inw_X10, mt5 63 rfl rfl⟩
theorem fl_X10_57 : FL RX10 57 10 25 := ⟨RX10, TX10, 33, rfl, by decide, inw_X10, mt5 64 rfl rfl⟩
theorem fl_X10_60 : FL RX10 60 10 26 := ⟨RX10, TX10, 33, rfl, by decide, inw_X10, mt5 65 rfl rfl⟩
theorem fl_X10_63 : FL RX10 63 10 27 := ⟨RX10, TX10, 33, rfl, by decide, inw_X10, mt5 66 rfl rfl⟩
theorem fl_X10_66 : FL RX10 66 10 28 := ⟨RX10, TX10, 33, rfl, by decide, inw_X10, mt5 67 rfl rfl⟩
theorem fl_X10_69 : FL RX10 69 10 29 := ⟨RX10, TX10, 33, rfl, by decide, inw_X10, mt5 68 rfl rfl⟩
theorem fl_X10_7 : FL RX10 7 10 1 := ⟨RX10, TX10, 33, rfl, by decide, inw_X10, mt5 40 rfl rfl⟩
theorem fl_X10_72 : FL RX10 72 10 31 := ⟨RX10, TX10, 33, rfl, by decide, inw_X10, mt5 70 rfl rfl⟩
theorem fl_X10_75 : FL RX10 75 10 32 := ⟨RX10, TX10, 33, rfl, by decide, inw_X10, mt5 71 rfl rfl⟩
theorem fl_X10_82 : FL RX10 82 10 2 := ⟨RX10, TX10, 33, rfl, by decide, inw_X10, mt5 41 rfl rfl⟩
theorem fl_X10_88 : FL RX10 88 10 9 := ⟨RX10, TX10, 33, rfl, by decide, inw_X10, mt5 48 rfl rfl⟩
theorem fl_X10_95 : FL RX10 95 10 10 := ⟨RX10, TX10, 33, rfl, by decide, inw_X10, mt5 49 rfl rfl⟩
theorem fl_X10_98 : FL RX10 98 10 12 := ⟨RX10, TX10, 33, rfl, by decide, inw_X10, mt5 51 rfl rfl⟩
theorem fl_X1_15 : FL RX1 15 1 1 := ⟨RX1, TX1, 2, rfl, by decide, inw_X1, mt2 4 rfl rfl⟩
theorem fl_X1_9 : FL RX1 9 1 0 := ⟨RX1, TX1, 2, rfl, by decide, inw_X1, mt2 3 rfl rfl⟩
theorem fl_X2_15 : FL RX2 15 2 1 := ⟨RX2, TX2, 4, rfl, by decide, inw_X2, mt1 118 rfl rfl⟩
theorem fl_X2_18 : FL RX2 18 2 2 := ⟨RX2, TX2, 4, rfl, by decide, inw_X2, mt1 119 rfl rfl⟩
theorem fl_X2_21 : FL RX2 21 2 3 := ⟨RX2, TX2, 4, rfl, by decide, inw_X2, mt1 120 rfl rfl⟩
theorem fl_X2_9 : FL RX2 9 2 0 := ⟨RX2, TX2, 4, rfl, by decide, inw_X2, mt1 117 rfl rfl⟩
theorem fl_X3_11 : FL RX3 11 3 0 := ⟨RX3, TX3, 4, rfl, by decide, inw_X3, mt1 224 rfl rfl⟩
theorem fl_X3_15 : FL RX3 15 3 1 := ⟨RX3, TX3, 4, rfl, by decide, inw_X3, mt1 225 rfl rfl⟩
theorem fl_X3_19 : FL RX3 19 3 2 := ⟨RX3, TX3, 4, rfl, by decide, inw_X3, mt1 226 rfl rfl⟩
theorem fl_X3_22 : FL RX3 22 3 3 := ⟨RX3, TX3, 4, rfl, by decide, inw_X3, mt1 227 rfl rfl⟩
theorem fl_X4_15 : FL RX4 15 4 3 := ⟨RX4, TX4, 9, rfl, by decide, inw_X4, mt1 193 rfl rfl⟩
theorem fl_X4_18 : FL RX4 18 4 4 := ⟨RX4, TX4, 9, rfl, by decide, inw_X4, mt1 194 rfl rfl⟩
theorem fl_X4_21 : FL RX4 21 4 5 := ⟨RX4, TX4, 9, rfl, by decide, inw_X4, mt1 195 rfl rfl⟩
theorem fl_X4_24 : FL RX4 24 4 0 := ⟨RX4, TX4, 9, rfl, by decide, inw_X4, mt1 190 rfl rfl⟩
theorem fl_X4_28 : FL RX4 28 4 1 := ⟨RX4, TX4, 9, rfl, by decide, inw_X4, mt1 191 rfl rfl⟩
theorem fl_X4_32 : FL RX4 32 4 6 := ⟨RX4, TX4, 9, rfl, by decide, inw_X4, mt1 196 rfl rfl⟩
theorem fl_X4_36 : FL RX4 36 4 7 := ⟨RX4, TX4, 9, rfl, by decide, inw_X4, mt1 197 rfl rfl⟩
theorem fl_X4_39 : FL RX4 39 4 8 := ⟨RX4, TX4, 9, rfl, by decide, inw_X4, mt1 198 rfl rfl⟩
theorem fl_X4_9 : FL RX4 9 4 2 := ⟨RX4, TX4, 9, rfl, by decide, inw_X4, mt1 192 rfl rfl⟩
theorem fl_X5_11 : FL RX5 11 5 1 := ⟨RX5, TX5, 9, rfl, by decide, inw_X5, mt1 137 rfl rfl⟩
theorem fl_X5_15 : FL RX5 15 5 2 := ⟨RX5, TX5, 9, rfl, by decide, inw_X5, mt1 138 rfl rfl⟩
theorem fl_X5_18 : FL RX5 18 5 3 := ⟨RX5, TX5, 9, rfl, by decide, inw_X5, mt1 139 rfl rfl⟩
theorem fl_X5_21 : FL RX5 21 5 4 := ⟨RX5, TX5, 9, rfl, by decide, inw_X5, mt1 140 rfl rfl⟩
theorem fl_X5_24 : FL RX5 24 5 5 := ⟨RX5, TX5, 9, rfl, by decide, inw_X5, mt1 141 rfl rfl⟩
theorem fl_X5_28 : FL RX5 28 5 6 := ⟨RX5, TX5, 9, rfl, by decide, inw_X5, mt1 142 rfl rfl⟩
theorem fl_X5_31 : FL RX5 31 5 7 := ⟨RX5, TX5, 9, rfl, by decide, inw_X5, mt1 143 rfl rfl⟩
theorem fl_X5_34 : FL RX5 34 5 0 := ⟨RX5, TX5, 9, rfl, by decide, inw_X5, mt1 136 rfl rfl⟩
theorem fl_X5_84 : FL RX5 84 5 8 := ⟨RX5, TX5, 9, rfl, by decide, inw_X5, mt1 144 rfl rfl⟩
theorem fl_X6_13 : FL RX6 13 6 2 := ⟨RX6, TX6, 7, rfl, by decide, inw_X6, mt1 91 rfl rfl⟩
theorem fl_X6_162 : FL RX6 162 6 6 := ⟨RX6, TX6, 7, rfl, by decide, inw_X6, mt1 95 rfl rfl⟩
theorem fl_X6_17 : FL RX6 17 6 3 := ⟨RX6, TX6, 7, rfl, by decide, inw_X6, mt1 92 rfl rfl⟩
theorem fl_X6_20 : FL RX6 20 6 0 := ⟨RX6, TX6, 7, rfl, by decide, inw_X6, mt1 89 rfl rfl⟩
theorem fl_X6_24 : FL RX6 24 6 1 := ⟨RX6, TX6, 7, rfl, by decide, inw_X6, mt1 90 rfl rfl⟩
theorem fl_X6_36 : FL RX6 36 6 5 := ⟨RX6, TX6, 7, rfl, by decide, inw_X6, mt1 94 rfl rfl⟩
theorem fl_X6_52 : FL RX6 52 6 4 := ⟨RX6, TX6, 7, rfl, by decide, inw_X6, mt1 93 rfl rfl⟩
theorem fl_X7_13 : FL RX7 13 7 1 := ⟨RX7, TX7, 2, rfl, by decide, inw_X7, mt1 35 rfl rfl⟩
theorem fl_X7_9 : FL RX7 9 7 0 := ⟨RX7, TX7, 2, rfl, by decide, inw_X7, mt1 34 rfl rfl⟩
theorem fl_X8_15 : FL RX8 15 8 1 := ⟨RX8, TX8, 11, rfl, by decide, inw_X8, mt1 49 rfl rfl⟩
theorem fl_X8_18 : FL RX8 18 8 2 := ⟨RX8, TX8, 11, rfl, by decide, inw_X8, mt1 50 rfl rfl⟩
theorem fl_X8_27 : FL RX8 27 8 3 := ⟨RX8, TX8, 11, rfl, by decide, inw_X8, mt1 51 rfl rfl⟩
theorem fl_X8_31 : FL RX8 31 8 4 := ⟨RX8, TX8, 11, rfl, by decide, inw_X8, mt1 52 rfl rfl⟩
theorem fl_X8_34 : FL RX8 34 8 5 := ⟨RX8, TX8, 11, rfl, by decide, inw_X8, mt1 53 rfl rfl⟩
theorem fl_X8_37 : FL RX8 37 8 6 := ⟨RX8, TX8, 11, rfl, by decide, inw_X8, mt1 54 rfl rfl⟩
theorem fl_X8_40 : FL RX8 40 8 7 := ⟨RX8, TX8, 11, rfl, by decide, inw_X8, mt1 55 rfl rfl⟩
theorem fl_X8_43 : FL RX8 43 8 8 := ⟨RX8, TX8, 11, rfl, by decide, inw_X8, mt1 56 rfl rfl⟩
theorem fl_X8_46 : FL RX8 46 8 9 := ⟨RX8, TX8, 11, rfl, by decide, inw_X8, mt1 57 rfl rfl⟩
theorem fl_X8_49 : FL RX8 49 8 10 := ⟨RX8, TX8, 11, rfl, by decide, inw_X8, mt1 58 rfl rfl⟩
theorem fl_X8_9 : FL RX8 9 8 0 := ⟨RX8, TX8, 11, rfl, by decide, inw_X8, mt1 48 rfl rfl⟩
theorem fl_X9_12 : FL RX9 12 9 0 := ⟨RX9, TX9, 13, rfl, by decide, inw_X9, mt2 10 rfl rfl⟩
theorem fl_X9_19 : FL RX9 19 9 1 := ⟨RX9, TX9, 13, rfl, by decide, inw_X9, mt2 11 rfl rfl⟩
theorem fl_X9_23 : FL RX9 23 9 2 := ⟨RX9, TX9, 13, rfl, by decide, inw_X9, mt2 12 rfl rfl⟩
theorem fl_X9_31 : FL RX9 31 9 3 := ⟨RX9, TX9, 13, rfl, by decide, inw_X9, mt2 13 rfl rfl⟩
theorem fl_X9_38 : FL RX9 38 9 4 := ⟨RX9, TX9, 13, rfl, by decide, inw_X9, mt2 14 rfl rfl⟩
theorem fl_X9_42 : FL RX9 42 9 5 := ⟨RX9, TX9, 13, rfl, by decide, inw_X9, mt2 15 rfl rfl⟩
theorem fl_X9_45 : FL RX9 45 9 6 := ⟨RX9, TX9, 13, rfl, by decide, inw_X9, mt2 16 rfl rfl⟩
theorem fl_X9_53 : FL RX9 53 9 7 := ⟨RX9, TX9, 13, rfl, by decide, inw_X9, mt2 17 rfl rfl⟩
theorem fl_X9_62 : FL RX9 62 9 8 := ⟨RX9, TX9, 13, rfl, by decide, inw_X9, mt2 18 rfl rfl⟩
theorem fl_X9_69 : FL RX9 69 9 9 := ⟨RX9, TX9, 13, rfl, by decide, inw_X9, mt2 19 rfl rfl⟩
theorem fl_X9_76 : FL RX9 76 9 10 := ⟨RX9, TX9, 13, rfl, by decide, inw_X9, mt2 20 rfl rfl⟩
theorem fl_X9_83 : FL RX9 83 9 11 := ⟨RX9, TX9, 13, rfl, by decide, inw_X9, mt2 21 rfl rfl⟩
theorem fl_X9_87 : FL RX9 87 9 12 := ⟨RX9, TX9, 13, rfl, by decide, inw_X9, mt2 22 rfl rfl⟩
theorem fp_X10_101 : FP RX10 101 10 11 .int := ⟨RX10, TX10, 33, tyX10, rfl, by decide, inw_X10, mt5 50 rfl rfl, tyX10_ok, nmX10, rfl, tyX10_ok 11 (by decide)⟩
theorem fp_X10_108 : FP RX10 108 10 13 .int := ⟨RX10, TX10, 33, tyX10, rfl, by decide, inw_X10, mt5 52 rfl rfl, tyX10_ok, nmX10, rfl, tyX10_ok 13 (by decide)⟩
theorem fp_X10_126 : FP RX10 126 10 14 .int := ⟨RX10, TX10, 33, tyX10, rfl, by decide, inw_X10, mt5 53 rfl rfl, tyX10_ok, nmX10, rfl, tyX10_ok 14 (by decide)⟩
theorem fp_X10_165 : FP RX10 165 10 22 .int := ⟨RX10, TX10, 33, tyX10, rfl, by decide, inw_X10, mt5 61 rfl rfl, tyX10_ok, nmX10, rfl, tyX10_ok 22 (by decide)⟩
theorem fp_X10_178 : FP RX10 178 10 23 .int := ⟨RX10, TX10, 33, tyX10, rfl, by decide, inw_X10, mt5 62 rfl rfl, tyX10_ok, nmX10, rfl, tyX10_ok 23 (by decide)⟩
theorem fp_X10_222 : FP RX10 222 10 30 .int := ⟨RX10, TX10, 33, tyX10, rfl, by decide, inw_X10, mt5 69 rfl rfl, tyX10_ok, nmX10, rfl, tyX10_ok 30 (by decide)⟩
theorem fp_X10_232 : FP RX10 232 10 0 .long := ⟨RX10, TX10, 33, tyX10, rfl, by decide, inw_X10, mt5 39 rfl rfl, tyX10_ok, nmX10, rfl, tyX10_ok 0 (by decide)⟩
theorem fp_X10_82 : FP RX10 82 10 2 .int := ⟨RX10, TX10, 33, tyX10, rfl, by decide, inw_X10, mt5 41 rfl rfl, tyX10_ok, nmX10, rfl, tyX10_ok 2 (by decide)⟩
theorem fp_X10_88 : FP RX10 88 10 9 .int := ⟨RX10, TX10, 33, tyX10, rfl, by decide, inw_X10, mt5 48 rfl rfl, tyX10_ok, nmX10, rfl, tyX10_ok 9 (by decide)⟩
theorem fp_X10_95 : FP RX10 95 10 10 .int := ⟨RX10, TX10, 33, tyX10, rfl, by decide, inw_X10, mt5 49 rfl rfl, tyX10_ok, nmX10, rfl, tyX10_ok 10 (by decide)⟩
theorem fp_X10_98 : FP RX10 98 10 12 .int := ⟨RX10, TX10, 33, tyX10, rfl, by decide, inw_X10, mt5 51 rfl rfl, tyX10_ok, nmX10, rfl, tyX10_ok 12 (by decide)⟩
theorem fp_X1_15 : FP RX1 15 1 1 .long := ⟨RX1, TX1, 2, tyX1, rfl, by decide, inw_X1, mt2 4 rfl rfl, tyX1_ok, nmX1, rfl, tyX1_ok 1 (by decide)⟩
theorem fp_X2_15 : FP RX2 15 2 1 .int := ⟨RX2, TX2, 4, tyX2, rfl, by decide, inw_X2, mt1 118 rfl rfl, tyX2_ok, nmX2, rfl, tyX2_ok 1 (by decide)⟩
theorem fp_X2_18 : FP RX2 18 2 2 .int := ⟨RX2, TX2, 4, tyX2, rfl, by decide, inw_X2, mt1 119 rfl rfl, tyX2_ok, nmX2, rfl, tyX2_ok 2 (by decide)⟩
theorem fp_X2_21 : FP RX2 21 2 3 .boolean := ⟨RX2, TX2, 4, tyX2, rfl, by decide, inw_X2, mt1 120 rfl rfl, tyX2_ok, nmX2, rfl, tyX2_ok 3 (by decide)⟩
theorem fp_X2_9 : FP RX2 9 2 0 .int := ⟨RX2, TX2, 4, tyX2, rfl, by decide, inw_X2, mt1 117 rfl rfl, tyX2_ok, nmX2, rfl, tyX2_ok 0 (by decide)⟩
theorem fp_X3_15 : FP RX3 15 3 1 .int := ⟨RX3, TX3, 4, tyX3, rfl, by decide, inw_X3, mt1 225 rfl rfl, tyX3_ok, nmX3, rfl, tyX3_ok 1 (by decide)⟩
theorem fp_X3_19 : FP RX3 19 3 2 .int := ⟨RX3, TX3, 4, tyX3, rfl, by decide, inw_X3, mt1 226 rfl rfl, tyX3_ok, nmX3, rfl, tyX3_ok 2 (by decide)⟩
theorem fp_X3_22 : FP RX3 22 3 3 .int := ⟨RX3, TX3, 4, tyX3, rfl, by decide, inw_X3, mt1 227 rfl rfl, tyX3_ok, nmX3, rfl, tyX3_ok 3 (by decide)⟩
theorem fp_X4_32 : FP RX4 32 4 6 .int := ⟨RX4, TX4, 9, tyX4, rfl, by decide, inw_X4, mt1 196 rfl rfl, tyX4_ok, nmX4, rfl, tyX4_ok 6 (by decide)⟩
theorem fp_X4_36 : FP RX4 36 4 7 .int := ⟨RX4, TX4, 9, tyX4, rfl, by decide, inw_X4, mt1 197 rfl rfl, tyX4_ok, nmX4, rfl, tyX4_ok 7 (by decide)⟩
theorem fp_X4_39 : FP RX4 39 4 8 .int := ⟨RX4, TX4, 9, tyX4, rfl, by decide, inw_X4, mt1 198 rfl rfl, tyX4_ok, nmX4, rfl, tyX4_ok 8 (by decide)⟩
theorem fp_X5_84 : FP RX5 84 5 8 .int := ⟨RX5, TX5, 9, tyX5, rfl, by decide, inw_X5, mt1 144 rfl rfl, tyX5_ok, nmX5, rfl, tyX5_ok 8 (by decide)⟩
theorem fp_X6_162 : FP RX6 162 6 6 .int := ⟨RX6, TX6, 7, tyX6, rfl, by decide, inw_X6, mt1 95 rfl rfl, tyX6_ok, nmX6, rfl, tyX6_ok 6 (by decide)⟩
theorem fp_X6_36 : FP RX6 36 6 5 .int := ⟨RX6, TX6, 7, tyX6, rfl, by decide, inw_X6, mt1 94 rfl rfl, tyX6_ok, nmX6, rfl, tyX6_ok 5 (by decide)⟩
theorem fp_X6_52 : FP RX6 52 6 4 .int := ⟨RX6, TX6, 7, tyX6, rfl, by decide, inw_X6, mt1 93 rfl rfl, tyX6_ok, nmX6, rfl, tyX6_ok 4 (by decide)⟩
theorem fp_X7_13 : FP RX7 13 7 1 .int := ⟨RX7, TX7, 2, tyX7, rfl, by decide, inw_X7, mt1 35 rfl rfl, tyX7_ok, nmX7, rfl, tyX7_ok 1 (by decide)⟩
theorem fp_X8_27 : FP RX8 27 8 3 .int := ⟨RX8, TX8, 11, tyX8, rfl, by decide, inw_X8, mt1 51 rfl rfl, tyX8_ok, nmX8, rfl, tyX8_ok 3 (by decide)⟩
theorem fp_X8_31 : FP RX8 31 8 4 .int := ⟨RX8, TX8, 11, tyX8, rfl, by decide, inw_X8, mt1 52 rfl rfl, tyX8_ok, nmX8, rfl, tyX8_ok 4 (by decide)⟩
theorem fp_X8_34 : FP RX8 34 8 5 .int := ⟨RX8, TX8, 11, tyX8, rfl, by decide, inw_X8, mt1 53 rfl rfl, tyX8_ok, nmX8, rfl, tyX8_ok 5 (by decide)⟩
theorem fp_X8_37 : FP RX8 37 8 6 .int := ⟨RX8, TX8, 11, tyX8, rfl, by decide, inw_X8, mt1 54 rfl rfl, tyX8_ok, nmX8, rfl, tyX8_ok 6 (by decide)⟩
theorem fp_X8_40 : FP RX8 40 8 7 .int := ⟨RX8, TX8, 11, tyX8, rfl, by decide, inw_X8, mt1 55 rfl rfl, tyX8_ok, nmX8, rfl, tyX8_ok 7 (by decide)⟩
theorem fp_X8_43 : FP RX8 43 8 8 .int := ⟨RX8, TX8, 11, tyX8, rfl, by decide, inw_X8, mt1 56 rfl rfl, tyX8_ok, nmX8, rfl, tyX8_ok 8 (by decide)⟩
theorem fp_X8_46 : FP RX8 46 8 9 .int := ⟨RX8, TX8, 11, tyX8, rfl, by decide, inw_X8, mt1 57 rfl rfl, tyX8_ok, nmX8, rfl, tyX8_ok 9 (by decide)⟩
theorem fp_X8_49 : FP RX8 49 8 10 .int := ⟨RX8, TX8, 11, tyX8, rfl, by decide, inw_X8, mt1 58 rfl rfl, tyX8_ok, nmX8, rfl, tyX8_ok 10 (by decide)⟩
theorem gs_X9_145 : Cond.fieldLink RX9 145 RX9 "TUNE_LEAST" "[I" ∈ lw_t := mt3 118 rfl rfl
theorem gs_X9_148 : Cond.fieldLink RX9 148 RX9 "TUNE_MOST" "[I" ∈ lw_t := mt3 120 rfl rfl
theorem mf_J6_bitCount_0f7a4 : MF yJ6_bitCount_0f7a4 mi_J6_bitCount_0f7a4 1 := ⟨mt1 19 rfl rfl, mt4 93 rfl rfl, ⟨by decide, by decide⟩, by decide +kernel, by decide⟩
theorem mf_J7_fill_53178 : MF yJ7_fill_53178 mi_J7_fill_53178 2 := ⟨mt1 8 rfl rfl, mt1 173 rfl rfl, ⟨by decide, by decide⟩, by decide +kernel, by decide⟩
theorem mf_J7_fill_d0a16 : MF yJ7_fill_d0a16 mi_J7_fill_d0a16 2 := ⟨mt1 8 rfl rfl, mt3 231 rfl rfl, ⟨by decide, by decide⟩, by decide +kernel, by decide⟩
theorem mf_X0_allMatch : MF yX0_allMatch mi_X0_allMatch 1 := ⟨mt1 7 rfl rfl, mt4 138 rfl rfl, ⟨by decide, by decide⟩, by decide +kernel, by decide⟩
theorem mf_X0_chanceOf : MF yX0_chanceOf mi_X0_chanceOf 1 := ⟨mt1 7 rfl rfl, mt4 35 rfl rfl, ⟨by decide, by decide⟩, by decide +kernel, by decide⟩
theorem mf_X0_chances : MF yX0_chances mi_X0_chances 1 := ⟨mt1 7 rfl rfl, mt4 30 rfl rfl, ⟨by decide, by decide⟩, by decide +kernel, by decide⟩
theorem mf_X0_forget : MF yX0_forget mi_X0_forget 0 := ⟨mt1 7 rfl rfl, mt3 76 rfl rfl, ⟨by decide, by decide⟩, by decide +kernel, by decide⟩
theorem mf_X0_largestMatch : MF yX0_largestMatch mi_X0_largestMatch 0 := ⟨mt1 7 rfl rfl, mt4 134 rfl rfl, ⟨by decide, by decide⟩, by decide +kernel, by decide⟩
theorem mf_X0_purchase : MF yX0_purchase mi_X0_purchase 2 := ⟨mt1 7 rfl rfl, mt4 81 rfl rfl, ⟨by decide, by decide⟩, by decide +kernel, by decide⟩
theorem mf_X0_smallest : MF yX0_smallest mi_X0_smallest 2 := ⟨mt1 7 rfl rfl, mt4 45 rfl rfl, ⟨by decide, by decide⟩, by decide +kernel, by decide⟩
theorem mf_X0_spares : MF yX0_spares mi_X0_spares 2 := ⟨mt1 7 rfl rfl, mt4 59 rfl rfl, ⟨by decide, by decide⟩, by decide +kernel, by decide⟩
theorem mf_X0_takenOff : MF yX0_takenOff mi_X0_takenOff 3 := ⟨mt1 7 rfl rfl, mt4 90 rfl rfl, ⟨by decide, by decide⟩, by decide +kernel, by decide⟩
theorem mf_X10_allThings : MF yX10_allThings mi_X10_allThings 0 := ⟨mt1 12 rfl rfl, mt5 194 rfl rfl, ⟨by decide, by decide⟩, by decide +kernel, by decide⟩
theorem mf_X10_begin : MF yX10_begin mi_X10_begin 1 := ⟨mt1 12 rfl rfl, mt6 39 rfl rfl, ⟨by decide, by decide⟩, by decide +kernel, by decide⟩
theorem mf_X10_behind : MF yX10_behind mi_X10_behind 6 := ⟨mt1 12 rfl rfl, mt6 15 rfl rfl, ⟨by decide, by decide⟩, by decide +kernel, by decide⟩
theorem mf_X10_bitsIn : MF yX10_bitsIn mi_X10_bitsIn 1 := ⟨mt1 12 rfl rfl, mt6 90 rfl rfl, ⟨by decide, by decide⟩, by decide +kernel, by decide⟩
theorem mf_X10_common : MF yX10_common mi_X10_common 2 := ⟨mt1 12 rfl rfl, mt6 121 rfl rfl, ⟨by decide, by decide⟩, by decide +kernel, by decide⟩
theorem mf_X10_copy : MF yX10_copy mi_X10_copy 2 := ⟨mt1 12 rfl rfl, mt6 143 rfl rfl, ⟨by decide, by decide⟩, by decide +kernel, by decide⟩
theorem mf_X10_due : MF yX10_due mi_X10_due 1 := ⟨mt1 12 rfl rfl, mt5 174 rfl rfl, ⟨by decide, by decide⟩, by decide +kernel, by decide⟩
theorem mf_X10_findPlan : MF yX10_findPlan mi_X10_findPlan 2 := ⟨mt1 12 rfl rfl, mt6 55 rfl rfl, ⟨by decide, by decide⟩, by decide +kernel, by decide⟩
theorem mf_X10_firstDay : MF yX10_firstDay mi_X10_firstDay 1 := ⟨mt1 12 rfl rfl, mt6 79 rfl rfl, ⟨by decide, by decide⟩, by decide +kernel, by decide⟩
theorem mf_X10_goDay : MF yX10_goDay mi_X10_goDay 3 := ⟨mt1 12 rfl rfl, mt6 43 rfl rfl, ⟨by decide, by decide⟩, by decide +kernel, by decide⟩
theorem mf_X10_hasCoat : MF yX10_hasCoat mi_X10_hasCoat 1 := ⟨mt1 12 rfl rfl, mt6 11 rfl rfl, ⟨by decide, by decide⟩, by decide +kernel, by decide⟩
theorem mf_X10_here : MF yX10_here mi_X10_here 0 := ⟨mt1 12 rfl rfl, mt5 163 rfl rfl, ⟨by decide, by decide⟩, by decide +kernel, by decide⟩
theorem mf_X10_howIs : MF yX10_howIs mi_X10_howIs 2 := ⟨mt1 12 rfl rfl, mt5 205 rfl rfl, ⟨by decide, by decide⟩, by decide +kernel, by decide⟩
theorem mf_X10_in : MF yX10_in mi_X10_in 3 := ⟨mt1 12 rfl rfl, mt5 146 rfl rfl, ⟨by decide, by decide⟩, by decide +kernel, by decide⟩
theorem mf_X10_isGoing : MF yX10_isGoing mi_X10_isGoing 2 := ⟨mt1 12 rfl rfl, mt5 217 rfl rfl, ⟨by decide, by decide⟩, by decide +kernel, by decide⟩
theorem mf_X10_isOf : MF yX10_isOf mi_X10_isOf 2 := ⟨mt1 12 rfl rfl, mt6 0 rfl rfl, ⟨by decide, by decide⟩, by decide +kernel, by decide⟩
theorem mf_X10_isRain : MF yX10_isRain mi_X10_isRain 2 := ⟨mt1 12 rfl rfl, mt6 47 rfl rfl, ⟨by decide, by decide⟩, by decide +kernel, by decide⟩
theorem mf_X10_isServing : MF yX10_isServing mi_X10_isServing 2 := ⟨mt1 12 rfl rfl, mt6 31 rfl rfl, ⟨by decide, by decide⟩, by decide +kernel, by decide⟩
theorem mf_X10_isThing : MF yX10_isThing mi_X10_isThing 1 := ⟨mt1 12 rfl rfl, mt5 202 rfl rfl, ⟨by decide, by decide⟩, by decide +kernel, by decide⟩
theorem mf_X10_isWearable : MF yX10_isWearable mi_X10_isWearable 2 := ⟨mt1 12 rfl rfl, mt6 7 rfl rfl, ⟨by decide, by decide⟩, by decide +kernel, by decide⟩
theorem mf_X10_item : MF yX10_item mi_X10_item 1 := ⟨mt1 12 rfl rfl, mt5 170 rfl rfl, ⟨by decide, by decide⟩, by decide +kernel, by decide⟩
theorem mf_X10_lay : MF yX10_lay mi_X10_lay 2 := ⟨mt1 12 rfl rfl, mt6 98 rfl rfl, ⟨by decide, by decide⟩, by decide +kernel, by decide⟩
theorem mf_X10_mayWear : MF yX10_mayWear mi_X10_mayWear 4 := ⟨mt1 12 rfl rfl, mt5 237 rfl rfl, ⟨by decide, by decide⟩, by decide +kernel, by decide⟩
theorem mf_X10_meaning : MF yX10_meaning mi_X10_meaning 1 := ⟨mt1 12 rfl rfl, mt5 166 rfl rfl, ⟨by decide, by decide⟩, by decide +kernel, by decide⟩
theorem mf_X10_next : MF yX10_next mi_X10_next 0 := ⟨mt1 12 rfl rfl, mt5 159 rfl rfl, ⟨by decide, by decide⟩, by decide +kernel, by decide⟩
theorem mf_X10_number : MF yX10_number mi_X10_number 2 := ⟨mt1 12 rfl rfl, mt5 182 rfl rfl, ⟨by decide, by decide⟩, by decide +kernel, by decide⟩
theorem mf_X10_oddsOf : MF yX10_oddsOf mi_X10_oddsOf 1 := ⟨mt1 12 rfl rfl, mt6 63 rfl rfl, ⟨by decide, by decide⟩, by decide +kernel, by decide⟩
theorem mf_X10_of : MF yX10_of mi_X10_of 2 := ⟨mt1 12 rfl rfl, mt5 209 rfl rfl, ⟨by decide, by decide⟩, by decide +kernel, by decide⟩
theorem mf_X10_optional : MF yX10_optional mi_X10_optional 1 := ⟨mt1 12 rfl rfl, mt5 186 rfl rfl, ⟨by decide, by decide⟩, by decide +kernel, by decide⟩
theorem mf_X10_readDay : MF yX10_readDay mi_X10_readDay 0 := ⟨mt1 12 rfl rfl, mt5 190 rfl rfl, ⟨by decide, by decide⟩, by decide +kernel, by decide⟩
theorem mf_X10_readThing : MF yX10_readThing mi_X10_readThing 1 := ⟨mt1 12 rfl rfl, mt5 178 rfl rfl, ⟨by decide, by decide⟩, by decide +kernel, by decide⟩
theorem mf_X10_servesFrom : MF yX10_servesFrom mi_X10_servesFrom 4 := ⟨mt1 12 rfl rfl, mt6 35 rfl rfl, ⟨by decide, by decide⟩, by decide +kernel, by decide⟩
theorem mf_X10_sumOf : MF yX10_sumOf mi_X10_sumOf 2 := ⟨mt1 12 rfl rfl, mt6 71 rfl rfl, ⟨by decide, by decide⟩, by decide +kernel, by decide⟩
theorem mf_X10_troubles : MF yX10_troubles mi_X10_troubles 1 := ⟨mt1 12 rfl rfl, mt6 102 rfl rfl, ⟨by decide, by decide⟩, by decide +kernel, by decide⟩
theorem mf_X10_upTo : MF yX10_upTo mi_X10_upTo 1 := ⟨mt1 12 rfl rfl, mt6 125 rfl rfl, ⟨by decide, by decide⟩, by decide +kernel, by decide⟩
theorem mf_X10_warmestCoat : MF yX10_warmestCoat mi_X10_warmestCoat 1 := ⟨mt1 12 rfl rfl, mt6 4 rfl rfl, ⟨by decide, by decide⟩, by decide +kernel, by decide⟩
theorem mf_X10_worn : MF yX10_worn mi_X10_worn 3 := ⟨mt1 12 rfl rfl, mt6 19 rfl rfl, ⟨by decide, by decide⟩, by decide +kernel, by decide⟩
theorem mf_X1_asBought : MF yX1_asBought mi_X1_asBought 1 := ⟨mt1 11 rfl rfl, mt4 232 rfl rfl, ⟨by decide, by decide⟩, by decide +kernel, by decide⟩
theorem mf_X1_asDouble : MF yX1_asDouble mi_X1_asDouble 1 := ⟨mt1 11 rfl rfl, mt4 227 rfl rfl, ⟨by decide, by decide⟩, by decide +kernel, by decide⟩
theorem mf_X1_asOnce : MF yX1_asOnce mi_X1_asOnce 1 := ⟨mt1 11 rfl rfl, mt4 217 rfl rfl, ⟨by decide, by decide⟩, by decide +kernel, by decide⟩
theorem mf_X1_asSingle : MF yX1_asSingle mi_X1_asSingle 2 := ⟨mt1 11 rfl rfl, mt4 237 rfl rfl, ⟨by decide, by decide⟩, by decide +kernel, by decide⟩
theorem mf_X1_asSpare : MF yX1_asSpare mi_X1_asSpare 1 := ⟨mt1 11 rfl rfl, mt4 222 rfl rfl, ⟨by decide, by decide⟩, by decide +kernel, by decide⟩
theorem mf_X1_asThing : MF yX1_asThing mi_X1_asThing 1 := ⟨mt1 11 rfl rfl, mt4 212 rfl rfl, ⟨by decide, by decide⟩, by decide +kernel, by decide⟩
theorem mf_X1_ask : MF yX1_ask mi_X1_ask 3 := ⟨mt1 11 rfl rfl, mt4 208 rfl rfl, ⟨by decide, by decide⟩, by decide +kernel, by decide⟩
theorem mf_X1_asked : MF yX1_asked mi_X1_asked 0 := ⟨mt1 11 rfl rfl, mt5 32 rfl rfl, ⟨by decide, by decide⟩, by decide +kernel, by decide⟩
theorem mf_X1_isKind : MF yX1_isKind mi_X1_isKind 1 := ⟨mt1 11 rfl rfl, mt4 203 rfl rfl, ⟨by decide, by decide⟩, by decide +kernel, by decide⟩
theorem mf_X2_copy : MF yX2_copy mi_X2_copy 1 := ⟨mt1 5 rfl rfl, mt5 11 rfl rfl, ⟨by decide, by decide⟩, by decide +kernel, by decide⟩
theorem mf_X2_date : MF yX2_date mi_X2_date 0 := ⟨mt1 5 rfl rfl, mt3 199 rfl rfl, ⟨by decide, by decide⟩, by decide +kernel, by decide⟩
theorem mf_X2_forget : MF yX2_forget mi_X2_forget 0 := ⟨mt1 5 rfl rfl, mt3 72 rfl rfl, ⟨by decide, by decide⟩, by decide +kernel, by decide⟩
theorem mf_X2_fresh : MF yX2_fresh mi_X2_fresh 1 := ⟨mt1 5 rfl rfl, mt3 207 rfl rfl, ⟨by decide, by decide⟩, by decide +kernel, by decide⟩
theorem mf_X2_how : MF yX2_how mi_X2_how 0 := ⟨mt1 5 rfl rfl, mt3 85 rfl rfl, ⟨by decide, by decide⟩, by decide +kernel, by decide⟩
theorem mf_X2_isKept : MF yX2_isKept mi_X2_isKept 0 := ⟨mt1 5 rfl rfl, mt5 19 rfl rfl, ⟨by decide, by decide⟩, by decide +kernel, by decide⟩
theorem mf_X2_isOver : MF yX2_isOver mi_X2_isOver 1 := ⟨mt1 5 rfl rfl, mt3 155 rfl rfl, ⟨by decide, by decide⟩, by decide +kernel, by decide⟩
theorem mf_X2_mayWear : MF yX2_mayWear mi_X2_mayWear 4 := ⟨mt1 5 rfl rfl, mt3 151 rfl rfl, ⟨by decide, by decide⟩, by decide +kernel, by decide⟩
theorem mf_X2_set : MF yX2_set mi_X2_set 0 := ⟨mt1 5 rfl rfl, mt3 129 rfl rfl, ⟨by decide, by decide⟩, by decide +kernel, by decide⟩
theorem mf_X2_start : MF yX2_start mi_X2_start 1 := ⟨mt1 5 rfl rfl, mt3 68 rfl rfl, ⟨by decide, by decide⟩, by decide +kernel, by decide⟩
theorem mf_X2_wear : MF yX2_wear mi_X2_wear 5 := ⟨mt1 5 rfl rfl, mt3 183 rfl rfl, ⟨by decide, by decide⟩, by decide +kernel, by decide⟩
theorem mf_X3_add : MF yX3_add mi_X3_add 2 := ⟨mt1 10 rfl rfl, mt4 170 rfl rfl, ⟨by decide, by decide⟩, by decide +kernel, by decide⟩
theorem mf_X3_lowered : MF yX3_lowered mi_X3_lowered 1 := ⟨mt1 10 rfl rfl, mt4 186 rfl rfl, ⟨by decide, by decide⟩, by decide +kernel, by decide⟩
theorem mf_X3_onAt : MF yX3_onAt mi_X3_onAt 1 := ⟨mt1 10 rfl rfl, mt4 195 rfl rfl, ⟨by decide, by decide⟩, by decide +kernel, by decide⟩
theorem mf_X3_size : MF yX3_size mi_X3_size 0 := ⟨mt1 10 rfl rfl, mt4 174 rfl rfl, ⟨by decide, by decide⟩, by decide +kernel, by decide⟩
theorem mf_X3_wasteLower : MF yX3_wasteLower mi_X3_wasteLower 0 := ⟨mt1 10 rfl rfl, mt4 190 rfl rfl, ⟨by decide, by decide⟩, by decide +kernel, by decide⟩
theorem mf_X3_wasteUpper : MF yX3_wasteUpper mi_X3_wasteUpper 0 := ⟨mt1 10 rfl rfl, mt4 182 rfl rfl, ⟨by decide, by decide⟩, by decide +kernel, by decide⟩
theorem mf_X4_arrange : MF yX4_arrange mi_X4_arrange 3 := ⟨mt1 9 rfl rfl, mt4 104 rfl rfl, ⟨by decide, by decide⟩, by decide +kernel, by decide⟩
theorem mf_X4_lay : MF yX4_lay mi_X4_lay 2 := ⟨mt1 9 rfl rfl, mt4 112 rfl rfl, ⟨by decide, by decide⟩, by decide +kernel, by decide⟩
theorem mf_X4_layerOf : MF yX4_layerOf mi_X4_layerOf 1 := ⟨mt1 9 rfl rfl, mt4 126 rfl rfl, ⟨by decide, by decide⟩, by decide +kernel, by decide⟩
theorem mf_X4_trouble : MF yX4_trouble mi_X4_trouble 0 := ⟨mt1 9 rfl rfl, mt4 122 rfl rfl, ⟨by decide, by decide⟩, by decide +kernel, by decide⟩
theorem mf_X4_troubleOf : MF yX4_troubleOf mi_X4_troubleOf 1 := ⟨mt1 9 rfl rfl, mt4 118 rfl rfl, ⟨by decide, by decide⟩, by decide +kernel, by decide⟩
theorem mf_X5_bottomOn : MF yX5_bottomOn mi_X5_bottomOn 1 := ⟨mt1 6 rfl rfl, mt4 18 rfl rfl, ⟨by decide, by decide⟩, by decide +kernel, by decide⟩
theorem mf_X5_find : MF yX5_find mi_X5_find 2 := ⟨mt1 6 rfl rfl, mt3 218 rfl rfl, ⟨by decide, by decide⟩, by decide +kernel, by decide⟩
theorem mf_X5_firstDayOf : MF yX5_firstDayOf mi_X5_firstDayOf 1 := ⟨mt1 6 rfl rfl, mt4 71 rfl rfl, ⟨by decide, by decide⟩, by decide +kernel, by decide⟩
theorem mf_X5_isDay : MF yX5_isDay mi_X5_isDay 1 := ⟨mt1 6 rfl rfl, mt3 239 rfl rfl, ⟨by decide, by decide⟩, by decide +kernel, by decide⟩
theorem mf_X5_livesOn : MF yX5_livesOn mi_X5_livesOn 2 := ⟨mt1 6 rfl rfl, mt3 235 rfl rfl, ⟨by decide, by decide⟩, by decide +kernel, by decide⟩
theorem mf_X5_livesOnWith : MF yX5_livesOnWith mi_X5_livesOnWith 3 := ⟨mt1 6 rfl rfl, mt4 3 rfl rfl, ⟨by decide, by decide⟩, by decide +kernel, by decide⟩
theorem mf_X5_mark : MF yX5_mark mi_X5_mark 1 := ⟨mt1 6 rfl rfl, mt4 161 rfl rfl, ⟨by decide, by decide⟩, by decide +kernel, by decide⟩
theorem mf_X5_neverOn : MF yX5_neverOn mi_X5_neverOn 1 := ⟨mt1 6 rfl rfl, mt4 65 rfl rfl, ⟨by decide, by decide⟩, by decide +kernel, by decide⟩
theorem mf_X5_prepare : MF yX5_prepare mi_X5_prepare 2 := ⟨mt1 6 rfl rfl, mt3 222 rfl rfl, ⟨by decide, by decide⟩, by decide +kernel, by decide⟩
theorem mf_X5_reachFrom : MF yX5_reachFrom mi_X5_reachFrom 2 := ⟨mt1 6 rfl rfl, mt4 157 rfl rfl, ⟨by decide, by decide⟩, by decide +kernel, by decide⟩
theorem mf_X5_reachNext : MF yX5_reachNext mi_X5_reachNext 1 := ⟨mt1 6 rfl rfl, mt4 153 rfl rfl, ⟨by decide, by decide⟩, by decide +kernel, by decide⟩
theorem mf_X5_times : MF yX5_times mi_X5_times 1 := ⟨mt1 6 rfl rfl, mt4 149 rfl rfl, ⟨by decide, by decide⟩, by decide +kernel, by decide⟩
theorem mf_X5_topOn : MF yX5_topOn mi_X5_topOn 1 := ⟨mt1 6 rfl rfl, mt4 14 rfl rfl, ⟨by decide, by decide⟩, by decide +kernel, by decide⟩
theorem mf_X5_washOn : MF yX5_washOn mi_X5_washOn 1 := ⟨mt1 6 rfl rfl, mt4 22 rfl rfl, ⟨by decide, by decide⟩, by decide +kernel, by decide⟩
theorem mf_X6_addToken : MF yX6_addToken mi_X6_addToken 2 := ⟨mt1 4 rfl rfl, mt2 182 rfl rfl, ⟨by decide, by decide⟩, by decide +kernel, by decide⟩
theorem mf_X6_closeDay : MF yX6_closeDay mi_X6_closeDay 0 := ⟨mt1 4 rfl rfl, mt3 44 rfl rfl, ⟨by decide, by decide⟩, by decide +kernel, by decide⟩
theorem mf_X6_closeThing : MF yX6_closeThing mi_X6_closeThing 0 := ⟨mt1 4 rfl rfl, mt2 232 rfl rfl, ⟨by decide, by decide⟩, by decide +kernel, by decide⟩
theorem mf_X6_codeOf : MF yX6_codeOf mi_X6_codeOf 2 := ⟨mt1 4 rfl rfl, mt2 107 rfl rfl, ⟨by decide, by decide⟩, by decide +kernel, by decide⟩
theorem mf_X6_codeOfNext : MF yX6_codeOfNext mi_X6_codeOfNext 0 := ⟨mt1 4 rfl rfl, mt2 195 rfl rfl, ⟨by decide, by decide⟩, by decide +kernel, by decide⟩
theorem mf_X6_endOf : MF yX6_endOf mi_X6_endOf 1 := ⟨mt1 4 rfl rfl, mt2 90 rfl rfl, ⟨by decide, by decide⟩, by decide +kernel, by decide⟩
theorem mf_X6_isDigit : MF yX6_isDigit mi_X6_isDigit 1 := ⟨mt1 4 rfl rfl, mt2 97 rfl rfl, ⟨by decide, by decide⟩, by decide +kernel, by decide⟩
theorem mf_X6_isLetter : MF yX6_isLetter mi_X6_isLetter 1 := ⟨mt1 4 rfl rfl, mt2 100 rfl rfl, ⟨by decide, by decide⟩, by decide +kernel, by decide⟩
theorem mf_X6_isNext : MF yX6_isNext mi_X6_isNext 1 := ⟨mt1 4 rfl rfl, mt2 191 rfl rfl, ⟨by decide, by decide⟩, by decide +kernel, by decide⟩
theorem mf_X6_isWord : MF yX6_isWord mi_X6_isWord 3 := ⟨mt1 4 rfl rfl, mt2 123 rfl rfl, ⟨by decide, by decide⟩, by decide +kernel, by decide⟩
theorem mf_X6_numberCode : MF yX6_numberCode mi_X6_numberCode 2 := ⟨mt1 4 rfl rfl, mt2 111 rfl rfl, ⟨by decide, by decide⟩, by decide +kernel, by decide⟩
theorem mf_X6_read : MF yX6_read mi_X6_read 0 := ⟨mt1 4 rfl rfl, mt2 81 rfl rfl, ⟨by decide, by decide⟩, by decide +kernel, by decide⟩
theorem mf_X6_readApart : MF yX6_readApart mi_X6_readApart 0 := ⟨mt1 4 rfl rfl, mt3 0 rfl rfl, ⟨by decide, by decide⟩, by decide +kernel, by decide⟩
theorem mf_X6_readClothes : MF yX6_readClothes mi_X6_readClothes 0 := ⟨mt1 4 rfl rfl, mt2 224 rfl rfl, ⟨by decide, by decide⟩, by decide +kernel, by decide⟩
theorem mf_X6_readDay : MF yX6_readDay mi_X6_readDay 0 := ⟨mt1 4 rfl rfl, mt3 16 rfl rfl, ⟨by decide, by decide⟩, by decide +kernel, by decide⟩
theorem mf_X6_readFact : MF yX6_readFact mi_X6_readFact 3 := ⟨mt1 4 rfl rfl, mt2 216 rfl rfl, ⟨by decide, by decide⟩, by decide +kernel, by decide⟩
theorem mf_X6_readItem : MF yX6_readItem mi_X6_readItem 0 := ⟨mt1 4 rfl rfl, mt2 199 rfl rfl, ⟨by decide, by decide⟩, by decide +kernel, by decide⟩
theorem mf_X6_readRain : MF yX6_readRain mi_X6_readRain 0 := ⟨mt1 4 rfl rfl, mt3 33 rfl rfl, ⟨by decide, by decide⟩, by decide +kernel, by decide⟩
theorem mf_X6_readThing : MF yX6_readThing mi_X6_readThing 0 := ⟨mt1 4 rfl rfl, mt2 203 rfl rfl, ⟨by decide, by decide⟩, by decide +kernel, by decide⟩
theorem mf_X6_readWant : MF yX6_readWant mi_X6_readWant 2 := ⟨mt1 4 rfl rfl, mt3 24 rfl rfl, ⟨by decide, by decide⟩, by decide +kernel, by decide⟩
theorem mf_X6_split : MF yX6_split mi_X6_split 0 := ⟨mt1 4 rfl rfl, mt2 85 rfl rfl, ⟨by decide, by decide⟩, by decide +kernel, by decide⟩
theorem mf_X6_startOfNext : MF yX6_startOfNext mi_X6_startOfNext 0 := ⟨mt1 4 rfl rfl, mt3 53 rfl rfl, ⟨by decide, by decide⟩, by decide +kernel, by decide⟩
theorem mf_X6_take : MF yX6_take mi_X6_take 1 := ⟨mt1 4 rfl rfl, mt2 228 rfl rfl, ⟨by decide, by decide⟩, by decide +kernel, by decide⟩
theorem mf_X6_takeNumber : MF yX6_takeNumber mi_X6_takeNumber 2 := ⟨mt1 4 rfl rfl, mt2 220 rfl rfl, ⟨by decide, by decide⟩, by decide +kernel, by decide⟩
theorem mf_X6_wordCode : MF yX6_wordCode mi_X6_wordCode 2 := ⟨mt1 4 rfl rfl, mt2 118 rfl rfl, ⟨by decide, by decide⟩, by decide +kernel, by decide⟩
theorem mf_X7_add : MF yX7_add mi_X7_add 1 := ⟨mt1 2 rfl rfl, mt2 61 rfl rfl, ⟨by decide, by decide⟩, by decide +kernel, by decide⟩
theorem mf_X7_at : MF yX7_at mi_X7_at 1 := ⟨mt1 2 rfl rfl, mt2 94 rfl rfl, ⟨by decide, by decide⟩, by decide +kernel, by decide⟩
theorem mf_X7_empty : MF yX7_empty mi_X7_empty 0 := ⟨mt1 2 rfl rfl, mt2 73 rfl rfl, ⟨by decide, by decide⟩, by decide +kernel, by decide⟩
theorem mf_X7_hasRoom : MF yX7_hasRoom mi_X7_hasRoom 1 := ⟨mt1 2 rfl rfl, mt2 57 rfl rfl, ⟨by decide, by decide⟩, by decide +kernel, by decide⟩
theorem mf_X7_length : MF yX7_length mi_X7_length 0 := ⟨mt1 2 rfl rfl, mt2 65 rfl rfl, ⟨by decide, by decide⟩, by decide +kernel, by decide⟩
theorem mf_X8_allThings : MF yX8_allThings mi_X8_allThings 0 := ⟨mt1 3 rfl rfl, mt3 64 rfl rfl, ⟨by decide, by decide⟩, by decide +kernel, by decide⟩
theorem mf_X8_bottoms : MF yX8_bottoms mi_X8_bottoms 0 := ⟨mt1 3 rfl rfl, mt3 144 rfl rfl, ⟨by decide, by decide⟩, by decide +kernel, by decide⟩
theorem mf_X8_closeDay : MF yX8_closeDay mi_X8_closeDay 0 := ⟨mt1 3 rfl rfl, mt3 48 rfl rfl, ⟨by decide, by decide⟩, by decide +kernel, by decide⟩
theorem mf_X8_closeThing : MF yX8_closeThing mi_X8_closeThing 0 := ⟨mt1 3 rfl rfl, mt2 236 rfl rfl, ⟨by decide, by decide⟩, by decide +kernel, by decide⟩
theorem mf_X8_coats : MF yX8_coats mi_X8_coats 0 := ⟨mt1 3 rfl rfl, mt3 187 rfl rfl, ⟨by decide, by decide⟩, by decide +kernel, by decide⟩
theorem mf_X8_copy : MF yX8_copy mi_X8_copy 1 := ⟨mt1 3 rfl rfl, mt3 57 rfl rfl, ⟨by decide, by decide⟩, by decide +kernel, by decide⟩
theorem mf_X8_days : MF yX8_days mi_X8_days 0 := ⟨mt1 3 rfl rfl, mt3 159 rfl rfl, ⟨by decide, by decide⟩, by decide +kernel, by decide⟩
theorem mf_X8_empty : MF yX8_empty mi_X8_empty 0 := ⟨mt1 3 rfl rfl, mt2 186 rfl rfl, ⟨by decide, by decide⟩, by decide +kernel, by decide⟩
theorem mf_X8_fact : MF yX8_fact mi_X8_fact 2 := ⟨mt1 3 rfl rfl, mt3 92 rfl rfl, ⟨by decide, by decide⟩, by decide +kernel, by decide⟩
theorem mf_X8_hasDay : MF yX8_hasDay mi_X8_hasDay 1 := ⟨mt1 3 rfl rfl, mt3 108 rfl rfl, ⟨by decide, by decide⟩, by decide +kernel, by decide⟩
theorem mf_X8_hasRoomForDay : MF yX8_hasRoomForDay mi_X8_hasRoomForDay 0 := ⟨mt1 3 rfl rfl, mt3 20 rfl rfl, ⟨by decide, by decide⟩, by decide +kernel, by decide⟩
theorem mf_X8_hasRoomForThing : MF yX8_hasRoomForThing mi_X8_hasRoomForThing 0 := ⟨mt1 3 rfl rfl, mt2 207 rfl rfl, ⟨by decide, by decide⟩, by decide +kernel, by decide⟩
theorem mf_X8_hasThing : MF yX8_hasThing mi_X8_hasThing 1 := ⟨mt1 3 rfl rfl, mt3 12 rfl rfl, ⟨by decide, by decide⟩, by decide +kernel, by decide⟩
theorem mf_X8_isReady : MF yX8_isReady mi_X8_isReady 2 := ⟨mt1 3 rfl rfl, mt3 165 rfl rfl, ⟨by decide, by decide⟩, by decide +kernel, by decide⟩
theorem mf_X8_morning : MF yX8_morning mi_X8_morning 5 := ⟨mt1 3 rfl rfl, mt3 191 rfl rfl, ⟨by decide, by decide⟩, by decide +kernel, by decide⟩
theorem mf_X8_setApart : MF yX8_setApart mi_X8_setApart 2 := ⟨mt1 3 rfl rfl, mt3 8 rfl rfl, ⟨by decide, by decide⟩, by decide +kernel, by decide⟩
theorem mf_X8_setFact : MF yX8_setFact mi_X8_setFact 2 := ⟨mt1 3 rfl rfl, mt2 211 rfl rfl, ⟨by decide, by decide⟩, by decide +kernel, by decide⟩
theorem mf_X8_setWant : MF yX8_setWant mi_X8_setWant 2 := ⟨mt1 3 rfl rfl, mt3 28 rfl rfl, ⟨by decide, by decide⟩, by decide +kernel, by decide⟩
theorem mf_X8_suits : MF yX8_suits mi_X8_suits 4 := ⟨mt1 3 rfl rfl, mt3 177 rfl rfl, ⟨by decide, by decide⟩, by decide +kernel, by decide⟩
theorem mf_X8_sum : MF yX8_sum mi_X8_sum 2 := ⟨mt1 3 rfl rfl, mt4 50 rfl rfl, ⟨by decide, by decide⟩, by decide +kernel, by decide⟩
theorem mf_X8_things : MF yX8_things mi_X8_things 0 := ⟨mt1 3 rfl rfl, mt3 4 rfl rfl, ⟨by decide, by decide⟩, by decide +kernel, by decide⟩
theorem mf_X8_together : MF yX8_together mi_X8_together 2 := ⟨mt1 3 rfl rfl, mt3 100 rfl rfl, ⟨by decide, by decide⟩, by decide +kernel, by decide⟩
theorem mf_X8_tops : MF yX8_tops mi_X8_tops 0 := ⟨mt1 3 rfl rfl, mt3 137 rfl rfl, ⟨by decide, by decide⟩, by decide +kernel, by decide⟩
theorem mf_X8_unsureDays : MF yX8_unsureDays mi_X8_unsureDays 0 := ⟨mt1 3 rfl rfl, mt3 40 rfl rfl, ⟨by decide, by decide⟩, by decide +kernel, by decide⟩
theorem mf_X8_want : MF yX8_want mi_X8_want 2 := ⟨mt1 3 rfl rfl, mt3 112 rfl rfl, ⟨by decide, by decide⟩, by decide +kernel, by decide⟩
theorem mf_X8_warmestCoat : MF yX8_warmestCoat mi_X8_warmestCoat 1 := ⟨mt1 3 rfl rfl, mt3 171 rfl rfl, ⟨by decide, by decide⟩, by decide +kernel, by decide⟩
theorem mf_X8_worn : MF yX8_worn mi_X8_worn 3 := ⟨mt1 3 rfl rfl, mt3 195 rfl rfl, ⟨by decide, by decide⟩, by decide +kernel, by decide⟩
theorem mf_X9_has : MF yX9_has mi_X9_has 2 := ⟨mt1 1 rfl rfl, mt3 140 rfl rfl, ⟨by decide, by decide⟩, by decide +kernel, by decide⟩
theorem mf_X9_imageAt : MF yX9_imageAt mi_X9_imageAt 1 := ⟨mt1 1 rfl rfl, mt5 7 rfl rfl, ⟨by decide, by decide⟩, by decide +kernel, by decide⟩
theorem mf_X9_isBit : MF yX9_isBit mi_X9_isBit 1 := ⟨mt1 1 rfl rfl, mt3 147 rfl rfl, ⟨by decide, by decide⟩, by decide +kernel, by decide⟩
theorem mf_X9_isUnsure : MF yX9_isUnsure mi_X9_isUnsure 1 := ⟨mt1 1 rfl rfl, mt3 36 rfl rfl, ⟨by decide, by decide⟩, by decide +kernel, by decide⟩
theorem mf_X9_stateOf : MF yX9_stateOf mi_X9_stateOf 2 := ⟨mt1 1 rfl rfl, mt3 88 rfl rfl, ⟨by decide, by decide⟩, by decide +kernel, by decide⟩
theorem ml_X0_23 : Cond.methodLink RX0 23 yJ7_fill_53178 ∈ lw_t := mt1 171 rfl rfl
theorem ml_X0_29 : Cond.methodLink RX0 29 yX8_days ∈ lw_t := mt4 31 rfl rfl
theorem ml_X0_35 : Cond.methodLink RX0 35 yX0_chanceOf ∈ lw_t := mt4 32 rfl rfl
theorem ml_X0_39 : Cond.methodLink RX0 39 yX5_find ∈ lw_t := mt4 37 rfl rfl
theorem ml_X0_45 : Cond.methodLink RX0 45 yX8_want ∈ lw_t := mt4 36 rfl rfl
theorem ml_X0_49 : Cond.methodLink RX0 49 yX8_allThings ∈ lw_t := mt4 46 rfl rfl
theorem ml_X0_52 : Cond.methodLink RX0 52 yX8_sum ∈ lw_t := mt4 47 rfl rfl
theorem ml_X0_55 : Cond.methodLink RX0 55 yX0_chances ∈ lw_t := mt4 51 rfl rfl
theorem ml_X0_58 : Cond.methodLink RX0 58 yX8_things ∈ lw_t := mt4 60 rfl rfl
theorem ml_X0_64 : Cond.methodLink RX0 64 yJ6_bitCount_0f7a4 ∈ lw_t := mt4 91 rfl rfl
theorem ml_X0_69 : Cond.methodLink RX0 69 yX0_allMatch ∈ lw_t := mt4 135 rfl rfl
theorem ml_X0_73 : Cond.methodLink RX0 73 yX8_together ∈ lw_t := mt4 139 rfl rfl
theorem ml_X10_104 : Cond.methodLink RX10 104 yX10_meaning ∈ lw_t := mt5 164 rfl rfl
theorem ml_X10_111 : Cond.methodLink RX10 111 yX10_next ∈ lw_t := mt5 156 rfl rfl
theorem ml_X10_114 : Cond.methodLink RX10 114 yX10_due ∈ lw_t := mt5 171 rfl rfl
theorem ml_X10_118 : Cond.methodLink RX10 118 yX10_number ∈ lw_t := mt5 179 rfl rfl
theorem ml_X10_122 : Cond.methodLink RX10 122 yX10_optional ∈ lw_t := mt5 183 rfl rfl
theorem ml_X10_129 : Cond.methodLink RX10 129 yX10_readThing ∈ lw_t := mt5 175 rfl rfl
theorem ml_X10_133 : Cond.methodLink RX10 133 yX10_readDay ∈ lw_t := mt5 187 rfl rfl
theorem ml_X10_136 : Cond.methodLink RX10 136 yX10_item ∈ lw_t := mt5 167 rfl rfl
theorem ml_X10_139 : Cond.methodLink RX10 139 yX10_allThings ∈ lw_t := mt5 191 rfl rfl
theorem ml_X10_142 : Cond.methodLink RX10 142 yX10_isThing ∈ lw_t := mt5 199 rfl rfl
theorem ml_X10_145 : Cond.methodLink RX10 145 yX10_howIs ∈ lw_t := mt5 203 rfl rfl
theorem ml_X10_148 : Cond.methodLink RX10 148 yX10_of ∈ lw_t := mt5 206 rfl rfl
theorem ml_X10_151 : Cond.methodLink RX10 151 yX10_isGoing ∈ lw_t := mt5 214 rfl rfl
theorem ml_X10_155 : Cond.methodLink RX10 155 yX10_isOf ∈ lw_t := mt5 238 rfl rfl
theorem ml_X10_158 : Cond.methodLink RX10 158 yX10_warmestCoat ∈ lw_t := mt6 1 rfl rfl
theorem ml_X10_161 : Cond.methodLink RX10 161 yX10_worn ∈ lw_t := mt6 16 rfl rfl
theorem ml_X10_168 : Cond.methodLink RX10 168 yX10_mayWear ∈ lw_t := mt5 234 rfl rfl
theorem ml_X10_172 : Cond.methodLink RX10 172 yX10_isRain ∈ lw_t := mt6 44 rfl rfl
theorem ml_X10_175 : Cond.methodLink RX10 175 yX10_hasCoat ∈ lw_t := mt6 8 rfl rfl
theorem ml_X10_181 : Cond.methodLink RX10 181 yX10_isWearable ∈ lw_t := mt6 5 rfl rfl
theorem ml_X10_184 : Cond.methodLink RX10 184 yX10_behind ∈ lw_t := mt6 12 rfl rfl
theorem ml_X10_188 : Cond.methodLink RX10 188 yX10_begin ∈ lw_t := mt6 36 rfl rfl
theorem ml_X10_191 : Cond.methodLink RX10 191 yX10_goDay ∈ lw_t := mt6 40 rfl rfl
theorem ml_X10_195 : Cond.methodLink RX10 195 yX10_servesFrom ∈ lw_t := mt6 32 rfl rfl
theorem ml_X10_198 : Cond.methodLink RX10 198 yX10_isServing ∈ lw_t := mt6 28 rfl rfl
theorem ml_X10_201 : Cond.methodLink RX10 201 yX10_findPlan ∈ lw_t := mt6 52 rfl rfl
theorem ml_X10_204 : Cond.methodLink RX10 204 yX10_oddsOf ∈ lw_t := mt6 60 rfl rfl
theorem ml_X10_207 : Cond.methodLink RX10 207 yX10_sumOf ∈ lw_t := mt6 68 rfl rfl
theorem ml_X10_210 : Cond.methodLink RX10 210 yX10_firstDay ∈ lw_t := mt6 76 rfl rfl
theorem ml_X10_213 : Cond.methodLink RX10 213 yX10_bitsIn ∈ lw_t := mt6 88 rfl rfl
theorem ml_X10_216 : Cond.methodLink RX10 216 yX10_lay ∈ lw_t := mt6 95 rfl rfl
theorem ml_X10_219 : Cond.methodLink RX10 219 yX10_troubles ∈ lw_t := mt6 99 rfl rfl
theorem ml_X10_225 : Cond.methodLink RX10 225 yX10_common ∈ lw_t := mt6 119 rfl rfl
theorem ml_X10_228 : Cond.methodLink RX10 228 yX10_upTo ∈ lw_t := mt6 122 rfl rfl
theorem ml_X10_246 : Cond.methodLink RX10 246 yX10_copy ∈ lw_t := mt6 140 rfl rfl
theorem ml_X10_78 : Cond.methodLink RX10 78 yX10_in ∈ lw_t := mt5 144 rfl rfl
theorem ml_X10_91 : Cond.methodLink RX10 91 yX10_here ∈ lw_t := mt5 160 rfl rfl
theorem ml_X1_19 : Cond.methodLink RX1 19 yX1_asThing ∈ lw_t := mt4 209 rfl rfl
theorem ml_X1_23 : Cond.methodLink RX1 23 yX1_asOnce ∈ lw_t := mt4 214 rfl rfl
theorem ml_X1_26 : Cond.methodLink RX1 26 yX1_asSpare ∈ lw_t := mt4 219 rfl rfl
theorem ml_X1_29 : Cond.methodLink RX1 29 yX1_asDouble ∈ lw_t := mt4 224 rfl rfl
theorem ml_X1_32 : Cond.methodLink RX1 32 yX1_asBought ∈ lw_t := mt4 229 rfl rfl
theorem ml_X1_35 : Cond.methodLink RX1 35 yX1_asSingle ∈ lw_t := mt4 234 rfl rfl
theorem ml_X1_40 : Cond.methodLink RX1 40 yX8_fact ∈ lw_t := mt4 213 rfl rfl
theorem ml_X2_25 : Cond.methodLink RX2 25 yX8_days ∈ lw_t := mt3 156 rfl rfl
theorem ml_X2_31 : Cond.methodLink RX2 31 yX8_things ∈ lw_t := mt3 208 rfl rfl
theorem ml_X2_38 : Cond.methodLink RX2 38 yX2_isOver ∈ lw_t := mt3 152 rfl rfl
theorem ml_X2_42 : Cond.methodLink RX2 42 yX8_want ∈ lw_t := mt3 160 rfl rfl
theorem ml_X2_49 : Cond.methodLink RX2 49 yX8_isReady ∈ lw_t := mt3 162 rfl rfl
theorem ml_X2_52 : Cond.methodLink RX2 52 yX8_warmestCoat ∈ lw_t := mt3 168 rfl rfl
theorem ml_X2_56 : Cond.methodLink RX2 56 yX8_suits ∈ lw_t := mt3 174 rfl rfl
theorem ml_X2_60 : Cond.methodLink RX2 60 yX8_coats ∈ lw_t := mt3 184 rfl rfl
theorem ml_X2_63 : Cond.methodLink RX2 63 yX8_morning ∈ lw_t := mt3 188 rfl rfl
theorem ml_X3_25 : Cond.methodLink RX3 25 yX3_lowered ∈ lw_t := mt4 183 rfl rfl
theorem ml_X4_42 : Cond.methodLink RX4 42 yJ7_fill_53178 ∈ lw_t := mt4 105 rfl rfl
theorem ml_X4_48 : Cond.methodLink RX4 48 yX5_firstDayOf ∈ lw_t := mt4 106 rfl rfl
theorem ml_X4_54 : Cond.methodLink RX4 54 yX8_coats ∈ lw_t := mt4 107 rfl rfl
theorem ml_X4_64 : Cond.methodLink RX4 64 yX4_lay ∈ lw_t := mt4 109 rfl rfl
theorem ml_X4_74 : Cond.methodLink RX4 74 yX8_fact ∈ lw_t := mt4 114 rfl rfl
theorem ml_X4_78 : Cond.methodLink RX4 78 yX4_troubleOf ∈ lw_t := mt4 115 rfl rfl
theorem ml_X5_101 : Cond.methodLink RX5 101 yX5_livesOnWith ∈ lw_t := mt4 0 rfl rfl
theorem ml_X5_105 : Cond.methodLink RX5 105 yX8_isReady ∈ lw_t := mt4 4 rfl rfl
theorem ml_X5_108 : Cond.methodLink RX5 108 yX8_want ∈ lw_t := mt4 5 rfl rfl
theorem ml_X5_112 : Cond.methodLink RX5 112 yX8_morning ∈ lw_t := mt4 6 rfl rfl
theorem ml_X5_116 : Cond.methodLink RX5 116 yX5_reachFrom ∈ lw_t := mt4 154 rfl rfl
theorem ml_X5_125 : Cond.methodLink RX5 125 yX5_mark ∈ lw_t := mt4 158 rfl rfl
theorem ml_X5_38 : Cond.methodLink RX5 38 yX5_prepare ∈ lw_t := mt3 219 rfl rfl
theorem ml_X5_42 : Cond.methodLink RX5 42 yJ7_fill_d0a16 ∈ lw_t := mt3 229 rfl rfl
theorem ml_X5_48 : Cond.methodLink RX5 48 yX5_livesOn ∈ lw_t := mt3 232 rfl rfl
theorem ml_X5_52 : Cond.methodLink RX5 52 yX5_isDay ∈ lw_t := mt3 236 rfl rfl
theorem ml_X5_56 : Cond.methodLink RX5 56 yX8_days ∈ lw_t := mt3 227 rfl rfl
theorem ml_X5_62 : Cond.methodLink RX5 62 yX5_topOn ∈ lw_t := mt4 72 rfl rfl
theorem ml_X5_66 : Cond.methodLink RX5 66 yX5_bottomOn ∈ lw_t := mt4 73 rfl rfl
theorem ml_X5_69 : Cond.methodLink RX5 69 yX8_things ∈ lw_t := mt4 66 rfl rfl
theorem ml_X5_72 : Cond.methodLink RX5 72 yX8_coats ∈ lw_t := mt3 223 rfl rfl
theorem ml_X5_78 : Cond.methodLink RX5 78 yX5_firstDayOf ∈ lw_t := mt4 68 rfl rfl
theorem ml_X5_81 : Cond.methodLink RX5 81 yX5_reachNext ∈ lw_t := mt4 150 rfl rfl
theorem ml_X5_88 : Cond.methodLink RX5 88 yX8_tops ∈ lw_t := mt3 224 rfl rfl
theorem ml_X5_91 : Cond.methodLink RX5 91 yX8_bottoms ∈ lw_t := mt3 225 rfl rfl
theorem ml_X5_94 : Cond.methodLink RX5 94 yX8_warmestCoat ∈ lw_t := mt3 226 rfl rfl
theorem ml_X5_97 : Cond.methodLink RX5 97 yX8_suits ∈ lw_t := mt3 228 rfl rfl
theorem ml_X6_113 : Cond.methodLink RX6 113 yJ0_length_8abf5 ∈ lw_t := mt2 124 rfl rfl
theorem ml_X6_116 : Cond.methodLink RX6 116 yJ0_charAt_5068e ∈ lw_t := mt2 134 rfl rfl
theorem ml_X6_120 : Cond.methodLink RX6 120 yX6_readThing ∈ lw_t := mt2 200 rfl rfl
theorem ml_X6_123 : Cond.methodLink RX6 123 yX6_readClothes ∈ lw_t := mt2 221 rfl rfl
theorem ml_X6_126 : Cond.methodLink RX6 126 yX6_take ∈ lw_t := mt2 225 rfl rfl
theorem ml_X6_129 : Cond.methodLink RX6 129 yX6_closeThing ∈ lw_t := mt2 229 rfl rfl
theorem ml_X6_132 : Cond.methodLink RX6 132 yX6_readApart ∈ lw_t := mt2 237 rfl rfl
theorem ml_X6_135 : Cond.methodLink RX6 135 yX6_readDay ∈ lw_t := mt3 13 rfl rfl
theorem ml_X6_138 : Cond.methodLink RX6 138 yX6_closeDay ∈ lw_t := mt3 41 rfl rfl
theorem ml_X6_141 : Cond.methodLink RX6 141 yX8_closeThing ∈ lw_t := mt2 233 rfl rfl
theorem ml_X6_143 : Cond.methodLink RX6 143 yX8_closeDay ∈ lw_t := mt3 45 rfl rfl
theorem ml_X6_145 : Cond.methodLink RX6 145 yX8_hasRoomForThing ∈ lw_t := mt2 204 rfl rfl
theorem ml_X6_148 : Cond.methodLink RX6 148 yX6_codeOfNext ∈ lw_t := mt2 192 rfl rfl
theorem ml_X6_151 : Cond.methodLink RX6 151 yX8_setFact ∈ lw_t := mt2 208 rfl rfl
theorem ml_X6_154 : Cond.methodLink RX6 154 yX6_readFact ∈ lw_t := mt2 213 rfl rfl
theorem ml_X6_158 : Cond.methodLink RX6 158 yX6_takeNumber ∈ lw_t := mt2 217 rfl rfl
theorem ml_X6_165 : Cond.methodLink RX6 165 yX8_things ∈ lw_t := mt3 1 rfl rfl
theorem ml_X6_168 : Cond.methodLink RX6 168 yX8_setApart ∈ lw_t := mt3 5 rfl rfl
theorem ml_X6_171 : Cond.methodLink RX6 171 yX8_hasRoomForDay ∈ lw_t := mt3 17 rfl rfl
theorem ml_X6_174 : Cond.methodLink RX6 174 yX6_readWant ∈ lw_t := mt3 21 rfl rfl
theorem ml_X6_177 : Cond.methodLink RX6 177 yX8_setWant ∈ lw_t := mt3 25 rfl rfl
theorem ml_X6_180 : Cond.methodLink RX6 180 yX6_readRain ∈ lw_t := mt3 30 rfl rfl
theorem ml_X6_186 : Cond.methodLink RX6 186 yX8_unsureDays ∈ lw_t := mt3 37 rfl rfl
theorem ml_X6_28 : Cond.methodLink RX6 28 yX6_split ∈ lw_t := mt2 82 rfl rfl
theorem ml_X6_31 : Cond.methodLink RX6 31 yX8_empty ∈ lw_t := mt2 183 rfl rfl
theorem ml_X6_40 : Cond.methodLink RX6 40 yX6_isNext ∈ lw_t := mt2 188 rfl rfl
theorem ml_X6_44 : Cond.methodLink RX6 44 yX6_readItem ∈ lw_t := mt2 196 rfl rfl
theorem ml_X6_48 : Cond.methodLink RX6 48 yX6_startOfNext ∈ lw_t := mt3 50 rfl rfl
theorem ml_X6_55 : Cond.methodLink RX6 55 yX7_length ∈ lw_t := mt2 86 rfl rfl
theorem ml_X6_58 : Cond.methodLink RX6 58 yX6_endOf ∈ lw_t := mt2 87 rfl rfl
theorem ml_X6_68 : Cond.methodLink RX6 68 yX7_at ∈ lw_t := mt2 91 rfl rfl
theorem ml_X6_71 : Cond.methodLink RX6 71 yX6_codeOf ∈ lw_t := mt2 104 rfl rfl
theorem ml_X6_74 : Cond.methodLink RX6 74 yX6_addToken ∈ lw_t := mt2 179 rfl rfl
theorem ml_X6_78 : Cond.methodLink RX6 78 yX6_isDigit ∈ lw_t := mt2 95 rfl rfl
theorem ml_X6_81 : Cond.methodLink RX6 81 yX6_isLetter ∈ lw_t := mt2 98 rfl rfl
theorem ml_X6_84 : Cond.methodLink RX6 84 yX6_numberCode ∈ lw_t := mt2 108 rfl rfl
theorem ml_X6_87 : Cond.methodLink RX6 87 yX6_wordCode ∈ lw_t := mt2 115 rfl rfl
theorem ml_X6_95 : Cond.methodLink RX6 95 yX6_isWord ∈ lw_t := mt2 120 rfl rfl
theorem ml_X8_21 : Cond.methodLink RX8 21 yJ7_fill_53178 ∈ lw_t := mt2 187 rfl rfl
theorem ml_X8_58 : Cond.methodLink RX8 58 yX8_hasRoomForThing ∈ lw_t := mt2 212 rfl rfl
theorem ml_X8_62 : Cond.methodLink RX8 62 yX8_hasRoomForDay ∈ lw_t := mt3 29 rfl rfl
theorem ml_X8_69 : Cond.methodLink RX8 69 yX8_hasThing ∈ lw_t := mt3 9 rfl rfl
theorem ml_X8_72 : Cond.methodLink RX8 72 yX8_hasDay ∈ lw_t := mt3 113 rfl rfl
theorem ml_X8_79 : Cond.methodLink RX8 79 yX8_fact ∈ lw_t := mt3 172 rfl rfl
theorem ml_X8_88 : Cond.methodLink RX8 88 yX8_want ∈ lw_t := mt3 178 rfl rfl
theorem ml_X8_91 : Cond.methodLink RX8 91 yX8_together ∈ lw_t := mt3 179 rfl rfl
theorem ml_X8_97 : Cond.methodLink RX8 97 yX8_worn ∈ lw_t := mt3 192 rfl rfl
theorem ml_X9_103 : Cond.methodLink RX9 103 yX7_empty ∈ lw_t := mt2 70 rfl rfl
theorem ml_X9_106 : Cond.methodLink RX9 106 yX6_read ∈ lw_t := mt2 78 rfl rfl
theorem ml_X9_109 : Cond.methodLink RX9 109 yX8_copy ∈ lw_t := mt3 54 rfl rfl
theorem ml_X9_112 : Cond.methodLink RX9 112 yX8_allThings ∈ lw_t := mt3 61 rfl rfl
theorem ml_X9_115 : Cond.methodLink RX9 115 yX2_start ∈ lw_t := mt3 65 rfl rfl
theorem ml_X9_118 : Cond.methodLink RX9 118 yX2_forget ∈ lw_t := mt3 69 rfl rfl
theorem ml_X9_121 : Cond.methodLink RX9 121 yX0_forget ∈ lw_t := mt3 73 rfl rfl
theorem ml_X9_122 : Cond.methodLink RX9 122 yX8_hasThing ∈ lw_t := mt3 81 rfl rfl
theorem ml_X9_125 : Cond.methodLink RX9 125 yX2_how ∈ lw_t := mt3 82 rfl rfl
theorem ml_X9_128 : Cond.methodLink RX9 128 yX9_stateOf ∈ lw_t := mt3 86 rfl rfl
theorem ml_X9_132 : Cond.methodLink RX9 132 yX8_fact ∈ lw_t := mt3 89 rfl rfl
theorem ml_X9_135 : Cond.methodLink RX9 135 yX8_together ∈ lw_t := mt3 97 rfl rfl
theorem ml_X9_139 : Cond.methodLink RX9 139 yX8_hasDay ∈ lw_t := mt3 105 rfl rfl
theorem ml_X9_142 : Cond.methodLink RX9 142 yX8_want ∈ lw_t := mt3 109 rfl rfl
theorem ml_X9_151 : Cond.methodLink RX9 151 yX2_set ∈ lw_t := mt3 126 rfl rfl
theorem ml_X9_154 : Cond.methodLink RX9 154 yX8_tops ∈ lw_t := mt3 134 rfl rfl
theorem ml_X9_157 : Cond.methodLink RX9 157 yX9_has ∈ lw_t := mt3 138 rfl rfl
theorem ml_X9_160 : Cond.methodLink RX9 160 yX8_bottoms ∈ lw_t := mt3 141 rfl rfl
theorem ml_X9_163 : Cond.methodLink RX9 163 yX9_isBit ∈ lw_t := mt3 145 rfl rfl
theorem ml_X9_166 : Cond.methodLink RX9 166 yX2_mayWear ∈ lw_t := mt3 148 rfl rfl
theorem ml_X9_170 : Cond.methodLink RX9 170 yX2_wear ∈ lw_t := mt3 180 rfl rfl
theorem ml_X9_174 : Cond.methodLink RX9 174 yX2_date ∈ lw_t := mt3 196 rfl rfl
theorem ml_X9_177 : Cond.methodLink RX9 177 yX2_fresh ∈ lw_t := mt3 204 rfl rfl
theorem ml_X9_181 : Cond.methodLink RX9 181 yX2_isOver ∈ lw_t := mt3 210 rfl rfl
theorem ml_X9_185 : Cond.methodLink RX9 185 yX5_find ∈ lw_t := mt3 215 rfl rfl
theorem ml_X9_188 : Cond.methodLink RX9 188 yX5_topOn ∈ lw_t := mt4 11 rfl rfl
theorem ml_X9_192 : Cond.methodLink RX9 192 yX5_bottomOn ∈ lw_t := mt4 15 rfl rfl
theorem ml_X9_195 : Cond.methodLink RX9 195 yX5_washOn ∈ lw_t := mt4 19 rfl rfl
theorem ml_X9_198 : Cond.methodLink RX9 198 yX0_chances ∈ lw_t := mt4 27 rfl rfl
theorem ml_X9_201 : Cond.methodLink RX9 201 yX0_smallest ∈ lw_t := mt4 42 rfl rfl
theorem ml_X9_204 : Cond.methodLink RX9 204 yX0_spares ∈ lw_t := mt4 56 rfl rfl
theorem ml_X9_207 : Cond.methodLink RX9 207 yX5_neverOn ∈ lw_t := mt4 62 rfl rfl
theorem ml_X9_210 : Cond.methodLink RX9 210 yX0_purchase ∈ lw_t := mt4 78 rfl rfl
theorem ml_X9_213 : Cond.methodLink RX9 213 yX8_sum ∈ lw_t := mt4 82 rfl rfl
theorem ml_X9_216 : Cond.methodLink RX9 216 yX0_takenOff ∈ lw_t := mt4 87 rfl rfl
theorem ml_X9_220 : Cond.methodLink RX9 220 yX4_arrange ∈ lw_t := mt4 101 rfl rfl
theorem ml_X9_224 : Cond.methodLink RX9 224 yX4_trouble ∈ lw_t := mt4 119 rfl rfl
theorem ml_X9_227 : Cond.methodLink RX9 227 yX4_layerOf ∈ lw_t := mt4 123 rfl rfl
theorem ml_X9_230 : Cond.methodLink RX9 230 yX0_largestMatch ∈ lw_t := mt4 131 rfl rfl
theorem ml_X9_233 : Cond.methodLink RX9 233 yJ6_bitCount_0f7a4 ∈ lw_t := mt4 140 rfl rfl
theorem ml_X9_238 : Cond.methodLink RX9 238 yX8_days ∈ lw_t := mt4 145 rfl rfl
theorem ml_X9_241 : Cond.methodLink RX9 241 yX5_times ∈ lw_t := mt4 146 rfl rfl
theorem ml_X9_244 : Cond.methodLink RX9 244 yX3_add ∈ lw_t := mt4 167 rfl rfl
theorem ml_X9_246 : Cond.methodLink RX9 246 yX3_size ∈ lw_t := mt4 171 rfl rfl
theorem ml_X9_249 : Cond.methodLink RX9 249 yX3_wasteUpper ∈ lw_t := mt4 179 rfl rfl
theorem ml_X9_252 : Cond.methodLink RX9 252 yX3_wasteLower ∈ lw_t := mt4 187 rfl rfl
theorem ml_X9_255 : Cond.methodLink RX9 255 yX3_onAt ∈ lw_t := mt4 192 rfl rfl
theorem ml_X9_258 : Cond.methodLink RX9 258 yX1_isKind ∈ lw_t := mt4 200 rfl rfl
theorem ml_X9_262 : Cond.methodLink RX9 262 yX1_ask ∈ lw_t := mt4 205 rfl rfl
theorem ml_X9_265 : Cond.methodLink RX9 265 yX9_imageAt ∈ lw_t := mt5 4 rfl rfl
theorem ml_X9_269 : Cond.methodLink RX9 269 yX2_copy ∈ lw_t := mt5 8 rfl rfl
theorem ml_X9_272 : Cond.methodLink RX9 272 yX2_isKept ∈ lw_t := mt5 16 rfl rfl
theorem ml_X9_276 : Cond.methodLink RX9 276 yX8_things ∈ lw_t := mt5 24 rfl rfl
theorem ml_X9_279 : Cond.methodLink RX9 279 yX1_asked ∈ lw_t := mt5 29 rfl rfl
theorem ml_X9_91 : Cond.methodLink RX9 91 yX7_hasRoom ∈ lw_t := mt2 54 rfl rfl
theorem ml_X9_95 : Cond.methodLink RX9 95 yX7_add ∈ lw_t := mt2 58 rfl rfl
theorem ml_X9_99 : Cond.methodLink RX9 99 yX7_length ∈ lw_t := mt2 62 rfl rfl
theorem mn_X3_29 : Cond.methodLink RX3 29 Lib.Math.max.name ∈ lw_t ∧ Cond.static Lib.Math.max.name ∈ lw_t ∧ Cond.initialized "java/lang/Math" ∈ lw_t ∧ Cond.code Lib.Math.max.name Lib.Math.max.code 2 (some .int) ∈ lw_t := ⟨mt4 191 rfl rfl, mt2 102 rfl rfl, mt1 13 rfl rfl, mt2 103 rfl rfl⟩
theorem mn_X4_68 : Cond.methodLink RX4 68 arraycopyName ∈ lw_t ∧ Cond.native arraycopyName ∈ lw_t ∧ Cond.static arraycopyName ∈ lw_t ∧ Cond.initialized "java/lang/System" ∈ lw_t := ⟨mt4 113 rfl rfl, mt3 60 rfl rfl, mt3 59 rfl rfl, mt1 18 rfl rfl⟩
theorem mn_X5_119 : Cond.methodLink RX5 119 arraycopyName ∈ lw_t ∧ Cond.native arraycopyName ∈ lw_t ∧ Cond.static arraycopyName ∈ lw_t ∧ Cond.initialized "java/lang/System" ∈ lw_t := ⟨mt4 162 rfl rfl, mt3 60 rfl rfl, mt3 59 rfl rfl, mt1 18 rfl rfl⟩
theorem mn_X6_62 : Cond.methodLink RX6 62 Lib.Math.max.name ∈ lw_t ∧ Cond.static Lib.Math.max.name ∈ lw_t ∧ Cond.initialized "java/lang/Math" ∈ lw_t ∧ Cond.code Lib.Math.max.name Lib.Math.max.code 2 (some .int) ∈ lw_t := ⟨mt2 101 rfl rfl, mt2 102 rfl rfl, mt1 13 rfl rfl, mt2 103 rfl rfl⟩
theorem mn_X6_90 : Cond.methodLink RX6 90 Lib.Math.min.name ∈ lw_t ∧ Cond.static Lib.Math.min.name ∈ lw_t ∧ Cond.initialized "java/lang/Math" ∈ lw_t ∧ Cond.code Lib.Math.min.name Lib.Math.min.code 2 (some .int) ∈ lw_t := ⟨mt2 112 rfl rfl, mt2 113 rfl rfl, mt1 13 rfl rfl, mt2 114 rfl rfl⟩
theorem mn_X8_52 : Cond.methodLink RX8 52 arraycopyName ∈ lw_t ∧ Cond.native arraycopyName ∈ lw_t ∧ Cond.static arraycopyName ∈ lw_t ∧ Cond.initialized "java/lang/System" ∈ lw_t := ⟨mt3 58 rfl rfl, mt3 60 rfl rfl, mt3 59 rfl rfl, mt1 18 rfl rfl⟩
theorem mn_X8_83 : Cond.methodLink RX8 83 Lib.Math.max.name ∈ lw_t ∧ Cond.static Lib.Math.max.name ∈ lw_t ∧ Cond.initialized "java/lang/Math" ∈ lw_t ∧ Cond.code Lib.Math.max.name Lib.Math.max.code 2 (some .int) ∈ lw_t := ⟨mt3 173 rfl rfl, mt2 102 rfl rfl, mt1 13 rfl rfl, mt2 103 rfl rfl⟩
theorem ms_J6_bitCount_0f7a4 : Cond.static yJ6_bitCount_0f7a4 ∈ lw_t := mt4 92 rfl rfl
theorem ms_J7_fill_53178 : Cond.static yJ7_fill_53178 ∈ lw_t := mt1 172 rfl rfl
theorem ms_J7_fill_d0a16 : Cond.static yJ7_fill_d0a16 ∈ lw_t := mt3 230 rfl rfl
theorem ms_X10_bitsIn : Cond.static yX10_bitsIn ∈ lw_t := mt6 89 rfl rfl
theorem ms_X10_common : Cond.static yX10_common ∈ lw_t := mt6 120 rfl rfl
theorem ms_X10_howIs : Cond.static yX10_howIs ∈ lw_t := mt5 204 rfl rfl
theorem ms_X10_in : Cond.static yX10_in ∈ lw_t := mt5 145 rfl rfl
theorem ms_X10_isOf : Cond.static yX10_isOf ∈ lw_t := mt5 239 rfl rfl
theorem ms_X10_isWearable : Cond.static yX10_isWearable ∈ lw_t := mt6 6 rfl rfl
theorem ms_X10_meaning : Cond.static yX10_meaning ∈ lw_t := mt5 165 rfl rfl
theorem ms_X6_isDigit : Cond.static yX6_isDigit ∈ lw_t := mt2 96 rfl rfl
theorem ms_X6_isLetter : Cond.static yX6_isLetter ∈ lw_t := mt2 99 rfl rfl
theorem ms_X9_has : Cond.static yX9_has ∈ lw_t := mt3 139 rfl rfl
theorem ms_X9_isBit : Cond.static yX9_isBit ∈ lw_t := mt3 146 rfl rfl
theorem ms_X9_isUnsure : Cond.static yX9_isUnsure ∈ lw_t := mt3 35 rfl rfl
theorem ms_X9_stateOf : Cond.static yX9_stateOf ∈ lw_t := mt3 87 rfl rfl
theorem mv_X0_allMatch : MV yX0_allMatch := ⟨mt4 137 rfl rfl, mts (List.mem_of_getElem? (i := 30) rfl) rfl⟩
theorem mv_X0_chanceOf : MV yX0_chanceOf := ⟨mt4 34 rfl rfl, mts (List.mem_of_getElem? (i := 27) rfl) rfl⟩
theorem mv_X0_chances : MV yX0_chances := ⟨mt4 28 rfl rfl, mt4 29 rfl rfl⟩
theorem mv_X0_forget : MV yX0_forget := ⟨mt3 74 rfl rfl, mt3 75 rfl rfl⟩
theorem mv_X0_largestMatch : MV yX0_largestMatch := ⟨mt4 132 rfl rfl, mt4 133 rfl rfl⟩
theorem mv_X0_purchase : MV yX0_purchase := ⟨mt4 79 rfl rfl, mt4 80 rfl rfl⟩
theorem mv_X0_smallest : MV yX0_smallest := ⟨mt4 43 rfl rfl, mt4 44 rfl rfl⟩
theorem mv_X0_spares : MV yX0_spares := ⟨mt4 57 rfl rfl, mt4 58 rfl rfl⟩
theorem mv_X0_takenOff : MV yX0_takenOff := ⟨mt4 88 rfl rfl, mt4 89 rfl rfl⟩
theorem mv_X10_allThings : MV yX10_allThings := ⟨mt5 193 rfl rfl, mts (List.mem_of_getElem? (i := 50) rfl) rfl⟩
theorem mv_X10_begin : MV yX10_begin := ⟨mt6 38 rfl rfl, mts (List.mem_of_getElem? (i := 61) rfl) rfl⟩
theorem mv_X10_behind : MV yX10_behind := ⟨mt6 14 rfl rfl, mts (List.mem_of_getElem? (i := 57) rfl) rfl⟩
theorem mv_X10_copy : MV yX10_copy := ⟨mt6 142 rfl rfl, mts (List.mem_of_getElem? (i := 71) rfl) rfl⟩
theorem mv_X10_due : MV yX10_due := ⟨mt5 173 rfl rfl, mts (List.mem_of_getElem? (i := 45) rfl) rfl⟩
theorem mv_X10_findPlan : MV yX10_findPlan := ⟨mt6 54 rfl rfl, mts (List.mem_of_getElem? (i := 64) rfl) rfl⟩
theorem mv_X10_firstDay : MV yX10_firstDay := ⟨mt6 78 rfl rfl, mts (List.mem_of_getElem? (i := 67) rfl) rfl⟩
theorem mv_X10_goDay : MV yX10_goDay := ⟨mt6 42 rfl rfl, mts (List.mem_of_getElem? (i := 62) rfl) rfl⟩
theorem mv_X10_hasCoat : MV yX10_hasCoat := ⟨mt6 10 rfl rfl, mts (List.mem_of_getElem? (i := 56) rfl) rfl⟩
theorem mv_X10_here : MV yX10_here := ⟨mt5 162 rfl rfl, mts (List.mem_of_getElem? (i := 43) rfl) rfl⟩
theorem mv_X10_isGoing : MV yX10_isGoing := ⟨mt5 216 rfl rfl, mts (List.mem_of_getElem? (i := 53) rfl) rfl⟩
theorem mv_X10_isRain : MV yX10_isRain := ⟨mt6 46 rfl rfl, mts (List.mem_of_getElem? (i := 63) rfl) rfl⟩
theorem mv_X10_isServing : MV yX10_isServing := ⟨mt6 30 rfl rfl, mts (List.mem_of_getElem? (i := 59) rfl) rfl⟩
theorem mv_X10_isThing : MV yX10_isThing := ⟨mt5 201 rfl rfl, mts (List.mem_of_getElem? (i := 51) rfl) rfl⟩
theorem mv_X10_item : MV yX10_item := ⟨mt5 169 rfl rfl, mts (List.mem_of_getElem? (i := 44) rfl) rfl⟩
theorem mv_X10_lay : MV yX10_lay := ⟨mt6 97 rfl rfl, mts (List.mem_of_getElem? (i := 68) rfl) rfl⟩
theorem mv_X10_mayWear : MV yX10_mayWear := ⟨mt5 236 rfl rfl, mts (List.mem_of_getElem? (i := 54) rfl) rfl⟩
theorem mv_X10_next : MV yX10_next := ⟨mt5 158 rfl rfl, mts (List.mem_of_getElem? (i := 42) rfl) rfl⟩
theorem mv_X10_number : MV yX10_number := ⟨mt5 181 rfl rfl, mts (List.mem_of_getElem? (i := 47) rfl) rfl⟩
theorem mv_X10_oddsOf : MV yX10_oddsOf := ⟨mt6 62 rfl rfl, mts (List.mem_of_getElem? (i := 65) rfl) rfl⟩
theorem mv_X10_of : MV yX10_of := ⟨mt5 208 rfl rfl, mts (List.mem_of_getElem? (i := 52) rfl) rfl⟩
theorem mv_X10_optional : MV yX10_optional := ⟨mt5 185 rfl rfl, mts (List.mem_of_getElem? (i := 48) rfl) rfl⟩
theorem mv_X10_readDay : MV yX10_readDay := ⟨mt5 189 rfl rfl, mts (List.mem_of_getElem? (i := 49) rfl) rfl⟩
theorem mv_X10_readThing : MV yX10_readThing := ⟨mt5 177 rfl rfl, mts (List.mem_of_getElem? (i := 46) rfl) rfl⟩
theorem mv_X10_servesFrom : MV yX10_servesFrom := ⟨mt6 34 rfl rfl, mts (List.mem_of_getElem? (i := 60) rfl) rfl⟩
theorem mv_X10_sumOf : MV yX10_sumOf := ⟨mt6 70 rfl rfl, mts (List.mem_of_getElem? (i := 66) rfl) rfl⟩
theorem mv_X10_troubles : MV yX10_troubles := ⟨mt6 101 rfl rfl, mts (List.mem_of_getElem? (i := 69) rfl) rfl⟩
theorem mv_X10_upTo : MV yX10_upTo := ⟨mt6 124 rfl rfl, mts (List.mem_of_getElem? (i := 70) rfl) rfl⟩
theorem mv_X10_warmestCoat : MV yX10_warmestCoat := ⟨mt6 3 rfl rfl, mts (List.mem_of_getElem? (i := 55) rfl) rfl⟩
theorem mv_X10_worn : MV yX10_worn := ⟨mt6 18 rfl rfl, mts (List.mem_of_getElem? (i := 58) rfl) rfl⟩
theorem mv_X1_asBought : MV yX1_asBought := ⟨mt4 231 rfl rfl, mts (List.mem_of_getElem? (i := 39) rfl) rfl⟩
theorem mv_X1_asDouble : MV yX1_asDouble := ⟨mt4 226 rfl rfl, mts (List.mem_of_getElem? (i := 38) rfl) rfl⟩
theorem mv_X1_asOnce : MV yX1_asOnce := ⟨mt4 216 rfl rfl, mts (List.mem_of_getElem? (i := 36) rfl) rfl⟩
theorem mv_X1_asSingle : MV yX1_asSingle := ⟨mt4 236 rfl rfl, mts (List.mem_of_getElem? (i := 40) rfl) rfl⟩
theorem mv_X1_asSpare : MV yX1_asSpare := ⟨mt4 221 rfl rfl, mts (List.mem_of_getElem? (i := 37) rfl) rfl⟩
theorem mv_X1_asThing : MV yX1_asThing := ⟨mt4 211 rfl rfl, mts (List.mem_of_getElem? (i := 35) rfl) rfl⟩
theorem mv_X1_ask : MV yX1_ask := ⟨mt4 206 rfl rfl, mt4 207 rfl rfl⟩
theorem mv_X1_asked : MV yX1_asked := ⟨mt5 30 rfl rfl, mt5 31 rfl rfl⟩
theorem mv_X1_isKind : MV yX1_isKind := ⟨mt4 201 rfl rfl, mt4 202 rfl rfl⟩
theorem mv_X2_copy : MV yX2_copy := ⟨mt5 9 rfl rfl, mt5 10 rfl rfl⟩
theorem mv_X2_date : MV yX2_date := ⟨mt3 197 rfl rfl, mt3 198 rfl rfl⟩
theorem mv_X2_forget : MV yX2_forget := ⟨mt3 70 rfl rfl, mt3 71 rfl rfl⟩
theorem mv_X2_fresh : MV yX2_fresh := ⟨mt3 205 rfl rfl, mt3 206 rfl rfl⟩
theorem mv_X2_how : MV yX2_how := ⟨mt3 83 rfl rfl, mt3 84 rfl rfl⟩
theorem mv_X2_isKept : MV yX2_isKept := ⟨mt5 17 rfl rfl, mt5 18 rfl rfl⟩
theorem mv_X2_isOver : MV yX2_isOver := ⟨mt3 153 rfl rfl, mt3 154 rfl rfl⟩
theorem mv_X2_mayWear : MV yX2_mayWear := ⟨mt3 149 rfl rfl, mt3 150 rfl rfl⟩
theorem mv_X2_set : MV yX2_set := ⟨mt3 127 rfl rfl, mt3 128 rfl rfl⟩
theorem mv_X2_start : MV yX2_start := ⟨mt3 66 rfl rfl, mt3 67 rfl rfl⟩
theorem mv_X2_wear : MV yX2_wear := ⟨mt3 181 rfl rfl, mt3 182 rfl rfl⟩
theorem mv_X3_add : MV yX3_add := ⟨mt4 168 rfl rfl, mt4 169 rfl rfl⟩
theorem mv_X3_lowered : MV yX3_lowered := ⟨mt4 185 rfl rfl, mts (List.mem_of_getElem? (i := 34) rfl) rfl⟩
theorem mv_X3_onAt : MV yX3_onAt := ⟨mt4 193 rfl rfl, mt4 194 rfl rfl⟩
theorem mv_X3_size : MV yX3_size := ⟨mt4 172 rfl rfl, mt4 173 rfl rfl⟩
theorem mv_X3_wasteLower : MV yX3_wasteLower := ⟨mt4 188 rfl rfl, mt4 189 rfl rfl⟩
theorem mv_X3_wasteUpper : MV yX3_wasteUpper := ⟨mt4 180 rfl rfl, mt4 181 rfl rfl⟩
theorem mv_X4_arrange : MV yX4_arrange := ⟨mt4 102 rfl rfl, mt4 103 rfl rfl⟩
theorem mv_X4_lay : MV yX4_lay := ⟨mt4 111 rfl rfl, mts (List.mem_of_getElem? (i := 28) rfl) rfl⟩
theorem mv_X4_layerOf : MV yX4_layerOf := ⟨mt4 124 rfl rfl, mt4 125 rfl rfl⟩
theorem mv_X4_trouble : MV yX4_trouble := ⟨mt4 120 rfl rfl, mt4 121 rfl rfl⟩
theorem mv_X4_troubleOf : MV yX4_troubleOf := ⟨mt4 117 rfl rfl, mts (List.mem_of_getElem? (i := 29) rfl) rfl⟩
theorem mv_X5_bottomOn : MV yX5_bottomOn := ⟨mt4 16 rfl rfl, mt4 17 rfl rfl⟩
theorem mv_X5_find : MV yX5_find := ⟨mt3 216 rfl rfl, mt3 217 rfl rfl⟩
theorem mv_X5_firstDayOf : MV yX5_firstDayOf := ⟨mt4 69 rfl rfl, mt4 70 rfl rfl⟩
theorem mv_X5_isDay : MV yX5_isDay := ⟨mt3 238 rfl rfl, mts (List.mem_of_getElem? (i := 25) rfl) rfl⟩
theorem mv_X5_livesOn : MV yX5_livesOn := ⟨mt3 234 rfl rfl, mts (List.mem_of_getElem? (i := 24) rfl) rfl⟩
theorem mv_X5_livesOnWith : MV yX5_livesOnWith := ⟨mt4 2 rfl rfl, mts (List.mem_of_getElem? (i := 26) rfl) rfl⟩
theorem mv_X5_mark : MV yX5_mark := ⟨mt4 160 rfl rfl, mts (List.mem_of_getElem? (i := 33) rfl) rfl⟩
theorem mv_X5_neverOn : MV yX5_neverOn := ⟨mt4 63 rfl rfl, mt4 64 rfl rfl⟩
theorem mv_X5_prepare : MV yX5_prepare := ⟨mt3 221 rfl rfl, mts (List.mem_of_getElem? (i := 23) rfl) rfl⟩
theorem mv_X5_reachFrom : MV yX5_reachFrom := ⟨mt4 156 rfl rfl, mts (List.mem_of_getElem? (i := 32) rfl) rfl⟩
theorem mv_X5_reachNext : MV yX5_reachNext := ⟨mt4 152 rfl rfl, mts (List.mem_of_getElem? (i := 31) rfl) rfl⟩
theorem mv_X5_times : MV yX5_times := ⟨mt4 147 rfl rfl, mt4 148 rfl rfl⟩
theorem mv_X5_topOn : MV yX5_topOn := ⟨mt4 12 rfl rfl, mt4 13 rfl rfl⟩
theorem mv_X5_washOn : MV yX5_washOn := ⟨mt4 20 rfl rfl, mt4 21 rfl rfl⟩
theorem mv_X6_addToken : MV yX6_addToken := ⟨mt2 181 rfl rfl, mts (List.mem_of_getElem? (i := 6) rfl) rfl⟩
theorem mv_X6_closeDay : MV yX6_closeDay := ⟨mt3 43 rfl rfl, mts (List.mem_of_getElem? (i := 20) rfl) rfl⟩
theorem mv_X6_closeThing : MV yX6_closeThing := ⟨mt2 231 rfl rfl, mts (List.mem_of_getElem? (i := 15) rfl) rfl⟩
theorem mv_X6_codeOf : MV yX6_codeOf := ⟨mt2 106 rfl rfl, mts (List.mem_of_getElem? (i := 2) rfl) rfl⟩
theorem mv_X6_codeOfNext : MV yX6_codeOfNext := ⟨mt2 194 rfl rfl, mts (List.mem_of_getElem? (i := 8) rfl) rfl⟩
theorem mv_X6_endOf : MV yX6_endOf := ⟨mt2 89 rfl rfl, mts (List.mem_of_getElem? (i := 1) rfl) rfl⟩
theorem mv_X6_isNext : MV yX6_isNext := ⟨mt2 190 rfl rfl, mts (List.mem_of_getElem? (i := 7) rfl) rfl⟩
theorem mv_X6_isWord : MV yX6_isWord := ⟨mt2 122 rfl rfl, mts (List.mem_of_getElem? (i := 5) rfl) rfl⟩
theorem mv_X6_numberCode : MV yX6_numberCode := ⟨mt2 110 rfl rfl, mts (List.mem_of_getElem? (i := 3) rfl) rfl⟩
theorem mv_X6_read : MV yX6_read := ⟨mt2 79 rfl rfl, mt2 80 rfl rfl⟩
theorem mv_X6_readApart : MV yX6_readApart := ⟨mt2 239 rfl rfl, mts (List.mem_of_getElem? (i := 16) rfl) rfl⟩
theorem mv_X6_readClothes : MV yX6_readClothes := ⟨mt2 223 rfl rfl, mts (List.mem_of_getElem? (i := 13) rfl) rfl⟩
theorem mv_X6_readDay : MV yX6_readDay := ⟨mt3 15 rfl rfl, mts (List.mem_of_getElem? (i := 17) rfl) rfl⟩
theorem mv_X6_readFact : MV yX6_readFact := ⟨mt2 215 rfl rfl, mts (List.mem_of_getElem? (i := 11) rfl) rfl⟩
theorem mv_X6_readItem : MV yX6_readItem := ⟨mt2 198 rfl rfl, mts (List.mem_of_getElem? (i := 9) rfl) rfl⟩
theorem mv_X6_readRain : MV yX6_readRain := ⟨mt3 32 rfl rfl, mts (List.mem_of_getElem? (i := 19) rfl) rfl⟩
theorem mv_X6_readThing : MV yX6_readThing := ⟨mt2 202 rfl rfl, mts (List.mem_of_getElem? (i := 10) rfl) rfl⟩
theorem mv_X6_readWant : MV yX6_readWant := ⟨mt3 23 rfl rfl, mts (List.mem_of_getElem? (i := 18) rfl) rfl⟩
theorem mv_X6_split : MV yX6_split := ⟨mt2 84 rfl rfl, mts (List.mem_of_getElem? (i := 0) rfl) rfl⟩
theorem mv_X6_startOfNext : MV yX6_startOfNext := ⟨mt3 52 rfl rfl, mts (List.mem_of_getElem? (i := 21) rfl) rfl⟩
theorem mv_X6_take : MV yX6_take := ⟨mt2 227 rfl rfl, mts (List.mem_of_getElem? (i := 14) rfl) rfl⟩
theorem mv_X6_takeNumber : MV yX6_takeNumber := ⟨mt2 219 rfl rfl, mts (List.mem_of_getElem? (i := 12) rfl) rfl⟩
theorem mv_X6_wordCode : MV yX6_wordCode := ⟨mt2 117 rfl rfl, mts (List.mem_of_getElem? (i := 4) rfl) rfl⟩
theorem mv_X7_add : MV yX7_add := ⟨mt2 59 rfl rfl, mt2 60 rfl rfl⟩
theorem mv_X7_at : MV yX7_at := ⟨mt2 92 rfl rfl, mt2 93 rfl rfl⟩
theorem mv_X7_empty : MV yX7_empty := ⟨mt2 71 rfl rfl, mt2 72 rfl rfl⟩
theorem mv_X7_hasRoom : MV yX7_hasRoom := ⟨mt2 55 rfl rfl, mt2 56 rfl rfl⟩
theorem mv_X7_length : MV yX7_length := ⟨mt2 63 rfl rfl, mt2 64 rfl rfl⟩
theorem mv_X8_allThings : MV yX8_allThings := ⟨mt3 62 rfl rfl, mt3 63 rfl rfl⟩
theorem mv_X8_bottoms : MV yX8_bottoms := ⟨mt3 142 rfl rfl, mt3 143 rfl rfl⟩
theorem mv_X8_closeDay : MV yX8_closeDay := ⟨mt3 46 rfl rfl, mt3 47 rfl rfl⟩
theorem mv_X8_closeThing : MV yX8_closeThing := ⟨mt2 234 rfl rfl, mt2 235 rfl rfl⟩
theorem mv_X8_coats : MV yX8_coats := ⟨mt3 185 rfl rfl, mt3 186 rfl rfl⟩
theorem mv_X8_copy : MV yX8_copy := ⟨mt3 55 rfl rfl, mt3 56 rfl rfl⟩
theorem mv_X8_days : MV yX8_days := ⟨mt3 157 rfl rfl, mt3 158 rfl rfl⟩
theorem mv_X8_empty : MV yX8_empty := ⟨mt2 184 rfl rfl, mt2 185 rfl rfl⟩
theorem mv_X8_fact : MV yX8_fact := ⟨mt3 90 rfl rfl, mt3 91 rfl rfl⟩
theorem mv_X8_hasDay : MV yX8_hasDay := ⟨mt3 106 rfl rfl, mt3 107 rfl rfl⟩
theorem mv_X8_hasRoomForDay : MV yX8_hasRoomForDay := ⟨mt3 18 rfl rfl, mt3 19 rfl rfl⟩
theorem mv_X8_hasRoomForThing : MV yX8_hasRoomForThing := ⟨mt2 205 rfl rfl, mt2 206 rfl rfl⟩
theorem mv_X8_hasThing : MV yX8_hasThing := ⟨mt3 10 rfl rfl, mt3 11 rfl rfl⟩
theorem mv_X8_isReady : MV yX8_isReady := ⟨mt3 163 rfl rfl, mt3 164 rfl rfl⟩
theorem mv_X8_morning : MV yX8_morning := ⟨mt3 189 rfl rfl, mt3 190 rfl rfl⟩
theorem mv_X8_setApart : MV yX8_setApart := ⟨mt3 6 rfl rfl, mt3 7 rfl rfl⟩
theorem mv_X8_setFact : MV yX8_setFact := ⟨mt2 209 rfl rfl, mt2 210 rfl rfl⟩
theorem mv_X8_setWant : MV yX8_setWant := ⟨mt3 26 rfl rfl, mt3 27 rfl rfl⟩
theorem mv_X8_suits : MV yX8_suits := ⟨mt3 175 rfl rfl, mt3 176 rfl rfl⟩
theorem mv_X8_sum : MV yX8_sum := ⟨mt4 48 rfl rfl, mt4 49 rfl rfl⟩
theorem mv_X8_things : MV yX8_things := ⟨mt3 2 rfl rfl, mt3 3 rfl rfl⟩
theorem mv_X8_together : MV yX8_together := ⟨mt3 98 rfl rfl, mt3 99 rfl rfl⟩
theorem mv_X8_tops : MV yX8_tops := ⟨mt3 135 rfl rfl, mt3 136 rfl rfl⟩
theorem mv_X8_unsureDays : MV yX8_unsureDays := ⟨mt3 38 rfl rfl, mt3 39 rfl rfl⟩
theorem mv_X8_want : MV yX8_want := ⟨mt3 110 rfl rfl, mt3 111 rfl rfl⟩
theorem mv_X8_warmestCoat : MV yX8_warmestCoat := ⟨mt3 169 rfl rfl, mt3 170 rfl rfl⟩
theorem mv_X8_worn : MV yX8_worn := ⟨mt3 194 rfl rfl, mts (List.mem_of_getElem? (i := 22) rfl) rfl⟩
theorem mv_X9_imageAt : MV yX9_imageAt := ⟨mt5 6 rfl rfl, mts (List.mem_of_getElem? (i := 41) rfl) rfl⟩
theorem nl_X0_61 : (RX0, 61, yX9_has, RX9) ∈ nestL := List.mem_of_getElem? (i := 6) rfl
theorem nl_X2_34 : (RX2, 34, yX9_stateOf, RX9) ∈ nestL := List.mem_of_getElem? (i := 5) rfl
theorem nl_X2_45 : (RX2, 45, yX9_has, RX9) ∈ nestL := List.mem_of_getElem? (i := 2) rfl
theorem nl_X4_60 : (RX4, 60, yX9_has, RX9) ∈ nestL := List.mem_of_getElem? (i := 8) rfl
theorem nl_X5_75 : (RX5, 75, yX9_has, RX9) ∈ nestL := List.mem_of_getElem? (i := 7) rfl
theorem nl_X6_183 : (RX6, 183, yX9_isUnsure, RX9) ∈ nestL := List.mem_of_getElem? (i := 0) rfl
theorem nl_X8_65 : (RX8, 65, yX9_isUnsure, RX9) ∈ nestL := List.mem_of_getElem? (i := 1) rfl
theorem nl_X8_75 : (RX8, 75, yX9_has, RX9) ∈ nestL := List.mem_of_getElem? (i := 4) rfl
theorem nl_X8_94 : (RX8, 94, yX9_stateOf, RX9) ∈ nestL := List.mem_of_getElem? (i := 3) rfl
