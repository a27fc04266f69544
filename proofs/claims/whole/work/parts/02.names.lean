-- part 02: names (printed by wip/gen/emit02.py out of the claim's own lists)
def lw_t : List Cond := lw_tbl.filter goodWord
theorem lw_tgood : GoodIn lw_t lw_t := goodIn_sub (fun w h => h) (List.all_eq_true.mpr (fun w h => (List.mem_filter.mp h).2))
theorem mt0 {w : Cond} (h : w ∈ lw_tbl) (hg : goodWord w = true) : w ∈ lw_t := List.mem_filter.mpr ⟨h, hg⟩
theorem mts {w : Cond} (h : w ∈ k2_sels lw_privs) (hg : goodWord w = true) : w ∈ lw_t := mt0 (List.mem_append.mpr (Or.inl h)) hg
theorem mt1 {w : Cond} (i : Nat) (hi : tables_1_1[i]? = some w) (hg : goodWord w = true) : w ∈ lw_t := have h := List.mem_of_getElem? hi; mt0 (List.mem_append.mpr (Or.inr (List.mem_append.mpr (Or.inl h)))) hg
theorem mt2 {w : Cond} (i : Nat) (hi : tables_1_2[i]? = some w) (hg : goodWord w = true) : w ∈ lw_t := have h := List.mem_of_getElem? hi; mt0 (List.mem_append.mpr (Or.inr (List.mem_append.mpr (Or.inr (List.mem_append.mpr (Or.inl h)))))) hg
theorem mt3 {w : Cond} (i : Nat) (hi : tables_1_3[i]? = some w) (hg : goodWord w = true) : w ∈ lw_t := have h := List.mem_of_getElem? hi; mt0 (List.mem_append.mpr (Or.inr (List.mem_append.mpr (Or.inr (List.mem_append.mpr (Or.inr (List.mem_append.mpr (Or.inl h)))))))) hg
theorem mt4 {w : Cond} (i : Nat) (hi : tables_1_4[i]? = some w) (hg : goodWord w = true) : w ∈ lw_t := have h := List.mem_of_getElem? hi; mt0 (List.mem_append.mpr (Or.inr (List.mem_append.mpr (Or.inr (List.mem_append.mpr (Or.inr (List.mem_append.mpr (Or.inr (List.mem_append.mpr (Or.inl h)))))))))) hg
theorem mt5 {w : Cond} (i : Nat) (hi : tables_1_5[i]? = some w) (hg : goodWord w = true) : w ∈ lw_t := have h := List.mem_of_getElem? hi; mt0 (List.mem_append.mpr (Or.inr (List.mem_append.mpr (Or.inr (List.mem_append.mpr (Or.inr (List.mem_append.mpr (Or.inr (List.mem_append.mpr (Or.inr (List.mem_append.mpr (Or.inl h)))))))))))) hg
theorem mt6 {w : Cond} (i : Nat) (hi : tables_1_6[i]? = some w) (hg : goodWord w = true) : w ∈ lw_t := have h := List.mem_of_getElem? hi; mt0 (List.mem_append.mpr (Or.inr (List.mem_append.mpr (Or.inr (List.mem_append.mpr (Or.inr (List.mem_append.mpr (Or.inr (List.mem_append.mpr (Or.inr (List.mem_append.mpr (Or.inr h)))))))))))) hg
def RX0 : String := "PackedCase$Chooser"
def TX0 : u_T := fun k => match k with
  | 0 => ("PackedCase$Chooser", "trip", "LPackedCase$Trip;", true)
  | 1 => ("PackedCase$Chooser", "planner", "LPackedCase$Planner;", true)
  | _ => ("PackedCase$Chooser", "known", "[I", true)
def tyX0 : Nat → FieldType := fun k => match k with
  | 0 => .object "PackedCase$Trip"
  | 1 => .object "PackedCase$Planner"
  | _ => .array .int
theorem nmX0 : ∀ a, a < 3 → ∀ b, b < 3 → a ≠ b → (TX0 a).2.1 ≠ (TX0 b).2.1 := by decide +kernel
theorem tyX0_ok : ∀ k, k < 3 → parseFieldDescriptor (TX0 k).2.2.1 = some (tyX0 k) := by decide +kernel
abbrev cX0_init : ByteArray := prog_2_method_1_code
def yX0_init : MethodName := ⟨RX0, "<init>", "(LPackedCase$Trip;LPackedCase$Planner;)V"⟩
abbrev cX0_forget : ByteArray := prog_2_method_2_code
def yX0_forget : MethodName := ⟨RX0, "forget", "()V"⟩
abbrev cX0_chances : ByteArray := prog_2_method_3_code
def yX0_chances : MethodName := ⟨RX0, "chances", "(I)I"⟩
abbrev cX0_chanceOf : ByteArray := prog_2_method_4_code
def yX0_chanceOf : MethodName := ⟨RX0, "chanceOf", "(I)I"⟩
abbrev cX0_smallest : ByteArray := prog_2_method_5_code
def yX0_smallest : MethodName := ⟨RX0, "smallest", "(II)I"⟩
abbrev cX0_spares : ByteArray := prog_2_method_6_code
def yX0_spares : MethodName := ⟨RX0, "spares", "(II)I"⟩
abbrev cX0_purchase : ByteArray := prog_2_method_7_code
def yX0_purchase : MethodName := ⟨RX0, "purchase", "(II)I"⟩
abbrev cX0_takenOff : ByteArray := prog_2_method_8_code
def yX0_takenOff : MethodName := ⟨RX0, "takenOff", "(III)I"⟩
abbrev cX0_largestMatch : ByteArray := prog_2_method_9_code
def yX0_largestMatch : MethodName := ⟨RX0, "largestMatch", "()I"⟩
abbrev cX0_allMatch : ByteArray := prog_2_method_10_code
def yX0_allMatch : MethodName := ⟨RX0, "allMatch", "(I)Z"⟩
def RX1 : String := "PackedCase$Kinds"
def TX1 : u_T := fun k => match k with
  | 0 => ("PackedCase$Kinds", "trip", "LPackedCase$Trip;", true)
  | _ => ("PackedCase$Kinds", "asked", "J", false)
def tyX1 : Nat → FieldType := fun k => match k with
  | 0 => .object "PackedCase$Trip"
  | _ => .long
theorem nmX1 : ∀ a, a < 2 → ∀ b, b < 2 → a ≠ b → (TX1 a).2.1 ≠ (TX1 b).2.1 := by decide +kernel
theorem tyX1_ok : ∀ k, k < 2 → parseFieldDescriptor (TX1 k).2.2.1 = some (tyX1 k) := by decide +kernel
abbrev cX1_init : ByteArray := prog_3_method_1_code
def yX1_init : MethodName := ⟨RX1, "<init>", "(LPackedCase$Trip;)V"⟩
abbrev cX1_isKind : ByteArray := prog_3_method_2_code
def yX1_isKind : MethodName := ⟨RX1, "isKind", "(I)Z"⟩
abbrev cX1_asked : ByteArray := prog_3_method_3_code
def yX1_asked : MethodName := ⟨RX1, "asked", "()J"⟩
abbrev cX1_ask : ByteArray := prog_3_method_4_code
def yX1_ask : MethodName := ⟨RX1, "ask", "(III)I"⟩
abbrev cX1_asThing : ByteArray := prog_3_method_5_code
def yX1_asThing : MethodName := ⟨RX1, "asThing", "(I)I"⟩
abbrev cX1_asOnce : ByteArray := prog_3_method_6_code
def yX1_asOnce : MethodName := ⟨RX1, "asOnce", "(I)I"⟩
abbrev cX1_asSpare : ByteArray := prog_3_method_7_code
def yX1_asSpare : MethodName := ⟨RX1, "asSpare", "(I)I"⟩
abbrev cX1_asDouble : ByteArray := prog_3_method_8_code
def yX1_asDouble : MethodName := ⟨RX1, "asDouble", "(I)I"⟩
abbrev cX1_asBought : ByteArray := prog_3_method_9_code
def yX1_asBought : MethodName := ⟨RX1, "asBought", "(I)I"⟩
abbrev cX1_asSingle : ByteArray := prog_3_method_10_code
def yX1_asSingle : MethodName := ⟨RX1, "asSingle", "(II)I"⟩
def RX2 : String := "PackedCase$Life"
def TX2 : u_T := fun k => match k with
  | 0 => ("PackedCase$Life", "date", "I", false)
  | 1 => ("PackedCase$Life", "how", "I", false)
  | 2 => ("PackedCase$Life", "set", "I", false)
  | _ => ("PackedCase$Life", "kept", "Z", false)
def tyX2 : Nat → FieldType := fun k => match k with
  | 0 => .int
  | 1 => .int
  | 2 => .int
  | _ => .boolean
theorem nmX2 : ∀ a, a < 4 → ∀ b, b < 4 → a ≠ b → (TX2 a).2.1 ≠ (TX2 b).2.1 := by decide +kernel
theorem tyX2_ok : ∀ k, k < 4 → parseFieldDescriptor (TX2 k).2.2.1 = some (tyX2 k) := by decide +kernel
abbrev cX2_init : ByteArray := prog_4_method_1_code
def yX2_init : MethodName := ⟨RX2, "<init>", "()V"⟩
abbrev cX2_date : ByteArray := prog_4_method_2_code
def yX2_date : MethodName := ⟨RX2, "date", "()I"⟩
abbrev cX2_how : ByteArray := prog_4_method_3_code
def yX2_how : MethodName := ⟨RX2, "how", "()I"⟩
abbrev cX2_set : ByteArray := prog_4_method_4_code
def yX2_set : MethodName := ⟨RX2, "set", "()I"⟩
abbrev cX2_isKept : ByteArray := prog_4_method_5_code
def yX2_isKept : MethodName := ⟨RX2, "isKept", "()Z"⟩
abbrev cX2_forget : ByteArray := prog_4_method_6_code
def yX2_forget : MethodName := ⟨RX2, "forget", "()V"⟩
abbrev cX2_start : ByteArray := prog_4_method_7_code
def yX2_start : MethodName := ⟨RX2, "start", "(I)V"⟩
abbrev cX2_copy : ByteArray := prog_4_method_8_code
def yX2_copy : MethodName := ⟨RX2, "copy", "(LPackedCase$Life;)V"⟩
abbrev cX2_isOver : ByteArray := prog_4_method_9_code
def yX2_isOver : MethodName := ⟨RX2, "isOver", "(LPackedCase$Trip;)Z"⟩
abbrev cX2_fresh : ByteArray := prog_4_method_10_code
def yX2_fresh : MethodName := ⟨RX2, "fresh", "(LPackedCase$Trip;)I"⟩
abbrev cX2_mayWear : ByteArray := prog_4_method_11_code
def yX2_mayWear : MethodName := ⟨RX2, "mayWear", "(LPackedCase$Trip;III)Z"⟩
abbrev cX2_wear : ByteArray := prog_4_method_12_code
def yX2_wear : MethodName := ⟨RX2, "wear", "(LPackedCase$Trip;IIII)V"⟩
def RX3 : String := "PackedCase$Lists"
def TX3 : u_T := fun k => match k with
  | 0 => ("PackedCase$Lists", "on", "[I", true)
  | 1 => ("PackedCase$Lists", "size", "I", false)
  | 2 => ("PackedCase$Lists", "allHad", "I", false)
  | _ => ("PackedCase$Lists", "allOn", "I", false)
def tyX3 : Nat → FieldType := fun k => match k with
  | 0 => .array .int
  | 1 => .int
  | 2 => .int
  | _ => .int
theorem nmX3 : ∀ a, a < 4 → ∀ b, b < 4 → a ≠ b → (TX3 a).2.1 ≠ (TX3 b).2.1 := by decide +kernel
theorem tyX3_ok : ∀ k, k < 4 → parseFieldDescriptor (TX3 k).2.2.1 = some (tyX3 k) := by decide +kernel
abbrev cX3_init : ByteArray := prog_5_method_1_code
def yX3_init : MethodName := ⟨RX3, "<init>", "()V"⟩
abbrev cX3_size : ByteArray := prog_5_method_2_code
def yX3_size : MethodName := ⟨RX3, "size", "()I"⟩
abbrev cX3_add : ByteArray := prog_5_method_3_code
def yX3_add : MethodName := ⟨RX3, "add", "(II)Z"⟩
abbrev cX3_onAt : ByteArray := prog_5_method_4_code
def yX3_onAt : MethodName := ⟨RX3, "onAt", "(I)I"⟩
abbrev cX3_wasteUpper : ByteArray := prog_5_method_5_code
def yX3_wasteUpper : MethodName := ⟨RX3, "wasteUpper", "()I"⟩
abbrev cX3_wasteLower : ByteArray := prog_5_method_6_code
def yX3_wasteLower : MethodName := ⟨RX3, "wasteLower", "()I"⟩
abbrev cX3_lowered : ByteArray := prog_5_method_7_code
def yX3_lowered : MethodName := ⟨RX3, "lowered", "(I)I"⟩
def RX4 : String := "PackedCase$Packer"
def TX4 : u_T := fun k => match k with
  | 0 => ("PackedCase$Packer", "trip", "LPackedCase$Trip;", true)
  | 1 => ("PackedCase$Packer", "planner", "LPackedCase$Planner;", true)
  | 2 => ("PackedCase$Packer", "firstDay", "[I", true)
  | 3 => ("PackedCase$Packer", "layer", "[I", true)
  | 4 => ("PackedCase$Packer", "bestLayer", "[I", true)
  | 5 => ("PackedCase$Packer", "room", "[I", true)
  | 6 => ("PackedCase$Packer", "set", "I", false)
  | 7 => ("PackedCase$Packer", "layers", "I", false)
  | _ => ("PackedCase$Packer", "leastTrouble", "I", false)
def tyX4 : Nat → FieldType := fun k => match k with
  | 0 => .object "PackedCase$Trip"
  | 1 => .object "PackedCase$Planner"
  | 2 => .array .int
  | 3 => .array .int
  | 4 => .array .int
  | 5 => .array .int
  | 6 => .int
  | 7 => .int
  | _ => .int
theorem nmX4 : ∀ a, a < 9 → ∀ b, b < 9 → a ≠ b → (TX4 a).2.1 ≠ (TX4 b).2.1 := by decide +kernel
theorem tyX4_ok : ∀ k, k < 9 → parseFieldDescriptor (TX4 k).2.2.1 = some (tyX4 k) := by decide +kernel
abbrev cX4_init : ByteArray := prog_6_method_1_code
def yX4_init : MethodName := ⟨RX4, "<init>", "(LPackedCase$Trip;LPackedCase$Planner;)V"⟩
abbrev cX4_arrange : ByteArray := prog_6_method_2_code
def yX4_arrange : MethodName := ⟨RX4, "arrange", "(III)Z"⟩
abbrev cX4_trouble : ByteArray := prog_6_method_3_code
def yX4_trouble : MethodName := ⟨RX4, "trouble", "()I"⟩
abbrev cX4_layerOf : ByteArray := prog_6_method_4_code
def yX4_layerOf : MethodName := ⟨RX4, "layerOf", "(I)I"⟩
abbrev cX4_lay : ByteArray := prog_6_method_5_code
def yX4_lay : MethodName := ⟨RX4, "lay", "(II)V"⟩
abbrev cX4_troubleOf : ByteArray := prog_6_method_6_code
def yX4_troubleOf : MethodName := ⟨RX4, "troubleOf", "(I)I"⟩
def RX5 : String := "PackedCase$Planner"
def TX5 : u_T := fun k => match k with
  | 0 => ("PackedCase$Planner", "trip", "LPackedCase$Trip;", true)
  | 1 => ("PackedCase$Planner", "pairs", "[I", true)
  | 2 => ("PackedCase$Planner", "pairsOn", "[I", true)
  | 3 => ("PackedCase$Planner", "picked", "[I", true)
  | 4 => ("PackedCase$Planner", "washed", "[I", true)
  | 5 => ("PackedCase$Planner", "failed", "[J", true)
  | 6 => ("PackedCase$Planner", "reached", "[J", true)
  | 7 => ("PackedCase$Planner", "nextReached", "[J", true)
  | _ => ("PackedCase$Planner", "soaking", "I", false)
def tyX5 : Nat → FieldType := fun k => match k with
  | 0 => .object "PackedCase$Trip"
  | 1 => .array .int
  | 2 => .array .int
  | 3 => .array .int
  | 4 => .array .int
  | 5 => .array .long
  | 6 => .array .long
  | 7 => .array .long
  | _ => .int
theorem nmX5 : ∀ a, a < 9 → ∀ b, b < 9 → a ≠ b → (TX5 a).2.1 ≠ (TX5 b).2.1 := by decide +kernel
theorem tyX5_ok : ∀ k, k < 9 → parseFieldDescriptor (TX5 k).2.2.1 = some (tyX5 k) := by decide +kernel
abbrev cX5_init : ByteArray := prog_7_method_1_code
def yX5_init : MethodName := ⟨RX5, "<init>", "(LPackedCase$Trip;)V"⟩
abbrev cX5_find : ByteArray := prog_7_method_2_code
def yX5_find : MethodName := ⟨RX5, "find", "(II)Z"⟩
abbrev cX5_topOn : ByteArray := prog_7_method_3_code
def yX5_topOn : MethodName := ⟨RX5, "topOn", "(I)I"⟩
abbrev cX5_bottomOn : ByteArray := prog_7_method_4_code
def yX5_bottomOn : MethodName := ⟨RX5, "bottomOn", "(I)I"⟩
abbrev cX5_washOn : ByteArray := prog_7_method_5_code
def yX5_washOn : MethodName := ⟨RX5, "washOn", "(I)I"⟩
abbrev cX5_firstDayOf : ByteArray := prog_7_method_6_code
def yX5_firstDayOf : MethodName := ⟨RX5, "firstDayOf", "(I)I"⟩
abbrev cX5_neverOn : ByteArray := prog_7_method_7_code
def yX5_neverOn : MethodName := ⟨RX5, "neverOn", "(I)I"⟩
abbrev cX5_times : ByteArray := prog_7_method_8_code
def yX5_times : MethodName := ⟨RX5, "times", "(I)I"⟩
abbrev cX5_prepare : ByteArray := prog_7_method_9_code
def yX5_prepare : MethodName := ⟨RX5, "prepare", "(II)V"⟩
abbrev cX5_isDay : ByteArray := prog_7_method_10_code
def yX5_isDay : MethodName := ⟨RX5, "isDay", "(I)Z"⟩
abbrev cX5_livesOn : ByteArray := prog_7_method_11_code
def yX5_livesOn : MethodName := ⟨RX5, "livesOn", "(II)Z"⟩
abbrev cX5_livesOnWith : ByteArray := prog_7_method_12_code
def yX5_livesOnWith : MethodName := ⟨RX5, "livesOnWith", "(III)Z"⟩
abbrev cX5_reachNext : ByteArray := prog_7_method_13_code
def yX5_reachNext : MethodName := ⟨RX5, "reachNext", "(I)Z"⟩
abbrev cX5_reachFrom : ByteArray := prog_7_method_14_code
def yX5_reachFrom : MethodName := ⟨RX5, "reachFrom", "(II)Z"⟩
abbrev cX5_mark : ByteArray := prog_7_method_15_code
def yX5_mark : MethodName := ⟨RX5, "mark", "(I)V"⟩
def RX6 : String := "PackedCase$Reader"
def TX6 : u_T := fun k => match k with
  | 0 => ("PackedCase$Reader", "text", "LPackedCase$Text;", true)
  | 1 => ("PackedCase$Reader", "trip", "LPackedCase$Trip;", true)
  | 2 => ("PackedCase$Reader", "codes", "[I", true)
  | 3 => ("PackedCase$Reader", "starts", "[I", true)
  | 4 => ("PackedCase$Reader", "tokens", "I", false)
  | 5 => ("PackedCase$Reader", "next", "I", false)
  | _ => ("PackedCase$Reader", "taken", "I", false)
def tyX6 : Nat → FieldType := fun k => match k with
  | 0 => .object "PackedCase$Text"
  | 1 => .object "PackedCase$Trip"
  | 2 => .array .int
  | 3 => .array .int
  | 4 => .int
  | 5 => .int
  | _ => .int
theorem nmX6 : ∀ a, a < 7 → ∀ b, b < 7 → a ≠ b → (TX6 a).2.1 ≠ (TX6 b).2.1 := by decide +kernel
theorem tyX6_ok : ∀ k, k < 7 → parseFieldDescriptor (TX6 k).2.2.1 = some (tyX6 k) := by decide +kernel
abbrev cX6_init : ByteArray := prog_8_method_1_code
def yX6_init : MethodName := ⟨RX6, "<init>", "(LPackedCase$Text;LPackedCase$Trip;)V"⟩
abbrev cX6_read : ByteArray := prog_8_method_2_code
def yX6_read : MethodName := ⟨RX6, "read", "()I"⟩
abbrev cX6_split : ByteArray := prog_8_method_3_code
def yX6_split : MethodName := ⟨RX6, "split", "()V"⟩
abbrev cX6_addToken : ByteArray := prog_8_method_4_code
def yX6_addToken : MethodName := ⟨RX6, "addToken", "(II)V"⟩
abbrev cX6_endOf : ByteArray := prog_8_method_5_code
def yX6_endOf : MethodName := ⟨RX6, "endOf", "(I)I"⟩
abbrev cX6_codeOf : ByteArray := prog_8_method_6_code
def yX6_codeOf : MethodName := ⟨RX6, "codeOf", "(II)I"⟩
abbrev cX6_numberCode : ByteArray := prog_8_method_7_code
def yX6_numberCode : MethodName := ⟨RX6, "numberCode", "(II)I"⟩
abbrev cX6_wordCode : ByteArray := prog_8_method_8_code
def yX6_wordCode : MethodName := ⟨RX6, "wordCode", "(II)I"⟩
abbrev cX6_isWord : ByteArray := prog_8_method_9_code
def yX6_isWord : MethodName := ⟨RX6, "isWord", "(Ljava/lang/String;II)Z"⟩
abbrev cX6_isDigit : ByteArray := prog_8_method_10_code
def yX6_isDigit : MethodName := ⟨RX6, "isDigit", "(I)Z"⟩
abbrev cX6_isLetter : ByteArray := prog_8_method_11_code
def yX6_isLetter : MethodName := ⟨RX6, "isLetter", "(I)Z"⟩
abbrev cX6_readItem : ByteArray := prog_8_method_12_code
def yX6_readItem : MethodName := ⟨RX6, "readItem", "()Z"⟩
abbrev cX6_closeThing : ByteArray := prog_8_method_13_code
def yX6_closeThing : MethodName := ⟨RX6, "closeThing", "()Z"⟩
abbrev cX6_closeDay : ByteArray := prog_8_method_14_code
def yX6_closeDay : MethodName := ⟨RX6, "closeDay", "()Z"⟩
abbrev cX6_readThing : ByteArray := prog_8_method_15_code
def yX6_readThing : MethodName := ⟨RX6, "readThing", "()Z"⟩
abbrev cX6_readClothes : ByteArray := prog_8_method_16_code
def yX6_readClothes : MethodName := ⟨RX6, "readClothes", "()Z"⟩
abbrev cX6_readFact : ByteArray := prog_8_method_17_code
def yX6_readFact : MethodName := ⟨RX6, "readFact", "(III)Z"⟩
abbrev cX6_readApart : ByteArray := prog_8_method_18_code
def yX6_readApart : MethodName := ⟨RX6, "readApart", "()Z"⟩
abbrev cX6_readDay : ByteArray := prog_8_method_19_code
def yX6_readDay : MethodName := ⟨RX6, "readDay", "()Z"⟩
abbrev cX6_readRain : ByteArray := prog_8_method_20_code
def yX6_readRain : MethodName := ⟨RX6, "readRain", "()Z"⟩
abbrev cX6_readWant : ByteArray := prog_8_method_21_code
def yX6_readWant : MethodName := ⟨RX6, "readWant", "(II)Z"⟩
abbrev cX6_take : ByteArray := prog_8_method_22_code
def yX6_take : MethodName := ⟨RX6, "take", "(I)Z"⟩
abbrev cX6_takeNumber : ByteArray := prog_8_method_23_code
def yX6_takeNumber : MethodName := ⟨RX6, "takeNumber", "(II)Z"⟩
abbrev cX6_isNext : ByteArray := prog_8_method_24_code
def yX6_isNext : MethodName := ⟨RX6, "isNext", "(I)Z"⟩
abbrev cX6_codeOfNext : ByteArray := prog_8_method_25_code
def yX6_codeOfNext : MethodName := ⟨RX6, "codeOfNext", "()I"⟩
abbrev cX6_startOfNext : ByteArray := prog_8_method_26_code
def yX6_startOfNext : MethodName := ⟨RX6, "startOfNext", "()I"⟩
def RX7 : String := "PackedCase$Text"
def TX7 : u_T := fun k => match k with
  | 0 => ("PackedCase$Text", "bytes", "[B", true)
  | _ => ("PackedCase$Text", "length", "I", false)
def tyX7 : Nat → FieldType := fun k => match k with
  | 0 => .array .byte
  | _ => .int
theorem nmX7 : ∀ a, a < 2 → ∀ b, b < 2 → a ≠ b → (TX7 a).2.1 ≠ (TX7 b).2.1 := by decide +kernel
theorem tyX7_ok : ∀ k, k < 2 → parseFieldDescriptor (TX7 k).2.2.1 = some (tyX7 k) := by decide +kernel
abbrev cX7_init : ByteArray := prog_9_method_1_code
def yX7_init : MethodName := ⟨RX7, "<init>", "()V"⟩
abbrev cX7_length : ByteArray := prog_9_method_2_code
def yX7_length : MethodName := ⟨RX7, "length", "()I"⟩
abbrev cX7_hasRoom : ByteArray := prog_9_method_3_code
def yX7_hasRoom : MethodName := ⟨RX7, "hasRoom", "(I)Z"⟩
abbrev cX7_add : ByteArray := prog_9_method_4_code
def yX7_add : MethodName := ⟨RX7, "add", "(I)V"⟩
abbrev cX7_empty : ByteArray := prog_9_method_5_code
def yX7_empty : MethodName := ⟨RX7, "empty", "()V"⟩
abbrev cX7_at : ByteArray := prog_9_method_6_code
def yX7_at : MethodName := ⟨RX7, "at", "(I)I"⟩
def RX8 : String := "PackedCase$Trip"
def TX8 : u_T := fun k => match k with
  | 0 => ("PackedCase$Trip", "facts", "[I", true)
  | 1 => ("PackedCase$Trip", "wants", "[I", true)
  | 2 => ("PackedCase$Trip", "apart", "[I", true)
  | 3 => ("PackedCase$Trip", "things", "I", false)
  | 4 => ("PackedCase$Trip", "days", "I", false)
  | 5 => ("PackedCase$Trip", "unsureDays", "I", false)
  | 6 => ("PackedCase$Trip", "tops", "I", false)
  | 7 => ("PackedCase$Trip", "bottoms", "I", false)
  | 8 => ("PackedCase$Trip", "coats", "I", false)
  | 9 => ("PackedCase$Trip", "lasting", "I", false)
  | _ => ("PackedCase$Trip", "lateLowBits", "I", false)
def tyX8 : Nat → FieldType := fun k => match k with
  | 0 => .array .int
  | 1 => .array .int
  | 2 => .array .int
  | 3 => .int
  | 4 => .int
  | 5 => .int
  | 6 => .int
  | 7 => .int
  | 8 => .int
  | 9 => .int
  | _ => .int
theorem nmX8 : ∀ a, a < 11 → ∀ b, b < 11 → a ≠ b → (TX8 a).2.1 ≠ (TX8 b).2.1 := by decide +kernel
theorem tyX8_ok : ∀ k, k < 11 → parseFieldDescriptor (TX8 k).2.2.1 = some (tyX8 k) := by decide +kernel
abbrev cX8_init : ByteArray := prog_10_method_1_code
def yX8_init : MethodName := ⟨RX8, "<init>", "()V"⟩
abbrev cX8_empty : ByteArray := prog_10_method_2_code
def yX8_empty : MethodName := ⟨RX8, "empty", "()V"⟩
abbrev cX8_copy : ByteArray := prog_10_method_3_code
def yX8_copy : MethodName := ⟨RX8, "copy", "(LPackedCase$Trip;)V"⟩
abbrev cX8_things : ByteArray := prog_10_method_4_code
def yX8_things : MethodName := ⟨RX8, "things", "()I"⟩
abbrev cX8_days : ByteArray := prog_10_method_5_code
def yX8_days : MethodName := ⟨RX8, "days", "()I"⟩
abbrev cX8_unsureDays : ByteArray := prog_10_method_6_code
def yX8_unsureDays : MethodName := ⟨RX8, "unsureDays", "()I"⟩
abbrev cX8_allThings : ByteArray := prog_10_method_7_code
def yX8_allThings : MethodName := ⟨RX8, "allThings", "()I"⟩
abbrev cX8_tops : ByteArray := prog_10_method_8_code
def yX8_tops : MethodName := ⟨RX8, "tops", "()I"⟩
abbrev cX8_bottoms : ByteArray := prog_10_method_9_code
def yX8_bottoms : MethodName := ⟨RX8, "bottoms", "()I"⟩
abbrev cX8_coats : ByteArray := prog_10_method_10_code
def yX8_coats : MethodName := ⟨RX8, "coats", "()I"⟩
abbrev cX8_hasThing : ByteArray := prog_10_method_11_code
def yX8_hasThing : MethodName := ⟨RX8, "hasThing", "(I)Z"⟩
abbrev cX8_hasDay : ByteArray := prog_10_method_12_code
def yX8_hasDay : MethodName := ⟨RX8, "hasDay", "(I)Z"⟩
abbrev cX8_hasRoomForThing : ByteArray := prog_10_method_13_code
def yX8_hasRoomForThing : MethodName := ⟨RX8, "hasRoomForThing", "()Z"⟩
abbrev cX8_hasRoomForDay : ByteArray := prog_10_method_14_code
def yX8_hasRoomForDay : MethodName := ⟨RX8, "hasRoomForDay", "()Z"⟩
abbrev cX8_setFact : ByteArray := prog_10_method_15_code
def yX8_setFact : MethodName := ⟨RX8, "setFact", "(II)V"⟩
abbrev cX8_closeThing : ByteArray := prog_10_method_16_code
def yX8_closeThing : MethodName := ⟨RX8, "closeThing", "()V"⟩
abbrev cX8_setWant : ByteArray := prog_10_method_17_code
def yX8_setWant : MethodName := ⟨RX8, "setWant", "(II)V"⟩
abbrev cX8_closeDay : ByteArray := prog_10_method_18_code
def yX8_closeDay : MethodName := ⟨RX8, "closeDay", "()V"⟩
abbrev cX8_setApart : ByteArray := prog_10_method_19_code
def yX8_setApart : MethodName := ⟨RX8, "setApart", "(II)V"⟩
abbrev cX8_fact : ByteArray := prog_10_method_20_code
def yX8_fact : MethodName := ⟨RX8, "fact", "(II)I"⟩
abbrev cX8_want : ByteArray := prog_10_method_21_code
def yX8_want : MethodName := ⟨RX8, "want", "(II)I"⟩
abbrev cX8_together : ByteArray := prog_10_method_22_code
def yX8_together : MethodName := ⟨RX8, "together", "(II)Z"⟩
abbrev cX8_sum : ByteArray := prog_10_method_23_code
def yX8_sum : MethodName := ⟨RX8, "sum", "(II)I"⟩
abbrev cX8_warmestCoat : ByteArray := prog_10_method_24_code
def yX8_warmestCoat : MethodName := ⟨RX8, "warmestCoat", "(I)I"⟩
abbrev cX8_suits : ByteArray := prog_10_method_25_code
def yX8_suits : MethodName := ⟨RX8, "suits", "(IIII)Z"⟩
abbrev cX8_isReady : ByteArray := prog_10_method_26_code
def yX8_isReady : MethodName := ⟨RX8, "isReady", "(II)Z"⟩
abbrev cX8_morning : ByteArray := prog_10_method_27_code
def yX8_morning : MethodName := ⟨RX8, "morning", "(IIIZZ)I"⟩
abbrev cX8_worn : ByteArray := prog_10_method_28_code
def yX8_worn : MethodName := ⟨RX8, "worn", "(IIZ)I"⟩
def RX9 : String := "PackedCase"
def TX9 : u_T := fun k => match k with
  | 0 => ("PackedCase", "text", "LPackedCase$Text;", true)
  | 1 => ("PackedCase", "trip", "LPackedCase$Trip;", true)
  | 2 => ("PackedCase", "draft", "LPackedCase$Trip;", true)
  | 3 => ("PackedCase", "reader", "LPackedCase$Reader;", true)
  | 4 => ("PackedCase", "life", "LPackedCase$Life;", true)
  | 5 => ("PackedCase", "firstImage", "LPackedCase$Life;", true)
  | 6 => ("PackedCase", "secondImage", "LPackedCase$Life;", true)
  | 7 => ("PackedCase", "planner", "LPackedCase$Planner;", true)
  | 8 => ("PackedCase", "chooser", "LPackedCase$Chooser;", true)
  | 9 => ("PackedCase", "packer", "LPackedCase$Packer;", true)
  | 10 => ("PackedCase", "lists", "LPackedCase$Lists;", true)
  | 11 => ("PackedCase", "kinds", "LPackedCase$Kinds;", true)
  | _ => ("PackedCase", "tunes", "[I", true)
def tyX9 : Nat → FieldType := fun k => match k with
  | 0 => .object "PackedCase$Text"
  | 1 => .object "PackedCase$Trip"
  | 2 => .object "PackedCase$Trip"
  | 3 => .object "PackedCase$Reader"
  | 4 => .object "PackedCase$Life"
  | 5 => .object "PackedCase$Life"
  | 6 => .object "PackedCase$Life"
  | 7 => .object "PackedCase$Planner"
  | 8 => .object "PackedCase$Chooser"
  | 9 => .object "PackedCase$Packer"
  | 10 => .object "PackedCase$Lists"
  | 11 => .object "PackedCase$Kinds"
  | _ => .array .int
theorem nmX9 : ∀ a, a < 13 → ∀ b, b < 13 → a ≠ b → (TX9 a).2.1 ≠ (TX9 b).2.1 := by decide +kernel
theorem tyX9_ok : ∀ k, k < 13 → parseFieldDescriptor (TX9 k).2.2.1 = some (tyX9 k) := by decide +kernel
abbrev cX9_init : ByteArray := prog_1_method_1_code
def yX9_init : MethodName := ⟨RX9, "<init>", "()V"⟩
abbrev cX9_type : ByteArray := prog_1_method_2_code
def yX9_type : MethodName := ⟨RX9, "type", "(JI)I"⟩
abbrev cX9_clear : ByteArray := prog_1_method_3_code
def yX9_clear : MethodName := ⟨RX9, "clear", "()I"⟩
abbrev cX9_journey : ByteArray := prog_1_method_4_code
def yX9_journey : MethodName := ⟨RX9, "journey", "()I"⟩
abbrev cX9_thing : ByteArray := prog_1_method_5_code
def yX9_thing : MethodName := ⟨RX9, "thing", "(II)I"⟩
abbrev cX9_goes : ByteArray := prog_1_method_6_code
def yX9_goes : MethodName := ⟨RX9, "goes", "(II)I"⟩
abbrev cX9_day : ByteArray := prog_1_method_7_code
def yX9_day : MethodName := ⟨RX9, "day", "(II)I"⟩
abbrev cX9_tune : ByteArray := prog_1_method_8_code
def yX9_tune : MethodName := ⟨RX9, "tune", "(II)I"⟩
abbrev cX9_packs : ByteArray := prog_1_method_9_code
def yX9_packs : MethodName := ⟨RX9, "packs", "(I)I"⟩
abbrev cX9_live : ByteArray := prog_1_method_10_code
def yX9_live : MethodName := ⟨RX9, "live", "(IIII)I"⟩
abbrev cX9_now : ByteArray := prog_1_method_11_code
def yX9_now : MethodName := ⟨RX9, "now", "(I)I"⟩
abbrev cX9_serves : ByteArray := prog_1_method_12_code
def yX9_serves : MethodName := ⟨RX9, "serves", "(II)I"⟩
abbrev cX9_plan : ByteArray := prog_1_method_13_code
def yX9_plan : MethodName := ⟨RX9, "plan", "(IIII)I"⟩
abbrev cX9_odds : ByteArray := prog_1_method_14_code
def yX9_odds : MethodName := ⟨RX9, "odds", "(I)I"⟩
abbrev cX9_least : ByteArray := prog_1_method_15_code
def yX9_least : MethodName := ⟨RX9, "least", "(II)I"⟩
abbrev cX9_needless : ByteArray := prog_1_method_16_code
def yX9_needless : MethodName := ⟨RX9, "needless", "(III)I"⟩
abbrev cX9_buy : ByteArray := prog_1_method_17_code
def yX9_buy : MethodName := ⟨RX9, "buy", "(III)I"⟩
abbrev cX9_desk : ByteArray := prog_1_method_18_code
def yX9_desk : MethodName := ⟨RX9, "desk", "(II)I"⟩
abbrev cX9_pack : ByteArray := prog_1_method_19_code
def yX9_pack : MethodName := ⟨RX9, "pack", "(III)I"⟩
abbrev cX9_allGo : ByteArray := prog_1_method_20_code
def yX9_allGo : MethodName := ⟨RX9, "allGo", "(I)I"⟩
abbrev cX9_again : ByteArray := prog_1_method_21_code
def yX9_again : MethodName := ⟨RX9, "again", "(I)I"⟩
abbrev cX9_list : ByteArray := prog_1_method_22_code
def yX9_list : MethodName := ⟨RX9, "list", "(II)I"⟩
abbrev cX9_span : ByteArray := prog_1_method_23_code
def yX9_span : MethodName := ⟨RX9, "span", "(I)I"⟩
abbrev cX9_use : ByteArray := prog_1_method_24_code
def yX9_use : MethodName := ⟨RX9, "use", "(II)I"⟩
abbrev cX9_keep : ByteArray := prog_1_method_25_code
def yX9_keep : MethodName := ⟨RX9, "keep", "(I)I"⟩
abbrev cX9_back : ByteArray := prog_1_method_26_code
def yX9_back : MethodName := ⟨RX9, "back", "(I)I"⟩
abbrev cX9_count : ByteArray := prog_1_method_27_code
def yX9_count : MethodName := ⟨RX9, "count", "(I)I"⟩
abbrev cX9_trace : ByteArray := prog_1_method_28_code
def yX9_trace : MethodName := ⟨RX9, "trace", "()J"⟩
abbrev cX9_imageAt : ByteArray := prog_1_method_29_code
def yX9_imageAt : MethodName := ⟨RX9, "imageAt", "(I)LPackedCase$Life;"⟩
abbrev cX9_isBit : ByteArray := prog_1_method_30_code
def yX9_isBit : MethodName := ⟨RX9, "isBit", "(I)Z"⟩
abbrev cX9_isUnsure : ByteArray := prog_1_method_31_code
def yX9_isUnsure : MethodName := ⟨RX9, "isUnsure", "(I)Z"⟩
abbrev cX9_has : ByteArray := prog_1_method_32_code
def yX9_has : MethodName := ⟨RX9, "has", "(II)Z"⟩
abbrev cX9_stateOf : ByteArray := prog_1_method_33_code
def yX9_stateOf : MethodName := ⟨RX9, "stateOf", "(II)I"⟩
def RX10 : String := "PackedCaseModel"
def TX10 : u_T := fun k => match k with
  | 0 => ("PackedCaseModel", "trace", "J", false)
  | 1 => ("PackedCaseModel", "text", "[B", true)
  | 2 => ("PackedCaseModel", "typed", "I", false)
  | 3 => ("PackedCaseModel", "things", "[I", true)
  | 4 => ("PackedCaseModel", "thing", "[I", true)
  | 5 => ("PackedCaseModel", "apart", "[I", true)
  | 6 => ("PackedCaseModel", "days", "[I", true)
  | 7 => ("PackedCaseModel", "day", "[I", true)
  | 8 => ("PackedCaseModel", "tune", "[I", true)
  | 9 => ("PackedCaseModel", "at", "I", false)
  | 10 => ("PackedCaseModel", "start", "I", false)
  | 11 => ("PackedCaseModel", "sort", "I", false)
  | 12 => ("PackedCaseModel", "value", "I", false)
  | 13 => ("PackedCaseModel", "fault", "I", false)
  | 14 => ("PackedCaseModel", "rains", "I", false)
  | 15 => ("PackedCaseModel", "dayNow", "[I", true)
  | 16 => ("PackedCaseModel", "stateNow", "[I", true)
  | 17 => ("PackedCaseModel", "setNow", "[I", true)
  | 18 => ("PackedCaseModel", "isKept", "[Z", true)
  | 19 => ("PackedCaseModel", "list", "[I", true)
  | 20 => ("PackedCaseModel", "nextList", "[I", true)
  | 21 => ("PackedCaseModel", "stamp", "[I", true)
  | 22 => ("PackedCaseModel", "size", "I", false)
  | 23 => ("PackedCaseModel", "stamps", "I", false)
  | 24 => ("PackedCaseModel", "pairs", "[I", true)
  | 25 => ("PackedCaseModel", "planTop", "[I", true)
  | 26 => ("PackedCaseModel", "planBottom", "[I", true)
  | 27 => ("PackedCaseModel", "planWash", "[I", true)
  | 28 => ("PackedCaseModel", "layer", "[I", true)
  | 29 => ("PackedCaseModel", "sizes", "[I", true)
  | 30 => ("PackedCaseModel", "lists", "I", false)
  | 31 => ("PackedCaseModel", "hads", "[I", true)
  | _ => ("PackedCaseModel", "ons", "[I", true)
def tyX10 : Nat → FieldType := fun k => match k with
  | 0 => .long
  | 1 => .array .byte
  | 2 => .int
  | 3 => .array .int
  | 4 => .array .int
  | 5 => .array .int
  | 6 => .array .int
  | 7 => .array .int
  | 8 => .array .int
  | 9 => .int
  | 10 => .int
  | 11 => .int
  | 12 => .int
  | 13 => .int
  | 14 => .int
  | 15 => .array .int
  | 16 => .array .int
  | 17 => .array .int
  | 18 => .array .boolean
  | 19 => .array .int
  | 20 => .array .int
  | 21 => .array .int
  | 22 => .int
  | 23 => .int
  | 24 => .array .int
  | 25 => .array .int
  | 26 => .array .int
  | 27 => .array .int
  | 28 => .array .int
  | 29 => .array .int
  | 30 => .int
  | 31 => .array .int
  | _ => .array .int
theorem nmX10 : ∀ a, a < 33 → ∀ b, b < 33 → a ≠ b → (TX10 a).2.1 ≠ (TX10 b).2.1 := by decide +kernel
theorem tyX10_ok : ∀ k, k < 33 → parseFieldDescriptor (TX10 k).2.2.1 = some (tyX10 k) := by decide +kernel
abbrev cX10_init : ByteArray := prog_12_method_1_code
def yX10_init : MethodName := ⟨RX10, "<init>", "()V"⟩
abbrev cX10_in : ByteArray := prog_12_method_3_code
def yX10_in : MethodName := ⟨RX10, "in", "(III)Z"⟩
abbrev cX10_type : ByteArray := prog_12_method_4_code
def yX10_type : MethodName := ⟨RX10, "type", "(JI)I"⟩
abbrev cX10_clear : ByteArray := prog_12_method_5_code
def yX10_clear : MethodName := ⟨RX10, "clear", "()I"⟩
abbrev cX10_here : ByteArray := prog_12_method_6_code
def yX10_here : MethodName := ⟨RX10, "here", "()I"⟩
abbrev cX10_meaning : ByteArray := prog_12_method_7_code
def yX10_meaning : MethodName := ⟨RX10, "meaning", "(I)I"⟩
abbrev cX10_next : ByteArray := prog_12_method_8_code
def yX10_next : MethodName := ⟨RX10, "next", "()V"⟩
abbrev cX10_due : ByteArray := prog_12_method_9_code
def yX10_due : MethodName := ⟨RX10, "due", "(Z)I"⟩
abbrev cX10_number : ByteArray := prog_12_method_10_code
def yX10_number : MethodName := ⟨RX10, "number", "(II)I"⟩
abbrev cX10_optional : ByteArray := prog_12_method_11_code
def yX10_optional : MethodName := ⟨RX10, "optional", "(I)Z"⟩
abbrev cX10_readThing : ByteArray := prog_12_method_12_code
def yX10_readThing : MethodName := ⟨RX10, "readThing", "(I)V"⟩
abbrev cX10_readDay : ByteArray := prog_12_method_13_code
def yX10_readDay : MethodName := ⟨RX10, "readDay", "()V"⟩
abbrev cX10_item : ByteArray := prog_12_method_14_code
def yX10_item : MethodName := ⟨RX10, "item", "(I)V"⟩
abbrev cX10_journey : ByteArray := prog_12_method_15_code
def yX10_journey : MethodName := ⟨RX10, "journey", "()I"⟩
abbrev cX10_isThing : ByteArray := prog_12_method_16_code
def yX10_isThing : MethodName := ⟨RX10, "isThing", "(I)Z"⟩
abbrev cX10_allThings : ByteArray := prog_12_method_17_code
def yX10_allThings : MethodName := ⟨RX10, "allThings", "()I"⟩
abbrev cX10_of : ByteArray := prog_12_method_18_code
def yX10_of : MethodName := ⟨RX10, "of", "(II)I"⟩
abbrev cX10_howIs : ByteArray := prog_12_method_19_code
def yX10_howIs : MethodName := ⟨RX10, "howIs", "(II)I"⟩
abbrev cX10_thing : ByteArray := prog_12_method_20_code
def yX10_thing : MethodName := ⟨RX10, "thing", "(II)I"⟩
abbrev cX10_isGoing : ByteArray := prog_12_method_21_code
def yX10_isGoing : MethodName := ⟨RX10, "isGoing", "(II)Z"⟩
abbrev cX10_goes : ByteArray := prog_12_method_22_code
def yX10_goes : MethodName := ⟨RX10, "goes", "(II)I"⟩
abbrev cX10_day : ByteArray := prog_12_method_23_code
def yX10_day : MethodName := ⟨RX10, "day", "(II)I"⟩
abbrev cX10_tune : ByteArray := prog_12_method_24_code
def yX10_tune : MethodName := ⟨RX10, "tune", "(II)I"⟩
abbrev cX10_isOf : ByteArray := prog_12_method_25_code
def yX10_isOf : MethodName := ⟨RX10, "isOf", "(II)Z"⟩
abbrev cX10_warmestCoat : ByteArray := prog_12_method_26_code
def yX10_warmestCoat : MethodName := ⟨RX10, "warmestCoat", "(I)I"⟩
abbrev cX10_hasCoat : ByteArray := prog_12_method_27_code
def yX10_hasCoat : MethodName := ⟨RX10, "hasCoat", "(I)Z"⟩
abbrev cX10_mayWear : ByteArray := prog_12_method_28_code
def yX10_mayWear : MethodName := ⟨RX10, "mayWear", "(IIII)Z"⟩
abbrev cX10_isWearable : ByteArray := prog_12_method_29_code
def yX10_isWearable : MethodName := ⟨RX10, "isWearable", "(II)Z"⟩
abbrev cX10_worn : ByteArray := prog_12_method_30_code
def yX10_worn : MethodName := ⟨RX10, "worn", "(IIZ)I"⟩
abbrev cX10_behind : ByteArray := prog_12_method_31_code
def yX10_behind : MethodName := ⟨RX10, "behind", "(IIIIIZ)I"⟩
abbrev cX10_isRain : ByteArray := prog_12_method_32_code
def yX10_isRain : MethodName := ⟨RX10, "isRain", "(II)Z"⟩
abbrev cX10_begin : ByteArray := prog_12_method_33_code
def yX10_begin : MethodName := ⟨RX10, "begin", "(I)V"⟩
abbrev cX10_goDay : ByteArray := prog_12_method_34_code
def yX10_goDay : MethodName := ⟨RX10, "goDay", "(III)V"⟩
abbrev cX10_servesFrom : ByteArray := prog_12_method_35_code
def yX10_servesFrom : MethodName := ⟨RX10, "servesFrom", "(IIII)Z"⟩
abbrev cX10_isServing : ByteArray := prog_12_method_36_code
def yX10_isServing : MethodName := ⟨RX10, "isServing", "(II)Z"⟩
abbrev cX10_packs : ByteArray := prog_12_method_37_code
def yX10_packs : MethodName := ⟨RX10, "packs", "(I)I"⟩
abbrev cX10_live : ByteArray := prog_12_method_38_code
def yX10_live : MethodName := ⟨RX10, "live", "(IIII)I"⟩
abbrev cX10_now : ByteArray := prog_12_method_39_code
def yX10_now : MethodName := ⟨RX10, "now", "(I)I"⟩
abbrev cX10_serves : ByteArray := prog_12_method_40_code
def yX10_serves : MethodName := ⟨RX10, "serves", "(II)I"⟩
abbrev cX10_findPlan : ByteArray := prog_12_method_41_code
def yX10_findPlan : MethodName := ⟨RX10, "findPlan", "(II)Z"⟩
abbrev cX10_plan : ByteArray := prog_12_method_42_code
def yX10_plan : MethodName := ⟨RX10, "plan", "(IIII)I"⟩
abbrev cX10_oddsOf : ByteArray := prog_12_method_43_code
def yX10_oddsOf : MethodName := ⟨RX10, "oddsOf", "(I)I"⟩
abbrev cX10_odds : ByteArray := prog_12_method_44_code
def yX10_odds : MethodName := ⟨RX10, "odds", "(I)I"⟩
abbrev cX10_sumOf : ByteArray := prog_12_method_45_code
def yX10_sumOf : MethodName := ⟨RX10, "sumOf", "(II)I"⟩
abbrev cX10_least : ByteArray := prog_12_method_46_code
def yX10_least : MethodName := ⟨RX10, "least", "(II)I"⟩
abbrev cX10_needless : ByteArray := prog_12_method_47_code
def yX10_needless : MethodName := ⟨RX10, "needless", "(III)I"⟩
abbrev cX10_firstDay : ByteArray := prog_12_method_48_code
def yX10_firstDay : MethodName := ⟨RX10, "firstDay", "(I)I"⟩
abbrev cX10_buy : ByteArray := prog_12_method_49_code
def yX10_buy : MethodName := ⟨RX10, "buy", "(III)I"⟩
abbrev cX10_bitsIn : ByteArray := prog_12_method_50_code
def yX10_bitsIn : MethodName := ⟨RX10, "bitsIn", "(I)I"⟩
abbrev cX10_desk : ByteArray := prog_12_method_51_code
def yX10_desk : MethodName := ⟨RX10, "desk", "(II)I"⟩
abbrev cX10_lay : ByteArray := prog_12_method_52_code
def yX10_lay : MethodName := ⟨RX10, "lay", "(II)Z"⟩
abbrev cX10_troubles : ByteArray := prog_12_method_53_code
def yX10_troubles : MethodName := ⟨RX10, "troubles", "(I)I"⟩
abbrev cX10_pack : ByteArray := prog_12_method_54_code
def yX10_pack : MethodName := ⟨RX10, "pack", "(III)I"⟩
abbrev cX10_allGo : ByteArray := prog_12_method_55_code
def yX10_allGo : MethodName := ⟨RX10, "allGo", "(I)I"⟩
abbrev cX10_again : ByteArray := prog_12_method_56_code
def yX10_again : MethodName := ⟨RX10, "again", "(I)I"⟩
abbrev cX10_list : ByteArray := prog_12_method_57_code
def yX10_list : MethodName := ⟨RX10, "list", "(II)I"⟩
abbrev cX10_common : ByteArray := prog_12_method_58_code
def yX10_common : MethodName := ⟨RX10, "common", "(II)I"⟩
abbrev cX10_upTo : ByteArray := prog_12_method_59_code
def yX10_upTo : MethodName := ⟨RX10, "upTo", "(I)I"⟩
abbrev cX10_span : ByteArray := prog_12_method_60_code
def yX10_span : MethodName := ⟨RX10, "span", "(I)I"⟩
abbrev cX10_use : ByteArray := prog_12_method_61_code
def yX10_use : MethodName := ⟨RX10, "use", "(II)I"⟩
abbrev cX10_copy : ByteArray := prog_12_method_62_code
def yX10_copy : MethodName := ⟨RX10, "copy", "(II)V"⟩
abbrev cX10_keep : ByteArray := prog_12_method_63_code
def yX10_keep : MethodName := ⟨RX10, "keep", "(I)I"⟩
abbrev cX10_back : ByteArray := prog_12_method_64_code
def yX10_back : MethodName := ⟨RX10, "back", "(I)I"⟩
abbrev cX10_count : ByteArray := prog_12_method_65_code
def yX10_count : MethodName := ⟨RX10, "count", "(I)I"⟩
abbrev cX10_trace : ByteArray := prog_12_method_66_code
def yX10_trace : MethodName := ⟨RX10, "trace", "()J"⟩
def RJ6 : String := "java/lang/Integer"
def TJ6 : u_T := fun k => match k with
  | _ => ("", "", "", false)
def tyJ6 : Nat → FieldType := fun k => match k with
  | _ => .int
theorem nmJ6 : ∀ a, a < 0 → ∀ b, b < 0 → a ≠ b → (TJ6 a).2.1 ≠ (TJ6 b).2.1 := by decide +kernel
theorem tyJ6_ok : ∀ k, k < 0 → parseFieldDescriptor (TJ6 k).2.2.1 = some (tyJ6 k) := by decide +kernel
abbrev cJ6_bitCount_0f7a4 : ByteArray := prog_13_method_49_code
def yJ6_bitCount_0f7a4 : MethodName := ⟨RJ6, "bitCount", "(I)I"⟩
def RJ9 : String := "java/lang/Math"
def TJ9 : u_T := fun k => match k with
  | _ => ("", "", "", false)
def tyJ9 : Nat → FieldType := fun k => match k with
  | _ => .int
theorem nmJ9 : ∀ a, a < 0 → ∀ b, b < 0 → a ≠ b → (TJ9 a).2.1 ≠ (TJ9 b).2.1 := by decide +kernel
theorem tyJ9_ok : ∀ k, k < 0 → parseFieldDescriptor (TJ9 k).2.2.1 = some (tyJ9 k) := by decide +kernel
abbrev cJ9_max_7cf53 : ByteArray := prog_14_method_65_code
def yJ9_max_7cf53 : MethodName := ⟨RJ9, "max", "(II)I"⟩
abbrev cJ9_min_7cf53 : ByteArray := prog_14_method_69_code
def yJ9_min_7cf53 : MethodName := ⟨RJ9, "min", "(II)I"⟩
def RJ0 : String := "java/lang/String"
def TJ0 : u_T := fun k => match k with
  | _ => ("", "", "", false)
def tyJ0 : Nat → FieldType := fun k => match k with
  | _ => .int
theorem nmJ0 : ∀ a, a < 0 → ∀ b, b < 0 → a ≠ b → (TJ0 a).2.1 ≠ (TJ0 b).2.1 := by decide +kernel
theorem tyJ0_ok : ∀ k, k < 0 → parseFieldDescriptor (TJ0 k).2.2.1 = some (tyJ0 k) := by decide +kernel
abbrev cJ0_length_8abf5 : ByteArray := prog_15_method_54_code
def yJ0_length_8abf5 : MethodName := ⟨RJ0, "length", "()I"⟩
abbrev cJ0_charAt_5068e : ByteArray := prog_15_method_56_code
def yJ0_charAt_5068e : MethodName := ⟨RJ0, "charAt", "(I)C"⟩
abbrev cJ0_coder_7d493 : ByteArray := prog_15_method_152_code
def yJ0_coder_7d493 : MethodName := ⟨RJ0, "coder", "()B"⟩
abbrev cJ0_isLatin1_aae02 : ByteArray := prog_15_method_154_code
def yJ0_isLatin1_aae02 : MethodName := ⟨RJ0, "isLatin1", "()Z"⟩
abbrev cJ0_checkIndex_df160 : ByteArray := prog_15_method_155_code
def yJ0_checkIndex_df160 : MethodName := ⟨RJ0, "checkIndex", "(II)V"⟩
def RJ1 : String := "java/lang/StringLatin1"
def TJ1 : u_T := fun k => match k with
  | _ => ("", "", "", false)
def tyJ1 : Nat → FieldType := fun k => match k with
  | _ => .int
theorem nmJ1 : ∀ a, a < 0 → ∀ b, b < 0 → a ≠ b → (TJ1 a).2.1 ≠ (TJ1 b).2.1 := by decide +kernel
theorem tyJ1_ok : ∀ k, k < 0 → parseFieldDescriptor (TJ1 k).2.2.1 = some (tyJ1 k) := by decide +kernel
abbrev cJ1_charAt_3b067 : ByteArray := prog_16_method_2_code
def yJ1_charAt_3b067 : MethodName := ⟨RJ1, "charAt", "([BI)C"⟩
def RJ2 : String := "java/lang/StringUTF16"
def TJ2 : u_T := fun k => match k with
  | _ => ("", "", "", false)
def tyJ2 : Nat → FieldType := fun k => match k with
  | _ => .int
theorem nmJ2 : ∀ a, a < 0 → ∀ b, b < 0 → a ≠ b → (TJ2 a).2.1 ≠ (TJ2 b).2.1 := by decide +kernel
theorem tyJ2_ok : ∀ k, k < 0 → parseFieldDescriptor (TJ2 k).2.2.1 = some (tyJ2 k) := by decide +kernel
abbrev cJ2_getChar_3b067 : ByteArray := prog_17_method_5_code
def yJ2_getChar_3b067 : MethodName := ⟨RJ2, "getChar", "([BI)C"⟩
abbrev cJ2_length_9d52b : ByteArray := prog_17_method_6_code
def yJ2_length_9d52b : MethodName := ⟨RJ2, "length", "([B)I"⟩
abbrev cJ2_charAt_3b067 : ByteArray := prog_17_method_83_code
def yJ2_charAt_3b067 : MethodName := ⟨RJ2, "charAt", "([BI)C"⟩
abbrev cJ2_checkIndex_2214a : ByteArray := prog_17_method_91_code
def yJ2_checkIndex_2214a : MethodName := ⟨RJ2, "checkIndex", "(I[B)V"⟩
def RJ10 : String := "java/lang/System"
def TJ10 : u_T := fun k => match k with
  | _ => ("", "", "", false)
def tyJ10 : Nat → FieldType := fun k => match k with
  | _ => .int
theorem nmJ10 : ∀ a, a < 0 → ∀ b, b < 0 → a ≠ b → (TJ10 a).2.1 ≠ (TJ10 b).2.1 := by decide +kernel
theorem tyJ10_ok : ∀ k, k < 0 → parseFieldDescriptor (TJ10 k).2.2.1 = some (tyJ10 k) := by decide +kernel
def RJ7 : String := "java/util/Arrays"
def TJ7 : u_T := fun k => match k with
  | _ => ("", "", "", false)
def tyJ7 : Nat → FieldType := fun k => match k with
  | _ => .int
theorem nmJ7 : ∀ a, a < 0 → ∀ b, b < 0 → a ≠ b → (TJ7 a).2.1 ≠ (TJ7 b).2.1 := by decide +kernel
theorem tyJ7_ok : ∀ k, k < 0 → parseFieldDescriptor (TJ7 k).2.2.1 = some (tyJ7 k) := by decide +kernel
abbrev cJ7_fill_d0a16 : ByteArray := prog_19_method_101_code
def yJ7_fill_d0a16 : MethodName := ⟨RJ7, "fill", "([JJ)V"⟩
abbrev cJ7_fill_53178 : ByteArray := prog_19_method_103_code
def yJ7_fill_53178 : MethodName := ⟨RJ7, "fill", "([II)V"⟩
def RJ3 : String := "jdk/internal/util/Preconditions"
def TJ3 : u_T := fun k => match k with
  | _ => ("", "", "", false)
def tyJ3 : Nat → FieldType := fun k => match k with
  | _ => .int
theorem nmJ3 : ∀ a, a < 0 → ∀ b, b < 0 → a ≠ b → (TJ3 a).2.1 ≠ (TJ3 b).2.1 := by decide +kernel
theorem tyJ3_ok : ∀ k, k < 0 → parseFieldDescriptor (TJ3 k).2.2.1 = some (tyJ3 k) := by decide +kernel
abbrev cJ3_checkIndex_8e157 : ByteArray := prog_20_method_11_code
def yJ3_checkIndex_8e157 : MethodName := ⟨RJ3, "checkIndex", "(IILjava/util/function/BiFunction;)I"⟩
def RL : String := "PackedCaseLaw"
abbrev cL_law : ByteArray := code
def yL_law : MethodName := ⟨RL, "law", "([I)Z"⟩
abbrev cls : List vw_C := [(RX0, TX0, 3), (RX1, TX1, 2), (RX2, TX2, 4), (RX3, TX3, 4), (RX4, TX4, 9), (RX5, TX5, 9), (RX6, TX6, 7), (RX7, TX7, 2), (RX8, TX8, 11), (RX9, TX9, 13), (RX10, TX10, 33)]
/-- the cells of the heap that the two objects own: an array (kind, length) or an object (class, fields: 0 int, 1 long, j + 2 the cell j) -/
def shL : List ((Nat × Nat) ⊕ (Nat × List Nat)) := [.inr (9, [3, 5, 9, 13, 16, 17, 18, 19, 27, 29, 34, 36, 37]), .inr (7, [4, 0]), .inl (1, 500), .inr (8, [6, 7, 8, 0, 0, 0, 0, 0, 0, 0, 0]), .inl (0, 48), .inl (0, 32), .inl (0, 6), .inr (8, [10, 11, 12, 0, 0, 0, 0, 0, 0, 0, 0]), .inl (0, 48), .inl (0, 32), .inl (0, 6), .inr (6, [3, 9, 14, 15, 0, 0, 0]), .inl (0, 500), .inl (0, 500), .inr (2, [0, 0, 0, 0]), .inr (2, [0, 0, 0, 0]), .inr (2, [0, 0, 0, 0]), .inr (5, [5, 20, 21, 22, 23, 24, 25, 26, 0]), .inl (0, 72), .inl (0, 8), .inl (0, 8), .inl (0, 8), .inl (3, 512), .inl (3, 64), .inl (3, 64), .inr (0, [5, 19, 28]), .inl (0, 64), .inr (4, [5, 19, 30, 31, 32, 33, 0, 0, 0]), .inl (0, 6), .inl (0, 6), .inl (0, 6), .inl (0, 4), .inr (3, [35, 0, 0, 0]), .inl (0, 20), .inr (1, [5, 1]), .inl (0, 3), .inr (10, [1, 39, 0, 40, 41, 42, 43, 44, 45, 0, 0, 0, 0, 0, 0, 46, 47, 48, 49, 50, 51, 52, 0, 0, 53, 54, 55, 56, 57, 58, 0, 59, 60]), .inl (1, 500), .inl (0, 2), .inl (0, 96), .inl (0, 12), .inl (0, 2), .inl (0, 64), .inl (0, 3), .inl (0, 3), .inl (0, 3), .inl (0, 3), .inl (2, 2), .inl (0, 4096), .inl (0, 4096), .inl (0, 4096), .inl (0, 9), .inl (0, 8), .inl (0, 8), .inl (0, 8), .inl (0, 6), .inl (0, 4), .inl (0, 20), .inl (0, 20)]
theorem s_0 : shL[0]? = some (.inr (9, [3, 5, 9, 13, 16, 17, 18, 19, 27, 29, 34, 36, 37])) := rfl -- x
theorem s_1 : shL[1]? = some (.inr (7, [4, 0])) := rfl -- text
theorem s_2 : shL[2]? = some (.inl (1, 500)) := rfl -- text.bytes
theorem s_3 : shL[3]? = some (.inr (8, [6, 7, 8, 0, 0, 0, 0, 0, 0, 0, 0])) := rfl -- trip
theorem s_4 : shL[4]? = some (.inl (0, 48)) := rfl -- trip.facts
theorem s_5 : shL[5]? = some (.inl (0, 32)) := rfl -- trip.wants
theorem s_6 : shL[6]? = some (.inl (0, 6)) := rfl -- trip.apart
theorem s_7 : shL[7]? = some (.inr (8, [10, 11, 12, 0, 0, 0, 0, 0, 0, 0, 0])) := rfl -- draft
theorem s_8 : shL[8]? = some (.inl (0, 48)) := rfl -- draft.facts
theorem s_9 : shL[9]? = some (.inl (0, 32)) := rfl -- draft.wants
theorem s_10 : shL[10]? = some (.inl (0, 6)) := rfl -- draft.apart
theorem s_11 : shL[11]? = some (.inr (6, [3, 9, 14, 15, 0, 0, 0])) := rfl -- reader
theorem s_12 : shL[12]? = some (.inl (0, 500)) := rfl -- reader.codes
theorem s_13 : shL[13]? = some (.inl (0, 500)) := rfl -- reader.starts
theorem s_14 : shL[14]? = some (.inr (2, [0, 0, 0, 0])) := rfl -- life
theorem s_15 : shL[15]? = some (.inr (2, [0, 0, 0, 0])) := rfl -- firstImage
theorem s_16 : shL[16]? = some (.inr (2, [0, 0, 0, 0])) := rfl -- secondImage
theorem s_17 : shL[17]? = some (.inr (5, [5, 20, 21, 22, 23, 24, 25, 26, 0])) := rfl -- planner
theorem s_18 : shL[18]? = some (.inl (0, 72)) := rfl -- planner.pairs
theorem s_19 : shL[19]? = some (.inl (0, 8)) := rfl -- planner.pairsOn
theorem s_20 : shL[20]? = some (.inl (0, 8)) := rfl -- planner.picked
theorem s_21 : shL[21]? = some (.inl (0, 8)) := rfl -- planner.washed
theorem s_22 : shL[22]? = some (.inl (3, 512)) := rfl -- planner.failed
theorem s_23 : shL[23]? = some (.inl (3, 64)) := rfl -- planner.reached
theorem s_24 : shL[24]? = some (.inl (3, 64)) := rfl -- planner.nextReached
theorem s_25 : shL[25]? = some (.inr (0, [5, 19, 28])) := rfl -- chooser
theorem s_26 : shL[26]? = some (.inl (0, 64)) := rfl -- chooser.known
theorem s_27 : shL[27]? = some (.inr (4, [5, 19, 30, 31, 32, 33, 0, 0, 0])) := rfl -- packer
theorem s_28 : shL[28]? = some (.inl (0, 6)) := rfl -- packer.firstDay
theorem s_29 : shL[29]? = some (.inl (0, 6)) := rfl -- packer.layer
theorem s_30 : shL[30]? = some (.inl (0, 6)) := rfl -- packer.bestLayer
theorem s_31 : shL[31]? = some (.inl (0, 4)) := rfl -- packer.room
theorem s_32 : shL[32]? = some (.inr (3, [35, 0, 0, 0])) := rfl -- lists
theorem s_33 : shL[33]? = some (.inl (0, 20)) := rfl -- lists.on
theorem s_34 : shL[34]? = some (.inr (1, [5, 1])) := rfl -- kinds
theorem s_35 : shL[35]? = some (.inl (0, 3)) := rfl -- x.tunes
theorem s_36 : shL[36]? = some (.inr (10, [1, 39, 0, 40, 41, 42, 43, 44, 45, 0, 0, 0, 0, 0, 0, 46, 47, 48, 49, 50, 51, 52, 0, 0, 53, 54, 55, 56, 57, 58, 0, 59, 60])) := rfl -- m
theorem s_37 : shL[37]? = some (.inl (1, 500)) := rfl -- m.text
theorem s_38 : shL[38]? = some (.inl (0, 2)) := rfl -- m.things
theorem s_39 : shL[39]? = some (.inl (0, 96)) := rfl -- m.thing
theorem s_40 : shL[40]? = some (.inl (0, 12)) := rfl -- m.apart
theorem s_41 : shL[41]? = some (.inl (0, 2)) := rfl -- m.days
theorem s_42 : shL[42]? = some (.inl (0, 64)) := rfl -- m.day
theorem s_43 : shL[43]? = some (.inl (0, 3)) := rfl -- m.tune
theorem s_44 : shL[44]? = some (.inl (0, 3)) := rfl -- m.dayNow
theorem s_45 : shL[45]? = some (.inl (0, 3)) := rfl -- m.stateNow
theorem s_46 : shL[46]? = some (.inl (0, 3)) := rfl -- m.setNow
theorem s_47 : shL[47]? = some (.inl (2, 2)) := rfl -- m.isKept
theorem s_48 : shL[48]? = some (.inl (0, 4096)) := rfl -- m.list
theorem s_49 : shL[49]? = some (.inl (0, 4096)) := rfl -- m.nextList
theorem s_50 : shL[50]? = some (.inl (0, 4096)) := rfl -- m.stamp
theorem s_51 : shL[51]? = some (.inl (0, 9)) := rfl -- m.pairs
theorem s_52 : shL[52]? = some (.inl (0, 8)) := rfl -- m.planTop
theorem s_53 : shL[53]? = some (.inl (0, 8)) := rfl -- m.planBottom
theorem s_54 : shL[54]? = some (.inl (0, 8)) := rfl -- m.planWash
theorem s_55 : shL[55]? = some (.inl (0, 6)) := rfl -- m.layer
theorem s_56 : shL[56]? = some (.inl (0, 4)) := rfl -- m.sizes
theorem s_57 : shL[57]? = some (.inl (0, 20)) := rfl -- m.hads
theorem s_58 : shL[58]? = some (.inl (0, 20)) := rfl -- m.ons
