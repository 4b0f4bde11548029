def R_Bp : String := "BlockPacker"
def F_Bp : u_T := fun k => match k with
  | 0 => ("BlockPacker", "input", "LBlockPacker$Row;", true)
  | 1 => ("BlockPacker", "output", "LBlockPacker$Row;", true)
  | 2 => ("BlockPacker", "packer", "LBlockPacker$Packer;", true)
  | _ => ("BlockPacker", "unpacker", "LBlockPacker$Unpacker;", true)
def t_Bp : Nat → FieldType := fun k => match k with
  | 0 => .object "BlockPacker$Row"
  | 1 => .object "BlockPacker$Row"
  | 2 => .object "BlockPacker$Packer"
  | _ => .object "BlockPacker$Unpacker"
theorem n_Bp : ∀ a, a < 4 → ∀ b, b < 4 → a ≠ b → (F_Bp a).2.1 ≠ (F_Bp b).2.1 := by decide +kernel
theorem t_Bp_ok : ∀ k, k < 4 → parseFieldDescriptor (F_Bp k).2.2.1 = some (t_Bp k) := by decide +kernel
def R_Row : String := "BlockPacker$Row"
def F_Row : u_T := fun k => match k with
  | 0 => ("BlockPacker$Row", "bytes", "[B", true)
  | 1 => ("BlockPacker$Row", "count", "I", false)
  | _ => ("BlockPacker$Row", "place", "I", false)
def t_Row : Nat → FieldType := fun k => match k with
  | 0 => .array .byte
  | 1 => .int
  | _ => .int
theorem n_Row : ∀ a, a < 3 → ∀ b, b < 3 → a ≠ b → (F_Row a).2.1 ≠ (F_Row b).2.1 := by decide +kernel
theorem t_Row_ok : ∀ k, k < 3 → parseFieldDescriptor (F_Row k).2.2.1 = some (t_Row k) := by decide +kernel
def R_Packer : String := "BlockPacker$Packer"
def F_Packer : u_T := fun k => match k with
  | 0 => ("BlockPacker$Packer", "matcher", "LBlockPacker$Matcher;", true)
  | 1 => ("BlockPacker$Packer", "maker", "LBlockPacker$LengthMaker;", true)
  | 2 => ("BlockPacker$Packer", "found", "LBlockPacker$Found;", true)
  | 3 => ("BlockPacker$Packer", "tale", "LBlockPacker$Tale;", true)
  | 4 => ("BlockPacker$Packer", "fixedSymbols", "LBlockPacker$WriteCodes;", true)
  | 5 => ("BlockPacker$Packer", "fixedDistances", "LBlockPacker$WriteCodes;", true)
  | 6 => ("BlockPacker$Packer", "madeSymbols", "LBlockPacker$WriteCodes;", true)
  | 7 => ("BlockPacker$Packer", "madeDistances", "LBlockPacker$WriteCodes;", true)
  | 8 => ("BlockPacker$Packer", "storedBlocks", "I", false)
  | 9 => ("BlockPacker$Packer", "fixedBlocks", "I", false)
  | 10 => ("BlockPacker$Packer", "madeBlocks", "I", false)
  | 11 => ("BlockPacker$Packer", "matches", "I", false)
  | _ => ("BlockPacker$Packer", "singles", "I", false)
def t_Packer : Nat → FieldType := fun k => match k with
  | 0 => .object "BlockPacker$Matcher"
  | 1 => .object "BlockPacker$LengthMaker"
  | 2 => .object "BlockPacker$Found"
  | 3 => .object "BlockPacker$Tale"
  | 4 => .object "BlockPacker$WriteCodes"
  | 5 => .object "BlockPacker$WriteCodes"
  | 6 => .object "BlockPacker$WriteCodes"
  | 7 => .object "BlockPacker$WriteCodes"
  | 8 => .int
  | 9 => .int
  | 10 => .int
  | 11 => .int
  | _ => .int
theorem n_Packer : ∀ a, a < 13 → ∀ b, b < 13 → a ≠ b → (F_Packer a).2.1 ≠ (F_Packer b).2.1 := by decide +kernel
theorem t_Packer_ok : ∀ k, k < 13 → parseFieldDescriptor (F_Packer k).2.2.1 = some (t_Packer k) := by decide +kernel
def R_Unpacker : String := "BlockPacker$Unpacker"
def F_Unpacker : u_T := fun k => match k with
  | 0 => ("BlockPacker$Unpacker", "fixedSymbols", "LBlockPacker$ReadCodes;", true)
  | 1 => ("BlockPacker$Unpacker", "fixedDistances", "LBlockPacker$ReadCodes;", true)
  | 2 => ("BlockPacker$Unpacker", "madeSymbols", "LBlockPacker$ReadCodes;", true)
  | 3 => ("BlockPacker$Unpacker", "madeDistances", "LBlockPacker$ReadCodes;", true)
  | 4 => ("BlockPacker$Unpacker", "lengthCodes", "LBlockPacker$ReadCodes;", true)
  | 5 => ("BlockPacker$Unpacker", "lengths", "[I", true)
  | 6 => ("BlockPacker$Unpacker", "farthest", "I", false)
  | 7 => ("BlockPacker$Unpacker", "last", "Z", false)
  | 8 => ("BlockPacker$Unpacker", "blocks", "I", false)
  | 9 => ("BlockPacker$Unpacker", "matches", "I", false)
  | _ => ("BlockPacker$Unpacker", "bitsRead", "I", false)
def t_Unpacker : Nat → FieldType := fun k => match k with
  | 0 => .object "BlockPacker$ReadCodes"
  | 1 => .object "BlockPacker$ReadCodes"
  | 2 => .object "BlockPacker$ReadCodes"
  | 3 => .object "BlockPacker$ReadCodes"
  | 4 => .object "BlockPacker$ReadCodes"
  | 5 => .array .int
  | 6 => .int
  | 7 => .boolean
  | 8 => .int
  | 9 => .int
  | _ => .int
theorem n_Unpacker : ∀ a, a < 11 → ∀ b, b < 11 → a ≠ b → (F_Unpacker a).2.1 ≠ (F_Unpacker b).2.1 := by decide +kernel
theorem t_Unpacker_ok : ∀ k, k < 11 → parseFieldDescriptor (F_Unpacker k).2.2.1 = some (t_Unpacker k) := by decide +kernel
def R_Matcher : String := "BlockPacker$Matcher"
def F_Matcher : u_T := fun k => match k with
  | 0 => ("BlockPacker$Matcher", "sorted", "[I", true)
  | 1 => ("BlockPacker$Matcher", "nearest", "[I", true)
  | 2 => ("BlockPacker$Matcher", "starts", "[I", true)
  | 3 => ("BlockPacker$Matcher", "length", "I", false)
  | _ => ("BlockPacker$Matcher", "distance", "I", false)
def t_Matcher : Nat → FieldType := fun k => match k with
  | 0 => .array .int
  | 1 => .array .int
  | 2 => .array .int
  | 3 => .int
  | _ => .int
theorem n_Matcher : ∀ a, a < 5 → ∀ b, b < 5 → a ≠ b → (F_Matcher a).2.1 ≠ (F_Matcher b).2.1 := by decide +kernel
theorem t_Matcher_ok : ∀ k, k < 5 → parseFieldDescriptor (F_Matcher k).2.2.1 = some (t_Matcher k) := by decide +kernel
def R_LengthMaker : String := "BlockPacker$LengthMaker"
def F_LengthMaker : u_T := fun k => match k with
  | 0 => ("BlockPacker$LengthMaker", "order", "[I", true)
  | 1 => ("BlockPacker$LengthMaker", "firstRow", "[I", true)
  | 2 => ("BlockPacker$LengthMaker", "secondRow", "[I", true)
  | _ => ("BlockPacker$LengthMaker", "pairs", "[I", true)
def t_LengthMaker : Nat → FieldType := fun k => match k with
  | 0 => .array .int
  | 1 => .array .int
  | 2 => .array .int
  | _ => .array .int
theorem n_LengthMaker : ∀ a, a < 4 → ∀ b, b < 4 → a ≠ b → (F_LengthMaker a).2.1 ≠ (F_LengthMaker b).2.1 := by decide +kernel
theorem t_LengthMaker_ok : ∀ k, k < 4 → parseFieldDescriptor (F_LengthMaker k).2.2.1 = some (t_LengthMaker k) := by decide +kernel
def R_Found : String := "BlockPacker$Found"
def F_Found : u_T := fun k => match k with
  | 0 => ("BlockPacker$Found", "items", "[I", true)
  | 1 => ("BlockPacker$Found", "count", "I", false)
  | 2 => ("BlockPacker$Found", "symbolCounts", "[I", true)
  | _ => ("BlockPacker$Found", "distanceCounts", "[I", true)
def t_Found : Nat → FieldType := fun k => match k with
  | 0 => .array .int
  | 1 => .int
  | 2 => .array .int
  | _ => .array .int
theorem n_Found : ∀ a, a < 4 → ∀ b, b < 4 → a ≠ b → (F_Found a).2.1 ≠ (F_Found b).2.1 := by decide +kernel
theorem t_Found_ok : ∀ k, k < 4 → parseFieldDescriptor (F_Found k).2.2.1 = some (t_Found k) := by decide +kernel
def R_Tale : String := "BlockPacker$Tale"
def F_Tale : u_T := fun k => match k with
  | 0 => ("BlockPacker$Tale", "row", "[I", true)
  | 1 => ("BlockPacker$Tale", "items", "[I", true)
  | 2 => ("BlockPacker$Tale", "mores", "[I", true)
  | 3 => ("BlockPacker$Tale", "counts", "[I", true)
  | 4 => ("BlockPacker$Tale", "codes", "LBlockPacker$WriteCodes;", true)
  | 5 => ("BlockPacker$Tale", "itemCount", "I", false)
  | 6 => ("BlockPacker$Tale", "symbols", "I", false)
  | 7 => ("BlockPacker$Tale", "distances", "I", false)
  | _ => ("BlockPacker$Tale", "lengthCodes", "I", false)
def t_Tale : Nat → FieldType := fun k => match k with
  | 0 => .array .int
  | 1 => .array .int
  | 2 => .array .int
  | 3 => .array .int
  | 4 => .object "BlockPacker$WriteCodes"
  | 5 => .int
  | 6 => .int
  | 7 => .int
  | _ => .int
theorem n_Tale : ∀ a, a < 9 → ∀ b, b < 9 → a ≠ b → (F_Tale a).2.1 ≠ (F_Tale b).2.1 := by decide +kernel
theorem t_Tale_ok : ∀ k, k < 9 → parseFieldDescriptor (F_Tale k).2.2.1 = some (t_Tale k) := by decide +kernel
def R_WriteCodes : String := "BlockPacker$WriteCodes"
def F_WriteCodes : u_T := fun k => match k with
  | 0 => ("BlockPacker$WriteCodes", "lengths", "[I", true)
  | _ => ("BlockPacker$WriteCodes", "turnedCodes", "[I", true)
def t_WriteCodes : Nat → FieldType := fun k => match k with
  | 0 => .array .int
  | _ => .array .int
theorem n_WriteCodes : ∀ a, a < 2 → ∀ b, b < 2 → a ≠ b → (F_WriteCodes a).2.1 ≠ (F_WriteCodes b).2.1 := by decide +kernel
theorem t_WriteCodes_ok : ∀ k, k < 2 → parseFieldDescriptor (F_WriteCodes k).2.2.1 = some (t_WriteCodes k) := by decide +kernel
def R_ReadCodes : String := "BlockPacker$ReadCodes"
def F_ReadCodes : u_T := fun k => match k with
  | 0 => ("BlockPacker$ReadCodes", "counts", "[I", true)
  | 1 => ("BlockPacker$ReadCodes", "symbols", "[I", true)
  | 2 => ("BlockPacker$ReadCodes", "codes", "I", false)
  | _ => ("BlockPacker$ReadCodes", "longest", "I", false)
def t_ReadCodes : Nat → FieldType := fun k => match k with
  | 0 => .array .int
  | 1 => .array .int
  | 2 => .int
  | _ => .int
theorem n_ReadCodes : ∀ a, a < 4 → ∀ b, b < 4 → a ≠ b → (F_ReadCodes a).2.1 ≠ (F_ReadCodes b).2.1 := by decide +kernel
theorem t_ReadCodes_ok : ∀ k, k < 4 → parseFieldDescriptor (F_ReadCodes k).2.2.1 = some (t_ReadCodes k) := by decide +kernel
def R_Mo : String := "BlockPackerModel"
def F_Mo : u_T := fun k => match k with
  | 0 => ("BlockPackerModel", "inputSize", "I", false)
  | 1 => ("BlockPackerModel", "input", "[I", true)
  | 2 => ("BlockPackerModel", "outputSize", "I", false)
  | 3 => ("BlockPackerModel", "output", "[I", true)
  | 4 => ("BlockPackerModel", "told", "[I", true)
  | 5 => ("BlockPackerModel", "bits", "I", false)
  | 6 => ("BlockPackerModel", "fault", "I", false)
  | 7 => ("BlockPackerModel", "lengths", "[I", true)
  | 8 => ("BlockPackerModel", "small", "[I", true)
  | 9 => ("BlockPackerModel", "row", "[I", true)
  | 10 => ("BlockPackerModel", "tokens", "I", false)
  | 11 => ("BlockPackerModel", "tokenLength", "[I", true)
  | 12 => ("BlockPackerModel", "tokenValue", "[I", true)
  | 13 => ("BlockPackerModel", "counts", "[I", true)
  | 14 => ("BlockPackerModel", "smallCounts", "[I", true)
  | 15 => ("BlockPackerModel", "steps", "I", false)
  | 16 => ("BlockPackerModel", "step", "[I", true)
  | 17 => ("BlockPackerModel", "stepMore", "[I", true)
  | 18 => ("BlockPackerModel", "bitAt", "I", false)
  | 19 => ("BlockPackerModel", "order", "[I", true)
  | 20 => ("BlockPackerModel", "listed", "[I", true)
  | 21 => ("BlockPackerModel", "before", "[I", true)
  | 22 => ("BlockPackerModel", "isSymbol", "[Z", true)
  | 23 => ("BlockPackerModel", "listSize", "[I", true)
  | _ => ("BlockPackerModel", "latest", "[I", true)
def t_Mo : Nat → FieldType := fun k => match k with
  | 0 => .int
  | 1 => .array .int
  | 2 => .int
  | 3 => .array .int
  | 4 => .array .int
  | 5 => .int
  | 6 => .int
  | 7 => .array .int
  | 8 => .array .int
  | 9 => .array .int
  | 10 => .int
  | 11 => .array .int
  | 12 => .array .int
  | 13 => .array .int
  | 14 => .array .int
  | 15 => .int
  | 16 => .array .int
  | 17 => .array .int
  | 18 => .int
  | 19 => .array .int
  | 20 => .array .int
  | 21 => .array .int
  | 22 => .array .boolean
  | 23 => .array .int
  | _ => .array .int
theorem n_Mo : ∀ a, a < 25 → ∀ b, b < 25 → a ≠ b → (F_Mo a).2.1 ≠ (F_Mo b).2.1 := by decide +kernel
theorem t_Mo_ok : ∀ k, k < 25 → parseFieldDescriptor (F_Mo k).2.2.1 = some (t_Mo k) := by decide +kernel
def R_Law : String := "BlockPackerLaw"
def R_Ar : String := "java/util/Arrays"
abbrev vwCl : List vw_C := [(R_Bp, F_Bp, 4), (R_Row, F_Row, 3), (R_Packer, F_Packer, 13), (R_Unpacker, F_Unpacker, 11), (R_Matcher, F_Matcher, 5), (R_LengthMaker, F_LengthMaker, 4), (R_Found, F_Found, 4), (R_Tale, F_Tale, 9), (R_WriteCodes, F_WriteCodes, 2), (R_ReadCodes, F_ReadCodes, 4), (R_Mo, F_Mo, 25)]
abbrev b_Bp_init : ByteArray := prog_1_method_1_code
def y_Bp_init : MethodName := ⟨R_Bp, "<init>", "()V"⟩
abbrev b_Bp_feed : ByteArray := prog_1_method_2_code
def y_Bp_feed : MethodName := ⟨R_Bp, "feed", "(JI)I"⟩
abbrev b_Bp_fill : ByteArray := prog_1_method_3_code
def y_Bp_fill : MethodName := ⟨R_Bp, "fill", "(III)I"⟩
abbrev b_Bp_filling : ByteArray := prog_1_method_4_code
def y_Bp_filling : MethodName := ⟨R_Bp, "filling", "(IIII)I"⟩
abbrev b_Bp_set : ByteArray := prog_1_method_5_code
def y_Bp_set : MethodName := ⟨R_Bp, "set", "(II)I"⟩
abbrev b_Bp_cut : ByteArray := prog_1_method_6_code
def y_Bp_cut : MethodName := ⟨R_Bp, "cut", "(I)I"⟩
abbrev b_Bp_take : ByteArray := prog_1_method_7_code
def y_Bp_take : MethodName := ⟨R_Bp, "take", "()I"⟩
abbrev b_Bp_size : ByteArray := prog_1_method_8_code
def y_Bp_size : MethodName := ⟨R_Bp, "size", "(I)I"⟩
abbrev b_Bp_at : ByteArray := prog_1_method_9_code
def y_Bp_at : MethodName := ⟨R_Bp, "at", "(II)I"⟩
abbrev b_Bp_pack : ByteArray := prog_1_method_10_code
def y_Bp_pack : MethodName := ⟨R_Bp, "pack", "(IZ)I"⟩
abbrev b_Bp_unpack : ByteArray := prog_1_method_11_code
def y_Bp_unpack : MethodName := ⟨R_Bp, "unpack", "()I"⟩
abbrev b_Bp_read : ByteArray := prog_1_method_12_code
def y_Bp_read : MethodName := ⟨R_Bp, "read", "()I"⟩
abbrev b_Bp_told : ByteArray := prog_1_method_13_code
def y_Bp_told : MethodName := ⟨R_Bp, "told", "(I)I"⟩
abbrev b_Bp_length : ByteArray := prog_1_method_14_code
def y_Bp_length : MethodName := ⟨R_Bp, "length", "(II)I"⟩
abbrev b_Bp_extraOfSymbol : ByteArray := prog_1_method_15_code
def y_Bp_extraOfSymbol : MethodName := ⟨R_Bp, "extraOfSymbol", "(I)I"⟩
abbrev b_Bp_baseOfSymbol : ByteArray := prog_1_method_16_code
def y_Bp_baseOfSymbol : MethodName := ⟨R_Bp, "baseOfSymbol", "(I)I"⟩
abbrev b_Bp_extraOfDistance : ByteArray := prog_1_method_17_code
def y_Bp_extraOfDistance : MethodName := ⟨R_Bp, "extraOfDistance", "(I)I"⟩
abbrev b_Bp_baseOfDistance : ByteArray := prog_1_method_18_code
def y_Bp_baseOfDistance : MethodName := ⟨R_Bp, "baseOfDistance", "(I)I"⟩
abbrev b_Bp_symbolForLength : ByteArray := prog_1_method_19_code
def y_Bp_symbolForLength : MethodName := ⟨R_Bp, "symbolForLength", "(I)I"⟩
abbrev b_Bp_symbolForDistance : ByteArray := prog_1_method_20_code
def y_Bp_symbolForDistance : MethodName := ⟨R_Bp, "symbolForDistance", "(I)I"⟩
abbrev b_Bp_bitsIn : ByteArray := prog_1_method_21_code
def y_Bp_bitsIn : MethodName := ⟨R_Bp, "bitsIn", "(I)I"⟩
abbrev b_Bp_extraOfTold : ByteArray := prog_1_method_22_code
def y_Bp_extraOfTold : MethodName := ⟨R_Bp, "extraOfTold", "(I)I"⟩
abbrev b_Bp_leastOfTold : ByteArray := prog_1_method_23_code
def y_Bp_leastOfTold : MethodName := ⟨R_Bp, "leastOfTold", "(I)I"⟩
abbrev b_Bp_fixedLength : ByteArray := prog_1_method_24_code
def y_Bp_fixedLength : MethodName := ⟨R_Bp, "fixedLength", "(I)I"⟩
abbrev b_Mo_init : ByteArray := prog_12_method_1_code
def y_Mo_init : MethodName := ⟨R_Mo, "<init>", "()V"⟩
abbrev b_Mo_feed : ByteArray := prog_12_method_2_code
def y_Mo_feed : MethodName := ⟨R_Mo, "feed", "(JI)I"⟩
abbrev b_Mo_fill : ByteArray := prog_12_method_3_code
def y_Mo_fill : MethodName := ⟨R_Mo, "fill", "(III)I"⟩
abbrev b_Mo_set : ByteArray := prog_12_method_4_code
def y_Mo_set : MethodName := ⟨R_Mo, "set", "(II)I"⟩
abbrev b_Mo_cut : ByteArray := prog_12_method_5_code
def y_Mo_cut : MethodName := ⟨R_Mo, "cut", "(I)I"⟩
abbrev b_Mo_take : ByteArray := prog_12_method_6_code
def y_Mo_take : MethodName := ⟨R_Mo, "take", "()I"⟩
abbrev b_Mo_size : ByteArray := prog_12_method_7_code
def y_Mo_size : MethodName := ⟨R_Mo, "size", "(I)I"⟩
abbrev b_Mo_at : ByteArray := prog_12_method_8_code
def y_Mo_at : MethodName := ⟨R_Mo, "at", "(II)I"⟩
abbrev b_Mo_blame : ByteArray := prog_12_method_9_code
def y_Mo_blame : MethodName := ⟨R_Mo, "blame", "(I)V"⟩
abbrev b_Mo_bit : ByteArray := prog_12_method_10_code
def y_Mo_bit : MethodName := ⟨R_Mo, "bit", "()I"⟩
abbrev b_Mo_number : ByteArray := prog_12_method_11_code
def y_Mo_number : MethodName := ⟨R_Mo, "number", "(I)I"⟩
abbrev b_Mo_toByte : ByteArray := prog_12_method_12_code
def y_Mo_toByte : MethodName := ⟨R_Mo, "toByte", "()V"⟩
abbrev b_Mo_make : ByteArray := prog_12_method_13_code
def y_Mo_make : MethodName := ⟨R_Mo, "make", "(I)V"⟩
abbrev b_Mo_weightOf : ByteArray := prog_12_method_14_code
def y_Mo_weightOf : MethodName := ⟨R_Mo, "weightOf", "([III)I"⟩
abbrev b_Mo_codesOf : ByteArray := prog_12_method_15_code
def y_Mo_codesOf : MethodName := ⟨R_Mo, "codesOf", "([III)I"⟩
abbrev b_Mo_areCodes : ByteArray := prog_12_method_16_code
def y_Mo_areCodes : MethodName := ⟨R_Mo, "areCodes", "([IIIZ)Z"⟩
abbrev b_Mo_codeOf : ByteArray := prog_12_method_17_code
def y_Mo_codeOf : MethodName := ⟨R_Mo, "codeOf", "([IIII)I"⟩
abbrev b_Mo_symbol : ByteArray := prog_12_method_18_code
def y_Mo_symbol : MethodName := ⟨R_Mo, "symbol", "([III)I"⟩
abbrev b_Mo_begins : ByteArray := prog_12_method_19_code
def y_Mo_begins : MethodName := ⟨R_Mo, "begins", "([IIIII)Z"⟩
abbrev b_Mo_nth : ByteArray := prog_12_method_20_code
def y_Mo_nth : MethodName := ⟨R_Mo, "nth", "([IIIII)I"⟩
abbrev b_Mo_smallOrder : ByteArray := prog_12_method_21_code
def y_Mo_smallOrder : MethodName := ⟨R_Mo, "smallOrder", "(I)I"⟩
abbrev b_Mo_fixedLengths : ByteArray := prog_12_method_22_code
def y_Mo_fixedLengths : MethodName := ⟨R_Mo, "fixedLengths", "()V"⟩
abbrev b_Mo_readLengths : ByteArray := prog_12_method_23_code
def y_Mo_readLengths : MethodName := ⟨R_Mo, "readLengths", "()V"⟩
abbrev b_Mo_lengthBits : ByteArray := prog_12_method_24_code
def y_Mo_lengthBits : MethodName := ⟨R_Mo, "lengthBits", "(I)I"⟩
abbrev b_Mo_lengthBase : ByteArray := prog_12_method_25_code
def y_Mo_lengthBase : MethodName := ⟨R_Mo, "lengthBase", "(I)I"⟩
abbrev b_Mo_distanceBits : ByteArray := prog_12_method_26_code
def y_Mo_distanceBits : MethodName := ⟨R_Mo, "distanceBits", "(I)I"⟩
abbrev b_Mo_distanceBase : ByteArray := prog_12_method_27_code
def y_Mo_distanceBase : MethodName := ⟨R_Mo, "distanceBase", "(I)I"⟩
abbrev b_Mo_readSymbols : ByteArray := prog_12_method_28_code
def y_Mo_readSymbols : MethodName := ⟨R_Mo, "readSymbols", "()V"⟩
abbrev b_Mo_readMatch : ByteArray := prog_12_method_29_code
def y_Mo_readMatch : MethodName := ⟨R_Mo, "readMatch", "(I)V"⟩
abbrev b_Mo_readStored : ByteArray := prog_12_method_30_code
def y_Mo_readStored : MethodName := ⟨R_Mo, "readStored", "()V"⟩
abbrev b_Mo_checkOf : ByteArray := prog_12_method_31_code
def y_Mo_checkOf : MethodName := ⟨R_Mo, "checkOf", "([II)J"⟩
abbrev b_Mo_unpack : ByteArray := prog_12_method_32_code
def y_Mo_unpack : MethodName := ⟨R_Mo, "unpack", "()I"⟩
abbrev b_Mo_read : ByteArray := prog_12_method_33_code
def y_Mo_read : MethodName := ⟨R_Mo, "read", "()I"⟩
abbrev b_Mo_bestAt : ByteArray := prog_12_method_34_code
def y_Mo_bestAt : MethodName := ⟨R_Mo, "bestAt", "(III)I"⟩
abbrev b_Mo_findTokens : ByteArray := prog_12_method_35_code
def y_Mo_findTokens : MethodName := ⟨R_Mo, "findTokens", "(IIIZ)V"⟩
abbrev b_Mo_lengthSymbol : ByteArray := prog_12_method_36_code
def y_Mo_lengthSymbol : MethodName := ⟨R_Mo, "lengthSymbol", "(I)I"⟩
abbrev b_Mo_distanceSymbol : ByteArray := prog_12_method_37_code
def y_Mo_distanceSymbol : MethodName := ⟨R_Mo, "distanceSymbol", "(I)I"⟩
abbrev b_Mo_count : ByteArray := prog_12_method_38_code
def y_Mo_count : MethodName := ⟨R_Mo, "count", "()V"⟩
abbrev b_Mo_sort : ByteArray := prog_12_method_39_code
def y_Mo_sort : MethodName := ⟨R_Mo, "sort", "([III)I"⟩
abbrev b_Mo_makeList : ByteArray := prog_12_method_40_code
def y_Mo_makeList : MethodName := ⟨R_Mo, "makeList", "([IIII)V"⟩
abbrev b_Mo_findLengths : ByteArray := prog_12_method_41_code
def y_Mo_findLengths : MethodName := ⟨R_Mo, "findLengths", "([IIII[I)V"⟩
abbrev b_Mo_tell : ByteArray := prog_12_method_42_code
def y_Mo_tell : MethodName := ⟨R_Mo, "tell", "(II)V"⟩
abbrev b_Mo_tellRow : ByteArray := prog_12_method_43_code
def y_Mo_tellRow : MethodName := ⟨R_Mo, "tellRow", "(I)V"⟩
abbrev b_Mo_stepBits : ByteArray := prog_12_method_44_code
def y_Mo_stepBits : MethodName := ⟨R_Mo, "stepBits", "(I)I"⟩
abbrev b_Mo_needed : ByteArray := prog_12_method_45_code
def y_Mo_needed : MethodName := ⟨R_Mo, "needed", "([IIII)I"⟩
abbrev b_Mo_writeBit : ByteArray := prog_12_method_46_code
def y_Mo_writeBit : MethodName := ⟨R_Mo, "writeBit", "(I)V"⟩
abbrev b_Mo_writeNumber : ByteArray := prog_12_method_47_code
def y_Mo_writeNumber : MethodName := ⟨R_Mo, "writeNumber", "(II)V"⟩
abbrev b_Mo_writeCode : ByteArray := prog_12_method_48_code
def y_Mo_writeCode : MethodName := ⟨R_Mo, "writeCode", "([IIII)V"⟩
abbrev b_Mo_bitsOfTokens : ByteArray := prog_12_method_49_code
def y_Mo_bitsOfTokens : MethodName := ⟨R_Mo, "bitsOfTokens", "([I)I"⟩
abbrev b_Mo_writeTokens : ByteArray := prog_12_method_50_code
def y_Mo_writeTokens : MethodName := ⟨R_Mo, "writeTokens", "()V"⟩
abbrev b_Mo_writeStored : ByteArray := prog_12_method_51_code
def y_Mo_writeStored : MethodName := ⟨R_Mo, "writeStored", "(II)V"⟩
abbrev b_Mo_writeMade : ByteArray := prog_12_method_52_code
def y_Mo_writeMade : MethodName := ⟨R_Mo, "writeMade", "(III)V"⟩
abbrev b_Mo_packPart : ByteArray := prog_12_method_53_code
def y_Mo_packPart : MethodName := ⟨R_Mo, "packPart", "(IIZ)V"⟩
abbrev b_Mo_pack : ByteArray := prog_12_method_54_code
def y_Mo_pack : MethodName := ⟨R_Mo, "pack", "(IZ)I"⟩
abbrev b_Mo_told : ByteArray := prog_12_method_55_code
def y_Mo_told : MethodName := ⟨R_Mo, "told", "(I)I"⟩
abbrev b_Mo_length : ByteArray := prog_12_method_56_code
def y_Mo_length : MethodName := ⟨R_Mo, "length", "(II)I"⟩
abbrev b_Found_init : ByteArray := prog_2_method_1_code
def y_Found_init : MethodName := ⟨R_Found, "<init>", "()V"⟩
abbrev b_Found_start : ByteArray := prog_2_method_2_code
def y_Found_start : MethodName := ⟨R_Found, "start", "()V"⟩
abbrev b_Found_addSingle : ByteArray := prog_2_method_3_code
def y_Found_addSingle : MethodName := ⟨R_Found, "addSingle", "(I)V"⟩
abbrev b_Found_addMatch : ByteArray := prog_2_method_4_code
def y_Found_addMatch : MethodName := ⟨R_Found, "addMatch", "(II)V"⟩
abbrev b_Found_addItem : ByteArray := prog_2_method_5_code
def y_Found_addItem : MethodName := ⟨R_Found, "addItem", "(I)V"⟩
abbrev b_Found_bits : ByteArray := prog_2_method_6_code
def y_Found_bits : MethodName := ⟨R_Found, "bits", "(LBlockPacker$WriteCodes;LBlockPacker$WriteCodes;)I"⟩
abbrev b_Found_write : ByteArray := prog_2_method_7_code
def y_Found_write : MethodName := ⟨R_Found, "write", "(LBlockPacker$Row;LBlockPacker$WriteCodes;LBlockPacker$WriteCodes;)V"⟩
abbrev b_Found_writeMatch : ByteArray := prog_2_method_8_code
def y_Found_writeMatch : MethodName := ⟨R_Found, "writeMatch", "(LBlockPacker$Row;ILBlockPacker$WriteCodes;LBlockPacker$WriteCodes;)V"⟩
abbrev b_LengthMaker_init : ByteArray := prog_3_method_1_code
def y_LengthMaker_init : MethodName := ⟨R_LengthMaker, "<init>", "()V"⟩
abbrev b_LengthMaker_make : ByteArray := prog_3_method_2_code
def y_LengthMaker_make : MethodName := ⟨R_LengthMaker, "make", "([III[I)V"⟩
abbrev b_LengthMaker_sortSymbols : ByteArray := prog_3_method_3_code
def y_LengthMaker_sortSymbols : MethodName := ⟨R_LengthMaker, "sortSymbols", "([II)I"⟩
abbrev b_LengthMaker_makeLists : ByteArray := prog_3_method_4_code
def y_LengthMaker_makeLists : MethodName := ⟨R_LengthMaker, "makeLists", "([III)V"⟩
abbrev b_LengthMaker_makeList : ByteArray := prog_3_method_5_code
def y_LengthMaker_makeList : MethodName := ⟨R_LengthMaker, "makeList", "([III[II[I)I"⟩
abbrev b_LengthMaker_takeItems : ByteArray := prog_3_method_6_code
def y_LengthMaker_takeItems : MethodName := ⟨R_LengthMaker, "takeItems", "(II[I)V"⟩
abbrev b_Matcher_init : ByteArray := prog_4_method_1_code
def y_Matcher_init : MethodName := ⟨R_Matcher, "<init>", "()V"⟩
abbrev b_Matcher_prepare : ByteArray := prog_4_method_2_code
def y_Matcher_prepare : MethodName := ⟨R_Matcher, "prepare", "(LBlockPacker$Row;)V"⟩
abbrev b_Matcher_sort : ByteArray := prog_4_method_3_code
def y_Matcher_sort : MethodName := ⟨R_Matcher, "sort", "(LBlockPacker$Row;II[I[I)V"⟩
abbrev b_Matcher_sameThree : ByteArray := prog_4_method_4_code
def y_Matcher_sameThree : MethodName := ⟨R_Matcher, "sameThree", "(LBlockPacker$Row;II)Z"⟩
abbrev b_Matcher_find : ByteArray := prog_4_method_5_code
def y_Matcher_find : MethodName := ⟨R_Matcher, "find", "(LBlockPacker$Row;III)V"⟩
abbrev b_Matcher_countSame : ByteArray := prog_4_method_6_code
def y_Matcher_countSame : MethodName := ⟨R_Matcher, "countSame", "(LBlockPacker$Row;III)I"⟩
abbrev b_Packer_init : ByteArray := prog_5_method_1_code
def y_Packer_init : MethodName := ⟨R_Packer, "<init>", "()V"⟩
abbrev b_Packer_run : ByteArray := prog_5_method_2_code
def y_Packer_run : MethodName := ⟨R_Packer, "run", "(LBlockPacker$Row;LBlockPacker$Row;IZ)V"⟩
abbrev b_Packer_findSymbols : ByteArray := prog_5_method_3_code
def y_Packer_findSymbols : MethodName := ⟨R_Packer, "findSymbols", "(LBlockPacker$Row;IIIZ)V"⟩
abbrev b_Packer_writeBlock : ByteArray := prog_5_method_4_code
def y_Packer_writeBlock : MethodName := ⟨R_Packer, "writeBlock", "(LBlockPacker$Row;LBlockPacker$Row;II)V"⟩
abbrev b_Packer_writeStored : ByteArray := prog_5_method_5_code
def y_Packer_writeStored : MethodName := ⟨R_Packer, "writeStored", "(LBlockPacker$Row;LBlockPacker$Row;II)V"⟩
abbrev b_ReadCodes_init : ByteArray := prog_6_method_1_code
def y_ReadCodes_init : MethodName := ⟨R_ReadCodes, "<init>", "()V"⟩
abbrev b_ReadCodes_make : ByteArray := prog_6_method_2_code
def y_ReadCodes_make : MethodName := ⟨R_ReadCodes, "make", "([III)V"⟩
abbrev b_ReadCodes_addSymbols : ByteArray := prog_6_method_3_code
def y_ReadCodes_addSymbols : MethodName := ⟨R_ReadCodes, "addSymbols", "([IIII)V"⟩
abbrev b_ReadCodes_fit : ByteArray := prog_6_method_4_code
def y_ReadCodes_fit : MethodName := ⟨R_ReadCodes, "fit", "()Z"⟩
abbrev b_ReadCodes_none : ByteArray := prog_6_method_5_code
def y_ReadCodes_none : MethodName := ⟨R_ReadCodes, "none", "()Z"⟩
abbrev b_ReadCodes_next : ByteArray := prog_6_method_6_code
def y_ReadCodes_next : MethodName := ⟨R_ReadCodes, "next", "(LBlockPacker$Row;)I"⟩
abbrev b_Row_init : ByteArray := prog_7_method_1_code
def y_Row_init : MethodName := ⟨R_Row, "<init>", "()V"⟩
abbrev b_Row_has : ByteArray := prog_7_method_2_code
def y_Row_has : MethodName := ⟨R_Row, "has", "(I)Z"⟩
abbrev b_Row_byteAt : ByteArray := prog_7_method_3_code
def y_Row_byteAt : MethodName := ⟨R_Row, "byteAt", "(I)I"⟩
abbrev b_Row_clear : ByteArray := prog_7_method_4_code
def y_Row_clear : MethodName := ⟨R_Row, "clear", "()V"⟩
abbrev b_Row_add : ByteArray := prog_7_method_5_code
def y_Row_add : MethodName := ⟨R_Row, "add", "(II)Z"⟩
abbrev b_Row_bitsLeft : ByteArray := prog_7_method_6_code
def y_Row_bitsLeft : MethodName := ⟨R_Row, "bitsLeft", "()I"⟩
abbrev b_Row_nextBit : ByteArray := prog_7_method_7_code
def y_Row_nextBit : MethodName := ⟨R_Row, "nextBit", "()I"⟩
abbrev b_Row_nextNumber : ByteArray := prog_7_method_8_code
def y_Row_nextNumber : MethodName := ⟨R_Row, "nextNumber", "(I)I"⟩
abbrev b_Row_skipToByte : ByteArray := prog_7_method_9_code
def y_Row_skipToByte : MethodName := ⟨R_Row, "skipToByte", "()V"⟩
abbrev b_Row_putNumber : ByteArray := prog_7_method_10_code
def y_Row_putNumber : MethodName := ⟨R_Row, "putNumber", "(II)V"⟩
abbrev b_Row_check : ByteArray := prog_7_method_11_code
def y_Row_check : MethodName := ⟨R_Row, "check", "()I"⟩
abbrev b_Tale_init : ByteArray := prog_8_method_1_code
def y_Tale_init : MethodName := ⟨R_Tale, "<init>", "()V"⟩
abbrev b_Tale_make : ByteArray := prog_8_method_2_code
def y_Tale_make : MethodName := ⟨R_Tale, "make", "(LBlockPacker$WriteCodes;LBlockPacker$WriteCodes;LBlockPacker$LengthMaker;)V"⟩
abbrev b_Tale_needed : ByteArray := prog_8_method_3_code
def y_Tale_needed : MethodName := ⟨R_Tale, "needed", "([III)I"⟩
abbrev b_Tale_tellRow : ByteArray := prog_8_method_4_code
def y_Tale_tellRow : MethodName := ⟨R_Tale, "tellRow", "(I)V"⟩
abbrev b_Tale_tellStretch : ByteArray := prog_8_method_5_code
def y_Tale_tellStretch : MethodName := ⟨R_Tale, "tellStretch", "(II)V"⟩
abbrev b_Tale_tellBy : ByteArray := prog_8_method_6_code
def y_Tale_tellBy : MethodName := ⟨R_Tale, "tellBy", "(III)I"⟩
abbrev b_Tale_addItem : ByteArray := prog_8_method_7_code
def y_Tale_addItem : MethodName := ⟨R_Tale, "addItem", "(II)V"⟩
abbrev b_Tale_bits : ByteArray := prog_8_method_8_code
def y_Tale_bits : MethodName := ⟨R_Tale, "bits", "()I"⟩
abbrev b_Tale_write : ByteArray := prog_8_method_9_code
def y_Tale_write : MethodName := ⟨R_Tale, "write", "(LBlockPacker$Row;)V"⟩
abbrev b_Unpacker_init : ByteArray := prog_9_method_1_code
def y_Unpacker_init : MethodName := ⟨R_Unpacker, "<init>", "()V"⟩
abbrev b_Unpacker_run : ByteArray := prog_9_method_2_code
def y_Unpacker_run : MethodName := ⟨R_Unpacker, "run", "(LBlockPacker$Row;LBlockPacker$Row;)I"⟩
abbrev b_Unpacker_readHead : ByteArray := prog_9_method_3_code
def y_Unpacker_readHead : MethodName := ⟨R_Unpacker, "readHead", "(LBlockPacker$Row;)I"⟩
abbrev b_Unpacker_readCheck : ByteArray := prog_9_method_4_code
def y_Unpacker_readCheck : MethodName := ⟨R_Unpacker, "readCheck", "(LBlockPacker$Row;LBlockPacker$Row;)I"⟩
abbrev b_Unpacker_readBlock : ByteArray := prog_9_method_5_code
def y_Unpacker_readBlock : MethodName := ⟨R_Unpacker, "readBlock", "(LBlockPacker$Row;LBlockPacker$Row;)I"⟩
abbrev b_Unpacker_readStored : ByteArray := prog_9_method_6_code
def y_Unpacker_readStored : MethodName := ⟨R_Unpacker, "readStored", "(LBlockPacker$Row;LBlockPacker$Row;)I"⟩
abbrev b_Unpacker_readCodes : ByteArray := prog_9_method_7_code
def y_Unpacker_readCodes : MethodName := ⟨R_Unpacker, "readCodes", "(LBlockPacker$Row;)I"⟩
abbrev b_Unpacker_readLengthCodes : ByteArray := prog_9_method_8_code
def y_Unpacker_readLengthCodes : MethodName := ⟨R_Unpacker, "readLengthCodes", "(LBlockPacker$Row;)I"⟩
abbrev b_Unpacker_readLengths : ByteArray := prog_9_method_9_code
def y_Unpacker_readLengths : MethodName := ⟨R_Unpacker, "readLengths", "(LBlockPacker$Row;I)I"⟩
abbrev b_Unpacker_readSymbols : ByteArray := prog_9_method_10_code
def y_Unpacker_readSymbols : MethodName := ⟨R_Unpacker, "readSymbols", "(LBlockPacker$Row;LBlockPacker$Row;LBlockPacker$ReadCodes;LBlockPacker$ReadCodes;)I"⟩
abbrev b_Unpacker_putSingle : ByteArray := prog_9_method_11_code
def y_Unpacker_putSingle : MethodName := ⟨R_Unpacker, "putSingle", "(LBlockPacker$Row;I)I"⟩
abbrev b_Unpacker_readMatch : ByteArray := prog_9_method_12_code
def y_Unpacker_readMatch : MethodName := ⟨R_Unpacker, "readMatch", "(LBlockPacker$Row;LBlockPacker$Row;ILBlockPacker$ReadCodes;)I"⟩
abbrev b_Unpacker_repeat : ByteArray := prog_9_method_13_code
def y_Unpacker_repeat : MethodName := ⟨R_Unpacker, "repeat", "(LBlockPacker$Row;II)I"⟩
abbrev b_WriteCodes_init : ByteArray := prog_10_method_1_code
def y_WriteCodes_init : MethodName := ⟨R_WriteCodes, "<init>", "()V"⟩
abbrev b_WriteCodes_makeCodes : ByteArray := prog_10_method_2_code
def y_WriteCodes_makeCodes : MethodName := ⟨R_WriteCodes, "makeCodes", "()V"⟩
abbrev b_WriteCodes_turned : ByteArray := prog_10_method_3_code
def y_WriteCodes_turned : MethodName := ⟨R_WriteCodes, "turned", "(II)I"⟩
abbrev b_WriteCodes_write : ByteArray := prog_10_method_4_code
def y_WriteCodes_write : MethodName := ⟨R_WriteCodes, "write", "(LBlockPacker$Row;I)V"⟩
abbrev b_Ar_fill2 : ByteArray := prog_15_method_103_code
def y_Ar_fill2 : MethodName := ⟨R_Ar, "fill", "([II)V"⟩
abbrev b_Ar_fill4 : ByteArray := prog_15_method_104_code
def y_Ar_fill4 : MethodName := ⟨R_Ar, "fill", "([IIII)V"⟩
abbrev b_Ar_rangeCheck : ByteArray := prog_15_method_30_code
def y_Ar_rangeCheck : MethodName := ⟨R_Ar, "rangeCheck", "(III)V"⟩
def gz_W : List Cond := lw_tbl.filter goodWord
theorem gz_inW {ws : List Cond} (ps : List Nat) (hp : ws = ps.filterMap (fun i => lw_tbl[i]?)) (hg : ws.all goodWord = true) : ∀ w ∈ ws, w ∈ gz_W := by
  intro w hw
  have h1 := List.all_eq_true.mp hg w hw
  rw [hp] at hw
  obtain ⟨i, -, hi⟩ := List.mem_filterMap.mp hw
  exact List.mem_filter.mpr ⟨List.mem_of_getElem? hi, h1⟩
theorem in_Bp : ∀ w ∈ u_ws R_Bp F_Bp 4, w ∈ gz_W := gz_inW [367, 369, 371, 373] (by decide +kernel) (by decide +kernel)
theorem in_Row : ∀ w ∈ u_ws R_Row F_Row 3, w ∈ gz_W := gz_inW [98, 100, 102] (by decide +kernel) (by decide +kernel)
theorem in_Packer : ∀ w ∈ u_ws R_Packer F_Packer 13, w ∈ gz_W := gz_inW [261, 263, 265, 267, 269, 271, 273, 275, 277, 279, 281, 283, 285] (by decide +kernel) (by decide +kernel)
theorem in_Unpacker : ∀ w ∈ u_ws R_Unpacker F_Unpacker 11, w ∈ gz_W := gz_inW [340, 342, 344, 346, 348, 350, 352, 354, 356, 358, 360] (by decide +kernel) (by decide +kernel)
theorem in_Matcher : ∀ w ∈ u_ws R_Matcher F_Matcher 5, w ∈ gz_W := gz_inW [125, 127, 129, 131, 133] (by decide +kernel) (by decide +kernel)
theorem in_LengthMaker : ∀ w ∈ u_ws R_LengthMaker F_LengthMaker 4, w ∈ gz_W := gz_inW [147, 149, 151, 153] (by decide +kernel) (by decide +kernel)
theorem in_Found : ∀ w ∈ u_ws R_Found F_Found 4, w ∈ gz_W := gz_inW [168, 170, 172, 174] (by decide +kernel) (by decide +kernel)
theorem in_Tale : ∀ w ∈ u_ws R_Tale F_Tale 9, w ∈ gz_W := gz_inW [209, 211, 213, 215, 217, 219, 221, 223, 225] (by decide +kernel) (by decide +kernel)
theorem in_WriteCodes : ∀ w ∈ u_ws R_WriteCodes F_WriteCodes 2, w ∈ gz_W := gz_inW [195, 197] (by decide +kernel) (by decide +kernel)
theorem in_ReadCodes : ∀ w ∈ u_ws R_ReadCodes F_ReadCodes 4, w ∈ gz_W := gz_inW [304, 306, 308, 310] (by decide +kernel) (by decide +kernel)
theorem in_Mo : ∀ w ∈ u_ws R_Mo F_Mo 25, w ∈ gz_W := gz_inW [764, 766, 768, 770, 772, 774, 776, 778, 780, 782, 784, 786, 788, 790, 792, 794, 796, 798, 800, 802, 804, 806, 808, 810, 812] (by decide +kernel) (by decide +kernel)
theorem tb_1 {w : Cond} (h : w ∈ tables_1_1) (hg : goodWord w = true) : w ∈ gz_W := List.mem_filter.mpr ⟨List.mem_append_right _ (show w ∈ tables_1_1 ++ (tables_1_2 ++ (tables_1_3 ++ (tables_1_4 ++ (tables_1_5)))) from List.mem_append_left _ h), hg⟩
theorem tb_2 {w : Cond} (h : w ∈ tables_1_2) (hg : goodWord w = true) : w ∈ gz_W := List.mem_filter.mpr ⟨List.mem_append_right _ (show w ∈ tables_1_1 ++ (tables_1_2 ++ (tables_1_3 ++ (tables_1_4 ++ (tables_1_5)))) from List.mem_append_right _ (List.mem_append_left _ h)), hg⟩
theorem tb_3 {w : Cond} (h : w ∈ tables_1_3) (hg : goodWord w = true) : w ∈ gz_W := List.mem_filter.mpr ⟨List.mem_append_right _ (show w ∈ tables_1_1 ++ (tables_1_2 ++ (tables_1_3 ++ (tables_1_4 ++ (tables_1_5)))) from List.mem_append_right _ (List.mem_append_right _ (List.mem_append_left _ h))), hg⟩
theorem tb_4 {w : Cond} (h : w ∈ tables_1_4) (hg : goodWord w = true) : w ∈ gz_W := List.mem_filter.mpr ⟨List.mem_append_right _ (show w ∈ tables_1_1 ++ (tables_1_2 ++ (tables_1_3 ++ (tables_1_4 ++ (tables_1_5)))) from List.mem_append_right _ (List.mem_append_right _ (List.mem_append_right _ (List.mem_append_left _ h)))), hg⟩
theorem tb_5 {w : Cond} (h : w ∈ tables_1_5) (hg : goodWord w = true) : w ∈ gz_W := List.mem_filter.mpr ⟨List.mem_append_right _ (show w ∈ tables_1_1 ++ (tables_1_2 ++ (tables_1_3 ++ (tables_1_4 ++ (tables_1_5)))) from List.mem_append_right _ (List.mem_append_right _ (List.mem_append_right _ (List.mem_append_right _ (h))))), hg⟩
theorem tb_0 {w : Cond} (h : w ∈ k2_sels lw_privs) (hg : goodWord w = true) : w ∈ gz_W := List.mem_filter.mpr ⟨List.mem_append_left _ h, hg⟩
theorem kw_0 : (.methodLink R_Bp 3 objectInit : Cond) ∈ gz_W := tb_1 (List.mem_of_getElem? (i := 20) rfl) rfl
theorem kw_1 : (.instanceMethod objectInit : Cond) ∈ gz_W := tb_1 (List.mem_of_getElem? (i := 21) rfl) rfl
theorem kw_2 : (.code objectInit ⟨#[0xb1]⟩ 1 none : Cond) ∈ gz_W := tb_1 (List.mem_of_getElem? (i := 22) rfl) rfl
theorem kw_3 : (.classLink R_Bp 9 R_Row : Cond) ∈ gz_W := tb_1 (List.mem_of_getElem? (i := 23) rfl) rfl
theorem kw_4 : (.instantiable R_Row 3 : Cond) ∈ gz_W := tb_1 (List.mem_of_getElem? (i := 24) rfl) rfl
theorem kw_5 : (.initialized R_Row : Cond) ∈ gz_W := tb_1 (List.mem_of_getElem? (i := 2) rfl) rfl
theorem kw_6 : (.methodLink R_Row 3 objectInit : Cond) ∈ gz_W := tb_1 (List.mem_of_getElem? (i := 28) rfl) rfl
theorem kw_7 : (.arrayClass .byte : Cond) ∈ gz_W := tb_1 (List.mem_of_getElem? (i := 47) rfl) rfl
theorem kw_8 : (.fieldLink R_Row 9 "BlockPacker$Row" "bytes" "[B" : Cond) ∈ gz_W := tb_1 (List.mem_of_getElem? (i := 29) rfl) rfl
theorem kw_9 : (.fieldLink R_Row 15 "BlockPacker$Row" "count" "I" : Cond) ∈ gz_W := tb_1 (List.mem_of_getElem? (i := 32) rfl) rfl
theorem kw_10 : (.fieldLink R_Row 19 "BlockPacker$Row" "place" "I" : Cond) ∈ gz_W := tb_1 (List.mem_of_getElem? (i := 37) rfl) rfl
theorem kw_11 : (.code y_Row_init b_Row_init 1 none : Cond) ∈ gz_W := tb_1 (List.mem_of_getElem? (i := 27) rfl) rfl
theorem kw_12 : (.instanceMethod y_Row_init : Cond) ∈ gz_W := tb_1 (List.mem_of_getElem? (i := 26) rfl) rfl
theorem kw_13 : (.fieldLink R_Bp 12 "BlockPacker" "input" "LBlockPacker$Row;" : Cond) ∈ gz_W := tb_2 (List.mem_of_getElem? (i := 65) rfl) rfl
theorem kw_14 : (.fieldLink R_Bp 16 "BlockPacker" "output" "LBlockPacker$Row;" : Cond) ∈ gz_W := tb_2 (List.mem_of_getElem? (i := 66) rfl) rfl
theorem kw_15 : (.classLink R_Bp 19 R_Packer : Cond) ∈ gz_W := tb_1 (List.mem_of_getElem? (i := 48) rfl) rfl
theorem kw_16 : (.instantiable R_Packer 13 : Cond) ∈ gz_W := tb_1 (List.mem_of_getElem? (i := 49) rfl) rfl
theorem kw_17 : (.initialized R_Packer : Cond) ∈ gz_W := tb_1 (List.mem_of_getElem? (i := 3) rfl) rfl
theorem kw_18 : (.methodLink R_Packer 3 objectInit : Cond) ∈ gz_W := tb_1 (List.mem_of_getElem? (i := 53) rfl) rfl
theorem kw_19 : (.classLink R_Packer 9 R_Matcher : Cond) ∈ gz_W := tb_1 (List.mem_of_getElem? (i := 54) rfl) rfl
theorem kw_20 : (.instantiable R_Matcher 5 : Cond) ∈ gz_W := tb_1 (List.mem_of_getElem? (i := 55) rfl) rfl
theorem kw_21 : (.initialized R_Matcher : Cond) ∈ gz_W := tb_1 (List.mem_of_getElem? (i := 4) rfl) rfl
theorem kw_22 : (.methodLink R_Matcher 3 objectInit : Cond) ∈ gz_W := tb_1 (List.mem_of_getElem? (i := 59) rfl) rfl
theorem kw_23 : (.arrayClass .int : Cond) ∈ gz_W := tb_1 (List.mem_of_getElem? (i := 78) rfl) rfl
theorem kw_24 : (.fieldLink R_Matcher 9 "BlockPacker$Matcher" "sorted" "[I" : Cond) ∈ gz_W := tb_1 (List.mem_of_getElem? (i := 60) rfl) rfl
theorem kw_25 : (.fieldLink R_Matcher 15 "BlockPacker$Matcher" "nearest" "[I" : Cond) ∈ gz_W := tb_1 (List.mem_of_getElem? (i := 61) rfl) rfl
theorem kw_26 : (.fieldLink R_Matcher 18 "BlockPacker$Matcher" "starts" "[I" : Cond) ∈ gz_W := tb_1 (List.mem_of_getElem? (i := 62) rfl) rfl
theorem kw_27 : (.fieldLink R_Matcher 21 "BlockPacker$Matcher" "length" "I" : Cond) ∈ gz_W := tb_1 (List.mem_of_getElem? (i := 63) rfl) rfl
theorem kw_28 : (.fieldLink R_Matcher 25 "BlockPacker$Matcher" "distance" "I" : Cond) ∈ gz_W := tb_1 (List.mem_of_getElem? (i := 65) rfl) rfl
theorem kw_29 : (.code y_Matcher_init b_Matcher_init 1 none : Cond) ∈ gz_W := tb_1 (List.mem_of_getElem? (i := 58) rfl) rfl
theorem kw_30 : (.instanceMethod y_Matcher_init : Cond) ∈ gz_W := tb_1 (List.mem_of_getElem? (i := 57) rfl) rfl
theorem kw_31 : (.fieldLink R_Packer 12 "BlockPacker$Packer" "matcher" "LBlockPacker$Matcher;" : Cond) ∈ gz_W := tb_1 (List.mem_of_getElem? (i := 183) rfl) rfl
theorem kw_32 : (.classLink R_Packer 18 R_LengthMaker : Cond) ∈ gz_W := tb_1 (List.mem_of_getElem? (i := 79) rfl) rfl
theorem kw_33 : (.instantiable R_LengthMaker 4 : Cond) ∈ gz_W := tb_1 (List.mem_of_getElem? (i := 80) rfl) rfl
theorem kw_34 : (.initialized R_LengthMaker : Cond) ∈ gz_W := tb_1 (List.mem_of_getElem? (i := 5) rfl) rfl
theorem kw_35 : (.methodLink R_LengthMaker 3 objectInit : Cond) ∈ gz_W := tb_1 (List.mem_of_getElem? (i := 84) rfl) rfl
theorem kw_36 : (.fieldLink R_LengthMaker 9 "BlockPacker$LengthMaker" "order" "[I" : Cond) ∈ gz_W := tb_1 (List.mem_of_getElem? (i := 85) rfl) rfl
theorem kw_37 : (.fieldLink R_LengthMaker 15 "BlockPacker$LengthMaker" "firstRow" "[I" : Cond) ∈ gz_W := tb_1 (List.mem_of_getElem? (i := 86) rfl) rfl
theorem kw_38 : (.fieldLink R_LengthMaker 18 "BlockPacker$LengthMaker" "secondRow" "[I" : Cond) ∈ gz_W := tb_1 (List.mem_of_getElem? (i := 87) rfl) rfl
theorem kw_39 : (.fieldLink R_LengthMaker 21 "BlockPacker$LengthMaker" "pairs" "[I" : Cond) ∈ gz_W := tb_1 (List.mem_of_getElem? (i := 88) rfl) rfl
theorem kw_40 : (.code y_LengthMaker_init b_LengthMaker_init 1 none : Cond) ∈ gz_W := tb_1 (List.mem_of_getElem? (i := 83) rfl) rfl
theorem kw_41 : (.instanceMethod y_LengthMaker_init : Cond) ∈ gz_W := tb_1 (List.mem_of_getElem? (i := 82) rfl) rfl
theorem kw_42 : (.fieldLink R_Packer 21 "BlockPacker$Packer" "maker" "LBlockPacker$LengthMaker;" : Cond) ∈ gz_W := tb_1 (List.mem_of_getElem? (i := 184) rfl) rfl
theorem kw_43 : (.classLink R_Packer 25 R_Found : Cond) ∈ gz_W := tb_1 (List.mem_of_getElem? (i := 98) rfl) rfl
theorem kw_44 : (.instantiable R_Found 4 : Cond) ∈ gz_W := tb_1 (List.mem_of_getElem? (i := 99) rfl) rfl
theorem kw_45 : (.initialized R_Found : Cond) ∈ gz_W := tb_1 (List.mem_of_getElem? (i := 6) rfl) rfl
theorem kw_46 : (.methodLink R_Found 3 objectInit : Cond) ∈ gz_W := tb_1 (List.mem_of_getElem? (i := 103) rfl) rfl
theorem kw_47 : (.fieldLink R_Found 9 "BlockPacker$Found" "items" "[I" : Cond) ∈ gz_W := tb_1 (List.mem_of_getElem? (i := 104) rfl) rfl
theorem kw_48 : (.fieldLink R_Found 15 "BlockPacker$Found" "count" "I" : Cond) ∈ gz_W := tb_1 (List.mem_of_getElem? (i := 105) rfl) rfl
theorem kw_49 : (.fieldLink R_Found 19 "BlockPacker$Found" "symbolCounts" "[I" : Cond) ∈ gz_W := tb_1 (List.mem_of_getElem? (i := 106) rfl) rfl
theorem kw_50 : (.fieldLink R_Found 22 "BlockPacker$Found" "distanceCounts" "[I" : Cond) ∈ gz_W := tb_1 (List.mem_of_getElem? (i := 108) rfl) rfl
theorem kw_51 : (.code y_Found_init b_Found_init 1 none : Cond) ∈ gz_W := tb_1 (List.mem_of_getElem? (i := 102) rfl) rfl
theorem kw_52 : (.instanceMethod y_Found_init : Cond) ∈ gz_W := tb_1 (List.mem_of_getElem? (i := 101) rfl) rfl
theorem kw_53 : (.fieldLink R_Packer 28 "BlockPacker$Packer" "found" "LBlockPacker$Found;" : Cond) ∈ gz_W := tb_1 (List.mem_of_getElem? (i := 185) rfl) rfl
theorem kw_54 : (.classLink R_Packer 32 R_Tale : Cond) ∈ gz_W := tb_1 (List.mem_of_getElem? (i := 119) rfl) rfl
theorem kw_55 : (.instantiable R_Tale 9 : Cond) ∈ gz_W := tb_1 (List.mem_of_getElem? (i := 120) rfl) rfl
theorem kw_56 : (.initialized R_Tale : Cond) ∈ gz_W := tb_1 (List.mem_of_getElem? (i := 7) rfl) rfl
theorem kw_57 : (.methodLink R_Tale 3 objectInit : Cond) ∈ gz_W := tb_1 (List.mem_of_getElem? (i := 124) rfl) rfl
theorem kw_58 : (.fieldLink R_Tale 9 "BlockPacker$Tale" "row" "[I" : Cond) ∈ gz_W := tb_1 (List.mem_of_getElem? (i := 142) rfl) rfl
theorem kw_59 : (.fieldLink R_Tale 15 "BlockPacker$Tale" "items" "[I" : Cond) ∈ gz_W := tb_1 (List.mem_of_getElem? (i := 143) rfl) rfl
theorem kw_60 : (.fieldLink R_Tale 18 "BlockPacker$Tale" "mores" "[I" : Cond) ∈ gz_W := tb_1 (List.mem_of_getElem? (i := 144) rfl) rfl
theorem kw_61 : (.fieldLink R_Tale 21 "BlockPacker$Tale" "counts" "[I" : Cond) ∈ gz_W := tb_1 (List.mem_of_getElem? (i := 145) rfl) rfl
theorem kw_62 : (.classLink R_Tale 24 R_WriteCodes : Cond) ∈ gz_W := tb_1 (List.mem_of_getElem? (i := 125) rfl) rfl
theorem kw_63 : (.instantiable R_WriteCodes 2 : Cond) ∈ gz_W := tb_1 (List.mem_of_getElem? (i := 126) rfl) rfl
theorem kw_64 : (.initialized R_WriteCodes : Cond) ∈ gz_W := tb_1 (List.mem_of_getElem? (i := 8) rfl) rfl
theorem kw_65 : (.methodLink R_WriteCodes 3 objectInit : Cond) ∈ gz_W := tb_1 (List.mem_of_getElem? (i := 130) rfl) rfl
theorem kw_66 : (.fieldLink R_WriteCodes 9 "BlockPacker$WriteCodes" "lengths" "[I" : Cond) ∈ gz_W := tb_1 (List.mem_of_getElem? (i := 131) rfl) rfl
theorem kw_67 : (.fieldLink R_WriteCodes 15 "BlockPacker$WriteCodes" "turnedCodes" "[I" : Cond) ∈ gz_W := tb_1 (List.mem_of_getElem? (i := 136) rfl) rfl
theorem kw_68 : (.code y_WriteCodes_init b_WriteCodes_init 1 none : Cond) ∈ gz_W := tb_1 (List.mem_of_getElem? (i := 129) rfl) rfl
theorem kw_69 : (.instanceMethod y_WriteCodes_init : Cond) ∈ gz_W := tb_1 (List.mem_of_getElem? (i := 128) rfl) rfl
theorem kw_70 : (.fieldLink R_Tale 27 "BlockPacker$Tale" "codes" "LBlockPacker$WriteCodes;" : Cond) ∈ gz_W := tb_1 (List.mem_of_getElem? (i := 146) rfl) rfl
theorem kw_71 : (.fieldLink R_Tale 31 "BlockPacker$Tale" "itemCount" "I" : Cond) ∈ gz_W := tb_1 (List.mem_of_getElem? (i := 147) rfl) rfl
theorem kw_72 : (.fieldLink R_Tale 35 "BlockPacker$Tale" "symbols" "I" : Cond) ∈ gz_W := tb_1 (List.mem_of_getElem? (i := 148) rfl) rfl
theorem kw_73 : (.fieldLink R_Tale 38 "BlockPacker$Tale" "distances" "I" : Cond) ∈ gz_W := tb_1 (List.mem_of_getElem? (i := 149) rfl) rfl
theorem kw_74 : (.fieldLink R_Tale 41 "BlockPacker$Tale" "lengthCodes" "I" : Cond) ∈ gz_W := tb_1 (List.mem_of_getElem? (i := 150) rfl) rfl
theorem kw_75 : (.code y_Tale_init b_Tale_init 1 none : Cond) ∈ gz_W := tb_1 (List.mem_of_getElem? (i := 123) rfl) rfl
theorem kw_76 : (.instanceMethod y_Tale_init : Cond) ∈ gz_W := tb_1 (List.mem_of_getElem? (i := 122) rfl) rfl
theorem kw_77 : (.fieldLink R_Packer 35 "BlockPacker$Packer" "tale" "LBlockPacker$Tale;" : Cond) ∈ gz_W := tb_1 (List.mem_of_getElem? (i := 186) rfl) rfl
theorem kw_78 : (.classLink R_Packer 39 R_WriteCodes : Cond) ∈ gz_W := tb_1 (List.mem_of_getElem? (i := 170) rfl) rfl
theorem kw_79 : (.fieldLink R_Packer 42 "BlockPacker$Packer" "fixedSymbols" "LBlockPacker$WriteCodes;" : Cond) ∈ gz_W := tb_1 (List.mem_of_getElem? (i := 187) rfl) rfl
theorem kw_80 : (.fieldLink R_Packer 46 "BlockPacker$Packer" "fixedDistances" "LBlockPacker$WriteCodes;" : Cond) ∈ gz_W := tb_1 (List.mem_of_getElem? (i := 188) rfl) rfl
theorem kw_81 : (.fieldLink R_Packer 49 "BlockPacker$Packer" "madeSymbols" "LBlockPacker$WriteCodes;" : Cond) ∈ gz_W := tb_1 (List.mem_of_getElem? (i := 189) rfl) rfl
theorem kw_82 : (.fieldLink R_Packer 52 "BlockPacker$Packer" "madeDistances" "LBlockPacker$WriteCodes;" : Cond) ∈ gz_W := tb_1 (List.mem_of_getElem? (i := 191) rfl) rfl
theorem kw_83 : (.fieldLink R_Packer 55 "BlockPacker$Packer" "storedBlocks" "I" : Cond) ∈ gz_W := tb_1 (List.mem_of_getElem? (i := 193) rfl) rfl
theorem kw_84 : (.fieldLink R_Packer 59 "BlockPacker$Packer" "fixedBlocks" "I" : Cond) ∈ gz_W := tb_1 (List.mem_of_getElem? (i := 195) rfl) rfl
theorem kw_85 : (.fieldLink R_Packer 62 "BlockPacker$Packer" "madeBlocks" "I" : Cond) ∈ gz_W := tb_1 (List.mem_of_getElem? (i := 197) rfl) rfl
theorem kw_86 : (.fieldLink R_Packer 65 "BlockPacker$Packer" "matches" "I" : Cond) ∈ gz_W := tb_1 (List.mem_of_getElem? (i := 199) rfl) rfl
theorem kw_87 : (.fieldLink R_Packer 68 "BlockPacker$Packer" "singles" "I" : Cond) ∈ gz_W := tb_1 (List.mem_of_getElem? (i := 201) rfl) rfl
theorem kw_88 : (.fieldLink R_Packer 71 "BlockPacker$WriteCodes" "lengths" "[I" : Cond) ∈ gz_W := tb_1 (List.mem_of_getElem? (i := 132) rfl) rfl
theorem kw_89 : (.code y_Bp_fixedLength b_Bp_fixedLength 1 (some .int) : Cond) ∈ gz_W := tb_1 (List.mem_of_getElem? (i := 174) rfl) rfl
theorem kw_90 : (.initialized R_Bp : Cond) ∈ gz_W := tb_1 (List.mem_of_getElem? (i := 1) rfl) rfl
theorem kw_91 : (.static y_Bp_fixedLength : Cond) ∈ gz_W := tb_1 (List.mem_of_getElem? (i := 173) rfl) rfl
theorem kw_92 : (.code y_WriteCodes_turned b_WriteCodes_turned 5 (some .int) : Cond) ∈ gz_W := tb_1 (List.mem_of_getElem? (i := 182) rfl) rfl
theorem kw_93 : (.methodLink R_WriteCodes 18 y_WriteCodes_turned : Cond) ∈ gz_W := tb_1 (List.mem_of_getElem? (i := 179) rfl) rfl
theorem kw_94 : (.instanceMethod y_WriteCodes_turned : Cond) ∈ gz_W := tb_1 (List.mem_of_getElem? (i := 181) rfl) rfl
theorem kw_95 : (.selects R_WriteCodes y_WriteCodes_turned y_WriteCodes_turned : Cond) ∈ gz_W := tb_0 (List.mem_of_getElem? (i := 0) rfl) rfl
theorem kw_96 : (.code y_WriteCodes_makeCodes b_WriteCodes_makeCodes 4 none : Cond) ∈ gz_W := tb_1 (List.mem_of_getElem? (i := 178) rfl) rfl
theorem kw_97 : (.methodLink R_Packer 79 y_WriteCodes_makeCodes : Cond) ∈ gz_W := tb_1 (List.mem_of_getElem? (i := 175) rfl) rfl
theorem kw_98 : (.instanceMethod y_WriteCodes_makeCodes : Cond) ∈ gz_W := tb_1 (List.mem_of_getElem? (i := 176) rfl) rfl
theorem kw_99 : (.selects R_WriteCodes y_WriteCodes_makeCodes y_WriteCodes_makeCodes : Cond) ∈ gz_W := tb_1 (List.mem_of_getElem? (i := 177) rfl) rfl
theorem kw_100 : (.code y_Packer_init b_Packer_init 2 none : Cond) ∈ gz_W := tb_1 (List.mem_of_getElem? (i := 52) rfl) rfl
theorem kw_101 : (.methodLink R_Bp 21 y_Packer_init : Cond) ∈ gz_W := tb_1 (List.mem_of_getElem? (i := 50) rfl) rfl
theorem kw_102 : (.instanceMethod y_Packer_init : Cond) ∈ gz_W := tb_1 (List.mem_of_getElem? (i := 51) rfl) rfl
theorem kw_103 : (.fieldLink R_Bp 22 "BlockPacker" "packer" "LBlockPacker$Packer;" : Cond) ∈ gz_W := tb_2 (List.mem_of_getElem? (i := 67) rfl) rfl
theorem kw_104 : (.classLink R_Bp 26 R_Unpacker : Cond) ∈ gz_W := tb_1 (List.mem_of_getElem? (i := 230) rfl) rfl
theorem kw_105 : (.instantiable R_Unpacker 11 : Cond) ∈ gz_W := tb_1 (List.mem_of_getElem? (i := 231) rfl) rfl
theorem kw_106 : (.initialized R_Unpacker : Cond) ∈ gz_W := tb_1 (List.mem_of_getElem? (i := 9) rfl) rfl
theorem kw_107 : (.methodLink R_Unpacker 3 objectInit : Cond) ∈ gz_W := tb_1 (List.mem_of_getElem? (i := 235) rfl) rfl
theorem kw_108 : (.classLink R_Unpacker 9 R_ReadCodes : Cond) ∈ gz_W := tb_1 (List.mem_of_getElem? (i := 236) rfl) rfl
theorem kw_109 : (.instantiable R_ReadCodes 4 : Cond) ∈ gz_W := tb_1 (List.mem_of_getElem? (i := 237) rfl) rfl
theorem kw_110 : (.initialized R_ReadCodes : Cond) ∈ gz_W := tb_1 (List.mem_of_getElem? (i := 10) rfl) rfl
theorem kw_111 : (.methodLink R_ReadCodes 3 objectInit : Cond) ∈ gz_W := tb_2 (List.mem_of_getElem? (i := 1) rfl) rfl
theorem kw_112 : (.fieldLink R_ReadCodes 9 "BlockPacker$ReadCodes" "counts" "[I" : Cond) ∈ gz_W := tb_2 (List.mem_of_getElem? (i := 2) rfl) rfl
theorem kw_113 : (.fieldLink R_ReadCodes 15 "BlockPacker$ReadCodes" "symbols" "[I" : Cond) ∈ gz_W := tb_2 (List.mem_of_getElem? (i := 3) rfl) rfl
theorem kw_114 : (.fieldLink R_ReadCodes 18 "BlockPacker$ReadCodes" "codes" "I" : Cond) ∈ gz_W := tb_2 (List.mem_of_getElem? (i := 4) rfl) rfl
theorem kw_115 : (.fieldLink R_ReadCodes 22 "BlockPacker$ReadCodes" "longest" "I" : Cond) ∈ gz_W := tb_2 (List.mem_of_getElem? (i := 5) rfl) rfl
theorem kw_116 : (.code y_ReadCodes_init b_ReadCodes_init 1 none : Cond) ∈ gz_W := tb_2 (List.mem_of_getElem? (i := 0) rfl) rfl
theorem kw_117 : (.instanceMethod y_ReadCodes_init : Cond) ∈ gz_W := tb_1 (List.mem_of_getElem? (i := 239) rfl) rfl
theorem kw_118 : (.fieldLink R_Unpacker 12 "BlockPacker$Unpacker" "fixedSymbols" "LBlockPacker$ReadCodes;" : Cond) ∈ gz_W := tb_2 (List.mem_of_getElem? (i := 28) rfl) rfl
theorem kw_119 : (.fieldLink R_Unpacker 18 "BlockPacker$Unpacker" "fixedDistances" "LBlockPacker$ReadCodes;" : Cond) ∈ gz_W := tb_2 (List.mem_of_getElem? (i := 29) rfl) rfl
theorem kw_120 : (.fieldLink R_Unpacker 21 "BlockPacker$Unpacker" "madeSymbols" "LBlockPacker$ReadCodes;" : Cond) ∈ gz_W := tb_2 (List.mem_of_getElem? (i := 30) rfl) rfl
theorem kw_121 : (.fieldLink R_Unpacker 24 "BlockPacker$Unpacker" "madeDistances" "LBlockPacker$ReadCodes;" : Cond) ∈ gz_W := tb_2 (List.mem_of_getElem? (i := 31) rfl) rfl
theorem kw_122 : (.fieldLink R_Unpacker 27 "BlockPacker$Unpacker" "lengthCodes" "LBlockPacker$ReadCodes;" : Cond) ∈ gz_W := tb_2 (List.mem_of_getElem? (i := 32) rfl) rfl
theorem kw_123 : (.fieldLink R_Unpacker 30 "BlockPacker$Unpacker" "lengths" "[I" : Cond) ∈ gz_W := tb_2 (List.mem_of_getElem? (i := 33) rfl) rfl
theorem kw_124 : (.fieldLink R_Unpacker 34 "BlockPacker$Unpacker" "farthest" "I" : Cond) ∈ gz_W := tb_2 (List.mem_of_getElem? (i := 34) rfl) rfl
theorem kw_125 : (.fieldLink R_Unpacker 38 "BlockPacker$Unpacker" "last" "Z" : Cond) ∈ gz_W := tb_2 (List.mem_of_getElem? (i := 35) rfl) rfl
theorem kw_126 : (.fieldLink R_Unpacker 42 "BlockPacker$Unpacker" "blocks" "I" : Cond) ∈ gz_W := tb_2 (List.mem_of_getElem? (i := 36) rfl) rfl
theorem kw_127 : (.fieldLink R_Unpacker 45 "BlockPacker$Unpacker" "matches" "I" : Cond) ∈ gz_W := tb_2 (List.mem_of_getElem? (i := 38) rfl) rfl
theorem kw_128 : (.fieldLink R_Unpacker 48 "BlockPacker$Unpacker" "bitsRead" "I" : Cond) ∈ gz_W := tb_2 (List.mem_of_getElem? (i := 40) rfl) rfl
theorem kw_129 : (.code y_Ar_fill2 b_Ar_fill2 4 none : Cond) ∈ gz_W := tb_2 (List.mem_of_getElem? (i := 22) rfl) rfl
theorem kw_130 : (.initialized "java/util/Arrays" : Cond) ∈ gz_W := tb_1 (List.mem_of_getElem? (i := 11) rfl) rfl
theorem kw_131 : (.methodLink R_ReadCodes 25 y_Ar_fill2 : Cond) ∈ gz_W := tb_2 (List.mem_of_getElem? (i := 20) rfl) rfl
theorem kw_132 : (.static y_Ar_fill2 : Cond) ∈ gz_W := tb_2 (List.mem_of_getElem? (i := 21) rfl) rfl
theorem kw_133 : (.code y_ReadCodes_addSymbols b_ReadCodes_addSymbols 6 none : Cond) ∈ gz_W := tb_2 (List.mem_of_getElem? (i := 26) rfl) rfl
theorem kw_134 : (.methodLink R_ReadCodes 31 y_ReadCodes_addSymbols : Cond) ∈ gz_W := tb_2 (List.mem_of_getElem? (i := 23) rfl) rfl
theorem kw_135 : (.instanceMethod y_ReadCodes_addSymbols : Cond) ∈ gz_W := tb_2 (List.mem_of_getElem? (i := 25) rfl) rfl
theorem kw_136 : (.selects R_ReadCodes y_ReadCodes_addSymbols y_ReadCodes_addSymbols : Cond) ∈ gz_W := tb_0 (List.mem_of_getElem? (i := 1) rfl) rfl
theorem kw_137 : (.code y_ReadCodes_make b_ReadCodes_make 5 none : Cond) ∈ gz_W := tb_2 (List.mem_of_getElem? (i := 19) rfl) rfl
theorem kw_138 : (.methodLink R_Unpacker 55 y_ReadCodes_make : Cond) ∈ gz_W := tb_2 (List.mem_of_getElem? (i := 16) rfl) rfl
theorem kw_139 : (.instanceMethod y_ReadCodes_make : Cond) ∈ gz_W := tb_2 (List.mem_of_getElem? (i := 17) rfl) rfl
theorem kw_140 : (.selects R_ReadCodes y_ReadCodes_make y_ReadCodes_make : Cond) ∈ gz_W := tb_2 (List.mem_of_getElem? (i := 18) rfl) rfl
theorem kw_141 : (.methodLink R_Unpacker 59 y_Ar_fill2 : Cond) ∈ gz_W := tb_2 (List.mem_of_getElem? (i := 27) rfl) rfl
theorem kw_142 : (.code y_Unpacker_init b_Unpacker_init 3 none : Cond) ∈ gz_W := tb_1 (List.mem_of_getElem? (i := 234) rfl) rfl
theorem kw_143 : (.methodLink R_Bp 28 y_Unpacker_init : Cond) ∈ gz_W := tb_1 (List.mem_of_getElem? (i := 232) rfl) rfl
theorem kw_144 : (.instanceMethod y_Unpacker_init : Cond) ∈ gz_W := tb_1 (List.mem_of_getElem? (i := 233) rfl) rfl
theorem kw_145 : (.fieldLink R_Bp 29 "BlockPacker" "unpacker" "LBlockPacker$Unpacker;" : Cond) ∈ gz_W := tb_2 (List.mem_of_getElem? (i := 68) rfl) rfl
theorem kw_146 : (.fieldLink R_Bp 33 "BlockPacker$Row" "count" "I" : Cond) ∈ gz_W := tb_1 (List.mem_of_getElem? (i := 34) rfl) rfl
theorem kw_147 : (.code y_Row_add b_Row_add 3 (some .boolean) : Cond) ∈ gz_W := tb_2 (List.mem_of_getElem? (i := 85) rfl) rfl
theorem kw_148 : (.methodLink R_Bp 37 y_Row_add : Cond) ∈ gz_W := tb_2 (List.mem_of_getElem? (i := 82) rfl) rfl
theorem kw_149 : (.instanceMethod y_Row_add : Cond) ∈ gz_W := tb_2 (List.mem_of_getElem? (i := 83) rfl) rfl
theorem kw_150 : (.selects R_Row y_Row_add y_Row_add : Cond) ∈ gz_W := tb_2 (List.mem_of_getElem? (i := 84) rfl) rfl
theorem kw_151 : (.code y_Row_has b_Row_has 2 (some .boolean) : Cond) ∈ gz_W := tb_2 (List.mem_of_getElem? (i := 93) rfl) rfl
theorem kw_152 : (.methodLink R_Bp 41 y_Row_has : Cond) ∈ gz_W := tb_2 (List.mem_of_getElem? (i := 90) rfl) rfl
theorem kw_153 : (.instanceMethod y_Row_has : Cond) ∈ gz_W := tb_2 (List.mem_of_getElem? (i := 91) rfl) rfl
theorem kw_154 : (.selects R_Row y_Row_has y_Row_has : Cond) ∈ gz_W := tb_2 (List.mem_of_getElem? (i := 92) rfl) rfl
theorem kw_155 : (.constant R_Bp 45 (1103515245 : Int32) : Cond) ∈ gz_W := tb_2 (List.mem_of_getElem? (i := 94) rfl) rfl
theorem kw_156 : (.code y_Row_byteAt b_Row_byteAt 2 (some .int) : Cond) ∈ gz_W := tb_2 (List.mem_of_getElem? (i := 102) rfl) rfl
theorem kw_157 : (.methodLink R_Bp 50 y_Row_byteAt : Cond) ∈ gz_W := tb_2 (List.mem_of_getElem? (i := 99) rfl) rfl
theorem kw_158 : (.instanceMethod y_Row_byteAt : Cond) ∈ gz_W := tb_2 (List.mem_of_getElem? (i := 100) rfl) rfl
theorem kw_159 : (.selects R_Row y_Row_byteAt y_Row_byteAt : Cond) ∈ gz_W := tb_2 (List.mem_of_getElem? (i := 101) rfl) rfl
theorem kw_160 : (.code y_Bp_filling b_Bp_filling 5 (some .int) : Cond) ∈ gz_W := tb_2 (List.mem_of_getElem? (i := 98) rfl) rfl
theorem kw_161 : (.methodLink R_Bp 46 y_Bp_filling : Cond) ∈ gz_W := tb_2 (List.mem_of_getElem? (i := 95) rfl) rfl
theorem kw_162 : (.instanceMethod y_Bp_filling : Cond) ∈ gz_W := tb_2 (List.mem_of_getElem? (i := 97) rfl) rfl
theorem kw_163 : (.selects R_Bp y_Bp_filling y_Bp_filling : Cond) ∈ gz_W := tb_0 (List.mem_of_getElem? (i := 2) rfl) rfl
theorem kw_164 : (.fieldLink R_Bp 54 "BlockPacker$Row" "bytes" "[B" : Cond) ∈ gz_W := tb_1 (List.mem_of_getElem? (i := 31) rfl) rfl
theorem kw_165 : (.methodLink R_Bp 58 Lib.Math.min.name : Cond) ∈ gz_W := tb_2 (List.mem_of_getElem? (i := 115) rfl) rfl
theorem kw_166 : (.static Lib.Math.min.name : Cond) ∈ gz_W := tb_2 (List.mem_of_getElem? (i := 116) rfl) rfl
theorem kw_167 : (.initialized "java/lang/Math" : Cond) ∈ gz_W := tb_1 (List.mem_of_getElem? (i := 13) rfl) rfl
theorem kw_168 : (.code Lib.Math.min.name Lib.Math.min.code 2 (some .int) : Cond) ∈ gz_W := tb_2 (List.mem_of_getElem? (i := 117) rfl) rfl
theorem kw_169 : (.methodLink R_Bp 64 arraycopyName : Cond) ∈ gz_W := tb_2 (List.mem_of_getElem? (i := 118) rfl) rfl
theorem kw_170 : (.native arraycopyName : Cond) ∈ gz_W := tb_2 (List.mem_of_getElem? (i := 120) rfl) rfl
theorem kw_171 : (.static arraycopyName : Cond) ∈ gz_W := tb_2 (List.mem_of_getElem? (i := 119) rfl) rfl
theorem kw_172 : (.initialized "java/lang/System" : Cond) ∈ gz_W := tb_1 (List.mem_of_getElem? (i := 14) rfl) rfl
theorem kw_173 : (.code y_Row_clear b_Row_clear 1 none : Cond) ∈ gz_W := tb_2 (List.mem_of_getElem? (i := 140) rfl) rfl
theorem kw_174 : (.methodLink R_Packer 82 y_Row_clear : Cond) ∈ gz_W := tb_2 (List.mem_of_getElem? (i := 137) rfl) rfl
theorem kw_175 : (.instanceMethod y_Row_clear : Cond) ∈ gz_W := tb_2 (List.mem_of_getElem? (i := 138) rfl) rfl
theorem kw_176 : (.selects R_Row y_Row_clear y_Row_clear : Cond) ∈ gz_W := tb_2 (List.mem_of_getElem? (i := 139) rfl) rfl
theorem kw_177 : (.code y_Row_putNumber b_Row_putNumber 5 none : Cond) ∈ gz_W := tb_2 (List.mem_of_getElem? (i := 144) rfl) rfl
theorem kw_178 : (.methodLink R_Packer 87 y_Row_putNumber : Cond) ∈ gz_W := tb_2 (List.mem_of_getElem? (i := 141) rfl) rfl
theorem kw_179 : (.instanceMethod y_Row_putNumber : Cond) ∈ gz_W := tb_2 (List.mem_of_getElem? (i := 142) rfl) rfl
theorem kw_180 : (.selects R_Row y_Row_putNumber y_Row_putNumber : Cond) ∈ gz_W := tb_2 (List.mem_of_getElem? (i := 143) rfl) rfl
theorem kw_181 : (.fieldLink R_Matcher 28 "BlockPacker$Row" "count" "I" : Cond) ∈ gz_W := tb_1 (List.mem_of_getElem? (i := 33) rfl) rfl
theorem kw_182 : (.methodLink R_Matcher 33 Lib.Math.min.name : Cond) ∈ gz_W := tb_2 (List.mem_of_getElem? (i := 149) rfl) rfl
theorem kw_183 : (.methodLink R_Matcher 47 y_Ar_fill2 : Cond) ∈ gz_W := tb_2 (List.mem_of_getElem? (i := 154) rfl) rfl
theorem kw_184 : (.fieldLink R_Matcher 53 "BlockPacker$Row" "bytes" "[B" : Cond) ∈ gz_W := tb_1 (List.mem_of_getElem? (i := 30) rfl) rfl
theorem kw_185 : (.code y_Matcher_sort b_Matcher_sort 8 none : Cond) ∈ gz_W := tb_2 (List.mem_of_getElem? (i := 153) rfl) rfl
theorem kw_186 : (.methodLink R_Matcher 39 y_Matcher_sort : Cond) ∈ gz_W := tb_2 (List.mem_of_getElem? (i := 150) rfl) rfl
theorem kw_187 : (.instanceMethod y_Matcher_sort : Cond) ∈ gz_W := tb_2 (List.mem_of_getElem? (i := 152) rfl) rfl
theorem kw_188 : (.selects R_Matcher y_Matcher_sort y_Matcher_sort : Cond) ∈ gz_W := tb_0 (List.mem_of_getElem? (i := 3) rfl) rfl
theorem kw_189 : (.code y_Matcher_sameThree b_Matcher_sameThree 4 (some .boolean) : Cond) ∈ gz_W := tb_2 (List.mem_of_getElem? (i := 158) rfl) rfl
theorem kw_190 : (.methodLink R_Matcher 43 y_Matcher_sameThree : Cond) ∈ gz_W := tb_2 (List.mem_of_getElem? (i := 155) rfl) rfl
theorem kw_191 : (.instanceMethod y_Matcher_sameThree : Cond) ∈ gz_W := tb_2 (List.mem_of_getElem? (i := 157) rfl) rfl
theorem kw_192 : (.selects R_Matcher y_Matcher_sameThree y_Matcher_sameThree : Cond) ∈ gz_W := tb_0 (List.mem_of_getElem? (i := 4) rfl) rfl
theorem kw_193 : (.code y_Matcher_prepare b_Matcher_prepare 5 none : Cond) ∈ gz_W := tb_2 (List.mem_of_getElem? (i := 148) rfl) rfl
theorem kw_194 : (.methodLink R_Packer 91 y_Matcher_prepare : Cond) ∈ gz_W := tb_2 (List.mem_of_getElem? (i := 145) rfl) rfl
theorem kw_195 : (.instanceMethod y_Matcher_prepare : Cond) ∈ gz_W := tb_2 (List.mem_of_getElem? (i := 146) rfl) rfl
theorem kw_196 : (.selects R_Matcher y_Matcher_prepare y_Matcher_prepare : Cond) ∈ gz_W := tb_2 (List.mem_of_getElem? (i := 147) rfl) rfl
theorem kw_197 : (.fieldLink R_Packer 95 "BlockPacker$Row" "count" "I" : Cond) ∈ gz_W := tb_1 (List.mem_of_getElem? (i := 35) rfl) rfl
theorem kw_198 : (.code y_Row_skipToByte b_Row_skipToByte 1 none : Cond) ∈ gz_W := tb_3 (List.mem_of_getElem? (i := 45) rfl) rfl
theorem kw_199 : (.methodLink R_Packer 125 y_Row_skipToByte : Cond) ∈ gz_W := tb_3 (List.mem_of_getElem? (i := 42) rfl) rfl
theorem kw_200 : (.instanceMethod y_Row_skipToByte : Cond) ∈ gz_W := tb_3 (List.mem_of_getElem? (i := 43) rfl) rfl
theorem kw_201 : (.selects R_Row y_Row_skipToByte y_Row_skipToByte : Cond) ∈ gz_W := tb_3 (List.mem_of_getElem? (i := 44) rfl) rfl
theorem kw_202 : (.methodLink R_Row 29 y_Row_byteAt : Cond) ∈ gz_W := tb_3 (List.mem_of_getElem? (i := 81) rfl) rfl
theorem kw_203 : (.constant R_Row 33 (65521 : Int32) : Cond) ∈ gz_W := tb_3 (List.mem_of_getElem? (i := 82) rfl) rfl
theorem kw_204 : (.code y_Row_check b_Row_check 4 (some .int) : Cond) ∈ gz_W := tb_3 (List.mem_of_getElem? (i := 80) rfl) rfl
theorem kw_205 : (.methodLink R_Packer 128 y_Row_check : Cond) ∈ gz_W := tb_3 (List.mem_of_getElem? (i := 77) rfl) rfl
theorem kw_206 : (.instanceMethod y_Row_check : Cond) ∈ gz_W := tb_3 (List.mem_of_getElem? (i := 78) rfl) rfl
theorem kw_207 : (.selects R_Row y_Row_check y_Row_check : Cond) ∈ gz_W := tb_3 (List.mem_of_getElem? (i := 79) rfl) rfl
theorem kw_208 : (.methodLink R_Packer 98 Lib.Math.min.name : Cond) ∈ gz_W := tb_2 (List.mem_of_getElem? (i := 159) rfl) rfl
theorem kw_209 : (.methodLink R_Found 25 y_Ar_fill2 : Cond) ∈ gz_W := tb_2 (List.mem_of_getElem? (i := 168) rfl) rfl
theorem kw_210 : (.code y_Found_start b_Found_start 1 none : Cond) ∈ gz_W := tb_2 (List.mem_of_getElem? (i := 167) rfl) rfl
theorem kw_211 : (.methodLink R_Packer 132 y_Found_start : Cond) ∈ gz_W := tb_2 (List.mem_of_getElem? (i := 164) rfl) rfl
theorem kw_212 : (.instanceMethod y_Found_start : Cond) ∈ gz_W := tb_2 (List.mem_of_getElem? (i := 165) rfl) rfl
theorem kw_213 : (.selects R_Found y_Found_start y_Found_start : Cond) ∈ gz_W := tb_2 (List.mem_of_getElem? (i := 166) rfl) rfl
theorem kw_214 : (.code y_Matcher_countSame b_Matcher_countSame 6 (some .int) : Cond) ∈ gz_W := tb_2 (List.mem_of_getElem? (i := 176) rfl) rfl
theorem kw_215 : (.methodLink R_Matcher 57 y_Matcher_countSame : Cond) ∈ gz_W := tb_2 (List.mem_of_getElem? (i := 173) rfl) rfl
theorem kw_216 : (.instanceMethod y_Matcher_countSame : Cond) ∈ gz_W := tb_2 (List.mem_of_getElem? (i := 175) rfl) rfl
theorem kw_217 : (.selects R_Matcher y_Matcher_countSame y_Matcher_countSame : Cond) ∈ gz_W := tb_0 (List.mem_of_getElem? (i := 6) rfl) rfl
theorem kw_218 : (.code y_Matcher_find b_Matcher_find 9 none : Cond) ∈ gz_W := tb_2 (List.mem_of_getElem? (i := 172) rfl) rfl
theorem kw_219 : (.methodLink R_Packer 135 y_Matcher_find : Cond) ∈ gz_W := tb_2 (List.mem_of_getElem? (i := 169) rfl) rfl
theorem kw_220 : (.instanceMethod y_Matcher_find : Cond) ∈ gz_W := tb_2 (List.mem_of_getElem? (i := 170) rfl) rfl
theorem kw_221 : (.selects R_Matcher y_Matcher_find y_Matcher_find : Cond) ∈ gz_W := tb_2 (List.mem_of_getElem? (i := 171) rfl) rfl
theorem kw_222 : (.fieldLink R_Packer 139 "BlockPacker$Matcher" "length" "I" : Cond) ∈ gz_W := tb_1 (List.mem_of_getElem? (i := 64) rfl) rfl
theorem kw_223 : (.fieldLink R_Packer 142 "BlockPacker$Matcher" "distance" "I" : Cond) ∈ gz_W := tb_1 (List.mem_of_getElem? (i := 66) rfl) rfl
theorem kw_224 : (.methodLink R_Packer 145 y_Row_byteAt : Cond) ∈ gz_W := tb_2 (List.mem_of_getElem? (i := 177) rfl) rfl
theorem kw_225 : (.code y_Found_addItem b_Found_addItem 2 none : Cond) ∈ gz_W := tb_2 (List.mem_of_getElem? (i := 185) rfl) rfl
theorem kw_226 : (.methodLink R_Found 31 y_Found_addItem : Cond) ∈ gz_W := tb_2 (List.mem_of_getElem? (i := 182) rfl) rfl
theorem kw_227 : (.instanceMethod y_Found_addItem : Cond) ∈ gz_W := tb_2 (List.mem_of_getElem? (i := 184) rfl) rfl
theorem kw_228 : (.selects R_Found y_Found_addItem y_Found_addItem : Cond) ∈ gz_W := tb_0 (List.mem_of_getElem? (i := 7) rfl) rfl
theorem kw_229 : (.code y_Found_addSingle b_Found_addSingle 2 none : Cond) ∈ gz_W := tb_2 (List.mem_of_getElem? (i := 181) rfl) rfl
theorem kw_230 : (.methodLink R_Packer 148 y_Found_addSingle : Cond) ∈ gz_W := tb_2 (List.mem_of_getElem? (i := 178) rfl) rfl
theorem kw_231 : (.instanceMethod y_Found_addSingle : Cond) ∈ gz_W := tb_2 (List.mem_of_getElem? (i := 179) rfl) rfl
theorem kw_232 : (.selects R_Found y_Found_addSingle y_Found_addSingle : Cond) ∈ gz_W := tb_2 (List.mem_of_getElem? (i := 180) rfl) rfl
theorem kw_233 : (.code y_Bp_bitsIn b_Bp_bitsIn 2 (some .int) : Cond) ∈ gz_W := tb_2 (List.mem_of_getElem? (i := 195) rfl) rfl
theorem kw_234 : (.methodLink R_Bp 118 y_Bp_bitsIn : Cond) ∈ gz_W := tb_2 (List.mem_of_getElem? (i := 193) rfl) rfl
theorem kw_235 : (.static y_Bp_bitsIn : Cond) ∈ gz_W := tb_2 (List.mem_of_getElem? (i := 194) rfl) rfl
theorem kw_236 : (.methodLink R_Bp 121 Lib.Math.max.name : Cond) ∈ gz_W := tb_2 (List.mem_of_getElem? (i := 196) rfl) rfl
theorem kw_237 : (.static Lib.Math.max.name : Cond) ∈ gz_W := tb_2 (List.mem_of_getElem? (i := 197) rfl) rfl
theorem kw_238 : (.code Lib.Math.max.name Lib.Math.max.code 2 (some .int) : Cond) ∈ gz_W := tb_2 (List.mem_of_getElem? (i := 198) rfl) rfl
theorem kw_239 : (.code y_Bp_symbolForLength b_Bp_symbolForLength 3 (some .int) : Cond) ∈ gz_W := tb_2 (List.mem_of_getElem? (i := 192) rfl) rfl
theorem kw_240 : (.static y_Bp_symbolForLength : Cond) ∈ gz_W := tb_2 (List.mem_of_getElem? (i := 191) rfl) rfl
theorem kw_241 : (.code y_Bp_symbolForDistance b_Bp_symbolForDistance 3 (some .int) : Cond) ∈ gz_W := tb_2 (List.mem_of_getElem? (i := 201) rfl) rfl
theorem kw_242 : (.static y_Bp_symbolForDistance : Cond) ∈ gz_W := tb_2 (List.mem_of_getElem? (i := 200) rfl) rfl
theorem kw_243 : (.code y_Found_addMatch b_Found_addMatch 3 none : Cond) ∈ gz_W := tb_2 (List.mem_of_getElem? (i := 189) rfl) rfl
theorem kw_244 : (.methodLink R_Packer 152 y_Found_addMatch : Cond) ∈ gz_W := tb_2 (List.mem_of_getElem? (i := 186) rfl) rfl
theorem kw_245 : (.instanceMethod y_Found_addMatch : Cond) ∈ gz_W := tb_2 (List.mem_of_getElem? (i := 187) rfl) rfl
theorem kw_246 : (.selects R_Found y_Found_addMatch y_Found_addMatch : Cond) ∈ gz_W := tb_2 (List.mem_of_getElem? (i := 188) rfl) rfl
theorem kw_247 : (.methodLink R_Packer 155 Lib.Math.max.name : Cond) ∈ gz_W := tb_2 (List.mem_of_getElem? (i := 202) rfl) rfl
theorem kw_248 : (.code y_Packer_findSymbols b_Packer_findSymbols 11 none : Cond) ∈ gz_W := tb_2 (List.mem_of_getElem? (i := 163) rfl) rfl
theorem kw_249 : (.methodLink R_Packer 104 y_Packer_findSymbols : Cond) ∈ gz_W := tb_2 (List.mem_of_getElem? (i := 160) rfl) rfl
theorem kw_250 : (.instanceMethod y_Packer_findSymbols : Cond) ∈ gz_W := tb_2 (List.mem_of_getElem? (i := 162) rfl) rfl
theorem kw_251 : (.selects R_Packer y_Packer_findSymbols y_Packer_findSymbols : Cond) ∈ gz_W := tb_0 (List.mem_of_getElem? (i := 5) rfl) rfl
theorem kw_252 : (.fieldLink R_Packer 108 "BlockPacker$Found" "symbolCounts" "[I" : Cond) ∈ gz_W := tb_1 (List.mem_of_getElem? (i := 107) rfl) rfl
theorem kw_253 : (.methodLink R_LengthMaker 24 y_Ar_fill2 : Cond) ∈ gz_W := tb_2 (List.mem_of_getElem? (i := 207) rfl) rfl
theorem kw_254 : (.code y_LengthMaker_sortSymbols b_LengthMaker_sortSymbols 6 (some .int) : Cond) ∈ gz_W := tb_2 (List.mem_of_getElem? (i := 211) rfl) rfl
theorem kw_255 : (.methodLink R_LengthMaker 30 y_LengthMaker_sortSymbols : Cond) ∈ gz_W := tb_2 (List.mem_of_getElem? (i := 208) rfl) rfl
theorem kw_256 : (.instanceMethod y_LengthMaker_sortSymbols : Cond) ∈ gz_W := tb_2 (List.mem_of_getElem? (i := 210) rfl) rfl
theorem kw_257 : (.selects R_LengthMaker y_LengthMaker_sortSymbols y_LengthMaker_sortSymbols : Cond) ∈ gz_W := tb_0 (List.mem_of_getElem? (i := 8) rfl) rfl
theorem kw_258 : (.code y_LengthMaker_makeList b_LengthMaker_makeList 13 (some .int) : Cond) ∈ gz_W := tb_2 (List.mem_of_getElem? (i := 219) rfl) rfl
theorem kw_259 : (.methodLink R_LengthMaker 42 y_LengthMaker_makeList : Cond) ∈ gz_W := tb_2 (List.mem_of_getElem? (i := 216) rfl) rfl
theorem kw_260 : (.instanceMethod y_LengthMaker_makeList : Cond) ∈ gz_W := tb_2 (List.mem_of_getElem? (i := 218) rfl) rfl
theorem kw_261 : (.selects R_LengthMaker y_LengthMaker_makeList y_LengthMaker_makeList : Cond) ∈ gz_W := tb_0 (List.mem_of_getElem? (i := 10) rfl) rfl
theorem kw_262 : (.code y_LengthMaker_makeLists b_LengthMaker_makeLists 9 none : Cond) ∈ gz_W := tb_2 (List.mem_of_getElem? (i := 215) rfl) rfl
theorem kw_263 : (.methodLink R_LengthMaker 34 y_LengthMaker_makeLists : Cond) ∈ gz_W := tb_2 (List.mem_of_getElem? (i := 212) rfl) rfl
theorem kw_264 : (.instanceMethod y_LengthMaker_makeLists : Cond) ∈ gz_W := tb_2 (List.mem_of_getElem? (i := 214) rfl) rfl
theorem kw_265 : (.selects R_LengthMaker y_LengthMaker_makeLists y_LengthMaker_makeLists : Cond) ∈ gz_W := tb_0 (List.mem_of_getElem? (i := 9) rfl) rfl
theorem kw_266 : (.code y_LengthMaker_takeItems b_LengthMaker_takeItems 8 none : Cond) ∈ gz_W := tb_2 (List.mem_of_getElem? (i := 223) rfl) rfl
theorem kw_267 : (.methodLink R_LengthMaker 38 y_LengthMaker_takeItems : Cond) ∈ gz_W := tb_2 (List.mem_of_getElem? (i := 220) rfl) rfl
theorem kw_268 : (.instanceMethod y_LengthMaker_takeItems : Cond) ∈ gz_W := tb_2 (List.mem_of_getElem? (i := 222) rfl) rfl
theorem kw_269 : (.selects R_LengthMaker y_LengthMaker_takeItems y_LengthMaker_takeItems : Cond) ∈ gz_W := tb_0 (List.mem_of_getElem? (i := 11) rfl) rfl
theorem kw_270 : (.code y_LengthMaker_make b_LengthMaker_make 6 none : Cond) ∈ gz_W := tb_2 (List.mem_of_getElem? (i := 206) rfl) rfl
theorem kw_271 : (.methodLink R_Packer 111 y_LengthMaker_make : Cond) ∈ gz_W := tb_2 (List.mem_of_getElem? (i := 203) rfl) rfl
theorem kw_272 : (.instanceMethod y_LengthMaker_make : Cond) ∈ gz_W := tb_2 (List.mem_of_getElem? (i := 204) rfl) rfl
theorem kw_273 : (.selects R_LengthMaker y_LengthMaker_make y_LengthMaker_make : Cond) ∈ gz_W := tb_2 (List.mem_of_getElem? (i := 205) rfl) rfl
theorem kw_274 : (.fieldLink R_Packer 115 "BlockPacker$Found" "distanceCounts" "[I" : Cond) ∈ gz_W := tb_1 (List.mem_of_getElem? (i := 109) rfl) rfl
theorem kw_275 : (.fieldLink R_Tale 44 "BlockPacker$WriteCodes" "lengths" "[I" : Cond) ∈ gz_W := tb_1 (List.mem_of_getElem? (i := 133) rfl) rfl
theorem kw_276 : (.code y_Tale_needed b_Tale_needed 6 (some .int) : Cond) ∈ gz_W := tb_2 (List.mem_of_getElem? (i := 231) rfl) rfl
theorem kw_277 : (.methodLink R_Tale 47 y_Tale_needed : Cond) ∈ gz_W := tb_2 (List.mem_of_getElem? (i := 228) rfl) rfl
theorem kw_278 : (.instanceMethod y_Tale_needed : Cond) ∈ gz_W := tb_2 (List.mem_of_getElem? (i := 230) rfl) rfl
theorem kw_279 : (.selects R_Tale y_Tale_needed y_Tale_needed : Cond) ∈ gz_W := tb_0 (List.mem_of_getElem? (i := 12) rfl) rfl
theorem kw_280 : (.methodLink R_Tale 51 arraycopyName : Cond) ∈ gz_W := tb_2 (List.mem_of_getElem? (i := 232) rfl) rfl
theorem kw_281 : (.methodLink R_Tale 70 y_Ar_fill2 : Cond) ∈ gz_W := tb_2 (List.mem_of_getElem? (i := 237) rfl) rfl
theorem kw_282 : (.code y_Tale_addItem b_Tale_addItem 3 none : Cond) ∈ gz_W := tb_3 (List.mem_of_getElem? (i := 13) rfl) rfl
theorem kw_283 : (.methodLink R_Tale 84 y_Tale_addItem : Cond) ∈ gz_W := tb_3 (List.mem_of_getElem? (i := 10) rfl) rfl
theorem kw_284 : (.instanceMethod y_Tale_addItem : Cond) ∈ gz_W := tb_3 (List.mem_of_getElem? (i := 12) rfl) rfl
theorem kw_285 : (.selects R_Tale y_Tale_addItem y_Tale_addItem : Cond) ∈ gz_W := tb_0 (List.mem_of_getElem? (i := 16) rfl) rfl
theorem kw_286 : (.code y_Bp_leastOfTold b_Bp_leastOfTold 1 (some .int) : Cond) ∈ gz_W := tb_3 (List.mem_of_getElem? (i := 8) rfl) rfl
theorem kw_287 : (.static y_Bp_leastOfTold : Cond) ∈ gz_W := tb_3 (List.mem_of_getElem? (i := 7) rfl) rfl
theorem kw_288 : (.methodLink R_Tale 91 Lib.Math.min.name : Cond) ∈ gz_W := tb_3 (List.mem_of_getElem? (i := 9) rfl) rfl
theorem kw_289 : (.code y_Tale_tellBy b_Tale_tellBy 6 (some .int) : Cond) ∈ gz_W := tb_3 (List.mem_of_getElem? (i := 5) rfl) rfl
theorem kw_290 : (.methodLink R_Tale 80 y_Tale_tellBy : Cond) ∈ gz_W := tb_3 (List.mem_of_getElem? (i := 2) rfl) rfl
theorem kw_291 : (.instanceMethod y_Tale_tellBy : Cond) ∈ gz_W := tb_3 (List.mem_of_getElem? (i := 4) rfl) rfl
theorem kw_292 : (.selects R_Tale y_Tale_tellBy y_Tale_tellBy : Cond) ∈ gz_W := tb_0 (List.mem_of_getElem? (i := 15) rfl) rfl
theorem kw_293 : (.code y_Tale_tellStretch b_Tale_tellStretch 5 none : Cond) ∈ gz_W := tb_3 (List.mem_of_getElem? (i := 1) rfl) rfl
theorem kw_294 : (.methodLink R_Tale 76 y_Tale_tellStretch : Cond) ∈ gz_W := tb_2 (List.mem_of_getElem? (i := 238) rfl) rfl
theorem kw_295 : (.instanceMethod y_Tale_tellStretch : Cond) ∈ gz_W := tb_3 (List.mem_of_getElem? (i := 0) rfl) rfl
theorem kw_296 : (.selects R_Tale y_Tale_tellStretch y_Tale_tellStretch : Cond) ∈ gz_W := tb_0 (List.mem_of_getElem? (i := 14) rfl) rfl
theorem kw_297 : (.code y_Tale_tellRow b_Tale_tellRow 4 none : Cond) ∈ gz_W := tb_2 (List.mem_of_getElem? (i := 236) rfl) rfl
theorem kw_298 : (.methodLink R_Tale 57 y_Tale_tellRow : Cond) ∈ gz_W := tb_2 (List.mem_of_getElem? (i := 233) rfl) rfl
theorem kw_299 : (.instanceMethod y_Tale_tellRow : Cond) ∈ gz_W := tb_2 (List.mem_of_getElem? (i := 235) rfl) rfl
theorem kw_300 : (.selects R_Tale y_Tale_tellRow y_Tale_tellRow : Cond) ∈ gz_W := tb_0 (List.mem_of_getElem? (i := 13) rfl) rfl
theorem kw_301 : (.methodLink R_Tale 61 y_LengthMaker_make : Cond) ∈ gz_W := tb_3 (List.mem_of_getElem? (i := 14) rfl) rfl
theorem kw_302 : (.code y_Tale_make b_Tale_make 5 none : Cond) ∈ gz_W := tb_2 (List.mem_of_getElem? (i := 227) rfl) rfl
theorem kw_303 : (.methodLink R_Packer 118 y_Tale_make : Cond) ∈ gz_W := tb_2 (List.mem_of_getElem? (i := 224) rfl) rfl
theorem kw_304 : (.instanceMethod y_Tale_make : Cond) ∈ gz_W := tb_2 (List.mem_of_getElem? (i := 225) rfl) rfl
theorem kw_305 : (.selects R_Tale y_Tale_make y_Tale_make : Cond) ∈ gz_W := tb_2 (List.mem_of_getElem? (i := 226) rfl) rfl
theorem kw_306 : (.fieldLink R_Packer 158 "BlockPacker$Row" "place" "I" : Cond) ∈ gz_W := tb_1 (List.mem_of_getElem? (i := 39) rfl) rfl
theorem kw_307 : (.fieldLink R_Found 42 "BlockPacker$WriteCodes" "lengths" "[I" : Cond) ∈ gz_W := tb_1 (List.mem_of_getElem? (i := 134) rfl) rfl
theorem kw_308 : (.code y_Bp_extraOfSymbol b_Bp_extraOfSymbol 1 (some .int) : Cond) ∈ gz_W := tb_3 (List.mem_of_getElem? (i := 27) rfl) rfl
theorem kw_309 : (.static y_Bp_extraOfSymbol : Cond) ∈ gz_W := tb_3 (List.mem_of_getElem? (i := 26) rfl) rfl
theorem kw_310 : (.code y_Bp_extraOfDistance b_Bp_extraOfDistance 1 (some .int) : Cond) ∈ gz_W := tb_3 (List.mem_of_getElem? (i := 30) rfl) rfl
theorem kw_311 : (.static y_Bp_extraOfDistance : Cond) ∈ gz_W := tb_3 (List.mem_of_getElem? (i := 29) rfl) rfl
theorem kw_312 : (.code y_Found_bits b_Found_bits 5 (some .int) : Cond) ∈ gz_W := tb_3 (List.mem_of_getElem? (i := 24) rfl) rfl
theorem kw_313 : (.methodLink R_Packer 161 y_Found_bits : Cond) ∈ gz_W := tb_3 (List.mem_of_getElem? (i := 21) rfl) rfl
theorem kw_314 : (.instanceMethod y_Found_bits : Cond) ∈ gz_W := tb_3 (List.mem_of_getElem? (i := 22) rfl) rfl
theorem kw_315 : (.selects R_Found y_Found_bits y_Found_bits : Cond) ∈ gz_W := tb_3 (List.mem_of_getElem? (i := 23) rfl) rfl
theorem kw_316 : (.code y_Bp_extraOfTold b_Bp_extraOfTold 1 (some .int) : Cond) ∈ gz_W := tb_3 (List.mem_of_getElem? (i := 37) rfl) rfl
theorem kw_317 : (.static y_Bp_extraOfTold : Cond) ∈ gz_W := tb_3 (List.mem_of_getElem? (i := 36) rfl) rfl
theorem kw_318 : (.code y_Tale_bits b_Tale_bits 3 (some .int) : Cond) ∈ gz_W := tb_3 (List.mem_of_getElem? (i := 34) rfl) rfl
theorem kw_319 : (.methodLink R_Packer 165 y_Tale_bits : Cond) ∈ gz_W := tb_3 (List.mem_of_getElem? (i := 31) rfl) rfl
theorem kw_320 : (.instanceMethod y_Tale_bits : Cond) ∈ gz_W := tb_3 (List.mem_of_getElem? (i := 32) rfl) rfl
theorem kw_321 : (.selects R_Tale y_Tale_bits y_Tale_bits : Cond) ∈ gz_W := tb_3 (List.mem_of_getElem? (i := 33) rfl) rfl
theorem kw_322 : (.constant R_Packer 176 (65535 : Int32) : Cond) ∈ gz_W := tb_3 (List.mem_of_getElem? (i := 46) rfl) rfl
theorem kw_323 : (.code y_Packer_writeStored b_Packer_writeStored 6 none : Cond) ∈ gz_W := tb_3 (List.mem_of_getElem? (i := 41) rfl) rfl
theorem kw_324 : (.methodLink R_Packer 167 y_Packer_writeStored : Cond) ∈ gz_W := tb_3 (List.mem_of_getElem? (i := 38) rfl) rfl
theorem kw_325 : (.instanceMethod y_Packer_writeStored : Cond) ∈ gz_W := tb_3 (List.mem_of_getElem? (i := 40) rfl) rfl
theorem kw_326 : (.selects R_Packer y_Packer_writeStored y_Packer_writeStored : Cond) ∈ gz_W := tb_0 (List.mem_of_getElem? (i := 18) rfl) rfl
theorem kw_327 : (.methodLink R_Tale 100 y_Row_putNumber : Cond) ∈ gz_W := tb_3 (List.mem_of_getElem? (i := 74) rfl) rfl
theorem kw_328 : (.methodLink R_Tale 105 y_WriteCodes_makeCodes : Cond) ∈ gz_W := tb_3 (List.mem_of_getElem? (i := 75) rfl) rfl
theorem kw_329 : (.methodLink R_WriteCodes 22 y_Row_putNumber : Cond) ∈ gz_W := tb_3 (List.mem_of_getElem? (i := 55) rfl) rfl
theorem kw_330 : (.code y_WriteCodes_write b_WriteCodes_write 3 none : Cond) ∈ gz_W := tb_3 (List.mem_of_getElem? (i := 54) rfl) rfl
theorem kw_331 : (.methodLink R_Tale 108 y_WriteCodes_write : Cond) ∈ gz_W := tb_3 (List.mem_of_getElem? (i := 76) rfl) rfl
theorem kw_332 : (.instanceMethod y_WriteCodes_write : Cond) ∈ gz_W := tb_3 (List.mem_of_getElem? (i := 52) rfl) rfl
theorem kw_333 : (.selects R_WriteCodes y_WriteCodes_write y_WriteCodes_write : Cond) ∈ gz_W := tb_3 (List.mem_of_getElem? (i := 53) rfl) rfl
theorem kw_334 : (.code y_Tale_write b_Tale_write 3 none : Cond) ∈ gz_W := tb_3 (List.mem_of_getElem? (i := 73) rfl) rfl
theorem kw_335 : (.methodLink R_Packer 174 y_Tale_write : Cond) ∈ gz_W := tb_3 (List.mem_of_getElem? (i := 70) rfl) rfl
theorem kw_336 : (.instanceMethod y_Tale_write : Cond) ∈ gz_W := tb_3 (List.mem_of_getElem? (i := 71) rfl) rfl
theorem kw_337 : (.selects R_Tale y_Tale_write y_Tale_write : Cond) ∈ gz_W := tb_3 (List.mem_of_getElem? (i := 72) rfl) rfl
theorem kw_338 : (.methodLink R_Found 53 y_WriteCodes_write : Cond) ∈ gz_W := tb_3 (List.mem_of_getElem? (i := 51) rfl) rfl
theorem kw_339 : (.methodLink R_Bp 112 y_Bp_extraOfSymbol : Cond) ∈ gz_W := tb_3 (List.mem_of_getElem? (i := 63) rfl) rfl
theorem kw_340 : (.code y_Bp_baseOfSymbol b_Bp_baseOfSymbol 1 (some .int) : Cond) ∈ gz_W := tb_3 (List.mem_of_getElem? (i := 62) rfl) rfl
theorem kw_341 : (.static y_Bp_baseOfSymbol : Cond) ∈ gz_W := tb_3 (List.mem_of_getElem? (i := 61) rfl) rfl
theorem kw_342 : (.methodLink R_Found 64 y_Row_putNumber : Cond) ∈ gz_W := tb_3 (List.mem_of_getElem? (i := 64) rfl) rfl
theorem kw_343 : (.constant R_Found 70 (65535 : Int32) : Cond) ∈ gz_W := tb_3 (List.mem_of_getElem? (i := 65) rfl) rfl
theorem kw_344 : (.methodLink R_Bp 115 y_Bp_extraOfDistance : Cond) ∈ gz_W := tb_3 (List.mem_of_getElem? (i := 69) rfl) rfl
theorem kw_345 : (.code y_Bp_baseOfDistance b_Bp_baseOfDistance 1 (some .int) : Cond) ∈ gz_W := tb_3 (List.mem_of_getElem? (i := 68) rfl) rfl
theorem kw_346 : (.static y_Bp_baseOfDistance : Cond) ∈ gz_W := tb_3 (List.mem_of_getElem? (i := 67) rfl) rfl
theorem kw_347 : (.code y_Found_writeMatch b_Found_writeMatch 9 none : Cond) ∈ gz_W := tb_3 (List.mem_of_getElem? (i := 59) rfl) rfl
theorem kw_348 : (.methodLink R_Found 57 y_Found_writeMatch : Cond) ∈ gz_W := tb_3 (List.mem_of_getElem? (i := 56) rfl) rfl
theorem kw_349 : (.instanceMethod y_Found_writeMatch : Cond) ∈ gz_W := tb_3 (List.mem_of_getElem? (i := 58) rfl) rfl
theorem kw_350 : (.selects R_Found y_Found_writeMatch y_Found_writeMatch : Cond) ∈ gz_W := tb_0 (List.mem_of_getElem? (i := 19) rfl) rfl
theorem kw_351 : (.code y_Found_write b_Found_write 6 none : Cond) ∈ gz_W := tb_3 (List.mem_of_getElem? (i := 50) rfl) rfl
theorem kw_352 : (.methodLink R_Packer 170 y_Found_write : Cond) ∈ gz_W := tb_3 (List.mem_of_getElem? (i := 47) rfl) rfl
theorem kw_353 : (.instanceMethod y_Found_write : Cond) ∈ gz_W := tb_3 (List.mem_of_getElem? (i := 48) rfl) rfl
theorem kw_354 : (.selects R_Found y_Found_write y_Found_write : Cond) ∈ gz_W := tb_3 (List.mem_of_getElem? (i := 49) rfl) rfl
theorem kw_355 : (.code y_Packer_writeBlock b_Packer_writeBlock 8 none : Cond) ∈ gz_W := tb_3 (List.mem_of_getElem? (i := 20) rfl) rfl
theorem kw_356 : (.methodLink R_Packer 121 y_Packer_writeBlock : Cond) ∈ gz_W := tb_3 (List.mem_of_getElem? (i := 17) rfl) rfl
theorem kw_357 : (.instanceMethod y_Packer_writeBlock : Cond) ∈ gz_W := tb_3 (List.mem_of_getElem? (i := 19) rfl) rfl
theorem kw_358 : (.selects R_Packer y_Packer_writeBlock y_Packer_writeBlock : Cond) ∈ gz_W := tb_0 (List.mem_of_getElem? (i := 17) rfl) rfl
theorem kw_359 : (.code y_Packer_run b_Packer_run 7 none : Cond) ∈ gz_W := tb_2 (List.mem_of_getElem? (i := 136) rfl) rfl
theorem kw_360 : (.methodLink R_Bp 70 y_Packer_run : Cond) ∈ gz_W := tb_2 (List.mem_of_getElem? (i := 133) rfl) rfl
theorem kw_361 : (.instanceMethod y_Packer_run : Cond) ∈ gz_W := tb_2 (List.mem_of_getElem? (i := 134) rfl) rfl
theorem kw_362 : (.selects R_Packer y_Packer_run y_Packer_run : Cond) ∈ gz_W := tb_2 (List.mem_of_getElem? (i := 135) rfl) rfl
theorem kw_363 : (.fieldLink R_Unpacker 65 "BlockPacker$Row" "place" "I" : Cond) ∈ gz_W := tb_1 (List.mem_of_getElem? (i := 38) rfl) rfl
theorem kw_364 : (.methodLink R_Unpacker 70 y_Row_clear : Cond) ∈ gz_W := tb_3 (List.mem_of_getElem? (i := 91) rfl) rfl
theorem kw_365 : (.code y_Row_bitsLeft b_Row_bitsLeft 1 (some .int) : Cond) ∈ gz_W := tb_3 (List.mem_of_getElem? (i := 103) rfl) rfl
theorem kw_366 : (.methodLink R_Row 22 y_Row_bitsLeft : Cond) ∈ gz_W := tb_3 (List.mem_of_getElem? (i := 100) rfl) rfl
theorem kw_367 : (.instanceMethod y_Row_bitsLeft : Cond) ∈ gz_W := tb_3 (List.mem_of_getElem? (i := 101) rfl) rfl
theorem kw_368 : (.selects R_Row y_Row_bitsLeft y_Row_bitsLeft : Cond) ∈ gz_W := tb_3 (List.mem_of_getElem? (i := 102) rfl) rfl
theorem kw_369 : (.code y_Row_nextBit b_Row_nextBit 3 (some .int) : Cond) ∈ gz_W := tb_3 (List.mem_of_getElem? (i := 107) rfl) rfl
theorem kw_370 : (.methodLink R_Row 26 y_Row_nextBit : Cond) ∈ gz_W := tb_3 (List.mem_of_getElem? (i := 104) rfl) rfl
theorem kw_371 : (.instanceMethod y_Row_nextBit : Cond) ∈ gz_W := tb_3 (List.mem_of_getElem? (i := 105) rfl) rfl
theorem kw_372 : (.selects R_Row y_Row_nextBit y_Row_nextBit : Cond) ∈ gz_W := tb_3 (List.mem_of_getElem? (i := 106) rfl) rfl
theorem kw_373 : (.code y_Row_nextNumber b_Row_nextNumber 4 (some .int) : Cond) ∈ gz_W := tb_3 (List.mem_of_getElem? (i := 99) rfl) rfl
theorem kw_374 : (.methodLink R_Unpacker 85 y_Row_nextNumber : Cond) ∈ gz_W := tb_3 (List.mem_of_getElem? (i := 96) rfl) rfl
theorem kw_375 : (.instanceMethod y_Row_nextNumber : Cond) ∈ gz_W := tb_3 (List.mem_of_getElem? (i := 97) rfl) rfl
theorem kw_376 : (.selects R_Row y_Row_nextNumber y_Row_nextNumber : Cond) ∈ gz_W := tb_3 (List.mem_of_getElem? (i := 98) rfl) rfl
theorem kw_377 : (.code y_Unpacker_readHead b_Unpacker_readHead 4 (some .int) : Cond) ∈ gz_W := tb_3 (List.mem_of_getElem? (i := 95) rfl) rfl
theorem kw_378 : (.methodLink R_Unpacker 73 y_Unpacker_readHead : Cond) ∈ gz_W := tb_3 (List.mem_of_getElem? (i := 92) rfl) rfl
theorem kw_379 : (.instanceMethod y_Unpacker_readHead : Cond) ∈ gz_W := tb_3 (List.mem_of_getElem? (i := 94) rfl) rfl
theorem kw_380 : (.selects R_Unpacker y_Unpacker_readHead y_Unpacker_readHead : Cond) ∈ gz_W := tb_0 (List.mem_of_getElem? (i := 20) rfl) rfl
theorem kw_381 : (.constant R_Unpacker 77 (65536 : Int32) : Cond) ∈ gz_W := tb_3 (List.mem_of_getElem? (i := 108) rfl) rfl
theorem kw_382 : (.methodLink R_Unpacker 98 y_Row_nextBit : Cond) ∈ gz_W := tb_3 (List.mem_of_getElem? (i := 113) rfl) rfl
theorem kw_383 : (.constant R_ReadCodes 35 (32768 : Int32) : Cond) ∈ gz_W := tb_3 (List.mem_of_getElem? (i := 160) rfl) rfl
theorem kw_384 : (.code y_ReadCodes_fit b_ReadCodes_fit 3 (some .boolean) : Cond) ∈ gz_W := tb_3 (List.mem_of_getElem? (i := 159) rfl) rfl
theorem kw_385 : (.methodLink R_Unpacker 123 y_ReadCodes_fit : Cond) ∈ gz_W := tb_3 (List.mem_of_getElem? (i := 156) rfl) rfl
theorem kw_386 : (.instanceMethod y_ReadCodes_fit : Cond) ∈ gz_W := tb_3 (List.mem_of_getElem? (i := 157) rfl) rfl
theorem kw_387 : (.selects R_ReadCodes y_ReadCodes_fit y_ReadCodes_fit : Cond) ∈ gz_W := tb_3 (List.mem_of_getElem? (i := 158) rfl) rfl
theorem kw_388 : (.code y_Unpacker_readLengthCodes b_Unpacker_readLengthCodes 5 (some .int) : Cond) ∈ gz_W := tb_3 (List.mem_of_getElem? (i := 154) rfl) rfl
theorem kw_389 : (.methodLink R_Unpacker 116 y_Unpacker_readLengthCodes : Cond) ∈ gz_W := tb_3 (List.mem_of_getElem? (i := 151) rfl) rfl
theorem kw_390 : (.instanceMethod y_Unpacker_readLengthCodes : Cond) ∈ gz_W := tb_3 (List.mem_of_getElem? (i := 153) rfl) rfl
theorem kw_391 : (.selects R_Unpacker y_Unpacker_readLengthCodes y_Unpacker_readLengthCodes : Cond) ∈ gz_W := tb_0 (List.mem_of_getElem? (i := 28) rfl) rfl
theorem kw_392 : (.methodLink R_ReadCodes 36 y_Row_nextBit : Cond) ∈ gz_W := tb_3 (List.mem_of_getElem? (i := 129) rfl) rfl
theorem kw_393 : (.code y_ReadCodes_next b_ReadCodes_next 8 (some .int) : Cond) ∈ gz_W := tb_3 (List.mem_of_getElem? (i := 128) rfl) rfl
theorem kw_394 : (.methodLink R_Unpacker 133 y_ReadCodes_next : Cond) ∈ gz_W := tb_3 (List.mem_of_getElem? (i := 125) rfl) rfl
theorem kw_395 : (.instanceMethod y_ReadCodes_next : Cond) ∈ gz_W := tb_3 (List.mem_of_getElem? (i := 126) rfl) rfl
theorem kw_396 : (.selects R_ReadCodes y_ReadCodes_next y_ReadCodes_next : Cond) ∈ gz_W := tb_3 (List.mem_of_getElem? (i := 127) rfl) rfl
theorem kw_397 : (.code y_Ar_rangeCheck b_Ar_rangeCheck 3 none : Cond) ∈ gz_W := tb_3 (List.mem_of_getElem? (i := 172) rfl) rfl
theorem kw_398 : (.methodLink R_Ar 13 y_Ar_rangeCheck : Cond) ∈ gz_W := tb_3 (List.mem_of_getElem? (i := 170) rfl) rfl
theorem kw_399 : (.static y_Ar_rangeCheck : Cond) ∈ gz_W := tb_3 (List.mem_of_getElem? (i := 171) rfl) rfl
theorem kw_400 : (.code y_Ar_fill4 b_Ar_fill4 5 none : Cond) ∈ gz_W := tb_3 (List.mem_of_getElem? (i := 169) rfl) rfl
theorem kw_401 : (.methodLink R_Unpacker 142 y_Ar_fill4 : Cond) ∈ gz_W := tb_3 (List.mem_of_getElem? (i := 167) rfl) rfl
theorem kw_402 : (.static y_Ar_fill4 : Cond) ∈ gz_W := tb_3 (List.mem_of_getElem? (i := 168) rfl) rfl
theorem kw_403 : (.code y_Unpacker_readLengths b_Unpacker_readLengths 9 (some .int) : Cond) ∈ gz_W := tb_3 (List.mem_of_getElem? (i := 164) rfl) rfl
theorem kw_404 : (.methodLink R_Unpacker 119 y_Unpacker_readLengths : Cond) ∈ gz_W := tb_3 (List.mem_of_getElem? (i := 161) rfl) rfl
theorem kw_405 : (.instanceMethod y_Unpacker_readLengths : Cond) ∈ gz_W := tb_3 (List.mem_of_getElem? (i := 163) rfl) rfl
theorem kw_406 : (.selects R_Unpacker y_Unpacker_readLengths y_Unpacker_readLengths : Cond) ∈ gz_W := tb_0 (List.mem_of_getElem? (i := 29) rfl) rfl
theorem kw_407 : (.code y_ReadCodes_none b_ReadCodes_none 1 (some .boolean) : Cond) ∈ gz_W := tb_3 (List.mem_of_getElem? (i := 176) rfl) rfl
theorem kw_408 : (.methodLink R_Unpacker 127 y_ReadCodes_none : Cond) ∈ gz_W := tb_3 (List.mem_of_getElem? (i := 173) rfl) rfl
theorem kw_409 : (.instanceMethod y_ReadCodes_none : Cond) ∈ gz_W := tb_3 (List.mem_of_getElem? (i := 174) rfl) rfl
theorem kw_410 : (.selects R_ReadCodes y_ReadCodes_none y_ReadCodes_none : Cond) ∈ gz_W := tb_3 (List.mem_of_getElem? (i := 175) rfl) rfl
theorem kw_411 : (.code y_Unpacker_readCodes b_Unpacker_readCodes 8 (some .int) : Cond) ∈ gz_W := tb_3 (List.mem_of_getElem? (i := 150) rfl) rfl
theorem kw_412 : (.methodLink R_Unpacker 108 y_Unpacker_readCodes : Cond) ∈ gz_W := tb_3 (List.mem_of_getElem? (i := 147) rfl) rfl
theorem kw_413 : (.instanceMethod y_Unpacker_readCodes : Cond) ∈ gz_W := tb_3 (List.mem_of_getElem? (i := 149) rfl) rfl
theorem kw_414 : (.selects R_Unpacker y_Unpacker_readCodes y_Unpacker_readCodes : Cond) ∈ gz_W := tb_0 (List.mem_of_getElem? (i := 27) rfl) rfl
theorem kw_415 : (.fieldLink R_Unpacker 168 "BlockPacker$Row" "count" "I" : Cond) ∈ gz_W := tb_1 (List.mem_of_getElem? (i := 36) rfl) rfl
theorem kw_416 : (.methodLink R_Unpacker 171 y_Row_byteAt : Cond) ∈ gz_W := tb_3 (List.mem_of_getElem? (i := 146) rfl) rfl
theorem kw_417 : (.methodLink R_Unpacker 112 y_Row_add : Cond) ∈ gz_W := tb_3 (List.mem_of_getElem? (i := 120) rfl) rfl
theorem kw_418 : (.code y_Unpacker_repeat b_Unpacker_repeat 5 (some .int) : Cond) ∈ gz_W := tb_3 (List.mem_of_getElem? (i := 145) rfl) rfl
theorem kw_419 : (.methodLink R_Unpacker 164 y_Unpacker_repeat : Cond) ∈ gz_W := tb_3 (List.mem_of_getElem? (i := 142) rfl) rfl
theorem kw_420 : (.instanceMethod y_Unpacker_repeat : Cond) ∈ gz_W := tb_3 (List.mem_of_getElem? (i := 144) rfl) rfl
theorem kw_421 : (.selects R_Unpacker y_Unpacker_repeat y_Unpacker_repeat : Cond) ∈ gz_W := tb_0 (List.mem_of_getElem? (i := 26) rfl) rfl
theorem kw_422 : (.code y_Unpacker_readMatch b_Unpacker_readMatch 8 (some .int) : Cond) ∈ gz_W := tb_3 (List.mem_of_getElem? (i := 137) rfl) rfl
theorem kw_423 : (.methodLink R_Unpacker 148 y_Unpacker_readMatch : Cond) ∈ gz_W := tb_3 (List.mem_of_getElem? (i := 134) rfl) rfl
theorem kw_424 : (.instanceMethod y_Unpacker_readMatch : Cond) ∈ gz_W := tb_3 (List.mem_of_getElem? (i := 136) rfl) rfl
theorem kw_425 : (.selects R_Unpacker y_Unpacker_readMatch y_Unpacker_readMatch : Cond) ∈ gz_W := tb_0 (List.mem_of_getElem? (i := 25) rfl) rfl
theorem kw_426 : (.code y_Unpacker_putSingle b_Unpacker_putSingle 3 (some .int) : Cond) ∈ gz_W := tb_3 (List.mem_of_getElem? (i := 133) rfl) rfl
theorem kw_427 : (.methodLink R_Unpacker 145 y_Unpacker_putSingle : Cond) ∈ gz_W := tb_3 (List.mem_of_getElem? (i := 130) rfl) rfl
theorem kw_428 : (.instanceMethod y_Unpacker_putSingle : Cond) ∈ gz_W := tb_3 (List.mem_of_getElem? (i := 132) rfl) rfl
theorem kw_429 : (.selects R_Unpacker y_Unpacker_putSingle y_Unpacker_putSingle : Cond) ∈ gz_W := tb_0 (List.mem_of_getElem? (i := 24) rfl) rfl
theorem kw_430 : (.code y_Unpacker_readSymbols b_Unpacker_readSymbols 8 (some .int) : Cond) ∈ gz_W := tb_3 (List.mem_of_getElem? (i := 124) rfl) rfl
theorem kw_431 : (.methodLink R_Unpacker 104 y_Unpacker_readSymbols : Cond) ∈ gz_W := tb_3 (List.mem_of_getElem? (i := 121) rfl) rfl
theorem kw_432 : (.instanceMethod y_Unpacker_readSymbols : Cond) ∈ gz_W := tb_3 (List.mem_of_getElem? (i := 123) rfl) rfl
theorem kw_433 : (.selects R_Unpacker y_Unpacker_readSymbols y_Unpacker_readSymbols : Cond) ∈ gz_W := tb_0 (List.mem_of_getElem? (i := 23) rfl) rfl
theorem kw_434 : (.methodLink R_Unpacker 88 y_Row_skipToByte : Cond) ∈ gz_W := tb_3 (List.mem_of_getElem? (i := 118) rfl) rfl
theorem kw_435 : (.constant R_Unpacker 111 (65535 : Int32) : Cond) ∈ gz_W := tb_3 (List.mem_of_getElem? (i := 119) rfl) rfl
theorem kw_436 : (.code y_Unpacker_readStored b_Unpacker_readStored 7 (some .int) : Cond) ∈ gz_W := tb_3 (List.mem_of_getElem? (i := 117) rfl) rfl
theorem kw_437 : (.methodLink R_Unpacker 101 y_Unpacker_readStored : Cond) ∈ gz_W := tb_3 (List.mem_of_getElem? (i := 114) rfl) rfl
theorem kw_438 : (.instanceMethod y_Unpacker_readStored : Cond) ∈ gz_W := tb_3 (List.mem_of_getElem? (i := 116) rfl) rfl
theorem kw_439 : (.selects R_Unpacker y_Unpacker_readStored y_Unpacker_readStored : Cond) ∈ gz_W := tb_0 (List.mem_of_getElem? (i := 22) rfl) rfl
theorem kw_440 : (.code y_Unpacker_readBlock b_Unpacker_readBlock 6 (some .int) : Cond) ∈ gz_W := tb_3 (List.mem_of_getElem? (i := 112) rfl) rfl
theorem kw_441 : (.methodLink R_Unpacker 78 y_Unpacker_readBlock : Cond) ∈ gz_W := tb_3 (List.mem_of_getElem? (i := 109) rfl) rfl
theorem kw_442 : (.instanceMethod y_Unpacker_readBlock : Cond) ∈ gz_W := tb_3 (List.mem_of_getElem? (i := 111) rfl) rfl
theorem kw_443 : (.selects R_Unpacker y_Unpacker_readBlock y_Unpacker_readBlock : Cond) ∈ gz_W := tb_0 (List.mem_of_getElem? (i := 21) rfl) rfl
theorem kw_444 : (.methodLink R_Unpacker 91 y_Row_check : Cond) ∈ gz_W := tb_3 (List.mem_of_getElem? (i := 181) rfl) rfl
theorem kw_445 : (.methodLink R_Unpacker 95 y_Row_bitsLeft : Cond) ∈ gz_W := tb_3 (List.mem_of_getElem? (i := 182) rfl) rfl
theorem kw_446 : (.code y_Unpacker_readCheck b_Unpacker_readCheck 6 (some .int) : Cond) ∈ gz_W := tb_3 (List.mem_of_getElem? (i := 180) rfl) rfl
theorem kw_447 : (.methodLink R_Unpacker 82 y_Unpacker_readCheck : Cond) ∈ gz_W := tb_3 (List.mem_of_getElem? (i := 177) rfl) rfl
theorem kw_448 : (.instanceMethod y_Unpacker_readCheck : Cond) ∈ gz_W := tb_3 (List.mem_of_getElem? (i := 179) rfl) rfl
theorem kw_449 : (.selects R_Unpacker y_Unpacker_readCheck y_Unpacker_readCheck : Cond) ∈ gz_W := tb_0 (List.mem_of_getElem? (i := 30) rfl) rfl
theorem kw_450 : (.code y_Unpacker_run b_Unpacker_run 5 (some .int) : Cond) ∈ gz_W := tb_3 (List.mem_of_getElem? (i := 90) rfl) rfl
theorem kw_451 : (.methodLink R_Bp 74 y_Unpacker_run : Cond) ∈ gz_W := tb_3 (List.mem_of_getElem? (i := 87) rfl) rfl
theorem kw_452 : (.instanceMethod y_Unpacker_run : Cond) ∈ gz_W := tb_3 (List.mem_of_getElem? (i := 88) rfl) rfl
theorem kw_453 : (.selects R_Unpacker y_Unpacker_run y_Unpacker_run : Cond) ∈ gz_W := tb_3 (List.mem_of_getElem? (i := 89) rfl) rfl
theorem kw_454 : (.fieldLink R_Bp 77 "BlockPacker$Unpacker" "bitsRead" "I" : Cond) ∈ gz_W := tb_2 (List.mem_of_getElem? (i := 41) rfl) rfl
theorem kw_455 : (.fieldLink R_Bp 98 "BlockPacker$Unpacker" "matches" "I" : Cond) ∈ gz_W := tb_2 (List.mem_of_getElem? (i := 39) rfl) rfl
theorem kw_456 : (.fieldLink R_Bp 95 "BlockPacker$Unpacker" "blocks" "I" : Cond) ∈ gz_W := tb_2 (List.mem_of_getElem? (i := 37) rfl) rfl
theorem kw_457 : (.fieldLink R_Bp 92 "BlockPacker$Packer" "singles" "I" : Cond) ∈ gz_W := tb_1 (List.mem_of_getElem? (i := 202) rfl) rfl
theorem kw_458 : (.fieldLink R_Bp 89 "BlockPacker$Packer" "matches" "I" : Cond) ∈ gz_W := tb_1 (List.mem_of_getElem? (i := 200) rfl) rfl
theorem kw_459 : (.fieldLink R_Bp 86 "BlockPacker$Packer" "madeBlocks" "I" : Cond) ∈ gz_W := tb_1 (List.mem_of_getElem? (i := 198) rfl) rfl
theorem kw_460 : (.fieldLink R_Bp 83 "BlockPacker$Packer" "fixedBlocks" "I" : Cond) ∈ gz_W := tb_1 (List.mem_of_getElem? (i := 196) rfl) rfl
theorem kw_461 : (.fieldLink R_Bp 80 "BlockPacker$Packer" "storedBlocks" "I" : Cond) ∈ gz_W := tb_1 (List.mem_of_getElem? (i := 194) rfl) rfl
theorem kw_462 : (.fieldLink R_Bp 99 "BlockPacker$Packer" "madeSymbols" "LBlockPacker$WriteCodes;" : Cond) ∈ gz_W := tb_1 (List.mem_of_getElem? (i := 190) rfl) rfl
theorem kw_463 : (.fieldLink R_Bp 103 "BlockPacker$WriteCodes" "lengths" "[I" : Cond) ∈ gz_W := tb_1 (List.mem_of_getElem? (i := 135) rfl) rfl
theorem kw_464 : (.fieldLink R_Bp 109 "BlockPacker$Packer" "madeDistances" "LBlockPacker$WriteCodes;" : Cond) ∈ gz_W := tb_1 (List.mem_of_getElem? (i := 192) rfl) rfl
theorem kw_465 : (.methodLink R_Mo 1 objectInit : Cond) ∈ gz_W := tb_3 (List.mem_of_getElem? (i := 200) rfl) rfl
theorem kw_466 : (.fieldLink R_Mo 7 "BlockPackerModel" "input" "[I" : Cond) ∈ gz_W := tb_3 (List.mem_of_getElem? (i := 202) rfl) rfl
theorem kw_467 : (.fieldLink R_Mo 13 "BlockPackerModel" "output" "[I" : Cond) ∈ gz_W := tb_3 (List.mem_of_getElem? (i := 204) rfl) rfl
theorem kw_468 : (.fieldLink R_Mo 16 "BlockPackerModel" "told" "[I" : Cond) ∈ gz_W := tb_3 (List.mem_of_getElem? (i := 205) rfl) rfl
theorem kw_469 : (.fieldLink R_Mo 19 "BlockPackerModel" "lengths" "[I" : Cond) ∈ gz_W := tb_3 (List.mem_of_getElem? (i := 208) rfl) rfl
theorem kw_470 : (.fieldLink R_Mo 22 "BlockPackerModel" "small" "[I" : Cond) ∈ gz_W := tb_3 (List.mem_of_getElem? (i := 209) rfl) rfl
theorem kw_471 : (.fieldLink R_Mo 25 "BlockPackerModel" "row" "[I" : Cond) ∈ gz_W := tb_3 (List.mem_of_getElem? (i := 210) rfl) rfl
theorem kw_472 : (.fieldLink R_Mo 28 "BlockPackerModel" "tokenLength" "[I" : Cond) ∈ gz_W := tb_3 (List.mem_of_getElem? (i := 212) rfl) rfl
theorem kw_473 : (.fieldLink R_Mo 31 "BlockPackerModel" "tokenValue" "[I" : Cond) ∈ gz_W := tb_3 (List.mem_of_getElem? (i := 213) rfl) rfl
theorem kw_474 : (.fieldLink R_Mo 34 "BlockPackerModel" "counts" "[I" : Cond) ∈ gz_W := tb_3 (List.mem_of_getElem? (i := 214) rfl) rfl
theorem kw_475 : (.fieldLink R_Mo 37 "BlockPackerModel" "smallCounts" "[I" : Cond) ∈ gz_W := tb_3 (List.mem_of_getElem? (i := 215) rfl) rfl
theorem kw_476 : (.fieldLink R_Mo 40 "BlockPackerModel" "step" "[I" : Cond) ∈ gz_W := tb_3 (List.mem_of_getElem? (i := 217) rfl) rfl
theorem kw_477 : (.fieldLink R_Mo 43 "BlockPackerModel" "stepMore" "[I" : Cond) ∈ gz_W := tb_3 (List.mem_of_getElem? (i := 218) rfl) rfl
theorem kw_478 : (.fieldLink R_Mo 46 "BlockPackerModel" "order" "[I" : Cond) ∈ gz_W := tb_3 (List.mem_of_getElem? (i := 220) rfl) rfl
theorem kw_479 : (.fieldLink R_Mo 49 "BlockPackerModel" "listed" "[I" : Cond) ∈ gz_W := tb_3 (List.mem_of_getElem? (i := 221) rfl) rfl
theorem kw_480 : (.fieldLink R_Mo 52 "BlockPackerModel" "before" "[I" : Cond) ∈ gz_W := tb_3 (List.mem_of_getElem? (i := 222) rfl) rfl
theorem kw_481 : (.arrayClass .boolean : Cond) ∈ gz_W := tb_4 (List.mem_of_getElem? (i := 37) rfl) rfl
theorem kw_482 : (.fieldLink R_Mo 55 "BlockPackerModel" "isSymbol" "[Z" : Cond) ∈ gz_W := tb_3 (List.mem_of_getElem? (i := 223) rfl) rfl
theorem kw_483 : (.fieldLink R_Mo 59 "BlockPackerModel" "listSize" "[I" : Cond) ∈ gz_W := tb_3 (List.mem_of_getElem? (i := 224) rfl) rfl
theorem kw_484 : (.fieldLink R_Mo 62 "BlockPackerModel" "latest" "[I" : Cond) ∈ gz_W := tb_3 (List.mem_of_getElem? (i := 225) rfl) rfl
theorem kw_485 : (.fieldLink R_Mo 65 "BlockPackerModel" "inputSize" "I" : Cond) ∈ gz_W := tb_3 (List.mem_of_getElem? (i := 201) rfl) rfl
theorem kw_486 : (.constantLong R_Mo 69 (255 : Int64) : Cond) ∈ gz_W := tb_4 (List.mem_of_getElem? (i := 42) rfl) rfl
theorem kw_487 : (.constant R_Mo 71 (1103515245 : Int32) : Cond) ∈ gz_W := tb_4 (List.mem_of_getElem? (i := 47) rfl) rfl
theorem kw_488 : (.fieldLink R_Mo 72 "BlockPackerModel" "outputSize" "I" : Cond) ∈ gz_W := tb_3 (List.mem_of_getElem? (i := 203) rfl) rfl
theorem kw_489 : (.fieldLink R_Mo 75 "BlockPackerModel" "fault" "I" : Cond) ∈ gz_W := tb_3 (List.mem_of_getElem? (i := 207) rfl) rfl
theorem kw_490 : (.fieldLink R_Mo 78 "BlockPackerModel" "bits" "I" : Cond) ∈ gz_W := tb_3 (List.mem_of_getElem? (i := 206) rfl) rfl
theorem kw_491 : (.code y_Mo_blame b_Mo_blame 2 none : Cond) ∈ gz_W := tb_4 (List.mem_of_getElem? (i := 83) rfl) rfl
theorem kw_492 : (.initialized R_Mo : Cond) ∈ gz_W := tb_1 (List.mem_of_getElem? (i := 12) rfl) rfl
theorem kw_493 : (.methodLink R_Mo 81 y_Mo_blame : Cond) ∈ gz_W := tb_4 (List.mem_of_getElem? (i := 80) rfl) rfl
theorem kw_494 : (.instanceMethod y_Mo_blame : Cond) ∈ gz_W := tb_4 (List.mem_of_getElem? (i := 82) rfl) rfl
theorem kw_495 : (.selects R_Mo y_Mo_blame y_Mo_blame : Cond) ∈ gz_W := tb_0 (List.mem_of_getElem? (i := 33) rfl) rfl
theorem kw_496 : (.code y_Mo_bit b_Mo_bit 1 (some .int) : Cond) ∈ gz_W := tb_4 (List.mem_of_getElem? (i := 79) rfl) rfl
theorem kw_497 : (.methodLink R_Mo 85 y_Mo_bit : Cond) ∈ gz_W := tb_4 (List.mem_of_getElem? (i := 76) rfl) rfl
theorem kw_498 : (.instanceMethod y_Mo_bit : Cond) ∈ gz_W := tb_4 (List.mem_of_getElem? (i := 78) rfl) rfl
theorem kw_499 : (.selects R_Mo y_Mo_bit y_Mo_bit : Cond) ∈ gz_W := tb_0 (List.mem_of_getElem? (i := 32) rfl) rfl
theorem kw_500 : (.code y_Mo_codesOf b_Mo_codesOf 5 (some .int) : Cond) ∈ gz_W := tb_4 (List.mem_of_getElem? (i := 113) rfl) rfl
theorem kw_501 : (.methodLink R_Mo 89 y_Mo_codesOf : Cond) ∈ gz_W := tb_4 (List.mem_of_getElem? (i := 111) rfl) rfl
theorem kw_502 : (.static y_Mo_codesOf : Cond) ∈ gz_W := tb_4 (List.mem_of_getElem? (i := 112) rfl) rfl
theorem kw_503 : (.code y_Mo_weightOf b_Mo_weightOf 5 (some .int) : Cond) ∈ gz_W := tb_4 (List.mem_of_getElem? (i := 116) rfl) rfl
theorem kw_504 : (.methodLink R_Mo 93 y_Mo_weightOf : Cond) ∈ gz_W := tb_4 (List.mem_of_getElem? (i := 114) rfl) rfl
theorem kw_505 : (.static y_Mo_weightOf : Cond) ∈ gz_W := tb_4 (List.mem_of_getElem? (i := 115) rfl) rfl
theorem kw_506 : (.constant R_Mo 96 (32768 : Int32) : Cond) ∈ gz_W := tb_4 (List.mem_of_getElem? (i := 117) rfl) rfl
theorem kw_507 : (.code y_Mo_begins b_Mo_begins 7 (some .boolean) : Cond) ∈ gz_W := tb_4 (List.mem_of_getElem? (i := 127) rfl) rfl
theorem kw_508 : (.methodLink R_Mo 101 y_Mo_begins : Cond) ∈ gz_W := tb_4 (List.mem_of_getElem? (i := 125) rfl) rfl
theorem kw_509 : (.static y_Mo_begins : Cond) ∈ gz_W := tb_4 (List.mem_of_getElem? (i := 126) rfl) rfl
theorem kw_510 : (.code y_Mo_nth b_Mo_nth 7 (some .int) : Cond) ∈ gz_W := tb_4 (List.mem_of_getElem? (i := 124) rfl) rfl
theorem kw_511 : (.methodLink R_Mo 97 y_Mo_nth : Cond) ∈ gz_W := tb_4 (List.mem_of_getElem? (i := 122) rfl) rfl
theorem kw_512 : (.static y_Mo_nth : Cond) ∈ gz_W := tb_4 (List.mem_of_getElem? (i := 123) rfl) rfl
theorem kw_513 : (.code y_Mo_number b_Mo_number 4 (some .int) : Cond) ∈ gz_W := tb_4 (List.mem_of_getElem? (i := 75) rfl) rfl
theorem kw_514 : (.methodLink R_Mo 105 y_Mo_number : Cond) ∈ gz_W := tb_4 (List.mem_of_getElem? (i := 72) rfl) rfl
theorem kw_515 : (.instanceMethod y_Mo_number : Cond) ∈ gz_W := tb_4 (List.mem_of_getElem? (i := 74) rfl) rfl
theorem kw_516 : (.selects R_Mo y_Mo_number y_Mo_number : Cond) ∈ gz_W := tb_0 (List.mem_of_getElem? (i := 31) rfl) rfl
theorem kw_517 : (.code y_Mo_areCodes b_Mo_areCodes 6 (some .boolean) : Cond) ∈ gz_W := tb_4 (List.mem_of_getElem? (i := 110) rfl) rfl
theorem kw_518 : (.methodLink R_Mo 112 y_Mo_areCodes : Cond) ∈ gz_W := tb_4 (List.mem_of_getElem? (i := 108) rfl) rfl
theorem kw_519 : (.static y_Mo_areCodes : Cond) ∈ gz_W := tb_4 (List.mem_of_getElem? (i := 109) rfl) rfl
theorem kw_520 : (.code y_Mo_smallOrder b_Mo_smallOrder 1 (some .int) : Cond) ∈ gz_W := tb_4 (List.mem_of_getElem? (i := 107) rfl) rfl
theorem kw_521 : (.methodLink R_Mo 109 y_Mo_smallOrder : Cond) ∈ gz_W := tb_4 (List.mem_of_getElem? (i := 105) rfl) rfl
theorem kw_522 : (.static y_Mo_smallOrder : Cond) ∈ gz_W := tb_4 (List.mem_of_getElem? (i := 106) rfl) rfl
theorem kw_523 : (.code y_Mo_symbol b_Mo_symbol 10 (some .int) : Cond) ∈ gz_W := tb_4 (List.mem_of_getElem? (i := 121) rfl) rfl
theorem kw_524 : (.methodLink R_Mo 116 y_Mo_symbol : Cond) ∈ gz_W := tb_4 (List.mem_of_getElem? (i := 118) rfl) rfl
theorem kw_525 : (.instanceMethod y_Mo_symbol : Cond) ∈ gz_W := tb_4 (List.mem_of_getElem? (i := 120) rfl) rfl
theorem kw_526 : (.selects R_Mo y_Mo_symbol y_Mo_symbol : Cond) ∈ gz_W := tb_0 (List.mem_of_getElem? (i := 39) rfl) rfl
theorem kw_527 : (.code y_Mo_lengthBits b_Mo_lengthBits 1 (some .int) : Cond) ∈ gz_W := tb_4 (List.mem_of_getElem? (i := 141) rfl) rfl
theorem kw_528 : (.methodLink R_Mo 119 y_Mo_lengthBits : Cond) ∈ gz_W := tb_4 (List.mem_of_getElem? (i := 139) rfl) rfl
theorem kw_529 : (.static y_Mo_lengthBits : Cond) ∈ gz_W := tb_4 (List.mem_of_getElem? (i := 140) rfl) rfl
theorem kw_530 : (.code y_Mo_distanceBits b_Mo_distanceBits 1 (some .int) : Cond) ∈ gz_W := tb_4 (List.mem_of_getElem? (i := 147) rfl) rfl
theorem kw_531 : (.methodLink R_Mo 122 y_Mo_distanceBits : Cond) ∈ gz_W := tb_4 (List.mem_of_getElem? (i := 145) rfl) rfl
theorem kw_532 : (.static y_Mo_distanceBits : Cond) ∈ gz_W := tb_4 (List.mem_of_getElem? (i := 146) rfl) rfl
theorem kw_533 : (.code y_Mo_make b_Mo_make 2 none : Cond) ∈ gz_W := tb_4 (List.mem_of_getElem? (i := 96) rfl) rfl
theorem kw_534 : (.methodLink R_Mo 125 y_Mo_make : Cond) ∈ gz_W := tb_4 (List.mem_of_getElem? (i := 93) rfl) rfl
theorem kw_535 : (.instanceMethod y_Mo_make : Cond) ∈ gz_W := tb_4 (List.mem_of_getElem? (i := 95) rfl) rfl
theorem kw_536 : (.selects R_Mo y_Mo_make y_Mo_make : Cond) ∈ gz_W := tb_0 (List.mem_of_getElem? (i := 36) rfl) rfl
theorem kw_537 : (.code y_Mo_lengthBase b_Mo_lengthBase 1 (some .int) : Cond) ∈ gz_W := tb_4 (List.mem_of_getElem? (i := 138) rfl) rfl
theorem kw_538 : (.methodLink R_Mo 131 y_Mo_lengthBase : Cond) ∈ gz_W := tb_4 (List.mem_of_getElem? (i := 136) rfl) rfl
theorem kw_539 : (.static y_Mo_lengthBase : Cond) ∈ gz_W := tb_4 (List.mem_of_getElem? (i := 137) rfl) rfl
theorem kw_540 : (.code y_Mo_distanceBase b_Mo_distanceBase 1 (some .int) : Cond) ∈ gz_W := tb_4 (List.mem_of_getElem? (i := 144) rfl) rfl
theorem kw_541 : (.methodLink R_Mo 134 y_Mo_distanceBase : Cond) ∈ gz_W := tb_4 (List.mem_of_getElem? (i := 142) rfl) rfl
theorem kw_542 : (.static y_Mo_distanceBase : Cond) ∈ gz_W := tb_4 (List.mem_of_getElem? (i := 143) rfl) rfl
theorem kw_543 : (.code y_Mo_readMatch b_Mo_readMatch 6 none : Cond) ∈ gz_W := tb_4 (List.mem_of_getElem? (i := 135) rfl) rfl
theorem kw_544 : (.methodLink R_Mo 128 y_Mo_readMatch : Cond) ∈ gz_W := tb_4 (List.mem_of_getElem? (i := 132) rfl) rfl
theorem kw_545 : (.instanceMethod y_Mo_readMatch : Cond) ∈ gz_W := tb_4 (List.mem_of_getElem? (i := 134) rfl) rfl
theorem kw_546 : (.selects R_Mo y_Mo_readMatch y_Mo_readMatch : Cond) ∈ gz_W := tb_0 (List.mem_of_getElem? (i := 41) rfl) rfl
theorem kw_547 : (.code y_Mo_toByte b_Mo_toByte 2 none : Cond) ∈ gz_W := tb_4 (List.mem_of_getElem? (i := 91) rfl) rfl
theorem kw_548 : (.methodLink R_Mo 137 y_Mo_toByte : Cond) ∈ gz_W := tb_4 (List.mem_of_getElem? (i := 88) rfl) rfl
theorem kw_549 : (.instanceMethod y_Mo_toByte : Cond) ∈ gz_W := tb_4 (List.mem_of_getElem? (i := 90) rfl) rfl
theorem kw_550 : (.selects R_Mo y_Mo_toByte y_Mo_toByte : Cond) ∈ gz_W := tb_0 (List.mem_of_getElem? (i := 35) rfl) rfl
theorem kw_551 : (.constant R_Mo 140 (65535 : Int32) : Cond) ∈ gz_W := tb_4 (List.mem_of_getElem? (i := 92) rfl) rfl
theorem kw_552 : (.constantLong R_Mo 143 (65536 : Int64) : Cond) ∈ gz_W := tb_4 (List.mem_of_getElem? (i := 153) rfl) rfl
theorem kw_553 : (.constantLong R_Mo 141 (65521 : Int64) : Cond) ∈ gz_W := tb_4 (List.mem_of_getElem? (i := 152) rfl) rfl
theorem kw_554 : (.code y_Mo_checkOf b_Mo_checkOf 7 (some .long) : Cond) ∈ gz_W := tb_4 (List.mem_of_getElem? (i := 151) rfl) rfl
theorem kw_555 : (.methodLink R_Mo 159 y_Mo_checkOf : Cond) ∈ gz_W := tb_4 (List.mem_of_getElem? (i := 149) rfl) rfl
theorem kw_556 : (.static y_Mo_checkOf : Cond) ∈ gz_W := tb_4 (List.mem_of_getElem? (i := 150) rfl) rfl
theorem kw_557 : (.constantLong R_Mo 157 (256 : Int64) : Cond) ∈ gz_W := tb_4 (List.mem_of_getElem? (i := 148) rfl) rfl
theorem kw_558 : (.code y_Mo_readStored b_Mo_readStored 4 none : Cond) ∈ gz_W := tb_4 (List.mem_of_getElem? (i := 87) rfl) rfl
theorem kw_559 : (.methodLink R_Mo 145 y_Mo_readStored : Cond) ∈ gz_W := tb_4 (List.mem_of_getElem? (i := 84) rfl) rfl
theorem kw_560 : (.instanceMethod y_Mo_readStored : Cond) ∈ gz_W := tb_4 (List.mem_of_getElem? (i := 86) rfl) rfl
theorem kw_561 : (.selects R_Mo y_Mo_readStored y_Mo_readStored : Cond) ∈ gz_W := tb_0 (List.mem_of_getElem? (i := 34) rfl) rfl
theorem kw_562 : (.code y_Mo_fixedLengths b_Mo_fixedLengths 2 none : Cond) ∈ gz_W := tb_4 (List.mem_of_getElem? (i := 100) rfl) rfl
theorem kw_563 : (.methodLink R_Mo 148 y_Mo_fixedLengths : Cond) ∈ gz_W := tb_4 (List.mem_of_getElem? (i := 97) rfl) rfl
theorem kw_564 : (.instanceMethod y_Mo_fixedLengths : Cond) ∈ gz_W := tb_4 (List.mem_of_getElem? (i := 99) rfl) rfl
theorem kw_565 : (.selects R_Mo y_Mo_fixedLengths y_Mo_fixedLengths : Cond) ∈ gz_W := tb_0 (List.mem_of_getElem? (i := 37) rfl) rfl
theorem kw_566 : (.code y_Mo_readLengths b_Mo_readLengths 9 none : Cond) ∈ gz_W := tb_4 (List.mem_of_getElem? (i := 104) rfl) rfl
theorem kw_567 : (.methodLink R_Mo 151 y_Mo_readLengths : Cond) ∈ gz_W := tb_4 (List.mem_of_getElem? (i := 101) rfl) rfl
theorem kw_568 : (.instanceMethod y_Mo_readLengths : Cond) ∈ gz_W := tb_4 (List.mem_of_getElem? (i := 103) rfl) rfl
theorem kw_569 : (.selects R_Mo y_Mo_readLengths y_Mo_readLengths : Cond) ∈ gz_W := tb_0 (List.mem_of_getElem? (i := 38) rfl) rfl
theorem kw_570 : (.code y_Mo_readSymbols b_Mo_readSymbols 3 none : Cond) ∈ gz_W := tb_4 (List.mem_of_getElem? (i := 131) rfl) rfl
theorem kw_571 : (.methodLink R_Mo 154 y_Mo_readSymbols : Cond) ∈ gz_W := tb_4 (List.mem_of_getElem? (i := 128) rfl) rfl
theorem kw_572 : (.instanceMethod y_Mo_readSymbols : Cond) ∈ gz_W := tb_4 (List.mem_of_getElem? (i := 130) rfl) rfl
theorem kw_573 : (.selects R_Mo y_Mo_readSymbols y_Mo_readSymbols : Cond) ∈ gz_W := tb_0 (List.mem_of_getElem? (i := 40) rfl) rfl
theorem kw_574 : (.constant R_Mo 163 (65536 : Int32) : Cond) ∈ gz_W := tb_4 (List.mem_of_getElem? (i := 170) rfl) rfl
theorem kw_575 : (.fieldLink R_Mo 164 "BlockPackerModel" "tokens" "I" : Cond) ∈ gz_W := tb_3 (List.mem_of_getElem? (i := 211) rfl) rfl
theorem kw_576 : (.code y_Mo_bestAt b_Mo_bestAt 8 (some .int) : Cond) ∈ gz_W := tb_4 (List.mem_of_getElem? (i := 169) rfl) rfl
theorem kw_577 : (.methodLink R_Mo 167 y_Mo_bestAt : Cond) ∈ gz_W := tb_4 (List.mem_of_getElem? (i := 166) rfl) rfl
theorem kw_578 : (.instanceMethod y_Mo_bestAt : Cond) ∈ gz_W := tb_4 (List.mem_of_getElem? (i := 168) rfl) rfl
theorem kw_579 : (.selects R_Mo y_Mo_bestAt y_Mo_bestAt : Cond) ∈ gz_W := tb_0 (List.mem_of_getElem? (i := 43) rfl) rfl
theorem kw_580 : (.code y_Mo_lengthSymbol b_Mo_lengthSymbol 2 (some .int) : Cond) ∈ gz_W := tb_4 (List.mem_of_getElem? (i := 181) rfl) rfl
theorem kw_581 : (.methodLink R_Mo 171 y_Mo_lengthSymbol : Cond) ∈ gz_W := tb_4 (List.mem_of_getElem? (i := 179) rfl) rfl
theorem kw_582 : (.static y_Mo_lengthSymbol : Cond) ∈ gz_W := tb_4 (List.mem_of_getElem? (i := 180) rfl) rfl
theorem kw_583 : (.code y_Mo_distanceSymbol b_Mo_distanceSymbol 2 (some .int) : Cond) ∈ gz_W := tb_4 (List.mem_of_getElem? (i := 184) rfl) rfl
theorem kw_584 : (.methodLink R_Mo 174 y_Mo_distanceSymbol : Cond) ∈ gz_W := tb_4 (List.mem_of_getElem? (i := 182) rfl) rfl
theorem kw_585 : (.static y_Mo_distanceSymbol : Cond) ∈ gz_W := tb_4 (List.mem_of_getElem? (i := 183) rfl) rfl
theorem kw_586 : (.code y_Mo_sort b_Mo_sort 7 (some .int) : Cond) ∈ gz_W := tb_4 (List.mem_of_getElem? (i := 192) rfl) rfl
theorem kw_587 : (.methodLink R_Mo 177 y_Mo_sort : Cond) ∈ gz_W := tb_4 (List.mem_of_getElem? (i := 189) rfl) rfl
theorem kw_588 : (.instanceMethod y_Mo_sort : Cond) ∈ gz_W := tb_4 (List.mem_of_getElem? (i := 191) rfl) rfl
theorem kw_589 : (.selects R_Mo y_Mo_sort y_Mo_sort : Cond) ∈ gz_W := tb_0 (List.mem_of_getElem? (i := 47) rfl) rfl
theorem kw_590 : (.code y_Mo_makeList b_Mo_makeList 10 none : Cond) ∈ gz_W := tb_4 (List.mem_of_getElem? (i := 196) rfl) rfl
theorem kw_591 : (.methodLink R_Mo 180 y_Mo_makeList : Cond) ∈ gz_W := tb_4 (List.mem_of_getElem? (i := 193) rfl) rfl
theorem kw_592 : (.instanceMethod y_Mo_makeList : Cond) ∈ gz_W := tb_4 (List.mem_of_getElem? (i := 195) rfl) rfl
theorem kw_593 : (.selects R_Mo y_Mo_makeList y_Mo_makeList : Cond) ∈ gz_W := tb_0 (List.mem_of_getElem? (i := 48) rfl) rfl
theorem kw_594 : (.fieldLink R_Mo 184 "BlockPackerModel" "steps" "I" : Cond) ∈ gz_W := tb_3 (List.mem_of_getElem? (i := 216) rfl) rfl
theorem kw_595 : (.code y_Mo_tell b_Mo_tell 3 none : Cond) ∈ gz_W := tb_4 (List.mem_of_getElem? (i := 207) rfl) rfl
theorem kw_596 : (.methodLink R_Mo 187 y_Mo_tell : Cond) ∈ gz_W := tb_4 (List.mem_of_getElem? (i := 204) rfl) rfl
theorem kw_597 : (.instanceMethod y_Mo_tell : Cond) ∈ gz_W := tb_4 (List.mem_of_getElem? (i := 206) rfl) rfl
theorem kw_598 : (.selects R_Mo y_Mo_tell y_Mo_tell : Cond) ∈ gz_W := tb_0 (List.mem_of_getElem? (i := 50) rfl) rfl
theorem kw_599 : (.fieldLink R_Mo 191 "BlockPackerModel" "bitAt" "I" : Cond) ∈ gz_W := tb_3 (List.mem_of_getElem? (i := 219) rfl) rfl
theorem kw_600 : (.code y_Mo_writeBit b_Mo_writeBit 2 none : Cond) ∈ gz_W := tb_4 (List.mem_of_getElem? (i := 218) rfl) rfl
theorem kw_601 : (.methodLink R_Mo 194 y_Mo_writeBit : Cond) ∈ gz_W := tb_4 (List.mem_of_getElem? (i := 215) rfl) rfl
theorem kw_602 : (.instanceMethod y_Mo_writeBit : Cond) ∈ gz_W := tb_4 (List.mem_of_getElem? (i := 217) rfl) rfl
theorem kw_603 : (.selects R_Mo y_Mo_writeBit y_Mo_writeBit : Cond) ∈ gz_W := tb_0 (List.mem_of_getElem? (i := 52) rfl) rfl
theorem kw_604 : (.code y_Mo_codeOf b_Mo_codeOf 8 (some .int) : Cond) ∈ gz_W := tb_4 (List.mem_of_getElem? (i := 237) rfl) rfl
theorem kw_605 : (.methodLink R_Mo 197 y_Mo_codeOf : Cond) ∈ gz_W := tb_4 (List.mem_of_getElem? (i := 235) rfl) rfl
theorem kw_606 : (.static y_Mo_codeOf : Cond) ∈ gz_W := tb_4 (List.mem_of_getElem? (i := 236) rfl) rfl
theorem kw_607 : (.code y_Mo_writeCode b_Mo_writeCode 7 none : Cond) ∈ gz_W := tb_4 (List.mem_of_getElem? (i := 234) rfl) rfl
theorem kw_608 : (.methodLink R_Mo 201 y_Mo_writeCode : Cond) ∈ gz_W := tb_4 (List.mem_of_getElem? (i := 231) rfl) rfl
theorem kw_609 : (.instanceMethod y_Mo_writeCode : Cond) ∈ gz_W := tb_4 (List.mem_of_getElem? (i := 233) rfl) rfl
theorem kw_610 : (.selects R_Mo y_Mo_writeCode y_Mo_writeCode : Cond) ∈ gz_W := tb_0 (List.mem_of_getElem? (i := 56) rfl) rfl
theorem kw_611 : (.code y_Mo_writeNumber b_Mo_writeNumber 4 none : Cond) ∈ gz_W := tb_4 (List.mem_of_getElem? (i := 226) rfl) rfl
theorem kw_612 : (.methodLink R_Mo 204 y_Mo_writeNumber : Cond) ∈ gz_W := tb_4 (List.mem_of_getElem? (i := 223) rfl) rfl
theorem kw_613 : (.instanceMethod y_Mo_writeNumber : Cond) ∈ gz_W := tb_4 (List.mem_of_getElem? (i := 225) rfl) rfl
theorem kw_614 : (.selects R_Mo y_Mo_writeNumber y_Mo_writeNumber : Cond) ∈ gz_W := tb_0 (List.mem_of_getElem? (i := 54) rfl) rfl
theorem kw_615 : (.code y_Mo_writeTokens b_Mo_writeTokens 4 none : Cond) ∈ gz_W := tb_4 (List.mem_of_getElem? (i := 230) rfl) rfl
theorem kw_616 : (.methodLink R_Mo 210 y_Mo_writeTokens : Cond) ∈ gz_W := tb_4 (List.mem_of_getElem? (i := 227) rfl) rfl
theorem kw_617 : (.instanceMethod y_Mo_writeTokens : Cond) ∈ gz_W := tb_4 (List.mem_of_getElem? (i := 229) rfl) rfl
theorem kw_618 : (.selects R_Mo y_Mo_writeTokens y_Mo_writeTokens : Cond) ∈ gz_W := tb_0 (List.mem_of_getElem? (i := 55) rfl) rfl
theorem kw_619 : (.code y_Mo_stepBits b_Mo_stepBits 1 (some .int) : Cond) ∈ gz_W := tb_4 (List.mem_of_getElem? (i := 214) rfl) rfl
theorem kw_620 : (.methodLink R_Mo 207 y_Mo_stepBits : Cond) ∈ gz_W := tb_4 (List.mem_of_getElem? (i := 212) rfl) rfl
theorem kw_621 : (.static y_Mo_stepBits : Cond) ∈ gz_W := tb_4 (List.mem_of_getElem? (i := 213) rfl) rfl
theorem kw_622 : (.code y_Mo_count b_Mo_count 2 none : Cond) ∈ gz_W := tb_4 (List.mem_of_getElem? (i := 178) rfl) rfl
theorem kw_623 : (.methodLink R_Mo 213 y_Mo_count : Cond) ∈ gz_W := tb_4 (List.mem_of_getElem? (i := 175) rfl) rfl
theorem kw_624 : (.instanceMethod y_Mo_count : Cond) ∈ gz_W := tb_4 (List.mem_of_getElem? (i := 177) rfl) rfl
theorem kw_625 : (.selects R_Mo y_Mo_count y_Mo_count : Cond) ∈ gz_W := tb_0 (List.mem_of_getElem? (i := 45) rfl) rfl
theorem kw_626 : (.code y_Mo_findLengths b_Mo_findLengths 11 none : Cond) ∈ gz_W := tb_4 (List.mem_of_getElem? (i := 188) rfl) rfl
theorem kw_627 : (.methodLink R_Mo 216 y_Mo_findLengths : Cond) ∈ gz_W := tb_4 (List.mem_of_getElem? (i := 185) rfl) rfl
theorem kw_628 : (.instanceMethod y_Mo_findLengths : Cond) ∈ gz_W := tb_4 (List.mem_of_getElem? (i := 187) rfl) rfl
theorem kw_629 : (.selects R_Mo y_Mo_findLengths y_Mo_findLengths : Cond) ∈ gz_W := tb_0 (List.mem_of_getElem? (i := 46) rfl) rfl
theorem kw_630 : (.code y_Mo_needed b_Mo_needed 5 (some .int) : Cond) ∈ gz_W := tb_4 (List.mem_of_getElem? (i := 199) rfl) rfl
theorem kw_631 : (.methodLink R_Mo 220 y_Mo_needed : Cond) ∈ gz_W := tb_4 (List.mem_of_getElem? (i := 197) rfl) rfl
theorem kw_632 : (.static y_Mo_needed : Cond) ∈ gz_W := tb_4 (List.mem_of_getElem? (i := 198) rfl) rfl
theorem kw_633 : (.code y_Mo_tellRow b_Mo_tellRow 6 none : Cond) ∈ gz_W := tb_4 (List.mem_of_getElem? (i := 203) rfl) rfl
theorem kw_634 : (.methodLink R_Mo 223 y_Mo_tellRow : Cond) ∈ gz_W := tb_4 (List.mem_of_getElem? (i := 200) rfl) rfl
theorem kw_635 : (.instanceMethod y_Mo_tellRow : Cond) ∈ gz_W := tb_4 (List.mem_of_getElem? (i := 202) rfl) rfl
theorem kw_636 : (.selects R_Mo y_Mo_tellRow y_Mo_tellRow : Cond) ∈ gz_W := tb_0 (List.mem_of_getElem? (i := 49) rfl) rfl
theorem kw_637 : (.code y_Mo_bitsOfTokens b_Mo_bitsOfTokens 6 (some .int) : Cond) ∈ gz_W := tb_4 (List.mem_of_getElem? (i := 211) rfl) rfl
theorem kw_638 : (.methodLink R_Mo 226 y_Mo_bitsOfTokens : Cond) ∈ gz_W := tb_4 (List.mem_of_getElem? (i := 208) rfl) rfl
theorem kw_639 : (.instanceMethod y_Mo_bitsOfTokens : Cond) ∈ gz_W := tb_4 (List.mem_of_getElem? (i := 210) rfl) rfl
theorem kw_640 : (.selects R_Mo y_Mo_bitsOfTokens y_Mo_bitsOfTokens : Cond) ∈ gz_W := tb_0 (List.mem_of_getElem? (i := 51) rfl) rfl
theorem kw_641 : (.code y_Mo_writeStored b_Mo_writeStored 4 none : Cond) ∈ gz_W := tb_4 (List.mem_of_getElem? (i := 222) rfl) rfl
theorem kw_642 : (.methodLink R_Mo 230 y_Mo_writeStored : Cond) ∈ gz_W := tb_4 (List.mem_of_getElem? (i := 219) rfl) rfl
theorem kw_643 : (.instanceMethod y_Mo_writeStored : Cond) ∈ gz_W := tb_4 (List.mem_of_getElem? (i := 221) rfl) rfl
theorem kw_644 : (.selects R_Mo y_Mo_writeStored y_Mo_writeStored : Cond) ∈ gz_W := tb_0 (List.mem_of_getElem? (i := 53) rfl) rfl
theorem kw_645 : (.code y_Mo_writeMade b_Mo_writeMade 5 none : Cond) ∈ gz_W := tb_5 (List.mem_of_getElem? (i := 1) rfl) rfl
theorem kw_646 : (.methodLink R_Mo 233 y_Mo_writeMade : Cond) ∈ gz_W := tb_4 (List.mem_of_getElem? (i := 238) rfl) rfl
theorem kw_647 : (.instanceMethod y_Mo_writeMade : Cond) ∈ gz_W := tb_5 (List.mem_of_getElem? (i := 0) rfl) rfl
theorem kw_648 : (.selects R_Mo y_Mo_writeMade y_Mo_writeMade : Cond) ∈ gz_W := tb_0 (List.mem_of_getElem? (i := 57) rfl) rfl
theorem kw_649 : (.code y_Mo_findTokens b_Mo_findTokens 8 none : Cond) ∈ gz_W := tb_4 (List.mem_of_getElem? (i := 165) rfl) rfl
theorem kw_650 : (.methodLink R_Mo 237 y_Mo_findTokens : Cond) ∈ gz_W := tb_4 (List.mem_of_getElem? (i := 162) rfl) rfl
theorem kw_651 : (.instanceMethod y_Mo_findTokens : Cond) ∈ gz_W := tb_4 (List.mem_of_getElem? (i := 164) rfl) rfl
theorem kw_652 : (.selects R_Mo y_Mo_findTokens y_Mo_findTokens : Cond) ∈ gz_W := tb_0 (List.mem_of_getElem? (i := 42) rfl) rfl
theorem kw_653 : (.code y_Mo_packPart b_Mo_packPart 11 none : Cond) ∈ gz_W := tb_4 (List.mem_of_getElem? (i := 174) rfl) rfl
theorem kw_654 : (.methodLink R_Mo 241 y_Mo_packPart : Cond) ∈ gz_W := tb_4 (List.mem_of_getElem? (i := 171) rfl) rfl
theorem kw_655 : (.instanceMethod y_Mo_packPart : Cond) ∈ gz_W := tb_4 (List.mem_of_getElem? (i := 173) rfl) rfl
theorem kw_656 : (.selects R_Mo y_Mo_packPart y_Mo_packPart : Cond) ∈ gz_W := tb_0 (List.mem_of_getElem? (i := 44) rfl) rfl
theorem kw_657 : (.classLink R_Law 7 R_Bp : Cond) ∈ gz_W := tb_1 (List.mem_of_getElem? (i := 15) rfl) rfl
theorem kw_658 : (.instantiable R_Bp 4 : Cond) ∈ gz_W := tb_1 (List.mem_of_getElem? (i := 16) rfl) rfl
theorem kw_659 : (.code y_Bp_init b_Bp_init 1 none : Cond) ∈ gz_W := tb_1 (List.mem_of_getElem? (i := 19) rfl) rfl
theorem kw_660 : (.methodLink R_Law 9 y_Bp_init : Cond) ∈ gz_W := tb_1 (List.mem_of_getElem? (i := 17) rfl) rfl
theorem kw_661 : (.instanceMethod y_Bp_init : Cond) ∈ gz_W := tb_1 (List.mem_of_getElem? (i := 18) rfl) rfl
theorem kw_662 : (.classLink R_Law 10 R_Mo : Cond) ∈ gz_W := tb_3 (List.mem_of_getElem? (i := 195) rfl) rfl
theorem kw_663 : (.instantiable R_Mo 25 : Cond) ∈ gz_W := tb_3 (List.mem_of_getElem? (i := 196) rfl) rfl
theorem kw_664 : (.code y_Mo_init b_Mo_init 1 none : Cond) ∈ gz_W := tb_3 (List.mem_of_getElem? (i := 199) rfl) rfl
theorem kw_665 : (.methodLink R_Law 12 y_Mo_init : Cond) ∈ gz_W := tb_3 (List.mem_of_getElem? (i := 197) rfl) rfl
theorem kw_666 : (.instanceMethod y_Mo_init : Cond) ∈ gz_W := tb_3 (List.mem_of_getElem? (i := 198) rfl) rfl
theorem kw_667 : (.code y_Bp_length b_Bp_length 3 (some .int) : Cond) ∈ gz_W := tb_3 (List.mem_of_getElem? (i := 194) rfl) rfl
theorem kw_668 : (.methodLink R_Law 65 y_Bp_length : Cond) ∈ gz_W := tb_3 (List.mem_of_getElem? (i := 191) rfl) rfl
theorem kw_669 : (.instanceMethod y_Bp_length : Cond) ∈ gz_W := tb_3 (List.mem_of_getElem? (i := 192) rfl) rfl
theorem kw_670 : (.selects R_Bp y_Bp_length y_Bp_length : Cond) ∈ gz_W := tb_3 (List.mem_of_getElem? (i := 193) rfl) rfl
theorem kw_671 : (.code y_Mo_length b_Mo_length 3 (some .int) : Cond) ∈ gz_W := tb_5 (List.mem_of_getElem? (i := 9) rfl) rfl
theorem kw_672 : (.methodLink R_Law 68 y_Mo_length : Cond) ∈ gz_W := tb_5 (List.mem_of_getElem? (i := 6) rfl) rfl
theorem kw_673 : (.instanceMethod y_Mo_length : Cond) ∈ gz_W := tb_5 (List.mem_of_getElem? (i := 7) rfl) rfl
theorem kw_674 : (.selects R_Mo y_Mo_length y_Mo_length : Cond) ∈ gz_W := tb_5 (List.mem_of_getElem? (i := 8) rfl) rfl
theorem kw_675 : (.code y_Bp_told b_Bp_told 2 (some .int) : Cond) ∈ gz_W := tb_3 (List.mem_of_getElem? (i := 190) rfl) rfl
theorem kw_676 : (.methodLink R_Law 61 y_Bp_told : Cond) ∈ gz_W := tb_3 (List.mem_of_getElem? (i := 187) rfl) rfl
theorem kw_677 : (.instanceMethod y_Bp_told : Cond) ∈ gz_W := tb_3 (List.mem_of_getElem? (i := 188) rfl) rfl
theorem kw_678 : (.selects R_Bp y_Bp_told y_Bp_told : Cond) ∈ gz_W := tb_3 (List.mem_of_getElem? (i := 189) rfl) rfl
theorem kw_679 : (.code y_Mo_told b_Mo_told 2 (some .int) : Cond) ∈ gz_W := tb_5 (List.mem_of_getElem? (i := 5) rfl) rfl
theorem kw_680 : (.methodLink R_Law 64 y_Mo_told : Cond) ∈ gz_W := tb_5 (List.mem_of_getElem? (i := 2) rfl) rfl
theorem kw_681 : (.instanceMethod y_Mo_told : Cond) ∈ gz_W := tb_5 (List.mem_of_getElem? (i := 3) rfl) rfl
theorem kw_682 : (.selects R_Mo y_Mo_told y_Mo_told : Cond) ∈ gz_W := tb_5 (List.mem_of_getElem? (i := 4) rfl) rfl
theorem kw_683 : (.code y_Bp_read b_Bp_read 1 (some .int) : Cond) ∈ gz_W := tb_3 (List.mem_of_getElem? (i := 186) rfl) rfl
theorem kw_684 : (.methodLink R_Law 57 y_Bp_read : Cond) ∈ gz_W := tb_3 (List.mem_of_getElem? (i := 183) rfl) rfl
theorem kw_685 : (.instanceMethod y_Bp_read : Cond) ∈ gz_W := tb_3 (List.mem_of_getElem? (i := 184) rfl) rfl
theorem kw_686 : (.selects R_Bp y_Bp_read y_Bp_read : Cond) ∈ gz_W := tb_3 (List.mem_of_getElem? (i := 185) rfl) rfl
theorem kw_687 : (.code y_Mo_read b_Mo_read 1 (some .int) : Cond) ∈ gz_W := tb_4 (List.mem_of_getElem? (i := 157) rfl) rfl
theorem kw_688 : (.methodLink R_Law 60 y_Mo_read : Cond) ∈ gz_W := tb_4 (List.mem_of_getElem? (i := 154) rfl) rfl
theorem kw_689 : (.instanceMethod y_Mo_read : Cond) ∈ gz_W := tb_4 (List.mem_of_getElem? (i := 155) rfl) rfl
theorem kw_690 : (.selects R_Mo y_Mo_read y_Mo_read : Cond) ∈ gz_W := tb_4 (List.mem_of_getElem? (i := 156) rfl) rfl
theorem kw_691 : (.code y_Bp_unpack b_Bp_unpack 2 (some .int) : Cond) ∈ gz_W := tb_3 (List.mem_of_getElem? (i := 86) rfl) rfl
theorem kw_692 : (.methodLink R_Law 53 y_Bp_unpack : Cond) ∈ gz_W := tb_3 (List.mem_of_getElem? (i := 83) rfl) rfl
theorem kw_693 : (.instanceMethod y_Bp_unpack : Cond) ∈ gz_W := tb_3 (List.mem_of_getElem? (i := 84) rfl) rfl
theorem kw_694 : (.selects R_Bp y_Bp_unpack y_Bp_unpack : Cond) ∈ gz_W := tb_3 (List.mem_of_getElem? (i := 85) rfl) rfl
theorem kw_695 : (.code y_Mo_unpack b_Mo_unpack 7 (some .int) : Cond) ∈ gz_W := tb_4 (List.mem_of_getElem? (i := 71) rfl) rfl
theorem kw_696 : (.methodLink R_Law 56 y_Mo_unpack : Cond) ∈ gz_W := tb_4 (List.mem_of_getElem? (i := 68) rfl) rfl
theorem kw_697 : (.instanceMethod y_Mo_unpack : Cond) ∈ gz_W := tb_4 (List.mem_of_getElem? (i := 69) rfl) rfl
theorem kw_698 : (.selects R_Mo y_Mo_unpack y_Mo_unpack : Cond) ∈ gz_W := tb_4 (List.mem_of_getElem? (i := 70) rfl) rfl
theorem kw_699 : (.code y_Bp_at b_Bp_at 3 (some .int) : Cond) ∈ gz_W := tb_2 (List.mem_of_getElem? (i := 128) rfl) rfl
theorem kw_700 : (.methodLink R_Law 44 y_Bp_at : Cond) ∈ gz_W := tb_2 (List.mem_of_getElem? (i := 125) rfl) rfl
theorem kw_701 : (.instanceMethod y_Bp_at : Cond) ∈ gz_W := tb_2 (List.mem_of_getElem? (i := 126) rfl) rfl
theorem kw_702 : (.selects R_Bp y_Bp_at y_Bp_at : Cond) ∈ gz_W := tb_2 (List.mem_of_getElem? (i := 127) rfl) rfl
theorem kw_703 : (.code y_Mo_at b_Mo_at 3 (some .int) : Cond) ∈ gz_W := tb_4 (List.mem_of_getElem? (i := 67) rfl) rfl
theorem kw_704 : (.methodLink R_Law 47 y_Mo_at : Cond) ∈ gz_W := tb_4 (List.mem_of_getElem? (i := 64) rfl) rfl
theorem kw_705 : (.instanceMethod y_Mo_at : Cond) ∈ gz_W := tb_4 (List.mem_of_getElem? (i := 65) rfl) rfl
theorem kw_706 : (.selects R_Mo y_Mo_at y_Mo_at : Cond) ∈ gz_W := tb_4 (List.mem_of_getElem? (i := 66) rfl) rfl
theorem kw_707 : (.code y_Bp_size b_Bp_size 2 (some .int) : Cond) ∈ gz_W := tb_2 (List.mem_of_getElem? (i := 124) rfl) rfl
theorem kw_708 : (.methodLink R_Law 40 y_Bp_size : Cond) ∈ gz_W := tb_2 (List.mem_of_getElem? (i := 121) rfl) rfl
theorem kw_709 : (.instanceMethod y_Bp_size : Cond) ∈ gz_W := tb_2 (List.mem_of_getElem? (i := 122) rfl) rfl
theorem kw_710 : (.selects R_Bp y_Bp_size y_Bp_size : Cond) ∈ gz_W := tb_2 (List.mem_of_getElem? (i := 123) rfl) rfl
theorem kw_711 : (.code y_Mo_size b_Mo_size 2 (some .int) : Cond) ∈ gz_W := tb_4 (List.mem_of_getElem? (i := 63) rfl) rfl
theorem kw_712 : (.methodLink R_Law 43 y_Mo_size : Cond) ∈ gz_W := tb_4 (List.mem_of_getElem? (i := 60) rfl) rfl
theorem kw_713 : (.instanceMethod y_Mo_size : Cond) ∈ gz_W := tb_4 (List.mem_of_getElem? (i := 61) rfl) rfl
theorem kw_714 : (.selects R_Mo y_Mo_size y_Mo_size : Cond) ∈ gz_W := tb_4 (List.mem_of_getElem? (i := 62) rfl) rfl
theorem kw_715 : (.code y_Bp_take b_Bp_take 1 (some .int) : Cond) ∈ gz_W := tb_2 (List.mem_of_getElem? (i := 114) rfl) rfl
theorem kw_716 : (.methodLink R_Law 35 y_Bp_take : Cond) ∈ gz_W := tb_2 (List.mem_of_getElem? (i := 111) rfl) rfl
theorem kw_717 : (.instanceMethod y_Bp_take : Cond) ∈ gz_W := tb_2 (List.mem_of_getElem? (i := 112) rfl) rfl
theorem kw_718 : (.selects R_Bp y_Bp_take y_Bp_take : Cond) ∈ gz_W := tb_2 (List.mem_of_getElem? (i := 113) rfl) rfl
theorem kw_719 : (.code y_Mo_take b_Mo_take 2 (some .int) : Cond) ∈ gz_W := tb_4 (List.mem_of_getElem? (i := 59) rfl) rfl
theorem kw_720 : (.methodLink R_Law 39 y_Mo_take : Cond) ∈ gz_W := tb_4 (List.mem_of_getElem? (i := 56) rfl) rfl
theorem kw_721 : (.instanceMethod y_Mo_take : Cond) ∈ gz_W := tb_4 (List.mem_of_getElem? (i := 57) rfl) rfl
theorem kw_722 : (.selects R_Mo y_Mo_take y_Mo_take : Cond) ∈ gz_W := tb_4 (List.mem_of_getElem? (i := 58) rfl) rfl
theorem kw_723 : (.code y_Bp_cut b_Bp_cut 3 (some .int) : Cond) ∈ gz_W := tb_2 (List.mem_of_getElem? (i := 110) rfl) rfl
theorem kw_724 : (.methodLink R_Law 30 y_Bp_cut : Cond) ∈ gz_W := tb_2 (List.mem_of_getElem? (i := 107) rfl) rfl
theorem kw_725 : (.instanceMethod y_Bp_cut : Cond) ∈ gz_W := tb_2 (List.mem_of_getElem? (i := 108) rfl) rfl
theorem kw_726 : (.selects R_Bp y_Bp_cut y_Bp_cut : Cond) ∈ gz_W := tb_2 (List.mem_of_getElem? (i := 109) rfl) rfl
theorem kw_727 : (.code y_Mo_cut b_Mo_cut 3 (some .int) : Cond) ∈ gz_W := tb_4 (List.mem_of_getElem? (i := 55) rfl) rfl
theorem kw_728 : (.methodLink R_Law 34 y_Mo_cut : Cond) ∈ gz_W := tb_4 (List.mem_of_getElem? (i := 52) rfl) rfl
theorem kw_729 : (.instanceMethod y_Mo_cut : Cond) ∈ gz_W := tb_4 (List.mem_of_getElem? (i := 53) rfl) rfl
theorem kw_730 : (.selects R_Mo y_Mo_cut y_Mo_cut : Cond) ∈ gz_W := tb_4 (List.mem_of_getElem? (i := 54) rfl) rfl
theorem kw_731 : (.code y_Bp_set b_Bp_set 4 (some .int) : Cond) ∈ gz_W := tb_2 (List.mem_of_getElem? (i := 106) rfl) rfl
theorem kw_732 : (.methodLink R_Law 25 y_Bp_set : Cond) ∈ gz_W := tb_2 (List.mem_of_getElem? (i := 103) rfl) rfl
theorem kw_733 : (.instanceMethod y_Bp_set : Cond) ∈ gz_W := tb_2 (List.mem_of_getElem? (i := 104) rfl) rfl
theorem kw_734 : (.selects R_Bp y_Bp_set y_Bp_set : Cond) ∈ gz_W := tb_2 (List.mem_of_getElem? (i := 105) rfl) rfl
theorem kw_735 : (.code y_Mo_set b_Mo_set 4 (some .int) : Cond) ∈ gz_W := tb_4 (List.mem_of_getElem? (i := 51) rfl) rfl
theorem kw_736 : (.methodLink R_Law 29 y_Mo_set : Cond) ∈ gz_W := tb_4 (List.mem_of_getElem? (i := 48) rfl) rfl
theorem kw_737 : (.instanceMethod y_Mo_set : Cond) ∈ gz_W := tb_4 (List.mem_of_getElem? (i := 49) rfl) rfl
theorem kw_738 : (.selects R_Mo y_Mo_set y_Mo_set : Cond) ∈ gz_W := tb_4 (List.mem_of_getElem? (i := 50) rfl) rfl
theorem kw_739 : (.code y_Bp_fill b_Bp_fill 6 (some .int) : Cond) ∈ gz_W := tb_2 (List.mem_of_getElem? (i := 89) rfl) rfl
theorem kw_740 : (.methodLink R_Law 20 y_Bp_fill : Cond) ∈ gz_W := tb_2 (List.mem_of_getElem? (i := 86) rfl) rfl
theorem kw_741 : (.instanceMethod y_Bp_fill : Cond) ∈ gz_W := tb_2 (List.mem_of_getElem? (i := 87) rfl) rfl
theorem kw_742 : (.selects R_Bp y_Bp_fill y_Bp_fill : Cond) ∈ gz_W := tb_2 (List.mem_of_getElem? (i := 88) rfl) rfl
theorem kw_743 : (.code y_Mo_fill b_Mo_fill 6 (some .int) : Cond) ∈ gz_W := tb_4 (List.mem_of_getElem? (i := 46) rfl) rfl
theorem kw_744 : (.methodLink R_Law 24 y_Mo_fill : Cond) ∈ gz_W := tb_4 (List.mem_of_getElem? (i := 43) rfl) rfl
theorem kw_745 : (.instanceMethod y_Mo_fill : Cond) ∈ gz_W := tb_4 (List.mem_of_getElem? (i := 44) rfl) rfl
theorem kw_746 : (.selects R_Mo y_Mo_fill y_Mo_fill : Cond) ∈ gz_W := tb_4 (List.mem_of_getElem? (i := 45) rfl) rfl
theorem kw_747 : (.constantLong R_Law 13 (4294967295 : Int64) : Cond) ∈ gz_W := tb_5 (List.mem_of_getElem? (i := 10) rfl) rfl
theorem kw_748 : (.code y_Bp_feed b_Bp_feed 5 (some .int) : Cond) ∈ gz_W := tb_2 (List.mem_of_getElem? (i := 81) rfl) rfl
theorem kw_749 : (.methodLink R_Law 15 y_Bp_feed : Cond) ∈ gz_W := tb_2 (List.mem_of_getElem? (i := 78) rfl) rfl
theorem kw_750 : (.instanceMethod y_Bp_feed : Cond) ∈ gz_W := tb_2 (List.mem_of_getElem? (i := 79) rfl) rfl
theorem kw_751 : (.selects R_Bp y_Bp_feed y_Bp_feed : Cond) ∈ gz_W := tb_2 (List.mem_of_getElem? (i := 80) rfl) rfl
theorem kw_752 : (.code y_Mo_feed b_Mo_feed 5 (some .int) : Cond) ∈ gz_W := tb_4 (List.mem_of_getElem? (i := 41) rfl) rfl
theorem kw_753 : (.methodLink R_Law 19 y_Mo_feed : Cond) ∈ gz_W := tb_4 (List.mem_of_getElem? (i := 38) rfl) rfl
theorem kw_754 : (.instanceMethod y_Mo_feed : Cond) ∈ gz_W := tb_4 (List.mem_of_getElem? (i := 39) rfl) rfl
theorem kw_755 : (.selects R_Mo y_Mo_feed y_Mo_feed : Cond) ∈ gz_W := tb_4 (List.mem_of_getElem? (i := 40) rfl) rfl
theorem kw_756 : (.code y_Bp_pack b_Bp_pack 3 (some .int) : Cond) ∈ gz_W := tb_2 (List.mem_of_getElem? (i := 132) rfl) rfl
theorem kw_757 : (.methodLink R_Law 48 y_Bp_pack : Cond) ∈ gz_W := tb_2 (List.mem_of_getElem? (i := 129) rfl) rfl
theorem kw_758 : (.instanceMethod y_Bp_pack : Cond) ∈ gz_W := tb_2 (List.mem_of_getElem? (i := 130) rfl) rfl
theorem kw_759 : (.selects R_Bp y_Bp_pack y_Bp_pack : Cond) ∈ gz_W := tb_2 (List.mem_of_getElem? (i := 131) rfl) rfl
theorem kw_760 : (.code y_Mo_pack b_Mo_pack 8 (some .int) : Cond) ∈ gz_W := tb_4 (List.mem_of_getElem? (i := 161) rfl) rfl
theorem kw_761 : (.methodLink R_Law 52 y_Mo_pack : Cond) ∈ gz_W := tb_4 (List.mem_of_getElem? (i := 158) rfl) rfl
theorem kw_762 : (.instanceMethod y_Mo_pack : Cond) ∈ gz_W := tb_4 (List.mem_of_getElem? (i := 159) rfl) rfl
theorem kw_763 : (.selects R_Mo y_Mo_pack y_Mo_pack : Cond) ∈ gz_W := tb_4 (List.mem_of_getElem? (i := 160) rfl) rfl
def gz_NW : List Cond := [.methodLinkNest R_Bp 11 y_Row_init R_Bp, .methodLinkNest R_Packer 11 y_Matcher_init R_Bp, .methodLinkNest R_Packer 20 y_LengthMaker_init R_Bp, .methodLinkNest R_Packer 27 y_Found_init R_Bp, .methodLinkNest R_Packer 34 y_Tale_init R_Bp, .methodLinkNest R_Tale 26 y_WriteCodes_init R_Bp, .methodLinkNest R_Packer 41 y_WriteCodes_init R_Bp, .methodLinkNest R_Packer 75 y_Bp_fixedLength R_Bp, .methodLinkNest R_Unpacker 11 y_ReadCodes_init R_Bp, .methodLinkNest R_Unpacker 51 y_Bp_fixedLength R_Bp, .methodLinkNest R_Found 35 y_Bp_symbolForLength R_Bp, .methodLinkNest R_Found 39 y_Bp_symbolForDistance R_Bp, .methodLinkNest R_Tale 87 y_Bp_leastOfTold R_Bp, .fieldLinkNest R_Tale 67 R_Bp "LENGTH_ORDER" "[I" R_Bp, .methodLinkNest R_Found 47 y_Bp_extraOfSymbol R_Bp, .methodLinkNest R_Found 50 y_Bp_extraOfDistance R_Bp, .methodLinkNest R_Tale 97 y_Bp_extraOfTold R_Bp, .methodLinkNest R_Found 61 y_Bp_baseOfSymbol R_Bp, .methodLinkNest R_Found 71 y_Bp_baseOfDistance R_Bp, .methodLinkNest R_Unpacker 152 y_Bp_extraOfSymbol R_Bp, .methodLinkNest R_Unpacker 155 y_Bp_extraOfDistance R_Bp, .methodLinkNest R_Unpacker 158 y_Bp_baseOfSymbol R_Bp, .methodLinkNest R_Unpacker 161 y_Bp_baseOfDistance R_Bp, .fieldLinkNest R_Unpacker 130 R_Bp "LENGTH_ORDER" "[I" R_Bp, .methodLinkNest R_Unpacker 136 y_Bp_extraOfTold R_Bp, .methodLinkNest R_Unpacker 139 y_Bp_leastOfTold R_Bp]
abbrev w_Bp_initS : List Cond := .code y_Bp_init b_Bp_init 1 none :: gz_W
abbrev w_Bp_feedS : List Cond := .code y_Bp_feed b_Bp_feed 5 (some .int) :: gz_W
abbrev w_Bp_fillS : List Cond := .code y_Bp_fill b_Bp_fill 6 (some .int) :: gz_W
abbrev w_Bp_fillingS : List Cond := .code y_Bp_filling b_Bp_filling 5 (some .int) :: gz_W
abbrev w_Bp_setS : List Cond := .code y_Bp_set b_Bp_set 4 (some .int) :: gz_W
abbrev w_Bp_cutS : List Cond := .code y_Bp_cut b_Bp_cut 3 (some .int) :: gz_W
abbrev w_Bp_takeS : List Cond := .code y_Bp_take b_Bp_take 1 (some .int) :: gz_W
abbrev w_Bp_sizeS : List Cond := .code y_Bp_size b_Bp_size 2 (some .int) :: gz_W
abbrev w_Bp_atS : List Cond := .code y_Bp_at b_Bp_at 3 (some .int) :: gz_W
abbrev w_Bp_packS : List Cond := .code y_Bp_pack b_Bp_pack 3 (some .int) :: gz_W
abbrev w_Bp_unpackS : List Cond := .code y_Bp_unpack b_Bp_unpack 2 (some .int) :: gz_W
abbrev w_Bp_readS : List Cond := .code y_Bp_read b_Bp_read 1 (some .int) :: gz_W
abbrev w_Bp_toldS : List Cond := .code y_Bp_told b_Bp_told 2 (some .int) :: gz_W
abbrev w_Bp_lengthS : List Cond := .code y_Bp_length b_Bp_length 3 (some .int) :: gz_W
abbrev w_Bp_extraOfSymbolS : List Cond := .code y_Bp_extraOfSymbol b_Bp_extraOfSymbol 1 (some .int) :: gz_W
abbrev w_Bp_baseOfSymbolS : List Cond := .code y_Bp_baseOfSymbol b_Bp_baseOfSymbol 1 (some .int) :: gz_W
abbrev w_Bp_extraOfDistanceS : List Cond := .code y_Bp_extraOfDistance b_Bp_extraOfDistance 1 (some .int) :: gz_W
abbrev w_Bp_baseOfDistanceS : List Cond := .code y_Bp_baseOfDistance b_Bp_baseOfDistance 1 (some .int) :: gz_W
abbrev w_Bp_symbolForLengthS : List Cond := .code y_Bp_symbolForLength b_Bp_symbolForLength 3 (some .int) :: gz_W
abbrev w_Bp_symbolForDistanceS : List Cond := .code y_Bp_symbolForDistance b_Bp_symbolForDistance 3 (some .int) :: gz_W
abbrev w_Bp_bitsInS : List Cond := .code y_Bp_bitsIn b_Bp_bitsIn 2 (some .int) :: gz_W
abbrev w_Bp_extraOfToldS : List Cond := .code y_Bp_extraOfTold b_Bp_extraOfTold 1 (some .int) :: gz_W
abbrev w_Bp_leastOfToldS : List Cond := .code y_Bp_leastOfTold b_Bp_leastOfTold 1 (some .int) :: gz_W
abbrev w_Bp_fixedLengthS : List Cond := .code y_Bp_fixedLength b_Bp_fixedLength 1 (some .int) :: gz_W
abbrev w_Mo_initS : List Cond := .code y_Mo_init b_Mo_init 1 none :: gz_W
abbrev w_Mo_feedS : List Cond := .code y_Mo_feed b_Mo_feed 5 (some .int) :: gz_W
abbrev w_Mo_fillS : List Cond := .code y_Mo_fill b_Mo_fill 6 (some .int) :: gz_W
abbrev w_Mo_setS : List Cond := .code y_Mo_set b_Mo_set 4 (some .int) :: gz_W
abbrev w_Mo_cutS : List Cond := .code y_Mo_cut b_Mo_cut 3 (some .int) :: gz_W
abbrev w_Mo_takeS : List Cond := .code y_Mo_take b_Mo_take 2 (some .int) :: gz_W
abbrev w_Mo_sizeS : List Cond := .code y_Mo_size b_Mo_size 2 (some .int) :: gz_W
abbrev w_Mo_atS : List Cond := .code y_Mo_at b_Mo_at 3 (some .int) :: gz_W
abbrev w_Mo_blameS : List Cond := .code y_Mo_blame b_Mo_blame 2 none :: gz_W
abbrev w_Mo_bitS : List Cond := .code y_Mo_bit b_Mo_bit 1 (some .int) :: gz_W
abbrev w_Mo_numberS : List Cond := .code y_Mo_number b_Mo_number 4 (some .int) :: gz_W
abbrev w_Mo_toByteS : List Cond := .code y_Mo_toByte b_Mo_toByte 2 none :: gz_W
abbrev w_Mo_makeS : List Cond := .code y_Mo_make b_Mo_make 2 none :: gz_W
abbrev w_Mo_weightOfS : List Cond := .code y_Mo_weightOf b_Mo_weightOf 5 (some .int) :: gz_W
abbrev w_Mo_codesOfS : List Cond := .code y_Mo_codesOf b_Mo_codesOf 5 (some .int) :: gz_W
abbrev w_Mo_areCodesS : List Cond := .code y_Mo_areCodes b_Mo_areCodes 6 (some .boolean) :: gz_W
abbrev w_Mo_codeOfS : List Cond := .code y_Mo_codeOf b_Mo_codeOf 8 (some .int) :: gz_W
abbrev w_Mo_symbolS : List Cond := .code y_Mo_symbol b_Mo_symbol 10 (some .int) :: gz_W
abbrev w_Mo_beginsS : List Cond := .code y_Mo_begins b_Mo_begins 7 (some .boolean) :: gz_W
abbrev w_Mo_nthS : List Cond := .code y_Mo_nth b_Mo_nth 7 (some .int) :: gz_W
abbrev w_Mo_smallOrderS : List Cond := .code y_Mo_smallOrder b_Mo_smallOrder 1 (some .int) :: gz_W
abbrev w_Mo_fixedLengthsS : List Cond := .code y_Mo_fixedLengths b_Mo_fixedLengths 2 none :: gz_W
abbrev w_Mo_readLengthsS : List Cond := .code y_Mo_readLengths b_Mo_readLengths 9 none :: gz_W
abbrev w_Mo_lengthBitsS : List Cond := .code y_Mo_lengthBits b_Mo_lengthBits 1 (some .int) :: gz_W
abbrev w_Mo_lengthBaseS : List Cond := .code y_Mo_lengthBase b_Mo_lengthBase 1 (some .int) :: gz_W
abbrev w_Mo_distanceBitsS : List Cond := .code y_Mo_distanceBits b_Mo_distanceBits 1 (some .int) :: gz_W
abbrev w_Mo_distanceBaseS : List Cond := .code y_Mo_distanceBase b_Mo_distanceBase 1 (some .int) :: gz_W
abbrev w_Mo_readSymbolsS : List Cond := .code y_Mo_readSymbols b_Mo_readSymbols 3 none :: gz_W
abbrev w_Mo_readMatchS : List Cond := .code y_Mo_readMatch b_Mo_readMatch 6 none :: gz_W
abbrev w_Mo_readStoredS : List Cond := .code y_Mo_readStored b_Mo_readStored 4 none :: gz_W
abbrev w_Mo_checkOfS : List Cond := .code y_Mo_checkOf b_Mo_checkOf 7 (some .long) :: gz_W
abbrev w_Mo_unpackS : List Cond := .code y_Mo_unpack b_Mo_unpack 7 (some .int) :: gz_W
abbrev w_Mo_readS : List Cond := .code y_Mo_read b_Mo_read 1 (some .int) :: gz_W
abbrev w_Mo_bestAtS : List Cond := .code y_Mo_bestAt b_Mo_bestAt 8 (some .int) :: gz_W
abbrev w_Mo_findTokensS : List Cond := .code y_Mo_findTokens b_Mo_findTokens 8 none :: gz_W
abbrev w_Mo_lengthSymbolS : List Cond := .code y_Mo_lengthSymbol b_Mo_lengthSymbol 2 (some .int) :: gz_W
abbrev w_Mo_distanceSymbolS : List Cond := .code y_Mo_distanceSymbol b_Mo_distanceSymbol 2 (some .int) :: gz_W
abbrev w_Mo_countS : List Cond := .code y_Mo_count b_Mo_count 2 none :: gz_W
abbrev w_Mo_sortS : List Cond := .code y_Mo_sort b_Mo_sort 7 (some .int) :: gz_W
abbrev w_Mo_makeListS : List Cond := .code y_Mo_makeList b_Mo_makeList 10 none :: gz_W
abbrev w_Mo_findLengthsS : List Cond := .code y_Mo_findLengths b_Mo_findLengths 11 none :: gz_W
abbrev w_Mo_tellS : List Cond := .code y_Mo_tell b_Mo_tell 3 none :: gz_W
abbrev w_Mo_tellRowS : List Cond := .code y_Mo_tellRow b_Mo_tellRow 6 none :: gz_W
abbrev w_Mo_stepBitsS : List Cond := .code y_Mo_stepBits b_Mo_stepBits 1 (some .int) :: gz_W
abbrev w_Mo_neededS : List Cond := .code y_Mo_needed b_Mo_needed 5 (some .int) :: gz_W
abbrev w_Mo_writeBitS : List Cond := .code y_Mo_writeBit b_Mo_writeBit 2 none :: gz_W
abbrev w_Mo_writeNumberS : List Cond := .code y_Mo_writeNumber b_Mo_writeNumber 4 none :: gz_W
abbrev w_Mo_writeCodeS : List Cond := .code y_Mo_writeCode b_Mo_writeCode 7 none :: gz_W
abbrev w_Mo_bitsOfTokensS : List Cond := .code y_Mo_bitsOfTokens b_Mo_bitsOfTokens 6 (some .int) :: gz_W
abbrev w_Mo_writeTokensS : List Cond := .code y_Mo_writeTokens b_Mo_writeTokens 4 none :: gz_W
abbrev w_Mo_writeStoredS : List Cond := .code y_Mo_writeStored b_Mo_writeStored 4 none :: gz_W
abbrev w_Mo_writeMadeS : List Cond := .code y_Mo_writeMade b_Mo_writeMade 5 none :: gz_W
abbrev w_Mo_packPartS : List Cond := .code y_Mo_packPart b_Mo_packPart 11 none :: gz_W
abbrev w_Mo_packS : List Cond := .code y_Mo_pack b_Mo_pack 8 (some .int) :: gz_W
abbrev w_Mo_toldS : List Cond := .code y_Mo_told b_Mo_told 2 (some .int) :: gz_W
abbrev w_Mo_lengthS : List Cond := .code y_Mo_length b_Mo_length 3 (some .int) :: gz_W
abbrev w_Found_initS : List Cond := .code y_Found_init b_Found_init 1 none :: gz_W
abbrev w_Found_startS : List Cond := .code y_Found_start b_Found_start 1 none :: gz_W
abbrev w_Found_addSingleS : List Cond := .code y_Found_addSingle b_Found_addSingle 2 none :: gz_W
abbrev w_Found_addMatchS : List Cond := .code y_Found_addMatch b_Found_addMatch 3 none :: gz_W
abbrev w_Found_addItemS : List Cond := .code y_Found_addItem b_Found_addItem 2 none :: gz_W
abbrev w_Found_bitsS : List Cond := .code y_Found_bits b_Found_bits 5 (some .int) :: gz_W
abbrev w_Found_writeS : List Cond := .code y_Found_write b_Found_write 6 none :: gz_W
abbrev w_Found_writeMatchS : List Cond := .code y_Found_writeMatch b_Found_writeMatch 9 none :: gz_W
abbrev w_LengthMaker_initS : List Cond := .code y_LengthMaker_init b_LengthMaker_init 1 none :: gz_W
abbrev w_LengthMaker_makeS : List Cond := .code y_LengthMaker_make b_LengthMaker_make 6 none :: gz_W
abbrev w_LengthMaker_sortSymbolsS : List Cond := .code y_LengthMaker_sortSymbols b_LengthMaker_sortSymbols 6 (some .int) :: gz_W
abbrev w_LengthMaker_makeListsS : List Cond := .code y_LengthMaker_makeLists b_LengthMaker_makeLists 9 none :: gz_W
abbrev w_LengthMaker_makeListS : List Cond := .code y_LengthMaker_makeList b_LengthMaker_makeList 13 (some .int) :: gz_W
abbrev w_LengthMaker_takeItemsS : List Cond := .code y_LengthMaker_takeItems b_LengthMaker_takeItems 8 none :: gz_W
abbrev w_Matcher_initS : List Cond := .code y_Matcher_init b_Matcher_init 1 none :: gz_W
abbrev w_Matcher_prepareS : List Cond := .code y_Matcher_prepare b_Matcher_prepare 5 none :: gz_W
abbrev w_Matcher_sortS : List Cond := .code y_Matcher_sort b_Matcher_sort 8 none :: gz_W
abbrev w_Matcher_sameThreeS : List Cond := .code y_Matcher_sameThree b_Matcher_sameThree 4 (some .boolean) :: gz_W
abbrev w_Matcher_findS : List Cond := .code y_Matcher_find b_Matcher_find 9 none :: gz_W
abbrev w_Matcher_countSameS : List Cond := .code y_Matcher_countSame b_Matcher_countSame 6 (some .int) :: gz_W
abbrev w_Packer_initS : List Cond := .code y_Packer_init b_Packer_init 2 none :: gz_W
abbrev w_Packer_runS : List Cond := .code y_Packer_run b_Packer_run 7 none :: gz_W
abbrev w_Packer_findSymbolsS : List Cond := .code y_Packer_findSymbols b_Packer_findSymbols 11 none :: gz_W
abbrev w_Packer_writeBlockS : List Cond := .code y_Packer_writeBlock b_Packer_writeBlock 8 none :: gz_W
abbrev w_Packer_writeStoredS : List Cond := .code y_Packer_writeStored b_Packer_writeStored 6 none :: gz_W
abbrev w_ReadCodes_initS : List Cond := .code y_ReadCodes_init b_ReadCodes_init 1 none :: gz_W
abbrev w_ReadCodes_makeS : List Cond := .code y_ReadCodes_make b_ReadCodes_make 5 none :: gz_W
abbrev w_ReadCodes_addSymbolsS : List Cond := .code y_ReadCodes_addSymbols b_ReadCodes_addSymbols 6 none :: gz_W
abbrev w_ReadCodes_fitS : List Cond := .code y_ReadCodes_fit b_ReadCodes_fit 3 (some .boolean) :: gz_W
abbrev w_ReadCodes_noneS : List Cond := .code y_ReadCodes_none b_ReadCodes_none 1 (some .boolean) :: gz_W
abbrev w_ReadCodes_nextS : List Cond := .code y_ReadCodes_next b_ReadCodes_next 8 (some .int) :: gz_W
abbrev w_Row_initS : List Cond := .code y_Row_init b_Row_init 1 none :: gz_W
abbrev w_Row_hasS : List Cond := .code y_Row_has b_Row_has 2 (some .boolean) :: gz_W
abbrev w_Row_byteAtS : List Cond := .code y_Row_byteAt b_Row_byteAt 2 (some .int) :: gz_W
abbrev w_Row_clearS : List Cond := .code y_Row_clear b_Row_clear 1 none :: gz_W
abbrev w_Row_addS : List Cond := .code y_Row_add b_Row_add 3 (some .boolean) :: gz_W
abbrev w_Row_bitsLeftS : List Cond := .code y_Row_bitsLeft b_Row_bitsLeft 1 (some .int) :: gz_W
abbrev w_Row_nextBitS : List Cond := .code y_Row_nextBit b_Row_nextBit 3 (some .int) :: gz_W
abbrev w_Row_nextNumberS : List Cond := .code y_Row_nextNumber b_Row_nextNumber 4 (some .int) :: gz_W
abbrev w_Row_skipToByteS : List Cond := .code y_Row_skipToByte b_Row_skipToByte 1 none :: gz_W
abbrev w_Row_putNumberS : List Cond := .code y_Row_putNumber b_Row_putNumber 5 none :: gz_W
abbrev w_Row_checkS : List Cond := .code y_Row_check b_Row_check 4 (some .int) :: gz_W
abbrev w_Tale_initS : List Cond := .code y_Tale_init b_Tale_init 1 none :: gz_W
abbrev w_Tale_makeS : List Cond := .code y_Tale_make b_Tale_make 5 none :: gz_W
abbrev w_Tale_neededS : List Cond := .code y_Tale_needed b_Tale_needed 6 (some .int) :: gz_W
abbrev w_Tale_tellRowS : List Cond := .code y_Tale_tellRow b_Tale_tellRow 4 none :: gz_W
abbrev w_Tale_tellStretchS : List Cond := .code y_Tale_tellStretch b_Tale_tellStretch 5 none :: gz_W
abbrev w_Tale_tellByS : List Cond := .code y_Tale_tellBy b_Tale_tellBy 6 (some .int) :: gz_W
abbrev w_Tale_addItemS : List Cond := .code y_Tale_addItem b_Tale_addItem 3 none :: gz_W
abbrev w_Tale_bitsS : List Cond := .code y_Tale_bits b_Tale_bits 3 (some .int) :: gz_W
abbrev w_Tale_writeS : List Cond := .code y_Tale_write b_Tale_write 3 none :: gz_W
abbrev w_Unpacker_initS : List Cond := .code y_Unpacker_init b_Unpacker_init 3 none :: gz_W
abbrev w_Unpacker_runS : List Cond := .code y_Unpacker_run b_Unpacker_run 5 (some .int) :: gz_W
abbrev w_Unpacker_readHeadS : List Cond := .code y_Unpacker_readHead b_Unpacker_readHead 4 (some .int) :: gz_W
abbrev w_Unpacker_readCheckS : List Cond := .code y_Unpacker_readCheck b_Unpacker_readCheck 6 (some .int) :: gz_W
abbrev w_Unpacker_readBlockS : List Cond := .code y_Unpacker_readBlock b_Unpacker_readBlock 6 (some .int) :: gz_W
abbrev w_Unpacker_readStoredS : List Cond := .code y_Unpacker_readStored b_Unpacker_readStored 7 (some .int) :: gz_W
abbrev w_Unpacker_readCodesS : List Cond := .code y_Unpacker_readCodes b_Unpacker_readCodes 8 (some .int) :: gz_W
abbrev w_Unpacker_readLengthCodesS : List Cond := .code y_Unpacker_readLengthCodes b_Unpacker_readLengthCodes 5 (some .int) :: gz_W
abbrev w_Unpacker_readLengthsS : List Cond := .code y_Unpacker_readLengths b_Unpacker_readLengths 9 (some .int) :: gz_W
abbrev w_Unpacker_readSymbolsS : List Cond := .code y_Unpacker_readSymbols b_Unpacker_readSymbols 8 (some .int) :: gz_W
abbrev w_Unpacker_putSingleS : List Cond := .code y_Unpacker_putSingle b_Unpacker_putSingle 3 (some .int) :: gz_W
abbrev w_Unpacker_readMatchS : List Cond := .code y_Unpacker_readMatch b_Unpacker_readMatch 8 (some .int) :: gz_W
abbrev w_Unpacker_repeatS : List Cond := .code y_Unpacker_repeat b_Unpacker_repeat 5 (some .int) :: gz_W
abbrev w_WriteCodes_initS : List Cond := .code y_WriteCodes_init b_WriteCodes_init 1 none :: gz_W
abbrev w_WriteCodes_makeCodesS : List Cond := .code y_WriteCodes_makeCodes b_WriteCodes_makeCodes 4 none :: gz_W
abbrev w_WriteCodes_turnedS : List Cond := .code y_WriteCodes_turned b_WriteCodes_turned 5 (some .int) :: gz_W
abbrev w_WriteCodes_writeS : List Cond := .code y_WriteCodes_write b_WriteCodes_write 3 none :: gz_W
abbrev w_Ar_fill2S : List Cond := .code y_Ar_fill2 b_Ar_fill2 4 none :: gz_W
abbrev w_Ar_fill4S : List Cond := .code y_Ar_fill4 b_Ar_fill4 5 none :: gz_W
abbrev w_Ar_rangeCheckS : List Cond := .code y_Ar_rangeCheck b_Ar_rangeCheck 3 none :: gz_W
def tabC : String := "BlockPacker"
def tabN : String := "LENGTH_ORDER"
abbrev tabL : Nat := 19
def tabS (j : Nat) : Int32 := ([16, 17, 18, 0, 8, 7, 9, 6, 10, 5, 11, 4, 12, 3, 13, 2, 14, 1, 15] : List Int32).getD j 0
