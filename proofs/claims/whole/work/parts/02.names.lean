/-- the words of the tables that a contract may ask for -/
def lw_g : List Cond := lw_tbl.filter goodWord
def R0 : String := "ClearingWaves$Book"
def T0 : u_T := fun k => match k with
  | 0 => ("ClearingWaves$Book", "n", "I", false)
  | 1 => ("ClearingWaves$Book", "ofCash", "I", false)
  | 2 => ("ClearingWaves$Book", "ofIncome", "I", false)
  | 3 => ("ClearingWaves$Book", "cash", "[I", true)
  | 4 => ("ClearingWaves$Book", "debts", "[I", true)
  | _ => ("ClearingWaves$Book", "units", "[J", true)
def ty0 : Nat → FieldType := fun k => match k with
  | 0 => .int
  | 1 => .int
  | 2 => .int
  | 3 => .array .int
  | 4 => .array .int
  | _ => .array .long
theorem nm0 : ∀ a, a < 6 → ∀ b, b < 6 → a ≠ b → (T0 a).2.1 ≠ (T0 b).2.1 := by decide +kernel
theorem ty0_ok : ∀ k, k < 6 → parseFieldDescriptor (T0 k).2.2.1 = some (ty0 k) := by decide +kernel
theorem in0 : ∀ w ∈ u_ws R0 T0 6, w ∈ lw_g := by decide +kernel
def R1 : String := "ClearingWaves$Clearing"
def T1 : u_T := fun k => match k with
  | 0 => ("ClearingWaves$Clearing", "waves", "I", false)
  | 1 => ("ClearingWaves$Clearing", "fallen", "I", false)
  | 2 => ("ClearingWaves$Clearing", "waveOf", "[I", true)
  | 3 => ("ClearingWaves$Clearing", "book", "LClearingWaves$Book;", true)
  | 4 => ("ClearingWaves$Clearing", "purse", "[I", true)
  | 5 => ("ClearingWaves$Clearing", "tops", "[J", true)
  | 6 => ("ClearingWaves$Clearing", "bottoms", "[J", true)
  | 7 => ("ClearingWaves$Clearing", "due", "[I", true)
  | 8 => ("ClearingWaves$Clearing", "dueAll", "[I", true)
  | 9 => ("ClearingWaves$Clearing", "whole", "[I", true)
  | 10 => ("ClearingWaves$Clearing", "partly", "[Z", true)
  | 11 => ("ClearingWaves$Clearing", "share", "[J", true)
  | 12 => ("ClearingWaves$Clearing", "unknown", "[I", true)
  | 13 => ("ClearingWaves$Clearing", "equations", "LClearingWaves$Equations;", true)
  | _ => ("ClearingWaves$Clearing", "scale", "J", false)
def ty1 : Nat → FieldType := fun k => match k with
  | 0 => .int
  | 1 => .int
  | 2 => .array .int
  | 3 => .object "ClearingWaves$Book"
  | 4 => .array .int
  | 5 => .array .long
  | 6 => .array .long
  | 7 => .array .int
  | 8 => .array .int
  | 9 => .array .int
  | 10 => .array .boolean
  | 11 => .array .long
  | 12 => .array .int
  | 13 => .object "ClearingWaves$Equations"
  | _ => .long
theorem nm1 : ∀ a, a < 15 → ∀ b, b < 15 → a ≠ b → (T1 a).2.1 ≠ (T1 b).2.1 := by decide +kernel
theorem ty1_ok : ∀ k, k < 15 → parseFieldDescriptor (T1 k).2.2.1 = some (ty1 k) := by decide +kernel
theorem in1 : ∀ w ∈ u_ws R1 T1 15, w ∈ lw_g := by decide +kernel
def R2 : String := "ClearingWaves$Coins"
def T2 : u_T := fun k => match k with
  | 0 => ("ClearingWaves$Coins", "changes", "I", false)
  | 1 => ("ClearingWaves$Coins", "book", "LClearingWaves$Book;", true)
  | 2 => ("ClearingWaves$Coins", "income", "[I", true)
  | _ => ("ClearingWaves$Coins", "paidNow", "[I", true)
def ty2 : Nat → FieldType := fun k => match k with
  | 0 => .int
  | 1 => .object "ClearingWaves$Book"
  | 2 => .array .int
  | _ => .array .int
theorem nm2 : ∀ a, a < 4 → ∀ b, b < 4 → a ≠ b → (T2 a).2.1 ≠ (T2 b).2.1 := by decide +kernel
theorem ty2_ok : ∀ k, k < 4 → parseFieldDescriptor (T2 k).2.2.1 = some (ty2 k) := by decide +kernel
theorem in2 : ∀ w ∈ u_ws R2 T2 4, w ∈ lw_g := by decide +kernel
def R3 : String := "ClearingWaves$Equations"
def T3 : u_T := fun k => match k with
  | 0 => ("ClearingWaves$Equations", "factors", "[J", true)
  | _ => ("ClearingWaves$Equations", "minors", "[J", true)
def ty3 : Nat → FieldType := fun k => match k with
  | 0 => .array .long
  | _ => .array .long
theorem nm3 : ∀ a, a < 2 → ∀ b, b < 2 → a ≠ b → (T3 a).2.1 ≠ (T3 b).2.1 := by decide +kernel
theorem ty3_ok : ∀ k, k < 2 → parseFieldDescriptor (T3 k).2.2.1 = some (ty3 k) := by decide +kernel
theorem in3 : ∀ w ∈ u_ws R3 T3 2, w ∈ lw_g := by decide +kernel
def R4 : String := "ClearingWaves$Paper"
def T4 : u_T := fun k => match k with
  | 0 => ("ClearingWaves$Paper", "length", "I", false)
  | _ => ("ClearingWaves$Paper", "bytes", "[I", true)
def ty4 : Nat → FieldType := fun k => match k with
  | 0 => .int
  | _ => .array .int
theorem nm4 : ∀ a, a < 2 → ∀ b, b < 2 → a ≠ b → (T4 a).2.1 ≠ (T4 b).2.1 := by decide +kernel
theorem ty4_ok : ∀ k, k < 2 → parseFieldDescriptor (T4 k).2.2.1 = some (ty4 k) := by decide +kernel
theorem in4 : ∀ w ∈ u_ws R4 T4 2, w ∈ lw_g := by decide +kernel
def R5 : String := "ClearingWaves$Rings"
def T5 : u_T := fun k => match k with
  | 0 => ("ClearingWaves$Rings", "path", "[I", true)
  | _ => ("ClearingWaves$Rings", "book", "LClearingWaves$Book;", true)
def ty5 : Nat → FieldType := fun k => match k with
  | 0 => .array .int
  | _ => .object "ClearingWaves$Book"
theorem nm5 : ∀ a, a < 2 → ∀ b, b < 2 → a ≠ b → (T5 a).2.1 ≠ (T5 b).2.1 := by decide +kernel
theorem ty5_ok : ∀ k, k < 2 → parseFieldDescriptor (T5 k).2.2.1 = some (ty5 k) := by decide +kernel
theorem in5 : ∀ w ∈ u_ws R5 T5 2, w ∈ lw_g := by decide +kernel
def R6 : String := "ClearingWaves$Rows"
def T6 : u_T := fun k => match k with
  | 0 => ("ClearingWaves$Rows", "sizes", "[I", true)
  | _ => ("ClearingWaves$Rows", "places", "[J", true)
def ty6 : Nat → FieldType := fun k => match k with
  | 0 => .array .int
  | _ => .array .long
theorem nm6 : ∀ a, a < 2 → ∀ b, b < 2 → a ≠ b → (T6 a).2.1 ≠ (T6 b).2.1 := by decide +kernel
theorem ty6_ok : ∀ k, k < 2 → parseFieldDescriptor (T6 k).2.2.1 = some (ty6 k) := by decide +kernel
theorem in6 : ∀ w ∈ u_ws R6 T6 2, w ∈ lw_g := by decide +kernel
def R7 : String := "ClearingWaves$Tape"
def T7 : u_T := fun k => match k with
  | 0 => ("ClearingWaves$Tape", "length", "I", false)
  | 1 => ("ClearingWaves$Tape", "bytes", "[I", true)
  | _ => ("ClearingWaves$Tape", "at", "I", false)
def ty7 : Nat → FieldType := fun k => match k with
  | 0 => .int
  | 1 => .array .int
  | _ => .int
theorem nm7 : ∀ a, a < 3 → ∀ b, b < 3 → a ≠ b → (T7 a).2.1 ≠ (T7 b).2.1 := by decide +kernel
theorem ty7_ok : ∀ k, k < 3 → parseFieldDescriptor (T7 k).2.2.1 = some (ty7 k) := by decide +kernel
theorem in7 : ∀ w ∈ u_ws R7 T7 3, w ∈ lw_g := by decide +kernel
def R8 : String := "ClearingWaves$Told"
def T8 : u_T := fun k => match k with
  | 0 => ("ClearingWaves$Told", "below", "J", false)
  | _ => ("ClearingWaves$Told", "tops", "[J", true)
def ty8 : Nat → FieldType := fun k => match k with
  | 0 => .long
  | _ => .array .long
theorem nm8 : ∀ a, a < 2 → ∀ b, b < 2 → a ≠ b → (T8 a).2.1 ≠ (T8 b).2.1 := by decide +kernel
theorem ty8_ok : ∀ k, k < 2 → parseFieldDescriptor (T8 k).2.2.1 = some (ty8 k) := by decide +kernel
theorem in8 : ∀ w ∈ u_ws R8 T8 2, w ∈ lw_g := by decide +kernel
def R9 : String := "ClearingWaves$Worth"
def T9 : u_T := fun k => match k with
  | 0 => ("ClearingWaves$Worth", "top", "J", false)
  | _ => ("ClearingWaves$Worth", "bottom", "J", false)
def ty9 : Nat → FieldType := fun k => match k with
  | 0 => .long
  | _ => .long
theorem nm9 : ∀ a, a < 2 → ∀ b, b < 2 → a ≠ b → (T9 a).2.1 ≠ (T9 b).2.1 := by decide +kernel
theorem ty9_ok : ∀ k, k < 2 → parseFieldDescriptor (T9 k).2.2.1 = some (ty9 k) := by decide +kernel
theorem in9 : ∀ w ∈ u_ws R9 T9 2, w ∈ lw_g := by decide +kernel
def R10 : String := "ClearingWaves"
def T10 : u_T := fun k => match k with
  | 0 => ("ClearingWaves", "book", "LClearingWaves$Book;", true)
  | 1 => ("ClearingWaves", "kept", "LClearingWaves$Book;", true)
  | 2 => ("ClearingWaves", "isKept", "Z", false)
  | 3 => ("ClearingWaves", "purse", "[I", true)
  | 4 => ("ClearingWaves", "given", "[I", true)
  | 5 => ("ClearingWaves", "present", "LClearingWaves$Clearing;", true)
  | 6 => ("ClearingWaves", "trial", "LClearingWaves$Clearing;", true)
  | 7 => ("ClearingWaves", "presentIsOld", "Z", false)
  | 8 => ("ClearingWaves", "wholeCoins", "LClearingWaves$Coins;", true)
  | 9 => ("ClearingWaves", "coinsAreOld", "Z", false)
  | 10 => ("ClearingWaves", "rings", "LClearingWaves$Rings;", true)
  | 11 => ("ClearingWaves", "worth", "LClearingWaves$Worth;", true)
  | 12 => ("ClearingWaves", "toldParts", "LClearingWaves$Told;", true)
  | 13 => ("ClearingWaves", "tape", "LClearingWaves$Tape;", true)
  | 14 => ("ClearingWaves", "page", "LClearingWaves$Paper;", true)
  | _ => ("ClearingWaves", "rows", "LClearingWaves$Rows;", true)
def ty10 : Nat → FieldType := fun k => match k with
  | 0 => .object "ClearingWaves$Book"
  | 1 => .object "ClearingWaves$Book"
  | 2 => .boolean
  | 3 => .array .int
  | 4 => .array .int
  | 5 => .object "ClearingWaves$Clearing"
  | 6 => .object "ClearingWaves$Clearing"
  | 7 => .boolean
  | 8 => .object "ClearingWaves$Coins"
  | 9 => .boolean
  | 10 => .object "ClearingWaves$Rings"
  | 11 => .object "ClearingWaves$Worth"
  | 12 => .object "ClearingWaves$Told"
  | 13 => .object "ClearingWaves$Tape"
  | 14 => .object "ClearingWaves$Paper"
  | _ => .object "ClearingWaves$Rows"
theorem nm10 : ∀ a, a < 16 → ∀ b, b < 16 → a ≠ b → (T10 a).2.1 ≠ (T10 b).2.1 := by decide +kernel
theorem ty10_ok : ∀ k, k < 16 → parseFieldDescriptor (T10 k).2.2.1 = some (ty10 k) := by decide +kernel
theorem in10 : ∀ w ∈ u_ws R10 T10 16, w ∈ lw_g := by decide +kernel
def R11 : String := "ClearingWavesModel"
def T11 : u_T := fun k => match k with
  | 0 => ("ClearingWavesModel", "told", "[J", true)
  | 1 => ("ClearingWavesModel", "image", "[J", true)
  | 2 => ("ClearingWavesModel", "hasImage", "Z", false)
  | 3 => ("ClearingWavesModel", "now", "[I", true)
  | 4 => ("ClearingWavesModel", "isCleared", "Z", false)
  | 5 => ("ClearingWavesModel", "tape", "[I", true)
  | 6 => ("ClearingWavesModel", "length", "I", false)
  | 7 => ("ClearingWavesModel", "at", "I", false)
  | 8 => ("ClearingWavesModel", "draft", "[I", true)
  | 9 => ("ClearingWavesModel", "rounds", "I", false)
  | 10 => ("ClearingWavesModel", "above", "[J", true)
  | 11 => ("ClearingWavesModel", "below", "[J", true)
  | 12 => ("ClearingWavesModel", "waves", "[I", true)
  | 13 => ("ClearingWavesModel", "failing", "I", false)
  | 14 => ("ClearingWavesModel", "supposed", "[I", true)
  | 15 => ("ClearingWavesModel", "ends", "[I", true)
  | 16 => ("ClearingWavesModel", "open", "[I", true)
  | 17 => ("ClearingWavesModel", "openMany", "I", false)
  | 18 => ("ClearingWavesModel", "matrix", "[J", true)
  | 19 => ("ClearingWavesModel", "right", "[J", true)
  | 20 => ("ClearingWavesModel", "partOf", "[J", true)
  | 21 => ("ClearingWavesModel", "whole", "J", false)
  | 22 => ("ClearingWavesModel", "coins", "[I", true)
  | 23 => ("ClearingWavesModel", "before", "[I", true)
  | 24 => ("ClearingWavesModel", "stepMany", "I", false)
  | 25 => ("ClearingWavesModel", "given", "[I", true)
  | 26 => ("ClearingWavesModel", "ringOf", "[I", true)
  | 27 => ("ClearingWavesModel", "ringMany", "I", false)
  | 28 => ("ClearingWavesModel", "fundAbove", "J", false)
  | 29 => ("ClearingWavesModel", "fundBelow", "J", false)
  | 30 => ("ClearingWavesModel", "isOver", "Z", false)
  | 31 => ("ClearingWavesModel", "paper", "[I", true)
  | 32 => ("ClearingWavesModel", "paperMany", "I", false)
  | 33 => ("ClearingWavesModel", "places", "[J", true)
  | _ => ("ClearingWavesModel", "sizes", "[I", true)
def ty11 : Nat → FieldType := fun k => match k with
  | 0 => .array .long
  | 1 => .array .long
  | 2 => .boolean
  | 3 => .array .int
  | 4 => .boolean
  | 5 => .array .int
  | 6 => .int
  | 7 => .int
  | 8 => .array .int
  | 9 => .int
  | 10 => .array .long
  | 11 => .array .long
  | 12 => .array .int
  | 13 => .int
  | 14 => .array .int
  | 15 => .array .int
  | 16 => .array .int
  | 17 => .int
  | 18 => .array .long
  | 19 => .array .long
  | 20 => .array .long
  | 21 => .long
  | 22 => .array .int
  | 23 => .array .int
  | 24 => .int
  | 25 => .array .int
  | 26 => .array .int
  | 27 => .int
  | 28 => .long
  | 29 => .long
  | 30 => .boolean
  | 31 => .array .int
  | 32 => .int
  | 33 => .array .long
  | _ => .array .int
theorem nm11 : ∀ a, a < 35 → ∀ b, b < 35 → a ≠ b → (T11 a).2.1 ≠ (T11 b).2.1 := by decide +kernel
theorem ty11_ok : ∀ k, k < 35 → parseFieldDescriptor (T11 k).2.2.1 = some (ty11 k) := by decide +kernel
theorem in11 : ∀ w ∈ u_ws R11 T11 35, w ∈ lw_g := by decide +kernel
abbrev classes : List vw_C := [(R0, T0, 6), (R1, T1, 15), (R2, T2, 4), (R3, T3, 2), (R4, T4, 2), (R5, T5, 2), (R6, T6, 2), (R7, T7, 3), (R8, T8, 2), (R9, T9, 2), (R10, T10, 16), (R11, T11, 35)]
/-- kinds of fields: 0 int, 1 long, 2 boolean, 3 a reference -/
def FTL : List (List Nat) := [[0, 0, 0, 3, 3, 3], [0, 0, 3, 3, 3, 3, 3, 3, 3, 3, 3, 3, 3, 3, 1], [0, 3, 3, 3], [3, 3], [0, 3], [3, 3], [3, 3], [0, 3, 0], [1, 3], [1, 1], [3, 3, 2, 3, 3, 3, 3, 2, 3, 2, 3, 3, 3, 3, 3, 3], [3, 3, 2, 3, 2, 3, 0, 0, 3, 0, 3, 3, 3, 0, 3, 3, 3, 0, 3, 3, 3, 1, 3, 3, 0, 3, 3, 0, 1, 1, 2, 3, 0, 3, 3]]
/-- the cells in the order in which the constructors make them: kind (0 int, 1 long, 2 boolean array; 3 + class), size -/
def LAYL : List (Nat × Nat) := [(13, 16), (3, 6), (0, 5), (0, 75), (1, 45), (3, 6), (0, 5), (0, 75), (1, 45), (0, 5), (0, 5), (4, 15), (0, 5), (1, 90), (1, 6), (0, 15), (0, 5), (0, 5), (2, 5), (1, 5), (0, 5), (6, 2), (1, 30), (1, 64), (4, 15), (0, 5), (1, 90), (1, 6), (0, 15), (0, 5), (0, 5), (2, 5), (1, 5), (0, 5), (6, 2), (1, 30), (1, 64), (5, 4), (0, 5), (0, 75), (8, 2), (0, 5), (12, 2), (11, 2), (1, 15), (10, 3), (0, 120), (7, 2), (0, 200), (9, 2), (0, 4), (1, 80), (14, 35), (1, 128), (1, 128), (0, 83), (0, 120), (0, 120), (1, 90), (1, 6), (0, 5), (0, 5), (0, 5), (0, 5), (1, 25), (1, 5), (1, 5), (0, 75), (0, 75), (0, 5), (0, 5), (0, 320), (1, 80), (0, 4)]
/-- the references that the constructors lay, the last first: object, field, cell -/
def RFL : List (Nat × Nat × Nat) := [(52, 34, 73), (52, 33, 72), (52, 31, 71), (52, 26, 70), (52, 25, 69), (52, 23, 68), (52, 22, 67), (52, 20, 66), (52, 19, 65), (52, 18, 64), (52, 16, 63), (52, 15, 62), (52, 14, 61), (52, 12, 60), (52, 11, 59), (52, 10, 58), (52, 8, 57), (52, 5, 56), (52, 3, 55), (52, 1, 54), (52, 0, 53), (0, 15, 49), (49, 1, 51), (49, 0, 50), (0, 14, 47), (47, 1, 48), (0, 13, 45), (45, 1, 46), (0, 12, 43), (43, 1, 44), (0, 11, 42), (0, 10, 40), (40, 1, 1), (40, 0, 41), (0, 8, 37), (37, 1, 1), (37, 3, 39), (37, 2, 38), (0, 6, 24), (24, 4, 9), (24, 3, 1), (24, 13, 34), (34, 1, 36), (34, 0, 35), (24, 12, 33), (24, 11, 32), (24, 10, 31), (24, 9, 30), (24, 8, 29), (24, 7, 28), (24, 6, 27), (24, 5, 26), (24, 2, 25), (0, 5, 11), (11, 4, 2), (11, 3, 1), (11, 13, 21), (21, 1, 23), (21, 0, 22), (11, 12, 20), (11, 11, 19), (11, 10, 18), (11, 9, 17), (11, 8, 16), (11, 7, 15), (11, 6, 14), (11, 5, 13), (11, 2, 12), (0, 4, 10), (0, 3, 9), (0, 1, 5), (5, 5, 8), (5, 4, 7), (5, 3, 6), (0, 0, 1), (1, 5, 4), (1, 4, 3), (1, 3, 2)]
abbrev MRec : Type := MethodName × ByteArray × Nat × Option FieldType
def MTL : List MRec := [
  (⟨"ClearingWaves", "<init>", "()V"⟩, prog_1_method_1_code, 1, none),
  (⟨"ClearingWaves$Book", "<init>", "()V"⟩, prog_2_method_1_code, 1, none),
  (⟨"ClearingWaves$Book", "begin", "(I)V"⟩, prog_2_method_2_code, 3, none),
  (⟨"ClearingWaves$Clearing", "<init>", "(LClearingWaves$Book;[I)V"⟩, prog_3_method_1_code, 3, none),
  (⟨"ClearingWaves$Equations", "<init>", "()V"⟩, prog_5_method_1_code, 1, none),
  (⟨"ClearingWaves$Clearing", "begin", "()V"⟩, prog_3_method_3_code, 4, none),
  (⟨"ClearingWaves$Book", "dueIn", "(II)I"⟩, prog_2_method_11_code, 5, (some .int)),
  (⟨"ClearingWaves$Book", "amount", "(III)I"⟩, prog_2_method_9_code, 4, (some .int)),
  (⟨"ClearingWaves$Clearing", "spread", "()V"⟩, prog_3_method_4_code, 6, none),
  (⟨"ClearingWaves$Coins", "<init>", "(LClearingWaves$Book;)V"⟩, prog_4_method_1_code, 2, none),
  (⟨"ClearingWaves$Rings", "<init>", "(LClearingWaves$Book;)V"⟩, prog_8_method_1_code, 2, none),
  (⟨"ClearingWaves$Worth", "<init>", "()V"⟩, prog_12_method_1_code, 1, none),
  (⟨"ClearingWaves$Told", "<init>", "()V"⟩, prog_11_method_1_code, 1, none),
  (⟨"ClearingWaves$Tape", "<init>", "()V"⟩, prog_10_method_1_code, 1, none),
  (⟨"ClearingWaves$Paper", "<init>", "()V"⟩, prog_6_method_1_code, 1, none),
  (⟨"ClearingWaves$Rows", "<init>", "()V"⟩, prog_9_method_1_code, 1, none),
  (⟨"ClearingWaves", "houses", "(I)I"⟩, prog_1_method_2_code, 2, (some .int)),
  (⟨"ClearingWaves", "noteChange", "()V"⟩, prog_1_method_56_code, 1, none),
  (⟨"ClearingWaves", "cash", "(II)I"⟩, prog_1_method_3_code, 4, (some .int)),
  (⟨"ClearingWaves$Book", "hasHouse", "(I)Z"⟩, prog_2_method_4_code, 2, (some .boolean)),
  (⟨"ClearingWaves", "owe", "(IIII)I"⟩, prog_1_method_4_code, 6, (some .int)),
  (⟨"ClearingWaves$Book", "hasDebt", "(III)Z"⟩, prog_2_method_7_code, 4, (some .boolean)),
  (⟨"ClearingWaves$Book", "hasPart", "(II)Z"⟩, prog_2_method_6_code, 3, (some .boolean)),
  (⟨"ClearingWaves$Book", "hasClass", "(I)Z"⟩, prog_2_method_5_code, 2, (some .boolean)),
  (⟨"ClearingWaves$Book", "put", "(IIII)V"⟩, prog_2_method_10_code, 5, none),
  (⟨"ClearingWaves", "owed", "(III)I"⟩, prog_1_method_5_code, 4, (some .int)),
  (⟨"ClearingWaves", "costs", "(II)I"⟩, prog_1_method_6_code, 3, (some .int)),
  (⟨"ClearingWaves", "cede", "(IIIII)I"⟩, prog_1_method_7_code, 8, (some .int)),
  (⟨"ClearingWaves", "settle", "(IIII)I"⟩, prog_1_method_8_code, 6, (some .int)),
  (⟨"ClearingWaves", "feed", "(I)I"⟩, prog_1_method_9_code, 2, (some .int)),
  (⟨"ClearingWaves$Tape", "add", "(I)Z"⟩, prog_10_method_2_code, 2, (some .boolean)),
  (⟨"ClearingWaves", "clear", "()I"⟩, prog_1_method_10_code, 1, (some .int)),
  (⟨"ClearingWaves$Tape", "empty", "()I"⟩, prog_10_method_3_code, 2, (some .int)),
  (⟨"ClearingWaves", "read", "()I"⟩, prog_1_method_11_code, 2, (some .int)),
  (⟨"ClearingWaves$Tape", "scan", "(LClearingWaves$Book;Z)I"⟩, prog_10_method_4_code, 5, (some .int)),
  (⟨"ClearingWaves$Tape", "scanPart", "(LClearingWaves$Book;Z)I"⟩, prog_10_method_5_code, 8, (some .int)),
  (⟨"ClearingWaves$Tape", "house", "(LClearingWaves$Book;)I"⟩, prog_10_method_7_code, 3, (some .int)),
  (⟨"ClearingWaves$Tape", "isNext", "(C)Z"⟩, prog_10_method_6_code, 2, (some .boolean)),
  (⟨"ClearingWaves$Tape", "number", "(I)I"⟩, prog_10_method_8_code, 5, (some .int)),
  (⟨"ClearingWaves", "waves", "()I"⟩, prog_1_method_12_code, 1, (some .int)),
  (⟨"ClearingWaves", "cleared", "()LClearingWaves$Clearing;"⟩, prog_1_method_57_code, 1, (some (.object "ClearingWaves$Clearing"))),
  (⟨"ClearingWaves$Clearing", "run", "()V"⟩, prog_3_method_2_code, 3, none),
  (⟨"ClearingWaves$Clearing", "sinking", "()I"⟩, prog_3_method_8_code, 3, (some .int)),
  (⟨"ClearingWaves$Clearing", "fell", "(I)Z"⟩, prog_3_method_5_code, 2, (some .boolean)),
  (⟨"ClearingWaves$Clearing", "restTenths", "(I)J"⟩, prog_3_method_6_code, 2, (some .long)),
  (⟨"ClearingWaves$Clearing", "income", "(II)J"⟩, prog_3_method_21_code, 9, (some .long)),
  (⟨"ClearingWaves$Clearing", "heldTenths", "(I)J"⟩, prog_3_method_7_code, 4, (some .long)),
  (⟨"ClearingWaves$Clearing", "reached", "(I)I"⟩, prog_3_method_12_code, 6, (some .int)),
  (⟨"ClearingWaves$Clearing", "feels", "(II)Z"⟩, prog_3_method_11_code, 4, (some .boolean)),
  (⟨"ClearingWaves$Clearing", "margin", "(I)I"⟩, prog_3_method_10_code, 3, (some .int)),
  (⟨"ClearingWaves$Clearing", "lower", "(I)V"⟩, prog_3_method_13_code, 5, none),
  (⟨"java/lang/Math", "max", "(II)I"⟩, prog_16_method_65_code, 2, (some .int)),
  (⟨"ClearingWaves$Clearing", "balance", "()V"⟩, prog_3_method_14_code, 5, none),
  (⟨"ClearingWaves$Clearing", "factor", "(II)J"⟩, prog_3_method_15_code, 4, (some .long)),
  (⟨"ClearingWaves$Equations", "put", "(IIJ)V"⟩, prog_5_method_2_code, 5, none),
  (⟨"ClearingWaves$Equations", "solve", "(I)V"⟩, prog_5_method_3_code, 4, none),
  (⟨"java/lang/Integer", "bitCount", "(I)I"⟩, prog_15_method_49_code, 1, (some .int)),
  (⟨"ClearingWaves$Equations", "expand", "(II)J"⟩, prog_5_method_4_code, 9, (some .long)),
  (⟨"ClearingWaves$Equations", "bottom", "(I)J"⟩, prog_5_method_5_code, 2, (some .long)),
  (⟨"ClearingWaves$Equations", "top", "(II)J"⟩, prog_5_method_6_code, 5, (some .long)),
  (⟨"ClearingWaves$Clearing", "rising", "(I)I"⟩, prog_3_method_9_code, 5, (some .int)),
  (⟨"ClearingWaves$Clearing", "keepRound", "()V"⟩, prog_3_method_16_code, 4, none),
  (⟨"ClearingWaves$Ratio", "divisor", "(JJ)J"⟩, prog_7_method_2_code, 11, (some .long)),
  (⟨"java/lang/Math", "max", "(JJ)J"⟩, prog_16_method_66_code, 4, (some .long)),
  (⟨"ClearingWaves$Clearing", "nextWave", "()Z"⟩, prog_3_method_17_code, 3, (some .boolean)),
  (⟨"ClearingWaves$Clearing", "wealth", "(II)J"⟩, prog_3_method_22_code, 3, (some .long)),
  (⟨"ClearingWaves", "wave", "(I)I"⟩, prog_1_method_13_code, 2, (some .int)),
  (⟨"ClearingWaves", "fails", "()I"⟩, prog_1_method_14_code, 1, (some .int)),
  (⟨"ClearingWaves", "part", "(III)J"⟩, prog_1_method_15_code, 4, (some .long)),
  (⟨"ClearingWaves", "partIn", "(IIII)J"⟩, prog_1_method_16_code, 6, (some .long)),
  (⟨"ClearingWaves$Clearing", "hasRound", "(I)Z"⟩, prog_3_method_18_code, 2, (some .boolean)),
  (⟨"ClearingWaves$Clearing", "top", "(III)J"⟩, prog_3_method_20_code, 4, (some .long)),
  (⟨"ClearingWaves$Clearing", "bottom", "(I)J"⟩, prog_3_method_19_code, 2, (some .long)),
  (⟨"ClearingWaves$Ratio", "tell", "(JJI)J"⟩, prog_7_method_3_code, 7, (some .long)),
  (⟨"ClearingWaves", "paid", "(IIII)J"⟩, prog_1_method_17_code, 8, (some .long)),
  (⟨"ClearingWaves", "gets", "(II)J"⟩, prog_1_method_18_code, 4, (some .long)),
  (⟨"ClearingWaves", "worthIn", "(III)J"⟩, prog_1_method_19_code, 5, (some .long)),
  (⟨"ClearingWaves", "left", "(II)J"⟩, prog_1_method_20_code, 4, (some .long)),
  (⟨"ClearingWaves$Clearing", "remains", "(I)J"⟩, prog_3_method_26_code, 2, (some .long)),
  (⟨"ClearingWaves", "lost", "(II)J"⟩, prog_1_method_21_code, 4, (some .long)),
  (⟨"ClearingWaves$Clearing", "wasteTenths", "(I)J"⟩, prog_3_method_27_code, 4, (some .long)),
  (⟨"ClearingWaves", "lacks", "(III)J"⟩, prog_1_method_22_code, 5, (some .long)),
  (⟨"ClearingWaves$Clearing", "missing", "(III)J"⟩, prog_3_method_23_code, 7, (some .long)),
  (⟨"ClearingWaves", "all", "(II)J"⟩, prog_1_method_23_code, 9, (some .long)),
  (⟨"ClearingWaves$Clearing", "allPaid", "()J"⟩, prog_3_method_25_code, 4, (some .long)),
  (⟨"ClearingWaves$Clearing", "pays", "(I)J"⟩, prog_3_method_24_code, 5, (some .long)),
  (⟨"ClearingWaves", "cause", "(I)I"⟩, prog_1_method_24_code, 2, (some .int)),
  (⟨"ClearingWaves", "chain", "(II)I"⟩, prog_1_method_25_code, 6, (some .int)),
  (⟨"ClearingWaves$Clearing", "causeOf", "(I)I"⟩, prog_3_method_28_code, 9, (some .int)),
  (⟨"ClearingWaves", "root", "(I)I"⟩, prog_1_method_26_code, 6, (some .int)),
  (⟨"ClearingWaves", "pulls", "(I)I"⟩, prog_1_method_27_code, 7, (some .int)),
  (⟨"ClearingWaves", "coin", "(III)I"⟩, prog_1_method_28_code, 4, (some .int)),
  (⟨"ClearingWaves", "coined", "()LClearingWaves$Coins;"⟩, prog_1_method_58_code, 1, (some (.object "ClearingWaves$Coins"))),
  (⟨"ClearingWaves$Coins", "walk", "()V"⟩, prog_4_method_2_code, 4, none),
  (⟨"ClearingWaves$Coins", "takeIn", "()V"⟩, prog_4_method_5_code, 4, none),
  (⟨"ClearingWaves$Coins", "paidCoins", "(III)I"⟩, prog_4_method_4_code, 4, (some .int)),
  (⟨"ClearingWaves$Coins", "place", "(III)I"⟩, prog_4_method_3_code, 3, (some .int)),
  (⟨"ClearingWaves$Coins", "payOut", "(I)Z"⟩, prog_4_method_8_code, 11, (some .boolean)),
  (⟨"ClearingWaves$Coins", "isShort", "(I)Z"⟩, prog_4_method_6_code, 2, (some .boolean)),
  (⟨"ClearingWaves$Book", "dueOf", "(I)I"⟩, prog_2_method_12_code, 2, (some .int)),
  (⟨"ClearingWaves$Coins", "rest", "(I)I"⟩, prog_4_method_7_code, 3, (some .int)),
  (⟨"java/lang/Math", "min", "(II)I"⟩, prog_16_method_69_code, 2, (some .int)),
  (⟨"ClearingWaves", "steps", "()I"⟩, prog_1_method_29_code, 1, (some .int)),
  (⟨"ClearingWaves", "coinFails", "()I"⟩, prog_1_method_30_code, 1, (some .int)),
  (⟨"ClearingWaves$Coins", "shortBits", "()I"⟩, prog_4_method_9_code, 3, (some .int)),
  (⟨"ClearingWaves", "gone", "()I"⟩, prog_1_method_31_code, 1, (some .int)),
  (⟨"ClearingWaves$Coins", "waste", "()I"⟩, prog_4_method_10_code, 3, (some .int)),
  (⟨"ClearingWaves", "saved", "(II)I"⟩, prog_1_method_32_code, 3, (some .int)),
  (⟨"ClearingWaves", "isCoins", "(I)Z"⟩, prog_1_method_59_code, 1, (some .boolean)),
  (⟨"ClearingWaves", "failsWith", "(II)I"⟩, prog_1_method_61_code, 3, (some .int)),
  (⟨"ClearingWaves", "loadPurse", "()V"⟩, prog_1_method_60_code, 1, none),
  (⟨"ClearingWaves", "struck", "(II)I"⟩, prog_1_method_33_code, 3, (some .int)),
  (⟨"ClearingWaves", "saves", "(II)I"⟩, prog_1_method_34_code, 3, (some .int)),
  (⟨"ClearingWaves", "mostSaved", "(II)I"⟩, prog_1_method_63_code, 19, (some .int)),
  (⟨"java/lang/Integer", "compare", "(II)I"⟩, prog_15_method_40_code, 2, (some .int)),
  (⟨"ClearingWaves$Ratio", "order", "(JJJJ)I"⟩, prog_7_method_4_code, 26, (some .int)),
  (⟨"ClearingWaves", "needs", "(II)I"⟩, prog_1_method_35_code, 3, (some .int)),
  (⟨"ClearingWaves", "leastThatSaves", "(II)I"⟩, prog_1_method_62_code, 7, (some .int)),
  (⟨"ClearingWaves", "calms", "(I)I"⟩, prog_1_method_36_code, 2, (some .int)),
  (⟨"ClearingWaves", "danger", "()I"⟩, prog_1_method_37_code, 5, (some .int)),
  (⟨"ClearingWaves", "rescue", "(IIIII)I"⟩, prog_1_method_38_code, 8, (some .int)),
  (⟨"ClearingWaves$Rows", "has", "(I)Z"⟩, prog_9_method_2_code, 2, (some .boolean)),
  (⟨"ClearingWaves$Rows", "holds", "(I)Z"⟩, prog_9_method_3_code, 2, (some .boolean)),
  (⟨"ClearingWaves$Rows", "layAt", "(IIIJ)Z"⟩, prog_9_method_8_code, 6, (some .boolean)),
  (⟨"ClearingWaves$Rows", "hasPlace", "(II)Z"⟩, prog_9_method_6_code, 3, (some .boolean)),
  (⟨"ClearingWaves", "ring", "(II)I"⟩, prog_1_method_39_code, 3, (some .int)),
  (⟨"ClearingWaves$Rings", "find", "(I)I"⟩, prog_8_method_2_code, 4, (some .int)),
  (⟨"ClearingWaves$Rings", "closed", "(LClearingWaves$Book;I[II)I"⟩, prog_8_method_3_code, 7, (some .int)),
  (⟨"ClearingWaves$Rings", "isOn", "([III)Z"⟩, prog_8_method_4_code, 4, (some .boolean)),
  (⟨"ClearingWaves", "net", "(I)I"⟩, prog_1_method_40_code, 5, (some .int)),
  (⟨"ClearingWaves$Rings", "takeOff", "(I)I"⟩, prog_8_method_5_code, 6, (some .int)),
  (⟨"ClearingWaves$Rings", "after", "(II)I"⟩, prog_8_method_6_code, 3, (some .int)),
  (⟨"ClearingWaves", "units", "(IIIJ)J"⟩, prog_1_method_41_code, 9, (some .long)),
  (⟨"ClearingWaves$Book", "unitPlace", "(III)I"⟩, prog_2_method_8_code, 3, (some .int)),
  (⟨"ClearingWaves", "unitsOf", "(III)J"⟩, prog_1_method_42_code, 4, (some .long)),
  (⟨"ClearingWaves", "fund", "(II)J"⟩, prog_1_method_43_code, 3, (some .long)),
  (⟨"ClearingWaves$Worth", "reckon", "(LClearingWaves$Book;LClearingWaves$Clearing;I)Z"⟩, prog_12_method_2_code, 9, (some .boolean)),
  (⟨"ClearingWaves$Worth", "addUnits", "(JJJ)Z"⟩, prog_12_method_3_code, 15, (some .boolean)),
  (⟨"ClearingWaves$Worth", "product", "(JJ)J"⟩, prog_12_method_4_code, 4, (some .long)),
  (⟨"ClearingWaves$Worth", "sum", "(JJ)J"⟩, prog_12_method_5_code, 4, (some .long)),
  (⟨"ClearingWaves", "told", "(I)I"⟩, prog_1_method_44_code, 2, (some .int)),
  (⟨"ClearingWaves$Book", "hasUnits", "(I)Z"⟩, prog_2_method_16_code, 4, (some .boolean)),
  (⟨"ClearingWaves", "best", "()I"⟩, prog_1_method_45_code, 7, (some .int)),
  (⟨"ClearingWaves", "spell", "()I"⟩, prog_1_method_46_code, 4, (some .int)),
  (⟨"ClearingWaves", "spellHouse", "(II)V"⟩, prog_1_method_64_code, 9, none),
  (⟨"ClearingWaves$Paper", "add", "(I)V"⟩, prog_6_method_2_code, 2, none),
  (⟨"ClearingWaves$Paper", "addNumber", "(J)V"⟩, prog_6_method_3_code, 6, none),
  (⟨"ClearingWaves", "paper", "(I)I"⟩, prog_1_method_47_code, 2, (some .int)),
  (⟨"ClearingWaves", "count", "(I)I"⟩, prog_1_method_48_code, 2, (some .int)),
  (⟨"ClearingWaves$Book", "cashOfAll", "()I"⟩, prog_2_method_13_code, 3, (some .int)),
  (⟨"ClearingWaves$Book", "dueOfAll", "()I"⟩, prog_2_method_14_code, 3, (some .int)),
  (⟨"ClearingWaves$Book", "openDebts", "()I"⟩, prog_2_method_15_code, 3, (some .int)),
  (⟨"ClearingWaves", "countOfHouse", "(I)I"⟩, prog_1_method_65_code, 2, (some .int)),
  (⟨"ClearingWaves", "row", "(II)I"⟩, prog_1_method_49_code, 3, (some .int)),
  (⟨"ClearingWaves$Rows", "begin", "(II)V"⟩, prog_9_method_5_code, 4, none),
  (⟨"ClearingWaves", "set", "(IIJ)I"⟩, prog_1_method_50_code, 5, (some .int)),
  (⟨"ClearingWaves", "get", "(II)J"⟩, prog_1_method_51_code, 3, (some .long)),
  (⟨"ClearingWaves$Rows", "at", "(II)J"⟩, prog_9_method_7_code, 3, (some .long)),
  (⟨"ClearingWaves", "lay", "(II)I"⟩, prog_1_method_52_code, 9, (some .int)),
  (⟨"ClearingWaves", "judge", "(II)I"⟩, prog_1_method_53_code, 5, (some .int)),
  (⟨"ClearingWaves$Rows", "size", "(I)I"⟩, prog_9_method_4_code, 2, (some .int)),
  (⟨"ClearingWaves$Told", "areFractions", "(I)Z"⟩, prog_11_method_2_code, 3, (some .boolean)),
  (⟨"ClearingWaves$Told", "areThose", "(LClearingWaves$Clearing;I)Z"⟩, prog_11_method_3_code, 8, (some .boolean)),
  (⟨"ClearingWaves$Told", "agree", "(LClearingWaves$Book;)Z"⟩, prog_11_method_4_code, 3, (some .boolean)),
  (⟨"ClearingWaves$Told", "agrees", "(LClearingWaves$Book;I)Z"⟩, prog_11_method_5_code, 15, (some .boolean)),
  (⟨"ClearingWaves$Told", "incomeByTold", "(LClearingWaves$Book;I)J"⟩, prog_11_method_6_code, 7, (some .long)),
  (⟨"java/lang/Math", "min", "(JJ)J"⟩, prog_16_method_70_code, 4, (some .long)),
  (⟨"ClearingWaves", "image", "()I"⟩, prog_1_method_54_code, 1, (some .int)),
  (⟨"ClearingWaves$Book", "copy", "(LClearingWaves$Book;)V"⟩, prog_2_method_3_code, 2, none),
  (⟨"ClearingWaves", "undo", "()I"⟩, prog_1_method_55_code, 1, (some .int)),
  (⟨"ClearingWavesModel", "<init>", "()V"⟩, prog_14_method_6_code, 1, none),
  (⟨"ClearingWavesModel", "asAtFirst", "(I)V"⟩, prog_14_method_7_code, 3, none),
  (⟨"ClearingWavesModel", "reads", "()V"⟩, prog_14_method_8_code, 2, none),
  (⟨"ClearingWavesModel", "houses", "(I)I"⟩, prog_14_method_14_code, 2, (some .int)),
  (⟨"ClearingWavesModel", "within", "(JJJ)Z"⟩, prog_14_method_1_code, 6, (some .boolean)),
  (⟨"ClearingWavesModel", "cash", "(II)I"⟩, prog_14_method_15_code, 3, (some .int)),
  (⟨"ClearingWavesModel", "isHouse", "(I)Z"⟩, prog_14_method_2_code, 2, (some .boolean)),
  (⟨"ClearingWavesModel", "tells", "(II)I"⟩, prog_14_method_9_code, 4, (some .int)),
  (⟨"ClearingWavesModel", "owe", "(IIII)I"⟩, prog_14_method_16_code, 5, (some .int)),
  (⟨"ClearingWavesModel", "arePair", "(II)Z"⟩, prog_14_method_3_code, 3, (some .boolean)),
  (⟨"ClearingWavesModel", "isClass", "(I)Z"⟩, prog_14_method_4_code, 1, (some .boolean)),
  (⟨"ClearingWavesModel", "owedAt", "(III)I"⟩, prog_14_method_10_code, 3, (some .int)),
  (⟨"ClearingWavesModel", "owed", "(III)I"⟩, prog_14_method_17_code, 4, (some .int)),
  (⟨"ClearingWavesModel", "owes", "(III)I"⟩, prog_14_method_11_code, 4, (some .int)),
  (⟨"ClearingWavesModel", "costs", "(II)I"⟩, prog_14_method_18_code, 3, (some .int)),
  (⟨"ClearingWavesModel", "cede", "(IIIII)I"⟩, prog_14_method_19_code, 7, (some .int)),
  (⟨"ClearingWavesModel", "settle", "(IIII)I"⟩, prog_14_method_20_code, 5, (some .int)),
  (⟨"ClearingWavesModel", "feed", "(I)I"⟩, prog_14_method_21_code, 2, (some .int)),
  (⟨"ClearingWavesModel", "clear", "()I"⟩, prog_14_method_22_code, 2, (some .int)),
  (⟨"ClearingWavesModel", "read", "()I"⟩, prog_14_method_27_code, 3, (some .int)),
  (⟨"ClearingWavesModel", "readsAll", "()I"⟩, prog_14_method_26_code, 3, (some .int)),
  (⟨"ClearingWavesModel", "readsPart", "(I)I"⟩, prog_14_method_25_code, 6, (some .int)),
  (⟨"ClearingWavesModel", "peek", "()I"⟩, prog_14_method_23_code, 1, (some .int)),
  (⟨"ClearingWavesModel", "readsNumber", "(II)I"⟩, prog_14_method_24_code, 5, (some .int)),
  (⟨"ClearingWavesModel", "waves", "()I"⟩, prog_14_method_49_code, 1, (some .int)),
  (⟨"ClearingWavesModel", "clears", "()V"⟩, prog_14_method_43_code, 1, none),
  (⟨"ClearingWavesModel", "supposesCash", "()V"⟩, prog_14_method_44_code, 2, none),
  (⟨"ClearingWavesModel", "goesRound", "()V"⟩, prog_14_method_41_code, 2, none),
  (⟨"ClearingWavesModel", "agrees", "(I)V"⟩, prog_14_method_37_code, 8, none),
  (⟨"ClearingWavesModel", "opens", "()V"⟩, prog_14_method_34_code, 4, none),
  (⟨"ClearingWavesModel", "isIn", "(II)Z"⟩, prog_14_method_28_code, 2, (some .boolean)),
  (⟨"ClearingWavesModel", "isOpen", "(I)Z"⟩, prog_14_method_32_code, 3, (some .boolean)),
  (⟨"ClearingWavesModel", "beyondAll", "(I)J"⟩, prog_14_method_31_code, 5, (some .long)),
  (⟨"ClearingWavesModel", "beyond", "(I)J"⟩, prog_14_method_30_code, 6, (some .long)),
  (⟨"ClearingWavesModel", "due", "(II)I"⟩, prog_14_method_12_code, 5, (some .int)),
  (⟨"ClearingWavesModel", "solves", "()V"⟩, prog_14_method_33_code, 5, none),
  (⟨"ClearingWavesModel", "determinant", "(III)J"⟩, prog_14_method_29_code, 11, (some .long)),
  (⟨"ClearingWavesModel", "endsEarlier", "()Z"⟩, prog_14_method_35_code, 3, (some .boolean)),
  (⟨"ClearingWavesModel", "divisor", "(JJ)J"⟩, prog_14_method_36_code, 10, (some .long)),
  (⟨"ClearingWavesModel", "failsMore", "()I"⟩, prog_14_method_42_code, 3, (some .int)),
  (⟨"ClearingWavesModel", "worth", "(II)J"⟩, prog_14_method_40_code, 3, (some .long)),
  (⟨"ClearingWavesModel", "getsIn", "(II)J"⟩, prog_14_method_39_code, 7, (some .long)),
  (⟨"ClearingWavesModel", "partAt", "(III)J"⟩, prog_14_method_38_code, 4, (some .long)),
  (⟨"ClearingWavesModel", "dueInAll", "(I)I"⟩, prog_14_method_13_code, 2, (some .int)),
  (⟨"ClearingWavesModel", "wave", "(I)I"⟩, prog_14_method_50_code, 2, (some .int)),
  (⟨"ClearingWavesModel", "fails", "()I"⟩, prog_14_method_51_code, 1, (some .int)),
  (⟨"ClearingWavesModel", "part", "(III)J"⟩, prog_14_method_52_code, 4, (some .long)),
  (⟨"ClearingWavesModel", "partIn", "(IIII)J"⟩, prog_14_method_53_code, 5, (some .long)),
  (⟨"ClearingWavesModel", "isSide", "(I)Z"⟩, prog_14_method_5_code, 1, (some .boolean)),
  (⟨"ClearingWavesModel", "lowest", "(JJI)J"⟩, prog_14_method_46_code, 7, (some .long)),
  (⟨"ClearingWavesModel", "paid", "(IIII)J"⟩, prog_14_method_54_code, 5, (some .long)),
  (⟨"ClearingWavesModel", "gets", "(II)J"⟩, prog_14_method_55_code, 3, (some .long)),
  (⟨"ClearingWavesModel", "worthIn", "(III)J"⟩, prog_14_method_56_code, 4, (some .long)),
  (⟨"ClearingWavesModel", "left", "(II)J"⟩, prog_14_method_59_code, 3, (some .long)),
  (⟨"ClearingWavesModel", "leftOf", "(I)J"⟩, prog_14_method_57_code, 2, (some .long)),
  (⟨"ClearingWavesModel", "lost", "(II)J"⟩, prog_14_method_60_code, 3, (some .long)),
  (⟨"ClearingWavesModel", "lostOf", "(I)J"⟩, prog_14_method_58_code, 2, (some .long)),
  (⟨"ClearingWavesModel", "lacks", "(III)J"⟩, prog_14_method_62_code, 4, (some .long)),
  (⟨"ClearingWavesModel", "lacksIn", "(III)J"⟩, prog_14_method_61_code, 7, (some .long)),
  (⟨"ClearingWavesModel", "all", "(II)J"⟩, prog_14_method_64_code, 6, (some .long)),
  (⟨"ClearingWavesModel", "allPaid", "()J"⟩, prog_14_method_63_code, 4, (some .long)),
  (⟨"ClearingWavesModel", "cause", "(I)I"⟩, prog_14_method_67_code, 3, (some .int)),
  (⟨"ClearingWavesModel", "refusal", "(I)I"⟩, prog_14_method_66_code, 2, (some .int)),
  (⟨"ClearingWavesModel", "causeOf", "(I)I"⟩, prog_14_method_65_code, 4, (some .int)),
  (⟨"ClearingWavesModel", "chain", "(II)I"⟩, prog_14_method_68_code, 6, (some .int)),
  (⟨"ClearingWavesModel", "root", "(I)I"⟩, prog_14_method_70_code, 3, (some .int)),
  (⟨"ClearingWavesModel", "rootOf", "(I)I"⟩, prog_14_method_69_code, 3, (some .int)),
  (⟨"ClearingWavesModel", "pulls", "(I)I"⟩, prog_14_method_71_code, 5, (some .int)),
  (⟨"ClearingWavesModel", "coin", "(III)I"⟩, prog_14_method_77_code, 4, (some .int)),
  (⟨"ClearingWavesModel", "stepsOn", "()I"⟩, prog_14_method_76_code, 3, (some .int)),
  (⟨"ClearingWavesModel", "paysCoins", "(I)V"⟩, prog_14_method_75_code, 8, none),
  (⟨"ClearingWavesModel", "coinsFor", "(I[I)I"⟩, prog_14_method_73_code, 6, (some .int)),
  (⟨"ClearingWavesModel", "coinAt", "(III)I"⟩, prog_14_method_72_code, 3, (some .int)),
  (⟨"ClearingWavesModel", "restOf", "(II)I"⟩, prog_14_method_74_code, 3, (some .int)),
  (⟨"ClearingWavesModel", "steps", "()I"⟩, prog_14_method_78_code, 1, (some .int)),
  (⟨"ClearingWavesModel", "coinFails", "()I"⟩, prog_14_method_79_code, 3, (some .int)),
  (⟨"ClearingWavesModel", "gone", "()I"⟩, prog_14_method_80_code, 7, (some .int)),
  (⟨"ClearingWavesModel", "saved", "(II)I"⟩, prog_14_method_82_code, 3, (some .int)),
  (⟨"ClearingWavesModel", "isGift", "(I)Z"⟩, prog_14_method_81_code, 1, (some .boolean)),
  (⟨"ClearingWavesModel", "failsIf", "(II)I"⟩, prog_14_method_45_code, 3, (some .int)),
  (⟨"ClearingWavesModel", "struck", "(II)I"⟩, prog_14_method_83_code, 3, (some .int)),
  (⟨"ClearingWavesModel", "saves", "(II)I"⟩, prog_14_method_87_code, 3, (some .int)),
  (⟨"ClearingWavesModel", "givesNothing", "()V"⟩, prog_14_method_84_code, 2, none),
  (⟨"ClearingWavesModel", "savesMost", "(II)I"⟩, prog_14_method_86_code, 14, (some .int)),
  (⟨"ClearingWavesModel", "supposesGiven", "(II)V"⟩, prog_14_method_85_code, 4, none),
  (⟨"ClearingWavesModel", "sizeOf", "(I)I"⟩, prog_14_method_47_code, 3, (some .int)),
  (⟨"ClearingWavesModel", "compared", "(JJJJ)I"⟩, prog_14_method_48_code, 21, (some .int)),
  (⟨"ClearingWavesModel", "needs", "(II)I"⟩, prog_14_method_88_code, 4, (some .int)),
  (⟨"ClearingWavesModel", "calms", "(I)I"⟩, prog_14_method_89_code, 3, (some .int)),
  (⟨"ClearingWavesModel", "danger", "()I"⟩, prog_14_method_90_code, 5, (some .int)),
  (⟨"ClearingWavesModel", "rescue", "(IIIII)I"⟩, prog_14_method_91_code, 8, (some .int)),
  (⟨"ClearingWavesModel", "isRow", "(I)Z"⟩, prog_14_method_117_code, 1, (some .boolean)),
  (⟨"ClearingWavesModel", "hasPlace", "(III)Z"⟩, prog_14_method_118_code, 4, (some .boolean)),
  (⟨"ClearingWavesModel", "ring", "(II)I"⟩, prog_14_method_95_code, 3, (some .int)),
  (⟨"ClearingWavesModel", "findsRing", "(I)Z"⟩, prog_14_method_94_code, 3, (some .boolean)),
  (⟨"ClearingWavesModel", "rings", "(I)Z"⟩, prog_14_method_93_code, 4, (some .boolean)),
  (⟨"ClearingWavesModel", "isOnWay", "(I)Z"⟩, prog_14_method_92_code, 3, (some .boolean)),
  (⟨"ClearingWavesModel", "net", "(I)I"⟩, prog_14_method_96_code, 6, (some .int)),
  (⟨"ClearingWavesModel", "units", "(IIIJ)J"⟩, prog_14_method_99_code, 8, (some .long)),
  (⟨"ClearingWavesModel", "isFund", "(I)Z"⟩, prog_14_method_97_code, 1, (some .boolean)),
  (⟨"ClearingWavesModel", "unitsAt", "(III)I"⟩, prog_14_method_98_code, 3, (some .int)),
  (⟨"ClearingWavesModel", "unitsOf", "(III)J"⟩, prog_14_method_100_code, 4, (some .long)),
  (⟨"ClearingWavesModel", "fund", "(II)J"⟩, prog_14_method_105_code, 3, (some .long)),
  (⟨"ClearingWavesModel", "looksAt", "(I)V"⟩, prog_14_method_103_code, 5, none),
  (⟨"ClearingWavesModel", "adds", "(JJ)V"⟩, prog_14_method_104_code, 15, none),
  (⟨"ClearingWavesModel", "times", "(JJ)J"⟩, prog_14_method_101_code, 5, (some .long)),
  (⟨"ClearingWavesModel", "told", "(I)I"⟩, prog_14_method_106_code, 2, (some .int)),
  (⟨"ClearingWavesModel", "hasUnits", "(I)Z"⟩, prog_14_method_102_code, 4, (some .boolean)),
  (⟨"ClearingWavesModel", "best", "()I"⟩, prog_14_method_107_code, 7, (some .int)),
  (⟨"ClearingWavesModel", "spell", "()I"⟩, prog_14_method_111_code, 3, (some .int)),
  (⟨"ClearingWavesModel", "spells", "(I)V"⟩, prog_14_method_112_code, 6, none),
  (⟨"ClearingWavesModel", "writes", "(I)V"⟩, prog_14_method_108_code, 2, none),
  (⟨"ClearingWavesModel", "paysAll", "(I)J"⟩, prog_14_method_110_code, 5, (some .long)),
  (⟨"ClearingWavesModel", "writesNumber", "(J)V"⟩, prog_14_method_109_code, 3, none),
  (⟨"ClearingWavesModel", "paper", "(I)I"⟩, prog_14_method_113_code, 2, (some .int)),
  (⟨"ClearingWavesModel", "count", "(I)I"⟩, prog_14_method_116_code, 3, (some .int)),
  (⟨"ClearingWavesModel", "cashOfAll", "()I"⟩, prog_14_method_114_code, 3, (some .int)),
  (⟨"ClearingWavesModel", "owedOfAll", "(Z)I"⟩, prog_14_method_115_code, 4, (some .int)),
  (⟨"ClearingWavesModel", "row", "(II)I"⟩, prog_14_method_119_code, 4, (some .int)),
  (⟨"ClearingWavesModel", "set", "(IIJ)I"⟩, prog_14_method_120_code, 5, (some .int)),
  (⟨"ClearingWavesModel", "get", "(II)J"⟩, prog_14_method_121_code, 3, (some .long)),
  (⟨"ClearingWavesModel", "lay", "(II)I"⟩, prog_14_method_122_code, 5, (some .int)),
  (⟨"ClearingWavesModel", "judge", "(II)I"⟩, prog_14_method_125_code, 8, (some .int)),
  (⟨"ClearingWavesModel", "paysSo", "(II)Z"⟩, prog_14_method_123_code, 17, (some .boolean)),
  (⟨"ClearingWavesModel", "isOfClearing", "(I)Z"⟩, prog_14_method_124_code, 5, (some .boolean)),
  (⟨"ClearingWavesModel", "image", "()I"⟩, prog_14_method_126_code, 1, (some .int)),
  (⟨"ClearingWavesModel", "undo", "()I"⟩, prog_14_method_127_code, 1, (some .int)),
  (⟨"ClearingWavesLaw", "law", "([I)Z"⟩, code, 4, (some .boolean))]
def mr (i : Nat) : MRec := MTL.getD i (⟨"", "", ""⟩, code, 0, none)
/-- links of constructors that only a nest mate may call -/
def nestL : List (String × Nat × MethodName × String) := [("ClearingWaves$Clearing", 43, ⟨"ClearingWaves$Equations", "<init>", "()V"⟩, "ClearingWaves"), ("ClearingWaves", 61, ⟨"ClearingWaves$Worth", "<init>", "()V"⟩, "ClearingWaves"), ("ClearingWaves", 68, ⟨"ClearingWaves$Told", "<init>", "()V"⟩, "ClearingWaves"), ("ClearingWaves", 75, ⟨"ClearingWaves$Tape", "<init>", "()V"⟩, "ClearingWaves"), ("ClearingWaves", 82, ⟨"ClearingWaves$Paper", "<init>", "()V"⟩, "ClearingWaves"), ("ClearingWaves", 89, ⟨"ClearingWaves$Rows", "<init>", "()V"⟩, "ClearingWaves")]
def Nst (U : State) : Prop := ∀ q ∈ nestL, va_Nw (.methodLinkNest q.1 q.2.1 q.2.2.1 q.2.2.2) U
