/-! names: classes, fields, methods, the cells of the world; laid by gen/names.py -/
abbrev xMt : Type := MethodName × ByteArray × Nat × Option FieldType × String
def WS : List Cond := lw_tbl.filter goodWord
theorem WS_good : ∀ w ∈ WS, (w.onTables && w.keeps) = true ∨ ∃ ty, w = .arrayClass ty := fun w h => good_of_word (List.mem_filter.mp h).2
/-- words of nest mates: no spec carries them, so each contract has them among what it begins with -/
def isNest : Cond → Bool
  | .fieldLinkNest .. => true
  | .methodLinkNest .. => true
  | _ => false
def NW : List Cond := lw_tbl.filter isNest
theorem NW_tab : ∀ w ∈ NW, w.onTables = true := fun w h => by
  have h2 := (List.mem_filter.mp h).2
  cases w <;> first | rfl | cases h2
theorem NW_warm {s U : State} (hW : s.WarmedH U.vm) (h : ∀ w ∈ NW, va_Nw w s) : ∀ w ∈ NW, va_Nw w U := fun w hw => by
  have h2 := (List.mem_filter.mp hw).2
  have h3 := h w hw
  cases w <;> first | exact va_Nw.warmF hW h3 | exact va_Nw.warmM hW h3 | cases h2
def R_D : String := "RadiusDecoder"
def T_D : u_T := fun k => match k with
  | 0 => ("RadiusDecoder", "numbers", "LRadiusDecoder$Field;", true)
  | 1 => ("RadiusDecoder", "scheme", "LRadiusDecoder$Code;", true)
  | 2 => ("RadiusDecoder", "message", "[I", true)
  | 3 => ("RadiusDecoder", "received", "LRadiusDecoder$Word;", true)
  | 4 => ("RadiusDecoder", "search", "LRadiusDecoder$Search;", true)
  | 5 => ("RadiusDecoder", "nearest", "LRadiusDecoder$Finds;", true)
  | 6 => ("RadiusDecoder", "within", "LRadiusDecoder$Finds;", true)
  | 7 => ("RadiusDecoder", "register", "[I", true)
  | _ => ("RadiusDecoder", "passing", "LRadiusDecoder$Passing;", true)
def ty_D : Nat → FieldType := fun k => match k with
  | 0 => .object "RadiusDecoder$Field"
  | 1 => .object "RadiusDecoder$Code"
  | 2 => .array .int
  | 3 => .object "RadiusDecoder$Word"
  | 4 => .object "RadiusDecoder$Search"
  | 5 => .object "RadiusDecoder$Finds"
  | 6 => .object "RadiusDecoder$Finds"
  | 7 => .array .int
  | _ => .object "RadiusDecoder$Passing"
def R_F : String := "RadiusDecoder$Field"
def T_F : u_T := fun k => match k with
  | 0 => ("RadiusDecoder$Field", "degree", "I", false)
  | 1 => ("RadiusDecoder$Field", "size", "I", false)
  | 2 => ("RadiusDecoder$Field", "powers", "[I", true)
  | 3 => ("RadiusDecoder$Field", "logs", "[I", true)
  | _ => ("RadiusDecoder$Field", "products", "[I", true)
def ty_F : Nat → FieldType := fun k => match k with
  | 0 => .int
  | 1 => .int
  | 2 => .array .int
  | 3 => .array .int
  | _ => .array .int
def R_C : String := "RadiusDecoder$Code"
def T_C : u_T := fun k => match k with
  | 0 => ("RadiusDecoder$Code", "numbers", "LRadiusDecoder$Field;", true)
  | 1 => ("RadiusDecoder$Code", "kind", "I", false)
  | 2 => ("RadiusDecoder$Code", "length", "I", false)
  | 3 => ("RadiusDecoder$Code", "dimension", "I", false)
  | 4 => ("RadiusDecoder$Code", "points", "[I", true)
  | 5 => ("RadiusDecoder$Code", "stretches", "[I", true)
  | 6 => ("RadiusDecoder$Code", "checks", "[I", true)
  | 7 => ("RadiusDecoder$Code", "generator", "[I", true)
  | 8 => ("RadiusDecoder$Code", "plain", "[[I", true)
  | 9 => ("RadiusDecoder$Code", "leading", "[[I", true)
  | _ => ("RadiusDecoder$Code", "trailing", "[[I", true)
def ty_C : Nat → FieldType := fun k => match k with
  | 0 => .object "RadiusDecoder$Field"
  | 1 => .int
  | 2 => .int
  | 3 => .int
  | 4 => .array .int
  | 5 => .array .int
  | 6 => .array .int
  | 7 => .array .int
  | 8 => .array (.array .int)
  | 9 => .array (.array .int)
  | _ => .array (.array .int)
def R_W : String := "RadiusDecoder$Word"
def T_W : u_T := fun k => match k with
  | 0 => ("RadiusDecoder$Word", "open", "I", false)
  | 1 => ("RadiusDecoder$Word", "elements", "[I", true)
  | _ => ("RadiusDecoder$Word", "erased", "[Z", true)
def ty_W : Nat → FieldType := fun k => match k with
  | 0 => .int
  | 1 => .array .int
  | _ => .array .boolean
def R_S : String := "RadiusDecoder$Search"
def T_S : u_T := fun k => match k with
  | 0 => ("RadiusDecoder$Search", "numbers", "LRadiusDecoder$Field;", true)
  | 1 => ("RadiusDecoder$Search", "scheme", "LRadiusDecoder$Code;", true)
  | 2 => ("RadiusDecoder$Search", "received", "LRadiusDecoder$Word;", true)
  | 3 => ("RadiusDecoder$Search", "start", "[I", true)
  | 4 => ("RadiusDecoder$Search", "votes", "[I", true)
  | _ => ("RadiusDecoder$Search", "sure", "I", false)
def ty_S : Nat → FieldType := fun k => match k with
  | 0 => .object "RadiusDecoder$Field"
  | 1 => .object "RadiusDecoder$Code"
  | 2 => .object "RadiusDecoder$Word"
  | 3 => .array .int
  | 4 => .array .int
  | _ => .int
def R_N : String := "RadiusDecoder$Finds"
def T_N : u_T := fun k => match k with
  | 0 => ("RadiusDecoder$Finds", "scheme", "LRadiusDecoder$Code;", true)
  | 1 => ("RadiusDecoder$Finds", "count", "I", false)
  | 2 => ("RadiusDecoder$Finds", "codewords", "[[I", true)
  | _ => ("RadiusDecoder$Finds", "distances", "[I", true)
def ty_N : Nat → FieldType := fun k => match k with
  | 0 => .object "RadiusDecoder$Code"
  | 1 => .int
  | 2 => .array (.array .int)
  | _ => .array .int
def R_P : String := "RadiusDecoder$Passing"
def T_P : u_T := fun k => match k with
  | 0 => ("RadiusDecoder$Passing", "numbers", "LRadiusDecoder$Field;", true)
  | 1 => ("RadiusDecoder$Passing", "scheme", "LRadiusDecoder$Code;", true)
  | 2 => ("RadiusDecoder$Passing", "received", "LRadiusDecoder$Word;", true)
  | 3 => ("RadiusDecoder$Passing", "places", "I", false)
  | 4 => ("RadiusDecoder$Passing", "block", "I", false)
  | 5 => ("RadiusDecoder$Passing", "powers", "I", false)
  | 6 => ("RadiusDecoder$Passing", "xs", "[I", true)
  | 7 => ("RadiusDecoder$Passing", "ys", "[I", true)
  | 8 => ("RadiusDecoder$Passing", "withoutX", "[Z", true)
  | 9 => ("RadiusDecoder$Passing", "weights", "[I", true)
  | _ => ("RadiusDecoder$Passing", "values", "[[I", true)
def ty_P : Nat → FieldType := fun k => match k with
  | 0 => .object "RadiusDecoder$Field"
  | 1 => .object "RadiusDecoder$Code"
  | 2 => .object "RadiusDecoder$Word"
  | 3 => .int
  | 4 => .int
  | 5 => .int
  | 6 => .array .int
  | 7 => .array .int
  | 8 => .array .boolean
  | 9 => .array .int
  | _ => .array (.array .int)
def R_M : String := "RadiusDecoderModel"
def T_M : u_T := fun k => match k with
  | 0 => ("RadiusDecoderModel", "m", "I", false)
  | 1 => ("RadiusDecoderModel", "elements", "I", false)
  | 2 => ("RadiusDecoderModel", "product", "[I", true)
  | 3 => ("RadiusDecoderModel", "point", "[I", true)
  | 4 => ("RadiusDecoderModel", "kind", "I", false)
  | 5 => ("RadiusDecoderModel", "n", "I", false)
  | 6 => ("RadiusDecoderModel", "k", "I", false)
  | 7 => ("RadiusDecoderModel", "g", "[I", true)
  | 8 => ("RadiusDecoderModel", "message", "[I", true)
  | 9 => ("RadiusDecoderModel", "word", "[I", true)
  | 10 => ("RadiusDecoderModel", "erased", "[Z", true)
  | 11 => ("RadiusDecoderModel", "row", "[I", true)
  | 12 => ("RadiusDecoderModel", "found", "I", false)
  | 13 => ("RadiusDecoderModel", "differs", "[Z", true)
  | 14 => ("RadiusDecoderModel", "locating", "[I", true)
  | 15 => ("RadiusDecoderModel", "listed", "I", false)
  | 16 => ("RadiusDecoderModel", "members", "[I", true)
  | 17 => ("RadiusDecoderModel", "distances", "[I", true)
  | 18 => ("RadiusDecoderModel", "reduced", "[I", true)
  | 19 => ("RadiusDecoderModel", "first", "[I", true)
  | _ => ("RadiusDecoderModel", "term", "[I", true)
def ty_M : Nat → FieldType := fun k => match k with
  | 0 => .int
  | 1 => .int
  | 2 => .array .int
  | 3 => .array .int
  | 4 => .int
  | 5 => .int
  | 6 => .int
  | 7 => .array .int
  | 8 => .array .int
  | 9 => .array .int
  | 10 => .array .boolean
  | 11 => .array .int
  | 12 => .int
  | 13 => .array .boolean
  | 14 => .array .int
  | 15 => .int
  | 16 => .array .int
  | 17 => .array .int
  | 18 => .array .int
  | 19 => .array .int
  | _ => .array .int
def xCL : List vw_C := [(R_D, T_D, 9), (R_F, T_F, 5), (R_C, T_C, 11), (R_W, T_W, 3), (R_S, T_S, 6), (R_N, T_N, 4), (R_P, T_P, 11), (R_M, T_M, 21)]
def xIsL : List (List Bool) := [[true, true, true, true, true, true, true, true, true], [false, false, true, true, true], [true, false, false, false, true, true, true, true, true, true, true], [false, true, true], [true, true, true, true, true, false], [true, false, true, true], [true, true, true, false, false, false, true, true, true, true, true], [false, false, true, true, false, false, false, true, true, true, true, true, false, true, true, false, true, true, true, true, true]]
def xIs (ci j : Nat) : Bool := (xIsL.getD ci []).getD j false
def xSl : List (Nat × Nat) := [(3, 9), (4, 5), (0, 32), (0, 32), (0, 1024), (5, 11), (0, 20), (0, 20), (0, 20), (0, 20), (2, 4), (0, 24), (0, 24), (0, 24), (0, 24), (2, 4), (0, 24), (0, 24), (0, 24), (0, 24), (2, 4), (0, 24), (0, 24), (0, 24), (0, 24), (0, 4), (6, 3), (0, 20), (1, 20), (7, 6), (0, 4), (0, 32), (8, 4), (2, 1), (0, 20), (0, 1), (8, 4), (2, 16), (0, 20), (0, 20), (0, 20), (0, 20), (0, 20), (0, 20), (0, 20), (0, 20), (0, 20), (0, 20), (0, 20), (0, 20), (0, 20), (0, 20), (0, 20), (0, 20), (0, 16), (0, 20), (9, 11), (0, 20), (0, 20), (1, 120), (0, 16), (2, 16), (0, 120), (0, 120), (0, 120), (0, 120), (0, 120), (0, 120), (0, 120), (0, 120), (0, 120), (0, 120), (0, 120), (0, 120), (0, 120), (0, 120), (0, 120), (0, 120), (10, 21), (0, 1024), (0, 32), (0, 20), (0, 4), (0, 20), (1, 20), (0, 20), (1, 20), (0, 21), (0, 4096), (0, 4096), (0, 14400), (0, 120), (0, 120)]
def xS (k : Nat) : Nat × Nat := xSl.getD k (0, 0)
def xRl : List (List (Option Nat)) := [[some 1, some 5, some 25, some 26, some 29, some 32, some 36, some 55, some 56], [none, none, some 2, some 3, some 4], [], [], [], [some 1, none, none, none, some 6, some 7, some 8, some 9, some 10, some 15, some 20], [], [], [], [], [some 11, some 12, some 13, some 14], [], [], [], [], [some 16, some 17, some 18, some 19], [], [], [], [], [some 21, some 22, some 23, some 24], [], [], [], [], [], [none, some 27, some 28], [], [], [some 1, some 5, some 26, some 30, some 31], [], [], [some 5, none, some 33, some 35], [some 34], [], [], [some 5, none, some 37, some 54], [some 38, some 39, some 40, some 41, some 42, some 43, some 44, some 45, some 46, some 47, some 48, some 49, some 50, some 51, some 52, some 53], [], [], [], [], [], [], [], [], [], [], [], [], [], [], [], [], [], [], [some 1, some 5, some 26, none, none, none, some 57, some 58, some 59, some 60, some 61], [], [], [], [], [some 62, some 63, some 64, some 65, some 66, some 67, some 68, some 69, some 70, some 71, some 72, some 73, some 74, some 75, some 76, some 77], [], [], [], [], [], [], [], [], [], [], [], [], [], [], [], [], [none, none, some 79, some 80, none, none, none, some 81, some 82, some 83, some 84, some 85, none, some 86, some 87, none, some 88, some 89, some 90, some 91, some 92], [], [], [], [], [], [], [], [], [], [], [], [], [], []]
def xR0 (k j : Nat) : Option Nat := (xRl.getD k []).getD j none
theorem rowS_11 : ∀ {j : Nat}, j < 4 → xS (11 + j) = (0, 24) := by intro j h; revert j; decide
theorem rowN_11 {j : Nat} (h : j < 4) : 11 + j < 78 := by omega
theorem rowS_16 : ∀ {j : Nat}, j < 4 → xS (16 + j) = (0, 24) := by intro j h; revert j; decide
theorem rowN_16 {j : Nat} (h : j < 4) : 16 + j < 78 := by omega
theorem rowS_21 : ∀ {j : Nat}, j < 4 → xS (21 + j) = (0, 24) := by intro j h; revert j; decide
theorem rowN_21 {j : Nat} (h : j < 4) : 21 + j < 78 := by omega
theorem rowS_34 : ∀ {j : Nat}, j < 1 → xS (34 + j) = (0, 20) := by intro j h; revert j; decide
theorem rowN_34 {j : Nat} (h : j < 1) : 34 + j < 78 := by omega
theorem rowS_38 : ∀ {j : Nat}, j < 16 → xS (38 + j) = (0, 20) := by intro j h; revert j; decide
theorem rowN_38 {j : Nat} (h : j < 16) : 38 + j < 78 := by omega
theorem rowS_62 : ∀ {j : Nat}, j < 16 → xS (62 + j) = (0, 120) := by intro j h; revert j; decide
theorem rowN_62 {j : Nat} (h : j < 16) : 62 + j < 78 := by omega
def RC (b : Nat) (R : Nat → Nat → Option Nat) : Prop := ∀ k j, k < b → R k j = xR0 k j
theorem RC.at {b : Nat} {R : Nat → Nat → Option Nat} (h : RC b R) (k j : Nat) {t : Nat} (hk : Nat.blt k b = true) (e : xR0 k j = some t) : R k j = some t := (h k j (Nat.le_of_ble_eq_true hk)).trans e
theorem RC.row {b : Nat} {R : Nat → Nat → Option Nat} (h : RC b R) (k base cnt : Nat) (hk : Nat.blt k b = true) (e : ((List.range cnt).all fun j => xR0 k j == some (base + j)) = true) {z : Int} (h0 : 0 ≤ z) (h1 : z < cnt) : R k z.toNat = some (base + z.toNat) := by
  rw [h k _ (Nat.le_of_ble_eq_true hk)]
  have := List.all_eq_true.mp e z.toNat (List.mem_range.mpr (by omega))
  simpa using this
def m_D_init : xMt := (⟨"RadiusDecoder", "<init>", "()V"⟩, prog_1_method_1_code, 1, none, "RadiusDecoder")
def m_D_field : xMt := (⟨"RadiusDecoder", "field", "(I)I"⟩, prog_1_method_2_code, 2, (some .int), "RadiusDecoder")
def m_D_times : xMt := (⟨"RadiusDecoder", "times", "(II)I"⟩, prog_1_method_3_code, 3, (some .int), "RadiusDecoder")
def m_D_over : xMt := (⟨"RadiusDecoder", "over", "(II)I"⟩, prog_1_method_4_code, 3, (some .int), "RadiusDecoder")
def m_D_log : xMt := (⟨"RadiusDecoder", "log", "(I)I"⟩, prog_1_method_5_code, 2, (some .int), "RadiusDecoder")
def m_D_code : xMt := (⟨"RadiusDecoder", "code", "(III)Z"⟩, prog_1_method_6_code, 4, (some .boolean), "RadiusDecoder")
def m_D_tell : xMt := (⟨"RadiusDecoder", "tell", "(II)Z"⟩, prog_1_method_7_code, 3, (some .boolean), "RadiusDecoder")
def m_D_encode : xMt := (⟨"RadiusDecoder", "encode", "(Z)I"⟩, prog_1_method_8_code, 6, (some .int), "RadiusDecoder")
def m_D_receive : xMt := (⟨"RadiusDecoder", "receive", "(II)Z"⟩, prog_1_method_9_code, 3, (some .boolean), "RadiusDecoder")
def m_D_erase : xMt := (⟨"RadiusDecoder", "erase", "(I)Z"⟩, prog_1_method_10_code, 2, (some .boolean), "RadiusDecoder")
def m_D_word : xMt := (⟨"RadiusDecoder", "word", "(I)I"⟩, prog_1_method_11_code, 2, (some .int), "RadiusDecoder")
def m_D_syndrome : xMt := (⟨"RadiusDecoder", "syndrome", "(I)I"⟩, prog_1_method_12_code, 5, (some .int), "RadiusDecoder")
def m_D_decode : xMt := (⟨"RadiusDecoder", "decode", "(Z)I"⟩, prog_1_method_13_code, 2, (some .int), "RadiusDecoder")
def m_D_decoded : xMt := (⟨"RadiusDecoder", "decoded", "(I)I"⟩, prog_1_method_14_code, 2, (some .int), "RadiusDecoder")
def m_D_sent : xMt := (⟨"RadiusDecoder", "sent", "(I)I"⟩, prog_1_method_15_code, 2, (some .int), "RadiusDecoder")
def m_D_locator : xMt := (⟨"RadiusDecoder", "locator", "(I)I"⟩, prog_1_method_16_code, 2, (some .int), "RadiusDecoder")
def m_D_list : xMt := (⟨"RadiusDecoder", "list", "(I)I"⟩, prog_1_method_17_code, 2, (some .int), "RadiusDecoder")
def m_D_listed : xMt := (⟨"RadiusDecoder", "listed", "(II)I"⟩, prog_1_method_18_code, 3, (some .int), "RadiusDecoder")
def m_D_distance : xMt := (⟨"RadiusDecoder", "distance", "(I)I"⟩, prog_1_method_19_code, 2, (some .int), "RadiusDecoder")
def m_D_radius : xMt := (⟨"RadiusDecoder", "radius", "(I)I"⟩, prog_1_method_20_code, 2, (some .int), "RadiusDecoder")
def m_D_weight : xMt := (⟨"RadiusDecoder", "weight", "(I)I"⟩, prog_1_method_21_code, 2, (some .int), "RadiusDecoder")
def m_D_beginField : xMt := (⟨"RadiusDecoder", "beginField", "(I)V"⟩, prog_1_method_22_code, 2, none, "RadiusDecoder")
def m_D_beginCode : xMt := (⟨"RadiusDecoder", "beginCode", "(III)V"⟩, prog_1_method_23_code, 5, none, "RadiusDecoder")
def m_D_isPlace : xMt := (⟨"RadiusDecoder", "isPlace", "(I)Z"⟩, prog_1_method_24_code, 2, (some .boolean), "RadiusDecoder")
def m_D_isInMessage : xMt := (⟨"RadiusDecoder", "isInMessage", "(I)Z"⟩, prog_1_method_25_code, 2, (some .boolean), "RadiusDecoder")
def m_D_isTimes : xMt := (⟨"RadiusDecoder", "isTimes", "(I)Z"⟩, prog_1_method_26_code, 1, (some .boolean), "RadiusDecoder")
def m_D_isErasedTooMuch : xMt := (⟨"RadiusDecoder", "isErasedTooMuch", "()Z"⟩, prog_1_method_27_code, 1, (some .boolean), "RadiusDecoder")
def m_D_half : xMt := (⟨"RadiusDecoder", "half", "()I"⟩, prog_1_method_28_code, 1, (some .int), "RadiusDecoder")
def m_D_boundFor : xMt := (⟨"RadiusDecoder", "boundFor", "(I)I"⟩, prog_1_method_29_code, 5, (some .int), "RadiusDecoder")
def m_D_radiusFor : xMt := (⟨"RadiusDecoder", "radiusFor", "(I)I"⟩, prog_1_method_30_code, 2, (some .int), "RadiusDecoder")
def m_D_locateWrongPlaces : xMt := (⟨"RadiusDecoder", "locateWrongPlaces", "()V"⟩, prog_1_method_31_code, 3, none, "RadiusDecoder")
def m_M_init : xMt := (⟨"RadiusDecoderModel", "<init>", "()V"⟩, prog_9_method_1_code, 1, none, "RadiusDecoderModel")
def m_M_rest : xMt := (⟨"RadiusDecoderModel", "rest", "(IIII)I"⟩, prog_9_method_2_code, 6, (some .int), "RadiusDecoderModel")
def m_M_layField : xMt := (⟨"RadiusDecoderModel", "layField", "(II)V"⟩, prog_9_method_3_code, 5, none, "RadiusDecoderModel")
def m_M_isPrimitive : xMt := (⟨"RadiusDecoderModel", "isPrimitive", "(II)Z"⟩, prog_9_method_4_code, 4, (some .boolean), "RadiusDecoderModel")
def m_M_isElement : xMt := (⟨"RadiusDecoderModel", "isElement", "(I)Z"⟩, prog_9_method_5_code, 2, (some .boolean), "RadiusDecoderModel")
def m_M_field : xMt := (⟨"RadiusDecoderModel", "field", "(I)I"⟩, prog_9_method_6_code, 3, (some .int), "RadiusDecoderModel")
def m_M_times : xMt := (⟨"RadiusDecoderModel", "times", "(II)I"⟩, prog_9_method_7_code, 3, (some .int), "RadiusDecoderModel")
def m_M_quotient : xMt := (⟨"RadiusDecoderModel", "quotient", "(II)I"⟩, prog_9_method_8_code, 4, (some .int), "RadiusDecoderModel")
def m_M_over : xMt := (⟨"RadiusDecoderModel", "over", "(II)I"⟩, prog_9_method_9_code, 3, (some .int), "RadiusDecoderModel")
def m_M_log : xMt := (⟨"RadiusDecoderModel", "log", "(I)I"⟩, prog_9_method_10_code, 3, (some .int), "RadiusDecoderModel")
def m_M_power : xMt := (⟨"RadiusDecoderModel", "power", "(II)I"⟩, prog_9_method_11_code, 5, (some .int), "RadiusDecoderModel")
def m_M_layCode : xMt := (⟨"RadiusDecoderModel", "layCode", "(III)V"⟩, prog_9_method_12_code, 6, none, "RadiusDecoderModel")
def m_M_code : xMt := (⟨"RadiusDecoderModel", "code", "(III)Z"⟩, prog_9_method_13_code, 5, (some .boolean), "RadiusDecoderModel")
def m_M_tell : xMt := (⟨"RadiusDecoderModel", "tell", "(II)Z"⟩, prog_9_method_14_code, 3, (some .boolean), "RadiusDecoderModel")
def m_M_told : xMt := (⟨"RadiusDecoderModel", "told", "(II)I"⟩, prog_9_method_15_code, 3, (some .int), "RadiusDecoderModel")
def m_M_messages : xMt := (⟨"RadiusDecoderModel", "messages", "()I"⟩, prog_9_method_16_code, 1, (some .int), "RadiusDecoderModel")
def m_M_element : xMt := (⟨"RadiusDecoderModel", "element", "(II)I"⟩, prog_9_method_17_code, 5, (some .int), "RadiusDecoderModel")
def m_M_makeRow : xMt := (⟨"RadiusDecoderModel", "makeRow", "(I)V"⟩, prog_9_method_18_code, 3, none, "RadiusDecoderModel")
def m_M_chosen : xMt := (⟨"RadiusDecoderModel", "chosen", "(Z)I"⟩, prog_9_method_19_code, 6, (some .int), "RadiusDecoderModel")
def m_M_encode : xMt := (⟨"RadiusDecoderModel", "encode", "(Z)I"⟩, prog_9_method_20_code, 4, (some .int), "RadiusDecoderModel")
def m_M_isPlace : xMt := (⟨"RadiusDecoderModel", "isPlace", "(I)Z"⟩, prog_9_method_21_code, 2, (some .boolean), "RadiusDecoderModel")
def m_M_receive : xMt := (⟨"RadiusDecoderModel", "receive", "(II)Z"⟩, prog_9_method_22_code, 3, (some .boolean), "RadiusDecoderModel")
def m_M_erase : xMt := (⟨"RadiusDecoderModel", "erase", "(I)Z"⟩, prog_9_method_23_code, 2, (some .boolean), "RadiusDecoderModel")
def m_M_word : xMt := (⟨"RadiusDecoderModel", "word", "(I)I"⟩, prog_9_method_24_code, 2, (some .int), "RadiusDecoderModel")
def m_M_apart : xMt := (⟨"RadiusDecoderModel", "apart", "(I)I"⟩, prog_9_method_25_code, 4, (some .int), "RadiusDecoderModel")
def m_M_syndrome : xMt := (⟨"RadiusDecoderModel", "syndrome", "(I)I"⟩, prog_9_method_26_code, 6, (some .int), "RadiusDecoderModel")
def m_M_kept : xMt := (⟨"RadiusDecoderModel", "kept", "()I"⟩, prog_9_method_27_code, 3, (some .int), "RadiusDecoderModel")
def m_M_distanceOf : xMt := (⟨"RadiusDecoderModel", "distanceOf", "(II)I"⟩, prog_9_method_28_code, 5, (some .int), "RadiusDecoderModel")
def m_M_decode : xMt := (⟨"RadiusDecoderModel", "decode", "(Z)I"⟩, prog_9_method_29_code, 6, (some .int), "RadiusDecoderModel")
def m_M_decoded : xMt := (⟨"RadiusDecoderModel", "decoded", "(I)I"⟩, prog_9_method_30_code, 2, (some .int), "RadiusDecoderModel")
def m_M_sent : xMt := (⟨"RadiusDecoderModel", "sent", "(I)I"⟩, prog_9_method_31_code, 2, (some .int), "RadiusDecoderModel")
def m_M_locator : xMt := (⟨"RadiusDecoderModel", "locator", "(I)I"⟩, prog_9_method_32_code, 4, (some .int), "RadiusDecoderModel")
def m_M_pairs : xMt := (⟨"RadiusDecoderModel", "pairs", "(I)I"⟩, prog_9_method_33_code, 2, (some .int), "RadiusDecoderModel")
def m_M_boundFor : xMt := (⟨"RadiusDecoderModel", "boundFor", "(II)I"⟩, prog_9_method_34_code, 5, (some .int), "RadiusDecoderModel")
def m_M_radiusFor : xMt := (⟨"RadiusDecoderModel", "radiusFor", "(II)I"⟩, prog_9_method_35_code, 5, (some .int), "RadiusDecoderModel")
def m_M_isBefore : xMt := (⟨"RadiusDecoderModel", "isBefore", "(II)Z"⟩, prog_9_method_36_code, 4, (some .boolean), "RadiusDecoderModel")
def m_M_list : xMt := (⟨"RadiusDecoderModel", "list", "(I)I"⟩, prog_9_method_37_code, 7, (some .int), "RadiusDecoderModel")
def m_M_listed : xMt := (⟨"RadiusDecoderModel", "listed", "(II)I"⟩, prog_9_method_38_code, 3, (some .int), "RadiusDecoderModel")
def m_M_distance : xMt := (⟨"RadiusDecoderModel", "distance", "(I)I"⟩, prog_9_method_39_code, 2, (some .int), "RadiusDecoderModel")
def m_M_radius : xMt := (⟨"RadiusDecoderModel", "radius", "(I)I"⟩, prog_9_method_40_code, 3, (some .int), "RadiusDecoderModel")
def m_M_condition : xMt := (⟨"RadiusDecoderModel", "condition", "(IIIII)I"⟩, prog_9_method_41_code, 9, (some .int), "RadiusDecoderModel")
def m_M_layTerm : xMt := (⟨"RadiusDecoderModel", "layTerm", "(III)I"⟩, prog_9_method_42_code, 9, (some .int), "RadiusDecoderModel")
def m_M_isNew : xMt := (⟨"RadiusDecoderModel", "isNew", "(II)Z"⟩, prog_9_method_43_code, 6, (some .boolean), "RadiusDecoderModel")
def m_M_weight : xMt := (⟨"RadiusDecoderModel", "weight", "(I)I"⟩, prog_9_method_44_code, 6, (some .int), "RadiusDecoderModel")
def m_C_init : xMt := (⟨"RadiusDecoder$Code", "<init>", "(LRadiusDecoder$Field;)V"⟩, prog_2_method_1_code, 2, none, "RadiusDecoder$Code")
def m_C_begin : xMt := (⟨"RadiusDecoder$Code", "begin", "(III)V"⟩, prog_2_method_2_code, 5, none, "RadiusDecoder$Code")
def m_C_fillFactors : xMt := (⟨"RadiusDecoder$Code", "fillFactors", "(I)V"⟩, prog_2_method_3_code, 4, none, "RadiusDecoder$Code")
def m_C_fillGenerator : xMt := (⟨"RadiusDecoder$Code", "fillGenerator", "()V"⟩, prog_2_method_4_code, 3, none, "RadiusDecoder$Code")
def m_C_fillPlainRow : xMt := (⟨"RadiusDecoder$Code", "fillPlainRow", "(I)V"⟩, prog_2_method_5_code, 3, none, "RadiusDecoder$Code")
def m_C_fillUnitRows : xMt := (⟨"RadiusDecoder$Code", "fillUnitRows", "([[II)V"⟩, prog_2_method_6_code, 7, none, "RadiusDecoder$Code")
def m_C_mixed : xMt := (⟨"RadiusDecoder$Code", "mixed", "([[I[II)I"⟩, prog_2_method_7_code, 6, (some .int), "RadiusDecoder$Code")
def m_C_toldBy : xMt := (⟨"RadiusDecoder$Code", "toldBy", "([II)I"⟩, prog_2_method_8_code, 3, (some .int), "RadiusDecoder$Code")
def m_F_init : xMt := (⟨"RadiusDecoder$Field", "<init>", "()V"⟩, prog_3_method_1_code, 1, none, "RadiusDecoder$Field")
def m_F_degreeOf : xMt := (⟨"RadiusDecoder$Field", "degreeOf", "(I)I"⟩, prog_3_method_2_code, 1, (some .int), "RadiusDecoder$Field")
def m_F_timesX : xMt := (⟨"RadiusDecoder$Field", "timesX", "(II)I"⟩, prog_3_method_3_code, 3, (some .int), "RadiusDecoder$Field")
def m_F_isPrimitive : xMt := (⟨"RadiusDecoder$Field", "isPrimitive", "(I)Z"⟩, prog_3_method_4_code, 4, (some .boolean), "RadiusDecoder$Field")
def m_F_begin : xMt := (⟨"RadiusDecoder$Field", "begin", "(I)V"⟩, prog_3_method_5_code, 6, none, "RadiusDecoder$Field")
def m_F_has : xMt := (⟨"RadiusDecoder$Field", "has", "(I)Z"⟩, prog_3_method_6_code, 2, (some .boolean), "RadiusDecoder$Field")
def m_F_product : xMt := (⟨"RadiusDecoder$Field", "product", "(II)I"⟩, prog_3_method_7_code, 3, (some .int), "RadiusDecoder$Field")
def m_F_quotient : xMt := (⟨"RadiusDecoder$Field", "quotient", "(II)I"⟩, prog_3_method_8_code, 4, (some .int), "RadiusDecoder$Field")
def m_F_addMultiple : xMt := (⟨"RadiusDecoder$Field", "addMultiple", "([II[III)V"⟩, prog_3_method_9_code, 8, none, "RadiusDecoder$Field")
def m_F_power : xMt := (⟨"RadiusDecoder$Field", "power", "(II)I"⟩, prog_3_method_10_code, 5, (some .int), "RadiusDecoder$Field")
def m_N_init : xMt := (⟨"RadiusDecoder$Finds", "<init>", "(LRadiusDecoder$Code;I)V"⟩, prog_4_method_1_code, 3, none, "RadiusDecoder$Finds")
def m_N_has : xMt := (⟨"RadiusDecoder$Finds", "has", "(I)Z"⟩, prog_4_method_2_code, 2, (some .boolean), "RadiusDecoder$Finds")
def m_N_add : xMt := (⟨"RadiusDecoder$Finds", "add", "([II)V"⟩, prog_4_method_3_code, 4, none, "RadiusDecoder$Finds")
def m_P_init : xMt := (⟨"RadiusDecoder$Passing", "<init>", "(LRadiusDecoder$Field;LRadiusDecoder$Code;LRadiusDecoder$Word;)V"⟩, prog_5_method_1_code, 4, none, "RadiusDecoder$Passing")
def m_P_leastWeight : xMt := (⟨"RadiusDecoder$Passing", "leastWeight", "(II)I"⟩, prog_5_method_2_code, 5, (some .int), "RadiusDecoder$Passing")
def m_P_setPlaces : xMt := (⟨"RadiusDecoder$Passing", "setPlaces", "()V"⟩, prog_5_method_3_code, 2, none, "RadiusDecoder$Passing")
def m_P_setValues : xMt := (⟨"RadiusDecoder$Passing", "setValues", "(III)V"⟩, prog_5_method_4_code, 8, none, "RadiusDecoder$Passing")
def m_P_meet : xMt := (⟨"RadiusDecoder$Passing", "meet", "(II)V"⟩, prog_5_method_5_code, 7, none, "RadiusDecoder$Passing")
def m_P_failingLeast : xMt := (⟨"RadiusDecoder$Passing", "failingLeast", "(I)I"⟩, prog_5_method_6_code, 4, (some .int), "RadiusDecoder$Passing")
def m_P_timesLinear : xMt := (⟨"RadiusDecoder$Passing", "timesLinear", "([II)V"⟩, prog_5_method_7_code, 7, none, "RadiusDecoder$Passing")
def m_S_init : xMt := (⟨"RadiusDecoder$Search", "<init>", "(LRadiusDecoder$Field;LRadiusDecoder$Code;LRadiusDecoder$Word;)V"⟩, prog_6_method_1_code, 4, none, "RadiusDecoder$Search")
def m_S_find : xMt := (⟨"RadiusDecoder$Search", "find", "(ILRadiusDecoder$Finds;)V"⟩, prog_6_method_2_code, 8, none, "RadiusDecoder$Search")
def m_S_setStart : xMt := (⟨"RadiusDecoder$Search", "setStart", "(II)V"⟩, prog_6_method_3_code, 5, none, "RadiusDecoder$Search")
def m_S_countVotes : xMt := (⟨"RadiusDecoder$Search", "countVotes", "(I)V"⟩, prog_6_method_4_code, 5, none, "RadiusDecoder$Search")
def m_W_init : xMt := (⟨"RadiusDecoder$Word", "<init>", "()V"⟩, prog_7_method_1_code, 1, none, "RadiusDecoder$Word")
def m_W_begin : xMt := (⟨"RadiusDecoder$Word", "begin", "(I)V"⟩, prog_7_method_2_code, 3, none, "RadiusDecoder$Word")
def m_W_put : xMt := (⟨"RadiusDecoder$Word", "put", "(II)V"⟩, prog_7_method_3_code, 3, none, "RadiusDecoder$Word")
def m_W_strike : xMt := (⟨"RadiusDecoder$Word", "strike", "(I)V"⟩, prog_7_method_4_code, 2, none, "RadiusDecoder$Word")
def m_L_law : xMt := (x, code, 4, some .boolean, "RadiusDecoderLaw")
