abbrev RX0 : String := "GuardsLookLeft$Gaps"
def TX0 : u_T := fun k => match k with
  | 0 => ("GuardsLookLeft$Gaps", "widest", "J", false)
  | _ => ("GuardsLookLeft$Gaps", "runs", "[J", true)
def tyX0 : Nat → FieldType := fun k => match k with
  | 0 => .long
  | _ => .array .long
theorem nmX0 : ∀ a, a < 2 → ∀ b, b < 2 → a ≠ b → (TX0 a).2.1 ≠ (TX0 b).2.1 := by decide +kernel
theorem tyX0_ok : ∀ k, k < 2 → parseFieldDescriptor (TX0 k).2.2.1 = some (tyX0 k) := by decide +kernel
theorem inX0 : ∀ w ∈ u_ws RX0 TX0 2, w ∈ WS := by
  intro w hw
  obtain ⟨k, hk, rfl⟩ := List.mem_map.mp hw
  have hk := List.mem_range.mp hk
  match k, hk with
  | 0, _ => exact wk_1_215
  | 1, _ => exact wk_1_217
  | k + 2, hk => omega
abbrev cX0_init : ByteArray := prog_2_method_1_code
abbrev yX0_init : MethodName := ⟨"GuardsLookLeft$Gaps", "<init>", "()V"⟩
abbrev cX0_greatest : ByteArray := prog_2_method_2_code
abbrev yX0_greatest : MethodName := ⟨"GuardsLookLeft$Gaps", "greatest", "([JJ)I"⟩
abbrev RX1 : String := "GuardsLookLeft$Guards"
def TX1 : u_T := fun k => match k with
  | 0 => ("GuardsLookLeft$Guards", "kinds", "[I", true)
  | 1 => ("GuardsLookLeft$Guards", "homes", "[I", true)
  | 2 => ("GuardsLookLeft$Guards", "ways", "[I", true)
  | 3 => ("GuardsLookLeft$Guards", "mores", "[I", true)
  | 4 => ("GuardsLookLeft$Guards", "lengths", "[I", true)
  | 5 => ("GuardsLookLeft$Guards", "aheads", "[I", true)
  | 6 => ("GuardsLookLeft$Guards", "number", "I", false)
  | 7 => ("GuardsLookLeft$Guards", "stands", "I", false)
  | 8 => ("GuardsLookLeft$Guards", "turned", "I", false)
  | _ => ("GuardsLookLeft$Guards", "looks", "Z", false)
def tyX1 : Nat → FieldType := fun k => match k with
  | 0 => .array .int
  | 1 => .array .int
  | 2 => .array .int
  | 3 => .array .int
  | 4 => .array .int
  | 5 => .array .int
  | 6 => .int
  | 7 => .int
  | 8 => .int
  | _ => .boolean
theorem nmX1 : ∀ a, a < 10 → ∀ b, b < 10 → a ≠ b → (TX1 a).2.1 ≠ (TX1 b).2.1 := by decide +kernel
theorem tyX1_ok : ∀ k, k < 10 → parseFieldDescriptor (TX1 k).2.2.1 = some (tyX1 k) := by decide +kernel
theorem inX1 : ∀ w ∈ u_ws RX1 TX1 10, w ∈ WS := by
  intro w hw
  obtain ⟨k, hk, rfl⟩ := List.mem_map.mp hw
  have hk := List.mem_range.mp hk
  match k, hk with
  | 0, _ => exact wk_1_78
  | 1, _ => exact wk_1_80
  | 2, _ => exact wk_1_82
  | 3, _ => exact wk_1_84
  | 4, _ => exact wk_1_86
  | 5, _ => exact wk_1_88
  | 6, _ => exact wk_1_90
  | 7, _ => exact wk_1_92
  | 8, _ => exact wk_1_94
  | 9, _ => exact wk_1_96
  | k + 10, hk => omega
abbrev cX1_init : ByteArray := prog_3_method_1_code
abbrev yX1_init : MethodName := ⟨"GuardsLookLeft$Guards", "<init>", "()V"⟩
abbrev cX1_add : ByteArray := prog_3_method_2_code
abbrev yX1_add : MethodName := ⟨"GuardsLookLeft$Guards", "add", "(IIIII)I"⟩
abbrev cX1_isOf : ByteArray := prog_3_method_3_code
abbrev yX1_isOf : MethodName := ⟨"GuardsLookLeft$Guards", "isOf", "(II)Z"⟩
abbrev cX1_walk : ByteArray := prog_3_method_4_code
abbrev yX1_walk : MethodName := ⟨"GuardsLookLeft$Guards", "walk", "(IIJ)V"⟩
abbrev cX1_beat : ByteArray := prog_3_method_5_code
abbrev yX1_beat : MethodName := ⟨"GuardsLookLeft$Guards", "beat", "(IJ)I"⟩
abbrev cX1_steps : ByteArray := prog_3_method_6_code
abbrev yX1_steps : MethodName := ⟨"GuardsLookLeft$Guards", "steps", "(II)I"⟩
abbrev cX1_isLooking : ByteArray := prog_3_method_7_code
abbrev yX1_isLooking : MethodName := ⟨"GuardsLookLeft$Guards", "isLooking", "(II)Z"⟩
abbrev RX2 : String := "GuardsLookLeft$Image"
def TX2 : u_T := fun k => match k with
  | 0 => ("GuardsLookLeft$Image", "taken", "Z", false)
  | 1 => ("GuardsLookLeft$Image", "law", "I", false)
  | 2 => ("GuardsLookLeft$Image", "number", "I", false)
  | 3 => ("GuardsLookLeft$Image", "layers", "[J", true)
  | 4 => ("GuardsLookLeft$Image", "aheads", "[I", true)
  | _ => ("GuardsLookLeft$Image", "lengths", "[I", true)
def tyX2 : Nat → FieldType := fun k => match k with
  | 0 => .boolean
  | 1 => .int
  | 2 => .int
  | 3 => .array .long
  | 4 => .array .int
  | _ => .array .int
theorem nmX2 : ∀ a, a < 6 → ∀ b, b < 6 → a ≠ b → (TX2 a).2.1 ≠ (TX2 b).2.1 := by decide +kernel
theorem tyX2_ok : ∀ k, k < 6 → parseFieldDescriptor (TX2 k).2.2.1 = some (tyX2 k) := by decide +kernel
theorem inX2 : ∀ w ∈ u_ws RX2 TX2 6, w ∈ WS := by
  intro w hw
  obtain ⟨k, hk, rfl⟩ := List.mem_map.mp hw
  have hk := List.mem_range.mp hk
  match k, hk with
  | 0, _ => exact wk_2_5
  | 1, _ => exact wk_2_7
  | 2, _ => exact wk_2_9
  | 3, _ => exact wk_2_11
  | 4, _ => exact wk_2_13
  | 5, _ => exact wk_2_15
  | k + 6, hk => omega
abbrev cX2_init : ByteArray := prog_4_method_1_code
abbrev yX2_init : MethodName := ⟨"GuardsLookLeft$Image", "<init>", "()V"⟩
abbrev cX2_take : ByteArray := prog_4_method_2_code
abbrev yX2_take : MethodName := ⟨"GuardsLookLeft$Image", "take", "(LGuardsLookLeft$Palace;LGuardsLookLeft$Guards;I)V"⟩
abbrev cX2_giveBack : ByteArray := prog_4_method_3_code
abbrev yX2_giveBack : MethodName := ⟨"GuardsLookLeft$Image", "giveBack", "(LGuardsLookLeft$Palace;LGuardsLookLeft$Guards;)V"⟩
abbrev RX3 : String := "GuardsLookLeft$Palace"
def TX3 : u_T := fun k => match k with
  | _ => ("GuardsLookLeft$Palace", "layers", "[J", true)
def tyX3 : Nat → FieldType := fun k => match k with
  | _ => .array .long
theorem nmX3 : ∀ a, a < 1 → ∀ b, b < 1 → a ≠ b → (TX3 a).2.1 ≠ (TX3 b).2.1 := by decide +kernel
theorem tyX3_ok : ∀ k, k < 1 → parseFieldDescriptor (TX3 k).2.2.1 = some (tyX3 k) := by decide +kernel
theorem inX3 : ∀ w ∈ u_ws RX3 TX3 1, w ∈ WS := by
  intro w hw
  obtain ⟨k, hk, rfl⟩ := List.mem_map.mp hw
  have hk := List.mem_range.mp hk
  match k, hk with
  | 0, _ => exact wk_1_39
  | k + 1, hk => omega
abbrev cX3_init : ByteArray := prog_5_method_1_code
abbrev yX3_init : MethodName := ⟨"GuardsLookLeft$Palace", "<init>", "()V"⟩
abbrev cX3_floor : ByteArray := prog_5_method_2_code
abbrev yX3_floor : MethodName := ⟨"GuardsLookLeft$Palace", "floor", "()J"⟩
abbrev cX3_lit : ByteArray := prog_5_method_3_code
abbrev yX3_lit : MethodName := ⟨"GuardsLookLeft$Palace", "lit", "(I)I"⟩
abbrev cX3_lying : ByteArray := prog_5_method_4_code
abbrev yX3_lying : MethodName := ⟨"GuardsLookLeft$Palace", "lying", "(I)I"⟩
abbrev RX4 : String := "GuardsLookLeft$Reader"
def TX4 : u_T := fun k => match k with
  | 0 => ("GuardsLookLeft$Reader", "tape", "[I", true)
  | 1 => ("GuardsLookLeft$Reader", "size", "I", false)
  | 2 => ("GuardsLookLeft$Reader", "codes", "[I", true)
  | 3 => ("GuardsLookLeft$Reader", "ends", "[I", true)
  | 4 => ("GuardsLookLeft$Reader", "written", "I", false)
  | 5 => ("GuardsLookLeft$Reader", "begin", "I", false)
  | 6 => ("GuardsLookLeft$Reader", "behind", "I", false)
  | 7 => ("GuardsLookLeft$Reader", "token", "I", false)
  | _ => ("GuardsLookLeft$Reader", "tokenCode", "I", false)
def tyX4 : Nat → FieldType := fun k => match k with
  | 0 => .array .int
  | 1 => .int
  | 2 => .array .int
  | 3 => .array .int
  | 4 => .int
  | 5 => .int
  | 6 => .int
  | 7 => .int
  | _ => .int
theorem nmX4 : ∀ a, a < 9 → ∀ b, b < 9 → a ≠ b → (TX4 a).2.1 ≠ (TX4 b).2.1 := by decide +kernel
theorem tyX4_ok : ∀ k, k < 9 → parseFieldDescriptor (TX4 k).2.2.1 = some (tyX4 k) := by decide +kernel
theorem inX4 : ∀ w ∈ u_ws RX4 TX4 9, w ∈ WS := by
  intro w hw
  obtain ⟨k, hk, rfl⟩ := List.mem_map.mp hw
  have hk := List.mem_range.mp hk
  match k, hk with
  | 0, _ => exact wk_1_118
  | 1, _ => exact wk_1_120
  | 2, _ => exact wk_1_122
  | 3, _ => exact wk_1_124
  | 4, _ => exact wk_1_126
  | 5, _ => exact wk_1_128
  | 6, _ => exact wk_1_130
  | 7, _ => exact wk_1_132
  | 8, _ => exact wk_1_134
  | k + 9, hk => omega
abbrev cX4_init : ByteArray := prog_6_method_1_code
abbrev yX4_init : MethodName := ⟨"GuardsLookLeft$Reader", "<init>", "()V"⟩
abbrev cX4_add : ByteArray := prog_6_method_2_code
abbrev yX4_add : MethodName := ⟨"GuardsLookLeft$Reader", "add", "(I)V"⟩
abbrev cX4_read : ByteArray := prog_6_method_3_code
abbrev yX4_read : MethodName := ⟨"GuardsLookLeft$Reader", "read", "()I"⟩
abbrev cX4_readEither : ByteArray := prog_6_method_4_code
abbrev yX4_readEither : MethodName := ⟨"GuardsLookLeft$Reader", "readEither", "(I)Z"⟩
abbrev cX4_readBoth : ByteArray := prog_6_method_5_code
abbrev yX4_readBoth : MethodName := ⟨"GuardsLookLeft$Reader", "readBoth", "(I)Z"⟩
abbrev cX4_readNot : ByteArray := prog_6_method_6_code
abbrev yX4_readNot : MethodName := ⟨"GuardsLookLeft$Reader", "readNot", "(I)Z"⟩
abbrev cX4_readSum : ByteArray := prog_6_method_7_code
abbrev yX4_readSum : MethodName := ⟨"GuardsLookLeft$Reader", "readSum", "(I)Z"⟩
abbrev cX4_readTerm : ByteArray := prog_6_method_8_code
abbrev yX4_readTerm : MethodName := ⟨"GuardsLookLeft$Reader", "readTerm", "(I)Z"⟩
abbrev cX4_readOne : ByteArray := prog_6_method_9_code
abbrev yX4_readOne : MethodName := ⟨"GuardsLookLeft$Reader", "readOne", "(I)Z"⟩
abbrev cX4_write : ByteArray := prog_6_method_10_code
abbrev yX4_write : MethodName := ⟨"GuardsLookLeft$Reader", "write", "(I)V"⟩
abbrev cX4_next : ByteArray := prog_6_method_11_code
abbrev yX4_next : MethodName := ⟨"GuardsLookLeft$Reader", "next", "()V"⟩
abbrev cX4_takeWord : ByteArray := prog_6_method_12_code
abbrev yX4_takeWord : MethodName := ⟨"GuardsLookLeft$Reader", "takeWord", "()V"⟩
abbrev cX4_takeDigits : ByteArray := prog_6_method_13_code
abbrev yX4_takeDigits : MethodName := ⟨"GuardsLookLeft$Reader", "takeDigits", "()V"⟩
abbrev cX4_nameAtHand : ByteArray := prog_6_method_14_code
abbrev yX4_nameAtHand : MethodName := ⟨"GuardsLookLeft$Reader", "nameAtHand", "()I"⟩
abbrev cX4_keyAtHand : ByteArray := prog_6_method_15_code
abbrev yX4_keyAtHand : MethodName := ⟨"GuardsLookLeft$Reader", "keyAtHand", "()I"⟩
abbrev cX4_isWord : ByteArray := prog_6_method_16_code
abbrev yX4_isWord : MethodName := ⟨"GuardsLookLeft$Reader", "isWord", "(Ljava/lang/String;)Z"⟩
abbrev cX4_isLetter : ByteArray := prog_6_method_17_code
abbrev yX4_isLetter : MethodName := ⟨"GuardsLookLeft$Reader", "isLetter", "(I)Z"⟩
abbrev cX4_isDigit : ByteArray := prog_6_method_18_code
abbrev yX4_isDigit : MethodName := ⟨"GuardsLookLeft$Reader", "isDigit", "(I)Z"⟩
abbrev cX4_isSign : ByteArray := prog_6_method_19_code
abbrev yX4_isSign : MethodName := ⟨"GuardsLookLeft$Reader", "isSign", "(I)Z"⟩
abbrev RX5 : String := "GuardsLookLeft$Sheet"
def TX5 : u_T := fun k => match k with
  | 0 => ("GuardsLookLeft$Sheet", "sort", "I", false)
  | 1 => ("GuardsLookLeft$Sheet", "size", "I", false)
  | _ => ("GuardsLookLeft$Sheet", "row", "[I", true)
def tyX5 : Nat → FieldType := fun k => match k with
  | 0 => .int
  | 1 => .int
  | _ => .array .int
theorem nmX5 : ∀ a, a < 3 → ∀ b, b < 3 → a ≠ b → (TX5 a).2.1 ≠ (TX5 b).2.1 := by decide +kernel
theorem tyX5_ok : ∀ k, k < 3 → parseFieldDescriptor (TX5 k).2.2.1 = some (tyX5 k) := by decide +kernel
theorem inX5 : ∀ w ∈ u_ws RX5 TX5 3, w ∈ WS := by
  intro w hw
  obtain ⟨k, hk, rfl⟩ := List.mem_map.mp hw
  have hk := List.mem_range.mp hk
  match k, hk with
  | 0, _ => exact wk_2_31
  | 1, _ => exact wk_2_33
  | 2, _ => exact wk_2_35
  | k + 3, hk => omega
abbrev cX5_init : ByteArray := prog_7_method_1_code
abbrev yX5_init : MethodName := ⟨"GuardsLookLeft$Sheet", "<init>", "()V"⟩
abbrev cX5_become : ByteArray := prog_7_method_2_code
abbrev yX5_become : MethodName := ⟨"GuardsLookLeft$Sheet", "become", "(II)V"⟩
abbrev cX5_hasRoom : ByteArray := prog_7_method_3_code
abbrev yX5_hasRoom : MethodName := ⟨"GuardsLookLeft$Sheet", "hasRoom", "(II)Z"⟩
abbrev cX5_firstOther : ByteArray := prog_7_method_4_code
abbrev yX5_firstOther : MethodName := ⟨"GuardsLookLeft$Sheet", "firstOther", "([JI)I"⟩
abbrev RX6 : String := "GuardsLookLeft$Texts"
def TX6 : u_T := fun k => match k with
  | 0 => ("GuardsLookLeft$Texts", "codes", "[[I", true)
  | 1 => ("GuardsLookLeft$Texts", "ends", "[[I", true)
  | 2 => ("GuardsLookLeft$Texts", "number", "I", false)
  | 3 => ("GuardsLookLeft$Texts", "inForce", "I", false)
  | 4 => ("GuardsLookLeft$Texts", "names", "[I", true)
  | _ => ("GuardsLookLeft$Texts", "stack", "[I", true)
def tyX6 : Nat → FieldType := fun k => match k with
  | 0 => .array (.array .int)
  | 1 => .array (.array .int)
  | 2 => .int
  | 3 => .int
  | 4 => .array .int
  | _ => .array .int
theorem nmX6 : ∀ a, a < 6 → ∀ b, b < 6 → a ≠ b → (TX6 a).2.1 ≠ (TX6 b).2.1 := by decide +kernel
theorem tyX6_ok : ∀ k, k < 6 → parseFieldDescriptor (TX6 k).2.2.1 = some (tyX6 k) := by decide +kernel
theorem inX6 : ∀ w ∈ u_ws RX6 TX6 6, w ∈ WS := by
  intro w hw
  obtain ⟨k, hk, rfl⟩ := List.mem_map.mp hw
  have hk := List.mem_range.mp hk
  match k, hk with
  | 0, _ => exact wk_1_154
  | 1, _ => exact wk_1_156
  | 2, _ => exact wk_1_158
  | 3, _ => exact wk_1_160
  | 4, _ => exact wk_1_162
  | 5, _ => exact wk_1_164
  | k + 6, hk => omega
abbrev cX6_init : ByteArray := prog_8_method_1_code
abbrev yX6_init : MethodName := ⟨"GuardsLookLeft$Texts", "<init>", "()V"⟩
abbrev cX6_add : ByteArray := prog_8_method_2_code
abbrev yX6_add : MethodName := ⟨"GuardsLookLeft$Texts", "add", "([I[I)I"⟩
abbrev cX6_nameGuard : ByteArray := prog_8_method_3_code
abbrev yX6_nameGuard : MethodName := ⟨"GuardsLookLeft$Texts", "nameGuard", "(III)V"⟩
abbrev cX6_nameCell : ByteArray := prog_8_method_4_code
abbrev yX6_nameCell : MethodName := ⟨"GuardsLookLeft$Texts", "nameCell", "(III)V"⟩
abbrev cX6_says : ByteArray := prog_8_method_5_code
abbrev yX6_says : MethodName := ⟨"GuardsLookLeft$Texts", "says", "(I)I"⟩
abbrev cX6_value : ByteArray := prog_8_method_6_code
abbrev yX6_value : MethodName := ⟨"GuardsLookLeft$Texts", "value", "(I)I"⟩
abbrev cX6_joined : ByteArray := prog_8_method_7_code
abbrev yX6_joined : MethodName := ⟨"GuardsLookLeft$Texts", "joined", "(III)I"⟩
abbrev RX7 : String := "GuardsLookLeft$Thief"
def TX7 : u_T := fun k => match k with
  | _ => ("GuardsLookLeft$Thief", "could", "[J", true)
def tyX7 : Nat → FieldType := fun k => match k with
  | _ => .array .long
theorem nmX7 : ∀ a, a < 1 → ∀ b, b < 1 → a ≠ b → (TX7 a).2.1 ≠ (TX7 b).2.1 := by decide +kernel
theorem tyX7_ok : ∀ k, k < 1 → parseFieldDescriptor (TX7 k).2.2.1 = some (tyX7 k) := by decide +kernel
theorem inX7 : ∀ w ∈ u_ws RX7 TX7 1, w ∈ WS := by
  intro w hw
  obtain ⟨k, hk, rfl⟩ := List.mem_map.mp hw
  have hk := List.mem_range.mp hk
  match k, hk with
  | 0, _ => exact wk_1_228
  | k + 1, hk => omega
abbrev cX7_init : ByteArray := prog_9_method_1_code
abbrev yX7_init : MethodName := ⟨"GuardsLookLeft$Thief", "<init>", "()V"⟩
abbrev cX7_roam : ByteArray := prog_9_method_2_code
abbrev yX7_roam : MethodName := ⟨"GuardsLookLeft$Thief", "roam", "([JJIIJ)I"⟩
abbrev cX7_soonest : ByteArray := prog_9_method_3_code
abbrev yX7_soonest : MethodName := ⟨"GuardsLookLeft$Thief", "soonest", "([JJIII)I"⟩
abbrev cX7_withBeside : ByteArray := prog_9_method_4_code
abbrev yX7_withBeside : MethodName := ⟨"GuardsLookLeft$Thief", "withBeside", "(J)J"⟩
abbrev cX7_starts : ByteArray := prog_9_method_5_code
abbrev yX7_starts : MethodName := ⟨"GuardsLookLeft$Thief", "starts", "([JJII)I"⟩
abbrev cX7_before : ByteArray := prog_9_method_6_code
abbrev yX7_before : MethodName := ⟨"GuardsLookLeft$Thief", "before", "(III)I"⟩
abbrev cX7_cameFrom : ByteArray := prog_9_method_7_code
abbrev yX7_cameFrom : MethodName := ⟨"GuardsLookLeft$Thief", "cameFrom", "(IJ)I"⟩
abbrev RX8 : String := "GuardsLookLeft$Watch"
def TX8 : u_T := fun k => match k with
  | 0 => ("GuardsLookLeft$Watch", "palace", "LGuardsLookLeft$Palace;", true)
  | 1 => ("GuardsLookLeft$Watch", "guards", "LGuardsLookLeft$Guards;", true)
  | 2 => ("GuardsLookLeft$Watch", "texts", "LGuardsLookLeft$Texts;", true)
  | 3 => ("GuardsLookLeft$Watch", "stale", "Z", false)
  | 4 => ("GuardsLookLeft$Watch", "seen", "[J", true)
  | 5 => ("GuardsLookLeft$Watch", "supposed", "[J", true)
  | 6 => ("GuardsLookLeft$Watch", "seenBy", "[[J", true)
  | 7 => ("GuardsLookLeft$Watch", "touched", "[J", true)
  | _ => ("GuardsLookLeft$Watch", "trail", "J", false)
def tyX8 : Nat → FieldType := fun k => match k with
  | 0 => .object "GuardsLookLeft$Palace"
  | 1 => .object "GuardsLookLeft$Guards"
  | 2 => .object "GuardsLookLeft$Texts"
  | 3 => .boolean
  | 4 => .array .long
  | 5 => .array .long
  | 6 => .array (.array .long)
  | 7 => .array .long
  | _ => .long
theorem nmX8 : ∀ a, a < 9 → ∀ b, b < 9 → a ≠ b → (TX8 a).2.1 ≠ (TX8 b).2.1 := by decide +kernel
theorem tyX8_ok : ∀ k, k < 9 → parseFieldDescriptor (TX8 k).2.2.1 = some (tyX8 k) := by decide +kernel
theorem inX8 : ∀ w ∈ u_ws RX8 TX8 9, w ∈ WS := by
  intro w hw
  obtain ⟨k, hk, rfl⟩ := List.mem_map.mp hw
  have hk := List.mem_range.mp hk
  match k, hk with
  | 0, _ => exact wk_1_187
  | 1, _ => exact wk_1_189
  | 2, _ => exact wk_1_191
  | 3, _ => exact wk_1_193
  | 4, _ => exact wk_1_195
  | 5, _ => exact wk_1_197
  | 6, _ => exact wk_1_199
  | 7, _ => exact wk_1_201
  | 8, _ => exact wk_1_203
  | k + 9, hk => omega
abbrev cX8_init : ByteArray := prog_10_method_1_code
abbrev yX8_init : MethodName := ⟨"GuardsLookLeft$Watch", "<init>", "(LGuardsLookLeft$Palace;LGuardsLookLeft$Guards;LGuardsLookLeft$Texts;)V"⟩
abbrev cX8_sight : ByteArray := prog_10_method_2_code
abbrev yX8_sight : MethodName := ⟨"GuardsLookLeft$Watch", "sight", "(II)J"⟩
abbrev cX8_refresh : ByteArray := prog_10_method_3_code
abbrev yX8_refresh : MethodName := ⟨"GuardsLookLeft$Watch", "refresh", "()V"⟩
abbrev cX8_addKnown : ByteArray := prog_10_method_4_code
abbrev yX8_addKnown : MethodName := ⟨"GuardsLookLeft$Watch", "addKnown", "(I)V"⟩
abbrev cX8_addFound : ByteArray := prog_10_method_5_code
abbrev yX8_addFound : MethodName := ⟨"GuardsLookLeft$Watch", "addFound", "(I)V"⟩
abbrev cX8_supposeBribed : ByteArray := prog_10_method_6_code
abbrev yX8_supposeBribed : MethodName := ⟨"GuardsLookLeft$Watch", "supposeBribed", "(I)V"⟩
abbrev cX8_supposeLaid : ByteArray := prog_10_method_7_code
abbrev yX8_supposeLaid : MethodName := ⟨"GuardsLookLeft$Watch", "supposeLaid", "(II)Z"⟩
abbrev cX8_supposeAhead : ByteArray := prog_10_method_8_code
abbrev yX8_supposeAhead : MethodName := ⟨"GuardsLookLeft$Watch", "supposeAhead", "(II)V"⟩
abbrev cX8_supposeLaw : ByteArray := prog_10_method_9_code
abbrev yX8_supposeLaw : MethodName := ⟨"GuardsLookLeft$Watch", "supposeLaw", "(I)V"⟩
abbrev cX8_supposeLots : ByteArray := prog_10_method_10_code
abbrev yX8_supposeLots : MethodName := ⟨"GuardsLookLeft$Watch", "supposeLots", "(I)V"⟩
abbrev RX9 : String := "GuardsLookLeft"
def TX9 : u_T := fun k => match k with
  | 0 => ("GuardsLookLeft", "palace", "LGuardsLookLeft$Palace;", true)
  | 1 => ("GuardsLookLeft", "guards", "LGuardsLookLeft$Guards;", true)
  | 2 => ("GuardsLookLeft", "reader", "LGuardsLookLeft$Reader;", true)
  | 3 => ("GuardsLookLeft", "texts", "LGuardsLookLeft$Texts;", true)
  | 4 => ("GuardsLookLeft", "watch", "LGuardsLookLeft$Watch;", true)
  | 5 => ("GuardsLookLeft", "gaps", "LGuardsLookLeft$Gaps;", true)
  | 6 => ("GuardsLookLeft", "thief", "LGuardsLookLeft$Thief;", true)
  | 7 => ("GuardsLookLeft", "kept", "LGuardsLookLeft$Image;", true)
  | _ => ("GuardsLookLeft", "sheets", "[LGuardsLookLeft$Sheet;", true)
def tyX9 : Nat → FieldType := fun k => match k with
  | 0 => .object "GuardsLookLeft$Palace"
  | 1 => .object "GuardsLookLeft$Guards"
  | 2 => .object "GuardsLookLeft$Reader"
  | 3 => .object "GuardsLookLeft$Texts"
  | 4 => .object "GuardsLookLeft$Watch"
  | 5 => .object "GuardsLookLeft$Gaps"
  | 6 => .object "GuardsLookLeft$Thief"
  | 7 => .object "GuardsLookLeft$Image"
  | _ => .array (.object "GuardsLookLeft$Sheet")
theorem nmX9 : ∀ a, a < 9 → ∀ b, b < 9 → a ≠ b → (TX9 a).2.1 ≠ (TX9 b).2.1 := by decide +kernel
theorem tyX9_ok : ∀ k, k < 9 → parseFieldDescriptor (TX9 k).2.2.1 = some (tyX9 k) := by decide +kernel
theorem inX9 : ∀ w ∈ u_ws RX9 TX9 9, w ∈ WS := by
  intro w hw
  obtain ⟨k, hk, rfl⟩ := List.mem_map.mp hw
  have hk := List.mem_range.mp hk
  match k, hk with
  | 0, _ => exact wk_2_188
  | 1, _ => exact wk_2_190
  | 2, _ => exact wk_2_192
  | 3, _ => exact wk_2_194
  | 4, _ => exact wk_2_196
  | 5, _ => exact wk_2_198
  | 6, _ => exact wk_2_200
  | 7, _ => exact wk_2_202
  | 8, _ => exact wk_2_204
  | k + 9, hk => omega
abbrev cX9_init : ByteArray := prog_1_method_1_code
abbrev yX9_init : MethodName := ⟨"GuardsLookLeft", "<init>", "()V"⟩
abbrev cX9_isWithin : ByteArray := prog_1_method_2_code
abbrev yX9_isWithin : MethodName := ⟨"GuardsLookLeft", "isWithin", "(II)Z"⟩
abbrev cX9_isCell : ByteArray := prog_1_method_3_code
abbrev yX9_isCell : MethodName := ⟨"GuardsLookLeft", "isCell", "(I)Z"⟩
abbrev cX9_areCells : ByteArray := prog_1_method_4_code
abbrev yX9_areCells : MethodName := ⟨"GuardsLookLeft", "areCells", "(J)Z"⟩
abbrev cX9_isLayer : ByteArray := prog_1_method_5_code
abbrev yX9_isLayer : MethodName := ⟨"GuardsLookLeft", "isLayer", "(I)Z"⟩
abbrev cX9_isSecond : ByteArray := prog_1_method_6_code
abbrev yX9_isSecond : MethodName := ⟨"GuardsLookLeft", "isSecond", "(I)Z"⟩
abbrev cX9_isSheet : ByteArray := prog_1_method_7_code
abbrev yX9_isSheet : MethodName := ⟨"GuardsLookLeft", "isSheet", "(I)Z"⟩
abbrev cX9_isGuard : ByteArray := prog_1_method_8_code
abbrev yX9_isGuard : MethodName := ⟨"GuardsLookLeft", "isGuard", "(I)Z"⟩
abbrev cX9_isIn : ByteArray := prog_1_method_9_code
abbrev yX9_isIn : MethodName := ⟨"GuardsLookLeft", "isIn", "(JI)Z"⟩
abbrev cX9_leftOf : ByteArray := prog_1_method_10_code
abbrev yX9_leftOf : MethodName := ⟨"GuardsLookLeft", "leftOf", "(I)I"⟩
abbrev cX9_beside : ByteArray := prog_1_method_11_code
abbrev yX9_beside : MethodName := ⟨"GuardsLookLeft", "beside", "(II)I"⟩
abbrev cX9_lay : ByteArray := prog_1_method_12_code
abbrev yX9_lay : MethodName := ⟨"GuardsLookLeft", "lay", "(IJ)J"⟩
abbrev cX9_laid : ByteArray := prog_1_method_13_code
abbrev yX9_laid : MethodName := ⟨"GuardsLookLeft", "laid", "(I)J"⟩
abbrev cX9_put : ByteArray := prog_1_method_14_code
abbrev yX9_put : MethodName := ⟨"GuardsLookLeft", "put", "(III)I"⟩
abbrev cX9_count : ByteArray := prog_1_method_15_code
abbrev yX9_count : MethodName := ⟨"GuardsLookLeft", "count", "(I)I"⟩
abbrev cX9_feed : ByteArray := prog_1_method_16_code
abbrev yX9_feed : MethodName := ⟨"GuardsLookLeft", "feed", "(IIIIII)I"⟩
abbrev cX9_isByte : ByteArray := prog_1_method_17_code
abbrev yX9_isByte : MethodName := ⟨"GuardsLookLeft", "isByte", "(I)Z"⟩
abbrev cX9_text : ByteArray := prog_1_method_18_code
abbrev yX9_text : MethodName := ⟨"GuardsLookLeft", "text", "()I"⟩
abbrev cX9_force : ByteArray := prog_1_method_19_code
abbrev yX9_force : MethodName := ⟨"GuardsLookLeft", "force", "(I)I"⟩
abbrev cX9_asks : ByteArray := prog_1_method_20_code
abbrev yX9_asks : MethodName := ⟨"GuardsLookLeft", "asks", "(IIIII)I"⟩
abbrev cX9_guard : ByteArray := prog_1_method_21_code
abbrev yX9_guard : MethodName := ⟨"GuardsLookLeft", "guard", "(IIII)I"⟩
abbrev cX9_set : ByteArray := prog_1_method_22_code
abbrev yX9_set : MethodName := ⟨"GuardsLookLeft", "set", "(III)I"⟩
abbrev cX9_guardTold : ByteArray := prog_1_method_23_code
abbrev yX9_guardTold : MethodName := ⟨"GuardsLookLeft", "guardTold", "(II)I"⟩
abbrev cX9_at : ByteArray := prog_1_method_24_code
abbrev yX9_at : MethodName := ⟨"GuardsLookLeft", "at", "(III)I"⟩
abbrev cX9_sees : ByteArray := prog_1_method_25_code
abbrev yX9_sees : MethodName := ⟨"GuardsLookLeft", "sees", "(II)J"⟩
abbrev cX9_watched : ByteArray := prog_1_method_26_code
abbrev yX9_watched : MethodName := ⟨"GuardsLookLeft", "watched", "(I)J"⟩
abbrev cX9_alone : ByteArray := prog_1_method_27_code
abbrev yX9_alone : MethodName := ⟨"GuardsLookLeft", "alone", "(I)I"⟩
abbrev cX9_unseen : ByteArray := prog_1_method_28_code
abbrev yX9_unseen : MethodName := ⟨"GuardsLookLeft", "unseen", "(I)I"⟩
abbrev cX9_worst : ByteArray := prog_1_method_29_code
abbrev yX9_worst : MethodName := ⟨"GuardsLookLeft", "worst", "(I)I"⟩
abbrev cX9_seenNow : ByteArray := prog_1_method_30_code
abbrev yX9_seenNow : MethodName := ⟨"GuardsLookLeft", "seenNow", "()[J"⟩
abbrev cX9_firstOf : ByteArray := prog_1_method_31_code
abbrev yX9_firstOf : MethodName := ⟨"GuardsLookLeft", "firstOf", "(J)I"⟩
abbrev cX9_worthUnseen : ByteArray := prog_1_method_32_code
abbrev yX9_worthUnseen : MethodName := ⟨"GuardsLookLeft", "worthUnseen", "([J)I"⟩
abbrev cX9_soon : ByteArray := prog_1_method_33_code
abbrev yX9_soon : MethodName := ⟨"GuardsLookLeft", "soon", "(III)I"⟩
abbrev cX9_path : ByteArray := prog_1_method_34_code
abbrev yX9_path : MethodName := ⟨"GuardsLookLeft", "path", "(IIII)I"⟩
abbrev cX9_hides : ByteArray := prog_1_method_35_code
abbrev yX9_hides : MethodName := ⟨"GuardsLookLeft", "hides", "(III)J"⟩
abbrev cX9_when : ByteArray := prog_1_method_36_code
abbrev yX9_when : MethodName := ⟨"GuardsLookLeft", "when", "(II)I"⟩
abbrev cX9_more : ByteArray := prog_1_method_37_code
abbrev yX9_more : MethodName := ⟨"GuardsLookLeft", "more", "(III)I"⟩
abbrev cX9_shift : ByteArray := prog_1_method_38_code
abbrev yX9_shift : MethodName := ⟨"GuardsLookLeft", "shift", "(II)I"⟩
abbrev cX9_holds : ByteArray := prog_1_method_39_code
abbrev yX9_holds : MethodName := ⟨"GuardsLookLeft", "holds", "(JI)I"⟩
abbrev cX9_bribes : ByteArray := prog_1_method_40_code
abbrev yX9_bribes : MethodName := ⟨"GuardsLookLeft", "bribes", "(JI)I"⟩
abbrev cX9_fewest : ByteArray := prog_1_method_41_code
abbrev yX9_fewest : MethodName := ⟨"GuardsLookLeft", "fewest", "(JII)I"⟩
abbrev cX9_holdsWithout : ByteArray := prog_1_method_42_code
abbrev yX9_holdsWithout : MethodName := ⟨"GuardsLookLeft", "holdsWithout", "(IJI)Z"⟩
abbrev cX9_judge : ByteArray := prog_1_method_43_code
abbrev yX9_judge : MethodName := ⟨"GuardsLookLeft", "judge", "(II)I"⟩
abbrev cX9_which : ByteArray := prog_1_method_44_code
abbrev yX9_which : MethodName := ⟨"GuardsLookLeft", "which", "(I)J"⟩
abbrev cX9_laws : ByteArray := prog_1_method_45_code
abbrev yX9_laws : MethodName := ⟨"GuardsLookLeft", "laws", "(II)I"⟩
abbrev cX9_gone : ByteArray := prog_1_method_46_code
abbrev yX9_gone : MethodName := ⟨"GuardsLookLeft", "gone", "(II)I"⟩
abbrev cX9_film : ByteArray := prog_1_method_47_code
abbrev yX9_film : MethodName := ⟨"GuardsLookLeft", "film", "(II)I"⟩
abbrev cX9_refusalOfTold : ByteArray := prog_1_method_48_code
abbrev yX9_refusalOfTold : MethodName := ⟨"GuardsLookLeft", "refusalOfTold", "(II)I"⟩
abbrev cX9_drawn : ByteArray := prog_1_method_49_code
abbrev yX9_drawn : MethodName := ⟨"GuardsLookLeft", "drawn", "(I)I"⟩
abbrev cX9_mean : ByteArray := prog_1_method_50_code
abbrev yX9_mean : MethodName := ⟨"GuardsLookLeft", "mean", "(III)J"⟩
abbrev cX9_image : ByteArray := prog_1_method_51_code
abbrev yX9_image : MethodName := ⟨"GuardsLookLeft", "image", "()I"⟩
abbrev cX9_back : ByteArray := prog_1_method_52_code
abbrev yX9_back : MethodName := ⟨"GuardsLookLeft", "back", "()I"⟩
abbrev cX9_sheet : ByteArray := prog_1_method_53_code
abbrev yX9_sheet : MethodName := ⟨"GuardsLookLeft", "sheet", "(III)I"⟩
abbrev cX9_cell : ByteArray := prog_1_method_54_code
abbrev yX9_cell : MethodName := ⟨"GuardsLookLeft", "cell", "(III)I"⟩
abbrev cX9_copy : ByteArray := prog_1_method_55_code
abbrev yX9_copy : MethodName := ⟨"GuardsLookLeft", "copy", "(IIIII)I"⟩
abbrev cX9_guardsBy : ByteArray := prog_1_method_56_code
abbrev yX9_guardsBy : MethodName := ⟨"GuardsLookLeft", "guardsBy", "(IIII)I"⟩
abbrev cX9_taken : ByteArray := prog_1_method_57_code
abbrev yX9_taken : MethodName := ⟨"GuardsLookLeft", "taken", "(II)I"⟩
abbrev RX10 : String := "GuardsLookLeftModel"
def TX10 : u_T := fun k => match k with
  | 0 => ("GuardsLookLeftModel", "sets", "[J", true)
  | 1 => ("GuardsLookLeftModel", "guards", "I", false)
  | 2 => ("GuardsLookLeftModel", "kind", "[I", true)
  | 3 => ("GuardsLookLeftModel", "home", "[I", true)
  | 4 => ("GuardsLookLeftModel", "wayOf", "[I", true)
  | 5 => ("GuardsLookLeftModel", "lengthOf", "[I", true)
  | 6 => ("GuardsLookLeftModel", "moreOf", "[I", true)
  | 7 => ("GuardsLookLeftModel", "aheadOf", "[I", true)
  | 8 => ("GuardsLookLeftModel", "tape", "[I", true)
  | 9 => ("GuardsLookLeftModel", "taped", "I", false)
  | 10 => ("GuardsLookLeftModel", "codes", "[I", true)
  | 11 => ("GuardsLookLeftModel", "starts", "[I", true)
  | 12 => ("GuardsLookLeftModel", "texts", "I", false)
  | 13 => ("GuardsLookLeftModel", "rule", "I", false)
  | 14 => ("GuardsLookLeftModel", "hasImage", "Z", false)
  | 15 => ("GuardsLookLeftModel", "imageGuards", "I", false)
  | 16 => ("GuardsLookLeftModel", "imageRule", "I", false)
  | 17 => ("GuardsLookLeftModel", "imageSets", "[J", true)
  | 18 => ("GuardsLookLeftModel", "imageAhead", "[I", true)
  | 19 => ("GuardsLookLeftModel", "imageLong", "[I", true)
  | 20 => ("GuardsLookLeftModel", "sheetSort", "[I", true)
  | 21 => ("GuardsLookLeftModel", "sheetSize", "[I", true)
  | 22 => ("GuardsLookLeftModel", "cells", "[I", true)
  | 23 => ("GuardsLookLeftModel", "law", "[I", true)
  | 24 => ("GuardsLookLeftModel", "at", "I", false)
  | 25 => ("GuardsLookLeftModel", "begun", "I", false)
  | 26 => ("GuardsLookLeftModel", "token", "I", false)
  | 27 => ("GuardsLookLeftModel", "value", "I", false)
  | 28 => ("GuardsLookLeftModel", "words", "[I", true)
  | 29 => ("GuardsLookLeftModel", "held", "[I", true)
  | 30 => ("GuardsLookLeftModel", "heldMany", "I", false)
  | 31 => ("GuardsLookLeftModel", "opens", "I", false)
  | 32 => ("GuardsLookLeftModel", "out", "I", false)
  | 33 => ("GuardsLookLeftModel", "stack", "[I", true)
  | 34 => ("GuardsLookLeftModel", "named", "[I", true)
  | 35 => ("GuardsLookLeftModel", "through", "[J", true)
  | 36 => ("GuardsLookLeftModel", "worstCell", "I", false)
  | 37 => ("GuardsLookLeftModel", "worstGap", "I", false)
  | 38 => ("GuardsLookLeftModel", "wholeGaps", "I", false)
  | 39 => ("GuardsLookLeftModel", "reached", "[J", true)
  | _ => ("GuardsLookLeftModel", "keptAhead", "[I", true)
def tyX10 : Nat → FieldType := fun k => match k with
  | 0 => .array .long
  | 1 => .int
  | 2 => .array .int
  | 3 => .array .int
  | 4 => .array .int
  | 5 => .array .int
  | 6 => .array .int
  | 7 => .array .int
  | 8 => .array .int
  | 9 => .int
  | 10 => .array .int
  | 11 => .array .int
  | 12 => .int
  | 13 => .int
  | 14 => .boolean
  | 15 => .int
  | 16 => .int
  | 17 => .array .long
  | 18 => .array .int
  | 19 => .array .int
  | 20 => .array .int
  | 21 => .array .int
  | 22 => .array .int
  | 23 => .array .int
  | 24 => .int
  | 25 => .int
  | 26 => .int
  | 27 => .int
  | 28 => .array .int
  | 29 => .array .int
  | 30 => .int
  | 31 => .int
  | 32 => .int
  | 33 => .array .int
  | 34 => .array .int
  | 35 => .array .long
  | 36 => .int
  | 37 => .int
  | 38 => .int
  | 39 => .array .long
  | _ => .array .int
theorem nmX10 : ∀ a, a < 41 → ∀ b, b < 41 → a ≠ b → (TX10 a).2.1 ≠ (TX10 b).2.1 := by decide +kernel
theorem tyX10_ok : ∀ k, k < 41 → parseFieldDescriptor (TX10 k).2.2.1 = some (tyX10 k) := by decide +kernel
theorem inX10 : ∀ w ∈ u_ws RX10 TX10 41, w ∈ WS := by
  intro w hw
  obtain ⟨k, hk, rfl⟩ := List.mem_map.mp hw
  have hk := List.mem_range.mp hk
  match k, hk with
  | 0, _ => exact wk_4_238
  | 1, _ => exact wk_5_0
  | 2, _ => exact wk_5_2
  | 3, _ => exact wk_5_4
  | 4, _ => exact wk_5_6
  | 5, _ => exact wk_5_8
  | 6, _ => exact wk_5_10
  | 7, _ => exact wk_5_12
  | 8, _ => exact wk_5_14
  | 9, _ => exact wk_5_16
  | 10, _ => exact wk_5_18
  | 11, _ => exact wk_5_20
  | 12, _ => exact wk_5_22
  | 13, _ => exact wk_5_24
  | 14, _ => exact wk_5_26
  | 15, _ => exact wk_5_28
  | 16, _ => exact wk_5_30
  | 17, _ => exact wk_5_32
  | 18, _ => exact wk_5_34
  | 19, _ => exact wk_5_36
  | 20, _ => exact wk_5_38
  | 21, _ => exact wk_5_40
  | 22, _ => exact wk_5_42
  | 23, _ => exact wk_5_44
  | 24, _ => exact wk_5_46
  | 25, _ => exact wk_5_48
  | 26, _ => exact wk_5_50
  | 27, _ => exact wk_5_52
  | 28, _ => exact wk_5_54
  | 29, _ => exact wk_5_56
  | 30, _ => exact wk_5_58
  | 31, _ => exact wk_5_60
  | 32, _ => exact wk_5_62
  | 33, _ => exact wk_5_64
  | 34, _ => exact wk_5_66
  | 35, _ => exact wk_5_68
  | 36, _ => exact wk_5_70
  | 37, _ => exact wk_5_72
  | 38, _ => exact wk_5_74
  | 39, _ => exact wk_5_76
  | 40, _ => exact wk_5_78
  | k + 41, hk => omega
abbrev cX10_init : ByteArray := prog_12_method_1_code
abbrev yX10_init : MethodName := ⟨"GuardsLookLeftModel", "<init>", "()V"⟩
abbrev cX10_in : ByteArray := prog_12_method_3_code
abbrev yX10_in : MethodName := ⟨"GuardsLookLeftModel", "in", "(III)Z"⟩
abbrev cX10_within : ByteArray := prog_12_method_4_code
abbrev yX10_within : MethodName := ⟨"GuardsLookLeftModel", "within", "(III)I"⟩
abbrev cX10_isCell : ByteArray := prog_12_method_5_code
abbrev yX10_isCell : MethodName := ⟨"GuardsLookLeftModel", "isCell", "(I)Z"⟩
abbrev cX10_isSecond : ByteArray := prog_12_method_6_code
abbrev yX10_isSecond : MethodName := ⟨"GuardsLookLeftModel", "isSecond", "(I)Z"⟩
abbrev cX10_areCells : ByteArray := prog_12_method_7_code
abbrev yX10_areCells : MethodName := ⟨"GuardsLookLeftModel", "areCells", "(J)Z"⟩
abbrev cX10_isGuard : ByteArray := prog_12_method_8_code
abbrev yX10_isGuard : MethodName := ⟨"GuardsLookLeftModel", "isGuard", "(I)Z"⟩
abbrev cX10_has : ByteArray := prog_12_method_9_code
abbrev yX10_has : MethodName := ⟨"GuardsLookLeftModel", "has", "(JI)Z"⟩
abbrev cX10_bitsOf : ByteArray := prog_12_method_10_code
abbrev yX10_bitsOf : MethodName := ⟨"GuardsLookLeftModel", "bitsOf", "(J)I"⟩
abbrev cX10_lay : ByteArray := prog_12_method_11_code
abbrev yX10_lay : MethodName := ⟨"GuardsLookLeftModel", "lay", "(IJ)J"⟩
abbrev cX10_laid : ByteArray := prog_12_method_12_code
abbrev yX10_laid : MethodName := ⟨"GuardsLookLeftModel", "laid", "(I)J"⟩
abbrev cX10_put : ByteArray := prog_12_method_13_code
abbrev yX10_put : MethodName := ⟨"GuardsLookLeftModel", "put", "(III)I"⟩
abbrev cX10_count : ByteArray := prog_12_method_14_code
abbrev yX10_count : MethodName := ⟨"GuardsLookLeftModel", "count", "(I)I"⟩
abbrev cX10_isByte : ByteArray := prog_12_method_15_code
abbrev yX10_isByte : MethodName := ⟨"GuardsLookLeftModel", "isByte", "(I)Z"⟩
abbrev cX10_feed : ByteArray := prog_12_method_16_code
abbrev yX10_feed : MethodName := ⟨"GuardsLookLeftModel", "feed", "(IIIIII)I"⟩
abbrev cX10_wordFrom : ByteArray := prog_12_method_17_code
abbrev yX10_wordFrom : MethodName := ⟨"GuardsLookLeftModel", "wordFrom", "(II)I"⟩
abbrev cX10_next : ByteArray := prog_12_method_18_code
abbrev yX10_next : MethodName := ⟨"GuardsLookLeftModel", "next", "()V"⟩
abbrev cX10_rank : ByteArray := prog_12_method_19_code
abbrev yX10_rank : MethodName := ⟨"GuardsLookLeftModel", "rank", "(I)I"⟩
abbrev cX10_puts : ByteArray := prog_12_method_20_code
abbrev yX10_puts : MethodName := ⟨"GuardsLookLeftModel", "puts", "(I)V"⟩
abbrev cX10_unwinds : ByteArray := prog_12_method_21_code
abbrev yX10_unwinds : MethodName := ⟨"GuardsLookLeftModel", "unwinds", "(I)V"⟩
abbrev cX10_holds : ByteArray := prog_12_method_22_code
abbrev yX10_holds : MethodName := ⟨"GuardsLookLeftModel", "holds", "(I)V"⟩
abbrev cX10_opensOne : ByteArray := prog_12_method_23_code
abbrev yX10_opensOne : MethodName := ⟨"GuardsLookLeftModel", "opensOne", "(I)Z"⟩
abbrev cX10_between : ByteArray := prog_12_method_24_code
abbrev yX10_between : MethodName := ⟨"GuardsLookLeftModel", "between", "(I)Z"⟩
abbrev cX10_signOf : ByteArray := prog_12_method_25_code
abbrev yX10_signOf : MethodName := ⟨"GuardsLookLeftModel", "signOf", "()I"⟩
abbrev cX10_eRead : ByteArray := prog_12_method_26_code
abbrev yX10_eRead : MethodName := ⟨"GuardsLookLeftModel", "eRead", "()Z"⟩
abbrev cX10_text : ByteArray := prog_12_method_27_code
abbrev yX10_text : MethodName := ⟨"GuardsLookLeftModel", "text", "()I"⟩
abbrev cX10_two : ByteArray := prog_12_method_28_code
abbrev yX10_two : MethodName := ⟨"GuardsLookLeftModel", "two", "(III)I"⟩
abbrev cX10_worth : ByteArray := prog_12_method_29_code
abbrev yX10_worth : MethodName := ⟨"GuardsLookLeftModel", "worth", "(I)I"⟩
abbrev cX10_force : ByteArray := prog_12_method_30_code
abbrev yX10_force : MethodName := ⟨"GuardsLookLeftModel", "force", "(I)I"⟩
abbrev cX10_asksOf : ByteArray := prog_12_method_31_code
abbrev yX10_asksOf : MethodName := ⟨"GuardsLookLeftModel", "asksOf", "(IIIIIII)I"⟩
abbrev cX10_asks : ByteArray := prog_12_method_32_code
abbrev yX10_asks : MethodName := ⟨"GuardsLookLeftModel", "asks", "(IIIII)I"⟩
abbrev cX10_guard : ByteArray := prog_12_method_33_code
abbrev yX10_guard : MethodName := ⟨"GuardsLookLeftModel", "guard", "(IIII)I"⟩
abbrev cX10_set : ByteArray := prog_12_method_34_code
abbrev yX10_set : MethodName := ⟨"GuardsLookLeftModel", "set", "(III)I"⟩
abbrev cX10_guardTold : ByteArray := prog_12_method_35_code
abbrev yX10_guardTold : MethodName := ⟨"GuardsLookLeftModel", "guardTold", "(II)I"⟩
abbrev cX10_beside : ByteArray := prog_12_method_36_code
abbrev yX10_beside : MethodName := ⟨"GuardsLookLeftModel", "beside", "(II)I"⟩
abbrev cX10_own : ByteArray := prog_12_method_37_code
abbrev yX10_own : MethodName := ⟨"GuardsLookLeftModel", "own", "(II)I"⟩
abbrev cX10_steps : ByteArray := prog_12_method_38_code
abbrev yX10_steps : MethodName := ⟨"GuardsLookLeftModel", "steps", "(II)I"⟩
abbrev cX10_looks : ByteArray := prog_12_method_39_code
abbrev yX10_looks : MethodName := ⟨"GuardsLookLeftModel", "looks", "(II)Z"⟩
abbrev cX10_beat : ByteArray := prog_12_method_40_code
abbrev yX10_beat : MethodName := ⟨"GuardsLookLeftModel", "beat", "(I)I"⟩
abbrev cX10_walked : ByteArray := prog_12_method_41_code
abbrev yX10_walked : MethodName := ⟨"GuardsLookLeftModel", "walked", "(II)I"⟩
abbrev cX10_stands : ByteArray := prog_12_method_42_code
abbrev yX10_stands : MethodName := ⟨"GuardsLookLeftModel", "stands", "(II)I"⟩
abbrev cX10_turned : ByteArray := prog_12_method_43_code
abbrev yX10_turned : MethodName := ⟨"GuardsLookLeftModel", "turned", "(II)I"⟩
abbrev cX10_at : ByteArray := prog_12_method_44_code
abbrev yX10_at : MethodName := ⟨"GuardsLookLeftModel", "at", "(III)I"⟩
abbrev cX10_lit : ByteArray := prog_12_method_45_code
abbrev yX10_lit : MethodName := ⟨"GuardsLookLeftModel", "lit", "(I)I"⟩
abbrev cX10_seenBy : ByteArray := prog_12_method_46_code
abbrev yX10_seenBy : MethodName := ⟨"GuardsLookLeftModel", "seenBy", "(II)J"⟩
abbrev cX10_watches : ByteArray := prog_12_method_47_code
abbrev yX10_watches : MethodName := ⟨"GuardsLookLeftModel", "watches", "(I)V"⟩
abbrev cX10_watchesAll : ByteArray := prog_12_method_48_code
abbrev yX10_watchesAll : MethodName := ⟨"GuardsLookLeftModel", "watchesAll", "()V"⟩
abbrev cX10_seenAt : ByteArray := prog_12_method_49_code
abbrev yX10_seenAt : MethodName := ⟨"GuardsLookLeftModel", "seenAt", "(II)J"⟩
abbrev cX10_allGuards : ByteArray := prog_12_method_50_code
abbrev yX10_allGuards : MethodName := ⟨"GuardsLookLeftModel", "allGuards", "()I"⟩
abbrev cX10_sees : ByteArray := prog_12_method_51_code
abbrev yX10_sees : MethodName := ⟨"GuardsLookLeftModel", "sees", "(II)J"⟩
abbrev cX10_watched : ByteArray := prog_12_method_52_code
abbrev yX10_watched : MethodName := ⟨"GuardsLookLeftModel", "watched", "(I)J"⟩
abbrev cX10_aloneBy : ByteArray := prog_12_method_53_code
abbrev yX10_aloneBy : MethodName := ⟨"GuardsLookLeftModel", "aloneBy", "(II)I"⟩
abbrev cX10_gapOf : ByteArray := prog_12_method_54_code
abbrev yX10_gapOf : MethodName := ⟨"GuardsLookLeftModel", "gapOf", "(I)I"⟩
abbrev cX10_alone : ByteArray := prog_12_method_55_code
abbrev yX10_alone : MethodName := ⟨"GuardsLookLeftModel", "alone", "(I)I"⟩
abbrev cX10_unseen : ByteArray := prog_12_method_56_code
abbrev yX10_unseen : MethodName := ⟨"GuardsLookLeftModel", "unseen", "(I)I"⟩
abbrev cX10_findsGaps : ByteArray := prog_12_method_57_code
abbrev yX10_findsGaps : MethodName := ⟨"GuardsLookLeftModel", "findsGaps", "()V"⟩
abbrev cX10_worthUnseen : ByteArray := prog_12_method_58_code
abbrev yX10_worthUnseen : MethodName := ⟨"GuardsLookLeftModel", "worthUnseen", "()I"⟩
abbrev cX10_worst : ByteArray := prog_12_method_59_code
abbrev yX10_worst : MethodName := ⟨"GuardsLookLeftModel", "worst", "(I)I"⟩
abbrev cX10_spread : ByteArray := prog_12_method_60_code
abbrev yX10_spread : MethodName := ⟨"GuardsLookLeftModel", "spread", "(J)J"⟩
abbrev cX10_sneaks : ByteArray := prog_12_method_61_code
abbrev yX10_sneaks : MethodName := ⟨"GuardsLookLeftModel", "sneaks", "(II)V"⟩
abbrev cX10_soonest : ByteArray := prog_12_method_62_code
abbrev yX10_soonest : MethodName := ⟨"GuardsLookLeftModel", "soonest", "(I)I"⟩
abbrev cX10_soon : ByteArray := prog_12_method_63_code
abbrev yX10_soon : MethodName := ⟨"GuardsLookLeftModel", "soon", "(III)I"⟩
abbrev cX10_was : ByteArray := prog_12_method_64_code
abbrev yX10_was : MethodName := ⟨"GuardsLookLeftModel", "was", "(II)I"⟩
abbrev cX10_path : ByteArray := prog_12_method_65_code
abbrev yX10_path : MethodName := ⟨"GuardsLookLeftModel", "path", "(IIII)I"⟩
abbrev cX10_hides : ByteArray := prog_12_method_66_code
abbrev yX10_hides : MethodName := ⟨"GuardsLookLeftModel", "hides", "(III)J"⟩
abbrev cX10_whenFrom : ByteArray := prog_12_method_67_code
abbrev yX10_whenFrom : MethodName := ⟨"GuardsLookLeftModel", "whenFrom", "(II)I"⟩
abbrev cX10_when : ByteArray := prog_12_method_68_code
abbrev yX10_when : MethodName := ⟨"GuardsLookLeftModel", "when", "(II)I"⟩
abbrev cX10_more : ByteArray := prog_12_method_69_code
abbrev yX10_more : MethodName := ⟨"GuardsLookLeftModel", "more", "(III)I"⟩
abbrev cX10_shift : ByteArray := prog_12_method_70_code
abbrev yX10_shift : MethodName := ⟨"GuardsLookLeftModel", "shift", "(II)I"⟩
abbrev cX10_holdsBy : ByteArray := prog_12_method_71_code
abbrev yX10_holdsBy : MethodName := ⟨"GuardsLookLeftModel", "holdsBy", "(JII)Z"⟩
abbrev cX10_holds_ : ByteArray := prog_12_method_72_code
abbrev yX10_holds_ : MethodName := ⟨"GuardsLookLeftModel", "holds", "(JI)I"⟩
abbrev cX10_bribes : ByteArray := prog_12_method_73_code
abbrev yX10_bribes : MethodName := ⟨"GuardsLookLeftModel", "bribes", "(JI)I"⟩
abbrev cX10_fewest : ByteArray := prog_12_method_74_code
abbrev yX10_fewest : MethodName := ⟨"GuardsLookLeftModel", "fewest", "(JII)I"⟩
abbrev cX10_sheetWrong : ByteArray := prog_12_method_75_code
abbrev yX10_sheetWrong : MethodName := ⟨"GuardsLookLeftModel", "sheetWrong", "(II)I"⟩
abbrev cX10_unlike : ByteArray := prog_12_method_76_code
abbrev yX10_unlike : MethodName := ⟨"GuardsLookLeftModel", "unlike", "(III)I"⟩
abbrev cX10_judge : ByteArray := prog_12_method_77_code
abbrev yX10_judge : MethodName := ⟨"GuardsLookLeftModel", "judge", "(II)I"⟩
abbrev cX10_which : ByteArray := prog_12_method_78_code
abbrev yX10_which : MethodName := ⟨"GuardsLookLeftModel", "which", "(I)J"⟩
abbrev cX10_laws : ByteArray := prog_12_method_79_code
abbrev yX10_laws : MethodName := ⟨"GuardsLookLeftModel", "laws", "(II)I"⟩
abbrev cX10_gone : ByteArray := prog_12_method_80_code
abbrev yX10_gone : MethodName := ⟨"GuardsLookLeftModel", "gone", "(II)I"⟩
abbrev cX10_film : ByteArray := prog_12_method_81_code
abbrev yX10_film : MethodName := ⟨"GuardsLookLeftModel", "film", "(II)I"⟩
abbrev cX10_worstBy : ByteArray := prog_12_method_82_code
abbrev yX10_worstBy : MethodName := ⟨"GuardsLookLeftModel", "worstBy", "(I)I"⟩
abbrev cX10_isSeed : ByteArray := prog_12_method_83_code
abbrev yX10_isSeed : MethodName := ⟨"GuardsLookLeftModel", "isSeed", "(I)Z"⟩
abbrev cX10_drawn : ByteArray := prog_12_method_84_code
abbrev yX10_drawn : MethodName := ⟨"GuardsLookLeftModel", "drawn", "(I)I"⟩
abbrev cX10_lowest : ByteArray := prog_12_method_85_code
abbrev yX10_lowest : MethodName := ⟨"GuardsLookLeftModel", "lowest", "(JJI)J"⟩
abbrev cX10_mean : ByteArray := prog_12_method_86_code
abbrev yX10_mean : MethodName := ⟨"GuardsLookLeftModel", "mean", "(III)J"⟩
abbrev cX10_image : ByteArray := prog_12_method_87_code
abbrev yX10_image : MethodName := ⟨"GuardsLookLeftModel", "image", "()I"⟩
abbrev cX10_back : ByteArray := prog_12_method_88_code
abbrev yX10_back : MethodName := ⟨"GuardsLookLeftModel", "back", "()I"⟩
abbrev cX10_sheet : ByteArray := prog_12_method_89_code
abbrev yX10_sheet : MethodName := ⟨"GuardsLookLeftModel", "sheet", "(III)I"⟩
abbrev cX10_cell : ByteArray := prog_12_method_90_code
abbrev yX10_cell : MethodName := ⟨"GuardsLookLeftModel", "cell", "(III)I"⟩
abbrev cX10_copy : ByteArray := prog_12_method_91_code
abbrev yX10_copy : MethodName := ⟨"GuardsLookLeftModel", "copy", "(IIIII)I"⟩
abbrev cX10_guardsBy : ByteArray := prog_12_method_92_code
abbrev yX10_guardsBy : MethodName := ⟨"GuardsLookLeftModel", "guardsBy", "(IIII)I"⟩
abbrev cX10_isUnder : ByteArray := prog_12_method_93_code
abbrev yX10_isUnder : MethodName := ⟨"GuardsLookLeftModel", "isUnder", "(II)Z"⟩
abbrev cX10_taken : ByteArray := prog_12_method_94_code
abbrev yX10_taken : MethodName := ⟨"GuardsLookLeftModel", "taken", "(II)I"⟩
abbrev RJ0 : String := "java/lang/String"
abbrev cJ0_length_8abf5 : ByteArray := prog_16_method_54_code
abbrev yJ0_length_8abf5 : MethodName := ⟨"java/lang/String", "length", "()I"⟩
abbrev cJ0_charAt_5068e : ByteArray := prog_16_method_56_code
abbrev yJ0_charAt_5068e : MethodName := ⟨"java/lang/String", "charAt", "(I)C"⟩
abbrev cJ0_coder_7d493 : ByteArray := prog_16_method_152_code
abbrev yJ0_coder_7d493 : MethodName := ⟨"java/lang/String", "coder", "()B"⟩
abbrev cJ0_isLatin1_aae02 : ByteArray := prog_16_method_154_code
abbrev yJ0_isLatin1_aae02 : MethodName := ⟨"java/lang/String", "isLatin1", "()Z"⟩
abbrev cJ0_checkIndex_df160 : ByteArray := prog_16_method_155_code
abbrev yJ0_checkIndex_df160 : MethodName := ⟨"java/lang/String", "checkIndex", "(II)V"⟩
abbrev RJ1 : String := "java/lang/StringLatin1"
abbrev cJ1_charAt_3b067 : ByteArray := prog_17_method_2_code
abbrev yJ1_charAt_3b067 : MethodName := ⟨"java/lang/StringLatin1", "charAt", "([BI)C"⟩
abbrev RJ2 : String := "java/lang/StringUTF16"
abbrev cJ2_getChar_3b067 : ByteArray := prog_18_method_5_code
abbrev yJ2_getChar_3b067 : MethodName := ⟨"java/lang/StringUTF16", "getChar", "([BI)C"⟩
abbrev cJ2_length_9d52b : ByteArray := prog_18_method_6_code
abbrev yJ2_length_9d52b : MethodName := ⟨"java/lang/StringUTF16", "length", "([B)I"⟩
abbrev cJ2_charAt_3b067 : ByteArray := prog_18_method_83_code
abbrev yJ2_charAt_3b067 : MethodName := ⟨"java/lang/StringUTF16", "charAt", "([BI)C"⟩
abbrev cJ2_checkIndex_2214a : ByteArray := prog_18_method_91_code
abbrev yJ2_checkIndex_2214a : MethodName := ⟨"java/lang/StringUTF16", "checkIndex", "(I[B)V"⟩
abbrev RJ3 : String := "jdk/internal/util/Preconditions"
abbrev cJ3_checkIndex_8e157 : ByteArray := prog_21_method_11_code
abbrev yJ3_checkIndex_8e157 : MethodName := ⟨"jdk/internal/util/Preconditions", "checkIndex", "(IILjava/util/function/BiFunction;)I"⟩
abbrev RJ6 : String := "java/lang/Integer"
abbrev cJ6_bitCount_0f7a4 : ByteArray := prog_13_method_49_code
abbrev yJ6_bitCount_0f7a4 : MethodName := ⟨"java/lang/Integer", "bitCount", "(I)I"⟩
abbrev RJ7 : String := "java/util/Arrays"
abbrev cJ7_rangeCheck_23922 : ByteArray := prog_20_method_30_code
abbrev yJ7_rangeCheck_23922 : MethodName := ⟨"java/util/Arrays", "rangeCheck", "(III)V"⟩
abbrev cJ7_fill_d0a16 : ByteArray := prog_20_method_101_code
abbrev yJ7_fill_d0a16 : MethodName := ⟨"java/util/Arrays", "fill", "([JJ)V"⟩
abbrev cJ7_fill_bad5a : ByteArray := prog_20_method_102_code
abbrev yJ7_fill_bad5a : MethodName := ⟨"java/util/Arrays", "fill", "([JIIJ)V"⟩
abbrev cJ7_fill_53178 : ByteArray := prog_20_method_103_code
abbrev yJ7_fill_53178 : MethodName := ⟨"java/util/Arrays", "fill", "([II)V"⟩
abbrev RJ9 : String := "java/lang/Math"
abbrev cJ9_max_7cf53 : ByteArray := prog_15_method_65_code
abbrev yJ9_max_7cf53 : MethodName := ⟨"java/lang/Math", "max", "(II)I"⟩
abbrev cJ9_min_7cf53 : ByteArray := prog_15_method_69_code
abbrev yJ9_min_7cf53 : MethodName := ⟨"java/lang/Math", "min", "(II)I"⟩
abbrev RJ10 : String := "java/lang/System"
abbrev RJ13 : String := "java/lang/Long"
abbrev cJ13_bitCount_95d88 : ByteArray := prog_14_method_50_code
abbrev yJ13_bitCount_95d88 : MethodName := ⟨"java/lang/Long", "bitCount", "(J)I"⟩
abbrev vwCl : List vw_C := [(RX0, TX0, 2), (RX1, TX1, 10), (RX2, TX2, 6), (RX3, TX3, 1), (RX4, TX4, 9), (RX5, TX5, 3), (RX6, TX6, 6), (RX7, TX7, 1), (RX8, TX8, 9), (RX9, TX9, 9), (RX10, TX10, 41)]
theorem dX0_init_0 : decode cX0_init 0 = .ok (.aload_n 0, 1) := by decide +kernel
theorem dX0_init_1 : decode cX0_init 1 = .ok (.invokespecial 3, 3) := by decide +kernel
theorem dX0_init_4 : decode cX0_init 4 = .ok (.aload_n 0, 1) := by decide +kernel
theorem dX0_init_5 : decode cX0_init 5 = .ok (.bipush 24, 2) := by decide +kernel
theorem dX0_init_7 : decode cX0_init 7 = .ok (.newarray .long, 2) := by decide +kernel
theorem dX0_init_9 : decode cX0_init 9 = .ok (.putfield 9, 3) := by decide +kernel
theorem dX0_init_12 : decode cX0_init 12 = .ok (.return_, 1) := by decide +kernel
theorem dX0_greatest_0 : decode cX0_greatest 0 = .ok (.aload_n 0, 1) := by decide +kernel
theorem dX0_greatest_1 : decode cX0_greatest 1 = .ok (.lload_n 2, 1) := by decide +kernel
theorem dX0_greatest_2 : decode cX0_greatest 2 = .ok (.putfield 15, 3) := by decide +kernel
theorem dX0_greatest_5 : decode cX0_greatest 5 = .ok (.iconst 0, 1) := by decide +kernel
theorem dX0_greatest_6 : decode cX0_greatest 6 = .ok (.istore 4, 2) := by decide +kernel
theorem dX0_greatest_8 : decode cX0_greatest 8 = .ok (.iload 4, 2) := by decide +kernel
theorem dX0_greatest_10 : decode cX0_greatest 10 = .ok (.bipush 24, 2) := by decide +kernel
theorem dX0_greatest_12 : decode cX0_greatest 12 = .ok (.if_icmp .ge 26, 3) := by decide +kernel
theorem dX0_greatest_15 : decode cX0_greatest 15 = .ok (.aload_n 0, 1) := by decide +kernel
theorem dX0_greatest_16 : decode cX0_greatest 16 = .ok (.getfield 9, 3) := by decide +kernel
theorem dX0_greatest_19 : decode cX0_greatest 19 = .ok (.iload 4, 2) := by decide +kernel
theorem dX0_greatest_21 : decode cX0_greatest 21 = .ok (.lload_n 2, 1) := by decide +kernel
theorem dX0_greatest_22 : decode cX0_greatest 22 = .ok (.aload_n 1, 1) := by decide +kernel
theorem dX0_greatest_23 : decode cX0_greatest 23 = .ok (.iload 4, 2) := by decide +kernel
theorem dX0_greatest_25 : decode cX0_greatest 25 = .ok (.laload, 1) := by decide +kernel
theorem dX0_greatest_26 : decode cX0_greatest 26 = .ok (.ldc2_w 19, 3) := by decide +kernel
theorem dX0_greatest_29 : decode cX0_greatest 29 = .ok (.lxor, 1) := by decide +kernel
theorem dX0_greatest_30 : decode cX0_greatest 30 = .ok (.land, 1) := by decide +kernel
theorem dX0_greatest_31 : decode cX0_greatest 31 = .ok (.lastore, 1) := by decide +kernel
theorem dX0_greatest_32 : decode cX0_greatest 32 = .ok (.iinc 4 1, 3) := by decide +kernel
theorem dX0_greatest_35 : decode cX0_greatest 35 = .ok (.goto (-27), 3) := by decide +kernel
theorem dX0_greatest_38 : decode cX0_greatest 38 = .ok (.iconst 0, 1) := by decide +kernel
theorem dX0_greatest_39 : decode cX0_greatest 39 = .ok (.istore 4, 2) := by decide +kernel
theorem dX0_greatest_41 : decode cX0_greatest 41 = .ok (.iload 4, 2) := by decide +kernel
theorem dX0_greatest_43 : decode cX0_greatest 43 = .ok (.bipush 24, 2) := by decide +kernel
theorem dX0_greatest_45 : decode cX0_greatest 45 = .ok (.if_icmp .ge 82, 3) := by decide +kernel
theorem dX0_greatest_48 : decode cX0_greatest 48 = .ok (.lconst 0, 1) := by decide +kernel
theorem dX0_greatest_49 : decode cX0_greatest 49 = .ok (.lstore 5, 2) := by decide +kernel
theorem dX0_greatest_51 : decode cX0_greatest 51 = .ok (.iconst 0, 1) := by decide +kernel
theorem dX0_greatest_52 : decode cX0_greatest 52 = .ok (.istore 7, 2) := by decide +kernel
theorem dX0_greatest_54 : decode cX0_greatest 54 = .ok (.iload 7, 2) := by decide +kernel
theorem dX0_greatest_56 : decode cX0_greatest 56 = .ok (.bipush 24, 2) := by decide +kernel
theorem dX0_greatest_58 : decode cX0_greatest 58 = .ok (.if_icmp .ge 47, 3) := by decide +kernel
theorem dX0_greatest_61 : decode cX0_greatest 61 = .ok (.lload 5, 2) := by decide +kernel
theorem dX0_greatest_63 : decode cX0_greatest 63 = .ok (.aload_n 0, 1) := by decide +kernel
theorem dX0_greatest_64 : decode cX0_greatest 64 = .ok (.getfield 9, 3) := by decide +kernel
theorem dX0_greatest_67 : decode cX0_greatest 67 = .ok (.iload 7, 2) := by decide +kernel
theorem dX0_greatest_69 : decode cX0_greatest 69 = .ok (.laload, 1) := by decide +kernel
theorem dX0_greatest_70 : decode cX0_greatest 70 = .ok (.lor, 1) := by decide +kernel
theorem dX0_greatest_71 : decode cX0_greatest 71 = .ok (.lstore 5, 2) := by decide +kernel
theorem dX0_greatest_73 : decode cX0_greatest 73 = .ok (.aload_n 0, 1) := by decide +kernel
theorem dX0_greatest_74 : decode cX0_greatest 74 = .ok (.getfield 9, 3) := by decide +kernel
theorem dX0_greatest_77 : decode cX0_greatest 77 = .ok (.iload 7, 2) := by decide +kernel
theorem dX0_greatest_79 : decode cX0_greatest 79 = .ok (.dup2, 1) := by decide +kernel
theorem dX0_greatest_80 : decode cX0_greatest 80 = .ok (.laload, 1) := by decide +kernel
theorem dX0_greatest_81 : decode cX0_greatest 81 = .ok (.aload_n 1, 1) := by decide +kernel
theorem dX0_greatest_82 : decode cX0_greatest 82 = .ok (.iload 7, 2) := by decide +kernel
theorem dX0_greatest_84 : decode cX0_greatest 84 = .ok (.iload 4, 2) := by decide +kernel
theorem dX0_greatest_86 : decode cX0_greatest 86 = .ok (.iadd, 1) := by decide +kernel
theorem dX0_greatest_87 : decode cX0_greatest 87 = .ok (.iconst 1, 1) := by decide +kernel
theorem dX0_greatest_88 : decode cX0_greatest 88 = .ok (.iadd, 1) := by decide +kernel
theorem dX0_greatest_89 : decode cX0_greatest 89 = .ok (.bipush 24, 2) := by decide +kernel
theorem dX0_greatest_91 : decode cX0_greatest 91 = .ok (.irem, 1) := by decide +kernel
theorem dX0_greatest_92 : decode cX0_greatest 92 = .ok (.laload, 1) := by decide +kernel
theorem dX0_greatest_93 : decode cX0_greatest 93 = .ok (.ldc2_w 19, 3) := by decide +kernel
theorem dX0_greatest_96 : decode cX0_greatest 96 = .ok (.lxor, 1) := by decide +kernel
theorem dX0_greatest_97 : decode cX0_greatest 97 = .ok (.land, 1) := by decide +kernel
theorem dX0_greatest_98 : decode cX0_greatest 98 = .ok (.lastore, 1) := by decide +kernel
theorem dX0_greatest_99 : decode cX0_greatest 99 = .ok (.iinc 7 1, 3) := by decide +kernel
theorem dX0_greatest_102 : decode cX0_greatest 102 = .ok (.goto (-48), 3) := by decide +kernel
theorem dX0_greatest_105 : decode cX0_greatest 105 = .ok (.lload 5, 2) := by decide +kernel
theorem dX0_greatest_107 : decode cX0_greatest 107 = .ok (.lconst 0, 1) := by decide +kernel
theorem dX0_greatest_108 : decode cX0_greatest 108 = .ok (.lcmp, 1) := by decide +kernel
theorem dX0_greatest_109 : decode cX0_greatest 109 = .ok (.ifCond .ne 6, 3) := by decide +kernel
theorem dX0_greatest_112 : decode cX0_greatest 112 = .ok (.iload 4, 2) := by decide +kernel
theorem dX0_greatest_114 : decode cX0_greatest 114 = .ok (.ireturn, 1) := by decide +kernel
theorem dX0_greatest_115 : decode cX0_greatest 115 = .ok (.aload_n 0, 1) := by decide +kernel
theorem dX0_greatest_116 : decode cX0_greatest 116 = .ok (.lload 5, 2) := by decide +kernel
theorem dX0_greatest_118 : decode cX0_greatest 118 = .ok (.putfield 15, 3) := by decide +kernel
theorem dX0_greatest_121 : decode cX0_greatest 121 = .ok (.iinc 4 1, 3) := by decide +kernel
theorem dX0_greatest_124 : decode cX0_greatest 124 = .ok (.goto (-83), 3) := by decide +kernel
theorem dX0_greatest_127 : decode cX0_greatest 127 = .ok (.bipush 24, 2) := by decide +kernel
theorem dX0_greatest_129 : decode cX0_greatest 129 = .ok (.ireturn, 1) := by decide +kernel
theorem dX1_init_0 : decode cX1_init 0 = .ok (.aload_n 0, 1) := by decide +kernel
theorem dX1_init_1 : decode cX1_init 1 = .ok (.invokespecial 3, 3) := by decide +kernel
theorem dX1_init_4 : decode cX1_init 4 = .ok (.aload_n 0, 1) := by decide +kernel
theorem dX1_init_5 : decode cX1_init 5 = .ok (.iconst 5, 1) := by decide +kernel
theorem dX1_init_6 : decode cX1_init 6 = .ok (.newarray .int, 2) := by decide +kernel
theorem dX1_init_8 : decode cX1_init 8 = .ok (.putfield 9, 3) := by decide +kernel
theorem dX1_init_11 : decode cX1_init 11 = .ok (.aload_n 0, 1) := by decide +kernel
theorem dX1_init_12 : decode cX1_init 12 = .ok (.iconst 5, 1) := by decide +kernel
theorem dX1_init_13 : decode cX1_init 13 = .ok (.newarray .int, 2) := by decide +kernel
theorem dX1_init_15 : decode cX1_init 15 = .ok (.putfield 15, 3) := by decide +kernel
theorem dX1_init_18 : decode cX1_init 18 = .ok (.aload_n 0, 1) := by decide +kernel
theorem dX1_init_19 : decode cX1_init 19 = .ok (.iconst 5, 1) := by decide +kernel
theorem dX1_init_20 : decode cX1_init 20 = .ok (.newarray .int, 2) := by decide +kernel
theorem dX1_init_22 : decode cX1_init 22 = .ok (.putfield 18, 3) := by decide +kernel
theorem dX1_init_25 : decode cX1_init 25 = .ok (.aload_n 0, 1) := by decide +kernel
theorem dX1_init_26 : decode cX1_init 26 = .ok (.iconst 5, 1) := by decide +kernel
theorem dX1_init_27 : decode cX1_init 27 = .ok (.newarray .int, 2) := by decide +kernel
theorem dX1_init_29 : decode cX1_init 29 = .ok (.putfield 21, 3) := by decide +kernel
theorem dX1_init_32 : decode cX1_init 32 = .ok (.aload_n 0, 1) := by decide +kernel
theorem dX1_init_33 : decode cX1_init 33 = .ok (.iconst 5, 1) := by decide +kernel
theorem dX1_init_34 : decode cX1_init 34 = .ok (.newarray .int, 2) := by decide +kernel
theorem dX1_init_36 : decode cX1_init 36 = .ok (.putfield 24, 3) := by decide +kernel
theorem dX1_init_39 : decode cX1_init 39 = .ok (.aload_n 0, 1) := by decide +kernel
theorem dX1_init_40 : decode cX1_init 40 = .ok (.iconst 5, 1) := by decide +kernel
theorem dX1_init_41 : decode cX1_init 41 = .ok (.newarray .int, 2) := by decide +kernel
theorem dX1_init_43 : decode cX1_init 43 = .ok (.putfield 27, 3) := by decide +kernel
theorem dX1_init_46 : decode cX1_init 46 = .ok (.return_, 1) := by decide +kernel
theorem dX1_add_0 : decode cX1_add 0 = .ok (.aload_n 0, 1) := by decide +kernel
theorem dX1_add_1 : decode cX1_add 1 = .ok (.getfield 30, 3) := by decide +kernel
theorem dX1_add_4 : decode cX1_add 4 = .ok (.iconst 5, 1) := by decide +kernel
theorem dX1_add_5 : decode cX1_add 5 = .ok (.if_icmp .lt 6, 3) := by decide +kernel
theorem dX1_add_8 : decode cX1_add 8 = .ok (.bipush (-4), 2) := by decide +kernel
theorem dX1_add_10 : decode cX1_add 10 = .ok (.ireturn, 1) := by decide +kernel
theorem dX1_add_11 : decode cX1_add 11 = .ok (.aload_n 0, 1) := by decide +kernel
theorem dX1_add_12 : decode cX1_add 12 = .ok (.getfield 9, 3) := by decide +kernel
theorem dX1_add_15 : decode cX1_add 15 = .ok (.aload_n 0, 1) := by decide +kernel
theorem dX1_add_16 : decode cX1_add 16 = .ok (.getfield 30, 3) := by decide +kernel
theorem dX1_add_19 : decode cX1_add 19 = .ok (.iload_n 1, 1) := by decide +kernel
theorem dX1_add_20 : decode cX1_add 20 = .ok (.iastore, 1) := by decide +kernel
theorem dX1_add_21 : decode cX1_add 21 = .ok (.aload_n 0, 1) := by decide +kernel
theorem dX1_add_22 : decode cX1_add 22 = .ok (.getfield 15, 3) := by decide +kernel
theorem dX1_add_25 : decode cX1_add 25 = .ok (.aload_n 0, 1) := by decide +kernel
theorem dX1_add_26 : decode cX1_add 26 = .ok (.getfield 30, 3) := by decide +kernel
theorem dX1_add_29 : decode cX1_add 29 = .ok (.iload_n 2, 1) := by decide +kernel
theorem dX1_add_30 : decode cX1_add 30 = .ok (.iastore, 1) := by decide +kernel
theorem dX1_add_31 : decode cX1_add 31 = .ok (.aload_n 0, 1) := by decide +kernel
theorem dX1_add_32 : decode cX1_add 32 = .ok (.getfield 18, 3) := by decide +kernel
theorem dX1_add_35 : decode cX1_add 35 = .ok (.aload_n 0, 1) := by decide +kernel
theorem dX1_add_36 : decode cX1_add 36 = .ok (.getfield 30, 3) := by decide +kernel
theorem dX1_add_39 : decode cX1_add 39 = .ok (.iload_n 3, 1) := by decide +kernel
theorem dX1_add_40 : decode cX1_add 40 = .ok (.iastore, 1) := by decide +kernel
theorem dX1_add_41 : decode cX1_add 41 = .ok (.aload_n 0, 1) := by decide +kernel
theorem dX1_add_42 : decode cX1_add 42 = .ok (.getfield 21, 3) := by decide +kernel
theorem dX1_add_45 : decode cX1_add 45 = .ok (.aload_n 0, 1) := by decide +kernel
theorem dX1_add_46 : decode cX1_add 46 = .ok (.getfield 30, 3) := by decide +kernel
theorem dX1_add_49 : decode cX1_add 49 = .ok (.iload 5, 2) := by decide +kernel
theorem dX1_add_51 : decode cX1_add 51 = .ok (.iastore, 1) := by decide +kernel
theorem dX1_add_52 : decode cX1_add 52 = .ok (.aload_n 0, 1) := by decide +kernel
theorem dX1_add_53 : decode cX1_add 53 = .ok (.getfield 24, 3) := by decide +kernel
theorem dX1_add_56 : decode cX1_add 56 = .ok (.aload_n 0, 1) := by decide +kernel
theorem dX1_add_57 : decode cX1_add 57 = .ok (.getfield 30, 3) := by decide +kernel
theorem dX1_add_60 : decode cX1_add 60 = .ok (.iload 4, 2) := by decide +kernel
theorem dX1_add_62 : decode cX1_add 62 = .ok (.iastore, 1) := by decide +kernel
theorem dX1_add_63 : decode cX1_add 63 = .ok (.aload_n 0, 1) := by decide +kernel
theorem dX1_add_64 : decode cX1_add 64 = .ok (.getfield 27, 3) := by decide +kernel
theorem dX1_add_67 : decode cX1_add 67 = .ok (.aload_n 0, 1) := by decide +kernel
theorem dX1_add_68 : decode cX1_add 68 = .ok (.getfield 30, 3) := by decide +kernel
theorem dX1_add_71 : decode cX1_add 71 = .ok (.iconst 0, 1) := by decide +kernel
theorem dX1_add_72 : decode cX1_add 72 = .ok (.iastore, 1) := by decide +kernel
theorem dX1_add_73 : decode cX1_add 73 = .ok (.aload_n 0, 1) := by decide +kernel
theorem dX1_add_74 : decode cX1_add 74 = .ok (.dup, 1) := by decide +kernel
theorem dX1_add_75 : decode cX1_add 75 = .ok (.getfield 30, 3) := by decide +kernel
theorem dX1_add_78 : decode cX1_add 78 = .ok (.dup_x1, 1) := by decide +kernel
theorem dX1_add_79 : decode cX1_add 79 = .ok (.iconst 1, 1) := by decide +kernel
theorem dX1_add_80 : decode cX1_add 80 = .ok (.iadd, 1) := by decide +kernel
theorem dX1_add_81 : decode cX1_add 81 = .ok (.putfield 30, 3) := by decide +kernel
theorem dX1_add_84 : decode cX1_add 84 = .ok (.ireturn, 1) := by decide +kernel
theorem dX1_isOf_0 : decode cX1_isOf 0 = .ok (.iload_n 2, 1) := by decide +kernel
theorem dX1_isOf_1 : decode cX1_isOf 1 = .ok (.ifCond .eq 27, 3) := by decide +kernel
theorem dX1_isOf_4 : decode cX1_isOf 4 = .ok (.iload_n 2, 1) := by decide +kernel
theorem dX1_isOf_5 : decode cX1_isOf 5 = .ok (.aload_n 0, 1) := by decide +kernel
theorem dX1_isOf_6 : decode cX1_isOf 6 = .ok (.getfield 9, 3) := by decide +kernel
theorem dX1_isOf_9 : decode cX1_isOf 9 = .ok (.iload_n 1, 1) := by decide +kernel
theorem dX1_isOf_10 : decode cX1_isOf 10 = .ok (.iaload, 1) := by decide +kernel
theorem dX1_isOf_11 : decode cX1_isOf 11 = .ok (.if_icmp .eq 17, 3) := by decide +kernel
theorem dX1_isOf_14 : decode cX1_isOf 14 = .ok (.iload_n 2, 1) := by decide +kernel
theorem dX1_isOf_15 : decode cX1_isOf 15 = .ok (.getstatic 34, 3) := by decide +kernel
theorem dX1_isOf_18 : decode cX1_isOf 18 = .ok (.aload_n 0, 1) := by decide +kernel
theorem dX1_isOf_19 : decode cX1_isOf 19 = .ok (.getfield 9, 3) := by decide +kernel
theorem dX1_isOf_22 : decode cX1_isOf 22 = .ok (.iload_n 1, 1) := by decide +kernel
theorem dX1_isOf_23 : decode cX1_isOf 23 = .ok (.iaload, 1) := by decide +kernel
theorem dX1_isOf_24 : decode cX1_isOf 24 = .ok (.iaload, 1) := by decide +kernel
theorem dX1_isOf_25 : decode cX1_isOf 25 = .ok (.if_icmp .ne 7, 3) := by decide +kernel
theorem dX1_isOf_28 : decode cX1_isOf 28 = .ok (.iconst 1, 1) := by decide +kernel
theorem dX1_isOf_29 : decode cX1_isOf 29 = .ok (.goto 4, 3) := by decide +kernel
theorem dX1_isOf_32 : decode cX1_isOf 32 = .ok (.iconst 0, 1) := by decide +kernel
theorem dX1_isOf_33 : decode cX1_isOf 33 = .ok (.ireturn, 1) := by decide +kernel
theorem dX1_walk_0 : decode cX1_walk 0 = .ok (.iload_n 2, 1) := by decide +kernel
theorem dX1_walk_1 : decode cX1_walk 1 = .ok (.aload_n 0, 1) := by decide +kernel
theorem dX1_walk_2 : decode cX1_walk 2 = .ok (.getfield 27, 3) := by decide +kernel
theorem dX1_walk_5 : decode cX1_walk 5 = .ok (.iload_n 1, 1) := by decide +kernel
theorem dX1_walk_6 : decode cX1_walk 6 = .ok (.iaload, 1) := by decide +kernel
theorem dX1_walk_7 : decode cX1_walk 7 = .ok (.iadd, 1) := by decide +kernel
theorem dX1_walk_8 : decode cX1_walk 8 = .ok (.bipush 24, 2) := by decide +kernel
theorem dX1_walk_10 : decode cX1_walk 10 = .ok (.irem, 1) := by decide +kernel
theorem dX1_walk_11 : decode cX1_walk 11 = .ok (.istore 5, 2) := by decide +kernel
theorem dX1_walk_13 : decode cX1_walk 13 = .ok (.aload_n 0, 1) := by decide +kernel
theorem dX1_walk_14 : decode cX1_walk 14 = .ok (.iload_n 1, 1) := by decide +kernel
theorem dX1_walk_15 : decode cX1_walk 15 = .ok (.lload_n 3, 1) := by decide +kernel
theorem dX1_walk_16 : decode cX1_walk 16 = .ok (.invokevirtual 37, 3) := by decide +kernel
theorem dX1_walk_19 : decode cX1_walk 19 = .ok (.istore 6, 2) := by decide +kernel
theorem dX1_walk_21 : decode cX1_walk 21 = .ok (.iload 6, 2) := by decide +kernel
theorem dX1_walk_23 : decode cX1_walk 23 = .ok (.ifCond .le 22, 3) := by decide +kernel
theorem dX1_walk_26 : decode cX1_walk 26 = .ok (.aload_n 0, 1) := by decide +kernel
theorem dX1_walk_27 : decode cX1_walk 27 = .ok (.getfield 9, 3) := by decide +kernel
theorem dX1_walk_30 : decode cX1_walk 30 = .ok (.iload_n 1, 1) := by decide +kernel
theorem dX1_walk_31 : decode cX1_walk 31 = .ok (.iaload, 1) := by decide +kernel
theorem dX1_walk_32 : decode cX1_walk 32 = .ok (.iload 5, 2) := by decide +kernel
theorem dX1_walk_34 : decode cX1_walk 34 = .ok (.invokestatic 41, 3) := by decide +kernel
theorem dX1_walk_37 : decode cX1_walk 37 = .ok (.iconst 2, 1) := by decide +kernel
theorem dX1_walk_38 : decode cX1_walk 38 = .ok (.iload 6, 2) := by decide +kernel
theorem dX1_walk_40 : decode cX1_walk 40 = .ok (.imul, 1) := by decide +kernel
theorem dX1_walk_41 : decode cX1_walk 41 = .ok (.irem, 1) := by decide +kernel
theorem dX1_walk_42 : decode cX1_walk 42 = .ok (.goto 4, 3) := by decide +kernel
theorem dX1_walk_45 : decode cX1_walk 45 = .ok (.iconst 0, 1) := by decide +kernel
theorem dX1_walk_46 : decode cX1_walk 46 = .ok (.istore 7, 2) := by decide +kernel
theorem dX1_walk_48 : decode cX1_walk 48 = .ok (.iload 7, 2) := by decide +kernel
theorem dX1_walk_50 : decode cX1_walk 50 = .ok (.iload 6, 2) := by decide +kernel
theorem dX1_walk_52 : decode cX1_walk 52 = .ok (.if_icmp .gt 8, 3) := by decide +kernel
theorem dX1_walk_55 : decode cX1_walk 55 = .ok (.iload 7, 2) := by decide +kernel
theorem dX1_walk_57 : decode cX1_walk 57 = .ok (.goto 10, 3) := by decide +kernel
theorem dX1_walk_60 : decode cX1_walk 60 = .ok (.iconst 2, 1) := by decide +kernel
theorem dX1_walk_61 : decode cX1_walk 61 = .ok (.iload 6, 2) := by decide +kernel
theorem dX1_walk_63 : decode cX1_walk 63 = .ok (.imul, 1) := by decide +kernel
theorem dX1_walk_64 : decode cX1_walk 64 = .ok (.iload 7, 2) := by decide +kernel
theorem dX1_walk_66 : decode cX1_walk 66 = .ok (.isub, 1) := by decide +kernel
theorem dX1_walk_67 : decode cX1_walk 67 = .ok (.istore 8, 2) := by decide +kernel
theorem dX1_walk_69 : decode cX1_walk 69 = .ok (.aload_n 0, 1) := by decide +kernel
theorem dX1_walk_70 : decode cX1_walk 70 = .ok (.aload_n 0, 1) := by decide +kernel
theorem dX1_walk_71 : decode cX1_walk 71 = .ok (.getfield 15, 3) := by decide +kernel
theorem dX1_walk_74 : decode cX1_walk 74 = .ok (.iload_n 1, 1) := by decide +kernel
theorem dX1_walk_75 : decode cX1_walk 75 = .ok (.iaload, 1) := by decide +kernel
theorem dX1_walk_76 : decode cX1_walk 76 = .ok (.iload 8, 2) := by decide +kernel
theorem dX1_walk_78 : decode cX1_walk 78 = .ok (.getstatic 45, 3) := by decide +kernel
theorem dX1_walk_81 : decode cX1_walk 81 = .ok (.aload_n 0, 1) := by decide +kernel
theorem dX1_walk_82 : decode cX1_walk 82 = .ok (.getfield 18, 3) := by decide +kernel
theorem dX1_walk_85 : decode cX1_walk 85 = .ok (.iload_n 1, 1) := by decide +kernel
theorem dX1_walk_86 : decode cX1_walk 86 = .ok (.iaload, 1) := by decide +kernel
theorem dX1_walk_87 : decode cX1_walk 87 = .ok (.iaload, 1) := by decide +kernel
theorem dX1_walk_88 : decode cX1_walk 88 = .ok (.imul, 1) := by decide +kernel
theorem dX1_walk_89 : decode cX1_walk 89 = .ok (.iadd, 1) := by decide +kernel
theorem dX1_walk_90 : decode cX1_walk 90 = .ok (.putfield 48, 3) := by decide +kernel
theorem dX1_walk_93 : decode cX1_walk 93 = .ok (.aload_n 0, 1) := by decide +kernel
theorem dX1_walk_94 : decode cX1_walk 94 = .ok (.iload 6, 2) := by decide +kernel
theorem dX1_walk_96 : decode cX1_walk 96 = .ok (.ifCond .le 23, 3) := by decide +kernel
theorem dX1_walk_99 : decode cX1_walk 99 = .ok (.iload 7, 2) := by decide +kernel
theorem dX1_walk_101 : decode cX1_walk 101 = .ok (.iload 6, 2) := by decide +kernel
theorem dX1_walk_103 : decode cX1_walk 103 = .ok (.if_icmp .lt 16, 3) := by decide +kernel
theorem dX1_walk_106 : decode cX1_walk 106 = .ok (.aload_n 0, 1) := by decide +kernel
theorem dX1_walk_107 : decode cX1_walk 107 = .ok (.getfield 18, 3) := by decide +kernel
theorem dX1_walk_110 : decode cX1_walk 110 = .ok (.iload_n 1, 1) := by decide +kernel
theorem dX1_walk_111 : decode cX1_walk 111 = .ok (.iaload, 1) := by decide +kernel
theorem dX1_walk_112 : decode cX1_walk 112 = .ok (.iconst 2, 1) := by decide +kernel
theorem dX1_walk_113 : decode cX1_walk 113 = .ok (.iadd, 1) := by decide +kernel
theorem dX1_walk_114 : decode cX1_walk 114 = .ok (.iconst 4, 1) := by decide +kernel
theorem dX1_walk_115 : decode cX1_walk 115 = .ok (.irem, 1) := by decide +kernel
theorem dX1_walk_116 : decode cX1_walk 116 = .ok (.goto 9, 3) := by decide +kernel
theorem dX1_walk_119 : decode cX1_walk 119 = .ok (.aload_n 0, 1) := by decide +kernel
theorem dX1_walk_120 : decode cX1_walk 120 = .ok (.getfield 18, 3) := by decide +kernel
theorem dX1_walk_123 : decode cX1_walk 123 = .ok (.iload_n 1, 1) := by decide +kernel
theorem dX1_walk_124 : decode cX1_walk 124 = .ok (.iaload, 1) := by decide +kernel
theorem dX1_walk_125 : decode cX1_walk 125 = .ok (.putfield 51, 3) := by decide +kernel
theorem dX1_walk_128 : decode cX1_walk 128 = .ok (.aload_n 0, 1) := by decide +kernel
theorem dX1_walk_129 : decode cX1_walk 129 = .ok (.getfield 9, 3) := by decide +kernel
theorem dX1_walk_132 : decode cX1_walk 132 = .ok (.iload_n 1, 1) := by decide +kernel
theorem dX1_walk_133 : decode cX1_walk 133 = .ok (.iaload, 1) := by decide +kernel
theorem dX1_walk_134 : decode cX1_walk 134 = .ok (.iconst 3, 1) := by decide +kernel
theorem dX1_walk_135 : decode cX1_walk 135 = .ok (.if_icmp .ne 27, 3) := by decide +kernel
theorem dX1_walk_138 : decode cX1_walk 138 = .ok (.aload_n 0, 1) := by decide +kernel
theorem dX1_walk_139 : decode cX1_walk 139 = .ok (.aload_n 0, 1) := by decide +kernel
theorem dX1_walk_140 : decode cX1_walk 140 = .ok (.getfield 51, 3) := by decide +kernel
theorem dX1_walk_143 : decode cX1_walk 143 = .ok (.iconst 3, 1) := by decide +kernel
theorem dX1_walk_144 : decode cX1_walk 144 = .ok (.iload 5, 2) := by decide +kernel
theorem dX1_walk_146 : decode cX1_walk 146 = .ok (.aload_n 0, 1) := by decide +kernel
theorem dX1_walk_147 : decode cX1_walk 147 = .ok (.getfield 21, 3) := by decide +kernel
theorem dX1_walk_150 : decode cX1_walk 150 = .ok (.iload_n 1, 1) := by decide +kernel
theorem dX1_walk_151 : decode cX1_walk 151 = .ok (.iaload, 1) := by decide +kernel
theorem dX1_walk_152 : decode cX1_walk 152 = .ok (.iconst 1, 1) := by decide +kernel
theorem dX1_walk_153 : decode cX1_walk 153 = .ok (.iadd, 1) := by decide +kernel
theorem dX1_walk_154 : decode cX1_walk 154 = .ok (.idiv, 1) := by decide +kernel
theorem dX1_walk_155 : decode cX1_walk 155 = .ok (.imul, 1) := by decide +kernel
theorem dX1_walk_156 : decode cX1_walk 156 = .ok (.iadd, 1) := by decide +kernel
theorem dX1_walk_157 : decode cX1_walk 157 = .ok (.iconst 4, 1) := by decide +kernel
theorem dX1_walk_158 : decode cX1_walk 158 = .ok (.irem, 1) := by decide +kernel
theorem dX1_walk_159 : decode cX1_walk 159 = .ok (.putfield 51, 3) := by decide +kernel
theorem dX1_walk_162 : decode cX1_walk 162 = .ok (.aload_n 0, 1) := by decide +kernel
theorem dX1_walk_163 : decode cX1_walk 163 = .ok (.aload_n 0, 1) := by decide +kernel
theorem dX1_walk_164 : decode cX1_walk 164 = .ok (.iload_n 1, 1) := by decide +kernel
theorem dX1_walk_165 : decode cX1_walk 165 = .ok (.iload 5, 2) := by decide +kernel
theorem dX1_walk_167 : decode cX1_walk 167 = .ok (.invokevirtual 54, 3) := by decide +kernel
theorem dX1_walk_170 : decode cX1_walk 170 = .ok (.putfield 58, 3) := by decide +kernel
theorem dX1_walk_173 : decode cX1_walk 173 = .ok (.return_, 1) := by decide +kernel
theorem dX1_beat_0 : decode cX1_beat 0 = .ok (.aload_n 0, 1) := by decide +kernel
theorem dX1_beat_1 : decode cX1_beat 1 = .ok (.getfield 15, 3) := by decide +kernel
theorem dX1_beat_4 : decode cX1_beat 4 = .ok (.iload_n 1, 1) := by decide +kernel
theorem dX1_beat_5 : decode cX1_beat 5 = .ok (.iaload, 1) := by decide +kernel
theorem dX1_beat_6 : decode cX1_beat 6 = .ok (.istore 4, 2) := by decide +kernel
theorem dX1_beat_8 : decode cX1_beat 8 = .ok (.iconst 0, 1) := by decide +kernel
theorem dX1_beat_9 : decode cX1_beat 9 = .ok (.istore 5, 2) := by decide +kernel
theorem dX1_beat_11 : decode cX1_beat 11 = .ok (.iload 5, 2) := by decide +kernel
theorem dX1_beat_13 : decode cX1_beat 13 = .ok (.aload_n 0, 1) := by decide +kernel
theorem dX1_beat_14 : decode cX1_beat 14 = .ok (.getfield 24, 3) := by decide +kernel
theorem dX1_beat_17 : decode cX1_beat 17 = .ok (.iload_n 1, 1) := by decide +kernel
theorem dX1_beat_18 : decode cX1_beat 18 = .ok (.iaload, 1) := by decide +kernel
theorem dX1_beat_19 : decode cX1_beat 19 = .ok (.if_icmp .ge 40, 3) := by decide +kernel
theorem dX1_beat_22 : decode cX1_beat 22 = .ok (.iload 4, 2) := by decide +kernel
theorem dX1_beat_24 : decode cX1_beat 24 = .ok (.aload_n 0, 1) := by decide +kernel
theorem dX1_beat_25 : decode cX1_beat 25 = .ok (.getfield 18, 3) := by decide +kernel
theorem dX1_beat_28 : decode cX1_beat 28 = .ok (.iload_n 1, 1) := by decide +kernel
theorem dX1_beat_29 : decode cX1_beat 29 = .ok (.iaload, 1) := by decide +kernel
theorem dX1_beat_30 : decode cX1_beat 30 = .ok (.invokestatic 62, 3) := by decide +kernel
theorem dX1_beat_33 : decode cX1_beat 33 = .ok (.istore 4, 2) := by decide +kernel
theorem dX1_beat_35 : decode cX1_beat 35 = .ok (.iload 4, 2) := by decide +kernel
theorem dX1_beat_37 : decode cX1_beat 37 = .ok (.iconst (-1), 1) := by decide +kernel
theorem dX1_beat_38 : decode cX1_beat 38 = .ok (.if_icmp .eq 12, 3) := by decide +kernel
theorem dX1_beat_41 : decode cX1_beat 41 = .ok (.lload_n 2, 1) := by decide +kernel
theorem dX1_beat_42 : decode cX1_beat 42 = .ok (.iload 4, 2) := by decide +kernel
theorem dX1_beat_44 : decode cX1_beat 44 = .ok (.invokestatic 65, 3) := by decide +kernel
theorem dX1_beat_47 : decode cX1_beat 47 = .ok (.ifCond .eq 6, 3) := by decide +kernel
theorem dX1_beat_50 : decode cX1_beat 50 = .ok (.iload 5, 2) := by decide +kernel
theorem dX1_beat_52 : decode cX1_beat 52 = .ok (.ireturn, 1) := by decide +kernel
theorem dX1_beat_53 : decode cX1_beat 53 = .ok (.iinc 5 1, 3) := by decide +kernel
theorem dX1_beat_56 : decode cX1_beat 56 = .ok (.goto (-45), 3) := by decide +kernel
theorem dX1_beat_59 : decode cX1_beat 59 = .ok (.aload_n 0, 1) := by decide +kernel
theorem dX1_beat_60 : decode cX1_beat 60 = .ok (.getfield 24, 3) := by decide +kernel
theorem dX1_beat_63 : decode cX1_beat 63 = .ok (.iload_n 1, 1) := by decide +kernel
theorem dX1_beat_64 : decode cX1_beat 64 = .ok (.iaload, 1) := by decide +kernel
theorem dX1_beat_65 : decode cX1_beat 65 = .ok (.ireturn, 1) := by decide +kernel
theorem dX1_steps_0 : decode cX1_steps 0 = .ok (.iload_n 0, 1) := by decide +kernel
theorem dX1_steps_1 : decode cX1_steps 1 = .ok (.tableswitch 45 1 5 #[35, 37, 35, 37, 41], 35) := by decide +kernel
theorem dX1_steps_36 : decode cX1_steps 36 = .ok (.iconst 0, 1) := by decide +kernel
theorem dX1_steps_37 : decode cX1_steps 37 = .ok (.ireturn, 1) := by decide +kernel
theorem dX1_steps_38 : decode cX1_steps 38 = .ok (.iload_n 1, 1) := by decide +kernel
theorem dX1_steps_39 : decode cX1_steps 39 = .ok (.iconst 2, 1) := by decide +kernel
theorem dX1_steps_40 : decode cX1_steps 40 = .ok (.idiv, 1) := by decide +kernel
theorem dX1_steps_41 : decode cX1_steps 41 = .ok (.ireturn, 1) := by decide +kernel
theorem dX1_steps_42 : decode cX1_steps 42 = .ok (.iload_n 1, 1) := by decide +kernel
theorem dX1_steps_43 : decode cX1_steps 43 = .ok (.iconst 2, 1) := by decide +kernel
theorem dX1_steps_44 : decode cX1_steps 44 = .ok (.imul, 1) := by decide +kernel
theorem dX1_steps_45 : decode cX1_steps 45 = .ok (.ireturn, 1) := by decide +kernel
theorem dX1_steps_46 : decode cX1_steps 46 = .ok (.iload_n 1, 1) := by decide +kernel
theorem dX1_steps_47 : decode cX1_steps 47 = .ok (.ireturn, 1) := by decide +kernel
theorem dX1_isLooking_0 : decode cX1_isLooking 0 = .ok (.aload_n 0, 1) := by decide +kernel
theorem dX1_isLooking_1 : decode cX1_isLooking 1 = .ok (.getfield 9, 3) := by decide +kernel
theorem dX1_isLooking_4 : decode cX1_isLooking 4 = .ok (.iload_n 1, 1) := by decide +kernel
theorem dX1_isLooking_5 : decode cX1_isLooking 5 = .ok (.iaload, 1) := by decide +kernel
theorem dX1_isLooking_6 : decode cX1_isLooking 6 = .ok (.lookupswitch 61 #[(4, 26), (5, 45)], 26) := by decide +kernel
theorem dX1_isLooking_32 : decode cX1_isLooking 32 = .ok (.iload_n 2, 1) := by decide +kernel
theorem dX1_isLooking_33 : decode cX1_isLooking 33 = .ok (.aload_n 0, 1) := by decide +kernel
theorem dX1_isLooking_34 : decode cX1_isLooking 34 = .ok (.getfield 21, 3) := by decide +kernel
theorem dX1_isLooking_37 : decode cX1_isLooking 37 = .ok (.iload_n 1, 1) := by decide +kernel
theorem dX1_isLooking_38 : decode cX1_isLooking 38 = .ok (.iaload, 1) := by decide +kernel
theorem dX1_isLooking_39 : decode cX1_isLooking 39 = .ok (.iconst 2, 1) := by decide +kernel
theorem dX1_isLooking_40 : decode cX1_isLooking 40 = .ok (.iadd, 1) := by decide +kernel
theorem dX1_isLooking_41 : decode cX1_isLooking 41 = .ok (.irem, 1) := by decide +kernel
theorem dX1_isLooking_42 : decode cX1_isLooking 42 = .ok (.ifCond .eq 7, 3) := by decide +kernel
theorem dX1_isLooking_45 : decode cX1_isLooking 45 = .ok (.iconst 1, 1) := by decide +kernel
theorem dX1_isLooking_46 : decode cX1_isLooking 46 = .ok (.goto 4, 3) := by decide +kernel
theorem dX1_isLooking_49 : decode cX1_isLooking 49 = .ok (.iconst 0, 1) := by decide +kernel
theorem dX1_isLooking_50 : decode cX1_isLooking 50 = .ok (.ireturn, 1) := by decide +kernel
theorem dX1_isLooking_51 : decode cX1_isLooking 51 = .ok (.iload_n 2, 1) := by decide +kernel
theorem dX1_isLooking_52 : decode cX1_isLooking 52 = .ok (.aload_n 0, 1) := by decide +kernel
theorem dX1_isLooking_53 : decode cX1_isLooking 53 = .ok (.getfield 21, 3) := by decide +kernel
theorem dX1_isLooking_56 : decode cX1_isLooking 56 = .ok (.iload_n 1, 1) := by decide +kernel
theorem dX1_isLooking_57 : decode cX1_isLooking 57 = .ok (.iaload, 1) := by decide +kernel
theorem dX1_isLooking_58 : decode cX1_isLooking 58 = .ok (.if_icmp .lt 7, 3) := by decide +kernel
theorem dX1_isLooking_61 : decode cX1_isLooking 61 = .ok (.iconst 1, 1) := by decide +kernel
theorem dX1_isLooking_62 : decode cX1_isLooking 62 = .ok (.goto 4, 3) := by decide +kernel
theorem dX1_isLooking_65 : decode cX1_isLooking 65 = .ok (.iconst 0, 1) := by decide +kernel
theorem dX1_isLooking_66 : decode cX1_isLooking 66 = .ok (.ireturn, 1) := by decide +kernel
theorem dX1_isLooking_67 : decode cX1_isLooking 67 = .ok (.iconst 1, 1) := by decide +kernel
theorem dX1_isLooking_68 : decode cX1_isLooking 68 = .ok (.ireturn, 1) := by decide +kernel
theorem dX2_init_0 : decode cX2_init 0 = .ok (.aload_n 0, 1) := by decide +kernel
theorem dX2_init_1 : decode cX2_init 1 = .ok (.invokespecial 3, 3) := by decide +kernel
theorem dX2_init_4 : decode cX2_init 4 = .ok (.aload_n 0, 1) := by decide +kernel
theorem dX2_init_5 : decode cX2_init 5 = .ok (.iconst 3, 1) := by decide +kernel
theorem dX2_init_6 : decode cX2_init 6 = .ok (.newarray .long, 2) := by decide +kernel
theorem dX2_init_8 : decode cX2_init 8 = .ok (.putfield 9, 3) := by decide +kernel
theorem dX2_init_11 : decode cX2_init 11 = .ok (.aload_n 0, 1) := by decide +kernel
theorem dX2_init_12 : decode cX2_init 12 = .ok (.iconst 5, 1) := by decide +kernel
theorem dX2_init_13 : decode cX2_init 13 = .ok (.newarray .int, 2) := by decide +kernel
theorem dX2_init_15 : decode cX2_init 15 = .ok (.putfield 15, 3) := by decide +kernel
theorem dX2_init_18 : decode cX2_init 18 = .ok (.aload_n 0, 1) := by decide +kernel
theorem dX2_init_19 : decode cX2_init 19 = .ok (.iconst 5, 1) := by decide +kernel
theorem dX2_init_20 : decode cX2_init 20 = .ok (.newarray .int, 2) := by decide +kernel
theorem dX2_init_22 : decode cX2_init 22 = .ok (.putfield 19, 3) := by decide +kernel
theorem dX2_init_25 : decode cX2_init 25 = .ok (.return_, 1) := by decide +kernel
theorem dX2_take_0 : decode cX2_take 0 = .ok (.aload_n 0, 1) := by decide +kernel
theorem dX2_take_1 : decode cX2_take 1 = .ok (.iconst 1, 1) := by decide +kernel
theorem dX2_take_2 : decode cX2_take 2 = .ok (.putfield 22, 3) := by decide +kernel
theorem dX2_take_5 : decode cX2_take 5 = .ok (.aload_n 0, 1) := by decide +kernel
theorem dX2_take_6 : decode cX2_take 6 = .ok (.iload_n 3, 1) := by decide +kernel
theorem dX2_take_7 : decode cX2_take 7 = .ok (.putfield 26, 3) := by decide +kernel
theorem dX2_take_10 : decode cX2_take 10 = .ok (.aload_n 0, 1) := by decide +kernel
theorem dX2_take_11 : decode cX2_take 11 = .ok (.aload_n 2, 1) := by decide +kernel
theorem dX2_take_12 : decode cX2_take 12 = .ok (.getfield 30, 3) := by decide +kernel
theorem dX2_take_15 : decode cX2_take 15 = .ok (.putfield 35, 3) := by decide +kernel
theorem dX2_take_18 : decode cX2_take 18 = .ok (.aload_n 1, 1) := by decide +kernel
theorem dX2_take_19 : decode cX2_take 19 = .ok (.getfield 36, 3) := by decide +kernel
theorem dX2_take_22 : decode cX2_take 22 = .ok (.iconst 0, 1) := by decide +kernel
theorem dX2_take_23 : decode cX2_take 23 = .ok (.aload_n 0, 1) := by decide +kernel
theorem dX2_take_24 : decode cX2_take 24 = .ok (.getfield 9, 3) := by decide +kernel
theorem dX2_take_27 : decode cX2_take 27 = .ok (.iconst 0, 1) := by decide +kernel
theorem dX2_take_28 : decode cX2_take 28 = .ok (.iconst 3, 1) := by decide +kernel
theorem dX2_take_29 : decode cX2_take 29 = .ok (.invokestatic 39, 3) := by decide +kernel
theorem dX2_take_32 : decode cX2_take 32 = .ok (.aload_n 2, 1) := by decide +kernel
theorem dX2_take_33 : decode cX2_take 33 = .ok (.getfield 45, 3) := by decide +kernel
theorem dX2_take_36 : decode cX2_take 36 = .ok (.iconst 0, 1) := by decide +kernel
theorem dX2_take_37 : decode cX2_take 37 = .ok (.aload_n 0, 1) := by decide +kernel
theorem dX2_take_38 : decode cX2_take 38 = .ok (.getfield 15, 3) := by decide +kernel
theorem dX2_take_41 : decode cX2_take 41 = .ok (.iconst 0, 1) := by decide +kernel
theorem dX2_take_42 : decode cX2_take 42 = .ok (.iconst 5, 1) := by decide +kernel
theorem dX2_take_43 : decode cX2_take 43 = .ok (.invokestatic 39, 3) := by decide +kernel
theorem dX2_take_46 : decode cX2_take 46 = .ok (.aload_n 2, 1) := by decide +kernel
theorem dX2_take_47 : decode cX2_take 47 = .ok (.getfield 46, 3) := by decide +kernel
theorem dX2_take_50 : decode cX2_take 50 = .ok (.iconst 0, 1) := by decide +kernel
theorem dX2_take_51 : decode cX2_take 51 = .ok (.aload_n 0, 1) := by decide +kernel
theorem dX2_take_52 : decode cX2_take 52 = .ok (.getfield 19, 3) := by decide +kernel
theorem dX2_take_55 : decode cX2_take 55 = .ok (.iconst 0, 1) := by decide +kernel
theorem dX2_take_56 : decode cX2_take 56 = .ok (.iconst 5, 1) := by decide +kernel
theorem dX2_take_57 : decode cX2_take 57 = .ok (.invokestatic 39, 3) := by decide +kernel
theorem dX2_take_60 : decode cX2_take 60 = .ok (.return_, 1) := by decide +kernel
theorem dX2_giveBack_0 : decode cX2_giveBack 0 = .ok (.aload_n 2, 1) := by decide +kernel
theorem dX2_giveBack_1 : decode cX2_giveBack 1 = .ok (.aload_n 0, 1) := by decide +kernel
theorem dX2_giveBack_2 : decode cX2_giveBack 2 = .ok (.getfield 35, 3) := by decide +kernel
theorem dX2_giveBack_5 : decode cX2_giveBack 5 = .ok (.putfield 30, 3) := by decide +kernel
theorem dX2_giveBack_8 : decode cX2_giveBack 8 = .ok (.aload_n 0, 1) := by decide +kernel
theorem dX2_giveBack_9 : decode cX2_giveBack 9 = .ok (.getfield 9, 3) := by decide +kernel
theorem dX2_giveBack_12 : decode cX2_giveBack 12 = .ok (.iconst 0, 1) := by decide +kernel
theorem dX2_giveBack_13 : decode cX2_giveBack 13 = .ok (.aload_n 1, 1) := by decide +kernel
theorem dX2_giveBack_14 : decode cX2_giveBack 14 = .ok (.getfield 36, 3) := by decide +kernel
theorem dX2_giveBack_17 : decode cX2_giveBack 17 = .ok (.iconst 0, 1) := by decide +kernel
theorem dX2_giveBack_18 : decode cX2_giveBack 18 = .ok (.iconst 3, 1) := by decide +kernel
theorem dX2_giveBack_19 : decode cX2_giveBack 19 = .ok (.invokestatic 39, 3) := by decide +kernel
theorem dX2_giveBack_22 : decode cX2_giveBack 22 = .ok (.aload_n 0, 1) := by decide +kernel
theorem dX2_giveBack_23 : decode cX2_giveBack 23 = .ok (.getfield 15, 3) := by decide +kernel
theorem dX2_giveBack_26 : decode cX2_giveBack 26 = .ok (.iconst 0, 1) := by decide +kernel
theorem dX2_giveBack_27 : decode cX2_giveBack 27 = .ok (.aload_n 2, 1) := by decide +kernel
theorem dX2_giveBack_28 : decode cX2_giveBack 28 = .ok (.getfield 45, 3) := by decide +kernel
theorem dX2_giveBack_31 : decode cX2_giveBack 31 = .ok (.iconst 0, 1) := by decide +kernel
theorem dX2_giveBack_32 : decode cX2_giveBack 32 = .ok (.iconst 5, 1) := by decide +kernel
theorem dX2_giveBack_33 : decode cX2_giveBack 33 = .ok (.invokestatic 39, 3) := by decide +kernel
theorem dX2_giveBack_36 : decode cX2_giveBack 36 = .ok (.aload_n 0, 1) := by decide +kernel
theorem dX2_giveBack_37 : decode cX2_giveBack 37 = .ok (.getfield 19, 3) := by decide +kernel
theorem dX2_giveBack_40 : decode cX2_giveBack 40 = .ok (.iconst 0, 1) := by decide +kernel
theorem dX2_giveBack_41 : decode cX2_giveBack 41 = .ok (.aload_n 2, 1) := by decide +kernel
theorem dX2_giveBack_42 : decode cX2_giveBack 42 = .ok (.getfield 46, 3) := by decide +kernel
theorem dX2_giveBack_45 : decode cX2_giveBack 45 = .ok (.iconst 0, 1) := by decide +kernel
theorem dX2_giveBack_46 : decode cX2_giveBack 46 = .ok (.iconst 5, 1) := by decide +kernel
theorem dX2_giveBack_47 : decode cX2_giveBack 47 = .ok (.invokestatic 39, 3) := by decide +kernel
theorem dX2_giveBack_50 : decode cX2_giveBack 50 = .ok (.return_, 1) := by decide +kernel
theorem dX3_init_0 : decode cX3_init 0 = .ok (.aload_n 0, 1) := by decide +kernel
theorem dX3_init_1 : decode cX3_init 1 = .ok (.invokespecial 3, 3) := by decide +kernel
theorem dX3_init_4 : decode cX3_init 4 = .ok (.aload_n 0, 1) := by decide +kernel
theorem dX3_init_5 : decode cX3_init 5 = .ok (.iconst 3, 1) := by decide +kernel
theorem dX3_init_6 : decode cX3_init 6 = .ok (.newarray .long, 2) := by decide +kernel
theorem dX3_init_8 : decode cX3_init 8 = .ok (.putfield 9, 3) := by decide +kernel
theorem dX3_init_11 : decode cX3_init 11 = .ok (.return_, 1) := by decide +kernel
theorem dX3_floor_0 : decode cX3_floor 0 = .ok (.ldc2_w 15, 3) := by decide +kernel
theorem dX3_floor_3 : decode cX3_floor 3 = .ok (.aload_n 0, 1) := by decide +kernel
theorem dX3_floor_4 : decode cX3_floor 4 = .ok (.getfield 9, 3) := by decide +kernel
theorem dX3_floor_7 : decode cX3_floor 7 = .ok (.iconst 0, 1) := by decide +kernel
theorem dX3_floor_8 : decode cX3_floor 8 = .ok (.laload, 1) := by decide +kernel
theorem dX3_floor_9 : decode cX3_floor 9 = .ok (.ldc2_w 17, 3) := by decide +kernel
theorem dX3_floor_12 : decode cX3_floor 12 = .ok (.lxor, 1) := by decide +kernel
theorem dX3_floor_13 : decode cX3_floor 13 = .ok (.land, 1) := by decide +kernel
theorem dX3_floor_14 : decode cX3_floor 14 = .ok (.lreturn, 1) := by decide +kernel
theorem dX3_lit_0 : decode cX3_lit 0 = .ok (.aload_n 0, 1) := by decide +kernel
theorem dX3_lit_1 : decode cX3_lit 1 = .ok (.getfield 9, 3) := by decide +kernel
theorem dX3_lit_4 : decode cX3_lit 4 = .ok (.iconst 1, 1) := by decide +kernel
theorem dX3_lit_5 : decode cX3_lit 5 = .ok (.laload, 1) := by decide +kernel
theorem dX3_lit_6 : decode cX3_lit 6 = .ok (.iload_n 1, 1) := by decide +kernel
theorem dX3_lit_7 : decode cX3_lit 7 = .ok (.invokestatic 19, 3) := by decide +kernel
theorem dX3_lit_10 : decode cX3_lit 10 = .ok (.ifCond .eq 7, 3) := by decide +kernel
theorem dX3_lit_13 : decode cX3_lit 13 = .ok (.iconst 1, 1) := by decide +kernel
theorem dX3_lit_14 : decode cX3_lit 14 = .ok (.goto 4, 3) := by decide +kernel
theorem dX3_lit_17 : decode cX3_lit 17 = .ok (.iconst 0, 1) := by decide +kernel
theorem dX3_lit_18 : decode cX3_lit 18 = .ok (.ireturn, 1) := by decide +kernel
theorem dX3_lying_0 : decode cX3_lying 0 = .ok (.iconst 0, 1) := by decide +kernel
theorem dX3_lying_1 : decode cX3_lying 1 = .ok (.istore_n 2, 1) := by decide +kernel
theorem dX3_lying_2 : decode cX3_lying 2 = .ok (.iconst 0, 1) := by decide +kernel
theorem dX3_lying_3 : decode cX3_lying 3 = .ok (.istore_n 3, 1) := by decide +kernel
theorem dX3_lying_4 : decode cX3_lying 4 = .ok (.iload_n 3, 1) := by decide +kernel
theorem dX3_lying_5 : decode cX3_lying 5 = .ok (.iconst 3, 1) := by decide +kernel
theorem dX3_lying_6 : decode cX3_lying 6 = .ok (.if_icmp .ge 28, 3) := by decide +kernel
theorem dX3_lying_9 : decode cX3_lying 9 = .ok (.aload_n 0, 1) := by decide +kernel
theorem dX3_lying_10 : decode cX3_lying 10 = .ok (.getfield 9, 3) := by decide +kernel
theorem dX3_lying_13 : decode cX3_lying 13 = .ok (.iload_n 3, 1) := by decide +kernel
theorem dX3_lying_14 : decode cX3_lying 14 = .ok (.laload, 1) := by decide +kernel
theorem dX3_lying_15 : decode cX3_lying 15 = .ok (.iload_n 1, 1) := by decide +kernel
theorem dX3_lying_16 : decode cX3_lying 16 = .ok (.invokestatic 19, 3) := by decide +kernel
theorem dX3_lying_19 : decode cX3_lying 19 = .ok (.ifCond .eq 9, 3) := by decide +kernel
theorem dX3_lying_22 : decode cX3_lying 22 = .ok (.iload_n 2, 1) := by decide +kernel
theorem dX3_lying_23 : decode cX3_lying 23 = .ok (.iconst 1, 1) := by decide +kernel
theorem dX3_lying_24 : decode cX3_lying 24 = .ok (.iload_n 3, 1) := by decide +kernel
theorem dX3_lying_25 : decode cX3_lying 25 = .ok (.ishl, 1) := by decide +kernel
theorem dX3_lying_26 : decode cX3_lying 26 = .ok (.iadd, 1) := by decide +kernel
theorem dX3_lying_27 : decode cX3_lying 27 = .ok (.istore_n 2, 1) := by decide +kernel
theorem dX3_lying_28 : decode cX3_lying 28 = .ok (.iinc 3 1, 3) := by decide +kernel
theorem dX3_lying_31 : decode cX3_lying 31 = .ok (.goto (-27), 3) := by decide +kernel
theorem dX3_lying_34 : decode cX3_lying 34 = .ok (.iload_n 2, 1) := by decide +kernel
theorem dX3_lying_35 : decode cX3_lying 35 = .ok (.ireturn, 1) := by decide +kernel
theorem dX4_init_0 : decode cX4_init 0 = .ok (.aload_n 0, 1) := by decide +kernel
theorem dX4_init_1 : decode cX4_init 1 = .ok (.invokespecial 3, 3) := by decide +kernel
theorem dX4_init_4 : decode cX4_init 4 = .ok (.aload_n 0, 1) := by decide +kernel
theorem dX4_init_5 : decode cX4_init 5 = .ok (.sipush 160, 3) := by decide +kernel
theorem dX4_init_8 : decode cX4_init 8 = .ok (.newarray .int, 2) := by decide +kernel
theorem dX4_init_10 : decode cX4_init 10 = .ok (.putfield 9, 3) := by decide +kernel
theorem dX4_init_13 : decode cX4_init 13 = .ok (.aload_n 0, 1) := by decide +kernel
theorem dX4_init_14 : decode cX4_init 14 = .ok (.sipush 160, 3) := by decide +kernel
theorem dX4_init_17 : decode cX4_init 17 = .ok (.newarray .int, 2) := by decide +kernel
theorem dX4_init_19 : decode cX4_init 19 = .ok (.putfield 15, 3) := by decide +kernel
theorem dX4_init_22 : decode cX4_init 22 = .ok (.aload_n 0, 1) := by decide +kernel
theorem dX4_init_23 : decode cX4_init 23 = .ok (.iconst 3, 1) := by decide +kernel
theorem dX4_init_24 : decode cX4_init 24 = .ok (.newarray .int, 2) := by decide +kernel
theorem dX4_init_26 : decode cX4_init 26 = .ok (.putfield 18, 3) := by decide +kernel
theorem dX4_init_29 : decode cX4_init 29 = .ok (.return_, 1) := by decide +kernel
theorem dX4_add_0 : decode cX4_add 0 = .ok (.aload_n 0, 1) := by decide +kernel
theorem dX4_add_1 : decode cX4_add 1 = .ok (.getfield 21, 3) := by decide +kernel
theorem dX4_add_4 : decode cX4_add 4 = .ok (.sipush 160, 3) := by decide +kernel
theorem dX4_add_7 : decode cX4_add 7 = .ok (.if_icmp .ge 20, 3) := by decide +kernel
theorem dX4_add_10 : decode cX4_add 10 = .ok (.aload_n 0, 1) := by decide +kernel
theorem dX4_add_11 : decode cX4_add 11 = .ok (.getfield 9, 3) := by decide +kernel
theorem dX4_add_14 : decode cX4_add 14 = .ok (.aload_n 0, 1) := by decide +kernel
theorem dX4_add_15 : decode cX4_add 15 = .ok (.dup, 1) := by decide +kernel
theorem dX4_add_16 : decode cX4_add 16 = .ok (.getfield 21, 3) := by decide +kernel
theorem dX4_add_19 : decode cX4_add 19 = .ok (.dup_x1, 1) := by decide +kernel
theorem dX4_add_20 : decode cX4_add 20 = .ok (.iconst 1, 1) := by decide +kernel
theorem dX4_add_21 : decode cX4_add 21 = .ok (.iadd, 1) := by decide +kernel
theorem dX4_add_22 : decode cX4_add 22 = .ok (.putfield 21, 3) := by decide +kernel
theorem dX4_add_25 : decode cX4_add 25 = .ok (.iload_n 1, 1) := by decide +kernel
theorem dX4_add_26 : decode cX4_add 26 = .ok (.iastore, 1) := by decide +kernel
theorem dX4_add_27 : decode cX4_add 27 = .ok (.return_, 1) := by decide +kernel
theorem dX4_read_0 : decode cX4_read 0 = .ok (.aload_n 0, 1) := by decide +kernel
theorem dX4_read_1 : decode cX4_read 1 = .ok (.iconst 0, 1) := by decide +kernel
theorem dX4_read_2 : decode cX4_read 2 = .ok (.putfield 25, 3) := by decide +kernel
theorem dX4_read_5 : decode cX4_read 5 = .ok (.aload_n 0, 1) := by decide +kernel
theorem dX4_read_6 : decode cX4_read 6 = .ok (.iconst 0, 1) := by decide +kernel
theorem dX4_read_7 : decode cX4_read 7 = .ok (.putfield 28, 3) := by decide +kernel
theorem dX4_read_10 : decode cX4_read 10 = .ok (.aload_n 0, 1) := by decide +kernel
theorem dX4_read_11 : decode cX4_read 11 = .ok (.invokevirtual 31, 3) := by decide +kernel
theorem dX4_read_14 : decode cX4_read 14 = .ok (.iconst 0, 1) := by decide +kernel
theorem dX4_read_15 : decode cX4_read 15 = .ok (.istore_n 1, 1) := by decide +kernel
theorem dX4_read_16 : decode cX4_read 16 = .ok (.iload_n 1, 1) := by decide +kernel
theorem dX4_read_17 : decode cX4_read 17 = .ok (.iconst 3, 1) := by decide +kernel
theorem dX4_read_18 : decode cX4_read 18 = .ok (.if_icmp .ge 66, 3) := by decide +kernel
theorem dX4_read_21 : decode cX4_read 21 = .ok (.aload_n 0, 1) := by decide +kernel
theorem dX4_read_22 : decode cX4_read 22 = .ok (.getfield 34, 3) := by decide +kernel
theorem dX4_read_25 : decode cX4_read 25 = .ok (.getstatic 37, 3) := by decide +kernel
theorem dX4_read_28 : decode cX4_read 28 = .ok (.iload_n 1, 1) := by decide +kernel
theorem dX4_read_29 : decode cX4_read 29 = .ok (.iaload, 1) := by decide +kernel
theorem dX4_read_30 : decode cX4_read 30 = .ok (.if_icmp .eq 8, 3) := by decide +kernel
theorem dX4_read_33 : decode cX4_read 33 = .ok (.aload_n 0, 1) := by decide +kernel
theorem dX4_read_34 : decode cX4_read 34 = .ok (.getfield 40, 3) := by decide +kernel
theorem dX4_read_37 : decode cX4_read 37 = .ok (.ireturn, 1) := by decide +kernel
theorem dX4_read_38 : decode cX4_read 38 = .ok (.aload_n 0, 1) := by decide +kernel
theorem dX4_read_39 : decode cX4_read 39 = .ok (.invokevirtual 31, 3) := by decide +kernel
theorem dX4_read_42 : decode cX4_read 42 = .ok (.aload_n 0, 1) := by decide +kernel
theorem dX4_read_43 : decode cX4_read 43 = .ok (.iconst 0, 1) := by decide +kernel
theorem dX4_read_44 : decode cX4_read 44 = .ok (.invokevirtual 43, 3) := by decide +kernel
theorem dX4_read_47 : decode cX4_read 47 = .ok (.ifCond .eq 12, 3) := by decide +kernel
theorem dX4_read_50 : decode cX4_read 50 = .ok (.aload_n 0, 1) := by decide +kernel
theorem dX4_read_51 : decode cX4_read 51 = .ok (.getfield 34, 3) := by decide +kernel
theorem dX4_read_54 : decode cX4_read 54 = .ok (.bipush 59, 2) := by decide +kernel
theorem dX4_read_56 : decode cX4_read 56 = .ok (.if_icmp .eq 8, 3) := by decide +kernel
theorem dX4_read_59 : decode cX4_read 59 = .ok (.aload_n 0, 1) := by decide +kernel
theorem dX4_read_60 : decode cX4_read 60 = .ok (.getfield 40, 3) := by decide +kernel
theorem dX4_read_63 : decode cX4_read 63 = .ok (.ireturn, 1) := by decide +kernel
theorem dX4_read_64 : decode cX4_read 64 = .ok (.aload_n 0, 1) := by decide +kernel
theorem dX4_read_65 : decode cX4_read 65 = .ok (.invokevirtual 31, 3) := by decide +kernel
theorem dX4_read_68 : decode cX4_read 68 = .ok (.aload_n 0, 1) := by decide +kernel
theorem dX4_read_69 : decode cX4_read 69 = .ok (.getfield 18, 3) := by decide +kernel
theorem dX4_read_72 : decode cX4_read 72 = .ok (.iload_n 1, 1) := by decide +kernel
theorem dX4_read_73 : decode cX4_read 73 = .ok (.aload_n 0, 1) := by decide +kernel
theorem dX4_read_74 : decode cX4_read 74 = .ok (.getfield 25, 3) := by decide +kernel
theorem dX4_read_77 : decode cX4_read 77 = .ok (.iastore, 1) := by decide +kernel
theorem dX4_read_78 : decode cX4_read 78 = .ok (.iinc 1 1, 3) := by decide +kernel
theorem dX4_read_81 : decode cX4_read 81 = .ok (.goto (-65), 3) := by decide +kernel
theorem dX4_read_84 : decode cX4_read 84 = .ok (.aload_n 0, 1) := by decide +kernel
theorem dX4_read_85 : decode cX4_read 85 = .ok (.getfield 34, 3) := by decide +kernel
theorem dX4_read_88 : decode cX4_read 88 = .ok (.ifCond .ne 7, 3) := by decide +kernel
theorem dX4_read_91 : decode cX4_read 91 = .ok (.iconst (-1), 1) := by decide +kernel
theorem dX4_read_92 : decode cX4_read 92 = .ok (.goto 7, 3) := by decide +kernel
theorem dX4_read_95 : decode cX4_read 95 = .ok (.aload_n 0, 1) := by decide +kernel
theorem dX4_read_96 : decode cX4_read 96 = .ok (.getfield 40, 3) := by decide +kernel
theorem dX4_read_99 : decode cX4_read 99 = .ok (.ireturn, 1) := by decide +kernel
theorem dX4_readEither_0 : decode cX4_readEither 0 = .ok (.aload_n 0, 1) := by decide +kernel
theorem dX4_readEither_1 : decode cX4_readEither 1 = .ok (.iload_n 1, 1) := by decide +kernel
theorem dX4_readEither_2 : decode cX4_readEither 2 = .ok (.invokevirtual 47, 3) := by decide +kernel
theorem dX4_readEither_5 : decode cX4_readEither 5 = .ok (.ifCond .ne 5, 3) := by decide +kernel
theorem dX4_readEither_8 : decode cX4_readEither 8 = .ok (.iconst 0, 1) := by decide +kernel
theorem dX4_readEither_9 : decode cX4_readEither 9 = .ok (.ireturn, 1) := by decide +kernel
theorem dX4_readEither_10 : decode cX4_readEither 10 = .ok (.iconst 0, 1) := by decide +kernel
theorem dX4_readEither_11 : decode cX4_readEither 11 = .ok (.istore_n 2, 1) := by decide +kernel
theorem dX4_readEither_12 : decode cX4_readEither 12 = .ok (.iload_n 2, 1) := by decide +kernel
theorem dX4_readEither_13 : decode cX4_readEither 13 = .ok (.sipush 160, 3) := by decide +kernel
theorem dX4_readEither_16 : decode cX4_readEither 16 = .ok (.if_icmp .ge 38, 3) := by decide +kernel
theorem dX4_readEither_19 : decode cX4_readEither 19 = .ok (.aload_n 0, 1) := by decide +kernel
theorem dX4_readEither_20 : decode cX4_readEither 20 = .ok (.getfield 34, 3) := by decide +kernel
theorem dX4_readEither_23 : decode cX4_readEither 23 = .ok (.bipush 7, 2) := by decide +kernel
theorem dX4_readEither_25 : decode cX4_readEither 25 = .ok (.if_icmp .ne 29, 3) := by decide +kernel
theorem dX4_readEither_28 : decode cX4_readEither 28 = .ok (.aload_n 0, 1) := by decide +kernel
theorem dX4_readEither_29 : decode cX4_readEither 29 = .ok (.invokevirtual 31, 3) := by decide +kernel
theorem dX4_readEither_32 : decode cX4_readEither 32 = .ok (.aload_n 0, 1) := by decide +kernel
theorem dX4_readEither_33 : decode cX4_readEither 33 = .ok (.iload_n 1, 1) := by decide +kernel
theorem dX4_readEither_34 : decode cX4_readEither 34 = .ok (.invokevirtual 47, 3) := by decide +kernel
theorem dX4_readEither_37 : decode cX4_readEither 37 = .ok (.ifCond .ne 5, 3) := by decide +kernel
theorem dX4_readEither_40 : decode cX4_readEither 40 = .ok (.iconst 0, 1) := by decide +kernel
theorem dX4_readEither_41 : decode cX4_readEither 41 = .ok (.ireturn, 1) := by decide +kernel
theorem dX4_readEither_42 : decode cX4_readEither 42 = .ok (.aload_n 0, 1) := by decide +kernel
theorem dX4_readEither_43 : decode cX4_readEither 43 = .ok (.bipush (-9), 2) := by decide +kernel
theorem dX4_readEither_45 : decode cX4_readEither 45 = .ok (.invokevirtual 52, 3) := by decide +kernel
theorem dX4_readEither_48 : decode cX4_readEither 48 = .ok (.iinc 2 1, 3) := by decide +kernel
theorem dX4_readEither_51 : decode cX4_readEither 51 = .ok (.goto (-39), 3) := by decide +kernel
theorem dX4_readEither_54 : decode cX4_readEither 54 = .ok (.iconst 1, 1) := by decide +kernel
theorem dX4_readEither_55 : decode cX4_readEither 55 = .ok (.ireturn, 1) := by decide +kernel
theorem dX4_readBoth_0 : decode cX4_readBoth 0 = .ok (.aload_n 0, 1) := by decide +kernel
theorem dX4_readBoth_1 : decode cX4_readBoth 1 = .ok (.iload_n 1, 1) := by decide +kernel
theorem dX4_readBoth_2 : decode cX4_readBoth 2 = .ok (.invokevirtual 56, 3) := by decide +kernel
theorem dX4_readBoth_5 : decode cX4_readBoth 5 = .ok (.ifCond .ne 5, 3) := by decide +kernel
theorem dX4_readBoth_8 : decode cX4_readBoth 8 = .ok (.iconst 0, 1) := by decide +kernel
theorem dX4_readBoth_9 : decode cX4_readBoth 9 = .ok (.ireturn, 1) := by decide +kernel
theorem dX4_readBoth_10 : decode cX4_readBoth 10 = .ok (.iconst 0, 1) := by decide +kernel
theorem dX4_readBoth_11 : decode cX4_readBoth 11 = .ok (.istore_n 2, 1) := by decide +kernel
theorem dX4_readBoth_12 : decode cX4_readBoth 12 = .ok (.iload_n 2, 1) := by decide +kernel
theorem dX4_readBoth_13 : decode cX4_readBoth 13 = .ok (.sipush 160, 3) := by decide +kernel
theorem dX4_readBoth_16 : decode cX4_readBoth 16 = .ok (.if_icmp .ge 38, 3) := by decide +kernel
theorem dX4_readBoth_19 : decode cX4_readBoth 19 = .ok (.aload_n 0, 1) := by decide +kernel
theorem dX4_readBoth_20 : decode cX4_readBoth 20 = .ok (.getfield 34, 3) := by decide +kernel
theorem dX4_readBoth_23 : decode cX4_readBoth 23 = .ok (.bipush 8, 2) := by decide +kernel
theorem dX4_readBoth_25 : decode cX4_readBoth 25 = .ok (.if_icmp .ne 29, 3) := by decide +kernel
theorem dX4_readBoth_28 : decode cX4_readBoth 28 = .ok (.aload_n 0, 1) := by decide +kernel
theorem dX4_readBoth_29 : decode cX4_readBoth 29 = .ok (.invokevirtual 31, 3) := by decide +kernel
theorem dX4_readBoth_32 : decode cX4_readBoth 32 = .ok (.aload_n 0, 1) := by decide +kernel
theorem dX4_readBoth_33 : decode cX4_readBoth 33 = .ok (.iload_n 1, 1) := by decide +kernel
theorem dX4_readBoth_34 : decode cX4_readBoth 34 = .ok (.invokevirtual 56, 3) := by decide +kernel
theorem dX4_readBoth_37 : decode cX4_readBoth 37 = .ok (.ifCond .ne 5, 3) := by decide +kernel
theorem dX4_readBoth_40 : decode cX4_readBoth 40 = .ok (.iconst 0, 1) := by decide +kernel
theorem dX4_readBoth_41 : decode cX4_readBoth 41 = .ok (.ireturn, 1) := by decide +kernel
theorem dX4_readBoth_42 : decode cX4_readBoth 42 = .ok (.aload_n 0, 1) := by decide +kernel
theorem dX4_readBoth_43 : decode cX4_readBoth 43 = .ok (.bipush (-10), 2) := by decide +kernel
theorem dX4_readBoth_45 : decode cX4_readBoth 45 = .ok (.invokevirtual 52, 3) := by decide +kernel
theorem dX4_readBoth_48 : decode cX4_readBoth 48 = .ok (.iinc 2 1, 3) := by decide +kernel
theorem dX4_readBoth_51 : decode cX4_readBoth 51 = .ok (.goto (-39), 3) := by decide +kernel
theorem dX4_readBoth_54 : decode cX4_readBoth 54 = .ok (.iconst 1, 1) := by decide +kernel
theorem dX4_readBoth_55 : decode cX4_readBoth 55 = .ok (.ireturn, 1) := by decide +kernel
theorem dX4_readNot_0 : decode cX4_readNot 0 = .ok (.aload_n 0, 1) := by decide +kernel
theorem dX4_readNot_1 : decode cX4_readNot 1 = .ok (.getfield 34, 3) := by decide +kernel
theorem dX4_readNot_4 : decode cX4_readNot 4 = .ok (.bipush 9, 2) := by decide +kernel
theorem dX4_readNot_6 : decode cX4_readNot 6 = .ok (.if_icmp .ne 34, 3) := by decide +kernel
theorem dX4_readNot_9 : decode cX4_readNot 9 = .ok (.iload_n 1, 1) := by decide +kernel
theorem dX4_readNot_10 : decode cX4_readNot 10 = .ok (.iconst 5, 1) := by decide +kernel
theorem dX4_readNot_11 : decode cX4_readNot 11 = .ok (.if_icmp .lt 5, 3) := by decide +kernel
theorem dX4_readNot_14 : decode cX4_readNot 14 = .ok (.iconst 0, 1) := by decide +kernel
theorem dX4_readNot_15 : decode cX4_readNot 15 = .ok (.ireturn, 1) := by decide +kernel
theorem dX4_readNot_16 : decode cX4_readNot 16 = .ok (.aload_n 0, 1) := by decide +kernel
theorem dX4_readNot_17 : decode cX4_readNot 17 = .ok (.invokevirtual 31, 3) := by decide +kernel
theorem dX4_readNot_20 : decode cX4_readNot 20 = .ok (.aload_n 0, 1) := by decide +kernel
theorem dX4_readNot_21 : decode cX4_readNot 21 = .ok (.iload_n 1, 1) := by decide +kernel
theorem dX4_readNot_22 : decode cX4_readNot 22 = .ok (.iconst 1, 1) := by decide +kernel
theorem dX4_readNot_23 : decode cX4_readNot 23 = .ok (.iadd, 1) := by decide +kernel
theorem dX4_readNot_24 : decode cX4_readNot 24 = .ok (.invokevirtual 56, 3) := by decide +kernel
theorem dX4_readNot_27 : decode cX4_readNot 27 = .ok (.ifCond .ne 5, 3) := by decide +kernel
theorem dX4_readNot_30 : decode cX4_readNot 30 = .ok (.iconst 0, 1) := by decide +kernel
theorem dX4_readNot_31 : decode cX4_readNot 31 = .ok (.ireturn, 1) := by decide +kernel
theorem dX4_readNot_32 : decode cX4_readNot 32 = .ok (.aload_n 0, 1) := by decide +kernel
theorem dX4_readNot_33 : decode cX4_readNot 33 = .ok (.bipush (-7), 2) := by decide +kernel
theorem dX4_readNot_35 : decode cX4_readNot 35 = .ok (.invokevirtual 52, 3) := by decide +kernel
theorem dX4_readNot_38 : decode cX4_readNot 38 = .ok (.iconst 1, 1) := by decide +kernel
theorem dX4_readNot_39 : decode cX4_readNot 39 = .ok (.ireturn, 1) := by decide +kernel
theorem dX4_readNot_40 : decode cX4_readNot 40 = .ok (.aload_n 0, 1) := by decide +kernel
theorem dX4_readNot_41 : decode cX4_readNot 41 = .ok (.iload_n 1, 1) := by decide +kernel
theorem dX4_readNot_42 : decode cX4_readNot 42 = .ok (.invokevirtual 59, 3) := by decide +kernel
theorem dX4_readNot_45 : decode cX4_readNot 45 = .ok (.ifCond .ne 5, 3) := by decide +kernel
theorem dX4_readNot_48 : decode cX4_readNot 48 = .ok (.iconst 0, 1) := by decide +kernel
theorem dX4_readNot_49 : decode cX4_readNot 49 = .ok (.ireturn, 1) := by decide +kernel
theorem dX4_readNot_50 : decode cX4_readNot 50 = .ok (.aload_n 0, 1) := by decide +kernel
theorem dX4_readNot_51 : decode cX4_readNot 51 = .ok (.getfield 34, 3) := by decide +kernel
theorem dX4_readNot_54 : decode cX4_readNot 54 = .ok (.bipush 60, 2) := by decide +kernel
theorem dX4_readNot_56 : decode cX4_readNot 56 = .ok (.if_icmp .eq 14, 3) := by decide +kernel
theorem dX4_readNot_59 : decode cX4_readNot 59 = .ok (.aload_n 0, 1) := by decide +kernel
theorem dX4_readNot_60 : decode cX4_readNot 60 = .ok (.getfield 34, 3) := by decide +kernel
theorem dX4_readNot_63 : decode cX4_readNot 63 = .ok (.bipush 61, 2) := by decide +kernel
theorem dX4_readNot_65 : decode cX4_readNot 65 = .ok (.if_icmp .eq 5, 3) := by decide +kernel
theorem dX4_readNot_68 : decode cX4_readNot 68 = .ok (.iconst 1, 1) := by decide +kernel
theorem dX4_readNot_69 : decode cX4_readNot 69 = .ok (.ireturn, 1) := by decide +kernel
theorem dX4_readNot_70 : decode cX4_readNot 70 = .ok (.aload_n 0, 1) := by decide +kernel
theorem dX4_readNot_71 : decode cX4_readNot 71 = .ok (.getfield 34, 3) := by decide +kernel
theorem dX4_readNot_74 : decode cX4_readNot 74 = .ok (.bipush 60, 2) := by decide +kernel
theorem dX4_readNot_76 : decode cX4_readNot 76 = .ok (.if_icmp .ne 8, 3) := by decide +kernel
theorem dX4_readNot_79 : decode cX4_readNot 79 = .ok (.bipush (-11), 2) := by decide +kernel
theorem dX4_readNot_81 : decode cX4_readNot 81 = .ok (.goto 5, 3) := by decide +kernel
theorem dX4_readNot_84 : decode cX4_readNot 84 = .ok (.bipush (-12), 2) := by decide +kernel
theorem dX4_readNot_86 : decode cX4_readNot 86 = .ok (.istore_n 2, 1) := by decide +kernel
theorem dX4_readNot_87 : decode cX4_readNot 87 = .ok (.aload_n 0, 1) := by decide +kernel
theorem dX4_readNot_88 : decode cX4_readNot 88 = .ok (.invokevirtual 31, 3) := by decide +kernel
theorem dX4_readNot_91 : decode cX4_readNot 91 = .ok (.aload_n 0, 1) := by decide +kernel
theorem dX4_readNot_92 : decode cX4_readNot 92 = .ok (.iload_n 1, 1) := by decide +kernel
theorem dX4_readNot_93 : decode cX4_readNot 93 = .ok (.invokevirtual 59, 3) := by decide +kernel
theorem dX4_readNot_96 : decode cX4_readNot 96 = .ok (.ifCond .ne 5, 3) := by decide +kernel
theorem dX4_readNot_99 : decode cX4_readNot 99 = .ok (.iconst 0, 1) := by decide +kernel
theorem dX4_readNot_100 : decode cX4_readNot 100 = .ok (.ireturn, 1) := by decide +kernel
theorem dX4_readNot_101 : decode cX4_readNot 101 = .ok (.aload_n 0, 1) := by decide +kernel
theorem dX4_readNot_102 : decode cX4_readNot 102 = .ok (.iload_n 2, 1) := by decide +kernel
theorem dX4_readNot_103 : decode cX4_readNot 103 = .ok (.invokevirtual 52, 3) := by decide +kernel
theorem dX4_readNot_106 : decode cX4_readNot 106 = .ok (.iconst 1, 1) := by decide +kernel
theorem dX4_readNot_107 : decode cX4_readNot 107 = .ok (.ireturn, 1) := by decide +kernel
theorem dX4_readSum_0 : decode cX4_readSum 0 = .ok (.aload_n 0, 1) := by decide +kernel
theorem dX4_readSum_1 : decode cX4_readSum 1 = .ok (.iload_n 1, 1) := by decide +kernel
theorem dX4_readSum_2 : decode cX4_readSum 2 = .ok (.invokevirtual 62, 3) := by decide +kernel
theorem dX4_readSum_5 : decode cX4_readSum 5 = .ok (.ifCond .ne 5, 3) := by decide +kernel
theorem dX4_readSum_8 : decode cX4_readSum 8 = .ok (.iconst 0, 1) := by decide +kernel
theorem dX4_readSum_9 : decode cX4_readSum 9 = .ok (.ireturn, 1) := by decide +kernel
theorem dX4_readSum_10 : decode cX4_readSum 10 = .ok (.iconst 0, 1) := by decide +kernel
theorem dX4_readSum_11 : decode cX4_readSum 11 = .ok (.istore_n 2, 1) := by decide +kernel
theorem dX4_readSum_12 : decode cX4_readSum 12 = .ok (.iload_n 2, 1) := by decide +kernel
theorem dX4_readSum_13 : decode cX4_readSum 13 = .ok (.sipush 160, 3) := by decide +kernel
theorem dX4_readSum_16 : decode cX4_readSum 16 = .ok (.if_icmp .ge 63, 3) := by decide +kernel
theorem dX4_readSum_19 : decode cX4_readSum 19 = .ok (.aload_n 0, 1) := by decide +kernel
theorem dX4_readSum_20 : decode cX4_readSum 20 = .ok (.getfield 34, 3) := by decide +kernel
theorem dX4_readSum_23 : decode cX4_readSum 23 = .ok (.bipush 43, 2) := by decide +kernel
theorem dX4_readSum_25 : decode cX4_readSum 25 = .ok (.if_icmp .eq 12, 3) := by decide +kernel
theorem dX4_readSum_28 : decode cX4_readSum 28 = .ok (.aload_n 0, 1) := by decide +kernel
theorem dX4_readSum_29 : decode cX4_readSum 29 = .ok (.getfield 34, 3) := by decide +kernel
theorem dX4_readSum_32 : decode cX4_readSum 32 = .ok (.bipush 45, 2) := by decide +kernel
theorem dX4_readSum_34 : decode cX4_readSum 34 = .ok (.if_icmp .ne 45, 3) := by decide +kernel
theorem dX4_readSum_37 : decode cX4_readSum 37 = .ok (.aload_n 0, 1) := by decide +kernel
theorem dX4_readSum_38 : decode cX4_readSum 38 = .ok (.getfield 34, 3) := by decide +kernel
theorem dX4_readSum_41 : decode cX4_readSum 41 = .ok (.bipush 43, 2) := by decide +kernel
theorem dX4_readSum_43 : decode cX4_readSum 43 = .ok (.if_icmp .ne 8, 3) := by decide +kernel
theorem dX4_readSum_46 : decode cX4_readSum 46 = .ok (.bipush (-13), 2) := by decide +kernel
theorem dX4_readSum_48 : decode cX4_readSum 48 = .ok (.goto 5, 3) := by decide +kernel
theorem dX4_readSum_51 : decode cX4_readSum 51 = .ok (.bipush (-14), 2) := by decide +kernel
theorem dX4_readSum_53 : decode cX4_readSum 53 = .ok (.istore_n 3, 1) := by decide +kernel
theorem dX4_readSum_54 : decode cX4_readSum 54 = .ok (.aload_n 0, 1) := by decide +kernel
theorem dX4_readSum_55 : decode cX4_readSum 55 = .ok (.invokevirtual 31, 3) := by decide +kernel
theorem dX4_readSum_58 : decode cX4_readSum 58 = .ok (.aload_n 0, 1) := by decide +kernel
theorem dX4_readSum_59 : decode cX4_readSum 59 = .ok (.iload_n 1, 1) := by decide +kernel
theorem dX4_readSum_60 : decode cX4_readSum 60 = .ok (.invokevirtual 62, 3) := by decide +kernel
theorem dX4_readSum_63 : decode cX4_readSum 63 = .ok (.ifCond .ne 5, 3) := by decide +kernel
theorem dX4_readSum_66 : decode cX4_readSum 66 = .ok (.iconst 0, 1) := by decide +kernel
theorem dX4_readSum_67 : decode cX4_readSum 67 = .ok (.ireturn, 1) := by decide +kernel
theorem dX4_readSum_68 : decode cX4_readSum 68 = .ok (.aload_n 0, 1) := by decide +kernel
theorem dX4_readSum_69 : decode cX4_readSum 69 = .ok (.iload_n 3, 1) := by decide +kernel
theorem dX4_readSum_70 : decode cX4_readSum 70 = .ok (.invokevirtual 52, 3) := by decide +kernel
theorem dX4_readSum_73 : decode cX4_readSum 73 = .ok (.iinc 2 1, 3) := by decide +kernel
theorem dX4_readSum_76 : decode cX4_readSum 76 = .ok (.goto (-64), 3) := by decide +kernel
theorem dX4_readSum_79 : decode cX4_readSum 79 = .ok (.iconst 1, 1) := by decide +kernel
theorem dX4_readSum_80 : decode cX4_readSum 80 = .ok (.ireturn, 1) := by decide +kernel
theorem dX4_readTerm_0 : decode cX4_readTerm 0 = .ok (.aload_n 0, 1) := by decide +kernel
theorem dX4_readTerm_1 : decode cX4_readTerm 1 = .ok (.iload_n 1, 1) := by decide +kernel
theorem dX4_readTerm_2 : decode cX4_readTerm 2 = .ok (.invokevirtual 65, 3) := by decide +kernel
theorem dX4_readTerm_5 : decode cX4_readTerm 5 = .ok (.ifCond .ne 5, 3) := by decide +kernel
theorem dX4_readTerm_8 : decode cX4_readTerm 8 = .ok (.iconst 0, 1) := by decide +kernel
theorem dX4_readTerm_9 : decode cX4_readTerm 9 = .ok (.ireturn, 1) := by decide +kernel
theorem dX4_readTerm_10 : decode cX4_readTerm 10 = .ok (.iconst 0, 1) := by decide +kernel
theorem dX4_readTerm_11 : decode cX4_readTerm 11 = .ok (.istore_n 2, 1) := by decide +kernel
theorem dX4_readTerm_12 : decode cX4_readTerm 12 = .ok (.iload_n 2, 1) := by decide +kernel
theorem dX4_readTerm_13 : decode cX4_readTerm 13 = .ok (.sipush 160, 3) := by decide +kernel
theorem dX4_readTerm_16 : decode cX4_readTerm 16 = .ok (.if_icmp .ge 38, 3) := by decide +kernel
theorem dX4_readTerm_19 : decode cX4_readTerm 19 = .ok (.aload_n 0, 1) := by decide +kernel
theorem dX4_readTerm_20 : decode cX4_readTerm 20 = .ok (.getfield 34, 3) := by decide +kernel
theorem dX4_readTerm_23 : decode cX4_readTerm 23 = .ok (.bipush 42, 2) := by decide +kernel
theorem dX4_readTerm_25 : decode cX4_readTerm 25 = .ok (.if_icmp .ne 29, 3) := by decide +kernel
theorem dX4_readTerm_28 : decode cX4_readTerm 28 = .ok (.aload_n 0, 1) := by decide +kernel
theorem dX4_readTerm_29 : decode cX4_readTerm 29 = .ok (.invokevirtual 31, 3) := by decide +kernel
theorem dX4_readTerm_32 : decode cX4_readTerm 32 = .ok (.aload_n 0, 1) := by decide +kernel
theorem dX4_readTerm_33 : decode cX4_readTerm 33 = .ok (.iload_n 1, 1) := by decide +kernel
theorem dX4_readTerm_34 : decode cX4_readTerm 34 = .ok (.invokevirtual 65, 3) := by decide +kernel
theorem dX4_readTerm_37 : decode cX4_readTerm 37 = .ok (.ifCond .ne 5, 3) := by decide +kernel
theorem dX4_readTerm_40 : decode cX4_readTerm 40 = .ok (.iconst 0, 1) := by decide +kernel
theorem dX4_readTerm_41 : decode cX4_readTerm 41 = .ok (.ireturn, 1) := by decide +kernel
theorem dX4_readTerm_42 : decode cX4_readTerm 42 = .ok (.aload_n 0, 1) := by decide +kernel
theorem dX4_readTerm_43 : decode cX4_readTerm 43 = .ok (.bipush (-15), 2) := by decide +kernel
theorem dX4_readTerm_45 : decode cX4_readTerm 45 = .ok (.invokevirtual 52, 3) := by decide +kernel
theorem dX4_readTerm_48 : decode cX4_readTerm 48 = .ok (.iinc 2 1, 3) := by decide +kernel
theorem dX4_readTerm_51 : decode cX4_readTerm 51 = .ok (.goto (-39), 3) := by decide +kernel
theorem dX4_readTerm_54 : decode cX4_readTerm 54 = .ok (.iconst 1, 1) := by decide +kernel
theorem dX4_readTerm_55 : decode cX4_readTerm 55 = .ok (.ireturn, 1) := by decide +kernel
theorem dX4_readOne_0 : decode cX4_readOne 0 = .ok (.aload_n 0, 1) := by decide +kernel
theorem dX4_readOne_1 : decode cX4_readOne 1 = .ok (.getfield 34, 3) := by decide +kernel
theorem dX4_readOne_4 : decode cX4_readOne 4 = .ok (.iconst 2, 1) := by decide +kernel
theorem dX4_readOne_5 : decode cX4_readOne 5 = .ok (.if_icmp .eq 11, 3) := by decide +kernel
theorem dX4_readOne_8 : decode cX4_readOne 8 = .ok (.aload_n 0, 1) := by decide +kernel
theorem dX4_readOne_9 : decode cX4_readOne 9 = .ok (.getfield 34, 3) := by decide +kernel
theorem dX4_readOne_12 : decode cX4_readOne 12 = .ok (.iconst 3, 1) := by decide +kernel
theorem dX4_readOne_13 : decode cX4_readOne 13 = .ok (.if_icmp .ne 17, 3) := by decide +kernel
theorem dX4_readOne_16 : decode cX4_readOne 16 = .ok (.aload_n 0, 1) := by decide +kernel
theorem dX4_readOne_17 : decode cX4_readOne 17 = .ok (.aload_n 0, 1) := by decide +kernel
theorem dX4_readOne_18 : decode cX4_readOne 18 = .ok (.getfield 68, 3) := by decide +kernel
theorem dX4_readOne_21 : decode cX4_readOne 21 = .ok (.invokevirtual 52, 3) := by decide +kernel
theorem dX4_readOne_24 : decode cX4_readOne 24 = .ok (.aload_n 0, 1) := by decide +kernel
theorem dX4_readOne_25 : decode cX4_readOne 25 = .ok (.invokevirtual 31, 3) := by decide +kernel
theorem dX4_readOne_28 : decode cX4_readOne 28 = .ok (.iconst 1, 1) := by decide +kernel
theorem dX4_readOne_29 : decode cX4_readOne 29 = .ok (.ireturn, 1) := by decide +kernel
theorem dX4_readOne_30 : decode cX4_readOne 30 = .ok (.aload_n 0, 1) := by decide +kernel
theorem dX4_readOne_31 : decode cX4_readOne 31 = .ok (.getfield 34, 3) := by decide +kernel
theorem dX4_readOne_34 : decode cX4_readOne 34 = .ok (.bipush 45, 2) := by decide +kernel
theorem dX4_readOne_36 : decode cX4_readOne 36 = .ok (.if_icmp .eq 12, 3) := by decide +kernel
theorem dX4_readOne_39 : decode cX4_readOne 39 = .ok (.aload_n 0, 1) := by decide +kernel
theorem dX4_readOne_40 : decode cX4_readOne 40 = .ok (.getfield 34, 3) := by decide +kernel
theorem dX4_readOne_43 : decode cX4_readOne 43 = .ok (.bipush 40, 2) := by decide +kernel
theorem dX4_readOne_45 : decode cX4_readOne 45 = .ok (.if_icmp .ne 8, 3) := by decide +kernel
theorem dX4_readOne_48 : decode cX4_readOne 48 = .ok (.iload_n 1, 1) := by decide +kernel
theorem dX4_readOne_49 : decode cX4_readOne 49 = .ok (.iconst 5, 1) := by decide +kernel
theorem dX4_readOne_50 : decode cX4_readOne 50 = .ok (.if_icmp .lt 5, 3) := by decide +kernel
theorem dX4_readOne_53 : decode cX4_readOne 53 = .ok (.iconst 0, 1) := by decide +kernel
theorem dX4_readOne_54 : decode cX4_readOne 54 = .ok (.ireturn, 1) := by decide +kernel
theorem dX4_readOne_55 : decode cX4_readOne 55 = .ok (.aload_n 0, 1) := by decide +kernel
theorem dX4_readOne_56 : decode cX4_readOne 56 = .ok (.getfield 34, 3) := by decide +kernel
theorem dX4_readOne_59 : decode cX4_readOne 59 = .ok (.bipush 45, 2) := by decide +kernel
theorem dX4_readOne_61 : decode cX4_readOne 61 = .ok (.if_icmp .ne 27, 3) := by decide +kernel
theorem dX4_readOne_64 : decode cX4_readOne 64 = .ok (.aload_n 0, 1) := by decide +kernel
theorem dX4_readOne_65 : decode cX4_readOne 65 = .ok (.invokevirtual 31, 3) := by decide +kernel
theorem dX4_readOne_68 : decode cX4_readOne 68 = .ok (.aload_n 0, 1) := by decide +kernel
theorem dX4_readOne_69 : decode cX4_readOne 69 = .ok (.iload_n 1, 1) := by decide +kernel
theorem dX4_readOne_70 : decode cX4_readOne 70 = .ok (.iconst 1, 1) := by decide +kernel
theorem dX4_readOne_71 : decode cX4_readOne 71 = .ok (.iadd, 1) := by decide +kernel
theorem dX4_readOne_72 : decode cX4_readOne 72 = .ok (.invokevirtual 65, 3) := by decide +kernel
theorem dX4_readOne_75 : decode cX4_readOne 75 = .ok (.ifCond .ne 5, 3) := by decide +kernel
theorem dX4_readOne_78 : decode cX4_readOne 78 = .ok (.iconst 0, 1) := by decide +kernel
theorem dX4_readOne_79 : decode cX4_readOne 79 = .ok (.ireturn, 1) := by decide +kernel
theorem dX4_readOne_80 : decode cX4_readOne 80 = .ok (.aload_n 0, 1) := by decide +kernel
theorem dX4_readOne_81 : decode cX4_readOne 81 = .ok (.bipush (-8), 2) := by decide +kernel
theorem dX4_readOne_83 : decode cX4_readOne 83 = .ok (.invokevirtual 52, 3) := by decide +kernel
theorem dX4_readOne_86 : decode cX4_readOne 86 = .ok (.iconst 1, 1) := by decide +kernel
theorem dX4_readOne_87 : decode cX4_readOne 87 = .ok (.ireturn, 1) := by decide +kernel
theorem dX4_readOne_88 : decode cX4_readOne 88 = .ok (.aload_n 0, 1) := by decide +kernel
theorem dX4_readOne_89 : decode cX4_readOne 89 = .ok (.invokevirtual 31, 3) := by decide +kernel
theorem dX4_readOne_92 : decode cX4_readOne 92 = .ok (.aload_n 0, 1) := by decide +kernel
theorem dX4_readOne_93 : decode cX4_readOne 93 = .ok (.iload_n 1, 1) := by decide +kernel
theorem dX4_readOne_94 : decode cX4_readOne 94 = .ok (.iconst 1, 1) := by decide +kernel
theorem dX4_readOne_95 : decode cX4_readOne 95 = .ok (.iadd, 1) := by decide +kernel
theorem dX4_readOne_96 : decode cX4_readOne 96 = .ok (.invokevirtual 43, 3) := by decide +kernel
theorem dX4_readOne_99 : decode cX4_readOne 99 = .ok (.ifCond .eq 12, 3) := by decide +kernel
theorem dX4_readOne_102 : decode cX4_readOne 102 = .ok (.aload_n 0, 1) := by decide +kernel
theorem dX4_readOne_103 : decode cX4_readOne 103 = .ok (.getfield 34, 3) := by decide +kernel
theorem dX4_readOne_106 : decode cX4_readOne 106 = .ok (.bipush 41, 2) := by decide +kernel
theorem dX4_readOne_108 : decode cX4_readOne 108 = .ok (.if_icmp .eq 5, 3) := by decide +kernel
theorem dX4_readOne_111 : decode cX4_readOne 111 = .ok (.iconst 0, 1) := by decide +kernel
theorem dX4_readOne_112 : decode cX4_readOne 112 = .ok (.ireturn, 1) := by decide +kernel
theorem dX4_readOne_113 : decode cX4_readOne 113 = .ok (.aload_n 0, 1) := by decide +kernel
theorem dX4_readOne_114 : decode cX4_readOne 114 = .ok (.invokevirtual 31, 3) := by decide +kernel
theorem dX4_readOne_117 : decode cX4_readOne 117 = .ok (.iconst 1, 1) := by decide +kernel
theorem dX4_readOne_118 : decode cX4_readOne 118 = .ok (.ireturn, 1) := by decide +kernel
theorem dX4_write_0 : decode cX4_write 0 = .ok (.aload_n 0, 1) := by decide +kernel
theorem dX4_write_1 : decode cX4_write 1 = .ok (.getfield 25, 3) := by decide +kernel
theorem dX4_write_4 : decode cX4_write 4 = .ok (.sipush 160, 3) := by decide +kernel
theorem dX4_write_7 : decode cX4_write 7 = .ok (.if_icmp .ge 20, 3) := by decide +kernel
theorem dX4_write_10 : decode cX4_write 10 = .ok (.aload_n 0, 1) := by decide +kernel
theorem dX4_write_11 : decode cX4_write 11 = .ok (.getfield 15, 3) := by decide +kernel
theorem dX4_write_14 : decode cX4_write 14 = .ok (.aload_n 0, 1) := by decide +kernel
theorem dX4_write_15 : decode cX4_write 15 = .ok (.dup, 1) := by decide +kernel
theorem dX4_write_16 : decode cX4_write 16 = .ok (.getfield 25, 3) := by decide +kernel
theorem dX4_write_19 : decode cX4_write 19 = .ok (.dup_x1, 1) := by decide +kernel
theorem dX4_write_20 : decode cX4_write 20 = .ok (.iconst 1, 1) := by decide +kernel
theorem dX4_write_21 : decode cX4_write 21 = .ok (.iadd, 1) := by decide +kernel
theorem dX4_write_22 : decode cX4_write 22 = .ok (.putfield 25, 3) := by decide +kernel
theorem dX4_write_25 : decode cX4_write 25 = .ok (.iload_n 1, 1) := by decide +kernel
theorem dX4_write_26 : decode cX4_write 26 = .ok (.iastore, 1) := by decide +kernel
theorem dX4_write_27 : decode cX4_write 27 = .ok (.return_, 1) := by decide +kernel
theorem dX4_next_0 : decode cX4_next 0 = .ok (.aload_n 0, 1) := by decide +kernel
theorem dX4_next_1 : decode cX4_next 1 = .ok (.aload_n 0, 1) := by decide +kernel
theorem dX4_next_2 : decode cX4_next 2 = .ok (.getfield 28, 3) := by decide +kernel
theorem dX4_next_5 : decode cX4_next 5 = .ok (.putfield 40, 3) := by decide +kernel
theorem dX4_next_8 : decode cX4_next 8 = .ok (.aload_n 0, 1) := by decide +kernel
theorem dX4_next_9 : decode cX4_next 9 = .ok (.getfield 40, 3) := by decide +kernel
theorem dX4_next_12 : decode cX4_next 12 = .ok (.aload_n 0, 1) := by decide +kernel
theorem dX4_next_13 : decode cX4_next 13 = .ok (.getfield 21, 3) := by decide +kernel
theorem dX4_next_16 : decode cX4_next 16 = .ok (.if_icmp .ge 44, 3) := by decide +kernel
theorem dX4_next_19 : decode cX4_next 19 = .ok (.aload_n 0, 1) := by decide +kernel
theorem dX4_next_20 : decode cX4_next 20 = .ok (.getfield 9, 3) := by decide +kernel
theorem dX4_next_23 : decode cX4_next 23 = .ok (.aload_n 0, 1) := by decide +kernel
theorem dX4_next_24 : decode cX4_next 24 = .ok (.getfield 40, 3) := by decide +kernel
theorem dX4_next_27 : decode cX4_next 27 = .ok (.iaload, 1) := by decide +kernel
theorem dX4_next_28 : decode cX4_next 28 = .ok (.bipush 32, 2) := by decide +kernel
theorem dX4_next_30 : decode cX4_next 30 = .ok (.if_icmp .eq 17, 3) := by decide +kernel
theorem dX4_next_33 : decode cX4_next 33 = .ok (.aload_n 0, 1) := by decide +kernel
theorem dX4_next_34 : decode cX4_next 34 = .ok (.getfield 9, 3) := by decide +kernel
theorem dX4_next_37 : decode cX4_next 37 = .ok (.aload_n 0, 1) := by decide +kernel
theorem dX4_next_38 : decode cX4_next 38 = .ok (.getfield 40, 3) := by decide +kernel
theorem dX4_next_41 : decode cX4_next 41 = .ok (.iaload, 1) := by decide +kernel
theorem dX4_next_42 : decode cX4_next 42 = .ok (.bipush 10, 2) := by decide +kernel
theorem dX4_next_44 : decode cX4_next 44 = .ok (.if_icmp .ne 16, 3) := by decide +kernel
theorem dX4_next_47 : decode cX4_next 47 = .ok (.aload_n 0, 1) := by decide +kernel
theorem dX4_next_48 : decode cX4_next 48 = .ok (.dup, 1) := by decide +kernel
theorem dX4_next_49 : decode cX4_next 49 = .ok (.getfield 40, 3) := by decide +kernel
theorem dX4_next_52 : decode cX4_next 52 = .ok (.iconst 1, 1) := by decide +kernel
theorem dX4_next_53 : decode cX4_next 53 = .ok (.iadd, 1) := by decide +kernel
theorem dX4_next_54 : decode cX4_next 54 = .ok (.putfield 40, 3) := by decide +kernel
theorem dX4_next_57 : decode cX4_next 57 = .ok (.goto (-49), 3) := by decide +kernel
theorem dX4_next_60 : decode cX4_next 60 = .ok (.aload_n 0, 1) := by decide +kernel
theorem dX4_next_61 : decode cX4_next 61 = .ok (.aload_n 0, 1) := by decide +kernel
theorem dX4_next_62 : decode cX4_next 62 = .ok (.getfield 40, 3) := by decide +kernel
theorem dX4_next_65 : decode cX4_next 65 = .ok (.putfield 28, 3) := by decide +kernel
theorem dX4_next_68 : decode cX4_next 68 = .ok (.aload_n 0, 1) := by decide +kernel
theorem dX4_next_69 : decode cX4_next 69 = .ok (.getfield 40, 3) := by decide +kernel
theorem dX4_next_72 : decode cX4_next 72 = .ok (.aload_n 0, 1) := by decide +kernel
theorem dX4_next_73 : decode cX4_next 73 = .ok (.getfield 21, 3) := by decide +kernel
theorem dX4_next_76 : decode cX4_next 76 = .ok (.if_icmp .lt 11, 3) := by decide +kernel
theorem dX4_next_79 : decode cX4_next 79 = .ok (.aload_n 0, 1) := by decide +kernel
theorem dX4_next_80 : decode cX4_next 80 = .ok (.iconst 0, 1) := by decide +kernel
theorem dX4_next_81 : decode cX4_next 81 = .ok (.putfield 34, 3) := by decide +kernel
theorem dX4_next_84 : decode cX4_next 84 = .ok (.goto 89, 3) := by decide +kernel
theorem dX4_next_87 : decode cX4_next 87 = .ok (.aload_n 0, 1) := by decide +kernel
theorem dX4_next_88 : decode cX4_next 88 = .ok (.getfield 9, 3) := by decide +kernel
theorem dX4_next_91 : decode cX4_next 91 = .ok (.aload_n 0, 1) := by decide +kernel
theorem dX4_next_92 : decode cX4_next 92 = .ok (.getfield 40, 3) := by decide +kernel
theorem dX4_next_95 : decode cX4_next 95 = .ok (.iaload, 1) := by decide +kernel
theorem dX4_next_96 : decode cX4_next 96 = .ok (.invokestatic 71, 3) := by decide +kernel
theorem dX4_next_99 : decode cX4_next 99 = .ok (.ifCond .eq 10, 3) := by decide +kernel
theorem dX4_next_102 : decode cX4_next 102 = .ok (.aload_n 0, 1) := by decide +kernel
theorem dX4_next_103 : decode cX4_next 103 = .ok (.invokevirtual 74, 3) := by decide +kernel
theorem dX4_next_106 : decode cX4_next 106 = .ok (.goto 67, 3) := by decide +kernel
theorem dX4_next_109 : decode cX4_next 109 = .ok (.aload_n 0, 1) := by decide +kernel
theorem dX4_next_110 : decode cX4_next 110 = .ok (.getfield 9, 3) := by decide +kernel
theorem dX4_next_113 : decode cX4_next 113 = .ok (.aload_n 0, 1) := by decide +kernel
theorem dX4_next_114 : decode cX4_next 114 = .ok (.getfield 40, 3) := by decide +kernel
theorem dX4_next_117 : decode cX4_next 117 = .ok (.iaload, 1) := by decide +kernel
theorem dX4_next_118 : decode cX4_next 118 = .ok (.invokestatic 77, 3) := by decide +kernel
theorem dX4_next_121 : decode cX4_next 121 = .ok (.ifCond .eq 10, 3) := by decide +kernel
theorem dX4_next_124 : decode cX4_next 124 = .ok (.aload_n 0, 1) := by decide +kernel
theorem dX4_next_125 : decode cX4_next 125 = .ok (.invokevirtual 80, 3) := by decide +kernel
theorem dX4_next_128 : decode cX4_next 128 = .ok (.goto 45, 3) := by decide +kernel
theorem dX4_next_131 : decode cX4_next 131 = .ok (.aload_n 0, 1) := by decide +kernel
theorem dX4_next_132 : decode cX4_next 132 = .ok (.dup, 1) := by decide +kernel
theorem dX4_next_133 : decode cX4_next 133 = .ok (.getfield 28, 3) := by decide +kernel
theorem dX4_next_136 : decode cX4_next 136 = .ok (.iconst 1, 1) := by decide +kernel
theorem dX4_next_137 : decode cX4_next 137 = .ok (.iadd, 1) := by decide +kernel
theorem dX4_next_138 : decode cX4_next 138 = .ok (.putfield 28, 3) := by decide +kernel
theorem dX4_next_141 : decode cX4_next 141 = .ok (.aload_n 0, 1) := by decide +kernel
theorem dX4_next_142 : decode cX4_next 142 = .ok (.aload_n 0, 1) := by decide +kernel
theorem dX4_next_143 : decode cX4_next 143 = .ok (.getfield 9, 3) := by decide +kernel
theorem dX4_next_146 : decode cX4_next 146 = .ok (.aload_n 0, 1) := by decide +kernel
theorem dX4_next_147 : decode cX4_next 147 = .ok (.getfield 40, 3) := by decide +kernel
theorem dX4_next_150 : decode cX4_next 150 = .ok (.iaload, 1) := by decide +kernel
theorem dX4_next_151 : decode cX4_next 151 = .ok (.invokestatic 83, 3) := by decide +kernel
theorem dX4_next_154 : decode cX4_next 154 = .ok (.ifCond .eq 15, 3) := by decide +kernel
theorem dX4_next_157 : decode cX4_next 157 = .ok (.aload_n 0, 1) := by decide +kernel
theorem dX4_next_158 : decode cX4_next 158 = .ok (.getfield 9, 3) := by decide +kernel
theorem dX4_next_161 : decode cX4_next 161 = .ok (.aload_n 0, 1) := by decide +kernel
theorem dX4_next_162 : decode cX4_next 162 = .ok (.getfield 40, 3) := by decide +kernel
theorem dX4_next_165 : decode cX4_next 165 = .ok (.iaload, 1) := by decide +kernel
theorem dX4_next_166 : decode cX4_next 166 = .ok (.goto 4, 3) := by decide +kernel
theorem dX4_next_169 : decode cX4_next 169 = .ok (.iconst 1, 1) := by decide +kernel
theorem dX4_next_170 : decode cX4_next 170 = .ok (.putfield 34, 3) := by decide +kernel
theorem dX4_next_173 : decode cX4_next 173 = .ok (.return_, 1) := by decide +kernel
theorem dX4_takeWord_0 : decode cX4_takeWord 0 = .ok (.aload_n 0, 1) := by decide +kernel
theorem dX4_takeWord_1 : decode cX4_takeWord 1 = .ok (.getfield 28, 3) := by decide +kernel
theorem dX4_takeWord_4 : decode cX4_takeWord 4 = .ok (.aload_n 0, 1) := by decide +kernel
theorem dX4_takeWord_5 : decode cX4_takeWord 5 = .ok (.getfield 21, 3) := by decide +kernel
theorem dX4_takeWord_8 : decode cX4_takeWord 8 = .ok (.if_icmp .ge 31, 3) := by decide +kernel
theorem dX4_takeWord_11 : decode cX4_takeWord 11 = .ok (.aload_n 0, 1) := by decide +kernel
theorem dX4_takeWord_12 : decode cX4_takeWord 12 = .ok (.getfield 9, 3) := by decide +kernel
theorem dX4_takeWord_15 : decode cX4_takeWord 15 = .ok (.aload_n 0, 1) := by decide +kernel
theorem dX4_takeWord_16 : decode cX4_takeWord 16 = .ok (.getfield 28, 3) := by decide +kernel
theorem dX4_takeWord_19 : decode cX4_takeWord 19 = .ok (.iaload, 1) := by decide +kernel
theorem dX4_takeWord_20 : decode cX4_takeWord 20 = .ok (.invokestatic 71, 3) := by decide +kernel
theorem dX4_takeWord_23 : decode cX4_takeWord 23 = .ok (.ifCond .eq 16, 3) := by decide +kernel
theorem dX4_takeWord_26 : decode cX4_takeWord 26 = .ok (.aload_n 0, 1) := by decide +kernel
theorem dX4_takeWord_27 : decode cX4_takeWord 27 = .ok (.dup, 1) := by decide +kernel
theorem dX4_takeWord_28 : decode cX4_takeWord 28 = .ok (.getfield 28, 3) := by decide +kernel
theorem dX4_takeWord_31 : decode cX4_takeWord 31 = .ok (.iconst 1, 1) := by decide +kernel
theorem dX4_takeWord_32 : decode cX4_takeWord 32 = .ok (.iadd, 1) := by decide +kernel
theorem dX4_takeWord_33 : decode cX4_takeWord 33 = .ok (.putfield 28, 3) := by decide +kernel
theorem dX4_takeWord_36 : decode cX4_takeWord 36 = .ok (.goto (-36), 3) := by decide +kernel
theorem dX4_takeWord_39 : decode cX4_takeWord 39 = .ok (.aload_n 0, 1) := by decide +kernel
theorem dX4_takeWord_40 : decode cX4_takeWord 40 = .ok (.invokevirtual 86, 3) := by decide +kernel
theorem dX4_takeWord_43 : decode cX4_takeWord 43 = .ok (.istore_n 1, 1) := by decide +kernel
theorem dX4_takeWord_44 : decode cX4_takeWord 44 = .ok (.aload_n 0, 1) := by decide +kernel
theorem dX4_takeWord_45 : decode cX4_takeWord 45 = .ok (.iload_n 1, 1) := by decide +kernel
theorem dX4_takeWord_46 : decode cX4_takeWord 46 = .ok (.iconst (-1), 1) := by decide +kernel
theorem dX4_takeWord_47 : decode cX4_takeWord 47 = .ok (.if_icmp .ne 10, 3) := by decide +kernel
theorem dX4_takeWord_50 : decode cX4_takeWord 50 = .ok (.aload_n 0, 1) := by decide +kernel
theorem dX4_takeWord_51 : decode cX4_takeWord 51 = .ok (.invokevirtual 90, 3) := by decide +kernel
theorem dX4_takeWord_54 : decode cX4_takeWord 54 = .ok (.goto 4, 3) := by decide +kernel
theorem dX4_takeWord_57 : decode cX4_takeWord 57 = .ok (.iconst 3, 1) := by decide +kernel
theorem dX4_takeWord_58 : decode cX4_takeWord 58 = .ok (.putfield 34, 3) := by decide +kernel
theorem dX4_takeWord_61 : decode cX4_takeWord 61 = .ok (.aload_n 0, 1) := by decide +kernel
theorem dX4_takeWord_62 : decode cX4_takeWord 62 = .ok (.iconst (-1), 1) := by decide +kernel
theorem dX4_takeWord_63 : decode cX4_takeWord 63 = .ok (.iload_n 1, 1) := by decide +kernel
theorem dX4_takeWord_64 : decode cX4_takeWord 64 = .ok (.isub, 1) := by decide +kernel
theorem dX4_takeWord_65 : decode cX4_takeWord 65 = .ok (.putfield 68, 3) := by decide +kernel
theorem dX4_takeWord_68 : decode cX4_takeWord 68 = .ok (.return_, 1) := by decide +kernel
theorem dX4_takeDigits_0 : decode cX4_takeDigits 0 = .ok (.aload_n 0, 1) := by decide +kernel
theorem dX4_takeDigits_1 : decode cX4_takeDigits 1 = .ok (.iconst 0, 1) := by decide +kernel
theorem dX4_takeDigits_2 : decode cX4_takeDigits 2 = .ok (.putfield 68, 3) := by decide +kernel
theorem dX4_takeDigits_5 : decode cX4_takeDigits 5 = .ok (.aload_n 0, 1) := by decide +kernel
theorem dX4_takeDigits_6 : decode cX4_takeDigits 6 = .ok (.getfield 28, 3) := by decide +kernel
theorem dX4_takeDigits_9 : decode cX4_takeDigits 9 = .ok (.aload_n 0, 1) := by decide +kernel
theorem dX4_takeDigits_10 : decode cX4_takeDigits 10 = .ok (.getfield 21, 3) := by decide +kernel
theorem dX4_takeDigits_13 : decode cX4_takeDigits 13 = .ok (.if_icmp .ge 68, 3) := by decide +kernel
theorem dX4_takeDigits_16 : decode cX4_takeDigits 16 = .ok (.aload_n 0, 1) := by decide +kernel
theorem dX4_takeDigits_17 : decode cX4_takeDigits 17 = .ok (.getfield 9, 3) := by decide +kernel
theorem dX4_takeDigits_20 : decode cX4_takeDigits 20 = .ok (.aload_n 0, 1) := by decide +kernel
theorem dX4_takeDigits_21 : decode cX4_takeDigits 21 = .ok (.getfield 28, 3) := by decide +kernel
theorem dX4_takeDigits_24 : decode cX4_takeDigits 24 = .ok (.iaload, 1) := by decide +kernel
theorem dX4_takeDigits_25 : decode cX4_takeDigits 25 = .ok (.invokestatic 77, 3) := by decide +kernel
theorem dX4_takeDigits_28 : decode cX4_takeDigits 28 = .ok (.ifCond .eq 53, 3) := by decide +kernel
theorem dX4_takeDigits_31 : decode cX4_takeDigits 31 = .ok (.aload_n 0, 1) := by decide +kernel
theorem dX4_takeDigits_32 : decode cX4_takeDigits 32 = .ok (.getfield 28, 3) := by decide +kernel
theorem dX4_takeDigits_35 : decode cX4_takeDigits 35 = .ok (.aload_n 0, 1) := by decide +kernel
theorem dX4_takeDigits_36 : decode cX4_takeDigits 36 = .ok (.getfield 40, 3) := by decide +kernel
theorem dX4_takeDigits_39 : decode cX4_takeDigits 39 = .ok (.isub, 1) := by decide +kernel
theorem dX4_takeDigits_40 : decode cX4_takeDigits 40 = .ok (.iconst 4, 1) := by decide +kernel
theorem dX4_takeDigits_41 : decode cX4_takeDigits 41 = .ok (.if_icmp .ge 27, 3) := by decide +kernel
theorem dX4_takeDigits_44 : decode cX4_takeDigits 44 = .ok (.aload_n 0, 1) := by decide +kernel
theorem dX4_takeDigits_45 : decode cX4_takeDigits 45 = .ok (.aload_n 0, 1) := by decide +kernel
theorem dX4_takeDigits_46 : decode cX4_takeDigits 46 = .ok (.getfield 68, 3) := by decide +kernel
theorem dX4_takeDigits_49 : decode cX4_takeDigits 49 = .ok (.bipush 10, 2) := by decide +kernel
theorem dX4_takeDigits_51 : decode cX4_takeDigits 51 = .ok (.imul, 1) := by decide +kernel
theorem dX4_takeDigits_52 : decode cX4_takeDigits 52 = .ok (.aload_n 0, 1) := by decide +kernel
theorem dX4_takeDigits_53 : decode cX4_takeDigits 53 = .ok (.getfield 9, 3) := by decide +kernel
theorem dX4_takeDigits_56 : decode cX4_takeDigits 56 = .ok (.aload_n 0, 1) := by decide +kernel
theorem dX4_takeDigits_57 : decode cX4_takeDigits 57 = .ok (.getfield 28, 3) := by decide +kernel
theorem dX4_takeDigits_60 : decode cX4_takeDigits 60 = .ok (.iaload, 1) := by decide +kernel
theorem dX4_takeDigits_61 : decode cX4_takeDigits 61 = .ok (.iadd, 1) := by decide +kernel
theorem dX4_takeDigits_62 : decode cX4_takeDigits 62 = .ok (.bipush 48, 2) := by decide +kernel
theorem dX4_takeDigits_64 : decode cX4_takeDigits 64 = .ok (.isub, 1) := by decide +kernel
theorem dX4_takeDigits_65 : decode cX4_takeDigits 65 = .ok (.putfield 68, 3) := by decide +kernel
theorem dX4_takeDigits_68 : decode cX4_takeDigits 68 = .ok (.aload_n 0, 1) := by decide +kernel
theorem dX4_takeDigits_69 : decode cX4_takeDigits 69 = .ok (.dup, 1) := by decide +kernel
theorem dX4_takeDigits_70 : decode cX4_takeDigits 70 = .ok (.getfield 28, 3) := by decide +kernel
theorem dX4_takeDigits_73 : decode cX4_takeDigits 73 = .ok (.iconst 1, 1) := by decide +kernel
theorem dX4_takeDigits_74 : decode cX4_takeDigits 74 = .ok (.iadd, 1) := by decide +kernel
theorem dX4_takeDigits_75 : decode cX4_takeDigits 75 = .ok (.putfield 28, 3) := by decide +kernel
theorem dX4_takeDigits_78 : decode cX4_takeDigits 78 = .ok (.goto (-73), 3) := by decide +kernel
theorem dX4_takeDigits_81 : decode cX4_takeDigits 81 = .ok (.aload_n 0, 1) := by decide +kernel
theorem dX4_takeDigits_82 : decode cX4_takeDigits 82 = .ok (.aload_n 0, 1) := by decide +kernel
theorem dX4_takeDigits_83 : decode cX4_takeDigits 83 = .ok (.getfield 28, 3) := by decide +kernel
theorem dX4_takeDigits_86 : decode cX4_takeDigits 86 = .ok (.aload_n 0, 1) := by decide +kernel
theorem dX4_takeDigits_87 : decode cX4_takeDigits 87 = .ok (.getfield 40, 3) := by decide +kernel
theorem dX4_takeDigits_90 : decode cX4_takeDigits 90 = .ok (.isub, 1) := by decide +kernel
theorem dX4_takeDigits_91 : decode cX4_takeDigits 91 = .ok (.iconst 4, 1) := by decide +kernel
theorem dX4_takeDigits_92 : decode cX4_takeDigits 92 = .ok (.if_icmp .le 7, 3) := by decide +kernel
theorem dX4_takeDigits_95 : decode cX4_takeDigits 95 = .ok (.iconst 1, 1) := by decide +kernel
theorem dX4_takeDigits_96 : decode cX4_takeDigits 96 = .ok (.goto 4, 3) := by decide +kernel
theorem dX4_takeDigits_99 : decode cX4_takeDigits 99 = .ok (.iconst 2, 1) := by decide +kernel
theorem dX4_takeDigits_100 : decode cX4_takeDigits 100 = .ok (.putfield 34, 3) := by decide +kernel
theorem dX4_takeDigits_103 : decode cX4_takeDigits 103 = .ok (.return_, 1) := by decide +kernel
theorem dX4_nameAtHand_0 : decode cX4_nameAtHand 0 = .ok (.aload_n 0, 1) := by decide +kernel
theorem dX4_nameAtHand_1 : decode cX4_nameAtHand 1 = .ok (.ldc 93, 2) := by decide +kernel
theorem dX4_nameAtHand_3 : decode cX4_nameAtHand 3 = .ok (.invokevirtual 95, 3) := by decide +kernel
theorem dX4_nameAtHand_6 : decode cX4_nameAtHand 6 = .ok (.ifCond .eq 7, 3) := by decide +kernel
theorem dX4_nameAtHand_9 : decode cX4_nameAtHand 9 = .ok (.iconst 0, 1) := by decide +kernel
theorem dX4_nameAtHand_10 : decode cX4_nameAtHand 10 = .ok (.goto 69, 3) := by decide +kernel
theorem dX4_nameAtHand_13 : decode cX4_nameAtHand 13 = .ok (.aload_n 0, 1) := by decide +kernel
theorem dX4_nameAtHand_14 : decode cX4_nameAtHand 14 = .ok (.ldc 99, 2) := by decide +kernel
theorem dX4_nameAtHand_16 : decode cX4_nameAtHand 16 = .ok (.invokevirtual 95, 3) := by decide +kernel
theorem dX4_nameAtHand_19 : decode cX4_nameAtHand 19 = .ok (.ifCond .eq 7, 3) := by decide +kernel
theorem dX4_nameAtHand_22 : decode cX4_nameAtHand 22 = .ok (.iconst 1, 1) := by decide +kernel
theorem dX4_nameAtHand_23 : decode cX4_nameAtHand 23 = .ok (.goto 56, 3) := by decide +kernel
theorem dX4_nameAtHand_26 : decode cX4_nameAtHand 26 = .ok (.aload_n 0, 1) := by decide +kernel
theorem dX4_nameAtHand_27 : decode cX4_nameAtHand 27 = .ok (.ldc 101, 2) := by decide +kernel
theorem dX4_nameAtHand_29 : decode cX4_nameAtHand 29 = .ok (.invokevirtual 95, 3) := by decide +kernel
theorem dX4_nameAtHand_32 : decode cX4_nameAtHand 32 = .ok (.ifCond .eq 7, 3) := by decide +kernel
theorem dX4_nameAtHand_35 : decode cX4_nameAtHand 35 = .ok (.iconst 2, 1) := by decide +kernel
theorem dX4_nameAtHand_36 : decode cX4_nameAtHand 36 = .ok (.goto 43, 3) := by decide +kernel
theorem dX4_nameAtHand_39 : decode cX4_nameAtHand 39 = .ok (.aload_n 0, 1) := by decide +kernel
theorem dX4_nameAtHand_40 : decode cX4_nameAtHand 40 = .ok (.ldc 103, 2) := by decide +kernel
theorem dX4_nameAtHand_42 : decode cX4_nameAtHand 42 = .ok (.invokevirtual 95, 3) := by decide +kernel
theorem dX4_nameAtHand_45 : decode cX4_nameAtHand 45 = .ok (.ifCond .eq 7, 3) := by decide +kernel
theorem dX4_nameAtHand_48 : decode cX4_nameAtHand 48 = .ok (.iconst 3, 1) := by decide +kernel
theorem dX4_nameAtHand_49 : decode cX4_nameAtHand 49 = .ok (.goto 30, 3) := by decide +kernel
theorem dX4_nameAtHand_52 : decode cX4_nameAtHand 52 = .ok (.aload_n 0, 1) := by decide +kernel
theorem dX4_nameAtHand_53 : decode cX4_nameAtHand 53 = .ok (.ldc 105, 2) := by decide +kernel
theorem dX4_nameAtHand_55 : decode cX4_nameAtHand 55 = .ok (.invokevirtual 95, 3) := by decide +kernel
theorem dX4_nameAtHand_58 : decode cX4_nameAtHand 58 = .ok (.ifCond .eq 7, 3) := by decide +kernel
theorem dX4_nameAtHand_61 : decode cX4_nameAtHand 61 = .ok (.iconst 4, 1) := by decide +kernel
theorem dX4_nameAtHand_62 : decode cX4_nameAtHand 62 = .ok (.goto 17, 3) := by decide +kernel
theorem dX4_nameAtHand_65 : decode cX4_nameAtHand 65 = .ok (.aload_n 0, 1) := by decide +kernel
theorem dX4_nameAtHand_66 : decode cX4_nameAtHand 66 = .ok (.ldc 107, 2) := by decide +kernel
theorem dX4_nameAtHand_68 : decode cX4_nameAtHand 68 = .ok (.invokevirtual 95, 3) := by decide +kernel
theorem dX4_nameAtHand_71 : decode cX4_nameAtHand 71 = .ok (.ifCond .eq 7, 3) := by decide +kernel
theorem dX4_nameAtHand_74 : decode cX4_nameAtHand 74 = .ok (.iconst 5, 1) := by decide +kernel
theorem dX4_nameAtHand_75 : decode cX4_nameAtHand 75 = .ok (.goto 4, 3) := by decide +kernel
theorem dX4_nameAtHand_78 : decode cX4_nameAtHand 78 = .ok (.iconst (-1), 1) := by decide +kernel
theorem dX4_nameAtHand_79 : decode cX4_nameAtHand 79 = .ok (.ireturn, 1) := by decide +kernel
theorem dX4_keyAtHand_0 : decode cX4_keyAtHand 0 = .ok (.aload_n 0, 1) := by decide +kernel
theorem dX4_keyAtHand_1 : decode cX4_keyAtHand 1 = .ok (.ldc 109, 2) := by decide +kernel
theorem dX4_keyAtHand_3 : decode cX4_keyAtHand 3 = .ok (.invokevirtual 95, 3) := by decide +kernel
theorem dX4_keyAtHand_6 : decode cX4_keyAtHand 6 = .ok (.ifCond .eq 7, 3) := by decide +kernel
theorem dX4_keyAtHand_9 : decode cX4_keyAtHand 9 = .ok (.iconst 4, 1) := by decide +kernel
theorem dX4_keyAtHand_10 : decode cX4_keyAtHand 10 = .ok (.goto 73, 3) := by decide +kernel
theorem dX4_keyAtHand_13 : decode cX4_keyAtHand 13 = .ok (.aload_n 0, 1) := by decide +kernel
theorem dX4_keyAtHand_14 : decode cX4_keyAtHand 14 = .ok (.ldc 111, 2) := by decide +kernel
theorem dX4_keyAtHand_16 : decode cX4_keyAtHand 16 = .ok (.invokevirtual 95, 3) := by decide +kernel
theorem dX4_keyAtHand_19 : decode cX4_keyAtHand 19 = .ok (.ifCond .eq 7, 3) := by decide +kernel
theorem dX4_keyAtHand_22 : decode cX4_keyAtHand 22 = .ok (.iconst 5, 1) := by decide +kernel
theorem dX4_keyAtHand_23 : decode cX4_keyAtHand 23 = .ok (.goto 60, 3) := by decide +kernel
theorem dX4_keyAtHand_26 : decode cX4_keyAtHand 26 = .ok (.aload_n 0, 1) := by decide +kernel
theorem dX4_keyAtHand_27 : decode cX4_keyAtHand 27 = .ok (.ldc 113, 2) := by decide +kernel
theorem dX4_keyAtHand_29 : decode cX4_keyAtHand 29 = .ok (.invokevirtual 95, 3) := by decide +kernel
theorem dX4_keyAtHand_32 : decode cX4_keyAtHand 32 = .ok (.ifCond .eq 8, 3) := by decide +kernel
theorem dX4_keyAtHand_35 : decode cX4_keyAtHand 35 = .ok (.bipush 6, 2) := by decide +kernel
theorem dX4_keyAtHand_37 : decode cX4_keyAtHand 37 = .ok (.goto 46, 3) := by decide +kernel
theorem dX4_keyAtHand_40 : decode cX4_keyAtHand 40 = .ok (.aload_n 0, 1) := by decide +kernel
theorem dX4_keyAtHand_41 : decode cX4_keyAtHand 41 = .ok (.ldc 115, 2) := by decide +kernel
theorem dX4_keyAtHand_43 : decode cX4_keyAtHand 43 = .ok (.invokevirtual 95, 3) := by decide +kernel
theorem dX4_keyAtHand_46 : decode cX4_keyAtHand 46 = .ok (.ifCond .eq 8, 3) := by decide +kernel
theorem dX4_keyAtHand_49 : decode cX4_keyAtHand 49 = .ok (.bipush 7, 2) := by decide +kernel
theorem dX4_keyAtHand_51 : decode cX4_keyAtHand 51 = .ok (.goto 32, 3) := by decide +kernel
theorem dX4_keyAtHand_54 : decode cX4_keyAtHand 54 = .ok (.aload_n 0, 1) := by decide +kernel
theorem dX4_keyAtHand_55 : decode cX4_keyAtHand 55 = .ok (.ldc 117, 2) := by decide +kernel
theorem dX4_keyAtHand_57 : decode cX4_keyAtHand 57 = .ok (.invokevirtual 95, 3) := by decide +kernel
theorem dX4_keyAtHand_60 : decode cX4_keyAtHand 60 = .ok (.ifCond .eq 8, 3) := by decide +kernel
theorem dX4_keyAtHand_63 : decode cX4_keyAtHand 63 = .ok (.bipush 8, 2) := by decide +kernel
theorem dX4_keyAtHand_65 : decode cX4_keyAtHand 65 = .ok (.goto 18, 3) := by decide +kernel
theorem dX4_keyAtHand_68 : decode cX4_keyAtHand 68 = .ok (.aload_n 0, 1) := by decide +kernel
theorem dX4_keyAtHand_69 : decode cX4_keyAtHand 69 = .ok (.ldc 119, 2) := by decide +kernel
theorem dX4_keyAtHand_71 : decode cX4_keyAtHand 71 = .ok (.invokevirtual 95, 3) := by decide +kernel
theorem dX4_keyAtHand_74 : decode cX4_keyAtHand 74 = .ok (.ifCond .eq 8, 3) := by decide +kernel
theorem dX4_keyAtHand_77 : decode cX4_keyAtHand 77 = .ok (.bipush 9, 2) := by decide +kernel
theorem dX4_keyAtHand_79 : decode cX4_keyAtHand 79 = .ok (.goto 4, 3) := by decide +kernel
theorem dX4_keyAtHand_82 : decode cX4_keyAtHand 82 = .ok (.iconst 1, 1) := by decide +kernel
theorem dX4_keyAtHand_83 : decode cX4_keyAtHand 83 = .ok (.ireturn, 1) := by decide +kernel
theorem dX4_isWord_0 : decode cX4_isWord 0 = .ok (.aload_n 1, 1) := by decide +kernel
theorem dX4_isWord_1 : decode cX4_isWord 1 = .ok (.invokevirtual 121, 3) := by decide +kernel
theorem dX4_isWord_4 : decode cX4_isWord 4 = .ok (.aload_n 0, 1) := by decide +kernel
theorem dX4_isWord_5 : decode cX4_isWord 5 = .ok (.getfield 28, 3) := by decide +kernel
theorem dX4_isWord_8 : decode cX4_isWord 8 = .ok (.aload_n 0, 1) := by decide +kernel
theorem dX4_isWord_9 : decode cX4_isWord 9 = .ok (.getfield 40, 3) := by decide +kernel
theorem dX4_isWord_12 : decode cX4_isWord 12 = .ok (.isub, 1) := by decide +kernel
theorem dX4_isWord_13 : decode cX4_isWord 13 = .ok (.if_icmp .eq 5, 3) := by decide +kernel
theorem dX4_isWord_16 : decode cX4_isWord 16 = .ok (.iconst 0, 1) := by decide +kernel
theorem dX4_isWord_17 : decode cX4_isWord 17 = .ok (.ireturn, 1) := by decide +kernel
theorem dX4_isWord_18 : decode cX4_isWord 18 = .ok (.iconst 0, 1) := by decide +kernel
theorem dX4_isWord_19 : decode cX4_isWord 19 = .ok (.istore_n 2, 1) := by decide +kernel
theorem dX4_isWord_20 : decode cX4_isWord 20 = .ok (.iload_n 2, 1) := by decide +kernel
theorem dX4_isWord_21 : decode cX4_isWord 21 = .ok (.aload_n 1, 1) := by decide +kernel
theorem dX4_isWord_22 : decode cX4_isWord 22 = .ok (.invokevirtual 121, 3) := by decide +kernel
theorem dX4_isWord_25 : decode cX4_isWord 25 = .ok (.if_icmp .ge 30, 3) := by decide +kernel
theorem dX4_isWord_28 : decode cX4_isWord 28 = .ok (.aload_n 0, 1) := by decide +kernel
theorem dX4_isWord_29 : decode cX4_isWord 29 = .ok (.getfield 9, 3) := by decide +kernel
theorem dX4_isWord_32 : decode cX4_isWord 32 = .ok (.aload_n 0, 1) := by decide +kernel
theorem dX4_isWord_33 : decode cX4_isWord 33 = .ok (.getfield 40, 3) := by decide +kernel
theorem dX4_isWord_36 : decode cX4_isWord 36 = .ok (.iload_n 2, 1) := by decide +kernel
theorem dX4_isWord_37 : decode cX4_isWord 37 = .ok (.iadd, 1) := by decide +kernel
theorem dX4_isWord_38 : decode cX4_isWord 38 = .ok (.iaload, 1) := by decide +kernel
theorem dX4_isWord_39 : decode cX4_isWord 39 = .ok (.aload_n 1, 1) := by decide +kernel
theorem dX4_isWord_40 : decode cX4_isWord 40 = .ok (.iload_n 2, 1) := by decide +kernel
theorem dX4_isWord_41 : decode cX4_isWord 41 = .ok (.invokevirtual 126, 3) := by decide +kernel
theorem dX4_isWord_44 : decode cX4_isWord 44 = .ok (.if_icmp .eq 5, 3) := by decide +kernel
theorem dX4_isWord_47 : decode cX4_isWord 47 = .ok (.iconst 0, 1) := by decide +kernel
theorem dX4_isWord_48 : decode cX4_isWord 48 = .ok (.ireturn, 1) := by decide +kernel
theorem dX4_isWord_49 : decode cX4_isWord 49 = .ok (.iinc 2 1, 3) := by decide +kernel
theorem dX4_isWord_52 : decode cX4_isWord 52 = .ok (.goto (-32), 3) := by decide +kernel
theorem dX4_isWord_55 : decode cX4_isWord 55 = .ok (.iconst 1, 1) := by decide +kernel
theorem dX4_isWord_56 : decode cX4_isWord 56 = .ok (.ireturn, 1) := by decide +kernel
theorem dX4_isLetter_0 : decode cX4_isLetter 0 = .ok (.iload_n 0, 1) := by decide +kernel
theorem dX4_isLetter_1 : decode cX4_isLetter 1 = .ok (.bipush 97, 2) := by decide +kernel
theorem dX4_isLetter_3 : decode cX4_isLetter 3 = .ok (.if_icmp .lt 13, 3) := by decide +kernel
theorem dX4_isLetter_6 : decode cX4_isLetter 6 = .ok (.iload_n 0, 1) := by decide +kernel
theorem dX4_isLetter_7 : decode cX4_isLetter 7 = .ok (.bipush 122, 2) := by decide +kernel
theorem dX4_isLetter_9 : decode cX4_isLetter 9 = .ok (.if_icmp .gt 7, 3) := by decide +kernel
theorem dX4_isLetter_12 : decode cX4_isLetter 12 = .ok (.iconst 1, 1) := by decide +kernel
theorem dX4_isLetter_13 : decode cX4_isLetter 13 = .ok (.goto 4, 3) := by decide +kernel
theorem dX4_isLetter_16 : decode cX4_isLetter 16 = .ok (.iconst 0, 1) := by decide +kernel
theorem dX4_isLetter_17 : decode cX4_isLetter 17 = .ok (.ireturn, 1) := by decide +kernel
theorem dX4_isDigit_0 : decode cX4_isDigit 0 = .ok (.iload_n 0, 1) := by decide +kernel
theorem dX4_isDigit_1 : decode cX4_isDigit 1 = .ok (.bipush 48, 2) := by decide +kernel
theorem dX4_isDigit_3 : decode cX4_isDigit 3 = .ok (.if_icmp .lt 13, 3) := by decide +kernel
theorem dX4_isDigit_6 : decode cX4_isDigit 6 = .ok (.iload_n 0, 1) := by decide +kernel
theorem dX4_isDigit_7 : decode cX4_isDigit 7 = .ok (.bipush 57, 2) := by decide +kernel
theorem dX4_isDigit_9 : decode cX4_isDigit 9 = .ok (.if_icmp .gt 7, 3) := by decide +kernel
theorem dX4_isDigit_12 : decode cX4_isDigit 12 = .ok (.iconst 1, 1) := by decide +kernel
theorem dX4_isDigit_13 : decode cX4_isDigit 13 = .ok (.goto 4, 3) := by decide +kernel
theorem dX4_isDigit_16 : decode cX4_isDigit 16 = .ok (.iconst 0, 1) := by decide +kernel
theorem dX4_isDigit_17 : decode cX4_isDigit 17 = .ok (.ireturn, 1) := by decide +kernel
theorem dX4_isSign_0 : decode cX4_isSign 0 = .ok (.iload_n 0, 1) := by decide +kernel
theorem dX4_isSign_1 : decode cX4_isSign 1 = .ok (.bipush 40, 2) := by decide +kernel
theorem dX4_isSign_3 : decode cX4_isSign 3 = .ok (.if_icmp .lt 9, 3) := by decide +kernel
theorem dX4_isSign_6 : decode cX4_isSign 6 = .ok (.iload_n 0, 1) := by decide +kernel
theorem dX4_isSign_7 : decode cX4_isSign 7 = .ok (.bipush 43, 2) := by decide +kernel
theorem dX4_isSign_9 : decode cX4_isSign 9 = .ok (.if_icmp .le 21, 3) := by decide +kernel
theorem dX4_isSign_12 : decode cX4_isSign 12 = .ok (.iload_n 0, 1) := by decide +kernel
theorem dX4_isSign_13 : decode cX4_isSign 13 = .ok (.bipush 45, 2) := by decide +kernel
theorem dX4_isSign_15 : decode cX4_isSign 15 = .ok (.if_icmp .eq 15, 3) := by decide +kernel
theorem dX4_isSign_18 : decode cX4_isSign 18 = .ok (.iload_n 0, 1) := by decide +kernel
theorem dX4_isSign_19 : decode cX4_isSign 19 = .ok (.bipush 59, 2) := by decide +kernel
theorem dX4_isSign_21 : decode cX4_isSign 21 = .ok (.if_icmp .lt 13, 3) := by decide +kernel
theorem dX4_isSign_24 : decode cX4_isSign 24 = .ok (.iload_n 0, 1) := by decide +kernel
theorem dX4_isSign_25 : decode cX4_isSign 25 = .ok (.bipush 61, 2) := by decide +kernel
theorem dX4_isSign_27 : decode cX4_isSign 27 = .ok (.if_icmp .gt 7, 3) := by decide +kernel
theorem dX4_isSign_30 : decode cX4_isSign 30 = .ok (.iconst 1, 1) := by decide +kernel
theorem dX4_isSign_31 : decode cX4_isSign 31 = .ok (.goto 4, 3) := by decide +kernel
theorem dX4_isSign_34 : decode cX4_isSign 34 = .ok (.iconst 0, 1) := by decide +kernel
theorem dX4_isSign_35 : decode cX4_isSign 35 = .ok (.ireturn, 1) := by decide +kernel
theorem dX5_init_0 : decode cX5_init 0 = .ok (.aload_n 0, 1) := by decide +kernel
theorem dX5_init_1 : decode cX5_init 1 = .ok (.invokespecial 3, 3) := by decide +kernel
theorem dX5_init_4 : decode cX5_init 4 = .ok (.aload_n 0, 1) := by decide +kernel
theorem dX5_init_5 : decode cX5_init 5 = .ok (.iconst (-1), 1) := by decide +kernel
theorem dX5_init_6 : decode cX5_init 6 = .ok (.putfield 9, 3) := by decide +kernel
theorem dX5_init_9 : decode cX5_init 9 = .ok (.aload_n 0, 1) := by decide +kernel
theorem dX5_init_10 : decode cX5_init 10 = .ok (.bipush 40, 2) := by decide +kernel
theorem dX5_init_12 : decode cX5_init 12 = .ok (.newarray .int, 2) := by decide +kernel
theorem dX5_init_14 : decode cX5_init 14 = .ok (.putfield 15, 3) := by decide +kernel
theorem dX5_init_17 : decode cX5_init 17 = .ok (.return_, 1) := by decide +kernel
theorem dX5_become_0 : decode cX5_become 0 = .ok (.aload_n 0, 1) := by decide +kernel
theorem dX5_become_1 : decode cX5_become 1 = .ok (.iload_n 1, 1) := by decide +kernel
theorem dX5_become_2 : decode cX5_become 2 = .ok (.putfield 9, 3) := by decide +kernel
theorem dX5_become_5 : decode cX5_become 5 = .ok (.aload_n 0, 1) := by decide +kernel
theorem dX5_become_6 : decode cX5_become 6 = .ok (.iload_n 2, 1) := by decide +kernel
theorem dX5_become_7 : decode cX5_become 7 = .ok (.putfield 19, 3) := by decide +kernel
theorem dX5_become_10 : decode cX5_become 10 = .ok (.aload_n 0, 1) := by decide +kernel
theorem dX5_become_11 : decode cX5_become 11 = .ok (.getfield 15, 3) := by decide +kernel
theorem dX5_become_14 : decode cX5_become 14 = .ok (.iconst 0, 1) := by decide +kernel
theorem dX5_become_15 : decode cX5_become 15 = .ok (.invokestatic 22, 3) := by decide +kernel
theorem dX5_become_18 : decode cX5_become 18 = .ok (.return_, 1) := by decide +kernel
theorem dX5_hasRoom_0 : decode cX5_hasRoom 0 = .ok (.iload_n 2, 1) := by decide +kernel
theorem dX5_hasRoom_1 : decode cX5_hasRoom 1 = .ok (.ifCond .lt 29, 3) := by decide +kernel
theorem dX5_hasRoom_4 : decode cX5_hasRoom 4 = .ok (.iload_n 2, 1) := by decide +kernel
theorem dX5_hasRoom_5 : decode cX5_hasRoom 5 = .ok (.aload_n 0, 1) := by decide +kernel
theorem dX5_hasRoom_6 : decode cX5_hasRoom 6 = .ok (.getfield 19, 3) := by decide +kernel
theorem dX5_hasRoom_9 : decode cX5_hasRoom 9 = .ok (.if_icmp .gt 21, 3) := by decide +kernel
theorem dX5_hasRoom_12 : decode cX5_hasRoom 12 = .ok (.iload_n 1, 1) := by decide +kernel
theorem dX5_hasRoom_13 : decode cX5_hasRoom 13 = .ok (.ifCond .lt 17, 3) := by decide +kernel
theorem dX5_hasRoom_16 : decode cX5_hasRoom 16 = .ok (.iload_n 1, 1) := by decide +kernel
theorem dX5_hasRoom_17 : decode cX5_hasRoom 17 = .ok (.aload_n 0, 1) := by decide +kernel
theorem dX5_hasRoom_18 : decode cX5_hasRoom 18 = .ok (.getfield 19, 3) := by decide +kernel
theorem dX5_hasRoom_21 : decode cX5_hasRoom 21 = .ok (.iload_n 2, 1) := by decide +kernel
theorem dX5_hasRoom_22 : decode cX5_hasRoom 22 = .ok (.isub, 1) := by decide +kernel
theorem dX5_hasRoom_23 : decode cX5_hasRoom 23 = .ok (.if_icmp .gt 7, 3) := by decide +kernel
theorem dX5_hasRoom_26 : decode cX5_hasRoom 26 = .ok (.iconst 1, 1) := by decide +kernel
theorem dX5_hasRoom_27 : decode cX5_hasRoom 27 = .ok (.goto 4, 3) := by decide +kernel
theorem dX5_hasRoom_30 : decode cX5_hasRoom 30 = .ok (.iconst 0, 1) := by decide +kernel
theorem dX5_hasRoom_31 : decode cX5_hasRoom 31 = .ok (.ireturn, 1) := by decide +kernel
theorem dX5_firstOther_0 : decode cX5_firstOther 0 = .ok (.iconst 0, 1) := by decide +kernel
theorem dX5_firstOther_1 : decode cX5_firstOther 1 = .ok (.istore_n 3, 1) := by decide +kernel
theorem dX5_firstOther_2 : decode cX5_firstOther 2 = .ok (.iload_n 3, 1) := by decide +kernel
theorem dX5_firstOther_3 : decode cX5_firstOther 3 = .ok (.bipush 24, 2) := by decide +kernel
theorem dX5_firstOther_5 : decode cX5_firstOther 5 = .ok (.if_icmp .ge 35, 3) := by decide +kernel
theorem dX5_firstOther_8 : decode cX5_firstOther 8 = .ok (.aload_n 0, 1) := by decide +kernel
theorem dX5_firstOther_9 : decode cX5_firstOther 9 = .ok (.getfield 15, 3) := by decide +kernel
theorem dX5_firstOther_12 : decode cX5_firstOther 12 = .ok (.iload_n 3, 1) := by decide +kernel
theorem dX5_firstOther_13 : decode cX5_firstOther 13 = .ok (.iaload, 1) := by decide +kernel
theorem dX5_firstOther_14 : decode cX5_firstOther 14 = .ok (.aload_n 1, 1) := by decide +kernel
theorem dX5_firstOther_15 : decode cX5_firstOther 15 = .ok (.iload_n 3, 1) := by decide +kernel
theorem dX5_firstOther_16 : decode cX5_firstOther 16 = .ok (.laload, 1) := by decide +kernel
theorem dX5_firstOther_17 : decode cX5_firstOther 17 = .ok (.iload_n 2, 1) := by decide +kernel
theorem dX5_firstOther_18 : decode cX5_firstOther 18 = .ok (.invokestatic 28, 3) := by decide +kernel
theorem dX5_firstOther_21 : decode cX5_firstOther 21 = .ok (.ifCond .eq 7, 3) := by decide +kernel
theorem dX5_firstOther_24 : decode cX5_firstOther 24 = .ok (.iconst 1, 1) := by decide +kernel
theorem dX5_firstOther_25 : decode cX5_firstOther 25 = .ok (.goto 4, 3) := by decide +kernel
theorem dX5_firstOther_28 : decode cX5_firstOther 28 = .ok (.iconst 0, 1) := by decide +kernel
theorem dX5_firstOther_29 : decode cX5_firstOther 29 = .ok (.if_icmp .eq 5, 3) := by decide +kernel
theorem dX5_firstOther_32 : decode cX5_firstOther 32 = .ok (.iload_n 3, 1) := by decide +kernel
theorem dX5_firstOther_33 : decode cX5_firstOther 33 = .ok (.ireturn, 1) := by decide +kernel
theorem dX5_firstOther_34 : decode cX5_firstOther 34 = .ok (.iinc 3 1, 3) := by decide +kernel
theorem dX5_firstOther_37 : decode cX5_firstOther 37 = .ok (.goto (-35), 3) := by decide +kernel
theorem dX5_firstOther_40 : decode cX5_firstOther 40 = .ok (.iconst (-1), 1) := by decide +kernel
theorem dX5_firstOther_41 : decode cX5_firstOther 41 = .ok (.ireturn, 1) := by decide +kernel
theorem dX6_init_0 : decode cX6_init 0 = .ok (.aload_n 0, 1) := by decide +kernel
theorem dX6_init_1 : decode cX6_init 1 = .ok (.invokespecial 3, 3) := by decide +kernel
theorem dX6_init_4 : decode cX6_init 4 = .ok (.aload_n 0, 1) := by decide +kernel
theorem dX6_init_5 : decode cX6_init 5 = .ok (.bipush 6, 2) := by decide +kernel
theorem dX6_init_7 : decode cX6_init 7 = .ok (.sipush 160, 3) := by decide +kernel
theorem dX6_init_10 : decode cX6_init 10 = .ok (.multianewarray 9 2, 4) := by decide +kernel
theorem dX6_init_14 : decode cX6_init 14 = .ok (.putfield 11, 3) := by decide +kernel
theorem dX6_init_17 : decode cX6_init 17 = .ok (.aload_n 0, 1) := by decide +kernel
theorem dX6_init_18 : decode cX6_init 18 = .ok (.bipush 6, 2) := by decide +kernel
theorem dX6_init_20 : decode cX6_init 20 = .ok (.iconst 3, 1) := by decide +kernel
theorem dX6_init_21 : decode cX6_init 21 = .ok (.multianewarray 9 2, 4) := by decide +kernel
theorem dX6_init_25 : decode cX6_init 25 = .ok (.putfield 16, 3) := by decide +kernel
theorem dX6_init_28 : decode cX6_init 28 = .ok (.aload_n 0, 1) := by decide +kernel
theorem dX6_init_29 : decode cX6_init 29 = .ok (.bipush 6, 2) := by decide +kernel
theorem dX6_init_31 : decode cX6_init 31 = .ok (.newarray .int, 2) := by decide +kernel
theorem dX6_init_33 : decode cX6_init 33 = .ok (.putfield 19, 3) := by decide +kernel
theorem dX6_init_36 : decode cX6_init 36 = .ok (.aload_n 0, 1) := by decide +kernel
theorem dX6_init_37 : decode cX6_init 37 = .ok (.sipush 160, 3) := by decide +kernel
theorem dX6_init_40 : decode cX6_init 40 = .ok (.newarray .int, 2) := by decide +kernel
theorem dX6_init_42 : decode cX6_init 42 = .ok (.putfield 23, 3) := by decide +kernel
theorem dX6_init_45 : decode cX6_init 45 = .ok (.return_, 1) := by decide +kernel
theorem dX6_add_0 : decode cX6_add 0 = .ok (.aload_n 0, 1) := by decide +kernel
theorem dX6_add_1 : decode cX6_add 1 = .ok (.getfield 26, 3) := by decide +kernel
theorem dX6_add_4 : decode cX6_add 4 = .ok (.bipush 6, 2) := by decide +kernel
theorem dX6_add_6 : decode cX6_add 6 = .ok (.if_icmp .lt 6, 3) := by decide +kernel
theorem dX6_add_9 : decode cX6_add 9 = .ok (.bipush (-4), 2) := by decide +kernel
theorem dX6_add_11 : decode cX6_add 11 = .ok (.ireturn, 1) := by decide +kernel
theorem dX6_add_12 : decode cX6_add 12 = .ok (.aload_n 1, 1) := by decide +kernel
theorem dX6_add_13 : decode cX6_add 13 = .ok (.iconst 0, 1) := by decide +kernel
theorem dX6_add_14 : decode cX6_add 14 = .ok (.aload_n 0, 1) := by decide +kernel
theorem dX6_add_15 : decode cX6_add 15 = .ok (.getfield 11, 3) := by decide +kernel
theorem dX6_add_18 : decode cX6_add 18 = .ok (.aload_n 0, 1) := by decide +kernel
theorem dX6_add_19 : decode cX6_add 19 = .ok (.getfield 26, 3) := by decide +kernel
theorem dX6_add_22 : decode cX6_add 22 = .ok (.aaload, 1) := by decide +kernel
theorem dX6_add_23 : decode cX6_add 23 = .ok (.iconst 0, 1) := by decide +kernel
theorem dX6_add_24 : decode cX6_add 24 = .ok (.sipush 160, 3) := by decide +kernel
theorem dX6_add_27 : decode cX6_add 27 = .ok (.invokestatic 30, 3) := by decide +kernel
theorem dX6_add_30 : decode cX6_add 30 = .ok (.aload_n 2, 1) := by decide +kernel
theorem dX6_add_31 : decode cX6_add 31 = .ok (.iconst 0, 1) := by decide +kernel
theorem dX6_add_32 : decode cX6_add 32 = .ok (.aload_n 0, 1) := by decide +kernel
theorem dX6_add_33 : decode cX6_add 33 = .ok (.getfield 16, 3) := by decide +kernel
theorem dX6_add_36 : decode cX6_add 36 = .ok (.aload_n 0, 1) := by decide +kernel
theorem dX6_add_37 : decode cX6_add 37 = .ok (.getfield 26, 3) := by decide +kernel
theorem dX6_add_40 : decode cX6_add 40 = .ok (.aaload, 1) := by decide +kernel
theorem dX6_add_41 : decode cX6_add 41 = .ok (.iconst 0, 1) := by decide +kernel
theorem dX6_add_42 : decode cX6_add 42 = .ok (.iconst 3, 1) := by decide +kernel
theorem dX6_add_43 : decode cX6_add 43 = .ok (.invokestatic 30, 3) := by decide +kernel
theorem dX6_add_46 : decode cX6_add 46 = .ok (.aload_n 0, 1) := by decide +kernel
theorem dX6_add_47 : decode cX6_add 47 = .ok (.dup, 1) := by decide +kernel
theorem dX6_add_48 : decode cX6_add 48 = .ok (.getfield 26, 3) := by decide +kernel
theorem dX6_add_51 : decode cX6_add 51 = .ok (.dup_x1, 1) := by decide +kernel
theorem dX6_add_52 : decode cX6_add 52 = .ok (.iconst 1, 1) := by decide +kernel
theorem dX6_add_53 : decode cX6_add 53 = .ok (.iadd, 1) := by decide +kernel
theorem dX6_add_54 : decode cX6_add 54 = .ok (.putfield 26, 3) := by decide +kernel
theorem dX6_add_57 : decode cX6_add 57 = .ok (.ireturn, 1) := by decide +kernel
theorem dX6_nameGuard_0 : decode cX6_nameGuard 0 = .ok (.aload_n 0, 1) := by decide +kernel
theorem dX6_nameGuard_1 : decode cX6_nameGuard 1 = .ok (.getfield 19, 3) := by decide +kernel
theorem dX6_nameGuard_4 : decode cX6_nameGuard 4 = .ok (.iconst 2, 1) := by decide +kernel
theorem dX6_nameGuard_5 : decode cX6_nameGuard 5 = .ok (.iload_n 1, 1) := by decide +kernel
theorem dX6_nameGuard_6 : decode cX6_nameGuard 6 = .ok (.iastore, 1) := by decide +kernel
theorem dX6_nameGuard_7 : decode cX6_nameGuard 7 = .ok (.aload_n 0, 1) := by decide +kernel
theorem dX6_nameGuard_8 : decode cX6_nameGuard 8 = .ok (.getfield 19, 3) := by decide +kernel
theorem dX6_nameGuard_11 : decode cX6_nameGuard 11 = .ok (.iconst 3, 1) := by decide +kernel
theorem dX6_nameGuard_12 : decode cX6_nameGuard 12 = .ok (.iload_n 2, 1) := by decide +kernel
theorem dX6_nameGuard_13 : decode cX6_nameGuard 13 = .ok (.iastore, 1) := by decide +kernel
theorem dX6_nameGuard_14 : decode cX6_nameGuard 14 = .ok (.aload_n 0, 1) := by decide +kernel
theorem dX6_nameGuard_15 : decode cX6_nameGuard 15 = .ok (.getfield 19, 3) := by decide +kernel
theorem dX6_nameGuard_18 : decode cX6_nameGuard 18 = .ok (.iconst 4, 1) := by decide +kernel
theorem dX6_nameGuard_19 : decode cX6_nameGuard 19 = .ok (.iload_n 3, 1) := by decide +kernel
theorem dX6_nameGuard_20 : decode cX6_nameGuard 20 = .ok (.iastore, 1) := by decide +kernel
theorem dX6_nameGuard_21 : decode cX6_nameGuard 21 = .ok (.return_, 1) := by decide +kernel
theorem dX6_nameCell_0 : decode cX6_nameCell 0 = .ok (.aload_n 0, 1) := by decide +kernel
theorem dX6_nameCell_1 : decode cX6_nameCell 1 = .ok (.getfield 19, 3) := by decide +kernel
theorem dX6_nameCell_4 : decode cX6_nameCell 4 = .ok (.iconst 0, 1) := by decide +kernel
theorem dX6_nameCell_5 : decode cX6_nameCell 5 = .ok (.iload_n 1, 1) := by decide +kernel
theorem dX6_nameCell_6 : decode cX6_nameCell 6 = .ok (.iastore, 1) := by decide +kernel
theorem dX6_nameCell_7 : decode cX6_nameCell 7 = .ok (.aload_n 0, 1) := by decide +kernel
theorem dX6_nameCell_8 : decode cX6_nameCell 8 = .ok (.getfield 19, 3) := by decide +kernel
theorem dX6_nameCell_11 : decode cX6_nameCell 11 = .ok (.iconst 1, 1) := by decide +kernel
theorem dX6_nameCell_12 : decode cX6_nameCell 12 = .ok (.iload_n 2, 1) := by decide +kernel
theorem dX6_nameCell_13 : decode cX6_nameCell 13 = .ok (.iastore, 1) := by decide +kernel
theorem dX6_nameCell_14 : decode cX6_nameCell 14 = .ok (.aload_n 0, 1) := by decide +kernel
theorem dX6_nameCell_15 : decode cX6_nameCell 15 = .ok (.getfield 19, 3) := by decide +kernel
theorem dX6_nameCell_18 : decode cX6_nameCell 18 = .ok (.iconst 5, 1) := by decide +kernel
theorem dX6_nameCell_19 : decode cX6_nameCell 19 = .ok (.iload_n 3, 1) := by decide +kernel
theorem dX6_nameCell_20 : decode cX6_nameCell 20 = .ok (.iastore, 1) := by decide +kernel
theorem dX6_nameCell_21 : decode cX6_nameCell 21 = .ok (.return_, 1) := by decide +kernel
theorem dX6_says_0 : decode cX6_says 0 = .ok (.aload_n 0, 1) := by decide +kernel
theorem dX6_says_1 : decode cX6_says 1 = .ok (.iload_n 1, 1) := by decide +kernel
theorem dX6_says_2 : decode cX6_says 2 = .ok (.invokevirtual 36, 3) := by decide +kernel
theorem dX6_says_5 : decode cX6_says 5 = .ok (.istore_n 2, 1) := by decide +kernel
theorem dX6_says_6 : decode cX6_says 6 = .ok (.iload_n 1, 1) := by decide +kernel
theorem dX6_says_7 : decode cX6_says 7 = .ok (.iconst 1, 1) := by decide +kernel
theorem dX6_says_8 : decode cX6_says 8 = .ok (.if_icmp .ne 13, 3) := by decide +kernel
theorem dX6_says_11 : decode cX6_says 11 = .ok (.iload_n 2, 1) := by decide +kernel
theorem dX6_says_12 : decode cX6_says 12 = .ok (.ifCond .eq 7, 3) := by decide +kernel
theorem dX6_says_15 : decode cX6_says 15 = .ok (.iconst 1, 1) := by decide +kernel
theorem dX6_says_16 : decode cX6_says 16 = .ok (.goto 4, 3) := by decide +kernel
theorem dX6_says_19 : decode cX6_says 19 = .ok (.iconst 0, 1) := by decide +kernel
theorem dX6_says_20 : decode cX6_says 20 = .ok (.ireturn, 1) := by decide +kernel
theorem dX6_says_21 : decode cX6_says 21 = .ok (.iconst 0, 1) := by decide +kernel
theorem dX6_says_22 : decode cX6_says 22 = .ok (.iload_n 2, 1) := by decide +kernel
theorem dX6_says_23 : decode cX6_says 23 = .ok (.iload_n 1, 1) := by decide +kernel
theorem dX6_says_24 : decode cX6_says 24 = .ok (.ifCond .ne 8, 3) := by decide +kernel
theorem dX6_says_27 : decode cX6_says 27 = .ok (.bipush 9, 2) := by decide +kernel
theorem dX6_says_29 : decode cX6_says 29 = .ok (.goto 5, 3) := by decide +kernel
theorem dX6_says_32 : decode cX6_says 32 = .ok (.bipush 99, 2) := by decide +kernel
theorem dX6_says_34 : decode cX6_says 34 = .ok (.invokestatic 40, 3) := by decide +kernel
theorem dX6_says_37 : decode cX6_says 37 = .ok (.invokestatic 46, 3) := by decide +kernel
theorem dX6_says_40 : decode cX6_says 40 = .ok (.ireturn, 1) := by decide +kernel
theorem dX6_value_0 : decode cX6_value 0 = .ok (.aload_n 0, 1) := by decide +kernel
theorem dX6_value_1 : decode cX6_value 1 = .ok (.getfield 11, 3) := by decide +kernel
theorem dX6_value_4 : decode cX6_value 4 = .ok (.aload_n 0, 1) := by decide +kernel
theorem dX6_value_5 : decode cX6_value 5 = .ok (.getfield 49, 3) := by decide +kernel
theorem dX6_value_8 : decode cX6_value 8 = .ok (.aaload, 1) := by decide +kernel
theorem dX6_value_9 : decode cX6_value 9 = .ok (.astore_n 2, 1) := by decide +kernel
theorem dX6_value_10 : decode cX6_value 10 = .ok (.aload_n 0, 1) := by decide +kernel
theorem dX6_value_11 : decode cX6_value 11 = .ok (.getfield 16, 3) := by decide +kernel
theorem dX6_value_14 : decode cX6_value 14 = .ok (.aload_n 0, 1) := by decide +kernel
theorem dX6_value_15 : decode cX6_value 15 = .ok (.getfield 49, 3) := by decide +kernel
theorem dX6_value_18 : decode cX6_value 18 = .ok (.aaload, 1) := by decide +kernel
theorem dX6_value_19 : decode cX6_value 19 = .ok (.iload_n 1, 1) := by decide +kernel
theorem dX6_value_20 : decode cX6_value 20 = .ok (.iaload, 1) := by decide +kernel
theorem dX6_value_21 : decode cX6_value 21 = .ok (.istore_n 3, 1) := by decide +kernel
theorem dX6_value_22 : decode cX6_value 22 = .ok (.iconst 0, 1) := by decide +kernel
theorem dX6_value_23 : decode cX6_value 23 = .ok (.istore 4, 2) := by decide +kernel
theorem dX6_value_25 : decode cX6_value 25 = .ok (.iload_n 1, 1) := by decide +kernel
theorem dX6_value_26 : decode cX6_value 26 = .ok (.ifCond .ne 7, 3) := by decide +kernel
theorem dX6_value_29 : decode cX6_value 29 = .ok (.iconst 0, 1) := by decide +kernel
theorem dX6_value_30 : decode cX6_value 30 = .ok (.goto 16, 3) := by decide +kernel
theorem dX6_value_33 : decode cX6_value 33 = .ok (.aload_n 0, 1) := by decide +kernel
theorem dX6_value_34 : decode cX6_value 34 = .ok (.getfield 16, 3) := by decide +kernel
theorem dX6_value_37 : decode cX6_value 37 = .ok (.aload_n 0, 1) := by decide +kernel
theorem dX6_value_38 : decode cX6_value 38 = .ok (.getfield 49, 3) := by decide +kernel
theorem dX6_value_41 : decode cX6_value 41 = .ok (.aaload, 1) := by decide +kernel
theorem dX6_value_42 : decode cX6_value 42 = .ok (.iload_n 1, 1) := by decide +kernel
theorem dX6_value_43 : decode cX6_value 43 = .ok (.iconst 1, 1) := by decide +kernel
theorem dX6_value_44 : decode cX6_value 44 = .ok (.isub, 1) := by decide +kernel
theorem dX6_value_45 : decode cX6_value 45 = .ok (.iaload, 1) := by decide +kernel
theorem dX6_value_46 : decode cX6_value 46 = .ok (.istore 5, 2) := by decide +kernel
theorem dX6_value_48 : decode cX6_value 48 = .ok (.iload 5, 2) := by decide +kernel
theorem dX6_value_50 : decode cX6_value 50 = .ok (.iload_n 3, 1) := by decide +kernel
theorem dX6_value_51 : decode cX6_value 51 = .ok (.if_icmp .ge 170, 3) := by decide +kernel
theorem dX6_value_54 : decode cX6_value 54 = .ok (.aload_n 2, 1) := by decide +kernel
theorem dX6_value_55 : decode cX6_value 55 = .ok (.iload 5, 2) := by decide +kernel
theorem dX6_value_57 : decode cX6_value 57 = .ok (.iaload, 1) := by decide +kernel
theorem dX6_value_58 : decode cX6_value 58 = .ok (.istore 6, 2) := by decide +kernel
theorem dX6_value_60 : decode cX6_value 60 = .ok (.iload 6, 2) := by decide +kernel
theorem dX6_value_62 : decode cX6_value 62 = .ok (.bipush (-6), 2) := by decide +kernel
theorem dX6_value_64 : decode cX6_value 64 = .ok (.if_icmp .lt 43, 3) := by decide +kernel
theorem dX6_value_67 : decode cX6_value 67 = .ok (.iload 4, 2) := by decide +kernel
theorem dX6_value_69 : decode cX6_value 69 = .ok (.sipush 160, 3) := by decide +kernel
theorem dX6_value_72 : decode cX6_value 72 = .ok (.if_icmp .ge 35, 3) := by decide +kernel
theorem dX6_value_75 : decode cX6_value 75 = .ok (.aload_n 0, 1) := by decide +kernel
theorem dX6_value_76 : decode cX6_value 76 = .ok (.getfield 23, 3) := by decide +kernel
theorem dX6_value_79 : decode cX6_value 79 = .ok (.iload 4, 2) := by decide +kernel
theorem dX6_value_81 : decode cX6_value 81 = .ok (.iload 6, 2) := by decide +kernel
theorem dX6_value_83 : decode cX6_value 83 = .ok (.ifCond .lt 8, 3) := by decide +kernel
theorem dX6_value_86 : decode cX6_value 86 = .ok (.iload 6, 2) := by decide +kernel
theorem dX6_value_88 : decode cX6_value 88 = .ok (.goto 12, 3) := by decide +kernel
theorem dX6_value_91 : decode cX6_value 91 = .ok (.aload_n 0, 1) := by decide +kernel
theorem dX6_value_92 : decode cX6_value 92 = .ok (.getfield 19, 3) := by decide +kernel
theorem dX6_value_95 : decode cX6_value 95 = .ok (.iconst (-1), 1) := by decide +kernel
theorem dX6_value_96 : decode cX6_value 96 = .ok (.iload 6, 2) := by decide +kernel
theorem dX6_value_98 : decode cX6_value 98 = .ok (.isub, 1) := by decide +kernel
theorem dX6_value_99 : decode cX6_value 99 = .ok (.iaload, 1) := by decide +kernel
theorem dX6_value_100 : decode cX6_value 100 = .ok (.iastore, 1) := by decide +kernel
theorem dX6_value_101 : decode cX6_value 101 = .ok (.iinc 4 1, 3) := by decide +kernel
theorem dX6_value_104 : decode cX6_value 104 = .ok (.goto 111, 3) := by decide +kernel
theorem dX6_value_107 : decode cX6_value 107 = .ok (.iload 6, 2) := by decide +kernel
theorem dX6_value_109 : decode cX6_value 109 = .ok (.bipush (-8), 2) := by decide +kernel
theorem dX6_value_111 : decode cX6_value 111 = .ok (.if_icmp .lt 65, 3) := by decide +kernel
theorem dX6_value_114 : decode cX6_value 114 = .ok (.iload 6, 2) := by decide +kernel
theorem dX6_value_116 : decode cX6_value 116 = .ok (.bipush (-7), 2) := by decide +kernel
theorem dX6_value_118 : decode cX6_value 118 = .ok (.if_icmp .gt 58, 3) := by decide +kernel
theorem dX6_value_121 : decode cX6_value 121 = .ok (.iload 4, 2) := by decide +kernel
theorem dX6_value_123 : decode cX6_value 123 = .ok (.iconst 1, 1) := by decide +kernel
theorem dX6_value_124 : decode cX6_value 124 = .ok (.if_icmp .lt 52, 3) := by decide +kernel
theorem dX6_value_127 : decode cX6_value 127 = .ok (.aload_n 0, 1) := by decide +kernel
theorem dX6_value_128 : decode cX6_value 128 = .ok (.getfield 23, 3) := by decide +kernel
theorem dX6_value_131 : decode cX6_value 131 = .ok (.iload 4, 2) := by decide +kernel
theorem dX6_value_133 : decode cX6_value 133 = .ok (.iconst 1, 1) := by decide +kernel
theorem dX6_value_134 : decode cX6_value 134 = .ok (.isub, 1) := by decide +kernel
theorem dX6_value_135 : decode cX6_value 135 = .ok (.iload 6, 2) := by decide +kernel
theorem dX6_value_137 : decode cX6_value 137 = .ok (.bipush (-8), 2) := by decide +kernel
theorem dX6_value_139 : decode cX6_value 139 = .ok (.if_icmp .ne 16, 3) := by decide +kernel
theorem dX6_value_142 : decode cX6_value 142 = .ok (.aload_n 0, 1) := by decide +kernel
theorem dX6_value_143 : decode cX6_value 143 = .ok (.getfield 23, 3) := by decide +kernel
theorem dX6_value_146 : decode cX6_value 146 = .ok (.iload 4, 2) := by decide +kernel
theorem dX6_value_148 : decode cX6_value 148 = .ok (.iconst 1, 1) := by decide +kernel
theorem dX6_value_149 : decode cX6_value 149 = .ok (.isub, 1) := by decide +kernel
theorem dX6_value_150 : decode cX6_value 150 = .ok (.iaload, 1) := by decide +kernel
theorem dX6_value_151 : decode cX6_value 151 = .ok (.ineg, 1) := by decide +kernel
theorem dX6_value_152 : decode cX6_value 152 = .ok (.goto 20, 3) := by decide +kernel
theorem dX6_value_155 : decode cX6_value 155 = .ok (.aload_n 0, 1) := by decide +kernel
theorem dX6_value_156 : decode cX6_value 156 = .ok (.getfield 23, 3) := by decide +kernel
theorem dX6_value_159 : decode cX6_value 159 = .ok (.iload 4, 2) := by decide +kernel
theorem dX6_value_161 : decode cX6_value 161 = .ok (.iconst 1, 1) := by decide +kernel
theorem dX6_value_162 : decode cX6_value 162 = .ok (.isub, 1) := by decide +kernel
theorem dX6_value_163 : decode cX6_value 163 = .ok (.iaload, 1) := by decide +kernel
theorem dX6_value_164 : decode cX6_value 164 = .ok (.ifCond .ne 7, 3) := by decide +kernel
theorem dX6_value_167 : decode cX6_value 167 = .ok (.iconst 1, 1) := by decide +kernel
theorem dX6_value_168 : decode cX6_value 168 = .ok (.goto 4, 3) := by decide +kernel
theorem dX6_value_171 : decode cX6_value 171 = .ok (.iconst 0, 1) := by decide +kernel
theorem dX6_value_172 : decode cX6_value 172 = .ok (.iastore, 1) := by decide +kernel
theorem dX6_value_173 : decode cX6_value 173 = .ok (.goto 42, 3) := by decide +kernel
theorem dX6_value_176 : decode cX6_value 176 = .ok (.iload 4, 2) := by decide +kernel
theorem dX6_value_178 : decode cX6_value 178 = .ok (.iconst 2, 1) := by decide +kernel
theorem dX6_value_179 : decode cX6_value 179 = .ok (.if_icmp .lt 36, 3) := by decide +kernel
theorem dX6_value_182 : decode cX6_value 182 = .ok (.iinc 4 (-1), 3) := by decide +kernel
theorem dX6_value_185 : decode cX6_value 185 = .ok (.aload_n 0, 1) := by decide +kernel
theorem dX6_value_186 : decode cX6_value 186 = .ok (.getfield 23, 3) := by decide +kernel
theorem dX6_value_189 : decode cX6_value 189 = .ok (.iload 4, 2) := by decide +kernel
theorem dX6_value_191 : decode cX6_value 191 = .ok (.iconst 1, 1) := by decide +kernel
theorem dX6_value_192 : decode cX6_value 192 = .ok (.isub, 1) := by decide +kernel
theorem dX6_value_193 : decode cX6_value 193 = .ok (.iload 6, 2) := by decide +kernel
theorem dX6_value_195 : decode cX6_value 195 = .ok (.aload_n 0, 1) := by decide +kernel
theorem dX6_value_196 : decode cX6_value 196 = .ok (.getfield 23, 3) := by decide +kernel
theorem dX6_value_199 : decode cX6_value 199 = .ok (.iload 4, 2) := by decide +kernel
theorem dX6_value_201 : decode cX6_value 201 = .ok (.iconst 1, 1) := by decide +kernel
theorem dX6_value_202 : decode cX6_value 202 = .ok (.isub, 1) := by decide +kernel
theorem dX6_value_203 : decode cX6_value 203 = .ok (.iaload, 1) := by decide +kernel
theorem dX6_value_204 : decode cX6_value 204 = .ok (.aload_n 0, 1) := by decide +kernel
theorem dX6_value_205 : decode cX6_value 205 = .ok (.getfield 23, 3) := by decide +kernel
theorem dX6_value_208 : decode cX6_value 208 = .ok (.iload 4, 2) := by decide +kernel
theorem dX6_value_210 : decode cX6_value 210 = .ok (.iaload, 1) := by decide +kernel
theorem dX6_value_211 : decode cX6_value 211 = .ok (.invokestatic 52, 3) := by decide +kernel
theorem dX6_value_214 : decode cX6_value 214 = .ok (.iastore, 1) := by decide +kernel
theorem dX6_value_215 : decode cX6_value 215 = .ok (.iinc 5 1, 3) := by decide +kernel
theorem dX6_value_218 : decode cX6_value 218 = .ok (.goto (-170), 3) := by decide +kernel
theorem dX6_value_221 : decode cX6_value 221 = .ok (.iload 4, 2) := by decide +kernel
theorem dX6_value_223 : decode cX6_value 223 = .ok (.ifCond .le 15, 3) := by decide +kernel
theorem dX6_value_226 : decode cX6_value 226 = .ok (.aload_n 0, 1) := by decide +kernel
theorem dX6_value_227 : decode cX6_value 227 = .ok (.getfield 23, 3) := by decide +kernel
theorem dX6_value_230 : decode cX6_value 230 = .ok (.iload 4, 2) := by decide +kernel
theorem dX6_value_232 : decode cX6_value 232 = .ok (.iconst 1, 1) := by decide +kernel
theorem dX6_value_233 : decode cX6_value 233 = .ok (.isub, 1) := by decide +kernel
theorem dX6_value_234 : decode cX6_value 234 = .ok (.iaload, 1) := by decide +kernel
theorem dX6_value_235 : decode cX6_value 235 = .ok (.goto 4, 3) := by decide +kernel
theorem dX6_value_238 : decode cX6_value 238 = .ok (.iconst 0, 1) := by decide +kernel
theorem dX6_value_239 : decode cX6_value 239 = .ok (.ireturn, 1) := by decide +kernel
theorem dX6_joined_0 : decode cX6_joined 0 = .ok (.iload_n 0, 1) := by decide +kernel
theorem dX6_joined_1 : decode cX6_joined 1 = .ok (.tableswitch 95 (-14) (-9) #[91, 87, 76, 65, 51, 39], 39) := by decide +kernel
theorem dX6_joined_40 : decode cX6_joined 40 = .ok (.iload_n 1, 1) := by decide +kernel
theorem dX6_joined_41 : decode cX6_joined 41 = .ok (.iload_n 2, 1) := by decide +kernel
theorem dX6_joined_42 : decode cX6_joined 42 = .ok (.ior, 1) := by decide +kernel
theorem dX6_joined_43 : decode cX6_joined 43 = .ok (.ifCond .eq 7, 3) := by decide +kernel
theorem dX6_joined_46 : decode cX6_joined 46 = .ok (.iconst 1, 1) := by decide +kernel
theorem dX6_joined_47 : decode cX6_joined 47 = .ok (.goto 4, 3) := by decide +kernel
theorem dX6_joined_50 : decode cX6_joined 50 = .ok (.iconst 0, 1) := by decide +kernel
theorem dX6_joined_51 : decode cX6_joined 51 = .ok (.ireturn, 1) := by decide +kernel
theorem dX6_joined_52 : decode cX6_joined 52 = .ok (.iload_n 1, 1) := by decide +kernel
theorem dX6_joined_53 : decode cX6_joined 53 = .ok (.ifCond .eq 11, 3) := by decide +kernel
theorem dX6_joined_56 : decode cX6_joined 56 = .ok (.iload_n 2, 1) := by decide +kernel
theorem dX6_joined_57 : decode cX6_joined 57 = .ok (.ifCond .eq 7, 3) := by decide +kernel
theorem dX6_joined_60 : decode cX6_joined 60 = .ok (.iconst 1, 1) := by decide +kernel
theorem dX6_joined_61 : decode cX6_joined 61 = .ok (.goto 4, 3) := by decide +kernel
theorem dX6_joined_64 : decode cX6_joined 64 = .ok (.iconst 0, 1) := by decide +kernel
theorem dX6_joined_65 : decode cX6_joined 65 = .ok (.ireturn, 1) := by decide +kernel
theorem dX6_joined_66 : decode cX6_joined 66 = .ok (.iload_n 1, 1) := by decide +kernel
theorem dX6_joined_67 : decode cX6_joined 67 = .ok (.iload_n 2, 1) := by decide +kernel
theorem dX6_joined_68 : decode cX6_joined 68 = .ok (.if_icmp .ge 7, 3) := by decide +kernel
theorem dX6_joined_71 : decode cX6_joined 71 = .ok (.iconst 1, 1) := by decide +kernel
theorem dX6_joined_72 : decode cX6_joined 72 = .ok (.goto 4, 3) := by decide +kernel
theorem dX6_joined_75 : decode cX6_joined 75 = .ok (.iconst 0, 1) := by decide +kernel
theorem dX6_joined_76 : decode cX6_joined 76 = .ok (.ireturn, 1) := by decide +kernel
theorem dX6_joined_77 : decode cX6_joined 77 = .ok (.iload_n 1, 1) := by decide +kernel
theorem dX6_joined_78 : decode cX6_joined 78 = .ok (.iload_n 2, 1) := by decide +kernel
theorem dX6_joined_79 : decode cX6_joined 79 = .ok (.if_icmp .ne 7, 3) := by decide +kernel
theorem dX6_joined_82 : decode cX6_joined 82 = .ok (.iconst 1, 1) := by decide +kernel
theorem dX6_joined_83 : decode cX6_joined 83 = .ok (.goto 4, 3) := by decide +kernel
theorem dX6_joined_86 : decode cX6_joined 86 = .ok (.iconst 0, 1) := by decide +kernel
theorem dX6_joined_87 : decode cX6_joined 87 = .ok (.ireturn, 1) := by decide +kernel
theorem dX6_joined_88 : decode cX6_joined 88 = .ok (.iload_n 1, 1) := by decide +kernel
theorem dX6_joined_89 : decode cX6_joined 89 = .ok (.iload_n 2, 1) := by decide +kernel
theorem dX6_joined_90 : decode cX6_joined 90 = .ok (.iadd, 1) := by decide +kernel
theorem dX6_joined_91 : decode cX6_joined 91 = .ok (.ireturn, 1) := by decide +kernel
theorem dX6_joined_92 : decode cX6_joined 92 = .ok (.iload_n 1, 1) := by decide +kernel
theorem dX6_joined_93 : decode cX6_joined 93 = .ok (.iload_n 2, 1) := by decide +kernel
theorem dX6_joined_94 : decode cX6_joined 94 = .ok (.isub, 1) := by decide +kernel
theorem dX6_joined_95 : decode cX6_joined 95 = .ok (.ireturn, 1) := by decide +kernel
theorem dX6_joined_96 : decode cX6_joined 96 = .ok (.iload_n 1, 1) := by decide +kernel
theorem dX6_joined_97 : decode cX6_joined 97 = .ok (.iload_n 2, 1) := by decide +kernel
theorem dX6_joined_98 : decode cX6_joined 98 = .ok (.imul, 1) := by decide +kernel
theorem dX6_joined_99 : decode cX6_joined 99 = .ok (.ireturn, 1) := by decide +kernel
theorem dX7_init_0 : decode cX7_init 0 = .ok (.aload_n 0, 1) := by decide +kernel
theorem dX7_init_1 : decode cX7_init 1 = .ok (.invokespecial 3, 3) := by decide +kernel
theorem dX7_init_4 : decode cX7_init 4 = .ok (.aload_n 0, 1) := by decide +kernel
theorem dX7_init_5 : decode cX7_init 5 = .ok (.bipush 25, 2) := by decide +kernel
theorem dX7_init_7 : decode cX7_init 7 = .ok (.newarray .long, 2) := by decide +kernel
theorem dX7_init_9 : decode cX7_init 9 = .ok (.putfield 9, 3) := by decide +kernel
theorem dX7_init_12 : decode cX7_init 12 = .ok (.return_, 1) := by decide +kernel
theorem dX7_roam_0 : decode cX7_roam 0 = .ok (.lconst 1, 1) := by decide +kernel
theorem dX7_roam_1 : decode cX7_roam 1 = .ok (.iload 4, 2) := by decide +kernel
theorem dX7_roam_3 : decode cX7_roam 3 = .ok (.lshl, 1) := by decide +kernel
theorem dX7_roam_4 : decode cX7_roam 4 = .ok (.lstore 8, 2) := by decide +kernel
theorem dX7_roam_6 : decode cX7_roam 6 = .ok (.iconst 0, 1) := by decide +kernel
theorem dX7_roam_7 : decode cX7_roam 7 = .ok (.istore 10, 2) := by decide +kernel
theorem dX7_roam_9 : decode cX7_roam 9 = .ok (.iload 10, 2) := by decide +kernel
theorem dX7_roam_11 : decode cX7_roam 11 = .ok (.bipush 24, 2) := by decide +kernel
theorem dX7_roam_13 : decode cX7_roam 13 = .ok (.if_icmp .gt 85, 3) := by decide +kernel
theorem dX7_roam_16 : decode cX7_roam 16 = .ok (.iload 10, 2) := by decide +kernel
theorem dX7_roam_18 : decode cX7_roam 18 = .ok (.ifCond .le 10, 3) := by decide +kernel
theorem dX7_roam_21 : decode cX7_roam 21 = .ok (.lload 8, 2) := by decide +kernel
theorem dX7_roam_23 : decode cX7_roam 23 = .ok (.invokestatic 15, 3) := by decide +kernel
theorem dX7_roam_26 : decode cX7_roam 26 = .ok (.lstore 8, 2) := by decide +kernel
theorem dX7_roam_28 : decode cX7_roam 28 = .ok (.lload 8, 2) := by decide +kernel
theorem dX7_roam_30 : decode cX7_roam 30 = .ok (.lload_n 2, 1) := by decide +kernel
theorem dX7_roam_31 : decode cX7_roam 31 = .ok (.aload_n 1, 1) := by decide +kernel
theorem dX7_roam_32 : decode cX7_roam 32 = .ok (.iload 5, 2) := by decide +kernel
theorem dX7_roam_34 : decode cX7_roam 34 = .ok (.iload 10, 2) := by decide +kernel
theorem dX7_roam_36 : decode cX7_roam 36 = .ok (.iadd, 1) := by decide +kernel
theorem dX7_roam_37 : decode cX7_roam 37 = .ok (.bipush 24, 2) := by decide +kernel
theorem dX7_roam_39 : decode cX7_roam 39 = .ok (.irem, 1) := by decide +kernel
theorem dX7_roam_40 : decode cX7_roam 40 = .ok (.laload, 1) := by decide +kernel
theorem dX7_roam_41 : decode cX7_roam 41 = .ok (.ldc2_w 19, 3) := by decide +kernel
theorem dX7_roam_44 : decode cX7_roam 44 = .ok (.lxor, 1) := by decide +kernel
theorem dX7_roam_45 : decode cX7_roam 45 = .ok (.land, 1) := by decide +kernel
theorem dX7_roam_46 : decode cX7_roam 46 = .ok (.land, 1) := by decide +kernel
theorem dX7_roam_47 : decode cX7_roam 47 = .ok (.lstore 8, 2) := by decide +kernel
theorem dX7_roam_49 : decode cX7_roam 49 = .ok (.aload_n 0, 1) := by decide +kernel
theorem dX7_roam_50 : decode cX7_roam 50 = .ok (.getfield 9, 3) := by decide +kernel
theorem dX7_roam_53 : decode cX7_roam 53 = .ok (.iload 10, 2) := by decide +kernel
theorem dX7_roam_55 : decode cX7_roam 55 = .ok (.lload 8, 2) := by decide +kernel
theorem dX7_roam_57 : decode cX7_roam 57 = .ok (.lastore, 1) := by decide +kernel
theorem dX7_roam_58 : decode cX7_roam 58 = .ok (.lload 8, 2) := by decide +kernel
theorem dX7_roam_60 : decode cX7_roam 60 = .ok (.lload 6, 2) := by decide +kernel
theorem dX7_roam_62 : decode cX7_roam 62 = .ok (.land, 1) := by decide +kernel
theorem dX7_roam_63 : decode cX7_roam 63 = .ok (.lconst 0, 1) := by decide +kernel
theorem dX7_roam_64 : decode cX7_roam 64 = .ok (.lcmp, 1) := by decide +kernel
theorem dX7_roam_65 : decode cX7_roam 65 = .ok (.ifCond .eq 6, 3) := by decide +kernel
theorem dX7_roam_68 : decode cX7_roam 68 = .ok (.iload 10, 2) := by decide +kernel
theorem dX7_roam_70 : decode cX7_roam 70 = .ok (.ireturn, 1) := by decide +kernel
theorem dX7_roam_71 : decode cX7_roam 71 = .ok (.lload 8, 2) := by decide +kernel
theorem dX7_roam_73 : decode cX7_roam 73 = .ok (.lconst 0, 1) := by decide +kernel
theorem dX7_roam_74 : decode cX7_roam 74 = .ok (.lcmp, 1) := by decide +kernel
theorem dX7_roam_75 : decode cX7_roam 75 = .ok (.ifCond .ne 17, 3) := by decide +kernel
theorem dX7_roam_78 : decode cX7_roam 78 = .ok (.aload_n 0, 1) := by decide +kernel
theorem dX7_roam_79 : decode cX7_roam 79 = .ok (.getfield 9, 3) := by decide +kernel
theorem dX7_roam_82 : decode cX7_roam 82 = .ok (.iload 10, 2) := by decide +kernel
theorem dX7_roam_84 : decode cX7_roam 84 = .ok (.bipush 25, 2) := by decide +kernel
theorem dX7_roam_86 : decode cX7_roam 86 = .ok (.lconst 0, 1) := by decide +kernel
theorem dX7_roam_87 : decode cX7_roam 87 = .ok (.invokestatic 21, 3) := by decide +kernel
theorem dX7_roam_90 : decode cX7_roam 90 = .ok (.iconst (-1), 1) := by decide +kernel
theorem dX7_roam_91 : decode cX7_roam 91 = .ok (.ireturn, 1) := by decide +kernel
theorem dX7_roam_92 : decode cX7_roam 92 = .ok (.iinc 10 1, 3) := by decide +kernel
theorem dX7_roam_95 : decode cX7_roam 95 = .ok (.goto (-86), 3) := by decide +kernel
theorem dX7_roam_98 : decode cX7_roam 98 = .ok (.iconst (-1), 1) := by decide +kernel
theorem dX7_roam_99 : decode cX7_roam 99 = .ok (.ireturn, 1) := by decide +kernel
theorem dX7_soonest_0 : decode cX7_soonest 0 = .ok (.aload_n 0, 1) := by decide +kernel
theorem dX7_soonest_1 : decode cX7_soonest 1 = .ok (.aload_n 1, 1) := by decide +kernel
theorem dX7_soonest_2 : decode cX7_soonest 2 = .ok (.lload_n 2, 1) := by decide +kernel
theorem dX7_soonest_3 : decode cX7_soonest 3 = .ok (.iload 4, 2) := by decide +kernel
theorem dX7_soonest_5 : decode cX7_soonest 5 = .ok (.iload 6, 2) := by decide +kernel
theorem dX7_soonest_7 : decode cX7_soonest 7 = .ok (.lconst 1, 1) := by decide +kernel
theorem dX7_soonest_8 : decode cX7_soonest 8 = .ok (.iload 5, 2) := by decide +kernel
theorem dX7_soonest_10 : decode cX7_soonest 10 = .ok (.lshl, 1) := by decide +kernel
theorem dX7_soonest_11 : decode cX7_soonest 11 = .ok (.invokevirtual 27, 3) := by decide +kernel
theorem dX7_soonest_14 : decode cX7_soonest 14 = .ok (.ireturn, 1) := by decide +kernel
theorem dX7_withBeside_0 : decode cX7_withBeside 0 = .ok (.lload_n 0, 1) := by decide +kernel
theorem dX7_withBeside_1 : decode cX7_withBeside 1 = .ok (.bipush 6, 2) := by decide +kernel
theorem dX7_withBeside_3 : decode cX7_withBeside 3 = .ok (.lshl, 1) := by decide +kernel
theorem dX7_withBeside_4 : decode cX7_withBeside 4 = .ok (.lload_n 0, 1) := by decide +kernel
theorem dX7_withBeside_5 : decode cX7_withBeside 5 = .ok (.bipush 6, 2) := by decide +kernel
theorem dX7_withBeside_7 : decode cX7_withBeside 7 = .ok (.lushr, 1) := by decide +kernel
theorem dX7_withBeside_8 : decode cX7_withBeside 8 = .ok (.lor, 1) := by decide +kernel
theorem dX7_withBeside_9 : decode cX7_withBeside 9 = .ok (.lstore_n 2, 1) := by decide +kernel
theorem dX7_withBeside_10 : decode cX7_withBeside 10 = .ok (.lload_n 0, 1) := by decide +kernel
theorem dX7_withBeside_11 : decode cX7_withBeside 11 = .ok (.iconst 1, 1) := by decide +kernel
theorem dX7_withBeside_12 : decode cX7_withBeside 12 = .ok (.lshl, 1) := by decide +kernel
theorem dX7_withBeside_13 : decode cX7_withBeside 13 = .ok (.ldc2_w 31, 3) := by decide +kernel
theorem dX7_withBeside_16 : decode cX7_withBeside 16 = .ok (.land, 1) := by decide +kernel
theorem dX7_withBeside_17 : decode cX7_withBeside 17 = .ok (.lstore 4, 2) := by decide +kernel
theorem dX7_withBeside_19 : decode cX7_withBeside 19 = .ok (.lload_n 0, 1) := by decide +kernel
theorem dX7_withBeside_20 : decode cX7_withBeside 20 = .ok (.ldc2_w 31, 3) := by decide +kernel
theorem dX7_withBeside_23 : decode cX7_withBeside 23 = .ok (.land, 1) := by decide +kernel
theorem dX7_withBeside_24 : decode cX7_withBeside 24 = .ok (.iconst 1, 1) := by decide +kernel
theorem dX7_withBeside_25 : decode cX7_withBeside 25 = .ok (.lushr, 1) := by decide +kernel
theorem dX7_withBeside_26 : decode cX7_withBeside 26 = .ok (.lstore 6, 2) := by decide +kernel
theorem dX7_withBeside_28 : decode cX7_withBeside 28 = .ok (.lload_n 0, 1) := by decide +kernel
theorem dX7_withBeside_29 : decode cX7_withBeside 29 = .ok (.lload_n 2, 1) := by decide +kernel
theorem dX7_withBeside_30 : decode cX7_withBeside 30 = .ok (.lor, 1) := by decide +kernel
theorem dX7_withBeside_31 : decode cX7_withBeside 31 = .ok (.lload 4, 2) := by decide +kernel
theorem dX7_withBeside_33 : decode cX7_withBeside 33 = .ok (.lor, 1) := by decide +kernel
theorem dX7_withBeside_34 : decode cX7_withBeside 34 = .ok (.lload 6, 2) := by decide +kernel
theorem dX7_withBeside_36 : decode cX7_withBeside 36 = .ok (.lor, 1) := by decide +kernel
theorem dX7_withBeside_37 : decode cX7_withBeside 37 = .ok (.ldc2_w 33, 3) := by decide +kernel
theorem dX7_withBeside_40 : decode cX7_withBeside 40 = .ok (.land, 1) := by decide +kernel
theorem dX7_withBeside_41 : decode cX7_withBeside 41 = .ok (.lreturn, 1) := by decide +kernel
theorem dX7_starts_0 : decode cX7_starts 0 = .ok (.iconst 0, 1) := by decide +kernel
theorem dX7_starts_1 : decode cX7_starts 1 = .ok (.istore 6, 2) := by decide +kernel
theorem dX7_starts_3 : decode cX7_starts 3 = .ok (.iconst 0, 1) := by decide +kernel
theorem dX7_starts_4 : decode cX7_starts 4 = .ok (.istore 7, 2) := by decide +kernel
theorem dX7_starts_6 : decode cX7_starts 6 = .ok (.iload 7, 2) := by decide +kernel
theorem dX7_starts_8 : decode cX7_starts 8 = .ok (.bipush 24, 2) := by decide +kernel
theorem dX7_starts_10 : decode cX7_starts 10 = .ok (.if_icmp .ge 34, 3) := by decide +kernel
theorem dX7_starts_13 : decode cX7_starts 13 = .ok (.aload_n 0, 1) := by decide +kernel
theorem dX7_starts_14 : decode cX7_starts 14 = .ok (.aload_n 1, 1) := by decide +kernel
theorem dX7_starts_15 : decode cX7_starts 15 = .ok (.lload_n 2, 1) := by decide +kernel
theorem dX7_starts_16 : decode cX7_starts 16 = .ok (.iload 4, 2) := by decide +kernel
theorem dX7_starts_18 : decode cX7_starts 18 = .ok (.iload 5, 2) := by decide +kernel
theorem dX7_starts_20 : decode cX7_starts 20 = .ok (.iload 7, 2) := by decide +kernel
theorem dX7_starts_22 : decode cX7_starts 22 = .ok (.invokevirtual 35, 3) := by decide +kernel
theorem dX7_starts_25 : decode cX7_starts 25 = .ok (.iconst (-1), 1) := by decide +kernel
theorem dX7_starts_26 : decode cX7_starts 26 = .ok (.if_icmp .eq 12, 3) := by decide +kernel
theorem dX7_starts_29 : decode cX7_starts 29 = .ok (.iload 6, 2) := by decide +kernel
theorem dX7_starts_31 : decode cX7_starts 31 = .ok (.iconst 1, 1) := by decide +kernel
theorem dX7_starts_32 : decode cX7_starts 32 = .ok (.iload 7, 2) := by decide +kernel
theorem dX7_starts_34 : decode cX7_starts 34 = .ok (.ishl, 1) := by decide +kernel
theorem dX7_starts_35 : decode cX7_starts 35 = .ok (.ior, 1) := by decide +kernel
theorem dX7_starts_36 : decode cX7_starts 36 = .ok (.istore 6, 2) := by decide +kernel
theorem dX7_starts_38 : decode cX7_starts 38 = .ok (.iinc 7 1, 3) := by decide +kernel
theorem dX7_starts_41 : decode cX7_starts 41 = .ok (.goto (-35), 3) := by decide +kernel
theorem dX7_starts_44 : decode cX7_starts 44 = .ok (.iload 6, 2) := by decide +kernel
theorem dX7_starts_46 : decode cX7_starts 46 = .ok (.ireturn, 1) := by decide +kernel
theorem dX7_before_0 : decode cX7_before 0 = .ok (.iload_n 1, 1) := by decide +kernel
theorem dX7_before_1 : decode cX7_before 1 = .ok (.istore 4, 2) := by decide +kernel
theorem dX7_before_3 : decode cX7_before 3 = .ok (.iload_n 2, 1) := by decide +kernel
theorem dX7_before_4 : decode cX7_before 4 = .ok (.istore 5, 2) := by decide +kernel
theorem dX7_before_6 : decode cX7_before 6 = .ok (.iload 5, 2) := by decide +kernel
theorem dX7_before_8 : decode cX7_before 8 = .ok (.iload_n 3, 1) := by decide +kernel
theorem dX7_before_9 : decode cX7_before 9 = .ok (.if_icmp .le 25, 3) := by decide +kernel
theorem dX7_before_12 : decode cX7_before 12 = .ok (.iload 4, 2) := by decide +kernel
theorem dX7_before_14 : decode cX7_before 14 = .ok (.aload_n 0, 1) := by decide +kernel
theorem dX7_before_15 : decode cX7_before 15 = .ok (.getfield 9, 3) := by decide +kernel
theorem dX7_before_18 : decode cX7_before 18 = .ok (.iload 5, 2) := by decide +kernel
theorem dX7_before_20 : decode cX7_before 20 = .ok (.iconst 1, 1) := by decide +kernel
theorem dX7_before_21 : decode cX7_before 21 = .ok (.isub, 1) := by decide +kernel
theorem dX7_before_22 : decode cX7_before 22 = .ok (.laload, 1) := by decide +kernel
theorem dX7_before_23 : decode cX7_before 23 = .ok (.invokestatic 39, 3) := by decide +kernel
theorem dX7_before_26 : decode cX7_before 26 = .ok (.istore 4, 2) := by decide +kernel
theorem dX7_before_28 : decode cX7_before 28 = .ok (.iinc 5 (-1), 3) := by decide +kernel
theorem dX7_before_31 : decode cX7_before 31 = .ok (.goto (-25), 3) := by decide +kernel
theorem dX7_before_34 : decode cX7_before 34 = .ok (.iload 4, 2) := by decide +kernel
theorem dX7_before_36 : decode cX7_before 36 = .ok (.ireturn, 1) := by decide +kernel
theorem dX7_cameFrom_0 : decode cX7_cameFrom 0 = .ok (.lload_n 1, 1) := by decide +kernel
theorem dX7_cameFrom_1 : decode cX7_cameFrom 1 = .ok (.iload_n 0, 1) := by decide +kernel
theorem dX7_cameFrom_2 : decode cX7_cameFrom 2 = .ok (.invokestatic 43, 3) := by decide +kernel
theorem dX7_cameFrom_5 : decode cX7_cameFrom 5 = .ok (.ifCond .eq 5, 3) := by decide +kernel
theorem dX7_cameFrom_8 : decode cX7_cameFrom 8 = .ok (.iload_n 0, 1) := by decide +kernel
theorem dX7_cameFrom_9 : decode cX7_cameFrom 9 = .ok (.ireturn, 1) := by decide +kernel
theorem dX7_cameFrom_10 : decode cX7_cameFrom 10 = .ok (.iconst 0, 1) := by decide +kernel
theorem dX7_cameFrom_11 : decode cX7_cameFrom 11 = .ok (.istore_n 3, 1) := by decide +kernel
theorem dX7_cameFrom_12 : decode cX7_cameFrom 12 = .ok (.iload_n 3, 1) := by decide +kernel
theorem dX7_cameFrom_13 : decode cX7_cameFrom 13 = .ok (.iconst 4, 1) := by decide +kernel
theorem dX7_cameFrom_14 : decode cX7_cameFrom 14 = .ok (.if_icmp .ge 34, 3) := by decide +kernel
theorem dX7_cameFrom_17 : decode cX7_cameFrom 17 = .ok (.iload_n 0, 1) := by decide +kernel
theorem dX7_cameFrom_18 : decode cX7_cameFrom 18 = .ok (.iload_n 3, 1) := by decide +kernel
theorem dX7_cameFrom_19 : decode cX7_cameFrom 19 = .ok (.invokestatic 47, 3) := by decide +kernel
theorem dX7_cameFrom_22 : decode cX7_cameFrom 22 = .ok (.istore 4, 2) := by decide +kernel
theorem dX7_cameFrom_24 : decode cX7_cameFrom 24 = .ok (.iload 4, 2) := by decide +kernel
theorem dX7_cameFrom_26 : decode cX7_cameFrom 26 = .ok (.iconst (-1), 1) := by decide +kernel
theorem dX7_cameFrom_27 : decode cX7_cameFrom 27 = .ok (.if_icmp .eq 15, 3) := by decide +kernel
theorem dX7_cameFrom_30 : decode cX7_cameFrom 30 = .ok (.lload_n 1, 1) := by decide +kernel
theorem dX7_cameFrom_31 : decode cX7_cameFrom 31 = .ok (.iload 4, 2) := by decide +kernel
theorem dX7_cameFrom_33 : decode cX7_cameFrom 33 = .ok (.invokestatic 43, 3) := by decide +kernel
theorem dX7_cameFrom_36 : decode cX7_cameFrom 36 = .ok (.ifCond .eq 6, 3) := by decide +kernel
theorem dX7_cameFrom_39 : decode cX7_cameFrom 39 = .ok (.iload 4, 2) := by decide +kernel
theorem dX7_cameFrom_41 : decode cX7_cameFrom 41 = .ok (.ireturn, 1) := by decide +kernel
theorem dX7_cameFrom_42 : decode cX7_cameFrom 42 = .ok (.iinc 3 1, 3) := by decide +kernel
theorem dX7_cameFrom_45 : decode cX7_cameFrom 45 = .ok (.goto (-33), 3) := by decide +kernel
theorem dX7_cameFrom_48 : decode cX7_cameFrom 48 = .ok (.iload_n 0, 1) := by decide +kernel
theorem dX7_cameFrom_49 : decode cX7_cameFrom 49 = .ok (.ireturn, 1) := by decide +kernel
theorem dX8_init_0 : decode cX8_init 0 = .ok (.aload_n 0, 1) := by decide +kernel
theorem dX8_init_1 : decode cX8_init 1 = .ok (.invokespecial 3, 3) := by decide +kernel
theorem dX8_init_4 : decode cX8_init 4 = .ok (.aload_n 0, 1) := by decide +kernel
theorem dX8_init_5 : decode cX8_init 5 = .ok (.iconst 1, 1) := by decide +kernel
theorem dX8_init_6 : decode cX8_init 6 = .ok (.putfield 9, 3) := by decide +kernel
theorem dX8_init_9 : decode cX8_init 9 = .ok (.aload_n 0, 1) := by decide +kernel
theorem dX8_init_10 : decode cX8_init 10 = .ok (.bipush 24, 2) := by decide +kernel
theorem dX8_init_12 : decode cX8_init 12 = .ok (.newarray .long, 2) := by decide +kernel
theorem dX8_init_14 : decode cX8_init 14 = .ok (.putfield 15, 3) := by decide +kernel
theorem dX8_init_17 : decode cX8_init 17 = .ok (.aload_n 0, 1) := by decide +kernel
theorem dX8_init_18 : decode cX8_init 18 = .ok (.bipush 24, 2) := by decide +kernel
theorem dX8_init_20 : decode cX8_init 20 = .ok (.newarray .long, 2) := by decide +kernel
theorem dX8_init_22 : decode cX8_init 22 = .ok (.putfield 19, 3) := by decide +kernel
theorem dX8_init_25 : decode cX8_init 25 = .ok (.aload_n 0, 1) := by decide +kernel
theorem dX8_init_26 : decode cX8_init 26 = .ok (.iconst 5, 1) := by decide +kernel
theorem dX8_init_27 : decode cX8_init 27 = .ok (.bipush 24, 2) := by decide +kernel
theorem dX8_init_29 : decode cX8_init 29 = .ok (.multianewarray 22 2, 4) := by decide +kernel
theorem dX8_init_33 : decode cX8_init 33 = .ok (.putfield 24, 3) := by decide +kernel
theorem dX8_init_36 : decode cX8_init 36 = .ok (.aload_n 0, 1) := by decide +kernel
theorem dX8_init_37 : decode cX8_init 37 = .ok (.iconst 5, 1) := by decide +kernel
theorem dX8_init_38 : decode cX8_init 38 = .ok (.newarray .long, 2) := by decide +kernel
theorem dX8_init_40 : decode cX8_init 40 = .ok (.putfield 27, 3) := by decide +kernel
theorem dX8_init_43 : decode cX8_init 43 = .ok (.aload_n 0, 1) := by decide +kernel
theorem dX8_init_44 : decode cX8_init 44 = .ok (.aload_n 1, 1) := by decide +kernel
theorem dX8_init_45 : decode cX8_init 45 = .ok (.putfield 30, 3) := by decide +kernel
theorem dX8_init_48 : decode cX8_init 48 = .ok (.aload_n 0, 1) := by decide +kernel
theorem dX8_init_49 : decode cX8_init 49 = .ok (.aload_n 2, 1) := by decide +kernel
theorem dX8_init_50 : decode cX8_init 50 = .ok (.putfield 34, 3) := by decide +kernel
theorem dX8_init_53 : decode cX8_init 53 = .ok (.aload_n 0, 1) := by decide +kernel
theorem dX8_init_54 : decode cX8_init 54 = .ok (.aload_n 3, 1) := by decide +kernel
theorem dX8_init_55 : decode cX8_init 55 = .ok (.putfield 38, 3) := by decide +kernel
theorem dX8_init_58 : decode cX8_init 58 = .ok (.return_, 1) := by decide +kernel
theorem dX8_sight_0 : decode cX8_sight 0 = .ok (.aload_n 0, 1) := by decide +kernel
theorem dX8_sight_1 : decode cX8_sight 1 = .ok (.getfield 34, 3) := by decide +kernel
theorem dX8_sight_4 : decode cX8_sight 4 = .ok (.iload_n 1, 1) := by decide +kernel
theorem dX8_sight_5 : decode cX8_sight 5 = .ok (.iload_n 2, 1) := by decide +kernel
theorem dX8_sight_6 : decode cX8_sight 6 = .ok (.aload_n 0, 1) := by decide +kernel
theorem dX8_sight_7 : decode cX8_sight 7 = .ok (.getfield 30, 3) := by decide +kernel
theorem dX8_sight_10 : decode cX8_sight 10 = .ok (.getfield 42, 3) := by decide +kernel
theorem dX8_sight_13 : decode cX8_sight 13 = .ok (.iconst 0, 1) := by decide +kernel
theorem dX8_sight_14 : decode cX8_sight 14 = .ok (.laload, 1) := by decide +kernel
theorem dX8_sight_15 : decode cX8_sight 15 = .ok (.invokevirtual 47, 3) := by decide +kernel
theorem dX8_sight_18 : decode cX8_sight 18 = .ok (.aload_n 0, 1) := by decide +kernel
theorem dX8_sight_19 : decode cX8_sight 19 = .ok (.getfield 34, 3) := by decide +kernel
theorem dX8_sight_22 : decode cX8_sight 22 = .ok (.getfield 53, 3) := by decide +kernel
theorem dX8_sight_25 : decode cX8_sight 25 = .ok (.istore_n 3, 1) := by decide +kernel
theorem dX8_sight_26 : decode cX8_sight 26 = .ok (.aload_n 0, 1) := by decide +kernel
theorem dX8_sight_27 : decode cX8_sight 27 = .ok (.lconst 1, 1) := by decide +kernel
theorem dX8_sight_28 : decode cX8_sight 28 = .ok (.iload_n 3, 1) := by decide +kernel
theorem dX8_sight_29 : decode cX8_sight 29 = .ok (.lshl, 1) := by decide +kernel
theorem dX8_sight_30 : decode cX8_sight 30 = .ok (.putfield 57, 3) := by decide +kernel
theorem dX8_sight_33 : decode cX8_sight 33 = .ok (.aload_n 0, 1) := by decide +kernel
theorem dX8_sight_34 : decode cX8_sight 34 = .ok (.getfield 34, 3) := by decide +kernel
theorem dX8_sight_37 : decode cX8_sight 37 = .ok (.getfield 61, 3) := by decide +kernel
theorem dX8_sight_40 : decode cX8_sight 40 = .ok (.ifCond .ne 5, 3) := by decide +kernel
theorem dX8_sight_43 : decode cX8_sight 43 = .ok (.lconst 0, 1) := by decide +kernel
theorem dX8_sight_44 : decode cX8_sight 44 = .ok (.lreturn, 1) := by decide +kernel
theorem dX8_sight_45 : decode cX8_sight 45 = .ok (.aload_n 0, 1) := by decide +kernel
theorem dX8_sight_46 : decode cX8_sight 46 = .ok (.getfield 38, 3) := by decide +kernel
theorem dX8_sight_49 : decode cX8_sight 49 = .ok (.aload_n 0, 1) := by decide +kernel
theorem dX8_sight_50 : decode cX8_sight 50 = .ok (.getfield 34, 3) := by decide +kernel
theorem dX8_sight_53 : decode cX8_sight 53 = .ok (.getfield 64, 3) := by decide +kernel
theorem dX8_sight_56 : decode cX8_sight 56 = .ok (.iload_n 1, 1) := by decide +kernel
theorem dX8_sight_57 : decode cX8_sight 57 = .ok (.iaload, 1) := by decide +kernel
theorem dX8_sight_58 : decode cX8_sight 58 = .ok (.iload_n 2, 1) := by decide +kernel
theorem dX8_sight_59 : decode cX8_sight 59 = .ok (.iload_n 1, 1) := by decide +kernel
theorem dX8_sight_60 : decode cX8_sight 60 = .ok (.invokevirtual 68, 3) := by decide +kernel
theorem dX8_sight_63 : decode cX8_sight 63 = .ok (.aload_n 0, 1) := by decide +kernel
theorem dX8_sight_64 : decode cX8_sight 64 = .ok (.getfield 38, 3) := by decide +kernel
theorem dX8_sight_67 : decode cX8_sight 67 = .ok (.iconst 0, 1) := by decide +kernel
theorem dX8_sight_68 : decode cX8_sight 68 = .ok (.aload_n 0, 1) := by decide +kernel
theorem dX8_sight_69 : decode cX8_sight 69 = .ok (.getfield 30, 3) := by decide +kernel
theorem dX8_sight_72 : decode cX8_sight 72 = .ok (.iload_n 3, 1) := by decide +kernel
theorem dX8_sight_73 : decode cX8_sight 73 = .ok (.invokevirtual 74, 3) := by decide +kernel
theorem dX8_sight_76 : decode cX8_sight 76 = .ok (.iload_n 3, 1) := by decide +kernel
theorem dX8_sight_77 : decode cX8_sight 77 = .ok (.invokevirtual 78, 3) := by decide +kernel
theorem dX8_sight_80 : decode cX8_sight 80 = .ok (.aload_n 0, 1) := by decide +kernel
theorem dX8_sight_81 : decode cX8_sight 81 = .ok (.getfield 38, 3) := by decide +kernel
theorem dX8_sight_84 : decode cX8_sight 84 = .ok (.iconst 0, 1) := by decide +kernel
theorem dX8_sight_85 : decode cX8_sight 85 = .ok (.invokevirtual 81, 3) := by decide +kernel
theorem dX8_sight_88 : decode cX8_sight 88 = .ok (.istore 4, 2) := by decide +kernel
theorem dX8_sight_90 : decode cX8_sight 90 = .ok (.aload_n 0, 1) := by decide +kernel
theorem dX8_sight_91 : decode cX8_sight 91 = .ok (.getfield 34, 3) := by decide +kernel
theorem dX8_sight_94 : decode cX8_sight 94 = .ok (.getfield 84, 3) := by decide +kernel
theorem dX8_sight_97 : decode cX8_sight 97 = .ok (.invokestatic 87, 3) := by decide +kernel
theorem dX8_sight_100 : decode cX8_sight 100 = .ok (.istore 5, 2) := by decide +kernel
theorem dX8_sight_102 : decode cX8_sight 102 = .ok (.lconst 0, 1) := by decide +kernel
theorem dX8_sight_103 : decode cX8_sight 103 = .ok (.lstore 6, 2) := by decide +kernel
theorem dX8_sight_105 : decode cX8_sight 105 = .ok (.iconst 1, 1) := by decide +kernel
theorem dX8_sight_106 : decode cX8_sight 106 = .ok (.istore 8, 2) := by decide +kernel
theorem dX8_sight_108 : decode cX8_sight 108 = .ok (.iload 8, 2) := by decide +kernel
theorem dX8_sight_110 : decode cX8_sight 110 = .ok (.iload 4, 2) := by decide +kernel
theorem dX8_sight_112 : decode cX8_sight 112 = .ok (.if_icmp .gt 112, 3) := by decide +kernel
theorem dX8_sight_115 : decode cX8_sight 115 = .ok (.iload_n 3, 1) := by decide +kernel
theorem dX8_sight_116 : decode cX8_sight 116 = .ok (.iload 5, 2) := by decide +kernel
theorem dX8_sight_118 : decode cX8_sight 118 = .ok (.invokestatic 90, 3) := by decide +kernel
theorem dX8_sight_121 : decode cX8_sight 121 = .ok (.istore_n 3, 1) := by decide +kernel
theorem dX8_sight_122 : decode cX8_sight 122 = .ok (.iload_n 3, 1) := by decide +kernel
theorem dX8_sight_123 : decode cX8_sight 123 = .ok (.iconst (-1), 1) := by decide +kernel
theorem dX8_sight_124 : decode cX8_sight 124 = .ok (.if_icmp .eq 19, 3) := by decide +kernel
theorem dX8_sight_127 : decode cX8_sight 127 = .ok (.aload_n 0, 1) := by decide +kernel
theorem dX8_sight_128 : decode cX8_sight 128 = .ok (.getfield 30, 3) := by decide +kernel
theorem dX8_sight_131 : decode cX8_sight 131 = .ok (.getfield 42, 3) := by decide +kernel
theorem dX8_sight_134 : decode cX8_sight 134 = .ok (.iconst 0, 1) := by decide +kernel
theorem dX8_sight_135 : decode cX8_sight 135 = .ok (.laload, 1) := by decide +kernel
theorem dX8_sight_136 : decode cX8_sight 136 = .ok (.iload_n 3, 1) := by decide +kernel
theorem dX8_sight_137 : decode cX8_sight 137 = .ok (.invokestatic 94, 3) := by decide +kernel
theorem dX8_sight_140 : decode cX8_sight 140 = .ok (.ifCond .eq 6, 3) := by decide +kernel
theorem dX8_sight_143 : decode cX8_sight 143 = .ok (.lload 6, 2) := by decide +kernel
theorem dX8_sight_145 : decode cX8_sight 145 = .ok (.lreturn, 1) := by decide +kernel
theorem dX8_sight_146 : decode cX8_sight 146 = .ok (.aload_n 0, 1) := by decide +kernel
theorem dX8_sight_147 : decode cX8_sight 147 = .ok (.dup, 1) := by decide +kernel
theorem dX8_sight_148 : decode cX8_sight 148 = .ok (.getfield 57, 3) := by decide +kernel
theorem dX8_sight_151 : decode cX8_sight 151 = .ok (.lconst 1, 1) := by decide +kernel
theorem dX8_sight_152 : decode cX8_sight 152 = .ok (.iload_n 3, 1) := by decide +kernel
theorem dX8_sight_153 : decode cX8_sight 153 = .ok (.lshl, 1) := by decide +kernel
theorem dX8_sight_154 : decode cX8_sight 154 = .ok (.lor, 1) := by decide +kernel
theorem dX8_sight_155 : decode cX8_sight 155 = .ok (.putfield 57, 3) := by decide +kernel
theorem dX8_sight_158 : decode cX8_sight 158 = .ok (.aload_n 0, 1) := by decide +kernel
theorem dX8_sight_159 : decode cX8_sight 159 = .ok (.getfield 38, 3) := by decide +kernel
theorem dX8_sight_162 : decode cX8_sight 162 = .ok (.iload 8, 2) := by decide +kernel
theorem dX8_sight_164 : decode cX8_sight 164 = .ok (.aload_n 0, 1) := by decide +kernel
theorem dX8_sight_165 : decode cX8_sight 165 = .ok (.getfield 30, 3) := by decide +kernel
theorem dX8_sight_168 : decode cX8_sight 168 = .ok (.iload_n 3, 1) := by decide +kernel
theorem dX8_sight_169 : decode cX8_sight 169 = .ok (.invokevirtual 74, 3) := by decide +kernel
theorem dX8_sight_172 : decode cX8_sight 172 = .ok (.iload_n 3, 1) := by decide +kernel
theorem dX8_sight_173 : decode cX8_sight 173 = .ok (.invokevirtual 78, 3) := by decide +kernel
theorem dX8_sight_176 : decode cX8_sight 176 = .ok (.aload_n 0, 1) := by decide +kernel
theorem dX8_sight_177 : decode cX8_sight 177 = .ok (.getfield 38, 3) := by decide +kernel
theorem dX8_sight_180 : decode cX8_sight 180 = .ok (.iconst 1, 1) := by decide +kernel
theorem dX8_sight_181 : decode cX8_sight 181 = .ok (.invokevirtual 81, 3) := by decide +kernel
theorem dX8_sight_184 : decode cX8_sight 184 = .ok (.ifCond .eq 11, 3) := by decide +kernel
theorem dX8_sight_187 : decode cX8_sight 187 = .ok (.lload 6, 2) := by decide +kernel
theorem dX8_sight_189 : decode cX8_sight 189 = .ok (.lconst 1, 1) := by decide +kernel
theorem dX8_sight_190 : decode cX8_sight 190 = .ok (.iload_n 3, 1) := by decide +kernel
theorem dX8_sight_191 : decode cX8_sight 191 = .ok (.lshl, 1) := by decide +kernel
theorem dX8_sight_192 : decode cX8_sight 192 = .ok (.lor, 1) := by decide +kernel
theorem dX8_sight_193 : decode cX8_sight 193 = .ok (.lstore 6, 2) := by decide +kernel
theorem dX8_sight_195 : decode cX8_sight 195 = .ok (.aload_n 0, 1) := by decide +kernel
theorem dX8_sight_196 : decode cX8_sight 196 = .ok (.getfield 30, 3) := by decide +kernel
theorem dX8_sight_199 : decode cX8_sight 199 = .ok (.getfield 42, 3) := by decide +kernel
theorem dX8_sight_202 : decode cX8_sight 202 = .ok (.iconst 2, 1) := by decide +kernel
theorem dX8_sight_203 : decode cX8_sight 203 = .ok (.laload, 1) := by decide +kernel
theorem dX8_sight_204 : decode cX8_sight 204 = .ok (.iload_n 3, 1) := by decide +kernel
theorem dX8_sight_205 : decode cX8_sight 205 = .ok (.invokestatic 94, 3) := by decide +kernel
theorem dX8_sight_208 : decode cX8_sight 208 = .ok (.ifCond .eq 10, 3) := by decide +kernel
theorem dX8_sight_211 : decode cX8_sight 211 = .ok (.iload 5, 2) := by decide +kernel
theorem dX8_sight_213 : decode cX8_sight 213 = .ok (.invokestatic 87, 3) := by decide +kernel
theorem dX8_sight_216 : decode cX8_sight 216 = .ok (.istore 5, 2) := by decide +kernel
theorem dX8_sight_218 : decode cX8_sight 218 = .ok (.iinc 8 1, 3) := by decide +kernel
theorem dX8_sight_221 : decode cX8_sight 221 = .ok (.goto (-113), 3) := by decide +kernel
theorem dX8_sight_224 : decode cX8_sight 224 = .ok (.lload 6, 2) := by decide +kernel
theorem dX8_sight_226 : decode cX8_sight 226 = .ok (.lreturn, 1) := by decide +kernel
theorem dX8_refresh_0 : decode cX8_refresh 0 = .ok (.aload_n 0, 1) := by decide +kernel
theorem dX8_refresh_1 : decode cX8_refresh 1 = .ok (.getfield 9, 3) := by decide +kernel
theorem dX8_refresh_4 : decode cX8_refresh 4 = .ok (.ifCond .ne 4, 3) := by decide +kernel
theorem dX8_refresh_7 : decode cX8_refresh 7 = .ok (.return_, 1) := by decide +kernel
theorem dX8_refresh_8 : decode cX8_refresh 8 = .ok (.iconst 0, 1) := by decide +kernel
theorem dX8_refresh_9 : decode cX8_refresh 9 = .ok (.istore_n 1, 1) := by decide +kernel
theorem dX8_refresh_10 : decode cX8_refresh 10 = .ok (.iload_n 1, 1) := by decide +kernel
theorem dX8_refresh_11 : decode cX8_refresh 11 = .ok (.aload_n 0, 1) := by decide +kernel
theorem dX8_refresh_12 : decode cX8_refresh 12 = .ok (.getfield 34, 3) := by decide +kernel
theorem dX8_refresh_15 : decode cX8_refresh 15 = .ok (.getfield 98, 3) := by decide +kernel
theorem dX8_refresh_18 : decode cX8_refresh 18 = .ok (.if_icmp .ge 69, 3) := by decide +kernel
theorem dX8_refresh_21 : decode cX8_refresh 21 = .ok (.aload_n 0, 1) := by decide +kernel
theorem dX8_refresh_22 : decode cX8_refresh 22 = .ok (.getfield 27, 3) := by decide +kernel
theorem dX8_refresh_25 : decode cX8_refresh 25 = .ok (.iload_n 1, 1) := by decide +kernel
theorem dX8_refresh_26 : decode cX8_refresh 26 = .ok (.lconst 0, 1) := by decide +kernel
theorem dX8_refresh_27 : decode cX8_refresh 27 = .ok (.lastore, 1) := by decide +kernel
theorem dX8_refresh_28 : decode cX8_refresh 28 = .ok (.iconst 0, 1) := by decide +kernel
theorem dX8_refresh_29 : decode cX8_refresh 29 = .ok (.istore_n 2, 1) := by decide +kernel
theorem dX8_refresh_30 : decode cX8_refresh 30 = .ok (.iload_n 2, 1) := by decide +kernel
theorem dX8_refresh_31 : decode cX8_refresh 31 = .ok (.bipush 24, 2) := by decide +kernel
theorem dX8_refresh_33 : decode cX8_refresh 33 = .ok (.if_icmp .ge 48, 3) := by decide +kernel
theorem dX8_refresh_36 : decode cX8_refresh 36 = .ok (.aload_n 0, 1) := by decide +kernel
theorem dX8_refresh_37 : decode cX8_refresh 37 = .ok (.iload_n 1, 1) := by decide +kernel
theorem dX8_refresh_38 : decode cX8_refresh 38 = .ok (.iload_n 2, 1) := by decide +kernel
theorem dX8_refresh_39 : decode cX8_refresh 39 = .ok (.invokevirtual 101, 3) := by decide +kernel
theorem dX8_refresh_42 : decode cX8_refresh 42 = .ok (.lstore_n 3, 1) := by decide +kernel
theorem dX8_refresh_43 : decode cX8_refresh 43 = .ok (.aload_n 0, 1) := by decide +kernel
theorem dX8_refresh_44 : decode cX8_refresh 44 = .ok (.getfield 24, 3) := by decide +kernel
theorem dX8_refresh_47 : decode cX8_refresh 47 = .ok (.iload_n 1, 1) := by decide +kernel
theorem dX8_refresh_48 : decode cX8_refresh 48 = .ok (.aaload, 1) := by decide +kernel
theorem dX8_refresh_49 : decode cX8_refresh 49 = .ok (.iload_n 2, 1) := by decide +kernel
theorem dX8_refresh_50 : decode cX8_refresh 50 = .ok (.lload_n 3, 1) := by decide +kernel
theorem dX8_refresh_51 : decode cX8_refresh 51 = .ok (.lconst 1, 1) := by decide +kernel
theorem dX8_refresh_52 : decode cX8_refresh 52 = .ok (.aload_n 0, 1) := by decide +kernel
theorem dX8_refresh_53 : decode cX8_refresh 53 = .ok (.getfield 34, 3) := by decide +kernel
theorem dX8_refresh_56 : decode cX8_refresh 56 = .ok (.getfield 53, 3) := by decide +kernel
theorem dX8_refresh_59 : decode cX8_refresh 59 = .ok (.lshl, 1) := by decide +kernel
theorem dX8_refresh_60 : decode cX8_refresh 60 = .ok (.lor, 1) := by decide +kernel
theorem dX8_refresh_61 : decode cX8_refresh 61 = .ok (.lastore, 1) := by decide +kernel
theorem dX8_refresh_62 : decode cX8_refresh 62 = .ok (.aload_n 0, 1) := by decide +kernel
theorem dX8_refresh_63 : decode cX8_refresh 63 = .ok (.getfield 27, 3) := by decide +kernel
theorem dX8_refresh_66 : decode cX8_refresh 66 = .ok (.iload_n 1, 1) := by decide +kernel
theorem dX8_refresh_67 : decode cX8_refresh 67 = .ok (.dup2, 1) := by decide +kernel
theorem dX8_refresh_68 : decode cX8_refresh 68 = .ok (.laload, 1) := by decide +kernel
theorem dX8_refresh_69 : decode cX8_refresh 69 = .ok (.aload_n 0, 1) := by decide +kernel
theorem dX8_refresh_70 : decode cX8_refresh 70 = .ok (.getfield 57, 3) := by decide +kernel
theorem dX8_refresh_73 : decode cX8_refresh 73 = .ok (.lor, 1) := by decide +kernel
theorem dX8_refresh_74 : decode cX8_refresh 74 = .ok (.lastore, 1) := by decide +kernel
theorem dX8_refresh_75 : decode cX8_refresh 75 = .ok (.iinc 2 1, 3) := by decide +kernel
theorem dX8_refresh_78 : decode cX8_refresh 78 = .ok (.goto (-48), 3) := by decide +kernel
theorem dX8_refresh_81 : decode cX8_refresh 81 = .ok (.iinc 1 1, 3) := by decide +kernel
theorem dX8_refresh_84 : decode cX8_refresh 84 = .ok (.goto (-74), 3) := by decide +kernel
theorem dX8_refresh_87 : decode cX8_refresh 87 = .ok (.aload_n 0, 1) := by decide +kernel
theorem dX8_refresh_88 : decode cX8_refresh 88 = .ok (.iconst 0, 1) := by decide +kernel
theorem dX8_refresh_89 : decode cX8_refresh 89 = .ok (.invokevirtual 105, 3) := by decide +kernel
theorem dX8_refresh_92 : decode cX8_refresh 92 = .ok (.aload_n 0, 1) := by decide +kernel
theorem dX8_refresh_93 : decode cX8_refresh 93 = .ok (.getfield 19, 3) := by decide +kernel
theorem dX8_refresh_96 : decode cX8_refresh 96 = .ok (.iconst 0, 1) := by decide +kernel
theorem dX8_refresh_97 : decode cX8_refresh 97 = .ok (.aload_n 0, 1) := by decide +kernel
theorem dX8_refresh_98 : decode cX8_refresh 98 = .ok (.getfield 15, 3) := by decide +kernel
theorem dX8_refresh_101 : decode cX8_refresh 101 = .ok (.iconst 0, 1) := by decide +kernel
theorem dX8_refresh_102 : decode cX8_refresh 102 = .ok (.bipush 24, 2) := by decide +kernel
theorem dX8_refresh_104 : decode cX8_refresh 104 = .ok (.invokestatic 109, 3) := by decide +kernel
theorem dX8_refresh_107 : decode cX8_refresh 107 = .ok (.aload_n 0, 1) := by decide +kernel
theorem dX8_refresh_108 : decode cX8_refresh 108 = .ok (.iconst 0, 1) := by decide +kernel
theorem dX8_refresh_109 : decode cX8_refresh 109 = .ok (.putfield 9, 3) := by decide +kernel
theorem dX8_refresh_112 : decode cX8_refresh 112 = .ok (.return_, 1) := by decide +kernel
theorem dX8_addKnown_0 : decode cX8_addKnown 0 = .ok (.iconst 0, 1) := by decide +kernel
theorem dX8_addKnown_1 : decode cX8_addKnown 1 = .ok (.istore_n 2, 1) := by decide +kernel
theorem dX8_addKnown_2 : decode cX8_addKnown 2 = .ok (.iload_n 2, 1) := by decide +kernel
theorem dX8_addKnown_3 : decode cX8_addKnown 3 = .ok (.bipush 24, 2) := by decide +kernel
theorem dX8_addKnown_5 : decode cX8_addKnown 5 = .ok (.if_icmp .ge 26, 3) := by decide +kernel
theorem dX8_addKnown_8 : decode cX8_addKnown 8 = .ok (.aload_n 0, 1) := by decide +kernel
theorem dX8_addKnown_9 : decode cX8_addKnown 9 = .ok (.getfield 19, 3) := by decide +kernel
theorem dX8_addKnown_12 : decode cX8_addKnown 12 = .ok (.iload_n 2, 1) := by decide +kernel
theorem dX8_addKnown_13 : decode cX8_addKnown 13 = .ok (.dup2, 1) := by decide +kernel
theorem dX8_addKnown_14 : decode cX8_addKnown 14 = .ok (.laload, 1) := by decide +kernel
theorem dX8_addKnown_15 : decode cX8_addKnown 15 = .ok (.aload_n 0, 1) := by decide +kernel
theorem dX8_addKnown_16 : decode cX8_addKnown 16 = .ok (.getfield 24, 3) := by decide +kernel
theorem dX8_addKnown_19 : decode cX8_addKnown 19 = .ok (.iload_n 1, 1) := by decide +kernel
theorem dX8_addKnown_20 : decode cX8_addKnown 20 = .ok (.aaload, 1) := by decide +kernel
theorem dX8_addKnown_21 : decode cX8_addKnown 21 = .ok (.iload_n 2, 1) := by decide +kernel
theorem dX8_addKnown_22 : decode cX8_addKnown 22 = .ok (.laload, 1) := by decide +kernel
theorem dX8_addKnown_23 : decode cX8_addKnown 23 = .ok (.lor, 1) := by decide +kernel
theorem dX8_addKnown_24 : decode cX8_addKnown 24 = .ok (.lastore, 1) := by decide +kernel
theorem dX8_addKnown_25 : decode cX8_addKnown 25 = .ok (.iinc 2 1, 3) := by decide +kernel
theorem dX8_addKnown_28 : decode cX8_addKnown 28 = .ok (.goto (-26), 3) := by decide +kernel
theorem dX8_addKnown_31 : decode cX8_addKnown 31 = .ok (.return_, 1) := by decide +kernel
theorem dX8_addFound_0 : decode cX8_addFound 0 = .ok (.iconst 0, 1) := by decide +kernel
theorem dX8_addFound_1 : decode cX8_addFound 1 = .ok (.istore_n 2, 1) := by decide +kernel
theorem dX8_addFound_2 : decode cX8_addFound 2 = .ok (.iload_n 2, 1) := by decide +kernel
theorem dX8_addFound_3 : decode cX8_addFound 3 = .ok (.bipush 24, 2) := by decide +kernel
theorem dX8_addFound_5 : decode cX8_addFound 5 = .ok (.if_icmp .ge 36, 3) := by decide +kernel
theorem dX8_addFound_8 : decode cX8_addFound 8 = .ok (.aload_n 0, 1) := by decide +kernel
theorem dX8_addFound_9 : decode cX8_addFound 9 = .ok (.iload_n 1, 1) := by decide +kernel
theorem dX8_addFound_10 : decode cX8_addFound 10 = .ok (.iload_n 2, 1) := by decide +kernel
theorem dX8_addFound_11 : decode cX8_addFound 11 = .ok (.invokevirtual 101, 3) := by decide +kernel
theorem dX8_addFound_14 : decode cX8_addFound 14 = .ok (.lstore_n 3, 1) := by decide +kernel
theorem dX8_addFound_15 : decode cX8_addFound 15 = .ok (.aload_n 0, 1) := by decide +kernel
theorem dX8_addFound_16 : decode cX8_addFound 16 = .ok (.getfield 19, 3) := by decide +kernel
theorem dX8_addFound_19 : decode cX8_addFound 19 = .ok (.iload_n 2, 1) := by decide +kernel
theorem dX8_addFound_20 : decode cX8_addFound 20 = .ok (.dup2, 1) := by decide +kernel
theorem dX8_addFound_21 : decode cX8_addFound 21 = .ok (.laload, 1) := by decide +kernel
theorem dX8_addFound_22 : decode cX8_addFound 22 = .ok (.lload_n 3, 1) := by decide +kernel
theorem dX8_addFound_23 : decode cX8_addFound 23 = .ok (.lconst 1, 1) := by decide +kernel
theorem dX8_addFound_24 : decode cX8_addFound 24 = .ok (.aload_n 0, 1) := by decide +kernel
theorem dX8_addFound_25 : decode cX8_addFound 25 = .ok (.getfield 34, 3) := by decide +kernel
theorem dX8_addFound_28 : decode cX8_addFound 28 = .ok (.getfield 53, 3) := by decide +kernel
theorem dX8_addFound_31 : decode cX8_addFound 31 = .ok (.lshl, 1) := by decide +kernel
theorem dX8_addFound_32 : decode cX8_addFound 32 = .ok (.lor, 1) := by decide +kernel
theorem dX8_addFound_33 : decode cX8_addFound 33 = .ok (.lor, 1) := by decide +kernel
theorem dX8_addFound_34 : decode cX8_addFound 34 = .ok (.lastore, 1) := by decide +kernel
theorem dX8_addFound_35 : decode cX8_addFound 35 = .ok (.iinc 2 1, 3) := by decide +kernel
theorem dX8_addFound_38 : decode cX8_addFound 38 = .ok (.goto (-36), 3) := by decide +kernel
theorem dX8_addFound_41 : decode cX8_addFound 41 = .ok (.return_, 1) := by decide +kernel
theorem dX8_supposeBribed_0 : decode cX8_supposeBribed 0 = .ok (.aload_n 0, 1) := by decide +kernel
theorem dX8_supposeBribed_1 : decode cX8_supposeBribed 1 = .ok (.getfield 19, 3) := by decide +kernel
theorem dX8_supposeBribed_4 : decode cX8_supposeBribed 4 = .ok (.lconst 0, 1) := by decide +kernel
theorem dX8_supposeBribed_5 : decode cX8_supposeBribed 5 = .ok (.invokestatic 115, 3) := by decide +kernel
theorem dX8_supposeBribed_8 : decode cX8_supposeBribed 8 = .ok (.iconst 0, 1) := by decide +kernel
theorem dX8_supposeBribed_9 : decode cX8_supposeBribed 9 = .ok (.istore_n 2, 1) := by decide +kernel
theorem dX8_supposeBribed_10 : decode cX8_supposeBribed 10 = .ok (.iload_n 2, 1) := by decide +kernel
theorem dX8_supposeBribed_11 : decode cX8_supposeBribed 11 = .ok (.aload_n 0, 1) := by decide +kernel
theorem dX8_supposeBribed_12 : decode cX8_supposeBribed 12 = .ok (.getfield 34, 3) := by decide +kernel
theorem dX8_supposeBribed_15 : decode cX8_supposeBribed 15 = .ok (.getfield 98, 3) := by decide +kernel
theorem dX8_supposeBribed_18 : decode cX8_supposeBribed 18 = .ok (.if_icmp .ge 23, 3) := by decide +kernel
theorem dX8_supposeBribed_21 : decode cX8_supposeBribed 21 = .ok (.iload_n 1, 1) := by decide +kernel
theorem dX8_supposeBribed_22 : decode cX8_supposeBribed 22 = .ok (.i2l, 1) := by decide +kernel
theorem dX8_supposeBribed_23 : decode cX8_supposeBribed 23 = .ok (.iload_n 2, 1) := by decide +kernel
theorem dX8_supposeBribed_24 : decode cX8_supposeBribed 24 = .ok (.invokestatic 94, 3) := by decide +kernel
theorem dX8_supposeBribed_27 : decode cX8_supposeBribed 27 = .ok (.ifCond .ne 8, 3) := by decide +kernel
theorem dX8_supposeBribed_30 : decode cX8_supposeBribed 30 = .ok (.aload_n 0, 1) := by decide +kernel
theorem dX8_supposeBribed_31 : decode cX8_supposeBribed 31 = .ok (.iload_n 2, 1) := by decide +kernel
theorem dX8_supposeBribed_32 : decode cX8_supposeBribed 32 = .ok (.invokevirtual 121, 3) := by decide +kernel
theorem dX8_supposeBribed_35 : decode cX8_supposeBribed 35 = .ok (.iinc 2 1, 3) := by decide +kernel
theorem dX8_supposeBribed_38 : decode cX8_supposeBribed 38 = .ok (.goto (-28), 3) := by decide +kernel
theorem dX8_supposeBribed_41 : decode cX8_supposeBribed 41 = .ok (.return_, 1) := by decide +kernel
theorem dX8_supposeLaid_0 : decode cX8_supposeLaid 0 = .ok (.aload_n 0, 1) := by decide +kernel
theorem dX8_supposeLaid_1 : decode cX8_supposeLaid 1 = .ok (.getfield 30, 3) := by decide +kernel
theorem dX8_supposeLaid_4 : decode cX8_supposeLaid 4 = .ok (.getfield 42, 3) := by decide +kernel
theorem dX8_supposeLaid_7 : decode cX8_supposeLaid 7 = .ok (.iload_n 1, 1) := by decide +kernel
theorem dX8_supposeLaid_8 : decode cX8_supposeLaid 8 = .ok (.laload, 1) := by decide +kernel
theorem dX8_supposeLaid_9 : decode cX8_supposeLaid 9 = .ok (.lstore_n 3, 1) := by decide +kernel
theorem dX8_supposeLaid_10 : decode cX8_supposeLaid 10 = .ok (.aload_n 0, 1) := by decide +kernel
theorem dX8_supposeLaid_11 : decode cX8_supposeLaid 11 = .ok (.getfield 30, 3) := by decide +kernel
theorem dX8_supposeLaid_14 : decode cX8_supposeLaid 14 = .ok (.getfield 42, 3) := by decide +kernel
theorem dX8_supposeLaid_17 : decode cX8_supposeLaid 17 = .ok (.iload_n 1, 1) := by decide +kernel
theorem dX8_supposeLaid_18 : decode cX8_supposeLaid 18 = .ok (.lload_n 3, 1) := by decide +kernel
theorem dX8_supposeLaid_19 : decode cX8_supposeLaid 19 = .ok (.lconst 1, 1) := by decide +kernel
theorem dX8_supposeLaid_20 : decode cX8_supposeLaid 20 = .ok (.iload_n 2, 1) := by decide +kernel
theorem dX8_supposeLaid_21 : decode cX8_supposeLaid 21 = .ok (.lshl, 1) := by decide +kernel
theorem dX8_supposeLaid_22 : decode cX8_supposeLaid 22 = .ok (.lor, 1) := by decide +kernel
theorem dX8_supposeLaid_23 : decode cX8_supposeLaid 23 = .ok (.lastore, 1) := by decide +kernel
theorem dX8_supposeLaid_24 : decode cX8_supposeLaid 24 = .ok (.aload_n 0, 1) := by decide +kernel
theorem dX8_supposeLaid_25 : decode cX8_supposeLaid 25 = .ok (.getfield 19, 3) := by decide +kernel
theorem dX8_supposeLaid_28 : decode cX8_supposeLaid 28 = .ok (.lconst 0, 1) := by decide +kernel
theorem dX8_supposeLaid_29 : decode cX8_supposeLaid 29 = .ok (.invokestatic 115, 3) := by decide +kernel
theorem dX8_supposeLaid_32 : decode cX8_supposeLaid 32 = .ok (.iconst 0, 1) := by decide +kernel
theorem dX8_supposeLaid_33 : decode cX8_supposeLaid 33 = .ok (.istore 5, 2) := by decide +kernel
theorem dX8_supposeLaid_35 : decode cX8_supposeLaid 35 = .ok (.iload 5, 2) := by decide +kernel
theorem dX8_supposeLaid_37 : decode cX8_supposeLaid 37 = .ok (.aload_n 0, 1) := by decide +kernel
theorem dX8_supposeLaid_38 : decode cX8_supposeLaid 38 = .ok (.getfield 34, 3) := by decide +kernel
theorem dX8_supposeLaid_41 : decode cX8_supposeLaid 41 = .ok (.getfield 98, 3) := by decide +kernel
theorem dX8_supposeLaid_44 : decode cX8_supposeLaid 44 = .ok (.if_icmp .ge 38, 3) := by decide +kernel
theorem dX8_supposeLaid_47 : decode cX8_supposeLaid 47 = .ok (.aload_n 0, 1) := by decide +kernel
theorem dX8_supposeLaid_48 : decode cX8_supposeLaid 48 = .ok (.getfield 27, 3) := by decide +kernel
theorem dX8_supposeLaid_51 : decode cX8_supposeLaid 51 = .ok (.iload 5, 2) := by decide +kernel
theorem dX8_supposeLaid_53 : decode cX8_supposeLaid 53 = .ok (.laload, 1) := by decide +kernel
theorem dX8_supposeLaid_54 : decode cX8_supposeLaid 54 = .ok (.iload_n 2, 1) := by decide +kernel
theorem dX8_supposeLaid_55 : decode cX8_supposeLaid 55 = .ok (.invokestatic 94, 3) := by decide +kernel
theorem dX8_supposeLaid_58 : decode cX8_supposeLaid 58 = .ok (.ifCond .eq 12, 3) := by decide +kernel
theorem dX8_supposeLaid_61 : decode cX8_supposeLaid 61 = .ok (.aload_n 0, 1) := by decide +kernel
theorem dX8_supposeLaid_62 : decode cX8_supposeLaid 62 = .ok (.iload 5, 2) := by decide +kernel
theorem dX8_supposeLaid_64 : decode cX8_supposeLaid 64 = .ok (.invokevirtual 124, 3) := by decide +kernel
theorem dX8_supposeLaid_67 : decode cX8_supposeLaid 67 = .ok (.goto 9, 3) := by decide +kernel
theorem dX8_supposeLaid_70 : decode cX8_supposeLaid 70 = .ok (.aload_n 0, 1) := by decide +kernel
theorem dX8_supposeLaid_71 : decode cX8_supposeLaid 71 = .ok (.iload 5, 2) := by decide +kernel
theorem dX8_supposeLaid_73 : decode cX8_supposeLaid 73 = .ok (.invokevirtual 121, 3) := by decide +kernel
theorem dX8_supposeLaid_76 : decode cX8_supposeLaid 76 = .ok (.iinc 5 1, 3) := by decide +kernel
theorem dX8_supposeLaid_79 : decode cX8_supposeLaid 79 = .ok (.goto (-44), 3) := by decide +kernel
theorem dX8_supposeLaid_82 : decode cX8_supposeLaid 82 = .ok (.aload_n 0, 1) := by decide +kernel
theorem dX8_supposeLaid_83 : decode cX8_supposeLaid 83 = .ok (.getfield 30, 3) := by decide +kernel
theorem dX8_supposeLaid_86 : decode cX8_supposeLaid 86 = .ok (.getfield 42, 3) := by decide +kernel
theorem dX8_supposeLaid_89 : decode cX8_supposeLaid 89 = .ok (.iload_n 1, 1) := by decide +kernel
theorem dX8_supposeLaid_90 : decode cX8_supposeLaid 90 = .ok (.lload_n 3, 1) := by decide +kernel
theorem dX8_supposeLaid_91 : decode cX8_supposeLaid 91 = .ok (.lastore, 1) := by decide +kernel
theorem dX8_supposeLaid_92 : decode cX8_supposeLaid 92 = .ok (.lconst 0, 1) := by decide +kernel
theorem dX8_supposeLaid_93 : decode cX8_supposeLaid 93 = .ok (.lstore 5, 2) := by decide +kernel
theorem dX8_supposeLaid_95 : decode cX8_supposeLaid 95 = .ok (.iconst 0, 1) := by decide +kernel
theorem dX8_supposeLaid_96 : decode cX8_supposeLaid 96 = .ok (.istore 7, 2) := by decide +kernel
theorem dX8_supposeLaid_98 : decode cX8_supposeLaid 98 = .ok (.iload 7, 2) := by decide +kernel
theorem dX8_supposeLaid_100 : decode cX8_supposeLaid 100 = .ok (.bipush 24, 2) := by decide +kernel
theorem dX8_supposeLaid_102 : decode cX8_supposeLaid 102 = .ok (.if_icmp .ge 29, 3) := by decide +kernel
theorem dX8_supposeLaid_105 : decode cX8_supposeLaid 105 = .ok (.lload 5, 2) := by decide +kernel
theorem dX8_supposeLaid_107 : decode cX8_supposeLaid 107 = .ok (.aload_n 0, 1) := by decide +kernel
theorem dX8_supposeLaid_108 : decode cX8_supposeLaid 108 = .ok (.getfield 19, 3) := by decide +kernel
theorem dX8_supposeLaid_111 : decode cX8_supposeLaid 111 = .ok (.iload 7, 2) := by decide +kernel
theorem dX8_supposeLaid_113 : decode cX8_supposeLaid 113 = .ok (.laload, 1) := by decide +kernel
theorem dX8_supposeLaid_114 : decode cX8_supposeLaid 114 = .ok (.aload_n 0, 1) := by decide +kernel
theorem dX8_supposeLaid_115 : decode cX8_supposeLaid 115 = .ok (.getfield 15, 3) := by decide +kernel
theorem dX8_supposeLaid_118 : decode cX8_supposeLaid 118 = .ok (.iload 7, 2) := by decide +kernel
theorem dX8_supposeLaid_120 : decode cX8_supposeLaid 120 = .ok (.laload, 1) := by decide +kernel
theorem dX8_supposeLaid_121 : decode cX8_supposeLaid 121 = .ok (.lxor, 1) := by decide +kernel
theorem dX8_supposeLaid_122 : decode cX8_supposeLaid 122 = .ok (.lor, 1) := by decide +kernel
theorem dX8_supposeLaid_123 : decode cX8_supposeLaid 123 = .ok (.lstore 5, 2) := by decide +kernel
theorem dX8_supposeLaid_125 : decode cX8_supposeLaid 125 = .ok (.iinc 7 1, 3) := by decide +kernel
theorem dX8_supposeLaid_128 : decode cX8_supposeLaid 128 = .ok (.goto (-30), 3) := by decide +kernel
theorem dX8_supposeLaid_131 : decode cX8_supposeLaid 131 = .ok (.lload 5, 2) := by decide +kernel
theorem dX8_supposeLaid_133 : decode cX8_supposeLaid 133 = .ok (.lconst 0, 1) := by decide +kernel
theorem dX8_supposeLaid_134 : decode cX8_supposeLaid 134 = .ok (.lcmp, 1) := by decide +kernel
theorem dX8_supposeLaid_135 : decode cX8_supposeLaid 135 = .ok (.ifCond .eq 7, 3) := by decide +kernel
theorem dX8_supposeLaid_138 : decode cX8_supposeLaid 138 = .ok (.iconst 1, 1) := by decide +kernel
theorem dX8_supposeLaid_139 : decode cX8_supposeLaid 139 = .ok (.goto 4, 3) := by decide +kernel
theorem dX8_supposeLaid_142 : decode cX8_supposeLaid 142 = .ok (.iconst 0, 1) := by decide +kernel
theorem dX8_supposeLaid_143 : decode cX8_supposeLaid 143 = .ok (.ireturn, 1) := by decide +kernel
theorem dX8_supposeAhead_0 : decode cX8_supposeAhead 0 = .ok (.aload_n 0, 1) := by decide +kernel
theorem dX8_supposeAhead_1 : decode cX8_supposeAhead 1 = .ok (.getfield 34, 3) := by decide +kernel
theorem dX8_supposeAhead_4 : decode cX8_supposeAhead 4 = .ok (.getfield 127, 3) := by decide +kernel
theorem dX8_supposeAhead_7 : decode cX8_supposeAhead 7 = .ok (.iload_n 1, 1) := by decide +kernel
theorem dX8_supposeAhead_8 : decode cX8_supposeAhead 8 = .ok (.iaload, 1) := by decide +kernel
theorem dX8_supposeAhead_9 : decode cX8_supposeAhead 9 = .ok (.istore_n 3, 1) := by decide +kernel
theorem dX8_supposeAhead_10 : decode cX8_supposeAhead 10 = .ok (.aload_n 0, 1) := by decide +kernel
theorem dX8_supposeAhead_11 : decode cX8_supposeAhead 11 = .ok (.getfield 34, 3) := by decide +kernel
theorem dX8_supposeAhead_14 : decode cX8_supposeAhead 14 = .ok (.getfield 127, 3) := by decide +kernel
theorem dX8_supposeAhead_17 : decode cX8_supposeAhead 17 = .ok (.iload_n 1, 1) := by decide +kernel
theorem dX8_supposeAhead_18 : decode cX8_supposeAhead 18 = .ok (.iload_n 2, 1) := by decide +kernel
theorem dX8_supposeAhead_19 : decode cX8_supposeAhead 19 = .ok (.iastore, 1) := by decide +kernel
theorem dX8_supposeAhead_20 : decode cX8_supposeAhead 20 = .ok (.aload_n 0, 1) := by decide +kernel
theorem dX8_supposeAhead_21 : decode cX8_supposeAhead 21 = .ok (.iconst 1, 1) := by decide +kernel
theorem dX8_supposeAhead_22 : decode cX8_supposeAhead 22 = .ok (.iload_n 1, 1) := by decide +kernel
theorem dX8_supposeAhead_23 : decode cX8_supposeAhead 23 = .ok (.ishl, 1) := by decide +kernel
theorem dX8_supposeAhead_24 : decode cX8_supposeAhead 24 = .ok (.invokevirtual 105, 3) := by decide +kernel
theorem dX8_supposeAhead_27 : decode cX8_supposeAhead 27 = .ok (.aload_n 0, 1) := by decide +kernel
theorem dX8_supposeAhead_28 : decode cX8_supposeAhead 28 = .ok (.iload_n 1, 1) := by decide +kernel
theorem dX8_supposeAhead_29 : decode cX8_supposeAhead 29 = .ok (.invokevirtual 124, 3) := by decide +kernel
theorem dX8_supposeAhead_32 : decode cX8_supposeAhead 32 = .ok (.aload_n 0, 1) := by decide +kernel
theorem dX8_supposeAhead_33 : decode cX8_supposeAhead 33 = .ok (.getfield 34, 3) := by decide +kernel
theorem dX8_supposeAhead_36 : decode cX8_supposeAhead 36 = .ok (.getfield 127, 3) := by decide +kernel
theorem dX8_supposeAhead_39 : decode cX8_supposeAhead 39 = .ok (.iload_n 1, 1) := by decide +kernel
theorem dX8_supposeAhead_40 : decode cX8_supposeAhead 40 = .ok (.iload_n 3, 1) := by decide +kernel
theorem dX8_supposeAhead_41 : decode cX8_supposeAhead 41 = .ok (.iastore, 1) := by decide +kernel
theorem dX8_supposeAhead_42 : decode cX8_supposeAhead 42 = .ok (.return_, 1) := by decide +kernel
theorem dX8_supposeLaw_0 : decode cX8_supposeLaw 0 = .ok (.aload_n 0, 1) := by decide +kernel
theorem dX8_supposeLaw_1 : decode cX8_supposeLaw 1 = .ok (.getfield 38, 3) := by decide +kernel
theorem dX8_supposeLaw_4 : decode cX8_supposeLaw 4 = .ok (.getfield 130, 3) := by decide +kernel
theorem dX8_supposeLaw_7 : decode cX8_supposeLaw 7 = .ok (.istore_n 2, 1) := by decide +kernel
theorem dX8_supposeLaw_8 : decode cX8_supposeLaw 8 = .ok (.aload_n 0, 1) := by decide +kernel
theorem dX8_supposeLaw_9 : decode cX8_supposeLaw 9 = .ok (.getfield 38, 3) := by decide +kernel
theorem dX8_supposeLaw_12 : decode cX8_supposeLaw 12 = .ok (.iload_n 1, 1) := by decide +kernel
theorem dX8_supposeLaw_13 : decode cX8_supposeLaw 13 = .ok (.putfield 130, 3) := by decide +kernel
theorem dX8_supposeLaw_16 : decode cX8_supposeLaw 16 = .ok (.aload_n 0, 1) := by decide +kernel
theorem dX8_supposeLaw_17 : decode cX8_supposeLaw 17 = .ok (.getfield 19, 3) := by decide +kernel
theorem dX8_supposeLaw_20 : decode cX8_supposeLaw 20 = .ok (.lconst 0, 1) := by decide +kernel
theorem dX8_supposeLaw_21 : decode cX8_supposeLaw 21 = .ok (.invokestatic 115, 3) := by decide +kernel
theorem dX8_supposeLaw_24 : decode cX8_supposeLaw 24 = .ok (.iconst 0, 1) := by decide +kernel
theorem dX8_supposeLaw_25 : decode cX8_supposeLaw 25 = .ok (.istore_n 3, 1) := by decide +kernel
theorem dX8_supposeLaw_26 : decode cX8_supposeLaw 26 = .ok (.iload_n 3, 1) := by decide +kernel
theorem dX8_supposeLaw_27 : decode cX8_supposeLaw 27 = .ok (.aload_n 0, 1) := by decide +kernel
theorem dX8_supposeLaw_28 : decode cX8_supposeLaw 28 = .ok (.getfield 34, 3) := by decide +kernel
theorem dX8_supposeLaw_31 : decode cX8_supposeLaw 31 = .ok (.getfield 98, 3) := by decide +kernel
theorem dX8_supposeLaw_34 : decode cX8_supposeLaw 34 = .ok (.if_icmp .ge 14, 3) := by decide +kernel
theorem dX8_supposeLaw_37 : decode cX8_supposeLaw 37 = .ok (.aload_n 0, 1) := by decide +kernel
theorem dX8_supposeLaw_38 : decode cX8_supposeLaw 38 = .ok (.iload_n 3, 1) := by decide +kernel
theorem dX8_supposeLaw_39 : decode cX8_supposeLaw 39 = .ok (.invokevirtual 124, 3) := by decide +kernel
theorem dX8_supposeLaw_42 : decode cX8_supposeLaw 42 = .ok (.iinc 3 1, 3) := by decide +kernel
theorem dX8_supposeLaw_45 : decode cX8_supposeLaw 45 = .ok (.goto (-19), 3) := by decide +kernel
theorem dX8_supposeLaw_48 : decode cX8_supposeLaw 48 = .ok (.aload_n 0, 1) := by decide +kernel
theorem dX8_supposeLaw_49 : decode cX8_supposeLaw 49 = .ok (.getfield 38, 3) := by decide +kernel
theorem dX8_supposeLaw_52 : decode cX8_supposeLaw 52 = .ok (.iload_n 2, 1) := by decide +kernel
theorem dX8_supposeLaw_53 : decode cX8_supposeLaw 53 = .ok (.putfield 130, 3) := by decide +kernel
theorem dX8_supposeLaw_56 : decode cX8_supposeLaw 56 = .ok (.return_, 1) := by decide +kernel
theorem dX8_supposeLots_0 : decode cX8_supposeLots 0 = .ok (.aload_n 0, 1) := by decide +kernel
theorem dX8_supposeLots_1 : decode cX8_supposeLots 1 = .ok (.getfield 19, 3) := by decide +kernel
theorem dX8_supposeLots_4 : decode cX8_supposeLots 4 = .ok (.lconst 0, 1) := by decide +kernel
theorem dX8_supposeLots_5 : decode cX8_supposeLots 5 = .ok (.invokestatic 115, 3) := by decide +kernel
theorem dX8_supposeLots_8 : decode cX8_supposeLots 8 = .ok (.iload_n 1, 1) := by decide +kernel
theorem dX8_supposeLots_9 : decode cX8_supposeLots 9 = .ok (.i2l, 1) := by decide +kernel
theorem dX8_supposeLots_10 : decode cX8_supposeLots 10 = .ok (.lconst 1, 1) := by decide +kernel
theorem dX8_supposeLots_11 : decode cX8_supposeLots 11 = .ok (.ladd, 1) := by decide +kernel
theorem dX8_supposeLots_12 : decode cX8_supposeLots 12 = .ok (.lstore_n 2, 1) := by decide +kernel
theorem dX8_supposeLots_13 : decode cX8_supposeLots 13 = .ok (.iconst 0, 1) := by decide +kernel
theorem dX8_supposeLots_14 : decode cX8_supposeLots 14 = .ok (.istore 4, 2) := by decide +kernel
theorem dX8_supposeLots_16 : decode cX8_supposeLots 16 = .ok (.iload 4, 2) := by decide +kernel
theorem dX8_supposeLots_18 : decode cX8_supposeLots 18 = .ok (.aload_n 0, 1) := by decide +kernel
theorem dX8_supposeLots_19 : decode cX8_supposeLots 19 = .ok (.getfield 34, 3) := by decide +kernel
theorem dX8_supposeLots_22 : decode cX8_supposeLots 22 = .ok (.getfield 98, 3) := by decide +kernel
theorem dX8_supposeLots_25 : decode cX8_supposeLots 25 = .ok (.if_icmp .ge 65, 3) := by decide +kernel
theorem dX8_supposeLots_28 : decode cX8_supposeLots 28 = .ok (.lload_n 2, 1) := by decide +kernel
theorem dX8_supposeLots_29 : decode cX8_supposeLots 29 = .ok (.ldc2_w 133, 3) := by decide +kernel
theorem dX8_supposeLots_32 : decode cX8_supposeLots 32 = .ok (.lmul, 1) := by decide +kernel
theorem dX8_supposeLots_33 : decode cX8_supposeLots 33 = .ok (.ldc2_w 135, 3) := by decide +kernel
theorem dX8_supposeLots_36 : decode cX8_supposeLots 36 = .ok (.lrem, 1) := by decide +kernel
theorem dX8_supposeLots_37 : decode cX8_supposeLots 37 = .ok (.lstore_n 2, 1) := by decide +kernel
theorem dX8_supposeLots_38 : decode cX8_supposeLots 38 = .ok (.aload_n 0, 1) := by decide +kernel
theorem dX8_supposeLots_39 : decode cX8_supposeLots 39 = .ok (.getfield 34, 3) := by decide +kernel
theorem dX8_supposeLots_42 : decode cX8_supposeLots 42 = .ok (.getfield 127, 3) := by decide +kernel
theorem dX8_supposeLots_45 : decode cX8_supposeLots 45 = .ok (.iload 4, 2) := by decide +kernel
theorem dX8_supposeLots_47 : decode cX8_supposeLots 47 = .ok (.iaload, 1) := by decide +kernel
theorem dX8_supposeLots_48 : decode cX8_supposeLots 48 = .ok (.istore 5, 2) := by decide +kernel
theorem dX8_supposeLots_50 : decode cX8_supposeLots 50 = .ok (.aload_n 0, 1) := by decide +kernel
theorem dX8_supposeLots_51 : decode cX8_supposeLots 51 = .ok (.getfield 34, 3) := by decide +kernel
theorem dX8_supposeLots_54 : decode cX8_supposeLots 54 = .ok (.getfield 127, 3) := by decide +kernel
theorem dX8_supposeLots_57 : decode cX8_supposeLots 57 = .ok (.iload 4, 2) := by decide +kernel
theorem dX8_supposeLots_59 : decode cX8_supposeLots 59 = .ok (.lload_n 2, 1) := by decide +kernel
theorem dX8_supposeLots_60 : decode cX8_supposeLots 60 = .ok (.ldc2_w 137, 3) := by decide +kernel
theorem dX8_supposeLots_63 : decode cX8_supposeLots 63 = .ok (.lrem, 1) := by decide +kernel
theorem dX8_supposeLots_64 : decode cX8_supposeLots 64 = .ok (.l2i, 1) := by decide +kernel
theorem dX8_supposeLots_65 : decode cX8_supposeLots 65 = .ok (.iastore, 1) := by decide +kernel
theorem dX8_supposeLots_66 : decode cX8_supposeLots 66 = .ok (.aload_n 0, 1) := by decide +kernel
theorem dX8_supposeLots_67 : decode cX8_supposeLots 67 = .ok (.iload 4, 2) := by decide +kernel
theorem dX8_supposeLots_69 : decode cX8_supposeLots 69 = .ok (.invokevirtual 124, 3) := by decide +kernel
theorem dX8_supposeLots_72 : decode cX8_supposeLots 72 = .ok (.aload_n 0, 1) := by decide +kernel
theorem dX8_supposeLots_73 : decode cX8_supposeLots 73 = .ok (.getfield 34, 3) := by decide +kernel
theorem dX8_supposeLots_76 : decode cX8_supposeLots 76 = .ok (.getfield 127, 3) := by decide +kernel
theorem dX8_supposeLots_79 : decode cX8_supposeLots 79 = .ok (.iload 4, 2) := by decide +kernel
theorem dX8_supposeLots_81 : decode cX8_supposeLots 81 = .ok (.iload 5, 2) := by decide +kernel
theorem dX8_supposeLots_83 : decode cX8_supposeLots 83 = .ok (.iastore, 1) := by decide +kernel
theorem dX8_supposeLots_84 : decode cX8_supposeLots 84 = .ok (.iinc 4 1, 3) := by decide +kernel
theorem dX8_supposeLots_87 : decode cX8_supposeLots 87 = .ok (.goto (-71), 3) := by decide +kernel
theorem dX8_supposeLots_90 : decode cX8_supposeLots 90 = .ok (.return_, 1) := by decide +kernel
theorem dX9_init_0 : decode cX9_init 0 = .ok (.aload_n 0, 1) := by decide +kernel
theorem dX9_init_1 : decode cX9_init 1 = .ok (.invokespecial 3, 3) := by decide +kernel
theorem dX9_init_4 : decode cX9_init 4 = .ok (.aload_n 0, 1) := by decide +kernel
theorem dX9_init_5 : decode cX9_init 5 = .ok (.new 9, 3) := by decide +kernel
theorem dX9_init_8 : decode cX9_init 8 = .ok (.dup, 1) := by decide +kernel
theorem dX9_init_9 : decode cX9_init 9 = .ok (.invokespecial 11, 3) := by decide +kernel
theorem dX9_init_12 : decode cX9_init 12 = .ok (.putfield 12, 3) := by decide +kernel
theorem dX9_init_15 : decode cX9_init 15 = .ok (.aload_n 0, 1) := by decide +kernel
theorem dX9_init_16 : decode cX9_init 16 = .ok (.new 16, 3) := by decide +kernel
theorem dX9_init_19 : decode cX9_init 19 = .ok (.dup, 1) := by decide +kernel
theorem dX9_init_20 : decode cX9_init 20 = .ok (.invokespecial 18, 3) := by decide +kernel
theorem dX9_init_23 : decode cX9_init 23 = .ok (.putfield 19, 3) := by decide +kernel
theorem dX9_init_26 : decode cX9_init 26 = .ok (.aload_n 0, 1) := by decide +kernel
theorem dX9_init_27 : decode cX9_init 27 = .ok (.new 23, 3) := by decide +kernel
theorem dX9_init_30 : decode cX9_init 30 = .ok (.dup, 1) := by decide +kernel
theorem dX9_init_31 : decode cX9_init 31 = .ok (.invokespecial 25, 3) := by decide +kernel
theorem dX9_init_34 : decode cX9_init 34 = .ok (.putfield 26, 3) := by decide +kernel
theorem dX9_init_37 : decode cX9_init 37 = .ok (.aload_n 0, 1) := by decide +kernel
theorem dX9_init_38 : decode cX9_init 38 = .ok (.new 30, 3) := by decide +kernel
theorem dX9_init_41 : decode cX9_init 41 = .ok (.dup, 1) := by decide +kernel
theorem dX9_init_42 : decode cX9_init 42 = .ok (.invokespecial 32, 3) := by decide +kernel
theorem dX9_init_45 : decode cX9_init 45 = .ok (.putfield 33, 3) := by decide +kernel
theorem dX9_init_48 : decode cX9_init 48 = .ok (.aload_n 0, 1) := by decide +kernel
theorem dX9_init_49 : decode cX9_init 49 = .ok (.new 37, 3) := by decide +kernel
theorem dX9_init_52 : decode cX9_init 52 = .ok (.dup, 1) := by decide +kernel
theorem dX9_init_53 : decode cX9_init 53 = .ok (.aload_n 0, 1) := by decide +kernel
theorem dX9_init_54 : decode cX9_init 54 = .ok (.getfield 12, 3) := by decide +kernel
theorem dX9_init_57 : decode cX9_init 57 = .ok (.aload_n 0, 1) := by decide +kernel
theorem dX9_init_58 : decode cX9_init 58 = .ok (.getfield 19, 3) := by decide +kernel
theorem dX9_init_61 : decode cX9_init 61 = .ok (.aload_n 0, 1) := by decide +kernel
theorem dX9_init_62 : decode cX9_init 62 = .ok (.getfield 33, 3) := by decide +kernel
theorem dX9_init_65 : decode cX9_init 65 = .ok (.invokespecial 39, 3) := by decide +kernel
theorem dX9_init_68 : decode cX9_init 68 = .ok (.putfield 42, 3) := by decide +kernel
theorem dX9_init_71 : decode cX9_init 71 = .ok (.aload_n 0, 1) := by decide +kernel
theorem dX9_init_72 : decode cX9_init 72 = .ok (.new 46, 3) := by decide +kernel
theorem dX9_init_75 : decode cX9_init 75 = .ok (.dup, 1) := by decide +kernel
theorem dX9_init_76 : decode cX9_init 76 = .ok (.invokespecial 48, 3) := by decide +kernel
theorem dX9_init_79 : decode cX9_init 79 = .ok (.putfield 49, 3) := by decide +kernel
theorem dX9_init_82 : decode cX9_init 82 = .ok (.aload_n 0, 1) := by decide +kernel
theorem dX9_init_83 : decode cX9_init 83 = .ok (.new 53, 3) := by decide +kernel
theorem dX9_init_86 : decode cX9_init 86 = .ok (.dup, 1) := by decide +kernel
theorem dX9_init_87 : decode cX9_init 87 = .ok (.invokespecial 55, 3) := by decide +kernel
theorem dX9_init_90 : decode cX9_init 90 = .ok (.putfield 56, 3) := by decide +kernel
theorem dX9_init_93 : decode cX9_init 93 = .ok (.aload_n 0, 1) := by decide +kernel
theorem dX9_init_94 : decode cX9_init 94 = .ok (.new 60, 3) := by decide +kernel
theorem dX9_init_97 : decode cX9_init 97 = .ok (.dup, 1) := by decide +kernel
theorem dX9_init_98 : decode cX9_init 98 = .ok (.invokespecial 62, 3) := by decide +kernel
theorem dX9_init_101 : decode cX9_init 101 = .ok (.putfield 63, 3) := by decide +kernel
theorem dX9_init_104 : decode cX9_init 104 = .ok (.aload_n 0, 1) := by decide +kernel
theorem dX9_init_105 : decode cX9_init 105 = .ok (.iconst 4, 1) := by decide +kernel
theorem dX9_init_106 : decode cX9_init 106 = .ok (.anewarray 67, 3) := by decide +kernel
theorem dX9_init_109 : decode cX9_init 109 = .ok (.putfield 69, 3) := by decide +kernel
theorem dX9_init_112 : decode cX9_init 112 = .ok (.iconst 0, 1) := by decide +kernel
theorem dX9_init_113 : decode cX9_init 113 = .ok (.istore_n 1, 1) := by decide +kernel
theorem dX9_init_114 : decode cX9_init 114 = .ok (.iload_n 1, 1) := by decide +kernel
theorem dX9_init_115 : decode cX9_init 115 = .ok (.iconst 4, 1) := by decide +kernel
theorem dX9_init_116 : decode cX9_init 116 = .ok (.if_icmp .ge 22, 3) := by decide +kernel
theorem dX9_init_119 : decode cX9_init 119 = .ok (.aload_n 0, 1) := by decide +kernel
theorem dX9_init_120 : decode cX9_init 120 = .ok (.getfield 69, 3) := by decide +kernel
theorem dX9_init_123 : decode cX9_init 123 = .ok (.iload_n 1, 1) := by decide +kernel
theorem dX9_init_124 : decode cX9_init 124 = .ok (.new 67, 3) := by decide +kernel
theorem dX9_init_127 : decode cX9_init 127 = .ok (.dup, 1) := by decide +kernel
theorem dX9_init_128 : decode cX9_init 128 = .ok (.invokespecial 73, 3) := by decide +kernel
theorem dX9_init_131 : decode cX9_init 131 = .ok (.aastore, 1) := by decide +kernel
theorem dX9_init_132 : decode cX9_init 132 = .ok (.iinc 1 1, 3) := by decide +kernel
theorem dX9_init_135 : decode cX9_init 135 = .ok (.goto (-21), 3) := by decide +kernel
theorem dX9_init_138 : decode cX9_init 138 = .ok (.iconst 0, 1) := by decide +kernel
theorem dX9_init_139 : decode cX9_init 139 = .ok (.istore_n 1, 1) := by decide +kernel
theorem dX9_init_140 : decode cX9_init 140 = .ok (.iload_n 1, 1) := by decide +kernel
theorem dX9_init_141 : decode cX9_init 141 = .ok (.ldc 74, 2) := by decide +kernel
theorem dX9_init_143 : decode cX9_init 143 = .ok (.invokevirtual 76, 3) := by decide +kernel
theorem dX9_init_146 : decode cX9_init 146 = .ok (.if_icmp .ge 22, 3) := by decide +kernel
theorem dX9_init_149 : decode cX9_init 149 = .ok (.aload_n 0, 1) := by decide +kernel
theorem dX9_init_150 : decode cX9_init 150 = .ok (.getfield 26, 3) := by decide +kernel
theorem dX9_init_153 : decode cX9_init 153 = .ok (.ldc 74, 2) := by decide +kernel
theorem dX9_init_155 : decode cX9_init 155 = .ok (.iload_n 1, 1) := by decide +kernel
theorem dX9_init_156 : decode cX9_init 156 = .ok (.invokevirtual 82, 3) := by decide +kernel
theorem dX9_init_159 : decode cX9_init 159 = .ok (.invokevirtual 86, 3) := by decide +kernel
theorem dX9_init_162 : decode cX9_init 162 = .ok (.iinc 1 1, 3) := by decide +kernel
theorem dX9_init_165 : decode cX9_init 165 = .ok (.goto (-25), 3) := by decide +kernel
theorem dX9_init_168 : decode cX9_init 168 = .ok (.aload_n 0, 1) := by decide +kernel
theorem dX9_init_169 : decode cX9_init 169 = .ok (.getfield 26, 3) := by decide +kernel
theorem dX9_init_172 : decode cX9_init 172 = .ok (.invokevirtual 90, 3) := by decide +kernel
theorem dX9_init_175 : decode cX9_init 175 = .ok (.pop, 1) := by decide +kernel
theorem dX9_init_176 : decode cX9_init 176 = .ok (.aload_n 0, 1) := by decide +kernel
theorem dX9_init_177 : decode cX9_init 177 = .ok (.getfield 26, 3) := by decide +kernel
theorem dX9_init_180 : decode cX9_init 180 = .ok (.iconst 0, 1) := by decide +kernel
theorem dX9_init_181 : decode cX9_init 181 = .ok (.putfield 93, 3) := by decide +kernel
theorem dX9_init_184 : decode cX9_init 184 = .ok (.aload_n 0, 1) := by decide +kernel
theorem dX9_init_185 : decode cX9_init 185 = .ok (.getfield 33, 3) := by decide +kernel
theorem dX9_init_188 : decode cX9_init 188 = .ok (.aload_n 0, 1) := by decide +kernel
theorem dX9_init_189 : decode cX9_init 189 = .ok (.getfield 26, 3) := by decide +kernel
theorem dX9_init_192 : decode cX9_init 192 = .ok (.getfield 97, 3) := by decide +kernel
theorem dX9_init_195 : decode cX9_init 195 = .ok (.aload_n 0, 1) := by decide +kernel
theorem dX9_init_196 : decode cX9_init 196 = .ok (.getfield 26, 3) := by decide +kernel
theorem dX9_init_199 : decode cX9_init 199 = .ok (.getfield 101, 3) := by decide +kernel
theorem dX9_init_202 : decode cX9_init 202 = .ok (.invokevirtual 104, 3) := by decide +kernel
theorem dX9_init_205 : decode cX9_init 205 = .ok (.pop, 1) := by decide +kernel
theorem dX9_init_206 : decode cX9_init 206 = .ok (.return_, 1) := by decide +kernel
theorem dX9_isWithin_0 : decode cX9_isWithin 0 = .ok (.iload_n 0, 1) := by decide +kernel
theorem dX9_isWithin_1 : decode cX9_isWithin 1 = .ok (.ifCond .lt 12, 3) := by decide +kernel
theorem dX9_isWithin_4 : decode cX9_isWithin 4 = .ok (.iload_n 0, 1) := by decide +kernel
theorem dX9_isWithin_5 : decode cX9_isWithin 5 = .ok (.iload_n 1, 1) := by decide +kernel
theorem dX9_isWithin_6 : decode cX9_isWithin 6 = .ok (.if_icmp .gt 7, 3) := by decide +kernel
theorem dX9_isWithin_9 : decode cX9_isWithin 9 = .ok (.iconst 1, 1) := by decide +kernel
theorem dX9_isWithin_10 : decode cX9_isWithin 10 = .ok (.goto 4, 3) := by decide +kernel
theorem dX9_isWithin_13 : decode cX9_isWithin 13 = .ok (.iconst 0, 1) := by decide +kernel
theorem dX9_isWithin_14 : decode cX9_isWithin 14 = .ok (.ireturn, 1) := by decide +kernel
theorem dX9_isCell_0 : decode cX9_isCell 0 = .ok (.iload_n 0, 1) := by decide +kernel
theorem dX9_isCell_1 : decode cX9_isCell 1 = .ok (.bipush 35, 2) := by decide +kernel
theorem dX9_isCell_3 : decode cX9_isCell 3 = .ok (.invokestatic 107, 3) := by decide +kernel
theorem dX9_isCell_6 : decode cX9_isCell 6 = .ok (.ireturn, 1) := by decide +kernel
theorem dX9_areCells_0 : decode cX9_areCells 0 = .ok (.lload_n 0, 1) := by decide +kernel
theorem dX9_areCells_1 : decode cX9_areCells 1 = .ok (.ldc2_w 111, 3) := by decide +kernel
theorem dX9_areCells_4 : decode cX9_areCells 4 = .ok (.land, 1) := by decide +kernel
theorem dX9_areCells_5 : decode cX9_areCells 5 = .ok (.lconst 0, 1) := by decide +kernel
theorem dX9_areCells_6 : decode cX9_areCells 6 = .ok (.lcmp, 1) := by decide +kernel
theorem dX9_areCells_7 : decode cX9_areCells 7 = .ok (.ifCond .ne 7, 3) := by decide +kernel
theorem dX9_areCells_10 : decode cX9_areCells 10 = .ok (.iconst 1, 1) := by decide +kernel
theorem dX9_areCells_11 : decode cX9_areCells 11 = .ok (.goto 4, 3) := by decide +kernel
theorem dX9_areCells_14 : decode cX9_areCells 14 = .ok (.iconst 0, 1) := by decide +kernel
theorem dX9_areCells_15 : decode cX9_areCells 15 = .ok (.ireturn, 1) := by decide +kernel
theorem dX9_isLayer_0 : decode cX9_isLayer 0 = .ok (.iload_n 0, 1) := by decide +kernel
theorem dX9_isLayer_1 : decode cX9_isLayer 1 = .ok (.iconst 2, 1) := by decide +kernel
theorem dX9_isLayer_2 : decode cX9_isLayer 2 = .ok (.invokestatic 107, 3) := by decide +kernel
theorem dX9_isLayer_5 : decode cX9_isLayer 5 = .ok (.ireturn, 1) := by decide +kernel
theorem dX9_isSecond_0 : decode cX9_isSecond 0 = .ok (.iload_n 0, 1) := by decide +kernel
theorem dX9_isSecond_1 : decode cX9_isSecond 1 = .ok (.bipush 23, 2) := by decide +kernel
theorem dX9_isSecond_3 : decode cX9_isSecond 3 = .ok (.invokestatic 107, 3) := by decide +kernel
theorem dX9_isSecond_6 : decode cX9_isSecond 6 = .ok (.ireturn, 1) := by decide +kernel
theorem dX9_isSheet_0 : decode cX9_isSheet 0 = .ok (.iload_n 0, 1) := by decide +kernel
theorem dX9_isSheet_1 : decode cX9_isSheet 1 = .ok (.iconst 3, 1) := by decide +kernel
theorem dX9_isSheet_2 : decode cX9_isSheet 2 = .ok (.invokestatic 107, 3) := by decide +kernel
theorem dX9_isSheet_5 : decode cX9_isSheet 5 = .ok (.ireturn, 1) := by decide +kernel
theorem dX9_isGuard_0 : decode cX9_isGuard 0 = .ok (.iload_n 1, 1) := by decide +kernel
theorem dX9_isGuard_1 : decode cX9_isGuard 1 = .ok (.aload_n 0, 1) := by decide +kernel
theorem dX9_isGuard_2 : decode cX9_isGuard 2 = .ok (.getfield 19, 3) := by decide +kernel
theorem dX9_isGuard_5 : decode cX9_isGuard 5 = .ok (.getfield 113, 3) := by decide +kernel
theorem dX9_isGuard_8 : decode cX9_isGuard 8 = .ok (.iconst 1, 1) := by decide +kernel
theorem dX9_isGuard_9 : decode cX9_isGuard 9 = .ok (.isub, 1) := by decide +kernel
theorem dX9_isGuard_10 : decode cX9_isGuard 10 = .ok (.invokestatic 107, 3) := by decide +kernel
theorem dX9_isGuard_13 : decode cX9_isGuard 13 = .ok (.ireturn, 1) := by decide +kernel
theorem dX9_isIn_0 : decode cX9_isIn 0 = .ok (.lload_n 0, 1) := by decide +kernel
theorem dX9_isIn_1 : decode cX9_isIn 1 = .ok (.iload_n 2, 1) := by decide +kernel
theorem dX9_isIn_2 : decode cX9_isIn 2 = .ok (.lushr, 1) := by decide +kernel
theorem dX9_isIn_3 : decode cX9_isIn 3 = .ok (.lconst 1, 1) := by decide +kernel
theorem dX9_isIn_4 : decode cX9_isIn 4 = .ok (.land, 1) := by decide +kernel
theorem dX9_isIn_5 : decode cX9_isIn 5 = .ok (.lconst 0, 1) := by decide +kernel
theorem dX9_isIn_6 : decode cX9_isIn 6 = .ok (.lcmp, 1) := by decide +kernel
theorem dX9_isIn_7 : decode cX9_isIn 7 = .ok (.ifCond .eq 7, 3) := by decide +kernel
theorem dX9_isIn_10 : decode cX9_isIn 10 = .ok (.iconst 1, 1) := by decide +kernel
theorem dX9_isIn_11 : decode cX9_isIn 11 = .ok (.goto 4, 3) := by decide +kernel
theorem dX9_isIn_14 : decode cX9_isIn 14 = .ok (.iconst 0, 1) := by decide +kernel
theorem dX9_isIn_15 : decode cX9_isIn 15 = .ok (.ireturn, 1) := by decide +kernel
theorem dX9_leftOf_0 : decode cX9_leftOf 0 = .ok (.iload_n 0, 1) := by decide +kernel
theorem dX9_leftOf_1 : decode cX9_leftOf 1 = .ok (.iconst 3, 1) := by decide +kernel
theorem dX9_leftOf_2 : decode cX9_leftOf 2 = .ok (.iadd, 1) := by decide +kernel
theorem dX9_leftOf_3 : decode cX9_leftOf 3 = .ok (.iconst 4, 1) := by decide +kernel
theorem dX9_leftOf_4 : decode cX9_leftOf 4 = .ok (.irem, 1) := by decide +kernel
theorem dX9_leftOf_5 : decode cX9_leftOf 5 = .ok (.ireturn, 1) := by decide +kernel
theorem dX9_beside_0 : decode cX9_beside 0 = .ok (.iload_n 1, 1) := by decide +kernel
theorem dX9_beside_1 : decode cX9_beside 1 = .ok (.tableswitch 76 0 2 #[27, 44, 60], 27) := by decide +kernel
theorem dX9_beside_28 : decode cX9_beside 28 = .ok (.iload_n 0, 1) := by decide +kernel
theorem dX9_beside_29 : decode cX9_beside 29 = .ok (.bipush 6, 2) := by decide +kernel
theorem dX9_beside_31 : decode cX9_beside 31 = .ok (.idiv, 1) := by decide +kernel
theorem dX9_beside_32 : decode cX9_beside 32 = .ok (.iconst 5, 1) := by decide +kernel
theorem dX9_beside_33 : decode cX9_beside 33 = .ok (.if_icmp .ge 10, 3) := by decide +kernel
theorem dX9_beside_36 : decode cX9_beside 36 = .ok (.iload_n 0, 1) := by decide +kernel
theorem dX9_beside_37 : decode cX9_beside 37 = .ok (.bipush 6, 2) := by decide +kernel
theorem dX9_beside_39 : decode cX9_beside 39 = .ok (.iadd, 1) := by decide +kernel
theorem dX9_beside_40 : decode cX9_beside 40 = .ok (.goto 4, 3) := by decide +kernel
theorem dX9_beside_43 : decode cX9_beside 43 = .ok (.iconst (-1), 1) := by decide +kernel
theorem dX9_beside_44 : decode cX9_beside 44 = .ok (.ireturn, 1) := by decide +kernel
theorem dX9_beside_45 : decode cX9_beside 45 = .ok (.iload_n 0, 1) := by decide +kernel
theorem dX9_beside_46 : decode cX9_beside 46 = .ok (.bipush 6, 2) := by decide +kernel
theorem dX9_beside_48 : decode cX9_beside 48 = .ok (.irem, 1) := by decide +kernel
theorem dX9_beside_49 : decode cX9_beside 49 = .ok (.iconst 5, 1) := by decide +kernel
theorem dX9_beside_50 : decode cX9_beside 50 = .ok (.if_icmp .ge 9, 3) := by decide +kernel
theorem dX9_beside_53 : decode cX9_beside 53 = .ok (.iload_n 0, 1) := by decide +kernel
theorem dX9_beside_54 : decode cX9_beside 54 = .ok (.iconst 1, 1) := by decide +kernel
theorem dX9_beside_55 : decode cX9_beside 55 = .ok (.iadd, 1) := by decide +kernel
theorem dX9_beside_56 : decode cX9_beside 56 = .ok (.goto 4, 3) := by decide +kernel
theorem dX9_beside_59 : decode cX9_beside 59 = .ok (.iconst (-1), 1) := by decide +kernel
theorem dX9_beside_60 : decode cX9_beside 60 = .ok (.ireturn, 1) := by decide +kernel
theorem dX9_beside_61 : decode cX9_beside 61 = .ok (.iload_n 0, 1) := by decide +kernel
theorem dX9_beside_62 : decode cX9_beside 62 = .ok (.bipush 6, 2) := by decide +kernel
theorem dX9_beside_64 : decode cX9_beside 64 = .ok (.idiv, 1) := by decide +kernel
theorem dX9_beside_65 : decode cX9_beside 65 = .ok (.ifCond .le 10, 3) := by decide +kernel
theorem dX9_beside_68 : decode cX9_beside 68 = .ok (.iload_n 0, 1) := by decide +kernel
theorem dX9_beside_69 : decode cX9_beside 69 = .ok (.bipush 6, 2) := by decide +kernel
theorem dX9_beside_71 : decode cX9_beside 71 = .ok (.isub, 1) := by decide +kernel
theorem dX9_beside_72 : decode cX9_beside 72 = .ok (.goto 4, 3) := by decide +kernel
theorem dX9_beside_75 : decode cX9_beside 75 = .ok (.iconst (-1), 1) := by decide +kernel
theorem dX9_beside_76 : decode cX9_beside 76 = .ok (.ireturn, 1) := by decide +kernel
theorem dX9_beside_77 : decode cX9_beside 77 = .ok (.iload_n 0, 1) := by decide +kernel
theorem dX9_beside_78 : decode cX9_beside 78 = .ok (.bipush 6, 2) := by decide +kernel
theorem dX9_beside_80 : decode cX9_beside 80 = .ok (.irem, 1) := by decide +kernel
theorem dX9_beside_81 : decode cX9_beside 81 = .ok (.ifCond .le 9, 3) := by decide +kernel
theorem dX9_beside_84 : decode cX9_beside 84 = .ok (.iload_n 0, 1) := by decide +kernel
theorem dX9_beside_85 : decode cX9_beside 85 = .ok (.iconst 1, 1) := by decide +kernel
theorem dX9_beside_86 : decode cX9_beside 86 = .ok (.isub, 1) := by decide +kernel
theorem dX9_beside_87 : decode cX9_beside 87 = .ok (.goto 4, 3) := by decide +kernel
theorem dX9_beside_90 : decode cX9_beside 90 = .ok (.iconst (-1), 1) := by decide +kernel
theorem dX9_beside_91 : decode cX9_beside 91 = .ok (.ireturn, 1) := by decide +kernel
theorem dX9_lay_0 : decode cX9_lay 0 = .ok (.iload_n 1, 1) := by decide +kernel
theorem dX9_lay_1 : decode cX9_lay 1 = .ok (.invokestatic 116, 3) := by decide +kernel
theorem dX9_lay_4 : decode cX9_lay 4 = .ok (.ifCond .eq 10, 3) := by decide +kernel
theorem dX9_lay_7 : decode cX9_lay 7 = .ok (.lload_n 2, 1) := by decide +kernel
theorem dX9_lay_8 : decode cX9_lay 8 = .ok (.invokestatic 120, 3) := by decide +kernel
theorem dX9_lay_11 : decode cX9_lay 11 = .ok (.ifCond .ne 7, 3) := by decide +kernel
theorem dX9_lay_14 : decode cX9_lay 14 = .ok (.ldc2_w 124, 3) := by decide +kernel
theorem dX9_lay_17 : decode cX9_lay 17 = .ok (.lreturn, 1) := by decide +kernel
theorem dX9_lay_18 : decode cX9_lay 18 = .ok (.aload_n 0, 1) := by decide +kernel
theorem dX9_lay_19 : decode cX9_lay 19 = .ok (.getfield 12, 3) := by decide +kernel
theorem dX9_lay_22 : decode cX9_lay 22 = .ok (.getfield 126, 3) := by decide +kernel
theorem dX9_lay_25 : decode cX9_lay 25 = .ok (.iload_n 1, 1) := by decide +kernel
theorem dX9_lay_26 : decode cX9_lay 26 = .ok (.laload, 1) := by decide +kernel
theorem dX9_lay_27 : decode cX9_lay 27 = .ok (.lstore 4, 2) := by decide +kernel
theorem dX9_lay_29 : decode cX9_lay 29 = .ok (.aload_n 0, 1) := by decide +kernel
theorem dX9_lay_30 : decode cX9_lay 30 = .ok (.getfield 12, 3) := by decide +kernel
theorem dX9_lay_33 : decode cX9_lay 33 = .ok (.getfield 126, 3) := by decide +kernel
theorem dX9_lay_36 : decode cX9_lay 36 = .ok (.iload_n 1, 1) := by decide +kernel
theorem dX9_lay_37 : decode cX9_lay 37 = .ok (.lload_n 2, 1) := by decide +kernel
theorem dX9_lay_38 : decode cX9_lay 38 = .ok (.lastore, 1) := by decide +kernel
theorem dX9_lay_39 : decode cX9_lay 39 = .ok (.aload_n 0, 1) := by decide +kernel
theorem dX9_lay_40 : decode cX9_lay 40 = .ok (.getfield 42, 3) := by decide +kernel
theorem dX9_lay_43 : decode cX9_lay 43 = .ok (.iconst 1, 1) := by decide +kernel
theorem dX9_lay_44 : decode cX9_lay 44 = .ok (.putfield 130, 3) := by decide +kernel
theorem dX9_lay_47 : decode cX9_lay 47 = .ok (.lload 4, 2) := by decide +kernel
theorem dX9_lay_49 : decode cX9_lay 49 = .ok (.lreturn, 1) := by decide +kernel
theorem dX9_laid_0 : decode cX9_laid 0 = .ok (.iload_n 1, 1) := by decide +kernel
theorem dX9_laid_1 : decode cX9_laid 1 = .ok (.invokestatic 116, 3) := by decide +kernel
theorem dX9_laid_4 : decode cX9_laid 4 = .ok (.ifCond .eq 15, 3) := by decide +kernel
theorem dX9_laid_7 : decode cX9_laid 7 = .ok (.aload_n 0, 1) := by decide +kernel
theorem dX9_laid_8 : decode cX9_laid 8 = .ok (.getfield 12, 3) := by decide +kernel
theorem dX9_laid_11 : decode cX9_laid 11 = .ok (.getfield 126, 3) := by decide +kernel
theorem dX9_laid_14 : decode cX9_laid 14 = .ok (.iload_n 1, 1) := by decide +kernel
theorem dX9_laid_15 : decode cX9_laid 15 = .ok (.laload, 1) := by decide +kernel
theorem dX9_laid_16 : decode cX9_laid 16 = .ok (.goto 6, 3) := by decide +kernel
theorem dX9_laid_19 : decode cX9_laid 19 = .ok (.ldc2_w 124, 3) := by decide +kernel
theorem dX9_laid_22 : decode cX9_laid 22 = .ok (.lreturn, 1) := by decide +kernel
theorem dX9_put_0 : decode cX9_put 0 = .ok (.iload_n 1, 1) := by decide +kernel
theorem dX9_put_1 : decode cX9_put 1 = .ok (.invokestatic 134, 3) := by decide +kernel
theorem dX9_put_4 : decode cX9_put 4 = .ok (.ifCond .ne 6, 3) := by decide +kernel
theorem dX9_put_7 : decode cX9_put 7 = .ok (.bipush (-5), 2) := by decide +kernel
theorem dX9_put_9 : decode cX9_put 9 = .ok (.ireturn, 1) := by decide +kernel
theorem dX9_put_10 : decode cX9_put 10 = .ok (.iload_n 2, 1) := by decide +kernel
theorem dX9_put_11 : decode cX9_put 11 = .ok (.invokestatic 116, 3) := by decide +kernel
theorem dX9_put_14 : decode cX9_put 14 = .ok (.ifCond .eq 11, 3) := by decide +kernel
theorem dX9_put_17 : decode cX9_put 17 = .ok (.iload_n 3, 1) := by decide +kernel
theorem dX9_put_18 : decode cX9_put 18 = .ok (.iconst 1, 1) := by decide +kernel
theorem dX9_put_19 : decode cX9_put 19 = .ok (.invokestatic 107, 3) := by decide +kernel
theorem dX9_put_22 : decode cX9_put 22 = .ok (.ifCond .ne 6, 3) := by decide +kernel
theorem dX9_put_25 : decode cX9_put 25 = .ok (.bipush (-7), 2) := by decide +kernel
theorem dX9_put_27 : decode cX9_put 27 = .ok (.ireturn, 1) := by decide +kernel
theorem dX9_put_28 : decode cX9_put 28 = .ok (.aload_n 0, 1) := by decide +kernel
theorem dX9_put_29 : decode cX9_put 29 = .ok (.getfield 12, 3) := by decide +kernel
theorem dX9_put_32 : decode cX9_put 32 = .ok (.getfield 126, 3) := by decide +kernel
theorem dX9_put_35 : decode cX9_put 35 = .ok (.iload_n 2, 1) := by decide +kernel
theorem dX9_put_36 : decode cX9_put 36 = .ok (.laload, 1) := by decide +kernel
theorem dX9_put_37 : decode cX9_put 37 = .ok (.iload_n 1, 1) := by decide +kernel
theorem dX9_put_38 : decode cX9_put 38 = .ok (.invokestatic 137, 3) := by decide +kernel
theorem dX9_put_41 : decode cX9_put 41 = .ok (.istore 4, 2) := by decide +kernel
theorem dX9_put_43 : decode cX9_put 43 = .ok (.aload_n 0, 1) := by decide +kernel
theorem dX9_put_44 : decode cX9_put 44 = .ok (.getfield 12, 3) := by decide +kernel
theorem dX9_put_47 : decode cX9_put 47 = .ok (.getfield 126, 3) := by decide +kernel
theorem dX9_put_50 : decode cX9_put 50 = .ok (.iload_n 2, 1) := by decide +kernel
theorem dX9_put_51 : decode cX9_put 51 = .ok (.laload, 1) := by decide +kernel
theorem dX9_put_52 : decode cX9_put 52 = .ok (.lconst 1, 1) := by decide +kernel
theorem dX9_put_53 : decode cX9_put 53 = .ok (.iload_n 1, 1) := by decide +kernel
theorem dX9_put_54 : decode cX9_put 54 = .ok (.lshl, 1) := by decide +kernel
theorem dX9_put_55 : decode cX9_put 55 = .ok (.ldc2_w 141, 3) := by decide +kernel
theorem dX9_put_58 : decode cX9_put 58 = .ok (.lxor, 1) := by decide +kernel
theorem dX9_put_59 : decode cX9_put 59 = .ok (.land, 1) := by decide +kernel
theorem dX9_put_60 : decode cX9_put 60 = .ok (.lstore 5, 2) := by decide +kernel
theorem dX9_put_62 : decode cX9_put 62 = .ok (.aload_n 0, 1) := by decide +kernel
theorem dX9_put_63 : decode cX9_put 63 = .ok (.getfield 12, 3) := by decide +kernel
theorem dX9_put_66 : decode cX9_put 66 = .ok (.getfield 126, 3) := by decide +kernel
theorem dX9_put_69 : decode cX9_put 69 = .ok (.iload_n 2, 1) := by decide +kernel
theorem dX9_put_70 : decode cX9_put 70 = .ok (.lload 5, 2) := by decide +kernel
theorem dX9_put_72 : decode cX9_put 72 = .ok (.iload_n 3, 1) := by decide +kernel
theorem dX9_put_73 : decode cX9_put 73 = .ok (.i2l, 1) := by decide +kernel
theorem dX9_put_74 : decode cX9_put 74 = .ok (.iload_n 1, 1) := by decide +kernel
theorem dX9_put_75 : decode cX9_put 75 = .ok (.lshl, 1) := by decide +kernel
theorem dX9_put_76 : decode cX9_put 76 = .ok (.lor, 1) := by decide +kernel
theorem dX9_put_77 : decode cX9_put 77 = .ok (.lastore, 1) := by decide +kernel
theorem dX9_put_78 : decode cX9_put 78 = .ok (.aload_n 0, 1) := by decide +kernel
theorem dX9_put_79 : decode cX9_put 79 = .ok (.getfield 42, 3) := by decide +kernel
theorem dX9_put_82 : decode cX9_put 82 = .ok (.iconst 1, 1) := by decide +kernel
theorem dX9_put_83 : decode cX9_put 83 = .ok (.putfield 130, 3) := by decide +kernel
theorem dX9_put_86 : decode cX9_put 86 = .ok (.iload 4, 2) := by decide +kernel
theorem dX9_put_88 : decode cX9_put 88 = .ok (.ifCond .eq 7, 3) := by decide +kernel
theorem dX9_put_91 : decode cX9_put 91 = .ok (.iconst 1, 1) := by decide +kernel
theorem dX9_put_92 : decode cX9_put 92 = .ok (.goto 4, 3) := by decide +kernel
theorem dX9_put_95 : decode cX9_put 95 = .ok (.iconst 0, 1) := by decide +kernel
theorem dX9_put_96 : decode cX9_put 96 = .ok (.ireturn, 1) := by decide +kernel
theorem dX9_count_0 : decode cX9_count 0 = .ok (.iload_n 1, 1) := by decide +kernel
theorem dX9_count_1 : decode cX9_count 1 = .ok (.tableswitch 114 0 6 #[43, 51, 64, 77, 90, 98, 106], 43) := by decide +kernel
theorem dX9_count_44 : decode cX9_count 44 = .ok (.aload_n 0, 1) := by decide +kernel
theorem dX9_count_45 : decode cX9_count 45 = .ok (.getfield 19, 3) := by decide +kernel
theorem dX9_count_48 : decode cX9_count 48 = .ok (.getfield 113, 3) := by decide +kernel
theorem dX9_count_51 : decode cX9_count 51 = .ok (.ireturn, 1) := by decide +kernel
theorem dX9_count_52 : decode cX9_count 52 = .ok (.aload_n 0, 1) := by decide +kernel
theorem dX9_count_53 : decode cX9_count 53 = .ok (.getfield 12, 3) := by decide +kernel
theorem dX9_count_56 : decode cX9_count 56 = .ok (.getfield 126, 3) := by decide +kernel
theorem dX9_count_59 : decode cX9_count 59 = .ok (.iconst 0, 1) := by decide +kernel
theorem dX9_count_60 : decode cX9_count 60 = .ok (.laload, 1) := by decide +kernel
theorem dX9_count_61 : decode cX9_count 61 = .ok (.invokestatic 143, 3) := by decide +kernel
theorem dX9_count_64 : decode cX9_count 64 = .ok (.ireturn, 1) := by decide +kernel
theorem dX9_count_65 : decode cX9_count 65 = .ok (.aload_n 0, 1) := by decide +kernel
theorem dX9_count_66 : decode cX9_count 66 = .ok (.getfield 12, 3) := by decide +kernel
theorem dX9_count_69 : decode cX9_count 69 = .ok (.getfield 126, 3) := by decide +kernel
theorem dX9_count_72 : decode cX9_count 72 = .ok (.iconst 1, 1) := by decide +kernel
theorem dX9_count_73 : decode cX9_count 73 = .ok (.laload, 1) := by decide +kernel
theorem dX9_count_74 : decode cX9_count 74 = .ok (.invokestatic 143, 3) := by decide +kernel
theorem dX9_count_77 : decode cX9_count 77 = .ok (.ireturn, 1) := by decide +kernel
theorem dX9_count_78 : decode cX9_count 78 = .ok (.aload_n 0, 1) := by decide +kernel
theorem dX9_count_79 : decode cX9_count 79 = .ok (.getfield 12, 3) := by decide +kernel
theorem dX9_count_82 : decode cX9_count 82 = .ok (.getfield 126, 3) := by decide +kernel
theorem dX9_count_85 : decode cX9_count 85 = .ok (.iconst 2, 1) := by decide +kernel
theorem dX9_count_86 : decode cX9_count 86 = .ok (.laload, 1) := by decide +kernel
theorem dX9_count_87 : decode cX9_count 87 = .ok (.invokestatic 143, 3) := by decide +kernel
theorem dX9_count_90 : decode cX9_count 90 = .ok (.ireturn, 1) := by decide +kernel
theorem dX9_count_91 : decode cX9_count 91 = .ok (.aload_n 0, 1) := by decide +kernel
theorem dX9_count_92 : decode cX9_count 92 = .ok (.getfield 33, 3) := by decide +kernel
theorem dX9_count_95 : decode cX9_count 95 = .ok (.getfield 149, 3) := by decide +kernel
theorem dX9_count_98 : decode cX9_count 98 = .ok (.ireturn, 1) := by decide +kernel
theorem dX9_count_99 : decode cX9_count 99 = .ok (.aload_n 0, 1) := by decide +kernel
theorem dX9_count_100 : decode cX9_count 100 = .ok (.getfield 33, 3) := by decide +kernel
theorem dX9_count_103 : decode cX9_count 103 = .ok (.getfield 150, 3) := by decide +kernel
theorem dX9_count_106 : decode cX9_count 106 = .ok (.ireturn, 1) := by decide +kernel
theorem dX9_count_107 : decode cX9_count 107 = .ok (.aload_n 0, 1) := by decide +kernel
theorem dX9_count_108 : decode cX9_count 108 = .ok (.getfield 26, 3) := by decide +kernel
theorem dX9_count_111 : decode cX9_count 111 = .ok (.getfield 93, 3) := by decide +kernel
theorem dX9_count_114 : decode cX9_count 114 = .ok (.ireturn, 1) := by decide +kernel
theorem dX9_count_115 : decode cX9_count 115 = .ok (.bipush (-2), 2) := by decide +kernel
theorem dX9_count_117 : decode cX9_count 117 = .ok (.ireturn, 1) := by decide +kernel
theorem dX9_feed_0 : decode cX9_feed 0 = .ok (.iload_n 1, 1) := by decide +kernel
theorem dX9_feed_1 : decode cX9_feed 1 = .ok (.iconst 1, 1) := by decide +kernel
theorem dX9_feed_2 : decode cX9_feed 2 = .ok (.if_icmp .lt 46, 3) := by decide +kernel
theorem dX9_feed_5 : decode cX9_feed 5 = .ok (.iload_n 1, 1) := by decide +kernel
theorem dX9_feed_6 : decode cX9_feed 6 = .ok (.iconst 5, 1) := by decide +kernel
theorem dX9_feed_7 : decode cX9_feed 7 = .ok (.if_icmp .gt 41, 3) := by decide +kernel
theorem dX9_feed_10 : decode cX9_feed 10 = .ok (.iload_n 2, 1) := by decide +kernel
theorem dX9_feed_11 : decode cX9_feed 11 = .ok (.invokestatic 153, 3) := by decide +kernel
theorem dX9_feed_14 : decode cX9_feed 14 = .ok (.ifCond .eq 34, 3) := by decide +kernel
theorem dX9_feed_17 : decode cX9_feed 17 = .ok (.iload_n 3, 1) := by decide +kernel
theorem dX9_feed_18 : decode cX9_feed 18 = .ok (.invokestatic 153, 3) := by decide +kernel
theorem dX9_feed_21 : decode cX9_feed 21 = .ok (.ifCond .eq 27, 3) := by decide +kernel
theorem dX9_feed_24 : decode cX9_feed 24 = .ok (.iload 4, 2) := by decide +kernel
theorem dX9_feed_26 : decode cX9_feed 26 = .ok (.invokestatic 153, 3) := by decide +kernel
theorem dX9_feed_29 : decode cX9_feed 29 = .ok (.ifCond .eq 19, 3) := by decide +kernel
theorem dX9_feed_32 : decode cX9_feed 32 = .ok (.iload 5, 2) := by decide +kernel
theorem dX9_feed_34 : decode cX9_feed 34 = .ok (.invokestatic 153, 3) := by decide +kernel
theorem dX9_feed_37 : decode cX9_feed 37 = .ok (.ifCond .eq 11, 3) := by decide +kernel
theorem dX9_feed_40 : decode cX9_feed 40 = .ok (.iload 6, 2) := by decide +kernel
theorem dX9_feed_42 : decode cX9_feed 42 = .ok (.invokestatic 153, 3) := by decide +kernel
theorem dX9_feed_45 : decode cX9_feed 45 = .ok (.ifCond .ne 6, 3) := by decide +kernel
theorem dX9_feed_48 : decode cX9_feed 48 = .ok (.bipush (-2), 2) := by decide +kernel
theorem dX9_feed_50 : decode cX9_feed 50 = .ok (.ireturn, 1) := by decide +kernel
theorem dX9_feed_51 : decode cX9_feed 51 = .ok (.iload_n 1, 1) := by decide +kernel
theorem dX9_feed_52 : decode cX9_feed 52 = .ok (.sipush 160, 3) := by decide +kernel
theorem dX9_feed_55 : decode cX9_feed 55 = .ok (.aload_n 0, 1) := by decide +kernel
theorem dX9_feed_56 : decode cX9_feed 56 = .ok (.getfield 26, 3) := by decide +kernel
theorem dX9_feed_59 : decode cX9_feed 59 = .ok (.getfield 93, 3) := by decide +kernel
theorem dX9_feed_62 : decode cX9_feed 62 = .ok (.isub, 1) := by decide +kernel
theorem dX9_feed_63 : decode cX9_feed 63 = .ok (.if_icmp .le 6, 3) := by decide +kernel
theorem dX9_feed_66 : decode cX9_feed 66 = .ok (.bipush (-4), 2) := by decide +kernel
theorem dX9_feed_68 : decode cX9_feed 68 = .ok (.ireturn, 1) := by decide +kernel
theorem dX9_feed_69 : decode cX9_feed 69 = .ok (.iconst 0, 1) := by decide +kernel
theorem dX9_feed_70 : decode cX9_feed 70 = .ok (.istore 7, 2) := by decide +kernel
theorem dX9_feed_72 : decode cX9_feed 72 = .ok (.iload 7, 2) := by decide +kernel
theorem dX9_feed_74 : decode cX9_feed 74 = .ok (.iload_n 1, 1) := by decide +kernel
theorem dX9_feed_75 : decode cX9_feed 75 = .ok (.if_icmp .ge 59, 3) := by decide +kernel
theorem dX9_feed_78 : decode cX9_feed 78 = .ok (.aload_n 0, 1) := by decide +kernel
theorem dX9_feed_79 : decode cX9_feed 79 = .ok (.getfield 26, 3) := by decide +kernel
theorem dX9_feed_82 : decode cX9_feed 82 = .ok (.iload 7, 2) := by decide +kernel
theorem dX9_feed_84 : decode cX9_feed 84 = .ok (.ifCond .ne 7, 3) := by decide +kernel
theorem dX9_feed_87 : decode cX9_feed 87 = .ok (.iload_n 2, 1) := by decide +kernel
theorem dX9_feed_88 : decode cX9_feed 88 = .ok (.goto 37, 3) := by decide +kernel
theorem dX9_feed_91 : decode cX9_feed 91 = .ok (.iload 7, 2) := by decide +kernel
theorem dX9_feed_93 : decode cX9_feed 93 = .ok (.iconst 1, 1) := by decide +kernel
theorem dX9_feed_94 : decode cX9_feed 94 = .ok (.if_icmp .ne 7, 3) := by decide +kernel
theorem dX9_feed_97 : decode cX9_feed 97 = .ok (.iload_n 3, 1) := by decide +kernel
theorem dX9_feed_98 : decode cX9_feed 98 = .ok (.goto 27, 3) := by decide +kernel
theorem dX9_feed_101 : decode cX9_feed 101 = .ok (.iload 7, 2) := by decide +kernel
theorem dX9_feed_103 : decode cX9_feed 103 = .ok (.iconst 2, 1) := by decide +kernel
theorem dX9_feed_104 : decode cX9_feed 104 = .ok (.if_icmp .ne 8, 3) := by decide +kernel
theorem dX9_feed_107 : decode cX9_feed 107 = .ok (.iload 4, 2) := by decide +kernel
theorem dX9_feed_109 : decode cX9_feed 109 = .ok (.goto 16, 3) := by decide +kernel
theorem dX9_feed_112 : decode cX9_feed 112 = .ok (.iload 7, 2) := by decide +kernel
theorem dX9_feed_114 : decode cX9_feed 114 = .ok (.iconst 3, 1) := by decide +kernel
theorem dX9_feed_115 : decode cX9_feed 115 = .ok (.if_icmp .ne 8, 3) := by decide +kernel
theorem dX9_feed_118 : decode cX9_feed 118 = .ok (.iload 5, 2) := by decide +kernel
theorem dX9_feed_120 : decode cX9_feed 120 = .ok (.goto 5, 3) := by decide +kernel
theorem dX9_feed_123 : decode cX9_feed 123 = .ok (.iload 6, 2) := by decide +kernel
theorem dX9_feed_125 : decode cX9_feed 125 = .ok (.invokevirtual 86, 3) := by decide +kernel
theorem dX9_feed_128 : decode cX9_feed 128 = .ok (.iinc 7 1, 3) := by decide +kernel
theorem dX9_feed_131 : decode cX9_feed 131 = .ok (.goto (-59), 3) := by decide +kernel
theorem dX9_feed_134 : decode cX9_feed 134 = .ok (.aload_n 0, 1) := by decide +kernel
theorem dX9_feed_135 : decode cX9_feed 135 = .ok (.getfield 26, 3) := by decide +kernel
theorem dX9_feed_138 : decode cX9_feed 138 = .ok (.getfield 93, 3) := by decide +kernel
theorem dX9_feed_141 : decode cX9_feed 141 = .ok (.ireturn, 1) := by decide +kernel
theorem dX9_isByte_0 : decode cX9_isByte 0 = .ok (.iload_n 0, 1) := by decide +kernel
theorem dX9_isByte_1 : decode cX9_isByte 1 = .ok (.sipush 255, 3) := by decide +kernel
theorem dX9_isByte_4 : decode cX9_isByte 4 = .ok (.invokestatic 107, 3) := by decide +kernel
theorem dX9_isByte_7 : decode cX9_isByte 7 = .ok (.ireturn, 1) := by decide +kernel
theorem dX9_text_0 : decode cX9_text 0 = .ok (.aload_n 0, 1) := by decide +kernel
theorem dX9_text_1 : decode cX9_text 1 = .ok (.getfield 33, 3) := by decide +kernel
theorem dX9_text_4 : decode cX9_text 4 = .ok (.getfield 149, 3) := by decide +kernel
theorem dX9_text_7 : decode cX9_text 7 = .ok (.bipush 6, 2) := by decide +kernel
theorem dX9_text_9 : decode cX9_text 9 = .ok (.if_icmp .lt 6, 3) := by decide +kernel
theorem dX9_text_12 : decode cX9_text 12 = .ok (.bipush (-4), 2) := by decide +kernel
theorem dX9_text_14 : decode cX9_text 14 = .ok (.ireturn, 1) := by decide +kernel
theorem dX9_text_15 : decode cX9_text 15 = .ok (.aload_n 0, 1) := by decide +kernel
theorem dX9_text_16 : decode cX9_text 16 = .ok (.getfield 26, 3) := by decide +kernel
theorem dX9_text_19 : decode cX9_text 19 = .ok (.invokevirtual 90, 3) := by decide +kernel
theorem dX9_text_22 : decode cX9_text 22 = .ok (.istore_n 1, 1) := by decide +kernel
theorem dX9_text_23 : decode cX9_text 23 = .ok (.aload_n 0, 1) := by decide +kernel
theorem dX9_text_24 : decode cX9_text 24 = .ok (.getfield 26, 3) := by decide +kernel
theorem dX9_text_27 : decode cX9_text 27 = .ok (.iconst 0, 1) := by decide +kernel
theorem dX9_text_28 : decode cX9_text 28 = .ok (.putfield 93, 3) := by decide +kernel
theorem dX9_text_31 : decode cX9_text 31 = .ok (.iload_n 1, 1) := by decide +kernel
theorem dX9_text_32 : decode cX9_text 32 = .ok (.iconst (-1), 1) := by decide +kernel
theorem dX9_text_33 : decode cX9_text 33 = .ok (.if_icmp .ne 27, 3) := by decide +kernel
theorem dX9_text_36 : decode cX9_text 36 = .ok (.aload_n 0, 1) := by decide +kernel
theorem dX9_text_37 : decode cX9_text 37 = .ok (.getfield 33, 3) := by decide +kernel
theorem dX9_text_40 : decode cX9_text 40 = .ok (.aload_n 0, 1) := by decide +kernel
theorem dX9_text_41 : decode cX9_text 41 = .ok (.getfield 26, 3) := by decide +kernel
theorem dX9_text_44 : decode cX9_text 44 = .ok (.getfield 97, 3) := by decide +kernel
theorem dX9_text_47 : decode cX9_text 47 = .ok (.aload_n 0, 1) := by decide +kernel
theorem dX9_text_48 : decode cX9_text 48 = .ok (.getfield 26, 3) := by decide +kernel
theorem dX9_text_51 : decode cX9_text 51 = .ok (.getfield 101, 3) := by decide +kernel
theorem dX9_text_54 : decode cX9_text 54 = .ok (.invokevirtual 104, 3) := by decide +kernel
theorem dX9_text_57 : decode cX9_text 57 = .ok (.goto 7, 3) := by decide +kernel
theorem dX9_text_60 : decode cX9_text 60 = .ok (.bipush (-100), 2) := by decide +kernel
theorem dX9_text_62 : decode cX9_text 62 = .ok (.iload_n 1, 1) := by decide +kernel
theorem dX9_text_63 : decode cX9_text 63 = .ok (.isub, 1) := by decide +kernel
theorem dX9_text_64 : decode cX9_text 64 = .ok (.ireturn, 1) := by decide +kernel
theorem dX9_force_0 : decode cX9_force 0 = .ok (.iload_n 1, 1) := by decide +kernel
theorem dX9_force_1 : decode cX9_force 1 = .ok (.aload_n 0, 1) := by decide +kernel
theorem dX9_force_2 : decode cX9_force 2 = .ok (.getfield 33, 3) := by decide +kernel
theorem dX9_force_5 : decode cX9_force 5 = .ok (.getfield 149, 3) := by decide +kernel
theorem dX9_force_8 : decode cX9_force 8 = .ok (.iconst 1, 1) := by decide +kernel
theorem dX9_force_9 : decode cX9_force 9 = .ok (.isub, 1) := by decide +kernel
theorem dX9_force_10 : decode cX9_force 10 = .ok (.invokestatic 107, 3) := by decide +kernel
theorem dX9_force_13 : decode cX9_force 13 = .ok (.ifCond .ne 6, 3) := by decide +kernel
theorem dX9_force_16 : decode cX9_force 16 = .ok (.bipush (-2), 2) := by decide +kernel
theorem dX9_force_18 : decode cX9_force 18 = .ok (.ireturn, 1) := by decide +kernel
theorem dX9_force_19 : decode cX9_force 19 = .ok (.aload_n 0, 1) := by decide +kernel
theorem dX9_force_20 : decode cX9_force 20 = .ok (.getfield 33, 3) := by decide +kernel
theorem dX9_force_23 : decode cX9_force 23 = .ok (.getfield 150, 3) := by decide +kernel
theorem dX9_force_26 : decode cX9_force 26 = .ok (.istore_n 2, 1) := by decide +kernel
theorem dX9_force_27 : decode cX9_force 27 = .ok (.aload_n 0, 1) := by decide +kernel
theorem dX9_force_28 : decode cX9_force 28 = .ok (.getfield 33, 3) := by decide +kernel
theorem dX9_force_31 : decode cX9_force 31 = .ok (.iload_n 1, 1) := by decide +kernel
theorem dX9_force_32 : decode cX9_force 32 = .ok (.putfield 150, 3) := by decide +kernel
theorem dX9_force_35 : decode cX9_force 35 = .ok (.aload_n 0, 1) := by decide +kernel
theorem dX9_force_36 : decode cX9_force 36 = .ok (.getfield 42, 3) := by decide +kernel
theorem dX9_force_39 : decode cX9_force 39 = .ok (.iconst 1, 1) := by decide +kernel
theorem dX9_force_40 : decode cX9_force 40 = .ok (.putfield 130, 3) := by decide +kernel
theorem dX9_force_43 : decode cX9_force 43 = .ok (.iload_n 2, 1) := by decide +kernel
theorem dX9_force_44 : decode cX9_force 44 = .ok (.ireturn, 1) := by decide +kernel
theorem dX9_asks_0 : decode cX9_asks 0 = .ok (.iload_n 1, 1) := by decide +kernel
theorem dX9_asks_1 : decode cX9_asks 1 = .ok (.iconst 2, 1) := by decide +kernel
theorem dX9_asks_2 : decode cX9_asks 2 = .ok (.invokestatic 107, 3) := by decide +kernel
theorem dX9_asks_5 : decode cX9_asks 5 = .ok (.ifCond .eq 21, 3) := by decide +kernel
theorem dX9_asks_8 : decode cX9_asks 8 = .ok (.iload_n 2, 1) := by decide +kernel
theorem dX9_asks_9 : decode cX9_asks 9 = .ok (.bipush 99, 2) := by decide +kernel
theorem dX9_asks_11 : decode cX9_asks 11 = .ok (.invokestatic 107, 3) := by decide +kernel
theorem dX9_asks_14 : decode cX9_asks 14 = .ok (.ifCond .eq 12, 3) := by decide +kernel
theorem dX9_asks_17 : decode cX9_asks 17 = .ok (.iload_n 3, 1) := by decide +kernel
theorem dX9_asks_18 : decode cX9_asks 18 = .ok (.bipush 9, 2) := by decide +kernel
theorem dX9_asks_20 : decode cX9_asks 20 = .ok (.invokestatic 107, 3) := by decide +kernel
theorem dX9_asks_23 : decode cX9_asks 23 = .ok (.ifCond .ne 6, 3) := by decide +kernel
theorem dX9_asks_26 : decode cX9_asks 26 = .ok (.bipush (-2), 2) := by decide +kernel
theorem dX9_asks_28 : decode cX9_asks 28 = .ok (.ireturn, 1) := by decide +kernel
theorem dX9_asks_29 : decode cX9_asks 29 = .ok (.iload 4, 2) := by decide +kernel
theorem dX9_asks_31 : decode cX9_asks 31 = .ok (.invokestatic 156, 3) := by decide +kernel
theorem dX9_asks_34 : decode cX9_asks 34 = .ok (.ifCond .eq 14, 3) := by decide +kernel
theorem dX9_asks_37 : decode cX9_asks 37 = .ok (.iload 5, 2) := by decide +kernel
theorem dX9_asks_39 : decode cX9_asks 39 = .ok (.sipush 999, 3) := by decide +kernel
theorem dX9_asks_42 : decode cX9_asks 42 = .ok (.invokestatic 107, 3) := by decide +kernel
theorem dX9_asks_45 : decode cX9_asks 45 = .ok (.ifCond .ne 6, 3) := by decide +kernel
theorem dX9_asks_48 : decode cX9_asks 48 = .ok (.bipush (-2), 2) := by decide +kernel
theorem dX9_asks_50 : decode cX9_asks 50 = .ok (.ireturn, 1) := by decide +kernel
theorem dX9_asks_51 : decode cX9_asks 51 = .ok (.aload_n 0, 1) := by decide +kernel
theorem dX9_asks_52 : decode cX9_asks 52 = .ok (.getfield 33, 3) := by decide +kernel
theorem dX9_asks_55 : decode cX9_asks 55 = .ok (.iload_n 3, 1) := by decide +kernel
theorem dX9_asks_56 : decode cX9_asks 56 = .ok (.iload 4, 2) := by decide +kernel
theorem dX9_asks_58 : decode cX9_asks 58 = .ok (.iload 5, 2) := by decide +kernel
theorem dX9_asks_60 : decode cX9_asks 60 = .ok (.bipush 100, 2) := by decide +kernel
theorem dX9_asks_62 : decode cX9_asks 62 = .ok (.idiv, 1) := by decide +kernel
theorem dX9_asks_63 : decode cX9_asks 63 = .ok (.invokevirtual 159, 3) := by decide +kernel
theorem dX9_asks_66 : decode cX9_asks 66 = .ok (.aload_n 0, 1) := by decide +kernel
theorem dX9_asks_67 : decode cX9_asks 67 = .ok (.getfield 33, 3) := by decide +kernel
theorem dX9_asks_70 : decode cX9_asks 70 = .ok (.iload_n 2, 1) := by decide +kernel
theorem dX9_asks_71 : decode cX9_asks 71 = .ok (.bipush 10, 2) := by decide +kernel
theorem dX9_asks_73 : decode cX9_asks 73 = .ok (.idiv, 1) := by decide +kernel
theorem dX9_asks_74 : decode cX9_asks 74 = .ok (.iload_n 2, 1) := by decide +kernel
theorem dX9_asks_75 : decode cX9_asks 75 = .ok (.bipush 10, 2) := by decide +kernel
theorem dX9_asks_77 : decode cX9_asks 77 = .ok (.irem, 1) := by decide +kernel
theorem dX9_asks_78 : decode cX9_asks 78 = .ok (.iload 5, 2) := by decide +kernel
theorem dX9_asks_80 : decode cX9_asks 80 = .ok (.bipush 100, 2) := by decide +kernel
theorem dX9_asks_82 : decode cX9_asks 82 = .ok (.irem, 1) := by decide +kernel
theorem dX9_asks_83 : decode cX9_asks 83 = .ok (.invokevirtual 163, 3) := by decide +kernel
theorem dX9_asks_86 : decode cX9_asks 86 = .ok (.aload_n 0, 1) := by decide +kernel
theorem dX9_asks_87 : decode cX9_asks 87 = .ok (.getfield 33, 3) := by decide +kernel
theorem dX9_asks_90 : decode cX9_asks 90 = .ok (.iload_n 1, 1) := by decide +kernel
theorem dX9_asks_91 : decode cX9_asks 91 = .ok (.invokevirtual 166, 3) := by decide +kernel
theorem dX9_asks_94 : decode cX9_asks 94 = .ok (.ireturn, 1) := by decide +kernel
theorem dX9_guard_0 : decode cX9_guard 0 = .ok (.iload_n 1, 1) := by decide +kernel
theorem dX9_guard_1 : decode cX9_guard 1 = .ok (.iconst 5, 1) := by decide +kernel
theorem dX9_guard_2 : decode cX9_guard 2 = .ok (.invokestatic 107, 3) := by decide +kernel
theorem dX9_guard_5 : decode cX9_guard 5 = .ok (.ifCond .eq 29, 3) := by decide +kernel
theorem dX9_guard_8 : decode cX9_guard 8 = .ok (.iload_n 2, 1) := by decide +kernel
theorem dX9_guard_9 : decode cX9_guard 9 = .ok (.invokestatic 134, 3) := by decide +kernel
theorem dX9_guard_12 : decode cX9_guard 12 = .ok (.ifCond .eq 22, 3) := by decide +kernel
theorem dX9_guard_15 : decode cX9_guard 15 = .ok (.iload_n 3, 1) := by decide +kernel
theorem dX9_guard_16 : decode cX9_guard 16 = .ok (.bipush 39, 2) := by decide +kernel
theorem dX9_guard_18 : decode cX9_guard 18 = .ok (.invokestatic 107, 3) := by decide +kernel
theorem dX9_guard_21 : decode cX9_guard 21 = .ok (.ifCond .eq 13, 3) := by decide +kernel
theorem dX9_guard_24 : decode cX9_guard 24 = .ok (.iload 4, 2) := by decide +kernel
theorem dX9_guard_26 : decode cX9_guard 26 = .ok (.bipush 9, 2) := by decide +kernel
theorem dX9_guard_28 : decode cX9_guard 28 = .ok (.invokestatic 107, 3) := by decide +kernel
theorem dX9_guard_31 : decode cX9_guard 31 = .ok (.ifCond .ne 6, 3) := by decide +kernel
theorem dX9_guard_34 : decode cX9_guard 34 = .ok (.bipush (-2), 2) := by decide +kernel
theorem dX9_guard_36 : decode cX9_guard 36 = .ok (.ireturn, 1) := by decide +kernel
theorem dX9_guard_37 : decode cX9_guard 37 = .ok (.iload_n 3, 1) := by decide +kernel
theorem dX9_guard_38 : decode cX9_guard 38 = .ok (.bipush 10, 2) := by decide +kernel
theorem dX9_guard_40 : decode cX9_guard 40 = .ok (.irem, 1) := by decide +kernel
theorem dX9_guard_41 : decode cX9_guard 41 = .ok (.iconst 5, 1) := by decide +kernel
theorem dX9_guard_42 : decode cX9_guard 42 = .ok (.if_icmp .le 6, 3) := by decide +kernel
theorem dX9_guard_45 : decode cX9_guard 45 = .ok (.bipush (-2), 2) := by decide +kernel
theorem dX9_guard_47 : decode cX9_guard 47 = .ok (.ireturn, 1) := by decide +kernel
theorem dX9_guard_48 : decode cX9_guard 48 = .ok (.aload_n 0, 1) := by decide +kernel
theorem dX9_guard_49 : decode cX9_guard 49 = .ok (.getfield 19, 3) := by decide +kernel
theorem dX9_guard_52 : decode cX9_guard 52 = .ok (.getfield 113, 3) := by decide +kernel
theorem dX9_guard_55 : decode cX9_guard 55 = .ok (.iconst 5, 1) := by decide +kernel
theorem dX9_guard_56 : decode cX9_guard 56 = .ok (.if_icmp .lt 6, 3) := by decide +kernel
theorem dX9_guard_59 : decode cX9_guard 59 = .ok (.bipush (-4), 2) := by decide +kernel
theorem dX9_guard_61 : decode cX9_guard 61 = .ok (.ireturn, 1) := by decide +kernel
theorem dX9_guard_62 : decode cX9_guard 62 = .ok (.aload_n 0, 1) := by decide +kernel
theorem dX9_guard_63 : decode cX9_guard 63 = .ok (.getfield 42, 3) := by decide +kernel
theorem dX9_guard_66 : decode cX9_guard 66 = .ok (.iconst 1, 1) := by decide +kernel
theorem dX9_guard_67 : decode cX9_guard 67 = .ok (.putfield 130, 3) := by decide +kernel
theorem dX9_guard_70 : decode cX9_guard 70 = .ok (.aload_n 0, 1) := by decide +kernel
theorem dX9_guard_71 : decode cX9_guard 71 = .ok (.getfield 19, 3) := by decide +kernel
theorem dX9_guard_74 : decode cX9_guard 74 = .ok (.iload_n 1, 1) := by decide +kernel
theorem dX9_guard_75 : decode cX9_guard 75 = .ok (.iload_n 2, 1) := by decide +kernel
theorem dX9_guard_76 : decode cX9_guard 76 = .ok (.iload_n 3, 1) := by decide +kernel
theorem dX9_guard_77 : decode cX9_guard 77 = .ok (.bipush 10, 2) := by decide +kernel
theorem dX9_guard_79 : decode cX9_guard 79 = .ok (.idiv, 1) := by decide +kernel
theorem dX9_guard_80 : decode cX9_guard 80 = .ok (.iload_n 3, 1) := by decide +kernel
theorem dX9_guard_81 : decode cX9_guard 81 = .ok (.bipush 10, 2) := by decide +kernel
theorem dX9_guard_83 : decode cX9_guard 83 = .ok (.irem, 1) := by decide +kernel
theorem dX9_guard_84 : decode cX9_guard 84 = .ok (.iload 4, 2) := by decide +kernel
theorem dX9_guard_86 : decode cX9_guard 86 = .ok (.invokevirtual 170, 3) := by decide +kernel
theorem dX9_guard_89 : decode cX9_guard 89 = .ok (.ireturn, 1) := by decide +kernel
theorem dX9_set_0 : decode cX9_set 0 = .ok (.aload_n 0, 1) := by decide +kernel
theorem dX9_set_1 : decode cX9_set 1 = .ok (.iload_n 1, 1) := by decide +kernel
theorem dX9_set_2 : decode cX9_set 2 = .ok (.invokevirtual 173, 3) := by decide +kernel
theorem dX9_set_5 : decode cX9_set 5 = .ok (.ifCond .ne 6, 3) := by decide +kernel
theorem dX9_set_8 : decode cX9_set 8 = .ok (.bipush (-5), 2) := by decide +kernel
theorem dX9_set_10 : decode cX9_set 10 = .ok (.ireturn, 1) := by decide +kernel
theorem dX9_set_11 : decode cX9_set 11 = .ok (.iload_n 2, 1) := by decide +kernel
theorem dX9_set_12 : decode cX9_set 12 = .ok (.iconst 1, 1) := by decide +kernel
theorem dX9_set_13 : decode cX9_set 13 = .ok (.invokestatic 107, 3) := by decide +kernel
theorem dX9_set_16 : decode cX9_set 16 = .ok (.ifCond .eq 20, 3) := by decide +kernel
theorem dX9_set_19 : decode cX9_set 19 = .ok (.iload_n 3, 1) := by decide +kernel
theorem dX9_set_20 : decode cX9_set 20 = .ok (.iload_n 2, 1) := by decide +kernel
theorem dX9_set_21 : decode cX9_set 21 = .ok (.ifCond .ne 8, 3) := by decide +kernel
theorem dX9_set_24 : decode cX9_set 24 = .ok (.bipush 23, 2) := by decide +kernel
theorem dX9_set_26 : decode cX9_set 26 = .ok (.goto 4, 3) := by decide +kernel
theorem dX9_set_29 : decode cX9_set 29 = .ok (.iconst 5, 1) := by decide +kernel
theorem dX9_set_30 : decode cX9_set 30 = .ok (.invokestatic 107, 3) := by decide +kernel
theorem dX9_set_33 : decode cX9_set 33 = .ok (.ifCond .ne 6, 3) := by decide +kernel
theorem dX9_set_36 : decode cX9_set 36 = .ok (.bipush (-7), 2) := by decide +kernel
theorem dX9_set_38 : decode cX9_set 38 = .ok (.ireturn, 1) := by decide +kernel
theorem dX9_set_39 : decode cX9_set 39 = .ok (.iload_n 2, 1) := by decide +kernel
theorem dX9_set_40 : decode cX9_set 40 = .ok (.ifCond .ne 13, 3) := by decide +kernel
theorem dX9_set_43 : decode cX9_set 43 = .ok (.aload_n 0, 1) := by decide +kernel
theorem dX9_set_44 : decode cX9_set 44 = .ok (.getfield 19, 3) := by decide +kernel
theorem dX9_set_47 : decode cX9_set 47 = .ok (.getfield 176, 3) := by decide +kernel
theorem dX9_set_50 : decode cX9_set 50 = .ok (.goto 10, 3) := by decide +kernel
theorem dX9_set_53 : decode cX9_set 53 = .ok (.aload_n 0, 1) := by decide +kernel
theorem dX9_set_54 : decode cX9_set 54 = .ok (.getfield 19, 3) := by decide +kernel
theorem dX9_set_57 : decode cX9_set 57 = .ok (.getfield 179, 3) := by decide +kernel
theorem dX9_set_60 : decode cX9_set 60 = .ok (.astore 4, 2) := by decide +kernel
theorem dX9_set_62 : decode cX9_set 62 = .ok (.aload 4, 2) := by decide +kernel
theorem dX9_set_64 : decode cX9_set 64 = .ok (.iload_n 1, 1) := by decide +kernel
theorem dX9_set_65 : decode cX9_set 65 = .ok (.iaload, 1) := by decide +kernel
theorem dX9_set_66 : decode cX9_set 66 = .ok (.istore 5, 2) := by decide +kernel
theorem dX9_set_68 : decode cX9_set 68 = .ok (.aload 4, 2) := by decide +kernel
theorem dX9_set_70 : decode cX9_set 70 = .ok (.iload_n 1, 1) := by decide +kernel
theorem dX9_set_71 : decode cX9_set 71 = .ok (.iload_n 3, 1) := by decide +kernel
theorem dX9_set_72 : decode cX9_set 72 = .ok (.iastore, 1) := by decide +kernel
theorem dX9_set_73 : decode cX9_set 73 = .ok (.aload_n 0, 1) := by decide +kernel
theorem dX9_set_74 : decode cX9_set 74 = .ok (.getfield 42, 3) := by decide +kernel
theorem dX9_set_77 : decode cX9_set 77 = .ok (.iconst 1, 1) := by decide +kernel
theorem dX9_set_78 : decode cX9_set 78 = .ok (.putfield 130, 3) := by decide +kernel
theorem dX9_set_81 : decode cX9_set 81 = .ok (.iload 5, 2) := by decide +kernel
theorem dX9_set_83 : decode cX9_set 83 = .ok (.ireturn, 1) := by decide +kernel
theorem dX9_guardTold_0 : decode cX9_guardTold 0 = .ok (.aload_n 0, 1) := by decide +kernel
theorem dX9_guardTold_1 : decode cX9_guardTold 1 = .ok (.iload_n 1, 1) := by decide +kernel
theorem dX9_guardTold_2 : decode cX9_guardTold 2 = .ok (.invokevirtual 173, 3) := by decide +kernel
theorem dX9_guardTold_5 : decode cX9_guardTold 5 = .ok (.ifCond .ne 6, 3) := by decide +kernel
theorem dX9_guardTold_8 : decode cX9_guardTold 8 = .ok (.bipush (-5), 2) := by decide +kernel
theorem dX9_guardTold_10 : decode cX9_guardTold 10 = .ok (.ireturn, 1) := by decide +kernel
theorem dX9_guardTold_11 : decode cX9_guardTold 11 = .ok (.iload_n 2, 1) := by decide +kernel
theorem dX9_guardTold_12 : decode cX9_guardTold 12 = .ok (.tableswitch 100 0 5 #[40, 50, 60, 70, 80, 90], 40) := by decide +kernel
theorem dX9_guardTold_52 : decode cX9_guardTold 52 = .ok (.aload_n 0, 1) := by decide +kernel
theorem dX9_guardTold_53 : decode cX9_guardTold 53 = .ok (.getfield 19, 3) := by decide +kernel
theorem dX9_guardTold_56 : decode cX9_guardTold 56 = .ok (.getfield 176, 3) := by decide +kernel
theorem dX9_guardTold_59 : decode cX9_guardTold 59 = .ok (.iload_n 1, 1) := by decide +kernel
theorem dX9_guardTold_60 : decode cX9_guardTold 60 = .ok (.iaload, 1) := by decide +kernel
theorem dX9_guardTold_61 : decode cX9_guardTold 61 = .ok (.ireturn, 1) := by decide +kernel
theorem dX9_guardTold_62 : decode cX9_guardTold 62 = .ok (.aload_n 0, 1) := by decide +kernel
theorem dX9_guardTold_63 : decode cX9_guardTold 63 = .ok (.getfield 19, 3) := by decide +kernel
theorem dX9_guardTold_66 : decode cX9_guardTold 66 = .ok (.getfield 179, 3) := by decide +kernel
theorem dX9_guardTold_69 : decode cX9_guardTold 69 = .ok (.iload_n 1, 1) := by decide +kernel
theorem dX9_guardTold_70 : decode cX9_guardTold 70 = .ok (.iaload, 1) := by decide +kernel
theorem dX9_guardTold_71 : decode cX9_guardTold 71 = .ok (.ireturn, 1) := by decide +kernel
theorem dX9_guardTold_72 : decode cX9_guardTold 72 = .ok (.aload_n 0, 1) := by decide +kernel
theorem dX9_guardTold_73 : decode cX9_guardTold 73 = .ok (.getfield 19, 3) := by decide +kernel
theorem dX9_guardTold_76 : decode cX9_guardTold 76 = .ok (.getfield 182, 3) := by decide +kernel
theorem dX9_guardTold_79 : decode cX9_guardTold 79 = .ok (.iload_n 1, 1) := by decide +kernel
theorem dX9_guardTold_80 : decode cX9_guardTold 80 = .ok (.iaload, 1) := by decide +kernel
theorem dX9_guardTold_81 : decode cX9_guardTold 81 = .ok (.ireturn, 1) := by decide +kernel
theorem dX9_guardTold_82 : decode cX9_guardTold 82 = .ok (.aload_n 0, 1) := by decide +kernel
theorem dX9_guardTold_83 : decode cX9_guardTold 83 = .ok (.getfield 19, 3) := by decide +kernel
theorem dX9_guardTold_86 : decode cX9_guardTold 86 = .ok (.getfield 185, 3) := by decide +kernel
theorem dX9_guardTold_89 : decode cX9_guardTold 89 = .ok (.iload_n 1, 1) := by decide +kernel
theorem dX9_guardTold_90 : decode cX9_guardTold 90 = .ok (.iaload, 1) := by decide +kernel
theorem dX9_guardTold_91 : decode cX9_guardTold 91 = .ok (.ireturn, 1) := by decide +kernel
theorem dX9_guardTold_92 : decode cX9_guardTold 92 = .ok (.aload_n 0, 1) := by decide +kernel
theorem dX9_guardTold_93 : decode cX9_guardTold 93 = .ok (.getfield 19, 3) := by decide +kernel
theorem dX9_guardTold_96 : decode cX9_guardTold 96 = .ok (.getfield 188, 3) := by decide +kernel
theorem dX9_guardTold_99 : decode cX9_guardTold 99 = .ok (.iload_n 1, 1) := by decide +kernel
theorem dX9_guardTold_100 : decode cX9_guardTold 100 = .ok (.iaload, 1) := by decide +kernel
theorem dX9_guardTold_101 : decode cX9_guardTold 101 = .ok (.ireturn, 1) := by decide +kernel
theorem dX9_guardTold_102 : decode cX9_guardTold 102 = .ok (.aload_n 0, 1) := by decide +kernel
theorem dX9_guardTold_103 : decode cX9_guardTold 103 = .ok (.getfield 19, 3) := by decide +kernel
theorem dX9_guardTold_106 : decode cX9_guardTold 106 = .ok (.getfield 191, 3) := by decide +kernel
theorem dX9_guardTold_109 : decode cX9_guardTold 109 = .ok (.iload_n 1, 1) := by decide +kernel
theorem dX9_guardTold_110 : decode cX9_guardTold 110 = .ok (.iaload, 1) := by decide +kernel
theorem dX9_guardTold_111 : decode cX9_guardTold 111 = .ok (.ireturn, 1) := by decide +kernel
theorem dX9_guardTold_112 : decode cX9_guardTold 112 = .ok (.bipush (-7), 2) := by decide +kernel
theorem dX9_guardTold_114 : decode cX9_guardTold 114 = .ok (.ireturn, 1) := by decide +kernel
theorem dX9_at_0 : decode cX9_at 0 = .ok (.aload_n 0, 1) := by decide +kernel
theorem dX9_at_1 : decode cX9_at 1 = .ok (.iload_n 1, 1) := by decide +kernel
theorem dX9_at_2 : decode cX9_at 2 = .ok (.invokevirtual 173, 3) := by decide +kernel
theorem dX9_at_5 : decode cX9_at 5 = .ok (.ifCond .ne 6, 3) := by decide +kernel
theorem dX9_at_8 : decode cX9_at 8 = .ok (.bipush (-5), 2) := by decide +kernel
theorem dX9_at_10 : decode cX9_at 10 = .ok (.ireturn, 1) := by decide +kernel
theorem dX9_at_11 : decode cX9_at 11 = .ok (.iload_n 2, 1) := by decide +kernel
theorem dX9_at_12 : decode cX9_at 12 = .ok (.invokestatic 156, 3) := by decide +kernel
theorem dX9_at_15 : decode cX9_at 15 = .ok (.ifCond .eq 11, 3) := by decide +kernel
theorem dX9_at_18 : decode cX9_at 18 = .ok (.iload_n 3, 1) := by decide +kernel
theorem dX9_at_19 : decode cX9_at 19 = .ok (.iconst 2, 1) := by decide +kernel
theorem dX9_at_20 : decode cX9_at 20 = .ok (.invokestatic 107, 3) := by decide +kernel
theorem dX9_at_23 : decode cX9_at 23 = .ok (.ifCond .ne 6, 3) := by decide +kernel
theorem dX9_at_26 : decode cX9_at 26 = .ok (.bipush (-7), 2) := by decide +kernel
theorem dX9_at_28 : decode cX9_at 28 = .ok (.ireturn, 1) := by decide +kernel
theorem dX9_at_29 : decode cX9_at 29 = .ok (.aload_n 0, 1) := by decide +kernel
theorem dX9_at_30 : decode cX9_at 30 = .ok (.getfield 19, 3) := by decide +kernel
theorem dX9_at_33 : decode cX9_at 33 = .ok (.iload_n 1, 1) := by decide +kernel
theorem dX9_at_34 : decode cX9_at 34 = .ok (.iload_n 2, 1) := by decide +kernel
theorem dX9_at_35 : decode cX9_at 35 = .ok (.aload_n 0, 1) := by decide +kernel
theorem dX9_at_36 : decode cX9_at 36 = .ok (.getfield 12, 3) := by decide +kernel
theorem dX9_at_39 : decode cX9_at 39 = .ok (.getfield 126, 3) := by decide +kernel
theorem dX9_at_42 : decode cX9_at 42 = .ok (.iconst 0, 1) := by decide +kernel
theorem dX9_at_43 : decode cX9_at 43 = .ok (.laload, 1) := by decide +kernel
theorem dX9_at_44 : decode cX9_at 44 = .ok (.invokevirtual 194, 3) := by decide +kernel
theorem dX9_at_47 : decode cX9_at 47 = .ok (.iload_n 3, 1) := by decide +kernel
theorem dX9_at_48 : decode cX9_at 48 = .ok (.lookupswitch 44 #[(0, 28), (1, 36)], 28) := by decide +kernel
theorem dX9_at_76 : decode cX9_at 76 = .ok (.aload_n 0, 1) := by decide +kernel
theorem dX9_at_77 : decode cX9_at 77 = .ok (.getfield 19, 3) := by decide +kernel
theorem dX9_at_80 : decode cX9_at 80 = .ok (.getfield 198, 3) := by decide +kernel
theorem dX9_at_83 : decode cX9_at 83 = .ok (.ireturn, 1) := by decide +kernel
theorem dX9_at_84 : decode cX9_at 84 = .ok (.aload_n 0, 1) := by decide +kernel
theorem dX9_at_85 : decode cX9_at 85 = .ok (.getfield 19, 3) := by decide +kernel
theorem dX9_at_88 : decode cX9_at 88 = .ok (.getfield 201, 3) := by decide +kernel
theorem dX9_at_91 : decode cX9_at 91 = .ok (.ireturn, 1) := by decide +kernel
theorem dX9_at_92 : decode cX9_at 92 = .ok (.aload_n 0, 1) := by decide +kernel
theorem dX9_at_93 : decode cX9_at 93 = .ok (.getfield 19, 3) := by decide +kernel
theorem dX9_at_96 : decode cX9_at 96 = .ok (.getfield 204, 3) := by decide +kernel
theorem dX9_at_99 : decode cX9_at 99 = .ok (.ifCond .eq 7, 3) := by decide +kernel
theorem dX9_at_102 : decode cX9_at 102 = .ok (.iconst 1, 1) := by decide +kernel
theorem dX9_at_103 : decode cX9_at 103 = .ok (.goto 4, 3) := by decide +kernel
theorem dX9_at_106 : decode cX9_at 106 = .ok (.iconst 0, 1) := by decide +kernel
theorem dX9_at_107 : decode cX9_at 107 = .ok (.ireturn, 1) := by decide +kernel
theorem dX9_sees_0 : decode cX9_sees 0 = .ok (.aload_n 0, 1) := by decide +kernel
theorem dX9_sees_1 : decode cX9_sees 1 = .ok (.iload_n 1, 1) := by decide +kernel
theorem dX9_sees_2 : decode cX9_sees 2 = .ok (.invokevirtual 173, 3) := by decide +kernel
theorem dX9_sees_5 : decode cX9_sees 5 = .ok (.ifCond .eq 22, 3) := by decide +kernel
theorem dX9_sees_8 : decode cX9_sees 8 = .ok (.iload_n 2, 1) := by decide +kernel
theorem dX9_sees_9 : decode cX9_sees 9 = .ok (.invokestatic 156, 3) := by decide +kernel
theorem dX9_sees_12 : decode cX9_sees 12 = .ok (.ifCond .eq 15, 3) := by decide +kernel
theorem dX9_sees_15 : decode cX9_sees 15 = .ok (.aload_n 0, 1) := by decide +kernel
theorem dX9_sees_16 : decode cX9_sees 16 = .ok (.getfield 42, 3) := by decide +kernel
theorem dX9_sees_19 : decode cX9_sees 19 = .ok (.iload_n 1, 1) := by decide +kernel
theorem dX9_sees_20 : decode cX9_sees 20 = .ok (.iload_n 2, 1) := by decide +kernel
theorem dX9_sees_21 : decode cX9_sees 21 = .ok (.invokevirtual 207, 3) := by decide +kernel
theorem dX9_sees_24 : decode cX9_sees 24 = .ok (.goto 6, 3) := by decide +kernel
theorem dX9_sees_27 : decode cX9_sees 27 = .ok (.ldc2_w 124, 3) := by decide +kernel
theorem dX9_sees_30 : decode cX9_sees 30 = .ok (.lreturn, 1) := by decide +kernel
theorem dX9_watched_0 : decode cX9_watched 0 = .ok (.iload_n 1, 1) := by decide +kernel
theorem dX9_watched_1 : decode cX9_watched 1 = .ok (.invokestatic 156, 3) := by decide +kernel
theorem dX9_watched_4 : decode cX9_watched 4 = .ok (.ifCond .eq 12, 3) := by decide +kernel
theorem dX9_watched_7 : decode cX9_watched 7 = .ok (.aload_n 0, 1) := by decide +kernel
theorem dX9_watched_8 : decode cX9_watched 8 = .ok (.invokevirtual 211, 3) := by decide +kernel
theorem dX9_watched_11 : decode cX9_watched 11 = .ok (.iload_n 1, 1) := by decide +kernel
theorem dX9_watched_12 : decode cX9_watched 12 = .ok (.laload, 1) := by decide +kernel
theorem dX9_watched_13 : decode cX9_watched 13 = .ok (.goto 6, 3) := by decide +kernel
theorem dX9_watched_16 : decode cX9_watched 16 = .ok (.ldc2_w 124, 3) := by decide +kernel
theorem dX9_watched_19 : decode cX9_watched 19 = .ok (.lreturn, 1) := by decide +kernel
theorem dX9_alone_0 : decode cX9_alone 0 = .ok (.iload_n 1, 1) := by decide +kernel
theorem dX9_alone_1 : decode cX9_alone 1 = .ok (.invokestatic 134, 3) := by decide +kernel
theorem dX9_alone_4 : decode cX9_alone 4 = .ok (.ifCond .ne 6, 3) := by decide +kernel
theorem dX9_alone_7 : decode cX9_alone 7 = .ok (.bipush (-5), 2) := by decide +kernel
theorem dX9_alone_9 : decode cX9_alone 9 = .ok (.ireturn, 1) := by decide +kernel
theorem dX9_alone_10 : decode cX9_alone 10 = .ok (.aload_n 0, 1) := by decide +kernel
theorem dX9_alone_11 : decode cX9_alone 11 = .ok (.invokevirtual 211, 3) := by decide +kernel
theorem dX9_alone_14 : decode cX9_alone 14 = .ok (.astore_n 2, 1) := by decide +kernel
theorem dX9_alone_15 : decode cX9_alone 15 = .ok (.iconst 0, 1) := by decide +kernel
theorem dX9_alone_16 : decode cX9_alone 16 = .ok (.istore_n 3, 1) := by decide +kernel
theorem dX9_alone_17 : decode cX9_alone 17 = .ok (.iconst 0, 1) := by decide +kernel
theorem dX9_alone_18 : decode cX9_alone 18 = .ok (.istore 4, 2) := by decide +kernel
theorem dX9_alone_20 : decode cX9_alone 20 = .ok (.iload 4, 2) := by decide +kernel
theorem dX9_alone_22 : decode cX9_alone 22 = .ok (.bipush 24, 2) := by decide +kernel
theorem dX9_alone_24 : decode cX9_alone 24 = .ok (.if_icmp .ge 27, 3) := by decide +kernel
theorem dX9_alone_27 : decode cX9_alone 27 = .ok (.aload_n 2, 1) := by decide +kernel
theorem dX9_alone_28 : decode cX9_alone 28 = .ok (.iload 4, 2) := by decide +kernel
theorem dX9_alone_30 : decode cX9_alone 30 = .ok (.laload, 1) := by decide +kernel
theorem dX9_alone_31 : decode cX9_alone 31 = .ok (.iload_n 1, 1) := by decide +kernel
theorem dX9_alone_32 : decode cX9_alone 32 = .ok (.invokestatic 137, 3) := by decide +kernel
theorem dX9_alone_35 : decode cX9_alone 35 = .ok (.ifCond .ne 10, 3) := by decide +kernel
theorem dX9_alone_38 : decode cX9_alone 38 = .ok (.iload_n 3, 1) := by decide +kernel
theorem dX9_alone_39 : decode cX9_alone 39 = .ok (.iconst 1, 1) := by decide +kernel
theorem dX9_alone_40 : decode cX9_alone 40 = .ok (.iload 4, 2) := by decide +kernel
theorem dX9_alone_42 : decode cX9_alone 42 = .ok (.ishl, 1) := by decide +kernel
theorem dX9_alone_43 : decode cX9_alone 43 = .ok (.ior, 1) := by decide +kernel
theorem dX9_alone_44 : decode cX9_alone 44 = .ok (.istore_n 3, 1) := by decide +kernel
theorem dX9_alone_45 : decode cX9_alone 45 = .ok (.iinc 4 1, 3) := by decide +kernel
theorem dX9_alone_48 : decode cX9_alone 48 = .ok (.goto (-28), 3) := by decide +kernel
theorem dX9_alone_51 : decode cX9_alone 51 = .ok (.iload_n 3, 1) := by decide +kernel
theorem dX9_alone_52 : decode cX9_alone 52 = .ok (.ireturn, 1) := by decide +kernel
theorem dX9_unseen_0 : decode cX9_unseen 0 = .ok (.iload_n 1, 1) := by decide +kernel
theorem dX9_unseen_1 : decode cX9_unseen 1 = .ok (.invokestatic 134, 3) := by decide +kernel
theorem dX9_unseen_4 : decode cX9_unseen 4 = .ok (.ifCond .eq 20, 3) := by decide +kernel
theorem dX9_unseen_7 : decode cX9_unseen 7 = .ok (.aload_n 0, 1) := by decide +kernel
theorem dX9_unseen_8 : decode cX9_unseen 8 = .ok (.getfield 49, 3) := by decide +kernel
theorem dX9_unseen_11 : decode cX9_unseen 11 = .ok (.aload_n 0, 1) := by decide +kernel
theorem dX9_unseen_12 : decode cX9_unseen 12 = .ok (.invokevirtual 211, 3) := by decide +kernel
theorem dX9_unseen_15 : decode cX9_unseen 15 = .ok (.lconst 1, 1) := by decide +kernel
theorem dX9_unseen_16 : decode cX9_unseen 16 = .ok (.iload_n 1, 1) := by decide +kernel
theorem dX9_unseen_17 : decode cX9_unseen 17 = .ok (.lshl, 1) := by decide +kernel
theorem dX9_unseen_18 : decode cX9_unseen 18 = .ok (.invokevirtual 215, 3) := by decide +kernel
theorem dX9_unseen_21 : decode cX9_unseen 21 = .ok (.goto 5, 3) := by decide +kernel
theorem dX9_unseen_24 : decode cX9_unseen 24 = .ok (.bipush (-5), 2) := by decide +kernel
theorem dX9_unseen_26 : decode cX9_unseen 26 = .ok (.ireturn, 1) := by decide +kernel
theorem dX9_worst_0 : decode cX9_worst 0 = .ok (.iload_n 1, 1) := by decide +kernel
theorem dX9_worst_1 : decode cX9_worst 1 = .ok (.iconst 3, 1) := by decide +kernel
theorem dX9_worst_2 : decode cX9_worst 2 = .ok (.invokestatic 107, 3) := by decide +kernel
theorem dX9_worst_5 : decode cX9_worst 5 = .ok (.ifCond .ne 6, 3) := by decide +kernel
theorem dX9_worst_8 : decode cX9_worst 8 = .ok (.bipush (-2), 2) := by decide +kernel
theorem dX9_worst_10 : decode cX9_worst 10 = .ok (.ireturn, 1) := by decide +kernel
theorem dX9_worst_11 : decode cX9_worst 11 = .ok (.iload_n 1, 1) := by decide +kernel
theorem dX9_worst_12 : decode cX9_worst 12 = .ok (.iconst 3, 1) := by decide +kernel
theorem dX9_worst_13 : decode cX9_worst 13 = .ok (.if_icmp .ne 12, 3) := by decide +kernel
theorem dX9_worst_16 : decode cX9_worst 16 = .ok (.aload_n 0, 1) := by decide +kernel
theorem dX9_worst_17 : decode cX9_worst 17 = .ok (.aload_n 0, 1) := by decide +kernel
theorem dX9_worst_18 : decode cX9_worst 18 = .ok (.invokevirtual 211, 3) := by decide +kernel
theorem dX9_worst_21 : decode cX9_worst 21 = .ok (.invokevirtual 219, 3) := by decide +kernel
theorem dX9_worst_24 : decode cX9_worst 24 = .ok (.ireturn, 1) := by decide +kernel
theorem dX9_worst_25 : decode cX9_worst 25 = .ok (.aload_n 0, 1) := by decide +kernel
theorem dX9_worst_26 : decode cX9_worst 26 = .ok (.getfield 49, 3) := by decide +kernel
theorem dX9_worst_29 : decode cX9_worst 29 = .ok (.aload_n 0, 1) := by decide +kernel
theorem dX9_worst_30 : decode cX9_worst 30 = .ok (.invokevirtual 211, 3) := by decide +kernel
theorem dX9_worst_33 : decode cX9_worst 33 = .ok (.aload_n 0, 1) := by decide +kernel
theorem dX9_worst_34 : decode cX9_worst 34 = .ok (.getfield 12, 3) := by decide +kernel
theorem dX9_worst_37 : decode cX9_worst 37 = .ok (.invokevirtual 223, 3) := by decide +kernel
theorem dX9_worst_40 : decode cX9_worst 40 = .ok (.invokevirtual 215, 3) := by decide +kernel
theorem dX9_worst_43 : decode cX9_worst 43 = .ok (.istore_n 2, 1) := by decide +kernel
theorem dX9_worst_44 : decode cX9_worst 44 = .ok (.iload_n 1, 1) := by decide +kernel
theorem dX9_worst_45 : decode cX9_worst 45 = .ok (.lookupswitch 40 #[(0, 27), (1, 29)], 27) := by decide +kernel
theorem dX9_worst_72 : decode cX9_worst 72 = .ok (.iload_n 2, 1) := by decide +kernel
theorem dX9_worst_73 : decode cX9_worst 73 = .ok (.ireturn, 1) := by decide +kernel
theorem dX9_worst_74 : decode cX9_worst 74 = .ok (.aload_n 0, 1) := by decide +kernel
theorem dX9_worst_75 : decode cX9_worst 75 = .ok (.getfield 49, 3) := by decide +kernel
theorem dX9_worst_78 : decode cX9_worst 78 = .ok (.getfield 227, 3) := by decide +kernel
theorem dX9_worst_81 : decode cX9_worst 81 = .ok (.invokestatic 231, 3) := by decide +kernel
theorem dX9_worst_84 : decode cX9_worst 84 = .ok (.ireturn, 1) := by decide +kernel
theorem dX9_worst_85 : decode cX9_worst 85 = .ok (.iload_n 2, 1) := by decide +kernel
theorem dX9_worst_86 : decode cX9_worst 86 = .ok (.bipush 24, 2) := by decide +kernel
theorem dX9_worst_88 : decode cX9_worst 88 = .ok (.if_icmp .ne 16, 3) := by decide +kernel
theorem dX9_worst_91 : decode cX9_worst 91 = .ok (.aload_n 0, 1) := by decide +kernel
theorem dX9_worst_92 : decode cX9_worst 92 = .ok (.getfield 49, 3) := by decide +kernel
theorem dX9_worst_95 : decode cX9_worst 95 = .ok (.getfield 227, 3) := by decide +kernel
theorem dX9_worst_98 : decode cX9_worst 98 = .ok (.invokestatic 143, 3) := by decide +kernel
theorem dX9_worst_101 : decode cX9_worst 101 = .ok (.goto 4, 3) := by decide +kernel
theorem dX9_worst_104 : decode cX9_worst 104 = .ok (.iconst 0, 1) := by decide +kernel
theorem dX9_worst_105 : decode cX9_worst 105 = .ok (.ireturn, 1) := by decide +kernel
theorem dX9_seenNow_0 : decode cX9_seenNow 0 = .ok (.aload_n 0, 1) := by decide +kernel
theorem dX9_seenNow_1 : decode cX9_seenNow 1 = .ok (.getfield 42, 3) := by decide +kernel
theorem dX9_seenNow_4 : decode cX9_seenNow 4 = .ok (.invokevirtual 234, 3) := by decide +kernel
theorem dX9_seenNow_7 : decode cX9_seenNow 7 = .ok (.aload_n 0, 1) := by decide +kernel
theorem dX9_seenNow_8 : decode cX9_seenNow 8 = .ok (.getfield 42, 3) := by decide +kernel
theorem dX9_seenNow_11 : decode cX9_seenNow 11 = .ok (.getfield 237, 3) := by decide +kernel
theorem dX9_seenNow_14 : decode cX9_seenNow 14 = .ok (.areturn, 1) := by decide +kernel
theorem dX9_firstOf_0 : decode cX9_firstOf 0 = .ok (.iconst 0, 1) := by decide +kernel
theorem dX9_firstOf_1 : decode cX9_firstOf 1 = .ok (.istore_n 2, 1) := by decide +kernel
theorem dX9_firstOf_2 : decode cX9_firstOf 2 = .ok (.iload_n 2, 1) := by decide +kernel
theorem dX9_firstOf_3 : decode cX9_firstOf 3 = .ok (.bipush 36, 2) := by decide +kernel
theorem dX9_firstOf_5 : decode cX9_firstOf 5 = .ok (.if_icmp .ge 19, 3) := by decide +kernel
theorem dX9_firstOf_8 : decode cX9_firstOf 8 = .ok (.lload_n 0, 1) := by decide +kernel
theorem dX9_firstOf_9 : decode cX9_firstOf 9 = .ok (.iload_n 2, 1) := by decide +kernel
theorem dX9_firstOf_10 : decode cX9_firstOf 10 = .ok (.invokestatic 137, 3) := by decide +kernel
theorem dX9_firstOf_13 : decode cX9_firstOf 13 = .ok (.ifCond .eq 5, 3) := by decide +kernel
theorem dX9_firstOf_16 : decode cX9_firstOf 16 = .ok (.iload_n 2, 1) := by decide +kernel
theorem dX9_firstOf_17 : decode cX9_firstOf 17 = .ok (.ireturn, 1) := by decide +kernel
theorem dX9_firstOf_18 : decode cX9_firstOf 18 = .ok (.iinc 2 1, 3) := by decide +kernel
theorem dX9_firstOf_21 : decode cX9_firstOf 21 = .ok (.goto (-19), 3) := by decide +kernel
theorem dX9_firstOf_24 : decode cX9_firstOf 24 = .ok (.iconst (-1), 1) := by decide +kernel
theorem dX9_firstOf_25 : decode cX9_firstOf 25 = .ok (.ireturn, 1) := by decide +kernel
theorem dX9_worthUnseen_0 : decode cX9_worthUnseen 0 = .ok (.iconst 0, 1) := by decide +kernel
theorem dX9_worthUnseen_1 : decode cX9_worthUnseen 1 = .ok (.istore_n 2, 1) := by decide +kernel
theorem dX9_worthUnseen_2 : decode cX9_worthUnseen 2 = .ok (.iconst 0, 1) := by decide +kernel
theorem dX9_worthUnseen_3 : decode cX9_worthUnseen 3 = .ok (.istore_n 3, 1) := by decide +kernel
theorem dX9_worthUnseen_4 : decode cX9_worthUnseen 4 = .ok (.iload_n 3, 1) := by decide +kernel
theorem dX9_worthUnseen_5 : decode cX9_worthUnseen 5 = .ok (.bipush 24, 2) := by decide +kernel
theorem dX9_worthUnseen_7 : decode cX9_worthUnseen 7 = .ok (.if_icmp .ge 92, 3) := by decide +kernel
theorem dX9_worthUnseen_10 : decode cX9_worthUnseen 10 = .ok (.aload_n 0, 1) := by decide +kernel
theorem dX9_worthUnseen_11 : decode cX9_worthUnseen 11 = .ok (.getfield 12, 3) := by decide +kernel
theorem dX9_worthUnseen_14 : decode cX9_worthUnseen 14 = .ok (.invokevirtual 223, 3) := by decide +kernel
theorem dX9_worthUnseen_17 : decode cX9_worthUnseen 17 = .ok (.aload_n 1, 1) := by decide +kernel
theorem dX9_worthUnseen_18 : decode cX9_worthUnseen 18 = .ok (.iload_n 3, 1) := by decide +kernel
theorem dX9_worthUnseen_19 : decode cX9_worthUnseen 19 = .ok (.laload, 1) := by decide +kernel
theorem dX9_worthUnseen_20 : decode cX9_worthUnseen 20 = .ok (.ldc2_w 141, 3) := by decide +kernel
theorem dX9_worthUnseen_23 : decode cX9_worthUnseen 23 = .ok (.lxor, 1) := by decide +kernel
theorem dX9_worthUnseen_24 : decode cX9_worthUnseen 24 = .ok (.land, 1) := by decide +kernel
theorem dX9_worthUnseen_25 : decode cX9_worthUnseen 25 = .ok (.lstore 4, 2) := by decide +kernel
theorem dX9_worthUnseen_27 : decode cX9_worthUnseen 27 = .ok (.aload_n 0, 1) := by decide +kernel
theorem dX9_worthUnseen_28 : decode cX9_worthUnseen 28 = .ok (.getfield 33, 3) := by decide +kernel
theorem dX9_worthUnseen_31 : decode cX9_worthUnseen 31 = .ok (.iconst 0, 1) := by decide +kernel
theorem dX9_worthUnseen_32 : decode cX9_worthUnseen 32 = .ok (.iload_n 3, 1) := by decide +kernel
theorem dX9_worthUnseen_33 : decode cX9_worthUnseen 33 = .ok (.iconst 0, 1) := by decide +kernel
theorem dX9_worthUnseen_34 : decode cX9_worthUnseen 34 = .ok (.invokevirtual 159, 3) := by decide +kernel
theorem dX9_worthUnseen_37 : decode cX9_worthUnseen 37 = .ok (.iconst 0, 1) := by decide +kernel
theorem dX9_worthUnseen_38 : decode cX9_worthUnseen 38 = .ok (.istore 6, 2) := by decide +kernel
theorem dX9_worthUnseen_40 : decode cX9_worthUnseen 40 = .ok (.iload 6, 2) := by decide +kernel
theorem dX9_worthUnseen_42 : decode cX9_worthUnseen 42 = .ok (.bipush 36, 2) := by decide +kernel
theorem dX9_worthUnseen_44 : decode cX9_worthUnseen 44 = .ok (.if_icmp .ge 49, 3) := by decide +kernel
theorem dX9_worthUnseen_47 : decode cX9_worthUnseen 47 = .ok (.lload 4, 2) := by decide +kernel
theorem dX9_worthUnseen_49 : decode cX9_worthUnseen 49 = .ok (.iload 6, 2) := by decide +kernel
theorem dX9_worthUnseen_51 : decode cX9_worthUnseen 51 = .ok (.invokestatic 137, 3) := by decide +kernel
theorem dX9_worthUnseen_54 : decode cX9_worthUnseen 54 = .ok (.ifCond .eq 33, 3) := by decide +kernel
theorem dX9_worthUnseen_57 : decode cX9_worthUnseen 57 = .ok (.aload_n 0, 1) := by decide +kernel
theorem dX9_worthUnseen_58 : decode cX9_worthUnseen 58 = .ok (.getfield 33, 3) := by decide +kernel
theorem dX9_worthUnseen_61 : decode cX9_worthUnseen 61 = .ok (.iconst 0, 1) := by decide +kernel
theorem dX9_worthUnseen_62 : decode cX9_worthUnseen 62 = .ok (.aload_n 0, 1) := by decide +kernel
theorem dX9_worthUnseen_63 : decode cX9_worthUnseen 63 = .ok (.getfield 12, 3) := by decide +kernel
theorem dX9_worthUnseen_66 : decode cX9_worthUnseen 66 = .ok (.iload 6, 2) := by decide +kernel
theorem dX9_worthUnseen_68 : decode cX9_worthUnseen 68 = .ok (.invokevirtual 240, 3) := by decide +kernel
theorem dX9_worthUnseen_71 : decode cX9_worthUnseen 71 = .ok (.iload 6, 2) := by decide +kernel
theorem dX9_worthUnseen_73 : decode cX9_worthUnseen 73 = .ok (.invokevirtual 163, 3) := by decide +kernel
theorem dX9_worthUnseen_76 : decode cX9_worthUnseen 76 = .ok (.iload_n 2, 1) := by decide +kernel
theorem dX9_worthUnseen_77 : decode cX9_worthUnseen 77 = .ok (.aload_n 0, 1) := by decide +kernel
theorem dX9_worthUnseen_78 : decode cX9_worthUnseen 78 = .ok (.getfield 33, 3) := by decide +kernel
theorem dX9_worthUnseen_81 : decode cX9_worthUnseen 81 = .ok (.iconst 2, 1) := by decide +kernel
theorem dX9_worthUnseen_82 : decode cX9_worthUnseen 82 = .ok (.invokevirtual 166, 3) := by decide +kernel
theorem dX9_worthUnseen_85 : decode cX9_worthUnseen 85 = .ok (.iadd, 1) := by decide +kernel
theorem dX9_worthUnseen_86 : decode cX9_worthUnseen 86 = .ok (.istore_n 2, 1) := by decide +kernel
theorem dX9_worthUnseen_87 : decode cX9_worthUnseen 87 = .ok (.iinc 6 1, 3) := by decide +kernel
theorem dX9_worthUnseen_90 : decode cX9_worthUnseen 90 = .ok (.goto (-50), 3) := by decide +kernel
theorem dX9_worthUnseen_93 : decode cX9_worthUnseen 93 = .ok (.iinc 3 1, 3) := by decide +kernel
theorem dX9_worthUnseen_96 : decode cX9_worthUnseen 96 = .ok (.goto (-92), 3) := by decide +kernel
theorem dX9_worthUnseen_99 : decode cX9_worthUnseen 99 = .ok (.iload_n 2, 1) := by decide +kernel
theorem dX9_worthUnseen_100 : decode cX9_worthUnseen 100 = .ok (.ireturn, 1) := by decide +kernel
theorem dX9_soon_0 : decode cX9_soon 0 = .ok (.iload_n 1, 1) := by decide +kernel
theorem dX9_soon_1 : decode cX9_soon 1 = .ok (.invokestatic 134, 3) := by decide +kernel
theorem dX9_soon_4 : decode cX9_soon 4 = .ok (.ifCond .eq 10, 3) := by decide +kernel
theorem dX9_soon_7 : decode cX9_soon 7 = .ok (.iload_n 2, 1) := by decide +kernel
theorem dX9_soon_8 : decode cX9_soon 8 = .ok (.invokestatic 134, 3) := by decide +kernel
theorem dX9_soon_11 : decode cX9_soon 11 = .ok (.ifCond .ne 6, 3) := by decide +kernel
theorem dX9_soon_14 : decode cX9_soon 14 = .ok (.bipush (-5), 2) := by decide +kernel
theorem dX9_soon_16 : decode cX9_soon 16 = .ok (.ireturn, 1) := by decide +kernel
theorem dX9_soon_17 : decode cX9_soon 17 = .ok (.iload_n 3, 1) := by decide +kernel
theorem dX9_soon_18 : decode cX9_soon 18 = .ok (.invokestatic 156, 3) := by decide +kernel
theorem dX9_soon_21 : decode cX9_soon 21 = .ok (.ifCond .eq 27, 3) := by decide +kernel
theorem dX9_soon_24 : decode cX9_soon 24 = .ok (.aload_n 0, 1) := by decide +kernel
theorem dX9_soon_25 : decode cX9_soon 25 = .ok (.getfield 56, 3) := by decide +kernel
theorem dX9_soon_28 : decode cX9_soon 28 = .ok (.aload_n 0, 1) := by decide +kernel
theorem dX9_soon_29 : decode cX9_soon 29 = .ok (.invokevirtual 211, 3) := by decide +kernel
theorem dX9_soon_32 : decode cX9_soon 32 = .ok (.aload_n 0, 1) := by decide +kernel
theorem dX9_soon_33 : decode cX9_soon 33 = .ok (.getfield 12, 3) := by decide +kernel
theorem dX9_soon_36 : decode cX9_soon 36 = .ok (.invokevirtual 223, 3) := by decide +kernel
theorem dX9_soon_39 : decode cX9_soon 39 = .ok (.iload_n 1, 1) := by decide +kernel
theorem dX9_soon_40 : decode cX9_soon 40 = .ok (.iload_n 2, 1) := by decide +kernel
theorem dX9_soon_41 : decode cX9_soon 41 = .ok (.iload_n 3, 1) := by decide +kernel
theorem dX9_soon_42 : decode cX9_soon 42 = .ok (.invokevirtual 243, 3) := by decide +kernel
theorem dX9_soon_45 : decode cX9_soon 45 = .ok (.goto 5, 3) := by decide +kernel
theorem dX9_soon_48 : decode cX9_soon 48 = .ok (.bipush (-7), 2) := by decide +kernel
theorem dX9_soon_50 : decode cX9_soon 50 = .ok (.ireturn, 1) := by decide +kernel
theorem dX9_path_0 : decode cX9_path 0 = .ok (.iload_n 1, 1) := by decide +kernel
theorem dX9_path_1 : decode cX9_path 1 = .ok (.invokestatic 134, 3) := by decide +kernel
theorem dX9_path_4 : decode cX9_path 4 = .ok (.ifCond .eq 10, 3) := by decide +kernel
theorem dX9_path_7 : decode cX9_path 7 = .ok (.iload_n 2, 1) := by decide +kernel
theorem dX9_path_8 : decode cX9_path 8 = .ok (.invokestatic 134, 3) := by decide +kernel
theorem dX9_path_11 : decode cX9_path 11 = .ok (.ifCond .ne 6, 3) := by decide +kernel
theorem dX9_path_14 : decode cX9_path 14 = .ok (.bipush (-5), 2) := by decide +kernel
theorem dX9_path_16 : decode cX9_path 16 = .ok (.ireturn, 1) := by decide +kernel
theorem dX9_path_17 : decode cX9_path 17 = .ok (.iload_n 3, 1) := by decide +kernel
theorem dX9_path_18 : decode cX9_path 18 = .ok (.invokestatic 156, 3) := by decide +kernel
theorem dX9_path_21 : decode cX9_path 21 = .ok (.ifCond .eq 13, 3) := by decide +kernel
theorem dX9_path_24 : decode cX9_path 24 = .ok (.iload 4, 2) := by decide +kernel
theorem dX9_path_26 : decode cX9_path 26 = .ok (.bipush 24, 2) := by decide +kernel
theorem dX9_path_28 : decode cX9_path 28 = .ok (.invokestatic 107, 3) := by decide +kernel
theorem dX9_path_31 : decode cX9_path 31 = .ok (.ifCond .ne 6, 3) := by decide +kernel
theorem dX9_path_34 : decode cX9_path 34 = .ok (.bipush (-7), 2) := by decide +kernel
theorem dX9_path_36 : decode cX9_path 36 = .ok (.ireturn, 1) := by decide +kernel
theorem dX9_path_37 : decode cX9_path 37 = .ok (.aload_n 0, 1) := by decide +kernel
theorem dX9_path_38 : decode cX9_path 38 = .ok (.getfield 56, 3) := by decide +kernel
theorem dX9_path_41 : decode cX9_path 41 = .ok (.aload_n 0, 1) := by decide +kernel
theorem dX9_path_42 : decode cX9_path 42 = .ok (.invokevirtual 211, 3) := by decide +kernel
theorem dX9_path_45 : decode cX9_path 45 = .ok (.aload_n 0, 1) := by decide +kernel
theorem dX9_path_46 : decode cX9_path 46 = .ok (.getfield 12, 3) := by decide +kernel
theorem dX9_path_49 : decode cX9_path 49 = .ok (.invokevirtual 223, 3) := by decide +kernel
theorem dX9_path_52 : decode cX9_path 52 = .ok (.iload_n 1, 1) := by decide +kernel
theorem dX9_path_53 : decode cX9_path 53 = .ok (.iload_n 2, 1) := by decide +kernel
theorem dX9_path_54 : decode cX9_path 54 = .ok (.iload_n 3, 1) := by decide +kernel
theorem dX9_path_55 : decode cX9_path 55 = .ok (.invokevirtual 243, 3) := by decide +kernel
theorem dX9_path_58 : decode cX9_path 58 = .ok (.istore 5, 2) := by decide +kernel
theorem dX9_path_60 : decode cX9_path 60 = .ok (.iload 4, 2) := by decide +kernel
theorem dX9_path_62 : decode cX9_path 62 = .ok (.iload 5, 2) := by decide +kernel
theorem dX9_path_64 : decode cX9_path 64 = .ok (.if_icmp .gt 18, 3) := by decide +kernel
theorem dX9_path_67 : decode cX9_path 67 = .ok (.aload_n 0, 1) := by decide +kernel
theorem dX9_path_68 : decode cX9_path 68 = .ok (.getfield 56, 3) := by decide +kernel
theorem dX9_path_71 : decode cX9_path 71 = .ok (.iload_n 2, 1) := by decide +kernel
theorem dX9_path_72 : decode cX9_path 72 = .ok (.iload 5, 2) := by decide +kernel
theorem dX9_path_74 : decode cX9_path 74 = .ok (.iload 4, 2) := by decide +kernel
theorem dX9_path_76 : decode cX9_path 76 = .ok (.invokevirtual 247, 3) := by decide +kernel
theorem dX9_path_79 : decode cX9_path 79 = .ok (.goto 4, 3) := by decide +kernel
theorem dX9_path_82 : decode cX9_path 82 = .ok (.iconst (-1), 1) := by decide +kernel
theorem dX9_path_83 : decode cX9_path 83 = .ok (.ireturn, 1) := by decide +kernel
theorem dX9_hides_0 : decode cX9_hides 0 = .ok (.iload_n 1, 1) := by decide +kernel
theorem dX9_hides_1 : decode cX9_hides 1 = .ok (.invokestatic 134, 3) := by decide +kernel
theorem dX9_hides_4 : decode cX9_hides 4 = .ok (.ifCond .eq 19, 3) := by decide +kernel
theorem dX9_hides_7 : decode cX9_hides 7 = .ok (.iload_n 2, 1) := by decide +kernel
theorem dX9_hides_8 : decode cX9_hides 8 = .ok (.invokestatic 156, 3) := by decide +kernel
theorem dX9_hides_11 : decode cX9_hides 11 = .ok (.ifCond .eq 12, 3) := by decide +kernel
theorem dX9_hides_14 : decode cX9_hides 14 = .ok (.iload_n 3, 1) := by decide +kernel
theorem dX9_hides_15 : decode cX9_hides 15 = .ok (.bipush 24, 2) := by decide +kernel
theorem dX9_hides_17 : decode cX9_hides 17 = .ok (.invokestatic 107, 3) := by decide +kernel
theorem dX9_hides_20 : decode cX9_hides 20 = .ok (.ifCond .ne 7, 3) := by decide +kernel
theorem dX9_hides_23 : decode cX9_hides 23 = .ok (.ldc2_w 124, 3) := by decide +kernel
theorem dX9_hides_26 : decode cX9_hides 26 = .ok (.lreturn, 1) := by decide +kernel
theorem dX9_hides_27 : decode cX9_hides 27 = .ok (.aload_n 0, 1) := by decide +kernel
theorem dX9_hides_28 : decode cX9_hides 28 = .ok (.getfield 56, 3) := by decide +kernel
theorem dX9_hides_31 : decode cX9_hides 31 = .ok (.aload_n 0, 1) := by decide +kernel
theorem dX9_hides_32 : decode cX9_hides 32 = .ok (.invokevirtual 211, 3) := by decide +kernel
theorem dX9_hides_35 : decode cX9_hides 35 = .ok (.aload_n 0, 1) := by decide +kernel
theorem dX9_hides_36 : decode cX9_hides 36 = .ok (.getfield 12, 3) := by decide +kernel
theorem dX9_hides_39 : decode cX9_hides 39 = .ok (.invokevirtual 223, 3) := by decide +kernel
theorem dX9_hides_42 : decode cX9_hides 42 = .ok (.iload_n 1, 1) := by decide +kernel
theorem dX9_hides_43 : decode cX9_hides 43 = .ok (.iload_n 2, 1) := by decide +kernel
theorem dX9_hides_44 : decode cX9_hides 44 = .ok (.lconst 0, 1) := by decide +kernel
theorem dX9_hides_45 : decode cX9_hides 45 = .ok (.invokevirtual 251, 3) := by decide +kernel
theorem dX9_hides_48 : decode cX9_hides 48 = .ok (.pop, 1) := by decide +kernel
theorem dX9_hides_49 : decode cX9_hides 49 = .ok (.aload_n 0, 1) := by decide +kernel
theorem dX9_hides_50 : decode cX9_hides 50 = .ok (.getfield 56, 3) := by decide +kernel
theorem dX9_hides_53 : decode cX9_hides 53 = .ok (.getfield 255, 3) := by decide +kernel
theorem dX9_hides_56 : decode cX9_hides 56 = .ok (.iload_n 3, 1) := by decide +kernel
theorem dX9_hides_57 : decode cX9_hides 57 = .ok (.laload, 1) := by decide +kernel
theorem dX9_hides_58 : decode cX9_hides 58 = .ok (.lreturn, 1) := by decide +kernel
theorem dX9_when_0 : decode cX9_when 0 = .ok (.iload_n 1, 1) := by decide +kernel
theorem dX9_when_1 : decode cX9_when 1 = .ok (.invokestatic 134, 3) := by decide +kernel
theorem dX9_when_4 : decode cX9_when 4 = .ok (.ifCond .eq 33, 3) := by decide +kernel
theorem dX9_when_7 : decode cX9_when 7 = .ok (.iload_n 2, 1) := by decide +kernel
theorem dX9_when_8 : decode cX9_when 8 = .ok (.invokestatic 134, 3) := by decide +kernel
theorem dX9_when_11 : decode cX9_when 11 = .ok (.ifCond .eq 26, 3) := by decide +kernel
theorem dX9_when_14 : decode cX9_when 14 = .ok (.aload_n 0, 1) := by decide +kernel
theorem dX9_when_15 : decode cX9_when 15 = .ok (.getfield 56, 3) := by decide +kernel
theorem dX9_when_18 : decode cX9_when 18 = .ok (.aload_n 0, 1) := by decide +kernel
theorem dX9_when_19 : decode cX9_when 19 = .ok (.invokevirtual 211, 3) := by decide +kernel
theorem dX9_when_22 : decode cX9_when 22 = .ok (.aload_n 0, 1) := by decide +kernel
theorem dX9_when_23 : decode cX9_when 23 = .ok (.getfield 12, 3) := by decide +kernel
theorem dX9_when_26 : decode cX9_when 26 = .ok (.invokevirtual 223, 3) := by decide +kernel
theorem dX9_when_29 : decode cX9_when 29 = .ok (.iload_n 1, 1) := by decide +kernel
theorem dX9_when_30 : decode cX9_when 30 = .ok (.iload_n 2, 1) := by decide +kernel
theorem dX9_when_31 : decode cX9_when 31 = .ok (.invokevirtual 258, 3) := by decide +kernel
theorem dX9_when_34 : decode cX9_when 34 = .ok (.goto 5, 3) := by decide +kernel
theorem dX9_when_37 : decode cX9_when 37 = .ok (.bipush (-5), 2) := by decide +kernel
theorem dX9_when_39 : decode cX9_when 39 = .ok (.ireturn, 1) := by decide +kernel
theorem dX9_more_0 : decode cX9_more 0 = .ok (.iload_n 1, 1) := by decide +kernel
theorem dX9_more_1 : decode cX9_more 1 = .ok (.invokestatic 134, 3) := by decide +kernel
theorem dX9_more_4 : decode cX9_more 4 = .ok (.ifCond .eq 10, 3) := by decide +kernel
theorem dX9_more_7 : decode cX9_more 7 = .ok (.iload_n 2, 1) := by decide +kernel
theorem dX9_more_8 : decode cX9_more 8 = .ok (.invokestatic 134, 3) := by decide +kernel
theorem dX9_more_11 : decode cX9_more 11 = .ok (.ifCond .ne 6, 3) := by decide +kernel
theorem dX9_more_14 : decode cX9_more 14 = .ok (.bipush (-5), 2) := by decide +kernel
theorem dX9_more_16 : decode cX9_more 16 = .ok (.ireturn, 1) := by decide +kernel
theorem dX9_more_17 : decode cX9_more 17 = .ok (.iload_n 3, 1) := by decide +kernel
theorem dX9_more_18 : decode cX9_more 18 = .ok (.iconst 3, 1) := by decide +kernel
theorem dX9_more_19 : decode cX9_more 19 = .ok (.invokestatic 107, 3) := by decide +kernel
theorem dX9_more_22 : decode cX9_more 22 = .ok (.ifCond .ne 6, 3) := by decide +kernel
theorem dX9_more_25 : decode cX9_more 25 = .ok (.bipush (-7), 2) := by decide +kernel
theorem dX9_more_27 : decode cX9_more 27 = .ok (.ireturn, 1) := by decide +kernel
theorem dX9_more_28 : decode cX9_more 28 = .ok (.aload_n 0, 1) := by decide +kernel
theorem dX9_more_29 : decode cX9_more 29 = .ok (.getfield 12, 3) := by decide +kernel
theorem dX9_more_32 : decode cX9_more 32 = .ok (.invokevirtual 223, 3) := by decide +kernel
theorem dX9_more_35 : decode cX9_more 35 = .ok (.lstore 4, 2) := by decide +kernel
theorem dX9_more_37 : decode cX9_more 37 = .ok (.aload_n 0, 1) := by decide +kernel
theorem dX9_more_38 : decode cX9_more 38 = .ok (.getfield 56, 3) := by decide +kernel
theorem dX9_more_41 : decode cX9_more 41 = .ok (.aload_n 0, 1) := by decide +kernel
theorem dX9_more_42 : decode cX9_more 42 = .ok (.invokevirtual 211, 3) := by decide +kernel
theorem dX9_more_45 : decode cX9_more 45 = .ok (.lload 4, 2) := by decide +kernel
theorem dX9_more_47 : decode cX9_more 47 = .ok (.iload_n 1, 1) := by decide +kernel
theorem dX9_more_48 : decode cX9_more 48 = .ok (.iload_n 2, 1) := by decide +kernel
theorem dX9_more_49 : decode cX9_more 49 = .ok (.invokevirtual 258, 3) := by decide +kernel
theorem dX9_more_52 : decode cX9_more 52 = .ok (.invokestatic 262, 3) := by decide +kernel
theorem dX9_more_55 : decode cX9_more 55 = .ok (.istore 6, 2) := by decide +kernel
theorem dX9_more_57 : decode cX9_more 57 = .ok (.iconst (-1), 1) := by decide +kernel
theorem dX9_more_58 : decode cX9_more 58 = .ok (.istore 7, 2) := by decide +kernel
theorem dX9_more_60 : decode cX9_more 60 = .ok (.iconst 0, 1) := by decide +kernel
theorem dX9_more_61 : decode cX9_more 61 = .ok (.istore 8, 2) := by decide +kernel
theorem dX9_more_63 : decode cX9_more 63 = .ok (.iload 8, 2) := by decide +kernel
theorem dX9_more_65 : decode cX9_more 65 = .ok (.bipush 36, 2) := by decide +kernel
theorem dX9_more_67 : decode cX9_more 67 = .ok (.if_icmp .ge 80, 3) := by decide +kernel
theorem dX9_more_70 : decode cX9_more 70 = .ok (.lload 4, 2) := by decide +kernel
theorem dX9_more_72 : decode cX9_more 72 = .ok (.iload 8, 2) := by decide +kernel
theorem dX9_more_74 : decode cX9_more 74 = .ok (.invokestatic 137, 3) := by decide +kernel
theorem dX9_more_77 : decode cX9_more 77 = .ok (.ifCond .eq 64, 3) := by decide +kernel
theorem dX9_more_80 : decode cX9_more 80 = .ok (.aload_n 0, 1) := by decide +kernel
theorem dX9_more_81 : decode cX9_more 81 = .ok (.getfield 42, 3) := by decide +kernel
theorem dX9_more_84 : decode cX9_more 84 = .ok (.iload_n 3, 1) := by decide +kernel
theorem dX9_more_85 : decode cX9_more 85 = .ok (.iconst 2, 1) := by decide +kernel
theorem dX9_more_86 : decode cX9_more 86 = .ok (.irem, 1) := by decide +kernel
theorem dX9_more_87 : decode cX9_more 87 = .ok (.ifCond .ne 7, 3) := by decide +kernel
theorem dX9_more_90 : decode cX9_more 90 = .ok (.iconst 1, 1) := by decide +kernel
theorem dX9_more_91 : decode cX9_more 91 = .ok (.goto 4, 3) := by decide +kernel
theorem dX9_more_94 : decode cX9_more 94 = .ok (.iconst 2, 1) := by decide +kernel
theorem dX9_more_95 : decode cX9_more 95 = .ok (.iload 8, 2) := by decide +kernel
theorem dX9_more_97 : decode cX9_more 97 = .ok (.invokevirtual 266, 3) := by decide +kernel
theorem dX9_more_100 : decode cX9_more 100 = .ok (.ifCond .eq 41, 3) := by decide +kernel
theorem dX9_more_103 : decode cX9_more 103 = .ok (.aload_n 0, 1) := by decide +kernel
theorem dX9_more_104 : decode cX9_more 104 = .ok (.getfield 56, 3) := by decide +kernel
theorem dX9_more_107 : decode cX9_more 107 = .ok (.aload_n 0, 1) := by decide +kernel
theorem dX9_more_108 : decode cX9_more 108 = .ok (.getfield 42, 3) := by decide +kernel
theorem dX9_more_111 : decode cX9_more 111 = .ok (.getfield 269, 3) := by decide +kernel
theorem dX9_more_114 : decode cX9_more 114 = .ok (.lload 4, 2) := by decide +kernel
theorem dX9_more_116 : decode cX9_more 116 = .ok (.iload_n 1, 1) := by decide +kernel
theorem dX9_more_117 : decode cX9_more 117 = .ok (.iload_n 2, 1) := by decide +kernel
theorem dX9_more_118 : decode cX9_more 118 = .ok (.invokevirtual 258, 3) := by decide +kernel
theorem dX9_more_121 : decode cX9_more 121 = .ok (.invokestatic 262, 3) := by decide +kernel
theorem dX9_more_124 : decode cX9_more 124 = .ok (.istore 9, 2) := by decide +kernel
theorem dX9_more_126 : decode cX9_more 126 = .ok (.iload 9, 2) := by decide +kernel
theorem dX9_more_128 : decode cX9_more 128 = .ok (.iload 6, 2) := by decide +kernel
theorem dX9_more_130 : decode cX9_more 130 = .ok (.if_icmp .ge 11, 3) := by decide +kernel
theorem dX9_more_133 : decode cX9_more 133 = .ok (.iload 9, 2) := by decide +kernel
theorem dX9_more_135 : decode cX9_more 135 = .ok (.istore 6, 2) := by decide +kernel
theorem dX9_more_137 : decode cX9_more 137 = .ok (.iload 8, 2) := by decide +kernel
theorem dX9_more_139 : decode cX9_more 139 = .ok (.istore 7, 2) := by decide +kernel
theorem dX9_more_141 : decode cX9_more 141 = .ok (.iinc 8 1, 3) := by decide +kernel
theorem dX9_more_144 : decode cX9_more 144 = .ok (.goto (-81), 3) := by decide +kernel
theorem dX9_more_147 : decode cX9_more 147 = .ok (.iload_n 3, 1) := by decide +kernel
theorem dX9_more_148 : decode cX9_more 148 = .ok (.iconst 2, 1) := by decide +kernel
theorem dX9_more_149 : decode cX9_more 149 = .ok (.if_icmp .ge 8, 3) := by decide +kernel
theorem dX9_more_152 : decode cX9_more 152 = .ok (.iload 7, 2) := by decide +kernel
theorem dX9_more_154 : decode cX9_more 154 = .ok (.goto 5, 3) := by decide +kernel
theorem dX9_more_157 : decode cX9_more 157 = .ok (.iload 6, 2) := by decide +kernel
theorem dX9_more_159 : decode cX9_more 159 = .ok (.ireturn, 1) := by decide +kernel
theorem dX9_shift_0 : decode cX9_shift 0 = .ok (.aload_n 0, 1) := by decide +kernel
theorem dX9_shift_1 : decode cX9_shift 1 = .ok (.iload_n 1, 1) := by decide +kernel
theorem dX9_shift_2 : decode cX9_shift 2 = .ok (.invokevirtual 173, 3) := by decide +kernel
theorem dX9_shift_5 : decode cX9_shift 5 = .ok (.ifCond .ne 6, 3) := by decide +kernel
theorem dX9_shift_8 : decode cX9_shift 8 = .ok (.bipush (-5), 2) := by decide +kernel
theorem dX9_shift_10 : decode cX9_shift 10 = .ok (.ireturn, 1) := by decide +kernel
theorem dX9_shift_11 : decode cX9_shift 11 = .ok (.iload_n 2, 1) := by decide +kernel
theorem dX9_shift_12 : decode cX9_shift 12 = .ok (.iconst 1, 1) := by decide +kernel
theorem dX9_shift_13 : decode cX9_shift 13 = .ok (.invokestatic 107, 3) := by decide +kernel
theorem dX9_shift_16 : decode cX9_shift 16 = .ok (.ifCond .ne 6, 3) := by decide +kernel
theorem dX9_shift_19 : decode cX9_shift 19 = .ok (.bipush (-7), 2) := by decide +kernel
theorem dX9_shift_21 : decode cX9_shift 21 = .ok (.ireturn, 1) := by decide +kernel
theorem dX9_shift_22 : decode cX9_shift 22 = .ok (.aload_n 0, 1) := by decide +kernel
theorem dX9_shift_23 : decode cX9_shift 23 = .ok (.getfield 42, 3) := by decide +kernel
theorem dX9_shift_26 : decode cX9_shift 26 = .ok (.invokevirtual 234, 3) := by decide +kernel
theorem dX9_shift_29 : decode cX9_shift 29 = .ok (.bipush 25, 2) := by decide +kernel
theorem dX9_shift_31 : decode cX9_shift 31 = .ok (.istore_n 3, 1) := by decide +kernel
theorem dX9_shift_32 : decode cX9_shift 32 = .ok (.iconst 0, 1) := by decide +kernel
theorem dX9_shift_33 : decode cX9_shift 33 = .ok (.istore 4, 2) := by decide +kernel
theorem dX9_shift_35 : decode cX9_shift 35 = .ok (.iconst 0, 1) := by decide +kernel
theorem dX9_shift_36 : decode cX9_shift 36 = .ok (.istore 5, 2) := by decide +kernel
theorem dX9_shift_38 : decode cX9_shift 38 = .ok (.iload 5, 2) := by decide +kernel
theorem dX9_shift_40 : decode cX9_shift 40 = .ok (.bipush 23, 2) := by decide +kernel
theorem dX9_shift_42 : decode cX9_shift 42 = .ok (.if_icmp .gt 55, 3) := by decide +kernel
theorem dX9_shift_45 : decode cX9_shift 45 = .ok (.aload_n 0, 1) := by decide +kernel
theorem dX9_shift_46 : decode cX9_shift 46 = .ok (.getfield 42, 3) := by decide +kernel
theorem dX9_shift_49 : decode cX9_shift 49 = .ok (.iload_n 1, 1) := by decide +kernel
theorem dX9_shift_50 : decode cX9_shift 50 = .ok (.iload 5, 2) := by decide +kernel
theorem dX9_shift_52 : decode cX9_shift 52 = .ok (.invokevirtual 272, 3) := by decide +kernel
theorem dX9_shift_55 : decode cX9_shift 55 = .ok (.aload_n 0, 1) := by decide +kernel
theorem dX9_shift_56 : decode cX9_shift 56 = .ok (.getfield 49, 3) := by decide +kernel
theorem dX9_shift_59 : decode cX9_shift 59 = .ok (.aload_n 0, 1) := by decide +kernel
theorem dX9_shift_60 : decode cX9_shift 60 = .ok (.getfield 42, 3) := by decide +kernel
theorem dX9_shift_63 : decode cX9_shift 63 = .ok (.getfield 269, 3) := by decide +kernel
theorem dX9_shift_66 : decode cX9_shift 66 = .ok (.aload_n 0, 1) := by decide +kernel
theorem dX9_shift_67 : decode cX9_shift 67 = .ok (.getfield 12, 3) := by decide +kernel
theorem dX9_shift_70 : decode cX9_shift 70 = .ok (.invokevirtual 223, 3) := by decide +kernel
theorem dX9_shift_73 : decode cX9_shift 73 = .ok (.invokevirtual 215, 3) := by decide +kernel
theorem dX9_shift_76 : decode cX9_shift 76 = .ok (.istore 6, 2) := by decide +kernel
theorem dX9_shift_78 : decode cX9_shift 78 = .ok (.iload 6, 2) := by decide +kernel
theorem dX9_shift_80 : decode cX9_shift 80 = .ok (.iload_n 3, 1) := by decide +kernel
theorem dX9_shift_81 : decode cX9_shift 81 = .ok (.if_icmp .ge 10, 3) := by decide +kernel
theorem dX9_shift_84 : decode cX9_shift 84 = .ok (.iload 6, 2) := by decide +kernel
theorem dX9_shift_86 : decode cX9_shift 86 = .ok (.istore_n 3, 1) := by decide +kernel
theorem dX9_shift_87 : decode cX9_shift 87 = .ok (.iload 5, 2) := by decide +kernel
theorem dX9_shift_89 : decode cX9_shift 89 = .ok (.istore 4, 2) := by decide +kernel
theorem dX9_shift_91 : decode cX9_shift 91 = .ok (.iinc 5 1, 3) := by decide +kernel
theorem dX9_shift_94 : decode cX9_shift 94 = .ok (.goto (-56), 3) := by decide +kernel
theorem dX9_shift_97 : decode cX9_shift 97 = .ok (.iload_n 2, 1) := by decide +kernel
theorem dX9_shift_98 : decode cX9_shift 98 = .ok (.ifCond .ne 8, 3) := by decide +kernel
theorem dX9_shift_101 : decode cX9_shift 101 = .ok (.iload 4, 2) := by decide +kernel
theorem dX9_shift_103 : decode cX9_shift 103 = .ok (.goto 4, 3) := by decide +kernel
theorem dX9_shift_106 : decode cX9_shift 106 = .ok (.iload_n 3, 1) := by decide +kernel
theorem dX9_shift_107 : decode cX9_shift 107 = .ok (.ireturn, 1) := by decide +kernel
theorem dX9_holds_0 : decode cX9_holds 0 = .ok (.lload_n 1, 1) := by decide +kernel
theorem dX9_holds_1 : decode cX9_holds 1 = .ok (.invokestatic 120, 3) := by decide +kernel
theorem dX9_holds_4 : decode cX9_holds 4 = .ok (.ifCond .ne 6, 3) := by decide +kernel
theorem dX9_holds_7 : decode cX9_holds 7 = .ok (.bipush (-5), 2) := by decide +kernel
theorem dX9_holds_9 : decode cX9_holds 9 = .ok (.ireturn, 1) := by decide +kernel
theorem dX9_holds_10 : decode cX9_holds 10 = .ok (.iload_n 3, 1) := by decide +kernel
theorem dX9_holds_11 : decode cX9_holds 11 = .ok (.bipush 24, 2) := by decide +kernel
theorem dX9_holds_13 : decode cX9_holds 13 = .ok (.invokestatic 107, 3) := by decide +kernel
theorem dX9_holds_16 : decode cX9_holds 16 = .ok (.ifCond .ne 6, 3) := by decide +kernel
theorem dX9_holds_19 : decode cX9_holds 19 = .ok (.bipush (-7), 2) := by decide +kernel
theorem dX9_holds_21 : decode cX9_holds 21 = .ok (.ireturn, 1) := by decide +kernel
theorem dX9_holds_22 : decode cX9_holds 22 = .ok (.aload_n 0, 1) := by decide +kernel
theorem dX9_holds_23 : decode cX9_holds 23 = .ok (.iconst 0, 1) := by decide +kernel
theorem dX9_holds_24 : decode cX9_holds 24 = .ok (.lload_n 1, 1) := by decide +kernel
theorem dX9_holds_25 : decode cX9_holds 25 = .ok (.iload_n 3, 1) := by decide +kernel
theorem dX9_holds_26 : decode cX9_holds 26 = .ok (.invokevirtual 276, 3) := by decide +kernel
theorem dX9_holds_29 : decode cX9_holds 29 = .ok (.ifCond .eq 7, 3) := by decide +kernel
theorem dX9_holds_32 : decode cX9_holds 32 = .ok (.iconst 1, 1) := by decide +kernel
theorem dX9_holds_33 : decode cX9_holds 33 = .ok (.goto 4, 3) := by decide +kernel
theorem dX9_holds_36 : decode cX9_holds 36 = .ok (.iconst 0, 1) := by decide +kernel
theorem dX9_holds_37 : decode cX9_holds 37 = .ok (.ireturn, 1) := by decide +kernel
theorem dX9_bribes_0 : decode cX9_bribes 0 = .ok (.lload_n 1, 1) := by decide +kernel
theorem dX9_bribes_1 : decode cX9_bribes 1 = .ok (.invokestatic 120, 3) := by decide +kernel
theorem dX9_bribes_4 : decode cX9_bribes 4 = .ok (.ifCond .eq 12, 3) := by decide +kernel
theorem dX9_bribes_7 : decode cX9_bribes 7 = .ok (.iload_n 3, 1) := by decide +kernel
theorem dX9_bribes_8 : decode cX9_bribes 8 = .ok (.bipush 24, 2) := by decide +kernel
theorem dX9_bribes_10 : decode cX9_bribes 10 = .ok (.invokestatic 107, 3) := by decide +kernel
theorem dX9_bribes_13 : decode cX9_bribes 13 = .ok (.ifCond .ne 5, 3) := by decide +kernel
theorem dX9_bribes_16 : decode cX9_bribes 16 = .ok (.iconst 0, 1) := by decide +kernel
theorem dX9_bribes_17 : decode cX9_bribes 17 = .ok (.ireturn, 1) := by decide +kernel
theorem dX9_bribes_18 : decode cX9_bribes 18 = .ok (.iconst 0, 1) := by decide +kernel
theorem dX9_bribes_19 : decode cX9_bribes 19 = .ok (.istore 4, 2) := by decide +kernel
theorem dX9_bribes_21 : decode cX9_bribes 21 = .ok (.iconst 0, 1) := by decide +kernel
theorem dX9_bribes_22 : decode cX9_bribes 22 = .ok (.istore 5, 2) := by decide +kernel
theorem dX9_bribes_24 : decode cX9_bribes 24 = .ok (.iload 5, 2) := by decide +kernel
theorem dX9_bribes_26 : decode cX9_bribes 26 = .ok (.iconst 1, 1) := by decide +kernel
theorem dX9_bribes_27 : decode cX9_bribes 27 = .ok (.aload_n 0, 1) := by decide +kernel
theorem dX9_bribes_28 : decode cX9_bribes 28 = .ok (.getfield 19, 3) := by decide +kernel
theorem dX9_bribes_31 : decode cX9_bribes 31 = .ok (.getfield 113, 3) := by decide +kernel
theorem dX9_bribes_34 : decode cX9_bribes 34 = .ok (.ishl, 1) := by decide +kernel
theorem dX9_bribes_35 : decode cX9_bribes 35 = .ok (.if_icmp .ge 29, 3) := by decide +kernel
theorem dX9_bribes_38 : decode cX9_bribes 38 = .ok (.aload_n 0, 1) := by decide +kernel
theorem dX9_bribes_39 : decode cX9_bribes 39 = .ok (.iload 5, 2) := by decide +kernel
theorem dX9_bribes_41 : decode cX9_bribes 41 = .ok (.lload_n 1, 1) := by decide +kernel
theorem dX9_bribes_42 : decode cX9_bribes 42 = .ok (.iload_n 3, 1) := by decide +kernel
theorem dX9_bribes_43 : decode cX9_bribes 43 = .ok (.invokevirtual 276, 3) := by decide +kernel
theorem dX9_bribes_46 : decode cX9_bribes 46 = .ok (.ifCond .eq 12, 3) := by decide +kernel
theorem dX9_bribes_49 : decode cX9_bribes 49 = .ok (.iload 4, 2) := by decide +kernel
theorem dX9_bribes_51 : decode cX9_bribes 51 = .ok (.iconst 1, 1) := by decide +kernel
theorem dX9_bribes_52 : decode cX9_bribes 52 = .ok (.iload 5, 2) := by decide +kernel
theorem dX9_bribes_54 : decode cX9_bribes 54 = .ok (.ishl, 1) := by decide +kernel
theorem dX9_bribes_55 : decode cX9_bribes 55 = .ok (.ior, 1) := by decide +kernel
theorem dX9_bribes_56 : decode cX9_bribes 56 = .ok (.istore 4, 2) := by decide +kernel
theorem dX9_bribes_58 : decode cX9_bribes 58 = .ok (.iinc 5 1, 3) := by decide +kernel
theorem dX9_bribes_61 : decode cX9_bribes 61 = .ok (.goto (-37), 3) := by decide +kernel
theorem dX9_bribes_64 : decode cX9_bribes 64 = .ok (.iload 4, 2) := by decide +kernel
theorem dX9_bribes_66 : decode cX9_bribes 66 = .ok (.ireturn, 1) := by decide +kernel
theorem dX9_fewest_0 : decode cX9_fewest 0 = .ok (.lload_n 1, 1) := by decide +kernel
theorem dX9_fewest_1 : decode cX9_fewest 1 = .ok (.invokestatic 120, 3) := by decide +kernel
theorem dX9_fewest_4 : decode cX9_fewest 4 = .ok (.ifCond .ne 6, 3) := by decide +kernel
theorem dX9_fewest_7 : decode cX9_fewest 7 = .ok (.bipush (-5), 2) := by decide +kernel
theorem dX9_fewest_9 : decode cX9_fewest 9 = .ok (.ireturn, 1) := by decide +kernel
theorem dX9_fewest_10 : decode cX9_fewest 10 = .ok (.iload_n 3, 1) := by decide +kernel
theorem dX9_fewest_11 : decode cX9_fewest 11 = .ok (.bipush 24, 2) := by decide +kernel
theorem dX9_fewest_13 : decode cX9_fewest 13 = .ok (.invokestatic 107, 3) := by decide +kernel
theorem dX9_fewest_16 : decode cX9_fewest 16 = .ok (.ifCond .eq 12, 3) := by decide +kernel
theorem dX9_fewest_19 : decode cX9_fewest 19 = .ok (.iload 4, 2) := by decide +kernel
theorem dX9_fewest_21 : decode cX9_fewest 21 = .ok (.iconst 1, 1) := by decide +kernel
theorem dX9_fewest_22 : decode cX9_fewest 22 = .ok (.invokestatic 107, 3) := by decide +kernel
theorem dX9_fewest_25 : decode cX9_fewest 25 = .ok (.ifCond .ne 6, 3) := by decide +kernel
theorem dX9_fewest_28 : decode cX9_fewest 28 = .ok (.bipush (-7), 2) := by decide +kernel
theorem dX9_fewest_30 : decode cX9_fewest 30 = .ok (.ireturn, 1) := by decide +kernel
theorem dX9_fewest_31 : decode cX9_fewest 31 = .ok (.iconst 1, 1) := by decide +kernel
theorem dX9_fewest_32 : decode cX9_fewest 32 = .ok (.aload_n 0, 1) := by decide +kernel
theorem dX9_fewest_33 : decode cX9_fewest 33 = .ok (.getfield 19, 3) := by decide +kernel
theorem dX9_fewest_36 : decode cX9_fewest 36 = .ok (.getfield 113, 3) := by decide +kernel
theorem dX9_fewest_39 : decode cX9_fewest 39 = .ok (.ishl, 1) := by decide +kernel
theorem dX9_fewest_40 : decode cX9_fewest 40 = .ok (.iconst 1, 1) := by decide +kernel
theorem dX9_fewest_41 : decode cX9_fewest 41 = .ok (.isub, 1) := by decide +kernel
theorem dX9_fewest_42 : decode cX9_fewest 42 = .ok (.istore 5, 2) := by decide +kernel
theorem dX9_fewest_44 : decode cX9_fewest 44 = .ok (.iconst (-1), 1) := by decide +kernel
theorem dX9_fewest_45 : decode cX9_fewest 45 = .ok (.istore 6, 2) := by decide +kernel
theorem dX9_fewest_47 : decode cX9_fewest 47 = .ok (.bipush 6, 2) := by decide +kernel
theorem dX9_fewest_49 : decode cX9_fewest 49 = .ok (.istore 7, 2) := by decide +kernel
theorem dX9_fewest_51 : decode cX9_fewest 51 = .ok (.iconst 0, 1) := by decide +kernel
theorem dX9_fewest_52 : decode cX9_fewest 52 = .ok (.istore 8, 2) := by decide +kernel
theorem dX9_fewest_54 : decode cX9_fewest 54 = .ok (.iload 8, 2) := by decide +kernel
theorem dX9_fewest_56 : decode cX9_fewest 56 = .ok (.iload 5, 2) := by decide +kernel
theorem dX9_fewest_58 : decode cX9_fewest 58 = .ok (.if_icmp .gt 46, 3) := by decide +kernel
theorem dX9_fewest_61 : decode cX9_fewest 61 = .ok (.iload 8, 2) := by decide +kernel
theorem dX9_fewest_63 : decode cX9_fewest 63 = .ok (.invokestatic 262, 3) := by decide +kernel
theorem dX9_fewest_66 : decode cX9_fewest 66 = .ok (.iload 7, 2) := by decide +kernel
theorem dX9_fewest_68 : decode cX9_fewest 68 = .ok (.if_icmp .ge 30, 3) := by decide +kernel
theorem dX9_fewest_71 : decode cX9_fewest 71 = .ok (.aload_n 0, 1) := by decide +kernel
theorem dX9_fewest_72 : decode cX9_fewest 72 = .ok (.iload 5, 2) := by decide +kernel
theorem dX9_fewest_74 : decode cX9_fewest 74 = .ok (.iload 8, 2) := by decide +kernel
theorem dX9_fewest_76 : decode cX9_fewest 76 = .ok (.iconst (-1), 1) := by decide +kernel
theorem dX9_fewest_77 : decode cX9_fewest 77 = .ok (.ixor, 1) := by decide +kernel
theorem dX9_fewest_78 : decode cX9_fewest 78 = .ok (.iand, 1) := by decide +kernel
theorem dX9_fewest_79 : decode cX9_fewest 79 = .ok (.lload_n 1, 1) := by decide +kernel
theorem dX9_fewest_80 : decode cX9_fewest 80 = .ok (.iload_n 3, 1) := by decide +kernel
theorem dX9_fewest_81 : decode cX9_fewest 81 = .ok (.invokevirtual 276, 3) := by decide +kernel
theorem dX9_fewest_84 : decode cX9_fewest 84 = .ok (.ifCond .eq 14, 3) := by decide +kernel
theorem dX9_fewest_87 : decode cX9_fewest 87 = .ok (.iload 8, 2) := by decide +kernel
theorem dX9_fewest_89 : decode cX9_fewest 89 = .ok (.invokestatic 262, 3) := by decide +kernel
theorem dX9_fewest_92 : decode cX9_fewest 92 = .ok (.istore 7, 2) := by decide +kernel
theorem dX9_fewest_94 : decode cX9_fewest 94 = .ok (.iload 8, 2) := by decide +kernel
theorem dX9_fewest_96 : decode cX9_fewest 96 = .ok (.istore 6, 2) := by decide +kernel
theorem dX9_fewest_98 : decode cX9_fewest 98 = .ok (.iinc 8 1, 3) := by decide +kernel
theorem dX9_fewest_101 : decode cX9_fewest 101 = .ok (.goto (-47), 3) := by decide +kernel
theorem dX9_fewest_104 : decode cX9_fewest 104 = .ok (.iload 4, 2) := by decide +kernel
theorem dX9_fewest_106 : decode cX9_fewest 106 = .ok (.ifCond .eq 9, 3) := by decide +kernel
theorem dX9_fewest_109 : decode cX9_fewest 109 = .ok (.iload 6, 2) := by decide +kernel
theorem dX9_fewest_111 : decode cX9_fewest 111 = .ok (.iconst (-1), 1) := by decide +kernel
theorem dX9_fewest_112 : decode cX9_fewest 112 = .ok (.if_icmp .ne 8, 3) := by decide +kernel
theorem dX9_fewest_115 : decode cX9_fewest 115 = .ok (.iload 6, 2) := by decide +kernel
theorem dX9_fewest_117 : decode cX9_fewest 117 = .ok (.goto 5, 3) := by decide +kernel
theorem dX9_fewest_120 : decode cX9_fewest 120 = .ok (.iload 7, 2) := by decide +kernel
theorem dX9_fewest_122 : decode cX9_fewest 122 = .ok (.ireturn, 1) := by decide +kernel
theorem dX9_holdsWithout_0 : decode cX9_holdsWithout 0 = .ok (.aload_n 0, 1) := by decide +kernel
theorem dX9_holdsWithout_1 : decode cX9_holdsWithout 1 = .ok (.getfield 42, 3) := by decide +kernel
theorem dX9_holdsWithout_4 : decode cX9_holdsWithout 4 = .ok (.invokevirtual 234, 3) := by decide +kernel
theorem dX9_holdsWithout_7 : decode cX9_holdsWithout 7 = .ok (.aload_n 0, 1) := by decide +kernel
theorem dX9_holdsWithout_8 : decode cX9_holdsWithout 8 = .ok (.getfield 42, 3) := by decide +kernel
theorem dX9_holdsWithout_11 : decode cX9_holdsWithout 11 = .ok (.iload_n 1, 1) := by decide +kernel
theorem dX9_holdsWithout_12 : decode cX9_holdsWithout 12 = .ok (.invokevirtual 280, 3) := by decide +kernel
theorem dX9_holdsWithout_15 : decode cX9_holdsWithout 15 = .ok (.aload_n 0, 1) := by decide +kernel
theorem dX9_holdsWithout_16 : decode cX9_holdsWithout 16 = .ok (.getfield 49, 3) := by decide +kernel
theorem dX9_holdsWithout_19 : decode cX9_holdsWithout 19 = .ok (.aload_n 0, 1) := by decide +kernel
theorem dX9_holdsWithout_20 : decode cX9_holdsWithout 20 = .ok (.getfield 42, 3) := by decide +kernel
theorem dX9_holdsWithout_23 : decode cX9_holdsWithout 23 = .ok (.getfield 269, 3) := by decide +kernel
theorem dX9_holdsWithout_26 : decode cX9_holdsWithout 26 = .ok (.lload_n 2, 1) := by decide +kernel
theorem dX9_holdsWithout_27 : decode cX9_holdsWithout 27 = .ok (.aload_n 0, 1) := by decide +kernel
theorem dX9_holdsWithout_28 : decode cX9_holdsWithout 28 = .ok (.getfield 12, 3) := by decide +kernel
theorem dX9_holdsWithout_31 : decode cX9_holdsWithout 31 = .ok (.invokevirtual 223, 3) := by decide +kernel
theorem dX9_holdsWithout_34 : decode cX9_holdsWithout 34 = .ok (.land, 1) := by decide +kernel
theorem dX9_holdsWithout_35 : decode cX9_holdsWithout 35 = .ok (.invokevirtual 215, 3) := by decide +kernel
theorem dX9_holdsWithout_38 : decode cX9_holdsWithout 38 = .ok (.iload 4, 2) := by decide +kernel
theorem dX9_holdsWithout_40 : decode cX9_holdsWithout 40 = .ok (.if_icmp .gt 7, 3) := by decide +kernel
theorem dX9_holdsWithout_43 : decode cX9_holdsWithout 43 = .ok (.iconst 1, 1) := by decide +kernel
theorem dX9_holdsWithout_44 : decode cX9_holdsWithout 44 = .ok (.goto 4, 3) := by decide +kernel
theorem dX9_holdsWithout_47 : decode cX9_holdsWithout 47 = .ok (.iconst 0, 1) := by decide +kernel
theorem dX9_holdsWithout_48 : decode cX9_holdsWithout 48 = .ok (.ireturn, 1) := by decide +kernel
theorem dX9_judge_0 : decode cX9_judge 0 = .ok (.aload_n 0, 1) := by decide +kernel
theorem dX9_judge_1 : decode cX9_judge 1 = .ok (.iload_n 1, 1) := by decide +kernel
theorem dX9_judge_2 : decode cX9_judge 2 = .ok (.iload_n 2, 1) := by decide +kernel
theorem dX9_judge_3 : decode cX9_judge 3 = .ok (.invokevirtual 283, 3) := by decide +kernel
theorem dX9_judge_6 : decode cX9_judge 6 = .ok (.istore_n 3, 1) := by decide +kernel
theorem dX9_judge_7 : decode cX9_judge 7 = .ok (.iload_n 3, 1) := by decide +kernel
theorem dX9_judge_8 : decode cX9_judge 8 = .ok (.ifCond .eq 7, 3) := by decide +kernel
theorem dX9_judge_11 : decode cX9_judge 11 = .ok (.iload_n 3, 1) := by decide +kernel
theorem dX9_judge_12 : decode cX9_judge 12 = .ok (.goto 17, 3) := by decide +kernel
theorem dX9_judge_15 : decode cX9_judge 15 = .ok (.aload_n 0, 1) := by decide +kernel
theorem dX9_judge_16 : decode cX9_judge 16 = .ok (.getfield 69, 3) := by decide +kernel
theorem dX9_judge_19 : decode cX9_judge 19 = .ok (.iload_n 1, 1) := by decide +kernel
theorem dX9_judge_20 : decode cX9_judge 20 = .ok (.aaload, 1) := by decide +kernel
theorem dX9_judge_21 : decode cX9_judge 21 = .ok (.aload_n 0, 1) := by decide +kernel
theorem dX9_judge_22 : decode cX9_judge 22 = .ok (.invokevirtual 211, 3) := by decide +kernel
theorem dX9_judge_25 : decode cX9_judge 25 = .ok (.iload_n 2, 1) := by decide +kernel
theorem dX9_judge_26 : decode cX9_judge 26 = .ok (.invokevirtual 287, 3) := by decide +kernel
theorem dX9_judge_29 : decode cX9_judge 29 = .ok (.ireturn, 1) := by decide +kernel
theorem dX9_which_0 : decode cX9_which 0 = .ok (.aload_n 0, 1) := by decide +kernel
theorem dX9_which_1 : decode cX9_which 1 = .ok (.iload_n 1, 1) := by decide +kernel
theorem dX9_which_2 : decode cX9_which 2 = .ok (.iconst 0, 1) := by decide +kernel
theorem dX9_which_3 : decode cX9_which 3 = .ok (.invokevirtual 283, 3) := by decide +kernel
theorem dX9_which_6 : decode cX9_which 6 = .ok (.ifCond .eq 7, 3) := by decide +kernel
theorem dX9_which_9 : decode cX9_which 9 = .ok (.ldc2_w 124, 3) := by decide +kernel
theorem dX9_which_12 : decode cX9_which 12 = .ok (.lreturn, 1) := by decide +kernel
theorem dX9_which_13 : decode cX9_which 13 = .ok (.lconst 0, 1) := by decide +kernel
theorem dX9_which_14 : decode cX9_which 14 = .ok (.lstore_n 2, 1) := by decide +kernel
theorem dX9_which_15 : decode cX9_which 15 = .ok (.iconst 0, 1) := by decide +kernel
theorem dX9_which_16 : decode cX9_which 16 = .ok (.istore 4, 2) := by decide +kernel
theorem dX9_which_18 : decode cX9_which 18 = .ok (.iload 4, 2) := by decide +kernel
theorem dX9_which_20 : decode cX9_which 20 = .ok (.bipush 36, 2) := by decide +kernel
theorem dX9_which_22 : decode cX9_which 22 = .ok (.if_icmp .ge 35, 3) := by decide +kernel
theorem dX9_which_25 : decode cX9_which 25 = .ok (.aload_n 0, 1) := by decide +kernel
theorem dX9_which_26 : decode cX9_which 26 = .ok (.getfield 69, 3) := by decide +kernel
theorem dX9_which_29 : decode cX9_which 29 = .ok (.iload_n 1, 1) := by decide +kernel
theorem dX9_which_30 : decode cX9_which 30 = .ok (.aaload, 1) := by decide +kernel
theorem dX9_which_31 : decode cX9_which 31 = .ok (.aload_n 0, 1) := by decide +kernel
theorem dX9_which_32 : decode cX9_which 32 = .ok (.invokevirtual 211, 3) := by decide +kernel
theorem dX9_which_35 : decode cX9_which 35 = .ok (.iload 4, 2) := by decide +kernel
theorem dX9_which_37 : decode cX9_which 37 = .ok (.invokevirtual 287, 3) := by decide +kernel
theorem dX9_which_40 : decode cX9_which 40 = .ok (.iconst (-1), 1) := by decide +kernel
theorem dX9_which_41 : decode cX9_which 41 = .ok (.if_icmp .ne 10, 3) := by decide +kernel
theorem dX9_which_44 : decode cX9_which 44 = .ok (.lload_n 2, 1) := by decide +kernel
theorem dX9_which_45 : decode cX9_which 45 = .ok (.lconst 1, 1) := by decide +kernel
theorem dX9_which_46 : decode cX9_which 46 = .ok (.iload 4, 2) := by decide +kernel
theorem dX9_which_48 : decode cX9_which 48 = .ok (.lshl, 1) := by decide +kernel
theorem dX9_which_49 : decode cX9_which 49 = .ok (.lor, 1) := by decide +kernel
theorem dX9_which_50 : decode cX9_which 50 = .ok (.lstore_n 2, 1) := by decide +kernel
theorem dX9_which_51 : decode cX9_which 51 = .ok (.iinc 4 1, 3) := by decide +kernel
theorem dX9_which_54 : decode cX9_which 54 = .ok (.goto (-36), 3) := by decide +kernel
theorem dX9_which_57 : decode cX9_which 57 = .ok (.lload_n 2, 1) := by decide +kernel
theorem dX9_which_58 : decode cX9_which 58 = .ok (.lreturn, 1) := by decide +kernel
theorem dX9_laws_0 : decode cX9_laws 0 = .ok (.aload_n 0, 1) := by decide +kernel
theorem dX9_laws_1 : decode cX9_laws 1 = .ok (.iload_n 1, 1) := by decide +kernel
theorem dX9_laws_2 : decode cX9_laws 2 = .ok (.iload_n 2, 1) := by decide +kernel
theorem dX9_laws_3 : decode cX9_laws 3 = .ok (.invokevirtual 283, 3) := by decide +kernel
theorem dX9_laws_6 : decode cX9_laws 6 = .ok (.istore_n 3, 1) := by decide +kernel
theorem dX9_laws_7 : decode cX9_laws 7 = .ok (.iload_n 3, 1) := by decide +kernel
theorem dX9_laws_8 : decode cX9_laws 8 = .ok (.ifCond .eq 5, 3) := by decide +kernel
theorem dX9_laws_11 : decode cX9_laws 11 = .ok (.iload_n 3, 1) := by decide +kernel
theorem dX9_laws_12 : decode cX9_laws 12 = .ok (.ireturn, 1) := by decide +kernel
theorem dX9_laws_13 : decode cX9_laws 13 = .ok (.iconst 0, 1) := by decide +kernel
theorem dX9_laws_14 : decode cX9_laws 14 = .ok (.istore 4, 2) := by decide +kernel
theorem dX9_laws_16 : decode cX9_laws 16 = .ok (.iconst 0, 1) := by decide +kernel
theorem dX9_laws_17 : decode cX9_laws 17 = .ok (.istore 5, 2) := by decide +kernel
theorem dX9_laws_19 : decode cX9_laws 19 = .ok (.iload 5, 2) := by decide +kernel
theorem dX9_laws_21 : decode cX9_laws 21 = .ok (.aload_n 0, 1) := by decide +kernel
theorem dX9_laws_22 : decode cX9_laws 22 = .ok (.getfield 33, 3) := by decide +kernel
theorem dX9_laws_25 : decode cX9_laws 25 = .ok (.getfield 149, 3) := by decide +kernel
theorem dX9_laws_28 : decode cX9_laws 28 = .ok (.if_icmp .ge 48, 3) := by decide +kernel
theorem dX9_laws_31 : decode cX9_laws 31 = .ok (.aload_n 0, 1) := by decide +kernel
theorem dX9_laws_32 : decode cX9_laws 32 = .ok (.getfield 42, 3) := by decide +kernel
theorem dX9_laws_35 : decode cX9_laws 35 = .ok (.iload 5, 2) := by decide +kernel
theorem dX9_laws_37 : decode cX9_laws 37 = .ok (.invokevirtual 291, 3) := by decide +kernel
theorem dX9_laws_40 : decode cX9_laws 40 = .ok (.aload_n 0, 1) := by decide +kernel
theorem dX9_laws_41 : decode cX9_laws 41 = .ok (.getfield 69, 3) := by decide +kernel
theorem dX9_laws_44 : decode cX9_laws 44 = .ok (.iload_n 1, 1) := by decide +kernel
theorem dX9_laws_45 : decode cX9_laws 45 = .ok (.aaload, 1) := by decide +kernel
theorem dX9_laws_46 : decode cX9_laws 46 = .ok (.aload_n 0, 1) := by decide +kernel
theorem dX9_laws_47 : decode cX9_laws 47 = .ok (.getfield 42, 3) := by decide +kernel
theorem dX9_laws_50 : decode cX9_laws 50 = .ok (.getfield 269, 3) := by decide +kernel
theorem dX9_laws_53 : decode cX9_laws 53 = .ok (.iload_n 2, 1) := by decide +kernel
theorem dX9_laws_54 : decode cX9_laws 54 = .ok (.invokevirtual 287, 3) := by decide +kernel
theorem dX9_laws_57 : decode cX9_laws 57 = .ok (.iconst (-1), 1) := by decide +kernel
theorem dX9_laws_58 : decode cX9_laws 58 = .ok (.if_icmp .ne 12, 3) := by decide +kernel
theorem dX9_laws_61 : decode cX9_laws 61 = .ok (.iload 4, 2) := by decide +kernel
theorem dX9_laws_63 : decode cX9_laws 63 = .ok (.iconst 1, 1) := by decide +kernel
theorem dX9_laws_64 : decode cX9_laws 64 = .ok (.iload 5, 2) := by decide +kernel
theorem dX9_laws_66 : decode cX9_laws 66 = .ok (.ishl, 1) := by decide +kernel
theorem dX9_laws_67 : decode cX9_laws 67 = .ok (.ior, 1) := by decide +kernel
theorem dX9_laws_68 : decode cX9_laws 68 = .ok (.istore 4, 2) := by decide +kernel
theorem dX9_laws_70 : decode cX9_laws 70 = .ok (.iinc 5 1, 3) := by decide +kernel
theorem dX9_laws_73 : decode cX9_laws 73 = .ok (.goto (-54), 3) := by decide +kernel
theorem dX9_laws_76 : decode cX9_laws 76 = .ok (.iload 4, 2) := by decide +kernel
theorem dX9_laws_78 : decode cX9_laws 78 = .ok (.ireturn, 1) := by decide +kernel
theorem dX9_gone_0 : decode cX9_gone 0 = .ok (.aload_n 0, 1) := by decide +kernel
theorem dX9_gone_1 : decode cX9_gone 1 = .ok (.iload_n 1, 1) := by decide +kernel
theorem dX9_gone_2 : decode cX9_gone 2 = .ok (.iload_n 2, 1) := by decide +kernel
theorem dX9_gone_3 : decode cX9_gone 3 = .ok (.invokevirtual 283, 3) := by decide +kernel
theorem dX9_gone_6 : decode cX9_gone 6 = .ok (.ifCond .eq 5, 3) := by decide +kernel
theorem dX9_gone_9 : decode cX9_gone 9 = .ok (.iconst 0, 1) := by decide +kernel
theorem dX9_gone_10 : decode cX9_gone 10 = .ok (.ireturn, 1) := by decide +kernel
theorem dX9_gone_11 : decode cX9_gone 11 = .ok (.aload_n 0, 1) := by decide +kernel
theorem dX9_gone_12 : decode cX9_gone 12 = .ok (.getfield 42, 3) := by decide +kernel
theorem dX9_gone_15 : decode cX9_gone 15 = .ok (.invokevirtual 234, 3) := by decide +kernel
theorem dX9_gone_18 : decode cX9_gone 18 = .ok (.iconst 0, 1) := by decide +kernel
theorem dX9_gone_19 : decode cX9_gone 19 = .ok (.istore_n 3, 1) := by decide +kernel
theorem dX9_gone_20 : decode cX9_gone 20 = .ok (.iconst 0, 1) := by decide +kernel
theorem dX9_gone_21 : decode cX9_gone 21 = .ok (.istore 4, 2) := by decide +kernel
theorem dX9_gone_23 : decode cX9_gone 23 = .ok (.iload 4, 2) := by decide +kernel
theorem dX9_gone_25 : decode cX9_gone 25 = .ok (.iconst 1, 1) := by decide +kernel
theorem dX9_gone_26 : decode cX9_gone 26 = .ok (.aload_n 0, 1) := by decide +kernel
theorem dX9_gone_27 : decode cX9_gone 27 = .ok (.getfield 19, 3) := by decide +kernel
theorem dX9_gone_30 : decode cX9_gone 30 = .ok (.getfield 113, 3) := by decide +kernel
theorem dX9_gone_33 : decode cX9_gone 33 = .ok (.ishl, 1) := by decide +kernel
theorem dX9_gone_34 : decode cX9_gone 34 = .ok (.if_icmp .ge 46, 3) := by decide +kernel
theorem dX9_gone_37 : decode cX9_gone 37 = .ok (.aload_n 0, 1) := by decide +kernel
theorem dX9_gone_38 : decode cX9_gone 38 = .ok (.getfield 42, 3) := by decide +kernel
theorem dX9_gone_41 : decode cX9_gone 41 = .ok (.iload 4, 2) := by decide +kernel
theorem dX9_gone_43 : decode cX9_gone 43 = .ok (.invokevirtual 280, 3) := by decide +kernel
theorem dX9_gone_46 : decode cX9_gone 46 = .ok (.aload_n 0, 1) := by decide +kernel
theorem dX9_gone_47 : decode cX9_gone 47 = .ok (.getfield 69, 3) := by decide +kernel
theorem dX9_gone_50 : decode cX9_gone 50 = .ok (.iload_n 1, 1) := by decide +kernel
theorem dX9_gone_51 : decode cX9_gone 51 = .ok (.aaload, 1) := by decide +kernel
theorem dX9_gone_52 : decode cX9_gone 52 = .ok (.aload_n 0, 1) := by decide +kernel
theorem dX9_gone_53 : decode cX9_gone 53 = .ok (.getfield 42, 3) := by decide +kernel
theorem dX9_gone_56 : decode cX9_gone 56 = .ok (.getfield 269, 3) := by decide +kernel
theorem dX9_gone_59 : decode cX9_gone 59 = .ok (.iload_n 2, 1) := by decide +kernel
theorem dX9_gone_60 : decode cX9_gone 60 = .ok (.invokevirtual 287, 3) := by decide +kernel
theorem dX9_gone_63 : decode cX9_gone 63 = .ok (.iconst (-1), 1) := by decide +kernel
theorem dX9_gone_64 : decode cX9_gone 64 = .ok (.if_icmp .ne 10, 3) := by decide +kernel
theorem dX9_gone_67 : decode cX9_gone 67 = .ok (.iload_n 3, 1) := by decide +kernel
theorem dX9_gone_68 : decode cX9_gone 68 = .ok (.iconst 1, 1) := by decide +kernel
theorem dX9_gone_69 : decode cX9_gone 69 = .ok (.iload 4, 2) := by decide +kernel
theorem dX9_gone_71 : decode cX9_gone 71 = .ok (.ishl, 1) := by decide +kernel
theorem dX9_gone_72 : decode cX9_gone 72 = .ok (.ior, 1) := by decide +kernel
theorem dX9_gone_73 : decode cX9_gone 73 = .ok (.istore_n 3, 1) := by decide +kernel
theorem dX9_gone_74 : decode cX9_gone 74 = .ok (.iinc 4 1, 3) := by decide +kernel
theorem dX9_gone_77 : decode cX9_gone 77 = .ok (.goto (-54), 3) := by decide +kernel
theorem dX9_gone_80 : decode cX9_gone 80 = .ok (.iload_n 3, 1) := by decide +kernel
theorem dX9_gone_81 : decode cX9_gone 81 = .ok (.ireturn, 1) := by decide +kernel
theorem dX9_film_0 : decode cX9_film 0 = .ok (.iload_n 1, 1) := by decide +kernel
theorem dX9_film_1 : decode cX9_film 1 = .ok (.invokestatic 294, 3) := by decide +kernel
theorem dX9_film_4 : decode cX9_film 4 = .ok (.ifCond .ne 6, 3) := by decide +kernel
theorem dX9_film_7 : decode cX9_film 7 = .ok (.bipush (-2), 2) := by decide +kernel
theorem dX9_film_9 : decode cX9_film 9 = .ok (.ireturn, 1) := by decide +kernel
theorem dX9_film_10 : decode cX9_film 10 = .ok (.iload_n 2, 1) := by decide +kernel
theorem dX9_film_11 : decode cX9_film 11 = .ok (.invokestatic 134, 3) := by decide +kernel
theorem dX9_film_14 : decode cX9_film 14 = .ok (.ifCond .ne 6, 3) := by decide +kernel
theorem dX9_film_17 : decode cX9_film 17 = .ok (.bipush (-5), 2) := by decide +kernel
theorem dX9_film_19 : decode cX9_film 19 = .ok (.ireturn, 1) := by decide +kernel
theorem dX9_film_20 : decode cX9_film 20 = .ok (.aload_n 0, 1) := by decide +kernel
theorem dX9_film_21 : decode cX9_film 21 = .ok (.invokevirtual 211, 3) := by decide +kernel
theorem dX9_film_24 : decode cX9_film 24 = .ok (.astore_n 3, 1) := by decide +kernel
theorem dX9_film_25 : decode cX9_film 25 = .ok (.aload_n 0, 1) := by decide +kernel
theorem dX9_film_26 : decode cX9_film 26 = .ok (.getfield 69, 3) := by decide +kernel
theorem dX9_film_29 : decode cX9_film 29 = .ok (.iload_n 1, 1) := by decide +kernel
theorem dX9_film_30 : decode cX9_film 30 = .ok (.aaload, 1) := by decide +kernel
theorem dX9_film_31 : decode cX9_film 31 = .ok (.iconst 2, 1) := by decide +kernel
theorem dX9_film_32 : decode cX9_film 32 = .ok (.bipush 24, 2) := by decide +kernel
theorem dX9_film_34 : decode cX9_film 34 = .ok (.invokevirtual 297, 3) := by decide +kernel
theorem dX9_film_37 : decode cX9_film 37 = .ok (.iconst 0, 1) := by decide +kernel
theorem dX9_film_38 : decode cX9_film 38 = .ok (.istore 4, 2) := by decide +kernel
theorem dX9_film_40 : decode cX9_film 40 = .ok (.iload 4, 2) := by decide +kernel
theorem dX9_film_42 : decode cX9_film 42 = .ok (.bipush 24, 2) := by decide +kernel
theorem dX9_film_44 : decode cX9_film 44 = .ok (.if_icmp .ge 37, 3) := by decide +kernel
theorem dX9_film_47 : decode cX9_film 47 = .ok (.aload_n 0, 1) := by decide +kernel
theorem dX9_film_48 : decode cX9_film 48 = .ok (.getfield 69, 3) := by decide +kernel
theorem dX9_film_51 : decode cX9_film 51 = .ok (.iload_n 1, 1) := by decide +kernel
theorem dX9_film_52 : decode cX9_film 52 = .ok (.aaload, 1) := by decide +kernel
theorem dX9_film_53 : decode cX9_film 53 = .ok (.getfield 300, 3) := by decide +kernel
theorem dX9_film_56 : decode cX9_film 56 = .ok (.iload 4, 2) := by decide +kernel
theorem dX9_film_58 : decode cX9_film 58 = .ok (.aload_n 3, 1) := by decide +kernel
theorem dX9_film_59 : decode cX9_film 59 = .ok (.iload 4, 2) := by decide +kernel
theorem dX9_film_61 : decode cX9_film 61 = .ok (.laload, 1) := by decide +kernel
theorem dX9_film_62 : decode cX9_film 62 = .ok (.iload_n 2, 1) := by decide +kernel
theorem dX9_film_63 : decode cX9_film 63 = .ok (.invokestatic 137, 3) := by decide +kernel
theorem dX9_film_66 : decode cX9_film 66 = .ok (.ifCond .eq 7, 3) := by decide +kernel
theorem dX9_film_69 : decode cX9_film 69 = .ok (.iconst 1, 1) := by decide +kernel
theorem dX9_film_70 : decode cX9_film 70 = .ok (.goto 4, 3) := by decide +kernel
theorem dX9_film_73 : decode cX9_film 73 = .ok (.iconst 0, 1) := by decide +kernel
theorem dX9_film_74 : decode cX9_film 74 = .ok (.iastore, 1) := by decide +kernel
theorem dX9_film_75 : decode cX9_film 75 = .ok (.iinc 4 1, 3) := by decide +kernel
theorem dX9_film_78 : decode cX9_film 78 = .ok (.goto (-38), 3) := by decide +kernel
theorem dX9_film_81 : decode cX9_film 81 = .ok (.bipush 24, 2) := by decide +kernel
theorem dX9_film_83 : decode cX9_film 83 = .ok (.ireturn, 1) := by decide +kernel
theorem dX9_refusalOfTold_0 : decode cX9_refusalOfTold 0 = .ok (.iload_n 1, 1) := by decide +kernel
theorem dX9_refusalOfTold_1 : decode cX9_refusalOfTold 1 = .ok (.invokestatic 294, 3) := by decide +kernel
theorem dX9_refusalOfTold_4 : decode cX9_refusalOfTold 4 = .ok (.ifCond .ne 6, 3) := by decide +kernel
theorem dX9_refusalOfTold_7 : decode cX9_refusalOfTold 7 = .ok (.bipush (-2), 2) := by decide +kernel
theorem dX9_refusalOfTold_9 : decode cX9_refusalOfTold 9 = .ok (.ireturn, 1) := by decide +kernel
theorem dX9_refusalOfTold_10 : decode cX9_refusalOfTold 10 = .ok (.aload_n 0, 1) := by decide +kernel
theorem dX9_refusalOfTold_11 : decode cX9_refusalOfTold 11 = .ok (.getfield 69, 3) := by decide +kernel
theorem dX9_refusalOfTold_14 : decode cX9_refusalOfTold 14 = .ok (.iload_n 1, 1) := by decide +kernel
theorem dX9_refusalOfTold_15 : decode cX9_refusalOfTold 15 = .ok (.aaload, 1) := by decide +kernel
theorem dX9_refusalOfTold_16 : decode cX9_refusalOfTold 16 = .ok (.getfield 303, 3) := by decide +kernel
theorem dX9_refusalOfTold_19 : decode cX9_refusalOfTold 19 = .ok (.iconst (-1), 1) := by decide +kernel
theorem dX9_refusalOfTold_20 : decode cX9_refusalOfTold 20 = .ok (.if_icmp .ne 6, 3) := by decide +kernel
theorem dX9_refusalOfTold_23 : decode cX9_refusalOfTold 23 = .ok (.bipush (-11), 2) := by decide +kernel
theorem dX9_refusalOfTold_25 : decode cX9_refusalOfTold 25 = .ok (.ireturn, 1) := by decide +kernel
theorem dX9_refusalOfTold_26 : decode cX9_refusalOfTold 26 = .ok (.aload_n 0, 1) := by decide +kernel
theorem dX9_refusalOfTold_27 : decode cX9_refusalOfTold 27 = .ok (.getfield 69, 3) := by decide +kernel
theorem dX9_refusalOfTold_30 : decode cX9_refusalOfTold 30 = .ok (.iload_n 1, 1) := by decide +kernel
theorem dX9_refusalOfTold_31 : decode cX9_refusalOfTold 31 = .ok (.aaload, 1) := by decide +kernel
theorem dX9_refusalOfTold_32 : decode cX9_refusalOfTold 32 = .ok (.getfield 306, 3) := by decide +kernel
theorem dX9_refusalOfTold_35 : decode cX9_refusalOfTold 35 = .ok (.bipush 24, 2) := by decide +kernel
theorem dX9_refusalOfTold_37 : decode cX9_refusalOfTold 37 = .ok (.if_icmp .eq 6, 3) := by decide +kernel
theorem dX9_refusalOfTold_40 : decode cX9_refusalOfTold 40 = .ok (.bipush (-2), 2) := by decide +kernel
theorem dX9_refusalOfTold_42 : decode cX9_refusalOfTold 42 = .ok (.ireturn, 1) := by decide +kernel
theorem dX9_refusalOfTold_43 : decode cX9_refusalOfTold 43 = .ok (.iload_n 2, 1) := by decide +kernel
theorem dX9_refusalOfTold_44 : decode cX9_refusalOfTold 44 = .ok (.invokestatic 134, 3) := by decide +kernel
theorem dX9_refusalOfTold_47 : decode cX9_refusalOfTold 47 = .ok (.ifCond .eq 7, 3) := by decide +kernel
theorem dX9_refusalOfTold_50 : decode cX9_refusalOfTold 50 = .ok (.iconst 0, 1) := by decide +kernel
theorem dX9_refusalOfTold_51 : decode cX9_refusalOfTold 51 = .ok (.goto 5, 3) := by decide +kernel
theorem dX9_refusalOfTold_54 : decode cX9_refusalOfTold 54 = .ok (.bipush (-5), 2) := by decide +kernel
theorem dX9_refusalOfTold_56 : decode cX9_refusalOfTold 56 = .ok (.ireturn, 1) := by decide +kernel
theorem dX9_drawn_0 : decode cX9_drawn 0 = .ok (.iload_n 1, 1) := by decide +kernel
theorem dX9_drawn_1 : decode cX9_drawn 1 = .ok (.ldc_w 307, 3) := by decide +kernel
theorem dX9_drawn_4 : decode cX9_drawn 4 = .ok (.invokestatic 107, 3) := by decide +kernel
theorem dX9_drawn_7 : decode cX9_drawn 7 = .ok (.ifCond .ne 6, 3) := by decide +kernel
theorem dX9_drawn_10 : decode cX9_drawn 10 = .ok (.bipush (-2), 2) := by decide +kernel
theorem dX9_drawn_12 : decode cX9_drawn 12 = .ok (.ireturn, 1) := by decide +kernel
theorem dX9_drawn_13 : decode cX9_drawn 13 = .ok (.aload_n 0, 1) := by decide +kernel
theorem dX9_drawn_14 : decode cX9_drawn 14 = .ok (.getfield 42, 3) := by decide +kernel
theorem dX9_drawn_17 : decode cX9_drawn 17 = .ok (.iload_n 1, 1) := by decide +kernel
theorem dX9_drawn_18 : decode cX9_drawn 18 = .ok (.invokevirtual 308, 3) := by decide +kernel
theorem dX9_drawn_21 : decode cX9_drawn 21 = .ok (.aload_n 0, 1) := by decide +kernel
theorem dX9_drawn_22 : decode cX9_drawn 22 = .ok (.getfield 49, 3) := by decide +kernel
theorem dX9_drawn_25 : decode cX9_drawn 25 = .ok (.aload_n 0, 1) := by decide +kernel
theorem dX9_drawn_26 : decode cX9_drawn 26 = .ok (.getfield 42, 3) := by decide +kernel
theorem dX9_drawn_29 : decode cX9_drawn 29 = .ok (.getfield 269, 3) := by decide +kernel
theorem dX9_drawn_32 : decode cX9_drawn 32 = .ok (.aload_n 0, 1) := by decide +kernel
theorem dX9_drawn_33 : decode cX9_drawn 33 = .ok (.getfield 12, 3) := by decide +kernel
theorem dX9_drawn_36 : decode cX9_drawn 36 = .ok (.invokevirtual 223, 3) := by decide +kernel
theorem dX9_drawn_39 : decode cX9_drawn 39 = .ok (.invokevirtual 215, 3) := by decide +kernel
theorem dX9_drawn_42 : decode cX9_drawn 42 = .ok (.ireturn, 1) := by decide +kernel
theorem dX9_mean_0 : decode cX9_mean 0 = .ok (.iload_n 1, 1) := by decide +kernel
theorem dX9_mean_1 : decode cX9_mean 1 = .ok (.ldc_w 307, 3) := by decide +kernel
theorem dX9_mean_4 : decode cX9_mean 4 = .ok (.invokestatic 107, 3) := by decide +kernel
theorem dX9_mean_7 : decode cX9_mean 7 = .ok (.ifCond .eq 22, 3) := by decide +kernel
theorem dX9_mean_10 : decode cX9_mean 10 = .ok (.iload_n 2, 1) := by decide +kernel
theorem dX9_mean_11 : decode cX9_mean 11 = .ok (.iconst 1, 1) := by decide +kernel
theorem dX9_mean_12 : decode cX9_mean 12 = .ok (.if_icmp .lt 17, 3) := by decide +kernel
theorem dX9_mean_15 : decode cX9_mean 15 = .ok (.iload_n 2, 1) := by decide +kernel
theorem dX9_mean_16 : decode cX9_mean 16 = .ok (.bipush 12, 2) := by decide +kernel
theorem dX9_mean_18 : decode cX9_mean 18 = .ok (.if_icmp .gt 11, 3) := by decide +kernel
theorem dX9_mean_21 : decode cX9_mean 21 = .ok (.iload_n 3, 1) := by decide +kernel
theorem dX9_mean_22 : decode cX9_mean 22 = .ok (.iconst 1, 1) := by decide +kernel
theorem dX9_mean_23 : decode cX9_mean 23 = .ok (.invokestatic 107, 3) := by decide +kernel
theorem dX9_mean_26 : decode cX9_mean 26 = .ok (.ifCond .ne 7, 3) := by decide +kernel
theorem dX9_mean_29 : decode cX9_mean 29 = .ok (.ldc2_w 124, 3) := by decide +kernel
theorem dX9_mean_32 : decode cX9_mean 32 = .ok (.lreturn, 1) := by decide +kernel
theorem dX9_mean_33 : decode cX9_mean 33 = .ok (.iconst 0, 1) := by decide +kernel
theorem dX9_mean_34 : decode cX9_mean 34 = .ok (.istore 4, 2) := by decide +kernel
theorem dX9_mean_36 : decode cX9_mean 36 = .ok (.iconst 0, 1) := by decide +kernel
theorem dX9_mean_37 : decode cX9_mean 37 = .ok (.istore 5, 2) := by decide +kernel
theorem dX9_mean_39 : decode cX9_mean 39 = .ok (.iload 5, 2) := by decide +kernel
theorem dX9_mean_41 : decode cX9_mean 41 = .ok (.iload_n 2, 1) := by decide +kernel
theorem dX9_mean_42 : decode cX9_mean 42 = .ok (.if_icmp .ge 46, 3) := by decide +kernel
theorem dX9_mean_45 : decode cX9_mean 45 = .ok (.aload_n 0, 1) := by decide +kernel
theorem dX9_mean_46 : decode cX9_mean 46 = .ok (.getfield 42, 3) := by decide +kernel
theorem dX9_mean_49 : decode cX9_mean 49 = .ok (.iload_n 1, 1) := by decide +kernel
theorem dX9_mean_50 : decode cX9_mean 50 = .ok (.iload 5, 2) := by decide +kernel
theorem dX9_mean_52 : decode cX9_mean 52 = .ok (.iadd, 1) := by decide +kernel
theorem dX9_mean_53 : decode cX9_mean 53 = .ok (.invokevirtual 308, 3) := by decide +kernel
theorem dX9_mean_56 : decode cX9_mean 56 = .ok (.iload 4, 2) := by decide +kernel
theorem dX9_mean_58 : decode cX9_mean 58 = .ok (.aload_n 0, 1) := by decide +kernel
theorem dX9_mean_59 : decode cX9_mean 59 = .ok (.getfield 49, 3) := by decide +kernel
theorem dX9_mean_62 : decode cX9_mean 62 = .ok (.aload_n 0, 1) := by decide +kernel
theorem dX9_mean_63 : decode cX9_mean 63 = .ok (.getfield 42, 3) := by decide +kernel
theorem dX9_mean_66 : decode cX9_mean 66 = .ok (.getfield 269, 3) := by decide +kernel
theorem dX9_mean_69 : decode cX9_mean 69 = .ok (.aload_n 0, 1) := by decide +kernel
theorem dX9_mean_70 : decode cX9_mean 70 = .ok (.getfield 12, 3) := by decide +kernel
theorem dX9_mean_73 : decode cX9_mean 73 = .ok (.invokevirtual 223, 3) := by decide +kernel
theorem dX9_mean_76 : decode cX9_mean 76 = .ok (.invokevirtual 215, 3) := by decide +kernel
theorem dX9_mean_79 : decode cX9_mean 79 = .ok (.iadd, 1) := by decide +kernel
theorem dX9_mean_80 : decode cX9_mean 80 = .ok (.istore 4, 2) := by decide +kernel
theorem dX9_mean_82 : decode cX9_mean 82 = .ok (.iinc 5 1, 3) := by decide +kernel
theorem dX9_mean_85 : decode cX9_mean 85 = .ok (.goto (-46), 3) := by decide +kernel
theorem dX9_mean_88 : decode cX9_mean 88 = .ok (.iconst 1, 1) := by decide +kernel
theorem dX9_mean_89 : decode cX9_mean 89 = .ok (.istore 5, 2) := by decide +kernel
theorem dX9_mean_91 : decode cX9_mean 91 = .ok (.iconst 2, 1) := by decide +kernel
theorem dX9_mean_92 : decode cX9_mean 92 = .ok (.istore 6, 2) := by decide +kernel
theorem dX9_mean_94 : decode cX9_mean 94 = .ok (.iload 6, 2) := by decide +kernel
theorem dX9_mean_96 : decode cX9_mean 96 = .ok (.iload_n 2, 1) := by decide +kernel
theorem dX9_mean_97 : decode cX9_mean 97 = .ok (.if_icmp .gt 28, 3) := by decide +kernel
theorem dX9_mean_100 : decode cX9_mean 100 = .ok (.iload 4, 2) := by decide +kernel
theorem dX9_mean_102 : decode cX9_mean 102 = .ok (.iload 6, 2) := by decide +kernel
theorem dX9_mean_104 : decode cX9_mean 104 = .ok (.irem, 1) := by decide +kernel
theorem dX9_mean_105 : decode cX9_mean 105 = .ok (.ifCond .ne 14, 3) := by decide +kernel
theorem dX9_mean_108 : decode cX9_mean 108 = .ok (.iload_n 2, 1) := by decide +kernel
theorem dX9_mean_109 : decode cX9_mean 109 = .ok (.iload 6, 2) := by decide +kernel
theorem dX9_mean_111 : decode cX9_mean 111 = .ok (.irem, 1) := by decide +kernel
theorem dX9_mean_112 : decode cX9_mean 112 = .ok (.ifCond .ne 7, 3) := by decide +kernel
theorem dX9_mean_115 : decode cX9_mean 115 = .ok (.iload 6, 2) := by decide +kernel
theorem dX9_mean_117 : decode cX9_mean 117 = .ok (.istore 5, 2) := by decide +kernel
theorem dX9_mean_119 : decode cX9_mean 119 = .ok (.iinc 6 1, 3) := by decide +kernel
theorem dX9_mean_122 : decode cX9_mean 122 = .ok (.goto (-28), 3) := by decide +kernel
theorem dX9_mean_125 : decode cX9_mean 125 = .ok (.iload_n 3, 1) := by decide +kernel
theorem dX9_mean_126 : decode cX9_mean 126 = .ok (.ifCond .ne 8, 3) := by decide +kernel
theorem dX9_mean_129 : decode cX9_mean 129 = .ok (.iload 4, 2) := by decide +kernel
theorem dX9_mean_131 : decode cX9_mean 131 = .ok (.goto 4, 3) := by decide +kernel
theorem dX9_mean_134 : decode cX9_mean 134 = .ok (.iload_n 2, 1) := by decide +kernel
theorem dX9_mean_135 : decode cX9_mean 135 = .ok (.iload 5, 2) := by decide +kernel
theorem dX9_mean_137 : decode cX9_mean 137 = .ok (.idiv, 1) := by decide +kernel
theorem dX9_mean_138 : decode cX9_mean 138 = .ok (.i2l, 1) := by decide +kernel
theorem dX9_mean_139 : decode cX9_mean 139 = .ok (.lreturn, 1) := by decide +kernel
theorem dX9_image_0 : decode cX9_image 0 = .ok (.aload_n 0, 1) := by decide +kernel
theorem dX9_image_1 : decode cX9_image 1 = .ok (.getfield 63, 3) := by decide +kernel
theorem dX9_image_4 : decode cX9_image 4 = .ok (.aload_n 0, 1) := by decide +kernel
theorem dX9_image_5 : decode cX9_image 5 = .ok (.getfield 12, 3) := by decide +kernel
theorem dX9_image_8 : decode cX9_image 8 = .ok (.aload_n 0, 1) := by decide +kernel
theorem dX9_image_9 : decode cX9_image 9 = .ok (.getfield 19, 3) := by decide +kernel
theorem dX9_image_12 : decode cX9_image 12 = .ok (.aload_n 0, 1) := by decide +kernel
theorem dX9_image_13 : decode cX9_image 13 = .ok (.getfield 33, 3) := by decide +kernel
theorem dX9_image_16 : decode cX9_image 16 = .ok (.getfield 150, 3) := by decide +kernel
theorem dX9_image_19 : decode cX9_image 19 = .ok (.invokevirtual 311, 3) := by decide +kernel
theorem dX9_image_22 : decode cX9_image 22 = .ok (.aload_n 0, 1) := by decide +kernel
theorem dX9_image_23 : decode cX9_image 23 = .ok (.getfield 19, 3) := by decide +kernel
theorem dX9_image_26 : decode cX9_image 26 = .ok (.getfield 113, 3) := by decide +kernel
theorem dX9_image_29 : decode cX9_image 29 = .ok (.ireturn, 1) := by decide +kernel
theorem dX9_back_0 : decode cX9_back 0 = .ok (.aload_n 0, 1) := by decide +kernel
theorem dX9_back_1 : decode cX9_back 1 = .ok (.getfield 63, 3) := by decide +kernel
theorem dX9_back_4 : decode cX9_back 4 = .ok (.getfield 315, 3) := by decide +kernel
theorem dX9_back_7 : decode cX9_back 7 = .ok (.ifCond .ne 6, 3) := by decide +kernel
theorem dX9_back_10 : decode cX9_back 10 = .ok (.bipush (-3), 2) := by decide +kernel
theorem dX9_back_12 : decode cX9_back 12 = .ok (.ireturn, 1) := by decide +kernel
theorem dX9_back_13 : decode cX9_back 13 = .ok (.aload_n 0, 1) := by decide +kernel
theorem dX9_back_14 : decode cX9_back 14 = .ok (.getfield 63, 3) := by decide +kernel
theorem dX9_back_17 : decode cX9_back 17 = .ok (.aload_n 0, 1) := by decide +kernel
theorem dX9_back_18 : decode cX9_back 18 = .ok (.getfield 12, 3) := by decide +kernel
theorem dX9_back_21 : decode cX9_back 21 = .ok (.aload_n 0, 1) := by decide +kernel
theorem dX9_back_22 : decode cX9_back 22 = .ok (.getfield 19, 3) := by decide +kernel
theorem dX9_back_25 : decode cX9_back 25 = .ok (.invokevirtual 318, 3) := by decide +kernel
theorem dX9_back_28 : decode cX9_back 28 = .ok (.aload_n 0, 1) := by decide +kernel
theorem dX9_back_29 : decode cX9_back 29 = .ok (.getfield 33, 3) := by decide +kernel
theorem dX9_back_32 : decode cX9_back 32 = .ok (.aload_n 0, 1) := by decide +kernel
theorem dX9_back_33 : decode cX9_back 33 = .ok (.getfield 63, 3) := by decide +kernel
theorem dX9_back_36 : decode cX9_back 36 = .ok (.getfield 322, 3) := by decide +kernel
theorem dX9_back_39 : decode cX9_back 39 = .ok (.putfield 150, 3) := by decide +kernel
theorem dX9_back_42 : decode cX9_back 42 = .ok (.aload_n 0, 1) := by decide +kernel
theorem dX9_back_43 : decode cX9_back 43 = .ok (.getfield 42, 3) := by decide +kernel
theorem dX9_back_46 : decode cX9_back 46 = .ok (.iconst 1, 1) := by decide +kernel
theorem dX9_back_47 : decode cX9_back 47 = .ok (.putfield 130, 3) := by decide +kernel
theorem dX9_back_50 : decode cX9_back 50 = .ok (.aload_n 0, 1) := by decide +kernel
theorem dX9_back_51 : decode cX9_back 51 = .ok (.getfield 19, 3) := by decide +kernel
theorem dX9_back_54 : decode cX9_back 54 = .ok (.getfield 113, 3) := by decide +kernel
theorem dX9_back_57 : decode cX9_back 57 = .ok (.ireturn, 1) := by decide +kernel
theorem dX9_sheet_0 : decode cX9_sheet 0 = .ok (.iload_n 1, 1) := by decide +kernel
theorem dX9_sheet_1 : decode cX9_sheet 1 = .ok (.invokestatic 294, 3) := by decide +kernel
theorem dX9_sheet_4 : decode cX9_sheet 4 = .ok (.ifCond .eq 13, 3) := by decide +kernel
theorem dX9_sheet_7 : decode cX9_sheet 7 = .ok (.iload_n 2, 1) := by decide +kernel
theorem dX9_sheet_8 : decode cX9_sheet 8 = .ok (.iconst (-1), 1) := by decide +kernel
theorem dX9_sheet_9 : decode cX9_sheet 9 = .ok (.if_icmp .lt 8, 3) := by decide +kernel
theorem dX9_sheet_12 : decode cX9_sheet 12 = .ok (.iload_n 2, 1) := by decide +kernel
theorem dX9_sheet_13 : decode cX9_sheet 13 = .ok (.iconst 2, 1) := by decide +kernel
theorem dX9_sheet_14 : decode cX9_sheet 14 = .ok (.if_icmp .le 6, 3) := by decide +kernel
theorem dX9_sheet_17 : decode cX9_sheet 17 = .ok (.bipush (-2), 2) := by decide +kernel
theorem dX9_sheet_19 : decode cX9_sheet 19 = .ok (.ireturn, 1) := by decide +kernel
theorem dX9_sheet_20 : decode cX9_sheet 20 = .ok (.iload_n 2, 1) := by decide +kernel
theorem dX9_sheet_21 : decode cX9_sheet 21 = .ok (.iconst (-1), 1) := by decide +kernel
theorem dX9_sheet_22 : decode cX9_sheet 22 = .ok (.if_icmp .eq 12, 3) := by decide +kernel
theorem dX9_sheet_25 : decode cX9_sheet 25 = .ok (.iload_n 3, 1) := by decide +kernel
theorem dX9_sheet_26 : decode cX9_sheet 26 = .ok (.bipush 40, 2) := by decide +kernel
theorem dX9_sheet_28 : decode cX9_sheet 28 = .ok (.if_icmp .le 6, 3) := by decide +kernel
theorem dX9_sheet_31 : decode cX9_sheet 31 = .ok (.bipush (-2), 2) := by decide +kernel
theorem dX9_sheet_33 : decode cX9_sheet 33 = .ok (.ireturn, 1) := by decide +kernel
theorem dX9_sheet_34 : decode cX9_sheet 34 = .ok (.iload_n 2, 1) := by decide +kernel
theorem dX9_sheet_35 : decode cX9_sheet 35 = .ok (.iconst (-1), 1) := by decide +kernel
theorem dX9_sheet_36 : decode cX9_sheet 36 = .ok (.if_icmp .eq 10, 3) := by decide +kernel
theorem dX9_sheet_39 : decode cX9_sheet 39 = .ok (.iload_n 3, 1) := by decide +kernel
theorem dX9_sheet_40 : decode cX9_sheet 40 = .ok (.ifCond .ge 6, 3) := by decide +kernel
theorem dX9_sheet_43 : decode cX9_sheet 43 = .ok (.bipush (-14), 2) := by decide +kernel
theorem dX9_sheet_45 : decode cX9_sheet 45 = .ok (.ireturn, 1) := by decide +kernel
theorem dX9_sheet_46 : decode cX9_sheet 46 = .ok (.aload_n 0, 1) := by decide +kernel
theorem dX9_sheet_47 : decode cX9_sheet 47 = .ok (.getfield 69, 3) := by decide +kernel
theorem dX9_sheet_50 : decode cX9_sheet 50 = .ok (.iload_n 1, 1) := by decide +kernel
theorem dX9_sheet_51 : decode cX9_sheet 51 = .ok (.aaload, 1) := by decide +kernel
theorem dX9_sheet_52 : decode cX9_sheet 52 = .ok (.iload_n 2, 1) := by decide +kernel
theorem dX9_sheet_53 : decode cX9_sheet 53 = .ok (.iload_n 2, 1) := by decide +kernel
theorem dX9_sheet_54 : decode cX9_sheet 54 = .ok (.iconst (-1), 1) := by decide +kernel
theorem dX9_sheet_55 : decode cX9_sheet 55 = .ok (.if_icmp .ne 7, 3) := by decide +kernel
theorem dX9_sheet_58 : decode cX9_sheet 58 = .ok (.iconst 0, 1) := by decide +kernel
theorem dX9_sheet_59 : decode cX9_sheet 59 = .ok (.goto 4, 3) := by decide +kernel
theorem dX9_sheet_62 : decode cX9_sheet 62 = .ok (.iload_n 3, 1) := by decide +kernel
theorem dX9_sheet_63 : decode cX9_sheet 63 = .ok (.invokevirtual 297, 3) := by decide +kernel
theorem dX9_sheet_66 : decode cX9_sheet 66 = .ok (.iconst 1, 1) := by decide +kernel
theorem dX9_sheet_67 : decode cX9_sheet 67 = .ok (.ireturn, 1) := by decide +kernel
theorem dX9_cell_0 : decode cX9_cell 0 = .ok (.iload_n 1, 1) := by decide +kernel
theorem dX9_cell_1 : decode cX9_cell 1 = .ok (.invokestatic 294, 3) := by decide +kernel
theorem dX9_cell_4 : decode cX9_cell 4 = .ok (.ifCond .ne 6, 3) := by decide +kernel
theorem dX9_cell_7 : decode cX9_cell 7 = .ok (.bipush (-2), 2) := by decide +kernel
theorem dX9_cell_9 : decode cX9_cell 9 = .ok (.ireturn, 1) := by decide +kernel
theorem dX9_cell_10 : decode cX9_cell 10 = .ok (.aload_n 0, 1) := by decide +kernel
theorem dX9_cell_11 : decode cX9_cell 11 = .ok (.getfield 69, 3) := by decide +kernel
theorem dX9_cell_14 : decode cX9_cell 14 = .ok (.iload_n 1, 1) := by decide +kernel
theorem dX9_cell_15 : decode cX9_cell 15 = .ok (.aaload, 1) := by decide +kernel
theorem dX9_cell_16 : decode cX9_cell 16 = .ok (.astore 4, 2) := by decide +kernel
theorem dX9_cell_18 : decode cX9_cell 18 = .ok (.aload 4, 2) := by decide +kernel
theorem dX9_cell_20 : decode cX9_cell 20 = .ok (.getfield 303, 3) := by decide +kernel
theorem dX9_cell_23 : decode cX9_cell 23 = .ok (.iconst (-1), 1) := by decide +kernel
theorem dX9_cell_24 : decode cX9_cell 24 = .ok (.if_icmp .ne 6, 3) := by decide +kernel
theorem dX9_cell_27 : decode cX9_cell 27 = .ok (.bipush (-11), 2) := by decide +kernel
theorem dX9_cell_29 : decode cX9_cell 29 = .ok (.ireturn, 1) := by decide +kernel
theorem dX9_cell_30 : decode cX9_cell 30 = .ok (.iload_n 2, 1) := by decide +kernel
theorem dX9_cell_31 : decode cX9_cell 31 = .ok (.aload 4, 2) := by decide +kernel
theorem dX9_cell_33 : decode cX9_cell 33 = .ok (.getfield 306, 3) := by decide +kernel
theorem dX9_cell_36 : decode cX9_cell 36 = .ok (.iconst 1, 1) := by decide +kernel
theorem dX9_cell_37 : decode cX9_cell 37 = .ok (.isub, 1) := by decide +kernel
theorem dX9_cell_38 : decode cX9_cell 38 = .ok (.invokestatic 107, 3) := by decide +kernel
theorem dX9_cell_41 : decode cX9_cell 41 = .ok (.ifCond .ne 6, 3) := by decide +kernel
theorem dX9_cell_44 : decode cX9_cell 44 = .ok (.bipush (-12), 2) := by decide +kernel
theorem dX9_cell_46 : decode cX9_cell 46 = .ok (.ireturn, 1) := by decide +kernel
theorem dX9_cell_47 : decode cX9_cell 47 = .ok (.aload 4, 2) := by decide +kernel
theorem dX9_cell_49 : decode cX9_cell 49 = .ok (.getfield 300, 3) := by decide +kernel
theorem dX9_cell_52 : decode cX9_cell 52 = .ok (.iload_n 2, 1) := by decide +kernel
theorem dX9_cell_53 : decode cX9_cell 53 = .ok (.aload 4, 2) := by decide +kernel
theorem dX9_cell_55 : decode cX9_cell 55 = .ok (.getfield 303, 3) := by decide +kernel
theorem dX9_cell_58 : decode cX9_cell 58 = .ok (.ifCond .ne 8, 3) := by decide +kernel
theorem dX9_cell_61 : decode cX9_cell 61 = .ok (.iload_n 3, 1) := by decide +kernel
theorem dX9_cell_62 : decode cX9_cell 62 = .ok (.i2b, 1) := by decide +kernel
theorem dX9_cell_63 : decode cX9_cell 63 = .ok (.goto 18, 3) := by decide +kernel
theorem dX9_cell_66 : decode cX9_cell 66 = .ok (.aload 4, 2) := by decide +kernel
theorem dX9_cell_68 : decode cX9_cell 68 = .ok (.getfield 303, 3) := by decide +kernel
theorem dX9_cell_71 : decode cX9_cell 71 = .ok (.iconst 1, 1) := by decide +kernel
theorem dX9_cell_72 : decode cX9_cell 72 = .ok (.if_icmp .ne 8, 3) := by decide +kernel
theorem dX9_cell_75 : decode cX9_cell 75 = .ok (.iload_n 3, 1) := by decide +kernel
theorem dX9_cell_76 : decode cX9_cell 76 = .ok (.i2s, 1) := by decide +kernel
theorem dX9_cell_77 : decode cX9_cell 77 = .ok (.goto 4, 3) := by decide +kernel
theorem dX9_cell_80 : decode cX9_cell 80 = .ok (.iload_n 3, 1) := by decide +kernel
theorem dX9_cell_81 : decode cX9_cell 81 = .ok (.iastore, 1) := by decide +kernel
theorem dX9_cell_82 : decode cX9_cell 82 = .ok (.iconst 1, 1) := by decide +kernel
theorem dX9_cell_83 : decode cX9_cell 83 = .ok (.ireturn, 1) := by decide +kernel
theorem dX9_copy_0 : decode cX9_copy 0 = .ok (.iload_n 1, 1) := by decide +kernel
theorem dX9_copy_1 : decode cX9_copy 1 = .ok (.invokestatic 294, 3) := by decide +kernel
theorem dX9_copy_4 : decode cX9_copy 4 = .ok (.ifCond .eq 10, 3) := by decide +kernel
theorem dX9_copy_7 : decode cX9_copy 7 = .ok (.iload_n 3, 1) := by decide +kernel
theorem dX9_copy_8 : decode cX9_copy 8 = .ok (.invokestatic 294, 3) := by decide +kernel
theorem dX9_copy_11 : decode cX9_copy 11 = .ok (.ifCond .ne 6, 3) := by decide +kernel
theorem dX9_copy_14 : decode cX9_copy 14 = .ok (.bipush (-2), 2) := by decide +kernel
theorem dX9_copy_16 : decode cX9_copy 16 = .ok (.ireturn, 1) := by decide +kernel
theorem dX9_copy_17 : decode cX9_copy 17 = .ok (.aload_n 0, 1) := by decide +kernel
theorem dX9_copy_18 : decode cX9_copy 18 = .ok (.getfield 69, 3) := by decide +kernel
theorem dX9_copy_21 : decode cX9_copy 21 = .ok (.iload_n 1, 1) := by decide +kernel
theorem dX9_copy_22 : decode cX9_copy 22 = .ok (.aaload, 1) := by decide +kernel
theorem dX9_copy_23 : decode cX9_copy 23 = .ok (.astore 6, 2) := by decide +kernel
theorem dX9_copy_25 : decode cX9_copy 25 = .ok (.aload_n 0, 1) := by decide +kernel
theorem dX9_copy_26 : decode cX9_copy 26 = .ok (.getfield 69, 3) := by decide +kernel
theorem dX9_copy_29 : decode cX9_copy 29 = .ok (.iload_n 3, 1) := by decide +kernel
theorem dX9_copy_30 : decode cX9_copy 30 = .ok (.aaload, 1) := by decide +kernel
theorem dX9_copy_31 : decode cX9_copy 31 = .ok (.astore 7, 2) := by decide +kernel
theorem dX9_copy_33 : decode cX9_copy 33 = .ok (.aload 6, 2) := by decide +kernel
theorem dX9_copy_35 : decode cX9_copy 35 = .ok (.getfield 303, 3) := by decide +kernel
theorem dX9_copy_38 : decode cX9_copy 38 = .ok (.iconst (-1), 1) := by decide +kernel
theorem dX9_copy_39 : decode cX9_copy 39 = .ok (.if_icmp .eq 12, 3) := by decide +kernel
theorem dX9_copy_42 : decode cX9_copy 42 = .ok (.aload 7, 2) := by decide +kernel
theorem dX9_copy_44 : decode cX9_copy 44 = .ok (.getfield 303, 3) := by decide +kernel
theorem dX9_copy_47 : decode cX9_copy 47 = .ok (.iconst (-1), 1) := by decide +kernel
theorem dX9_copy_48 : decode cX9_copy 48 = .ok (.if_icmp .ne 6, 3) := by decide +kernel
theorem dX9_copy_51 : decode cX9_copy 51 = .ok (.bipush (-11), 2) := by decide +kernel
theorem dX9_copy_53 : decode cX9_copy 53 = .ok (.ireturn, 1) := by decide +kernel
theorem dX9_copy_54 : decode cX9_copy 54 = .ok (.aload 6, 2) := by decide +kernel
theorem dX9_copy_56 : decode cX9_copy 56 = .ok (.getfield 303, 3) := by decide +kernel
theorem dX9_copy_59 : decode cX9_copy 59 = .ok (.aload 7, 2) := by decide +kernel
theorem dX9_copy_61 : decode cX9_copy 61 = .ok (.getfield 303, 3) := by decide +kernel
theorem dX9_copy_64 : decode cX9_copy 64 = .ok (.if_icmp .eq 6, 3) := by decide +kernel
theorem dX9_copy_67 : decode cX9_copy 67 = .ok (.bipush (-13), 2) := by decide +kernel
theorem dX9_copy_69 : decode cX9_copy 69 = .ok (.ireturn, 1) := by decide +kernel
theorem dX9_copy_70 : decode cX9_copy 70 = .ok (.aload 6, 2) := by decide +kernel
theorem dX9_copy_72 : decode cX9_copy 72 = .ok (.iload_n 2, 1) := by decide +kernel
theorem dX9_copy_73 : decode cX9_copy 73 = .ok (.iload 5, 2) := by decide +kernel
theorem dX9_copy_75 : decode cX9_copy 75 = .ok (.invokevirtual 325, 3) := by decide +kernel
theorem dX9_copy_78 : decode cX9_copy 78 = .ok (.ifCond .eq 15, 3) := by decide +kernel
theorem dX9_copy_81 : decode cX9_copy 81 = .ok (.aload 7, 2) := by decide +kernel
theorem dX9_copy_83 : decode cX9_copy 83 = .ok (.iload 4, 2) := by decide +kernel
theorem dX9_copy_85 : decode cX9_copy 85 = .ok (.iload 5, 2) := by decide +kernel
theorem dX9_copy_87 : decode cX9_copy 87 = .ok (.invokevirtual 325, 3) := by decide +kernel
theorem dX9_copy_90 : decode cX9_copy 90 = .ok (.ifCond .ne 6, 3) := by decide +kernel
theorem dX9_copy_93 : decode cX9_copy 93 = .ok (.bipush (-12), 2) := by decide +kernel
theorem dX9_copy_95 : decode cX9_copy 95 = .ok (.ireturn, 1) := by decide +kernel
theorem dX9_copy_96 : decode cX9_copy 96 = .ok (.aload 6, 2) := by decide +kernel
theorem dX9_copy_98 : decode cX9_copy 98 = .ok (.getfield 300, 3) := by decide +kernel
theorem dX9_copy_101 : decode cX9_copy 101 = .ok (.iload_n 2, 1) := by decide +kernel
theorem dX9_copy_102 : decode cX9_copy 102 = .ok (.aload 7, 2) := by decide +kernel
theorem dX9_copy_104 : decode cX9_copy 104 = .ok (.getfield 300, 3) := by decide +kernel
theorem dX9_copy_107 : decode cX9_copy 107 = .ok (.iload 4, 2) := by decide +kernel
theorem dX9_copy_109 : decode cX9_copy 109 = .ok (.iload 5, 2) := by decide +kernel
theorem dX9_copy_111 : decode cX9_copy 111 = .ok (.invokestatic 328, 3) := by decide +kernel
theorem dX9_copy_114 : decode cX9_copy 114 = .ok (.iload 5, 2) := by decide +kernel
theorem dX9_copy_116 : decode cX9_copy 116 = .ok (.ireturn, 1) := by decide +kernel
theorem dX9_guardsBy_0 : decode cX9_guardsBy 0 = .ok (.iload_n 1, 1) := by decide +kernel
theorem dX9_guardsBy_1 : decode cX9_guardsBy 1 = .ok (.invokestatic 294, 3) := by decide +kernel
theorem dX9_guardsBy_4 : decode cX9_guardsBy 4 = .ok (.ifCond .eq 20, 3) := by decide +kernel
theorem dX9_guardsBy_7 : decode cX9_guardsBy 7 = .ok (.iload_n 2, 1) := by decide +kernel
theorem dX9_guardsBy_8 : decode cX9_guardsBy 8 = .ok (.iconst 2, 1) := by decide +kernel
theorem dX9_guardsBy_9 : decode cX9_guardsBy 9 = .ok (.invokestatic 107, 3) := by decide +kernel
theorem dX9_guardsBy_12 : decode cX9_guardsBy 12 = .ok (.ifCond .eq 12, 3) := by decide +kernel
theorem dX9_guardsBy_15 : decode cX9_guardsBy 15 = .ok (.iload 4, 2) := by decide +kernel
theorem dX9_guardsBy_17 : decode cX9_guardsBy 17 = .ok (.iconst 5, 1) := by decide +kernel
theorem dX9_guardsBy_18 : decode cX9_guardsBy 18 = .ok (.invokestatic 107, 3) := by decide +kernel
theorem dX9_guardsBy_21 : decode cX9_guardsBy 21 = .ok (.ifCond .ne 6, 3) := by decide +kernel
theorem dX9_guardsBy_24 : decode cX9_guardsBy 24 = .ok (.bipush (-2), 2) := by decide +kernel
theorem dX9_guardsBy_26 : decode cX9_guardsBy 26 = .ok (.ireturn, 1) := by decide +kernel
theorem dX9_guardsBy_27 : decode cX9_guardsBy 27 = .ok (.aload_n 0, 1) := by decide +kernel
theorem dX9_guardsBy_28 : decode cX9_guardsBy 28 = .ok (.getfield 69, 3) := by decide +kernel
theorem dX9_guardsBy_31 : decode cX9_guardsBy 31 = .ok (.iload_n 1, 1) := by decide +kernel
theorem dX9_guardsBy_32 : decode cX9_guardsBy 32 = .ok (.aaload, 1) := by decide +kernel
theorem dX9_guardsBy_33 : decode cX9_guardsBy 33 = .ok (.astore 5, 2) := by decide +kernel
theorem dX9_guardsBy_35 : decode cX9_guardsBy 35 = .ok (.aload 5, 2) := by decide +kernel
theorem dX9_guardsBy_37 : decode cX9_guardsBy 37 = .ok (.getfield 303, 3) := by decide +kernel
theorem dX9_guardsBy_40 : decode cX9_guardsBy 40 = .ok (.iconst (-1), 1) := by decide +kernel
theorem dX9_guardsBy_41 : decode cX9_guardsBy 41 = .ok (.if_icmp .ne 6, 3) := by decide +kernel
theorem dX9_guardsBy_44 : decode cX9_guardsBy 44 = .ok (.bipush (-11), 2) := by decide +kernel
theorem dX9_guardsBy_46 : decode cX9_guardsBy 46 = .ok (.ireturn, 1) := by decide +kernel
theorem dX9_guardsBy_47 : decode cX9_guardsBy 47 = .ok (.aload 5, 2) := by decide +kernel
theorem dX9_guardsBy_49 : decode cX9_guardsBy 49 = .ok (.getfield 303, 3) := by decide +kernel
theorem dX9_guardsBy_52 : decode cX9_guardsBy 52 = .ok (.iload_n 2, 1) := by decide +kernel
theorem dX9_guardsBy_53 : decode cX9_guardsBy 53 = .ok (.if_icmp .eq 6, 3) := by decide +kernel
theorem dX9_guardsBy_56 : decode cX9_guardsBy 56 = .ok (.bipush (-13), 2) := by decide +kernel
theorem dX9_guardsBy_58 : decode cX9_guardsBy 58 = .ok (.ireturn, 1) := by decide +kernel
theorem dX9_guardsBy_59 : decode cX9_guardsBy 59 = .ok (.iconst 0, 1) := by decide +kernel
theorem dX9_guardsBy_60 : decode cX9_guardsBy 60 = .ok (.istore 6, 2) := by decide +kernel
theorem dX9_guardsBy_62 : decode cX9_guardsBy 62 = .ok (.iload_n 3, 1) := by decide +kernel
theorem dX9_guardsBy_63 : decode cX9_guardsBy 63 = .ok (.istore 7, 2) := by decide +kernel
theorem dX9_guardsBy_65 : decode cX9_guardsBy 65 = .ok (.iconst 0, 1) := by decide +kernel
theorem dX9_guardsBy_66 : decode cX9_guardsBy 66 = .ok (.istore 8, 2) := by decide +kernel
theorem dX9_guardsBy_68 : decode cX9_guardsBy 68 = .ok (.iload 8, 2) := by decide +kernel
theorem dX9_guardsBy_70 : decode cX9_guardsBy 70 = .ok (.iload 4, 2) := by decide +kernel
theorem dX9_guardsBy_72 : decode cX9_guardsBy 72 = .ok (.if_icmp .ge 69, 3) := by decide +kernel
theorem dX9_guardsBy_75 : decode cX9_guardsBy 75 = .ok (.aload 5, 2) := by decide +kernel
theorem dX9_guardsBy_77 : decode cX9_guardsBy 77 = .ok (.iload 7, 2) := by decide +kernel
theorem dX9_guardsBy_79 : decode cX9_guardsBy 79 = .ok (.iconst 4, 1) := by decide +kernel
theorem dX9_guardsBy_80 : decode cX9_guardsBy 80 = .ok (.invokevirtual 325, 3) := by decide +kernel
theorem dX9_guardsBy_83 : decode cX9_guardsBy 83 = .ok (.ifCond .ne 6, 3) := by decide +kernel
theorem dX9_guardsBy_86 : decode cX9_guardsBy 86 = .ok (.bipush (-12), 2) := by decide +kernel
theorem dX9_guardsBy_88 : decode cX9_guardsBy 88 = .ok (.ireturn, 1) := by decide +kernel
theorem dX9_guardsBy_89 : decode cX9_guardsBy 89 = .ok (.aload 5, 2) := by decide +kernel
theorem dX9_guardsBy_91 : decode cX9_guardsBy 91 = .ok (.getfield 300, 3) := by decide +kernel
theorem dX9_guardsBy_94 : decode cX9_guardsBy 94 = .ok (.astore 9, 2) := by decide +kernel
theorem dX9_guardsBy_96 : decode cX9_guardsBy 96 = .ok (.aload_n 0, 1) := by decide +kernel
theorem dX9_guardsBy_97 : decode cX9_guardsBy 97 = .ok (.aload 9, 2) := by decide +kernel
theorem dX9_guardsBy_99 : decode cX9_guardsBy 99 = .ok (.iload 7, 2) := by decide +kernel
theorem dX9_guardsBy_101 : decode cX9_guardsBy 101 = .ok (.iaload, 1) := by decide +kernel
theorem dX9_guardsBy_102 : decode cX9_guardsBy 102 = .ok (.aload 9, 2) := by decide +kernel
theorem dX9_guardsBy_104 : decode cX9_guardsBy 104 = .ok (.iload 7, 2) := by decide +kernel
theorem dX9_guardsBy_106 : decode cX9_guardsBy 106 = .ok (.iconst 1, 1) := by decide +kernel
theorem dX9_guardsBy_107 : decode cX9_guardsBy 107 = .ok (.iadd, 1) := by decide +kernel
theorem dX9_guardsBy_108 : decode cX9_guardsBy 108 = .ok (.iaload, 1) := by decide +kernel
theorem dX9_guardsBy_109 : decode cX9_guardsBy 109 = .ok (.aload 9, 2) := by decide +kernel
theorem dX9_guardsBy_111 : decode cX9_guardsBy 111 = .ok (.iload 7, 2) := by decide +kernel
theorem dX9_guardsBy_113 : decode cX9_guardsBy 113 = .ok (.iconst 2, 1) := by decide +kernel
theorem dX9_guardsBy_114 : decode cX9_guardsBy 114 = .ok (.iadd, 1) := by decide +kernel
theorem dX9_guardsBy_115 : decode cX9_guardsBy 115 = .ok (.iaload, 1) := by decide +kernel
theorem dX9_guardsBy_116 : decode cX9_guardsBy 116 = .ok (.aload 9, 2) := by decide +kernel
theorem dX9_guardsBy_118 : decode cX9_guardsBy 118 = .ok (.iload 7, 2) := by decide +kernel
theorem dX9_guardsBy_120 : decode cX9_guardsBy 120 = .ok (.iconst 3, 1) := by decide +kernel
theorem dX9_guardsBy_121 : decode cX9_guardsBy 121 = .ok (.iadd, 1) := by decide +kernel
theorem dX9_guardsBy_122 : decode cX9_guardsBy 122 = .ok (.iaload, 1) := by decide +kernel
theorem dX9_guardsBy_123 : decode cX9_guardsBy 123 = .ok (.invokevirtual 334, 3) := by decide +kernel
theorem dX9_guardsBy_126 : decode cX9_guardsBy 126 = .ok (.ifCond .lt 6, 3) := by decide +kernel
theorem dX9_guardsBy_129 : decode cX9_guardsBy 129 = .ok (.iinc 6 1, 3) := by decide +kernel
theorem dX9_guardsBy_132 : decode cX9_guardsBy 132 = .ok (.iinc 7 4, 3) := by decide +kernel
theorem dX9_guardsBy_135 : decode cX9_guardsBy 135 = .ok (.iinc 8 1, 3) := by decide +kernel
theorem dX9_guardsBy_138 : decode cX9_guardsBy 138 = .ok (.goto (-70), 3) := by decide +kernel
theorem dX9_guardsBy_141 : decode cX9_guardsBy 141 = .ok (.iload 6, 2) := by decide +kernel
theorem dX9_guardsBy_143 : decode cX9_guardsBy 143 = .ok (.ireturn, 1) := by decide +kernel
theorem dX9_taken_0 : decode cX9_taken 0 = .ok (.iload_n 2, 1) := by decide +kernel
theorem dX9_taken_1 : decode cX9_taken 1 = .ok (.bipush 6, 2) := by decide +kernel
theorem dX9_taken_3 : decode cX9_taken 3 = .ok (.invokestatic 107, 3) := by decide +kernel
theorem dX9_taken_6 : decode cX9_taken 6 = .ok (.ifCond .ne 6, 3) := by decide +kernel
theorem dX9_taken_9 : decode cX9_taken 9 = .ok (.bipush (-2), 2) := by decide +kernel
theorem dX9_taken_11 : decode cX9_taken 11 = .ok (.ireturn, 1) := by decide +kernel
theorem dX9_taken_12 : decode cX9_taken 12 = .ok (.iload_n 1, 1) := by decide +kernel
theorem dX9_taken_13 : decode cX9_taken 13 = .ok (.bipush 40, 2) := by decide +kernel
theorem dX9_taken_15 : decode cX9_taken 15 = .ok (.invokestatic 107, 3) := by decide +kernel
theorem dX9_taken_18 : decode cX9_taken 18 = .ok (.ifCond .ne 6, 3) := by decide +kernel
theorem dX9_taken_21 : decode cX9_taken 21 = .ok (.bipush (-12), 2) := by decide +kernel
theorem dX9_taken_23 : decode cX9_taken 23 = .ok (.ireturn, 1) := by decide +kernel
theorem dX9_taken_24 : decode cX9_taken 24 = .ok (.iload_n 1, 1) := by decide +kernel
theorem dX9_taken_25 : decode cX9_taken 25 = .ok (.bipush 36, 2) := by decide +kernel
theorem dX9_taken_27 : decode cX9_taken 27 = .ok (.if_icmp .ge 14, 3) := by decide +kernel
theorem dX9_taken_30 : decode cX9_taken 30 = .ok (.aload_n 0, 1) := by decide +kernel
theorem dX9_taken_31 : decode cX9_taken 31 = .ok (.getfield 12, 3) := by decide +kernel
theorem dX9_taken_34 : decode cX9_taken 34 = .ok (.iload_n 1, 1) := by decide +kernel
theorem dX9_taken_35 : decode cX9_taken 35 = .ok (.invokevirtual 338, 3) := by decide +kernel
theorem dX9_taken_38 : decode cX9_taken 38 = .ok (.goto 4, 3) := by decide +kernel
theorem dX9_taken_41 : decode cX9_taken 41 = .ok (.iconst 0, 1) := by decide +kernel
theorem dX9_taken_42 : decode cX9_taken 42 = .ok (.istore_n 3, 1) := by decide +kernel
theorem dX9_taken_43 : decode cX9_taken 43 = .ok (.iload_n 1, 1) := by decide +kernel
theorem dX9_taken_44 : decode cX9_taken 44 = .ok (.bipush 36, 2) := by decide +kernel
theorem dX9_taken_46 : decode cX9_taken 46 = .ok (.if_icmp .ge 10, 3) := by decide +kernel
theorem dX9_taken_49 : decode cX9_taken 49 = .ok (.iload_n 3, 1) := by decide +kernel
theorem dX9_taken_50 : decode cX9_taken 50 = .ok (.ifCond .ne 20, 3) := by decide +kernel
theorem dX9_taken_53 : decode cX9_taken 53 = .ok (.goto 14, 3) := by decide +kernel
theorem dX9_taken_56 : decode cX9_taken 56 = .ok (.aload_n 0, 1) := by decide +kernel
theorem dX9_taken_57 : decode cX9_taken 57 = .ok (.iload_n 1, 1) := by decide +kernel
theorem dX9_taken_58 : decode cX9_taken 58 = .ok (.bipush 36, 2) := by decide +kernel
theorem dX9_taken_60 : decode cX9_taken 60 = .ok (.isub, 1) := by decide +kernel
theorem dX9_taken_61 : decode cX9_taken 61 = .ok (.invokevirtual 173, 3) := by decide +kernel
theorem dX9_taken_64 : decode cX9_taken 64 = .ok (.ifCond .ne 6, 3) := by decide +kernel
theorem dX9_taken_67 : decode cX9_taken 67 = .ok (.bipush (-11), 2) := by decide +kernel
theorem dX9_taken_69 : decode cX9_taken 69 = .ok (.ireturn, 1) := by decide +kernel
theorem dX9_taken_70 : decode cX9_taken 70 = .ok (.iload_n 1, 1) := by decide +kernel
theorem dX9_taken_71 : decode cX9_taken 71 = .ok (.bipush 36, 2) := by decide +kernel
theorem dX9_taken_73 : decode cX9_taken 73 = .ok (.if_icmp .ge 15, 3) := by decide +kernel
theorem dX9_taken_76 : decode cX9_taken 76 = .ok (.iload_n 2, 1) := by decide +kernel
theorem dX9_taken_77 : decode cX9_taken 77 = .ok (.iconst 5, 1) := by decide +kernel
theorem dX9_taken_78 : decode cX9_taken 78 = .ok (.if_icmp .le 7, 3) := by decide +kernel
theorem dX9_taken_81 : decode cX9_taken 81 = .ok (.iload_n 3, 1) := by decide +kernel
theorem dX9_taken_82 : decode cX9_taken 82 = .ok (.goto 5, 3) := by decide +kernel
theorem dX9_taken_85 : decode cX9_taken 85 = .ok (.bipush (-13), 2) := by decide +kernel
theorem dX9_taken_87 : decode cX9_taken 87 = .ok (.ireturn, 1) := by decide +kernel
theorem dX9_taken_88 : decode cX9_taken 88 = .ok (.iload_n 2, 1) := by decide +kernel
theorem dX9_taken_89 : decode cX9_taken 89 = .ok (.iconst 5, 1) := by decide +kernel
theorem dX9_taken_90 : decode cX9_taken 90 = .ok (.if_icmp .gt 25, 3) := by decide +kernel
theorem dX9_taken_93 : decode cX9_taken 93 = .ok (.aload_n 0, 1) := by decide +kernel
theorem dX9_taken_94 : decode cX9_taken 94 = .ok (.getfield 19, 3) := by decide +kernel
theorem dX9_taken_97 : decode cX9_taken 97 = .ok (.iload_n 1, 1) := by decide +kernel
theorem dX9_taken_98 : decode cX9_taken 98 = .ok (.bipush 36, 2) := by decide +kernel
theorem dX9_taken_100 : decode cX9_taken 100 = .ok (.isub, 1) := by decide +kernel
theorem dX9_taken_101 : decode cX9_taken 101 = .ok (.iload_n 2, 1) := by decide +kernel
theorem dX9_taken_102 : decode cX9_taken 102 = .ok (.invokevirtual 341, 3) := by decide +kernel
theorem dX9_taken_105 : decode cX9_taken 105 = .ok (.ifCond .eq 10, 3) := by decide +kernel
theorem dX9_taken_108 : decode cX9_taken 108 = .ok (.iload_n 1, 1) := by decide +kernel
theorem dX9_taken_109 : decode cX9_taken 109 = .ok (.bipush 36, 2) := by decide +kernel
theorem dX9_taken_111 : decode cX9_taken 111 = .ok (.isub, 1) := by decide +kernel
theorem dX9_taken_112 : decode cX9_taken 112 = .ok (.goto 5, 3) := by decide +kernel
theorem dX9_taken_115 : decode cX9_taken 115 = .ok (.bipush (-13), 2) := by decide +kernel
theorem dX9_taken_117 : decode cX9_taken 117 = .ok (.ireturn, 1) := by decide +kernel
theorem dJ0_length_8abf5_0 : decode cJ0_length_8abf5 0 = .ok (.aload_n 0, 1) := by decide +kernel
theorem dJ0_length_8abf5_1 : decode cJ0_length_8abf5 1 = .ok (.getfield 9, 3) := by decide +kernel
theorem dJ0_length_8abf5_4 : decode cJ0_length_8abf5 4 = .ok (.arraylength, 1) := by decide +kernel
theorem dJ0_length_8abf5_5 : decode cJ0_length_8abf5 5 = .ok (.aload_n 0, 1) := by decide +kernel
theorem dJ0_length_8abf5_6 : decode cJ0_length_8abf5 6 = .ok (.invokevirtual 335, 3) := by decide +kernel
theorem dJ0_length_8abf5_9 : decode cJ0_length_8abf5 9 = .ok (.ishr, 1) := by decide +kernel
theorem dJ0_length_8abf5_10 : decode cJ0_length_8abf5 10 = .ok (.ireturn, 1) := by decide +kernel
theorem dJ0_charAt_5068e_0 : decode cJ0_charAt_5068e 0 = .ok (.aload_n 0, 1) := by decide +kernel
theorem dJ0_charAt_5068e_1 : decode cJ0_charAt_5068e 1 = .ok (.invokevirtual 492, 3) := by decide +kernel
theorem dJ0_charAt_5068e_4 : decode cJ0_charAt_5068e 4 = .ok (.ifCond .eq 12, 3) := by decide +kernel
theorem dJ0_charAt_5068e_7 : decode cJ0_charAt_5068e 7 = .ok (.aload_n 0, 1) := by decide +kernel
theorem dJ0_charAt_5068e_8 : decode cJ0_charAt_5068e 8 = .ok (.getfield 9, 3) := by decide +kernel
theorem dJ0_charAt_5068e_11 : decode cJ0_charAt_5068e 11 = .ok (.iload_n 1, 1) := by decide +kernel
theorem dJ0_charAt_5068e_12 : decode cJ0_charAt_5068e 12 = .ok (.invokestatic 495, 3) := by decide +kernel
theorem dJ0_charAt_5068e_15 : decode cJ0_charAt_5068e 15 = .ok (.ireturn, 1) := by decide +kernel
theorem dJ0_charAt_5068e_16 : decode cJ0_charAt_5068e 16 = .ok (.aload_n 0, 1) := by decide +kernel
theorem dJ0_charAt_5068e_17 : decode cJ0_charAt_5068e 17 = .ok (.getfield 9, 3) := by decide +kernel
theorem dJ0_charAt_5068e_20 : decode cJ0_charAt_5068e 20 = .ok (.iload_n 1, 1) := by decide +kernel
theorem dJ0_charAt_5068e_21 : decode cJ0_charAt_5068e 21 = .ok (.invokestatic 498, 3) := by decide +kernel
theorem dJ0_charAt_5068e_24 : decode cJ0_charAt_5068e 24 = .ok (.ireturn, 1) := by decide +kernel
theorem dJ0_coder_7d493_0 : decode cJ0_coder_7d493 0 = .ok (.getstatic 38, 3) := by decide +kernel
theorem dJ0_coder_7d493_3 : decode cJ0_coder_7d493 3 = .ok (.ifCond .eq 10, 3) := by decide +kernel
theorem dJ0_coder_7d493_6 : decode cJ0_coder_7d493 6 = .ok (.aload_n 0, 1) := by decide +kernel
theorem dJ0_coder_7d493_7 : decode cJ0_coder_7d493 7 = .ok (.getfield 15, 3) := by decide +kernel
theorem dJ0_coder_7d493_10 : decode cJ0_coder_7d493 10 = .ok (.goto 4, 3) := by decide +kernel
theorem dJ0_coder_7d493_13 : decode cJ0_coder_7d493 13 = .ok (.iconst 1, 1) := by decide +kernel
theorem dJ0_coder_7d493_14 : decode cJ0_coder_7d493 14 = .ok (.ireturn, 1) := by decide +kernel
theorem dJ0_isLatin1_aae02_0 : decode cJ0_isLatin1_aae02 0 = .ok (.getstatic 38, 3) := by decide +kernel
theorem dJ0_isLatin1_aae02_3 : decode cJ0_isLatin1_aae02 3 = .ok (.ifCond .eq 14, 3) := by decide +kernel
theorem dJ0_isLatin1_aae02_6 : decode cJ0_isLatin1_aae02 6 = .ok (.aload_n 0, 1) := by decide +kernel
theorem dJ0_isLatin1_aae02_7 : decode cJ0_isLatin1_aae02 7 = .ok (.getfield 15, 3) := by decide +kernel
theorem dJ0_isLatin1_aae02_10 : decode cJ0_isLatin1_aae02 10 = .ok (.ifCond .ne 7, 3) := by decide +kernel
theorem dJ0_isLatin1_aae02_13 : decode cJ0_isLatin1_aae02 13 = .ok (.iconst 1, 1) := by decide +kernel
theorem dJ0_isLatin1_aae02_14 : decode cJ0_isLatin1_aae02 14 = .ok (.goto 4, 3) := by decide +kernel
theorem dJ0_isLatin1_aae02_17 : decode cJ0_isLatin1_aae02 17 = .ok (.iconst 0, 1) := by decide +kernel
theorem dJ0_isLatin1_aae02_18 : decode cJ0_isLatin1_aae02 18 = .ok (.ireturn, 1) := by decide +kernel
theorem dJ0_checkIndex_df160_0 : decode cJ0_checkIndex_df160 0 = .ok (.iload_n 0, 1) := by decide +kernel
theorem dJ0_checkIndex_df160_1 : decode cJ0_checkIndex_df160 1 = .ok (.iload_n 1, 1) := by decide +kernel
theorem dJ0_checkIndex_df160_2 : decode cJ0_checkIndex_df160 2 = .ok (.getstatic 1053, 3) := by decide +kernel
theorem dJ0_checkIndex_df160_5 : decode cJ0_checkIndex_df160 5 = .ok (.invokestatic 1059, 3) := by decide +kernel
theorem dJ0_checkIndex_df160_8 : decode cJ0_checkIndex_df160 8 = .ok (.pop, 1) := by decide +kernel
theorem dJ0_checkIndex_df160_9 : decode cJ0_checkIndex_df160 9 = .ok (.return_, 1) := by decide +kernel
theorem dJ1_charAt_3b067_0 : decode cJ1_charAt_3b067 0 = .ok (.iload_n 1, 1) := by decide +kernel
theorem dJ1_charAt_3b067_1 : decode cJ1_charAt_3b067 1 = .ok (.aload_n 0, 1) := by decide +kernel
theorem dJ1_charAt_3b067_2 : decode cJ1_charAt_3b067 2 = .ok (.arraylength, 1) := by decide +kernel
theorem dJ1_charAt_3b067_3 : decode cJ1_charAt_3b067 3 = .ok (.invokestatic 9, 3) := by decide +kernel
theorem dJ1_charAt_3b067_6 : decode cJ1_charAt_3b067 6 = .ok (.aload_n 0, 1) := by decide +kernel
theorem dJ1_charAt_3b067_7 : decode cJ1_charAt_3b067 7 = .ok (.iload_n 1, 1) := by decide +kernel
theorem dJ1_charAt_3b067_8 : decode cJ1_charAt_3b067 8 = .ok (.baload, 1) := by decide +kernel
theorem dJ1_charAt_3b067_9 : decode cJ1_charAt_3b067 9 = .ok (.sipush 255, 3) := by decide +kernel
theorem dJ1_charAt_3b067_12 : decode cJ1_charAt_3b067 12 = .ok (.iand, 1) := by decide +kernel
theorem dJ1_charAt_3b067_13 : decode cJ1_charAt_3b067 13 = .ok (.i2c, 1) := by decide +kernel
theorem dJ1_charAt_3b067_14 : decode cJ1_charAt_3b067 14 = .ok (.ireturn, 1) := by decide +kernel
theorem dJ2_getChar_3b067_0 : decode cJ2_getChar_3b067 0 = .ok (.getstatic 44, 3) := by decide +kernel
theorem dJ2_getChar_3b067_3 : decode cJ2_getChar_3b067 3 = .ok (.ifCond .ne 25, 3) := by decide +kernel
theorem dJ2_getChar_3b067_6 : decode cJ2_getChar_3b067 6 = .ok (.iload_n 1, 1) := by decide +kernel
theorem dJ2_getChar_3b067_7 : decode cJ2_getChar_3b067 7 = .ok (.ifCond .lt 11, 3) := by decide +kernel
theorem dJ2_getChar_3b067_10 : decode cJ2_getChar_3b067 10 = .ok (.iload_n 1, 1) := by decide +kernel
theorem dJ2_getChar_3b067_11 : decode cJ2_getChar_3b067 11 = .ok (.aload_n 0, 1) := by decide +kernel
theorem dJ2_getChar_3b067_12 : decode cJ2_getChar_3b067 12 = .ok (.invokestatic 48, 3) := by decide +kernel
theorem dJ2_getChar_3b067_15 : decode cJ2_getChar_3b067 15 = .ok (.if_icmp .lt 13, 3) := by decide +kernel
theorem dJ2_getChar_3b067_18 : decode cJ2_getChar_3b067 18 = .ok (.new 52, 3) := by decide +kernel
theorem dJ2_getChar_3b067_21 : decode cJ2_getChar_3b067 21 = .ok (.dup, 1) := by decide +kernel
theorem dJ2_getChar_3b067_22 : decode cJ2_getChar_3b067 22 = .ok (.ldc 54, 2) := by decide +kernel
theorem dJ2_getChar_3b067_24 : decode cJ2_getChar_3b067 24 = .ok (.invokespecial 56, 3) := by decide +kernel
theorem dJ2_getChar_3b067_27 : decode cJ2_getChar_3b067 27 = .ok (.athrow, 1) := by decide +kernel
theorem dJ2_getChar_3b067_28 : decode cJ2_getChar_3b067 28 = .ok (.iload_n 1, 1) := by decide +kernel
theorem dJ2_getChar_3b067_29 : decode cJ2_getChar_3b067 29 = .ok (.iconst 1, 1) := by decide +kernel
theorem dJ2_getChar_3b067_30 : decode cJ2_getChar_3b067 30 = .ok (.ishl, 1) := by decide +kernel
theorem dJ2_getChar_3b067_31 : decode cJ2_getChar_3b067 31 = .ok (.istore_n 1, 1) := by decide +kernel
theorem dJ2_getChar_3b067_32 : decode cJ2_getChar_3b067 32 = .ok (.aload_n 0, 1) := by decide +kernel
theorem dJ2_getChar_3b067_33 : decode cJ2_getChar_3b067 33 = .ok (.iload_n 1, 1) := by decide +kernel
theorem dJ2_getChar_3b067_34 : decode cJ2_getChar_3b067 34 = .ok (.iinc 1 1, 3) := by decide +kernel
theorem dJ2_getChar_3b067_37 : decode cJ2_getChar_3b067 37 = .ok (.baload, 1) := by decide +kernel
theorem dJ2_getChar_3b067_38 : decode cJ2_getChar_3b067 38 = .ok (.sipush 255, 3) := by decide +kernel
theorem dJ2_getChar_3b067_41 : decode cJ2_getChar_3b067 41 = .ok (.iand, 1) := by decide +kernel
theorem dJ2_getChar_3b067_42 : decode cJ2_getChar_3b067 42 = .ok (.getstatic 59, 3) := by decide +kernel
theorem dJ2_getChar_3b067_45 : decode cJ2_getChar_3b067 45 = .ok (.ishl, 1) := by decide +kernel
theorem dJ2_getChar_3b067_46 : decode cJ2_getChar_3b067 46 = .ok (.aload_n 0, 1) := by decide +kernel
theorem dJ2_getChar_3b067_47 : decode cJ2_getChar_3b067 47 = .ok (.iload_n 1, 1) := by decide +kernel
theorem dJ2_getChar_3b067_48 : decode cJ2_getChar_3b067 48 = .ok (.baload, 1) := by decide +kernel
theorem dJ2_getChar_3b067_49 : decode cJ2_getChar_3b067 49 = .ok (.sipush 255, 3) := by decide +kernel
theorem dJ2_getChar_3b067_52 : decode cJ2_getChar_3b067 52 = .ok (.iand, 1) := by decide +kernel
theorem dJ2_getChar_3b067_53 : decode cJ2_getChar_3b067 53 = .ok (.getstatic 63, 3) := by decide +kernel
theorem dJ2_getChar_3b067_56 : decode cJ2_getChar_3b067 56 = .ok (.ishl, 1) := by decide +kernel
theorem dJ2_getChar_3b067_57 : decode cJ2_getChar_3b067 57 = .ok (.ior, 1) := by decide +kernel
theorem dJ2_getChar_3b067_58 : decode cJ2_getChar_3b067 58 = .ok (.i2c, 1) := by decide +kernel
theorem dJ2_getChar_3b067_59 : decode cJ2_getChar_3b067 59 = .ok (.ireturn, 1) := by decide +kernel
theorem dJ2_length_9d52b_0 : decode cJ2_length_9d52b 0 = .ok (.aload_n 0, 1) := by decide +kernel
theorem dJ2_length_9d52b_1 : decode cJ2_length_9d52b 1 = .ok (.arraylength, 1) := by decide +kernel
theorem dJ2_length_9d52b_2 : decode cJ2_length_9d52b 2 = .ok (.iconst 1, 1) := by decide +kernel
theorem dJ2_length_9d52b_3 : decode cJ2_length_9d52b 3 = .ok (.ishr, 1) := by decide +kernel
theorem dJ2_length_9d52b_4 : decode cJ2_length_9d52b 4 = .ok (.ireturn, 1) := by decide +kernel
theorem dJ2_charAt_3b067_0 : decode cJ2_charAt_3b067 0 = .ok (.iload_n 1, 1) := by decide +kernel
theorem dJ2_charAt_3b067_1 : decode cJ2_charAt_3b067 1 = .ok (.aload_n 0, 1) := by decide +kernel
theorem dJ2_charAt_3b067_2 : decode cJ2_charAt_3b067 2 = .ok (.invokestatic 67, 3) := by decide +kernel
theorem dJ2_charAt_3b067_5 : decode cJ2_charAt_3b067 5 = .ok (.aload_n 0, 1) := by decide +kernel
theorem dJ2_charAt_3b067_6 : decode cJ2_charAt_3b067 6 = .ok (.iload_n 1, 1) := by decide +kernel
theorem dJ2_charAt_3b067_7 : decode cJ2_charAt_3b067 7 = .ok (.invokestatic 71, 3) := by decide +kernel
theorem dJ2_charAt_3b067_10 : decode cJ2_charAt_3b067 10 = .ok (.ireturn, 1) := by decide +kernel
theorem dJ2_checkIndex_2214a_0 : decode cJ2_checkIndex_2214a 0 = .ok (.iload_n 0, 1) := by decide +kernel
theorem dJ2_checkIndex_2214a_1 : decode cJ2_checkIndex_2214a 1 = .ok (.aload_n 1, 1) := by decide +kernel
theorem dJ2_checkIndex_2214a_2 : decode cJ2_checkIndex_2214a 2 = .ok (.invokestatic 48, 3) := by decide +kernel
theorem dJ2_checkIndex_2214a_5 : decode cJ2_checkIndex_2214a 5 = .ok (.invokestatic 414, 3) := by decide +kernel
theorem dJ2_checkIndex_2214a_8 : decode cJ2_checkIndex_2214a 8 = .ok (.return_, 1) := by decide +kernel
theorem dJ3_checkIndex_8e157_0 : decode cJ3_checkIndex_8e157 0 = .ok (.iload_n 0, 1) := by decide +kernel
theorem dJ3_checkIndex_8e157_1 : decode cJ3_checkIndex_8e157 1 = .ok (.ifCond .lt 8, 3) := by decide +kernel
theorem dJ3_checkIndex_8e157_4 : decode cJ3_checkIndex_8e157 4 = .ok (.iload_n 0, 1) := by decide +kernel
theorem dJ3_checkIndex_8e157_5 : decode cJ3_checkIndex_8e157 5 = .ok (.iload_n 1, 1) := by decide +kernel
theorem dJ3_checkIndex_8e157_6 : decode cJ3_checkIndex_8e157 6 = .ok (.if_icmp .lt 10, 3) := by decide +kernel
theorem dJ3_checkIndex_8e157_9 : decode cJ3_checkIndex_8e157 9 = .ok (.aload_n 2, 1) := by decide +kernel
theorem dJ3_checkIndex_8e157_10 : decode cJ3_checkIndex_8e157 10 = .ok (.iload_n 0, 1) := by decide +kernel
theorem dJ3_checkIndex_8e157_11 : decode cJ3_checkIndex_8e157 11 = .ok (.iload_n 1, 1) := by decide +kernel
theorem dJ3_checkIndex_8e157_12 : decode cJ3_checkIndex_8e157 12 = .ok (.invokestatic 95, 3) := by decide +kernel
theorem dJ3_checkIndex_8e157_15 : decode cJ3_checkIndex_8e157 15 = .ok (.athrow, 1) := by decide +kernel
theorem dJ3_checkIndex_8e157_16 : decode cJ3_checkIndex_8e157 16 = .ok (.iload_n 0, 1) := by decide +kernel
theorem dJ3_checkIndex_8e157_17 : decode cJ3_checkIndex_8e157 17 = .ok (.ireturn, 1) := by decide +kernel
theorem dJ6_bitCount_0f7a4_0 : decode cJ6_bitCount_0f7a4 0 = .ok (.iload_n 0, 1) := by decide +kernel
theorem dJ6_bitCount_0f7a4_1 : decode cJ6_bitCount_0f7a4 1 = .ok (.iload_n 0, 1) := by decide +kernel
theorem dJ6_bitCount_0f7a4_2 : decode cJ6_bitCount_0f7a4 2 = .ok (.iconst 1, 1) := by decide +kernel
theorem dJ6_bitCount_0f7a4_3 : decode cJ6_bitCount_0f7a4 3 = .ok (.iushr, 1) := by decide +kernel
theorem dJ6_bitCount_0f7a4_4 : decode cJ6_bitCount_0f7a4 4 = .ok (.ldc_w 265, 3) := by decide +kernel
theorem dJ6_bitCount_0f7a4_7 : decode cJ6_bitCount_0f7a4 7 = .ok (.iand, 1) := by decide +kernel
theorem dJ6_bitCount_0f7a4_8 : decode cJ6_bitCount_0f7a4 8 = .ok (.isub, 1) := by decide +kernel
theorem dJ6_bitCount_0f7a4_9 : decode cJ6_bitCount_0f7a4 9 = .ok (.istore_n 0, 1) := by decide +kernel
theorem dJ6_bitCount_0f7a4_10 : decode cJ6_bitCount_0f7a4 10 = .ok (.iload_n 0, 1) := by decide +kernel
theorem dJ6_bitCount_0f7a4_11 : decode cJ6_bitCount_0f7a4 11 = .ok (.ldc_w 266, 3) := by decide +kernel
theorem dJ6_bitCount_0f7a4_14 : decode cJ6_bitCount_0f7a4 14 = .ok (.iand, 1) := by decide +kernel
theorem dJ6_bitCount_0f7a4_15 : decode cJ6_bitCount_0f7a4 15 = .ok (.iload_n 0, 1) := by decide +kernel
theorem dJ6_bitCount_0f7a4_16 : decode cJ6_bitCount_0f7a4 16 = .ok (.iconst 2, 1) := by decide +kernel
theorem dJ6_bitCount_0f7a4_17 : decode cJ6_bitCount_0f7a4 17 = .ok (.iushr, 1) := by decide +kernel
theorem dJ6_bitCount_0f7a4_18 : decode cJ6_bitCount_0f7a4 18 = .ok (.ldc_w 266, 3) := by decide +kernel
theorem dJ6_bitCount_0f7a4_21 : decode cJ6_bitCount_0f7a4 21 = .ok (.iand, 1) := by decide +kernel
theorem dJ6_bitCount_0f7a4_22 : decode cJ6_bitCount_0f7a4 22 = .ok (.iadd, 1) := by decide +kernel
theorem dJ6_bitCount_0f7a4_23 : decode cJ6_bitCount_0f7a4 23 = .ok (.istore_n 0, 1) := by decide +kernel
theorem dJ6_bitCount_0f7a4_24 : decode cJ6_bitCount_0f7a4 24 = .ok (.iload_n 0, 1) := by decide +kernel
theorem dJ6_bitCount_0f7a4_25 : decode cJ6_bitCount_0f7a4 25 = .ok (.iload_n 0, 1) := by decide +kernel
theorem dJ6_bitCount_0f7a4_26 : decode cJ6_bitCount_0f7a4 26 = .ok (.iconst 4, 1) := by decide +kernel
theorem dJ6_bitCount_0f7a4_27 : decode cJ6_bitCount_0f7a4 27 = .ok (.iushr, 1) := by decide +kernel
theorem dJ6_bitCount_0f7a4_28 : decode cJ6_bitCount_0f7a4 28 = .ok (.iadd, 1) := by decide +kernel
theorem dJ6_bitCount_0f7a4_29 : decode cJ6_bitCount_0f7a4 29 = .ok (.ldc_w 267, 3) := by decide +kernel
theorem dJ6_bitCount_0f7a4_32 : decode cJ6_bitCount_0f7a4 32 = .ok (.iand, 1) := by decide +kernel
theorem dJ6_bitCount_0f7a4_33 : decode cJ6_bitCount_0f7a4 33 = .ok (.istore_n 0, 1) := by decide +kernel
theorem dJ6_bitCount_0f7a4_34 : decode cJ6_bitCount_0f7a4 34 = .ok (.iload_n 0, 1) := by decide +kernel
theorem dJ6_bitCount_0f7a4_35 : decode cJ6_bitCount_0f7a4 35 = .ok (.iload_n 0, 1) := by decide +kernel
theorem dJ6_bitCount_0f7a4_36 : decode cJ6_bitCount_0f7a4 36 = .ok (.bipush 8, 2) := by decide +kernel
theorem dJ6_bitCount_0f7a4_38 : decode cJ6_bitCount_0f7a4 38 = .ok (.iushr, 1) := by decide +kernel
theorem dJ6_bitCount_0f7a4_39 : decode cJ6_bitCount_0f7a4 39 = .ok (.iadd, 1) := by decide +kernel
theorem dJ6_bitCount_0f7a4_40 : decode cJ6_bitCount_0f7a4 40 = .ok (.istore_n 0, 1) := by decide +kernel
theorem dJ6_bitCount_0f7a4_41 : decode cJ6_bitCount_0f7a4 41 = .ok (.iload_n 0, 1) := by decide +kernel
theorem dJ6_bitCount_0f7a4_42 : decode cJ6_bitCount_0f7a4 42 = .ok (.iload_n 0, 1) := by decide +kernel
theorem dJ6_bitCount_0f7a4_43 : decode cJ6_bitCount_0f7a4 43 = .ok (.bipush 16, 2) := by decide +kernel
theorem dJ6_bitCount_0f7a4_45 : decode cJ6_bitCount_0f7a4 45 = .ok (.iushr, 1) := by decide +kernel
theorem dJ6_bitCount_0f7a4_46 : decode cJ6_bitCount_0f7a4 46 = .ok (.iadd, 1) := by decide +kernel
theorem dJ6_bitCount_0f7a4_47 : decode cJ6_bitCount_0f7a4 47 = .ok (.istore_n 0, 1) := by decide +kernel
theorem dJ6_bitCount_0f7a4_48 : decode cJ6_bitCount_0f7a4 48 = .ok (.iload_n 0, 1) := by decide +kernel
theorem dJ6_bitCount_0f7a4_49 : decode cJ6_bitCount_0f7a4 49 = .ok (.bipush 63, 2) := by decide +kernel
theorem dJ6_bitCount_0f7a4_51 : decode cJ6_bitCount_0f7a4 51 = .ok (.iand, 1) := by decide +kernel
theorem dJ6_bitCount_0f7a4_52 : decode cJ6_bitCount_0f7a4 52 = .ok (.ireturn, 1) := by decide +kernel
theorem dJ7_rangeCheck_23922_0 : decode cJ7_rangeCheck_23922 0 = .ok (.iload_n 1, 1) := by decide +kernel
theorem dJ7_rangeCheck_23922_1 : decode cJ7_rangeCheck_23922 1 = .ok (.iload_n 2, 1) := by decide +kernel
theorem dJ7_rangeCheck_23922_2 : decode cJ7_rangeCheck_23922 2 = .ok (.if_icmp .le 44, 3) := by decide +kernel
theorem dJ7_rangeCheck_23922_5 : decode cJ7_rangeCheck_23922 5 = .ok (.new 43, 3) := by decide +kernel
theorem dJ7_rangeCheck_23922_8 : decode cJ7_rangeCheck_23922 8 = .ok (.dup, 1) := by decide +kernel
theorem dJ7_rangeCheck_23922_9 : decode cJ7_rangeCheck_23922 9 = .ok (.new 45, 3) := by decide +kernel
theorem dJ7_rangeCheck_23922_12 : decode cJ7_rangeCheck_23922 12 = .ok (.dup, 1) := by decide +kernel
theorem dJ7_rangeCheck_23922_13 : decode cJ7_rangeCheck_23922 13 = .ok (.invokespecial 47, 3) := by decide +kernel
theorem dJ7_rangeCheck_23922_16 : decode cJ7_rangeCheck_23922 16 = .ok (.ldc 48, 2) := by decide +kernel
theorem dJ7_rangeCheck_23922_18 : decode cJ7_rangeCheck_23922 18 = .ok (.invokevirtual 50, 3) := by decide +kernel
theorem dJ7_rangeCheck_23922_21 : decode cJ7_rangeCheck_23922 21 = .ok (.iload_n 1, 1) := by decide +kernel
theorem dJ7_rangeCheck_23922_22 : decode cJ7_rangeCheck_23922 22 = .ok (.invokevirtual 54, 3) := by decide +kernel
theorem dJ7_rangeCheck_23922_25 : decode cJ7_rangeCheck_23922 25 = .ok (.ldc 57, 2) := by decide +kernel
theorem dJ7_rangeCheck_23922_27 : decode cJ7_rangeCheck_23922 27 = .ok (.invokevirtual 50, 3) := by decide +kernel
theorem dJ7_rangeCheck_23922_30 : decode cJ7_rangeCheck_23922 30 = .ok (.iload_n 2, 1) := by decide +kernel
theorem dJ7_rangeCheck_23922_31 : decode cJ7_rangeCheck_23922 31 = .ok (.invokevirtual 54, 3) := by decide +kernel
theorem dJ7_rangeCheck_23922_34 : decode cJ7_rangeCheck_23922 34 = .ok (.ldc 59, 2) := by decide +kernel
theorem dJ7_rangeCheck_23922_36 : decode cJ7_rangeCheck_23922 36 = .ok (.invokevirtual 50, 3) := by decide +kernel
theorem dJ7_rangeCheck_23922_39 : decode cJ7_rangeCheck_23922 39 = .ok (.invokevirtual 61, 3) := by decide +kernel
theorem dJ7_rangeCheck_23922_42 : decode cJ7_rangeCheck_23922 42 = .ok (.invokespecial 65, 3) := by decide +kernel
theorem dJ7_rangeCheck_23922_45 : decode cJ7_rangeCheck_23922 45 = .ok (.athrow, 1) := by decide +kernel
theorem dJ7_rangeCheck_23922_46 : decode cJ7_rangeCheck_23922 46 = .ok (.iload_n 1, 1) := by decide +kernel
theorem dJ7_rangeCheck_23922_47 : decode cJ7_rangeCheck_23922 47 = .ok (.ifCond .ge 12, 3) := by decide +kernel
theorem dJ7_rangeCheck_23922_50 : decode cJ7_rangeCheck_23922 50 = .ok (.new 68, 3) := by decide +kernel
theorem dJ7_rangeCheck_23922_53 : decode cJ7_rangeCheck_23922 53 = .ok (.dup, 1) := by decide +kernel
theorem dJ7_rangeCheck_23922_54 : decode cJ7_rangeCheck_23922 54 = .ok (.iload_n 1, 1) := by decide +kernel
theorem dJ7_rangeCheck_23922_55 : decode cJ7_rangeCheck_23922 55 = .ok (.invokespecial 70, 3) := by decide +kernel
theorem dJ7_rangeCheck_23922_58 : decode cJ7_rangeCheck_23922 58 = .ok (.athrow, 1) := by decide +kernel
theorem dJ7_rangeCheck_23922_59 : decode cJ7_rangeCheck_23922 59 = .ok (.iload_n 2, 1) := by decide +kernel
theorem dJ7_rangeCheck_23922_60 : decode cJ7_rangeCheck_23922 60 = .ok (.iload_n 0, 1) := by decide +kernel
theorem dJ7_rangeCheck_23922_61 : decode cJ7_rangeCheck_23922 61 = .ok (.if_icmp .le 12, 3) := by decide +kernel
theorem dJ7_rangeCheck_23922_64 : decode cJ7_rangeCheck_23922 64 = .ok (.new 68, 3) := by decide +kernel
theorem dJ7_rangeCheck_23922_67 : decode cJ7_rangeCheck_23922 67 = .ok (.dup, 1) := by decide +kernel
theorem dJ7_rangeCheck_23922_68 : decode cJ7_rangeCheck_23922 68 = .ok (.iload_n 2, 1) := by decide +kernel
theorem dJ7_rangeCheck_23922_69 : decode cJ7_rangeCheck_23922 69 = .ok (.invokespecial 70, 3) := by decide +kernel
theorem dJ7_rangeCheck_23922_72 : decode cJ7_rangeCheck_23922 72 = .ok (.athrow, 1) := by decide +kernel
theorem dJ7_rangeCheck_23922_73 : decode cJ7_rangeCheck_23922 73 = .ok (.return_, 1) := by decide +kernel
theorem dJ7_fill_d0a16_0 : decode cJ7_fill_d0a16 0 = .ok (.iconst 0, 1) := by decide +kernel
theorem dJ7_fill_d0a16_1 : decode cJ7_fill_d0a16 1 = .ok (.istore_n 3, 1) := by decide +kernel
theorem dJ7_fill_d0a16_2 : decode cJ7_fill_d0a16 2 = .ok (.aload_n 0, 1) := by decide +kernel
theorem dJ7_fill_d0a16_3 : decode cJ7_fill_d0a16 3 = .ok (.arraylength, 1) := by decide +kernel
theorem dJ7_fill_d0a16_4 : decode cJ7_fill_d0a16 4 = .ok (.istore 4, 2) := by decide +kernel
theorem dJ7_fill_d0a16_6 : decode cJ7_fill_d0a16 6 = .ok (.iload_n 3, 1) := by decide +kernel
theorem dJ7_fill_d0a16_7 : decode cJ7_fill_d0a16 7 = .ok (.iload 4, 2) := by decide +kernel
theorem dJ7_fill_d0a16_9 : decode cJ7_fill_d0a16 9 = .ok (.if_icmp .ge 13, 3) := by decide +kernel
theorem dJ7_fill_d0a16_12 : decode cJ7_fill_d0a16 12 = .ok (.aload_n 0, 1) := by decide +kernel
theorem dJ7_fill_d0a16_13 : decode cJ7_fill_d0a16 13 = .ok (.iload_n 3, 1) := by decide +kernel
theorem dJ7_fill_d0a16_14 : decode cJ7_fill_d0a16 14 = .ok (.lload_n 1, 1) := by decide +kernel
theorem dJ7_fill_d0a16_15 : decode cJ7_fill_d0a16 15 = .ok (.lastore, 1) := by decide +kernel
theorem dJ7_fill_d0a16_16 : decode cJ7_fill_d0a16 16 = .ok (.iinc 3 1, 3) := by decide +kernel
theorem dJ7_fill_d0a16_19 : decode cJ7_fill_d0a16 19 = .ok (.goto (-13), 3) := by decide +kernel
theorem dJ7_fill_d0a16_22 : decode cJ7_fill_d0a16 22 = .ok (.return_, 1) := by decide +kernel
theorem dJ7_fill_bad5a_0 : decode cJ7_fill_bad5a 0 = .ok (.aload_n 0, 1) := by decide +kernel
theorem dJ7_fill_bad5a_1 : decode cJ7_fill_bad5a 1 = .ok (.arraylength, 1) := by decide +kernel
theorem dJ7_fill_bad5a_2 : decode cJ7_fill_bad5a 2 = .ok (.iload_n 1, 1) := by decide +kernel
theorem dJ7_fill_bad5a_3 : decode cJ7_fill_bad5a 3 = .ok (.iload_n 2, 1) := by decide +kernel
theorem dJ7_fill_bad5a_4 : decode cJ7_fill_bad5a 4 = .ok (.invokestatic 13, 3) := by decide +kernel
theorem dJ7_fill_bad5a_7 : decode cJ7_fill_bad5a 7 = .ok (.iload_n 1, 1) := by decide +kernel
theorem dJ7_fill_bad5a_8 : decode cJ7_fill_bad5a 8 = .ok (.istore 5, 2) := by decide +kernel
theorem dJ7_fill_bad5a_10 : decode cJ7_fill_bad5a 10 = .ok (.iload 5, 2) := by decide +kernel
theorem dJ7_fill_bad5a_12 : decode cJ7_fill_bad5a 12 = .ok (.iload_n 2, 1) := by decide +kernel
theorem dJ7_fill_bad5a_13 : decode cJ7_fill_bad5a 13 = .ok (.if_icmp .ge 14, 3) := by decide +kernel
theorem dJ7_fill_bad5a_16 : decode cJ7_fill_bad5a 16 = .ok (.aload_n 0, 1) := by decide +kernel
theorem dJ7_fill_bad5a_17 : decode cJ7_fill_bad5a 17 = .ok (.iload 5, 2) := by decide +kernel
theorem dJ7_fill_bad5a_19 : decode cJ7_fill_bad5a 19 = .ok (.lload_n 3, 1) := by decide +kernel
theorem dJ7_fill_bad5a_20 : decode cJ7_fill_bad5a 20 = .ok (.lastore, 1) := by decide +kernel
theorem dJ7_fill_bad5a_21 : decode cJ7_fill_bad5a 21 = .ok (.iinc 5 1, 3) := by decide +kernel
theorem dJ7_fill_bad5a_24 : decode cJ7_fill_bad5a 24 = .ok (.goto (-14), 3) := by decide +kernel
theorem dJ7_fill_bad5a_27 : decode cJ7_fill_bad5a 27 = .ok (.return_, 1) := by decide +kernel
theorem dJ7_fill_53178_0 : decode cJ7_fill_53178 0 = .ok (.iconst 0, 1) := by decide +kernel
theorem dJ7_fill_53178_1 : decode cJ7_fill_53178 1 = .ok (.istore_n 2, 1) := by decide +kernel
theorem dJ7_fill_53178_2 : decode cJ7_fill_53178 2 = .ok (.aload_n 0, 1) := by decide +kernel
theorem dJ7_fill_53178_3 : decode cJ7_fill_53178 3 = .ok (.arraylength, 1) := by decide +kernel
theorem dJ7_fill_53178_4 : decode cJ7_fill_53178 4 = .ok (.istore_n 3, 1) := by decide +kernel
theorem dJ7_fill_53178_5 : decode cJ7_fill_53178 5 = .ok (.iload_n 2, 1) := by decide +kernel
theorem dJ7_fill_53178_6 : decode cJ7_fill_53178 6 = .ok (.iload_n 3, 1) := by decide +kernel
theorem dJ7_fill_53178_7 : decode cJ7_fill_53178 7 = .ok (.if_icmp .ge 13, 3) := by decide +kernel
theorem dJ7_fill_53178_10 : decode cJ7_fill_53178 10 = .ok (.aload_n 0, 1) := by decide +kernel
theorem dJ7_fill_53178_11 : decode cJ7_fill_53178 11 = .ok (.iload_n 2, 1) := by decide +kernel
theorem dJ7_fill_53178_12 : decode cJ7_fill_53178 12 = .ok (.iload_n 1, 1) := by decide +kernel
theorem dJ7_fill_53178_13 : decode cJ7_fill_53178 13 = .ok (.iastore, 1) := by decide +kernel
theorem dJ7_fill_53178_14 : decode cJ7_fill_53178 14 = .ok (.iinc 2 1, 3) := by decide +kernel
theorem dJ7_fill_53178_17 : decode cJ7_fill_53178 17 = .ok (.goto (-12), 3) := by decide +kernel
theorem dJ7_fill_53178_20 : decode cJ7_fill_53178 20 = .ok (.return_, 1) := by decide +kernel
theorem dJ9_max_7cf53_0 : decode cJ9_max_7cf53 0 = .ok (.iload_n 0, 1) := by decide +kernel
theorem dJ9_max_7cf53_1 : decode cJ9_max_7cf53 1 = .ok (.iload_n 1, 1) := by decide +kernel
theorem dJ9_max_7cf53_2 : decode cJ9_max_7cf53 2 = .ok (.if_icmp .lt 7, 3) := by decide +kernel
theorem dJ9_max_7cf53_5 : decode cJ9_max_7cf53 5 = .ok (.iload_n 0, 1) := by decide +kernel
theorem dJ9_max_7cf53_6 : decode cJ9_max_7cf53 6 = .ok (.goto 4, 3) := by decide +kernel
theorem dJ9_max_7cf53_9 : decode cJ9_max_7cf53 9 = .ok (.iload_n 1, 1) := by decide +kernel
theorem dJ9_max_7cf53_10 : decode cJ9_max_7cf53 10 = .ok (.ireturn, 1) := by decide +kernel
theorem dJ9_min_7cf53_0 : decode cJ9_min_7cf53 0 = .ok (.iload_n 0, 1) := by decide +kernel
theorem dJ9_min_7cf53_1 : decode cJ9_min_7cf53 1 = .ok (.iload_n 1, 1) := by decide +kernel
theorem dJ9_min_7cf53_2 : decode cJ9_min_7cf53 2 = .ok (.if_icmp .gt 7, 3) := by decide +kernel
theorem dJ9_min_7cf53_5 : decode cJ9_min_7cf53 5 = .ok (.iload_n 0, 1) := by decide +kernel
theorem dJ9_min_7cf53_6 : decode cJ9_min_7cf53 6 = .ok (.goto 4, 3) := by decide +kernel
theorem dJ9_min_7cf53_9 : decode cJ9_min_7cf53 9 = .ok (.iload_n 1, 1) := by decide +kernel
theorem dJ9_min_7cf53_10 : decode cJ9_min_7cf53 10 = .ok (.ireturn, 1) := by decide +kernel
theorem dJ13_bitCount_95d88_0 : decode cJ13_bitCount_95d88 0 = .ok (.lload_n 0, 1) := by decide +kernel
theorem dJ13_bitCount_95d88_1 : decode cJ13_bitCount_95d88 1 = .ok (.lload_n 0, 1) := by decide +kernel
theorem dJ13_bitCount_95d88_2 : decode cJ13_bitCount_95d88 2 = .ok (.iconst 1, 1) := by decide +kernel
theorem dJ13_bitCount_95d88_3 : decode cJ13_bitCount_95d88 3 = .ok (.lushr, 1) := by decide +kernel
theorem dJ13_bitCount_95d88_4 : decode cJ13_bitCount_95d88 4 = .ok (.ldc2_w 314, 3) := by decide +kernel
theorem dJ13_bitCount_95d88_7 : decode cJ13_bitCount_95d88 7 = .ok (.land, 1) := by decide +kernel
theorem dJ13_bitCount_95d88_8 : decode cJ13_bitCount_95d88 8 = .ok (.lsub, 1) := by decide +kernel
theorem dJ13_bitCount_95d88_9 : decode cJ13_bitCount_95d88 9 = .ok (.lstore_n 0, 1) := by decide +kernel
theorem dJ13_bitCount_95d88_10 : decode cJ13_bitCount_95d88 10 = .ok (.lload_n 0, 1) := by decide +kernel
theorem dJ13_bitCount_95d88_11 : decode cJ13_bitCount_95d88 11 = .ok (.ldc2_w 316, 3) := by decide +kernel
theorem dJ13_bitCount_95d88_14 : decode cJ13_bitCount_95d88 14 = .ok (.land, 1) := by decide +kernel
theorem dJ13_bitCount_95d88_15 : decode cJ13_bitCount_95d88 15 = .ok (.lload_n 0, 1) := by decide +kernel
theorem dJ13_bitCount_95d88_16 : decode cJ13_bitCount_95d88 16 = .ok (.iconst 2, 1) := by decide +kernel
theorem dJ13_bitCount_95d88_17 : decode cJ13_bitCount_95d88 17 = .ok (.lushr, 1) := by decide +kernel
theorem dJ13_bitCount_95d88_18 : decode cJ13_bitCount_95d88 18 = .ok (.ldc2_w 316, 3) := by decide +kernel
theorem dJ13_bitCount_95d88_21 : decode cJ13_bitCount_95d88 21 = .ok (.land, 1) := by decide +kernel
theorem dJ13_bitCount_95d88_22 : decode cJ13_bitCount_95d88 22 = .ok (.ladd, 1) := by decide +kernel
theorem dJ13_bitCount_95d88_23 : decode cJ13_bitCount_95d88 23 = .ok (.lstore_n 0, 1) := by decide +kernel
theorem dJ13_bitCount_95d88_24 : decode cJ13_bitCount_95d88 24 = .ok (.lload_n 0, 1) := by decide +kernel
theorem dJ13_bitCount_95d88_25 : decode cJ13_bitCount_95d88 25 = .ok (.lload_n 0, 1) := by decide +kernel
theorem dJ13_bitCount_95d88_26 : decode cJ13_bitCount_95d88 26 = .ok (.iconst 4, 1) := by decide +kernel
theorem dJ13_bitCount_95d88_27 : decode cJ13_bitCount_95d88 27 = .ok (.lushr, 1) := by decide +kernel
theorem dJ13_bitCount_95d88_28 : decode cJ13_bitCount_95d88 28 = .ok (.ladd, 1) := by decide +kernel
theorem dJ13_bitCount_95d88_29 : decode cJ13_bitCount_95d88 29 = .ok (.ldc2_w 318, 3) := by decide +kernel
theorem dJ13_bitCount_95d88_32 : decode cJ13_bitCount_95d88 32 = .ok (.land, 1) := by decide +kernel
theorem dJ13_bitCount_95d88_33 : decode cJ13_bitCount_95d88 33 = .ok (.lstore_n 0, 1) := by decide +kernel
theorem dJ13_bitCount_95d88_34 : decode cJ13_bitCount_95d88 34 = .ok (.lload_n 0, 1) := by decide +kernel
theorem dJ13_bitCount_95d88_35 : decode cJ13_bitCount_95d88 35 = .ok (.lload_n 0, 1) := by decide +kernel
theorem dJ13_bitCount_95d88_36 : decode cJ13_bitCount_95d88 36 = .ok (.bipush 8, 2) := by decide +kernel
theorem dJ13_bitCount_95d88_38 : decode cJ13_bitCount_95d88 38 = .ok (.lushr, 1) := by decide +kernel
theorem dJ13_bitCount_95d88_39 : decode cJ13_bitCount_95d88 39 = .ok (.ladd, 1) := by decide +kernel
theorem dJ13_bitCount_95d88_40 : decode cJ13_bitCount_95d88 40 = .ok (.lstore_n 0, 1) := by decide +kernel
theorem dJ13_bitCount_95d88_41 : decode cJ13_bitCount_95d88 41 = .ok (.lload_n 0, 1) := by decide +kernel
theorem dJ13_bitCount_95d88_42 : decode cJ13_bitCount_95d88 42 = .ok (.lload_n 0, 1) := by decide +kernel
theorem dJ13_bitCount_95d88_43 : decode cJ13_bitCount_95d88 43 = .ok (.bipush 16, 2) := by decide +kernel
theorem dJ13_bitCount_95d88_45 : decode cJ13_bitCount_95d88 45 = .ok (.lushr, 1) := by decide +kernel
theorem dJ13_bitCount_95d88_46 : decode cJ13_bitCount_95d88 46 = .ok (.ladd, 1) := by decide +kernel
theorem dJ13_bitCount_95d88_47 : decode cJ13_bitCount_95d88 47 = .ok (.lstore_n 0, 1) := by decide +kernel
theorem dJ13_bitCount_95d88_48 : decode cJ13_bitCount_95d88 48 = .ok (.lload_n 0, 1) := by decide +kernel
theorem dJ13_bitCount_95d88_49 : decode cJ13_bitCount_95d88 49 = .ok (.lload_n 0, 1) := by decide +kernel
theorem dJ13_bitCount_95d88_50 : decode cJ13_bitCount_95d88 50 = .ok (.bipush 32, 2) := by decide +kernel
theorem dJ13_bitCount_95d88_52 : decode cJ13_bitCount_95d88 52 = .ok (.lushr, 1) := by decide +kernel
theorem dJ13_bitCount_95d88_53 : decode cJ13_bitCount_95d88 53 = .ok (.ladd, 1) := by decide +kernel
theorem dJ13_bitCount_95d88_54 : decode cJ13_bitCount_95d88 54 = .ok (.lstore_n 0, 1) := by decide +kernel
theorem dJ13_bitCount_95d88_55 : decode cJ13_bitCount_95d88 55 = .ok (.lload_n 0, 1) := by decide +kernel
theorem dJ13_bitCount_95d88_56 : decode cJ13_bitCount_95d88 56 = .ok (.l2i, 1) := by decide +kernel
theorem dJ13_bitCount_95d88_57 : decode cJ13_bitCount_95d88 57 = .ok (.bipush 127, 2) := by decide +kernel
theorem dJ13_bitCount_95d88_59 : decode cJ13_bitCount_95d88 59 = .ok (.iand, 1) := by decide +kernel
theorem dJ13_bitCount_95d88_60 : decode cJ13_bitCount_95d88 60 = .ok (.ireturn, 1) := by decide +kernel
