theorem am_inof {ws : List Jvm.Cond} (ps : List Nat) (hp : ws = ps.filterMap (fun i => lw_tbl[i]?)) : ∀ w ∈ ws, w ∈ lw_tbl := by
  intro w hw
  rw [hp] at hw
  obtain ⟨i, -, hi⟩ := List.mem_filterMap.mp hw
  exact List.mem_of_getElem? hi
def RX0 : String := "WindPrice$Boat"
def TX0 : u_T := fun k => match k with
  | 0 => ("WindPrice$Boat", "kind", "I", false)
  | 1 => ("WindPrice$Boat", "m", "I", false)
  | 2 => ("WindPrice$Boat", "cell", "I", false)
  | 3 => ("WindPrice$Boat", "head", "I", false)
  | 4 => ("WindPrice$Boat", "limit", "I", false)
  | 5 => ("WindPrice$Boat", "owes", "I", false)
  | 6 => ("WindPrice$Boat", "used", "I", false)
  | 7 => ("WindPrice$Boat", "grant", "I", false)
  | _ => ("WindPrice$Boat", "took", "I", false)
def tyX0 : Nat → FieldType := fun k => match k with
  | 0 => .int
  | 1 => .int
  | 2 => .int
  | 3 => .int
  | 4 => .int
  | 5 => .int
  | 6 => .int
  | 7 => .int
  | _ => .int
theorem nmX0 : ∀ a, a < 9 → ∀ b, b < 9 → a ≠ b → (TX0 a).2.1 ≠ (TX0 b).2.1 := by decide +kernel
theorem tyX0_ok : ∀ k, k < 9 → parseFieldDescriptor (TX0 k).2.2.1 = some (tyX0 k) := by decide +kernel
theorem inX0 : ∀ w ∈ u_ws RX0 TX0 9, w ∈ lw_tbl := am_inof (ws := u_ws RX0 TX0 9) [137, 139, 141, 143, 145, 147, 149, 151, 153] (by decide +kernel)
def RX1 : String := "WindPrice$Desk"
def TX1 : u_T := fun k => match k with
  | 0 => ("WindPrice$Desk", "tape", "[I", true)
  | 1 => ("WindPrice$Desk", "waiting", "[I", true)
  | 2 => ("WindPrice$Desk", "bytes", "I", false)
  | 3 => ("WindPrice$Desk", "waits", "I", false)
  | _ => ("WindPrice$Desk", "z", "I", false)
def tyX1 : Nat → FieldType := fun k => match k with
  | 0 => .array .int
  | 1 => .array .int
  | 2 => .int
  | 3 => .int
  | _ => .int
theorem nmX1 : ∀ a, a < 5 → ∀ b, b < 5 → a ≠ b → (TX1 a).2.1 ≠ (TX1 b).2.1 := by decide +kernel
theorem tyX1_ok : ∀ k, k < 5 → parseFieldDescriptor (TX1 k).2.2.1 = some (tyX1 k) := by decide +kernel
theorem inX1 : ∀ w ∈ u_ws RX1 TX1 5, w ∈ lw_tbl := am_inof (ws := u_ws RX1 TX1 5) [209, 211, 213, 215, 217] (by decide +kernel)
def RX2 : String := "WindPrice$Reader"
def TX2 : u_T := fun k => match k with
  | 0 => ("WindPrice$Reader", "tape", "[I", true)
  | 1 => ("WindPrice$Reader", "words", "[I", true)
  | 2 => ("WindPrice$Reader", "names", "Ljava/lang/String;", false)
  | 3 => ("WindPrice$Reader", "bytes", "I", false)
  | 4 => ("WindPrice$Reader", "size", "I", false)
  | 5 => ("WindPrice$Reader", "place", "I", false)
  | _ => ("WindPrice$Reader", "faulty", "Z", false)
def tyX2 : Nat → FieldType := fun k => match k with
  | 0 => .array .int
  | 1 => .array .int
  | 2 => .object "java/lang/String"
  | 3 => .int
  | 4 => .int
  | 5 => .int
  | _ => .boolean
theorem nmX2 : ∀ a, a < 7 → ∀ b, b < 7 → a ≠ b → (TX2 a).2.1 ≠ (TX2 b).2.1 := by decide +kernel
theorem tyX2_ok : ∀ k, k < 7 → parseFieldDescriptor (TX2 k).2.2.1 = some (tyX2 k) := by decide +kernel
theorem inX2 : ∀ w ∈ u_ws RX2 TX2 7, w ∈ lw_tbl := am_inof (ws := u_ws RX2 TX2 7) [235, 237, 239, 241, 243, 245, 247] (by decide +kernel)
def RX3 : String := "WindPrice$Sea"
def TX3 : u_T := fun k => match k with
  | 0 => ("WindPrice$Sea", "hour", "I", false)
  | 1 => ("WindPrice$Sea", "size", "I", false)
  | 2 => ("WindPrice$Sea", "windAt", "[I", true)
  | 3 => ("WindPrice$Sea", "prices", "[I", true)
  | 4 => ("WindPrice$Sea", "boats", "[LWindPrice$Boat;", true)
  | 5 => ("WindPrice$Sea", "texts", "[LWindPrice$Text;", true)
  | 6 => ("WindPrice$Sea", "left", "[I", true)
  | 7 => ("WindPrice$Sea", "order", "[I", true)
  | _ => ("WindPrice$Sea", "stack", "[I", true)
def tyX3 : Nat → FieldType := fun k => match k with
  | 0 => .int
  | 1 => .int
  | 2 => .array .int
  | 3 => .array .int
  | 4 => .array (.object "WindPrice$Boat")
  | 5 => .array (.object "WindPrice$Text")
  | 6 => .array .int
  | 7 => .array .int
  | _ => .array .int
theorem nmX3 : ∀ a, a < 9 → ∀ b, b < 9 → a ≠ b → (TX3 a).2.1 ≠ (TX3 b).2.1 := by decide +kernel
theorem tyX3_ok : ∀ k, k < 9 → parseFieldDescriptor (TX3 k).2.2.1 = some (tyX3 k) := by decide +kernel
theorem inX3 : ∀ w ∈ u_ws RX3 TX3 9, w ∈ lw_tbl := am_inof (ws := u_ws RX3 TX3 9) [173, 175, 177, 179, 181, 183, 185, 187, 189] (by decide +kernel)
def RX4 : String := "WindPrice$Sheet"
def TX4 : u_T := fun k => match k with
  | 0 => ("WindPrice$Sheet", "numbers", "[I", true)
  | 1 => ("WindPrice$Sheet", "bits", "I", false)
  | _ => ("WindPrice$Sheet", "size", "I", false)
def tyX4 : Nat → FieldType := fun k => match k with
  | 0 => .array .int
  | 1 => .int
  | _ => .int
theorem nmX4 : ∀ a, a < 3 → ∀ b, b < 3 → a ≠ b → (TX4 a).2.1 ≠ (TX4 b).2.1 := by decide +kernel
theorem tyX4_ok : ∀ k, k < 3 → parseFieldDescriptor (TX4 k).2.2.1 = some (tyX4 k) := by decide +kernel
theorem inX4 : ∀ w ∈ u_ws RX4 TX4 3, w ∈ lw_tbl := am_inof (ws := u_ws RX4 TX4 3) [305, 307, 309] (by decide +kernel)
def RX5 : String := "WindPrice$Text"
def TX5 : u_T := fun k => match k with
  | _ => ("WindPrice$Text", "words", "[I", true)
def tyX5 : Nat → FieldType := fun k => match k with
  | _ => .array .int
theorem nmX5 : ∀ a, a < 1 → ∀ b, b < 1 → a ≠ b → (TX5 a).2.1 ≠ (TX5 b).2.1 := by decide +kernel
theorem tyX5_ok : ∀ k, k < 1 → parseFieldDescriptor (TX5 k).2.2.1 = some (tyX5 k) := by decide +kernel
theorem inX5 : ∀ w ∈ u_ws RX5 TX5 1, w ∈ lw_tbl := am_inof (ws := u_ws RX5 TX5 1) [669] (by decide +kernel)
def RX6 : String := "WindPrice$Voices"
def TX6 : u_T := fun k => match k with
  | 0 => ("WindPrice$Voices", "trace", "[I", true)
  | 1 => ("WindPrice$Voices", "bodies", "I", false)
  | 2 => ("WindPrice$Voices", "parted", "Z", false)
  | 3 => ("WindPrice$Voices", "kind", "I", false)
  | 4 => ("WindPrice$Voices", "m", "I", false)
  | _ => ("WindPrice$Voices", "k", "I", false)
def tyX6 : Nat → FieldType := fun k => match k with
  | 0 => .array .int
  | 1 => .int
  | 2 => .boolean
  | 3 => .int
  | 4 => .int
  | _ => .int
theorem nmX6 : ∀ a, a < 6 → ∀ b, b < 6 → a ≠ b → (TX6 a).2.1 ≠ (TX6 b).2.1 := by decide +kernel
theorem tyX6_ok : ∀ k, k < 6 → parseFieldDescriptor (TX6 k).2.2.1 = some (tyX6 k) := by decide +kernel
theorem inX6 : ∀ w ∈ u_ws RX6 TX6 6, w ∈ lw_tbl := am_inof (ws := u_ws RX6 TX6 6) [279, 281, 283, 285, 287, 289] (by decide +kernel)
def RX7 : String := "WindPrice$Voyage"
def TX7 : u_T := fun k => match k with
  | 0 => ("WindPrice$Voyage", "coins", "[I", true)
  | _ => ("WindPrice$Voyage", "later", "[I", true)
def tyX7 : Nat → FieldType := fun k => match k with
  | 0 => .array .int
  | _ => .array .int
theorem nmX7 : ∀ a, a < 2 → ∀ b, b < 2 → a ≠ b → (TX7 a).2.1 ≠ (TX7 b).2.1 := by decide +kernel
theorem tyX7_ok : ∀ k, k < 2 → parseFieldDescriptor (TX7 k).2.2.1 = some (tyX7 k) := by decide +kernel
theorem inX7 : ∀ w ∈ u_ws RX7 TX7 2, w ∈ lw_tbl := am_inof (ws := u_ws RX7 TX7 2) [259, 261] (by decide +kernel)
def RX8 : String := "WindPrice"
def TX8 : u_T := fun k => match k with
  | 0 => ("WindPrice", "now", "LWindPrice$Sea;", true)
  | 1 => ("WindPrice", "ahead", "LWindPrice$Sea;", true)
  | 2 => ("WindPrice", "keptSea", "LWindPrice$Sea;", true)
  | 3 => ("WindPrice", "desk", "LWindPrice$Desk;", true)
  | 4 => ("WindPrice", "keptDesk", "LWindPrice$Desk;", true)
  | 5 => ("WindPrice", "reader", "LWindPrice$Reader;", true)
  | 6 => ("WindPrice", "route", "LWindPrice$Voyage;", true)
  | 7 => ("WindPrice", "voices", "LWindPrice$Voices;", true)
  | 8 => ("WindPrice", "sheets", "[LWindPrice$Sheet;", true)
  | 9 => ("WindPrice", "refusals", "[I", true)
  | _ => ("WindPrice", "images", "I", false)
def tyX8 : Nat → FieldType := fun k => match k with
  | 0 => .object "WindPrice$Sea"
  | 1 => .object "WindPrice$Sea"
  | 2 => .object "WindPrice$Sea"
  | 3 => .object "WindPrice$Desk"
  | 4 => .object "WindPrice$Desk"
  | 5 => .object "WindPrice$Reader"
  | 6 => .object "WindPrice$Voyage"
  | 7 => .object "WindPrice$Voices"
  | 8 => .array (.object "WindPrice$Sheet")
  | 9 => .array .int
  | _ => .int
theorem nmX8 : ∀ a, a < 11 → ∀ b, b < 11 → a ≠ b → (TX8 a).2.1 ≠ (TX8 b).2.1 := by decide +kernel
theorem tyX8_ok : ∀ k, k < 11 → parseFieldDescriptor (TX8 k).2.2.1 = some (tyX8 k) := by decide +kernel
theorem inX8 : ∀ w ∈ u_ws RX8 TX8 11, w ∈ lw_tbl := am_inof (ws := u_ws RX8 TX8 11) [323, 325, 327, 329, 331, 333, 335, 337, 339, 341, 343] (by decide +kernel)
def RX9 : String := "WindPriceModel"
def TX9 : u_T := fun k => match k with
  | 0 => ("WindPriceModel", "s", "[I", true)
  | 1 => ("WindPriceModel", "kept", "[I", true)
  | 2 => ("WindPriceModel", "put", "[I", true)
  | 3 => ("WindPriceModel", "images", "I", false)
  | 4 => ("WindPriceModel", "errors", "[I", true)
  | 5 => ("WindPriceModel", "at", "I", false)
  | 6 => ("WindPriceModel", "open", "I", false)
  | 7 => ("WindPriceModel", "steps", "I", false)
  | 8 => ("WindPriceModel", "use", "I", false)
  | 9 => ("WindPriceModel", "step", "[I", true)
  | 10 => ("WindPriceModel", "named", "[I", true)
  | 11 => ("WindPriceModel", "pile", "[I", true)
  | 12 => ("WindPriceModel", "air", "[I", true)
  | 13 => ("WindPriceModel", "gone", "[I", true)
  | 14 => ("WindPriceModel", "took", "[I", true)
  | 15 => ("WindPriceModel", "coins", "[I", true)
  | 16 => ("WindPriceModel", "next", "[I", true)
  | 17 => ("WindPriceModel", "trace", "[I", true)
  | 18 => ("WindPriceModel", "traced", "I", false)
  | 19 => ("WindPriceModel", "speaks", "I", false)
  | 20 => ("WindPriceModel", "isParted", "Z", false)
  | 21 => ("WindPriceModel", "bits", "[I", true)
  | 22 => ("WindPriceModel", "sizes", "[I", true)
  | 23 => ("WindPriceModel", "number", "[I", true)
  | _ => ("WindPriceModel", "aside", "[I", true)
def tyX9 : Nat → FieldType := fun k => match k with
  | 0 => .array .int
  | 1 => .array .int
  | 2 => .array .int
  | 3 => .int
  | 4 => .array .int
  | 5 => .int
  | 6 => .int
  | 7 => .int
  | 8 => .int
  | 9 => .array .int
  | 10 => .array .int
  | 11 => .array .int
  | 12 => .array .int
  | 13 => .array .int
  | 14 => .array .int
  | 15 => .array .int
  | 16 => .array .int
  | 17 => .array .int
  | 18 => .int
  | 19 => .int
  | 20 => .boolean
  | 21 => .array .int
  | 22 => .array .int
  | 23 => .array .int
  | _ => .array .int
theorem nmX9 : ∀ a, a < 25 → ∀ b, b < 25 → a ≠ b → (TX9 a).2.1 ≠ (TX9 b).2.1 := by decide +kernel
theorem tyX9_ok : ∀ k, k < 25 → parseFieldDescriptor (TX9 k).2.2.1 = some (tyX9 k) := by decide +kernel
theorem inX9 : ∀ w ∈ u_ws RX9 TX9 25, w ∈ lw_tbl := am_inof (ws := u_ws RX9 TX9 25) [950, 952, 954, 956, 958, 960, 962, 964, 966, 968, 970, 972, 974, 976, 978, 980, 982, 984, 986, 988, 990, 992, 994, 996, 998] (by decide +kernel)
abbrev am_cls : List vw_C := [(RX0, TX0, 9), (RX1, TX1, 5), (RX2, TX2, 7), (RX3, TX3, 9), (RX4, TX4, 3), (RX5, TX5, 1), (RX6, TX6, 6), (RX7, TX7, 2), (RX8, TX8, 11), (RX9, TX9, 25)]
/-- the kind of a field: 0 an int, 1 a reference, 2 a truth -/
def fTy (ci k : Nat) : Nat := match ci with
  | 0 => (match k with | 0 => 0 | 1 => 0 | 2 => 0 | 3 => 0 | 4 => 0 | 5 => 0 | 6 => 0 | 7 => 0 | 8 => 0 | _ => 9)
  | 1 => (match k with | 0 => 1 | 1 => 1 | 2 => 0 | 3 => 0 | 4 => 0 | _ => 9)
  | 2 => (match k with | 0 => 1 | 1 => 1 | 2 => 1 | 3 => 0 | 4 => 0 | 5 => 0 | 6 => 2 | _ => 9)
  | 3 => (match k with | 0 => 0 | 1 => 0 | 2 => 1 | 3 => 1 | 4 => 1 | 5 => 1 | 6 => 1 | 7 => 1 | 8 => 1 | _ => 9)
  | 4 => (match k with | 0 => 1 | 1 => 0 | 2 => 0 | _ => 9)
  | 5 => (match k with | 0 => 1 | _ => 9)
  | 6 => (match k with | 0 => 1 | 1 => 0 | 2 => 2 | 3 => 0 | 4 => 0 | 5 => 0 | _ => 9)
  | 7 => (match k with | 0 => 1 | 1 => 1 | _ => 9)
  | 8 => (match k with | 0 => 1 | 1 => 1 | 2 => 1 | 3 => 1 | 4 => 1 | 5 => 1 | 6 => 1 | 7 => 1 | 8 => 1 | 9 => 1 | 10 => 0 | _ => 9)
  | 9 => (match k with | 0 => 1 | 1 => 1 | 2 => 1 | 3 => 0 | 4 => 1 | 5 => 0 | 6 => 0 | 7 => 0 | 8 => 0 | 9 => 1 | 10 => 1 | 11 => 1 | 12 => 1 | 13 => 1 | 14 => 1 | 15 => 1 | 16 => 1 | 17 => 1 | 18 => 0 | 19 => 0 | 20 => 2 | 21 => 1 | 22 => 1 | 23 => 1 | 24 => 1 | _ => 9)
  | 20 => (match k with | 0 => 1 | 1 => 0 | _ => 9)
  | _ => 9
def fN (ci : Nat) : Nat := match ci with | 0 => 9 | 1 => 5 | 2 => 7 | 3 => 9 | 4 => 3 | 5 => 1 | 6 => 6 | 7 => 2 | 8 => 11 | 9 => 25 | _ => 0
