def T_0 : u_T := fun k => match k with
  | 0 => ("SensorHub$Client", "present", "Z", false)
  | 1 => ("SensorHub$Client", "sensor", "I", false)
  | 2 => ("SensorHub$Client", "period", "I", false)
  | 3 => ("SensorHub$Client", "delay", "I", false)
  | 4 => ("SensorHub$Client", "stride", "I", false)
  | 5 => ("SensorHub$Client", "offered", "I", false)
  | 6 => ("SensorHub$Client", "delivered", "I", false)
  | 7 => ("SensorHub$Client", "missing", "I", false)
  | 8 => ("SensorHub$Client", "greatestAge", "I", false)
  | 9 => ("SensorHub$Client", "blamed", "I", false)
  | _ => ("SensorHub$Client", "latest", "[I", true)
def ty_0 : Nat → FieldType := fun k => match k with
  | 0 => .boolean
  | 1 => .int
  | 2 => .int
  | 3 => .int
  | 4 => .int
  | 5 => .int
  | 6 => .int
  | 7 => .int
  | 8 => .int
  | 9 => .int
  | _ => .array .int
theorem nm_0 : ∀ a, a < 11 → ∀ b, b < 11 → a ≠ b → (T_0 a).2.1 ≠ (T_0 b).2.1 := by decide +kernel
theorem tyok_0 : ∀ k, k < 11 → parseFieldDescriptor (T_0 k).2.2.1 = some (ty_0 k) := by decide +kernel
theorem clw_0 : ∀ w ∈ u_ws "SensorHub$Client" T_0 11, w ∈ gw := gw_L [252, 254, 256, 258, 260, 262, 264, 266, 268, 270, 272] (by decide +kernel) (by decide +kernel)
def T_1 : u_T := fun k => match k with
  | 0 => ("SensorHub$History", "size", "I", false)
  | 1 => ("SensorHub$History", "next", "I", false)
  | _ => ("SensorHub$History", "states", "[LSensorHub$Hub;", true)
def ty_1 : Nat → FieldType := fun k => match k with
  | 0 => .int
  | 1 => .int
  | _ => .array (.object "SensorHub$Hub")
theorem nm_1 : ∀ a, a < 3 → ∀ b, b < 3 → a ≠ b → (T_1 a).2.1 ≠ (T_1 b).2.1 := by decide +kernel
theorem tyok_1 : ∀ k, k < 3 → parseFieldDescriptor (T_1 k).2.2.1 = some (ty_1 k) := by decide +kernel
theorem clw_1 : ∀ w ∈ u_ws "SensorHub$History" T_1 3, w ∈ gw := gw_L [343, 345, 347] (by decide +kernel) (by decide +kernel)
def T_2 : u_T := fun k => match k with
  | 0 => ("SensorHub$Hub", "now", "I", false)
  | 1 => ("SensorHub$Hub", "restart", "I", false)
  | 2 => ("SensorHub$Hub", "energy", "I", false)
  | 3 => ("SensorHub$Hub", "capacity", "I", false)
  | 4 => ("SensorHub$Hub", "sensorCount", "I", false)
  | 5 => ("SensorHub$Hub", "mostEntries", "I", false)
  | 6 => ("SensorHub$Hub", "wakeCounts", "[I", true)
  | 7 => ("SensorHub$Hub", "sensors", "[LSensorHub$Sensor;", true)
  | 8 => ("SensorHub$Hub", "clients", "[LSensorHub$Client;", true)
  | 9 => ("SensorHub$Hub", "outages", "LSensorHub$Outages;", true)
  | _ => ("SensorHub$Hub", "store", "LSensorHub$Store;", true)
def ty_2 : Nat → FieldType := fun k => match k with
  | 0 => .int
  | 1 => .int
  | 2 => .int
  | 3 => .int
  | 4 => .int
  | 5 => .int
  | 6 => .array .int
  | 7 => .array (.object "SensorHub$Sensor")
  | 8 => .array (.object "SensorHub$Client")
  | 9 => .object "SensorHub$Outages"
  | _ => .object "SensorHub$Store"
theorem nm_2 : ∀ a, a < 11 → ∀ b, b < 11 → a ≠ b → (T_2 a).2.1 ≠ (T_2 b).2.1 := by decide +kernel
theorem tyok_2 : ∀ k, k < 11 → parseFieldDescriptor (T_2 k).2.2.1 = some (ty_2 k) := by decide +kernel
theorem clw_2 : ∀ w ∈ u_ws "SensorHub$Hub" T_2 11, w ∈ gw := gw_L [307, 309, 311, 313, 315, 317, 319, 321, 323, 325, 327] (by decide +kernel) (by decide +kernel)
def T_3 : u_T := fun k => match k with
  | 0 => ("SensorHub$Outages", "size", "I", false)
  | 1 => ("SensorHub$Outages", "sensors", "[I", true)
  | 2 => ("SensorHub$Outages", "firsts", "[I", true)
  | _ => ("SensorHub$Outages", "lasts", "[I", true)
def ty_3 : Nat → FieldType := fun k => match k with
  | 0 => .int
  | 1 => .array .int
  | 2 => .array .int
  | _ => .array .int
theorem nm_3 : ∀ a, a < 4 → ∀ b, b < 4 → a ≠ b → (T_3 a).2.1 ≠ (T_3 b).2.1 := by decide +kernel
theorem tyok_3 : ∀ k, k < 4 → parseFieldDescriptor (T_3 k).2.2.1 = some (ty_3 k) := by decide +kernel
theorem clw_3 : ∀ w ∈ u_ws "SensorHub$Outages" T_3 4, w ∈ gw := gw_L [115, 117, 119, 121] (by decide +kernel) (by decide +kernel)
def T_4 : u_T := fun k => match k with
  | 0 => ("SensorHub$Sensor", "kind", "I", false)
  | 1 => ("SensorHub$Sensor", "least", "I", false)
  | 2 => ("SensorHub$Sensor", "steps", "I", false)
  | 3 => ("SensorHub$Sensor", "slope", "I", false)
  | 4 => ("SensorHub$Sensor", "offset", "I", false)
  | 5 => ("SensorHub$Sensor", "jitter", "I", false)
  | 6 => ("SensorHub$Sensor", "cost", "I", false)
  | 7 => ("SensorHub$Sensor", "first", "I", false)
  | 8 => ("SensorHub$Sensor", "second", "I", false)
  | 9 => ("SensorHub$Sensor", "source", "I", false)
  | 10 => ("SensorHub$Sensor", "demand", "I", false)
  | 11 => ("SensorHub$Sensor", "period", "I", false)
  | 12 => ("SensorHub$Sensor", "samples", "I", false)
  | 13 => ("SensorHub$Sensor", "fresh", "Z", false)
  | 14 => ("SensorHub$Sensor", "stamp", "I", false)
  | 15 => ("SensorHub$Sensor", "value", "I", false)
  | 16 => ("SensorHub$Sensor", "valued", "I", false)
  | _ => ("SensorHub$Sensor", "recent", "[I", true)
def ty_4 : Nat → FieldType := fun k => match k with
  | 0 => .int
  | 1 => .int
  | 2 => .int
  | 3 => .int
  | 4 => .int
  | 5 => .int
  | 6 => .int
  | 7 => .int
  | 8 => .int
  | 9 => .int
  | 10 => .int
  | 11 => .int
  | 12 => .int
  | 13 => .boolean
  | 14 => .int
  | 15 => .int
  | 16 => .int
  | _ => .array .int
theorem nm_4 : ∀ a, a < 18 → ∀ b, b < 18 → a ≠ b → (T_4 a).2.1 ≠ (T_4 b).2.1 := by decide +kernel
theorem tyok_4 : ∀ k, k < 18 → parseFieldDescriptor (T_4 k).2.2.1 = some (ty_4 k) := by decide +kernel
theorem clw_4 : ∀ w ∈ u_ws "SensorHub$Sensor" T_4 18, w ∈ gw := gw_L [184, 186, 188, 190, 192, 194, 196, 198, 200, 202, 204, 206, 208, 210, 212, 214, 216, 218] (by decide +kernel) (by decide +kernel)
def T_5 : u_T := fun k => match k with
  | 0 => ("SensorHub$Store", "size", "I", false)
  | _ => ("SensorHub$Store", "entries", "[I", true)
def ty_5 : Nat → FieldType := fun k => match k with
  | 0 => .int
  | _ => .array .int
theorem nm_5 : ∀ a, a < 2 → ∀ b, b < 2 → a ≠ b → (T_5 a).2.1 ≠ (T_5 b).2.1 := by decide +kernel
theorem tyok_5 : ∀ k, k < 2 → parseFieldDescriptor (T_5 k).2.2.1 = some (ty_5 k) := by decide +kernel
theorem clw_5 : ∀ w ∈ u_ws "SensorHub$Store" T_5 2, w ∈ gw := gw_L [135, 137] (by decide +kernel) (by decide +kernel)
def T_6 : u_T := fun k => match k with
  | 0 => ("SensorHub$Text", "size", "I", false)
  | 1 => ("SensorHub$Text", "codes", "[I", true)
  | 2 => ("SensorHub$Text", "failed", "Z", false)
  | 3 => ("SensorHub$Text", "type", "I", false)
  | 4 => ("SensorHub$Text", "start", "I", false)
  | _ => ("SensorHub$Text", "behind", "I", false)
def ty_6 : Nat → FieldType := fun k => match k with
  | 0 => .int
  | 1 => .array .int
  | 2 => .boolean
  | 3 => .int
  | 4 => .int
  | _ => .int
theorem nm_6 : ∀ a, a < 6 → ∀ b, b < 6 → a ≠ b → (T_6 a).2.1 ≠ (T_6 b).2.1 := by decide +kernel
theorem tyok_6 : ∀ k, k < 6 → parseFieldDescriptor (T_6 k).2.2.1 = some (ty_6 k) := by decide +kernel
theorem clw_6 : ∀ w ∈ u_ws "SensorHub$Text" T_6 6, w ∈ gw := gw_L [363, 365, 367, 369, 371, 373] (by decide +kernel) (by decide +kernel)
def T_7 : u_T := fun k => match k with
  | 0 => ("SensorHub", "hub", "LSensorHub$Hub;", true)
  | 1 => ("SensorHub", "trial", "LSensorHub$Hub;", true)
  | 2 => ("SensorHub", "history", "LSensorHub$History;", true)
  | _ => ("SensorHub", "text", "LSensorHub$Text;", true)
def ty_7 : Nat → FieldType := fun k => match k with
  | 0 => .object "SensorHub$Hub"
  | 1 => .object "SensorHub$Hub"
  | 2 => .object "SensorHub$History"
  | _ => .object "SensorHub$Text"
theorem nm_7 : ∀ a, a < 4 → ∀ b, b < 4 → a ≠ b → (T_7 a).2.1 ≠ (T_7 b).2.1 := by decide +kernel
theorem tyok_7 : ∀ k, k < 4 → parseFieldDescriptor (T_7 k).2.2.1 = some (ty_7 k) := by decide +kernel
theorem clw_7 : ∀ w ∈ u_ws "SensorHub" T_7 4, w ∈ gw := gw_L [380, 382, 384, 386] (by decide +kernel) (by decide +kernel)
def T_8 : u_T := fun k => match k with
  | 0 => ("SensorHubModel", "thrown", "I", false)
  | 1 => ("SensorHubModel", "s", "[I", true)
  | 2 => ("SensorHubModel", "saved", "[I", true)
  | 3 => ("SensorHubModel", "savedMany", "I", false)
  | 4 => ("SensorHubModel", "text", "[I", true)
  | 5 => ("SensorHubModel", "length", "I", false)
  | 6 => ("SensorHubModel", "aside", "[I", true)
  | 7 => ("SensorHubModel", "demands", "[I", true)
  | 8 => ("SensorHubModel", "periods", "[I", true)
  | 9 => ("SensorHubModel", "oldPeriods", "[I", true)
  | 10 => ("SensorHubModel", "isFresh", "[Z", true)
  | 11 => ("SensorHubModel", "next", "I", false)
  | 12 => ("SensorHubModel", "start", "I", false)
  | 13 => ("SensorHubModel", "token", "I", false)
  | 14 => ("SensorHubModel", "number", "I", false)
  | _ => ("SensorHubModel", "isWrong", "Z", false)
def ty_8 : Nat → FieldType := fun k => match k with
  | 0 => .int
  | 1 => .array .int
  | 2 => .array .int
  | 3 => .int
  | 4 => .array .int
  | 5 => .int
  | 6 => .array .int
  | 7 => .array .int
  | 8 => .array .int
  | 9 => .array .int
  | 10 => .array .boolean
  | 11 => .int
  | 12 => .int
  | 13 => .int
  | 14 => .int
  | _ => .boolean
theorem nm_8 : ∀ a, a < 16 → ∀ b, b < 16 → a ≠ b → (T_8 a).2.1 ≠ (T_8 b).2.1 := by decide +kernel
theorem tyok_8 : ∀ k, k < 16 → parseFieldDescriptor (T_8 k).2.2.1 = some (ty_8 k) := by decide +kernel
theorem clw_8 : ∀ w ∈ u_ws "SensorHubModel" T_8 16, w ∈ gw := gw_L [908, 910, 912, 914, 916, 918, 920, 922, 924, 926, 928, 930, 932, 934, 936, 938] (by decide +kernel) (by decide +kernel)
abbrev classes : List vw_C := [("SensorHub$Client", T_0, 11), ("SensorHub$History", T_1, 3), ("SensorHub$Hub", T_2, 11), ("SensorHub$Outages", T_3, 4), ("SensorHub$Sensor", T_4, 18), ("SensorHub$Store", T_5, 2), ("SensorHub$Text", T_6, 6), ("SensorHub", T_7, 4), ("SensorHubModel", T_8, 16)]
/-- which fields are numbers (none), which are references, and to which cell behind the object's own -/
def spc0 : Nat → List (Option Nat) := fun κ => match κ with
  | 1 => [none, none, none, none, none, none, none, none, none, none, some 1]
  | 2 => [none, none, some 1]
  | 3 => [none, none, none, none, none, none, some 1, some 2, some 3, some 4, some 8]
  | 4 => [none, some 1, some 2, some 3]
  | 5 => [none, none, none, none, none, none, none, none, none, none, none, none, none, none, none, none, none, some 1]
  | 6 => [none, some 1]
  | 7 => [none, some 1, none, none, none, none]
  | 8 => [some 1, some 43, some 85, some 297]
  | 9 => [none, some 1, some 2, none, some 3, none, some 4, some 5, some 6, some 7, some 8, none, none, none, none, none]
  | _ => []
/-- of an object under construction: its first j references are set -/
def spp : List (Option Nat) → Nat → List (Option Nat)
  | [], _ => []
  | none :: r, j => none :: spp r j
  | some _ :: r, 0 => some 0 :: spp r 0
  | some d :: r, j + 1 => some d :: spp r j
def spc (κ : Nat) : List (Option Nat) := if 100 ≤ κ then spp (spc0 ((κ - 100) / 10 + 1)) ((κ - 100) % 10) else spc0 κ
def cix (κ : Nat) : Nat := if 100 ≤ κ then (κ - 100) / 10 else κ - 1
theorem cls_in : ∀ (ci : Nat) (C : String) (T : u_T) (N : Nat), classes[ci]? = some (C, T, N) → ∀ w ∈ u_ws C T N, w ∈ gw := by
  intro ci C T N h
  match ci, h with
  | 0, h => cases h; exact clw_0
  | 1, h => cases h; exact clw_1
  | 2, h => cases h; exact clw_2
  | 3, h => cases h; exact clw_3
  | 4, h => cases h; exact clw_4
  | 5, h => cases h; exact clw_5
  | 6, h => cases h; exact clw_6
  | 7, h => cases h; exact clw_7
  | 8, h => cases h; exact clw_8
  | k + 9, h => simp [classes] at h
theorem cls_ty : ∀ (ci : Nat) (C : String) (T : u_T) (N : Nat), classes[ci]? = some (C, T, N) → ∃ ty0 : Nat → FieldType, (∀ k, k < N → parseFieldDescriptor (T k).2.2.1 = some (ty0 k)) ∧ ∀ a, a < N → ∀ b, b < N → a ≠ b → (T a).2.1 ≠ (T b).2.1 := by
  intro ci C T N h
  match ci, h with
  | 0, h => cases h; exact ⟨ty_0, tyok_0, nm_0⟩
  | 1, h => cases h; exact ⟨ty_1, tyok_1, nm_1⟩
  | 2, h => cases h; exact ⟨ty_2, tyok_2, nm_2⟩
  | 3, h => cases h; exact ⟨ty_3, tyok_3, nm_3⟩
  | 4, h => cases h; exact ⟨ty_4, tyok_4, nm_4⟩
  | 5, h => cases h; exact ⟨ty_5, tyok_5, nm_5⟩
  | 6, h => cases h; exact ⟨ty_6, tyok_6, nm_6⟩
  | 7, h => cases h; exact ⟨ty_7, tyok_7, nm_7⟩
  | 8, h => cases h; exact ⟨ty_8, tyok_8, nm_8⟩
  | k + 9, h => simp [classes] at h
