-- the classes: fields in the order of their slots, their types
def zt_Key : u_T := fun k => match k with
  | 0 => ("SortUtility$Key", "field", "LSortUtility$Part;", true)
  | 1 => ("SortUtility$Key", "down", "Z", true)
  | _ => ("SortUtility$Key", "asNumber", "Z", true)
def zy_Key : Nat → FieldType := fun k => match k with
  | 0 => .object "SortUtility$Part"
  | 1 => .boolean
  | _ => .boolean
theorem zn_Key : ∀ a, a < 3 → ∀ b, b < 3 → a ≠ b → (zt_Key a).2.1 ≠ (zt_Key b).2.1 := by decide +kernel
theorem zyo_Key : ∀ k, k < 3 → parseFieldDescriptor (zt_Key k).2.2.1 = some (zy_Key k) := by decide +kernel
theorem zin_Key : ∀ w ∈ u_ws "SortUtility$Key" zt_Key 3, w ∈ tables_1 := by decide +kernel
def zt_Part : u_T := fun k => match k with
  | 0 => ("SortUtility$Part", "text", "[B", true)
  | 1 => ("SortUtility$Part", "from", "I", true)
  | _ => ("SortUtility$Part", "length", "I", true)
def zy_Part : Nat → FieldType := fun k => match k with
  | 0 => .array .byte
  | 1 => .int
  | _ => .int
theorem zn_Part : ∀ a, a < 3 → ∀ b, b < 3 → a ≠ b → (zt_Part a).2.1 ≠ (zt_Part b).2.1 := by decide +kernel
theorem zyo_Part : ∀ k, k < 3 → parseFieldDescriptor (zt_Part k).2.2.1 = some (zy_Part k) := by decide +kernel
theorem zin_Part : ∀ w ∈ u_ws "SortUtility$Part" zt_Part 3, w ∈ tables_1 := by decide +kernel
def zt_Reader : u_T := fun k => match k with
  | 0 => ("SortUtility$Reader", "signs", "[I", true)
  | 1 => ("SortUtility$Reader", "end", "I", true)
  | 2 => ("SortUtility$Reader", "found", "LSortUtility$Statements;", true)
  | 3 => ("SortUtility$Reader", "wordsSeen", "I", false)
  | _ => ("SortUtility$Reader", "at", "I", false)
def zy_Reader : Nat → FieldType := fun k => match k with
  | 0 => .array .int
  | 1 => .int
  | 2 => .object "SortUtility$Statements"
  | 3 => .int
  | _ => .int
theorem zn_Reader : ∀ a, a < 5 → ∀ b, b < 5 → a ≠ b → (zt_Reader a).2.1 ≠ (zt_Reader b).2.1 := by decide +kernel
theorem zyo_Reader : ∀ k, k < 5 → parseFieldDescriptor (zt_Reader k).2.2.1 = some (zy_Reader k) := by decide +kernel
theorem zin_Reader : ∀ w ∈ u_ws "SortUtility$Reader" zt_Reader 5, w ∈ tables_1 := by decide +kernel
def zt_Row : u_T := fun k => match k with
  | 0 => ("SortUtility$Row", "bytes", "[B", true)
  | 1 => ("SortUtility$Row", "length", "I", false)
  | 2 => ("SortUtility$Row", "input", "I", false)
  | 3 => ("SortUtility$Row", "number", "I", false)
  | _ => ("SortUtility$Row", "madeOf", "I", false)
def zy_Row : Nat → FieldType := fun k => match k with
  | 0 => .array .byte
  | 1 => .int
  | 2 => .int
  | 3 => .int
  | _ => .int
theorem zn_Row : ∀ a, a < 5 → ∀ b, b < 5 → a ≠ b → (zt_Row a).2.1 ≠ (zt_Row b).2.1 := by decide +kernel
theorem zyo_Row : ∀ k, k < 5 → parseFieldDescriptor (zt_Row k).2.2.1 = some (zy_Row k) := by decide +kernel
theorem zin_Row : ∀ w ∈ u_ws "SortUtility$Row" zt_Row 5, w ∈ tables_1 := by decide +kernel
def zt_Rows : u_T := fun k => match k with
  | 0 => ("SortUtility$Rows", "made", "Ljava/util/ArrayList;", true)
  | _ => ("SortUtility$Rows", "size", "I", false)
def zy_Rows : Nat → FieldType := fun k => match k with
  | 0 => .object "java/util/ArrayList"
  | _ => .int
theorem zn_Rows : ∀ a, a < 2 → ∀ b, b < 2 → a ≠ b → (zt_Rows a).2.1 ≠ (zt_Rows b).2.1 := by decide +kernel
theorem zyo_Rows : ∀ k, k < 2 → parseFieldDescriptor (zt_Rows k).2.2.1 = some (zy_Rows k) := by decide +kernel
theorem zin_Rows : ∀ w ∈ u_ws "SortUtility$Rows" zt_Rows 2, w ∈ tables_1 := by decide +kernel
def zt_Statements : u_T := fun k => match k with
  | 0 => ("SortUtility$Statements", "keys", "Ljava/util/ArrayList;", true)
  | 1 => ("SortUtility$Statements", "tests", "Ljava/util/ArrayList;", true)
  | 2 => ("SortUtility$Statements", "sums", "Ljava/util/ArrayList;", true)
  | 3 => ("SortUtility$Statements", "pieces", "Ljava/util/ArrayList;", true)
  | 4 => ("SortUtility$Statements", "omits", "Z", false)
  | 5 => ("SortUtility$Statements", "skip", "I", false)
  | 6 => ("SortUtility$Statements", "stop", "I", false)
  | _ => ("SortUtility$Statements", "size", "I", false)
def zy_Statements : Nat → FieldType := fun k => match k with
  | 0 => .object "java/util/ArrayList"
  | 1 => .object "java/util/ArrayList"
  | 2 => .object "java/util/ArrayList"
  | 3 => .object "java/util/ArrayList"
  | 4 => .boolean
  | 5 => .int
  | 6 => .int
  | _ => .int
theorem zn_Statements : ∀ a, a < 8 → ∀ b, b < 8 → a ≠ b → (zt_Statements a).2.1 ≠ (zt_Statements b).2.1 := by decide +kernel
theorem zyo_Statements : ∀ k, k < 8 → parseFieldDescriptor (zt_Statements k).2.2.1 = some (zy_Statements k) := by decide +kernel
theorem zin_Statements : ∀ w ∈ u_ws "SortUtility$Statements" zt_Statements 8, w ∈ tables_1 := by decide +kernel
def zt_Test : u_T := fun k => match k with
  | 0 => ("SortUtility$Test", "isOr", "Z", true)
  | 1 => ("SortUtility$Test", "left", "LSortUtility$Part;", true)
  | 2 => ("SortUtility$Test", "relation", "I", true)
  | _ => ("SortUtility$Test", "right", "LSortUtility$Part;", true)
def zy_Test : Nat → FieldType := fun k => match k with
  | 0 => .boolean
  | 1 => .object "SortUtility$Part"
  | 2 => .int
  | _ => .object "SortUtility$Part"
theorem zn_Test : ∀ a, a < 4 → ∀ b, b < 4 → a ≠ b → (zt_Test a).2.1 ≠ (zt_Test b).2.1 := by decide +kernel
theorem zyo_Test : ∀ k, k < 4 → parseFieldDescriptor (zt_Test k).2.2.1 = some (zy_Test k) := by decide +kernel
theorem zin_Test : ∀ w ∈ u_ws "SortUtility$Test" zt_Test 4, w ∈ tables_1 := by decide +kernel
def zt_SortUtility : u_T := fun k => match k with
  | 0 => ("SortUtility", "signs", "[I", true)
  | 1 => ("SortUtility", "signCount", "I", false)
  | 2 => ("SortUtility", "statements", "LSortUtility$Statements;", false)
  | 3 => ("SortUtility", "records", "LSortUtility$Rows;", true)
  | 4 => ("SortUtility", "laidOut", "LSortUtility$Rows;", true)
  | 5 => ("SortUtility", "refused", "LSortUtility$Rows;", true)
  | 6 => ("SortUtility", "joined", "LSortUtility$Rows;", true)
  | 7 => ("SortUtility", "unmatched", "Ljava/util/ArrayList;", true)
  | 8 => ("SortUtility", "exitDoes", "I", false)
  | 9 => ("SortUtility", "exitStops", "Z", false)
  | 10 => ("SortUtility", "picked", "Ljava/util/ArrayList;", true)
  | 11 => ("SortUtility", "held", "LSortUtility$Row;", true)
  | 12 => ("SortUtility", "newSums", "[J", true)
  | 13 => ("SortUtility", "arrivedAtExit", "I", false)
  | _ => ("SortUtility", "latestCode", "I", false)
def zy_SortUtility : Nat → FieldType := fun k => match k with
  | 0 => .array .int
  | 1 => .int
  | 2 => .object "SortUtility$Statements"
  | 3 => .object "SortUtility$Rows"
  | 4 => .object "SortUtility$Rows"
  | 5 => .object "SortUtility$Rows"
  | 6 => .object "SortUtility$Rows"
  | 7 => .object "java/util/ArrayList"
  | 8 => .int
  | 9 => .boolean
  | 10 => .object "java/util/ArrayList"
  | 11 => .object "SortUtility$Row"
  | 12 => .array .long
  | 13 => .int
  | _ => .int
theorem zn_SortUtility : ∀ a, a < 15 → ∀ b, b < 15 → a ≠ b → (zt_SortUtility a).2.1 ≠ (zt_SortUtility b).2.1 := by decide +kernel
theorem zyo_SortUtility : ∀ k, k < 15 → parseFieldDescriptor (zt_SortUtility k).2.2.1 = some (zy_SortUtility k) := by decide +kernel
theorem zin_SortUtility : ∀ w ∈ u_ws "SortUtility" zt_SortUtility 15, w ∈ tables_1 := by decide +kernel
def zt_Model : u_T := fun k => match k with
  | 0 => ("SortUtilityModel", "code", "I", false)
  | 1 => ("SortUtilityModel", "text", "[I", true)
  | 2 => ("SortUtilityModel", "length", "I", false)
  | 3 => ("SortUtilityModel", "place", "I", false)
  | 4 => ("SortUtilityModel", "words", "[I", true)
  | 5 => ("SortUtilityModel", "counts", "[I", true)
  | 6 => ("SortUtilityModel", "limits", "[I", true)
  | 7 => ("SortUtilityModel", "keys", "[I", true)
  | 8 => ("SortUtilityModel", "tests", "[I", true)
  | 9 => ("SortUtilityModel", "sums", "[I", true)
  | 10 => ("SortUtilityModel", "pieces", "[I", true)
  | 11 => ("SortUtilityModel", "letters", "[I", true)
  | 12 => ("SortUtilityModel", "bytes", "[I", true)
  | 13 => ("SortUtilityModel", "lengths", "[I", true)
  | 14 => ("SortUtilityModel", "inputs", "[I", true)
  | 15 => ("SortUtilityModel", "records", "I", false)
  | 16 => ("SortUtilityModel", "does", "I", false)
  | 17 => ("SortUtilityModel", "result", "I", false)
  | 18 => ("SortUtilityModel", "stops", "Z", false)
  | 19 => ("SortUtilityModel", "copy", "[I", true)
  | 20 => ("SortUtilityModel", "copyLengths", "[I", true)
  | 21 => ("SortUtilityModel", "made", "[I", true)
  | 22 => ("SortUtilityModel", "firsts", "[I", true)
  | 23 => ("SortUtilityModel", "order", "[I", true)
  | 24 => ("SortUtilityModel", "out", "[I", true)
  | 25 => ("SortUtilityModel", "outLengths", "[I", true)
  | 26 => ("SortUtilityModel", "outs", "[I", true)
  | 27 => ("SortUtilityModel", "madeOf", "[I", true)
  | 28 => ("SortUtilityModel", "firstOf", "[I", true)
  | 29 => ("SortUtilityModel", "lefts", "[I", true)
  | 30 => ("SortUtilityModel", "left", "I", false)
  | 31 => ("SortUtilityModel", "oldWords", "[I", true)
  | 32 => ("SortUtilityModel", "oldCounts", "[I", true)
  | 33 => ("SortUtilityModel", "oldLimits", "[I", true)
  | 34 => ("SortUtilityModel", "oldKeys", "[I", true)
  | 35 => ("SortUtilityModel", "oldTests", "[I", true)
  | 36 => ("SortUtilityModel", "oldSums", "[I", true)
  | 37 => ("SortUtilityModel", "oldPieces", "[I", true)
  | 38 => ("SortUtilityModel", "oldLetters", "[I", true)
  | 39 => ("SortUtilityModel", "total", "[J", true)
  | 40 => ("SortUtilityModel", "one", "[I", true)
  | _ => ("SortUtilityModel", "oneLengths", "[I", true)
def zy_Model : Nat → FieldType := fun k => match k with
  | 0 => .int
  | 1 => .array .int
  | 2 => .int
  | 3 => .int
  | 4 => .array .int
  | 5 => .array .int
  | 6 => .array .int
  | 7 => .array .int
  | 8 => .array .int
  | 9 => .array .int
  | 10 => .array .int
  | 11 => .array .int
  | 12 => .array .int
  | 13 => .array .int
  | 14 => .array .int
  | 15 => .int
  | 16 => .int
  | 17 => .int
  | 18 => .boolean
  | 19 => .array .int
  | 20 => .array .int
  | 21 => .array .int
  | 22 => .array .int
  | 23 => .array .int
  | 24 => .array .int
  | 25 => .array .int
  | 26 => .array .int
  | 27 => .array .int
  | 28 => .array .int
  | 29 => .array .int
  | 30 => .int
  | 31 => .array .int
  | 32 => .array .int
  | 33 => .array .int
  | 34 => .array .int
  | 35 => .array .int
  | 36 => .array .int
  | 37 => .array .int
  | 38 => .array .int
  | 39 => .array .long
  | 40 => .array .int
  | _ => .array .int
theorem zn_Model : ∀ a, a < 42 → ∀ b, b < 42 → a ≠ b → (zt_Model a).2.1 ≠ (zt_Model b).2.1 := by decide +kernel
theorem zyo_Model : ∀ k, k < 42 → parseFieldDescriptor (zt_Model k).2.2.1 = some (zy_Model k) := by decide +kernel
theorem zin_Model : ∀ w ∈ u_ws "SortUtilityModel" zt_Model 42, w ∈ tables_1 := by decide +kernel
def zt_ArrayList : u_T := fun k => match k with
  | 0 => ("java/util/AbstractList", "modCount", "I", false)
  | 1 => ("java/util/ArrayList", "elementData", "[Ljava/lang/Object;", false)
  | _ => ("java/util/ArrayList", "size", "I", false)
def zy_ArrayList : Nat → FieldType := fun k => match k with
  | 0 => .int
  | 1 => .array (.object "java/lang/Object")
  | _ => .int
theorem zn_ArrayList : ∀ a, a < 3 → ∀ b, b < 3 → a ≠ b → (zt_ArrayList a).2.1 ≠ (zt_ArrayList b).2.1 := by decide +kernel
theorem zyo_ArrayList : ∀ k, k < 3 → parseFieldDescriptor (zt_ArrayList k).2.2.1 = some (zy_ArrayList k) := by decide +kernel
theorem zin_ArrayList : ∀ w ∈ u_ws "java/util/ArrayList" zt_ArrayList 3, w ∈ tables_1 := by decide +kernel
abbrev zcl : List vw_C := [("SortUtility$Key", zt_Key, 3), ("SortUtility$Part", zt_Part, 3), ("SortUtility$Reader", zt_Reader, 5), ("SortUtility$Row", zt_Row, 5), ("SortUtility$Rows", zt_Rows, 2), ("SortUtility$Statements", zt_Statements, 8), ("SortUtility$Test", zt_Test, 4), ("SortUtility", zt_SortUtility, 15), ("SortUtilityModel", zt_Model, 42), ("java/util/ArrayList", zt_ArrayList, 3)]
/-- what the k-th kind of object holds, by its int fields and its references -/
def zfs (k : Nat) (i : Nat → Int32) (f : Nat → Option Nat) : List Value := match k with
  | 1 => [va_rf (f 0), .int (i 1), .int (i 2)]
  | 2 => [va_rf (f 0), .int (i 1), .int (i 2)]
  | 3 => [va_rf (f 0), .int (i 1), va_rf (f 2), .int (i 3), .int (i 4)]
  | 4 => [va_rf (f 0), .int (i 1), .int (i 2), .int (i 3), .int (i 4)]
  | 5 => [va_rf (f 0), .int (i 1)]
  | 6 => [va_rf (f 0), va_rf (f 1), va_rf (f 2), va_rf (f 3), .int (i 4), .int (i 5), .int (i 6), .int (i 7)]
  | 7 => [.int (i 0), va_rf (f 1), .int (i 2), va_rf (f 3)]
  | 8 => [va_rf (f 0), .int (i 1), va_rf (f 2), va_rf (f 3), va_rf (f 4), va_rf (f 5), va_rf (f 6), va_rf (f 7), .int (i 8), .int (i 9), va_rf (f 10), va_rf (f 11), va_rf (f 12), .int (i 13), .int (i 14)]
  | 9 => [.int (i 0), va_rf (f 1), .int (i 2), .int (i 3), va_rf (f 4), va_rf (f 5), va_rf (f 6), va_rf (f 7), va_rf (f 8), va_rf (f 9), va_rf (f 10), va_rf (f 11), va_rf (f 12), va_rf (f 13), va_rf (f 14), .int (i 15), .int (i 16), .int (i 17), .int (i 18), va_rf (f 19), va_rf (f 20), va_rf (f 21), va_rf (f 22), va_rf (f 23), va_rf (f 24), va_rf (f 25), va_rf (f 26), va_rf (f 27), va_rf (f 28), va_rf (f 29), .int (i 30), va_rf (f 31), va_rf (f 32), va_rf (f 33), va_rf (f 34), va_rf (f 35), va_rf (f 36), va_rf (f 37), va_rf (f 38), va_rf (f 39), va_rf (f 40), va_rf (f 41)]
  | 10 => [.int (i 0), va_rf (f 1), .int (i 2)]
  | _ => []
/-- the tables' numbers of classes and slots; numbers (of array classes, of constants); the heap at the law's entry -/
abbrev zE : Type := va_G × (Nat → Nat) × Heap
/-- the heap: kinds, lengths, ints, references, longs, by address and place -/
abbrev zH : Type := (Nat → Nat) × (Nat → Nat) × (Nat → Nat → Int32) × (Nat → Nat → Option Nat) × (Nat → Nat → Int64)
/-- how a method ends: a value or none, or an exception of this class -/
abbrev zO : Type := Option Value ⊕ String
def zcell (E : zE) (h : zH) (a : Nat) : va_E :=
  if h.1 a = 20 then .inl (E.2.1 0, h.2.1 a, .inl (h.2.2.1 a)) else
  if h.1 a = 21 then .inl (E.2.1 1, h.2.1 a, .inl (h.2.2.1 a)) else
  if h.1 a = 22 then .inl (E.2.1 2, h.2.1 a, .inr (.inl (h.2.2.2.2 a))) else
  if h.1 a = 23 then .inl (E.2.1 3, h.2.1 a, .inr (.inr (.inr (.inr (h.2.2.2.1 a))))) else
  .inr (h.1 a - 1, zfs (h.1 a) (h.2.2.1 a) (h.2.2.2.1 a))
def zRep (E : zE) (h : zH) (H : Heap) : Prop :=
  (∀ q : Nat, q < E.2.2.size → H[q]? = E.2.2[q]?) ∧ E.2.2.size ≤ H.size ∧ ∀ a : Nat, h.1 a ≠ 0 → E.2.2.size ≤ a ∧ va_at E.1 zcl (a, zcell E h a) H
def zty (E : zE) : List (ClassId × FieldType) := [(E.2.1 0, .byte), (E.2.1 1, .int), (E.2.1 2, .long), (E.2.1 3, .object "java/lang/Object")]
/-- words that stay when the tables grow warmer -/
def zgd : Cond → Bool
  | .methodLinkNest .. => true
  | .fieldLinkNest .. => true
  | .castable .. => true
  | .declares _ => true
  | .arrayOver (.object _) => true
  | w => goodWord w
/-- all such words of the tables -/
def zT (U : State) : Prop := ∀ w ∈ lw_tbl, zgd w = true → ∀ a : Array Value, w.before a U = true
theorem zgd_warm {u U : State} (hW : u.WarmedH U.vm) {w : Cond} (hg : zgd w = true) (h : w.before #[] u = true) (a : Array Value) : w.before a U = true := by
  by_cases hq : goodWord w = true
  · exact word_at hW (good_of_word hq) h
  · cases w with
    | methodLinkNest _ _ _ _ => exact va_Nw.use rfl (va_Nw.warmM hW h)
    | fieldLinkNest _ _ _ _ _ _ => exact va_Nw.use rfl (va_Nw.warmF hW h)
    | castable _ _ => exact va_Nw.use rfl (va_Nw.warmC hW h)
    | declares _ => exact va_Nw.use rfl (va_Nw.warmD hW h)
    | arrayOver t =>
      cases t with
      | object C => exact va_AO.use (va_AO.moved hW.alike h)
      | _ => exact absurd hg hq
    | _ => exact absurd hg hq
theorem zT.warm {u U : State} (hW : u.WarmedH U.vm) (h : zT u) : zT U := fun w hw hg a => zgd_warm hW hg (h w hw hg #[]) a
theorem zT.t {U : State} (h : zT U) (i : Nat) {w : Cond} (hi : tables_1[i]? = some w) (hg : zgd w = true) {a : Array Value} : w.before a U = true := h w (List.mem_append_right _ (List.mem_of_getElem? hi)) hg a
theorem zT.p {U : State} (h : zT U) (i : Nat) {q : MethodName × Nat} (hi : lw_privs[i]? = some q) {a : Array Value} : (Cond.selects q.1.cls q.1 q.1).before a U = true :=
  h _ (List.mem_append_left _ (List.mem_map.mpr ⟨q, List.mem_of_getElem? hi, rfl⟩)) rfl a
def zstr : List (String × Nat × String) := [("SortUtility$Word", 53, "sort"), ("SortUtility$Word", 59, "include"), ("SortUtility$Word", 62, "omit"), ("SortUtility$Word", 65, "sum"), ("SortUtility$Word", 68, "out"), ("SortUtility$Word", 71, "skip"), ("SortUtility$Word", 74, "stop"), ("SortUtility$Reader", 176, "no such word, or it is there already"), ("SortUtility$Reader", 215, "no number, or not such a one"), ("SortUtility$Reader", 99, ","), ("SortUtility$Reader", 217, "a sign that can't be there"), ("SortUtility$Reader", 101, "ad"), ("SortUtility$Reader", 106, "bn"), ("SortUtility$Reader", 125, "=#<>"), ("SortUtility$Reader", 193, "'"), ("SortUtility$Reader", 198, "a text without characters or without an end"), ("SortUtility$Reader", 139, "&|"), ("SortUtility$Reader", 143, "a test too many"), ("SortUtility$Reader", 204, "x"), ("SortUtility$Reader", 53, ";"), ("SortUtility", 111, "no such record, or no such place in it")]
def zslen : List Nat := [4, 7, 4, 3, 3, 4, 4, 36, 28, 1, 26, 2, 2, 4, 1, 43, 2, 15, 1, 1, 38]
def zsbyt : List (List Int32) := [[115, 111, 114, 116], [105, 110, 99, 108, 117, 100, 101], [111, 109, 105, 116], [115, 117, 109], [111, 117, 116], [115, 107, 105, 112], [115, 116, 111, 112], [110, 111, 32, 115, 117, 99, 104, 32, 119, 111, 114, 100, 44, 32, 111, 114, 32, 105, 116, 32, 105, 115, 32, 116, 104, 101, 114, 101, 32, 97, 108, 114, 101, 97, 100, 121], [110, 111, 32, 110, 117, 109, 98, 101, 114, 44, 32, 111, 114, 32, 110, 111, 116, 32, 115, 117, 99, 104, 32, 97, 32, 111, 110, 101], [44], [97, 32, 115, 105, 103, 110, 32, 116, 104, 97, 116, 32, 99, 97, 110, 39, 116, 32, 98, 101, 32, 116, 104, 101, 114, 101], [97, 100], [98, 110], [61, 35, 60, 62], [39], [97, 32, 116, 101, 120, 116, 32, 119, 105, 116, 104, 111, 117, 116, 32, 99, 104, 97, 114, 97, 99, 116, 101, 114, 115, 32, 111, 114, 32, 119, 105, 116, 104, 111, 117, 116, 32, 97, 110, 32, 101, 110, 100], [38, 124], [97, 32, 116, 101, 115, 116, 32, 116, 111, 111, 32, 109, 97, 110, 121], [120], [59], [110, 111, 32, 115, 117, 99, 104, 32, 114, 101, 99, 111, 114, 100, 44, 32, 111, 114, 32, 110, 111, 32, 115, 117, 99, 104, 32, 112, 108, 97, 99, 101, 32, 105, 110, 32, 105, 116]]
def zwbit : List Int32 := [1, 2, 2, 4, 8, 16, 32]
/-- the constants, by number -/
def zkon (E : zE) (U : State) : Nat → Prop
  | 0 => va_Z "java/util/ArrayList" "DEFAULTCAPACITY_EMPTY_ELEMENTDATA" "[Ljava/lang/Object;" (.ref (E.2.1 10)) (fun q => E.2.2.size ≤ q) U E.2.2
  | 1 => va_T (.object "java/lang/Object") (E.2.1 10) 0 (fun _ => .null) (fun q => E.2.2.size ≤ q) U E.2.2
  | 2 => va_O "[Ljava/lang/Object;" (E.2.1 10) (fun q => E.2.2.size ≤ q) U E.2.2
  | 3 => vk_S 21 zslen zsbyt (fun i => E.2.1 (100 + i)) (fun i => E.2.1 (130 + i)) (fun q => E.2.2.size ≤ q) U E.2.2
  | 4 => ∀ i : Nat, i < 21 → vk_R (zstr.getD i ("", 0, "")).1 (zstr.getD i ("", 0, "")).2.1 (zstr.getD i ("", 0, "")).2.2 (E.2.1 (100 + i)) U
  | 5 => va_Z "java/lang/String" "COMPACT_STRINGS" "Z" (.int 1) (fun q => E.2.2.size ≤ q) U E.2.2
  | 6 => va_Z "SortUtility" "WORDS" "[LSortUtility$Word;" (.ref (E.2.1 11)) (fun q => E.2.2.size ≤ q) U E.2.2
  | 7 => va_T (.object "SortUtility$Word") (E.2.1 11) 7 (fun j => .ref (E.2.1 (20 + j))) (fun q => E.2.2.size ≤ q) U E.2.2
  | 8 => va_Z "SortUtility$1" "$SwitchMap$SortUtility$Word" "[I" (.ref (E.2.1 12)) (fun q => E.2.2.size ≤ q) U E.2.2
  | 9 => va_T .int (E.2.1 12) 7 (fun j => .int (if j = 6 then 0 else nI (j + 1))) (fun q => E.2.2.size ≤ q) U E.2.2
  | 10 => ∀ j : Nat, j < 7 → va_O "SortUtility$Word" (E.2.1 (20 + j)) (fun q => E.2.2.size ≤ q) U E.2.2 ∧ va_OF "java/lang/Enum" "ordinal" "I" (.int (nI j)) (E.2.1 (20 + j)) (fun q => E.2.2.size ≤ q) U E.2.2 ∧ va_OF "SortUtility$Word" "spelling" "Ljava/lang/String;" (.ref (E.2.1 (100 + j))) (E.2.1 (20 + j)) (fun q => E.2.2.size ≤ q) U E.2.2 ∧ va_OF "SortUtility$Word" "bit" "I" (.int (zwbit.getD j 0)) (E.2.1 (20 + j)) (fun q => E.2.2.size ≤ q) U E.2.2
  | 11 => va_Mi "[Ljava/lang/Object;" (E.2.1 13) U
  | 12 => vx_Zq Bundle.tN "UNASSIGNED_STACK" Bundle.steD (fun q => E.2.2.size ≤ q) U E.2.2
  | 13 => vx_Zq Bundle.tN "SUPPRESSED_SENTINEL" Bundle.listD (fun q => E.2.2.size ≤ q) U E.2.2
  | 14 => va_X (E.2.1 14) (E.2.1 15) (fun j => Int32.ofNat (E.2.1 (1000 + j))) U E.2.2 ∧ E.2.1 14 < E.2.2.size
  | 15 => va_Zq "jdk/internal/util/Preconditions" "SIOOBE_FORMATTER" "Ljava/util/function/BiFunction;" (fun q => E.2.2.size ≤ q) U E.2.2
  | _ => True
def zS (E : zE) (l : Launch) (U : State) : Prop := zT U ∧ va_K E.1 zcl (zty E) U ∧ (∀ i, zkon E U i) ∧ l.stackTraces = false
theorem zkon.warm {E : zE} {u U : State} (hW : u.WarmedH U.vm) (h : ∀ i, zkon E u i) : ∀ i, zkon E U i
  | 0 => va_Z.moved hW.alike (h 0)
  | 1 => va_T.moved hW.alike (h 1)
  | 2 => va_O.moved hW.alike (h 2)
  | 3 => vk_S.moved hW.alike (h 3)
  | 4 => fun i hi => vk_R.warm hW (h 4 i hi)
  | 5 => va_Z.moved hW.alike (h 5)
  | 6 => va_Z.moved hW.alike (h 6)
  | 7 => va_T.moved hW.alike (h 7)
  | 8 => va_Z.moved hW.alike (h 8)
  | 9 => va_T.moved hW.alike (h 9)
  | 10 => fun j hj => ⟨va_O.moved hW.alike (h 10 j hj).1, va_OF.moved hW.alike (h 10 j hj).2.1, va_OF.moved hW.alike (h 10 j hj).2.2.1, va_OF.moved hW.alike (h 10 j hj).2.2.2⟩
  | 11 => va_Mi.moved hW.alike (h 11)
  | 12 => vx_Zq.moved hW.alike (h 12)
  | 13 => vx_Zq.moved hW.alike (h 13)
  | 14 => ⟨va_X.moved hW.alike (h 14).1, (h 14).2⟩
  | 15 => va_Zq.moved hW.alike (h 15)
  | _ + 16 => trivial
theorem zS.warm {E : zE} {l : Launch} {u U : State} (hW : u.WarmedH U.vm) (h : zS E l u) : zS E l U := ⟨h.1.warm hW, va_K.moved hW.alike h.2.1, zkon.warm hW h.2.2.1, h.2.2.2⟩
def zOk (E : zE) (M : zM) (p : Program) (l : Launch) (R : Room) (s : State) (m : MethodId) (meth : Method) (c : Code) : Prop :=
  p.tables.exec = Jvm.exec ∧ c.code = M.2.1 ∧ c.maxLocals = M.2.2.1 ∧ meth.sig.returnType = M.2.2.2.1 ∧ meth.locks = false ∧ s.vm.findClass M.1.cls = some m.cls ∧ meth.name = M.1.name ∧
  M.2.2.2.2.1 ≤ R.frames ∧ M.2.2.2.2.2.1 ≤ R.locals ∧ c.exceptionTable.toList.map (fun h => (h.startPc, h.endPc, h.handlerPc, h.catchType)) = M.2.2.2.2.2.2 ∧ zS E l s
/-- the local variables that are known -/
def zL (ls : Array Slot) (n : Nat) (lv : List (Option Value)) : Prop := ls.size = n ∧ lv_wf ls ∧ ∀ (i : Nat) (v : Value), lv[i]? = some (some v) → ls[i]? = some (.val v)
def zas (lv : List (Option Value)) : List (Nat × Value) := (List.range lv.length).filterMap (fun i => ((lv[i]?).join).map (fun v => (i, v)))
theorem zas_mem {lv : List (Option Value)} {i : Nat} {v : Value} : (i, v) ∈ zas lv ↔ lv[i]? = some (some v) := by
  unfold zas
  rw [List.mem_filterMap]
  constructor
  · rintro ⟨j, hj, h⟩
    cases hq : lv[j]? with
    | none => simp [hq] at h
    | some o =>
      cases o with
      | none => simp [hq] at h
      | some w =>
        simp [hq] at h
        obtain ⟨rfl, rfl⟩ := h
        exact hq
  · intro h
    refine ⟨i, List.mem_range.mpr (List.getElem?_eq_some_iff.mp h).1, ?_⟩
    simp [h]
theorem zas_at {lv : List (Option Value)} {i : Nat} {v : Value} (h : lv[i]? = some (some v)) : ∃ j : Nat, (zas lv)[j]? = some (i, v) := List.mem_iff_getElem?.mp (zas_mem.mpr h)
theorem zL.has {ls : Array Slot} {n : Nat} {lv : List (Option Value)} (h : zL ls n lv) : lv_has ls n (zas lv) := ⟨h.1, h.2.1, fun q hq => h.2.2 q.1 q.2 (zas_mem.mp hq)⟩
def zkill (lv : List (Option Value)) (i : Nat) : List (Option Value) := match i with
  | 0 => lv
  | j + 1 => match lv[j]? with
    | some (some (.long _)) => lv.set j none
    | some (some (.double _)) => lv.set j none
    | _ => lv
def zst (lv : List (Option Value)) (i : Nat) (v : Value) : List (Option Value) := (zkill lv i).set i (some v)
def zst2 (lv : List (Option Value)) (i : Nat) (v : Value) : List (Option Value) := ((zkill lv i).set i (some v)).set (i + 1) none
theorem zkill_at {lv : List (Option Value)} {i j : Nat} {w : Value} (h : (zkill lv i)[j]? = some (some w)) : lv[j]? = some (some w) ∧ ¬ (j + 1 = i ∧ w.category = 2) := by
  unfold zkill at h
  cases i with
  | zero => exact ⟨h, fun q => by omega⟩
  | succ k =>
    dsimp only at h
    split at h
    · rename_i x hx
      by_cases hj : k = j
      · subst hj
        rw [List.getElem?_set] at h
        simp at h
      · rw [List.getElem?_set, if_neg hj] at h
        exact ⟨h, fun q => hj (by omega)⟩
    · rename_i x hx
      by_cases hj : k = j
      · subst hj
        rw [List.getElem?_set] at h
        simp at h
      · rw [List.getElem?_set, if_neg hj] at h
        exact ⟨h, fun q => hj (by omega)⟩
    · rename_i h1 h2
      refine ⟨h, fun q => ?_⟩
      obtain ⟨q1, q2⟩ := q
      have hk : k = j := by omega
      subst hk
      cases w <;> simp [Value.category] at q2
      · exact h1 _ h
      · exact h2 _ h
theorem zL.of1 {ls ls2 : Array Slot} {n i : Nat} {lv : List (Option Value)} {v : Value} (h0 : zL ls n lv) (h : lv_has ls2 n ((i, v) :: (zas lv).filter (fun q => !(q.1 == i) && !(q.1 + 1 == i && q.2.category == 2)))) : zL ls2 n (zst lv i v) := by
  refine ⟨h.1, h.2.1, fun j w hw => ?_⟩
  unfold zst at hw
  by_cases hj : i = j
  · subst hj
    rw [List.getElem?_set] at hw
    simp at hw
    obtain ⟨-, rfl⟩ := hw
    exact h.2.2 (i, v) List.mem_cons_self
  · rw [List.getElem?_set, if_neg hj] at hw
    obtain ⟨a, b⟩ := zkill_at hw
    refine h.2.2 (j, w) (List.mem_cons_of_mem _ (List.mem_filter.mpr ⟨zas_mem.mpr a, ?_⟩))
    have h1 : (j == i) = false := by simp; omega
    by_cases h3 : j + 1 = i
    · have h4 : ¬ w.category = 2 := fun q => b ⟨h3, q⟩
      simp [h1, h4]
    · simp [h1, h3]
theorem zL.of2 {ls ls2 : Array Slot} {n i : Nat} {lv : List (Option Value)} {v : Value} (h0 : zL ls n lv) (h : lv_has ls2 n ((i, v) :: (zas lv).filter (fun q => !(q.1 == i) && (!(q.1 == i + 1) && !(q.1 + 1 == i && q.2.category == 2))))) : zL ls2 n (zst2 lv i v) := by
  refine ⟨h.1, h.2.1, fun j w hw => ?_⟩
  unfold zst2 at hw
  by_cases hj2 : i + 1 = j
  · subst hj2
    rw [List.getElem?_set] at hw
    simp at hw
  rw [List.getElem?_set, if_neg hj2] at hw
  by_cases hj : i = j
  · subst hj
    rw [List.getElem?_set] at hw
    simp at hw
    obtain ⟨-, rfl⟩ := hw
    exact h.2.2 (i, v) List.mem_cons_self
  · rw [List.getElem?_set, if_neg hj] at hw
    obtain ⟨a, b⟩ := zkill_at hw
    refine h.2.2 (j, w) (List.mem_cons_of_mem _ (List.mem_filter.mpr ⟨zas_mem.mpr a, ?_⟩))
    have h1 : (j == i) = false := by simp; omega
    have h2 : (j == i + 1) = false := by simp; omega
    by_cases h3 : j + 1 = i
    · have h4 : ¬ w.category = 2 := fun q => b ⟨h3, q⟩
      simp [h1, h2, h4]
    · simp [h1, h2, h3]
/-- fewer are known -/
def zle : List (Option Value) → List (Option Value) → Prop
  | [], _ => True
  | none :: a, _ :: b => zle a b
  | some v :: a, some w :: b => v = w ∧ zle a b
  | none :: a, [] => zle a []
  | some _ :: _, none :: _ => False
  | some _ :: _, [] => False
theorem zle_at : ∀ (a b : List (Option Value)), zle a b → ∀ (i : Nat) (v : Value), a[i]? = some (some v) → b[i]? = some (some v)
  | [], _, _, i, v, h => by simp at h
  | none :: a, y :: b, hz, 0, v, h => by simp at h
  | none :: a, y :: b, hz, i + 1, v, h => by
    simp only [List.getElem?_cons_succ] at h ⊢
    exact zle_at a b hz i v h
  | some x :: a, some y :: b, hz, 0, v, h => by
    obtain ⟨rfl, -⟩ := hz
    simpa using h
  | some x :: a, some y :: b, hz, i + 1, v, h => by
    simp only [List.getElem?_cons_succ] at h ⊢
    exact zle_at a b hz.2 i v h
  | none :: a, [], hz, 0, v, h => by simp at h
  | none :: a, [], hz, i + 1, v, h => by
    simp only [List.getElem?_cons_succ] at h
    have := zle_at a [] hz i v h
    simp at this
def zOut (s t : State) (o : Outcome) (r : zO) : Prop := match r with
  | .inl v => o = .returned v
  | .inr X => ∃ (q : Nat) (ce : Cell), o = .threw q ∧ t.heap[q]? = some ce ∧ ce.vm = .none ∧ s.vm.findClass X = some ce.cls
def zEnd (E : zE) (R : Room) (s : State) (below : List Frame) (Q : zO → zH → Prop) : State → Prop := fun t =>
  ∃ (o : Outcome) (L : List Loc) (r : zO) (h' : zH), t.status = .running ∧ Ended t below o ∧ s.WarmedH t.vm ∧ s.sameButNew ({ t with vm := s.vm } : State) L R.cells R.slots ∧ (∀ q ∈ L, E.2.2.size ≤ q.base) ∧ zRep E h' t.heap ∧ zOut s t o r ∧ Q r h'
/-- THE JUDGEMENT: from pc, with these known local variables and this stack, in a heap that holds h, with cb cells and sb slots to make, the method ends, and Q holds of its end -/
def AW (E : zE) (M : zM) (h : zH) (cb sb : Nat) (Q : zO → zH → Prop) (pc : Nat) (lv : List (Option Value)) (st : List Value) : Prop :=
  ∀ (p : Program) (l : Launch) (e : Env) (R : Room) (s : State) (m : MethodId) (args : Array Value) (below : List Frame) (meth : Method) (c : Code) (H : Heap) (locs : List Loc) (cells slots : Nat) (ls : Array Slot),
    zOk E M p l R s m meth c → zRep E h H → (∀ q ∈ locs, E.2.2.size ≤ q.base) → cells + cb ≤ R.cells → slots + sb ≤ R.slots → zL ls M.2.2.1 lv → W p l e R s m args below meth c H locs cells slots (zEnd E R s below Q) (F0 m pc ls st)
theorem aw_weak {E : zE} {M : zM} {h : zH} {cb sb : Nat} {Q : zO → zH → Prop} {pc : Nat} {lv lv' : List (Option Value)} {st : List Value} (hz : zle lv' lv) (kk : AW E M h cb sb Q pc lv' st) : AW E M h cb sb Q pc lv st :=
  fun p l e R s m args below meth c H locs cells slots ls ok hR hL hc hs hl => kk p l e R s m args below meth c H locs cells slots ls ok hR hL hc hs ⟨hl.1, hl.2.1, fun i v hv => hl.2.2 i v (zle_at _ _ hz i v hv)⟩
theorem aw_room {E : zE} {M : zM} {h : zH} {cb sb cb' sb' : Nat} {Q : zO → zH → Prop} {pc : Nat} {lv : List (Option Value)} {st : List Value} (h1 : cb' ≤ cb) (h2 : sb' ≤ sb) (kk : AW E M h cb' sb' Q pc lv st) : AW E M h cb sb Q pc lv st :=
  fun p l e R s m args below meth c H locs cells slots ls ok hR hL hc hs hl => kk p l e R s m args below meth c H locs cells slots ls ok hR hL (by omega) (by omega) hl
theorem zEnd.mono {E : zE} {R : Room} {s t : State} {below : List Frame} {Q Q' : zO → zH → Prop} (h : ∀ r h', Q r h' → Q' r h') (k : zEnd E R s below Q t) : zEnd E R s below Q' t := by
  obtain ⟨o, L, r, h', a1, a2, a3, a4, a5, a6, a7, a8⟩ := k
  exact ⟨o, L, r, h', a1, a2, a3, a4, a5, a6, a7, h r h' a8⟩
theorem aw_mono {E : zE} {M : zM} {h : zH} {cb sb : Nat} {Q Q' : zO → zH → Prop} {pc : Nat} {lv : List (Option Value)} {st : List Value} (hq : ∀ r h', Q r h' → Q' r h') (kk : AW E M h cb sb Q pc lv st) : AW E M h cb sb Q' pc lv st :=
  fun p l e R s m args below meth c H locs cells slots ls ok hR hL hc hs hl T hT X => by
    obtain ⟨t, a, b⟩ := kk p l e R s m args below meth c H locs cells slots ls ok hR hL hc hs hl T hT X
    exact ⟨t, a, b.mono hq⟩

section

theorem aw_iconst {E : zE} {M : zM} {h : zH} {cb sb : Nat} {Q : zO → zH → Prop} {pc : Nat} {lv : List (Option Value)} {st : List Value} {n : Int} {v : Int32} (hd : decode M.2.1 pc = .ok (.iconst n, 1)) (hv : Int32.ofInt n = v) (kk : AW E M h cb sb Q (pc + 1) lv (.int v :: st)) : AW E M h cb sb Q pc lv st := fun p l e R s m args below meth c H locs cells slots ls ok hR hL hc hs hl => lv_iconst ok.1 ok.2.1 hd hv (kk p l e R s m args below meth c H locs cells slots ls ok hR hL hc hs hl)
theorem aw_bipush {E : zE} {M : zM} {h : zH} {cb sb : Nat} {Q : zO → zH → Prop} {pc : Nat} {lv : List (Option Value)} {st : List Value} {n : Int} {v : Int32} (hd : decode M.2.1 pc = .ok (.bipush n, 2)) (hv : (Int8.ofInt n).toInt32 = v) (kk : AW E M h cb sb Q (pc + 2) lv (.int v :: st)) : AW E M h cb sb Q pc lv st := fun p l e R s m args below meth c H locs cells slots ls ok hR hL hc hs hl => lv_bipush ok.1 ok.2.1 hd hv (kk p l e R s m args below meth c H locs cells slots ls ok hR hL hc hs hl)
theorem aw_sipush {E : zE} {M : zM} {h : zH} {cb sb : Nat} {Q : zO → zH → Prop} {pc : Nat} {lv : List (Option Value)} {st : List Value} {n : Int} {v : Int32} (hd : decode M.2.1 pc = .ok (.sipush n, 3)) (hv : (Int16.ofInt n).toInt32 = v) (kk : AW E M h cb sb Q (pc + 3) lv (.int v :: st)) : AW E M h cb sb Q pc lv st := fun p l e R s m args below meth c H locs cells slots ls ok hR hL hc hs hl => lv_sipush ok.1 ok.2.1 hd hv (kk p l e R s m args below meth c H locs cells slots ls ok hR hL hc hs hl)
theorem aw_lconst {E : zE} {M : zM} {h : zH} {cb sb : Nat} {Q : zO → zH → Prop} {pc : Nat} {lv : List (Option Value)} {st : List Value} {n : Fin 2} {v : Int64} (hd : decode M.2.1 pc = .ok (.lconst n, 1)) (hv : Int64.ofNat (n : Nat) = v) (kk : AW E M h cb sb Q (pc + 1) lv (.long v :: st)) : AW E M h cb sb Q pc lv st := fun p l e R s m args below meth c H locs cells slots ls ok hR hL hc hs hl => lv_lconst ok.1 ok.2.1 hd hv (kk p l e R s m args below meth c H locs cells slots ls ok hR hL hc hs hl)
theorem aw_null {E : zE} {M : zM} {h : zH} {cb sb : Nat} {Q : zO → zH → Prop} {pc : Nat} {lv : List (Option Value)} {st : List Value} (hd : decode M.2.1 pc = .ok (.aconst_null, 1)) (kk : AW E M h cb sb Q (pc + 1) lv (.null :: st)) : AW E M h cb sb Q pc lv st := fun p l e R s m args below meth c H locs cells slots ls ok hR hL hc hs hl => lv_null ok.1 ok.2.1 hd (kk p l e R s m args below meth c H locs cells slots ls ok hR hL hc hs hl)
theorem aw_iload_n {E : zE} {M : zM} {h : zH} {cb sb : Nat} {Q : zO → zH → Prop} {pc : Nat} {lv : List (Option Value)} {st : List Value} {k : Fin 4} {x : Int32} (hd : decode M.2.1 pc = .ok (.iload_n k, 1)) (hv : lv[(k : Nat)]? = some (some (.int x))) (kk : AW E M h cb sb Q (pc + 1) lv (.int x :: st)) : AW E M h cb sb Q pc lv st := fun p l e R s m args below meth c H locs cells slots ls ok hR hL hc hs hl => lv_iload_n ok.1 ok.2.1 hd rfl (hl.2.2 _ _ hv) (kk p l e R s m args below meth c H locs cells slots ls ok hR hL hc hs hl)
theorem aw_iload {E : zE} {M : zM} {h : zH} {cb sb : Nat} {Q : zO → zH → Prop} {pc : Nat} {lv : List (Option Value)} {st : List Value} {k : Nat} {x : Int32} (hd : decode M.2.1 pc = .ok (.iload k, 2)) (hv : lv[k]? = some (some (.int x))) (kk : AW E M h cb sb Q (pc + 2) lv (.int x :: st)) : AW E M h cb sb Q pc lv st := fun p l e R s m args below meth c H locs cells slots ls ok hR hL hc hs hl => lv_iload ok.1 ok.2.1 hd (hl.2.2 _ _ hv) (kk p l e R s m args below meth c H locs cells slots ls ok hR hL hc hs hl)
theorem aw_lload_n {E : zE} {M : zM} {h : zH} {cb sb : Nat} {Q : zO → zH → Prop} {pc : Nat} {lv : List (Option Value)} {st : List Value} {k : Fin 4} {x : Int64} (hd : decode M.2.1 pc = .ok (.lload_n k, 1)) (hv : lv[(k : Nat)]? = some (some (.long x))) (kk : AW E M h cb sb Q (pc + 1) lv (.long x :: st)) : AW E M h cb sb Q pc lv st := fun p l e R s m args below meth c H locs cells slots ls ok hR hL hc hs hl => lv_lload_n ok.1 ok.2.1 hd rfl (hl.2.2 _ _ hv) (kk p l e R s m args below meth c H locs cells slots ls ok hR hL hc hs hl)
theorem aw_lload {E : zE} {M : zM} {h : zH} {cb sb : Nat} {Q : zO → zH → Prop} {pc : Nat} {lv : List (Option Value)} {st : List Value} {k : Nat} {x : Int64} (hd : decode M.2.1 pc = .ok (.lload k, 2)) (hv : lv[k]? = some (some (.long x))) (kk : AW E M h cb sb Q (pc + 2) lv (.long x :: st)) : AW E M h cb sb Q pc lv st := fun p l e R s m args below meth c H locs cells slots ls ok hR hL hc hs hl => lv_lload ok.1 ok.2.1 hd (hl.2.2 _ _ hv) (kk p l e R s m args below meth c H locs cells slots ls ok hR hL hc hs hl)
theorem aw_aload_n {E : zE} {M : zM} {h : zH} {cb sb : Nat} {Q : zO → zH → Prop} {pc : Nat} {lv : List (Option Value)} {st : List Value} {k : Fin 4} {x : Nat} (hd : decode M.2.1 pc = .ok (.aload_n k, 1)) (hv : lv[(k : Nat)]? = some (some (.ref x))) (kk : AW E M h cb sb Q (pc + 1) lv (.ref x :: st)) : AW E M h cb sb Q pc lv st := fun p l e R s m args below meth c H locs cells slots ls ok hR hL hc hs hl => lv_aload_n ok.1 ok.2.1 hd rfl (hl.2.2 _ _ hv) (kk p l e R s m args below meth c H locs cells slots ls ok hR hL hc hs hl)
theorem aw_aload {E : zE} {M : zM} {h : zH} {cb sb : Nat} {Q : zO → zH → Prop} {pc : Nat} {lv : List (Option Value)} {st : List Value} {k : Nat} {x : Nat} (hd : decode M.2.1 pc = .ok (.aload k, 2)) (hv : lv[k]? = some (some (.ref x))) (kk : AW E M h cb sb Q (pc + 2) lv (.ref x :: st)) : AW E M h cb sb Q pc lv st := fun p l e R s m args below meth c H locs cells slots ls ok hR hL hc hs hl => lv_aload ok.1 ok.2.1 hd (hl.2.2 _ _ hv) (kk p l e R s m args below meth c H locs cells slots ls ok hR hL hc hs hl)
theorem aw_aload_nN {E : zE} {M : zM} {h : zH} {cb sb : Nat} {Q : zO → zH → Prop} {pc : Nat} {lv : List (Option Value)} {st : List Value} {k : Fin 4} (hd : decode M.2.1 pc = .ok (.aload_n k, 1)) (hv : lv[(k : Nat)]? = some (some .null)) (kk : AW E M h cb sb Q (pc + 1) lv (.null :: st)) : AW E M h cb sb Q pc lv st := fun p l e R s m args below meth c H locs cells slots ls ok hR hL hc hs hl => lv_aload_nN ok.1 ok.2.1 hd rfl (hl.2.2 _ _ hv) (kk p l e R s m args below meth c H locs cells slots ls ok hR hL hc hs hl)
theorem aw_aloadN {E : zE} {M : zM} {h : zH} {cb sb : Nat} {Q : zO → zH → Prop} {pc : Nat} {lv : List (Option Value)} {st : List Value} {k : Nat} (hd : decode M.2.1 pc = .ok (.aload k, 2)) (hv : lv[k]? = some (some .null)) (kk : AW E M h cb sb Q (pc + 2) lv (.null :: st)) : AW E M h cb sb Q pc lv st := fun p l e R s m args below meth c H locs cells slots ls ok hR hL hc hs hl => lv_aloadN ok.1 ok.2.1 hd (hl.2.2 _ _ hv) (kk p l e R s m args below meth c H locs cells slots ls ok hR hL hc hs hl)
theorem aw_istore_n {E : zE} {M : zM} {h : zH} {cb sb : Nat} {Q : zO → zH → Prop} {pc : Nat} {lv : List (Option Value)} {st : List Value} {k : Fin 4} {x : Int32} (hd : decode M.2.1 pc = .ok (.istore_n k, 1)) (hk : (k : Nat) < M.2.2.1) (kk : AW E M h cb sb Q (pc + 1) (zst lv k (.int x)) st) : AW E M h cb sb Q pc lv (.int x :: st) := fun p l e R s m args below meth c H locs cells slots ls ok hR hL hc hs hl => lv_istore_n ok.1 ok.2.1 hd rfl hl.has hk rfl (fun ls2 h2 => kk p l e R s m args below meth c H locs cells slots ls2 ok hR hL hc hs (hl.of1 h2))
theorem aw_istore {E : zE} {M : zM} {h : zH} {cb sb : Nat} {Q : zO → zH → Prop} {pc : Nat} {lv : List (Option Value)} {st : List Value} {k : Nat} {x : Int32} (hd : decode M.2.1 pc = .ok (.istore k, 2)) (hk : k < M.2.2.1) (kk : AW E M h cb sb Q (pc + 2) (zst lv k (.int x)) st) : AW E M h cb sb Q pc lv (.int x :: st) := fun p l e R s m args below meth c H locs cells slots ls ok hR hL hc hs hl => lv_istore ok.1 ok.2.1 hd hl.has hk rfl (fun ls2 h2 => kk p l e R s m args below meth c H locs cells slots ls2 ok hR hL hc hs (hl.of1 h2))
theorem aw_astore_n {E : zE} {M : zM} {h : zH} {cb sb : Nat} {Q : zO → zH → Prop} {pc : Nat} {lv : List (Option Value)} {st : List Value} {k : Fin 4} {x : Nat} (hd : decode M.2.1 pc = .ok (.astore_n k, 1)) (hk : (k : Nat) < M.2.2.1) (kk : AW E M h cb sb Q (pc + 1) (zst lv k (.ref x)) st) : AW E M h cb sb Q pc lv (.ref x :: st) := fun p l e R s m args below meth c H locs cells slots ls ok hR hL hc hs hl => lv_astore_n ok.1 ok.2.1 hd rfl hl.has hk rfl (fun ls2 h2 => kk p l e R s m args below meth c H locs cells slots ls2 ok hR hL hc hs (hl.of1 h2))
theorem aw_astore {E : zE} {M : zM} {h : zH} {cb sb : Nat} {Q : zO → zH → Prop} {pc : Nat} {lv : List (Option Value)} {st : List Value} {k : Nat} {x : Nat} (hd : decode M.2.1 pc = .ok (.astore k, 2)) (hk : k < M.2.2.1) (kk : AW E M h cb sb Q (pc + 2) (zst lv k (.ref x)) st) : AW E M h cb sb Q pc lv (.ref x :: st) := fun p l e R s m args below meth c H locs cells slots ls ok hR hL hc hs hl => lv_astore ok.1 ok.2.1 hd hl.has hk rfl (fun ls2 h2 => kk p l e R s m args below meth c H locs cells slots ls2 ok hR hL hc hs (hl.of1 h2))
theorem aw_astore_nN {E : zE} {M : zM} {h : zH} {cb sb : Nat} {Q : zO → zH → Prop} {pc : Nat} {lv : List (Option Value)} {st : List Value} {k : Fin 4} (hd : decode M.2.1 pc = .ok (.astore_n k, 1)) (hk : (k : Nat) < M.2.2.1) (kk : AW E M h cb sb Q (pc + 1) (zst lv k .null) st) : AW E M h cb sb Q pc lv (.null :: st) := fun p l e R s m args below meth c H locs cells slots ls ok hR hL hc hs hl => lv_astore_nN ok.1 ok.2.1 hd rfl hl.has hk rfl (fun ls2 h2 => kk p l e R s m args below meth c H locs cells slots ls2 ok hR hL hc hs (hl.of1 h2))
theorem aw_astoreN {E : zE} {M : zM} {h : zH} {cb sb : Nat} {Q : zO → zH → Prop} {pc : Nat} {lv : List (Option Value)} {st : List Value} {k : Nat} (hd : decode M.2.1 pc = .ok (.astore k, 2)) (hk : k < M.2.2.1) (kk : AW E M h cb sb Q (pc + 2) (zst lv k .null) st) : AW E M h cb sb Q pc lv (.null :: st) := fun p l e R s m args below meth c H locs cells slots ls ok hR hL hc hs hl => lv_astoreN ok.1 ok.2.1 hd hl.has hk rfl (fun ls2 h2 => kk p l e R s m args below meth c H locs cells slots ls2 ok hR hL hc hs (hl.of1 h2))
theorem aw_lstore_n {E : zE} {M : zM} {h : zH} {cb sb : Nat} {Q : zO → zH → Prop} {pc : Nat} {lv : List (Option Value)} {st : List Value} {k : Fin 4} {x : Int64} (hd : decode M.2.1 pc = .ok (.lstore_n k, 1)) (hk : (k : Nat) + 1 < M.2.2.1) (kk : AW E M h cb sb Q (pc + 1) (zst2 lv k (.long x)) st) : AW E M h cb sb Q pc lv (.long x :: st) := fun p l e R s m args below meth c H locs cells slots ls ok hR hL hc hs hl => lv_lstore_n ok.1 ok.2.1 hd rfl hl.has hk rfl (fun ls2 h2 => kk p l e R s m args below meth c H locs cells slots ls2 ok hR hL hc hs (hl.of2 h2))
theorem aw_lstore {E : zE} {M : zM} {h : zH} {cb sb : Nat} {Q : zO → zH → Prop} {pc : Nat} {lv : List (Option Value)} {st : List Value} {k : Nat} {x : Int64} (hd : decode M.2.1 pc = .ok (.lstore k, 2)) (hk : k + 1 < M.2.2.1) (kk : AW E M h cb sb Q (pc + 2) (zst2 lv k (.long x)) st) : AW E M h cb sb Q pc lv (.long x :: st) := fun p l e R s m args below meth c H locs cells slots ls ok hR hL hc hs hl => lv_lstore ok.1 ok.2.1 hd hl.has hk rfl (fun ls2 h2 => kk p l e R s m args below meth c H locs cells slots ls2 ok hR hL hc hs (hl.of2 h2))
theorem aw_iinc {E : zE} {M : zM} {h : zH} {cb sb : Nat} {Q : zO → zH → Prop} {pc : Nat} {lv : List (Option Value)} {st : List Value} {k : Nat} {n : Int} {x v : Int32} (hd : decode M.2.1 pc = .ok (.iinc k n, 3)) (hx : lv[k]? = some (some (.int x))) (hv : x + Int32.ofInt n = v) (hk : k < M.2.2.1) (kk : AW E M h cb sb Q (pc + 3) (zst lv k (.int v)) st) : AW E M h cb sb Q pc lv st := by
  intro p l e R s m args below meth c H locs cells slots ls ok hR hL hc hs hl
  obtain ⟨j, hj⟩ := zas_at hx
  exact lv_iinc ok.1 ok.2.1 hd hl.has hj hv hk rfl (fun ls2 h2 => kk p l e R s m args below meth c H locs cells slots ls2 ok hR hL hc hs (hl.of1 h2))
theorem aw_iadd {E : zE} {M : zM} {h : zH} {cb sb : Nat} {Q : zO → zH → Prop} {pc : Nat} {lv : List (Option Value)} {st : List Value} {x y : Int32} (hd : decode M.2.1 pc = .ok (.iadd, 1)) (kk : AW E M h cb sb Q (pc + 1) lv (.int (x + y) :: st)) : AW E M h cb sb Q pc lv (.int y :: .int x :: st) := fun p l e R s m args below meth c H locs cells slots ls ok hR hL hc hs hl => lv_iadd ok.1 ok.2.1 hd (kk p l e R s m args below meth c H locs cells slots ls ok hR hL hc hs hl)
theorem aw_isub {E : zE} {M : zM} {h : zH} {cb sb : Nat} {Q : zO → zH → Prop} {pc : Nat} {lv : List (Option Value)} {st : List Value} {x y : Int32} (hd : decode M.2.1 pc = .ok (.isub, 1)) (kk : AW E M h cb sb Q (pc + 1) lv (.int (x - y) :: st)) : AW E M h cb sb Q pc lv (.int y :: .int x :: st) := fun p l e R s m args below meth c H locs cells slots ls ok hR hL hc hs hl => lv_isub ok.1 ok.2.1 hd (kk p l e R s m args below meth c H locs cells slots ls ok hR hL hc hs hl)
theorem aw_imul {E : zE} {M : zM} {h : zH} {cb sb : Nat} {Q : zO → zH → Prop} {pc : Nat} {lv : List (Option Value)} {st : List Value} {x y : Int32} (hd : decode M.2.1 pc = .ok (.imul, 1)) (kk : AW E M h cb sb Q (pc + 1) lv (.int (x * y) :: st)) : AW E M h cb sb Q pc lv (.int y :: .int x :: st) := fun p l e R s m args below meth c H locs cells slots ls ok hR hL hc hs hl => lv_imul ok.1 ok.2.1 hd (kk p l e R s m args below meth c H locs cells slots ls ok hR hL hc hs hl)
theorem aw_iand {E : zE} {M : zM} {h : zH} {cb sb : Nat} {Q : zO → zH → Prop} {pc : Nat} {lv : List (Option Value)} {st : List Value} {x y : Int32} (hd : decode M.2.1 pc = .ok (.iand, 1)) (kk : AW E M h cb sb Q (pc + 1) lv (.int (x &&& y) :: st)) : AW E M h cb sb Q pc lv (.int y :: .int x :: st) := fun p l e R s m args below meth c H locs cells slots ls ok hR hL hc hs hl => lv_iand ok.1 ok.2.1 hd (kk p l e R s m args below meth c H locs cells slots ls ok hR hL hc hs hl)
theorem aw_ior {E : zE} {M : zM} {h : zH} {cb sb : Nat} {Q : zO → zH → Prop} {pc : Nat} {lv : List (Option Value)} {st : List Value} {x y : Int32} (hd : decode M.2.1 pc = .ok (.ior, 1)) (kk : AW E M h cb sb Q (pc + 1) lv (.int (x ||| y) :: st)) : AW E M h cb sb Q pc lv (.int y :: .int x :: st) := fun p l e R s m args below meth c H locs cells slots ls ok hR hL hc hs hl => lv_ior ok.1 ok.2.1 hd (kk p l e R s m args below meth c H locs cells slots ls ok hR hL hc hs hl)
theorem aw_ixor {E : zE} {M : zM} {h : zH} {cb sb : Nat} {Q : zO → zH → Prop} {pc : Nat} {lv : List (Option Value)} {st : List Value} {x y : Int32} (hd : decode M.2.1 pc = .ok (.ixor, 1)) (kk : AW E M h cb sb Q (pc + 1) lv (.int (x ^^^ y) :: st)) : AW E M h cb sb Q pc lv (.int y :: .int x :: st) := fun p l e R s m args below meth c H locs cells slots ls ok hR hL hc hs hl => lv_ixor ok.1 ok.2.1 hd (kk p l e R s m args below meth c H locs cells slots ls ok hR hL hc hs hl)
theorem aw_ineg {E : zE} {M : zM} {h : zH} {cb sb : Nat} {Q : zO → zH → Prop} {pc : Nat} {lv : List (Option Value)} {st : List Value} {x : Int32} (hd : decode M.2.1 pc = .ok (.ineg, 1)) (kk : AW E M h cb sb Q (pc + 1) lv (.int (-x) :: st)) : AW E M h cb sb Q pc lv (.int x :: st) := fun p l e R s m args below meth c H locs cells slots ls ok hR hL hc hs hl => lv_ineg ok.1 ok.2.1 hd (kk p l e R s m args below meth c H locs cells slots ls ok hR hL hc hs hl)
theorem aw_ladd {E : zE} {M : zM} {h : zH} {cb sb : Nat} {Q : zO → zH → Prop} {pc : Nat} {lv : List (Option Value)} {st : List Value} {x y : Int64} (hd : decode M.2.1 pc = .ok (.ladd, 1)) (kk : AW E M h cb sb Q (pc + 1) lv (.long (x + y) :: st)) : AW E M h cb sb Q pc lv (.long y :: .long x :: st) := fun p l e R s m args below meth c H locs cells slots ls ok hR hL hc hs hl => lv_ladd ok.1 ok.2.1 hd (kk p l e R s m args below meth c H locs cells slots ls ok hR hL hc hs hl)
theorem aw_lsub {E : zE} {M : zM} {h : zH} {cb sb : Nat} {Q : zO → zH → Prop} {pc : Nat} {lv : List (Option Value)} {st : List Value} {x y : Int64} (hd : decode M.2.1 pc = .ok (.lsub, 1)) (kk : AW E M h cb sb Q (pc + 1) lv (.long (x - y) :: st)) : AW E M h cb sb Q pc lv (.long y :: .long x :: st) := fun p l e R s m args below meth c H locs cells slots ls ok hR hL hc hs hl => lv_lsub ok.1 ok.2.1 hd (kk p l e R s m args below meth c H locs cells slots ls ok hR hL hc hs hl)
theorem aw_lmul {E : zE} {M : zM} {h : zH} {cb sb : Nat} {Q : zO → zH → Prop} {pc : Nat} {lv : List (Option Value)} {st : List Value} {x y : Int64} (hd : decode M.2.1 pc = .ok (.lmul, 1)) (kk : AW E M h cb sb Q (pc + 1) lv (.long (x * y) :: st)) : AW E M h cb sb Q pc lv (.long y :: .long x :: st) := fun p l e R s m args below meth c H locs cells slots ls ok hR hL hc hs hl => lv_lmul ok.1 ok.2.1 hd (kk p l e R s m args below meth c H locs cells slots ls ok hR hL hc hs hl)
theorem aw_ishl {E : zE} {M : zM} {h : zH} {cb sb : Nat} {Q : zO → zH → Prop} {pc : Nat} {lv : List (Option Value)} {st : List Value} {x y : Int32} (hd : decode M.2.1 pc = .ok (.ishl, 1)) (kk : AW E M h cb sb Q (pc + 1) lv (.int (x <<< (y &&& 31)) :: st)) : AW E M h cb sb Q pc lv (.int y :: .int x :: st) := fun p l e R s m args below meth c H locs cells slots ls ok hR hL hc hs hl => lv_ishl ok.1 ok.2.1 hd (kk p l e R s m args below meth c H locs cells slots ls ok hR hL hc hs hl)
theorem aw_ishr {E : zE} {M : zM} {h : zH} {cb sb : Nat} {Q : zO → zH → Prop} {pc : Nat} {lv : List (Option Value)} {st : List Value} {x y : Int32} (hd : decode M.2.1 pc = .ok (.ishr, 1)) (kk : AW E M h cb sb Q (pc + 1) lv (.int (x >>> (y &&& 31)) :: st)) : AW E M h cb sb Q pc lv (.int y :: .int x :: st) := fun p l e R s m args below meth c H locs cells slots ls ok hR hL hc hs hl => lv_ishr ok.1 ok.2.1 hd (kk p l e R s m args below meth c H locs cells slots ls ok hR hL hc hs hl)
theorem aw_idiv {E : zE} {M : zM} {h : zH} {cb sb : Nat} {Q : zO → zH → Prop} {pc : Nat} {lv : List (Option Value)} {st : List Value} {x y : Int32} (hd : decode M.2.1 pc = .ok (.idiv, 1)) (hne : ¬ y = 0) (kk : AW E M h cb sb Q (pc + 1) lv (.int (x / y) :: st)) : AW E M h cb sb Q pc lv (.int y :: .int x :: st) := fun p l e R s m args below meth c H locs cells slots ls ok hR hL hc hs hl => lv_idiv ok.1 ok.2.1 hd hne (kk p l e R s m args below meth c H locs cells slots ls ok hR hL hc hs hl)
theorem aw_irem {E : zE} {M : zM} {h : zH} {cb sb : Nat} {Q : zO → zH → Prop} {pc : Nat} {lv : List (Option Value)} {st : List Value} {x y : Int32} (hd : decode M.2.1 pc = .ok (.irem, 1)) (hne : ¬ y = 0) (kk : AW E M h cb sb Q (pc + 1) lv (.int (x - x / y * y) :: st)) : AW E M h cb sb Q pc lv (.int y :: .int x :: st) := fun p l e R s m args below meth c H locs cells slots ls ok hR hL hc hs hl => lv_irem ok.1 ok.2.1 hd hne (kk p l e R s m args below meth c H locs cells slots ls ok hR hL hc hs hl)
theorem aw_ldiv {E : zE} {M : zM} {h : zH} {cb sb : Nat} {Q : zO → zH → Prop} {pc : Nat} {lv : List (Option Value)} {st : List Value} {x y : Int64} (hd : decode M.2.1 pc = .ok (.ldiv, 1)) (hne : ¬ y = 0) (kk : AW E M h cb sb Q (pc + 1) lv (.long (x / y) :: st)) : AW E M h cb sb Q pc lv (.long y :: .long x :: st) := fun p l e R s m args below meth c H locs cells slots ls ok hR hL hc hs hl => lv_ldiv ok.1 ok.2.1 hd hne (kk p l e R s m args below meth c H locs cells slots ls ok hR hL hc hs hl)
theorem aw_lrem {E : zE} {M : zM} {h : zH} {cb sb : Nat} {Q : zO → zH → Prop} {pc : Nat} {lv : List (Option Value)} {st : List Value} {x y : Int64} (hd : decode M.2.1 pc = .ok (.lrem, 1)) (hne : ¬ y = 0) (kk : AW E M h cb sb Q (pc + 1) lv (.long (x - x / y * y) :: st)) : AW E M h cb sb Q pc lv (.long y :: .long x :: st) := fun p l e R s m args below meth c H locs cells slots ls ok hR hL hc hs hl => lv_lrem ok.1 ok.2.1 hd hne (kk p l e R s m args below meth c H locs cells slots ls ok hR hL hc hs hl)
theorem aw_i2l {E : zE} {M : zM} {h : zH} {cb sb : Nat} {Q : zO → zH → Prop} {pc : Nat} {lv : List (Option Value)} {st : List Value} {x : Int32} {v : Int64} (hd : decode M.2.1 pc = .ok (.i2l, 1)) (hv : x.toInt64 = v) (kk : AW E M h cb sb Q (pc + 1) lv (.long v :: st)) : AW E M h cb sb Q pc lv (.int x :: st) := fun p l e R s m args below meth c H locs cells slots ls ok hR hL hc hs hl => lv_i2l ok.1 ok.2.1 hd hv (kk p l e R s m args below meth c H locs cells slots ls ok hR hL hc hs hl)
theorem aw_l2i {E : zE} {M : zM} {h : zH} {cb sb : Nat} {Q : zO → zH → Prop} {pc : Nat} {lv : List (Option Value)} {st : List Value} {x : Int64} {v : Int32} (hd : decode M.2.1 pc = .ok (.l2i, 1)) (hv : x.toInt32 = v) (kk : AW E M h cb sb Q (pc + 1) lv (.int v :: st)) : AW E M h cb sb Q pc lv (.long x :: st) := fun p l e R s m args below meth c H locs cells slots ls ok hR hL hc hs hl => lv_l2i ok.1 ok.2.1 hd hv (kk p l e R s m args below meth c H locs cells slots ls ok hR hL hc hs hl)
theorem aw_i2b {E : zE} {M : zM} {h : zH} {cb sb : Nat} {Q : zO → zH → Prop} {pc : Nat} {lv : List (Option Value)} {st : List Value} {x : Int32} {v : Int32} (hd : decode M.2.1 pc = .ok (.i2b, 1)) (hv : x.toInt8.toInt32 = v) (kk : AW E M h cb sb Q (pc + 1) lv (.int v :: st)) : AW E M h cb sb Q pc lv (.int x :: st) := fun p l e R s m args below meth c H locs cells slots ls ok hR hL hc hs hl => lv_i2b ok.1 ok.2.1 hd hv (kk p l e R s m args below meth c H locs cells slots ls ok hR hL hc hs hl)
theorem aw_i2c {E : zE} {M : zM} {h : zH} {cb sb : Nat} {Q : zO → zH → Prop} {pc : Nat} {lv : List (Option Value)} {st : List Value} {x : Int32} {v : Int32} (hd : decode M.2.1 pc = .ok (.i2c, 1)) (hv : (x.toUInt32 % 65536).toInt32 = v) (kk : AW E M h cb sb Q (pc + 1) lv (.int v :: st)) : AW E M h cb sb Q pc lv (.int x :: st) := fun p l e R s m args below meth c H locs cells slots ls ok hR hL hc hs hl => lv_i2c ok.1 ok.2.1 hd hv (kk p l e R s m args below meth c H locs cells slots ls ok hR hL hc hs hl)
theorem aw_lcmp {E : zE} {M : zM} {h : zH} {cb sb : Nat} {Q : zO → zH → Prop} {pc : Nat} {lv : List (Option Value)} {st : List Value} {x y : Int64} (hd : decode M.2.1 pc = .ok (.lcmp, 1)) (kk : AW E M h cb sb Q (pc + 1) lv (.int (lg_cmp x y) :: st)) : AW E M h cb sb Q pc lv (.long y :: .long x :: st) := fun p l e R s m args below meth c H locs cells slots ls ok hR hL hc hs hl => W.lcmp ok.1 ok.2.1 hd (kk p l e R s m args below meth c H locs cells slots ls ok hR hL hc hs hl)
theorem aw_dup {E : zE} {M : zM} {h : zH} {cb sb : Nat} {Q : zO → zH → Prop} {pc : Nat} {lv : List (Option Value)} {st : List Value} {va : Value} (hd : decode M.2.1 pc = .ok (.dup, 1)) (hva : va.category = 1) (kk : AW E M h cb sb Q (pc + 1) lv (va :: va :: st)) : AW E M h cb sb Q pc lv (va :: st) := fun p l e R s m args below meth c H locs cells slots ls ok hR hL hc hs hl => lv_dup ok.1 ok.2.1 hd hva (kk p l e R s m args below meth c H locs cells slots ls ok hR hL hc hs hl)
theorem aw_pop {E : zE} {M : zM} {h : zH} {cb sb : Nat} {Q : zO → zH → Prop} {pc : Nat} {lv : List (Option Value)} {st : List Value} {va : Value} (hd : decode M.2.1 pc = .ok (.pop, 1)) (hva : va.category = 1) (kk : AW E M h cb sb Q (pc + 1) lv st) : AW E M h cb sb Q pc lv (va :: st) := fun p l e R s m args below meth c H locs cells slots ls ok hR hL hc hs hl => lv_pop ok.1 ok.2.1 hd hva (kk p l e R s m args below meth c H locs cells slots ls ok hR hL hc hs hl)
theorem aw_dup_x1 {E : zE} {M : zM} {h : zH} {cb sb : Nat} {Q : zO → zH → Prop} {pc : Nat} {lv : List (Option Value)} {st : List Value} {va vb : Value} (hd : decode M.2.1 pc = .ok (.dup_x1, 1)) (hva : va.category = 1) (hvb : vb.category = 1) (kk : AW E M h cb sb Q (pc + 1) lv (va :: vb :: va :: st)) : AW E M h cb sb Q pc lv (va :: vb :: st) := fun p l e R s m args below meth c H locs cells slots ls ok hR hL hc hs hl => lv_dup_x1 ok.1 ok.2.1 hd hva hvb (kk p l e R s m args below meth c H locs cells slots ls ok hR hL hc hs hl)
theorem aw_dup_x2 {E : zE} {M : zM} {h : zH} {cb sb : Nat} {Q : zO → zH → Prop} {pc : Nat} {lv : List (Option Value)} {st : List Value} {va vb vd : Value} (hd : decode M.2.1 pc = .ok (.dup_x2, 1)) (hva : va.category = 1) (hvb : vb.category = 1) (hvd : vd.category = 1) (kk : AW E M h cb sb Q (pc + 1) lv (va :: vb :: vd :: va :: st)) : AW E M h cb sb Q pc lv (va :: vb :: vd :: st) := fun p l e R s m args below meth c H locs cells slots ls ok hR hL hc hs hl => lv_dup_x2 ok.1 ok.2.1 hd hva hvb hvd (kk p l e R s m args below meth c H locs cells slots ls ok hR hL hc hs hl)
theorem aw_dup2 {E : zE} {M : zM} {h : zH} {cb sb : Nat} {Q : zO → zH → Prop} {pc : Nat} {lv : List (Option Value)} {st : List Value} {va vb : Value} (hd : decode M.2.1 pc = .ok (.dup2, 1)) (hva : va.category = 1) (hvb : vb.category = 1) (kk : AW E M h cb sb Q (pc + 1) lv (va :: vb :: va :: vb :: st)) : AW E M h cb sb Q pc lv (va :: vb :: st) := fun p l e R s m args below meth c H locs cells slots ls ok hR hL hc hs hl => lv_dup2_11 ok.1 ok.2.1 hd hva hvb (kk p l e R s m args below meth c H locs cells slots ls ok hR hL hc hs hl)
theorem aw_if_eq {E : zE} {M : zM} {h : zH} {cb sb : Nat} {Q : zO → zH → Prop} {pc : Nat} {lv : List (Option Value)} {st : List Value} {x : Int32} {off : Int} {tgt : Nat} (hd : decode M.2.1 pc = .ok (.ifCond .eq off, 3)) (ht : (pc : Int) + off = (tgt : Int)) (kt : x = 0 → AW E M h cb sb Q tgt lv st) (kf : ¬ x = 0 → AW E M h cb sb Q (pc + 3) lv st) : AW E M h cb sb Q pc lv (.int x :: st) := fun p l e R s m args below meth c H locs cells slots ls ok hR hL hc hs hl => lv_if_eq ok.1 ok.2.1 hd ht (fun q => kt q p l e R s m args below meth c H locs cells slots ls ok hR hL hc hs hl) (fun q => kf q p l e R s m args below meth c H locs cells slots ls ok hR hL hc hs hl)
theorem aw_icmp_eq {E : zE} {M : zM} {h : zH} {cb sb : Nat} {Q : zO → zH → Prop} {pc : Nat} {lv : List (Option Value)} {st : List Value} {x y : Int32} {off : Int} {tgt : Nat} (hd : decode M.2.1 pc = .ok (.if_icmp .eq off, 3)) (ht : (pc : Int) + off = (tgt : Int)) (kt : x = y → AW E M h cb sb Q tgt lv st) (kf : ¬ x = y → AW E M h cb sb Q (pc + 3) lv st) : AW E M h cb sb Q pc lv (.int y :: .int x :: st) := fun p l e R s m args below meth c H locs cells slots ls ok hR hL hc hs hl => lv_icmp_eq ok.1 ok.2.1 hd ht (fun q => kt q p l e R s m args below meth c H locs cells slots ls ok hR hL hc hs hl) (fun q => kf q p l e R s m args below meth c H locs cells slots ls ok hR hL hc hs hl)
theorem aw_if_ne {E : zE} {M : zM} {h : zH} {cb sb : Nat} {Q : zO → zH → Prop} {pc : Nat} {lv : List (Option Value)} {st : List Value} {x : Int32} {off : Int} {tgt : Nat} (hd : decode M.2.1 pc = .ok (.ifCond .ne off, 3)) (ht : (pc : Int) + off = (tgt : Int)) (kt : ¬ x = 0 → AW E M h cb sb Q tgt lv st) (kf : x = 0 → AW E M h cb sb Q (pc + 3) lv st) : AW E M h cb sb Q pc lv (.int x :: st) := fun p l e R s m args below meth c H locs cells slots ls ok hR hL hc hs hl => lv_if_ne ok.1 ok.2.1 hd ht (fun q => kt q p l e R s m args below meth c H locs cells slots ls ok hR hL hc hs hl) (fun q => kf q p l e R s m args below meth c H locs cells slots ls ok hR hL hc hs hl)
theorem aw_icmp_ne {E : zE} {M : zM} {h : zH} {cb sb : Nat} {Q : zO → zH → Prop} {pc : Nat} {lv : List (Option Value)} {st : List Value} {x y : Int32} {off : Int} {tgt : Nat} (hd : decode M.2.1 pc = .ok (.if_icmp .ne off, 3)) (ht : (pc : Int) + off = (tgt : Int)) (kt : ¬ x = y → AW E M h cb sb Q tgt lv st) (kf : x = y → AW E M h cb sb Q (pc + 3) lv st) : AW E M h cb sb Q pc lv (.int y :: .int x :: st) := fun p l e R s m args below meth c H locs cells slots ls ok hR hL hc hs hl => lv_icmp_ne ok.1 ok.2.1 hd ht (fun q => kt q p l e R s m args below meth c H locs cells slots ls ok hR hL hc hs hl) (fun q => kf q p l e R s m args below meth c H locs cells slots ls ok hR hL hc hs hl)
theorem aw_if_lt {E : zE} {M : zM} {h : zH} {cb sb : Nat} {Q : zO → zH → Prop} {pc : Nat} {lv : List (Option Value)} {st : List Value} {x : Int32} {off : Int} {tgt : Nat} (hd : decode M.2.1 pc = .ok (.ifCond .lt off, 3)) (ht : (pc : Int) + off = (tgt : Int)) (kt : x < 0 → AW E M h cb sb Q tgt lv st) (kf : ¬ x < 0 → AW E M h cb sb Q (pc + 3) lv st) : AW E M h cb sb Q pc lv (.int x :: st) := fun p l e R s m args below meth c H locs cells slots ls ok hR hL hc hs hl => lv_if_lt ok.1 ok.2.1 hd ht (fun q => kt q p l e R s m args below meth c H locs cells slots ls ok hR hL hc hs hl) (fun q => kf q p l e R s m args below meth c H locs cells slots ls ok hR hL hc hs hl)
theorem aw_icmp_lt {E : zE} {M : zM} {h : zH} {cb sb : Nat} {Q : zO → zH → Prop} {pc : Nat} {lv : List (Option Value)} {st : List Value} {x y : Int32} {off : Int} {tgt : Nat} (hd : decode M.2.1 pc = .ok (.if_icmp .lt off, 3)) (ht : (pc : Int) + off = (tgt : Int)) (kt : x < y → AW E M h cb sb Q tgt lv st) (kf : ¬ x < y → AW E M h cb sb Q (pc + 3) lv st) : AW E M h cb sb Q pc lv (.int y :: .int x :: st) := fun p l e R s m args below meth c H locs cells slots ls ok hR hL hc hs hl => lv_icmp_lt ok.1 ok.2.1 hd ht (fun q => kt q p l e R s m args below meth c H locs cells slots ls ok hR hL hc hs hl) (fun q => kf q p l e R s m args below meth c H locs cells slots ls ok hR hL hc hs hl)
theorem aw_if_ge {E : zE} {M : zM} {h : zH} {cb sb : Nat} {Q : zO → zH → Prop} {pc : Nat} {lv : List (Option Value)} {st : List Value} {x : Int32} {off : Int} {tgt : Nat} (hd : decode M.2.1 pc = .ok (.ifCond .ge off, 3)) (ht : (pc : Int) + off = (tgt : Int)) (kt : 0 ≤ x → AW E M h cb sb Q tgt lv st) (kf : ¬ 0 ≤ x → AW E M h cb sb Q (pc + 3) lv st) : AW E M h cb sb Q pc lv (.int x :: st) := fun p l e R s m args below meth c H locs cells slots ls ok hR hL hc hs hl => lv_if_ge ok.1 ok.2.1 hd ht (fun q => kt q p l e R s m args below meth c H locs cells slots ls ok hR hL hc hs hl) (fun q => kf q p l e R s m args below meth c H locs cells slots ls ok hR hL hc hs hl)
theorem aw_icmp_ge {E : zE} {M : zM} {h : zH} {cb sb : Nat} {Q : zO → zH → Prop} {pc : Nat} {lv : List (Option Value)} {st : List Value} {x y : Int32} {off : Int} {tgt : Nat} (hd : decode M.2.1 pc = .ok (.if_icmp .ge off, 3)) (ht : (pc : Int) + off = (tgt : Int)) (kt : y ≤ x → AW E M h cb sb Q tgt lv st) (kf : ¬ y ≤ x → AW E M h cb sb Q (pc + 3) lv st) : AW E M h cb sb Q pc lv (.int y :: .int x :: st) := fun p l e R s m args below meth c H locs cells slots ls ok hR hL hc hs hl => lv_icmp_ge ok.1 ok.2.1 hd ht (fun q => kt q p l e R s m args below meth c H locs cells slots ls ok hR hL hc hs hl) (fun q => kf q p l e R s m args below meth c H locs cells slots ls ok hR hL hc hs hl)
theorem aw_if_gt {E : zE} {M : zM} {h : zH} {cb sb : Nat} {Q : zO → zH → Prop} {pc : Nat} {lv : List (Option Value)} {st : List Value} {x : Int32} {off : Int} {tgt : Nat} (hd : decode M.2.1 pc = .ok (.ifCond .gt off, 3)) (ht : (pc : Int) + off = (tgt : Int)) (kt : 0 < x → AW E M h cb sb Q tgt lv st) (kf : ¬ 0 < x → AW E M h cb sb Q (pc + 3) lv st) : AW E M h cb sb Q pc lv (.int x :: st) := fun p l e R s m args below meth c H locs cells slots ls ok hR hL hc hs hl => lv_if_gt ok.1 ok.2.1 hd ht (fun q => kt q p l e R s m args below meth c H locs cells slots ls ok hR hL hc hs hl) (fun q => kf q p l e R s m args below meth c H locs cells slots ls ok hR hL hc hs hl)
theorem aw_icmp_gt {E : zE} {M : zM} {h : zH} {cb sb : Nat} {Q : zO → zH → Prop} {pc : Nat} {lv : List (Option Value)} {st : List Value} {x y : Int32} {off : Int} {tgt : Nat} (hd : decode M.2.1 pc = .ok (.if_icmp .gt off, 3)) (ht : (pc : Int) + off = (tgt : Int)) (kt : y < x → AW E M h cb sb Q tgt lv st) (kf : ¬ y < x → AW E M h cb sb Q (pc + 3) lv st) : AW E M h cb sb Q pc lv (.int y :: .int x :: st) := fun p l e R s m args below meth c H locs cells slots ls ok hR hL hc hs hl => lv_icmp_gt ok.1 ok.2.1 hd ht (fun q => kt q p l e R s m args below meth c H locs cells slots ls ok hR hL hc hs hl) (fun q => kf q p l e R s m args below meth c H locs cells slots ls ok hR hL hc hs hl)
theorem aw_if_le {E : zE} {M : zM} {h : zH} {cb sb : Nat} {Q : zO → zH → Prop} {pc : Nat} {lv : List (Option Value)} {st : List Value} {x : Int32} {off : Int} {tgt : Nat} (hd : decode M.2.1 pc = .ok (.ifCond .le off, 3)) (ht : (pc : Int) + off = (tgt : Int)) (kt : x ≤ 0 → AW E M h cb sb Q tgt lv st) (kf : ¬ x ≤ 0 → AW E M h cb sb Q (pc + 3) lv st) : AW E M h cb sb Q pc lv (.int x :: st) := fun p l e R s m args below meth c H locs cells slots ls ok hR hL hc hs hl => lv_if_le ok.1 ok.2.1 hd ht (fun q => kt q p l e R s m args below meth c H locs cells slots ls ok hR hL hc hs hl) (fun q => kf q p l e R s m args below meth c H locs cells slots ls ok hR hL hc hs hl)
theorem aw_icmp_le {E : zE} {M : zM} {h : zH} {cb sb : Nat} {Q : zO → zH → Prop} {pc : Nat} {lv : List (Option Value)} {st : List Value} {x y : Int32} {off : Int} {tgt : Nat} (hd : decode M.2.1 pc = .ok (.if_icmp .le off, 3)) (ht : (pc : Int) + off = (tgt : Int)) (kt : x ≤ y → AW E M h cb sb Q tgt lv st) (kf : ¬ x ≤ y → AW E M h cb sb Q (pc + 3) lv st) : AW E M h cb sb Q pc lv (.int y :: .int x :: st) := fun p l e R s m args below meth c H locs cells slots ls ok hR hL hc hs hl => lv_icmp_le ok.1 ok.2.1 hd ht (fun q => kt q p l e R s m args below meth c H locs cells slots ls ok hR hL hc hs hl) (fun q => kf q p l e R s m args below meth c H locs cells slots ls ok hR hL hc hs hl)
theorem aw_acmp_eq {E : zE} {M : zM} {h : zH} {cb sb : Nat} {Q : zO → zH → Prop} {pc : Nat} {lv : List (Option Value)} {st : List Value} {rx ry : Option Nat} {off : Int} {tgt : Nat} (hd : decode M.2.1 pc = .ok (.if_acmp .eq off, 3)) (ht : (pc : Int) + off = (tgt : Int)) (kt : rx = ry → AW E M h cb sb Q tgt lv st) (kf : ¬ rx = ry → AW E M h cb sb Q (pc + 3) lv st) : AW E M h cb sb Q pc lv (va_rf ry :: va_rf rx :: st) := fun p l e R s m args below meth c H locs cells slots ls ok hR hL hc hs hl => lv_acmp_eq ok.1 ok.2.1 hd ht (fun q => kt q p l e R s m args below meth c H locs cells slots ls ok hR hL hc hs hl) (fun q => kf q p l e R s m args below meth c H locs cells slots ls ok hR hL hc hs hl)
theorem aw_acmp_ne {E : zE} {M : zM} {h : zH} {cb sb : Nat} {Q : zO → zH → Prop} {pc : Nat} {lv : List (Option Value)} {st : List Value} {rx ry : Option Nat} {off : Int} {tgt : Nat} (hd : decode M.2.1 pc = .ok (.if_acmp .ne off, 3)) (ht : (pc : Int) + off = (tgt : Int)) (kt : ¬ rx = ry → AW E M h cb sb Q tgt lv st) (kf : rx = ry → AW E M h cb sb Q (pc + 3) lv st) : AW E M h cb sb Q pc lv (va_rf ry :: va_rf rx :: st) := fun p l e R s m args below meth c H locs cells slots ls ok hR hL hc hs hl => lv_acmp_ne ok.1 ok.2.1 hd ht (fun q => kt q p l e R s m args below meth c H locs cells slots ls ok hR hL hc hs hl) (fun q => kf q p l e R s m args below meth c H locs cells slots ls ok hR hL hc hs hl)
theorem aw_goto {E : zE} {M : zM} {h : zH} {cb sb : Nat} {Q : zO → zH → Prop} {pc : Nat} {lv : List (Option Value)} {st : List Value} {off : Int} {tgt : Nat} (hd : decode M.2.1 pc = .ok (.goto off, 3)) (ht : (pc : Int) + off = (tgt : Int)) (kk : AW E M h cb sb Q tgt lv st) : AW E M h cb sb Q pc lv st := fun p l e R s m args below meth c H locs cells slots ls ok hR hL hc hs hl => lv_goto ok.1 ok.2.1 hd ht (kk p l e R s m args below meth c H locs cells slots ls ok hR hL hc hs hl)
/-- a reference or null is tested -/
theorem aw_ifnull {E : zE} {M : zM} {h : zH} {cb sb : Nat} {Q : zO → zH → Prop} {pc : Nat} {lv : List (Option Value)} {st : List Value} {r : Option Nat} {off : Int} {tgt : Nat} (hd : decode M.2.1 pc = .ok (.ifnull off, 3)) (ht : (pc : Int) + off = (tgt : Int)) (kt : r = none → AW E M h cb sb Q tgt lv st) (kf : ∀ a, r = some a → AW E M h cb sb Q (pc + 3) lv st) : AW E M h cb sb Q pc lv (va_rf r :: st) := by
  intro p l e R s m args below meth c H locs cells slots ls ok hR hL hc hs hl
  cases r with
  | none => exact lv_ifnullN ok.1 ok.2.1 hd ht (kt rfl p l e R s m args below meth c H locs cells slots ls ok hR hL hc hs hl)
  | some a => exact lv_ifnull (x := a) ok.1 ok.2.1 hd (kf a rfl p l e R s m args below meth c H locs cells slots ls ok hR hL hc hs hl)
theorem aw_ifnonnull {E : zE} {M : zM} {h : zH} {cb sb : Nat} {Q : zO → zH → Prop} {pc : Nat} {lv : List (Option Value)} {st : List Value} {r : Option Nat} {off : Int} {tgt : Nat} (hd : decode M.2.1 pc = .ok (.ifnonnull off, 3)) (ht : (pc : Int) + off = (tgt : Int)) (kt : ∀ a, r = some a → AW E M h cb sb Q tgt lv st) (kf : r = none → AW E M h cb sb Q (pc + 3) lv st) : AW E M h cb sb Q pc lv (va_rf r :: st) := by
  intro p l e R s m args below meth c H locs cells slots ls ok hR hL hc hs hl
  cases r with
  | none => exact lv_ifnonnullN ok.1 ok.2.1 hd (kf rfl p l e R s m args below meth c H locs cells slots ls ok hR hL hc hs hl)
  | some a => exact lv_ifnonnull (x := a) ok.1 ok.2.1 hd ht (kt a rfl p l e R s m args below meth c H locs cells slots ls ok hR hL hc hs hl)
theorem aw_lookup {E : zE} {M : zM} {h : zH} {cb sb : Nat} {Q : zO → zH → Prop} {pc : Nat} {lv : List (Option Value)} {st : List Value} {dflt : Int} {ps : Array (Int × Int)} {len : Nat} {x : Int32} {off : Int} {tgt : Nat} (hd : decode M.2.1 pc = .ok (.lookupswitch dflt ps, len)) (hp : (ps.toList.zip (ps.toList.drop 1)).all (fun (a, next) => a.1 < next.1) = true) (ho : Op.lookupswitch.offset ps.toList dflt x.toInt = off) (ht : (pc : Int) + off = (tgt : Int)) (kk : AW E M h cb sb Q tgt lv st) : AW E M h cb sb Q pc lv (.int x :: st) := fun p l e R s m args below meth c H locs cells slots ls ok hR hL hc hs hl => lv_lookup ok.1 ok.2.1 hd hp ho ht (kk p l e R s m args below meth c H locs cells slots ls ok hR hL hc hs hl)
theorem aw_tableOut {E : zE} {M : zM} {h : zH} {cb sb : Nat} {Q : zO → zH → Prop} {pc : Nat} {lv : List (Option Value)} {st : List Value} {dflt lo hi : Int} {offs : Array Int} {len : Nat} {x : Int32} {tgt : Nat} (hd : decode M.2.1 pc = .ok (.tableswitch dflt lo hi offs, len)) (hx : x.toInt < lo ∨ hi < x.toInt) (ht : (pc : Int) + dflt = (tgt : Int)) (kk : AW E M h cb sb Q tgt lv st) : AW E M h cb sb Q pc lv (.int x :: st) := fun p l e R s m args below meth c H locs cells slots ls ok hR hL hc hs hl => lv_tableOut ok.1 ok.2.1 hd hx ht (kk p l e R s m args below meth c H locs cells slots ls ok hR hL hc hs hl)
theorem aw_tableIn {E : zE} {M : zM} {h : zH} {cb sb : Nat} {Q : zO → zH → Prop} {pc : Nat} {lv : List (Option Value)} {st : List Value} {dflt lo hi : Int} {offs : Array Int} {len : Nat} {x : Int32} {off : Int} {tgt : Nat} (hd : decode M.2.1 pc = .ok (.tableswitch dflt lo hi offs, len)) (h1 : ¬ x.toInt < lo) (h2 : ¬ hi < x.toInt) (ho : offs[(x.toInt - lo).toNat]? = some off) (ht : (pc : Int) + off = (tgt : Int)) (kk : AW E M h cb sb Q tgt lv st) : AW E M h cb sb Q pc lv (.int x :: st) := fun p l e R s m args below meth c H locs cells slots ls ok hR hL hc hs hl => lv_tableIn ok.1 ok.2.1 hd h1 h2 ho ht (kk p l e R s m args below meth c H locs cells slots ls ok hR hL hc hs hl)
end
