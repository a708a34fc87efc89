def qG : List Cond := lw_tbl.filter goodWord
theorem qG_of {w : Cond} (h : w ∈ lw_tbl) (hg : goodWord w = true) : w ∈ qG := List.mem_filter.mpr ⟨h, hg⟩
theorem qG_t (i : Nat) {w : Cond} (h : tables_1[i]? = some w) (hg : goodWord w = true) : w ∈ qG := qG_of (List.mem_append_right _ (List.mem_of_getElem? h)) hg
theorem qG_t1 (i : Nat) {w : Cond} (h : tables_1_1[i]? = some w) (hg : goodWord w = true) : w ∈ qG := qG_of (List.mem_append_right _ (show w ∈ tables_1 from List.mem_append_left _ (List.mem_of_getElem? h))) hg
theorem qG_t2 (i : Nat) {w : Cond} (h : tables_1_2[i]? = some w) (hg : goodWord w = true) : w ∈ qG := qG_of (List.mem_append_right _ (show w ∈ tables_1 from List.mem_append_right _ (List.mem_append_left _ (List.mem_of_getElem? h)))) hg
theorem qG_t3 (i : Nat) {w : Cond} (h : tables_1_3[i]? = some w) (hg : goodWord w = true) : w ∈ qG := qG_of (List.mem_append_right _ (show w ∈ tables_1 from List.mem_append_right _ (List.mem_append_right _ (List.mem_append_left _ (List.mem_of_getElem? h))))) hg
theorem qG_t4 (i : Nat) {w : Cond} (h : tables_1_4[i]? = some w) (hg : goodWord w = true) : w ∈ qG := qG_of (List.mem_append_right _ (show w ∈ tables_1 from List.mem_append_right _ (List.mem_append_right _ (List.mem_append_right _ (List.mem_append_left _ (List.mem_of_getElem? h)))))) hg
theorem qG_t5 (i : Nat) {w : Cond} (h : tables_1_5[i]? = some w) (hg : goodWord w = true) : w ∈ qG := qG_of (List.mem_append_right _ (show w ∈ tables_1 from List.mem_append_right _ (List.mem_append_right _ (List.mem_append_right _ (List.mem_append_right _ (List.mem_append_left _ (List.mem_of_getElem? h))))))) hg
theorem qG_t6 (i : Nat) {w : Cond} (h : tables_1_6[i]? = some w) (hg : goodWord w = true) : w ∈ qG := qG_of (List.mem_append_right _ (show w ∈ tables_1 from List.mem_append_right _ (List.mem_append_right _ (List.mem_append_right _ (List.mem_append_right _ (List.mem_append_right _ (List.mem_of_getElem? h))))))) hg
theorem qG_s (i : Nat) {w : Cond} (h : (k2_sels lw_privs)[i]? = some w) (hg : goodWord w = true) : w ∈ qG := qG_of (List.mem_append_left _ (List.mem_of_getElem? h)) hg
theorem qG_good : GoodIn qG qG := fun _ h => ⟨h, good_of_word (List.mem_filter.mp h).2⟩
abbrev qM : Type := MethodName × ByteArray × Nat × Option FieldType
def qws (M : qM) : List Cond := Cond.code M.1 M.2.1 M.2.2.1 M.2.2.2 :: qG
def q_T0 : u_T := fun k => match k with
  | 0 => ("QuinceEnd$Acting", "bodies", "[I", true)
  | 1 => ("QuinceEnd$Acting", "ran", "I", false)
  | 2 => ("QuinceEnd$Acting", "kind", "I", false)
  | 3 => ("QuinceEnd$Acting", "number", "I", false)
  | _ => ("QuinceEnd$Acting", "v", "I", false)
def q_t0 : Nat → FieldType := fun k => match k with
  | 0 => (.array .int)
  | 1 => .int
  | 2 => .int
  | 3 => .int
  | _ => .int
theorem q_nm0 : ∀ a, a < 5 → ∀ b, b < 5 → a ≠ b → (q_T0 a).2.1 ≠ (q_T0 b).2.1 := by decide +kernel
theorem q_tok0 : ∀ k, k < 5 → parseFieldDescriptor (q_T0 k).2.2.1 = some (q_t0 k) := by decide +kernel
theorem q_in0 : ∀ w ∈ u_ws "QuinceEnd$Acting" q_T0 5, w ∈ qG := fun w h => qG_of ((by decide +kernel : ∀ w ∈ u_ws "QuinceEnd$Acting" q_T0 5, w ∈ lw_tbl) w h) ((by decide +kernel : ∀ w ∈ u_ws "QuinceEnd$Acting" q_T0 5, goodWord w = true) w h)
def q_T1 : u_T := fun k => match k with
  | 0 => ("QuinceEnd$Asking", "now", "LQuinceEnd$Whole;", true)
  | 1 => ("QuinceEnd$Asking", "trial", "LQuinceEnd$Pan;", true)
  | 2 => ("QuinceEnd$Asking", "tried", "[I", true)
  | _ => ("QuinceEnd$Asking", "chosen", "[I", true)
def q_t1 : Nat → FieldType := fun k => match k with
  | 0 => (.object "QuinceEnd$Whole")
  | 1 => (.object "QuinceEnd$Pan")
  | 2 => (.array .int)
  | _ => (.array .int)
theorem q_nm1 : ∀ a, a < 4 → ∀ b, b < 4 → a ≠ b → (q_T1 a).2.1 ≠ (q_T1 b).2.1 := by decide +kernel
theorem q_tok1 : ∀ k, k < 4 → parseFieldDescriptor (q_T1 k).2.2.1 = some (q_t1 k) := by decide +kernel
theorem q_in1 : ∀ w ∈ u_ws "QuinceEnd$Asking" q_T1 4, w ∈ qG := fun w h => qG_of ((by decide +kernel : ∀ w ∈ u_ws "QuinceEnd$Asking" q_T1 4, w ∈ lw_tbl) w h) ((by decide +kernel : ∀ w ∈ u_ws "QuinceEnd$Asking" q_T1 4, goodWord w = true) w h)
def q_T2 : u_T := fun k => match k with
  | 0 => ("QuinceEnd$Kitchen", "steps", "[I", true)
  | 1 => ("QuinceEnd$Kitchen", "relations", "[I", true)
  | 2 => ("QuinceEnd$Kitchen", "numbers", "[I", true)
  | 3 => ("QuinceEnd$Kitchen", "stepCount", "I", false)
  | _ => ("QuinceEnd$Kitchen", "need", "I", false)
def q_t2 : Nat → FieldType := fun k => match k with
  | 0 => (.array .int)
  | 1 => (.array .int)
  | 2 => (.array .int)
  | 3 => .int
  | _ => .int
theorem q_nm2 : ∀ a, a < 5 → ∀ b, b < 5 → a ≠ b → (q_T2 a).2.1 ≠ (q_T2 b).2.1 := by decide +kernel
theorem q_tok2 : ∀ k, k < 5 → parseFieldDescriptor (q_T2 k).2.2.1 = some (q_t2 k) := by decide +kernel
theorem q_in2 : ∀ w ∈ u_ws "QuinceEnd$Kitchen" q_T2 5, w ∈ qG := fun w h => qG_of ((by decide +kernel : ∀ w ∈ u_ws "QuinceEnd$Kitchen" q_T2 5, w ∈ lw_tbl) w h) ((by decide +kernel : ∀ w ∈ u_ws "QuinceEnd$Kitchen" q_T2 5, goodWord w = true) w h)
def q_T3 : u_T := fun k => match k with
  | 0 => ("QuinceEnd$Pan", "count", "I", false)
  | 1 => ("QuinceEnd$Pan", "things", "[LQuinceEnd$Thing;", true)
  | 2 => ("QuinceEnd$Pan", "fire", "I", false)
  | 3 => ("QuinceEnd$Pan", "colour", "I", false)
  | 4 => ("QuinceEnd$Pan", "set", "Z", false)
  | 5 => ("QuinceEnd$Pan", "minute", "I", false)
  | 6 => ("QuinceEnd$Pan", "kitchen", "LQuinceEnd$Kitchen;", false)
  | _ => ("QuinceEnd$Pan", "facts", "[I", true)
def q_t3 : Nat → FieldType := fun k => match k with
  | 0 => .int
  | 1 => (.array (.object "QuinceEnd$Thing"))
  | 2 => .int
  | 3 => .int
  | 4 => .boolean
  | 5 => .int
  | 6 => (.object "QuinceEnd$Kitchen")
  | _ => (.array .int)
theorem q_nm3 : ∀ a, a < 8 → ∀ b, b < 8 → a ≠ b → (q_T3 a).2.1 ≠ (q_T3 b).2.1 := by decide +kernel
theorem q_tok3 : ∀ k, k < 8 → parseFieldDescriptor (q_T3 k).2.2.1 = some (q_t3 k) := by decide +kernel
theorem q_in3 : ∀ w ∈ u_ws "QuinceEnd$Pan" q_T3 8, w ∈ qG := fun w h => qG_of ((by decide +kernel : ∀ w ∈ u_ws "QuinceEnd$Pan" q_T3 8, w ∈ lw_tbl) w h) ((by decide +kernel : ∀ w ∈ u_ws "QuinceEnd$Pan" q_T3 8, goodWord w = true) w h)
def q_T4 : u_T := fun k => match k with
  | 0 => ("QuinceEnd$Reading", "signs", "[I", true)
  | 1 => ("QuinceEnd$Reading", "length", "I", false)
  | 2 => ("QuinceEnd$Reading", "place", "I", false)
  | _ => ("QuinceEnd$Reading", "kitchen", "LQuinceEnd$Kitchen;", false)
def q_t4 : Nat → FieldType := fun k => match k with
  | 0 => (.array .int)
  | 1 => .int
  | 2 => .int
  | _ => (.object "QuinceEnd$Kitchen")
theorem q_nm4 : ∀ a, a < 4 → ∀ b, b < 4 → a ≠ b → (q_T4 a).2.1 ≠ (q_T4 b).2.1 := by decide +kernel
theorem q_tok4 : ∀ k, k < 4 → parseFieldDescriptor (q_T4 k).2.2.1 = some (q_t4 k) := by decide +kernel
theorem q_in4 : ∀ w ∈ u_ws "QuinceEnd$Reading" q_T4 4, w ∈ qG := fun w h => qG_of ((by decide +kernel : ∀ w ∈ u_ws "QuinceEnd$Reading" q_T4 4, w ∈ lw_tbl) w h) ((by decide +kernel : ∀ w ∈ u_ws "QuinceEnd$Reading" q_T4 4, goodWord w = true) w h)
def q_T5 : u_T := fun k => match k with
  | 0 => ("QuinceEnd$Rows", "firsts", "[I", true)
  | 1 => ("QuinceEnd$Rows", "seconds", "[I", true)
  | _ => ("QuinceEnd$Rows", "count", "I", false)
def q_t5 : Nat → FieldType := fun k => match k with
  | 0 => (.array .int)
  | 1 => (.array .int)
  | _ => .int
theorem q_nm5 : ∀ a, a < 3 → ∀ b, b < 3 → a ≠ b → (q_T5 a).2.1 ≠ (q_T5 b).2.1 := by decide +kernel
theorem q_tok5 : ∀ k, k < 3 → parseFieldDescriptor (q_T5 k).2.2.1 = some (q_t5 k) := by decide +kernel
theorem q_in5 : ∀ w ∈ u_ws "QuinceEnd$Rows" q_T5 3, w ∈ qG := fun w h => qG_of ((by decide +kernel : ∀ w ∈ u_ws "QuinceEnd$Rows" q_T5 3, w ∈ lw_tbl) w h) ((by decide +kernel : ∀ w ∈ u_ws "QuinceEnd$Rows" q_T5 3, goodWord w = true) w h)
def q_T6 : u_T := fun k => match k with
  | 0 => ("QuinceEnd$Tape", "sort", "I", false)
  | 1 => ("QuinceEnd$Tape", "length", "I", false)
  | _ => ("QuinceEnd$Tape", "items", "[J", true)
def q_t6 : Nat → FieldType := fun k => match k with
  | 0 => .int
  | 1 => .int
  | _ => (.array .long)
theorem q_nm6 : ∀ a, a < 3 → ∀ b, b < 3 → a ≠ b → (q_T6 a).2.1 ≠ (q_T6 b).2.1 := by decide +kernel
theorem q_tok6 : ∀ k, k < 3 → parseFieldDescriptor (q_T6 k).2.2.1 = some (q_t6 k) := by decide +kernel
theorem q_in6 : ∀ w ∈ u_ws "QuinceEnd$Tape" q_T6 3, w ∈ qG := fun w h => qG_of ((by decide +kernel : ∀ w ∈ u_ws "QuinceEnd$Tape" q_T6 3, w ∈ lw_tbl) w h) ((by decide +kernel : ∀ w ∈ u_ws "QuinceEnd$Tape" q_T6 3, goodWord w = true) w h)
def q_T7 : u_T := fun k => match k with
  | 0 => ("QuinceEnd$Thing", "number", "I", true)
  | 1 => ("QuinceEnd$Thing", "kind", "I", false)
  | 2 => ("QuinceEnd$Thing", "v", "I", false)
  | 3 => ("QuinceEnd$Thing", "weight", "I", false)
  | 4 => ("QuinceEnd$Thing", "whose", "I", false)
  | 5 => ("QuinceEnd$Thing", "state", "I", false)
  | 6 => ("QuinceEnd$Thing", "time", "I", false)
  | _ => ("QuinceEnd$Thing", "row", "[I", true)
def q_t7 : Nat → FieldType := fun k => match k with
  | 0 => .int
  | 1 => .int
  | 2 => .int
  | 3 => .int
  | 4 => .int
  | 5 => .int
  | 6 => .int
  | _ => (.array .int)
theorem q_nm7 : ∀ a, a < 8 → ∀ b, b < 8 → a ≠ b → (q_T7 a).2.1 ≠ (q_T7 b).2.1 := by decide +kernel
theorem q_tok7 : ∀ k, k < 8 → parseFieldDescriptor (q_T7 k).2.2.1 = some (q_t7 k) := by decide +kernel
theorem q_in7 : ∀ w ∈ u_ws "QuinceEnd$Thing" q_T7 8, w ∈ qG := fun w h => qG_of ((by decide +kernel : ∀ w ∈ u_ws "QuinceEnd$Thing" q_T7 8, w ∈ lw_tbl) w h) ((by decide +kernel : ∀ w ∈ u_ws "QuinceEnd$Thing" q_T7 8, goodWord w = true) w h)
def q_T8 : u_T := fun k => match k with
  | 0 => ("QuinceEnd$Whole", "pan", "LQuinceEnd$Pan;", true)
  | 1 => ("QuinceEnd$Whole", "seen", "LQuinceEnd$Rows;", true)
  | 2 => ("QuinceEnd$Whole", "plan", "LQuinceEnd$Rows;", true)
  | _ => ("QuinceEnd$Whole", "book", "LQuinceEnd$Rows;", true)
def q_t8 : Nat → FieldType := fun k => match k with
  | 0 => (.object "QuinceEnd$Pan")
  | 1 => (.object "QuinceEnd$Rows")
  | 2 => (.object "QuinceEnd$Rows")
  | _ => (.object "QuinceEnd$Rows")
theorem q_nm8 : ∀ a, a < 4 → ∀ b, b < 4 → a ≠ b → (q_T8 a).2.1 ≠ (q_T8 b).2.1 := by decide +kernel
theorem q_tok8 : ∀ k, k < 4 → parseFieldDescriptor (q_T8 k).2.2.1 = some (q_t8 k) := by decide +kernel
theorem q_in8 : ∀ w ∈ u_ws "QuinceEnd$Whole" q_T8 4, w ∈ qG := fun w h => qG_of ((by decide +kernel : ∀ w ∈ u_ws "QuinceEnd$Whole" q_T8 4, w ∈ lw_tbl) w h) ((by decide +kernel : ∀ w ∈ u_ws "QuinceEnd$Whole" q_T8 4, goodWord w = true) w h)
def q_T9 : u_T := fun k => match k with
  | 0 => ("QuinceEnd", "now", "LQuinceEnd$Whole;", true)
  | 1 => ("QuinceEnd", "kept", "LQuinceEnd$Whole;", true)
  | 2 => ("QuinceEnd", "imageTaken", "Z", false)
  | 3 => ("QuinceEnd", "asking", "LQuinceEnd$Asking;", true)
  | 4 => ("QuinceEnd", "text", "LQuinceEnd$Reading;", true)
  | 5 => ("QuinceEnd", "kitchens", "[LQuinceEnd$Kitchen;", true)
  | 6 => ("QuinceEnd", "kitchenCount", "I", false)
  | 7 => ("QuinceEnd", "acting", "LQuinceEnd$Acting;", true)
  | _ => ("QuinceEnd", "tapes", "[LQuinceEnd$Tape;", true)
def q_t9 : Nat → FieldType := fun k => match k with
  | 0 => (.object "QuinceEnd$Whole")
  | 1 => (.object "QuinceEnd$Whole")
  | 2 => .boolean
  | 3 => (.object "QuinceEnd$Asking")
  | 4 => (.object "QuinceEnd$Reading")
  | 5 => (.array (.object "QuinceEnd$Kitchen"))
  | 6 => .int
  | 7 => (.object "QuinceEnd$Acting")
  | _ => (.array (.object "QuinceEnd$Tape"))
theorem q_nm9 : ∀ a, a < 9 → ∀ b, b < 9 → a ≠ b → (q_T9 a).2.1 ≠ (q_T9 b).2.1 := by decide +kernel
theorem q_tok9 : ∀ k, k < 9 → parseFieldDescriptor (q_T9 k).2.2.1 = some (q_t9 k) := by decide +kernel
theorem q_in9 : ∀ w ∈ u_ws "QuinceEnd" q_T9 9, w ∈ qG := fun w h => qG_of ((by decide +kernel : ∀ w ∈ u_ws "QuinceEnd" q_T9 9, w ∈ lw_tbl) w h) ((by decide +kernel : ∀ w ∈ u_ws "QuinceEnd" q_T9 9, goodWord w = true) w h)
def q_T10 : u_T := fun k => match k with
  | 0 => ("QuinceEndModel", "things", "I", false)
  | 1 => ("QuinceEndModel", "flames", "I", false)
  | 2 => ("QuinceEndModel", "colour", "I", false)
  | 3 => ("QuinceEndModel", "minute", "I", false)
  | 4 => ("QuinceEndModel", "isSet", "Z", false)
  | 5 => ("QuinceEndModel", "kind", "[I", true)
  | 6 => ("QuinceEndModel", "v", "[I", true)
  | 7 => ("QuinceEndModel", "weight", "[I", true)
  | 8 => ("QuinceEndModel", "whose", "[I", true)
  | 9 => ("QuinceEndModel", "lies", "[I", true)
  | 10 => ("QuinceEndModel", "time", "[I", true)
  | 11 => ("QuinceEndModel", "rows", "[I", true)
  | 12 => ("QuinceEndModel", "kitchens", "I", false)
  | 13 => ("QuinceEndModel", "the", "I", false)
  | 14 => ("QuinceEndModel", "fed", "I", false)
  | 15 => ("QuinceEndModel", "at", "I", false)
  | 16 => ("QuinceEndModel", "digits", "I", false)
  | 17 => ("QuinceEndModel", "text", "[I", true)
  | 18 => ("QuinceEndModel", "clauses", "[I", true)
  | 19 => ("QuinceEndModel", "word", "[I", true)
  | 20 => ("QuinceEndModel", "number", "[I", true)
  | 21 => ("QuinceEndModel", "from", "[I", true)
  | 22 => ("QuinceEndModel", "to", "[I", true)
  | 23 => ("QuinceEndModel", "sign", "[I", true)
  | 24 => ("QuinceEndModel", "waits", "[I", true)
  | 25 => ("QuinceEndModel", "signs", "I", false)
  | 26 => ("QuinceEndModel", "waiting", "I", false)
  | 27 => ("QuinceEndModel", "open", "I", false)
  | 28 => ("QuinceEndModel", "letters", "[I", true)
  | 29 => ("QuinceEndModel", "pile", "[Z", true)
  | 30 => ("QuinceEndModel", "mostTime", "I", false)
  | 31 => ("QuinceEndModel", "keptFlames", "I", false)
  | 32 => ("QuinceEndModel", "keptColour", "I", false)
  | 33 => ("QuinceEndModel", "keptMinute", "I", false)
  | 34 => ("QuinceEndModel", "keptSet", "Z", false)
  | 35 => ("QuinceEndModel", "keptLies", "[I", true)
  | 36 => ("QuinceEndModel", "keptTime", "[I", true)
  | 37 => ("QuinceEndModel", "line", "[I", true)
  | 38 => ("QuinceEndModel", "bestLine", "[I", true)
  | 39 => ("QuinceEndModel", "seen", "I", false)
  | 40 => ("QuinceEndModel", "seenWhen", "[I", true)
  | 41 => ("QuinceEndModel", "seenColour", "[I", true)
  | 42 => ("QuinceEndModel", "plans", "I", false)
  | 43 => ("QuinceEndModel", "books", "I", false)
  | 44 => ("QuinceEndModel", "planWhat", "[I", true)
  | 45 => ("QuinceEndModel", "planNumber", "[I", true)
  | 46 => ("QuinceEndModel", "bookThing", "[I", true)
  | 47 => ("QuinceEndModel", "bookWeight", "[I", true)
  | 48 => ("QuinceEndModel", "hasImage", "Z", false)
  | 49 => ("QuinceEndModel", "imageSet", "Z", false)
  | 50 => ("QuinceEndModel", "imageThe", "I", false)
  | 51 => ("QuinceEndModel", "imageThings", "I", false)
  | 52 => ("QuinceEndModel", "imageFlames", "I", false)
  | 53 => ("QuinceEndModel", "imageColour", "I", false)
  | 54 => ("QuinceEndModel", "imageMinute", "I", false)
  | 55 => ("QuinceEndModel", "imageSeen", "I", false)
  | 56 => ("QuinceEndModel", "imagePlans", "I", false)
  | 57 => ("QuinceEndModel", "imageBooks", "I", false)
  | 58 => ("QuinceEndModel", "imageKind", "[I", true)
  | 59 => ("QuinceEndModel", "imageV", "[I", true)
  | 60 => ("QuinceEndModel", "imageWeight", "[I", true)
  | 61 => ("QuinceEndModel", "imageWhose", "[I", true)
  | 62 => ("QuinceEndModel", "imageLies", "[I", true)
  | 63 => ("QuinceEndModel", "imageTime", "[I", true)
  | 64 => ("QuinceEndModel", "imageRows", "[I", true)
  | 65 => ("QuinceEndModel", "imageWhen", "[I", true)
  | 66 => ("QuinceEndModel", "imageSeenColour", "[I", true)
  | 67 => ("QuinceEndModel", "imageWhat", "[I", true)
  | 68 => ("QuinceEndModel", "imageNumber", "[I", true)
  | 69 => ("QuinceEndModel", "imageBookThing", "[I", true)
  | 70 => ("QuinceEndModel", "imageBookWeight", "[I", true)
  | 71 => ("QuinceEndModel", "ran", "I", false)
  | 72 => ("QuinceEndModel", "bodies", "[I", true)
  | 73 => ("QuinceEndModel", "sort", "[I", true)
  | 74 => ("QuinceEndModel", "length", "[I", true)
  | 75 => ("QuinceEndModel", "item", "[J", true)
  | _ => ("QuinceEndModel", "aside", "[J", true)
def q_t10 : Nat → FieldType := fun k => match k with
  | 0 => .int
  | 1 => .int
  | 2 => .int
  | 3 => .int
  | 4 => .boolean
  | 5 => (.array .int)
  | 6 => (.array .int)
  | 7 => (.array .int)
  | 8 => (.array .int)
  | 9 => (.array .int)
  | 10 => (.array .int)
  | 11 => (.array .int)
  | 12 => .int
  | 13 => .int
  | 14 => .int
  | 15 => .int
  | 16 => .int
  | 17 => (.array .int)
  | 18 => (.array .int)
  | 19 => (.array .int)
  | 20 => (.array .int)
  | 21 => (.array .int)
  | 22 => (.array .int)
  | 23 => (.array .int)
  | 24 => (.array .int)
  | 25 => .int
  | 26 => .int
  | 27 => .int
  | 28 => (.array .int)
  | 29 => (.array .boolean)
  | 30 => .int
  | 31 => .int
  | 32 => .int
  | 33 => .int
  | 34 => .boolean
  | 35 => (.array .int)
  | 36 => (.array .int)
  | 37 => (.array .int)
  | 38 => (.array .int)
  | 39 => .int
  | 40 => (.array .int)
  | 41 => (.array .int)
  | 42 => .int
  | 43 => .int
  | 44 => (.array .int)
  | 45 => (.array .int)
  | 46 => (.array .int)
  | 47 => (.array .int)
  | 48 => .boolean
  | 49 => .boolean
  | 50 => .int
  | 51 => .int
  | 52 => .int
  | 53 => .int
  | 54 => .int
  | 55 => .int
  | 56 => .int
  | 57 => .int
  | 58 => (.array .int)
  | 59 => (.array .int)
  | 60 => (.array .int)
  | 61 => (.array .int)
  | 62 => (.array .int)
  | 63 => (.array .int)
  | 64 => (.array .int)
  | 65 => (.array .int)
  | 66 => (.array .int)
  | 67 => (.array .int)
  | 68 => (.array .int)
  | 69 => (.array .int)
  | 70 => (.array .int)
  | 71 => .int
  | 72 => (.array .int)
  | 73 => (.array .int)
  | 74 => (.array .int)
  | 75 => (.array .long)
  | _ => (.array .long)
theorem q_nm10 : ∀ a, a < 77 → ∀ b, b < 77 → a ≠ b → (q_T10 a).2.1 ≠ (q_T10 b).2.1 := by decide +kernel
theorem q_tok10 : ∀ k, k < 77 → parseFieldDescriptor (q_T10 k).2.2.1 = some (q_t10 k) := by decide +kernel
theorem q_in10 : ∀ w ∈ u_ws "QuinceEndModel" q_T10 77, w ∈ qG := fun w h => qG_of ((by decide +kernel : ∀ w ∈ u_ws "QuinceEndModel" q_T10 77, w ∈ lw_tbl) w h) ((by decide +kernel : ∀ w ∈ u_ws "QuinceEndModel" q_T10 77, goodWord w = true) w h)
abbrev q_cls : List vw_C := [("QuinceEnd$Acting", q_T0, 5), ("QuinceEnd$Asking", q_T1, 4), ("QuinceEnd$Kitchen", q_T2, 5), ("QuinceEnd$Pan", q_T3, 8), ("QuinceEnd$Reading", q_T4, 4), ("QuinceEnd$Rows", q_T5, 3), ("QuinceEnd$Tape", q_T6, 3), ("QuinceEnd$Thing", q_T7, 8), ("QuinceEnd$Whole", q_T8, 4), ("QuinceEnd", q_T9, 9), ("QuinceEndModel", q_T10, 77)]
