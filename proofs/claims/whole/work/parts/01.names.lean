theorem mem_places {ws big : List Cond} (ps : List Nat) (h : decide (ws = ps.filterMap (fun i => big[i]?)) = true) : ∀ w ∈ ws, w ∈ big := by
  intro w hw
  rw [of_decide_eq_true h] at hw
  obtain ⟨i, -, hi⟩ := List.mem_filterMap.mp hw
  exact List.mem_of_getElem? hi
def T0 : u_T := fun k => match k with
  | 0 => ("LieOfTwo", "tape", "[B", true)
  | 1 => ("LieOfTwo", "bytes", "I", false)
  | 2 => ("LieOfTwo", "here", "LLieOfTwo$Town;", false)
  | 3 => ("LieOfTwo", "spare", "LLieOfTwo$Town;", false)
  | 4 => ("LieOfTwo", "lines", "LLieOfTwo$Lines;", true)
  | 5 => ("LieOfTwo", "sayings", "LLieOfTwo$Sayings;", true)
  | 6 => ("LieOfTwo", "boxes", "[LLieOfTwo$Sayings;", true)
  | 7 => ("LieOfTwo", "known", "LLieOfTwo$Known;", true)
  | 8 => ("LieOfTwo", "asker", "LLieOfTwo$Asker;", true)
  | 9 => ("LieOfTwo", "pairing", "LLieOfTwo$Pairing;", true)
  | 10 => ("LieOfTwo", "covering", "LLieOfTwo$Covering;", true)
  | 11 => ("LieOfTwo", "scratch", "[J", true)
  | _ => ("LieOfTwo", "time", "I", false)
def T1 : u_T := fun k => match k with
  | 0 => ("LieOfTwo$Town", "facts", "I", false)
  | 1 => ("LieOfTwo$Town", "persons", "I", false)
  | 2 => ("LieOfTwo$Town", "rows", "I", false)
  | 3 => ("LieOfTwo$Town", "ties", "I", false)
  | 4 => ("LieOfTwo$Town", "wishes", "I", false)
  | 5 => ("LieOfTwo$Town", "units", "I", false)
  | 6 => ("LieOfTwo$Town", "words", "I", false)
  | 7 => ("LieOfTwo$Town", "law", "J", false)
  | 8 => ("LieOfTwo$Town", "cost", "[I", true)
  | 9 => ("LieOfTwo$Town", "knows", "[I", true)
  | 10 => ("LieOfTwo$Town", "tiedTo", "[I", true)
  | 11 => ("LieOfTwo$Town", "tieOne", "[I", true)
  | 12 => ("LieOfTwo$Town", "tieOther", "[I", true)
  | 13 => ("LieOfTwo$Town", "price", "[I", true)
  | 14 => ("LieOfTwo$Town", "worth", "[I", true)
  | 15 => ("LieOfTwo$Town", "base", "[J", true)
  | 16 => ("LieOfTwo$Town", "so", "[J", true)
  | 17 => ("LieOfTwo$Town", "yes", "[J", true)
  | _ => ("LieOfTwo$Town", "no", "[J", true)
def T2 : u_T := fun k => match k with
  | 0 => ("LieOfTwo$Tokens", "keptNames", "[J", true)
  | 1 => ("LieOfTwo$Tokens", "text", "[B", true)
  | 2 => ("LieOfTwo$Tokens", "length", "I", false)
  | 3 => ("LieOfTwo$Tokens", "at", "I", false)
  | 4 => ("LieOfTwo$Tokens", "kind", "I", false)
  | 5 => ("LieOfTwo$Tokens", "place", "I", false)
  | 6 => ("LieOfTwo$Tokens", "number", "I", false)
  | 7 => ("LieOfTwo$Tokens", "name", "J", false)
  | 8 => ("LieOfTwo$Tokens", "fault", "I", false)
  | _ => ("LieOfTwo$Tokens", "faultPlace", "I", false)
def T3 : u_T := fun k => match k with
  | 0 => ("LieOfTwo$Lines", "tokens", "LLieOfTwo$Tokens;", true)
  | 1 => ("LieOfTwo$Lines", "steps", "LLieOfTwo$Steps;", true)
  | 2 => ("LieOfTwo$Lines", "factNames", "[J", true)
  | 3 => ("LieOfTwo$Lines", "personNames", "[J", true)
  | 4 => ("LieOfTwo$Lines", "rowNames", "[J", true)
  | 5 => ("LieOfTwo$Lines", "rowStart", "[I", true)
  | 6 => ("LieOfTwo$Lines", "rowEnd", "[I", true)
  | 7 => ("LieOfTwo$Lines", "rowHolds", "[Z", true)
  | 8 => ("LieOfTwo$Lines", "alwaysStart", "[I", true)
  | 9 => ("LieOfTwo$Lines", "alwaysEnd", "[I", true)
  | 10 => ("LieOfTwo$Lines", "always", "I", false)
  | 11 => ("LieOfTwo$Lines", "lawStart", "I", false)
  | 12 => ("LieOfTwo$Lines", "lawEnd", "I", false)
  | 13 => ("LieOfTwo$Lines", "lawTold", "Z", false)
  | 14 => ("LieOfTwo$Lines", "bare", "Z", false)
  | 15 => ("LieOfTwo$Lines", "holding", "Z", false)
  | _ => ("LieOfTwo$Lines", "town", "LLieOfTwo$Town;", false)
def T4 : u_T := fun k => match k with
  | 0 => ("LieOfTwo$Steps", "steps", "[I", true)
  | 1 => ("LieOfTwo$Steps", "count", "I", false)
  | 2 => ("LieOfTwo$Steps", "sets", "[J", true)
  | _ => ("LieOfTwo$Steps", "numbers", "[I", true)
def T5 : u_T := fun k => match k with
  | 0 => ("LieOfTwo$Sayings", "count", "I", false)
  | 1 => ("LieOfTwo$Sayings", "kept", "Z", false)
  | 2 => ("LieOfTwo$Sayings", "persons", "[I", true)
  | 3 => ("LieOfTwo$Sayings", "rows", "[I", true)
  | 4 => ("LieOfTwo$Sayings", "surely", "[Z", true)
  | 5 => ("LieOfTwo$Sayings", "told", "[I", true)
  | 6 => ("LieOfTwo$Sayings", "untold", "[I", true)
  | _ => ("LieOfTwo$Sayings", "sayable", "[J", true)
def T6 : u_T := fun k => match k with
  | 0 => ("LieOfTwo$Known", "town", "LLieOfTwo$Town;", false)
  | 1 => ("LieOfTwo$Known", "sayings", "LLieOfTwo$Sayings;", false)
  | 2 => ("LieOfTwo$Known", "counting", "[I", true)
  | 3 => ("LieOfTwo$Known", "count", "I", false)
  | 4 => ("LieOfTwo$Known", "open", "[J", true)
  | _ => ("LieOfTwo$Known", "size", "I", false)
def T7 : u_T := fun k => match k with
  | 0 => ("LieOfTwo$Asker", "town", "LLieOfTwo$Town;", false)
  | 1 => ("LieOfTwo$Asker", "person", "I", false)
  | 2 => ("LieOfTwo$Asker", "row", "I", false)
  | 3 => ("LieOfTwo$Asker", "greatest", "I", false)
  | 4 => ("LieOfTwo$Asker", "sought", "I", false)
  | _ => ("LieOfTwo$Asker", "sets", "[J", true)
def T8 : u_T := fun k => match k with
  | 0 => ("LieOfTwo$Pairing", "town", "LLieOfTwo$Town;", false)
  | 1 => ("LieOfTwo$Pairing", "gain", "[I", true)
  | 2 => ("LieOfTwo$Pairing", "most", "I", false)
  | 3 => ("LieOfTwo$Pairing", "mostTies", "I", false)
  | 4 => ("LieOfTwo$Pairing", "wanted", "I", false)
  | _ => ("LieOfTwo$Pairing", "fewest", "I", false)
def T9 : u_T := fun k => match k with
  | 0 => ("LieOfTwo$Covering", "town", "LLieOfTwo$Town;", false)
  | 1 => ("LieOfTwo$Covering", "sayings", "LLieOfTwo$Sayings;", false)
  | 2 => ("LieOfTwo$Covering", "known", "LLieOfTwo$Known;", false)
  | 3 => ("LieOfTwo$Covering", "having", "[J", true)
  | _ => ("LieOfTwo$Covering", "watched", "J", false)
def T10 : u_T := fun k => match k with
  | 0 => ("LieOfTwoModel", "tape", "[B", true)
  | 1 => ("LieOfTwoModel", "text", "[B", true)
  | 2 => ("LieOfTwoModel", "taped", "I", false)
  | 3 => ("LieOfTwoModel", "size", "I", false)
  | 4 => ("LieOfTwoModel", "faultKind", "I", false)
  | 5 => ("LieOfTwoModel", "faultPlace", "I", false)
  | 6 => ("LieOfTwoModel", "at", "I", false)
  | 7 => ("LieOfTwoModel", "end", "I", false)
  | 8 => ("LieOfTwoModel", "token", "I", false)
  | 9 => ("LieOfTwoModel", "number", "I", false)
  | 10 => ("LieOfTwoModel", "name", "J", false)
  | 11 => ("LieOfTwoModel", "facts", "[I", true)
  | 12 => ("LieOfTwoModel", "persons", "[I", true)
  | 13 => ("LieOfTwoModel", "rows", "[I", true)
  | 14 => ("LieOfTwoModel", "always", "[I", true)
  | 15 => ("LieOfTwoModel", "ties", "[I", true)
  | 16 => ("LieOfTwoModel", "wishes", "[I", true)
  | 17 => ("LieOfTwoModel", "unitsOf", "[I", true)
  | 18 => ("LieOfTwoModel", "isLaw", "[Z", true)
  | 19 => ("LieOfTwoModel", "isThinking", "[Z", true)
  | 20 => ("LieOfTwoModel", "fName", "[J", true)
  | 21 => ("LieOfTwoModel", "pName", "[J", true)
  | 22 => ("LieOfTwoModel", "rName", "[J", true)
  | 23 => ("LieOfTwoModel", "cost", "[I", true)
  | 24 => ("LieOfTwoModel", "knows", "[I", true)
  | 25 => ("LieOfTwoModel", "tOne", "[I", true)
  | 26 => ("LieOfTwoModel", "tTwo", "[I", true)
  | 27 => ("LieOfTwoModel", "tPrice", "[I", true)
  | 28 => ("LieOfTwoModel", "wWho", "[I", true)
  | 29 => ("LieOfTwoModel", "wRow", "[I", true)
  | 30 => ("LieOfTwoModel", "wWorth", "[I", true)
  | 31 => ("LieOfTwoModel", "uFrom", "[I", true)
  | 32 => ("LieOfTwoModel", "uTo", "[I", true)
  | 33 => ("LieOfTwoModel", "code", "[I", true)
  | 34 => ("LieOfTwoModel", "codeNumber", "[I", true)
  | 35 => ("LieOfTwoModel", "eWhat", "[I", true)
  | 36 => ("LieOfTwoModel", "eSign", "[I", true)
  | 37 => ("LieOfTwoModel", "eNumber", "[I", true)
  | 38 => ("LieOfTwoModel", "bank", "I", false)
  | 39 => ("LieOfTwoModel", "rb", "I", false)
  | 40 => ("LieOfTwoModel", "codes", "I", false)
  | 41 => ("LieOfTwoModel", "within", "I", false)
  | 42 => ("LieOfTwoModel", "piled", "I", false)
  | 43 => ("LieOfTwoModel", "inLaw", "Z", false)
  | 44 => ("LieOfTwoModel", "inAlways", "Z", false)
  | 45 => ("LieOfTwoModel", "thinking", "Z", false)
  | 46 => ("LieOfTwoModel", "isBase", "[Z", true)
  | 47 => ("LieOfTwoModel", "rowIs", "[Z", true)
  | 48 => ("LieOfTwoModel", "pile", "[Z", true)
  | 49 => ("LieOfTwoModel", "answer", "[I", true)
  | 50 => ("LieOfTwoModel", "sums", "[I", true)
  | 51 => ("LieOfTwoModel", "sSet", "[I", true)
  | 52 => ("LieOfTwoModel", "sRow", "[I", true)
  | 53 => ("LieOfTwoModel", "sTold", "[I", true)
  | 54 => ("LieOfTwoModel", "sUntold", "[I", true)
  | 55 => ("LieOfTwoModel", "isApart", "[Z", true)
  | 56 => ("LieOfTwoModel", "isSurely", "[Z", true)
  | 57 => ("LieOfTwoModel", "sayings", "I", false)
  | 58 => ("LieOfTwoModel", "time", "I", false)
  | 59 => ("LieOfTwoModel", "isLeft", "[Z", true)
  | 60 => ("LieOfTwoModel", "leftMany", "I", false)
  | 61 => ("LieOfTwoModel", "counting", "[I", true)
  | 62 => ("LieOfTwoModel", "could", "[Z", true)
  | 63 => ("LieOfTwoModel", "part", "[I", true)
  | 64 => ("LieOfTwoModel", "parts", "[J", true)
  | 65 => ("LieOfTwoModel", "heard", "[J", true)
  | 66 => ("LieOfTwoModel", "so", "[J", true)
  | 67 => ("LieOfTwoModel", "lone", "[I", true)
  | 68 => ("LieOfTwoModel", "mate", "[I", true)
  | 69 => ("LieOfTwoModel", "trying", "[I", true)
  | 70 => ("LieOfTwoModel", "loneMany", "I", false)
  | 71 => ("LieOfTwoModel", "boxMany", "[I", true)
  | 72 => ("LieOfTwoModel", "boxSet", "[I", true)
  | 73 => ("LieOfTwoModel", "boxRow", "[I", true)
  | 74 => ("LieOfTwoModel", "boxTold", "[I", true)
  | 75 => ("LieOfTwoModel", "boxUntold", "[I", true)
  | 76 => ("LieOfTwoModel", "boxApart", "[Z", true)
  | _ => ("LieOfTwoModel", "boxSurely", "[Z", true)
def cls : List vw_C := [("LieOfTwo", T0, 13), ("LieOfTwo$Town", T1, 19), ("LieOfTwo$Tokens", T2, 10), ("LieOfTwo$Lines", T3, 17), ("LieOfTwo$Steps", T4, 4), ("LieOfTwo$Sayings", T5, 8), ("LieOfTwo$Known", T6, 6), ("LieOfTwo$Asker", T7, 6), ("LieOfTwo$Pairing", T8, 6), ("LieOfTwo$Covering", T9, 5), ("LieOfTwoModel", T10, 78)]
def tyL : List (List FieldType) := [[.array (.byte), .int, .object "LieOfTwo$Town", .object "LieOfTwo$Town", .object "LieOfTwo$Lines", .object "LieOfTwo$Sayings", .array (.object "LieOfTwo$Sayings"), .object "LieOfTwo$Known", .object "LieOfTwo$Asker", .object "LieOfTwo$Pairing", .object "LieOfTwo$Covering", .array (.long), .int], [.int, .int, .int, .int, .int, .int, .int, .long, .array (.int), .array (.int), .array (.int), .array (.int), .array (.int), .array (.int), .array (.int), .array (.long), .array (.long), .array (.long), .array (.long)], [.array (.long), .array (.byte), .int, .int, .int, .int, .int, .long, .int, .int], [.object "LieOfTwo$Tokens", .object "LieOfTwo$Steps", .array (.long), .array (.long), .array (.long), .array (.int), .array (.int), .array (.boolean), .array (.int), .array (.int), .int, .int, .int, .boolean, .boolean, .boolean, .object "LieOfTwo$Town"], [.array (.int), .int, .array (.long), .array (.int)], [.int, .boolean, .array (.int), .array (.int), .array (.boolean), .array (.int), .array (.int), .array (.long)], [.object "LieOfTwo$Town", .object "LieOfTwo$Sayings", .array (.int), .int, .array (.long), .int], [.object "LieOfTwo$Town", .int, .int, .int, .int, .array (.long)], [.object "LieOfTwo$Town", .array (.int), .int, .int, .int, .int], [.object "LieOfTwo$Town", .object "LieOfTwo$Sayings", .object "LieOfTwo$Known", .array (.long), .long], [.array (.byte), .array (.byte), .int, .int, .int, .int, .int, .int, .int, .int, .long, .array (.int), .array (.int), .array (.int), .array (.int), .array (.int), .array (.int), .array (.int), .array (.boolean), .array (.boolean), .array (.long), .array (.long), .array (.long), .array (.int), .array (.int), .array (.int), .array (.int), .array (.int), .array (.int), .array (.int), .array (.int), .array (.int), .array (.int), .array (.int), .array (.int), .array (.int), .array (.int), .array (.int), .int, .int, .int, .int, .int, .boolean, .boolean, .boolean, .array (.boolean), .array (.boolean), .array (.boolean), .array (.int), .array (.int), .array (.int), .array (.int), .array (.int), .array (.int), .array (.boolean), .array (.boolean), .int, .int, .array (.boolean), .int, .array (.int), .array (.boolean), .array (.int), .array (.long), .array (.long), .array (.long), .array (.int), .array (.int), .array (.int), .int, .array (.int), .array (.int), .array (.int), .array (.int), .array (.int), .array (.boolean), .array (.boolean)]]
def tyC (ci k : Nat) : FieldType := (tyL.getD ci []).getD k .int
theorem ty_0 : ∀ k, k < 13 → parseFieldDescriptor (T0 k).2.2.1 = some (tyC 0 k) := by decide +kernel
theorem nm_0 : ∀ a, a < 13 → ∀ b, b < 13 → a ≠ b → (T0 a).2.1 ≠ (T0 b).2.1 := by decide +kernel
theorem dc_0 : ∀ k, k < 13 → (T0 k).1 = "LieOfTwo" := by decide +kernel
set_option maxRecDepth 100000 in
theorem in_0 : ∀ w ∈ u_ws "LieOfTwo" T0 13, w ∈ lw_tbl := (mem_places [901, 903, 905, 907, 909, 911, 913, 915, 917, 919, 921, 923, 925] (by decide +kernel))
theorem ty_1 : ∀ k, k < 19 → parseFieldDescriptor (T1 k).2.2.1 = some (tyC 1 k) := by decide +kernel
theorem nm_1 : ∀ a, a < 19 → ∀ b, b < 19 → a ≠ b → (T1 a).2.1 ≠ (T1 b).2.1 := by decide +kernel
theorem dc_1 : ∀ k, k < 19 → (T1 k).1 = "LieOfTwo$Town" := by decide +kernel
set_option maxRecDepth 100000 in
theorem in_1 : ∀ w ∈ u_ws "LieOfTwo$Town" T1 19, w ∈ lw_tbl := (mem_places [270, 272, 274, 276, 278, 280, 282, 284, 286, 288, 290, 292, 294, 296, 298, 300, 302, 304, 306] (by decide +kernel))
theorem ty_2 : ∀ k, k < 10 → parseFieldDescriptor (T2 k).2.2.1 = some (tyC 2 k) := by decide +kernel
theorem nm_2 : ∀ a, a < 10 → ∀ b, b < 10 → a ≠ b → (T2 a).2.1 ≠ (T2 b).2.1 := by decide +kernel
theorem dc_2 : ∀ k, k < 10 → (T2 k).1 = "LieOfTwo$Tokens" := by decide +kernel
set_option maxRecDepth 100000 in
theorem in_2 : ∀ w ∈ u_ws "LieOfTwo$Tokens" T2 10, w ∈ lw_tbl := (mem_places [413, 415, 417, 419, 421, 423, 425, 427, 429, 431] (by decide +kernel))
theorem ty_3 : ∀ k, k < 17 → parseFieldDescriptor (T3 k).2.2.1 = some (tyC 3 k) := by decide +kernel
theorem nm_3 : ∀ a, a < 17 → ∀ b, b < 17 → a ≠ b → (T3 a).2.1 ≠ (T3 b).2.1 := by decide +kernel
theorem dc_3 : ∀ k, k < 17 → (T3 k).1 = "LieOfTwo$Lines" := by decide +kernel
set_option maxRecDepth 100000 in
theorem in_3 : ∀ w ∈ u_ws "LieOfTwo$Lines" T3 17, w ∈ lw_tbl := (mem_places [453, 455, 457, 459, 461, 463, 465, 467, 469, 471, 473, 475, 477, 479, 481, 483, 485] (by decide +kernel))
theorem ty_4 : ∀ k, k < 4 → parseFieldDescriptor (T4 k).2.2.1 = some (tyC 4 k) := by decide +kernel
theorem nm_4 : ∀ a, a < 4 → ∀ b, b < 4 → a ≠ b → (T4 a).2.1 ≠ (T4 b).2.1 := by decide +kernel
theorem dc_4 : ∀ k, k < 4 → (T4 k).1 = "LieOfTwo$Steps" := by decide +kernel
set_option maxRecDepth 100000 in
theorem in_4 : ∀ w ∈ u_ws "LieOfTwo$Steps" T4 4, w ∈ lw_tbl := (mem_places [330, 332, 334, 336] (by decide +kernel))
theorem ty_5 : ∀ k, k < 8 → parseFieldDescriptor (T5 k).2.2.1 = some (tyC 5 k) := by decide +kernel
theorem nm_5 : ∀ a, a < 8 → ∀ b, b < 8 → a ≠ b → (T5 a).2.1 ≠ (T5 b).2.1 := by decide +kernel
theorem dc_5 : ∀ k, k < 8 → (T5 k).1 = "LieOfTwo$Sayings" := by decide +kernel
set_option maxRecDepth 100000 in
theorem in_5 : ∀ w ∈ u_ws "LieOfTwo$Sayings" T5 8, w ∈ lw_tbl := (mem_places [510, 512, 514, 516, 518, 520, 522, 524] (by decide +kernel))
theorem ty_6 : ∀ k, k < 6 → parseFieldDescriptor (T6 k).2.2.1 = some (tyC 6 k) := by decide +kernel
theorem nm_6 : ∀ a, a < 6 → ∀ b, b < 6 → a ≠ b → (T6 a).2.1 ≠ (T6 b).2.1 := by decide +kernel
theorem dc_6 : ∀ k, k < 6 → (T6 k).1 = "LieOfTwo$Known" := by decide +kernel
set_option maxRecDepth 100000 in
theorem in_6 : ∀ w ∈ u_ws "LieOfTwo$Known" T6 6, w ∈ lw_tbl := (mem_places [548, 550, 552, 554, 556, 558] (by decide +kernel))
theorem ty_7 : ∀ k, k < 6 → parseFieldDescriptor (T7 k).2.2.1 = some (tyC 7 k) := by decide +kernel
theorem nm_7 : ∀ a, a < 6 → ∀ b, b < 6 → a ≠ b → (T7 a).2.1 ≠ (T7 b).2.1 := by decide +kernel
theorem dc_7 : ∀ k, k < 6 → (T7 k).1 = "LieOfTwo$Asker" := by decide +kernel
set_option maxRecDepth 100000 in
theorem in_7 : ∀ w ∈ u_ws "LieOfTwo$Asker" T7 6, w ∈ lw_tbl := (mem_places [576, 578, 580, 582, 584, 586] (by decide +kernel))
theorem ty_8 : ∀ k, k < 6 → parseFieldDescriptor (T8 k).2.2.1 = some (tyC 8 k) := by decide +kernel
theorem nm_8 : ∀ a, a < 6 → ∀ b, b < 6 → a ≠ b → (T8 a).2.1 ≠ (T8 b).2.1 := by decide +kernel
theorem dc_8 : ∀ k, k < 6 → (T8 k).1 = "LieOfTwo$Pairing" := by decide +kernel
set_option maxRecDepth 100000 in
theorem in_8 : ∀ w ∈ u_ws "LieOfTwo$Pairing" T8 6, w ∈ lw_tbl := (mem_places [603, 605, 607, 609, 611, 613] (by decide +kernel))
theorem ty_9 : ∀ k, k < 5 → parseFieldDescriptor (T9 k).2.2.1 = some (tyC 9 k) := by decide +kernel
theorem nm_9 : ∀ a, a < 5 → ∀ b, b < 5 → a ≠ b → (T9 a).2.1 ≠ (T9 b).2.1 := by decide +kernel
theorem dc_9 : ∀ k, k < 5 → (T9 k).1 = "LieOfTwo$Covering" := by decide +kernel
set_option maxRecDepth 100000 in
theorem in_9 : ∀ w ∈ u_ws "LieOfTwo$Covering" T9 5, w ∈ lw_tbl := (mem_places [627, 629, 631, 633, 635] (by decide +kernel))
theorem ty_10 : ∀ k, k < 78 → parseFieldDescriptor (T10 k).2.2.1 = some (tyC 10 k) := by decide +kernel
theorem nm_10 : ∀ a, a < 78 → ∀ b, b < 78 → a ≠ b → (T10 a).2.1 ≠ (T10 b).2.1 := by decide +kernel
theorem dc_10 : ∀ k, k < 78 → (T10 k).1 = "LieOfTwoModel" := by decide +kernel
set_option maxRecDepth 100000 in
theorem in_10 : ∀ w ∈ u_ws "LieOfTwoModel" T10 78, w ∈ lw_tbl := (mem_places [1406, 1408, 1410, 1412, 1414, 1416, 1418, 1420, 1422, 1424, 1426, 1428, 1430, 1432, 1434, 1436, 1438, 1440, 1442, 1444, 1446, 1448, 1450, 1452, 1454, 1456, 1458, 1460, 1462, 1464, 1466, 1468, 1470, 1472, 1474, 1476, 1478, 1480, 1482, 1484, 1486, 1488, 1490, 1492, 1494, 1496, 1498, 1500, 1502, 1504, 1506, 1508, 1510, 1512, 1514, 1516, 1518, 1520, 1522, 1524, 1526, 1528, 1530, 1532, 1534, 1536, 1538, 1540, 1542, 1544, 1546, 1548, 1550, 1552, 1554, 1556, 1558, 1560] (by decide +kernel))
theorem cls_ty {ci : Nat} {q : vw_C} (h : cls[ci]? = some q) : ∀ k, k < q.2.2 → parseFieldDescriptor (q.2.1 k).2.2.1 = some (tyC ci k) := by
  match ci, h with
  | 0, h => cases h; exact ty_0
  | 1, h => cases h; exact ty_1
  | 2, h => cases h; exact ty_2
  | 3, h => cases h; exact ty_3
  | 4, h => cases h; exact ty_4
  | 5, h => cases h; exact ty_5
  | 6, h => cases h; exact ty_6
  | 7, h => cases h; exact ty_7
  | 8, h => cases h; exact ty_8
  | 9, h => cases h; exact ty_9
  | 10, h => cases h; exact ty_10
  | k + 11, h => simp [cls] at h
theorem cls_nm {ci : Nat} {q : vw_C} (h : cls[ci]? = some q) : ∀ a, a < q.2.2 → ∀ b, b < q.2.2 → a ≠ b → (q.2.1 a).2.1 ≠ (q.2.1 b).2.1 := by
  match ci, h with
  | 0, h => cases h; exact nm_0
  | 1, h => cases h; exact nm_1
  | 2, h => cases h; exact nm_2
  | 3, h => cases h; exact nm_3
  | 4, h => cases h; exact nm_4
  | 5, h => cases h; exact nm_5
  | 6, h => cases h; exact nm_6
  | 7, h => cases h; exact nm_7
  | 8, h => cases h; exact nm_8
  | 9, h => cases h; exact nm_9
  | 10, h => cases h; exact nm_10
  | k + 11, h => simp [cls] at h
theorem cls_in {ci : Nat} {q : vw_C} (h : cls[ci]? = some q) : ∀ w ∈ u_ws q.1 q.2.1 q.2.2, w ∈ lw_tbl := by
  match ci, h with
  | 0, h => cases h; exact in_0
  | 1, h => cases h; exact in_1
  | 2, h => cases h; exact in_2
  | 3, h => cases h; exact in_3
  | 4, h => cases h; exact in_4
  | 5, h => cases h; exact in_5
  | 6, h => cases h; exact in_6
  | 7, h => cases h; exact in_7
  | 8, h => cases h; exact in_8
  | 9, h => cases h; exact in_9
  | 10, h => cases h; exact in_10
  | k + 11, h => simp [cls] at h
theorem cls_dc {ci : Nat} {q : vw_C} (h : cls[ci]? = some q) : ∀ k, k < q.2.2 → (q.2.1 k).1 = q.1 := by
  match ci, h with
  | 0, h => cases h; exact dc_0
  | 1, h => cases h; exact dc_1
  | 2, h => cases h; exact dc_2
  | 3, h => cases h; exact dc_3
  | 4, h => cases h; exact dc_4
  | 5, h => cases h; exact dc_5
  | 6, h => cases h; exact dc_6
  | 7, h => cases h; exact dc_7
  | 8, h => cases h; exact dc_8
  | 9, h => cases h; exact dc_9
  | 10, h => cases h; exact dc_10
  | k + 11, h => simp [cls] at h
abbrev lK : Type := Nat ⊕ (FieldType × Nat)
def layL : List lK := [.inr (.short, 0), .inl 0, .inr (.byte, 1600), .inl 1, .inr (.int, 8), .inr (.int, 8), .inr (.int, 8), .inr (.int, 12), .inr (.int, 12), .inr (.int, 12), .inr (.int, 96), .inr (.long, 4), .inr (.long, 48), .inr (.long, 384), .inr (.long, 384), .inl 1, .inr (.int, 8), .inr (.int, 8), .inr (.int, 8), .inr (.int, 12), .inr (.int, 12), .inr (.int, 12), .inr (.int, 96), .inr (.long, 4), .inr (.long, 48), .inr (.long, 384), .inr (.long, 384), .inl 3, .inl 4, .inr (.int, 720), .inr (.long, 100), .inr (.int, 25), .inr (.long, 8), .inr (.long, 8), .inr (.long, 12), .inr (.int, 12), .inr (.int, 12), .inr (.boolean, 12), .inr (.int, 4), .inr (.int, 4), .inl 2, .inr (.long, 20), .inl 5, .inr (.int, 40), .inr (.int, 40), .inr (.boolean, 40), .inr (.int, 40), .inr (.int, 40), .inr (.long, 160), .inr (.object "LieOfTwo$Sayings", 3), .inl 5, .inr (.int, 40), .inr (.int, 40), .inr (.boolean, 40), .inr (.int, 40), .inr (.int, 40), .inr (.long, 160), .inl 5, .inr (.int, 40), .inr (.int, 40), .inr (.boolean, 40), .inr (.int, 40), .inr (.int, 40), .inr (.long, 160), .inl 5, .inr (.int, 40), .inr (.int, 40), .inr (.boolean, 40), .inr (.int, 40), .inr (.int, 40), .inr (.long, 160), .inl 6, .inr (.int, 40), .inr (.long, 4), .inl 7, .inr (.long, 16), .inl 8, .inr (.int, 12), .inl 9, .inr (.long, 64), .inr (.long, 4), .inl 10, .inr (.byte, 1620), .inr (.byte, 1600), .inr (.int, 2), .inr (.int, 2), .inr (.int, 2), .inr (.int, 2), .inr (.int, 2), .inr (.int, 2), .inr (.int, 2), .inr (.boolean, 2), .inr (.boolean, 24), .inr (.long, 16), .inr (.long, 16), .inr (.long, 24), .inr (.int, 16), .inr (.int, 16), .inr (.int, 24), .inr (.int, 24), .inr (.int, 24), .inr (.int, 24), .inr (.int, 24), .inr (.int, 24), .inr (.int, 34), .inr (.int, 34), .inr (.int, 1800), .inr (.int, 1800), .inr (.int, 120), .inr (.int, 120), .inr (.int, 120), .inr (.boolean, 256), .inr (.boolean, 3072), .inr (.boolean, 20480), .inr (.int, 24576), .inr (.int, 120), .inr (.int, 40), .inr (.int, 40), .inr (.int, 40), .inr (.int, 40), .inr (.boolean, 40), .inr (.boolean, 40), .inr (.boolean, 256), .inr (.int, 40), .inr (.boolean, 2560), .inr (.int, 3), .inr (.long, 16), .inr (.long, 1152), .inr (.long, 4), .inr (.int, 40), .inr (.int, 8), .inr (.int, 9), .inr (.int, 3), .inr (.int, 120), .inr (.int, 120), .inr (.int, 120), .inr (.int, 120), .inr (.boolean, 120), .inr (.boolean, 120)]
def lay (c : Nat) : lK := layL.getD c (.inr (.short, 0))
def rfL : List (List Nat) := [[], [2, 0, 0, 0, 27, 42, 49, 71, 74, 76, 78, 80], [], [0, 0, 0, 0, 0, 0, 0, 0, 4, 5, 6, 7, 8, 9, 10, 11, 12, 13, 14], [], [], [], [], [], [], [], [], [], [], [], [0, 0, 0, 0, 0, 0, 0, 0, 16, 17, 18, 19, 20, 21, 22, 23, 24, 25, 26], [], [], [], [], [], [], [], [], [], [], [], [40, 28, 32, 33, 34, 35, 36, 37, 38, 39], [29, 0, 30, 31], [], [], [], [], [], [], [], [], [], [], [], [41, 2], [], [0, 0, 43, 44, 45, 46, 47, 48], [], [], [], [], [], [], [50, 57, 64], [0, 0, 51, 52, 53, 54, 55, 56], [], [], [], [], [], [], [0, 0, 58, 59, 60, 61, 62, 63], [], [], [], [], [], [], [0, 0, 65, 66, 67, 68, 69, 70], [], [], [], [], [], [], [0, 0, 72, 0, 73], [], [], [0, 0, 0, 0, 0, 75], [], [0, 77], [], [0, 0, 0, 79], [], [], [82, 83, 0, 0, 0, 0, 0, 0, 0, 0, 0, 84, 85, 86, 87, 88, 89, 90, 91, 92, 93, 94, 95, 96, 97, 98, 99, 100, 101, 102, 103, 104, 105, 106, 107, 108, 109, 110, 0, 0, 0, 0, 0, 0, 0, 0, 111, 112, 113, 114, 115, 116, 117, 118, 119, 120, 121, 0, 0, 122, 0, 123, 124, 125, 126, 127, 128, 129, 130, 131, 0, 132, 133, 134, 135, 136, 137, 138], [], [], [], [], [], [], [], [], [], [], [], [], [], [], [], [], [], [], [], [], [], [], [], [], [], [], [], [], [], [], [], [], [], [], [], [], [], [], [], [], [], [], [], [], [], [], [], [], [], [], [], [], [], [], [], [], []]
def rf (c k : Nat) : Nat := (rfL.getD c []).getD k 0
