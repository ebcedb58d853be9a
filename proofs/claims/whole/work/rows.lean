section
theorem goodIn_r {big : List Cond} (ws : List Cond) (ps : List Nat) (hp : ws = ps.filterMap (fun i => big[i]?)) (h : ws.all goodWord = true) : GoodIn big ws := by
  intro w hw
  have h1 := List.all_eq_true.mp h w hw
  rw [hp] at hw
  obtain ⟨i, -, hi⟩ := List.mem_filterMap.mp hw
  have hm : w ∈ big := by first | exact List.mem_of_getElem? hi | exact List.getElem?_mem hi
  exact ⟨hm, good_of_word h1⟩
theorem goodIn_app {big a b : List Cond} (ha : GoodIn big a) (hb : GoodIn big b) : GoodIn big (a ++ b) := fun w h => (List.mem_append.mp h).elim (ha w) (hb w)
theorem goodIn_ca {big a b : List Cond} {c : Cond} (ha : GoodIn big (c :: a)) (hb : GoodIn big b) : GoodIn big (c :: (a ++ b)) := fun w h => (List.mem_cons.mp h).elim (fun e => ha w (List.mem_cons.mpr (Or.inl e))) (fun h => (List.mem_append.mp h).elim (fun h => ha w (List.mem_cons.mpr (Or.inr h))) (hb w))
theorem goodIn_sub {big ws : List Cond} (hm : ∀ w ∈ ws, w ∈ big) (h : ws.all goodWord = true) : GoodIn big ws := fun w hw => ⟨hm w hw, good_of_word (List.all_eq_true.mp h w hw)⟩
def RX0 : String := "ProofHouse$Book"
def TX0 : u_T := fun k => match k with
  | 0 => ("ProofHouse$Book", "functionNames", "[I", true)
  | 1 => ("ProofHouse$Book", "parameters", "[I", true)
  | 2 => ("ProofHouse$Book", "arities", "[I", true)
  | 3 => ("ProofHouse$Book", "bodies", "[I", true)
  | 4 => ("ProofHouse$Book", "measures", "[I", true)
  | 5 => ("ProofHouse$Book", "functions", "I", false)
  | 6 => ("ProofHouse$Book", "theoremNames", "[I", true)
  | 7 => ("ProofHouse$Book", "formulas", "[I", true)
  | 8 => ("ProofHouse$Book", "lefts", "[I", true)
  | 9 => ("ProofHouse$Book", "rights", "[I", true)
  | 10 => ("ProofHouse$Book", "hypotheses", "[[I", true)
  | 11 => ("ProofHouse$Book", "hypothesisCounts", "[I", true)
  | 12 => ("ProofHouse$Book", "truthAlone", "[Z", true)
  | 13 => ("ProofHouse$Book", "turning", "[Z", true)
  | 14 => ("ProofHouse$Book", "on", "[Z", true)
  | 15 => ("ProofHouse$Book", "muted", "[Z", true)
  | 16 => ("ProofHouse$Book", "theorems", "I", false)
  | 17 => ("ProofHouse$Book", "kinds", "[I", true)
  | 18 => ("ProofHouse$Book", "marks", "[I", true)
  | 19 => ("ProofHouse$Book", "entries", "I", false)
  | _ => ("ProofHouse$Book", "kept", "I", false)
def tyX0 : Nat → FieldType := fun k => match k with
  | 0 => .array .int
  | 1 => .array .int
  | 2 => .array .int
  | 3 => .array .int
  | 4 => .array .int
  | 5 => .int
  | 6 => .array .int
  | 7 => .array .int
  | 8 => .array .int
  | 9 => .array .int
  | 10 => .array (.array .int)
  | 11 => .array .int
  | 12 => .array .boolean
  | 13 => .array .boolean
  | 14 => .array .boolean
  | 15 => .array .boolean
  | 16 => .int
  | 17 => .array .int
  | 18 => .array .int
  | 19 => .int
  | _ => .int
abbrev wsX00 : List Cond := u_ws RX0 TX0 21
theorem nmX0 : ∀ a, a < 21 → ∀ b, b < 21 → a ≠ b → (TX0 a).2.1 ≠ (TX0 b).2.1 := by decide +kernel
theorem tyX0_ok : ∀ k, k < 21 → parseFieldDescriptor (TX0 k).2.2.1 = some (tyX0 k) := by decide +kernel
abbrev cX0_init : ByteArray := prog_2_method_1_code
def yX0_init : MethodName := ⟨RX0, "<init>", "(I)V"⟩
abbrev cX0_functionOf : ByteArray := prog_2_method_2_code
def yX0_functionOf : MethodName := ⟨RX0, "functionOf", "(I)I"⟩
abbrev cX0_theoremOf : ByteArray := prog_2_method_3_code
def yX0_theoremOf : MethodName := ⟨RX0, "theoremOf", "(I)I"⟩
abbrev cX0_arityOf : ByteArray := prog_2_method_4_code
def yX0_arityOf : MethodName := ⟨RX0, "arityOf", "(I)I"⟩
abbrev cX0_canLook : ByteArray := prog_2_method_5_code
def yX0_canLook : MethodName := ⟨RX0, "canLook", "(II)Z"⟩
abbrev cX0_rules : ByteArray := prog_2_method_6_code
def yX0_rules : MethodName := ⟨RX0, "rules", "(Z)I"⟩
abbrev cX0_muteNone : ByteArray := prog_2_method_7_code
def yX0_muteNone : MethodName := ⟨RX0, "muteNone", "()V"⟩
abbrev cX0_addFunction : ByteArray := prog_2_method_8_code
def yX0_addFunction : MethodName := ⟨RX0, "addFunction", "(IIIII)V"⟩
abbrev cX0_addTheorem : ByteArray := prog_2_method_9_code
def yX0_addTheorem : MethodName := ⟨RX0, "addTheorem", "(II)V"⟩
abbrev cX0_enter : ByteArray := prog_2_method_10_code
def yX0_enter : MethodName := ⟨RX0, "enter", "(II)V"⟩
abbrev cX0_takeBack : ByteArray := prog_2_method_11_code
def yX0_takeBack : MethodName := ⟨RX0, "takeBack", "()V"⟩
abbrev cX0_placeOf : ByteArray := prog_2_method_12_code
def yX0_placeOf : MethodName := ⟨RX0, "placeOf", "(I)I"⟩
def RX1 : String := "ProofHouse$Clause"
def TX1 : u_T := fun k => match k with
  | 0 => ("ProofHouse$Clause", "literals", "[I", true)
  | 1 => ("ProofHouse$Clause", "length", "I", false)
  | 2 => ("ProofHouse$Clause", "weight", "I", false)
  | _ => ("ProofHouse$Clause", "rounds", "I", false)
def tyX1 : Nat → FieldType := fun k => match k with
  | 0 => .array .int
  | 1 => .int
  | 2 => .int
  | _ => .int
abbrev wsX10 : List Cond := u_ws RX1 TX1 4
theorem nmX1 : ∀ a, a < 4 → ∀ b, b < 4 → a ≠ b → (TX1 a).2.1 ≠ (TX1 b).2.1 := by decide +kernel
theorem tyX1_ok : ∀ k, k < 4 → parseFieldDescriptor (TX1 k).2.2.1 = some (tyX1 k) := by decide +kernel
abbrev cX1_init : ByteArray := prog_3_method_1_code
def yX1_init : MethodName := ⟨RX1, "<init>", "()V"⟩
abbrev cX1_clear : ByteArray := prog_3_method_2_code
def yX1_clear : MethodName := ⟨RX1, "clear", "()V"⟩
abbrev cX1_copy : ByteArray := prog_3_method_3_code
def yX1_copy : MethodName := ⟨RX1, "copy", "(LProofHouse$Clause;)V"⟩
abbrev cX1_placeOf : ByteArray := prog_3_method_4_code
def yX1_placeOf : MethodName := ⟨RX1, "placeOf", "(I)I"⟩
abbrev cX1_insert : ByteArray := prog_3_method_5_code
def yX1_insert : MethodName := ⟨RX1, "insert", "(III)Z"⟩
abbrev cX1_remove : ByteArray := prog_3_method_6_code
def yX1_remove : MethodName := ⟨RX1, "remove", "(II)V"⟩
def RX2 : String := "ProofHouse$Evaluator"
def TX2 : u_T := fun k => match k with
  | 0 => ("ProofHouse$Evaluator", "room", "LProofHouse$Room;", true)
  | 1 => ("ProofHouse$Evaluator", "book", "LProofHouse$Book;", true)
  | 2 => ("ProofHouse$Evaluator", "names", "[I", true)
  | 3 => ("ProofHouse$Evaluator", "rests", "[I", true)
  | 4 => ("ProofHouse$Evaluator", "bases", "[I", true)
  | 5 => ("ProofHouse$Evaluator", "inBody", "[Z", true)
  | 6 => ("ProofHouse$Evaluator", "outerOwners", "[I", true)
  | 7 => ("ProofHouse$Evaluator", "outerFloors", "[I", true)
  | 8 => ("ProofHouse$Evaluator", "values", "[I", true)
  | 9 => ("ProofHouse$Evaluator", "depth", "I", false)
  | 10 => ("ProofHouse$Evaluator", "held", "I", false)
  | 11 => ("ProofHouse$Evaluator", "owner", "I", false)
  | 12 => ("ProofHouse$Evaluator", "floor", "I", false)
  | 13 => ("ProofHouse$Evaluator", "stepsLeft", "I", false)
  | _ => ("ProofHouse$Evaluator", "stopped", "I", false)
def tyX2 : Nat → FieldType := fun k => match k with
  | 0 => .object "ProofHouse$Room"
  | 1 => .object "ProofHouse$Book"
  | 2 => .array .int
  | 3 => .array .int
  | 4 => .array .int
  | 5 => .array .boolean
  | 6 => .array .int
  | 7 => .array .int
  | 8 => .array .int
  | 9 => .int
  | 10 => .int
  | 11 => .int
  | 12 => .int
  | 13 => .int
  | _ => .int
abbrev wsX20 : List Cond := u_ws RX2 TX2 15
theorem nmX2 : ∀ a, a < 15 → ∀ b, b < 15 → a ≠ b → (TX2 a).2.1 ≠ (TX2 b).2.1 := by decide +kernel
theorem tyX2_ok : ∀ k, k < 15 → parseFieldDescriptor (TX2 k).2.2.1 = some (tyX2 k) := by decide +kernel
abbrev cX2_init : ByteArray := prog_4_method_1_code
def yX2_init : MethodName := ⟨RX2, "<init>", "(LProofHouse$Room;LProofHouse$Book;)V"⟩
abbrev cX2_evaluated : ByteArray := prog_4_method_2_code
def yX2_evaluated : MethodName := ⟨RX2, "evaluated", "(II)I"⟩
abbrev cX2_isReady : ByteArray := prog_4_method_3_code
def yX2_isReady : MethodName := ⟨RX2, "isReady", "(I)Z"⟩
abbrev cX2_begin : ByteArray := prog_4_method_4_code
def yX2_begin : MethodName := ⟨RX2, "begin", "(I)V"⟩
abbrev cX2_hold : ByteArray := prog_4_method_5_code
def yX2_hold : MethodName := ⟨RX2, "hold", "(I)V"⟩
abbrev cX2_parameterValue : ByteArray := prog_4_method_6_code
def yX2_parameterValue : MethodName := ⟨RX2, "parameterValue", "(I)I"⟩
abbrev cX2_goOn : ByteArray := prog_4_method_7_code
def yX2_goOn : MethodName := ⟨RX2, "goOn", "(I)I"⟩
abbrev cX2_close : ByteArray := prog_4_method_8_code
def yX2_close : MethodName := ⟨RX2, "close", "(I)V"⟩
abbrev cX2_baseValue : ByteArray := prog_4_method_9_code
def yX2_baseValue : MethodName := ⟨RX2, "baseValue", "(IIII)I"⟩
def RX3 : String := "ProofHouse$Proofs"
def TX3 : u_T := fun k => match k with
  | 0 => ("ProofHouse$Proofs", "room", "LProofHouse$Room;", true)
  | 1 => ("ProofHouse$Proofs", "book", "LProofHouse$Book;", true)
  | 2 => ("ProofHouse$Proofs", "terms", "LProofHouse$Terms;", true)
  | 3 => ("ProofHouse$Proofs", "evaluator", "LProofHouse$Evaluator;", true)
  | 4 => ("ProofHouse$Proofs", "schemes", "LProofHouse$Schemes;", true)
  | 5 => ("ProofHouse$Proofs", "frames", "[[I", true)
  | 6 => ("ProofHouse$Proofs", "depth", "I", false)
  | 7 => ("ProofHouse$Proofs", "clauses", "[LProofHouse$Clause;", true)
  | 8 => ("ProofHouse$Proofs", "held", "I", false)
  | 9 => ("ProofHouse$Proofs", "wanted", "LProofHouse$Clause;", true)
  | _ => ("ProofHouse$Proofs", "wrong", "I", false)
def tyX3 : Nat → FieldType := fun k => match k with
  | 0 => .object "ProofHouse$Room"
  | 1 => .object "ProofHouse$Book"
  | 2 => .object "ProofHouse$Terms"
  | 3 => .object "ProofHouse$Evaluator"
  | 4 => .object "ProofHouse$Schemes"
  | 5 => .array (.array .int)
  | 6 => .int
  | 7 => .array (.object "ProofHouse$Clause")
  | 8 => .int
  | 9 => .object "ProofHouse$Clause"
  | _ => .int
abbrev wsX30 : List Cond := u_ws RX3 TX3 11
theorem nmX3 : ∀ a, a < 11 → ∀ b, b < 11 → a ≠ b → (TX3 a).2.1 ≠ (TX3 b).2.1 := by decide +kernel
theorem tyX3_ok : ∀ k, k < 11 → parseFieldDescriptor (TX3 k).2.2.1 = some (tyX3 k) := by decide +kernel
abbrev cX3_init : ByteArray := prog_5_method_1_code
def yX3_init : MethodName := ⟨RX3, "<init>", "(LProofHouse$Room;LProofHouse$Book;LProofHouse$Terms;LProofHouse$Evaluator;LProofHouse$Schemes;)V"⟩
abbrev cX3_goThrough : ByteArray := prog_5_method_2_code
def yX3_goThrough : MethodName := ⟨RX3, "goThrough", "(I)V"⟩
abbrev cX3_open : ByteArray := prog_5_method_3_code
def yX3_open : MethodName := ⟨RX3, "open", "(I)V"⟩
abbrev cX3_isFormed : ByteArray := prog_5_method_4_code
def yX3_isFormed : MethodName := ⟨RX3, "isFormed", "(I)Z"⟩
abbrev cX3_termAt : ByteArray := prog_5_method_5_code
def yX3_termAt : MethodName := ⟨RX3, "termAt", "(II)I"⟩
abbrev cX3_isWholeFormed : ByteArray := prog_5_method_6_code
def yX3_isWholeFormed : MethodName := ⟨RX3, "isWholeFormed", "(I)Z"⟩
abbrev cX3_valueAt : ByteArray := prog_5_method_7_code
def yX3_valueAt : MethodName := ⟨RX3, "valueAt", "(I)I"⟩
abbrev cX3_isListOfTerms : ByteArray := prog_5_method_8_code
def yX3_isListOfTerms : MethodName := ⟨RX3, "isListOfTerms", "(I)Z"⟩
abbrev cX3_isInduction : ByteArray := prog_5_method_9_code
def yX3_isInduction : MethodName := ⟨RX3, "isInduction", "(I)Z"⟩
abbrev cX3_conclude : ByteArray := prog_5_method_10_code
def yX3_conclude : MethodName := ⟨RX3, "conclude", "([I)V"⟩
abbrev cX3_concludeAlone : ByteArray := prog_5_method_11_code
def yX3_concludeAlone : MethodName := ⟨RX3, "concludeAlone", "(LProofHouse$Clause;I)V"⟩
abbrev cX3_joinEqual : ByteArray := prog_5_method_12_code
def yX3_joinEqual : MethodName := ⟨RX3, "joinEqual", "(LProofHouse$Clause;II)V"⟩
abbrev cX3_concludePair : ByteArray := prog_5_method_13_code
def yX3_concludePair : MethodName := ⟨RX3, "concludePair", "(LProofHouse$Clause;III)V"⟩
abbrev cX3_definedCall : ByteArray := prog_5_method_14_code
def yX3_definedCall : MethodName := ⟨RX3, "definedCall", "(I)I"⟩
abbrev cX3_concludeOfParts : ByteArray := prog_5_method_15_code
def yX3_concludeOfParts : MethodName := ⟨RX3, "concludeOfParts", "(LProofHouse$Clause;II)Z"⟩
abbrev cX3_joinAllBut : ByteArray := prog_5_method_16_code
def yX3_joinAllBut : MethodName := ⟨RX3, "joinAllBut", "(LProofHouse$Clause;LProofHouse$Clause;I)V"⟩
abbrev cX3_joinRebuilt : ByteArray := prog_5_method_17_code
def yX3_joinRebuilt : MethodName := ⟨RX3, "joinRebuilt", "(LProofHouse$Clause;LProofHouse$Clause;I)V"⟩
abbrev cX3_concludeWeak : ByteArray := prog_5_method_18_code
def yX3_concludeWeak : MethodName := ⟨RX3, "concludeWeak", "(LProofHouse$Clause;LProofHouse$Clause;I)V"⟩
abbrev cX3_isCut : ByteArray := prog_5_method_19_code
def yX3_isCut : MethodName := ⟨RX3, "isCut", "(LProofHouse$Clause;LProofHouse$Clause;LProofHouse$Clause;I)Z"⟩
abbrev cX3_isInduced : ByteArray := prog_5_method_20_code
def yX3_isInduced : MethodName := ⟨RX3, "isInduced", "(LProofHouse$Clause;II)Z"⟩
abbrev cX3_isWithin : ByteArray := prog_5_method_21_code
def yX3_isWithin : MethodName := ⟨RX3, "isWithin", "(LProofHouse$Clause;LProofHouse$Clause;)Z"⟩
def RX4 : String := "ProofHouse$Prover"
def TX4 : u_T := fun k => match k with
  | 0 => ("ProofHouse$Prover", "room", "LProofHouse$Room;", true)
  | 1 => ("ProofHouse$Prover", "terms", "LProofHouse$Terms;", true)
  | 2 => ("ProofHouse$Prover", "rewriter", "LProofHouse$Rewriter;", true)
  | 3 => ("ProofHouse$Prover", "given", "[LProofHouse$Clause;", true)
  | 4 => ("ProofHouse$Prover", "givenCount", "I", false)
  | 5 => ("ProofHouse$Prover", "waiting", "[LProofHouse$Clause;", true)
  | 6 => ("ProofHouse$Prover", "waitingCount", "I", false)
  | 7 => ("ProofHouse$Prover", "left", "[LProofHouse$Clause;", true)
  | 8 => ("ProofHouse$Prover", "leftCount", "I", false)
  | 9 => ("ProofHouse$Prover", "spare", "LProofHouse$Clause;", true)
  | _ => ("ProofHouse$Prover", "checking", "Z", false)
def tyX4 : Nat → FieldType := fun k => match k with
  | 0 => .object "ProofHouse$Room"
  | 1 => .object "ProofHouse$Terms"
  | 2 => .object "ProofHouse$Rewriter"
  | 3 => .array (.object "ProofHouse$Clause")
  | 4 => .int
  | 5 => .array (.object "ProofHouse$Clause")
  | 6 => .int
  | 7 => .array (.object "ProofHouse$Clause")
  | 8 => .int
  | 9 => .object "ProofHouse$Clause"
  | _ => .boolean
abbrev wsX40 : List Cond := u_ws RX4 TX4 11
theorem nmX4 : ∀ a, a < 11 → ∀ b, b < 11 → a ≠ b → (TX4 a).2.1 ≠ (TX4 b).2.1 := by decide +kernel
theorem tyX4_ok : ∀ k, k < 11 → parseFieldDescriptor (TX4 k).2.2.1 = some (tyX4 k) := by decide +kernel
abbrev cX4_init : ByteArray := prog_6_method_1_code
def yX4_init : MethodName := ⟨RX4, "<init>", "(LProofHouse$Room;LProofHouse$Terms;LProofHouse$Rewriter;)V"⟩
abbrev cX4_begin : ByteArray := prog_6_method_2_code
def yX4_begin : MethodName := ⟨RX4, "begin", "()V"⟩
abbrev cX4_newClause : ByteArray := prog_6_method_3_code
def yX4_newClause : MethodName := ⟨RX4, "newClause", "()LProofHouse$Clause;"⟩
abbrev cX4_prove : ByteArray := prog_6_method_4_code
def yX4_prove : MethodName := ⟨RX4, "prove", "(Z)V"⟩
abbrev cX4_leave : ByteArray := prog_6_method_5_code
def yX4_leave : MethodName := ⟨RX4, "leave", "(LProofHouse$Clause;)V"⟩
abbrev cX4_isPlain : ByteArray := prog_6_method_6_code
def yX4_isPlain : MethodName := ⟨RX4, "isPlain", "(LProofHouse$Clause;)Z"⟩
abbrev cX4_makeRound : ByteArray := prog_6_method_7_code
def yX4_makeRound : MethodName := ⟨RX4, "makeRound", "(LProofHouse$Clause;)V"⟩
abbrev cX4_rowOfOthers : ByteArray := prog_6_method_8_code
def yX4_rowOfOthers : MethodName := ⟨RX4, "rowOfOthers", "(LProofHouse$Clause;I)I"⟩
abbrev cX4_stands : ByteArray := prog_6_method_9_code
def yX4_stands : MethodName := ⟨RX4, "stands", "(LProofHouse$Clause;II)Z"⟩
abbrev cX4_split : ByteArray := prog_6_method_10_code
def yX4_split : MethodName := ⟨RX4, "split", "(LProofHouse$Clause;II)V"⟩
abbrev cX4_fillSplit : ByteArray := prog_6_method_11_code
def yX4_fillSplit : MethodName := ⟨RX4, "fillSplit", "(LProofHouse$Clause;LProofHouse$Clause;III)V"⟩
abbrev cX4_listOf : ByteArray := prog_6_method_12_code
def yX4_listOf : MethodName := ⟨RX4, "listOf", "(LProofHouse$Clause;)I"⟩
abbrev cX4_listOfLeft : ByteArray := prog_6_method_13_code
def yX4_listOfLeft : MethodName := ⟨RX4, "listOfLeft", "()I"⟩
abbrev cX4_isAllProved : ByteArray := prog_6_method_14_code
def yX4_isAllProved : MethodName := ⟨RX4, "isAllProved", "()Z"⟩
def RX5 : String := "ProofHouse$Reader"
def TX5 : u_T := fun k => match k with
  | 0 => ("ProofHouse$Reader", "room", "LProofHouse$Room;", true)
  | 1 => ("ProofHouse$Reader", "phases", "[I", true)
  | 2 => ("ProofHouse$Reader", "bases", "[I", true)
  | 3 => ("ProofHouse$Reader", "tails", "[I", true)
  | 4 => ("ProofHouse$Reader", "items", "[I", true)
  | 5 => ("ProofHouse$Reader", "depth", "I", false)
  | 6 => ("ProofHouse$Reader", "held", "I", false)
  | 7 => ("ProofHouse$Reader", "words", "I", false)
  | 8 => ("ProofHouse$Reader", "whole", "I", false)
  | 9 => ("ProofHouse$Reader", "flaw", "I", false)
  | _ => ("ProofHouse$Reader", "place", "I", false)
def tyX5 : Nat → FieldType := fun k => match k with
  | 0 => .object "ProofHouse$Room"
  | 1 => .array .int
  | 2 => .array .int
  | 3 => .array .int
  | 4 => .array .int
  | 5 => .int
  | 6 => .int
  | 7 => .int
  | 8 => .int
  | 9 => .int
  | _ => .int
abbrev wsX50 : List Cond := u_ws RX5 TX5 11
theorem nmX5 : ∀ a, a < 11 → ∀ b, b < 11 → a ≠ b → (TX5 a).2.1 ≠ (TX5 b).2.1 := by decide +kernel
theorem tyX5_ok : ∀ k, k < 11 → parseFieldDescriptor (TX5 k).2.2.1 = some (tyX5 k) := by decide +kernel
abbrev cX5_init : ByteArray := prog_7_method_1_code
def yX5_init : MethodName := ⟨RX5, "<init>", "(LProofHouse$Room;)V"⟩
abbrev cX5_read : ByteArray := prog_7_method_2_code
def yX5_read : MethodName := ⟨RX5, "read", "([CI)I"⟩
abbrev cX5_refuse : ByteArray := prog_7_method_3_code
def yX5_refuse : MethodName := ⟨RX5, "refuse", "(II)V"⟩
abbrev cX5_lineEnd : ByteArray := prog_7_method_4_code
def yX5_lineEnd : MethodName := ⟨RX5, "lineEnd", "([CII)I"⟩
abbrev cX5_atomEnd : ByteArray := prog_7_method_5_code
def yX5_atomEnd : MethodName := ⟨RX5, "atomEnd", "([CII)I"⟩
abbrev cX5_takeWord : ByteArray := prog_7_method_6_code
def yX5_takeWord : MethodName := ⟨RX5, "takeWord", "([CII)I"⟩
abbrev cX5_atomCell : ByteArray := prog_7_method_7_code
def yX5_atomCell : MethodName := ⟨RX5, "atomCell", "([CII)J"⟩
abbrev cX5_canStand : ByteArray := prog_7_method_8_code
def yX5_canStand : MethodName := ⟨RX5, "canStand", "(C)Z"⟩
abbrev cX5_takeMark : ByteArray := prog_7_method_9_code
def yX5_takeMark : MethodName := ⟨RX5, "takeMark", "(C)V"⟩
abbrev cX5_deliver : ByteArray := prog_7_method_10_code
def yX5_deliver : MethodName := ⟨RX5, "deliver", "(I)V"⟩
def RX6 : String := "ProofHouse$Rewriter"
def TX6 : u_T := fun k => match k with
  | 0 => ("ProofHouse$Rewriter", "room", "LProofHouse$Room;", true)
  | 1 => ("ProofHouse$Rewriter", "book", "LProofHouse$Book;", true)
  | 2 => ("ProofHouse$Rewriter", "terms", "LProofHouse$Terms;", true)
  | 3 => ("ProofHouse$Rewriter", "evaluator", "LProofHouse$Evaluator;", true)
  | 4 => ("ProofHouse$Rewriter", "mine", "LProofHouse$Scribe;", true)
  | 5 => ("ProofHouse$Rewriter", "other", "LProofHouse$Scribe;", true)
  | 6 => ("ProofHouse$Rewriter", "frames", "[[I", true)
  | 7 => ("ProofHouse$Rewriter", "depth", "I", false)
  | 8 => ("ProofHouse$Rewriter", "answer", "I", false)
  | 9 => ("ProofHouse$Rewriter", "horizon", "I", false)
  | 10 => ("ProofHouse$Rewriter", "notes", "[[I", true)
  | 11 => ("ProofHouse$Rewriter", "noted", "I", false)
  | 12 => ("ProofHouse$Rewriter", "checking", "Z", false)
  | _ => ("ProofHouse$Rewriter", "nextNote", "I", false)
def tyX6 : Nat → FieldType := fun k => match k with
  | 0 => .object "ProofHouse$Room"
  | 1 => .object "ProofHouse$Book"
  | 2 => .object "ProofHouse$Terms"
  | 3 => .object "ProofHouse$Evaluator"
  | 4 => .object "ProofHouse$Scribe"
  | 5 => .object "ProofHouse$Scribe"
  | 6 => .array (.array .int)
  | 7 => .int
  | 8 => .int
  | 9 => .int
  | 10 => .array (.array .int)
  | 11 => .int
  | 12 => .boolean
  | _ => .int
abbrev wsX60 : List Cond := u_ws RX6 TX6 14
theorem nmX6 : ∀ a, a < 14 → ∀ b, b < 14 → a ≠ b → (TX6 a).2.1 ≠ (TX6 b).2.1 := by decide +kernel
theorem tyX6_ok : ∀ k, k < 14 → parseFieldDescriptor (TX6 k).2.2.1 = some (tyX6 k) := by decide +kernel
abbrev cX6_init : ByteArray := prog_8_method_1_code
def yX6_init : MethodName := ⟨RX6, "<init>", "(LProofHouse$Room;LProofHouse$Book;LProofHouse$Terms;LProofHouse$Evaluator;)V"⟩
abbrev cX6_begin : ByteArray := prog_8_method_2_code
def yX6_begin : MethodName := ⟨RX6, "begin", "()V"⟩
abbrev cX6_rewritten : ByteArray := prog_8_method_3_code
def yX6_rewritten : MethodName := ⟨RX6, "rewritten", "(III)I"⟩
abbrev cX6_ask : ByteArray := prog_8_method_4_code
def yX6_ask : MethodName := ⟨RX6, "ask", "(III)V"⟩
abbrev cX6_recalled : ByteArray := prog_8_method_5_code
def yX6_recalled : MethodName := ⟨RX6, "recalled", "(III)I"⟩
abbrev cX6_finish : ByteArray := prog_8_method_6_code
def yX6_finish : MethodName := ⟨RX6, "finish", "(I)V"⟩
abbrev cX6_askInstead : ByteArray := prog_8_method_7_code
def yX6_askInstead : MethodName := ⟨RX6, "askInstead", "([II)V"⟩
abbrev cX6_start : ByteArray := prog_8_method_8_code
def yX6_start : MethodName := ⟨RX6, "start", "([I)V"⟩
abbrev cX6_goOnWithTest : ByteArray := prog_8_method_9_code
def yX6_goOnWithTest : MethodName := ⟨RX6, "goOnWithTest", "([I)V"⟩
abbrev cX6_goOnWithThen : ByteArray := prog_8_method_10_code
def yX6_goOnWithThen : MethodName := ⟨RX6, "goOnWithThen", "([I)V"⟩
abbrev cX6_choice : ByteArray := prog_8_method_11_code
def yX6_choice : MethodName := ⟨RX6, "choice", "(IIII)I"⟩
abbrev cX6_goOnWithNegation : ByteArray := prog_8_method_12_code
def yX6_goOnWithNegation : MethodName := ⟨RX6, "goOnWithNegation", "([I)V"⟩
abbrev cX6_lookedUp : ByteArray := prog_8_method_13_code
def yX6_lookedUp : MethodName := ⟨RX6, "lookedUp", "(III)I"⟩
abbrev cX6_gather : ByteArray := prog_8_method_14_code
def yX6_gather : MethodName := ⟨RX6, "gather", "([I)V"⟩
abbrev cX6_compute : ByteArray := prog_8_method_15_code
def yX6_compute : MethodName := ⟨RX6, "compute", "([I)V"⟩
abbrev cX6_reduceEqual : ByteArray := prog_8_method_16_code
def yX6_reduceEqual : MethodName := ⟨RX6, "reduceEqual", "([III)V"⟩
abbrev cX6_reduceLess : ByteArray := prog_8_method_17_code
def yX6_reduceLess : MethodName := ⟨RX6, "reduceLess", "([III)V"⟩
abbrev cX6_reduceOther : ByteArray := prog_8_method_18_code
def yX6_reduceOther : MethodName := ⟨RX6, "reduceOther", "([III)V"⟩
abbrev cX6_lookUp : ByteArray := prog_8_method_19_code
def yX6_lookUp : MethodName := ⟨RX6, "lookUp", "([I)V"⟩
abbrev cX6_seek : ByteArray := prog_8_method_20_code
def yX6_seek : MethodName := ⟨RX6, "seek", "([I)V"⟩
abbrev cX6_compare : ByteArray := prog_8_method_21_code
def yX6_compare : MethodName := ⟨RX6, "compare", "([I)V"⟩
abbrev cX6_apply : ByteArray := prog_8_method_22_code
def yX6_apply : MethodName := ⟨RX6, "apply", "([I)V"⟩
abbrev cX6_judge : ByteArray := prog_8_method_23_code
def yX6_judge : MethodName := ⟨RX6, "judge", "([I)V"⟩
abbrev cX6_unfold : ByteArray := prog_8_method_24_code
def yX6_unfold : MethodName := ⟨RX6, "unfold", "([I)V"⟩
abbrev cX6_chooseBranch : ByteArray := prog_8_method_25_code
def yX6_chooseBranch : MethodName := ⟨RX6, "chooseBranch", "([I)V"⟩
abbrev cX6_doNotesHold : ByteArray := prog_8_method_26_code
def yX6_doNotesHold : MethodName := ⟨RX6, "doNotesHold", "()Z"⟩
abbrev cX6_isAllRecalled : ByteArray := prog_8_method_27_code
def yX6_isAllRecalled : MethodName := ⟨RX6, "isAllRecalled", "()Z"⟩
abbrev cX6_learn : ByteArray := prog_8_method_28_code
def yX6_learn : MethodName := ⟨RX6, "learn", "()V"⟩
abbrev cX6_addHypotheses : ByteArray := prog_8_method_29_code
def yX6_addHypotheses : MethodName := ⟨RX6, "addHypotheses", "(II)V"⟩
abbrev cX6_isRule : ByteArray := prog_8_method_30_code
def yX6_isRule : MethodName := ⟨RX6, "isRule", "(III)Z"⟩
def RX7 : String := "ProofHouse$Room"
def TX7 : u_T := fun k => match k with
  | 0 => ("ProofHouse$Room", "cells", "[J", true)
  | 1 => ("ProofHouse$Room", "chain", "[I", true)
  | 2 => ("ProofHouse$Room", "sums", "[I", true)
  | 3 => ("ProofHouse$Room", "heights", "[I", true)
  | 4 => ("ProofHouse$Room", "heads", "[I", true)
  | 5 => ("ProofHouse$Room", "used", "I", false)
  | 6 => ("ProofHouse$Room", "given", "I", false)
  | 7 => ("ProofHouse$Room", "spent", "I", false)
  | _ => ("ProofHouse$Room", "trouble", "I", false)
def tyX7 : Nat → FieldType := fun k => match k with
  | 0 => .array .long
  | 1 => .array .int
  | 2 => .array .int
  | 3 => .array .int
  | 4 => .array .int
  | 5 => .int
  | 6 => .int
  | 7 => .int
  | _ => .int
abbrev wsX70 : List Cond := u_ws RX7 TX7 9
theorem nmX7 : ∀ a, a < 9 → ∀ b, b < 9 → a ≠ b → (TX7 a).2.1 ≠ (TX7 b).2.1 := by decide +kernel
theorem tyX7_ok : ∀ k, k < 9 → parseFieldDescriptor (TX7 k).2.2.1 = some (tyX7 k) := by decide +kernel
abbrev cX7_init : ByteArray := prog_9_method_1_code
def yX7_init : MethodName := ⟨RX7, "<init>", "()V"⟩
abbrev cX7_begin : ByteArray := prog_9_method_2_code
def yX7_begin : MethodName := ⟨RX7, "begin", "(I)V"⟩
abbrev cX7_step : ByteArray := prog_9_method_3_code
def yX7_step : MethodName := ⟨RX7, "step", "()Z"⟩
abbrev cX7_blame : ByteArray := prog_9_method_4_code
def yX7_blame : MethodName := ⟨RX7, "blame", "(I)V"⟩
abbrev cX7_made : ByteArray := prog_9_method_5_code
def yX7_made : MethodName := ⟨RX7, "made", "(J)I"⟩
abbrev cX7_forget : ByteArray := prog_9_method_6_code
def yX7_forget : MethodName := ⟨RX7, "forget", "(I)V"⟩
abbrev cX7_cellOf : ByteArray := prog_9_method_7_code
def yX7_cellOf : MethodName := ⟨RX7, "cellOf", "(I)J"⟩
abbrev cX7_isPair : ByteArray := prog_9_method_8_code
def yX7_isPair : MethodName := ⟨RX7, "isPair", "(I)Z"⟩
abbrev cX7_isNatural : ByteArray := prog_9_method_9_code
def yX7_isNatural : MethodName := ⟨RX7, "isNatural", "(I)Z"⟩
abbrev cX7_isSymbol : ByteArray := prog_9_method_10_code
def yX7_isSymbol : MethodName := ⟨RX7, "isSymbol", "(I)Z"⟩
abbrev cX7_isVariable : ByteArray := prog_9_method_11_code
def yX7_isVariable : MethodName := ⟨RX7, "isVariable", "(I)Z"⟩
abbrev cX7_isName : ByteArray := prog_9_method_12_code
def yX7_isName : MethodName := ⟨RX7, "isName", "(I)Z"⟩
abbrev cX7_isConstant : ByteArray := prog_9_method_13_code
def yX7_isConstant : MethodName := ⟨RX7, "isConstant", "(I)Z"⟩
abbrev cX7_isCall : ByteArray := prog_9_method_14_code
def yX7_isCall : MethodName := ⟨RX7, "isCall", "(I)Z"⟩
abbrev cX7_isCallOf : ByteArray := prog_9_method_15_code
def yX7_isCallOf : MethodName := ⟨RX7, "isCallOf", "(II)Z"⟩
abbrev cX7_isQuoted : ByteArray := prog_9_method_16_code
def yX7_isQuoted : MethodName := ⟨RX7, "isQuoted", "(I)Z"⟩
abbrev cX7_left : ByteArray := prog_9_method_17_code
def yX7_left : MethodName := ⟨RX7, "left", "(I)I"⟩
abbrev cX7_right : ByteArray := prog_9_method_18_code
def yX7_right : MethodName := ⟨RX7, "right", "(I)I"⟩
abbrev cX7_item : ByteArray := prog_9_method_19_code
def yX7_item : MethodName := ⟨RX7, "item", "(II)I"⟩
abbrev cX7_lengthOf : ByteArray := prog_9_method_20_code
def yX7_lengthOf : MethodName := ⟨RX7, "lengthOf", "(I)I"⟩
abbrev cX7_sizeOf : ByteArray := prog_9_method_21_code
def yX7_sizeOf : MethodName := ⟨RX7, "sizeOf", "(I)I"⟩
abbrev cX7_heightOf : ByteArray := prog_9_method_22_code
def yX7_heightOf : MethodName := ⟨RX7, "heightOf", "(I)I"⟩
abbrev cX7_numberOf : ByteArray := prog_9_method_23_code
def yX7_numberOf : MethodName := ⟨RX7, "numberOf", "(I)J"⟩
abbrev cX7_valueOf : ByteArray := prog_9_method_24_code
def yX7_valueOf : MethodName := ⟨RX7, "valueOf", "(I)I"⟩
abbrev cX7_constantOf : ByteArray := prog_9_method_25_code
def yX7_constantOf : MethodName := ⟨RX7, "constantOf", "(I)I"⟩
def RX8 : String := "ProofHouse$Schemes"
def TX8 : u_T := fun k => match k with
  | 0 => ("ProofHouse$Schemes", "room", "LProofHouse$Room;", true)
  | 1 => ("ProofHouse$Schemes", "book", "LProofHouse$Book;", true)
  | 2 => ("ProofHouse$Schemes", "terms", "LProofHouse$Terms;", true)
  | 3 => ("ProofHouse$Schemes", "ifs", "[I", true)
  | 4 => ("ProofHouse$Schemes", "third", "[Z", true)
  | 5 => ("ProofHouse$Schemes", "deep", "I", false)
  | 6 => ("ProofHouse$Schemes", "pathEnd", "I", false)
  | 7 => ("ProofHouse$Schemes", "calls", "[I", true)
  | 8 => ("ProofHouse$Schemes", "callCount", "I", false)
  | 9 => ("ProofHouse$Schemes", "filled", "[I", true)
  | _ => ("ProofHouse$Schemes", "induction", "I", false)
def tyX8 : Nat → FieldType := fun k => match k with
  | 0 => .object "ProofHouse$Room"
  | 1 => .object "ProofHouse$Book"
  | 2 => .object "ProofHouse$Terms"
  | 3 => .array .int
  | 4 => .array .boolean
  | 5 => .int
  | 6 => .int
  | 7 => .array .int
  | 8 => .int
  | 9 => .array .int
  | _ => .int
abbrev wsX80 : List Cond := u_ws RX8 TX8 11
theorem nmX8 : ∀ a, a < 11 → ∀ b, b < 11 → a ≠ b → (TX8 a).2.1 ≠ (TX8 b).2.1 := by decide +kernel
theorem tyX8_ok : ∀ k, k < 11 → parseFieldDescriptor (TX8 k).2.2.1 = some (tyX8 k) := by decide +kernel
abbrev cX8_init : ByteArray := prog_10_method_1_code
def yX8_init : MethodName := ⟨RX8, "<init>", "(LProofHouse$Room;LProofHouse$Book;LProofHouse$Terms;)V"⟩
abbrev cX8_goToPath : ByteArray := prog_10_method_2_code
def yX8_goToPath : MethodName := ⟨RX8, "goToPath", "(I)Z"⟩
abbrev cX8_countPaths : ByteArray := prog_10_method_3_code
def yX8_countPaths : MethodName := ⟨RX8, "countPaths", "(I)I"⟩
abbrev cX8_listCalls : ByteArray := prog_10_method_4_code
def yX8_listCalls : MethodName := ⟨RX8, "listCalls", "(I)V"⟩
abbrev cX8_isFlat : ByteArray := prog_10_method_5_code
def yX8_isFlat : MethodName := ⟨RX8, "isFlat", "(II)Z"⟩
abbrev cX8_addRulers : ByteArray := prog_10_method_6_code
def yX8_addRulers : MethodName := ⟨RX8, "addRulers", "(LProofHouse$Clause;II)V"⟩
abbrev cX8_addMeasureClauses : ByteArray := prog_10_method_7_code
def yX8_addMeasureClauses : MethodName := ⟨RX8, "addMeasureClauses", "(LProofHouse$Prover;IIII)V"⟩
abbrev cX8_addInductionHypotheses : ByteArray := prog_10_method_8_code
def yX8_addInductionHypotheses : MethodName := ⟨RX8, "addInductionHypotheses", "(LProofHouse$Clause;III)V"⟩
abbrev cX8_mute : ByteArray := prog_10_method_9_code
def yX8_mute : MethodName := ⟨RX8, "mute", "(I)V"⟩
abbrev cX8_addUses : ByteArray := prog_10_method_10_code
def yX8_addUses : MethodName := ⟨RX8, "addUses", "(LProofHouse$Clause;I)V"⟩
abbrev cX8_addTheoremClauses : ByteArray := prog_10_method_11_code
def yX8_addTheoremClauses : MethodName := ⟨RX8, "addTheoremClauses", "(LProofHouse$Prover;II)V"⟩
abbrev cX8_hintsAsked : ByteArray := prog_10_method_12_code
def yX8_hintsAsked : MethodName := ⟨RX8, "hintsAsked", "(I)I"⟩
abbrev cX8_useAsked : ByteArray := prog_10_method_13_code
def yX8_useAsked : MethodName := ⟨RX8, "useAsked", "(II)I"⟩
abbrev cX8_offAsked : ByteArray := prog_10_method_14_code
def yX8_offAsked : MethodName := ⟨RX8, "offAsked", "(I)I"⟩
abbrev cX8_inductionAsked : ByteArray := prog_10_method_15_code
def yX8_inductionAsked : MethodName := ⟨RX8, "inductionAsked", "(I)I"⟩
def RX9 : String := "ProofHouse$Scribe"
def TX9 : u_T := fun k => match k with
  | 0 => ("ProofHouse$Scribe", "room", "LProofHouse$Room;", true)
  | 1 => ("ProofHouse$Scribe", "letters", "[C", true)
  | 2 => ("ProofHouse$Scribe", "rests", "[I", true)
  | _ => ("ProofHouse$Scribe", "length", "I", false)
def tyX9 : Nat → FieldType := fun k => match k with
  | 0 => .object "ProofHouse$Room"
  | 1 => .array .char
  | 2 => .array .int
  | _ => .int
abbrev wsX90 : List Cond := u_ws RX9 TX9 4
theorem nmX9 : ∀ a, a < 4 → ∀ b, b < 4 → a ≠ b → (TX9 a).2.1 ≠ (TX9 b).2.1 := by decide +kernel
theorem tyX9_ok : ∀ k, k < 4 → parseFieldDescriptor (TX9 k).2.2.1 = some (tyX9 k) := by decide +kernel
abbrev cX9_init : ByteArray := prog_11_method_1_code
def yX9_init : MethodName := ⟨RX9, "<init>", "(LProofHouse$Room;I)V"⟩
abbrev cX9_clear : ByteArray := prog_11_method_2_code
def yX9_clear : MethodName := ⟨RX9, "clear", "()V"⟩
abbrev cX9_write : ByteArray := prog_11_method_3_code
def yX9_write : MethodName := ⟨RX9, "write", "(I)V"⟩
abbrev cX9_put : ByteArray := prog_11_method_4_code
def yX9_put : MethodName := ⟨RX9, "put", "(C)V"⟩
abbrev cX9_putAtom : ByteArray := prog_11_method_5_code
def yX9_putAtom : MethodName := ⟨RX9, "putAtom", "(J)V"⟩
def RX10 : String := "ProofHouse$Terms"
def TX10 : u_T := fun k => match k with
  | 0 => ("ProofHouse$Terms", "room", "LProofHouse$Room;", true)
  | 1 => ("ProofHouse$Terms", "book", "LProofHouse$Book;", true)
  | 2 => ("ProofHouse$Terms", "ownName", "I", false)
  | 3 => ("ProofHouse$Terms", "ownArity", "I", false)
  | 4 => ("ProofHouse$Terms", "variables", "[I", true)
  | 5 => ("ProofHouse$Terms", "meanings", "[I", true)
  | 6 => ("ProofHouse$Terms", "bound", "I", false)
  | 7 => ("ProofHouse$Terms", "replaced", "I", false)
  | 8 => ("ProofHouse$Terms", "replacement", "I", false)
  | 9 => ("ProofHouse$Terms", "names", "[I", true)
  | 10 => ("ProofHouse$Terms", "rests", "[I", true)
  | 11 => ("ProofHouse$Terms", "bases", "[I", true)
  | 12 => ("ProofHouse$Terms", "values", "[I", true)
  | 13 => ("ProofHouse$Terms", "waiting", "[I", true)
  | 14 => ("ProofHouse$Terms", "targets", "[I", true)
  | _ => ("ProofHouse$Terms", "parts", "[I", true)
def tyX10 : Nat → FieldType := fun k => match k with
  | 0 => .object "ProofHouse$Room"
  | 1 => .object "ProofHouse$Book"
  | 2 => .int
  | 3 => .int
  | 4 => .array .int
  | 5 => .array .int
  | 6 => .int
  | 7 => .int
  | 8 => .int
  | 9 => .array .int
  | 10 => .array .int
  | 11 => .array .int
  | 12 => .array .int
  | 13 => .array .int
  | 14 => .array .int
  | _ => .array .int
abbrev wsX100 : List Cond := u_ws RX10 TX10 16
theorem nmX10 : ∀ a, a < 16 → ∀ b, b < 16 → a ≠ b → (TX10 a).2.1 ≠ (TX10 b).2.1 := by decide +kernel
theorem tyX10_ok : ∀ k, k < 16 → parseFieldDescriptor (TX10 k).2.2.1 = some (tyX10 k) := by decide +kernel
abbrev cX10_init : ByteArray := prog_12_method_1_code
def yX10_init : MethodName := ⟨RX10, "<init>", "(LProofHouse$Room;LProofHouse$Book;)V"⟩
abbrev cX10_rebuilt : ByteArray := prog_12_method_2_code
def yX10_rebuilt : MethodName := ⟨RX10, "rebuilt", "(II)I"⟩
abbrev cX10_isTooBig : ByteArray := prog_12_method_3_code
def yX10_isTooBig : MethodName := ⟨RX10, "isTooBig", "(II)Z"⟩
abbrev cX10_meaningOf : ByteArray := prog_12_method_4_code
def yX10_meaningOf : MethodName := ⟨RX10, "meaningOf", "(II)I"⟩
abbrev cX10_readMeaning : ByteArray := prog_12_method_5_code
def yX10_readMeaning : MethodName := ⟨RX10, "readMeaning", "(I)I"⟩
abbrev cX10_standsFor : ByteArray := prog_12_method_6_code
def yX10_standsFor : MethodName := ⟨RX10, "standsFor", "(I)I"⟩
abbrev cX10_unbind : ByteArray := prog_12_method_7_code
def yX10_unbind : MethodName := ⟨RX10, "unbind", "()V"⟩
abbrev cX10_bind : ByteArray := prog_12_method_8_code
def yX10_bind : MethodName := ⟨RX10, "bind", "(II)V"⟩
abbrev cX10_bindRow : ByteArray := prog_12_method_9_code
def yX10_bindRow : MethodName := ⟨RX10, "bindRow", "(II)V"⟩
abbrev cX10_areDifferentVariables : ByteArray := prog_12_method_10_code
def yX10_areDifferentVariables : MethodName := ⟨RX10, "areDifferentVariables", "(I)Z"⟩
abbrev cX10_bindPairs : ByteArray := prog_12_method_11_code
def yX10_bindPairs : MethodName := ⟨RX10, "bindPairs", "(I)Z"⟩
abbrev cX10_call : ByteArray := prog_12_method_12_code
def yX10_call : MethodName := ⟨RX10, "call", "(IIII)I"⟩
abbrev cX10_negated : ByteArray := prog_12_method_13_code
def yX10_negated : MethodName := ⟨RX10, "negated", "(I)I"⟩
abbrev cX10_isNegation : ByteArray := prog_12_method_14_code
def yX10_isNegation : MethodName := ⟨RX10, "isNegation", "(II)Z"⟩
abbrev cX10_isBoolean : ByteArray := prog_12_method_15_code
def yX10_isBoolean : MethodName := ⟨RX10, "isBoolean", "(I)Z"⟩
abbrev cX10_isOfConstants : ByteArray := prog_12_method_16_code
def yX10_isOfConstants : MethodName := ⟨RX10, "isOfConstants", "(I)Z"⟩
abbrev cX10_matches : ByteArray := prog_12_method_17_code
def yX10_matches : MethodName := ⟨RX10, "matches", "(II)Z"⟩
abbrev cX10_isBoundToVariables : ByteArray := prog_12_method_18_code
def yX10_isBoundToVariables : MethodName := ⟨RX10, "isBoundToVariables", "()Z"⟩
abbrev cX10_listParts : ByteArray := prog_12_method_19_code
def yX10_listParts : MethodName := ⟨RX10, "listParts", "(I)I"⟩
abbrev cX10_hasCallOf : ByteArray := prog_12_method_20_code
def yX10_hasCallOf : MethodName := ⟨RX10, "hasCallOf", "(II)Z"⟩
abbrev cX10_hasVariablesOf : ByteArray := prog_12_method_21_code
def yX10_hasVariablesOf : MethodName := ⟨RX10, "hasVariablesOf", "(II)Z"⟩
abbrev cX10_hasBound : ByteArray := prog_12_method_22_code
def yX10_hasBound : MethodName := ⟨RX10, "hasBound", "(I)Z"⟩
abbrev cX10_bindVariablesOf : ByteArray := prog_12_method_23_code
def yX10_bindVariablesOf : MethodName := ⟨RX10, "bindVariablesOf", "(I)V"⟩
abbrev cX10_join : ByteArray := prog_12_method_24_code
def yX10_join : MethodName := ⟨RX10, "join", "(LProofHouse$Clause;I)V"⟩
def RX11 : String := "ProofHouse"
def TX11 : u_T := fun k => match k with
  | 0 => ("ProofHouse", "room", "LProofHouse$Room;", true)
  | 1 => ("ProofHouse", "book", "LProofHouse$Book;", true)
  | 2 => ("ProofHouse", "reader", "LProofHouse$Reader;", true)
  | 3 => ("ProofHouse", "out", "LProofHouse$Scribe;", true)
  | 4 => ("ProofHouse", "terms", "LProofHouse$Terms;", true)
  | 5 => ("ProofHouse", "evaluator", "LProofHouse$Evaluator;", true)
  | 6 => ("ProofHouse", "rewriter", "LProofHouse$Rewriter;", true)
  | 7 => ("ProofHouse", "schemes", "LProofHouse$Schemes;", true)
  | 8 => ("ProofHouse", "prover", "LProofHouse$Prover;", true)
  | 9 => ("ProofHouse", "proofs", "LProofHouse$Proofs;", true)
  | 10 => ("ProofHouse", "text", "[C", true)
  | 11 => ("ProofHouse", "textLength", "I", false)
  | 12 => ("ProofHouse", "waiting", "[I", true)
  | 13 => ("ProofHouse", "fuelSet", "I", false)
  | 14 => ("ProofHouse", "name", "I", false)
  | 15 => ("ProofHouse", "subject", "I", false)
  | 16 => ("ProofHouse", "measure", "I", false)
  | 17 => ("ProofHouse", "hints", "I", false)
  | 18 => ("ProofHouse", "stepsMade", "I", false)
  | 19 => ("ProofHouse", "workFault", "I", false)
  | _ => ("ProofHouse", "proved", "Z", false)
def tyX11 : Nat → FieldType := fun k => match k with
  | 0 => .object "ProofHouse$Room"
  | 1 => .object "ProofHouse$Book"
  | 2 => .object "ProofHouse$Reader"
  | 3 => .object "ProofHouse$Scribe"
  | 4 => .object "ProofHouse$Terms"
  | 5 => .object "ProofHouse$Evaluator"
  | 6 => .object "ProofHouse$Rewriter"
  | 7 => .object "ProofHouse$Schemes"
  | 8 => .object "ProofHouse$Prover"
  | 9 => .object "ProofHouse$Proofs"
  | 10 => .array .char
  | 11 => .int
  | 12 => .array .int
  | 13 => .int
  | 14 => .int
  | 15 => .int
  | 16 => .int
  | 17 => .int
  | 18 => .int
  | 19 => .int
  | _ => .boolean
abbrev wsX110 : List Cond := u_ws RX11 TX11 21
theorem nmX11 : ∀ a, a < 21 → ∀ b, b < 21 → a ≠ b → (TX11 a).2.1 ≠ (TX11 b).2.1 := by decide +kernel
theorem tyX11_ok : ∀ k, k < 21 → parseFieldDescriptor (TX11 k).2.2.1 = some (tyX11 k) := by decide +kernel
abbrev cX11_pairCell : ByteArray := prog_1_method_1_code
def yX11_pairCell : MethodName := ⟨RX11, "pairCell", "(II)J"⟩
abbrev cX11_init : ByteArray := prog_1_method_2_code
def yX11_init : MethodName := ⟨RX11, "<init>", "()V"⟩
abbrev cX11_feed : ByteArray := prog_1_method_3_code
def yX11_feed : MethodName := ⟨RX11, "feed", "(IIIII)V"⟩
abbrev cX11_end : ByteArray := prog_1_method_4_code
def yX11_end : MethodName := ⟨RX11, "end", "(I)I"⟩
abbrev cX11_fuel : ByteArray := prog_1_method_5_code
def yX11_fuel : MethodName := ⟨RX11, "fuel", "(I)I"⟩
abbrev cX11_run : ByteArray := prog_1_method_6_code
def yX11_run : MethodName := ⟨RX11, "run", "()I"⟩
abbrev cX11_fault : ByteArray := prog_1_method_7_code
def yX11_fault : MethodName := ⟨RX11, "fault", "(I)I"⟩
abbrev cX11_steps : ByteArray := prog_1_method_8_code
def yX11_steps : MethodName := ⟨RX11, "steps", "()I"⟩
abbrev cX11_count : ByteArray := prog_1_method_9_code
def yX11_count : MethodName := ⟨RX11, "count", "(I)I"⟩
abbrev cX11_size : ByteArray := prog_1_method_10_code
def yX11_size : MethodName := ⟨RX11, "size", "()I"⟩
abbrev cX11_letter : ByteArray := prog_1_method_11_code
def yX11_letter : MethodName := ⟨RX11, "letter", "(I)I"⟩
abbrev cX11_taken : ByteArray := prog_1_method_12_code
def yX11_taken : MethodName := ⟨RX11, "taken", "(I)I"⟩
abbrev cX11_tell : ByteArray := prog_1_method_13_code
def yX11_tell : MethodName := ⟨RX11, "tell", "(I)I"⟩
abbrev cX11_recheck : ByteArray := prog_1_method_14_code
def yX11_recheck : MethodName := ⟨RX11, "recheck", "()Z"⟩
abbrev cX11_forgetLatest : ByteArray := prog_1_method_15_code
def yX11_forgetLatest : MethodName := ⟨RX11, "forgetLatest", "()V"⟩
abbrev cX11_asked : ByteArray := prog_1_method_16_code
def yX11_asked : MethodName := ⟨RX11, "asked", "(I)I"⟩
abbrev cX11_isAsTold : ByteArray := prog_1_method_17_code
def yX11_isAsTold : MethodName := ⟨RX11, "isAsTold", "(I)Z"⟩
abbrev cX11_isNameAt : ByteArray := prog_1_method_18_code
def yX11_isNameAt : MethodName := ⟨RX11, "isNameAt", "(I)Z"⟩
abbrev cX11_isTermAt : ByteArray := prog_1_method_19_code
def yX11_isTermAt : MethodName := ⟨RX11, "isTermAt", "(II)Z"⟩
abbrev cX11_isDefinition : ByteArray := prog_1_method_20_code
def yX11_isDefinition : MethodName := ⟨RX11, "isDefinition", "(IZ)Z"⟩
abbrev cX11_nameAsked : ByteArray := prog_1_method_21_code
def yX11_nameAsked : MethodName := ⟨RX11, "nameAsked", "(I)I"⟩
abbrev cX11_prepare : ByteArray := prog_1_method_22_code
def yX11_prepare : MethodName := ⟨RX11, "prepare", "(I)V"⟩
abbrev cX11_showValue : ByteArray := prog_1_method_23_code
def yX11_showValue : MethodName := ⟨RX11, "showValue", "(I)V"⟩
abbrev cX11_showTerm : ByteArray := prog_1_method_24_code
def yX11_showTerm : MethodName := ⟨RX11, "showTerm", "(I)V"⟩
abbrev cX11_conclude : ByteArray := prog_1_method_25_code
def yX11_conclude : MethodName := ⟨RX11, "conclude", "(II)I"⟩
abbrev cX11_shownWrong : ByteArray := prog_1_method_26_code
def yX11_shownWrong : MethodName := ⟨RX11, "shownWrong", "()I"⟩
def RX12 : String := "ProofHouseModel"
def TX12 : u_T := fun k => match k with
  | 0 => ("ProofHouseModel", "left", "[I", true)
  | 1 => ("ProofHouseModel", "right", "[I", true)
  | 2 => ("ProofHouseModel", "next", "[I", true)
  | 3 => ("ProofHouseModel", "sizes", "[I", true)
  | 4 => ("ProofHouseModel", "heights", "[I", true)
  | 5 => ("ProofHouseModel", "number", "[J", true)
  | 6 => ("ProofHouseModel", "naturals", "I", false)
  | 7 => ("ProofHouseModel", "heads", "[I", true)
  | 8 => ("ProofHouseModel", "objects", "I", false)
  | 9 => ("ProofHouseModel", "names", "[I", true)
  | 10 => ("ProofHouseModel", "lengths", "[I", true)
  | 11 => ("ProofHouseModel", "symbols", "I", false)
  | 12 => ("ProofHouseModel", "waiting", "[I", true)
  | 13 => ("ProofHouseModel", "text", "[I", true)
  | 14 => ("ProofHouseModel", "textSize", "I", false)
  | 15 => ("ProofHouseModel", "out", "[I", true)
  | 16 => ("ProofHouseModel", "outSize", "I", false)
  | 17 => ("ProofHouseModel", "word", "[I", true)
  | 18 => ("ProofHouseModel", "wordSize", "I", false)
  | 19 => ("ProofHouseModel", "tellWhat", "[I", true)
  | 20 => ("ProofHouseModel", "telling", "I", false)
  | 21 => ("ProofHouseModel", "one", "[I", true)
  | 22 => ("ProofHouseModel", "oneSize", "I", false)
  | 23 => ("ProofHouseModel", "at", "I", false)
  | 24 => ("ProofHouseModel", "readFault", "I", false)
  | 25 => ("ProofHouseModel", "readPlace", "I", false)
  | 26 => ("ProofHouseModel", "openSort", "[I", true)
  | 27 => ("ProofHouseModel", "openFrom", "[I", true)
  | 28 => ("ProofHouseModel", "openState", "[I", true)
  | 29 => ("ProofHouseModel", "openLast", "[I", true)
  | 30 => ("ProofHouseModel", "open", "I", false)
  | 31 => ("ProofHouseModel", "items", "[I", true)
  | 32 => ("ProofHouseModel", "itemSize", "I", false)
  | 33 => ("ProofHouseModel", "whole", "I", false)
  | 34 => ("ProofHouseModel", "done", "Z", false)
  | 35 => ("ProofHouseModel", "defs", "I", false)
  | 36 => ("ProofHouseModel", "defName", "[I", true)
  | 37 => ("ProofHouseModel", "defMany", "[I", true)
  | 38 => ("ProofHouseModel", "defVariable", "[I", true)
  | 39 => ("ProofHouseModel", "defBody", "[I", true)
  | 40 => ("ProofHouseModel", "defMeasure", "[I", true)
  | 41 => ("ProofHouseModel", "defSelf", "[Z", true)
  | 42 => ("ProofHouseModel", "theorems", "I", false)
  | 43 => ("ProofHouseModel", "theoremName", "[I", true)
  | 44 => ("ProofHouseModel", "theorem", "[I", true)
  | 45 => ("ProofHouseModel", "theoremSort", "[I", true)
  | 46 => ("ProofHouseModel", "ruleLeft", "[I", true)
  | 47 => ("ProofHouseModel", "ruleRight", "[I", true)
  | 48 => ("ProofHouseModel", "ruleMany", "[I", true)
  | 49 => ("ProofHouseModel", "ruleHypothesis", "[I", true)
  | 50 => ("ProofHouseModel", "rulePermutes", "[Z", true)
  | 51 => ("ProofHouseModel", "ruleTruth", "[Z", true)
  | 52 => ("ProofHouseModel", "ruleOn", "[Z", true)
  | 53 => ("ProofHouseModel", "ruleOut", "[Z", true)
  | 54 => ("ProofHouseModel", "taken", "I", false)
  | 55 => ("ProofHouseModel", "takenSort", "[I", true)
  | 56 => ("ProofHouseModel", "takenFrom", "[I", true)
  | 57 => ("ProofHouseModel", "comingName", "I", false)
  | 58 => ("ProofHouseModel", "comingMany", "I", false)
  | 59 => ("ProofHouseModel", "fuel", "I", false)
  | 60 => ("ProofHouseModel", "steps", "I", false)
  | 61 => ("ProofHouseModel", "work", "I", false)
  | 62 => ("ProofHouseModel", "proved", "Z", false)
  | 63 => ("ProofHouseModel", "leftMany", "I", false)
  | 64 => ("ProofHouseModel", "short0", "Z", false)
  | 65 => ("ProofHouseModel", "other", "[I", true)
  | 66 => ("ProofHouseModel", "callOf", "[I", true)
  | 67 => ("ProofHouseModel", "restOf", "[I", true)
  | 68 => ("ProofHouseModel", "fromOf", "[I", true)
  | 69 => ("ProofHouseModel", "calls", "I", false)
  | 70 => ("ProofHouseModel", "built", "[I", true)
  | 71 => ("ProofHouseModel", "builtSize", "I", false)
  | 72 => ("ProofHouseModel", "variable", "[I", true)
  | 73 => ("ProofHouseModel", "instead", "[I", true)
  | 74 => ("ProofHouseModel", "pairs", "I", false)
  | 75 => ("ProofHouseModel", "walk", "[I", true)
  | 76 => ("ProofHouseModel", "walking", "I", false)
  | 77 => ("ProofHouseModel", "its", "[I", true)
  | 78 => ("ProofHouseModel", "itsMany", "I", false)
  | 79 => ("ProofHouseModel", "evalTerm", "[I", true)
  | 80 => ("ProofHouseModel", "evalRest", "[I", true)
  | 81 => ("ProofHouseModel", "evalFrom", "[I", true)
  | 82 => ("ProofHouseModel", "evalDef", "[I", true)
  | 83 => ("ProofHouseModel", "evalBase", "[I", true)
  | 84 => ("ProofHouseModel", "evalEnds", "[Z", true)
  | 85 => ("ProofHouseModel", "evals", "I", false)
  | 86 => ("ProofHouseModel", "value", "[I", true)
  | 87 => ("ProofHouseModel", "values", "I", false)
  | 88 => ("ProofHouseModel", "evalLimit", "I", false)
  | 89 => ("ProofHouseModel", "evalWhy", "I", false)
  | 90 => ("ProofHouseModel", "evalDone", "Z", false)
  | 91 => ("ProofHouseModel", "evalValue", "I", false)
  | 92 => ("ProofHouseModel", "job", "[I", true)
  | 93 => ("ProofHouseModel", "jobTruth", "[Z", true)
  | 94 => ("ProofHouseModel", "jobPhase", "[I", true)
  | 95 => ("ProofHouseModel", "jobA", "[I", true)
  | 96 => ("ProofHouseModel", "jobB", "[I", true)
  | 97 => ("ProofHouseModel", "jobC", "[I", true)
  | 98 => ("ProofHouseModel", "jobRest", "[I", true)
  | 99 => ("ProofHouseModel", "jobFrom", "[I", true)
  | 100 => ("ProofHouseModel", "jobRule", "[I", true)
  | 101 => ("ProofHouseModel", "jobHypothesis", "[I", true)
  | 102 => ("ProofHouseModel", "jobs", "I", false)
  | 103 => ("ProofHouseModel", "result", "[I", true)
  | 104 => ("ProofHouseModel", "results", "I", false)
  | 105 => ("ProofHouseModel", "ruleVariable", "[I", true)
  | 106 => ("ProofHouseModel", "ruleInstead", "[I", true)
  | 107 => ("ProofHouseModel", "rulePairs", "[I", true)
  | 108 => ("ProofHouseModel", "context", "[I", true)
  | 109 => ("ProofHouseModel", "contexts", "I", false)
  | 110 => ("ProofHouseModel", "came", "I", false)
  | 111 => ("ProofHouseModel", "ended", "Z", false)
  | 112 => ("ProofHouseModel", "seekLeft", "[I", true)
  | 113 => ("ProofHouseModel", "seekRight", "[I", true)
  | 114 => ("ProofHouseModel", "literal", "[I", true)
  | 115 => ("ProofHouseModel", "many", "[I", true)
  | 116 => ("ProofHouseModel", "rounds", "[I", true)
  | 117 => ("ProofHouseModel", "rows", "I", false)
  | 118 => ("ProofHouseModel", "order", "[I", true)
  | 119 => ("ProofHouseModel", "waits", "I", false)
  | 120 => ("ProofHouseModel", "leftRow", "[I", true)
  | 121 => ("ProofHouseModel", "draft", "[I", true)
  | 122 => ("ProofHouseModel", "drafted", "I", false)
  | 123 => ("ProofHouseModel", "end", "[I", true)
  | 124 => ("ProofHouseModel", "ruler", "[I", true)
  | 125 => ("ProofHouseModel", "rulers", "[I", true)
  | 126 => ("ProofHouseModel", "paths", "I", false)
  | 127 => ("ProofHouseModel", "pathTerm", "[I", true)
  | 128 => ("ProofHouseModel", "pathRuler", "[I", true)
  | 129 => ("ProofHouseModel", "pathRulers", "[I", true)
  | 130 => ("ProofHouseModel", "found", "[I", true)
  | 131 => ("ProofHouseModel", "foundMany", "I", false)
  | 132 => ("ProofHouseModel", "began", "I", false)
  | 133 => ("ProofHouseModel", "hintFunction", "I", false)
  | 134 => ("ProofHouseModel", "hintList", "I", false)
  | 135 => ("ProofHouseModel", "hasOff", "Z", false)
  | 136 => ("ProofHouseModel", "hintWrong", "I", false)
  | 137 => ("ProofHouseModel", "used", "[I", true)
  | 138 => ("ProofHouseModel", "usedPairs", "[I", true)
  | 139 => ("ProofHouseModel", "uses", "I", false)
  | 140 => ("ProofHouseModel", "stepTerm", "[I", true)
  | 141 => ("ProofHouseModel", "proof", "[I", true)
  | 142 => ("ProofHouseModel", "proofPart", "[I", true)
  | 143 => ("ProofHouseModel", "proofFrom", "[I", true)
  | 144 => ("ProofHouseModel", "proofs", "I", false)
  | 145 => ("ProofHouseModel", "clause", "[I", true)
  | 146 => ("ProofHouseModel", "clauseMany", "[I", true)
  | 147 => ("ProofHouseModel", "clauses", "I", false)
  | _ => ("ProofHouseModel", "wrongProof", "I", false)
def tyX12 : Nat → FieldType := fun k => match k with
  | 0 => .array .int
  | 1 => .array .int
  | 2 => .array .int
  | 3 => .array .int
  | 4 => .array .int
  | 5 => .array .long
  | 6 => .int
  | 7 => .array .int
  | 8 => .int
  | 9 => .array .int
  | 10 => .array .int
  | 11 => .int
  | 12 => .array .int
  | 13 => .array .int
  | 14 => .int
  | 15 => .array .int
  | 16 => .int
  | 17 => .array .int
  | 18 => .int
  | 19 => .array .int
  | 20 => .int
  | 21 => .array .int
  | 22 => .int
  | 23 => .int
  | 24 => .int
  | 25 => .int
  | 26 => .array .int
  | 27 => .array .int
  | 28 => .array .int
  | 29 => .array .int
  | 30 => .int
  | 31 => .array .int
  | 32 => .int
  | 33 => .int
  | 34 => .boolean
  | 35 => .int
  | 36 => .array .int
  | 37 => .array .int
  | 38 => .array .int
  | 39 => .array .int
  | 40 => .array .int
  | 41 => .array .boolean
  | 42 => .int
  | 43 => .array .int
  | 44 => .array .int
  | 45 => .array .int
  | 46 => .array .int
  | 47 => .array .int
  | 48 => .array .int
  | 49 => .array .int
  | 50 => .array .boolean
  | 51 => .array .boolean
  | 52 => .array .boolean
  | 53 => .array .boolean
  | 54 => .int
  | 55 => .array .int
  | 56 => .array .int
  | 57 => .int
  | 58 => .int
  | 59 => .int
  | 60 => .int
  | 61 => .int
  | 62 => .boolean
  | 63 => .int
  | 64 => .boolean
  | 65 => .array .int
  | 66 => .array .int
  | 67 => .array .int
  | 68 => .array .int
  | 69 => .int
  | 70 => .array .int
  | 71 => .int
  | 72 => .array .int
  | 73 => .array .int
  | 74 => .int
  | 75 => .array .int
  | 76 => .int
  | 77 => .array .int
  | 78 => .int
  | 79 => .array .int
  | 80 => .array .int
  | 81 => .array .int
  | 82 => .array .int
  | 83 => .array .int
  | 84 => .array .boolean
  | 85 => .int
  | 86 => .array .int
  | 87 => .int
  | 88 => .int
  | 89 => .int
  | 90 => .boolean
  | 91 => .int
  | 92 => .array .int
  | 93 => .array .boolean
  | 94 => .array .int
  | 95 => .array .int
  | 96 => .array .int
  | 97 => .array .int
  | 98 => .array .int
  | 99 => .array .int
  | 100 => .array .int
  | 101 => .array .int
  | 102 => .int
  | 103 => .array .int
  | 104 => .int
  | 105 => .array .int
  | 106 => .array .int
  | 107 => .array .int
  | 108 => .array .int
  | 109 => .int
  | 110 => .int
  | 111 => .boolean
  | 112 => .array .int
  | 113 => .array .int
  | 114 => .array .int
  | 115 => .array .int
  | 116 => .array .int
  | 117 => .int
  | 118 => .array .int
  | 119 => .int
  | 120 => .array .int
  | 121 => .array .int
  | 122 => .int
  | 123 => .array .int
  | 124 => .array .int
  | 125 => .array .int
  | 126 => .int
  | 127 => .array .int
  | 128 => .array .int
  | 129 => .array .int
  | 130 => .array .int
  | 131 => .int
  | 132 => .int
  | 133 => .int
  | 134 => .int
  | 135 => .boolean
  | 136 => .int
  | 137 => .array .int
  | 138 => .array .int
  | 139 => .int
  | 140 => .array .int
  | 141 => .array .int
  | 142 => .array .int
  | 143 => .array .int
  | 144 => .int
  | 145 => .array .int
  | 146 => .array .int
  | 147 => .int
  | _ => .int
abbrev wsX120 : List Cond := u_ws RX12 TX12 149
theorem nmX12 : ∀ a, a < 149 → ∀ b, b < 149 → a ≠ b → (TX12 a).2.1 ≠ (TX12 b).2.1 := by decide +kernel
theorem tyX12_ok : ∀ k, k < 149 → parseFieldDescriptor (TX12 k).2.2.1 = some (tyX12 k) := by decide +kernel
abbrev cX12_init : ByteArray := prog_14_method_1_code
def yX12_init : MethodName := ⟨RX12, "<init>", "()V"⟩
abbrev cX12_said : ByteArray := prog_14_method_3_code
def yX12_said : MethodName := ⟨RX12, "said", "(IIIIIIII)V"⟩
abbrev cX12_spell : ByteArray := prog_14_method_4_code
def yX12_spell : MethodName := ⟨RX12, "spell", "(I)V"⟩
abbrev cX12_slot : ByteArray := prog_14_method_5_code
def yX12_slot : MethodName := ⟨RX12, "slot", "(II)I"⟩
abbrev cX12_slotOf : ByteArray := prog_14_method_6_code
def yX12_slotOf : MethodName := ⟨RX12, "slotOf", "(I)I"⟩
abbrev cX12_spelled : ByteArray := prog_14_method_7_code
def yX12_spelled : MethodName := ⟨RX12, "spelled", "(IIZ)I"⟩
abbrev cX12_added : ByteArray := prog_14_method_8_code
def yX12_added : MethodName := ⟨RX12, "added", "(III)I"⟩
abbrev cX12_pair : ByteArray := prog_14_method_9_code
def yX12_pair : MethodName := ⟨RX12, "pair", "(II)I"⟩
abbrev cX12_value : ByteArray := prog_14_method_10_code
def yX12_value : MethodName := ⟨RX12, "value", "(I)J"⟩
abbrev cX12_natural : ByteArray := prog_14_method_11_code
def yX12_natural : MethodName := ⟨RX12, "natural", "(J)I"⟩
abbrev cX12_isWord : ByteArray := prog_14_method_12_code
def yX12_isWord : MethodName := ⟨RX12, "isWord", "(I)Z"⟩
abbrev cX12_symbol : ByteArray := prog_14_method_13_code
def yX12_symbol : MethodName := ⟨RX12, "symbol", "()I"⟩
abbrev cX12_forget : ByteArray := prog_14_method_14_code
def yX12_forget : MethodName := ⟨RX12, "forget", "(I)V"⟩
abbrev cX12_isPair : ByteArray := prog_14_method_15_code
def yX12_isPair : MethodName := ⟨RX12, "isPair", "(I)Z"⟩
abbrev cX12_isNatural : ByteArray := prog_14_method_16_code
def yX12_isNatural : MethodName := ⟨RX12, "isNatural", "(I)Z"⟩
abbrev cX12_isSymbol : ByteArray := prog_14_method_17_code
def yX12_isSymbol : MethodName := ⟨RX12, "isSymbol", "(I)Z"⟩
abbrev cX12_list1 : ByteArray := prog_14_method_18_code
def yX12_list1 : MethodName := ⟨RX12, "list1", "(I)I"⟩
abbrev cX12_list2 : ByteArray := prog_14_method_19_code
def yX12_list2 : MethodName := ⟨RX12, "list2", "(II)I"⟩
abbrev cX12_list3 : ByteArray := prog_14_method_20_code
def yX12_list3 : MethodName := ⟨RX12, "list3", "(III)I"⟩
abbrev cX12_lengthOf : ByteArray := prog_14_method_22_code
def yX12_lengthOf : MethodName := ⟨RX12, "lengthOf", "(I)I"⟩
abbrev cX12_nth : ByteArray := prog_14_method_23_code
def yX12_nth : MethodName := ⟨RX12, "nth", "(II)I"⟩
abbrev cX12_isDigit : ByteArray := prog_14_method_24_code
def yX12_isDigit : MethodName := ⟨RX12, "isDigit", "(I)Z"⟩
abbrev cX12_isAtom : ByteArray := prog_14_method_25_code
def yX12_isAtom : MethodName := ⟨RX12, "isAtom", "(I)Z"⟩
abbrev cX12_skip : ByteArray := prog_14_method_26_code
def yX12_skip : MethodName := ⟨RX12, "skip", "()V"⟩
abbrev cX12_bad : ByteArray := prog_14_method_27_code
def yX12_bad : MethodName := ⟨RX12, "bad", "(II)V"⟩
abbrev cX12_mayBegin : ByteArray := prog_14_method_28_code
def yX12_mayBegin : MethodName := ⟨RX12, "mayBegin", "()Z"⟩
abbrev cX12_begin : ByteArray := prog_14_method_29_code
def yX12_begin : MethodName := ⟨RX12, "begin", "(I)V"⟩
abbrev cX12_deliver : ByteArray := prog_14_method_30_code
def yX12_deliver : MethodName := ⟨RX12, "deliver", "(I)V"⟩
abbrev cX12_close : ByteArray := prog_14_method_31_code
def yX12_close : MethodName := ⟨RX12, "close", "()V"⟩
abbrev cX12_atom : ByteArray := prog_14_method_32_code
def yX12_atom : MethodName := ⟨RX12, "atom", "(II)I"⟩
abbrev cX12_isInList : ByteArray := prog_14_method_33_code
def yX12_isInList : MethodName := ⟨RX12, "isInList", "()Z"⟩
abbrev cX12_readWord : ByteArray := prog_14_method_34_code
def yX12_readWord : MethodName := ⟨RX12, "readWord", "(I)V"⟩
abbrev cX12_reads : ByteArray := prog_14_method_35_code
def yX12_reads : MethodName := ⟨RX12, "reads", "()Z"⟩
abbrev cX12_tellLetter : ByteArray := prog_14_method_36_code
def yX12_tellLetter : MethodName := ⟨RX12, "tellLetter", "(I)V"⟩
abbrev cX12_isFull : ByteArray := prog_14_method_37_code
def yX12_isFull : MethodName := ⟨RX12, "isFull", "()Z"⟩
abbrev cX12_tellAtom : ByteArray := prog_14_method_38_code
def yX12_tellAtom : MethodName := ⟨RX12, "tellAtom", "(I)V"⟩
abbrev cX12_isQuoted : ByteArray := prog_14_method_39_code
def yX12_isQuoted : MethodName := ⟨RX12, "isQuoted", "(I)Z"⟩
abbrev cX12_later : ByteArray := prog_14_method_40_code
def yX12_later : MethodName := ⟨RX12, "later", "(I)V"⟩
abbrev cX12_tellObject : ByteArray := prog_14_method_41_code
def yX12_tellObject : MethodName := ⟨RX12, "tellObject", "(I)V"⟩
abbrev cX12_isSmaller : ByteArray := prog_14_method_42_code
def yX12_isSmaller : MethodName := ⟨RX12, "isSmaller", "(II)Z"⟩
abbrev cX12_isVariable : ByteArray := prog_14_method_43_code
def yX12_isVariable : MethodName := ⟨RX12, "isVariable", "(I)Z"⟩
abbrev cX12_isConstant : ByteArray := prog_14_method_44_code
def yX12_isConstant : MethodName := ⟨RX12, "isConstant", "(I)Z"⟩
abbrev cX12_isCall : ByteArray := prog_14_method_45_code
def yX12_isCall : MethodName := ⟨RX12, "isCall", "(I)Z"⟩
abbrev cX12_isCallOf : ByteArray := prog_14_method_46_code
def yX12_isCallOf : MethodName := ⟨RX12, "isCallOf", "(II)Z"⟩
abbrev cX12_constantOf : ByteArray := prog_14_method_47_code
def yX12_constantOf : MethodName := ⟨RX12, "constantOf", "(I)I"⟩
abbrev cX12_valueOf : ByteArray := prog_14_method_48_code
def yX12_valueOf : MethodName := ⟨RX12, "valueOf", "(I)I"⟩
abbrev cX12_term : ByteArray := prog_14_method_49_code
def yX12_term : MethodName := ⟨RX12, "term", "(II)I"⟩
abbrev cX12_functionOf : ByteArray := prog_14_method_50_code
def yX12_functionOf : MethodName := ⟨RX12, "functionOf", "(I)I"⟩
abbrev cX12_manyOf : ByteArray := prog_14_method_51_code
def yX12_manyOf : MethodName := ⟨RX12, "manyOf", "(I)I"⟩
abbrev cX12_isReserved : ByteArray := prog_14_method_52_code
def yX12_isReserved : MethodName := ⟨RX12, "isReserved", "(I)Z"⟩
abbrev cX12_fail : ByteArray := prog_14_method_53_code
def yX12_fail : MethodName := ⟨RX12, "fail", "(I)V"⟩
abbrev cX12_sizeOf : ByteArray := prog_14_method_54_code
def yX12_sizeOf : MethodName := ⟨RX12, "sizeOf", "(I)I"⟩
abbrev cX12_callFrom : ByteArray := prog_14_method_55_code
def yX12_callFrom : MethodName := ⟨RX12, "callFrom", "(II)I"⟩
abbrev cX12_build : ByteArray := prog_14_method_56_code
def yX12_build : MethodName := ⟨RX12, "build", "(I)V"⟩
abbrev cX12_openCall : ByteArray := prog_14_method_57_code
def yX12_openCall : MethodName := ⟨RX12, "openCall", "(I)V"⟩
abbrev cX12_substituted : ByteArray := prog_14_method_58_code
def yX12_substituted : MethodName := ⟨RX12, "substituted", "(I)I"⟩
abbrev cX12_beginInstance : ByteArray := prog_14_method_59_code
def yX12_beginInstance : MethodName := ⟨RX12, "beginInstance", "(III)V"⟩
abbrev cX12_anew : ByteArray := prog_14_method_60_code
def yX12_anew : MethodName := ⟨RX12, "anew", "(III)I"⟩
abbrev cX12_instance : ByteArray := prog_14_method_61_code
def yX12_instance : MethodName := ⟨RX12, "instance", "(I)I"⟩
abbrev cX12_beginTerm : ByteArray := prog_14_method_62_code
def yX12_beginTerm : MethodName := ⟨RX12, "beginTerm", "(I)Z"⟩
abbrev cX12_termOf : ByteArray := prog_14_method_63_code
def yX12_termOf : MethodName := ⟨RX12, "termOf", "(I)I"⟩
abbrev cX12_made : ByteArray := prog_14_method_64_code
def yX12_made : MethodName := ⟨RX12, "made", "(IIII)I"⟩
abbrev cX12_made2 : ByteArray := prog_14_method_65_code
def yX12_made2 : MethodName := ⟨RX12, "made2", "(III)I"⟩
abbrev cX12_notOf : ByteArray := prog_14_method_66_code
def yX12_notOf : MethodName := ⟨RX12, "notOf", "(I)I"⟩
abbrev cX12_isBoolean : ByteArray := prog_14_method_67_code
def yX12_isBoolean : MethodName := ⟨RX12, "isBoolean", "(I)Z"⟩
abbrev cX12_walkTo : ByteArray := prog_14_method_68_code
def yX12_walkTo : MethodName := ⟨RX12, "walkTo", "(I)V"⟩
abbrev cX12_walkOn : ByteArray := prog_14_method_69_code
def yX12_walkOn : MethodName := ⟨RX12, "walkOn", "()I"⟩
abbrev cX12_hasCall : ByteArray := prog_14_method_70_code
def yX12_hasCall : MethodName := ⟨RX12, "hasCall", "(II)Z"⟩
abbrev cX12_hasVariable : ByteArray := prog_14_method_71_code
def yX12_hasVariable : MethodName := ⟨RX12, "hasVariable", "(II)Z"⟩
abbrev cX12_variablesOf : ByteArray := prog_14_method_72_code
def yX12_variablesOf : MethodName := ⟨RX12, "variablesOf", "(I)V"⟩
abbrev cX12_isStep : ByteArray := prog_14_method_73_code
def yX12_isStep : MethodName := ⟨RX12, "isStep", "()Z"⟩
abbrev cX12_beginEval : ByteArray := prog_14_method_74_code
def yX12_beginEval : MethodName := ⟨RX12, "beginEval", "(IIIZ)V"⟩
abbrev cX12_numberOf : ByteArray := prog_14_method_75_code
def yX12_numberOf : MethodName := ⟨RX12, "numberOf", "(I)J"⟩
abbrev cX12_truth : ByteArray := prog_14_method_76_code
def yX12_truth : MethodName := ⟨RX12, "truth", "(Z)I"⟩
abbrev cX12_basic : ByteArray := prog_14_method_77_code
def yX12_basic : MethodName := ⟨RX12, "basic", "(II)I"⟩
abbrev cX12_takeValue : ByteArray := prog_14_method_78_code
def yX12_takeValue : MethodName := ⟨RX12, "takeValue", "(Z)V"⟩
abbrev cX12_goOn : ByteArray := prog_14_method_79_code
def yX12_goOn : MethodName := ⟨RX12, "goOn", "(Z)V"⟩
abbrev cX12_evaluated : ByteArray := prog_14_method_80_code
def yX12_evaluated : MethodName := ⟨RX12, "evaluated", "(IZ)I"⟩
abbrev cX12_beginJob : ByteArray := prog_14_method_81_code
def yX12_beginJob : MethodName := ⟨RX12, "beginJob", "(IZ)V"⟩
abbrev cX12_end0 : ByteArray := prog_14_method_82_code
def yX12_end0 : MethodName := ⟨RX12, "end0", "(I)V"⟩
abbrev cX12_passOn : ByteArray := prog_14_method_83_code
def yX12_passOn : MethodName := ⟨RX12, "passOn", "(I)V"⟩
abbrev cX12_isInContext : ByteArray := prog_14_method_84_code
def yX12_isInContext : MethodName := ⟨RX12, "isInContext", "(I)Z"⟩
abbrev cX12_isDenied : ByteArray := prog_14_method_85_code
def yX12_isDenied : MethodName := ⟨RX12, "isDenied", "(I)Z"⟩
abbrev cX12_lookedUp : ByteArray := prog_14_method_86_code
def yX12_lookedUp : MethodName := ⟨RX12, "lookedUp", "(IZ)I"⟩
abbrev cX12_startJob : ByteArray := prog_14_method_87_code
def yX12_startJob : MethodName := ⟨RX12, "startJob", "(I)V"⟩
abbrev cX12_nextTerm : ByteArray := prog_14_method_88_code
def yX12_nextTerm : MethodName := ⟨RX12, "nextTerm", "(I)V"⟩
abbrev cX12_takeResult : ByteArray := prog_14_method_89_code
def yX12_takeResult : MethodName := ⟨RX12, "takeResult", "(I)V"⟩
abbrev cX12_push : ByteArray := prog_14_method_90_code
def yX12_push : MethodName := ⟨RX12, "push", "(I)V"⟩
abbrev cX12_test : ByteArray := prog_14_method_91_code
def yX12_test : MethodName := ⟨RX12, "test", "(I)V"⟩
abbrev cX12_join : ByteArray := prog_14_method_92_code
def yX12_join : MethodName := ⟨RX12, "join", "(IIII)V"⟩
abbrev cX12_areConstants : ByteArray := prog_14_method_93_code
def yX12_areConstants : MethodName := ⟨RX12, "areConstants", "(I)Z"⟩
abbrev cX12_isNumbered : ByteArray := prog_14_method_94_code
def yX12_isNumbered : MethodName := ⟨RX12, "isNumbered", "(I)Z"⟩
abbrev cX12_plain : ByteArray := prog_14_method_95_code
def yX12_plain : MethodName := ⟨RX12, "plain", "(I)I"⟩
abbrev cX12_apply : ByteArray := prog_14_method_96_code
def yX12_apply : MethodName := ⟨RX12, "apply", "(I)V"⟩
abbrev cX12_fallen : ByteArray := prog_14_method_97_code
def yX12_fallen : MethodName := ⟨RX12, "fallen", "(II)I"⟩
abbrev cX12_constantValue : ByteArray := prog_14_method_98_code
def yX12_constantValue : MethodName := ⟨RX12, "constantValue", "(II)I"⟩
abbrev cX12_matches : ByteArray := prog_14_method_99_code
def yX12_matches : MethodName := ⟨RX12, "matches", "(IIIZ)Z"⟩
abbrev cX12_bound : ByteArray := prog_14_method_100_code
def yX12_bound : MethodName := ⟨RX12, "bound", "(IIIZ)Z"⟩
abbrev cX12_takePairs : ByteArray := prog_14_method_101_code
def yX12_takePairs : MethodName := ⟨RX12, "takePairs", "(I)V"⟩
abbrev cX12_tryRules : ByteArray := prog_14_method_102_code
def yX12_tryRules : MethodName := ⟨RX12, "tryRules", "(II)V"⟩
abbrev cX12_nextHypothesis : ByteArray := prog_14_method_103_code
def yX12_nextHypothesis : MethodName := ⟨RX12, "nextHypothesis", "(I)V"⟩
abbrev cX12_bodyOf : ByteArray := prog_14_method_104_code
def yX12_bodyOf : MethodName := ⟨RX12, "bodyOf", "(II)I"⟩
abbrev cX12_define : ByteArray := prog_14_method_105_code
def yX12_define : MethodName := ⟨RX12, "define", "(I)V"⟩
abbrev cX12_rewritten : ByteArray := prog_14_method_106_code
def yX12_rewritten : MethodName := ⟨RX12, "rewritten", "(IZ)I"⟩
abbrev cX12_put : ByteArray := prog_14_method_107_code
def yX12_put : MethodName := ⟨RX12, "put", "(I)V"⟩
abbrev cX12_bounded : ByteArray := prog_14_method_108_code
def yX12_bounded : MethodName := ⟨RX12, "bounded", "()V"⟩
abbrev cX12_row : ByteArray := prog_14_method_109_code
def yX12_row : MethodName := ⟨RX12, "row", "(I)I"⟩
abbrev cX12_isProved : ByteArray := prog_14_method_110_code
def yX12_isProved : MethodName := ⟨RX12, "isProved", "(I)Z"⟩
abbrev cX12_removeAt : ByteArray := prog_14_method_111_code
def yX12_removeAt : MethodName := ⟨RX12, "removeAt", "(II)V"⟩
abbrev cX12_changeTo : ByteArray := prog_14_method_112_code
def yX12_changeTo : MethodName := ⟨RX12, "changeTo", "(III)Z"⟩
abbrev cX12_together : ByteArray := prog_14_method_113_code
def yX12_together : MethodName := ⟨RX12, "together", "(I)I"⟩
abbrev cX12_splitRow : ByteArray := prog_14_method_114_code
def yX12_splitRow : MethodName := ⟨RX12, "splitRow", "(IIII)I"⟩
abbrev cX12_split : ByteArray := prog_14_method_115_code
def yX12_split : MethodName := ⟨RX12, "split", "(III)V"⟩
abbrev cX12_splits : ByteArray := prog_14_method_116_code
def yX12_splits : MethodName := ⟨RX12, "splits", "(I)Z"⟩
abbrev cX12_leave : ByteArray := prog_14_method_117_code
def yX12_leave : MethodName := ⟨RX12, "leave", "(I)V"⟩
abbrev cX12_round : ByteArray := prog_14_method_118_code
def yX12_round : MethodName := ⟨RX12, "round", "(I)V"⟩
abbrev cX12_prove : ByteArray := prog_14_method_119_code
def yX12_prove : MethodName := ⟨RX12, "prove", "()Z"⟩
abbrev cX12_tellOut : ByteArray := prog_14_method_120_code
def yX12_tellOut : MethodName := ⟨RX12, "tellOut", "(I)V"⟩
abbrev cX12_rowList : ByteArray := prog_14_method_121_code
def yX12_rowList : MethodName := ⟨RX12, "rowList", "(I)I"⟩
abbrev cX12_tellLeft : ByteArray := prog_14_method_122_code
def yX12_tellLeft : MethodName := ⟨RX12, "tellLeft", "()V"⟩
abbrev cX12_pathsOf : ByteArray := prog_14_method_123_code
def yX12_pathsOf : MethodName := ⟨RX12, "pathsOf", "(I)V"⟩
abbrev cX12_find : ByteArray := prog_14_method_124_code
def yX12_find : MethodName := ⟨RX12, "find", "(II)V"⟩
abbrev cX12_isNewName : ByteArray := prog_14_method_125_code
def yX12_isNewName : MethodName := ⟨RX12, "isNewName", "(I)Z"⟩
abbrev cX12_definition : ByteArray := prog_14_method_126_code
def yX12_definition : MethodName := ⟨RX12, "definition", "(I)I"⟩
abbrev cX12_theoremOf : ByteArray := prog_14_method_127_code
def yX12_theoremOf : MethodName := ⟨RX12, "theoremOf", "(I)I"⟩
abbrev cX12_areVariables : ByteArray := prog_14_method_128_code
def yX12_areVariables : MethodName := ⟨RX12, "areVariables", "(II)Z"⟩
abbrev cX12_isIn : ByteArray := prog_14_method_129_code
def yX12_isIn : MethodName := ⟨RX12, "isIn", "(II)Z"⟩
abbrev cX12_hasOnly : ByteArray := prog_14_method_130_code
def yX12_hasOnly : MethodName := ⟨RX12, "hasOnly", "(II)Z"⟩
abbrev cX12_areApart : ByteArray := prog_14_method_131_code
def yX12_areApart : MethodName := ⟨RX12, "areApart", "(I)Z"⟩
abbrev cX12_measureRows : ByteArray := prog_14_method_132_code
def yX12_measureRows : MethodName := ⟨RX12, "measureRows", "(III)V"⟩
abbrev cX12_defun : ByteArray := prog_14_method_133_code
def yX12_defun : MethodName := ⟨RX12, "defun", "(I)I"⟩
abbrev cX12_take : ByteArray := prog_14_method_134_code
def yX12_take : MethodName := ⟨RX12, "take", "(I)V"⟩
abbrev cX12_ruleOf : ByteArray := prog_14_method_135_code
def yX12_ruleOf : MethodName := ⟨RX12, "ruleOf", "(II)V"⟩
abbrev cX12_covers : ByteArray := prog_14_method_136_code
def yX12_covers : MethodName := ⟨RX12, "covers", "(II)Z"⟩
abbrev cX12_hypotheses : ByteArray := prog_14_method_137_code
def yX12_hypotheses : MethodName := ⟨RX12, "hypotheses", "(II)V"⟩
abbrev cX12_wrong : ByteArray := prog_14_method_138_code
def yX12_wrong : MethodName := ⟨RX12, "wrong", "(I)V"⟩
abbrev cX12_induction : ByteArray := prog_14_method_139_code
def yX12_induction : MethodName := ⟨RX12, "induction", "(I)V"⟩
abbrev cX12_arePairs : ByteArray := prog_14_method_140_code
def yX12_arePairs : MethodName := ⟨RX12, "arePairs", "(I)Z"⟩
abbrev cX12_using : ByteArray := prog_14_method_141_code
def yX12_using : MethodName := ⟨RX12, "using", "(I)V"⟩
abbrev cX12_turningOff : ByteArray := prog_14_method_142_code
def yX12_turningOff : MethodName := ⟨RX12, "turningOff", "(I)V"⟩
abbrev cX12_hints : ByteArray := prog_14_method_143_code
def yX12_hints : MethodName := ⟨RX12, "hints", "(I)I"⟩
abbrev cX12_takeParameters : ByteArray := prog_14_method_144_code
def yX12_takeParameters : MethodName := ⟨RX12, "takeParameters", "(II)V"⟩
abbrev cX12_inductionRow : ByteArray := prog_14_method_145_code
def yX12_inductionRow : MethodName := ⟨RX12, "inductionRow", "(IIII)V"⟩
abbrev cX12_useRows : ByteArray := prog_14_method_146_code
def yX12_useRows : MethodName := ⟨RX12, "useRows", "()V"⟩
abbrev cX12_proveBy : ByteArray := prog_14_method_147_code
def yX12_proveBy : MethodName := ⟨RX12, "proveBy", "(I)Z"⟩
abbrev cX12_allRulesIn : ByteArray := prog_14_method_148_code
def yX12_allRulesIn : MethodName := ⟨RX12, "allRulesIn", "()V"⟩
abbrev cX12_defthm : ByteArray := prog_14_method_149_code
def yX12_defthm : MethodName := ⟨RX12, "defthm", "(IZ)I"⟩
abbrev cX12_addTheorem : ByteArray := prog_14_method_150_code
def yX12_addTheorem : MethodName := ⟨RX12, "addTheorem", "(III)V"⟩
abbrev cX12_partsFrom : ByteArray := prog_14_method_151_code
def yX12_partsFrom : MethodName := ⟨RX12, "partsFrom", "(I)I"⟩
abbrev cX12_partsTo : ByteArray := prog_14_method_152_code
def yX12_partsTo : MethodName := ⟨RX12, "partsTo", "(I)I"⟩
abbrev cX12_areTerms : ByteArray := prog_14_method_153_code
def yX12_areTerms : MethodName := ⟨RX12, "areTerms", "(III)Z"⟩
abbrev cX12_isTermList : ByteArray := prog_14_method_154_code
def yX12_isTermList : MethodName := ⟨RX12, "isTermList", "(I)Z"⟩
abbrev cX12_told : ByteArray := prog_14_method_155_code
def yX12_told : MethodName := ⟨RX12, "told", "(I)I"⟩
abbrev cX12_isInduction : ByteArray := prog_14_method_156_code
def yX12_isInduction : MethodName := ⟨RX12, "isInduction", "(I)Z"⟩
abbrev cX12_isForm : ByteArray := prog_14_method_157_code
def yX12_isForm : MethodName := ⟨RX12, "isForm", "(I)Z"⟩
abbrev cX12_beginProof : ByteArray := prog_14_method_158_code
def yX12_beginProof : MethodName := ⟨RX12, "beginProof", "(I)V"⟩
abbrev cX12_pour : ByteArray := prog_14_method_159_code
def yX12_pour : MethodName := ⟨RX12, "pour", "(II)V"⟩
abbrev cX12_has : ByteArray := prog_14_method_160_code
def yX12_has : MethodName := ⟨RX12, "has", "(II)Z"⟩
abbrev cX12_beginsEqual : ByteArray := prog_14_method_161_code
def yX12_beginsEqual : MethodName := ⟨RX12, "beginsEqual", "(I)Z"⟩
abbrev cX12_concludes : ByteArray := prog_14_method_162_code
def yX12_concludes : MethodName := ⟨RX12, "concludes", "(I)Z"⟩
abbrev cX12_defined : ByteArray := prog_14_method_163_code
def yX12_defined : MethodName := ⟨RX12, "defined", "(I)V"⟩
abbrev cX12_instanced : ByteArray := prog_14_method_164_code
def yX12_instanced : MethodName := ⟨RX12, "instanced", "(II)Z"⟩
abbrev cX12_replaced : ByteArray := prog_14_method_165_code
def yX12_replaced : MethodName := ⟨RX12, "replaced", "(I)Z"⟩
abbrev cX12_inducts : ByteArray := prog_14_method_166_code
def yX12_inducts : MethodName := ⟨RX12, "inducts", "(III)Z"⟩
abbrev cX12_goProof : ByteArray := prog_14_method_167_code
def yX12_goProof : MethodName := ⟨RX12, "goProof", "()V"⟩
abbrev cX12_check : ByteArray := prog_14_method_168_code
def yX12_check : MethodName := ⟨RX12, "check", "(I)I"⟩
abbrev cX12_eval : ByteArray := prog_14_method_169_code
def yX12_eval : MethodName := ⟨RX12, "eval", "(I)I"⟩
abbrev cX12_simplify : ByteArray := prog_14_method_170_code
def yX12_simplify : MethodName := ⟨RX12, "simplify", "(I)I"⟩
abbrev cX12_turn : ByteArray := prog_14_method_171_code
def yX12_turn : MethodName := ⟨RX12, "turn", "(IZ)I"⟩
abbrev cX12_undo : ByteArray := prog_14_method_172_code
def yX12_undo : MethodName := ⟨RX12, "undo", "(I)I"⟩
abbrev cX12_command : ByteArray := prog_14_method_173_code
def yX12_command : MethodName := ⟨RX12, "command", "(I)I"⟩
abbrev cX12_feed : ByteArray := prog_14_method_174_code
def yX12_feed : MethodName := ⟨RX12, "feed", "(IIIII)V"⟩
abbrev cX12_end : ByteArray := prog_14_method_175_code
def yX12_end : MethodName := ⟨RX12, "end", "(I)I"⟩
abbrev cX12_fuel : ByteArray := prog_14_method_176_code
def yX12_fuel : MethodName := ⟨RX12, "fuel", "(I)I"⟩
abbrev cX12_run : ByteArray := prog_14_method_177_code
def yX12_run : MethodName := ⟨RX12, "run", "()I"⟩
abbrev cX12_fault : ByteArray := prog_14_method_178_code
def yX12_fault : MethodName := ⟨RX12, "fault", "(I)I"⟩
abbrev cX12_steps : ByteArray := prog_14_method_179_code
def yX12_steps : MethodName := ⟨RX12, "steps", "()I"⟩
abbrev cX12_count : ByteArray := prog_14_method_180_code
def yX12_count : MethodName := ⟨RX12, "count", "(I)I"⟩
abbrev cX12_size : ByteArray := prog_14_method_181_code
def yX12_size : MethodName := ⟨RX12, "size", "()I"⟩
abbrev cX12_letter : ByteArray := prog_14_method_182_code
def yX12_letter : MethodName := ⟨RX12, "letter", "(I)I"⟩
abbrev cX12_taken : ByteArray := prog_14_method_183_code
def yX12_taken : MethodName := ⟨RX12, "taken", "(I)I"⟩
abbrev cX12_tell : ByteArray := prog_14_method_184_code
def yX12_tell : MethodName := ⟨RX12, "tell", "(I)I"⟩
abbrev cX12_recheck : ByteArray := prog_14_method_185_code
def yX12_recheck : MethodName := ⟨RX12, "recheck", "()Z"⟩
def wsX12_spell : List Cond := .code yX12_spell cX12_spell 2 none :: ([.fieldLink RX12 50 "ProofHouseModel" "word" "[I", .fieldLink RX12 309 "ProofHouseModel" "wordSize" "I"] ++ wsX120)
def wsX12_spelled : List Cond := .code yX12_spelled cX12_spelled 6 (some .int) :: ([.fieldLink RX12 50 "ProofHouseModel" "word" "[I", .fieldLink RX12 35 "ProofHouseModel" "names" "[I"] ++ wsX120)
def wsX12_isWord : List Cond := .code yX12_isWord cX12_isWord 4 (some .boolean) :: ([.fieldLink RX12 38 "ProofHouseModel" "lengths" "[I", .fieldLink RX12 309 "ProofHouseModel" "wordSize" "I", .fieldLink RX12 35 "ProofHouseModel" "names" "[I", .fieldLink RX12 50 "ProofHouseModel" "word" "[I"] ++ wsX120)
def wsX12_added : List Cond := .code yX12_added cX12_added 4 (some .int) :: ([.fieldLink RX12 8 "ProofHouseModel" "left" "[I", .fieldLink RX12 332 "ProofHouseModel" "objects" "I", .fieldLink RX12 14 "ProofHouseModel" "right" "[I", .fieldLink RX12 17 "ProofHouseModel" "next" "[I", .fieldLink RX12 31 "ProofHouseModel" "heads" "[I", .fieldLink RX12 20 "ProofHouseModel" "sizes" "[I", .fieldLink RX12 23 "ProofHouseModel" "heights" "[I"] ++ wsX120)
def wsX12_symbol_r1 : List Cond := [Cond.fieldLink RX12 309 "ProofHouseModel" "wordSize" "I", Cond.fieldLink RX12 31 "ProofHouseModel" "heads" "[I", Cond.fieldLink RX12 8 "ProofHouseModel" "left" "[I", Cond.fieldLink RX12 14 "ProofHouseModel" "right" "[I", Cond.fieldLink RX12 17 "ProofHouseModel" "next" "[I", Cond.fieldLink RX12 38 "ProofHouseModel" "lengths" "[I", Cond.fieldLink RX12 346 "ProofHouseModel" "symbols" "I", Cond.fieldLink RX12 35 "ProofHouseModel" "names" "[I", Cond.fieldLink RX12 50 "ProofHouseModel" "word" "[I", Cond.methodLink RX12 328 yX12_spelled, Cond.instanceMethod yX12_spelled, Cond.selects RX12 yX12_spelled yX12_spelled, Cond.initialized RX12, Cond.code yX12_spelled cX12_spelled 6 (some .int), Cond.methodLink RX12 342 yX12_isWord, Cond.instanceMethod yX12_isWord, Cond.selects RX12 yX12_isWord yX12_isWord, Cond.code yX12_isWord cX12_isWord 4 (some .boolean), Cond.methodLink RX12 335 yX12_added, Cond.instanceMethod yX12_added, Cond.selects RX12 yX12_added yX12_added, Cond.code yX12_added cX12_added 4 (some .int), Cond.fieldLink RX12 332 "ProofHouseModel" "objects" "I", Cond.fieldLink RX12 20 "ProofHouseModel" "sizes" "[I"]
def wsX12_symbol_r2 : List Cond := [Cond.fieldLink RX12 23 "ProofHouseModel" "heights" "[I"]
def wsX12_symbol : List Cond := .code yX12_symbol cX12_symbol 3 (some .int) :: ((wsX12_symbol_r1 ++ wsX12_symbol_r2) ++ wsX120)
def wsX12_said_r1 : List Cond := [Cond.fieldLink RX12 309 "ProofHouseModel" "wordSize" "I", Cond.methodLink RX12 312 yX12_spell, Cond.instanceMethod yX12_spell, Cond.selects RX12 yX12_spell yX12_spell, Cond.initialized RX12, Cond.code yX12_spell cX12_spell 2 none, Cond.fieldLink RX12 50 "ProofHouseModel" "word" "[I", Cond.methodLink RX12 316 yX12_symbol, Cond.instanceMethod yX12_symbol, Cond.selects RX12 yX12_symbol yX12_symbol, Cond.code yX12_symbol cX12_symbol 3 (some .int), Cond.fieldLink RX12 31 "ProofHouseModel" "heads" "[I", Cond.fieldLink RX12 8 "ProofHouseModel" "left" "[I", Cond.fieldLink RX12 14 "ProofHouseModel" "right" "[I", Cond.fieldLink RX12 17 "ProofHouseModel" "next" "[I", Cond.fieldLink RX12 38 "ProofHouseModel" "lengths" "[I", Cond.fieldLink RX12 346 "ProofHouseModel" "symbols" "I", Cond.fieldLink RX12 35 "ProofHouseModel" "names" "[I", Cond.methodLink RX12 328 yX12_spelled, Cond.instanceMethod yX12_spelled, Cond.selects RX12 yX12_spelled yX12_spelled, Cond.code yX12_spelled cX12_spelled 6 (some .int), Cond.methodLink RX12 342 yX12_isWord, Cond.instanceMethod yX12_isWord]
def wsX12_said_r2 : List Cond := [Cond.selects RX12 yX12_isWord yX12_isWord, Cond.code yX12_isWord cX12_isWord 4 (some .boolean), Cond.methodLink RX12 335 yX12_added, Cond.instanceMethod yX12_added, Cond.selects RX12 yX12_added yX12_added, Cond.code yX12_added cX12_added 4 (some .int), Cond.fieldLink RX12 332 "ProofHouseModel" "objects" "I", Cond.fieldLink RX12 20 "ProofHouseModel" "sizes" "[I", Cond.fieldLink RX12 23 "ProofHouseModel" "heights" "[I"]
def wsX12_said : List Cond := .code yX12_said cX12_said 10 none :: ((wsX12_said_r1 ++ wsX12_said_r2) ++ wsX120)
def wsX12_slot : List Cond := .code yX12_slot cX12_slot 2 (some .int) :: ([.constant RX12 320 (40503)])
def wsX12_isPair : List Cond := .code yX12_isPair cX12_isPair 2 (some .boolean) :: ([.fieldLink RX12 8 "ProofHouseModel" "left" "[I"] ++ wsX120)
def wsX12_isNatural : List Cond := .code yX12_isNatural cX12_isNatural 2 (some .boolean) :: ([.fieldLink RX12 8 "ProofHouseModel" "left" "[I"] ++ wsX120)
def wsX12_isSymbol : List Cond := .code yX12_isSymbol cX12_isSymbol 2 (some .boolean) :: ([.fieldLink RX12 8 "ProofHouseModel" "left" "[I"] ++ wsX120)
set_option maxRecDepth 20000 in
theorem ggX12_said_X12_spell : GoodIn wsX12_said wsX12_spell := goodIn_r _ [6, 7, 1, 34, 35, 36, 37, 38, 39, 40, 41, 42, 43, 44, 45, 46, 47, 48, 49, 50, 51, 52, 53, 54, 55, 56, 57, 58, 59, 60, 61, 62, 63, 64, 65, 66, 67, 68, 69, 70, 71, 72, 73, 74, 75, 76, 77, 78, 79, 80, 81, 82, 83, 84, 85, 86, 87, 88, 89, 90, 91, 92, 93, 94, 95, 96, 97, 98, 99, 100, 101, 102, 103, 104, 105, 106, 107, 108, 109, 110, 111, 112, 113, 114, 115, 116, 117, 118, 119, 120, 121, 122, 123, 124, 125, 126, 127, 128, 129, 130, 131, 132, 133, 134, 135, 136, 137, 138, 139, 140, 141, 142, 143, 144, 145, 146, 147, 148, 149, 150, 151, 152, 153, 154, 155, 156, 157, 158, 159, 160, 161, 162, 163, 164, 165, 166, 167, 168, 169, 170, 171, 172, 173, 174, 175, 176, 177, 178, 179, 180, 181, 182] (by decide +kernel) (by decide +kernel)
set_option maxRecDepth 20000 in
theorem gX12_said_X12_spell : GoodIn wsX12_said (wsV RX12 312 RX12 yX12_spell wsX12_spell) := goodIn_app (goodIn_of _ (by decide +kernel)) ggX12_said_X12_spell
set_option maxRecDepth 20000 in
theorem ggX12_said_X12_symbol : GoodIn wsX12_said wsX12_symbol := goodIn_r _ [11, 1, 12, 13, 14, 15, 16, 17, 18, 7, 19, 20, 21, 5, 22, 23, 24, 25, 26, 27, 28, 29, 30, 31, 32, 33, 34, 35, 36, 37, 38, 39, 40, 41, 42, 43, 44, 45, 46, 47, 48, 49, 50, 51, 52, 53, 54, 55, 56, 57, 58, 59, 60, 61, 62, 63, 64, 65, 66, 67, 68, 69, 70, 71, 72, 73, 74, 75, 76, 77, 78, 79, 80, 81, 82, 83, 84, 85, 86, 87, 88, 89, 90, 91, 92, 93, 94, 95, 96, 97, 98, 99, 100, 101, 102, 103, 104, 105, 106, 107, 108, 109, 110, 111, 112, 113, 114, 115, 116, 117, 118, 119, 120, 121, 122, 123, 124, 125, 126, 127, 128, 129, 130, 131, 132, 133, 134, 135, 136, 137, 138, 139, 140, 141, 142, 143, 144, 145, 146, 147, 148, 149, 150, 151, 152, 153, 154, 155, 156, 157, 158, 159, 160, 161, 162, 163, 164, 165, 166, 167, 168, 169, 170, 171, 172, 173, 174, 175, 176, 177, 178, 179, 180, 181, 182] (by decide +kernel) (by decide +kernel)
set_option maxRecDepth 20000 in
theorem gX12_said_X12_symbol : GoodIn wsX12_said (wsV RX12 316 RX12 yX12_symbol wsX12_symbol) := goodIn_app (goodIn_of _ (by decide +kernel)) ggX12_said_X12_symbol
theorem dX12_said_0 : decode cX12_said 0 = .ok (.aload_n 0, 1) := by decide +kernel
theorem dX12_said_1 : decode cX12_said 1 = .ok (.iconst 0, 1) := by decide +kernel
theorem dX12_said_2 : decode cX12_said 2 = .ok (.putfield 309, 3) := by decide +kernel
theorem dX12_said_5 : decode cX12_said 5 = .ok (.aload_n 0, 1) := by decide +kernel
theorem dX12_said_6 : decode cX12_said 6 = .ok (.iload_n 1, 1) := by decide +kernel
theorem dX12_said_7 : decode cX12_said 7 = .ok (.invokevirtual 312, 3) := by decide +kernel
theorem dX12_said_10 : decode cX12_said 10 = .ok (.aload_n 0, 1) := by decide +kernel
theorem dX12_said_11 : decode cX12_said 11 = .ok (.iload_n 2, 1) := by decide +kernel
theorem dX12_said_12 : decode cX12_said 12 = .ok (.invokevirtual 312, 3) := by decide +kernel
theorem dX12_said_15 : decode cX12_said 15 = .ok (.aload_n 0, 1) := by decide +kernel
theorem dX12_said_16 : decode cX12_said 16 = .ok (.iload_n 3, 1) := by decide +kernel
theorem dX12_said_17 : decode cX12_said 17 = .ok (.invokevirtual 312, 3) := by decide +kernel
theorem dX12_said_20 : decode cX12_said 20 = .ok (.aload_n 0, 1) := by decide +kernel
theorem dX12_said_21 : decode cX12_said 21 = .ok (.iload 4, 2) := by decide +kernel
theorem dX12_said_23 : decode cX12_said 23 = .ok (.invokevirtual 312, 3) := by decide +kernel
theorem dX12_said_26 : decode cX12_said 26 = .ok (.aload_n 0, 1) := by decide +kernel
theorem dX12_said_27 : decode cX12_said 27 = .ok (.iload 5, 2) := by decide +kernel
theorem dX12_said_29 : decode cX12_said 29 = .ok (.invokevirtual 312, 3) := by decide +kernel
theorem dX12_said_32 : decode cX12_said 32 = .ok (.aload_n 0, 1) := by decide +kernel
theorem dX12_said_33 : decode cX12_said 33 = .ok (.iload 6, 2) := by decide +kernel
theorem dX12_said_35 : decode cX12_said 35 = .ok (.invokevirtual 312, 3) := by decide +kernel
theorem dX12_said_38 : decode cX12_said 38 = .ok (.aload_n 0, 1) := by decide +kernel
theorem dX12_said_39 : decode cX12_said 39 = .ok (.iload 7, 2) := by decide +kernel
theorem dX12_said_41 : decode cX12_said 41 = .ok (.invokevirtual 312, 3) := by decide +kernel
theorem dX12_said_44 : decode cX12_said 44 = .ok (.aload_n 0, 1) := by decide +kernel
theorem dX12_said_45 : decode cX12_said 45 = .ok (.iload 8, 2) := by decide +kernel
theorem dX12_said_47 : decode cX12_said 47 = .ok (.invokevirtual 312, 3) := by decide +kernel
theorem dX12_said_50 : decode cX12_said 50 = .ok (.aload_n 0, 1) := by decide +kernel
theorem dX12_said_51 : decode cX12_said 51 = .ok (.invokevirtual 316, 3) := by decide +kernel
theorem dX12_said_54 : decode cX12_said 54 = .ok (.istore 9, 2) := by decide +kernel
theorem dX12_said_56 : decode cX12_said 56 = .ok (.return_, 1) := by decide +kernel
theorem dX12_spell_0 : decode cX12_spell 0 = .ok (.iload_n 1, 1) := by decide +kernel
theorem dX12_spell_1 : decode cX12_spell 1 = .ok (.ifCond .ne 4, 3) := by decide +kernel
theorem dX12_spell_4 : decode cX12_spell 4 = .ok (.return_, 1) := by decide +kernel
theorem dX12_spell_5 : decode cX12_spell 5 = .ok (.aload_n 0, 1) := by decide +kernel
theorem dX12_spell_6 : decode cX12_spell 6 = .ok (.getfield 50, 3) := by decide +kernel
theorem dX12_spell_9 : decode cX12_spell 9 = .ok (.aload_n 0, 1) := by decide +kernel
theorem dX12_spell_10 : decode cX12_spell 10 = .ok (.getfield 309, 3) := by decide +kernel
theorem dX12_spell_13 : decode cX12_spell 13 = .ok (.iload_n 1, 1) := by decide +kernel
theorem dX12_spell_14 : decode cX12_spell 14 = .ok (.iastore, 1) := by decide +kernel
theorem dX12_spell_15 : decode cX12_spell 15 = .ok (.aload_n 0, 1) := by decide +kernel
theorem dX12_spell_16 : decode cX12_spell 16 = .ok (.dup, 1) := by decide +kernel
theorem dX12_spell_17 : decode cX12_spell 17 = .ok (.getfield 309, 3) := by decide +kernel
theorem dX12_spell_20 : decode cX12_spell 20 = .ok (.iconst 1, 1) := by decide +kernel
theorem dX12_spell_21 : decode cX12_spell 21 = .ok (.iadd, 1) := by decide +kernel
theorem dX12_spell_22 : decode cX12_spell 22 = .ok (.putfield 309, 3) := by decide +kernel
theorem dX12_spell_25 : decode cX12_spell 25 = .ok (.return_, 1) := by decide +kernel
theorem dX12_slot_0 : decode cX12_slot 0 = .ok (.iload_n 0, 1) := by decide +kernel
theorem dX12_slot_1 : decode cX12_slot 1 = .ok (.ldc_w 320, 3) := by decide +kernel
theorem dX12_slot_4 : decode cX12_slot 4 = .ok (.imul, 1) := by decide +kernel
theorem dX12_slot_5 : decode cX12_slot 5 = .ok (.iload_n 1, 1) := by decide +kernel
theorem dX12_slot_6 : decode cX12_slot 6 = .ok (.sipush 30011, 3) := by decide +kernel
theorem dX12_slot_9 : decode cX12_slot 9 = .ok (.imul, 1) := by decide +kernel
theorem dX12_slot_10 : decode cX12_slot 10 = .ok (.iadd, 1) := by decide +kernel
theorem dX12_slot_11 : decode cX12_slot 11 = .ok (.bipush 7, 2) := by decide +kernel
theorem dX12_slot_13 : decode cX12_slot 13 = .ok (.iadd, 1) := by decide +kernel
theorem dX12_slot_14 : decode cX12_slot 14 = .ok (.iconst 2, 1) := by decide +kernel
theorem dX12_slot_15 : decode cX12_slot 15 = .ok (.iushr, 1) := by decide +kernel
theorem dX12_slot_16 : decode cX12_slot 16 = .ok (.sipush 8191, 3) := by decide +kernel
theorem dX12_slot_19 : decode cX12_slot 19 = .ok (.iand, 1) := by decide +kernel
theorem dX12_slot_20 : decode cX12_slot 20 = .ok (.ireturn, 1) := by decide +kernel
theorem dX12_spelled_0 : decode cX12_spelled 0 = .ok (.iconst 5, 1) := by decide +kernel
theorem dX12_spelled_1 : decode cX12_spelled 1 = .ok (.istore 4, 2) := by decide +kernel
theorem dX12_spelled_3 : decode cX12_spelled 3 = .ok (.iconst 0, 1) := by decide +kernel
theorem dX12_spelled_4 : decode cX12_spelled 4 = .ok (.istore 5, 2) := by decide +kernel
theorem dX12_spelled_6 : decode cX12_spelled 6 = .ok (.iload 5, 2) := by decide +kernel
theorem dX12_spelled_8 : decode cX12_spelled 8 = .ok (.iload_n 2, 1) := by decide +kernel
theorem dX12_spelled_9 : decode cX12_spelled 9 = .ok (.if_icmp .ge 41, 3) := by decide +kernel
theorem dX12_spelled_12 : decode cX12_spelled 12 = .ok (.sipush 131, 3) := by decide +kernel
theorem dX12_spelled_15 : decode cX12_spelled 15 = .ok (.iload 4, 2) := by decide +kernel
theorem dX12_spelled_17 : decode cX12_spelled 17 = .ok (.imul, 1) := by decide +kernel
theorem dX12_spelled_18 : decode cX12_spelled 18 = .ok (.iload_n 3, 1) := by decide +kernel
theorem dX12_spelled_19 : decode cX12_spelled 19 = .ok (.ifCond .eq 13, 3) := by decide +kernel
theorem dX12_spelled_22 : decode cX12_spelled 22 = .ok (.aload_n 0, 1) := by decide +kernel
theorem dX12_spelled_23 : decode cX12_spelled 23 = .ok (.getfield 50, 3) := by decide +kernel
theorem dX12_spelled_26 : decode cX12_spelled 26 = .ok (.iload 5, 2) := by decide +kernel
theorem dX12_spelled_28 : decode cX12_spelled 28 = .ok (.iaload, 1) := by decide +kernel
theorem dX12_spelled_29 : decode cX12_spelled 29 = .ok (.goto 12, 3) := by decide +kernel
theorem dX12_spelled_32 : decode cX12_spelled 32 = .ok (.aload_n 0, 1) := by decide +kernel
theorem dX12_spelled_33 : decode cX12_spelled 33 = .ok (.getfield 35, 3) := by decide +kernel
theorem dX12_spelled_36 : decode cX12_spelled 36 = .ok (.iload_n 1, 1) := by decide +kernel
theorem dX12_spelled_37 : decode cX12_spelled 37 = .ok (.iload 5, 2) := by decide +kernel
theorem dX12_spelled_39 : decode cX12_spelled 39 = .ok (.iadd, 1) := by decide +kernel
theorem dX12_spelled_40 : decode cX12_spelled 40 = .ok (.iaload, 1) := by decide +kernel
theorem dX12_spelled_41 : decode cX12_spelled 41 = .ok (.iadd, 1) := by decide +kernel
theorem dX12_spelled_42 : decode cX12_spelled 42 = .ok (.istore 4, 2) := by decide +kernel
theorem dX12_spelled_44 : decode cX12_spelled 44 = .ok (.iinc 5 1, 3) := by decide +kernel
theorem dX12_spelled_47 : decode cX12_spelled 47 = .ok (.goto (-41), 3) := by decide +kernel
theorem dX12_spelled_50 : decode cX12_spelled 50 = .ok (.iload 4, 2) := by decide +kernel
theorem dX12_spelled_52 : decode cX12_spelled 52 = .ok (.sipush 8191, 3) := by decide +kernel
theorem dX12_spelled_55 : decode cX12_spelled 55 = .ok (.iand, 1) := by decide +kernel
theorem dX12_spelled_56 : decode cX12_spelled 56 = .ok (.ireturn, 1) := by decide +kernel
theorem dX12_added_0 : decode cX12_added 0 = .ok (.aload_n 0, 1) := by decide +kernel
theorem dX12_added_1 : decode cX12_added 1 = .ok (.getfield 8, 3) := by decide +kernel
theorem dX12_added_4 : decode cX12_added 4 = .ok (.aload_n 0, 1) := by decide +kernel
theorem dX12_added_5 : decode cX12_added 5 = .ok (.getfield 332, 3) := by decide +kernel
theorem dX12_added_8 : decode cX12_added 8 = .ok (.iload_n 1, 1) := by decide +kernel
theorem dX12_added_9 : decode cX12_added 9 = .ok (.iastore, 1) := by decide +kernel
theorem dX12_added_10 : decode cX12_added 10 = .ok (.aload_n 0, 1) := by decide +kernel
theorem dX12_added_11 : decode cX12_added 11 = .ok (.getfield 14, 3) := by decide +kernel
theorem dX12_added_14 : decode cX12_added 14 = .ok (.aload_n 0, 1) := by decide +kernel
theorem dX12_added_15 : decode cX12_added 15 = .ok (.getfield 332, 3) := by decide +kernel
theorem dX12_added_18 : decode cX12_added 18 = .ok (.iload_n 2, 1) := by decide +kernel
theorem dX12_added_19 : decode cX12_added 19 = .ok (.iastore, 1) := by decide +kernel
theorem dX12_added_20 : decode cX12_added 20 = .ok (.aload_n 0, 1) := by decide +kernel
theorem dX12_added_21 : decode cX12_added 21 = .ok (.getfield 17, 3) := by decide +kernel
theorem dX12_added_24 : decode cX12_added 24 = .ok (.aload_n 0, 1) := by decide +kernel
theorem dX12_added_25 : decode cX12_added 25 = .ok (.getfield 332, 3) := by decide +kernel
theorem dX12_added_28 : decode cX12_added 28 = .ok (.aload_n 0, 1) := by decide +kernel
theorem dX12_added_29 : decode cX12_added 29 = .ok (.getfield 31, 3) := by decide +kernel
theorem dX12_added_32 : decode cX12_added 32 = .ok (.iload_n 3, 1) := by decide +kernel
theorem dX12_added_33 : decode cX12_added 33 = .ok (.iaload, 1) := by decide +kernel
theorem dX12_added_34 : decode cX12_added 34 = .ok (.iastore, 1) := by decide +kernel
theorem dX12_added_35 : decode cX12_added 35 = .ok (.aload_n 0, 1) := by decide +kernel
theorem dX12_added_36 : decode cX12_added 36 = .ok (.getfield 20, 3) := by decide +kernel
theorem dX12_added_39 : decode cX12_added 39 = .ok (.aload_n 0, 1) := by decide +kernel
theorem dX12_added_40 : decode cX12_added 40 = .ok (.getfield 332, 3) := by decide +kernel
theorem dX12_added_43 : decode cX12_added 43 = .ok (.iconst 0, 1) := by decide +kernel
theorem dX12_added_44 : decode cX12_added 44 = .ok (.iastore, 1) := by decide +kernel
theorem dX12_added_45 : decode cX12_added 45 = .ok (.aload_n 0, 1) := by decide +kernel
theorem dX12_added_46 : decode cX12_added 46 = .ok (.getfield 23, 3) := by decide +kernel
theorem dX12_added_49 : decode cX12_added 49 = .ok (.aload_n 0, 1) := by decide +kernel
theorem dX12_added_50 : decode cX12_added 50 = .ok (.getfield 332, 3) := by decide +kernel
theorem dX12_added_53 : decode cX12_added 53 = .ok (.iload_n 1, 1) := by decide +kernel
theorem dX12_added_54 : decode cX12_added 54 = .ok (.ifCond .ge 7, 3) := by decide +kernel
theorem dX12_added_57 : decode cX12_added 57 = .ok (.iconst 0, 1) := by decide +kernel
theorem dX12_added_58 : decode cX12_added 58 = .ok (.goto 35, 3) := by decide +kernel
theorem dX12_added_61 : decode cX12_added 61 = .ok (.iconst 1, 1) := by decide +kernel
theorem dX12_added_62 : decode cX12_added 62 = .ok (.aload_n 0, 1) := by decide +kernel
theorem dX12_added_63 : decode cX12_added 63 = .ok (.getfield 23, 3) := by decide +kernel
theorem dX12_added_66 : decode cX12_added 66 = .ok (.iload_n 1, 1) := by decide +kernel
theorem dX12_added_67 : decode cX12_added 67 = .ok (.iaload, 1) := by decide +kernel
theorem dX12_added_68 : decode cX12_added 68 = .ok (.aload_n 0, 1) := by decide +kernel
theorem dX12_added_69 : decode cX12_added 69 = .ok (.getfield 23, 3) := by decide +kernel
theorem dX12_added_72 : decode cX12_added 72 = .ok (.iload_n 2, 1) := by decide +kernel
theorem dX12_added_73 : decode cX12_added 73 = .ok (.iaload, 1) := by decide +kernel
theorem dX12_added_74 : decode cX12_added 74 = .ok (.if_icmp .le 12, 3) := by decide +kernel
theorem dX12_added_77 : decode cX12_added 77 = .ok (.aload_n 0, 1) := by decide +kernel
theorem dX12_added_78 : decode cX12_added 78 = .ok (.getfield 23, 3) := by decide +kernel
theorem dX12_added_81 : decode cX12_added 81 = .ok (.iload_n 1, 1) := by decide +kernel
theorem dX12_added_82 : decode cX12_added 82 = .ok (.iaload, 1) := by decide +kernel
theorem dX12_added_83 : decode cX12_added 83 = .ok (.goto 9, 3) := by decide +kernel
theorem dX12_added_86 : decode cX12_added 86 = .ok (.aload_n 0, 1) := by decide +kernel
theorem dX12_added_87 : decode cX12_added 87 = .ok (.getfield 23, 3) := by decide +kernel
theorem dX12_added_90 : decode cX12_added 90 = .ok (.iload_n 2, 1) := by decide +kernel
theorem dX12_added_91 : decode cX12_added 91 = .ok (.iaload, 1) := by decide +kernel
theorem dX12_added_92 : decode cX12_added 92 = .ok (.iadd, 1) := by decide +kernel
theorem dX12_added_93 : decode cX12_added 93 = .ok (.iastore, 1) := by decide +kernel
theorem dX12_added_94 : decode cX12_added 94 = .ok (.aload_n 0, 1) := by decide +kernel
theorem dX12_added_95 : decode cX12_added 95 = .ok (.getfield 31, 3) := by decide +kernel
theorem dX12_added_98 : decode cX12_added 98 = .ok (.iload_n 3, 1) := by decide +kernel
theorem dX12_added_99 : decode cX12_added 99 = .ok (.aload_n 0, 1) := by decide +kernel
theorem dX12_added_100 : decode cX12_added 100 = .ok (.getfield 332, 3) := by decide +kernel
theorem dX12_added_103 : decode cX12_added 103 = .ok (.iastore, 1) := by decide +kernel
theorem dX12_added_104 : decode cX12_added 104 = .ok (.aload_n 0, 1) := by decide +kernel
theorem dX12_added_105 : decode cX12_added 105 = .ok (.dup, 1) := by decide +kernel
theorem dX12_added_106 : decode cX12_added 106 = .ok (.getfield 332, 3) := by decide +kernel
theorem dX12_added_109 : decode cX12_added 109 = .ok (.iconst 1, 1) := by decide +kernel
theorem dX12_added_110 : decode cX12_added 110 = .ok (.iadd, 1) := by decide +kernel
theorem dX12_added_111 : decode cX12_added 111 = .ok (.putfield 332, 3) := by decide +kernel
theorem dX12_added_114 : decode cX12_added 114 = .ok (.aload_n 0, 1) := by decide +kernel
theorem dX12_added_115 : decode cX12_added 115 = .ok (.getfield 332, 3) := by decide +kernel
theorem dX12_added_118 : decode cX12_added 118 = .ok (.iconst 1, 1) := by decide +kernel
theorem dX12_added_119 : decode cX12_added 119 = .ok (.isub, 1) := by decide +kernel
theorem dX12_added_120 : decode cX12_added 120 = .ok (.ireturn, 1) := by decide +kernel
theorem dX12_isWord_0 : decode cX12_isWord 0 = .ok (.aload_n 0, 1) := by decide +kernel
theorem dX12_isWord_1 : decode cX12_isWord 1 = .ok (.getfield 38, 3) := by decide +kernel
theorem dX12_isWord_4 : decode cX12_isWord 4 = .ok (.iload_n 1, 1) := by decide +kernel
theorem dX12_isWord_5 : decode cX12_isWord 5 = .ok (.iaload, 1) := by decide +kernel
theorem dX12_isWord_6 : decode cX12_isWord 6 = .ok (.aload_n 0, 1) := by decide +kernel
theorem dX12_isWord_7 : decode cX12_isWord 7 = .ok (.getfield 309, 3) := by decide +kernel
theorem dX12_isWord_10 : decode cX12_isWord 10 = .ok (.if_icmp .ne 7, 3) := by decide +kernel
theorem dX12_isWord_13 : decode cX12_isWord 13 = .ok (.iconst 1, 1) := by decide +kernel
theorem dX12_isWord_14 : decode cX12_isWord 14 = .ok (.goto 4, 3) := by decide +kernel
theorem dX12_isWord_17 : decode cX12_isWord 17 = .ok (.iconst 0, 1) := by decide +kernel
theorem dX12_isWord_18 : decode cX12_isWord 18 = .ok (.istore_n 2, 1) := by decide +kernel
theorem dX12_isWord_19 : decode cX12_isWord 19 = .ok (.iconst 0, 1) := by decide +kernel
theorem dX12_isWord_20 : decode cX12_isWord 20 = .ok (.istore_n 3, 1) := by decide +kernel
theorem dX12_isWord_21 : decode cX12_isWord 21 = .ok (.iload_n 3, 1) := by decide +kernel
theorem dX12_isWord_22 : decode cX12_isWord 22 = .ok (.aload_n 0, 1) := by decide +kernel
theorem dX12_isWord_23 : decode cX12_isWord 23 = .ok (.getfield 309, 3) := by decide +kernel
theorem dX12_isWord_26 : decode cX12_isWord 26 = .ok (.if_icmp .ge 39, 3) := by decide +kernel
theorem dX12_isWord_29 : decode cX12_isWord 29 = .ok (.iload_n 2, 1) := by decide +kernel
theorem dX12_isWord_30 : decode cX12_isWord 30 = .ok (.ifCond .eq 35, 3) := by decide +kernel
theorem dX12_isWord_33 : decode cX12_isWord 33 = .ok (.aload_n 0, 1) := by decide +kernel
theorem dX12_isWord_34 : decode cX12_isWord 34 = .ok (.getfield 35, 3) := by decide +kernel
theorem dX12_isWord_37 : decode cX12_isWord 37 = .ok (.bipush 12, 2) := by decide +kernel
theorem dX12_isWord_39 : decode cX12_isWord 39 = .ok (.iload_n 1, 1) := by decide +kernel
theorem dX12_isWord_40 : decode cX12_isWord 40 = .ok (.imul, 1) := by decide +kernel
theorem dX12_isWord_41 : decode cX12_isWord 41 = .ok (.iload_n 3, 1) := by decide +kernel
theorem dX12_isWord_42 : decode cX12_isWord 42 = .ok (.iadd, 1) := by decide +kernel
theorem dX12_isWord_43 : decode cX12_isWord 43 = .ok (.iaload, 1) := by decide +kernel
theorem dX12_isWord_44 : decode cX12_isWord 44 = .ok (.aload_n 0, 1) := by decide +kernel
theorem dX12_isWord_45 : decode cX12_isWord 45 = .ok (.getfield 50, 3) := by decide +kernel
theorem dX12_isWord_48 : decode cX12_isWord 48 = .ok (.iload_n 3, 1) := by decide +kernel
theorem dX12_isWord_49 : decode cX12_isWord 49 = .ok (.iaload, 1) := by decide +kernel
theorem dX12_isWord_50 : decode cX12_isWord 50 = .ok (.if_icmp .ne 7, 3) := by decide +kernel
theorem dX12_isWord_53 : decode cX12_isWord 53 = .ok (.iconst 1, 1) := by decide +kernel
theorem dX12_isWord_54 : decode cX12_isWord 54 = .ok (.goto 4, 3) := by decide +kernel
theorem dX12_isWord_57 : decode cX12_isWord 57 = .ok (.iconst 0, 1) := by decide +kernel
theorem dX12_isWord_58 : decode cX12_isWord 58 = .ok (.istore_n 2, 1) := by decide +kernel
theorem dX12_isWord_59 : decode cX12_isWord 59 = .ok (.iinc 3 1, 3) := by decide +kernel
theorem dX12_isWord_62 : decode cX12_isWord 62 = .ok (.goto (-41), 3) := by decide +kernel
theorem dX12_isWord_65 : decode cX12_isWord 65 = .ok (.iload_n 2, 1) := by decide +kernel
theorem dX12_isWord_66 : decode cX12_isWord 66 = .ok (.ireturn, 1) := by decide +kernel
set_option maxRecDepth 20000 in
theorem ggX12_symbol_X12_spelled : GoodIn wsX12_symbol wsX12_spelled := goodIn_r _ [14, 9, 8, 26, 27, 28, 29, 30, 31, 32, 33, 34, 35, 36, 37, 38, 39, 40, 41, 42, 43, 44, 45, 46, 47, 48, 49, 50, 51, 52, 53, 54, 55, 56, 57, 58, 59, 60, 61, 62, 63, 64, 65, 66, 67, 68, 69, 70, 71, 72, 73, 74, 75, 76, 77, 78, 79, 80, 81, 82, 83, 84, 85, 86, 87, 88, 89, 90, 91, 92, 93, 94, 95, 96, 97, 98, 99, 100, 101, 102, 103, 104, 105, 106, 107, 108, 109, 110, 111, 112, 113, 114, 115, 116, 117, 118, 119, 120, 121, 122, 123, 124, 125, 126, 127, 128, 129, 130, 131, 132, 133, 134, 135, 136, 137, 138, 139, 140, 141, 142, 143, 144, 145, 146, 147, 148, 149, 150, 151, 152, 153, 154, 155, 156, 157, 158, 159, 160, 161, 162, 163, 164, 165, 166, 167, 168, 169, 170, 171, 172, 173, 174] (by decide +kernel) (by decide +kernel)
set_option maxRecDepth 20000 in
theorem gX12_symbol_X12_spelled : GoodIn wsX12_symbol (wsV RX12 328 RX12 yX12_spelled wsX12_spelled) := goodIn_app (goodIn_of _ (by decide +kernel)) ggX12_symbol_X12_spelled
set_option maxRecDepth 20000 in
theorem ggX12_symbol_X12_isWord : GoodIn wsX12_symbol wsX12_isWord := goodIn_r _ [18, 6, 1, 8, 9, 26, 27, 28, 29, 30, 31, 32, 33, 34, 35, 36, 37, 38, 39, 40, 41, 42, 43, 44, 45, 46, 47, 48, 49, 50, 51, 52, 53, 54, 55, 56, 57, 58, 59, 60, 61, 62, 63, 64, 65, 66, 67, 68, 69, 70, 71, 72, 73, 74, 75, 76, 77, 78, 79, 80, 81, 82, 83, 84, 85, 86, 87, 88, 89, 90, 91, 92, 93, 94, 95, 96, 97, 98, 99, 100, 101, 102, 103, 104, 105, 106, 107, 108, 109, 110, 111, 112, 113, 114, 115, 116, 117, 118, 119, 120, 121, 122, 123, 124, 125, 126, 127, 128, 129, 130, 131, 132, 133, 134, 135, 136, 137, 138, 139, 140, 141, 142, 143, 144, 145, 146, 147, 148, 149, 150, 151, 152, 153, 154, 155, 156, 157, 158, 159, 160, 161, 162, 163, 164, 165, 166, 167, 168, 169, 170, 171, 172, 173, 174] (by decide +kernel) (by decide +kernel)
set_option maxRecDepth 20000 in
theorem gX12_symbol_X12_isWord : GoodIn wsX12_symbol (wsV RX12 342 RX12 yX12_isWord wsX12_isWord) := goodIn_app (goodIn_of _ (by decide +kernel)) ggX12_symbol_X12_isWord
set_option maxRecDepth 20000 in
theorem ggX12_symbol_X12_added : GoodIn wsX12_symbol wsX12_added := goodIn_r _ [22, 3, 23, 4, 5, 2, 24, 25, 26, 27, 28, 29, 30, 31, 32, 33, 34, 35, 36, 37, 38, 39, 40, 41, 42, 43, 44, 45, 46, 47, 48, 49, 50, 51, 52, 53, 54, 55, 56, 57, 58, 59, 60, 61, 62, 63, 64, 65, 66, 67, 68, 69, 70, 71, 72, 73, 74, 75, 76, 77, 78, 79, 80, 81, 82, 83, 84, 85, 86, 87, 88, 89, 90, 91, 92, 93, 94, 95, 96, 97, 98, 99, 100, 101, 102, 103, 104, 105, 106, 107, 108, 109, 110, 111, 112, 113, 114, 115, 116, 117, 118, 119, 120, 121, 122, 123, 124, 125, 126, 127, 128, 129, 130, 131, 132, 133, 134, 135, 136, 137, 138, 139, 140, 141, 142, 143, 144, 145, 146, 147, 148, 149, 150, 151, 152, 153, 154, 155, 156, 157, 158, 159, 160, 161, 162, 163, 164, 165, 166, 167, 168, 169, 170, 171, 172, 173, 174] (by decide +kernel) (by decide +kernel)
set_option maxRecDepth 20000 in
theorem gX12_symbol_X12_added : GoodIn wsX12_symbol (wsV RX12 335 RX12 yX12_added wsX12_added) := goodIn_app (goodIn_of _ (by decide +kernel)) ggX12_symbol_X12_added
theorem dX12_symbol_0 : decode cX12_symbol 0 = .ok (.aload_n 0, 1) := by decide +kernel
theorem dX12_symbol_1 : decode cX12_symbol 1 = .ok (.iconst 0, 1) := by decide +kernel
theorem dX12_symbol_2 : decode cX12_symbol 2 = .ok (.aload_n 0, 1) := by decide +kernel
theorem dX12_symbol_3 : decode cX12_symbol 3 = .ok (.getfield 309, 3) := by decide +kernel
theorem dX12_symbol_6 : decode cX12_symbol 6 = .ok (.iconst 1, 1) := by decide +kernel
theorem dX12_symbol_7 : decode cX12_symbol 7 = .ok (.invokevirtual 328, 3) := by decide +kernel
theorem dX12_symbol_10 : decode cX12_symbol 10 = .ok (.istore_n 1, 1) := by decide +kernel
theorem dX12_symbol_11 : decode cX12_symbol 11 = .ok (.aload_n 0, 1) := by decide +kernel
theorem dX12_symbol_12 : decode cX12_symbol 12 = .ok (.getfield 31, 3) := by decide +kernel
theorem dX12_symbol_15 : decode cX12_symbol 15 = .ok (.iload_n 1, 1) := by decide +kernel
theorem dX12_symbol_16 : decode cX12_symbol 16 = .ok (.iaload, 1) := by decide +kernel
theorem dX12_symbol_17 : decode cX12_symbol 17 = .ok (.istore_n 2, 1) := by decide +kernel
theorem dX12_symbol_18 : decode cX12_symbol 18 = .ok (.iload_n 2, 1) := by decide +kernel
theorem dX12_symbol_19 : decode cX12_symbol 19 = .ok (.iconst (-1), 1) := by decide +kernel
theorem dX12_symbol_20 : decode cX12_symbol 20 = .ok (.if_icmp .eq 39, 3) := by decide +kernel
theorem dX12_symbol_23 : decode cX12_symbol 23 = .ok (.aload_n 0, 1) := by decide +kernel
theorem dX12_symbol_24 : decode cX12_symbol 24 = .ok (.getfield 8, 3) := by decide +kernel
theorem dX12_symbol_27 : decode cX12_symbol 27 = .ok (.iload_n 2, 1) := by decide +kernel
theorem dX12_symbol_28 : decode cX12_symbol 28 = .ok (.iaload, 1) := by decide +kernel
theorem dX12_symbol_29 : decode cX12_symbol 29 = .ok (.bipush (-2), 2) := by decide +kernel
theorem dX12_symbol_31 : decode cX12_symbol 31 = .ok (.if_icmp .ne 18, 3) := by decide +kernel
theorem dX12_symbol_34 : decode cX12_symbol 34 = .ok (.aload_n 0, 1) := by decide +kernel
theorem dX12_symbol_35 : decode cX12_symbol 35 = .ok (.aload_n 0, 1) := by decide +kernel
theorem dX12_symbol_36 : decode cX12_symbol 36 = .ok (.getfield 14, 3) := by decide +kernel
theorem dX12_symbol_39 : decode cX12_symbol 39 = .ok (.iload_n 2, 1) := by decide +kernel
theorem dX12_symbol_40 : decode cX12_symbol 40 = .ok (.iaload, 1) := by decide +kernel
theorem dX12_symbol_41 : decode cX12_symbol 41 = .ok (.invokevirtual 342, 3) := by decide +kernel
theorem dX12_symbol_44 : decode cX12_symbol 44 = .ok (.ifCond .eq 5, 3) := by decide +kernel
theorem dX12_symbol_47 : decode cX12_symbol 47 = .ok (.iload_n 2, 1) := by decide +kernel
theorem dX12_symbol_48 : decode cX12_symbol 48 = .ok (.ireturn, 1) := by decide +kernel
theorem dX12_symbol_49 : decode cX12_symbol 49 = .ok (.aload_n 0, 1) := by decide +kernel
theorem dX12_symbol_50 : decode cX12_symbol 50 = .ok (.getfield 17, 3) := by decide +kernel
theorem dX12_symbol_53 : decode cX12_symbol 53 = .ok (.iload_n 2, 1) := by decide +kernel
theorem dX12_symbol_54 : decode cX12_symbol 54 = .ok (.iaload, 1) := by decide +kernel
theorem dX12_symbol_55 : decode cX12_symbol 55 = .ok (.istore_n 2, 1) := by decide +kernel
theorem dX12_symbol_56 : decode cX12_symbol 56 = .ok (.goto (-38), 3) := by decide +kernel
theorem dX12_symbol_59 : decode cX12_symbol 59 = .ok (.aload_n 0, 1) := by decide +kernel
theorem dX12_symbol_60 : decode cX12_symbol 60 = .ok (.getfield 38, 3) := by decide +kernel
theorem dX12_symbol_63 : decode cX12_symbol 63 = .ok (.aload_n 0, 1) := by decide +kernel
theorem dX12_symbol_64 : decode cX12_symbol 64 = .ok (.getfield 346, 3) := by decide +kernel
theorem dX12_symbol_67 : decode cX12_symbol 67 = .ok (.aload_n 0, 1) := by decide +kernel
theorem dX12_symbol_68 : decode cX12_symbol 68 = .ok (.getfield 309, 3) := by decide +kernel
theorem dX12_symbol_71 : decode cX12_symbol 71 = .ok (.iastore, 1) := by decide +kernel
theorem dX12_symbol_72 : decode cX12_symbol 72 = .ok (.iconst 0, 1) := by decide +kernel
theorem dX12_symbol_73 : decode cX12_symbol 73 = .ok (.istore_n 2, 1) := by decide +kernel
theorem dX12_symbol_74 : decode cX12_symbol 74 = .ok (.iload_n 2, 1) := by decide +kernel
theorem dX12_symbol_75 : decode cX12_symbol 75 = .ok (.aload_n 0, 1) := by decide +kernel
theorem dX12_symbol_76 : decode cX12_symbol 76 = .ok (.getfield 309, 3) := by decide +kernel
theorem dX12_symbol_79 : decode cX12_symbol 79 = .ok (.if_icmp .ge 29, 3) := by decide +kernel
theorem dX12_symbol_82 : decode cX12_symbol 82 = .ok (.aload_n 0, 1) := by decide +kernel
theorem dX12_symbol_83 : decode cX12_symbol 83 = .ok (.getfield 35, 3) := by decide +kernel
theorem dX12_symbol_86 : decode cX12_symbol 86 = .ok (.bipush 12, 2) := by decide +kernel
theorem dX12_symbol_88 : decode cX12_symbol 88 = .ok (.aload_n 0, 1) := by decide +kernel
theorem dX12_symbol_89 : decode cX12_symbol 89 = .ok (.getfield 346, 3) := by decide +kernel
theorem dX12_symbol_92 : decode cX12_symbol 92 = .ok (.imul, 1) := by decide +kernel
theorem dX12_symbol_93 : decode cX12_symbol 93 = .ok (.iload_n 2, 1) := by decide +kernel
theorem dX12_symbol_94 : decode cX12_symbol 94 = .ok (.iadd, 1) := by decide +kernel
theorem dX12_symbol_95 : decode cX12_symbol 95 = .ok (.aload_n 0, 1) := by decide +kernel
theorem dX12_symbol_96 : decode cX12_symbol 96 = .ok (.getfield 50, 3) := by decide +kernel
theorem dX12_symbol_99 : decode cX12_symbol 99 = .ok (.iload_n 2, 1) := by decide +kernel
theorem dX12_symbol_100 : decode cX12_symbol 100 = .ok (.iaload, 1) := by decide +kernel
theorem dX12_symbol_101 : decode cX12_symbol 101 = .ok (.iastore, 1) := by decide +kernel
theorem dX12_symbol_102 : decode cX12_symbol 102 = .ok (.iinc 2 1, 3) := by decide +kernel
theorem dX12_symbol_105 : decode cX12_symbol 105 = .ok (.goto (-31), 3) := by decide +kernel
theorem dX12_symbol_108 : decode cX12_symbol 108 = .ok (.aload_n 0, 1) := by decide +kernel
theorem dX12_symbol_109 : decode cX12_symbol 109 = .ok (.dup, 1) := by decide +kernel
theorem dX12_symbol_110 : decode cX12_symbol 110 = .ok (.getfield 346, 3) := by decide +kernel
theorem dX12_symbol_113 : decode cX12_symbol 113 = .ok (.iconst 1, 1) := by decide +kernel
theorem dX12_symbol_114 : decode cX12_symbol 114 = .ok (.iadd, 1) := by decide +kernel
theorem dX12_symbol_115 : decode cX12_symbol 115 = .ok (.putfield 346, 3) := by decide +kernel
theorem dX12_symbol_118 : decode cX12_symbol 118 = .ok (.aload_n 0, 1) := by decide +kernel
theorem dX12_symbol_119 : decode cX12_symbol 119 = .ok (.bipush (-2), 2) := by decide +kernel
theorem dX12_symbol_121 : decode cX12_symbol 121 = .ok (.aload_n 0, 1) := by decide +kernel
theorem dX12_symbol_122 : decode cX12_symbol 122 = .ok (.getfield 346, 3) := by decide +kernel
theorem dX12_symbol_125 : decode cX12_symbol 125 = .ok (.iconst 1, 1) := by decide +kernel
theorem dX12_symbol_126 : decode cX12_symbol 126 = .ok (.isub, 1) := by decide +kernel
theorem dX12_symbol_127 : decode cX12_symbol 127 = .ok (.iload_n 1, 1) := by decide +kernel
theorem dX12_symbol_128 : decode cX12_symbol 128 = .ok (.invokevirtual 335, 3) := by decide +kernel
theorem dX12_symbol_131 : decode cX12_symbol 131 = .ok (.ireturn, 1) := by decide +kernel
theorem dX12_isPair_0 : decode cX12_isPair 0 = .ok (.aload_n 0, 1) := by decide +kernel
theorem dX12_isPair_1 : decode cX12_isPair 1 = .ok (.getfield 8, 3) := by decide +kernel
theorem dX12_isPair_4 : decode cX12_isPair 4 = .ok (.iload_n 1, 1) := by decide +kernel
theorem dX12_isPair_5 : decode cX12_isPair 5 = .ok (.iaload, 1) := by decide +kernel
theorem dX12_isPair_6 : decode cX12_isPair 6 = .ok (.ifCond .lt 7, 3) := by decide +kernel
theorem dX12_isPair_9 : decode cX12_isPair 9 = .ok (.iconst 1, 1) := by decide +kernel
theorem dX12_isPair_10 : decode cX12_isPair 10 = .ok (.goto 4, 3) := by decide +kernel
theorem dX12_isPair_13 : decode cX12_isPair 13 = .ok (.iconst 0, 1) := by decide +kernel
theorem dX12_isPair_14 : decode cX12_isPair 14 = .ok (.ireturn, 1) := by decide +kernel
theorem dX12_isNatural_0 : decode cX12_isNatural 0 = .ok (.aload_n 0, 1) := by decide +kernel
theorem dX12_isNatural_1 : decode cX12_isNatural 1 = .ok (.getfield 8, 3) := by decide +kernel
theorem dX12_isNatural_4 : decode cX12_isNatural 4 = .ok (.iload_n 1, 1) := by decide +kernel
theorem dX12_isNatural_5 : decode cX12_isNatural 5 = .ok (.iaload, 1) := by decide +kernel
theorem dX12_isNatural_6 : decode cX12_isNatural 6 = .ok (.iconst (-1), 1) := by decide +kernel
theorem dX12_isNatural_7 : decode cX12_isNatural 7 = .ok (.if_icmp .ne 7, 3) := by decide +kernel
theorem dX12_isNatural_10 : decode cX12_isNatural 10 = .ok (.iconst 1, 1) := by decide +kernel
theorem dX12_isNatural_11 : decode cX12_isNatural 11 = .ok (.goto 4, 3) := by decide +kernel
theorem dX12_isNatural_14 : decode cX12_isNatural 14 = .ok (.iconst 0, 1) := by decide +kernel
theorem dX12_isNatural_15 : decode cX12_isNatural 15 = .ok (.ireturn, 1) := by decide +kernel
theorem dX12_isSymbol_0 : decode cX12_isSymbol 0 = .ok (.aload_n 0, 1) := by decide +kernel
theorem dX12_isSymbol_1 : decode cX12_isSymbol 1 = .ok (.getfield 8, 3) := by decide +kernel
theorem dX12_isSymbol_4 : decode cX12_isSymbol 4 = .ok (.iload_n 1, 1) := by decide +kernel
theorem dX12_isSymbol_5 : decode cX12_isSymbol 5 = .ok (.iaload, 1) := by decide +kernel
theorem dX12_isSymbol_6 : decode cX12_isSymbol 6 = .ok (.bipush (-2), 2) := by decide +kernel
theorem dX12_isSymbol_8 : decode cX12_isSymbol 8 = .ok (.if_icmp .ne 7, 3) := by decide +kernel
theorem dX12_isSymbol_11 : decode cX12_isSymbol 11 = .ok (.iconst 1, 1) := by decide +kernel
theorem dX12_isSymbol_12 : decode cX12_isSymbol 12 = .ok (.goto 4, 3) := by decide +kernel
theorem dX12_isSymbol_15 : decode cX12_isSymbol 15 = .ok (.iconst 0, 1) := by decide +kernel
theorem dX12_isSymbol_16 : decode cX12_isSymbol 16 = .ok (.ireturn, 1) := by decide +kernel
abbrev vwCl : List vw_C := [(RX0, TX0, 21), (RX1, TX1, 4), (RX2, TX2, 15), (RX3, TX3, 11), (RX4, TX4, 11), (RX5, TX5, 11), (RX6, TX6, 14), (RX7, TX7, 9), (RX8, TX8, 11), (RX9, TX9, 4), (RX10, TX10, 16), (RX11, TX11, 21), (RX12, TX12, 149)]
end
section
abbrev pR_0 : Room := { frames := 0, cells := 0, slots := 0, locals := 0 }
/-! the reference's object: its numbers by the field's place, its rows by the field's place, its one row of longs -/
abbrev mST : Type := (Nat → Int32) × (Nat → Nat → Int32) × (Nat → Int64)
def mFs (ad : Nat → Nat) (u : mST) : List Value := [.ref (ad 0), .ref (ad 1), .ref (ad 2), .ref (ad 3), .ref (ad 4), .ref (ad 5), .int (u.1 6), .ref (ad 7), .int (u.1 8), .ref (ad 9), .ref (ad 10), .int (u.1 11), .ref (ad 12), .ref (ad 13), .int (u.1 14), .ref (ad 15), .int (u.1 16), .ref (ad 17), .int (u.1 18), .ref (ad 19), .int (u.1 20), .ref (ad 21), .int (u.1 22), .int (u.1 23), .int (u.1 24), .int (u.1 25), .ref (ad 26), .ref (ad 27), .ref (ad 28), .ref (ad 29), .int (u.1 30), .ref (ad 31), .int (u.1 32), .int (u.1 33), .int (u.1 34), .int (u.1 35), .ref (ad 36), .ref (ad 37), .ref (ad 38), .ref (ad 39), .ref (ad 40), .ref (ad 41), .int (u.1 42), .ref (ad 43), .ref (ad 44), .ref (ad 45), .ref (ad 46), .ref (ad 47), .ref (ad 48), .ref (ad 49), .ref (ad 50), .ref (ad 51), .ref (ad 52), .ref (ad 53), .int (u.1 54), .ref (ad 55), .ref (ad 56), .int (u.1 57), .int (u.1 58), .int (u.1 59), .int (u.1 60), .int (u.1 61), .int (u.1 62), .int (u.1 63), .int (u.1 64), .ref (ad 65), .ref (ad 66), .ref (ad 67), .ref (ad 68), .int (u.1 69), .ref (ad 70), .int (u.1 71), .ref (ad 72), .ref (ad 73), .int (u.1 74), .ref (ad 75), .int (u.1 76), .ref (ad 77), .int (u.1 78), .ref (ad 79), .ref (ad 80), .ref (ad 81), .ref (ad 82), .ref (ad 83), .ref (ad 84), .int (u.1 85), .ref (ad 86), .int (u.1 87), .int (u.1 88), .int (u.1 89), .int (u.1 90), .int (u.1 91), .ref (ad 92), .ref (ad 93), .ref (ad 94), .ref (ad 95), .ref (ad 96), .ref (ad 97), .ref (ad 98), .ref (ad 99), .ref (ad 100), .ref (ad 101), .int (u.1 102), .ref (ad 103), .int (u.1 104), .ref (ad 105), .ref (ad 106), .ref (ad 107), .ref (ad 108), .int (u.1 109), .int (u.1 110), .int (u.1 111), .ref (ad 112), .ref (ad 113), .ref (ad 114), .ref (ad 115), .ref (ad 116), .int (u.1 117), .ref (ad 118), .int (u.1 119), .ref (ad 120), .ref (ad 121), .int (u.1 122), .ref (ad 123), .ref (ad 124), .ref (ad 125), .int (u.1 126), .ref (ad 127), .ref (ad 128), .ref (ad 129), .ref (ad 130), .int (u.1 131), .int (u.1 132), .int (u.1 133), .int (u.1 134), .int (u.1 135), .int (u.1 136), .ref (ad 137), .ref (ad 138), .int (u.1 139), .ref (ad 140), .ref (ad 141), .ref (ad 142), .ref (ad 143), .int (u.1 144), .ref (ad 145), .ref (ad 146), .int (u.1 147), .int (u.1 148)]
def mCl (ca : Nat → ClassId) (h0 : Nat) (ad : Nat → Nat) (u : mST) : va_W := [(h0, .inr (12, mFs ad u)), (ad 0, .inl (ca 0, 452000, .inl (u.2.1 0))), (ad 1, .inl (ca 1, 452000, .inl (u.2.1 1))), (ad 2, .inl (ca 2, 452000, .inl (u.2.1 2))), (ad 3, .inl (ca 3, 452000, .inl (u.2.1 3))), (ad 4, .inl (ca 4, 452000, .inl (u.2.1 4))), (ad 5, .inl (ca 5, 40000, .inr (.inl u.2.2))), (ad 7, .inl (ca 7, 8192, .inl (u.2.1 7))), (ad 9, .inl (ca 9, 252000, .inl (u.2.1 9))), (ad 10, .inl (ca 10, 21000, .inl (u.2.1 10))), (ad 12, .inl (ca 12, 20, .inl (u.2.1 12))), (ad 13, .inl (ca 13, 3000, .inl (u.2.1 13))), (ad 15, .inl (ca 15, 2000, .inl (u.2.1 15))), (ad 17, .inl (ca 17, 12, .inl (u.2.1 17))), (ad 19, .inl (ca 19, 4000, .inl (u.2.1 19))), (ad 21, .inl (ca 21, 200, .inl (u.2.1 21))), (ad 26, .inl (ca 26, 40, .inl (u.2.1 26))), (ad 27, .inl (ca 27, 40, .inl (u.2.1 27))), (ad 28, .inl (ca 28, 40, .inl (u.2.1 28))), (ad 29, .inl (ca 29, 40, .inl (u.2.1 29))), (ad 31, .inl (ca 31, 1100, .inl (u.2.1 31))), (ad 36, .inl (ca 36, 40, .inl (u.2.1 36))), (ad 37, .inl (ca 37, 40, .inl (u.2.1 37))), (ad 38, .inl (ca 38, 240, .inl (u.2.1 38))), (ad 39, .inl (ca 39, 40, .inl (u.2.1 39))), (ad 40, .inl (ca 40, 40, .inl (u.2.1 40))), (ad 41, .inl (ca 41, 40, .inl (u.2.1 41))), (ad 43, .inl (ca 43, 60, .inl (u.2.1 43))), (ad 44, .inl (ca 44, 60, .inl (u.2.1 44))), (ad 45, .inl (ca 45, 60, .inl (u.2.1 45))), (ad 46, .inl (ca 46, 60, .inl (u.2.1 46))), (ad 47, .inl (ca 47, 60, .inl (u.2.1 47))), (ad 48, .inl (ca 48, 60, .inl (u.2.1 48))), (ad 49, .inl (ca 49, 7200, .inl (u.2.1 49))), (ad 50, .inl (ca 50, 60, .inl (u.2.1 50))), (ad 51, .inl (ca 51, 60, .inl (u.2.1 51))), (ad 52, .inl (ca 52, 60, .inl (u.2.1 52))), (ad 53, .inl (ca 53, 60, .inl (u.2.1 53))), (ad 55, .inl (ca 55, 100, .inl (u.2.1 55))), (ad 56, .inl (ca 56, 100, .inl (u.2.1 56))), (ad 65, .inl (ca 65, 200, .inl (u.2.1 65))), (ad 66, .inl (ca 66, 1200, .inl (u.2.1 66))), (ad 67, .inl (ca 67, 1200, .inl (u.2.1 67))), (ad 68, .inl (ca 68, 1200, .inl (u.2.1 68))), (ad 70, .inl (ca 70, 2400, .inl (u.2.1 70))), (ad 72, .inl (ca 72, 400, .inl (u.2.1 72))), (ad 73, .inl (ca 73, 400, .inl (u.2.1 73))), (ad 75, .inl (ca 75, 400, .inl (u.2.1 75))), (ad 77, .inl (ca 77, 130, .inl (u.2.1 77))), (ad 79, .inl (ca 79, 300, .inl (u.2.1 79))), (ad 80, .inl (ca 80, 300, .inl (u.2.1 80))), (ad 81, .inl (ca 81, 300, .inl (u.2.1 81))), (ad 82, .inl (ca 82, 300, .inl (u.2.1 82))), (ad 83, .inl (ca 83, 300, .inl (u.2.1 83))), (ad 84, .inl (ca 84, 300, .inl (u.2.1 84))), (ad 86, .inl (ca 86, 2400, .inl (u.2.1 86))), (ad 92, .inl (ca 92, 60, .inl (u.2.1 92))), (ad 93, .inl (ca 93, 60, .inl (u.2.1 93))), (ad 94, .inl (ca 94, 60, .inl (u.2.1 94))), (ad 95, .inl (ca 95, 60, .inl (u.2.1 95))), (ad 96, .inl (ca 96, 60, .inl (u.2.1 96))), (ad 97, .inl (ca 97, 60, .inl (u.2.1 97))), (ad 98, .inl (ca 98, 60, .inl (u.2.1 98))), (ad 99, .inl (ca 99, 60, .inl (u.2.1 99))), (ad 100, .inl (ca 100, 60, .inl (u.2.1 100))), (ad 101, .inl (ca 101, 60, .inl (u.2.1 101))), (ad 103, .inl (ca 103, 1200, .inl (u.2.1 103))), (ad 105, .inl (ca 105, 7800, .inl (u.2.1 105))), (ad 106, .inl (ca 106, 7800, .inl (u.2.1 106))), (ad 107, .inl (ca 107, 60, .inl (u.2.1 107))), (ad 108, .inl (ca 108, 200, .inl (u.2.1 108))), (ad 112, .inl (ca 112, 800, .inl (u.2.1 112))), (ad 113, .inl (ca 113, 800, .inl (u.2.1 113))), (ad 114, .inl (ca 114, 69000, .inl (u.2.1 114))), (ad 115, .inl (ca 115, 2300, .inl (u.2.1 115))), (ad 116, .inl (ca 116, 2300, .inl (u.2.1 116))), (ad 118, .inl (ca 118, 2300, .inl (u.2.1 118))), (ad 120, .inl (ca 120, 20, .inl (u.2.1 120))), (ad 121, .inl (ca 121, 1200, .inl (u.2.1 121))), (ad 123, .inl (ca 123, 128, .inl (u.2.1 123))), (ad 124, .inl (ca 124, 8192, .inl (u.2.1 124))), (ad 125, .inl (ca 125, 128, .inl (u.2.1 125))), (ad 127, .inl (ca 127, 128, .inl (u.2.1 127))), (ad 128, .inl (ca 128, 8192, .inl (u.2.1 128))), (ad 129, .inl (ca 129, 128, .inl (u.2.1 129))), (ad 130, .inl (ca 130, 130, .inl (u.2.1 130))), (ad 137, .inl (ca 137, 400, .inl (u.2.1 137))), (ad 138, .inl (ca 138, 400, .inl (u.2.1 138))), (ad 140, .inl (ca 140, 6, .inl (u.2.1 140))), (ad 141, .inl (ca 141, 40, .inl (u.2.1 141))), (ad 142, .inl (ca 142, 40, .inl (u.2.1 142))), (ad 143, .inl (ca 143, 40, .inl (u.2.1 143))), (ad 145, .inl (ca 145, 10500, .inl (u.2.1 145))), (ad 146, .inl (ca 146, 350, .inl (u.2.1 146)))]
def mTy (ca : Nat → ClassId) : List (ClassId × FieldType) := [(ca 0, .int), (ca 1, .int), (ca 2, .int), (ca 3, .int), (ca 4, .int), (ca 5, .long), (ca 7, .int), (ca 9, .int), (ca 10, .int), (ca 12, .int), (ca 13, .int), (ca 15, .int), (ca 17, .int), (ca 19, .int), (ca 21, .int), (ca 26, .int), (ca 27, .int), (ca 28, .int), (ca 29, .int), (ca 31, .int), (ca 36, .int), (ca 37, .int), (ca 38, .int), (ca 39, .int), (ca 40, .int), (ca 41, .boolean), (ca 43, .int), (ca 44, .int), (ca 45, .int), (ca 46, .int), (ca 47, .int), (ca 48, .int), (ca 49, .int), (ca 50, .boolean), (ca 51, .boolean), (ca 52, .boolean), (ca 53, .boolean), (ca 55, .int), (ca 56, .int), (ca 65, .int), (ca 66, .int), (ca 67, .int), (ca 68, .int), (ca 70, .int), (ca 72, .int), (ca 73, .int), (ca 75, .int), (ca 77, .int), (ca 79, .int), (ca 80, .int), (ca 81, .int), (ca 82, .int), (ca 83, .int), (ca 84, .boolean), (ca 86, .int), (ca 92, .int), (ca 93, .boolean), (ca 94, .int), (ca 95, .int), (ca 96, .int), (ca 97, .int), (ca 98, .int), (ca 99, .int), (ca 100, .int), (ca 101, .int), (ca 103, .int), (ca 105, .int), (ca 106, .int), (ca 107, .int), (ca 108, .int), (ca 112, .int), (ca 113, .int), (ca 114, .int), (ca 115, .int), (ca 116, .int), (ca 118, .int), (ca 120, .int), (ca 121, .int), (ca 123, .int), (ca 124, .int), (ca 125, .int), (ca 127, .int), (ca 128, .int), (ca 129, .int), (ca 130, .int), (ca 137, .int), (ca 138, .int), (ca 140, .int), (ca 141, .int), (ca 142, .int), (ca 143, .int), (ca 145, .int), (ca 146, .int)]
/-- a number becomes v -/
def mI (u : mST) (k : Nat) (v : Int32) : mST := (va_up u.1 k v, u.2.1, u.2.2)
/-- element i of a row becomes v -/
def mA (u : mST) (k i : Nat) (v : Int32) : mST := (u.1, va_up u.2.1 k (upd (u.2.1 k) i v), u.2.2)
abbrev mWd (D : va_G) (ca : Nat → ClassId) (A : Nat → Prop) (h0 : Nat) (ad : Nat → Nat) (u : mST) (t : State) : Prop := va_P D vwCl (mCl ca h0 ad u) t.heap ∧ va_K D vwCl (mTy ca) t ∧ va_D A (mCl ca h0 ad u)
theorem pl_free {A0 : Nat → Prop} {ws : va_W} {H0 H : Heap} {locs : List Loc} (hD : va_D A0 ws) (hS : va_S A0 H0 H locs) (hA : ∀ q, H0.size ≤ q → A0 q) : ∀ q, va_A ws H.size q → A0 q := by
  intro q h
  rcases h with ⟨k, e, hk⟩ | h
  · exact hD.2 k _ hk
  · exact hA q (Nat.le_trans hS.1 h)
theorem mH_0 {ca : Nat → ClassId} {h0 : Nat} {ad : Nat → Nat} {u : mST} : (mCl ca h0 ad u)[0]? = some (h0, .inr (12, mFs ad u)) := rfl
set_option maxRecDepth 100000 in
theorem mF_0 {ad : Nat → Nat} {u : mST} : (mFs ad u)[0]? = some (.ref (ad 0)) := rfl
set_option maxRecDepth 100000 in
theorem mG_0 {ca : Nat → ClassId} {h0 : Nat} {ad : Nat → Nat} {u : mST} : (mCl ca h0 ad u)[1]? = some (ad 0, .inl (ca 0, 452000, .inl (u.2.1 0))) := rfl
set_option maxRecDepth 100000 in
theorem mSA_0 {ca : Nat → ClassId} {h0 : Nat} {ad : Nat → Nat} {u : mST} {i : Nat} {x : Int32} : (mCl ca h0 ad u).set 1 (ad 0, .inl (ca 0, 452000, .inl (upd (u.2.1 0) i x))) = mCl ca h0 ad (mA u 0 i x) := rfl
set_option maxRecDepth 100000 in
theorem mF_1 {ad : Nat → Nat} {u : mST} : (mFs ad u)[1]? = some (.ref (ad 1)) := rfl
set_option maxRecDepth 100000 in
theorem mG_1 {ca : Nat → ClassId} {h0 : Nat} {ad : Nat → Nat} {u : mST} : (mCl ca h0 ad u)[2]? = some (ad 1, .inl (ca 1, 452000, .inl (u.2.1 1))) := rfl
set_option maxRecDepth 100000 in
theorem mSA_1 {ca : Nat → ClassId} {h0 : Nat} {ad : Nat → Nat} {u : mST} {i : Nat} {x : Int32} : (mCl ca h0 ad u).set 2 (ad 1, .inl (ca 1, 452000, .inl (upd (u.2.1 1) i x))) = mCl ca h0 ad (mA u 1 i x) := rfl
set_option maxRecDepth 100000 in
theorem mF_2 {ad : Nat → Nat} {u : mST} : (mFs ad u)[2]? = some (.ref (ad 2)) := rfl
set_option maxRecDepth 100000 in
theorem mG_2 {ca : Nat → ClassId} {h0 : Nat} {ad : Nat → Nat} {u : mST} : (mCl ca h0 ad u)[3]? = some (ad 2, .inl (ca 2, 452000, .inl (u.2.1 2))) := rfl
set_option maxRecDepth 100000 in
theorem mSA_2 {ca : Nat → ClassId} {h0 : Nat} {ad : Nat → Nat} {u : mST} {i : Nat} {x : Int32} : (mCl ca h0 ad u).set 3 (ad 2, .inl (ca 2, 452000, .inl (upd (u.2.1 2) i x))) = mCl ca h0 ad (mA u 2 i x) := rfl
set_option maxRecDepth 100000 in
theorem mF_3 {ad : Nat → Nat} {u : mST} : (mFs ad u)[3]? = some (.ref (ad 3)) := rfl
set_option maxRecDepth 100000 in
theorem mG_3 {ca : Nat → ClassId} {h0 : Nat} {ad : Nat → Nat} {u : mST} : (mCl ca h0 ad u)[4]? = some (ad 3, .inl (ca 3, 452000, .inl (u.2.1 3))) := rfl
set_option maxRecDepth 100000 in
theorem mSA_3 {ca : Nat → ClassId} {h0 : Nat} {ad : Nat → Nat} {u : mST} {i : Nat} {x : Int32} : (mCl ca h0 ad u).set 4 (ad 3, .inl (ca 3, 452000, .inl (upd (u.2.1 3) i x))) = mCl ca h0 ad (mA u 3 i x) := rfl
set_option maxRecDepth 100000 in
theorem mF_4 {ad : Nat → Nat} {u : mST} : (mFs ad u)[4]? = some (.ref (ad 4)) := rfl
set_option maxRecDepth 100000 in
theorem mG_4 {ca : Nat → ClassId} {h0 : Nat} {ad : Nat → Nat} {u : mST} : (mCl ca h0 ad u)[5]? = some (ad 4, .inl (ca 4, 452000, .inl (u.2.1 4))) := rfl
set_option maxRecDepth 100000 in
theorem mSA_4 {ca : Nat → ClassId} {h0 : Nat} {ad : Nat → Nat} {u : mST} {i : Nat} {x : Int32} : (mCl ca h0 ad u).set 5 (ad 4, .inl (ca 4, 452000, .inl (upd (u.2.1 4) i x))) = mCl ca h0 ad (mA u 4 i x) := rfl
set_option maxRecDepth 100000 in
theorem mF_5 {ad : Nat → Nat} {u : mST} : (mFs ad u)[5]? = some (.ref (ad 5)) := rfl
set_option maxRecDepth 100000 in
theorem mG_5 {ca : Nat → ClassId} {h0 : Nat} {ad : Nat → Nat} {u : mST} : (mCl ca h0 ad u)[6]? = some (ad 5, .inl (ca 5, 40000, .inr (.inl u.2.2))) := rfl
set_option maxRecDepth 100000 in
theorem mF_6 {ad : Nat → Nat} {u : mST} : (mFs ad u)[6]? = some (.int (u.1 6)) := rfl
set_option maxRecDepth 100000 in
theorem mSI_6 {ca : Nat → ClassId} {h0 : Nat} {ad : Nat → Nat} {u : mST} {x : Int32} : (mCl ca h0 ad u).set 0 (h0, .inr (12, (mFs ad u).set 6 (.int x))) = mCl ca h0 ad (mI u 6 x) := rfl
set_option maxRecDepth 100000 in
theorem mF_7 {ad : Nat → Nat} {u : mST} : (mFs ad u)[7]? = some (.ref (ad 7)) := rfl
set_option maxRecDepth 100000 in
theorem mG_7 {ca : Nat → ClassId} {h0 : Nat} {ad : Nat → Nat} {u : mST} : (mCl ca h0 ad u)[7]? = some (ad 7, .inl (ca 7, 8192, .inl (u.2.1 7))) := rfl
set_option maxRecDepth 100000 in
theorem mSA_7 {ca : Nat → ClassId} {h0 : Nat} {ad : Nat → Nat} {u : mST} {i : Nat} {x : Int32} : (mCl ca h0 ad u).set 7 (ad 7, .inl (ca 7, 8192, .inl (upd (u.2.1 7) i x))) = mCl ca h0 ad (mA u 7 i x) := rfl
set_option maxRecDepth 100000 in
theorem mF_8 {ad : Nat → Nat} {u : mST} : (mFs ad u)[8]? = some (.int (u.1 8)) := rfl
set_option maxRecDepth 100000 in
theorem mSI_8 {ca : Nat → ClassId} {h0 : Nat} {ad : Nat → Nat} {u : mST} {x : Int32} : (mCl ca h0 ad u).set 0 (h0, .inr (12, (mFs ad u).set 8 (.int x))) = mCl ca h0 ad (mI u 8 x) := rfl
set_option maxRecDepth 100000 in
theorem mF_9 {ad : Nat → Nat} {u : mST} : (mFs ad u)[9]? = some (.ref (ad 9)) := rfl
set_option maxRecDepth 100000 in
theorem mG_9 {ca : Nat → ClassId} {h0 : Nat} {ad : Nat → Nat} {u : mST} : (mCl ca h0 ad u)[8]? = some (ad 9, .inl (ca 9, 252000, .inl (u.2.1 9))) := rfl
set_option maxRecDepth 100000 in
theorem mSA_9 {ca : Nat → ClassId} {h0 : Nat} {ad : Nat → Nat} {u : mST} {i : Nat} {x : Int32} : (mCl ca h0 ad u).set 8 (ad 9, .inl (ca 9, 252000, .inl (upd (u.2.1 9) i x))) = mCl ca h0 ad (mA u 9 i x) := rfl
set_option maxRecDepth 100000 in
theorem mF_10 {ad : Nat → Nat} {u : mST} : (mFs ad u)[10]? = some (.ref (ad 10)) := rfl
set_option maxRecDepth 100000 in
theorem mG_10 {ca : Nat → ClassId} {h0 : Nat} {ad : Nat → Nat} {u : mST} : (mCl ca h0 ad u)[9]? = some (ad 10, .inl (ca 10, 21000, .inl (u.2.1 10))) := rfl
set_option maxRecDepth 100000 in
theorem mSA_10 {ca : Nat → ClassId} {h0 : Nat} {ad : Nat → Nat} {u : mST} {i : Nat} {x : Int32} : (mCl ca h0 ad u).set 9 (ad 10, .inl (ca 10, 21000, .inl (upd (u.2.1 10) i x))) = mCl ca h0 ad (mA u 10 i x) := rfl
set_option maxRecDepth 100000 in
theorem mF_11 {ad : Nat → Nat} {u : mST} : (mFs ad u)[11]? = some (.int (u.1 11)) := rfl
set_option maxRecDepth 100000 in
theorem mSI_11 {ca : Nat → ClassId} {h0 : Nat} {ad : Nat → Nat} {u : mST} {x : Int32} : (mCl ca h0 ad u).set 0 (h0, .inr (12, (mFs ad u).set 11 (.int x))) = mCl ca h0 ad (mI u 11 x) := rfl
set_option maxRecDepth 100000 in
theorem mF_12 {ad : Nat → Nat} {u : mST} : (mFs ad u)[12]? = some (.ref (ad 12)) := rfl
set_option maxRecDepth 100000 in
theorem mG_12 {ca : Nat → ClassId} {h0 : Nat} {ad : Nat → Nat} {u : mST} : (mCl ca h0 ad u)[10]? = some (ad 12, .inl (ca 12, 20, .inl (u.2.1 12))) := rfl
set_option maxRecDepth 100000 in
theorem mSA_12 {ca : Nat → ClassId} {h0 : Nat} {ad : Nat → Nat} {u : mST} {i : Nat} {x : Int32} : (mCl ca h0 ad u).set 10 (ad 12, .inl (ca 12, 20, .inl (upd (u.2.1 12) i x))) = mCl ca h0 ad (mA u 12 i x) := rfl
set_option maxRecDepth 100000 in
theorem mF_13 {ad : Nat → Nat} {u : mST} : (mFs ad u)[13]? = some (.ref (ad 13)) := rfl
set_option maxRecDepth 100000 in
theorem mG_13 {ca : Nat → ClassId} {h0 : Nat} {ad : Nat → Nat} {u : mST} : (mCl ca h0 ad u)[11]? = some (ad 13, .inl (ca 13, 3000, .inl (u.2.1 13))) := rfl
set_option maxRecDepth 100000 in
theorem mSA_13 {ca : Nat → ClassId} {h0 : Nat} {ad : Nat → Nat} {u : mST} {i : Nat} {x : Int32} : (mCl ca h0 ad u).set 11 (ad 13, .inl (ca 13, 3000, .inl (upd (u.2.1 13) i x))) = mCl ca h0 ad (mA u 13 i x) := rfl
set_option maxRecDepth 100000 in
theorem mF_14 {ad : Nat → Nat} {u : mST} : (mFs ad u)[14]? = some (.int (u.1 14)) := rfl
set_option maxRecDepth 100000 in
theorem mSI_14 {ca : Nat → ClassId} {h0 : Nat} {ad : Nat → Nat} {u : mST} {x : Int32} : (mCl ca h0 ad u).set 0 (h0, .inr (12, (mFs ad u).set 14 (.int x))) = mCl ca h0 ad (mI u 14 x) := rfl
set_option maxRecDepth 100000 in
theorem mF_15 {ad : Nat → Nat} {u : mST} : (mFs ad u)[15]? = some (.ref (ad 15)) := rfl
set_option maxRecDepth 100000 in
theorem mG_15 {ca : Nat → ClassId} {h0 : Nat} {ad : Nat → Nat} {u : mST} : (mCl ca h0 ad u)[12]? = some (ad 15, .inl (ca 15, 2000, .inl (u.2.1 15))) := rfl
set_option maxRecDepth 100000 in
theorem mSA_15 {ca : Nat → ClassId} {h0 : Nat} {ad : Nat → Nat} {u : mST} {i : Nat} {x : Int32} : (mCl ca h0 ad u).set 12 (ad 15, .inl (ca 15, 2000, .inl (upd (u.2.1 15) i x))) = mCl ca h0 ad (mA u 15 i x) := rfl
set_option maxRecDepth 100000 in
theorem mF_16 {ad : Nat → Nat} {u : mST} : (mFs ad u)[16]? = some (.int (u.1 16)) := rfl
set_option maxRecDepth 100000 in
theorem mSI_16 {ca : Nat → ClassId} {h0 : Nat} {ad : Nat → Nat} {u : mST} {x : Int32} : (mCl ca h0 ad u).set 0 (h0, .inr (12, (mFs ad u).set 16 (.int x))) = mCl ca h0 ad (mI u 16 x) := rfl
set_option maxRecDepth 100000 in
theorem mF_17 {ad : Nat → Nat} {u : mST} : (mFs ad u)[17]? = some (.ref (ad 17)) := rfl
set_option maxRecDepth 100000 in
theorem mG_17 {ca : Nat → ClassId} {h0 : Nat} {ad : Nat → Nat} {u : mST} : (mCl ca h0 ad u)[13]? = some (ad 17, .inl (ca 17, 12, .inl (u.2.1 17))) := rfl
set_option maxRecDepth 100000 in
theorem mSA_17 {ca : Nat → ClassId} {h0 : Nat} {ad : Nat → Nat} {u : mST} {i : Nat} {x : Int32} : (mCl ca h0 ad u).set 13 (ad 17, .inl (ca 17, 12, .inl (upd (u.2.1 17) i x))) = mCl ca h0 ad (mA u 17 i x) := rfl
set_option maxRecDepth 100000 in
theorem mF_18 {ad : Nat → Nat} {u : mST} : (mFs ad u)[18]? = some (.int (u.1 18)) := rfl
set_option maxRecDepth 100000 in
theorem mSI_18 {ca : Nat → ClassId} {h0 : Nat} {ad : Nat → Nat} {u : mST} {x : Int32} : (mCl ca h0 ad u).set 0 (h0, .inr (12, (mFs ad u).set 18 (.int x))) = mCl ca h0 ad (mI u 18 x) := rfl
set_option maxRecDepth 100000 in
theorem mF_19 {ad : Nat → Nat} {u : mST} : (mFs ad u)[19]? = some (.ref (ad 19)) := rfl
set_option maxRecDepth 100000 in
theorem mG_19 {ca : Nat → ClassId} {h0 : Nat} {ad : Nat → Nat} {u : mST} : (mCl ca h0 ad u)[14]? = some (ad 19, .inl (ca 19, 4000, .inl (u.2.1 19))) := rfl
set_option maxRecDepth 100000 in
theorem mSA_19 {ca : Nat → ClassId} {h0 : Nat} {ad : Nat → Nat} {u : mST} {i : Nat} {x : Int32} : (mCl ca h0 ad u).set 14 (ad 19, .inl (ca 19, 4000, .inl (upd (u.2.1 19) i x))) = mCl ca h0 ad (mA u 19 i x) := rfl
set_option maxRecDepth 100000 in
theorem mF_20 {ad : Nat → Nat} {u : mST} : (mFs ad u)[20]? = some (.int (u.1 20)) := rfl
set_option maxRecDepth 100000 in
theorem mSI_20 {ca : Nat → ClassId} {h0 : Nat} {ad : Nat → Nat} {u : mST} {x : Int32} : (mCl ca h0 ad u).set 0 (h0, .inr (12, (mFs ad u).set 20 (.int x))) = mCl ca h0 ad (mI u 20 x) := rfl
set_option maxRecDepth 100000 in
theorem mF_21 {ad : Nat → Nat} {u : mST} : (mFs ad u)[21]? = some (.ref (ad 21)) := rfl
set_option maxRecDepth 100000 in
theorem mG_21 {ca : Nat → ClassId} {h0 : Nat} {ad : Nat → Nat} {u : mST} : (mCl ca h0 ad u)[15]? = some (ad 21, .inl (ca 21, 200, .inl (u.2.1 21))) := rfl
set_option maxRecDepth 100000 in
theorem mSA_21 {ca : Nat → ClassId} {h0 : Nat} {ad : Nat → Nat} {u : mST} {i : Nat} {x : Int32} : (mCl ca h0 ad u).set 15 (ad 21, .inl (ca 21, 200, .inl (upd (u.2.1 21) i x))) = mCl ca h0 ad (mA u 21 i x) := rfl
set_option maxRecDepth 100000 in
theorem mF_22 {ad : Nat → Nat} {u : mST} : (mFs ad u)[22]? = some (.int (u.1 22)) := rfl
set_option maxRecDepth 100000 in
theorem mSI_22 {ca : Nat → ClassId} {h0 : Nat} {ad : Nat → Nat} {u : mST} {x : Int32} : (mCl ca h0 ad u).set 0 (h0, .inr (12, (mFs ad u).set 22 (.int x))) = mCl ca h0 ad (mI u 22 x) := rfl
set_option maxRecDepth 100000 in
theorem mF_23 {ad : Nat → Nat} {u : mST} : (mFs ad u)[23]? = some (.int (u.1 23)) := rfl
set_option maxRecDepth 100000 in
theorem mSI_23 {ca : Nat → ClassId} {h0 : Nat} {ad : Nat → Nat} {u : mST} {x : Int32} : (mCl ca h0 ad u).set 0 (h0, .inr (12, (mFs ad u).set 23 (.int x))) = mCl ca h0 ad (mI u 23 x) := rfl
set_option maxRecDepth 100000 in
theorem mF_24 {ad : Nat → Nat} {u : mST} : (mFs ad u)[24]? = some (.int (u.1 24)) := rfl
set_option maxRecDepth 100000 in
theorem mSI_24 {ca : Nat → ClassId} {h0 : Nat} {ad : Nat → Nat} {u : mST} {x : Int32} : (mCl ca h0 ad u).set 0 (h0, .inr (12, (mFs ad u).set 24 (.int x))) = mCl ca h0 ad (mI u 24 x) := rfl
set_option maxRecDepth 100000 in
theorem mF_25 {ad : Nat → Nat} {u : mST} : (mFs ad u)[25]? = some (.int (u.1 25)) := rfl
set_option maxRecDepth 100000 in
theorem mSI_25 {ca : Nat → ClassId} {h0 : Nat} {ad : Nat → Nat} {u : mST} {x : Int32} : (mCl ca h0 ad u).set 0 (h0, .inr (12, (mFs ad u).set 25 (.int x))) = mCl ca h0 ad (mI u 25 x) := rfl
set_option maxRecDepth 100000 in
theorem mF_26 {ad : Nat → Nat} {u : mST} : (mFs ad u)[26]? = some (.ref (ad 26)) := rfl
set_option maxRecDepth 100000 in
theorem mG_26 {ca : Nat → ClassId} {h0 : Nat} {ad : Nat → Nat} {u : mST} : (mCl ca h0 ad u)[16]? = some (ad 26, .inl (ca 26, 40, .inl (u.2.1 26))) := rfl
set_option maxRecDepth 100000 in
theorem mSA_26 {ca : Nat → ClassId} {h0 : Nat} {ad : Nat → Nat} {u : mST} {i : Nat} {x : Int32} : (mCl ca h0 ad u).set 16 (ad 26, .inl (ca 26, 40, .inl (upd (u.2.1 26) i x))) = mCl ca h0 ad (mA u 26 i x) := rfl
set_option maxRecDepth 100000 in
theorem mF_27 {ad : Nat → Nat} {u : mST} : (mFs ad u)[27]? = some (.ref (ad 27)) := rfl
set_option maxRecDepth 100000 in
theorem mG_27 {ca : Nat → ClassId} {h0 : Nat} {ad : Nat → Nat} {u : mST} : (mCl ca h0 ad u)[17]? = some (ad 27, .inl (ca 27, 40, .inl (u.2.1 27))) := rfl
set_option maxRecDepth 100000 in
theorem mSA_27 {ca : Nat → ClassId} {h0 : Nat} {ad : Nat → Nat} {u : mST} {i : Nat} {x : Int32} : (mCl ca h0 ad u).set 17 (ad 27, .inl (ca 27, 40, .inl (upd (u.2.1 27) i x))) = mCl ca h0 ad (mA u 27 i x) := rfl
set_option maxRecDepth 100000 in
theorem mF_28 {ad : Nat → Nat} {u : mST} : (mFs ad u)[28]? = some (.ref (ad 28)) := rfl
set_option maxRecDepth 100000 in
theorem mG_28 {ca : Nat → ClassId} {h0 : Nat} {ad : Nat → Nat} {u : mST} : (mCl ca h0 ad u)[18]? = some (ad 28, .inl (ca 28, 40, .inl (u.2.1 28))) := rfl
set_option maxRecDepth 100000 in
theorem mSA_28 {ca : Nat → ClassId} {h0 : Nat} {ad : Nat → Nat} {u : mST} {i : Nat} {x : Int32} : (mCl ca h0 ad u).set 18 (ad 28, .inl (ca 28, 40, .inl (upd (u.2.1 28) i x))) = mCl ca h0 ad (mA u 28 i x) := rfl
set_option maxRecDepth 100000 in
theorem mF_29 {ad : Nat → Nat} {u : mST} : (mFs ad u)[29]? = some (.ref (ad 29)) := rfl
set_option maxRecDepth 100000 in
theorem mG_29 {ca : Nat → ClassId} {h0 : Nat} {ad : Nat → Nat} {u : mST} : (mCl ca h0 ad u)[19]? = some (ad 29, .inl (ca 29, 40, .inl (u.2.1 29))) := rfl
set_option maxRecDepth 100000 in
theorem mSA_29 {ca : Nat → ClassId} {h0 : Nat} {ad : Nat → Nat} {u : mST} {i : Nat} {x : Int32} : (mCl ca h0 ad u).set 19 (ad 29, .inl (ca 29, 40, .inl (upd (u.2.1 29) i x))) = mCl ca h0 ad (mA u 29 i x) := rfl
set_option maxRecDepth 100000 in
theorem mF_30 {ad : Nat → Nat} {u : mST} : (mFs ad u)[30]? = some (.int (u.1 30)) := rfl
set_option maxRecDepth 100000 in
theorem mSI_30 {ca : Nat → ClassId} {h0 : Nat} {ad : Nat → Nat} {u : mST} {x : Int32} : (mCl ca h0 ad u).set 0 (h0, .inr (12, (mFs ad u).set 30 (.int x))) = mCl ca h0 ad (mI u 30 x) := rfl
set_option maxRecDepth 100000 in
theorem mF_31 {ad : Nat → Nat} {u : mST} : (mFs ad u)[31]? = some (.ref (ad 31)) := rfl
set_option maxRecDepth 100000 in
theorem mG_31 {ca : Nat → ClassId} {h0 : Nat} {ad : Nat → Nat} {u : mST} : (mCl ca h0 ad u)[20]? = some (ad 31, .inl (ca 31, 1100, .inl (u.2.1 31))) := rfl
set_option maxRecDepth 100000 in
theorem mSA_31 {ca : Nat → ClassId} {h0 : Nat} {ad : Nat → Nat} {u : mST} {i : Nat} {x : Int32} : (mCl ca h0 ad u).set 20 (ad 31, .inl (ca 31, 1100, .inl (upd (u.2.1 31) i x))) = mCl ca h0 ad (mA u 31 i x) := rfl
set_option maxRecDepth 100000 in
theorem mF_32 {ad : Nat → Nat} {u : mST} : (mFs ad u)[32]? = some (.int (u.1 32)) := rfl
set_option maxRecDepth 100000 in
theorem mSI_32 {ca : Nat → ClassId} {h0 : Nat} {ad : Nat → Nat} {u : mST} {x : Int32} : (mCl ca h0 ad u).set 0 (h0, .inr (12, (mFs ad u).set 32 (.int x))) = mCl ca h0 ad (mI u 32 x) := rfl
set_option maxRecDepth 100000 in
theorem mF_33 {ad : Nat → Nat} {u : mST} : (mFs ad u)[33]? = some (.int (u.1 33)) := rfl
set_option maxRecDepth 100000 in
theorem mSI_33 {ca : Nat → ClassId} {h0 : Nat} {ad : Nat → Nat} {u : mST} {x : Int32} : (mCl ca h0 ad u).set 0 (h0, .inr (12, (mFs ad u).set 33 (.int x))) = mCl ca h0 ad (mI u 33 x) := rfl
set_option maxRecDepth 100000 in
theorem mF_34 {ad : Nat → Nat} {u : mST} : (mFs ad u)[34]? = some (.int (u.1 34)) := rfl
set_option maxRecDepth 100000 in
theorem mSI_34 {ca : Nat → ClassId} {h0 : Nat} {ad : Nat → Nat} {u : mST} {x : Int32} : (mCl ca h0 ad u).set 0 (h0, .inr (12, (mFs ad u).set 34 (.int x))) = mCl ca h0 ad (mI u 34 x) := rfl
set_option maxRecDepth 100000 in
theorem mF_35 {ad : Nat → Nat} {u : mST} : (mFs ad u)[35]? = some (.int (u.1 35)) := rfl
set_option maxRecDepth 100000 in
theorem mSI_35 {ca : Nat → ClassId} {h0 : Nat} {ad : Nat → Nat} {u : mST} {x : Int32} : (mCl ca h0 ad u).set 0 (h0, .inr (12, (mFs ad u).set 35 (.int x))) = mCl ca h0 ad (mI u 35 x) := rfl
set_option maxRecDepth 100000 in
theorem mF_36 {ad : Nat → Nat} {u : mST} : (mFs ad u)[36]? = some (.ref (ad 36)) := rfl
set_option maxRecDepth 100000 in
theorem mG_36 {ca : Nat → ClassId} {h0 : Nat} {ad : Nat → Nat} {u : mST} : (mCl ca h0 ad u)[21]? = some (ad 36, .inl (ca 36, 40, .inl (u.2.1 36))) := rfl
set_option maxRecDepth 100000 in
theorem mSA_36 {ca : Nat → ClassId} {h0 : Nat} {ad : Nat → Nat} {u : mST} {i : Nat} {x : Int32} : (mCl ca h0 ad u).set 21 (ad 36, .inl (ca 36, 40, .inl (upd (u.2.1 36) i x))) = mCl ca h0 ad (mA u 36 i x) := rfl
set_option maxRecDepth 100000 in
theorem mF_37 {ad : Nat → Nat} {u : mST} : (mFs ad u)[37]? = some (.ref (ad 37)) := rfl
set_option maxRecDepth 100000 in
theorem mG_37 {ca : Nat → ClassId} {h0 : Nat} {ad : Nat → Nat} {u : mST} : (mCl ca h0 ad u)[22]? = some (ad 37, .inl (ca 37, 40, .inl (u.2.1 37))) := rfl
set_option maxRecDepth 100000 in
theorem mSA_37 {ca : Nat → ClassId} {h0 : Nat} {ad : Nat → Nat} {u : mST} {i : Nat} {x : Int32} : (mCl ca h0 ad u).set 22 (ad 37, .inl (ca 37, 40, .inl (upd (u.2.1 37) i x))) = mCl ca h0 ad (mA u 37 i x) := rfl
set_option maxRecDepth 100000 in
theorem mF_38 {ad : Nat → Nat} {u : mST} : (mFs ad u)[38]? = some (.ref (ad 38)) := rfl
set_option maxRecDepth 100000 in
theorem mG_38 {ca : Nat → ClassId} {h0 : Nat} {ad : Nat → Nat} {u : mST} : (mCl ca h0 ad u)[23]? = some (ad 38, .inl (ca 38, 240, .inl (u.2.1 38))) := rfl
set_option maxRecDepth 100000 in
theorem mSA_38 {ca : Nat → ClassId} {h0 : Nat} {ad : Nat → Nat} {u : mST} {i : Nat} {x : Int32} : (mCl ca h0 ad u).set 23 (ad 38, .inl (ca 38, 240, .inl (upd (u.2.1 38) i x))) = mCl ca h0 ad (mA u 38 i x) := rfl
set_option maxRecDepth 100000 in
theorem mF_39 {ad : Nat → Nat} {u : mST} : (mFs ad u)[39]? = some (.ref (ad 39)) := rfl
set_option maxRecDepth 100000 in
theorem mG_39 {ca : Nat → ClassId} {h0 : Nat} {ad : Nat → Nat} {u : mST} : (mCl ca h0 ad u)[24]? = some (ad 39, .inl (ca 39, 40, .inl (u.2.1 39))) := rfl
set_option maxRecDepth 100000 in
theorem mSA_39 {ca : Nat → ClassId} {h0 : Nat} {ad : Nat → Nat} {u : mST} {i : Nat} {x : Int32} : (mCl ca h0 ad u).set 24 (ad 39, .inl (ca 39, 40, .inl (upd (u.2.1 39) i x))) = mCl ca h0 ad (mA u 39 i x) := rfl
set_option maxRecDepth 100000 in
theorem mF_40 {ad : Nat → Nat} {u : mST} : (mFs ad u)[40]? = some (.ref (ad 40)) := rfl
set_option maxRecDepth 100000 in
theorem mG_40 {ca : Nat → ClassId} {h0 : Nat} {ad : Nat → Nat} {u : mST} : (mCl ca h0 ad u)[25]? = some (ad 40, .inl (ca 40, 40, .inl (u.2.1 40))) := rfl
set_option maxRecDepth 100000 in
theorem mSA_40 {ca : Nat → ClassId} {h0 : Nat} {ad : Nat → Nat} {u : mST} {i : Nat} {x : Int32} : (mCl ca h0 ad u).set 25 (ad 40, .inl (ca 40, 40, .inl (upd (u.2.1 40) i x))) = mCl ca h0 ad (mA u 40 i x) := rfl
set_option maxRecDepth 100000 in
theorem mF_41 {ad : Nat → Nat} {u : mST} : (mFs ad u)[41]? = some (.ref (ad 41)) := rfl
set_option maxRecDepth 100000 in
theorem mG_41 {ca : Nat → ClassId} {h0 : Nat} {ad : Nat → Nat} {u : mST} : (mCl ca h0 ad u)[26]? = some (ad 41, .inl (ca 41, 40, .inl (u.2.1 41))) := rfl
set_option maxRecDepth 100000 in
theorem mSA_41 {ca : Nat → ClassId} {h0 : Nat} {ad : Nat → Nat} {u : mST} {i : Nat} {x : Int32} : (mCl ca h0 ad u).set 26 (ad 41, .inl (ca 41, 40, .inl (upd (u.2.1 41) i x))) = mCl ca h0 ad (mA u 41 i x) := rfl
set_option maxRecDepth 100000 in
theorem mF_42 {ad : Nat → Nat} {u : mST} : (mFs ad u)[42]? = some (.int (u.1 42)) := rfl
set_option maxRecDepth 100000 in
theorem mSI_42 {ca : Nat → ClassId} {h0 : Nat} {ad : Nat → Nat} {u : mST} {x : Int32} : (mCl ca h0 ad u).set 0 (h0, .inr (12, (mFs ad u).set 42 (.int x))) = mCl ca h0 ad (mI u 42 x) := rfl
set_option maxRecDepth 100000 in
theorem mF_43 {ad : Nat → Nat} {u : mST} : (mFs ad u)[43]? = some (.ref (ad 43)) := rfl
set_option maxRecDepth 100000 in
theorem mG_43 {ca : Nat → ClassId} {h0 : Nat} {ad : Nat → Nat} {u : mST} : (mCl ca h0 ad u)[27]? = some (ad 43, .inl (ca 43, 60, .inl (u.2.1 43))) := rfl
set_option maxRecDepth 100000 in
theorem mSA_43 {ca : Nat → ClassId} {h0 : Nat} {ad : Nat → Nat} {u : mST} {i : Nat} {x : Int32} : (mCl ca h0 ad u).set 27 (ad 43, .inl (ca 43, 60, .inl (upd (u.2.1 43) i x))) = mCl ca h0 ad (mA u 43 i x) := rfl
set_option maxRecDepth 100000 in
theorem mF_44 {ad : Nat → Nat} {u : mST} : (mFs ad u)[44]? = some (.ref (ad 44)) := rfl
set_option maxRecDepth 100000 in
theorem mG_44 {ca : Nat → ClassId} {h0 : Nat} {ad : Nat → Nat} {u : mST} : (mCl ca h0 ad u)[28]? = some (ad 44, .inl (ca 44, 60, .inl (u.2.1 44))) := rfl
set_option maxRecDepth 100000 in
theorem mSA_44 {ca : Nat → ClassId} {h0 : Nat} {ad : Nat → Nat} {u : mST} {i : Nat} {x : Int32} : (mCl ca h0 ad u).set 28 (ad 44, .inl (ca 44, 60, .inl (upd (u.2.1 44) i x))) = mCl ca h0 ad (mA u 44 i x) := rfl
set_option maxRecDepth 100000 in
theorem mF_45 {ad : Nat → Nat} {u : mST} : (mFs ad u)[45]? = some (.ref (ad 45)) := rfl
set_option maxRecDepth 100000 in
theorem mG_45 {ca : Nat → ClassId} {h0 : Nat} {ad : Nat → Nat} {u : mST} : (mCl ca h0 ad u)[29]? = some (ad 45, .inl (ca 45, 60, .inl (u.2.1 45))) := rfl
set_option maxRecDepth 100000 in
theorem mSA_45 {ca : Nat → ClassId} {h0 : Nat} {ad : Nat → Nat} {u : mST} {i : Nat} {x : Int32} : (mCl ca h0 ad u).set 29 (ad 45, .inl (ca 45, 60, .inl (upd (u.2.1 45) i x))) = mCl ca h0 ad (mA u 45 i x) := rfl
set_option maxRecDepth 100000 in
theorem mF_46 {ad : Nat → Nat} {u : mST} : (mFs ad u)[46]? = some (.ref (ad 46)) := rfl
set_option maxRecDepth 100000 in
theorem mG_46 {ca : Nat → ClassId} {h0 : Nat} {ad : Nat → Nat} {u : mST} : (mCl ca h0 ad u)[30]? = some (ad 46, .inl (ca 46, 60, .inl (u.2.1 46))) := rfl
set_option maxRecDepth 100000 in
theorem mSA_46 {ca : Nat → ClassId} {h0 : Nat} {ad : Nat → Nat} {u : mST} {i : Nat} {x : Int32} : (mCl ca h0 ad u).set 30 (ad 46, .inl (ca 46, 60, .inl (upd (u.2.1 46) i x))) = mCl ca h0 ad (mA u 46 i x) := rfl
set_option maxRecDepth 100000 in
theorem mF_47 {ad : Nat → Nat} {u : mST} : (mFs ad u)[47]? = some (.ref (ad 47)) := rfl
set_option maxRecDepth 100000 in
theorem mG_47 {ca : Nat → ClassId} {h0 : Nat} {ad : Nat → Nat} {u : mST} : (mCl ca h0 ad u)[31]? = some (ad 47, .inl (ca 47, 60, .inl (u.2.1 47))) := rfl
set_option maxRecDepth 100000 in
theorem mSA_47 {ca : Nat → ClassId} {h0 : Nat} {ad : Nat → Nat} {u : mST} {i : Nat} {x : Int32} : (mCl ca h0 ad u).set 31 (ad 47, .inl (ca 47, 60, .inl (upd (u.2.1 47) i x))) = mCl ca h0 ad (mA u 47 i x) := rfl
set_option maxRecDepth 100000 in
theorem mF_48 {ad : Nat → Nat} {u : mST} : (mFs ad u)[48]? = some (.ref (ad 48)) := rfl
set_option maxRecDepth 100000 in
theorem mG_48 {ca : Nat → ClassId} {h0 : Nat} {ad : Nat → Nat} {u : mST} : (mCl ca h0 ad u)[32]? = some (ad 48, .inl (ca 48, 60, .inl (u.2.1 48))) := rfl
set_option maxRecDepth 100000 in
theorem mSA_48 {ca : Nat → ClassId} {h0 : Nat} {ad : Nat → Nat} {u : mST} {i : Nat} {x : Int32} : (mCl ca h0 ad u).set 32 (ad 48, .inl (ca 48, 60, .inl (upd (u.2.1 48) i x))) = mCl ca h0 ad (mA u 48 i x) := rfl
set_option maxRecDepth 100000 in
theorem mF_49 {ad : Nat → Nat} {u : mST} : (mFs ad u)[49]? = some (.ref (ad 49)) := rfl
set_option maxRecDepth 100000 in
theorem mG_49 {ca : Nat → ClassId} {h0 : Nat} {ad : Nat → Nat} {u : mST} : (mCl ca h0 ad u)[33]? = some (ad 49, .inl (ca 49, 7200, .inl (u.2.1 49))) := rfl
set_option maxRecDepth 100000 in
theorem mSA_49 {ca : Nat → ClassId} {h0 : Nat} {ad : Nat → Nat} {u : mST} {i : Nat} {x : Int32} : (mCl ca h0 ad u).set 33 (ad 49, .inl (ca 49, 7200, .inl (upd (u.2.1 49) i x))) = mCl ca h0 ad (mA u 49 i x) := rfl
set_option maxRecDepth 100000 in
theorem mF_50 {ad : Nat → Nat} {u : mST} : (mFs ad u)[50]? = some (.ref (ad 50)) := rfl
set_option maxRecDepth 100000 in
theorem mG_50 {ca : Nat → ClassId} {h0 : Nat} {ad : Nat → Nat} {u : mST} : (mCl ca h0 ad u)[34]? = some (ad 50, .inl (ca 50, 60, .inl (u.2.1 50))) := rfl
set_option maxRecDepth 100000 in
theorem mSA_50 {ca : Nat → ClassId} {h0 : Nat} {ad : Nat → Nat} {u : mST} {i : Nat} {x : Int32} : (mCl ca h0 ad u).set 34 (ad 50, .inl (ca 50, 60, .inl (upd (u.2.1 50) i x))) = mCl ca h0 ad (mA u 50 i x) := rfl
set_option maxRecDepth 100000 in
theorem mF_51 {ad : Nat → Nat} {u : mST} : (mFs ad u)[51]? = some (.ref (ad 51)) := rfl
set_option maxRecDepth 100000 in
theorem mG_51 {ca : Nat → ClassId} {h0 : Nat} {ad : Nat → Nat} {u : mST} : (mCl ca h0 ad u)[35]? = some (ad 51, .inl (ca 51, 60, .inl (u.2.1 51))) := rfl
set_option maxRecDepth 100000 in
theorem mSA_51 {ca : Nat → ClassId} {h0 : Nat} {ad : Nat → Nat} {u : mST} {i : Nat} {x : Int32} : (mCl ca h0 ad u).set 35 (ad 51, .inl (ca 51, 60, .inl (upd (u.2.1 51) i x))) = mCl ca h0 ad (mA u 51 i x) := rfl
set_option maxRecDepth 100000 in
theorem mF_52 {ad : Nat → Nat} {u : mST} : (mFs ad u)[52]? = some (.ref (ad 52)) := rfl
set_option maxRecDepth 100000 in
theorem mG_52 {ca : Nat → ClassId} {h0 : Nat} {ad : Nat → Nat} {u : mST} : (mCl ca h0 ad u)[36]? = some (ad 52, .inl (ca 52, 60, .inl (u.2.1 52))) := rfl
set_option maxRecDepth 100000 in
theorem mSA_52 {ca : Nat → ClassId} {h0 : Nat} {ad : Nat → Nat} {u : mST} {i : Nat} {x : Int32} : (mCl ca h0 ad u).set 36 (ad 52, .inl (ca 52, 60, .inl (upd (u.2.1 52) i x))) = mCl ca h0 ad (mA u 52 i x) := rfl
set_option maxRecDepth 100000 in
theorem mF_53 {ad : Nat → Nat} {u : mST} : (mFs ad u)[53]? = some (.ref (ad 53)) := rfl
set_option maxRecDepth 100000 in
theorem mG_53 {ca : Nat → ClassId} {h0 : Nat} {ad : Nat → Nat} {u : mST} : (mCl ca h0 ad u)[37]? = some (ad 53, .inl (ca 53, 60, .inl (u.2.1 53))) := rfl
set_option maxRecDepth 100000 in
theorem mSA_53 {ca : Nat → ClassId} {h0 : Nat} {ad : Nat → Nat} {u : mST} {i : Nat} {x : Int32} : (mCl ca h0 ad u).set 37 (ad 53, .inl (ca 53, 60, .inl (upd (u.2.1 53) i x))) = mCl ca h0 ad (mA u 53 i x) := rfl
set_option maxRecDepth 100000 in
theorem mF_54 {ad : Nat → Nat} {u : mST} : (mFs ad u)[54]? = some (.int (u.1 54)) := rfl
set_option maxRecDepth 100000 in
theorem mSI_54 {ca : Nat → ClassId} {h0 : Nat} {ad : Nat → Nat} {u : mST} {x : Int32} : (mCl ca h0 ad u).set 0 (h0, .inr (12, (mFs ad u).set 54 (.int x))) = mCl ca h0 ad (mI u 54 x) := rfl
set_option maxRecDepth 100000 in
theorem mF_55 {ad : Nat → Nat} {u : mST} : (mFs ad u)[55]? = some (.ref (ad 55)) := rfl
set_option maxRecDepth 100000 in
theorem mG_55 {ca : Nat → ClassId} {h0 : Nat} {ad : Nat → Nat} {u : mST} : (mCl ca h0 ad u)[38]? = some (ad 55, .inl (ca 55, 100, .inl (u.2.1 55))) := rfl
set_option maxRecDepth 100000 in
theorem mSA_55 {ca : Nat → ClassId} {h0 : Nat} {ad : Nat → Nat} {u : mST} {i : Nat} {x : Int32} : (mCl ca h0 ad u).set 38 (ad 55, .inl (ca 55, 100, .inl (upd (u.2.1 55) i x))) = mCl ca h0 ad (mA u 55 i x) := rfl
set_option maxRecDepth 100000 in
theorem mF_56 {ad : Nat → Nat} {u : mST} : (mFs ad u)[56]? = some (.ref (ad 56)) := rfl
set_option maxRecDepth 100000 in
theorem mG_56 {ca : Nat → ClassId} {h0 : Nat} {ad : Nat → Nat} {u : mST} : (mCl ca h0 ad u)[39]? = some (ad 56, .inl (ca 56, 100, .inl (u.2.1 56))) := rfl
set_option maxRecDepth 100000 in
theorem mSA_56 {ca : Nat → ClassId} {h0 : Nat} {ad : Nat → Nat} {u : mST} {i : Nat} {x : Int32} : (mCl ca h0 ad u).set 39 (ad 56, .inl (ca 56, 100, .inl (upd (u.2.1 56) i x))) = mCl ca h0 ad (mA u 56 i x) := rfl
set_option maxRecDepth 100000 in
theorem mF_57 {ad : Nat → Nat} {u : mST} : (mFs ad u)[57]? = some (.int (u.1 57)) := rfl
set_option maxRecDepth 100000 in
theorem mSI_57 {ca : Nat → ClassId} {h0 : Nat} {ad : Nat → Nat} {u : mST} {x : Int32} : (mCl ca h0 ad u).set 0 (h0, .inr (12, (mFs ad u).set 57 (.int x))) = mCl ca h0 ad (mI u 57 x) := rfl
set_option maxRecDepth 100000 in
theorem mF_58 {ad : Nat → Nat} {u : mST} : (mFs ad u)[58]? = some (.int (u.1 58)) := rfl
set_option maxRecDepth 100000 in
theorem mSI_58 {ca : Nat → ClassId} {h0 : Nat} {ad : Nat → Nat} {u : mST} {x : Int32} : (mCl ca h0 ad u).set 0 (h0, .inr (12, (mFs ad u).set 58 (.int x))) = mCl ca h0 ad (mI u 58 x) := rfl
set_option maxRecDepth 100000 in
theorem mF_59 {ad : Nat → Nat} {u : mST} : (mFs ad u)[59]? = some (.int (u.1 59)) := rfl
set_option maxRecDepth 100000 in
theorem mSI_59 {ca : Nat → ClassId} {h0 : Nat} {ad : Nat → Nat} {u : mST} {x : Int32} : (mCl ca h0 ad u).set 0 (h0, .inr (12, (mFs ad u).set 59 (.int x))) = mCl ca h0 ad (mI u 59 x) := rfl
set_option maxRecDepth 100000 in
theorem mF_60 {ad : Nat → Nat} {u : mST} : (mFs ad u)[60]? = some (.int (u.1 60)) := rfl
set_option maxRecDepth 100000 in
theorem mSI_60 {ca : Nat → ClassId} {h0 : Nat} {ad : Nat → Nat} {u : mST} {x : Int32} : (mCl ca h0 ad u).set 0 (h0, .inr (12, (mFs ad u).set 60 (.int x))) = mCl ca h0 ad (mI u 60 x) := rfl
set_option maxRecDepth 100000 in
theorem mF_61 {ad : Nat → Nat} {u : mST} : (mFs ad u)[61]? = some (.int (u.1 61)) := rfl
set_option maxRecDepth 100000 in
theorem mSI_61 {ca : Nat → ClassId} {h0 : Nat} {ad : Nat → Nat} {u : mST} {x : Int32} : (mCl ca h0 ad u).set 0 (h0, .inr (12, (mFs ad u).set 61 (.int x))) = mCl ca h0 ad (mI u 61 x) := rfl
set_option maxRecDepth 100000 in
theorem mF_62 {ad : Nat → Nat} {u : mST} : (mFs ad u)[62]? = some (.int (u.1 62)) := rfl
set_option maxRecDepth 100000 in
theorem mSI_62 {ca : Nat → ClassId} {h0 : Nat} {ad : Nat → Nat} {u : mST} {x : Int32} : (mCl ca h0 ad u).set 0 (h0, .inr (12, (mFs ad u).set 62 (.int x))) = mCl ca h0 ad (mI u 62 x) := rfl
set_option maxRecDepth 100000 in
theorem mF_63 {ad : Nat → Nat} {u : mST} : (mFs ad u)[63]? = some (.int (u.1 63)) := rfl
set_option maxRecDepth 100000 in
theorem mSI_63 {ca : Nat → ClassId} {h0 : Nat} {ad : Nat → Nat} {u : mST} {x : Int32} : (mCl ca h0 ad u).set 0 (h0, .inr (12, (mFs ad u).set 63 (.int x))) = mCl ca h0 ad (mI u 63 x) := rfl
set_option maxRecDepth 100000 in
theorem mF_64 {ad : Nat → Nat} {u : mST} : (mFs ad u)[64]? = some (.int (u.1 64)) := rfl
set_option maxRecDepth 100000 in
theorem mSI_64 {ca : Nat → ClassId} {h0 : Nat} {ad : Nat → Nat} {u : mST} {x : Int32} : (mCl ca h0 ad u).set 0 (h0, .inr (12, (mFs ad u).set 64 (.int x))) = mCl ca h0 ad (mI u 64 x) := rfl
set_option maxRecDepth 100000 in
theorem mF_65 {ad : Nat → Nat} {u : mST} : (mFs ad u)[65]? = some (.ref (ad 65)) := rfl
set_option maxRecDepth 100000 in
theorem mG_65 {ca : Nat → ClassId} {h0 : Nat} {ad : Nat → Nat} {u : mST} : (mCl ca h0 ad u)[40]? = some (ad 65, .inl (ca 65, 200, .inl (u.2.1 65))) := rfl
set_option maxRecDepth 100000 in
theorem mSA_65 {ca : Nat → ClassId} {h0 : Nat} {ad : Nat → Nat} {u : mST} {i : Nat} {x : Int32} : (mCl ca h0 ad u).set 40 (ad 65, .inl (ca 65, 200, .inl (upd (u.2.1 65) i x))) = mCl ca h0 ad (mA u 65 i x) := rfl
set_option maxRecDepth 100000 in
theorem mF_66 {ad : Nat → Nat} {u : mST} : (mFs ad u)[66]? = some (.ref (ad 66)) := rfl
set_option maxRecDepth 100000 in
theorem mG_66 {ca : Nat → ClassId} {h0 : Nat} {ad : Nat → Nat} {u : mST} : (mCl ca h0 ad u)[41]? = some (ad 66, .inl (ca 66, 1200, .inl (u.2.1 66))) := rfl
set_option maxRecDepth 100000 in
theorem mSA_66 {ca : Nat → ClassId} {h0 : Nat} {ad : Nat → Nat} {u : mST} {i : Nat} {x : Int32} : (mCl ca h0 ad u).set 41 (ad 66, .inl (ca 66, 1200, .inl (upd (u.2.1 66) i x))) = mCl ca h0 ad (mA u 66 i x) := rfl
set_option maxRecDepth 100000 in
theorem mF_67 {ad : Nat → Nat} {u : mST} : (mFs ad u)[67]? = some (.ref (ad 67)) := rfl
set_option maxRecDepth 100000 in
theorem mG_67 {ca : Nat → ClassId} {h0 : Nat} {ad : Nat → Nat} {u : mST} : (mCl ca h0 ad u)[42]? = some (ad 67, .inl (ca 67, 1200, .inl (u.2.1 67))) := rfl
set_option maxRecDepth 100000 in
theorem mSA_67 {ca : Nat → ClassId} {h0 : Nat} {ad : Nat → Nat} {u : mST} {i : Nat} {x : Int32} : (mCl ca h0 ad u).set 42 (ad 67, .inl (ca 67, 1200, .inl (upd (u.2.1 67) i x))) = mCl ca h0 ad (mA u 67 i x) := rfl
set_option maxRecDepth 100000 in
theorem mF_68 {ad : Nat → Nat} {u : mST} : (mFs ad u)[68]? = some (.ref (ad 68)) := rfl
set_option maxRecDepth 100000 in
theorem mG_68 {ca : Nat → ClassId} {h0 : Nat} {ad : Nat → Nat} {u : mST} : (mCl ca h0 ad u)[43]? = some (ad 68, .inl (ca 68, 1200, .inl (u.2.1 68))) := rfl
set_option maxRecDepth 100000 in
theorem mSA_68 {ca : Nat → ClassId} {h0 : Nat} {ad : Nat → Nat} {u : mST} {i : Nat} {x : Int32} : (mCl ca h0 ad u).set 43 (ad 68, .inl (ca 68, 1200, .inl (upd (u.2.1 68) i x))) = mCl ca h0 ad (mA u 68 i x) := rfl
set_option maxRecDepth 100000 in
theorem mF_69 {ad : Nat → Nat} {u : mST} : (mFs ad u)[69]? = some (.int (u.1 69)) := rfl
set_option maxRecDepth 100000 in
theorem mSI_69 {ca : Nat → ClassId} {h0 : Nat} {ad : Nat → Nat} {u : mST} {x : Int32} : (mCl ca h0 ad u).set 0 (h0, .inr (12, (mFs ad u).set 69 (.int x))) = mCl ca h0 ad (mI u 69 x) := rfl
set_option maxRecDepth 100000 in
theorem mF_70 {ad : Nat → Nat} {u : mST} : (mFs ad u)[70]? = some (.ref (ad 70)) := rfl
set_option maxRecDepth 100000 in
theorem mG_70 {ca : Nat → ClassId} {h0 : Nat} {ad : Nat → Nat} {u : mST} : (mCl ca h0 ad u)[44]? = some (ad 70, .inl (ca 70, 2400, .inl (u.2.1 70))) := rfl
set_option maxRecDepth 100000 in
theorem mSA_70 {ca : Nat → ClassId} {h0 : Nat} {ad : Nat → Nat} {u : mST} {i : Nat} {x : Int32} : (mCl ca h0 ad u).set 44 (ad 70, .inl (ca 70, 2400, .inl (upd (u.2.1 70) i x))) = mCl ca h0 ad (mA u 70 i x) := rfl
set_option maxRecDepth 100000 in
theorem mF_71 {ad : Nat → Nat} {u : mST} : (mFs ad u)[71]? = some (.int (u.1 71)) := rfl
set_option maxRecDepth 100000 in
theorem mSI_71 {ca : Nat → ClassId} {h0 : Nat} {ad : Nat → Nat} {u : mST} {x : Int32} : (mCl ca h0 ad u).set 0 (h0, .inr (12, (mFs ad u).set 71 (.int x))) = mCl ca h0 ad (mI u 71 x) := rfl
set_option maxRecDepth 100000 in
theorem mF_72 {ad : Nat → Nat} {u : mST} : (mFs ad u)[72]? = some (.ref (ad 72)) := rfl
set_option maxRecDepth 100000 in
theorem mG_72 {ca : Nat → ClassId} {h0 : Nat} {ad : Nat → Nat} {u : mST} : (mCl ca h0 ad u)[45]? = some (ad 72, .inl (ca 72, 400, .inl (u.2.1 72))) := rfl
set_option maxRecDepth 100000 in
theorem mSA_72 {ca : Nat → ClassId} {h0 : Nat} {ad : Nat → Nat} {u : mST} {i : Nat} {x : Int32} : (mCl ca h0 ad u).set 45 (ad 72, .inl (ca 72, 400, .inl (upd (u.2.1 72) i x))) = mCl ca h0 ad (mA u 72 i x) := rfl
set_option maxRecDepth 100000 in
theorem mF_73 {ad : Nat → Nat} {u : mST} : (mFs ad u)[73]? = some (.ref (ad 73)) := rfl
set_option maxRecDepth 100000 in
theorem mG_73 {ca : Nat → ClassId} {h0 : Nat} {ad : Nat → Nat} {u : mST} : (mCl ca h0 ad u)[46]? = some (ad 73, .inl (ca 73, 400, .inl (u.2.1 73))) := rfl
set_option maxRecDepth 100000 in
theorem mSA_73 {ca : Nat → ClassId} {h0 : Nat} {ad : Nat → Nat} {u : mST} {i : Nat} {x : Int32} : (mCl ca h0 ad u).set 46 (ad 73, .inl (ca 73, 400, .inl (upd (u.2.1 73) i x))) = mCl ca h0 ad (mA u 73 i x) := rfl
set_option maxRecDepth 100000 in
theorem mF_74 {ad : Nat → Nat} {u : mST} : (mFs ad u)[74]? = some (.int (u.1 74)) := rfl
set_option maxRecDepth 100000 in
theorem mSI_74 {ca : Nat → ClassId} {h0 : Nat} {ad : Nat → Nat} {u : mST} {x : Int32} : (mCl ca h0 ad u).set 0 (h0, .inr (12, (mFs ad u).set 74 (.int x))) = mCl ca h0 ad (mI u 74 x) := rfl
set_option maxRecDepth 100000 in
theorem mF_75 {ad : Nat → Nat} {u : mST} : (mFs ad u)[75]? = some (.ref (ad 75)) := rfl
set_option maxRecDepth 100000 in
theorem mG_75 {ca : Nat → ClassId} {h0 : Nat} {ad : Nat → Nat} {u : mST} : (mCl ca h0 ad u)[47]? = some (ad 75, .inl (ca 75, 400, .inl (u.2.1 75))) := rfl
set_option maxRecDepth 100000 in
theorem mSA_75 {ca : Nat → ClassId} {h0 : Nat} {ad : Nat → Nat} {u : mST} {i : Nat} {x : Int32} : (mCl ca h0 ad u).set 47 (ad 75, .inl (ca 75, 400, .inl (upd (u.2.1 75) i x))) = mCl ca h0 ad (mA u 75 i x) := rfl
set_option maxRecDepth 100000 in
theorem mF_76 {ad : Nat → Nat} {u : mST} : (mFs ad u)[76]? = some (.int (u.1 76)) := rfl
set_option maxRecDepth 100000 in
theorem mSI_76 {ca : Nat → ClassId} {h0 : Nat} {ad : Nat → Nat} {u : mST} {x : Int32} : (mCl ca h0 ad u).set 0 (h0, .inr (12, (mFs ad u).set 76 (.int x))) = mCl ca h0 ad (mI u 76 x) := rfl
set_option maxRecDepth 100000 in
theorem mF_77 {ad : Nat → Nat} {u : mST} : (mFs ad u)[77]? = some (.ref (ad 77)) := rfl
set_option maxRecDepth 100000 in
theorem mG_77 {ca : Nat → ClassId} {h0 : Nat} {ad : Nat → Nat} {u : mST} : (mCl ca h0 ad u)[48]? = some (ad 77, .inl (ca 77, 130, .inl (u.2.1 77))) := rfl
set_option maxRecDepth 100000 in
theorem mSA_77 {ca : Nat → ClassId} {h0 : Nat} {ad : Nat → Nat} {u : mST} {i : Nat} {x : Int32} : (mCl ca h0 ad u).set 48 (ad 77, .inl (ca 77, 130, .inl (upd (u.2.1 77) i x))) = mCl ca h0 ad (mA u 77 i x) := rfl
set_option maxRecDepth 100000 in
theorem mF_78 {ad : Nat → Nat} {u : mST} : (mFs ad u)[78]? = some (.int (u.1 78)) := rfl
set_option maxRecDepth 100000 in
theorem mSI_78 {ca : Nat → ClassId} {h0 : Nat} {ad : Nat → Nat} {u : mST} {x : Int32} : (mCl ca h0 ad u).set 0 (h0, .inr (12, (mFs ad u).set 78 (.int x))) = mCl ca h0 ad (mI u 78 x) := rfl
set_option maxRecDepth 100000 in
theorem mF_79 {ad : Nat → Nat} {u : mST} : (mFs ad u)[79]? = some (.ref (ad 79)) := rfl
set_option maxRecDepth 100000 in
theorem mG_79 {ca : Nat → ClassId} {h0 : Nat} {ad : Nat → Nat} {u : mST} : (mCl ca h0 ad u)[49]? = some (ad 79, .inl (ca 79, 300, .inl (u.2.1 79))) := rfl
set_option maxRecDepth 100000 in
theorem mSA_79 {ca : Nat → ClassId} {h0 : Nat} {ad : Nat → Nat} {u : mST} {i : Nat} {x : Int32} : (mCl ca h0 ad u).set 49 (ad 79, .inl (ca 79, 300, .inl (upd (u.2.1 79) i x))) = mCl ca h0 ad (mA u 79 i x) := rfl
set_option maxRecDepth 100000 in
theorem mF_80 {ad : Nat → Nat} {u : mST} : (mFs ad u)[80]? = some (.ref (ad 80)) := rfl
set_option maxRecDepth 100000 in
theorem mG_80 {ca : Nat → ClassId} {h0 : Nat} {ad : Nat → Nat} {u : mST} : (mCl ca h0 ad u)[50]? = some (ad 80, .inl (ca 80, 300, .inl (u.2.1 80))) := rfl
set_option maxRecDepth 100000 in
theorem mSA_80 {ca : Nat → ClassId} {h0 : Nat} {ad : Nat → Nat} {u : mST} {i : Nat} {x : Int32} : (mCl ca h0 ad u).set 50 (ad 80, .inl (ca 80, 300, .inl (upd (u.2.1 80) i x))) = mCl ca h0 ad (mA u 80 i x) := rfl
set_option maxRecDepth 100000 in
theorem mF_81 {ad : Nat → Nat} {u : mST} : (mFs ad u)[81]? = some (.ref (ad 81)) := rfl
set_option maxRecDepth 100000 in
theorem mG_81 {ca : Nat → ClassId} {h0 : Nat} {ad : Nat → Nat} {u : mST} : (mCl ca h0 ad u)[51]? = some (ad 81, .inl (ca 81, 300, .inl (u.2.1 81))) := rfl
set_option maxRecDepth 100000 in
theorem mSA_81 {ca : Nat → ClassId} {h0 : Nat} {ad : Nat → Nat} {u : mST} {i : Nat} {x : Int32} : (mCl ca h0 ad u).set 51 (ad 81, .inl (ca 81, 300, .inl (upd (u.2.1 81) i x))) = mCl ca h0 ad (mA u 81 i x) := rfl
set_option maxRecDepth 100000 in
theorem mF_82 {ad : Nat → Nat} {u : mST} : (mFs ad u)[82]? = some (.ref (ad 82)) := rfl
set_option maxRecDepth 100000 in
theorem mG_82 {ca : Nat → ClassId} {h0 : Nat} {ad : Nat → Nat} {u : mST} : (mCl ca h0 ad u)[52]? = some (ad 82, .inl (ca 82, 300, .inl (u.2.1 82))) := rfl
set_option maxRecDepth 100000 in
theorem mSA_82 {ca : Nat → ClassId} {h0 : Nat} {ad : Nat → Nat} {u : mST} {i : Nat} {x : Int32} : (mCl ca h0 ad u).set 52 (ad 82, .inl (ca 82, 300, .inl (upd (u.2.1 82) i x))) = mCl ca h0 ad (mA u 82 i x) := rfl
set_option maxRecDepth 100000 in
theorem mF_83 {ad : Nat → Nat} {u : mST} : (mFs ad u)[83]? = some (.ref (ad 83)) := rfl
set_option maxRecDepth 100000 in
theorem mG_83 {ca : Nat → ClassId} {h0 : Nat} {ad : Nat → Nat} {u : mST} : (mCl ca h0 ad u)[53]? = some (ad 83, .inl (ca 83, 300, .inl (u.2.1 83))) := rfl
set_option maxRecDepth 100000 in
theorem mSA_83 {ca : Nat → ClassId} {h0 : Nat} {ad : Nat → Nat} {u : mST} {i : Nat} {x : Int32} : (mCl ca h0 ad u).set 53 (ad 83, .inl (ca 83, 300, .inl (upd (u.2.1 83) i x))) = mCl ca h0 ad (mA u 83 i x) := rfl
set_option maxRecDepth 100000 in
theorem mF_84 {ad : Nat → Nat} {u : mST} : (mFs ad u)[84]? = some (.ref (ad 84)) := rfl
set_option maxRecDepth 100000 in
theorem mG_84 {ca : Nat → ClassId} {h0 : Nat} {ad : Nat → Nat} {u : mST} : (mCl ca h0 ad u)[54]? = some (ad 84, .inl (ca 84, 300, .inl (u.2.1 84))) := rfl
set_option maxRecDepth 100000 in
theorem mSA_84 {ca : Nat → ClassId} {h0 : Nat} {ad : Nat → Nat} {u : mST} {i : Nat} {x : Int32} : (mCl ca h0 ad u).set 54 (ad 84, .inl (ca 84, 300, .inl (upd (u.2.1 84) i x))) = mCl ca h0 ad (mA u 84 i x) := rfl
set_option maxRecDepth 100000 in
theorem mF_85 {ad : Nat → Nat} {u : mST} : (mFs ad u)[85]? = some (.int (u.1 85)) := rfl
set_option maxRecDepth 100000 in
theorem mSI_85 {ca : Nat → ClassId} {h0 : Nat} {ad : Nat → Nat} {u : mST} {x : Int32} : (mCl ca h0 ad u).set 0 (h0, .inr (12, (mFs ad u).set 85 (.int x))) = mCl ca h0 ad (mI u 85 x) := rfl
set_option maxRecDepth 100000 in
theorem mF_86 {ad : Nat → Nat} {u : mST} : (mFs ad u)[86]? = some (.ref (ad 86)) := rfl
set_option maxRecDepth 100000 in
theorem mG_86 {ca : Nat → ClassId} {h0 : Nat} {ad : Nat → Nat} {u : mST} : (mCl ca h0 ad u)[55]? = some (ad 86, .inl (ca 86, 2400, .inl (u.2.1 86))) := rfl
set_option maxRecDepth 100000 in
theorem mSA_86 {ca : Nat → ClassId} {h0 : Nat} {ad : Nat → Nat} {u : mST} {i : Nat} {x : Int32} : (mCl ca h0 ad u).set 55 (ad 86, .inl (ca 86, 2400, .inl (upd (u.2.1 86) i x))) = mCl ca h0 ad (mA u 86 i x) := rfl
set_option maxRecDepth 100000 in
theorem mF_87 {ad : Nat → Nat} {u : mST} : (mFs ad u)[87]? = some (.int (u.1 87)) := rfl
set_option maxRecDepth 100000 in
theorem mSI_87 {ca : Nat → ClassId} {h0 : Nat} {ad : Nat → Nat} {u : mST} {x : Int32} : (mCl ca h0 ad u).set 0 (h0, .inr (12, (mFs ad u).set 87 (.int x))) = mCl ca h0 ad (mI u 87 x) := rfl
set_option maxRecDepth 100000 in
theorem mF_88 {ad : Nat → Nat} {u : mST} : (mFs ad u)[88]? = some (.int (u.1 88)) := rfl
set_option maxRecDepth 100000 in
theorem mSI_88 {ca : Nat → ClassId} {h0 : Nat} {ad : Nat → Nat} {u : mST} {x : Int32} : (mCl ca h0 ad u).set 0 (h0, .inr (12, (mFs ad u).set 88 (.int x))) = mCl ca h0 ad (mI u 88 x) := rfl
set_option maxRecDepth 100000 in
theorem mF_89 {ad : Nat → Nat} {u : mST} : (mFs ad u)[89]? = some (.int (u.1 89)) := rfl
set_option maxRecDepth 100000 in
theorem mSI_89 {ca : Nat → ClassId} {h0 : Nat} {ad : Nat → Nat} {u : mST} {x : Int32} : (mCl ca h0 ad u).set 0 (h0, .inr (12, (mFs ad u).set 89 (.int x))) = mCl ca h0 ad (mI u 89 x) := rfl
set_option maxRecDepth 100000 in
theorem mF_90 {ad : Nat → Nat} {u : mST} : (mFs ad u)[90]? = some (.int (u.1 90)) := rfl
set_option maxRecDepth 100000 in
theorem mSI_90 {ca : Nat → ClassId} {h0 : Nat} {ad : Nat → Nat} {u : mST} {x : Int32} : (mCl ca h0 ad u).set 0 (h0, .inr (12, (mFs ad u).set 90 (.int x))) = mCl ca h0 ad (mI u 90 x) := rfl
set_option maxRecDepth 100000 in
theorem mF_91 {ad : Nat → Nat} {u : mST} : (mFs ad u)[91]? = some (.int (u.1 91)) := rfl
set_option maxRecDepth 100000 in
theorem mSI_91 {ca : Nat → ClassId} {h0 : Nat} {ad : Nat → Nat} {u : mST} {x : Int32} : (mCl ca h0 ad u).set 0 (h0, .inr (12, (mFs ad u).set 91 (.int x))) = mCl ca h0 ad (mI u 91 x) := rfl
set_option maxRecDepth 100000 in
theorem mF_92 {ad : Nat → Nat} {u : mST} : (mFs ad u)[92]? = some (.ref (ad 92)) := rfl
set_option maxRecDepth 100000 in
theorem mG_92 {ca : Nat → ClassId} {h0 : Nat} {ad : Nat → Nat} {u : mST} : (mCl ca h0 ad u)[56]? = some (ad 92, .inl (ca 92, 60, .inl (u.2.1 92))) := rfl
set_option maxRecDepth 100000 in
theorem mSA_92 {ca : Nat → ClassId} {h0 : Nat} {ad : Nat → Nat} {u : mST} {i : Nat} {x : Int32} : (mCl ca h0 ad u).set 56 (ad 92, .inl (ca 92, 60, .inl (upd (u.2.1 92) i x))) = mCl ca h0 ad (mA u 92 i x) := rfl
set_option maxRecDepth 100000 in
theorem mF_93 {ad : Nat → Nat} {u : mST} : (mFs ad u)[93]? = some (.ref (ad 93)) := rfl
set_option maxRecDepth 100000 in
theorem mG_93 {ca : Nat → ClassId} {h0 : Nat} {ad : Nat → Nat} {u : mST} : (mCl ca h0 ad u)[57]? = some (ad 93, .inl (ca 93, 60, .inl (u.2.1 93))) := rfl
set_option maxRecDepth 100000 in
theorem mSA_93 {ca : Nat → ClassId} {h0 : Nat} {ad : Nat → Nat} {u : mST} {i : Nat} {x : Int32} : (mCl ca h0 ad u).set 57 (ad 93, .inl (ca 93, 60, .inl (upd (u.2.1 93) i x))) = mCl ca h0 ad (mA u 93 i x) := rfl
set_option maxRecDepth 100000 in
theorem mF_94 {ad : Nat → Nat} {u : mST} : (mFs ad u)[94]? = some (.ref (ad 94)) := rfl
set_option maxRecDepth 100000 in
theorem mG_94 {ca : Nat → ClassId} {h0 : Nat} {ad : Nat → Nat} {u : mST} : (mCl ca h0 ad u)[58]? = some (ad 94, .inl (ca 94, 60, .inl (u.2.1 94))) := rfl
set_option maxRecDepth 100000 in
theorem mSA_94 {ca : Nat → ClassId} {h0 : Nat} {ad : Nat → Nat} {u : mST} {i : Nat} {x : Int32} : (mCl ca h0 ad u).set 58 (ad 94, .inl (ca 94, 60, .inl (upd (u.2.1 94) i x))) = mCl ca h0 ad (mA u 94 i x) := rfl
set_option maxRecDepth 100000 in
theorem mF_95 {ad : Nat → Nat} {u : mST} : (mFs ad u)[95]? = some (.ref (ad 95)) := rfl
set_option maxRecDepth 100000 in
theorem mG_95 {ca : Nat → ClassId} {h0 : Nat} {ad : Nat → Nat} {u : mST} : (mCl ca h0 ad u)[59]? = some (ad 95, .inl (ca 95, 60, .inl (u.2.1 95))) := rfl
set_option maxRecDepth 100000 in
theorem mSA_95 {ca : Nat → ClassId} {h0 : Nat} {ad : Nat → Nat} {u : mST} {i : Nat} {x : Int32} : (mCl ca h0 ad u).set 59 (ad 95, .inl (ca 95, 60, .inl (upd (u.2.1 95) i x))) = mCl ca h0 ad (mA u 95 i x) := rfl
set_option maxRecDepth 100000 in
theorem mF_96 {ad : Nat → Nat} {u : mST} : (mFs ad u)[96]? = some (.ref (ad 96)) := rfl
set_option maxRecDepth 100000 in
theorem mG_96 {ca : Nat → ClassId} {h0 : Nat} {ad : Nat → Nat} {u : mST} : (mCl ca h0 ad u)[60]? = some (ad 96, .inl (ca 96, 60, .inl (u.2.1 96))) := rfl
set_option maxRecDepth 100000 in
theorem mSA_96 {ca : Nat → ClassId} {h0 : Nat} {ad : Nat → Nat} {u : mST} {i : Nat} {x : Int32} : (mCl ca h0 ad u).set 60 (ad 96, .inl (ca 96, 60, .inl (upd (u.2.1 96) i x))) = mCl ca h0 ad (mA u 96 i x) := rfl
set_option maxRecDepth 100000 in
theorem mF_97 {ad : Nat → Nat} {u : mST} : (mFs ad u)[97]? = some (.ref (ad 97)) := rfl
set_option maxRecDepth 100000 in
theorem mG_97 {ca : Nat → ClassId} {h0 : Nat} {ad : Nat → Nat} {u : mST} : (mCl ca h0 ad u)[61]? = some (ad 97, .inl (ca 97, 60, .inl (u.2.1 97))) := rfl
set_option maxRecDepth 100000 in
theorem mSA_97 {ca : Nat → ClassId} {h0 : Nat} {ad : Nat → Nat} {u : mST} {i : Nat} {x : Int32} : (mCl ca h0 ad u).set 61 (ad 97, .inl (ca 97, 60, .inl (upd (u.2.1 97) i x))) = mCl ca h0 ad (mA u 97 i x) := rfl
set_option maxRecDepth 100000 in
theorem mF_98 {ad : Nat → Nat} {u : mST} : (mFs ad u)[98]? = some (.ref (ad 98)) := rfl
set_option maxRecDepth 100000 in
theorem mG_98 {ca : Nat → ClassId} {h0 : Nat} {ad : Nat → Nat} {u : mST} : (mCl ca h0 ad u)[62]? = some (ad 98, .inl (ca 98, 60, .inl (u.2.1 98))) := rfl
set_option maxRecDepth 100000 in
theorem mSA_98 {ca : Nat → ClassId} {h0 : Nat} {ad : Nat → Nat} {u : mST} {i : Nat} {x : Int32} : (mCl ca h0 ad u).set 62 (ad 98, .inl (ca 98, 60, .inl (upd (u.2.1 98) i x))) = mCl ca h0 ad (mA u 98 i x) := rfl
set_option maxRecDepth 100000 in
theorem mF_99 {ad : Nat → Nat} {u : mST} : (mFs ad u)[99]? = some (.ref (ad 99)) := rfl
set_option maxRecDepth 100000 in
theorem mG_99 {ca : Nat → ClassId} {h0 : Nat} {ad : Nat → Nat} {u : mST} : (mCl ca h0 ad u)[63]? = some (ad 99, .inl (ca 99, 60, .inl (u.2.1 99))) := rfl
set_option maxRecDepth 100000 in
theorem mSA_99 {ca : Nat → ClassId} {h0 : Nat} {ad : Nat → Nat} {u : mST} {i : Nat} {x : Int32} : (mCl ca h0 ad u).set 63 (ad 99, .inl (ca 99, 60, .inl (upd (u.2.1 99) i x))) = mCl ca h0 ad (mA u 99 i x) := rfl
set_option maxRecDepth 100000 in
theorem mF_100 {ad : Nat → Nat} {u : mST} : (mFs ad u)[100]? = some (.ref (ad 100)) := rfl
set_option maxRecDepth 100000 in
theorem mG_100 {ca : Nat → ClassId} {h0 : Nat} {ad : Nat → Nat} {u : mST} : (mCl ca h0 ad u)[64]? = some (ad 100, .inl (ca 100, 60, .inl (u.2.1 100))) := rfl
set_option maxRecDepth 100000 in
theorem mSA_100 {ca : Nat → ClassId} {h0 : Nat} {ad : Nat → Nat} {u : mST} {i : Nat} {x : Int32} : (mCl ca h0 ad u).set 64 (ad 100, .inl (ca 100, 60, .inl (upd (u.2.1 100) i x))) = mCl ca h0 ad (mA u 100 i x) := rfl
set_option maxRecDepth 100000 in
theorem mF_101 {ad : Nat → Nat} {u : mST} : (mFs ad u)[101]? = some (.ref (ad 101)) := rfl
set_option maxRecDepth 100000 in
theorem mG_101 {ca : Nat → ClassId} {h0 : Nat} {ad : Nat → Nat} {u : mST} : (mCl ca h0 ad u)[65]? = some (ad 101, .inl (ca 101, 60, .inl (u.2.1 101))) := rfl
set_option maxRecDepth 100000 in
theorem mSA_101 {ca : Nat → ClassId} {h0 : Nat} {ad : Nat → Nat} {u : mST} {i : Nat} {x : Int32} : (mCl ca h0 ad u).set 65 (ad 101, .inl (ca 101, 60, .inl (upd (u.2.1 101) i x))) = mCl ca h0 ad (mA u 101 i x) := rfl
set_option maxRecDepth 100000 in
theorem mF_102 {ad : Nat → Nat} {u : mST} : (mFs ad u)[102]? = some (.int (u.1 102)) := rfl
set_option maxRecDepth 100000 in
theorem mSI_102 {ca : Nat → ClassId} {h0 : Nat} {ad : Nat → Nat} {u : mST} {x : Int32} : (mCl ca h0 ad u).set 0 (h0, .inr (12, (mFs ad u).set 102 (.int x))) = mCl ca h0 ad (mI u 102 x) := rfl
set_option maxRecDepth 100000 in
theorem mF_103 {ad : Nat → Nat} {u : mST} : (mFs ad u)[103]? = some (.ref (ad 103)) := rfl
set_option maxRecDepth 100000 in
theorem mG_103 {ca : Nat → ClassId} {h0 : Nat} {ad : Nat → Nat} {u : mST} : (mCl ca h0 ad u)[66]? = some (ad 103, .inl (ca 103, 1200, .inl (u.2.1 103))) := rfl
set_option maxRecDepth 100000 in
theorem mSA_103 {ca : Nat → ClassId} {h0 : Nat} {ad : Nat → Nat} {u : mST} {i : Nat} {x : Int32} : (mCl ca h0 ad u).set 66 (ad 103, .inl (ca 103, 1200, .inl (upd (u.2.1 103) i x))) = mCl ca h0 ad (mA u 103 i x) := rfl
set_option maxRecDepth 100000 in
theorem mF_104 {ad : Nat → Nat} {u : mST} : (mFs ad u)[104]? = some (.int (u.1 104)) := rfl
set_option maxRecDepth 100000 in
theorem mSI_104 {ca : Nat → ClassId} {h0 : Nat} {ad : Nat → Nat} {u : mST} {x : Int32} : (mCl ca h0 ad u).set 0 (h0, .inr (12, (mFs ad u).set 104 (.int x))) = mCl ca h0 ad (mI u 104 x) := rfl
set_option maxRecDepth 100000 in
theorem mF_105 {ad : Nat → Nat} {u : mST} : (mFs ad u)[105]? = some (.ref (ad 105)) := rfl
set_option maxRecDepth 100000 in
theorem mG_105 {ca : Nat → ClassId} {h0 : Nat} {ad : Nat → Nat} {u : mST} : (mCl ca h0 ad u)[67]? = some (ad 105, .inl (ca 105, 7800, .inl (u.2.1 105))) := rfl
set_option maxRecDepth 100000 in
theorem mSA_105 {ca : Nat → ClassId} {h0 : Nat} {ad : Nat → Nat} {u : mST} {i : Nat} {x : Int32} : (mCl ca h0 ad u).set 67 (ad 105, .inl (ca 105, 7800, .inl (upd (u.2.1 105) i x))) = mCl ca h0 ad (mA u 105 i x) := rfl
set_option maxRecDepth 100000 in
theorem mF_106 {ad : Nat → Nat} {u : mST} : (mFs ad u)[106]? = some (.ref (ad 106)) := rfl
set_option maxRecDepth 100000 in
theorem mG_106 {ca : Nat → ClassId} {h0 : Nat} {ad : Nat → Nat} {u : mST} : (mCl ca h0 ad u)[68]? = some (ad 106, .inl (ca 106, 7800, .inl (u.2.1 106))) := rfl
set_option maxRecDepth 100000 in
theorem mSA_106 {ca : Nat → ClassId} {h0 : Nat} {ad : Nat → Nat} {u : mST} {i : Nat} {x : Int32} : (mCl ca h0 ad u).set 68 (ad 106, .inl (ca 106, 7800, .inl (upd (u.2.1 106) i x))) = mCl ca h0 ad (mA u 106 i x) := rfl
set_option maxRecDepth 100000 in
theorem mF_107 {ad : Nat → Nat} {u : mST} : (mFs ad u)[107]? = some (.ref (ad 107)) := rfl
set_option maxRecDepth 100000 in
theorem mG_107 {ca : Nat → ClassId} {h0 : Nat} {ad : Nat → Nat} {u : mST} : (mCl ca h0 ad u)[69]? = some (ad 107, .inl (ca 107, 60, .inl (u.2.1 107))) := rfl
set_option maxRecDepth 100000 in
theorem mSA_107 {ca : Nat → ClassId} {h0 : Nat} {ad : Nat → Nat} {u : mST} {i : Nat} {x : Int32} : (mCl ca h0 ad u).set 69 (ad 107, .inl (ca 107, 60, .inl (upd (u.2.1 107) i x))) = mCl ca h0 ad (mA u 107 i x) := rfl
set_option maxRecDepth 100000 in
theorem mF_108 {ad : Nat → Nat} {u : mST} : (mFs ad u)[108]? = some (.ref (ad 108)) := rfl
set_option maxRecDepth 100000 in
theorem mG_108 {ca : Nat → ClassId} {h0 : Nat} {ad : Nat → Nat} {u : mST} : (mCl ca h0 ad u)[70]? = some (ad 108, .inl (ca 108, 200, .inl (u.2.1 108))) := rfl
set_option maxRecDepth 100000 in
theorem mSA_108 {ca : Nat → ClassId} {h0 : Nat} {ad : Nat → Nat} {u : mST} {i : Nat} {x : Int32} : (mCl ca h0 ad u).set 70 (ad 108, .inl (ca 108, 200, .inl (upd (u.2.1 108) i x))) = mCl ca h0 ad (mA u 108 i x) := rfl
set_option maxRecDepth 100000 in
theorem mF_109 {ad : Nat → Nat} {u : mST} : (mFs ad u)[109]? = some (.int (u.1 109)) := rfl
set_option maxRecDepth 100000 in
theorem mSI_109 {ca : Nat → ClassId} {h0 : Nat} {ad : Nat → Nat} {u : mST} {x : Int32} : (mCl ca h0 ad u).set 0 (h0, .inr (12, (mFs ad u).set 109 (.int x))) = mCl ca h0 ad (mI u 109 x) := rfl
set_option maxRecDepth 100000 in
theorem mF_110 {ad : Nat → Nat} {u : mST} : (mFs ad u)[110]? = some (.int (u.1 110)) := rfl
set_option maxRecDepth 100000 in
theorem mSI_110 {ca : Nat → ClassId} {h0 : Nat} {ad : Nat → Nat} {u : mST} {x : Int32} : (mCl ca h0 ad u).set 0 (h0, .inr (12, (mFs ad u).set 110 (.int x))) = mCl ca h0 ad (mI u 110 x) := rfl
set_option maxRecDepth 100000 in
theorem mF_111 {ad : Nat → Nat} {u : mST} : (mFs ad u)[111]? = some (.int (u.1 111)) := rfl
set_option maxRecDepth 100000 in
theorem mSI_111 {ca : Nat → ClassId} {h0 : Nat} {ad : Nat → Nat} {u : mST} {x : Int32} : (mCl ca h0 ad u).set 0 (h0, .inr (12, (mFs ad u).set 111 (.int x))) = mCl ca h0 ad (mI u 111 x) := rfl
set_option maxRecDepth 100000 in
theorem mF_112 {ad : Nat → Nat} {u : mST} : (mFs ad u)[112]? = some (.ref (ad 112)) := rfl
set_option maxRecDepth 100000 in
theorem mG_112 {ca : Nat → ClassId} {h0 : Nat} {ad : Nat → Nat} {u : mST} : (mCl ca h0 ad u)[71]? = some (ad 112, .inl (ca 112, 800, .inl (u.2.1 112))) := rfl
set_option maxRecDepth 100000 in
theorem mSA_112 {ca : Nat → ClassId} {h0 : Nat} {ad : Nat → Nat} {u : mST} {i : Nat} {x : Int32} : (mCl ca h0 ad u).set 71 (ad 112, .inl (ca 112, 800, .inl (upd (u.2.1 112) i x))) = mCl ca h0 ad (mA u 112 i x) := rfl
set_option maxRecDepth 100000 in
theorem mF_113 {ad : Nat → Nat} {u : mST} : (mFs ad u)[113]? = some (.ref (ad 113)) := rfl
set_option maxRecDepth 100000 in
theorem mG_113 {ca : Nat → ClassId} {h0 : Nat} {ad : Nat → Nat} {u : mST} : (mCl ca h0 ad u)[72]? = some (ad 113, .inl (ca 113, 800, .inl (u.2.1 113))) := rfl
set_option maxRecDepth 100000 in
theorem mSA_113 {ca : Nat → ClassId} {h0 : Nat} {ad : Nat → Nat} {u : mST} {i : Nat} {x : Int32} : (mCl ca h0 ad u).set 72 (ad 113, .inl (ca 113, 800, .inl (upd (u.2.1 113) i x))) = mCl ca h0 ad (mA u 113 i x) := rfl
set_option maxRecDepth 100000 in
theorem mF_114 {ad : Nat → Nat} {u : mST} : (mFs ad u)[114]? = some (.ref (ad 114)) := rfl
set_option maxRecDepth 100000 in
theorem mG_114 {ca : Nat → ClassId} {h0 : Nat} {ad : Nat → Nat} {u : mST} : (mCl ca h0 ad u)[73]? = some (ad 114, .inl (ca 114, 69000, .inl (u.2.1 114))) := rfl
set_option maxRecDepth 100000 in
theorem mSA_114 {ca : Nat → ClassId} {h0 : Nat} {ad : Nat → Nat} {u : mST} {i : Nat} {x : Int32} : (mCl ca h0 ad u).set 73 (ad 114, .inl (ca 114, 69000, .inl (upd (u.2.1 114) i x))) = mCl ca h0 ad (mA u 114 i x) := rfl
set_option maxRecDepth 100000 in
theorem mF_115 {ad : Nat → Nat} {u : mST} : (mFs ad u)[115]? = some (.ref (ad 115)) := rfl
set_option maxRecDepth 100000 in
theorem mG_115 {ca : Nat → ClassId} {h0 : Nat} {ad : Nat → Nat} {u : mST} : (mCl ca h0 ad u)[74]? = some (ad 115, .inl (ca 115, 2300, .inl (u.2.1 115))) := rfl
set_option maxRecDepth 100000 in
theorem mSA_115 {ca : Nat → ClassId} {h0 : Nat} {ad : Nat → Nat} {u : mST} {i : Nat} {x : Int32} : (mCl ca h0 ad u).set 74 (ad 115, .inl (ca 115, 2300, .inl (upd (u.2.1 115) i x))) = mCl ca h0 ad (mA u 115 i x) := rfl
set_option maxRecDepth 100000 in
theorem mF_116 {ad : Nat → Nat} {u : mST} : (mFs ad u)[116]? = some (.ref (ad 116)) := rfl
set_option maxRecDepth 100000 in
theorem mG_116 {ca : Nat → ClassId} {h0 : Nat} {ad : Nat → Nat} {u : mST} : (mCl ca h0 ad u)[75]? = some (ad 116, .inl (ca 116, 2300, .inl (u.2.1 116))) := rfl
set_option maxRecDepth 100000 in
theorem mSA_116 {ca : Nat → ClassId} {h0 : Nat} {ad : Nat → Nat} {u : mST} {i : Nat} {x : Int32} : (mCl ca h0 ad u).set 75 (ad 116, .inl (ca 116, 2300, .inl (upd (u.2.1 116) i x))) = mCl ca h0 ad (mA u 116 i x) := rfl
set_option maxRecDepth 100000 in
theorem mF_117 {ad : Nat → Nat} {u : mST} : (mFs ad u)[117]? = some (.int (u.1 117)) := rfl
set_option maxRecDepth 100000 in
theorem mSI_117 {ca : Nat → ClassId} {h0 : Nat} {ad : Nat → Nat} {u : mST} {x : Int32} : (mCl ca h0 ad u).set 0 (h0, .inr (12, (mFs ad u).set 117 (.int x))) = mCl ca h0 ad (mI u 117 x) := rfl
set_option maxRecDepth 100000 in
theorem mF_118 {ad : Nat → Nat} {u : mST} : (mFs ad u)[118]? = some (.ref (ad 118)) := rfl
set_option maxRecDepth 100000 in
theorem mG_118 {ca : Nat → ClassId} {h0 : Nat} {ad : Nat → Nat} {u : mST} : (mCl ca h0 ad u)[76]? = some (ad 118, .inl (ca 118, 2300, .inl (u.2.1 118))) := rfl
set_option maxRecDepth 100000 in
theorem mSA_118 {ca : Nat → ClassId} {h0 : Nat} {ad : Nat → Nat} {u : mST} {i : Nat} {x : Int32} : (mCl ca h0 ad u).set 76 (ad 118, .inl (ca 118, 2300, .inl (upd (u.2.1 118) i x))) = mCl ca h0 ad (mA u 118 i x) := rfl
set_option maxRecDepth 100000 in
theorem mF_119 {ad : Nat → Nat} {u : mST} : (mFs ad u)[119]? = some (.int (u.1 119)) := rfl
set_option maxRecDepth 100000 in
theorem mSI_119 {ca : Nat → ClassId} {h0 : Nat} {ad : Nat → Nat} {u : mST} {x : Int32} : (mCl ca h0 ad u).set 0 (h0, .inr (12, (mFs ad u).set 119 (.int x))) = mCl ca h0 ad (mI u 119 x) := rfl
set_option maxRecDepth 100000 in
theorem mF_120 {ad : Nat → Nat} {u : mST} : (mFs ad u)[120]? = some (.ref (ad 120)) := rfl
set_option maxRecDepth 100000 in
theorem mG_120 {ca : Nat → ClassId} {h0 : Nat} {ad : Nat → Nat} {u : mST} : (mCl ca h0 ad u)[77]? = some (ad 120, .inl (ca 120, 20, .inl (u.2.1 120))) := rfl
set_option maxRecDepth 100000 in
theorem mSA_120 {ca : Nat → ClassId} {h0 : Nat} {ad : Nat → Nat} {u : mST} {i : Nat} {x : Int32} : (mCl ca h0 ad u).set 77 (ad 120, .inl (ca 120, 20, .inl (upd (u.2.1 120) i x))) = mCl ca h0 ad (mA u 120 i x) := rfl
set_option maxRecDepth 100000 in
theorem mF_121 {ad : Nat → Nat} {u : mST} : (mFs ad u)[121]? = some (.ref (ad 121)) := rfl
set_option maxRecDepth 100000 in
theorem mG_121 {ca : Nat → ClassId} {h0 : Nat} {ad : Nat → Nat} {u : mST} : (mCl ca h0 ad u)[78]? = some (ad 121, .inl (ca 121, 1200, .inl (u.2.1 121))) := rfl
set_option maxRecDepth 100000 in
theorem mSA_121 {ca : Nat → ClassId} {h0 : Nat} {ad : Nat → Nat} {u : mST} {i : Nat} {x : Int32} : (mCl ca h0 ad u).set 78 (ad 121, .inl (ca 121, 1200, .inl (upd (u.2.1 121) i x))) = mCl ca h0 ad (mA u 121 i x) := rfl
set_option maxRecDepth 100000 in
theorem mF_122 {ad : Nat → Nat} {u : mST} : (mFs ad u)[122]? = some (.int (u.1 122)) := rfl
set_option maxRecDepth 100000 in
theorem mSI_122 {ca : Nat → ClassId} {h0 : Nat} {ad : Nat → Nat} {u : mST} {x : Int32} : (mCl ca h0 ad u).set 0 (h0, .inr (12, (mFs ad u).set 122 (.int x))) = mCl ca h0 ad (mI u 122 x) := rfl
set_option maxRecDepth 100000 in
theorem mF_123 {ad : Nat → Nat} {u : mST} : (mFs ad u)[123]? = some (.ref (ad 123)) := rfl
set_option maxRecDepth 100000 in
theorem mG_123 {ca : Nat → ClassId} {h0 : Nat} {ad : Nat → Nat} {u : mST} : (mCl ca h0 ad u)[79]? = some (ad 123, .inl (ca 123, 128, .inl (u.2.1 123))) := rfl
set_option maxRecDepth 100000 in
theorem mSA_123 {ca : Nat → ClassId} {h0 : Nat} {ad : Nat → Nat} {u : mST} {i : Nat} {x : Int32} : (mCl ca h0 ad u).set 79 (ad 123, .inl (ca 123, 128, .inl (upd (u.2.1 123) i x))) = mCl ca h0 ad (mA u 123 i x) := rfl
set_option maxRecDepth 100000 in
theorem mF_124 {ad : Nat → Nat} {u : mST} : (mFs ad u)[124]? = some (.ref (ad 124)) := rfl
set_option maxRecDepth 100000 in
theorem mG_124 {ca : Nat → ClassId} {h0 : Nat} {ad : Nat → Nat} {u : mST} : (mCl ca h0 ad u)[80]? = some (ad 124, .inl (ca 124, 8192, .inl (u.2.1 124))) := rfl
set_option maxRecDepth 100000 in
theorem mSA_124 {ca : Nat → ClassId} {h0 : Nat} {ad : Nat → Nat} {u : mST} {i : Nat} {x : Int32} : (mCl ca h0 ad u).set 80 (ad 124, .inl (ca 124, 8192, .inl (upd (u.2.1 124) i x))) = mCl ca h0 ad (mA u 124 i x) := rfl
set_option maxRecDepth 100000 in
theorem mF_125 {ad : Nat → Nat} {u : mST} : (mFs ad u)[125]? = some (.ref (ad 125)) := rfl
set_option maxRecDepth 100000 in
theorem mG_125 {ca : Nat → ClassId} {h0 : Nat} {ad : Nat → Nat} {u : mST} : (mCl ca h0 ad u)[81]? = some (ad 125, .inl (ca 125, 128, .inl (u.2.1 125))) := rfl
set_option maxRecDepth 100000 in
theorem mSA_125 {ca : Nat → ClassId} {h0 : Nat} {ad : Nat → Nat} {u : mST} {i : Nat} {x : Int32} : (mCl ca h0 ad u).set 81 (ad 125, .inl (ca 125, 128, .inl (upd (u.2.1 125) i x))) = mCl ca h0 ad (mA u 125 i x) := rfl
set_option maxRecDepth 100000 in
theorem mF_126 {ad : Nat → Nat} {u : mST} : (mFs ad u)[126]? = some (.int (u.1 126)) := rfl
set_option maxRecDepth 100000 in
theorem mSI_126 {ca : Nat → ClassId} {h0 : Nat} {ad : Nat → Nat} {u : mST} {x : Int32} : (mCl ca h0 ad u).set 0 (h0, .inr (12, (mFs ad u).set 126 (.int x))) = mCl ca h0 ad (mI u 126 x) := rfl
set_option maxRecDepth 100000 in
theorem mF_127 {ad : Nat → Nat} {u : mST} : (mFs ad u)[127]? = some (.ref (ad 127)) := rfl
set_option maxRecDepth 100000 in
theorem mG_127 {ca : Nat → ClassId} {h0 : Nat} {ad : Nat → Nat} {u : mST} : (mCl ca h0 ad u)[82]? = some (ad 127, .inl (ca 127, 128, .inl (u.2.1 127))) := rfl
set_option maxRecDepth 100000 in
theorem mSA_127 {ca : Nat → ClassId} {h0 : Nat} {ad : Nat → Nat} {u : mST} {i : Nat} {x : Int32} : (mCl ca h0 ad u).set 82 (ad 127, .inl (ca 127, 128, .inl (upd (u.2.1 127) i x))) = mCl ca h0 ad (mA u 127 i x) := rfl
set_option maxRecDepth 100000 in
theorem mF_128 {ad : Nat → Nat} {u : mST} : (mFs ad u)[128]? = some (.ref (ad 128)) := rfl
set_option maxRecDepth 100000 in
theorem mG_128 {ca : Nat → ClassId} {h0 : Nat} {ad : Nat → Nat} {u : mST} : (mCl ca h0 ad u)[83]? = some (ad 128, .inl (ca 128, 8192, .inl (u.2.1 128))) := rfl
set_option maxRecDepth 100000 in
theorem mSA_128 {ca : Nat → ClassId} {h0 : Nat} {ad : Nat → Nat} {u : mST} {i : Nat} {x : Int32} : (mCl ca h0 ad u).set 83 (ad 128, .inl (ca 128, 8192, .inl (upd (u.2.1 128) i x))) = mCl ca h0 ad (mA u 128 i x) := rfl
set_option maxRecDepth 100000 in
theorem mF_129 {ad : Nat → Nat} {u : mST} : (mFs ad u)[129]? = some (.ref (ad 129)) := rfl
set_option maxRecDepth 100000 in
theorem mG_129 {ca : Nat → ClassId} {h0 : Nat} {ad : Nat → Nat} {u : mST} : (mCl ca h0 ad u)[84]? = some (ad 129, .inl (ca 129, 128, .inl (u.2.1 129))) := rfl
set_option maxRecDepth 100000 in
theorem mSA_129 {ca : Nat → ClassId} {h0 : Nat} {ad : Nat → Nat} {u : mST} {i : Nat} {x : Int32} : (mCl ca h0 ad u).set 84 (ad 129, .inl (ca 129, 128, .inl (upd (u.2.1 129) i x))) = mCl ca h0 ad (mA u 129 i x) := rfl
set_option maxRecDepth 100000 in
theorem mF_130 {ad : Nat → Nat} {u : mST} : (mFs ad u)[130]? = some (.ref (ad 130)) := rfl
set_option maxRecDepth 100000 in
theorem mG_130 {ca : Nat → ClassId} {h0 : Nat} {ad : Nat → Nat} {u : mST} : (mCl ca h0 ad u)[85]? = some (ad 130, .inl (ca 130, 130, .inl (u.2.1 130))) := rfl
set_option maxRecDepth 100000 in
theorem mSA_130 {ca : Nat → ClassId} {h0 : Nat} {ad : Nat → Nat} {u : mST} {i : Nat} {x : Int32} : (mCl ca h0 ad u).set 85 (ad 130, .inl (ca 130, 130, .inl (upd (u.2.1 130) i x))) = mCl ca h0 ad (mA u 130 i x) := rfl
set_option maxRecDepth 100000 in
theorem mF_131 {ad : Nat → Nat} {u : mST} : (mFs ad u)[131]? = some (.int (u.1 131)) := rfl
set_option maxRecDepth 100000 in
theorem mSI_131 {ca : Nat → ClassId} {h0 : Nat} {ad : Nat → Nat} {u : mST} {x : Int32} : (mCl ca h0 ad u).set 0 (h0, .inr (12, (mFs ad u).set 131 (.int x))) = mCl ca h0 ad (mI u 131 x) := rfl
set_option maxRecDepth 100000 in
theorem mF_132 {ad : Nat → Nat} {u : mST} : (mFs ad u)[132]? = some (.int (u.1 132)) := rfl
set_option maxRecDepth 100000 in
theorem mSI_132 {ca : Nat → ClassId} {h0 : Nat} {ad : Nat → Nat} {u : mST} {x : Int32} : (mCl ca h0 ad u).set 0 (h0, .inr (12, (mFs ad u).set 132 (.int x))) = mCl ca h0 ad (mI u 132 x) := rfl
set_option maxRecDepth 100000 in
theorem mF_133 {ad : Nat → Nat} {u : mST} : (mFs ad u)[133]? = some (.int (u.1 133)) := rfl
set_option maxRecDepth 100000 in
theorem mSI_133 {ca : Nat → ClassId} {h0 : Nat} {ad : Nat → Nat} {u : mST} {x : Int32} : (mCl ca h0 ad u).set 0 (h0, .inr (12, (mFs ad u).set 133 (.int x))) = mCl ca h0 ad (mI u 133 x) := rfl
set_option maxRecDepth 100000 in
theorem mF_134 {ad : Nat → Nat} {u : mST} : (mFs ad u)[134]? = some (.int (u.1 134)) := rfl
set_option maxRecDepth 100000 in
theorem mSI_134 {ca : Nat → ClassId} {h0 : Nat} {ad : Nat → Nat} {u : mST} {x : Int32} : (mCl ca h0 ad u).set 0 (h0, .inr (12, (mFs ad u).set 134 (.int x))) = mCl ca h0 ad (mI u 134 x) := rfl
set_option maxRecDepth 100000 in
theorem mF_135 {ad : Nat → Nat} {u : mST} : (mFs ad u)[135]? = some (.int (u.1 135)) := rfl
set_option maxRecDepth 100000 in
theorem mSI_135 {ca : Nat → ClassId} {h0 : Nat} {ad : Nat → Nat} {u : mST} {x : Int32} : (mCl ca h0 ad u).set 0 (h0, .inr (12, (mFs ad u).set 135 (.int x))) = mCl ca h0 ad (mI u 135 x) := rfl
set_option maxRecDepth 100000 in
theorem mF_136 {ad : Nat → Nat} {u : mST} : (mFs ad u)[136]? = some (.int (u.1 136)) := rfl
set_option maxRecDepth 100000 in
theorem mSI_136 {ca : Nat → ClassId} {h0 : Nat} {ad : Nat → Nat} {u : mST} {x : Int32} : (mCl ca h0 ad u).set 0 (h0, .inr (12, (mFs ad u).set 136 (.int x))) = mCl ca h0 ad (mI u 136 x) := rfl
set_option maxRecDepth 100000 in
theorem mF_137 {ad : Nat → Nat} {u : mST} : (mFs ad u)[137]? = some (.ref (ad 137)) := rfl
set_option maxRecDepth 100000 in
theorem mG_137 {ca : Nat → ClassId} {h0 : Nat} {ad : Nat → Nat} {u : mST} : (mCl ca h0 ad u)[86]? = some (ad 137, .inl (ca 137, 400, .inl (u.2.1 137))) := rfl
set_option maxRecDepth 100000 in
theorem mSA_137 {ca : Nat → ClassId} {h0 : Nat} {ad : Nat → Nat} {u : mST} {i : Nat} {x : Int32} : (mCl ca h0 ad u).set 86 (ad 137, .inl (ca 137, 400, .inl (upd (u.2.1 137) i x))) = mCl ca h0 ad (mA u 137 i x) := rfl
set_option maxRecDepth 100000 in
theorem mF_138 {ad : Nat → Nat} {u : mST} : (mFs ad u)[138]? = some (.ref (ad 138)) := rfl
set_option maxRecDepth 100000 in
theorem mG_138 {ca : Nat → ClassId} {h0 : Nat} {ad : Nat → Nat} {u : mST} : (mCl ca h0 ad u)[87]? = some (ad 138, .inl (ca 138, 400, .inl (u.2.1 138))) := rfl
set_option maxRecDepth 100000 in
theorem mSA_138 {ca : Nat → ClassId} {h0 : Nat} {ad : Nat → Nat} {u : mST} {i : Nat} {x : Int32} : (mCl ca h0 ad u).set 87 (ad 138, .inl (ca 138, 400, .inl (upd (u.2.1 138) i x))) = mCl ca h0 ad (mA u 138 i x) := rfl
set_option maxRecDepth 100000 in
theorem mF_139 {ad : Nat → Nat} {u : mST} : (mFs ad u)[139]? = some (.int (u.1 139)) := rfl
set_option maxRecDepth 100000 in
theorem mSI_139 {ca : Nat → ClassId} {h0 : Nat} {ad : Nat → Nat} {u : mST} {x : Int32} : (mCl ca h0 ad u).set 0 (h0, .inr (12, (mFs ad u).set 139 (.int x))) = mCl ca h0 ad (mI u 139 x) := rfl
set_option maxRecDepth 100000 in
theorem mF_140 {ad : Nat → Nat} {u : mST} : (mFs ad u)[140]? = some (.ref (ad 140)) := rfl
set_option maxRecDepth 100000 in
theorem mG_140 {ca : Nat → ClassId} {h0 : Nat} {ad : Nat → Nat} {u : mST} : (mCl ca h0 ad u)[88]? = some (ad 140, .inl (ca 140, 6, .inl (u.2.1 140))) := rfl
set_option maxRecDepth 100000 in
theorem mSA_140 {ca : Nat → ClassId} {h0 : Nat} {ad : Nat → Nat} {u : mST} {i : Nat} {x : Int32} : (mCl ca h0 ad u).set 88 (ad 140, .inl (ca 140, 6, .inl (upd (u.2.1 140) i x))) = mCl ca h0 ad (mA u 140 i x) := rfl
set_option maxRecDepth 100000 in
theorem mF_141 {ad : Nat → Nat} {u : mST} : (mFs ad u)[141]? = some (.ref (ad 141)) := rfl
set_option maxRecDepth 100000 in
theorem mG_141 {ca : Nat → ClassId} {h0 : Nat} {ad : Nat → Nat} {u : mST} : (mCl ca h0 ad u)[89]? = some (ad 141, .inl (ca 141, 40, .inl (u.2.1 141))) := rfl
set_option maxRecDepth 100000 in
theorem mSA_141 {ca : Nat → ClassId} {h0 : Nat} {ad : Nat → Nat} {u : mST} {i : Nat} {x : Int32} : (mCl ca h0 ad u).set 89 (ad 141, .inl (ca 141, 40, .inl (upd (u.2.1 141) i x))) = mCl ca h0 ad (mA u 141 i x) := rfl
set_option maxRecDepth 100000 in
theorem mF_142 {ad : Nat → Nat} {u : mST} : (mFs ad u)[142]? = some (.ref (ad 142)) := rfl
set_option maxRecDepth 100000 in
theorem mG_142 {ca : Nat → ClassId} {h0 : Nat} {ad : Nat → Nat} {u : mST} : (mCl ca h0 ad u)[90]? = some (ad 142, .inl (ca 142, 40, .inl (u.2.1 142))) := rfl
set_option maxRecDepth 100000 in
theorem mSA_142 {ca : Nat → ClassId} {h0 : Nat} {ad : Nat → Nat} {u : mST} {i : Nat} {x : Int32} : (mCl ca h0 ad u).set 90 (ad 142, .inl (ca 142, 40, .inl (upd (u.2.1 142) i x))) = mCl ca h0 ad (mA u 142 i x) := rfl
set_option maxRecDepth 100000 in
theorem mF_143 {ad : Nat → Nat} {u : mST} : (mFs ad u)[143]? = some (.ref (ad 143)) := rfl
set_option maxRecDepth 100000 in
theorem mG_143 {ca : Nat → ClassId} {h0 : Nat} {ad : Nat → Nat} {u : mST} : (mCl ca h0 ad u)[91]? = some (ad 143, .inl (ca 143, 40, .inl (u.2.1 143))) := rfl
set_option maxRecDepth 100000 in
theorem mSA_143 {ca : Nat → ClassId} {h0 : Nat} {ad : Nat → Nat} {u : mST} {i : Nat} {x : Int32} : (mCl ca h0 ad u).set 91 (ad 143, .inl (ca 143, 40, .inl (upd (u.2.1 143) i x))) = mCl ca h0 ad (mA u 143 i x) := rfl
set_option maxRecDepth 100000 in
theorem mF_144 {ad : Nat → Nat} {u : mST} : (mFs ad u)[144]? = some (.int (u.1 144)) := rfl
set_option maxRecDepth 100000 in
theorem mSI_144 {ca : Nat → ClassId} {h0 : Nat} {ad : Nat → Nat} {u : mST} {x : Int32} : (mCl ca h0 ad u).set 0 (h0, .inr (12, (mFs ad u).set 144 (.int x))) = mCl ca h0 ad (mI u 144 x) := rfl
set_option maxRecDepth 100000 in
theorem mF_145 {ad : Nat → Nat} {u : mST} : (mFs ad u)[145]? = some (.ref (ad 145)) := rfl
set_option maxRecDepth 100000 in
theorem mG_145 {ca : Nat → ClassId} {h0 : Nat} {ad : Nat → Nat} {u : mST} : (mCl ca h0 ad u)[92]? = some (ad 145, .inl (ca 145, 10500, .inl (u.2.1 145))) := rfl
set_option maxRecDepth 100000 in
theorem mSA_145 {ca : Nat → ClassId} {h0 : Nat} {ad : Nat → Nat} {u : mST} {i : Nat} {x : Int32} : (mCl ca h0 ad u).set 92 (ad 145, .inl (ca 145, 10500, .inl (upd (u.2.1 145) i x))) = mCl ca h0 ad (mA u 145 i x) := rfl
set_option maxRecDepth 100000 in
theorem mF_146 {ad : Nat → Nat} {u : mST} : (mFs ad u)[146]? = some (.ref (ad 146)) := rfl
set_option maxRecDepth 100000 in
theorem mG_146 {ca : Nat → ClassId} {h0 : Nat} {ad : Nat → Nat} {u : mST} : (mCl ca h0 ad u)[93]? = some (ad 146, .inl (ca 146, 350, .inl (u.2.1 146))) := rfl
set_option maxRecDepth 100000 in
theorem mSA_146 {ca : Nat → ClassId} {h0 : Nat} {ad : Nat → Nat} {u : mST} {i : Nat} {x : Int32} : (mCl ca h0 ad u).set 93 (ad 146, .inl (ca 146, 350, .inl (upd (u.2.1 146) i x))) = mCl ca h0 ad (mA u 146 i x) := rfl
set_option maxRecDepth 100000 in
theorem mF_147 {ad : Nat → Nat} {u : mST} : (mFs ad u)[147]? = some (.int (u.1 147)) := rfl
set_option maxRecDepth 100000 in
theorem mSI_147 {ca : Nat → ClassId} {h0 : Nat} {ad : Nat → Nat} {u : mST} {x : Int32} : (mCl ca h0 ad u).set 0 (h0, .inr (12, (mFs ad u).set 147 (.int x))) = mCl ca h0 ad (mI u 147 x) := rfl
set_option maxRecDepth 100000 in
theorem mF_148 {ad : Nat → Nat} {u : mST} : (mFs ad u)[148]? = some (.int (u.1 148)) := rfl
set_option maxRecDepth 100000 in
theorem mSI_148 {ca : Nat → ClassId} {h0 : Nat} {ad : Nat → Nat} {u : mST} {x : Int32} : (mCl ca h0 ad u).set 0 (h0, .inr (12, (mFs ad u).set 148 (.int x))) = mCl ca h0 ad (mI u 148 x) := rfl
theorem mI_s (u : mST) (k : Nat) (v : Int32) : (mI u k v).1 k = v := if_pos rfl
theorem mI_n (u : mST) {k j : Nat} (v : Int32) (h : j ≠ k) : (mI u k v).1 j = u.1 j := if_neg h
theorem mI_r (u : mST) (k : Nat) (v : Int32) : (mI u k v).2 = u.2 := rfl
theorem mA_i (u : mST) (k i : Nat) (v : Int32) : (mA u k i v).1 = u.1 := rfl
theorem mA_s (u : mST) (k i : Nat) (v : Int32) : (mA u k i v).2.1 k = upd (u.2.1 k) i v := if_pos rfl
theorem mA_n (u : mST) {k j : Nat} (i : Nat) (v : Int32) (h : j ≠ k) : (mA u k i v).2.1 j = u.2.1 j := if_neg h
end
section
set_option maxHeartbeats 4000000 in
set_option maxRecDepth 100000 in
/-- isPair(o) -/
theorem c_m_isPair (l : Launch) (D : va_G) (ca : Nat → ClassId) (h0 sz : Nat) (ad : Nat → Nat) (u : mST) (i : Int32)  (hi : vp_in i 452000) : Met l yX12_isPair wsX12_isPair pR_0 (va_Pc [.ref (h0), .int (i)] (fun U => U.heap.size = sz ∧ mWd D ca (fun _ => True) h0 ad u U)) (va_Qi (fun (r : Int32) (v : mST) => v = u ∧ r = if u.2.1 0 i.toNatClampNeg < 0 then 0 else 1) (mWd D ca (va_A (mCl ca h0 ad u) sz) h0 ad) (va_A (mCl ca h0 ad u) sz)) 0 0 (va_A (mCl ca h0 ad u) sz) := by
  refine Met.ofW (cc := cX12_isPair) (maxL := 2) (ret := (some .boolean)) (by decide) rfl ?_
  intro p e s m args below meth c s₁ B hml hv
  obtain ⟨rfl, hsz, hP, hK, hD0⟩ := hv
  have hx := B.exec
  have hb := B.bytes
  have hr := B.returns
  have hts := atoms_spec (ws := wsX12_isPair) B.pre
  have hown : s.vm.findClass RX12 = some m.cls := findClass_of_methodNamed B.named
  have hlocks := B.notSynchronized
  subst hsz
  have hD := hD0.self (sz := s.heap.size)
  generalize hAe : va_A (mCl ca h0 ad u) s.heap.size = A at hD ⊢
  have hA : ∀ q : Nat, s.heap.size ≤ q → A q := fun q h => by rw [← hAe]; exact Or.inr h
  have hS : va_S A s.heap s.heap [] := va_S.rf
  have L_left := hts (.fieldLink RX12 8 "ProofHouseModel" "left" "[I") (by decide +kernel)
  have hin : ∀ w ∈ wsX120, w ∈ wsX12_isPair := by decide +kernel
  have hl := lv_entry ([.ref (h0), .int (i)]) (n := 2) (Nat.le_of_ble_eq_true rfl)
  rw [lg_entry_eq]
  generalize (lg_sl ([.ref (h0), .int (i)]) ++ List.replicate (2 - (lg_sl ([.ref (h0), .int (i)])).length) Slot.unset).toArray = ls at hl ⊢
  have hl : lv_has ls 2 [(0, .ref (h0)), (1, .int (i))] := hl
  refine lv_aload_n hx hb dX12_isPair_0 rfl (lv_at hl 0 rfl) ?_
  refine va_get (D := D) (ci := 12) (v := .ref (ad 0)) (C := RX12) (T := TX12) (N := 149) hx hb hts hin hown hK hP 0 mH_0 rfl 0 (by decide) L_left (fun _ h9 => h9) mF_0 dX12_isPair_1 ?_
  refine lv_iload_n hx hb dX12_isPair_4 rfl (lv_at hl 1 rfl) ?_
  refine va_iald hx hb hK hP 1 0 mG_0 rfl (by assumption) dX12_isPair_5 ?_
  refine lv_topi (fun v1 ev1 => ?_)
  have ev1 : v1 = (u.2.1 0) (i).toNatClampNeg := ev1
  refine lv_if_lt hx hb dX12_isPair_6 (tgt := 13) rfl (fun h2 => ?_) (fun h2 => ?_)
  · refine lv_iconst hx hb dX12_isPair_13 (v := 0) rfl ?_
    exact W.zret (v := 0) hx hb hr rfl (fun t ht hW => ⟨⟨0, u, rfl, ⟨rfl, by rw [← ev1]; first | rw [if_pos h2] | rw [if_neg h2]⟩, by rw [ht]; exact hP, va_K.moved hW.alike hK, hD⟩, hS.F ht⟩) hS.2.2 dX12_isPair_14
  · refine lv_iconst hx hb dX12_isPair_9 (v := 1) rfl ?_
    refine lv_goto hx hb dX12_isPair_10 (tgt := 14) rfl ?_
    exact W.zret (v := 1) hx hb hr rfl (fun t ht hW => ⟨⟨1, u, rfl, ⟨rfl, by rw [← ev1]; first | rw [if_pos h2] | rw [if_neg h2]⟩, by rw [ht]; exact hP, va_K.moved hW.alike hK, hD⟩, hS.F ht⟩) hS.2.2 dX12_isPair_14

set_option maxHeartbeats 4000000 in
set_option maxRecDepth 100000 in
/-- isNatural(o) -/
theorem c_m_isNatural (l : Launch) (D : va_G) (ca : Nat → ClassId) (h0 sz : Nat) (ad : Nat → Nat) (u : mST) (i : Int32)  (hi : vp_in i 452000) : Met l yX12_isNatural wsX12_isNatural pR_0 (va_Pc [.ref (h0), .int (i)] (fun U => U.heap.size = sz ∧ mWd D ca (fun _ => True) h0 ad u U)) (va_Qi (fun (r : Int32) (v : mST) => v = u ∧ r = if u.2.1 0 i.toNatClampNeg = -1 then 1 else 0) (mWd D ca (va_A (mCl ca h0 ad u) sz) h0 ad) (va_A (mCl ca h0 ad u) sz)) 0 0 (va_A (mCl ca h0 ad u) sz) := by
  refine Met.ofW (cc := cX12_isNatural) (maxL := 2) (ret := (some .boolean)) (by decide) rfl ?_
  intro p e s m args below meth c s₁ B hml hv
  obtain ⟨rfl, hsz, hP, hK, hD0⟩ := hv
  have hx := B.exec
  have hb := B.bytes
  have hr := B.returns
  have hts := atoms_spec (ws := wsX12_isNatural) B.pre
  have hown : s.vm.findClass RX12 = some m.cls := findClass_of_methodNamed B.named
  have hlocks := B.notSynchronized
  subst hsz
  have hD := hD0.self (sz := s.heap.size)
  generalize hAe : va_A (mCl ca h0 ad u) s.heap.size = A at hD ⊢
  have hA : ∀ q : Nat, s.heap.size ≤ q → A q := fun q h => by rw [← hAe]; exact Or.inr h
  have hS : va_S A s.heap s.heap [] := va_S.rf
  have L_left := hts (.fieldLink RX12 8 "ProofHouseModel" "left" "[I") (by decide +kernel)
  have hin : ∀ w ∈ wsX120, w ∈ wsX12_isNatural := by decide +kernel
  have hl := lv_entry ([.ref (h0), .int (i)]) (n := 2) (Nat.le_of_ble_eq_true rfl)
  rw [lg_entry_eq]
  generalize (lg_sl ([.ref (h0), .int (i)]) ++ List.replicate (2 - (lg_sl ([.ref (h0), .int (i)])).length) Slot.unset).toArray = ls at hl ⊢
  have hl : lv_has ls 2 [(0, .ref (h0)), (1, .int (i))] := hl
  refine lv_aload_n hx hb dX12_isNatural_0 rfl (lv_at hl 0 rfl) ?_
  refine va_get (D := D) (ci := 12) (v := .ref (ad 0)) (C := RX12) (T := TX12) (N := 149) hx hb hts hin hown hK hP 0 mH_0 rfl 0 (by decide) L_left (fun _ h9 => h9) mF_0 dX12_isNatural_1 ?_
  refine lv_iload_n hx hb dX12_isNatural_4 rfl (lv_at hl 1 rfl) ?_
  refine va_iald hx hb hK hP 1 0 mG_0 rfl (by assumption) dX12_isNatural_5 ?_
  refine lv_topi (fun v1 ev1 => ?_)
  have ev1 : v1 = (u.2.1 0) (i).toNatClampNeg := ev1
  refine lv_iconst hx hb dX12_isNatural_6 (v := (-1)) rfl ?_
  refine lv_icmp_ne hx hb dX12_isNatural_7 (tgt := 14) rfl (fun h2 => ?_) (fun h2 => ?_)
  · refine lv_iconst hx hb dX12_isNatural_14 (v := 0) rfl ?_
    exact W.zret (v := 0) hx hb hr rfl (fun t ht hW => ⟨⟨0, u, rfl, ⟨rfl, by rw [← ev1]; first | rw [if_pos h2] | rw [if_neg h2]⟩, by rw [ht]; exact hP, va_K.moved hW.alike hK, hD⟩, hS.F ht⟩) hS.2.2 dX12_isNatural_15
  · refine lv_iconst hx hb dX12_isNatural_10 (v := 1) rfl ?_
    refine lv_goto hx hb dX12_isNatural_11 (tgt := 15) rfl ?_
    exact W.zret (v := 1) hx hb hr rfl (fun t ht hW => ⟨⟨1, u, rfl, ⟨rfl, by rw [← ev1]; first | rw [if_pos h2] | rw [if_neg h2]⟩, by rw [ht]; exact hP, va_K.moved hW.alike hK, hD⟩, hS.F ht⟩) hS.2.2 dX12_isNatural_15

set_option maxHeartbeats 4000000 in
set_option maxRecDepth 100000 in
/-- isSymbol(o) -/
theorem c_m_isSymbol (l : Launch) (D : va_G) (ca : Nat → ClassId) (h0 sz : Nat) (ad : Nat → Nat) (u : mST) (i : Int32)  (hi : vp_in i 452000) : Met l yX12_isSymbol wsX12_isSymbol pR_0 (va_Pc [.ref (h0), .int (i)] (fun U => U.heap.size = sz ∧ mWd D ca (fun _ => True) h0 ad u U)) (va_Qi (fun (r : Int32) (v : mST) => v = u ∧ r = if u.2.1 0 i.toNatClampNeg = -2 then 1 else 0) (mWd D ca (va_A (mCl ca h0 ad u) sz) h0 ad) (va_A (mCl ca h0 ad u) sz)) 0 0 (va_A (mCl ca h0 ad u) sz) := by
  refine Met.ofW (cc := cX12_isSymbol) (maxL := 2) (ret := (some .boolean)) (by decide) rfl ?_
  intro p e s m args below meth c s₁ B hml hv
  obtain ⟨rfl, hsz, hP, hK, hD0⟩ := hv
  have hx := B.exec
  have hb := B.bytes
  have hr := B.returns
  have hts := atoms_spec (ws := wsX12_isSymbol) B.pre
  have hown : s.vm.findClass RX12 = some m.cls := findClass_of_methodNamed B.named
  have hlocks := B.notSynchronized
  subst hsz
  have hD := hD0.self (sz := s.heap.size)
  generalize hAe : va_A (mCl ca h0 ad u) s.heap.size = A at hD ⊢
  have hA : ∀ q : Nat, s.heap.size ≤ q → A q := fun q h => by rw [← hAe]; exact Or.inr h
  have hS : va_S A s.heap s.heap [] := va_S.rf
  have L_left := hts (.fieldLink RX12 8 "ProofHouseModel" "left" "[I") (by decide +kernel)
  have hin : ∀ w ∈ wsX120, w ∈ wsX12_isSymbol := by decide +kernel
  have hl := lv_entry ([.ref (h0), .int (i)]) (n := 2) (Nat.le_of_ble_eq_true rfl)
  rw [lg_entry_eq]
  generalize (lg_sl ([.ref (h0), .int (i)]) ++ List.replicate (2 - (lg_sl ([.ref (h0), .int (i)])).length) Slot.unset).toArray = ls at hl ⊢
  have hl : lv_has ls 2 [(0, .ref (h0)), (1, .int (i))] := hl
  refine lv_aload_n hx hb dX12_isSymbol_0 rfl (lv_at hl 0 rfl) ?_
  refine va_get (D := D) (ci := 12) (v := .ref (ad 0)) (C := RX12) (T := TX12) (N := 149) hx hb hts hin hown hK hP 0 mH_0 rfl 0 (by decide) L_left (fun _ h9 => h9) mF_0 dX12_isSymbol_1 ?_
  refine lv_iload_n hx hb dX12_isSymbol_4 rfl (lv_at hl 1 rfl) ?_
  refine va_iald hx hb hK hP 1 0 mG_0 rfl (by assumption) dX12_isSymbol_5 ?_
  refine lv_topi (fun v1 ev1 => ?_)
  have ev1 : v1 = (u.2.1 0) (i).toNatClampNeg := ev1
  refine lv_bipush hx hb dX12_isSymbol_6 (v := (-2)) rfl ?_
  refine lv_icmp_ne hx hb dX12_isSymbol_8 (tgt := 15) rfl (fun h2 => ?_) (fun h2 => ?_)
  · refine lv_iconst hx hb dX12_isSymbol_15 (v := 0) rfl ?_
    exact W.zret (v := 0) hx hb hr rfl (fun t ht hW => ⟨⟨0, u, rfl, ⟨rfl, by rw [← ev1]; first | rw [if_pos h2] | rw [if_neg h2]⟩, by rw [ht]; exact hP, va_K.moved hW.alike hK, hD⟩, hS.F ht⟩) hS.2.2 dX12_isSymbol_16
  · refine lv_iconst hx hb dX12_isSymbol_11 (v := 1) rfl ?_
    refine lv_goto hx hb dX12_isSymbol_12 (tgt := 16) rfl ?_
    exact W.zret (v := 1) hx hb hr rfl (fun t ht hW => ⟨⟨1, u, rfl, ⟨rfl, by rw [← ev1]; first | rw [if_pos h2] | rw [if_neg h2]⟩, by rw [ht]; exact hP, va_K.moved hW.alike hK, hD⟩, hS.F ht⟩) hS.2.2 dX12_isSymbol_16

set_option maxHeartbeats 4000000 in
set_option maxRecDepth 100000 in
/-- spell(c) -/
theorem c_m_spell (l : Launch) (D : va_G) (ca : Nat → ClassId) (h0 sz : Nat) (ad : Nat → Nat) (u : mST) (a : Int32)  (hi : vp_in (u.1 18) 12) : Met l yX12_spell wsX12_spell pR_0 (va_Pc [.ref (h0), .int (a)] (fun U => U.heap.size = sz ∧ mWd D ca (fun _ => True) h0 ad u U)) (va_Qv (fun v : mST => v = if a = 0 then u else mI (mA u 17 (u.1 18).toNatClampNeg a) 18 (u.1 18 + 1)) (mWd D ca (va_A (mCl ca h0 ad u) sz) h0 ad) (va_A (mCl ca h0 ad u) sz)) 0 0 (va_A (mCl ca h0 ad u) sz) := by
  refine Met.ofW (cc := cX12_spell) (maxL := 2) (ret := none) (by decide) rfl ?_
  intro p e s m args below meth c s₁ B hml hv
  obtain ⟨rfl, hsz, hP, hK, hD0⟩ := hv
  have hx := B.exec
  have hb := B.bytes
  have hr := B.returns
  have hts := atoms_spec (ws := wsX12_spell) B.pre
  have hown : s.vm.findClass RX12 = some m.cls := findClass_of_methodNamed B.named
  have hlocks := B.notSynchronized
  subst hsz
  have hD := hD0.self (sz := s.heap.size)
  generalize hAe : va_A (mCl ca h0 ad u) s.heap.size = A at hD ⊢
  have hA : ∀ q : Nat, s.heap.size ≤ q → A q := fun q h => by rw [← hAe]; exact Or.inr h
  have hS : va_S A s.heap s.heap [] := va_S.rf
  have L_word := hts (.fieldLink RX12 50 "ProofHouseModel" "word" "[I") (by decide +kernel)
  have L_wordSize := hts (.fieldLink RX12 309 "ProofHouseModel" "wordSize" "I") (by decide +kernel)
  have hin : ∀ w ∈ wsX120, w ∈ wsX12_spell := by decide +kernel
  have hl := lv_entry ([.ref (h0), .int (a)]) (n := 2) (Nat.le_of_ble_eq_true rfl)
  rw [lg_entry_eq]
  generalize (lg_sl ([.ref (h0), .int (a)]) ++ List.replicate (2 - (lg_sl ([.ref (h0), .int (a)])).length) Slot.unset).toArray = ls at hl ⊢
  have hl : lv_has ls 2 [(0, .ref (h0)), (1, .int (a))] := hl
  refine lv_iload_n hx hb dX12_spell_0 rfl (lv_at hl 1 rfl) ?_
  refine lv_if_ne hx hb dX12_spell_1 (tgt := 5) rfl (fun h1 => ?_) (fun h1 => ?_)
  · refine lv_aload_n hx hb dX12_spell_5 rfl (lv_at hl 0 rfl) ?_
    refine va_get (D := D) (ci := 12) (v := .ref (ad 17)) (C := RX12) (T := TX12) (N := 149) hx hb hts hin hown hK hP 0 mH_0 rfl 17 (by decide) L_word (fun _ h9 => h9) mF_17 dX12_spell_6 ?_
    refine lv_aload_n hx hb dX12_spell_9 rfl (lv_at hl 0 rfl) ?_
    refine va_get (D := D) (ci := 12) (v := .int (u.1 18)) (C := RX12) (T := TX12) (N := 149) hx hb hts hin hown hK hP 0 mH_0 rfl 18 (by decide) L_wordSize (fun _ h9 => h9) mF_18 dX12_spell_10 ?_
    refine lv_iload_n hx hb dX12_spell_13 rfl (lv_at hl 1 rfl) ?_
    refine va_iast hx hb hK hP hD hS 13 12 mG_17 rfl hi dX12_spell_14 (fun H locs hP hD hS => ?_)
    rw [mSA_17] at hP hD
    refine lv_aload_n hx hb dX12_spell_15 rfl (lv_at hl 0 rfl) ?_
    refine lv_dup hx hb dX12_spell_16 rfl ?_
    refine va_get (D := D) (ci := 12) (v := .int (u.1 18)) (C := RX12) (T := TX12) (N := 149) hx hb hts hin hown hK hP 0 mH_0 rfl 18 (by decide) L_wordSize (fun _ h9 => h9) mF_18 dX12_spell_17 ?_
    refine lv_iconst hx hb dX12_spell_20 (v := 1) rfl ?_
    refine lv_iadd hx hb dX12_spell_21 ?_
    refine va_put (D := D) (ci := 12) (v := .int ((u.1 18) + 1)) (ty := .int) (C := RX12) (T := TX12) (N := 149) hx hb hts hin tyX12 tyX12_ok nmX12 hown hK hP hD hS 0 mH_0 rfl 18 (by decide) L_wordSize (fun _ h9 => h9) rfl (tyX12_ok 18 (by decide)) rfl rfl (Nat.le_of_ble_eq_true rfl) dX12_spell_22 (fun H locs hP hD hS => ?_)
    rw [mSI_18] at hP hD
    exact W.vret hx hb hr (fun t ht hW => ⟨⟨mI (mA u 17 (u.1 18).toNatClampNeg (a)) 18 ((u.1 18) + 1), rfl, (if_neg h1).symm, by rw [ht]; exact hP, va_K.moved hW.alike hK, hD⟩, hS.F ht⟩) hS.2.2 dX12_spell_25
  · exact W.vret hx hb hr (fun t ht hW => ⟨⟨u, rfl, (if_pos h1).symm, by rw [ht]; exact hP, va_K.moved hW.alike hK, hD⟩, hS.F ht⟩) hS.2.2 dX12_spell_4
end
section
/-- what added(l, r, h) makes: one object more -/
def m_added (u : mST) (a b h : Int32) : mST := mI (mA (mA (mA (mA (mA (mA u 0 (u.1 8).toNatClampNeg a) 1 (u.1 8).toNatClampNeg b) 2 (u.1 8).toNatClampNeg (u.2.1 7 h.toNatClampNeg)) 3 (u.1 8).toNatClampNeg 0) 4 (u.1 8).toNatClampNeg (if a < 0 then 0 else 1 + (if u.2.1 4 b.toNatClampNeg < u.2.1 4 a.toNatClampNeg then u.2.1 4 a.toNatClampNeg else u.2.1 4 b.toNatClampNeg))) 7 h.toNatClampNeg (u.1 8)) 8 (u.1 8 + 1)

set_option maxHeartbeats 4000000 in
set_option maxRecDepth 100000 in
/-- added(l, r, h) -/
theorem c_m_added (l : Launch) (D : va_G) (ca : Nat → ClassId) (h0 sz : Nat) (ad : Nat → Nat) (u : mST) (a : Int32) (b : Int32) (h : Int32)  (ho : vp_in (u.1 8) 452000) (hh : vp_in h 8192) (hab : 0 ≤ a → vp_in a 452000 ∧ vp_in b 452000) : Met l yX12_added wsX12_added pR_0 (va_Pc [.ref (h0), .int (a), .int (b), .int (h)] (fun U => U.heap.size = sz ∧ mWd D ca (fun _ => True) h0 ad u U)) (va_Qi (fun (r : Int32) (v : mST) => v = m_added u a b h ∧ r = u.1 8 + 1 - 1) (mWd D ca (va_A (mCl ca h0 ad u) sz) h0 ad) (va_A (mCl ca h0 ad u) sz)) 0 0 (va_A (mCl ca h0 ad u) sz) := by
  refine Met.ofW (cc := cX12_added) (maxL := 4) (ret := (some .int)) (by decide) rfl ?_
  intro p e s m args below meth c s₁ B hml hv
  obtain ⟨rfl, hsz, hP, hK, hD0⟩ := hv
  have hx := B.exec
  have hb := B.bytes
  have hr := B.returns
  have hts := atoms_spec (ws := wsX12_added) B.pre
  have hown : s.vm.findClass RX12 = some m.cls := findClass_of_methodNamed B.named
  have hlocks := B.notSynchronized
  subst hsz
  have hD := hD0.self (sz := s.heap.size)
  generalize hAe : va_A (mCl ca h0 ad u) s.heap.size = A at hD ⊢
  have hA : ∀ q : Nat, s.heap.size ≤ q → A q := fun q h => by rw [← hAe]; exact Or.inr h
  have hS : va_S A s.heap s.heap [] := va_S.rf
  have L_left := hts (.fieldLink RX12 8 "ProofHouseModel" "left" "[I") (by decide +kernel)
  have L_objects := hts (.fieldLink RX12 332 "ProofHouseModel" "objects" "I") (by decide +kernel)
  have L_right := hts (.fieldLink RX12 14 "ProofHouseModel" "right" "[I") (by decide +kernel)
  have L_next := hts (.fieldLink RX12 17 "ProofHouseModel" "next" "[I") (by decide +kernel)
  have L_heads := hts (.fieldLink RX12 31 "ProofHouseModel" "heads" "[I") (by decide +kernel)
  have L_sizes := hts (.fieldLink RX12 20 "ProofHouseModel" "sizes" "[I") (by decide +kernel)
  have L_heights := hts (.fieldLink RX12 23 "ProofHouseModel" "heights" "[I") (by decide +kernel)
  have hin : ∀ w ∈ wsX120, w ∈ wsX12_added := by decide +kernel
  have hl := lv_entry ([.ref (h0), .int (a), .int (b), .int (h)]) (n := 4) (Nat.le_of_ble_eq_true rfl)
  rw [lg_entry_eq]
  generalize (lg_sl ([.ref (h0), .int (a), .int (b), .int (h)]) ++ List.replicate (4 - (lg_sl ([.ref (h0), .int (a), .int (b), .int (h)])).length) Slot.unset).toArray = ls at hl ⊢
  have hl : lv_has ls 4 [(0, .ref (h0)), (1, .int (a)), (2, .int (b)), (3, .int (h))] := hl
  refine lv_aload_n hx hb dX12_added_0 rfl (lv_at hl 0 rfl) ?_
  refine va_get (D := D) (ci := 12) (v := .ref (ad 0)) (C := RX12) (T := TX12) (N := 149) hx hb hts hin hown hK hP 0 mH_0 rfl 0 (by decide) L_left (fun _ h9 => h9) mF_0 dX12_added_1 ?_
  refine lv_aload_n hx hb dX12_added_4 rfl (lv_at hl 0 rfl) ?_
  refine va_get (D := D) (ci := 12) (v := .int (u.1 8)) (C := RX12) (T := TX12) (N := 149) hx hb hts hin hown hK hP 0 mH_0 rfl 8 (by decide) L_objects (fun _ h9 => h9) mF_8 dX12_added_5 ?_
  refine lv_iload_n hx hb dX12_added_8 rfl (lv_at hl 1 rfl) ?_
  refine va_iast hx hb hK hP hD hS 1 0 mG_0 rfl ho dX12_added_9 (fun H locs hP hD hS => ?_)
  rw [mSA_0] at hP hD
  refine lv_aload_n hx hb dX12_added_10 rfl (lv_at hl 0 rfl) ?_
  refine va_get (D := D) (ci := 12) (v := .ref (ad 1)) (C := RX12) (T := TX12) (N := 149) hx hb hts hin hown hK hP 0 mH_0 rfl 1 (by decide) L_right (fun _ h9 => h9) mF_1 dX12_added_11 ?_
  refine lv_aload_n hx hb dX12_added_14 rfl (lv_at hl 0 rfl) ?_
  refine va_get (D := D) (ci := 12) (v := .int (u.1 8)) (C := RX12) (T := TX12) (N := 149) hx hb hts hin hown hK hP 0 mH_0 rfl 8 (by decide) L_objects (fun _ h9 => h9) mF_8 dX12_added_15 ?_
  refine lv_iload_n hx hb dX12_added_18 rfl (lv_at hl 2 rfl) ?_
  refine va_iast hx hb hK hP hD hS 2 1 mG_1 rfl ho dX12_added_19 (fun H locs hP hD hS => ?_)
  rw [mSA_1] at hP hD
  refine lv_aload_n hx hb dX12_added_20 rfl (lv_at hl 0 rfl) ?_
  refine va_get (D := D) (ci := 12) (v := .ref (ad 2)) (C := RX12) (T := TX12) (N := 149) hx hb hts hin hown hK hP 0 mH_0 rfl 2 (by decide) L_next (fun _ h9 => h9) mF_2 dX12_added_21 ?_
  refine lv_aload_n hx hb dX12_added_24 rfl (lv_at hl 0 rfl) ?_
  refine va_get (D := D) (ci := 12) (v := .int (u.1 8)) (C := RX12) (T := TX12) (N := 149) hx hb hts hin hown hK hP 0 mH_0 rfl 8 (by decide) L_objects (fun _ h9 => h9) mF_8 dX12_added_25 ?_
  refine lv_aload_n hx hb dX12_added_28 rfl (lv_at hl 0 rfl) ?_
  refine va_get (D := D) (ci := 12) (v := .ref (ad 7)) (C := RX12) (T := TX12) (N := 149) hx hb hts hin hown hK hP 0 mH_0 rfl 7 (by decide) L_heads (fun _ h9 => h9) mF_7 dX12_added_29 ?_
  refine lv_iload_n hx hb dX12_added_32 rfl (lv_at hl 3 rfl) ?_
  refine va_iald hx hb hK hP 7 6 mG_7 rfl hh dX12_added_33 ?_
  refine lv_topi (fun v1 ev1 => ?_)
  have ev1 : v1 = (u.2.1 7) (h).toNatClampNeg := ev1
  refine va_iast hx hb hK hP hD hS 3 2 mG_2 rfl ho dX12_added_34 (fun H locs hP hD hS => ?_)
  rw [mSA_2] at hP hD
  refine lv_aload_n hx hb dX12_added_35 rfl (lv_at hl 0 rfl) ?_
  refine va_get (D := D) (ci := 12) (v := .ref (ad 3)) (C := RX12) (T := TX12) (N := 149) hx hb hts hin hown hK hP 0 mH_0 rfl 3 (by decide) L_sizes (fun _ h9 => h9) mF_3 dX12_added_36 ?_
  refine lv_aload_n hx hb dX12_added_39 rfl (lv_at hl 0 rfl) ?_
  refine va_get (D := D) (ci := 12) (v := .int (u.1 8)) (C := RX12) (T := TX12) (N := 149) hx hb hts hin hown hK hP 0 mH_0 rfl 8 (by decide) L_objects (fun _ h9 => h9) mF_8 dX12_added_40 ?_
  refine lv_iconst hx hb dX12_added_43 (v := 0) rfl ?_
  refine va_iast hx hb hK hP hD hS 4 3 mG_3 rfl ho dX12_added_44 (fun H locs hP hD hS => ?_)
  rw [mSA_3] at hP hD
  refine lv_aload_n hx hb dX12_added_45 rfl (lv_at hl 0 rfl) ?_
  refine va_get (D := D) (ci := 12) (v := .ref (ad 4)) (C := RX12) (T := TX12) (N := 149) hx hb hts hin hown hK hP 0 mH_0 rfl 4 (by decide) L_heights (fun _ h9 => h9) mF_4 dX12_added_46 ?_
  refine lv_aload_n hx hb dX12_added_49 rfl (lv_at hl 0 rfl) ?_
  refine va_get (D := D) (ci := 12) (v := .int (u.1 8)) (C := RX12) (T := TX12) (N := 149) hx hb hts hin hown hK hP 0 mH_0 rfl 8 (by decide) L_objects (fun _ h9 => h9) mF_8 dX12_added_50 ?_
  refine lv_iload_n hx hb dX12_added_53 rfl (lv_at hl 1 rfl) ?_
  refine lv_if_ge hx hb dX12_added_54 (tgt := 61) rfl (fun h2 => ?_) (fun h2 => ?_)
  · refine lv_iconst hx hb dX12_added_61 (v := 1) rfl ?_
    refine lv_aload_n hx hb dX12_added_62 rfl (lv_at hl 0 rfl) ?_
    refine va_get (D := D) (ci := 12) (v := .ref (ad 4)) (C := RX12) (T := TX12) (N := 149) hx hb hts hin hown hK hP 0 mH_0 rfl 4 (by decide) L_heights (fun _ h9 => h9) mF_4 dX12_added_63 ?_
    refine lv_iload_n hx hb dX12_added_66 rfl (lv_at hl 1 rfl) ?_
    refine va_iald hx hb hK hP 5 4 mG_4 rfl (hab h2).1 dX12_added_67 ?_
    refine lv_topi (fun v3 ev3 => ?_)
    have ev3 : v3 = (u.2.1 4) (a).toNatClampNeg := ev3
    refine lv_aload_n hx hb dX12_added_68 rfl (lv_at hl 0 rfl) ?_
    refine va_get (D := D) (ci := 12) (v := .ref (ad 4)) (C := RX12) (T := TX12) (N := 149) hx hb hts hin hown hK hP 0 mH_0 rfl 4 (by decide) L_heights (fun _ h9 => h9) mF_4 dX12_added_69 ?_
    refine lv_iload_n hx hb dX12_added_72 rfl (lv_at hl 2 rfl) ?_
    refine va_iald hx hb hK hP 5 4 mG_4 rfl (hab h2).2 dX12_added_73 ?_
    refine lv_topi (fun v4 ev4 => ?_)
    have ev4 : v4 = (u.2.1 4) (b).toNatClampNeg := ev4
    refine lv_icmp_le hx hb dX12_added_74 (tgt := 86) rfl (fun h5 => ?_) (fun h5 => ?_)
    · refine lv_aload_n hx hb dX12_added_86 rfl (lv_at hl 0 rfl) ?_
      refine va_get (D := D) (ci := 12) (v := .ref (ad 4)) (C := RX12) (T := TX12) (N := 149) hx hb hts hin hown hK hP 0 mH_0 rfl 4 (by decide) L_heights (fun _ h9 => h9) mF_4 dX12_added_87 ?_
      refine lv_iload_n hx hb dX12_added_90 rfl (lv_at hl 2 rfl) ?_
      refine va_iald hx hb hK hP 5 4 mG_4 rfl (hab h2).2 dX12_added_91 ?_
      refine lv_topi (fun v6 ev6 => ?_)
      have ev6 : v6 = (u.2.1 4) (b).toNatClampNeg := ev6
      refine lv_iadd hx hb dX12_added_92 ?_
      refine va_iast hx hb hK hP hD hS 5 4 mG_4 rfl ho dX12_added_93 (fun H locs hP hD hS => ?_)
      rw [mSA_4] at hP hD
      refine lv_aload_n hx hb dX12_added_94 rfl (lv_at hl 0 rfl) ?_
      refine va_get (D := D) (ci := 12) (v := .ref (ad 7)) (C := RX12) (T := TX12) (N := 149) hx hb hts hin hown hK hP 0 mH_0 rfl 7 (by decide) L_heads (fun _ h9 => h9) mF_7 dX12_added_95 ?_
      refine lv_iload_n hx hb dX12_added_98 rfl (lv_at hl 3 rfl) ?_
      refine lv_aload_n hx hb dX12_added_99 rfl (lv_at hl 0 rfl) ?_
      refine va_get (D := D) (ci := 12) (v := .int (u.1 8)) (C := RX12) (T := TX12) (N := 149) hx hb hts hin hown hK hP 0 mH_0 rfl 8 (by decide) L_objects (fun _ h9 => h9) mF_8 dX12_added_100 ?_
      refine va_iast hx hb hK hP hD hS 7 6 mG_7 rfl hh dX12_added_103 (fun H locs hP hD hS => ?_)
      rw [mSA_7] at hP hD
      refine lv_aload_n hx hb dX12_added_104 rfl (lv_at hl 0 rfl) ?_
      refine lv_dup hx hb dX12_added_105 rfl ?_
      refine va_get (D := D) (ci := 12) (v := .int (u.1 8)) (C := RX12) (T := TX12) (N := 149) hx hb hts hin hown hK hP 0 mH_0 rfl 8 (by decide) L_objects (fun _ h9 => h9) mF_8 dX12_added_106 ?_
      refine lv_iconst hx hb dX12_added_109 (v := 1) rfl ?_
      refine lv_iadd hx hb dX12_added_110 ?_
      refine va_put (D := D) (ci := 12) (v := .int ((u.1 8) + 1)) (ty := .int) (C := RX12) (T := TX12) (N := 149) hx hb hts hin tyX12 tyX12_ok nmX12 hown hK hP hD hS 0 mH_0 rfl 8 (by decide) L_objects (fun _ h9 => h9) rfl (tyX12_ok 8 (by decide)) rfl rfl (Nat.le_of_ble_eq_true rfl) dX12_added_111 (fun H locs hP hD hS => ?_)
      rw [mSI_8] at hP hD
      refine lv_aload_n hx hb dX12_added_114 rfl (lv_at hl 0 rfl) ?_
      refine va_get (D := D) (ci := 12) (v := .int ((u.1 8) + 1)) (C := RX12) (T := TX12) (N := 149) hx hb hts hin hown hK hP 0 mH_0 rfl 8 (by decide) L_objects (fun _ h9 => h9) mF_8 dX12_added_115 ?_
      refine lv_iconst hx hb dX12_added_118 (v := 1) rfl ?_
      refine lv_isub hx hb dX12_added_119 ?_
      exact W.iret (v := ((u.1 8) + 1) - 1) hx hb hr (fun t ht hW => ⟨⟨((u.1 8) + 1) - 1, mI (mA (mA (mA (mA (mA (mA u 0 (u.1 8).toNatClampNeg (a)) 1 (u.1 8).toNatClampNeg (b)) 2 (u.1 8).toNatClampNeg (v1)) 3 (u.1 8).toNatClampNeg (0)) 4 (u.1 8).toNatClampNeg (1 + v6)) 7 (h).toNatClampNeg (u.1 8)) 8 ((u.1 8) + 1), rfl, ⟨by subst ev1; unfold m_added; first | (rw [if_pos (Int32.not_le.mp h2)]; done) | (rw [if_neg (Int32.not_lt.mpr h2)]; subst_vars; first | (rw [if_neg (Int32.not_lt.mpr h5)]; done) | (rw [if_pos (Int32.not_le.mp h5)]; done)), by rfl⟩, by rw [ht]; exact hP, va_K.moved hW.alike hK, hD⟩, hS.F ht⟩) hS.2.2 dX12_added_120
    · refine lv_aload_n hx hb dX12_added_77 rfl (lv_at hl 0 rfl) ?_
      refine va_get (D := D) (ci := 12) (v := .ref (ad 4)) (C := RX12) (T := TX12) (N := 149) hx hb hts hin hown hK hP 0 mH_0 rfl 4 (by decide) L_heights (fun _ h9 => h9) mF_4 dX12_added_78 ?_
      refine lv_iload_n hx hb dX12_added_81 rfl (lv_at hl 1 rfl) ?_
      refine va_iald hx hb hK hP 5 4 mG_4 rfl (hab h2).1 dX12_added_82 ?_
      refine lv_topi (fun v7 ev7 => ?_)
      have ev7 : v7 = (u.2.1 4) (a).toNatClampNeg := ev7
      refine lv_goto hx hb dX12_added_83 (tgt := 92) rfl ?_
      refine lv_iadd hx hb dX12_added_92 ?_
      refine va_iast hx hb hK hP hD hS 5 4 mG_4 rfl ho dX12_added_93 (fun H locs hP hD hS => ?_)
      rw [mSA_4] at hP hD
      refine lv_aload_n hx hb dX12_added_94 rfl (lv_at hl 0 rfl) ?_
      refine va_get (D := D) (ci := 12) (v := .ref (ad 7)) (C := RX12) (T := TX12) (N := 149) hx hb hts hin hown hK hP 0 mH_0 rfl 7 (by decide) L_heads (fun _ h9 => h9) mF_7 dX12_added_95 ?_
      refine lv_iload_n hx hb dX12_added_98 rfl (lv_at hl 3 rfl) ?_
      refine lv_aload_n hx hb dX12_added_99 rfl (lv_at hl 0 rfl) ?_
      refine va_get (D := D) (ci := 12) (v := .int (u.1 8)) (C := RX12) (T := TX12) (N := 149) hx hb hts hin hown hK hP 0 mH_0 rfl 8 (by decide) L_objects (fun _ h9 => h9) mF_8 dX12_added_100 ?_
      refine va_iast hx hb hK hP hD hS 7 6 mG_7 rfl hh dX12_added_103 (fun H locs hP hD hS => ?_)
      rw [mSA_7] at hP hD
      refine lv_aload_n hx hb dX12_added_104 rfl (lv_at hl 0 rfl) ?_
      refine lv_dup hx hb dX12_added_105 rfl ?_
      refine va_get (D := D) (ci := 12) (v := .int (u.1 8)) (C := RX12) (T := TX12) (N := 149) hx hb hts hin hown hK hP 0 mH_0 rfl 8 (by decide) L_objects (fun _ h9 => h9) mF_8 dX12_added_106 ?_
      refine lv_iconst hx hb dX12_added_109 (v := 1) rfl ?_
      refine lv_iadd hx hb dX12_added_110 ?_
      refine va_put (D := D) (ci := 12) (v := .int ((u.1 8) + 1)) (ty := .int) (C := RX12) (T := TX12) (N := 149) hx hb hts hin tyX12 tyX12_ok nmX12 hown hK hP hD hS 0 mH_0 rfl 8 (by decide) L_objects (fun _ h9 => h9) rfl (tyX12_ok 8 (by decide)) rfl rfl (Nat.le_of_ble_eq_true rfl) dX12_added_111 (fun H locs hP hD hS => ?_)
      rw [mSI_8] at hP hD
      refine lv_aload_n hx hb dX12_added_114 rfl (lv_at hl 0 rfl) ?_
      refine va_get (D := D) (ci := 12) (v := .int ((u.1 8) + 1)) (C := RX12) (T := TX12) (N := 149) hx hb hts hin hown hK hP 0 mH_0 rfl 8 (by decide) L_objects (fun _ h9 => h9) mF_8 dX12_added_115 ?_
      refine lv_iconst hx hb dX12_added_118 (v := 1) rfl ?_
      refine lv_isub hx hb dX12_added_119 ?_
      exact W.iret (v := ((u.1 8) + 1) - 1) hx hb hr (fun t ht hW => ⟨⟨((u.1 8) + 1) - 1, mI (mA (mA (mA (mA (mA (mA u 0 (u.1 8).toNatClampNeg (a)) 1 (u.1 8).toNatClampNeg (b)) 2 (u.1 8).toNatClampNeg (v1)) 3 (u.1 8).toNatClampNeg (0)) 4 (u.1 8).toNatClampNeg (1 + v7)) 7 (h).toNatClampNeg (u.1 8)) 8 ((u.1 8) + 1), rfl, ⟨by subst ev1; unfold m_added; first | (rw [if_pos (Int32.not_le.mp h2)]; done) | (rw [if_neg (Int32.not_lt.mpr h2)]; subst_vars; first | (rw [if_neg (Int32.not_lt.mpr h5)]; done) | (rw [if_pos (Int32.not_le.mp h5)]; done)), by rfl⟩, by rw [ht]; exact hP, va_K.moved hW.alike hK, hD⟩, hS.F ht⟩) hS.2.2 dX12_added_120
  · refine lv_iconst hx hb dX12_added_57 (v := 0) rfl ?_
    refine lv_goto hx hb dX12_added_58 (tgt := 93) rfl ?_
    refine va_iast hx hb hK hP hD hS 5 4 mG_4 rfl ho dX12_added_93 (fun H locs hP hD hS => ?_)
    rw [mSA_4] at hP hD
    refine lv_aload_n hx hb dX12_added_94 rfl (lv_at hl 0 rfl) ?_
    refine va_get (D := D) (ci := 12) (v := .ref (ad 7)) (C := RX12) (T := TX12) (N := 149) hx hb hts hin hown hK hP 0 mH_0 rfl 7 (by decide) L_heads (fun _ h9 => h9) mF_7 dX12_added_95 ?_
    refine lv_iload_n hx hb dX12_added_98 rfl (lv_at hl 3 rfl) ?_
    refine lv_aload_n hx hb dX12_added_99 rfl (lv_at hl 0 rfl) ?_
    refine va_get (D := D) (ci := 12) (v := .int (u.1 8)) (C := RX12) (T := TX12) (N := 149) hx hb hts hin hown hK hP 0 mH_0 rfl 8 (by decide) L_objects (fun _ h9 => h9) mF_8 dX12_added_100 ?_
    refine va_iast hx hb hK hP hD hS 7 6 mG_7 rfl hh dX12_added_103 (fun H locs hP hD hS => ?_)
    rw [mSA_7] at hP hD
    refine lv_aload_n hx hb dX12_added_104 rfl (lv_at hl 0 rfl) ?_
    refine lv_dup hx hb dX12_added_105 rfl ?_
    refine va_get (D := D) (ci := 12) (v := .int (u.1 8)) (C := RX12) (T := TX12) (N := 149) hx hb hts hin hown hK hP 0 mH_0 rfl 8 (by decide) L_objects (fun _ h9 => h9) mF_8 dX12_added_106 ?_
    refine lv_iconst hx hb dX12_added_109 (v := 1) rfl ?_
    refine lv_iadd hx hb dX12_added_110 ?_
    refine va_put (D := D) (ci := 12) (v := .int ((u.1 8) + 1)) (ty := .int) (C := RX12) (T := TX12) (N := 149) hx hb hts hin tyX12 tyX12_ok nmX12 hown hK hP hD hS 0 mH_0 rfl 8 (by decide) L_objects (fun _ h9 => h9) rfl (tyX12_ok 8 (by decide)) rfl rfl (Nat.le_of_ble_eq_true rfl) dX12_added_111 (fun H locs hP hD hS => ?_)
    rw [mSI_8] at hP hD
    refine lv_aload_n hx hb dX12_added_114 rfl (lv_at hl 0 rfl) ?_
    refine va_get (D := D) (ci := 12) (v := .int ((u.1 8) + 1)) (C := RX12) (T := TX12) (N := 149) hx hb hts hin hown hK hP 0 mH_0 rfl 8 (by decide) L_objects (fun _ h9 => h9) mF_8 dX12_added_115 ?_
    refine lv_iconst hx hb dX12_added_118 (v := 1) rfl ?_
    refine lv_isub hx hb dX12_added_119 ?_
    exact W.iret (v := ((u.1 8) + 1) - 1) hx hb hr (fun t ht hW => ⟨⟨((u.1 8) + 1) - 1, mI (mA (mA (mA (mA (mA (mA u 0 (u.1 8).toNatClampNeg (a)) 1 (u.1 8).toNatClampNeg (b)) 2 (u.1 8).toNatClampNeg (v1)) 3 (u.1 8).toNatClampNeg (0)) 4 (u.1 8).toNatClampNeg (0)) 7 (h).toNatClampNeg (u.1 8)) 8 ((u.1 8) + 1), rfl, ⟨by subst ev1; unfold m_added; first | (rw [if_pos (Int32.not_le.mp h2)]; done) | (rw [if_neg (Int32.not_lt.mpr h2)]; subst_vars; first | (rw [if_neg (Int32.not_lt.mpr h5)]; done) | (rw [if_pos (Int32.not_le.mp h5)]; done)), by rfl⟩, by rw [ht]; exact hP, va_K.moved hW.alike hK, hD⟩, hS.F ht⟩) hS.2.2 dX12_added_120
end
section
section
variable {p : Program} {l : Launch} {e : Env} {R : Room} {s : State} {m : MethodId} {args : Array Value} {below : List Frame} {meth : Method} {c : Code} {H : Heap} {locs : List Loc} {cells slots : Nat} {Q : State → Prop}
/-- a loop that changes its locals alone -/
theorem w_loop {pc nL : Nat} {α : Type} (lst : α → List (Nat × Value)) (μ : α → Nat) (I : α → Prop) (step : ∀ (a : α) (ls : Array Slot), I a → lv_has ls nL (lst a) → (∀ (b : α) (ls' : Array Slot), I b → μ b < μ a → lv_has ls' nL (lst b) → W p l e R s m args below meth c H locs cells slots Q (F0 m pc ls' [])) → W p l e R s m args below meth c H locs cells slots Q (F0 m pc ls [])) (a : α) (ls : Array Slot) (hI : I a) (hl : lv_has ls nL (lst a)) : W p l e R s m args below meth c H locs cells slots Q (F0 m pc ls []) := by
  have key : ∀ (n : Nat) (a : α) (ls : Array Slot), μ a < n → I a → lv_has ls nL (lst a) → W p l e R s m args below meth c H locs cells slots Q (F0 m pc ls []) := by
    intro n
    induction n with
    | zero => intro a ls h; exact absurd h (Nat.not_lt_zero _)
    | succ n ih => intro a ls h hI hl; exact step a ls hI hl (fun b ls' hb hm hl' => ih b ls' (by omega) hb hl')
  exact key (μ a + 1) a ls (Nat.lt_succ_self _) hI hl
/-- a loop that changes the reference's state too -/
theorem w_loopS {D : va_G} {ca : Nat → ClassId} {A : Nat → Prop} {H0 : Heap} {h0 : Nat} {ad : Nat → Nat} {pc nL : Nat} {α : Type} (sta : α → mST) (lst : α → List (Nat × Value)) (μ : α → Nat) (I : α → Prop) (step : ∀ (a : α) (H : Heap) (locs : List Loc) (ls : Array Slot), I a → va_P D vwCl (mCl ca h0 ad (sta a)) H → va_D A (mCl ca h0 ad (sta a)) → va_S A H0 H locs → lv_has ls nL (lst a) → (∀ (b : α) (H : Heap) (locs : List Loc) (ls' : Array Slot), I b → μ b < μ a → va_P D vwCl (mCl ca h0 ad (sta b)) H → va_D A (mCl ca h0 ad (sta b)) → va_S A H0 H locs → lv_has ls' nL (lst b) → W p l e R s m args below meth c H locs cells slots Q (F0 m pc ls' [])) → W p l e R s m args below meth c H locs cells slots Q (F0 m pc ls [])) (a : α) (ls : Array Slot) (hI : I a) (hP : va_P D vwCl (mCl ca h0 ad (sta a)) H) (hD : va_D A (mCl ca h0 ad (sta a))) (hS : va_S A H0 H locs) (hl : lv_has ls nL (lst a)) : W p l e R s m args below meth c H locs cells slots Q (F0 m pc ls []) := by
  have key : ∀ (n : Nat) (a : α) (H : Heap) (locs : List Loc) (ls : Array Slot), μ a < n → I a → va_P D vwCl (mCl ca h0 ad (sta a)) H → va_D A (mCl ca h0 ad (sta a)) → va_S A H0 H locs → lv_has ls nL (lst a) → W p l e R s m args below meth c H locs cells slots Q (F0 m pc ls []) := by
    intro n
    induction n with
    | zero => intro a H locs ls h; exact absurd h (Nat.not_lt_zero _)
    | succ n ih => intro a H locs ls h hI hP hD hS hl; exact step a H locs ls hI hP hD hS hl (fun b H locs ls' hb hm hP hD hS hl' => ih b H locs ls' (by omega) hb hP hD hS hl')
  exact key (μ a + 1) a H locs ls (Nat.lt_succ_self _) hI hP hD hS hl
end

set_option maxHeartbeats 4000000 in
set_option maxRecDepth 100000 in
/-- spelled(from, n, true) -/
theorem c_m_spelled (l : Launch) (D : va_G) (ca : Nat → ClassId) (h0 sz : Nat) (ad : Nat → Nat) (u : mST) (a : Int32) (b : Int32)  (N : Nat) (hbN : b = nI N) (hN : N ≤ 12) : Met l yX12_spelled wsX12_spelled pR_0 (va_Pc [.ref (h0), .int (a), .int (b), .int (1)] (fun U => U.heap.size = sz ∧ mWd D ca (fun _ => True) h0 ad u U)) (va_Qi (fun (r : Int32) (v : mST) => v = u ∧ ∃ j : Nat, j < 8192 ∧ r = nI j) (mWd D ca (va_A (mCl ca h0 ad u) sz) h0 ad) (va_A (mCl ca h0 ad u) sz)) 0 0 (va_A (mCl ca h0 ad u) sz) := by
  refine Met.ofW (cc := cX12_spelled) (maxL := 6) (ret := (some .int)) (by decide) rfl ?_
  intro p e s m args below meth c s₁ B hml hv
  obtain ⟨rfl, hsz, hP, hK, hD0⟩ := hv
  have hx := B.exec
  have hb := B.bytes
  have hr := B.returns
  have hts := atoms_spec (ws := wsX12_spelled) B.pre
  have hown : s.vm.findClass RX12 = some m.cls := findClass_of_methodNamed B.named
  have hlocks := B.notSynchronized
  subst hsz
  have hD := hD0.self (sz := s.heap.size)
  generalize hAe : va_A (mCl ca h0 ad u) s.heap.size = A at hD ⊢
  have hA : ∀ q : Nat, s.heap.size ≤ q → A q := fun q h => by rw [← hAe]; exact Or.inr h
  have hS : va_S A s.heap s.heap [] := va_S.rf
  have L_word := hts (.fieldLink RX12 50 "ProofHouseModel" "word" "[I") (by decide +kernel)
  have L_names := hts (.fieldLink RX12 35 "ProofHouseModel" "names" "[I") (by decide +kernel)
  have hin : ∀ w ∈ wsX120, w ∈ wsX12_spelled := by decide +kernel
  have hl := lv_entry ([.ref (h0), .int (a), .int (b), .int (1)]) (n := 6) (Nat.le_of_ble_eq_true rfl)
  rw [lg_entry_eq]
  generalize (lg_sl ([.ref (h0), .int (a), .int (b), .int (1)]) ++ List.replicate (6 - (lg_sl ([.ref (h0), .int (a), .int (b), .int (1)])).length) Slot.unset).toArray = ls at hl ⊢
  have hl : lv_has ls 6 [(0, .ref (h0)), (1, .int (a)), (2, .int (b)), (3, .int (1))] := hl
  refine lv_iconst hx hb dX12_spelled_0 (v := 5) rfl ?_
  refine lv_istore hx hb dX12_spelled_1 hl (by decide) rfl (fun ls hl => ?_)
  have hl : lv_has ls 6 [(4, .int (5)), (0, .ref (h0)), (1, .int (a)), (2, .int (b)), (3, .int (1))] := hl
  refine lv_iconst hx hb dX12_spelled_3 (v := 0) rfl ?_
  refine lv_istore hx hb dX12_spelled_4 hl (by decide) rfl (fun ls hl => ?_)
  have hl : lv_has ls 6 [(5, .int (0)), (4, .int (5)), (0, .ref (h0)), (1, .int (a)), (2, .int (b)), (3, .int (1))] := hl
  refine w_loop (nL := 6) (lst := fun q : Int32 × Nat => [(5, .int (nI q.2)), (4, .int q.1), (0, .ref h0), (1, .int a), (2, .int b), (3, .int 1)]) (μ := fun q => N - q.2) (I := fun q => q.2 ≤ N) ?_ (5, 0) ls (Nat.zero_le _) hl
  intro q ls hI hl ih
  obtain ⟨x4, j⟩ := q
  have hl : lv_has ls 6 [(5, .int (nI j)), (4, .int (x4)), (0, .ref (h0)), (1, .int (a)), (2, .int (b)), (3, .int (1))] := hl
  refine lv_iload hx hb dX12_spelled_6 (lv_at hl 0 rfl) ?_
  refine lv_iload_n hx hb dX12_spelled_8 rfl (lv_at hl 4 rfl) ?_
  refine lv_icmp_ge hx hb dX12_spelled_9 (tgt := 50) rfl (fun h1 => ?_) (fun h1 => ?_)
  · refine lv_iload hx hb dX12_spelled_50 (lv_at hl 1 rfl) ?_
    refine lv_sipush hx hb dX12_spelled_52 (v := 8191) rfl ?_
    refine lv_iand hx hb dX12_spelled_55 ?_
    exact W.iret (v := x4 &&& 8191) hx hb hr (fun t ht hW => ⟨⟨x4 &&& 8191, u, rfl, ⟨rfl, pk_andE _ 13 (by decide)⟩, by rw [ht]; exact hP, va_K.moved hW.alike hK, hD⟩, hS.F ht⟩) hS.2.2 dX12_spelled_56
  · have hj : j < N := by
      rcases Nat.lt_or_ge j N with h | h
      · exact h
      · exact absurd (by rw [hbN]; exact nI_le h (by omega)) h1
    refine lv_sipush hx hb dX12_spelled_12 (v := 131) rfl ?_
    refine lv_iload hx hb dX12_spelled_15 (lv_at hl 1 rfl) ?_
    refine lv_imul hx hb dX12_spelled_17 ?_
    refine lv_iload_n hx hb dX12_spelled_18 rfl (lv_at hl 5 rfl) ?_
    refine lv_if_eq hx hb dX12_spelled_19 (tgt := 32) rfl (fun h2 => ?_) (fun h2 => ?_)
    · exact absurd h2 (by decide)
    · refine lv_aload_n hx hb dX12_spelled_22 rfl (lv_at hl 2 rfl) ?_
      refine va_get (D := D) (ci := 12) (v := .ref (ad 17)) (C := RX12) (T := TX12) (N := 149) hx hb hts hin hown hK hP 0 mH_0 rfl 17 (by decide) L_word (fun _ h9 => h9) mF_17 dX12_spelled_23 ?_
      refine lv_iload hx hb dX12_spelled_26 (lv_at hl 0 rfl) ?_
      refine va_iald hx hb hK hP 13 12 mG_17 rfl (vp_in_nI (by omega) (by decide)) dX12_spelled_28 ?_
      refine lv_topi (fun v3 ev3 => ?_)
      have ev3 : v3 = (u.2.1 17) (nI j).toNatClampNeg := ev3
      refine lv_goto hx hb dX12_spelled_29 (tgt := 41) rfl ?_
      refine lv_iadd hx hb dX12_spelled_41 ?_
      refine lv_istore hx hb dX12_spelled_42 hl (by decide) rfl (fun ls hl => ?_)
      have hl : lv_has ls 6 [(4, .int ((131 * x4) + v3)), (5, .int (nI j)), (0, .ref (h0)), (1, .int (a)), (2, .int (b)), (3, .int (1))] := hl
      refine lv_iinc (v := nI j + 1) hx hb dX12_spelled_44 hl (k := 1) rfl rfl (by decide) rfl (fun ls hl => ?_)
      have hl : lv_has ls 6 [(5, .int (nI j + 1)), (4, .int ((131 * x4) + v3)), (0, .ref (h0)), (1, .int (a)), (2, .int (b)), (3, .int (1))] := hl
      refine lv_goto hx hb dX12_spelled_47 (tgt := 6) rfl ?_
      exact ih ((131 * x4) + v3, j + 1) ls (by show j + 1 ≤ N; omega) (by show N - (j + 1) < N - j; omega) (by rw [nI_1] at hl; exact hl)
end
section
set_option maxHeartbeats 4000000 in
set_option maxRecDepth 100000 in
/-- isWord(s) -/
theorem c_m_isWord (l : Launch) (D : va_G) (ca : Nat → ClassId) (h0 sz : Nat) (ad : Nat → Nat) (u : mST) (a : Int32) (S N : Nat) (haS : a = nI S) (hS9 : S < 21000) (hwN : u.1 18 = nI N) (hN : N ≤ 12) : Met l yX12_isWord wsX12_isWord pR_0 (va_Pc [.ref (h0), .int (a)] (fun U => U.heap.size = sz ∧ mWd D ca (fun _ => True) h0 ad u U)) (va_Qi (fun (r : Int32) (v : mST) => v = u ∧ (r = 0 ∨ r = 1)) (mWd D ca (va_A (mCl ca h0 ad u) sz) h0 ad) (va_A (mCl ca h0 ad u) sz)) 0 0 (va_A (mCl ca h0 ad u) sz) := by
  refine Met.ofW (cc := cX12_isWord) (maxL := 4) (ret := (some .boolean)) (by decide) rfl ?_
  intro p e s m args below meth c s₁ B hml hv
  obtain ⟨rfl, hsz, hP, hK, hD0⟩ := hv
  have hx := B.exec
  have hb := B.bytes
  have hr := B.returns
  have hts := atoms_spec (ws := wsX12_isWord) B.pre
  have hown : s.vm.findClass RX12 = some m.cls := findClass_of_methodNamed B.named
  have hlocks := B.notSynchronized
  subst hsz
  have hD := hD0.self (sz := s.heap.size)
  generalize hAe : va_A (mCl ca h0 ad u) s.heap.size = A at hD ⊢
  have hA : ∀ q : Nat, s.heap.size ≤ q → A q := fun q h => by rw [← hAe]; exact Or.inr h
  have hS : va_S A s.heap s.heap [] := va_S.rf
  have L_lengths := hts (.fieldLink RX12 38 "ProofHouseModel" "lengths" "[I") (by decide +kernel)
  have L_wordSize := hts (.fieldLink RX12 309 "ProofHouseModel" "wordSize" "I") (by decide +kernel)
  have L_names := hts (.fieldLink RX12 35 "ProofHouseModel" "names" "[I") (by decide +kernel)
  have L_word := hts (.fieldLink RX12 50 "ProofHouseModel" "word" "[I") (by decide +kernel)
  have hin : ∀ w ∈ wsX120, w ∈ wsX12_isWord := by decide +kernel
  have hl := lv_entry ([.ref (h0), .int (a)]) (n := 4) (Nat.le_of_ble_eq_true rfl)
  rw [lg_entry_eq]
  generalize (lg_sl ([.ref (h0), .int (a)]) ++ List.replicate (4 - (lg_sl ([.ref (h0), .int (a)])).length) Slot.unset).toArray = ls at hl ⊢
  have hl : lv_has ls 4 [(0, .ref (h0)), (1, .int (a))] := hl
  refine lv_aload_n hx hb dX12_isWord_0 rfl (lv_at hl 0 rfl) ?_
  refine va_get (D := D) (ci := 12) (v := .ref (ad 10)) (C := RX12) (T := TX12) (N := 149) hx hb hts hin hown hK hP 0 mH_0 rfl 10 (by decide) L_lengths (fun _ h9 => h9) mF_10 dX12_isWord_1 ?_
  refine lv_iload_n hx hb dX12_isWord_4 rfl (lv_at hl 1 rfl) ?_
  refine va_iald hx hb hK hP 9 8 mG_10 rfl (by rw [haS]; exact vp_in_nI hS9 (by decide)) dX12_isWord_5 ?_
  refine lv_topi (fun v1 ev1 => ?_)
  have ev1 : v1 = (u.2.1 10) (a).toNatClampNeg := ev1
  refine lv_aload_n hx hb dX12_isWord_6 rfl (lv_at hl 0 rfl) ?_
  refine va_get (D := D) (ci := 12) (v := .int (u.1 18)) (C := RX12) (T := TX12) (N := 149) hx hb hts hin hown hK hP 0 mH_0 rfl 18 (by decide) L_wordSize (fun _ h9 => h9) mF_18 dX12_isWord_7 ?_
  refine lv_icmp_ne hx hb dX12_isWord_10 (tgt := 17) rfl (fun h2 => ?_) (fun h2 => ?_)
  · refine lv_iconst hx hb dX12_isWord_17 (v := 0) rfl ?_
    refine lv_istore_n hx hb dX12_isWord_18 rfl hl (by decide) rfl (fun ls hl => ?_)
    have hl : lv_has ls 4 [(2, .int (0)), (0, .ref (h0)), (1, .int (a))] := hl
    refine lv_iconst hx hb dX12_isWord_19 (v := 0) rfl ?_
    refine lv_istore_n hx hb dX12_isWord_20 rfl hl (by decide) rfl (fun ls hl => ?_)
    have hl : lv_has ls 4 [(3, .int (0)), (2, .int (0)), (0, .ref (h0)), (1, .int (a))] := hl
    refine w_loop (nL := 4) (lst := fun q : Int32 × Nat => [(3, .int (nI q.2)), (2, .int q.1), (0, .ref h0), (1, .int a)]) (μ := fun q => N - q.2) (I := fun q => q.2 ≤ N ∧ (q.1 = 0 ∨ q.1 = 1)) ?_ (0, 0) ls ⟨Nat.zero_le _, by first | exact Or.inl rfl | exact Or.inr rfl⟩ hl
    intro q ls hI hl ih
    obtain ⟨x2, j⟩ := q
    obtain ⟨hI1, hI2⟩ := hI
    dsimp only at hI1 hI2
    have hl : lv_has ls 4 [(3, .int (nI j)), (2, .int (x2)), (0, .ref (h0)), (1, .int (a))] := hl
    refine lv_iload_n hx hb dX12_isWord_21 rfl (lv_at hl 0 rfl) ?_
    refine lv_aload_n hx hb dX12_isWord_22 rfl (lv_at hl 2 rfl) ?_
    refine va_get (D := D) (ci := 12) (v := .int (u.1 18)) (C := RX12) (T := TX12) (N := 149) hx hb hts hin hown hK hP 0 mH_0 rfl 18 (by decide) L_wordSize (fun _ h9 => h9) mF_18 dX12_isWord_23 ?_
    refine lv_icmp_ge hx hb dX12_isWord_26 (tgt := 65) rfl (fun h3 => ?_) (fun h3 => ?_)
    · refine lv_iload_n hx hb dX12_isWord_65 rfl (lv_at hl 1 rfl) ?_
      exact W.zret (v := x2) hx hb hr (by rcases hI2 with h | h <;> rw [h] <;> rfl) (fun t ht hW => ⟨⟨x2, u, rfl, ⟨rfl, hI2⟩, by rw [ht]; exact hP, va_K.moved hW.alike hK, hD⟩, hS.F ht⟩) hS.2.2 dX12_isWord_66
    · have hj : j < N := by
        rcases Nat.lt_or_ge j N with h | h
        · exact h
        · exact absurd (by rw [hwN]; exact nI_le h (by omega)) h3
      refine lv_iload_n hx hb dX12_isWord_29 rfl (lv_at hl 1 rfl) ?_
      refine lv_if_eq hx hb dX12_isWord_30 (tgt := 65) rfl (fun h4 => ?_) (fun h4 => ?_)
      · refine lv_iload_n hx hb dX12_isWord_65 rfl (lv_at hl 1 rfl) ?_
        exact W.zret (v := x2) hx hb hr (by rcases hI2 with h | h <;> rw [h] <;> rfl) (fun t ht hW => ⟨⟨x2, u, rfl, ⟨rfl, hI2⟩, by rw [ht]; exact hP, va_K.moved hW.alike hK, hD⟩, hS.F ht⟩) hS.2.2 dX12_isWord_66
      · refine lv_aload_n hx hb dX12_isWord_33 rfl (lv_at hl 2 rfl) ?_
        refine va_get (D := D) (ci := 12) (v := .ref (ad 9)) (C := RX12) (T := TX12) (N := 149) hx hb hts hin hown hK hP 0 mH_0 rfl 9 (by decide) L_names (fun _ h9 => h9) mF_9 dX12_isWord_34 ?_
        refine lv_bipush hx hb dX12_isWord_37 (v := 12) rfl ?_
        refine lv_iload_n hx hb dX12_isWord_39 rfl (lv_at hl 3 rfl) ?_
        refine lv_imul hx hb dX12_isWord_40 ?_
        refine lv_iload_n hx hb dX12_isWord_41 rfl (lv_at hl 0 rfl) ?_
        refine lv_iadd hx hb dX12_isWord_42 ?_
        refine va_iald hx hb hK hP 8 7 mG_9 rfl (by rw [haS, show (12 : Int32) = nI 12 from rfl, pk_mul, nI_add]; exact vp_in_nI (by omega) (by decide)) dX12_isWord_43 ?_
        refine lv_topi (fun v5 ev5 => ?_)
        have ev5 : v5 = (u.2.1 9) ((12 * a) + (nI j)).toNatClampNeg := ev5
        refine lv_aload_n hx hb dX12_isWord_44 rfl (lv_at hl 2 rfl) ?_
        refine va_get (D := D) (ci := 12) (v := .ref (ad 17)) (C := RX12) (T := TX12) (N := 149) hx hb hts hin hown hK hP 0 mH_0 rfl 17 (by decide) L_word (fun _ h9 => h9) mF_17 dX12_isWord_45 ?_
        refine lv_iload_n hx hb dX12_isWord_48 rfl (lv_at hl 0 rfl) ?_
        refine va_iald hx hb hK hP 13 12 mG_17 rfl (vp_in_nI (by omega) (by decide)) dX12_isWord_49 ?_
        refine lv_topi (fun v6 ev6 => ?_)
        have ev6 : v6 = (u.2.1 17) (nI j).toNatClampNeg := ev6
        refine lv_icmp_ne hx hb dX12_isWord_50 (tgt := 57) rfl (fun h7 => ?_) (fun h7 => ?_)
        · refine lv_iconst hx hb dX12_isWord_57 (v := 0) rfl ?_
          refine lv_istore_n hx hb dX12_isWord_58 rfl hl (by decide) rfl (fun ls hl => ?_)
          have hl : lv_has ls 4 [(2, .int (0)), (3, .int (nI j)), (0, .ref (h0)), (1, .int (a))] := hl
          refine lv_iinc (v := nI j + 1) hx hb dX12_isWord_59 hl (k := 1) rfl rfl (by decide) rfl (fun ls hl => ?_)
          have hl : lv_has ls 4 [(3, .int (nI j + 1)), (2, .int (0)), (0, .ref (h0)), (1, .int (a))] := hl
          refine lv_goto hx hb dX12_isWord_62 (tgt := 21) rfl ?_
          exact ih (0, j + 1) ls ⟨by show j + 1 ≤ N; omega, by first | exact Or.inl rfl | exact Or.inr rfl⟩ (by show N - (j + 1) < N - j; omega) (by rw [nI_1] at hl; exact hl)
        · refine lv_iconst hx hb dX12_isWord_53 (v := 1) rfl ?_
          refine lv_goto hx hb dX12_isWord_54 (tgt := 58) rfl ?_
          refine lv_istore_n hx hb dX12_isWord_58 rfl hl (by decide) rfl (fun ls hl => ?_)
          have hl : lv_has ls 4 [(2, .int (1)), (3, .int (nI j)), (0, .ref (h0)), (1, .int (a))] := hl
          refine lv_iinc (v := nI j + 1) hx hb dX12_isWord_59 hl (k := 1) rfl rfl (by decide) rfl (fun ls hl => ?_)
          have hl : lv_has ls 4 [(3, .int (nI j + 1)), (2, .int (1)), (0, .ref (h0)), (1, .int (a))] := hl
          refine lv_goto hx hb dX12_isWord_62 (tgt := 21) rfl ?_
          exact ih (1, j + 1) ls ⟨by show j + 1 ≤ N; omega, by first | exact Or.inl rfl | exact Or.inr rfl⟩ (by show N - (j + 1) < N - j; omega) (by rw [nI_1] at hl; exact hl)
  · refine lv_iconst hx hb dX12_isWord_13 (v := 1) rfl ?_
    refine lv_goto hx hb dX12_isWord_14 (tgt := 18) rfl ?_
    refine lv_istore_n hx hb dX12_isWord_18 rfl hl (by decide) rfl (fun ls hl => ?_)
    have hl : lv_has ls 4 [(2, .int (1)), (0, .ref (h0)), (1, .int (a))] := hl
    refine lv_iconst hx hb dX12_isWord_19 (v := 0) rfl ?_
    refine lv_istore_n hx hb dX12_isWord_20 rfl hl (by decide) rfl (fun ls hl => ?_)
    have hl : lv_has ls 4 [(3, .int (0)), (2, .int (1)), (0, .ref (h0)), (1, .int (a))] := hl
    refine w_loop (nL := 4) (lst := fun q : Int32 × Nat => [(3, .int (nI q.2)), (2, .int q.1), (0, .ref h0), (1, .int a)]) (μ := fun q => N - q.2) (I := fun q => q.2 ≤ N ∧ (q.1 = 0 ∨ q.1 = 1)) ?_ (1, 0) ls ⟨Nat.zero_le _, by first | exact Or.inl rfl | exact Or.inr rfl⟩ hl
    intro q ls hI hl ih
    obtain ⟨x2, j⟩ := q
    obtain ⟨hI1, hI2⟩ := hI
    dsimp only at hI1 hI2
    have hl : lv_has ls 4 [(3, .int (nI j)), (2, .int (x2)), (0, .ref (h0)), (1, .int (a))] := hl
    refine lv_iload_n hx hb dX12_isWord_21 rfl (lv_at hl 0 rfl) ?_
    refine lv_aload_n hx hb dX12_isWord_22 rfl (lv_at hl 2 rfl) ?_
    refine va_get (D := D) (ci := 12) (v := .int (u.1 18)) (C := RX12) (T := TX12) (N := 149) hx hb hts hin hown hK hP 0 mH_0 rfl 18 (by decide) L_wordSize (fun _ h9 => h9) mF_18 dX12_isWord_23 ?_
    refine lv_icmp_ge hx hb dX12_isWord_26 (tgt := 65) rfl (fun h8 => ?_) (fun h8 => ?_)
    · refine lv_iload_n hx hb dX12_isWord_65 rfl (lv_at hl 1 rfl) ?_
      exact W.zret (v := x2) hx hb hr (by rcases hI2 with h | h <;> rw [h] <;> rfl) (fun t ht hW => ⟨⟨x2, u, rfl, ⟨rfl, hI2⟩, by rw [ht]; exact hP, va_K.moved hW.alike hK, hD⟩, hS.F ht⟩) hS.2.2 dX12_isWord_66
    · have hj : j < N := by
        rcases Nat.lt_or_ge j N with h | h
        · exact h
        · exact absurd (by rw [hwN]; exact nI_le h (by omega)) h8
      refine lv_iload_n hx hb dX12_isWord_29 rfl (lv_at hl 1 rfl) ?_
      refine lv_if_eq hx hb dX12_isWord_30 (tgt := 65) rfl (fun h9 => ?_) (fun h9 => ?_)
      · refine lv_iload_n hx hb dX12_isWord_65 rfl (lv_at hl 1 rfl) ?_
        exact W.zret (v := x2) hx hb hr (by rcases hI2 with h | h <;> rw [h] <;> rfl) (fun t ht hW => ⟨⟨x2, u, rfl, ⟨rfl, hI2⟩, by rw [ht]; exact hP, va_K.moved hW.alike hK, hD⟩, hS.F ht⟩) hS.2.2 dX12_isWord_66
      · refine lv_aload_n hx hb dX12_isWord_33 rfl (lv_at hl 2 rfl) ?_
        refine va_get (D := D) (ci := 12) (v := .ref (ad 9)) (C := RX12) (T := TX12) (N := 149) hx hb hts hin hown hK hP 0 mH_0 rfl 9 (by decide) L_names (fun _ h9 => h9) mF_9 dX12_isWord_34 ?_
        refine lv_bipush hx hb dX12_isWord_37 (v := 12) rfl ?_
        refine lv_iload_n hx hb dX12_isWord_39 rfl (lv_at hl 3 rfl) ?_
        refine lv_imul hx hb dX12_isWord_40 ?_
        refine lv_iload_n hx hb dX12_isWord_41 rfl (lv_at hl 0 rfl) ?_
        refine lv_iadd hx hb dX12_isWord_42 ?_
        refine va_iald hx hb hK hP 8 7 mG_9 rfl (by rw [haS, show (12 : Int32) = nI 12 from rfl, pk_mul, nI_add]; exact vp_in_nI (by omega) (by decide)) dX12_isWord_43 ?_
        refine lv_topi (fun v10 ev10 => ?_)
        have ev10 : v10 = (u.2.1 9) ((12 * a) + (nI j)).toNatClampNeg := ev10
        refine lv_aload_n hx hb dX12_isWord_44 rfl (lv_at hl 2 rfl) ?_
        refine va_get (D := D) (ci := 12) (v := .ref (ad 17)) (C := RX12) (T := TX12) (N := 149) hx hb hts hin hown hK hP 0 mH_0 rfl 17 (by decide) L_word (fun _ h9 => h9) mF_17 dX12_isWord_45 ?_
        refine lv_iload_n hx hb dX12_isWord_48 rfl (lv_at hl 0 rfl) ?_
        refine va_iald hx hb hK hP 13 12 mG_17 rfl (vp_in_nI (by omega) (by decide)) dX12_isWord_49 ?_
        refine lv_topi (fun v11 ev11 => ?_)
        have ev11 : v11 = (u.2.1 17) (nI j).toNatClampNeg := ev11
        refine lv_icmp_ne hx hb dX12_isWord_50 (tgt := 57) rfl (fun h12 => ?_) (fun h12 => ?_)
        · refine lv_iconst hx hb dX12_isWord_57 (v := 0) rfl ?_
          refine lv_istore_n hx hb dX12_isWord_58 rfl hl (by decide) rfl (fun ls hl => ?_)
          have hl : lv_has ls 4 [(2, .int (0)), (3, .int (nI j)), (0, .ref (h0)), (1, .int (a))] := hl
          refine lv_iinc (v := nI j + 1) hx hb dX12_isWord_59 hl (k := 1) rfl rfl (by decide) rfl (fun ls hl => ?_)
          have hl : lv_has ls 4 [(3, .int (nI j + 1)), (2, .int (0)), (0, .ref (h0)), (1, .int (a))] := hl
          refine lv_goto hx hb dX12_isWord_62 (tgt := 21) rfl ?_
          exact ih (0, j + 1) ls ⟨by show j + 1 ≤ N; omega, by first | exact Or.inl rfl | exact Or.inr rfl⟩ (by show N - (j + 1) < N - j; omega) (by rw [nI_1] at hl; exact hl)
        · refine lv_iconst hx hb dX12_isWord_53 (v := 1) rfl ?_
          refine lv_goto hx hb dX12_isWord_54 (tgt := 58) rfl ?_
          refine lv_istore_n hx hb dX12_isWord_58 rfl hl (by decide) rfl (fun ls hl => ?_)
          have hl : lv_has ls 4 [(2, .int (1)), (3, .int (nI j)), (0, .ref (h0)), (1, .int (a))] := hl
          refine lv_iinc (v := nI j + 1) hx hb dX12_isWord_59 hl (k := 1) rfl rfl (by decide) rfl (fun ls hl => ?_)
          have hl : lv_has ls 4 [(3, .int (nI j + 1)), (2, .int (1)), (0, .ref (h0)), (1, .int (a))] := hl
          refine lv_goto hx hb dX12_isWord_62 (tgt := 21) rfl ?_
          exact ih (1, j + 1) ls ⟨by show j + 1 ≤ N; omega, by first | exact Or.inl rfl | exact Or.inr rfl⟩ (by show N - (j + 1) < N - j; omega) (by rw [nI_1] at hl; exact hl)
end
section
/-- the reference's objects while it knows nothing but n symbols: their chains end -/
def mOk (n : Nat) (u : mST) : Prop := u.1 8 = nI n ∧ u.1 11 = nI n ∧ (∀ h : Nat, h < 8192 → u.2.1 7 h = -1 ∨ ∃ i : Nat, i < n ∧ u.2.1 7 h = nI i) ∧ (∀ j : Nat, j < n → u.2.1 0 j = -2 ∧ (∃ i : Nat, i < n ∧ u.2.1 1 j = nI i) ∧ (u.2.1 2 j = -1 ∨ ∃ i : Nat, i < j ∧ u.2.1 2 j = nI i))
def mTouch : List Nat := [0, 1, 2, 3, 4, 7, 9, 10, 17]
/-- what the making of a symbol leaves as it was -/
def mFr (u v : mST) : Prop := (∀ k : Nat, k ≠ 8 → k ≠ 11 → k ≠ 18 → v.1 k = u.1 k) ∧ (∀ g : Nat, g ∉ mTouch → v.2.1 g = u.2.1 g) ∧ v.2.2 = u.2.2
theorem mFr_rf (u : mST) : mFr u u := ⟨fun _ _ _ _ => rfl, fun _ _ => rfl, rfl⟩
theorem mFr_tr {u v w : mST} (h1 : mFr u v) (h2 : mFr v w) : mFr u w := ⟨fun k a b c => (h2.1 k a b c).trans (h1.1 k a b c), fun g a => (h2.2.1 g a).trans (h1.2.1 g a), h2.2.2.trans h1.2.2⟩
theorem mOk_add {n jh : Nat} {u w : mST} (hn : n ≤ 1000) (hu : mOk n u) (hw1 : w.1 = u.1) (hw2 : ∀ g : Nat, g ≠ 9 → g ≠ 10 → w.2.1 g = u.2.1 g) (hj : jh < 8192) : mOk (n + 1) (m_added (mI w 11 (w.1 11 + 1)) (-2) (w.1 11 + 1 - 1) (nI jh)) := by
  obtain ⟨h1, h2, h3, h4⟩ := hu
  have e1 : w.1 8 = nI n := by rw [hw1]; exact h1
  have e2 : w.1 11 = nI n := by rw [hw1]; exact h2
  have en : (w.1 8).toNatClampNeg = n := by rw [e1, nI_clamp (by omega)]
  have ej : (nI jh).toNatClampNeg = jh := nI_clamp (by omega)
  refine ⟨?_, ?_, ?_, ?_⟩
  · show w.1 8 + 1 = nI (n + 1)
    rw [e1, nI_1]
  · show w.1 11 + 1 = nI (n + 1)
    rw [e2, nI_1]
  · intro h hh
    show upd (w.2.1 7) (nI jh).toNatClampNeg (w.1 8) h = -1 ∨ ∃ i : Nat, i < n + 1 ∧ upd (w.2.1 7) (nI jh).toNatClampNeg (w.1 8) h = nI i
    by_cases e : h = (nI jh).toNatClampNeg
    · exact Or.inr ⟨n, by omega, by rw [e, pk_us]; exact e1⟩
    · rw [pk_un e, hw2 7 (by decide) (by decide)]
      rcases h3 h hh with q | ⟨i, hi, q⟩
      · exact Or.inl q
      · exact Or.inr ⟨i, by omega, q⟩
  · intro j hj2
    refine ⟨?_, ?_, ?_⟩
    · show upd (w.2.1 0) (w.1 8).toNatClampNeg (-2) j = -2
      by_cases e : j = (w.1 8).toNatClampNeg
      · rw [e, pk_us]
      · rw [pk_un e, hw2 0 (by decide) (by decide)]
        exact (h4 j (by omega)).1
    · show ∃ i : Nat, i < n + 1 ∧ upd (w.2.1 1) (w.1 8).toNatClampNeg (w.1 11 + 1 - 1) j = nI i
      by_cases e : j = (w.1 8).toNatClampNeg
      · exact ⟨n, by omega, by rw [e, pk_us, e2, nI_1, nI_pred]⟩
      · rw [pk_un e, hw2 1 (by decide) (by decide)]
        obtain ⟨i, hi, q⟩ := (h4 j (by omega)).2.1
        exact ⟨i, by omega, q⟩
    · show upd (w.2.1 2) (w.1 8).toNatClampNeg (w.2.1 7 (nI jh).toNatClampNeg) j = -1 ∨ ∃ i : Nat, i < j ∧ upd (w.2.1 2) (w.1 8).toNatClampNeg (w.2.1 7 (nI jh).toNatClampNeg) j = nI i
      by_cases e : j = (w.1 8).toNatClampNeg
      · rw [e, pk_us, en, ej, hw2 7 (by decide) (by decide)]
        exact h3 jh hj
      · rw [pk_un e, hw2 2 (by decide) (by decide)]
        exact (h4 j (by omega)).2.2
theorem mFr_add {a b h : Int32} {u w : mST} {x : Int32} (hw1 : w.1 = u.1) (hw2 : ∀ g : Nat, g ≠ 9 → g ≠ 10 → w.2.1 g = u.2.1 g) (hw3 : w.2.2 = u.2.2) : mFr u (m_added (mI w 11 x) a b h) := by
  refine ⟨?_, ?_, hw3⟩
  · intro k k1 k2 k3
    rw [← hw1]
    exact (if_neg k1).trans (if_neg k2)
  · intro g hg
    simp only [mTouch, List.mem_cons, List.not_mem_nil, or_false, not_or] at hg
    obtain ⟨g1, g2, g3, g4, g5, g6, g7, g8, g9⟩ := hg
    rw [← hw2 g g7 g8]
    unfold m_added
    rw [mI_r, mA_n _ _ _ g6, mA_n _ _ _ g5, mA_n _ _ _ g4, mA_n _ _ _ g3, mA_n _ _ _ g2, mA_n _ _ _ g1, mI_r]

set_option maxHeartbeats 4000000 in
set_option maxRecDepth 100000 in
/-- symbol() -/
theorem c_m_symbol (l : Launch) (D : va_G) (ca : Nat → ClassId) (h0 sz : Nat) (ad : Nat → Nat) (u : mST)  (n N : Nat) (hn : n ≤ 1000) (hOk : mOk n u) (hwN : u.1 18 = nI N) (hN : N ≤ 12) : Met l yX12_symbol wsX12_symbol ({ frames := 1, cells := 0, slots := 0, locals := 25 }) (va_Pc [.ref (h0)] (fun U => U.heap.size = sz ∧ mWd D ca (fun _ => True) h0 ad u U)) (va_Qi (fun (r : Int32) (v : mST) => ∃ n2 : Nat, n2 ≤ n + 1 ∧ mOk n2 v ∧ mFr u v ∧ v.1 18 = u.1 18) (mWd D ca (va_A (mCl ca h0 ad u) sz) h0 ad) (va_A (mCl ca h0 ad u) sz)) 0 0 (va_A (mCl ca h0 ad u) sz) := by
  refine Met.ofW (cc := cX12_symbol) (maxL := 3) (ret := (some .int)) (by decide) rfl ?_
  intro p e s m args below meth c s₁ B hml hv
  obtain ⟨rfl, hsz, hP, hK, hD0⟩ := hv
  have hx := B.exec
  have hb := B.bytes
  have hr := B.returns
  have hts := atoms_spec (ws := wsX12_symbol) B.pre
  have hown : s.vm.findClass RX12 = some m.cls := findClass_of_methodNamed B.named
  have hlocks := B.notSynchronized
  subst hsz
  have hD := hD0.self (sz := s.heap.size)
  generalize hAe : va_A (mCl ca h0 ad u) s.heap.size = A at hD ⊢
  have hA : ∀ q : Nat, s.heap.size ≤ q → A q := fun q h => by rw [← hAe]; exact Or.inr h
  have hS : va_S A s.heap s.heap [] := va_S.rf
  have L_wordSize := hts (.fieldLink RX12 309 "ProofHouseModel" "wordSize" "I") (by decide +kernel)
  have L_heads := hts (.fieldLink RX12 31 "ProofHouseModel" "heads" "[I") (by decide +kernel)
  have L_left := hts (.fieldLink RX12 8 "ProofHouseModel" "left" "[I") (by decide +kernel)
  have L_right := hts (.fieldLink RX12 14 "ProofHouseModel" "right" "[I") (by decide +kernel)
  have L_next := hts (.fieldLink RX12 17 "ProofHouseModel" "next" "[I") (by decide +kernel)
  have L_lengths := hts (.fieldLink RX12 38 "ProofHouseModel" "lengths" "[I") (by decide +kernel)
  have L_symbols := hts (.fieldLink RX12 346 "ProofHouseModel" "symbols" "I") (by decide +kernel)
  have L_names := hts (.fieldLink RX12 35 "ProofHouseModel" "names" "[I") (by decide +kernel)
  have L_word := hts (.fieldLink RX12 50 "ProofHouseModel" "word" "[I") (by decide +kernel)
  have hin : ∀ w ∈ wsX120, w ∈ wsX12_symbol := by decide +kernel
  have hl := lv_entry ([.ref (h0)]) (n := 3) (Nat.le_of_ble_eq_true rfl)
  rw [lg_entry_eq]
  generalize (lg_sl ([.ref (h0)]) ++ List.replicate (3 - (lg_sl ([.ref (h0)])).length) Slot.unset).toArray = ls at hl ⊢
  have hl : lv_has ls 3 [(0, .ref (h0))] := hl
  refine lv_aload_n hx hb dX12_symbol_0 rfl (lv_at hl 0 rfl) ?_
  refine lv_iconst hx hb dX12_symbol_1 (v := 0) rfl ?_
  refine lv_aload_n hx hb dX12_symbol_2 rfl (lv_at hl 0 rfl) ?_
  refine va_get (D := D) (ci := 12) (v := .int (u.1 18)) (C := RX12) (T := TX12) (N := 149) hx hb hts hin hown hK hP 0 mH_0 rfl 18 (by decide) L_wordSize (fun _ h9 => h9) mF_18 dX12_symbol_3 ?_
  refine lv_iconst hx hb dX12_symbol_6 (v := 1) rfl ?_
  have hFc := pl_free hD hS hA
  refine va_calli (va_runV (As := [.int (0), .int (u.1 18), .int (1)]) (rest := []) ⟨hx, hb, hml, hown, hts⟩ (c_m_spelled l D ca h0 s.heap.size ad u 0 (u.1 18) N hwN hN) (cwV 3 hts gX12_symbol_X12_spelled rfl rfl rfl (by decide +kernel) ⟨Nat.le_of_ble_eq_true rfl, Nat.le_of_ble_eq_true rfl⟩) ⟨fun a U g mk q => by obtain ⟨q0, q1, qP, qK, qD⟩ := q; exact ⟨q0, q1, qP, va_K.moved (u := U) (U := U.calling g mk a) (Vm.Alike.refl U.vm) qK, qD⟩, va_recv hK hP (ci := 12) (q0 := 0) rfl rfl, fun U hU hW => ⟨rfl, by rw [hU], by rw [hU]; exact hP, va_K.moved hW.alike hK, hD.weaken (fun _ _ _ _ => trivial)⟩⟩ rfl rfl hl.1 rfl (lv_room (Nat.le_of_ble_eq_true rfl)) dX12_symbol_7 ⟨(Nat.zero_le _), (Nat.zero_le _)⟩) hS (fun q _ h => hFc q h) hFc (fun r2 u1 t H1 locs ht hvm hwu1 hB hz1 hk1 hS => ?_)
  obtain ⟨hP1, hK1, hD1⟩ := hB
  rw [ht] at hP1
  have hK := va_K.moved hvm.symm hK1
  have hD := hD1.weaken (fun _ _ _ h => hFc _ h)
  have hP := hP1
  clear hP1 hK1 hD1 hFc
  generalize H1 = H at hP hS hz1 hk1 ht ⊢
  have hP : va_P D vwCl (mCl ca h0 ad u1) H := hP
  have hD : va_D A (mCl ca h0 ad u1) := hD
  obtain ⟨he1, j1, hj1, hr1⟩ := hwu1
  rw [he1] at hP hD
  subst hr1
  refine lv_istore_n hx hb dX12_symbol_10 rfl hl (by decide) rfl (fun ls hl => ?_)
  have hl : lv_has ls 3 [(1, .int (nI j1)), (0, .ref (h0))] := hl
  refine lv_aload_n hx hb dX12_symbol_11 rfl (lv_at hl 1 rfl) ?_
  refine va_get (D := D) (ci := 12) (v := .ref (ad 7)) (C := RX12) (T := TX12) (N := 149) hx hb hts hin hown hK hP 0 mH_0 rfl 7 (by decide) L_heads (fun _ h9 => h9) mF_7 dX12_symbol_12 ?_
  refine lv_iload_n hx hb dX12_symbol_15 rfl (lv_at hl 0 rfl) ?_
  refine va_iald hx hb hK hP 7 6 mG_7 rfl (vp_in_nI hj1 (by decide)) dX12_symbol_16 ?_
  refine lv_topi (fun v3 ev3 => ?_)
  have ev3 : v3 = (u.2.1 7) (nI j1).toNatClampNeg := ev3
  refine lv_istore_n hx hb dX12_symbol_17 rfl hl (by decide) rfl (fun ls hl => ?_)
  have hl : lv_has ls 3 [(2, .int (v3)), (1, .int (nI j1)), (0, .ref (h0))] := hl
  have hx0 : v3 = -1 ∨ ∃ i : Nat, i < n ∧ v3 = nI i := by rw [ev3, nI_clamp (by omega)]; exact hOk.2.2.1 j1 hj1
  refine w_loopS (nL := 3) (sta := fun _ : Int32 => u) (lst := fun q : Int32 => [(2, .int q), (1, .int (nI j1)), (0, .ref h0)]) (μ := fun q => (q + 1).toNatClampNeg) (I := fun q => q = -1 ∨ ∃ i : Nat, i < n ∧ q = nI i) ?_ v3 ls hx0 hP hD hS hl
  intro q H locs ls hI hP hD hS hl ih
  have hl : lv_has ls 3 [(2, .int (q)), (1, .int (nI j1)), (0, .ref (h0))] := hl
  refine lv_iload_n hx hb dX12_symbol_18 rfl (lv_at hl 0 rfl) ?_
  refine lv_iconst hx hb dX12_symbol_19 (v := (-1)) rfl ?_
  refine lv_icmp_eq hx hb dX12_symbol_20 (tgt := 59) rfl (fun h4 => ?_) (fun h4 => ?_)
  · refine lv_aload_n hx hb dX12_symbol_59 rfl (lv_at hl 2 rfl) ?_
    refine va_get (D := D) (ci := 12) (v := .ref (ad 10)) (C := RX12) (T := TX12) (N := 149) hx hb hts hin hown hK hP 0 mH_0 rfl 10 (by decide) L_lengths (fun _ h9 => h9) mF_10 dX12_symbol_60 ?_
    refine lv_aload_n hx hb dX12_symbol_63 rfl (lv_at hl 2 rfl) ?_
    refine va_get (D := D) (ci := 12) (v := .int (u.1 11)) (C := RX12) (T := TX12) (N := 149) hx hb hts hin hown hK hP 0 mH_0 rfl 11 (by decide) L_symbols (fun _ h9 => h9) mF_11 dX12_symbol_64 ?_
    refine lv_aload_n hx hb dX12_symbol_67 rfl (lv_at hl 2 rfl) ?_
    refine va_get (D := D) (ci := 12) (v := .int (u.1 18)) (C := RX12) (T := TX12) (N := 149) hx hb hts hin hown hK hP 0 mH_0 rfl 18 (by decide) L_wordSize (fun _ h9 => h9) mF_18 dX12_symbol_68 ?_
    refine va_iast hx hb hK hP hD hS 9 8 mG_10 rfl (by rw [hOk.2.1]; exact vp_in_nI (by omega) (by decide)) dX12_symbol_71 (fun H locs hP hD hS => ?_)
    rw [mSA_10] at hP hD
    refine lv_iconst hx hb dX12_symbol_72 (v := 0) rfl ?_
    refine lv_istore_n hx hb dX12_symbol_73 rfl hl (by decide) rfl (fun ls hl => ?_)
    have hl : lv_has ls 3 [(2, .int (0)), (1, .int (nI j1)), (0, .ref (h0))] := hl
    refine w_loopS (nL := 3) (sta := fun q : mST × Nat => q.1) (lst := fun q : mST × Nat => [(2, .int (nI q.2)), (1, .int (nI j1)), (0, .ref h0)]) (μ := fun q => N - q.2) (I := fun q => q.2 ≤ N ∧ q.1.1 = u.1 ∧ (∀ g : Nat, g ≠ 9 → g ≠ 10 → q.1.2.1 g = u.2.1 g) ∧ q.1.2.2 = u.2.2) ?_ (mA u 10 (u.1 11).toNatClampNeg (u.1 18), 0) ls ⟨Nat.zero_le _, rfl, fun g h1 h2 => if_neg h2, rfl⟩ hP hD hS hl
    intro q H locs ls hI hP hD hS hl ih
    obtain ⟨w, j⟩ := q
    obtain ⟨hI1, hI2, hI3, hI4⟩ := hI
    dsimp only at hI1 hI2 hI3 hI4 hP hD
    have hwN2 : w.1 18 = nI N := by rw [hI2]; exact hwN
    have hsy : w.1 11 = nI n := by rw [hI2]; exact hOk.2.1
    have hl : lv_has ls 3 [(2, .int (nI j)), (1, .int (nI j1)), (0, .ref (h0))] := hl
    refine lv_iload_n hx hb dX12_symbol_74 rfl (lv_at hl 0 rfl) ?_
    refine lv_aload_n hx hb dX12_symbol_75 rfl (lv_at hl 2 rfl) ?_
    refine va_get (D := D) (ci := 12) (v := .int (w.1 18)) (C := RX12) (T := TX12) (N := 149) hx hb hts hin hown hK hP 0 mH_0 rfl 18 (by decide) L_wordSize (fun _ h9 => h9) mF_18 dX12_symbol_76 ?_
    refine lv_icmp_ge hx hb dX12_symbol_79 (tgt := 108) rfl (fun h5 => ?_) (fun h5 => ?_)
    · refine lv_aload_n hx hb dX12_symbol_108 rfl (lv_at hl 2 rfl) ?_
      refine lv_dup hx hb dX12_symbol_109 rfl ?_
      refine va_get (D := D) (ci := 12) (v := .int (w.1 11)) (C := RX12) (T := TX12) (N := 149) hx hb hts hin hown hK hP 0 mH_0 rfl 11 (by decide) L_symbols (fun _ h9 => h9) mF_11 dX12_symbol_110 ?_
      refine lv_iconst hx hb dX12_symbol_113 (v := 1) rfl ?_
      refine lv_iadd hx hb dX12_symbol_114 ?_
      refine va_put (D := D) (ci := 12) (v := .int ((w.1 11) + 1)) (ty := .int) (C := RX12) (T := TX12) (N := 149) hx hb hts hin tyX12 tyX12_ok nmX12 hown hK hP hD hS 0 mH_0 rfl 11 (by decide) L_symbols (fun _ h9 => h9) rfl (tyX12_ok 11 (by decide)) rfl rfl (Nat.le_of_ble_eq_true rfl) dX12_symbol_115 (fun H locs hP hD hS => ?_)
      rw [mSI_11] at hP hD
      refine lv_aload_n hx hb dX12_symbol_118 rfl (lv_at hl 2 rfl) ?_
      refine lv_bipush hx hb dX12_symbol_119 (v := (-2)) rfl ?_
      refine lv_aload_n hx hb dX12_symbol_121 rfl (lv_at hl 2 rfl) ?_
      refine va_get (D := D) (ci := 12) (v := .int ((w.1 11) + 1)) (C := RX12) (T := TX12) (N := 149) hx hb hts hin hown hK hP 0 mH_0 rfl 11 (by decide) L_symbols (fun _ h9 => h9) mF_11 dX12_symbol_122 ?_
      refine lv_iconst hx hb dX12_symbol_125 (v := 1) rfl ?_
      refine lv_isub hx hb dX12_symbol_126 ?_
      refine lv_iload_n hx hb dX12_symbol_127 rfl (lv_at hl 1 rfl) ?_
      have hFc := pl_free hD hS hA
      refine va_calli (va_runV (As := [.int ((-2)), .int (((w.1 11) + 1) - 1), .int (nI j1)]) (rest := []) ⟨hx, hb, hml, hown, hts⟩ (c_m_added l D ca h0 H.size ad (mI w 11 ((w.1 11) + 1)) (-2) (w.1 11 + 1 - 1) (nI j1) (by show vp_in (w.1 8) 452000; rw [hI2, hOk.1]; exact vp_in_nI (by omega) (by decide)) (vp_in_nI hj1 (by decide)) (fun h => absurd h (by decide))) (cwV 3 hts gX12_symbol_X12_added rfl rfl rfl (by decide +kernel) ⟨Nat.le_of_ble_eq_true rfl, Nat.le_of_ble_eq_true rfl⟩) ⟨fun a U g mk q => by obtain ⟨q0, q1, qP, qK, qD⟩ := q; exact ⟨q0, q1, qP, va_K.moved (u := U) (U := U.calling g mk a) (Vm.Alike.refl U.vm) qK, qD⟩, va_recv hK hP (ci := 12) (q0 := 0) rfl rfl, fun U hU hW => ⟨rfl, by rw [hU], by rw [hU]; exact hP, va_K.moved hW.alike hK, hD.weaken (fun _ _ _ _ => trivial)⟩⟩ rfl rfl hl.1 rfl (lv_room (Nat.le_of_ble_eq_true rfl)) dX12_symbol_128 ⟨(Nat.zero_le _), (Nat.zero_le _)⟩) hS (fun q _ h => hFc q h) hFc (fun r7 u6 t H1 locs ht hvm hwu6 hB hz1 hk1 hS => ?_)
      obtain ⟨hP1, hK1, hD1⟩ := hB
      rw [ht] at hP1
      have hK := va_K.moved hvm.symm hK1
      have hD := hD1.weaken (fun _ _ _ h => hFc _ h)
      have hP := hP1
      clear hP1 hK1 hD1 hFc
      generalize H1 = H at hP hS hz1 hk1 ht ⊢
      have hP : va_P D vwCl (mCl ca h0 ad u6) H := hP
      have hD : va_D A (mCl ca h0 ad u6) := hD
      exact W.iret (v := r7) hx hb hr (fun t ht hW => ⟨⟨r7, u6, rfl, (by obtain ⟨he, -⟩ := hwu6; rw [he]; exact ⟨n + 1, Nat.le_refl _, mOk_add hn hOk hI2 hI3 hj1, mFr_add hI2 hI3 hI4, congrFun hI2 18⟩), by rw [ht]; exact hP, va_K.moved hW.alike hK, hD⟩, hS.F ht⟩) hS.2.2 dX12_symbol_131
    · have hj : j < N := by
        rcases Nat.lt_or_ge j N with h | h
        · exact h
        · exact absurd (by rw [hwN2]; exact nI_le h (by omega)) h5
      refine lv_aload_n hx hb dX12_symbol_82 rfl (lv_at hl 2 rfl) ?_
      refine va_get (D := D) (ci := 12) (v := .ref (ad 9)) (C := RX12) (T := TX12) (N := 149) hx hb hts hin hown hK hP 0 mH_0 rfl 9 (by decide) L_names (fun _ h9 => h9) mF_9 dX12_symbol_83 ?_
      refine lv_bipush hx hb dX12_symbol_86 (v := 12) rfl ?_
      refine lv_aload_n hx hb dX12_symbol_88 rfl (lv_at hl 2 rfl) ?_
      refine va_get (D := D) (ci := 12) (v := .int (w.1 11)) (C := RX12) (T := TX12) (N := 149) hx hb hts hin hown hK hP 0 mH_0 rfl 11 (by decide) L_symbols (fun _ h9 => h9) mF_11 dX12_symbol_89 ?_
      refine lv_imul hx hb dX12_symbol_92 ?_
      refine lv_iload_n hx hb dX12_symbol_93 rfl (lv_at hl 0 rfl) ?_
      refine lv_iadd hx hb dX12_symbol_94 ?_
      refine lv_aload_n hx hb dX12_symbol_95 rfl (lv_at hl 2 rfl) ?_
      refine va_get (D := D) (ci := 12) (v := .ref (ad 17)) (C := RX12) (T := TX12) (N := 149) hx hb hts hin hown hK hP 0 mH_0 rfl 17 (by decide) L_word (fun _ h9 => h9) mF_17 dX12_symbol_96 ?_
      refine lv_iload_n hx hb dX12_symbol_99 rfl (lv_at hl 0 rfl) ?_
      refine va_iald hx hb hK hP 13 12 mG_17 rfl (vp_in_nI (by omega) (by decide)) dX12_symbol_100 ?_
      refine lv_topi (fun v8 ev8 => ?_)
      have ev8 : v8 = (w.2.1 17) (nI j).toNatClampNeg := ev8
      refine va_iast hx hb hK hP hD hS 8 7 mG_9 rfl (by rw [hsy, show (12 : Int32) = nI 12 from rfl, pk_mul, nI_add]; exact vp_in_nI (by omega) (by decide)) dX12_symbol_101 (fun H locs hP hD hS => ?_)
      rw [mSA_9] at hP hD
      refine lv_iinc (v := nI j + 1) hx hb dX12_symbol_102 hl (k := 0) rfl rfl (by decide) rfl (fun ls hl => ?_)
      have hl : lv_has ls 3 [(2, .int (nI j + 1)), (1, .int (nI j1)), (0, .ref (h0))] := hl
      refine lv_goto hx hb dX12_symbol_105 (tgt := 74) rfl ?_
      exact ih (mA w 9 ((12 * (w.1 11)) + (nI j)).toNatClampNeg (v8), j + 1) H locs ls ⟨by show j + 1 ≤ N; omega, hI2, fun g h1 h2 => (mA_n w _ _ h1).trans (hI3 g h1 h2), hI4⟩ (by show N - (j + 1) < N - j; omega) hP hD hS (by rw [nI_1] at hl; exact hl)
  · obtain ⟨i, hi, hq⟩ : ∃ i : Nat, i < n ∧ q = nI i := hI.elim (fun h => absurd h h4) id
    subst hq
    refine lv_aload_n hx hb dX12_symbol_23 rfl (lv_at hl 2 rfl) ?_
    refine va_get (D := D) (ci := 12) (v := .ref (ad 0)) (C := RX12) (T := TX12) (N := 149) hx hb hts hin hown hK hP 0 mH_0 rfl 0 (by decide) L_left (fun _ h9 => h9) mF_0 dX12_symbol_24 ?_
    refine lv_iload_n hx hb dX12_symbol_27 rfl (lv_at hl 0 rfl) ?_
    refine va_iald hx hb hK hP 1 0 mG_0 rfl (vp_in_nI (by omega) (by decide)) dX12_symbol_28 ?_
    refine lv_topi (fun v9 ev9 => ?_)
    have ev9 : v9 = (u.2.1 0) (nI i).toNatClampNeg := ev9
    refine lv_bipush hx hb dX12_symbol_29 (v := (-2)) rfl ?_
    refine lv_icmp_ne hx hb dX12_symbol_31 (tgt := 49) rfl (fun h10 => ?_) (fun h10 => ?_)
    · refine lv_aload_n hx hb dX12_symbol_49 rfl (lv_at hl 2 rfl) ?_
      refine va_get (D := D) (ci := 12) (v := .ref (ad 2)) (C := RX12) (T := TX12) (N := 149) hx hb hts hin hown hK hP 0 mH_0 rfl 2 (by decide) L_next (fun _ h9 => h9) mF_2 dX12_symbol_50 ?_
      refine lv_iload_n hx hb dX12_symbol_53 rfl (lv_at hl 0 rfl) ?_
      refine va_iald hx hb hK hP 3 2 mG_2 rfl (vp_in_nI (by omega) (by decide)) dX12_symbol_54 ?_
      refine lv_topi (fun v11 ev11 => ?_)
      have ev11 : v11 = (u.2.1 2) (nI i).toNatClampNeg := ev11
      refine lv_istore_n hx hb dX12_symbol_55 rfl hl (by decide) rfl (fun ls hl => ?_)
      have hl : lv_has ls 3 [(2, .int (v11)), (1, .int (nI j1)), (0, .ref (h0))] := hl
      refine lv_goto hx hb dX12_symbol_56 (tgt := 18) rfl ?_
      have hz : v11 = -1 ∨ ∃ i2 : Nat, i2 < i ∧ v11 = nI i2 := by rw [ev11, nI_clamp (by omega)]; exact (hOk.2.2.2 i hi).2.2
      refine ih v11 H locs ls (hz.elim Or.inl (fun ⟨i2, h2, e2⟩ => Or.inr ⟨i2, by omega, e2⟩)) ?_ hP hD hS hl
      show (v11 + 1).toNatClampNeg < (nI i + 1).toNatClampNeg
      rw [nI_1, nI_clamp (by omega)]
      rcases hz with h | ⟨i2, h2, h⟩
      · rw [h]; exact Nat.succ_pos i
      · rw [h, nI_1, nI_clamp (by omega)]; omega
    · refine lv_aload_n hx hb dX12_symbol_34 rfl (lv_at hl 2 rfl) ?_
      refine lv_aload_n hx hb dX12_symbol_35 rfl (lv_at hl 2 rfl) ?_
      refine va_get (D := D) (ci := 12) (v := .ref (ad 1)) (C := RX12) (T := TX12) (N := 149) hx hb hts hin hown hK hP 0 mH_0 rfl 1 (by decide) L_right (fun _ h9 => h9) mF_1 dX12_symbol_36 ?_
      refine lv_iload_n hx hb dX12_symbol_39 rfl (lv_at hl 0 rfl) ?_
      refine va_iald hx hb hK hP 2 1 mG_1 rfl (vp_in_nI (by omega) (by decide)) dX12_symbol_40 ?_
      refine lv_topi (fun v12 ev12 => ?_)
      have ev12 : v12 = (u.2.1 1) (nI i).toNatClampNeg := ev12
      obtain ⟨S, hS1, hS2⟩ := (hOk.2.2.2 i hi).2.1
      have haS : v12 = nI S := by rw [ev12, nI_clamp (by omega)]; exact hS2
      have hFc := pl_free hD hS hA
      refine va_calli (va_runV (As := [.int (v12)]) (rest := []) ⟨hx, hb, hml, hown, hts⟩ (c_m_isWord l D ca h0 H.size ad u v12 S N haS (by omega) hwN hN) (cwV 1 hts gX12_symbol_X12_isWord rfl rfl rfl (by decide +kernel) ⟨Nat.le_of_ble_eq_true rfl, Nat.le_of_ble_eq_true rfl⟩) ⟨fun a U g mk q => by obtain ⟨q0, q1, qP, qK, qD⟩ := q; exact ⟨q0, q1, qP, va_K.moved (u := U) (U := U.calling g mk a) (Vm.Alike.refl U.vm) qK, qD⟩, va_recv hK hP (ci := 12) (q0 := 0) rfl rfl, fun U hU hW => ⟨rfl, by rw [hU], by rw [hU]; exact hP, va_K.moved hW.alike hK, hD.weaken (fun _ _ _ _ => trivial)⟩⟩ rfl rfl hl.1 rfl (lv_room (Nat.le_of_ble_eq_true rfl)) dX12_symbol_41 ⟨(Nat.zero_le _), (Nat.zero_le _)⟩) hS (fun q _ h => hFc q h) hFc (fun r14 u13 t H1 locs ht hvm hwu13 hB hz1 hk1 hS => ?_)
      obtain ⟨hP1, hK1, hD1⟩ := hB
      rw [ht] at hP1
      have hK := va_K.moved hvm.symm hK1
      have hD := hD1.weaken (fun _ _ _ h => hFc _ h)
      have hP := hP1
      clear hP1 hK1 hD1 hFc
      generalize H1 = H at hP hS hz1 hk1 ht ⊢
      have hP : va_P D vwCl (mCl ca h0 ad u13) H := hP
      have hD : va_D A (mCl ca h0 ad u13) := hD
      obtain ⟨he2, hr2⟩ := hwu13
      rw [he2] at hP hD
      refine lv_if_eq hx hb dX12_symbol_44 (tgt := 49) rfl (fun h15 => ?_) (fun h15 => ?_)
      · refine lv_aload_n hx hb dX12_symbol_49 rfl (lv_at hl 2 rfl) ?_
        refine va_get (D := D) (ci := 12) (v := .ref (ad 2)) (C := RX12) (T := TX12) (N := 149) hx hb hts hin hown hK hP 0 mH_0 rfl 2 (by decide) L_next (fun _ h9 => h9) mF_2 dX12_symbol_50 ?_
        refine lv_iload_n hx hb dX12_symbol_53 rfl (lv_at hl 0 rfl) ?_
        refine va_iald hx hb hK hP 3 2 mG_2 rfl (vp_in_nI (by omega) (by decide)) dX12_symbol_54 ?_
        refine lv_topi (fun v16 ev16 => ?_)
        have ev16 : v16 = (u.2.1 2) (nI i).toNatClampNeg := ev16
        refine lv_istore_n hx hb dX12_symbol_55 rfl hl (by decide) rfl (fun ls hl => ?_)
        have hl : lv_has ls 3 [(2, .int (v16)), (1, .int (nI j1)), (0, .ref (h0))] := hl
        refine lv_goto hx hb dX12_symbol_56 (tgt := 18) rfl ?_
        have hz : v16 = -1 ∨ ∃ i2 : Nat, i2 < i ∧ v16 = nI i2 := by rw [ev16, nI_clamp (by omega)]; exact (hOk.2.2.2 i hi).2.2
        refine ih v16 H locs ls (hz.elim Or.inl (fun ⟨i2, h2, e2⟩ => Or.inr ⟨i2, by omega, e2⟩)) ?_ hP hD hS hl
        show (v16 + 1).toNatClampNeg < (nI i + 1).toNatClampNeg
        rw [nI_1, nI_clamp (by omega)]
        rcases hz with h | ⟨i2, h2, h⟩
        · rw [h]; exact Nat.succ_pos i
        · rw [h, nI_1, nI_clamp (by omega)]; omega
      · refine lv_iload_n hx hb dX12_symbol_47 rfl (lv_at hl 0 rfl) ?_
        exact W.iret (v := nI i) hx hb hr (fun t ht hW => ⟨⟨nI i, u, rfl, ⟨n, Nat.le_succ n, hOk, mFr_rf u, rfl⟩, by rw [ht]; exact hP, va_K.moved hW.alike hK, hD⟩, hS.F ht⟩) hS.2.2 dX12_symbol_48
end
section
theorem sp_ok {n N : Nat} {u v : mST} {a : Int32} (hOk : mOk n u) (hN : u.1 18 = nI N) (hv : v = if a = 0 then u else mI (mA u 17 (u.1 18).toNatClampNeg a) 18 (u.1 18 + 1)) : ∃ N2 : Nat, N2 ≤ N + 1 ∧ mOk n v ∧ v.1 18 = nI N2 ∧ mFr u v := by
  by_cases h : a = 0
  · rw [if_pos h] at hv
    rw [hv]
    exact ⟨N, Nat.le_succ N, hOk, hN, mFr_rf u⟩
  · rw [if_neg h] at hv
    rw [hv]
    refine ⟨N + 1, Nat.le_refl _, hOk, ?_, ?_⟩
    · show u.1 18 + 1 = nI (N + 1)
      rw [hN, nI_1]
    · refine ⟨fun k _ _ k3 => if_neg k3, ?_, rfl⟩
      intro g hg
      simp only [mTouch, List.mem_cons, List.not_mem_nil, or_false, not_or] at hg
      exact if_neg hg.2.2.2.2.2.2.2.2
theorem mFr_w (u : mST) (x : Int32) : mFr u (mI u 18 x) := ⟨fun k _ _ k3 => if_neg k3, fun _ _ => rfl, rfl⟩

set_option maxHeartbeats 4000000 in
set_option maxRecDepth 100000 in
/-- said(..) -/
theorem c_m_said (l : Launch) (D : va_G) (ca : Nat → ClassId) (h0 sz : Nat) (ad : Nat → Nat) (u : mST) (a1 : Int32) (a2 : Int32) (a3 : Int32) (a4 : Int32) (a5 : Int32) (a6 : Int32) (a7 : Int32) (a8 : Int32) (n : Nat) (hn : n ≤ 1000) (hOk : mOk n u) : Met l yX12_said wsX12_said ({ frames := 2, cells := 0, slots := 0, locals := 47 }) (va_Pc [.ref (h0), .int (a1), .int (a2), .int (a3), .int (a4), .int (a5), .int (a6), .int (a7), .int (a8)] (fun U => U.heap.size = sz ∧ mWd D ca (fun _ => True) h0 ad u U)) (va_Qv (fun v : mST => ∃ n2 : Nat, n2 ≤ n + 1 ∧ mOk n2 v ∧ mFr u v) (mWd D ca (va_A (mCl ca h0 ad u) sz) h0 ad) (va_A (mCl ca h0 ad u) sz)) 0 0 (va_A (mCl ca h0 ad u) sz) := by
  refine Met.ofW (cc := cX12_said) (maxL := 10) (ret := none) (by decide) rfl ?_
  intro p e s m args below meth c s₁ B hml hv
  obtain ⟨rfl, hsz, hP, hK, hD0⟩ := hv
  have hx := B.exec
  have hb := B.bytes
  have hr := B.returns
  have hts := atoms_spec (ws := wsX12_said) B.pre
  have hown : s.vm.findClass RX12 = some m.cls := findClass_of_methodNamed B.named
  have hlocks := B.notSynchronized
  subst hsz
  have hD := hD0.self (sz := s.heap.size)
  generalize hAe : va_A (mCl ca h0 ad u) s.heap.size = A at hD ⊢
  have hA : ∀ q : Nat, s.heap.size ≤ q → A q := fun q h => by rw [← hAe]; exact Or.inr h
  have hS : va_S A s.heap s.heap [] := va_S.rf
  have L_wordSize := hts (.fieldLink RX12 309 "ProofHouseModel" "wordSize" "I") (by decide +kernel)
  have hin : ∀ w ∈ wsX120, w ∈ wsX12_said := by decide +kernel
  have hl := lv_entry ([.ref (h0), .int (a1), .int (a2), .int (a3), .int (a4), .int (a5), .int (a6), .int (a7), .int (a8)]) (n := 10) (Nat.le_of_ble_eq_true rfl)
  rw [lg_entry_eq]
  generalize (lg_sl ([.ref (h0), .int (a1), .int (a2), .int (a3), .int (a4), .int (a5), .int (a6), .int (a7), .int (a8)]) ++ List.replicate (10 - (lg_sl ([.ref (h0), .int (a1), .int (a2), .int (a3), .int (a4), .int (a5), .int (a6), .int (a7), .int (a8)])).length) Slot.unset).toArray = ls at hl ⊢
  have hl : lv_has ls 10 [(0, .ref (h0)), (1, .int (a1)), (2, .int (a2)), (3, .int (a3)), (4, .int (a4)), (5, .int (a5)), (6, .int (a6)), (7, .int (a7)), (8, .int (a8))] := hl
  refine lv_aload_n hx hb dX12_said_0 rfl (lv_at hl 0 rfl) ?_
  refine lv_iconst hx hb dX12_said_1 (v := 0) rfl ?_
  refine va_put (D := D) (ci := 12) (v := .int (0)) (ty := .int) (C := RX12) (T := TX12) (N := 149) hx hb hts hin tyX12 tyX12_ok nmX12 hown hK hP hD hS 0 mH_0 rfl 18 (by decide) L_wordSize (fun _ h9 => h9) rfl (tyX12_ok 18 (by decide)) rfl rfl (Nat.le_of_ble_eq_true rfl) dX12_said_2 (fun H locs hP hD hS => ?_)
  rw [mSI_18] at hP hD
  refine lv_aload_n hx hb dX12_said_5 rfl (lv_at hl 0 rfl) ?_
  refine lv_iload_n hx hb dX12_said_6 rfl (lv_at hl 1 rfl) ?_
  have hO0 : mOk n (mI u 18 (0)) := hOk
  have hS0 : (mI u 18 (0)).1 18 = nI 0 := rfl
  have hF0 : mFr u (mI u 18 (0)) := mFr_w u 0
  have hN0 : 0 ≤ 0 := Nat.le_refl 0
  have hFc := pl_free hD hS hA
  refine va_callv (va_runV (As := [.int (a1)]) (rest := []) ⟨hx, hb, hml, hown, hts⟩ (c_m_spell l D ca h0 H.size ad (mI u 18 (0)) (a1) (by rw [hS0]; exact vp_in_nI (by omega) (by decide))) (cwV 1 hts gX12_said_X12_spell rfl rfl rfl (by decide +kernel) ⟨Nat.le_of_ble_eq_true rfl, Nat.le_of_ble_eq_true rfl⟩) ⟨fun a U g mk q => by obtain ⟨q0, q1, qP, qK, qD⟩ := q; exact ⟨q0, q1, qP, va_K.moved (u := U) (U := U.calling g mk a) (Vm.Alike.refl U.vm) qK, qD⟩, va_recv hK hP (ci := 12) (q0 := 0) rfl rfl, fun U hU hW => ⟨rfl, by rw [hU], by rw [hU]; exact hP, va_K.moved hW.alike hK, hD.weaken (fun _ _ _ _ => trivial)⟩⟩ rfl rfl hl.1 rfl (lv_room (Nat.le_of_ble_eq_true rfl)) dX12_said_7 ⟨(Nat.zero_le _), (Nat.zero_le _)⟩) hS (fun q _ h => hFc q h) hFc (fun u1 t H1 locs ht hvm hwu1 hB hz1 hk1 hS => ?_)
  obtain ⟨hP1, hK1, hD1⟩ := hB
  rw [ht] at hP1
  have hK := va_K.moved hvm.symm hK1
  have hD := hD1.weaken (fun _ _ _ h => hFc _ h)
  have hP := hP1
  clear hP1 hK1 hD1 hFc
  generalize H1 = H at hP hS hz1 hk1 ht ⊢
  have hP : va_P D vwCl (mCl ca h0 ad u1) H := hP
  have hD : va_D A (mCl ca h0 ad u1) := hD
  obtain ⟨N1, hM1, hO1, hS1, hF1⟩ := sp_ok hO0 hS0 hwu1
  have hN1 : N1 ≤ 1 := by omega
  have hF1 := mFr_tr hF0 hF1
  refine lv_aload_n hx hb dX12_said_10 rfl (lv_at hl 0 rfl) ?_
  refine lv_iload_n hx hb dX12_said_11 rfl (lv_at hl 2 rfl) ?_
  have hFc := pl_free hD hS hA
  refine va_callv (va_runV (As := [.int (a2)]) (rest := []) ⟨hx, hb, hml, hown, hts⟩ (c_m_spell l D ca h0 H.size ad (u1) (a2) (by rw [hS1]; exact vp_in_nI (by omega) (by decide))) (cwV 1 hts gX12_said_X12_spell rfl rfl rfl (by decide +kernel) ⟨Nat.le_of_ble_eq_true rfl, Nat.le_of_ble_eq_true rfl⟩) ⟨fun a U g mk q => by obtain ⟨q0, q1, qP, qK, qD⟩ := q; exact ⟨q0, q1, qP, va_K.moved (u := U) (U := U.calling g mk a) (Vm.Alike.refl U.vm) qK, qD⟩, va_recv hK hP (ci := 12) (q0 := 0) rfl rfl, fun U hU hW => ⟨rfl, by rw [hU], by rw [hU]; exact hP, va_K.moved hW.alike hK, hD.weaken (fun _ _ _ _ => trivial)⟩⟩ rfl rfl hl.1 rfl (lv_room (Nat.le_of_ble_eq_true rfl)) dX12_said_12 ⟨(Nat.zero_le _), (Nat.zero_le _)⟩) hS (fun q _ h => hFc q h) hFc (fun u3 t H1 locs ht hvm hwu3 hB hz1 hk1 hS => ?_)
  obtain ⟨hP1, hK1, hD1⟩ := hB
  rw [ht] at hP1
  have hK := va_K.moved hvm.symm hK1
  have hD := hD1.weaken (fun _ _ _ h => hFc _ h)
  have hP := hP1
  clear hP1 hK1 hD1 hFc
  generalize H1 = H at hP hS hz1 hk1 ht ⊢
  have hP : va_P D vwCl (mCl ca h0 ad u3) H := hP
  have hD : va_D A (mCl ca h0 ad u3) := hD
  obtain ⟨N2, hM2, hO2, hS2, hF2⟩ := sp_ok hO1 hS1 hwu3
  have hN2 : N2 ≤ 2 := by omega
  have hF2 := mFr_tr hF1 hF2
  refine lv_aload_n hx hb dX12_said_15 rfl (lv_at hl 0 rfl) ?_
  refine lv_iload_n hx hb dX12_said_16 rfl (lv_at hl 3 rfl) ?_
  have hFc := pl_free hD hS hA
  refine va_callv (va_runV (As := [.int (a3)]) (rest := []) ⟨hx, hb, hml, hown, hts⟩ (c_m_spell l D ca h0 H.size ad (u3) (a3) (by rw [hS2]; exact vp_in_nI (by omega) (by decide))) (cwV 1 hts gX12_said_X12_spell rfl rfl rfl (by decide +kernel) ⟨Nat.le_of_ble_eq_true rfl, Nat.le_of_ble_eq_true rfl⟩) ⟨fun a U g mk q => by obtain ⟨q0, q1, qP, qK, qD⟩ := q; exact ⟨q0, q1, qP, va_K.moved (u := U) (U := U.calling g mk a) (Vm.Alike.refl U.vm) qK, qD⟩, va_recv hK hP (ci := 12) (q0 := 0) rfl rfl, fun U hU hW => ⟨rfl, by rw [hU], by rw [hU]; exact hP, va_K.moved hW.alike hK, hD.weaken (fun _ _ _ _ => trivial)⟩⟩ rfl rfl hl.1 rfl (lv_room (Nat.le_of_ble_eq_true rfl)) dX12_said_17 ⟨(Nat.zero_le _), (Nat.zero_le _)⟩) hS (fun q _ h => hFc q h) hFc (fun u5 t H1 locs ht hvm hwu5 hB hz1 hk1 hS => ?_)
  obtain ⟨hP1, hK1, hD1⟩ := hB
  rw [ht] at hP1
  have hK := va_K.moved hvm.symm hK1
  have hD := hD1.weaken (fun _ _ _ h => hFc _ h)
  have hP := hP1
  clear hP1 hK1 hD1 hFc
  generalize H1 = H at hP hS hz1 hk1 ht ⊢
  have hP : va_P D vwCl (mCl ca h0 ad u5) H := hP
  have hD : va_D A (mCl ca h0 ad u5) := hD
  obtain ⟨N3, hM3, hO3, hS3, hF3⟩ := sp_ok hO2 hS2 hwu5
  have hN3 : N3 ≤ 3 := by omega
  have hF3 := mFr_tr hF2 hF3
  refine lv_aload_n hx hb dX12_said_20 rfl (lv_at hl 0 rfl) ?_
  refine lv_iload hx hb dX12_said_21 (lv_at hl 4 rfl) ?_
  have hFc := pl_free hD hS hA
  refine va_callv (va_runV (As := [.int (a4)]) (rest := []) ⟨hx, hb, hml, hown, hts⟩ (c_m_spell l D ca h0 H.size ad (u5) (a4) (by rw [hS3]; exact vp_in_nI (by omega) (by decide))) (cwV 1 hts gX12_said_X12_spell rfl rfl rfl (by decide +kernel) ⟨Nat.le_of_ble_eq_true rfl, Nat.le_of_ble_eq_true rfl⟩) ⟨fun a U g mk q => by obtain ⟨q0, q1, qP, qK, qD⟩ := q; exact ⟨q0, q1, qP, va_K.moved (u := U) (U := U.calling g mk a) (Vm.Alike.refl U.vm) qK, qD⟩, va_recv hK hP (ci := 12) (q0 := 0) rfl rfl, fun U hU hW => ⟨rfl, by rw [hU], by rw [hU]; exact hP, va_K.moved hW.alike hK, hD.weaken (fun _ _ _ _ => trivial)⟩⟩ rfl rfl hl.1 rfl (lv_room (Nat.le_of_ble_eq_true rfl)) dX12_said_23 ⟨(Nat.zero_le _), (Nat.zero_le _)⟩) hS (fun q _ h => hFc q h) hFc (fun u7 t H1 locs ht hvm hwu7 hB hz1 hk1 hS => ?_)
  obtain ⟨hP1, hK1, hD1⟩ := hB
  rw [ht] at hP1
  have hK := va_K.moved hvm.symm hK1
  have hD := hD1.weaken (fun _ _ _ h => hFc _ h)
  have hP := hP1
  clear hP1 hK1 hD1 hFc
  generalize H1 = H at hP hS hz1 hk1 ht ⊢
  have hP : va_P D vwCl (mCl ca h0 ad u7) H := hP
  have hD : va_D A (mCl ca h0 ad u7) := hD
  obtain ⟨N4, hM4, hO4, hS4, hF4⟩ := sp_ok hO3 hS3 hwu7
  have hN4 : N4 ≤ 4 := by omega
  have hF4 := mFr_tr hF3 hF4
  refine lv_aload_n hx hb dX12_said_26 rfl (lv_at hl 0 rfl) ?_
  refine lv_iload hx hb dX12_said_27 (lv_at hl 5 rfl) ?_
  have hFc := pl_free hD hS hA
  refine va_callv (va_runV (As := [.int (a5)]) (rest := []) ⟨hx, hb, hml, hown, hts⟩ (c_m_spell l D ca h0 H.size ad (u7) (a5) (by rw [hS4]; exact vp_in_nI (by omega) (by decide))) (cwV 1 hts gX12_said_X12_spell rfl rfl rfl (by decide +kernel) ⟨Nat.le_of_ble_eq_true rfl, Nat.le_of_ble_eq_true rfl⟩) ⟨fun a U g mk q => by obtain ⟨q0, q1, qP, qK, qD⟩ := q; exact ⟨q0, q1, qP, va_K.moved (u := U) (U := U.calling g mk a) (Vm.Alike.refl U.vm) qK, qD⟩, va_recv hK hP (ci := 12) (q0 := 0) rfl rfl, fun U hU hW => ⟨rfl, by rw [hU], by rw [hU]; exact hP, va_K.moved hW.alike hK, hD.weaken (fun _ _ _ _ => trivial)⟩⟩ rfl rfl hl.1 rfl (lv_room (Nat.le_of_ble_eq_true rfl)) dX12_said_29 ⟨(Nat.zero_le _), (Nat.zero_le _)⟩) hS (fun q _ h => hFc q h) hFc (fun u9 t H1 locs ht hvm hwu9 hB hz1 hk1 hS => ?_)
  obtain ⟨hP1, hK1, hD1⟩ := hB
  rw [ht] at hP1
  have hK := va_K.moved hvm.symm hK1
  have hD := hD1.weaken (fun _ _ _ h => hFc _ h)
  have hP := hP1
  clear hP1 hK1 hD1 hFc
  generalize H1 = H at hP hS hz1 hk1 ht ⊢
  have hP : va_P D vwCl (mCl ca h0 ad u9) H := hP
  have hD : va_D A (mCl ca h0 ad u9) := hD
  obtain ⟨N5, hM5, hO5, hS5, hF5⟩ := sp_ok hO4 hS4 hwu9
  have hN5 : N5 ≤ 5 := by omega
  have hF5 := mFr_tr hF4 hF5
  refine lv_aload_n hx hb dX12_said_32 rfl (lv_at hl 0 rfl) ?_
  refine lv_iload hx hb dX12_said_33 (lv_at hl 6 rfl) ?_
  have hFc := pl_free hD hS hA
  refine va_callv (va_runV (As := [.int (a6)]) (rest := []) ⟨hx, hb, hml, hown, hts⟩ (c_m_spell l D ca h0 H.size ad (u9) (a6) (by rw [hS5]; exact vp_in_nI (by omega) (by decide))) (cwV 1 hts gX12_said_X12_spell rfl rfl rfl (by decide +kernel) ⟨Nat.le_of_ble_eq_true rfl, Nat.le_of_ble_eq_true rfl⟩) ⟨fun a U g mk q => by obtain ⟨q0, q1, qP, qK, qD⟩ := q; exact ⟨q0, q1, qP, va_K.moved (u := U) (U := U.calling g mk a) (Vm.Alike.refl U.vm) qK, qD⟩, va_recv hK hP (ci := 12) (q0 := 0) rfl rfl, fun U hU hW => ⟨rfl, by rw [hU], by rw [hU]; exact hP, va_K.moved hW.alike hK, hD.weaken (fun _ _ _ _ => trivial)⟩⟩ rfl rfl hl.1 rfl (lv_room (Nat.le_of_ble_eq_true rfl)) dX12_said_35 ⟨(Nat.zero_le _), (Nat.zero_le _)⟩) hS (fun q _ h => hFc q h) hFc (fun u11 t H1 locs ht hvm hwu11 hB hz1 hk1 hS => ?_)
  obtain ⟨hP1, hK1, hD1⟩ := hB
  rw [ht] at hP1
  have hK := va_K.moved hvm.symm hK1
  have hD := hD1.weaken (fun _ _ _ h => hFc _ h)
  have hP := hP1
  clear hP1 hK1 hD1 hFc
  generalize H1 = H at hP hS hz1 hk1 ht ⊢
  have hP : va_P D vwCl (mCl ca h0 ad u11) H := hP
  have hD : va_D A (mCl ca h0 ad u11) := hD
  obtain ⟨N6, hM6, hO6, hS6, hF6⟩ := sp_ok hO5 hS5 hwu11
  have hN6 : N6 ≤ 6 := by omega
  have hF6 := mFr_tr hF5 hF6
  refine lv_aload_n hx hb dX12_said_38 rfl (lv_at hl 0 rfl) ?_
  refine lv_iload hx hb dX12_said_39 (lv_at hl 7 rfl) ?_
  have hFc := pl_free hD hS hA
  refine va_callv (va_runV (As := [.int (a7)]) (rest := []) ⟨hx, hb, hml, hown, hts⟩ (c_m_spell l D ca h0 H.size ad (u11) (a7) (by rw [hS6]; exact vp_in_nI (by omega) (by decide))) (cwV 1 hts gX12_said_X12_spell rfl rfl rfl (by decide +kernel) ⟨Nat.le_of_ble_eq_true rfl, Nat.le_of_ble_eq_true rfl⟩) ⟨fun a U g mk q => by obtain ⟨q0, q1, qP, qK, qD⟩ := q; exact ⟨q0, q1, qP, va_K.moved (u := U) (U := U.calling g mk a) (Vm.Alike.refl U.vm) qK, qD⟩, va_recv hK hP (ci := 12) (q0 := 0) rfl rfl, fun U hU hW => ⟨rfl, by rw [hU], by rw [hU]; exact hP, va_K.moved hW.alike hK, hD.weaken (fun _ _ _ _ => trivial)⟩⟩ rfl rfl hl.1 rfl (lv_room (Nat.le_of_ble_eq_true rfl)) dX12_said_41 ⟨(Nat.zero_le _), (Nat.zero_le _)⟩) hS (fun q _ h => hFc q h) hFc (fun u13 t H1 locs ht hvm hwu13 hB hz1 hk1 hS => ?_)
  obtain ⟨hP1, hK1, hD1⟩ := hB
  rw [ht] at hP1
  have hK := va_K.moved hvm.symm hK1
  have hD := hD1.weaken (fun _ _ _ h => hFc _ h)
  have hP := hP1
  clear hP1 hK1 hD1 hFc
  generalize H1 = H at hP hS hz1 hk1 ht ⊢
  have hP : va_P D vwCl (mCl ca h0 ad u13) H := hP
  have hD : va_D A (mCl ca h0 ad u13) := hD
  obtain ⟨N7, hM7, hO7, hS7, hF7⟩ := sp_ok hO6 hS6 hwu13
  have hN7 : N7 ≤ 7 := by omega
  have hF7 := mFr_tr hF6 hF7
  refine lv_aload_n hx hb dX12_said_44 rfl (lv_at hl 0 rfl) ?_
  refine lv_iload hx hb dX12_said_45 (lv_at hl 8 rfl) ?_
  have hFc := pl_free hD hS hA
  refine va_callv (va_runV (As := [.int (a8)]) (rest := []) ⟨hx, hb, hml, hown, hts⟩ (c_m_spell l D ca h0 H.size ad (u13) (a8) (by rw [hS7]; exact vp_in_nI (by omega) (by decide))) (cwV 1 hts gX12_said_X12_spell rfl rfl rfl (by decide +kernel) ⟨Nat.le_of_ble_eq_true rfl, Nat.le_of_ble_eq_true rfl⟩) ⟨fun a U g mk q => by obtain ⟨q0, q1, qP, qK, qD⟩ := q; exact ⟨q0, q1, qP, va_K.moved (u := U) (U := U.calling g mk a) (Vm.Alike.refl U.vm) qK, qD⟩, va_recv hK hP (ci := 12) (q0 := 0) rfl rfl, fun U hU hW => ⟨rfl, by rw [hU], by rw [hU]; exact hP, va_K.moved hW.alike hK, hD.weaken (fun _ _ _ _ => trivial)⟩⟩ rfl rfl hl.1 rfl (lv_room (Nat.le_of_ble_eq_true rfl)) dX12_said_47 ⟨(Nat.zero_le _), (Nat.zero_le _)⟩) hS (fun q _ h => hFc q h) hFc (fun u15 t H1 locs ht hvm hwu15 hB hz1 hk1 hS => ?_)
  obtain ⟨hP1, hK1, hD1⟩ := hB
  rw [ht] at hP1
  have hK := va_K.moved hvm.symm hK1
  have hD := hD1.weaken (fun _ _ _ h => hFc _ h)
  have hP := hP1
  clear hP1 hK1 hD1 hFc
  generalize H1 = H at hP hS hz1 hk1 ht ⊢
  have hP : va_P D vwCl (mCl ca h0 ad u15) H := hP
  have hD : va_D A (mCl ca h0 ad u15) := hD
  obtain ⟨N8, hM8, hO8, hS8, hF8⟩ := sp_ok hO7 hS7 hwu15
  have hN8 : N8 ≤ 8 := by omega
  have hF8 := mFr_tr hF7 hF8
  refine lv_aload_n hx hb dX12_said_50 rfl (lv_at hl 0 rfl) ?_
  have hFc := pl_free hD hS hA
  refine va_calli (va_runV (As := []) (rest := []) ⟨hx, hb, hml, hown, hts⟩ (c_m_symbol l D ca h0 H.size ad u15 n N8 hn hO8 hS8 (by omega)) (cwV 0 hts gX12_said_X12_symbol rfl rfl rfl (by decide +kernel) ⟨Nat.le_of_ble_eq_true rfl, Nat.le_of_ble_eq_true rfl⟩) ⟨fun a U g mk q => by obtain ⟨q0, q1, qP, qK, qD⟩ := q; exact ⟨q0, q1, qP, va_K.moved (u := U) (U := U.calling g mk a) (Vm.Alike.refl U.vm) qK, qD⟩, va_recv hK hP (ci := 12) (q0 := 0) rfl rfl, fun U hU hW => ⟨rfl, by rw [hU], by rw [hU]; exact hP, va_K.moved hW.alike hK, hD.weaken (fun _ _ _ _ => trivial)⟩⟩ rfl rfl hl.1 rfl (lv_room (Nat.le_of_ble_eq_true rfl)) dX12_said_51 ⟨(Nat.zero_le _), (Nat.zero_le _)⟩) hS (fun q _ h => hFc q h) hFc (fun r18 u17 t H1 locs ht hvm hwu17 hB hz1 hk1 hS => ?_)
  obtain ⟨hP1, hK1, hD1⟩ := hB
  rw [ht] at hP1
  have hK := va_K.moved hvm.symm hK1
  have hD := hD1.weaken (fun _ _ _ h => hFc _ h)
  have hP := hP1
  clear hP1 hK1 hD1 hFc
  generalize H1 = H at hP hS hz1 hk1 ht ⊢
  have hP : va_P D vwCl (mCl ca h0 ad u17) H := hP
  have hD : va_D A (mCl ca h0 ad u17) := hD
  obtain ⟨n2, hn2, hO9, hF9, -⟩ := hwu17
  refine lv_istore hx hb dX12_said_54 hl (by decide) rfl (fun ls hl => ?_)
  have hl : lv_has ls 10 [(9, .int (r18)), (0, .ref (h0)), (1, .int (a1)), (2, .int (a2)), (3, .int (a3)), (4, .int (a4)), (5, .int (a5)), (6, .int (a6)), (7, .int (a7)), (8, .int (a8))] := hl
  exact W.vret hx hb hr (fun t ht hW => ⟨⟨u17, rfl, ⟨n2, hn2, hO9, mFr_tr hF8 hF9⟩, by rw [ht]; exact hP, va_K.moved hW.alike hK, hD⟩, hS.F ht⟩) hS.2.2 dX12_said_56
end
