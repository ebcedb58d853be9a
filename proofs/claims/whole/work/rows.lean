section
theorem goodIn_r {big : List Cond} (ws : List Cond) (ps : List Nat) (hp : ws = ps.filterMap (fun i => big[i]?)) (h : ws.all goodWord = true) : GoodIn big ws := by
  intro w hw
  have h1 := List.all_eq_true.mp h w hw
  rw [hp] at hw
  obtain ⟨i, -, hi⟩ := List.mem_filterMap.mp hw
  have hm : w ∈ big := by first | exact List.mem_of_getElem? hi | exact List.getElem?_mem hi
  exact ⟨hm, good_of_word h1⟩
theorem goodIn_app {big a b : List Cond} (ha : GoodIn big a) (hb : GoodIn big b) : GoodIn big (a ++ b) := fun w h => (List.mem_append.mp h).elim (ha w) (hb w)
theorem goodIn_ca {big a b : List Cond} {c : Cond} (ha : GoodIn big (c :: a)) (hb : GoodIn big b) : GoodIn big (c :: (a ++ b)) := fun w h => (List.mem_cons.mp h).elim (fun e => ha w (List.mem_cons.mpr (Or.inl e))) (fun h => (List.mem_append.mp h).elim (fun h => ha w (List.mem_cons.mpr (Or.inr h))) (hb w))
theorem goodIn_sub {big ws : List Cond} (hm : ∀ w ∈ ws, w ∈ big) (h : ws.all goodWord = true) : GoodIn big ws := fun w hw => ⟨hm w hw, good_of_word (List.all_eq_true.mp h w hw)⟩
def RX0 : String := "ProofHouse$Book"
def TX0 : u_T := fun k => match k with
  | 0 => ("ProofHouse$Book", "functionNames", "[I", true)
  | 1 => ("ProofHouse$Book", "parameters", "[I", true)
  | 2 => ("ProofHouse$Book", "arities", "[I", true)
  | 3 => ("ProofHouse$Book", "bodies", "[I", true)
  | 4 => ("ProofHouse$Book", "measures", "[I", true)
  | 5 => ("ProofHouse$Book", "functions", "I", false)
  | 6 => ("ProofHouse$Book", "theoremNames", "[I", true)
  | 7 => ("ProofHouse$Book", "formulas", "[I", true)
  | 8 => ("ProofHouse$Book", "lefts", "[I", true)
  | 9 => ("ProofHouse$Book", "rights", "[I", true)
  | 10 => ("ProofHouse$Book", "hypotheses", "[[I", true)
  | 11 => ("ProofHouse$Book", "hypothesisCounts", "[I", true)
  | 12 => ("ProofHouse$Book", "truthAlone", "[Z", true)
  | 13 => ("ProofHouse$Book", "turning", "[Z", true)
  | 14 => ("ProofHouse$Book", "on", "[Z", true)
  | 15 => ("ProofHouse$Book", "muted", "[Z", true)
  | 16 => ("ProofHouse$Book", "theorems", "I", false)
  | 17 => ("ProofHouse$Book", "kinds", "[I", true)
  | 18 => ("ProofHouse$Book", "marks", "[I", true)
  | 19 => ("ProofHouse$Book", "entries", "I", false)
  | _ => ("ProofHouse$Book", "kept", "I", false)
def tyX0 : Nat → FieldType := fun k => match k with
  | 0 => .array .int
  | 1 => .array .int
  | 2 => .array .int
  | 3 => .array .int
  | 4 => .array .int
  | 5 => .int
  | 6 => .array .int
  | 7 => .array .int
  | 8 => .array .int
  | 9 => .array .int
  | 10 => .array (.array .int)
  | 11 => .array .int
  | 12 => .array .boolean
  | 13 => .array .boolean
  | 14 => .array .boolean
  | 15 => .array .boolean
  | 16 => .int
  | 17 => .array .int
  | 18 => .array .int
  | 19 => .int
  | _ => .int
abbrev wsX00 : List Cond := u_ws RX0 TX0 21
theorem nmX0 : ∀ a, a < 21 → ∀ b, b < 21 → a ≠ b → (TX0 a).2.1 ≠ (TX0 b).2.1 := by decide +kernel
theorem tyX0_ok : ∀ k, k < 21 → parseFieldDescriptor (TX0 k).2.2.1 = some (tyX0 k) := by decide +kernel
abbrev cX0_init : ByteArray := prog_2_method_1_code
def yX0_init : MethodName := ⟨RX0, "<init>", "(I)V"⟩
abbrev cX0_functionOf : ByteArray := prog_2_method_2_code
def yX0_functionOf : MethodName := ⟨RX0, "functionOf", "(I)I"⟩
abbrev cX0_theoremOf : ByteArray := prog_2_method_3_code
def yX0_theoremOf : MethodName := ⟨RX0, "theoremOf", "(I)I"⟩
abbrev cX0_arityOf : ByteArray := prog_2_method_4_code
def yX0_arityOf : MethodName := ⟨RX0, "arityOf", "(I)I"⟩
abbrev cX0_canLook : ByteArray := prog_2_method_5_code
def yX0_canLook : MethodName := ⟨RX0, "canLook", "(II)Z"⟩
abbrev cX0_rules : ByteArray := prog_2_method_6_code
def yX0_rules : MethodName := ⟨RX0, "rules", "(Z)I"⟩
abbrev cX0_muteNone : ByteArray := prog_2_method_7_code
def yX0_muteNone : MethodName := ⟨RX0, "muteNone", "()V"⟩
abbrev cX0_addFunction : ByteArray := prog_2_method_8_code
def yX0_addFunction : MethodName := ⟨RX0, "addFunction", "(IIIII)V"⟩
abbrev cX0_addTheorem : ByteArray := prog_2_method_9_code
def yX0_addTheorem : MethodName := ⟨RX0, "addTheorem", "(II)V"⟩
abbrev cX0_enter : ByteArray := prog_2_method_10_code
def yX0_enter : MethodName := ⟨RX0, "enter", "(II)V"⟩
abbrev cX0_takeBack : ByteArray := prog_2_method_11_code
def yX0_takeBack : MethodName := ⟨RX0, "takeBack", "()V"⟩
abbrev cX0_placeOf : ByteArray := prog_2_method_12_code
def yX0_placeOf : MethodName := ⟨RX0, "placeOf", "(I)I"⟩
def RX1 : String := "ProofHouse$Clause"
def TX1 : u_T := fun k => match k with
  | 0 => ("ProofHouse$Clause", "literals", "[I", true)
  | 1 => ("ProofHouse$Clause", "length", "I", false)
  | 2 => ("ProofHouse$Clause", "weight", "I", false)
  | _ => ("ProofHouse$Clause", "rounds", "I", false)
def tyX1 : Nat → FieldType := fun k => match k with
  | 0 => .array .int
  | 1 => .int
  | 2 => .int
  | _ => .int
abbrev wsX10 : List Cond := u_ws RX1 TX1 4
theorem nmX1 : ∀ a, a < 4 → ∀ b, b < 4 → a ≠ b → (TX1 a).2.1 ≠ (TX1 b).2.1 := by decide +kernel
theorem tyX1_ok : ∀ k, k < 4 → parseFieldDescriptor (TX1 k).2.2.1 = some (tyX1 k) := by decide +kernel
abbrev cX1_init : ByteArray := prog_3_method_1_code
def yX1_init : MethodName := ⟨RX1, "<init>", "()V"⟩
abbrev cX1_clear : ByteArray := prog_3_method_2_code
def yX1_clear : MethodName := ⟨RX1, "clear", "()V"⟩
abbrev cX1_copy : ByteArray := prog_3_method_3_code
def yX1_copy : MethodName := ⟨RX1, "copy", "(LProofHouse$Clause;)V"⟩
abbrev cX1_placeOf : ByteArray := prog_3_method_4_code
def yX1_placeOf : MethodName := ⟨RX1, "placeOf", "(I)I"⟩
abbrev cX1_insert : ByteArray := prog_3_method_5_code
def yX1_insert : MethodName := ⟨RX1, "insert", "(III)Z"⟩
abbrev cX1_isTooBig : ByteArray := prog_3_method_6_code
def yX1_isTooBig : MethodName := ⟨RX1, "isTooBig", "()Z"⟩
abbrev cX1_remove : ByteArray := prog_3_method_7_code
def yX1_remove : MethodName := ⟨RX1, "remove", "(II)V"⟩
def RX2 : String := "ProofHouse$Evaluator"
def TX2 : u_T := fun k => match k with
  | 0 => ("ProofHouse$Evaluator", "room", "LProofHouse$Room;", true)
  | 1 => ("ProofHouse$Evaluator", "book", "LProofHouse$Book;", true)
  | 2 => ("ProofHouse$Evaluator", "names", "[I", true)
  | 3 => ("ProofHouse$Evaluator", "rests", "[I", true)
  | 4 => ("ProofHouse$Evaluator", "bases", "[I", true)
  | 5 => ("ProofHouse$Evaluator", "inBody", "[Z", true)
  | 6 => ("ProofHouse$Evaluator", "outerOwners", "[I", true)
  | 7 => ("ProofHouse$Evaluator", "outerFloors", "[I", true)
  | 8 => ("ProofHouse$Evaluator", "values", "[I", true)
  | 9 => ("ProofHouse$Evaluator", "depth", "I", false)
  | 10 => ("ProofHouse$Evaluator", "held", "I", false)
  | 11 => ("ProofHouse$Evaluator", "owner", "I", false)
  | 12 => ("ProofHouse$Evaluator", "floor", "I", false)
  | 13 => ("ProofHouse$Evaluator", "stepsLeft", "I", false)
  | _ => ("ProofHouse$Evaluator", "stopped", "I", false)
def tyX2 : Nat → FieldType := fun k => match k with
  | 0 => .object "ProofHouse$Room"
  | 1 => .object "ProofHouse$Book"
  | 2 => .array .int
  | 3 => .array .int
  | 4 => .array .int
  | 5 => .array .boolean
  | 6 => .array .int
  | 7 => .array .int
  | 8 => .array .int
  | 9 => .int
  | 10 => .int
  | 11 => .int
  | 12 => .int
  | 13 => .int
  | _ => .int
abbrev wsX20 : List Cond := u_ws RX2 TX2 15
theorem nmX2 : ∀ a, a < 15 → ∀ b, b < 15 → a ≠ b → (TX2 a).2.1 ≠ (TX2 b).2.1 := by decide +kernel
theorem tyX2_ok : ∀ k, k < 15 → parseFieldDescriptor (TX2 k).2.2.1 = some (tyX2 k) := by decide +kernel
abbrev cX2_init : ByteArray := prog_4_method_1_code
def yX2_init : MethodName := ⟨RX2, "<init>", "(LProofHouse$Room;LProofHouse$Book;)V"⟩
abbrev cX2_evaluated : ByteArray := prog_4_method_2_code
def yX2_evaluated : MethodName := ⟨RX2, "evaluated", "(II)I"⟩
abbrev cX2_isReady : ByteArray := prog_4_method_3_code
def yX2_isReady : MethodName := ⟨RX2, "isReady", "(I)Z"⟩
abbrev cX2_begin : ByteArray := prog_4_method_4_code
def yX2_begin : MethodName := ⟨RX2, "begin", "(I)V"⟩
abbrev cX2_hold : ByteArray := prog_4_method_5_code
def yX2_hold : MethodName := ⟨RX2, "hold", "(I)V"⟩
abbrev cX2_parameterValue : ByteArray := prog_4_method_6_code
def yX2_parameterValue : MethodName := ⟨RX2, "parameterValue", "(I)I"⟩
abbrev cX2_goOn : ByteArray := prog_4_method_7_code
def yX2_goOn : MethodName := ⟨RX2, "goOn", "(I)I"⟩
abbrev cX2_close : ByteArray := prog_4_method_8_code
def yX2_close : MethodName := ⟨RX2, "close", "(I)V"⟩
abbrev cX2_baseValue : ByteArray := prog_4_method_9_code
def yX2_baseValue : MethodName := ⟨RX2, "baseValue", "(IIII)I"⟩
def RX3 : String := "ProofHouse$Proofs"
def TX3 : u_T := fun k => match k with
  | 0 => ("ProofHouse$Proofs", "room", "LProofHouse$Room;", true)
  | 1 => ("ProofHouse$Proofs", "book", "LProofHouse$Book;", true)
  | 2 => ("ProofHouse$Proofs", "terms", "LProofHouse$Terms;", true)
  | 3 => ("ProofHouse$Proofs", "evaluator", "LProofHouse$Evaluator;", true)
  | 4 => ("ProofHouse$Proofs", "schemes", "LProofHouse$Schemes;", true)
  | 5 => ("ProofHouse$Proofs", "frames", "[[I", true)
  | 6 => ("ProofHouse$Proofs", "depth", "I", false)
  | 7 => ("ProofHouse$Proofs", "clauses", "[LProofHouse$Clause;", true)
  | 8 => ("ProofHouse$Proofs", "held", "I", false)
  | 9 => ("ProofHouse$Proofs", "wanted", "LProofHouse$Clause;", true)
  | _ => ("ProofHouse$Proofs", "wrong", "I", false)
def tyX3 : Nat → FieldType := fun k => match k with
  | 0 => .object "ProofHouse$Room"
  | 1 => .object "ProofHouse$Book"
  | 2 => .object "ProofHouse$Terms"
  | 3 => .object "ProofHouse$Evaluator"
  | 4 => .object "ProofHouse$Schemes"
  | 5 => .array (.array .int)
  | 6 => .int
  | 7 => .array (.object "ProofHouse$Clause")
  | 8 => .int
  | 9 => .object "ProofHouse$Clause"
  | _ => .int
abbrev wsX30 : List Cond := u_ws RX3 TX3 11
theorem nmX3 : ∀ a, a < 11 → ∀ b, b < 11 → a ≠ b → (TX3 a).2.1 ≠ (TX3 b).2.1 := by decide +kernel
theorem tyX3_ok : ∀ k, k < 11 → parseFieldDescriptor (TX3 k).2.2.1 = some (tyX3 k) := by decide +kernel
abbrev cX3_init : ByteArray := prog_5_method_1_code
def yX3_init : MethodName := ⟨RX3, "<init>", "(LProofHouse$Room;LProofHouse$Book;LProofHouse$Terms;LProofHouse$Evaluator;LProofHouse$Schemes;)V"⟩
abbrev cX3_goThrough : ByteArray := prog_5_method_2_code
def yX3_goThrough : MethodName := ⟨RX3, "goThrough", "(I)V"⟩
abbrev cX3_open : ByteArray := prog_5_method_3_code
def yX3_open : MethodName := ⟨RX3, "open", "(I)V"⟩
abbrev cX3_isFormed : ByteArray := prog_5_method_4_code
def yX3_isFormed : MethodName := ⟨RX3, "isFormed", "(I)Z"⟩
abbrev cX3_termAt : ByteArray := prog_5_method_5_code
def yX3_termAt : MethodName := ⟨RX3, "termAt", "(II)I"⟩
abbrev cX3_isWholeFormed : ByteArray := prog_5_method_6_code
def yX3_isWholeFormed : MethodName := ⟨RX3, "isWholeFormed", "(I)Z"⟩
abbrev cX3_valueAt : ByteArray := prog_5_method_7_code
def yX3_valueAt : MethodName := ⟨RX3, "valueAt", "(I)I"⟩
abbrev cX3_isListOfTerms : ByteArray := prog_5_method_8_code
def yX3_isListOfTerms : MethodName := ⟨RX3, "isListOfTerms", "(I)Z"⟩
abbrev cX3_isInduction : ByteArray := prog_5_method_9_code
def yX3_isInduction : MethodName := ⟨RX3, "isInduction", "(I)Z"⟩
abbrev cX3_conclude : ByteArray := prog_5_method_10_code
def yX3_conclude : MethodName := ⟨RX3, "conclude", "([I)V"⟩
abbrev cX3_concludeAlone : ByteArray := prog_5_method_11_code
def yX3_concludeAlone : MethodName := ⟨RX3, "concludeAlone", "(LProofHouse$Clause;I)V"⟩
abbrev cX3_joinEqual : ByteArray := prog_5_method_12_code
def yX3_joinEqual : MethodName := ⟨RX3, "joinEqual", "(LProofHouse$Clause;II)V"⟩
abbrev cX3_concludePair : ByteArray := prog_5_method_13_code
def yX3_concludePair : MethodName := ⟨RX3, "concludePair", "(LProofHouse$Clause;III)V"⟩
abbrev cX3_definedCall : ByteArray := prog_5_method_14_code
def yX3_definedCall : MethodName := ⟨RX3, "definedCall", "(I)I"⟩
abbrev cX3_concludeOfParts : ByteArray := prog_5_method_15_code
def yX3_concludeOfParts : MethodName := ⟨RX3, "concludeOfParts", "(LProofHouse$Clause;II)Z"⟩
abbrev cX3_joinAllBut : ByteArray := prog_5_method_16_code
def yX3_joinAllBut : MethodName := ⟨RX3, "joinAllBut", "(LProofHouse$Clause;LProofHouse$Clause;I)V"⟩
abbrev cX3_joinRebuilt : ByteArray := prog_5_method_17_code
def yX3_joinRebuilt : MethodName := ⟨RX3, "joinRebuilt", "(LProofHouse$Clause;LProofHouse$Clause;I)V"⟩
abbrev cX3_concludeWeak : ByteArray := prog_5_method_18_code
def yX3_concludeWeak : MethodName := ⟨RX3, "concludeWeak", "(LProofHouse$Clause;LProofHouse$Clause;I)V"⟩
abbrev cX3_isCut : ByteArray := prog_5_method_19_code
def yX3_isCut : MethodName := ⟨RX3, "isCut", "(LProofHouse$Clause;LProofHouse$Clause;LProofHouse$Clause;I)Z"⟩
abbrev cX3_isInduced : ByteArray := prog_5_method_20_code
def yX3_isInduced : MethodName := ⟨RX3, "isInduced", "(LProofHouse$Clause;II)Z"⟩
abbrev cX3_isWithin : ByteArray := prog_5_method_21_code
def yX3_isWithin : MethodName := ⟨RX3, "isWithin", "(LProofHouse$Clause;LProofHouse$Clause;)Z"⟩
def RX4 : String := "ProofHouse$Prover"
def TX4 : u_T := fun k => match k with
  | 0 => ("ProofHouse$Prover", "room", "LProofHouse$Room;", true)
  | 1 => ("ProofHouse$Prover", "terms", "LProofHouse$Terms;", true)
  | 2 => ("ProofHouse$Prover", "rewriter", "LProofHouse$Rewriter;", true)
  | 3 => ("ProofHouse$Prover", "given", "[LProofHouse$Clause;", true)
  | 4 => ("ProofHouse$Prover", "givenCount", "I", false)
  | 5 => ("ProofHouse$Prover", "waiting", "[LProofHouse$Clause;", true)
  | 6 => ("ProofHouse$Prover", "waitingCount", "I", false)
  | 7 => ("ProofHouse$Prover", "left", "[LProofHouse$Clause;", true)
  | 8 => ("ProofHouse$Prover", "leftCount", "I", false)
  | 9 => ("ProofHouse$Prover", "spare", "LProofHouse$Clause;", true)
  | _ => ("ProofHouse$Prover", "checking", "Z", false)
def tyX4 : Nat → FieldType := fun k => match k with
  | 0 => .object "ProofHouse$Room"
  | 1 => .object "ProofHouse$Terms"
  | 2 => .object "ProofHouse$Rewriter"
  | 3 => .array (.object "ProofHouse$Clause")
  | 4 => .int
  | 5 => .array (.object "ProofHouse$Clause")
  | 6 => .int
  | 7 => .array (.object "ProofHouse$Clause")
  | 8 => .int
  | 9 => .object "ProofHouse$Clause"
  | _ => .boolean
abbrev wsX40 : List Cond := u_ws RX4 TX4 11
theorem nmX4 : ∀ a, a < 11 → ∀ b, b < 11 → a ≠ b → (TX4 a).2.1 ≠ (TX4 b).2.1 := by decide +kernel
theorem tyX4_ok : ∀ k, k < 11 → parseFieldDescriptor (TX4 k).2.2.1 = some (tyX4 k) := by decide +kernel
abbrev cX4_init : ByteArray := prog_6_method_1_code
def yX4_init : MethodName := ⟨RX4, "<init>", "(LProofHouse$Room;LProofHouse$Terms;LProofHouse$Rewriter;)V"⟩
abbrev cX4_begin : ByteArray := prog_6_method_2_code
def yX4_begin : MethodName := ⟨RX4, "begin", "()V"⟩
abbrev cX4_newClause : ByteArray := prog_6_method_3_code
def yX4_newClause : MethodName := ⟨RX4, "newClause", "()LProofHouse$Clause;"⟩
abbrev cX4_prove : ByteArray := prog_6_method_4_code
def yX4_prove : MethodName := ⟨RX4, "prove", "(Z)V"⟩
abbrev cX4_leave : ByteArray := prog_6_method_5_code
def yX4_leave : MethodName := ⟨RX4, "leave", "(LProofHouse$Clause;)V"⟩
abbrev cX4_isPlain : ByteArray := prog_6_method_6_code
def yX4_isPlain : MethodName := ⟨RX4, "isPlain", "(LProofHouse$Clause;)Z"⟩
abbrev cX4_makeRound : ByteArray := prog_6_method_7_code
def yX4_makeRound : MethodName := ⟨RX4, "makeRound", "(LProofHouse$Clause;)V"⟩
abbrev cX4_rowOfOthers : ByteArray := prog_6_method_8_code
def yX4_rowOfOthers : MethodName := ⟨RX4, "rowOfOthers", "(LProofHouse$Clause;I)I"⟩
abbrev cX4_stands : ByteArray := prog_6_method_9_code
def yX4_stands : MethodName := ⟨RX4, "stands", "(LProofHouse$Clause;II)Z"⟩
abbrev cX4_split : ByteArray := prog_6_method_10_code
def yX4_split : MethodName := ⟨RX4, "split", "(LProofHouse$Clause;II)V"⟩
abbrev cX4_fillSplit : ByteArray := prog_6_method_11_code
def yX4_fillSplit : MethodName := ⟨RX4, "fillSplit", "(LProofHouse$Clause;LProofHouse$Clause;III)V"⟩
abbrev cX4_listOf : ByteArray := prog_6_method_12_code
def yX4_listOf : MethodName := ⟨RX4, "listOf", "(LProofHouse$Clause;)I"⟩
abbrev cX4_listOfLeft : ByteArray := prog_6_method_13_code
def yX4_listOfLeft : MethodName := ⟨RX4, "listOfLeft", "()I"⟩
abbrev cX4_isAllProved : ByteArray := prog_6_method_14_code
def yX4_isAllProved : MethodName := ⟨RX4, "isAllProved", "()Z"⟩
def RX5 : String := "ProofHouse$Reader"
def TX5 : u_T := fun k => match k with
  | 0 => ("ProofHouse$Reader", "room", "LProofHouse$Room;", true)
  | 1 => ("ProofHouse$Reader", "phases", "[I", true)
  | 2 => ("ProofHouse$Reader", "bases", "[I", true)
  | 3 => ("ProofHouse$Reader", "tails", "[I", true)
  | 4 => ("ProofHouse$Reader", "items", "[I", true)
  | 5 => ("ProofHouse$Reader", "depth", "I", false)
  | 6 => ("ProofHouse$Reader", "held", "I", false)
  | 7 => ("ProofHouse$Reader", "words", "I", false)
  | 8 => ("ProofHouse$Reader", "whole", "I", false)
  | 9 => ("ProofHouse$Reader", "flaw", "I", false)
  | _ => ("ProofHouse$Reader", "place", "I", false)
def tyX5 : Nat → FieldType := fun k => match k with
  | 0 => .object "ProofHouse$Room"
  | 1 => .array .int
  | 2 => .array .int
  | 3 => .array .int
  | 4 => .array .int
  | 5 => .int
  | 6 => .int
  | 7 => .int
  | 8 => .int
  | 9 => .int
  | _ => .int
abbrev wsX50 : List Cond := u_ws RX5 TX5 11
theorem nmX5 : ∀ a, a < 11 → ∀ b, b < 11 → a ≠ b → (TX5 a).2.1 ≠ (TX5 b).2.1 := by decide +kernel
theorem tyX5_ok : ∀ k, k < 11 → parseFieldDescriptor (TX5 k).2.2.1 = some (tyX5 k) := by decide +kernel
abbrev cX5_init : ByteArray := prog_7_method_1_code
def yX5_init : MethodName := ⟨RX5, "<init>", "(LProofHouse$Room;)V"⟩
abbrev cX5_read : ByteArray := prog_7_method_2_code
def yX5_read : MethodName := ⟨RX5, "read", "([CI)I"⟩
abbrev cX5_refuse : ByteArray := prog_7_method_3_code
def yX5_refuse : MethodName := ⟨RX5, "refuse", "(II)V"⟩
abbrev cX5_lineEnd : ByteArray := prog_7_method_4_code
def yX5_lineEnd : MethodName := ⟨RX5, "lineEnd", "([CII)I"⟩
abbrev cX5_atomEnd : ByteArray := prog_7_method_5_code
def yX5_atomEnd : MethodName := ⟨RX5, "atomEnd", "([CII)I"⟩
abbrev cX5_takeWord : ByteArray := prog_7_method_6_code
def yX5_takeWord : MethodName := ⟨RX5, "takeWord", "([CII)I"⟩
abbrev cX5_atomCell : ByteArray := prog_7_method_7_code
def yX5_atomCell : MethodName := ⟨RX5, "atomCell", "([CII)J"⟩
abbrev cX5_canStand : ByteArray := prog_7_method_8_code
def yX5_canStand : MethodName := ⟨RX5, "canStand", "(C)Z"⟩
abbrev cX5_takeMark : ByteArray := prog_7_method_9_code
def yX5_takeMark : MethodName := ⟨RX5, "takeMark", "(C)V"⟩
abbrev cX5_deliver : ByteArray := prog_7_method_10_code
def yX5_deliver : MethodName := ⟨RX5, "deliver", "(I)V"⟩
def RX6 : String := "ProofHouse$Rewriter"
def TX6 : u_T := fun k => match k with
  | 0 => ("ProofHouse$Rewriter", "room", "LProofHouse$Room;", true)
  | 1 => ("ProofHouse$Rewriter", "book", "LProofHouse$Book;", true)
  | 2 => ("ProofHouse$Rewriter", "terms", "LProofHouse$Terms;", true)
  | 3 => ("ProofHouse$Rewriter", "evaluator", "LProofHouse$Evaluator;", true)
  | 4 => ("ProofHouse$Rewriter", "mine", "LProofHouse$Scribe;", true)
  | 5 => ("ProofHouse$Rewriter", "other", "LProofHouse$Scribe;", true)
  | 6 => ("ProofHouse$Rewriter", "frames", "[[I", true)
  | 7 => ("ProofHouse$Rewriter", "depth", "I", false)
  | 8 => ("ProofHouse$Rewriter", "answer", "I", false)
  | 9 => ("ProofHouse$Rewriter", "horizon", "I", false)
  | 10 => ("ProofHouse$Rewriter", "notes", "[[I", true)
  | 11 => ("ProofHouse$Rewriter", "noted", "I", false)
  | 12 => ("ProofHouse$Rewriter", "checking", "Z", false)
  | _ => ("ProofHouse$Rewriter", "nextNote", "I", false)
def tyX6 : Nat → FieldType := fun k => match k with
  | 0 => .object "ProofHouse$Room"
  | 1 => .object "ProofHouse$Book"
  | 2 => .object "ProofHouse$Terms"
  | 3 => .object "ProofHouse$Evaluator"
  | 4 => .object "ProofHouse$Scribe"
  | 5 => .object "ProofHouse$Scribe"
  | 6 => .array (.array .int)
  | 7 => .int
  | 8 => .int
  | 9 => .int
  | 10 => .array (.array .int)
  | 11 => .int
  | 12 => .boolean
  | _ => .int
abbrev wsX60 : List Cond := u_ws RX6 TX6 14
theorem nmX6 : ∀ a, a < 14 → ∀ b, b < 14 → a ≠ b → (TX6 a).2.1 ≠ (TX6 b).2.1 := by decide +kernel
theorem tyX6_ok : ∀ k, k < 14 → parseFieldDescriptor (TX6 k).2.2.1 = some (tyX6 k) := by decide +kernel
abbrev cX6_init : ByteArray := prog_8_method_1_code
def yX6_init : MethodName := ⟨RX6, "<init>", "(LProofHouse$Room;LProofHouse$Book;LProofHouse$Terms;LProofHouse$Evaluator;)V"⟩
abbrev cX6_begin : ByteArray := prog_8_method_2_code
def yX6_begin : MethodName := ⟨RX6, "begin", "()V"⟩
abbrev cX6_rewritten : ByteArray := prog_8_method_3_code
def yX6_rewritten : MethodName := ⟨RX6, "rewritten", "(III)I"⟩
abbrev cX6_ask : ByteArray := prog_8_method_4_code
def yX6_ask : MethodName := ⟨RX6, "ask", "(III)V"⟩
abbrev cX6_recalled : ByteArray := prog_8_method_5_code
def yX6_recalled : MethodName := ⟨RX6, "recalled", "(III)I"⟩
abbrev cX6_finish : ByteArray := prog_8_method_6_code
def yX6_finish : MethodName := ⟨RX6, "finish", "(I)V"⟩
abbrev cX6_askInstead : ByteArray := prog_8_method_7_code
def yX6_askInstead : MethodName := ⟨RX6, "askInstead", "([II)V"⟩
abbrev cX6_start : ByteArray := prog_8_method_8_code
def yX6_start : MethodName := ⟨RX6, "start", "([I)V"⟩
abbrev cX6_goOnWithTest : ByteArray := prog_8_method_9_code
def yX6_goOnWithTest : MethodName := ⟨RX6, "goOnWithTest", "([I)V"⟩
abbrev cX6_goOnWithThen : ByteArray := prog_8_method_10_code
def yX6_goOnWithThen : MethodName := ⟨RX6, "goOnWithThen", "([I)V"⟩
abbrev cX6_choice : ByteArray := prog_8_method_11_code
def yX6_choice : MethodName := ⟨RX6, "choice", "(IIII)I"⟩
abbrev cX6_goOnWithNegation : ByteArray := prog_8_method_12_code
def yX6_goOnWithNegation : MethodName := ⟨RX6, "goOnWithNegation", "([I)V"⟩
abbrev cX6_lookedUp : ByteArray := prog_8_method_13_code
def yX6_lookedUp : MethodName := ⟨RX6, "lookedUp", "(III)I"⟩
abbrev cX6_gather : ByteArray := prog_8_method_14_code
def yX6_gather : MethodName := ⟨RX6, "gather", "([I)V"⟩
abbrev cX6_compute : ByteArray := prog_8_method_15_code
def yX6_compute : MethodName := ⟨RX6, "compute", "([I)V"⟩
abbrev cX6_reduceEqual : ByteArray := prog_8_method_16_code
def yX6_reduceEqual : MethodName := ⟨RX6, "reduceEqual", "([III)V"⟩
abbrev cX6_reduceLess : ByteArray := prog_8_method_17_code
def yX6_reduceLess : MethodName := ⟨RX6, "reduceLess", "([III)V"⟩
abbrev cX6_reduceOther : ByteArray := prog_8_method_18_code
def yX6_reduceOther : MethodName := ⟨RX6, "reduceOther", "([III)V"⟩
abbrev cX6_lookUp : ByteArray := prog_8_method_19_code
def yX6_lookUp : MethodName := ⟨RX6, "lookUp", "([I)V"⟩
abbrev cX6_seek : ByteArray := prog_8_method_20_code
def yX6_seek : MethodName := ⟨RX6, "seek", "([I)V"⟩
abbrev cX6_compare : ByteArray := prog_8_method_21_code
def yX6_compare : MethodName := ⟨RX6, "compare", "([I)V"⟩
abbrev cX6_apply : ByteArray := prog_8_method_22_code
def yX6_apply : MethodName := ⟨RX6, "apply", "([I)V"⟩
abbrev cX6_judge : ByteArray := prog_8_method_23_code
def yX6_judge : MethodName := ⟨RX6, "judge", "([I)V"⟩
abbrev cX6_unfold : ByteArray := prog_8_method_24_code
def yX6_unfold : MethodName := ⟨RX6, "unfold", "([I)V"⟩
abbrev cX6_chooseBranch : ByteArray := prog_8_method_25_code
def yX6_chooseBranch : MethodName := ⟨RX6, "chooseBranch", "([I)V"⟩
abbrev cX6_doNotesHold : ByteArray := prog_8_method_26_code
def yX6_doNotesHold : MethodName := ⟨RX6, "doNotesHold", "()Z"⟩
abbrev cX6_isAllRecalled : ByteArray := prog_8_method_27_code
def yX6_isAllRecalled : MethodName := ⟨RX6, "isAllRecalled", "()Z"⟩
abbrev cX6_learn : ByteArray := prog_8_method_28_code
def yX6_learn : MethodName := ⟨RX6, "learn", "()V"⟩
abbrev cX6_addHypotheses : ByteArray := prog_8_method_29_code
def yX6_addHypotheses : MethodName := ⟨RX6, "addHypotheses", "(II)V"⟩
abbrev cX6_isRule : ByteArray := prog_8_method_30_code
def yX6_isRule : MethodName := ⟨RX6, "isRule", "(III)Z"⟩
def RX7 : String := "ProofHouse$Room"
def TX7 : u_T := fun k => match k with
  | 0 => ("ProofHouse$Room", "cells", "[J", true)
  | 1 => ("ProofHouse$Room", "chain", "[I", true)
  | 2 => ("ProofHouse$Room", "sums", "[I", true)
  | 3 => ("ProofHouse$Room", "heights", "[I", true)
  | 4 => ("ProofHouse$Room", "heads", "[I", true)
  | 5 => ("ProofHouse$Room", "used", "I", false)
  | 6 => ("ProofHouse$Room", "given", "I", false)
  | 7 => ("ProofHouse$Room", "spent", "I", false)
  | _ => ("ProofHouse$Room", "trouble", "I", false)
def tyX7 : Nat → FieldType := fun k => match k with
  | 0 => .array .long
  | 1 => .array .int
  | 2 => .array .int
  | 3 => .array .int
  | 4 => .array .int
  | 5 => .int
  | 6 => .int
  | 7 => .int
  | _ => .int
abbrev wsX70 : List Cond := u_ws RX7 TX7 9
theorem nmX7 : ∀ a, a < 9 → ∀ b, b < 9 → a ≠ b → (TX7 a).2.1 ≠ (TX7 b).2.1 := by decide +kernel
theorem tyX7_ok : ∀ k, k < 9 → parseFieldDescriptor (TX7 k).2.2.1 = some (tyX7 k) := by decide +kernel
abbrev cX7_init : ByteArray := prog_9_method_1_code
def yX7_init : MethodName := ⟨RX7, "<init>", "()V"⟩
abbrev cX7_begin : ByteArray := prog_9_method_2_code
def yX7_begin : MethodName := ⟨RX7, "begin", "(I)V"⟩
abbrev cX7_step : ByteArray := prog_9_method_3_code
def yX7_step : MethodName := ⟨RX7, "step", "()Z"⟩
abbrev cX7_blame : ByteArray := prog_9_method_4_code
def yX7_blame : MethodName := ⟨RX7, "blame", "(I)V"⟩
abbrev cX7_made : ByteArray := prog_9_method_5_code
def yX7_made : MethodName := ⟨RX7, "made", "(J)I"⟩
abbrev cX7_forget : ByteArray := prog_9_method_6_code
def yX7_forget : MethodName := ⟨RX7, "forget", "(I)V"⟩
abbrev cX7_cellOf : ByteArray := prog_9_method_7_code
def yX7_cellOf : MethodName := ⟨RX7, "cellOf", "(I)J"⟩
abbrev cX7_isPair : ByteArray := prog_9_method_8_code
def yX7_isPair : MethodName := ⟨RX7, "isPair", "(I)Z"⟩
abbrev cX7_isNatural : ByteArray := prog_9_method_9_code
def yX7_isNatural : MethodName := ⟨RX7, "isNatural", "(I)Z"⟩
abbrev cX7_isSymbol : ByteArray := prog_9_method_10_code
def yX7_isSymbol : MethodName := ⟨RX7, "isSymbol", "(I)Z"⟩
abbrev cX7_isVariable : ByteArray := prog_9_method_11_code
def yX7_isVariable : MethodName := ⟨RX7, "isVariable", "(I)Z"⟩
abbrev cX7_isName : ByteArray := prog_9_method_12_code
def yX7_isName : MethodName := ⟨RX7, "isName", "(I)Z"⟩
abbrev cX7_isConstant : ByteArray := prog_9_method_13_code
def yX7_isConstant : MethodName := ⟨RX7, "isConstant", "(I)Z"⟩
abbrev cX7_isCall : ByteArray := prog_9_method_14_code
def yX7_isCall : MethodName := ⟨RX7, "isCall", "(I)Z"⟩
abbrev cX7_isCallOf : ByteArray := prog_9_method_15_code
def yX7_isCallOf : MethodName := ⟨RX7, "isCallOf", "(II)Z"⟩
abbrev cX7_isQuoted : ByteArray := prog_9_method_16_code
def yX7_isQuoted : MethodName := ⟨RX7, "isQuoted", "(I)Z"⟩
abbrev cX7_left : ByteArray := prog_9_method_17_code
def yX7_left : MethodName := ⟨RX7, "left", "(I)I"⟩
abbrev cX7_right : ByteArray := prog_9_method_18_code
def yX7_right : MethodName := ⟨RX7, "right", "(I)I"⟩
abbrev cX7_item : ByteArray := prog_9_method_19_code
def yX7_item : MethodName := ⟨RX7, "item", "(II)I"⟩
abbrev cX7_lengthOf : ByteArray := prog_9_method_20_code
def yX7_lengthOf : MethodName := ⟨RX7, "lengthOf", "(I)I"⟩
abbrev cX7_sizeOf : ByteArray := prog_9_method_21_code
def yX7_sizeOf : MethodName := ⟨RX7, "sizeOf", "(I)I"⟩
abbrev cX7_heightOf : ByteArray := prog_9_method_22_code
def yX7_heightOf : MethodName := ⟨RX7, "heightOf", "(I)I"⟩
abbrev cX7_numberOf : ByteArray := prog_9_method_23_code
def yX7_numberOf : MethodName := ⟨RX7, "numberOf", "(I)J"⟩
abbrev cX7_valueOf : ByteArray := prog_9_method_24_code
def yX7_valueOf : MethodName := ⟨RX7, "valueOf", "(I)I"⟩
abbrev cX7_constantOf : ByteArray := prog_9_method_25_code
def yX7_constantOf : MethodName := ⟨RX7, "constantOf", "(I)I"⟩
def RX8 : String := "ProofHouse$Schemes"
def TX8 : u_T := fun k => match k with
  | 0 => ("ProofHouse$Schemes", "room", "LProofHouse$Room;", true)
  | 1 => ("ProofHouse$Schemes", "book", "LProofHouse$Book;", true)
  | 2 => ("ProofHouse$Schemes", "terms", "LProofHouse$Terms;", true)
  | 3 => ("ProofHouse$Schemes", "ifs", "[I", true)
  | 4 => ("ProofHouse$Schemes", "third", "[Z", true)
  | 5 => ("ProofHouse$Schemes", "deep", "I", false)
  | 6 => ("ProofHouse$Schemes", "pathEnd", "I", false)
  | 7 => ("ProofHouse$Schemes", "calls", "[I", true)
  | 8 => ("ProofHouse$Schemes", "callCount", "I", false)
  | 9 => ("ProofHouse$Schemes", "filled", "[I", true)
  | _ => ("ProofHouse$Schemes", "induction", "I", false)
def tyX8 : Nat → FieldType := fun k => match k with
  | 0 => .object "ProofHouse$Room"
  | 1 => .object "ProofHouse$Book"
  | 2 => .object "ProofHouse$Terms"
  | 3 => .array .int
  | 4 => .array .boolean
  | 5 => .int
  | 6 => .int
  | 7 => .array .int
  | 8 => .int
  | 9 => .array .int
  | _ => .int
abbrev wsX80 : List Cond := u_ws RX8 TX8 11
theorem nmX8 : ∀ a, a < 11 → ∀ b, b < 11 → a ≠ b → (TX8 a).2.1 ≠ (TX8 b).2.1 := by decide +kernel
theorem tyX8_ok : ∀ k, k < 11 → parseFieldDescriptor (TX8 k).2.2.1 = some (tyX8 k) := by decide +kernel
abbrev cX8_init : ByteArray := prog_10_method_1_code
def yX8_init : MethodName := ⟨RX8, "<init>", "(LProofHouse$Room;LProofHouse$Book;LProofHouse$Terms;)V"⟩
abbrev cX8_goToPath : ByteArray := prog_10_method_2_code
def yX8_goToPath : MethodName := ⟨RX8, "goToPath", "(I)Z"⟩
abbrev cX8_countPaths : ByteArray := prog_10_method_3_code
def yX8_countPaths : MethodName := ⟨RX8, "countPaths", "(I)I"⟩
abbrev cX8_listCalls : ByteArray := prog_10_method_4_code
def yX8_listCalls : MethodName := ⟨RX8, "listCalls", "(I)V"⟩
abbrev cX8_isFlat : ByteArray := prog_10_method_5_code
def yX8_isFlat : MethodName := ⟨RX8, "isFlat", "(II)Z"⟩
abbrev cX8_addRulers : ByteArray := prog_10_method_6_code
def yX8_addRulers : MethodName := ⟨RX8, "addRulers", "(LProofHouse$Clause;II)V"⟩
abbrev cX8_addMeasureClauses : ByteArray := prog_10_method_7_code
def yX8_addMeasureClauses : MethodName := ⟨RX8, "addMeasureClauses", "(LProofHouse$Prover;IIII)V"⟩
abbrev cX8_addInductionHypotheses : ByteArray := prog_10_method_8_code
def yX8_addInductionHypotheses : MethodName := ⟨RX8, "addInductionHypotheses", "(LProofHouse$Clause;III)V"⟩
abbrev cX8_mute : ByteArray := prog_10_method_9_code
def yX8_mute : MethodName := ⟨RX8, "mute", "(I)V"⟩
abbrev cX8_addUses : ByteArray := prog_10_method_10_code
def yX8_addUses : MethodName := ⟨RX8, "addUses", "(LProofHouse$Clause;I)V"⟩
abbrev cX8_addTheoremClauses : ByteArray := prog_10_method_11_code
def yX8_addTheoremClauses : MethodName := ⟨RX8, "addTheoremClauses", "(LProofHouse$Prover;II)V"⟩
abbrev cX8_hintsAsked : ByteArray := prog_10_method_12_code
def yX8_hintsAsked : MethodName := ⟨RX8, "hintsAsked", "(I)I"⟩
abbrev cX8_useAsked : ByteArray := prog_10_method_13_code
def yX8_useAsked : MethodName := ⟨RX8, "useAsked", "(II)I"⟩
abbrev cX8_offAsked : ByteArray := prog_10_method_14_code
def yX8_offAsked : MethodName := ⟨RX8, "offAsked", "(I)I"⟩
abbrev cX8_inductionAsked : ByteArray := prog_10_method_15_code
def yX8_inductionAsked : MethodName := ⟨RX8, "inductionAsked", "(I)I"⟩
def RX9 : String := "ProofHouse$Scribe"
def TX9 : u_T := fun k => match k with
  | 0 => ("ProofHouse$Scribe", "room", "LProofHouse$Room;", true)
  | 1 => ("ProofHouse$Scribe", "letters", "[C", true)
  | 2 => ("ProofHouse$Scribe", "rests", "[I", true)
  | _ => ("ProofHouse$Scribe", "length", "I", false)
def tyX9 : Nat → FieldType := fun k => match k with
  | 0 => .object "ProofHouse$Room"
  | 1 => .array .char
  | 2 => .array .int
  | _ => .int
abbrev wsX90 : List Cond := u_ws RX9 TX9 4
theorem nmX9 : ∀ a, a < 4 → ∀ b, b < 4 → a ≠ b → (TX9 a).2.1 ≠ (TX9 b).2.1 := by decide +kernel
theorem tyX9_ok : ∀ k, k < 4 → parseFieldDescriptor (TX9 k).2.2.1 = some (tyX9 k) := by decide +kernel
abbrev cX9_init : ByteArray := prog_11_method_1_code
def yX9_init : MethodName := ⟨RX9, "<init>", "(LProofHouse$Room;I)V"⟩
abbrev cX9_clear : ByteArray := prog_11_method_2_code
def yX9_clear : MethodName := ⟨RX9, "clear", "()V"⟩
abbrev cX9_write : ByteArray := prog_11_method_3_code
def yX9_write : MethodName := ⟨RX9, "write", "(I)V"⟩
abbrev cX9_put : ByteArray := prog_11_method_4_code
def yX9_put : MethodName := ⟨RX9, "put", "(C)V"⟩
abbrev cX9_putAtom : ByteArray := prog_11_method_5_code
def yX9_putAtom : MethodName := ⟨RX9, "putAtom", "(J)V"⟩
def RX10 : String := "ProofHouse$Terms"
def TX10 : u_T := fun k => match k with
  | 0 => ("ProofHouse$Terms", "room", "LProofHouse$Room;", true)
  | 1 => ("ProofHouse$Terms", "book", "LProofHouse$Book;", true)
  | 2 => ("ProofHouse$Terms", "ownName", "I", false)
  | 3 => ("ProofHouse$Terms", "ownArity", "I", false)
  | 4 => ("ProofHouse$Terms", "variables", "[I", true)
  | 5 => ("ProofHouse$Terms", "meanings", "[I", true)
  | 6 => ("ProofHouse$Terms", "bound", "I", false)
  | 7 => ("ProofHouse$Terms", "replaced", "I", false)
  | 8 => ("ProofHouse$Terms", "replacement", "I", false)
  | 9 => ("ProofHouse$Terms", "names", "[I", true)
  | 10 => ("ProofHouse$Terms", "rests", "[I", true)
  | 11 => ("ProofHouse$Terms", "bases", "[I", true)
  | 12 => ("ProofHouse$Terms", "values", "[I", true)
  | 13 => ("ProofHouse$Terms", "waiting", "[I", true)
  | 14 => ("ProofHouse$Terms", "targets", "[I", true)
  | _ => ("ProofHouse$Terms", "parts", "[I", true)
def tyX10 : Nat → FieldType := fun k => match k with
  | 0 => .object "ProofHouse$Room"
  | 1 => .object "ProofHouse$Book"
  | 2 => .int
  | 3 => .int
  | 4 => .array .int
  | 5 => .array .int
  | 6 => .int
  | 7 => .int
  | 8 => .int
  | 9 => .array .int
  | 10 => .array .int
  | 11 => .array .int
  | 12 => .array .int
  | 13 => .array .int
  | 14 => .array .int
  | _ => .array .int
abbrev wsX100 : List Cond := u_ws RX10 TX10 16
theorem nmX10 : ∀ a, a < 16 → ∀ b, b < 16 → a ≠ b → (TX10 a).2.1 ≠ (TX10 b).2.1 := by decide +kernel
theorem tyX10_ok : ∀ k, k < 16 → parseFieldDescriptor (TX10 k).2.2.1 = some (tyX10 k) := by decide +kernel
abbrev cX10_init : ByteArray := prog_12_method_1_code
def yX10_init : MethodName := ⟨RX10, "<init>", "(LProofHouse$Room;LProofHouse$Book;)V"⟩
abbrev cX10_rebuilt : ByteArray := prog_12_method_2_code
def yX10_rebuilt : MethodName := ⟨RX10, "rebuilt", "(II)I"⟩
abbrev cX10_isTooBig : ByteArray := prog_12_method_3_code
def yX10_isTooBig : MethodName := ⟨RX10, "isTooBig", "(II)Z"⟩
abbrev cX10_meaningOf : ByteArray := prog_12_method_4_code
def yX10_meaningOf : MethodName := ⟨RX10, "meaningOf", "(II)I"⟩
abbrev cX10_readMeaning : ByteArray := prog_12_method_5_code
def yX10_readMeaning : MethodName := ⟨RX10, "readMeaning", "(I)I"⟩
abbrev cX10_standsFor : ByteArray := prog_12_method_6_code
def yX10_standsFor : MethodName := ⟨RX10, "standsFor", "(I)I"⟩
abbrev cX10_unbind : ByteArray := prog_12_method_7_code
def yX10_unbind : MethodName := ⟨RX10, "unbind", "()V"⟩
abbrev cX10_bind : ByteArray := prog_12_method_8_code
def yX10_bind : MethodName := ⟨RX10, "bind", "(II)V"⟩
abbrev cX10_bindRow : ByteArray := prog_12_method_9_code
def yX10_bindRow : MethodName := ⟨RX10, "bindRow", "(II)V"⟩
abbrev cX10_areDifferentVariables : ByteArray := prog_12_method_10_code
def yX10_areDifferentVariables : MethodName := ⟨RX10, "areDifferentVariables", "(I)Z"⟩
abbrev cX10_bindPairs : ByteArray := prog_12_method_11_code
def yX10_bindPairs : MethodName := ⟨RX10, "bindPairs", "(I)Z"⟩
abbrev cX10_call : ByteArray := prog_12_method_12_code
def yX10_call : MethodName := ⟨RX10, "call", "(IIII)I"⟩
abbrev cX10_negated : ByteArray := prog_12_method_13_code
def yX10_negated : MethodName := ⟨RX10, "negated", "(I)I"⟩
abbrev cX10_isNegation : ByteArray := prog_12_method_14_code
def yX10_isNegation : MethodName := ⟨RX10, "isNegation", "(II)Z"⟩
abbrev cX10_isBoolean : ByteArray := prog_12_method_15_code
def yX10_isBoolean : MethodName := ⟨RX10, "isBoolean", "(I)Z"⟩
abbrev cX10_isOfConstants : ByteArray := prog_12_method_16_code
def yX10_isOfConstants : MethodName := ⟨RX10, "isOfConstants", "(I)Z"⟩
abbrev cX10_matches : ByteArray := prog_12_method_17_code
def yX10_matches : MethodName := ⟨RX10, "matches", "(II)Z"⟩
abbrev cX10_isBoundToVariables : ByteArray := prog_12_method_18_code
def yX10_isBoundToVariables : MethodName := ⟨RX10, "isBoundToVariables", "()Z"⟩
abbrev cX10_listParts : ByteArray := prog_12_method_19_code
def yX10_listParts : MethodName := ⟨RX10, "listParts", "(I)I"⟩
abbrev cX10_hasCallOf : ByteArray := prog_12_method_20_code
def yX10_hasCallOf : MethodName := ⟨RX10, "hasCallOf", "(II)Z"⟩
abbrev cX10_hasVariablesOf : ByteArray := prog_12_method_21_code
def yX10_hasVariablesOf : MethodName := ⟨RX10, "hasVariablesOf", "(II)Z"⟩
abbrev cX10_hasBound : ByteArray := prog_12_method_22_code
def yX10_hasBound : MethodName := ⟨RX10, "hasBound", "(I)Z"⟩
abbrev cX10_bindVariablesOf : ByteArray := prog_12_method_23_code
def yX10_bindVariablesOf : MethodName := ⟨RX10, "bindVariablesOf", "(I)V"⟩
abbrev cX10_join : ByteArray := prog_12_method_24_code
def yX10_join : MethodName := ⟨RX10, "join", "(LProofHouse$Clause;I)V"⟩
def RX11 : String := "ProofHouse"
def TX11 : u_T := fun k => match k with
  | 0 => ("ProofHouse", "room", "LProofHouse$Room;", true)
  | 1 => ("ProofHouse", "book", "LProofHouse$Book;", true)
  | 2 => ("ProofHouse", "reader", "LProofHouse$Reader;", true)
  | 3 => ("ProofHouse", "out", "LProofHouse$Scribe;", true)
  | 4 => ("ProofHouse", "terms", "LProofHouse$Terms;", true)
  | 5 => ("ProofHouse", "evaluator", "LProofHouse$Evaluator;", true)
  | 6 => ("ProofHouse", "rewriter", "LProofHouse$Rewriter;", true)
  | 7 => ("ProofHouse", "schemes", "LProofHouse$Schemes;", true)
  | 8 => ("ProofHouse", "prover", "LProofHouse$Prover;", true)
  | 9 => ("ProofHouse", "proofs", "LProofHouse$Proofs;", true)
  | 10 => ("ProofHouse", "text", "[C", true)
  | 11 => ("ProofHouse", "textLength", "I", false)
  | 12 => ("ProofHouse", "waiting", "[I", true)
  | 13 => ("ProofHouse", "fuelSet", "I", false)
  | 14 => ("ProofHouse", "name", "I", false)
  | 15 => ("ProofHouse", "subject", "I", false)
  | 16 => ("ProofHouse", "measure", "I", false)
  | 17 => ("ProofHouse", "hints", "I", false)
  | 18 => ("ProofHouse", "stepsMade", "I", false)
  | 19 => ("ProofHouse", "workFault", "I", false)
  | _ => ("ProofHouse", "proved", "Z", false)
def tyX11 : Nat → FieldType := fun k => match k with
  | 0 => .object "ProofHouse$Room"
  | 1 => .object "ProofHouse$Book"
  | 2 => .object "ProofHouse$Reader"
  | 3 => .object "ProofHouse$Scribe"
  | 4 => .object "ProofHouse$Terms"
  | 5 => .object "ProofHouse$Evaluator"
  | 6 => .object "ProofHouse$Rewriter"
  | 7 => .object "ProofHouse$Schemes"
  | 8 => .object "ProofHouse$Prover"
  | 9 => .object "ProofHouse$Proofs"
  | 10 => .array .char
  | 11 => .int
  | 12 => .array .int
  | 13 => .int
  | 14 => .int
  | 15 => .int
  | 16 => .int
  | 17 => .int
  | 18 => .int
  | 19 => .int
  | _ => .boolean
abbrev wsX110 : List Cond := u_ws RX11 TX11 21
theorem nmX11 : ∀ a, a < 21 → ∀ b, b < 21 → a ≠ b → (TX11 a).2.1 ≠ (TX11 b).2.1 := by decide +kernel
theorem tyX11_ok : ∀ k, k < 21 → parseFieldDescriptor (TX11 k).2.2.1 = some (tyX11 k) := by decide +kernel
abbrev cX11_pairCell : ByteArray := prog_1_method_1_code
def yX11_pairCell : MethodName := ⟨RX11, "pairCell", "(II)J"⟩
abbrev cX11_init : ByteArray := prog_1_method_2_code
def yX11_init : MethodName := ⟨RX11, "<init>", "()V"⟩
abbrev cX11_feed : ByteArray := prog_1_method_3_code
def yX11_feed : MethodName := ⟨RX11, "feed", "(IIIII)V"⟩
abbrev cX11_end : ByteArray := prog_1_method_4_code
def yX11_end : MethodName := ⟨RX11, "end", "(I)I"⟩
abbrev cX11_fuel : ByteArray := prog_1_method_5_code
def yX11_fuel : MethodName := ⟨RX11, "fuel", "(I)I"⟩
abbrev cX11_run : ByteArray := prog_1_method_6_code
def yX11_run : MethodName := ⟨RX11, "run", "()I"⟩
abbrev cX11_fault : ByteArray := prog_1_method_7_code
def yX11_fault : MethodName := ⟨RX11, "fault", "(I)I"⟩
abbrev cX11_steps : ByteArray := prog_1_method_8_code
def yX11_steps : MethodName := ⟨RX11, "steps", "()I"⟩
abbrev cX11_count : ByteArray := prog_1_method_9_code
def yX11_count : MethodName := ⟨RX11, "count", "(I)I"⟩
abbrev cX11_size : ByteArray := prog_1_method_10_code
def yX11_size : MethodName := ⟨RX11, "size", "()I"⟩
abbrev cX11_letter : ByteArray := prog_1_method_11_code
def yX11_letter : MethodName := ⟨RX11, "letter", "(I)I"⟩
abbrev cX11_taken : ByteArray := prog_1_method_12_code
def yX11_taken : MethodName := ⟨RX11, "taken", "(I)I"⟩
abbrev cX11_tell : ByteArray := prog_1_method_13_code
def yX11_tell : MethodName := ⟨RX11, "tell", "(I)I"⟩
abbrev cX11_recheck : ByteArray := prog_1_method_14_code
def yX11_recheck : MethodName := ⟨RX11, "recheck", "()Z"⟩
abbrev cX11_forgetLatest : ByteArray := prog_1_method_15_code
def yX11_forgetLatest : MethodName := ⟨RX11, "forgetLatest", "()V"⟩
abbrev cX11_asked : ByteArray := prog_1_method_16_code
def yX11_asked : MethodName := ⟨RX11, "asked", "(I)I"⟩
abbrev cX11_isAsTold : ByteArray := prog_1_method_17_code
def yX11_isAsTold : MethodName := ⟨RX11, "isAsTold", "(I)Z"⟩
abbrev cX11_isNameAt : ByteArray := prog_1_method_18_code
def yX11_isNameAt : MethodName := ⟨RX11, "isNameAt", "(I)Z"⟩
abbrev cX11_isTermAt : ByteArray := prog_1_method_19_code
def yX11_isTermAt : MethodName := ⟨RX11, "isTermAt", "(II)Z"⟩
abbrev cX11_isDefinition : ByteArray := prog_1_method_20_code
def yX11_isDefinition : MethodName := ⟨RX11, "isDefinition", "(IZ)Z"⟩
abbrev cX11_nameAsked : ByteArray := prog_1_method_21_code
def yX11_nameAsked : MethodName := ⟨RX11, "nameAsked", "(I)I"⟩
abbrev cX11_prepare : ByteArray := prog_1_method_22_code
def yX11_prepare : MethodName := ⟨RX11, "prepare", "(I)V"⟩
abbrev cX11_showValue : ByteArray := prog_1_method_23_code
def yX11_showValue : MethodName := ⟨RX11, "showValue", "(I)V"⟩
abbrev cX11_showTerm : ByteArray := prog_1_method_24_code
def yX11_showTerm : MethodName := ⟨RX11, "showTerm", "(I)V"⟩
abbrev cX11_conclude : ByteArray := prog_1_method_25_code
def yX11_conclude : MethodName := ⟨RX11, "conclude", "(II)I"⟩
abbrev cX11_shownWrong : ByteArray := prog_1_method_26_code
def yX11_shownWrong : MethodName := ⟨RX11, "shownWrong", "()I"⟩
def RX12 : String := "ProofHouseModel"
def TX12 : u_T := fun k => match k with
  | 0 => ("ProofHouseModel", "left", "[I", true)
  | 1 => ("ProofHouseModel", "right", "[I", true)
  | 2 => ("ProofHouseModel", "next", "[I", true)
  | 3 => ("ProofHouseModel", "sizes", "[I", true)
  | 4 => ("ProofHouseModel", "heights", "[I", true)
  | 5 => ("ProofHouseModel", "number", "[J", true)
  | 6 => ("ProofHouseModel", "naturals", "I", false)
  | 7 => ("ProofHouseModel", "heads", "[I", true)
  | 8 => ("ProofHouseModel", "objects", "I", false)
  | 9 => ("ProofHouseModel", "names", "[I", true)
  | 10 => ("ProofHouseModel", "lengths", "[I", true)
  | 11 => ("ProofHouseModel", "symbols", "I", false)
  | 12 => ("ProofHouseModel", "waiting", "[I", true)
  | 13 => ("ProofHouseModel", "text", "[I", true)
  | 14 => ("ProofHouseModel", "textSize", "I", false)
  | 15 => ("ProofHouseModel", "out", "[I", true)
  | 16 => ("ProofHouseModel", "outSize", "I", false)
  | 17 => ("ProofHouseModel", "word", "[I", true)
  | 18 => ("ProofHouseModel", "wordSize", "I", false)
  | 19 => ("ProofHouseModel", "tellWhat", "[I", true)
  | 20 => ("ProofHouseModel", "telling", "I", false)
  | 21 => ("ProofHouseModel", "one", "[I", true)
  | 22 => ("ProofHouseModel", "oneSize", "I", false)
  | 23 => ("ProofHouseModel", "at", "I", false)
  | 24 => ("ProofHouseModel", "readFault", "I", false)
  | 25 => ("ProofHouseModel", "readPlace", "I", false)
  | 26 => ("ProofHouseModel", "openSort", "[I", true)
  | 27 => ("ProofHouseModel", "openFrom", "[I", true)
  | 28 => ("ProofHouseModel", "openState", "[I", true)
  | 29 => ("ProofHouseModel", "openLast", "[I", true)
  | 30 => ("ProofHouseModel", "open", "I", false)
  | 31 => ("ProofHouseModel", "items", "[I", true)
  | 32 => ("ProofHouseModel", "itemSize", "I", false)
  | 33 => ("ProofHouseModel", "whole", "I", false)
  | 34 => ("ProofHouseModel", "done", "Z", false)
  | 35 => ("ProofHouseModel", "defs", "I", false)
  | 36 => ("ProofHouseModel", "defName", "[I", true)
  | 37 => ("ProofHouseModel", "defMany", "[I", true)
  | 38 => ("ProofHouseModel", "defVariable", "[I", true)
  | 39 => ("ProofHouseModel", "defBody", "[I", true)
  | 40 => ("ProofHouseModel", "defMeasure", "[I", true)
  | 41 => ("ProofHouseModel", "defSelf", "[Z", true)
  | 42 => ("ProofHouseModel", "theorems", "I", false)
  | 43 => ("ProofHouseModel", "theoremName", "[I", true)
  | 44 => ("ProofHouseModel", "theorem", "[I", true)
  | 45 => ("ProofHouseModel", "theoremSort", "[I", true)
  | 46 => ("ProofHouseModel", "ruleLeft", "[I", true)
  | 47 => ("ProofHouseModel", "ruleRight", "[I", true)
  | 48 => ("ProofHouseModel", "ruleMany", "[I", true)
  | 49 => ("ProofHouseModel", "ruleHypothesis", "[I", true)
  | 50 => ("ProofHouseModel", "rulePermutes", "[Z", true)
  | 51 => ("ProofHouseModel", "ruleTruth", "[Z", true)
  | 52 => ("ProofHouseModel", "ruleOn", "[Z", true)
  | 53 => ("ProofHouseModel", "ruleOut", "[Z", true)
  | 54 => ("ProofHouseModel", "taken", "I", false)
  | 55 => ("ProofHouseModel", "takenSort", "[I", true)
  | 56 => ("ProofHouseModel", "takenFrom", "[I", true)
  | 57 => ("ProofHouseModel", "comingName", "I", false)
  | 58 => ("ProofHouseModel", "comingMany", "I", false)
  | 59 => ("ProofHouseModel", "fuel", "I", false)
  | 60 => ("ProofHouseModel", "steps", "I", false)
  | 61 => ("ProofHouseModel", "work", "I", false)
  | 62 => ("ProofHouseModel", "proved", "Z", false)
  | 63 => ("ProofHouseModel", "leftMany", "I", false)
  | 64 => ("ProofHouseModel", "short0", "Z", false)
  | 65 => ("ProofHouseModel", "other", "[I", true)
  | 66 => ("ProofHouseModel", "callOf", "[I", true)
  | 67 => ("ProofHouseModel", "restOf", "[I", true)
  | 68 => ("ProofHouseModel", "fromOf", "[I", true)
  | 69 => ("ProofHouseModel", "calls", "I", false)
  | 70 => ("ProofHouseModel", "built", "[I", true)
  | 71 => ("ProofHouseModel", "builtSize", "I", false)
  | 72 => ("ProofHouseModel", "variable", "[I", true)
  | 73 => ("ProofHouseModel", "instead", "[I", true)
  | 74 => ("ProofHouseModel", "pairs", "I", false)
  | 75 => ("ProofHouseModel", "walk", "[I", true)
  | 76 => ("ProofHouseModel", "walking", "I", false)
  | 77 => ("ProofHouseModel", "its", "[I", true)
  | 78 => ("ProofHouseModel", "itsMany", "I", false)
  | 79 => ("ProofHouseModel", "evalTerm", "[I", true)
  | 80 => ("ProofHouseModel", "evalRest", "[I", true)
  | 81 => ("ProofHouseModel", "evalFrom", "[I", true)
  | 82 => ("ProofHouseModel", "evalDef", "[I", true)
  | 83 => ("ProofHouseModel", "evalBase", "[I", true)
  | 84 => ("ProofHouseModel", "evalEnds", "[Z", true)
  | 85 => ("ProofHouseModel", "evals", "I", false)
  | 86 => ("ProofHouseModel", "value", "[I", true)
  | 87 => ("ProofHouseModel", "values", "I", false)
  | 88 => ("ProofHouseModel", "evalLimit", "I", false)
  | 89 => ("ProofHouseModel", "evalWhy", "I", false)
  | 90 => ("ProofHouseModel", "evalDone", "Z", false)
  | 91 => ("ProofHouseModel", "evalValue", "I", false)
  | 92 => ("ProofHouseModel", "job", "[I", true)
  | 93 => ("ProofHouseModel", "jobTruth", "[Z", true)
  | 94 => ("ProofHouseModel", "jobPhase", "[I", true)
  | 95 => ("ProofHouseModel", "jobA", "[I", true)
  | 96 => ("ProofHouseModel", "jobB", "[I", true)
  | 97 => ("ProofHouseModel", "jobC", "[I", true)
  | 98 => ("ProofHouseModel", "jobRest", "[I", true)
  | 99 => ("ProofHouseModel", "jobFrom", "[I", true)
  | 100 => ("ProofHouseModel", "jobRule", "[I", true)
  | 101 => ("ProofHouseModel", "jobHypothesis", "[I", true)
  | 102 => ("ProofHouseModel", "jobs", "I", false)
  | 103 => ("ProofHouseModel", "result", "[I", true)
  | 104 => ("ProofHouseModel", "results", "I", false)
  | 105 => ("ProofHouseModel", "ruleVariable", "[I", true)
  | 106 => ("ProofHouseModel", "ruleInstead", "[I", true)
  | 107 => ("ProofHouseModel", "rulePairs", "[I", true)
  | 108 => ("ProofHouseModel", "context", "[I", true)
  | 109 => ("ProofHouseModel", "contexts", "I", false)
  | 110 => ("ProofHouseModel", "came", "I", false)
  | 111 => ("ProofHouseModel", "ended", "Z", false)
  | 112 => ("ProofHouseModel", "seekLeft", "[I", true)
  | 113 => ("ProofHouseModel", "seekRight", "[I", true)
  | 114 => ("ProofHouseModel", "literal", "[I", true)
  | 115 => ("ProofHouseModel", "many", "[I", true)
  | 116 => ("ProofHouseModel", "rounds", "[I", true)
  | 117 => ("ProofHouseModel", "rows", "I", false)
  | 118 => ("ProofHouseModel", "order", "[I", true)
  | 119 => ("ProofHouseModel", "waits", "I", false)
  | 120 => ("ProofHouseModel", "leftRow", "[I", true)
  | 121 => ("ProofHouseModel", "draft", "[I", true)
  | 122 => ("ProofHouseModel", "drafted", "I", false)
  | 123 => ("ProofHouseModel", "end", "[I", true)
  | 124 => ("ProofHouseModel", "ruler", "[I", true)
  | 125 => ("ProofHouseModel", "rulers", "[I", true)
  | 126 => ("ProofHouseModel", "paths", "I", false)
  | 127 => ("ProofHouseModel", "pathTerm", "[I", true)
  | 128 => ("ProofHouseModel", "pathRuler", "[I", true)
  | 129 => ("ProofHouseModel", "pathRulers", "[I", true)
  | 130 => ("ProofHouseModel", "found", "[I", true)
  | 131 => ("ProofHouseModel", "foundMany", "I", false)
  | 132 => ("ProofHouseModel", "began", "I", false)
  | 133 => ("ProofHouseModel", "hintFunction", "I", false)
  | 134 => ("ProofHouseModel", "hintList", "I", false)
  | 135 => ("ProofHouseModel", "hasOff", "Z", false)
  | 136 => ("ProofHouseModel", "hintWrong", "I", false)
  | 137 => ("ProofHouseModel", "used", "[I", true)
  | 138 => ("ProofHouseModel", "usedPairs", "[I", true)
  | 139 => ("ProofHouseModel", "uses", "I", false)
  | 140 => ("ProofHouseModel", "stepTerm", "[I", true)
  | 141 => ("ProofHouseModel", "proof", "[I", true)
  | 142 => ("ProofHouseModel", "proofPart", "[I", true)
  | 143 => ("ProofHouseModel", "proofFrom", "[I", true)
  | 144 => ("ProofHouseModel", "proofs", "I", false)
  | 145 => ("ProofHouseModel", "clause", "[I", true)
  | 146 => ("ProofHouseModel", "clauseMany", "[I", true)
  | 147 => ("ProofHouseModel", "clauses", "I", false)
  | _ => ("ProofHouseModel", "wrongProof", "I", false)
def tyX12 : Nat → FieldType := fun k => match k with
  | 0 => .array .int
  | 1 => .array .int
  | 2 => .array .int
  | 3 => .array .int
  | 4 => .array .int
  | 5 => .array .long
  | 6 => .int
  | 7 => .array .int
  | 8 => .int
  | 9 => .array .int
  | 10 => .array .int
  | 11 => .int
  | 12 => .array .int
  | 13 => .array .int
  | 14 => .int
  | 15 => .array .int
  | 16 => .int
  | 17 => .array .int
  | 18 => .int
  | 19 => .array .int
  | 20 => .int
  | 21 => .array .int
  | 22 => .int
  | 23 => .int
  | 24 => .int
  | 25 => .int
  | 26 => .array .int
  | 27 => .array .int
  | 28 => .array .int
  | 29 => .array .int
  | 30 => .int
  | 31 => .array .int
  | 32 => .int
  | 33 => .int
  | 34 => .boolean
  | 35 => .int
  | 36 => .array .int
  | 37 => .array .int
  | 38 => .array .int
  | 39 => .array .int
  | 40 => .array .int
  | 41 => .array .boolean
  | 42 => .int
  | 43 => .array .int
  | 44 => .array .int
  | 45 => .array .int
  | 46 => .array .int
  | 47 => .array .int
  | 48 => .array .int
  | 49 => .array .int
  | 50 => .array .boolean
  | 51 => .array .boolean
  | 52 => .array .boolean
  | 53 => .array .boolean
  | 54 => .int
  | 55 => .array .int
  | 56 => .array .int
  | 57 => .int
  | 58 => .int
  | 59 => .int
  | 60 => .int
  | 61 => .int
  | 62 => .boolean
  | 63 => .int
  | 64 => .boolean
  | 65 => .array .int
  | 66 => .array .int
  | 67 => .array .int
  | 68 => .array .int
  | 69 => .int
  | 70 => .array .int
  | 71 => .int
  | 72 => .array .int
  | 73 => .array .int
  | 74 => .int
  | 75 => .array .int
  | 76 => .int
  | 77 => .array .int
  | 78 => .int
  | 79 => .array .int
  | 80 => .array .int
  | 81 => .array .int
  | 82 => .array .int
  | 83 => .array .int
  | 84 => .array .boolean
  | 85 => .int
  | 86 => .array .int
  | 87 => .int
  | 88 => .int
  | 89 => .int
  | 90 => .boolean
  | 91 => .int
  | 92 => .array .int
  | 93 => .array .boolean
  | 94 => .array .int
  | 95 => .array .int
  | 96 => .array .int
  | 97 => .array .int
  | 98 => .array .int
  | 99 => .array .int
  | 100 => .array .int
  | 101 => .array .int
  | 102 => .int
  | 103 => .array .int
  | 104 => .int
  | 105 => .array .int
  | 106 => .array .int
  | 107 => .array .int
  | 108 => .array .int
  | 109 => .int
  | 110 => .int
  | 111 => .boolean
  | 112 => .array .int
  | 113 => .array .int
  | 114 => .array .int
  | 115 => .array .int
  | 116 => .array .int
  | 117 => .int
  | 118 => .array .int
  | 119 => .int
  | 120 => .array .int
  | 121 => .array .int
  | 122 => .int
  | 123 => .array .int
  | 124 => .array .int
  | 125 => .array .int
  | 126 => .int
  | 127 => .array .int
  | 128 => .array .int
  | 129 => .array .int
  | 130 => .array .int
  | 131 => .int
  | 132 => .int
  | 133 => .int
  | 134 => .int
  | 135 => .boolean
  | 136 => .int
  | 137 => .array .int
  | 138 => .array .int
  | 139 => .int
  | 140 => .array .int
  | 141 => .array .int
  | 142 => .array .int
  | 143 => .array .int
  | 144 => .int
  | 145 => .array .int
  | 146 => .array .int
  | 147 => .int
  | _ => .int
abbrev wsX120 : List Cond := u_ws RX12 TX12 149
theorem nmX12 : ∀ a, a < 149 → ∀ b, b < 149 → a ≠ b → (TX12 a).2.1 ≠ (TX12 b).2.1 := by decide +kernel
theorem tyX12_ok : ∀ k, k < 149 → parseFieldDescriptor (TX12 k).2.2.1 = some (tyX12 k) := by decide +kernel
abbrev cX12_init : ByteArray := prog_14_method_1_code
def yX12_init : MethodName := ⟨RX12, "<init>", "()V"⟩
abbrev cX12_said : ByteArray := prog_14_method_3_code
def yX12_said : MethodName := ⟨RX12, "said", "(IIIIIIII)V"⟩
abbrev cX12_spell : ByteArray := prog_14_method_4_code
def yX12_spell : MethodName := ⟨RX12, "spell", "(I)V"⟩
abbrev cX12_slot : ByteArray := prog_14_method_5_code
def yX12_slot : MethodName := ⟨RX12, "slot", "(II)I"⟩
abbrev cX12_slotOf : ByteArray := prog_14_method_6_code
def yX12_slotOf : MethodName := ⟨RX12, "slotOf", "(I)I"⟩
abbrev cX12_spelled : ByteArray := prog_14_method_7_code
def yX12_spelled : MethodName := ⟨RX12, "spelled", "(IIZ)I"⟩
abbrev cX12_added : ByteArray := prog_14_method_8_code
def yX12_added : MethodName := ⟨RX12, "added", "(III)I"⟩
abbrev cX12_pair : ByteArray := prog_14_method_9_code
def yX12_pair : MethodName := ⟨RX12, "pair", "(II)I"⟩
abbrev cX12_value : ByteArray := prog_14_method_10_code
def yX12_value : MethodName := ⟨RX12, "value", "(I)J"⟩
abbrev cX12_natural : ByteArray := prog_14_method_11_code
def yX12_natural : MethodName := ⟨RX12, "natural", "(J)I"⟩
abbrev cX12_isWord : ByteArray := prog_14_method_12_code
def yX12_isWord : MethodName := ⟨RX12, "isWord", "(I)Z"⟩
abbrev cX12_symbol : ByteArray := prog_14_method_13_code
def yX12_symbol : MethodName := ⟨RX12, "symbol", "()I"⟩
abbrev cX12_forget : ByteArray := prog_14_method_14_code
def yX12_forget : MethodName := ⟨RX12, "forget", "(I)V"⟩
abbrev cX12_isPair : ByteArray := prog_14_method_15_code
def yX12_isPair : MethodName := ⟨RX12, "isPair", "(I)Z"⟩
abbrev cX12_isNatural : ByteArray := prog_14_method_16_code
def yX12_isNatural : MethodName := ⟨RX12, "isNatural", "(I)Z"⟩
abbrev cX12_isSymbol : ByteArray := prog_14_method_17_code
def yX12_isSymbol : MethodName := ⟨RX12, "isSymbol", "(I)Z"⟩
abbrev cX12_list1 : ByteArray := prog_14_method_18_code
def yX12_list1 : MethodName := ⟨RX12, "list1", "(I)I"⟩
abbrev cX12_list2 : ByteArray := prog_14_method_19_code
def yX12_list2 : MethodName := ⟨RX12, "list2", "(II)I"⟩
abbrev cX12_list3 : ByteArray := prog_14_method_20_code
def yX12_list3 : MethodName := ⟨RX12, "list3", "(III)I"⟩
abbrev cX12_lengthOf : ByteArray := prog_14_method_22_code
def yX12_lengthOf : MethodName := ⟨RX12, "lengthOf", "(I)I"⟩
abbrev cX12_nth : ByteArray := prog_14_method_23_code
def yX12_nth : MethodName := ⟨RX12, "nth", "(II)I"⟩
abbrev cX12_isDigit : ByteArray := prog_14_method_24_code
def yX12_isDigit : MethodName := ⟨RX12, "isDigit", "(I)Z"⟩
abbrev cX12_isAtom : ByteArray := prog_14_method_25_code
def yX12_isAtom : MethodName := ⟨RX12, "isAtom", "(I)Z"⟩
abbrev cX12_skip : ByteArray := prog_14_method_26_code
def yX12_skip : MethodName := ⟨RX12, "skip", "()V"⟩
abbrev cX12_bad : ByteArray := prog_14_method_27_code
def yX12_bad : MethodName := ⟨RX12, "bad", "(II)V"⟩
abbrev cX12_mayBegin : ByteArray := prog_14_method_28_code
def yX12_mayBegin : MethodName := ⟨RX12, "mayBegin", "()Z"⟩
abbrev cX12_begin : ByteArray := prog_14_method_29_code
def yX12_begin : MethodName := ⟨RX12, "begin", "(I)V"⟩
abbrev cX12_deliver : ByteArray := prog_14_method_30_code
def yX12_deliver : MethodName := ⟨RX12, "deliver", "(I)V"⟩
abbrev cX12_close : ByteArray := prog_14_method_31_code
def yX12_close : MethodName := ⟨RX12, "close", "()V"⟩
abbrev cX12_atom : ByteArray := prog_14_method_32_code
def yX12_atom : MethodName := ⟨RX12, "atom", "(II)I"⟩
abbrev cX12_isInList : ByteArray := prog_14_method_33_code
def yX12_isInList : MethodName := ⟨RX12, "isInList", "()Z"⟩
abbrev cX12_readWord : ByteArray := prog_14_method_34_code
def yX12_readWord : MethodName := ⟨RX12, "readWord", "(I)V"⟩
abbrev cX12_reads : ByteArray := prog_14_method_35_code
def yX12_reads : MethodName := ⟨RX12, "reads", "()Z"⟩
abbrev cX12_tellLetter : ByteArray := prog_14_method_36_code
def yX12_tellLetter : MethodName := ⟨RX12, "tellLetter", "(I)V"⟩
abbrev cX12_isFull : ByteArray := prog_14_method_37_code
def yX12_isFull : MethodName := ⟨RX12, "isFull", "()Z"⟩
abbrev cX12_tellAtom : ByteArray := prog_14_method_38_code
def yX12_tellAtom : MethodName := ⟨RX12, "tellAtom", "(I)V"⟩
abbrev cX12_isQuoted : ByteArray := prog_14_method_39_code
def yX12_isQuoted : MethodName := ⟨RX12, "isQuoted", "(I)Z"⟩
abbrev cX12_later : ByteArray := prog_14_method_40_code
def yX12_later : MethodName := ⟨RX12, "later", "(I)V"⟩
abbrev cX12_tellObject : ByteArray := prog_14_method_41_code
def yX12_tellObject : MethodName := ⟨RX12, "tellObject", "(I)V"⟩
abbrev cX12_isSmaller : ByteArray := prog_14_method_42_code
def yX12_isSmaller : MethodName := ⟨RX12, "isSmaller", "(II)Z"⟩
abbrev cX12_isVariable : ByteArray := prog_14_method_43_code
def yX12_isVariable : MethodName := ⟨RX12, "isVariable", "(I)Z"⟩
abbrev cX12_isConstant : ByteArray := prog_14_method_44_code
def yX12_isConstant : MethodName := ⟨RX12, "isConstant", "(I)Z"⟩
abbrev cX12_isCall : ByteArray := prog_14_method_45_code
def yX12_isCall : MethodName := ⟨RX12, "isCall", "(I)Z"⟩
abbrev cX12_isCallOf : ByteArray := prog_14_method_46_code
def yX12_isCallOf : MethodName := ⟨RX12, "isCallOf", "(II)Z"⟩
abbrev cX12_constantOf : ByteArray := prog_14_method_47_code
def yX12_constantOf : MethodName := ⟨RX12, "constantOf", "(I)I"⟩
abbrev cX12_valueOf : ByteArray := prog_14_method_48_code
def yX12_valueOf : MethodName := ⟨RX12, "valueOf", "(I)I"⟩
abbrev cX12_term : ByteArray := prog_14_method_49_code
def yX12_term : MethodName := ⟨RX12, "term", "(II)I"⟩
abbrev cX12_functionOf : ByteArray := prog_14_method_50_code
def yX12_functionOf : MethodName := ⟨RX12, "functionOf", "(I)I"⟩
abbrev cX12_manyOf : ByteArray := prog_14_method_51_code
def yX12_manyOf : MethodName := ⟨RX12, "manyOf", "(I)I"⟩
abbrev cX12_isReserved : ByteArray := prog_14_method_52_code
def yX12_isReserved : MethodName := ⟨RX12, "isReserved", "(I)Z"⟩
abbrev cX12_fail : ByteArray := prog_14_method_53_code
def yX12_fail : MethodName := ⟨RX12, "fail", "(I)V"⟩
abbrev cX12_sizeOf : ByteArray := prog_14_method_54_code
def yX12_sizeOf : MethodName := ⟨RX12, "sizeOf", "(I)I"⟩
abbrev cX12_callFrom : ByteArray := prog_14_method_55_code
def yX12_callFrom : MethodName := ⟨RX12, "callFrom", "(II)I"⟩
abbrev cX12_build : ByteArray := prog_14_method_56_code
def yX12_build : MethodName := ⟨RX12, "build", "(I)V"⟩
abbrev cX12_openCall : ByteArray := prog_14_method_57_code
def yX12_openCall : MethodName := ⟨RX12, "openCall", "(I)V"⟩
abbrev cX12_substituted : ByteArray := prog_14_method_58_code
def yX12_substituted : MethodName := ⟨RX12, "substituted", "(I)I"⟩
abbrev cX12_beginInstance : ByteArray := prog_14_method_59_code
def yX12_beginInstance : MethodName := ⟨RX12, "beginInstance", "(III)V"⟩
abbrev cX12_anew : ByteArray := prog_14_method_60_code
def yX12_anew : MethodName := ⟨RX12, "anew", "(III)I"⟩
abbrev cX12_instance : ByteArray := prog_14_method_61_code
def yX12_instance : MethodName := ⟨RX12, "instance", "(I)I"⟩
abbrev cX12_beginTerm : ByteArray := prog_14_method_62_code
def yX12_beginTerm : MethodName := ⟨RX12, "beginTerm", "(I)Z"⟩
abbrev cX12_termOf : ByteArray := prog_14_method_63_code
def yX12_termOf : MethodName := ⟨RX12, "termOf", "(I)I"⟩
abbrev cX12_made : ByteArray := prog_14_method_64_code
def yX12_made : MethodName := ⟨RX12, "made", "(IIII)I"⟩
abbrev cX12_made2 : ByteArray := prog_14_method_65_code
def yX12_made2 : MethodName := ⟨RX12, "made2", "(III)I"⟩
abbrev cX12_notOf : ByteArray := prog_14_method_66_code
def yX12_notOf : MethodName := ⟨RX12, "notOf", "(I)I"⟩
abbrev cX12_isBoolean : ByteArray := prog_14_method_67_code
def yX12_isBoolean : MethodName := ⟨RX12, "isBoolean", "(I)Z"⟩
abbrev cX12_walkTo : ByteArray := prog_14_method_68_code
def yX12_walkTo : MethodName := ⟨RX12, "walkTo", "(I)V"⟩
abbrev cX12_walkOn : ByteArray := prog_14_method_69_code
def yX12_walkOn : MethodName := ⟨RX12, "walkOn", "()I"⟩
abbrev cX12_hasCall : ByteArray := prog_14_method_70_code
def yX12_hasCall : MethodName := ⟨RX12, "hasCall", "(II)Z"⟩
abbrev cX12_hasVariable : ByteArray := prog_14_method_71_code
def yX12_hasVariable : MethodName := ⟨RX12, "hasVariable", "(II)Z"⟩
abbrev cX12_variablesOf : ByteArray := prog_14_method_72_code
def yX12_variablesOf : MethodName := ⟨RX12, "variablesOf", "(I)V"⟩
abbrev cX12_isStep : ByteArray := prog_14_method_73_code
def yX12_isStep : MethodName := ⟨RX12, "isStep", "()Z"⟩
abbrev cX12_beginEval : ByteArray := prog_14_method_74_code
def yX12_beginEval : MethodName := ⟨RX12, "beginEval", "(IIIZ)V"⟩
abbrev cX12_numberOf : ByteArray := prog_14_method_75_code
def yX12_numberOf : MethodName := ⟨RX12, "numberOf", "(I)J"⟩
abbrev cX12_truth : ByteArray := prog_14_method_76_code
def yX12_truth : MethodName := ⟨RX12, "truth", "(Z)I"⟩
abbrev cX12_basic : ByteArray := prog_14_method_77_code
def yX12_basic : MethodName := ⟨RX12, "basic", "(II)I"⟩
abbrev cX12_takeValue : ByteArray := prog_14_method_78_code
def yX12_takeValue : MethodName := ⟨RX12, "takeValue", "(Z)V"⟩
abbrev cX12_goOn : ByteArray := prog_14_method_79_code
def yX12_goOn : MethodName := ⟨RX12, "goOn", "(Z)V"⟩
abbrev cX12_evaluated : ByteArray := prog_14_method_80_code
def yX12_evaluated : MethodName := ⟨RX12, "evaluated", "(IZ)I"⟩
abbrev cX12_beginJob : ByteArray := prog_14_method_81_code
def yX12_beginJob : MethodName := ⟨RX12, "beginJob", "(IZ)V"⟩
abbrev cX12_end0 : ByteArray := prog_14_method_82_code
def yX12_end0 : MethodName := ⟨RX12, "end0", "(I)V"⟩
abbrev cX12_passOn : ByteArray := prog_14_method_83_code
def yX12_passOn : MethodName := ⟨RX12, "passOn", "(I)V"⟩
abbrev cX12_isInContext : ByteArray := prog_14_method_84_code
def yX12_isInContext : MethodName := ⟨RX12, "isInContext", "(I)Z"⟩
abbrev cX12_isDenied : ByteArray := prog_14_method_85_code
def yX12_isDenied : MethodName := ⟨RX12, "isDenied", "(I)Z"⟩
abbrev cX12_lookedUp : ByteArray := prog_14_method_86_code
def yX12_lookedUp : MethodName := ⟨RX12, "lookedUp", "(IZ)I"⟩
abbrev cX12_startJob : ByteArray := prog_14_method_87_code
def yX12_startJob : MethodName := ⟨RX12, "startJob", "(I)V"⟩
abbrev cX12_nextTerm : ByteArray := prog_14_method_88_code
def yX12_nextTerm : MethodName := ⟨RX12, "nextTerm", "(I)V"⟩
abbrev cX12_takeResult : ByteArray := prog_14_method_89_code
def yX12_takeResult : MethodName := ⟨RX12, "takeResult", "(I)V"⟩
abbrev cX12_push : ByteArray := prog_14_method_90_code
def yX12_push : MethodName := ⟨RX12, "push", "(I)V"⟩
abbrev cX12_test : ByteArray := prog_14_method_91_code
def yX12_test : MethodName := ⟨RX12, "test", "(I)V"⟩
abbrev cX12_join : ByteArray := prog_14_method_92_code
def yX12_join : MethodName := ⟨RX12, "join", "(IIII)V"⟩
abbrev cX12_areConstants : ByteArray := prog_14_method_93_code
def yX12_areConstants : MethodName := ⟨RX12, "areConstants", "(I)Z"⟩
abbrev cX12_isNumbered : ByteArray := prog_14_method_94_code
def yX12_isNumbered : MethodName := ⟨RX12, "isNumbered", "(I)Z"⟩
abbrev cX12_plain : ByteArray := prog_14_method_95_code
def yX12_plain : MethodName := ⟨RX12, "plain", "(I)I"⟩
abbrev cX12_apply : ByteArray := prog_14_method_96_code
def yX12_apply : MethodName := ⟨RX12, "apply", "(I)V"⟩
abbrev cX12_fallen : ByteArray := prog_14_method_97_code
def yX12_fallen : MethodName := ⟨RX12, "fallen", "(II)I"⟩
abbrev cX12_constantValue : ByteArray := prog_14_method_98_code
def yX12_constantValue : MethodName := ⟨RX12, "constantValue", "(II)I"⟩
abbrev cX12_matches : ByteArray := prog_14_method_99_code
def yX12_matches : MethodName := ⟨RX12, "matches", "(IIIZ)Z"⟩
abbrev cX12_bound : ByteArray := prog_14_method_100_code
def yX12_bound : MethodName := ⟨RX12, "bound", "(IIIZ)Z"⟩
abbrev cX12_takePairs : ByteArray := prog_14_method_101_code
def yX12_takePairs : MethodName := ⟨RX12, "takePairs", "(I)V"⟩
abbrev cX12_tryRules : ByteArray := prog_14_method_102_code
def yX12_tryRules : MethodName := ⟨RX12, "tryRules", "(II)V"⟩
abbrev cX12_nextHypothesis : ByteArray := prog_14_method_103_code
def yX12_nextHypothesis : MethodName := ⟨RX12, "nextHypothesis", "(I)V"⟩
abbrev cX12_bodyOf : ByteArray := prog_14_method_104_code
def yX12_bodyOf : MethodName := ⟨RX12, "bodyOf", "(II)I"⟩
abbrev cX12_define : ByteArray := prog_14_method_105_code
def yX12_define : MethodName := ⟨RX12, "define", "(I)V"⟩
abbrev cX12_rewritten : ByteArray := prog_14_method_106_code
def yX12_rewritten : MethodName := ⟨RX12, "rewritten", "(IZ)I"⟩
abbrev cX12_put : ByteArray := prog_14_method_107_code
def yX12_put : MethodName := ⟨RX12, "put", "(I)V"⟩
abbrev cX12_bounded : ByteArray := prog_14_method_108_code
def yX12_bounded : MethodName := ⟨RX12, "bounded", "()V"⟩
abbrev cX12_row : ByteArray := prog_14_method_109_code
def yX12_row : MethodName := ⟨RX12, "row", "(I)I"⟩
abbrev cX12_isProved : ByteArray := prog_14_method_110_code
def yX12_isProved : MethodName := ⟨RX12, "isProved", "(I)Z"⟩
abbrev cX12_removeAt : ByteArray := prog_14_method_111_code
def yX12_removeAt : MethodName := ⟨RX12, "removeAt", "(II)V"⟩
abbrev cX12_changeTo : ByteArray := prog_14_method_112_code
def yX12_changeTo : MethodName := ⟨RX12, "changeTo", "(III)Z"⟩
abbrev cX12_together : ByteArray := prog_14_method_113_code
def yX12_together : MethodName := ⟨RX12, "together", "(I)I"⟩
abbrev cX12_splitRow : ByteArray := prog_14_method_114_code
def yX12_splitRow : MethodName := ⟨RX12, "splitRow", "(IIII)I"⟩
abbrev cX12_split : ByteArray := prog_14_method_115_code
def yX12_split : MethodName := ⟨RX12, "split", "(III)V"⟩
abbrev cX12_splits : ByteArray := prog_14_method_116_code
def yX12_splits : MethodName := ⟨RX12, "splits", "(I)Z"⟩
abbrev cX12_leave : ByteArray := prog_14_method_117_code
def yX12_leave : MethodName := ⟨RX12, "leave", "(I)V"⟩
abbrev cX12_round : ByteArray := prog_14_method_118_code
def yX12_round : MethodName := ⟨RX12, "round", "(I)V"⟩
abbrev cX12_prove : ByteArray := prog_14_method_119_code
def yX12_prove : MethodName := ⟨RX12, "prove", "()Z"⟩
abbrev cX12_tellOut : ByteArray := prog_14_method_120_code
def yX12_tellOut : MethodName := ⟨RX12, "tellOut", "(I)V"⟩
abbrev cX12_rowList : ByteArray := prog_14_method_121_code
def yX12_rowList : MethodName := ⟨RX12, "rowList", "(I)I"⟩
abbrev cX12_tellLeft : ByteArray := prog_14_method_122_code
def yX12_tellLeft : MethodName := ⟨RX12, "tellLeft", "()V"⟩
abbrev cX12_pathsOf : ByteArray := prog_14_method_123_code
def yX12_pathsOf : MethodName := ⟨RX12, "pathsOf", "(I)V"⟩
abbrev cX12_find : ByteArray := prog_14_method_124_code
def yX12_find : MethodName := ⟨RX12, "find", "(II)V"⟩
abbrev cX12_isNewName : ByteArray := prog_14_method_125_code
def yX12_isNewName : MethodName := ⟨RX12, "isNewName", "(I)Z"⟩
abbrev cX12_definition : ByteArray := prog_14_method_126_code
def yX12_definition : MethodName := ⟨RX12, "definition", "(I)I"⟩
abbrev cX12_theoremOf : ByteArray := prog_14_method_127_code
def yX12_theoremOf : MethodName := ⟨RX12, "theoremOf", "(I)I"⟩
abbrev cX12_areVariables : ByteArray := prog_14_method_128_code
def yX12_areVariables : MethodName := ⟨RX12, "areVariables", "(II)Z"⟩
abbrev cX12_isIn : ByteArray := prog_14_method_129_code
def yX12_isIn : MethodName := ⟨RX12, "isIn", "(II)Z"⟩
abbrev cX12_hasOnly : ByteArray := prog_14_method_130_code
def yX12_hasOnly : MethodName := ⟨RX12, "hasOnly", "(II)Z"⟩
abbrev cX12_areApart : ByteArray := prog_14_method_131_code
def yX12_areApart : MethodName := ⟨RX12, "areApart", "(I)Z"⟩
abbrev cX12_measureRows : ByteArray := prog_14_method_132_code
def yX12_measureRows : MethodName := ⟨RX12, "measureRows", "(III)V"⟩
abbrev cX12_defun : ByteArray := prog_14_method_133_code
def yX12_defun : MethodName := ⟨RX12, "defun", "(I)I"⟩
abbrev cX12_take : ByteArray := prog_14_method_134_code
def yX12_take : MethodName := ⟨RX12, "take", "(I)V"⟩
abbrev cX12_ruleOf : ByteArray := prog_14_method_135_code
def yX12_ruleOf : MethodName := ⟨RX12, "ruleOf", "(II)V"⟩
abbrev cX12_covers : ByteArray := prog_14_method_136_code
def yX12_covers : MethodName := ⟨RX12, "covers", "(II)Z"⟩
abbrev cX12_hypotheses : ByteArray := prog_14_method_137_code
def yX12_hypotheses : MethodName := ⟨RX12, "hypotheses", "(II)V"⟩
abbrev cX12_wrong : ByteArray := prog_14_method_138_code
def yX12_wrong : MethodName := ⟨RX12, "wrong", "(I)V"⟩
abbrev cX12_induction : ByteArray := prog_14_method_139_code
def yX12_induction : MethodName := ⟨RX12, "induction", "(I)V"⟩
abbrev cX12_arePairs : ByteArray := prog_14_method_140_code
def yX12_arePairs : MethodName := ⟨RX12, "arePairs", "(I)Z"⟩
abbrev cX12_using : ByteArray := prog_14_method_141_code
def yX12_using : MethodName := ⟨RX12, "using", "(I)V"⟩
abbrev cX12_turningOff : ByteArray := prog_14_method_142_code
def yX12_turningOff : MethodName := ⟨RX12, "turningOff", "(I)V"⟩
abbrev cX12_hints : ByteArray := prog_14_method_143_code
def yX12_hints : MethodName := ⟨RX12, "hints", "(I)I"⟩
abbrev cX12_takeParameters : ByteArray := prog_14_method_144_code
def yX12_takeParameters : MethodName := ⟨RX12, "takeParameters", "(II)V"⟩
abbrev cX12_inductionRow : ByteArray := prog_14_method_145_code
def yX12_inductionRow : MethodName := ⟨RX12, "inductionRow", "(IIII)V"⟩
abbrev cX12_useRows : ByteArray := prog_14_method_146_code
def yX12_useRows : MethodName := ⟨RX12, "useRows", "()V"⟩
abbrev cX12_proveBy : ByteArray := prog_14_method_147_code
def yX12_proveBy : MethodName := ⟨RX12, "proveBy", "(I)Z"⟩
abbrev cX12_allRulesIn : ByteArray := prog_14_method_148_code
def yX12_allRulesIn : MethodName := ⟨RX12, "allRulesIn", "()V"⟩
abbrev cX12_defthm : ByteArray := prog_14_method_149_code
def yX12_defthm : MethodName := ⟨RX12, "defthm", "(IZ)I"⟩
abbrev cX12_addTheorem : ByteArray := prog_14_method_150_code
def yX12_addTheorem : MethodName := ⟨RX12, "addTheorem", "(III)V"⟩
abbrev cX12_partsFrom : ByteArray := prog_14_method_151_code
def yX12_partsFrom : MethodName := ⟨RX12, "partsFrom", "(I)I"⟩
abbrev cX12_partsTo : ByteArray := prog_14_method_152_code
def yX12_partsTo : MethodName := ⟨RX12, "partsTo", "(I)I"⟩
abbrev cX12_areTerms : ByteArray := prog_14_method_153_code
def yX12_areTerms : MethodName := ⟨RX12, "areTerms", "(III)Z"⟩
abbrev cX12_isTermList : ByteArray := prog_14_method_154_code
def yX12_isTermList : MethodName := ⟨RX12, "isTermList", "(I)Z"⟩
abbrev cX12_told : ByteArray := prog_14_method_155_code
def yX12_told : MethodName := ⟨RX12, "told", "(I)I"⟩
abbrev cX12_isInduction : ByteArray := prog_14_method_156_code
def yX12_isInduction : MethodName := ⟨RX12, "isInduction", "(I)Z"⟩
abbrev cX12_isForm : ByteArray := prog_14_method_157_code
def yX12_isForm : MethodName := ⟨RX12, "isForm", "(I)Z"⟩
abbrev cX12_beginProof : ByteArray := prog_14_method_158_code
def yX12_beginProof : MethodName := ⟨RX12, "beginProof", "(I)V"⟩
abbrev cX12_pour : ByteArray := prog_14_method_159_code
def yX12_pour : MethodName := ⟨RX12, "pour", "(II)V"⟩
abbrev cX12_has : ByteArray := prog_14_method_160_code
def yX12_has : MethodName := ⟨RX12, "has", "(II)Z"⟩
abbrev cX12_beginsEqual : ByteArray := prog_14_method_161_code
def yX12_beginsEqual : MethodName := ⟨RX12, "beginsEqual", "(I)Z"⟩
abbrev cX12_concludes : ByteArray := prog_14_method_162_code
def yX12_concludes : MethodName := ⟨RX12, "concludes", "(I)Z"⟩
abbrev cX12_defined : ByteArray := prog_14_method_163_code
def yX12_defined : MethodName := ⟨RX12, "defined", "(I)V"⟩
abbrev cX12_instanced : ByteArray := prog_14_method_164_code
def yX12_instanced : MethodName := ⟨RX12, "instanced", "(II)Z"⟩
abbrev cX12_replaced : ByteArray := prog_14_method_165_code
def yX12_replaced : MethodName := ⟨RX12, "replaced", "(I)Z"⟩
abbrev cX12_inducts : ByteArray := prog_14_method_166_code
def yX12_inducts : MethodName := ⟨RX12, "inducts", "(III)Z"⟩
abbrev cX12_goProof : ByteArray := prog_14_method_167_code
def yX12_goProof : MethodName := ⟨RX12, "goProof", "()V"⟩
abbrev cX12_check : ByteArray := prog_14_method_168_code
def yX12_check : MethodName := ⟨RX12, "check", "(I)I"⟩
abbrev cX12_eval : ByteArray := prog_14_method_169_code
def yX12_eval : MethodName := ⟨RX12, "eval", "(I)I"⟩
abbrev cX12_simplify : ByteArray := prog_14_method_170_code
def yX12_simplify : MethodName := ⟨RX12, "simplify", "(I)I"⟩
abbrev cX12_turn : ByteArray := prog_14_method_171_code
def yX12_turn : MethodName := ⟨RX12, "turn", "(IZ)I"⟩
abbrev cX12_undo : ByteArray := prog_14_method_172_code
def yX12_undo : MethodName := ⟨RX12, "undo", "(I)I"⟩
abbrev cX12_command : ByteArray := prog_14_method_173_code
def yX12_command : MethodName := ⟨RX12, "command", "(I)I"⟩
abbrev cX12_feed : ByteArray := prog_14_method_174_code
def yX12_feed : MethodName := ⟨RX12, "feed", "(IIIII)V"⟩
abbrev cX12_end : ByteArray := prog_14_method_175_code
def yX12_end : MethodName := ⟨RX12, "end", "(I)I"⟩
abbrev cX12_fuel : ByteArray := prog_14_method_176_code
def yX12_fuel : MethodName := ⟨RX12, "fuel", "(I)I"⟩
abbrev cX12_run : ByteArray := prog_14_method_177_code
def yX12_run : MethodName := ⟨RX12, "run", "()I"⟩
abbrev cX12_fault : ByteArray := prog_14_method_178_code
def yX12_fault : MethodName := ⟨RX12, "fault", "(I)I"⟩
abbrev cX12_steps : ByteArray := prog_14_method_179_code
def yX12_steps : MethodName := ⟨RX12, "steps", "()I"⟩
abbrev cX12_count : ByteArray := prog_14_method_180_code
def yX12_count : MethodName := ⟨RX12, "count", "(I)I"⟩
abbrev cX12_size : ByteArray := prog_14_method_181_code
def yX12_size : MethodName := ⟨RX12, "size", "()I"⟩
abbrev cX12_letter : ByteArray := prog_14_method_182_code
def yX12_letter : MethodName := ⟨RX12, "letter", "(I)I"⟩
abbrev cX12_taken : ByteArray := prog_14_method_183_code
def yX12_taken : MethodName := ⟨RX12, "taken", "(I)I"⟩
abbrev cX12_tell : ByteArray := prog_14_method_184_code
def yX12_tell : MethodName := ⟨RX12, "tell", "(I)I"⟩
abbrev cX12_recheck : ByteArray := prog_14_method_185_code
def yX12_recheck : MethodName := ⟨RX12, "recheck", "()Z"⟩
def wsX12_spell : List Cond := .code yX12_spell cX12_spell 2 none :: ([.fieldLink RX12 50 "ProofHouseModel" "word" "[I", .fieldLink RX12 309 "ProofHouseModel" "wordSize" "I"] ++ wsX120)
def wsX12_spelled : List Cond := .code yX12_spelled cX12_spelled 6 (some .int) :: ([.fieldLink RX12 50 "ProofHouseModel" "word" "[I", .fieldLink RX12 35 "ProofHouseModel" "names" "[I"] ++ wsX120)
def wsX12_isWord : List Cond := .code yX12_isWord cX12_isWord 4 (some .boolean) :: ([.fieldLink RX12 38 "ProofHouseModel" "lengths" "[I", .fieldLink RX12 309 "ProofHouseModel" "wordSize" "I", .fieldLink RX12 35 "ProofHouseModel" "names" "[I", .fieldLink RX12 50 "ProofHouseModel" "word" "[I"] ++ wsX120)
def wsX12_added : List Cond := .code yX12_added cX12_added 4 (some .int) :: ([.fieldLink RX12 8 "ProofHouseModel" "left" "[I", .fieldLink RX12 332 "ProofHouseModel" "objects" "I", .fieldLink RX12 14 "ProofHouseModel" "right" "[I", .fieldLink RX12 17 "ProofHouseModel" "next" "[I", .fieldLink RX12 31 "ProofHouseModel" "heads" "[I", .fieldLink RX12 20 "ProofHouseModel" "sizes" "[I", .fieldLink RX12 23 "ProofHouseModel" "heights" "[I"] ++ wsX120)
def wsX12_symbol_r1 : List Cond := [Cond.fieldLink RX12 309 "ProofHouseModel" "wordSize" "I", Cond.fieldLink RX12 31 "ProofHouseModel" "heads" "[I", Cond.fieldLink RX12 8 "ProofHouseModel" "left" "[I", Cond.fieldLink RX12 14 "ProofHouseModel" "right" "[I", Cond.fieldLink RX12 17 "ProofHouseModel" "next" "[I", Cond.fieldLink RX12 38 "ProofHouseModel" "lengths" "[I", Cond.fieldLink RX12 346 "ProofHouseModel" "symbols" "I", Cond.fieldLink RX12 35 "ProofHouseModel" "names" "[I", Cond.fieldLink RX12 50 "ProofHouseModel" "word" "[I", Cond.methodLink RX12 328 yX12_spelled, Cond.instanceMethod yX12_spelled, Cond.selects RX12 yX12_spelled yX12_spelled, Cond.initialized RX12, Cond.code yX12_spelled cX12_spelled 6 (some .int), Cond.methodLink RX12 342 yX12_isWord, Cond.instanceMethod yX12_isWord, Cond.selects RX12 yX12_isWord yX12_isWord, Cond.code yX12_isWord cX12_isWord 4 (some .boolean), Cond.methodLink RX12 335 yX12_added, Cond.instanceMethod yX12_added, Cond.selects RX12 yX12_added yX12_added, Cond.code yX12_added cX12_added 4 (some .int), Cond.fieldLink RX12 332 "ProofHouseModel" "objects" "I", Cond.fieldLink RX12 20 "ProofHouseModel" "sizes" "[I"]
def wsX12_symbol_r2 : List Cond := [Cond.fieldLink RX12 23 "ProofHouseModel" "heights" "[I"]
def wsX12_symbol : List Cond := .code yX12_symbol cX12_symbol 3 (some .int) :: ((wsX12_symbol_r1 ++ wsX12_symbol_r2) ++ wsX120)
def wsX12_said_r1 : List Cond := [Cond.fieldLink RX12 309 "ProofHouseModel" "wordSize" "I", Cond.methodLink RX12 312 yX12_spell, Cond.instanceMethod yX12_spell, Cond.selects RX12 yX12_spell yX12_spell, Cond.initialized RX12, Cond.code yX12_spell cX12_spell 2 none, Cond.fieldLink RX12 50 "ProofHouseModel" "word" "[I", Cond.methodLink RX12 316 yX12_symbol, Cond.instanceMethod yX12_symbol, Cond.selects RX12 yX12_symbol yX12_symbol, Cond.code yX12_symbol cX12_symbol 3 (some .int), Cond.fieldLink RX12 31 "ProofHouseModel" "heads" "[I", Cond.fieldLink RX12 8 "ProofHouseModel" "left" "[I", Cond.fieldLink RX12 14 "ProofHouseModel" "right" "[I", Cond.fieldLink RX12 17 "ProofHouseModel" "next" "[I", Cond.fieldLink RX12 38 "ProofHouseModel" "lengths" "[I", Cond.fieldLink RX12 346 "ProofHouseModel" "symbols" "I", Cond.fieldLink RX12 35 "ProofHouseModel" "names" "[I", Cond.methodLink RX12 328 yX12_spelled, Cond.instanceMethod yX12_spelled, Cond.selects RX12 yX12_spelled yX12_spelled, Cond.code yX12_spelled cX12_spelled 6 (some .int), Cond.methodLink RX12 342 yX12_isWord, Cond.instanceMethod yX12_isWord]
def wsX12_said_r2 : List Cond := [Cond.selects RX12 yX12_isWord yX12_isWord, Cond.code yX12_isWord cX12_isWord 4 (some .boolean), Cond.methodLink RX12 335 yX12_added, Cond.instanceMethod yX12_added, Cond.selects RX12 yX12_added yX12_added, Cond.code yX12_added cX12_added 4 (some .int), Cond.fieldLink RX12 332 "ProofHouseModel" "objects" "I", Cond.fieldLink RX12 20 "ProofHouseModel" "sizes" "[I", Cond.fieldLink RX12 23 "ProofHouseModel" "heights" "[I"]
def wsX12_said : List Cond := .code yX12_said cX12_said 10 none :: ((wsX12_said_r1 ++ wsX12_said_r2) ++ wsX120)
def wsX12_init_r1 : List Cond := [Cond.methodLink RX12 1 objectInit, Cond.instanceMethod objectInit, Cond.code objectInit ⟨#[0xb1]⟩ 1 none, Cond.constant RX12 7 (452000), Cond.arrayClass .int, Cond.fieldLink RX12 8 "ProofHouseModel" "left" "[I", Cond.fieldLink RX12 14 "ProofHouseModel" "right" "[I", Cond.fieldLink RX12 17 "ProofHouseModel" "next" "[I", Cond.fieldLink RX12 20 "ProofHouseModel" "sizes" "[I", Cond.fieldLink RX12 23 "ProofHouseModel" "heights" "[I", Cond.constant RX12 26 (40000), Cond.arrayClass .long, Cond.fieldLink RX12 27 "ProofHouseModel" "number" "[J", Cond.fieldLink RX12 31 "ProofHouseModel" "heads" "[I", Cond.constant RX12 34 (252000), Cond.fieldLink RX12 35 "ProofHouseModel" "names" "[I", Cond.fieldLink RX12 38 "ProofHouseModel" "lengths" "[I", Cond.fieldLink RX12 41 "ProofHouseModel" "waiting" "[I", Cond.fieldLink RX12 44 "ProofHouseModel" "text" "[I", Cond.fieldLink RX12 47 "ProofHouseModel" "out" "[I", Cond.fieldLink RX12 50 "ProofHouseModel" "word" "[I", Cond.fieldLink RX12 53 "ProofHouseModel" "tellWhat" "[I", Cond.fieldLink RX12 56 "ProofHouseModel" "one" "[I", Cond.fieldLink RX12 59 "ProofHouseModel" "readPlace" "I"]
def wsX12_init_r2 : List Cond := [Cond.fieldLink RX12 63 "ProofHouseModel" "openSort" "[I", Cond.fieldLink RX12 66 "ProofHouseModel" "openFrom" "[I", Cond.fieldLink RX12 69 "ProofHouseModel" "openState" "[I", Cond.fieldLink RX12 72 "ProofHouseModel" "openLast" "[I", Cond.fieldLink RX12 75 "ProofHouseModel" "items" "[I", Cond.fieldLink RX12 78 "ProofHouseModel" "defName" "[I", Cond.fieldLink RX12 81 "ProofHouseModel" "defMany" "[I", Cond.fieldLink RX12 84 "ProofHouseModel" "defVariable" "[I", Cond.fieldLink RX12 87 "ProofHouseModel" "defBody" "[I", Cond.fieldLink RX12 90 "ProofHouseModel" "defMeasure" "[I", Cond.arrayClass .boolean, Cond.fieldLink RX12 93 "ProofHouseModel" "defSelf" "[Z", Cond.fieldLink RX12 97 "ProofHouseModel" "theoremName" "[I", Cond.fieldLink RX12 100 "ProofHouseModel" "theorem" "[I", Cond.fieldLink RX12 103 "ProofHouseModel" "theoremSort" "[I", Cond.fieldLink RX12 106 "ProofHouseModel" "ruleLeft" "[I", Cond.fieldLink RX12 109 "ProofHouseModel" "ruleRight" "[I", Cond.fieldLink RX12 112 "ProofHouseModel" "ruleMany" "[I", Cond.fieldLink RX12 115 "ProofHouseModel" "ruleHypothesis" "[I", Cond.fieldLink RX12 118 "ProofHouseModel" "rulePermutes" "[Z", Cond.fieldLink RX12 121 "ProofHouseModel" "ruleTruth" "[Z", Cond.fieldLink RX12 124 "ProofHouseModel" "ruleOn" "[Z", Cond.fieldLink RX12 127 "ProofHouseModel" "ruleOut" "[Z", Cond.fieldLink RX12 130 "ProofHouseModel" "takenSort" "[I"]
def wsX12_init_r3 : List Cond := [Cond.fieldLink RX12 133 "ProofHouseModel" "takenFrom" "[I", Cond.fieldLink RX12 136 "ProofHouseModel" "comingName" "I", Cond.fieldLink RX12 139 "ProofHouseModel" "fuel" "I", Cond.fieldLink RX12 142 "ProofHouseModel" "other" "[I", Cond.fieldLink RX12 145 "ProofHouseModel" "callOf" "[I", Cond.fieldLink RX12 148 "ProofHouseModel" "restOf" "[I", Cond.fieldLink RX12 151 "ProofHouseModel" "fromOf" "[I", Cond.fieldLink RX12 154 "ProofHouseModel" "built" "[I", Cond.fieldLink RX12 157 "ProofHouseModel" "variable" "[I", Cond.fieldLink RX12 160 "ProofHouseModel" "instead" "[I", Cond.fieldLink RX12 163 "ProofHouseModel" "walk" "[I", Cond.fieldLink RX12 166 "ProofHouseModel" "its" "[I", Cond.fieldLink RX12 169 "ProofHouseModel" "evalTerm" "[I", Cond.fieldLink RX12 172 "ProofHouseModel" "evalRest" "[I", Cond.fieldLink RX12 175 "ProofHouseModel" "evalFrom" "[I", Cond.fieldLink RX12 178 "ProofHouseModel" "evalDef" "[I", Cond.fieldLink RX12 181 "ProofHouseModel" "evalBase" "[I", Cond.fieldLink RX12 184 "ProofHouseModel" "evalEnds" "[Z", Cond.fieldLink RX12 187 "ProofHouseModel" "value" "[I", Cond.fieldLink RX12 190 "ProofHouseModel" "job" "[I", Cond.fieldLink RX12 193 "ProofHouseModel" "jobTruth" "[Z", Cond.fieldLink RX12 196 "ProofHouseModel" "jobPhase" "[I", Cond.fieldLink RX12 199 "ProofHouseModel" "jobA" "[I", Cond.fieldLink RX12 202 "ProofHouseModel" "jobB" "[I"]
def wsX12_init_r4 : List Cond := [Cond.fieldLink RX12 205 "ProofHouseModel" "jobC" "[I", Cond.fieldLink RX12 208 "ProofHouseModel" "jobRest" "[I", Cond.fieldLink RX12 211 "ProofHouseModel" "jobFrom" "[I", Cond.fieldLink RX12 214 "ProofHouseModel" "jobRule" "[I", Cond.fieldLink RX12 217 "ProofHouseModel" "jobHypothesis" "[I", Cond.fieldLink RX12 220 "ProofHouseModel" "result" "[I", Cond.fieldLink RX12 223 "ProofHouseModel" "ruleVariable" "[I", Cond.fieldLink RX12 226 "ProofHouseModel" "ruleInstead" "[I", Cond.fieldLink RX12 229 "ProofHouseModel" "rulePairs" "[I", Cond.fieldLink RX12 232 "ProofHouseModel" "context" "[I", Cond.fieldLink RX12 235 "ProofHouseModel" "seekLeft" "[I", Cond.fieldLink RX12 238 "ProofHouseModel" "seekRight" "[I", Cond.constant RX12 241 (69000), Cond.fieldLink RX12 242 "ProofHouseModel" "literal" "[I", Cond.fieldLink RX12 245 "ProofHouseModel" "many" "[I", Cond.fieldLink RX12 248 "ProofHouseModel" "rounds" "[I", Cond.fieldLink RX12 251 "ProofHouseModel" "order" "[I", Cond.fieldLink RX12 254 "ProofHouseModel" "leftRow" "[I", Cond.fieldLink RX12 257 "ProofHouseModel" "draft" "[I", Cond.fieldLink RX12 260 "ProofHouseModel" "end" "[I", Cond.fieldLink RX12 263 "ProofHouseModel" "ruler" "[I", Cond.fieldLink RX12 266 "ProofHouseModel" "rulers" "[I", Cond.fieldLink RX12 269 "ProofHouseModel" "pathTerm" "[I", Cond.fieldLink RX12 272 "ProofHouseModel" "pathRuler" "[I"]
def wsX12_init_r5 : List Cond := [Cond.fieldLink RX12 275 "ProofHouseModel" "pathRulers" "[I", Cond.fieldLink RX12 278 "ProofHouseModel" "found" "[I", Cond.fieldLink RX12 281 "ProofHouseModel" "used" "[I", Cond.fieldLink RX12 284 "ProofHouseModel" "usedPairs" "[I", Cond.fieldLink RX12 287 "ProofHouseModel" "stepTerm" "[I", Cond.fieldLink RX12 290 "ProofHouseModel" "proof" "[I", Cond.fieldLink RX12 293 "ProofHouseModel" "proofPart" "[I", Cond.fieldLink RX12 296 "ProofHouseModel" "proofFrom" "[I", Cond.fieldLink RX12 299 "ProofHouseModel" "clause" "[I", Cond.fieldLink RX12 302 "ProofHouseModel" "clauseMany" "[I", Cond.methodLink RX12 305 yX12_said, Cond.instanceMethod yX12_said, Cond.selects RX12 yX12_said yX12_said, Cond.initialized RX12, Cond.code yX12_said cX12_said 10 none, Cond.fieldLink RX12 309 "ProofHouseModel" "wordSize" "I", Cond.methodLink RX12 312 yX12_spell, Cond.instanceMethod yX12_spell, Cond.selects RX12 yX12_spell yX12_spell, Cond.code yX12_spell cX12_spell 2 none, Cond.methodLink RX12 316 yX12_symbol, Cond.instanceMethod yX12_symbol, Cond.selects RX12 yX12_symbol yX12_symbol, Cond.code yX12_symbol cX12_symbol 3 (some .int)]
def wsX12_init_r6 : List Cond := [Cond.fieldLink RX12 346 "ProofHouseModel" "symbols" "I", Cond.methodLink RX12 328 yX12_spelled, Cond.instanceMethod yX12_spelled, Cond.selects RX12 yX12_spelled yX12_spelled, Cond.code yX12_spelled cX12_spelled 6 (some .int), Cond.methodLink RX12 342 yX12_isWord, Cond.instanceMethod yX12_isWord, Cond.selects RX12 yX12_isWord yX12_isWord, Cond.code yX12_isWord cX12_isWord 4 (some .boolean), Cond.methodLink RX12 335 yX12_added, Cond.instanceMethod yX12_added, Cond.selects RX12 yX12_added yX12_added, Cond.code yX12_added cX12_added 4 (some .int), Cond.fieldLink RX12 332 "ProofHouseModel" "objects" "I"]
def wsX12_init : List Cond := .code yX12_init cX12_init 2 none :: ((wsX12_init_r1 ++ (wsX12_init_r2 ++ (wsX12_init_r3 ++ (wsX12_init_r4 ++ (wsX12_init_r5 ++ wsX12_init_r6))))) ++ wsX120)
def wsX12_slot : List Cond := .code yX12_slot cX12_slot 2 (some .int) :: ([.constant RX12 320 (40503)])
def wsX12_isPair : List Cond := .code yX12_isPair cX12_isPair 2 (some .boolean) :: ([.fieldLink RX12 8 "ProofHouseModel" "left" "[I"] ++ wsX120)
def wsX12_isNatural : List Cond := .code yX12_isNatural cX12_isNatural 2 (some .boolean) :: ([.fieldLink RX12 8 "ProofHouseModel" "left" "[I"] ++ wsX120)
def wsX12_isSymbol : List Cond := .code yX12_isSymbol cX12_isSymbol 2 (some .boolean) :: ([.fieldLink RX12 8 "ProofHouseModel" "left" "[I"] ++ wsX120)
set_option maxRecDepth 20000 in
theorem ggX12_init_X12_said : GoodIn wsX12_init wsX12_said := goodIn_r _ [111, 112, 113, 114, 115, 110, 116, 21, 117, 118, 119, 120, 14, 6, 7, 8, 17, 121, 16, 122, 123, 124, 125, 126, 127, 128, 129, 130, 131, 132, 133, 134, 9, 10, 135, 136, 137, 138, 139, 140, 141, 142, 143, 144, 145, 146, 147, 148, 149, 150, 151, 152, 153, 154, 155, 156, 157, 158, 159, 160, 161, 162, 163, 164, 165, 166, 167, 168, 169, 170, 171, 172, 173, 174, 175, 176, 177, 178, 179, 180, 181, 182, 183, 184, 185, 186, 187, 188, 189, 190, 191, 192, 193, 194, 195, 196, 197, 198, 199, 200, 201, 202, 203, 204, 205, 206, 207, 208, 209, 210, 211, 212, 213, 214, 215, 216, 217, 218, 219, 220, 221, 222, 223, 224, 225, 226, 227, 228, 229, 230, 231, 232, 233, 234, 235, 236, 237, 238, 239, 240, 241, 242, 243, 244, 245, 246, 247, 248, 249, 250, 251, 252, 253, 254, 255, 256, 257, 258, 259, 260, 261, 262, 263, 264, 265, 266, 267, 268, 269, 270, 271, 272, 273, 274, 275, 276, 277, 278, 279, 280, 281, 282, 283] (by decide +kernel) (by decide +kernel)
set_option maxRecDepth 20000 in
theorem gX12_init_X12_said : GoodIn wsX12_init (wsV RX12 305 RX12 yX12_said wsX12_said) := goodIn_app (goodIn_of _ (by decide +kernel)) ggX12_init_X12_said
theorem dX12_init_0 : decode cX12_init 0 = .ok (.aload_n 0, 1) := by decide +kernel
theorem dX12_init_1 : decode cX12_init 1 = .ok (.invokespecial 1, 3) := by decide +kernel
theorem dX12_init_4 : decode cX12_init 4 = .ok (.aload_n 0, 1) := by decide +kernel
theorem dX12_init_5 : decode cX12_init 5 = .ok (.ldc 7, 2) := by decide +kernel
theorem dX12_init_7 : decode cX12_init 7 = .ok (.newarray .int, 2) := by decide +kernel
theorem dX12_init_9 : decode cX12_init 9 = .ok (.putfield 8, 3) := by decide +kernel
theorem dX12_init_12 : decode cX12_init 12 = .ok (.aload_n 0, 1) := by decide +kernel
theorem dX12_init_13 : decode cX12_init 13 = .ok (.ldc 7, 2) := by decide +kernel
theorem dX12_init_15 : decode cX12_init 15 = .ok (.newarray .int, 2) := by decide +kernel
theorem dX12_init_17 : decode cX12_init 17 = .ok (.putfield 14, 3) := by decide +kernel
theorem dX12_init_20 : decode cX12_init 20 = .ok (.aload_n 0, 1) := by decide +kernel
theorem dX12_init_21 : decode cX12_init 21 = .ok (.ldc 7, 2) := by decide +kernel
theorem dX12_init_23 : decode cX12_init 23 = .ok (.newarray .int, 2) := by decide +kernel
theorem dX12_init_25 : decode cX12_init 25 = .ok (.putfield 17, 3) := by decide +kernel
theorem dX12_init_28 : decode cX12_init 28 = .ok (.aload_n 0, 1) := by decide +kernel
theorem dX12_init_29 : decode cX12_init 29 = .ok (.ldc 7, 2) := by decide +kernel
theorem dX12_init_31 : decode cX12_init 31 = .ok (.newarray .int, 2) := by decide +kernel
theorem dX12_init_33 : decode cX12_init 33 = .ok (.putfield 20, 3) := by decide +kernel
theorem dX12_init_36 : decode cX12_init 36 = .ok (.aload_n 0, 1) := by decide +kernel
theorem dX12_init_37 : decode cX12_init 37 = .ok (.ldc 7, 2) := by decide +kernel
theorem dX12_init_39 : decode cX12_init 39 = .ok (.newarray .int, 2) := by decide +kernel
theorem dX12_init_41 : decode cX12_init 41 = .ok (.putfield 23, 3) := by decide +kernel
theorem dX12_init_44 : decode cX12_init 44 = .ok (.aload_n 0, 1) := by decide +kernel
theorem dX12_init_45 : decode cX12_init 45 = .ok (.ldc 26, 2) := by decide +kernel
theorem dX12_init_47 : decode cX12_init 47 = .ok (.newarray .long, 2) := by decide +kernel
theorem dX12_init_49 : decode cX12_init 49 = .ok (.putfield 27, 3) := by decide +kernel
theorem dX12_init_52 : decode cX12_init 52 = .ok (.aload_n 0, 1) := by decide +kernel
theorem dX12_init_53 : decode cX12_init 53 = .ok (.sipush 8192, 3) := by decide +kernel
theorem dX12_init_56 : decode cX12_init 56 = .ok (.newarray .int, 2) := by decide +kernel
theorem dX12_init_58 : decode cX12_init 58 = .ok (.putfield 31, 3) := by decide +kernel
theorem dX12_init_61 : decode cX12_init 61 = .ok (.aload_n 0, 1) := by decide +kernel
theorem dX12_init_62 : decode cX12_init 62 = .ok (.ldc 34, 2) := by decide +kernel
theorem dX12_init_64 : decode cX12_init 64 = .ok (.newarray .int, 2) := by decide +kernel
theorem dX12_init_66 : decode cX12_init 66 = .ok (.putfield 35, 3) := by decide +kernel
theorem dX12_init_69 : decode cX12_init 69 = .ok (.aload_n 0, 1) := by decide +kernel
theorem dX12_init_70 : decode cX12_init 70 = .ok (.sipush 21000, 3) := by decide +kernel
theorem dX12_init_73 : decode cX12_init 73 = .ok (.newarray .int, 2) := by decide +kernel
theorem dX12_init_75 : decode cX12_init 75 = .ok (.putfield 38, 3) := by decide +kernel
theorem dX12_init_78 : decode cX12_init 78 = .ok (.aload_n 0, 1) := by decide +kernel
theorem dX12_init_79 : decode cX12_init 79 = .ok (.bipush 20, 2) := by decide +kernel
theorem dX12_init_81 : decode cX12_init 81 = .ok (.newarray .int, 2) := by decide +kernel
theorem dX12_init_83 : decode cX12_init 83 = .ok (.putfield 41, 3) := by decide +kernel
theorem dX12_init_86 : decode cX12_init 86 = .ok (.aload_n 0, 1) := by decide +kernel
theorem dX12_init_87 : decode cX12_init 87 = .ok (.sipush 3000, 3) := by decide +kernel
theorem dX12_init_90 : decode cX12_init 90 = .ok (.newarray .int, 2) := by decide +kernel
theorem dX12_init_92 : decode cX12_init 92 = .ok (.putfield 44, 3) := by decide +kernel
theorem dX12_init_95 : decode cX12_init 95 = .ok (.aload_n 0, 1) := by decide +kernel
theorem dX12_init_96 : decode cX12_init 96 = .ok (.sipush 2000, 3) := by decide +kernel
theorem dX12_init_99 : decode cX12_init 99 = .ok (.newarray .int, 2) := by decide +kernel
theorem dX12_init_101 : decode cX12_init 101 = .ok (.putfield 47, 3) := by decide +kernel
theorem dX12_init_104 : decode cX12_init 104 = .ok (.aload_n 0, 1) := by decide +kernel
theorem dX12_init_105 : decode cX12_init 105 = .ok (.bipush 12, 2) := by decide +kernel
theorem dX12_init_107 : decode cX12_init 107 = .ok (.newarray .int, 2) := by decide +kernel
theorem dX12_init_109 : decode cX12_init 109 = .ok (.putfield 50, 3) := by decide +kernel
theorem dX12_init_112 : decode cX12_init 112 = .ok (.aload_n 0, 1) := by decide +kernel
theorem dX12_init_113 : decode cX12_init 113 = .ok (.sipush 4000, 3) := by decide +kernel
theorem dX12_init_116 : decode cX12_init 116 = .ok (.newarray .int, 2) := by decide +kernel
theorem dX12_init_118 : decode cX12_init 118 = .ok (.putfield 53, 3) := by decide +kernel
theorem dX12_init_121 : decode cX12_init 121 = .ok (.aload_n 0, 1) := by decide +kernel
theorem dX12_init_122 : decode cX12_init 122 = .ok (.sipush 200, 3) := by decide +kernel
theorem dX12_init_125 : decode cX12_init 125 = .ok (.newarray .int, 2) := by decide +kernel
theorem dX12_init_127 : decode cX12_init 127 = .ok (.putfield 56, 3) := by decide +kernel
theorem dX12_init_130 : decode cX12_init 130 = .ok (.aload_n 0, 1) := by decide +kernel
theorem dX12_init_131 : decode cX12_init 131 = .ok (.iconst (-1), 1) := by decide +kernel
theorem dX12_init_132 : decode cX12_init 132 = .ok (.putfield 59, 3) := by decide +kernel
theorem dX12_init_135 : decode cX12_init 135 = .ok (.aload_n 0, 1) := by decide +kernel
theorem dX12_init_136 : decode cX12_init 136 = .ok (.bipush 40, 2) := by decide +kernel
theorem dX12_init_138 : decode cX12_init 138 = .ok (.newarray .int, 2) := by decide +kernel
theorem dX12_init_140 : decode cX12_init 140 = .ok (.putfield 63, 3) := by decide +kernel
theorem dX12_init_143 : decode cX12_init 143 = .ok (.aload_n 0, 1) := by decide +kernel
theorem dX12_init_144 : decode cX12_init 144 = .ok (.bipush 40, 2) := by decide +kernel
theorem dX12_init_146 : decode cX12_init 146 = .ok (.newarray .int, 2) := by decide +kernel
theorem dX12_init_148 : decode cX12_init 148 = .ok (.putfield 66, 3) := by decide +kernel
theorem dX12_init_151 : decode cX12_init 151 = .ok (.aload_n 0, 1) := by decide +kernel
theorem dX12_init_152 : decode cX12_init 152 = .ok (.bipush 40, 2) := by decide +kernel
theorem dX12_init_154 : decode cX12_init 154 = .ok (.newarray .int, 2) := by decide +kernel
theorem dX12_init_156 : decode cX12_init 156 = .ok (.putfield 69, 3) := by decide +kernel
theorem dX12_init_159 : decode cX12_init 159 = .ok (.aload_n 0, 1) := by decide +kernel
theorem dX12_init_160 : decode cX12_init 160 = .ok (.bipush 40, 2) := by decide +kernel
theorem dX12_init_162 : decode cX12_init 162 = .ok (.newarray .int, 2) := by decide +kernel
theorem dX12_init_164 : decode cX12_init 164 = .ok (.putfield 72, 3) := by decide +kernel
theorem dX12_init_167 : decode cX12_init 167 = .ok (.aload_n 0, 1) := by decide +kernel
theorem dX12_init_168 : decode cX12_init 168 = .ok (.sipush 1100, 3) := by decide +kernel
theorem dX12_init_171 : decode cX12_init 171 = .ok (.newarray .int, 2) := by decide +kernel
theorem dX12_init_173 : decode cX12_init 173 = .ok (.putfield 75, 3) := by decide +kernel
theorem dX12_init_176 : decode cX12_init 176 = .ok (.aload_n 0, 1) := by decide +kernel
theorem dX12_init_177 : decode cX12_init 177 = .ok (.bipush 40, 2) := by decide +kernel
theorem dX12_init_179 : decode cX12_init 179 = .ok (.newarray .int, 2) := by decide +kernel
theorem dX12_init_181 : decode cX12_init 181 = .ok (.putfield 78, 3) := by decide +kernel
theorem dX12_init_184 : decode cX12_init 184 = .ok (.aload_n 0, 1) := by decide +kernel
theorem dX12_init_185 : decode cX12_init 185 = .ok (.bipush 40, 2) := by decide +kernel
theorem dX12_init_187 : decode cX12_init 187 = .ok (.newarray .int, 2) := by decide +kernel
theorem dX12_init_189 : decode cX12_init 189 = .ok (.putfield 81, 3) := by decide +kernel
theorem dX12_init_192 : decode cX12_init 192 = .ok (.aload_n 0, 1) := by decide +kernel
theorem dX12_init_193 : decode cX12_init 193 = .ok (.sipush 240, 3) := by decide +kernel
theorem dX12_init_196 : decode cX12_init 196 = .ok (.newarray .int, 2) := by decide +kernel
theorem dX12_init_198 : decode cX12_init 198 = .ok (.putfield 84, 3) := by decide +kernel
theorem dX12_init_201 : decode cX12_init 201 = .ok (.aload_n 0, 1) := by decide +kernel
theorem dX12_init_202 : decode cX12_init 202 = .ok (.bipush 40, 2) := by decide +kernel
theorem dX12_init_204 : decode cX12_init 204 = .ok (.newarray .int, 2) := by decide +kernel
theorem dX12_init_206 : decode cX12_init 206 = .ok (.putfield 87, 3) := by decide +kernel
theorem dX12_init_209 : decode cX12_init 209 = .ok (.aload_n 0, 1) := by decide +kernel
theorem dX12_init_210 : decode cX12_init 210 = .ok (.bipush 40, 2) := by decide +kernel
theorem dX12_init_212 : decode cX12_init 212 = .ok (.newarray .int, 2) := by decide +kernel
theorem dX12_init_214 : decode cX12_init 214 = .ok (.putfield 90, 3) := by decide +kernel
theorem dX12_init_217 : decode cX12_init 217 = .ok (.aload_n 0, 1) := by decide +kernel
theorem dX12_init_218 : decode cX12_init 218 = .ok (.bipush 40, 2) := by decide +kernel
theorem dX12_init_220 : decode cX12_init 220 = .ok (.newarray .boolean, 2) := by decide +kernel
theorem dX12_init_222 : decode cX12_init 222 = .ok (.putfield 93, 3) := by decide +kernel
theorem dX12_init_225 : decode cX12_init 225 = .ok (.aload_n 0, 1) := by decide +kernel
theorem dX12_init_226 : decode cX12_init 226 = .ok (.bipush 60, 2) := by decide +kernel
theorem dX12_init_228 : decode cX12_init 228 = .ok (.newarray .int, 2) := by decide +kernel
theorem dX12_init_230 : decode cX12_init 230 = .ok (.putfield 97, 3) := by decide +kernel
theorem dX12_init_233 : decode cX12_init 233 = .ok (.aload_n 0, 1) := by decide +kernel
theorem dX12_init_234 : decode cX12_init 234 = .ok (.bipush 60, 2) := by decide +kernel
theorem dX12_init_236 : decode cX12_init 236 = .ok (.newarray .int, 2) := by decide +kernel
theorem dX12_init_238 : decode cX12_init 238 = .ok (.putfield 100, 3) := by decide +kernel
theorem dX12_init_241 : decode cX12_init 241 = .ok (.aload_n 0, 1) := by decide +kernel
theorem dX12_init_242 : decode cX12_init 242 = .ok (.bipush 60, 2) := by decide +kernel
theorem dX12_init_244 : decode cX12_init 244 = .ok (.newarray .int, 2) := by decide +kernel
theorem dX12_init_246 : decode cX12_init 246 = .ok (.putfield 103, 3) := by decide +kernel
theorem dX12_init_249 : decode cX12_init 249 = .ok (.aload_n 0, 1) := by decide +kernel
theorem dX12_init_250 : decode cX12_init 250 = .ok (.bipush 60, 2) := by decide +kernel
theorem dX12_init_252 : decode cX12_init 252 = .ok (.newarray .int, 2) := by decide +kernel
theorem dX12_init_254 : decode cX12_init 254 = .ok (.putfield 106, 3) := by decide +kernel
theorem dX12_init_257 : decode cX12_init 257 = .ok (.aload_n 0, 1) := by decide +kernel
theorem dX12_init_258 : decode cX12_init 258 = .ok (.bipush 60, 2) := by decide +kernel
theorem dX12_init_260 : decode cX12_init 260 = .ok (.newarray .int, 2) := by decide +kernel
theorem dX12_init_262 : decode cX12_init 262 = .ok (.putfield 109, 3) := by decide +kernel
theorem dX12_init_265 : decode cX12_init 265 = .ok (.aload_n 0, 1) := by decide +kernel
theorem dX12_init_266 : decode cX12_init 266 = .ok (.bipush 60, 2) := by decide +kernel
theorem dX12_init_268 : decode cX12_init 268 = .ok (.newarray .int, 2) := by decide +kernel
theorem dX12_init_270 : decode cX12_init 270 = .ok (.putfield 112, 3) := by decide +kernel
theorem dX12_init_273 : decode cX12_init 273 = .ok (.aload_n 0, 1) := by decide +kernel
theorem dX12_init_274 : decode cX12_init 274 = .ok (.sipush 7200, 3) := by decide +kernel
theorem dX12_init_277 : decode cX12_init 277 = .ok (.newarray .int, 2) := by decide +kernel
theorem dX12_init_279 : decode cX12_init 279 = .ok (.putfield 115, 3) := by decide +kernel
theorem dX12_init_282 : decode cX12_init 282 = .ok (.aload_n 0, 1) := by decide +kernel
theorem dX12_init_283 : decode cX12_init 283 = .ok (.bipush 60, 2) := by decide +kernel
theorem dX12_init_285 : decode cX12_init 285 = .ok (.newarray .boolean, 2) := by decide +kernel
theorem dX12_init_287 : decode cX12_init 287 = .ok (.putfield 118, 3) := by decide +kernel
theorem dX12_init_290 : decode cX12_init 290 = .ok (.aload_n 0, 1) := by decide +kernel
theorem dX12_init_291 : decode cX12_init 291 = .ok (.bipush 60, 2) := by decide +kernel
theorem dX12_init_293 : decode cX12_init 293 = .ok (.newarray .boolean, 2) := by decide +kernel
theorem dX12_init_295 : decode cX12_init 295 = .ok (.putfield 121, 3) := by decide +kernel
theorem dX12_init_298 : decode cX12_init 298 = .ok (.aload_n 0, 1) := by decide +kernel
theorem dX12_init_299 : decode cX12_init 299 = .ok (.bipush 60, 2) := by decide +kernel
theorem dX12_init_301 : decode cX12_init 301 = .ok (.newarray .boolean, 2) := by decide +kernel
theorem dX12_init_303 : decode cX12_init 303 = .ok (.putfield 124, 3) := by decide +kernel
theorem dX12_init_306 : decode cX12_init 306 = .ok (.aload_n 0, 1) := by decide +kernel
theorem dX12_init_307 : decode cX12_init 307 = .ok (.bipush 60, 2) := by decide +kernel
theorem dX12_init_309 : decode cX12_init 309 = .ok (.newarray .boolean, 2) := by decide +kernel
theorem dX12_init_311 : decode cX12_init 311 = .ok (.putfield 127, 3) := by decide +kernel
theorem dX12_init_314 : decode cX12_init 314 = .ok (.aload_n 0, 1) := by decide +kernel
theorem dX12_init_315 : decode cX12_init 315 = .ok (.bipush 100, 2) := by decide +kernel
theorem dX12_init_317 : decode cX12_init 317 = .ok (.newarray .int, 2) := by decide +kernel
theorem dX12_init_319 : decode cX12_init 319 = .ok (.putfield 130, 3) := by decide +kernel
theorem dX12_init_322 : decode cX12_init 322 = .ok (.aload_n 0, 1) := by decide +kernel
theorem dX12_init_323 : decode cX12_init 323 = .ok (.bipush 100, 2) := by decide +kernel
theorem dX12_init_325 : decode cX12_init 325 = .ok (.newarray .int, 2) := by decide +kernel
theorem dX12_init_327 : decode cX12_init 327 = .ok (.putfield 133, 3) := by decide +kernel
theorem dX12_init_330 : decode cX12_init 330 = .ok (.aload_n 0, 1) := by decide +kernel
theorem dX12_init_331 : decode cX12_init 331 = .ok (.iconst (-1), 1) := by decide +kernel
theorem dX12_init_332 : decode cX12_init 332 = .ok (.putfield 136, 3) := by decide +kernel
theorem dX12_init_335 : decode cX12_init 335 = .ok (.aload_n 0, 1) := by decide +kernel
theorem dX12_init_336 : decode cX12_init 336 = .ok (.sipush 1000, 3) := by decide +kernel
theorem dX12_init_339 : decode cX12_init 339 = .ok (.putfield 139, 3) := by decide +kernel
theorem dX12_init_342 : decode cX12_init 342 = .ok (.aload_n 0, 1) := by decide +kernel
theorem dX12_init_343 : decode cX12_init 343 = .ok (.sipush 200, 3) := by decide +kernel
theorem dX12_init_346 : decode cX12_init 346 = .ok (.newarray .int, 2) := by decide +kernel
theorem dX12_init_348 : decode cX12_init 348 = .ok (.putfield 142, 3) := by decide +kernel
theorem dX12_init_351 : decode cX12_init 351 = .ok (.aload_n 0, 1) := by decide +kernel
theorem dX12_init_352 : decode cX12_init 352 = .ok (.sipush 1200, 3) := by decide +kernel
theorem dX12_init_355 : decode cX12_init 355 = .ok (.newarray .int, 2) := by decide +kernel
theorem dX12_init_357 : decode cX12_init 357 = .ok (.putfield 145, 3) := by decide +kernel
theorem dX12_init_360 : decode cX12_init 360 = .ok (.aload_n 0, 1) := by decide +kernel
theorem dX12_init_361 : decode cX12_init 361 = .ok (.sipush 1200, 3) := by decide +kernel
theorem dX12_init_364 : decode cX12_init 364 = .ok (.newarray .int, 2) := by decide +kernel
theorem dX12_init_366 : decode cX12_init 366 = .ok (.putfield 148, 3) := by decide +kernel
theorem dX12_init_369 : decode cX12_init 369 = .ok (.aload_n 0, 1) := by decide +kernel
theorem dX12_init_370 : decode cX12_init 370 = .ok (.sipush 1200, 3) := by decide +kernel
theorem dX12_init_373 : decode cX12_init 373 = .ok (.newarray .int, 2) := by decide +kernel
theorem dX12_init_375 : decode cX12_init 375 = .ok (.putfield 151, 3) := by decide +kernel
theorem dX12_init_378 : decode cX12_init 378 = .ok (.aload_n 0, 1) := by decide +kernel
theorem dX12_init_379 : decode cX12_init 379 = .ok (.sipush 2400, 3) := by decide +kernel
theorem dX12_init_382 : decode cX12_init 382 = .ok (.newarray .int, 2) := by decide +kernel
theorem dX12_init_384 : decode cX12_init 384 = .ok (.putfield 154, 3) := by decide +kernel
theorem dX12_init_387 : decode cX12_init 387 = .ok (.aload_n 0, 1) := by decide +kernel
theorem dX12_init_388 : decode cX12_init 388 = .ok (.sipush 400, 3) := by decide +kernel
theorem dX12_init_391 : decode cX12_init 391 = .ok (.newarray .int, 2) := by decide +kernel
theorem dX12_init_393 : decode cX12_init 393 = .ok (.putfield 157, 3) := by decide +kernel
theorem dX12_init_396 : decode cX12_init 396 = .ok (.aload_n 0, 1) := by decide +kernel
theorem dX12_init_397 : decode cX12_init 397 = .ok (.sipush 400, 3) := by decide +kernel
theorem dX12_init_400 : decode cX12_init 400 = .ok (.newarray .int, 2) := by decide +kernel
theorem dX12_init_402 : decode cX12_init 402 = .ok (.putfield 160, 3) := by decide +kernel
theorem dX12_init_405 : decode cX12_init 405 = .ok (.aload_n 0, 1) := by decide +kernel
theorem dX12_init_406 : decode cX12_init 406 = .ok (.sipush 400, 3) := by decide +kernel
theorem dX12_init_409 : decode cX12_init 409 = .ok (.newarray .int, 2) := by decide +kernel
theorem dX12_init_411 : decode cX12_init 411 = .ok (.putfield 163, 3) := by decide +kernel
theorem dX12_init_414 : decode cX12_init 414 = .ok (.aload_n 0, 1) := by decide +kernel
theorem dX12_init_415 : decode cX12_init 415 = .ok (.sipush 130, 3) := by decide +kernel
theorem dX12_init_418 : decode cX12_init 418 = .ok (.newarray .int, 2) := by decide +kernel
theorem dX12_init_420 : decode cX12_init 420 = .ok (.putfield 166, 3) := by decide +kernel
theorem dX12_init_423 : decode cX12_init 423 = .ok (.aload_n 0, 1) := by decide +kernel
theorem dX12_init_424 : decode cX12_init 424 = .ok (.sipush 300, 3) := by decide +kernel
theorem dX12_init_427 : decode cX12_init 427 = .ok (.newarray .int, 2) := by decide +kernel
theorem dX12_init_429 : decode cX12_init 429 = .ok (.putfield 169, 3) := by decide +kernel
theorem dX12_init_432 : decode cX12_init 432 = .ok (.aload_n 0, 1) := by decide +kernel
theorem dX12_init_433 : decode cX12_init 433 = .ok (.sipush 300, 3) := by decide +kernel
theorem dX12_init_436 : decode cX12_init 436 = .ok (.newarray .int, 2) := by decide +kernel
theorem dX12_init_438 : decode cX12_init 438 = .ok (.putfield 172, 3) := by decide +kernel
theorem dX12_init_441 : decode cX12_init 441 = .ok (.aload_n 0, 1) := by decide +kernel
theorem dX12_init_442 : decode cX12_init 442 = .ok (.sipush 300, 3) := by decide +kernel
theorem dX12_init_445 : decode cX12_init 445 = .ok (.newarray .int, 2) := by decide +kernel
theorem dX12_init_447 : decode cX12_init 447 = .ok (.putfield 175, 3) := by decide +kernel
theorem dX12_init_450 : decode cX12_init 450 = .ok (.aload_n 0, 1) := by decide +kernel
theorem dX12_init_451 : decode cX12_init 451 = .ok (.sipush 300, 3) := by decide +kernel
theorem dX12_init_454 : decode cX12_init 454 = .ok (.newarray .int, 2) := by decide +kernel
theorem dX12_init_456 : decode cX12_init 456 = .ok (.putfield 178, 3) := by decide +kernel
theorem dX12_init_459 : decode cX12_init 459 = .ok (.aload_n 0, 1) := by decide +kernel
theorem dX12_init_460 : decode cX12_init 460 = .ok (.sipush 300, 3) := by decide +kernel
theorem dX12_init_463 : decode cX12_init 463 = .ok (.newarray .int, 2) := by decide +kernel
theorem dX12_init_465 : decode cX12_init 465 = .ok (.putfield 181, 3) := by decide +kernel
theorem dX12_init_468 : decode cX12_init 468 = .ok (.aload_n 0, 1) := by decide +kernel
theorem dX12_init_469 : decode cX12_init 469 = .ok (.sipush 300, 3) := by decide +kernel
theorem dX12_init_472 : decode cX12_init 472 = .ok (.newarray .boolean, 2) := by decide +kernel
theorem dX12_init_474 : decode cX12_init 474 = .ok (.putfield 184, 3) := by decide +kernel
theorem dX12_init_477 : decode cX12_init 477 = .ok (.aload_n 0, 1) := by decide +kernel
theorem dX12_init_478 : decode cX12_init 478 = .ok (.sipush 2400, 3) := by decide +kernel
theorem dX12_init_481 : decode cX12_init 481 = .ok (.newarray .int, 2) := by decide +kernel
theorem dX12_init_483 : decode cX12_init 483 = .ok (.putfield 187, 3) := by decide +kernel
theorem dX12_init_486 : decode cX12_init 486 = .ok (.aload_n 0, 1) := by decide +kernel
theorem dX12_init_487 : decode cX12_init 487 = .ok (.bipush 60, 2) := by decide +kernel
theorem dX12_init_489 : decode cX12_init 489 = .ok (.newarray .int, 2) := by decide +kernel
theorem dX12_init_491 : decode cX12_init 491 = .ok (.putfield 190, 3) := by decide +kernel
theorem dX12_init_494 : decode cX12_init 494 = .ok (.aload_n 0, 1) := by decide +kernel
theorem dX12_init_495 : decode cX12_init 495 = .ok (.bipush 60, 2) := by decide +kernel
theorem dX12_init_497 : decode cX12_init 497 = .ok (.newarray .boolean, 2) := by decide +kernel
theorem dX12_init_499 : decode cX12_init 499 = .ok (.putfield 193, 3) := by decide +kernel
theorem dX12_init_502 : decode cX12_init 502 = .ok (.aload_n 0, 1) := by decide +kernel
theorem dX12_init_503 : decode cX12_init 503 = .ok (.bipush 60, 2) := by decide +kernel
theorem dX12_init_505 : decode cX12_init 505 = .ok (.newarray .int, 2) := by decide +kernel
theorem dX12_init_507 : decode cX12_init 507 = .ok (.putfield 196, 3) := by decide +kernel
theorem dX12_init_510 : decode cX12_init 510 = .ok (.aload_n 0, 1) := by decide +kernel
theorem dX12_init_511 : decode cX12_init 511 = .ok (.bipush 60, 2) := by decide +kernel
theorem dX12_init_513 : decode cX12_init 513 = .ok (.newarray .int, 2) := by decide +kernel
theorem dX12_init_515 : decode cX12_init 515 = .ok (.putfield 199, 3) := by decide +kernel
theorem dX12_init_518 : decode cX12_init 518 = .ok (.aload_n 0, 1) := by decide +kernel
theorem dX12_init_519 : decode cX12_init 519 = .ok (.bipush 60, 2) := by decide +kernel
theorem dX12_init_521 : decode cX12_init 521 = .ok (.newarray .int, 2) := by decide +kernel
theorem dX12_init_523 : decode cX12_init 523 = .ok (.putfield 202, 3) := by decide +kernel
theorem dX12_init_526 : decode cX12_init 526 = .ok (.aload_n 0, 1) := by decide +kernel
theorem dX12_init_527 : decode cX12_init 527 = .ok (.bipush 60, 2) := by decide +kernel
theorem dX12_init_529 : decode cX12_init 529 = .ok (.newarray .int, 2) := by decide +kernel
theorem dX12_init_531 : decode cX12_init 531 = .ok (.putfield 205, 3) := by decide +kernel
theorem dX12_init_534 : decode cX12_init 534 = .ok (.aload_n 0, 1) := by decide +kernel
theorem dX12_init_535 : decode cX12_init 535 = .ok (.bipush 60, 2) := by decide +kernel
theorem dX12_init_537 : decode cX12_init 537 = .ok (.newarray .int, 2) := by decide +kernel
theorem dX12_init_539 : decode cX12_init 539 = .ok (.putfield 208, 3) := by decide +kernel
theorem dX12_init_542 : decode cX12_init 542 = .ok (.aload_n 0, 1) := by decide +kernel
theorem dX12_init_543 : decode cX12_init 543 = .ok (.bipush 60, 2) := by decide +kernel
theorem dX12_init_545 : decode cX12_init 545 = .ok (.newarray .int, 2) := by decide +kernel
theorem dX12_init_547 : decode cX12_init 547 = .ok (.putfield 211, 3) := by decide +kernel
theorem dX12_init_550 : decode cX12_init 550 = .ok (.aload_n 0, 1) := by decide +kernel
theorem dX12_init_551 : decode cX12_init 551 = .ok (.bipush 60, 2) := by decide +kernel
theorem dX12_init_553 : decode cX12_init 553 = .ok (.newarray .int, 2) := by decide +kernel
theorem dX12_init_555 : decode cX12_init 555 = .ok (.putfield 214, 3) := by decide +kernel
theorem dX12_init_558 : decode cX12_init 558 = .ok (.aload_n 0, 1) := by decide +kernel
theorem dX12_init_559 : decode cX12_init 559 = .ok (.bipush 60, 2) := by decide +kernel
theorem dX12_init_561 : decode cX12_init 561 = .ok (.newarray .int, 2) := by decide +kernel
theorem dX12_init_563 : decode cX12_init 563 = .ok (.putfield 217, 3) := by decide +kernel
theorem dX12_init_566 : decode cX12_init 566 = .ok (.aload_n 0, 1) := by decide +kernel
theorem dX12_init_567 : decode cX12_init 567 = .ok (.sipush 1200, 3) := by decide +kernel
theorem dX12_init_570 : decode cX12_init 570 = .ok (.newarray .int, 2) := by decide +kernel
theorem dX12_init_572 : decode cX12_init 572 = .ok (.putfield 220, 3) := by decide +kernel
theorem dX12_init_575 : decode cX12_init 575 = .ok (.aload_n 0, 1) := by decide +kernel
theorem dX12_init_576 : decode cX12_init 576 = .ok (.sipush 7800, 3) := by decide +kernel
theorem dX12_init_579 : decode cX12_init 579 = .ok (.newarray .int, 2) := by decide +kernel
theorem dX12_init_581 : decode cX12_init 581 = .ok (.putfield 223, 3) := by decide +kernel
theorem dX12_init_584 : decode cX12_init 584 = .ok (.aload_n 0, 1) := by decide +kernel
theorem dX12_init_585 : decode cX12_init 585 = .ok (.sipush 7800, 3) := by decide +kernel
theorem dX12_init_588 : decode cX12_init 588 = .ok (.newarray .int, 2) := by decide +kernel
theorem dX12_init_590 : decode cX12_init 590 = .ok (.putfield 226, 3) := by decide +kernel
theorem dX12_init_593 : decode cX12_init 593 = .ok (.aload_n 0, 1) := by decide +kernel
theorem dX12_init_594 : decode cX12_init 594 = .ok (.bipush 60, 2) := by decide +kernel
theorem dX12_init_596 : decode cX12_init 596 = .ok (.newarray .int, 2) := by decide +kernel
theorem dX12_init_598 : decode cX12_init 598 = .ok (.putfield 229, 3) := by decide +kernel
theorem dX12_init_601 : decode cX12_init 601 = .ok (.aload_n 0, 1) := by decide +kernel
theorem dX12_init_602 : decode cX12_init 602 = .ok (.sipush 200, 3) := by decide +kernel
theorem dX12_init_605 : decode cX12_init 605 = .ok (.newarray .int, 2) := by decide +kernel
theorem dX12_init_607 : decode cX12_init 607 = .ok (.putfield 232, 3) := by decide +kernel
theorem dX12_init_610 : decode cX12_init 610 = .ok (.aload_n 0, 1) := by decide +kernel
theorem dX12_init_611 : decode cX12_init 611 = .ok (.sipush 800, 3) := by decide +kernel
theorem dX12_init_614 : decode cX12_init 614 = .ok (.newarray .int, 2) := by decide +kernel
theorem dX12_init_616 : decode cX12_init 616 = .ok (.putfield 235, 3) := by decide +kernel
theorem dX12_init_619 : decode cX12_init 619 = .ok (.aload_n 0, 1) := by decide +kernel
theorem dX12_init_620 : decode cX12_init 620 = .ok (.sipush 800, 3) := by decide +kernel
theorem dX12_init_623 : decode cX12_init 623 = .ok (.newarray .int, 2) := by decide +kernel
theorem dX12_init_625 : decode cX12_init 625 = .ok (.putfield 238, 3) := by decide +kernel
theorem dX12_init_628 : decode cX12_init 628 = .ok (.aload_n 0, 1) := by decide +kernel
theorem dX12_init_629 : decode cX12_init 629 = .ok (.ldc 241, 2) := by decide +kernel
theorem dX12_init_631 : decode cX12_init 631 = .ok (.newarray .int, 2) := by decide +kernel
theorem dX12_init_633 : decode cX12_init 633 = .ok (.putfield 242, 3) := by decide +kernel
theorem dX12_init_636 : decode cX12_init 636 = .ok (.aload_n 0, 1) := by decide +kernel
theorem dX12_init_637 : decode cX12_init 637 = .ok (.sipush 2300, 3) := by decide +kernel
theorem dX12_init_640 : decode cX12_init 640 = .ok (.newarray .int, 2) := by decide +kernel
theorem dX12_init_642 : decode cX12_init 642 = .ok (.putfield 245, 3) := by decide +kernel
theorem dX12_init_645 : decode cX12_init 645 = .ok (.aload_n 0, 1) := by decide +kernel
theorem dX12_init_646 : decode cX12_init 646 = .ok (.sipush 2300, 3) := by decide +kernel
theorem dX12_init_649 : decode cX12_init 649 = .ok (.newarray .int, 2) := by decide +kernel
theorem dX12_init_651 : decode cX12_init 651 = .ok (.putfield 248, 3) := by decide +kernel
theorem dX12_init_654 : decode cX12_init 654 = .ok (.aload_n 0, 1) := by decide +kernel
theorem dX12_init_655 : decode cX12_init 655 = .ok (.sipush 2300, 3) := by decide +kernel
theorem dX12_init_658 : decode cX12_init 658 = .ok (.newarray .int, 2) := by decide +kernel
theorem dX12_init_660 : decode cX12_init 660 = .ok (.putfield 251, 3) := by decide +kernel
theorem dX12_init_663 : decode cX12_init 663 = .ok (.aload_n 0, 1) := by decide +kernel
theorem dX12_init_664 : decode cX12_init 664 = .ok (.bipush 20, 2) := by decide +kernel
theorem dX12_init_666 : decode cX12_init 666 = .ok (.newarray .int, 2) := by decide +kernel
theorem dX12_init_668 : decode cX12_init 668 = .ok (.putfield 254, 3) := by decide +kernel
theorem dX12_init_671 : decode cX12_init 671 = .ok (.aload_n 0, 1) := by decide +kernel
theorem dX12_init_672 : decode cX12_init 672 = .ok (.sipush 1200, 3) := by decide +kernel
theorem dX12_init_675 : decode cX12_init 675 = .ok (.newarray .int, 2) := by decide +kernel
theorem dX12_init_677 : decode cX12_init 677 = .ok (.putfield 257, 3) := by decide +kernel
theorem dX12_init_680 : decode cX12_init 680 = .ok (.aload_n 0, 1) := by decide +kernel
theorem dX12_init_681 : decode cX12_init 681 = .ok (.sipush 128, 3) := by decide +kernel
theorem dX12_init_684 : decode cX12_init 684 = .ok (.newarray .int, 2) := by decide +kernel
theorem dX12_init_686 : decode cX12_init 686 = .ok (.putfield 260, 3) := by decide +kernel
theorem dX12_init_689 : decode cX12_init 689 = .ok (.aload_n 0, 1) := by decide +kernel
theorem dX12_init_690 : decode cX12_init 690 = .ok (.sipush 8192, 3) := by decide +kernel
theorem dX12_init_693 : decode cX12_init 693 = .ok (.newarray .int, 2) := by decide +kernel
theorem dX12_init_695 : decode cX12_init 695 = .ok (.putfield 263, 3) := by decide +kernel
theorem dX12_init_698 : decode cX12_init 698 = .ok (.aload_n 0, 1) := by decide +kernel
theorem dX12_init_699 : decode cX12_init 699 = .ok (.sipush 128, 3) := by decide +kernel
theorem dX12_init_702 : decode cX12_init 702 = .ok (.newarray .int, 2) := by decide +kernel
theorem dX12_init_704 : decode cX12_init 704 = .ok (.putfield 266, 3) := by decide +kernel
theorem dX12_init_707 : decode cX12_init 707 = .ok (.aload_n 0, 1) := by decide +kernel
theorem dX12_init_708 : decode cX12_init 708 = .ok (.sipush 128, 3) := by decide +kernel
theorem dX12_init_711 : decode cX12_init 711 = .ok (.newarray .int, 2) := by decide +kernel
theorem dX12_init_713 : decode cX12_init 713 = .ok (.putfield 269, 3) := by decide +kernel
theorem dX12_init_716 : decode cX12_init 716 = .ok (.aload_n 0, 1) := by decide +kernel
theorem dX12_init_717 : decode cX12_init 717 = .ok (.sipush 8192, 3) := by decide +kernel
theorem dX12_init_720 : decode cX12_init 720 = .ok (.newarray .int, 2) := by decide +kernel
theorem dX12_init_722 : decode cX12_init 722 = .ok (.putfield 272, 3) := by decide +kernel
theorem dX12_init_725 : decode cX12_init 725 = .ok (.aload_n 0, 1) := by decide +kernel
theorem dX12_init_726 : decode cX12_init 726 = .ok (.sipush 128, 3) := by decide +kernel
theorem dX12_init_729 : decode cX12_init 729 = .ok (.newarray .int, 2) := by decide +kernel
theorem dX12_init_731 : decode cX12_init 731 = .ok (.putfield 275, 3) := by decide +kernel
theorem dX12_init_734 : decode cX12_init 734 = .ok (.aload_n 0, 1) := by decide +kernel
theorem dX12_init_735 : decode cX12_init 735 = .ok (.sipush 130, 3) := by decide +kernel
theorem dX12_init_738 : decode cX12_init 738 = .ok (.newarray .int, 2) := by decide +kernel
theorem dX12_init_740 : decode cX12_init 740 = .ok (.putfield 278, 3) := by decide +kernel
theorem dX12_init_743 : decode cX12_init 743 = .ok (.aload_n 0, 1) := by decide +kernel
theorem dX12_init_744 : decode cX12_init 744 = .ok (.sipush 400, 3) := by decide +kernel
theorem dX12_init_747 : decode cX12_init 747 = .ok (.newarray .int, 2) := by decide +kernel
theorem dX12_init_749 : decode cX12_init 749 = .ok (.putfield 281, 3) := by decide +kernel
theorem dX12_init_752 : decode cX12_init 752 = .ok (.aload_n 0, 1) := by decide +kernel
theorem dX12_init_753 : decode cX12_init 753 = .ok (.sipush 400, 3) := by decide +kernel
theorem dX12_init_756 : decode cX12_init 756 = .ok (.newarray .int, 2) := by decide +kernel
theorem dX12_init_758 : decode cX12_init 758 = .ok (.putfield 284, 3) := by decide +kernel
theorem dX12_init_761 : decode cX12_init 761 = .ok (.aload_n 0, 1) := by decide +kernel
theorem dX12_init_762 : decode cX12_init 762 = .ok (.bipush 6, 2) := by decide +kernel
theorem dX12_init_764 : decode cX12_init 764 = .ok (.newarray .int, 2) := by decide +kernel
theorem dX12_init_766 : decode cX12_init 766 = .ok (.putfield 287, 3) := by decide +kernel
theorem dX12_init_769 : decode cX12_init 769 = .ok (.aload_n 0, 1) := by decide +kernel
theorem dX12_init_770 : decode cX12_init 770 = .ok (.bipush 40, 2) := by decide +kernel
theorem dX12_init_772 : decode cX12_init 772 = .ok (.newarray .int, 2) := by decide +kernel
theorem dX12_init_774 : decode cX12_init 774 = .ok (.putfield 290, 3) := by decide +kernel
theorem dX12_init_777 : decode cX12_init 777 = .ok (.aload_n 0, 1) := by decide +kernel
theorem dX12_init_778 : decode cX12_init 778 = .ok (.bipush 40, 2) := by decide +kernel
theorem dX12_init_780 : decode cX12_init 780 = .ok (.newarray .int, 2) := by decide +kernel
theorem dX12_init_782 : decode cX12_init 782 = .ok (.putfield 293, 3) := by decide +kernel
theorem dX12_init_785 : decode cX12_init 785 = .ok (.aload_n 0, 1) := by decide +kernel
theorem dX12_init_786 : decode cX12_init 786 = .ok (.bipush 40, 2) := by decide +kernel
theorem dX12_init_788 : decode cX12_init 788 = .ok (.newarray .int, 2) := by decide +kernel
theorem dX12_init_790 : decode cX12_init 790 = .ok (.putfield 296, 3) := by decide +kernel
theorem dX12_init_793 : decode cX12_init 793 = .ok (.aload_n 0, 1) := by decide +kernel
theorem dX12_init_794 : decode cX12_init 794 = .ok (.sipush 10500, 3) := by decide +kernel
theorem dX12_init_797 : decode cX12_init 797 = .ok (.newarray .int, 2) := by decide +kernel
theorem dX12_init_799 : decode cX12_init 799 = .ok (.putfield 299, 3) := by decide +kernel
theorem dX12_init_802 : decode cX12_init 802 = .ok (.aload_n 0, 1) := by decide +kernel
theorem dX12_init_803 : decode cX12_init 803 = .ok (.sipush 350, 3) := by decide +kernel
theorem dX12_init_806 : decode cX12_init 806 = .ok (.newarray .int, 2) := by decide +kernel
theorem dX12_init_808 : decode cX12_init 808 = .ok (.putfield 302, 3) := by decide +kernel
theorem dX12_init_811 : decode cX12_init 811 = .ok (.iconst 0, 1) := by decide +kernel
theorem dX12_init_812 : decode cX12_init 812 = .ok (.istore_n 1, 1) := by decide +kernel
theorem dX12_init_813 : decode cX12_init 813 = .ok (.iload_n 1, 1) := by decide +kernel
theorem dX12_init_814 : decode cX12_init 814 = .ok (.sipush 8192, 3) := by decide +kernel
theorem dX12_init_817 : decode cX12_init 817 = .ok (.if_icmp .ge 16, 3) := by decide +kernel
theorem dX12_init_820 : decode cX12_init 820 = .ok (.aload_n 0, 1) := by decide +kernel
theorem dX12_init_821 : decode cX12_init 821 = .ok (.getfield 31, 3) := by decide +kernel
theorem dX12_init_824 : decode cX12_init 824 = .ok (.iload_n 1, 1) := by decide +kernel
theorem dX12_init_825 : decode cX12_init 825 = .ok (.iconst (-1), 1) := by decide +kernel
theorem dX12_init_826 : decode cX12_init 826 = .ok (.iastore, 1) := by decide +kernel
theorem dX12_init_827 : decode cX12_init 827 = .ok (.iinc 1 1, 3) := by decide +kernel
theorem dX12_init_830 : decode cX12_init 830 = .ok (.goto (-17), 3) := by decide +kernel
theorem dX12_init_833 : decode cX12_init 833 = .ok (.aload_n 0, 1) := by decide +kernel
theorem dX12_init_834 : decode cX12_init 834 = .ok (.bipush 110, 2) := by decide +kernel
theorem dX12_init_836 : decode cX12_init 836 = .ok (.bipush 105, 2) := by decide +kernel
theorem dX12_init_838 : decode cX12_init 838 = .ok (.bipush 108, 2) := by decide +kernel
theorem dX12_init_840 : decode cX12_init 840 = .ok (.iconst 0, 1) := by decide +kernel
theorem dX12_init_841 : decode cX12_init 841 = .ok (.iconst 0, 1) := by decide +kernel
theorem dX12_init_842 : decode cX12_init 842 = .ok (.iconst 0, 1) := by decide +kernel
theorem dX12_init_843 : decode cX12_init 843 = .ok (.iconst 0, 1) := by decide +kernel
theorem dX12_init_844 : decode cX12_init 844 = .ok (.iconst 0, 1) := by decide +kernel
theorem dX12_init_845 : decode cX12_init 845 = .ok (.invokevirtual 305, 3) := by decide +kernel
theorem dX12_init_848 : decode cX12_init 848 = .ok (.aload_n 0, 1) := by decide +kernel
theorem dX12_init_849 : decode cX12_init 849 = .ok (.bipush 116, 2) := by decide +kernel
theorem dX12_init_851 : decode cX12_init 851 = .ok (.iconst 0, 1) := by decide +kernel
theorem dX12_init_852 : decode cX12_init 852 = .ok (.iconst 0, 1) := by decide +kernel
theorem dX12_init_853 : decode cX12_init 853 = .ok (.iconst 0, 1) := by decide +kernel
theorem dX12_init_854 : decode cX12_init 854 = .ok (.iconst 0, 1) := by decide +kernel
theorem dX12_init_855 : decode cX12_init 855 = .ok (.iconst 0, 1) := by decide +kernel
theorem dX12_init_856 : decode cX12_init 856 = .ok (.iconst 0, 1) := by decide +kernel
theorem dX12_init_857 : decode cX12_init 857 = .ok (.iconst 0, 1) := by decide +kernel
theorem dX12_init_858 : decode cX12_init 858 = .ok (.invokevirtual 305, 3) := by decide +kernel
theorem dX12_init_861 : decode cX12_init 861 = .ok (.aload_n 0, 1) := by decide +kernel
theorem dX12_init_862 : decode cX12_init 862 = .ok (.bipush 113, 2) := by decide +kernel
theorem dX12_init_864 : decode cX12_init 864 = .ok (.bipush 117, 2) := by decide +kernel
theorem dX12_init_866 : decode cX12_init 866 = .ok (.bipush 111, 2) := by decide +kernel
theorem dX12_init_868 : decode cX12_init 868 = .ok (.bipush 116, 2) := by decide +kernel
theorem dX12_init_870 : decode cX12_init 870 = .ok (.bipush 101, 2) := by decide +kernel
theorem dX12_init_872 : decode cX12_init 872 = .ok (.iconst 0, 1) := by decide +kernel
theorem dX12_init_873 : decode cX12_init 873 = .ok (.iconst 0, 1) := by decide +kernel
theorem dX12_init_874 : decode cX12_init 874 = .ok (.iconst 0, 1) := by decide +kernel
theorem dX12_init_875 : decode cX12_init 875 = .ok (.invokevirtual 305, 3) := by decide +kernel
theorem dX12_init_878 : decode cX12_init 878 = .ok (.aload_n 0, 1) := by decide +kernel
theorem dX12_init_879 : decode cX12_init 879 = .ok (.bipush 105, 2) := by decide +kernel
theorem dX12_init_881 : decode cX12_init 881 = .ok (.bipush 102, 2) := by decide +kernel
theorem dX12_init_883 : decode cX12_init 883 = .ok (.iconst 0, 1) := by decide +kernel
theorem dX12_init_884 : decode cX12_init 884 = .ok (.iconst 0, 1) := by decide +kernel
theorem dX12_init_885 : decode cX12_init 885 = .ok (.iconst 0, 1) := by decide +kernel
theorem dX12_init_886 : decode cX12_init 886 = .ok (.iconst 0, 1) := by decide +kernel
theorem dX12_init_887 : decode cX12_init 887 = .ok (.iconst 0, 1) := by decide +kernel
theorem dX12_init_888 : decode cX12_init 888 = .ok (.iconst 0, 1) := by decide +kernel
theorem dX12_init_889 : decode cX12_init 889 = .ok (.invokevirtual 305, 3) := by decide +kernel
theorem dX12_init_892 : decode cX12_init 892 = .ok (.aload_n 0, 1) := by decide +kernel
theorem dX12_init_893 : decode cX12_init 893 = .ok (.bipush 101, 2) := by decide +kernel
theorem dX12_init_895 : decode cX12_init 895 = .ok (.bipush 113, 2) := by decide +kernel
theorem dX12_init_897 : decode cX12_init 897 = .ok (.bipush 117, 2) := by decide +kernel
theorem dX12_init_899 : decode cX12_init 899 = .ok (.bipush 97, 2) := by decide +kernel
theorem dX12_init_901 : decode cX12_init 901 = .ok (.bipush 108, 2) := by decide +kernel
theorem dX12_init_903 : decode cX12_init 903 = .ok (.iconst 0, 1) := by decide +kernel
theorem dX12_init_904 : decode cX12_init 904 = .ok (.iconst 0, 1) := by decide +kernel
theorem dX12_init_905 : decode cX12_init 905 = .ok (.iconst 0, 1) := by decide +kernel
theorem dX12_init_906 : decode cX12_init 906 = .ok (.invokevirtual 305, 3) := by decide +kernel
theorem dX12_init_909 : decode cX12_init 909 = .ok (.aload_n 0, 1) := by decide +kernel
theorem dX12_init_910 : decode cX12_init 910 = .ok (.bipush 99, 2) := by decide +kernel
theorem dX12_init_912 : decode cX12_init 912 = .ok (.bipush 111, 2) := by decide +kernel
theorem dX12_init_914 : decode cX12_init 914 = .ok (.bipush 110, 2) := by decide +kernel
theorem dX12_init_916 : decode cX12_init 916 = .ok (.bipush 115, 2) := by decide +kernel
theorem dX12_init_918 : decode cX12_init 918 = .ok (.iconst 0, 1) := by decide +kernel
theorem dX12_init_919 : decode cX12_init 919 = .ok (.iconst 0, 1) := by decide +kernel
theorem dX12_init_920 : decode cX12_init 920 = .ok (.iconst 0, 1) := by decide +kernel
theorem dX12_init_921 : decode cX12_init 921 = .ok (.iconst 0, 1) := by decide +kernel
theorem dX12_init_922 : decode cX12_init 922 = .ok (.invokevirtual 305, 3) := by decide +kernel
theorem dX12_init_925 : decode cX12_init 925 = .ok (.aload_n 0, 1) := by decide +kernel
theorem dX12_init_926 : decode cX12_init 926 = .ok (.bipush 105, 2) := by decide +kernel
theorem dX12_init_928 : decode cX12_init 928 = .ok (.bipush 109, 2) := by decide +kernel
theorem dX12_init_930 : decode cX12_init 930 = .ok (.bipush 112, 2) := by decide +kernel
theorem dX12_init_932 : decode cX12_init 932 = .ok (.bipush 108, 2) := by decide +kernel
theorem dX12_init_934 : decode cX12_init 934 = .ok (.bipush 105, 2) := by decide +kernel
theorem dX12_init_936 : decode cX12_init 936 = .ok (.bipush 101, 2) := by decide +kernel
theorem dX12_init_938 : decode cX12_init 938 = .ok (.bipush 115, 2) := by decide +kernel
theorem dX12_init_940 : decode cX12_init 940 = .ok (.iconst 0, 1) := by decide +kernel
theorem dX12_init_941 : decode cX12_init 941 = .ok (.invokevirtual 305, 3) := by decide +kernel
theorem dX12_init_944 : decode cX12_init 944 = .ok (.aload_n 0, 1) := by decide +kernel
theorem dX12_init_945 : decode cX12_init 945 = .ok (.bipush 43, 2) := by decide +kernel
theorem dX12_init_947 : decode cX12_init 947 = .ok (.iconst 0, 1) := by decide +kernel
theorem dX12_init_948 : decode cX12_init 948 = .ok (.iconst 0, 1) := by decide +kernel
theorem dX12_init_949 : decode cX12_init 949 = .ok (.iconst 0, 1) := by decide +kernel
theorem dX12_init_950 : decode cX12_init 950 = .ok (.iconst 0, 1) := by decide +kernel
theorem dX12_init_951 : decode cX12_init 951 = .ok (.iconst 0, 1) := by decide +kernel
theorem dX12_init_952 : decode cX12_init 952 = .ok (.iconst 0, 1) := by decide +kernel
theorem dX12_init_953 : decode cX12_init 953 = .ok (.iconst 0, 1) := by decide +kernel
theorem dX12_init_954 : decode cX12_init 954 = .ok (.invokevirtual 305, 3) := by decide +kernel
theorem dX12_init_957 : decode cX12_init 957 = .ok (.aload_n 0, 1) := by decide +kernel
theorem dX12_init_958 : decode cX12_init 958 = .ok (.bipush 45, 2) := by decide +kernel
theorem dX12_init_960 : decode cX12_init 960 = .ok (.iconst 0, 1) := by decide +kernel
theorem dX12_init_961 : decode cX12_init 961 = .ok (.iconst 0, 1) := by decide +kernel
theorem dX12_init_962 : decode cX12_init 962 = .ok (.iconst 0, 1) := by decide +kernel
theorem dX12_init_963 : decode cX12_init 963 = .ok (.iconst 0, 1) := by decide +kernel
theorem dX12_init_964 : decode cX12_init 964 = .ok (.iconst 0, 1) := by decide +kernel
theorem dX12_init_965 : decode cX12_init 965 = .ok (.iconst 0, 1) := by decide +kernel
theorem dX12_init_966 : decode cX12_init 966 = .ok (.iconst 0, 1) := by decide +kernel
theorem dX12_init_967 : decode cX12_init 967 = .ok (.invokevirtual 305, 3) := by decide +kernel
theorem dX12_init_970 : decode cX12_init 970 = .ok (.aload_n 0, 1) := by decide +kernel
theorem dX12_init_971 : decode cX12_init 971 = .ok (.bipush 60, 2) := by decide +kernel
theorem dX12_init_973 : decode cX12_init 973 = .ok (.iconst 0, 1) := by decide +kernel
theorem dX12_init_974 : decode cX12_init 974 = .ok (.iconst 0, 1) := by decide +kernel
theorem dX12_init_975 : decode cX12_init 975 = .ok (.iconst 0, 1) := by decide +kernel
theorem dX12_init_976 : decode cX12_init 976 = .ok (.iconst 0, 1) := by decide +kernel
theorem dX12_init_977 : decode cX12_init 977 = .ok (.iconst 0, 1) := by decide +kernel
theorem dX12_init_978 : decode cX12_init 978 = .ok (.iconst 0, 1) := by decide +kernel
theorem dX12_init_979 : decode cX12_init 979 = .ok (.iconst 0, 1) := by decide +kernel
theorem dX12_init_980 : decode cX12_init 980 = .ok (.invokevirtual 305, 3) := by decide +kernel
theorem dX12_init_983 : decode cX12_init 983 = .ok (.aload_n 0, 1) := by decide +kernel
theorem dX12_init_984 : decode cX12_init 984 = .ok (.bipush 99, 2) := by decide +kernel
theorem dX12_init_986 : decode cX12_init 986 = .ok (.bipush 111, 2) := by decide +kernel
theorem dX12_init_988 : decode cX12_init 988 = .ok (.bipush 110, 2) := by decide +kernel
theorem dX12_init_990 : decode cX12_init 990 = .ok (.bipush 115, 2) := by decide +kernel
theorem dX12_init_992 : decode cX12_init 992 = .ok (.bipush 112, 2) := by decide +kernel
theorem dX12_init_994 : decode cX12_init 994 = .ok (.iconst 0, 1) := by decide +kernel
theorem dX12_init_995 : decode cX12_init 995 = .ok (.iconst 0, 1) := by decide +kernel
theorem dX12_init_996 : decode cX12_init 996 = .ok (.iconst 0, 1) := by decide +kernel
theorem dX12_init_997 : decode cX12_init 997 = .ok (.invokevirtual 305, 3) := by decide +kernel
theorem dX12_init_1000 : decode cX12_init 1000 = .ok (.aload_n 0, 1) := by decide +kernel
theorem dX12_init_1001 : decode cX12_init 1001 = .ok (.bipush 99, 2) := by decide +kernel
theorem dX12_init_1003 : decode cX12_init 1003 = .ok (.bipush 97, 2) := by decide +kernel
theorem dX12_init_1005 : decode cX12_init 1005 = .ok (.bipush 114, 2) := by decide +kernel
theorem dX12_init_1007 : decode cX12_init 1007 = .ok (.iconst 0, 1) := by decide +kernel
theorem dX12_init_1008 : decode cX12_init 1008 = .ok (.iconst 0, 1) := by decide +kernel
theorem dX12_init_1009 : decode cX12_init 1009 = .ok (.iconst 0, 1) := by decide +kernel
theorem dX12_init_1010 : decode cX12_init 1010 = .ok (.iconst 0, 1) := by decide +kernel
theorem dX12_init_1011 : decode cX12_init 1011 = .ok (.iconst 0, 1) := by decide +kernel
theorem dX12_init_1012 : decode cX12_init 1012 = .ok (.invokevirtual 305, 3) := by decide +kernel
theorem dX12_init_1015 : decode cX12_init 1015 = .ok (.aload_n 0, 1) := by decide +kernel
theorem dX12_init_1016 : decode cX12_init 1016 = .ok (.bipush 99, 2) := by decide +kernel
theorem dX12_init_1018 : decode cX12_init 1018 = .ok (.bipush 100, 2) := by decide +kernel
theorem dX12_init_1020 : decode cX12_init 1020 = .ok (.bipush 114, 2) := by decide +kernel
theorem dX12_init_1022 : decode cX12_init 1022 = .ok (.iconst 0, 1) := by decide +kernel
theorem dX12_init_1023 : decode cX12_init 1023 = .ok (.iconst 0, 1) := by decide +kernel
theorem dX12_init_1024 : decode cX12_init 1024 = .ok (.iconst 0, 1) := by decide +kernel
theorem dX12_init_1025 : decode cX12_init 1025 = .ok (.iconst 0, 1) := by decide +kernel
theorem dX12_init_1026 : decode cX12_init 1026 = .ok (.iconst 0, 1) := by decide +kernel
theorem dX12_init_1027 : decode cX12_init 1027 = .ok (.invokevirtual 305, 3) := by decide +kernel
theorem dX12_init_1030 : decode cX12_init 1030 = .ok (.aload_n 0, 1) := by decide +kernel
theorem dX12_init_1031 : decode cX12_init 1031 = .ok (.bipush 110, 2) := by decide +kernel
theorem dX12_init_1033 : decode cX12_init 1033 = .ok (.bipush 97, 2) := by decide +kernel
theorem dX12_init_1035 : decode cX12_init 1035 = .ok (.bipush 116, 2) := by decide +kernel
theorem dX12_init_1037 : decode cX12_init 1037 = .ok (.bipush 112, 2) := by decide +kernel
theorem dX12_init_1039 : decode cX12_init 1039 = .ok (.iconst 0, 1) := by decide +kernel
theorem dX12_init_1040 : decode cX12_init 1040 = .ok (.iconst 0, 1) := by decide +kernel
theorem dX12_init_1041 : decode cX12_init 1041 = .ok (.iconst 0, 1) := by decide +kernel
theorem dX12_init_1042 : decode cX12_init 1042 = .ok (.iconst 0, 1) := by decide +kernel
theorem dX12_init_1043 : decode cX12_init 1043 = .ok (.invokevirtual 305, 3) := by decide +kernel
theorem dX12_init_1046 : decode cX12_init 1046 = .ok (.aload_n 0, 1) := by decide +kernel
theorem dX12_init_1047 : decode cX12_init 1047 = .ok (.bipush 115, 2) := by decide +kernel
theorem dX12_init_1049 : decode cX12_init 1049 = .ok (.bipush 121, 2) := by decide +kernel
theorem dX12_init_1051 : decode cX12_init 1051 = .ok (.bipush 109, 2) := by decide +kernel
theorem dX12_init_1053 : decode cX12_init 1053 = .ok (.bipush 98, 2) := by decide +kernel
theorem dX12_init_1055 : decode cX12_init 1055 = .ok (.bipush 111, 2) := by decide +kernel
theorem dX12_init_1057 : decode cX12_init 1057 = .ok (.bipush 108, 2) := by decide +kernel
theorem dX12_init_1059 : decode cX12_init 1059 = .ok (.bipush 112, 2) := by decide +kernel
theorem dX12_init_1061 : decode cX12_init 1061 = .ok (.iconst 0, 1) := by decide +kernel
theorem dX12_init_1062 : decode cX12_init 1062 = .ok (.invokevirtual 305, 3) := by decide +kernel
theorem dX12_init_1065 : decode cX12_init 1065 = .ok (.aload_n 0, 1) := by decide +kernel
theorem dX12_init_1066 : decode cX12_init 1066 = .ok (.bipush 110, 2) := by decide +kernel
theorem dX12_init_1068 : decode cX12_init 1068 = .ok (.bipush 111, 2) := by decide +kernel
theorem dX12_init_1070 : decode cX12_init 1070 = .ok (.bipush 116, 2) := by decide +kernel
theorem dX12_init_1072 : decode cX12_init 1072 = .ok (.iconst 0, 1) := by decide +kernel
theorem dX12_init_1073 : decode cX12_init 1073 = .ok (.iconst 0, 1) := by decide +kernel
theorem dX12_init_1074 : decode cX12_init 1074 = .ok (.iconst 0, 1) := by decide +kernel
theorem dX12_init_1075 : decode cX12_init 1075 = .ok (.iconst 0, 1) := by decide +kernel
theorem dX12_init_1076 : decode cX12_init 1076 = .ok (.iconst 0, 1) := by decide +kernel
theorem dX12_init_1077 : decode cX12_init 1077 = .ok (.invokevirtual 305, 3) := by decide +kernel
theorem dX12_init_1080 : decode cX12_init 1080 = .ok (.aload_n 0, 1) := by decide +kernel
theorem dX12_init_1081 : decode cX12_init 1081 = .ok (.bipush 104, 2) := by decide +kernel
theorem dX12_init_1083 : decode cX12_init 1083 = .ok (.bipush 101, 2) := by decide +kernel
theorem dX12_init_1085 : decode cX12_init 1085 = .ok (.bipush 105, 2) := by decide +kernel
theorem dX12_init_1087 : decode cX12_init 1087 = .ok (.bipush 103, 2) := by decide +kernel
theorem dX12_init_1089 : decode cX12_init 1089 = .ok (.bipush 104, 2) := by decide +kernel
theorem dX12_init_1091 : decode cX12_init 1091 = .ok (.bipush 116, 2) := by decide +kernel
theorem dX12_init_1093 : decode cX12_init 1093 = .ok (.iconst 0, 1) := by decide +kernel
theorem dX12_init_1094 : decode cX12_init 1094 = .ok (.iconst 0, 1) := by decide +kernel
theorem dX12_init_1095 : decode cX12_init 1095 = .ok (.invokevirtual 305, 3) := by decide +kernel
theorem dX12_init_1098 : decode cX12_init 1098 = .ok (.aload_n 0, 1) := by decide +kernel
theorem dX12_init_1099 : decode cX12_init 1099 = .ok (.bipush 100, 2) := by decide +kernel
theorem dX12_init_1101 : decode cX12_init 1101 = .ok (.bipush 101, 2) := by decide +kernel
theorem dX12_init_1103 : decode cX12_init 1103 = .ok (.bipush 102, 2) := by decide +kernel
theorem dX12_init_1105 : decode cX12_init 1105 = .ok (.bipush 117, 2) := by decide +kernel
theorem dX12_init_1107 : decode cX12_init 1107 = .ok (.bipush 110, 2) := by decide +kernel
theorem dX12_init_1109 : decode cX12_init 1109 = .ok (.iconst 0, 1) := by decide +kernel
theorem dX12_init_1110 : decode cX12_init 1110 = .ok (.iconst 0, 1) := by decide +kernel
theorem dX12_init_1111 : decode cX12_init 1111 = .ok (.iconst 0, 1) := by decide +kernel
theorem dX12_init_1112 : decode cX12_init 1112 = .ok (.invokevirtual 305, 3) := by decide +kernel
theorem dX12_init_1115 : decode cX12_init 1115 = .ok (.aload_n 0, 1) := by decide +kernel
theorem dX12_init_1116 : decode cX12_init 1116 = .ok (.bipush 116, 2) := by decide +kernel
theorem dX12_init_1118 : decode cX12_init 1118 = .ok (.bipush 104, 2) := by decide +kernel
theorem dX12_init_1120 : decode cX12_init 1120 = .ok (.bipush 101, 2) := by decide +kernel
theorem dX12_init_1122 : decode cX12_init 1122 = .ok (.bipush 111, 2) := by decide +kernel
theorem dX12_init_1124 : decode cX12_init 1124 = .ok (.bipush 114, 2) := by decide +kernel
theorem dX12_init_1126 : decode cX12_init 1126 = .ok (.bipush 101, 2) := by decide +kernel
theorem dX12_init_1128 : decode cX12_init 1128 = .ok (.bipush 109, 2) := by decide +kernel
theorem dX12_init_1130 : decode cX12_init 1130 = .ok (.iconst 0, 1) := by decide +kernel
theorem dX12_init_1131 : decode cX12_init 1131 = .ok (.invokevirtual 305, 3) := by decide +kernel
theorem dX12_init_1134 : decode cX12_init 1134 = .ok (.aload_n 0, 1) := by decide +kernel
theorem dX12_init_1135 : decode cX12_init 1135 = .ok (.bipush 101, 2) := by decide +kernel
theorem dX12_init_1137 : decode cX12_init 1137 = .ok (.bipush 118, 2) := by decide +kernel
theorem dX12_init_1139 : decode cX12_init 1139 = .ok (.bipush 97, 2) := by decide +kernel
theorem dX12_init_1141 : decode cX12_init 1141 = .ok (.bipush 108, 2) := by decide +kernel
theorem dX12_init_1143 : decode cX12_init 1143 = .ok (.iconst 0, 1) := by decide +kernel
theorem dX12_init_1144 : decode cX12_init 1144 = .ok (.iconst 0, 1) := by decide +kernel
theorem dX12_init_1145 : decode cX12_init 1145 = .ok (.iconst 0, 1) := by decide +kernel
theorem dX12_init_1146 : decode cX12_init 1146 = .ok (.iconst 0, 1) := by decide +kernel
theorem dX12_init_1147 : decode cX12_init 1147 = .ok (.invokevirtual 305, 3) := by decide +kernel
theorem dX12_init_1150 : decode cX12_init 1150 = .ok (.aload_n 0, 1) := by decide +kernel
theorem dX12_init_1151 : decode cX12_init 1151 = .ok (.bipush 115, 2) := by decide +kernel
theorem dX12_init_1153 : decode cX12_init 1153 = .ok (.bipush 105, 2) := by decide +kernel
theorem dX12_init_1155 : decode cX12_init 1155 = .ok (.bipush 109, 2) := by decide +kernel
theorem dX12_init_1157 : decode cX12_init 1157 = .ok (.bipush 112, 2) := by decide +kernel
theorem dX12_init_1159 : decode cX12_init 1159 = .ok (.bipush 108, 2) := by decide +kernel
theorem dX12_init_1161 : decode cX12_init 1161 = .ok (.bipush 105, 2) := by decide +kernel
theorem dX12_init_1163 : decode cX12_init 1163 = .ok (.bipush 102, 2) := by decide +kernel
theorem dX12_init_1165 : decode cX12_init 1165 = .ok (.bipush 121, 2) := by decide +kernel
theorem dX12_init_1167 : decode cX12_init 1167 = .ok (.invokevirtual 305, 3) := by decide +kernel
theorem dX12_init_1170 : decode cX12_init 1170 = .ok (.aload_n 0, 1) := by decide +kernel
theorem dX12_init_1171 : decode cX12_init 1171 = .ok (.bipush 112, 2) := by decide +kernel
theorem dX12_init_1173 : decode cX12_init 1173 = .ok (.bipush 114, 2) := by decide +kernel
theorem dX12_init_1175 : decode cX12_init 1175 = .ok (.bipush 111, 2) := by decide +kernel
theorem dX12_init_1177 : decode cX12_init 1177 = .ok (.bipush 118, 2) := by decide +kernel
theorem dX12_init_1179 : decode cX12_init 1179 = .ok (.bipush 101, 2) := by decide +kernel
theorem dX12_init_1181 : decode cX12_init 1181 = .ok (.iconst 0, 1) := by decide +kernel
theorem dX12_init_1182 : decode cX12_init 1182 = .ok (.iconst 0, 1) := by decide +kernel
theorem dX12_init_1183 : decode cX12_init 1183 = .ok (.iconst 0, 1) := by decide +kernel
theorem dX12_init_1184 : decode cX12_init 1184 = .ok (.invokevirtual 305, 3) := by decide +kernel
theorem dX12_init_1187 : decode cX12_init 1187 = .ok (.aload_n 0, 1) := by decide +kernel
theorem dX12_init_1188 : decode cX12_init 1188 = .ok (.bipush 100, 2) := by decide +kernel
theorem dX12_init_1190 : decode cX12_init 1190 = .ok (.bipush 101, 2) := by decide +kernel
theorem dX12_init_1192 : decode cX12_init 1192 = .ok (.bipush 102, 2) := by decide +kernel
theorem dX12_init_1194 : decode cX12_init 1194 = .ok (.bipush 116, 2) := by decide +kernel
theorem dX12_init_1196 : decode cX12_init 1196 = .ok (.bipush 104, 2) := by decide +kernel
theorem dX12_init_1198 : decode cX12_init 1198 = .ok (.bipush 109, 2) := by decide +kernel
theorem dX12_init_1200 : decode cX12_init 1200 = .ok (.iconst 0, 1) := by decide +kernel
theorem dX12_init_1201 : decode cX12_init 1201 = .ok (.iconst 0, 1) := by decide +kernel
theorem dX12_init_1202 : decode cX12_init 1202 = .ok (.invokevirtual 305, 3) := by decide +kernel
theorem dX12_init_1205 : decode cX12_init 1205 = .ok (.aload_n 0, 1) := by decide +kernel
theorem dX12_init_1206 : decode cX12_init 1206 = .ok (.bipush 111, 2) := by decide +kernel
theorem dX12_init_1208 : decode cX12_init 1208 = .ok (.bipush 110, 2) := by decide +kernel
theorem dX12_init_1210 : decode cX12_init 1210 = .ok (.iconst 0, 1) := by decide +kernel
theorem dX12_init_1211 : decode cX12_init 1211 = .ok (.iconst 0, 1) := by decide +kernel
theorem dX12_init_1212 : decode cX12_init 1212 = .ok (.iconst 0, 1) := by decide +kernel
theorem dX12_init_1213 : decode cX12_init 1213 = .ok (.iconst 0, 1) := by decide +kernel
theorem dX12_init_1214 : decode cX12_init 1214 = .ok (.iconst 0, 1) := by decide +kernel
theorem dX12_init_1215 : decode cX12_init 1215 = .ok (.iconst 0, 1) := by decide +kernel
theorem dX12_init_1216 : decode cX12_init 1216 = .ok (.invokevirtual 305, 3) := by decide +kernel
theorem dX12_init_1219 : decode cX12_init 1219 = .ok (.aload_n 0, 1) := by decide +kernel
theorem dX12_init_1220 : decode cX12_init 1220 = .ok (.bipush 111, 2) := by decide +kernel
theorem dX12_init_1222 : decode cX12_init 1222 = .ok (.bipush 102, 2) := by decide +kernel
theorem dX12_init_1224 : decode cX12_init 1224 = .ok (.bipush 102, 2) := by decide +kernel
theorem dX12_init_1226 : decode cX12_init 1226 = .ok (.iconst 0, 1) := by decide +kernel
theorem dX12_init_1227 : decode cX12_init 1227 = .ok (.iconst 0, 1) := by decide +kernel
theorem dX12_init_1228 : decode cX12_init 1228 = .ok (.iconst 0, 1) := by decide +kernel
theorem dX12_init_1229 : decode cX12_init 1229 = .ok (.iconst 0, 1) := by decide +kernel
theorem dX12_init_1230 : decode cX12_init 1230 = .ok (.iconst 0, 1) := by decide +kernel
theorem dX12_init_1231 : decode cX12_init 1231 = .ok (.invokevirtual 305, 3) := by decide +kernel
theorem dX12_init_1234 : decode cX12_init 1234 = .ok (.aload_n 0, 1) := by decide +kernel
theorem dX12_init_1235 : decode cX12_init 1235 = .ok (.bipush 117, 2) := by decide +kernel
theorem dX12_init_1237 : decode cX12_init 1237 = .ok (.bipush 110, 2) := by decide +kernel
theorem dX12_init_1239 : decode cX12_init 1239 = .ok (.bipush 100, 2) := by decide +kernel
theorem dX12_init_1241 : decode cX12_init 1241 = .ok (.bipush 111, 2) := by decide +kernel
theorem dX12_init_1243 : decode cX12_init 1243 = .ok (.iconst 0, 1) := by decide +kernel
theorem dX12_init_1244 : decode cX12_init 1244 = .ok (.iconst 0, 1) := by decide +kernel
theorem dX12_init_1245 : decode cX12_init 1245 = .ok (.iconst 0, 1) := by decide +kernel
theorem dX12_init_1246 : decode cX12_init 1246 = .ok (.iconst 0, 1) := by decide +kernel
theorem dX12_init_1247 : decode cX12_init 1247 = .ok (.invokevirtual 305, 3) := by decide +kernel
theorem dX12_init_1250 : decode cX12_init 1250 = .ok (.aload_n 0, 1) := by decide +kernel
theorem dX12_init_1251 : decode cX12_init 1251 = .ok (.bipush 99, 2) := by decide +kernel
theorem dX12_init_1253 : decode cX12_init 1253 = .ok (.bipush 104, 2) := by decide +kernel
theorem dX12_init_1255 : decode cX12_init 1255 = .ok (.bipush 101, 2) := by decide +kernel
theorem dX12_init_1257 : decode cX12_init 1257 = .ok (.bipush 99, 2) := by decide +kernel
theorem dX12_init_1259 : decode cX12_init 1259 = .ok (.bipush 107, 2) := by decide +kernel
theorem dX12_init_1261 : decode cX12_init 1261 = .ok (.iconst 0, 1) := by decide +kernel
theorem dX12_init_1262 : decode cX12_init 1262 = .ok (.iconst 0, 1) := by decide +kernel
theorem dX12_init_1263 : decode cX12_init 1263 = .ok (.iconst 0, 1) := by decide +kernel
theorem dX12_init_1264 : decode cX12_init 1264 = .ok (.invokevirtual 305, 3) := by decide +kernel
theorem dX12_init_1267 : decode cX12_init 1267 = .ok (.aload_n 0, 1) := by decide +kernel
theorem dX12_init_1268 : decode cX12_init 1268 = .ok (.bipush 105, 2) := by decide +kernel
theorem dX12_init_1270 : decode cX12_init 1270 = .ok (.bipush 110, 2) := by decide +kernel
theorem dX12_init_1272 : decode cX12_init 1272 = .ok (.bipush 100, 2) := by decide +kernel
theorem dX12_init_1274 : decode cX12_init 1274 = .ok (.bipush 117, 2) := by decide +kernel
theorem dX12_init_1276 : decode cX12_init 1276 = .ok (.bipush 99, 2) := by decide +kernel
theorem dX12_init_1278 : decode cX12_init 1278 = .ok (.bipush 116, 2) := by decide +kernel
theorem dX12_init_1280 : decode cX12_init 1280 = .ok (.iconst 0, 1) := by decide +kernel
theorem dX12_init_1281 : decode cX12_init 1281 = .ok (.iconst 0, 1) := by decide +kernel
theorem dX12_init_1282 : decode cX12_init 1282 = .ok (.invokevirtual 305, 3) := by decide +kernel
theorem dX12_init_1285 : decode cX12_init 1285 = .ok (.aload_n 0, 1) := by decide +kernel
theorem dX12_init_1286 : decode cX12_init 1286 = .ok (.bipush 117, 2) := by decide +kernel
theorem dX12_init_1288 : decode cX12_init 1288 = .ok (.bipush 115, 2) := by decide +kernel
theorem dX12_init_1290 : decode cX12_init 1290 = .ok (.bipush 101, 2) := by decide +kernel
theorem dX12_init_1292 : decode cX12_init 1292 = .ok (.iconst 0, 1) := by decide +kernel
theorem dX12_init_1293 : decode cX12_init 1293 = .ok (.iconst 0, 1) := by decide +kernel
theorem dX12_init_1294 : decode cX12_init 1294 = .ok (.iconst 0, 1) := by decide +kernel
theorem dX12_init_1295 : decode cX12_init 1295 = .ok (.iconst 0, 1) := by decide +kernel
theorem dX12_init_1296 : decode cX12_init 1296 = .ok (.iconst 0, 1) := by decide +kernel
theorem dX12_init_1297 : decode cX12_init 1297 = .ok (.invokevirtual 305, 3) := by decide +kernel
theorem dX12_init_1300 : decode cX12_init 1300 = .ok (.aload_n 0, 1) := by decide +kernel
theorem dX12_init_1301 : decode cX12_init 1301 = .ok (.bipush 116, 2) := by decide +kernel
theorem dX12_init_1303 : decode cX12_init 1303 = .ok (.bipush 97, 2) := by decide +kernel
theorem dX12_init_1305 : decode cX12_init 1305 = .ok (.bipush 117, 2) := by decide +kernel
theorem dX12_init_1307 : decode cX12_init 1307 = .ok (.bipush 116, 2) := by decide +kernel
theorem dX12_init_1309 : decode cX12_init 1309 = .ok (.iconst 0, 1) := by decide +kernel
theorem dX12_init_1310 : decode cX12_init 1310 = .ok (.iconst 0, 1) := by decide +kernel
theorem dX12_init_1311 : decode cX12_init 1311 = .ok (.iconst 0, 1) := by decide +kernel
theorem dX12_init_1312 : decode cX12_init 1312 = .ok (.iconst 0, 1) := by decide +kernel
theorem dX12_init_1313 : decode cX12_init 1313 = .ok (.invokevirtual 305, 3) := by decide +kernel
theorem dX12_init_1316 : decode cX12_init 1316 = .ok (.aload_n 0, 1) := by decide +kernel
theorem dX12_init_1317 : decode cX12_init 1317 = .ok (.bipush 115, 2) := by decide +kernel
theorem dX12_init_1319 : decode cX12_init 1319 = .ok (.bipush 97, 2) := by decide +kernel
theorem dX12_init_1321 : decode cX12_init 1321 = .ok (.bipush 109, 2) := by decide +kernel
theorem dX12_init_1323 : decode cX12_init 1323 = .ok (.bipush 101, 2) := by decide +kernel
theorem dX12_init_1325 : decode cX12_init 1325 = .ok (.iconst 0, 1) := by decide +kernel
theorem dX12_init_1326 : decode cX12_init 1326 = .ok (.iconst 0, 1) := by decide +kernel
theorem dX12_init_1327 : decode cX12_init 1327 = .ok (.iconst 0, 1) := by decide +kernel
theorem dX12_init_1328 : decode cX12_init 1328 = .ok (.iconst 0, 1) := by decide +kernel
theorem dX12_init_1329 : decode cX12_init 1329 = .ok (.invokevirtual 305, 3) := by decide +kernel
theorem dX12_init_1332 : decode cX12_init 1332 = .ok (.aload_n 0, 1) := by decide +kernel
theorem dX12_init_1333 : decode cX12_init 1333 = .ok (.bipush 118, 2) := by decide +kernel
theorem dX12_init_1335 : decode cX12_init 1335 = .ok (.bipush 97, 2) := by decide +kernel
theorem dX12_init_1337 : decode cX12_init 1337 = .ok (.bipush 108, 2) := by decide +kernel
theorem dX12_init_1339 : decode cX12_init 1339 = .ok (.bipush 117, 2) := by decide +kernel
theorem dX12_init_1341 : decode cX12_init 1341 = .ok (.bipush 101, 2) := by decide +kernel
theorem dX12_init_1343 : decode cX12_init 1343 = .ok (.iconst 0, 1) := by decide +kernel
theorem dX12_init_1344 : decode cX12_init 1344 = .ok (.iconst 0, 1) := by decide +kernel
theorem dX12_init_1345 : decode cX12_init 1345 = .ok (.iconst 0, 1) := by decide +kernel
theorem dX12_init_1346 : decode cX12_init 1346 = .ok (.invokevirtual 305, 3) := by decide +kernel
theorem dX12_init_1349 : decode cX12_init 1349 = .ok (.aload_n 0, 1) := by decide +kernel
theorem dX12_init_1350 : decode cX12_init 1350 = .ok (.bipush 102, 2) := by decide +kernel
theorem dX12_init_1352 : decode cX12_init 1352 = .ok (.bipush 105, 2) := by decide +kernel
theorem dX12_init_1354 : decode cX12_init 1354 = .ok (.bipush 114, 2) := by decide +kernel
theorem dX12_init_1356 : decode cX12_init 1356 = .ok (.bipush 115, 2) := by decide +kernel
theorem dX12_init_1358 : decode cX12_init 1358 = .ok (.bipush 116, 2) := by decide +kernel
theorem dX12_init_1360 : decode cX12_init 1360 = .ok (.iconst 0, 1) := by decide +kernel
theorem dX12_init_1361 : decode cX12_init 1361 = .ok (.iconst 0, 1) := by decide +kernel
theorem dX12_init_1362 : decode cX12_init 1362 = .ok (.iconst 0, 1) := by decide +kernel
theorem dX12_init_1363 : decode cX12_init 1363 = .ok (.invokevirtual 305, 3) := by decide +kernel
theorem dX12_init_1366 : decode cX12_init 1366 = .ok (.aload_n 0, 1) := by decide +kernel
theorem dX12_init_1367 : decode cX12_init 1367 = .ok (.bipush 115, 2) := by decide +kernel
theorem dX12_init_1369 : decode cX12_init 1369 = .ok (.bipush 101, 2) := by decide +kernel
theorem dX12_init_1371 : decode cX12_init 1371 = .ok (.bipush 99, 2) := by decide +kernel
theorem dX12_init_1373 : decode cX12_init 1373 = .ok (.bipush 111, 2) := by decide +kernel
theorem dX12_init_1375 : decode cX12_init 1375 = .ok (.bipush 110, 2) := by decide +kernel
theorem dX12_init_1377 : decode cX12_init 1377 = .ok (.bipush 100, 2) := by decide +kernel
theorem dX12_init_1379 : decode cX12_init 1379 = .ok (.iconst 0, 1) := by decide +kernel
theorem dX12_init_1380 : decode cX12_init 1380 = .ok (.iconst 0, 1) := by decide +kernel
theorem dX12_init_1381 : decode cX12_init 1381 = .ok (.invokevirtual 305, 3) := by decide +kernel
theorem dX12_init_1384 : decode cX12_init 1384 = .ok (.aload_n 0, 1) := by decide +kernel
theorem dX12_init_1385 : decode cX12_init 1385 = .ok (.bipush 112, 2) := by decide +kernel
theorem dX12_init_1387 : decode cX12_init 1387 = .ok (.bipush 97, 2) := by decide +kernel
theorem dX12_init_1389 : decode cX12_init 1389 = .ok (.bipush 105, 2) := by decide +kernel
theorem dX12_init_1391 : decode cX12_init 1391 = .ok (.bipush 114, 2) := by decide +kernel
theorem dX12_init_1393 : decode cX12_init 1393 = .ok (.iconst 0, 1) := by decide +kernel
theorem dX12_init_1394 : decode cX12_init 1394 = .ok (.iconst 0, 1) := by decide +kernel
theorem dX12_init_1395 : decode cX12_init 1395 = .ok (.iconst 0, 1) := by decide +kernel
theorem dX12_init_1396 : decode cX12_init 1396 = .ok (.iconst 0, 1) := by decide +kernel
theorem dX12_init_1397 : decode cX12_init 1397 = .ok (.invokevirtual 305, 3) := by decide +kernel
theorem dX12_init_1400 : decode cX12_init 1400 = .ok (.aload_n 0, 1) := by decide +kernel
theorem dX12_init_1401 : decode cX12_init 1401 = .ok (.bipush 121, 2) := by decide +kernel
theorem dX12_init_1403 : decode cX12_init 1403 = .ok (.bipush 101, 2) := by decide +kernel
theorem dX12_init_1405 : decode cX12_init 1405 = .ok (.bipush 115, 2) := by decide +kernel
theorem dX12_init_1407 : decode cX12_init 1407 = .ok (.iconst 0, 1) := by decide +kernel
theorem dX12_init_1408 : decode cX12_init 1408 = .ok (.iconst 0, 1) := by decide +kernel
theorem dX12_init_1409 : decode cX12_init 1409 = .ok (.iconst 0, 1) := by decide +kernel
theorem dX12_init_1410 : decode cX12_init 1410 = .ok (.iconst 0, 1) := by decide +kernel
theorem dX12_init_1411 : decode cX12_init 1411 = .ok (.iconst 0, 1) := by decide +kernel
theorem dX12_init_1412 : decode cX12_init 1412 = .ok (.invokevirtual 305, 3) := by decide +kernel
theorem dX12_init_1415 : decode cX12_init 1415 = .ok (.aload_n 0, 1) := by decide +kernel
theorem dX12_init_1416 : decode cX12_init 1416 = .ok (.bipush 110, 2) := by decide +kernel
theorem dX12_init_1418 : decode cX12_init 1418 = .ok (.bipush 111, 2) := by decide +kernel
theorem dX12_init_1420 : decode cX12_init 1420 = .ok (.iconst 0, 1) := by decide +kernel
theorem dX12_init_1421 : decode cX12_init 1421 = .ok (.iconst 0, 1) := by decide +kernel
theorem dX12_init_1422 : decode cX12_init 1422 = .ok (.iconst 0, 1) := by decide +kernel
theorem dX12_init_1423 : decode cX12_init 1423 = .ok (.iconst 0, 1) := by decide +kernel
theorem dX12_init_1424 : decode cX12_init 1424 = .ok (.iconst 0, 1) := by decide +kernel
theorem dX12_init_1425 : decode cX12_init 1425 = .ok (.iconst 0, 1) := by decide +kernel
theorem dX12_init_1426 : decode cX12_init 1426 = .ok (.invokevirtual 305, 3) := by decide +kernel
theorem dX12_init_1429 : decode cX12_init 1429 = .ok (.aload_n 0, 1) := by decide +kernel
theorem dX12_init_1430 : decode cX12_init 1430 = .ok (.bipush 100, 2) := by decide +kernel
theorem dX12_init_1432 : decode cX12_init 1432 = .ok (.bipush 101, 2) := by decide +kernel
theorem dX12_init_1434 : decode cX12_init 1434 = .ok (.bipush 102, 2) := by decide +kernel
theorem dX12_init_1436 : decode cX12_init 1436 = .ok (.iconst 0, 1) := by decide +kernel
theorem dX12_init_1437 : decode cX12_init 1437 = .ok (.iconst 0, 1) := by decide +kernel
theorem dX12_init_1438 : decode cX12_init 1438 = .ok (.iconst 0, 1) := by decide +kernel
theorem dX12_init_1439 : decode cX12_init 1439 = .ok (.iconst 0, 1) := by decide +kernel
theorem dX12_init_1440 : decode cX12_init 1440 = .ok (.iconst 0, 1) := by decide +kernel
theorem dX12_init_1441 : decode cX12_init 1441 = .ok (.invokevirtual 305, 3) := by decide +kernel
theorem dX12_init_1444 : decode cX12_init 1444 = .ok (.aload_n 0, 1) := by decide +kernel
theorem dX12_init_1445 : decode cX12_init 1445 = .ok (.bipush 116, 2) := by decide +kernel
theorem dX12_init_1447 : decode cX12_init 1447 = .ok (.bipush 104, 2) := by decide +kernel
theorem dX12_init_1449 : decode cX12_init 1449 = .ok (.bipush 109, 2) := by decide +kernel
theorem dX12_init_1451 : decode cX12_init 1451 = .ok (.iconst 0, 1) := by decide +kernel
theorem dX12_init_1452 : decode cX12_init 1452 = .ok (.iconst 0, 1) := by decide +kernel
theorem dX12_init_1453 : decode cX12_init 1453 = .ok (.iconst 0, 1) := by decide +kernel
theorem dX12_init_1454 : decode cX12_init 1454 = .ok (.iconst 0, 1) := by decide +kernel
theorem dX12_init_1455 : decode cX12_init 1455 = .ok (.iconst 0, 1) := by decide +kernel
theorem dX12_init_1456 : decode cX12_init 1456 = .ok (.invokevirtual 305, 3) := by decide +kernel
theorem dX12_init_1459 : decode cX12_init 1459 = .ok (.aload_n 0, 1) := by decide +kernel
theorem dX12_init_1460 : decode cX12_init 1460 = .ok (.bipush 119, 2) := by decide +kernel
theorem dX12_init_1462 : decode cX12_init 1462 = .ok (.bipush 101, 2) := by decide +kernel
theorem dX12_init_1464 : decode cX12_init 1464 = .ok (.bipush 97, 2) := by decide +kernel
theorem dX12_init_1466 : decode cX12_init 1466 = .ok (.bipush 107, 2) := by decide +kernel
theorem dX12_init_1468 : decode cX12_init 1468 = .ok (.iconst 0, 1) := by decide +kernel
theorem dX12_init_1469 : decode cX12_init 1469 = .ok (.iconst 0, 1) := by decide +kernel
theorem dX12_init_1470 : decode cX12_init 1470 = .ok (.iconst 0, 1) := by decide +kernel
theorem dX12_init_1471 : decode cX12_init 1471 = .ok (.iconst 0, 1) := by decide +kernel
theorem dX12_init_1472 : decode cX12_init 1472 = .ok (.invokevirtual 305, 3) := by decide +kernel
theorem dX12_init_1475 : decode cX12_init 1475 = .ok (.aload_n 0, 1) := by decide +kernel
theorem dX12_init_1476 : decode cX12_init 1476 = .ok (.bipush 99, 2) := by decide +kernel
theorem dX12_init_1478 : decode cX12_init 1478 = .ok (.bipush 117, 2) := by decide +kernel
theorem dX12_init_1480 : decode cX12_init 1480 = .ok (.bipush 116, 2) := by decide +kernel
theorem dX12_init_1482 : decode cX12_init 1482 = .ok (.iconst 0, 1) := by decide +kernel
theorem dX12_init_1483 : decode cX12_init 1483 = .ok (.iconst 0, 1) := by decide +kernel
theorem dX12_init_1484 : decode cX12_init 1484 = .ok (.iconst 0, 1) := by decide +kernel
theorem dX12_init_1485 : decode cX12_init 1485 = .ok (.iconst 0, 1) := by decide +kernel
theorem dX12_init_1486 : decode cX12_init 1486 = .ok (.iconst 0, 1) := by decide +kernel
theorem dX12_init_1487 : decode cX12_init 1487 = .ok (.invokevirtual 305, 3) := by decide +kernel
theorem dX12_init_1490 : decode cX12_init 1490 = .ok (.aload_n 0, 1) := by decide +kernel
theorem dX12_init_1491 : decode cX12_init 1491 = .ok (.bipush 105, 2) := by decide +kernel
theorem dX12_init_1493 : decode cX12_init 1493 = .ok (.bipush 110, 2) := by decide +kernel
theorem dX12_init_1495 : decode cX12_init 1495 = .ok (.bipush 115, 2) := by decide +kernel
theorem dX12_init_1497 : decode cX12_init 1497 = .ok (.bipush 116, 2) := by decide +kernel
theorem dX12_init_1499 : decode cX12_init 1499 = .ok (.iconst 0, 1) := by decide +kernel
theorem dX12_init_1500 : decode cX12_init 1500 = .ok (.iconst 0, 1) := by decide +kernel
theorem dX12_init_1501 : decode cX12_init 1501 = .ok (.iconst 0, 1) := by decide +kernel
theorem dX12_init_1502 : decode cX12_init 1502 = .ok (.iconst 0, 1) := by decide +kernel
theorem dX12_init_1503 : decode cX12_init 1503 = .ok (.invokevirtual 305, 3) := by decide +kernel
theorem dX12_init_1506 : decode cX12_init 1506 = .ok (.aload_n 0, 1) := by decide +kernel
theorem dX12_init_1507 : decode cX12_init 1507 = .ok (.bipush 115, 2) := by decide +kernel
theorem dX12_init_1509 : decode cX12_init 1509 = .ok (.bipush 119, 2) := by decide +kernel
theorem dX12_init_1511 : decode cX12_init 1511 = .ok (.bipush 97, 2) := by decide +kernel
theorem dX12_init_1513 : decode cX12_init 1513 = .ok (.bipush 112, 2) := by decide +kernel
theorem dX12_init_1515 : decode cX12_init 1515 = .ok (.iconst 0, 1) := by decide +kernel
theorem dX12_init_1516 : decode cX12_init 1516 = .ok (.iconst 0, 1) := by decide +kernel
theorem dX12_init_1517 : decode cX12_init 1517 = .ok (.iconst 0, 1) := by decide +kernel
theorem dX12_init_1518 : decode cX12_init 1518 = .ok (.iconst 0, 1) := by decide +kernel
theorem dX12_init_1519 : decode cX12_init 1519 = .ok (.invokevirtual 305, 3) := by decide +kernel
theorem dX12_init_1522 : decode cX12_init 1522 = .ok (.aload_n 0, 1) := by decide +kernel
theorem dX12_init_1523 : decode cX12_init 1523 = .ok (.bipush 112, 2) := by decide +kernel
theorem dX12_init_1525 : decode cX12_init 1525 = .ok (.bipush 117, 2) := by decide +kernel
theorem dX12_init_1527 : decode cX12_init 1527 = .ok (.bipush 116, 2) := by decide +kernel
theorem dX12_init_1529 : decode cX12_init 1529 = .ok (.iconst 0, 1) := by decide +kernel
theorem dX12_init_1530 : decode cX12_init 1530 = .ok (.iconst 0, 1) := by decide +kernel
theorem dX12_init_1531 : decode cX12_init 1531 = .ok (.iconst 0, 1) := by decide +kernel
theorem dX12_init_1532 : decode cX12_init 1532 = .ok (.iconst 0, 1) := by decide +kernel
theorem dX12_init_1533 : decode cX12_init 1533 = .ok (.iconst 0, 1) := by decide +kernel
theorem dX12_init_1534 : decode cX12_init 1534 = .ok (.invokevirtual 305, 3) := by decide +kernel
theorem dX12_init_1537 : decode cX12_init 1537 = .ok (.return_, 1) := by decide +kernel
set_option maxRecDepth 20000 in
theorem ggX12_said_X12_spell : GoodIn wsX12_said wsX12_spell := goodIn_r _ [6, 7, 1, 34, 35, 36, 37, 38, 39, 40, 41, 42, 43, 44, 45, 46, 47, 48, 49, 50, 51, 52, 53, 54, 55, 56, 57, 58, 59, 60, 61, 62, 63, 64, 65, 66, 67, 68, 69, 70, 71, 72, 73, 74, 75, 76, 77, 78, 79, 80, 81, 82, 83, 84, 85, 86, 87, 88, 89, 90, 91, 92, 93, 94, 95, 96, 97, 98, 99, 100, 101, 102, 103, 104, 105, 106, 107, 108, 109, 110, 111, 112, 113, 114, 115, 116, 117, 118, 119, 120, 121, 122, 123, 124, 125, 126, 127, 128, 129, 130, 131, 132, 133, 134, 135, 136, 137, 138, 139, 140, 141, 142, 143, 144, 145, 146, 147, 148, 149, 150, 151, 152, 153, 154, 155, 156, 157, 158, 159, 160, 161, 162, 163, 164, 165, 166, 167, 168, 169, 170, 171, 172, 173, 174, 175, 176, 177, 178, 179, 180, 181, 182] (by decide +kernel) (by decide +kernel)
set_option maxRecDepth 20000 in
theorem gX12_said_X12_spell : GoodIn wsX12_said (wsV RX12 312 RX12 yX12_spell wsX12_spell) := goodIn_app (goodIn_of _ (by decide +kernel)) ggX12_said_X12_spell
set_option maxRecDepth 20000 in
theorem ggX12_said_X12_symbol : GoodIn wsX12_said wsX12_symbol := goodIn_r _ [11, 1, 12, 13, 14, 15, 16, 17, 18, 7, 19, 20, 21, 5, 22, 23, 24, 25, 26, 27, 28, 29, 30, 31, 32, 33, 34, 35, 36, 37, 38, 39, 40, 41, 42, 43, 44, 45, 46, 47, 48, 49, 50, 51, 52, 53, 54, 55, 56, 57, 58, 59, 60, 61, 62, 63, 64, 65, 66, 67, 68, 69, 70, 71, 72, 73, 74, 75, 76, 77, 78, 79, 80, 81, 82, 83, 84, 85, 86, 87, 88, 89, 90, 91, 92, 93, 94, 95, 96, 97, 98, 99, 100, 101, 102, 103, 104, 105, 106, 107, 108, 109, 110, 111, 112, 113, 114, 115, 116, 117, 118, 119, 120, 121, 122, 123, 124, 125, 126, 127, 128, 129, 130, 131, 132, 133, 134, 135, 136, 137, 138, 139, 140, 141, 142, 143, 144, 145, 146, 147, 148, 149, 150, 151, 152, 153, 154, 155, 156, 157, 158, 159, 160, 161, 162, 163, 164, 165, 166, 167, 168, 169, 170, 171, 172, 173, 174, 175, 176, 177, 178, 179, 180, 181, 182] (by decide +kernel) (by decide +kernel)
set_option maxRecDepth 20000 in
theorem gX12_said_X12_symbol : GoodIn wsX12_said (wsV RX12 316 RX12 yX12_symbol wsX12_symbol) := goodIn_app (goodIn_of _ (by decide +kernel)) ggX12_said_X12_symbol
theorem dX12_said_0 : decode cX12_said 0 = .ok (.aload_n 0, 1) := by decide +kernel
theorem dX12_said_1 : decode cX12_said 1 = .ok (.iconst 0, 1) := by decide +kernel
theorem dX12_said_2 : decode cX12_said 2 = .ok (.putfield 309, 3) := by decide +kernel
theorem dX12_said_5 : decode cX12_said 5 = .ok (.aload_n 0, 1) := by decide +kernel
theorem dX12_said_6 : decode cX12_said 6 = .ok (.iload_n 1, 1) := by decide +kernel
theorem dX12_said_7 : decode cX12_said 7 = .ok (.invokevirtual 312, 3) := by decide +kernel
theorem dX12_said_10 : decode cX12_said 10 = .ok (.aload_n 0, 1) := by decide +kernel
theorem dX12_said_11 : decode cX12_said 11 = .ok (.iload_n 2, 1) := by decide +kernel
theorem dX12_said_12 : decode cX12_said 12 = .ok (.invokevirtual 312, 3) := by decide +kernel
theorem dX12_said_15 : decode cX12_said 15 = .ok (.aload_n 0, 1) := by decide +kernel
theorem dX12_said_16 : decode cX12_said 16 = .ok (.iload_n 3, 1) := by decide +kernel
theorem dX12_said_17 : decode cX12_said 17 = .ok (.invokevirtual 312, 3) := by decide +kernel
theorem dX12_said_20 : decode cX12_said 20 = .ok (.aload_n 0, 1) := by decide +kernel
theorem dX12_said_21 : decode cX12_said 21 = .ok (.iload 4, 2) := by decide +kernel
theorem dX12_said_23 : decode cX12_said 23 = .ok (.invokevirtual 312, 3) := by decide +kernel
theorem dX12_said_26 : decode cX12_said 26 = .ok (.aload_n 0, 1) := by decide +kernel
theorem dX12_said_27 : decode cX12_said 27 = .ok (.iload 5, 2) := by decide +kernel
theorem dX12_said_29 : decode cX12_said 29 = .ok (.invokevirtual 312, 3) := by decide +kernel
theorem dX12_said_32 : decode cX12_said 32 = .ok (.aload_n 0, 1) := by decide +kernel
theorem dX12_said_33 : decode cX12_said 33 = .ok (.iload 6, 2) := by decide +kernel
theorem dX12_said_35 : decode cX12_said 35 = .ok (.invokevirtual 312, 3) := by decide +kernel
theorem dX12_said_38 : decode cX12_said 38 = .ok (.aload_n 0, 1) := by decide +kernel
theorem dX12_said_39 : decode cX12_said 39 = .ok (.iload 7, 2) := by decide +kernel
theorem dX12_said_41 : decode cX12_said 41 = .ok (.invokevirtual 312, 3) := by decide +kernel
theorem dX12_said_44 : decode cX12_said 44 = .ok (.aload_n 0, 1) := by decide +kernel
theorem dX12_said_45 : decode cX12_said 45 = .ok (.iload 8, 2) := by decide +kernel
theorem dX12_said_47 : decode cX12_said 47 = .ok (.invokevirtual 312, 3) := by decide +kernel
theorem dX12_said_50 : decode cX12_said 50 = .ok (.aload_n 0, 1) := by decide +kernel
theorem dX12_said_51 : decode cX12_said 51 = .ok (.invokevirtual 316, 3) := by decide +kernel
theorem dX12_said_54 : decode cX12_said 54 = .ok (.istore 9, 2) := by decide +kernel
theorem dX12_said_56 : decode cX12_said 56 = .ok (.return_, 1) := by decide +kernel
theorem dX12_spell_0 : decode cX12_spell 0 = .ok (.iload_n 1, 1) := by decide +kernel
theorem dX12_spell_1 : decode cX12_spell 1 = .ok (.ifCond .ne 4, 3) := by decide +kernel
theorem dX12_spell_4 : decode cX12_spell 4 = .ok (.return_, 1) := by decide +kernel
theorem dX12_spell_5 : decode cX12_spell 5 = .ok (.aload_n 0, 1) := by decide +kernel
theorem dX12_spell_6 : decode cX12_spell 6 = .ok (.getfield 50, 3) := by decide +kernel
theorem dX12_spell_9 : decode cX12_spell 9 = .ok (.aload_n 0, 1) := by decide +kernel
theorem dX12_spell_10 : decode cX12_spell 10 = .ok (.getfield 309, 3) := by decide +kernel
theorem dX12_spell_13 : decode cX12_spell 13 = .ok (.iload_n 1, 1) := by decide +kernel
theorem dX12_spell_14 : decode cX12_spell 14 = .ok (.iastore, 1) := by decide +kernel
theorem dX12_spell_15 : decode cX12_spell 15 = .ok (.aload_n 0, 1) := by decide +kernel
theorem dX12_spell_16 : decode cX12_spell 16 = .ok (.dup, 1) := by decide +kernel
theorem dX12_spell_17 : decode cX12_spell 17 = .ok (.getfield 309, 3) := by decide +kernel
theorem dX12_spell_20 : decode cX12_spell 20 = .ok (.iconst 1, 1) := by decide +kernel
theorem dX12_spell_21 : decode cX12_spell 21 = .ok (.iadd, 1) := by decide +kernel
theorem dX12_spell_22 : decode cX12_spell 22 = .ok (.putfield 309, 3) := by decide +kernel
theorem dX12_spell_25 : decode cX12_spell 25 = .ok (.return_, 1) := by decide +kernel
theorem dX12_slot_0 : decode cX12_slot 0 = .ok (.iload_n 0, 1) := by decide +kernel
theorem dX12_slot_1 : decode cX12_slot 1 = .ok (.ldc_w 320, 3) := by decide +kernel
theorem dX12_slot_4 : decode cX12_slot 4 = .ok (.imul, 1) := by decide +kernel
theorem dX12_slot_5 : decode cX12_slot 5 = .ok (.iload_n 1, 1) := by decide +kernel
theorem dX12_slot_6 : decode cX12_slot 6 = .ok (.sipush 30011, 3) := by decide +kernel
theorem dX12_slot_9 : decode cX12_slot 9 = .ok (.imul, 1) := by decide +kernel
theorem dX12_slot_10 : decode cX12_slot 10 = .ok (.iadd, 1) := by decide +kernel
theorem dX12_slot_11 : decode cX12_slot 11 = .ok (.bipush 7, 2) := by decide +kernel
theorem dX12_slot_13 : decode cX12_slot 13 = .ok (.iadd, 1) := by decide +kernel
theorem dX12_slot_14 : decode cX12_slot 14 = .ok (.iconst 2, 1) := by decide +kernel
theorem dX12_slot_15 : decode cX12_slot 15 = .ok (.iushr, 1) := by decide +kernel
theorem dX12_slot_16 : decode cX12_slot 16 = .ok (.sipush 8191, 3) := by decide +kernel
theorem dX12_slot_19 : decode cX12_slot 19 = .ok (.iand, 1) := by decide +kernel
theorem dX12_slot_20 : decode cX12_slot 20 = .ok (.ireturn, 1) := by decide +kernel
theorem dX12_spelled_0 : decode cX12_spelled 0 = .ok (.iconst 5, 1) := by decide +kernel
theorem dX12_spelled_1 : decode cX12_spelled 1 = .ok (.istore 4, 2) := by decide +kernel
theorem dX12_spelled_3 : decode cX12_spelled 3 = .ok (.iconst 0, 1) := by decide +kernel
theorem dX12_spelled_4 : decode cX12_spelled 4 = .ok (.istore 5, 2) := by decide +kernel
theorem dX12_spelled_6 : decode cX12_spelled 6 = .ok (.iload 5, 2) := by decide +kernel
theorem dX12_spelled_8 : decode cX12_spelled 8 = .ok (.iload_n 2, 1) := by decide +kernel
theorem dX12_spelled_9 : decode cX12_spelled 9 = .ok (.if_icmp .ge 41, 3) := by decide +kernel
theorem dX12_spelled_12 : decode cX12_spelled 12 = .ok (.sipush 131, 3) := by decide +kernel
theorem dX12_spelled_15 : decode cX12_spelled 15 = .ok (.iload 4, 2) := by decide +kernel
theorem dX12_spelled_17 : decode cX12_spelled 17 = .ok (.imul, 1) := by decide +kernel
theorem dX12_spelled_18 : decode cX12_spelled 18 = .ok (.iload_n 3, 1) := by decide +kernel
theorem dX12_spelled_19 : decode cX12_spelled 19 = .ok (.ifCond .eq 13, 3) := by decide +kernel
theorem dX12_spelled_22 : decode cX12_spelled 22 = .ok (.aload_n 0, 1) := by decide +kernel
theorem dX12_spelled_23 : decode cX12_spelled 23 = .ok (.getfield 50, 3) := by decide +kernel
theorem dX12_spelled_26 : decode cX12_spelled 26 = .ok (.iload 5, 2) := by decide +kernel
theorem dX12_spelled_28 : decode cX12_spelled 28 = .ok (.iaload, 1) := by decide +kernel
theorem dX12_spelled_29 : decode cX12_spelled 29 = .ok (.goto 12, 3) := by decide +kernel
theorem dX12_spelled_32 : decode cX12_spelled 32 = .ok (.aload_n 0, 1) := by decide +kernel
theorem dX12_spelled_33 : decode cX12_spelled 33 = .ok (.getfield 35, 3) := by decide +kernel
theorem dX12_spelled_36 : decode cX12_spelled 36 = .ok (.iload_n 1, 1) := by decide +kernel
theorem dX12_spelled_37 : decode cX12_spelled 37 = .ok (.iload 5, 2) := by decide +kernel
theorem dX12_spelled_39 : decode cX12_spelled 39 = .ok (.iadd, 1) := by decide +kernel
theorem dX12_spelled_40 : decode cX12_spelled 40 = .ok (.iaload, 1) := by decide +kernel
theorem dX12_spelled_41 : decode cX12_spelled 41 = .ok (.iadd, 1) := by decide +kernel
theorem dX12_spelled_42 : decode cX12_spelled 42 = .ok (.istore 4, 2) := by decide +kernel
theorem dX12_spelled_44 : decode cX12_spelled 44 = .ok (.iinc 5 1, 3) := by decide +kernel
theorem dX12_spelled_47 : decode cX12_spelled 47 = .ok (.goto (-41), 3) := by decide +kernel
theorem dX12_spelled_50 : decode cX12_spelled 50 = .ok (.iload 4, 2) := by decide +kernel
theorem dX12_spelled_52 : decode cX12_spelled 52 = .ok (.sipush 8191, 3) := by decide +kernel
theorem dX12_spelled_55 : decode cX12_spelled 55 = .ok (.iand, 1) := by decide +kernel
theorem dX12_spelled_56 : decode cX12_spelled 56 = .ok (.ireturn, 1) := by decide +kernel
theorem dX12_added_0 : decode cX12_added 0 = .ok (.aload_n 0, 1) := by decide +kernel
theorem dX12_added_1 : decode cX12_added 1 = .ok (.getfield 8, 3) := by decide +kernel
theorem dX12_added_4 : decode cX12_added 4 = .ok (.aload_n 0, 1) := by decide +kernel
theorem dX12_added_5 : decode cX12_added 5 = .ok (.getfield 332, 3) := by decide +kernel
theorem dX12_added_8 : decode cX12_added 8 = .ok (.iload_n 1, 1) := by decide +kernel
theorem dX12_added_9 : decode cX12_added 9 = .ok (.iastore, 1) := by decide +kernel
theorem dX12_added_10 : decode cX12_added 10 = .ok (.aload_n 0, 1) := by decide +kernel
theorem dX12_added_11 : decode cX12_added 11 = .ok (.getfield 14, 3) := by decide +kernel
theorem dX12_added_14 : decode cX12_added 14 = .ok (.aload_n 0, 1) := by decide +kernel
theorem dX12_added_15 : decode cX12_added 15 = .ok (.getfield 332, 3) := by decide +kernel
theorem dX12_added_18 : decode cX12_added 18 = .ok (.iload_n 2, 1) := by decide +kernel
theorem dX12_added_19 : decode cX12_added 19 = .ok (.iastore, 1) := by decide +kernel
theorem dX12_added_20 : decode cX12_added 20 = .ok (.aload_n 0, 1) := by decide +kernel
theorem dX12_added_21 : decode cX12_added 21 = .ok (.getfield 17, 3) := by decide +kernel
theorem dX12_added_24 : decode cX12_added 24 = .ok (.aload_n 0, 1) := by decide +kernel
theorem dX12_added_25 : decode cX12_added 25 = .ok (.getfield 332, 3) := by decide +kernel
theorem dX12_added_28 : decode cX12_added 28 = .ok (.aload_n 0, 1) := by decide +kernel
theorem dX12_added_29 : decode cX12_added 29 = .ok (.getfield 31, 3) := by decide +kernel
theorem dX12_added_32 : decode cX12_added 32 = .ok (.iload_n 3, 1) := by decide +kernel
theorem dX12_added_33 : decode cX12_added 33 = .ok (.iaload, 1) := by decide +kernel
theorem dX12_added_34 : decode cX12_added 34 = .ok (.iastore, 1) := by decide +kernel
theorem dX12_added_35 : decode cX12_added 35 = .ok (.aload_n 0, 1) := by decide +kernel
theorem dX12_added_36 : decode cX12_added 36 = .ok (.getfield 20, 3) := by decide +kernel
theorem dX12_added_39 : decode cX12_added 39 = .ok (.aload_n 0, 1) := by decide +kernel
theorem dX12_added_40 : decode cX12_added 40 = .ok (.getfield 332, 3) := by decide +kernel
theorem dX12_added_43 : decode cX12_added 43 = .ok (.iconst 0, 1) := by decide +kernel
theorem dX12_added_44 : decode cX12_added 44 = .ok (.iastore, 1) := by decide +kernel
theorem dX12_added_45 : decode cX12_added 45 = .ok (.aload_n 0, 1) := by decide +kernel
theorem dX12_added_46 : decode cX12_added 46 = .ok (.getfield 23, 3) := by decide +kernel
theorem dX12_added_49 : decode cX12_added 49 = .ok (.aload_n 0, 1) := by decide +kernel
theorem dX12_added_50 : decode cX12_added 50 = .ok (.getfield 332, 3) := by decide +kernel
theorem dX12_added_53 : decode cX12_added 53 = .ok (.iload_n 1, 1) := by decide +kernel
theorem dX12_added_54 : decode cX12_added 54 = .ok (.ifCond .ge 7, 3) := by decide +kernel
theorem dX12_added_57 : decode cX12_added 57 = .ok (.iconst 0, 1) := by decide +kernel
theorem dX12_added_58 : decode cX12_added 58 = .ok (.goto 35, 3) := by decide +kernel
theorem dX12_added_61 : decode cX12_added 61 = .ok (.iconst 1, 1) := by decide +kernel
theorem dX12_added_62 : decode cX12_added 62 = .ok (.aload_n 0, 1) := by decide +kernel
theorem dX12_added_63 : decode cX12_added 63 = .ok (.getfield 23, 3) := by decide +kernel
theorem dX12_added_66 : decode cX12_added 66 = .ok (.iload_n 1, 1) := by decide +kernel
theorem dX12_added_67 : decode cX12_added 67 = .ok (.iaload, 1) := by decide +kernel
theorem dX12_added_68 : decode cX12_added 68 = .ok (.aload_n 0, 1) := by decide +kernel
theorem dX12_added_69 : decode cX12_added 69 = .ok (.getfield 23, 3) := by decide +kernel
theorem dX12_added_72 : decode cX12_added 72 = .ok (.iload_n 2, 1) := by decide +kernel
theorem dX12_added_73 : decode cX12_added 73 = .ok (.iaload, 1) := by decide +kernel
theorem dX12_added_74 : decode cX12_added 74 = .ok (.if_icmp .le 12, 3) := by decide +kernel
theorem dX12_added_77 : decode cX12_added 77 = .ok (.aload_n 0, 1) := by decide +kernel
theorem dX12_added_78 : decode cX12_added 78 = .ok (.getfield 23, 3) := by decide +kernel
theorem dX12_added_81 : decode cX12_added 81 = .ok (.iload_n 1, 1) := by decide +kernel
theorem dX12_added_82 : decode cX12_added 82 = .ok (.iaload, 1) := by decide +kernel
theorem dX12_added_83 : decode cX12_added 83 = .ok (.goto 9, 3) := by decide +kernel
theorem dX12_added_86 : decode cX12_added 86 = .ok (.aload_n 0, 1) := by decide +kernel
theorem dX12_added_87 : decode cX12_added 87 = .ok (.getfield 23, 3) := by decide +kernel
theorem dX12_added_90 : decode cX12_added 90 = .ok (.iload_n 2, 1) := by decide +kernel
theorem dX12_added_91 : decode cX12_added 91 = .ok (.iaload, 1) := by decide +kernel
theorem dX12_added_92 : decode cX12_added 92 = .ok (.iadd, 1) := by decide +kernel
theorem dX12_added_93 : decode cX12_added 93 = .ok (.iastore, 1) := by decide +kernel
theorem dX12_added_94 : decode cX12_added 94 = .ok (.aload_n 0, 1) := by decide +kernel
theorem dX12_added_95 : decode cX12_added 95 = .ok (.getfield 31, 3) := by decide +kernel
theorem dX12_added_98 : decode cX12_added 98 = .ok (.iload_n 3, 1) := by decide +kernel
theorem dX12_added_99 : decode cX12_added 99 = .ok (.aload_n 0, 1) := by decide +kernel
theorem dX12_added_100 : decode cX12_added 100 = .ok (.getfield 332, 3) := by decide +kernel
theorem dX12_added_103 : decode cX12_added 103 = .ok (.iastore, 1) := by decide +kernel
theorem dX12_added_104 : decode cX12_added 104 = .ok (.aload_n 0, 1) := by decide +kernel
theorem dX12_added_105 : decode cX12_added 105 = .ok (.dup, 1) := by decide +kernel
theorem dX12_added_106 : decode cX12_added 106 = .ok (.getfield 332, 3) := by decide +kernel
theorem dX12_added_109 : decode cX12_added 109 = .ok (.iconst 1, 1) := by decide +kernel
theorem dX12_added_110 : decode cX12_added 110 = .ok (.iadd, 1) := by decide +kernel
theorem dX12_added_111 : decode cX12_added 111 = .ok (.putfield 332, 3) := by decide +kernel
theorem dX12_added_114 : decode cX12_added 114 = .ok (.aload_n 0, 1) := by decide +kernel
theorem dX12_added_115 : decode cX12_added 115 = .ok (.getfield 332, 3) := by decide +kernel
theorem dX12_added_118 : decode cX12_added 118 = .ok (.iconst 1, 1) := by decide +kernel
theorem dX12_added_119 : decode cX12_added 119 = .ok (.isub, 1) := by decide +kernel
theorem dX12_added_120 : decode cX12_added 120 = .ok (.ireturn, 1) := by decide +kernel
theorem dX12_isWord_0 : decode cX12_isWord 0 = .ok (.aload_n 0, 1) := by decide +kernel
theorem dX12_isWord_1 : decode cX12_isWord 1 = .ok (.getfield 38, 3) := by decide +kernel
theorem dX12_isWord_4 : decode cX12_isWord 4 = .ok (.iload_n 1, 1) := by decide +kernel
theorem dX12_isWord_5 : decode cX12_isWord 5 = .ok (.iaload, 1) := by decide +kernel
theorem dX12_isWord_6 : decode cX12_isWord 6 = .ok (.aload_n 0, 1) := by decide +kernel
theorem dX12_isWord_7 : decode cX12_isWord 7 = .ok (.getfield 309, 3) := by decide +kernel
theorem dX12_isWord_10 : decode cX12_isWord 10 = .ok (.if_icmp .ne 7, 3) := by decide +kernel
theorem dX12_isWord_13 : decode cX12_isWord 13 = .ok (.iconst 1, 1) := by decide +kernel
theorem dX12_isWord_14 : decode cX12_isWord 14 = .ok (.goto 4, 3) := by decide +kernel
theorem dX12_isWord_17 : decode cX12_isWord 17 = .ok (.iconst 0, 1) := by decide +kernel
theorem dX12_isWord_18 : decode cX12_isWord 18 = .ok (.istore_n 2, 1) := by decide +kernel
theorem dX12_isWord_19 : decode cX12_isWord 19 = .ok (.iconst 0, 1) := by decide +kernel
theorem dX12_isWord_20 : decode cX12_isWord 20 = .ok (.istore_n 3, 1) := by decide +kernel
theorem dX12_isWord_21 : decode cX12_isWord 21 = .ok (.iload_n 3, 1) := by decide +kernel
theorem dX12_isWord_22 : decode cX12_isWord 22 = .ok (.aload_n 0, 1) := by decide +kernel
theorem dX12_isWord_23 : decode cX12_isWord 23 = .ok (.getfield 309, 3) := by decide +kernel
theorem dX12_isWord_26 : decode cX12_isWord 26 = .ok (.if_icmp .ge 39, 3) := by decide +kernel
theorem dX12_isWord_29 : decode cX12_isWord 29 = .ok (.iload_n 2, 1) := by decide +kernel
theorem dX12_isWord_30 : decode cX12_isWord 30 = .ok (.ifCond .eq 35, 3) := by decide +kernel
theorem dX12_isWord_33 : decode cX12_isWord 33 = .ok (.aload_n 0, 1) := by decide +kernel
theorem dX12_isWord_34 : decode cX12_isWord 34 = .ok (.getfield 35, 3) := by decide +kernel
theorem dX12_isWord_37 : decode cX12_isWord 37 = .ok (.bipush 12, 2) := by decide +kernel
theorem dX12_isWord_39 : decode cX12_isWord 39 = .ok (.iload_n 1, 1) := by decide +kernel
theorem dX12_isWord_40 : decode cX12_isWord 40 = .ok (.imul, 1) := by decide +kernel
theorem dX12_isWord_41 : decode cX12_isWord 41 = .ok (.iload_n 3, 1) := by decide +kernel
theorem dX12_isWord_42 : decode cX12_isWord 42 = .ok (.iadd, 1) := by decide +kernel
theorem dX12_isWord_43 : decode cX12_isWord 43 = .ok (.iaload, 1) := by decide +kernel
theorem dX12_isWord_44 : decode cX12_isWord 44 = .ok (.aload_n 0, 1) := by decide +kernel
theorem dX12_isWord_45 : decode cX12_isWord 45 = .ok (.getfield 50, 3) := by decide +kernel
theorem dX12_isWord_48 : decode cX12_isWord 48 = .ok (.iload_n 3, 1) := by decide +kernel
theorem dX12_isWord_49 : decode cX12_isWord 49 = .ok (.iaload, 1) := by decide +kernel
theorem dX12_isWord_50 : decode cX12_isWord 50 = .ok (.if_icmp .ne 7, 3) := by decide +kernel
theorem dX12_isWord_53 : decode cX12_isWord 53 = .ok (.iconst 1, 1) := by decide +kernel
theorem dX12_isWord_54 : decode cX12_isWord 54 = .ok (.goto 4, 3) := by decide +kernel
theorem dX12_isWord_57 : decode cX12_isWord 57 = .ok (.iconst 0, 1) := by decide +kernel
theorem dX12_isWord_58 : decode cX12_isWord 58 = .ok (.istore_n 2, 1) := by decide +kernel
theorem dX12_isWord_59 : decode cX12_isWord 59 = .ok (.iinc 3 1, 3) := by decide +kernel
theorem dX12_isWord_62 : decode cX12_isWord 62 = .ok (.goto (-41), 3) := by decide +kernel
theorem dX12_isWord_65 : decode cX12_isWord 65 = .ok (.iload_n 2, 1) := by decide +kernel
theorem dX12_isWord_66 : decode cX12_isWord 66 = .ok (.ireturn, 1) := by decide +kernel
set_option maxRecDepth 20000 in
theorem ggX12_symbol_X12_spelled : GoodIn wsX12_symbol wsX12_spelled := goodIn_r _ [14, 9, 8, 26, 27, 28, 29, 30, 31, 32, 33, 34, 35, 36, 37, 38, 39, 40, 41, 42, 43, 44, 45, 46, 47, 48, 49, 50, 51, 52, 53, 54, 55, 56, 57, 58, 59, 60, 61, 62, 63, 64, 65, 66, 67, 68, 69, 70, 71, 72, 73, 74, 75, 76, 77, 78, 79, 80, 81, 82, 83, 84, 85, 86, 87, 88, 89, 90, 91, 92, 93, 94, 95, 96, 97, 98, 99, 100, 101, 102, 103, 104, 105, 106, 107, 108, 109, 110, 111, 112, 113, 114, 115, 116, 117, 118, 119, 120, 121, 122, 123, 124, 125, 126, 127, 128, 129, 130, 131, 132, 133, 134, 135, 136, 137, 138, 139, 140, 141, 142, 143, 144, 145, 146, 147, 148, 149, 150, 151, 152, 153, 154, 155, 156, 157, 158, 159, 160, 161, 162, 163, 164, 165, 166, 167, 168, 169, 170, 171, 172, 173, 174] (by decide +kernel) (by decide +kernel)
set_option maxRecDepth 20000 in
theorem gX12_symbol_X12_spelled : GoodIn wsX12_symbol (wsV RX12 328 RX12 yX12_spelled wsX12_spelled) := goodIn_app (goodIn_of _ (by decide +kernel)) ggX12_symbol_X12_spelled
set_option maxRecDepth 20000 in
theorem ggX12_symbol_X12_isWord : GoodIn wsX12_symbol wsX12_isWord := goodIn_r _ [18, 6, 1, 8, 9, 26, 27, 28, 29, 30, 31, 32, 33, 34, 35, 36, 37, 38, 39, 40, 41, 42, 43, 44, 45, 46, 47, 48, 49, 50, 51, 52, 53, 54, 55, 56, 57, 58, 59, 60, 61, 62, 63, 64, 65, 66, 67, 68, 69, 70, 71, 72, 73, 74, 75, 76, 77, 78, 79, 80, 81, 82, 83, 84, 85, 86, 87, 88, 89, 90, 91, 92, 93, 94, 95, 96, 97, 98, 99, 100, 101, 102, 103, 104, 105, 106, 107, 108, 109, 110, 111, 112, 113, 114, 115, 116, 117, 118, 119, 120, 121, 122, 123, 124, 125, 126, 127, 128, 129, 130, 131, 132, 133, 134, 135, 136, 137, 138, 139, 140, 141, 142, 143, 144, 145, 146, 147, 148, 149, 150, 151, 152, 153, 154, 155, 156, 157, 158, 159, 160, 161, 162, 163, 164, 165, 166, 167, 168, 169, 170, 171, 172, 173, 174] (by decide +kernel) (by decide +kernel)
set_option maxRecDepth 20000 in
theorem gX12_symbol_X12_isWord : GoodIn wsX12_symbol (wsV RX12 342 RX12 yX12_isWord wsX12_isWord) := goodIn_app (goodIn_of _ (by decide +kernel)) ggX12_symbol_X12_isWord
set_option maxRecDepth 20000 in
theorem ggX12_symbol_X12_added : GoodIn wsX12_symbol wsX12_added := goodIn_r _ [22, 3, 23, 4, 5, 2, 24, 25, 26, 27, 28, 29, 30, 31, 32, 33, 34, 35, 36, 37, 38, 39, 40, 41, 42, 43, 44, 45, 46, 47, 48, 49, 50, 51, 52, 53, 54, 55, 56, 57, 58, 59, 60, 61, 62, 63, 64, 65, 66, 67, 68, 69, 70, 71, 72, 73, 74, 75, 76, 77, 78, 79, 80, 81, 82, 83, 84, 85, 86, 87, 88, 89, 90, 91, 92, 93, 94, 95, 96, 97, 98, 99, 100, 101, 102, 103, 104, 105, 106, 107, 108, 109, 110, 111, 112, 113, 114, 115, 116, 117, 118, 119, 120, 121, 122, 123, 124, 125, 126, 127, 128, 129, 130, 131, 132, 133, 134, 135, 136, 137, 138, 139, 140, 141, 142, 143, 144, 145, 146, 147, 148, 149, 150, 151, 152, 153, 154, 155, 156, 157, 158, 159, 160, 161, 162, 163, 164, 165, 166, 167, 168, 169, 170, 171, 172, 173, 174] (by decide +kernel) (by decide +kernel)
set_option maxRecDepth 20000 in
theorem gX12_symbol_X12_added : GoodIn wsX12_symbol (wsV RX12 335 RX12 yX12_added wsX12_added) := goodIn_app (goodIn_of _ (by decide +kernel)) ggX12_symbol_X12_added
theorem dX12_symbol_0 : decode cX12_symbol 0 = .ok (.aload_n 0, 1) := by decide +kernel
theorem dX12_symbol_1 : decode cX12_symbol 1 = .ok (.iconst 0, 1) := by decide +kernel
theorem dX12_symbol_2 : decode cX12_symbol 2 = .ok (.aload_n 0, 1) := by decide +kernel
theorem dX12_symbol_3 : decode cX12_symbol 3 = .ok (.getfield 309, 3) := by decide +kernel
theorem dX12_symbol_6 : decode cX12_symbol 6 = .ok (.iconst 1, 1) := by decide +kernel
theorem dX12_symbol_7 : decode cX12_symbol 7 = .ok (.invokevirtual 328, 3) := by decide +kernel
theorem dX12_symbol_10 : decode cX12_symbol 10 = .ok (.istore_n 1, 1) := by decide +kernel
theorem dX12_symbol_11 : decode cX12_symbol 11 = .ok (.aload_n 0, 1) := by decide +kernel
theorem dX12_symbol_12 : decode cX12_symbol 12 = .ok (.getfield 31, 3) := by decide +kernel
theorem dX12_symbol_15 : decode cX12_symbol 15 = .ok (.iload_n 1, 1) := by decide +kernel
theorem dX12_symbol_16 : decode cX12_symbol 16 = .ok (.iaload, 1) := by decide +kernel
theorem dX12_symbol_17 : decode cX12_symbol 17 = .ok (.istore_n 2, 1) := by decide +kernel
theorem dX12_symbol_18 : decode cX12_symbol 18 = .ok (.iload_n 2, 1) := by decide +kernel
theorem dX12_symbol_19 : decode cX12_symbol 19 = .ok (.iconst (-1), 1) := by decide +kernel
theorem dX12_symbol_20 : decode cX12_symbol 20 = .ok (.if_icmp .eq 39, 3) := by decide +kernel
theorem dX12_symbol_23 : decode cX12_symbol 23 = .ok (.aload_n 0, 1) := by decide +kernel
theorem dX12_symbol_24 : decode cX12_symbol 24 = .ok (.getfield 8, 3) := by decide +kernel
theorem dX12_symbol_27 : decode cX12_symbol 27 = .ok (.iload_n 2, 1) := by decide +kernel
theorem dX12_symbol_28 : decode cX12_symbol 28 = .ok (.iaload, 1) := by decide +kernel
theorem dX12_symbol_29 : decode cX12_symbol 29 = .ok (.bipush (-2), 2) := by decide +kernel
theorem dX12_symbol_31 : decode cX12_symbol 31 = .ok (.if_icmp .ne 18, 3) := by decide +kernel
theorem dX12_symbol_34 : decode cX12_symbol 34 = .ok (.aload_n 0, 1) := by decide +kernel
theorem dX12_symbol_35 : decode cX12_symbol 35 = .ok (.aload_n 0, 1) := by decide +kernel
theorem dX12_symbol_36 : decode cX12_symbol 36 = .ok (.getfield 14, 3) := by decide +kernel
theorem dX12_symbol_39 : decode cX12_symbol 39 = .ok (.iload_n 2, 1) := by decide +kernel
theorem dX12_symbol_40 : decode cX12_symbol 40 = .ok (.iaload, 1) := by decide +kernel
theorem dX12_symbol_41 : decode cX12_symbol 41 = .ok (.invokevirtual 342, 3) := by decide +kernel
theorem dX12_symbol_44 : decode cX12_symbol 44 = .ok (.ifCond .eq 5, 3) := by decide +kernel
theorem dX12_symbol_47 : decode cX12_symbol 47 = .ok (.iload_n 2, 1) := by decide +kernel
theorem dX12_symbol_48 : decode cX12_symbol 48 = .ok (.ireturn, 1) := by decide +kernel
theorem dX12_symbol_49 : decode cX12_symbol 49 = .ok (.aload_n 0, 1) := by decide +kernel
theorem dX12_symbol_50 : decode cX12_symbol 50 = .ok (.getfield 17, 3) := by decide +kernel
theorem dX12_symbol_53 : decode cX12_symbol 53 = .ok (.iload_n 2, 1) := by decide +kernel
theorem dX12_symbol_54 : decode cX12_symbol 54 = .ok (.iaload, 1) := by decide +kernel
theorem dX12_symbol_55 : decode cX12_symbol 55 = .ok (.istore_n 2, 1) := by decide +kernel
theorem dX12_symbol_56 : decode cX12_symbol 56 = .ok (.goto (-38), 3) := by decide +kernel
theorem dX12_symbol_59 : decode cX12_symbol 59 = .ok (.aload_n 0, 1) := by decide +kernel
theorem dX12_symbol_60 : decode cX12_symbol 60 = .ok (.getfield 38, 3) := by decide +kernel
theorem dX12_symbol_63 : decode cX12_symbol 63 = .ok (.aload_n 0, 1) := by decide +kernel
theorem dX12_symbol_64 : decode cX12_symbol 64 = .ok (.getfield 346, 3) := by decide +kernel
theorem dX12_symbol_67 : decode cX12_symbol 67 = .ok (.aload_n 0, 1) := by decide +kernel
theorem dX12_symbol_68 : decode cX12_symbol 68 = .ok (.getfield 309, 3) := by decide +kernel
theorem dX12_symbol_71 : decode cX12_symbol 71 = .ok (.iastore, 1) := by decide +kernel
theorem dX12_symbol_72 : decode cX12_symbol 72 = .ok (.iconst 0, 1) := by decide +kernel
theorem dX12_symbol_73 : decode cX12_symbol 73 = .ok (.istore_n 2, 1) := by decide +kernel
theorem dX12_symbol_74 : decode cX12_symbol 74 = .ok (.iload_n 2, 1) := by decide +kernel
theorem dX12_symbol_75 : decode cX12_symbol 75 = .ok (.aload_n 0, 1) := by decide +kernel
theorem dX12_symbol_76 : decode cX12_symbol 76 = .ok (.getfield 309, 3) := by decide +kernel
theorem dX12_symbol_79 : decode cX12_symbol 79 = .ok (.if_icmp .ge 29, 3) := by decide +kernel
theorem dX12_symbol_82 : decode cX12_symbol 82 = .ok (.aload_n 0, 1) := by decide +kernel
theorem dX12_symbol_83 : decode cX12_symbol 83 = .ok (.getfield 35, 3) := by decide +kernel
theorem dX12_symbol_86 : decode cX12_symbol 86 = .ok (.bipush 12, 2) := by decide +kernel
theorem dX12_symbol_88 : decode cX12_symbol 88 = .ok (.aload_n 0, 1) := by decide +kernel
theorem dX12_symbol_89 : decode cX12_symbol 89 = .ok (.getfield 346, 3) := by decide +kernel
theorem dX12_symbol_92 : decode cX12_symbol 92 = .ok (.imul, 1) := by decide +kernel
theorem dX12_symbol_93 : decode cX12_symbol 93 = .ok (.iload_n 2, 1) := by decide +kernel
theorem dX12_symbol_94 : decode cX12_symbol 94 = .ok (.iadd, 1) := by decide +kernel
theorem dX12_symbol_95 : decode cX12_symbol 95 = .ok (.aload_n 0, 1) := by decide +kernel
theorem dX12_symbol_96 : decode cX12_symbol 96 = .ok (.getfield 50, 3) := by decide +kernel
theorem dX12_symbol_99 : decode cX12_symbol 99 = .ok (.iload_n 2, 1) := by decide +kernel
theorem dX12_symbol_100 : decode cX12_symbol 100 = .ok (.iaload, 1) := by decide +kernel
theorem dX12_symbol_101 : decode cX12_symbol 101 = .ok (.iastore, 1) := by decide +kernel
theorem dX12_symbol_102 : decode cX12_symbol 102 = .ok (.iinc 2 1, 3) := by decide +kernel
theorem dX12_symbol_105 : decode cX12_symbol 105 = .ok (.goto (-31), 3) := by decide +kernel
theorem dX12_symbol_108 : decode cX12_symbol 108 = .ok (.aload_n 0, 1) := by decide +kernel
theorem dX12_symbol_109 : decode cX12_symbol 109 = .ok (.dup, 1) := by decide +kernel
theorem dX12_symbol_110 : decode cX12_symbol 110 = .ok (.getfield 346, 3) := by decide +kernel
theorem dX12_symbol_113 : decode cX12_symbol 113 = .ok (.iconst 1, 1) := by decide +kernel
theorem dX12_symbol_114 : decode cX12_symbol 114 = .ok (.iadd, 1) := by decide +kernel
theorem dX12_symbol_115 : decode cX12_symbol 115 = .ok (.putfield 346, 3) := by decide +kernel
theorem dX12_symbol_118 : decode cX12_symbol 118 = .ok (.aload_n 0, 1) := by decide +kernel
theorem dX12_symbol_119 : decode cX12_symbol 119 = .ok (.bipush (-2), 2) := by decide +kernel
theorem dX12_symbol_121 : decode cX12_symbol 121 = .ok (.aload_n 0, 1) := by decide +kernel
theorem dX12_symbol_122 : decode cX12_symbol 122 = .ok (.getfield 346, 3) := by decide +kernel
theorem dX12_symbol_125 : decode cX12_symbol 125 = .ok (.iconst 1, 1) := by decide +kernel
theorem dX12_symbol_126 : decode cX12_symbol 126 = .ok (.isub, 1) := by decide +kernel
theorem dX12_symbol_127 : decode cX12_symbol 127 = .ok (.iload_n 1, 1) := by decide +kernel
theorem dX12_symbol_128 : decode cX12_symbol 128 = .ok (.invokevirtual 335, 3) := by decide +kernel
theorem dX12_symbol_131 : decode cX12_symbol 131 = .ok (.ireturn, 1) := by decide +kernel
theorem dX12_isPair_0 : decode cX12_isPair 0 = .ok (.aload_n 0, 1) := by decide +kernel
theorem dX12_isPair_1 : decode cX12_isPair 1 = .ok (.getfield 8, 3) := by decide +kernel
theorem dX12_isPair_4 : decode cX12_isPair 4 = .ok (.iload_n 1, 1) := by decide +kernel
theorem dX12_isPair_5 : decode cX12_isPair 5 = .ok (.iaload, 1) := by decide +kernel
theorem dX12_isPair_6 : decode cX12_isPair 6 = .ok (.ifCond .lt 7, 3) := by decide +kernel
theorem dX12_isPair_9 : decode cX12_isPair 9 = .ok (.iconst 1, 1) := by decide +kernel
theorem dX12_isPair_10 : decode cX12_isPair 10 = .ok (.goto 4, 3) := by decide +kernel
theorem dX12_isPair_13 : decode cX12_isPair 13 = .ok (.iconst 0, 1) := by decide +kernel
theorem dX12_isPair_14 : decode cX12_isPair 14 = .ok (.ireturn, 1) := by decide +kernel
theorem dX12_isNatural_0 : decode cX12_isNatural 0 = .ok (.aload_n 0, 1) := by decide +kernel
theorem dX12_isNatural_1 : decode cX12_isNatural 1 = .ok (.getfield 8, 3) := by decide +kernel
theorem dX12_isNatural_4 : decode cX12_isNatural 4 = .ok (.iload_n 1, 1) := by decide +kernel
theorem dX12_isNatural_5 : decode cX12_isNatural 5 = .ok (.iaload, 1) := by decide +kernel
theorem dX12_isNatural_6 : decode cX12_isNatural 6 = .ok (.iconst (-1), 1) := by decide +kernel
theorem dX12_isNatural_7 : decode cX12_isNatural 7 = .ok (.if_icmp .ne 7, 3) := by decide +kernel
theorem dX12_isNatural_10 : decode cX12_isNatural 10 = .ok (.iconst 1, 1) := by decide +kernel
theorem dX12_isNatural_11 : decode cX12_isNatural 11 = .ok (.goto 4, 3) := by decide +kernel
theorem dX12_isNatural_14 : decode cX12_isNatural 14 = .ok (.iconst 0, 1) := by decide +kernel
theorem dX12_isNatural_15 : decode cX12_isNatural 15 = .ok (.ireturn, 1) := by decide +kernel
theorem dX12_isSymbol_0 : decode cX12_isSymbol 0 = .ok (.aload_n 0, 1) := by decide +kernel
theorem dX12_isSymbol_1 : decode cX12_isSymbol 1 = .ok (.getfield 8, 3) := by decide +kernel
theorem dX12_isSymbol_4 : decode cX12_isSymbol 4 = .ok (.iload_n 1, 1) := by decide +kernel
theorem dX12_isSymbol_5 : decode cX12_isSymbol 5 = .ok (.iaload, 1) := by decide +kernel
theorem dX12_isSymbol_6 : decode cX12_isSymbol 6 = .ok (.bipush (-2), 2) := by decide +kernel
theorem dX12_isSymbol_8 : decode cX12_isSymbol 8 = .ok (.if_icmp .ne 7, 3) := by decide +kernel
theorem dX12_isSymbol_11 : decode cX12_isSymbol 11 = .ok (.iconst 1, 1) := by decide +kernel
theorem dX12_isSymbol_12 : decode cX12_isSymbol 12 = .ok (.goto 4, 3) := by decide +kernel
theorem dX12_isSymbol_15 : decode cX12_isSymbol 15 = .ok (.iconst 0, 1) := by decide +kernel
theorem dX12_isSymbol_16 : decode cX12_isSymbol 16 = .ok (.ireturn, 1) := by decide +kernel
abbrev vwCl : List vw_C := [(RX0, TX0, 21), (RX1, TX1, 4), (RX2, TX2, 15), (RX3, TX3, 11), (RX4, TX4, 11), (RX5, TX5, 11), (RX6, TX6, 14), (RX7, TX7, 9), (RX8, TX8, 11), (RX9, TX9, 4), (RX10, TX10, 16), (RX11, TX11, 21), (RX12, TX12, 149)]
end
section
abbrev pR_0 : Room := { frames := 0, cells := 0, slots := 0, locals := 0 }
/-! the reference's object: its numbers by the field's place, its rows by the field's place, its one row of longs -/
abbrev mST : Type := (Nat → Int32) × (Nat → Nat → Int32) × (Nat → Int64)
def mFs (ad : Nat → Nat) (u : mST) : List Value := [.ref (ad 0), .ref (ad 1), .ref (ad 2), .ref (ad 3), .ref (ad 4), .ref (ad 5), .int (u.1 6), .ref (ad 7), .int (u.1 8), .ref (ad 9), .ref (ad 10), .int (u.1 11), .ref (ad 12), .ref (ad 13), .int (u.1 14), .ref (ad 15), .int (u.1 16), .ref (ad 17), .int (u.1 18), .ref (ad 19), .int (u.1 20), .ref (ad 21), .int (u.1 22), .int (u.1 23), .int (u.1 24), .int (u.1 25), .ref (ad 26), .ref (ad 27), .ref (ad 28), .ref (ad 29), .int (u.1 30), .ref (ad 31), .int (u.1 32), .int (u.1 33), .int (u.1 34), .int (u.1 35), .ref (ad 36), .ref (ad 37), .ref (ad 38), .ref (ad 39), .ref (ad 40), .ref (ad 41), .int (u.1 42), .ref (ad 43), .ref (ad 44), .ref (ad 45), .ref (ad 46), .ref (ad 47), .ref (ad 48), .ref (ad 49), .ref (ad 50), .ref (ad 51), .ref (ad 52), .ref (ad 53), .int (u.1 54), .ref (ad 55), .ref (ad 56), .int (u.1 57), .int (u.1 58), .int (u.1 59), .int (u.1 60), .int (u.1 61), .int (u.1 62), .int (u.1 63), .int (u.1 64), .ref (ad 65), .ref (ad 66), .ref (ad 67), .ref (ad 68), .int (u.1 69), .ref (ad 70), .int (u.1 71), .ref (ad 72), .ref (ad 73), .int (u.1 74), .ref (ad 75), .int (u.1 76), .ref (ad 77), .int (u.1 78), .ref (ad 79), .ref (ad 80), .ref (ad 81), .ref (ad 82), .ref (ad 83), .ref (ad 84), .int (u.1 85), .ref (ad 86), .int (u.1 87), .int (u.1 88), .int (u.1 89), .int (u.1 90), .int (u.1 91), .ref (ad 92), .ref (ad 93), .ref (ad 94), .ref (ad 95), .ref (ad 96), .ref (ad 97), .ref (ad 98), .ref (ad 99), .ref (ad 100), .ref (ad 101), .int (u.1 102), .ref (ad 103), .int (u.1 104), .ref (ad 105), .ref (ad 106), .ref (ad 107), .ref (ad 108), .int (u.1 109), .int (u.1 110), .int (u.1 111), .ref (ad 112), .ref (ad 113), .ref (ad 114), .ref (ad 115), .ref (ad 116), .int (u.1 117), .ref (ad 118), .int (u.1 119), .ref (ad 120), .ref (ad 121), .int (u.1 122), .ref (ad 123), .ref (ad 124), .ref (ad 125), .int (u.1 126), .ref (ad 127), .ref (ad 128), .ref (ad 129), .ref (ad 130), .int (u.1 131), .int (u.1 132), .int (u.1 133), .int (u.1 134), .int (u.1 135), .int (u.1 136), .ref (ad 137), .ref (ad 138), .int (u.1 139), .ref (ad 140), .ref (ad 141), .ref (ad 142), .ref (ad 143), .int (u.1 144), .ref (ad 145), .ref (ad 146), .int (u.1 147), .int (u.1 148)]
def mCl (ca : Nat → ClassId) (h0 : Nat) (ad : Nat → Nat) (u : mST) : va_W := [(h0, .inr (12, mFs ad u)), (ad 0, .inl (ca 0, 452000, .inl (u.2.1 0))), (ad 1, .inl (ca 1, 452000, .inl (u.2.1 1))), (ad 2, .inl (ca 2, 452000, .inl (u.2.1 2))), (ad 3, .inl (ca 3, 452000, .inl (u.2.1 3))), (ad 4, .inl (ca 4, 452000, .inl (u.2.1 4))), (ad 5, .inl (ca 5, 40000, .inr (.inl u.2.2))), (ad 7, .inl (ca 7, 8192, .inl (u.2.1 7))), (ad 9, .inl (ca 9, 252000, .inl (u.2.1 9))), (ad 10, .inl (ca 10, 21000, .inl (u.2.1 10))), (ad 12, .inl (ca 12, 20, .inl (u.2.1 12))), (ad 13, .inl (ca 13, 3000, .inl (u.2.1 13))), (ad 15, .inl (ca 15, 2000, .inl (u.2.1 15))), (ad 17, .inl (ca 17, 12, .inl (u.2.1 17))), (ad 19, .inl (ca 19, 4000, .inl (u.2.1 19))), (ad 21, .inl (ca 21, 200, .inl (u.2.1 21))), (ad 26, .inl (ca 26, 40, .inl (u.2.1 26))), (ad 27, .inl (ca 27, 40, .inl (u.2.1 27))), (ad 28, .inl (ca 28, 40, .inl (u.2.1 28))), (ad 29, .inl (ca 29, 40, .inl (u.2.1 29))), (ad 31, .inl (ca 31, 1100, .inl (u.2.1 31))), (ad 36, .inl (ca 36, 40, .inl (u.2.1 36))), (ad 37, .inl (ca 37, 40, .inl (u.2.1 37))), (ad 38, .inl (ca 38, 240, .inl (u.2.1 38))), (ad 39, .inl (ca 39, 40, .inl (u.2.1 39))), (ad 40, .inl (ca 40, 40, .inl (u.2.1 40))), (ad 41, .inl (ca 41, 40, .inl (u.2.1 41))), (ad 43, .inl (ca 43, 60, .inl (u.2.1 43))), (ad 44, .inl (ca 44, 60, .inl (u.2.1 44))), (ad 45, .inl (ca 45, 60, .inl (u.2.1 45))), (ad 46, .inl (ca 46, 60, .inl (u.2.1 46))), (ad 47, .inl (ca 47, 60, .inl (u.2.1 47))), (ad 48, .inl (ca 48, 60, .inl (u.2.1 48))), (ad 49, .inl (ca 49, 7200, .inl (u.2.1 49))), (ad 50, .inl (ca 50, 60, .inl (u.2.1 50))), (ad 51, .inl (ca 51, 60, .inl (u.2.1 51))), (ad 52, .inl (ca 52, 60, .inl (u.2.1 52))), (ad 53, .inl (ca 53, 60, .inl (u.2.1 53))), (ad 55, .inl (ca 55, 100, .inl (u.2.1 55))), (ad 56, .inl (ca 56, 100, .inl (u.2.1 56))), (ad 65, .inl (ca 65, 200, .inl (u.2.1 65))), (ad 66, .inl (ca 66, 1200, .inl (u.2.1 66))), (ad 67, .inl (ca 67, 1200, .inl (u.2.1 67))), (ad 68, .inl (ca 68, 1200, .inl (u.2.1 68))), (ad 70, .inl (ca 70, 2400, .inl (u.2.1 70))), (ad 72, .inl (ca 72, 400, .inl (u.2.1 72))), (ad 73, .inl (ca 73, 400, .inl (u.2.1 73))), (ad 75, .inl (ca 75, 400, .inl (u.2.1 75))), (ad 77, .inl (ca 77, 130, .inl (u.2.1 77))), (ad 79, .inl (ca 79, 300, .inl (u.2.1 79))), (ad 80, .inl (ca 80, 300, .inl (u.2.1 80))), (ad 81, .inl (ca 81, 300, .inl (u.2.1 81))), (ad 82, .inl (ca 82, 300, .inl (u.2.1 82))), (ad 83, .inl (ca 83, 300, .inl (u.2.1 83))), (ad 84, .inl (ca 84, 300, .inl (u.2.1 84))), (ad 86, .inl (ca 86, 2400, .inl (u.2.1 86))), (ad 92, .inl (ca 92, 60, .inl (u.2.1 92))), (ad 93, .inl (ca 93, 60, .inl (u.2.1 93))), (ad 94, .inl (ca 94, 60, .inl (u.2.1 94))), (ad 95, .inl (ca 95, 60, .inl (u.2.1 95))), (ad 96, .inl (ca 96, 60, .inl (u.2.1 96))), (ad 97, .inl (ca 97, 60, .inl (u.2.1 97))), (ad 98, .inl (ca 98, 60, .inl (u.2.1 98))), (ad 99, .inl (ca 99, 60, .inl (u.2.1 99))), (ad 100, .inl (ca 100, 60, .inl (u.2.1 100))), (ad 101, .inl (ca 101, 60, .inl (u.2.1 101))), (ad 103, .inl (ca 103, 1200, .inl (u.2.1 103))), (ad 105, .inl (ca 105, 7800, .inl (u.2.1 105))), (ad 106, .inl (ca 106, 7800, .inl (u.2.1 106))), (ad 107, .inl (ca 107, 60, .inl (u.2.1 107))), (ad 108, .inl (ca 108, 200, .inl (u.2.1 108))), (ad 112, .inl (ca 112, 800, .inl (u.2.1 112))), (ad 113, .inl (ca 113, 800, .inl (u.2.1 113))), (ad 114, .inl (ca 114, 69000, .inl (u.2.1 114))), (ad 115, .inl (ca 115, 2300, .inl (u.2.1 115))), (ad 116, .inl (ca 116, 2300, .inl (u.2.1 116))), (ad 118, .inl (ca 118, 2300, .inl (u.2.1 118))), (ad 120, .inl (ca 120, 20, .inl (u.2.1 120))), (ad 121, .inl (ca 121, 1200, .inl (u.2.1 121))), (ad 123, .inl (ca 123, 128, .inl (u.2.1 123))), (ad 124, .inl (ca 124, 8192, .inl (u.2.1 124))), (ad 125, .inl (ca 125, 128, .inl (u.2.1 125))), (ad 127, .inl (ca 127, 128, .inl (u.2.1 127))), (ad 128, .inl (ca 128, 8192, .inl (u.2.1 128))), (ad 129, .inl (ca 129, 128, .inl (u.2.1 129))), (ad 130, .inl (ca 130, 130, .inl (u.2.1 130))), (ad 137, .inl (ca 137, 400, .inl (u.2.1 137))), (ad 138, .inl (ca 138, 400, .inl (u.2.1 138))), (ad 140, .inl (ca 140, 6, .inl (u.2.1 140))), (ad 141, .inl (ca 141, 40, .inl (u.2.1 141))), (ad 142, .inl (ca 142, 40, .inl (u.2.1 142))), (ad 143, .inl (ca 143, 40, .inl (u.2.1 143))), (ad 145, .inl (ca 145, 10500, .inl (u.2.1 145))), (ad 146, .inl (ca 146, 350, .inl (u.2.1 146)))]
def mTy (ca : Nat → ClassId) : List (ClassId × FieldType) := [(ca 0, .int), (ca 1, .int), (ca 2, .int), (ca 3, .int), (ca 4, .int), (ca 5, .long), (ca 7, .int), (ca 9, .int), (ca 10, .int), (ca 12, .int), (ca 13, .int), (ca 15, .int), (ca 17, .int), (ca 19, .int), (ca 21, .int), (ca 26, .int), (ca 27, .int), (ca 28, .int), (ca 29, .int), (ca 31, .int), (ca 36, .int), (ca 37, .int), (ca 38, .int), (ca 39, .int), (ca 40, .int), (ca 41, .boolean), (ca 43, .int), (ca 44, .int), (ca 45, .int), (ca 46, .int), (ca 47, .int), (ca 48, .int), (ca 49, .int), (ca 50, .boolean), (ca 51, .boolean), (ca 52, .boolean), (ca 53, .boolean), (ca 55, .int), (ca 56, .int), (ca 65, .int), (ca 66, .int), (ca 67, .int), (ca 68, .int), (ca 70, .int), (ca 72, .int), (ca 73, .int), (ca 75, .int), (ca 77, .int), (ca 79, .int), (ca 80, .int), (ca 81, .int), (ca 82, .int), (ca 83, .int), (ca 84, .boolean), (ca 86, .int), (ca 92, .int), (ca 93, .boolean), (ca 94, .int), (ca 95, .int), (ca 96, .int), (ca 97, .int), (ca 98, .int), (ca 99, .int), (ca 100, .int), (ca 101, .int), (ca 103, .int), (ca 105, .int), (ca 106, .int), (ca 107, .int), (ca 108, .int), (ca 112, .int), (ca 113, .int), (ca 114, .int), (ca 115, .int), (ca 116, .int), (ca 118, .int), (ca 120, .int), (ca 121, .int), (ca 123, .int), (ca 124, .int), (ca 125, .int), (ca 127, .int), (ca 128, .int), (ca 129, .int), (ca 130, .int), (ca 137, .int), (ca 138, .int), (ca 140, .int), (ca 141, .int), (ca 142, .int), (ca 143, .int), (ca 145, .int), (ca 146, .int)]
/-- a number becomes v -/
def mI (u : mST) (k : Nat) (v : Int32) : mST := (va_up u.1 k v, u.2.1, u.2.2)
/-- element i of a row becomes v -/
def mA (u : mST) (k i : Nat) (v : Int32) : mST := (u.1, va_up u.2.1 k (upd (u.2.1 k) i v), u.2.2)
abbrev mWd (D : va_G) (ca : Nat → ClassId) (A : Nat → Prop) (h0 : Nat) (ad : Nat → Nat) (u : mST) (t : State) : Prop := va_P D vwCl (mCl ca h0 ad u) t.heap ∧ va_K D vwCl (mTy ca) t ∧ va_D A (mCl ca h0 ad u)
theorem pl_free {A0 : Nat → Prop} {ws : va_W} {H0 H : Heap} {locs : List Loc} (hD : va_D A0 ws) (hS : va_S A0 H0 H locs) (hA : ∀ q, H0.size ≤ q → A0 q) : ∀ q, va_A ws H.size q → A0 q := by
  intro q h
  rcases h with ⟨k, e, hk⟩ | h
  · exact hD.2 k _ hk
  · exact hA q (Nat.le_trans hS.1 h)
theorem mH_0 {ca : Nat → ClassId} {h0 : Nat} {ad : Nat → Nat} {u : mST} : (mCl ca h0 ad u)[0]? = some (h0, .inr (12, mFs ad u)) := rfl
set_option maxRecDepth 100000 in
theorem mF_0 {ad : Nat → Nat} {u : mST} : (mFs ad u)[0]? = some (.ref (ad 0)) := rfl
set_option maxRecDepth 100000 in
theorem mG_0 {ca : Nat → ClassId} {h0 : Nat} {ad : Nat → Nat} {u : mST} : (mCl ca h0 ad u)[1]? = some (ad 0, .inl (ca 0, 452000, .inl (u.2.1 0))) := rfl
set_option maxRecDepth 100000 in
theorem mSA_0 {ca : Nat → ClassId} {h0 : Nat} {ad : Nat → Nat} {u : mST} {i : Nat} {x : Int32} : (mCl ca h0 ad u).set 1 (ad 0, .inl (ca 0, 452000, .inl (upd (u.2.1 0) i x))) = mCl ca h0 ad (mA u 0 i x) := rfl
set_option maxRecDepth 100000 in
theorem mF_1 {ad : Nat → Nat} {u : mST} : (mFs ad u)[1]? = some (.ref (ad 1)) := rfl
set_option maxRecDepth 100000 in
theorem mG_1 {ca : Nat → ClassId} {h0 : Nat} {ad : Nat → Nat} {u : mST} : (mCl ca h0 ad u)[2]? = some (ad 1, .inl (ca 1, 452000, .inl (u.2.1 1))) := rfl
set_option maxRecDepth 100000 in
theorem mSA_1 {ca : Nat → ClassId} {h0 : Nat} {ad : Nat → Nat} {u : mST} {i : Nat} {x : Int32} : (mCl ca h0 ad u).set 2 (ad 1, .inl (ca 1, 452000, .inl (upd (u.2.1 1) i x))) = mCl ca h0 ad (mA u 1 i x) := rfl
set_option maxRecDepth 100000 in
theorem mF_2 {ad : Nat → Nat} {u : mST} : (mFs ad u)[2]? = some (.ref (ad 2)) := rfl
set_option maxRecDepth 100000 in
theorem mG_2 {ca : Nat → ClassId} {h0 : Nat} {ad : Nat → Nat} {u : mST} : (mCl ca h0 ad u)[3]? = some (ad 2, .inl (ca 2, 452000, .inl (u.2.1 2))) := rfl
set_option maxRecDepth 100000 in
theorem mSA_2 {ca : Nat → ClassId} {h0 : Nat} {ad : Nat → Nat} {u : mST} {i : Nat} {x : Int32} : (mCl ca h0 ad u).set 3 (ad 2, .inl (ca 2, 452000, .inl (upd (u.2.1 2) i x))) = mCl ca h0 ad (mA u 2 i x) := rfl
set_option maxRecDepth 100000 in
theorem mF_3 {ad : Nat → Nat} {u : mST} : (mFs ad u)[3]? = some (.ref (ad 3)) := rfl
set_option maxRecDepth 100000 in
theorem mG_3 {ca : Nat → ClassId} {h0 : Nat} {ad : Nat → Nat} {u : mST} : (mCl ca h0 ad u)[4]? = some (ad 3, .inl (ca 3, 452000, .inl (u.2.1 3))) := rfl
set_option maxRecDepth 100000 in
theorem mSA_3 {ca : Nat → ClassId} {h0 : Nat} {ad : Nat → Nat} {u : mST} {i : Nat} {x : Int32} : (mCl ca h0 ad u).set 4 (ad 3, .inl (ca 3, 452000, .inl (upd (u.2.1 3) i x))) = mCl ca h0 ad (mA u 3 i x) := rfl
set_option maxRecDepth 100000 in
theorem mF_4 {ad : Nat → Nat} {u : mST} : (mFs ad u)[4]? = some (.ref (ad 4)) := rfl
set_option maxRecDepth 100000 in
theorem mG_4 {ca : Nat → ClassId} {h0 : Nat} {ad : Nat → Nat} {u : mST} : (mCl ca h0 ad u)[5]? = some (ad 4, .inl (ca 4, 452000, .inl (u.2.1 4))) := rfl
set_option maxRecDepth 100000 in
theorem mSA_4 {ca : Nat → ClassId} {h0 : Nat} {ad : Nat → Nat} {u : mST} {i : Nat} {x : Int32} : (mCl ca h0 ad u).set 5 (ad 4, .inl (ca 4, 452000, .inl (upd (u.2.1 4) i x))) = mCl ca h0 ad (mA u 4 i x) := rfl
set_option maxRecDepth 100000 in
theorem mF_5 {ad : Nat → Nat} {u : mST} : (mFs ad u)[5]? = some (.ref (ad 5)) := rfl
set_option maxRecDepth 100000 in
theorem mG_5 {ca : Nat → ClassId} {h0 : Nat} {ad : Nat → Nat} {u : mST} : (mCl ca h0 ad u)[6]? = some (ad 5, .inl (ca 5, 40000, .inr (.inl u.2.2))) := rfl
set_option maxRecDepth 100000 in
theorem mF_6 {ad : Nat → Nat} {u : mST} : (mFs ad u)[6]? = some (.int (u.1 6)) := rfl
set_option maxRecDepth 100000 in
theorem mSI_6 {ca : Nat → ClassId} {h0 : Nat} {ad : Nat → Nat} {u : mST} {x : Int32} : (mCl ca h0 ad u).set 0 (h0, .inr (12, (mFs ad u).set 6 (.int x))) = mCl ca h0 ad (mI u 6 x) := rfl
set_option maxRecDepth 100000 in
theorem mF_7 {ad : Nat → Nat} {u : mST} : (mFs ad u)[7]? = some (.ref (ad 7)) := rfl
set_option maxRecDepth 100000 in
theorem mG_7 {ca : Nat → ClassId} {h0 : Nat} {ad : Nat → Nat} {u : mST} : (mCl ca h0 ad u)[7]? = some (ad 7, .inl (ca 7, 8192, .inl (u.2.1 7))) := rfl
set_option maxRecDepth 100000 in
theorem mSA_7 {ca : Nat → ClassId} {h0 : Nat} {ad : Nat → Nat} {u : mST} {i : Nat} {x : Int32} : (mCl ca h0 ad u).set 7 (ad 7, .inl (ca 7, 8192, .inl (upd (u.2.1 7) i x))) = mCl ca h0 ad (mA u 7 i x) := rfl
set_option maxRecDepth 100000 in
theorem mF_8 {ad : Nat → Nat} {u : mST} : (mFs ad u)[8]? = some (.int (u.1 8)) := rfl
set_option maxRecDepth 100000 in
theorem mSI_8 {ca : Nat → ClassId} {h0 : Nat} {ad : Nat → Nat} {u : mST} {x : Int32} : (mCl ca h0 ad u).set 0 (h0, .inr (12, (mFs ad u).set 8 (.int x))) = mCl ca h0 ad (mI u 8 x) := rfl
set_option maxRecDepth 100000 in
theorem mF_9 {ad : Nat → Nat} {u : mST} : (mFs ad u)[9]? = some (.ref (ad 9)) := rfl
set_option maxRecDepth 100000 in
theorem mG_9 {ca : Nat → ClassId} {h0 : Nat} {ad : Nat → Nat} {u : mST} : (mCl ca h0 ad u)[8]? = some (ad 9, .inl (ca 9, 252000, .inl (u.2.1 9))) := rfl
set_option maxRecDepth 100000 in
theorem mSA_9 {ca : Nat → ClassId} {h0 : Nat} {ad : Nat → Nat} {u : mST} {i : Nat} {x : Int32} : (mCl ca h0 ad u).set 8 (ad 9, .inl (ca 9, 252000, .inl (upd (u.2.1 9) i x))) = mCl ca h0 ad (mA u 9 i x) := rfl
set_option maxRecDepth 100000 in
theorem mF_10 {ad : Nat → Nat} {u : mST} : (mFs ad u)[10]? = some (.ref (ad 10)) := rfl
set_option maxRecDepth 100000 in
theorem mG_10 {ca : Nat → ClassId} {h0 : Nat} {ad : Nat → Nat} {u : mST} : (mCl ca h0 ad u)[9]? = some (ad 10, .inl (ca 10, 21000, .inl (u.2.1 10))) := rfl
set_option maxRecDepth 100000 in
theorem mSA_10 {ca : Nat → ClassId} {h0 : Nat} {ad : Nat → Nat} {u : mST} {i : Nat} {x : Int32} : (mCl ca h0 ad u).set 9 (ad 10, .inl (ca 10, 21000, .inl (upd (u.2.1 10) i x))) = mCl ca h0 ad (mA u 10 i x) := rfl
set_option maxRecDepth 100000 in
theorem mF_11 {ad : Nat → Nat} {u : mST} : (mFs ad u)[11]? = some (.int (u.1 11)) := rfl
set_option maxRecDepth 100000 in
theorem mSI_11 {ca : Nat → ClassId} {h0 : Nat} {ad : Nat → Nat} {u : mST} {x : Int32} : (mCl ca h0 ad u).set 0 (h0, .inr (12, (mFs ad u).set 11 (.int x))) = mCl ca h0 ad (mI u 11 x) := rfl
set_option maxRecDepth 100000 in
theorem mF_12 {ad : Nat → Nat} {u : mST} : (mFs ad u)[12]? = some (.ref (ad 12)) := rfl
set_option maxRecDepth 100000 in
theorem mG_12 {ca : Nat → ClassId} {h0 : Nat} {ad : Nat → Nat} {u : mST} : (mCl ca h0 ad u)[10]? = some (ad 12, .inl (ca 12, 20, .inl (u.2.1 12))) := rfl
set_option maxRecDepth 100000 in
theorem mSA_12 {ca : Nat → ClassId} {h0 : Nat} {ad : Nat → Nat} {u : mST} {i : Nat} {x : Int32} : (mCl ca h0 ad u).set 10 (ad 12, .inl (ca 12, 20, .inl (upd (u.2.1 12) i x))) = mCl ca h0 ad (mA u 12 i x) := rfl
set_option maxRecDepth 100000 in
theorem mF_13 {ad : Nat → Nat} {u : mST} : (mFs ad u)[13]? = some (.ref (ad 13)) := rfl
set_option maxRecDepth 100000 in
theorem mG_13 {ca : Nat → ClassId} {h0 : Nat} {ad : Nat → Nat} {u : mST} : (mCl ca h0 ad u)[11]? = some (ad 13, .inl (ca 13, 3000, .inl (u.2.1 13))) := rfl
set_option maxRecDepth 100000 in
theorem mSA_13 {ca : Nat → ClassId} {h0 : Nat} {ad : Nat → Nat} {u : mST} {i : Nat} {x : Int32} : (mCl ca h0 ad u).set 11 (ad 13, .inl (ca 13, 3000, .inl (upd (u.2.1 13) i x))) = mCl ca h0 ad (mA u 13 i x) := rfl
set_option maxRecDepth 100000 in
theorem mF_14 {ad : Nat → Nat} {u : mST} : (mFs ad u)[14]? = some (.int (u.1 14)) := rfl
set_option maxRecDepth 100000 in
theorem mSI_14 {ca : Nat → ClassId} {h0 : Nat} {ad : Nat → Nat} {u : mST} {x : Int32} : (mCl ca h0 ad u).set 0 (h0, .inr (12, (mFs ad u).set 14 (.int x))) = mCl ca h0 ad (mI u 14 x) := rfl
set_option maxRecDepth 100000 in
theorem mF_15 {ad : Nat → Nat} {u : mST} : (mFs ad u)[15]? = some (.ref (ad 15)) := rfl
set_option maxRecDepth 100000 in
theorem mG_15 {ca : Nat → ClassId} {h0 : Nat} {ad : Nat → Nat} {u : mST} : (mCl ca h0 ad u)[12]? = some (ad 15, .inl (ca 15, 2000, .inl (u.2.1 15))) := rfl
set_option maxRecDepth 100000 in
theorem mSA_15 {ca : Nat → ClassId} {h0 : Nat} {ad : Nat → Nat} {u : mST} {i : Nat} {x : Int32} : (mCl ca h0 ad u).set 12 (ad 15, .inl (ca 15, 2000, .inl (upd (u.2.1 15) i x))) = mCl ca h0 ad (mA u 15 i x) := rfl
set_option maxRecDepth 100000 in
theorem mF_16 {ad : Nat → Nat} {u : mST} : (mFs ad u)[16]? = some (.int (u.1 16)) := rfl
set_option maxRecDepth 100000 in
theorem mSI_16 {ca : Nat → ClassId} {h0 : Nat} {ad : Nat → Nat} {u : mST} {x : Int32} : (mCl ca h0 ad u).set 0 (h0, .inr (12, (mFs ad u).set 16 (.int x))) = mCl ca h0 ad (mI u 16 x) := rfl
set_option maxRecDepth 100000 in
theorem mF_17 {ad : Nat → Nat} {u : mST} : (mFs ad u)[17]? = some (.ref (ad 17)) := rfl
set_option maxRecDepth 100000 in
theorem mG_17 {ca : Nat → ClassId} {h0 : Nat} {ad : Nat → Nat} {u : mST} : (mCl ca h0 ad u)[13]? = some (ad 17, .inl (ca 17, 12, .inl (u.2.1 17))) := rfl
set_option maxRecDepth 100000 in
theorem mSA_17 {ca : Nat → ClassId} {h0 : Nat} {ad : Nat → Nat} {u : mST} {i : Nat} {x : Int32} : (mCl ca h0 ad u).set 13 (ad 17, .inl (ca 17, 12, .inl (upd (u.2.1 17) i x))) = mCl ca h0 ad (mA u 17 i x) := rfl
set_option maxRecDepth 100000 in
theorem mF_18 {ad : Nat → Nat} {u : mST} : (mFs ad u)[18]? = some (.int (u.1 18)) := rfl
set_option maxRecDepth 100000 in
theorem mSI_18 {ca : Nat → ClassId} {h0 : Nat} {ad : Nat → Nat} {u : mST} {x : Int32} : (mCl ca h0 ad u).set 0 (h0, .inr (12, (mFs ad u).set 18 (.int x))) = mCl ca h0 ad (mI u 18 x) := rfl
set_option maxRecDepth 100000 in
theorem mF_19 {ad : Nat → Nat} {u : mST} : (mFs ad u)[19]? = some (.ref (ad 19)) := rfl
set_option maxRecDepth 100000 in
theorem mG_19 {ca : Nat → ClassId} {h0 : Nat} {ad : Nat → Nat} {u : mST} : (mCl ca h0 ad u)[14]? = some (ad 19, .inl (ca 19, 4000, .inl (u.2.1 19))) := rfl
set_option maxRecDepth 100000 in
theorem mSA_19 {ca : Nat → ClassId} {h0 : Nat} {ad : Nat → Nat} {u : mST} {i : Nat} {x : Int32} : (mCl ca h0 ad u).set 14 (ad 19, .inl (ca 19, 4000, .inl (upd (u.2.1 19) i x))) = mCl ca h0 ad (mA u 19 i x) := rfl
set_option maxRecDepth 100000 in
theorem mF_20 {ad : Nat → Nat} {u : mST} : (mFs ad u)[20]? = some (.int (u.1 20)) := rfl
set_option maxRecDepth 100000 in
theorem mSI_20 {ca : Nat → ClassId} {h0 : Nat} {ad : Nat → Nat} {u : mST} {x : Int32} : (mCl ca h0 ad u).set 0 (h0, .inr (12, (mFs ad u).set 20 (.int x))) = mCl ca h0 ad (mI u 20 x) := rfl
set_option maxRecDepth 100000 in
theorem mF_21 {ad : Nat → Nat} {u : mST} : (mFs ad u)[21]? = some (.ref (ad 21)) := rfl
set_option maxRecDepth 100000 in
theorem mG_21 {ca : Nat → ClassId} {h0 : Nat} {ad : Nat → Nat} {u : mST} : (mCl ca h0 ad u)[15]? = some (ad 21, .inl (ca 21, 200, .inl (u.2.1 21))) := rfl
set_option maxRecDepth 100000 in
theorem mSA_21 {ca : Nat → ClassId} {h0 : Nat} {ad : Nat → Nat} {u : mST} {i : Nat} {x : Int32} : (mCl ca h0 ad u).set 15 (ad 21, .inl (ca 21, 200, .inl (upd (u.2.1 21) i x))) = mCl ca h0 ad (mA u 21 i x) := rfl
set_option maxRecDepth 100000 in
theorem mF_22 {ad : Nat → Nat} {u : mST} : (mFs ad u)[22]? = some (.int (u.1 22)) := rfl
set_option maxRecDepth 100000 in
theorem mSI_22 {ca : Nat → ClassId} {h0 : Nat} {ad : Nat → Nat} {u : mST} {x : Int32} : (mCl ca h0 ad u).set 0 (h0, .inr (12, (mFs ad u).set 22 (.int x))) = mCl ca h0 ad (mI u 22 x) := rfl
set_option maxRecDepth 100000 in
theorem mF_23 {ad : Nat → Nat} {u : mST} : (mFs ad u)[23]? = some (.int (u.1 23)) := rfl
set_option maxRecDepth 100000 in
theorem mSI_23 {ca : Nat → ClassId} {h0 : Nat} {ad : Nat → Nat} {u : mST} {x : Int32} : (mCl ca h0 ad u).set 0 (h0, .inr (12, (mFs ad u).set 23 (.int x))) = mCl ca h0 ad (mI u 23 x) := rfl
set_option maxRecDepth 100000 in
theorem mF_24 {ad : Nat → Nat} {u : mST} : (mFs ad u)[24]? = some (.int (u.1 24)) := rfl
set_option maxRecDepth 100000 in
theorem mSI_24 {ca : Nat → ClassId} {h0 : Nat} {ad : Nat → Nat} {u : mST} {x : Int32} : (mCl ca h0 ad u).set 0 (h0, .inr (12, (mFs ad u).set 24 (.int x))) = mCl ca h0 ad (mI u 24 x) := rfl
set_option maxRecDepth 100000 in
theorem mF_25 {ad : Nat → Nat} {u : mST} : (mFs ad u)[25]? = some (.int (u.1 25)) := rfl
set_option maxRecDepth 100000 in
theorem mSI_25 {ca : Nat → ClassId} {h0 : Nat} {ad : Nat → Nat} {u : mST} {x : Int32} : (mCl ca h0 ad u).set 0 (h0, .inr (12, (mFs ad u).set 25 (.int x))) = mCl ca h0 ad (mI u 25 x) := rfl
set_option maxRecDepth 100000 in
theorem mF_26 {ad : Nat → Nat} {u : mST} : (mFs ad u)[26]? = some (.ref (ad 26)) := rfl
set_option maxRecDepth 100000 in
theorem mG_26 {ca : Nat → ClassId} {h0 : Nat} {ad : Nat → Nat} {u : mST} : (mCl ca h0 ad u)[16]? = some (ad 26, .inl (ca 26, 40, .inl (u.2.1 26))) := rfl
set_option maxRecDepth 100000 in
theorem mSA_26 {ca : Nat → ClassId} {h0 : Nat} {ad : Nat → Nat} {u : mST} {i : Nat} {x : Int32} : (mCl ca h0 ad u).set 16 (ad 26, .inl (ca 26, 40, .inl (upd (u.2.1 26) i x))) = mCl ca h0 ad (mA u 26 i x) := rfl
set_option maxRecDepth 100000 in
theorem mF_27 {ad : Nat → Nat} {u : mST} : (mFs ad u)[27]? = some (.ref (ad 27)) := rfl
set_option maxRecDepth 100000 in
theorem mG_27 {ca : Nat → ClassId} {h0 : Nat} {ad : Nat → Nat} {u : mST} : (mCl ca h0 ad u)[17]? = some (ad 27, .inl (ca 27, 40, .inl (u.2.1 27))) := rfl
set_option maxRecDepth 100000 in
theorem mSA_27 {ca : Nat → ClassId} {h0 : Nat} {ad : Nat → Nat} {u : mST} {i : Nat} {x : Int32} : (mCl ca h0 ad u).set 17 (ad 27, .inl (ca 27, 40, .inl (upd (u.2.1 27) i x))) = mCl ca h0 ad (mA u 27 i x) := rfl
set_option maxRecDepth 100000 in
theorem mF_28 {ad : Nat → Nat} {u : mST} : (mFs ad u)[28]? = some (.ref (ad 28)) := rfl
set_option maxRecDepth 100000 in
theorem mG_28 {ca : Nat → ClassId} {h0 : Nat} {ad : Nat → Nat} {u : mST} : (mCl ca h0 ad u)[18]? = some (ad 28, .inl (ca 28, 40, .inl (u.2.1 28))) := rfl
set_option maxRecDepth 100000 in
theorem mSA_28 {ca : Nat → ClassId} {h0 : Nat} {ad : Nat → Nat} {u : mST} {i : Nat} {x : Int32} : (mCl ca h0 ad u).set 18 (ad 28, .inl (ca 28, 40, .inl (upd (u.2.1 28) i x))) = mCl ca h0 ad (mA u 28 i x) := rfl
set_option maxRecDepth 100000 in
theorem mF_29 {ad : Nat → Nat} {u : mST} : (mFs ad u)[29]? = some (.ref (ad 29)) := rfl
set_option maxRecDepth 100000 in
theorem mG_29 {ca : Nat → ClassId} {h0 : Nat} {ad : Nat → Nat} {u : mST} : (mCl ca h0 ad u)[19]? = some (ad 29, .inl (ca 29, 40, .inl (u.2.1 29))) := rfl
set_option maxRecDepth 100000 in
theorem mSA_29 {ca : Nat → ClassId} {h0 : Nat} {ad : Nat → Nat} {u : mST} {i : Nat} {x : Int32} : (mCl ca h0 ad u).set 19 (ad 29, .inl (ca 29, 40, .inl (upd (u.2.1 29) i x))) = mCl ca h0 ad (mA u 29 i x) := rfl
set_option maxRecDepth 100000 in
theorem mF_30 {ad : Nat → Nat} {u : mST} : (mFs ad u)[30]? = some (.int (u.1 30)) := rfl
set_option maxRecDepth 100000 in
theorem mSI_30 {ca : Nat → ClassId} {h0 : Nat} {ad : Nat → Nat} {u : mST} {x : Int32} : (mCl ca h0 ad u).set 0 (h0, .inr (12, (mFs ad u).set 30 (.int x))) = mCl ca h0 ad (mI u 30 x) := rfl
set_option maxRecDepth 100000 in
theorem mF_31 {ad : Nat → Nat} {u : mST} : (mFs ad u)[31]? = some (.ref (ad 31)) := rfl
set_option maxRecDepth 100000 in
theorem mG_31 {ca : Nat → ClassId} {h0 : Nat} {ad : Nat → Nat} {u : mST} : (mCl ca h0 ad u)[20]? = some (ad 31, .inl (ca 31, 1100, .inl (u.2.1 31))) := rfl
set_option maxRecDepth 100000 in
theorem mSA_31 {ca : Nat → ClassId} {h0 : Nat} {ad : Nat → Nat} {u : mST} {i : Nat} {x : Int32} : (mCl ca h0 ad u).set 20 (ad 31, .inl (ca 31, 1100, .inl (upd (u.2.1 31) i x))) = mCl ca h0 ad (mA u 31 i x) := rfl
set_option maxRecDepth 100000 in
theorem mF_32 {ad : Nat → Nat} {u : mST} : (mFs ad u)[32]? = some (.int (u.1 32)) := rfl
set_option maxRecDepth 100000 in
theorem mSI_32 {ca : Nat → ClassId} {h0 : Nat} {ad : Nat → Nat} {u : mST} {x : Int32} : (mCl ca h0 ad u).set 0 (h0, .inr (12, (mFs ad u).set 32 (.int x))) = mCl ca h0 ad (mI u 32 x) := rfl
set_option maxRecDepth 100000 in
theorem mF_33 {ad : Nat → Nat} {u : mST} : (mFs ad u)[33]? = some (.int (u.1 33)) := rfl
set_option maxRecDepth 100000 in
theorem mSI_33 {ca : Nat → ClassId} {h0 : Nat} {ad : Nat → Nat} {u : mST} {x : Int32} : (mCl ca h0 ad u).set 0 (h0, .inr (12, (mFs ad u).set 33 (.int x))) = mCl ca h0 ad (mI u 33 x) := rfl
set_option maxRecDepth 100000 in
theorem mF_34 {ad : Nat → Nat} {u : mST} : (mFs ad u)[34]? = some (.int (u.1 34)) := rfl
set_option maxRecDepth 100000 in
theorem mSI_34 {ca : Nat → ClassId} {h0 : Nat} {ad : Nat → Nat} {u : mST} {x : Int32} : (mCl ca h0 ad u).set 0 (h0, .inr (12, (mFs ad u).set 34 (.int x))) = mCl ca h0 ad (mI u 34 x) := rfl
set_option maxRecDepth 100000 in
theorem mF_35 {ad : Nat → Nat} {u : mST} : (mFs ad u)[35]? = some (.int (u.1 35)) := rfl
set_option maxRecDepth 100000 in
theorem mSI_35 {ca : Nat → ClassId} {h0 : Nat} {ad : Nat → Nat} {u : mST} {x : Int32} : (mCl ca h0 ad u).set 0 (h0, .inr (12, (mFs ad u).set 35 (.int x))) = mCl ca h0 ad (mI u 35 x) := rfl
set_option maxRecDepth 100000 in
theorem mF_36 {ad : Nat → Nat} {u : mST} : (mFs ad u)[36]? = some (.ref (ad 36)) := rfl
set_option maxRecDepth 100000 in
theorem mG_36 {ca : Nat → ClassId} {h0 : Nat} {ad : Nat → Nat} {u : mST} : (mCl ca h0 ad u)[21]? = some (ad 36, .inl (ca 36, 40, .inl (u.2.1 36))) := rfl
set_option maxRecDepth 100000 in
theorem mSA_36 {ca : Nat → ClassId} {h0 : Nat} {ad : Nat → Nat} {u : mST} {i : Nat} {x : Int32} : (mCl ca h0 ad u).set 21 (ad 36, .inl (ca 36, 40, .inl (upd (u.2.1 36) i x))) = mCl ca h0 ad (mA u 36 i x) := rfl
set_option maxRecDepth 100000 in
theorem mF_37 {ad : Nat → Nat} {u : mST} : (mFs ad u)[37]? = some (.ref (ad 37)) := rfl
set_option maxRecDepth 100000 in
theorem mG_37 {ca : Nat → ClassId} {h0 : Nat} {ad : Nat → Nat} {u : mST} : (mCl ca h0 ad u)[22]? = some (ad 37, .inl (ca 37, 40, .inl (u.2.1 37))) := rfl
set_option maxRecDepth 100000 in
theorem mSA_37 {ca : Nat → ClassId} {h0 : Nat} {ad : Nat → Nat} {u : mST} {i : Nat} {x : Int32} : (mCl ca h0 ad u).set 22 (ad 37, .inl (ca 37, 40, .inl (upd (u.2.1 37) i x))) = mCl ca h0 ad (mA u 37 i x) := rfl
set_option maxRecDepth 100000 in
theorem mF_38 {ad : Nat → Nat} {u : mST} : (mFs ad u)[38]? = some (.ref (ad 38)) := rfl
set_option maxRecDepth 100000 in
theorem mG_38 {ca : Nat → ClassId} {h0 : Nat} {ad : Nat → Nat} {u : mST} : (mCl ca h0 ad u)[23]? = some (ad 38, .inl (ca 38, 240, .inl (u.2.1 38))) := rfl
set_option maxRecDepth 100000 in
theorem mSA_38 {ca : Nat → ClassId} {h0 : Nat} {ad : Nat → Nat} {u : mST} {i : Nat} {x : Int32} : (mCl ca h0 ad u).set 23 (ad 38, .inl (ca 38, 240, .inl (upd (u.2.1 38) i x))) = mCl ca h0 ad (mA u 38 i x) := rfl
set_option maxRecDepth 100000 in
theorem mF_39 {ad : Nat → Nat} {u : mST} : (mFs ad u)[39]? = some (.ref (ad 39)) := rfl
set_option maxRecDepth 100000 in
theorem mG_39 {ca : Nat → ClassId} {h0 : Nat} {ad : Nat → Nat} {u : mST} : (mCl ca h0 ad u)[24]? = some (ad 39, .inl (ca 39, 40, .inl (u.2.1 39))) := rfl
set_option maxRecDepth 100000 in
theorem mSA_39 {ca : Nat → ClassId} {h0 : Nat} {ad : Nat → Nat} {u : mST} {i : Nat} {x : Int32} : (mCl ca h0 ad u).set 24 (ad 39, .inl (ca 39, 40, .inl (upd (u.2.1 39) i x))) = mCl ca h0 ad (mA u 39 i x) := rfl
set_option maxRecDepth 100000 in
theorem mF_40 {ad : Nat → Nat} {u : mST} : (mFs ad u)[40]? = some (.ref (ad 40)) := rfl
set_option maxRecDepth 100000 in
theorem mG_40 {ca : Nat → ClassId} {h0 : Nat} {ad : Nat → Nat} {u : mST} : (mCl ca h0 ad u)[25]? = some (ad 40, .inl (ca 40, 40, .inl (u.2.1 40))) := rfl
set_option maxRecDepth 100000 in
theorem mSA_40 {ca : Nat → ClassId} {h0 : Nat} {ad : Nat → Nat} {u : mST} {i : Nat} {x : Int32} : (mCl ca h0 ad u).set 25 (ad 40, .inl (ca 40, 40, .inl (upd (u.2.1 40) i x))) = mCl ca h0 ad (mA u 40 i x) := rfl
set_option maxRecDepth 100000 in
theorem mF_41 {ad : Nat → Nat} {u : mST} : (mFs ad u)[41]? = some (.ref (ad 41)) := rfl
set_option maxRecDepth 100000 in
theorem mG_41 {ca : Nat → ClassId} {h0 : Nat} {ad : Nat → Nat} {u : mST} : (mCl ca h0 ad u)[26]? = some (ad 41, .inl (ca 41, 40, .inl (u.2.1 41))) := rfl
set_option maxRecDepth 100000 in
theorem mSA_41 {ca : Nat → ClassId} {h0 : Nat} {ad : Nat → Nat} {u : mST} {i : Nat} {x : Int32} : (mCl ca h0 ad u).set 26 (ad 41, .inl (ca 41, 40, .inl (upd (u.2.1 41) i x))) = mCl ca h0 ad (mA u 41 i x) := rfl
set_option maxRecDepth 100000 in
theorem mF_42 {ad : Nat → Nat} {u : mST} : (mFs ad u)[42]? = some (.int (u.1 42)) := rfl
set_option maxRecDepth 100000 in
theorem mSI_42 {ca : Nat → ClassId} {h0 : Nat} {ad : Nat → Nat} {u : mST} {x : Int32} : (mCl ca h0 ad u).set 0 (h0, .inr (12, (mFs ad u).set 42 (.int x))) = mCl ca h0 ad (mI u 42 x) := rfl
set_option maxRecDepth 100000 in
theorem mF_43 {ad : Nat → Nat} {u : mST} : (mFs ad u)[43]? = some (.ref (ad 43)) := rfl
set_option maxRecDepth 100000 in
theorem mG_43 {ca : Nat → ClassId} {h0 : Nat} {ad : Nat → Nat} {u : mST} : (mCl ca h0 ad u)[27]? = some (ad 43, .inl (ca 43, 60, .inl (u.2.1 43))) := rfl
set_option maxRecDepth 100000 in
theorem mSA_43 {ca : Nat → ClassId} {h0 : Nat} {ad : Nat → Nat} {u : mST} {i : Nat} {x : Int32} : (mCl ca h0 ad u).set 27 (ad 43, .inl (ca 43, 60, .inl (upd (u.2.1 43) i x))) = mCl ca h0 ad (mA u 43 i x) := rfl
set_option maxRecDepth 100000 in
theorem mF_44 {ad : Nat → Nat} {u : mST} : (mFs ad u)[44]? = some (.ref (ad 44)) := rfl
set_option maxRecDepth 100000 in
theorem mG_44 {ca : Nat → ClassId} {h0 : Nat} {ad : Nat → Nat} {u : mST} : (mCl ca h0 ad u)[28]? = some (ad 44, .inl (ca 44, 60, .inl (u.2.1 44))) := rfl
set_option maxRecDepth 100000 in
theorem mSA_44 {ca : Nat → ClassId} {h0 : Nat} {ad : Nat → Nat} {u : mST} {i : Nat} {x : Int32} : (mCl ca h0 ad u).set 28 (ad 44, .inl (ca 44, 60, .inl (upd (u.2.1 44) i x))) = mCl ca h0 ad (mA u 44 i x) := rfl
set_option maxRecDepth 100000 in
theorem mF_45 {ad : Nat → Nat} {u : mST} : (mFs ad u)[45]? = some (.ref (ad 45)) := rfl
set_option maxRecDepth 100000 in
theorem mG_45 {ca : Nat → ClassId} {h0 : Nat} {ad : Nat → Nat} {u : mST} : (mCl ca h0 ad u)[29]? = some (ad 45, .inl (ca 45, 60, .inl (u.2.1 45))) := rfl
set_option maxRecDepth 100000 in
theorem mSA_45 {ca : Nat → ClassId} {h0 : Nat} {ad : Nat → Nat} {u : mST} {i : Nat} {x : Int32} : (mCl ca h0 ad u).set 29 (ad 45, .inl (ca 45, 60, .inl (upd (u.2.1 45) i x))) = mCl ca h0 ad (mA u 45 i x) := rfl
set_option maxRecDepth 100000 in
theorem mF_46 {ad : Nat → Nat} {u : mST} : (mFs ad u)[46]? = some (.ref (ad 46)) := rfl
set_option maxRecDepth 100000 in
theorem mG_46 {ca : Nat → ClassId} {h0 : Nat} {ad : Nat → Nat} {u : mST} : (mCl ca h0 ad u)[30]? = some (ad 46, .inl (ca 46, 60, .inl (u.2.1 46))) := rfl
set_option maxRecDepth 100000 in
theorem mSA_46 {ca : Nat → ClassId} {h0 : Nat} {ad : Nat → Nat} {u : mST} {i : Nat} {x : Int32} : (mCl ca h0 ad u).set 30 (ad 46, .inl (ca 46, 60, .inl (upd (u.2.1 46) i x))) = mCl ca h0 ad (mA u 46 i x) := rfl
set_option maxRecDepth 100000 in
theorem mF_47 {ad : Nat → Nat} {u : mST} : (mFs ad u)[47]? = some (.ref (ad 47)) := rfl
set_option maxRecDepth 100000 in
theorem mG_47 {ca : Nat → ClassId} {h0 : Nat} {ad : Nat → Nat} {u : mST} : (mCl ca h0 ad u)[31]? = some (ad 47, .inl (ca 47, 60, .inl (u.2.1 47))) := rfl
set_option maxRecDepth 100000 in
theorem mSA_47 {ca : Nat → ClassId} {h0 : Nat} {ad : Nat → Nat} {u : mST} {i : Nat} {x : Int32} : (mCl ca h0 ad u).set 31 (ad 47, .inl (ca 47, 60, .inl (upd (u.2.1 47) i x))) = mCl ca h0 ad (mA u 47 i x) := rfl
set_option maxRecDepth 100000 in
theorem mF_48 {ad : Nat → Nat} {u : mST} : (mFs ad u)[48]? = some (.ref (ad 48)) := rfl
set_option maxRecDepth 100000 in
theorem mG_48 {ca : Nat → ClassId} {h0 : Nat} {ad : Nat → Nat} {u : mST} : (mCl ca h0 ad u)[32]? = some (ad 48, .inl (ca 48, 60, .inl (u.2.1 48))) := rfl
set_option maxRecDepth 100000 in
theorem mSA_48 {ca : Nat → ClassId} {h0 : Nat} {ad : Nat → Nat} {u : mST} {i : Nat} {x : Int32} : (mCl ca h0 ad u).set 32 (ad 48, .inl (ca 48, 60, .inl (upd (u.2.1 48) i x))) = mCl ca h0 ad (mA u 48 i x) := rfl
set_option maxRecDepth 100000 in
theorem mF_49 {ad : Nat → Nat} {u : mST} : (mFs ad u)[49]? = some (.ref (ad 49)) := rfl
set_option maxRecDepth 100000 in
theorem mG_49 {ca : Nat → ClassId} {h0 : Nat} {ad : Nat → Nat} {u : mST} : (mCl ca h0 ad u)[33]? = some (ad 49, .inl (ca 49, 7200, .inl (u.2.1 49))) := rfl
set_option maxRecDepth 100000 in
theorem mSA_49 {ca : Nat → ClassId} {h0 : Nat} {ad : Nat → Nat} {u : mST} {i : Nat} {x : Int32} : (mCl ca h0 ad u).set 33 (ad 49, .inl (ca 49, 7200, .inl (upd (u.2.1 49) i x))) = mCl ca h0 ad (mA u 49 i x) := rfl
set_option maxRecDepth 100000 in
theorem mF_50 {ad : Nat → Nat} {u : mST} : (mFs ad u)[50]? = some (.ref (ad 50)) := rfl
set_option maxRecDepth 100000 in
theorem mG_50 {ca : Nat → ClassId} {h0 : Nat} {ad : Nat → Nat} {u : mST} : (mCl ca h0 ad u)[34]? = some (ad 50, .inl (ca 50, 60, .inl (u.2.1 50))) := rfl
set_option maxRecDepth 100000 in
theorem mSA_50 {ca : Nat → ClassId} {h0 : Nat} {ad : Nat → Nat} {u : mST} {i : Nat} {x : Int32} : (mCl ca h0 ad u).set 34 (ad 50, .inl (ca 50, 60, .inl (upd (u.2.1 50) i x))) = mCl ca h0 ad (mA u 50 i x) := rfl
set_option maxRecDepth 100000 in
theorem mF_51 {ad : Nat → Nat} {u : mST} : (mFs ad u)[51]? = some (.ref (ad 51)) := rfl
set_option maxRecDepth 100000 in
theorem mG_51 {ca : Nat → ClassId} {h0 : Nat} {ad : Nat → Nat} {u : mST} : (mCl ca h0 ad u)[35]? = some (ad 51, .inl (ca 51, 60, .inl (u.2.1 51))) := rfl
set_option maxRecDepth 100000 in
theorem mSA_51 {ca : Nat → ClassId} {h0 : Nat} {ad : Nat → Nat} {u : mST} {i : Nat} {x : Int32} : (mCl ca h0 ad u).set 35 (ad 51, .inl (ca 51, 60, .inl (upd (u.2.1 51) i x))) = mCl ca h0 ad (mA u 51 i x) := rfl
set_option maxRecDepth 100000 in
theorem mF_52 {ad : Nat → Nat} {u : mST} : (mFs ad u)[52]? = some (.ref (ad 52)) := rfl
set_option maxRecDepth 100000 in
theorem mG_52 {ca : Nat → ClassId} {h0 : Nat} {ad : Nat → Nat} {u : mST} : (mCl ca h0 ad u)[36]? = some (ad 52, .inl (ca 52, 60, .inl (u.2.1 52))) := rfl
set_option maxRecDepth 100000 in
theorem mSA_52 {ca : Nat → ClassId} {h0 : Nat} {ad : Nat → Nat} {u : mST} {i : Nat} {x : Int32} : (mCl ca h0 ad u).set 36 (ad 52, .inl (ca 52, 60, .inl (upd (u.2.1 52) i x))) = mCl ca h0 ad (mA u 52 i x) := rfl
set_option maxRecDepth 100000 in
theorem mF_53 {ad : Nat → Nat} {u : mST} : (mFs ad u)[53]? = some (.ref (ad 53)) := rfl
set_option maxRecDepth 100000 in
theorem mG_53 {ca : Nat → ClassId} {h0 : Nat} {ad : Nat → Nat} {u : mST} : (mCl ca h0 ad u)[37]? = some (ad 53, .inl (ca 53, 60, .inl (u.2.1 53))) := rfl
set_option maxRecDepth 100000 in
theorem mSA_53 {ca : Nat → ClassId} {h0 : Nat} {ad : Nat → Nat} {u : mST} {i : Nat} {x : Int32} : (mCl ca h0 ad u).set 37 (ad 53, .inl (ca 53, 60, .inl (upd (u.2.1 53) i x))) = mCl ca h0 ad (mA u 53 i x) := rfl
set_option maxRecDepth 100000 in
theorem mF_54 {ad : Nat → Nat} {u : mST} : (mFs ad u)[54]? = some (.int (u.1 54)) := rfl
set_option maxRecDepth 100000 in
theorem mSI_54 {ca : Nat → ClassId} {h0 : Nat} {ad : Nat → Nat} {u : mST} {x : Int32} : (mCl ca h0 ad u).set 0 (h0, .inr (12, (mFs ad u).set 54 (.int x))) = mCl ca h0 ad (mI u 54 x) := rfl
set_option maxRecDepth 100000 in
theorem mF_55 {ad : Nat → Nat} {u : mST} : (mFs ad u)[55]? = some (.ref (ad 55)) := rfl
set_option maxRecDepth 100000 in
theorem mG_55 {ca : Nat → ClassId} {h0 : Nat} {ad : Nat → Nat} {u : mST} : (mCl ca h0 ad u)[38]? = some (ad 55, .inl (ca 55, 100, .inl (u.2.1 55))) := rfl
set_option maxRecDepth 100000 in
theorem mSA_55 {ca : Nat → ClassId} {h0 : Nat} {ad : Nat → Nat} {u : mST} {i : Nat} {x : Int32} : (mCl ca h0 ad u).set 38 (ad 55, .inl (ca 55, 100, .inl (upd (u.2.1 55) i x))) = mCl ca h0 ad (mA u 55 i x) := rfl
set_option maxRecDepth 100000 in
theorem mF_56 {ad : Nat → Nat} {u : mST} : (mFs ad u)[56]? = some (.ref (ad 56)) := rfl
set_option maxRecDepth 100000 in
theorem mG_56 {ca : Nat → ClassId} {h0 : Nat} {ad : Nat → Nat} {u : mST} : (mCl ca h0 ad u)[39]? = some (ad 56, .inl (ca 56, 100, .inl (u.2.1 56))) := rfl
set_option maxRecDepth 100000 in
theorem mSA_56 {ca : Nat → ClassId} {h0 : Nat} {ad : Nat → Nat} {u : mST} {i : Nat} {x : Int32} : (mCl ca h0 ad u).set 39 (ad 56, .inl (ca 56, 100, .inl (upd (u.2.1 56) i x))) = mCl ca h0 ad (mA u 56 i x) := rfl
set_option maxRecDepth 100000 in
theorem mF_57 {ad : Nat → Nat} {u : mST} : (mFs ad u)[57]? = some (.int (u.1 57)) := rfl
set_option maxRecDepth 100000 in
theorem mSI_57 {ca : Nat → ClassId} {h0 : Nat} {ad : Nat → Nat} {u : mST} {x : Int32} : (mCl ca h0 ad u).set 0 (h0, .inr (12, (mFs ad u).set 57 (.int x))) = mCl ca h0 ad (mI u 57 x) := rfl
set_option maxRecDepth 100000 in
theorem mF_58 {ad : Nat → Nat} {u : mST} : (mFs ad u)[58]? = some (.int (u.1 58)) := rfl
set_option maxRecDepth 100000 in
theorem mSI_58 {ca : Nat → ClassId} {h0 : Nat} {ad : Nat → Nat} {u : mST} {x : Int32} : (mCl ca h0 ad u).set 0 (h0, .inr (12, (mFs ad u).set 58 (.int x))) = mCl ca h0 ad (mI u 58 x) := rfl
set_option maxRecDepth 100000 in
theorem mF_59 {ad : Nat → Nat} {u : mST} : (mFs ad u)[59]? = some (.int (u.1 59)) := rfl
set_option maxRecDepth 100000 in
theorem mSI_59 {ca : Nat → ClassId} {h0 : Nat} {ad : Nat → Nat} {u : mST} {x : Int32} : (mCl ca h0 ad u).set 0 (h0, .inr (12, (mFs ad u).set 59 (.int x))) = mCl ca h0 ad (mI u 59 x) := rfl
set_option maxRecDepth 100000 in
theorem mF_60 {ad : Nat → Nat} {u : mST} : (mFs ad u)[60]? = some (.int (u.1 60)) := rfl
set_option maxRecDepth 100000 in
theorem mSI_60 {ca : Nat → ClassId} {h0 : Nat} {ad : Nat → Nat} {u : mST} {x : Int32} : (mCl ca h0 ad u).set 0 (h0, .inr (12, (mFs ad u).set 60 (.int x))) = mCl ca h0 ad (mI u 60 x) := rfl
set_option maxRecDepth 100000 in
theorem mF_61 {ad : Nat → Nat} {u : mST} : (mFs ad u)[61]? = some (.int (u.1 61)) := rfl
set_option maxRecDepth 100000 in
theorem mSI_61 {ca : Nat → ClassId} {h0 : Nat} {ad : Nat → Nat} {u : mST} {x : Int32} : (mCl ca h0 ad u).set 0 (h0, .inr (12, (mFs ad u).set 61 (.int x))) = mCl ca h0 ad (mI u 61 x) := rfl
set_option maxRecDepth 100000 in
theorem mF_62 {ad : Nat → Nat} {u : mST} : (mFs ad u)[62]? = some (.int (u.1 62)) := rfl
set_option maxRecDepth 100000 in
theorem mSI_62 {ca : Nat → ClassId} {h0 : Nat} {ad : Nat → Nat} {u : mST} {x : Int32} : (mCl ca h0 ad u).set 0 (h0, .inr (12, (mFs ad u).set 62 (.int x))) = mCl ca h0 ad (mI u 62 x) := rfl
set_option maxRecDepth 100000 in
theorem mF_63 {ad : Nat → Nat} {u : mST} : (mFs ad u)[63]? = some (.int (u.1 63)) := rfl
set_option maxRecDepth 100000 in
theorem mSI_63 {ca : Nat → ClassId} {h0 : Nat} {ad : Nat → Nat} {u : mST} {x : Int32} : (mCl ca h0 ad u).set 0 (h0, .inr (12, (mFs ad u).set 63 (.int x))) = mCl ca h0 ad (mI u 63 x) := rfl
set_option maxRecDepth 100000 in
theorem mF_64 {ad : Nat → Nat} {u : mST} : (mFs ad u)[64]? = some (.int (u.1 64)) := rfl
set_option maxRecDepth 100000 in
theorem mSI_64 {ca : Nat → ClassId} {h0 : Nat} {ad : Nat → Nat} {u : mST} {x : Int32} : (mCl ca h0 ad u).set 0 (h0, .inr (12, (mFs ad u).set 64 (.int x))) = mCl ca h0 ad (mI u 64 x) := rfl
set_option maxRecDepth 100000 in
theorem mF_65 {ad : Nat → Nat} {u : mST} : (mFs ad u)[65]? = some (.ref (ad 65)) := rfl
set_option maxRecDepth 100000 in
theorem mG_65 {ca : Nat → ClassId} {h0 : Nat} {ad : Nat → Nat} {u : mST} : (mCl ca h0 ad u)[40]? = some (ad 65, .inl (ca 65, 200, .inl (u.2.1 65))) := rfl
set_option maxRecDepth 100000 in
theorem mSA_65 {ca : Nat → ClassId} {h0 : Nat} {ad : Nat → Nat} {u : mST} {i : Nat} {x : Int32} : (mCl ca h0 ad u).set 40 (ad 65, .inl (ca 65, 200, .inl (upd (u.2.1 65) i x))) = mCl ca h0 ad (mA u 65 i x) := rfl
set_option maxRecDepth 100000 in
theorem mF_66 {ad : Nat → Nat} {u : mST} : (mFs ad u)[66]? = some (.ref (ad 66)) := rfl
set_option maxRecDepth 100000 in
theorem mG_66 {ca : Nat → ClassId} {h0 : Nat} {ad : Nat → Nat} {u : mST} : (mCl ca h0 ad u)[41]? = some (ad 66, .inl (ca 66, 1200, .inl (u.2.1 66))) := rfl
set_option maxRecDepth 100000 in
theorem mSA_66 {ca : Nat → ClassId} {h0 : Nat} {ad : Nat → Nat} {u : mST} {i : Nat} {x : Int32} : (mCl ca h0 ad u).set 41 (ad 66, .inl (ca 66, 1200, .inl (upd (u.2.1 66) i x))) = mCl ca h0 ad (mA u 66 i x) := rfl
set_option maxRecDepth 100000 in
theorem mF_67 {ad : Nat → Nat} {u : mST} : (mFs ad u)[67]? = some (.ref (ad 67)) := rfl
set_option maxRecDepth 100000 in
theorem mG_67 {ca : Nat → ClassId} {h0 : Nat} {ad : Nat → Nat} {u : mST} : (mCl ca h0 ad u)[42]? = some (ad 67, .inl (ca 67, 1200, .inl (u.2.1 67))) := rfl
set_option maxRecDepth 100000 in
theorem mSA_67 {ca : Nat → ClassId} {h0 : Nat} {ad : Nat → Nat} {u : mST} {i : Nat} {x : Int32} : (mCl ca h0 ad u).set 42 (ad 67, .inl (ca 67, 1200, .inl (upd (u.2.1 67) i x))) = mCl ca h0 ad (mA u 67 i x) := rfl
set_option maxRecDepth 100000 in
theorem mF_68 {ad : Nat → Nat} {u : mST} : (mFs ad u)[68]? = some (.ref (ad 68)) := rfl
set_option maxRecDepth 100000 in
theorem mG_68 {ca : Nat → ClassId} {h0 : Nat} {ad : Nat → Nat} {u : mST} : (mCl ca h0 ad u)[43]? = some (ad 68, .inl (ca 68, 1200, .inl (u.2.1 68))) := rfl
set_option maxRecDepth 100000 in
theorem mSA_68 {ca : Nat → ClassId} {h0 : Nat} {ad : Nat → Nat} {u : mST} {i : Nat} {x : Int32} : (mCl ca h0 ad u).set 43 (ad 68, .inl (ca 68, 1200, .inl (upd (u.2.1 68) i x))) = mCl ca h0 ad (mA u 68 i x) := rfl
set_option maxRecDepth 100000 in
theorem mF_69 {ad : Nat → Nat} {u : mST} : (mFs ad u)[69]? = some (.int (u.1 69)) := rfl
set_option maxRecDepth 100000 in
theorem mSI_69 {ca : Nat → ClassId} {h0 : Nat} {ad : Nat → Nat} {u : mST} {x : Int32} : (mCl ca h0 ad u).set 0 (h0, .inr (12, (mFs ad u).set 69 (.int x))) = mCl ca h0 ad (mI u 69 x) := rfl
set_option maxRecDepth 100000 in
theorem mF_70 {ad : Nat → Nat} {u : mST} : (mFs ad u)[70]? = some (.ref (ad 70)) := rfl
set_option maxRecDepth 100000 in
theorem mG_70 {ca : Nat → ClassId} {h0 : Nat} {ad : Nat → Nat} {u : mST} : (mCl ca h0 ad u)[44]? = some (ad 70, .inl (ca 70, 2400, .inl (u.2.1 70))) := rfl
set_option maxRecDepth 100000 in
theorem mSA_70 {ca : Nat → ClassId} {h0 : Nat} {ad : Nat → Nat} {u : mST} {i : Nat} {x : Int32} : (mCl ca h0 ad u).set 44 (ad 70, .inl (ca 70, 2400, .inl (upd (u.2.1 70) i x))) = mCl ca h0 ad (mA u 70 i x) := rfl
set_option maxRecDepth 100000 in
theorem mF_71 {ad : Nat → Nat} {u : mST} : (mFs ad u)[71]? = some (.int (u.1 71)) := rfl
set_option maxRecDepth 100000 in
theorem mSI_71 {ca : Nat → ClassId} {h0 : Nat} {ad : Nat → Nat} {u : mST} {x : Int32} : (mCl ca h0 ad u).set 0 (h0, .inr (12, (mFs ad u).set 71 (.int x))) = mCl ca h0 ad (mI u 71 x) := rfl
set_option maxRecDepth 100000 in
theorem mF_72 {ad : Nat → Nat} {u : mST} : (mFs ad u)[72]? = some (.ref (ad 72)) := rfl
set_option maxRecDepth 100000 in
theorem mG_72 {ca : Nat → ClassId} {h0 : Nat} {ad : Nat → Nat} {u : mST} : (mCl ca h0 ad u)[45]? = some (ad 72, .inl (ca 72, 400, .inl (u.2.1 72))) := rfl
set_option maxRecDepth 100000 in
theorem mSA_72 {ca : Nat → ClassId} {h0 : Nat} {ad : Nat → Nat} {u : mST} {i : Nat} {x : Int32} : (mCl ca h0 ad u).set 45 (ad 72, .inl (ca 72, 400, .inl (upd (u.2.1 72) i x))) = mCl ca h0 ad (mA u 72 i x) := rfl
set_option maxRecDepth 100000 in
theorem mF_73 {ad : Nat → Nat} {u : mST} : (mFs ad u)[73]? = some (.ref (ad 73)) := rfl
set_option maxRecDepth 100000 in
theorem mG_73 {ca : Nat → ClassId} {h0 : Nat} {ad : Nat → Nat} {u : mST} : (mCl ca h0 ad u)[46]? = some (ad 73, .inl (ca 73, 400, .inl (u.2.1 73))) := rfl
set_option maxRecDepth 100000 in
theorem mSA_73 {ca : Nat → ClassId} {h0 : Nat} {ad : Nat → Nat} {u : mST} {i : Nat} {x : Int32} : (mCl ca h0 ad u).set 46 (ad 73, .inl (ca 73, 400, .inl (upd (u.2.1 73) i x))) = mCl ca h0 ad (mA u 73 i x) := rfl
set_option maxRecDepth 100000 in
theorem mF_74 {ad : Nat → Nat} {u : mST} : (mFs ad u)[74]? = some (.int (u.1 74)) := rfl
set_option maxRecDepth 100000 in
theorem mSI_74 {ca : Nat → ClassId} {h0 : Nat} {ad : Nat → Nat} {u : mST} {x : Int32} : (mCl ca h0 ad u).set 0 (h0, .inr (12, (mFs ad u).set 74 (.int x))) = mCl ca h0 ad (mI u 74 x) := rfl
set_option maxRecDepth 100000 in
theorem mF_75 {ad : Nat → Nat} {u : mST} : (mFs ad u)[75]? = some (.ref (ad 75)) := rfl
set_option maxRecDepth 100000 in
theorem mG_75 {ca : Nat → ClassId} {h0 : Nat} {ad : Nat → Nat} {u : mST} : (mCl ca h0 ad u)[47]? = some (ad 75, .inl (ca 75, 400, .inl (u.2.1 75))) := rfl
set_option maxRecDepth 100000 in
theorem mSA_75 {ca : Nat → ClassId} {h0 : Nat} {ad : Nat → Nat} {u : mST} {i : Nat} {x : Int32} : (mCl ca h0 ad u).set 47 (ad 75, .inl (ca 75, 400, .inl (upd (u.2.1 75) i x))) = mCl ca h0 ad (mA u 75 i x) := rfl
set_option maxRecDepth 100000 in
theorem mF_76 {ad : Nat → Nat} {u : mST} : (mFs ad u)[76]? = some (.int (u.1 76)) := rfl
set_option maxRecDepth 100000 in
theorem mSI_76 {ca : Nat → ClassId} {h0 : Nat} {ad : Nat → Nat} {u : mST} {x : Int32} : (mCl ca h0 ad u).set 0 (h0, .inr (12, (mFs ad u).set 76 (.int x))) = mCl ca h0 ad (mI u 76 x) := rfl
set_option maxRecDepth 100000 in
theorem mF_77 {ad : Nat → Nat} {u : mST} : (mFs ad u)[77]? = some (.ref (ad 77)) := rfl
set_option maxRecDepth 100000 in
theorem mG_77 {ca : Nat → ClassId} {h0 : Nat} {ad : Nat → Nat} {u : mST} : (mCl ca h0 ad u)[48]? = some (ad 77, .inl (ca 77, 130, .inl (u.2.1 77))) := rfl
set_option maxRecDepth 100000 in
theorem mSA_77 {ca : Nat → ClassId} {h0 : Nat} {ad : Nat → Nat} {u : mST} {i : Nat} {x : Int32} : (mCl ca h0 ad u).set 48 (ad 77, .inl (ca 77, 130, .inl (upd (u.2.1 77) i x))) = mCl ca h0 ad (mA u 77 i x) := rfl
set_option maxRecDepth 100000 in
theorem mF_78 {ad : Nat → Nat} {u : mST} : (mFs ad u)[78]? = some (.int (u.1 78)) := rfl
set_option maxRecDepth 100000 in
theorem mSI_78 {ca : Nat → ClassId} {h0 : Nat} {ad : Nat → Nat} {u : mST} {x : Int32} : (mCl ca h0 ad u).set 0 (h0, .inr (12, (mFs ad u).set 78 (.int x))) = mCl ca h0 ad (mI u 78 x) := rfl
set_option maxRecDepth 100000 in
theorem mF_79 {ad : Nat → Nat} {u : mST} : (mFs ad u)[79]? = some (.ref (ad 79)) := rfl
set_option maxRecDepth 100000 in
theorem mG_79 {ca : Nat → ClassId} {h0 : Nat} {ad : Nat → Nat} {u : mST} : (mCl ca h0 ad u)[49]? = some (ad 79, .inl (ca 79, 300, .inl (u.2.1 79))) := rfl
set_option maxRecDepth 100000 in
theorem mSA_79 {ca : Nat → ClassId} {h0 : Nat} {ad : Nat → Nat} {u : mST} {i : Nat} {x : Int32} : (mCl ca h0 ad u).set 49 (ad 79, .inl (ca 79, 300, .inl (upd (u.2.1 79) i x))) = mCl ca h0 ad (mA u 79 i x) := rfl
set_option maxRecDepth 100000 in
theorem mF_80 {ad : Nat → Nat} {u : mST} : (mFs ad u)[80]? = some (.ref (ad 80)) := rfl
set_option maxRecDepth 100000 in
theorem mG_80 {ca : Nat → ClassId} {h0 : Nat} {ad : Nat → Nat} {u : mST} : (mCl ca h0 ad u)[50]? = some (ad 80, .inl (ca 80, 300, .inl (u.2.1 80))) := rfl
set_option maxRecDepth 100000 in
theorem mSA_80 {ca : Nat → ClassId} {h0 : Nat} {ad : Nat → Nat} {u : mST} {i : Nat} {x : Int32} : (mCl ca h0 ad u).set 50 (ad 80, .inl (ca 80, 300, .inl (upd (u.2.1 80) i x))) = mCl ca h0 ad (mA u 80 i x) := rfl
set_option maxRecDepth 100000 in
theorem mF_81 {ad : Nat → Nat} {u : mST} : (mFs ad u)[81]? = some (.ref (ad 81)) := rfl
set_option maxRecDepth 100000 in
theorem mG_81 {ca : Nat → ClassId} {h0 : Nat} {ad : Nat → Nat} {u : mST} : (mCl ca h0 ad u)[51]? = some (ad 81, .inl (ca 81, 300, .inl (u.2.1 81))) := rfl
set_option maxRecDepth 100000 in
theorem mSA_81 {ca : Nat → ClassId} {h0 : Nat} {ad : Nat → Nat} {u : mST} {i : Nat} {x : Int32} : (mCl ca h0 ad u).set 51 (ad 81, .inl (ca 81, 300, .inl (upd (u.2.1 81) i x))) = mCl ca h0 ad (mA u 81 i x) := rfl
set_option maxRecDepth 100000 in
theorem mF_82 {ad : Nat → Nat} {u : mST} : (mFs ad u)[82]? = some (.ref (ad 82)) := rfl
set_option maxRecDepth 100000 in
theorem mG_82 {ca : Nat → ClassId} {h0 : Nat} {ad : Nat → Nat} {u : mST} : (mCl ca h0 ad u)[52]? = some (ad 82, .inl (ca 82, 300, .inl (u.2.1 82))) := rfl
set_option maxRecDepth 100000 in
theorem mSA_82 {ca : Nat → ClassId} {h0 : Nat} {ad : Nat → Nat} {u : mST} {i : Nat} {x : Int32} : (mCl ca h0 ad u).set 52 (ad 82, .inl (ca 82, 300, .inl (upd (u.2.1 82) i x))) = mCl ca h0 ad (mA u 82 i x) := rfl
set_option maxRecDepth 100000 in
theorem mF_83 {ad : Nat → Nat} {u : mST} : (mFs ad u)[83]? = some (.ref (ad 83)) := rfl
set_option maxRecDepth 100000 in
theorem mG_83 {ca : Nat → ClassId} {h0 : Nat} {ad : Nat → Nat} {u : mST} : (mCl ca h0 ad u)[53]? = some (ad 83, .inl (ca 83, 300, .inl (u.2.1 83))) := rfl
set_option maxRecDepth 100000 in
theorem mSA_83 {ca : Nat → ClassId} {h0 : Nat} {ad : Nat → Nat} {u : mST} {i : Nat} {x : Int32} : (mCl ca h0 ad u).set 53 (ad 83, .inl (ca 83, 300, .inl (upd (u.2.1 83) i x))) = mCl ca h0 ad (mA u 83 i x) := rfl
set_option maxRecDepth 100000 in
theorem mF_84 {ad : Nat → Nat} {u : mST} : (mFs ad u)[84]? = some (.ref (ad 84)) := rfl
set_option maxRecDepth 100000 in
theorem mG_84 {ca : Nat → ClassId} {h0 : Nat} {ad : Nat → Nat} {u : mST} : (mCl ca h0 ad u)[54]? = some (ad 84, .inl (ca 84, 300, .inl (u.2.1 84))) := rfl
set_option maxRecDepth 100000 in
theorem mSA_84 {ca : Nat → ClassId} {h0 : Nat} {ad : Nat → Nat} {u : mST} {i : Nat} {x : Int32} : (mCl ca h0 ad u).set 54 (ad 84, .inl (ca 84, 300, .inl (upd (u.2.1 84) i x))) = mCl ca h0 ad (mA u 84 i x) := rfl
set_option maxRecDepth 100000 in
theorem mF_85 {ad : Nat → Nat} {u : mST} : (mFs ad u)[85]? = some (.int (u.1 85)) := rfl
set_option maxRecDepth 100000 in
theorem mSI_85 {ca : Nat → ClassId} {h0 : Nat} {ad : Nat → Nat} {u : mST} {x : Int32} : (mCl ca h0 ad u).set 0 (h0, .inr (12, (mFs ad u).set 85 (.int x))) = mCl ca h0 ad (mI u 85 x) := rfl
set_option maxRecDepth 100000 in
theorem mF_86 {ad : Nat → Nat} {u : mST} : (mFs ad u)[86]? = some (.ref (ad 86)) := rfl
set_option maxRecDepth 100000 in
theorem mG_86 {ca : Nat → ClassId} {h0 : Nat} {ad : Nat → Nat} {u : mST} : (mCl ca h0 ad u)[55]? = some (ad 86, .inl (ca 86, 2400, .inl (u.2.1 86))) := rfl
set_option maxRecDepth 100000 in
theorem mSA_86 {ca : Nat → ClassId} {h0 : Nat} {ad : Nat → Nat} {u : mST} {i : Nat} {x : Int32} : (mCl ca h0 ad u).set 55 (ad 86, .inl (ca 86, 2400, .inl (upd (u.2.1 86) i x))) = mCl ca h0 ad (mA u 86 i x) := rfl
set_option maxRecDepth 100000 in
theorem mF_87 {ad : Nat → Nat} {u : mST} : (mFs ad u)[87]? = some (.int (u.1 87)) := rfl
set_option maxRecDepth 100000 in
theorem mSI_87 {ca : Nat → ClassId} {h0 : Nat} {ad : Nat → Nat} {u : mST} {x : Int32} : (mCl ca h0 ad u).set 0 (h0, .inr (12, (mFs ad u).set 87 (.int x))) = mCl ca h0 ad (mI u 87 x) := rfl
set_option maxRecDepth 100000 in
theorem mF_88 {ad : Nat → Nat} {u : mST} : (mFs ad u)[88]? = some (.int (u.1 88)) := rfl
set_option maxRecDepth 100000 in
theorem mSI_88 {ca : Nat → ClassId} {h0 : Nat} {ad : Nat → Nat} {u : mST} {x : Int32} : (mCl ca h0 ad u).set 0 (h0, .inr (12, (mFs ad u).set 88 (.int x))) = mCl ca h0 ad (mI u 88 x) := rfl
set_option maxRecDepth 100000 in
theorem mF_89 {ad : Nat → Nat} {u : mST} : (mFs ad u)[89]? = some (.int (u.1 89)) := rfl
set_option maxRecDepth 100000 in
theorem mSI_89 {ca : Nat → ClassId} {h0 : Nat} {ad : Nat → Nat} {u : mST} {x : Int32} : (mCl ca h0 ad u).set 0 (h0, .inr (12, (mFs ad u).set 89 (.int x))) = mCl ca h0 ad (mI u 89 x) := rfl
set_option maxRecDepth 100000 in
theorem mF_90 {ad : Nat → Nat} {u : mST} : (mFs ad u)[90]? = some (.int (u.1 90)) := rfl
set_option maxRecDepth 100000 in
theorem mSI_90 {ca : Nat → ClassId} {h0 : Nat} {ad : Nat → Nat} {u : mST} {x : Int32} : (mCl ca h0 ad u).set 0 (h0, .inr (12, (mFs ad u).set 90 (.int x))) = mCl ca h0 ad (mI u 90 x) := rfl
set_option maxRecDepth 100000 in
theorem mF_91 {ad : Nat → Nat} {u : mST} : (mFs ad u)[91]? = some (.int (u.1 91)) := rfl
set_option maxRecDepth 100000 in
theorem mSI_91 {ca : Nat → ClassId} {h0 : Nat} {ad : Nat → Nat} {u : mST} {x : Int32} : (mCl ca h0 ad u).set 0 (h0, .inr (12, (mFs ad u).set 91 (.int x))) = mCl ca h0 ad (mI u 91 x) := rfl
set_option maxRecDepth 100000 in
theorem mF_92 {ad : Nat → Nat} {u : mST} : (mFs ad u)[92]? = some (.ref (ad 92)) := rfl
set_option maxRecDepth 100000 in
theorem mG_92 {ca : Nat → ClassId} {h0 : Nat} {ad : Nat → Nat} {u : mST} : (mCl ca h0 ad u)[56]? = some (ad 92, .inl (ca 92, 60, .inl (u.2.1 92))) := rfl
set_option maxRecDepth 100000 in
theorem mSA_92 {ca : Nat → ClassId} {h0 : Nat} {ad : Nat → Nat} {u : mST} {i : Nat} {x : Int32} : (mCl ca h0 ad u).set 56 (ad 92, .inl (ca 92, 60, .inl (upd (u.2.1 92) i x))) = mCl ca h0 ad (mA u 92 i x) := rfl
set_option maxRecDepth 100000 in
theorem mF_93 {ad : Nat → Nat} {u : mST} : (mFs ad u)[93]? = some (.ref (ad 93)) := rfl
set_option maxRecDepth 100000 in
theorem mG_93 {ca : Nat → ClassId} {h0 : Nat} {ad : Nat → Nat} {u : mST} : (mCl ca h0 ad u)[57]? = some (ad 93, .inl (ca 93, 60, .inl (u.2.1 93))) := rfl
set_option maxRecDepth 100000 in
theorem mSA_93 {ca : Nat → ClassId} {h0 : Nat} {ad : Nat → Nat} {u : mST} {i : Nat} {x : Int32} : (mCl ca h0 ad u).set 57 (ad 93, .inl (ca 93, 60, .inl (upd (u.2.1 93) i x))) = mCl ca h0 ad (mA u 93 i x) := rfl
set_option maxRecDepth 100000 in
theorem mF_94 {ad : Nat → Nat} {u : mST} : (mFs ad u)[94]? = some (.ref (ad 94)) := rfl
set_option maxRecDepth 100000 in
theorem mG_94 {ca : Nat → ClassId} {h0 : Nat} {ad : Nat → Nat} {u : mST} : (mCl ca h0 ad u)[58]? = some (ad 94, .inl (ca 94, 60, .inl (u.2.1 94))) := rfl
set_option maxRecDepth 100000 in
theorem mSA_94 {ca : Nat → ClassId} {h0 : Nat} {ad : Nat → Nat} {u : mST} {i : Nat} {x : Int32} : (mCl ca h0 ad u).set 58 (ad 94, .inl (ca 94, 60, .inl (upd (u.2.1 94) i x))) = mCl ca h0 ad (mA u 94 i x) := rfl
set_option maxRecDepth 100000 in
theorem mF_95 {ad : Nat → Nat} {u : mST} : (mFs ad u)[95]? = some (.ref (ad 95)) := rfl
set_option maxRecDepth 100000 in
theorem mG_95 {ca : Nat → ClassId} {h0 : Nat} {ad : Nat → Nat} {u : mST} : (mCl ca h0 ad u)[59]? = some (ad 95, .inl (ca 95, 60, .inl (u.2.1 95))) := rfl
set_option maxRecDepth 100000 in
theorem mSA_95 {ca : Nat → ClassId} {h0 : Nat} {ad : Nat → Nat} {u : mST} {i : Nat} {x : Int32} : (mCl ca h0 ad u).set 59 (ad 95, .inl (ca 95, 60, .inl (upd (u.2.1 95) i x))) = mCl ca h0 ad (mA u 95 i x) := rfl
set_option maxRecDepth 100000 in
theorem mF_96 {ad : Nat → Nat} {u : mST} : (mFs ad u)[96]? = some (.ref (ad 96)) := rfl
set_option maxRecDepth 100000 in
theorem mG_96 {ca : Nat → ClassId} {h0 : Nat} {ad : Nat → Nat} {u : mST} : (mCl ca h0 ad u)[60]? = some (ad 96, .inl (ca 96, 60, .inl (u.2.1 96))) := rfl
set_option maxRecDepth 100000 in
theorem mSA_96 {ca : Nat → ClassId} {h0 : Nat} {ad : Nat → Nat} {u : mST} {i : Nat} {x : Int32} : (mCl ca h0 ad u).set 60 (ad 96, .inl (ca 96, 60, .inl (upd (u.2.1 96) i x))) = mCl ca h0 ad (mA u 96 i x) := rfl
set_option maxRecDepth 100000 in
theorem mF_97 {ad : Nat → Nat} {u : mST} : (mFs ad u)[97]? = some (.ref (ad 97)) := rfl
set_option maxRecDepth 100000 in
theorem mG_97 {ca : Nat → ClassId} {h0 : Nat} {ad : Nat → Nat} {u : mST} : (mCl ca h0 ad u)[61]? = some (ad 97, .inl (ca 97, 60, .inl (u.2.1 97))) := rfl
set_option maxRecDepth 100000 in
theorem mSA_97 {ca : Nat → ClassId} {h0 : Nat} {ad : Nat → Nat} {u : mST} {i : Nat} {x : Int32} : (mCl ca h0 ad u).set 61 (ad 97, .inl (ca 97, 60, .inl (upd (u.2.1 97) i x))) = mCl ca h0 ad (mA u 97 i x) := rfl
set_option maxRecDepth 100000 in
theorem mF_98 {ad : Nat → Nat} {u : mST} : (mFs ad u)[98]? = some (.ref (ad 98)) := rfl
set_option maxRecDepth 100000 in
theorem mG_98 {ca : Nat → ClassId} {h0 : Nat} {ad : Nat → Nat} {u : mST} : (mCl ca h0 ad u)[62]? = some (ad 98, .inl (ca 98, 60, .inl (u.2.1 98))) := rfl
set_option maxRecDepth 100000 in
theorem mSA_98 {ca : Nat → ClassId} {h0 : Nat} {ad : Nat → Nat} {u : mST} {i : Nat} {x : Int32} : (mCl ca h0 ad u).set 62 (ad 98, .inl (ca 98, 60, .inl (upd (u.2.1 98) i x))) = mCl ca h0 ad (mA u 98 i x) := rfl
set_option maxRecDepth 100000 in
theorem mF_99 {ad : Nat → Nat} {u : mST} : (mFs ad u)[99]? = some (.ref (ad 99)) := rfl
set_option maxRecDepth 100000 in
theorem mG_99 {ca : Nat → ClassId} {h0 : Nat} {ad : Nat → Nat} {u : mST} : (mCl ca h0 ad u)[63]? = some (ad 99, .inl (ca 99, 60, .inl (u.2.1 99))) := rfl
set_option maxRecDepth 100000 in
theorem mSA_99 {ca : Nat → ClassId} {h0 : Nat} {ad : Nat → Nat} {u : mST} {i : Nat} {x : Int32} : (mCl ca h0 ad u).set 63 (ad 99, .inl (ca 99, 60, .inl (upd (u.2.1 99) i x))) = mCl ca h0 ad (mA u 99 i x) := rfl
set_option maxRecDepth 100000 in
theorem mF_100 {ad : Nat → Nat} {u : mST} : (mFs ad u)[100]? = some (.ref (ad 100)) := rfl
set_option maxRecDepth 100000 in
theorem mG_100 {ca : Nat → ClassId} {h0 : Nat} {ad : Nat → Nat} {u : mST} : (mCl ca h0 ad u)[64]? = some (ad 100, .inl (ca 100, 60, .inl (u.2.1 100))) := rfl
set_option maxRecDepth 100000 in
theorem mSA_100 {ca : Nat → ClassId} {h0 : Nat} {ad : Nat → Nat} {u : mST} {i : Nat} {x : Int32} : (mCl ca h0 ad u).set 64 (ad 100, .inl (ca 100, 60, .inl (upd (u.2.1 100) i x))) = mCl ca h0 ad (mA u 100 i x) := rfl
set_option maxRecDepth 100000 in
theorem mF_101 {ad : Nat → Nat} {u : mST} : (mFs ad u)[101]? = some (.ref (ad 101)) := rfl
set_option maxRecDepth 100000 in
theorem mG_101 {ca : Nat → ClassId} {h0 : Nat} {ad : Nat → Nat} {u : mST} : (mCl ca h0 ad u)[65]? = some (ad 101, .inl (ca 101, 60, .inl (u.2.1 101))) := rfl
set_option maxRecDepth 100000 in
theorem mSA_101 {ca : Nat → ClassId} {h0 : Nat} {ad : Nat → Nat} {u : mST} {i : Nat} {x : Int32} : (mCl ca h0 ad u).set 65 (ad 101, .inl (ca 101, 60, .inl (upd (u.2.1 101) i x))) = mCl ca h0 ad (mA u 101 i x) := rfl
set_option maxRecDepth 100000 in
theorem mF_102 {ad : Nat → Nat} {u : mST} : (mFs ad u)[102]? = some (.int (u.1 102)) := rfl
set_option maxRecDepth 100000 in
theorem mSI_102 {ca : Nat → ClassId} {h0 : Nat} {ad : Nat → Nat} {u : mST} {x : Int32} : (mCl ca h0 ad u).set 0 (h0, .inr (12, (mFs ad u).set 102 (.int x))) = mCl ca h0 ad (mI u 102 x) := rfl
set_option maxRecDepth 100000 in
theorem mF_103 {ad : Nat → Nat} {u : mST} : (mFs ad u)[103]? = some (.ref (ad 103)) := rfl
set_option maxRecDepth 100000 in
theorem mG_103 {ca : Nat → ClassId} {h0 : Nat} {ad : Nat → Nat} {u : mST} : (mCl ca h0 ad u)[66]? = some (ad 103, .inl (ca 103, 1200, .inl (u.2.1 103))) := rfl
set_option maxRecDepth 100000 in
theorem mSA_103 {ca : Nat → ClassId} {h0 : Nat} {ad : Nat → Nat} {u : mST} {i : Nat} {x : Int32} : (mCl ca h0 ad u).set 66 (ad 103, .inl (ca 103, 1200, .inl (upd (u.2.1 103) i x))) = mCl ca h0 ad (mA u 103 i x) := rfl
set_option maxRecDepth 100000 in
theorem mF_104 {ad : Nat → Nat} {u : mST} : (mFs ad u)[104]? = some (.int (u.1 104)) := rfl
set_option maxRecDepth 100000 in
theorem mSI_104 {ca : Nat → ClassId} {h0 : Nat} {ad : Nat → Nat} {u : mST} {x : Int32} : (mCl ca h0 ad u).set 0 (h0, .inr (12, (mFs ad u).set 104 (.int x))) = mCl ca h0 ad (mI u 104 x) := rfl
set_option maxRecDepth 100000 in
theorem mF_105 {ad : Nat → Nat} {u : mST} : (mFs ad u)[105]? = some (.ref (ad 105)) := rfl
set_option maxRecDepth 100000 in
theorem mG_105 {ca : Nat → ClassId} {h0 : Nat} {ad : Nat → Nat} {u : mST} : (mCl ca h0 ad u)[67]? = some (ad 105, .inl (ca 105, 7800, .inl (u.2.1 105))) := rfl
set_option maxRecDepth 100000 in
theorem mSA_105 {ca : Nat → ClassId} {h0 : Nat} {ad : Nat → Nat} {u : mST} {i : Nat} {x : Int32} : (mCl ca h0 ad u).set 67 (ad 105, .inl (ca 105, 7800, .inl (upd (u.2.1 105) i x))) = mCl ca h0 ad (mA u 105 i x) := rfl
set_option maxRecDepth 100000 in
theorem mF_106 {ad : Nat → Nat} {u : mST} : (mFs ad u)[106]? = some (.ref (ad 106)) := rfl
set_option maxRecDepth 100000 in
theorem mG_106 {ca : Nat → ClassId} {h0 : Nat} {ad : Nat → Nat} {u : mST} : (mCl ca h0 ad u)[68]? = some (ad 106, .inl (ca 106, 7800, .inl (u.2.1 106))) := rfl
set_option maxRecDepth 100000 in
theorem mSA_106 {ca : Nat → ClassId} {h0 : Nat} {ad : Nat → Nat} {u : mST} {i : Nat} {x : Int32} : (mCl ca h0 ad u).set 68 (ad 106, .inl (ca 106, 7800, .inl (upd (u.2.1 106) i x))) = mCl ca h0 ad (mA u 106 i x) := rfl
set_option maxRecDepth 100000 in
theorem mF_107 {ad : Nat → Nat} {u : mST} : (mFs ad u)[107]? = some (.ref (ad 107)) := rfl
set_option maxRecDepth 100000 in
theorem mG_107 {ca : Nat → ClassId} {h0 : Nat} {ad : Nat → Nat} {u : mST} : (mCl ca h0 ad u)[69]? = some (ad 107, .inl (ca 107, 60, .inl (u.2.1 107))) := rfl
set_option maxRecDepth 100000 in
theorem mSA_107 {ca : Nat → ClassId} {h0 : Nat} {ad : Nat → Nat} {u : mST} {i : Nat} {x : Int32} : (mCl ca h0 ad u).set 69 (ad 107, .inl (ca 107, 60, .inl (upd (u.2.1 107) i x))) = mCl ca h0 ad (mA u 107 i x) := rfl
set_option maxRecDepth 100000 in
theorem mF_108 {ad : Nat → Nat} {u : mST} : (mFs ad u)[108]? = some (.ref (ad 108)) := rfl
set_option maxRecDepth 100000 in
theorem mG_108 {ca : Nat → ClassId} {h0 : Nat} {ad : Nat → Nat} {u : mST} : (mCl ca h0 ad u)[70]? = some (ad 108, .inl (ca 108, 200, .inl (u.2.1 108))) := rfl
set_option maxRecDepth 100000 in
theorem mSA_108 {ca : Nat → ClassId} {h0 : Nat} {ad : Nat → Nat} {u : mST} {i : Nat} {x : Int32} : (mCl ca h0 ad u).set 70 (ad 108, .inl (ca 108, 200, .inl (upd (u.2.1 108) i x))) = mCl ca h0 ad (mA u 108 i x) := rfl
set_option maxRecDepth 100000 in
theorem mF_109 {ad : Nat → Nat} {u : mST} : (mFs ad u)[109]? = some (.int (u.1 109)) := rfl
set_option maxRecDepth 100000 in
theorem mSI_109 {ca : Nat → ClassId} {h0 : Nat} {ad : Nat → Nat} {u : mST} {x : Int32} : (mCl ca h0 ad u).set 0 (h0, .inr (12, (mFs ad u).set 109 (.int x))) = mCl ca h0 ad (mI u 109 x) := rfl
set_option maxRecDepth 100000 in
theorem mF_110 {ad : Nat → Nat} {u : mST} : (mFs ad u)[110]? = some (.int (u.1 110)) := rfl
set_option maxRecDepth 100000 in
theorem mSI_110 {ca : Nat → ClassId} {h0 : Nat} {ad : Nat → Nat} {u : mST} {x : Int32} : (mCl ca h0 ad u).set 0 (h0, .inr (12, (mFs ad u).set 110 (.int x))) = mCl ca h0 ad (mI u 110 x) := rfl
set_option maxRecDepth 100000 in
theorem mF_111 {ad : Nat → Nat} {u : mST} : (mFs ad u)[111]? = some (.int (u.1 111)) := rfl
set_option maxRecDepth 100000 in
theorem mSI_111 {ca : Nat → ClassId} {h0 : Nat} {ad : Nat → Nat} {u : mST} {x : Int32} : (mCl ca h0 ad u).set 0 (h0, .inr (12, (mFs ad u).set 111 (.int x))) = mCl ca h0 ad (mI u 111 x) := rfl
set_option maxRecDepth 100000 in
theorem mF_112 {ad : Nat → Nat} {u : mST} : (mFs ad u)[112]? = some (.ref (ad 112)) := rfl
set_option maxRecDepth 100000 in
theorem mG_112 {ca : Nat → ClassId} {h0 : Nat} {ad : Nat → Nat} {u : mST} : (mCl ca h0 ad u)[71]? = some (ad 112, .inl (ca 112, 800, .inl (u.2.1 112))) := rfl
set_option maxRecDepth 100000 in
theorem mSA_112 {ca : Nat → ClassId} {h0 : Nat} {ad : Nat → Nat} {u : mST} {i : Nat} {x : Int32} : (mCl ca h0 ad u).set 71 (ad 112, .inl (ca 112, 800, .inl (upd (u.2.1 112) i x))) = mCl ca h0 ad (mA u 112 i x) := rfl
set_option maxRecDepth 100000 in
theorem mF_113 {ad : Nat → Nat} {u : mST} : (mFs ad u)[113]? = some (.ref (ad 113)) := rfl
set_option maxRecDepth 100000 in
theorem mG_113 {ca : Nat → ClassId} {h0 : Nat} {ad : Nat → Nat} {u : mST} : (mCl ca h0 ad u)[72]? = some (ad 113, .inl (ca 113, 800, .inl (u.2.1 113))) := rfl
set_option maxRecDepth 100000 in
theorem mSA_113 {ca : Nat → ClassId} {h0 : Nat} {ad : Nat → Nat} {u : mST} {i : Nat} {x : Int32} : (mCl ca h0 ad u).set 72 (ad 113, .inl (ca 113, 800, .inl (upd (u.2.1 113) i x))) = mCl ca h0 ad (mA u 113 i x) := rfl
set_option maxRecDepth 100000 in
theorem mF_114 {ad : Nat → Nat} {u : mST} : (mFs ad u)[114]? = some (.ref (ad 114)) := rfl
set_option maxRecDepth 100000 in
theorem mG_114 {ca : Nat → ClassId} {h0 : Nat} {ad : Nat → Nat} {u : mST} : (mCl ca h0 ad u)[73]? = some (ad 114, .inl (ca 114, 69000, .inl (u.2.1 114))) := rfl
set_option maxRecDepth 100000 in
theorem mSA_114 {ca : Nat → ClassId} {h0 : Nat} {ad : Nat → Nat} {u : mST} {i : Nat} {x : Int32} : (mCl ca h0 ad u).set 73 (ad 114, .inl (ca 114, 69000, .inl (upd (u.2.1 114) i x))) = mCl ca h0 ad (mA u 114 i x) := rfl
set_option maxRecDepth 100000 in
theorem mF_115 {ad : Nat → Nat} {u : mST} : (mFs ad u)[115]? = some (.ref (ad 115)) := rfl
set_option maxRecDepth 100000 in
theorem mG_115 {ca : Nat → ClassId} {h0 : Nat} {ad : Nat → Nat} {u : mST} : (mCl ca h0 ad u)[74]? = some (ad 115, .inl (ca 115, 2300, .inl (u.2.1 115))) := rfl
set_option maxRecDepth 100000 in
theorem mSA_115 {ca : Nat → ClassId} {h0 : Nat} {ad : Nat → Nat} {u : mST} {i : Nat} {x : Int32} : (mCl ca h0 ad u).set 74 (ad 115, .inl (ca 115, 2300, .inl (upd (u.2.1 115) i x))) = mCl ca h0 ad (mA u 115 i x) := rfl
set_option maxRecDepth 100000 in
theorem mF_116 {ad : Nat → Nat} {u : mST} : (mFs ad u)[116]? = some (.ref (ad 116)) := rfl
set_option maxRecDepth 100000 in
theorem mG_116 {ca : Nat → ClassId} {h0 : Nat} {ad : Nat → Nat} {u : mST} : (mCl ca h0 ad u)[75]? = some (ad 116, .inl (ca 116, 2300, .inl (u.2.1 116))) := rfl
set_option maxRecDepth 100000 in
theorem mSA_116 {ca : Nat → ClassId} {h0 : Nat} {ad : Nat → Nat} {u : mST} {i : Nat} {x : Int32} : (mCl ca h0 ad u).set 75 (ad 116, .inl (ca 116, 2300, .inl (upd (u.2.1 116) i x))) = mCl ca h0 ad (mA u 116 i x) := rfl
set_option maxRecDepth 100000 in
theorem mF_117 {ad : Nat → Nat} {u : mST} : (mFs ad u)[117]? = some (.int (u.1 117)) := rfl
set_option maxRecDepth 100000 in
theorem mSI_117 {ca : Nat → ClassId} {h0 : Nat} {ad : Nat → Nat} {u : mST} {x : Int32} : (mCl ca h0 ad u).set 0 (h0, .inr (12, (mFs ad u).set 117 (.int x))) = mCl ca h0 ad (mI u 117 x) := rfl
set_option maxRecDepth 100000 in
theorem mF_118 {ad : Nat → Nat} {u : mST} : (mFs ad u)[118]? = some (.ref (ad 118)) := rfl
set_option maxRecDepth 100000 in
theorem mG_118 {ca : Nat → ClassId} {h0 : Nat} {ad : Nat → Nat} {u : mST} : (mCl ca h0 ad u)[76]? = some (ad 118, .inl (ca 118, 2300, .inl (u.2.1 118))) := rfl
set_option maxRecDepth 100000 in
theorem mSA_118 {ca : Nat → ClassId} {h0 : Nat} {ad : Nat → Nat} {u : mST} {i : Nat} {x : Int32} : (mCl ca h0 ad u).set 76 (ad 118, .inl (ca 118, 2300, .inl (upd (u.2.1 118) i x))) = mCl ca h0 ad (mA u 118 i x) := rfl
set_option maxRecDepth 100000 in
theorem mF_119 {ad : Nat → Nat} {u : mST} : (mFs ad u)[119]? = some (.int (u.1 119)) := rfl
set_option maxRecDepth 100000 in
theorem mSI_119 {ca : Nat → ClassId} {h0 : Nat} {ad : Nat → Nat} {u : mST} {x : Int32} : (mCl ca h0 ad u).set 0 (h0, .inr (12, (mFs ad u).set 119 (.int x))) = mCl ca h0 ad (mI u 119 x) := rfl
set_option maxRecDepth 100000 in
theorem mF_120 {ad : Nat → Nat} {u : mST} : (mFs ad u)[120]? = some (.ref (ad 120)) := rfl
set_option maxRecDepth 100000 in
theorem mG_120 {ca : Nat → ClassId} {h0 : Nat} {ad : Nat → Nat} {u : mST} : (mCl ca h0 ad u)[77]? = some (ad 120, .inl (ca 120, 20, .inl (u.2.1 120))) := rfl
set_option maxRecDepth 100000 in
theorem mSA_120 {ca : Nat → ClassId} {h0 : Nat} {ad : Nat → Nat} {u : mST} {i : Nat} {x : Int32} : (mCl ca h0 ad u).set 77 (ad 120, .inl (ca 120, 20, .inl (upd (u.2.1 120) i x))) = mCl ca h0 ad (mA u 120 i x) := rfl
set_option maxRecDepth 100000 in
theorem mF_121 {ad : Nat → Nat} {u : mST} : (mFs ad u)[121]? = some (.ref (ad 121)) := rfl
set_option maxRecDepth 100000 in
theorem mG_121 {ca : Nat → ClassId} {h0 : Nat} {ad : Nat → Nat} {u : mST} : (mCl ca h0 ad u)[78]? = some (ad 121, .inl (ca 121, 1200, .inl (u.2.1 121))) := rfl
set_option maxRecDepth 100000 in
theorem mSA_121 {ca : Nat → ClassId} {h0 : Nat} {ad : Nat → Nat} {u : mST} {i : Nat} {x : Int32} : (mCl ca h0 ad u).set 78 (ad 121, .inl (ca 121, 1200, .inl (upd (u.2.1 121) i x))) = mCl ca h0 ad (mA u 121 i x) := rfl
set_option maxRecDepth 100000 in
theorem mF_122 {ad : Nat → Nat} {u : mST} : (mFs ad u)[122]? = some (.int (u.1 122)) := rfl
set_option maxRecDepth 100000 in
theorem mSI_122 {ca : Nat → ClassId} {h0 : Nat} {ad : Nat → Nat} {u : mST} {x : Int32} : (mCl ca h0 ad u).set 0 (h0, .inr (12, (mFs ad u).set 122 (.int x))) = mCl ca h0 ad (mI u 122 x) := rfl
set_option maxRecDepth 100000 in
theorem mF_123 {ad : Nat → Nat} {u : mST} : (mFs ad u)[123]? = some (.ref (ad 123)) := rfl
set_option maxRecDepth 100000 in
theorem mG_123 {ca : Nat → ClassId} {h0 : Nat} {ad : Nat → Nat} {u : mST} : (mCl ca h0 ad u)[79]? = some (ad 123, .inl (ca 123, 128, .inl (u.2.1 123))) := rfl
set_option maxRecDepth 100000 in
theorem mSA_123 {ca : Nat → ClassId} {h0 : Nat} {ad : Nat → Nat} {u : mST} {i : Nat} {x : Int32} : (mCl ca h0 ad u).set 79 (ad 123, .inl (ca 123, 128, .inl (upd (u.2.1 123) i x))) = mCl ca h0 ad (mA u 123 i x) := rfl
set_option maxRecDepth 100000 in
theorem mF_124 {ad : Nat → Nat} {u : mST} : (mFs ad u)[124]? = some (.ref (ad 124)) := rfl
set_option maxRecDepth 100000 in
theorem mG_124 {ca : Nat → ClassId} {h0 : Nat} {ad : Nat → Nat} {u : mST} : (mCl ca h0 ad u)[80]? = some (ad 124, .inl (ca 124, 8192, .inl (u.2.1 124))) := rfl
set_option maxRecDepth 100000 in
theorem mSA_124 {ca : Nat → ClassId} {h0 : Nat} {ad : Nat → Nat} {u : mST} {i : Nat} {x : Int32} : (mCl ca h0 ad u).set 80 (ad 124, .inl (ca 124, 8192, .inl (upd (u.2.1 124) i x))) = mCl ca h0 ad (mA u 124 i x) := rfl
set_option maxRecDepth 100000 in
theorem mF_125 {ad : Nat → Nat} {u : mST} : (mFs ad u)[125]? = some (.ref (ad 125)) := rfl
set_option maxRecDepth 100000 in
theorem mG_125 {ca : Nat → ClassId} {h0 : Nat} {ad : Nat → Nat} {u : mST} : (mCl ca h0 ad u)[81]? = some (ad 125, .inl (ca 125, 128, .inl (u.2.1 125))) := rfl
set_option maxRecDepth 100000 in
theorem mSA_125 {ca : Nat → ClassId} {h0 : Nat} {ad : Nat → Nat} {u : mST} {i : Nat} {x : Int32} : (mCl ca h0 ad u).set 81 (ad 125, .inl (ca 125, 128, .inl (upd (u.2.1 125) i x))) = mCl ca h0 ad (mA u 125 i x) := rfl
set_option maxRecDepth 100000 in
theorem mF_126 {ad : Nat → Nat} {u : mST} : (mFs ad u)[126]? = some (.int (u.1 126)) := rfl
set_option maxRecDepth 100000 in
theorem mSI_126 {ca : Nat → ClassId} {h0 : Nat} {ad : Nat → Nat} {u : mST} {x : Int32} : (mCl ca h0 ad u).set 0 (h0, .inr (12, (mFs ad u).set 126 (.int x))) = mCl ca h0 ad (mI u 126 x) := rfl
set_option maxRecDepth 100000 in
theorem mF_127 {ad : Nat → Nat} {u : mST} : (mFs ad u)[127]? = some (.ref (ad 127)) := rfl
set_option maxRecDepth 100000 in
theorem mG_127 {ca : Nat → ClassId} {h0 : Nat} {ad : Nat → Nat} {u : mST} : (mCl ca h0 ad u)[82]? = some (ad 127, .inl (ca 127, 128, .inl (u.2.1 127))) := rfl
set_option maxRecDepth 100000 in
theorem mSA_127 {ca : Nat → ClassId} {h0 : Nat} {ad : Nat → Nat} {u : mST} {i : Nat} {x : Int32} : (mCl ca h0 ad u).set 82 (ad 127, .inl (ca 127, 128, .inl (upd (u.2.1 127) i x))) = mCl ca h0 ad (mA u 127 i x) := rfl
set_option maxRecDepth 100000 in
theorem mF_128 {ad : Nat → Nat} {u : mST} : (mFs ad u)[128]? = some (.ref (ad 128)) := rfl
set_option maxRecDepth 100000 in
theorem mG_128 {ca : Nat → ClassId} {h0 : Nat} {ad : Nat → Nat} {u : mST} : (mCl ca h0 ad u)[83]? = some (ad 128, .inl (ca 128, 8192, .inl (u.2.1 128))) := rfl
set_option maxRecDepth 100000 in
theorem mSA_128 {ca : Nat → ClassId} {h0 : Nat} {ad : Nat → Nat} {u : mST} {i : Nat} {x : Int32} : (mCl ca h0 ad u).set 83 (ad 128, .inl (ca 128, 8192, .inl (upd (u.2.1 128) i x))) = mCl ca h0 ad (mA u 128 i x) := rfl
set_option maxRecDepth 100000 in
theorem mF_129 {ad : Nat → Nat} {u : mST} : (mFs ad u)[129]? = some (.ref (ad 129)) := rfl
set_option maxRecDepth 100000 in
theorem mG_129 {ca : Nat → ClassId} {h0 : Nat} {ad : Nat → Nat} {u : mST} : (mCl ca h0 ad u)[84]? = some (ad 129, .inl (ca 129, 128, .inl (u.2.1 129))) := rfl
set_option maxRecDepth 100000 in
theorem mSA_129 {ca : Nat → ClassId} {h0 : Nat} {ad : Nat → Nat} {u : mST} {i : Nat} {x : Int32} : (mCl ca h0 ad u).set 84 (ad 129, .inl (ca 129, 128, .inl (upd (u.2.1 129) i x))) = mCl ca h0 ad (mA u 129 i x) := rfl
set_option maxRecDepth 100000 in
theorem mF_130 {ad : Nat → Nat} {u : mST} : (mFs ad u)[130]? = some (.ref (ad 130)) := rfl
set_option maxRecDepth 100000 in
theorem mG_130 {ca : Nat → ClassId} {h0 : Nat} {ad : Nat → Nat} {u : mST} : (mCl ca h0 ad u)[85]? = some (ad 130, .inl (ca 130, 130, .inl (u.2.1 130))) := rfl
set_option maxRecDepth 100000 in
theorem mSA_130 {ca : Nat → ClassId} {h0 : Nat} {ad : Nat → Nat} {u : mST} {i : Nat} {x : Int32} : (mCl ca h0 ad u).set 85 (ad 130, .inl (ca 130, 130, .inl (upd (u.2.1 130) i x))) = mCl ca h0 ad (mA u 130 i x) := rfl
set_option maxRecDepth 100000 in
theorem mF_131 {ad : Nat → Nat} {u : mST} : (mFs ad u)[131]? = some (.int (u.1 131)) := rfl
set_option maxRecDepth 100000 in
theorem mSI_131 {ca : Nat → ClassId} {h0 : Nat} {ad : Nat → Nat} {u : mST} {x : Int32} : (mCl ca h0 ad u).set 0 (h0, .inr (12, (mFs ad u).set 131 (.int x))) = mCl ca h0 ad (mI u 131 x) := rfl
set_option maxRecDepth 100000 in
theorem mF_132 {ad : Nat → Nat} {u : mST} : (mFs ad u)[132]? = some (.int (u.1 132)) := rfl
set_option maxRecDepth 100000 in
theorem mSI_132 {ca : Nat → ClassId} {h0 : Nat} {ad : Nat → Nat} {u : mST} {x : Int32} : (mCl ca h0 ad u).set 0 (h0, .inr (12, (mFs ad u).set 132 (.int x))) = mCl ca h0 ad (mI u 132 x) := rfl
set_option maxRecDepth 100000 in
theorem mF_133 {ad : Nat → Nat} {u : mST} : (mFs ad u)[133]? = some (.int (u.1 133)) := rfl
set_option maxRecDepth 100000 in
theorem mSI_133 {ca : Nat → ClassId} {h0 : Nat} {ad : Nat → Nat} {u : mST} {x : Int32} : (mCl ca h0 ad u).set 0 (h0, .inr (12, (mFs ad u).set 133 (.int x))) = mCl ca h0 ad (mI u 133 x) := rfl
set_option maxRecDepth 100000 in
theorem mF_134 {ad : Nat → Nat} {u : mST} : (mFs ad u)[134]? = some (.int (u.1 134)) := rfl
set_option maxRecDepth 100000 in
theorem mSI_134 {ca : Nat → ClassId} {h0 : Nat} {ad : Nat → Nat} {u : mST} {x : Int32} : (mCl ca h0 ad u).set 0 (h0, .inr (12, (mFs ad u).set 134 (.int x))) = mCl ca h0 ad (mI u 134 x) := rfl
set_option maxRecDepth 100000 in
theorem mF_135 {ad : Nat → Nat} {u : mST} : (mFs ad u)[135]? = some (.int (u.1 135)) := rfl
set_option maxRecDepth 100000 in
theorem mSI_135 {ca : Nat → ClassId} {h0 : Nat} {ad : Nat → Nat} {u : mST} {x : Int32} : (mCl ca h0 ad u).set 0 (h0, .inr (12, (mFs ad u).set 135 (.int x))) = mCl ca h0 ad (mI u 135 x) := rfl
set_option maxRecDepth 100000 in
theorem mF_136 {ad : Nat → Nat} {u : mST} : (mFs ad u)[136]? = some (.int (u.1 136)) := rfl
set_option maxRecDepth 100000 in
theorem mSI_136 {ca : Nat → ClassId} {h0 : Nat} {ad : Nat → Nat} {u : mST} {x : Int32} : (mCl ca h0 ad u).set 0 (h0, .inr (12, (mFs ad u).set 136 (.int x))) = mCl ca h0 ad (mI u 136 x) := rfl
set_option maxRecDepth 100000 in
theorem mF_137 {ad : Nat → Nat} {u : mST} : (mFs ad u)[137]? = some (.ref (ad 137)) := rfl
set_option maxRecDepth 100000 in
theorem mG_137 {ca : Nat → ClassId} {h0 : Nat} {ad : Nat → Nat} {u : mST} : (mCl ca h0 ad u)[86]? = some (ad 137, .inl (ca 137, 400, .inl (u.2.1 137))) := rfl
set_option maxRecDepth 100000 in
theorem mSA_137 {ca : Nat → ClassId} {h0 : Nat} {ad : Nat → Nat} {u : mST} {i : Nat} {x : Int32} : (mCl ca h0 ad u).set 86 (ad 137, .inl (ca 137, 400, .inl (upd (u.2.1 137) i x))) = mCl ca h0 ad (mA u 137 i x) := rfl
set_option maxRecDepth 100000 in
theorem mF_138 {ad : Nat → Nat} {u : mST} : (mFs ad u)[138]? = some (.ref (ad 138)) := rfl
set_option maxRecDepth 100000 in
theorem mG_138 {ca : Nat → ClassId} {h0 : Nat} {ad : Nat → Nat} {u : mST} : (mCl ca h0 ad u)[87]? = some (ad 138, .inl (ca 138, 400, .inl (u.2.1 138))) := rfl
set_option maxRecDepth 100000 in
theorem mSA_138 {ca : Nat → ClassId} {h0 : Nat} {ad : Nat → Nat} {u : mST} {i : Nat} {x : Int32} : (mCl ca h0 ad u).set 87 (ad 138, .inl (ca 138, 400, .inl (upd (u.2.1 138) i x))) = mCl ca h0 ad (mA u 138 i x) := rfl
set_option maxRecDepth 100000 in
theorem mF_139 {ad : Nat → Nat} {u : mST} : (mFs ad u)[139]? = some (.int (u.1 139)) := rfl
set_option maxRecDepth 100000 in
theorem mSI_139 {ca : Nat → ClassId} {h0 : Nat} {ad : Nat → Nat} {u : mST} {x : Int32} : (mCl ca h0 ad u).set 0 (h0, .inr (12, (mFs ad u).set 139 (.int x))) = mCl ca h0 ad (mI u 139 x) := rfl
set_option maxRecDepth 100000 in
theorem mF_140 {ad : Nat → Nat} {u : mST} : (mFs ad u)[140]? = some (.ref (ad 140)) := rfl
set_option maxRecDepth 100000 in
theorem mG_140 {ca : Nat → ClassId} {h0 : Nat} {ad : Nat → Nat} {u : mST} : (mCl ca h0 ad u)[88]? = some (ad 140, .inl (ca 140, 6, .inl (u.2.1 140))) := rfl
set_option maxRecDepth 100000 in
theorem mSA_140 {ca : Nat → ClassId} {h0 : Nat} {ad : Nat → Nat} {u : mST} {i : Nat} {x : Int32} : (mCl ca h0 ad u).set 88 (ad 140, .inl (ca 140, 6, .inl (upd (u.2.1 140) i x))) = mCl ca h0 ad (mA u 140 i x) := rfl
set_option maxRecDepth 100000 in
theorem mF_141 {ad : Nat → Nat} {u : mST} : (mFs ad u)[141]? = some (.ref (ad 141)) := rfl
set_option maxRecDepth 100000 in
theorem mG_141 {ca : Nat → ClassId} {h0 : Nat} {ad : Nat → Nat} {u : mST} : (mCl ca h0 ad u)[89]? = some (ad 141, .inl (ca 141, 40, .inl (u.2.1 141))) := rfl
set_option maxRecDepth 100000 in
theorem mSA_141 {ca : Nat → ClassId} {h0 : Nat} {ad : Nat → Nat} {u : mST} {i : Nat} {x : Int32} : (mCl ca h0 ad u).set 89 (ad 141, .inl (ca 141, 40, .inl (upd (u.2.1 141) i x))) = mCl ca h0 ad (mA u 141 i x) := rfl
set_option maxRecDepth 100000 in
theorem mF_142 {ad : Nat → Nat} {u : mST} : (mFs ad u)[142]? = some (.ref (ad 142)) := rfl
set_option maxRecDepth 100000 in
theorem mG_142 {ca : Nat → ClassId} {h0 : Nat} {ad : Nat → Nat} {u : mST} : (mCl ca h0 ad u)[90]? = some (ad 142, .inl (ca 142, 40, .inl (u.2.1 142))) := rfl
set_option maxRecDepth 100000 in
theorem mSA_142 {ca : Nat → ClassId} {h0 : Nat} {ad : Nat → Nat} {u : mST} {i : Nat} {x : Int32} : (mCl ca h0 ad u).set 90 (ad 142, .inl (ca 142, 40, .inl (upd (u.2.1 142) i x))) = mCl ca h0 ad (mA u 142 i x) := rfl
set_option maxRecDepth 100000 in
theorem mF_143 {ad : Nat → Nat} {u : mST} : (mFs ad u)[143]? = some (.ref (ad 143)) := rfl
set_option maxRecDepth 100000 in
theorem mG_143 {ca : Nat → ClassId} {h0 : Nat} {ad : Nat → Nat} {u : mST} : (mCl ca h0 ad u)[91]? = some (ad 143, .inl (ca 143, 40, .inl (u.2.1 143))) := rfl
set_option maxRecDepth 100000 in
theorem mSA_143 {ca : Nat → ClassId} {h0 : Nat} {ad : Nat → Nat} {u : mST} {i : Nat} {x : Int32} : (mCl ca h0 ad u).set 91 (ad 143, .inl (ca 143, 40, .inl (upd (u.2.1 143) i x))) = mCl ca h0 ad (mA u 143 i x) := rfl
set_option maxRecDepth 100000 in
theorem mF_144 {ad : Nat → Nat} {u : mST} : (mFs ad u)[144]? = some (.int (u.1 144)) := rfl
set_option maxRecDepth 100000 in
theorem mSI_144 {ca : Nat → ClassId} {h0 : Nat} {ad : Nat → Nat} {u : mST} {x : Int32} : (mCl ca h0 ad u).set 0 (h0, .inr (12, (mFs ad u).set 144 (.int x))) = mCl ca h0 ad (mI u 144 x) := rfl
set_option maxRecDepth 100000 in
theorem mF_145 {ad : Nat → Nat} {u : mST} : (mFs ad u)[145]? = some (.ref (ad 145)) := rfl
set_option maxRecDepth 100000 in
theorem mG_145 {ca : Nat → ClassId} {h0 : Nat} {ad : Nat → Nat} {u : mST} : (mCl ca h0 ad u)[92]? = some (ad 145, .inl (ca 145, 10500, .inl (u.2.1 145))) := rfl
set_option maxRecDepth 100000 in
theorem mSA_145 {ca : Nat → ClassId} {h0 : Nat} {ad : Nat → Nat} {u : mST} {i : Nat} {x : Int32} : (mCl ca h0 ad u).set 92 (ad 145, .inl (ca 145, 10500, .inl (upd (u.2.1 145) i x))) = mCl ca h0 ad (mA u 145 i x) := rfl
set_option maxRecDepth 100000 in
theorem mF_146 {ad : Nat → Nat} {u : mST} : (mFs ad u)[146]? = some (.ref (ad 146)) := rfl
set_option maxRecDepth 100000 in
theorem mG_146 {ca : Nat → ClassId} {h0 : Nat} {ad : Nat → Nat} {u : mST} : (mCl ca h0 ad u)[93]? = some (ad 146, .inl (ca 146, 350, .inl (u.2.1 146))) := rfl
set_option maxRecDepth 100000 in
theorem mSA_146 {ca : Nat → ClassId} {h0 : Nat} {ad : Nat → Nat} {u : mST} {i : Nat} {x : Int32} : (mCl ca h0 ad u).set 93 (ad 146, .inl (ca 146, 350, .inl (upd (u.2.1 146) i x))) = mCl ca h0 ad (mA u 146 i x) := rfl
set_option maxRecDepth 100000 in
theorem mF_147 {ad : Nat → Nat} {u : mST} : (mFs ad u)[147]? = some (.int (u.1 147)) := rfl
set_option maxRecDepth 100000 in
theorem mSI_147 {ca : Nat → ClassId} {h0 : Nat} {ad : Nat → Nat} {u : mST} {x : Int32} : (mCl ca h0 ad u).set 0 (h0, .inr (12, (mFs ad u).set 147 (.int x))) = mCl ca h0 ad (mI u 147 x) := rfl
set_option maxRecDepth 100000 in
theorem mF_148 {ad : Nat → Nat} {u : mST} : (mFs ad u)[148]? = some (.int (u.1 148)) := rfl
set_option maxRecDepth 100000 in
theorem mSI_148 {ca : Nat → ClassId} {h0 : Nat} {ad : Nat → Nat} {u : mST} {x : Int32} : (mCl ca h0 ad u).set 0 (h0, .inr (12, (mFs ad u).set 148 (.int x))) = mCl ca h0 ad (mI u 148 x) := rfl
theorem mI_s (u : mST) (k : Nat) (v : Int32) : (mI u k v).1 k = v := if_pos rfl
theorem mI_n (u : mST) {k j : Nat} (v : Int32) (h : j ≠ k) : (mI u k v).1 j = u.1 j := if_neg h
theorem mI_r (u : mST) (k : Nat) (v : Int32) : (mI u k v).2 = u.2 := rfl
theorem mA_i (u : mST) (k i : Nat) (v : Int32) : (mA u k i v).1 = u.1 := rfl
theorem mA_s (u : mST) (k i : Nat) (v : Int32) : (mA u k i v).2.1 k = upd (u.2.1 k) i v := if_pos rfl
theorem mA_n (u : mST) {k j : Nat} (i : Nat) (v : Int32) (h : j ≠ k) : (mA u k i v).2.1 j = u.2.1 j := if_neg h
end
section
set_option maxHeartbeats 4000000 in
set_option maxRecDepth 100000 in
/-- isPair(o) -/
theorem c_m_isPair (l : Launch) (D : va_G) (ca : Nat → ClassId) (h0 sz : Nat) (ad : Nat → Nat) (u : mST) (i : Int32)  (hi : vp_in i 452000) : Met l yX12_isPair wsX12_isPair pR_0 (va_Pc [.ref (h0), .int (i)] (fun U => U.heap.size = sz ∧ mWd D ca (fun _ => True) h0 ad u U)) (va_Qi (fun (r : Int32) (v : mST) => v = u ∧ r = if u.2.1 0 i.toNatClampNeg < 0 then 0 else 1) (mWd D ca (va_A (mCl ca h0 ad u) sz) h0 ad) (va_A (mCl ca h0 ad u) sz)) 0 0 (va_A (mCl ca h0 ad u) sz) := by
  refine Met.ofW (cc := cX12_isPair) (maxL := 2) (ret := (some .boolean)) (by decide) rfl ?_
  intro p e s m args below meth c s₁ B hml hv
  obtain ⟨rfl, hsz, hP, hK, hD0⟩ := hv
  have hx := B.exec
  have hb := B.bytes
  have hr := B.returns
  have hts := atoms_spec (ws := wsX12_isPair) B.pre
  have hown : s.vm.findClass RX12 = some m.cls := findClass_of_methodNamed B.named
  have hlocks := B.notSynchronized
  subst hsz
  have hD := hD0.self (sz := s.heap.size)
  generalize hAe : va_A (mCl ca h0 ad u) s.heap.size = A at hD ⊢
  have hA : ∀ q : Nat, s.heap.size ≤ q → A q := fun q h => by rw [← hAe]; exact Or.inr h
  have hS : va_S A s.heap s.heap [] := va_S.rf
  have L_left := hts (.fieldLink RX12 8 "ProofHouseModel" "left" "[I") (by decide +kernel)
  have hin : ∀ w ∈ wsX120, w ∈ wsX12_isPair := fun w h => List.mem_cons_of_mem _ (List.mem_append_right _ h)
  have hl := lv_entry ([.ref (h0), .int (i)]) (n := 2) (Nat.le_of_ble_eq_true rfl)
  rw [lg_entry_eq]
  generalize (lg_sl ([.ref (h0), .int (i)]) ++ List.replicate (2 - (lg_sl ([.ref (h0), .int (i)])).length) Slot.unset).toArray = ls at hl ⊢
  have hl : lv_has ls 2 [(0, .ref (h0)), (1, .int (i))] := hl
  refine lv_aload_n hx hb dX12_isPair_0 rfl (lv_at hl 0 rfl) ?_
  refine va_get (D := D) (ci := 12) (v := .ref (ad 0)) (C := RX12) (T := TX12) (N := 149) hx hb hts hin hown hK hP 0 mH_0 rfl 0 (by decide) L_left (fun _ h9 => h9) mF_0 dX12_isPair_1 ?_
  refine lv_iload_n hx hb dX12_isPair_4 rfl (lv_at hl 1 rfl) ?_
  refine va_iald hx hb hK hP 1 0 mG_0 rfl (by assumption) dX12_isPair_5 ?_
  refine lv_topi (fun v1 ev1 => ?_)
  have ev1 : v1 = (u.2.1 0) (i).toNatClampNeg := ev1
  refine lv_if_lt hx hb dX12_isPair_6 (tgt := 13) rfl (fun h2 => ?_) (fun h2 => ?_)
  · refine lv_iconst hx hb dX12_isPair_13 (v := 0) rfl ?_
    exact W.zret (v := 0) hx hb hr rfl (fun t ht hW => ⟨⟨0, u, rfl, ⟨rfl, by rw [← ev1]; first | rw [if_pos h2] | rw [if_neg h2]⟩, by rw [ht]; exact hP, va_K.moved hW.alike hK, hD⟩, hS.F ht⟩) hS.2.2 dX12_isPair_14
  · refine lv_iconst hx hb dX12_isPair_9 (v := 1) rfl ?_
    refine lv_goto hx hb dX12_isPair_10 (tgt := 14) rfl ?_
    exact W.zret (v := 1) hx hb hr rfl (fun t ht hW => ⟨⟨1, u, rfl, ⟨rfl, by rw [← ev1]; first | rw [if_pos h2] | rw [if_neg h2]⟩, by rw [ht]; exact hP, va_K.moved hW.alike hK, hD⟩, hS.F ht⟩) hS.2.2 dX12_isPair_14

set_option maxHeartbeats 4000000 in
set_option maxRecDepth 100000 in
/-- isNatural(o) -/
theorem c_m_isNatural (l : Launch) (D : va_G) (ca : Nat → ClassId) (h0 sz : Nat) (ad : Nat → Nat) (u : mST) (i : Int32)  (hi : vp_in i 452000) : Met l yX12_isNatural wsX12_isNatural pR_0 (va_Pc [.ref (h0), .int (i)] (fun U => U.heap.size = sz ∧ mWd D ca (fun _ => True) h0 ad u U)) (va_Qi (fun (r : Int32) (v : mST) => v = u ∧ r = if u.2.1 0 i.toNatClampNeg = -1 then 1 else 0) (mWd D ca (va_A (mCl ca h0 ad u) sz) h0 ad) (va_A (mCl ca h0 ad u) sz)) 0 0 (va_A (mCl ca h0 ad u) sz) := by
  refine Met.ofW (cc := cX12_isNatural) (maxL := 2) (ret := (some .boolean)) (by decide) rfl ?_
  intro p e s m args below meth c s₁ B hml hv
  obtain ⟨rfl, hsz, hP, hK, hD0⟩ := hv
  have hx := B.exec
  have hb := B.bytes
  have hr := B.returns
  have hts := atoms_spec (ws := wsX12_isNatural) B.pre
  have hown : s.vm.findClass RX12 = some m.cls := findClass_of_methodNamed B.named
  have hlocks := B.notSynchronized
  subst hsz
  have hD := hD0.self (sz := s.heap.size)
  generalize hAe : va_A (mCl ca h0 ad u) s.heap.size = A at hD ⊢
  have hA : ∀ q : Nat, s.heap.size ≤ q → A q := fun q h => by rw [← hAe]; exact Or.inr h
  have hS : va_S A s.heap s.heap [] := va_S.rf
  have L_left := hts (.fieldLink RX12 8 "ProofHouseModel" "left" "[I") (by decide +kernel)
  have hin : ∀ w ∈ wsX120, w ∈ wsX12_isNatural := fun w h => List.mem_cons_of_mem _ (List.mem_append_right _ h)
  have hl := lv_entry ([.ref (h0), .int (i)]) (n := 2) (Nat.le_of_ble_eq_true rfl)
  rw [lg_entry_eq]
  generalize (lg_sl ([.ref (h0), .int (i)]) ++ List.replicate (2 - (lg_sl ([.ref (h0), .int (i)])).length) Slot.unset).toArray = ls at hl ⊢
  have hl : lv_has ls 2 [(0, .ref (h0)), (1, .int (i))] := hl
  refine lv_aload_n hx hb dX12_isNatural_0 rfl (lv_at hl 0 rfl) ?_
  refine va_get (D := D) (ci := 12) (v := .ref (ad 0)) (C := RX12) (T := TX12) (N := 149) hx hb hts hin hown hK hP 0 mH_0 rfl 0 (by decide) L_left (fun _ h9 => h9) mF_0 dX12_isNatural_1 ?_
  refine lv_iload_n hx hb dX12_isNatural_4 rfl (lv_at hl 1 rfl) ?_
  refine va_iald hx hb hK hP 1 0 mG_0 rfl (by assumption) dX12_isNatural_5 ?_
  refine lv_topi (fun v1 ev1 => ?_)
  have ev1 : v1 = (u.2.1 0) (i).toNatClampNeg := ev1
  refine lv_iconst hx hb dX12_isNatural_6 (v := (-1)) rfl ?_
  refine lv_icmp_ne hx hb dX12_isNatural_7 (tgt := 14) rfl (fun h2 => ?_) (fun h2 => ?_)
  · refine lv_iconst hx hb dX12_isNatural_14 (v := 0) rfl ?_
    exact W.zret (v := 0) hx hb hr rfl (fun t ht hW => ⟨⟨0, u, rfl, ⟨rfl, by rw [← ev1]; first | rw [if_pos h2] | rw [if_neg h2]⟩, by rw [ht]; exact hP, va_K.moved hW.alike hK, hD⟩, hS.F ht⟩) hS.2.2 dX12_isNatural_15
  · refine lv_iconst hx hb dX12_isNatural_10 (v := 1) rfl ?_
    refine lv_goto hx hb dX12_isNatural_11 (tgt := 15) rfl ?_
    exact W.zret (v := 1) hx hb hr rfl (fun t ht hW => ⟨⟨1, u, rfl, ⟨rfl, by rw [← ev1]; first | rw [if_pos h2] | rw [if_neg h2]⟩, by rw [ht]; exact hP, va_K.moved hW.alike hK, hD⟩, hS.F ht⟩) hS.2.2 dX12_isNatural_15

set_option maxHeartbeats 4000000 in
set_option maxRecDepth 100000 in
/-- isSymbol(o) -/
theorem c_m_isSymbol (l : Launch) (D : va_G) (ca : Nat → ClassId) (h0 sz : Nat) (ad : Nat → Nat) (u : mST) (i : Int32)  (hi : vp_in i 452000) : Met l yX12_isSymbol wsX12_isSymbol pR_0 (va_Pc [.ref (h0), .int (i)] (fun U => U.heap.size = sz ∧ mWd D ca (fun _ => True) h0 ad u U)) (va_Qi (fun (r : Int32) (v : mST) => v = u ∧ r = if u.2.1 0 i.toNatClampNeg = -2 then 1 else 0) (mWd D ca (va_A (mCl ca h0 ad u) sz) h0 ad) (va_A (mCl ca h0 ad u) sz)) 0 0 (va_A (mCl ca h0 ad u) sz) := by
  refine Met.ofW (cc := cX12_isSymbol) (maxL := 2) (ret := (some .boolean)) (by decide) rfl ?_
  intro p e s m args below meth c s₁ B hml hv
  obtain ⟨rfl, hsz, hP, hK, hD0⟩ := hv
  have hx := B.exec
  have hb := B.bytes
  have hr := B.returns
  have hts := atoms_spec (ws := wsX12_isSymbol) B.pre
  have hown : s.vm.findClass RX12 = some m.cls := findClass_of_methodNamed B.named
  have hlocks := B.notSynchronized
  subst hsz
  have hD := hD0.self (sz := s.heap.size)
  generalize hAe : va_A (mCl ca h0 ad u) s.heap.size = A at hD ⊢
  have hA : ∀ q : Nat, s.heap.size ≤ q → A q := fun q h => by rw [← hAe]; exact Or.inr h
  have hS : va_S A s.heap s.heap [] := va_S.rf
  have L_left := hts (.fieldLink RX12 8 "ProofHouseModel" "left" "[I") (by decide +kernel)
  have hin : ∀ w ∈ wsX120, w ∈ wsX12_isSymbol := fun w h => List.mem_cons_of_mem _ (List.mem_append_right _ h)
  have hl := lv_entry ([.ref (h0), .int (i)]) (n := 2) (Nat.le_of_ble_eq_true rfl)
  rw [lg_entry_eq]
  generalize (lg_sl ([.ref (h0), .int (i)]) ++ List.replicate (2 - (lg_sl ([.ref (h0), .int (i)])).length) Slot.unset).toArray = ls at hl ⊢
  have hl : lv_has ls 2 [(0, .ref (h0)), (1, .int (i))] := hl
  refine lv_aload_n hx hb dX12_isSymbol_0 rfl (lv_at hl 0 rfl) ?_
  refine va_get (D := D) (ci := 12) (v := .ref (ad 0)) (C := RX12) (T := TX12) (N := 149) hx hb hts hin hown hK hP 0 mH_0 rfl 0 (by decide) L_left (fun _ h9 => h9) mF_0 dX12_isSymbol_1 ?_
  refine lv_iload_n hx hb dX12_isSymbol_4 rfl (lv_at hl 1 rfl) ?_
  refine va_iald hx hb hK hP 1 0 mG_0 rfl (by assumption) dX12_isSymbol_5 ?_
  refine lv_topi (fun v1 ev1 => ?_)
  have ev1 : v1 = (u.2.1 0) (i).toNatClampNeg := ev1
  refine lv_bipush hx hb dX12_isSymbol_6 (v := (-2)) rfl ?_
  refine lv_icmp_ne hx hb dX12_isSymbol_8 (tgt := 15) rfl (fun h2 => ?_) (fun h2 => ?_)
  · refine lv_iconst hx hb dX12_isSymbol_15 (v := 0) rfl ?_
    exact W.zret (v := 0) hx hb hr rfl (fun t ht hW => ⟨⟨0, u, rfl, ⟨rfl, by rw [← ev1]; first | rw [if_pos h2] | rw [if_neg h2]⟩, by rw [ht]; exact hP, va_K.moved hW.alike hK, hD⟩, hS.F ht⟩) hS.2.2 dX12_isSymbol_16
  · refine lv_iconst hx hb dX12_isSymbol_11 (v := 1) rfl ?_
    refine lv_goto hx hb dX12_isSymbol_12 (tgt := 16) rfl ?_
    exact W.zret (v := 1) hx hb hr rfl (fun t ht hW => ⟨⟨1, u, rfl, ⟨rfl, by rw [← ev1]; first | rw [if_pos h2] | rw [if_neg h2]⟩, by rw [ht]; exact hP, va_K.moved hW.alike hK, hD⟩, hS.F ht⟩) hS.2.2 dX12_isSymbol_16

set_option maxHeartbeats 4000000 in
set_option maxRecDepth 100000 in
/-- spell(c) -/
theorem c_m_spell (l : Launch) (D : va_G) (ca : Nat → ClassId) (h0 sz : Nat) (ad : Nat → Nat) (u : mST) (a : Int32)  (hi : vp_in (u.1 18) 12) : Met l yX12_spell wsX12_spell pR_0 (va_Pc [.ref (h0), .int (a)] (fun U => U.heap.size = sz ∧ mWd D ca (fun _ => True) h0 ad u U)) (va_Qv (fun v : mST => v = if a = 0 then u else mI (mA u 17 (u.1 18).toNatClampNeg a) 18 (u.1 18 + 1)) (mWd D ca (va_A (mCl ca h0 ad u) sz) h0 ad) (va_A (mCl ca h0 ad u) sz)) 0 0 (va_A (mCl ca h0 ad u) sz) := by
  refine Met.ofW (cc := cX12_spell) (maxL := 2) (ret := none) (by decide) rfl ?_
  intro p e s m args below meth c s₁ B hml hv
  obtain ⟨rfl, hsz, hP, hK, hD0⟩ := hv
  have hx := B.exec
  have hb := B.bytes
  have hr := B.returns
  have hts := atoms_spec (ws := wsX12_spell) B.pre
  have hown : s.vm.findClass RX12 = some m.cls := findClass_of_methodNamed B.named
  have hlocks := B.notSynchronized
  subst hsz
  have hD := hD0.self (sz := s.heap.size)
  generalize hAe : va_A (mCl ca h0 ad u) s.heap.size = A at hD ⊢
  have hA : ∀ q : Nat, s.heap.size ≤ q → A q := fun q h => by rw [← hAe]; exact Or.inr h
  have hS : va_S A s.heap s.heap [] := va_S.rf
  have L_word := hts (.fieldLink RX12 50 "ProofHouseModel" "word" "[I") (by decide +kernel)
  have L_wordSize := hts (.fieldLink RX12 309 "ProofHouseModel" "wordSize" "I") (by decide +kernel)
  have hin : ∀ w ∈ wsX120, w ∈ wsX12_spell := fun w h => List.mem_cons_of_mem _ (List.mem_append_right _ h)
  have hl := lv_entry ([.ref (h0), .int (a)]) (n := 2) (Nat.le_of_ble_eq_true rfl)
  rw [lg_entry_eq]
  generalize (lg_sl ([.ref (h0), .int (a)]) ++ List.replicate (2 - (lg_sl ([.ref (h0), .int (a)])).length) Slot.unset).toArray = ls at hl ⊢
  have hl : lv_has ls 2 [(0, .ref (h0)), (1, .int (a))] := hl
  refine lv_iload_n hx hb dX12_spell_0 rfl (lv_at hl 1 rfl) ?_
  refine lv_if_ne hx hb dX12_spell_1 (tgt := 5) rfl (fun h1 => ?_) (fun h1 => ?_)
  · refine lv_aload_n hx hb dX12_spell_5 rfl (lv_at hl 0 rfl) ?_
    refine va_get (D := D) (ci := 12) (v := .ref (ad 17)) (C := RX12) (T := TX12) (N := 149) hx hb hts hin hown hK hP 0 mH_0 rfl 17 (by decide) L_word (fun _ h9 => h9) mF_17 dX12_spell_6 ?_
    refine lv_aload_n hx hb dX12_spell_9 rfl (lv_at hl 0 rfl) ?_
    refine va_get (D := D) (ci := 12) (v := .int (u.1 18)) (C := RX12) (T := TX12) (N := 149) hx hb hts hin hown hK hP 0 mH_0 rfl 18 (by decide) L_wordSize (fun _ h9 => h9) mF_18 dX12_spell_10 ?_
    refine lv_iload_n hx hb dX12_spell_13 rfl (lv_at hl 1 rfl) ?_
    refine va_iast hx hb hK hP hD hS 13 12 mG_17 rfl hi dX12_spell_14 (fun H locs hP hD hS => ?_)
    rw [mSA_17] at hP hD
    refine lv_aload_n hx hb dX12_spell_15 rfl (lv_at hl 0 rfl) ?_
    refine lv_dup hx hb dX12_spell_16 rfl ?_
    refine va_get (D := D) (ci := 12) (v := .int (u.1 18)) (C := RX12) (T := TX12) (N := 149) hx hb hts hin hown hK hP 0 mH_0 rfl 18 (by decide) L_wordSize (fun _ h9 => h9) mF_18 dX12_spell_17 ?_
    refine lv_iconst hx hb dX12_spell_20 (v := 1) rfl ?_
    refine lv_iadd hx hb dX12_spell_21 ?_
    refine va_put (D := D) (ci := 12) (v := .int ((u.1 18) + 1)) (ty := .int) (C := RX12) (T := TX12) (N := 149) hx hb hts hin tyX12 tyX12_ok nmX12 hown hK hP hD hS 0 mH_0 rfl 18 (by decide) L_wordSize (fun _ h9 => h9) rfl (tyX12_ok 18 (by decide)) rfl rfl (Nat.le_of_ble_eq_true rfl) dX12_spell_22 (fun H locs hP hD hS => ?_)
    rw [mSI_18] at hP hD
    exact W.vret hx hb hr (fun t ht hW => ⟨⟨mI (mA u 17 (u.1 18).toNatClampNeg (a)) 18 ((u.1 18) + 1), rfl, (if_neg h1).symm, by rw [ht]; exact hP, va_K.moved hW.alike hK, hD⟩, hS.F ht⟩) hS.2.2 dX12_spell_25
  · exact W.vret hx hb hr (fun t ht hW => ⟨⟨u, rfl, (if_pos h1).symm, by rw [ht]; exact hP, va_K.moved hW.alike hK, hD⟩, hS.F ht⟩) hS.2.2 dX12_spell_4
end
section
/-- what added(l, r, h) makes: one object more -/
def m_added (u : mST) (a b h : Int32) : mST := mI (mA (mA (mA (mA (mA (mA u 0 (u.1 8).toNatClampNeg a) 1 (u.1 8).toNatClampNeg b) 2 (u.1 8).toNatClampNeg (u.2.1 7 h.toNatClampNeg)) 3 (u.1 8).toNatClampNeg 0) 4 (u.1 8).toNatClampNeg (if a < 0 then 0 else 1 + (if u.2.1 4 b.toNatClampNeg < u.2.1 4 a.toNatClampNeg then u.2.1 4 a.toNatClampNeg else u.2.1 4 b.toNatClampNeg))) 7 h.toNatClampNeg (u.1 8)) 8 (u.1 8 + 1)

set_option maxHeartbeats 4000000 in
set_option maxRecDepth 100000 in
/-- added(l, r, h) -/
theorem c_m_added (l : Launch) (D : va_G) (ca : Nat → ClassId) (h0 sz : Nat) (ad : Nat → Nat) (u : mST) (a : Int32) (b : Int32) (h : Int32)  (ho : vp_in (u.1 8) 452000) (hh : vp_in h 8192) (hab : 0 ≤ a → vp_in a 452000 ∧ vp_in b 452000) : Met l yX12_added wsX12_added pR_0 (va_Pc [.ref (h0), .int (a), .int (b), .int (h)] (fun U => U.heap.size = sz ∧ mWd D ca (fun _ => True) h0 ad u U)) (va_Qi (fun (r : Int32) (v : mST) => v = m_added u a b h ∧ r = u.1 8 + 1 - 1) (mWd D ca (va_A (mCl ca h0 ad u) sz) h0 ad) (va_A (mCl ca h0 ad u) sz)) 0 0 (va_A (mCl ca h0 ad u) sz) := by
  refine Met.ofW (cc := cX12_added) (maxL := 4) (ret := (some .int)) (by decide) rfl ?_
  intro p e s m args below meth c s₁ B hml hv
  obtain ⟨rfl, hsz, hP, hK, hD0⟩ := hv
  have hx := B.exec
  have hb := B.bytes
  have hr := B.returns
  have hts := atoms_spec (ws := wsX12_added) B.pre
  have hown : s.vm.findClass RX12 = some m.cls := findClass_of_methodNamed B.named
  have hlocks := B.notSynchronized
  subst hsz
  have hD := hD0.self (sz := s.heap.size)
  generalize hAe : va_A (mCl ca h0 ad u) s.heap.size = A at hD ⊢
  have hA : ∀ q : Nat, s.heap.size ≤ q → A q := fun q h => by rw [← hAe]; exact Or.inr h
  have hS : va_S A s.heap s.heap [] := va_S.rf
  have L_left := hts (.fieldLink RX12 8 "ProofHouseModel" "left" "[I") (by decide +kernel)
  have L_objects := hts (.fieldLink RX12 332 "ProofHouseModel" "objects" "I") (by decide +kernel)
  have L_right := hts (.fieldLink RX12 14 "ProofHouseModel" "right" "[I") (by decide +kernel)
  have L_next := hts (.fieldLink RX12 17 "ProofHouseModel" "next" "[I") (by decide +kernel)
  have L_heads := hts (.fieldLink RX12 31 "ProofHouseModel" "heads" "[I") (by decide +kernel)
  have L_sizes := hts (.fieldLink RX12 20 "ProofHouseModel" "sizes" "[I") (by decide +kernel)
  have L_heights := hts (.fieldLink RX12 23 "ProofHouseModel" "heights" "[I") (by decide +kernel)
  have hin : ∀ w ∈ wsX120, w ∈ wsX12_added := fun w h => List.mem_cons_of_mem _ (List.mem_append_right _ h)
  have hl := lv_entry ([.ref (h0), .int (a), .int (b), .int (h)]) (n := 4) (Nat.le_of_ble_eq_true rfl)
  rw [lg_entry_eq]
  generalize (lg_sl ([.ref (h0), .int (a), .int (b), .int (h)]) ++ List.replicate (4 - (lg_sl ([.ref (h0), .int (a), .int (b), .int (h)])).length) Slot.unset).toArray = ls at hl ⊢
  have hl : lv_has ls 4 [(0, .ref (h0)), (1, .int (a)), (2, .int (b)), (3, .int (h))] := hl
  refine lv_aload_n hx hb dX12_added_0 rfl (lv_at hl 0 rfl) ?_
  refine va_get (D := D) (ci := 12) (v := .ref (ad 0)) (C := RX12) (T := TX12) (N := 149) hx hb hts hin hown hK hP 0 mH_0 rfl 0 (by decide) L_left (fun _ h9 => h9) mF_0 dX12_added_1 ?_
  refine lv_aload_n hx hb dX12_added_4 rfl (lv_at hl 0 rfl) ?_
  refine va_get (D := D) (ci := 12) (v := .int (u.1 8)) (C := RX12) (T := TX12) (N := 149) hx hb hts hin hown hK hP 0 mH_0 rfl 8 (by decide) L_objects (fun _ h9 => h9) mF_8 dX12_added_5 ?_
  refine lv_iload_n hx hb dX12_added_8 rfl (lv_at hl 1 rfl) ?_
  refine va_iast hx hb hK hP hD hS 1 0 mG_0 rfl ho dX12_added_9 (fun H locs hP hD hS => ?_)
  rw [mSA_0] at hP hD
  refine lv_aload_n hx hb dX12_added_10 rfl (lv_at hl 0 rfl) ?_
  refine va_get (D := D) (ci := 12) (v := .ref (ad 1)) (C := RX12) (T := TX12) (N := 149) hx hb hts hin hown hK hP 0 mH_0 rfl 1 (by decide) L_right (fun _ h9 => h9) mF_1 dX12_added_11 ?_
  refine lv_aload_n hx hb dX12_added_14 rfl (lv_at hl 0 rfl) ?_
  refine va_get (D := D) (ci := 12) (v := .int (u.1 8)) (C := RX12) (T := TX12) (N := 149) hx hb hts hin hown hK hP 0 mH_0 rfl 8 (by decide) L_objects (fun _ h9 => h9) mF_8 dX12_added_15 ?_
  refine lv_iload_n hx hb dX12_added_18 rfl (lv_at hl 2 rfl) ?_
  refine va_iast hx hb hK hP hD hS 2 1 mG_1 rfl ho dX12_added_19 (fun H locs hP hD hS => ?_)
  rw [mSA_1] at hP hD
  refine lv_aload_n hx hb dX12_added_20 rfl (lv_at hl 0 rfl) ?_
  refine va_get (D := D) (ci := 12) (v := .ref (ad 2)) (C := RX12) (T := TX12) (N := 149) hx hb hts hin hown hK hP 0 mH_0 rfl 2 (by decide) L_next (fun _ h9 => h9) mF_2 dX12_added_21 ?_
  refine lv_aload_n hx hb dX12_added_24 rfl (lv_at hl 0 rfl) ?_
  refine va_get (D := D) (ci := 12) (v := .int (u.1 8)) (C := RX12) (T := TX12) (N := 149) hx hb hts hin hown hK hP 0 mH_0 rfl 8 (by decide) L_objects (fun _ h9 => h9) mF_8 dX12_added_25 ?_
  refine lv_aload_n hx hb dX12_added_28 rfl (lv_at hl 0 rfl) ?_
  refine va_get (D := D) (ci := 12) (v := .ref (ad 7)) (C := RX12) (T := TX12) (N := 149) hx hb hts hin hown hK hP 0 mH_0 rfl 7 (by decide) L_heads (fun _ h9 => h9) mF_7 dX12_added_29 ?_
  refine lv_iload_n hx hb dX12_added_32 rfl (lv_at hl 3 rfl) ?_
  refine va_iald hx hb hK hP 7 6 mG_7 rfl hh dX12_added_33 ?_
  refine lv_topi (fun v1 ev1 => ?_)
  have ev1 : v1 = (u.2.1 7) (h).toNatClampNeg := ev1
  refine va_iast hx hb hK hP hD hS 3 2 mG_2 rfl ho dX12_added_34 (fun H locs hP hD hS => ?_)
  rw [mSA_2] at hP hD
  refine lv_aload_n hx hb dX12_added_35 rfl (lv_at hl 0 rfl) ?_
  refine va_get (D := D) (ci := 12) (v := .ref (ad 3)) (C := RX12) (T := TX12) (N := 149) hx hb hts hin hown hK hP 0 mH_0 rfl 3 (by decide) L_sizes (fun _ h9 => h9) mF_3 dX12_added_36 ?_
  refine lv_aload_n hx hb dX12_added_39 rfl (lv_at hl 0 rfl) ?_
  refine va_get (D := D) (ci := 12) (v := .int (u.1 8)) (C := RX12) (T := TX12) (N := 149) hx hb hts hin hown hK hP 0 mH_0 rfl 8 (by decide) L_objects (fun _ h9 => h9) mF_8 dX12_added_40 ?_
  refine lv_iconst hx hb dX12_added_43 (v := 0) rfl ?_
  refine va_iast hx hb hK hP hD hS 4 3 mG_3 rfl ho dX12_added_44 (fun H locs hP hD hS => ?_)
  rw [mSA_3] at hP hD
  refine lv_aload_n hx hb dX12_added_45 rfl (lv_at hl 0 rfl) ?_
  refine va_get (D := D) (ci := 12) (v := .ref (ad 4)) (C := RX12) (T := TX12) (N := 149) hx hb hts hin hown hK hP 0 mH_0 rfl 4 (by decide) L_heights (fun _ h9 => h9) mF_4 dX12_added_46 ?_
  refine lv_aload_n hx hb dX12_added_49 rfl (lv_at hl 0 rfl) ?_
  refine va_get (D := D) (ci := 12) (v := .int (u.1 8)) (C := RX12) (T := TX12) (N := 149) hx hb hts hin hown hK hP 0 mH_0 rfl 8 (by decide) L_objects (fun _ h9 => h9) mF_8 dX12_added_50 ?_
  refine lv_iload_n hx hb dX12_added_53 rfl (lv_at hl 1 rfl) ?_
  refine lv_if_ge hx hb dX12_added_54 (tgt := 61) rfl (fun h2 => ?_) (fun h2 => ?_)
  · refine lv_iconst hx hb dX12_added_61 (v := 1) rfl ?_
    refine lv_aload_n hx hb dX12_added_62 rfl (lv_at hl 0 rfl) ?_
    refine va_get (D := D) (ci := 12) (v := .ref (ad 4)) (C := RX12) (T := TX12) (N := 149) hx hb hts hin hown hK hP 0 mH_0 rfl 4 (by decide) L_heights (fun _ h9 => h9) mF_4 dX12_added_63 ?_
    refine lv_iload_n hx hb dX12_added_66 rfl (lv_at hl 1 rfl) ?_
    refine va_iald hx hb hK hP 5 4 mG_4 rfl (hab h2).1 dX12_added_67 ?_
    refine lv_topi (fun v3 ev3 => ?_)
    have ev3 : v3 = (u.2.1 4) (a).toNatClampNeg := ev3
    refine lv_aload_n hx hb dX12_added_68 rfl (lv_at hl 0 rfl) ?_
    refine va_get (D := D) (ci := 12) (v := .ref (ad 4)) (C := RX12) (T := TX12) (N := 149) hx hb hts hin hown hK hP 0 mH_0 rfl 4 (by decide) L_heights (fun _ h9 => h9) mF_4 dX12_added_69 ?_
    refine lv_iload_n hx hb dX12_added_72 rfl (lv_at hl 2 rfl) ?_
    refine va_iald hx hb hK hP 5 4 mG_4 rfl (hab h2).2 dX12_added_73 ?_
    refine lv_topi (fun v4 ev4 => ?_)
    have ev4 : v4 = (u.2.1 4) (b).toNatClampNeg := ev4
    refine lv_icmp_le hx hb dX12_added_74 (tgt := 86) rfl (fun h5 => ?_) (fun h5 => ?_)
    · refine lv_aload_n hx hb dX12_added_86 rfl (lv_at hl 0 rfl) ?_
      refine va_get (D := D) (ci := 12) (v := .ref (ad 4)) (C := RX12) (T := TX12) (N := 149) hx hb hts hin hown hK hP 0 mH_0 rfl 4 (by decide) L_heights (fun _ h9 => h9) mF_4 dX12_added_87 ?_
      refine lv_iload_n hx hb dX12_added_90 rfl (lv_at hl 2 rfl) ?_
      refine va_iald hx hb hK hP 5 4 mG_4 rfl (hab h2).2 dX12_added_91 ?_
      refine lv_topi (fun v6 ev6 => ?_)
      have ev6 : v6 = (u.2.1 4) (b).toNatClampNeg := ev6
      refine lv_iadd hx hb dX12_added_92 ?_
      refine va_iast hx hb hK hP hD hS 5 4 mG_4 rfl ho dX12_added_93 (fun H locs hP hD hS => ?_)
      rw [mSA_4] at hP hD
      refine lv_aload_n hx hb dX12_added_94 rfl (lv_at hl 0 rfl) ?_
      refine va_get (D := D) (ci := 12) (v := .ref (ad 7)) (C := RX12) (T := TX12) (N := 149) hx hb hts hin hown hK hP 0 mH_0 rfl 7 (by decide) L_heads (fun _ h9 => h9) mF_7 dX12_added_95 ?_
      refine lv_iload_n hx hb dX12_added_98 rfl (lv_at hl 3 rfl) ?_
      refine lv_aload_n hx hb dX12_added_99 rfl (lv_at hl 0 rfl) ?_
      refine va_get (D := D) (ci := 12) (v := .int (u.1 8)) (C := RX12) (T := TX12) (N := 149) hx hb hts hin hown hK hP 0 mH_0 rfl 8 (by decide) L_objects (fun _ h9 => h9) mF_8 dX12_added_100 ?_
      refine va_iast hx hb hK hP hD hS 7 6 mG_7 rfl hh dX12_added_103 (fun H locs hP hD hS => ?_)
      rw [mSA_7] at hP hD
      refine lv_aload_n hx hb dX12_added_104 rfl (lv_at hl 0 rfl) ?_
      refine lv_dup hx hb dX12_added_105 rfl ?_
      refine va_get (D := D) (ci := 12) (v := .int (u.1 8)) (C := RX12) (T := TX12) (N := 149) hx hb hts hin hown hK hP 0 mH_0 rfl 8 (by decide) L_objects (fun _ h9 => h9) mF_8 dX12_added_106 ?_
      refine lv_iconst hx hb dX12_added_109 (v := 1) rfl ?_
      refine lv_iadd hx hb dX12_added_110 ?_
      refine va_put (D := D) (ci := 12) (v := .int ((u.1 8) + 1)) (ty := .int) (C := RX12) (T := TX12) (N := 149) hx hb hts hin tyX12 tyX12_ok nmX12 hown hK hP hD hS 0 mH_0 rfl 8 (by decide) L_objects (fun _ h9 => h9) rfl (tyX12_ok 8 (by decide)) rfl rfl (Nat.le_of_ble_eq_true rfl) dX12_added_111 (fun H locs hP hD hS => ?_)
      rw [mSI_8] at hP hD
      refine lv_aload_n hx hb dX12_added_114 rfl (lv_at hl 0 rfl) ?_
      refine va_get (D := D) (ci := 12) (v := .int ((u.1 8) + 1)) (C := RX12) (T := TX12) (N := 149) hx hb hts hin hown hK hP 0 mH_0 rfl 8 (by decide) L_objects (fun _ h9 => h9) mF_8 dX12_added_115 ?_
      refine lv_iconst hx hb dX12_added_118 (v := 1) rfl ?_
      refine lv_isub hx hb dX12_added_119 ?_
      exact W.iret (v := ((u.1 8) + 1) - 1) hx hb hr (fun t ht hW => ⟨⟨((u.1 8) + 1) - 1, mI (mA (mA (mA (mA (mA (mA u 0 (u.1 8).toNatClampNeg (a)) 1 (u.1 8).toNatClampNeg (b)) 2 (u.1 8).toNatClampNeg (v1)) 3 (u.1 8).toNatClampNeg (0)) 4 (u.1 8).toNatClampNeg (1 + v6)) 7 (h).toNatClampNeg (u.1 8)) 8 ((u.1 8) + 1), rfl, ⟨by subst ev1; unfold m_added; first | (rw [if_pos (Int32.not_le.mp h2)]; done) | (rw [if_neg (Int32.not_lt.mpr h2)]; subst_vars; first | (rw [if_neg (Int32.not_lt.mpr h5)]; done) | (rw [if_pos (Int32.not_le.mp h5)]; done)), by rfl⟩, by rw [ht]; exact hP, va_K.moved hW.alike hK, hD⟩, hS.F ht⟩) hS.2.2 dX12_added_120
    · refine lv_aload_n hx hb dX12_added_77 rfl (lv_at hl 0 rfl) ?_
      refine va_get (D := D) (ci := 12) (v := .ref (ad 4)) (C := RX12) (T := TX12) (N := 149) hx hb hts hin hown hK hP 0 mH_0 rfl 4 (by decide) L_heights (fun _ h9 => h9) mF_4 dX12_added_78 ?_
      refine lv_iload_n hx hb dX12_added_81 rfl (lv_at hl 1 rfl) ?_
      refine va_iald hx hb hK hP 5 4 mG_4 rfl (hab h2).1 dX12_added_82 ?_
      refine lv_topi (fun v7 ev7 => ?_)
      have ev7 : v7 = (u.2.1 4) (a).toNatClampNeg := ev7
      refine lv_goto hx hb dX12_added_83 (tgt := 92) rfl ?_
      refine lv_iadd hx hb dX12_added_92 ?_
      refine va_iast hx hb hK hP hD hS 5 4 mG_4 rfl ho dX12_added_93 (fun H locs hP hD hS => ?_)
      rw [mSA_4] at hP hD
      refine lv_aload_n hx hb dX12_added_94 rfl (lv_at hl 0 rfl) ?_
      refine va_get (D := D) (ci := 12) (v := .ref (ad 7)) (C := RX12) (T := TX12) (N := 149) hx hb hts hin hown hK hP 0 mH_0 rfl 7 (by decide) L_heads (fun _ h9 => h9) mF_7 dX12_added_95 ?_
      refine lv_iload_n hx hb dX12_added_98 rfl (lv_at hl 3 rfl) ?_
      refine lv_aload_n hx hb dX12_added_99 rfl (lv_at hl 0 rfl) ?_
      refine va_get (D := D) (ci := 12) (v := .int (u.1 8)) (C := RX12) (T := TX12) (N := 149) hx hb hts hin hown hK hP 0 mH_0 rfl 8 (by decide) L_objects (fun _ h9 => h9) mF_8 dX12_added_100 ?_
      refine va_iast hx hb hK hP hD hS 7 6 mG_7 rfl hh dX12_added_103 (fun H locs hP hD hS => ?_)
      rw [mSA_7] at hP hD
      refine lv_aload_n hx hb dX12_added_104 rfl (lv_at hl 0 rfl) ?_
      refine lv_dup hx hb dX12_added_105 rfl ?_
      refine va_get (D := D) (ci := 12) (v := .int (u.1 8)) (C := RX12) (T := TX12) (N := 149) hx hb hts hin hown hK hP 0 mH_0 rfl 8 (by decide) L_objects (fun _ h9 => h9) mF_8 dX12_added_106 ?_
      refine lv_iconst hx hb dX12_added_109 (v := 1) rfl ?_
      refine lv_iadd hx hb dX12_added_110 ?_
      refine va_put (D := D) (ci := 12) (v := .int ((u.1 8) + 1)) (ty := .int) (C := RX12) (T := TX12) (N := 149) hx hb hts hin tyX12 tyX12_ok nmX12 hown hK hP hD hS 0 mH_0 rfl 8 (by decide) L_objects (fun _ h9 => h9) rfl (tyX12_ok 8 (by decide)) rfl rfl (Nat.le_of_ble_eq_true rfl) dX12_added_111 (fun H locs hP hD hS => ?_)
      rw [mSI_8] at hP hD
      refine lv_aload_n hx hb dX12_added_114 rfl (lv_at hl 0 rfl) ?_
      refine va_get (D := D) (ci := 12) (v := .int ((u.1 8) + 1)) (C := RX12) (T := TX12) (N := 149) hx hb hts hin hown hK hP 0 mH_0 rfl 8 (by decide) L_objects (fun _ h9 => h9) mF_8 dX12_added_115 ?_
      refine lv_iconst hx hb dX12_added_118 (v := 1) rfl ?_
      refine lv_isub hx hb dX12_added_119 ?_
      exact W.iret (v := ((u.1 8) + 1) - 1) hx hb hr (fun t ht hW => ⟨⟨((u.1 8) + 1) - 1, mI (mA (mA (mA (mA (mA (mA u 0 (u.1 8).toNatClampNeg (a)) 1 (u.1 8).toNatClampNeg (b)) 2 (u.1 8).toNatClampNeg (v1)) 3 (u.1 8).toNatClampNeg (0)) 4 (u.1 8).toNatClampNeg (1 + v7)) 7 (h).toNatClampNeg (u.1 8)) 8 ((u.1 8) + 1), rfl, ⟨by subst ev1; unfold m_added; first | (rw [if_pos (Int32.not_le.mp h2)]; done) | (rw [if_neg (Int32.not_lt.mpr h2)]; subst_vars; first | (rw [if_neg (Int32.not_lt.mpr h5)]; done) | (rw [if_pos (Int32.not_le.mp h5)]; done)), by rfl⟩, by rw [ht]; exact hP, va_K.moved hW.alike hK, hD⟩, hS.F ht⟩) hS.2.2 dX12_added_120
  · refine lv_iconst hx hb dX12_added_57 (v := 0) rfl ?_
    refine lv_goto hx hb dX12_added_58 (tgt := 93) rfl ?_
    refine va_iast hx hb hK hP hD hS 5 4 mG_4 rfl ho dX12_added_93 (fun H locs hP hD hS => ?_)
    rw [mSA_4] at hP hD
    refine lv_aload_n hx hb dX12_added_94 rfl (lv_at hl 0 rfl) ?_
    refine va_get (D := D) (ci := 12) (v := .ref (ad 7)) (C := RX12) (T := TX12) (N := 149) hx hb hts hin hown hK hP 0 mH_0 rfl 7 (by decide) L_heads (fun _ h9 => h9) mF_7 dX12_added_95 ?_
    refine lv_iload_n hx hb dX12_added_98 rfl (lv_at hl 3 rfl) ?_
    refine lv_aload_n hx hb dX12_added_99 rfl (lv_at hl 0 rfl) ?_
    refine va_get (D := D) (ci := 12) (v := .int (u.1 8)) (C := RX12) (T := TX12) (N := 149) hx hb hts hin hown hK hP 0 mH_0 rfl 8 (by decide) L_objects (fun _ h9 => h9) mF_8 dX12_added_100 ?_
    refine va_iast hx hb hK hP hD hS 7 6 mG_7 rfl hh dX12_added_103 (fun H locs hP hD hS => ?_)
    rw [mSA_7] at hP hD
    refine lv_aload_n hx hb dX12_added_104 rfl (lv_at hl 0 rfl) ?_
    refine lv_dup hx hb dX12_added_105 rfl ?_
    refine va_get (D := D) (ci := 12) (v := .int (u.1 8)) (C := RX12) (T := TX12) (N := 149) hx hb hts hin hown hK hP 0 mH_0 rfl 8 (by decide) L_objects (fun _ h9 => h9) mF_8 dX12_added_106 ?_
    refine lv_iconst hx hb dX12_added_109 (v := 1) rfl ?_
    refine lv_iadd hx hb dX12_added_110 ?_
    refine va_put (D := D) (ci := 12) (v := .int ((u.1 8) + 1)) (ty := .int) (C := RX12) (T := TX12) (N := 149) hx hb hts hin tyX12 tyX12_ok nmX12 hown hK hP hD hS 0 mH_0 rfl 8 (by decide) L_objects (fun _ h9 => h9) rfl (tyX12_ok 8 (by decide)) rfl rfl (Nat.le_of_ble_eq_true rfl) dX12_added_111 (fun H locs hP hD hS => ?_)
    rw [mSI_8] at hP hD
    refine lv_aload_n hx hb dX12_added_114 rfl (lv_at hl 0 rfl) ?_
    refine va_get (D := D) (ci := 12) (v := .int ((u.1 8) + 1)) (C := RX12) (T := TX12) (N := 149) hx hb hts hin hown hK hP 0 mH_0 rfl 8 (by decide) L_objects (fun _ h9 => h9) mF_8 dX12_added_115 ?_
    refine lv_iconst hx hb dX12_added_118 (v := 1) rfl ?_
    refine lv_isub hx hb dX12_added_119 ?_
    exact W.iret (v := ((u.1 8) + 1) - 1) hx hb hr (fun t ht hW => ⟨⟨((u.1 8) + 1) - 1, mI (mA (mA (mA (mA (mA (mA u 0 (u.1 8).toNatClampNeg (a)) 1 (u.1 8).toNatClampNeg (b)) 2 (u.1 8).toNatClampNeg (v1)) 3 (u.1 8).toNatClampNeg (0)) 4 (u.1 8).toNatClampNeg (0)) 7 (h).toNatClampNeg (u.1 8)) 8 ((u.1 8) + 1), rfl, ⟨by subst ev1; unfold m_added; first | (rw [if_pos (Int32.not_le.mp h2)]; done) | (rw [if_neg (Int32.not_lt.mpr h2)]; subst_vars; first | (rw [if_neg (Int32.not_lt.mpr h5)]; done) | (rw [if_pos (Int32.not_le.mp h5)]; done)), by rfl⟩, by rw [ht]; exact hP, va_K.moved hW.alike hK, hD⟩, hS.F ht⟩) hS.2.2 dX12_added_120
end
section
section
variable {p : Program} {l : Launch} {e : Env} {R : Room} {s : State} {m : MethodId} {args : Array Value} {below : List Frame} {meth : Method} {c : Code} {H : Heap} {locs : List Loc} {cells slots : Nat} {Q : State → Prop}
/-- a loop that changes its locals alone -/
theorem w_loop {pc nL : Nat} {α : Type} (lst : α → List (Nat × Value)) (μ : α → Nat) (I : α → Prop) (step : ∀ (a : α) (ls : Array Slot), I a → lv_has ls nL (lst a) → (∀ (b : α) (ls' : Array Slot), I b → μ b < μ a → lv_has ls' nL (lst b) → W p l e R s m args below meth c H locs cells slots Q (F0 m pc ls' [])) → W p l e R s m args below meth c H locs cells slots Q (F0 m pc ls [])) (a : α) (ls : Array Slot) (hI : I a) (hl : lv_has ls nL (lst a)) : W p l e R s m args below meth c H locs cells slots Q (F0 m pc ls []) := by
  have key : ∀ (n : Nat) (a : α) (ls : Array Slot), μ a < n → I a → lv_has ls nL (lst a) → W p l e R s m args below meth c H locs cells slots Q (F0 m pc ls []) := by
    intro n
    induction n with
    | zero => intro a ls h; exact absurd h (Nat.not_lt_zero _)
    | succ n ih => intro a ls h hI hl; exact step a ls hI hl (fun b ls' hb hm hl' => ih b ls' (by omega) hb hl')
  exact key (μ a + 1) a ls (Nat.lt_succ_self _) hI hl
/-- a loop that changes the reference's state too -/
theorem w_loopS {D : va_G} {ca : Nat → ClassId} {A : Nat → Prop} {H0 : Heap} {h0 : Nat} {ad : Nat → Nat} {pc nL : Nat} {α : Type} (sta : α → mST) (lst : α → List (Nat × Value)) (μ : α → Nat) (I : α → Prop) (step : ∀ (a : α) (H : Heap) (locs : List Loc) (ls : Array Slot), I a → va_P D vwCl (mCl ca h0 ad (sta a)) H → va_D A (mCl ca h0 ad (sta a)) → va_S A H0 H locs → lv_has ls nL (lst a) → (∀ (b : α) (H : Heap) (locs : List Loc) (ls' : Array Slot), I b → μ b < μ a → va_P D vwCl (mCl ca h0 ad (sta b)) H → va_D A (mCl ca h0 ad (sta b)) → va_S A H0 H locs → lv_has ls' nL (lst b) → W p l e R s m args below meth c H locs cells slots Q (F0 m pc ls' [])) → W p l e R s m args below meth c H locs cells slots Q (F0 m pc ls [])) (a : α) (ls : Array Slot) (hI : I a) (hP : va_P D vwCl (mCl ca h0 ad (sta a)) H) (hD : va_D A (mCl ca h0 ad (sta a))) (hS : va_S A H0 H locs) (hl : lv_has ls nL (lst a)) : W p l e R s m args below meth c H locs cells slots Q (F0 m pc ls []) := by
  have key : ∀ (n : Nat) (a : α) (H : Heap) (locs : List Loc) (ls : Array Slot), μ a < n → I a → va_P D vwCl (mCl ca h0 ad (sta a)) H → va_D A (mCl ca h0 ad (sta a)) → va_S A H0 H locs → lv_has ls nL (lst a) → W p l e R s m args below meth c H locs cells slots Q (F0 m pc ls []) := by
    intro n
    induction n with
    | zero => intro a H locs ls h; exact absurd h (Nat.not_lt_zero _)
    | succ n ih => intro a H locs ls h hI hP hD hS hl; exact step a H locs ls hI hP hD hS hl (fun b H locs ls' hb hm hP hD hS hl' => ih b H locs ls' (by omega) hb hP hD hS hl')
  exact key (μ a + 1) a H locs ls (Nat.lt_succ_self _) hI hP hD hS hl
end

set_option maxHeartbeats 4000000 in
set_option maxRecDepth 100000 in
/-- spelled(from, n, true) -/
theorem c_m_spelled (l : Launch) (D : va_G) (ca : Nat → ClassId) (h0 sz : Nat) (ad : Nat → Nat) (u : mST) (a : Int32) (b : Int32)  (N : Nat) (hbN : b = nI N) (hN : N ≤ 12) : Met l yX12_spelled wsX12_spelled pR_0 (va_Pc [.ref (h0), .int (a), .int (b), .int (1)] (fun U => U.heap.size = sz ∧ mWd D ca (fun _ => True) h0 ad u U)) (va_Qi (fun (r : Int32) (v : mST) => v = u ∧ ∃ j : Nat, j < 8192 ∧ r = nI j) (mWd D ca (va_A (mCl ca h0 ad u) sz) h0 ad) (va_A (mCl ca h0 ad u) sz)) 0 0 (va_A (mCl ca h0 ad u) sz) := by
  refine Met.ofW (cc := cX12_spelled) (maxL := 6) (ret := (some .int)) (by decide) rfl ?_
  intro p e s m args below meth c s₁ B hml hv
  obtain ⟨rfl, hsz, hP, hK, hD0⟩ := hv
  have hx := B.exec
  have hb := B.bytes
  have hr := B.returns
  have hts := atoms_spec (ws := wsX12_spelled) B.pre
  have hown : s.vm.findClass RX12 = some m.cls := findClass_of_methodNamed B.named
  have hlocks := B.notSynchronized
  subst hsz
  have hD := hD0.self (sz := s.heap.size)
  generalize hAe : va_A (mCl ca h0 ad u) s.heap.size = A at hD ⊢
  have hA : ∀ q : Nat, s.heap.size ≤ q → A q := fun q h => by rw [← hAe]; exact Or.inr h
  have hS : va_S A s.heap s.heap [] := va_S.rf
  have L_word := hts (.fieldLink RX12 50 "ProofHouseModel" "word" "[I") (by decide +kernel)
  have L_names := hts (.fieldLink RX12 35 "ProofHouseModel" "names" "[I") (by decide +kernel)
  have hin : ∀ w ∈ wsX120, w ∈ wsX12_spelled := fun w h => List.mem_cons_of_mem _ (List.mem_append_right _ h)
  have hl := lv_entry ([.ref (h0), .int (a), .int (b), .int (1)]) (n := 6) (Nat.le_of_ble_eq_true rfl)
  rw [lg_entry_eq]
  generalize (lg_sl ([.ref (h0), .int (a), .int (b), .int (1)]) ++ List.replicate (6 - (lg_sl ([.ref (h0), .int (a), .int (b), .int (1)])).length) Slot.unset).toArray = ls at hl ⊢
  have hl : lv_has ls 6 [(0, .ref (h0)), (1, .int (a)), (2, .int (b)), (3, .int (1))] := hl
  refine lv_iconst hx hb dX12_spelled_0 (v := 5) rfl ?_
  refine lv_istore hx hb dX12_spelled_1 hl (by decide) rfl (fun ls hl => ?_)
  have hl : lv_has ls 6 [(4, .int (5)), (0, .ref (h0)), (1, .int (a)), (2, .int (b)), (3, .int (1))] := hl
  refine lv_iconst hx hb dX12_spelled_3 (v := 0) rfl ?_
  refine lv_istore hx hb dX12_spelled_4 hl (by decide) rfl (fun ls hl => ?_)
  have hl : lv_has ls 6 [(5, .int (0)), (4, .int (5)), (0, .ref (h0)), (1, .int (a)), (2, .int (b)), (3, .int (1))] := hl
  refine w_loop (nL := 6) (lst := fun q : Int32 × Nat => [(5, .int (nI q.2)), (4, .int q.1), (0, .ref h0), (1, .int a), (2, .int b), (3, .int 1)]) (μ := fun q => N - q.2) (I := fun q => q.2 ≤ N) ?_ (5, 0) ls (Nat.zero_le _) hl
  intro q ls hI hl ih
  obtain ⟨x4, j⟩ := q
  have hl : lv_has ls 6 [(5, .int (nI j)), (4, .int (x4)), (0, .ref (h0)), (1, .int (a)), (2, .int (b)), (3, .int (1))] := hl
  refine lv_iload hx hb dX12_spelled_6 (lv_at hl 0 rfl) ?_
  refine lv_iload_n hx hb dX12_spelled_8 rfl (lv_at hl 4 rfl) ?_
  refine lv_icmp_ge hx hb dX12_spelled_9 (tgt := 50) rfl (fun h1 => ?_) (fun h1 => ?_)
  · refine lv_iload hx hb dX12_spelled_50 (lv_at hl 1 rfl) ?_
    refine lv_sipush hx hb dX12_spelled_52 (v := 8191) rfl ?_
    refine lv_iand hx hb dX12_spelled_55 ?_
    exact W.iret (v := x4 &&& 8191) hx hb hr (fun t ht hW => ⟨⟨x4 &&& 8191, u, rfl, ⟨rfl, pk_andE _ 13 (by decide)⟩, by rw [ht]; exact hP, va_K.moved hW.alike hK, hD⟩, hS.F ht⟩) hS.2.2 dX12_spelled_56
  · have hj : j < N := by
      rcases Nat.lt_or_ge j N with h | h
      · exact h
      · exact absurd (by rw [hbN]; exact nI_le h (by omega)) h1
    refine lv_sipush hx hb dX12_spelled_12 (v := 131) rfl ?_
    refine lv_iload hx hb dX12_spelled_15 (lv_at hl 1 rfl) ?_
    refine lv_imul hx hb dX12_spelled_17 ?_
    refine lv_iload_n hx hb dX12_spelled_18 rfl (lv_at hl 5 rfl) ?_
    refine lv_if_eq hx hb dX12_spelled_19 (tgt := 32) rfl (fun h2 => ?_) (fun h2 => ?_)
    · exact absurd h2 (by decide)
    · refine lv_aload_n hx hb dX12_spelled_22 rfl (lv_at hl 2 rfl) ?_
      refine va_get (D := D) (ci := 12) (v := .ref (ad 17)) (C := RX12) (T := TX12) (N := 149) hx hb hts hin hown hK hP 0 mH_0 rfl 17 (by decide) L_word (fun _ h9 => h9) mF_17 dX12_spelled_23 ?_
      refine lv_iload hx hb dX12_spelled_26 (lv_at hl 0 rfl) ?_
      refine va_iald hx hb hK hP 13 12 mG_17 rfl (vp_in_nI (by omega) (by decide)) dX12_spelled_28 ?_
      refine lv_topi (fun v3 ev3 => ?_)
      have ev3 : v3 = (u.2.1 17) (nI j).toNatClampNeg := ev3
      refine lv_goto hx hb dX12_spelled_29 (tgt := 41) rfl ?_
      refine lv_iadd hx hb dX12_spelled_41 ?_
      refine lv_istore hx hb dX12_spelled_42 hl (by decide) rfl (fun ls hl => ?_)
      have hl : lv_has ls 6 [(4, .int ((131 * x4) + v3)), (5, .int (nI j)), (0, .ref (h0)), (1, .int (a)), (2, .int (b)), (3, .int (1))] := hl
      refine lv_iinc (v := nI j + 1) hx hb dX12_spelled_44 hl (k := 1) rfl rfl (by decide) rfl (fun ls hl => ?_)
      have hl : lv_has ls 6 [(5, .int (nI j + 1)), (4, .int ((131 * x4) + v3)), (0, .ref (h0)), (1, .int (a)), (2, .int (b)), (3, .int (1))] := hl
      refine lv_goto hx hb dX12_spelled_47 (tgt := 6) rfl ?_
      exact ih ((131 * x4) + v3, j + 1) ls (by show j + 1 ≤ N; omega) (by show N - (j + 1) < N - j; omega) (by rw [nI_1] at hl; exact hl)
end
section
set_option maxHeartbeats 4000000 in
set_option maxRecDepth 100000 in
/-- isWord(s) -/
theorem c_m_isWord (l : Launch) (D : va_G) (ca : Nat → ClassId) (h0 sz : Nat) (ad : Nat → Nat) (u : mST) (a : Int32) (S N : Nat) (haS : a = nI S) (hS9 : S < 21000) (hwN : u.1 18 = nI N) (hN : N ≤ 12) : Met l yX12_isWord wsX12_isWord pR_0 (va_Pc [.ref (h0), .int (a)] (fun U => U.heap.size = sz ∧ mWd D ca (fun _ => True) h0 ad u U)) (va_Qi (fun (r : Int32) (v : mST) => v = u ∧ (r = 0 ∨ r = 1)) (mWd D ca (va_A (mCl ca h0 ad u) sz) h0 ad) (va_A (mCl ca h0 ad u) sz)) 0 0 (va_A (mCl ca h0 ad u) sz) := by
  refine Met.ofW (cc := cX12_isWord) (maxL := 4) (ret := (some .boolean)) (by decide) rfl ?_
  intro p e s m args below meth c s₁ B hml hv
  obtain ⟨rfl, hsz, hP, hK, hD0⟩ := hv
  have hx := B.exec
  have hb := B.bytes
  have hr := B.returns
  have hts := atoms_spec (ws := wsX12_isWord) B.pre
  have hown : s.vm.findClass RX12 = some m.cls := findClass_of_methodNamed B.named
  have hlocks := B.notSynchronized
  subst hsz
  have hD := hD0.self (sz := s.heap.size)
  generalize hAe : va_A (mCl ca h0 ad u) s.heap.size = A at hD ⊢
  have hA : ∀ q : Nat, s.heap.size ≤ q → A q := fun q h => by rw [← hAe]; exact Or.inr h
  have hS : va_S A s.heap s.heap [] := va_S.rf
  have L_lengths := hts (.fieldLink RX12 38 "ProofHouseModel" "lengths" "[I") (by decide +kernel)
  have L_wordSize := hts (.fieldLink RX12 309 "ProofHouseModel" "wordSize" "I") (by decide +kernel)
  have L_names := hts (.fieldLink RX12 35 "ProofHouseModel" "names" "[I") (by decide +kernel)
  have L_word := hts (.fieldLink RX12 50 "ProofHouseModel" "word" "[I") (by decide +kernel)
  have hin : ∀ w ∈ wsX120, w ∈ wsX12_isWord := fun w h => List.mem_cons_of_mem _ (List.mem_append_right _ h)
  have hl := lv_entry ([.ref (h0), .int (a)]) (n := 4) (Nat.le_of_ble_eq_true rfl)
  rw [lg_entry_eq]
  generalize (lg_sl ([.ref (h0), .int (a)]) ++ List.replicate (4 - (lg_sl ([.ref (h0), .int (a)])).length) Slot.unset).toArray = ls at hl ⊢
  have hl : lv_has ls 4 [(0, .ref (h0)), (1, .int (a))] := hl
  refine lv_aload_n hx hb dX12_isWord_0 rfl (lv_at hl 0 rfl) ?_
  refine va_get (D := D) (ci := 12) (v := .ref (ad 10)) (C := RX12) (T := TX12) (N := 149) hx hb hts hin hown hK hP 0 mH_0 rfl 10 (by decide) L_lengths (fun _ h9 => h9) mF_10 dX12_isWord_1 ?_
  refine lv_iload_n hx hb dX12_isWord_4 rfl (lv_at hl 1 rfl) ?_
  refine va_iald hx hb hK hP 9 8 mG_10 rfl (by rw [haS]; exact vp_in_nI hS9 (by decide)) dX12_isWord_5 ?_
  refine lv_topi (fun v1 ev1 => ?_)
  have ev1 : v1 = (u.2.1 10) (a).toNatClampNeg := ev1
  refine lv_aload_n hx hb dX12_isWord_6 rfl (lv_at hl 0 rfl) ?_
  refine va_get (D := D) (ci := 12) (v := .int (u.1 18)) (C := RX12) (T := TX12) (N := 149) hx hb hts hin hown hK hP 0 mH_0 rfl 18 (by decide) L_wordSize (fun _ h9 => h9) mF_18 dX12_isWord_7 ?_
  refine lv_icmp_ne hx hb dX12_isWord_10 (tgt := 17) rfl (fun h2 => ?_) (fun h2 => ?_)
  · refine lv_iconst hx hb dX12_isWord_17 (v := 0) rfl ?_
    refine lv_istore_n hx hb dX12_isWord_18 rfl hl (by decide) rfl (fun ls hl => ?_)
    have hl : lv_has ls 4 [(2, .int (0)), (0, .ref (h0)), (1, .int (a))] := hl
    refine lv_iconst hx hb dX12_isWord_19 (v := 0) rfl ?_
    refine lv_istore_n hx hb dX12_isWord_20 rfl hl (by decide) rfl (fun ls hl => ?_)
    have hl : lv_has ls 4 [(3, .int (0)), (2, .int (0)), (0, .ref (h0)), (1, .int (a))] := hl
    refine w_loop (nL := 4) (lst := fun q : Int32 × Nat => [(3, .int (nI q.2)), (2, .int q.1), (0, .ref h0), (1, .int a)]) (μ := fun q => N - q.2) (I := fun q => q.2 ≤ N ∧ (q.1 = 0 ∨ q.1 = 1)) ?_ (0, 0) ls ⟨Nat.zero_le _, by first | exact Or.inl rfl | exact Or.inr rfl⟩ hl
    intro q ls hI hl ih
    obtain ⟨x2, j⟩ := q
    obtain ⟨hI1, hI2⟩ := hI
    dsimp only at hI1 hI2
    have hl : lv_has ls 4 [(3, .int (nI j)), (2, .int (x2)), (0, .ref (h0)), (1, .int (a))] := hl
    refine lv_iload_n hx hb dX12_isWord_21 rfl (lv_at hl 0 rfl) ?_
    refine lv_aload_n hx hb dX12_isWord_22 rfl (lv_at hl 2 rfl) ?_
    refine va_get (D := D) (ci := 12) (v := .int (u.1 18)) (C := RX12) (T := TX12) (N := 149) hx hb hts hin hown hK hP 0 mH_0 rfl 18 (by decide) L_wordSize (fun _ h9 => h9) mF_18 dX12_isWord_23 ?_
    refine lv_icmp_ge hx hb dX12_isWord_26 (tgt := 65) rfl (fun h3 => ?_) (fun h3 => ?_)
    · refine lv_iload_n hx hb dX12_isWord_65 rfl (lv_at hl 1 rfl) ?_
      exact W.zret (v := x2) hx hb hr (by rcases hI2 with h | h <;> rw [h] <;> rfl) (fun t ht hW => ⟨⟨x2, u, rfl, ⟨rfl, hI2⟩, by rw [ht]; exact hP, va_K.moved hW.alike hK, hD⟩, hS.F ht⟩) hS.2.2 dX12_isWord_66
    · have hj : j < N := by
        rcases Nat.lt_or_ge j N with h | h
        · exact h
        · exact absurd (by rw [hwN]; exact nI_le h (by omega)) h3
      refine lv_iload_n hx hb dX12_isWord_29 rfl (lv_at hl 1 rfl) ?_
      refine lv_if_eq hx hb dX12_isWord_30 (tgt := 65) rfl (fun h4 => ?_) (fun h4 => ?_)
      · refine lv_iload_n hx hb dX12_isWord_65 rfl (lv_at hl 1 rfl) ?_
        exact W.zret (v := x2) hx hb hr (by rcases hI2 with h | h <;> rw [h] <;> rfl) (fun t ht hW => ⟨⟨x2, u, rfl, ⟨rfl, hI2⟩, by rw [ht]; exact hP, va_K.moved hW.alike hK, hD⟩, hS.F ht⟩) hS.2.2 dX12_isWord_66
      · refine lv_aload_n hx hb dX12_isWord_33 rfl (lv_at hl 2 rfl) ?_
        refine va_get (D := D) (ci := 12) (v := .ref (ad 9)) (C := RX12) (T := TX12) (N := 149) hx hb hts hin hown hK hP 0 mH_0 rfl 9 (by decide) L_names (fun _ h9 => h9) mF_9 dX12_isWord_34 ?_
        refine lv_bipush hx hb dX12_isWord_37 (v := 12) rfl ?_
        refine lv_iload_n hx hb dX12_isWord_39 rfl (lv_at hl 3 rfl) ?_
        refine lv_imul hx hb dX12_isWord_40 ?_
        refine lv_iload_n hx hb dX12_isWord_41 rfl (lv_at hl 0 rfl) ?_
        refine lv_iadd hx hb dX12_isWord_42 ?_
        refine va_iald hx hb hK hP 8 7 mG_9 rfl (by rw [haS, show (12 : Int32) = nI 12 from rfl, pk_mul, nI_add]; exact vp_in_nI (by omega) (by decide)) dX12_isWord_43 ?_
        refine lv_topi (fun v5 ev5 => ?_)
        have ev5 : v5 = (u.2.1 9) ((12 * a) + (nI j)).toNatClampNeg := ev5
        refine lv_aload_n hx hb dX12_isWord_44 rfl (lv_at hl 2 rfl) ?_
        refine va_get (D := D) (ci := 12) (v := .ref (ad 17)) (C := RX12) (T := TX12) (N := 149) hx hb hts hin hown hK hP 0 mH_0 rfl 17 (by decide) L_word (fun _ h9 => h9) mF_17 dX12_isWord_45 ?_
        refine lv_iload_n hx hb dX12_isWord_48 rfl (lv_at hl 0 rfl) ?_
        refine va_iald hx hb hK hP 13 12 mG_17 rfl (vp_in_nI (by omega) (by decide)) dX12_isWord_49 ?_
        refine lv_topi (fun v6 ev6 => ?_)
        have ev6 : v6 = (u.2.1 17) (nI j).toNatClampNeg := ev6
        refine lv_icmp_ne hx hb dX12_isWord_50 (tgt := 57) rfl (fun h7 => ?_) (fun h7 => ?_)
        · refine lv_iconst hx hb dX12_isWord_57 (v := 0) rfl ?_
          refine lv_istore_n hx hb dX12_isWord_58 rfl hl (by decide) rfl (fun ls hl => ?_)
          have hl : lv_has ls 4 [(2, .int (0)), (3, .int (nI j)), (0, .ref (h0)), (1, .int (a))] := hl
          refine lv_iinc (v := nI j + 1) hx hb dX12_isWord_59 hl (k := 1) rfl rfl (by decide) rfl (fun ls hl => ?_)
          have hl : lv_has ls 4 [(3, .int (nI j + 1)), (2, .int (0)), (0, .ref (h0)), (1, .int (a))] := hl
          refine lv_goto hx hb dX12_isWord_62 (tgt := 21) rfl ?_
          exact ih (0, j + 1) ls ⟨by show j + 1 ≤ N; omega, by first | exact Or.inl rfl | exact Or.inr rfl⟩ (by show N - (j + 1) < N - j; omega) (by rw [nI_1] at hl; exact hl)
        · refine lv_iconst hx hb dX12_isWord_53 (v := 1) rfl ?_
          refine lv_goto hx hb dX12_isWord_54 (tgt := 58) rfl ?_
          refine lv_istore_n hx hb dX12_isWord_58 rfl hl (by decide) rfl (fun ls hl => ?_)
          have hl : lv_has ls 4 [(2, .int (1)), (3, .int (nI j)), (0, .ref (h0)), (1, .int (a))] := hl
          refine lv_iinc (v := nI j + 1) hx hb dX12_isWord_59 hl (k := 1) rfl rfl (by decide) rfl (fun ls hl => ?_)
          have hl : lv_has ls 4 [(3, .int (nI j + 1)), (2, .int (1)), (0, .ref (h0)), (1, .int (a))] := hl
          refine lv_goto hx hb dX12_isWord_62 (tgt := 21) rfl ?_
          exact ih (1, j + 1) ls ⟨by show j + 1 ≤ N; omega, by first | exact Or.inl rfl | exact Or.inr rfl⟩ (by show N - (j + 1) < N - j; omega) (by rw [nI_1] at hl; exact hl)
  · refine lv_iconst hx hb dX12_isWord_13 (v := 1) rfl ?_
    refine lv_goto hx hb dX12_isWord_14 (tgt := 18) rfl ?_
    refine lv_istore_n hx hb dX12_isWord_18 rfl hl (by decide) rfl (fun ls hl => ?_)
    have hl : lv_has ls 4 [(2, .int (1)), (0, .ref (h0)), (1, .int (a))] := hl
    refine lv_iconst hx hb dX12_isWord_19 (v := 0) rfl ?_
    refine lv_istore_n hx hb dX12_isWord_20 rfl hl (by decide) rfl (fun ls hl => ?_)
    have hl : lv_has ls 4 [(3, .int (0)), (2, .int (1)), (0, .ref (h0)), (1, .int (a))] := hl
    refine w_loop (nL := 4) (lst := fun q : Int32 × Nat => [(3, .int (nI q.2)), (2, .int q.1), (0, .ref h0), (1, .int a)]) (μ := fun q => N - q.2) (I := fun q => q.2 ≤ N ∧ (q.1 = 0 ∨ q.1 = 1)) ?_ (1, 0) ls ⟨Nat.zero_le _, by first | exact Or.inl rfl | exact Or.inr rfl⟩ hl
    intro q ls hI hl ih
    obtain ⟨x2, j⟩ := q
    obtain ⟨hI1, hI2⟩ := hI
    dsimp only at hI1 hI2
    have hl : lv_has ls 4 [(3, .int (nI j)), (2, .int (x2)), (0, .ref (h0)), (1, .int (a))] := hl
    refine lv_iload_n hx hb dX12_isWord_21 rfl (lv_at hl 0 rfl) ?_
    refine lv_aload_n hx hb dX12_isWord_22 rfl (lv_at hl 2 rfl) ?_
    refine va_get (D := D) (ci := 12) (v := .int (u.1 18)) (C := RX12) (T := TX12) (N := 149) hx hb hts hin hown hK hP 0 mH_0 rfl 18 (by decide) L_wordSize (fun _ h9 => h9) mF_18 dX12_isWord_23 ?_
    refine lv_icmp_ge hx hb dX12_isWord_26 (tgt := 65) rfl (fun h8 => ?_) (fun h8 => ?_)
    · refine lv_iload_n hx hb dX12_isWord_65 rfl (lv_at hl 1 rfl) ?_
      exact W.zret (v := x2) hx hb hr (by rcases hI2 with h | h <;> rw [h] <;> rfl) (fun t ht hW => ⟨⟨x2, u, rfl, ⟨rfl, hI2⟩, by rw [ht]; exact hP, va_K.moved hW.alike hK, hD⟩, hS.F ht⟩) hS.2.2 dX12_isWord_66
    · have hj : j < N := by
        rcases Nat.lt_or_ge j N with h | h
        · exact h
        · exact absurd (by rw [hwN]; exact nI_le h (by omega)) h8
      refine lv_iload_n hx hb dX12_isWord_29 rfl (lv_at hl 1 rfl) ?_
      refine lv_if_eq hx hb dX12_isWord_30 (tgt := 65) rfl (fun h9 => ?_) (fun h9 => ?_)
      · refine lv_iload_n hx hb dX12_isWord_65 rfl (lv_at hl 1 rfl) ?_
        exact W.zret (v := x2) hx hb hr (by rcases hI2 with h | h <;> rw [h] <;> rfl) (fun t ht hW => ⟨⟨x2, u, rfl, ⟨rfl, hI2⟩, by rw [ht]; exact hP, va_K.moved hW.alike hK, hD⟩, hS.F ht⟩) hS.2.2 dX12_isWord_66
      · refine lv_aload_n hx hb dX12_isWord_33 rfl (lv_at hl 2 rfl) ?_
        refine va_get (D := D) (ci := 12) (v := .ref (ad 9)) (C := RX12) (T := TX12) (N := 149) hx hb hts hin hown hK hP 0 mH_0 rfl 9 (by decide) L_names (fun _ h9 => h9) mF_9 dX12_isWord_34 ?_
        refine lv_bipush hx hb dX12_isWord_37 (v := 12) rfl ?_
        refine lv_iload_n hx hb dX12_isWord_39 rfl (lv_at hl 3 rfl) ?_
        refine lv_imul hx hb dX12_isWord_40 ?_
        refine lv_iload_n hx hb dX12_isWord_41 rfl (lv_at hl 0 rfl) ?_
        refine lv_iadd hx hb dX12_isWord_42 ?_
        refine va_iald hx hb hK hP 8 7 mG_9 rfl (by rw [haS, show (12 : Int32) = nI 12 from rfl, pk_mul, nI_add]; exact vp_in_nI (by omega) (by decide)) dX12_isWord_43 ?_
        refine lv_topi (fun v10 ev10 => ?_)
        have ev10 : v10 = (u.2.1 9) ((12 * a) + (nI j)).toNatClampNeg := ev10
        refine lv_aload_n hx hb dX12_isWord_44 rfl (lv_at hl 2 rfl) ?_
        refine va_get (D := D) (ci := 12) (v := .ref (ad 17)) (C := RX12) (T := TX12) (N := 149) hx hb hts hin hown hK hP 0 mH_0 rfl 17 (by decide) L_word (fun _ h9 => h9) mF_17 dX12_isWord_45 ?_
        refine lv_iload_n hx hb dX12_isWord_48 rfl (lv_at hl 0 rfl) ?_
        refine va_iald hx hb hK hP 13 12 mG_17 rfl (vp_in_nI (by omega) (by decide)) dX12_isWord_49 ?_
        refine lv_topi (fun v11 ev11 => ?_)
        have ev11 : v11 = (u.2.1 17) (nI j).toNatClampNeg := ev11
        refine lv_icmp_ne hx hb dX12_isWord_50 (tgt := 57) rfl (fun h12 => ?_) (fun h12 => ?_)
        · refine lv_iconst hx hb dX12_isWord_57 (v := 0) rfl ?_
          refine lv_istore_n hx hb dX12_isWord_58 rfl hl (by decide) rfl (fun ls hl => ?_)
          have hl : lv_has ls 4 [(2, .int (0)), (3, .int (nI j)), (0, .ref (h0)), (1, .int (a))] := hl
          refine lv_iinc (v := nI j + 1) hx hb dX12_isWord_59 hl (k := 1) rfl rfl (by decide) rfl (fun ls hl => ?_)
          have hl : lv_has ls 4 [(3, .int (nI j + 1)), (2, .int (0)), (0, .ref (h0)), (1, .int (a))] := hl
          refine lv_goto hx hb dX12_isWord_62 (tgt := 21) rfl ?_
          exact ih (0, j + 1) ls ⟨by show j + 1 ≤ N; omega, by first | exact Or.inl rfl | exact Or.inr rfl⟩ (by show N - (j + 1) < N - j; omega) (by rw [nI_1] at hl; exact hl)
        · refine lv_iconst hx hb dX12_isWord_53 (v := 1) rfl ?_
          refine lv_goto hx hb dX12_isWord_54 (tgt := 58) rfl ?_
          refine lv_istore_n hx hb dX12_isWord_58 rfl hl (by decide) rfl (fun ls hl => ?_)
          have hl : lv_has ls 4 [(2, .int (1)), (3, .int (nI j)), (0, .ref (h0)), (1, .int (a))] := hl
          refine lv_iinc (v := nI j + 1) hx hb dX12_isWord_59 hl (k := 1) rfl rfl (by decide) rfl (fun ls hl => ?_)
          have hl : lv_has ls 4 [(3, .int (nI j + 1)), (2, .int (1)), (0, .ref (h0)), (1, .int (a))] := hl
          refine lv_goto hx hb dX12_isWord_62 (tgt := 21) rfl ?_
          exact ih (1, j + 1) ls ⟨by show j + 1 ≤ N; omega, by first | exact Or.inl rfl | exact Or.inr rfl⟩ (by show N - (j + 1) < N - j; omega) (by rw [nI_1] at hl; exact hl)
end
section
/-- the reference's objects while it knows nothing but n symbols: their chains end -/
def mOk (n : Nat) (u : mST) : Prop := u.1 8 = nI n ∧ u.1 11 = nI n ∧ (∀ h : Nat, h < 8192 → u.2.1 7 h = -1 ∨ ∃ i : Nat, i < n ∧ u.2.1 7 h = nI i) ∧ (∀ j : Nat, j < n → u.2.1 0 j = -2 ∧ (∃ i : Nat, i < n ∧ u.2.1 1 j = nI i) ∧ (u.2.1 2 j = -1 ∨ ∃ i : Nat, i < j ∧ u.2.1 2 j = nI i))
def mTouch : List Nat := [0, 1, 2, 3, 4, 7, 9, 10, 17]
/-- what the making of a symbol leaves as it was -/
def mFr (u v : mST) : Prop := (∀ k : Nat, k ≠ 8 → k ≠ 11 → k ≠ 18 → v.1 k = u.1 k) ∧ (∀ g : Nat, g ∉ mTouch → v.2.1 g = u.2.1 g) ∧ v.2.2 = u.2.2
theorem mFr_rf (u : mST) : mFr u u := ⟨fun _ _ _ _ => rfl, fun _ _ => rfl, rfl⟩
theorem mFr_tr {u v w : mST} (h1 : mFr u v) (h2 : mFr v w) : mFr u w := ⟨fun k a b c => (h2.1 k a b c).trans (h1.1 k a b c), fun g a => (h2.2.1 g a).trans (h1.2.1 g a), h2.2.2.trans h1.2.2⟩
theorem mOk_add {n jh : Nat} {u w : mST} (hn : n ≤ 1000) (hu : mOk n u) (hw1 : w.1 = u.1) (hw2 : ∀ g : Nat, g ≠ 9 → g ≠ 10 → w.2.1 g = u.2.1 g) (hj : jh < 8192) : mOk (n + 1) (m_added (mI w 11 (w.1 11 + 1)) (-2) (w.1 11 + 1 - 1) (nI jh)) := by
  obtain ⟨h1, h2, h3, h4⟩ := hu
  have e1 : w.1 8 = nI n := by rw [hw1]; exact h1
  have e2 : w.1 11 = nI n := by rw [hw1]; exact h2
  have en : (w.1 8).toNatClampNeg = n := by rw [e1, nI_clamp (by omega)]
  have ej : (nI jh).toNatClampNeg = jh := nI_clamp (by omega)
  refine ⟨?_, ?_, ?_, ?_⟩
  · show w.1 8 + 1 = nI (n + 1)
    rw [e1, nI_1]
  · show w.1 11 + 1 = nI (n + 1)
    rw [e2, nI_1]
  · intro h hh
    show upd (w.2.1 7) (nI jh).toNatClampNeg (w.1 8) h = -1 ∨ ∃ i : Nat, i < n + 1 ∧ upd (w.2.1 7) (nI jh).toNatClampNeg (w.1 8) h = nI i
    by_cases e : h = (nI jh).toNatClampNeg
    · exact Or.inr ⟨n, by omega, by rw [e, pk_us]; exact e1⟩
    · rw [pk_un e, hw2 7 (by decide) (by decide)]
      rcases h3 h hh with q | ⟨i, hi, q⟩
      · exact Or.inl q
      · exact Or.inr ⟨i, by omega, q⟩
  · intro j hj2
    refine ⟨?_, ?_, ?_⟩
    · show upd (w.2.1 0) (w.1 8).toNatClampNeg (-2) j = -2
      by_cases e : j = (w.1 8).toNatClampNeg
      · rw [e, pk_us]
      · rw [pk_un e, hw2 0 (by decide) (by decide)]
        exact (h4 j (by omega)).1
    · show ∃ i : Nat, i < n + 1 ∧ upd (w.2.1 1) (w.1 8).toNatClampNeg (w.1 11 + 1 - 1) j = nI i
      by_cases e : j = (w.1 8).toNatClampNeg
      · exact ⟨n, by omega, by rw [e, pk_us, e2, nI_1, nI_pred]⟩
      · rw [pk_un e, hw2 1 (by decide) (by decide)]
        obtain ⟨i, hi, q⟩ := (h4 j (by omega)).2.1
        exact ⟨i, by omega, q⟩
    · show upd (w.2.1 2) (w.1 8).toNatClampNeg (w.2.1 7 (nI jh).toNatClampNeg) j = -1 ∨ ∃ i : Nat, i < j ∧ upd (w.2.1 2) (w.1 8).toNatClampNeg (w.2.1 7 (nI jh).toNatClampNeg) j = nI i
      by_cases e : j = (w.1 8).toNatClampNeg
      · rw [e, pk_us, en, ej, hw2 7 (by decide) (by decide)]
        exact h3 jh hj
      · rw [pk_un e, hw2 2 (by decide) (by decide)]
        exact (h4 j (by omega)).2.2
theorem mFr_add {a b h : Int32} {u w : mST} {x : Int32} (hw1 : w.1 = u.1) (hw2 : ∀ g : Nat, g ≠ 9 → g ≠ 10 → w.2.1 g = u.2.1 g) (hw3 : w.2.2 = u.2.2) : mFr u (m_added (mI w 11 x) a b h) := by
  refine ⟨?_, ?_, hw3⟩
  · intro k k1 k2 k3
    rw [← hw1]
    exact (if_neg k1).trans (if_neg k2)
  · intro g hg
    simp only [mTouch, List.mem_cons, List.not_mem_nil, or_false, not_or] at hg
    obtain ⟨g1, g2, g3, g4, g5, g6, g7, g8, g9⟩ := hg
    rw [← hw2 g g7 g8]
    unfold m_added
    rw [mI_r, mA_n _ _ _ g6, mA_n _ _ _ g5, mA_n _ _ _ g4, mA_n _ _ _ g3, mA_n _ _ _ g2, mA_n _ _ _ g1, mI_r]

set_option maxHeartbeats 4000000 in
set_option maxRecDepth 100000 in
/-- symbol() -/
theorem c_m_symbol (l : Launch) (D : va_G) (ca : Nat → ClassId) (h0 sz : Nat) (ad : Nat → Nat) (u : mST)  (n N : Nat) (hn : n ≤ 1000) (hOk : mOk n u) (hwN : u.1 18 = nI N) (hN : N ≤ 12) : Met l yX12_symbol wsX12_symbol ({ frames := 1, cells := 0, slots := 0, locals := 25 }) (va_Pc [.ref (h0)] (fun U => U.heap.size = sz ∧ mWd D ca (fun _ => True) h0 ad u U)) (va_Qi (fun (r : Int32) (v : mST) => ∃ n2 : Nat, n2 ≤ n + 1 ∧ mOk n2 v ∧ mFr u v ∧ v.1 18 = u.1 18) (mWd D ca (va_A (mCl ca h0 ad u) sz) h0 ad) (va_A (mCl ca h0 ad u) sz)) 0 0 (va_A (mCl ca h0 ad u) sz) := by
  refine Met.ofW (cc := cX12_symbol) (maxL := 3) (ret := (some .int)) (by decide) rfl ?_
  intro p e s m args below meth c s₁ B hml hv
  obtain ⟨rfl, hsz, hP, hK, hD0⟩ := hv
  have hx := B.exec
  have hb := B.bytes
  have hr := B.returns
  have hts := atoms_spec (ws := wsX12_symbol) B.pre
  have hown : s.vm.findClass RX12 = some m.cls := findClass_of_methodNamed B.named
  have hlocks := B.notSynchronized
  subst hsz
  have hD := hD0.self (sz := s.heap.size)
  generalize hAe : va_A (mCl ca h0 ad u) s.heap.size = A at hD ⊢
  have hA : ∀ q : Nat, s.heap.size ≤ q → A q := fun q h => by rw [← hAe]; exact Or.inr h
  have hS : va_S A s.heap s.heap [] := va_S.rf
  have L_wordSize := hts (.fieldLink RX12 309 "ProofHouseModel" "wordSize" "I") (by decide +kernel)
  have L_heads := hts (.fieldLink RX12 31 "ProofHouseModel" "heads" "[I") (by decide +kernel)
  have L_left := hts (.fieldLink RX12 8 "ProofHouseModel" "left" "[I") (by decide +kernel)
  have L_right := hts (.fieldLink RX12 14 "ProofHouseModel" "right" "[I") (by decide +kernel)
  have L_next := hts (.fieldLink RX12 17 "ProofHouseModel" "next" "[I") (by decide +kernel)
  have L_lengths := hts (.fieldLink RX12 38 "ProofHouseModel" "lengths" "[I") (by decide +kernel)
  have L_symbols := hts (.fieldLink RX12 346 "ProofHouseModel" "symbols" "I") (by decide +kernel)
  have L_names := hts (.fieldLink RX12 35 "ProofHouseModel" "names" "[I") (by decide +kernel)
  have L_word := hts (.fieldLink RX12 50 "ProofHouseModel" "word" "[I") (by decide +kernel)
  have hin : ∀ w ∈ wsX120, w ∈ wsX12_symbol := fun w h => List.mem_cons_of_mem _ (List.mem_append_right _ h)
  have hl := lv_entry ([.ref (h0)]) (n := 3) (Nat.le_of_ble_eq_true rfl)
  rw [lg_entry_eq]
  generalize (lg_sl ([.ref (h0)]) ++ List.replicate (3 - (lg_sl ([.ref (h0)])).length) Slot.unset).toArray = ls at hl ⊢
  have hl : lv_has ls 3 [(0, .ref (h0))] := hl
  refine lv_aload_n hx hb dX12_symbol_0 rfl (lv_at hl 0 rfl) ?_
  refine lv_iconst hx hb dX12_symbol_1 (v := 0) rfl ?_
  refine lv_aload_n hx hb dX12_symbol_2 rfl (lv_at hl 0 rfl) ?_
  refine va_get (D := D) (ci := 12) (v := .int (u.1 18)) (C := RX12) (T := TX12) (N := 149) hx hb hts hin hown hK hP 0 mH_0 rfl 18 (by decide) L_wordSize (fun _ h9 => h9) mF_18 dX12_symbol_3 ?_
  refine lv_iconst hx hb dX12_symbol_6 (v := 1) rfl ?_
  have hFc := pl_free hD hS hA
  refine va_calli (va_runV (As := [.int (0), .int (u.1 18), .int (1)]) (rest := []) ⟨hx, hb, hml, hown, hts⟩ (c_m_spelled l D ca h0 s.heap.size ad u 0 (u.1 18) N hwN hN) (cwV 3 hts gX12_symbol_X12_spelled rfl rfl rfl (by decide +kernel) ⟨Nat.le_of_ble_eq_true rfl, Nat.le_of_ble_eq_true rfl⟩) ⟨fun a U g mk q => by obtain ⟨q0, q1, qP, qK, qD⟩ := q; exact ⟨q0, q1, qP, va_K.moved (u := U) (U := U.calling g mk a) (Vm.Alike.refl U.vm) qK, qD⟩, va_recv hK hP (ci := 12) (q0 := 0) rfl rfl, fun U hU hW => ⟨rfl, by rw [hU], by rw [hU]; exact hP, va_K.moved hW.alike hK, hD.weaken (fun _ _ _ _ => trivial)⟩⟩ rfl rfl hl.1 rfl (lv_room (Nat.le_of_ble_eq_true rfl)) dX12_symbol_7 ⟨(Nat.zero_le _), (Nat.zero_le _)⟩) hS (fun q _ h => hFc q h) hFc (fun r2 u1 t H1 locs ht hvm hwu1 hB hz1 hk1 hS => ?_)
  obtain ⟨hP1, hK1, hD1⟩ := hB
  rw [ht] at hP1
  have hK := va_K.moved hvm.symm hK1
  have hD := hD1.weaken (fun _ _ _ h => hFc _ h)
  have hP := hP1
  clear hP1 hK1 hD1 hFc
  generalize H1 = H at hP hS hz1 hk1 ht ⊢
  have hP : va_P D vwCl (mCl ca h0 ad u1) H := hP
  have hD : va_D A (mCl ca h0 ad u1) := hD
  obtain ⟨he1, j1, hj1, hr1⟩ := hwu1
  rw [he1] at hP hD
  subst hr1
  refine lv_istore_n hx hb dX12_symbol_10 rfl hl (by decide) rfl (fun ls hl => ?_)
  have hl : lv_has ls 3 [(1, .int (nI j1)), (0, .ref (h0))] := hl
  refine lv_aload_n hx hb dX12_symbol_11 rfl (lv_at hl 1 rfl) ?_
  refine va_get (D := D) (ci := 12) (v := .ref (ad 7)) (C := RX12) (T := TX12) (N := 149) hx hb hts hin hown hK hP 0 mH_0 rfl 7 (by decide) L_heads (fun _ h9 => h9) mF_7 dX12_symbol_12 ?_
  refine lv_iload_n hx hb dX12_symbol_15 rfl (lv_at hl 0 rfl) ?_
  refine va_iald hx hb hK hP 7 6 mG_7 rfl (vp_in_nI hj1 (by decide)) dX12_symbol_16 ?_
  refine lv_topi (fun v3 ev3 => ?_)
  have ev3 : v3 = (u.2.1 7) (nI j1).toNatClampNeg := ev3
  refine lv_istore_n hx hb dX12_symbol_17 rfl hl (by decide) rfl (fun ls hl => ?_)
  have hl : lv_has ls 3 [(2, .int (v3)), (1, .int (nI j1)), (0, .ref (h0))] := hl
  have hx0 : v3 = -1 ∨ ∃ i : Nat, i < n ∧ v3 = nI i := by rw [ev3, nI_clamp (by omega)]; exact hOk.2.2.1 j1 hj1
  refine w_loopS (nL := 3) (sta := fun _ : Int32 => u) (lst := fun q : Int32 => [(2, .int q), (1, .int (nI j1)), (0, .ref h0)]) (μ := fun q => (q + 1).toNatClampNeg) (I := fun q => q = -1 ∨ ∃ i : Nat, i < n ∧ q = nI i) ?_ v3 ls hx0 hP hD hS hl
  intro q H locs ls hI hP hD hS hl ih
  have hl : lv_has ls 3 [(2, .int (q)), (1, .int (nI j1)), (0, .ref (h0))] := hl
  refine lv_iload_n hx hb dX12_symbol_18 rfl (lv_at hl 0 rfl) ?_
  refine lv_iconst hx hb dX12_symbol_19 (v := (-1)) rfl ?_
  refine lv_icmp_eq hx hb dX12_symbol_20 (tgt := 59) rfl (fun h4 => ?_) (fun h4 => ?_)
  · refine lv_aload_n hx hb dX12_symbol_59 rfl (lv_at hl 2 rfl) ?_
    refine va_get (D := D) (ci := 12) (v := .ref (ad 10)) (C := RX12) (T := TX12) (N := 149) hx hb hts hin hown hK hP 0 mH_0 rfl 10 (by decide) L_lengths (fun _ h9 => h9) mF_10 dX12_symbol_60 ?_
    refine lv_aload_n hx hb dX12_symbol_63 rfl (lv_at hl 2 rfl) ?_
    refine va_get (D := D) (ci := 12) (v := .int (u.1 11)) (C := RX12) (T := TX12) (N := 149) hx hb hts hin hown hK hP 0 mH_0 rfl 11 (by decide) L_symbols (fun _ h9 => h9) mF_11 dX12_symbol_64 ?_
    refine lv_aload_n hx hb dX12_symbol_67 rfl (lv_at hl 2 rfl) ?_
    refine va_get (D := D) (ci := 12) (v := .int (u.1 18)) (C := RX12) (T := TX12) (N := 149) hx hb hts hin hown hK hP 0 mH_0 rfl 18 (by decide) L_wordSize (fun _ h9 => h9) mF_18 dX12_symbol_68 ?_
    refine va_iast hx hb hK hP hD hS 9 8 mG_10 rfl (by rw [hOk.2.1]; exact vp_in_nI (by omega) (by decide)) dX12_symbol_71 (fun H locs hP hD hS => ?_)
    rw [mSA_10] at hP hD
    refine lv_iconst hx hb dX12_symbol_72 (v := 0) rfl ?_
    refine lv_istore_n hx hb dX12_symbol_73 rfl hl (by decide) rfl (fun ls hl => ?_)
    have hl : lv_has ls 3 [(2, .int (0)), (1, .int (nI j1)), (0, .ref (h0))] := hl
    refine w_loopS (nL := 3) (sta := fun q : mST × Nat => q.1) (lst := fun q : mST × Nat => [(2, .int (nI q.2)), (1, .int (nI j1)), (0, .ref h0)]) (μ := fun q => N - q.2) (I := fun q => q.2 ≤ N ∧ q.1.1 = u.1 ∧ (∀ g : Nat, g ≠ 9 → g ≠ 10 → q.1.2.1 g = u.2.1 g) ∧ q.1.2.2 = u.2.2) ?_ (mA u 10 (u.1 11).toNatClampNeg (u.1 18), 0) ls ⟨Nat.zero_le _, rfl, fun g h1 h2 => if_neg h2, rfl⟩ hP hD hS hl
    intro q H locs ls hI hP hD hS hl ih
    obtain ⟨w, j⟩ := q
    obtain ⟨hI1, hI2, hI3, hI4⟩ := hI
    dsimp only at hI1 hI2 hI3 hI4 hP hD
    have hwN2 : w.1 18 = nI N := by rw [hI2]; exact hwN
    have hsy : w.1 11 = nI n := by rw [hI2]; exact hOk.2.1
    have hl : lv_has ls 3 [(2, .int (nI j)), (1, .int (nI j1)), (0, .ref (h0))] := hl
    refine lv_iload_n hx hb dX12_symbol_74 rfl (lv_at hl 0 rfl) ?_
    refine lv_aload_n hx hb dX12_symbol_75 rfl (lv_at hl 2 rfl) ?_
    refine va_get (D := D) (ci := 12) (v := .int (w.1 18)) (C := RX12) (T := TX12) (N := 149) hx hb hts hin hown hK hP 0 mH_0 rfl 18 (by decide) L_wordSize (fun _ h9 => h9) mF_18 dX12_symbol_76 ?_
    refine lv_icmp_ge hx hb dX12_symbol_79 (tgt := 108) rfl (fun h5 => ?_) (fun h5 => ?_)
    · refine lv_aload_n hx hb dX12_symbol_108 rfl (lv_at hl 2 rfl) ?_
      refine lv_dup hx hb dX12_symbol_109 rfl ?_
      refine va_get (D := D) (ci := 12) (v := .int (w.1 11)) (C := RX12) (T := TX12) (N := 149) hx hb hts hin hown hK hP 0 mH_0 rfl 11 (by decide) L_symbols (fun _ h9 => h9) mF_11 dX12_symbol_110 ?_
      refine lv_iconst hx hb dX12_symbol_113 (v := 1) rfl ?_
      refine lv_iadd hx hb dX12_symbol_114 ?_
      refine va_put (D := D) (ci := 12) (v := .int ((w.1 11) + 1)) (ty := .int) (C := RX12) (T := TX12) (N := 149) hx hb hts hin tyX12 tyX12_ok nmX12 hown hK hP hD hS 0 mH_0 rfl 11 (by decide) L_symbols (fun _ h9 => h9) rfl (tyX12_ok 11 (by decide)) rfl rfl (Nat.le_of_ble_eq_true rfl) dX12_symbol_115 (fun H locs hP hD hS => ?_)
      rw [mSI_11] at hP hD
      refine lv_aload_n hx hb dX12_symbol_118 rfl (lv_at hl 2 rfl) ?_
      refine lv_bipush hx hb dX12_symbol_119 (v := (-2)) rfl ?_
      refine lv_aload_n hx hb dX12_symbol_121 rfl (lv_at hl 2 rfl) ?_
      refine va_get (D := D) (ci := 12) (v := .int ((w.1 11) + 1)) (C := RX12) (T := TX12) (N := 149) hx hb hts hin hown hK hP 0 mH_0 rfl 11 (by decide) L_symbols (fun _ h9 => h9) mF_11 dX12_symbol_122 ?_
      refine lv_iconst hx hb dX12_symbol_125 (v := 1) rfl ?_
      refine lv_isub hx hb dX12_symbol_126 ?_
      refine lv_iload_n hx hb dX12_symbol_127 rfl (lv_at hl 1 rfl) ?_
      have hFc := pl_free hD hS hA
      refine va_calli (va_runV (As := [.int ((-2)), .int (((w.1 11) + 1) - 1), .int (nI j1)]) (rest := []) ⟨hx, hb, hml, hown, hts⟩ (c_m_added l D ca h0 H.size ad (mI w 11 ((w.1 11) + 1)) (-2) (w.1 11 + 1 - 1) (nI j1) (by show vp_in (w.1 8) 452000; rw [hI2, hOk.1]; exact vp_in_nI (by omega) (by decide)) (vp_in_nI hj1 (by decide)) (fun h => absurd h (by decide))) (cwV 3 hts gX12_symbol_X12_added rfl rfl rfl (by decide +kernel) ⟨Nat.le_of_ble_eq_true rfl, Nat.le_of_ble_eq_true rfl⟩) ⟨fun a U g mk q => by obtain ⟨q0, q1, qP, qK, qD⟩ := q; exact ⟨q0, q1, qP, va_K.moved (u := U) (U := U.calling g mk a) (Vm.Alike.refl U.vm) qK, qD⟩, va_recv hK hP (ci := 12) (q0 := 0) rfl rfl, fun U hU hW => ⟨rfl, by rw [hU], by rw [hU]; exact hP, va_K.moved hW.alike hK, hD.weaken (fun _ _ _ _ => trivial)⟩⟩ rfl rfl hl.1 rfl (lv_room (Nat.le_of_ble_eq_true rfl)) dX12_symbol_128 ⟨(Nat.zero_le _), (Nat.zero_le _)⟩) hS (fun q _ h => hFc q h) hFc (fun r7 u6 t H1 locs ht hvm hwu6 hB hz1 hk1 hS => ?_)
      obtain ⟨hP1, hK1, hD1⟩ := hB
      rw [ht] at hP1
      have hK := va_K.moved hvm.symm hK1
      have hD := hD1.weaken (fun _ _ _ h => hFc _ h)
      have hP := hP1
      clear hP1 hK1 hD1 hFc
      generalize H1 = H at hP hS hz1 hk1 ht ⊢
      have hP : va_P D vwCl (mCl ca h0 ad u6) H := hP
      have hD : va_D A (mCl ca h0 ad u6) := hD
      exact W.iret (v := r7) hx hb hr (fun t ht hW => ⟨⟨r7, u6, rfl, (by obtain ⟨he, -⟩ := hwu6; rw [he]; exact ⟨n + 1, Nat.le_refl _, mOk_add hn hOk hI2 hI3 hj1, mFr_add hI2 hI3 hI4, congrFun hI2 18⟩), by rw [ht]; exact hP, va_K.moved hW.alike hK, hD⟩, hS.F ht⟩) hS.2.2 dX12_symbol_131
    · have hj : j < N := by
        rcases Nat.lt_or_ge j N with h | h
        · exact h
        · exact absurd (by rw [hwN2]; exact nI_le h (by omega)) h5
      refine lv_aload_n hx hb dX12_symbol_82 rfl (lv_at hl 2 rfl) ?_
      refine va_get (D := D) (ci := 12) (v := .ref (ad 9)) (C := RX12) (T := TX12) (N := 149) hx hb hts hin hown hK hP 0 mH_0 rfl 9 (by decide) L_names (fun _ h9 => h9) mF_9 dX12_symbol_83 ?_
      refine lv_bipush hx hb dX12_symbol_86 (v := 12) rfl ?_
      refine lv_aload_n hx hb dX12_symbol_88 rfl (lv_at hl 2 rfl) ?_
      refine va_get (D := D) (ci := 12) (v := .int (w.1 11)) (C := RX12) (T := TX12) (N := 149) hx hb hts hin hown hK hP 0 mH_0 rfl 11 (by decide) L_symbols (fun _ h9 => h9) mF_11 dX12_symbol_89 ?_
      refine lv_imul hx hb dX12_symbol_92 ?_
      refine lv_iload_n hx hb dX12_symbol_93 rfl (lv_at hl 0 rfl) ?_
      refine lv_iadd hx hb dX12_symbol_94 ?_
      refine lv_aload_n hx hb dX12_symbol_95 rfl (lv_at hl 2 rfl) ?_
      refine va_get (D := D) (ci := 12) (v := .ref (ad 17)) (C := RX12) (T := TX12) (N := 149) hx hb hts hin hown hK hP 0 mH_0 rfl 17 (by decide) L_word (fun _ h9 => h9) mF_17 dX12_symbol_96 ?_
      refine lv_iload_n hx hb dX12_symbol_99 rfl (lv_at hl 0 rfl) ?_
      refine va_iald hx hb hK hP 13 12 mG_17 rfl (vp_in_nI (by omega) (by decide)) dX12_symbol_100 ?_
      refine lv_topi (fun v8 ev8 => ?_)
      have ev8 : v8 = (w.2.1 17) (nI j).toNatClampNeg := ev8
      refine va_iast hx hb hK hP hD hS 8 7 mG_9 rfl (by rw [hsy, show (12 : Int32) = nI 12 from rfl, pk_mul, nI_add]; exact vp_in_nI (by omega) (by decide)) dX12_symbol_101 (fun H locs hP hD hS => ?_)
      rw [mSA_9] at hP hD
      refine lv_iinc (v := nI j + 1) hx hb dX12_symbol_102 hl (k := 0) rfl rfl (by decide) rfl (fun ls hl => ?_)
      have hl : lv_has ls 3 [(2, .int (nI j + 1)), (1, .int (nI j1)), (0, .ref (h0))] := hl
      refine lv_goto hx hb dX12_symbol_105 (tgt := 74) rfl ?_
      exact ih (mA w 9 ((12 * (w.1 11)) + (nI j)).toNatClampNeg (v8), j + 1) H locs ls ⟨by show j + 1 ≤ N; omega, hI2, fun g h1 h2 => (mA_n w _ _ h1).trans (hI3 g h1 h2), hI4⟩ (by show N - (j + 1) < N - j; omega) hP hD hS (by rw [nI_1] at hl; exact hl)
  · obtain ⟨i, hi, hq⟩ : ∃ i : Nat, i < n ∧ q = nI i := hI.elim (fun h => absurd h h4) id
    subst hq
    refine lv_aload_n hx hb dX12_symbol_23 rfl (lv_at hl 2 rfl) ?_
    refine va_get (D := D) (ci := 12) (v := .ref (ad 0)) (C := RX12) (T := TX12) (N := 149) hx hb hts hin hown hK hP 0 mH_0 rfl 0 (by decide) L_left (fun _ h9 => h9) mF_0 dX12_symbol_24 ?_
    refine lv_iload_n hx hb dX12_symbol_27 rfl (lv_at hl 0 rfl) ?_
    refine va_iald hx hb hK hP 1 0 mG_0 rfl (vp_in_nI (by omega) (by decide)) dX12_symbol_28 ?_
    refine lv_topi (fun v9 ev9 => ?_)
    have ev9 : v9 = (u.2.1 0) (nI i).toNatClampNeg := ev9
    refine lv_bipush hx hb dX12_symbol_29 (v := (-2)) rfl ?_
    refine lv_icmp_ne hx hb dX12_symbol_31 (tgt := 49) rfl (fun h10 => ?_) (fun h10 => ?_)
    · refine lv_aload_n hx hb dX12_symbol_49 rfl (lv_at hl 2 rfl) ?_
      refine va_get (D := D) (ci := 12) (v := .ref (ad 2)) (C := RX12) (T := TX12) (N := 149) hx hb hts hin hown hK hP 0 mH_0 rfl 2 (by decide) L_next (fun _ h9 => h9) mF_2 dX12_symbol_50 ?_
      refine lv_iload_n hx hb dX12_symbol_53 rfl (lv_at hl 0 rfl) ?_
      refine va_iald hx hb hK hP 3 2 mG_2 rfl (vp_in_nI (by omega) (by decide)) dX12_symbol_54 ?_
      refine lv_topi (fun v11 ev11 => ?_)
      have ev11 : v11 = (u.2.1 2) (nI i).toNatClampNeg := ev11
      refine lv_istore_n hx hb dX12_symbol_55 rfl hl (by decide) rfl (fun ls hl => ?_)
      have hl : lv_has ls 3 [(2, .int (v11)), (1, .int (nI j1)), (0, .ref (h0))] := hl
      refine lv_goto hx hb dX12_symbol_56 (tgt := 18) rfl ?_
      have hz : v11 = -1 ∨ ∃ i2 : Nat, i2 < i ∧ v11 = nI i2 := by rw [ev11, nI_clamp (by omega)]; exact (hOk.2.2.2 i hi).2.2
      refine ih v11 H locs ls (hz.elim Or.inl (fun ⟨i2, h2, e2⟩ => Or.inr ⟨i2, by omega, e2⟩)) ?_ hP hD hS hl
      show (v11 + 1).toNatClampNeg < (nI i + 1).toNatClampNeg
      rw [nI_1, nI_clamp (by omega)]
      rcases hz with h | ⟨i2, h2, h⟩
      · rw [h]; exact Nat.succ_pos i
      · rw [h, nI_1, nI_clamp (by omega)]; omega
    · refine lv_aload_n hx hb dX12_symbol_34 rfl (lv_at hl 2 rfl) ?_
      refine lv_aload_n hx hb dX12_symbol_35 rfl (lv_at hl 2 rfl) ?_
      refine va_get (D := D) (ci := 12) (v := .ref (ad 1)) (C := RX12) (T := TX12) (N := 149) hx hb hts hin hown hK hP 0 mH_0 rfl 1 (by decide) L_right (fun _ h9 => h9) mF_1 dX12_symbol_36 ?_
      refine lv_iload_n hx hb dX12_symbol_39 rfl (lv_at hl 0 rfl) ?_
      refine va_iald hx hb hK hP 2 1 mG_1 rfl (vp_in_nI (by omega) (by decide)) dX12_symbol_40 ?_
      refine lv_topi (fun v12 ev12 => ?_)
      have ev12 : v12 = (u.2.1 1) (nI i).toNatClampNeg := ev12
      obtain ⟨S, hS1, hS2⟩ := (hOk.2.2.2 i hi).2.1
      have haS : v12 = nI S := by rw [ev12, nI_clamp (by omega)]; exact hS2
      have hFc := pl_free hD hS hA
      refine va_calli (va_runV (As := [.int (v12)]) (rest := []) ⟨hx, hb, hml, hown, hts⟩ (c_m_isWord l D ca h0 H.size ad u v12 S N haS (by omega) hwN hN) (cwV 1 hts gX12_symbol_X12_isWord rfl rfl rfl (by decide +kernel) ⟨Nat.le_of_ble_eq_true rfl, Nat.le_of_ble_eq_true rfl⟩) ⟨fun a U g mk q => by obtain ⟨q0, q1, qP, qK, qD⟩ := q; exact ⟨q0, q1, qP, va_K.moved (u := U) (U := U.calling g mk a) (Vm.Alike.refl U.vm) qK, qD⟩, va_recv hK hP (ci := 12) (q0 := 0) rfl rfl, fun U hU hW => ⟨rfl, by rw [hU], by rw [hU]; exact hP, va_K.moved hW.alike hK, hD.weaken (fun _ _ _ _ => trivial)⟩⟩ rfl rfl hl.1 rfl (lv_room (Nat.le_of_ble_eq_true rfl)) dX12_symbol_41 ⟨(Nat.zero_le _), (Nat.zero_le _)⟩) hS (fun q _ h => hFc q h) hFc (fun r14 u13 t H1 locs ht hvm hwu13 hB hz1 hk1 hS => ?_)
      obtain ⟨hP1, hK1, hD1⟩ := hB
      rw [ht] at hP1
      have hK := va_K.moved hvm.symm hK1
      have hD := hD1.weaken (fun _ _ _ h => hFc _ h)
      have hP := hP1
      clear hP1 hK1 hD1 hFc
      generalize H1 = H at hP hS hz1 hk1 ht ⊢
      have hP : va_P D vwCl (mCl ca h0 ad u13) H := hP
      have hD : va_D A (mCl ca h0 ad u13) := hD
      obtain ⟨he2, hr2⟩ := hwu13
      rw [he2] at hP hD
      refine lv_if_eq hx hb dX12_symbol_44 (tgt := 49) rfl (fun h15 => ?_) (fun h15 => ?_)
      · refine lv_aload_n hx hb dX12_symbol_49 rfl (lv_at hl 2 rfl) ?_
        refine va_get (D := D) (ci := 12) (v := .ref (ad 2)) (C := RX12) (T := TX12) (N := 149) hx hb hts hin hown hK hP 0 mH_0 rfl 2 (by decide) L_next (fun _ h9 => h9) mF_2 dX12_symbol_50 ?_
        refine lv_iload_n hx hb dX12_symbol_53 rfl (lv_at hl 0 rfl) ?_
        refine va_iald hx hb hK hP 3 2 mG_2 rfl (vp_in_nI (by omega) (by decide)) dX12_symbol_54 ?_
        refine lv_topi (fun v16 ev16 => ?_)
        have ev16 : v16 = (u.2.1 2) (nI i).toNatClampNeg := ev16
        refine lv_istore_n hx hb dX12_symbol_55 rfl hl (by decide) rfl (fun ls hl => ?_)
        have hl : lv_has ls 3 [(2, .int (v16)), (1, .int (nI j1)), (0, .ref (h0))] := hl
        refine lv_goto hx hb dX12_symbol_56 (tgt := 18) rfl ?_
        have hz : v16 = -1 ∨ ∃ i2 : Nat, i2 < i ∧ v16 = nI i2 := by rw [ev16, nI_clamp (by omega)]; exact (hOk.2.2.2 i hi).2.2
        refine ih v16 H locs ls (hz.elim Or.inl (fun ⟨i2, h2, e2⟩ => Or.inr ⟨i2, by omega, e2⟩)) ?_ hP hD hS hl
        show (v16 + 1).toNatClampNeg < (nI i + 1).toNatClampNeg
        rw [nI_1, nI_clamp (by omega)]
        rcases hz with h | ⟨i2, h2, h⟩
        · rw [h]; exact Nat.succ_pos i
        · rw [h, nI_1, nI_clamp (by omega)]; omega
      · refine lv_iload_n hx hb dX12_symbol_47 rfl (lv_at hl 0 rfl) ?_
        exact W.iret (v := nI i) hx hb hr (fun t ht hW => ⟨⟨nI i, u, rfl, ⟨n, Nat.le_succ n, hOk, mFr_rf u, rfl⟩, by rw [ht]; exact hP, va_K.moved hW.alike hK, hD⟩, hS.F ht⟩) hS.2.2 dX12_symbol_48
end
section
theorem sp_ok {n N : Nat} {u v : mST} {a : Int32} (hOk : mOk n u) (hN : u.1 18 = nI N) (hv : v = if a = 0 then u else mI (mA u 17 (u.1 18).toNatClampNeg a) 18 (u.1 18 + 1)) : ∃ N2 : Nat, N2 ≤ N + 1 ∧ mOk n v ∧ v.1 18 = nI N2 ∧ mFr u v := by
  by_cases h : a = 0
  · rw [if_pos h] at hv
    rw [hv]
    exact ⟨N, Nat.le_succ N, hOk, hN, mFr_rf u⟩
  · rw [if_neg h] at hv
    rw [hv]
    refine ⟨N + 1, Nat.le_refl _, hOk, ?_, ?_⟩
    · show u.1 18 + 1 = nI (N + 1)
      rw [hN, nI_1]
    · refine ⟨fun k _ _ k3 => if_neg k3, ?_, rfl⟩
      intro g hg
      simp only [mTouch, List.mem_cons, List.not_mem_nil, or_false, not_or] at hg
      exact if_neg hg.2.2.2.2.2.2.2.2
theorem mFr_w (u : mST) (x : Int32) : mFr u (mI u 18 x) := ⟨fun k _ _ k3 => if_neg k3, fun _ _ => rfl, rfl⟩

set_option maxHeartbeats 4000000 in
set_option maxRecDepth 100000 in
/-- said(..) -/
theorem c_m_said (l : Launch) (D : va_G) (ca : Nat → ClassId) (h0 sz : Nat) (ad : Nat → Nat) (u : mST) (a1 : Int32) (a2 : Int32) (a3 : Int32) (a4 : Int32) (a5 : Int32) (a6 : Int32) (a7 : Int32) (a8 : Int32) (n : Nat) (hn : n ≤ 1000) (hOk : mOk n u) : Met l yX12_said wsX12_said ({ frames := 2, cells := 0, slots := 0, locals := 47 }) (va_Pc [.ref (h0), .int (a1), .int (a2), .int (a3), .int (a4), .int (a5), .int (a6), .int (a7), .int (a8)] (fun U => U.heap.size = sz ∧ mWd D ca (fun _ => True) h0 ad u U)) (va_Qv (fun v : mST => ∃ n2 : Nat, n2 ≤ n + 1 ∧ mOk n2 v ∧ mFr u v) (mWd D ca (va_A (mCl ca h0 ad u) sz) h0 ad) (va_A (mCl ca h0 ad u) sz)) 0 0 (va_A (mCl ca h0 ad u) sz) := by
  refine Met.ofW (cc := cX12_said) (maxL := 10) (ret := none) (by decide) rfl ?_
  intro p e s m args below meth c s₁ B hml hv
  obtain ⟨rfl, hsz, hP, hK, hD0⟩ := hv
  have hx := B.exec
  have hb := B.bytes
  have hr := B.returns
  have hts := atoms_spec (ws := wsX12_said) B.pre
  have hown : s.vm.findClass RX12 = some m.cls := findClass_of_methodNamed B.named
  have hlocks := B.notSynchronized
  subst hsz
  have hD := hD0.self (sz := s.heap.size)
  generalize hAe : va_A (mCl ca h0 ad u) s.heap.size = A at hD ⊢
  have hA : ∀ q : Nat, s.heap.size ≤ q → A q := fun q h => by rw [← hAe]; exact Or.inr h
  have hS : va_S A s.heap s.heap [] := va_S.rf
  have L_wordSize := hts (.fieldLink RX12 309 "ProofHouseModel" "wordSize" "I") (by decide +kernel)
  have hin : ∀ w ∈ wsX120, w ∈ wsX12_said := fun w h => List.mem_cons_of_mem _ (List.mem_append_right _ h)
  have hl := lv_entry ([.ref (h0), .int (a1), .int (a2), .int (a3), .int (a4), .int (a5), .int (a6), .int (a7), .int (a8)]) (n := 10) (Nat.le_of_ble_eq_true rfl)
  rw [lg_entry_eq]
  generalize (lg_sl ([.ref (h0), .int (a1), .int (a2), .int (a3), .int (a4), .int (a5), .int (a6), .int (a7), .int (a8)]) ++ List.replicate (10 - (lg_sl ([.ref (h0), .int (a1), .int (a2), .int (a3), .int (a4), .int (a5), .int (a6), .int (a7), .int (a8)])).length) Slot.unset).toArray = ls at hl ⊢
  have hl : lv_has ls 10 [(0, .ref (h0)), (1, .int (a1)), (2, .int (a2)), (3, .int (a3)), (4, .int (a4)), (5, .int (a5)), (6, .int (a6)), (7, .int (a7)), (8, .int (a8))] := hl
  refine lv_aload_n hx hb dX12_said_0 rfl (lv_at hl 0 rfl) ?_
  refine lv_iconst hx hb dX12_said_1 (v := 0) rfl ?_
  refine va_put (D := D) (ci := 12) (v := .int (0)) (ty := .int) (C := RX12) (T := TX12) (N := 149) hx hb hts hin tyX12 tyX12_ok nmX12 hown hK hP hD hS 0 mH_0 rfl 18 (by decide) L_wordSize (fun _ h9 => h9) rfl (tyX12_ok 18 (by decide)) rfl rfl (Nat.le_of_ble_eq_true rfl) dX12_said_2 (fun H locs hP hD hS => ?_)
  rw [mSI_18] at hP hD
  refine lv_aload_n hx hb dX12_said_5 rfl (lv_at hl 0 rfl) ?_
  refine lv_iload_n hx hb dX12_said_6 rfl (lv_at hl 1 rfl) ?_
  have hO0 : mOk n (mI u 18 (0)) := hOk
  have hS0 : (mI u 18 (0)).1 18 = nI 0 := rfl
  have hF0 : mFr u (mI u 18 (0)) := mFr_w u 0
  have hN0 : 0 ≤ 0 := Nat.le_refl 0
  have hFc := pl_free hD hS hA
  refine va_callv (va_runV (As := [.int (a1)]) (rest := []) ⟨hx, hb, hml, hown, hts⟩ (c_m_spell l D ca h0 H.size ad (mI u 18 (0)) (a1) (by rw [hS0]; exact vp_in_nI (by omega) (by decide))) (cwV 1 hts gX12_said_X12_spell rfl rfl rfl (by decide +kernel) ⟨Nat.le_of_ble_eq_true rfl, Nat.le_of_ble_eq_true rfl⟩) ⟨fun a U g mk q => by obtain ⟨q0, q1, qP, qK, qD⟩ := q; exact ⟨q0, q1, qP, va_K.moved (u := U) (U := U.calling g mk a) (Vm.Alike.refl U.vm) qK, qD⟩, va_recv hK hP (ci := 12) (q0 := 0) rfl rfl, fun U hU hW => ⟨rfl, by rw [hU], by rw [hU]; exact hP, va_K.moved hW.alike hK, hD.weaken (fun _ _ _ _ => trivial)⟩⟩ rfl rfl hl.1 rfl (lv_room (Nat.le_of_ble_eq_true rfl)) dX12_said_7 ⟨(Nat.zero_le _), (Nat.zero_le _)⟩) hS (fun q _ h => hFc q h) hFc (fun u1 t H1 locs ht hvm hwu1 hB hz1 hk1 hS => ?_)
  obtain ⟨hP1, hK1, hD1⟩ := hB
  rw [ht] at hP1
  have hK := va_K.moved hvm.symm hK1
  have hD := hD1.weaken (fun _ _ _ h => hFc _ h)
  have hP := hP1
  clear hP1 hK1 hD1 hFc
  generalize H1 = H at hP hS hz1 hk1 ht ⊢
  have hP : va_P D vwCl (mCl ca h0 ad u1) H := hP
  have hD : va_D A (mCl ca h0 ad u1) := hD
  obtain ⟨N1, hM1, hO1, hS1, hF1⟩ := sp_ok hO0 hS0 hwu1
  have hN1 : N1 ≤ 1 := by omega
  have hF1 := mFr_tr hF0 hF1
  refine lv_aload_n hx hb dX12_said_10 rfl (lv_at hl 0 rfl) ?_
  refine lv_iload_n hx hb dX12_said_11 rfl (lv_at hl 2 rfl) ?_
  have hFc := pl_free hD hS hA
  refine va_callv (va_runV (As := [.int (a2)]) (rest := []) ⟨hx, hb, hml, hown, hts⟩ (c_m_spell l D ca h0 H.size ad (u1) (a2) (by rw [hS1]; exact vp_in_nI (by omega) (by decide))) (cwV 1 hts gX12_said_X12_spell rfl rfl rfl (by decide +kernel) ⟨Nat.le_of_ble_eq_true rfl, Nat.le_of_ble_eq_true rfl⟩) ⟨fun a U g mk q => by obtain ⟨q0, q1, qP, qK, qD⟩ := q; exact ⟨q0, q1, qP, va_K.moved (u := U) (U := U.calling g mk a) (Vm.Alike.refl U.vm) qK, qD⟩, va_recv hK hP (ci := 12) (q0 := 0) rfl rfl, fun U hU hW => ⟨rfl, by rw [hU], by rw [hU]; exact hP, va_K.moved hW.alike hK, hD.weaken (fun _ _ _ _ => trivial)⟩⟩ rfl rfl hl.1 rfl (lv_room (Nat.le_of_ble_eq_true rfl)) dX12_said_12 ⟨(Nat.zero_le _), (Nat.zero_le _)⟩) hS (fun q _ h => hFc q h) hFc (fun u3 t H1 locs ht hvm hwu3 hB hz1 hk1 hS => ?_)
  obtain ⟨hP1, hK1, hD1⟩ := hB
  rw [ht] at hP1
  have hK := va_K.moved hvm.symm hK1
  have hD := hD1.weaken (fun _ _ _ h => hFc _ h)
  have hP := hP1
  clear hP1 hK1 hD1 hFc
  generalize H1 = H at hP hS hz1 hk1 ht ⊢
  have hP : va_P D vwCl (mCl ca h0 ad u3) H := hP
  have hD : va_D A (mCl ca h0 ad u3) := hD
  obtain ⟨N2, hM2, hO2, hS2, hF2⟩ := sp_ok hO1 hS1 hwu3
  have hN2 : N2 ≤ 2 := by omega
  have hF2 := mFr_tr hF1 hF2
  refine lv_aload_n hx hb dX12_said_15 rfl (lv_at hl 0 rfl) ?_
  refine lv_iload_n hx hb dX12_said_16 rfl (lv_at hl 3 rfl) ?_
  have hFc := pl_free hD hS hA
  refine va_callv (va_runV (As := [.int (a3)]) (rest := []) ⟨hx, hb, hml, hown, hts⟩ (c_m_spell l D ca h0 H.size ad (u3) (a3) (by rw [hS2]; exact vp_in_nI (by omega) (by decide))) (cwV 1 hts gX12_said_X12_spell rfl rfl rfl (by decide +kernel) ⟨Nat.le_of_ble_eq_true rfl, Nat.le_of_ble_eq_true rfl⟩) ⟨fun a U g mk q => by obtain ⟨q0, q1, qP, qK, qD⟩ := q; exact ⟨q0, q1, qP, va_K.moved (u := U) (U := U.calling g mk a) (Vm.Alike.refl U.vm) qK, qD⟩, va_recv hK hP (ci := 12) (q0 := 0) rfl rfl, fun U hU hW => ⟨rfl, by rw [hU], by rw [hU]; exact hP, va_K.moved hW.alike hK, hD.weaken (fun _ _ _ _ => trivial)⟩⟩ rfl rfl hl.1 rfl (lv_room (Nat.le_of_ble_eq_true rfl)) dX12_said_17 ⟨(Nat.zero_le _), (Nat.zero_le _)⟩) hS (fun q _ h => hFc q h) hFc (fun u5 t H1 locs ht hvm hwu5 hB hz1 hk1 hS => ?_)
  obtain ⟨hP1, hK1, hD1⟩ := hB
  rw [ht] at hP1
  have hK := va_K.moved hvm.symm hK1
  have hD := hD1.weaken (fun _ _ _ h => hFc _ h)
  have hP := hP1
  clear hP1 hK1 hD1 hFc
  generalize H1 = H at hP hS hz1 hk1 ht ⊢
  have hP : va_P D vwCl (mCl ca h0 ad u5) H := hP
  have hD : va_D A (mCl ca h0 ad u5) := hD
  obtain ⟨N3, hM3, hO3, hS3, hF3⟩ := sp_ok hO2 hS2 hwu5
  have hN3 : N3 ≤ 3 := by omega
  have hF3 := mFr_tr hF2 hF3
  refine lv_aload_n hx hb dX12_said_20 rfl (lv_at hl 0 rfl) ?_
  refine lv_iload hx hb dX12_said_21 (lv_at hl 4 rfl) ?_
  have hFc := pl_free hD hS hA
  refine va_callv (va_runV (As := [.int (a4)]) (rest := []) ⟨hx, hb, hml, hown, hts⟩ (c_m_spell l D ca h0 H.size ad (u5) (a4) (by rw [hS3]; exact vp_in_nI (by omega) (by decide))) (cwV 1 hts gX12_said_X12_spell rfl rfl rfl (by decide +kernel) ⟨Nat.le_of_ble_eq_true rfl, Nat.le_of_ble_eq_true rfl⟩) ⟨fun a U g mk q => by obtain ⟨q0, q1, qP, qK, qD⟩ := q; exact ⟨q0, q1, qP, va_K.moved (u := U) (U := U.calling g mk a) (Vm.Alike.refl U.vm) qK, qD⟩, va_recv hK hP (ci := 12) (q0 := 0) rfl rfl, fun U hU hW => ⟨rfl, by rw [hU], by rw [hU]; exact hP, va_K.moved hW.alike hK, hD.weaken (fun _ _ _ _ => trivial)⟩⟩ rfl rfl hl.1 rfl (lv_room (Nat.le_of_ble_eq_true rfl)) dX12_said_23 ⟨(Nat.zero_le _), (Nat.zero_le _)⟩) hS (fun q _ h => hFc q h) hFc (fun u7 t H1 locs ht hvm hwu7 hB hz1 hk1 hS => ?_)
  obtain ⟨hP1, hK1, hD1⟩ := hB
  rw [ht] at hP1
  have hK := va_K.moved hvm.symm hK1
  have hD := hD1.weaken (fun _ _ _ h => hFc _ h)
  have hP := hP1
  clear hP1 hK1 hD1 hFc
  generalize H1 = H at hP hS hz1 hk1 ht ⊢
  have hP : va_P D vwCl (mCl ca h0 ad u7) H := hP
  have hD : va_D A (mCl ca h0 ad u7) := hD
  obtain ⟨N4, hM4, hO4, hS4, hF4⟩ := sp_ok hO3 hS3 hwu7
  have hN4 : N4 ≤ 4 := by omega
  have hF4 := mFr_tr hF3 hF4
  refine lv_aload_n hx hb dX12_said_26 rfl (lv_at hl 0 rfl) ?_
  refine lv_iload hx hb dX12_said_27 (lv_at hl 5 rfl) ?_
  have hFc := pl_free hD hS hA
  refine va_callv (va_runV (As := [.int (a5)]) (rest := []) ⟨hx, hb, hml, hown, hts⟩ (c_m_spell l D ca h0 H.size ad (u7) (a5) (by rw [hS4]; exact vp_in_nI (by omega) (by decide))) (cwV 1 hts gX12_said_X12_spell rfl rfl rfl (by decide +kernel) ⟨Nat.le_of_ble_eq_true rfl, Nat.le_of_ble_eq_true rfl⟩) ⟨fun a U g mk q => by obtain ⟨q0, q1, qP, qK, qD⟩ := q; exact ⟨q0, q1, qP, va_K.moved (u := U) (U := U.calling g mk a) (Vm.Alike.refl U.vm) qK, qD⟩, va_recv hK hP (ci := 12) (q0 := 0) rfl rfl, fun U hU hW => ⟨rfl, by rw [hU], by rw [hU]; exact hP, va_K.moved hW.alike hK, hD.weaken (fun _ _ _ _ => trivial)⟩⟩ rfl rfl hl.1 rfl (lv_room (Nat.le_of_ble_eq_true rfl)) dX12_said_29 ⟨(Nat.zero_le _), (Nat.zero_le _)⟩) hS (fun q _ h => hFc q h) hFc (fun u9 t H1 locs ht hvm hwu9 hB hz1 hk1 hS => ?_)
  obtain ⟨hP1, hK1, hD1⟩ := hB
  rw [ht] at hP1
  have hK := va_K.moved hvm.symm hK1
  have hD := hD1.weaken (fun _ _ _ h => hFc _ h)
  have hP := hP1
  clear hP1 hK1 hD1 hFc
  generalize H1 = H at hP hS hz1 hk1 ht ⊢
  have hP : va_P D vwCl (mCl ca h0 ad u9) H := hP
  have hD : va_D A (mCl ca h0 ad u9) := hD
  obtain ⟨N5, hM5, hO5, hS5, hF5⟩ := sp_ok hO4 hS4 hwu9
  have hN5 : N5 ≤ 5 := by omega
  have hF5 := mFr_tr hF4 hF5
  refine lv_aload_n hx hb dX12_said_32 rfl (lv_at hl 0 rfl) ?_
  refine lv_iload hx hb dX12_said_33 (lv_at hl 6 rfl) ?_
  have hFc := pl_free hD hS hA
  refine va_callv (va_runV (As := [.int (a6)]) (rest := []) ⟨hx, hb, hml, hown, hts⟩ (c_m_spell l D ca h0 H.size ad (u9) (a6) (by rw [hS5]; exact vp_in_nI (by omega) (by decide))) (cwV 1 hts gX12_said_X12_spell rfl rfl rfl (by decide +kernel) ⟨Nat.le_of_ble_eq_true rfl, Nat.le_of_ble_eq_true rfl⟩) ⟨fun a U g mk q => by obtain ⟨q0, q1, qP, qK, qD⟩ := q; exact ⟨q0, q1, qP, va_K.moved (u := U) (U := U.calling g mk a) (Vm.Alike.refl U.vm) qK, qD⟩, va_recv hK hP (ci := 12) (q0 := 0) rfl rfl, fun U hU hW => ⟨rfl, by rw [hU], by rw [hU]; exact hP, va_K.moved hW.alike hK, hD.weaken (fun _ _ _ _ => trivial)⟩⟩ rfl rfl hl.1 rfl (lv_room (Nat.le_of_ble_eq_true rfl)) dX12_said_35 ⟨(Nat.zero_le _), (Nat.zero_le _)⟩) hS (fun q _ h => hFc q h) hFc (fun u11 t H1 locs ht hvm hwu11 hB hz1 hk1 hS => ?_)
  obtain ⟨hP1, hK1, hD1⟩ := hB
  rw [ht] at hP1
  have hK := va_K.moved hvm.symm hK1
  have hD := hD1.weaken (fun _ _ _ h => hFc _ h)
  have hP := hP1
  clear hP1 hK1 hD1 hFc
  generalize H1 = H at hP hS hz1 hk1 ht ⊢
  have hP : va_P D vwCl (mCl ca h0 ad u11) H := hP
  have hD : va_D A (mCl ca h0 ad u11) := hD
  obtain ⟨N6, hM6, hO6, hS6, hF6⟩ := sp_ok hO5 hS5 hwu11
  have hN6 : N6 ≤ 6 := by omega
  have hF6 := mFr_tr hF5 hF6
  refine lv_aload_n hx hb dX12_said_38 rfl (lv_at hl 0 rfl) ?_
  refine lv_iload hx hb dX12_said_39 (lv_at hl 7 rfl) ?_
  have hFc := pl_free hD hS hA
  refine va_callv (va_runV (As := [.int (a7)]) (rest := []) ⟨hx, hb, hml, hown, hts⟩ (c_m_spell l D ca h0 H.size ad (u11) (a7) (by rw [hS6]; exact vp_in_nI (by omega) (by decide))) (cwV 1 hts gX12_said_X12_spell rfl rfl rfl (by decide +kernel) ⟨Nat.le_of_ble_eq_true rfl, Nat.le_of_ble_eq_true rfl⟩) ⟨fun a U g mk q => by obtain ⟨q0, q1, qP, qK, qD⟩ := q; exact ⟨q0, q1, qP, va_K.moved (u := U) (U := U.calling g mk a) (Vm.Alike.refl U.vm) qK, qD⟩, va_recv hK hP (ci := 12) (q0 := 0) rfl rfl, fun U hU hW => ⟨rfl, by rw [hU], by rw [hU]; exact hP, va_K.moved hW.alike hK, hD.weaken (fun _ _ _ _ => trivial)⟩⟩ rfl rfl hl.1 rfl (lv_room (Nat.le_of_ble_eq_true rfl)) dX12_said_41 ⟨(Nat.zero_le _), (Nat.zero_le _)⟩) hS (fun q _ h => hFc q h) hFc (fun u13 t H1 locs ht hvm hwu13 hB hz1 hk1 hS => ?_)
  obtain ⟨hP1, hK1, hD1⟩ := hB
  rw [ht] at hP1
  have hK := va_K.moved hvm.symm hK1
  have hD := hD1.weaken (fun _ _ _ h => hFc _ h)
  have hP := hP1
  clear hP1 hK1 hD1 hFc
  generalize H1 = H at hP hS hz1 hk1 ht ⊢
  have hP : va_P D vwCl (mCl ca h0 ad u13) H := hP
  have hD : va_D A (mCl ca h0 ad u13) := hD
  obtain ⟨N7, hM7, hO7, hS7, hF7⟩ := sp_ok hO6 hS6 hwu13
  have hN7 : N7 ≤ 7 := by omega
  have hF7 := mFr_tr hF6 hF7
  refine lv_aload_n hx hb dX12_said_44 rfl (lv_at hl 0 rfl) ?_
  refine lv_iload hx hb dX12_said_45 (lv_at hl 8 rfl) ?_
  have hFc := pl_free hD hS hA
  refine va_callv (va_runV (As := [.int (a8)]) (rest := []) ⟨hx, hb, hml, hown, hts⟩ (c_m_spell l D ca h0 H.size ad (u13) (a8) (by rw [hS7]; exact vp_in_nI (by omega) (by decide))) (cwV 1 hts gX12_said_X12_spell rfl rfl rfl (by decide +kernel) ⟨Nat.le_of_ble_eq_true rfl, Nat.le_of_ble_eq_true rfl⟩) ⟨fun a U g mk q => by obtain ⟨q0, q1, qP, qK, qD⟩ := q; exact ⟨q0, q1, qP, va_K.moved (u := U) (U := U.calling g mk a) (Vm.Alike.refl U.vm) qK, qD⟩, va_recv hK hP (ci := 12) (q0 := 0) rfl rfl, fun U hU hW => ⟨rfl, by rw [hU], by rw [hU]; exact hP, va_K.moved hW.alike hK, hD.weaken (fun _ _ _ _ => trivial)⟩⟩ rfl rfl hl.1 rfl (lv_room (Nat.le_of_ble_eq_true rfl)) dX12_said_47 ⟨(Nat.zero_le _), (Nat.zero_le _)⟩) hS (fun q _ h => hFc q h) hFc (fun u15 t H1 locs ht hvm hwu15 hB hz1 hk1 hS => ?_)
  obtain ⟨hP1, hK1, hD1⟩ := hB
  rw [ht] at hP1
  have hK := va_K.moved hvm.symm hK1
  have hD := hD1.weaken (fun _ _ _ h => hFc _ h)
  have hP := hP1
  clear hP1 hK1 hD1 hFc
  generalize H1 = H at hP hS hz1 hk1 ht ⊢
  have hP : va_P D vwCl (mCl ca h0 ad u15) H := hP
  have hD : va_D A (mCl ca h0 ad u15) := hD
  obtain ⟨N8, hM8, hO8, hS8, hF8⟩ := sp_ok hO7 hS7 hwu15
  have hN8 : N8 ≤ 8 := by omega
  have hF8 := mFr_tr hF7 hF8
  refine lv_aload_n hx hb dX12_said_50 rfl (lv_at hl 0 rfl) ?_
  have hFc := pl_free hD hS hA
  refine va_calli (va_runV (As := []) (rest := []) ⟨hx, hb, hml, hown, hts⟩ (c_m_symbol l D ca h0 H.size ad u15 n N8 hn hO8 hS8 (by omega)) (cwV 0 hts gX12_said_X12_symbol rfl rfl rfl (by decide +kernel) ⟨Nat.le_of_ble_eq_true rfl, Nat.le_of_ble_eq_true rfl⟩) ⟨fun a U g mk q => by obtain ⟨q0, q1, qP, qK, qD⟩ := q; exact ⟨q0, q1, qP, va_K.moved (u := U) (U := U.calling g mk a) (Vm.Alike.refl U.vm) qK, qD⟩, va_recv hK hP (ci := 12) (q0 := 0) rfl rfl, fun U hU hW => ⟨rfl, by rw [hU], by rw [hU]; exact hP, va_K.moved hW.alike hK, hD.weaken (fun _ _ _ _ => trivial)⟩⟩ rfl rfl hl.1 rfl (lv_room (Nat.le_of_ble_eq_true rfl)) dX12_said_51 ⟨(Nat.zero_le _), (Nat.zero_le _)⟩) hS (fun q _ h => hFc q h) hFc (fun r18 u17 t H1 locs ht hvm hwu17 hB hz1 hk1 hS => ?_)
  obtain ⟨hP1, hK1, hD1⟩ := hB
  rw [ht] at hP1
  have hK := va_K.moved hvm.symm hK1
  have hD := hD1.weaken (fun _ _ _ h => hFc _ h)
  have hP := hP1
  clear hP1 hK1 hD1 hFc
  generalize H1 = H at hP hS hz1 hk1 ht ⊢
  have hP : va_P D vwCl (mCl ca h0 ad u17) H := hP
  have hD : va_D A (mCl ca h0 ad u17) := hD
  obtain ⟨n2, hn2, hO9, hF9, -⟩ := hwu17
  refine lv_istore hx hb dX12_said_54 hl (by decide) rfl (fun ls hl => ?_)
  have hl : lv_has ls 10 [(9, .int (r18)), (0, .ref (h0)), (1, .int (a1)), (2, .int (a2)), (3, .int (a3)), (4, .int (a4)), (5, .int (a5)), (6, .int (a6)), (7, .int (a7)), (8, .int (a8))] := hl
  exact W.vret hx hb hr (fun t ht hW => ⟨⟨u17, rfl, ⟨n2, hn2, hO9, mFr_tr hF8 hF9⟩, by rw [ht]; exact hP, va_K.moved hW.alike hK, hD⟩, hS.F ht⟩) hS.2.2 dX12_said_56
end
section
/-- the reference's object as it is new -/
def mF0 : List Value := [.null, .null, .null, .null, .null, .null, .int 0, .null, .int 0, .null, .null, .int 0, .null, .null, .int 0, .null, .int 0, .null, .int 0, .null, .int 0, .null, .int 0, .int 0, .int 0, .int 0, .null, .null, .null, .null, .int 0, .null, .int 0, .int 0, .int 0, .int 0, .null, .null, .null, .null, .null, .null, .int 0, .null, .null, .null, .null, .null, .null, .null, .null, .null, .null, .null, .int 0, .null, .null, .int 0, .int 0, .int 0, .int 0, .int 0, .int 0, .int 0, .int 0, .null, .null, .null, .null, .int 0, .null, .int 0, .null, .null, .int 0, .null, .int 0, .null, .int 0, .null, .null, .null, .null, .null, .null, .int 0, .null, .int 0, .int 0, .int 0, .int 0, .int 0, .null, .null, .null, .null, .null, .null, .null, .null, .null, .null, .int 0, .null, .int 0, .null, .null, .null, .null, .int 0, .int 0, .int 0, .null, .null, .null, .null, .null, .int 0, .null, .int 0, .null, .null, .int 0, .null, .null, .null, .int 0, .null, .null, .null, .null, .int 0, .int 0, .int 0, .int 0, .int 0, .int 0, .null, .null, .int 0, .null, .null, .null, .null, .int 0, .null, .null, .int 0, .int 0]
set_option maxRecDepth 100000 in
theorem mF0_len : mF0.length = 149 := rfl
/-- its numbers and rows ahead of the constructor's loop -/
def mU0 : mST := (fun k => if k = 25 then -1 else if k = 57 then -1 else if k = 59 then 1000 else 0, fun _ _ => 0, fun _ => 0)
theorem ia_I (cA : ClassId) (n : Nat) : vp_cell cA (n, .inl (fun _ => 0)) = arrV cA n (fun _ => defaultValue .int) := rfl
theorem ia_Z (cA : ClassId) (n : Nat) : vp_cell cA (n, .inl (fun _ => 0)) = arrV cA n (fun _ => defaultValue .boolean) := rfl
theorem ia_J (cA : ClassId) (n : Nat) : vp_cell cA (n, .inr (.inl (fun _ => 0))) = arrV cA n (fun _ => defaultValue .long) := rfl
section
variable {p : Program} {l : Launch} {e : Env} {R : Room} {s : State} {m : MethodId} {args : Array Value} {below : List Frame} {meth : Method} {c : Code} {H : Heap} {locs : List Loc} {cells slots : Nat} {Q : State → Prop}
/-- a row is made and put into its field -/
theorem ia_arr {cc : ByteArray} {pc nw : Nat} {nn : Int32} {index : Nat} {atype : ArrayType} {ty : FieldType} {a0 : vp_A} {Ts : List Cond} {A : Nat → Prop} {H0 : Heap} {D : va_G} {h0 : Nat} {ls : Array Slot} (hx : p.tables.exec = Jvm.exec) (hb : c.code = cc) (hts : ∀ w ∈ Ts, w.before args s = true) (hin : ∀ w ∈ wsX120, w ∈ Ts) (hown : s.vm.findClass RX12 = some m.cls) (hnm : meth.name = "<init>") (hA : ∀ q : Nat, H0.size ≤ q → A q) {fs : List Value} {cs : va_W} {ts : List (ClassId × FieldType)} (hlen : fs.length = 149) (hK : va_K D vwCl ts s) (hP : va_P D vwCl ((h0, .inr (12, fs)) :: cs) H) (hD : va_D A ((h0, .inr (12, fs)) :: cs)) (hS : va_S A H0 H locs)
    (harr : (Cond.arrayClass (newarray.typeOf atype)).before args s = true) (hty : newarray.typeOf atype = ty) (ha : ∀ cA : ClassId, vp_cell cA a0 = arrV cA nw (fun _ => defaultValue ty)) (hn : ¬ nn < 0) (hN : nn.toNatClampNeg = nw) (hbytes : nw * componentBytes ty ≤ 536870912) (hcells : cells + 1 ≤ R.cells) (hslots : slots + nw ≤ R.slots)
    (hd1 : decode cc pc = .ok (.newarray atype, 2)) (k : Nat) (hk : k < 149) (hlink : (Cond.fieldLink RX12 index "ProofHouseModel" (TX12 k).2.1 (TX12 k).2.2.1).before args s = true) (hself : (TX12 k).1 = "ProofHouseModel") (hfin : (TX12 k).2.2.2 = true) (hparse : parseFieldDescriptor (TX12 k).2.2.1 = some (.array ty)) (hd2 : decode cc (pc + 2) = .ok (.putfield index, 3))
    (kk : ∀ (q : Nat) (cA : ClassId) (H1 : Heap) (locs1 : List Loc), va_K D vwCl (ts ++ [(cA, ty)]) s → va_P D vwCl ((h0, .inr (12, fs.set k (.ref q))) :: (cs ++ [(q, .inl (cA, a0))])) H1 → va_D A ((h0, .inr (12, fs.set k (.ref q))) :: (cs ++ [(q, .inl (cA, a0))])) → va_S A H0 H1 locs1 → W p l e R s m args below meth c H1 locs1 (cells + 1) (slots + nw) Q (F0 m (pc + 5) ls [])) : W p l e R s m args below meth c H locs cells slots Q (F0 m pc ls [.int nn, .ref h0]) := by
  refine va_newa (ty := ty) (a0 := a0) (N' := nw) hx hb harr hty hK hP hD hS hA ha hn hN hbytes hcells hslots hd1 (fun q cA H hK hP hD hS => ?_)
  refine va_putF (D := D) (ci := 12) (v := .ref q) (ty := .array ty) (C := RX12) (T := TX12) (N := 149) hx hb hts hin tyX12 tyX12_ok nmX12 hown hK hP hD hS 0 rfl rfl k hk hlink (fun _ h9 => by rw [hself] at h9; exact h9) hfin hnm (by rw [hself]; rfl) hparse rfl rfl (by rw [hlen]; exact hk) hd2 (fun H locs hP hD hS => ?_)
  exact kk q cA H locs hK hP hD hS
end
theorem ww_all : ∀ w ∈ wsX120, w ∈ wsX12_init := fun w h => List.mem_cons_of_mem _ (List.mem_append_right _ h)
set_option maxRecDepth 100000 in
theorem ww_acI : Cond.arrayClass .int ∈ wsX12_init := List.mem_of_getElem? (i := 5) rfl
set_option maxRecDepth 100000 in
theorem ww_acJ : Cond.arrayClass .long ∈ wsX12_init := List.mem_of_getElem? (i := 12) rfl
set_option maxRecDepth 100000 in
theorem ww_acZ : Cond.arrayClass .boolean ∈ wsX12_init := List.mem_of_getElem? (i := 35) rfl
set_option maxRecDepth 100000 in
theorem ww_ol : Cond.methodLink RX12 1 objectInit ∈ wsX12_init := List.mem_of_getElem? (i := 1) rfl
set_option maxRecDepth 100000 in
theorem ww_oi : Cond.instanceMethod objectInit ∈ wsX12_init := List.mem_of_getElem? (i := 2) rfl
set_option maxRecDepth 100000 in
theorem ww_oc : Cond.code objectInit ⟨#[0xb1]⟩ 1 none ∈ wsX12_init := List.mem_of_getElem? (i := 3) rfl
set_option maxRecDepth 100000 in
theorem ww_c7 : Cond.constant RX12 7 (452000) ∈ wsX12_init := List.mem_of_getElem? (i := 4) rfl
set_option maxRecDepth 100000 in
theorem ww_f0 : Cond.fieldLink RX12 8 "ProofHouseModel" "left" "[I" ∈ wsX12_init := List.mem_of_getElem? (i := 6) rfl
set_option maxRecDepth 100000 in
theorem ww_f1 : Cond.fieldLink RX12 14 "ProofHouseModel" "right" "[I" ∈ wsX12_init := List.mem_of_getElem? (i := 7) rfl
set_option maxRecDepth 100000 in
theorem ww_f2 : Cond.fieldLink RX12 17 "ProofHouseModel" "next" "[I" ∈ wsX12_init := List.mem_of_getElem? (i := 8) rfl
set_option maxRecDepth 100000 in
theorem ww_f3 : Cond.fieldLink RX12 20 "ProofHouseModel" "sizes" "[I" ∈ wsX12_init := List.mem_of_getElem? (i := 9) rfl
set_option maxRecDepth 100000 in
theorem ww_f4 : Cond.fieldLink RX12 23 "ProofHouseModel" "heights" "[I" ∈ wsX12_init := List.mem_of_getElem? (i := 10) rfl
set_option maxRecDepth 100000 in
theorem ww_c26 : Cond.constant RX12 26 (40000) ∈ wsX12_init := List.mem_of_getElem? (i := 11) rfl
set_option maxRecDepth 100000 in
theorem ww_f5 : Cond.fieldLink RX12 27 "ProofHouseModel" "number" "[J" ∈ wsX12_init := List.mem_of_getElem? (i := 13) rfl
set_option maxRecDepth 100000 in
theorem ww_f7 : Cond.fieldLink RX12 31 "ProofHouseModel" "heads" "[I" ∈ wsX12_init := List.mem_of_getElem? (i := 14) rfl
set_option maxRecDepth 100000 in
theorem ww_c34 : Cond.constant RX12 34 (252000) ∈ wsX12_init := List.mem_of_getElem? (i := 15) rfl
set_option maxRecDepth 100000 in
theorem ww_f9 : Cond.fieldLink RX12 35 "ProofHouseModel" "names" "[I" ∈ wsX12_init := List.mem_of_getElem? (i := 16) rfl
set_option maxRecDepth 100000 in
theorem ww_f10 : Cond.fieldLink RX12 38 "ProofHouseModel" "lengths" "[I" ∈ wsX12_init := List.mem_of_getElem? (i := 17) rfl
set_option maxRecDepth 100000 in
theorem ww_f12 : Cond.fieldLink RX12 41 "ProofHouseModel" "waiting" "[I" ∈ wsX12_init := List.mem_of_getElem? (i := 18) rfl
set_option maxRecDepth 100000 in
theorem ww_f13 : Cond.fieldLink RX12 44 "ProofHouseModel" "text" "[I" ∈ wsX12_init := List.mem_of_getElem? (i := 19) rfl
set_option maxRecDepth 100000 in
theorem ww_f15 : Cond.fieldLink RX12 47 "ProofHouseModel" "out" "[I" ∈ wsX12_init := List.mem_of_getElem? (i := 20) rfl
set_option maxRecDepth 100000 in
theorem ww_f17 : Cond.fieldLink RX12 50 "ProofHouseModel" "word" "[I" ∈ wsX12_init := List.mem_of_getElem? (i := 21) rfl
set_option maxRecDepth 100000 in
theorem ww_f19 : Cond.fieldLink RX12 53 "ProofHouseModel" "tellWhat" "[I" ∈ wsX12_init := List.mem_of_getElem? (i := 22) rfl
set_option maxRecDepth 100000 in
theorem ww_f21 : Cond.fieldLink RX12 56 "ProofHouseModel" "one" "[I" ∈ wsX12_init := List.mem_of_getElem? (i := 23) rfl
set_option maxRecDepth 100000 in
theorem ww_f25 : Cond.fieldLink RX12 59 "ProofHouseModel" "readPlace" "I" ∈ wsX12_init := List.mem_of_getElem? (i := 24) rfl
set_option maxRecDepth 100000 in
theorem ww_f26 : Cond.fieldLink RX12 63 "ProofHouseModel" "openSort" "[I" ∈ wsX12_init := List.mem_of_getElem? (i := 25) rfl
set_option maxRecDepth 100000 in
theorem ww_f27 : Cond.fieldLink RX12 66 "ProofHouseModel" "openFrom" "[I" ∈ wsX12_init := List.mem_of_getElem? (i := 26) rfl
set_option maxRecDepth 100000 in
theorem ww_f28 : Cond.fieldLink RX12 69 "ProofHouseModel" "openState" "[I" ∈ wsX12_init := List.mem_of_getElem? (i := 27) rfl
set_option maxRecDepth 100000 in
theorem ww_f29 : Cond.fieldLink RX12 72 "ProofHouseModel" "openLast" "[I" ∈ wsX12_init := List.mem_of_getElem? (i := 28) rfl
set_option maxRecDepth 100000 in
theorem ww_f31 : Cond.fieldLink RX12 75 "ProofHouseModel" "items" "[I" ∈ wsX12_init := List.mem_of_getElem? (i := 29) rfl
set_option maxRecDepth 100000 in
theorem ww_f36 : Cond.fieldLink RX12 78 "ProofHouseModel" "defName" "[I" ∈ wsX12_init := List.mem_of_getElem? (i := 30) rfl
set_option maxRecDepth 100000 in
theorem ww_f37 : Cond.fieldLink RX12 81 "ProofHouseModel" "defMany" "[I" ∈ wsX12_init := List.mem_of_getElem? (i := 31) rfl
set_option maxRecDepth 100000 in
theorem ww_f38 : Cond.fieldLink RX12 84 "ProofHouseModel" "defVariable" "[I" ∈ wsX12_init := List.mem_of_getElem? (i := 32) rfl
set_option maxRecDepth 100000 in
theorem ww_f39 : Cond.fieldLink RX12 87 "ProofHouseModel" "defBody" "[I" ∈ wsX12_init := List.mem_of_getElem? (i := 33) rfl
set_option maxRecDepth 100000 in
theorem ww_f40 : Cond.fieldLink RX12 90 "ProofHouseModel" "defMeasure" "[I" ∈ wsX12_init := List.mem_of_getElem? (i := 34) rfl
set_option maxRecDepth 100000 in
theorem ww_f41 : Cond.fieldLink RX12 93 "ProofHouseModel" "defSelf" "[Z" ∈ wsX12_init := List.mem_of_getElem? (i := 36) rfl
set_option maxRecDepth 100000 in
theorem ww_f43 : Cond.fieldLink RX12 97 "ProofHouseModel" "theoremName" "[I" ∈ wsX12_init := List.mem_of_getElem? (i := 37) rfl
set_option maxRecDepth 100000 in
theorem ww_f44 : Cond.fieldLink RX12 100 "ProofHouseModel" "theorem" "[I" ∈ wsX12_init := List.mem_of_getElem? (i := 38) rfl
set_option maxRecDepth 100000 in
theorem ww_f45 : Cond.fieldLink RX12 103 "ProofHouseModel" "theoremSort" "[I" ∈ wsX12_init := List.mem_of_getElem? (i := 39) rfl
set_option maxRecDepth 100000 in
theorem ww_f46 : Cond.fieldLink RX12 106 "ProofHouseModel" "ruleLeft" "[I" ∈ wsX12_init := List.mem_of_getElem? (i := 40) rfl
set_option maxRecDepth 100000 in
theorem ww_f47 : Cond.fieldLink RX12 109 "ProofHouseModel" "ruleRight" "[I" ∈ wsX12_init := List.mem_of_getElem? (i := 41) rfl
set_option maxRecDepth 100000 in
theorem ww_f48 : Cond.fieldLink RX12 112 "ProofHouseModel" "ruleMany" "[I" ∈ wsX12_init := List.mem_of_getElem? (i := 42) rfl
set_option maxRecDepth 100000 in
theorem ww_f49 : Cond.fieldLink RX12 115 "ProofHouseModel" "ruleHypothesis" "[I" ∈ wsX12_init := List.mem_of_getElem? (i := 43) rfl
set_option maxRecDepth 100000 in
theorem ww_f50 : Cond.fieldLink RX12 118 "ProofHouseModel" "rulePermutes" "[Z" ∈ wsX12_init := List.mem_of_getElem? (i := 44) rfl
set_option maxRecDepth 100000 in
theorem ww_f51 : Cond.fieldLink RX12 121 "ProofHouseModel" "ruleTruth" "[Z" ∈ wsX12_init := List.mem_of_getElem? (i := 45) rfl
set_option maxRecDepth 100000 in
theorem ww_f52 : Cond.fieldLink RX12 124 "ProofHouseModel" "ruleOn" "[Z" ∈ wsX12_init := List.mem_of_getElem? (i := 46) rfl
set_option maxRecDepth 100000 in
theorem ww_f53 : Cond.fieldLink RX12 127 "ProofHouseModel" "ruleOut" "[Z" ∈ wsX12_init := List.mem_of_getElem? (i := 47) rfl
set_option maxRecDepth 100000 in
theorem ww_f55 : Cond.fieldLink RX12 130 "ProofHouseModel" "takenSort" "[I" ∈ wsX12_init := List.mem_of_getElem? (i := 48) rfl
set_option maxRecDepth 100000 in
theorem ww_f56 : Cond.fieldLink RX12 133 "ProofHouseModel" "takenFrom" "[I" ∈ wsX12_init := List.mem_of_getElem? (i := 49) rfl
set_option maxRecDepth 100000 in
theorem ww_f57 : Cond.fieldLink RX12 136 "ProofHouseModel" "comingName" "I" ∈ wsX12_init := List.mem_of_getElem? (i := 50) rfl
set_option maxRecDepth 100000 in
theorem ww_f59 : Cond.fieldLink RX12 139 "ProofHouseModel" "fuel" "I" ∈ wsX12_init := List.mem_of_getElem? (i := 51) rfl
set_option maxRecDepth 100000 in
theorem ww_f65 : Cond.fieldLink RX12 142 "ProofHouseModel" "other" "[I" ∈ wsX12_init := List.mem_of_getElem? (i := 52) rfl
set_option maxRecDepth 100000 in
theorem ww_f66 : Cond.fieldLink RX12 145 "ProofHouseModel" "callOf" "[I" ∈ wsX12_init := List.mem_of_getElem? (i := 53) rfl
set_option maxRecDepth 100000 in
theorem ww_f67 : Cond.fieldLink RX12 148 "ProofHouseModel" "restOf" "[I" ∈ wsX12_init := List.mem_of_getElem? (i := 54) rfl
set_option maxRecDepth 100000 in
theorem ww_f68 : Cond.fieldLink RX12 151 "ProofHouseModel" "fromOf" "[I" ∈ wsX12_init := List.mem_of_getElem? (i := 55) rfl
set_option maxRecDepth 100000 in
theorem ww_f70 : Cond.fieldLink RX12 154 "ProofHouseModel" "built" "[I" ∈ wsX12_init := List.mem_of_getElem? (i := 56) rfl
set_option maxRecDepth 100000 in
theorem ww_f72 : Cond.fieldLink RX12 157 "ProofHouseModel" "variable" "[I" ∈ wsX12_init := List.mem_of_getElem? (i := 57) rfl
set_option maxRecDepth 100000 in
theorem ww_f73 : Cond.fieldLink RX12 160 "ProofHouseModel" "instead" "[I" ∈ wsX12_init := List.mem_of_getElem? (i := 58) rfl
set_option maxRecDepth 100000 in
theorem ww_f75 : Cond.fieldLink RX12 163 "ProofHouseModel" "walk" "[I" ∈ wsX12_init := List.mem_of_getElem? (i := 59) rfl
set_option maxRecDepth 100000 in
theorem ww_f77 : Cond.fieldLink RX12 166 "ProofHouseModel" "its" "[I" ∈ wsX12_init := List.mem_of_getElem? (i := 60) rfl
set_option maxRecDepth 100000 in
theorem ww_f79 : Cond.fieldLink RX12 169 "ProofHouseModel" "evalTerm" "[I" ∈ wsX12_init := List.mem_of_getElem? (i := 61) rfl
set_option maxRecDepth 100000 in
theorem ww_f80 : Cond.fieldLink RX12 172 "ProofHouseModel" "evalRest" "[I" ∈ wsX12_init := List.mem_of_getElem? (i := 62) rfl
set_option maxRecDepth 100000 in
theorem ww_f81 : Cond.fieldLink RX12 175 "ProofHouseModel" "evalFrom" "[I" ∈ wsX12_init := List.mem_of_getElem? (i := 63) rfl
set_option maxRecDepth 100000 in
theorem ww_f82 : Cond.fieldLink RX12 178 "ProofHouseModel" "evalDef" "[I" ∈ wsX12_init := List.mem_of_getElem? (i := 64) rfl
set_option maxRecDepth 100000 in
theorem ww_f83 : Cond.fieldLink RX12 181 "ProofHouseModel" "evalBase" "[I" ∈ wsX12_init := List.mem_of_getElem? (i := 65) rfl
set_option maxRecDepth 100000 in
theorem ww_f84 : Cond.fieldLink RX12 184 "ProofHouseModel" "evalEnds" "[Z" ∈ wsX12_init := List.mem_of_getElem? (i := 66) rfl
set_option maxRecDepth 100000 in
theorem ww_f86 : Cond.fieldLink RX12 187 "ProofHouseModel" "value" "[I" ∈ wsX12_init := List.mem_of_getElem? (i := 67) rfl
set_option maxRecDepth 100000 in
theorem ww_f92 : Cond.fieldLink RX12 190 "ProofHouseModel" "job" "[I" ∈ wsX12_init := List.mem_of_getElem? (i := 68) rfl
set_option maxRecDepth 100000 in
theorem ww_f93 : Cond.fieldLink RX12 193 "ProofHouseModel" "jobTruth" "[Z" ∈ wsX12_init := List.mem_of_getElem? (i := 69) rfl
set_option maxRecDepth 100000 in
theorem ww_f94 : Cond.fieldLink RX12 196 "ProofHouseModel" "jobPhase" "[I" ∈ wsX12_init := List.mem_of_getElem? (i := 70) rfl
set_option maxRecDepth 100000 in
theorem ww_f95 : Cond.fieldLink RX12 199 "ProofHouseModel" "jobA" "[I" ∈ wsX12_init := List.mem_of_getElem? (i := 71) rfl
set_option maxRecDepth 100000 in
theorem ww_f96 : Cond.fieldLink RX12 202 "ProofHouseModel" "jobB" "[I" ∈ wsX12_init := List.mem_of_getElem? (i := 72) rfl
set_option maxRecDepth 100000 in
theorem ww_f97 : Cond.fieldLink RX12 205 "ProofHouseModel" "jobC" "[I" ∈ wsX12_init := List.mem_of_getElem? (i := 73) rfl
set_option maxRecDepth 100000 in
theorem ww_f98 : Cond.fieldLink RX12 208 "ProofHouseModel" "jobRest" "[I" ∈ wsX12_init := List.mem_of_getElem? (i := 74) rfl
set_option maxRecDepth 100000 in
theorem ww_f99 : Cond.fieldLink RX12 211 "ProofHouseModel" "jobFrom" "[I" ∈ wsX12_init := List.mem_of_getElem? (i := 75) rfl
set_option maxRecDepth 100000 in
theorem ww_f100 : Cond.fieldLink RX12 214 "ProofHouseModel" "jobRule" "[I" ∈ wsX12_init := List.mem_of_getElem? (i := 76) rfl
set_option maxRecDepth 100000 in
theorem ww_f101 : Cond.fieldLink RX12 217 "ProofHouseModel" "jobHypothesis" "[I" ∈ wsX12_init := List.mem_of_getElem? (i := 77) rfl
set_option maxRecDepth 100000 in
theorem ww_f103 : Cond.fieldLink RX12 220 "ProofHouseModel" "result" "[I" ∈ wsX12_init := List.mem_of_getElem? (i := 78) rfl
set_option maxRecDepth 100000 in
theorem ww_f105 : Cond.fieldLink RX12 223 "ProofHouseModel" "ruleVariable" "[I" ∈ wsX12_init := List.mem_of_getElem? (i := 79) rfl
set_option maxRecDepth 100000 in
theorem ww_f106 : Cond.fieldLink RX12 226 "ProofHouseModel" "ruleInstead" "[I" ∈ wsX12_init := List.mem_of_getElem? (i := 80) rfl
set_option maxRecDepth 100000 in
theorem ww_f107 : Cond.fieldLink RX12 229 "ProofHouseModel" "rulePairs" "[I" ∈ wsX12_init := List.mem_of_getElem? (i := 81) rfl
set_option maxRecDepth 100000 in
theorem ww_f108 : Cond.fieldLink RX12 232 "ProofHouseModel" "context" "[I" ∈ wsX12_init := List.mem_of_getElem? (i := 82) rfl
set_option maxRecDepth 100000 in
theorem ww_f112 : Cond.fieldLink RX12 235 "ProofHouseModel" "seekLeft" "[I" ∈ wsX12_init := List.mem_of_getElem? (i := 83) rfl
set_option maxRecDepth 100000 in
theorem ww_f113 : Cond.fieldLink RX12 238 "ProofHouseModel" "seekRight" "[I" ∈ wsX12_init := List.mem_of_getElem? (i := 84) rfl
set_option maxRecDepth 100000 in
theorem ww_c241 : Cond.constant RX12 241 (69000) ∈ wsX12_init := List.mem_of_getElem? (i := 85) rfl
set_option maxRecDepth 100000 in
theorem ww_f114 : Cond.fieldLink RX12 242 "ProofHouseModel" "literal" "[I" ∈ wsX12_init := List.mem_of_getElem? (i := 86) rfl
set_option maxRecDepth 100000 in
theorem ww_f115 : Cond.fieldLink RX12 245 "ProofHouseModel" "many" "[I" ∈ wsX12_init := List.mem_of_getElem? (i := 87) rfl
set_option maxRecDepth 100000 in
theorem ww_f116 : Cond.fieldLink RX12 248 "ProofHouseModel" "rounds" "[I" ∈ wsX12_init := List.mem_of_getElem? (i := 88) rfl
set_option maxRecDepth 100000 in
theorem ww_f118 : Cond.fieldLink RX12 251 "ProofHouseModel" "order" "[I" ∈ wsX12_init := List.mem_of_getElem? (i := 89) rfl
set_option maxRecDepth 100000 in
theorem ww_f120 : Cond.fieldLink RX12 254 "ProofHouseModel" "leftRow" "[I" ∈ wsX12_init := List.mem_of_getElem? (i := 90) rfl
set_option maxRecDepth 100000 in
theorem ww_f121 : Cond.fieldLink RX12 257 "ProofHouseModel" "draft" "[I" ∈ wsX12_init := List.mem_of_getElem? (i := 91) rfl
set_option maxRecDepth 100000 in
theorem ww_f123 : Cond.fieldLink RX12 260 "ProofHouseModel" "end" "[I" ∈ wsX12_init := List.mem_of_getElem? (i := 92) rfl
set_option maxRecDepth 100000 in
theorem ww_f124 : Cond.fieldLink RX12 263 "ProofHouseModel" "ruler" "[I" ∈ wsX12_init := List.mem_of_getElem? (i := 93) rfl
set_option maxRecDepth 100000 in
theorem ww_f125 : Cond.fieldLink RX12 266 "ProofHouseModel" "rulers" "[I" ∈ wsX12_init := List.mem_of_getElem? (i := 94) rfl
set_option maxRecDepth 100000 in
theorem ww_f127 : Cond.fieldLink RX12 269 "ProofHouseModel" "pathTerm" "[I" ∈ wsX12_init := List.mem_of_getElem? (i := 95) rfl
set_option maxRecDepth 100000 in
theorem ww_f128 : Cond.fieldLink RX12 272 "ProofHouseModel" "pathRuler" "[I" ∈ wsX12_init := List.mem_of_getElem? (i := 96) rfl
set_option maxRecDepth 100000 in
theorem ww_f129 : Cond.fieldLink RX12 275 "ProofHouseModel" "pathRulers" "[I" ∈ wsX12_init := List.mem_of_getElem? (i := 97) rfl
set_option maxRecDepth 100000 in
theorem ww_f130 : Cond.fieldLink RX12 278 "ProofHouseModel" "found" "[I" ∈ wsX12_init := List.mem_of_getElem? (i := 98) rfl
set_option maxRecDepth 100000 in
theorem ww_f137 : Cond.fieldLink RX12 281 "ProofHouseModel" "used" "[I" ∈ wsX12_init := List.mem_of_getElem? (i := 99) rfl
set_option maxRecDepth 100000 in
theorem ww_f138 : Cond.fieldLink RX12 284 "ProofHouseModel" "usedPairs" "[I" ∈ wsX12_init := List.mem_of_getElem? (i := 100) rfl
set_option maxRecDepth 100000 in
theorem ww_f140 : Cond.fieldLink RX12 287 "ProofHouseModel" "stepTerm" "[I" ∈ wsX12_init := List.mem_of_getElem? (i := 101) rfl
set_option maxRecDepth 100000 in
theorem ww_f141 : Cond.fieldLink RX12 290 "ProofHouseModel" "proof" "[I" ∈ wsX12_init := List.mem_of_getElem? (i := 102) rfl
set_option maxRecDepth 100000 in
theorem ww_f142 : Cond.fieldLink RX12 293 "ProofHouseModel" "proofPart" "[I" ∈ wsX12_init := List.mem_of_getElem? (i := 103) rfl
set_option maxRecDepth 100000 in
theorem ww_f143 : Cond.fieldLink RX12 296 "ProofHouseModel" "proofFrom" "[I" ∈ wsX12_init := List.mem_of_getElem? (i := 104) rfl
set_option maxRecDepth 100000 in
theorem ww_f145 : Cond.fieldLink RX12 299 "ProofHouseModel" "clause" "[I" ∈ wsX12_init := List.mem_of_getElem? (i := 105) rfl
set_option maxRecDepth 100000 in
theorem ww_f146 : Cond.fieldLink RX12 302 "ProofHouseModel" "clauseMany" "[I" ∈ wsX12_init := List.mem_of_getElem? (i := 106) rfl
end
section
set_option maxHeartbeats 16000000 in
set_option maxRecDepth 100000 in
/-- the constructor behind its fields: heads are -1, the symbols are said -/
theorem init_rest {p : Program} {l : Launch} {e : Env} {s : State} {m : MethodId} {args : Array Value} {below : List Frame} {meth : Method} {c : Code} {H : Heap} {locs : List Loc} {cells slots : Nat} {Q : State → Prop} {A : Nat → Prop} {H0 : Heap} {D : va_G} {ca : Nat → ClassId} {h0 : Nat} {ad : Nat → Nat} {ls : Array Slot} (hx : p.tables.exec = Jvm.exec) (hb : c.code = cX12_init) (hts : ∀ w ∈ wsX12_init, w.before args s = true) (hown : s.vm.findClass RX12 = some m.cls) (hml : c.maxLocals = 2) (hA : ∀ q : Nat, H0.size ≤ q → A q) (hK : va_K D vwCl (mTy ca) s) (hP : va_P D vwCl (mCl ca h0 ad mU0) H) (hD : va_D A (mCl ca h0 ad mU0)) (hS : va_S A H0 H locs) (hl : lv_has ls 2 [(0, .ref h0)]) (hc9 : cells ≤ 93) (hs9 : slots ≤ 2737036) (kk : ∀ (w : mST) (H : Heap) (locs : List Loc) (ls : Array Slot), (∃ n : Nat, n ≤ 44 ∧ mOk n w ∧ mFr mU0 w) → va_P D vwCl (mCl ca h0 ad w) H → va_D A (mCl ca h0 ad w) → va_S A H0 H locs → lv_has ls 2 [(0, .ref h0)] → W p l e (({ frames := 3, cells := 93, slots := 2737036, locals := 76 }) : Room) s m args below meth c H locs cells slots Q (F0 m 1537 ls [])) : W p l e (({ frames := 3, cells := 93, slots := 2737036, locals := 76 }) : Room) s m args below meth c H locs cells slots Q (F0 m 811 ls []) := by
  have L_heads := hts _ ww_f7
  have hin : ∀ w ∈ wsX120, w ∈ wsX12_init := ww_all
  refine lv_iconst hx hb dX12_init_811 (v := 0) rfl ?_
  refine lv_istore_n hx hb dX12_init_812 rfl hl (by decide) rfl (fun ls hl => ?_)
  have hl : lv_has ls 2 [(1, .int (0)), (0, .ref (h0))] := hl
  refine w_loopS (nL := 2) (sta := fun q : mST × Nat => q.1) (lst := fun q : mST × Nat => [(1, .int (nI q.2)), (0, .ref h0)]) (μ := fun q => 8192 - q.2) (I := fun q => q.2 ≤ 8192 ∧ q.1.1 = mU0.1 ∧ (∀ h : Nat, h < q.2 → q.1.2.1 7 h = -1) ∧ (∀ g : Nat, g ≠ 7 → q.1.2.1 g = mU0.2.1 g) ∧ q.1.2.2 = mU0.2.2) ?_ (mU0, 0) ls ⟨Nat.zero_le _, rfl, fun h hh => absurd hh (Nat.not_lt_zero _), fun _ _ => rfl, rfl⟩ hP hD hS hl
  clear hP hD hS hl
  intro q H locs ls hI hP hD hS hl ih
  obtain ⟨w, j⟩ := q
  obtain ⟨hI1, hI2, hI3, hI4, hI5⟩ := hI
  dsimp only at hI1 hI2 hI3 hI4 hI5 hP hD
  have hl : lv_has ls 2 [(1, .int (nI j)), (0, .ref (h0))] := hl
  refine lv_iload_n hx hb dX12_init_813 rfl (lv_at hl 0 rfl) ?_
  refine lv_sipush hx hb dX12_init_814 (v := 8192) rfl ?_
  refine lv_icmp_ge hx hb dX12_init_817 (tgt := 833) rfl (fun h1 => ?_) (fun h1 => ?_)
  · have hj : j = 8192 := by
      rcases Nat.lt_or_ge j 8192 with h | h
      · exact absurd h1 (nI_ge h (by decide))
      · omega
    subst hj
    have hO0 : mOk 0 w := ⟨by rw [hI2]; rfl, by rw [hI2]; rfl, fun h hh => Or.inl (hI3 h hh), fun j hj => absurd hj (Nat.not_lt_zero _)⟩
    have hF0 : mFr mU0 w := ⟨fun k _ _ _ => congrFun hI2 k, fun g hg => hI4 g (fun e => hg (by rw [e]; decide)), hI5⟩
    clear hI1 hI2 hI3 hI4 hI5 ih
    refine lv_aload_n hx hb dX12_init_833 rfl (lv_at hl 1 rfl) ?_
    refine lv_bipush hx hb dX12_init_834 (v := 110) rfl ?_
    refine lv_bipush hx hb dX12_init_836 (v := 105) rfl ?_
    refine lv_bipush hx hb dX12_init_838 (v := 108) rfl ?_
    refine lv_iconst hx hb dX12_init_840 (v := 0) rfl ?_
    refine lv_iconst hx hb dX12_init_841 (v := 0) rfl ?_
    refine lv_iconst hx hb dX12_init_842 (v := 0) rfl ?_
    refine lv_iconst hx hb dX12_init_843 (v := 0) rfl ?_
    refine lv_iconst hx hb dX12_init_844 (v := 0) rfl ?_
    have hFc := pl_free hD hS hA
    refine va_callv (va_runV (As := [.int (110), .int (105), .int (108), .int (0), .int (0), .int (0), .int (0), .int (0)]) (rest := []) ⟨hx, hb, hml, hown, hts⟩ (c_m_said l D ca h0 H.size ad w (110) (105) (108) (0) (0) (0) (0) (0) 0 (by omega) hO0) (cwV 8 hts gX12_init_X12_said rfl rfl rfl (by decide +kernel) ⟨Nat.le_of_ble_eq_true rfl, Nat.le_of_ble_eq_true rfl⟩) ⟨fun a U g mk q => by obtain ⟨q0, q1, qP, qK, qD⟩ := q; exact ⟨q0, q1, qP, va_K.moved (u := U) (U := U.calling g mk a) (Vm.Alike.refl U.vm) qK, qD⟩, va_recv hK hP (ci := 12) (q0 := 0) rfl rfl, fun U hU hW => ⟨rfl, by rw [hU], by rw [hU]; exact hP, va_K.moved hW.alike hK, hD.weaken (fun _ _ _ _ => trivial)⟩⟩ rfl rfl hl.1 rfl (lv_room (Nat.le_of_ble_eq_true rfl)) dX12_init_845 ⟨hc9, hs9⟩) hS (fun q _ h => hFc q h) hFc (fun u2 t H1 locs ht hvm hwu2 hB hz1 hk1 hS => ?_)
    obtain ⟨hP1, hK1, hD1⟩ := hB
    rw [ht] at hP1
    have hK := va_K.moved hvm.symm hK1
    have hD := hD1.weaken (fun _ _ _ h => hFc _ h)
    have hP := hP1
    clear hP1 hK1 hD1 hFc
    generalize H1 = H at hP hS hz1 hk1 ht ⊢
    have hP : va_P D vwCl (mCl ca h0 ad u2) H := hP
    have hD : va_D A (mCl ca h0 ad u2) := hD
    obtain ⟨n1, hm1, hO1, hG1⟩ := hwu2
    replace hm1 : n1 ≤ 1 := by omega
    have hF1 := mFr_tr hF0 hG1
    clear hF0 hO0 hG1 ht hvm hz1 hk1
    refine lv_aload_n hx hb dX12_init_848 rfl (lv_at hl 1 rfl) ?_
    refine lv_bipush hx hb dX12_init_849 (v := 116) rfl ?_
    refine lv_iconst hx hb dX12_init_851 (v := 0) rfl ?_
    refine lv_iconst hx hb dX12_init_852 (v := 0) rfl ?_
    refine lv_iconst hx hb dX12_init_853 (v := 0) rfl ?_
    refine lv_iconst hx hb dX12_init_854 (v := 0) rfl ?_
    refine lv_iconst hx hb dX12_init_855 (v := 0) rfl ?_
    refine lv_iconst hx hb dX12_init_856 (v := 0) rfl ?_
    refine lv_iconst hx hb dX12_init_857 (v := 0) rfl ?_
    have hFc := pl_free hD hS hA
    refine va_callv (va_runV (As := [.int (116), .int (0), .int (0), .int (0), .int (0), .int (0), .int (0), .int (0)]) (rest := []) ⟨hx, hb, hml, hown, hts⟩ (c_m_said l D ca h0 H.size ad u2 (116) (0) (0) (0) (0) (0) (0) (0) n1 (by omega) hO1) (cwV 8 hts gX12_init_X12_said rfl rfl rfl (by decide +kernel) ⟨Nat.le_of_ble_eq_true rfl, Nat.le_of_ble_eq_true rfl⟩) ⟨fun a U g mk q => by obtain ⟨q0, q1, qP, qK, qD⟩ := q; exact ⟨q0, q1, qP, va_K.moved (u := U) (U := U.calling g mk a) (Vm.Alike.refl U.vm) qK, qD⟩, va_recv hK hP (ci := 12) (q0 := 0) rfl rfl, fun U hU hW => ⟨rfl, by rw [hU], by rw [hU]; exact hP, va_K.moved hW.alike hK, hD.weaken (fun _ _ _ _ => trivial)⟩⟩ rfl rfl hl.1 rfl (lv_room (Nat.le_of_ble_eq_true rfl)) dX12_init_858 ⟨hc9, hs9⟩) hS (fun q _ h => hFc q h) hFc (fun u4 t H1 locs ht hvm hwu4 hB hz1 hk1 hS => ?_)
    obtain ⟨hP1, hK1, hD1⟩ := hB
    rw [ht] at hP1
    have hK := va_K.moved hvm.symm hK1
    have hD := hD1.weaken (fun _ _ _ h => hFc _ h)
    have hP := hP1
    clear hP1 hK1 hD1 hFc
    generalize H1 = H at hP hS hz1 hk1 ht ⊢
    have hP : va_P D vwCl (mCl ca h0 ad u4) H := hP
    have hD : va_D A (mCl ca h0 ad u4) := hD
    obtain ⟨n2, hm2, hO2, hG2⟩ := hwu4
    replace hm2 : n2 ≤ 2 := by omega
    have hF2 := mFr_tr hF1 hG2
    clear hF1 hO1 hG2 ht hvm hz1 hk1
    refine lv_aload_n hx hb dX12_init_861 rfl (lv_at hl 1 rfl) ?_
    refine lv_bipush hx hb dX12_init_862 (v := 113) rfl ?_
    refine lv_bipush hx hb dX12_init_864 (v := 117) rfl ?_
    refine lv_bipush hx hb dX12_init_866 (v := 111) rfl ?_
    refine lv_bipush hx hb dX12_init_868 (v := 116) rfl ?_
    refine lv_bipush hx hb dX12_init_870 (v := 101) rfl ?_
    refine lv_iconst hx hb dX12_init_872 (v := 0) rfl ?_
    refine lv_iconst hx hb dX12_init_873 (v := 0) rfl ?_
    refine lv_iconst hx hb dX12_init_874 (v := 0) rfl ?_
    have hFc := pl_free hD hS hA
    refine va_callv (va_runV (As := [.int (113), .int (117), .int (111), .int (116), .int (101), .int (0), .int (0), .int (0)]) (rest := []) ⟨hx, hb, hml, hown, hts⟩ (c_m_said l D ca h0 H.size ad u4 (113) (117) (111) (116) (101) (0) (0) (0) n2 (by omega) hO2) (cwV 8 hts gX12_init_X12_said rfl rfl rfl (by decide +kernel) ⟨Nat.le_of_ble_eq_true rfl, Nat.le_of_ble_eq_true rfl⟩) ⟨fun a U g mk q => by obtain ⟨q0, q1, qP, qK, qD⟩ := q; exact ⟨q0, q1, qP, va_K.moved (u := U) (U := U.calling g mk a) (Vm.Alike.refl U.vm) qK, qD⟩, va_recv hK hP (ci := 12) (q0 := 0) rfl rfl, fun U hU hW => ⟨rfl, by rw [hU], by rw [hU]; exact hP, va_K.moved hW.alike hK, hD.weaken (fun _ _ _ _ => trivial)⟩⟩ rfl rfl hl.1 rfl (lv_room (Nat.le_of_ble_eq_true rfl)) dX12_init_875 ⟨hc9, hs9⟩) hS (fun q _ h => hFc q h) hFc (fun u6 t H1 locs ht hvm hwu6 hB hz1 hk1 hS => ?_)
    obtain ⟨hP1, hK1, hD1⟩ := hB
    rw [ht] at hP1
    have hK := va_K.moved hvm.symm hK1
    have hD := hD1.weaken (fun _ _ _ h => hFc _ h)
    have hP := hP1
    clear hP1 hK1 hD1 hFc
    generalize H1 = H at hP hS hz1 hk1 ht ⊢
    have hP : va_P D vwCl (mCl ca h0 ad u6) H := hP
    have hD : va_D A (mCl ca h0 ad u6) := hD
    obtain ⟨n3, hm3, hO3, hG3⟩ := hwu6
    replace hm3 : n3 ≤ 3 := by omega
    have hF3 := mFr_tr hF2 hG3
    clear hF2 hO2 hG3 ht hvm hz1 hk1
    refine lv_aload_n hx hb dX12_init_878 rfl (lv_at hl 1 rfl) ?_
    refine lv_bipush hx hb dX12_init_879 (v := 105) rfl ?_
    refine lv_bipush hx hb dX12_init_881 (v := 102) rfl ?_
    refine lv_iconst hx hb dX12_init_883 (v := 0) rfl ?_
    refine lv_iconst hx hb dX12_init_884 (v := 0) rfl ?_
    refine lv_iconst hx hb dX12_init_885 (v := 0) rfl ?_
    refine lv_iconst hx hb dX12_init_886 (v := 0) rfl ?_
    refine lv_iconst hx hb dX12_init_887 (v := 0) rfl ?_
    refine lv_iconst hx hb dX12_init_888 (v := 0) rfl ?_
    have hFc := pl_free hD hS hA
    refine va_callv (va_runV (As := [.int (105), .int (102), .int (0), .int (0), .int (0), .int (0), .int (0), .int (0)]) (rest := []) ⟨hx, hb, hml, hown, hts⟩ (c_m_said l D ca h0 H.size ad u6 (105) (102) (0) (0) (0) (0) (0) (0) n3 (by omega) hO3) (cwV 8 hts gX12_init_X12_said rfl rfl rfl (by decide +kernel) ⟨Nat.le_of_ble_eq_true rfl, Nat.le_of_ble_eq_true rfl⟩) ⟨fun a U g mk q => by obtain ⟨q0, q1, qP, qK, qD⟩ := q; exact ⟨q0, q1, qP, va_K.moved (u := U) (U := U.calling g mk a) (Vm.Alike.refl U.vm) qK, qD⟩, va_recv hK hP (ci := 12) (q0 := 0) rfl rfl, fun U hU hW => ⟨rfl, by rw [hU], by rw [hU]; exact hP, va_K.moved hW.alike hK, hD.weaken (fun _ _ _ _ => trivial)⟩⟩ rfl rfl hl.1 rfl (lv_room (Nat.le_of_ble_eq_true rfl)) dX12_init_889 ⟨hc9, hs9⟩) hS (fun q _ h => hFc q h) hFc (fun u8 t H1 locs ht hvm hwu8 hB hz1 hk1 hS => ?_)
    obtain ⟨hP1, hK1, hD1⟩ := hB
    rw [ht] at hP1
    have hK := va_K.moved hvm.symm hK1
    have hD := hD1.weaken (fun _ _ _ h => hFc _ h)
    have hP := hP1
    clear hP1 hK1 hD1 hFc
    generalize H1 = H at hP hS hz1 hk1 ht ⊢
    have hP : va_P D vwCl (mCl ca h0 ad u8) H := hP
    have hD : va_D A (mCl ca h0 ad u8) := hD
    obtain ⟨n4, hm4, hO4, hG4⟩ := hwu8
    replace hm4 : n4 ≤ 4 := by omega
    have hF4 := mFr_tr hF3 hG4
    clear hF3 hO3 hG4 ht hvm hz1 hk1
    refine lv_aload_n hx hb dX12_init_892 rfl (lv_at hl 1 rfl) ?_
    refine lv_bipush hx hb dX12_init_893 (v := 101) rfl ?_
    refine lv_bipush hx hb dX12_init_895 (v := 113) rfl ?_
    refine lv_bipush hx hb dX12_init_897 (v := 117) rfl ?_
    refine lv_bipush hx hb dX12_init_899 (v := 97) rfl ?_
    refine lv_bipush hx hb dX12_init_901 (v := 108) rfl ?_
    refine lv_iconst hx hb dX12_init_903 (v := 0) rfl ?_
    refine lv_iconst hx hb dX12_init_904 (v := 0) rfl ?_
    refine lv_iconst hx hb dX12_init_905 (v := 0) rfl ?_
    have hFc := pl_free hD hS hA
    refine va_callv (va_runV (As := [.int (101), .int (113), .int (117), .int (97), .int (108), .int (0), .int (0), .int (0)]) (rest := []) ⟨hx, hb, hml, hown, hts⟩ (c_m_said l D ca h0 H.size ad u8 (101) (113) (117) (97) (108) (0) (0) (0) n4 (by omega) hO4) (cwV 8 hts gX12_init_X12_said rfl rfl rfl (by decide +kernel) ⟨Nat.le_of_ble_eq_true rfl, Nat.le_of_ble_eq_true rfl⟩) ⟨fun a U g mk q => by obtain ⟨q0, q1, qP, qK, qD⟩ := q; exact ⟨q0, q1, qP, va_K.moved (u := U) (U := U.calling g mk a) (Vm.Alike.refl U.vm) qK, qD⟩, va_recv hK hP (ci := 12) (q0 := 0) rfl rfl, fun U hU hW => ⟨rfl, by rw [hU], by rw [hU]; exact hP, va_K.moved hW.alike hK, hD.weaken (fun _ _ _ _ => trivial)⟩⟩ rfl rfl hl.1 rfl (lv_room (Nat.le_of_ble_eq_true rfl)) dX12_init_906 ⟨hc9, hs9⟩) hS (fun q _ h => hFc q h) hFc (fun u10 t H1 locs ht hvm hwu10 hB hz1 hk1 hS => ?_)
    obtain ⟨hP1, hK1, hD1⟩ := hB
    rw [ht] at hP1
    have hK := va_K.moved hvm.symm hK1
    have hD := hD1.weaken (fun _ _ _ h => hFc _ h)
    have hP := hP1
    clear hP1 hK1 hD1 hFc
    generalize H1 = H at hP hS hz1 hk1 ht ⊢
    have hP : va_P D vwCl (mCl ca h0 ad u10) H := hP
    have hD : va_D A (mCl ca h0 ad u10) := hD
    obtain ⟨n5, hm5, hO5, hG5⟩ := hwu10
    replace hm5 : n5 ≤ 5 := by omega
    have hF5 := mFr_tr hF4 hG5
    clear hF4 hO4 hG5 ht hvm hz1 hk1
    refine lv_aload_n hx hb dX12_init_909 rfl (lv_at hl 1 rfl) ?_
    refine lv_bipush hx hb dX12_init_910 (v := 99) rfl ?_
    refine lv_bipush hx hb dX12_init_912 (v := 111) rfl ?_
    refine lv_bipush hx hb dX12_init_914 (v := 110) rfl ?_
    refine lv_bipush hx hb dX12_init_916 (v := 115) rfl ?_
    refine lv_iconst hx hb dX12_init_918 (v := 0) rfl ?_
    refine lv_iconst hx hb dX12_init_919 (v := 0) rfl ?_
    refine lv_iconst hx hb dX12_init_920 (v := 0) rfl ?_
    refine lv_iconst hx hb dX12_init_921 (v := 0) rfl ?_
    have hFc := pl_free hD hS hA
    refine va_callv (va_runV (As := [.int (99), .int (111), .int (110), .int (115), .int (0), .int (0), .int (0), .int (0)]) (rest := []) ⟨hx, hb, hml, hown, hts⟩ (c_m_said l D ca h0 H.size ad u10 (99) (111) (110) (115) (0) (0) (0) (0) n5 (by omega) hO5) (cwV 8 hts gX12_init_X12_said rfl rfl rfl (by decide +kernel) ⟨Nat.le_of_ble_eq_true rfl, Nat.le_of_ble_eq_true rfl⟩) ⟨fun a U g mk q => by obtain ⟨q0, q1, qP, qK, qD⟩ := q; exact ⟨q0, q1, qP, va_K.moved (u := U) (U := U.calling g mk a) (Vm.Alike.refl U.vm) qK, qD⟩, va_recv hK hP (ci := 12) (q0 := 0) rfl rfl, fun U hU hW => ⟨rfl, by rw [hU], by rw [hU]; exact hP, va_K.moved hW.alike hK, hD.weaken (fun _ _ _ _ => trivial)⟩⟩ rfl rfl hl.1 rfl (lv_room (Nat.le_of_ble_eq_true rfl)) dX12_init_922 ⟨hc9, hs9⟩) hS (fun q _ h => hFc q h) hFc (fun u12 t H1 locs ht hvm hwu12 hB hz1 hk1 hS => ?_)
    obtain ⟨hP1, hK1, hD1⟩ := hB
    rw [ht] at hP1
    have hK := va_K.moved hvm.symm hK1
    have hD := hD1.weaken (fun _ _ _ h => hFc _ h)
    have hP := hP1
    clear hP1 hK1 hD1 hFc
    generalize H1 = H at hP hS hz1 hk1 ht ⊢
    have hP : va_P D vwCl (mCl ca h0 ad u12) H := hP
    have hD : va_D A (mCl ca h0 ad u12) := hD
    obtain ⟨n6, hm6, hO6, hG6⟩ := hwu12
    replace hm6 : n6 ≤ 6 := by omega
    have hF6 := mFr_tr hF5 hG6
    clear hF5 hO5 hG6 ht hvm hz1 hk1
    refine lv_aload_n hx hb dX12_init_925 rfl (lv_at hl 1 rfl) ?_
    refine lv_bipush hx hb dX12_init_926 (v := 105) rfl ?_
    refine lv_bipush hx hb dX12_init_928 (v := 109) rfl ?_
    refine lv_bipush hx hb dX12_init_930 (v := 112) rfl ?_
    refine lv_bipush hx hb dX12_init_932 (v := 108) rfl ?_
    refine lv_bipush hx hb dX12_init_934 (v := 105) rfl ?_
    refine lv_bipush hx hb dX12_init_936 (v := 101) rfl ?_
    refine lv_bipush hx hb dX12_init_938 (v := 115) rfl ?_
    refine lv_iconst hx hb dX12_init_940 (v := 0) rfl ?_
    have hFc := pl_free hD hS hA
    refine va_callv (va_runV (As := [.int (105), .int (109), .int (112), .int (108), .int (105), .int (101), .int (115), .int (0)]) (rest := []) ⟨hx, hb, hml, hown, hts⟩ (c_m_said l D ca h0 H.size ad u12 (105) (109) (112) (108) (105) (101) (115) (0) n6 (by omega) hO6) (cwV 8 hts gX12_init_X12_said rfl rfl rfl (by decide +kernel) ⟨Nat.le_of_ble_eq_true rfl, Nat.le_of_ble_eq_true rfl⟩) ⟨fun a U g mk q => by obtain ⟨q0, q1, qP, qK, qD⟩ := q; exact ⟨q0, q1, qP, va_K.moved (u := U) (U := U.calling g mk a) (Vm.Alike.refl U.vm) qK, qD⟩, va_recv hK hP (ci := 12) (q0 := 0) rfl rfl, fun U hU hW => ⟨rfl, by rw [hU], by rw [hU]; exact hP, va_K.moved hW.alike hK, hD.weaken (fun _ _ _ _ => trivial)⟩⟩ rfl rfl hl.1 rfl (lv_room (Nat.le_of_ble_eq_true rfl)) dX12_init_941 ⟨hc9, hs9⟩) hS (fun q _ h => hFc q h) hFc (fun u14 t H1 locs ht hvm hwu14 hB hz1 hk1 hS => ?_)
    obtain ⟨hP1, hK1, hD1⟩ := hB
    rw [ht] at hP1
    have hK := va_K.moved hvm.symm hK1
    have hD := hD1.weaken (fun _ _ _ h => hFc _ h)
    have hP := hP1
    clear hP1 hK1 hD1 hFc
    generalize H1 = H at hP hS hz1 hk1 ht ⊢
    have hP : va_P D vwCl (mCl ca h0 ad u14) H := hP
    have hD : va_D A (mCl ca h0 ad u14) := hD
    obtain ⟨n7, hm7, hO7, hG7⟩ := hwu14
    replace hm7 : n7 ≤ 7 := by omega
    have hF7 := mFr_tr hF6 hG7
    clear hF6 hO6 hG7 ht hvm hz1 hk1
    refine lv_aload_n hx hb dX12_init_944 rfl (lv_at hl 1 rfl) ?_
    refine lv_bipush hx hb dX12_init_945 (v := 43) rfl ?_
    refine lv_iconst hx hb dX12_init_947 (v := 0) rfl ?_
    refine lv_iconst hx hb dX12_init_948 (v := 0) rfl ?_
    refine lv_iconst hx hb dX12_init_949 (v := 0) rfl ?_
    refine lv_iconst hx hb dX12_init_950 (v := 0) rfl ?_
    refine lv_iconst hx hb dX12_init_951 (v := 0) rfl ?_
    refine lv_iconst hx hb dX12_init_952 (v := 0) rfl ?_
    refine lv_iconst hx hb dX12_init_953 (v := 0) rfl ?_
    have hFc := pl_free hD hS hA
    refine va_callv (va_runV (As := [.int (43), .int (0), .int (0), .int (0), .int (0), .int (0), .int (0), .int (0)]) (rest := []) ⟨hx, hb, hml, hown, hts⟩ (c_m_said l D ca h0 H.size ad u14 (43) (0) (0) (0) (0) (0) (0) (0) n7 (by omega) hO7) (cwV 8 hts gX12_init_X12_said rfl rfl rfl (by decide +kernel) ⟨Nat.le_of_ble_eq_true rfl, Nat.le_of_ble_eq_true rfl⟩) ⟨fun a U g mk q => by obtain ⟨q0, q1, qP, qK, qD⟩ := q; exact ⟨q0, q1, qP, va_K.moved (u := U) (U := U.calling g mk a) (Vm.Alike.refl U.vm) qK, qD⟩, va_recv hK hP (ci := 12) (q0 := 0) rfl rfl, fun U hU hW => ⟨rfl, by rw [hU], by rw [hU]; exact hP, va_K.moved hW.alike hK, hD.weaken (fun _ _ _ _ => trivial)⟩⟩ rfl rfl hl.1 rfl (lv_room (Nat.le_of_ble_eq_true rfl)) dX12_init_954 ⟨hc9, hs9⟩) hS (fun q _ h => hFc q h) hFc (fun u16 t H1 locs ht hvm hwu16 hB hz1 hk1 hS => ?_)
    obtain ⟨hP1, hK1, hD1⟩ := hB
    rw [ht] at hP1
    have hK := va_K.moved hvm.symm hK1
    have hD := hD1.weaken (fun _ _ _ h => hFc _ h)
    have hP := hP1
    clear hP1 hK1 hD1 hFc
    generalize H1 = H at hP hS hz1 hk1 ht ⊢
    have hP : va_P D vwCl (mCl ca h0 ad u16) H := hP
    have hD : va_D A (mCl ca h0 ad u16) := hD
    obtain ⟨n8, hm8, hO8, hG8⟩ := hwu16
    replace hm8 : n8 ≤ 8 := by omega
    have hF8 := mFr_tr hF7 hG8
    clear hF7 hO7 hG8 ht hvm hz1 hk1
    refine lv_aload_n hx hb dX12_init_957 rfl (lv_at hl 1 rfl) ?_
    refine lv_bipush hx hb dX12_init_958 (v := 45) rfl ?_
    refine lv_iconst hx hb dX12_init_960 (v := 0) rfl ?_
    refine lv_iconst hx hb dX12_init_961 (v := 0) rfl ?_
    refine lv_iconst hx hb dX12_init_962 (v := 0) rfl ?_
    refine lv_iconst hx hb dX12_init_963 (v := 0) rfl ?_
    refine lv_iconst hx hb dX12_init_964 (v := 0) rfl ?_
    refine lv_iconst hx hb dX12_init_965 (v := 0) rfl ?_
    refine lv_iconst hx hb dX12_init_966 (v := 0) rfl ?_
    have hFc := pl_free hD hS hA
    refine va_callv (va_runV (As := [.int (45), .int (0), .int (0), .int (0), .int (0), .int (0), .int (0), .int (0)]) (rest := []) ⟨hx, hb, hml, hown, hts⟩ (c_m_said l D ca h0 H.size ad u16 (45) (0) (0) (0) (0) (0) (0) (0) n8 (by omega) hO8) (cwV 8 hts gX12_init_X12_said rfl rfl rfl (by decide +kernel) ⟨Nat.le_of_ble_eq_true rfl, Nat.le_of_ble_eq_true rfl⟩) ⟨fun a U g mk q => by obtain ⟨q0, q1, qP, qK, qD⟩ := q; exact ⟨q0, q1, qP, va_K.moved (u := U) (U := U.calling g mk a) (Vm.Alike.refl U.vm) qK, qD⟩, va_recv hK hP (ci := 12) (q0 := 0) rfl rfl, fun U hU hW => ⟨rfl, by rw [hU], by rw [hU]; exact hP, va_K.moved hW.alike hK, hD.weaken (fun _ _ _ _ => trivial)⟩⟩ rfl rfl hl.1 rfl (lv_room (Nat.le_of_ble_eq_true rfl)) dX12_init_967 ⟨hc9, hs9⟩) hS (fun q _ h => hFc q h) hFc (fun u18 t H1 locs ht hvm hwu18 hB hz1 hk1 hS => ?_)
    obtain ⟨hP1, hK1, hD1⟩ := hB
    rw [ht] at hP1
    have hK := va_K.moved hvm.symm hK1
    have hD := hD1.weaken (fun _ _ _ h => hFc _ h)
    have hP := hP1
    clear hP1 hK1 hD1 hFc
    generalize H1 = H at hP hS hz1 hk1 ht ⊢
    have hP : va_P D vwCl (mCl ca h0 ad u18) H := hP
    have hD : va_D A (mCl ca h0 ad u18) := hD
    obtain ⟨n9, hm9, hO9, hG9⟩ := hwu18
    replace hm9 : n9 ≤ 9 := by omega
    have hF9 := mFr_tr hF8 hG9
    clear hF8 hO8 hG9 ht hvm hz1 hk1
    refine lv_aload_n hx hb dX12_init_970 rfl (lv_at hl 1 rfl) ?_
    refine lv_bipush hx hb dX12_init_971 (v := 60) rfl ?_
    refine lv_iconst hx hb dX12_init_973 (v := 0) rfl ?_
    refine lv_iconst hx hb dX12_init_974 (v := 0) rfl ?_
    refine lv_iconst hx hb dX12_init_975 (v := 0) rfl ?_
    refine lv_iconst hx hb dX12_init_976 (v := 0) rfl ?_
    refine lv_iconst hx hb dX12_init_977 (v := 0) rfl ?_
    refine lv_iconst hx hb dX12_init_978 (v := 0) rfl ?_
    refine lv_iconst hx hb dX12_init_979 (v := 0) rfl ?_
    have hFc := pl_free hD hS hA
    refine va_callv (va_runV (As := [.int (60), .int (0), .int (0), .int (0), .int (0), .int (0), .int (0), .int (0)]) (rest := []) ⟨hx, hb, hml, hown, hts⟩ (c_m_said l D ca h0 H.size ad u18 (60) (0) (0) (0) (0) (0) (0) (0) n9 (by omega) hO9) (cwV 8 hts gX12_init_X12_said rfl rfl rfl (by decide +kernel) ⟨Nat.le_of_ble_eq_true rfl, Nat.le_of_ble_eq_true rfl⟩) ⟨fun a U g mk q => by obtain ⟨q0, q1, qP, qK, qD⟩ := q; exact ⟨q0, q1, qP, va_K.moved (u := U) (U := U.calling g mk a) (Vm.Alike.refl U.vm) qK, qD⟩, va_recv hK hP (ci := 12) (q0 := 0) rfl rfl, fun U hU hW => ⟨rfl, by rw [hU], by rw [hU]; exact hP, va_K.moved hW.alike hK, hD.weaken (fun _ _ _ _ => trivial)⟩⟩ rfl rfl hl.1 rfl (lv_room (Nat.le_of_ble_eq_true rfl)) dX12_init_980 ⟨hc9, hs9⟩) hS (fun q _ h => hFc q h) hFc (fun u20 t H1 locs ht hvm hwu20 hB hz1 hk1 hS => ?_)
    obtain ⟨hP1, hK1, hD1⟩ := hB
    rw [ht] at hP1
    have hK := va_K.moved hvm.symm hK1
    have hD := hD1.weaken (fun _ _ _ h => hFc _ h)
    have hP := hP1
    clear hP1 hK1 hD1 hFc
    generalize H1 = H at hP hS hz1 hk1 ht ⊢
    have hP : va_P D vwCl (mCl ca h0 ad u20) H := hP
    have hD : va_D A (mCl ca h0 ad u20) := hD
    obtain ⟨n10, hm10, hO10, hG10⟩ := hwu20
    replace hm10 : n10 ≤ 10 := by omega
    have hF10 := mFr_tr hF9 hG10
    clear hF9 hO9 hG10 ht hvm hz1 hk1
    refine lv_aload_n hx hb dX12_init_983 rfl (lv_at hl 1 rfl) ?_
    refine lv_bipush hx hb dX12_init_984 (v := 99) rfl ?_
    refine lv_bipush hx hb dX12_init_986 (v := 111) rfl ?_
    refine lv_bipush hx hb dX12_init_988 (v := 110) rfl ?_
    refine lv_bipush hx hb dX12_init_990 (v := 115) rfl ?_
    refine lv_bipush hx hb dX12_init_992 (v := 112) rfl ?_
    refine lv_iconst hx hb dX12_init_994 (v := 0) rfl ?_
    refine lv_iconst hx hb dX12_init_995 (v := 0) rfl ?_
    refine lv_iconst hx hb dX12_init_996 (v := 0) rfl ?_
    have hFc := pl_free hD hS hA
    refine va_callv (va_runV (As := [.int (99), .int (111), .int (110), .int (115), .int (112), .int (0), .int (0), .int (0)]) (rest := []) ⟨hx, hb, hml, hown, hts⟩ (c_m_said l D ca h0 H.size ad u20 (99) (111) (110) (115) (112) (0) (0) (0) n10 (by omega) hO10) (cwV 8 hts gX12_init_X12_said rfl rfl rfl (by decide +kernel) ⟨Nat.le_of_ble_eq_true rfl, Nat.le_of_ble_eq_true rfl⟩) ⟨fun a U g mk q => by obtain ⟨q0, q1, qP, qK, qD⟩ := q; exact ⟨q0, q1, qP, va_K.moved (u := U) (U := U.calling g mk a) (Vm.Alike.refl U.vm) qK, qD⟩, va_recv hK hP (ci := 12) (q0 := 0) rfl rfl, fun U hU hW => ⟨rfl, by rw [hU], by rw [hU]; exact hP, va_K.moved hW.alike hK, hD.weaken (fun _ _ _ _ => trivial)⟩⟩ rfl rfl hl.1 rfl (lv_room (Nat.le_of_ble_eq_true rfl)) dX12_init_997 ⟨hc9, hs9⟩) hS (fun q _ h => hFc q h) hFc (fun u22 t H1 locs ht hvm hwu22 hB hz1 hk1 hS => ?_)
    obtain ⟨hP1, hK1, hD1⟩ := hB
    rw [ht] at hP1
    have hK := va_K.moved hvm.symm hK1
    have hD := hD1.weaken (fun _ _ _ h => hFc _ h)
    have hP := hP1
    clear hP1 hK1 hD1 hFc
    generalize H1 = H at hP hS hz1 hk1 ht ⊢
    have hP : va_P D vwCl (mCl ca h0 ad u22) H := hP
    have hD : va_D A (mCl ca h0 ad u22) := hD
    obtain ⟨n11, hm11, hO11, hG11⟩ := hwu22
    replace hm11 : n11 ≤ 11 := by omega
    have hF11 := mFr_tr hF10 hG11
    clear hF10 hO10 hG11 ht hvm hz1 hk1
    refine lv_aload_n hx hb dX12_init_1000 rfl (lv_at hl 1 rfl) ?_
    refine lv_bipush hx hb dX12_init_1001 (v := 99) rfl ?_
    refine lv_bipush hx hb dX12_init_1003 (v := 97) rfl ?_
    refine lv_bipush hx hb dX12_init_1005 (v := 114) rfl ?_
    refine lv_iconst hx hb dX12_init_1007 (v := 0) rfl ?_
    refine lv_iconst hx hb dX12_init_1008 (v := 0) rfl ?_
    refine lv_iconst hx hb dX12_init_1009 (v := 0) rfl ?_
    refine lv_iconst hx hb dX12_init_1010 (v := 0) rfl ?_
    refine lv_iconst hx hb dX12_init_1011 (v := 0) rfl ?_
    have hFc := pl_free hD hS hA
    refine va_callv (va_runV (As := [.int (99), .int (97), .int (114), .int (0), .int (0), .int (0), .int (0), .int (0)]) (rest := []) ⟨hx, hb, hml, hown, hts⟩ (c_m_said l D ca h0 H.size ad u22 (99) (97) (114) (0) (0) (0) (0) (0) n11 (by omega) hO11) (cwV 8 hts gX12_init_X12_said rfl rfl rfl (by decide +kernel) ⟨Nat.le_of_ble_eq_true rfl, Nat.le_of_ble_eq_true rfl⟩) ⟨fun a U g mk q => by obtain ⟨q0, q1, qP, qK, qD⟩ := q; exact ⟨q0, q1, qP, va_K.moved (u := U) (U := U.calling g mk a) (Vm.Alike.refl U.vm) qK, qD⟩, va_recv hK hP (ci := 12) (q0 := 0) rfl rfl, fun U hU hW => ⟨rfl, by rw [hU], by rw [hU]; exact hP, va_K.moved hW.alike hK, hD.weaken (fun _ _ _ _ => trivial)⟩⟩ rfl rfl hl.1 rfl (lv_room (Nat.le_of_ble_eq_true rfl)) dX12_init_1012 ⟨hc9, hs9⟩) hS (fun q _ h => hFc q h) hFc (fun u24 t H1 locs ht hvm hwu24 hB hz1 hk1 hS => ?_)
    obtain ⟨hP1, hK1, hD1⟩ := hB
    rw [ht] at hP1
    have hK := va_K.moved hvm.symm hK1
    have hD := hD1.weaken (fun _ _ _ h => hFc _ h)
    have hP := hP1
    clear hP1 hK1 hD1 hFc
    generalize H1 = H at hP hS hz1 hk1 ht ⊢
    have hP : va_P D vwCl (mCl ca h0 ad u24) H := hP
    have hD : va_D A (mCl ca h0 ad u24) := hD
    obtain ⟨n12, hm12, hO12, hG12⟩ := hwu24
    replace hm12 : n12 ≤ 12 := by omega
    have hF12 := mFr_tr hF11 hG12
    clear hF11 hO11 hG12 ht hvm hz1 hk1
    refine lv_aload_n hx hb dX12_init_1015 rfl (lv_at hl 1 rfl) ?_
    refine lv_bipush hx hb dX12_init_1016 (v := 99) rfl ?_
    refine lv_bipush hx hb dX12_init_1018 (v := 100) rfl ?_
    refine lv_bipush hx hb dX12_init_1020 (v := 114) rfl ?_
    refine lv_iconst hx hb dX12_init_1022 (v := 0) rfl ?_
    refine lv_iconst hx hb dX12_init_1023 (v := 0) rfl ?_
    refine lv_iconst hx hb dX12_init_1024 (v := 0) rfl ?_
    refine lv_iconst hx hb dX12_init_1025 (v := 0) rfl ?_
    refine lv_iconst hx hb dX12_init_1026 (v := 0) rfl ?_
    have hFc := pl_free hD hS hA
    refine va_callv (va_runV (As := [.int (99), .int (100), .int (114), .int (0), .int (0), .int (0), .int (0), .int (0)]) (rest := []) ⟨hx, hb, hml, hown, hts⟩ (c_m_said l D ca h0 H.size ad u24 (99) (100) (114) (0) (0) (0) (0) (0) n12 (by omega) hO12) (cwV 8 hts gX12_init_X12_said rfl rfl rfl (by decide +kernel) ⟨Nat.le_of_ble_eq_true rfl, Nat.le_of_ble_eq_true rfl⟩) ⟨fun a U g mk q => by obtain ⟨q0, q1, qP, qK, qD⟩ := q; exact ⟨q0, q1, qP, va_K.moved (u := U) (U := U.calling g mk a) (Vm.Alike.refl U.vm) qK, qD⟩, va_recv hK hP (ci := 12) (q0 := 0) rfl rfl, fun U hU hW => ⟨rfl, by rw [hU], by rw [hU]; exact hP, va_K.moved hW.alike hK, hD.weaken (fun _ _ _ _ => trivial)⟩⟩ rfl rfl hl.1 rfl (lv_room (Nat.le_of_ble_eq_true rfl)) dX12_init_1027 ⟨hc9, hs9⟩) hS (fun q _ h => hFc q h) hFc (fun u26 t H1 locs ht hvm hwu26 hB hz1 hk1 hS => ?_)
    obtain ⟨hP1, hK1, hD1⟩ := hB
    rw [ht] at hP1
    have hK := va_K.moved hvm.symm hK1
    have hD := hD1.weaken (fun _ _ _ h => hFc _ h)
    have hP := hP1
    clear hP1 hK1 hD1 hFc
    generalize H1 = H at hP hS hz1 hk1 ht ⊢
    have hP : va_P D vwCl (mCl ca h0 ad u26) H := hP
    have hD : va_D A (mCl ca h0 ad u26) := hD
    obtain ⟨n13, hm13, hO13, hG13⟩ := hwu26
    replace hm13 : n13 ≤ 13 := by omega
    have hF13 := mFr_tr hF12 hG13
    clear hF12 hO12 hG13 ht hvm hz1 hk1
    refine lv_aload_n hx hb dX12_init_1030 rfl (lv_at hl 1 rfl) ?_
    refine lv_bipush hx hb dX12_init_1031 (v := 110) rfl ?_
    refine lv_bipush hx hb dX12_init_1033 (v := 97) rfl ?_
    refine lv_bipush hx hb dX12_init_1035 (v := 116) rfl ?_
    refine lv_bipush hx hb dX12_init_1037 (v := 112) rfl ?_
    refine lv_iconst hx hb dX12_init_1039 (v := 0) rfl ?_
    refine lv_iconst hx hb dX12_init_1040 (v := 0) rfl ?_
    refine lv_iconst hx hb dX12_init_1041 (v := 0) rfl ?_
    refine lv_iconst hx hb dX12_init_1042 (v := 0) rfl ?_
    have hFc := pl_free hD hS hA
    refine va_callv (va_runV (As := [.int (110), .int (97), .int (116), .int (112), .int (0), .int (0), .int (0), .int (0)]) (rest := []) ⟨hx, hb, hml, hown, hts⟩ (c_m_said l D ca h0 H.size ad u26 (110) (97) (116) (112) (0) (0) (0) (0) n13 (by omega) hO13) (cwV 8 hts gX12_init_X12_said rfl rfl rfl (by decide +kernel) ⟨Nat.le_of_ble_eq_true rfl, Nat.le_of_ble_eq_true rfl⟩) ⟨fun a U g mk q => by obtain ⟨q0, q1, qP, qK, qD⟩ := q; exact ⟨q0, q1, qP, va_K.moved (u := U) (U := U.calling g mk a) (Vm.Alike.refl U.vm) qK, qD⟩, va_recv hK hP (ci := 12) (q0 := 0) rfl rfl, fun U hU hW => ⟨rfl, by rw [hU], by rw [hU]; exact hP, va_K.moved hW.alike hK, hD.weaken (fun _ _ _ _ => trivial)⟩⟩ rfl rfl hl.1 rfl (lv_room (Nat.le_of_ble_eq_true rfl)) dX12_init_1043 ⟨hc9, hs9⟩) hS (fun q _ h => hFc q h) hFc (fun u28 t H1 locs ht hvm hwu28 hB hz1 hk1 hS => ?_)
    obtain ⟨hP1, hK1, hD1⟩ := hB
    rw [ht] at hP1
    have hK := va_K.moved hvm.symm hK1
    have hD := hD1.weaken (fun _ _ _ h => hFc _ h)
    have hP := hP1
    clear hP1 hK1 hD1 hFc
    generalize H1 = H at hP hS hz1 hk1 ht ⊢
    have hP : va_P D vwCl (mCl ca h0 ad u28) H := hP
    have hD : va_D A (mCl ca h0 ad u28) := hD
    obtain ⟨n14, hm14, hO14, hG14⟩ := hwu28
    replace hm14 : n14 ≤ 14 := by omega
    have hF14 := mFr_tr hF13 hG14
    clear hF13 hO13 hG14 ht hvm hz1 hk1
    refine lv_aload_n hx hb dX12_init_1046 rfl (lv_at hl 1 rfl) ?_
    refine lv_bipush hx hb dX12_init_1047 (v := 115) rfl ?_
    refine lv_bipush hx hb dX12_init_1049 (v := 121) rfl ?_
    refine lv_bipush hx hb dX12_init_1051 (v := 109) rfl ?_
    refine lv_bipush hx hb dX12_init_1053 (v := 98) rfl ?_
    refine lv_bipush hx hb dX12_init_1055 (v := 111) rfl ?_
    refine lv_bipush hx hb dX12_init_1057 (v := 108) rfl ?_
    refine lv_bipush hx hb dX12_init_1059 (v := 112) rfl ?_
    refine lv_iconst hx hb dX12_init_1061 (v := 0) rfl ?_
    have hFc := pl_free hD hS hA
    refine va_callv (va_runV (As := [.int (115), .int (121), .int (109), .int (98), .int (111), .int (108), .int (112), .int (0)]) (rest := []) ⟨hx, hb, hml, hown, hts⟩ (c_m_said l D ca h0 H.size ad u28 (115) (121) (109) (98) (111) (108) (112) (0) n14 (by omega) hO14) (cwV 8 hts gX12_init_X12_said rfl rfl rfl (by decide +kernel) ⟨Nat.le_of_ble_eq_true rfl, Nat.le_of_ble_eq_true rfl⟩) ⟨fun a U g mk q => by obtain ⟨q0, q1, qP, qK, qD⟩ := q; exact ⟨q0, q1, qP, va_K.moved (u := U) (U := U.calling g mk a) (Vm.Alike.refl U.vm) qK, qD⟩, va_recv hK hP (ci := 12) (q0 := 0) rfl rfl, fun U hU hW => ⟨rfl, by rw [hU], by rw [hU]; exact hP, va_K.moved hW.alike hK, hD.weaken (fun _ _ _ _ => trivial)⟩⟩ rfl rfl hl.1 rfl (lv_room (Nat.le_of_ble_eq_true rfl)) dX12_init_1062 ⟨hc9, hs9⟩) hS (fun q _ h => hFc q h) hFc (fun u30 t H1 locs ht hvm hwu30 hB hz1 hk1 hS => ?_)
    obtain ⟨hP1, hK1, hD1⟩ := hB
    rw [ht] at hP1
    have hK := va_K.moved hvm.symm hK1
    have hD := hD1.weaken (fun _ _ _ h => hFc _ h)
    have hP := hP1
    clear hP1 hK1 hD1 hFc
    generalize H1 = H at hP hS hz1 hk1 ht ⊢
    have hP : va_P D vwCl (mCl ca h0 ad u30) H := hP
    have hD : va_D A (mCl ca h0 ad u30) := hD
    obtain ⟨n15, hm15, hO15, hG15⟩ := hwu30
    replace hm15 : n15 ≤ 15 := by omega
    have hF15 := mFr_tr hF14 hG15
    clear hF14 hO14 hG15 ht hvm hz1 hk1
    refine lv_aload_n hx hb dX12_init_1065 rfl (lv_at hl 1 rfl) ?_
    refine lv_bipush hx hb dX12_init_1066 (v := 110) rfl ?_
    refine lv_bipush hx hb dX12_init_1068 (v := 111) rfl ?_
    refine lv_bipush hx hb dX12_init_1070 (v := 116) rfl ?_
    refine lv_iconst hx hb dX12_init_1072 (v := 0) rfl ?_
    refine lv_iconst hx hb dX12_init_1073 (v := 0) rfl ?_
    refine lv_iconst hx hb dX12_init_1074 (v := 0) rfl ?_
    refine lv_iconst hx hb dX12_init_1075 (v := 0) rfl ?_
    refine lv_iconst hx hb dX12_init_1076 (v := 0) rfl ?_
    have hFc := pl_free hD hS hA
    refine va_callv (va_runV (As := [.int (110), .int (111), .int (116), .int (0), .int (0), .int (0), .int (0), .int (0)]) (rest := []) ⟨hx, hb, hml, hown, hts⟩ (c_m_said l D ca h0 H.size ad u30 (110) (111) (116) (0) (0) (0) (0) (0) n15 (by omega) hO15) (cwV 8 hts gX12_init_X12_said rfl rfl rfl (by decide +kernel) ⟨Nat.le_of_ble_eq_true rfl, Nat.le_of_ble_eq_true rfl⟩) ⟨fun a U g mk q => by obtain ⟨q0, q1, qP, qK, qD⟩ := q; exact ⟨q0, q1, qP, va_K.moved (u := U) (U := U.calling g mk a) (Vm.Alike.refl U.vm) qK, qD⟩, va_recv hK hP (ci := 12) (q0 := 0) rfl rfl, fun U hU hW => ⟨rfl, by rw [hU], by rw [hU]; exact hP, va_K.moved hW.alike hK, hD.weaken (fun _ _ _ _ => trivial)⟩⟩ rfl rfl hl.1 rfl (lv_room (Nat.le_of_ble_eq_true rfl)) dX12_init_1077 ⟨hc9, hs9⟩) hS (fun q _ h => hFc q h) hFc (fun u32 t H1 locs ht hvm hwu32 hB hz1 hk1 hS => ?_)
    obtain ⟨hP1, hK1, hD1⟩ := hB
    rw [ht] at hP1
    have hK := va_K.moved hvm.symm hK1
    have hD := hD1.weaken (fun _ _ _ h => hFc _ h)
    have hP := hP1
    clear hP1 hK1 hD1 hFc
    generalize H1 = H at hP hS hz1 hk1 ht ⊢
    have hP : va_P D vwCl (mCl ca h0 ad u32) H := hP
    have hD : va_D A (mCl ca h0 ad u32) := hD
    obtain ⟨n16, hm16, hO16, hG16⟩ := hwu32
    replace hm16 : n16 ≤ 16 := by omega
    have hF16 := mFr_tr hF15 hG16
    clear hF15 hO15 hG16 ht hvm hz1 hk1
    refine lv_aload_n hx hb dX12_init_1080 rfl (lv_at hl 1 rfl) ?_
    refine lv_bipush hx hb dX12_init_1081 (v := 104) rfl ?_
    refine lv_bipush hx hb dX12_init_1083 (v := 101) rfl ?_
    refine lv_bipush hx hb dX12_init_1085 (v := 105) rfl ?_
    refine lv_bipush hx hb dX12_init_1087 (v := 103) rfl ?_
    refine lv_bipush hx hb dX12_init_1089 (v := 104) rfl ?_
    refine lv_bipush hx hb dX12_init_1091 (v := 116) rfl ?_
    refine lv_iconst hx hb dX12_init_1093 (v := 0) rfl ?_
    refine lv_iconst hx hb dX12_init_1094 (v := 0) rfl ?_
    have hFc := pl_free hD hS hA
    refine va_callv (va_runV (As := [.int (104), .int (101), .int (105), .int (103), .int (104), .int (116), .int (0), .int (0)]) (rest := []) ⟨hx, hb, hml, hown, hts⟩ (c_m_said l D ca h0 H.size ad u32 (104) (101) (105) (103) (104) (116) (0) (0) n16 (by omega) hO16) (cwV 8 hts gX12_init_X12_said rfl rfl rfl (by decide +kernel) ⟨Nat.le_of_ble_eq_true rfl, Nat.le_of_ble_eq_true rfl⟩) ⟨fun a U g mk q => by obtain ⟨q0, q1, qP, qK, qD⟩ := q; exact ⟨q0, q1, qP, va_K.moved (u := U) (U := U.calling g mk a) (Vm.Alike.refl U.vm) qK, qD⟩, va_recv hK hP (ci := 12) (q0 := 0) rfl rfl, fun U hU hW => ⟨rfl, by rw [hU], by rw [hU]; exact hP, va_K.moved hW.alike hK, hD.weaken (fun _ _ _ _ => trivial)⟩⟩ rfl rfl hl.1 rfl (lv_room (Nat.le_of_ble_eq_true rfl)) dX12_init_1095 ⟨hc9, hs9⟩) hS (fun q _ h => hFc q h) hFc (fun u34 t H1 locs ht hvm hwu34 hB hz1 hk1 hS => ?_)
    obtain ⟨hP1, hK1, hD1⟩ := hB
    rw [ht] at hP1
    have hK := va_K.moved hvm.symm hK1
    have hD := hD1.weaken (fun _ _ _ h => hFc _ h)
    have hP := hP1
    clear hP1 hK1 hD1 hFc
    generalize H1 = H at hP hS hz1 hk1 ht ⊢
    have hP : va_P D vwCl (mCl ca h0 ad u34) H := hP
    have hD : va_D A (mCl ca h0 ad u34) := hD
    obtain ⟨n17, hm17, hO17, hG17⟩ := hwu34
    replace hm17 : n17 ≤ 17 := by omega
    have hF17 := mFr_tr hF16 hG17
    clear hF16 hO16 hG17 ht hvm hz1 hk1
    refine lv_aload_n hx hb dX12_init_1098 rfl (lv_at hl 1 rfl) ?_
    refine lv_bipush hx hb dX12_init_1099 (v := 100) rfl ?_
    refine lv_bipush hx hb dX12_init_1101 (v := 101) rfl ?_
    refine lv_bipush hx hb dX12_init_1103 (v := 102) rfl ?_
    refine lv_bipush hx hb dX12_init_1105 (v := 117) rfl ?_
    refine lv_bipush hx hb dX12_init_1107 (v := 110) rfl ?_
    refine lv_iconst hx hb dX12_init_1109 (v := 0) rfl ?_
    refine lv_iconst hx hb dX12_init_1110 (v := 0) rfl ?_
    refine lv_iconst hx hb dX12_init_1111 (v := 0) rfl ?_
    have hFc := pl_free hD hS hA
    refine va_callv (va_runV (As := [.int (100), .int (101), .int (102), .int (117), .int (110), .int (0), .int (0), .int (0)]) (rest := []) ⟨hx, hb, hml, hown, hts⟩ (c_m_said l D ca h0 H.size ad u34 (100) (101) (102) (117) (110) (0) (0) (0) n17 (by omega) hO17) (cwV 8 hts gX12_init_X12_said rfl rfl rfl (by decide +kernel) ⟨Nat.le_of_ble_eq_true rfl, Nat.le_of_ble_eq_true rfl⟩) ⟨fun a U g mk q => by obtain ⟨q0, q1, qP, qK, qD⟩ := q; exact ⟨q0, q1, qP, va_K.moved (u := U) (U := U.calling g mk a) (Vm.Alike.refl U.vm) qK, qD⟩, va_recv hK hP (ci := 12) (q0 := 0) rfl rfl, fun U hU hW => ⟨rfl, by rw [hU], by rw [hU]; exact hP, va_K.moved hW.alike hK, hD.weaken (fun _ _ _ _ => trivial)⟩⟩ rfl rfl hl.1 rfl (lv_room (Nat.le_of_ble_eq_true rfl)) dX12_init_1112 ⟨hc9, hs9⟩) hS (fun q _ h => hFc q h) hFc (fun u36 t H1 locs ht hvm hwu36 hB hz1 hk1 hS => ?_)
    obtain ⟨hP1, hK1, hD1⟩ := hB
    rw [ht] at hP1
    have hK := va_K.moved hvm.symm hK1
    have hD := hD1.weaken (fun _ _ _ h => hFc _ h)
    have hP := hP1
    clear hP1 hK1 hD1 hFc
    generalize H1 = H at hP hS hz1 hk1 ht ⊢
    have hP : va_P D vwCl (mCl ca h0 ad u36) H := hP
    have hD : va_D A (mCl ca h0 ad u36) := hD
    obtain ⟨n18, hm18, hO18, hG18⟩ := hwu36
    replace hm18 : n18 ≤ 18 := by omega
    have hF18 := mFr_tr hF17 hG18
    clear hF17 hO17 hG18 ht hvm hz1 hk1
    refine lv_aload_n hx hb dX12_init_1115 rfl (lv_at hl 1 rfl) ?_
    refine lv_bipush hx hb dX12_init_1116 (v := 116) rfl ?_
    refine lv_bipush hx hb dX12_init_1118 (v := 104) rfl ?_
    refine lv_bipush hx hb dX12_init_1120 (v := 101) rfl ?_
    refine lv_bipush hx hb dX12_init_1122 (v := 111) rfl ?_
    refine lv_bipush hx hb dX12_init_1124 (v := 114) rfl ?_
    refine lv_bipush hx hb dX12_init_1126 (v := 101) rfl ?_
    refine lv_bipush hx hb dX12_init_1128 (v := 109) rfl ?_
    refine lv_iconst hx hb dX12_init_1130 (v := 0) rfl ?_
    have hFc := pl_free hD hS hA
    refine va_callv (va_runV (As := [.int (116), .int (104), .int (101), .int (111), .int (114), .int (101), .int (109), .int (0)]) (rest := []) ⟨hx, hb, hml, hown, hts⟩ (c_m_said l D ca h0 H.size ad u36 (116) (104) (101) (111) (114) (101) (109) (0) n18 (by omega) hO18) (cwV 8 hts gX12_init_X12_said rfl rfl rfl (by decide +kernel) ⟨Nat.le_of_ble_eq_true rfl, Nat.le_of_ble_eq_true rfl⟩) ⟨fun a U g mk q => by obtain ⟨q0, q1, qP, qK, qD⟩ := q; exact ⟨q0, q1, qP, va_K.moved (u := U) (U := U.calling g mk a) (Vm.Alike.refl U.vm) qK, qD⟩, va_recv hK hP (ci := 12) (q0 := 0) rfl rfl, fun U hU hW => ⟨rfl, by rw [hU], by rw [hU]; exact hP, va_K.moved hW.alike hK, hD.weaken (fun _ _ _ _ => trivial)⟩⟩ rfl rfl hl.1 rfl (lv_room (Nat.le_of_ble_eq_true rfl)) dX12_init_1131 ⟨hc9, hs9⟩) hS (fun q _ h => hFc q h) hFc (fun u38 t H1 locs ht hvm hwu38 hB hz1 hk1 hS => ?_)
    obtain ⟨hP1, hK1, hD1⟩ := hB
    rw [ht] at hP1
    have hK := va_K.moved hvm.symm hK1
    have hD := hD1.weaken (fun _ _ _ h => hFc _ h)
    have hP := hP1
    clear hP1 hK1 hD1 hFc
    generalize H1 = H at hP hS hz1 hk1 ht ⊢
    have hP : va_P D vwCl (mCl ca h0 ad u38) H := hP
    have hD : va_D A (mCl ca h0 ad u38) := hD
    obtain ⟨n19, hm19, hO19, hG19⟩ := hwu38
    replace hm19 : n19 ≤ 19 := by omega
    have hF19 := mFr_tr hF18 hG19
    clear hF18 hO18 hG19 ht hvm hz1 hk1
    refine lv_aload_n hx hb dX12_init_1134 rfl (lv_at hl 1 rfl) ?_
    refine lv_bipush hx hb dX12_init_1135 (v := 101) rfl ?_
    refine lv_bipush hx hb dX12_init_1137 (v := 118) rfl ?_
    refine lv_bipush hx hb dX12_init_1139 (v := 97) rfl ?_
    refine lv_bipush hx hb dX12_init_1141 (v := 108) rfl ?_
    refine lv_iconst hx hb dX12_init_1143 (v := 0) rfl ?_
    refine lv_iconst hx hb dX12_init_1144 (v := 0) rfl ?_
    refine lv_iconst hx hb dX12_init_1145 (v := 0) rfl ?_
    refine lv_iconst hx hb dX12_init_1146 (v := 0) rfl ?_
    have hFc := pl_free hD hS hA
    refine va_callv (va_runV (As := [.int (101), .int (118), .int (97), .int (108), .int (0), .int (0), .int (0), .int (0)]) (rest := []) ⟨hx, hb, hml, hown, hts⟩ (c_m_said l D ca h0 H.size ad u38 (101) (118) (97) (108) (0) (0) (0) (0) n19 (by omega) hO19) (cwV 8 hts gX12_init_X12_said rfl rfl rfl (by decide +kernel) ⟨Nat.le_of_ble_eq_true rfl, Nat.le_of_ble_eq_true rfl⟩) ⟨fun a U g mk q => by obtain ⟨q0, q1, qP, qK, qD⟩ := q; exact ⟨q0, q1, qP, va_K.moved (u := U) (U := U.calling g mk a) (Vm.Alike.refl U.vm) qK, qD⟩, va_recv hK hP (ci := 12) (q0 := 0) rfl rfl, fun U hU hW => ⟨rfl, by rw [hU], by rw [hU]; exact hP, va_K.moved hW.alike hK, hD.weaken (fun _ _ _ _ => trivial)⟩⟩ rfl rfl hl.1 rfl (lv_room (Nat.le_of_ble_eq_true rfl)) dX12_init_1147 ⟨hc9, hs9⟩) hS (fun q _ h => hFc q h) hFc (fun u40 t H1 locs ht hvm hwu40 hB hz1 hk1 hS => ?_)
    obtain ⟨hP1, hK1, hD1⟩ := hB
    rw [ht] at hP1
    have hK := va_K.moved hvm.symm hK1
    have hD := hD1.weaken (fun _ _ _ h => hFc _ h)
    have hP := hP1
    clear hP1 hK1 hD1 hFc
    generalize H1 = H at hP hS hz1 hk1 ht ⊢
    have hP : va_P D vwCl (mCl ca h0 ad u40) H := hP
    have hD : va_D A (mCl ca h0 ad u40) := hD
    obtain ⟨n20, hm20, hO20, hG20⟩ := hwu40
    replace hm20 : n20 ≤ 20 := by omega
    have hF20 := mFr_tr hF19 hG20
    clear hF19 hO19 hG20 ht hvm hz1 hk1
    refine lv_aload_n hx hb dX12_init_1150 rfl (lv_at hl 1 rfl) ?_
    refine lv_bipush hx hb dX12_init_1151 (v := 115) rfl ?_
    refine lv_bipush hx hb dX12_init_1153 (v := 105) rfl ?_
    refine lv_bipush hx hb dX12_init_1155 (v := 109) rfl ?_
    refine lv_bipush hx hb dX12_init_1157 (v := 112) rfl ?_
    refine lv_bipush hx hb dX12_init_1159 (v := 108) rfl ?_
    refine lv_bipush hx hb dX12_init_1161 (v := 105) rfl ?_
    refine lv_bipush hx hb dX12_init_1163 (v := 102) rfl ?_
    refine lv_bipush hx hb dX12_init_1165 (v := 121) rfl ?_
    have hFc := pl_free hD hS hA
    refine va_callv (va_runV (As := [.int (115), .int (105), .int (109), .int (112), .int (108), .int (105), .int (102), .int (121)]) (rest := []) ⟨hx, hb, hml, hown, hts⟩ (c_m_said l D ca h0 H.size ad u40 (115) (105) (109) (112) (108) (105) (102) (121) n20 (by omega) hO20) (cwV 8 hts gX12_init_X12_said rfl rfl rfl (by decide +kernel) ⟨Nat.le_of_ble_eq_true rfl, Nat.le_of_ble_eq_true rfl⟩) ⟨fun a U g mk q => by obtain ⟨q0, q1, qP, qK, qD⟩ := q; exact ⟨q0, q1, qP, va_K.moved (u := U) (U := U.calling g mk a) (Vm.Alike.refl U.vm) qK, qD⟩, va_recv hK hP (ci := 12) (q0 := 0) rfl rfl, fun U hU hW => ⟨rfl, by rw [hU], by rw [hU]; exact hP, va_K.moved hW.alike hK, hD.weaken (fun _ _ _ _ => trivial)⟩⟩ rfl rfl hl.1 rfl (lv_room (Nat.le_of_ble_eq_true rfl)) dX12_init_1167 ⟨hc9, hs9⟩) hS (fun q _ h => hFc q h) hFc (fun u42 t H1 locs ht hvm hwu42 hB hz1 hk1 hS => ?_)
    obtain ⟨hP1, hK1, hD1⟩ := hB
    rw [ht] at hP1
    have hK := va_K.moved hvm.symm hK1
    have hD := hD1.weaken (fun _ _ _ h => hFc _ h)
    have hP := hP1
    clear hP1 hK1 hD1 hFc
    generalize H1 = H at hP hS hz1 hk1 ht ⊢
    have hP : va_P D vwCl (mCl ca h0 ad u42) H := hP
    have hD : va_D A (mCl ca h0 ad u42) := hD
    obtain ⟨n21, hm21, hO21, hG21⟩ := hwu42
    replace hm21 : n21 ≤ 21 := by omega
    have hF21 := mFr_tr hF20 hG21
    clear hF20 hO20 hG21 ht hvm hz1 hk1
    refine lv_aload_n hx hb dX12_init_1170 rfl (lv_at hl 1 rfl) ?_
    refine lv_bipush hx hb dX12_init_1171 (v := 112) rfl ?_
    refine lv_bipush hx hb dX12_init_1173 (v := 114) rfl ?_
    refine lv_bipush hx hb dX12_init_1175 (v := 111) rfl ?_
    refine lv_bipush hx hb dX12_init_1177 (v := 118) rfl ?_
    refine lv_bipush hx hb dX12_init_1179 (v := 101) rfl ?_
    refine lv_iconst hx hb dX12_init_1181 (v := 0) rfl ?_
    refine lv_iconst hx hb dX12_init_1182 (v := 0) rfl ?_
    refine lv_iconst hx hb dX12_init_1183 (v := 0) rfl ?_
    have hFc := pl_free hD hS hA
    refine va_callv (va_runV (As := [.int (112), .int (114), .int (111), .int (118), .int (101), .int (0), .int (0), .int (0)]) (rest := []) ⟨hx, hb, hml, hown, hts⟩ (c_m_said l D ca h0 H.size ad u42 (112) (114) (111) (118) (101) (0) (0) (0) n21 (by omega) hO21) (cwV 8 hts gX12_init_X12_said rfl rfl rfl (by decide +kernel) ⟨Nat.le_of_ble_eq_true rfl, Nat.le_of_ble_eq_true rfl⟩) ⟨fun a U g mk q => by obtain ⟨q0, q1, qP, qK, qD⟩ := q; exact ⟨q0, q1, qP, va_K.moved (u := U) (U := U.calling g mk a) (Vm.Alike.refl U.vm) qK, qD⟩, va_recv hK hP (ci := 12) (q0 := 0) rfl rfl, fun U hU hW => ⟨rfl, by rw [hU], by rw [hU]; exact hP, va_K.moved hW.alike hK, hD.weaken (fun _ _ _ _ => trivial)⟩⟩ rfl rfl hl.1 rfl (lv_room (Nat.le_of_ble_eq_true rfl)) dX12_init_1184 ⟨hc9, hs9⟩) hS (fun q _ h => hFc q h) hFc (fun u44 t H1 locs ht hvm hwu44 hB hz1 hk1 hS => ?_)
    obtain ⟨hP1, hK1, hD1⟩ := hB
    rw [ht] at hP1
    have hK := va_K.moved hvm.symm hK1
    have hD := hD1.weaken (fun _ _ _ h => hFc _ h)
    have hP := hP1
    clear hP1 hK1 hD1 hFc
    generalize H1 = H at hP hS hz1 hk1 ht ⊢
    have hP : va_P D vwCl (mCl ca h0 ad u44) H := hP
    have hD : va_D A (mCl ca h0 ad u44) := hD
    obtain ⟨n22, hm22, hO22, hG22⟩ := hwu44
    replace hm22 : n22 ≤ 22 := by omega
    have hF22 := mFr_tr hF21 hG22
    clear hF21 hO21 hG22 ht hvm hz1 hk1
    refine lv_aload_n hx hb dX12_init_1187 rfl (lv_at hl 1 rfl) ?_
    refine lv_bipush hx hb dX12_init_1188 (v := 100) rfl ?_
    refine lv_bipush hx hb dX12_init_1190 (v := 101) rfl ?_
    refine lv_bipush hx hb dX12_init_1192 (v := 102) rfl ?_
    refine lv_bipush hx hb dX12_init_1194 (v := 116) rfl ?_
    refine lv_bipush hx hb dX12_init_1196 (v := 104) rfl ?_
    refine lv_bipush hx hb dX12_init_1198 (v := 109) rfl ?_
    refine lv_iconst hx hb dX12_init_1200 (v := 0) rfl ?_
    refine lv_iconst hx hb dX12_init_1201 (v := 0) rfl ?_
    have hFc := pl_free hD hS hA
    refine va_callv (va_runV (As := [.int (100), .int (101), .int (102), .int (116), .int (104), .int (109), .int (0), .int (0)]) (rest := []) ⟨hx, hb, hml, hown, hts⟩ (c_m_said l D ca h0 H.size ad u44 (100) (101) (102) (116) (104) (109) (0) (0) n22 (by omega) hO22) (cwV 8 hts gX12_init_X12_said rfl rfl rfl (by decide +kernel) ⟨Nat.le_of_ble_eq_true rfl, Nat.le_of_ble_eq_true rfl⟩) ⟨fun a U g mk q => by obtain ⟨q0, q1, qP, qK, qD⟩ := q; exact ⟨q0, q1, qP, va_K.moved (u := U) (U := U.calling g mk a) (Vm.Alike.refl U.vm) qK, qD⟩, va_recv hK hP (ci := 12) (q0 := 0) rfl rfl, fun U hU hW => ⟨rfl, by rw [hU], by rw [hU]; exact hP, va_K.moved hW.alike hK, hD.weaken (fun _ _ _ _ => trivial)⟩⟩ rfl rfl hl.1 rfl (lv_room (Nat.le_of_ble_eq_true rfl)) dX12_init_1202 ⟨hc9, hs9⟩) hS (fun q _ h => hFc q h) hFc (fun u46 t H1 locs ht hvm hwu46 hB hz1 hk1 hS => ?_)
    obtain ⟨hP1, hK1, hD1⟩ := hB
    rw [ht] at hP1
    have hK := va_K.moved hvm.symm hK1
    have hD := hD1.weaken (fun _ _ _ h => hFc _ h)
    have hP := hP1
    clear hP1 hK1 hD1 hFc
    generalize H1 = H at hP hS hz1 hk1 ht ⊢
    have hP : va_P D vwCl (mCl ca h0 ad u46) H := hP
    have hD : va_D A (mCl ca h0 ad u46) := hD
    obtain ⟨n23, hm23, hO23, hG23⟩ := hwu46
    replace hm23 : n23 ≤ 23 := by omega
    have hF23 := mFr_tr hF22 hG23
    clear hF22 hO22 hG23 ht hvm hz1 hk1
    refine lv_aload_n hx hb dX12_init_1205 rfl (lv_at hl 1 rfl) ?_
    refine lv_bipush hx hb dX12_init_1206 (v := 111) rfl ?_
    refine lv_bipush hx hb dX12_init_1208 (v := 110) rfl ?_
    refine lv_iconst hx hb dX12_init_1210 (v := 0) rfl ?_
    refine lv_iconst hx hb dX12_init_1211 (v := 0) rfl ?_
    refine lv_iconst hx hb dX12_init_1212 (v := 0) rfl ?_
    refine lv_iconst hx hb dX12_init_1213 (v := 0) rfl ?_
    refine lv_iconst hx hb dX12_init_1214 (v := 0) rfl ?_
    refine lv_iconst hx hb dX12_init_1215 (v := 0) rfl ?_
    have hFc := pl_free hD hS hA
    refine va_callv (va_runV (As := [.int (111), .int (110), .int (0), .int (0), .int (0), .int (0), .int (0), .int (0)]) (rest := []) ⟨hx, hb, hml, hown, hts⟩ (c_m_said l D ca h0 H.size ad u46 (111) (110) (0) (0) (0) (0) (0) (0) n23 (by omega) hO23) (cwV 8 hts gX12_init_X12_said rfl rfl rfl (by decide +kernel) ⟨Nat.le_of_ble_eq_true rfl, Nat.le_of_ble_eq_true rfl⟩) ⟨fun a U g mk q => by obtain ⟨q0, q1, qP, qK, qD⟩ := q; exact ⟨q0, q1, qP, va_K.moved (u := U) (U := U.calling g mk a) (Vm.Alike.refl U.vm) qK, qD⟩, va_recv hK hP (ci := 12) (q0 := 0) rfl rfl, fun U hU hW => ⟨rfl, by rw [hU], by rw [hU]; exact hP, va_K.moved hW.alike hK, hD.weaken (fun _ _ _ _ => trivial)⟩⟩ rfl rfl hl.1 rfl (lv_room (Nat.le_of_ble_eq_true rfl)) dX12_init_1216 ⟨hc9, hs9⟩) hS (fun q _ h => hFc q h) hFc (fun u48 t H1 locs ht hvm hwu48 hB hz1 hk1 hS => ?_)
    obtain ⟨hP1, hK1, hD1⟩ := hB
    rw [ht] at hP1
    have hK := va_K.moved hvm.symm hK1
    have hD := hD1.weaken (fun _ _ _ h => hFc _ h)
    have hP := hP1
    clear hP1 hK1 hD1 hFc
    generalize H1 = H at hP hS hz1 hk1 ht ⊢
    have hP : va_P D vwCl (mCl ca h0 ad u48) H := hP
    have hD : va_D A (mCl ca h0 ad u48) := hD
    obtain ⟨n24, hm24, hO24, hG24⟩ := hwu48
    replace hm24 : n24 ≤ 24 := by omega
    have hF24 := mFr_tr hF23 hG24
    clear hF23 hO23 hG24 ht hvm hz1 hk1
    refine lv_aload_n hx hb dX12_init_1219 rfl (lv_at hl 1 rfl) ?_
    refine lv_bipush hx hb dX12_init_1220 (v := 111) rfl ?_
    refine lv_bipush hx hb dX12_init_1222 (v := 102) rfl ?_
    refine lv_bipush hx hb dX12_init_1224 (v := 102) rfl ?_
    refine lv_iconst hx hb dX12_init_1226 (v := 0) rfl ?_
    refine lv_iconst hx hb dX12_init_1227 (v := 0) rfl ?_
    refine lv_iconst hx hb dX12_init_1228 (v := 0) rfl ?_
    refine lv_iconst hx hb dX12_init_1229 (v := 0) rfl ?_
    refine lv_iconst hx hb dX12_init_1230 (v := 0) rfl ?_
    have hFc := pl_free hD hS hA
    refine va_callv (va_runV (As := [.int (111), .int (102), .int (102), .int (0), .int (0), .int (0), .int (0), .int (0)]) (rest := []) ⟨hx, hb, hml, hown, hts⟩ (c_m_said l D ca h0 H.size ad u48 (111) (102) (102) (0) (0) (0) (0) (0) n24 (by omega) hO24) (cwV 8 hts gX12_init_X12_said rfl rfl rfl (by decide +kernel) ⟨Nat.le_of_ble_eq_true rfl, Nat.le_of_ble_eq_true rfl⟩) ⟨fun a U g mk q => by obtain ⟨q0, q1, qP, qK, qD⟩ := q; exact ⟨q0, q1, qP, va_K.moved (u := U) (U := U.calling g mk a) (Vm.Alike.refl U.vm) qK, qD⟩, va_recv hK hP (ci := 12) (q0 := 0) rfl rfl, fun U hU hW => ⟨rfl, by rw [hU], by rw [hU]; exact hP, va_K.moved hW.alike hK, hD.weaken (fun _ _ _ _ => trivial)⟩⟩ rfl rfl hl.1 rfl (lv_room (Nat.le_of_ble_eq_true rfl)) dX12_init_1231 ⟨hc9, hs9⟩) hS (fun q _ h => hFc q h) hFc (fun u50 t H1 locs ht hvm hwu50 hB hz1 hk1 hS => ?_)
    obtain ⟨hP1, hK1, hD1⟩ := hB
    rw [ht] at hP1
    have hK := va_K.moved hvm.symm hK1
    have hD := hD1.weaken (fun _ _ _ h => hFc _ h)
    have hP := hP1
    clear hP1 hK1 hD1 hFc
    generalize H1 = H at hP hS hz1 hk1 ht ⊢
    have hP : va_P D vwCl (mCl ca h0 ad u50) H := hP
    have hD : va_D A (mCl ca h0 ad u50) := hD
    obtain ⟨n25, hm25, hO25, hG25⟩ := hwu50
    replace hm25 : n25 ≤ 25 := by omega
    have hF25 := mFr_tr hF24 hG25
    clear hF24 hO24 hG25 ht hvm hz1 hk1
    refine lv_aload_n hx hb dX12_init_1234 rfl (lv_at hl 1 rfl) ?_
    refine lv_bipush hx hb dX12_init_1235 (v := 117) rfl ?_
    refine lv_bipush hx hb dX12_init_1237 (v := 110) rfl ?_
    refine lv_bipush hx hb dX12_init_1239 (v := 100) rfl ?_
    refine lv_bipush hx hb dX12_init_1241 (v := 111) rfl ?_
    refine lv_iconst hx hb dX12_init_1243 (v := 0) rfl ?_
    refine lv_iconst hx hb dX12_init_1244 (v := 0) rfl ?_
    refine lv_iconst hx hb dX12_init_1245 (v := 0) rfl ?_
    refine lv_iconst hx hb dX12_init_1246 (v := 0) rfl ?_
    have hFc := pl_free hD hS hA
    refine va_callv (va_runV (As := [.int (117), .int (110), .int (100), .int (111), .int (0), .int (0), .int (0), .int (0)]) (rest := []) ⟨hx, hb, hml, hown, hts⟩ (c_m_said l D ca h0 H.size ad u50 (117) (110) (100) (111) (0) (0) (0) (0) n25 (by omega) hO25) (cwV 8 hts gX12_init_X12_said rfl rfl rfl (by decide +kernel) ⟨Nat.le_of_ble_eq_true rfl, Nat.le_of_ble_eq_true rfl⟩) ⟨fun a U g mk q => by obtain ⟨q0, q1, qP, qK, qD⟩ := q; exact ⟨q0, q1, qP, va_K.moved (u := U) (U := U.calling g mk a) (Vm.Alike.refl U.vm) qK, qD⟩, va_recv hK hP (ci := 12) (q0 := 0) rfl rfl, fun U hU hW => ⟨rfl, by rw [hU], by rw [hU]; exact hP, va_K.moved hW.alike hK, hD.weaken (fun _ _ _ _ => trivial)⟩⟩ rfl rfl hl.1 rfl (lv_room (Nat.le_of_ble_eq_true rfl)) dX12_init_1247 ⟨hc9, hs9⟩) hS (fun q _ h => hFc q h) hFc (fun u52 t H1 locs ht hvm hwu52 hB hz1 hk1 hS => ?_)
    obtain ⟨hP1, hK1, hD1⟩ := hB
    rw [ht] at hP1
    have hK := va_K.moved hvm.symm hK1
    have hD := hD1.weaken (fun _ _ _ h => hFc _ h)
    have hP := hP1
    clear hP1 hK1 hD1 hFc
    generalize H1 = H at hP hS hz1 hk1 ht ⊢
    have hP : va_P D vwCl (mCl ca h0 ad u52) H := hP
    have hD : va_D A (mCl ca h0 ad u52) := hD
    obtain ⟨n26, hm26, hO26, hG26⟩ := hwu52
    replace hm26 : n26 ≤ 26 := by omega
    have hF26 := mFr_tr hF25 hG26
    clear hF25 hO25 hG26 ht hvm hz1 hk1
    refine lv_aload_n hx hb dX12_init_1250 rfl (lv_at hl 1 rfl) ?_
    refine lv_bipush hx hb dX12_init_1251 (v := 99) rfl ?_
    refine lv_bipush hx hb dX12_init_1253 (v := 104) rfl ?_
    refine lv_bipush hx hb dX12_init_1255 (v := 101) rfl ?_
    refine lv_bipush hx hb dX12_init_1257 (v := 99) rfl ?_
    refine lv_bipush hx hb dX12_init_1259 (v := 107) rfl ?_
    refine lv_iconst hx hb dX12_init_1261 (v := 0) rfl ?_
    refine lv_iconst hx hb dX12_init_1262 (v := 0) rfl ?_
    refine lv_iconst hx hb dX12_init_1263 (v := 0) rfl ?_
    have hFc := pl_free hD hS hA
    refine va_callv (va_runV (As := [.int (99), .int (104), .int (101), .int (99), .int (107), .int (0), .int (0), .int (0)]) (rest := []) ⟨hx, hb, hml, hown, hts⟩ (c_m_said l D ca h0 H.size ad u52 (99) (104) (101) (99) (107) (0) (0) (0) n26 (by omega) hO26) (cwV 8 hts gX12_init_X12_said rfl rfl rfl (by decide +kernel) ⟨Nat.le_of_ble_eq_true rfl, Nat.le_of_ble_eq_true rfl⟩) ⟨fun a U g mk q => by obtain ⟨q0, q1, qP, qK, qD⟩ := q; exact ⟨q0, q1, qP, va_K.moved (u := U) (U := U.calling g mk a) (Vm.Alike.refl U.vm) qK, qD⟩, va_recv hK hP (ci := 12) (q0 := 0) rfl rfl, fun U hU hW => ⟨rfl, by rw [hU], by rw [hU]; exact hP, va_K.moved hW.alike hK, hD.weaken (fun _ _ _ _ => trivial)⟩⟩ rfl rfl hl.1 rfl (lv_room (Nat.le_of_ble_eq_true rfl)) dX12_init_1264 ⟨hc9, hs9⟩) hS (fun q _ h => hFc q h) hFc (fun u54 t H1 locs ht hvm hwu54 hB hz1 hk1 hS => ?_)
    obtain ⟨hP1, hK1, hD1⟩ := hB
    rw [ht] at hP1
    have hK := va_K.moved hvm.symm hK1
    have hD := hD1.weaken (fun _ _ _ h => hFc _ h)
    have hP := hP1
    clear hP1 hK1 hD1 hFc
    generalize H1 = H at hP hS hz1 hk1 ht ⊢
    have hP : va_P D vwCl (mCl ca h0 ad u54) H := hP
    have hD : va_D A (mCl ca h0 ad u54) := hD
    obtain ⟨n27, hm27, hO27, hG27⟩ := hwu54
    replace hm27 : n27 ≤ 27 := by omega
    have hF27 := mFr_tr hF26 hG27
    clear hF26 hO26 hG27 ht hvm hz1 hk1
    refine lv_aload_n hx hb dX12_init_1267 rfl (lv_at hl 1 rfl) ?_
    refine lv_bipush hx hb dX12_init_1268 (v := 105) rfl ?_
    refine lv_bipush hx hb dX12_init_1270 (v := 110) rfl ?_
    refine lv_bipush hx hb dX12_init_1272 (v := 100) rfl ?_
    refine lv_bipush hx hb dX12_init_1274 (v := 117) rfl ?_
    refine lv_bipush hx hb dX12_init_1276 (v := 99) rfl ?_
    refine lv_bipush hx hb dX12_init_1278 (v := 116) rfl ?_
    refine lv_iconst hx hb dX12_init_1280 (v := 0) rfl ?_
    refine lv_iconst hx hb dX12_init_1281 (v := 0) rfl ?_
    have hFc := pl_free hD hS hA
    refine va_callv (va_runV (As := [.int (105), .int (110), .int (100), .int (117), .int (99), .int (116), .int (0), .int (0)]) (rest := []) ⟨hx, hb, hml, hown, hts⟩ (c_m_said l D ca h0 H.size ad u54 (105) (110) (100) (117) (99) (116) (0) (0) n27 (by omega) hO27) (cwV 8 hts gX12_init_X12_said rfl rfl rfl (by decide +kernel) ⟨Nat.le_of_ble_eq_true rfl, Nat.le_of_ble_eq_true rfl⟩) ⟨fun a U g mk q => by obtain ⟨q0, q1, qP, qK, qD⟩ := q; exact ⟨q0, q1, qP, va_K.moved (u := U) (U := U.calling g mk a) (Vm.Alike.refl U.vm) qK, qD⟩, va_recv hK hP (ci := 12) (q0 := 0) rfl rfl, fun U hU hW => ⟨rfl, by rw [hU], by rw [hU]; exact hP, va_K.moved hW.alike hK, hD.weaken (fun _ _ _ _ => trivial)⟩⟩ rfl rfl hl.1 rfl (lv_room (Nat.le_of_ble_eq_true rfl)) dX12_init_1282 ⟨hc9, hs9⟩) hS (fun q _ h => hFc q h) hFc (fun u56 t H1 locs ht hvm hwu56 hB hz1 hk1 hS => ?_)
    obtain ⟨hP1, hK1, hD1⟩ := hB
    rw [ht] at hP1
    have hK := va_K.moved hvm.symm hK1
    have hD := hD1.weaken (fun _ _ _ h => hFc _ h)
    have hP := hP1
    clear hP1 hK1 hD1 hFc
    generalize H1 = H at hP hS hz1 hk1 ht ⊢
    have hP : va_P D vwCl (mCl ca h0 ad u56) H := hP
    have hD : va_D A (mCl ca h0 ad u56) := hD
    obtain ⟨n28, hm28, hO28, hG28⟩ := hwu56
    replace hm28 : n28 ≤ 28 := by omega
    have hF28 := mFr_tr hF27 hG28
    clear hF27 hO27 hG28 ht hvm hz1 hk1
    refine lv_aload_n hx hb dX12_init_1285 rfl (lv_at hl 1 rfl) ?_
    refine lv_bipush hx hb dX12_init_1286 (v := 117) rfl ?_
    refine lv_bipush hx hb dX12_init_1288 (v := 115) rfl ?_
    refine lv_bipush hx hb dX12_init_1290 (v := 101) rfl ?_
    refine lv_iconst hx hb dX12_init_1292 (v := 0) rfl ?_
    refine lv_iconst hx hb dX12_init_1293 (v := 0) rfl ?_
    refine lv_iconst hx hb dX12_init_1294 (v := 0) rfl ?_
    refine lv_iconst hx hb dX12_init_1295 (v := 0) rfl ?_
    refine lv_iconst hx hb dX12_init_1296 (v := 0) rfl ?_
    have hFc := pl_free hD hS hA
    refine va_callv (va_runV (As := [.int (117), .int (115), .int (101), .int (0), .int (0), .int (0), .int (0), .int (0)]) (rest := []) ⟨hx, hb, hml, hown, hts⟩ (c_m_said l D ca h0 H.size ad u56 (117) (115) (101) (0) (0) (0) (0) (0) n28 (by omega) hO28) (cwV 8 hts gX12_init_X12_said rfl rfl rfl (by decide +kernel) ⟨Nat.le_of_ble_eq_true rfl, Nat.le_of_ble_eq_true rfl⟩) ⟨fun a U g mk q => by obtain ⟨q0, q1, qP, qK, qD⟩ := q; exact ⟨q0, q1, qP, va_K.moved (u := U) (U := U.calling g mk a) (Vm.Alike.refl U.vm) qK, qD⟩, va_recv hK hP (ci := 12) (q0 := 0) rfl rfl, fun U hU hW => ⟨rfl, by rw [hU], by rw [hU]; exact hP, va_K.moved hW.alike hK, hD.weaken (fun _ _ _ _ => trivial)⟩⟩ rfl rfl hl.1 rfl (lv_room (Nat.le_of_ble_eq_true rfl)) dX12_init_1297 ⟨hc9, hs9⟩) hS (fun q _ h => hFc q h) hFc (fun u58 t H1 locs ht hvm hwu58 hB hz1 hk1 hS => ?_)
    obtain ⟨hP1, hK1, hD1⟩ := hB
    rw [ht] at hP1
    have hK := va_K.moved hvm.symm hK1
    have hD := hD1.weaken (fun _ _ _ h => hFc _ h)
    have hP := hP1
    clear hP1 hK1 hD1 hFc
    generalize H1 = H at hP hS hz1 hk1 ht ⊢
    have hP : va_P D vwCl (mCl ca h0 ad u58) H := hP
    have hD : va_D A (mCl ca h0 ad u58) := hD
    obtain ⟨n29, hm29, hO29, hG29⟩ := hwu58
    replace hm29 : n29 ≤ 29 := by omega
    have hF29 := mFr_tr hF28 hG29
    clear hF28 hO28 hG29 ht hvm hz1 hk1
    refine lv_aload_n hx hb dX12_init_1300 rfl (lv_at hl 1 rfl) ?_
    refine lv_bipush hx hb dX12_init_1301 (v := 116) rfl ?_
    refine lv_bipush hx hb dX12_init_1303 (v := 97) rfl ?_
    refine lv_bipush hx hb dX12_init_1305 (v := 117) rfl ?_
    refine lv_bipush hx hb dX12_init_1307 (v := 116) rfl ?_
    refine lv_iconst hx hb dX12_init_1309 (v := 0) rfl ?_
    refine lv_iconst hx hb dX12_init_1310 (v := 0) rfl ?_
    refine lv_iconst hx hb dX12_init_1311 (v := 0) rfl ?_
    refine lv_iconst hx hb dX12_init_1312 (v := 0) rfl ?_
    have hFc := pl_free hD hS hA
    refine va_callv (va_runV (As := [.int (116), .int (97), .int (117), .int (116), .int (0), .int (0), .int (0), .int (0)]) (rest := []) ⟨hx, hb, hml, hown, hts⟩ (c_m_said l D ca h0 H.size ad u58 (116) (97) (117) (116) (0) (0) (0) (0) n29 (by omega) hO29) (cwV 8 hts gX12_init_X12_said rfl rfl rfl (by decide +kernel) ⟨Nat.le_of_ble_eq_true rfl, Nat.le_of_ble_eq_true rfl⟩) ⟨fun a U g mk q => by obtain ⟨q0, q1, qP, qK, qD⟩ := q; exact ⟨q0, q1, qP, va_K.moved (u := U) (U := U.calling g mk a) (Vm.Alike.refl U.vm) qK, qD⟩, va_recv hK hP (ci := 12) (q0 := 0) rfl rfl, fun U hU hW => ⟨rfl, by rw [hU], by rw [hU]; exact hP, va_K.moved hW.alike hK, hD.weaken (fun _ _ _ _ => trivial)⟩⟩ rfl rfl hl.1 rfl (lv_room (Nat.le_of_ble_eq_true rfl)) dX12_init_1313 ⟨hc9, hs9⟩) hS (fun q _ h => hFc q h) hFc (fun u60 t H1 locs ht hvm hwu60 hB hz1 hk1 hS => ?_)
    obtain ⟨hP1, hK1, hD1⟩ := hB
    rw [ht] at hP1
    have hK := va_K.moved hvm.symm hK1
    have hD := hD1.weaken (fun _ _ _ h => hFc _ h)
    have hP := hP1
    clear hP1 hK1 hD1 hFc
    generalize H1 = H at hP hS hz1 hk1 ht ⊢
    have hP : va_P D vwCl (mCl ca h0 ad u60) H := hP
    have hD : va_D A (mCl ca h0 ad u60) := hD
    obtain ⟨n30, hm30, hO30, hG30⟩ := hwu60
    replace hm30 : n30 ≤ 30 := by omega
    have hF30 := mFr_tr hF29 hG30
    clear hF29 hO29 hG30 ht hvm hz1 hk1
    refine lv_aload_n hx hb dX12_init_1316 rfl (lv_at hl 1 rfl) ?_
    refine lv_bipush hx hb dX12_init_1317 (v := 115) rfl ?_
    refine lv_bipush hx hb dX12_init_1319 (v := 97) rfl ?_
    refine lv_bipush hx hb dX12_init_1321 (v := 109) rfl ?_
    refine lv_bipush hx hb dX12_init_1323 (v := 101) rfl ?_
    refine lv_iconst hx hb dX12_init_1325 (v := 0) rfl ?_
    refine lv_iconst hx hb dX12_init_1326 (v := 0) rfl ?_
    refine lv_iconst hx hb dX12_init_1327 (v := 0) rfl ?_
    refine lv_iconst hx hb dX12_init_1328 (v := 0) rfl ?_
    have hFc := pl_free hD hS hA
    refine va_callv (va_runV (As := [.int (115), .int (97), .int (109), .int (101), .int (0), .int (0), .int (0), .int (0)]) (rest := []) ⟨hx, hb, hml, hown, hts⟩ (c_m_said l D ca h0 H.size ad u60 (115) (97) (109) (101) (0) (0) (0) (0) n30 (by omega) hO30) (cwV 8 hts gX12_init_X12_said rfl rfl rfl (by decide +kernel) ⟨Nat.le_of_ble_eq_true rfl, Nat.le_of_ble_eq_true rfl⟩) ⟨fun a U g mk q => by obtain ⟨q0, q1, qP, qK, qD⟩ := q; exact ⟨q0, q1, qP, va_K.moved (u := U) (U := U.calling g mk a) (Vm.Alike.refl U.vm) qK, qD⟩, va_recv hK hP (ci := 12) (q0 := 0) rfl rfl, fun U hU hW => ⟨rfl, by rw [hU], by rw [hU]; exact hP, va_K.moved hW.alike hK, hD.weaken (fun _ _ _ _ => trivial)⟩⟩ rfl rfl hl.1 rfl (lv_room (Nat.le_of_ble_eq_true rfl)) dX12_init_1329 ⟨hc9, hs9⟩) hS (fun q _ h => hFc q h) hFc (fun u62 t H1 locs ht hvm hwu62 hB hz1 hk1 hS => ?_)
    obtain ⟨hP1, hK1, hD1⟩ := hB
    rw [ht] at hP1
    have hK := va_K.moved hvm.symm hK1
    have hD := hD1.weaken (fun _ _ _ h => hFc _ h)
    have hP := hP1
    clear hP1 hK1 hD1 hFc
    generalize H1 = H at hP hS hz1 hk1 ht ⊢
    have hP : va_P D vwCl (mCl ca h0 ad u62) H := hP
    have hD : va_D A (mCl ca h0 ad u62) := hD
    obtain ⟨n31, hm31, hO31, hG31⟩ := hwu62
    replace hm31 : n31 ≤ 31 := by omega
    have hF31 := mFr_tr hF30 hG31
    clear hF30 hO30 hG31 ht hvm hz1 hk1
    refine lv_aload_n hx hb dX12_init_1332 rfl (lv_at hl 1 rfl) ?_
    refine lv_bipush hx hb dX12_init_1333 (v := 118) rfl ?_
    refine lv_bipush hx hb dX12_init_1335 (v := 97) rfl ?_
    refine lv_bipush hx hb dX12_init_1337 (v := 108) rfl ?_
    refine lv_bipush hx hb dX12_init_1339 (v := 117) rfl ?_
    refine lv_bipush hx hb dX12_init_1341 (v := 101) rfl ?_
    refine lv_iconst hx hb dX12_init_1343 (v := 0) rfl ?_
    refine lv_iconst hx hb dX12_init_1344 (v := 0) rfl ?_
    refine lv_iconst hx hb dX12_init_1345 (v := 0) rfl ?_
    have hFc := pl_free hD hS hA
    refine va_callv (va_runV (As := [.int (118), .int (97), .int (108), .int (117), .int (101), .int (0), .int (0), .int (0)]) (rest := []) ⟨hx, hb, hml, hown, hts⟩ (c_m_said l D ca h0 H.size ad u62 (118) (97) (108) (117) (101) (0) (0) (0) n31 (by omega) hO31) (cwV 8 hts gX12_init_X12_said rfl rfl rfl (by decide +kernel) ⟨Nat.le_of_ble_eq_true rfl, Nat.le_of_ble_eq_true rfl⟩) ⟨fun a U g mk q => by obtain ⟨q0, q1, qP, qK, qD⟩ := q; exact ⟨q0, q1, qP, va_K.moved (u := U) (U := U.calling g mk a) (Vm.Alike.refl U.vm) qK, qD⟩, va_recv hK hP (ci := 12) (q0 := 0) rfl rfl, fun U hU hW => ⟨rfl, by rw [hU], by rw [hU]; exact hP, va_K.moved hW.alike hK, hD.weaken (fun _ _ _ _ => trivial)⟩⟩ rfl rfl hl.1 rfl (lv_room (Nat.le_of_ble_eq_true rfl)) dX12_init_1346 ⟨hc9, hs9⟩) hS (fun q _ h => hFc q h) hFc (fun u64 t H1 locs ht hvm hwu64 hB hz1 hk1 hS => ?_)
    obtain ⟨hP1, hK1, hD1⟩ := hB
    rw [ht] at hP1
    have hK := va_K.moved hvm.symm hK1
    have hD := hD1.weaken (fun _ _ _ h => hFc _ h)
    have hP := hP1
    clear hP1 hK1 hD1 hFc
    generalize H1 = H at hP hS hz1 hk1 ht ⊢
    have hP : va_P D vwCl (mCl ca h0 ad u64) H := hP
    have hD : va_D A (mCl ca h0 ad u64) := hD
    obtain ⟨n32, hm32, hO32, hG32⟩ := hwu64
    replace hm32 : n32 ≤ 32 := by omega
    have hF32 := mFr_tr hF31 hG32
    clear hF31 hO31 hG32 ht hvm hz1 hk1
    refine lv_aload_n hx hb dX12_init_1349 rfl (lv_at hl 1 rfl) ?_
    refine lv_bipush hx hb dX12_init_1350 (v := 102) rfl ?_
    refine lv_bipush hx hb dX12_init_1352 (v := 105) rfl ?_
    refine lv_bipush hx hb dX12_init_1354 (v := 114) rfl ?_
    refine lv_bipush hx hb dX12_init_1356 (v := 115) rfl ?_
    refine lv_bipush hx hb dX12_init_1358 (v := 116) rfl ?_
    refine lv_iconst hx hb dX12_init_1360 (v := 0) rfl ?_
    refine lv_iconst hx hb dX12_init_1361 (v := 0) rfl ?_
    refine lv_iconst hx hb dX12_init_1362 (v := 0) rfl ?_
    have hFc := pl_free hD hS hA
    refine va_callv (va_runV (As := [.int (102), .int (105), .int (114), .int (115), .int (116), .int (0), .int (0), .int (0)]) (rest := []) ⟨hx, hb, hml, hown, hts⟩ (c_m_said l D ca h0 H.size ad u64 (102) (105) (114) (115) (116) (0) (0) (0) n32 (by omega) hO32) (cwV 8 hts gX12_init_X12_said rfl rfl rfl (by decide +kernel) ⟨Nat.le_of_ble_eq_true rfl, Nat.le_of_ble_eq_true rfl⟩) ⟨fun a U g mk q => by obtain ⟨q0, q1, qP, qK, qD⟩ := q; exact ⟨q0, q1, qP, va_K.moved (u := U) (U := U.calling g mk a) (Vm.Alike.refl U.vm) qK, qD⟩, va_recv hK hP (ci := 12) (q0 := 0) rfl rfl, fun U hU hW => ⟨rfl, by rw [hU], by rw [hU]; exact hP, va_K.moved hW.alike hK, hD.weaken (fun _ _ _ _ => trivial)⟩⟩ rfl rfl hl.1 rfl (lv_room (Nat.le_of_ble_eq_true rfl)) dX12_init_1363 ⟨hc9, hs9⟩) hS (fun q _ h => hFc q h) hFc (fun u66 t H1 locs ht hvm hwu66 hB hz1 hk1 hS => ?_)
    obtain ⟨hP1, hK1, hD1⟩ := hB
    rw [ht] at hP1
    have hK := va_K.moved hvm.symm hK1
    have hD := hD1.weaken (fun _ _ _ h => hFc _ h)
    have hP := hP1
    clear hP1 hK1 hD1 hFc
    generalize H1 = H at hP hS hz1 hk1 ht ⊢
    have hP : va_P D vwCl (mCl ca h0 ad u66) H := hP
    have hD : va_D A (mCl ca h0 ad u66) := hD
    obtain ⟨n33, hm33, hO33, hG33⟩ := hwu66
    replace hm33 : n33 ≤ 33 := by omega
    have hF33 := mFr_tr hF32 hG33
    clear hF32 hO32 hG33 ht hvm hz1 hk1
    refine lv_aload_n hx hb dX12_init_1366 rfl (lv_at hl 1 rfl) ?_
    refine lv_bipush hx hb dX12_init_1367 (v := 115) rfl ?_
    refine lv_bipush hx hb dX12_init_1369 (v := 101) rfl ?_
    refine lv_bipush hx hb dX12_init_1371 (v := 99) rfl ?_
    refine lv_bipush hx hb dX12_init_1373 (v := 111) rfl ?_
    refine lv_bipush hx hb dX12_init_1375 (v := 110) rfl ?_
    refine lv_bipush hx hb dX12_init_1377 (v := 100) rfl ?_
    refine lv_iconst hx hb dX12_init_1379 (v := 0) rfl ?_
    refine lv_iconst hx hb dX12_init_1380 (v := 0) rfl ?_
    have hFc := pl_free hD hS hA
    refine va_callv (va_runV (As := [.int (115), .int (101), .int (99), .int (111), .int (110), .int (100), .int (0), .int (0)]) (rest := []) ⟨hx, hb, hml, hown, hts⟩ (c_m_said l D ca h0 H.size ad u66 (115) (101) (99) (111) (110) (100) (0) (0) n33 (by omega) hO33) (cwV 8 hts gX12_init_X12_said rfl rfl rfl (by decide +kernel) ⟨Nat.le_of_ble_eq_true rfl, Nat.le_of_ble_eq_true rfl⟩) ⟨fun a U g mk q => by obtain ⟨q0, q1, qP, qK, qD⟩ := q; exact ⟨q0, q1, qP, va_K.moved (u := U) (U := U.calling g mk a) (Vm.Alike.refl U.vm) qK, qD⟩, va_recv hK hP (ci := 12) (q0 := 0) rfl rfl, fun U hU hW => ⟨rfl, by rw [hU], by rw [hU]; exact hP, va_K.moved hW.alike hK, hD.weaken (fun _ _ _ _ => trivial)⟩⟩ rfl rfl hl.1 rfl (lv_room (Nat.le_of_ble_eq_true rfl)) dX12_init_1381 ⟨hc9, hs9⟩) hS (fun q _ h => hFc q h) hFc (fun u68 t H1 locs ht hvm hwu68 hB hz1 hk1 hS => ?_)
    obtain ⟨hP1, hK1, hD1⟩ := hB
    rw [ht] at hP1
    have hK := va_K.moved hvm.symm hK1
    have hD := hD1.weaken (fun _ _ _ h => hFc _ h)
    have hP := hP1
    clear hP1 hK1 hD1 hFc
    generalize H1 = H at hP hS hz1 hk1 ht ⊢
    have hP : va_P D vwCl (mCl ca h0 ad u68) H := hP
    have hD : va_D A (mCl ca h0 ad u68) := hD
    obtain ⟨n34, hm34, hO34, hG34⟩ := hwu68
    replace hm34 : n34 ≤ 34 := by omega
    have hF34 := mFr_tr hF33 hG34
    clear hF33 hO33 hG34 ht hvm hz1 hk1
    refine lv_aload_n hx hb dX12_init_1384 rfl (lv_at hl 1 rfl) ?_
    refine lv_bipush hx hb dX12_init_1385 (v := 112) rfl ?_
    refine lv_bipush hx hb dX12_init_1387 (v := 97) rfl ?_
    refine lv_bipush hx hb dX12_init_1389 (v := 105) rfl ?_
    refine lv_bipush hx hb dX12_init_1391 (v := 114) rfl ?_
    refine lv_iconst hx hb dX12_init_1393 (v := 0) rfl ?_
    refine lv_iconst hx hb dX12_init_1394 (v := 0) rfl ?_
    refine lv_iconst hx hb dX12_init_1395 (v := 0) rfl ?_
    refine lv_iconst hx hb dX12_init_1396 (v := 0) rfl ?_
    have hFc := pl_free hD hS hA
    refine va_callv (va_runV (As := [.int (112), .int (97), .int (105), .int (114), .int (0), .int (0), .int (0), .int (0)]) (rest := []) ⟨hx, hb, hml, hown, hts⟩ (c_m_said l D ca h0 H.size ad u68 (112) (97) (105) (114) (0) (0) (0) (0) n34 (by omega) hO34) (cwV 8 hts gX12_init_X12_said rfl rfl rfl (by decide +kernel) ⟨Nat.le_of_ble_eq_true rfl, Nat.le_of_ble_eq_true rfl⟩) ⟨fun a U g mk q => by obtain ⟨q0, q1, qP, qK, qD⟩ := q; exact ⟨q0, q1, qP, va_K.moved (u := U) (U := U.calling g mk a) (Vm.Alike.refl U.vm) qK, qD⟩, va_recv hK hP (ci := 12) (q0 := 0) rfl rfl, fun U hU hW => ⟨rfl, by rw [hU], by rw [hU]; exact hP, va_K.moved hW.alike hK, hD.weaken (fun _ _ _ _ => trivial)⟩⟩ rfl rfl hl.1 rfl (lv_room (Nat.le_of_ble_eq_true rfl)) dX12_init_1397 ⟨hc9, hs9⟩) hS (fun q _ h => hFc q h) hFc (fun u70 t H1 locs ht hvm hwu70 hB hz1 hk1 hS => ?_)
    obtain ⟨hP1, hK1, hD1⟩ := hB
    rw [ht] at hP1
    have hK := va_K.moved hvm.symm hK1
    have hD := hD1.weaken (fun _ _ _ h => hFc _ h)
    have hP := hP1
    clear hP1 hK1 hD1 hFc
    generalize H1 = H at hP hS hz1 hk1 ht ⊢
    have hP : va_P D vwCl (mCl ca h0 ad u70) H := hP
    have hD : va_D A (mCl ca h0 ad u70) := hD
    obtain ⟨n35, hm35, hO35, hG35⟩ := hwu70
    replace hm35 : n35 ≤ 35 := by omega
    have hF35 := mFr_tr hF34 hG35
    clear hF34 hO34 hG35 ht hvm hz1 hk1
    refine lv_aload_n hx hb dX12_init_1400 rfl (lv_at hl 1 rfl) ?_
    refine lv_bipush hx hb dX12_init_1401 (v := 121) rfl ?_
    refine lv_bipush hx hb dX12_init_1403 (v := 101) rfl ?_
    refine lv_bipush hx hb dX12_init_1405 (v := 115) rfl ?_
    refine lv_iconst hx hb dX12_init_1407 (v := 0) rfl ?_
    refine lv_iconst hx hb dX12_init_1408 (v := 0) rfl ?_
    refine lv_iconst hx hb dX12_init_1409 (v := 0) rfl ?_
    refine lv_iconst hx hb dX12_init_1410 (v := 0) rfl ?_
    refine lv_iconst hx hb dX12_init_1411 (v := 0) rfl ?_
    have hFc := pl_free hD hS hA
    refine va_callv (va_runV (As := [.int (121), .int (101), .int (115), .int (0), .int (0), .int (0), .int (0), .int (0)]) (rest := []) ⟨hx, hb, hml, hown, hts⟩ (c_m_said l D ca h0 H.size ad u70 (121) (101) (115) (0) (0) (0) (0) (0) n35 (by omega) hO35) (cwV 8 hts gX12_init_X12_said rfl rfl rfl (by decide +kernel) ⟨Nat.le_of_ble_eq_true rfl, Nat.le_of_ble_eq_true rfl⟩) ⟨fun a U g mk q => by obtain ⟨q0, q1, qP, qK, qD⟩ := q; exact ⟨q0, q1, qP, va_K.moved (u := U) (U := U.calling g mk a) (Vm.Alike.refl U.vm) qK, qD⟩, va_recv hK hP (ci := 12) (q0 := 0) rfl rfl, fun U hU hW => ⟨rfl, by rw [hU], by rw [hU]; exact hP, va_K.moved hW.alike hK, hD.weaken (fun _ _ _ _ => trivial)⟩⟩ rfl rfl hl.1 rfl (lv_room (Nat.le_of_ble_eq_true rfl)) dX12_init_1412 ⟨hc9, hs9⟩) hS (fun q _ h => hFc q h) hFc (fun u72 t H1 locs ht hvm hwu72 hB hz1 hk1 hS => ?_)
    obtain ⟨hP1, hK1, hD1⟩ := hB
    rw [ht] at hP1
    have hK := va_K.moved hvm.symm hK1
    have hD := hD1.weaken (fun _ _ _ h => hFc _ h)
    have hP := hP1
    clear hP1 hK1 hD1 hFc
    generalize H1 = H at hP hS hz1 hk1 ht ⊢
    have hP : va_P D vwCl (mCl ca h0 ad u72) H := hP
    have hD : va_D A (mCl ca h0 ad u72) := hD
    obtain ⟨n36, hm36, hO36, hG36⟩ := hwu72
    replace hm36 : n36 ≤ 36 := by omega
    have hF36 := mFr_tr hF35 hG36
    clear hF35 hO35 hG36 ht hvm hz1 hk1
    refine lv_aload_n hx hb dX12_init_1415 rfl (lv_at hl 1 rfl) ?_
    refine lv_bipush hx hb dX12_init_1416 (v := 110) rfl ?_
    refine lv_bipush hx hb dX12_init_1418 (v := 111) rfl ?_
    refine lv_iconst hx hb dX12_init_1420 (v := 0) rfl ?_
    refine lv_iconst hx hb dX12_init_1421 (v := 0) rfl ?_
    refine lv_iconst hx hb dX12_init_1422 (v := 0) rfl ?_
    refine lv_iconst hx hb dX12_init_1423 (v := 0) rfl ?_
    refine lv_iconst hx hb dX12_init_1424 (v := 0) rfl ?_
    refine lv_iconst hx hb dX12_init_1425 (v := 0) rfl ?_
    have hFc := pl_free hD hS hA
    refine va_callv (va_runV (As := [.int (110), .int (111), .int (0), .int (0), .int (0), .int (0), .int (0), .int (0)]) (rest := []) ⟨hx, hb, hml, hown, hts⟩ (c_m_said l D ca h0 H.size ad u72 (110) (111) (0) (0) (0) (0) (0) (0) n36 (by omega) hO36) (cwV 8 hts gX12_init_X12_said rfl rfl rfl (by decide +kernel) ⟨Nat.le_of_ble_eq_true rfl, Nat.le_of_ble_eq_true rfl⟩) ⟨fun a U g mk q => by obtain ⟨q0, q1, qP, qK, qD⟩ := q; exact ⟨q0, q1, qP, va_K.moved (u := U) (U := U.calling g mk a) (Vm.Alike.refl U.vm) qK, qD⟩, va_recv hK hP (ci := 12) (q0 := 0) rfl rfl, fun U hU hW => ⟨rfl, by rw [hU], by rw [hU]; exact hP, va_K.moved hW.alike hK, hD.weaken (fun _ _ _ _ => trivial)⟩⟩ rfl rfl hl.1 rfl (lv_room (Nat.le_of_ble_eq_true rfl)) dX12_init_1426 ⟨hc9, hs9⟩) hS (fun q _ h => hFc q h) hFc (fun u74 t H1 locs ht hvm hwu74 hB hz1 hk1 hS => ?_)
    obtain ⟨hP1, hK1, hD1⟩ := hB
    rw [ht] at hP1
    have hK := va_K.moved hvm.symm hK1
    have hD := hD1.weaken (fun _ _ _ h => hFc _ h)
    have hP := hP1
    clear hP1 hK1 hD1 hFc
    generalize H1 = H at hP hS hz1 hk1 ht ⊢
    have hP : va_P D vwCl (mCl ca h0 ad u74) H := hP
    have hD : va_D A (mCl ca h0 ad u74) := hD
    obtain ⟨n37, hm37, hO37, hG37⟩ := hwu74
    replace hm37 : n37 ≤ 37 := by omega
    have hF37 := mFr_tr hF36 hG37
    clear hF36 hO36 hG37 ht hvm hz1 hk1
    refine lv_aload_n hx hb dX12_init_1429 rfl (lv_at hl 1 rfl) ?_
    refine lv_bipush hx hb dX12_init_1430 (v := 100) rfl ?_
    refine lv_bipush hx hb dX12_init_1432 (v := 101) rfl ?_
    refine lv_bipush hx hb dX12_init_1434 (v := 102) rfl ?_
    refine lv_iconst hx hb dX12_init_1436 (v := 0) rfl ?_
    refine lv_iconst hx hb dX12_init_1437 (v := 0) rfl ?_
    refine lv_iconst hx hb dX12_init_1438 (v := 0) rfl ?_
    refine lv_iconst hx hb dX12_init_1439 (v := 0) rfl ?_
    refine lv_iconst hx hb dX12_init_1440 (v := 0) rfl ?_
    have hFc := pl_free hD hS hA
    refine va_callv (va_runV (As := [.int (100), .int (101), .int (102), .int (0), .int (0), .int (0), .int (0), .int (0)]) (rest := []) ⟨hx, hb, hml, hown, hts⟩ (c_m_said l D ca h0 H.size ad u74 (100) (101) (102) (0) (0) (0) (0) (0) n37 (by omega) hO37) (cwV 8 hts gX12_init_X12_said rfl rfl rfl (by decide +kernel) ⟨Nat.le_of_ble_eq_true rfl, Nat.le_of_ble_eq_true rfl⟩) ⟨fun a U g mk q => by obtain ⟨q0, q1, qP, qK, qD⟩ := q; exact ⟨q0, q1, qP, va_K.moved (u := U) (U := U.calling g mk a) (Vm.Alike.refl U.vm) qK, qD⟩, va_recv hK hP (ci := 12) (q0 := 0) rfl rfl, fun U hU hW => ⟨rfl, by rw [hU], by rw [hU]; exact hP, va_K.moved hW.alike hK, hD.weaken (fun _ _ _ _ => trivial)⟩⟩ rfl rfl hl.1 rfl (lv_room (Nat.le_of_ble_eq_true rfl)) dX12_init_1441 ⟨hc9, hs9⟩) hS (fun q _ h => hFc q h) hFc (fun u76 t H1 locs ht hvm hwu76 hB hz1 hk1 hS => ?_)
    obtain ⟨hP1, hK1, hD1⟩ := hB
    rw [ht] at hP1
    have hK := va_K.moved hvm.symm hK1
    have hD := hD1.weaken (fun _ _ _ h => hFc _ h)
    have hP := hP1
    clear hP1 hK1 hD1 hFc
    generalize H1 = H at hP hS hz1 hk1 ht ⊢
    have hP : va_P D vwCl (mCl ca h0 ad u76) H := hP
    have hD : va_D A (mCl ca h0 ad u76) := hD
    obtain ⟨n38, hm38, hO38, hG38⟩ := hwu76
    replace hm38 : n38 ≤ 38 := by omega
    have hF38 := mFr_tr hF37 hG38
    clear hF37 hO37 hG38 ht hvm hz1 hk1
    refine lv_aload_n hx hb dX12_init_1444 rfl (lv_at hl 1 rfl) ?_
    refine lv_bipush hx hb dX12_init_1445 (v := 116) rfl ?_
    refine lv_bipush hx hb dX12_init_1447 (v := 104) rfl ?_
    refine lv_bipush hx hb dX12_init_1449 (v := 109) rfl ?_
    refine lv_iconst hx hb dX12_init_1451 (v := 0) rfl ?_
    refine lv_iconst hx hb dX12_init_1452 (v := 0) rfl ?_
    refine lv_iconst hx hb dX12_init_1453 (v := 0) rfl ?_
    refine lv_iconst hx hb dX12_init_1454 (v := 0) rfl ?_
    refine lv_iconst hx hb dX12_init_1455 (v := 0) rfl ?_
    have hFc := pl_free hD hS hA
    refine va_callv (va_runV (As := [.int (116), .int (104), .int (109), .int (0), .int (0), .int (0), .int (0), .int (0)]) (rest := []) ⟨hx, hb, hml, hown, hts⟩ (c_m_said l D ca h0 H.size ad u76 (116) (104) (109) (0) (0) (0) (0) (0) n38 (by omega) hO38) (cwV 8 hts gX12_init_X12_said rfl rfl rfl (by decide +kernel) ⟨Nat.le_of_ble_eq_true rfl, Nat.le_of_ble_eq_true rfl⟩) ⟨fun a U g mk q => by obtain ⟨q0, q1, qP, qK, qD⟩ := q; exact ⟨q0, q1, qP, va_K.moved (u := U) (U := U.calling g mk a) (Vm.Alike.refl U.vm) qK, qD⟩, va_recv hK hP (ci := 12) (q0 := 0) rfl rfl, fun U hU hW => ⟨rfl, by rw [hU], by rw [hU]; exact hP, va_K.moved hW.alike hK, hD.weaken (fun _ _ _ _ => trivial)⟩⟩ rfl rfl hl.1 rfl (lv_room (Nat.le_of_ble_eq_true rfl)) dX12_init_1456 ⟨hc9, hs9⟩) hS (fun q _ h => hFc q h) hFc (fun u78 t H1 locs ht hvm hwu78 hB hz1 hk1 hS => ?_)
    obtain ⟨hP1, hK1, hD1⟩ := hB
    rw [ht] at hP1
    have hK := va_K.moved hvm.symm hK1
    have hD := hD1.weaken (fun _ _ _ h => hFc _ h)
    have hP := hP1
    clear hP1 hK1 hD1 hFc
    generalize H1 = H at hP hS hz1 hk1 ht ⊢
    have hP : va_P D vwCl (mCl ca h0 ad u78) H := hP
    have hD : va_D A (mCl ca h0 ad u78) := hD
    obtain ⟨n39, hm39, hO39, hG39⟩ := hwu78
    replace hm39 : n39 ≤ 39 := by omega
    have hF39 := mFr_tr hF38 hG39
    clear hF38 hO38 hG39 ht hvm hz1 hk1
    refine lv_aload_n hx hb dX12_init_1459 rfl (lv_at hl 1 rfl) ?_
    refine lv_bipush hx hb dX12_init_1460 (v := 119) rfl ?_
    refine lv_bipush hx hb dX12_init_1462 (v := 101) rfl ?_
    refine lv_bipush hx hb dX12_init_1464 (v := 97) rfl ?_
    refine lv_bipush hx hb dX12_init_1466 (v := 107) rfl ?_
    refine lv_iconst hx hb dX12_init_1468 (v := 0) rfl ?_
    refine lv_iconst hx hb dX12_init_1469 (v := 0) rfl ?_
    refine lv_iconst hx hb dX12_init_1470 (v := 0) rfl ?_
    refine lv_iconst hx hb dX12_init_1471 (v := 0) rfl ?_
    have hFc := pl_free hD hS hA
    refine va_callv (va_runV (As := [.int (119), .int (101), .int (97), .int (107), .int (0), .int (0), .int (0), .int (0)]) (rest := []) ⟨hx, hb, hml, hown, hts⟩ (c_m_said l D ca h0 H.size ad u78 (119) (101) (97) (107) (0) (0) (0) (0) n39 (by omega) hO39) (cwV 8 hts gX12_init_X12_said rfl rfl rfl (by decide +kernel) ⟨Nat.le_of_ble_eq_true rfl, Nat.le_of_ble_eq_true rfl⟩) ⟨fun a U g mk q => by obtain ⟨q0, q1, qP, qK, qD⟩ := q; exact ⟨q0, q1, qP, va_K.moved (u := U) (U := U.calling g mk a) (Vm.Alike.refl U.vm) qK, qD⟩, va_recv hK hP (ci := 12) (q0 := 0) rfl rfl, fun U hU hW => ⟨rfl, by rw [hU], by rw [hU]; exact hP, va_K.moved hW.alike hK, hD.weaken (fun _ _ _ _ => trivial)⟩⟩ rfl rfl hl.1 rfl (lv_room (Nat.le_of_ble_eq_true rfl)) dX12_init_1472 ⟨hc9, hs9⟩) hS (fun q _ h => hFc q h) hFc (fun u80 t H1 locs ht hvm hwu80 hB hz1 hk1 hS => ?_)
    obtain ⟨hP1, hK1, hD1⟩ := hB
    rw [ht] at hP1
    have hK := va_K.moved hvm.symm hK1
    have hD := hD1.weaken (fun _ _ _ h => hFc _ h)
    have hP := hP1
    clear hP1 hK1 hD1 hFc
    generalize H1 = H at hP hS hz1 hk1 ht ⊢
    have hP : va_P D vwCl (mCl ca h0 ad u80) H := hP
    have hD : va_D A (mCl ca h0 ad u80) := hD
    obtain ⟨n40, hm40, hO40, hG40⟩ := hwu80
    replace hm40 : n40 ≤ 40 := by omega
    have hF40 := mFr_tr hF39 hG40
    clear hF39 hO39 hG40 ht hvm hz1 hk1
    refine lv_aload_n hx hb dX12_init_1475 rfl (lv_at hl 1 rfl) ?_
    refine lv_bipush hx hb dX12_init_1476 (v := 99) rfl ?_
    refine lv_bipush hx hb dX12_init_1478 (v := 117) rfl ?_
    refine lv_bipush hx hb dX12_init_1480 (v := 116) rfl ?_
    refine lv_iconst hx hb dX12_init_1482 (v := 0) rfl ?_
    refine lv_iconst hx hb dX12_init_1483 (v := 0) rfl ?_
    refine lv_iconst hx hb dX12_init_1484 (v := 0) rfl ?_
    refine lv_iconst hx hb dX12_init_1485 (v := 0) rfl ?_
    refine lv_iconst hx hb dX12_init_1486 (v := 0) rfl ?_
    have hFc := pl_free hD hS hA
    refine va_callv (va_runV (As := [.int (99), .int (117), .int (116), .int (0), .int (0), .int (0), .int (0), .int (0)]) (rest := []) ⟨hx, hb, hml, hown, hts⟩ (c_m_said l D ca h0 H.size ad u80 (99) (117) (116) (0) (0) (0) (0) (0) n40 (by omega) hO40) (cwV 8 hts gX12_init_X12_said rfl rfl rfl (by decide +kernel) ⟨Nat.le_of_ble_eq_true rfl, Nat.le_of_ble_eq_true rfl⟩) ⟨fun a U g mk q => by obtain ⟨q0, q1, qP, qK, qD⟩ := q; exact ⟨q0, q1, qP, va_K.moved (u := U) (U := U.calling g mk a) (Vm.Alike.refl U.vm) qK, qD⟩, va_recv hK hP (ci := 12) (q0 := 0) rfl rfl, fun U hU hW => ⟨rfl, by rw [hU], by rw [hU]; exact hP, va_K.moved hW.alike hK, hD.weaken (fun _ _ _ _ => trivial)⟩⟩ rfl rfl hl.1 rfl (lv_room (Nat.le_of_ble_eq_true rfl)) dX12_init_1487 ⟨hc9, hs9⟩) hS (fun q _ h => hFc q h) hFc (fun u82 t H1 locs ht hvm hwu82 hB hz1 hk1 hS => ?_)
    obtain ⟨hP1, hK1, hD1⟩ := hB
    rw [ht] at hP1
    have hK := va_K.moved hvm.symm hK1
    have hD := hD1.weaken (fun _ _ _ h => hFc _ h)
    have hP := hP1
    clear hP1 hK1 hD1 hFc
    generalize H1 = H at hP hS hz1 hk1 ht ⊢
    have hP : va_P D vwCl (mCl ca h0 ad u82) H := hP
    have hD : va_D A (mCl ca h0 ad u82) := hD
    obtain ⟨n41, hm41, hO41, hG41⟩ := hwu82
    replace hm41 : n41 ≤ 41 := by omega
    have hF41 := mFr_tr hF40 hG41
    clear hF40 hO40 hG41 ht hvm hz1 hk1
    refine lv_aload_n hx hb dX12_init_1490 rfl (lv_at hl 1 rfl) ?_
    refine lv_bipush hx hb dX12_init_1491 (v := 105) rfl ?_
    refine lv_bipush hx hb dX12_init_1493 (v := 110) rfl ?_
    refine lv_bipush hx hb dX12_init_1495 (v := 115) rfl ?_
    refine lv_bipush hx hb dX12_init_1497 (v := 116) rfl ?_
    refine lv_iconst hx hb dX12_init_1499 (v := 0) rfl ?_
    refine lv_iconst hx hb dX12_init_1500 (v := 0) rfl ?_
    refine lv_iconst hx hb dX12_init_1501 (v := 0) rfl ?_
    refine lv_iconst hx hb dX12_init_1502 (v := 0) rfl ?_
    have hFc := pl_free hD hS hA
    refine va_callv (va_runV (As := [.int (105), .int (110), .int (115), .int (116), .int (0), .int (0), .int (0), .int (0)]) (rest := []) ⟨hx, hb, hml, hown, hts⟩ (c_m_said l D ca h0 H.size ad u82 (105) (110) (115) (116) (0) (0) (0) (0) n41 (by omega) hO41) (cwV 8 hts gX12_init_X12_said rfl rfl rfl (by decide +kernel) ⟨Nat.le_of_ble_eq_true rfl, Nat.le_of_ble_eq_true rfl⟩) ⟨fun a U g mk q => by obtain ⟨q0, q1, qP, qK, qD⟩ := q; exact ⟨q0, q1, qP, va_K.moved (u := U) (U := U.calling g mk a) (Vm.Alike.refl U.vm) qK, qD⟩, va_recv hK hP (ci := 12) (q0 := 0) rfl rfl, fun U hU hW => ⟨rfl, by rw [hU], by rw [hU]; exact hP, va_K.moved hW.alike hK, hD.weaken (fun _ _ _ _ => trivial)⟩⟩ rfl rfl hl.1 rfl (lv_room (Nat.le_of_ble_eq_true rfl)) dX12_init_1503 ⟨hc9, hs9⟩) hS (fun q _ h => hFc q h) hFc (fun u84 t H1 locs ht hvm hwu84 hB hz1 hk1 hS => ?_)
    obtain ⟨hP1, hK1, hD1⟩ := hB
    rw [ht] at hP1
    have hK := va_K.moved hvm.symm hK1
    have hD := hD1.weaken (fun _ _ _ h => hFc _ h)
    have hP := hP1
    clear hP1 hK1 hD1 hFc
    generalize H1 = H at hP hS hz1 hk1 ht ⊢
    have hP : va_P D vwCl (mCl ca h0 ad u84) H := hP
    have hD : va_D A (mCl ca h0 ad u84) := hD
    obtain ⟨n42, hm42, hO42, hG42⟩ := hwu84
    replace hm42 : n42 ≤ 42 := by omega
    have hF42 := mFr_tr hF41 hG42
    clear hF41 hO41 hG42 ht hvm hz1 hk1
    refine lv_aload_n hx hb dX12_init_1506 rfl (lv_at hl 1 rfl) ?_
    refine lv_bipush hx hb dX12_init_1507 (v := 115) rfl ?_
    refine lv_bipush hx hb dX12_init_1509 (v := 119) rfl ?_
    refine lv_bipush hx hb dX12_init_1511 (v := 97) rfl ?_
    refine lv_bipush hx hb dX12_init_1513 (v := 112) rfl ?_
    refine lv_iconst hx hb dX12_init_1515 (v := 0) rfl ?_
    refine lv_iconst hx hb dX12_init_1516 (v := 0) rfl ?_
    refine lv_iconst hx hb dX12_init_1517 (v := 0) rfl ?_
    refine lv_iconst hx hb dX12_init_1518 (v := 0) rfl ?_
    have hFc := pl_free hD hS hA
    refine va_callv (va_runV (As := [.int (115), .int (119), .int (97), .int (112), .int (0), .int (0), .int (0), .int (0)]) (rest := []) ⟨hx, hb, hml, hown, hts⟩ (c_m_said l D ca h0 H.size ad u84 (115) (119) (97) (112) (0) (0) (0) (0) n42 (by omega) hO42) (cwV 8 hts gX12_init_X12_said rfl rfl rfl (by decide +kernel) ⟨Nat.le_of_ble_eq_true rfl, Nat.le_of_ble_eq_true rfl⟩) ⟨fun a U g mk q => by obtain ⟨q0, q1, qP, qK, qD⟩ := q; exact ⟨q0, q1, qP, va_K.moved (u := U) (U := U.calling g mk a) (Vm.Alike.refl U.vm) qK, qD⟩, va_recv hK hP (ci := 12) (q0 := 0) rfl rfl, fun U hU hW => ⟨rfl, by rw [hU], by rw [hU]; exact hP, va_K.moved hW.alike hK, hD.weaken (fun _ _ _ _ => trivial)⟩⟩ rfl rfl hl.1 rfl (lv_room (Nat.le_of_ble_eq_true rfl)) dX12_init_1519 ⟨hc9, hs9⟩) hS (fun q _ h => hFc q h) hFc (fun u86 t H1 locs ht hvm hwu86 hB hz1 hk1 hS => ?_)
    obtain ⟨hP1, hK1, hD1⟩ := hB
    rw [ht] at hP1
    have hK := va_K.moved hvm.symm hK1
    have hD := hD1.weaken (fun _ _ _ h => hFc _ h)
    have hP := hP1
    clear hP1 hK1 hD1 hFc
    generalize H1 = H at hP hS hz1 hk1 ht ⊢
    have hP : va_P D vwCl (mCl ca h0 ad u86) H := hP
    have hD : va_D A (mCl ca h0 ad u86) := hD
    obtain ⟨n43, hm43, hO43, hG43⟩ := hwu86
    replace hm43 : n43 ≤ 43 := by omega
    have hF43 := mFr_tr hF42 hG43
    clear hF42 hO42 hG43 ht hvm hz1 hk1
    refine lv_aload_n hx hb dX12_init_1522 rfl (lv_at hl 1 rfl) ?_
    refine lv_bipush hx hb dX12_init_1523 (v := 112) rfl ?_
    refine lv_bipush hx hb dX12_init_1525 (v := 117) rfl ?_
    refine lv_bipush hx hb dX12_init_1527 (v := 116) rfl ?_
    refine lv_iconst hx hb dX12_init_1529 (v := 0) rfl ?_
    refine lv_iconst hx hb dX12_init_1530 (v := 0) rfl ?_
    refine lv_iconst hx hb dX12_init_1531 (v := 0) rfl ?_
    refine lv_iconst hx hb dX12_init_1532 (v := 0) rfl ?_
    refine lv_iconst hx hb dX12_init_1533 (v := 0) rfl ?_
    have hFc := pl_free hD hS hA
    refine va_callv (va_runV (As := [.int (112), .int (117), .int (116), .int (0), .int (0), .int (0), .int (0), .int (0)]) (rest := []) ⟨hx, hb, hml, hown, hts⟩ (c_m_said l D ca h0 H.size ad u86 (112) (117) (116) (0) (0) (0) (0) (0) n43 (by omega) hO43) (cwV 8 hts gX12_init_X12_said rfl rfl rfl (by decide +kernel) ⟨Nat.le_of_ble_eq_true rfl, Nat.le_of_ble_eq_true rfl⟩) ⟨fun a U g mk q => by obtain ⟨q0, q1, qP, qK, qD⟩ := q; exact ⟨q0, q1, qP, va_K.moved (u := U) (U := U.calling g mk a) (Vm.Alike.refl U.vm) qK, qD⟩, va_recv hK hP (ci := 12) (q0 := 0) rfl rfl, fun U hU hW => ⟨rfl, by rw [hU], by rw [hU]; exact hP, va_K.moved hW.alike hK, hD.weaken (fun _ _ _ _ => trivial)⟩⟩ rfl rfl hl.1 rfl (lv_room (Nat.le_of_ble_eq_true rfl)) dX12_init_1534 ⟨hc9, hs9⟩) hS (fun q _ h => hFc q h) hFc (fun u88 t H1 locs ht hvm hwu88 hB hz1 hk1 hS => ?_)
    obtain ⟨hP1, hK1, hD1⟩ := hB
    rw [ht] at hP1
    have hK := va_K.moved hvm.symm hK1
    have hD := hD1.weaken (fun _ _ _ h => hFc _ h)
    have hP := hP1
    clear hP1 hK1 hD1 hFc
    generalize H1 = H at hP hS hz1 hk1 ht ⊢
    have hP : va_P D vwCl (mCl ca h0 ad u88) H := hP
    have hD : va_D A (mCl ca h0 ad u88) := hD
    obtain ⟨n44, hm44, hO44, hG44⟩ := hwu88
    replace hm44 : n44 ≤ 44 := by omega
    have hF44 := mFr_tr hF43 hG44
    clear hF43 hO43 hG44 ht hvm hz1 hk1
    exact kk u88 H locs ls ⟨n44, hm44, hO44, hF44⟩ hP hD hS (lv_sub hl [1] rfl)
  · have hj : j < 8192 := by
      rcases Nat.lt_or_ge j 8192 with h | h
      · exact h
      · exact absurd (nI_le h (by omega)) h1
    refine lv_aload_n hx hb dX12_init_820 rfl (lv_at hl 1 rfl) ?_
    refine va_get (D := D) (ci := 12) (v := .ref (ad 7)) (C := RX12) (T := TX12) (N := 149) hx hb hts hin hown hK hP 0 mH_0 rfl 7 (by decide) L_heads (fun _ h9 => h9) mF_7 dX12_init_821 ?_
    refine lv_iload_n hx hb dX12_init_824 rfl (lv_at hl 0 rfl) ?_
    refine lv_iconst hx hb dX12_init_825 (v := (-1)) rfl ?_
    refine va_iast hx hb hK hP hD hS 7 6 mG_7 rfl (vp_in_nI hj (by decide)) dX12_init_826 (fun H locs hP hD hS => ?_)
    rw [mSA_7] at hP hD
    refine lv_iinc (v := nI j + 1) hx hb dX12_init_827 hl (k := 0) rfl rfl (by decide) rfl (fun ls hl => ?_)
    have hl : lv_has ls 2 [(1, .int (nI j + 1)), (0, .ref (h0))] := hl
    refine lv_goto hx hb dX12_init_830 (tgt := 813) rfl ?_
    refine ih (mA w 7 (nI j).toNatClampNeg ((-1)), j + 1) H locs ls ⟨by show j + 1 ≤ 8192; omega, hI2, ?_, fun g h1 => (mA_n w _ _ h1).trans (hI4 g h1), hI5⟩ (by show 8192 - (j + 1) < 8192 - j; omega) hP hD hS (by rw [nI_1] at hl; exact hl)
    intro h hh
    show (mA w 7 (nI j).toNatClampNeg (-1)).2.1 7 h = -1
    rw [mA_s, nI_clamp (by omega)]
    by_cases e : h = j
    · rw [e, pk_us]
    · rw [pk_un e]; exact hI3 h (by have : h < j + 1 := hh; omega)
end
section
set_option maxHeartbeats 16000000 in
set_option maxRecDepth 100000 in
/-- ProofHouseModel() -/
theorem c_m_init (l : Launch) (D : va_G) (h0 sz : Nat) : Met l yX12_init wsX12_init ({ frames := 3, cells := 93, slots := 2737036, locals := 76 }) (va_Pc [.ref h0] (fun U => U.heap.size = sz ∧ va_P D vwCl [(h0, .inr (12, mF0))] U.heap ∧ va_K D vwCl [] U ∧ va_D (fun _ => True) [(h0, .inr (12, mF0))])) (va_Qv (fun x : (Nat → Nat) × (Nat → ClassId) × mST => ∃ n : Nat, n ≤ 44 ∧ mOk n x.2.2 ∧ mFr mU0 x.2.2) (fun x t => mWd D x.2.1 (va_A [(h0, .inr (12, mF0))] sz) h0 x.1 x.2.2 t) (va_A [(h0, .inr (12, mF0))] sz)) 93 2737036 (va_A [(h0, .inr (12, mF0))] sz) := by
  refine Met.ofW (cc := cX12_init) (maxL := 2) (ret := none) (by decide) rfl ?_
  intro p e s m args below meth c s₁ B hml hv
  obtain ⟨rfl, hsz, hP, hK, hD0⟩ := hv
  have hx := B.exec
  have hb := B.bytes
  have hr := B.returns
  have hts := atoms_spec (ws := wsX12_init) B.pre
  have hown : s.vm.findClass RX12 = some m.cls := findClass_of_methodNamed B.named
  have hlocks := B.notSynchronized
  have hnm : meth.name = "<init>" := (name_of_methodNamed B.named B.method).1
  subst hsz
  have hD := hD0.self (sz := s.heap.size)
  generalize hAe : va_A [(h0, .inr (12, mF0))] s.heap.size = A at hD ⊢
  have hA : ∀ q : Nat, s.heap.size ≤ q → A q := fun q h => by rw [← hAe]; exact Or.inr h
  have hS : va_S A s.heap s.heap [] := va_S.rf
  have hin : ∀ w ∈ wsX120, w ∈ wsX12_init := ww_all
  have hl := lv_entry ([.ref h0]) (n := 2) (Nat.le_of_ble_eq_true rfl)
  rw [lg_entry_eq]
  generalize (lg_sl ([.ref h0]) ++ List.replicate (2 - (lg_sl ([.ref h0])).length) Slot.unset).toArray = ls at hl ⊢
  have hl : lv_has ls 2 [(0, .ref h0)] := hl
  obtain ⟨fs0, ef0⟩ : ∃ z, z = mF0 := ⟨_, rfl⟩
  have hlen : fs0.length = 149 := by rw [ef0]; exact mF0_len
  obtain ⟨cs0, ec0⟩ : ∃ z : va_W, z = [] := ⟨_, rfl⟩
  obtain ⟨ts0, et0⟩ : ∃ z : List (ClassId × FieldType), z = [] := ⟨_, rfl⟩
  replace hP : va_P D vwCl ((h0, .inr (12, fs0)) :: cs0) s.heap := by rw [ef0, ec0]; exact hP
  replace hD : va_D A ((h0, .inr (12, fs0)) :: cs0) := by rw [ef0, ec0]; exact hD
  replace hK : va_K D vwCl ts0 s := by rw [et0]; exact hK
  have har_I := hts _ ww_acI
  have har_J := hts _ ww_acJ
  have har_Z := hts _ ww_acZ
  refine lv_aload_n hx hb dX12_init_0 rfl (lv_at hl 0 rfl) ?_
  refine W.objInit hx hb hown (hts _ ww_ol) (hts _ ww_oi) (hts _ ww_oc) rfl (by rw [hml]; exact hl.1) rfl dX12_init_1 (Nat.le_of_ble_eq_true rfl) (Nat.le_of_ble_eq_true rfl) ?_
  refine W.eq (g2 := F0 m 4 ls []) rfl ?_
  have eF0 : fs0 = [.null, .null, .null, .null, .null, .null, .int 0, .null, .int 0, .null, .null, .int 0, .null, .null, .int 0, .null, .int 0, .null, .int 0, .null, .int 0, .null, .int 0, .int 0, .int 0, .int 0, .null, .null, .null, .null, .int 0, .null, .int 0, .int 0, .int 0, .int 0, .null, .null, .null, .null, .null, .null, .int 0, .null, .null, .null, .null, .null, .null, .null, .null, .null, .null, .null, .int 0, .null, .null, .int 0, .int 0, .int 0, .int 0, .int 0, .int 0, .int 0, .int 0, .null, .null, .null, .null, .int 0, .null, .int 0, .null, .null, .int 0, .null, .int 0, .null, .int 0, .null, .null, .null, .null, .null, .null, .int 0, .null, .int 0, .int 0, .int 0, .int 0, .int 0, .null, .null, .null, .null, .null, .null, .null, .null, .null, .null, .int 0, .null, .int 0, .null, .null, .null, .null, .int 0, .int 0, .int 0, .null, .null, .null, .null, .null, .int 0, .null, .int 0, .null, .null, .int 0, .null, .null, .null, .int 0, .null, .null, .null, .null, .int 0, .int 0, .int 0, .int 0, .int 0, .int 0, .null, .null, .int 0, .null, .null, .null, .null, .int 0, .null, .null, .int 0, .int 0] := ef0
  have eC0 : cs0 = [] := ec0
  have eT0 : ts0 = [] := et0
  refine lv_aload_n hx hb dX12_init_4 rfl (lv_at hl 0 rfl) ?_
  refine lv_ldc hx hb hown (hts _ ww_c7) dX12_init_5 ?_
  refine ia_arr (atype := .int) (ty := .int) (a0 := (452000, .inl (fun _ => 0))) (nw := 452000) hx hb hts hin hown hnm hA hlen hK hP hD hS har_I rfl (fun cA => ia_I cA 452000) (by decide) (by decide) (by decide) (Nat.le_of_ble_eq_true rfl) (Nat.le_of_ble_eq_true rfl) dX12_init_7 0 (by decide) (hts _ ww_f0) rfl rfl (tyX12_ok 0 (by decide)) dX12_init_9 ?_
  clear hP hD hS hK
  intro q1 c1 H1 lo1 hK hP hD hS
  obtain ⟨ts1, et1⟩ : ∃ z, z = ts0 ++ [(c1, .int)] := ⟨_, rfl⟩
  rw [← et1] at hK
  obtain ⟨cs1, ec1⟩ : ∃ z : va_W, z = cs0 ++ [(q1, .inl (c1, 452000, .inl (fun _ => 0)))] := ⟨_, rfl⟩
  rw [← ec1] at hP hD
  obtain ⟨fs1, ef1⟩ : ∃ z, z = fs0.set 0 (.ref q1) := ⟨_, rfl⟩
  rw [← ef1] at hP hD
  replace hlen : fs1.length = 149 := by rw [ef1, List.length_set]; exact hlen
  refine lv_aload_n hx hb dX12_init_12 rfl (lv_at hl 0 rfl) ?_
  refine lv_ldc hx hb hown (hts _ ww_c7) dX12_init_13 ?_
  refine ia_arr (atype := .int) (ty := .int) (a0 := (452000, .inl (fun _ => 0))) (nw := 452000) hx hb hts hin hown hnm hA hlen hK hP hD hS har_I rfl (fun cA => ia_I cA 452000) (by decide) (by decide) (by decide) (Nat.le_of_ble_eq_true rfl) (Nat.le_of_ble_eq_true rfl) dX12_init_15 1 (by decide) (hts _ ww_f1) rfl rfl (tyX12_ok 1 (by decide)) dX12_init_17 ?_
  clear hP hD hS hK
  intro q2 c2 H2 lo2 hK hP hD hS
  obtain ⟨ts2, et2⟩ : ∃ z, z = ts1 ++ [(c2, .int)] := ⟨_, rfl⟩
  rw [← et2] at hK
  obtain ⟨cs2, ec2⟩ : ∃ z : va_W, z = cs1 ++ [(q2, .inl (c2, 452000, .inl (fun _ => 0)))] := ⟨_, rfl⟩
  rw [← ec2] at hP hD
  obtain ⟨fs2, ef2⟩ : ∃ z, z = fs1.set 1 (.ref q2) := ⟨_, rfl⟩
  rw [← ef2] at hP hD
  replace hlen : fs2.length = 149 := by rw [ef2, List.length_set]; exact hlen
  refine lv_aload_n hx hb dX12_init_20 rfl (lv_at hl 0 rfl) ?_
  refine lv_ldc hx hb hown (hts _ ww_c7) dX12_init_21 ?_
  refine ia_arr (atype := .int) (ty := .int) (a0 := (452000, .inl (fun _ => 0))) (nw := 452000) hx hb hts hin hown hnm hA hlen hK hP hD hS har_I rfl (fun cA => ia_I cA 452000) (by decide) (by decide) (by decide) (Nat.le_of_ble_eq_true rfl) (Nat.le_of_ble_eq_true rfl) dX12_init_23 2 (by decide) (hts _ ww_f2) rfl rfl (tyX12_ok 2 (by decide)) dX12_init_25 ?_
  clear hP hD hS hK
  intro q3 c3 H3 lo3 hK hP hD hS
  obtain ⟨ts3, et3⟩ : ∃ z, z = ts2 ++ [(c3, .int)] := ⟨_, rfl⟩
  rw [← et3] at hK
  obtain ⟨cs3, ec3⟩ : ∃ z : va_W, z = cs2 ++ [(q3, .inl (c3, 452000, .inl (fun _ => 0)))] := ⟨_, rfl⟩
  rw [← ec3] at hP hD
  obtain ⟨fs3, ef3⟩ : ∃ z, z = fs2.set 2 (.ref q3) := ⟨_, rfl⟩
  rw [← ef3] at hP hD
  replace hlen : fs3.length = 149 := by rw [ef3, List.length_set]; exact hlen
  refine lv_aload_n hx hb dX12_init_28 rfl (lv_at hl 0 rfl) ?_
  refine lv_ldc hx hb hown (hts _ ww_c7) dX12_init_29 ?_
  refine ia_arr (atype := .int) (ty := .int) (a0 := (452000, .inl (fun _ => 0))) (nw := 452000) hx hb hts hin hown hnm hA hlen hK hP hD hS har_I rfl (fun cA => ia_I cA 452000) (by decide) (by decide) (by decide) (Nat.le_of_ble_eq_true rfl) (Nat.le_of_ble_eq_true rfl) dX12_init_31 3 (by decide) (hts _ ww_f3) rfl rfl (tyX12_ok 3 (by decide)) dX12_init_33 ?_
  clear hP hD hS hK
  intro q4 c4 H4 lo4 hK hP hD hS
  obtain ⟨ts4, et4⟩ : ∃ z, z = ts3 ++ [(c4, .int)] := ⟨_, rfl⟩
  rw [← et4] at hK
  obtain ⟨cs4, ec4⟩ : ∃ z : va_W, z = cs3 ++ [(q4, .inl (c4, 452000, .inl (fun _ => 0)))] := ⟨_, rfl⟩
  rw [← ec4] at hP hD
  obtain ⟨fs4, ef4⟩ : ∃ z, z = fs3.set 3 (.ref q4) := ⟨_, rfl⟩
  rw [← ef4] at hP hD
  replace hlen : fs4.length = 149 := by rw [ef4, List.length_set]; exact hlen
  refine lv_aload_n hx hb dX12_init_36 rfl (lv_at hl 0 rfl) ?_
  refine lv_ldc hx hb hown (hts _ ww_c7) dX12_init_37 ?_
  refine ia_arr (atype := .int) (ty := .int) (a0 := (452000, .inl (fun _ => 0))) (nw := 452000) hx hb hts hin hown hnm hA hlen hK hP hD hS har_I rfl (fun cA => ia_I cA 452000) (by decide) (by decide) (by decide) (Nat.le_of_ble_eq_true rfl) (Nat.le_of_ble_eq_true rfl) dX12_init_39 4 (by decide) (hts _ ww_f4) rfl rfl (tyX12_ok 4 (by decide)) dX12_init_41 ?_
  clear hP hD hS hK
  intro q5 c5 H5 lo5 hK hP hD hS
  obtain ⟨ts5, et5⟩ : ∃ z, z = ts4 ++ [(c5, .int)] := ⟨_, rfl⟩
  rw [← et5] at hK
  obtain ⟨cs5, ec5⟩ : ∃ z : va_W, z = cs4 ++ [(q5, .inl (c5, 452000, .inl (fun _ => 0)))] := ⟨_, rfl⟩
  rw [← ec5] at hP hD
  obtain ⟨fs5, ef5⟩ : ∃ z, z = fs4.set 4 (.ref q5) := ⟨_, rfl⟩
  rw [← ef5] at hP hD
  replace hlen : fs5.length = 149 := by rw [ef5, List.length_set]; exact hlen
  refine lv_aload_n hx hb dX12_init_44 rfl (lv_at hl 0 rfl) ?_
  refine lv_ldc hx hb hown (hts _ ww_c26) dX12_init_45 ?_
  refine ia_arr (atype := .long) (ty := .long) (a0 := (40000, .inr (.inl (fun _ => 0)))) (nw := 40000) hx hb hts hin hown hnm hA hlen hK hP hD hS har_J rfl (fun cA => ia_J cA 40000) (by decide) (by decide) (by decide) (Nat.le_of_ble_eq_true rfl) (Nat.le_of_ble_eq_true rfl) dX12_init_47 5 (by decide) (hts _ ww_f5) rfl rfl (tyX12_ok 5 (by decide)) dX12_init_49 ?_
  clear hP hD hS hK
  intro q6 c6 H6 lo6 hK hP hD hS
  obtain ⟨ts6, et6⟩ : ∃ z, z = ts5 ++ [(c6, .long)] := ⟨_, rfl⟩
  rw [← et6] at hK
  obtain ⟨cs6, ec6⟩ : ∃ z : va_W, z = cs5 ++ [(q6, .inl (c6, 40000, .inr (.inl (fun _ => 0))))] := ⟨_, rfl⟩
  rw [← ec6] at hP hD
  obtain ⟨fs6, ef6⟩ : ∃ z, z = fs5.set 5 (.ref q6) := ⟨_, rfl⟩
  rw [← ef6] at hP hD
  replace hlen : fs6.length = 149 := by rw [ef6, List.length_set]; exact hlen
  refine lv_aload_n hx hb dX12_init_52 rfl (lv_at hl 0 rfl) ?_
  refine lv_sipush hx hb dX12_init_53 (v := 8192) rfl ?_
  refine ia_arr (atype := .int) (ty := .int) (a0 := (8192, .inl (fun _ => 0))) (nw := 8192) hx hb hts hin hown hnm hA hlen hK hP hD hS har_I rfl (fun cA => ia_I cA 8192) (by decide) (by decide) (by decide) (Nat.le_of_ble_eq_true rfl) (Nat.le_of_ble_eq_true rfl) dX12_init_56 7 (by decide) (hts _ ww_f7) rfl rfl (tyX12_ok 7 (by decide)) dX12_init_58 ?_
  clear hP hD hS hK
  intro q7 c7 H7 lo7 hK hP hD hS
  obtain ⟨ts7, et7⟩ : ∃ z, z = ts6 ++ [(c7, .int)] := ⟨_, rfl⟩
  rw [← et7] at hK
  obtain ⟨cs7, ec7⟩ : ∃ z : va_W, z = cs6 ++ [(q7, .inl (c7, 8192, .inl (fun _ => 0)))] := ⟨_, rfl⟩
  rw [← ec7] at hP hD
  obtain ⟨fs7, ef7⟩ : ∃ z, z = fs6.set 7 (.ref q7) := ⟨_, rfl⟩
  rw [← ef7] at hP hD
  replace hlen : fs7.length = 149 := by rw [ef7, List.length_set]; exact hlen
  refine lv_aload_n hx hb dX12_init_61 rfl (lv_at hl 0 rfl) ?_
  refine lv_ldc hx hb hown (hts _ ww_c34) dX12_init_62 ?_
  refine ia_arr (atype := .int) (ty := .int) (a0 := (252000, .inl (fun _ => 0))) (nw := 252000) hx hb hts hin hown hnm hA hlen hK hP hD hS har_I rfl (fun cA => ia_I cA 252000) (by decide) (by decide) (by decide) (Nat.le_of_ble_eq_true rfl) (Nat.le_of_ble_eq_true rfl) dX12_init_64 9 (by decide) (hts _ ww_f9) rfl rfl (tyX12_ok 9 (by decide)) dX12_init_66 ?_
  clear hP hD hS hK
  intro q8 c8 H8 lo8 hK hP hD hS
  obtain ⟨ts8, et8⟩ : ∃ z, z = ts7 ++ [(c8, .int)] := ⟨_, rfl⟩
  rw [← et8] at hK
  obtain ⟨cs8, ec8⟩ : ∃ z : va_W, z = cs7 ++ [(q8, .inl (c8, 252000, .inl (fun _ => 0)))] := ⟨_, rfl⟩
  rw [← ec8] at hP hD
  obtain ⟨fs8, ef8⟩ : ∃ z, z = fs7.set 9 (.ref q8) := ⟨_, rfl⟩
  rw [← ef8] at hP hD
  replace hlen : fs8.length = 149 := by rw [ef8, List.length_set]; exact hlen
  have eF8 : fs8 = [.ref q1, .ref q2, .ref q3, .ref q4, .ref q5, .ref q6, .int 0, .ref q7, .int 0, .ref q8, .null, .int 0, .null, .null, .int 0, .null, .int 0, .null, .int 0, .null, .int 0, .null, .int 0, .int 0, .int 0, .int 0, .null, .null, .null, .null, .int 0, .null, .int 0, .int 0, .int 0, .int 0, .null, .null, .null, .null, .null, .null, .int 0, .null, .null, .null, .null, .null, .null, .null, .null, .null, .null, .null, .int 0, .null, .null, .int 0, .int 0, .int 0, .int 0, .int 0, .int 0, .int 0, .int 0, .null, .null, .null, .null, .int 0, .null, .int 0, .null, .null, .int 0, .null, .int 0, .null, .int 0, .null, .null, .null, .null, .null, .null, .int 0, .null, .int 0, .int 0, .int 0, .int 0, .int 0, .null, .null, .null, .null, .null, .null, .null, .null, .null, .null, .int 0, .null, .int 0, .null, .null, .null, .null, .int 0, .int 0, .int 0, .null, .null, .null, .null, .null, .int 0, .null, .int 0, .null, .null, .int 0, .null, .null, .null, .int 0, .null, .null, .null, .null, .int 0, .int 0, .int 0, .int 0, .int 0, .int 0, .null, .null, .int 0, .null, .null, .null, .null, .int 0, .null, .null, .int 0, .int 0] := by
    rw [ef8, ef7, ef6, ef5, ef4, ef3, ef2, ef1, eF0]
    rfl
  have eC8 : cs8 = [(q1, .inl (c1, 452000, .inl (fun _ => 0))), (q2, .inl (c2, 452000, .inl (fun _ => 0))), (q3, .inl (c3, 452000, .inl (fun _ => 0))), (q4, .inl (c4, 452000, .inl (fun _ => 0))), (q5, .inl (c5, 452000, .inl (fun _ => 0))), (q6, .inl (c6, 40000, .inr (.inl (fun _ => 0)))), (q7, .inl (c7, 8192, .inl (fun _ => 0))), (q8, .inl (c8, 252000, .inl (fun _ => 0)))] := by
    rw [ec8, ec7, ec6, ec5, ec4, ec3, ec2, ec1, eC0]
    rfl
  have eT8 : ts8 = [(c1, .int), (c2, .int), (c3, .int), (c4, .int), (c5, .int), (c6, .long), (c7, .int), (c8, .int)] := by
    rw [et8, et7, et6, et5, et4, et3, et2, et1, eT0]
    rfl
  clear ec8 et8 ec7 et7 ec6 et6 ec5 et5 ec4 et4 ec3 et3 ec2 et2 ec1 et1 eC0 eT0
  clear ef8 ef7 ef6 ef5 ef4 ef3 ef2 ef1 eF0
  refine lv_aload_n hx hb dX12_init_69 rfl (lv_at hl 0 rfl) ?_
  refine lv_sipush hx hb dX12_init_70 (v := 21000) rfl ?_
  refine ia_arr (atype := .int) (ty := .int) (a0 := (21000, .inl (fun _ => 0))) (nw := 21000) hx hb hts hin hown hnm hA hlen hK hP hD hS har_I rfl (fun cA => ia_I cA 21000) (by decide) (by decide) (by decide) (Nat.le_of_ble_eq_true rfl) (Nat.le_of_ble_eq_true rfl) dX12_init_73 10 (by decide) (hts _ ww_f10) rfl rfl (tyX12_ok 10 (by decide)) dX12_init_75 ?_
  clear hP hD hS hK
  intro q9 c9 H9 lo9 hK hP hD hS
  obtain ⟨ts9, et9⟩ : ∃ z, z = ts8 ++ [(c9, .int)] := ⟨_, rfl⟩
  rw [← et9] at hK
  obtain ⟨cs9, ec9⟩ : ∃ z : va_W, z = cs8 ++ [(q9, .inl (c9, 21000, .inl (fun _ => 0)))] := ⟨_, rfl⟩
  rw [← ec9] at hP hD
  obtain ⟨fs9, ef9⟩ : ∃ z, z = fs8.set 10 (.ref q9) := ⟨_, rfl⟩
  rw [← ef9] at hP hD
  replace hlen : fs9.length = 149 := by rw [ef9, List.length_set]; exact hlen
  refine lv_aload_n hx hb dX12_init_78 rfl (lv_at hl 0 rfl) ?_
  refine lv_bipush hx hb dX12_init_79 (v := 20) rfl ?_
  refine ia_arr (atype := .int) (ty := .int) (a0 := (20, .inl (fun _ => 0))) (nw := 20) hx hb hts hin hown hnm hA hlen hK hP hD hS har_I rfl (fun cA => ia_I cA 20) (by decide) (by decide) (by decide) (Nat.le_of_ble_eq_true rfl) (Nat.le_of_ble_eq_true rfl) dX12_init_81 12 (by decide) (hts _ ww_f12) rfl rfl (tyX12_ok 12 (by decide)) dX12_init_83 ?_
  clear hP hD hS hK
  intro q10 c10 H10 lo10 hK hP hD hS
  obtain ⟨ts10, et10⟩ : ∃ z, z = ts9 ++ [(c10, .int)] := ⟨_, rfl⟩
  rw [← et10] at hK
  obtain ⟨cs10, ec10⟩ : ∃ z : va_W, z = cs9 ++ [(q10, .inl (c10, 20, .inl (fun _ => 0)))] := ⟨_, rfl⟩
  rw [← ec10] at hP hD
  obtain ⟨fs10, ef10⟩ : ∃ z, z = fs9.set 12 (.ref q10) := ⟨_, rfl⟩
  rw [← ef10] at hP hD
  replace hlen : fs10.length = 149 := by rw [ef10, List.length_set]; exact hlen
  refine lv_aload_n hx hb dX12_init_86 rfl (lv_at hl 0 rfl) ?_
  refine lv_sipush hx hb dX12_init_87 (v := 3000) rfl ?_
  refine ia_arr (atype := .int) (ty := .int) (a0 := (3000, .inl (fun _ => 0))) (nw := 3000) hx hb hts hin hown hnm hA hlen hK hP hD hS har_I rfl (fun cA => ia_I cA 3000) (by decide) (by decide) (by decide) (Nat.le_of_ble_eq_true rfl) (Nat.le_of_ble_eq_true rfl) dX12_init_90 13 (by decide) (hts _ ww_f13) rfl rfl (tyX12_ok 13 (by decide)) dX12_init_92 ?_
  clear hP hD hS hK
  intro q11 c11 H11 lo11 hK hP hD hS
  obtain ⟨ts11, et11⟩ : ∃ z, z = ts10 ++ [(c11, .int)] := ⟨_, rfl⟩
  rw [← et11] at hK
  obtain ⟨cs11, ec11⟩ : ∃ z : va_W, z = cs10 ++ [(q11, .inl (c11, 3000, .inl (fun _ => 0)))] := ⟨_, rfl⟩
  rw [← ec11] at hP hD
  obtain ⟨fs11, ef11⟩ : ∃ z, z = fs10.set 13 (.ref q11) := ⟨_, rfl⟩
  rw [← ef11] at hP hD
  replace hlen : fs11.length = 149 := by rw [ef11, List.length_set]; exact hlen
  refine lv_aload_n hx hb dX12_init_95 rfl (lv_at hl 0 rfl) ?_
  refine lv_sipush hx hb dX12_init_96 (v := 2000) rfl ?_
  refine ia_arr (atype := .int) (ty := .int) (a0 := (2000, .inl (fun _ => 0))) (nw := 2000) hx hb hts hin hown hnm hA hlen hK hP hD hS har_I rfl (fun cA => ia_I cA 2000) (by decide) (by decide) (by decide) (Nat.le_of_ble_eq_true rfl) (Nat.le_of_ble_eq_true rfl) dX12_init_99 15 (by decide) (hts _ ww_f15) rfl rfl (tyX12_ok 15 (by decide)) dX12_init_101 ?_
  clear hP hD hS hK
  intro q12 c12 H12 lo12 hK hP hD hS
  obtain ⟨ts12, et12⟩ : ∃ z, z = ts11 ++ [(c12, .int)] := ⟨_, rfl⟩
  rw [← et12] at hK
  obtain ⟨cs12, ec12⟩ : ∃ z : va_W, z = cs11 ++ [(q12, .inl (c12, 2000, .inl (fun _ => 0)))] := ⟨_, rfl⟩
  rw [← ec12] at hP hD
  obtain ⟨fs12, ef12⟩ : ∃ z, z = fs11.set 15 (.ref q12) := ⟨_, rfl⟩
  rw [← ef12] at hP hD
  replace hlen : fs12.length = 149 := by rw [ef12, List.length_set]; exact hlen
  refine lv_aload_n hx hb dX12_init_104 rfl (lv_at hl 0 rfl) ?_
  refine lv_bipush hx hb dX12_init_105 (v := 12) rfl ?_
  refine ia_arr (atype := .int) (ty := .int) (a0 := (12, .inl (fun _ => 0))) (nw := 12) hx hb hts hin hown hnm hA hlen hK hP hD hS har_I rfl (fun cA => ia_I cA 12) (by decide) (by decide) (by decide) (Nat.le_of_ble_eq_true rfl) (Nat.le_of_ble_eq_true rfl) dX12_init_107 17 (by decide) (hts _ ww_f17) rfl rfl (tyX12_ok 17 (by decide)) dX12_init_109 ?_
  clear hP hD hS hK
  intro q13 c13 H13 lo13 hK hP hD hS
  obtain ⟨ts13, et13⟩ : ∃ z, z = ts12 ++ [(c13, .int)] := ⟨_, rfl⟩
  rw [← et13] at hK
  obtain ⟨cs13, ec13⟩ : ∃ z : va_W, z = cs12 ++ [(q13, .inl (c13, 12, .inl (fun _ => 0)))] := ⟨_, rfl⟩
  rw [← ec13] at hP hD
  obtain ⟨fs13, ef13⟩ : ∃ z, z = fs12.set 17 (.ref q13) := ⟨_, rfl⟩
  rw [← ef13] at hP hD
  replace hlen : fs13.length = 149 := by rw [ef13, List.length_set]; exact hlen
  refine lv_aload_n hx hb dX12_init_112 rfl (lv_at hl 0 rfl) ?_
  refine lv_sipush hx hb dX12_init_113 (v := 4000) rfl ?_
  refine ia_arr (atype := .int) (ty := .int) (a0 := (4000, .inl (fun _ => 0))) (nw := 4000) hx hb hts hin hown hnm hA hlen hK hP hD hS har_I rfl (fun cA => ia_I cA 4000) (by decide) (by decide) (by decide) (Nat.le_of_ble_eq_true rfl) (Nat.le_of_ble_eq_true rfl) dX12_init_116 19 (by decide) (hts _ ww_f19) rfl rfl (tyX12_ok 19 (by decide)) dX12_init_118 ?_
  clear hP hD hS hK
  intro q14 c14 H14 lo14 hK hP hD hS
  obtain ⟨ts14, et14⟩ : ∃ z, z = ts13 ++ [(c14, .int)] := ⟨_, rfl⟩
  rw [← et14] at hK
  obtain ⟨cs14, ec14⟩ : ∃ z : va_W, z = cs13 ++ [(q14, .inl (c14, 4000, .inl (fun _ => 0)))] := ⟨_, rfl⟩
  rw [← ec14] at hP hD
  obtain ⟨fs14, ef14⟩ : ∃ z, z = fs13.set 19 (.ref q14) := ⟨_, rfl⟩
  rw [← ef14] at hP hD
  replace hlen : fs14.length = 149 := by rw [ef14, List.length_set]; exact hlen
  refine lv_aload_n hx hb dX12_init_121 rfl (lv_at hl 0 rfl) ?_
  refine lv_sipush hx hb dX12_init_122 (v := 200) rfl ?_
  refine ia_arr (atype := .int) (ty := .int) (a0 := (200, .inl (fun _ => 0))) (nw := 200) hx hb hts hin hown hnm hA hlen hK hP hD hS har_I rfl (fun cA => ia_I cA 200) (by decide) (by decide) (by decide) (Nat.le_of_ble_eq_true rfl) (Nat.le_of_ble_eq_true rfl) dX12_init_125 21 (by decide) (hts _ ww_f21) rfl rfl (tyX12_ok 21 (by decide)) dX12_init_127 ?_
  clear hP hD hS hK
  intro q15 c15 H15 lo15 hK hP hD hS
  obtain ⟨ts15, et15⟩ : ∃ z, z = ts14 ++ [(c15, .int)] := ⟨_, rfl⟩
  rw [← et15] at hK
  obtain ⟨cs15, ec15⟩ : ∃ z : va_W, z = cs14 ++ [(q15, .inl (c15, 200, .inl (fun _ => 0)))] := ⟨_, rfl⟩
  rw [← ec15] at hP hD
  obtain ⟨fs15, ef15⟩ : ∃ z, z = fs14.set 21 (.ref q15) := ⟨_, rfl⟩
  rw [← ef15] at hP hD
  replace hlen : fs15.length = 149 := by rw [ef15, List.length_set]; exact hlen
  refine lv_aload_n hx hb dX12_init_130 rfl (lv_at hl 0 rfl) ?_
  refine lv_iconst hx hb dX12_init_131 (v := (-1)) rfl ?_
  refine va_put (D := D) (ci := 12) (v := .int (-1)) (ty := .int) (C := RX12) (T := TX12) (N := 149) hx hb hts hin tyX12 tyX12_ok nmX12 hown hK hP hD hS 0 rfl rfl 25 (by decide) (hts _ ww_f25) (fun _ h9 => h9) rfl (tyX12_ok 25 (by decide)) rfl rfl (by rw [hlen]; decide) dX12_init_132 ?_
  clear hP hD hS
  intro G15 go15 hP hD hS
  obtain ⟨fs16, ef16⟩ : ∃ z, z = fs15.set 25 (.int (-1)) := ⟨_, rfl⟩
  replace hP : va_P D vwCl ((h0, .inr (12, fs16)) :: cs15) G15 := by rw [ef16]; exact hP
  replace hD : va_D A ((h0, .inr (12, fs16)) :: cs15) := by rw [ef16]; exact hD
  replace hlen : fs16.length = 149 := by rw [ef16, List.length_set]; exact hlen
  refine lv_aload_n hx hb dX12_init_135 rfl (lv_at hl 0 rfl) ?_
  refine lv_bipush hx hb dX12_init_136 (v := 40) rfl ?_
  refine ia_arr (atype := .int) (ty := .int) (a0 := (40, .inl (fun _ => 0))) (nw := 40) hx hb hts hin hown hnm hA hlen hK hP hD hS har_I rfl (fun cA => ia_I cA 40) (by decide) (by decide) (by decide) (Nat.le_of_ble_eq_true rfl) (Nat.le_of_ble_eq_true rfl) dX12_init_138 26 (by decide) (hts _ ww_f26) rfl rfl (tyX12_ok 26 (by decide)) dX12_init_140 ?_
  clear hP hD hS hK
  intro q16 c16 H16 lo16 hK hP hD hS
  obtain ⟨ts16, et16⟩ : ∃ z, z = ts15 ++ [(c16, .int)] := ⟨_, rfl⟩
  rw [← et16] at hK
  obtain ⟨cs16, ec16⟩ : ∃ z : va_W, z = cs15 ++ [(q16, .inl (c16, 40, .inl (fun _ => 0)))] := ⟨_, rfl⟩
  rw [← ec16] at hP hD
  obtain ⟨fs17, ef17⟩ : ∃ z, z = fs16.set 26 (.ref q16) := ⟨_, rfl⟩
  rw [← ef17] at hP hD
  replace hlen : fs17.length = 149 := by rw [ef17, List.length_set]; exact hlen
  have eF17 : fs17 = [.ref q1, .ref q2, .ref q3, .ref q4, .ref q5, .ref q6, .int 0, .ref q7, .int 0, .ref q8, .ref q9, .int 0, .ref q10, .ref q11, .int 0, .ref q12, .int 0, .ref q13, .int 0, .ref q14, .int 0, .ref q15, .int 0, .int 0, .int 0, .int (-1), .ref q16, .null, .null, .null, .int 0, .null, .int 0, .int 0, .int 0, .int 0, .null, .null, .null, .null, .null, .null, .int 0, .null, .null, .null, .null, .null, .null, .null, .null, .null, .null, .null, .int 0, .null, .null, .int 0, .int 0, .int 0, .int 0, .int 0, .int 0, .int 0, .int 0, .null, .null, .null, .null, .int 0, .null, .int 0, .null, .null, .int 0, .null, .int 0, .null, .int 0, .null, .null, .null, .null, .null, .null, .int 0, .null, .int 0, .int 0, .int 0, .int 0, .int 0, .null, .null, .null, .null, .null, .null, .null, .null, .null, .null, .int 0, .null, .int 0, .null, .null, .null, .null, .int 0, .int 0, .int 0, .null, .null, .null, .null, .null, .int 0, .null, .int 0, .null, .null, .int 0, .null, .null, .null, .int 0, .null, .null, .null, .null, .int 0, .int 0, .int 0, .int 0, .int 0, .int 0, .null, .null, .int 0, .null, .null, .null, .null, .int 0, .null, .null, .int 0, .int 0] := by
    rw [ef17, ef16, ef15, ef14, ef13, ef12, ef11, ef10, ef9, eF8]
    rfl
  have eC16 : cs16 = [(q1, .inl (c1, 452000, .inl (fun _ => 0))), (q2, .inl (c2, 452000, .inl (fun _ => 0))), (q3, .inl (c3, 452000, .inl (fun _ => 0))), (q4, .inl (c4, 452000, .inl (fun _ => 0))), (q5, .inl (c5, 452000, .inl (fun _ => 0))), (q6, .inl (c6, 40000, .inr (.inl (fun _ => 0)))), (q7, .inl (c7, 8192, .inl (fun _ => 0))), (q8, .inl (c8, 252000, .inl (fun _ => 0))), (q9, .inl (c9, 21000, .inl (fun _ => 0))), (q10, .inl (c10, 20, .inl (fun _ => 0))), (q11, .inl (c11, 3000, .inl (fun _ => 0))), (q12, .inl (c12, 2000, .inl (fun _ => 0))), (q13, .inl (c13, 12, .inl (fun _ => 0))), (q14, .inl (c14, 4000, .inl (fun _ => 0))), (q15, .inl (c15, 200, .inl (fun _ => 0))), (q16, .inl (c16, 40, .inl (fun _ => 0)))] := by
    rw [ec16, ec15, ec14, ec13, ec12, ec11, ec10, ec9, eC8]
    rfl
  have eT16 : ts16 = [(c1, .int), (c2, .int), (c3, .int), (c4, .int), (c5, .int), (c6, .long), (c7, .int), (c8, .int), (c9, .int), (c10, .int), (c11, .int), (c12, .int), (c13, .int), (c14, .int), (c15, .int), (c16, .int)] := by
    rw [et16, et15, et14, et13, et12, et11, et10, et9, eT8]
    rfl
  clear ec16 et16 ec15 et15 ec14 et14 ec13 et13 ec12 et12 ec11 et11 ec10 et10 ec9 et9 eC8 eT8
  clear ef17 ef16 ef15 ef14 ef13 ef12 ef11 ef10 ef9 eF8
  refine lv_aload_n hx hb dX12_init_143 rfl (lv_at hl 0 rfl) ?_
  refine lv_bipush hx hb dX12_init_144 (v := 40) rfl ?_
  refine ia_arr (atype := .int) (ty := .int) (a0 := (40, .inl (fun _ => 0))) (nw := 40) hx hb hts hin hown hnm hA hlen hK hP hD hS har_I rfl (fun cA => ia_I cA 40) (by decide) (by decide) (by decide) (Nat.le_of_ble_eq_true rfl) (Nat.le_of_ble_eq_true rfl) dX12_init_146 27 (by decide) (hts _ ww_f27) rfl rfl (tyX12_ok 27 (by decide)) dX12_init_148 ?_
  clear hP hD hS hK
  intro q17 c17 H17 lo17 hK hP hD hS
  obtain ⟨ts17, et17⟩ : ∃ z, z = ts16 ++ [(c17, .int)] := ⟨_, rfl⟩
  rw [← et17] at hK
  obtain ⟨cs17, ec17⟩ : ∃ z : va_W, z = cs16 ++ [(q17, .inl (c17, 40, .inl (fun _ => 0)))] := ⟨_, rfl⟩
  rw [← ec17] at hP hD
  obtain ⟨fs18, ef18⟩ : ∃ z, z = fs17.set 27 (.ref q17) := ⟨_, rfl⟩
  rw [← ef18] at hP hD
  replace hlen : fs18.length = 149 := by rw [ef18, List.length_set]; exact hlen
  refine lv_aload_n hx hb dX12_init_151 rfl (lv_at hl 0 rfl) ?_
  refine lv_bipush hx hb dX12_init_152 (v := 40) rfl ?_
  refine ia_arr (atype := .int) (ty := .int) (a0 := (40, .inl (fun _ => 0))) (nw := 40) hx hb hts hin hown hnm hA hlen hK hP hD hS har_I rfl (fun cA => ia_I cA 40) (by decide) (by decide) (by decide) (Nat.le_of_ble_eq_true rfl) (Nat.le_of_ble_eq_true rfl) dX12_init_154 28 (by decide) (hts _ ww_f28) rfl rfl (tyX12_ok 28 (by decide)) dX12_init_156 ?_
  clear hP hD hS hK
  intro q18 c18 H18 lo18 hK hP hD hS
  obtain ⟨ts18, et18⟩ : ∃ z, z = ts17 ++ [(c18, .int)] := ⟨_, rfl⟩
  rw [← et18] at hK
  obtain ⟨cs18, ec18⟩ : ∃ z : va_W, z = cs17 ++ [(q18, .inl (c18, 40, .inl (fun _ => 0)))] := ⟨_, rfl⟩
  rw [← ec18] at hP hD
  obtain ⟨fs19, ef19⟩ : ∃ z, z = fs18.set 28 (.ref q18) := ⟨_, rfl⟩
  rw [← ef19] at hP hD
  replace hlen : fs19.length = 149 := by rw [ef19, List.length_set]; exact hlen
  refine lv_aload_n hx hb dX12_init_159 rfl (lv_at hl 0 rfl) ?_
  refine lv_bipush hx hb dX12_init_160 (v := 40) rfl ?_
  refine ia_arr (atype := .int) (ty := .int) (a0 := (40, .inl (fun _ => 0))) (nw := 40) hx hb hts hin hown hnm hA hlen hK hP hD hS har_I rfl (fun cA => ia_I cA 40) (by decide) (by decide) (by decide) (Nat.le_of_ble_eq_true rfl) (Nat.le_of_ble_eq_true rfl) dX12_init_162 29 (by decide) (hts _ ww_f29) rfl rfl (tyX12_ok 29 (by decide)) dX12_init_164 ?_
  clear hP hD hS hK
  intro q19 c19 H19 lo19 hK hP hD hS
  obtain ⟨ts19, et19⟩ : ∃ z, z = ts18 ++ [(c19, .int)] := ⟨_, rfl⟩
  rw [← et19] at hK
  obtain ⟨cs19, ec19⟩ : ∃ z : va_W, z = cs18 ++ [(q19, .inl (c19, 40, .inl (fun _ => 0)))] := ⟨_, rfl⟩
  rw [← ec19] at hP hD
  obtain ⟨fs20, ef20⟩ : ∃ z, z = fs19.set 29 (.ref q19) := ⟨_, rfl⟩
  rw [← ef20] at hP hD
  replace hlen : fs20.length = 149 := by rw [ef20, List.length_set]; exact hlen
  refine lv_aload_n hx hb dX12_init_167 rfl (lv_at hl 0 rfl) ?_
  refine lv_sipush hx hb dX12_init_168 (v := 1100) rfl ?_
  refine ia_arr (atype := .int) (ty := .int) (a0 := (1100, .inl (fun _ => 0))) (nw := 1100) hx hb hts hin hown hnm hA hlen hK hP hD hS har_I rfl (fun cA => ia_I cA 1100) (by decide) (by decide) (by decide) (Nat.le_of_ble_eq_true rfl) (Nat.le_of_ble_eq_true rfl) dX12_init_171 31 (by decide) (hts _ ww_f31) rfl rfl (tyX12_ok 31 (by decide)) dX12_init_173 ?_
  clear hP hD hS hK
  intro q20 c20 H20 lo20 hK hP hD hS
  obtain ⟨ts20, et20⟩ : ∃ z, z = ts19 ++ [(c20, .int)] := ⟨_, rfl⟩
  rw [← et20] at hK
  obtain ⟨cs20, ec20⟩ : ∃ z : va_W, z = cs19 ++ [(q20, .inl (c20, 1100, .inl (fun _ => 0)))] := ⟨_, rfl⟩
  rw [← ec20] at hP hD
  obtain ⟨fs21, ef21⟩ : ∃ z, z = fs20.set 31 (.ref q20) := ⟨_, rfl⟩
  rw [← ef21] at hP hD
  replace hlen : fs21.length = 149 := by rw [ef21, List.length_set]; exact hlen
  refine lv_aload_n hx hb dX12_init_176 rfl (lv_at hl 0 rfl) ?_
  refine lv_bipush hx hb dX12_init_177 (v := 40) rfl ?_
  refine ia_arr (atype := .int) (ty := .int) (a0 := (40, .inl (fun _ => 0))) (nw := 40) hx hb hts hin hown hnm hA hlen hK hP hD hS har_I rfl (fun cA => ia_I cA 40) (by decide) (by decide) (by decide) (Nat.le_of_ble_eq_true rfl) (Nat.le_of_ble_eq_true rfl) dX12_init_179 36 (by decide) (hts _ ww_f36) rfl rfl (tyX12_ok 36 (by decide)) dX12_init_181 ?_
  clear hP hD hS hK
  intro q21 c21 H21 lo21 hK hP hD hS
  obtain ⟨ts21, et21⟩ : ∃ z, z = ts20 ++ [(c21, .int)] := ⟨_, rfl⟩
  rw [← et21] at hK
  obtain ⟨cs21, ec21⟩ : ∃ z : va_W, z = cs20 ++ [(q21, .inl (c21, 40, .inl (fun _ => 0)))] := ⟨_, rfl⟩
  rw [← ec21] at hP hD
  obtain ⟨fs22, ef22⟩ : ∃ z, z = fs21.set 36 (.ref q21) := ⟨_, rfl⟩
  rw [← ef22] at hP hD
  replace hlen : fs22.length = 149 := by rw [ef22, List.length_set]; exact hlen
  refine lv_aload_n hx hb dX12_init_184 rfl (lv_at hl 0 rfl) ?_
  refine lv_bipush hx hb dX12_init_185 (v := 40) rfl ?_
  refine ia_arr (atype := .int) (ty := .int) (a0 := (40, .inl (fun _ => 0))) (nw := 40) hx hb hts hin hown hnm hA hlen hK hP hD hS har_I rfl (fun cA => ia_I cA 40) (by decide) (by decide) (by decide) (Nat.le_of_ble_eq_true rfl) (Nat.le_of_ble_eq_true rfl) dX12_init_187 37 (by decide) (hts _ ww_f37) rfl rfl (tyX12_ok 37 (by decide)) dX12_init_189 ?_
  clear hP hD hS hK
  intro q22 c22 H22 lo22 hK hP hD hS
  obtain ⟨ts22, et22⟩ : ∃ z, z = ts21 ++ [(c22, .int)] := ⟨_, rfl⟩
  rw [← et22] at hK
  obtain ⟨cs22, ec22⟩ : ∃ z : va_W, z = cs21 ++ [(q22, .inl (c22, 40, .inl (fun _ => 0)))] := ⟨_, rfl⟩
  rw [← ec22] at hP hD
  obtain ⟨fs23, ef23⟩ : ∃ z, z = fs22.set 37 (.ref q22) := ⟨_, rfl⟩
  rw [← ef23] at hP hD
  replace hlen : fs23.length = 149 := by rw [ef23, List.length_set]; exact hlen
  refine lv_aload_n hx hb dX12_init_192 rfl (lv_at hl 0 rfl) ?_
  refine lv_sipush hx hb dX12_init_193 (v := 240) rfl ?_
  refine ia_arr (atype := .int) (ty := .int) (a0 := (240, .inl (fun _ => 0))) (nw := 240) hx hb hts hin hown hnm hA hlen hK hP hD hS har_I rfl (fun cA => ia_I cA 240) (by decide) (by decide) (by decide) (Nat.le_of_ble_eq_true rfl) (Nat.le_of_ble_eq_true rfl) dX12_init_196 38 (by decide) (hts _ ww_f38) rfl rfl (tyX12_ok 38 (by decide)) dX12_init_198 ?_
  clear hP hD hS hK
  intro q23 c23 H23 lo23 hK hP hD hS
  obtain ⟨ts23, et23⟩ : ∃ z, z = ts22 ++ [(c23, .int)] := ⟨_, rfl⟩
  rw [← et23] at hK
  obtain ⟨cs23, ec23⟩ : ∃ z : va_W, z = cs22 ++ [(q23, .inl (c23, 240, .inl (fun _ => 0)))] := ⟨_, rfl⟩
  rw [← ec23] at hP hD
  obtain ⟨fs24, ef24⟩ : ∃ z, z = fs23.set 38 (.ref q23) := ⟨_, rfl⟩
  rw [← ef24] at hP hD
  replace hlen : fs24.length = 149 := by rw [ef24, List.length_set]; exact hlen
  refine lv_aload_n hx hb dX12_init_201 rfl (lv_at hl 0 rfl) ?_
  refine lv_bipush hx hb dX12_init_202 (v := 40) rfl ?_
  refine ia_arr (atype := .int) (ty := .int) (a0 := (40, .inl (fun _ => 0))) (nw := 40) hx hb hts hin hown hnm hA hlen hK hP hD hS har_I rfl (fun cA => ia_I cA 40) (by decide) (by decide) (by decide) (Nat.le_of_ble_eq_true rfl) (Nat.le_of_ble_eq_true rfl) dX12_init_204 39 (by decide) (hts _ ww_f39) rfl rfl (tyX12_ok 39 (by decide)) dX12_init_206 ?_
  clear hP hD hS hK
  intro q24 c24 H24 lo24 hK hP hD hS
  obtain ⟨ts24, et24⟩ : ∃ z, z = ts23 ++ [(c24, .int)] := ⟨_, rfl⟩
  rw [← et24] at hK
  obtain ⟨cs24, ec24⟩ : ∃ z : va_W, z = cs23 ++ [(q24, .inl (c24, 40, .inl (fun _ => 0)))] := ⟨_, rfl⟩
  rw [← ec24] at hP hD
  obtain ⟨fs25, ef25⟩ : ∃ z, z = fs24.set 39 (.ref q24) := ⟨_, rfl⟩
  rw [← ef25] at hP hD
  replace hlen : fs25.length = 149 := by rw [ef25, List.length_set]; exact hlen
  have eF25 : fs25 = [.ref q1, .ref q2, .ref q3, .ref q4, .ref q5, .ref q6, .int 0, .ref q7, .int 0, .ref q8, .ref q9, .int 0, .ref q10, .ref q11, .int 0, .ref q12, .int 0, .ref q13, .int 0, .ref q14, .int 0, .ref q15, .int 0, .int 0, .int 0, .int (-1), .ref q16, .ref q17, .ref q18, .ref q19, .int 0, .ref q20, .int 0, .int 0, .int 0, .int 0, .ref q21, .ref q22, .ref q23, .ref q24, .null, .null, .int 0, .null, .null, .null, .null, .null, .null, .null, .null, .null, .null, .null, .int 0, .null, .null, .int 0, .int 0, .int 0, .int 0, .int 0, .int 0, .int 0, .int 0, .null, .null, .null, .null, .int 0, .null, .int 0, .null, .null, .int 0, .null, .int 0, .null, .int 0, .null, .null, .null, .null, .null, .null, .int 0, .null, .int 0, .int 0, .int 0, .int 0, .int 0, .null, .null, .null, .null, .null, .null, .null, .null, .null, .null, .int 0, .null, .int 0, .null, .null, .null, .null, .int 0, .int 0, .int 0, .null, .null, .null, .null, .null, .int 0, .null, .int 0, .null, .null, .int 0, .null, .null, .null, .int 0, .null, .null, .null, .null, .int 0, .int 0, .int 0, .int 0, .int 0, .int 0, .null, .null, .int 0, .null, .null, .null, .null, .int 0, .null, .null, .int 0, .int 0] := by
    rw [ef25, ef24, ef23, ef22, ef21, ef20, ef19, ef18, eF17]
    rfl
  have eC24 : cs24 = [(q1, .inl (c1, 452000, .inl (fun _ => 0))), (q2, .inl (c2, 452000, .inl (fun _ => 0))), (q3, .inl (c3, 452000, .inl (fun _ => 0))), (q4, .inl (c4, 452000, .inl (fun _ => 0))), (q5, .inl (c5, 452000, .inl (fun _ => 0))), (q6, .inl (c6, 40000, .inr (.inl (fun _ => 0)))), (q7, .inl (c7, 8192, .inl (fun _ => 0))), (q8, .inl (c8, 252000, .inl (fun _ => 0))), (q9, .inl (c9, 21000, .inl (fun _ => 0))), (q10, .inl (c10, 20, .inl (fun _ => 0))), (q11, .inl (c11, 3000, .inl (fun _ => 0))), (q12, .inl (c12, 2000, .inl (fun _ => 0))), (q13, .inl (c13, 12, .inl (fun _ => 0))), (q14, .inl (c14, 4000, .inl (fun _ => 0))), (q15, .inl (c15, 200, .inl (fun _ => 0))), (q16, .inl (c16, 40, .inl (fun _ => 0))), (q17, .inl (c17, 40, .inl (fun _ => 0))), (q18, .inl (c18, 40, .inl (fun _ => 0))), (q19, .inl (c19, 40, .inl (fun _ => 0))), (q20, .inl (c20, 1100, .inl (fun _ => 0))), (q21, .inl (c21, 40, .inl (fun _ => 0))), (q22, .inl (c22, 40, .inl (fun _ => 0))), (q23, .inl (c23, 240, .inl (fun _ => 0))), (q24, .inl (c24, 40, .inl (fun _ => 0)))] := by
    rw [ec24, ec23, ec22, ec21, ec20, ec19, ec18, ec17, eC16]
    rfl
  have eT24 : ts24 = [(c1, .int), (c2, .int), (c3, .int), (c4, .int), (c5, .int), (c6, .long), (c7, .int), (c8, .int), (c9, .int), (c10, .int), (c11, .int), (c12, .int), (c13, .int), (c14, .int), (c15, .int), (c16, .int), (c17, .int), (c18, .int), (c19, .int), (c20, .int), (c21, .int), (c22, .int), (c23, .int), (c24, .int)] := by
    rw [et24, et23, et22, et21, et20, et19, et18, et17, eT16]
    rfl
  clear ec24 et24 ec23 et23 ec22 et22 ec21 et21 ec20 et20 ec19 et19 ec18 et18 ec17 et17 eC16 eT16
  clear ef25 ef24 ef23 ef22 ef21 ef20 ef19 ef18 eF17
  refine lv_aload_n hx hb dX12_init_209 rfl (lv_at hl 0 rfl) ?_
  refine lv_bipush hx hb dX12_init_210 (v := 40) rfl ?_
  refine ia_arr (atype := .int) (ty := .int) (a0 := (40, .inl (fun _ => 0))) (nw := 40) hx hb hts hin hown hnm hA hlen hK hP hD hS har_I rfl (fun cA => ia_I cA 40) (by decide) (by decide) (by decide) (Nat.le_of_ble_eq_true rfl) (Nat.le_of_ble_eq_true rfl) dX12_init_212 40 (by decide) (hts _ ww_f40) rfl rfl (tyX12_ok 40 (by decide)) dX12_init_214 ?_
  clear hP hD hS hK
  intro q25 c25 H25 lo25 hK hP hD hS
  obtain ⟨ts25, et25⟩ : ∃ z, z = ts24 ++ [(c25, .int)] := ⟨_, rfl⟩
  rw [← et25] at hK
  obtain ⟨cs25, ec25⟩ : ∃ z : va_W, z = cs24 ++ [(q25, .inl (c25, 40, .inl (fun _ => 0)))] := ⟨_, rfl⟩
  rw [← ec25] at hP hD
  obtain ⟨fs26, ef26⟩ : ∃ z, z = fs25.set 40 (.ref q25) := ⟨_, rfl⟩
  rw [← ef26] at hP hD
  replace hlen : fs26.length = 149 := by rw [ef26, List.length_set]; exact hlen
  refine lv_aload_n hx hb dX12_init_217 rfl (lv_at hl 0 rfl) ?_
  refine lv_bipush hx hb dX12_init_218 (v := 40) rfl ?_
  refine ia_arr (atype := .boolean) (ty := .boolean) (a0 := (40, .inl (fun _ => 0))) (nw := 40) hx hb hts hin hown hnm hA hlen hK hP hD hS har_Z rfl (fun cA => ia_Z cA 40) (by decide) (by decide) (by decide) (Nat.le_of_ble_eq_true rfl) (Nat.le_of_ble_eq_true rfl) dX12_init_220 41 (by decide) (hts _ ww_f41) rfl rfl (tyX12_ok 41 (by decide)) dX12_init_222 ?_
  clear hP hD hS hK
  intro q26 c26 H26 lo26 hK hP hD hS
  obtain ⟨ts26, et26⟩ : ∃ z, z = ts25 ++ [(c26, .boolean)] := ⟨_, rfl⟩
  rw [← et26] at hK
  obtain ⟨cs26, ec26⟩ : ∃ z : va_W, z = cs25 ++ [(q26, .inl (c26, 40, .inl (fun _ => 0)))] := ⟨_, rfl⟩
  rw [← ec26] at hP hD
  obtain ⟨fs27, ef27⟩ : ∃ z, z = fs26.set 41 (.ref q26) := ⟨_, rfl⟩
  rw [← ef27] at hP hD
  replace hlen : fs27.length = 149 := by rw [ef27, List.length_set]; exact hlen
  refine lv_aload_n hx hb dX12_init_225 rfl (lv_at hl 0 rfl) ?_
  refine lv_bipush hx hb dX12_init_226 (v := 60) rfl ?_
  refine ia_arr (atype := .int) (ty := .int) (a0 := (60, .inl (fun _ => 0))) (nw := 60) hx hb hts hin hown hnm hA hlen hK hP hD hS har_I rfl (fun cA => ia_I cA 60) (by decide) (by decide) (by decide) (Nat.le_of_ble_eq_true rfl) (Nat.le_of_ble_eq_true rfl) dX12_init_228 43 (by decide) (hts _ ww_f43) rfl rfl (tyX12_ok 43 (by decide)) dX12_init_230 ?_
  clear hP hD hS hK
  intro q27 c27 H27 lo27 hK hP hD hS
  obtain ⟨ts27, et27⟩ : ∃ z, z = ts26 ++ [(c27, .int)] := ⟨_, rfl⟩
  rw [← et27] at hK
  obtain ⟨cs27, ec27⟩ : ∃ z : va_W, z = cs26 ++ [(q27, .inl (c27, 60, .inl (fun _ => 0)))] := ⟨_, rfl⟩
  rw [← ec27] at hP hD
  obtain ⟨fs28, ef28⟩ : ∃ z, z = fs27.set 43 (.ref q27) := ⟨_, rfl⟩
  rw [← ef28] at hP hD
  replace hlen : fs28.length = 149 := by rw [ef28, List.length_set]; exact hlen
  refine lv_aload_n hx hb dX12_init_233 rfl (lv_at hl 0 rfl) ?_
  refine lv_bipush hx hb dX12_init_234 (v := 60) rfl ?_
  refine ia_arr (atype := .int) (ty := .int) (a0 := (60, .inl (fun _ => 0))) (nw := 60) hx hb hts hin hown hnm hA hlen hK hP hD hS har_I rfl (fun cA => ia_I cA 60) (by decide) (by decide) (by decide) (Nat.le_of_ble_eq_true rfl) (Nat.le_of_ble_eq_true rfl) dX12_init_236 44 (by decide) (hts _ ww_f44) rfl rfl (tyX12_ok 44 (by decide)) dX12_init_238 ?_
  clear hP hD hS hK
  intro q28 c28 H28 lo28 hK hP hD hS
  obtain ⟨ts28, et28⟩ : ∃ z, z = ts27 ++ [(c28, .int)] := ⟨_, rfl⟩
  rw [← et28] at hK
  obtain ⟨cs28, ec28⟩ : ∃ z : va_W, z = cs27 ++ [(q28, .inl (c28, 60, .inl (fun _ => 0)))] := ⟨_, rfl⟩
  rw [← ec28] at hP hD
  obtain ⟨fs29, ef29⟩ : ∃ z, z = fs28.set 44 (.ref q28) := ⟨_, rfl⟩
  rw [← ef29] at hP hD
  replace hlen : fs29.length = 149 := by rw [ef29, List.length_set]; exact hlen
  refine lv_aload_n hx hb dX12_init_241 rfl (lv_at hl 0 rfl) ?_
  refine lv_bipush hx hb dX12_init_242 (v := 60) rfl ?_
  refine ia_arr (atype := .int) (ty := .int) (a0 := (60, .inl (fun _ => 0))) (nw := 60) hx hb hts hin hown hnm hA hlen hK hP hD hS har_I rfl (fun cA => ia_I cA 60) (by decide) (by decide) (by decide) (Nat.le_of_ble_eq_true rfl) (Nat.le_of_ble_eq_true rfl) dX12_init_244 45 (by decide) (hts _ ww_f45) rfl rfl (tyX12_ok 45 (by decide)) dX12_init_246 ?_
  clear hP hD hS hK
  intro q29 c29 H29 lo29 hK hP hD hS
  obtain ⟨ts29, et29⟩ : ∃ z, z = ts28 ++ [(c29, .int)] := ⟨_, rfl⟩
  rw [← et29] at hK
  obtain ⟨cs29, ec29⟩ : ∃ z : va_W, z = cs28 ++ [(q29, .inl (c29, 60, .inl (fun _ => 0)))] := ⟨_, rfl⟩
  rw [← ec29] at hP hD
  obtain ⟨fs30, ef30⟩ : ∃ z, z = fs29.set 45 (.ref q29) := ⟨_, rfl⟩
  rw [← ef30] at hP hD
  replace hlen : fs30.length = 149 := by rw [ef30, List.length_set]; exact hlen
  refine lv_aload_n hx hb dX12_init_249 rfl (lv_at hl 0 rfl) ?_
  refine lv_bipush hx hb dX12_init_250 (v := 60) rfl ?_
  refine ia_arr (atype := .int) (ty := .int) (a0 := (60, .inl (fun _ => 0))) (nw := 60) hx hb hts hin hown hnm hA hlen hK hP hD hS har_I rfl (fun cA => ia_I cA 60) (by decide) (by decide) (by decide) (Nat.le_of_ble_eq_true rfl) (Nat.le_of_ble_eq_true rfl) dX12_init_252 46 (by decide) (hts _ ww_f46) rfl rfl (tyX12_ok 46 (by decide)) dX12_init_254 ?_
  clear hP hD hS hK
  intro q30 c30 H30 lo30 hK hP hD hS
  obtain ⟨ts30, et30⟩ : ∃ z, z = ts29 ++ [(c30, .int)] := ⟨_, rfl⟩
  rw [← et30] at hK
  obtain ⟨cs30, ec30⟩ : ∃ z : va_W, z = cs29 ++ [(q30, .inl (c30, 60, .inl (fun _ => 0)))] := ⟨_, rfl⟩
  rw [← ec30] at hP hD
  obtain ⟨fs31, ef31⟩ : ∃ z, z = fs30.set 46 (.ref q30) := ⟨_, rfl⟩
  rw [← ef31] at hP hD
  replace hlen : fs31.length = 149 := by rw [ef31, List.length_set]; exact hlen
  refine lv_aload_n hx hb dX12_init_257 rfl (lv_at hl 0 rfl) ?_
  refine lv_bipush hx hb dX12_init_258 (v := 60) rfl ?_
  refine ia_arr (atype := .int) (ty := .int) (a0 := (60, .inl (fun _ => 0))) (nw := 60) hx hb hts hin hown hnm hA hlen hK hP hD hS har_I rfl (fun cA => ia_I cA 60) (by decide) (by decide) (by decide) (Nat.le_of_ble_eq_true rfl) (Nat.le_of_ble_eq_true rfl) dX12_init_260 47 (by decide) (hts _ ww_f47) rfl rfl (tyX12_ok 47 (by decide)) dX12_init_262 ?_
  clear hP hD hS hK
  intro q31 c31 H31 lo31 hK hP hD hS
  obtain ⟨ts31, et31⟩ : ∃ z, z = ts30 ++ [(c31, .int)] := ⟨_, rfl⟩
  rw [← et31] at hK
  obtain ⟨cs31, ec31⟩ : ∃ z : va_W, z = cs30 ++ [(q31, .inl (c31, 60, .inl (fun _ => 0)))] := ⟨_, rfl⟩
  rw [← ec31] at hP hD
  obtain ⟨fs32, ef32⟩ : ∃ z, z = fs31.set 47 (.ref q31) := ⟨_, rfl⟩
  rw [← ef32] at hP hD
  replace hlen : fs32.length = 149 := by rw [ef32, List.length_set]; exact hlen
  refine lv_aload_n hx hb dX12_init_265 rfl (lv_at hl 0 rfl) ?_
  refine lv_bipush hx hb dX12_init_266 (v := 60) rfl ?_
  refine ia_arr (atype := .int) (ty := .int) (a0 := (60, .inl (fun _ => 0))) (nw := 60) hx hb hts hin hown hnm hA hlen hK hP hD hS har_I rfl (fun cA => ia_I cA 60) (by decide) (by decide) (by decide) (Nat.le_of_ble_eq_true rfl) (Nat.le_of_ble_eq_true rfl) dX12_init_268 48 (by decide) (hts _ ww_f48) rfl rfl (tyX12_ok 48 (by decide)) dX12_init_270 ?_
  clear hP hD hS hK
  intro q32 c32 H32 lo32 hK hP hD hS
  obtain ⟨ts32, et32⟩ : ∃ z, z = ts31 ++ [(c32, .int)] := ⟨_, rfl⟩
  rw [← et32] at hK
  obtain ⟨cs32, ec32⟩ : ∃ z : va_W, z = cs31 ++ [(q32, .inl (c32, 60, .inl (fun _ => 0)))] := ⟨_, rfl⟩
  rw [← ec32] at hP hD
  obtain ⟨fs33, ef33⟩ : ∃ z, z = fs32.set 48 (.ref q32) := ⟨_, rfl⟩
  rw [← ef33] at hP hD
  replace hlen : fs33.length = 149 := by rw [ef33, List.length_set]; exact hlen
  have eF33 : fs33 = [.ref q1, .ref q2, .ref q3, .ref q4, .ref q5, .ref q6, .int 0, .ref q7, .int 0, .ref q8, .ref q9, .int 0, .ref q10, .ref q11, .int 0, .ref q12, .int 0, .ref q13, .int 0, .ref q14, .int 0, .ref q15, .int 0, .int 0, .int 0, .int (-1), .ref q16, .ref q17, .ref q18, .ref q19, .int 0, .ref q20, .int 0, .int 0, .int 0, .int 0, .ref q21, .ref q22, .ref q23, .ref q24, .ref q25, .ref q26, .int 0, .ref q27, .ref q28, .ref q29, .ref q30, .ref q31, .ref q32, .null, .null, .null, .null, .null, .int 0, .null, .null, .int 0, .int 0, .int 0, .int 0, .int 0, .int 0, .int 0, .int 0, .null, .null, .null, .null, .int 0, .null, .int 0, .null, .null, .int 0, .null, .int 0, .null, .int 0, .null, .null, .null, .null, .null, .null, .int 0, .null, .int 0, .int 0, .int 0, .int 0, .int 0, .null, .null, .null, .null, .null, .null, .null, .null, .null, .null, .int 0, .null, .int 0, .null, .null, .null, .null, .int 0, .int 0, .int 0, .null, .null, .null, .null, .null, .int 0, .null, .int 0, .null, .null, .int 0, .null, .null, .null, .int 0, .null, .null, .null, .null, .int 0, .int 0, .int 0, .int 0, .int 0, .int 0, .null, .null, .int 0, .null, .null, .null, .null, .int 0, .null, .null, .int 0, .int 0] := by
    rw [ef33, ef32, ef31, ef30, ef29, ef28, ef27, ef26, eF25]
    rfl
  have eC32 : cs32 = [(q1, .inl (c1, 452000, .inl (fun _ => 0))), (q2, .inl (c2, 452000, .inl (fun _ => 0))), (q3, .inl (c3, 452000, .inl (fun _ => 0))), (q4, .inl (c4, 452000, .inl (fun _ => 0))), (q5, .inl (c5, 452000, .inl (fun _ => 0))), (q6, .inl (c6, 40000, .inr (.inl (fun _ => 0)))), (q7, .inl (c7, 8192, .inl (fun _ => 0))), (q8, .inl (c8, 252000, .inl (fun _ => 0))), (q9, .inl (c9, 21000, .inl (fun _ => 0))), (q10, .inl (c10, 20, .inl (fun _ => 0))), (q11, .inl (c11, 3000, .inl (fun _ => 0))), (q12, .inl (c12, 2000, .inl (fun _ => 0))), (q13, .inl (c13, 12, .inl (fun _ => 0))), (q14, .inl (c14, 4000, .inl (fun _ => 0))), (q15, .inl (c15, 200, .inl (fun _ => 0))), (q16, .inl (c16, 40, .inl (fun _ => 0))), (q17, .inl (c17, 40, .inl (fun _ => 0))), (q18, .inl (c18, 40, .inl (fun _ => 0))), (q19, .inl (c19, 40, .inl (fun _ => 0))), (q20, .inl (c20, 1100, .inl (fun _ => 0))), (q21, .inl (c21, 40, .inl (fun _ => 0))), (q22, .inl (c22, 40, .inl (fun _ => 0))), (q23, .inl (c23, 240, .inl (fun _ => 0))), (q24, .inl (c24, 40, .inl (fun _ => 0))), (q25, .inl (c25, 40, .inl (fun _ => 0))), (q26, .inl (c26, 40, .inl (fun _ => 0))), (q27, .inl (c27, 60, .inl (fun _ => 0))), (q28, .inl (c28, 60, .inl (fun _ => 0))), (q29, .inl (c29, 60, .inl (fun _ => 0))), (q30, .inl (c30, 60, .inl (fun _ => 0))), (q31, .inl (c31, 60, .inl (fun _ => 0))), (q32, .inl (c32, 60, .inl (fun _ => 0)))] := by
    rw [ec32, ec31, ec30, ec29, ec28, ec27, ec26, ec25, eC24]
    rfl
  have eT32 : ts32 = [(c1, .int), (c2, .int), (c3, .int), (c4, .int), (c5, .int), (c6, .long), (c7, .int), (c8, .int), (c9, .int), (c10, .int), (c11, .int), (c12, .int), (c13, .int), (c14, .int), (c15, .int), (c16, .int), (c17, .int), (c18, .int), (c19, .int), (c20, .int), (c21, .int), (c22, .int), (c23, .int), (c24, .int), (c25, .int), (c26, .boolean), (c27, .int), (c28, .int), (c29, .int), (c30, .int), (c31, .int), (c32, .int)] := by
    rw [et32, et31, et30, et29, et28, et27, et26, et25, eT24]
    rfl
  clear ec32 et32 ec31 et31 ec30 et30 ec29 et29 ec28 et28 ec27 et27 ec26 et26 ec25 et25 eC24 eT24
  clear ef33 ef32 ef31 ef30 ef29 ef28 ef27 ef26 eF25
  refine lv_aload_n hx hb dX12_init_273 rfl (lv_at hl 0 rfl) ?_
  refine lv_sipush hx hb dX12_init_274 (v := 7200) rfl ?_
  refine ia_arr (atype := .int) (ty := .int) (a0 := (7200, .inl (fun _ => 0))) (nw := 7200) hx hb hts hin hown hnm hA hlen hK hP hD hS har_I rfl (fun cA => ia_I cA 7200) (by decide) (by decide) (by decide) (Nat.le_of_ble_eq_true rfl) (Nat.le_of_ble_eq_true rfl) dX12_init_277 49 (by decide) (hts _ ww_f49) rfl rfl (tyX12_ok 49 (by decide)) dX12_init_279 ?_
  clear hP hD hS hK
  intro q33 c33 H33 lo33 hK hP hD hS
  obtain ⟨ts33, et33⟩ : ∃ z, z = ts32 ++ [(c33, .int)] := ⟨_, rfl⟩
  rw [← et33] at hK
  obtain ⟨cs33, ec33⟩ : ∃ z : va_W, z = cs32 ++ [(q33, .inl (c33, 7200, .inl (fun _ => 0)))] := ⟨_, rfl⟩
  rw [← ec33] at hP hD
  obtain ⟨fs34, ef34⟩ : ∃ z, z = fs33.set 49 (.ref q33) := ⟨_, rfl⟩
  rw [← ef34] at hP hD
  replace hlen : fs34.length = 149 := by rw [ef34, List.length_set]; exact hlen
  refine lv_aload_n hx hb dX12_init_282 rfl (lv_at hl 0 rfl) ?_
  refine lv_bipush hx hb dX12_init_283 (v := 60) rfl ?_
  refine ia_arr (atype := .boolean) (ty := .boolean) (a0 := (60, .inl (fun _ => 0))) (nw := 60) hx hb hts hin hown hnm hA hlen hK hP hD hS har_Z rfl (fun cA => ia_Z cA 60) (by decide) (by decide) (by decide) (Nat.le_of_ble_eq_true rfl) (Nat.le_of_ble_eq_true rfl) dX12_init_285 50 (by decide) (hts _ ww_f50) rfl rfl (tyX12_ok 50 (by decide)) dX12_init_287 ?_
  clear hP hD hS hK
  intro q34 c34 H34 lo34 hK hP hD hS
  obtain ⟨ts34, et34⟩ : ∃ z, z = ts33 ++ [(c34, .boolean)] := ⟨_, rfl⟩
  rw [← et34] at hK
  obtain ⟨cs34, ec34⟩ : ∃ z : va_W, z = cs33 ++ [(q34, .inl (c34, 60, .inl (fun _ => 0)))] := ⟨_, rfl⟩
  rw [← ec34] at hP hD
  obtain ⟨fs35, ef35⟩ : ∃ z, z = fs34.set 50 (.ref q34) := ⟨_, rfl⟩
  rw [← ef35] at hP hD
  replace hlen : fs35.length = 149 := by rw [ef35, List.length_set]; exact hlen
  refine lv_aload_n hx hb dX12_init_290 rfl (lv_at hl 0 rfl) ?_
  refine lv_bipush hx hb dX12_init_291 (v := 60) rfl ?_
  refine ia_arr (atype := .boolean) (ty := .boolean) (a0 := (60, .inl (fun _ => 0))) (nw := 60) hx hb hts hin hown hnm hA hlen hK hP hD hS har_Z rfl (fun cA => ia_Z cA 60) (by decide) (by decide) (by decide) (Nat.le_of_ble_eq_true rfl) (Nat.le_of_ble_eq_true rfl) dX12_init_293 51 (by decide) (hts _ ww_f51) rfl rfl (tyX12_ok 51 (by decide)) dX12_init_295 ?_
  clear hP hD hS hK
  intro q35 c35 H35 lo35 hK hP hD hS
  obtain ⟨ts35, et35⟩ : ∃ z, z = ts34 ++ [(c35, .boolean)] := ⟨_, rfl⟩
  rw [← et35] at hK
  obtain ⟨cs35, ec35⟩ : ∃ z : va_W, z = cs34 ++ [(q35, .inl (c35, 60, .inl (fun _ => 0)))] := ⟨_, rfl⟩
  rw [← ec35] at hP hD
  obtain ⟨fs36, ef36⟩ : ∃ z, z = fs35.set 51 (.ref q35) := ⟨_, rfl⟩
  rw [← ef36] at hP hD
  replace hlen : fs36.length = 149 := by rw [ef36, List.length_set]; exact hlen
  refine lv_aload_n hx hb dX12_init_298 rfl (lv_at hl 0 rfl) ?_
  refine lv_bipush hx hb dX12_init_299 (v := 60) rfl ?_
  refine ia_arr (atype := .boolean) (ty := .boolean) (a0 := (60, .inl (fun _ => 0))) (nw := 60) hx hb hts hin hown hnm hA hlen hK hP hD hS har_Z rfl (fun cA => ia_Z cA 60) (by decide) (by decide) (by decide) (Nat.le_of_ble_eq_true rfl) (Nat.le_of_ble_eq_true rfl) dX12_init_301 52 (by decide) (hts _ ww_f52) rfl rfl (tyX12_ok 52 (by decide)) dX12_init_303 ?_
  clear hP hD hS hK
  intro q36 c36 H36 lo36 hK hP hD hS
  obtain ⟨ts36, et36⟩ : ∃ z, z = ts35 ++ [(c36, .boolean)] := ⟨_, rfl⟩
  rw [← et36] at hK
  obtain ⟨cs36, ec36⟩ : ∃ z : va_W, z = cs35 ++ [(q36, .inl (c36, 60, .inl (fun _ => 0)))] := ⟨_, rfl⟩
  rw [← ec36] at hP hD
  obtain ⟨fs37, ef37⟩ : ∃ z, z = fs36.set 52 (.ref q36) := ⟨_, rfl⟩
  rw [← ef37] at hP hD
  replace hlen : fs37.length = 149 := by rw [ef37, List.length_set]; exact hlen
  refine lv_aload_n hx hb dX12_init_306 rfl (lv_at hl 0 rfl) ?_
  refine lv_bipush hx hb dX12_init_307 (v := 60) rfl ?_
  refine ia_arr (atype := .boolean) (ty := .boolean) (a0 := (60, .inl (fun _ => 0))) (nw := 60) hx hb hts hin hown hnm hA hlen hK hP hD hS har_Z rfl (fun cA => ia_Z cA 60) (by decide) (by decide) (by decide) (Nat.le_of_ble_eq_true rfl) (Nat.le_of_ble_eq_true rfl) dX12_init_309 53 (by decide) (hts _ ww_f53) rfl rfl (tyX12_ok 53 (by decide)) dX12_init_311 ?_
  clear hP hD hS hK
  intro q37 c37 H37 lo37 hK hP hD hS
  obtain ⟨ts37, et37⟩ : ∃ z, z = ts36 ++ [(c37, .boolean)] := ⟨_, rfl⟩
  rw [← et37] at hK
  obtain ⟨cs37, ec37⟩ : ∃ z : va_W, z = cs36 ++ [(q37, .inl (c37, 60, .inl (fun _ => 0)))] := ⟨_, rfl⟩
  rw [← ec37] at hP hD
  obtain ⟨fs38, ef38⟩ : ∃ z, z = fs37.set 53 (.ref q37) := ⟨_, rfl⟩
  rw [← ef38] at hP hD
  replace hlen : fs38.length = 149 := by rw [ef38, List.length_set]; exact hlen
  refine lv_aload_n hx hb dX12_init_314 rfl (lv_at hl 0 rfl) ?_
  refine lv_bipush hx hb dX12_init_315 (v := 100) rfl ?_
  refine ia_arr (atype := .int) (ty := .int) (a0 := (100, .inl (fun _ => 0))) (nw := 100) hx hb hts hin hown hnm hA hlen hK hP hD hS har_I rfl (fun cA => ia_I cA 100) (by decide) (by decide) (by decide) (Nat.le_of_ble_eq_true rfl) (Nat.le_of_ble_eq_true rfl) dX12_init_317 55 (by decide) (hts _ ww_f55) rfl rfl (tyX12_ok 55 (by decide)) dX12_init_319 ?_
  clear hP hD hS hK
  intro q38 c38 H38 lo38 hK hP hD hS
  obtain ⟨ts38, et38⟩ : ∃ z, z = ts37 ++ [(c38, .int)] := ⟨_, rfl⟩
  rw [← et38] at hK
  obtain ⟨cs38, ec38⟩ : ∃ z : va_W, z = cs37 ++ [(q38, .inl (c38, 100, .inl (fun _ => 0)))] := ⟨_, rfl⟩
  rw [← ec38] at hP hD
  obtain ⟨fs39, ef39⟩ : ∃ z, z = fs38.set 55 (.ref q38) := ⟨_, rfl⟩
  rw [← ef39] at hP hD
  replace hlen : fs39.length = 149 := by rw [ef39, List.length_set]; exact hlen
  refine lv_aload_n hx hb dX12_init_322 rfl (lv_at hl 0 rfl) ?_
  refine lv_bipush hx hb dX12_init_323 (v := 100) rfl ?_
  refine ia_arr (atype := .int) (ty := .int) (a0 := (100, .inl (fun _ => 0))) (nw := 100) hx hb hts hin hown hnm hA hlen hK hP hD hS har_I rfl (fun cA => ia_I cA 100) (by decide) (by decide) (by decide) (Nat.le_of_ble_eq_true rfl) (Nat.le_of_ble_eq_true rfl) dX12_init_325 56 (by decide) (hts _ ww_f56) rfl rfl (tyX12_ok 56 (by decide)) dX12_init_327 ?_
  clear hP hD hS hK
  intro q39 c39 H39 lo39 hK hP hD hS
  obtain ⟨ts39, et39⟩ : ∃ z, z = ts38 ++ [(c39, .int)] := ⟨_, rfl⟩
  rw [← et39] at hK
  obtain ⟨cs39, ec39⟩ : ∃ z : va_W, z = cs38 ++ [(q39, .inl (c39, 100, .inl (fun _ => 0)))] := ⟨_, rfl⟩
  rw [← ec39] at hP hD
  obtain ⟨fs40, ef40⟩ : ∃ z, z = fs39.set 56 (.ref q39) := ⟨_, rfl⟩
  rw [← ef40] at hP hD
  replace hlen : fs40.length = 149 := by rw [ef40, List.length_set]; exact hlen
  refine lv_aload_n hx hb dX12_init_330 rfl (lv_at hl 0 rfl) ?_
  refine lv_iconst hx hb dX12_init_331 (v := (-1)) rfl ?_
  refine va_put (D := D) (ci := 12) (v := .int (-1)) (ty := .int) (C := RX12) (T := TX12) (N := 149) hx hb hts hin tyX12 tyX12_ok nmX12 hown hK hP hD hS 0 rfl rfl 57 (by decide) (hts _ ww_f57) (fun _ h9 => h9) rfl (tyX12_ok 57 (by decide)) rfl rfl (by rw [hlen]; decide) dX12_init_332 ?_
  clear hP hD hS
  intro G40 go40 hP hD hS
  obtain ⟨fs41, ef41⟩ : ∃ z, z = fs40.set 57 (.int (-1)) := ⟨_, rfl⟩
  replace hP : va_P D vwCl ((h0, .inr (12, fs41)) :: cs39) G40 := by rw [ef41]; exact hP
  replace hD : va_D A ((h0, .inr (12, fs41)) :: cs39) := by rw [ef41]; exact hD
  replace hlen : fs41.length = 149 := by rw [ef41, List.length_set]; exact hlen
  refine lv_aload_n hx hb dX12_init_335 rfl (lv_at hl 0 rfl) ?_
  refine lv_sipush hx hb dX12_init_336 (v := 1000) rfl ?_
  refine va_put (D := D) (ci := 12) (v := .int 1000) (ty := .int) (C := RX12) (T := TX12) (N := 149) hx hb hts hin tyX12 tyX12_ok nmX12 hown hK hP hD hS 0 rfl rfl 59 (by decide) (hts _ ww_f59) (fun _ h9 => h9) rfl (tyX12_ok 59 (by decide)) rfl rfl (by rw [hlen]; decide) dX12_init_339 ?_
  clear hP hD hS
  intro G41 go41 hP hD hS
  obtain ⟨fs42, ef42⟩ : ∃ z, z = fs41.set 59 (.int 1000) := ⟨_, rfl⟩
  replace hP : va_P D vwCl ((h0, .inr (12, fs42)) :: cs39) G41 := by rw [ef42]; exact hP
  replace hD : va_D A ((h0, .inr (12, fs42)) :: cs39) := by rw [ef42]; exact hD
  replace hlen : fs42.length = 149 := by rw [ef42, List.length_set]; exact hlen
  refine lv_aload_n hx hb dX12_init_342 rfl (lv_at hl 0 rfl) ?_
  refine lv_sipush hx hb dX12_init_343 (v := 200) rfl ?_
  refine ia_arr (atype := .int) (ty := .int) (a0 := (200, .inl (fun _ => 0))) (nw := 200) hx hb hts hin hown hnm hA hlen hK hP hD hS har_I rfl (fun cA => ia_I cA 200) (by decide) (by decide) (by decide) (Nat.le_of_ble_eq_true rfl) (Nat.le_of_ble_eq_true rfl) dX12_init_346 65 (by decide) (hts _ ww_f65) rfl rfl (tyX12_ok 65 (by decide)) dX12_init_348 ?_
  clear hP hD hS hK
  intro q40 c40 H40 lo40 hK hP hD hS
  obtain ⟨ts40, et40⟩ : ∃ z, z = ts39 ++ [(c40, .int)] := ⟨_, rfl⟩
  rw [← et40] at hK
  obtain ⟨cs40, ec40⟩ : ∃ z : va_W, z = cs39 ++ [(q40, .inl (c40, 200, .inl (fun _ => 0)))] := ⟨_, rfl⟩
  rw [← ec40] at hP hD
  obtain ⟨fs43, ef43⟩ : ∃ z, z = fs42.set 65 (.ref q40) := ⟨_, rfl⟩
  rw [← ef43] at hP hD
  replace hlen : fs43.length = 149 := by rw [ef43, List.length_set]; exact hlen
  have eF43 : fs43 = [.ref q1, .ref q2, .ref q3, .ref q4, .ref q5, .ref q6, .int 0, .ref q7, .int 0, .ref q8, .ref q9, .int 0, .ref q10, .ref q11, .int 0, .ref q12, .int 0, .ref q13, .int 0, .ref q14, .int 0, .ref q15, .int 0, .int 0, .int 0, .int (-1), .ref q16, .ref q17, .ref q18, .ref q19, .int 0, .ref q20, .int 0, .int 0, .int 0, .int 0, .ref q21, .ref q22, .ref q23, .ref q24, .ref q25, .ref q26, .int 0, .ref q27, .ref q28, .ref q29, .ref q30, .ref q31, .ref q32, .ref q33, .ref q34, .ref q35, .ref q36, .ref q37, .int 0, .ref q38, .ref q39, .int (-1), .int 0, .int 1000, .int 0, .int 0, .int 0, .int 0, .int 0, .ref q40, .null, .null, .null, .int 0, .null, .int 0, .null, .null, .int 0, .null, .int 0, .null, .int 0, .null, .null, .null, .null, .null, .null, .int 0, .null, .int 0, .int 0, .int 0, .int 0, .int 0, .null, .null, .null, .null, .null, .null, .null, .null, .null, .null, .int 0, .null, .int 0, .null, .null, .null, .null, .int 0, .int 0, .int 0, .null, .null, .null, .null, .null, .int 0, .null, .int 0, .null, .null, .int 0, .null, .null, .null, .int 0, .null, .null, .null, .null, .int 0, .int 0, .int 0, .int 0, .int 0, .int 0, .null, .null, .int 0, .null, .null, .null, .null, .int 0, .null, .null, .int 0, .int 0] := by
    rw [ef43, ef42, ef41, ef40, ef39, ef38, ef37, ef36, ef35, ef34, eF33]
    rfl
  have eC40 : cs40 = [(q1, .inl (c1, 452000, .inl (fun _ => 0))), (q2, .inl (c2, 452000, .inl (fun _ => 0))), (q3, .inl (c3, 452000, .inl (fun _ => 0))), (q4, .inl (c4, 452000, .inl (fun _ => 0))), (q5, .inl (c5, 452000, .inl (fun _ => 0))), (q6, .inl (c6, 40000, .inr (.inl (fun _ => 0)))), (q7, .inl (c7, 8192, .inl (fun _ => 0))), (q8, .inl (c8, 252000, .inl (fun _ => 0))), (q9, .inl (c9, 21000, .inl (fun _ => 0))), (q10, .inl (c10, 20, .inl (fun _ => 0))), (q11, .inl (c11, 3000, .inl (fun _ => 0))), (q12, .inl (c12, 2000, .inl (fun _ => 0))), (q13, .inl (c13, 12, .inl (fun _ => 0))), (q14, .inl (c14, 4000, .inl (fun _ => 0))), (q15, .inl (c15, 200, .inl (fun _ => 0))), (q16, .inl (c16, 40, .inl (fun _ => 0))), (q17, .inl (c17, 40, .inl (fun _ => 0))), (q18, .inl (c18, 40, .inl (fun _ => 0))), (q19, .inl (c19, 40, .inl (fun _ => 0))), (q20, .inl (c20, 1100, .inl (fun _ => 0))), (q21, .inl (c21, 40, .inl (fun _ => 0))), (q22, .inl (c22, 40, .inl (fun _ => 0))), (q23, .inl (c23, 240, .inl (fun _ => 0))), (q24, .inl (c24, 40, .inl (fun _ => 0))), (q25, .inl (c25, 40, .inl (fun _ => 0))), (q26, .inl (c26, 40, .inl (fun _ => 0))), (q27, .inl (c27, 60, .inl (fun _ => 0))), (q28, .inl (c28, 60, .inl (fun _ => 0))), (q29, .inl (c29, 60, .inl (fun _ => 0))), (q30, .inl (c30, 60, .inl (fun _ => 0))), (q31, .inl (c31, 60, .inl (fun _ => 0))), (q32, .inl (c32, 60, .inl (fun _ => 0))), (q33, .inl (c33, 7200, .inl (fun _ => 0))), (q34, .inl (c34, 60, .inl (fun _ => 0))), (q35, .inl (c35, 60, .inl (fun _ => 0))), (q36, .inl (c36, 60, .inl (fun _ => 0))), (q37, .inl (c37, 60, .inl (fun _ => 0))), (q38, .inl (c38, 100, .inl (fun _ => 0))), (q39, .inl (c39, 100, .inl (fun _ => 0))), (q40, .inl (c40, 200, .inl (fun _ => 0)))] := by
    rw [ec40, ec39, ec38, ec37, ec36, ec35, ec34, ec33, eC32]
    rfl
  have eT40 : ts40 = [(c1, .int), (c2, .int), (c3, .int), (c4, .int), (c5, .int), (c6, .long), (c7, .int), (c8, .int), (c9, .int), (c10, .int), (c11, .int), (c12, .int), (c13, .int), (c14, .int), (c15, .int), (c16, .int), (c17, .int), (c18, .int), (c19, .int), (c20, .int), (c21, .int), (c22, .int), (c23, .int), (c24, .int), (c25, .int), (c26, .boolean), (c27, .int), (c28, .int), (c29, .int), (c30, .int), (c31, .int), (c32, .int), (c33, .int), (c34, .boolean), (c35, .boolean), (c36, .boolean), (c37, .boolean), (c38, .int), (c39, .int), (c40, .int)] := by
    rw [et40, et39, et38, et37, et36, et35, et34, et33, eT32]
    rfl
  clear ec40 et40 ec39 et39 ec38 et38 ec37 et37 ec36 et36 ec35 et35 ec34 et34 ec33 et33 eC32 eT32
  clear ef43 ef42 ef41 ef40 ef39 ef38 ef37 ef36 ef35 ef34 eF33
  refine lv_aload_n hx hb dX12_init_351 rfl (lv_at hl 0 rfl) ?_
  refine lv_sipush hx hb dX12_init_352 (v := 1200) rfl ?_
  refine ia_arr (atype := .int) (ty := .int) (a0 := (1200, .inl (fun _ => 0))) (nw := 1200) hx hb hts hin hown hnm hA hlen hK hP hD hS har_I rfl (fun cA => ia_I cA 1200) (by decide) (by decide) (by decide) (Nat.le_of_ble_eq_true rfl) (Nat.le_of_ble_eq_true rfl) dX12_init_355 66 (by decide) (hts _ ww_f66) rfl rfl (tyX12_ok 66 (by decide)) dX12_init_357 ?_
  clear hP hD hS hK
  intro q41 c41 H41 lo41 hK hP hD hS
  obtain ⟨ts41, et41⟩ : ∃ z, z = ts40 ++ [(c41, .int)] := ⟨_, rfl⟩
  rw [← et41] at hK
  obtain ⟨cs41, ec41⟩ : ∃ z : va_W, z = cs40 ++ [(q41, .inl (c41, 1200, .inl (fun _ => 0)))] := ⟨_, rfl⟩
  rw [← ec41] at hP hD
  obtain ⟨fs44, ef44⟩ : ∃ z, z = fs43.set 66 (.ref q41) := ⟨_, rfl⟩
  rw [← ef44] at hP hD
  replace hlen : fs44.length = 149 := by rw [ef44, List.length_set]; exact hlen
  refine lv_aload_n hx hb dX12_init_360 rfl (lv_at hl 0 rfl) ?_
  refine lv_sipush hx hb dX12_init_361 (v := 1200) rfl ?_
  refine ia_arr (atype := .int) (ty := .int) (a0 := (1200, .inl (fun _ => 0))) (nw := 1200) hx hb hts hin hown hnm hA hlen hK hP hD hS har_I rfl (fun cA => ia_I cA 1200) (by decide) (by decide) (by decide) (Nat.le_of_ble_eq_true rfl) (Nat.le_of_ble_eq_true rfl) dX12_init_364 67 (by decide) (hts _ ww_f67) rfl rfl (tyX12_ok 67 (by decide)) dX12_init_366 ?_
  clear hP hD hS hK
  intro q42 c42 H42 lo42 hK hP hD hS
  obtain ⟨ts42, et42⟩ : ∃ z, z = ts41 ++ [(c42, .int)] := ⟨_, rfl⟩
  rw [← et42] at hK
  obtain ⟨cs42, ec42⟩ : ∃ z : va_W, z = cs41 ++ [(q42, .inl (c42, 1200, .inl (fun _ => 0)))] := ⟨_, rfl⟩
  rw [← ec42] at hP hD
  obtain ⟨fs45, ef45⟩ : ∃ z, z = fs44.set 67 (.ref q42) := ⟨_, rfl⟩
  rw [← ef45] at hP hD
  replace hlen : fs45.length = 149 := by rw [ef45, List.length_set]; exact hlen
  refine lv_aload_n hx hb dX12_init_369 rfl (lv_at hl 0 rfl) ?_
  refine lv_sipush hx hb dX12_init_370 (v := 1200) rfl ?_
  refine ia_arr (atype := .int) (ty := .int) (a0 := (1200, .inl (fun _ => 0))) (nw := 1200) hx hb hts hin hown hnm hA hlen hK hP hD hS har_I rfl (fun cA => ia_I cA 1200) (by decide) (by decide) (by decide) (Nat.le_of_ble_eq_true rfl) (Nat.le_of_ble_eq_true rfl) dX12_init_373 68 (by decide) (hts _ ww_f68) rfl rfl (tyX12_ok 68 (by decide)) dX12_init_375 ?_
  clear hP hD hS hK
  intro q43 c43 H43 lo43 hK hP hD hS
  obtain ⟨ts43, et43⟩ : ∃ z, z = ts42 ++ [(c43, .int)] := ⟨_, rfl⟩
  rw [← et43] at hK
  obtain ⟨cs43, ec43⟩ : ∃ z : va_W, z = cs42 ++ [(q43, .inl (c43, 1200, .inl (fun _ => 0)))] := ⟨_, rfl⟩
  rw [← ec43] at hP hD
  obtain ⟨fs46, ef46⟩ : ∃ z, z = fs45.set 68 (.ref q43) := ⟨_, rfl⟩
  rw [← ef46] at hP hD
  replace hlen : fs46.length = 149 := by rw [ef46, List.length_set]; exact hlen
  refine lv_aload_n hx hb dX12_init_378 rfl (lv_at hl 0 rfl) ?_
  refine lv_sipush hx hb dX12_init_379 (v := 2400) rfl ?_
  refine ia_arr (atype := .int) (ty := .int) (a0 := (2400, .inl (fun _ => 0))) (nw := 2400) hx hb hts hin hown hnm hA hlen hK hP hD hS har_I rfl (fun cA => ia_I cA 2400) (by decide) (by decide) (by decide) (Nat.le_of_ble_eq_true rfl) (Nat.le_of_ble_eq_true rfl) dX12_init_382 70 (by decide) (hts _ ww_f70) rfl rfl (tyX12_ok 70 (by decide)) dX12_init_384 ?_
  clear hP hD hS hK
  intro q44 c44 H44 lo44 hK hP hD hS
  obtain ⟨ts44, et44⟩ : ∃ z, z = ts43 ++ [(c44, .int)] := ⟨_, rfl⟩
  rw [← et44] at hK
  obtain ⟨cs44, ec44⟩ : ∃ z : va_W, z = cs43 ++ [(q44, .inl (c44, 2400, .inl (fun _ => 0)))] := ⟨_, rfl⟩
  rw [← ec44] at hP hD
  obtain ⟨fs47, ef47⟩ : ∃ z, z = fs46.set 70 (.ref q44) := ⟨_, rfl⟩
  rw [← ef47] at hP hD
  replace hlen : fs47.length = 149 := by rw [ef47, List.length_set]; exact hlen
  refine lv_aload_n hx hb dX12_init_387 rfl (lv_at hl 0 rfl) ?_
  refine lv_sipush hx hb dX12_init_388 (v := 400) rfl ?_
  refine ia_arr (atype := .int) (ty := .int) (a0 := (400, .inl (fun _ => 0))) (nw := 400) hx hb hts hin hown hnm hA hlen hK hP hD hS har_I rfl (fun cA => ia_I cA 400) (by decide) (by decide) (by decide) (Nat.le_of_ble_eq_true rfl) (Nat.le_of_ble_eq_true rfl) dX12_init_391 72 (by decide) (hts _ ww_f72) rfl rfl (tyX12_ok 72 (by decide)) dX12_init_393 ?_
  clear hP hD hS hK
  intro q45 c45 H45 lo45 hK hP hD hS
  obtain ⟨ts45, et45⟩ : ∃ z, z = ts44 ++ [(c45, .int)] := ⟨_, rfl⟩
  rw [← et45] at hK
  obtain ⟨cs45, ec45⟩ : ∃ z : va_W, z = cs44 ++ [(q45, .inl (c45, 400, .inl (fun _ => 0)))] := ⟨_, rfl⟩
  rw [← ec45] at hP hD
  obtain ⟨fs48, ef48⟩ : ∃ z, z = fs47.set 72 (.ref q45) := ⟨_, rfl⟩
  rw [← ef48] at hP hD
  replace hlen : fs48.length = 149 := by rw [ef48, List.length_set]; exact hlen
  refine lv_aload_n hx hb dX12_init_396 rfl (lv_at hl 0 rfl) ?_
  refine lv_sipush hx hb dX12_init_397 (v := 400) rfl ?_
  refine ia_arr (atype := .int) (ty := .int) (a0 := (400, .inl (fun _ => 0))) (nw := 400) hx hb hts hin hown hnm hA hlen hK hP hD hS har_I rfl (fun cA => ia_I cA 400) (by decide) (by decide) (by decide) (Nat.le_of_ble_eq_true rfl) (Nat.le_of_ble_eq_true rfl) dX12_init_400 73 (by decide) (hts _ ww_f73) rfl rfl (tyX12_ok 73 (by decide)) dX12_init_402 ?_
  clear hP hD hS hK
  intro q46 c46 H46 lo46 hK hP hD hS
  obtain ⟨ts46, et46⟩ : ∃ z, z = ts45 ++ [(c46, .int)] := ⟨_, rfl⟩
  rw [← et46] at hK
  obtain ⟨cs46, ec46⟩ : ∃ z : va_W, z = cs45 ++ [(q46, .inl (c46, 400, .inl (fun _ => 0)))] := ⟨_, rfl⟩
  rw [← ec46] at hP hD
  obtain ⟨fs49, ef49⟩ : ∃ z, z = fs48.set 73 (.ref q46) := ⟨_, rfl⟩
  rw [← ef49] at hP hD
  replace hlen : fs49.length = 149 := by rw [ef49, List.length_set]; exact hlen
  refine lv_aload_n hx hb dX12_init_405 rfl (lv_at hl 0 rfl) ?_
  refine lv_sipush hx hb dX12_init_406 (v := 400) rfl ?_
  refine ia_arr (atype := .int) (ty := .int) (a0 := (400, .inl (fun _ => 0))) (nw := 400) hx hb hts hin hown hnm hA hlen hK hP hD hS har_I rfl (fun cA => ia_I cA 400) (by decide) (by decide) (by decide) (Nat.le_of_ble_eq_true rfl) (Nat.le_of_ble_eq_true rfl) dX12_init_409 75 (by decide) (hts _ ww_f75) rfl rfl (tyX12_ok 75 (by decide)) dX12_init_411 ?_
  clear hP hD hS hK
  intro q47 c47 H47 lo47 hK hP hD hS
  obtain ⟨ts47, et47⟩ : ∃ z, z = ts46 ++ [(c47, .int)] := ⟨_, rfl⟩
  rw [← et47] at hK
  obtain ⟨cs47, ec47⟩ : ∃ z : va_W, z = cs46 ++ [(q47, .inl (c47, 400, .inl (fun _ => 0)))] := ⟨_, rfl⟩
  rw [← ec47] at hP hD
  obtain ⟨fs50, ef50⟩ : ∃ z, z = fs49.set 75 (.ref q47) := ⟨_, rfl⟩
  rw [← ef50] at hP hD
  replace hlen : fs50.length = 149 := by rw [ef50, List.length_set]; exact hlen
  refine lv_aload_n hx hb dX12_init_414 rfl (lv_at hl 0 rfl) ?_
  refine lv_sipush hx hb dX12_init_415 (v := 130) rfl ?_
  refine ia_arr (atype := .int) (ty := .int) (a0 := (130, .inl (fun _ => 0))) (nw := 130) hx hb hts hin hown hnm hA hlen hK hP hD hS har_I rfl (fun cA => ia_I cA 130) (by decide) (by decide) (by decide) (Nat.le_of_ble_eq_true rfl) (Nat.le_of_ble_eq_true rfl) dX12_init_418 77 (by decide) (hts _ ww_f77) rfl rfl (tyX12_ok 77 (by decide)) dX12_init_420 ?_
  clear hP hD hS hK
  intro q48 c48 H48 lo48 hK hP hD hS
  obtain ⟨ts48, et48⟩ : ∃ z, z = ts47 ++ [(c48, .int)] := ⟨_, rfl⟩
  rw [← et48] at hK
  obtain ⟨cs48, ec48⟩ : ∃ z : va_W, z = cs47 ++ [(q48, .inl (c48, 130, .inl (fun _ => 0)))] := ⟨_, rfl⟩
  rw [← ec48] at hP hD
  obtain ⟨fs51, ef51⟩ : ∃ z, z = fs50.set 77 (.ref q48) := ⟨_, rfl⟩
  rw [← ef51] at hP hD
  replace hlen : fs51.length = 149 := by rw [ef51, List.length_set]; exact hlen
  have eF51 : fs51 = [.ref q1, .ref q2, .ref q3, .ref q4, .ref q5, .ref q6, .int 0, .ref q7, .int 0, .ref q8, .ref q9, .int 0, .ref q10, .ref q11, .int 0, .ref q12, .int 0, .ref q13, .int 0, .ref q14, .int 0, .ref q15, .int 0, .int 0, .int 0, .int (-1), .ref q16, .ref q17, .ref q18, .ref q19, .int 0, .ref q20, .int 0, .int 0, .int 0, .int 0, .ref q21, .ref q22, .ref q23, .ref q24, .ref q25, .ref q26, .int 0, .ref q27, .ref q28, .ref q29, .ref q30, .ref q31, .ref q32, .ref q33, .ref q34, .ref q35, .ref q36, .ref q37, .int 0, .ref q38, .ref q39, .int (-1), .int 0, .int 1000, .int 0, .int 0, .int 0, .int 0, .int 0, .ref q40, .ref q41, .ref q42, .ref q43, .int 0, .ref q44, .int 0, .ref q45, .ref q46, .int 0, .ref q47, .int 0, .ref q48, .int 0, .null, .null, .null, .null, .null, .null, .int 0, .null, .int 0, .int 0, .int 0, .int 0, .int 0, .null, .null, .null, .null, .null, .null, .null, .null, .null, .null, .int 0, .null, .int 0, .null, .null, .null, .null, .int 0, .int 0, .int 0, .null, .null, .null, .null, .null, .int 0, .null, .int 0, .null, .null, .int 0, .null, .null, .null, .int 0, .null, .null, .null, .null, .int 0, .int 0, .int 0, .int 0, .int 0, .int 0, .null, .null, .int 0, .null, .null, .null, .null, .int 0, .null, .null, .int 0, .int 0] := by
    rw [ef51, ef50, ef49, ef48, ef47, ef46, ef45, ef44, eF43]
    rfl
  have eC48 : cs48 = [(q1, .inl (c1, 452000, .inl (fun _ => 0))), (q2, .inl (c2, 452000, .inl (fun _ => 0))), (q3, .inl (c3, 452000, .inl (fun _ => 0))), (q4, .inl (c4, 452000, .inl (fun _ => 0))), (q5, .inl (c5, 452000, .inl (fun _ => 0))), (q6, .inl (c6, 40000, .inr (.inl (fun _ => 0)))), (q7, .inl (c7, 8192, .inl (fun _ => 0))), (q8, .inl (c8, 252000, .inl (fun _ => 0))), (q9, .inl (c9, 21000, .inl (fun _ => 0))), (q10, .inl (c10, 20, .inl (fun _ => 0))), (q11, .inl (c11, 3000, .inl (fun _ => 0))), (q12, .inl (c12, 2000, .inl (fun _ => 0))), (q13, .inl (c13, 12, .inl (fun _ => 0))), (q14, .inl (c14, 4000, .inl (fun _ => 0))), (q15, .inl (c15, 200, .inl (fun _ => 0))), (q16, .inl (c16, 40, .inl (fun _ => 0))), (q17, .inl (c17, 40, .inl (fun _ => 0))), (q18, .inl (c18, 40, .inl (fun _ => 0))), (q19, .inl (c19, 40, .inl (fun _ => 0))), (q20, .inl (c20, 1100, .inl (fun _ => 0))), (q21, .inl (c21, 40, .inl (fun _ => 0))), (q22, .inl (c22, 40, .inl (fun _ => 0))), (q23, .inl (c23, 240, .inl (fun _ => 0))), (q24, .inl (c24, 40, .inl (fun _ => 0))), (q25, .inl (c25, 40, .inl (fun _ => 0))), (q26, .inl (c26, 40, .inl (fun _ => 0))), (q27, .inl (c27, 60, .inl (fun _ => 0))), (q28, .inl (c28, 60, .inl (fun _ => 0))), (q29, .inl (c29, 60, .inl (fun _ => 0))), (q30, .inl (c30, 60, .inl (fun _ => 0))), (q31, .inl (c31, 60, .inl (fun _ => 0))), (q32, .inl (c32, 60, .inl (fun _ => 0))), (q33, .inl (c33, 7200, .inl (fun _ => 0))), (q34, .inl (c34, 60, .inl (fun _ => 0))), (q35, .inl (c35, 60, .inl (fun _ => 0))), (q36, .inl (c36, 60, .inl (fun _ => 0))), (q37, .inl (c37, 60, .inl (fun _ => 0))), (q38, .inl (c38, 100, .inl (fun _ => 0))), (q39, .inl (c39, 100, .inl (fun _ => 0))), (q40, .inl (c40, 200, .inl (fun _ => 0))), (q41, .inl (c41, 1200, .inl (fun _ => 0))), (q42, .inl (c42, 1200, .inl (fun _ => 0))), (q43, .inl (c43, 1200, .inl (fun _ => 0))), (q44, .inl (c44, 2400, .inl (fun _ => 0))), (q45, .inl (c45, 400, .inl (fun _ => 0))), (q46, .inl (c46, 400, .inl (fun _ => 0))), (q47, .inl (c47, 400, .inl (fun _ => 0))), (q48, .inl (c48, 130, .inl (fun _ => 0)))] := by
    rw [ec48, ec47, ec46, ec45, ec44, ec43, ec42, ec41, eC40]
    rfl
  have eT48 : ts48 = [(c1, .int), (c2, .int), (c3, .int), (c4, .int), (c5, .int), (c6, .long), (c7, .int), (c8, .int), (c9, .int), (c10, .int), (c11, .int), (c12, .int), (c13, .int), (c14, .int), (c15, .int), (c16, .int), (c17, .int), (c18, .int), (c19, .int), (c20, .int), (c21, .int), (c22, .int), (c23, .int), (c24, .int), (c25, .int), (c26, .boolean), (c27, .int), (c28, .int), (c29, .int), (c30, .int), (c31, .int), (c32, .int), (c33, .int), (c34, .boolean), (c35, .boolean), (c36, .boolean), (c37, .boolean), (c38, .int), (c39, .int), (c40, .int), (c41, .int), (c42, .int), (c43, .int), (c44, .int), (c45, .int), (c46, .int), (c47, .int), (c48, .int)] := by
    rw [et48, et47, et46, et45, et44, et43, et42, et41, eT40]
    rfl
  clear ec48 et48 ec47 et47 ec46 et46 ec45 et45 ec44 et44 ec43 et43 ec42 et42 ec41 et41 eC40 eT40
  clear ef51 ef50 ef49 ef48 ef47 ef46 ef45 ef44 eF43
  refine lv_aload_n hx hb dX12_init_423 rfl (lv_at hl 0 rfl) ?_
  refine lv_sipush hx hb dX12_init_424 (v := 300) rfl ?_
  refine ia_arr (atype := .int) (ty := .int) (a0 := (300, .inl (fun _ => 0))) (nw := 300) hx hb hts hin hown hnm hA hlen hK hP hD hS har_I rfl (fun cA => ia_I cA 300) (by decide) (by decide) (by decide) (Nat.le_of_ble_eq_true rfl) (Nat.le_of_ble_eq_true rfl) dX12_init_427 79 (by decide) (hts _ ww_f79) rfl rfl (tyX12_ok 79 (by decide)) dX12_init_429 ?_
  clear hP hD hS hK
  intro q49 c49 H49 lo49 hK hP hD hS
  obtain ⟨ts49, et49⟩ : ∃ z, z = ts48 ++ [(c49, .int)] := ⟨_, rfl⟩
  rw [← et49] at hK
  obtain ⟨cs49, ec49⟩ : ∃ z : va_W, z = cs48 ++ [(q49, .inl (c49, 300, .inl (fun _ => 0)))] := ⟨_, rfl⟩
  rw [← ec49] at hP hD
  obtain ⟨fs52, ef52⟩ : ∃ z, z = fs51.set 79 (.ref q49) := ⟨_, rfl⟩
  rw [← ef52] at hP hD
  replace hlen : fs52.length = 149 := by rw [ef52, List.length_set]; exact hlen
  refine lv_aload_n hx hb dX12_init_432 rfl (lv_at hl 0 rfl) ?_
  refine lv_sipush hx hb dX12_init_433 (v := 300) rfl ?_
  refine ia_arr (atype := .int) (ty := .int) (a0 := (300, .inl (fun _ => 0))) (nw := 300) hx hb hts hin hown hnm hA hlen hK hP hD hS har_I rfl (fun cA => ia_I cA 300) (by decide) (by decide) (by decide) (Nat.le_of_ble_eq_true rfl) (Nat.le_of_ble_eq_true rfl) dX12_init_436 80 (by decide) (hts _ ww_f80) rfl rfl (tyX12_ok 80 (by decide)) dX12_init_438 ?_
  clear hP hD hS hK
  intro q50 c50 H50 lo50 hK hP hD hS
  obtain ⟨ts50, et50⟩ : ∃ z, z = ts49 ++ [(c50, .int)] := ⟨_, rfl⟩
  rw [← et50] at hK
  obtain ⟨cs50, ec50⟩ : ∃ z : va_W, z = cs49 ++ [(q50, .inl (c50, 300, .inl (fun _ => 0)))] := ⟨_, rfl⟩
  rw [← ec50] at hP hD
  obtain ⟨fs53, ef53⟩ : ∃ z, z = fs52.set 80 (.ref q50) := ⟨_, rfl⟩
  rw [← ef53] at hP hD
  replace hlen : fs53.length = 149 := by rw [ef53, List.length_set]; exact hlen
  refine lv_aload_n hx hb dX12_init_441 rfl (lv_at hl 0 rfl) ?_
  refine lv_sipush hx hb dX12_init_442 (v := 300) rfl ?_
  refine ia_arr (atype := .int) (ty := .int) (a0 := (300, .inl (fun _ => 0))) (nw := 300) hx hb hts hin hown hnm hA hlen hK hP hD hS har_I rfl (fun cA => ia_I cA 300) (by decide) (by decide) (by decide) (Nat.le_of_ble_eq_true rfl) (Nat.le_of_ble_eq_true rfl) dX12_init_445 81 (by decide) (hts _ ww_f81) rfl rfl (tyX12_ok 81 (by decide)) dX12_init_447 ?_
  clear hP hD hS hK
  intro q51 c51 H51 lo51 hK hP hD hS
  obtain ⟨ts51, et51⟩ : ∃ z, z = ts50 ++ [(c51, .int)] := ⟨_, rfl⟩
  rw [← et51] at hK
  obtain ⟨cs51, ec51⟩ : ∃ z : va_W, z = cs50 ++ [(q51, .inl (c51, 300, .inl (fun _ => 0)))] := ⟨_, rfl⟩
  rw [← ec51] at hP hD
  obtain ⟨fs54, ef54⟩ : ∃ z, z = fs53.set 81 (.ref q51) := ⟨_, rfl⟩
  rw [← ef54] at hP hD
  replace hlen : fs54.length = 149 := by rw [ef54, List.length_set]; exact hlen
  refine lv_aload_n hx hb dX12_init_450 rfl (lv_at hl 0 rfl) ?_
  refine lv_sipush hx hb dX12_init_451 (v := 300) rfl ?_
  refine ia_arr (atype := .int) (ty := .int) (a0 := (300, .inl (fun _ => 0))) (nw := 300) hx hb hts hin hown hnm hA hlen hK hP hD hS har_I rfl (fun cA => ia_I cA 300) (by decide) (by decide) (by decide) (Nat.le_of_ble_eq_true rfl) (Nat.le_of_ble_eq_true rfl) dX12_init_454 82 (by decide) (hts _ ww_f82) rfl rfl (tyX12_ok 82 (by decide)) dX12_init_456 ?_
  clear hP hD hS hK
  intro q52 c52 H52 lo52 hK hP hD hS
  obtain ⟨ts52, et52⟩ : ∃ z, z = ts51 ++ [(c52, .int)] := ⟨_, rfl⟩
  rw [← et52] at hK
  obtain ⟨cs52, ec52⟩ : ∃ z : va_W, z = cs51 ++ [(q52, .inl (c52, 300, .inl (fun _ => 0)))] := ⟨_, rfl⟩
  rw [← ec52] at hP hD
  obtain ⟨fs55, ef55⟩ : ∃ z, z = fs54.set 82 (.ref q52) := ⟨_, rfl⟩
  rw [← ef55] at hP hD
  replace hlen : fs55.length = 149 := by rw [ef55, List.length_set]; exact hlen
  refine lv_aload_n hx hb dX12_init_459 rfl (lv_at hl 0 rfl) ?_
  refine lv_sipush hx hb dX12_init_460 (v := 300) rfl ?_
  refine ia_arr (atype := .int) (ty := .int) (a0 := (300, .inl (fun _ => 0))) (nw := 300) hx hb hts hin hown hnm hA hlen hK hP hD hS har_I rfl (fun cA => ia_I cA 300) (by decide) (by decide) (by decide) (Nat.le_of_ble_eq_true rfl) (Nat.le_of_ble_eq_true rfl) dX12_init_463 83 (by decide) (hts _ ww_f83) rfl rfl (tyX12_ok 83 (by decide)) dX12_init_465 ?_
  clear hP hD hS hK
  intro q53 c53 H53 lo53 hK hP hD hS
  obtain ⟨ts53, et53⟩ : ∃ z, z = ts52 ++ [(c53, .int)] := ⟨_, rfl⟩
  rw [← et53] at hK
  obtain ⟨cs53, ec53⟩ : ∃ z : va_W, z = cs52 ++ [(q53, .inl (c53, 300, .inl (fun _ => 0)))] := ⟨_, rfl⟩
  rw [← ec53] at hP hD
  obtain ⟨fs56, ef56⟩ : ∃ z, z = fs55.set 83 (.ref q53) := ⟨_, rfl⟩
  rw [← ef56] at hP hD
  replace hlen : fs56.length = 149 := by rw [ef56, List.length_set]; exact hlen
  refine lv_aload_n hx hb dX12_init_468 rfl (lv_at hl 0 rfl) ?_
  refine lv_sipush hx hb dX12_init_469 (v := 300) rfl ?_
  refine ia_arr (atype := .boolean) (ty := .boolean) (a0 := (300, .inl (fun _ => 0))) (nw := 300) hx hb hts hin hown hnm hA hlen hK hP hD hS har_Z rfl (fun cA => ia_Z cA 300) (by decide) (by decide) (by decide) (Nat.le_of_ble_eq_true rfl) (Nat.le_of_ble_eq_true rfl) dX12_init_472 84 (by decide) (hts _ ww_f84) rfl rfl (tyX12_ok 84 (by decide)) dX12_init_474 ?_
  clear hP hD hS hK
  intro q54 c54 H54 lo54 hK hP hD hS
  obtain ⟨ts54, et54⟩ : ∃ z, z = ts53 ++ [(c54, .boolean)] := ⟨_, rfl⟩
  rw [← et54] at hK
  obtain ⟨cs54, ec54⟩ : ∃ z : va_W, z = cs53 ++ [(q54, .inl (c54, 300, .inl (fun _ => 0)))] := ⟨_, rfl⟩
  rw [← ec54] at hP hD
  obtain ⟨fs57, ef57⟩ : ∃ z, z = fs56.set 84 (.ref q54) := ⟨_, rfl⟩
  rw [← ef57] at hP hD
  replace hlen : fs57.length = 149 := by rw [ef57, List.length_set]; exact hlen
  refine lv_aload_n hx hb dX12_init_477 rfl (lv_at hl 0 rfl) ?_
  refine lv_sipush hx hb dX12_init_478 (v := 2400) rfl ?_
  refine ia_arr (atype := .int) (ty := .int) (a0 := (2400, .inl (fun _ => 0))) (nw := 2400) hx hb hts hin hown hnm hA hlen hK hP hD hS har_I rfl (fun cA => ia_I cA 2400) (by decide) (by decide) (by decide) (Nat.le_of_ble_eq_true rfl) (Nat.le_of_ble_eq_true rfl) dX12_init_481 86 (by decide) (hts _ ww_f86) rfl rfl (tyX12_ok 86 (by decide)) dX12_init_483 ?_
  clear hP hD hS hK
  intro q55 c55 H55 lo55 hK hP hD hS
  obtain ⟨ts55, et55⟩ : ∃ z, z = ts54 ++ [(c55, .int)] := ⟨_, rfl⟩
  rw [← et55] at hK
  obtain ⟨cs55, ec55⟩ : ∃ z : va_W, z = cs54 ++ [(q55, .inl (c55, 2400, .inl (fun _ => 0)))] := ⟨_, rfl⟩
  rw [← ec55] at hP hD
  obtain ⟨fs58, ef58⟩ : ∃ z, z = fs57.set 86 (.ref q55) := ⟨_, rfl⟩
  rw [← ef58] at hP hD
  replace hlen : fs58.length = 149 := by rw [ef58, List.length_set]; exact hlen
  refine lv_aload_n hx hb dX12_init_486 rfl (lv_at hl 0 rfl) ?_
  refine lv_bipush hx hb dX12_init_487 (v := 60) rfl ?_
  refine ia_arr (atype := .int) (ty := .int) (a0 := (60, .inl (fun _ => 0))) (nw := 60) hx hb hts hin hown hnm hA hlen hK hP hD hS har_I rfl (fun cA => ia_I cA 60) (by decide) (by decide) (by decide) (Nat.le_of_ble_eq_true rfl) (Nat.le_of_ble_eq_true rfl) dX12_init_489 92 (by decide) (hts _ ww_f92) rfl rfl (tyX12_ok 92 (by decide)) dX12_init_491 ?_
  clear hP hD hS hK
  intro q56 c56 H56 lo56 hK hP hD hS
  obtain ⟨ts56, et56⟩ : ∃ z, z = ts55 ++ [(c56, .int)] := ⟨_, rfl⟩
  rw [← et56] at hK
  obtain ⟨cs56, ec56⟩ : ∃ z : va_W, z = cs55 ++ [(q56, .inl (c56, 60, .inl (fun _ => 0)))] := ⟨_, rfl⟩
  rw [← ec56] at hP hD
  obtain ⟨fs59, ef59⟩ : ∃ z, z = fs58.set 92 (.ref q56) := ⟨_, rfl⟩
  rw [← ef59] at hP hD
  replace hlen : fs59.length = 149 := by rw [ef59, List.length_set]; exact hlen
  have eF59 : fs59 = [.ref q1, .ref q2, .ref q3, .ref q4, .ref q5, .ref q6, .int 0, .ref q7, .int 0, .ref q8, .ref q9, .int 0, .ref q10, .ref q11, .int 0, .ref q12, .int 0, .ref q13, .int 0, .ref q14, .int 0, .ref q15, .int 0, .int 0, .int 0, .int (-1), .ref q16, .ref q17, .ref q18, .ref q19, .int 0, .ref q20, .int 0, .int 0, .int 0, .int 0, .ref q21, .ref q22, .ref q23, .ref q24, .ref q25, .ref q26, .int 0, .ref q27, .ref q28, .ref q29, .ref q30, .ref q31, .ref q32, .ref q33, .ref q34, .ref q35, .ref q36, .ref q37, .int 0, .ref q38, .ref q39, .int (-1), .int 0, .int 1000, .int 0, .int 0, .int 0, .int 0, .int 0, .ref q40, .ref q41, .ref q42, .ref q43, .int 0, .ref q44, .int 0, .ref q45, .ref q46, .int 0, .ref q47, .int 0, .ref q48, .int 0, .ref q49, .ref q50, .ref q51, .ref q52, .ref q53, .ref q54, .int 0, .ref q55, .int 0, .int 0, .int 0, .int 0, .int 0, .ref q56, .null, .null, .null, .null, .null, .null, .null, .null, .null, .int 0, .null, .int 0, .null, .null, .null, .null, .int 0, .int 0, .int 0, .null, .null, .null, .null, .null, .int 0, .null, .int 0, .null, .null, .int 0, .null, .null, .null, .int 0, .null, .null, .null, .null, .int 0, .int 0, .int 0, .int 0, .int 0, .int 0, .null, .null, .int 0, .null, .null, .null, .null, .int 0, .null, .null, .int 0, .int 0] := by
    rw [ef59, ef58, ef57, ef56, ef55, ef54, ef53, ef52, eF51]
    rfl
  have eC56 : cs56 = [(q1, .inl (c1, 452000, .inl (fun _ => 0))), (q2, .inl (c2, 452000, .inl (fun _ => 0))), (q3, .inl (c3, 452000, .inl (fun _ => 0))), (q4, .inl (c4, 452000, .inl (fun _ => 0))), (q5, .inl (c5, 452000, .inl (fun _ => 0))), (q6, .inl (c6, 40000, .inr (.inl (fun _ => 0)))), (q7, .inl (c7, 8192, .inl (fun _ => 0))), (q8, .inl (c8, 252000, .inl (fun _ => 0))), (q9, .inl (c9, 21000, .inl (fun _ => 0))), (q10, .inl (c10, 20, .inl (fun _ => 0))), (q11, .inl (c11, 3000, .inl (fun _ => 0))), (q12, .inl (c12, 2000, .inl (fun _ => 0))), (q13, .inl (c13, 12, .inl (fun _ => 0))), (q14, .inl (c14, 4000, .inl (fun _ => 0))), (q15, .inl (c15, 200, .inl (fun _ => 0))), (q16, .inl (c16, 40, .inl (fun _ => 0))), (q17, .inl (c17, 40, .inl (fun _ => 0))), (q18, .inl (c18, 40, .inl (fun _ => 0))), (q19, .inl (c19, 40, .inl (fun _ => 0))), (q20, .inl (c20, 1100, .inl (fun _ => 0))), (q21, .inl (c21, 40, .inl (fun _ => 0))), (q22, .inl (c22, 40, .inl (fun _ => 0))), (q23, .inl (c23, 240, .inl (fun _ => 0))), (q24, .inl (c24, 40, .inl (fun _ => 0))), (q25, .inl (c25, 40, .inl (fun _ => 0))), (q26, .inl (c26, 40, .inl (fun _ => 0))), (q27, .inl (c27, 60, .inl (fun _ => 0))), (q28, .inl (c28, 60, .inl (fun _ => 0))), (q29, .inl (c29, 60, .inl (fun _ => 0))), (q30, .inl (c30, 60, .inl (fun _ => 0))), (q31, .inl (c31, 60, .inl (fun _ => 0))), (q32, .inl (c32, 60, .inl (fun _ => 0))), (q33, .inl (c33, 7200, .inl (fun _ => 0))), (q34, .inl (c34, 60, .inl (fun _ => 0))), (q35, .inl (c35, 60, .inl (fun _ => 0))), (q36, .inl (c36, 60, .inl (fun _ => 0))), (q37, .inl (c37, 60, .inl (fun _ => 0))), (q38, .inl (c38, 100, .inl (fun _ => 0))), (q39, .inl (c39, 100, .inl (fun _ => 0))), (q40, .inl (c40, 200, .inl (fun _ => 0))), (q41, .inl (c41, 1200, .inl (fun _ => 0))), (q42, .inl (c42, 1200, .inl (fun _ => 0))), (q43, .inl (c43, 1200, .inl (fun _ => 0))), (q44, .inl (c44, 2400, .inl (fun _ => 0))), (q45, .inl (c45, 400, .inl (fun _ => 0))), (q46, .inl (c46, 400, .inl (fun _ => 0))), (q47, .inl (c47, 400, .inl (fun _ => 0))), (q48, .inl (c48, 130, .inl (fun _ => 0))), (q49, .inl (c49, 300, .inl (fun _ => 0))), (q50, .inl (c50, 300, .inl (fun _ => 0))), (q51, .inl (c51, 300, .inl (fun _ => 0))), (q52, .inl (c52, 300, .inl (fun _ => 0))), (q53, .inl (c53, 300, .inl (fun _ => 0))), (q54, .inl (c54, 300, .inl (fun _ => 0))), (q55, .inl (c55, 2400, .inl (fun _ => 0))), (q56, .inl (c56, 60, .inl (fun _ => 0)))] := by
    rw [ec56, ec55, ec54, ec53, ec52, ec51, ec50, ec49, eC48]
    rfl
  have eT56 : ts56 = [(c1, .int), (c2, .int), (c3, .int), (c4, .int), (c5, .int), (c6, .long), (c7, .int), (c8, .int), (c9, .int), (c10, .int), (c11, .int), (c12, .int), (c13, .int), (c14, .int), (c15, .int), (c16, .int), (c17, .int), (c18, .int), (c19, .int), (c20, .int), (c21, .int), (c22, .int), (c23, .int), (c24, .int), (c25, .int), (c26, .boolean), (c27, .int), (c28, .int), (c29, .int), (c30, .int), (c31, .int), (c32, .int), (c33, .int), (c34, .boolean), (c35, .boolean), (c36, .boolean), (c37, .boolean), (c38, .int), (c39, .int), (c40, .int), (c41, .int), (c42, .int), (c43, .int), (c44, .int), (c45, .int), (c46, .int), (c47, .int), (c48, .int), (c49, .int), (c50, .int), (c51, .int), (c52, .int), (c53, .int), (c54, .boolean), (c55, .int), (c56, .int)] := by
    rw [et56, et55, et54, et53, et52, et51, et50, et49, eT48]
    rfl
  clear ec56 et56 ec55 et55 ec54 et54 ec53 et53 ec52 et52 ec51 et51 ec50 et50 ec49 et49 eC48 eT48
  clear ef59 ef58 ef57 ef56 ef55 ef54 ef53 ef52 eF51
  refine lv_aload_n hx hb dX12_init_494 rfl (lv_at hl 0 rfl) ?_
  refine lv_bipush hx hb dX12_init_495 (v := 60) rfl ?_
  refine ia_arr (atype := .boolean) (ty := .boolean) (a0 := (60, .inl (fun _ => 0))) (nw := 60) hx hb hts hin hown hnm hA hlen hK hP hD hS har_Z rfl (fun cA => ia_Z cA 60) (by decide) (by decide) (by decide) (Nat.le_of_ble_eq_true rfl) (Nat.le_of_ble_eq_true rfl) dX12_init_497 93 (by decide) (hts _ ww_f93) rfl rfl (tyX12_ok 93 (by decide)) dX12_init_499 ?_
  clear hP hD hS hK
  intro q57 c57 H57 lo57 hK hP hD hS
  obtain ⟨ts57, et57⟩ : ∃ z, z = ts56 ++ [(c57, .boolean)] := ⟨_, rfl⟩
  rw [← et57] at hK
  obtain ⟨cs57, ec57⟩ : ∃ z : va_W, z = cs56 ++ [(q57, .inl (c57, 60, .inl (fun _ => 0)))] := ⟨_, rfl⟩
  rw [← ec57] at hP hD
  obtain ⟨fs60, ef60⟩ : ∃ z, z = fs59.set 93 (.ref q57) := ⟨_, rfl⟩
  rw [← ef60] at hP hD
  replace hlen : fs60.length = 149 := by rw [ef60, List.length_set]; exact hlen
  refine lv_aload_n hx hb dX12_init_502 rfl (lv_at hl 0 rfl) ?_
  refine lv_bipush hx hb dX12_init_503 (v := 60) rfl ?_
  refine ia_arr (atype := .int) (ty := .int) (a0 := (60, .inl (fun _ => 0))) (nw := 60) hx hb hts hin hown hnm hA hlen hK hP hD hS har_I rfl (fun cA => ia_I cA 60) (by decide) (by decide) (by decide) (Nat.le_of_ble_eq_true rfl) (Nat.le_of_ble_eq_true rfl) dX12_init_505 94 (by decide) (hts _ ww_f94) rfl rfl (tyX12_ok 94 (by decide)) dX12_init_507 ?_
  clear hP hD hS hK
  intro q58 c58 H58 lo58 hK hP hD hS
  obtain ⟨ts58, et58⟩ : ∃ z, z = ts57 ++ [(c58, .int)] := ⟨_, rfl⟩
  rw [← et58] at hK
  obtain ⟨cs58, ec58⟩ : ∃ z : va_W, z = cs57 ++ [(q58, .inl (c58, 60, .inl (fun _ => 0)))] := ⟨_, rfl⟩
  rw [← ec58] at hP hD
  obtain ⟨fs61, ef61⟩ : ∃ z, z = fs60.set 94 (.ref q58) := ⟨_, rfl⟩
  rw [← ef61] at hP hD
  replace hlen : fs61.length = 149 := by rw [ef61, List.length_set]; exact hlen
  refine lv_aload_n hx hb dX12_init_510 rfl (lv_at hl 0 rfl) ?_
  refine lv_bipush hx hb dX12_init_511 (v := 60) rfl ?_
  refine ia_arr (atype := .int) (ty := .int) (a0 := (60, .inl (fun _ => 0))) (nw := 60) hx hb hts hin hown hnm hA hlen hK hP hD hS har_I rfl (fun cA => ia_I cA 60) (by decide) (by decide) (by decide) (Nat.le_of_ble_eq_true rfl) (Nat.le_of_ble_eq_true rfl) dX12_init_513 95 (by decide) (hts _ ww_f95) rfl rfl (tyX12_ok 95 (by decide)) dX12_init_515 ?_
  clear hP hD hS hK
  intro q59 c59 H59 lo59 hK hP hD hS
  obtain ⟨ts59, et59⟩ : ∃ z, z = ts58 ++ [(c59, .int)] := ⟨_, rfl⟩
  rw [← et59] at hK
  obtain ⟨cs59, ec59⟩ : ∃ z : va_W, z = cs58 ++ [(q59, .inl (c59, 60, .inl (fun _ => 0)))] := ⟨_, rfl⟩
  rw [← ec59] at hP hD
  obtain ⟨fs62, ef62⟩ : ∃ z, z = fs61.set 95 (.ref q59) := ⟨_, rfl⟩
  rw [← ef62] at hP hD
  replace hlen : fs62.length = 149 := by rw [ef62, List.length_set]; exact hlen
  refine lv_aload_n hx hb dX12_init_518 rfl (lv_at hl 0 rfl) ?_
  refine lv_bipush hx hb dX12_init_519 (v := 60) rfl ?_
  refine ia_arr (atype := .int) (ty := .int) (a0 := (60, .inl (fun _ => 0))) (nw := 60) hx hb hts hin hown hnm hA hlen hK hP hD hS har_I rfl (fun cA => ia_I cA 60) (by decide) (by decide) (by decide) (Nat.le_of_ble_eq_true rfl) (Nat.le_of_ble_eq_true rfl) dX12_init_521 96 (by decide) (hts _ ww_f96) rfl rfl (tyX12_ok 96 (by decide)) dX12_init_523 ?_
  clear hP hD hS hK
  intro q60 c60 H60 lo60 hK hP hD hS
  obtain ⟨ts60, et60⟩ : ∃ z, z = ts59 ++ [(c60, .int)] := ⟨_, rfl⟩
  rw [← et60] at hK
  obtain ⟨cs60, ec60⟩ : ∃ z : va_W, z = cs59 ++ [(q60, .inl (c60, 60, .inl (fun _ => 0)))] := ⟨_, rfl⟩
  rw [← ec60] at hP hD
  obtain ⟨fs63, ef63⟩ : ∃ z, z = fs62.set 96 (.ref q60) := ⟨_, rfl⟩
  rw [← ef63] at hP hD
  replace hlen : fs63.length = 149 := by rw [ef63, List.length_set]; exact hlen
  refine lv_aload_n hx hb dX12_init_526 rfl (lv_at hl 0 rfl) ?_
  refine lv_bipush hx hb dX12_init_527 (v := 60) rfl ?_
  refine ia_arr (atype := .int) (ty := .int) (a0 := (60, .inl (fun _ => 0))) (nw := 60) hx hb hts hin hown hnm hA hlen hK hP hD hS har_I rfl (fun cA => ia_I cA 60) (by decide) (by decide) (by decide) (Nat.le_of_ble_eq_true rfl) (Nat.le_of_ble_eq_true rfl) dX12_init_529 97 (by decide) (hts _ ww_f97) rfl rfl (tyX12_ok 97 (by decide)) dX12_init_531 ?_
  clear hP hD hS hK
  intro q61 c61 H61 lo61 hK hP hD hS
  obtain ⟨ts61, et61⟩ : ∃ z, z = ts60 ++ [(c61, .int)] := ⟨_, rfl⟩
  rw [← et61] at hK
  obtain ⟨cs61, ec61⟩ : ∃ z : va_W, z = cs60 ++ [(q61, .inl (c61, 60, .inl (fun _ => 0)))] := ⟨_, rfl⟩
  rw [← ec61] at hP hD
  obtain ⟨fs64, ef64⟩ : ∃ z, z = fs63.set 97 (.ref q61) := ⟨_, rfl⟩
  rw [← ef64] at hP hD
  replace hlen : fs64.length = 149 := by rw [ef64, List.length_set]; exact hlen
  refine lv_aload_n hx hb dX12_init_534 rfl (lv_at hl 0 rfl) ?_
  refine lv_bipush hx hb dX12_init_535 (v := 60) rfl ?_
  refine ia_arr (atype := .int) (ty := .int) (a0 := (60, .inl (fun _ => 0))) (nw := 60) hx hb hts hin hown hnm hA hlen hK hP hD hS har_I rfl (fun cA => ia_I cA 60) (by decide) (by decide) (by decide) (Nat.le_of_ble_eq_true rfl) (Nat.le_of_ble_eq_true rfl) dX12_init_537 98 (by decide) (hts _ ww_f98) rfl rfl (tyX12_ok 98 (by decide)) dX12_init_539 ?_
  clear hP hD hS hK
  intro q62 c62 H62 lo62 hK hP hD hS
  obtain ⟨ts62, et62⟩ : ∃ z, z = ts61 ++ [(c62, .int)] := ⟨_, rfl⟩
  rw [← et62] at hK
  obtain ⟨cs62, ec62⟩ : ∃ z : va_W, z = cs61 ++ [(q62, .inl (c62, 60, .inl (fun _ => 0)))] := ⟨_, rfl⟩
  rw [← ec62] at hP hD
  obtain ⟨fs65, ef65⟩ : ∃ z, z = fs64.set 98 (.ref q62) := ⟨_, rfl⟩
  rw [← ef65] at hP hD
  replace hlen : fs65.length = 149 := by rw [ef65, List.length_set]; exact hlen
  refine lv_aload_n hx hb dX12_init_542 rfl (lv_at hl 0 rfl) ?_
  refine lv_bipush hx hb dX12_init_543 (v := 60) rfl ?_
  refine ia_arr (atype := .int) (ty := .int) (a0 := (60, .inl (fun _ => 0))) (nw := 60) hx hb hts hin hown hnm hA hlen hK hP hD hS har_I rfl (fun cA => ia_I cA 60) (by decide) (by decide) (by decide) (Nat.le_of_ble_eq_true rfl) (Nat.le_of_ble_eq_true rfl) dX12_init_545 99 (by decide) (hts _ ww_f99) rfl rfl (tyX12_ok 99 (by decide)) dX12_init_547 ?_
  clear hP hD hS hK
  intro q63 c63 H63 lo63 hK hP hD hS
  obtain ⟨ts63, et63⟩ : ∃ z, z = ts62 ++ [(c63, .int)] := ⟨_, rfl⟩
  rw [← et63] at hK
  obtain ⟨cs63, ec63⟩ : ∃ z : va_W, z = cs62 ++ [(q63, .inl (c63, 60, .inl (fun _ => 0)))] := ⟨_, rfl⟩
  rw [← ec63] at hP hD
  obtain ⟨fs66, ef66⟩ : ∃ z, z = fs65.set 99 (.ref q63) := ⟨_, rfl⟩
  rw [← ef66] at hP hD
  replace hlen : fs66.length = 149 := by rw [ef66, List.length_set]; exact hlen
  refine lv_aload_n hx hb dX12_init_550 rfl (lv_at hl 0 rfl) ?_
  refine lv_bipush hx hb dX12_init_551 (v := 60) rfl ?_
  refine ia_arr (atype := .int) (ty := .int) (a0 := (60, .inl (fun _ => 0))) (nw := 60) hx hb hts hin hown hnm hA hlen hK hP hD hS har_I rfl (fun cA => ia_I cA 60) (by decide) (by decide) (by decide) (Nat.le_of_ble_eq_true rfl) (Nat.le_of_ble_eq_true rfl) dX12_init_553 100 (by decide) (hts _ ww_f100) rfl rfl (tyX12_ok 100 (by decide)) dX12_init_555 ?_
  clear hP hD hS hK
  intro q64 c64 H64 lo64 hK hP hD hS
  obtain ⟨ts64, et64⟩ : ∃ z, z = ts63 ++ [(c64, .int)] := ⟨_, rfl⟩
  rw [← et64] at hK
  obtain ⟨cs64, ec64⟩ : ∃ z : va_W, z = cs63 ++ [(q64, .inl (c64, 60, .inl (fun _ => 0)))] := ⟨_, rfl⟩
  rw [← ec64] at hP hD
  obtain ⟨fs67, ef67⟩ : ∃ z, z = fs66.set 100 (.ref q64) := ⟨_, rfl⟩
  rw [← ef67] at hP hD
  replace hlen : fs67.length = 149 := by rw [ef67, List.length_set]; exact hlen
  have eF67 : fs67 = [.ref q1, .ref q2, .ref q3, .ref q4, .ref q5, .ref q6, .int 0, .ref q7, .int 0, .ref q8, .ref q9, .int 0, .ref q10, .ref q11, .int 0, .ref q12, .int 0, .ref q13, .int 0, .ref q14, .int 0, .ref q15, .int 0, .int 0, .int 0, .int (-1), .ref q16, .ref q17, .ref q18, .ref q19, .int 0, .ref q20, .int 0, .int 0, .int 0, .int 0, .ref q21, .ref q22, .ref q23, .ref q24, .ref q25, .ref q26, .int 0, .ref q27, .ref q28, .ref q29, .ref q30, .ref q31, .ref q32, .ref q33, .ref q34, .ref q35, .ref q36, .ref q37, .int 0, .ref q38, .ref q39, .int (-1), .int 0, .int 1000, .int 0, .int 0, .int 0, .int 0, .int 0, .ref q40, .ref q41, .ref q42, .ref q43, .int 0, .ref q44, .int 0, .ref q45, .ref q46, .int 0, .ref q47, .int 0, .ref q48, .int 0, .ref q49, .ref q50, .ref q51, .ref q52, .ref q53, .ref q54, .int 0, .ref q55, .int 0, .int 0, .int 0, .int 0, .int 0, .ref q56, .ref q57, .ref q58, .ref q59, .ref q60, .ref q61, .ref q62, .ref q63, .ref q64, .null, .int 0, .null, .int 0, .null, .null, .null, .null, .int 0, .int 0, .int 0, .null, .null, .null, .null, .null, .int 0, .null, .int 0, .null, .null, .int 0, .null, .null, .null, .int 0, .null, .null, .null, .null, .int 0, .int 0, .int 0, .int 0, .int 0, .int 0, .null, .null, .int 0, .null, .null, .null, .null, .int 0, .null, .null, .int 0, .int 0] := by
    rw [ef67, ef66, ef65, ef64, ef63, ef62, ef61, ef60, eF59]
    rfl
  have eC64 : cs64 = [(q1, .inl (c1, 452000, .inl (fun _ => 0))), (q2, .inl (c2, 452000, .inl (fun _ => 0))), (q3, .inl (c3, 452000, .inl (fun _ => 0))), (q4, .inl (c4, 452000, .inl (fun _ => 0))), (q5, .inl (c5, 452000, .inl (fun _ => 0))), (q6, .inl (c6, 40000, .inr (.inl (fun _ => 0)))), (q7, .inl (c7, 8192, .inl (fun _ => 0))), (q8, .inl (c8, 252000, .inl (fun _ => 0))), (q9, .inl (c9, 21000, .inl (fun _ => 0))), (q10, .inl (c10, 20, .inl (fun _ => 0))), (q11, .inl (c11, 3000, .inl (fun _ => 0))), (q12, .inl (c12, 2000, .inl (fun _ => 0))), (q13, .inl (c13, 12, .inl (fun _ => 0))), (q14, .inl (c14, 4000, .inl (fun _ => 0))), (q15, .inl (c15, 200, .inl (fun _ => 0))), (q16, .inl (c16, 40, .inl (fun _ => 0))), (q17, .inl (c17, 40, .inl (fun _ => 0))), (q18, .inl (c18, 40, .inl (fun _ => 0))), (q19, .inl (c19, 40, .inl (fun _ => 0))), (q20, .inl (c20, 1100, .inl (fun _ => 0))), (q21, .inl (c21, 40, .inl (fun _ => 0))), (q22, .inl (c22, 40, .inl (fun _ => 0))), (q23, .inl (c23, 240, .inl (fun _ => 0))), (q24, .inl (c24, 40, .inl (fun _ => 0))), (q25, .inl (c25, 40, .inl (fun _ => 0))), (q26, .inl (c26, 40, .inl (fun _ => 0))), (q27, .inl (c27, 60, .inl (fun _ => 0))), (q28, .inl (c28, 60, .inl (fun _ => 0))), (q29, .inl (c29, 60, .inl (fun _ => 0))), (q30, .inl (c30, 60, .inl (fun _ => 0))), (q31, .inl (c31, 60, .inl (fun _ => 0))), (q32, .inl (c32, 60, .inl (fun _ => 0))), (q33, .inl (c33, 7200, .inl (fun _ => 0))), (q34, .inl (c34, 60, .inl (fun _ => 0))), (q35, .inl (c35, 60, .inl (fun _ => 0))), (q36, .inl (c36, 60, .inl (fun _ => 0))), (q37, .inl (c37, 60, .inl (fun _ => 0))), (q38, .inl (c38, 100, .inl (fun _ => 0))), (q39, .inl (c39, 100, .inl (fun _ => 0))), (q40, .inl (c40, 200, .inl (fun _ => 0))), (q41, .inl (c41, 1200, .inl (fun _ => 0))), (q42, .inl (c42, 1200, .inl (fun _ => 0))), (q43, .inl (c43, 1200, .inl (fun _ => 0))), (q44, .inl (c44, 2400, .inl (fun _ => 0))), (q45, .inl (c45, 400, .inl (fun _ => 0))), (q46, .inl (c46, 400, .inl (fun _ => 0))), (q47, .inl (c47, 400, .inl (fun _ => 0))), (q48, .inl (c48, 130, .inl (fun _ => 0))), (q49, .inl (c49, 300, .inl (fun _ => 0))), (q50, .inl (c50, 300, .inl (fun _ => 0))), (q51, .inl (c51, 300, .inl (fun _ => 0))), (q52, .inl (c52, 300, .inl (fun _ => 0))), (q53, .inl (c53, 300, .inl (fun _ => 0))), (q54, .inl (c54, 300, .inl (fun _ => 0))), (q55, .inl (c55, 2400, .inl (fun _ => 0))), (q56, .inl (c56, 60, .inl (fun _ => 0))), (q57, .inl (c57, 60, .inl (fun _ => 0))), (q58, .inl (c58, 60, .inl (fun _ => 0))), (q59, .inl (c59, 60, .inl (fun _ => 0))), (q60, .inl (c60, 60, .inl (fun _ => 0))), (q61, .inl (c61, 60, .inl (fun _ => 0))), (q62, .inl (c62, 60, .inl (fun _ => 0))), (q63, .inl (c63, 60, .inl (fun _ => 0))), (q64, .inl (c64, 60, .inl (fun _ => 0)))] := by
    rw [ec64, ec63, ec62, ec61, ec60, ec59, ec58, ec57, eC56]
    rfl
  have eT64 : ts64 = [(c1, .int), (c2, .int), (c3, .int), (c4, .int), (c5, .int), (c6, .long), (c7, .int), (c8, .int), (c9, .int), (c10, .int), (c11, .int), (c12, .int), (c13, .int), (c14, .int), (c15, .int), (c16, .int), (c17, .int), (c18, .int), (c19, .int), (c20, .int), (c21, .int), (c22, .int), (c23, .int), (c24, .int), (c25, .int), (c26, .boolean), (c27, .int), (c28, .int), (c29, .int), (c30, .int), (c31, .int), (c32, .int), (c33, .int), (c34, .boolean), (c35, .boolean), (c36, .boolean), (c37, .boolean), (c38, .int), (c39, .int), (c40, .int), (c41, .int), (c42, .int), (c43, .int), (c44, .int), (c45, .int), (c46, .int), (c47, .int), (c48, .int), (c49, .int), (c50, .int), (c51, .int), (c52, .int), (c53, .int), (c54, .boolean), (c55, .int), (c56, .int), (c57, .boolean), (c58, .int), (c59, .int), (c60, .int), (c61, .int), (c62, .int), (c63, .int), (c64, .int)] := by
    rw [et64, et63, et62, et61, et60, et59, et58, et57, eT56]
    rfl
  clear ec64 et64 ec63 et63 ec62 et62 ec61 et61 ec60 et60 ec59 et59 ec58 et58 ec57 et57 eC56 eT56
  clear ef67 ef66 ef65 ef64 ef63 ef62 ef61 ef60 eF59
  refine lv_aload_n hx hb dX12_init_558 rfl (lv_at hl 0 rfl) ?_
  refine lv_bipush hx hb dX12_init_559 (v := 60) rfl ?_
  refine ia_arr (atype := .int) (ty := .int) (a0 := (60, .inl (fun _ => 0))) (nw := 60) hx hb hts hin hown hnm hA hlen hK hP hD hS har_I rfl (fun cA => ia_I cA 60) (by decide) (by decide) (by decide) (Nat.le_of_ble_eq_true rfl) (Nat.le_of_ble_eq_true rfl) dX12_init_561 101 (by decide) (hts _ ww_f101) rfl rfl (tyX12_ok 101 (by decide)) dX12_init_563 ?_
  clear hP hD hS hK
  intro q65 c65 H65 lo65 hK hP hD hS
  obtain ⟨ts65, et65⟩ : ∃ z, z = ts64 ++ [(c65, .int)] := ⟨_, rfl⟩
  rw [← et65] at hK
  obtain ⟨cs65, ec65⟩ : ∃ z : va_W, z = cs64 ++ [(q65, .inl (c65, 60, .inl (fun _ => 0)))] := ⟨_, rfl⟩
  rw [← ec65] at hP hD
  obtain ⟨fs68, ef68⟩ : ∃ z, z = fs67.set 101 (.ref q65) := ⟨_, rfl⟩
  rw [← ef68] at hP hD
  replace hlen : fs68.length = 149 := by rw [ef68, List.length_set]; exact hlen
  refine lv_aload_n hx hb dX12_init_566 rfl (lv_at hl 0 rfl) ?_
  refine lv_sipush hx hb dX12_init_567 (v := 1200) rfl ?_
  refine ia_arr (atype := .int) (ty := .int) (a0 := (1200, .inl (fun _ => 0))) (nw := 1200) hx hb hts hin hown hnm hA hlen hK hP hD hS har_I rfl (fun cA => ia_I cA 1200) (by decide) (by decide) (by decide) (Nat.le_of_ble_eq_true rfl) (Nat.le_of_ble_eq_true rfl) dX12_init_570 103 (by decide) (hts _ ww_f103) rfl rfl (tyX12_ok 103 (by decide)) dX12_init_572 ?_
  clear hP hD hS hK
  intro q66 c66 H66 lo66 hK hP hD hS
  obtain ⟨ts66, et66⟩ : ∃ z, z = ts65 ++ [(c66, .int)] := ⟨_, rfl⟩
  rw [← et66] at hK
  obtain ⟨cs66, ec66⟩ : ∃ z : va_W, z = cs65 ++ [(q66, .inl (c66, 1200, .inl (fun _ => 0)))] := ⟨_, rfl⟩
  rw [← ec66] at hP hD
  obtain ⟨fs69, ef69⟩ : ∃ z, z = fs68.set 103 (.ref q66) := ⟨_, rfl⟩
  rw [← ef69] at hP hD
  replace hlen : fs69.length = 149 := by rw [ef69, List.length_set]; exact hlen
  refine lv_aload_n hx hb dX12_init_575 rfl (lv_at hl 0 rfl) ?_
  refine lv_sipush hx hb dX12_init_576 (v := 7800) rfl ?_
  refine ia_arr (atype := .int) (ty := .int) (a0 := (7800, .inl (fun _ => 0))) (nw := 7800) hx hb hts hin hown hnm hA hlen hK hP hD hS har_I rfl (fun cA => ia_I cA 7800) (by decide) (by decide) (by decide) (Nat.le_of_ble_eq_true rfl) (Nat.le_of_ble_eq_true rfl) dX12_init_579 105 (by decide) (hts _ ww_f105) rfl rfl (tyX12_ok 105 (by decide)) dX12_init_581 ?_
  clear hP hD hS hK
  intro q67 c67 H67 lo67 hK hP hD hS
  obtain ⟨ts67, et67⟩ : ∃ z, z = ts66 ++ [(c67, .int)] := ⟨_, rfl⟩
  rw [← et67] at hK
  obtain ⟨cs67, ec67⟩ : ∃ z : va_W, z = cs66 ++ [(q67, .inl (c67, 7800, .inl (fun _ => 0)))] := ⟨_, rfl⟩
  rw [← ec67] at hP hD
  obtain ⟨fs70, ef70⟩ : ∃ z, z = fs69.set 105 (.ref q67) := ⟨_, rfl⟩
  rw [← ef70] at hP hD
  replace hlen : fs70.length = 149 := by rw [ef70, List.length_set]; exact hlen
  refine lv_aload_n hx hb dX12_init_584 rfl (lv_at hl 0 rfl) ?_
  refine lv_sipush hx hb dX12_init_585 (v := 7800) rfl ?_
  refine ia_arr (atype := .int) (ty := .int) (a0 := (7800, .inl (fun _ => 0))) (nw := 7800) hx hb hts hin hown hnm hA hlen hK hP hD hS har_I rfl (fun cA => ia_I cA 7800) (by decide) (by decide) (by decide) (Nat.le_of_ble_eq_true rfl) (Nat.le_of_ble_eq_true rfl) dX12_init_588 106 (by decide) (hts _ ww_f106) rfl rfl (tyX12_ok 106 (by decide)) dX12_init_590 ?_
  clear hP hD hS hK
  intro q68 c68 H68 lo68 hK hP hD hS
  obtain ⟨ts68, et68⟩ : ∃ z, z = ts67 ++ [(c68, .int)] := ⟨_, rfl⟩
  rw [← et68] at hK
  obtain ⟨cs68, ec68⟩ : ∃ z : va_W, z = cs67 ++ [(q68, .inl (c68, 7800, .inl (fun _ => 0)))] := ⟨_, rfl⟩
  rw [← ec68] at hP hD
  obtain ⟨fs71, ef71⟩ : ∃ z, z = fs70.set 106 (.ref q68) := ⟨_, rfl⟩
  rw [← ef71] at hP hD
  replace hlen : fs71.length = 149 := by rw [ef71, List.length_set]; exact hlen
  refine lv_aload_n hx hb dX12_init_593 rfl (lv_at hl 0 rfl) ?_
  refine lv_bipush hx hb dX12_init_594 (v := 60) rfl ?_
  refine ia_arr (atype := .int) (ty := .int) (a0 := (60, .inl (fun _ => 0))) (nw := 60) hx hb hts hin hown hnm hA hlen hK hP hD hS har_I rfl (fun cA => ia_I cA 60) (by decide) (by decide) (by decide) (Nat.le_of_ble_eq_true rfl) (Nat.le_of_ble_eq_true rfl) dX12_init_596 107 (by decide) (hts _ ww_f107) rfl rfl (tyX12_ok 107 (by decide)) dX12_init_598 ?_
  clear hP hD hS hK
  intro q69 c69 H69 lo69 hK hP hD hS
  obtain ⟨ts69, et69⟩ : ∃ z, z = ts68 ++ [(c69, .int)] := ⟨_, rfl⟩
  rw [← et69] at hK
  obtain ⟨cs69, ec69⟩ : ∃ z : va_W, z = cs68 ++ [(q69, .inl (c69, 60, .inl (fun _ => 0)))] := ⟨_, rfl⟩
  rw [← ec69] at hP hD
  obtain ⟨fs72, ef72⟩ : ∃ z, z = fs71.set 107 (.ref q69) := ⟨_, rfl⟩
  rw [← ef72] at hP hD
  replace hlen : fs72.length = 149 := by rw [ef72, List.length_set]; exact hlen
  refine lv_aload_n hx hb dX12_init_601 rfl (lv_at hl 0 rfl) ?_
  refine lv_sipush hx hb dX12_init_602 (v := 200) rfl ?_
  refine ia_arr (atype := .int) (ty := .int) (a0 := (200, .inl (fun _ => 0))) (nw := 200) hx hb hts hin hown hnm hA hlen hK hP hD hS har_I rfl (fun cA => ia_I cA 200) (by decide) (by decide) (by decide) (Nat.le_of_ble_eq_true rfl) (Nat.le_of_ble_eq_true rfl) dX12_init_605 108 (by decide) (hts _ ww_f108) rfl rfl (tyX12_ok 108 (by decide)) dX12_init_607 ?_
  clear hP hD hS hK
  intro q70 c70 H70 lo70 hK hP hD hS
  obtain ⟨ts70, et70⟩ : ∃ z, z = ts69 ++ [(c70, .int)] := ⟨_, rfl⟩
  rw [← et70] at hK
  obtain ⟨cs70, ec70⟩ : ∃ z : va_W, z = cs69 ++ [(q70, .inl (c70, 200, .inl (fun _ => 0)))] := ⟨_, rfl⟩
  rw [← ec70] at hP hD
  obtain ⟨fs73, ef73⟩ : ∃ z, z = fs72.set 108 (.ref q70) := ⟨_, rfl⟩
  rw [← ef73] at hP hD
  replace hlen : fs73.length = 149 := by rw [ef73, List.length_set]; exact hlen
  refine lv_aload_n hx hb dX12_init_610 rfl (lv_at hl 0 rfl) ?_
  refine lv_sipush hx hb dX12_init_611 (v := 800) rfl ?_
  refine ia_arr (atype := .int) (ty := .int) (a0 := (800, .inl (fun _ => 0))) (nw := 800) hx hb hts hin hown hnm hA hlen hK hP hD hS har_I rfl (fun cA => ia_I cA 800) (by decide) (by decide) (by decide) (Nat.le_of_ble_eq_true rfl) (Nat.le_of_ble_eq_true rfl) dX12_init_614 112 (by decide) (hts _ ww_f112) rfl rfl (tyX12_ok 112 (by decide)) dX12_init_616 ?_
  clear hP hD hS hK
  intro q71 c71 H71 lo71 hK hP hD hS
  obtain ⟨ts71, et71⟩ : ∃ z, z = ts70 ++ [(c71, .int)] := ⟨_, rfl⟩
  rw [← et71] at hK
  obtain ⟨cs71, ec71⟩ : ∃ z : va_W, z = cs70 ++ [(q71, .inl (c71, 800, .inl (fun _ => 0)))] := ⟨_, rfl⟩
  rw [← ec71] at hP hD
  obtain ⟨fs74, ef74⟩ : ∃ z, z = fs73.set 112 (.ref q71) := ⟨_, rfl⟩
  rw [← ef74] at hP hD
  replace hlen : fs74.length = 149 := by rw [ef74, List.length_set]; exact hlen
  refine lv_aload_n hx hb dX12_init_619 rfl (lv_at hl 0 rfl) ?_
  refine lv_sipush hx hb dX12_init_620 (v := 800) rfl ?_
  refine ia_arr (atype := .int) (ty := .int) (a0 := (800, .inl (fun _ => 0))) (nw := 800) hx hb hts hin hown hnm hA hlen hK hP hD hS har_I rfl (fun cA => ia_I cA 800) (by decide) (by decide) (by decide) (Nat.le_of_ble_eq_true rfl) (Nat.le_of_ble_eq_true rfl) dX12_init_623 113 (by decide) (hts _ ww_f113) rfl rfl (tyX12_ok 113 (by decide)) dX12_init_625 ?_
  clear hP hD hS hK
  intro q72 c72 H72 lo72 hK hP hD hS
  obtain ⟨ts72, et72⟩ : ∃ z, z = ts71 ++ [(c72, .int)] := ⟨_, rfl⟩
  rw [← et72] at hK
  obtain ⟨cs72, ec72⟩ : ∃ z : va_W, z = cs71 ++ [(q72, .inl (c72, 800, .inl (fun _ => 0)))] := ⟨_, rfl⟩
  rw [← ec72] at hP hD
  obtain ⟨fs75, ef75⟩ : ∃ z, z = fs74.set 113 (.ref q72) := ⟨_, rfl⟩
  rw [← ef75] at hP hD
  replace hlen : fs75.length = 149 := by rw [ef75, List.length_set]; exact hlen
  have eF75 : fs75 = [.ref q1, .ref q2, .ref q3, .ref q4, .ref q5, .ref q6, .int 0, .ref q7, .int 0, .ref q8, .ref q9, .int 0, .ref q10, .ref q11, .int 0, .ref q12, .int 0, .ref q13, .int 0, .ref q14, .int 0, .ref q15, .int 0, .int 0, .int 0, .int (-1), .ref q16, .ref q17, .ref q18, .ref q19, .int 0, .ref q20, .int 0, .int 0, .int 0, .int 0, .ref q21, .ref q22, .ref q23, .ref q24, .ref q25, .ref q26, .int 0, .ref q27, .ref q28, .ref q29, .ref q30, .ref q31, .ref q32, .ref q33, .ref q34, .ref q35, .ref q36, .ref q37, .int 0, .ref q38, .ref q39, .int (-1), .int 0, .int 1000, .int 0, .int 0, .int 0, .int 0, .int 0, .ref q40, .ref q41, .ref q42, .ref q43, .int 0, .ref q44, .int 0, .ref q45, .ref q46, .int 0, .ref q47, .int 0, .ref q48, .int 0, .ref q49, .ref q50, .ref q51, .ref q52, .ref q53, .ref q54, .int 0, .ref q55, .int 0, .int 0, .int 0, .int 0, .int 0, .ref q56, .ref q57, .ref q58, .ref q59, .ref q60, .ref q61, .ref q62, .ref q63, .ref q64, .ref q65, .int 0, .ref q66, .int 0, .ref q67, .ref q68, .ref q69, .ref q70, .int 0, .int 0, .int 0, .ref q71, .ref q72, .null, .null, .null, .int 0, .null, .int 0, .null, .null, .int 0, .null, .null, .null, .int 0, .null, .null, .null, .null, .int 0, .int 0, .int 0, .int 0, .int 0, .int 0, .null, .null, .int 0, .null, .null, .null, .null, .int 0, .null, .null, .int 0, .int 0] := by
    rw [ef75, ef74, ef73, ef72, ef71, ef70, ef69, ef68, eF67]
    rfl
  have eC72 : cs72 = [(q1, .inl (c1, 452000, .inl (fun _ => 0))), (q2, .inl (c2, 452000, .inl (fun _ => 0))), (q3, .inl (c3, 452000, .inl (fun _ => 0))), (q4, .inl (c4, 452000, .inl (fun _ => 0))), (q5, .inl (c5, 452000, .inl (fun _ => 0))), (q6, .inl (c6, 40000, .inr (.inl (fun _ => 0)))), (q7, .inl (c7, 8192, .inl (fun _ => 0))), (q8, .inl (c8, 252000, .inl (fun _ => 0))), (q9, .inl (c9, 21000, .inl (fun _ => 0))), (q10, .inl (c10, 20, .inl (fun _ => 0))), (q11, .inl (c11, 3000, .inl (fun _ => 0))), (q12, .inl (c12, 2000, .inl (fun _ => 0))), (q13, .inl (c13, 12, .inl (fun _ => 0))), (q14, .inl (c14, 4000, .inl (fun _ => 0))), (q15, .inl (c15, 200, .inl (fun _ => 0))), (q16, .inl (c16, 40, .inl (fun _ => 0))), (q17, .inl (c17, 40, .inl (fun _ => 0))), (q18, .inl (c18, 40, .inl (fun _ => 0))), (q19, .inl (c19, 40, .inl (fun _ => 0))), (q20, .inl (c20, 1100, .inl (fun _ => 0))), (q21, .inl (c21, 40, .inl (fun _ => 0))), (q22, .inl (c22, 40, .inl (fun _ => 0))), (q23, .inl (c23, 240, .inl (fun _ => 0))), (q24, .inl (c24, 40, .inl (fun _ => 0))), (q25, .inl (c25, 40, .inl (fun _ => 0))), (q26, .inl (c26, 40, .inl (fun _ => 0))), (q27, .inl (c27, 60, .inl (fun _ => 0))), (q28, .inl (c28, 60, .inl (fun _ => 0))), (q29, .inl (c29, 60, .inl (fun _ => 0))), (q30, .inl (c30, 60, .inl (fun _ => 0))), (q31, .inl (c31, 60, .inl (fun _ => 0))), (q32, .inl (c32, 60, .inl (fun _ => 0))), (q33, .inl (c33, 7200, .inl (fun _ => 0))), (q34, .inl (c34, 60, .inl (fun _ => 0))), (q35, .inl (c35, 60, .inl (fun _ => 0))), (q36, .inl (c36, 60, .inl (fun _ => 0))), (q37, .inl (c37, 60, .inl (fun _ => 0))), (q38, .inl (c38, 100, .inl (fun _ => 0))), (q39, .inl (c39, 100, .inl (fun _ => 0))), (q40, .inl (c40, 200, .inl (fun _ => 0))), (q41, .inl (c41, 1200, .inl (fun _ => 0))), (q42, .inl (c42, 1200, .inl (fun _ => 0))), (q43, .inl (c43, 1200, .inl (fun _ => 0))), (q44, .inl (c44, 2400, .inl (fun _ => 0))), (q45, .inl (c45, 400, .inl (fun _ => 0))), (q46, .inl (c46, 400, .inl (fun _ => 0))), (q47, .inl (c47, 400, .inl (fun _ => 0))), (q48, .inl (c48, 130, .inl (fun _ => 0))), (q49, .inl (c49, 300, .inl (fun _ => 0))), (q50, .inl (c50, 300, .inl (fun _ => 0))), (q51, .inl (c51, 300, .inl (fun _ => 0))), (q52, .inl (c52, 300, .inl (fun _ => 0))), (q53, .inl (c53, 300, .inl (fun _ => 0))), (q54, .inl (c54, 300, .inl (fun _ => 0))), (q55, .inl (c55, 2400, .inl (fun _ => 0))), (q56, .inl (c56, 60, .inl (fun _ => 0))), (q57, .inl (c57, 60, .inl (fun _ => 0))), (q58, .inl (c58, 60, .inl (fun _ => 0))), (q59, .inl (c59, 60, .inl (fun _ => 0))), (q60, .inl (c60, 60, .inl (fun _ => 0))), (q61, .inl (c61, 60, .inl (fun _ => 0))), (q62, .inl (c62, 60, .inl (fun _ => 0))), (q63, .inl (c63, 60, .inl (fun _ => 0))), (q64, .inl (c64, 60, .inl (fun _ => 0))), (q65, .inl (c65, 60, .inl (fun _ => 0))), (q66, .inl (c66, 1200, .inl (fun _ => 0))), (q67, .inl (c67, 7800, .inl (fun _ => 0))), (q68, .inl (c68, 7800, .inl (fun _ => 0))), (q69, .inl (c69, 60, .inl (fun _ => 0))), (q70, .inl (c70, 200, .inl (fun _ => 0))), (q71, .inl (c71, 800, .inl (fun _ => 0))), (q72, .inl (c72, 800, .inl (fun _ => 0)))] := by
    rw [ec72, ec71, ec70, ec69, ec68, ec67, ec66, ec65, eC64]
    rfl
  have eT72 : ts72 = [(c1, .int), (c2, .int), (c3, .int), (c4, .int), (c5, .int), (c6, .long), (c7, .int), (c8, .int), (c9, .int), (c10, .int), (c11, .int), (c12, .int), (c13, .int), (c14, .int), (c15, .int), (c16, .int), (c17, .int), (c18, .int), (c19, .int), (c20, .int), (c21, .int), (c22, .int), (c23, .int), (c24, .int), (c25, .int), (c26, .boolean), (c27, .int), (c28, .int), (c29, .int), (c30, .int), (c31, .int), (c32, .int), (c33, .int), (c34, .boolean), (c35, .boolean), (c36, .boolean), (c37, .boolean), (c38, .int), (c39, .int), (c40, .int), (c41, .int), (c42, .int), (c43, .int), (c44, .int), (c45, .int), (c46, .int), (c47, .int), (c48, .int), (c49, .int), (c50, .int), (c51, .int), (c52, .int), (c53, .int), (c54, .boolean), (c55, .int), (c56, .int), (c57, .boolean), (c58, .int), (c59, .int), (c60, .int), (c61, .int), (c62, .int), (c63, .int), (c64, .int), (c65, .int), (c66, .int), (c67, .int), (c68, .int), (c69, .int), (c70, .int), (c71, .int), (c72, .int)] := by
    rw [et72, et71, et70, et69, et68, et67, et66, et65, eT64]
    rfl
  clear ec72 et72 ec71 et71 ec70 et70 ec69 et69 ec68 et68 ec67 et67 ec66 et66 ec65 et65 eC64 eT64
  clear ef75 ef74 ef73 ef72 ef71 ef70 ef69 ef68 eF67
  refine lv_aload_n hx hb dX12_init_628 rfl (lv_at hl 0 rfl) ?_
  refine lv_ldc hx hb hown (hts _ ww_c241) dX12_init_629 ?_
  refine ia_arr (atype := .int) (ty := .int) (a0 := (69000, .inl (fun _ => 0))) (nw := 69000) hx hb hts hin hown hnm hA hlen hK hP hD hS har_I rfl (fun cA => ia_I cA 69000) (by decide) (by decide) (by decide) (Nat.le_of_ble_eq_true rfl) (Nat.le_of_ble_eq_true rfl) dX12_init_631 114 (by decide) (hts _ ww_f114) rfl rfl (tyX12_ok 114 (by decide)) dX12_init_633 ?_
  clear hP hD hS hK
  intro q73 c73 H73 lo73 hK hP hD hS
  obtain ⟨ts73, et73⟩ : ∃ z, z = ts72 ++ [(c73, .int)] := ⟨_, rfl⟩
  rw [← et73] at hK
  obtain ⟨cs73, ec73⟩ : ∃ z : va_W, z = cs72 ++ [(q73, .inl (c73, 69000, .inl (fun _ => 0)))] := ⟨_, rfl⟩
  rw [← ec73] at hP hD
  obtain ⟨fs76, ef76⟩ : ∃ z, z = fs75.set 114 (.ref q73) := ⟨_, rfl⟩
  rw [← ef76] at hP hD
  replace hlen : fs76.length = 149 := by rw [ef76, List.length_set]; exact hlen
  refine lv_aload_n hx hb dX12_init_636 rfl (lv_at hl 0 rfl) ?_
  refine lv_sipush hx hb dX12_init_637 (v := 2300) rfl ?_
  refine ia_arr (atype := .int) (ty := .int) (a0 := (2300, .inl (fun _ => 0))) (nw := 2300) hx hb hts hin hown hnm hA hlen hK hP hD hS har_I rfl (fun cA => ia_I cA 2300) (by decide) (by decide) (by decide) (Nat.le_of_ble_eq_true rfl) (Nat.le_of_ble_eq_true rfl) dX12_init_640 115 (by decide) (hts _ ww_f115) rfl rfl (tyX12_ok 115 (by decide)) dX12_init_642 ?_
  clear hP hD hS hK
  intro q74 c74 H74 lo74 hK hP hD hS
  obtain ⟨ts74, et74⟩ : ∃ z, z = ts73 ++ [(c74, .int)] := ⟨_, rfl⟩
  rw [← et74] at hK
  obtain ⟨cs74, ec74⟩ : ∃ z : va_W, z = cs73 ++ [(q74, .inl (c74, 2300, .inl (fun _ => 0)))] := ⟨_, rfl⟩
  rw [← ec74] at hP hD
  obtain ⟨fs77, ef77⟩ : ∃ z, z = fs76.set 115 (.ref q74) := ⟨_, rfl⟩
  rw [← ef77] at hP hD
  replace hlen : fs77.length = 149 := by rw [ef77, List.length_set]; exact hlen
  refine lv_aload_n hx hb dX12_init_645 rfl (lv_at hl 0 rfl) ?_
  refine lv_sipush hx hb dX12_init_646 (v := 2300) rfl ?_
  refine ia_arr (atype := .int) (ty := .int) (a0 := (2300, .inl (fun _ => 0))) (nw := 2300) hx hb hts hin hown hnm hA hlen hK hP hD hS har_I rfl (fun cA => ia_I cA 2300) (by decide) (by decide) (by decide) (Nat.le_of_ble_eq_true rfl) (Nat.le_of_ble_eq_true rfl) dX12_init_649 116 (by decide) (hts _ ww_f116) rfl rfl (tyX12_ok 116 (by decide)) dX12_init_651 ?_
  clear hP hD hS hK
  intro q75 c75 H75 lo75 hK hP hD hS
  obtain ⟨ts75, et75⟩ : ∃ z, z = ts74 ++ [(c75, .int)] := ⟨_, rfl⟩
  rw [← et75] at hK
  obtain ⟨cs75, ec75⟩ : ∃ z : va_W, z = cs74 ++ [(q75, .inl (c75, 2300, .inl (fun _ => 0)))] := ⟨_, rfl⟩
  rw [← ec75] at hP hD
  obtain ⟨fs78, ef78⟩ : ∃ z, z = fs77.set 116 (.ref q75) := ⟨_, rfl⟩
  rw [← ef78] at hP hD
  replace hlen : fs78.length = 149 := by rw [ef78, List.length_set]; exact hlen
  refine lv_aload_n hx hb dX12_init_654 rfl (lv_at hl 0 rfl) ?_
  refine lv_sipush hx hb dX12_init_655 (v := 2300) rfl ?_
  refine ia_arr (atype := .int) (ty := .int) (a0 := (2300, .inl (fun _ => 0))) (nw := 2300) hx hb hts hin hown hnm hA hlen hK hP hD hS har_I rfl (fun cA => ia_I cA 2300) (by decide) (by decide) (by decide) (Nat.le_of_ble_eq_true rfl) (Nat.le_of_ble_eq_true rfl) dX12_init_658 118 (by decide) (hts _ ww_f118) rfl rfl (tyX12_ok 118 (by decide)) dX12_init_660 ?_
  clear hP hD hS hK
  intro q76 c76 H76 lo76 hK hP hD hS
  obtain ⟨ts76, et76⟩ : ∃ z, z = ts75 ++ [(c76, .int)] := ⟨_, rfl⟩
  rw [← et76] at hK
  obtain ⟨cs76, ec76⟩ : ∃ z : va_W, z = cs75 ++ [(q76, .inl (c76, 2300, .inl (fun _ => 0)))] := ⟨_, rfl⟩
  rw [← ec76] at hP hD
  obtain ⟨fs79, ef79⟩ : ∃ z, z = fs78.set 118 (.ref q76) := ⟨_, rfl⟩
  rw [← ef79] at hP hD
  replace hlen : fs79.length = 149 := by rw [ef79, List.length_set]; exact hlen
  refine lv_aload_n hx hb dX12_init_663 rfl (lv_at hl 0 rfl) ?_
  refine lv_bipush hx hb dX12_init_664 (v := 20) rfl ?_
  refine ia_arr (atype := .int) (ty := .int) (a0 := (20, .inl (fun _ => 0))) (nw := 20) hx hb hts hin hown hnm hA hlen hK hP hD hS har_I rfl (fun cA => ia_I cA 20) (by decide) (by decide) (by decide) (Nat.le_of_ble_eq_true rfl) (Nat.le_of_ble_eq_true rfl) dX12_init_666 120 (by decide) (hts _ ww_f120) rfl rfl (tyX12_ok 120 (by decide)) dX12_init_668 ?_
  clear hP hD hS hK
  intro q77 c77 H77 lo77 hK hP hD hS
  obtain ⟨ts77, et77⟩ : ∃ z, z = ts76 ++ [(c77, .int)] := ⟨_, rfl⟩
  rw [← et77] at hK
  obtain ⟨cs77, ec77⟩ : ∃ z : va_W, z = cs76 ++ [(q77, .inl (c77, 20, .inl (fun _ => 0)))] := ⟨_, rfl⟩
  rw [← ec77] at hP hD
  obtain ⟨fs80, ef80⟩ : ∃ z, z = fs79.set 120 (.ref q77) := ⟨_, rfl⟩
  rw [← ef80] at hP hD
  replace hlen : fs80.length = 149 := by rw [ef80, List.length_set]; exact hlen
  refine lv_aload_n hx hb dX12_init_671 rfl (lv_at hl 0 rfl) ?_
  refine lv_sipush hx hb dX12_init_672 (v := 1200) rfl ?_
  refine ia_arr (atype := .int) (ty := .int) (a0 := (1200, .inl (fun _ => 0))) (nw := 1200) hx hb hts hin hown hnm hA hlen hK hP hD hS har_I rfl (fun cA => ia_I cA 1200) (by decide) (by decide) (by decide) (Nat.le_of_ble_eq_true rfl) (Nat.le_of_ble_eq_true rfl) dX12_init_675 121 (by decide) (hts _ ww_f121) rfl rfl (tyX12_ok 121 (by decide)) dX12_init_677 ?_
  clear hP hD hS hK
  intro q78 c78 H78 lo78 hK hP hD hS
  obtain ⟨ts78, et78⟩ : ∃ z, z = ts77 ++ [(c78, .int)] := ⟨_, rfl⟩
  rw [← et78] at hK
  obtain ⟨cs78, ec78⟩ : ∃ z : va_W, z = cs77 ++ [(q78, .inl (c78, 1200, .inl (fun _ => 0)))] := ⟨_, rfl⟩
  rw [← ec78] at hP hD
  obtain ⟨fs81, ef81⟩ : ∃ z, z = fs80.set 121 (.ref q78) := ⟨_, rfl⟩
  rw [← ef81] at hP hD
  replace hlen : fs81.length = 149 := by rw [ef81, List.length_set]; exact hlen
  refine lv_aload_n hx hb dX12_init_680 rfl (lv_at hl 0 rfl) ?_
  refine lv_sipush hx hb dX12_init_681 (v := 128) rfl ?_
  refine ia_arr (atype := .int) (ty := .int) (a0 := (128, .inl (fun _ => 0))) (nw := 128) hx hb hts hin hown hnm hA hlen hK hP hD hS har_I rfl (fun cA => ia_I cA 128) (by decide) (by decide) (by decide) (Nat.le_of_ble_eq_true rfl) (Nat.le_of_ble_eq_true rfl) dX12_init_684 123 (by decide) (hts _ ww_f123) rfl rfl (tyX12_ok 123 (by decide)) dX12_init_686 ?_
  clear hP hD hS hK
  intro q79 c79 H79 lo79 hK hP hD hS
  obtain ⟨ts79, et79⟩ : ∃ z, z = ts78 ++ [(c79, .int)] := ⟨_, rfl⟩
  rw [← et79] at hK
  obtain ⟨cs79, ec79⟩ : ∃ z : va_W, z = cs78 ++ [(q79, .inl (c79, 128, .inl (fun _ => 0)))] := ⟨_, rfl⟩
  rw [← ec79] at hP hD
  obtain ⟨fs82, ef82⟩ : ∃ z, z = fs81.set 123 (.ref q79) := ⟨_, rfl⟩
  rw [← ef82] at hP hD
  replace hlen : fs82.length = 149 := by rw [ef82, List.length_set]; exact hlen
  refine lv_aload_n hx hb dX12_init_689 rfl (lv_at hl 0 rfl) ?_
  refine lv_sipush hx hb dX12_init_690 (v := 8192) rfl ?_
  refine ia_arr (atype := .int) (ty := .int) (a0 := (8192, .inl (fun _ => 0))) (nw := 8192) hx hb hts hin hown hnm hA hlen hK hP hD hS har_I rfl (fun cA => ia_I cA 8192) (by decide) (by decide) (by decide) (Nat.le_of_ble_eq_true rfl) (Nat.le_of_ble_eq_true rfl) dX12_init_693 124 (by decide) (hts _ ww_f124) rfl rfl (tyX12_ok 124 (by decide)) dX12_init_695 ?_
  clear hP hD hS hK
  intro q80 c80 H80 lo80 hK hP hD hS
  obtain ⟨ts80, et80⟩ : ∃ z, z = ts79 ++ [(c80, .int)] := ⟨_, rfl⟩
  rw [← et80] at hK
  obtain ⟨cs80, ec80⟩ : ∃ z : va_W, z = cs79 ++ [(q80, .inl (c80, 8192, .inl (fun _ => 0)))] := ⟨_, rfl⟩
  rw [← ec80] at hP hD
  obtain ⟨fs83, ef83⟩ : ∃ z, z = fs82.set 124 (.ref q80) := ⟨_, rfl⟩
  rw [← ef83] at hP hD
  replace hlen : fs83.length = 149 := by rw [ef83, List.length_set]; exact hlen
  have eF83 : fs83 = [.ref q1, .ref q2, .ref q3, .ref q4, .ref q5, .ref q6, .int 0, .ref q7, .int 0, .ref q8, .ref q9, .int 0, .ref q10, .ref q11, .int 0, .ref q12, .int 0, .ref q13, .int 0, .ref q14, .int 0, .ref q15, .int 0, .int 0, .int 0, .int (-1), .ref q16, .ref q17, .ref q18, .ref q19, .int 0, .ref q20, .int 0, .int 0, .int 0, .int 0, .ref q21, .ref q22, .ref q23, .ref q24, .ref q25, .ref q26, .int 0, .ref q27, .ref q28, .ref q29, .ref q30, .ref q31, .ref q32, .ref q33, .ref q34, .ref q35, .ref q36, .ref q37, .int 0, .ref q38, .ref q39, .int (-1), .int 0, .int 1000, .int 0, .int 0, .int 0, .int 0, .int 0, .ref q40, .ref q41, .ref q42, .ref q43, .int 0, .ref q44, .int 0, .ref q45, .ref q46, .int 0, .ref q47, .int 0, .ref q48, .int 0, .ref q49, .ref q50, .ref q51, .ref q52, .ref q53, .ref q54, .int 0, .ref q55, .int 0, .int 0, .int 0, .int 0, .int 0, .ref q56, .ref q57, .ref q58, .ref q59, .ref q60, .ref q61, .ref q62, .ref q63, .ref q64, .ref q65, .int 0, .ref q66, .int 0, .ref q67, .ref q68, .ref q69, .ref q70, .int 0, .int 0, .int 0, .ref q71, .ref q72, .ref q73, .ref q74, .ref q75, .int 0, .ref q76, .int 0, .ref q77, .ref q78, .int 0, .ref q79, .ref q80, .null, .int 0, .null, .null, .null, .null, .int 0, .int 0, .int 0, .int 0, .int 0, .int 0, .null, .null, .int 0, .null, .null, .null, .null, .int 0, .null, .null, .int 0, .int 0] := by
    rw [ef83, ef82, ef81, ef80, ef79, ef78, ef77, ef76, eF75]
    rfl
  have eC80 : cs80 = [(q1, .inl (c1, 452000, .inl (fun _ => 0))), (q2, .inl (c2, 452000, .inl (fun _ => 0))), (q3, .inl (c3, 452000, .inl (fun _ => 0))), (q4, .inl (c4, 452000, .inl (fun _ => 0))), (q5, .inl (c5, 452000, .inl (fun _ => 0))), (q6, .inl (c6, 40000, .inr (.inl (fun _ => 0)))), (q7, .inl (c7, 8192, .inl (fun _ => 0))), (q8, .inl (c8, 252000, .inl (fun _ => 0))), (q9, .inl (c9, 21000, .inl (fun _ => 0))), (q10, .inl (c10, 20, .inl (fun _ => 0))), (q11, .inl (c11, 3000, .inl (fun _ => 0))), (q12, .inl (c12, 2000, .inl (fun _ => 0))), (q13, .inl (c13, 12, .inl (fun _ => 0))), (q14, .inl (c14, 4000, .inl (fun _ => 0))), (q15, .inl (c15, 200, .inl (fun _ => 0))), (q16, .inl (c16, 40, .inl (fun _ => 0))), (q17, .inl (c17, 40, .inl (fun _ => 0))), (q18, .inl (c18, 40, .inl (fun _ => 0))), (q19, .inl (c19, 40, .inl (fun _ => 0))), (q20, .inl (c20, 1100, .inl (fun _ => 0))), (q21, .inl (c21, 40, .inl (fun _ => 0))), (q22, .inl (c22, 40, .inl (fun _ => 0))), (q23, .inl (c23, 240, .inl (fun _ => 0))), (q24, .inl (c24, 40, .inl (fun _ => 0))), (q25, .inl (c25, 40, .inl (fun _ => 0))), (q26, .inl (c26, 40, .inl (fun _ => 0))), (q27, .inl (c27, 60, .inl (fun _ => 0))), (q28, .inl (c28, 60, .inl (fun _ => 0))), (q29, .inl (c29, 60, .inl (fun _ => 0))), (q30, .inl (c30, 60, .inl (fun _ => 0))), (q31, .inl (c31, 60, .inl (fun _ => 0))), (q32, .inl (c32, 60, .inl (fun _ => 0))), (q33, .inl (c33, 7200, .inl (fun _ => 0))), (q34, .inl (c34, 60, .inl (fun _ => 0))), (q35, .inl (c35, 60, .inl (fun _ => 0))), (q36, .inl (c36, 60, .inl (fun _ => 0))), (q37, .inl (c37, 60, .inl (fun _ => 0))), (q38, .inl (c38, 100, .inl (fun _ => 0))), (q39, .inl (c39, 100, .inl (fun _ => 0))), (q40, .inl (c40, 200, .inl (fun _ => 0))), (q41, .inl (c41, 1200, .inl (fun _ => 0))), (q42, .inl (c42, 1200, .inl (fun _ => 0))), (q43, .inl (c43, 1200, .inl (fun _ => 0))), (q44, .inl (c44, 2400, .inl (fun _ => 0))), (q45, .inl (c45, 400, .inl (fun _ => 0))), (q46, .inl (c46, 400, .inl (fun _ => 0))), (q47, .inl (c47, 400, .inl (fun _ => 0))), (q48, .inl (c48, 130, .inl (fun _ => 0))), (q49, .inl (c49, 300, .inl (fun _ => 0))), (q50, .inl (c50, 300, .inl (fun _ => 0))), (q51, .inl (c51, 300, .inl (fun _ => 0))), (q52, .inl (c52, 300, .inl (fun _ => 0))), (q53, .inl (c53, 300, .inl (fun _ => 0))), (q54, .inl (c54, 300, .inl (fun _ => 0))), (q55, .inl (c55, 2400, .inl (fun _ => 0))), (q56, .inl (c56, 60, .inl (fun _ => 0))), (q57, .inl (c57, 60, .inl (fun _ => 0))), (q58, .inl (c58, 60, .inl (fun _ => 0))), (q59, .inl (c59, 60, .inl (fun _ => 0))), (q60, .inl (c60, 60, .inl (fun _ => 0))), (q61, .inl (c61, 60, .inl (fun _ => 0))), (q62, .inl (c62, 60, .inl (fun _ => 0))), (q63, .inl (c63, 60, .inl (fun _ => 0))), (q64, .inl (c64, 60, .inl (fun _ => 0))), (q65, .inl (c65, 60, .inl (fun _ => 0))), (q66, .inl (c66, 1200, .inl (fun _ => 0))), (q67, .inl (c67, 7800, .inl (fun _ => 0))), (q68, .inl (c68, 7800, .inl (fun _ => 0))), (q69, .inl (c69, 60, .inl (fun _ => 0))), (q70, .inl (c70, 200, .inl (fun _ => 0))), (q71, .inl (c71, 800, .inl (fun _ => 0))), (q72, .inl (c72, 800, .inl (fun _ => 0))), (q73, .inl (c73, 69000, .inl (fun _ => 0))), (q74, .inl (c74, 2300, .inl (fun _ => 0))), (q75, .inl (c75, 2300, .inl (fun _ => 0))), (q76, .inl (c76, 2300, .inl (fun _ => 0))), (q77, .inl (c77, 20, .inl (fun _ => 0))), (q78, .inl (c78, 1200, .inl (fun _ => 0))), (q79, .inl (c79, 128, .inl (fun _ => 0))), (q80, .inl (c80, 8192, .inl (fun _ => 0)))] := by
    rw [ec80, ec79, ec78, ec77, ec76, ec75, ec74, ec73, eC72]
    rfl
  have eT80 : ts80 = [(c1, .int), (c2, .int), (c3, .int), (c4, .int), (c5, .int), (c6, .long), (c7, .int), (c8, .int), (c9, .int), (c10, .int), (c11, .int), (c12, .int), (c13, .int), (c14, .int), (c15, .int), (c16, .int), (c17, .int), (c18, .int), (c19, .int), (c20, .int), (c21, .int), (c22, .int), (c23, .int), (c24, .int), (c25, .int), (c26, .boolean), (c27, .int), (c28, .int), (c29, .int), (c30, .int), (c31, .int), (c32, .int), (c33, .int), (c34, .boolean), (c35, .boolean), (c36, .boolean), (c37, .boolean), (c38, .int), (c39, .int), (c40, .int), (c41, .int), (c42, .int), (c43, .int), (c44, .int), (c45, .int), (c46, .int), (c47, .int), (c48, .int), (c49, .int), (c50, .int), (c51, .int), (c52, .int), (c53, .int), (c54, .boolean), (c55, .int), (c56, .int), (c57, .boolean), (c58, .int), (c59, .int), (c60, .int), (c61, .int), (c62, .int), (c63, .int), (c64, .int), (c65, .int), (c66, .int), (c67, .int), (c68, .int), (c69, .int), (c70, .int), (c71, .int), (c72, .int), (c73, .int), (c74, .int), (c75, .int), (c76, .int), (c77, .int), (c78, .int), (c79, .int), (c80, .int)] := by
    rw [et80, et79, et78, et77, et76, et75, et74, et73, eT72]
    rfl
  clear ec80 et80 ec79 et79 ec78 et78 ec77 et77 ec76 et76 ec75 et75 ec74 et74 ec73 et73 eC72 eT72
  clear ef83 ef82 ef81 ef80 ef79 ef78 ef77 ef76 eF75
  refine lv_aload_n hx hb dX12_init_698 rfl (lv_at hl 0 rfl) ?_
  refine lv_sipush hx hb dX12_init_699 (v := 128) rfl ?_
  refine ia_arr (atype := .int) (ty := .int) (a0 := (128, .inl (fun _ => 0))) (nw := 128) hx hb hts hin hown hnm hA hlen hK hP hD hS har_I rfl (fun cA => ia_I cA 128) (by decide) (by decide) (by decide) (Nat.le_of_ble_eq_true rfl) (Nat.le_of_ble_eq_true rfl) dX12_init_702 125 (by decide) (hts _ ww_f125) rfl rfl (tyX12_ok 125 (by decide)) dX12_init_704 ?_
  clear hP hD hS hK
  intro q81 c81 H81 lo81 hK hP hD hS
  obtain ⟨ts81, et81⟩ : ∃ z, z = ts80 ++ [(c81, .int)] := ⟨_, rfl⟩
  rw [← et81] at hK
  obtain ⟨cs81, ec81⟩ : ∃ z : va_W, z = cs80 ++ [(q81, .inl (c81, 128, .inl (fun _ => 0)))] := ⟨_, rfl⟩
  rw [← ec81] at hP hD
  obtain ⟨fs84, ef84⟩ : ∃ z, z = fs83.set 125 (.ref q81) := ⟨_, rfl⟩
  rw [← ef84] at hP hD
  replace hlen : fs84.length = 149 := by rw [ef84, List.length_set]; exact hlen
  refine lv_aload_n hx hb dX12_init_707 rfl (lv_at hl 0 rfl) ?_
  refine lv_sipush hx hb dX12_init_708 (v := 128) rfl ?_
  refine ia_arr (atype := .int) (ty := .int) (a0 := (128, .inl (fun _ => 0))) (nw := 128) hx hb hts hin hown hnm hA hlen hK hP hD hS har_I rfl (fun cA => ia_I cA 128) (by decide) (by decide) (by decide) (Nat.le_of_ble_eq_true rfl) (Nat.le_of_ble_eq_true rfl) dX12_init_711 127 (by decide) (hts _ ww_f127) rfl rfl (tyX12_ok 127 (by decide)) dX12_init_713 ?_
  clear hP hD hS hK
  intro q82 c82 H82 lo82 hK hP hD hS
  obtain ⟨ts82, et82⟩ : ∃ z, z = ts81 ++ [(c82, .int)] := ⟨_, rfl⟩
  rw [← et82] at hK
  obtain ⟨cs82, ec82⟩ : ∃ z : va_W, z = cs81 ++ [(q82, .inl (c82, 128, .inl (fun _ => 0)))] := ⟨_, rfl⟩
  rw [← ec82] at hP hD
  obtain ⟨fs85, ef85⟩ : ∃ z, z = fs84.set 127 (.ref q82) := ⟨_, rfl⟩
  rw [← ef85] at hP hD
  replace hlen : fs85.length = 149 := by rw [ef85, List.length_set]; exact hlen
  refine lv_aload_n hx hb dX12_init_716 rfl (lv_at hl 0 rfl) ?_
  refine lv_sipush hx hb dX12_init_717 (v := 8192) rfl ?_
  refine ia_arr (atype := .int) (ty := .int) (a0 := (8192, .inl (fun _ => 0))) (nw := 8192) hx hb hts hin hown hnm hA hlen hK hP hD hS har_I rfl (fun cA => ia_I cA 8192) (by decide) (by decide) (by decide) (Nat.le_of_ble_eq_true rfl) (Nat.le_of_ble_eq_true rfl) dX12_init_720 128 (by decide) (hts _ ww_f128) rfl rfl (tyX12_ok 128 (by decide)) dX12_init_722 ?_
  clear hP hD hS hK
  intro q83 c83 H83 lo83 hK hP hD hS
  obtain ⟨ts83, et83⟩ : ∃ z, z = ts82 ++ [(c83, .int)] := ⟨_, rfl⟩
  rw [← et83] at hK
  obtain ⟨cs83, ec83⟩ : ∃ z : va_W, z = cs82 ++ [(q83, .inl (c83, 8192, .inl (fun _ => 0)))] := ⟨_, rfl⟩
  rw [← ec83] at hP hD
  obtain ⟨fs86, ef86⟩ : ∃ z, z = fs85.set 128 (.ref q83) := ⟨_, rfl⟩
  rw [← ef86] at hP hD
  replace hlen : fs86.length = 149 := by rw [ef86, List.length_set]; exact hlen
  refine lv_aload_n hx hb dX12_init_725 rfl (lv_at hl 0 rfl) ?_
  refine lv_sipush hx hb dX12_init_726 (v := 128) rfl ?_
  refine ia_arr (atype := .int) (ty := .int) (a0 := (128, .inl (fun _ => 0))) (nw := 128) hx hb hts hin hown hnm hA hlen hK hP hD hS har_I rfl (fun cA => ia_I cA 128) (by decide) (by decide) (by decide) (Nat.le_of_ble_eq_true rfl) (Nat.le_of_ble_eq_true rfl) dX12_init_729 129 (by decide) (hts _ ww_f129) rfl rfl (tyX12_ok 129 (by decide)) dX12_init_731 ?_
  clear hP hD hS hK
  intro q84 c84 H84 lo84 hK hP hD hS
  obtain ⟨ts84, et84⟩ : ∃ z, z = ts83 ++ [(c84, .int)] := ⟨_, rfl⟩
  rw [← et84] at hK
  obtain ⟨cs84, ec84⟩ : ∃ z : va_W, z = cs83 ++ [(q84, .inl (c84, 128, .inl (fun _ => 0)))] := ⟨_, rfl⟩
  rw [← ec84] at hP hD
  obtain ⟨fs87, ef87⟩ : ∃ z, z = fs86.set 129 (.ref q84) := ⟨_, rfl⟩
  rw [← ef87] at hP hD
  replace hlen : fs87.length = 149 := by rw [ef87, List.length_set]; exact hlen
  refine lv_aload_n hx hb dX12_init_734 rfl (lv_at hl 0 rfl) ?_
  refine lv_sipush hx hb dX12_init_735 (v := 130) rfl ?_
  refine ia_arr (atype := .int) (ty := .int) (a0 := (130, .inl (fun _ => 0))) (nw := 130) hx hb hts hin hown hnm hA hlen hK hP hD hS har_I rfl (fun cA => ia_I cA 130) (by decide) (by decide) (by decide) (Nat.le_of_ble_eq_true rfl) (Nat.le_of_ble_eq_true rfl) dX12_init_738 130 (by decide) (hts _ ww_f130) rfl rfl (tyX12_ok 130 (by decide)) dX12_init_740 ?_
  clear hP hD hS hK
  intro q85 c85 H85 lo85 hK hP hD hS
  obtain ⟨ts85, et85⟩ : ∃ z, z = ts84 ++ [(c85, .int)] := ⟨_, rfl⟩
  rw [← et85] at hK
  obtain ⟨cs85, ec85⟩ : ∃ z : va_W, z = cs84 ++ [(q85, .inl (c85, 130, .inl (fun _ => 0)))] := ⟨_, rfl⟩
  rw [← ec85] at hP hD
  obtain ⟨fs88, ef88⟩ : ∃ z, z = fs87.set 130 (.ref q85) := ⟨_, rfl⟩
  rw [← ef88] at hP hD
  replace hlen : fs88.length = 149 := by rw [ef88, List.length_set]; exact hlen
  refine lv_aload_n hx hb dX12_init_743 rfl (lv_at hl 0 rfl) ?_
  refine lv_sipush hx hb dX12_init_744 (v := 400) rfl ?_
  refine ia_arr (atype := .int) (ty := .int) (a0 := (400, .inl (fun _ => 0))) (nw := 400) hx hb hts hin hown hnm hA hlen hK hP hD hS har_I rfl (fun cA => ia_I cA 400) (by decide) (by decide) (by decide) (Nat.le_of_ble_eq_true rfl) (Nat.le_of_ble_eq_true rfl) dX12_init_747 137 (by decide) (hts _ ww_f137) rfl rfl (tyX12_ok 137 (by decide)) dX12_init_749 ?_
  clear hP hD hS hK
  intro q86 c86 H86 lo86 hK hP hD hS
  obtain ⟨ts86, et86⟩ : ∃ z, z = ts85 ++ [(c86, .int)] := ⟨_, rfl⟩
  rw [← et86] at hK
  obtain ⟨cs86, ec86⟩ : ∃ z : va_W, z = cs85 ++ [(q86, .inl (c86, 400, .inl (fun _ => 0)))] := ⟨_, rfl⟩
  rw [← ec86] at hP hD
  obtain ⟨fs89, ef89⟩ : ∃ z, z = fs88.set 137 (.ref q86) := ⟨_, rfl⟩
  rw [← ef89] at hP hD
  replace hlen : fs89.length = 149 := by rw [ef89, List.length_set]; exact hlen
  refine lv_aload_n hx hb dX12_init_752 rfl (lv_at hl 0 rfl) ?_
  refine lv_sipush hx hb dX12_init_753 (v := 400) rfl ?_
  refine ia_arr (atype := .int) (ty := .int) (a0 := (400, .inl (fun _ => 0))) (nw := 400) hx hb hts hin hown hnm hA hlen hK hP hD hS har_I rfl (fun cA => ia_I cA 400) (by decide) (by decide) (by decide) (Nat.le_of_ble_eq_true rfl) (Nat.le_of_ble_eq_true rfl) dX12_init_756 138 (by decide) (hts _ ww_f138) rfl rfl (tyX12_ok 138 (by decide)) dX12_init_758 ?_
  clear hP hD hS hK
  intro q87 c87 H87 lo87 hK hP hD hS
  obtain ⟨ts87, et87⟩ : ∃ z, z = ts86 ++ [(c87, .int)] := ⟨_, rfl⟩
  rw [← et87] at hK
  obtain ⟨cs87, ec87⟩ : ∃ z : va_W, z = cs86 ++ [(q87, .inl (c87, 400, .inl (fun _ => 0)))] := ⟨_, rfl⟩
  rw [← ec87] at hP hD
  obtain ⟨fs90, ef90⟩ : ∃ z, z = fs89.set 138 (.ref q87) := ⟨_, rfl⟩
  rw [← ef90] at hP hD
  replace hlen : fs90.length = 149 := by rw [ef90, List.length_set]; exact hlen
  refine lv_aload_n hx hb dX12_init_761 rfl (lv_at hl 0 rfl) ?_
  refine lv_bipush hx hb dX12_init_762 (v := 6) rfl ?_
  refine ia_arr (atype := .int) (ty := .int) (a0 := (6, .inl (fun _ => 0))) (nw := 6) hx hb hts hin hown hnm hA hlen hK hP hD hS har_I rfl (fun cA => ia_I cA 6) (by decide) (by decide) (by decide) (Nat.le_of_ble_eq_true rfl) (Nat.le_of_ble_eq_true rfl) dX12_init_764 140 (by decide) (hts _ ww_f140) rfl rfl (tyX12_ok 140 (by decide)) dX12_init_766 ?_
  clear hP hD hS hK
  intro q88 c88 H88 lo88 hK hP hD hS
  obtain ⟨ts88, et88⟩ : ∃ z, z = ts87 ++ [(c88, .int)] := ⟨_, rfl⟩
  rw [← et88] at hK
  obtain ⟨cs88, ec88⟩ : ∃ z : va_W, z = cs87 ++ [(q88, .inl (c88, 6, .inl (fun _ => 0)))] := ⟨_, rfl⟩
  rw [← ec88] at hP hD
  obtain ⟨fs91, ef91⟩ : ∃ z, z = fs90.set 140 (.ref q88) := ⟨_, rfl⟩
  rw [← ef91] at hP hD
  replace hlen : fs91.length = 149 := by rw [ef91, List.length_set]; exact hlen
  have eF91 : fs91 = [.ref q1, .ref q2, .ref q3, .ref q4, .ref q5, .ref q6, .int 0, .ref q7, .int 0, .ref q8, .ref q9, .int 0, .ref q10, .ref q11, .int 0, .ref q12, .int 0, .ref q13, .int 0, .ref q14, .int 0, .ref q15, .int 0, .int 0, .int 0, .int (-1), .ref q16, .ref q17, .ref q18, .ref q19, .int 0, .ref q20, .int 0, .int 0, .int 0, .int 0, .ref q21, .ref q22, .ref q23, .ref q24, .ref q25, .ref q26, .int 0, .ref q27, .ref q28, .ref q29, .ref q30, .ref q31, .ref q32, .ref q33, .ref q34, .ref q35, .ref q36, .ref q37, .int 0, .ref q38, .ref q39, .int (-1), .int 0, .int 1000, .int 0, .int 0, .int 0, .int 0, .int 0, .ref q40, .ref q41, .ref q42, .ref q43, .int 0, .ref q44, .int 0, .ref q45, .ref q46, .int 0, .ref q47, .int 0, .ref q48, .int 0, .ref q49, .ref q50, .ref q51, .ref q52, .ref q53, .ref q54, .int 0, .ref q55, .int 0, .int 0, .int 0, .int 0, .int 0, .ref q56, .ref q57, .ref q58, .ref q59, .ref q60, .ref q61, .ref q62, .ref q63, .ref q64, .ref q65, .int 0, .ref q66, .int 0, .ref q67, .ref q68, .ref q69, .ref q70, .int 0, .int 0, .int 0, .ref q71, .ref q72, .ref q73, .ref q74, .ref q75, .int 0, .ref q76, .int 0, .ref q77, .ref q78, .int 0, .ref q79, .ref q80, .ref q81, .int 0, .ref q82, .ref q83, .ref q84, .ref q85, .int 0, .int 0, .int 0, .int 0, .int 0, .int 0, .ref q86, .ref q87, .int 0, .ref q88, .null, .null, .null, .int 0, .null, .null, .int 0, .int 0] := by
    rw [ef91, ef90, ef89, ef88, ef87, ef86, ef85, ef84, eF83]
    rfl
  have eC88 : cs88 = [(q1, .inl (c1, 452000, .inl (fun _ => 0))), (q2, .inl (c2, 452000, .inl (fun _ => 0))), (q3, .inl (c3, 452000, .inl (fun _ => 0))), (q4, .inl (c4, 452000, .inl (fun _ => 0))), (q5, .inl (c5, 452000, .inl (fun _ => 0))), (q6, .inl (c6, 40000, .inr (.inl (fun _ => 0)))), (q7, .inl (c7, 8192, .inl (fun _ => 0))), (q8, .inl (c8, 252000, .inl (fun _ => 0))), (q9, .inl (c9, 21000, .inl (fun _ => 0))), (q10, .inl (c10, 20, .inl (fun _ => 0))), (q11, .inl (c11, 3000, .inl (fun _ => 0))), (q12, .inl (c12, 2000, .inl (fun _ => 0))), (q13, .inl (c13, 12, .inl (fun _ => 0))), (q14, .inl (c14, 4000, .inl (fun _ => 0))), (q15, .inl (c15, 200, .inl (fun _ => 0))), (q16, .inl (c16, 40, .inl (fun _ => 0))), (q17, .inl (c17, 40, .inl (fun _ => 0))), (q18, .inl (c18, 40, .inl (fun _ => 0))), (q19, .inl (c19, 40, .inl (fun _ => 0))), (q20, .inl (c20, 1100, .inl (fun _ => 0))), (q21, .inl (c21, 40, .inl (fun _ => 0))), (q22, .inl (c22, 40, .inl (fun _ => 0))), (q23, .inl (c23, 240, .inl (fun _ => 0))), (q24, .inl (c24, 40, .inl (fun _ => 0))), (q25, .inl (c25, 40, .inl (fun _ => 0))), (q26, .inl (c26, 40, .inl (fun _ => 0))), (q27, .inl (c27, 60, .inl (fun _ => 0))), (q28, .inl (c28, 60, .inl (fun _ => 0))), (q29, .inl (c29, 60, .inl (fun _ => 0))), (q30, .inl (c30, 60, .inl (fun _ => 0))), (q31, .inl (c31, 60, .inl (fun _ => 0))), (q32, .inl (c32, 60, .inl (fun _ => 0))), (q33, .inl (c33, 7200, .inl (fun _ => 0))), (q34, .inl (c34, 60, .inl (fun _ => 0))), (q35, .inl (c35, 60, .inl (fun _ => 0))), (q36, .inl (c36, 60, .inl (fun _ => 0))), (q37, .inl (c37, 60, .inl (fun _ => 0))), (q38, .inl (c38, 100, .inl (fun _ => 0))), (q39, .inl (c39, 100, .inl (fun _ => 0))), (q40, .inl (c40, 200, .inl (fun _ => 0))), (q41, .inl (c41, 1200, .inl (fun _ => 0))), (q42, .inl (c42, 1200, .inl (fun _ => 0))), (q43, .inl (c43, 1200, .inl (fun _ => 0))), (q44, .inl (c44, 2400, .inl (fun _ => 0))), (q45, .inl (c45, 400, .inl (fun _ => 0))), (q46, .inl (c46, 400, .inl (fun _ => 0))), (q47, .inl (c47, 400, .inl (fun _ => 0))), (q48, .inl (c48, 130, .inl (fun _ => 0))), (q49, .inl (c49, 300, .inl (fun _ => 0))), (q50, .inl (c50, 300, .inl (fun _ => 0))), (q51, .inl (c51, 300, .inl (fun _ => 0))), (q52, .inl (c52, 300, .inl (fun _ => 0))), (q53, .inl (c53, 300, .inl (fun _ => 0))), (q54, .inl (c54, 300, .inl (fun _ => 0))), (q55, .inl (c55, 2400, .inl (fun _ => 0))), (q56, .inl (c56, 60, .inl (fun _ => 0))), (q57, .inl (c57, 60, .inl (fun _ => 0))), (q58, .inl (c58, 60, .inl (fun _ => 0))), (q59, .inl (c59, 60, .inl (fun _ => 0))), (q60, .inl (c60, 60, .inl (fun _ => 0))), (q61, .inl (c61, 60, .inl (fun _ => 0))), (q62, .inl (c62, 60, .inl (fun _ => 0))), (q63, .inl (c63, 60, .inl (fun _ => 0))), (q64, .inl (c64, 60, .inl (fun _ => 0))), (q65, .inl (c65, 60, .inl (fun _ => 0))), (q66, .inl (c66, 1200, .inl (fun _ => 0))), (q67, .inl (c67, 7800, .inl (fun _ => 0))), (q68, .inl (c68, 7800, .inl (fun _ => 0))), (q69, .inl (c69, 60, .inl (fun _ => 0))), (q70, .inl (c70, 200, .inl (fun _ => 0))), (q71, .inl (c71, 800, .inl (fun _ => 0))), (q72, .inl (c72, 800, .inl (fun _ => 0))), (q73, .inl (c73, 69000, .inl (fun _ => 0))), (q74, .inl (c74, 2300, .inl (fun _ => 0))), (q75, .inl (c75, 2300, .inl (fun _ => 0))), (q76, .inl (c76, 2300, .inl (fun _ => 0))), (q77, .inl (c77, 20, .inl (fun _ => 0))), (q78, .inl (c78, 1200, .inl (fun _ => 0))), (q79, .inl (c79, 128, .inl (fun _ => 0))), (q80, .inl (c80, 8192, .inl (fun _ => 0))), (q81, .inl (c81, 128, .inl (fun _ => 0))), (q82, .inl (c82, 128, .inl (fun _ => 0))), (q83, .inl (c83, 8192, .inl (fun _ => 0))), (q84, .inl (c84, 128, .inl (fun _ => 0))), (q85, .inl (c85, 130, .inl (fun _ => 0))), (q86, .inl (c86, 400, .inl (fun _ => 0))), (q87, .inl (c87, 400, .inl (fun _ => 0))), (q88, .inl (c88, 6, .inl (fun _ => 0)))] := by
    rw [ec88, ec87, ec86, ec85, ec84, ec83, ec82, ec81, eC80]
    rfl
  have eT88 : ts88 = [(c1, .int), (c2, .int), (c3, .int), (c4, .int), (c5, .int), (c6, .long), (c7, .int), (c8, .int), (c9, .int), (c10, .int), (c11, .int), (c12, .int), (c13, .int), (c14, .int), (c15, .int), (c16, .int), (c17, .int), (c18, .int), (c19, .int), (c20, .int), (c21, .int), (c22, .int), (c23, .int), (c24, .int), (c25, .int), (c26, .boolean), (c27, .int), (c28, .int), (c29, .int), (c30, .int), (c31, .int), (c32, .int), (c33, .int), (c34, .boolean), (c35, .boolean), (c36, .boolean), (c37, .boolean), (c38, .int), (c39, .int), (c40, .int), (c41, .int), (c42, .int), (c43, .int), (c44, .int), (c45, .int), (c46, .int), (c47, .int), (c48, .int), (c49, .int), (c50, .int), (c51, .int), (c52, .int), (c53, .int), (c54, .boolean), (c55, .int), (c56, .int), (c57, .boolean), (c58, .int), (c59, .int), (c60, .int), (c61, .int), (c62, .int), (c63, .int), (c64, .int), (c65, .int), (c66, .int), (c67, .int), (c68, .int), (c69, .int), (c70, .int), (c71, .int), (c72, .int), (c73, .int), (c74, .int), (c75, .int), (c76, .int), (c77, .int), (c78, .int), (c79, .int), (c80, .int), (c81, .int), (c82, .int), (c83, .int), (c84, .int), (c85, .int), (c86, .int), (c87, .int), (c88, .int)] := by
    rw [et88, et87, et86, et85, et84, et83, et82, et81, eT80]
    rfl
  clear ec88 et88 ec87 et87 ec86 et86 ec85 et85 ec84 et84 ec83 et83 ec82 et82 ec81 et81 eC80 eT80
  clear ef91 ef90 ef89 ef88 ef87 ef86 ef85 ef84 eF83
  refine lv_aload_n hx hb dX12_init_769 rfl (lv_at hl 0 rfl) ?_
  refine lv_bipush hx hb dX12_init_770 (v := 40) rfl ?_
  refine ia_arr (atype := .int) (ty := .int) (a0 := (40, .inl (fun _ => 0))) (nw := 40) hx hb hts hin hown hnm hA hlen hK hP hD hS har_I rfl (fun cA => ia_I cA 40) (by decide) (by decide) (by decide) (Nat.le_of_ble_eq_true rfl) (Nat.le_of_ble_eq_true rfl) dX12_init_772 141 (by decide) (hts _ ww_f141) rfl rfl (tyX12_ok 141 (by decide)) dX12_init_774 ?_
  clear hP hD hS hK
  intro q89 c89 H89 lo89 hK hP hD hS
  obtain ⟨ts89, et89⟩ : ∃ z, z = ts88 ++ [(c89, .int)] := ⟨_, rfl⟩
  rw [← et89] at hK
  obtain ⟨cs89, ec89⟩ : ∃ z : va_W, z = cs88 ++ [(q89, .inl (c89, 40, .inl (fun _ => 0)))] := ⟨_, rfl⟩
  rw [← ec89] at hP hD
  obtain ⟨fs92, ef92⟩ : ∃ z, z = fs91.set 141 (.ref q89) := ⟨_, rfl⟩
  rw [← ef92] at hP hD
  replace hlen : fs92.length = 149 := by rw [ef92, List.length_set]; exact hlen
  refine lv_aload_n hx hb dX12_init_777 rfl (lv_at hl 0 rfl) ?_
  refine lv_bipush hx hb dX12_init_778 (v := 40) rfl ?_
  refine ia_arr (atype := .int) (ty := .int) (a0 := (40, .inl (fun _ => 0))) (nw := 40) hx hb hts hin hown hnm hA hlen hK hP hD hS har_I rfl (fun cA => ia_I cA 40) (by decide) (by decide) (by decide) (Nat.le_of_ble_eq_true rfl) (Nat.le_of_ble_eq_true rfl) dX12_init_780 142 (by decide) (hts _ ww_f142) rfl rfl (tyX12_ok 142 (by decide)) dX12_init_782 ?_
  clear hP hD hS hK
  intro q90 c90 H90 lo90 hK hP hD hS
  obtain ⟨ts90, et90⟩ : ∃ z, z = ts89 ++ [(c90, .int)] := ⟨_, rfl⟩
  rw [← et90] at hK
  obtain ⟨cs90, ec90⟩ : ∃ z : va_W, z = cs89 ++ [(q90, .inl (c90, 40, .inl (fun _ => 0)))] := ⟨_, rfl⟩
  rw [← ec90] at hP hD
  obtain ⟨fs93, ef93⟩ : ∃ z, z = fs92.set 142 (.ref q90) := ⟨_, rfl⟩
  rw [← ef93] at hP hD
  replace hlen : fs93.length = 149 := by rw [ef93, List.length_set]; exact hlen
  refine lv_aload_n hx hb dX12_init_785 rfl (lv_at hl 0 rfl) ?_
  refine lv_bipush hx hb dX12_init_786 (v := 40) rfl ?_
  refine ia_arr (atype := .int) (ty := .int) (a0 := (40, .inl (fun _ => 0))) (nw := 40) hx hb hts hin hown hnm hA hlen hK hP hD hS har_I rfl (fun cA => ia_I cA 40) (by decide) (by decide) (by decide) (Nat.le_of_ble_eq_true rfl) (Nat.le_of_ble_eq_true rfl) dX12_init_788 143 (by decide) (hts _ ww_f143) rfl rfl (tyX12_ok 143 (by decide)) dX12_init_790 ?_
  clear hP hD hS hK
  intro q91 c91 H91 lo91 hK hP hD hS
  obtain ⟨ts91, et91⟩ : ∃ z, z = ts90 ++ [(c91, .int)] := ⟨_, rfl⟩
  rw [← et91] at hK
  obtain ⟨cs91, ec91⟩ : ∃ z : va_W, z = cs90 ++ [(q91, .inl (c91, 40, .inl (fun _ => 0)))] := ⟨_, rfl⟩
  rw [← ec91] at hP hD
  obtain ⟨fs94, ef94⟩ : ∃ z, z = fs93.set 143 (.ref q91) := ⟨_, rfl⟩
  rw [← ef94] at hP hD
  replace hlen : fs94.length = 149 := by rw [ef94, List.length_set]; exact hlen
  refine lv_aload_n hx hb dX12_init_793 rfl (lv_at hl 0 rfl) ?_
  refine lv_sipush hx hb dX12_init_794 (v := 10500) rfl ?_
  refine ia_arr (atype := .int) (ty := .int) (a0 := (10500, .inl (fun _ => 0))) (nw := 10500) hx hb hts hin hown hnm hA hlen hK hP hD hS har_I rfl (fun cA => ia_I cA 10500) (by decide) (by decide) (by decide) (Nat.le_of_ble_eq_true rfl) (Nat.le_of_ble_eq_true rfl) dX12_init_797 145 (by decide) (hts _ ww_f145) rfl rfl (tyX12_ok 145 (by decide)) dX12_init_799 ?_
  clear hP hD hS hK
  intro q92 c92 H92 lo92 hK hP hD hS
  obtain ⟨ts92, et92⟩ : ∃ z, z = ts91 ++ [(c92, .int)] := ⟨_, rfl⟩
  rw [← et92] at hK
  obtain ⟨cs92, ec92⟩ : ∃ z : va_W, z = cs91 ++ [(q92, .inl (c92, 10500, .inl (fun _ => 0)))] := ⟨_, rfl⟩
  rw [← ec92] at hP hD
  obtain ⟨fs95, ef95⟩ : ∃ z, z = fs94.set 145 (.ref q92) := ⟨_, rfl⟩
  rw [← ef95] at hP hD
  replace hlen : fs95.length = 149 := by rw [ef95, List.length_set]; exact hlen
  refine lv_aload_n hx hb dX12_init_802 rfl (lv_at hl 0 rfl) ?_
  refine lv_sipush hx hb dX12_init_803 (v := 350) rfl ?_
  refine ia_arr (atype := .int) (ty := .int) (a0 := (350, .inl (fun _ => 0))) (nw := 350) hx hb hts hin hown hnm hA hlen hK hP hD hS har_I rfl (fun cA => ia_I cA 350) (by decide) (by decide) (by decide) (Nat.le_of_ble_eq_true rfl) (Nat.le_of_ble_eq_true rfl) dX12_init_806 146 (by decide) (hts _ ww_f146) rfl rfl (tyX12_ok 146 (by decide)) dX12_init_808 ?_
  clear hP hD hS hK
  intro q93 c93 H93 lo93 hK hP hD hS
  obtain ⟨ts93, et93⟩ : ∃ z, z = ts92 ++ [(c93, .int)] := ⟨_, rfl⟩
  rw [← et93] at hK
  obtain ⟨cs93, ec93⟩ : ∃ z : va_W, z = cs92 ++ [(q93, .inl (c93, 350, .inl (fun _ => 0)))] := ⟨_, rfl⟩
  rw [← ec93] at hP hD
  obtain ⟨fs96, ef96⟩ : ∃ z, z = fs95.set 146 (.ref q93) := ⟨_, rfl⟩
  rw [← ef96] at hP hD
  replace hlen : fs96.length = 149 := by rw [ef96, List.length_set]; exact hlen
  obtain ⟨ad, had⟩ : ∃ z : Nat → Nat, z = (fun k => ([q1, q2, q3, q4, q5, q6, 0, q7, 0, q8, q9, 0, q10, q11, 0, q12, 0, q13, 0, q14, 0, q15, 0, 0, 0, 0, q16, q17, q18, q19, 0, q20, 0, 0, 0, 0, q21, q22, q23, q24, q25, q26, 0, q27, q28, q29, q30, q31, q32, q33, q34, q35, q36, q37, 0, q38, q39, 0, 0, 0, 0, 0, 0, 0, 0, q40, q41, q42, q43, 0, q44, 0, q45, q46, 0, q47, 0, q48, 0, q49, q50, q51, q52, q53, q54, 0, q55, 0, 0, 0, 0, 0, q56, q57, q58, q59, q60, q61, q62, q63, q64, q65, 0, q66, 0, q67, q68, q69, q70, 0, 0, 0, q71, q72, q73, q74, q75, 0, q76, 0, q77, q78, 0, q79, q80, q81, 0, q82, q83, q84, q85, 0, 0, 0, 0, 0, 0, q86, q87, 0, q88, q89, q90, q91, 0, q92, q93, 0, 0] : List Nat).getD k 0) := ⟨_, rfl⟩
  obtain ⟨ca, hca⟩ : ∃ z : Nat → ClassId, z = (fun k => ([c1, c2, c3, c4, c5, c6, c1, c7, c1, c8, c9, c1, c10, c11, c1, c12, c1, c13, c1, c14, c1, c15, c1, c1, c1, c1, c16, c17, c18, c19, c1, c20, c1, c1, c1, c1, c21, c22, c23, c24, c25, c26, c1, c27, c28, c29, c30, c31, c32, c33, c34, c35, c36, c37, c1, c38, c39, c1, c1, c1, c1, c1, c1, c1, c1, c40, c41, c42, c43, c1, c44, c1, c45, c46, c1, c47, c1, c48, c1, c49, c50, c51, c52, c53, c54, c1, c55, c1, c1, c1, c1, c1, c56, c57, c58, c59, c60, c61, c62, c63, c64, c65, c1, c66, c1, c67, c68, c69, c70, c1, c1, c1, c71, c72, c73, c74, c75, c1, c76, c1, c77, c78, c1, c79, c80, c81, c1, c82, c83, c84, c85, c1, c1, c1, c1, c1, c1, c86, c87, c1, c88, c89, c90, c91, c1, c92, c93, c1, c1] : List ClassId).getD k c1) := ⟨_, rfl⟩
  have eF96 : fs96 = [.ref q1, .ref q2, .ref q3, .ref q4, .ref q5, .ref q6, .int 0, .ref q7, .int 0, .ref q8, .ref q9, .int 0, .ref q10, .ref q11, .int 0, .ref q12, .int 0, .ref q13, .int 0, .ref q14, .int 0, .ref q15, .int 0, .int 0, .int 0, .int (-1), .ref q16, .ref q17, .ref q18, .ref q19, .int 0, .ref q20, .int 0, .int 0, .int 0, .int 0, .ref q21, .ref q22, .ref q23, .ref q24, .ref q25, .ref q26, .int 0, .ref q27, .ref q28, .ref q29, .ref q30, .ref q31, .ref q32, .ref q33, .ref q34, .ref q35, .ref q36, .ref q37, .int 0, .ref q38, .ref q39, .int (-1), .int 0, .int 1000, .int 0, .int 0, .int 0, .int 0, .int 0, .ref q40, .ref q41, .ref q42, .ref q43, .int 0, .ref q44, .int 0, .ref q45, .ref q46, .int 0, .ref q47, .int 0, .ref q48, .int 0, .ref q49, .ref q50, .ref q51, .ref q52, .ref q53, .ref q54, .int 0, .ref q55, .int 0, .int 0, .int 0, .int 0, .int 0, .ref q56, .ref q57, .ref q58, .ref q59, .ref q60, .ref q61, .ref q62, .ref q63, .ref q64, .ref q65, .int 0, .ref q66, .int 0, .ref q67, .ref q68, .ref q69, .ref q70, .int 0, .int 0, .int 0, .ref q71, .ref q72, .ref q73, .ref q74, .ref q75, .int 0, .ref q76, .int 0, .ref q77, .ref q78, .int 0, .ref q79, .ref q80, .ref q81, .int 0, .ref q82, .ref q83, .ref q84, .ref q85, .int 0, .int 0, .int 0, .int 0, .int 0, .int 0, .ref q86, .ref q87, .int 0, .ref q88, .ref q89, .ref q90, .ref q91, .int 0, .ref q92, .ref q93, .int 0, .int 0] := by
    rw [ef96, ef95, ef94, ef93, ef92, eF91]
    rfl
  have eC93 : cs93 = [(q1, .inl (c1, 452000, .inl (fun _ => 0))), (q2, .inl (c2, 452000, .inl (fun _ => 0))), (q3, .inl (c3, 452000, .inl (fun _ => 0))), (q4, .inl (c4, 452000, .inl (fun _ => 0))), (q5, .inl (c5, 452000, .inl (fun _ => 0))), (q6, .inl (c6, 40000, .inr (.inl (fun _ => 0)))), (q7, .inl (c7, 8192, .inl (fun _ => 0))), (q8, .inl (c8, 252000, .inl (fun _ => 0))), (q9, .inl (c9, 21000, .inl (fun _ => 0))), (q10, .inl (c10, 20, .inl (fun _ => 0))), (q11, .inl (c11, 3000, .inl (fun _ => 0))), (q12, .inl (c12, 2000, .inl (fun _ => 0))), (q13, .inl (c13, 12, .inl (fun _ => 0))), (q14, .inl (c14, 4000, .inl (fun _ => 0))), (q15, .inl (c15, 200, .inl (fun _ => 0))), (q16, .inl (c16, 40, .inl (fun _ => 0))), (q17, .inl (c17, 40, .inl (fun _ => 0))), (q18, .inl (c18, 40, .inl (fun _ => 0))), (q19, .inl (c19, 40, .inl (fun _ => 0))), (q20, .inl (c20, 1100, .inl (fun _ => 0))), (q21, .inl (c21, 40, .inl (fun _ => 0))), (q22, .inl (c22, 40, .inl (fun _ => 0))), (q23, .inl (c23, 240, .inl (fun _ => 0))), (q24, .inl (c24, 40, .inl (fun _ => 0))), (q25, .inl (c25, 40, .inl (fun _ => 0))), (q26, .inl (c26, 40, .inl (fun _ => 0))), (q27, .inl (c27, 60, .inl (fun _ => 0))), (q28, .inl (c28, 60, .inl (fun _ => 0))), (q29, .inl (c29, 60, .inl (fun _ => 0))), (q30, .inl (c30, 60, .inl (fun _ => 0))), (q31, .inl (c31, 60, .inl (fun _ => 0))), (q32, .inl (c32, 60, .inl (fun _ => 0))), (q33, .inl (c33, 7200, .inl (fun _ => 0))), (q34, .inl (c34, 60, .inl (fun _ => 0))), (q35, .inl (c35, 60, .inl (fun _ => 0))), (q36, .inl (c36, 60, .inl (fun _ => 0))), (q37, .inl (c37, 60, .inl (fun _ => 0))), (q38, .inl (c38, 100, .inl (fun _ => 0))), (q39, .inl (c39, 100, .inl (fun _ => 0))), (q40, .inl (c40, 200, .inl (fun _ => 0))), (q41, .inl (c41, 1200, .inl (fun _ => 0))), (q42, .inl (c42, 1200, .inl (fun _ => 0))), (q43, .inl (c43, 1200, .inl (fun _ => 0))), (q44, .inl (c44, 2400, .inl (fun _ => 0))), (q45, .inl (c45, 400, .inl (fun _ => 0))), (q46, .inl (c46, 400, .inl (fun _ => 0))), (q47, .inl (c47, 400, .inl (fun _ => 0))), (q48, .inl (c48, 130, .inl (fun _ => 0))), (q49, .inl (c49, 300, .inl (fun _ => 0))), (q50, .inl (c50, 300, .inl (fun _ => 0))), (q51, .inl (c51, 300, .inl (fun _ => 0))), (q52, .inl (c52, 300, .inl (fun _ => 0))), (q53, .inl (c53, 300, .inl (fun _ => 0))), (q54, .inl (c54, 300, .inl (fun _ => 0))), (q55, .inl (c55, 2400, .inl (fun _ => 0))), (q56, .inl (c56, 60, .inl (fun _ => 0))), (q57, .inl (c57, 60, .inl (fun _ => 0))), (q58, .inl (c58, 60, .inl (fun _ => 0))), (q59, .inl (c59, 60, .inl (fun _ => 0))), (q60, .inl (c60, 60, .inl (fun _ => 0))), (q61, .inl (c61, 60, .inl (fun _ => 0))), (q62, .inl (c62, 60, .inl (fun _ => 0))), (q63, .inl (c63, 60, .inl (fun _ => 0))), (q64, .inl (c64, 60, .inl (fun _ => 0))), (q65, .inl (c65, 60, .inl (fun _ => 0))), (q66, .inl (c66, 1200, .inl (fun _ => 0))), (q67, .inl (c67, 7800, .inl (fun _ => 0))), (q68, .inl (c68, 7800, .inl (fun _ => 0))), (q69, .inl (c69, 60, .inl (fun _ => 0))), (q70, .inl (c70, 200, .inl (fun _ => 0))), (q71, .inl (c71, 800, .inl (fun _ => 0))), (q72, .inl (c72, 800, .inl (fun _ => 0))), (q73, .inl (c73, 69000, .inl (fun _ => 0))), (q74, .inl (c74, 2300, .inl (fun _ => 0))), (q75, .inl (c75, 2300, .inl (fun _ => 0))), (q76, .inl (c76, 2300, .inl (fun _ => 0))), (q77, .inl (c77, 20, .inl (fun _ => 0))), (q78, .inl (c78, 1200, .inl (fun _ => 0))), (q79, .inl (c79, 128, .inl (fun _ => 0))), (q80, .inl (c80, 8192, .inl (fun _ => 0))), (q81, .inl (c81, 128, .inl (fun _ => 0))), (q82, .inl (c82, 128, .inl (fun _ => 0))), (q83, .inl (c83, 8192, .inl (fun _ => 0))), (q84, .inl (c84, 128, .inl (fun _ => 0))), (q85, .inl (c85, 130, .inl (fun _ => 0))), (q86, .inl (c86, 400, .inl (fun _ => 0))), (q87, .inl (c87, 400, .inl (fun _ => 0))), (q88, .inl (c88, 6, .inl (fun _ => 0))), (q89, .inl (c89, 40, .inl (fun _ => 0))), (q90, .inl (c90, 40, .inl (fun _ => 0))), (q91, .inl (c91, 40, .inl (fun _ => 0))), (q92, .inl (c92, 10500, .inl (fun _ => 0))), (q93, .inl (c93, 350, .inl (fun _ => 0)))] := by
    rw [ec93, ec92, ec91, ec90, ec89, eC88]
    rfl
  have eT93 : ts93 = [(c1, .int), (c2, .int), (c3, .int), (c4, .int), (c5, .int), (c6, .long), (c7, .int), (c8, .int), (c9, .int), (c10, .int), (c11, .int), (c12, .int), (c13, .int), (c14, .int), (c15, .int), (c16, .int), (c17, .int), (c18, .int), (c19, .int), (c20, .int), (c21, .int), (c22, .int), (c23, .int), (c24, .int), (c25, .int), (c26, .boolean), (c27, .int), (c28, .int), (c29, .int), (c30, .int), (c31, .int), (c32, .int), (c33, .int), (c34, .boolean), (c35, .boolean), (c36, .boolean), (c37, .boolean), (c38, .int), (c39, .int), (c40, .int), (c41, .int), (c42, .int), (c43, .int), (c44, .int), (c45, .int), (c46, .int), (c47, .int), (c48, .int), (c49, .int), (c50, .int), (c51, .int), (c52, .int), (c53, .int), (c54, .boolean), (c55, .int), (c56, .int), (c57, .boolean), (c58, .int), (c59, .int), (c60, .int), (c61, .int), (c62, .int), (c63, .int), (c64, .int), (c65, .int), (c66, .int), (c67, .int), (c68, .int), (c69, .int), (c70, .int), (c71, .int), (c72, .int), (c73, .int), (c74, .int), (c75, .int), (c76, .int), (c77, .int), (c78, .int), (c79, .int), (c80, .int), (c81, .int), (c82, .int), (c83, .int), (c84, .int), (c85, .int), (c86, .int), (c87, .int), (c88, .int), (c89, .int), (c90, .int), (c91, .int), (c92, .int), (c93, .int)] := by
    rw [et93, et92, et91, et90, et89, eT88]
    rfl
  clear ec93 et93 ec92 et92 ec91 et91 ec90 et90 ec89 et89 eC88 eT88
  clear ef96 ef95 ef94 ef93 ef92 eF91
  have hcl : ((h0, .inr (12, fs96)) :: cs93 : va_W) = mCl ca h0 ad mU0 := by
    rw [had, hca, eF96, eC93]
    rfl
  have hty : ts93 = mTy ca := by
    rw [hca, eT93]
    rfl
  rw [hcl] at hP hD
  rw [hty] at hK
  clear hcl hty had hca hlen
  refine init_rest hx hb hts hown hml hA hK hP hD hS hl (Nat.le_of_ble_eq_true rfl) (Nat.le_of_ble_eq_true rfl) ?_
  clear hP hD hS hl
  intro w H locs ls hw hP hD hS hl
  exact W.vret hx hb hr (fun t ht hW => ⟨⟨(ad, ca, w), rfl, hw, by rw [ht]; exact hP, va_K.moved hW.alike hK, hD⟩, hS.F ht⟩) hS.2.2 dX12_init_1537
end
section
def wsX12_fuel : List Cond := .code yX12_fuel cX12_fuel 3 (some .int) :: ([.fieldLink RX12 139 "ProofHouseModel" "fuel" "I"] ++ wsX120)
def wsX12_fault : List Cond := .code yX12_fault cX12_fault 2 (some .int) :: ([.fieldLink RX12 377 "ProofHouseModel" "readFault" "I", .fieldLink RX12 59 "ProofHouseModel" "readPlace" "I", .fieldLink RX12 480 "ProofHouseModel" "work" "I"] ++ wsX120)
def wsX12_steps : List Cond := .code yX12_steps cX12_steps 1 (some .int) :: ([.fieldLink RX12 561 "ProofHouseModel" "steps" "I"] ++ wsX120)
def wsX12_size : List Cond := .code yX12_size cX12_size 1 (some .int) :: ([.fieldLink RX12 441 "ProofHouseModel" "outSize" "I"] ++ wsX120)
def wsX12_letter : List Cond := .code yX12_letter cX12_letter 2 (some .int) :: ([.fieldLink RX12 441 "ProofHouseModel" "outSize" "I", .fieldLink RX12 47 "ProofHouseModel" "out" "[I"] ++ wsX120)
def wsX12_taken : List Cond := .code yX12_taken cX12_taken 2 (some .int) :: ([.fieldLink RX12 845 "ProofHouseModel" "taken" "I", .fieldLink RX12 130 "ProofHouseModel" "takenSort" "[I"] ++ wsX120)
def wsX12_recheck : List Cond := .code yX12_recheck cX12_recheck 1 (some .boolean) :: ([.fieldLink RX12 779 "ProofHouseModel" "proved" "Z"] ++ wsX120)
theorem dX12_fuel_0 : decode cX12_fuel 0 = .ok (.iload_n 1, 1) := by decide +kernel
theorem dX12_fuel_1 : decode cX12_fuel 1 = .ok (.iconst 1, 1) := by decide +kernel
theorem dX12_fuel_2 : decode cX12_fuel 2 = .ok (.if_icmp .lt 10, 3) := by decide +kernel
theorem dX12_fuel_5 : decode cX12_fuel 5 = .ok (.iload_n 1, 1) := by decide +kernel
theorem dX12_fuel_6 : decode cX12_fuel 6 = .ok (.sipush 1000, 3) := by decide +kernel
theorem dX12_fuel_9 : decode cX12_fuel 9 = .ok (.if_icmp .le 5, 3) := by decide +kernel
theorem dX12_fuel_12 : decode cX12_fuel 12 = .ok (.iconst (-1), 1) := by decide +kernel
theorem dX12_fuel_13 : decode cX12_fuel 13 = .ok (.ireturn, 1) := by decide +kernel
theorem dX12_fuel_14 : decode cX12_fuel 14 = .ok (.aload_n 0, 1) := by decide +kernel
theorem dX12_fuel_15 : decode cX12_fuel 15 = .ok (.getfield 139, 3) := by decide +kernel
theorem dX12_fuel_18 : decode cX12_fuel 18 = .ok (.istore_n 2, 1) := by decide +kernel
theorem dX12_fuel_19 : decode cX12_fuel 19 = .ok (.aload_n 0, 1) := by decide +kernel
theorem dX12_fuel_20 : decode cX12_fuel 20 = .ok (.iload_n 1, 1) := by decide +kernel
theorem dX12_fuel_21 : decode cX12_fuel 21 = .ok (.putfield 139, 3) := by decide +kernel
theorem dX12_fuel_24 : decode cX12_fuel 24 = .ok (.iload_n 2, 1) := by decide +kernel
theorem dX12_fuel_25 : decode cX12_fuel 25 = .ok (.ireturn, 1) := by decide +kernel
theorem dX12_fault_0 : decode cX12_fault 0 = .ok (.iload_n 1, 1) := by decide +kernel
theorem dX12_fault_1 : decode cX12_fault 1 = .ok (.ifCond .ne 10, 3) := by decide +kernel
theorem dX12_fault_4 : decode cX12_fault 4 = .ok (.aload_n 0, 1) := by decide +kernel
theorem dX12_fault_5 : decode cX12_fault 5 = .ok (.getfield 377, 3) := by decide +kernel
theorem dX12_fault_8 : decode cX12_fault 8 = .ok (.goto 28, 3) := by decide +kernel
theorem dX12_fault_11 : decode cX12_fault 11 = .ok (.iload_n 1, 1) := by decide +kernel
theorem dX12_fault_12 : decode cX12_fault 12 = .ok (.iconst 1, 1) := by decide +kernel
theorem dX12_fault_13 : decode cX12_fault 13 = .ok (.if_icmp .ne 10, 3) := by decide +kernel
theorem dX12_fault_16 : decode cX12_fault 16 = .ok (.aload_n 0, 1) := by decide +kernel
theorem dX12_fault_17 : decode cX12_fault 17 = .ok (.getfield 59, 3) := by decide +kernel
theorem dX12_fault_20 : decode cX12_fault 20 = .ok (.goto 16, 3) := by decide +kernel
theorem dX12_fault_23 : decode cX12_fault 23 = .ok (.iload_n 1, 1) := by decide +kernel
theorem dX12_fault_24 : decode cX12_fault 24 = .ok (.iconst 2, 1) := by decide +kernel
theorem dX12_fault_25 : decode cX12_fault 25 = .ok (.if_icmp .ne 10, 3) := by decide +kernel
theorem dX12_fault_28 : decode cX12_fault 28 = .ok (.aload_n 0, 1) := by decide +kernel
theorem dX12_fault_29 : decode cX12_fault 29 = .ok (.getfield 480, 3) := by decide +kernel
theorem dX12_fault_32 : decode cX12_fault 32 = .ok (.goto 4, 3) := by decide +kernel
theorem dX12_fault_35 : decode cX12_fault 35 = .ok (.iconst (-1), 1) := by decide +kernel
theorem dX12_fault_36 : decode cX12_fault 36 = .ok (.ireturn, 1) := by decide +kernel
theorem dX12_steps_0 : decode cX12_steps 0 = .ok (.aload_n 0, 1) := by decide +kernel
theorem dX12_steps_1 : decode cX12_steps 1 = .ok (.getfield 561, 3) := by decide +kernel
theorem dX12_steps_4 : decode cX12_steps 4 = .ok (.ireturn, 1) := by decide +kernel
theorem dX12_size_0 : decode cX12_size 0 = .ok (.aload_n 0, 1) := by decide +kernel
theorem dX12_size_1 : decode cX12_size 1 = .ok (.getfield 441, 3) := by decide +kernel
theorem dX12_size_4 : decode cX12_size 4 = .ok (.ireturn, 1) := by decide +kernel
theorem dX12_letter_0 : decode cX12_letter 0 = .ok (.iload_n 1, 1) := by decide +kernel
theorem dX12_letter_1 : decode cX12_letter 1 = .ok (.ifCond .lt 20, 3) := by decide +kernel
theorem dX12_letter_4 : decode cX12_letter 4 = .ok (.iload_n 1, 1) := by decide +kernel
theorem dX12_letter_5 : decode cX12_letter 5 = .ok (.aload_n 0, 1) := by decide +kernel
theorem dX12_letter_6 : decode cX12_letter 6 = .ok (.getfield 441, 3) := by decide +kernel
theorem dX12_letter_9 : decode cX12_letter 9 = .ok (.if_icmp .ge 12, 3) := by decide +kernel
theorem dX12_letter_12 : decode cX12_letter 12 = .ok (.aload_n 0, 1) := by decide +kernel
theorem dX12_letter_13 : decode cX12_letter 13 = .ok (.getfield 47, 3) := by decide +kernel
theorem dX12_letter_16 : decode cX12_letter 16 = .ok (.iload_n 1, 1) := by decide +kernel
theorem dX12_letter_17 : decode cX12_letter 17 = .ok (.iaload, 1) := by decide +kernel
theorem dX12_letter_18 : decode cX12_letter 18 = .ok (.goto 4, 3) := by decide +kernel
theorem dX12_letter_21 : decode cX12_letter 21 = .ok (.iconst (-1), 1) := by decide +kernel
theorem dX12_letter_22 : decode cX12_letter 22 = .ok (.ireturn, 1) := by decide +kernel
theorem dX12_taken_0 : decode cX12_taken 0 = .ok (.iload_n 1, 1) := by decide +kernel
theorem dX12_taken_1 : decode cX12_taken 1 = .ok (.ifCond .lt 20, 3) := by decide +kernel
theorem dX12_taken_4 : decode cX12_taken 4 = .ok (.iload_n 1, 1) := by decide +kernel
theorem dX12_taken_5 : decode cX12_taken 5 = .ok (.aload_n 0, 1) := by decide +kernel
theorem dX12_taken_6 : decode cX12_taken 6 = .ok (.getfield 845, 3) := by decide +kernel
theorem dX12_taken_9 : decode cX12_taken 9 = .ok (.if_icmp .ge 12, 3) := by decide +kernel
theorem dX12_taken_12 : decode cX12_taken 12 = .ok (.aload_n 0, 1) := by decide +kernel
theorem dX12_taken_13 : decode cX12_taken 13 = .ok (.getfield 130, 3) := by decide +kernel
theorem dX12_taken_16 : decode cX12_taken 16 = .ok (.iload_n 1, 1) := by decide +kernel
theorem dX12_taken_17 : decode cX12_taken 17 = .ok (.iaload, 1) := by decide +kernel
theorem dX12_taken_18 : decode cX12_taken 18 = .ok (.goto 4, 3) := by decide +kernel
theorem dX12_taken_21 : decode cX12_taken 21 = .ok (.iconst 0, 1) := by decide +kernel
theorem dX12_taken_22 : decode cX12_taken 22 = .ok (.ireturn, 1) := by decide +kernel
theorem dX12_recheck_0 : decode cX12_recheck 0 = .ok (.aload_n 0, 1) := by decide +kernel
theorem dX12_recheck_1 : decode cX12_recheck 1 = .ok (.getfield 779, 3) := by decide +kernel
theorem dX12_recheck_4 : decode cX12_recheck 4 = .ok (.ireturn, 1) := by decide +kernel

set_option maxHeartbeats 4000000 in
set_option maxRecDepth 100000 in
/-- steps() -/
theorem c_m_steps (l : Launch) (D : va_G) (ca : Nat → ClassId) (h0 sz : Nat) (ad : Nat → Nat) (u : mST)    : Met l yX12_steps wsX12_steps pR_0 (va_Pc [.ref (h0)] (fun U => U.heap.size = sz ∧ mWd D ca (fun _ => True) h0 ad u U)) (va_Qi (fun (r : Int32) (v : mST) => v = u ∧ r = u.1 60) (mWd D ca (va_A (mCl ca h0 ad u) sz) h0 ad) (va_A (mCl ca h0 ad u) sz)) 0 0 (va_A (mCl ca h0 ad u) sz) := by
  refine Met.ofW (cc := cX12_steps) (maxL := 1) (ret := (some .int)) (by decide) rfl ?_
  intro p e s m args below meth c s₁ B hml hv
  obtain ⟨rfl, hsz, hP, hK, hD0⟩ := hv
  have hx := B.exec
  have hb := B.bytes
  have hr := B.returns
  have hts := atoms_spec (ws := wsX12_steps) B.pre
  have hown : s.vm.findClass RX12 = some m.cls := findClass_of_methodNamed B.named
  have hlocks := B.notSynchronized
  subst hsz
  have hD := hD0.self (sz := s.heap.size)
  generalize hAe : va_A (mCl ca h0 ad u) s.heap.size = A at hD ⊢
  have hA : ∀ q : Nat, s.heap.size ≤ q → A q := fun q h => by rw [← hAe]; exact Or.inr h
  have hS : va_S A s.heap s.heap [] := va_S.rf
  have L_steps := hts (.fieldLink RX12 561 "ProofHouseModel" "steps" "I") (by decide +kernel)
  have hin : ∀ w ∈ wsX120, w ∈ wsX12_steps := fun w h => List.mem_cons_of_mem _ (List.mem_append_right _ h)
  have hl := lv_entry ([.ref (h0)]) (n := 1) (Nat.le_of_ble_eq_true rfl)
  rw [lg_entry_eq]
  generalize (lg_sl ([.ref (h0)]) ++ List.replicate (1 - (lg_sl ([.ref (h0)])).length) Slot.unset).toArray = ls at hl ⊢
  have hl : lv_has ls 1 [(0, .ref (h0))] := hl
  refine lv_aload_n hx hb dX12_steps_0 rfl (lv_at hl 0 rfl) ?_
  refine va_get (D := D) (ci := 12) (v := .int (u.1 60)) (C := RX12) (T := TX12) (N := 149) hx hb hts hin hown hK hP 0 mH_0 rfl 60 (by decide) L_steps (fun _ h9 => h9) mF_60 dX12_steps_1 ?_
  exact W.iret (v := u.1 60) hx hb hr (fun t ht hW => ⟨⟨u.1 60, u, rfl, ⟨rfl, rfl⟩, by rw [ht]; exact hP, va_K.moved hW.alike hK, hD⟩, hS.F ht⟩) hS.2.2 dX12_steps_4

set_option maxHeartbeats 4000000 in
set_option maxRecDepth 100000 in
/-- size() -/
theorem c_m_size (l : Launch) (D : va_G) (ca : Nat → ClassId) (h0 sz : Nat) (ad : Nat → Nat) (u : mST)    : Met l yX12_size wsX12_size pR_0 (va_Pc [.ref (h0)] (fun U => U.heap.size = sz ∧ mWd D ca (fun _ => True) h0 ad u U)) (va_Qi (fun (r : Int32) (v : mST) => v = u ∧ r = u.1 16) (mWd D ca (va_A (mCl ca h0 ad u) sz) h0 ad) (va_A (mCl ca h0 ad u) sz)) 0 0 (va_A (mCl ca h0 ad u) sz) := by
  refine Met.ofW (cc := cX12_size) (maxL := 1) (ret := (some .int)) (by decide) rfl ?_
  intro p e s m args below meth c s₁ B hml hv
  obtain ⟨rfl, hsz, hP, hK, hD0⟩ := hv
  have hx := B.exec
  have hb := B.bytes
  have hr := B.returns
  have hts := atoms_spec (ws := wsX12_size) B.pre
  have hown : s.vm.findClass RX12 = some m.cls := findClass_of_methodNamed B.named
  have hlocks := B.notSynchronized
  subst hsz
  have hD := hD0.self (sz := s.heap.size)
  generalize hAe : va_A (mCl ca h0 ad u) s.heap.size = A at hD ⊢
  have hA : ∀ q : Nat, s.heap.size ≤ q → A q := fun q h => by rw [← hAe]; exact Or.inr h
  have hS : va_S A s.heap s.heap [] := va_S.rf
  have L_outSize := hts (.fieldLink RX12 441 "ProofHouseModel" "outSize" "I") (by decide +kernel)
  have hin : ∀ w ∈ wsX120, w ∈ wsX12_size := fun w h => List.mem_cons_of_mem _ (List.mem_append_right _ h)
  have hl := lv_entry ([.ref (h0)]) (n := 1) (Nat.le_of_ble_eq_true rfl)
  rw [lg_entry_eq]
  generalize (lg_sl ([.ref (h0)]) ++ List.replicate (1 - (lg_sl ([.ref (h0)])).length) Slot.unset).toArray = ls at hl ⊢
  have hl : lv_has ls 1 [(0, .ref (h0))] := hl
  refine lv_aload_n hx hb dX12_size_0 rfl (lv_at hl 0 rfl) ?_
  refine va_get (D := D) (ci := 12) (v := .int (u.1 16)) (C := RX12) (T := TX12) (N := 149) hx hb hts hin hown hK hP 0 mH_0 rfl 16 (by decide) L_outSize (fun _ h9 => h9) mF_16 dX12_size_1 ?_
  exact W.iret (v := u.1 16) hx hb hr (fun t ht hW => ⟨⟨u.1 16, u, rfl, ⟨rfl, rfl⟩, by rw [ht]; exact hP, va_K.moved hW.alike hK, hD⟩, hS.F ht⟩) hS.2.2 dX12_size_4

set_option maxHeartbeats 4000000 in
set_option maxRecDepth 100000 in
/-- recheck() -/
theorem c_m_recheck (l : Launch) (D : va_G) (ca : Nat → ClassId) (h0 sz : Nat) (ad : Nat → Nat) (u : mST)   (hp : u.1 62 = 0 ∨ u.1 62 = 1) : Met l yX12_recheck wsX12_recheck pR_0 (va_Pc [.ref (h0)] (fun U => U.heap.size = sz ∧ mWd D ca (fun _ => True) h0 ad u U)) (va_Qi (fun (r : Int32) (v : mST) => v = u ∧ r = u.1 62) (mWd D ca (va_A (mCl ca h0 ad u) sz) h0 ad) (va_A (mCl ca h0 ad u) sz)) 0 0 (va_A (mCl ca h0 ad u) sz) := by
  refine Met.ofW (cc := cX12_recheck) (maxL := 1) (ret := (some .boolean)) (by decide) rfl ?_
  intro p e s m args below meth c s₁ B hml hv
  obtain ⟨rfl, hsz, hP, hK, hD0⟩ := hv
  have hx := B.exec
  have hb := B.bytes
  have hr := B.returns
  have hts := atoms_spec (ws := wsX12_recheck) B.pre
  have hown : s.vm.findClass RX12 = some m.cls := findClass_of_methodNamed B.named
  have hlocks := B.notSynchronized
  subst hsz
  have hD := hD0.self (sz := s.heap.size)
  generalize hAe : va_A (mCl ca h0 ad u) s.heap.size = A at hD ⊢
  have hA : ∀ q : Nat, s.heap.size ≤ q → A q := fun q h => by rw [← hAe]; exact Or.inr h
  have hS : va_S A s.heap s.heap [] := va_S.rf
  have L_proved := hts (.fieldLink RX12 779 "ProofHouseModel" "proved" "Z") (by decide +kernel)
  have hin : ∀ w ∈ wsX120, w ∈ wsX12_recheck := fun w h => List.mem_cons_of_mem _ (List.mem_append_right _ h)
  have hl := lv_entry ([.ref (h0)]) (n := 1) (Nat.le_of_ble_eq_true rfl)
  rw [lg_entry_eq]
  generalize (lg_sl ([.ref (h0)]) ++ List.replicate (1 - (lg_sl ([.ref (h0)])).length) Slot.unset).toArray = ls at hl ⊢
  have hl : lv_has ls 1 [(0, .ref (h0))] := hl
  refine lv_aload_n hx hb dX12_recheck_0 rfl (lv_at hl 0 rfl) ?_
  refine va_get (D := D) (ci := 12) (v := .int (u.1 62)) (C := RX12) (T := TX12) (N := 149) hx hb hts hin hown hK hP 0 mH_0 rfl 62 (by decide) L_proved (fun _ h9 => h9) mF_62 dX12_recheck_1 ?_
  exact W.zret (v := u.1 62) hx hb hr (by rcases hp with h | h <;> rw [h] <;> rfl) (fun t ht hW => ⟨⟨u.1 62, u, rfl, ⟨rfl, rfl⟩, by rw [ht]; exact hP, va_K.moved hW.alike hK, hD⟩, hS.F ht⟩) hS.2.2 dX12_recheck_4

set_option maxHeartbeats 4000000 in
set_option maxRecDepth 100000 in
/-- fault(what) -/
theorem c_m_fault (l : Launch) (D : va_G) (ca : Nat → ClassId) (h0 sz : Nat) (ad : Nat → Nat) (u : mST) (a : Int32)   : Met l yX12_fault wsX12_fault pR_0 (va_Pc [.ref (h0), .int (a)] (fun U => U.heap.size = sz ∧ mWd D ca (fun _ => True) h0 ad u U)) (va_Qi (fun (r : Int32) (v : mST) => v = u ∧ r = if a = 0 then u.1 24 else if a = 1 then u.1 25 else if a = 2 then u.1 61 else -1) (mWd D ca (va_A (mCl ca h0 ad u) sz) h0 ad) (va_A (mCl ca h0 ad u) sz)) 0 0 (va_A (mCl ca h0 ad u) sz) := by
  refine Met.ofW (cc := cX12_fault) (maxL := 2) (ret := (some .int)) (by decide) rfl ?_
  intro p e s m args below meth c s₁ B hml hv
  obtain ⟨rfl, hsz, hP, hK, hD0⟩ := hv
  have hx := B.exec
  have hb := B.bytes
  have hr := B.returns
  have hts := atoms_spec (ws := wsX12_fault) B.pre
  have hown : s.vm.findClass RX12 = some m.cls := findClass_of_methodNamed B.named
  have hlocks := B.notSynchronized
  subst hsz
  have hD := hD0.self (sz := s.heap.size)
  generalize hAe : va_A (mCl ca h0 ad u) s.heap.size = A at hD ⊢
  have hA : ∀ q : Nat, s.heap.size ≤ q → A q := fun q h => by rw [← hAe]; exact Or.inr h
  have hS : va_S A s.heap s.heap [] := va_S.rf
  have L_readFault := hts (.fieldLink RX12 377 "ProofHouseModel" "readFault" "I") (by decide +kernel)
  have L_readPlace := hts (.fieldLink RX12 59 "ProofHouseModel" "readPlace" "I") (by decide +kernel)
  have L_work := hts (.fieldLink RX12 480 "ProofHouseModel" "work" "I") (by decide +kernel)
  have hin : ∀ w ∈ wsX120, w ∈ wsX12_fault := fun w h => List.mem_cons_of_mem _ (List.mem_append_right _ h)
  have hl := lv_entry ([.ref (h0), .int (a)]) (n := 2) (Nat.le_of_ble_eq_true rfl)
  rw [lg_entry_eq]
  generalize (lg_sl ([.ref (h0), .int (a)]) ++ List.replicate (2 - (lg_sl ([.ref (h0), .int (a)])).length) Slot.unset).toArray = ls at hl ⊢
  have hl : lv_has ls 2 [(0, .ref (h0)), (1, .int (a))] := hl
  refine lv_iload_n hx hb dX12_fault_0 rfl (lv_at hl 1 rfl) ?_
  refine lv_if_ne hx hb dX12_fault_1 (tgt := 11) rfl (fun h1 => ?_) (fun h1 => ?_)
  · refine lv_iload_n hx hb dX12_fault_11 rfl (lv_at hl 1 rfl) ?_
    refine lv_iconst hx hb dX12_fault_12 (v := 1) rfl ?_
    refine lv_icmp_ne hx hb dX12_fault_13 (tgt := 23) rfl (fun h2 => ?_) (fun h2 => ?_)
    · refine lv_iload_n hx hb dX12_fault_23 rfl (lv_at hl 1 rfl) ?_
      refine lv_iconst hx hb dX12_fault_24 (v := 2) rfl ?_
      refine lv_icmp_ne hx hb dX12_fault_25 (tgt := 35) rfl (fun h3 => ?_) (fun h3 => ?_)
      · refine lv_iconst hx hb dX12_fault_35 (v := (-1)) rfl ?_
        exact W.iret (v := (-1)) hx hb hr (fun t ht hW => ⟨⟨(-1), u, rfl, (by refine ⟨rfl, ?_⟩; first | (rw [if_pos h1]; done) | (rw [if_neg h1, if_pos h2]; done) | (rw [if_neg h1, if_neg h2, if_pos h3]; done) | (rw [if_neg h1, if_neg h2, if_neg h3]; done)), by rw [ht]; exact hP, va_K.moved hW.alike hK, hD⟩, hS.F ht⟩) hS.2.2 dX12_fault_36
      · refine lv_aload_n hx hb dX12_fault_28 rfl (lv_at hl 0 rfl) ?_
        refine va_get (D := D) (ci := 12) (v := .int (u.1 61)) (C := RX12) (T := TX12) (N := 149) hx hb hts hin hown hK hP 0 mH_0 rfl 61 (by decide) L_work (fun _ h9 => h9) mF_61 dX12_fault_29 ?_
        refine lv_goto hx hb dX12_fault_32 (tgt := 36) rfl ?_
        exact W.iret (v := u.1 61) hx hb hr (fun t ht hW => ⟨⟨u.1 61, u, rfl, (by refine ⟨rfl, ?_⟩; first | (rw [if_pos h1]; done) | (rw [if_neg h1, if_pos h2]; done) | (rw [if_neg h1, if_neg h2, if_pos h3]; done) | (rw [if_neg h1, if_neg h2, if_neg h3]; done)), by rw [ht]; exact hP, va_K.moved hW.alike hK, hD⟩, hS.F ht⟩) hS.2.2 dX12_fault_36
    · refine lv_aload_n hx hb dX12_fault_16 rfl (lv_at hl 0 rfl) ?_
      refine va_get (D := D) (ci := 12) (v := .int (u.1 25)) (C := RX12) (T := TX12) (N := 149) hx hb hts hin hown hK hP 0 mH_0 rfl 25 (by decide) L_readPlace (fun _ h9 => h9) mF_25 dX12_fault_17 ?_
      refine lv_goto hx hb dX12_fault_20 (tgt := 36) rfl ?_
      exact W.iret (v := u.1 25) hx hb hr (fun t ht hW => ⟨⟨u.1 25, u, rfl, (by refine ⟨rfl, ?_⟩; first | (rw [if_pos h1]; done) | (rw [if_neg h1, if_pos h2]; done) | (rw [if_neg h1, if_neg h2, if_pos h3]; done) | (rw [if_neg h1, if_neg h2, if_neg h3]; done)), by rw [ht]; exact hP, va_K.moved hW.alike hK, hD⟩, hS.F ht⟩) hS.2.2 dX12_fault_36
  · refine lv_aload_n hx hb dX12_fault_4 rfl (lv_at hl 0 rfl) ?_
    refine va_get (D := D) (ci := 12) (v := .int (u.1 24)) (C := RX12) (T := TX12) (N := 149) hx hb hts hin hown hK hP 0 mH_0 rfl 24 (by decide) L_readFault (fun _ h9 => h9) mF_24 dX12_fault_5 ?_
    refine lv_goto hx hb dX12_fault_8 (tgt := 36) rfl ?_
    exact W.iret (v := u.1 24) hx hb hr (fun t ht hW => ⟨⟨u.1 24, u, rfl, (by refine ⟨rfl, ?_⟩; first | (rw [if_pos h1]; done) | (rw [if_neg h1, if_pos h2]; done) | (rw [if_neg h1, if_neg h2, if_pos h3]; done) | (rw [if_neg h1, if_neg h2, if_neg h3]; done)), by rw [ht]; exact hP, va_K.moved hW.alike hK, hD⟩, hS.F ht⟩) hS.2.2 dX12_fault_36

set_option maxHeartbeats 4000000 in
set_option maxRecDepth 100000 in
/-- fuel(n) -/
theorem c_m_fuel (l : Launch) (D : va_G) (ca : Nat → ClassId) (h0 sz : Nat) (ad : Nat → Nat) (u : mST) (a : Int32)   : Met l yX12_fuel wsX12_fuel pR_0 (va_Pc [.ref (h0), .int (a)] (fun U => U.heap.size = sz ∧ mWd D ca (fun _ => True) h0 ad u U)) (va_Qi (fun (r : Int32) (v : mST) => if a < 1 ∨ 1000 < a then r = -1 ∧ v = u else r = u.1 59 ∧ v = mI u 59 a) (mWd D ca (va_A (mCl ca h0 ad u) sz) h0 ad) (va_A (mCl ca h0 ad u) sz)) 0 0 (va_A (mCl ca h0 ad u) sz) := by
  refine Met.ofW (cc := cX12_fuel) (maxL := 3) (ret := (some .int)) (by decide) rfl ?_
  intro p e s m args below meth c s₁ B hml hv
  obtain ⟨rfl, hsz, hP, hK, hD0⟩ := hv
  have hx := B.exec
  have hb := B.bytes
  have hr := B.returns
  have hts := atoms_spec (ws := wsX12_fuel) B.pre
  have hown : s.vm.findClass RX12 = some m.cls := findClass_of_methodNamed B.named
  have hlocks := B.notSynchronized
  subst hsz
  have hD := hD0.self (sz := s.heap.size)
  generalize hAe : va_A (mCl ca h0 ad u) s.heap.size = A at hD ⊢
  have hA : ∀ q : Nat, s.heap.size ≤ q → A q := fun q h => by rw [← hAe]; exact Or.inr h
  have hS : va_S A s.heap s.heap [] := va_S.rf
  have L_fuel := hts (.fieldLink RX12 139 "ProofHouseModel" "fuel" "I") (by decide +kernel)
  have hin : ∀ w ∈ wsX120, w ∈ wsX12_fuel := fun w h => List.mem_cons_of_mem _ (List.mem_append_right _ h)
  have hl := lv_entry ([.ref (h0), .int (a)]) (n := 3) (Nat.le_of_ble_eq_true rfl)
  rw [lg_entry_eq]
  generalize (lg_sl ([.ref (h0), .int (a)]) ++ List.replicate (3 - (lg_sl ([.ref (h0), .int (a)])).length) Slot.unset).toArray = ls at hl ⊢
  have hl : lv_has ls 3 [(0, .ref (h0)), (1, .int (a))] := hl
  refine lv_iload_n hx hb dX12_fuel_0 rfl (lv_at hl 1 rfl) ?_
  refine lv_iconst hx hb dX12_fuel_1 (v := 1) rfl ?_
  refine lv_icmp_lt hx hb dX12_fuel_2 (tgt := 12) rfl (fun h1 => ?_) (fun h1 => ?_)
  · refine lv_iconst hx hb dX12_fuel_12 (v := (-1)) rfl ?_
    exact W.iret (v := (-1)) hx hb hr (fun t ht hW => ⟨⟨(-1), u, rfl, (by first | exact (Eq.mpr (if_pos (Or.inl h1)) ⟨rfl, rfl⟩) | exact (Eq.mpr (if_pos (Or.inr (Int32.not_le.mp h2))) ⟨rfl, rfl⟩)), by rw [ht]; exact hP, va_K.moved hW.alike hK, hD⟩, hS.F ht⟩) hS.2.2 dX12_fuel_13
  · refine lv_iload_n hx hb dX12_fuel_5 rfl (lv_at hl 1 rfl) ?_
    refine lv_sipush hx hb dX12_fuel_6 (v := 1000) rfl ?_
    refine lv_icmp_le hx hb dX12_fuel_9 (tgt := 14) rfl (fun h2 => ?_) (fun h2 => ?_)
    · refine lv_aload_n hx hb dX12_fuel_14 rfl (lv_at hl 0 rfl) ?_
      refine va_get (D := D) (ci := 12) (v := .int (u.1 59)) (C := RX12) (T := TX12) (N := 149) hx hb hts hin hown hK hP 0 mH_0 rfl 59 (by decide) L_fuel (fun _ h9 => h9) mF_59 dX12_fuel_15 ?_
      refine lv_istore_n hx hb dX12_fuel_18 rfl hl (by decide) rfl (fun ls hl => ?_)
      have hl : lv_has ls 3 [(2, .int (u.1 59)), (0, .ref (h0)), (1, .int (a))] := hl
      refine lv_aload_n hx hb dX12_fuel_19 rfl (lv_at hl 1 rfl) ?_
      refine lv_iload_n hx hb dX12_fuel_20 rfl (lv_at hl 2 rfl) ?_
      refine va_put (D := D) (ci := 12) (v := .int (a)) (ty := .int) (C := RX12) (T := TX12) (N := 149) hx hb hts hin tyX12 tyX12_ok nmX12 hown hK hP hD hS 0 mH_0 rfl 59 (by decide) L_fuel (fun _ h9 => h9) rfl (tyX12_ok 59 (by decide)) rfl rfl (Nat.le_of_ble_eq_true rfl) dX12_fuel_21 (fun H locs hP hD hS => ?_)
      rw [mSI_59] at hP hD
      refine lv_iload_n hx hb dX12_fuel_24 rfl (lv_at hl 0 rfl) ?_
      exact W.iret (v := u.1 59) hx hb hr (fun t ht hW => ⟨⟨u.1 59, mI u 59 (a), rfl, (Eq.mpr (if_neg (fun h => h.elim h1 (fun h => absurd h2 (Int32.not_le.mpr h)))) ⟨rfl, rfl⟩), by rw [ht]; exact hP, va_K.moved hW.alike hK, hD⟩, hS.F ht⟩) hS.2.2 dX12_fuel_25
    · refine lv_iconst hx hb dX12_fuel_12 (v := (-1)) rfl ?_
      exact W.iret (v := (-1)) hx hb hr (fun t ht hW => ⟨⟨(-1), u, rfl, (by first | exact (Eq.mpr (if_pos (Or.inl h1)) ⟨rfl, rfl⟩) | exact (Eq.mpr (if_pos (Or.inr (Int32.not_le.mp h2))) ⟨rfl, rfl⟩)), by rw [ht]; exact hP, va_K.moved hW.alike hK, hD⟩, hS.F ht⟩) hS.2.2 dX12_fuel_13

set_option maxHeartbeats 4000000 in
set_option maxRecDepth 100000 in
/-- letter(k) -/
theorem c_m_letter (l : Launch) (D : va_G) (ca : Nat → ClassId) (h0 sz : Nat) (ad : Nat → Nat) (u : mST) (a : Int32) (N : Nat) (hN : u.1 16 = nI N) (hN2 : N ≤ 2000) : Met l yX12_letter wsX12_letter pR_0 (va_Pc [.ref (h0), .int (a)] (fun U => U.heap.size = sz ∧ mWd D ca (fun _ => True) h0 ad u U)) (va_Qi (fun (r : Int32) (v : mST) => v = u ∧ r = if 0 ≤ a ∧ a < u.1 16 then u.2.1 15 a.toNatClampNeg else -1) (mWd D ca (va_A (mCl ca h0 ad u) sz) h0 ad) (va_A (mCl ca h0 ad u) sz)) 0 0 (va_A (mCl ca h0 ad u) sz) := by
  refine Met.ofW (cc := cX12_letter) (maxL := 2) (ret := (some .int)) (by decide) rfl ?_
  intro p e s m args below meth c s₁ B hml hv
  obtain ⟨rfl, hsz, hP, hK, hD0⟩ := hv
  have hx := B.exec
  have hb := B.bytes
  have hr := B.returns
  have hts := atoms_spec (ws := wsX12_letter) B.pre
  have hown : s.vm.findClass RX12 = some m.cls := findClass_of_methodNamed B.named
  have hlocks := B.notSynchronized
  subst hsz
  have hD := hD0.self (sz := s.heap.size)
  generalize hAe : va_A (mCl ca h0 ad u) s.heap.size = A at hD ⊢
  have hA : ∀ q : Nat, s.heap.size ≤ q → A q := fun q h => by rw [← hAe]; exact Or.inr h
  have hS : va_S A s.heap s.heap [] := va_S.rf
  have L_outSize := hts (.fieldLink RX12 441 "ProofHouseModel" "outSize" "I") (by decide +kernel)
  have L_out := hts (.fieldLink RX12 47 "ProofHouseModel" "out" "[I") (by decide +kernel)
  have hin : ∀ w ∈ wsX120, w ∈ wsX12_letter := fun w h => List.mem_cons_of_mem _ (List.mem_append_right _ h)
  have hl := lv_entry ([.ref (h0), .int (a)]) (n := 2) (Nat.le_of_ble_eq_true rfl)
  rw [lg_entry_eq]
  generalize (lg_sl ([.ref (h0), .int (a)]) ++ List.replicate (2 - (lg_sl ([.ref (h0), .int (a)])).length) Slot.unset).toArray = ls at hl ⊢
  have hl : lv_has ls 2 [(0, .ref (h0)), (1, .int (a))] := hl
  refine lv_iload_n hx hb dX12_letter_0 rfl (lv_at hl 1 rfl) ?_
  refine lv_if_lt hx hb dX12_letter_1 (tgt := 21) rfl (fun h1 => ?_) (fun h1 => ?_)
  · refine lv_iconst hx hb dX12_letter_21 (v := (-1)) rfl ?_
    exact W.iret (v := (-1)) hx hb hr (fun t ht hW => ⟨⟨(-1), u, rfl, (by refine ⟨rfl, ?_⟩; first | (rw [if_neg (fun h => absurd h1 (Int32.not_lt.mpr h.1))]; done) | (rw [if_neg (fun h => absurd h2 (Int32.not_le.mpr h.2))]; done) | (rw [if_pos ⟨Int32.not_lt.mp h1, Int32.not_le.mp h2⟩, ev3]; done)), by rw [ht]; exact hP, va_K.moved hW.alike hK, hD⟩, hS.F ht⟩) hS.2.2 dX12_letter_22
  · refine lv_iload_n hx hb dX12_letter_4 rfl (lv_at hl 1 rfl) ?_
    refine lv_aload_n hx hb dX12_letter_5 rfl (lv_at hl 0 rfl) ?_
    refine va_get (D := D) (ci := 12) (v := .int (u.1 16)) (C := RX12) (T := TX12) (N := 149) hx hb hts hin hown hK hP 0 mH_0 rfl 16 (by decide) L_outSize (fun _ h9 => h9) mF_16 dX12_letter_6 ?_
    refine lv_icmp_ge hx hb dX12_letter_9 (tgt := 21) rfl (fun h2 => ?_) (fun h2 => ?_)
    · refine lv_iconst hx hb dX12_letter_21 (v := (-1)) rfl ?_
      exact W.iret (v := (-1)) hx hb hr (fun t ht hW => ⟨⟨(-1), u, rfl, (by refine ⟨rfl, ?_⟩; first | (rw [if_neg (fun h => absurd h1 (Int32.not_lt.mpr h.1))]; done) | (rw [if_neg (fun h => absurd h2 (Int32.not_le.mpr h.2))]; done) | (rw [if_pos ⟨Int32.not_lt.mp h1, Int32.not_le.mp h2⟩, ev3]; done)), by rw [ht]; exact hP, va_K.moved hW.alike hK, hD⟩, hS.F ht⟩) hS.2.2 dX12_letter_22
    · refine lv_aload_n hx hb dX12_letter_12 rfl (lv_at hl 0 rfl) ?_
      refine va_get (D := D) (ci := 12) (v := .ref (ad 15)) (C := RX12) (T := TX12) (N := 149) hx hb hts hin hown hK hP 0 mH_0 rfl 15 (by decide) L_out (fun _ h9 => h9) mF_15 dX12_letter_13 ?_
      refine lv_iload_n hx hb dX12_letter_16 rfl (lv_at hl 1 rfl) ?_
      refine va_iald hx hb hK hP 12 11 mG_15 rfl (by rw [hN] at h2; exact ((pk_ix a (n := N) (by omega)).elim (fun h => absurd h h1) (fun h => h.elim (fun h => absurd h h2) (fun ⟨j, hj, e⟩ => e ▸ vp_in_nI (by omega) (by decide))))) dX12_letter_17 ?_
      refine lv_topi (fun v3 ev3 => ?_)
      have ev3 : v3 = (u.2.1 15) (a).toNatClampNeg := ev3
      refine lv_goto hx hb dX12_letter_18 (tgt := 22) rfl ?_
      exact W.iret (v := v3) hx hb hr (fun t ht hW => ⟨⟨v3, u, rfl, (by refine ⟨rfl, ?_⟩; first | (rw [if_neg (fun h => absurd h1 (Int32.not_lt.mpr h.1))]; done) | (rw [if_neg (fun h => absurd h2 (Int32.not_le.mpr h.2))]; done) | (rw [if_pos ⟨Int32.not_lt.mp h1, Int32.not_le.mp h2⟩, ev3]; done)), by rw [ht]; exact hP, va_K.moved hW.alike hK, hD⟩, hS.F ht⟩) hS.2.2 dX12_letter_22

set_option maxHeartbeats 4000000 in
set_option maxRecDepth 100000 in
/-- taken(k) -/
theorem c_m_taken (l : Launch) (D : va_G) (ca : Nat → ClassId) (h0 sz : Nat) (ad : Nat → Nat) (u : mST) (a : Int32) (N : Nat) (hN : u.1 54 = nI N) (hN2 : N ≤ 100) : Met l yX12_taken wsX12_taken pR_0 (va_Pc [.ref (h0), .int (a)] (fun U => U.heap.size = sz ∧ mWd D ca (fun _ => True) h0 ad u U)) (va_Qi (fun (r : Int32) (v : mST) => v = u ∧ r = if 0 ≤ a ∧ a < u.1 54 then u.2.1 55 a.toNatClampNeg else 0) (mWd D ca (va_A (mCl ca h0 ad u) sz) h0 ad) (va_A (mCl ca h0 ad u) sz)) 0 0 (va_A (mCl ca h0 ad u) sz) := by
  refine Met.ofW (cc := cX12_taken) (maxL := 2) (ret := (some .int)) (by decide) rfl ?_
  intro p e s m args below meth c s₁ B hml hv
  obtain ⟨rfl, hsz, hP, hK, hD0⟩ := hv
  have hx := B.exec
  have hb := B.bytes
  have hr := B.returns
  have hts := atoms_spec (ws := wsX12_taken) B.pre
  have hown : s.vm.findClass RX12 = some m.cls := findClass_of_methodNamed B.named
  have hlocks := B.notSynchronized
  subst hsz
  have hD := hD0.self (sz := s.heap.size)
  generalize hAe : va_A (mCl ca h0 ad u) s.heap.size = A at hD ⊢
  have hA : ∀ q : Nat, s.heap.size ≤ q → A q := fun q h => by rw [← hAe]; exact Or.inr h
  have hS : va_S A s.heap s.heap [] := va_S.rf
  have L_taken := hts (.fieldLink RX12 845 "ProofHouseModel" "taken" "I") (by decide +kernel)
  have L_takenSort := hts (.fieldLink RX12 130 "ProofHouseModel" "takenSort" "[I") (by decide +kernel)
  have hin : ∀ w ∈ wsX120, w ∈ wsX12_taken := fun w h => List.mem_cons_of_mem _ (List.mem_append_right _ h)
  have hl := lv_entry ([.ref (h0), .int (a)]) (n := 2) (Nat.le_of_ble_eq_true rfl)
  rw [lg_entry_eq]
  generalize (lg_sl ([.ref (h0), .int (a)]) ++ List.replicate (2 - (lg_sl ([.ref (h0), .int (a)])).length) Slot.unset).toArray = ls at hl ⊢
  have hl : lv_has ls 2 [(0, .ref (h0)), (1, .int (a))] := hl
  refine lv_iload_n hx hb dX12_taken_0 rfl (lv_at hl 1 rfl) ?_
  refine lv_if_lt hx hb dX12_taken_1 (tgt := 21) rfl (fun h1 => ?_) (fun h1 => ?_)
  · refine lv_iconst hx hb dX12_taken_21 (v := 0) rfl ?_
    exact W.iret (v := 0) hx hb hr (fun t ht hW => ⟨⟨0, u, rfl, (by refine ⟨rfl, ?_⟩; first | (rw [if_neg (fun h => absurd h1 (Int32.not_lt.mpr h.1))]; done) | (rw [if_neg (fun h => absurd h2 (Int32.not_le.mpr h.2))]; done) | (rw [if_pos ⟨Int32.not_lt.mp h1, Int32.not_le.mp h2⟩, ev3]; done)), by rw [ht]; exact hP, va_K.moved hW.alike hK, hD⟩, hS.F ht⟩) hS.2.2 dX12_taken_22
  · refine lv_iload_n hx hb dX12_taken_4 rfl (lv_at hl 1 rfl) ?_
    refine lv_aload_n hx hb dX12_taken_5 rfl (lv_at hl 0 rfl) ?_
    refine va_get (D := D) (ci := 12) (v := .int (u.1 54)) (C := RX12) (T := TX12) (N := 149) hx hb hts hin hown hK hP 0 mH_0 rfl 54 (by decide) L_taken (fun _ h9 => h9) mF_54 dX12_taken_6 ?_
    refine lv_icmp_ge hx hb dX12_taken_9 (tgt := 21) rfl (fun h2 => ?_) (fun h2 => ?_)
    · refine lv_iconst hx hb dX12_taken_21 (v := 0) rfl ?_
      exact W.iret (v := 0) hx hb hr (fun t ht hW => ⟨⟨0, u, rfl, (by refine ⟨rfl, ?_⟩; first | (rw [if_neg (fun h => absurd h1 (Int32.not_lt.mpr h.1))]; done) | (rw [if_neg (fun h => absurd h2 (Int32.not_le.mpr h.2))]; done) | (rw [if_pos ⟨Int32.not_lt.mp h1, Int32.not_le.mp h2⟩, ev3]; done)), by rw [ht]; exact hP, va_K.moved hW.alike hK, hD⟩, hS.F ht⟩) hS.2.2 dX12_taken_22
    · refine lv_aload_n hx hb dX12_taken_12 rfl (lv_at hl 0 rfl) ?_
      refine va_get (D := D) (ci := 12) (v := .ref (ad 55)) (C := RX12) (T := TX12) (N := 149) hx hb hts hin hown hK hP 0 mH_0 rfl 55 (by decide) L_takenSort (fun _ h9 => h9) mF_55 dX12_taken_13 ?_
      refine lv_iload_n hx hb dX12_taken_16 rfl (lv_at hl 1 rfl) ?_
      refine va_iald hx hb hK hP 38 37 mG_55 rfl (by rw [hN] at h2; exact ((pk_ix a (n := N) (by omega)).elim (fun h => absurd h h1) (fun h => h.elim (fun h => absurd h h2) (fun ⟨j, hj, e⟩ => e ▸ vp_in_nI (by omega) (by decide))))) dX12_taken_17 ?_
      refine lv_topi (fun v3 ev3 => ?_)
      have ev3 : v3 = (u.2.1 55) (a).toNatClampNeg := ev3
      refine lv_goto hx hb dX12_taken_18 (tgt := 22) rfl ?_
      exact W.iret (v := v3) hx hb hr (fun t ht hW => ⟨⟨v3, u, rfl, (by refine ⟨rfl, ?_⟩; first | (rw [if_neg (fun h => absurd h1 (Int32.not_lt.mpr h.1))]; done) | (rw [if_neg (fun h => absurd h2 (Int32.not_le.mpr h.2))]; done) | (rw [if_pos ⟨Int32.not_lt.mp h1, Int32.not_le.mp h2⟩, ev3]; done)), by rw [ht]; exact hP, va_K.moved hW.alike hK, hD⟩, hS.F ht⟩) hS.2.2 dX12_taken_22
end
section
def wsX12_bad : List Cond := .code yX12_bad cX12_bad 3 none :: ([.fieldLink RX12 377 "ProofHouseModel" "readFault" "I", .fieldLink RX12 59 "ProofHouseModel" "readPlace" "I"] ++ wsX120)
def wsX12_allRulesIn : List Cond := .code yX12_allRulesIn cX12_allRulesIn 2 none :: ([.fieldLink RX12 127 "ProofHouseModel" "ruleOut" "[Z"] ++ wsX120)
def wsX12_end : List Cond := .code yX12_end cX12_end 3 (some .int) :: ([.fieldLink RX12 374 "ProofHouseModel" "textSize" "I", .fieldLink RX12 44 "ProofHouseModel" "text" "[I", .fieldLink RX12 41 "ProofHouseModel" "waiting" "[I"] ++ wsX120)
theorem dX12_bad_0 : decode cX12_bad 0 = .ok (.aload_n 0, 1) := by decide +kernel
theorem dX12_bad_1 : decode cX12_bad 1 = .ok (.getfield 377, 3) := by decide +kernel
theorem dX12_bad_4 : decode cX12_bad 4 = .ok (.ifCond .eq 4, 3) := by decide +kernel
theorem dX12_bad_7 : decode cX12_bad 7 = .ok (.return_, 1) := by decide +kernel
theorem dX12_bad_8 : decode cX12_bad 8 = .ok (.aload_n 0, 1) := by decide +kernel
theorem dX12_bad_9 : decode cX12_bad 9 = .ok (.iload_n 1, 1) := by decide +kernel
theorem dX12_bad_10 : decode cX12_bad 10 = .ok (.putfield 377, 3) := by decide +kernel
theorem dX12_bad_13 : decode cX12_bad 13 = .ok (.aload_n 0, 1) := by decide +kernel
theorem dX12_bad_14 : decode cX12_bad 14 = .ok (.iload_n 2, 1) := by decide +kernel
theorem dX12_bad_15 : decode cX12_bad 15 = .ok (.putfield 59, 3) := by decide +kernel
theorem dX12_bad_18 : decode cX12_bad 18 = .ok (.return_, 1) := by decide +kernel
theorem dX12_allRulesIn_0 : decode cX12_allRulesIn 0 = .ok (.iconst 0, 1) := by decide +kernel
theorem dX12_allRulesIn_1 : decode cX12_allRulesIn 1 = .ok (.istore_n 1, 1) := by decide +kernel
theorem dX12_allRulesIn_2 : decode cX12_allRulesIn 2 = .ok (.iload_n 1, 1) := by decide +kernel
theorem dX12_allRulesIn_3 : decode cX12_allRulesIn 3 = .ok (.bipush 60, 2) := by decide +kernel
theorem dX12_allRulesIn_5 : decode cX12_allRulesIn 5 = .ok (.if_icmp .ge 16, 3) := by decide +kernel
theorem dX12_allRulesIn_8 : decode cX12_allRulesIn 8 = .ok (.aload_n 0, 1) := by decide +kernel
theorem dX12_allRulesIn_9 : decode cX12_allRulesIn 9 = .ok (.getfield 127, 3) := by decide +kernel
theorem dX12_allRulesIn_12 : decode cX12_allRulesIn 12 = .ok (.iload_n 1, 1) := by decide +kernel
theorem dX12_allRulesIn_13 : decode cX12_allRulesIn 13 = .ok (.iconst 0, 1) := by decide +kernel
theorem dX12_allRulesIn_14 : decode cX12_allRulesIn 14 = .ok (.bastore, 1) := by decide +kernel
theorem dX12_allRulesIn_15 : decode cX12_allRulesIn 15 = .ok (.iinc 1 1, 3) := by decide +kernel
theorem dX12_allRulesIn_18 : decode cX12_allRulesIn 18 = .ok (.goto (-16), 3) := by decide +kernel
theorem dX12_allRulesIn_21 : decode cX12_allRulesIn 21 = .ok (.return_, 1) := by decide +kernel
theorem dX12_end_0 : decode cX12_end 0 = .ok (.iload_n 1, 1) := by decide +kernel
theorem dX12_end_1 : decode cX12_end 1 = .ok (.ifCond .lt 21, 3) := by decide +kernel
theorem dX12_end_4 : decode cX12_end 4 = .ok (.iload_n 1, 1) := by decide +kernel
theorem dX12_end_5 : decode cX12_end 5 = .ok (.bipush 20, 2) := by decide +kernel
theorem dX12_end_7 : decode cX12_end 7 = .ok (.if_icmp .gt 15, 3) := by decide +kernel
theorem dX12_end_10 : decode cX12_end 10 = .ok (.aload_n 0, 1) := by decide +kernel
theorem dX12_end_11 : decode cX12_end 11 = .ok (.getfield 374, 3) := by decide +kernel
theorem dX12_end_14 : decode cX12_end 14 = .ok (.iload_n 1, 1) := by decide +kernel
theorem dX12_end_15 : decode cX12_end 15 = .ok (.iadd, 1) := by decide +kernel
theorem dX12_end_16 : decode cX12_end 16 = .ok (.sipush 3000, 3) := by decide +kernel
theorem dX12_end_19 : decode cX12_end 19 = .ok (.if_icmp .le 5, 3) := by decide +kernel
theorem dX12_end_22 : decode cX12_end 22 = .ok (.iconst (-1), 1) := by decide +kernel
theorem dX12_end_23 : decode cX12_end 23 = .ok (.ireturn, 1) := by decide +kernel
theorem dX12_end_24 : decode cX12_end 24 = .ok (.iconst 0, 1) := by decide +kernel
theorem dX12_end_25 : decode cX12_end 25 = .ok (.istore_n 2, 1) := by decide +kernel
theorem dX12_end_26 : decode cX12_end 26 = .ok (.iload_n 2, 1) := by decide +kernel
theorem dX12_end_27 : decode cX12_end 27 = .ok (.iload_n 1, 1) := by decide +kernel
theorem dX12_end_28 : decode cX12_end 28 = .ok (.if_icmp .ge 26, 3) := by decide +kernel
theorem dX12_end_31 : decode cX12_end 31 = .ok (.aload_n 0, 1) := by decide +kernel
theorem dX12_end_32 : decode cX12_end 32 = .ok (.getfield 44, 3) := by decide +kernel
theorem dX12_end_35 : decode cX12_end 35 = .ok (.aload_n 0, 1) := by decide +kernel
theorem dX12_end_36 : decode cX12_end 36 = .ok (.getfield 374, 3) := by decide +kernel
theorem dX12_end_39 : decode cX12_end 39 = .ok (.iload_n 2, 1) := by decide +kernel
theorem dX12_end_40 : decode cX12_end 40 = .ok (.iadd, 1) := by decide +kernel
theorem dX12_end_41 : decode cX12_end 41 = .ok (.aload_n 0, 1) := by decide +kernel
theorem dX12_end_42 : decode cX12_end 42 = .ok (.getfield 41, 3) := by decide +kernel
theorem dX12_end_45 : decode cX12_end 45 = .ok (.iload_n 2, 1) := by decide +kernel
theorem dX12_end_46 : decode cX12_end 46 = .ok (.iaload, 1) := by decide +kernel
theorem dX12_end_47 : decode cX12_end 47 = .ok (.iastore, 1) := by decide +kernel
theorem dX12_end_48 : decode cX12_end 48 = .ok (.iinc 2 1, 3) := by decide +kernel
theorem dX12_end_51 : decode cX12_end 51 = .ok (.goto (-25), 3) := by decide +kernel
theorem dX12_end_54 : decode cX12_end 54 = .ok (.aload_n 0, 1) := by decide +kernel
theorem dX12_end_55 : decode cX12_end 55 = .ok (.dup, 1) := by decide +kernel
theorem dX12_end_56 : decode cX12_end 56 = .ok (.getfield 374, 3) := by decide +kernel
theorem dX12_end_59 : decode cX12_end 59 = .ok (.iload_n 1, 1) := by decide +kernel
theorem dX12_end_60 : decode cX12_end 60 = .ok (.iadd, 1) := by decide +kernel
theorem dX12_end_61 : decode cX12_end 61 = .ok (.putfield 374, 3) := by decide +kernel
theorem dX12_end_64 : decode cX12_end 64 = .ok (.iconst 0, 1) := by decide +kernel
theorem dX12_end_65 : decode cX12_end 65 = .ok (.istore_n 2, 1) := by decide +kernel
theorem dX12_end_66 : decode cX12_end 66 = .ok (.iload_n 2, 1) := by decide +kernel
theorem dX12_end_67 : decode cX12_end 67 = .ok (.bipush 20, 2) := by decide +kernel
theorem dX12_end_69 : decode cX12_end 69 = .ok (.if_icmp .ge 16, 3) := by decide +kernel
theorem dX12_end_72 : decode cX12_end 72 = .ok (.aload_n 0, 1) := by decide +kernel
theorem dX12_end_73 : decode cX12_end 73 = .ok (.getfield 41, 3) := by decide +kernel
theorem dX12_end_76 : decode cX12_end 76 = .ok (.iload_n 2, 1) := by decide +kernel
theorem dX12_end_77 : decode cX12_end 77 = .ok (.iconst 0, 1) := by decide +kernel
theorem dX12_end_78 : decode cX12_end 78 = .ok (.iastore, 1) := by decide +kernel
theorem dX12_end_79 : decode cX12_end 79 = .ok (.iinc 2 1, 3) := by decide +kernel
theorem dX12_end_82 : decode cX12_end 82 = .ok (.goto (-16), 3) := by decide +kernel
theorem dX12_end_85 : decode cX12_end 85 = .ok (.aload_n 0, 1) := by decide +kernel
theorem dX12_end_86 : decode cX12_end 86 = .ok (.getfield 374, 3) := by decide +kernel
theorem dX12_end_89 : decode cX12_end 89 = .ok (.ireturn, 1) := by decide +kernel

set_option maxHeartbeats 4000000 in
set_option maxRecDepth 100000 in
/-- allRulesIn() -/
theorem c_m_allRulesIn (l : Launch) (D : va_G) (ca : Nat → ClassId) (h0 sz : Nat) (ad : Nat → Nat) (u : mST)    : Met l yX12_allRulesIn wsX12_allRulesIn pR_0 (va_Pc [.ref (h0)] (fun U => U.heap.size = sz ∧ mWd D ca (fun _ => True) h0 ad u U)) (va_Qv (fun v : mST => v.1 = u.1 ∧ (∀ h : Nat, h < 60 → v.2.1 53 h = 0) ∧ (∀ g : Nat, g ≠ 53 → v.2.1 g = u.2.1 g) ∧ v.2.2 = u.2.2) (mWd D ca (va_A (mCl ca h0 ad u) sz) h0 ad) (va_A (mCl ca h0 ad u) sz)) 0 0 (va_A (mCl ca h0 ad u) sz) := by
  refine Met.ofW (cc := cX12_allRulesIn) (maxL := 2) (ret := none) (by decide) rfl ?_
  intro p e s m args below meth c s₁ B hml hv
  obtain ⟨rfl, hsz, hP, hK, hD0⟩ := hv
  have hx := B.exec
  have hb := B.bytes
  have hr := B.returns
  have hts := atoms_spec (ws := wsX12_allRulesIn) B.pre
  have hown : s.vm.findClass RX12 = some m.cls := findClass_of_methodNamed B.named
  have hlocks := B.notSynchronized
  subst hsz
  have hD := hD0.self (sz := s.heap.size)
  generalize hAe : va_A (mCl ca h0 ad u) s.heap.size = A at hD ⊢
  have hA : ∀ q : Nat, s.heap.size ≤ q → A q := fun q h => by rw [← hAe]; exact Or.inr h
  have hS : va_S A s.heap s.heap [] := va_S.rf
  have L_ruleOut := hts (.fieldLink RX12 127 "ProofHouseModel" "ruleOut" "[Z") (by decide +kernel)
  have hin : ∀ w ∈ wsX120, w ∈ wsX12_allRulesIn := fun w h => List.mem_cons_of_mem _ (List.mem_append_right _ h)
  have hl := lv_entry ([.ref (h0)]) (n := 2) (Nat.le_of_ble_eq_true rfl)
  rw [lg_entry_eq]
  generalize (lg_sl ([.ref (h0)]) ++ List.replicate (2 - (lg_sl ([.ref (h0)])).length) Slot.unset).toArray = ls at hl ⊢
  have hl : lv_has ls 2 [(0, .ref (h0))] := hl
  refine lv_iconst hx hb dX12_allRulesIn_0 (v := 0) rfl ?_
  refine lv_istore_n hx hb dX12_allRulesIn_1 rfl hl (by decide) rfl (fun ls hl => ?_)
  have hl : lv_has ls 2 [(1, .int (0)), (0, .ref (h0))] := hl
  refine w_loopS (nL := 2) (sta := fun q : mST × Nat => q.1) (lst := fun q : mST × Nat => [(1, .int (nI q.2)), (0, .ref h0)]) (μ := fun q => 60 - q.2) (I := fun q => q.2 ≤ 60 ∧ q.1.1 = u.1 ∧ (∀ h : Nat, h < q.2 → q.1.2.1 53 h = 0) ∧ (∀ g : Nat, g ≠ 53 → q.1.2.1 g = u.2.1 g) ∧ q.1.2.2 = u.2.2) ?_ (u, 0) ls ⟨Nat.zero_le _, rfl, fun h hh => absurd hh (Nat.not_lt_zero _), fun _ _ => rfl, rfl⟩ hP hD hS hl
  clear hP hD hS hl
  intro q H locs ls hI hP hD hS hl ih
  obtain ⟨w, j⟩ := q
  obtain ⟨hI1, hI2, hI3, hI4, hI5⟩ := hI
  dsimp only at hI1 hI2 hI3 hI4 hI5 hP hD
  have hl : lv_has ls 2 [(1, .int (nI j)), (0, .ref (h0))] := hl
  refine lv_iload_n hx hb dX12_allRulesIn_2 rfl (lv_at hl 0 rfl) ?_
  refine lv_bipush hx hb dX12_allRulesIn_3 (v := 60) rfl ?_
  refine lv_icmp_ge hx hb dX12_allRulesIn_5 (tgt := 21) rfl (fun h1 => ?_) (fun h1 => ?_)
  · have hj : j = 60 := by
      rcases Nat.lt_or_ge j 60 with h | h
      · exact absurd h1 (nI_ge h (by decide))
      · omega
    subst hj
    exact W.vret hx hb hr (fun t ht hW => ⟨⟨w, rfl, ⟨hI2, hI3, hI4, hI5⟩, by rw [ht]; exact hP, va_K.moved hW.alike hK, hD⟩, hS.F ht⟩) hS.2.2 dX12_allRulesIn_21
  · have hj : j < 60 := by
      rcases Nat.lt_or_ge j 60 with h | h
      · exact h
      · exact absurd (nI_le h (by omega)) h1
    refine lv_aload_n hx hb dX12_allRulesIn_8 rfl (lv_at hl 1 rfl) ?_
    refine va_get (D := D) (ci := 12) (v := .ref (ad 53)) (C := RX12) (T := TX12) (N := 149) hx hb hts hin hown hK hP 0 mH_0 rfl 53 (by decide) L_ruleOut (fun _ h9 => h9) mF_53 dX12_allRulesIn_9 ?_
    refine lv_iload_n hx hb dX12_allRulesIn_12 rfl (lv_at hl 0 rfl) ?_
    refine lv_iconst hx hb dX12_allRulesIn_13 (v := 0) rfl ?_
    refine va_zast hx hb hK hP hD hS 37 36 mG_53 rfl (vp_in_nI hj (by decide)) dX12_allRulesIn_14 (fun H locs hP hD hS => ?_)
    rw [mSA_53] at hP hD
    refine lv_iinc (v := nI j + 1) hx hb dX12_allRulesIn_15 hl (k := 0) rfl rfl (by decide) rfl (fun ls hl => ?_)
    have hl : lv_has ls 2 [(1, .int (nI j + 1)), (0, .ref (h0))] := hl
    refine lv_goto hx hb dX12_allRulesIn_18 (tgt := 2) rfl ?_
    refine ih (mA w 53 (nI j).toNatClampNeg (vp_nar .boolean (0)), j + 1) H locs ls ⟨by show j + 1 ≤ 60; omega, hI2, ?_, fun g h1 => (mA_n w _ _ h1).trans (hI4 g h1), hI5⟩ (by show 60 - (j + 1) < 60 - j; omega) hP hD hS (by rw [nI_1] at hl; exact hl)
    intro h hh
    show (mA w 53 (nI j).toNatClampNeg (vp_nar .boolean 0)).2.1 53 h = 0
    rw [mA_s, nI_clamp (by omega)]
    by_cases e : h = j
    · rw [e, pk_us]; rfl
    · rw [pk_un e]; exact hI3 h (by have : h < j + 1 := hh; omega)

set_option maxHeartbeats 4000000 in
set_option maxRecDepth 100000 in
/-- bad(fault, where) -/
theorem c_m_bad (l : Launch) (D : va_G) (ca : Nat → ClassId) (h0 sz : Nat) (ad : Nat → Nat) (u : mST) (a : Int32) (b : Int32)   : Met l yX12_bad wsX12_bad pR_0 (va_Pc [.ref (h0), .int (a), .int (b)] (fun U => U.heap.size = sz ∧ mWd D ca (fun _ => True) h0 ad u U)) (va_Qv (fun v : mST => v = if u.1 24 = 0 then mI (mI u 24 a) 25 b else u) (mWd D ca (va_A (mCl ca h0 ad u) sz) h0 ad) (va_A (mCl ca h0 ad u) sz)) 0 0 (va_A (mCl ca h0 ad u) sz) := by
  refine Met.ofW (cc := cX12_bad) (maxL := 3) (ret := none) (by decide) rfl ?_
  intro p e s m args below meth c s₁ B hml hv
  obtain ⟨rfl, hsz, hP, hK, hD0⟩ := hv
  have hx := B.exec
  have hb := B.bytes
  have hr := B.returns
  have hts := atoms_spec (ws := wsX12_bad) B.pre
  have hown : s.vm.findClass RX12 = some m.cls := findClass_of_methodNamed B.named
  have hlocks := B.notSynchronized
  subst hsz
  have hD := hD0.self (sz := s.heap.size)
  generalize hAe : va_A (mCl ca h0 ad u) s.heap.size = A at hD ⊢
  have hA : ∀ q : Nat, s.heap.size ≤ q → A q := fun q h => by rw [← hAe]; exact Or.inr h
  have hS : va_S A s.heap s.heap [] := va_S.rf
  have L_readFault := hts (.fieldLink RX12 377 "ProofHouseModel" "readFault" "I") (by decide +kernel)
  have L_readPlace := hts (.fieldLink RX12 59 "ProofHouseModel" "readPlace" "I") (by decide +kernel)
  have hin : ∀ w ∈ wsX120, w ∈ wsX12_bad := fun w h => List.mem_cons_of_mem _ (List.mem_append_right _ h)
  have hl := lv_entry ([.ref (h0), .int (a), .int (b)]) (n := 3) (Nat.le_of_ble_eq_true rfl)
  rw [lg_entry_eq]
  generalize (lg_sl ([.ref (h0), .int (a), .int (b)]) ++ List.replicate (3 - (lg_sl ([.ref (h0), .int (a), .int (b)])).length) Slot.unset).toArray = ls at hl ⊢
  have hl : lv_has ls 3 [(0, .ref (h0)), (1, .int (a)), (2, .int (b))] := hl
  refine lv_aload_n hx hb dX12_bad_0 rfl (lv_at hl 0 rfl) ?_
  refine va_get (D := D) (ci := 12) (v := .int (u.1 24)) (C := RX12) (T := TX12) (N := 149) hx hb hts hin hown hK hP 0 mH_0 rfl 24 (by decide) L_readFault (fun _ h9 => h9) mF_24 dX12_bad_1 ?_
  refine lv_if_eq hx hb dX12_bad_4 (tgt := 8) rfl (fun h1 => ?_) (fun h1 => ?_)
  · refine lv_aload_n hx hb dX12_bad_8 rfl (lv_at hl 0 rfl) ?_
    refine lv_iload_n hx hb dX12_bad_9 rfl (lv_at hl 1 rfl) ?_
    refine va_put (D := D) (ci := 12) (v := .int (a)) (ty := .int) (C := RX12) (T := TX12) (N := 149) hx hb hts hin tyX12 tyX12_ok nmX12 hown hK hP hD hS 0 mH_0 rfl 24 (by decide) L_readFault (fun _ h9 => h9) rfl (tyX12_ok 24 (by decide)) rfl rfl (Nat.le_of_ble_eq_true rfl) dX12_bad_10 (fun H locs hP hD hS => ?_)
    rw [mSI_24] at hP hD
    refine lv_aload_n hx hb dX12_bad_13 rfl (lv_at hl 0 rfl) ?_
    refine lv_iload_n hx hb dX12_bad_14 rfl (lv_at hl 2 rfl) ?_
    refine va_put (D := D) (ci := 12) (v := .int (b)) (ty := .int) (C := RX12) (T := TX12) (N := 149) hx hb hts hin tyX12 tyX12_ok nmX12 hown hK hP hD hS 0 mH_0 rfl 25 (by decide) L_readPlace (fun _ h9 => h9) rfl (tyX12_ok 25 (by decide)) rfl rfl (Nat.le_of_ble_eq_true rfl) dX12_bad_15 (fun H locs hP hD hS => ?_)
    rw [mSI_25] at hP hD
    exact W.vret hx hb hr (fun t ht hW => ⟨⟨mI (mI u 24 (a)) 25 (b), rfl, (if_pos h1).symm, by rw [ht]; exact hP, va_K.moved hW.alike hK, hD⟩, hS.F ht⟩) hS.2.2 dX12_bad_18
  · exact W.vret hx hb hr (fun t ht hW => ⟨⟨u, rfl, (if_neg h1).symm, by rw [ht]; exact hP, va_K.moved hW.alike hK, hD⟩, hS.F ht⟩) hS.2.2 dX12_bad_7

/-- what end(K) makes of T characters -/
def mEnd (T K : Nat) (u v : mST) : Prop := v.1 = va_up u.1 14 (nI (T + K)) ∧ v.2.2 = u.2.2 ∧ (∀ g : Nat, g ≠ 13 → g ≠ 12 → v.2.1 g = u.2.1 g) ∧ (∀ i : Nat, v.2.1 13 i = if T ≤ i ∧ i < T + K then u.2.1 12 (i - T) else u.2.1 13 i) ∧ (∀ i : Nat, i < 20 → v.2.1 12 i = 0)

set_option maxHeartbeats 4000000 in
set_option maxRecDepth 100000 in
/-- end(n) -/
theorem c_m_end (l : Launch) (D : va_G) (ca : Nat → ClassId) (h0 sz : Nat) (ad : Nat → Nat) (u : mST) (a : Int32) (T : Nat) (hT : u.1 14 = nI T) (hT9 : T ≤ 3000) : Met l yX12_end wsX12_end pR_0 (va_Pc [.ref (h0), .int (a)] (fun U => U.heap.size = sz ∧ mWd D ca (fun _ => True) h0 ad u U)) (va_Qi (fun (r : Int32) (v : mST) => ((a < 0 ∨ 20 < a ∨ 3000 < u.1 14 + a) ∧ r = -1 ∧ v = u) ∨ ∃ K : Nat, a = nI K ∧ K ≤ 20 ∧ T + K ≤ 3000 ∧ r = nI (T + K) ∧ mEnd T K u v) (mWd D ca (va_A (mCl ca h0 ad u) sz) h0 ad) (va_A (mCl ca h0 ad u) sz)) 0 0 (va_A (mCl ca h0 ad u) sz) := by
  refine Met.ofW (cc := cX12_end) (maxL := 3) (ret := (some .int)) (by decide) rfl ?_
  intro p e s m args below meth c s₁ B hml hv
  obtain ⟨rfl, hsz, hP, hK, hD0⟩ := hv
  have hx := B.exec
  have hb := B.bytes
  have hr := B.returns
  have hts := atoms_spec (ws := wsX12_end) B.pre
  have hown : s.vm.findClass RX12 = some m.cls := findClass_of_methodNamed B.named
  have hlocks := B.notSynchronized
  subst hsz
  have hD := hD0.self (sz := s.heap.size)
  generalize hAe : va_A (mCl ca h0 ad u) s.heap.size = A at hD ⊢
  have hA : ∀ q : Nat, s.heap.size ≤ q → A q := fun q h => by rw [← hAe]; exact Or.inr h
  have hS : va_S A s.heap s.heap [] := va_S.rf
  have L_textSize := hts (.fieldLink RX12 374 "ProofHouseModel" "textSize" "I") (by decide +kernel)
  have L_text := hts (.fieldLink RX12 44 "ProofHouseModel" "text" "[I") (by decide +kernel)
  have L_waiting := hts (.fieldLink RX12 41 "ProofHouseModel" "waiting" "[I") (by decide +kernel)
  have hin : ∀ w ∈ wsX120, w ∈ wsX12_end := fun w h => List.mem_cons_of_mem _ (List.mem_append_right _ h)
  have hl := lv_entry ([.ref (h0), .int (a)]) (n := 3) (Nat.le_of_ble_eq_true rfl)
  rw [lg_entry_eq]
  generalize (lg_sl ([.ref (h0), .int (a)]) ++ List.replicate (3 - (lg_sl ([.ref (h0), .int (a)])).length) Slot.unset).toArray = ls at hl ⊢
  have hl : lv_has ls 3 [(0, .ref (h0)), (1, .int (a))] := hl
  refine lv_iload_n hx hb dX12_end_0 rfl (lv_at hl 1 rfl) ?_
  refine lv_if_lt hx hb dX12_end_1 (tgt := 22) rfl (fun h1 => ?_) (fun h1 => ?_)
  · refine lv_iconst hx hb dX12_end_22 (v := (-1)) rfl ?_
    exact W.iret (v := (-1)) hx hb hr (fun t ht hW => ⟨⟨(-1), u, rfl, (Or.inl ⟨by first | exact Or.inl h1 | exact Or.inr (Or.inl h2) | exact Or.inr (Or.inr (Int32.not_le.mp h3)), rfl, rfl⟩), by rw [ht]; exact hP, va_K.moved hW.alike hK, hD⟩, hS.F ht⟩) hS.2.2 dX12_end_23
  · refine lv_iload_n hx hb dX12_end_4 rfl (lv_at hl 1 rfl) ?_
    refine lv_bipush hx hb dX12_end_5 (v := 20) rfl ?_
    refine lv_icmp_gt hx hb dX12_end_7 (tgt := 22) rfl (fun h2 => ?_) (fun h2 => ?_)
    · refine lv_iconst hx hb dX12_end_22 (v := (-1)) rfl ?_
      exact W.iret (v := (-1)) hx hb hr (fun t ht hW => ⟨⟨(-1), u, rfl, (Or.inl ⟨by first | exact Or.inl h1 | exact Or.inr (Or.inl h2) | exact Or.inr (Or.inr (Int32.not_le.mp h3)), rfl, rfl⟩), by rw [ht]; exact hP, va_K.moved hW.alike hK, hD⟩, hS.F ht⟩) hS.2.2 dX12_end_23
    · refine lv_aload_n hx hb dX12_end_10 rfl (lv_at hl 0 rfl) ?_
      refine va_get (D := D) (ci := 12) (v := .int (u.1 14)) (C := RX12) (T := TX12) (N := 149) hx hb hts hin hown hK hP 0 mH_0 rfl 14 (by decide) L_textSize (fun _ h9 => h9) mF_14 dX12_end_11 ?_
      refine lv_iload_n hx hb dX12_end_14 rfl (lv_at hl 1 rfl) ?_
      refine lv_iadd hx hb dX12_end_15 ?_
      refine lv_sipush hx hb dX12_end_16 (v := 3000) rfl ?_
      refine lv_icmp_le hx hb dX12_end_19 (tgt := 24) rfl (fun h3 => ?_) (fun h3 => ?_)
      · refine lv_iconst hx hb dX12_end_24 (v := 0) rfl ?_
        refine lv_istore_n hx hb dX12_end_25 rfl hl (by decide) rfl (fun ls hl => ?_)
        have hl : lv_has ls 3 [(2, .int (0)), (0, .ref (h0)), (1, .int (a))] := hl
        obtain ⟨K, hK1, hK2⟩ : ∃ K : Nat, K ≤ 20 ∧ a = nI K := nI_of2 (M := 20) (n := 20) (by decide) h1 (Int32.not_lt.mp h2)
        subst hK2
        have hTK : T + K ≤ 3000 := by
          have h := h3
          rw [hT, nI_add] at h
          exact (nI_leI (by omega) (by decide : (3000 : Nat) < 2 ^ 31)).mp h
        refine w_loopS (nL := 3) (sta := fun q : mST × Nat => q.1) (lst := fun q : mST × Nat => [(2, .int (nI q.2)), (0, .ref h0), (1, .int (nI K))]) (μ := fun q => K - q.2) (I := fun q => q.2 ≤ K ∧ q.1.1 = u.1 ∧ q.1.2.2 = u.2.2 ∧ (∀ g : Nat, g ≠ 13 → q.1.2.1 g = u.2.1 g) ∧ (∀ i : Nat, q.1.2.1 13 i = if T ≤ i ∧ i < T + q.2 then u.2.1 12 (i - T) else u.2.1 13 i)) ?_ (u, 0) ls ⟨Nat.zero_le _, rfl, rfl, fun _ _ => rfl, fun i => (if_neg (by omega)).symm⟩ hP hD hS hl
        clear hP hD hS hl
        intro q H locs ls hI hP hD hS hl ih
        obtain ⟨w, j⟩ := q
        obtain ⟨hI1, hI2, hI3, hI4, hI5⟩ := hI
        dsimp only at hI1 hI2 hI3 hI4 hI5 hP hD
        have hT2 : w.1 14 = nI T := by rw [hI2]; exact hT
        have hl : lv_has ls 3 [(2, .int (nI j)), (0, .ref (h0)), (1, .int (nI K))] := hl
        refine lv_iload_n hx hb dX12_end_26 rfl (lv_at hl 0 rfl) ?_
        refine lv_iload_n hx hb dX12_end_27 rfl (lv_at hl 2 rfl) ?_
        refine lv_icmp_ge hx hb dX12_end_28 (tgt := 54) rfl (fun h4 => ?_) (fun h4 => ?_)
        · have hj : j = K := by
            rcases Nat.lt_or_ge j K with h | h
            · exact absurd h4 (nI_ge h (by omega))
            · omega
          subst hj
          have hl : lv_has ls 3 [(2, .int (nI j)), (0, .ref (h0)), (1, .int (nI j))] := hl
          refine lv_aload_n hx hb dX12_end_54 rfl (lv_at hl 1 rfl) ?_
          refine lv_dup hx hb dX12_end_55 rfl ?_
          refine va_get (D := D) (ci := 12) (v := .int (w.1 14)) (C := RX12) (T := TX12) (N := 149) hx hb hts hin hown hK hP 0 mH_0 rfl 14 (by decide) L_textSize (fun _ h9 => h9) mF_14 dX12_end_56 ?_
          refine lv_iload_n hx hb dX12_end_59 rfl (lv_at hl 2 rfl) ?_
          refine lv_iadd hx hb dX12_end_60 ?_
          refine va_put (D := D) (ci := 12) (v := .int ((w.1 14) + (nI j))) (ty := .int) (C := RX12) (T := TX12) (N := 149) hx hb hts hin tyX12 tyX12_ok nmX12 hown hK hP hD hS 0 mH_0 rfl 14 (by decide) L_textSize (fun _ h9 => h9) rfl (tyX12_ok 14 (by decide)) rfl rfl (Nat.le_of_ble_eq_true rfl) dX12_end_61 (fun H locs hP hD hS => ?_)
          rw [mSI_14] at hP hD
          refine lv_iconst hx hb dX12_end_64 (v := 0) rfl ?_
          refine lv_istore_n hx hb dX12_end_65 rfl hl (by decide) rfl (fun ls hl => ?_)
          have hl : lv_has ls 3 [(2, .int (0)), (0, .ref (h0)), (1, .int (nI j))] := hl
          refine w_loopS (nL := 3) (sta := fun q : mST × Nat => q.1) (lst := fun q : mST × Nat => [(2, .int (nI q.2)), (0, .ref h0), (1, .int (nI j))]) (μ := fun q => 20 - q.2) (I := fun q => q.2 ≤ 20 ∧ q.1.1 = (mI w 14 ((w.1 14) + (nI j))).1 ∧ q.1.2.2 = u.2.2 ∧ (∀ g : Nat, g ≠ 12 → q.1.2.1 g = w.2.1 g) ∧ (∀ i : Nat, i < q.2 → q.1.2.1 12 i = 0)) ?_ (mI w 14 ((w.1 14) + (nI j)), 0) ls ⟨Nat.zero_le _, rfl, hI3, fun _ _ => rfl, fun h hh => absurd hh (Nat.not_lt_zero _)⟩ hP hD hS hl
          clear hP hD hS hl ih
          intro q H locs ls hJ hP hD hS hl ih
          obtain ⟨x, i⟩ := q
          obtain ⟨hJ1, hJ2, hJ3, hJ4, hJ5⟩ := hJ
          dsimp only at hJ1 hJ2 hJ3 hJ4 hJ5 hP hD
          have hl : lv_has ls 3 [(2, .int (nI i)), (0, .ref (h0)), (1, .int (nI j))] := hl
          refine lv_iload_n hx hb dX12_end_66 rfl (lv_at hl 0 rfl) ?_
          refine lv_bipush hx hb dX12_end_67 (v := 20) rfl ?_
          refine lv_icmp_ge hx hb dX12_end_69 (tgt := 85) rfl (fun h5 => ?_) (fun h5 => ?_)
          · have hi : i = 20 := by
              rcases Nat.lt_or_ge i 20 with h | h
              · exact absurd h5 (nI_ge h (by decide))
              · omega
            subst hi
            have hx1 : x.1 = va_up u.1 14 (nI (T + j)) := by rw [hJ2]; show va_up w.1 14 (w.1 14 + nI j) = _; rw [hT2, nI_add, hI2]
            have hx2 : x.1 14 = nI (T + j) := by rw [hx1]; rfl
            refine lv_aload_n hx hb dX12_end_85 rfl (lv_at hl 1 rfl) ?_
            refine va_get (D := D) (ci := 12) (v := .int (x.1 14)) (C := RX12) (T := TX12) (N := 149) hx hb hts hin hown hK hP 0 mH_0 rfl 14 (by decide) L_textSize (fun _ h9 => h9) mF_14 dX12_end_86 ?_
            exact W.iret (v := x.1 14) hx hb hr (fun t ht hW => ⟨⟨x.1 14, x, rfl, (Or.inr ⟨j, rfl, hK1, hTK, hx2, hx1, hJ3, fun g h1 h2 => (hJ4 g h2).trans (hI4 g h1), fun i => (congrFun (hJ4 13 (by decide)) i).trans (hI5 i), hJ5⟩), by rw [ht]; exact hP, va_K.moved hW.alike hK, hD⟩, hS.F ht⟩) hS.2.2 dX12_end_89
          · have hi : i < 20 := by
              rcases Nat.lt_or_ge i 20 with h | h
              · exact h
              · exact absurd (nI_le h (by omega)) h5
            refine lv_aload_n hx hb dX12_end_72 rfl (lv_at hl 1 rfl) ?_
            refine va_get (D := D) (ci := 12) (v := .ref (ad 12)) (C := RX12) (T := TX12) (N := 149) hx hb hts hin hown hK hP 0 mH_0 rfl 12 (by decide) L_waiting (fun _ h9 => h9) mF_12 dX12_end_73 ?_
            refine lv_iload_n hx hb dX12_end_76 rfl (lv_at hl 0 rfl) ?_
            refine lv_iconst hx hb dX12_end_77 (v := 0) rfl ?_
            refine va_iast hx hb hK hP hD hS 10 9 mG_12 rfl (vp_in_nI hi (by decide)) dX12_end_78 (fun H locs hP hD hS => ?_)
            rw [mSA_12] at hP hD
            refine lv_iinc (v := nI i + 1) hx hb dX12_end_79 hl (k := 0) rfl rfl (by decide) rfl (fun ls hl => ?_)
            have hl : lv_has ls 3 [(2, .int (nI i + 1)), (0, .ref (h0)), (1, .int (nI j))] := hl
            refine lv_goto hx hb dX12_end_82 (tgt := 66) rfl ?_
            refine ih (mA x 12 (nI i).toNatClampNeg (0), i + 1) H locs ls ⟨by show i + 1 ≤ 20; omega, hJ2, hJ3, fun g h1 => (mA_n x _ _ h1).trans (hJ4 g h1), ?_⟩ (by show 20 - (i + 1) < 20 - i; omega) hP hD hS (by rw [nI_1] at hl; exact hl)
            intro h hh
            show (mA x 12 (nI i).toNatClampNeg (0)).2.1 12 h = 0
            rw [mA_s, nI_clamp (by omega)]
            by_cases e : h = i
            · rw [e, pk_us]
            · rw [pk_un e]; exact hJ5 h (by have : h < i + 1 := hh; omega)
        · have hj : j < K := by
            rcases Nat.lt_or_ge j K with h | h
            · exact h
            · exact absurd (nI_le h (by omega)) h4
          refine lv_aload_n hx hb dX12_end_31 rfl (lv_at hl 1 rfl) ?_
          refine va_get (D := D) (ci := 12) (v := .ref (ad 13)) (C := RX12) (T := TX12) (N := 149) hx hb hts hin hown hK hP 0 mH_0 rfl 13 (by decide) L_text (fun _ h9 => h9) mF_13 dX12_end_32 ?_
          refine lv_aload_n hx hb dX12_end_35 rfl (lv_at hl 1 rfl) ?_
          refine va_get (D := D) (ci := 12) (v := .int (w.1 14)) (C := RX12) (T := TX12) (N := 149) hx hb hts hin hown hK hP 0 mH_0 rfl 14 (by decide) L_textSize (fun _ h9 => h9) mF_14 dX12_end_36 ?_
          refine lv_iload_n hx hb dX12_end_39 rfl (lv_at hl 0 rfl) ?_
          refine lv_iadd hx hb dX12_end_40 ?_
          refine lv_aload_n hx hb dX12_end_41 rfl (lv_at hl 1 rfl) ?_
          refine va_get (D := D) (ci := 12) (v := .ref (ad 12)) (C := RX12) (T := TX12) (N := 149) hx hb hts hin hown hK hP 0 mH_0 rfl 12 (by decide) L_waiting (fun _ h9 => h9) mF_12 dX12_end_42 ?_
          refine lv_iload_n hx hb dX12_end_45 rfl (lv_at hl 0 rfl) ?_
          refine va_iald hx hb hK hP 10 9 mG_12 rfl (vp_in_nI (by omega) (by decide)) dX12_end_46 ?_
          refine lv_topi (fun v6 ev6 => ?_)
          have ev6 : v6 = (w.2.1 12) (nI j).toNatClampNeg := ev6
          refine va_iast hx hb hK hP hD hS 11 10 mG_13 rfl (by rw [hT2, nI_add]; exact vp_in_nI (by omega) (by decide)) dX12_end_47 (fun H locs hP hD hS => ?_)
          rw [mSA_13] at hP hD
          refine lv_iinc (v := nI j + 1) hx hb dX12_end_48 hl (k := 0) rfl rfl (by decide) rfl (fun ls hl => ?_)
          have hl : lv_has ls 3 [(2, .int (nI j + 1)), (0, .ref (h0)), (1, .int (nI K))] := hl
          refine lv_goto hx hb dX12_end_51 (tgt := 26) rfl ?_
          refine ih (mA w 13 ((w.1 14) + (nI j)).toNatClampNeg (v6), j + 1) H locs ls ⟨by show j + 1 ≤ K; omega, hI2, hI3, fun g h1 => (mA_n w _ _ h1).trans (hI4 g h1), ?_⟩ (by show K - (j + 1) < K - j; omega) hP hD hS (by rw [nI_1] at hl; exact hl)
          intro i
          show (mA w 13 ((w.1 14) + (nI j)).toNatClampNeg (v6)).2.1 13 i = if T ≤ i ∧ i < T + (j + 1) then u.2.1 12 (i - T) else u.2.1 13 i
          rw [mA_s, hT2, nI_add, nI_clamp (by omega)]
          by_cases e : i = T + j
          · rw [e, pk_us, if_pos (by omega), ev6, nI_clamp (by omega), hI4 12 (by decide), Nat.add_sub_cancel_left]
          · rw [pk_un e, hI5 i]
            by_cases h : T ≤ i ∧ i < T + j
            · rw [if_pos h, if_pos (by omega)]
            · rw [if_neg h, if_neg (by omega)]
      · refine lv_iconst hx hb dX12_end_22 (v := (-1)) rfl ?_
        exact W.iret (v := (-1)) hx hb hr (fun t ht hW => ⟨⟨(-1), u, rfl, (Or.inl ⟨by first | exact Or.inl h1 | exact Or.inr (Or.inl h2) | exact Or.inr (Or.inr (Int32.not_le.mp h3)), rfl, rfl⟩), by rw [ht]; exact hP, va_K.moved hW.alike hK, hD⟩, hS.F ht⟩) hS.2.2 dX12_end_23
end
section
def wsX12_forget_r1 : List Cond := [Cond.fieldLink RX12 332 "ProofHouseModel" "objects" "I", Cond.fieldLink RX12 31 "ProofHouseModel" "heads" "[I", Cond.fieldLink RX12 17 "ProofHouseModel" "next" "[I", Cond.fieldLink RX12 8 "ProofHouseModel" "left" "[I", Cond.fieldLink RX12 346 "ProofHouseModel" "symbols" "I", Cond.fieldLink RX12 339 "ProofHouseModel" "naturals" "I", Cond.methodLink RX12 349 yX12_slotOf, Cond.instanceMethod yX12_slotOf, Cond.selects RX12 yX12_slotOf yX12_slotOf, Cond.initialized RX12, Cond.code yX12_slotOf cX12_slotOf 2 (some .int), Cond.fieldLink RX12 14 "ProofHouseModel" "right" "[I", Cond.fieldLink RX12 38 "ProofHouseModel" "lengths" "[I", Cond.methodLink RX12 321 yX12_value, Cond.instanceMethod yX12_value, Cond.selects RX12 yX12_value yX12_value, Cond.code yX12_value cX12_value 2 (some .long), Cond.fieldLink RX12 27 "ProofHouseModel" "number" "[J", Cond.methodLink RX12 324 yX12_slot, Cond.static yX12_slot, Cond.code yX12_slot cX12_slot 2 (some .int), Cond.constant RX12 320 (40503), Cond.methodLink RX12 328 yX12_spelled, Cond.instanceMethod yX12_spelled]
def wsX12_forget_r2 : List Cond := [Cond.selects RX12 yX12_spelled yX12_spelled, Cond.code yX12_spelled cX12_spelled 6 (some .int), Cond.fieldLink RX12 50 "ProofHouseModel" "word" "[I", Cond.fieldLink RX12 35 "ProofHouseModel" "names" "[I"]
def wsX12_forget : List Cond := .code yX12_forget cX12_forget 2 none :: ((wsX12_forget_r1 ++ wsX12_forget_r2) ++ wsX120)
def wsX12_skip : List Cond := .code yX12_skip cX12_skip 2 none :: ([.fieldLink RX12 371 "ProofHouseModel" "at" "I", .fieldLink RX12 374 "ProofHouseModel" "textSize" "I", .fieldLink RX12 44 "ProofHouseModel" "text" "[I"] ++ wsX120)
def wsX12_feed : List Cond := .code yX12_feed cX12_feed 7 none :: ([.fieldLink RX12 41 "ProofHouseModel" "waiting" "[I"] ++ wsX120)
def wsX12_count : List Cond := .code yX12_count cX12_count 5 (some .int) :: ([.fieldLink RX12 699 "ProofHouseModel" "theorems" "I", .fieldLink RX12 106 "ProofHouseModel" "ruleLeft" "[I", .fieldLink RX12 124 "ProofHouseModel" "ruleOn" "[Z", .fieldLink RX12 474 "ProofHouseModel" "defs" "I", .fieldLink RX12 751 "ProofHouseModel" "leftMany" "I"] ++ wsX120)
def wsX12_tell_r1 : List Cond := [Cond.fieldLink RX12 845 "ProofHouseModel" "taken" "I", Cond.fieldLink RX12 332 "ProofHouseModel" "objects" "I", Cond.fieldLink RX12 130 "ProofHouseModel" "takenSort" "[I", Cond.fieldLink RX12 81 "ProofHouseModel" "defMany" "[I", Cond.fieldLink RX12 84 "ProofHouseModel" "defVariable" "[I", Cond.fieldLink RX12 93 "ProofHouseModel" "defSelf" "[Z", Cond.fieldLink RX12 87 "ProofHouseModel" "defBody" "[I", Cond.fieldLink RX12 90 "ProofHouseModel" "defMeasure" "[I", Cond.fieldLink RX12 78 "ProofHouseModel" "defName" "[I", Cond.fieldLink RX12 97 "ProofHouseModel" "theoremName" "[I", Cond.fieldLink RX12 100 "ProofHouseModel" "theorem" "[I", Cond.fieldLink RX12 441 "ProofHouseModel" "outSize" "I", Cond.methodLink RX12 353 yX12_pair, Cond.instanceMethod yX12_pair, Cond.selects RX12 yX12_pair yX12_pair, Cond.initialized RX12, Cond.code yX12_pair cX12_pair 5 (some .int), Cond.fieldLink RX12 31 "ProofHouseModel" "heads" "[I", Cond.fieldLink RX12 8 "ProofHouseModel" "left" "[I", Cond.fieldLink RX12 14 "ProofHouseModel" "right" "[I", Cond.fieldLink RX12 17 "ProofHouseModel" "next" "[I", Cond.methodLink RX12 324 yX12_slot, Cond.static yX12_slot, Cond.code yX12_slot cX12_slot 2 (some .int)]
def wsX12_tell_r2 : List Cond := [Cond.constant RX12 320 (40503), Cond.methodLink RX12 335 yX12_added, Cond.instanceMethod yX12_added, Cond.selects RX12 yX12_added yX12_added, Cond.code yX12_added cX12_added 4 (some .int), Cond.fieldLink RX12 20 "ProofHouseModel" "sizes" "[I", Cond.fieldLink RX12 23 "ProofHouseModel" "heights" "[I", Cond.methodLink RX12 359 yX12_list2, Cond.instanceMethod yX12_list2, Cond.selects RX12 yX12_list2 yX12_list2, Cond.code yX12_list2 cX12_list2 3 (some .int), Cond.methodLink RX12 356 yX12_list1, Cond.instanceMethod yX12_list1, Cond.selects RX12 yX12_list1 yX12_list1, Cond.code yX12_list1 cX12_list1 2 (some .int), Cond.methodLink RX12 785 yX12_tellOut, Cond.instanceMethod yX12_tellOut, Cond.selects RX12 yX12_tellOut yX12_tellOut, Cond.code yX12_tellOut cX12_tellOut 2 none, Cond.methodLink RX12 465 yX12_tellObject, Cond.instanceMethod yX12_tellObject, Cond.selects RX12 yX12_tellObject yX12_tellObject, Cond.code yX12_tellObject cX12_tellObject 4 none, Cond.fieldLink RX12 450 "ProofHouseModel" "telling" "I"]
def wsX12_tell_r3 : List Cond := [Cond.fieldLink RX12 53 "ProofHouseModel" "tellWhat" "[I", Cond.methodLink RX12 453 yX12_later, Cond.instanceMethod yX12_later, Cond.selects RX12 yX12_later yX12_later, Cond.code yX12_later cX12_later 2 none, Cond.methodLink RX12 456 yX12_isFull, Cond.instanceMethod yX12_isFull, Cond.selects RX12 yX12_isFull yX12_isFull, Cond.code yX12_isFull cX12_isFull 1 (some .boolean), Cond.fieldLink RX12 435 "ProofHouseModel" "short0" "Z", Cond.fieldLink RX12 438 "ProofHouseModel" "oneSize" "I", Cond.methodLink RX12 365 yX12_isPair, Cond.instanceMethod yX12_isPair, Cond.selects RX12 yX12_isPair yX12_isPair, Cond.code yX12_isPair cX12_isPair 2 (some .boolean), Cond.methodLink RX12 459 yX12_tellAtom, Cond.instanceMethod yX12_tellAtom, Cond.selects RX12 yX12_tellAtom yX12_tellAtom, Cond.code yX12_tellAtom cX12_tellAtom 4 none, Cond.fieldLink RX12 38 "ProofHouseModel" "lengths" "[I", Cond.fieldLink RX12 35 "ProofHouseModel" "names" "[I", Cond.constantLong RX12 398 (10), Cond.methodLink RX12 444 yX12_isSymbol, Cond.instanceMethod yX12_isSymbol]
def wsX12_tell_r4 : List Cond := [Cond.selects RX12 yX12_isSymbol yX12_isSymbol, Cond.code yX12_isSymbol cX12_isSymbol 2 (some .boolean), Cond.methodLink RX12 447 yX12_tellLetter, Cond.instanceMethod yX12_tellLetter, Cond.selects RX12 yX12_tellLetter yX12_tellLetter, Cond.code yX12_tellLetter cX12_tellLetter 2 none, Cond.fieldLink RX12 56 "ProofHouseModel" "one" "[I", Cond.fieldLink RX12 47 "ProofHouseModel" "out" "[I", Cond.methodLink RX12 321 yX12_value, Cond.instanceMethod yX12_value, Cond.selects RX12 yX12_value yX12_value, Cond.code yX12_value cX12_value 2 (some .long), Cond.fieldLink RX12 27 "ProofHouseModel" "number" "[J", Cond.methodLink RX12 462 yX12_isQuoted, Cond.instanceMethod yX12_isQuoted, Cond.selects RX12 yX12_isQuoted yX12_isQuoted, Cond.code yX12_isQuoted cX12_isQuoted 2 (some .boolean), Cond.methodLink RX12 362 yX12_list3, Cond.instanceMethod yX12_list3, Cond.selects RX12 yX12_list3 yX12_list3, Cond.code yX12_list3 cX12_list3 4 (some .int), Cond.methodLink RX12 839 yX12_forget, Cond.instanceMethod yX12_forget, Cond.selects RX12 yX12_forget yX12_forget]
def wsX12_tell_r5 : List Cond := [Cond.code yX12_forget cX12_forget 2 none, Cond.fieldLink RX12 346 "ProofHouseModel" "symbols" "I", Cond.fieldLink RX12 339 "ProofHouseModel" "naturals" "I", Cond.methodLink RX12 349 yX12_slotOf, Cond.instanceMethod yX12_slotOf, Cond.selects RX12 yX12_slotOf yX12_slotOf, Cond.code yX12_slotOf cX12_slotOf 2 (some .int), Cond.methodLink RX12 328 yX12_spelled, Cond.instanceMethod yX12_spelled, Cond.selects RX12 yX12_spelled yX12_spelled, Cond.code yX12_spelled cX12_spelled 6 (some .int), Cond.fieldLink RX12 50 "ProofHouseModel" "word" "[I"]
def wsX12_tell : List Cond := .code yX12_tell cX12_tell 6 (some .int) :: ((wsX12_tell_r1 ++ (wsX12_tell_r2 ++ (wsX12_tell_r3 ++ (wsX12_tell_r4 ++ wsX12_tell_r5)))) ++ wsX120)
theorem dX12_forget_0 : decode cX12_forget 0 = .ok (.aload_n 0, 1) := by decide +kernel
theorem dX12_forget_1 : decode cX12_forget 1 = .ok (.getfield 332, 3) := by decide +kernel
theorem dX12_forget_4 : decode cX12_forget 4 = .ok (.iload_n 1, 1) := by decide +kernel
theorem dX12_forget_5 : decode cX12_forget 5 = .ok (.if_icmp .le 85, 3) := by decide +kernel
theorem dX12_forget_8 : decode cX12_forget 8 = .ok (.aload_n 0, 1) := by decide +kernel
theorem dX12_forget_9 : decode cX12_forget 9 = .ok (.dup, 1) := by decide +kernel
theorem dX12_forget_10 : decode cX12_forget 10 = .ok (.getfield 332, 3) := by decide +kernel
theorem dX12_forget_13 : decode cX12_forget 13 = .ok (.iconst 1, 1) := by decide +kernel
theorem dX12_forget_14 : decode cX12_forget 14 = .ok (.isub, 1) := by decide +kernel
theorem dX12_forget_15 : decode cX12_forget 15 = .ok (.putfield 332, 3) := by decide +kernel
theorem dX12_forget_18 : decode cX12_forget 18 = .ok (.aload_n 0, 1) := by decide +kernel
theorem dX12_forget_19 : decode cX12_forget 19 = .ok (.getfield 31, 3) := by decide +kernel
theorem dX12_forget_22 : decode cX12_forget 22 = .ok (.aload_n 0, 1) := by decide +kernel
theorem dX12_forget_23 : decode cX12_forget 23 = .ok (.aload_n 0, 1) := by decide +kernel
theorem dX12_forget_24 : decode cX12_forget 24 = .ok (.getfield 332, 3) := by decide +kernel
theorem dX12_forget_27 : decode cX12_forget 27 = .ok (.invokevirtual 349, 3) := by decide +kernel
theorem dX12_forget_30 : decode cX12_forget 30 = .ok (.aload_n 0, 1) := by decide +kernel
theorem dX12_forget_31 : decode cX12_forget 31 = .ok (.getfield 17, 3) := by decide +kernel
theorem dX12_forget_34 : decode cX12_forget 34 = .ok (.aload_n 0, 1) := by decide +kernel
theorem dX12_forget_35 : decode cX12_forget 35 = .ok (.getfield 332, 3) := by decide +kernel
theorem dX12_forget_38 : decode cX12_forget 38 = .ok (.iaload, 1) := by decide +kernel
theorem dX12_forget_39 : decode cX12_forget 39 = .ok (.iastore, 1) := by decide +kernel
theorem dX12_forget_40 : decode cX12_forget 40 = .ok (.aload_n 0, 1) := by decide +kernel
theorem dX12_forget_41 : decode cX12_forget 41 = .ok (.getfield 8, 3) := by decide +kernel
theorem dX12_forget_44 : decode cX12_forget 44 = .ok (.aload_n 0, 1) := by decide +kernel
theorem dX12_forget_45 : decode cX12_forget 45 = .ok (.getfield 332, 3) := by decide +kernel
theorem dX12_forget_48 : decode cX12_forget 48 = .ok (.iaload, 1) := by decide +kernel
theorem dX12_forget_49 : decode cX12_forget 49 = .ok (.bipush (-2), 2) := by decide +kernel
theorem dX12_forget_51 : decode cX12_forget 51 = .ok (.if_icmp .ne 13, 3) := by decide +kernel
theorem dX12_forget_54 : decode cX12_forget 54 = .ok (.aload_n 0, 1) := by decide +kernel
theorem dX12_forget_55 : decode cX12_forget 55 = .ok (.dup, 1) := by decide +kernel
theorem dX12_forget_56 : decode cX12_forget 56 = .ok (.getfield 346, 3) := by decide +kernel
theorem dX12_forget_59 : decode cX12_forget 59 = .ok (.iconst 1, 1) := by decide +kernel
theorem dX12_forget_60 : decode cX12_forget 60 = .ok (.isub, 1) := by decide +kernel
theorem dX12_forget_61 : decode cX12_forget 61 = .ok (.putfield 346, 3) := by decide +kernel
theorem dX12_forget_64 : decode cX12_forget 64 = .ok (.aload_n 0, 1) := by decide +kernel
theorem dX12_forget_65 : decode cX12_forget 65 = .ok (.getfield 8, 3) := by decide +kernel
theorem dX12_forget_68 : decode cX12_forget 68 = .ok (.aload_n 0, 1) := by decide +kernel
theorem dX12_forget_69 : decode cX12_forget 69 = .ok (.getfield 332, 3) := by decide +kernel
theorem dX12_forget_72 : decode cX12_forget 72 = .ok (.iaload, 1) := by decide +kernel
theorem dX12_forget_73 : decode cX12_forget 73 = .ok (.iconst (-1), 1) := by decide +kernel
theorem dX12_forget_74 : decode cX12_forget 74 = .ok (.if_icmp .ne (-74), 3) := by decide +kernel
theorem dX12_forget_77 : decode cX12_forget 77 = .ok (.aload_n 0, 1) := by decide +kernel
theorem dX12_forget_78 : decode cX12_forget 78 = .ok (.dup, 1) := by decide +kernel
theorem dX12_forget_79 : decode cX12_forget 79 = .ok (.getfield 339, 3) := by decide +kernel
theorem dX12_forget_82 : decode cX12_forget 82 = .ok (.iconst 1, 1) := by decide +kernel
theorem dX12_forget_83 : decode cX12_forget 83 = .ok (.isub, 1) := by decide +kernel
theorem dX12_forget_84 : decode cX12_forget 84 = .ok (.putfield 339, 3) := by decide +kernel
theorem dX12_forget_87 : decode cX12_forget 87 = .ok (.goto (-87), 3) := by decide +kernel
theorem dX12_forget_90 : decode cX12_forget 90 = .ok (.return_, 1) := by decide +kernel
theorem dX12_skip_0 : decode cX12_skip 0 = .ok (.iconst 1, 1) := by decide +kernel
theorem dX12_skip_1 : decode cX12_skip 1 = .ok (.istore_n 1, 1) := by decide +kernel
theorem dX12_skip_2 : decode cX12_skip 2 = .ok (.iload_n 1, 1) := by decide +kernel
theorem dX12_skip_3 : decode cX12_skip 3 = .ok (.ifCond .eq 112, 3) := by decide +kernel
theorem dX12_skip_6 : decode cX12_skip 6 = .ok (.aload_n 0, 1) := by decide +kernel
theorem dX12_skip_7 : decode cX12_skip 7 = .ok (.getfield 371, 3) := by decide +kernel
theorem dX12_skip_10 : decode cX12_skip 10 = .ok (.aload_n 0, 1) := by decide +kernel
theorem dX12_skip_11 : decode cX12_skip 11 = .ok (.getfield 374, 3) := by decide +kernel
theorem dX12_skip_14 : decode cX12_skip 14 = .ok (.if_icmp .ge 101, 3) := by decide +kernel
theorem dX12_skip_17 : decode cX12_skip 17 = .ok (.aload_n 0, 1) := by decide +kernel
theorem dX12_skip_18 : decode cX12_skip 18 = .ok (.getfield 44, 3) := by decide +kernel
theorem dX12_skip_21 : decode cX12_skip 21 = .ok (.aload_n 0, 1) := by decide +kernel
theorem dX12_skip_22 : decode cX12_skip 22 = .ok (.getfield 371, 3) := by decide +kernel
theorem dX12_skip_25 : decode cX12_skip 25 = .ok (.iaload, 1) := by decide +kernel
theorem dX12_skip_26 : decode cX12_skip 26 = .ok (.bipush 59, 2) := by decide +kernel
theorem dX12_skip_28 : decode cX12_skip 28 = .ok (.if_icmp .ne 41, 3) := by decide +kernel
theorem dX12_skip_31 : decode cX12_skip 31 = .ok (.aload_n 0, 1) := by decide +kernel
theorem dX12_skip_32 : decode cX12_skip 32 = .ok (.getfield 371, 3) := by decide +kernel
theorem dX12_skip_35 : decode cX12_skip 35 = .ok (.aload_n 0, 1) := by decide +kernel
theorem dX12_skip_36 : decode cX12_skip 36 = .ok (.getfield 374, 3) := by decide +kernel
theorem dX12_skip_39 : decode cX12_skip 39 = .ok (.if_icmp .ge (-37), 3) := by decide +kernel
theorem dX12_skip_42 : decode cX12_skip 42 = .ok (.aload_n 0, 1) := by decide +kernel
theorem dX12_skip_43 : decode cX12_skip 43 = .ok (.getfield 44, 3) := by decide +kernel
theorem dX12_skip_46 : decode cX12_skip 46 = .ok (.aload_n 0, 1) := by decide +kernel
theorem dX12_skip_47 : decode cX12_skip 47 = .ok (.getfield 371, 3) := by decide +kernel
theorem dX12_skip_50 : decode cX12_skip 50 = .ok (.iaload, 1) := by decide +kernel
theorem dX12_skip_51 : decode cX12_skip 51 = .ok (.bipush 10, 2) := by decide +kernel
theorem dX12_skip_53 : decode cX12_skip 53 = .ok (.if_icmp .eq (-51), 3) := by decide +kernel
theorem dX12_skip_56 : decode cX12_skip 56 = .ok (.aload_n 0, 1) := by decide +kernel
theorem dX12_skip_57 : decode cX12_skip 57 = .ok (.dup, 1) := by decide +kernel
theorem dX12_skip_58 : decode cX12_skip 58 = .ok (.getfield 371, 3) := by decide +kernel
theorem dX12_skip_61 : decode cX12_skip 61 = .ok (.iconst 1, 1) := by decide +kernel
theorem dX12_skip_62 : decode cX12_skip 62 = .ok (.iadd, 1) := by decide +kernel
theorem dX12_skip_63 : decode cX12_skip 63 = .ok (.putfield 371, 3) := by decide +kernel
theorem dX12_skip_66 : decode cX12_skip 66 = .ok (.goto (-35), 3) := by decide +kernel
theorem dX12_skip_69 : decode cX12_skip 69 = .ok (.aload_n 0, 1) := by decide +kernel
theorem dX12_skip_70 : decode cX12_skip 70 = .ok (.getfield 44, 3) := by decide +kernel
theorem dX12_skip_73 : decode cX12_skip 73 = .ok (.aload_n 0, 1) := by decide +kernel
theorem dX12_skip_74 : decode cX12_skip 74 = .ok (.getfield 371, 3) := by decide +kernel
theorem dX12_skip_77 : decode cX12_skip 77 = .ok (.iaload, 1) := by decide +kernel
theorem dX12_skip_78 : decode cX12_skip 78 = .ok (.bipush 32, 2) := by decide +kernel
theorem dX12_skip_80 : decode cX12_skip 80 = .ok (.if_icmp .eq 17, 3) := by decide +kernel
theorem dX12_skip_83 : decode cX12_skip 83 = .ok (.aload_n 0, 1) := by decide +kernel
theorem dX12_skip_84 : decode cX12_skip 84 = .ok (.getfield 44, 3) := by decide +kernel
theorem dX12_skip_87 : decode cX12_skip 87 = .ok (.aload_n 0, 1) := by decide +kernel
theorem dX12_skip_88 : decode cX12_skip 88 = .ok (.getfield 371, 3) := by decide +kernel
theorem dX12_skip_91 : decode cX12_skip 91 = .ok (.iaload, 1) := by decide +kernel
theorem dX12_skip_92 : decode cX12_skip 92 = .ok (.bipush 10, 2) := by decide +kernel
theorem dX12_skip_94 : decode cX12_skip 94 = .ok (.if_icmp .ne 16, 3) := by decide +kernel
theorem dX12_skip_97 : decode cX12_skip 97 = .ok (.aload_n 0, 1) := by decide +kernel
theorem dX12_skip_98 : decode cX12_skip 98 = .ok (.dup, 1) := by decide +kernel
theorem dX12_skip_99 : decode cX12_skip 99 = .ok (.getfield 371, 3) := by decide +kernel
theorem dX12_skip_102 : decode cX12_skip 102 = .ok (.iconst 1, 1) := by decide +kernel
theorem dX12_skip_103 : decode cX12_skip 103 = .ok (.iadd, 1) := by decide +kernel
theorem dX12_skip_104 : decode cX12_skip 104 = .ok (.putfield 371, 3) := by decide +kernel
theorem dX12_skip_107 : decode cX12_skip 107 = .ok (.goto (-105), 3) := by decide +kernel
theorem dX12_skip_110 : decode cX12_skip 110 = .ok (.iconst 0, 1) := by decide +kernel
theorem dX12_skip_111 : decode cX12_skip 111 = .ok (.istore_n 1, 1) := by decide +kernel
theorem dX12_skip_112 : decode cX12_skip 112 = .ok (.goto (-110), 3) := by decide +kernel
theorem dX12_skip_115 : decode cX12_skip 115 = .ok (.return_, 1) := by decide +kernel
set_option maxRecDepth 20000 in
set_option maxRecDepth 20000 in
set_option maxRecDepth 20000 in
set_option maxRecDepth 20000 in
theorem dX12_reads_0 : decode cX12_reads 0 = .ok (.aload_n 0, 1) := by decide +kernel
theorem dX12_reads_1 : decode cX12_reads 1 = .ok (.iconst 0, 1) := by decide +kernel
theorem dX12_reads_2 : decode cX12_reads 2 = .ok (.putfield 371, 3) := by decide +kernel
theorem dX12_reads_5 : decode cX12_reads 5 = .ok (.aload_n 0, 1) := by decide +kernel
theorem dX12_reads_6 : decode cX12_reads 6 = .ok (.iconst 0, 1) := by decide +kernel
theorem dX12_reads_7 : decode cX12_reads 7 = .ok (.putfield 380, 3) := by decide +kernel
theorem dX12_reads_10 : decode cX12_reads 10 = .ok (.aload_n 0, 1) := by decide +kernel
theorem dX12_reads_11 : decode cX12_reads 11 = .ok (.iconst 0, 1) := by decide +kernel
theorem dX12_reads_12 : decode cX12_reads 12 = .ok (.putfield 387, 3) := by decide +kernel
theorem dX12_reads_15 : decode cX12_reads 15 = .ok (.aload_n 0, 1) := by decide +kernel
theorem dX12_reads_16 : decode cX12_reads 16 = .ok (.iconst 0, 1) := by decide +kernel
theorem dX12_reads_17 : decode cX12_reads 17 = .ok (.putfield 383, 3) := by decide +kernel
theorem dX12_reads_20 : decode cX12_reads 20 = .ok (.aload_n 0, 1) := by decide +kernel
theorem dX12_reads_21 : decode cX12_reads 21 = .ok (.iconst 0, 1) := by decide +kernel
theorem dX12_reads_22 : decode cX12_reads 22 = .ok (.putfield 377, 3) := by decide +kernel
theorem dX12_reads_25 : decode cX12_reads 25 = .ok (.aload_n 0, 1) := by decide +kernel
theorem dX12_reads_26 : decode cX12_reads 26 = .ok (.iconst (-1), 1) := by decide +kernel
theorem dX12_reads_27 : decode cX12_reads 27 = .ok (.putfield 59, 3) := by decide +kernel
theorem dX12_reads_30 : decode cX12_reads 30 = .ok (.iconst 0, 1) := by decide +kernel
theorem dX12_reads_31 : decode cX12_reads 31 = .ok (.istore_n 1, 1) := by decide +kernel
theorem dX12_reads_32 : decode cX12_reads 32 = .ok (.aload_n 0, 1) := by decide +kernel
theorem dX12_reads_33 : decode cX12_reads 33 = .ok (.invokevirtual 429, 3) := by decide +kernel
theorem dX12_reads_36 : decode cX12_reads 36 = .ok (.aload_n 0, 1) := by decide +kernel
theorem dX12_reads_37 : decode cX12_reads 37 = .ok (.getfield 377, 3) := by decide +kernel
theorem dX12_reads_40 : decode cX12_reads 40 = .ok (.ifCond .ne 29, 3) := by decide +kernel
theorem dX12_reads_43 : decode cX12_reads 43 = .ok (.aload_n 0, 1) := by decide +kernel
theorem dX12_reads_44 : decode cX12_reads 44 = .ok (.getfield 371, 3) := by decide +kernel
theorem dX12_reads_47 : decode cX12_reads 47 = .ok (.aload_n 0, 1) := by decide +kernel
theorem dX12_reads_48 : decode cX12_reads 48 = .ok (.getfield 374, 3) := by decide +kernel
theorem dX12_reads_51 : decode cX12_reads 51 = .ok (.if_icmp .ge 18, 3) := by decide +kernel
theorem dX12_reads_54 : decode cX12_reads 54 = .ok (.iinc 1 1, 3) := by decide +kernel
theorem dX12_reads_57 : decode cX12_reads 57 = .ok (.aload_n 0, 1) := by decide +kernel
theorem dX12_reads_58 : decode cX12_reads 58 = .ok (.iload_n 1, 1) := by decide +kernel
theorem dX12_reads_59 : decode cX12_reads 59 = .ok (.invokevirtual 432, 3) := by decide +kernel
theorem dX12_reads_62 : decode cX12_reads 62 = .ok (.aload_n 0, 1) := by decide +kernel
theorem dX12_reads_63 : decode cX12_reads 63 = .ok (.invokevirtual 429, 3) := by decide +kernel
theorem dX12_reads_66 : decode cX12_reads 66 = .ok (.goto (-30), 3) := by decide +kernel
theorem dX12_reads_69 : decode cX12_reads 69 = .ok (.aload_n 0, 1) := by decide +kernel
theorem dX12_reads_70 : decode cX12_reads 70 = .ok (.getfield 377, 3) := by decide +kernel
theorem dX12_reads_73 : decode cX12_reads 73 = .ok (.ifCond .ne 19, 3) := by decide +kernel
theorem dX12_reads_76 : decode cX12_reads 76 = .ok (.aload_n 0, 1) := by decide +kernel
theorem dX12_reads_77 : decode cX12_reads 77 = .ok (.getfield 383, 3) := by decide +kernel
theorem dX12_reads_80 : decode cX12_reads 80 = .ok (.ifCond .ne 12, 3) := by decide +kernel
theorem dX12_reads_83 : decode cX12_reads 83 = .ok (.aload_n 0, 1) := by decide +kernel
theorem dX12_reads_84 : decode cX12_reads 84 = .ok (.iconst 3, 1) := by decide +kernel
theorem dX12_reads_85 : decode cX12_reads 85 = .ok (.aload_n 0, 1) := by decide +kernel
theorem dX12_reads_86 : decode cX12_reads 86 = .ok (.getfield 374, 3) := by decide +kernel
theorem dX12_reads_89 : decode cX12_reads 89 = .ok (.invokevirtual 410, 3) := by decide +kernel
theorem dX12_reads_92 : decode cX12_reads 92 = .ok (.aload_n 0, 1) := by decide +kernel
theorem dX12_reads_93 : decode cX12_reads 93 = .ok (.iconst 0, 1) := by decide +kernel
theorem dX12_reads_94 : decode cX12_reads 94 = .ok (.putfield 374, 3) := by decide +kernel
theorem dX12_reads_97 : decode cX12_reads 97 = .ok (.aload_n 0, 1) := by decide +kernel
theorem dX12_reads_98 : decode cX12_reads 98 = .ok (.getfield 377, 3) := by decide +kernel
theorem dX12_reads_101 : decode cX12_reads 101 = .ok (.ifCond .ne 7, 3) := by decide +kernel
theorem dX12_reads_104 : decode cX12_reads 104 = .ok (.iconst 1, 1) := by decide +kernel
theorem dX12_reads_105 : decode cX12_reads 105 = .ok (.goto 4, 3) := by decide +kernel
theorem dX12_reads_108 : decode cX12_reads 108 = .ok (.iconst 0, 1) := by decide +kernel
theorem dX12_reads_109 : decode cX12_reads 109 = .ok (.ireturn, 1) := by decide +kernel
theorem dX12_feed_0 : decode cX12_feed 0 = .ok (.iconst 0, 1) := by decide +kernel
theorem dX12_feed_1 : decode cX12_feed 1 = .ok (.istore 6, 2) := by decide +kernel
theorem dX12_feed_3 : decode cX12_feed 3 = .ok (.iload 6, 2) := by decide +kernel
theorem dX12_feed_5 : decode cX12_feed 5 = .ok (.iconst 4, 1) := by decide +kernel
theorem dX12_feed_6 : decode cX12_feed 6 = .ok (.if_icmp .ge 127, 3) := by decide +kernel
theorem dX12_feed_9 : decode cX12_feed 9 = .ok (.aload_n 0, 1) := by decide +kernel
theorem dX12_feed_10 : decode cX12_feed 10 = .ok (.getfield 41, 3) := by decide +kernel
theorem dX12_feed_13 : decode cX12_feed 13 = .ok (.iload 6, 2) := by decide +kernel
theorem dX12_feed_15 : decode cX12_feed 15 = .ok (.iload_n 1, 1) := by decide +kernel
theorem dX12_feed_16 : decode cX12_feed 16 = .ok (.bipush 24, 2) := by decide +kernel
theorem dX12_feed_18 : decode cX12_feed 18 = .ok (.bipush 8, 2) := by decide +kernel
theorem dX12_feed_20 : decode cX12_feed 20 = .ok (.iload 6, 2) := by decide +kernel
theorem dX12_feed_22 : decode cX12_feed 22 = .ok (.imul, 1) := by decide +kernel
theorem dX12_feed_23 : decode cX12_feed 23 = .ok (.isub, 1) := by decide +kernel
theorem dX12_feed_24 : decode cX12_feed 24 = .ok (.ishr, 1) := by decide +kernel
theorem dX12_feed_25 : decode cX12_feed 25 = .ok (.sipush 255, 3) := by decide +kernel
theorem dX12_feed_28 : decode cX12_feed 28 = .ok (.iand, 1) := by decide +kernel
theorem dX12_feed_29 : decode cX12_feed 29 = .ok (.iastore, 1) := by decide +kernel
theorem dX12_feed_30 : decode cX12_feed 30 = .ok (.aload_n 0, 1) := by decide +kernel
theorem dX12_feed_31 : decode cX12_feed 31 = .ok (.getfield 41, 3) := by decide +kernel
theorem dX12_feed_34 : decode cX12_feed 34 = .ok (.iconst 4, 1) := by decide +kernel
theorem dX12_feed_35 : decode cX12_feed 35 = .ok (.iload 6, 2) := by decide +kernel
theorem dX12_feed_37 : decode cX12_feed 37 = .ok (.iadd, 1) := by decide +kernel
theorem dX12_feed_38 : decode cX12_feed 38 = .ok (.iload_n 2, 1) := by decide +kernel
theorem dX12_feed_39 : decode cX12_feed 39 = .ok (.bipush 24, 2) := by decide +kernel
theorem dX12_feed_41 : decode cX12_feed 41 = .ok (.bipush 8, 2) := by decide +kernel
theorem dX12_feed_43 : decode cX12_feed 43 = .ok (.iload 6, 2) := by decide +kernel
theorem dX12_feed_45 : decode cX12_feed 45 = .ok (.imul, 1) := by decide +kernel
theorem dX12_feed_46 : decode cX12_feed 46 = .ok (.isub, 1) := by decide +kernel
theorem dX12_feed_47 : decode cX12_feed 47 = .ok (.ishr, 1) := by decide +kernel
theorem dX12_feed_48 : decode cX12_feed 48 = .ok (.sipush 255, 3) := by decide +kernel
theorem dX12_feed_51 : decode cX12_feed 51 = .ok (.iand, 1) := by decide +kernel
theorem dX12_feed_52 : decode cX12_feed 52 = .ok (.iastore, 1) := by decide +kernel
theorem dX12_feed_53 : decode cX12_feed 53 = .ok (.aload_n 0, 1) := by decide +kernel
theorem dX12_feed_54 : decode cX12_feed 54 = .ok (.getfield 41, 3) := by decide +kernel
theorem dX12_feed_57 : decode cX12_feed 57 = .ok (.bipush 8, 2) := by decide +kernel
theorem dX12_feed_59 : decode cX12_feed 59 = .ok (.iload 6, 2) := by decide +kernel
theorem dX12_feed_61 : decode cX12_feed 61 = .ok (.iadd, 1) := by decide +kernel
theorem dX12_feed_62 : decode cX12_feed 62 = .ok (.iload_n 3, 1) := by decide +kernel
theorem dX12_feed_63 : decode cX12_feed 63 = .ok (.bipush 24, 2) := by decide +kernel
theorem dX12_feed_65 : decode cX12_feed 65 = .ok (.bipush 8, 2) := by decide +kernel
theorem dX12_feed_67 : decode cX12_feed 67 = .ok (.iload 6, 2) := by decide +kernel
theorem dX12_feed_69 : decode cX12_feed 69 = .ok (.imul, 1) := by decide +kernel
theorem dX12_feed_70 : decode cX12_feed 70 = .ok (.isub, 1) := by decide +kernel
theorem dX12_feed_71 : decode cX12_feed 71 = .ok (.ishr, 1) := by decide +kernel
theorem dX12_feed_72 : decode cX12_feed 72 = .ok (.sipush 255, 3) := by decide +kernel
theorem dX12_feed_75 : decode cX12_feed 75 = .ok (.iand, 1) := by decide +kernel
theorem dX12_feed_76 : decode cX12_feed 76 = .ok (.iastore, 1) := by decide +kernel
theorem dX12_feed_77 : decode cX12_feed 77 = .ok (.aload_n 0, 1) := by decide +kernel
theorem dX12_feed_78 : decode cX12_feed 78 = .ok (.getfield 41, 3) := by decide +kernel
theorem dX12_feed_81 : decode cX12_feed 81 = .ok (.bipush 12, 2) := by decide +kernel
theorem dX12_feed_83 : decode cX12_feed 83 = .ok (.iload 6, 2) := by decide +kernel
theorem dX12_feed_85 : decode cX12_feed 85 = .ok (.iadd, 1) := by decide +kernel
theorem dX12_feed_86 : decode cX12_feed 86 = .ok (.iload 4, 2) := by decide +kernel
theorem dX12_feed_88 : decode cX12_feed 88 = .ok (.bipush 24, 2) := by decide +kernel
theorem dX12_feed_90 : decode cX12_feed 90 = .ok (.bipush 8, 2) := by decide +kernel
theorem dX12_feed_92 : decode cX12_feed 92 = .ok (.iload 6, 2) := by decide +kernel
theorem dX12_feed_94 : decode cX12_feed 94 = .ok (.imul, 1) := by decide +kernel
theorem dX12_feed_95 : decode cX12_feed 95 = .ok (.isub, 1) := by decide +kernel
theorem dX12_feed_96 : decode cX12_feed 96 = .ok (.ishr, 1) := by decide +kernel
theorem dX12_feed_97 : decode cX12_feed 97 = .ok (.sipush 255, 3) := by decide +kernel
theorem dX12_feed_100 : decode cX12_feed 100 = .ok (.iand, 1) := by decide +kernel
theorem dX12_feed_101 : decode cX12_feed 101 = .ok (.iastore, 1) := by decide +kernel
theorem dX12_feed_102 : decode cX12_feed 102 = .ok (.aload_n 0, 1) := by decide +kernel
theorem dX12_feed_103 : decode cX12_feed 103 = .ok (.getfield 41, 3) := by decide +kernel
theorem dX12_feed_106 : decode cX12_feed 106 = .ok (.bipush 16, 2) := by decide +kernel
theorem dX12_feed_108 : decode cX12_feed 108 = .ok (.iload 6, 2) := by decide +kernel
theorem dX12_feed_110 : decode cX12_feed 110 = .ok (.iadd, 1) := by decide +kernel
theorem dX12_feed_111 : decode cX12_feed 111 = .ok (.iload 5, 2) := by decide +kernel
theorem dX12_feed_113 : decode cX12_feed 113 = .ok (.bipush 24, 2) := by decide +kernel
theorem dX12_feed_115 : decode cX12_feed 115 = .ok (.bipush 8, 2) := by decide +kernel
theorem dX12_feed_117 : decode cX12_feed 117 = .ok (.iload 6, 2) := by decide +kernel
theorem dX12_feed_119 : decode cX12_feed 119 = .ok (.imul, 1) := by decide +kernel
theorem dX12_feed_120 : decode cX12_feed 120 = .ok (.isub, 1) := by decide +kernel
theorem dX12_feed_121 : decode cX12_feed 121 = .ok (.ishr, 1) := by decide +kernel
theorem dX12_feed_122 : decode cX12_feed 122 = .ok (.sipush 255, 3) := by decide +kernel
theorem dX12_feed_125 : decode cX12_feed 125 = .ok (.iand, 1) := by decide +kernel
theorem dX12_feed_126 : decode cX12_feed 126 = .ok (.iastore, 1) := by decide +kernel
theorem dX12_feed_127 : decode cX12_feed 127 = .ok (.iinc 6 1, 3) := by decide +kernel
theorem dX12_feed_130 : decode cX12_feed 130 = .ok (.goto (-127), 3) := by decide +kernel
theorem dX12_feed_133 : decode cX12_feed 133 = .ok (.return_, 1) := by decide +kernel
set_option maxRecDepth 20000 in
set_option maxRecDepth 20000 in
set_option maxRecDepth 20000 in
set_option maxRecDepth 20000 in
set_option maxRecDepth 20000 in
set_option maxRecDepth 20000 in
theorem dX12_run_0 : decode cX12_run 0 = .ok (.aload_n 0, 1) := by decide +kernel
theorem dX12_run_1 : decode cX12_run 1 = .ok (.iconst 0, 1) := by decide +kernel
theorem dX12_run_2 : decode cX12_run 2 = .ok (.putfield 561, 3) := by decide +kernel
theorem dX12_run_5 : decode cX12_run 5 = .ok (.aload_n 0, 1) := by decide +kernel
theorem dX12_run_6 : decode cX12_run 6 = .ok (.iconst 0, 1) := by decide +kernel
theorem dX12_run_7 : decode cX12_run 7 = .ok (.putfield 480, 3) := by decide +kernel
theorem dX12_run_10 : decode cX12_run 10 = .ok (.aload_n 0, 1) := by decide +kernel
theorem dX12_run_11 : decode cX12_run 11 = .ok (.iconst 0, 1) := by decide +kernel
theorem dX12_run_12 : decode cX12_run 12 = .ok (.putfield 779, 3) := by decide +kernel
theorem dX12_run_15 : decode cX12_run 15 = .ok (.aload_n 0, 1) := by decide +kernel
theorem dX12_run_16 : decode cX12_run 16 = .ok (.iconst 0, 1) := by decide +kernel
theorem dX12_run_17 : decode cX12_run 17 = .ok (.putfield 751, 3) := by decide +kernel
theorem dX12_run_20 : decode cX12_run 20 = .ok (.aload_n 0, 1) := by decide +kernel
theorem dX12_run_21 : decode cX12_run 21 = .ok (.iconst 0, 1) := by decide +kernel
theorem dX12_run_22 : decode cX12_run 22 = .ok (.putfield 441, 3) := by decide +kernel
theorem dX12_run_25 : decode cX12_run 25 = .ok (.aload_n 0, 1) := by decide +kernel
theorem dX12_run_26 : decode cX12_run 26 = .ok (.aload_n 0, 1) := by decide +kernel
theorem dX12_run_27 : decode cX12_run 27 = .ok (.getfield 332, 3) := by decide +kernel
theorem dX12_run_30 : decode cX12_run 30 = .ok (.putfield 848, 3) := by decide +kernel
theorem dX12_run_33 : decode cX12_run 33 = .ok (.aload_n 0, 1) := by decide +kernel
theorem dX12_run_34 : decode cX12_run 34 = .ok (.iconst 0, 1) := by decide +kernel
theorem dX12_run_35 : decode cX12_run 35 = .ok (.putfield 733, 3) := by decide +kernel
theorem dX12_run_38 : decode cX12_run 38 = .ok (.aload_n 0, 1) := by decide +kernel
theorem dX12_run_39 : decode cX12_run 39 = .ok (.invokevirtual 995, 3) := by decide +kernel
theorem dX12_run_42 : decode cX12_run 42 = .ok (.aload_n 0, 1) := by decide +kernel
theorem dX12_run_43 : decode cX12_run 43 = .ok (.invokevirtual 998, 3) := by decide +kernel
theorem dX12_run_46 : decode cX12_run 46 = .ok (.ifCond .ne 13, 3) := by decide +kernel
theorem dX12_run_49 : decode cX12_run 49 = .ok (.aload_n 0, 1) := by decide +kernel
theorem dX12_run_50 : decode cX12_run 50 = .ok (.aload_n 0, 1) := by decide +kernel
theorem dX12_run_51 : decode cX12_run 51 = .ok (.getfield 848, 3) := by decide +kernel
theorem dX12_run_54 : decode cX12_run 54 = .ok (.invokevirtual 839, 3) := by decide +kernel
theorem dX12_run_57 : decode cX12_run 57 = .ok (.iconst 1, 1) := by decide +kernel
theorem dX12_run_58 : decode cX12_run 58 = .ok (.ireturn, 1) := by decide +kernel
theorem dX12_run_59 : decode cX12_run 59 = .ok (.aload_n 0, 1) := by decide +kernel
theorem dX12_run_60 : decode cX12_run 60 = .ok (.getfield 845, 3) := by decide +kernel
theorem dX12_run_63 : decode cX12_run 63 = .ok (.istore_n 1, 1) := by decide +kernel
theorem dX12_run_64 : decode cX12_run 64 = .ok (.aload_n 0, 1) := by decide +kernel
theorem dX12_run_65 : decode cX12_run 65 = .ok (.aload_n 0, 1) := by decide +kernel
theorem dX12_run_66 : decode cX12_run 66 = .ok (.getfield 390, 3) := by decide +kernel
theorem dX12_run_69 : decode cX12_run 69 = .ok (.invokevirtual 1001, 3) := by decide +kernel
theorem dX12_run_72 : decode cX12_run 72 = .ok (.istore_n 2, 1) := by decide +kernel
theorem dX12_run_73 : decode cX12_run 73 = .ok (.aload_n 0, 1) := by decide +kernel
theorem dX12_run_74 : decode cX12_run 74 = .ok (.iconst (-1), 1) := by decide +kernel
theorem dX12_run_75 : decode cX12_run 75 = .ok (.putfield 136, 3) := by decide +kernel
theorem dX12_run_78 : decode cX12_run 78 = .ok (.iload_n 2, 1) := by decide +kernel
theorem dX12_run_79 : decode cX12_run 79 = .ok (.iconst 5, 1) := by decide +kernel
theorem dX12_run_80 : decode cX12_run 80 = .ok (.if_icmp .eq 14, 3) := by decide +kernel
theorem dX12_run_83 : decode cX12_run 83 = .ok (.iload_n 2, 1) := by decide +kernel
theorem dX12_run_84 : decode cX12_run 84 = .ok (.bipush 6, 2) := by decide +kernel
theorem dX12_run_86 : decode cX12_run 86 = .ok (.if_icmp .eq 8, 3) := by decide +kernel
theorem dX12_run_89 : decode cX12_run 89 = .ok (.aload_n 0, 1) := by decide +kernel
theorem dX12_run_90 : decode cX12_run 90 = .ok (.iconst 0, 1) := by decide +kernel
theorem dX12_run_91 : decode cX12_run 91 = .ok (.putfield 751, 3) := by decide +kernel
theorem dX12_run_94 : decode cX12_run 94 = .ok (.aload_n 0, 1) := by decide +kernel
theorem dX12_run_95 : decode cX12_run 95 = .ok (.getfield 845, 3) := by decide +kernel
theorem dX12_run_98 : decode cX12_run 98 = .ok (.iload_n 1, 1) := by decide +kernel
theorem dX12_run_99 : decode cX12_run 99 = .ok (.if_icmp .gt 11, 3) := by decide +kernel
theorem dX12_run_102 : decode cX12_run 102 = .ok (.aload_n 0, 1) := by decide +kernel
theorem dX12_run_103 : decode cX12_run 103 = .ok (.aload_n 0, 1) := by decide +kernel
theorem dX12_run_104 : decode cX12_run 104 = .ok (.getfield 848, 3) := by decide +kernel
theorem dX12_run_107 : decode cX12_run 107 = .ok (.invokevirtual 839, 3) := by decide +kernel
theorem dX12_run_110 : decode cX12_run 110 = .ok (.iload_n 2, 1) := by decide +kernel
theorem dX12_run_111 : decode cX12_run 111 = .ok (.ireturn, 1) := by decide +kernel
theorem dX12_count_0 : decode cX12_count 0 = .ok (.iconst 0, 1) := by decide +kernel
theorem dX12_count_1 : decode cX12_count 1 = .ok (.istore_n 2, 1) := by decide +kernel
theorem dX12_count_2 : decode cX12_count 2 = .ok (.iconst 0, 1) := by decide +kernel
theorem dX12_count_3 : decode cX12_count 3 = .ok (.istore_n 3, 1) := by decide +kernel
theorem dX12_count_4 : decode cX12_count 4 = .ok (.iconst 0, 1) := by decide +kernel
theorem dX12_count_5 : decode cX12_count 5 = .ok (.istore 4, 2) := by decide +kernel
theorem dX12_count_7 : decode cX12_count 7 = .ok (.iload 4, 2) := by decide +kernel
theorem dX12_count_9 : decode cX12_count 9 = .ok (.aload_n 0, 1) := by decide +kernel
theorem dX12_count_10 : decode cX12_count 10 = .ok (.getfield 699, 3) := by decide +kernel
theorem dX12_count_13 : decode cX12_count 13 = .ok (.if_icmp .ge 57, 3) := by decide +kernel
theorem dX12_count_16 : decode cX12_count 16 = .ok (.iload_n 2, 1) := by decide +kernel
theorem dX12_count_17 : decode cX12_count 17 = .ok (.aload_n 0, 1) := by decide +kernel
theorem dX12_count_18 : decode cX12_count 18 = .ok (.getfield 106, 3) := by decide +kernel
theorem dX12_count_21 : decode cX12_count 21 = .ok (.iload 4, 2) := by decide +kernel
theorem dX12_count_23 : decode cX12_count 23 = .ok (.iaload, 1) := by decide +kernel
theorem dX12_count_24 : decode cX12_count 24 = .ok (.iconst (-1), 1) := by decide +kernel
theorem dX12_count_25 : decode cX12_count 25 = .ok (.if_icmp .eq 7, 3) := by decide +kernel
theorem dX12_count_28 : decode cX12_count 28 = .ok (.iconst 1, 1) := by decide +kernel
theorem dX12_count_29 : decode cX12_count 29 = .ok (.goto 4, 3) := by decide +kernel
theorem dX12_count_32 : decode cX12_count 32 = .ok (.iconst 0, 1) := by decide +kernel
theorem dX12_count_33 : decode cX12_count 33 = .ok (.iadd, 1) := by decide +kernel
theorem dX12_count_34 : decode cX12_count 34 = .ok (.istore_n 2, 1) := by decide +kernel
theorem dX12_count_35 : decode cX12_count 35 = .ok (.iload_n 3, 1) := by decide +kernel
theorem dX12_count_36 : decode cX12_count 36 = .ok (.aload_n 0, 1) := by decide +kernel
theorem dX12_count_37 : decode cX12_count 37 = .ok (.getfield 106, 3) := by decide +kernel
theorem dX12_count_40 : decode cX12_count 40 = .ok (.iload 4, 2) := by decide +kernel
theorem dX12_count_42 : decode cX12_count 42 = .ok (.iaload, 1) := by decide +kernel
theorem dX12_count_43 : decode cX12_count 43 = .ok (.iconst (-1), 1) := by decide +kernel
theorem dX12_count_44 : decode cX12_count 44 = .ok (.if_icmp .eq 17, 3) := by decide +kernel
theorem dX12_count_47 : decode cX12_count 47 = .ok (.aload_n 0, 1) := by decide +kernel
theorem dX12_count_48 : decode cX12_count 48 = .ok (.getfield 124, 3) := by decide +kernel
theorem dX12_count_51 : decode cX12_count 51 = .ok (.iload 4, 2) := by decide +kernel
theorem dX12_count_53 : decode cX12_count 53 = .ok (.baload, 1) := by decide +kernel
theorem dX12_count_54 : decode cX12_count 54 = .ok (.ifCond .eq 7, 3) := by decide +kernel
theorem dX12_count_57 : decode cX12_count 57 = .ok (.iconst 1, 1) := by decide +kernel
theorem dX12_count_58 : decode cX12_count 58 = .ok (.goto 4, 3) := by decide +kernel
theorem dX12_count_61 : decode cX12_count 61 = .ok (.iconst 0, 1) := by decide +kernel
theorem dX12_count_62 : decode cX12_count 62 = .ok (.iadd, 1) := by decide +kernel
theorem dX12_count_63 : decode cX12_count 63 = .ok (.istore_n 3, 1) := by decide +kernel
theorem dX12_count_64 : decode cX12_count 64 = .ok (.iinc 4 1, 3) := by decide +kernel
theorem dX12_count_67 : decode cX12_count 67 = .ok (.goto (-60), 3) := by decide +kernel
theorem dX12_count_70 : decode cX12_count 70 = .ok (.iload_n 1, 1) := by decide +kernel
theorem dX12_count_71 : decode cX12_count 71 = .ok (.ifCond .ne 10, 3) := by decide +kernel
theorem dX12_count_74 : decode cX12_count 74 = .ok (.aload_n 0, 1) := by decide +kernel
theorem dX12_count_75 : decode cX12_count 75 = .ok (.getfield 474, 3) := by decide +kernel
theorem dX12_count_78 : decode cX12_count 78 = .ok (.goto 46, 3) := by decide +kernel
theorem dX12_count_81 : decode cX12_count 81 = .ok (.iload_n 1, 1) := by decide +kernel
theorem dX12_count_82 : decode cX12_count 82 = .ok (.iconst 1, 1) := by decide +kernel
theorem dX12_count_83 : decode cX12_count 83 = .ok (.if_icmp .ne 10, 3) := by decide +kernel
theorem dX12_count_86 : decode cX12_count 86 = .ok (.aload_n 0, 1) := by decide +kernel
theorem dX12_count_87 : decode cX12_count 87 = .ok (.getfield 699, 3) := by decide +kernel
theorem dX12_count_90 : decode cX12_count 90 = .ok (.goto 34, 3) := by decide +kernel
theorem dX12_count_93 : decode cX12_count 93 = .ok (.iload_n 1, 1) := by decide +kernel
theorem dX12_count_94 : decode cX12_count 94 = .ok (.iconst 2, 1) := by decide +kernel
theorem dX12_count_95 : decode cX12_count 95 = .ok (.if_icmp .ne 7, 3) := by decide +kernel
theorem dX12_count_98 : decode cX12_count 98 = .ok (.iload_n 2, 1) := by decide +kernel
theorem dX12_count_99 : decode cX12_count 99 = .ok (.goto 25, 3) := by decide +kernel
theorem dX12_count_102 : decode cX12_count 102 = .ok (.iload_n 1, 1) := by decide +kernel
theorem dX12_count_103 : decode cX12_count 103 = .ok (.iconst 3, 1) := by decide +kernel
theorem dX12_count_104 : decode cX12_count 104 = .ok (.if_icmp .ne 7, 3) := by decide +kernel
theorem dX12_count_107 : decode cX12_count 107 = .ok (.iload_n 3, 1) := by decide +kernel
theorem dX12_count_108 : decode cX12_count 108 = .ok (.goto 16, 3) := by decide +kernel
theorem dX12_count_111 : decode cX12_count 111 = .ok (.iload_n 1, 1) := by decide +kernel
theorem dX12_count_112 : decode cX12_count 112 = .ok (.iconst 4, 1) := by decide +kernel
theorem dX12_count_113 : decode cX12_count 113 = .ok (.if_icmp .ne 10, 3) := by decide +kernel
theorem dX12_count_116 : decode cX12_count 116 = .ok (.aload_n 0, 1) := by decide +kernel
theorem dX12_count_117 : decode cX12_count 117 = .ok (.getfield 751, 3) := by decide +kernel
theorem dX12_count_120 : decode cX12_count 120 = .ok (.goto 4, 3) := by decide +kernel
theorem dX12_count_123 : decode cX12_count 123 = .ok (.iconst (-1), 1) := by decide +kernel
theorem dX12_count_124 : decode cX12_count 124 = .ok (.ireturn, 1) := by decide +kernel
set_option maxRecDepth 20000 in
set_option maxRecDepth 20000 in
theorem dX12_tell_0 : decode cX12_tell 0 = .ok (.iload_n 1, 1) := by decide +kernel
theorem dX12_tell_1 : decode cX12_tell 1 = .ok (.ifCond .lt 11, 3) := by decide +kernel
theorem dX12_tell_4 : decode cX12_tell 4 = .ok (.iload_n 1, 1) := by decide +kernel
theorem dX12_tell_5 : decode cX12_tell 5 = .ok (.aload_n 0, 1) := by decide +kernel
theorem dX12_tell_6 : decode cX12_tell 6 = .ok (.getfield 845, 3) := by decide +kernel
theorem dX12_tell_9 : decode cX12_tell 9 = .ok (.if_icmp .lt 5, 3) := by decide +kernel
theorem dX12_tell_12 : decode cX12_tell 12 = .ok (.iconst (-1), 1) := by decide +kernel
theorem dX12_tell_13 : decode cX12_tell 13 = .ok (.ireturn, 1) := by decide +kernel
theorem dX12_tell_14 : decode cX12_tell 14 = .ok (.aload_n 0, 1) := by decide +kernel
theorem dX12_tell_15 : decode cX12_tell 15 = .ok (.getfield 332, 3) := by decide +kernel
theorem dX12_tell_18 : decode cX12_tell 18 = .ok (.istore_n 2, 1) := by decide +kernel
theorem dX12_tell_19 : decode cX12_tell 19 = .ok (.iconst 0, 1) := by decide +kernel
theorem dX12_tell_20 : decode cX12_tell 20 = .ok (.istore_n 3, 1) := by decide +kernel
theorem dX12_tell_21 : decode cX12_tell 21 = .ok (.iconst 0, 1) := by decide +kernel
theorem dX12_tell_22 : decode cX12_tell 22 = .ok (.istore 4, 2) := by decide +kernel
theorem dX12_tell_24 : decode cX12_tell 24 = .ok (.iload 4, 2) := by decide +kernel
theorem dX12_tell_26 : decode cX12_tell 26 = .ok (.iload_n 1, 1) := by decide +kernel
theorem dX12_tell_27 : decode cX12_tell 27 = .ok (.if_icmp .ge 51, 3) := by decide +kernel
theorem dX12_tell_30 : decode cX12_tell 30 = .ok (.iload_n 3, 1) := by decide +kernel
theorem dX12_tell_31 : decode cX12_tell 31 = .ok (.aload_n 0, 1) := by decide +kernel
theorem dX12_tell_32 : decode cX12_tell 32 = .ok (.getfield 130, 3) := by decide +kernel
theorem dX12_tell_35 : decode cX12_tell 35 = .ok (.iload 4, 2) := by decide +kernel
theorem dX12_tell_37 : decode cX12_tell 37 = .ok (.iaload, 1) := by decide +kernel
theorem dX12_tell_38 : decode cX12_tell 38 = .ok (.iconst 1, 1) := by decide +kernel
theorem dX12_tell_39 : decode cX12_tell 39 = .ok (.if_icmp .ne 7, 3) := by decide +kernel
theorem dX12_tell_42 : decode cX12_tell 42 = .ok (.iconst 1, 1) := by decide +kernel
theorem dX12_tell_43 : decode cX12_tell 43 = .ok (.goto 4, 3) := by decide +kernel
theorem dX12_tell_46 : decode cX12_tell 46 = .ok (.iconst 0, 1) := by decide +kernel
theorem dX12_tell_47 : decode cX12_tell 47 = .ok (.aload_n 0, 1) := by decide +kernel
theorem dX12_tell_48 : decode cX12_tell 48 = .ok (.getfield 130, 3) := by decide +kernel
theorem dX12_tell_51 : decode cX12_tell 51 = .ok (.iload_n 1, 1) := by decide +kernel
theorem dX12_tell_52 : decode cX12_tell 52 = .ok (.iaload, 1) := by decide +kernel
theorem dX12_tell_53 : decode cX12_tell 53 = .ok (.iconst 1, 1) := by decide +kernel
theorem dX12_tell_54 : decode cX12_tell 54 = .ok (.if_icmp .ne 7, 3) := by decide +kernel
theorem dX12_tell_57 : decode cX12_tell 57 = .ok (.iconst 1, 1) := by decide +kernel
theorem dX12_tell_58 : decode cX12_tell 58 = .ok (.goto 4, 3) := by decide +kernel
theorem dX12_tell_61 : decode cX12_tell 61 = .ok (.iconst 0, 1) := by decide +kernel
theorem dX12_tell_62 : decode cX12_tell 62 = .ok (.if_icmp .ne 7, 3) := by decide +kernel
theorem dX12_tell_65 : decode cX12_tell 65 = .ok (.iconst 1, 1) := by decide +kernel
theorem dX12_tell_66 : decode cX12_tell 66 = .ok (.goto 4, 3) := by decide +kernel
theorem dX12_tell_69 : decode cX12_tell 69 = .ok (.iconst 0, 1) := by decide +kernel
theorem dX12_tell_70 : decode cX12_tell 70 = .ok (.iadd, 1) := by decide +kernel
theorem dX12_tell_71 : decode cX12_tell 71 = .ok (.istore_n 3, 1) := by decide +kernel
theorem dX12_tell_72 : decode cX12_tell 72 = .ok (.iinc 4 1, 3) := by decide +kernel
theorem dX12_tell_75 : decode cX12_tell 75 = .ok (.goto (-51), 3) := by decide +kernel
theorem dX12_tell_78 : decode cX12_tell 78 = .ok (.aload_n 0, 1) := by decide +kernel
theorem dX12_tell_79 : decode cX12_tell 79 = .ok (.getfield 130, 3) := by decide +kernel
theorem dX12_tell_82 : decode cX12_tell 82 = .ok (.iload_n 1, 1) := by decide +kernel
theorem dX12_tell_83 : decode cX12_tell 83 = .ok (.iaload, 1) := by decide +kernel
theorem dX12_tell_84 : decode cX12_tell 84 = .ok (.iconst 1, 1) := by decide +kernel
theorem dX12_tell_85 : decode cX12_tell 85 = .ok (.if_icmp .ne 118, 3) := by decide +kernel
theorem dX12_tell_88 : decode cX12_tell 88 = .ok (.iconst 0, 1) := by decide +kernel
theorem dX12_tell_89 : decode cX12_tell 89 = .ok (.istore 4, 2) := by decide +kernel
theorem dX12_tell_91 : decode cX12_tell 91 = .ok (.aload_n 0, 1) := by decide +kernel
theorem dX12_tell_92 : decode cX12_tell 92 = .ok (.getfield 81, 3) := by decide +kernel
theorem dX12_tell_95 : decode cX12_tell 95 = .ok (.iload_n 3, 1) := by decide +kernel
theorem dX12_tell_96 : decode cX12_tell 96 = .ok (.iaload, 1) := by decide +kernel
theorem dX12_tell_97 : decode cX12_tell 97 = .ok (.iconst 1, 1) := by decide +kernel
theorem dX12_tell_98 : decode cX12_tell 98 = .ok (.isub, 1) := by decide +kernel
theorem dX12_tell_99 : decode cX12_tell 99 = .ok (.istore 5, 2) := by decide +kernel
theorem dX12_tell_101 : decode cX12_tell 101 = .ok (.iload 5, 2) := by decide +kernel
theorem dX12_tell_103 : decode cX12_tell 103 = .ok (.ifCond .lt 29, 3) := by decide +kernel
theorem dX12_tell_106 : decode cX12_tell 106 = .ok (.aload_n 0, 1) := by decide +kernel
theorem dX12_tell_107 : decode cX12_tell 107 = .ok (.aload_n 0, 1) := by decide +kernel
theorem dX12_tell_108 : decode cX12_tell 108 = .ok (.getfield 84, 3) := by decide +kernel
theorem dX12_tell_111 : decode cX12_tell 111 = .ok (.bipush 6, 2) := by decide +kernel
theorem dX12_tell_113 : decode cX12_tell 113 = .ok (.iload_n 3, 1) := by decide +kernel
theorem dX12_tell_114 : decode cX12_tell 114 = .ok (.imul, 1) := by decide +kernel
theorem dX12_tell_115 : decode cX12_tell 115 = .ok (.iload 5, 2) := by decide +kernel
theorem dX12_tell_117 : decode cX12_tell 117 = .ok (.iadd, 1) := by decide +kernel
theorem dX12_tell_118 : decode cX12_tell 118 = .ok (.iaload, 1) := by decide +kernel
theorem dX12_tell_119 : decode cX12_tell 119 = .ok (.iload 4, 2) := by decide +kernel
theorem dX12_tell_121 : decode cX12_tell 121 = .ok (.invokevirtual 353, 3) := by decide +kernel
theorem dX12_tell_124 : decode cX12_tell 124 = .ok (.istore 4, 2) := by decide +kernel
theorem dX12_tell_126 : decode cX12_tell 126 = .ok (.iinc 5 (-1), 3) := by decide +kernel
theorem dX12_tell_129 : decode cX12_tell 129 = .ok (.goto (-28), 3) := by decide +kernel
theorem dX12_tell_132 : decode cX12_tell 132 = .ok (.aload_n 0, 1) := by decide +kernel
theorem dX12_tell_133 : decode cX12_tell 133 = .ok (.getfield 93, 3) := by decide +kernel
theorem dX12_tell_136 : decode cX12_tell 136 = .ok (.iload_n 3, 1) := by decide +kernel
theorem dX12_tell_137 : decode cX12_tell 137 = .ok (.baload, 1) := by decide +kernel
theorem dX12_tell_138 : decode cX12_tell 138 = .ok (.ifCond .eq 22, 3) := by decide +kernel
theorem dX12_tell_141 : decode cX12_tell 141 = .ok (.aload_n 0, 1) := by decide +kernel
theorem dX12_tell_142 : decode cX12_tell 142 = .ok (.aload_n 0, 1) := by decide +kernel
theorem dX12_tell_143 : decode cX12_tell 143 = .ok (.getfield 87, 3) := by decide +kernel
theorem dX12_tell_146 : decode cX12_tell 146 = .ok (.iload_n 3, 1) := by decide +kernel
theorem dX12_tell_147 : decode cX12_tell 147 = .ok (.iaload, 1) := by decide +kernel
theorem dX12_tell_148 : decode cX12_tell 148 = .ok (.aload_n 0, 1) := by decide +kernel
theorem dX12_tell_149 : decode cX12_tell 149 = .ok (.getfield 90, 3) := by decide +kernel
theorem dX12_tell_152 : decode cX12_tell 152 = .ok (.iload_n 3, 1) := by decide +kernel
theorem dX12_tell_153 : decode cX12_tell 153 = .ok (.iaload, 1) := by decide +kernel
theorem dX12_tell_154 : decode cX12_tell 154 = .ok (.invokevirtual 359, 3) := by decide +kernel
theorem dX12_tell_157 : decode cX12_tell 157 = .ok (.goto 13, 3) := by decide +kernel
theorem dX12_tell_160 : decode cX12_tell 160 = .ok (.aload_n 0, 1) := by decide +kernel
theorem dX12_tell_161 : decode cX12_tell 161 = .ok (.aload_n 0, 1) := by decide +kernel
theorem dX12_tell_162 : decode cX12_tell 162 = .ok (.getfield 87, 3) := by decide +kernel
theorem dX12_tell_165 : decode cX12_tell 165 = .ok (.iload_n 3, 1) := by decide +kernel
theorem dX12_tell_166 : decode cX12_tell 166 = .ok (.iaload, 1) := by decide +kernel
theorem dX12_tell_167 : decode cX12_tell 167 = .ok (.invokevirtual 356, 3) := by decide +kernel
theorem dX12_tell_170 : decode cX12_tell 170 = .ok (.istore 5, 2) := by decide +kernel
theorem dX12_tell_172 : decode cX12_tell 172 = .ok (.aload_n 0, 1) := by decide +kernel
theorem dX12_tell_173 : decode cX12_tell 173 = .ok (.aload_n 0, 1) := by decide +kernel
theorem dX12_tell_174 : decode cX12_tell 174 = .ok (.bipush 17, 2) := by decide +kernel
theorem dX12_tell_176 : decode cX12_tell 176 = .ok (.aload_n 0, 1) := by decide +kernel
theorem dX12_tell_177 : decode cX12_tell 177 = .ok (.aload_n 0, 1) := by decide +kernel
theorem dX12_tell_178 : decode cX12_tell 178 = .ok (.getfield 78, 3) := by decide +kernel
theorem dX12_tell_181 : decode cX12_tell 181 = .ok (.iload_n 3, 1) := by decide +kernel
theorem dX12_tell_182 : decode cX12_tell 182 = .ok (.iaload, 1) := by decide +kernel
theorem dX12_tell_183 : decode cX12_tell 183 = .ok (.aload_n 0, 1) := by decide +kernel
theorem dX12_tell_184 : decode cX12_tell 184 = .ok (.iload 4, 2) := by decide +kernel
theorem dX12_tell_186 : decode cX12_tell 186 = .ok (.iload 5, 2) := by decide +kernel
theorem dX12_tell_188 : decode cX12_tell 188 = .ok (.invokevirtual 353, 3) := by decide +kernel
theorem dX12_tell_191 : decode cX12_tell 191 = .ok (.invokevirtual 353, 3) := by decide +kernel
theorem dX12_tell_194 : decode cX12_tell 194 = .ok (.invokevirtual 353, 3) := by decide +kernel
theorem dX12_tell_197 : decode cX12_tell 197 = .ok (.invokevirtual 785, 3) := by decide +kernel
theorem dX12_tell_200 : decode cX12_tell 200 = .ok (.goto 25, 3) := by decide +kernel
theorem dX12_tell_203 : decode cX12_tell 203 = .ok (.aload_n 0, 1) := by decide +kernel
theorem dX12_tell_204 : decode cX12_tell 204 = .ok (.aload_n 0, 1) := by decide +kernel
theorem dX12_tell_205 : decode cX12_tell 205 = .ok (.bipush 18, 2) := by decide +kernel
theorem dX12_tell_207 : decode cX12_tell 207 = .ok (.aload_n 0, 1) := by decide +kernel
theorem dX12_tell_208 : decode cX12_tell 208 = .ok (.getfield 97, 3) := by decide +kernel
theorem dX12_tell_211 : decode cX12_tell 211 = .ok (.iload_n 3, 1) := by decide +kernel
theorem dX12_tell_212 : decode cX12_tell 212 = .ok (.iaload, 1) := by decide +kernel
theorem dX12_tell_213 : decode cX12_tell 213 = .ok (.aload_n 0, 1) := by decide +kernel
theorem dX12_tell_214 : decode cX12_tell 214 = .ok (.getfield 100, 3) := by decide +kernel
theorem dX12_tell_217 : decode cX12_tell 217 = .ok (.iload_n 3, 1) := by decide +kernel
theorem dX12_tell_218 : decode cX12_tell 218 = .ok (.iaload, 1) := by decide +kernel
theorem dX12_tell_219 : decode cX12_tell 219 = .ok (.invokevirtual 362, 3) := by decide +kernel
theorem dX12_tell_222 : decode cX12_tell 222 = .ok (.invokevirtual 785, 3) := by decide +kernel
theorem dX12_tell_225 : decode cX12_tell 225 = .ok (.aload_n 0, 1) := by decide +kernel
theorem dX12_tell_226 : decode cX12_tell 226 = .ok (.iload_n 2, 1) := by decide +kernel
theorem dX12_tell_227 : decode cX12_tell 227 = .ok (.invokevirtual 839, 3) := by decide +kernel
theorem dX12_tell_230 : decode cX12_tell 230 = .ok (.aload_n 0, 1) := by decide +kernel
theorem dX12_tell_231 : decode cX12_tell 231 = .ok (.getfield 441, 3) := by decide +kernel
theorem dX12_tell_234 : decode cX12_tell 234 = .ok (.ireturn, 1) := by decide +kernel

set_option maxHeartbeats 4000000 in
set_option maxRecDepth 100000 in
/-- feed(..) -/
theorem c_m_feed (l : Launch) (D : va_G) (ca : Nat → ClassId) (h0 sz : Nat) (ad : Nat → Nat) (u : mST) (a : Int32) (b : Int32) (c1 : Int32) (d : Int32) (e1 : Int32)   : Met l yX12_feed wsX12_feed pR_0 (va_Pc [.ref (h0), .int (a), .int (b), .int (c1), .int (d), .int (e1)] (fun U => U.heap.size = sz ∧ mWd D ca (fun _ => True) h0 ad u U)) (va_Qv (fun v : mST => v.1 = u.1 ∧ (∀ g : Nat, g ≠ 12 → v.2.1 g = u.2.1 g) ∧ v.2.2 = u.2.2) (mWd D ca (va_A (mCl ca h0 ad u) sz) h0 ad) (va_A (mCl ca h0 ad u) sz)) 0 0 (va_A (mCl ca h0 ad u) sz) := by
  refine Met.ofW (cc := cX12_feed) (maxL := 7) (ret := none) (by decide) rfl ?_
  intro p e s m args below meth c s₁ B hml hv
  obtain ⟨rfl, hsz, hP, hK, hD0⟩ := hv
  have hx := B.exec
  have hb := B.bytes
  have hr := B.returns
  have hts := atoms_spec (ws := wsX12_feed) B.pre
  have hown : s.vm.findClass RX12 = some m.cls := findClass_of_methodNamed B.named
  have hlocks := B.notSynchronized
  subst hsz
  have hD := hD0.self (sz := s.heap.size)
  generalize hAe : va_A (mCl ca h0 ad u) s.heap.size = A at hD ⊢
  have hA : ∀ q : Nat, s.heap.size ≤ q → A q := fun q h => by rw [← hAe]; exact Or.inr h
  have hS : va_S A s.heap s.heap [] := va_S.rf
  have L_waiting := hts (.fieldLink RX12 41 "ProofHouseModel" "waiting" "[I") (by decide +kernel)
  have hin : ∀ w ∈ wsX120, w ∈ wsX12_feed := fun w h => List.mem_cons_of_mem _ (List.mem_append_right _ h)
  have hl := lv_entry ([.ref (h0), .int (a), .int (b), .int (c1), .int (d), .int (e1)]) (n := 7) (Nat.le_of_ble_eq_true rfl)
  rw [lg_entry_eq]
  generalize (lg_sl ([.ref (h0), .int (a), .int (b), .int (c1), .int (d), .int (e1)]) ++ List.replicate (7 - (lg_sl ([.ref (h0), .int (a), .int (b), .int (c1), .int (d), .int (e1)])).length) Slot.unset).toArray = ls at hl ⊢
  have hl : lv_has ls 7 [(0, .ref (h0)), (1, .int (a)), (2, .int (b)), (3, .int (c1)), (4, .int (d)), (5, .int (e1))] := hl
  refine lv_iconst hx hb dX12_feed_0 (v := 0) rfl ?_
  refine lv_istore hx hb dX12_feed_1 hl (by decide) rfl (fun ls hl => ?_)
  have hl : lv_has ls 7 [(6, .int (0)), (0, .ref (h0)), (1, .int (a)), (2, .int (b)), (3, .int (c1)), (4, .int (d)), (5, .int (e1))] := hl
  refine w_loopS (nL := 7) (sta := fun q : mST × Nat => q.1) (lst := fun q : mST × Nat => [(6, .int (nI q.2)), (0, .ref h0), (1, .int a), (2, .int b), (3, .int c1), (4, .int d), (5, .int e1)]) (μ := fun q => 4 - q.2) (I := fun q => q.2 ≤ 4 ∧ q.1.1 = u.1 ∧ (∀ g : Nat, g ≠ 12 → q.1.2.1 g = u.2.1 g) ∧ q.1.2.2 = u.2.2) ?_ (u, 0) ls ⟨Nat.zero_le _, rfl, fun _ _ => rfl, rfl⟩ hP hD hS hl
  clear hP hD hS hl
  intro q H locs ls hI hP hD hS hl ih
  obtain ⟨w, j⟩ := q
  obtain ⟨hI1, hI2, hI4, hI5⟩ := hI
  dsimp only at hI1 hI2 hI4 hI5 hP hD
  have hl : lv_has ls 7 [(6, .int (nI j)), (0, .ref (h0)), (1, .int (a)), (2, .int (b)), (3, .int (c1)), (4, .int (d)), (5, .int (e1))] := hl
  refine lv_iload hx hb dX12_feed_3 (lv_at hl 0 rfl) ?_
  refine lv_iconst hx hb dX12_feed_5 (v := 4) rfl ?_
  refine lv_icmp_ge hx hb dX12_feed_6 (tgt := 133) rfl (fun h1 => ?_) (fun h1 => ?_)
  · exact W.vret hx hb hr (fun t ht hW => ⟨⟨w, rfl, ⟨hI2, hI4, hI5⟩, by rw [ht]; exact hP, va_K.moved hW.alike hK, hD⟩, hS.F ht⟩) hS.2.2 dX12_feed_133
  · have hj : j < 4 := by
      rcases Nat.lt_or_ge j 4 with h | h
      · exact h
      · exact absurd (nI_le h (by omega)) h1
    refine lv_aload_n hx hb dX12_feed_9 rfl (lv_at hl 1 rfl) ?_
    refine va_get (D := D) (ci := 12) (v := .ref (ad 12)) (C := RX12) (T := TX12) (N := 149) hx hb hts hin hown hK hP 0 mH_0 rfl 12 (by decide) L_waiting (fun _ h9 => h9) mF_12 dX12_feed_10 ?_
    refine lv_iload hx hb dX12_feed_13 (lv_at hl 0 rfl) ?_
    refine lv_iload_n hx hb dX12_feed_15 rfl (lv_at hl 2 rfl) ?_
    refine lv_bipush hx hb dX12_feed_16 (v := 24) rfl ?_
    refine lv_bipush hx hb dX12_feed_18 (v := 8) rfl ?_
    refine lv_iload hx hb dX12_feed_20 (lv_at hl 0 rfl) ?_
    refine lv_imul hx hb dX12_feed_22 ?_
    refine lv_topi (fun v2 ev2 => ?_)
    refine lv_isub hx hb dX12_feed_23 ?_
    refine lv_topi (fun v3 ev3 => ?_)
    refine lv_ishr hx hb dX12_feed_24 ?_
    refine lv_topi (fun v4 ev4 => ?_)
    refine lv_sipush hx hb dX12_feed_25 (v := 255) rfl ?_
    refine lv_iand hx hb dX12_feed_28 ?_
    refine lv_topi (fun v5 ev5 => ?_)
    refine va_iast hx hb hK hP hD hS 10 9 mG_12 rfl (vp_in_nI (by omega) (by decide)) dX12_feed_29 (fun H locs hP hD hS => ?_)
    rw [mSA_12] at hP hD
    refine lv_aload_n hx hb dX12_feed_30 rfl (lv_at hl 1 rfl) ?_
    refine va_get (D := D) (ci := 12) (v := .ref (ad 12)) (C := RX12) (T := TX12) (N := 149) hx hb hts hin hown hK hP 0 mH_0 rfl 12 (by decide) L_waiting (fun _ h9 => h9) mF_12 dX12_feed_31 ?_
    refine lv_iconst hx hb dX12_feed_34 (v := 4) rfl ?_
    refine lv_iload hx hb dX12_feed_35 (lv_at hl 0 rfl) ?_
    refine lv_iadd hx hb dX12_feed_37 ?_
    refine lv_topi (fun v6 ev6 => ?_)
    refine lv_iload_n hx hb dX12_feed_38 rfl (lv_at hl 3 rfl) ?_
    refine lv_bipush hx hb dX12_feed_39 (v := 24) rfl ?_
    refine lv_bipush hx hb dX12_feed_41 (v := 8) rfl ?_
    refine lv_iload hx hb dX12_feed_43 (lv_at hl 0 rfl) ?_
    refine lv_imul hx hb dX12_feed_45 ?_
    refine lv_topi (fun v7 ev7 => ?_)
    refine lv_isub hx hb dX12_feed_46 ?_
    refine lv_topi (fun v8 ev8 => ?_)
    refine lv_ishr hx hb dX12_feed_47 ?_
    refine lv_topi (fun v9 ev9 => ?_)
    refine lv_sipush hx hb dX12_feed_48 (v := 255) rfl ?_
    refine lv_iand hx hb dX12_feed_51 ?_
    refine lv_topi (fun v10 ev10 => ?_)
    refine va_iast hx hb hK hP hD hS 10 9 mG_12 rfl (by rw [ev6, show (4 : Int32) = nI 4 from rfl, nI_add]; exact vp_in_nI (by omega) (by decide)) dX12_feed_52 (fun H locs hP hD hS => ?_)
    rw [mSA_12] at hP hD
    refine lv_aload_n hx hb dX12_feed_53 rfl (lv_at hl 1 rfl) ?_
    refine va_get (D := D) (ci := 12) (v := .ref (ad 12)) (C := RX12) (T := TX12) (N := 149) hx hb hts hin hown hK hP 0 mH_0 rfl 12 (by decide) L_waiting (fun _ h9 => h9) mF_12 dX12_feed_54 ?_
    refine lv_bipush hx hb dX12_feed_57 (v := 8) rfl ?_
    refine lv_iload hx hb dX12_feed_59 (lv_at hl 0 rfl) ?_
    refine lv_iadd hx hb dX12_feed_61 ?_
    refine lv_topi (fun v11 ev11 => ?_)
    refine lv_iload_n hx hb dX12_feed_62 rfl (lv_at hl 4 rfl) ?_
    refine lv_bipush hx hb dX12_feed_63 (v := 24) rfl ?_
    refine lv_bipush hx hb dX12_feed_65 (v := 8) rfl ?_
    refine lv_iload hx hb dX12_feed_67 (lv_at hl 0 rfl) ?_
    refine lv_imul hx hb dX12_feed_69 ?_
    refine lv_topi (fun v12 ev12 => ?_)
    refine lv_isub hx hb dX12_feed_70 ?_
    refine lv_topi (fun v13 ev13 => ?_)
    refine lv_ishr hx hb dX12_feed_71 ?_
    refine lv_topi (fun v14 ev14 => ?_)
    refine lv_sipush hx hb dX12_feed_72 (v := 255) rfl ?_
    refine lv_iand hx hb dX12_feed_75 ?_
    refine lv_topi (fun v15 ev15 => ?_)
    refine va_iast hx hb hK hP hD hS 10 9 mG_12 rfl (by rw [ev11, show (8 : Int32) = nI 8 from rfl, nI_add]; exact vp_in_nI (by omega) (by decide)) dX12_feed_76 (fun H locs hP hD hS => ?_)
    rw [mSA_12] at hP hD
    refine lv_aload_n hx hb dX12_feed_77 rfl (lv_at hl 1 rfl) ?_
    refine va_get (D := D) (ci := 12) (v := .ref (ad 12)) (C := RX12) (T := TX12) (N := 149) hx hb hts hin hown hK hP 0 mH_0 rfl 12 (by decide) L_waiting (fun _ h9 => h9) mF_12 dX12_feed_78 ?_
    refine lv_bipush hx hb dX12_feed_81 (v := 12) rfl ?_
    refine lv_iload hx hb dX12_feed_83 (lv_at hl 0 rfl) ?_
    refine lv_iadd hx hb dX12_feed_85 ?_
    refine lv_topi (fun v16 ev16 => ?_)
    refine lv_iload hx hb dX12_feed_86 (lv_at hl 5 rfl) ?_
    refine lv_bipush hx hb dX12_feed_88 (v := 24) rfl ?_
    refine lv_bipush hx hb dX12_feed_90 (v := 8) rfl ?_
    refine lv_iload hx hb dX12_feed_92 (lv_at hl 0 rfl) ?_
    refine lv_imul hx hb dX12_feed_94 ?_
    refine lv_topi (fun v17 ev17 => ?_)
    refine lv_isub hx hb dX12_feed_95 ?_
    refine lv_topi (fun v18 ev18 => ?_)
    refine lv_ishr hx hb dX12_feed_96 ?_
    refine lv_topi (fun v19 ev19 => ?_)
    refine lv_sipush hx hb dX12_feed_97 (v := 255) rfl ?_
    refine lv_iand hx hb dX12_feed_100 ?_
    refine lv_topi (fun v20 ev20 => ?_)
    refine va_iast hx hb hK hP hD hS 10 9 mG_12 rfl (by rw [ev16, show (12 : Int32) = nI 12 from rfl, nI_add]; exact vp_in_nI (by omega) (by decide)) dX12_feed_101 (fun H locs hP hD hS => ?_)
    rw [mSA_12] at hP hD
    refine lv_aload_n hx hb dX12_feed_102 rfl (lv_at hl 1 rfl) ?_
    refine va_get (D := D) (ci := 12) (v := .ref (ad 12)) (C := RX12) (T := TX12) (N := 149) hx hb hts hin hown hK hP 0 mH_0 rfl 12 (by decide) L_waiting (fun _ h9 => h9) mF_12 dX12_feed_103 ?_
    refine lv_bipush hx hb dX12_feed_106 (v := 16) rfl ?_
    refine lv_iload hx hb dX12_feed_108 (lv_at hl 0 rfl) ?_
    refine lv_iadd hx hb dX12_feed_110 ?_
    refine lv_topi (fun v21 ev21 => ?_)
    refine lv_iload hx hb dX12_feed_111 (lv_at hl 6 rfl) ?_
    refine lv_bipush hx hb dX12_feed_113 (v := 24) rfl ?_
    refine lv_bipush hx hb dX12_feed_115 (v := 8) rfl ?_
    refine lv_iload hx hb dX12_feed_117 (lv_at hl 0 rfl) ?_
    refine lv_imul hx hb dX12_feed_119 ?_
    refine lv_topi (fun v22 ev22 => ?_)
    refine lv_isub hx hb dX12_feed_120 ?_
    refine lv_topi (fun v23 ev23 => ?_)
    refine lv_ishr hx hb dX12_feed_121 ?_
    refine lv_topi (fun v24 ev24 => ?_)
    refine lv_sipush hx hb dX12_feed_122 (v := 255) rfl ?_
    refine lv_iand hx hb dX12_feed_125 ?_
    refine lv_topi (fun v25 ev25 => ?_)
    refine va_iast hx hb hK hP hD hS 10 9 mG_12 rfl (by rw [ev21, show (16 : Int32) = nI 16 from rfl, nI_add]; exact vp_in_nI (by omega) (by decide)) dX12_feed_126 (fun H locs hP hD hS => ?_)
    rw [mSA_12] at hP hD
    refine lv_iinc (v := nI j + 1) hx hb dX12_feed_127 hl (k := 0) rfl rfl (by decide) rfl (fun ls hl => ?_)
    have hl : lv_has ls 7 [(6, .int (nI j + 1)), (0, .ref (h0)), (1, .int (a)), (2, .int (b)), (3, .int (c1)), (4, .int (d)), (5, .int (e1))] := hl
    refine lv_goto hx hb dX12_feed_130 (tgt := 3) rfl ?_
    refine ih (mA (mA (mA (mA (mA w 12 (nI j).toNatClampNeg (v5)) 12 (v6).toNatClampNeg (v10)) 12 (v11).toNatClampNeg (v15)) 12 (v16).toNatClampNeg (v20)) 12 (v21).toNatClampNeg (v25), j + 1) H locs ls ⟨by show j + 1 ≤ 4; omega, hI2, fun g h1 => ?_, hI5⟩ (by show 4 - (j + 1) < 4 - j; omega) hP hD hS (by rw [nI_1] at hl; exact hl)
    rw [← hI4 g h1]
    rw [mA_n _ _ _ h1, mA_n _ _ _ h1, mA_n _ _ _ h1, mA_n _ _ _ h1, mA_n _ _ _ h1]

set_option maxHeartbeats 4000000 in
set_option maxRecDepth 100000 in
/-- count(what) without theorems -/
theorem c_m_count0 (l : Launch) (D : va_G) (ca : Nat → ClassId) (h0 sz : Nat) (ad : Nat → Nat) (u : mST) (a : Int32)  (hT : u.1 42 = 0) : Met l yX12_count wsX12_count pR_0 (va_Pc [.ref (h0), .int (a)] (fun U => U.heap.size = sz ∧ mWd D ca (fun _ => True) h0 ad u U)) (va_Qi (fun (r : Int32) (v : mST) => v = u ∧ r = if a = 0 then u.1 35 else if a = 1 then u.1 42 else if a = 2 then 0 else if a = 3 then 0 else if a = 4 then u.1 63 else -1) (mWd D ca (va_A (mCl ca h0 ad u) sz) h0 ad) (va_A (mCl ca h0 ad u) sz)) 0 0 (va_A (mCl ca h0 ad u) sz) := by
  refine Met.ofW (cc := cX12_count) (maxL := 5) (ret := (some .int)) (by decide) rfl ?_
  intro p e s m args below meth c s₁ B hml hv
  obtain ⟨rfl, hsz, hP, hK, hD0⟩ := hv
  have hx := B.exec
  have hb := B.bytes
  have hr := B.returns
  have hts := atoms_spec (ws := wsX12_count) B.pre
  have hown : s.vm.findClass RX12 = some m.cls := findClass_of_methodNamed B.named
  have hlocks := B.notSynchronized
  subst hsz
  have hD := hD0.self (sz := s.heap.size)
  generalize hAe : va_A (mCl ca h0 ad u) s.heap.size = A at hD ⊢
  have hA : ∀ q : Nat, s.heap.size ≤ q → A q := fun q h => by rw [← hAe]; exact Or.inr h
  have hS : va_S A s.heap s.heap [] := va_S.rf
  have L_theorems := hts (.fieldLink RX12 699 "ProofHouseModel" "theorems" "I") (by decide +kernel)
  have L_ruleLeft := hts (.fieldLink RX12 106 "ProofHouseModel" "ruleLeft" "[I") (by decide +kernel)
  have L_ruleOn := hts (.fieldLink RX12 124 "ProofHouseModel" "ruleOn" "[Z") (by decide +kernel)
  have L_defs := hts (.fieldLink RX12 474 "ProofHouseModel" "defs" "I") (by decide +kernel)
  have L_leftMany := hts (.fieldLink RX12 751 "ProofHouseModel" "leftMany" "I") (by decide +kernel)
  have hin : ∀ w ∈ wsX120, w ∈ wsX12_count := fun w h => List.mem_cons_of_mem _ (List.mem_append_right _ h)
  have hl := lv_entry ([.ref (h0), .int (a)]) (n := 5) (Nat.le_of_ble_eq_true rfl)
  rw [lg_entry_eq]
  generalize (lg_sl ([.ref (h0), .int (a)]) ++ List.replicate (5 - (lg_sl ([.ref (h0), .int (a)])).length) Slot.unset).toArray = ls at hl ⊢
  have hl : lv_has ls 5 [(0, .ref (h0)), (1, .int (a))] := hl
  refine lv_iconst hx hb dX12_count_0 (v := 0) rfl ?_
  refine lv_istore_n hx hb dX12_count_1 rfl hl (by decide) rfl (fun ls hl => ?_)
  have hl : lv_has ls 5 [(2, .int (0)), (0, .ref (h0)), (1, .int (a))] := hl
  refine lv_iconst hx hb dX12_count_2 (v := 0) rfl ?_
  refine lv_istore_n hx hb dX12_count_3 rfl hl (by decide) rfl (fun ls hl => ?_)
  have hl : lv_has ls 5 [(3, .int (0)), (2, .int (0)), (0, .ref (h0)), (1, .int (a))] := hl
  refine lv_iconst hx hb dX12_count_4 (v := 0) rfl ?_
  refine lv_istore hx hb dX12_count_5 hl (by decide) rfl (fun ls hl => ?_)
  have hl : lv_has ls 5 [(4, .int (0)), (3, .int (0)), (2, .int (0)), (0, .ref (h0)), (1, .int (a))] := hl
  refine lv_iload hx hb dX12_count_7 (lv_at hl 0 rfl) ?_
  refine lv_aload_n hx hb dX12_count_9 rfl (lv_at hl 3 rfl) ?_
  refine va_get (D := D) (ci := 12) (v := .int (u.1 42)) (C := RX12) (T := TX12) (N := 149) hx hb hts hin hown hK hP 0 mH_0 rfl 42 (by decide) L_theorems (fun _ h9 => h9) mF_42 dX12_count_10 ?_
  refine lv_icmp_ge hx hb dX12_count_13 (tgt := 70) rfl (fun h1 => ?_) (fun h1 => ?_)
  · refine lv_iload_n hx hb dX12_count_70 rfl (lv_at hl 4 rfl) ?_
    refine lv_if_ne hx hb dX12_count_71 (tgt := 81) rfl (fun h2 => ?_) (fun h2 => ?_)
    · refine lv_iload_n hx hb dX12_count_81 rfl (lv_at hl 4 rfl) ?_
      refine lv_iconst hx hb dX12_count_82 (v := 1) rfl ?_
      refine lv_icmp_ne hx hb dX12_count_83 (tgt := 93) rfl (fun h3 => ?_) (fun h3 => ?_)
      · refine lv_iload_n hx hb dX12_count_93 rfl (lv_at hl 4 rfl) ?_
        refine lv_iconst hx hb dX12_count_94 (v := 2) rfl ?_
        refine lv_icmp_ne hx hb dX12_count_95 (tgt := 102) rfl (fun h4 => ?_) (fun h4 => ?_)
        · refine lv_iload_n hx hb dX12_count_102 rfl (lv_at hl 4 rfl) ?_
          refine lv_iconst hx hb dX12_count_103 (v := 3) rfl ?_
          refine lv_icmp_ne hx hb dX12_count_104 (tgt := 111) rfl (fun h5 => ?_) (fun h5 => ?_)
          · refine lv_iload_n hx hb dX12_count_111 rfl (lv_at hl 4 rfl) ?_
            refine lv_iconst hx hb dX12_count_112 (v := 4) rfl ?_
            refine lv_icmp_ne hx hb dX12_count_113 (tgt := 123) rfl (fun h6 => ?_) (fun h6 => ?_)
            · refine lv_iconst hx hb dX12_count_123 (v := (-1)) rfl ?_
              exact W.iret (v := (-1)) hx hb hr (fun t ht hW => ⟨⟨(-1), u, rfl, (by refine ⟨rfl, ?_⟩; first | (rw [if_pos h2]; done) | (rw [if_neg h2, if_pos h3]; done) | (rw [if_neg h2, if_neg h3, if_pos h4]; done) | (rw [if_neg h2, if_neg h3, if_neg h4, if_pos h5]; done) | (rw [if_neg h2, if_neg h3, if_neg h4, if_neg h5, if_pos h6]; done) | (rw [if_neg h2, if_neg h3, if_neg h4, if_neg h5, if_neg h6]; done)), by rw [ht]; exact hP, va_K.moved hW.alike hK, hD⟩, hS.F ht⟩) hS.2.2 dX12_count_124
            · refine lv_aload_n hx hb dX12_count_116 rfl (lv_at hl 3 rfl) ?_
              refine va_get (D := D) (ci := 12) (v := .int (u.1 63)) (C := RX12) (T := TX12) (N := 149) hx hb hts hin hown hK hP 0 mH_0 rfl 63 (by decide) L_leftMany (fun _ h9 => h9) mF_63 dX12_count_117 ?_
              refine lv_goto hx hb dX12_count_120 (tgt := 124) rfl ?_
              exact W.iret (v := u.1 63) hx hb hr (fun t ht hW => ⟨⟨u.1 63, u, rfl, (by refine ⟨rfl, ?_⟩; first | (rw [if_pos h2]; done) | (rw [if_neg h2, if_pos h3]; done) | (rw [if_neg h2, if_neg h3, if_pos h4]; done) | (rw [if_neg h2, if_neg h3, if_neg h4, if_pos h5]; done) | (rw [if_neg h2, if_neg h3, if_neg h4, if_neg h5, if_pos h6]; done) | (rw [if_neg h2, if_neg h3, if_neg h4, if_neg h5, if_neg h6]; done)), by rw [ht]; exact hP, va_K.moved hW.alike hK, hD⟩, hS.F ht⟩) hS.2.2 dX12_count_124
          · refine lv_iload_n hx hb dX12_count_107 rfl (lv_at hl 1 rfl) ?_
            refine lv_goto hx hb dX12_count_108 (tgt := 124) rfl ?_
            exact W.iret (v := 0) hx hb hr (fun t ht hW => ⟨⟨0, u, rfl, (by refine ⟨rfl, ?_⟩; first | (rw [if_pos h2]; done) | (rw [if_neg h2, if_pos h3]; done) | (rw [if_neg h2, if_neg h3, if_pos h4]; done) | (rw [if_neg h2, if_neg h3, if_neg h4, if_pos h5]; done) | (rw [if_neg h2, if_neg h3, if_neg h4, if_neg h5, if_pos h6]; done) | (rw [if_neg h2, if_neg h3, if_neg h4, if_neg h5, if_neg h6]; done)), by rw [ht]; exact hP, va_K.moved hW.alike hK, hD⟩, hS.F ht⟩) hS.2.2 dX12_count_124
        · refine lv_iload_n hx hb dX12_count_98 rfl (lv_at hl 2 rfl) ?_
          refine lv_goto hx hb dX12_count_99 (tgt := 124) rfl ?_
          exact W.iret (v := 0) hx hb hr (fun t ht hW => ⟨⟨0, u, rfl, (by refine ⟨rfl, ?_⟩; first | (rw [if_pos h2]; done) | (rw [if_neg h2, if_pos h3]; done) | (rw [if_neg h2, if_neg h3, if_pos h4]; done) | (rw [if_neg h2, if_neg h3, if_neg h4, if_pos h5]; done) | (rw [if_neg h2, if_neg h3, if_neg h4, if_neg h5, if_pos h6]; done) | (rw [if_neg h2, if_neg h3, if_neg h4, if_neg h5, if_neg h6]; done)), by rw [ht]; exact hP, va_K.moved hW.alike hK, hD⟩, hS.F ht⟩) hS.2.2 dX12_count_124
      · refine lv_aload_n hx hb dX12_count_86 rfl (lv_at hl 3 rfl) ?_
        refine va_get (D := D) (ci := 12) (v := .int (u.1 42)) (C := RX12) (T := TX12) (N := 149) hx hb hts hin hown hK hP 0 mH_0 rfl 42 (by decide) L_theorems (fun _ h9 => h9) mF_42 dX12_count_87 ?_
        refine lv_goto hx hb dX12_count_90 (tgt := 124) rfl ?_
        exact W.iret (v := u.1 42) hx hb hr (fun t ht hW => ⟨⟨u.1 42, u, rfl, (by refine ⟨rfl, ?_⟩; first | (rw [if_pos h2]; done) | (rw [if_neg h2, if_pos h3]; done) | (rw [if_neg h2, if_neg h3, if_pos h4]; done) | (rw [if_neg h2, if_neg h3, if_neg h4, if_pos h5]; done) | (rw [if_neg h2, if_neg h3, if_neg h4, if_neg h5, if_pos h6]; done) | (rw [if_neg h2, if_neg h3, if_neg h4, if_neg h5, if_neg h6]; done)), by rw [ht]; exact hP, va_K.moved hW.alike hK, hD⟩, hS.F ht⟩) hS.2.2 dX12_count_124
    · refine lv_aload_n hx hb dX12_count_74 rfl (lv_at hl 3 rfl) ?_
      refine va_get (D := D) (ci := 12) (v := .int (u.1 35)) (C := RX12) (T := TX12) (N := 149) hx hb hts hin hown hK hP 0 mH_0 rfl 35 (by decide) L_defs (fun _ h9 => h9) mF_35 dX12_count_75 ?_
      refine lv_goto hx hb dX12_count_78 (tgt := 124) rfl ?_
      exact W.iret (v := u.1 35) hx hb hr (fun t ht hW => ⟨⟨u.1 35, u, rfl, (by refine ⟨rfl, ?_⟩; first | (rw [if_pos h2]; done) | (rw [if_neg h2, if_pos h3]; done) | (rw [if_neg h2, if_neg h3, if_pos h4]; done) | (rw [if_neg h2, if_neg h3, if_neg h4, if_pos h5]; done) | (rw [if_neg h2, if_neg h3, if_neg h4, if_neg h5, if_pos h6]; done) | (rw [if_neg h2, if_neg h3, if_neg h4, if_neg h5, if_neg h6]; done)), by rw [ht]; exact hP, va_K.moved hW.alike hK, hD⟩, hS.F ht⟩) hS.2.2 dX12_count_124
  · exact absurd (by rw [hT]; decide) h1

set_option maxHeartbeats 4000000 in
set_option maxRecDepth 100000 in
/-- tell(k) with nothing taken -/
theorem c_m_tell0 (l : Launch) (D : va_G) (ca : Nat → ClassId) (h0 sz : Nat) (ad : Nat → Nat) (u : mST) (a : Int32)  (hT : u.1 54 = 0) : Met l yX12_tell wsX12_tell pR_0 (va_Pc [.ref (h0), .int (a)] (fun U => U.heap.size = sz ∧ mWd D ca (fun _ => True) h0 ad u U)) (va_Qi (fun (r : Int32) (v : mST) => v = u ∧ r = -1) (mWd D ca (va_A (mCl ca h0 ad u) sz) h0 ad) (va_A (mCl ca h0 ad u) sz)) 0 0 (va_A (mCl ca h0 ad u) sz) := by
  refine Met.ofW (cc := cX12_tell) (maxL := 6) (ret := (some .int)) (by decide) rfl ?_
  intro p e s m args below meth c s₁ B hml hv
  obtain ⟨rfl, hsz, hP, hK, hD0⟩ := hv
  have hx := B.exec
  have hb := B.bytes
  have hr := B.returns
  have hts := atoms_spec (ws := wsX12_tell) B.pre
  have hown : s.vm.findClass RX12 = some m.cls := findClass_of_methodNamed B.named
  have hlocks := B.notSynchronized
  subst hsz
  have hD := hD0.self (sz := s.heap.size)
  generalize hAe : va_A (mCl ca h0 ad u) s.heap.size = A at hD ⊢
  have hA : ∀ q : Nat, s.heap.size ≤ q → A q := fun q h => by rw [← hAe]; exact Or.inr h
  have hS : va_S A s.heap s.heap [] := va_S.rf
  have L_taken := hts (.fieldLink RX12 845 "ProofHouseModel" "taken" "I") (by decide +kernel)
  have L_objects := hts (.fieldLink RX12 332 "ProofHouseModel" "objects" "I") (by decide +kernel)
  have L_takenSort := hts (.fieldLink RX12 130 "ProofHouseModel" "takenSort" "[I") (by decide +kernel)
  have L_defMany := hts (.fieldLink RX12 81 "ProofHouseModel" "defMany" "[I") (by decide +kernel)
  have L_defVariable := hts (.fieldLink RX12 84 "ProofHouseModel" "defVariable" "[I") (by decide +kernel)
  have L_defSelf := hts (.fieldLink RX12 93 "ProofHouseModel" "defSelf" "[Z") (by decide +kernel)
  have L_defBody := hts (.fieldLink RX12 87 "ProofHouseModel" "defBody" "[I") (by decide +kernel)
  have L_defMeasure := hts (.fieldLink RX12 90 "ProofHouseModel" "defMeasure" "[I") (by decide +kernel)
  have L_defName := hts (.fieldLink RX12 78 "ProofHouseModel" "defName" "[I") (by decide +kernel)
  have L_theoremName := hts (.fieldLink RX12 97 "ProofHouseModel" "theoremName" "[I") (by decide +kernel)
  have L_theorem := hts (.fieldLink RX12 100 "ProofHouseModel" "theorem" "[I") (by decide +kernel)
  have L_outSize := hts (.fieldLink RX12 441 "ProofHouseModel" "outSize" "I") (by decide +kernel)
  have hin : ∀ w ∈ wsX120, w ∈ wsX12_tell := fun w h => List.mem_cons_of_mem _ (List.mem_append_right _ h)
  have hl := lv_entry ([.ref (h0), .int (a)]) (n := 6) (Nat.le_of_ble_eq_true rfl)
  rw [lg_entry_eq]
  generalize (lg_sl ([.ref (h0), .int (a)]) ++ List.replicate (6 - (lg_sl ([.ref (h0), .int (a)])).length) Slot.unset).toArray = ls at hl ⊢
  have hl : lv_has ls 6 [(0, .ref (h0)), (1, .int (a))] := hl
  refine lv_iload_n hx hb dX12_tell_0 rfl (lv_at hl 1 rfl) ?_
  refine lv_if_lt hx hb dX12_tell_1 (tgt := 12) rfl (fun h1 => ?_) (fun h1 => ?_)
  · refine lv_iconst hx hb dX12_tell_12 (v := (-1)) rfl ?_
    exact W.iret (v := (-1)) hx hb hr (fun t ht hW => ⟨⟨(-1), u, rfl, ⟨rfl, rfl⟩, by rw [ht]; exact hP, va_K.moved hW.alike hK, hD⟩, hS.F ht⟩) hS.2.2 dX12_tell_13
  · refine lv_iload_n hx hb dX12_tell_4 rfl (lv_at hl 1 rfl) ?_
    refine lv_aload_n hx hb dX12_tell_5 rfl (lv_at hl 0 rfl) ?_
    refine va_get (D := D) (ci := 12) (v := .int (u.1 54)) (C := RX12) (T := TX12) (N := 149) hx hb hts hin hown hK hP 0 mH_0 rfl 54 (by decide) L_taken (fun _ h9 => h9) mF_54 dX12_tell_6 ?_
    refine lv_icmp_lt hx hb dX12_tell_9 (tgt := 14) rfl (fun h2 => ?_) (fun h2 => ?_)
    · exact absurd h2 (by rw [hT]; exact h1)
    · refine lv_iconst hx hb dX12_tell_12 (v := (-1)) rfl ?_
      exact W.iret (v := (-1)) hx hb hr (fun t ht hW => ⟨⟨(-1), u, rfl, ⟨rfl, rfl⟩, by rw [ht]; exact hP, va_K.moved hW.alike hK, hD⟩, hS.F ht⟩) hS.2.2 dX12_tell_13

set_option maxHeartbeats 4000000 in
set_option maxRecDepth 100000 in
/-- skip() at the end -/
theorem c_m_skip0 (l : Launch) (D : va_G) (ca : Nat → ClassId) (h0 sz : Nat) (ad : Nat → Nat) (u : mST)   (hA0 : u.1 23 = 0) (hT : u.1 14 = 0) : Met l yX12_skip wsX12_skip pR_0 (va_Pc [.ref (h0)] (fun U => U.heap.size = sz ∧ mWd D ca (fun _ => True) h0 ad u U)) (va_Qv (fun v : mST => v = u) (mWd D ca (va_A (mCl ca h0 ad u) sz) h0 ad) (va_A (mCl ca h0 ad u) sz)) 0 0 (va_A (mCl ca h0 ad u) sz) := by
  refine Met.ofW (cc := cX12_skip) (maxL := 2) (ret := none) (by decide) rfl ?_
  intro p e s m args below meth c s₁ B hml hv
  obtain ⟨rfl, hsz, hP, hK, hD0⟩ := hv
  have hx := B.exec
  have hb := B.bytes
  have hr := B.returns
  have hts := atoms_spec (ws := wsX12_skip) B.pre
  have hown : s.vm.findClass RX12 = some m.cls := findClass_of_methodNamed B.named
  have hlocks := B.notSynchronized
  subst hsz
  have hD := hD0.self (sz := s.heap.size)
  generalize hAe : va_A (mCl ca h0 ad u) s.heap.size = A at hD ⊢
  have hA : ∀ q : Nat, s.heap.size ≤ q → A q := fun q h => by rw [← hAe]; exact Or.inr h
  have hS : va_S A s.heap s.heap [] := va_S.rf
  have L_at := hts (.fieldLink RX12 371 "ProofHouseModel" "at" "I") (by decide +kernel)
  have L_textSize := hts (.fieldLink RX12 374 "ProofHouseModel" "textSize" "I") (by decide +kernel)
  have L_text := hts (.fieldLink RX12 44 "ProofHouseModel" "text" "[I") (by decide +kernel)
  have hin : ∀ w ∈ wsX120, w ∈ wsX12_skip := fun w h => List.mem_cons_of_mem _ (List.mem_append_right _ h)
  have hl := lv_entry ([.ref (h0)]) (n := 2) (Nat.le_of_ble_eq_true rfl)
  rw [lg_entry_eq]
  generalize (lg_sl ([.ref (h0)]) ++ List.replicate (2 - (lg_sl ([.ref (h0)])).length) Slot.unset).toArray = ls at hl ⊢
  have hl : lv_has ls 2 [(0, .ref (h0))] := hl
  refine lv_iconst hx hb dX12_skip_0 (v := 1) rfl ?_
  refine lv_istore_n hx hb dX12_skip_1 rfl hl (by decide) rfl (fun ls hl => ?_)
  have hl : lv_has ls 2 [(1, .int (1)), (0, .ref (h0))] := hl
  refine lv_iload_n hx hb dX12_skip_2 rfl (lv_at hl 0 rfl) ?_
  refine lv_if_eq hx hb dX12_skip_3 (tgt := 115) rfl (fun h1 => ?_) (fun h1 => ?_)
  · exact absurd h1 (by decide)
  · refine lv_aload_n hx hb dX12_skip_6 rfl (lv_at hl 1 rfl) ?_
    refine va_get (D := D) (ci := 12) (v := .int (u.1 23)) (C := RX12) (T := TX12) (N := 149) hx hb hts hin hown hK hP 0 mH_0 rfl 23 (by decide) L_at (fun _ h9 => h9) mF_23 dX12_skip_7 ?_
    refine lv_aload_n hx hb dX12_skip_10 rfl (lv_at hl 1 rfl) ?_
    refine va_get (D := D) (ci := 12) (v := .int (u.1 14)) (C := RX12) (T := TX12) (N := 149) hx hb hts hin hown hK hP 0 mH_0 rfl 14 (by decide) L_textSize (fun _ h9 => h9) mF_14 dX12_skip_11 ?_
    refine lv_icmp_ge hx hb dX12_skip_14 (tgt := 115) rfl (fun h2 => ?_) (fun h2 => ?_)
    · exact W.vret hx hb hr (fun t ht hW => ⟨⟨u, rfl, rfl, by rw [ht]; exact hP, va_K.moved hW.alike hK, hD⟩, hS.F ht⟩) hS.2.2 dX12_skip_115
    · exact absurd (by rw [hA0, hT]; decide) h2

set_option maxHeartbeats 4000000 in
set_option maxRecDepth 100000 in
/-- forget(from), from being all -/
theorem c_m_forget0 (l : Launch) (D : va_G) (ca : Nat → ClassId) (h0 sz : Nat) (ad : Nat → Nat) (u : mST) (a : Int32)  (hT : u.1 8 = a) : Met l yX12_forget wsX12_forget pR_0 (va_Pc [.ref (h0), .int (a)] (fun U => U.heap.size = sz ∧ mWd D ca (fun _ => True) h0 ad u U)) (va_Qv (fun v : mST => v = u) (mWd D ca (va_A (mCl ca h0 ad u) sz) h0 ad) (va_A (mCl ca h0 ad u) sz)) 0 0 (va_A (mCl ca h0 ad u) sz) := by
  refine Met.ofW (cc := cX12_forget) (maxL := 2) (ret := none) (by decide) rfl ?_
  intro p e s m args below meth c s₁ B hml hv
  obtain ⟨rfl, hsz, hP, hK, hD0⟩ := hv
  have hx := B.exec
  have hb := B.bytes
  have hr := B.returns
  have hts := atoms_spec (ws := wsX12_forget) B.pre
  have hown : s.vm.findClass RX12 = some m.cls := findClass_of_methodNamed B.named
  have hlocks := B.notSynchronized
  subst hsz
  have hD := hD0.self (sz := s.heap.size)
  generalize hAe : va_A (mCl ca h0 ad u) s.heap.size = A at hD ⊢
  have hA : ∀ q : Nat, s.heap.size ≤ q → A q := fun q h => by rw [← hAe]; exact Or.inr h
  have hS : va_S A s.heap s.heap [] := va_S.rf
  have L_objects := hts (.fieldLink RX12 332 "ProofHouseModel" "objects" "I") (by decide +kernel)
  have L_heads := hts (.fieldLink RX12 31 "ProofHouseModel" "heads" "[I") (by decide +kernel)
  have L_next := hts (.fieldLink RX12 17 "ProofHouseModel" "next" "[I") (by decide +kernel)
  have L_left := hts (.fieldLink RX12 8 "ProofHouseModel" "left" "[I") (by decide +kernel)
  have L_symbols := hts (.fieldLink RX12 346 "ProofHouseModel" "symbols" "I") (by decide +kernel)
  have L_naturals := hts (.fieldLink RX12 339 "ProofHouseModel" "naturals" "I") (by decide +kernel)
  have hin : ∀ w ∈ wsX120, w ∈ wsX12_forget := fun w h => List.mem_cons_of_mem _ (List.mem_append_right _ h)
  have hl := lv_entry ([.ref (h0), .int (a)]) (n := 2) (Nat.le_of_ble_eq_true rfl)
  rw [lg_entry_eq]
  generalize (lg_sl ([.ref (h0), .int (a)]) ++ List.replicate (2 - (lg_sl ([.ref (h0), .int (a)])).length) Slot.unset).toArray = ls at hl ⊢
  have hl : lv_has ls 2 [(0, .ref (h0)), (1, .int (a))] := hl
  refine lv_aload_n hx hb dX12_forget_0 rfl (lv_at hl 0 rfl) ?_
  refine va_get (D := D) (ci := 12) (v := .int (u.1 8)) (C := RX12) (T := TX12) (N := 149) hx hb hts hin hown hK hP 0 mH_0 rfl 8 (by decide) L_objects (fun _ h9 => h9) mF_8 dX12_forget_1 ?_
  refine lv_iload_n hx hb dX12_forget_4 rfl (lv_at hl 1 rfl) ?_
  refine lv_icmp_le hx hb dX12_forget_5 (tgt := 90) rfl (fun h1 => ?_) (fun h1 => ?_)
  · exact W.vret hx hb hr (fun t ht hW => ⟨⟨u, rfl, rfl, by rw [ht]; exact hP, va_K.moved hW.alike hK, hD⟩, hS.F ht⟩) hS.2.2 dX12_forget_90
  · exact absurd (by rw [hT]; exact Int32.le_refl _) h1

def wr_reads : List Cond := .code yX12_reads cX12_reads 2 (some .boolean) :: (([Cond.fieldLink RX12 371 "ProofHouseModel" "at" "I", Cond.fieldLink RX12 380 "ProofHouseModel" "open" "I", Cond.fieldLink RX12 387 "ProofHouseModel" "itemSize" "I", Cond.fieldLink RX12 383 "ProofHouseModel" "done" "Z", Cond.fieldLink RX12 377 "ProofHouseModel" "readFault" "I", Cond.fieldLink RX12 59 "ProofHouseModel" "readPlace" "I", Cond.fieldLink RX12 374 "ProofHouseModel" "textSize" "I"] ++ (wsV RX12 429 RX12 yX12_skip wsX12_skip ++ (wsV RX12 410 RX12 yX12_bad wsX12_bad))) ++ wsX120)
set_option maxRecDepth 100000 in
theorem g_wr_reads_skip : GoodIn wr_reads (wsV RX12 429 RX12 yX12_skip wsX12_skip) := goodIn_sub (fun w h => List.mem_cons_of_mem _ (List.mem_append_left _ (List.mem_append_right _ (List.mem_append_left _ h)))) (by decide +kernel)
set_option maxRecDepth 100000 in
theorem g_wr_reads_bad : GoodIn wr_reads (wsV RX12 410 RX12 yX12_bad wsX12_bad) := goodIn_sub (fun w h => List.mem_cons_of_mem _ (List.mem_append_left _ (List.mem_append_right _ (List.mem_append_right _ h)))) (by decide +kernel)

set_option maxHeartbeats 4000000 in
set_option maxRecDepth 100000 in
/-- reads() of an empty text -/
theorem c_m_reads0 (l : Launch) (D : va_G) (ca : Nat → ClassId) (h0 sz : Nat) (ad : Nat → Nat) (u : mST)   (hT : u.1 14 = 0) : Met l yX12_reads wr_reads ({ frames := 1, cells := 0, slots := 0, locals := 30 }) (va_Pc [.ref (h0)] (fun U => U.heap.size = sz ∧ mWd D ca (fun _ => True) h0 ad u U)) (va_Qi (fun (r : Int32) (v : mST) => r = 0 ∧ (∀ k : Nat, k ≠ 23 → k ≠ 30 → k ≠ 32 → k ≠ 34 → k ≠ 24 → k ≠ 25 → k ≠ 14 → v.1 k = u.1 k) ∧ v.2 = u.2) (mWd D ca (va_A (mCl ca h0 ad u) sz) h0 ad) (va_A (mCl ca h0 ad u) sz)) 0 0 (va_A (mCl ca h0 ad u) sz) := by
  refine Met.ofW (cc := cX12_reads) (maxL := 2) (ret := (some .boolean)) (by decide) rfl ?_
  intro p e s m args below meth c s₁ B hml hv
  obtain ⟨rfl, hsz, hP, hK, hD0⟩ := hv
  have hx := B.exec
  have hb := B.bytes
  have hr := B.returns
  have hts := atoms_spec (ws := wr_reads) B.pre
  have hown : s.vm.findClass RX12 = some m.cls := findClass_of_methodNamed B.named
  have hlocks := B.notSynchronized
  subst hsz
  have hD := hD0.self (sz := s.heap.size)
  generalize hAe : va_A (mCl ca h0 ad u) s.heap.size = A at hD ⊢
  have hA : ∀ q : Nat, s.heap.size ≤ q → A q := fun q h => by rw [← hAe]; exact Or.inr h
  have hS : va_S A s.heap s.heap [] := va_S.rf
  have L_at := hts (.fieldLink RX12 371 "ProofHouseModel" "at" "I") (List.mem_of_getElem? (i := 1) rfl)
  have L_open := hts (.fieldLink RX12 380 "ProofHouseModel" "open" "I") (List.mem_of_getElem? (i := 2) rfl)
  have L_itemSize := hts (.fieldLink RX12 387 "ProofHouseModel" "itemSize" "I") (List.mem_of_getElem? (i := 3) rfl)
  have L_done := hts (.fieldLink RX12 383 "ProofHouseModel" "done" "Z") (List.mem_of_getElem? (i := 4) rfl)
  have L_readFault := hts (.fieldLink RX12 377 "ProofHouseModel" "readFault" "I") (List.mem_of_getElem? (i := 5) rfl)
  have L_readPlace := hts (.fieldLink RX12 59 "ProofHouseModel" "readPlace" "I") (List.mem_of_getElem? (i := 6) rfl)
  have L_textSize := hts (.fieldLink RX12 374 "ProofHouseModel" "textSize" "I") (List.mem_of_getElem? (i := 7) rfl)
  have hin : ∀ w ∈ wsX120, w ∈ wr_reads := fun w h => List.mem_cons_of_mem _ (List.mem_append_right _ h)
  have hl := lv_entry ([.ref (h0)]) (n := 2) (Nat.le_of_ble_eq_true rfl)
  rw [lg_entry_eq]
  generalize (lg_sl ([.ref (h0)]) ++ List.replicate (2 - (lg_sl ([.ref (h0)])).length) Slot.unset).toArray = ls at hl ⊢
  have hl : lv_has ls 2 [(0, .ref (h0))] := hl
  refine lv_aload_n hx hb dX12_reads_0 rfl (lv_at hl 0 rfl) ?_
  refine lv_iconst hx hb dX12_reads_1 (v := 0) rfl ?_
  refine va_put (D := D) (ci := 12) (v := .int (0)) (ty := .int) (C := RX12) (T := TX12) (N := 149) hx hb hts hin tyX12 tyX12_ok nmX12 hown hK hP hD hS 0 mH_0 rfl 23 (by decide) L_at (fun _ h9 => h9) rfl (tyX12_ok 23 (by decide)) rfl rfl (Nat.le_of_ble_eq_true rfl) dX12_reads_2 (fun H locs hP hD hS => ?_)
  rw [mSI_23] at hP hD
  refine lv_aload_n hx hb dX12_reads_5 rfl (lv_at hl 0 rfl) ?_
  refine lv_iconst hx hb dX12_reads_6 (v := 0) rfl ?_
  refine va_put (D := D) (ci := 12) (v := .int (0)) (ty := .int) (C := RX12) (T := TX12) (N := 149) hx hb hts hin tyX12 tyX12_ok nmX12 hown hK hP hD hS 0 mH_0 rfl 30 (by decide) L_open (fun _ h9 => h9) rfl (tyX12_ok 30 (by decide)) rfl rfl (Nat.le_of_ble_eq_true rfl) dX12_reads_7 (fun H locs hP hD hS => ?_)
  rw [mSI_30] at hP hD
  refine lv_aload_n hx hb dX12_reads_10 rfl (lv_at hl 0 rfl) ?_
  refine lv_iconst hx hb dX12_reads_11 (v := 0) rfl ?_
  refine va_put (D := D) (ci := 12) (v := .int (0)) (ty := .int) (C := RX12) (T := TX12) (N := 149) hx hb hts hin tyX12 tyX12_ok nmX12 hown hK hP hD hS 0 mH_0 rfl 32 (by decide) L_itemSize (fun _ h9 => h9) rfl (tyX12_ok 32 (by decide)) rfl rfl (Nat.le_of_ble_eq_true rfl) dX12_reads_12 (fun H locs hP hD hS => ?_)
  rw [mSI_32] at hP hD
  refine lv_aload_n hx hb dX12_reads_15 rfl (lv_at hl 0 rfl) ?_
  refine lv_iconst hx hb dX12_reads_16 (v := 0) rfl ?_
  refine va_put (D := D) (ci := 12) (v := .int (0)) (ty := .boolean) (C := RX12) (T := TX12) (N := 149) hx hb hts hin tyX12 tyX12_ok nmX12 hown hK hP hD hS 0 mH_0 rfl 34 (by decide) L_done (fun _ h9 => h9) rfl (tyX12_ok 34 (by decide)) rfl rfl (Nat.le_of_ble_eq_true rfl) dX12_reads_17 (fun H locs hP hD hS => ?_)
  rw [mSI_34] at hP hD
  refine lv_aload_n hx hb dX12_reads_20 rfl (lv_at hl 0 rfl) ?_
  refine lv_iconst hx hb dX12_reads_21 (v := 0) rfl ?_
  refine va_put (D := D) (ci := 12) (v := .int (0)) (ty := .int) (C := RX12) (T := TX12) (N := 149) hx hb hts hin tyX12 tyX12_ok nmX12 hown hK hP hD hS 0 mH_0 rfl 24 (by decide) L_readFault (fun _ h9 => h9) rfl (tyX12_ok 24 (by decide)) rfl rfl (Nat.le_of_ble_eq_true rfl) dX12_reads_22 (fun H locs hP hD hS => ?_)
  rw [mSI_24] at hP hD
  refine lv_aload_n hx hb dX12_reads_25 rfl (lv_at hl 0 rfl) ?_
  refine lv_iconst hx hb dX12_reads_26 (v := (-1)) rfl ?_
  refine va_put (D := D) (ci := 12) (v := .int ((-1))) (ty := .int) (C := RX12) (T := TX12) (N := 149) hx hb hts hin tyX12 tyX12_ok nmX12 hown hK hP hD hS 0 mH_0 rfl 25 (by decide) L_readPlace (fun _ h9 => h9) rfl (tyX12_ok 25 (by decide)) rfl rfl (Nat.le_of_ble_eq_true rfl) dX12_reads_27 (fun H locs hP hD hS => ?_)
  rw [mSI_25] at hP hD
  refine lv_iconst hx hb dX12_reads_30 (v := 0) rfl ?_
  refine lv_istore_n hx hb dX12_reads_31 rfl hl (by decide) rfl (fun ls hl => ?_)
  have hl : lv_has ls 2 [(1, .int (0)), (0, .ref (h0))] := hl
  refine lv_aload_n hx hb dX12_reads_32 rfl (lv_at hl 1 rfl) ?_
  have hZt : (mI (mI (mI (mI (mI (mI u 23 (0)) 30 (0)) 32 (0)) 34 (0)) 24 (0)) 25 ((-1))).1 14 = 0 := hT
  have hZa : (mI (mI (mI (mI (mI (mI u 23 (0)) 30 (0)) 32 (0)) 34 (0)) 24 (0)) 25 ((-1))).1 23 = 0 := rfl
  have hZf : (mI (mI (mI (mI (mI (mI u 23 (0)) 30 (0)) 32 (0)) 34 (0)) 24 (0)) 25 ((-1))).1 24 = 0 := rfl
  have hZd : (mI (mI (mI (mI (mI (mI u 23 (0)) 30 (0)) 32 (0)) 34 (0)) 24 (0)) 25 ((-1))).1 34 = 0 := rfl
  have hFc := pl_free hD hS hA
  refine va_callv (va_runV (As := []) (rest := []) ⟨hx, hb, hml, hown, hts⟩ (c_m_skip0 l D ca h0 H.size ad (mI (mI (mI (mI (mI (mI u 23 (0)) 30 (0)) 32 (0)) 34 (0)) 24 (0)) 25 ((-1))) hZa hZt) (cwV 0 hts g_wr_reads_skip rfl rfl rfl (by decide +kernel) ⟨Nat.le_of_ble_eq_true rfl, Nat.le_of_ble_eq_true rfl⟩) ⟨fun a U g mk q => by obtain ⟨q0, q1, qP, qK, qD⟩ := q; exact ⟨q0, q1, qP, va_K.moved (u := U) (U := U.calling g mk a) (Vm.Alike.refl U.vm) qK, qD⟩, va_recv hK hP (ci := 12) (q0 := 0) rfl rfl, fun U hU hW => ⟨rfl, by rw [hU], by rw [hU]; exact hP, va_K.moved hW.alike hK, hD.weaken (fun _ _ _ _ => trivial)⟩⟩ rfl rfl hl.1 rfl (lv_room (Nat.le_of_ble_eq_true rfl)) dX12_reads_33 ⟨(Nat.zero_le _), (Nat.zero_le _)⟩) hS (fun q _ h => hFc q h) hFc (fun u1 t H1 locs ht hvm hwu1 hB hz1 hk1 hS => ?_)
  obtain ⟨hP1, hK1, hD1⟩ := hB
  rw [ht] at hP1
  have hK := va_K.moved hvm.symm hK1
  have hD := hD1.weaken (fun _ _ _ h => hFc _ h)
  have hP := hP1
  clear hP1 hK1 hD1 hFc
  generalize H1 = H at hP hS hz1 hk1 ht ⊢
  have hP : va_P D vwCl (mCl ca h0 ad u1) H := hP
  have hD : va_D A (mCl ca h0 ad u1) := hD
  obtain ⟨w1, hw1⟩ : ∃ z, z = mI (mI (mI (mI (mI (mI u 23 (0)) 30 (0)) 32 (0)) 34 (0)) 24 (0)) 25 ((-1)) := ⟨_, rfl⟩
  rw [← hw1] at hZa hZt hZf hZd hwu1
  rw [hwu1] at hP hD
  refine lv_aload_n hx hb dX12_reads_36 rfl (lv_at hl 1 rfl) ?_
  refine va_get (D := D) (ci := 12) (v := .int (w1.1 24)) (C := RX12) (T := TX12) (N := 149) hx hb hts hin hown hK hP 0 mH_0 rfl 24 (by decide) L_readFault (fun _ h9 => h9) mF_24 dX12_reads_37 ?_
  refine lv_if_ne hx hb dX12_reads_40 (tgt := 69) rfl (fun h3 => ?_) (fun h3 => ?_)
  · exact absurd hZf h3
  · refine lv_aload_n hx hb dX12_reads_43 rfl (lv_at hl 1 rfl) ?_
    refine va_get (D := D) (ci := 12) (v := .int (w1.1 23)) (C := RX12) (T := TX12) (N := 149) hx hb hts hin hown hK hP 0 mH_0 rfl 23 (by decide) L_at (fun _ h9 => h9) mF_23 dX12_reads_44 ?_
    refine lv_aload_n hx hb dX12_reads_47 rfl (lv_at hl 1 rfl) ?_
    refine va_get (D := D) (ci := 12) (v := .int (w1.1 14)) (C := RX12) (T := TX12) (N := 149) hx hb hts hin hown hK hP 0 mH_0 rfl 14 (by decide) L_textSize (fun _ h9 => h9) mF_14 dX12_reads_48 ?_
    refine lv_icmp_ge hx hb dX12_reads_51 (tgt := 69) rfl (fun h4 => ?_) (fun h4 => ?_)
    · refine lv_aload_n hx hb dX12_reads_69 rfl (lv_at hl 1 rfl) ?_
      refine va_get (D := D) (ci := 12) (v := .int (w1.1 24)) (C := RX12) (T := TX12) (N := 149) hx hb hts hin hown hK hP 0 mH_0 rfl 24 (by decide) L_readFault (fun _ h9 => h9) mF_24 dX12_reads_70 ?_
      refine lv_if_ne hx hb dX12_reads_73 (tgt := 92) rfl (fun h5 => ?_) (fun h5 => ?_)
      · exact absurd hZf h5
      · refine lv_aload_n hx hb dX12_reads_76 rfl (lv_at hl 1 rfl) ?_
        refine va_get (D := D) (ci := 12) (v := .int (w1.1 34)) (C := RX12) (T := TX12) (N := 149) hx hb hts hin hown hK hP 0 mH_0 rfl 34 (by decide) L_done (fun _ h9 => h9) mF_34 dX12_reads_77 ?_
        refine lv_if_ne hx hb dX12_reads_80 (tgt := 92) rfl (fun h6 => ?_) (fun h6 => ?_)
        · exact absurd hZd h6
        · refine lv_aload_n hx hb dX12_reads_83 rfl (lv_at hl 1 rfl) ?_
          refine lv_iconst hx hb dX12_reads_84 (v := 3) rfl ?_
          refine lv_aload_n hx hb dX12_reads_85 rfl (lv_at hl 1 rfl) ?_
          refine va_get (D := D) (ci := 12) (v := .int (w1.1 14)) (C := RX12) (T := TX12) (N := 149) hx hb hts hin hown hK hP 0 mH_0 rfl 14 (by decide) L_textSize (fun _ h9 => h9) mF_14 dX12_reads_86 ?_
          have hFc := pl_free hD hS hA
          refine va_callv (va_runV (As := [.int (3), .int (w1.1 14)]) (rest := []) ⟨hx, hb, hml, hown, hts⟩ (c_m_bad l D ca h0 H.size ad w1 (3) (w1.1 14)) (cwV 2 hts g_wr_reads_bad rfl rfl rfl (by decide +kernel) ⟨Nat.le_of_ble_eq_true rfl, Nat.le_of_ble_eq_true rfl⟩) ⟨fun a U g mk q => by obtain ⟨q0, q1, qP, qK, qD⟩ := q; exact ⟨q0, q1, qP, va_K.moved (u := U) (U := U.calling g mk a) (Vm.Alike.refl U.vm) qK, qD⟩, va_recv hK hP (ci := 12) (q0 := 0) rfl rfl, fun U hU hW => ⟨rfl, by rw [hU], by rw [hU]; exact hP, va_K.moved hW.alike hK, hD.weaken (fun _ _ _ _ => trivial)⟩⟩ rfl rfl hl.1 rfl (lv_room (Nat.le_of_ble_eq_true rfl)) dX12_reads_89 ⟨(Nat.zero_le _), (Nat.zero_le _)⟩) hS (fun q _ h => hFc q h) hFc (fun u7 t H1 locs ht hvm hwu7 hB hz1 hk1 hS => ?_)
          obtain ⟨hP1, hK1, hD1⟩ := hB
          rw [ht] at hP1
          have hK := va_K.moved hvm.symm hK1
          have hD := hD1.weaken (fun _ _ _ h => hFc _ h)
          have hP := hP1
          clear hP1 hK1 hD1 hFc
          generalize H1 = H at hP hS hz1 hk1 ht ⊢
          have hP : va_P D vwCl (mCl ca h0 ad u7) H := hP
          have hD : va_D A (mCl ca h0 ad u7) := hD
          rw [if_pos hZf] at hwu7
          rw [hwu7] at hP hD
          refine lv_aload_n hx hb dX12_reads_92 rfl (lv_at hl 1 rfl) ?_
          refine lv_iconst hx hb dX12_reads_93 (v := 0) rfl ?_
          refine va_put (D := D) (ci := 12) (v := .int (0)) (ty := .int) (C := RX12) (T := TX12) (N := 149) hx hb hts hin tyX12 tyX12_ok nmX12 hown hK hP hD hS 0 mH_0 rfl 14 (by decide) L_textSize (fun _ h9 => h9) rfl (tyX12_ok 14 (by decide)) rfl rfl (Nat.le_of_ble_eq_true rfl) dX12_reads_94 (fun H locs hP hD hS => ?_)
          rw [mSI_14] at hP hD
          refine lv_aload_n hx hb dX12_reads_97 rfl (lv_at hl 1 rfl) ?_
          refine va_get (D := D) (ci := 12) (v := .int (3)) (C := RX12) (T := TX12) (N := 149) hx hb hts hin hown hK hP 0 mH_0 rfl 24 (by decide) L_readFault (fun _ h9 => h9) mF_24 dX12_reads_98 ?_
          refine lv_if_ne hx hb dX12_reads_101 (tgt := 108) rfl (fun h9 => ?_) (fun h9 => ?_)
          · refine lv_iconst hx hb dX12_reads_108 (v := 0) rfl ?_
            exact W.zret (v := 0) hx hb hr rfl (fun t ht hW => ⟨⟨0, mI (mI (mI w1 24 3) 25 (w1.1 14)) 14 (0), rfl, (by subst hw1; exact ⟨rfl, fun k k1 k2 k3 k4 k5 k6 k7 => (if_neg k7).trans ((if_neg k6).trans ((if_neg k5).trans ((if_neg k6).trans ((if_neg k5).trans ((if_neg k4).trans ((if_neg k3).trans ((if_neg k2).trans (if_neg k1)))))))), rfl⟩), by rw [ht]; exact hP, va_K.moved hW.alike hK, hD⟩, hS.F ht⟩) hS.2.2 dX12_reads_109
          · exact absurd h9 (by decide)
    · exact absurd (by rw [hZa, hZt]; decide) h4

def wr_run : List Cond := .code yX12_run cX12_run 3 (some .int) :: (([Cond.fieldLink RX12 561 "ProofHouseModel" "steps" "I", Cond.fieldLink RX12 480 "ProofHouseModel" "work" "I", Cond.fieldLink RX12 779 "ProofHouseModel" "proved" "Z", Cond.fieldLink RX12 751 "ProofHouseModel" "leftMany" "I", Cond.fieldLink RX12 441 "ProofHouseModel" "outSize" "I", Cond.fieldLink RX12 332 "ProofHouseModel" "objects" "I", Cond.fieldLink RX12 848 "ProofHouseModel" "began" "I", Cond.fieldLink RX12 733 "ProofHouseModel" "rows" "I", Cond.fieldLink RX12 845 "ProofHouseModel" "taken" "I", Cond.fieldLink RX12 390 "ProofHouseModel" "whole" "I", Cond.fieldLink RX12 136 "ProofHouseModel" "comingName" "I"] ++ (wsV RX12 995 RX12 yX12_allRulesIn wsX12_allRulesIn ++ (wsV RX12 998 RX12 yX12_reads wr_reads ++ (wsV RX12 839 RX12 yX12_forget wsX12_forget)))) ++ wsX120)
set_option maxRecDepth 100000 in
theorem g_wr_run_allRulesIn : GoodIn wr_run (wsV RX12 995 RX12 yX12_allRulesIn wsX12_allRulesIn) := goodIn_sub (fun w h => List.mem_cons_of_mem _ (List.mem_append_left _ (List.mem_append_right _ (List.mem_append_left _ h)))) (by decide +kernel)
set_option maxRecDepth 100000 in
theorem g_wr_run_reads : GoodIn wr_run (wsV RX12 998 RX12 yX12_reads wr_reads) := goodIn_sub (fun w h => List.mem_cons_of_mem _ (List.mem_append_left _ (List.mem_append_right _ (List.mem_append_right _ (List.mem_append_left _ h))))) (by decide +kernel)
set_option maxRecDepth 100000 in
theorem g_wr_run_forget : GoodIn wr_run (wsV RX12 839 RX12 yX12_forget wsX12_forget) := goodIn_sub (fun w h => List.mem_cons_of_mem _ (List.mem_append_left _ (List.mem_append_right _ (List.mem_append_right _ (List.mem_append_right _ h))))) (by decide +kernel)

set_option maxHeartbeats 4000000 in
set_option maxRecDepth 100000 in
/-- run() of an empty text -/
theorem c_m_run0 (l : Launch) (D : va_G) (ca : Nat → ClassId) (h0 sz : Nat) (ad : Nat → Nat) (u : mST)   (hT : u.1 14 = 0) : Met l yX12_run wr_run ({ frames := 2, cells := 0, slots := 0, locals := 60 }) (va_Pc [.ref (h0)] (fun U => U.heap.size = sz ∧ mWd D ca (fun _ => True) h0 ad u U)) (va_Qi (fun (r : Int32) (v : mST) => r = 1) (mWd D ca (va_A (mCl ca h0 ad u) sz) h0 ad) (va_A (mCl ca h0 ad u) sz)) 0 0 (va_A (mCl ca h0 ad u) sz) := by
  refine Met.ofW (cc := cX12_run) (maxL := 3) (ret := (some .int)) (by decide) rfl ?_
  intro p e s m args below meth c s₁ B hml hv
  obtain ⟨rfl, hsz, hP, hK, hD0⟩ := hv
  have hx := B.exec
  have hb := B.bytes
  have hr := B.returns
  have hts := atoms_spec (ws := wr_run) B.pre
  have hown : s.vm.findClass RX12 = some m.cls := findClass_of_methodNamed B.named
  have hlocks := B.notSynchronized
  subst hsz
  have hD := hD0.self (sz := s.heap.size)
  generalize hAe : va_A (mCl ca h0 ad u) s.heap.size = A at hD ⊢
  have hA : ∀ q : Nat, s.heap.size ≤ q → A q := fun q h => by rw [← hAe]; exact Or.inr h
  have hS : va_S A s.heap s.heap [] := va_S.rf
  have L_steps := hts (.fieldLink RX12 561 "ProofHouseModel" "steps" "I") (List.mem_of_getElem? (i := 1) rfl)
  have L_work := hts (.fieldLink RX12 480 "ProofHouseModel" "work" "I") (List.mem_of_getElem? (i := 2) rfl)
  have L_proved := hts (.fieldLink RX12 779 "ProofHouseModel" "proved" "Z") (List.mem_of_getElem? (i := 3) rfl)
  have L_leftMany := hts (.fieldLink RX12 751 "ProofHouseModel" "leftMany" "I") (List.mem_of_getElem? (i := 4) rfl)
  have L_outSize := hts (.fieldLink RX12 441 "ProofHouseModel" "outSize" "I") (List.mem_of_getElem? (i := 5) rfl)
  have L_objects := hts (.fieldLink RX12 332 "ProofHouseModel" "objects" "I") (List.mem_of_getElem? (i := 6) rfl)
  have L_began := hts (.fieldLink RX12 848 "ProofHouseModel" "began" "I") (List.mem_of_getElem? (i := 7) rfl)
  have L_rows := hts (.fieldLink RX12 733 "ProofHouseModel" "rows" "I") (List.mem_of_getElem? (i := 8) rfl)
  have L_taken := hts (.fieldLink RX12 845 "ProofHouseModel" "taken" "I") (List.mem_of_getElem? (i := 9) rfl)
  have L_whole := hts (.fieldLink RX12 390 "ProofHouseModel" "whole" "I") (List.mem_of_getElem? (i := 10) rfl)
  have L_comingName := hts (.fieldLink RX12 136 "ProofHouseModel" "comingName" "I") (List.mem_of_getElem? (i := 11) rfl)
  have hin : ∀ w ∈ wsX120, w ∈ wr_run := fun w h => List.mem_cons_of_mem _ (List.mem_append_right _ h)
  have hl := lv_entry ([.ref (h0)]) (n := 3) (Nat.le_of_ble_eq_true rfl)
  rw [lg_entry_eq]
  generalize (lg_sl ([.ref (h0)]) ++ List.replicate (3 - (lg_sl ([.ref (h0)])).length) Slot.unset).toArray = ls at hl ⊢
  have hl : lv_has ls 3 [(0, .ref (h0))] := hl
  refine lv_aload_n hx hb dX12_run_0 rfl (lv_at hl 0 rfl) ?_
  refine lv_iconst hx hb dX12_run_1 (v := 0) rfl ?_
  refine va_put (D := D) (ci := 12) (v := .int (0)) (ty := .int) (C := RX12) (T := TX12) (N := 149) hx hb hts hin tyX12 tyX12_ok nmX12 hown hK hP hD hS 0 mH_0 rfl 60 (by decide) L_steps (fun _ h9 => h9) rfl (tyX12_ok 60 (by decide)) rfl rfl (Nat.le_of_ble_eq_true rfl) dX12_run_2 (fun H locs hP hD hS => ?_)
  rw [mSI_60] at hP hD
  refine lv_aload_n hx hb dX12_run_5 rfl (lv_at hl 0 rfl) ?_
  refine lv_iconst hx hb dX12_run_6 (v := 0) rfl ?_
  refine va_put (D := D) (ci := 12) (v := .int (0)) (ty := .int) (C := RX12) (T := TX12) (N := 149) hx hb hts hin tyX12 tyX12_ok nmX12 hown hK hP hD hS 0 mH_0 rfl 61 (by decide) L_work (fun _ h9 => h9) rfl (tyX12_ok 61 (by decide)) rfl rfl (Nat.le_of_ble_eq_true rfl) dX12_run_7 (fun H locs hP hD hS => ?_)
  rw [mSI_61] at hP hD
  refine lv_aload_n hx hb dX12_run_10 rfl (lv_at hl 0 rfl) ?_
  refine lv_iconst hx hb dX12_run_11 (v := 0) rfl ?_
  refine va_put (D := D) (ci := 12) (v := .int (0)) (ty := .boolean) (C := RX12) (T := TX12) (N := 149) hx hb hts hin tyX12 tyX12_ok nmX12 hown hK hP hD hS 0 mH_0 rfl 62 (by decide) L_proved (fun _ h9 => h9) rfl (tyX12_ok 62 (by decide)) rfl rfl (Nat.le_of_ble_eq_true rfl) dX12_run_12 (fun H locs hP hD hS => ?_)
  rw [mSI_62] at hP hD
  refine lv_aload_n hx hb dX12_run_15 rfl (lv_at hl 0 rfl) ?_
  refine lv_iconst hx hb dX12_run_16 (v := 0) rfl ?_
  refine va_put (D := D) (ci := 12) (v := .int (0)) (ty := .int) (C := RX12) (T := TX12) (N := 149) hx hb hts hin tyX12 tyX12_ok nmX12 hown hK hP hD hS 0 mH_0 rfl 63 (by decide) L_leftMany (fun _ h9 => h9) rfl (tyX12_ok 63 (by decide)) rfl rfl (Nat.le_of_ble_eq_true rfl) dX12_run_17 (fun H locs hP hD hS => ?_)
  rw [mSI_63] at hP hD
  refine lv_aload_n hx hb dX12_run_20 rfl (lv_at hl 0 rfl) ?_
  refine lv_iconst hx hb dX12_run_21 (v := 0) rfl ?_
  refine va_put (D := D) (ci := 12) (v := .int (0)) (ty := .int) (C := RX12) (T := TX12) (N := 149) hx hb hts hin tyX12 tyX12_ok nmX12 hown hK hP hD hS 0 mH_0 rfl 16 (by decide) L_outSize (fun _ h9 => h9) rfl (tyX12_ok 16 (by decide)) rfl rfl (Nat.le_of_ble_eq_true rfl) dX12_run_22 (fun H locs hP hD hS => ?_)
  rw [mSI_16] at hP hD
  refine lv_aload_n hx hb dX12_run_25 rfl (lv_at hl 0 rfl) ?_
  refine lv_aload_n hx hb dX12_run_26 rfl (lv_at hl 0 rfl) ?_
  refine va_get (D := D) (ci := 12) (v := .int (u.1 8)) (C := RX12) (T := TX12) (N := 149) hx hb hts hin hown hK hP 0 mH_0 rfl 8 (by decide) L_objects (fun _ h9 => h9) mF_8 dX12_run_27 ?_
  refine va_put (D := D) (ci := 12) (v := .int (u.1 8)) (ty := .int) (C := RX12) (T := TX12) (N := 149) hx hb hts hin tyX12 tyX12_ok nmX12 hown hK hP hD hS 0 mH_0 rfl 132 (by decide) L_began (fun _ h9 => h9) rfl (tyX12_ok 132 (by decide)) rfl rfl (Nat.le_of_ble_eq_true rfl) dX12_run_30 (fun H locs hP hD hS => ?_)
  rw [mSI_132] at hP hD
  refine lv_aload_n hx hb dX12_run_33 rfl (lv_at hl 0 rfl) ?_
  refine lv_iconst hx hb dX12_run_34 (v := 0) rfl ?_
  refine va_put (D := D) (ci := 12) (v := .int (0)) (ty := .int) (C := RX12) (T := TX12) (N := 149) hx hb hts hin tyX12 tyX12_ok nmX12 hown hK hP hD hS 0 mH_0 rfl 117 (by decide) L_rows (fun _ h9 => h9) rfl (tyX12_ok 117 (by decide)) rfl rfl (Nat.le_of_ble_eq_true rfl) dX12_run_35 (fun H locs hP hD hS => ?_)
  rw [mSI_117] at hP hD
  refine lv_aload_n hx hb dX12_run_38 rfl (lv_at hl 0 rfl) ?_
  obtain ⟨w1, hw1⟩ : ∃ z, z = mI (mI (mI (mI (mI (mI (mI u 60 (0)) 61 (0)) 62 (0)) 63 (0)) 16 (0)) 132 (u.1 8)) 117 (0) := ⟨_, rfl⟩
  rw [← hw1] at hP hD
  have hZt : w1.1 14 = 0 := by rw [hw1]; exact hT
  have hZb : w1.1 132 = w1.1 8 := by rw [hw1]; rfl
  have hFc := pl_free hD hS hA
  refine va_callv (va_runV (As := []) (rest := []) ⟨hx, hb, hml, hown, hts⟩ (c_m_allRulesIn l D ca h0 H.size ad w1) (cwV 0 hts g_wr_run_allRulesIn rfl rfl rfl (by decide +kernel) ⟨Nat.le_of_ble_eq_true rfl, Nat.le_of_ble_eq_true rfl⟩) ⟨fun a U g mk q => by obtain ⟨q0, q1, qP, qK, qD⟩ := q; exact ⟨q0, q1, qP, va_K.moved (u := U) (U := U.calling g mk a) (Vm.Alike.refl U.vm) qK, qD⟩, va_recv hK hP (ci := 12) (q0 := 0) rfl rfl, fun U hU hW => ⟨rfl, by rw [hU], by rw [hU]; exact hP, va_K.moved hW.alike hK, hD.weaken (fun _ _ _ _ => trivial)⟩⟩ rfl rfl hl.1 rfl (lv_room (Nat.le_of_ble_eq_true rfl)) dX12_run_39 ⟨(Nat.zero_le _), (Nat.zero_le _)⟩) hS (fun q _ h => hFc q h) hFc (fun u1 t H1 locs ht hvm hwu1 hB hz1 hk1 hS => ?_)
  obtain ⟨hP1, hK1, hD1⟩ := hB
  rw [ht] at hP1
  have hK := va_K.moved hvm.symm hK1
  have hD := hD1.weaken (fun _ _ _ h => hFc _ h)
  have hP := hP1
  clear hP1 hK1 hD1 hFc
  generalize H1 = H at hP hS hz1 hk1 ht ⊢
  have hP : va_P D vwCl (mCl ca h0 ad u1) H := hP
  have hD : va_D A (mCl ca h0 ad u1) := hD
  obtain ⟨hq1, hq2, hq3, hq4⟩ := hwu1
  rw [← hq1] at hZt hZb
  refine lv_aload_n hx hb dX12_run_42 rfl (lv_at hl 0 rfl) ?_
  have hFc := pl_free hD hS hA
  refine va_calli (va_runV (As := []) (rest := []) ⟨hx, hb, hml, hown, hts⟩ (c_m_reads0 l D ca h0 H.size ad u1 hZt) (cwV 0 hts g_wr_run_reads rfl rfl rfl (by decide +kernel) ⟨Nat.le_of_ble_eq_true rfl, Nat.le_of_ble_eq_true rfl⟩) ⟨fun a U g mk q => by obtain ⟨q0, q1, qP, qK, qD⟩ := q; exact ⟨q0, q1, qP, va_K.moved (u := U) (U := U.calling g mk a) (Vm.Alike.refl U.vm) qK, qD⟩, va_recv hK hP (ci := 12) (q0 := 0) rfl rfl, fun U hU hW => ⟨rfl, by rw [hU], by rw [hU]; exact hP, va_K.moved hW.alike hK, hD.weaken (fun _ _ _ _ => trivial)⟩⟩ rfl rfl hl.1 rfl (lv_room (Nat.le_of_ble_eq_true rfl)) dX12_run_43 ⟨(Nat.zero_le _), (Nat.zero_le _)⟩) hS (fun q _ h => hFc q h) hFc (fun r4 u3 t H1 locs ht hvm hwu3 hB hz1 hk1 hS => ?_)
  obtain ⟨hP1, hK1, hD1⟩ := hB
  rw [ht] at hP1
  have hK := va_K.moved hvm.symm hK1
  have hD := hD1.weaken (fun _ _ _ h => hFc _ h)
  have hP := hP1
  clear hP1 hK1 hD1 hFc
  generalize H1 = H at hP hS hz1 hk1 ht ⊢
  have hP : va_P D vwCl (mCl ca h0 ad u3) H := hP
  have hD : va_D A (mCl ca h0 ad u3) := hD
  obtain ⟨hr1, hr2, hr3⟩ := hwu3
  have hZc : u3.1 8 = u3.1 132 := by rw [hr2 8 (by decide) (by decide) (by decide) (by decide) (by decide) (by decide) (by decide), hr2 132 (by decide) (by decide) (by decide) (by decide) (by decide) (by decide) (by decide)]; exact hZb.symm
  refine lv_if_ne hx hb dX12_run_46 (tgt := 59) rfl (fun h5 => ?_) (fun h5 => ?_)
  · exact absurd hr1 h5
  · refine lv_aload_n hx hb dX12_run_49 rfl (lv_at hl 0 rfl) ?_
    refine lv_aload_n hx hb dX12_run_50 rfl (lv_at hl 0 rfl) ?_
    refine va_get (D := D) (ci := 12) (v := .int (u3.1 132)) (C := RX12) (T := TX12) (N := 149) hx hb hts hin hown hK hP 0 mH_0 rfl 132 (by decide) L_began (fun _ h9 => h9) mF_132 dX12_run_51 ?_
    have hFc := pl_free hD hS hA
    refine va_callv (va_runV (As := [.int (u3.1 132)]) (rest := []) ⟨hx, hb, hml, hown, hts⟩ (c_m_forget0 l D ca h0 H.size ad u3 (u3.1 132) hZc) (cwV 1 hts g_wr_run_forget rfl rfl rfl (by decide +kernel) ⟨Nat.le_of_ble_eq_true rfl, Nat.le_of_ble_eq_true rfl⟩) ⟨fun a U g mk q => by obtain ⟨q0, q1, qP, qK, qD⟩ := q; exact ⟨q0, q1, qP, va_K.moved (u := U) (U := U.calling g mk a) (Vm.Alike.refl U.vm) qK, qD⟩, va_recv hK hP (ci := 12) (q0 := 0) rfl rfl, fun U hU hW => ⟨rfl, by rw [hU], by rw [hU]; exact hP, va_K.moved hW.alike hK, hD.weaken (fun _ _ _ _ => trivial)⟩⟩ rfl rfl hl.1 rfl (lv_room (Nat.le_of_ble_eq_true rfl)) dX12_run_54 ⟨(Nat.zero_le _), (Nat.zero_le _)⟩) hS (fun q _ h => hFc q h) hFc (fun u6 t H1 locs ht hvm hwu6 hB hz1 hk1 hS => ?_)
    obtain ⟨hP1, hK1, hD1⟩ := hB
    rw [ht] at hP1
    have hK := va_K.moved hvm.symm hK1
    have hD := hD1.weaken (fun _ _ _ h => hFc _ h)
    have hP := hP1
    clear hP1 hK1 hD1 hFc
    generalize H1 = H at hP hS hz1 hk1 ht ⊢
    have hP : va_P D vwCl (mCl ca h0 ad u6) H := hP
    have hD : va_D A (mCl ca h0 ad u6) := hD
    refine lv_iconst hx hb dX12_run_57 (v := 1) rfl ?_
    exact W.iret (v := 1) hx hb hr (fun t ht hW => ⟨⟨1, u6, rfl, rfl, by rw [ht]; exact hP, va_K.moved hW.alike hK, hD⟩, hS.F ht⟩) hS.2.2 dX12_run_58
end
section
/-! a row of rows of ints is made (multianewarray of two dimensions): what the machine does, and the row for it -/
def mn_in (q : ClassId) (M : Nat) : Cell := { cls := q, slots := Array.replicate M (.int 0), vm := .none }
def mn_top (a : ClassId) (N b : Nat) : Nat → Cell
  | 0 => { cls := a, slots := Array.replicate N .null, vm := .none }
  | i + 1 => (mn_top a N b i).setSlot i (.ref (b + 1 + i))
def mn_st (T : State) (a q : ClassId) (N M : Nat) : Nat → State
  | 0 => T.pushCell (mn_top a N T.heap.size 0)
  | i + 1 => ((mn_st T a q N M i).pushCell (mn_in q M)).setCell T.heap.size (mn_top a N T.heap.size (i + 1))
theorem mn_top_f (a : ClassId) (N b : Nat) (i : Nat) : (mn_top a N b i).cls = a ∧ (mn_top a N b i).vm = .none ∧ (mn_top a N b i).slots.size = N := by
  induction i with
  | zero => exact ⟨rfl, rfl, by simp [mn_top]⟩
  | succ i ih =>
    obtain ⟨h1, h2, h3⟩ := ih
    exact ⟨by simp [mn_top, Cell.setSlot, h1], by simp [mn_top, Cell.setSlot, h2], by simp [mn_top, Cell.setSlot, h3]⟩
theorem mn_st_f (T : State) (a q : ClassId) (N M i : Nat) : (mn_st T a q N M i).heap.size = T.heap.size + 1 + i ∧ (mn_st T a q N M i).heap[T.heap.size]? = some (mn_top a N T.heap.size i) ∧ (mn_st T a q N M i).vm = T.vm ∧ (mn_st T a q N M i).slotsUsed = T.slotsUsed + N + i * M ∧ ∀ x : Nat, x < T.heap.size → (mn_st T a q N M i).heap[x]? = T.heap[x]? := by
  induction i with
  | zero => exact ⟨by simp [mn_st], by simp [mn_st], rfl, by simp [mn_st, mn_top], fun x hx => State.heap_pushCell_of_lt _ _ hx⟩
  | succ i ih =>
    obtain ⟨h1, h2, h3, h4, h5⟩ := ih
    have hlt : T.heap.size < (mn_st T a q N M i).heap.size := by omega
    have hb : ((mn_st T a q N M i).pushCell (mn_in q M)).heap[T.heap.size]? = some (mn_top a N T.heap.size i) := by
      rw [State.heap_pushCell_of_lt (h := hlt)]
      exact h2
    refine ⟨?_, State.heap_setCell_self hb, by simp [mn_st, h3], ?_, ?_⟩
    · simp [mn_st, State.setCell, h1]
      omega
    · simp [mn_st, h4, mn_in, Nat.succ_mul]
      omega
    · intro x hx
      have hl2 : x < (mn_st T a q N M i).heap.size := by omega
      show (((mn_st T a q N M i).pushCell (mn_in q M)).setCell T.heap.size _).heap[x]? = _
      rw [State.heap_setCell_other (Nat.ne_of_gt hx), State.heap_pushCell_of_lt (h := hl2)]
      exact h5 x hx
theorem mn_st_t (T : State) (f : JFrame) (a q : ClassId) (N M i : Nat) : mn_st (T.setTop f) a q N M i = (mn_st T a q N M i).setTop f := by
  induction i with
  | zero => rfl
  | succ i ih => simp only [mn_st, ih, State.heap_setTop, State.pushCell_setTop, State.setCell_setTop]
section
variable {E : CtlPost} {e : Env} {d : Bool} {acts : List Action} {s : State}
theorem mn_new {c comp : ClassId} {k : Class} {ty : FieldType} {len : Nat} {v : Value} (hk : s.vm.classes[c]? = some k) (hkind : k.kind = .array comp ty) (hl : ¬ len > e.platform.arrayLengthLimit) (hh : ¬ len * componentBytes ty > e.platform.maxHeapBytes) (hfit : fits ty v = true) (hdef : v.isDefault = true) {Q : Addr → Pre} (h1 : s.heap.size < e.platform.maxCells) (h2 : s.slotsUsed + len ≤ e.platform.maxSlots) (hq : Q s.heap.size d acts (s.pushCell { cls := c, slots := Array.replicate len v, vm := .none })) : wp (Jvm.newArray c len v) Q E e d acts s := by
  have hfits : ∀ i x, (Array.replicate len v)[i]? = some x → s.fitsSlot c .none i x = true := by
    intro i x hx
    simp only [Array.getElem?_replicate] at hx
    split at hx
    · cases hx
      simp [State.fitsSlot, State.slotType?, hk, hkind, hfit]
    · cases hx
  have hda : allocActs (Array.replicate len v) s.heap.size acts = acts := by
    have hall : ((Array.replicate len v).all (·.isDefault)) = true := by
      rw [Array.all_replicate]
      split <;> simp [hdef]
    unfold allocActs
    rw [if_pos hall]
  simp only [Jvm.newArray, Jvm.arrayFits, wp_bind', W.ask, W.ite, hl, if_false, wp_pure', W.theClass, hk, hkind, hh, W.alloc, W.stop, Option.some.injEq, exists_eq_left', Array.size_replicate, hda]
  rw [if_neg (by omega)]
  exact ⟨h1, h2, hfits, hq⟩
theorem mn_make {c comp cc : ClassId} {k kc : Class} {n m : Int32} (hk : s.vm.classes[c]? = some k) (hkind : k.kind = .array comp (.array .int)) (hkc : s.vm.classes[comp]? = some kc) (hkindc : kc.kind = .array cc .int) (hn : ¬ n < 0) (hm : ¬ m < 0) (hl1 : ¬ n.toNatClampNeg > e.platform.arrayLengthLimit) (hh1 : ¬ n.toNatClampNeg * 4 > e.platform.maxHeapBytes) (hl2 : ¬ m.toNatClampNeg > e.platform.arrayLengthLimit) (hh2 : ¬ m.toNatClampNeg * 4 > e.platform.maxHeapBytes) (hc : s.heap.size + 1 + n.toNatClampNeg ≤ e.platform.maxCells) (hs : s.slotsUsed + n.toNatClampNeg + n.toNatClampNeg * m.toNatClampNeg ≤ e.platform.maxSlots) {Q : Addr → Pre} (hq : ∀ d' acts', Q s.heap.size d' acts' (mn_st s c comp n.toNatClampNeg m.toNatClampNeg n.toNatClampNeg)) : wp (multianewarray.make c [n, m]) Q E e d acts s := by
  obtain ⟨N, hN⟩ : ∃ N, n.toNatClampNeg = N := ⟨_, rfl⟩
  obtain ⟨M, hM⟩ : ∃ M, m.toNatClampNeg = M := ⟨_, rfl⟩
  rw [hN] at hl1 hh1 hc hs hq
  rw [hM] at hl2 hh2 hs hq
  have hfind : ([m].find? (· < 0)) = none := by simp [hm]
  rw [multianewarray.make]
  simp only [wp_bind', W.ite, hn, if_false, wp_pure', W.theClass, hk, hkind, Option.some.injEq, exists_eq_left']
  rw [hN]
  refine mn_new hk hkind hl1 hh1 rfl rfl (by omega) (by have := Nat.zero_le (N * M); omega) ?_
  simp only [hfind]
  rw [ite_self, wp_bind', Std.Legacy.Range.forIn_eq_forIn_range']
  have hsz : ([:N] : Std.Legacy.Range).size = N := by simp [Std.Legacy.Range.size]
  rw [hsz]
  show wp (forIn (List.range' 0 N 1) PUnit.unit _) _ E e d acts _
  refine wp_forIn_inv (fun rest t => ∃ i, i ≤ N ∧ rest = List.range' i (N - i) ∧ t = mn_st s c comp N M i) _ _ ⟨0, Nat.zero_le _, rfl, rfl⟩ ?_ ?_
  · rintro x rest t d' acts' Q' ⟨i, hi, hl, rfl⟩ hnext
    have hlt : i < N := by
      rcases Nat.lt_or_ge i N with h | h
      · exact h
      · rw [show N - i = 0 from by omega] at hl
        simp at hl
    rw [show N - i = (N - (i + 1)) + 1 from by omega, List.range'_succ] at hl
    obtain ⟨rfl, hrest⟩ := List.cons.inj hl
    obtain ⟨f1, f2, f3, f4, -⟩ := mn_st_f s c comp N M x
    obtain ⟨o1, o2, o3⟩ := mn_top_f c N s.heap.size x
    have hmul : x * M + M ≤ N * M := by
      have h := Nat.mul_le_mul_right M (show x + 1 ≤ N from hlt)
      rw [Nat.succ_mul] at h
      exact h
    have hlt0 : s.heap.size < (mn_st s c comp N M x).heap.size := by rw [f1]; omega
    simp only [wp_bind']
    rw [multianewarray.make]
    simp only [wp_bind', W.ite, hm, if_false, wp_pure', W.theClass, f3, hkc, hkindc, Option.some.injEq, exists_eq_left']
    rw [hM]
    refine mn_new (by rw [f3]; exact hkc) hkindc hl2 hh2 rfl rfl (by rw [f1]; omega) (by rw [f4]; omega) ?_
    simp only [wp_bind', W.writeLoc, wp_pure']
    refine ⟨mn_top c N s.heap.size x, by rw [State.heap_pushCell_of_lt (h := hlt0)]; exact f2, by rw [o2]; simp, by rw [o3]; exact hlt, ?_, hnext _ _ _ ⟨x + 1, hlt, hrest, ?_⟩⟩
    · rw [o1, o2]
      simp [State.fitsSlot, State.slotType?, f3, hk, hkind, fits]
    · rw [f1]
      rfl
  · rintro t d' acts' ⟨i, hi, hl, rfl⟩
    have hiN : i = N := by
      rcases Nat.lt_or_ge i N with h | h
      · rw [show N - i = (N - (i + 1)) + 1 from by omega, List.range'_succ] at hl
        cases hl
      · omega
    subst hiN
    simp only [wp_pure']
    exact hq _ _
end
/-- the tables have rows of ints, and rows of these -/
def pAI (U : State) : Prop := ∃ (comp c : ClassId) (k : Class), U.vm.findClass "[I" = some comp ∧ U.vm.classes[c]? = some k ∧ k.kind = .array comp (.array .int) ∧ U.vm.findClass "[[I" = some c
theorem pAI.moved {u U : State} (hvm : u.vm.Alike U.vm) (h : pAI u) : pAI U := by
  obtain ⟨comp, c, k, h1, h2, h3, h4⟩ := h
  obtain ⟨k', hk', he⟩ := hvm.2.2 _ _ h2
  exact ⟨comp, c, k', by rw [hvm.findClass]; exact h1, hk', by rw [he]; exact h3, by rw [hvm.findClass]; exact h4⟩
theorem mn_over {args : Array Value} {s : State} (h : (Cond.arrayOver (.array .int)).before args s = true) : pAI s := by
  have e1 : (FieldType.array .int).toString = "[I" := by decide
  have e2 : "[" ++ (FieldType.array .int).toString = "[[I" := by decide
  simp only [Cond.before, Cond.holds, Cond.value, beq_iff_eq] at h
  rw [e1] at h
  cases hc : s.vm.findClass "[I" with
  | none => simp [hc] at h
  | some comp =>
    simp only [hc, Option.bind_some, Option.bind_eq_some_iff, Option.map_eq_some_iff] at h
    obtain ⟨c, hi, k, hk, hb⟩ := h
    obtain ⟨hlt, hp, -⟩ := Array.findIdx?_eq_some_iff_getElem.mp hi
    have hkk : s.vm.classes[c] = k := (Array.getElem?_eq_some_iff.mp hk).2
    rw [hkk] at hp
    cases hkind : k.kind with
    | array component ty =>
      rw [hkind] at hb hp
      simp at hb hp
      exact ⟨comp, c, k, hc, hk, by rw [hkind, hp, hb.1], by rw [← hb.2]⟩
    | _ => rw [hkind] at hb; simp at hb
section
variable {p : Program} {l : Launch} {e : Env} {R : Room} {s : State} {m : MethodId} {args : Array Value} {below : List Frame} {meth : Method} {c : Code} {H : Heap} {locs : List Loc} {cells slots : Nat} {Q : State → Prop}
theorem mn_stand {T : State} (X : Stand p l e R s m args below meth c T locs cells slots) (a q : ClassId) (N M i : Nat) : Stand p l e R s m args below meth c (mn_st T a q N M i) (locs ++ (List.range i).map fun j => ⟨T.heap.size, j⟩) (cells + 1 + i) (slots + N + i * M) := by
  induction i with
  | zero =>
    have h := X.pushed (mn_top a N T.heap.size 0)
    rw [(mn_top_f a N T.heap.size 0).2.2] at h
    simpa [mn_st] using h
  | succ i ih =>
    obtain ⟨f1, f2, -⟩ := mn_st_f T a q N M i
    have hlt : T.heap.size < (mn_st T a q N M i).heap.size := by rw [f1]; omega
    have hcell : ((mn_st T a q N M i).pushCell (mn_in q M)).heap[T.heap.size]? = some (mn_top a N T.heap.size i) := by
      rw [State.heap_pushCell_of_lt (h := hlt)]
      exact f2
    have h := (ih.pushed (mn_in q M)).stored hcell i (.ref (T.heap.size + 1 + i))
    have e1 : (mn_in q M).slots.size = M := by simp [mn_in]
    have e2 : (locs ++ (List.range (i + 1)).map fun j => (⟨T.heap.size, j⟩ : Loc)) = (locs ++ (List.range i).map fun j => (⟨T.heap.size, j⟩ : Loc)) ++ [⟨T.heap.size, i⟩] := by simp [List.range_succ, List.append_assoc]
    have e3 : slots + N + (i + 1) * M = slots + N + i * M + M := by rw [Nat.succ_mul]; omega
    rw [e1] at h
    rw [e2, e3]
    exact h
/-- multianewarray of ints, two dimensions: nothing old changes -/
theorem W.mnew {cc : ByteArray} (hexec : p.tables.exec = Jvm.exec) (hb : c.code = cc) {own : String} {index : Nat} (hown : s.vm.findClass own = some m.cls) (hclink : (Cond.classLink own index "[[I").before args s = true) (hover : pAI s) (harr : (Cond.arrayClass .int).before args s = true) {pc : Nat} {ls : Array Slot} (hdg : decode cc pc = .ok (.multianewarray index 2, 4)) {n k : Int32} {N M : Nat} {rest : List Value} (hn : ¬ n < 0) (hk : ¬ k < 0) (hN : n.toNatClampNeg = N) (hM : k.toNatClampNeg = M) (hb1 : N * 4 ≤ 536870912) (hb2 : M * 4 ≤ 536870912) (hcells : cells + (1 + N) ≤ R.cells) (hslots : slots + (N + N * M) ≤ R.slots)
    (kk : ∀ (H1 : Heap) (L : List Loc), H1.size = H.size + 1 + N → (∀ x : Nat, x < H.size → H1[x]? = H[x]?) → (∀ q ∈ L, q.base = H.size) → W p l e R s m args below meth c H1 (locs ++ L) (cells + 1 + N) (slots + N + N * M) Q (F0 m (pc + 4) ls (.ref H.size :: rest))) : W p l e R s m args below meth c H locs cells slots Q (F0 m pc ls (.int k :: .int n :: rest)) := by
  intro T hT X
  subst hT
  subst hb
  subst hN
  subst hM
  have hpl : e.platform.magicAccessors = ({} : Platform).magicAccessors := by rw [X.admits.platform]
  obtain ⟨comp, cA, kA, hcomp, hkA, hkindA, hnameA⟩ := hover
  obtain ⟨comp', kC, cc, hcomp', hkC, hkindC⟩ := Cond.arrayClass_spec harr
  have ecomp : comp' = comp := Option.some.inj (hcomp'.symm.trans hcomp)
  subst ecomp
  obtain ⟨c0, hfc0, hcl⟩ := Cond.classLink_spec hown hclink e.platform hpl
  cases hnameA.symm.trans hfc0
  obtain ⟨hg₁, hwarm₁, hready₁⟩ := State.classEntry (e := e) X.warmed hcl
  generalize T.vm.noted m.cls index (.cls cA) = vm₁ at hg₁ hwarm₁ hready₁
  have hal : s.vm.Alike vm₁ := hwarm₁.alike
  obtain ⟨kA₁, hkA₁, heA⟩ := hal.2.2 _ _ hkA
  obtain ⟨kC₁, hkC₁, heC⟩ := hal.2.2 _ _ hkC
  have hkindA₁ : kA₁.kind = .array comp' (.array .int) := by rw [heA]; exact hkindA
  have hkindC₁ : kC₁.kind = .array cc .int := by rw [heC]; exact hkindC
  have X₁ := X.noted hwarm₁
  obtain ⟨hr1, hr2⟩ := X.roomAbove hcells hslots
  have XF := mn_stand X₁ cA comp' n.toNatClampNeg k.toNatClampNeg n.toNatClampNeg
  obtain ⟨f1, -, -, -, f5⟩ := mn_st_f (T.setVm vm₁) cA comp' n.toNatClampNeg k.toNatClampNeg n.toNatClampNeg
  obtain ⟨t, a1, b1⟩ := kk _ _ f1 f5 (by intro q hq; obtain ⟨j, -, rfl⟩ := List.mem_map.mp hq; rfl) _ rfl XF
  refine ⟨t, ?_, b1⟩
  have hl1 : ¬ n.toNatClampNeg > e.platform.arrayLengthLimit := by rw [Launch.admits_arrayLengthLimit X.admits]; omega
  have hh1 : ¬ n.toNatClampNeg * 4 > e.platform.maxHeapBytes := by rw [Launch.admits_maxHeapBytes X.admits]; omega
  have hl2 : ¬ k.toNatClampNeg > e.platform.arrayLengthLimit := by rw [Launch.admits_arrayLengthLimit X.admits]; omega
  have hh2 : ¬ k.toNatClampNeg * 4 > e.platform.maxHeapBytes := by rw [Launch.admits_maxHeapBytes X.admits]; omega
  jvm_step X.here [hexec, hdg]
  simp only [multianewarray.sem, wp_bind', W.resolveClassAt_links (State.method?_setTop (F0 m pc ls (.int k :: .int n :: rest)) X.here.top) hg₁]
  rw [W.popN, if_neg (by decide)]
  refine ⟨F0 m pc ls (.int k :: .int n :: rest), State.topJava?_setTop' (s := T.setVm vm₁) _ X.here.top, [.int n, .int k], rest, rfl, rfl, ?_⟩
  simp only [List.mapM_cons, List.mapM_nil, wp_bind', wp_pure']
  refine mn_make (k := kA₁) (kc := kC₁) (comp := comp') (cc := cc) hkA₁ hkindA₁ hkC₁ hkindC₁ hn hk hl1 hh1 hl2 hh2 (by show T.heap.size + 1 + _ ≤ _; omega) (by show T.slotsUsed + _ + _ ≤ _; omega) (fun d' acts' => ?_)
  have eS : ∀ g1 g2 : JFrame, ((T.setTop g1).setVm vm₁).setTop g2 = (T.setVm vm₁).setTop g2 := by
    intro g1 g2
    show ((T.setVm vm₁).setTop g1).setTop g2 = _
    rw [State.setTop_setTop]
  rw [eS, mn_st_t]
  simp only [wp_bind', W.mark, W.pushRef, State.topJava?_setTop' _ XF.here.top, Option.some.injEq, exists_eq_left', State.setTop_setTop, State.heap_setTop]
  intro acts
  simp [jvm, XF.here.top]
  exact a1
end
end
section
/-! rows for constructors of the class: a row is made, put into its final field, and kept or forgotten -/
theorem p_drop {D : va_G} {cl : List vw_C} {ws : va_W} {x : Nat × va_E} {H : Heap} (h : va_P D cl (ws ++ [x]) H) : va_P D cl ws H := fun k q hk => h k q (by rw [List.getElem?_append_left (List.getElem?_eq_some_iff.mp hk).1]; exact hk)
theorem d_drop {A : Nat → Prop} {ws : va_W} {x : Nat × va_E} (h : va_D A (ws ++ [x])) : va_D A ws :=
  ⟨fun i j p q hi hj e => h.1 i j p q (by rw [List.getElem?_append_left (List.getElem?_eq_some_iff.mp hi).1]; exact hi) (by rw [List.getElem?_append_left (List.getElem?_eq_some_iff.mp hj).1]; exact hj) e, fun k q hk => h.2 k q (by rw [List.getElem?_append_left (List.getElem?_eq_some_iff.mp hk).1]; exact hk)⟩
theorem p_nil {D : va_G} {cl : List vw_C} {H : Heap} : va_P D cl [] H := fun k q h => by simp at h
theorem d_nil {A : Nat → Prop} : va_D A [] := ⟨fun i j p q h => by simp at h, fun k q h => by simp at h⟩
theorem ia_C (cA : ClassId) (n : Nat) : vp_cell cA (n, .inl (fun _ => 0)) = arrV cA n (fun _ => defaultValue .char) := rfl
section
variable {p : Program} {l : Launch} {e : Env} {R : Room} {s : State} {m : MethodId} {args : Array Value} {below : List Frame} {meth : Method} {c : Code} {H : Heap} {locs : List Loc} {cells slots : Nat} {Q : State → Prop}
/-- a row is made and put into its final field; the row is kept -/
theorem ib_arrK {cc : ByteArray} {pc nw : Nat} {nn : Int32} {index : Nat} {atype : ArrayType} {ty : FieldType} {a0 : vp_A} {Ts : List Cond} {A : Nat → Prop} {H0 : Heap} {D : va_G} {h0 : Nat} {ls : Array Slot} {C : String} {T : u_T} {N ci : Nat} {ty0 : Nat → FieldType} (hx : p.tables.exec = Jvm.exec) (hb : c.code = cc) (hts : ∀ w ∈ Ts, w.before args s = true) (hin : ∀ w ∈ u_ws C T N, w ∈ Ts) (hty0 : ∀ k, k < N → parseFieldDescriptor (T k).2.2.1 = some (ty0 k)) (hnmC : ∀ a, a < N → ∀ b, b < N → a ≠ b → (T a).2.1 ≠ (T b).2.1) (hown : s.vm.findClass C = some m.cls) (hnm : meth.name = "<init>") (hc : vwCl[ci]? = some (C, T, N)) (hA : ∀ q : Nat, H0.size ≤ q → A q) {fs : List Value} {cs : va_W} {ts : List (ClassId × FieldType)} (hK : va_K D vwCl ts s) (hP : va_P D vwCl ((h0, .inr (ci, fs)) :: cs) H) (hD : va_D A ((h0, .inr (ci, fs)) :: cs)) (hS : va_S A H0 H locs)
    (harr : (Cond.arrayClass (newarray.typeOf atype)).before args s = true) (hty : newarray.typeOf atype = ty) (ha : ∀ cA : ClassId, vp_cell cA a0 = arrV cA nw (fun _ => defaultValue ty)) (hn : ¬ nn < 0) (hN : nn.toNatClampNeg = nw) (hbytes : nw * componentBytes ty ≤ 536870912) (hcells : cells + 1 ≤ R.cells) (hslots : slots + nw ≤ R.slots)
    (hd1 : decode cc pc = .ok (.newarray atype, 2)) (k : Nat) (hk : k < N) (hlen : k < fs.length) (hlink : (Cond.fieldLink C index C (T k).2.1 (T k).2.2.1).before args s = true) (hself : (T k).1 = C) (hfin : (T k).2.2.2 = true) (hparse : parseFieldDescriptor (T k).2.2.1 = some (.array ty)) (hd2 : decode cc (pc + 2) = .ok (.putfield index, 3))
    (kk : ∀ (q : Nat) (cA : ClassId) (H1 : Heap) (locs1 : List Loc), va_K D vwCl (ts ++ [(cA, ty)]) s → va_P D vwCl ((h0, .inr (ci, fs.set k (.ref q))) :: (cs ++ [(q, .inl (cA, a0))])) H1 → va_D A ((h0, .inr (ci, fs.set k (.ref q))) :: (cs ++ [(q, .inl (cA, a0))])) → va_S A H0 H1 locs1 → W p l e R s m args below meth c H1 locs1 (cells + 1) (slots + nw) Q (F0 m (pc + 5) ls [])) : W p l e R s m args below meth c H locs cells slots Q (F0 m pc ls [.int nn, .ref h0]) := by
  refine va_newa (ty := ty) (a0 := a0) (N' := nw) hx hb harr hty hK hP hD hS hA ha hn hN hbytes hcells hslots hd1 (fun q cA H hK hP hD hS => ?_)
  refine va_putF (D := D) (ci := ci) (v := .ref q) (ty := .array ty) (C := C) (T := T) (N := N) hx hb hts hin ty0 hty0 hnmC hown hK hP hD hS 0 rfl hc k hk hlink (fun _ h9 => by rw [hself] at h9; exact h9) hfin hnm hself hparse rfl rfl hlen hd2 (fun H locs hP hD hS => ?_)
  exact kk q cA H locs hK hP hD hS
/-- .. ; the row is forgotten -/
theorem ib_arr {cc : ByteArray} {pc nw : Nat} {nn : Int32} {index : Nat} {atype : ArrayType} {ty : FieldType} {a0 : vp_A} {Ts : List Cond} {A : Nat → Prop} {H0 : Heap} {D : va_G} {h0 : Nat} {ls : Array Slot} {C : String} {T : u_T} {N ci : Nat} {ty0 : Nat → FieldType} (hx : p.tables.exec = Jvm.exec) (hb : c.code = cc) (hts : ∀ w ∈ Ts, w.before args s = true) (hin : ∀ w ∈ u_ws C T N, w ∈ Ts) (hty0 : ∀ k, k < N → parseFieldDescriptor (T k).2.2.1 = some (ty0 k)) (hnmC : ∀ a, a < N → ∀ b, b < N → a ≠ b → (T a).2.1 ≠ (T b).2.1) (hown : s.vm.findClass C = some m.cls) (hnm : meth.name = "<init>") (hc : vwCl[ci]? = some (C, T, N)) (hA : ∀ q : Nat, H0.size ≤ q → A q) {fs : List Value} {cs : va_W} {ts : List (ClassId × FieldType)} (hK : va_K D vwCl ts s) (hP : va_P D vwCl ((h0, .inr (ci, fs)) :: cs) H) (hD : va_D A ((h0, .inr (ci, fs)) :: cs)) (hS : va_S A H0 H locs)
    (harr : (Cond.arrayClass (newarray.typeOf atype)).before args s = true) (hty : newarray.typeOf atype = ty) (ha : ∀ cA : ClassId, vp_cell cA a0 = arrV cA nw (fun _ => defaultValue ty)) (hn : ¬ nn < 0) (hN : nn.toNatClampNeg = nw) (hbytes : nw * componentBytes ty ≤ 536870912) (hcells : cells + 1 ≤ R.cells) (hslots : slots + nw ≤ R.slots)
    (hd1 : decode cc pc = .ok (.newarray atype, 2)) (k : Nat) (hk : k < N) (hlen : k < fs.length) (hlink : (Cond.fieldLink C index C (T k).2.1 (T k).2.2.1).before args s = true) (hself : (T k).1 = C) (hfin : (T k).2.2.2 = true) (hparse : parseFieldDescriptor (T k).2.2.1 = some (.array ty)) (hd2 : decode cc (pc + 2) = .ok (.putfield index, 3))
    (kk : ∀ (q : Nat) (H1 : Heap) (locs1 : List Loc), va_P D vwCl ((h0, .inr (ci, fs.set k (.ref q))) :: cs) H1 → va_D A ((h0, .inr (ci, fs.set k (.ref q))) :: cs) → va_S A H0 H1 locs1 → W p l e R s m args below meth c H1 locs1 (cells + 1) (slots + nw) Q (F0 m (pc + 5) ls [])) : W p l e R s m args below meth c H locs cells slots Q (F0 m pc ls [.int nn, .ref h0]) :=
  ib_arrK hx hb hts hin hty0 hnmC hown hnm hc hA hK hP hD hS harr hty ha hn hN hbytes hcells hslots hd1 k hk hlen hlink hself hfin hparse hd2 (fun q _ H1 locs1 _ hP hD hS => kk q H1 locs1 (p_drop (ws := (h0, .inr (ci, fs.set k (.ref q))) :: cs) hP) (d_drop (ws := (h0, .inr (ci, fs.set k (.ref q))) :: cs) hD) hS)
/-- rows of rows are made and put into their final field, and forgotten -/
theorem ib_mn {cc : ByteArray} {pc N2 M2 : Nat} {nn kk2 : Int32} {index ix2 : Nat} {Ts : List Cond} {A : Nat → Prop} {H0 : Heap} {D : va_G} {h0 : Nat} {ls : Array Slot} {C : String} {T : u_T} {N ci : Nat} {ty0 : Nat → FieldType} (hx : p.tables.exec = Jvm.exec) (hb : c.code = cc) (hts : ∀ w ∈ Ts, w.before args s = true) (hin : ∀ w ∈ u_ws C T N, w ∈ Ts) (hty0 : ∀ k, k < N → parseFieldDescriptor (T k).2.2.1 = some (ty0 k)) (hnmC : ∀ a, a < N → ∀ b, b < N → a ≠ b → (T a).2.1 ≠ (T b).2.1) (hown : s.vm.findClass C = some m.cls) (hnm : meth.name = "<init>") (hc : vwCl[ci]? = some (C, T, N)) (hA : ∀ q : Nat, H0.size ≤ q → A q) {fs : List Value} {cs : va_W} {ts : List (ClassId × FieldType)} (hK : va_K D vwCl ts s) (hP : va_P D vwCl ((h0, .inr (ci, fs)) :: cs) H) (hD : va_D A ((h0, .inr (ci, fs)) :: cs)) (hS : va_S A H0 H locs)
    (hclink : (Cond.classLink C ix2 "[[I").before args s = true) (hover : pAI s) (harr : (Cond.arrayClass .int).before args s = true) (hn : ¬ nn < 0) (hk2 : ¬ kk2 < 0) (hN : nn.toNatClampNeg = N2) (hM : kk2.toNatClampNeg = M2) (hb1 : N2 * 4 ≤ 536870912) (hb2 : M2 * 4 ≤ 536870912) (hcells : cells + (1 + N2) ≤ R.cells) (hslots : slots + (N2 + N2 * M2) ≤ R.slots)
    (hd1 : decode cc pc = .ok (.multianewarray ix2 2, 4)) (k : Nat) (hk : k < N) (hlen : k < fs.length) (hlink : (Cond.fieldLink C index C (T k).2.1 (T k).2.2.1).before args s = true) (hself : (T k).1 = C) (hfin : (T k).2.2.2 = true) (hparse : parseFieldDescriptor (T k).2.2.1 = some (.array (.array .int))) (hd2 : decode cc (pc + 4) = .ok (.putfield index, 3))
    (kk : ∀ (q : Nat) (H1 : Heap) (locs1 : List Loc), va_P D vwCl ((h0, .inr (ci, fs.set k (.ref q))) :: cs) H1 → va_D A ((h0, .inr (ci, fs.set k (.ref q))) :: cs) → va_S A H0 H1 locs1 → W p l e R s m args below meth c H1 locs1 (cells + 1 + N2) (slots + N2 + N2 * M2) Q (F0 m (pc + 7) ls [])) : W p l e R s m args below meth c H locs cells slots Q (F0 m pc ls [.int kk2, .int nn, .ref h0]) := by
  refine W.mnew hx hb hown hclink hover harr hd1 hn hk2 hN hM hb1 hb2 hcells hslots (fun H1 L z1 o1 hL => ?_)
  have hP1 : va_P D vwCl ((h0, .inr (ci, fs)) :: cs) H1 := hP.kept (fun k x hx => o1 x.1 ((hP k x hx).lt))
  have hS1 : va_S A H0 H1 (locs ++ L) := by
    refine ⟨Nat.le_trans hS.1 (by omega), fun x h1 h2 => (o1 x (Nat.lt_of_lt_of_le h1 hS.1)).trans (hS.2.1 x h1 h2), fun q hq => ?_⟩
    rcases List.mem_append.mp hq with h | h
    · exact hS.2.2 q h
    · rw [hL q h]
      exact hA _ hS.1
  refine va_putF (D := D) (ci := ci) (v := .ref H.size) (ty := .array (.array .int)) (C := C) (T := T) (N := N) hx hb hts hin ty0 hty0 hnmC hown hK hP1 hD hS1 0 rfl hc k hk hlink (fun _ h9 => by rw [hself] at h9; exact h9) hfin hnm hself hparse rfl rfl hlen hd2 (fun H2 locs2 hP hD hS => ?_)
  exact kk H.size H2 locs2 hP hD hS
end
end
section
def wsX0_init_r1 : List Cond := [Cond.methodLink RX0 3 objectInit, Cond.instanceMethod objectInit, Cond.code objectInit ⟨#[0xb1]⟩ 1 none, Cond.arrayClass .int, Cond.fieldLink RX0 9 "ProofHouse$Book" "functionNames" "[I", Cond.fieldLink RX0 15 "ProofHouse$Book" "parameters" "[I", Cond.fieldLink RX0 18 "ProofHouse$Book" "arities" "[I", Cond.fieldLink RX0 21 "ProofHouse$Book" "bodies" "[I", Cond.fieldLink RX0 24 "ProofHouse$Book" "measures" "[I", Cond.fieldLink RX0 27 "ProofHouse$Book" "functions" "I", Cond.fieldLink RX0 31 "ProofHouse$Book" "theoremNames" "[I", Cond.fieldLink RX0 34 "ProofHouse$Book" "formulas" "[I", Cond.fieldLink RX0 37 "ProofHouse$Book" "lefts" "[I", Cond.fieldLink RX0 40 "ProofHouse$Book" "rights" "[I", Cond.classLink RX0 43 "[[I", Cond.fieldLink RX0 45 "ProofHouse$Book" "hypotheses" "[[I", Cond.fieldLink RX0 48 "ProofHouse$Book" "hypothesisCounts" "[I", Cond.arrayClass .boolean, Cond.fieldLink RX0 51 "ProofHouse$Book" "truthAlone" "[Z", Cond.fieldLink RX0 55 "ProofHouse$Book" "turning" "[Z", Cond.fieldLink RX0 58 "ProofHouse$Book" "on" "[Z", Cond.fieldLink RX0 61 "ProofHouse$Book" "muted" "[Z", Cond.fieldLink RX0 64 "ProofHouse$Book" "theorems" "I", Cond.fieldLink RX0 67 "ProofHouse$Book" "kinds" "[I"]
def wsX0_init_r2 : List Cond := [Cond.fieldLink RX0 70 "ProofHouse$Book" "marks" "[I", Cond.fieldLink RX0 73 "ProofHouse$Book" "entries" "I", Cond.fieldLink RX0 76 "ProofHouse$Book" "kept" "I"]
def wsX0_init : List Cond := .code yX0_init cX0_init 2 none :: ((wsX0_init_r1 ++ wsX0_init_r2) ++ wsX00)
def wsX1_init : List Cond := .code yX1_init cX1_init 1 none :: ([.methodLink RX1 3 objectInit, .instanceMethod objectInit, .code objectInit ⟨#[0xb1]⟩ 1 none, .arrayClass .int, .fieldLink RX1 11 "ProofHouse$Clause" "literals" "[I", .fieldLink RX1 15 "ProofHouse$Clause" "length" "I", .fieldLink RX1 19 "ProofHouse$Clause" "weight" "I", .fieldLink RX1 22 "ProofHouse$Clause" "rounds" "I"] ++ wsX10)
def wsX2_init : List Cond := .code yX2_init cX2_init 3 none :: ([.methodLink RX2 3 objectInit, .instanceMethod objectInit, .code objectInit ⟨#[0xb1]⟩ 1 none, .arrayClass .int, .fieldLink RX2 11 "ProofHouse$Evaluator" "names" "[I", .fieldLink RX2 15 "ProofHouse$Evaluator" "rests" "[I", .fieldLink RX2 18 "ProofHouse$Evaluator" "bases" "[I", .arrayClass .boolean, .fieldLink RX2 21 "ProofHouse$Evaluator" "inBody" "[Z", .fieldLink RX2 25 "ProofHouse$Evaluator" "outerOwners" "[I", .fieldLink RX2 28 "ProofHouse$Evaluator" "outerFloors" "[I", .fieldLink RX2 31 "ProofHouse$Evaluator" "values" "[I", .fieldLink RX2 34 "ProofHouse$Evaluator" "depth" "I", .fieldLink RX2 38 "ProofHouse$Evaluator" "held" "I", .fieldLink RX2 41 "ProofHouse$Evaluator" "owner" "I", .fieldLink RX2 44 "ProofHouse$Evaluator" "floor" "I", .fieldLink RX2 47 "ProofHouse$Evaluator" "stepsLeft" "I", .fieldLink RX2 50 "ProofHouse$Evaluator" "stopped" "I", .fieldLink RX2 53 "ProofHouse$Evaluator" "room" "LProofHouse$Room;", .fieldLink RX2 57 "ProofHouse$Evaluator" "book" "LProofHouse$Book;"] ++ wsX20)
def wsX3_init_r1 : List Cond := [Cond.methodLink RX3 3 objectInit, Cond.instanceMethod objectInit, Cond.code objectInit ⟨#[0xb1]⟩ 1 none, Cond.classLink RX3 11 "[[I", Cond.arrayClass .int, Cond.fieldLink RX3 13 "ProofHouse$Proofs" "frames" "[[I", Cond.fieldLink RX3 16 "ProofHouse$Proofs" "depth" "I", Cond.classLink RX3 20 RX1, Cond.fieldLink RX3 22 "ProofHouse$Proofs" "clauses" "[LProofHouse$Clause;", Cond.fieldLink RX3 26 "ProofHouse$Proofs" "held" "I", Cond.instantiable RX1 4, Cond.initialized RX1, Cond.fieldLink RX3 30 "ProofHouse$Proofs" "wanted" "LProofHouse$Clause;", Cond.fieldLink RX3 34 "ProofHouse$Proofs" "wrong" "I", Cond.fieldLink RX3 37 "ProofHouse$Proofs" "room" "LProofHouse$Room;", Cond.fieldLink RX3 41 "ProofHouse$Proofs" "book" "LProofHouse$Book;", Cond.fieldLink RX3 45 "ProofHouse$Proofs" "terms" "LProofHouse$Terms;", Cond.fieldLink RX3 49 "ProofHouse$Proofs" "evaluator" "LProofHouse$Evaluator;", Cond.fieldLink RX3 53 "ProofHouse$Proofs" "schemes" "LProofHouse$Schemes;", Cond.instanceMethod yX1_init, Cond.code yX1_init cX1_init 1 none, Cond.methodLink RX1 3 objectInit, Cond.fieldLink RX1 11 "ProofHouse$Clause" "literals" "[I", Cond.fieldLink RX1 15 "ProofHouse$Clause" "length" "I"]
def wsX3_init_r2 : List Cond := [Cond.fieldLink RX1 19 "ProofHouse$Clause" "weight" "I", Cond.fieldLink RX1 22 "ProofHouse$Clause" "rounds" "I"]
def wsX3_init : List Cond := .code yX3_init cX3_init 7 none :: ((wsX3_init_r1 ++ wsX3_init_r2) ++ wsX30 ++ wsX10)
def wsX4_init_r1 : List Cond := [Cond.methodLink RX4 5 objectInit, Cond.instanceMethod objectInit, Cond.code objectInit ⟨#[0xb1]⟩ 1 none, Cond.classLink RX4 11 RX1, Cond.fieldLink RX4 13 "ProofHouse$Prover" "given" "[LProofHouse$Clause;", Cond.fieldLink RX4 17 "ProofHouse$Prover" "givenCount" "I", Cond.fieldLink RX4 21 "ProofHouse$Prover" "waiting" "[LProofHouse$Clause;", Cond.fieldLink RX4 24 "ProofHouse$Prover" "waitingCount" "I", Cond.fieldLink RX4 27 "ProofHouse$Prover" "left" "[LProofHouse$Clause;", Cond.fieldLink RX4 30 "ProofHouse$Prover" "leftCount" "I", Cond.instantiable RX1 4, Cond.initialized RX1, Cond.fieldLink RX4 34 "ProofHouse$Prover" "spare" "LProofHouse$Clause;", Cond.fieldLink RX4 38 "ProofHouse$Prover" "checking" "Z", Cond.fieldLink RX4 42 "ProofHouse$Prover" "room" "LProofHouse$Room;", Cond.fieldLink RX4 46 "ProofHouse$Prover" "terms" "LProofHouse$Terms;", Cond.fieldLink RX4 50 "ProofHouse$Prover" "rewriter" "LProofHouse$Rewriter;", Cond.instanceMethod yX1_init, Cond.code yX1_init cX1_init 1 none, Cond.methodLink RX1 3 objectInit, Cond.arrayClass .int, Cond.fieldLink RX1 11 "ProofHouse$Clause" "literals" "[I", Cond.fieldLink RX1 15 "ProofHouse$Clause" "length" "I", Cond.fieldLink RX1 19 "ProofHouse$Clause" "weight" "I"]
def wsX4_init_r2 : List Cond := [Cond.fieldLink RX1 22 "ProofHouse$Clause" "rounds" "I"]
def wsX4_init : List Cond := .code yX4_init cX4_init 5 none :: ((wsX4_init_r1 ++ wsX4_init_r2) ++ wsX40 ++ wsX10)
def wsX5_init : List Cond := .code yX5_init cX5_init 2 none :: ([.methodLink RX5 3 objectInit, .instanceMethod objectInit, .code objectInit ⟨#[0xb1]⟩ 1 none, .arrayClass .int, .fieldLink RX5 11 "ProofHouse$Reader" "phases" "[I", .fieldLink RX5 15 "ProofHouse$Reader" "bases" "[I", .fieldLink RX5 18 "ProofHouse$Reader" "tails" "[I", .fieldLink RX5 21 "ProofHouse$Reader" "items" "[I", .fieldLink RX5 24 "ProofHouse$Reader" "depth" "I", .fieldLink RX5 28 "ProofHouse$Reader" "held" "I", .fieldLink RX5 31 "ProofHouse$Reader" "words" "I", .fieldLink RX5 34 "ProofHouse$Reader" "whole" "I", .fieldLink RX5 37 "ProofHouse$Reader" "flaw" "I", .fieldLink RX5 40 "ProofHouse$Reader" "place" "I", .fieldLink RX5 43 "ProofHouse$Reader" "room" "LProofHouse$Room;"] ++ wsX50)
def wsX9_init : List Cond := .code yX9_init cX9_init 3 none :: ([.methodLink RX9 3 objectInit, .instanceMethod objectInit, .code objectInit ⟨#[0xb1]⟩ 1 none, .fieldLink RX9 9 "ProofHouse$Scribe" "length" "I", .fieldLink RX9 15 "ProofHouse$Scribe" "room" "LProofHouse$Room;", .methodLink RX9 19 Lib.Math.max.name, .static Lib.Math.max.name, .initialized "java/lang/Math", .code Lib.Math.max.name Lib.Math.max.code 2 (some .int), .arrayClass .char, .fieldLink RX9 25 "ProofHouse$Scribe" "letters" "[C", .arrayClass .int, .fieldLink RX9 29 "ProofHouse$Scribe" "rests" "[I"] ++ wsX90)
def wsX6_init_r1 : List Cond := [Cond.methodLink RX6 5 objectInit, Cond.instanceMethod objectInit, Cond.code objectInit ⟨#[0xb1]⟩ 1 none, Cond.classLink RX6 11 "[[I", Cond.arrayClass .int, Cond.fieldLink RX6 13 "ProofHouse$Rewriter" "frames" "[[I", Cond.fieldLink RX6 16 "ProofHouse$Rewriter" "depth" "I", Cond.fieldLink RX6 20 "ProofHouse$Rewriter" "answer" "I", Cond.fieldLink RX6 23 "ProofHouse$Rewriter" "horizon" "I", Cond.fieldLink RX6 26 "ProofHouse$Rewriter" "notes" "[[I", Cond.fieldLink RX6 29 "ProofHouse$Rewriter" "noted" "I", Cond.fieldLink RX6 32 "ProofHouse$Rewriter" "checking" "Z", Cond.fieldLink RX6 36 "ProofHouse$Rewriter" "nextNote" "I", Cond.fieldLink RX6 39 "ProofHouse$Rewriter" "room" "LProofHouse$Room;", Cond.fieldLink RX6 43 "ProofHouse$Rewriter" "book" "LProofHouse$Book;", Cond.fieldLink RX6 47 "ProofHouse$Rewriter" "terms" "LProofHouse$Terms;", Cond.fieldLink RX6 51 "ProofHouse$Rewriter" "evaluator" "LProofHouse$Evaluator;", Cond.classLink RX6 55 RX9, Cond.instantiable RX9 4, Cond.initialized RX9, Cond.fieldLink RX6 60 "ProofHouse$Rewriter" "mine" "LProofHouse$Scribe;", Cond.fieldLink RX6 64 "ProofHouse$Rewriter" "other" "LProofHouse$Scribe;", Cond.methodLink RX6 57 yX9_init, Cond.instanceMethod yX9_init]
def wsX6_init_r2 : List Cond := [Cond.code yX9_init cX9_init 3 none, Cond.methodLink RX9 3 objectInit, Cond.fieldLink RX9 9 "ProofHouse$Scribe" "length" "I", Cond.fieldLink RX9 15 "ProofHouse$Scribe" "room" "LProofHouse$Room;", Cond.methodLink RX9 19 Lib.Math.max.name, Cond.static Lib.Math.max.name, Cond.initialized "java/lang/Math", Cond.code Lib.Math.max.name Lib.Math.max.code 2 (some .int), Cond.arrayClass .char, Cond.fieldLink RX9 25 "ProofHouse$Scribe" "letters" "[C", Cond.fieldLink RX9 29 "ProofHouse$Scribe" "rests" "[I"]
def wsX6_init : List Cond := .code yX6_init cX6_init 5 none :: ((wsX6_init_r1 ++ wsX6_init_r2) ++ wsX60 ++ wsX90)
def wsX8_init : List Cond := .code yX8_init cX8_init 4 none :: ([.methodLink RX8 3 objectInit, .instanceMethod objectInit, .code objectInit ⟨#[0xb1]⟩ 1 none, .arrayClass .int, .fieldLink RX8 11 "ProofHouse$Schemes" "ifs" "[I", .arrayClass .boolean, .fieldLink RX8 15 "ProofHouse$Schemes" "third" "[Z", .fieldLink RX8 19 "ProofHouse$Schemes" "deep" "I", .fieldLink RX8 23 "ProofHouse$Schemes" "pathEnd" "I", .fieldLink RX8 26 "ProofHouse$Schemes" "calls" "[I", .fieldLink RX8 29 "ProofHouse$Schemes" "callCount" "I", .fieldLink RX8 32 "ProofHouse$Schemes" "filled" "[I", .fieldLink RX8 35 "ProofHouse$Schemes" "induction" "I", .fieldLink RX8 38 "ProofHouse$Schemes" "room" "LProofHouse$Room;", .fieldLink RX8 42 "ProofHouse$Schemes" "book" "LProofHouse$Book;", .fieldLink RX8 46 "ProofHouse$Schemes" "terms" "LProofHouse$Terms;"] ++ wsX80)
def wsX10_init : List Cond := .code yX10_init cX10_init 3 none :: ([.methodLink RX10 3 objectInit, .instanceMethod objectInit, .code objectInit ⟨#[0xb1]⟩ 1 none, .fieldLink RX10 9 "ProofHouse$Terms" "ownName" "I", .fieldLink RX10 15 "ProofHouse$Terms" "ownArity" "I", .arrayClass .int, .fieldLink RX10 18 "ProofHouse$Terms" "variables" "[I", .fieldLink RX10 22 "ProofHouse$Terms" "meanings" "[I", .fieldLink RX10 25 "ProofHouse$Terms" "bound" "I", .fieldLink RX10 28 "ProofHouse$Terms" "replaced" "I", .fieldLink RX10 31 "ProofHouse$Terms" "replacement" "I", .fieldLink RX10 34 "ProofHouse$Terms" "names" "[I", .fieldLink RX10 37 "ProofHouse$Terms" "rests" "[I", .fieldLink RX10 40 "ProofHouse$Terms" "bases" "[I", .fieldLink RX10 43 "ProofHouse$Terms" "values" "[I", .fieldLink RX10 46 "ProofHouse$Terms" "waiting" "[I", .fieldLink RX10 49 "ProofHouse$Terms" "targets" "[I", .fieldLink RX10 52 "ProofHouse$Terms" "parts" "[I", .fieldLink RX10 55 "ProofHouse$Terms" "room" "LProofHouse$Room;", .fieldLink RX10 59 "ProofHouse$Terms" "book" "LProofHouse$Book;"] ++ wsX100)
theorem dX0_init_0 : decode cX0_init 0 = .ok (.aload_n 0, 1) := by decide +kernel
theorem dX0_init_1 : decode cX0_init 1 = .ok (.invokespecial 3, 3) := by decide +kernel
theorem dX0_init_4 : decode cX0_init 4 = .ok (.aload_n 0, 1) := by decide +kernel
theorem dX0_init_5 : decode cX0_init 5 = .ok (.bipush 40, 2) := by decide +kernel
theorem dX0_init_7 : decode cX0_init 7 = .ok (.newarray .int, 2) := by decide +kernel
theorem dX0_init_9 : decode cX0_init 9 = .ok (.putfield 9, 3) := by decide +kernel
theorem dX0_init_12 : decode cX0_init 12 = .ok (.aload_n 0, 1) := by decide +kernel
theorem dX0_init_13 : decode cX0_init 13 = .ok (.bipush 40, 2) := by decide +kernel
theorem dX0_init_15 : decode cX0_init 15 = .ok (.newarray .int, 2) := by decide +kernel
theorem dX0_init_17 : decode cX0_init 17 = .ok (.putfield 15, 3) := by decide +kernel
theorem dX0_init_20 : decode cX0_init 20 = .ok (.aload_n 0, 1) := by decide +kernel
theorem dX0_init_21 : decode cX0_init 21 = .ok (.bipush 40, 2) := by decide +kernel
theorem dX0_init_23 : decode cX0_init 23 = .ok (.newarray .int, 2) := by decide +kernel
theorem dX0_init_25 : decode cX0_init 25 = .ok (.putfield 18, 3) := by decide +kernel
theorem dX0_init_28 : decode cX0_init 28 = .ok (.aload_n 0, 1) := by decide +kernel
theorem dX0_init_29 : decode cX0_init 29 = .ok (.bipush 40, 2) := by decide +kernel
theorem dX0_init_31 : decode cX0_init 31 = .ok (.newarray .int, 2) := by decide +kernel
theorem dX0_init_33 : decode cX0_init 33 = .ok (.putfield 21, 3) := by decide +kernel
theorem dX0_init_36 : decode cX0_init 36 = .ok (.aload_n 0, 1) := by decide +kernel
theorem dX0_init_37 : decode cX0_init 37 = .ok (.bipush 40, 2) := by decide +kernel
theorem dX0_init_39 : decode cX0_init 39 = .ok (.newarray .int, 2) := by decide +kernel
theorem dX0_init_41 : decode cX0_init 41 = .ok (.putfield 24, 3) := by decide +kernel
theorem dX0_init_44 : decode cX0_init 44 = .ok (.aload_n 0, 1) := by decide +kernel
theorem dX0_init_45 : decode cX0_init 45 = .ok (.iconst 0, 1) := by decide +kernel
theorem dX0_init_46 : decode cX0_init 46 = .ok (.putfield 27, 3) := by decide +kernel
theorem dX0_init_49 : decode cX0_init 49 = .ok (.aload_n 0, 1) := by decide +kernel
theorem dX0_init_50 : decode cX0_init 50 = .ok (.bipush 60, 2) := by decide +kernel
theorem dX0_init_52 : decode cX0_init 52 = .ok (.newarray .int, 2) := by decide +kernel
theorem dX0_init_54 : decode cX0_init 54 = .ok (.putfield 31, 3) := by decide +kernel
theorem dX0_init_57 : decode cX0_init 57 = .ok (.aload_n 0, 1) := by decide +kernel
theorem dX0_init_58 : decode cX0_init 58 = .ok (.bipush 60, 2) := by decide +kernel
theorem dX0_init_60 : decode cX0_init 60 = .ok (.newarray .int, 2) := by decide +kernel
theorem dX0_init_62 : decode cX0_init 62 = .ok (.putfield 34, 3) := by decide +kernel
theorem dX0_init_65 : decode cX0_init 65 = .ok (.aload_n 0, 1) := by decide +kernel
theorem dX0_init_66 : decode cX0_init 66 = .ok (.bipush 60, 2) := by decide +kernel
theorem dX0_init_68 : decode cX0_init 68 = .ok (.newarray .int, 2) := by decide +kernel
theorem dX0_init_70 : decode cX0_init 70 = .ok (.putfield 37, 3) := by decide +kernel
theorem dX0_init_73 : decode cX0_init 73 = .ok (.aload_n 0, 1) := by decide +kernel
theorem dX0_init_74 : decode cX0_init 74 = .ok (.bipush 60, 2) := by decide +kernel
theorem dX0_init_76 : decode cX0_init 76 = .ok (.newarray .int, 2) := by decide +kernel
theorem dX0_init_78 : decode cX0_init 78 = .ok (.putfield 40, 3) := by decide +kernel
theorem dX0_init_81 : decode cX0_init 81 = .ok (.aload_n 0, 1) := by decide +kernel
theorem dX0_init_82 : decode cX0_init 82 = .ok (.bipush 60, 2) := by decide +kernel
theorem dX0_init_84 : decode cX0_init 84 = .ok (.bipush 60, 2) := by decide +kernel
theorem dX0_init_86 : decode cX0_init 86 = .ok (.multianewarray 43 2, 4) := by decide +kernel
theorem dX0_init_90 : decode cX0_init 90 = .ok (.putfield 45, 3) := by decide +kernel
theorem dX0_init_93 : decode cX0_init 93 = .ok (.aload_n 0, 1) := by decide +kernel
theorem dX0_init_94 : decode cX0_init 94 = .ok (.bipush 60, 2) := by decide +kernel
theorem dX0_init_96 : decode cX0_init 96 = .ok (.newarray .int, 2) := by decide +kernel
theorem dX0_init_98 : decode cX0_init 98 = .ok (.putfield 48, 3) := by decide +kernel
theorem dX0_init_101 : decode cX0_init 101 = .ok (.aload_n 0, 1) := by decide +kernel
theorem dX0_init_102 : decode cX0_init 102 = .ok (.bipush 60, 2) := by decide +kernel
theorem dX0_init_104 : decode cX0_init 104 = .ok (.newarray .boolean, 2) := by decide +kernel
theorem dX0_init_106 : decode cX0_init 106 = .ok (.putfield 51, 3) := by decide +kernel
theorem dX0_init_109 : decode cX0_init 109 = .ok (.aload_n 0, 1) := by decide +kernel
theorem dX0_init_110 : decode cX0_init 110 = .ok (.bipush 60, 2) := by decide +kernel
theorem dX0_init_112 : decode cX0_init 112 = .ok (.newarray .boolean, 2) := by decide +kernel
theorem dX0_init_114 : decode cX0_init 114 = .ok (.putfield 55, 3) := by decide +kernel
theorem dX0_init_117 : decode cX0_init 117 = .ok (.aload_n 0, 1) := by decide +kernel
theorem dX0_init_118 : decode cX0_init 118 = .ok (.bipush 60, 2) := by decide +kernel
theorem dX0_init_120 : decode cX0_init 120 = .ok (.newarray .boolean, 2) := by decide +kernel
theorem dX0_init_122 : decode cX0_init 122 = .ok (.putfield 58, 3) := by decide +kernel
theorem dX0_init_125 : decode cX0_init 125 = .ok (.aload_n 0, 1) := by decide +kernel
theorem dX0_init_126 : decode cX0_init 126 = .ok (.bipush 60, 2) := by decide +kernel
theorem dX0_init_128 : decode cX0_init 128 = .ok (.newarray .boolean, 2) := by decide +kernel
theorem dX0_init_130 : decode cX0_init 130 = .ok (.putfield 61, 3) := by decide +kernel
theorem dX0_init_133 : decode cX0_init 133 = .ok (.aload_n 0, 1) := by decide +kernel
theorem dX0_init_134 : decode cX0_init 134 = .ok (.iconst 0, 1) := by decide +kernel
theorem dX0_init_135 : decode cX0_init 135 = .ok (.putfield 64, 3) := by decide +kernel
theorem dX0_init_138 : decode cX0_init 138 = .ok (.aload_n 0, 1) := by decide +kernel
theorem dX0_init_139 : decode cX0_init 139 = .ok (.bipush 100, 2) := by decide +kernel
theorem dX0_init_141 : decode cX0_init 141 = .ok (.newarray .int, 2) := by decide +kernel
theorem dX0_init_143 : decode cX0_init 143 = .ok (.putfield 67, 3) := by decide +kernel
theorem dX0_init_146 : decode cX0_init 146 = .ok (.aload_n 0, 1) := by decide +kernel
theorem dX0_init_147 : decode cX0_init 147 = .ok (.bipush 100, 2) := by decide +kernel
theorem dX0_init_149 : decode cX0_init 149 = .ok (.newarray .int, 2) := by decide +kernel
theorem dX0_init_151 : decode cX0_init 151 = .ok (.putfield 70, 3) := by decide +kernel
theorem dX0_init_154 : decode cX0_init 154 = .ok (.aload_n 0, 1) := by decide +kernel
theorem dX0_init_155 : decode cX0_init 155 = .ok (.iconst 0, 1) := by decide +kernel
theorem dX0_init_156 : decode cX0_init 156 = .ok (.putfield 73, 3) := by decide +kernel
theorem dX0_init_159 : decode cX0_init 159 = .ok (.aload_n 0, 1) := by decide +kernel
theorem dX0_init_160 : decode cX0_init 160 = .ok (.iload_n 1, 1) := by decide +kernel
theorem dX0_init_161 : decode cX0_init 161 = .ok (.putfield 76, 3) := by decide +kernel
theorem dX0_init_164 : decode cX0_init 164 = .ok (.return_, 1) := by decide +kernel
theorem dX1_init_0 : decode cX1_init 0 = .ok (.aload_n 0, 1) := by decide +kernel
theorem dX1_init_1 : decode cX1_init 1 = .ok (.invokespecial 3, 3) := by decide +kernel
theorem dX1_init_4 : decode cX1_init 4 = .ok (.aload_n 0, 1) := by decide +kernel
theorem dX1_init_5 : decode cX1_init 5 = .ok (.bipush 30, 2) := by decide +kernel
theorem dX1_init_7 : decode cX1_init 7 = .ok (.newarray .int, 2) := by decide +kernel
theorem dX1_init_9 : decode cX1_init 9 = .ok (.putfield 11, 3) := by decide +kernel
theorem dX1_init_12 : decode cX1_init 12 = .ok (.aload_n 0, 1) := by decide +kernel
theorem dX1_init_13 : decode cX1_init 13 = .ok (.iconst 0, 1) := by decide +kernel
theorem dX1_init_14 : decode cX1_init 14 = .ok (.putfield 15, 3) := by decide +kernel
theorem dX1_init_17 : decode cX1_init 17 = .ok (.aload_n 0, 1) := by decide +kernel
theorem dX1_init_18 : decode cX1_init 18 = .ok (.iconst 0, 1) := by decide +kernel
theorem dX1_init_19 : decode cX1_init 19 = .ok (.putfield 19, 3) := by decide +kernel
theorem dX1_init_22 : decode cX1_init 22 = .ok (.aload_n 0, 1) := by decide +kernel
theorem dX1_init_23 : decode cX1_init 23 = .ok (.iconst 0, 1) := by decide +kernel
theorem dX1_init_24 : decode cX1_init 24 = .ok (.putfield 22, 3) := by decide +kernel
theorem dX1_init_27 : decode cX1_init 27 = .ok (.return_, 1) := by decide +kernel
theorem dX2_init_0 : decode cX2_init 0 = .ok (.aload_n 0, 1) := by decide +kernel
theorem dX2_init_1 : decode cX2_init 1 = .ok (.invokespecial 3, 3) := by decide +kernel
theorem dX2_init_4 : decode cX2_init 4 = .ok (.aload_n 0, 1) := by decide +kernel
theorem dX2_init_5 : decode cX2_init 5 = .ok (.sipush 300, 3) := by decide +kernel
theorem dX2_init_8 : decode cX2_init 8 = .ok (.newarray .int, 2) := by decide +kernel
theorem dX2_init_10 : decode cX2_init 10 = .ok (.putfield 11, 3) := by decide +kernel
theorem dX2_init_13 : decode cX2_init 13 = .ok (.aload_n 0, 1) := by decide +kernel
theorem dX2_init_14 : decode cX2_init 14 = .ok (.sipush 300, 3) := by decide +kernel
theorem dX2_init_17 : decode cX2_init 17 = .ok (.newarray .int, 2) := by decide +kernel
theorem dX2_init_19 : decode cX2_init 19 = .ok (.putfield 15, 3) := by decide +kernel
theorem dX2_init_22 : decode cX2_init 22 = .ok (.aload_n 0, 1) := by decide +kernel
theorem dX2_init_23 : decode cX2_init 23 = .ok (.sipush 300, 3) := by decide +kernel
theorem dX2_init_26 : decode cX2_init 26 = .ok (.newarray .int, 2) := by decide +kernel
theorem dX2_init_28 : decode cX2_init 28 = .ok (.putfield 18, 3) := by decide +kernel
theorem dX2_init_31 : decode cX2_init 31 = .ok (.aload_n 0, 1) := by decide +kernel
theorem dX2_init_32 : decode cX2_init 32 = .ok (.sipush 300, 3) := by decide +kernel
theorem dX2_init_35 : decode cX2_init 35 = .ok (.newarray .boolean, 2) := by decide +kernel
theorem dX2_init_37 : decode cX2_init 37 = .ok (.putfield 21, 3) := by decide +kernel
theorem dX2_init_40 : decode cX2_init 40 = .ok (.aload_n 0, 1) := by decide +kernel
theorem dX2_init_41 : decode cX2_init 41 = .ok (.sipush 300, 3) := by decide +kernel
theorem dX2_init_44 : decode cX2_init 44 = .ok (.newarray .int, 2) := by decide +kernel
theorem dX2_init_46 : decode cX2_init 46 = .ok (.putfield 25, 3) := by decide +kernel
theorem dX2_init_49 : decode cX2_init 49 = .ok (.aload_n 0, 1) := by decide +kernel
theorem dX2_init_50 : decode cX2_init 50 = .ok (.sipush 300, 3) := by decide +kernel
theorem dX2_init_53 : decode cX2_init 53 = .ok (.newarray .int, 2) := by decide +kernel
theorem dX2_init_55 : decode cX2_init 55 = .ok (.putfield 28, 3) := by decide +kernel
theorem dX2_init_58 : decode cX2_init 58 = .ok (.aload_n 0, 1) := by decide +kernel
theorem dX2_init_59 : decode cX2_init 59 = .ok (.sipush 1803, 3) := by decide +kernel
theorem dX2_init_62 : decode cX2_init 62 = .ok (.newarray .int, 2) := by decide +kernel
theorem dX2_init_64 : decode cX2_init 64 = .ok (.putfield 31, 3) := by decide +kernel
theorem dX2_init_67 : decode cX2_init 67 = .ok (.aload_n 0, 1) := by decide +kernel
theorem dX2_init_68 : decode cX2_init 68 = .ok (.iconst 0, 1) := by decide +kernel
theorem dX2_init_69 : decode cX2_init 69 = .ok (.putfield 34, 3) := by decide +kernel
theorem dX2_init_72 : decode cX2_init 72 = .ok (.aload_n 0, 1) := by decide +kernel
theorem dX2_init_73 : decode cX2_init 73 = .ok (.iconst 0, 1) := by decide +kernel
theorem dX2_init_74 : decode cX2_init 74 = .ok (.putfield 38, 3) := by decide +kernel
theorem dX2_init_77 : decode cX2_init 77 = .ok (.aload_n 0, 1) := by decide +kernel
theorem dX2_init_78 : decode cX2_init 78 = .ok (.iconst (-1), 1) := by decide +kernel
theorem dX2_init_79 : decode cX2_init 79 = .ok (.putfield 41, 3) := by decide +kernel
theorem dX2_init_82 : decode cX2_init 82 = .ok (.aload_n 0, 1) := by decide +kernel
theorem dX2_init_83 : decode cX2_init 83 = .ok (.iconst 0, 1) := by decide +kernel
theorem dX2_init_84 : decode cX2_init 84 = .ok (.putfield 44, 3) := by decide +kernel
theorem dX2_init_87 : decode cX2_init 87 = .ok (.aload_n 0, 1) := by decide +kernel
theorem dX2_init_88 : decode cX2_init 88 = .ok (.iconst 0, 1) := by decide +kernel
theorem dX2_init_89 : decode cX2_init 89 = .ok (.putfield 47, 3) := by decide +kernel
theorem dX2_init_92 : decode cX2_init 92 = .ok (.aload_n 0, 1) := by decide +kernel
theorem dX2_init_93 : decode cX2_init 93 = .ok (.iconst 0, 1) := by decide +kernel
theorem dX2_init_94 : decode cX2_init 94 = .ok (.putfield 50, 3) := by decide +kernel
theorem dX2_init_97 : decode cX2_init 97 = .ok (.aload_n 0, 1) := by decide +kernel
theorem dX2_init_98 : decode cX2_init 98 = .ok (.aload_n 1, 1) := by decide +kernel
theorem dX2_init_99 : decode cX2_init 99 = .ok (.putfield 53, 3) := by decide +kernel
theorem dX2_init_102 : decode cX2_init 102 = .ok (.aload_n 0, 1) := by decide +kernel
theorem dX2_init_103 : decode cX2_init 103 = .ok (.aload_n 2, 1) := by decide +kernel
theorem dX2_init_104 : decode cX2_init 104 = .ok (.putfield 57, 3) := by decide +kernel
theorem dX2_init_107 : decode cX2_init 107 = .ok (.return_, 1) := by decide +kernel
set_option maxRecDepth 20000 in
theorem ggX3_init_X1_init : GoodIn wsX3_init wsX1_init := goodIn_r _ [21, 22, 2, 3, 5, 23, 24, 25, 26, 38, 39, 40, 41] (by decide +kernel) (by decide +kernel)
theorem dX3_init_0 : decode cX3_init 0 = .ok (.aload_n 0, 1) := by decide +kernel
theorem dX3_init_1 : decode cX3_init 1 = .ok (.invokespecial 3, 3) := by decide +kernel
theorem dX3_init_4 : decode cX3_init 4 = .ok (.aload_n 0, 1) := by decide +kernel
theorem dX3_init_5 : decode cX3_init 5 = .ok (.bipush 40, 2) := by decide +kernel
theorem dX3_init_7 : decode cX3_init 7 = .ok (.iconst 4, 1) := by decide +kernel
theorem dX3_init_8 : decode cX3_init 8 = .ok (.multianewarray 11 2, 4) := by decide +kernel
theorem dX3_init_12 : decode cX3_init 12 = .ok (.putfield 13, 3) := by decide +kernel
theorem dX3_init_15 : decode cX3_init 15 = .ok (.aload_n 0, 1) := by decide +kernel
theorem dX3_init_16 : decode cX3_init 16 = .ok (.iconst 0, 1) := by decide +kernel
theorem dX3_init_17 : decode cX3_init 17 = .ok (.putfield 16, 3) := by decide +kernel
theorem dX3_init_20 : decode cX3_init 20 = .ok (.aload_n 0, 1) := by decide +kernel
theorem dX3_init_21 : decode cX3_init 21 = .ok (.sipush 256, 3) := by decide +kernel
theorem dX3_init_24 : decode cX3_init 24 = .ok (.anewarray 20, 3) := by decide +kernel
theorem dX3_init_27 : decode cX3_init 27 = .ok (.putfield 22, 3) := by decide +kernel
theorem dX3_init_30 : decode cX3_init 30 = .ok (.aload_n 0, 1) := by decide +kernel
theorem dX3_init_31 : decode cX3_init 31 = .ok (.iconst 0, 1) := by decide +kernel
theorem dX3_init_32 : decode cX3_init 32 = .ok (.putfield 26, 3) := by decide +kernel
theorem dX3_init_35 : decode cX3_init 35 = .ok (.aload_n 0, 1) := by decide +kernel
theorem dX3_init_36 : decode cX3_init 36 = .ok (.new 20, 3) := by decide +kernel
theorem dX3_init_39 : decode cX3_init 39 = .ok (.dup, 1) := by decide +kernel
theorem dX3_init_40 : decode cX3_init 40 = .ok (.invokespecial 29, 3) := by decide +kernel
theorem dX3_init_43 : decode cX3_init 43 = .ok (.putfield 30, 3) := by decide +kernel
theorem dX3_init_46 : decode cX3_init 46 = .ok (.aload_n 0, 1) := by decide +kernel
theorem dX3_init_47 : decode cX3_init 47 = .ok (.iconst (-1), 1) := by decide +kernel
theorem dX3_init_48 : decode cX3_init 48 = .ok (.putfield 34, 3) := by decide +kernel
theorem dX3_init_51 : decode cX3_init 51 = .ok (.aload_n 0, 1) := by decide +kernel
theorem dX3_init_52 : decode cX3_init 52 = .ok (.aload_n 1, 1) := by decide +kernel
theorem dX3_init_53 : decode cX3_init 53 = .ok (.putfield 37, 3) := by decide +kernel
theorem dX3_init_56 : decode cX3_init 56 = .ok (.aload_n 0, 1) := by decide +kernel
theorem dX3_init_57 : decode cX3_init 57 = .ok (.aload_n 2, 1) := by decide +kernel
theorem dX3_init_58 : decode cX3_init 58 = .ok (.putfield 41, 3) := by decide +kernel
theorem dX3_init_61 : decode cX3_init 61 = .ok (.aload_n 0, 1) := by decide +kernel
theorem dX3_init_62 : decode cX3_init 62 = .ok (.aload_n 3, 1) := by decide +kernel
theorem dX3_init_63 : decode cX3_init 63 = .ok (.putfield 45, 3) := by decide +kernel
theorem dX3_init_66 : decode cX3_init 66 = .ok (.aload_n 0, 1) := by decide +kernel
theorem dX3_init_67 : decode cX3_init 67 = .ok (.aload 4, 2) := by decide +kernel
theorem dX3_init_69 : decode cX3_init 69 = .ok (.putfield 49, 3) := by decide +kernel
theorem dX3_init_72 : decode cX3_init 72 = .ok (.aload_n 0, 1) := by decide +kernel
theorem dX3_init_73 : decode cX3_init 73 = .ok (.aload 5, 2) := by decide +kernel
theorem dX3_init_75 : decode cX3_init 75 = .ok (.putfield 53, 3) := by decide +kernel
theorem dX3_init_78 : decode cX3_init 78 = .ok (.iconst 0, 1) := by decide +kernel
theorem dX3_init_79 : decode cX3_init 79 = .ok (.istore 6, 2) := by decide +kernel
theorem dX3_init_81 : decode cX3_init 81 = .ok (.iload 6, 2) := by decide +kernel
theorem dX3_init_83 : decode cX3_init 83 = .ok (.sipush 256, 3) := by decide +kernel
theorem dX3_init_86 : decode cX3_init 86 = .ok (.if_icmp .ge 23, 3) := by decide +kernel
theorem dX3_init_89 : decode cX3_init 89 = .ok (.aload_n 0, 1) := by decide +kernel
theorem dX3_init_90 : decode cX3_init 90 = .ok (.getfield 22, 3) := by decide +kernel
theorem dX3_init_93 : decode cX3_init 93 = .ok (.iload 6, 2) := by decide +kernel
theorem dX3_init_95 : decode cX3_init 95 = .ok (.new 20, 3) := by decide +kernel
theorem dX3_init_98 : decode cX3_init 98 = .ok (.dup, 1) := by decide +kernel
theorem dX3_init_99 : decode cX3_init 99 = .ok (.invokespecial 29, 3) := by decide +kernel
theorem dX3_init_102 : decode cX3_init 102 = .ok (.aastore, 1) := by decide +kernel
theorem dX3_init_103 : decode cX3_init 103 = .ok (.iinc 6 1, 3) := by decide +kernel
theorem dX3_init_106 : decode cX3_init 106 = .ok (.goto (-25), 3) := by decide +kernel
theorem dX3_init_109 : decode cX3_init 109 = .ok (.return_, 1) := by decide +kernel
set_option maxRecDepth 20000 in
theorem ggX4_init_X1_init : GoodIn wsX4_init wsX1_init := goodIn_r _ [19, 20, 2, 3, 21, 22, 23, 24, 25, 37, 38, 39, 40] (by decide +kernel) (by decide +kernel)
theorem dX4_init_0 : decode cX4_init 0 = .ok (.aload_n 0, 1) := by decide +kernel
theorem dX4_init_1 : decode cX4_init 1 = .ok (.invokespecial 5, 3) := by decide +kernel
theorem dX4_init_4 : decode cX4_init 4 = .ok (.aload_n 0, 1) := by decide +kernel
theorem dX4_init_5 : decode cX4_init 5 = .ok (.bipush 120, 2) := by decide +kernel
theorem dX4_init_7 : decode cX4_init 7 = .ok (.anewarray 11, 3) := by decide +kernel
theorem dX4_init_10 : decode cX4_init 10 = .ok (.putfield 13, 3) := by decide +kernel
theorem dX4_init_13 : decode cX4_init 13 = .ok (.aload_n 0, 1) := by decide +kernel
theorem dX4_init_14 : decode cX4_init 14 = .ok (.iconst 0, 1) := by decide +kernel
theorem dX4_init_15 : decode cX4_init 15 = .ok (.putfield 17, 3) := by decide +kernel
theorem dX4_init_18 : decode cX4_init 18 = .ok (.aload_n 0, 1) := by decide +kernel
theorem dX4_init_19 : decode cX4_init 19 = .ok (.bipush 10, 2) := by decide +kernel
theorem dX4_init_21 : decode cX4_init 21 = .ok (.anewarray 11, 3) := by decide +kernel
theorem dX4_init_24 : decode cX4_init 24 = .ok (.putfield 21, 3) := by decide +kernel
theorem dX4_init_27 : decode cX4_init 27 = .ok (.aload_n 0, 1) := by decide +kernel
theorem dX4_init_28 : decode cX4_init 28 = .ok (.iconst 0, 1) := by decide +kernel
theorem dX4_init_29 : decode cX4_init 29 = .ok (.putfield 24, 3) := by decide +kernel
theorem dX4_init_32 : decode cX4_init 32 = .ok (.aload_n 0, 1) := by decide +kernel
theorem dX4_init_33 : decode cX4_init 33 = .ok (.bipush 20, 2) := by decide +kernel
theorem dX4_init_35 : decode cX4_init 35 = .ok (.anewarray 11, 3) := by decide +kernel
theorem dX4_init_38 : decode cX4_init 38 = .ok (.putfield 27, 3) := by decide +kernel
theorem dX4_init_41 : decode cX4_init 41 = .ok (.aload_n 0, 1) := by decide +kernel
theorem dX4_init_42 : decode cX4_init 42 = .ok (.iconst 0, 1) := by decide +kernel
theorem dX4_init_43 : decode cX4_init 43 = .ok (.putfield 30, 3) := by decide +kernel
theorem dX4_init_46 : decode cX4_init 46 = .ok (.aload_n 0, 1) := by decide +kernel
theorem dX4_init_47 : decode cX4_init 47 = .ok (.new 11, 3) := by decide +kernel
theorem dX4_init_50 : decode cX4_init 50 = .ok (.dup, 1) := by decide +kernel
theorem dX4_init_51 : decode cX4_init 51 = .ok (.invokespecial 33, 3) := by decide +kernel
theorem dX4_init_54 : decode cX4_init 54 = .ok (.putfield 34, 3) := by decide +kernel
theorem dX4_init_57 : decode cX4_init 57 = .ok (.aload_n 0, 1) := by decide +kernel
theorem dX4_init_58 : decode cX4_init 58 = .ok (.iconst 0, 1) := by decide +kernel
theorem dX4_init_59 : decode cX4_init 59 = .ok (.putfield 38, 3) := by decide +kernel
theorem dX4_init_62 : decode cX4_init 62 = .ok (.aload_n 0, 1) := by decide +kernel
theorem dX4_init_63 : decode cX4_init 63 = .ok (.aload_n 1, 1) := by decide +kernel
theorem dX4_init_64 : decode cX4_init 64 = .ok (.putfield 42, 3) := by decide +kernel
theorem dX4_init_67 : decode cX4_init 67 = .ok (.aload_n 0, 1) := by decide +kernel
theorem dX4_init_68 : decode cX4_init 68 = .ok (.aload_n 2, 1) := by decide +kernel
theorem dX4_init_69 : decode cX4_init 69 = .ok (.putfield 46, 3) := by decide +kernel
theorem dX4_init_72 : decode cX4_init 72 = .ok (.aload_n 0, 1) := by decide +kernel
theorem dX4_init_73 : decode cX4_init 73 = .ok (.aload_n 3, 1) := by decide +kernel
theorem dX4_init_74 : decode cX4_init 74 = .ok (.putfield 50, 3) := by decide +kernel
theorem dX4_init_77 : decode cX4_init 77 = .ok (.iconst 0, 1) := by decide +kernel
theorem dX4_init_78 : decode cX4_init 78 = .ok (.istore 4, 2) := by decide +kernel
theorem dX4_init_80 : decode cX4_init 80 = .ok (.iload 4, 2) := by decide +kernel
theorem dX4_init_82 : decode cX4_init 82 = .ok (.bipush 120, 2) := by decide +kernel
theorem dX4_init_84 : decode cX4_init 84 = .ok (.if_icmp .ge 23, 3) := by decide +kernel
theorem dX4_init_87 : decode cX4_init 87 = .ok (.aload_n 0, 1) := by decide +kernel
theorem dX4_init_88 : decode cX4_init 88 = .ok (.getfield 13, 3) := by decide +kernel
theorem dX4_init_91 : decode cX4_init 91 = .ok (.iload 4, 2) := by decide +kernel
theorem dX4_init_93 : decode cX4_init 93 = .ok (.new 11, 3) := by decide +kernel
theorem dX4_init_96 : decode cX4_init 96 = .ok (.dup, 1) := by decide +kernel
theorem dX4_init_97 : decode cX4_init 97 = .ok (.invokespecial 33, 3) := by decide +kernel
theorem dX4_init_100 : decode cX4_init 100 = .ok (.aastore, 1) := by decide +kernel
theorem dX4_init_101 : decode cX4_init 101 = .ok (.iinc 4 1, 3) := by decide +kernel
theorem dX4_init_104 : decode cX4_init 104 = .ok (.goto (-24), 3) := by decide +kernel
theorem dX4_init_107 : decode cX4_init 107 = .ok (.iconst 0, 1) := by decide +kernel
theorem dX4_init_108 : decode cX4_init 108 = .ok (.istore 4, 2) := by decide +kernel
theorem dX4_init_110 : decode cX4_init 110 = .ok (.iload 4, 2) := by decide +kernel
theorem dX4_init_112 : decode cX4_init 112 = .ok (.bipush 10, 2) := by decide +kernel
theorem dX4_init_114 : decode cX4_init 114 = .ok (.if_icmp .ge 23, 3) := by decide +kernel
theorem dX4_init_117 : decode cX4_init 117 = .ok (.aload_n 0, 1) := by decide +kernel
theorem dX4_init_118 : decode cX4_init 118 = .ok (.getfield 21, 3) := by decide +kernel
theorem dX4_init_121 : decode cX4_init 121 = .ok (.iload 4, 2) := by decide +kernel
theorem dX4_init_123 : decode cX4_init 123 = .ok (.new 11, 3) := by decide +kernel
theorem dX4_init_126 : decode cX4_init 126 = .ok (.dup, 1) := by decide +kernel
theorem dX4_init_127 : decode cX4_init 127 = .ok (.invokespecial 33, 3) := by decide +kernel
theorem dX4_init_130 : decode cX4_init 130 = .ok (.aastore, 1) := by decide +kernel
theorem dX4_init_131 : decode cX4_init 131 = .ok (.iinc 4 1, 3) := by decide +kernel
theorem dX4_init_134 : decode cX4_init 134 = .ok (.goto (-24), 3) := by decide +kernel
theorem dX4_init_137 : decode cX4_init 137 = .ok (.iconst 0, 1) := by decide +kernel
theorem dX4_init_138 : decode cX4_init 138 = .ok (.istore 4, 2) := by decide +kernel
theorem dX4_init_140 : decode cX4_init 140 = .ok (.iload 4, 2) := by decide +kernel
theorem dX4_init_142 : decode cX4_init 142 = .ok (.bipush 20, 2) := by decide +kernel
theorem dX4_init_144 : decode cX4_init 144 = .ok (.if_icmp .ge 23, 3) := by decide +kernel
theorem dX4_init_147 : decode cX4_init 147 = .ok (.aload_n 0, 1) := by decide +kernel
theorem dX4_init_148 : decode cX4_init 148 = .ok (.getfield 27, 3) := by decide +kernel
theorem dX4_init_151 : decode cX4_init 151 = .ok (.iload 4, 2) := by decide +kernel
theorem dX4_init_153 : decode cX4_init 153 = .ok (.new 11, 3) := by decide +kernel
theorem dX4_init_156 : decode cX4_init 156 = .ok (.dup, 1) := by decide +kernel
theorem dX4_init_157 : decode cX4_init 157 = .ok (.invokespecial 33, 3) := by decide +kernel
theorem dX4_init_160 : decode cX4_init 160 = .ok (.aastore, 1) := by decide +kernel
theorem dX4_init_161 : decode cX4_init 161 = .ok (.iinc 4 1, 3) := by decide +kernel
theorem dX4_init_164 : decode cX4_init 164 = .ok (.goto (-24), 3) := by decide +kernel
theorem dX4_init_167 : decode cX4_init 167 = .ok (.return_, 1) := by decide +kernel
theorem dX5_init_0 : decode cX5_init 0 = .ok (.aload_n 0, 1) := by decide +kernel
theorem dX5_init_1 : decode cX5_init 1 = .ok (.invokespecial 3, 3) := by decide +kernel
theorem dX5_init_4 : decode cX5_init 4 = .ok (.aload_n 0, 1) := by decide +kernel
theorem dX5_init_5 : decode cX5_init 5 = .ok (.bipush 41, 2) := by decide +kernel
theorem dX5_init_7 : decode cX5_init 7 = .ok (.newarray .int, 2) := by decide +kernel
theorem dX5_init_9 : decode cX5_init 9 = .ok (.putfield 11, 3) := by decide +kernel
theorem dX5_init_12 : decode cX5_init 12 = .ok (.aload_n 0, 1) := by decide +kernel
theorem dX5_init_13 : decode cX5_init 13 = .ok (.bipush 41, 2) := by decide +kernel
theorem dX5_init_15 : decode cX5_init 15 = .ok (.newarray .int, 2) := by decide +kernel
theorem dX5_init_17 : decode cX5_init 17 = .ok (.putfield 15, 3) := by decide +kernel
theorem dX5_init_20 : decode cX5_init 20 = .ok (.aload_n 0, 1) := by decide +kernel
theorem dX5_init_21 : decode cX5_init 21 = .ok (.bipush 41, 2) := by decide +kernel
theorem dX5_init_23 : decode cX5_init 23 = .ok (.newarray .int, 2) := by decide +kernel
theorem dX5_init_25 : decode cX5_init 25 = .ok (.putfield 18, 3) := by decide +kernel
theorem dX5_init_28 : decode cX5_init 28 = .ok (.aload_n 0, 1) := by decide +kernel
theorem dX5_init_29 : decode cX5_init 29 = .ok (.sipush 1000, 3) := by decide +kernel
theorem dX5_init_32 : decode cX5_init 32 = .ok (.newarray .int, 2) := by decide +kernel
theorem dX5_init_34 : decode cX5_init 34 = .ok (.putfield 21, 3) := by decide +kernel
theorem dX5_init_37 : decode cX5_init 37 = .ok (.aload_n 0, 1) := by decide +kernel
theorem dX5_init_38 : decode cX5_init 38 = .ok (.iconst 0, 1) := by decide +kernel
theorem dX5_init_39 : decode cX5_init 39 = .ok (.putfield 24, 3) := by decide +kernel
theorem dX5_init_42 : decode cX5_init 42 = .ok (.aload_n 0, 1) := by decide +kernel
theorem dX5_init_43 : decode cX5_init 43 = .ok (.iconst 0, 1) := by decide +kernel
theorem dX5_init_44 : decode cX5_init 44 = .ok (.putfield 28, 3) := by decide +kernel
theorem dX5_init_47 : decode cX5_init 47 = .ok (.aload_n 0, 1) := by decide +kernel
theorem dX5_init_48 : decode cX5_init 48 = .ok (.iconst 0, 1) := by decide +kernel
theorem dX5_init_49 : decode cX5_init 49 = .ok (.putfield 31, 3) := by decide +kernel
theorem dX5_init_52 : decode cX5_init 52 = .ok (.aload_n 0, 1) := by decide +kernel
theorem dX5_init_53 : decode cX5_init 53 = .ok (.iconst 0, 1) := by decide +kernel
theorem dX5_init_54 : decode cX5_init 54 = .ok (.putfield 34, 3) := by decide +kernel
theorem dX5_init_57 : decode cX5_init 57 = .ok (.aload_n 0, 1) := by decide +kernel
theorem dX5_init_58 : decode cX5_init 58 = .ok (.iconst 0, 1) := by decide +kernel
theorem dX5_init_59 : decode cX5_init 59 = .ok (.putfield 37, 3) := by decide +kernel
theorem dX5_init_62 : decode cX5_init 62 = .ok (.aload_n 0, 1) := by decide +kernel
theorem dX5_init_63 : decode cX5_init 63 = .ok (.iconst (-1), 1) := by decide +kernel
theorem dX5_init_64 : decode cX5_init 64 = .ok (.putfield 40, 3) := by decide +kernel
theorem dX5_init_67 : decode cX5_init 67 = .ok (.aload_n 0, 1) := by decide +kernel
theorem dX5_init_68 : decode cX5_init 68 = .ok (.aload_n 1, 1) := by decide +kernel
theorem dX5_init_69 : decode cX5_init 69 = .ok (.putfield 43, 3) := by decide +kernel
theorem dX5_init_72 : decode cX5_init 72 = .ok (.return_, 1) := by decide +kernel
set_option maxRecDepth 20000 in
theorem ggX6_init_X9_init : GoodIn wsX6_init wsX9_init := goodIn_r _ [25, 26, 2, 3, 27, 28, 29, 30, 31, 32, 33, 34, 5, 35, 50, 51, 52, 53] (by decide +kernel) (by decide +kernel)
set_option maxRecDepth 20000 in
theorem gX6_init_X9_init : GoodIn wsX6_init (wsX9_init) := ggX6_init_X9_init
theorem dX6_init_0 : decode cX6_init 0 = .ok (.aload_n 0, 1) := by decide +kernel
theorem dX6_init_1 : decode cX6_init 1 = .ok (.invokespecial 5, 3) := by decide +kernel
theorem dX6_init_4 : decode cX6_init 4 = .ok (.aload_n 0, 1) := by decide +kernel
theorem dX6_init_5 : decode cX6_init 5 = .ok (.bipush 60, 2) := by decide +kernel
theorem dX6_init_7 : decode cX6_init 7 = .ok (.bipush 17, 2) := by decide +kernel
theorem dX6_init_9 : decode cX6_init 9 = .ok (.multianewarray 11 2, 4) := by decide +kernel
theorem dX6_init_13 : decode cX6_init 13 = .ok (.putfield 13, 3) := by decide +kernel
theorem dX6_init_16 : decode cX6_init 16 = .ok (.aload_n 0, 1) := by decide +kernel
theorem dX6_init_17 : decode cX6_init 17 = .ok (.iconst 0, 1) := by decide +kernel
theorem dX6_init_18 : decode cX6_init 18 = .ok (.putfield 16, 3) := by decide +kernel
theorem dX6_init_21 : decode cX6_init 21 = .ok (.aload_n 0, 1) := by decide +kernel
theorem dX6_init_22 : decode cX6_init 22 = .ok (.iconst (-1), 1) := by decide +kernel
theorem dX6_init_23 : decode cX6_init 23 = .ok (.putfield 20, 3) := by decide +kernel
theorem dX6_init_26 : decode cX6_init 26 = .ok (.aload_n 0, 1) := by decide +kernel
theorem dX6_init_27 : decode cX6_init 27 = .ok (.iconst 0, 1) := by decide +kernel
theorem dX6_init_28 : decode cX6_init 28 = .ok (.putfield 23, 3) := by decide +kernel
theorem dX6_init_31 : decode cX6_init 31 = .ok (.aload_n 0, 1) := by decide +kernel
theorem dX6_init_32 : decode cX6_init 32 = .ok (.sipush 1000, 3) := by decide +kernel
theorem dX6_init_35 : decode cX6_init 35 = .ok (.iconst 5, 1) := by decide +kernel
theorem dX6_init_36 : decode cX6_init 36 = .ok (.multianewarray 11 2, 4) := by decide +kernel
theorem dX6_init_40 : decode cX6_init 40 = .ok (.putfield 26, 3) := by decide +kernel
theorem dX6_init_43 : decode cX6_init 43 = .ok (.aload_n 0, 1) := by decide +kernel
theorem dX6_init_44 : decode cX6_init 44 = .ok (.iconst 0, 1) := by decide +kernel
theorem dX6_init_45 : decode cX6_init 45 = .ok (.putfield 29, 3) := by decide +kernel
theorem dX6_init_48 : decode cX6_init 48 = .ok (.aload_n 0, 1) := by decide +kernel
theorem dX6_init_49 : decode cX6_init 49 = .ok (.iconst 0, 1) := by decide +kernel
theorem dX6_init_50 : decode cX6_init 50 = .ok (.putfield 32, 3) := by decide +kernel
theorem dX6_init_53 : decode cX6_init 53 = .ok (.aload_n 0, 1) := by decide +kernel
theorem dX6_init_54 : decode cX6_init 54 = .ok (.iconst 0, 1) := by decide +kernel
theorem dX6_init_55 : decode cX6_init 55 = .ok (.putfield 36, 3) := by decide +kernel
theorem dX6_init_58 : decode cX6_init 58 = .ok (.aload_n 0, 1) := by decide +kernel
theorem dX6_init_59 : decode cX6_init 59 = .ok (.aload_n 1, 1) := by decide +kernel
theorem dX6_init_60 : decode cX6_init 60 = .ok (.putfield 39, 3) := by decide +kernel
theorem dX6_init_63 : decode cX6_init 63 = .ok (.aload_n 0, 1) := by decide +kernel
theorem dX6_init_64 : decode cX6_init 64 = .ok (.aload_n 2, 1) := by decide +kernel
theorem dX6_init_65 : decode cX6_init 65 = .ok (.putfield 43, 3) := by decide +kernel
theorem dX6_init_68 : decode cX6_init 68 = .ok (.aload_n 0, 1) := by decide +kernel
theorem dX6_init_69 : decode cX6_init 69 = .ok (.aload_n 3, 1) := by decide +kernel
theorem dX6_init_70 : decode cX6_init 70 = .ok (.putfield 47, 3) := by decide +kernel
theorem dX6_init_73 : decode cX6_init 73 = .ok (.aload_n 0, 1) := by decide +kernel
theorem dX6_init_74 : decode cX6_init 74 = .ok (.aload 4, 2) := by decide +kernel
theorem dX6_init_76 : decode cX6_init 76 = .ok (.putfield 51, 3) := by decide +kernel
theorem dX6_init_79 : decode cX6_init 79 = .ok (.aload_n 0, 1) := by decide +kernel
theorem dX6_init_80 : decode cX6_init 80 = .ok (.new 55, 3) := by decide +kernel
theorem dX6_init_83 : decode cX6_init 83 = .ok (.dup, 1) := by decide +kernel
theorem dX6_init_84 : decode cX6_init 84 = .ok (.aload_n 1, 1) := by decide +kernel
theorem dX6_init_85 : decode cX6_init 85 = .ok (.sipush 200, 3) := by decide +kernel
theorem dX6_init_88 : decode cX6_init 88 = .ok (.invokespecial 57, 3) := by decide +kernel
theorem dX6_init_91 : decode cX6_init 91 = .ok (.putfield 60, 3) := by decide +kernel
theorem dX6_init_94 : decode cX6_init 94 = .ok (.aload_n 0, 1) := by decide +kernel
theorem dX6_init_95 : decode cX6_init 95 = .ok (.new 55, 3) := by decide +kernel
theorem dX6_init_98 : decode cX6_init 98 = .ok (.dup, 1) := by decide +kernel
theorem dX6_init_99 : decode cX6_init 99 = .ok (.aload_n 1, 1) := by decide +kernel
theorem dX6_init_100 : decode cX6_init 100 = .ok (.sipush 200, 3) := by decide +kernel
theorem dX6_init_103 : decode cX6_init 103 = .ok (.invokespecial 57, 3) := by decide +kernel
theorem dX6_init_106 : decode cX6_init 106 = .ok (.putfield 64, 3) := by decide +kernel
theorem dX6_init_109 : decode cX6_init 109 = .ok (.return_, 1) := by decide +kernel
theorem dX8_init_0 : decode cX8_init 0 = .ok (.aload_n 0, 1) := by decide +kernel
theorem dX8_init_1 : decode cX8_init 1 = .ok (.invokespecial 3, 3) := by decide +kernel
theorem dX8_init_4 : decode cX8_init 4 = .ok (.aload_n 0, 1) := by decide +kernel
theorem dX8_init_5 : decode cX8_init 5 = .ok (.bipush 64, 2) := by decide +kernel
theorem dX8_init_7 : decode cX8_init 7 = .ok (.newarray .int, 2) := by decide +kernel
theorem dX8_init_9 : decode cX8_init 9 = .ok (.putfield 11, 3) := by decide +kernel
theorem dX8_init_12 : decode cX8_init 12 = .ok (.aload_n 0, 1) := by decide +kernel
theorem dX8_init_13 : decode cX8_init 13 = .ok (.bipush 64, 2) := by decide +kernel
theorem dX8_init_15 : decode cX8_init 15 = .ok (.newarray .boolean, 2) := by decide +kernel
theorem dX8_init_17 : decode cX8_init 17 = .ok (.putfield 15, 3) := by decide +kernel
theorem dX8_init_20 : decode cX8_init 20 = .ok (.aload_n 0, 1) := by decide +kernel
theorem dX8_init_21 : decode cX8_init 21 = .ok (.iconst 0, 1) := by decide +kernel
theorem dX8_init_22 : decode cX8_init 22 = .ok (.putfield 19, 3) := by decide +kernel
theorem dX8_init_25 : decode cX8_init 25 = .ok (.aload_n 0, 1) := by decide +kernel
theorem dX8_init_26 : decode cX8_init 26 = .ok (.iconst 0, 1) := by decide +kernel
theorem dX8_init_27 : decode cX8_init 27 = .ok (.putfield 23, 3) := by decide +kernel
theorem dX8_init_30 : decode cX8_init 30 = .ok (.aload_n 0, 1) := by decide +kernel
theorem dX8_init_31 : decode cX8_init 31 = .ok (.sipush 128, 3) := by decide +kernel
theorem dX8_init_34 : decode cX8_init 34 = .ok (.newarray .int, 2) := by decide +kernel
theorem dX8_init_36 : decode cX8_init 36 = .ok (.putfield 26, 3) := by decide +kernel
theorem dX8_init_39 : decode cX8_init 39 = .ok (.aload_n 0, 1) := by decide +kernel
theorem dX8_init_40 : decode cX8_init 40 = .ok (.iconst 0, 1) := by decide +kernel
theorem dX8_init_41 : decode cX8_init 41 = .ok (.putfield 29, 3) := by decide +kernel
theorem dX8_init_44 : decode cX8_init 44 = .ok (.aload_n 0, 1) := by decide +kernel
theorem dX8_init_45 : decode cX8_init 45 = .ok (.bipush 6, 2) := by decide +kernel
theorem dX8_init_47 : decode cX8_init 47 = .ok (.newarray .int, 2) := by decide +kernel
theorem dX8_init_49 : decode cX8_init 49 = .ok (.putfield 32, 3) := by decide +kernel
theorem dX8_init_52 : decode cX8_init 52 = .ok (.aload_n 0, 1) := by decide +kernel
theorem dX8_init_53 : decode cX8_init 53 = .ok (.iconst (-1), 1) := by decide +kernel
theorem dX8_init_54 : decode cX8_init 54 = .ok (.putfield 35, 3) := by decide +kernel
theorem dX8_init_57 : decode cX8_init 57 = .ok (.aload_n 0, 1) := by decide +kernel
theorem dX8_init_58 : decode cX8_init 58 = .ok (.aload_n 1, 1) := by decide +kernel
theorem dX8_init_59 : decode cX8_init 59 = .ok (.putfield 38, 3) := by decide +kernel
theorem dX8_init_62 : decode cX8_init 62 = .ok (.aload_n 0, 1) := by decide +kernel
theorem dX8_init_63 : decode cX8_init 63 = .ok (.aload_n 2, 1) := by decide +kernel
theorem dX8_init_64 : decode cX8_init 64 = .ok (.putfield 42, 3) := by decide +kernel
theorem dX8_init_67 : decode cX8_init 67 = .ok (.aload_n 0, 1) := by decide +kernel
theorem dX8_init_68 : decode cX8_init 68 = .ok (.aload_n 3, 1) := by decide +kernel
theorem dX8_init_69 : decode cX8_init 69 = .ok (.putfield 46, 3) := by decide +kernel
theorem dX8_init_72 : decode cX8_init 72 = .ok (.return_, 1) := by decide +kernel
theorem dX9_init_0 : decode cX9_init 0 = .ok (.aload_n 0, 1) := by decide +kernel
theorem dX9_init_1 : decode cX9_init 1 = .ok (.invokespecial 3, 3) := by decide +kernel
theorem dX9_init_4 : decode cX9_init 4 = .ok (.aload_n 0, 1) := by decide +kernel
theorem dX9_init_5 : decode cX9_init 5 = .ok (.iconst 0, 1) := by decide +kernel
theorem dX9_init_6 : decode cX9_init 6 = .ok (.putfield 9, 3) := by decide +kernel
theorem dX9_init_9 : decode cX9_init 9 = .ok (.aload_n 0, 1) := by decide +kernel
theorem dX9_init_10 : decode cX9_init 10 = .ok (.aload_n 1, 1) := by decide +kernel
theorem dX9_init_11 : decode cX9_init 11 = .ok (.putfield 15, 3) := by decide +kernel
theorem dX9_init_14 : decode cX9_init 14 = .ok (.aload_n 0, 1) := by decide +kernel
theorem dX9_init_15 : decode cX9_init 15 = .ok (.iconst 1, 1) := by decide +kernel
theorem dX9_init_16 : decode cX9_init 16 = .ok (.iload_n 2, 1) := by decide +kernel
theorem dX9_init_17 : decode cX9_init 17 = .ok (.invokestatic 19, 3) := by decide +kernel
theorem dX9_init_20 : decode cX9_init 20 = .ok (.newarray .char, 2) := by decide +kernel
theorem dX9_init_22 : decode cX9_init 22 = .ok (.putfield 25, 3) := by decide +kernel
theorem dX9_init_25 : decode cX9_init 25 = .ok (.aload_n 0, 1) := by decide +kernel
theorem dX9_init_26 : decode cX9_init 26 = .ok (.iconst 1, 1) := by decide +kernel
theorem dX9_init_27 : decode cX9_init 27 = .ok (.iload_n 2, 1) := by decide +kernel
theorem dX9_init_28 : decode cX9_init 28 = .ok (.invokestatic 19, 3) := by decide +kernel
theorem dX9_init_31 : decode cX9_init 31 = .ok (.newarray .int, 2) := by decide +kernel
theorem dX9_init_33 : decode cX9_init 33 = .ok (.putfield 29, 3) := by decide +kernel
theorem dX9_init_36 : decode cX9_init 36 = .ok (.return_, 1) := by decide +kernel
theorem dX10_init_0 : decode cX10_init 0 = .ok (.aload_n 0, 1) := by decide +kernel
theorem dX10_init_1 : decode cX10_init 1 = .ok (.invokespecial 3, 3) := by decide +kernel
theorem dX10_init_4 : decode cX10_init 4 = .ok (.aload_n 0, 1) := by decide +kernel
theorem dX10_init_5 : decode cX10_init 5 = .ok (.iconst (-1), 1) := by decide +kernel
theorem dX10_init_6 : decode cX10_init 6 = .ok (.putfield 9, 3) := by decide +kernel
theorem dX10_init_9 : decode cX10_init 9 = .ok (.aload_n 0, 1) := by decide +kernel
theorem dX10_init_10 : decode cX10_init 10 = .ok (.iconst (-1), 1) := by decide +kernel
theorem dX10_init_11 : decode cX10_init 11 = .ok (.putfield 15, 3) := by decide +kernel
theorem dX10_init_14 : decode cX10_init 14 = .ok (.aload_n 0, 1) := by decide +kernel
theorem dX10_init_15 : decode cX10_init 15 = .ok (.sipush 256, 3) := by decide +kernel
theorem dX10_init_18 : decode cX10_init 18 = .ok (.newarray .int, 2) := by decide +kernel
theorem dX10_init_20 : decode cX10_init 20 = .ok (.putfield 18, 3) := by decide +kernel
theorem dX10_init_23 : decode cX10_init 23 = .ok (.aload_n 0, 1) := by decide +kernel
theorem dX10_init_24 : decode cX10_init 24 = .ok (.sipush 256, 3) := by decide +kernel
theorem dX10_init_27 : decode cX10_init 27 = .ok (.newarray .int, 2) := by decide +kernel
theorem dX10_init_29 : decode cX10_init 29 = .ok (.putfield 22, 3) := by decide +kernel
theorem dX10_init_32 : decode cX10_init 32 = .ok (.aload_n 0, 1) := by decide +kernel
theorem dX10_init_33 : decode cX10_init 33 = .ok (.iconst 0, 1) := by decide +kernel
theorem dX10_init_34 : decode cX10_init 34 = .ok (.putfield 25, 3) := by decide +kernel
theorem dX10_init_37 : decode cX10_init 37 = .ok (.aload_n 0, 1) := by decide +kernel
theorem dX10_init_38 : decode cX10_init 38 = .ok (.iconst (-1), 1) := by decide +kernel
theorem dX10_init_39 : decode cX10_init 39 = .ok (.putfield 28, 3) := by decide +kernel
theorem dX10_init_42 : decode cX10_init 42 = .ok (.aload_n 0, 1) := by decide +kernel
theorem dX10_init_43 : decode cX10_init 43 = .ok (.iconst (-1), 1) := by decide +kernel
theorem dX10_init_44 : decode cX10_init 44 = .ok (.putfield 31, 3) := by decide +kernel
theorem dX10_init_47 : decode cX10_init 47 = .ok (.aload_n 0, 1) := by decide +kernel
theorem dX10_init_48 : decode cX10_init 48 = .ok (.sipush 128, 3) := by decide +kernel
theorem dX10_init_51 : decode cX10_init 51 = .ok (.newarray .int, 2) := by decide +kernel
theorem dX10_init_53 : decode cX10_init 53 = .ok (.putfield 34, 3) := by decide +kernel
theorem dX10_init_56 : decode cX10_init 56 = .ok (.aload_n 0, 1) := by decide +kernel
theorem dX10_init_57 : decode cX10_init 57 = .ok (.sipush 128, 3) := by decide +kernel
theorem dX10_init_60 : decode cX10_init 60 = .ok (.newarray .int, 2) := by decide +kernel
theorem dX10_init_62 : decode cX10_init 62 = .ok (.putfield 37, 3) := by decide +kernel
theorem dX10_init_65 : decode cX10_init 65 = .ok (.aload_n 0, 1) := by decide +kernel
theorem dX10_init_66 : decode cX10_init 66 = .ok (.sipush 128, 3) := by decide +kernel
theorem dX10_init_69 : decode cX10_init 69 = .ok (.newarray .int, 2) := by decide +kernel
theorem dX10_init_71 : decode cX10_init 71 = .ok (.putfield 40, 3) := by decide +kernel
theorem dX10_init_74 : decode cX10_init 74 = .ok (.aload_n 0, 1) := by decide +kernel
theorem dX10_init_75 : decode cX10_init 75 = .ok (.sipush 768, 3) := by decide +kernel
theorem dX10_init_78 : decode cX10_init 78 = .ok (.newarray .int, 2) := by decide +kernel
theorem dX10_init_80 : decode cX10_init 80 = .ok (.putfield 43, 3) := by decide +kernel
theorem dX10_init_83 : decode cX10_init 83 = .ok (.aload_n 0, 1) := by decide +kernel
theorem dX10_init_84 : decode cX10_init 84 = .ok (.sipush 128, 3) := by decide +kernel
theorem dX10_init_87 : decode cX10_init 87 = .ok (.newarray .int, 2) := by decide +kernel
theorem dX10_init_89 : decode cX10_init 89 = .ok (.putfield 46, 3) := by decide +kernel
theorem dX10_init_92 : decode cX10_init 92 = .ok (.aload_n 0, 1) := by decide +kernel
theorem dX10_init_93 : decode cX10_init 93 = .ok (.sipush 128, 3) := by decide +kernel
theorem dX10_init_96 : decode cX10_init 96 = .ok (.newarray .int, 2) := by decide +kernel
theorem dX10_init_98 : decode cX10_init 98 = .ok (.putfield 49, 3) := by decide +kernel
theorem dX10_init_101 : decode cX10_init 101 = .ok (.aload_n 0, 1) := by decide +kernel
theorem dX10_init_102 : decode cX10_init 102 = .ok (.sipush 128, 3) := by decide +kernel
theorem dX10_init_105 : decode cX10_init 105 = .ok (.newarray .int, 2) := by decide +kernel
theorem dX10_init_107 : decode cX10_init 107 = .ok (.putfield 52, 3) := by decide +kernel
theorem dX10_init_110 : decode cX10_init 110 = .ok (.aload_n 0, 1) := by decide +kernel
theorem dX10_init_111 : decode cX10_init 111 = .ok (.aload_n 1, 1) := by decide +kernel
theorem dX10_init_112 : decode cX10_init 112 = .ok (.putfield 55, 3) := by decide +kernel
theorem dX10_init_115 : decode cX10_init 115 = .ok (.aload_n 0, 1) := by decide +kernel
theorem dX10_init_116 : decode cX10_init 116 = .ok (.aload_n 2, 1) := by decide +kernel
theorem dX10_init_117 : decode cX10_init 117 = .ok (.putfield 59, 3) := by decide +kernel
theorem dX10_init_120 : decode cX10_init 120 = .ok (.return_, 1) := by decide +kernel

set_option maxHeartbeats 4000000 in
set_option maxRecDepth 100000 in
/-- ProofHouse$Clause() -/
theorem c_X1_init (l : Launch) (D : va_G) (h0 sz : Nat)  : Met l yX1_init wsX1_init ({ frames := 1, cells := 1, slots := 30, locals := 12 }) (va_Pc [.ref (h0)] (fun U => U.heap.size = sz ∧ va_P D vwCl [(h0, .inr (1, [.null, .int 0, .int 0, .int 0]))] U.heap ∧ va_K D vwCl [] U ∧ va_D (fun _ => True) [(h0, .inr (1, [.null, .int 0, .int 0, .int 0]))])) (va_Qv (fun u : Nat => True) (fun u t => va_P D vwCl ([(h0, .inr (1, [.ref u, .int (0), .int (0), .int (0)]))]) t.heap ∧ va_K D vwCl ([]) t ∧ va_D (va_A [(h0, .inr (1, [.null, .int 0, .int 0, .int 0]))] sz) ([(h0, .inr (1, [.ref u, .int (0), .int (0), .int (0)]))])) (va_A [(h0, .inr (1, [.null, .int 0, .int 0, .int 0]))] sz)) 1 30 (va_A [(h0, .inr (1, [.null, .int 0, .int 0, .int 0]))] sz) := by
  refine Met.ofW (cc := cX1_init) (maxL := 1) (ret := none) (by decide) rfl ?_
  intro p e s m args below meth c s₁ B hml hv
  obtain ⟨rfl, hsz, hP, hK, hD0⟩ := hv
  have hx := B.exec
  have hb := B.bytes
  have hr := B.returns
  have hts := atoms_spec (ws := wsX1_init) B.pre
  have hown : s.vm.findClass RX1 = some m.cls := findClass_of_methodNamed B.named
  have hnm : meth.name = "<init>" := (name_of_methodNamed B.named B.method).1
  subst hsz
  have hD := hD0.self (sz := s.heap.size)
  generalize hAe : va_A ([(h0, .inr (1, [.null, .int 0, .int 0, .int 0]))]) s.heap.size = A at hD ⊢
  have hA : ∀ q : Nat, s.heap.size ≤ q → A q := fun q h => by rw [← hAe]; exact Or.inr h
  have hS : va_S A s.heap s.heap [] := va_S.rf
  have hl := lv_entry ([.ref (h0)]) (n := 1) (Nat.le_of_ble_eq_true rfl)
  rw [lg_entry_eq]
  generalize (lg_sl ([.ref (h0)]) ++ List.replicate (1 - (lg_sl ([.ref (h0)])).length) Slot.unset).toArray = ls at hl ⊢
  have hl : lv_has ls 1 [(0, .ref (h0))] := hl
  refine lv_aload_n hx hb dX1_init_0 rfl (lv_at hl 0 rfl) ?_
  refine W.objInit hx hb hown (hts (.methodLink RX1 3 objectInit) (List.mem_of_getElem? (i := 1) rfl)) (hts (.instanceMethod objectInit) (List.mem_of_getElem? (i := 2) rfl)) (hts (.code objectInit ⟨#[0xb1]⟩ 1 none) (List.mem_of_getElem? (i := 3) rfl)) rfl (by rw [hml]; exact hl.1) rfl dX1_init_1 (Nat.le_of_ble_eq_true rfl) (Nat.le_of_ble_eq_true rfl) ?_
  refine W.eq (g2 := F0 m 4 ls []) rfl ?_
  refine lv_aload_n hx hb dX1_init_4 rfl (lv_at hl 0 rfl) ?_
  refine lv_bipush hx hb dX1_init_5 (v := 30) rfl ?_
  refine ib_arr (C := RX1) (T := TX1) (N := 4) (ci := 1) (ty0 := tyX1) (atype := .int) (ty := .int) (a0 := (30, .inl (fun _ => 0))) (nw := 30) hx hb hts (fun w h => List.mem_cons_of_mem _ (List.mem_append_right _ h)) tyX1_ok nmX1 hown hnm rfl hA hK hP hD hS (hts (.arrayClass .int) (List.mem_of_getElem? (i := 4) rfl)) rfl (fun cA => ia_I cA _) (by decide) (by decide) (by decide) (Nat.le_of_ble_eq_true rfl) (Nat.le_of_ble_eq_true rfl) dX1_init_7 0 (by decide) (Nat.le_of_ble_eq_true rfl) (hts (.fieldLink RX1 11 "ProofHouse$Clause" "literals" "[I") (List.mem_of_getElem? (i := 5) rfl)) rfl rfl (tyX1_ok 0 (by decide)) dX1_init_9 ?_
  clear hP hD hS
  intro q1 H locs hP hD hS
  have hP : va_P D vwCl [(h0, .inr (1, [.ref q1, .int 0, .int 0, .int 0]))] H := hP
  have hD : va_D A [(h0, .inr (1, [.ref q1, .int 0, .int 0, .int 0]))] := hD
  refine lv_aload_n hx hb dX1_init_12 rfl (lv_at hl 0 rfl) ?_
  refine lv_iconst hx hb dX1_init_13 (v := 0) rfl ?_
  refine va_put (D := D) (ci := 1) (v := .int (0)) (ty := .int) (C := RX1) (T := TX1) (N := 4) hx hb hts (fun w h => List.mem_cons_of_mem _ (List.mem_append_right _ h)) tyX1 tyX1_ok nmX1 hown hK hP hD hS 0 rfl rfl 1 (by decide) (hts (.fieldLink RX1 15 "ProofHouse$Clause" "length" "I") (List.mem_of_getElem? (i := 6) rfl)) (fun _ h9 => h9) rfl (tyX1_ok 1 (by decide)) rfl rfl (Nat.le_of_ble_eq_true rfl) dX1_init_14 ?_
  clear hP hD hS
  intro H locs hP hD hS
  have hP : va_P D vwCl [(h0, .inr (1, [.ref q1, .int (0), .int 0, .int 0]))] H := hP
  have hD : va_D A [(h0, .inr (1, [.ref q1, .int (0), .int 0, .int 0]))] := hD
  refine lv_aload_n hx hb dX1_init_17 rfl (lv_at hl 0 rfl) ?_
  refine lv_iconst hx hb dX1_init_18 (v := 0) rfl ?_
  refine va_put (D := D) (ci := 1) (v := .int (0)) (ty := .int) (C := RX1) (T := TX1) (N := 4) hx hb hts (fun w h => List.mem_cons_of_mem _ (List.mem_append_right _ h)) tyX1 tyX1_ok nmX1 hown hK hP hD hS 0 rfl rfl 2 (by decide) (hts (.fieldLink RX1 19 "ProofHouse$Clause" "weight" "I") (List.mem_of_getElem? (i := 7) rfl)) (fun _ h9 => h9) rfl (tyX1_ok 2 (by decide)) rfl rfl (Nat.le_of_ble_eq_true rfl) dX1_init_19 ?_
  clear hP hD hS
  intro H locs hP hD hS
  have hP : va_P D vwCl [(h0, .inr (1, [.ref q1, .int (0), .int (0), .int 0]))] H := hP
  have hD : va_D A [(h0, .inr (1, [.ref q1, .int (0), .int (0), .int 0]))] := hD
  refine lv_aload_n hx hb dX1_init_22 rfl (lv_at hl 0 rfl) ?_
  refine lv_iconst hx hb dX1_init_23 (v := 0) rfl ?_
  refine va_put (D := D) (ci := 1) (v := .int (0)) (ty := .int) (C := RX1) (T := TX1) (N := 4) hx hb hts (fun w h => List.mem_cons_of_mem _ (List.mem_append_right _ h)) tyX1 tyX1_ok nmX1 hown hK hP hD hS 0 rfl rfl 3 (by decide) (hts (.fieldLink RX1 22 "ProofHouse$Clause" "rounds" "I") (List.mem_of_getElem? (i := 8) rfl)) (fun _ h9 => h9) rfl (tyX1_ok 3 (by decide)) rfl rfl (Nat.le_of_ble_eq_true rfl) dX1_init_24 ?_
  clear hP hD hS
  intro H locs hP hD hS
  have hP : va_P D vwCl [(h0, .inr (1, [.ref q1, .int (0), .int (0), .int (0)]))] H := hP
  have hD : va_D A [(h0, .inr (1, [.ref q1, .int (0), .int (0), .int (0)]))] := hD
  replace hP := hP.sub (ws' := [(h0, .inr (1, [.ref q1, .int (0), .int (0), .int (0)]))]) [0] rfl
  replace hD := hD.sub (ws' := [(h0, .inr (1, [.ref q1, .int (0), .int (0), .int (0)]))]) [0] (by decide) rfl
  replace hK := hK.sub (tys' := []) [] rfl
  exact W.vret hx hb hr (fun t ht hW => ⟨⟨q1, rfl, trivial, ⟨by rw [ht]; exact hP, va_K.moved hW.alike hK, hD⟩⟩, hS.F ht⟩) hS.2.2 dX1_init_27

set_option maxHeartbeats 4000000 in
set_option maxRecDepth 100000 in
/-- ProofHouse$Reader() -/
theorem c_X5_init (l : Launch) (D : va_G) (h0 sz : Nat) (r1 : Nat) : Met l yX5_init wsX5_init ({ frames := 1, cells := 4, slots := 1123, locals := 12 }) (va_Pc [.ref (h0), .ref (r1)] (fun U => U.heap.size = sz ∧ va_P D vwCl [(h0, .inr (5, [.null, .null, .null, .null, .null, .int 0, .int 0, .int 0, .int 0, .int 0, .int 0]))] U.heap ∧ va_K D vwCl [] U ∧ va_D (fun _ => True) [(h0, .inr (5, [.null, .null, .null, .null, .null, .int 0, .int 0, .int 0, .int 0, .int 0, .int 0]))])) (va_Qv (fun u : (Nat → Nat) × ClassId => True) (fun u t => va_P D vwCl ([(h0, .inr (5, [.ref (r1), .ref (u.1 1), .ref (u.1 2), .ref (u.1 3), .ref (u.1 4), .int (0), .int (0), .int (0), .int (0), .int (0), .int ((-1))])), (u.1 1, .inl (u.2, 41, .inl (fun _ => 0)))]) t.heap ∧ va_K D vwCl ([(u.2, .int)]) t ∧ va_D (va_A [(h0, .inr (5, [.null, .null, .null, .null, .null, .int 0, .int 0, .int 0, .int 0, .int 0, .int 0]))] sz) ([(h0, .inr (5, [.ref (r1), .ref (u.1 1), .ref (u.1 2), .ref (u.1 3), .ref (u.1 4), .int (0), .int (0), .int (0), .int (0), .int (0), .int ((-1))])), (u.1 1, .inl (u.2, 41, .inl (fun _ => 0)))])) (va_A [(h0, .inr (5, [.null, .null, .null, .null, .null, .int 0, .int 0, .int 0, .int 0, .int 0, .int 0]))] sz)) 4 1123 (va_A [(h0, .inr (5, [.null, .null, .null, .null, .null, .int 0, .int 0, .int 0, .int 0, .int 0, .int 0]))] sz) := by
  refine Met.ofW (cc := cX5_init) (maxL := 2) (ret := none) (by decide) rfl ?_
  intro p e s m args below meth c s₁ B hml hv
  obtain ⟨rfl, hsz, hP, hK, hD0⟩ := hv
  have hx := B.exec
  have hb := B.bytes
  have hr := B.returns
  have hts := atoms_spec (ws := wsX5_init) B.pre
  have hown : s.vm.findClass RX5 = some m.cls := findClass_of_methodNamed B.named
  have hnm : meth.name = "<init>" := (name_of_methodNamed B.named B.method).1
  subst hsz
  have hD := hD0.self (sz := s.heap.size)
  generalize hAe : va_A ([(h0, .inr (5, [.null, .null, .null, .null, .null, .int 0, .int 0, .int 0, .int 0, .int 0, .int 0]))]) s.heap.size = A at hD ⊢
  have hA : ∀ q : Nat, s.heap.size ≤ q → A q := fun q h => by rw [← hAe]; exact Or.inr h
  have hS : va_S A s.heap s.heap [] := va_S.rf
  have hl := lv_entry ([.ref (h0), .ref (r1)]) (n := 2) (Nat.le_of_ble_eq_true rfl)
  rw [lg_entry_eq]
  generalize (lg_sl ([.ref (h0), .ref (r1)]) ++ List.replicate (2 - (lg_sl ([.ref (h0), .ref (r1)])).length) Slot.unset).toArray = ls at hl ⊢
  have hl : lv_has ls 2 [(0, .ref (h0)), (1, .ref (r1))] := hl
  refine lv_aload_n hx hb dX5_init_0 rfl (lv_at hl 0 rfl) ?_
  refine W.objInit hx hb hown (hts (.methodLink RX5 3 objectInit) (List.mem_of_getElem? (i := 1) rfl)) (hts (.instanceMethod objectInit) (List.mem_of_getElem? (i := 2) rfl)) (hts (.code objectInit ⟨#[0xb1]⟩ 1 none) (List.mem_of_getElem? (i := 3) rfl)) rfl (by rw [hml]; exact hl.1) rfl dX5_init_1 (Nat.le_of_ble_eq_true rfl) (Nat.le_of_ble_eq_true rfl) ?_
  refine W.eq (g2 := F0 m 4 ls []) rfl ?_
  refine lv_aload_n hx hb dX5_init_4 rfl (lv_at hl 0 rfl) ?_
  refine lv_bipush hx hb dX5_init_5 (v := 41) rfl ?_
  refine ib_arrK (C := RX5) (T := TX5) (N := 11) (ci := 5) (ty0 := tyX5) (atype := .int) (ty := .int) (a0 := (41, .inl (fun _ => 0))) (nw := 41) hx hb hts (fun w h => List.mem_cons_of_mem _ (List.mem_append_right _ h)) tyX5_ok nmX5 hown hnm rfl hA hK hP hD hS (hts (.arrayClass .int) (List.mem_of_getElem? (i := 4) rfl)) rfl (fun cA => ia_I cA _) (by decide) (by decide) (by decide) (Nat.le_of_ble_eq_true rfl) (Nat.le_of_ble_eq_true rfl) dX5_init_7 1 (by decide) (Nat.le_of_ble_eq_true rfl) (hts (.fieldLink RX5 11 "ProofHouse$Reader" "phases" "[I") (List.mem_of_getElem? (i := 5) rfl)) rfl rfl (tyX5_ok 1 (by decide)) dX5_init_9 ?_
  clear hP hD hS hK
  intro q1 c2 H locs hK hP hD hS
  have hK : va_K D vwCl [(c2, .int)] s := hK
  have hP : va_P D vwCl [(h0, .inr (5, [.null, .ref q1, .null, .null, .null, .int 0, .int 0, .int 0, .int 0, .int 0, .int 0])), (q1, .inl (c2, 41, .inl (fun _ => 0)))] H := hP
  have hD : va_D A [(h0, .inr (5, [.null, .ref q1, .null, .null, .null, .int 0, .int 0, .int 0, .int 0, .int 0, .int 0])), (q1, .inl (c2, 41, .inl (fun _ => 0)))] := hD
  refine lv_aload_n hx hb dX5_init_12 rfl (lv_at hl 0 rfl) ?_
  refine lv_bipush hx hb dX5_init_13 (v := 41) rfl ?_
  refine ib_arr (C := RX5) (T := TX5) (N := 11) (ci := 5) (ty0 := tyX5) (atype := .int) (ty := .int) (a0 := (41, .inl (fun _ => 0))) (nw := 41) hx hb hts (fun w h => List.mem_cons_of_mem _ (List.mem_append_right _ h)) tyX5_ok nmX5 hown hnm rfl hA hK hP hD hS (hts (.arrayClass .int) (List.mem_of_getElem? (i := 4) rfl)) rfl (fun cA => ia_I cA _) (by decide) (by decide) (by decide) (Nat.le_of_ble_eq_true rfl) (Nat.le_of_ble_eq_true rfl) dX5_init_15 2 (by decide) (Nat.le_of_ble_eq_true rfl) (hts (.fieldLink RX5 15 "ProofHouse$Reader" "bases" "[I") (List.mem_of_getElem? (i := 6) rfl)) rfl rfl (tyX5_ok 2 (by decide)) dX5_init_17 ?_
  clear hP hD hS
  intro q3 H locs hP hD hS
  have hP : va_P D vwCl [(h0, .inr (5, [.null, .ref q1, .ref q3, .null, .null, .int 0, .int 0, .int 0, .int 0, .int 0, .int 0])), (q1, .inl (c2, 41, .inl (fun _ => 0)))] H := hP
  have hD : va_D A [(h0, .inr (5, [.null, .ref q1, .ref q3, .null, .null, .int 0, .int 0, .int 0, .int 0, .int 0, .int 0])), (q1, .inl (c2, 41, .inl (fun _ => 0)))] := hD
  refine lv_aload_n hx hb dX5_init_20 rfl (lv_at hl 0 rfl) ?_
  refine lv_bipush hx hb dX5_init_21 (v := 41) rfl ?_
  refine ib_arr (C := RX5) (T := TX5) (N := 11) (ci := 5) (ty0 := tyX5) (atype := .int) (ty := .int) (a0 := (41, .inl (fun _ => 0))) (nw := 41) hx hb hts (fun w h => List.mem_cons_of_mem _ (List.mem_append_right _ h)) tyX5_ok nmX5 hown hnm rfl hA hK hP hD hS (hts (.arrayClass .int) (List.mem_of_getElem? (i := 4) rfl)) rfl (fun cA => ia_I cA _) (by decide) (by decide) (by decide) (Nat.le_of_ble_eq_true rfl) (Nat.le_of_ble_eq_true rfl) dX5_init_23 3 (by decide) (Nat.le_of_ble_eq_true rfl) (hts (.fieldLink RX5 18 "ProofHouse$Reader" "tails" "[I") (List.mem_of_getElem? (i := 7) rfl)) rfl rfl (tyX5_ok 3 (by decide)) dX5_init_25 ?_
  clear hP hD hS
  intro q4 H locs hP hD hS
  have hP : va_P D vwCl [(h0, .inr (5, [.null, .ref q1, .ref q3, .ref q4, .null, .int 0, .int 0, .int 0, .int 0, .int 0, .int 0])), (q1, .inl (c2, 41, .inl (fun _ => 0)))] H := hP
  have hD : va_D A [(h0, .inr (5, [.null, .ref q1, .ref q3, .ref q4, .null, .int 0, .int 0, .int 0, .int 0, .int 0, .int 0])), (q1, .inl (c2, 41, .inl (fun _ => 0)))] := hD
  refine lv_aload_n hx hb dX5_init_28 rfl (lv_at hl 0 rfl) ?_
  refine lv_sipush hx hb dX5_init_29 (v := 1000) rfl ?_
  refine ib_arr (C := RX5) (T := TX5) (N := 11) (ci := 5) (ty0 := tyX5) (atype := .int) (ty := .int) (a0 := (1000, .inl (fun _ => 0))) (nw := 1000) hx hb hts (fun w h => List.mem_cons_of_mem _ (List.mem_append_right _ h)) tyX5_ok nmX5 hown hnm rfl hA hK hP hD hS (hts (.arrayClass .int) (List.mem_of_getElem? (i := 4) rfl)) rfl (fun cA => ia_I cA _) (by decide) (by decide) (by decide) (Nat.le_of_ble_eq_true rfl) (Nat.le_of_ble_eq_true rfl) dX5_init_32 4 (by decide) (Nat.le_of_ble_eq_true rfl) (hts (.fieldLink RX5 21 "ProofHouse$Reader" "items" "[I") (List.mem_of_getElem? (i := 8) rfl)) rfl rfl (tyX5_ok 4 (by decide)) dX5_init_34 ?_
  clear hP hD hS
  intro q5 H locs hP hD hS
  have hP : va_P D vwCl [(h0, .inr (5, [.null, .ref q1, .ref q3, .ref q4, .ref q5, .int 0, .int 0, .int 0, .int 0, .int 0, .int 0])), (q1, .inl (c2, 41, .inl (fun _ => 0)))] H := hP
  have hD : va_D A [(h0, .inr (5, [.null, .ref q1, .ref q3, .ref q4, .ref q5, .int 0, .int 0, .int 0, .int 0, .int 0, .int 0])), (q1, .inl (c2, 41, .inl (fun _ => 0)))] := hD
  refine lv_aload_n hx hb dX5_init_37 rfl (lv_at hl 0 rfl) ?_
  refine lv_iconst hx hb dX5_init_38 (v := 0) rfl ?_
  refine va_put (D := D) (ci := 5) (v := .int (0)) (ty := .int) (C := RX5) (T := TX5) (N := 11) hx hb hts (fun w h => List.mem_cons_of_mem _ (List.mem_append_right _ h)) tyX5 tyX5_ok nmX5 hown hK hP hD hS 0 rfl rfl 5 (by decide) (hts (.fieldLink RX5 24 "ProofHouse$Reader" "depth" "I") (List.mem_of_getElem? (i := 9) rfl)) (fun _ h9 => h9) rfl (tyX5_ok 5 (by decide)) rfl rfl (Nat.le_of_ble_eq_true rfl) dX5_init_39 ?_
  clear hP hD hS
  intro H locs hP hD hS
  have hP : va_P D vwCl [(h0, .inr (5, [.null, .ref q1, .ref q3, .ref q4, .ref q5, .int (0), .int 0, .int 0, .int 0, .int 0, .int 0])), (q1, .inl (c2, 41, .inl (fun _ => 0)))] H := hP
  have hD : va_D A [(h0, .inr (5, [.null, .ref q1, .ref q3, .ref q4, .ref q5, .int (0), .int 0, .int 0, .int 0, .int 0, .int 0])), (q1, .inl (c2, 41, .inl (fun _ => 0)))] := hD
  refine lv_aload_n hx hb dX5_init_42 rfl (lv_at hl 0 rfl) ?_
  refine lv_iconst hx hb dX5_init_43 (v := 0) rfl ?_
  refine va_put (D := D) (ci := 5) (v := .int (0)) (ty := .int) (C := RX5) (T := TX5) (N := 11) hx hb hts (fun w h => List.mem_cons_of_mem _ (List.mem_append_right _ h)) tyX5 tyX5_ok nmX5 hown hK hP hD hS 0 rfl rfl 6 (by decide) (hts (.fieldLink RX5 28 "ProofHouse$Reader" "held" "I") (List.mem_of_getElem? (i := 10) rfl)) (fun _ h9 => h9) rfl (tyX5_ok 6 (by decide)) rfl rfl (Nat.le_of_ble_eq_true rfl) dX5_init_44 ?_
  clear hP hD hS
  intro H locs hP hD hS
  have hP : va_P D vwCl [(h0, .inr (5, [.null, .ref q1, .ref q3, .ref q4, .ref q5, .int (0), .int (0), .int 0, .int 0, .int 0, .int 0])), (q1, .inl (c2, 41, .inl (fun _ => 0)))] H := hP
  have hD : va_D A [(h0, .inr (5, [.null, .ref q1, .ref q3, .ref q4, .ref q5, .int (0), .int (0), .int 0, .int 0, .int 0, .int 0])), (q1, .inl (c2, 41, .inl (fun _ => 0)))] := hD
  refine lv_aload_n hx hb dX5_init_47 rfl (lv_at hl 0 rfl) ?_
  refine lv_iconst hx hb dX5_init_48 (v := 0) rfl ?_
  refine va_put (D := D) (ci := 5) (v := .int (0)) (ty := .int) (C := RX5) (T := TX5) (N := 11) hx hb hts (fun w h => List.mem_cons_of_mem _ (List.mem_append_right _ h)) tyX5 tyX5_ok nmX5 hown hK hP hD hS 0 rfl rfl 7 (by decide) (hts (.fieldLink RX5 31 "ProofHouse$Reader" "words" "I") (List.mem_of_getElem? (i := 11) rfl)) (fun _ h9 => h9) rfl (tyX5_ok 7 (by decide)) rfl rfl (Nat.le_of_ble_eq_true rfl) dX5_init_49 ?_
  clear hP hD hS
  intro H locs hP hD hS
  have hP : va_P D vwCl [(h0, .inr (5, [.null, .ref q1, .ref q3, .ref q4, .ref q5, .int (0), .int (0), .int (0), .int 0, .int 0, .int 0])), (q1, .inl (c2, 41, .inl (fun _ => 0)))] H := hP
  have hD : va_D A [(h0, .inr (5, [.null, .ref q1, .ref q3, .ref q4, .ref q5, .int (0), .int (0), .int (0), .int 0, .int 0, .int 0])), (q1, .inl (c2, 41, .inl (fun _ => 0)))] := hD
  refine lv_aload_n hx hb dX5_init_52 rfl (lv_at hl 0 rfl) ?_
  refine lv_iconst hx hb dX5_init_53 (v := 0) rfl ?_
  refine va_put (D := D) (ci := 5) (v := .int (0)) (ty := .int) (C := RX5) (T := TX5) (N := 11) hx hb hts (fun w h => List.mem_cons_of_mem _ (List.mem_append_right _ h)) tyX5 tyX5_ok nmX5 hown hK hP hD hS 0 rfl rfl 8 (by decide) (hts (.fieldLink RX5 34 "ProofHouse$Reader" "whole" "I") (List.mem_of_getElem? (i := 12) rfl)) (fun _ h9 => h9) rfl (tyX5_ok 8 (by decide)) rfl rfl (Nat.le_of_ble_eq_true rfl) dX5_init_54 ?_
  clear hP hD hS
  intro H locs hP hD hS
  have hP : va_P D vwCl [(h0, .inr (5, [.null, .ref q1, .ref q3, .ref q4, .ref q5, .int (0), .int (0), .int (0), .int (0), .int 0, .int 0])), (q1, .inl (c2, 41, .inl (fun _ => 0)))] H := hP
  have hD : va_D A [(h0, .inr (5, [.null, .ref q1, .ref q3, .ref q4, .ref q5, .int (0), .int (0), .int (0), .int (0), .int 0, .int 0])), (q1, .inl (c2, 41, .inl (fun _ => 0)))] := hD
  refine lv_aload_n hx hb dX5_init_57 rfl (lv_at hl 0 rfl) ?_
  refine lv_iconst hx hb dX5_init_58 (v := 0) rfl ?_
  refine va_put (D := D) (ci := 5) (v := .int (0)) (ty := .int) (C := RX5) (T := TX5) (N := 11) hx hb hts (fun w h => List.mem_cons_of_mem _ (List.mem_append_right _ h)) tyX5 tyX5_ok nmX5 hown hK hP hD hS 0 rfl rfl 9 (by decide) (hts (.fieldLink RX5 37 "ProofHouse$Reader" "flaw" "I") (List.mem_of_getElem? (i := 13) rfl)) (fun _ h9 => h9) rfl (tyX5_ok 9 (by decide)) rfl rfl (Nat.le_of_ble_eq_true rfl) dX5_init_59 ?_
  clear hP hD hS
  intro H locs hP hD hS
  have hP : va_P D vwCl [(h0, .inr (5, [.null, .ref q1, .ref q3, .ref q4, .ref q5, .int (0), .int (0), .int (0), .int (0), .int (0), .int 0])), (q1, .inl (c2, 41, .inl (fun _ => 0)))] H := hP
  have hD : va_D A [(h0, .inr (5, [.null, .ref q1, .ref q3, .ref q4, .ref q5, .int (0), .int (0), .int (0), .int (0), .int (0), .int 0])), (q1, .inl (c2, 41, .inl (fun _ => 0)))] := hD
  refine lv_aload_n hx hb dX5_init_62 rfl (lv_at hl 0 rfl) ?_
  refine lv_iconst hx hb dX5_init_63 (v := (-1)) rfl ?_
  refine va_put (D := D) (ci := 5) (v := .int ((-1))) (ty := .int) (C := RX5) (T := TX5) (N := 11) hx hb hts (fun w h => List.mem_cons_of_mem _ (List.mem_append_right _ h)) tyX5 tyX5_ok nmX5 hown hK hP hD hS 0 rfl rfl 10 (by decide) (hts (.fieldLink RX5 40 "ProofHouse$Reader" "place" "I") (List.mem_of_getElem? (i := 14) rfl)) (fun _ h9 => h9) rfl (tyX5_ok 10 (by decide)) rfl rfl (Nat.le_of_ble_eq_true rfl) dX5_init_64 ?_
  clear hP hD hS
  intro H locs hP hD hS
  have hP : va_P D vwCl [(h0, .inr (5, [.null, .ref q1, .ref q3, .ref q4, .ref q5, .int (0), .int (0), .int (0), .int (0), .int (0), .int ((-1))])), (q1, .inl (c2, 41, .inl (fun _ => 0)))] H := hP
  have hD : va_D A [(h0, .inr (5, [.null, .ref q1, .ref q3, .ref q4, .ref q5, .int (0), .int (0), .int (0), .int (0), .int (0), .int ((-1))])), (q1, .inl (c2, 41, .inl (fun _ => 0)))] := hD
  refine lv_aload_n hx hb dX5_init_67 rfl (lv_at hl 0 rfl) ?_
  refine lv_aload_n hx hb dX5_init_68 rfl (lv_at hl 1 rfl) ?_
  refine va_putF (D := D) (ci := 5) (v := .ref (r1)) (ty := .object "ProofHouse$Room") (C := RX5) (T := TX5) (N := 11) hx hb hts (fun w h => List.mem_cons_of_mem _ (List.mem_append_right _ h)) tyX5 tyX5_ok nmX5 hown hK hP hD hS 0 rfl rfl 0 (by decide) (hts (.fieldLink RX5 43 "ProofHouse$Reader" "room" "LProofHouse$Room;") (List.mem_of_getElem? (i := 15) rfl)) (fun _ h9 => h9) rfl hnm rfl (tyX5_ok 0 (by decide)) rfl rfl (Nat.le_of_ble_eq_true rfl) dX5_init_69 ?_
  clear hP hD hS
  intro H locs hP hD hS
  have hP : va_P D vwCl [(h0, .inr (5, [.ref (r1), .ref q1, .ref q3, .ref q4, .ref q5, .int (0), .int (0), .int (0), .int (0), .int (0), .int ((-1))])), (q1, .inl (c2, 41, .inl (fun _ => 0)))] H := hP
  have hD : va_D A [(h0, .inr (5, [.ref (r1), .ref q1, .ref q3, .ref q4, .ref q5, .int (0), .int (0), .int (0), .int (0), .int (0), .int ((-1))])), (q1, .inl (c2, 41, .inl (fun _ => 0)))] := hD
  replace hP := hP.sub (ws' := [(h0, .inr (5, [.ref (r1), .ref q1, .ref q3, .ref q4, .ref q5, .int (0), .int (0), .int (0), .int (0), .int (0), .int ((-1))])), (q1, .inl (c2, 41, .inl (fun _ => 0)))]) [0, 1] rfl
  replace hD := hD.sub (ws' := [(h0, .inr (5, [.ref (r1), .ref q1, .ref q3, .ref q4, .ref q5, .int (0), .int (0), .int (0), .int (0), .int (0), .int ((-1))])), (q1, .inl (c2, 41, .inl (fun _ => 0)))]) [0, 1] (by decide) rfl
  replace hK := hK.sub (tys' := [(c2, .int)]) [0] rfl
  exact W.vret hx hb hr (fun t ht hW => ⟨⟨(fun k => ([0, q1, q3, q4, q5] : List Nat).getD k 0, c2), rfl, trivial, ⟨by rw [ht]; exact hP, va_K.moved hW.alike hK, hD⟩⟩, hS.F ht⟩) hS.2.2 dX5_init_72
end
