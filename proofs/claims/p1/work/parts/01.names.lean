theorem goodIn_r {big : List Cond} (ws : List Cond) (ps : List Nat) (hp : ws = ps.filterMap (fun i => big[i]?)) (h : ws.all goodWord = true) : GoodIn big ws := by
  intro w hw
  have h1 := List.all_eq_true.mp h w hw
  rw [hp] at hw
  obtain ⟨i, -, hi⟩ := List.mem_filterMap.mp hw
  have hm : w ∈ big := by first | exact List.mem_of_getElem? hi | exact List.getElem?_mem hi
  exact ⟨hm, good_of_word h1⟩
theorem goodIn_app {big a b : List Cond} (ha : GoodIn big a) (hb : GoodIn big b) : GoodIn big (a ++ b) := fun w h => (List.mem_append.mp h).elim (ha w) (hb w)
theorem goodIn_ca {big a b : List Cond} {c : Cond} (ha : GoodIn big (c :: a)) (hb : GoodIn big b) : GoodIn big (c :: (a ++ b)) := fun w h => (List.mem_cons.mp h).elim (fun e => ha w (List.mem_cons.mpr (Or.inl e))) (fun h => (List.mem_append.mp h).elim (fun h => ha w (List.mem_cons.mpr (Or.inr h))) (hb w))
theorem goodIn_sub {big ws : List Cond} (hm : ∀ w ∈ ws, w ∈ big) (h : ws.all goodWord = true) : GoodIn big ws := fun w hw => ⟨hm w hw, good_of_word (List.all_eq_true.mp h w hw)⟩
def RX0 : String := "ProofHouse$Book"
def TX0 : u_T := fun k => match k with
  | 0 => ("ProofHouse$Book", "functionNames", "[I", true)
  | 1 => ("ProofHouse$Book", "parameters", "[I", true)
  | 2 => ("ProofHouse$Book", "arities", "[I", true)
  | 3 => ("ProofHouse$Book", "bodies", "[I", true)
  | 4 => ("ProofHouse$Book", "measures", "[I", true)
  | 5 => ("ProofHouse$Book", "functions", "I", false)
  | 6 => ("ProofHouse$Book", "theoremNames", "[I", true)
  | 7 => ("ProofHouse$Book", "formulas", "[I", true)
  | 8 => ("ProofHouse$Book", "lefts", "[I", true)
  | 9 => ("ProofHouse$Book", "rights", "[I", true)
  | 10 => ("ProofHouse$Book", "hypotheses", "[[I", true)
  | 11 => ("ProofHouse$Book", "hypothesisCounts", "[I", true)
  | 12 => ("ProofHouse$Book", "truthAlone", "[Z", true)
  | 13 => ("ProofHouse$Book", "turning", "[Z", true)
  | 14 => ("ProofHouse$Book", "on", "[Z", true)
  | 15 => ("ProofHouse$Book", "muted", "[Z", true)
  | 16 => ("ProofHouse$Book", "theorems", "I", false)
  | 17 => ("ProofHouse$Book", "kinds", "[I", true)
  | 18 => ("ProofHouse$Book", "marks", "[I", true)
  | 19 => ("ProofHouse$Book", "entries", "I", false)
  | _ => ("ProofHouse$Book", "kept", "I", false)
def tyX0 : Nat → FieldType := fun k => match k with
  | 0 => .array .int
  | 1 => .array .int
  | 2 => .array .int
  | 3 => .array .int
  | 4 => .array .int
  | 5 => .int
  | 6 => .array .int
  | 7 => .array .int
  | 8 => .array .int
  | 9 => .array .int
  | 10 => .array (.array .int)
  | 11 => .array .int
  | 12 => .array .boolean
  | 13 => .array .boolean
  | 14 => .array .boolean
  | 15 => .array .boolean
  | 16 => .int
  | 17 => .array .int
  | 18 => .array .int
  | 19 => .int
  | _ => .int
abbrev wsX00 : List Cond := u_ws RX0 TX0 21
theorem nmX0 : ∀ a, a < 21 → ∀ b, b < 21 → a ≠ b → (TX0 a).2.1 ≠ (TX0 b).2.1 := by decide +kernel
theorem tyX0_ok : ∀ k, k < 21 → parseFieldDescriptor (TX0 k).2.2.1 = some (tyX0 k) := by decide +kernel
abbrev cX0_init : ByteArray := prog_2_method_1_code
def yX0_init : MethodName := ⟨RX0, "<init>", "(I)V"⟩
abbrev cX0_functionOf : ByteArray := prog_2_method_2_code
def yX0_functionOf : MethodName := ⟨RX0, "functionOf", "(I)I"⟩
abbrev cX0_theoremOf : ByteArray := prog_2_method_3_code
def yX0_theoremOf : MethodName := ⟨RX0, "theoremOf", "(I)I"⟩
abbrev cX0_arityOf : ByteArray := prog_2_method_4_code
def yX0_arityOf : MethodName := ⟨RX0, "arityOf", "(I)I"⟩
abbrev cX0_canLook : ByteArray := prog_2_method_5_code
def yX0_canLook : MethodName := ⟨RX0, "canLook", "(II)Z"⟩
abbrev cX0_rules : ByteArray := prog_2_method_6_code
def yX0_rules : MethodName := ⟨RX0, "rules", "(Z)I"⟩
abbrev cX0_muteNone : ByteArray := prog_2_method_7_code
def yX0_muteNone : MethodName := ⟨RX0, "muteNone", "()V"⟩
abbrev cX0_addFunction : ByteArray := prog_2_method_8_code
def yX0_addFunction : MethodName := ⟨RX0, "addFunction", "(IIIII)V"⟩
abbrev cX0_addTheorem : ByteArray := prog_2_method_9_code
def yX0_addTheorem : MethodName := ⟨RX0, "addTheorem", "(II)V"⟩
abbrev cX0_enter : ByteArray := prog_2_method_10_code
def yX0_enter : MethodName := ⟨RX0, "enter", "(II)V"⟩
abbrev cX0_takeBack : ByteArray := prog_2_method_11_code
def yX0_takeBack : MethodName := ⟨RX0, "takeBack", "()V"⟩
abbrev cX0_placeOf : ByteArray := prog_2_method_12_code
def yX0_placeOf : MethodName := ⟨RX0, "placeOf", "(I)I"⟩
def RX1 : String := "ProofHouse$Clause"
def TX1 : u_T := fun k => match k with
  | 0 => ("ProofHouse$Clause", "literals", "[I", true)
  | 1 => ("ProofHouse$Clause", "length", "I", false)
  | 2 => ("ProofHouse$Clause", "weight", "I", false)
  | _ => ("ProofHouse$Clause", "rounds", "I", false)
def tyX1 : Nat → FieldType := fun k => match k with
  | 0 => .array .int
  | 1 => .int
  | 2 => .int
  | _ => .int
abbrev wsX10 : List Cond := u_ws RX1 TX1 4
theorem nmX1 : ∀ a, a < 4 → ∀ b, b < 4 → a ≠ b → (TX1 a).2.1 ≠ (TX1 b).2.1 := by decide +kernel
theorem tyX1_ok : ∀ k, k < 4 → parseFieldDescriptor (TX1 k).2.2.1 = some (tyX1 k) := by decide +kernel
abbrev cX1_init : ByteArray := prog_3_method_1_code
def yX1_init : MethodName := ⟨RX1, "<init>", "()V"⟩
abbrev cX1_clear : ByteArray := prog_3_method_2_code
def yX1_clear : MethodName := ⟨RX1, "clear", "()V"⟩
abbrev cX1_copy : ByteArray := prog_3_method_3_code
def yX1_copy : MethodName := ⟨RX1, "copy", "(LProofHouse$Clause;)V"⟩
abbrev cX1_placeOf : ByteArray := prog_3_method_4_code
def yX1_placeOf : MethodName := ⟨RX1, "placeOf", "(I)I"⟩
abbrev cX1_insert : ByteArray := prog_3_method_5_code
def yX1_insert : MethodName := ⟨RX1, "insert", "(III)Z"⟩
abbrev cX1_isTooBig : ByteArray := prog_3_method_6_code
def yX1_isTooBig : MethodName := ⟨RX1, "isTooBig", "()Z"⟩
abbrev cX1_remove : ByteArray := prog_3_method_7_code
def yX1_remove : MethodName := ⟨RX1, "remove", "(II)V"⟩
def RX2 : String := "ProofHouse$Evaluator"
def TX2 : u_T := fun k => match k with
  | 0 => ("ProofHouse$Evaluator", "room", "LProofHouse$Room;", true)
  | 1 => ("ProofHouse$Evaluator", "book", "LProofHouse$Book;", true)
  | 2 => ("ProofHouse$Evaluator", "names", "[I", true)
  | 3 => ("ProofHouse$Evaluator", "rests", "[I", true)
  | 4 => ("ProofHouse$Evaluator", "bases", "[I", true)
  | 5 => ("ProofHouse$Evaluator", "inBody", "[Z", true)
  | 6 => ("ProofHouse$Evaluator", "outerOwners", "[I", true)
  | 7 => ("ProofHouse$Evaluator", "outerFloors", "[I", true)
  | 8 => ("ProofHouse$Evaluator", "values", "[I", true)
  | 9 => ("ProofHouse$Evaluator", "depth", "I", false)
  | 10 => ("ProofHouse$Evaluator", "held", "I", false)
  | 11 => ("ProofHouse$Evaluator", "owner", "I", false)
  | 12 => ("ProofHouse$Evaluator", "floor", "I", false)
  | 13 => ("ProofHouse$Evaluator", "stepsLeft", "I", false)
  | _ => ("ProofHouse$Evaluator", "stopped", "I", false)
def tyX2 : Nat → FieldType := fun k => match k with
  | 0 => .object "ProofHouse$Room"
  | 1 => .object "ProofHouse$Book"
  | 2 => .array .int
  | 3 => .array .int
  | 4 => .array .int
  | 5 => .array .boolean
  | 6 => .array .int
  | 7 => .array .int
  | 8 => .array .int
  | 9 => .int
  | 10 => .int
  | 11 => .int
  | 12 => .int
  | 13 => .int
  | _ => .int
abbrev wsX20 : List Cond := u_ws RX2 TX2 15
theorem nmX2 : ∀ a, a < 15 → ∀ b, b < 15 → a ≠ b → (TX2 a).2.1 ≠ (TX2 b).2.1 := by decide +kernel
theorem tyX2_ok : ∀ k, k < 15 → parseFieldDescriptor (TX2 k).2.2.1 = some (tyX2 k) := by decide +kernel
abbrev cX2_init : ByteArray := prog_4_method_1_code
def yX2_init : MethodName := ⟨RX2, "<init>", "(LProofHouse$Room;LProofHouse$Book;)V"⟩
abbrev cX2_evaluated : ByteArray := prog_4_method_2_code
def yX2_evaluated : MethodName := ⟨RX2, "evaluated", "(II)I"⟩
abbrev cX2_isReady : ByteArray := prog_4_method_3_code
def yX2_isReady : MethodName := ⟨RX2, "isReady", "(I)Z"⟩
abbrev cX2_begin : ByteArray := prog_4_method_4_code
def yX2_begin : MethodName := ⟨RX2, "begin", "(I)V"⟩
abbrev cX2_hold : ByteArray := prog_4_method_5_code
def yX2_hold : MethodName := ⟨RX2, "hold", "(I)V"⟩
abbrev cX2_parameterValue : ByteArray := prog_4_method_6_code
def yX2_parameterValue : MethodName := ⟨RX2, "parameterValue", "(I)I"⟩
abbrev cX2_goOn : ByteArray := prog_4_method_7_code
def yX2_goOn : MethodName := ⟨RX2, "goOn", "(I)I"⟩
abbrev cX2_close : ByteArray := prog_4_method_8_code
def yX2_close : MethodName := ⟨RX2, "close", "(I)V"⟩
abbrev cX2_baseValue : ByteArray := prog_4_method_9_code
def yX2_baseValue : MethodName := ⟨RX2, "baseValue", "(IIII)I"⟩
def RX3 : String := "ProofHouse$Proofs"
def TX3 : u_T := fun k => match k with
  | 0 => ("ProofHouse$Proofs", "room", "LProofHouse$Room;", true)
  | 1 => ("ProofHouse$Proofs", "book", "LProofHouse$Book;", true)
  | 2 => ("ProofHouse$Proofs", "terms", "LProofHouse$Terms;", true)
  | 3 => ("ProofHouse$Proofs", "evaluator", "LProofHouse$Evaluator;", true)
  | 4 => ("ProofHouse$Proofs", "schemes", "LProofHouse$Schemes;", true)
  | 5 => ("ProofHouse$Proofs", "frames", "[[I", true)
  | 6 => ("ProofHouse$Proofs", "depth", "I", false)
  | 7 => ("ProofHouse$Proofs", "clauses", "[LProofHouse$Clause;", true)
  | 8 => ("ProofHouse$Proofs", "held", "I", false)
  | 9 => ("ProofHouse$Proofs", "wanted", "LProofHouse$Clause;", true)
  | _ => ("ProofHouse$Proofs", "wrong", "I", false)
def tyX3 : Nat → FieldType := fun k => match k with
  | 0 => .object "ProofHouse$Room"
  | 1 => .object "ProofHouse$Book"
  | 2 => .object "ProofHouse$Terms"
  | 3 => .object "ProofHouse$Evaluator"
  | 4 => .object "ProofHouse$Schemes"
  | 5 => .array (.array .int)
  | 6 => .int
  | 7 => .array (.object "ProofHouse$Clause")
  | 8 => .int
  | 9 => .object "ProofHouse$Clause"
  | _ => .int
abbrev wsX30 : List Cond := u_ws RX3 TX3 11
theorem nmX3 : ∀ a, a < 11 → ∀ b, b < 11 → a ≠ b → (TX3 a).2.1 ≠ (TX3 b).2.1 := by decide +kernel
theorem tyX3_ok : ∀ k, k < 11 → parseFieldDescriptor (TX3 k).2.2.1 = some (tyX3 k) := by decide +kernel
abbrev cX3_init : ByteArray := prog_5_method_1_code
def yX3_init : MethodName := ⟨RX3, "<init>", "(LProofHouse$Room;LProofHouse$Book;LProofHouse$Terms;LProofHouse$Evaluator;LProofHouse$Schemes;)V"⟩
abbrev cX3_goThrough : ByteArray := prog_5_method_2_code
def yX3_goThrough : MethodName := ⟨RX3, "goThrough", "(I)V"⟩
abbrev cX3_open : ByteArray := prog_5_method_3_code
def yX3_open : MethodName := ⟨RX3, "open", "(I)V"⟩
abbrev cX3_isFormed : ByteArray := prog_5_method_4_code
def yX3_isFormed : MethodName := ⟨RX3, "isFormed", "(I)Z"⟩
abbrev cX3_termAt : ByteArray := prog_5_method_5_code
def yX3_termAt : MethodName := ⟨RX3, "termAt", "(II)I"⟩
abbrev cX3_isWholeFormed : ByteArray := prog_5_method_6_code
def yX3_isWholeFormed : MethodName := ⟨RX3, "isWholeFormed", "(I)Z"⟩
abbrev cX3_valueAt : ByteArray := prog_5_method_7_code
def yX3_valueAt : MethodName := ⟨RX3, "valueAt", "(I)I"⟩
abbrev cX3_isListOfTerms : ByteArray := prog_5_method_8_code
def yX3_isListOfTerms : MethodName := ⟨RX3, "isListOfTerms", "(I)Z"⟩
abbrev cX3_isInduction : ByteArray := prog_5_method_9_code
def yX3_isInduction : MethodName := ⟨RX3, "isInduction", "(I)Z"⟩
abbrev cX3_conclude : ByteArray := prog_5_method_10_code
def yX3_conclude : MethodName := ⟨RX3, "conclude", "([I)V"⟩
abbrev cX3_concludeAlone : ByteArray := prog_5_method_11_code
def yX3_concludeAlone : MethodName := ⟨RX3, "concludeAlone", "(LProofHouse$Clause;I)V"⟩
abbrev cX3_joinEqual : ByteArray := prog_5_method_12_code
def yX3_joinEqual : MethodName := ⟨RX3, "joinEqual", "(LProofHouse$Clause;II)V"⟩
abbrev cX3_concludePair : ByteArray := prog_5_method_13_code
def yX3_concludePair : MethodName := ⟨RX3, "concludePair", "(LProofHouse$Clause;III)V"⟩
abbrev cX3_definedCall : ByteArray := prog_5_method_14_code
def yX3_definedCall : MethodName := ⟨RX3, "definedCall", "(I)I"⟩
abbrev cX3_concludeOfParts : ByteArray := prog_5_method_15_code
def yX3_concludeOfParts : MethodName := ⟨RX3, "concludeOfParts", "(LProofHouse$Clause;II)Z"⟩
abbrev cX3_joinAllBut : ByteArray := prog_5_method_16_code
def yX3_joinAllBut : MethodName := ⟨RX3, "joinAllBut", "(LProofHouse$Clause;LProofHouse$Clause;I)V"⟩
abbrev cX3_joinRebuilt : ByteArray := prog_5_method_17_code
def yX3_joinRebuilt : MethodName := ⟨RX3, "joinRebuilt", "(LProofHouse$Clause;LProofHouse$Clause;I)V"⟩
abbrev cX3_concludeWeak : ByteArray := prog_5_method_18_code
def yX3_concludeWeak : MethodName := ⟨RX3, "concludeWeak", "(LProofHouse$Clause;LProofHouse$Clause;I)V"⟩
abbrev cX3_isCut : ByteArray := prog_5_method_19_code
def yX3_isCut : MethodName := ⟨RX3, "isCut", "(LProofHouse$Clause;LProofHouse$Clause;LProofHouse$Clause;I)Z"⟩
abbrev cX3_isInduced : ByteArray := prog_5_method_20_code
def yX3_isInduced : MethodName := ⟨RX3, "isInduced", "(LProofHouse$Clause;II)Z"⟩
abbrev cX3_isWithin : ByteArray := prog_5_method_21_code
def yX3_isWithin : MethodName := ⟨RX3, "isWithin", "(LProofHouse$Clause;LProofHouse$Clause;)Z"⟩
def RX4 : String := "ProofHouse$Prover"
def TX4 : u_T := fun k => match k with
  | 0 => ("ProofHouse$Prover", "room", "LProofHouse$Room;", true)
  | 1 => ("ProofHouse$Prover", "terms", "LProofHouse$Terms;", true)
  | 2 => ("ProofHouse$Prover", "rewriter", "LProofHouse$Rewriter;", true)
  | 3 => ("ProofHouse$Prover", "given", "[LProofHouse$Clause;", true)
  | 4 => ("ProofHouse$Prover", "givenCount", "I", false)
  | 5 => ("ProofHouse$Prover", "waiting", "[LProofHouse$Clause;", true)
  | 6 => ("ProofHouse$Prover", "waitingCount", "I", false)
  | 7 => ("ProofHouse$Prover", "left", "[LProofHouse$Clause;", true)
  | 8 => ("ProofHouse$Prover", "leftCount", "I", false)
  | 9 => ("ProofHouse$Prover", "spare", "LProofHouse$Clause;", true)
  | _ => ("ProofHouse$Prover", "checking", "Z", false)
def tyX4 : Nat → FieldType := fun k => match k with
  | 0 => .object "ProofHouse$Room"
  | 1 => .object "ProofHouse$Terms"
  | 2 => .object "ProofHouse$Rewriter"
  | 3 => .array (.object "ProofHouse$Clause")
  | 4 => .int
  | 5 => .array (.object "ProofHouse$Clause")
  | 6 => .int
  | 7 => .array (.object "ProofHouse$Clause")
  | 8 => .int
  | 9 => .object "ProofHouse$Clause"
  | _ => .boolean
abbrev wsX40 : List Cond := u_ws RX4 TX4 11
theorem nmX4 : ∀ a, a < 11 → ∀ b, b < 11 → a ≠ b → (TX4 a).2.1 ≠ (TX4 b).2.1 := by decide +kernel
theorem tyX4_ok : ∀ k, k < 11 → parseFieldDescriptor (TX4 k).2.2.1 = some (tyX4 k) := by decide +kernel
abbrev cX4_init : ByteArray := prog_6_method_1_code
def yX4_init : MethodName := ⟨RX4, "<init>", "(LProofHouse$Room;LProofHouse$Terms;LProofHouse$Rewriter;)V"⟩
abbrev cX4_begin : ByteArray := prog_6_method_2_code
def yX4_begin : MethodName := ⟨RX4, "begin", "()V"⟩
abbrev cX4_newClause : ByteArray := prog_6_method_3_code
def yX4_newClause : MethodName := ⟨RX4, "newClause", "()LProofHouse$Clause;"⟩
abbrev cX4_prove : ByteArray := prog_6_method_4_code
def yX4_prove : MethodName := ⟨RX4, "prove", "(Z)V"⟩
abbrev cX4_leave : ByteArray := prog_6_method_5_code
def yX4_leave : MethodName := ⟨RX4, "leave", "(LProofHouse$Clause;)V"⟩
abbrev cX4_isPlain : ByteArray := prog_6_method_6_code
def yX4_isPlain : MethodName := ⟨RX4, "isPlain", "(LProofHouse$Clause;)Z"⟩
abbrev cX4_makeRound : ByteArray := prog_6_method_7_code
def yX4_makeRound : MethodName := ⟨RX4, "makeRound", "(LProofHouse$Clause;)V"⟩
abbrev cX4_rowOfOthers : ByteArray := prog_6_method_8_code
def yX4_rowOfOthers : MethodName := ⟨RX4, "rowOfOthers", "(LProofHouse$Clause;I)I"⟩
abbrev cX4_stands : ByteArray := prog_6_method_9_code
def yX4_stands : MethodName := ⟨RX4, "stands", "(LProofHouse$Clause;II)Z"⟩
abbrev cX4_split : ByteArray := prog_6_method_10_code
def yX4_split : MethodName := ⟨RX4, "split", "(LProofHouse$Clause;II)V"⟩
abbrev cX4_fillSplit : ByteArray := prog_6_method_11_code
def yX4_fillSplit : MethodName := ⟨RX4, "fillSplit", "(LProofHouse$Clause;LProofHouse$Clause;III)V"⟩
abbrev cX4_listOf : ByteArray := prog_6_method_12_code
def yX4_listOf : MethodName := ⟨RX4, "listOf", "(LProofHouse$Clause;)I"⟩
abbrev cX4_listOfLeft : ByteArray := prog_6_method_13_code
def yX4_listOfLeft : MethodName := ⟨RX4, "listOfLeft", "()I"⟩
abbrev cX4_isAllProved : ByteArray := prog_6_method_14_code
def yX4_isAllProved : MethodName := ⟨RX4, "isAllProved", "()Z"⟩
def RX5 : String := "ProofHouse$Reader"
def TX5 : u_T := fun k => match k with
  | 0 => ("ProofHouse$Reader", "room", "LProofHouse$Room;", true)
  | 1 => ("ProofHouse$Reader", "phases", "[I", true)
  | 2 => ("ProofHouse$Reader", "bases", "[I", true)
  | 3 => ("ProofHouse$Reader", "tails", "[I", true)
  | 4 => ("ProofHouse$Reader", "items", "[I", true)
  | 5 => ("ProofHouse$Reader", "depth", "I", false)
  | 6 => ("ProofHouse$Reader", "held", "I", false)
  | 7 => ("ProofHouse$Reader", "words", "I", false)
  | 8 => ("ProofHouse$Reader", "whole", "I", false)
  | 9 => ("ProofHouse$Reader", "flaw", "I", false)
  | _ => ("ProofHouse$Reader", "place", "I", false)
def tyX5 : Nat → FieldType := fun k => match k with
  | 0 => .object "ProofHouse$Room"
  | 1 => .array .int
  | 2 => .array .int
  | 3 => .array .int
  | 4 => .array .int
  | 5 => .int
  | 6 => .int
  | 7 => .int
  | 8 => .int
  | 9 => .int
  | _ => .int
abbrev wsX50 : List Cond := u_ws RX5 TX5 11
theorem nmX5 : ∀ a, a < 11 → ∀ b, b < 11 → a ≠ b → (TX5 a).2.1 ≠ (TX5 b).2.1 := by decide +kernel
theorem tyX5_ok : ∀ k, k < 11 → parseFieldDescriptor (TX5 k).2.2.1 = some (tyX5 k) := by decide +kernel
abbrev cX5_init : ByteArray := prog_7_method_1_code
def yX5_init : MethodName := ⟨RX5, "<init>", "(LProofHouse$Room;)V"⟩
abbrev cX5_read : ByteArray := prog_7_method_2_code
def yX5_read : MethodName := ⟨RX5, "read", "([CI)I"⟩
abbrev cX5_refuse : ByteArray := prog_7_method_3_code
def yX5_refuse : MethodName := ⟨RX5, "refuse", "(II)V"⟩
abbrev cX5_lineEnd : ByteArray := prog_7_method_4_code
def yX5_lineEnd : MethodName := ⟨RX5, "lineEnd", "([CII)I"⟩
abbrev cX5_atomEnd : ByteArray := prog_7_method_5_code
def yX5_atomEnd : MethodName := ⟨RX5, "atomEnd", "([CII)I"⟩
abbrev cX5_takeWord : ByteArray := prog_7_method_6_code
def yX5_takeWord : MethodName := ⟨RX5, "takeWord", "([CII)I"⟩
abbrev cX5_atomCell : ByteArray := prog_7_method_7_code
def yX5_atomCell : MethodName := ⟨RX5, "atomCell", "([CII)J"⟩
abbrev cX5_canStand : ByteArray := prog_7_method_8_code
def yX5_canStand : MethodName := ⟨RX5, "canStand", "(C)Z"⟩
abbrev cX5_takeMark : ByteArray := prog_7_method_9_code
def yX5_takeMark : MethodName := ⟨RX5, "takeMark", "(C)V"⟩
abbrev cX5_deliver : ByteArray := prog_7_method_10_code
def yX5_deliver : MethodName := ⟨RX5, "deliver", "(I)V"⟩
def RX6 : String := "ProofHouse$Rewriter"
def TX6 : u_T := fun k => match k with
  | 0 => ("ProofHouse$Rewriter", "room", "LProofHouse$Room;", true)
  | 1 => ("ProofHouse$Rewriter", "book", "LProofHouse$Book;", true)
  | 2 => ("ProofHouse$Rewriter", "terms", "LProofHouse$Terms;", true)
  | 3 => ("ProofHouse$Rewriter", "evaluator", "LProofHouse$Evaluator;", true)
  | 4 => ("ProofHouse$Rewriter", "mine", "LProofHouse$Scribe;", true)
  | 5 => ("ProofHouse$Rewriter", "other", "LProofHouse$Scribe;", true)
  | 6 => ("ProofHouse$Rewriter", "frames", "[[I", true)
  | 7 => ("ProofHouse$Rewriter", "depth", "I", false)
  | 8 => ("ProofHouse$Rewriter", "answer", "I", false)
  | 9 => ("ProofHouse$Rewriter", "horizon", "I", false)
  | 10 => ("ProofHouse$Rewriter", "notes", "[[I", true)
  | 11 => ("ProofHouse$Rewriter", "noted", "I", false)
  | 12 => ("ProofHouse$Rewriter", "checking", "Z", false)
  | _ => ("ProofHouse$Rewriter", "nextNote", "I", false)
def tyX6 : Nat → FieldType := fun k => match k with
  | 0 => .object "ProofHouse$Room"
  | 1 => .object "ProofHouse$Book"
  | 2 => .object "ProofHouse$Terms"
  | 3 => .object "ProofHouse$Evaluator"
  | 4 => .object "ProofHouse$Scribe"
  | 5 => .object "ProofHouse$Scribe"
  | 6 => .array (.array .int)
  | 7 => .int
  | 8 => .int
  | 9 => .int
  | 10 => .array (.array .int)
  | 11 => .int
  | 12 => .boolean
  | _ => .int
abbrev wsX60 : List Cond := u_ws RX6 TX6 14
theorem nmX6 : ∀ a, a < 14 → ∀ b, b < 14 → a ≠ b → (TX6 a).2.1 ≠ (TX6 b).2.1 := by decide +kernel
theorem tyX6_ok : ∀ k, k < 14 → parseFieldDescriptor (TX6 k).2.2.1 = some (tyX6 k) := by decide +kernel
abbrev cX6_init : ByteArray := prog_8_method_1_code
def yX6_init : MethodName := ⟨RX6, "<init>", "(LProofHouse$Room;LProofHouse$Book;LProofHouse$Terms;LProofHouse$Evaluator;)V"⟩
abbrev cX6_begin : ByteArray := prog_8_method_2_code
def yX6_begin : MethodName := ⟨RX6, "begin", "()V"⟩
abbrev cX6_rewritten : ByteArray := prog_8_method_3_code
def yX6_rewritten : MethodName := ⟨RX6, "rewritten", "(III)I"⟩
abbrev cX6_ask : ByteArray := prog_8_method_4_code
def yX6_ask : MethodName := ⟨RX6, "ask", "(III)V"⟩
abbrev cX6_recalled : ByteArray := prog_8_method_5_code
def yX6_recalled : MethodName := ⟨RX6, "recalled", "(III)I"⟩
abbrev cX6_finish : ByteArray := prog_8_method_6_code
def yX6_finish : MethodName := ⟨RX6, "finish", "(I)V"⟩
abbrev cX6_askInstead : ByteArray := prog_8_method_7_code
def yX6_askInstead : MethodName := ⟨RX6, "askInstead", "([II)V"⟩
abbrev cX6_start : ByteArray := prog_8_method_8_code
def yX6_start : MethodName := ⟨RX6, "start", "([I)V"⟩
abbrev cX6_goOnWithTest : ByteArray := prog_8_method_9_code
def yX6_goOnWithTest : MethodName := ⟨RX6, "goOnWithTest", "([I)V"⟩
abbrev cX6_goOnWithThen : ByteArray := prog_8_method_10_code
def yX6_goOnWithThen : MethodName := ⟨RX6, "goOnWithThen", "([I)V"⟩
abbrev cX6_choice : ByteArray := prog_8_method_11_code
def yX6_choice : MethodName := ⟨RX6, "choice", "(IIII)I"⟩
abbrev cX6_goOnWithNegation : ByteArray := prog_8_method_12_code
def yX6_goOnWithNegation : MethodName := ⟨RX6, "goOnWithNegation", "([I)V"⟩
abbrev cX6_lookedUp : ByteArray := prog_8_method_13_code
def yX6_lookedUp : MethodName := ⟨RX6, "lookedUp", "(III)I"⟩
abbrev cX6_gather : ByteArray := prog_8_method_14_code
def yX6_gather : MethodName := ⟨RX6, "gather", "([I)V"⟩
abbrev cX6_compute : ByteArray := prog_8_method_15_code
def yX6_compute : MethodName := ⟨RX6, "compute", "([I)V"⟩
abbrev cX6_reduceEqual : ByteArray := prog_8_method_16_code
def yX6_reduceEqual : MethodName := ⟨RX6, "reduceEqual", "([III)V"⟩
abbrev cX6_reduceLess : ByteArray := prog_8_method_17_code
def yX6_reduceLess : MethodName := ⟨RX6, "reduceLess", "([III)V"⟩
abbrev cX6_reduceOther : ByteArray := prog_8_method_18_code
def yX6_reduceOther : MethodName := ⟨RX6, "reduceOther", "([III)V"⟩
abbrev cX6_lookUp : ByteArray := prog_8_method_19_code
def yX6_lookUp : MethodName := ⟨RX6, "lookUp", "([I)V"⟩
abbrev cX6_seek : ByteArray := prog_8_method_20_code
def yX6_seek : MethodName := ⟨RX6, "seek", "([I)V"⟩
abbrev cX6_compare : ByteArray := prog_8_method_21_code
def yX6_compare : MethodName := ⟨RX6, "compare", "([I)V"⟩
abbrev cX6_apply : ByteArray := prog_8_method_22_code
def yX6_apply : MethodName := ⟨RX6, "apply", "([I)V"⟩
abbrev cX6_judge : ByteArray := prog_8_method_23_code
def yX6_judge : MethodName := ⟨RX6, "judge", "([I)V"⟩
abbrev cX6_unfold : ByteArray := prog_8_method_24_code
def yX6_unfold : MethodName := ⟨RX6, "unfold", "([I)V"⟩
abbrev cX6_chooseBranch : ByteArray := prog_8_method_25_code
def yX6_chooseBranch : MethodName := ⟨RX6, "chooseBranch", "([I)V"⟩
abbrev cX6_doNotesHold : ByteArray := prog_8_method_26_code
def yX6_doNotesHold : MethodName := ⟨RX6, "doNotesHold", "()Z"⟩
abbrev cX6_isAllRecalled : ByteArray := prog_8_method_27_code
def yX6_isAllRecalled : MethodName := ⟨RX6, "isAllRecalled", "()Z"⟩
abbrev cX6_learn : ByteArray := prog_8_method_28_code
def yX6_learn : MethodName := ⟨RX6, "learn", "()V"⟩
abbrev cX6_addHypotheses : ByteArray := prog_8_method_29_code
def yX6_addHypotheses : MethodName := ⟨RX6, "addHypotheses", "(II)V"⟩
abbrev cX6_isRule : ByteArray := prog_8_method_30_code
def yX6_isRule : MethodName := ⟨RX6, "isRule", "(III)Z"⟩
def RX7 : String := "ProofHouse$Room"
def TX7 : u_T := fun k => match k with
  | 0 => ("ProofHouse$Room", "cells", "[J", true)
  | 1 => ("ProofHouse$Room", "chain", "[I", true)
  | 2 => ("ProofHouse$Room", "sums", "[I", true)
  | 3 => ("ProofHouse$Room", "heights", "[I", true)
  | 4 => ("ProofHouse$Room", "heads", "[I", true)
  | 5 => ("ProofHouse$Room", "used", "I", false)
  | 6 => ("ProofHouse$Room", "given", "I", false)
  | 7 => ("ProofHouse$Room", "spent", "I", false)
  | _ => ("ProofHouse$Room", "trouble", "I", false)
def tyX7 : Nat → FieldType := fun k => match k with
  | 0 => .array .long
  | 1 => .array .int
  | 2 => .array .int
  | 3 => .array .int
  | 4 => .array .int
  | 5 => .int
  | 6 => .int
  | 7 => .int
  | _ => .int
abbrev wsX70 : List Cond := u_ws RX7 TX7 9
theorem nmX7 : ∀ a, a < 9 → ∀ b, b < 9 → a ≠ b → (TX7 a).2.1 ≠ (TX7 b).2.1 := by decide +kernel
theorem tyX7_ok : ∀ k, k < 9 → parseFieldDescriptor (TX7 k).2.2.1 = some (tyX7 k) := by decide +kernel
abbrev cX7_init : ByteArray := prog_9_method_1_code
def yX7_init : MethodName := ⟨RX7, "<init>", "()V"⟩
abbrev cX7_begin : ByteArray := prog_9_method_2_code
def yX7_begin : MethodName := ⟨RX7, "begin", "(I)V"⟩
abbrev cX7_step : ByteArray := prog_9_method_3_code
def yX7_step : MethodName := ⟨RX7, "step", "()Z"⟩
abbrev cX7_blame : ByteArray := prog_9_method_4_code
def yX7_blame : MethodName := ⟨RX7, "blame", "(I)V"⟩
abbrev cX7_made : ByteArray := prog_9_method_5_code
def yX7_made : MethodName := ⟨RX7, "made", "(J)I"⟩
abbrev cX7_forget : ByteArray := prog_9_method_6_code
def yX7_forget : MethodName := ⟨RX7, "forget", "(I)V"⟩
abbrev cX7_cellOf : ByteArray := prog_9_method_7_code
def yX7_cellOf : MethodName := ⟨RX7, "cellOf", "(I)J"⟩
abbrev cX7_isPair : ByteArray := prog_9_method_8_code
def yX7_isPair : MethodName := ⟨RX7, "isPair", "(I)Z"⟩
abbrev cX7_isNatural : ByteArray := prog_9_method_9_code
def yX7_isNatural : MethodName := ⟨RX7, "isNatural", "(I)Z"⟩
abbrev cX7_isSymbol : ByteArray := prog_9_method_10_code
def yX7_isSymbol : MethodName := ⟨RX7, "isSymbol", "(I)Z"⟩
abbrev cX7_isVariable : ByteArray := prog_9_method_11_code
def yX7_isVariable : MethodName := ⟨RX7, "isVariable", "(I)Z"⟩
abbrev cX7_isName : ByteArray := prog_9_method_12_code
def yX7_isName : MethodName := ⟨RX7, "isName", "(I)Z"⟩
abbrev cX7_isConstant : ByteArray := prog_9_method_13_code
def yX7_isConstant : MethodName := ⟨RX7, "isConstant", "(I)Z"⟩
abbrev cX7_isCall : ByteArray := prog_9_method_14_code
def yX7_isCall : MethodName := ⟨RX7, "isCall", "(I)Z"⟩
abbrev cX7_isCallOf : ByteArray := prog_9_method_15_code
def yX7_isCallOf : MethodName := ⟨RX7, "isCallOf", "(II)Z"⟩
abbrev cX7_isQuoted : ByteArray := prog_9_method_16_code
def yX7_isQuoted : MethodName := ⟨RX7, "isQuoted", "(I)Z"⟩
abbrev cX7_left : ByteArray := prog_9_method_17_code
def yX7_left : MethodName := ⟨RX7, "left", "(I)I"⟩
abbrev cX7_right : ByteArray := prog_9_method_18_code
def yX7_right : MethodName := ⟨RX7, "right", "(I)I"⟩
abbrev cX7_item : ByteArray := prog_9_method_19_code
def yX7_item : MethodName := ⟨RX7, "item", "(II)I"⟩
abbrev cX7_lengthOf : ByteArray := prog_9_method_20_code
def yX7_lengthOf : MethodName := ⟨RX7, "lengthOf", "(I)I"⟩
abbrev cX7_sizeOf : ByteArray := prog_9_method_21_code
def yX7_sizeOf : MethodName := ⟨RX7, "sizeOf", "(I)I"⟩
abbrev cX7_heightOf : ByteArray := prog_9_method_22_code
def yX7_heightOf : MethodName := ⟨RX7, "heightOf", "(I)I"⟩
abbrev cX7_numberOf : ByteArray := prog_9_method_23_code
def yX7_numberOf : MethodName := ⟨RX7, "numberOf", "(I)J"⟩
abbrev cX7_valueOf : ByteArray := prog_9_method_24_code
def yX7_valueOf : MethodName := ⟨RX7, "valueOf", "(I)I"⟩
abbrev cX7_constantOf : ByteArray := prog_9_method_25_code
def yX7_constantOf : MethodName := ⟨RX7, "constantOf", "(I)I"⟩
def RX8 : String := "ProofHouse$Schemes"
def TX8 : u_T := fun k => match k with
  | 0 => ("ProofHouse$Schemes", "room", "LProofHouse$Room;", true)
  | 1 => ("ProofHouse$Schemes", "book", "LProofHouse$Book;", true)
  | 2 => ("ProofHouse$Schemes", "terms", "LProofHouse$Terms;", true)
  | 3 => ("ProofHouse$Schemes", "ifs", "[I", true)
  | 4 => ("ProofHouse$Schemes", "third", "[Z", true)
  | 5 => ("ProofHouse$Schemes", "deep", "I", false)
  | 6 => ("ProofHouse$Schemes", "pathEnd", "I", false)
  | 7 => ("ProofHouse$Schemes", "calls", "[I", true)
  | 8 => ("ProofHouse$Schemes", "callCount", "I", false)
  | 9 => ("ProofHouse$Schemes", "filled", "[I", true)
  | _ => ("ProofHouse$Schemes", "induction", "I", false)
def tyX8 : Nat → FieldType := fun k => match k with
  | 0 => .object "ProofHouse$Room"
  | 1 => .object "ProofHouse$Book"
  | 2 => .object "ProofHouse$Terms"
  | 3 => .array .int
  | 4 => .array .boolean
  | 5 => .int
  | 6 => .int
  | 7 => .array .int
  | 8 => .int
  | 9 => .array .int
  | _ => .int
abbrev wsX80 : List Cond := u_ws RX8 TX8 11
theorem nmX8 : ∀ a, a < 11 → ∀ b, b < 11 → a ≠ b → (TX8 a).2.1 ≠ (TX8 b).2.1 := by decide +kernel
theorem tyX8_ok : ∀ k, k < 11 → parseFieldDescriptor (TX8 k).2.2.1 = some (tyX8 k) := by decide +kernel
abbrev cX8_init : ByteArray := prog_10_method_1_code
def yX8_init : MethodName := ⟨RX8, "<init>", "(LProofHouse$Room;LProofHouse$Book;LProofHouse$Terms;)V"⟩
abbrev cX8_goToPath : ByteArray := prog_10_method_2_code
def yX8_goToPath : MethodName := ⟨RX8, "goToPath", "(I)Z"⟩
abbrev cX8_countPaths : ByteArray := prog_10_method_3_code
def yX8_countPaths : MethodName := ⟨RX8, "countPaths", "(I)I"⟩
abbrev cX8_listCalls : ByteArray := prog_10_method_4_code
def yX8_listCalls : MethodName := ⟨RX8, "listCalls", "(I)V"⟩
abbrev cX8_isFlat : ByteArray := prog_10_method_5_code
def yX8_isFlat : MethodName := ⟨RX8, "isFlat", "(II)Z"⟩
abbrev cX8_addRulers : ByteArray := prog_10_method_6_code
def yX8_addRulers : MethodName := ⟨RX8, "addRulers", "(LProofHouse$Clause;II)V"⟩
abbrev cX8_addMeasureClauses : ByteArray := prog_10_method_7_code
def yX8_addMeasureClauses : MethodName := ⟨RX8, "addMeasureClauses", "(LProofHouse$Prover;IIII)V"⟩
abbrev cX8_addInductionHypotheses : ByteArray := prog_10_method_8_code
def yX8_addInductionHypotheses : MethodName := ⟨RX8, "addInductionHypotheses", "(LProofHouse$Clause;III)V"⟩
abbrev cX8_mute : ByteArray := prog_10_method_9_code
def yX8_mute : MethodName := ⟨RX8, "mute", "(I)V"⟩
abbrev cX8_addUses : ByteArray := prog_10_method_10_code
def yX8_addUses : MethodName := ⟨RX8, "addUses", "(LProofHouse$Clause;I)V"⟩
abbrev cX8_addTheoremClauses : ByteArray := prog_10_method_11_code
def yX8_addTheoremClauses : MethodName := ⟨RX8, "addTheoremClauses", "(LProofHouse$Prover;II)V"⟩
abbrev cX8_hintsAsked : ByteArray := prog_10_method_12_code
def yX8_hintsAsked : MethodName := ⟨RX8, "hintsAsked", "(I)I"⟩
abbrev cX8_useAsked : ByteArray := prog_10_method_13_code
def yX8_useAsked : MethodName := ⟨RX8, "useAsked", "(II)I"⟩
abbrev cX8_offAsked : ByteArray := prog_10_method_14_code
def yX8_offAsked : MethodName := ⟨RX8, "offAsked", "(I)I"⟩
abbrev cX8_inductionAsked : ByteArray := prog_10_method_15_code
def yX8_inductionAsked : MethodName := ⟨RX8, "inductionAsked", "(I)I"⟩
def RX9 : String := "ProofHouse$Scribe"
def TX9 : u_T := fun k => match k with
  | 0 => ("ProofHouse$Scribe", "room", "LProofHouse$Room;", true)
  | 1 => ("ProofHouse$Scribe", "letters", "[C", true)
  | 2 => ("ProofHouse$Scribe", "rests", "[I", true)
  | _ => ("ProofHouse$Scribe", "length", "I", false)
def tyX9 : Nat → FieldType := fun k => match k with
  | 0 => .object "ProofHouse$Room"
  | 1 => .array .char
  | 2 => .array .int
  | _ => .int
abbrev wsX90 : List Cond := u_ws RX9 TX9 4
theorem nmX9 : ∀ a, a < 4 → ∀ b, b < 4 → a ≠ b → (TX9 a).2.1 ≠ (TX9 b).2.1 := by decide +kernel
theorem tyX9_ok : ∀ k, k < 4 → parseFieldDescriptor (TX9 k).2.2.1 = some (tyX9 k) := by decide +kernel
abbrev cX9_init : ByteArray := prog_11_method_1_code
def yX9_init : MethodName := ⟨RX9, "<init>", "(LProofHouse$Room;I)V"⟩
abbrev cX9_clear : ByteArray := prog_11_method_2_code
def yX9_clear : MethodName := ⟨RX9, "clear", "()V"⟩
abbrev cX9_write : ByteArray := prog_11_method_3_code
def yX9_write : MethodName := ⟨RX9, "write", "(I)V"⟩
abbrev cX9_put : ByteArray := prog_11_method_4_code
def yX9_put : MethodName := ⟨RX9, "put", "(C)V"⟩
abbrev cX9_putAtom : ByteArray := prog_11_method_5_code
def yX9_putAtom : MethodName := ⟨RX9, "putAtom", "(J)V"⟩
def RX10 : String := "ProofHouse$Terms"
def TX10 : u_T := fun k => match k with
  | 0 => ("ProofHouse$Terms", "room", "LProofHouse$Room;", true)
  | 1 => ("ProofHouse$Terms", "book", "LProofHouse$Book;", true)
  | 2 => ("ProofHouse$Terms", "ownName", "I", false)
  | 3 => ("ProofHouse$Terms", "ownArity", "I", false)
  | 4 => ("ProofHouse$Terms", "variables", "[I", true)
  | 5 => ("ProofHouse$Terms", "meanings", "[I", true)
  | 6 => ("ProofHouse$Terms", "bound", "I", false)
  | 7 => ("ProofHouse$Terms", "replaced", "I", false)
  | 8 => ("ProofHouse$Terms", "replacement", "I", false)
  | 9 => ("ProofHouse$Terms", "names", "[I", true)
  | 10 => ("ProofHouse$Terms", "rests", "[I", true)
  | 11 => ("ProofHouse$Terms", "bases", "[I", true)
  | 12 => ("ProofHouse$Terms", "values", "[I", true)
  | 13 => ("ProofHouse$Terms", "waiting", "[I", true)
  | 14 => ("ProofHouse$Terms", "targets", "[I", true)
  | _ => ("ProofHouse$Terms", "parts", "[I", true)
def tyX10 : Nat → FieldType := fun k => match k with
  | 0 => .object "ProofHouse$Room"
  | 1 => .object "ProofHouse$Book"
  | 2 => .int
  | 3 => .int
  | 4 => .array .int
  | 5 => .array .int
  | 6 => .int
  | 7 => .int
  | 8 => .int
  | 9 => .array .int
  | 10 => .array .int
  | 11 => .array .int
  | 12 => .array .int
  | 13 => .array .int
  | 14 => .array .int
  | _ => .array .int
abbrev wsX100 : List Cond := u_ws RX10 TX10 16
theorem nmX10 : ∀ a, a < 16 → ∀ b, b < 16 → a ≠ b → (TX10 a).2.1 ≠ (TX10 b).2.1 := by decide +kernel
theorem tyX10_ok : ∀ k, k < 16 → parseFieldDescriptor (TX10 k).2.2.1 = some (tyX10 k) := by decide +kernel
abbrev cX10_init : ByteArray := prog_12_method_1_code
def yX10_init : MethodName := ⟨RX10, "<init>", "(LProofHouse$Room;LProofHouse$Book;)V"⟩
abbrev cX10_rebuilt : ByteArray := prog_12_method_2_code
def yX10_rebuilt : MethodName := ⟨RX10, "rebuilt", "(II)I"⟩
abbrev cX10_isTooBig : ByteArray := prog_12_method_3_code
def yX10_isTooBig : MethodName := ⟨RX10, "isTooBig", "(II)Z"⟩
abbrev cX10_meaningOf : ByteArray := prog_12_method_4_code
def yX10_meaningOf : MethodName := ⟨RX10, "meaningOf", "(II)I"⟩
abbrev cX10_readMeaning : ByteArray := prog_12_method_5_code
def yX10_readMeaning : MethodName := ⟨RX10, "readMeaning", "(I)I"⟩
abbrev cX10_standsFor : ByteArray := prog_12_method_6_code
def yX10_standsFor : MethodName := ⟨RX10, "standsFor", "(I)I"⟩
abbrev cX10_unbind : ByteArray := prog_12_method_7_code
def yX10_unbind : MethodName := ⟨RX10, "unbind", "()V"⟩
abbrev cX10_bind : ByteArray := prog_12_method_8_code
def yX10_bind : MethodName := ⟨RX10, "bind", "(II)V"⟩
abbrev cX10_bindRow : ByteArray := prog_12_method_9_code
def yX10_bindRow : MethodName := ⟨RX10, "bindRow", "(II)V"⟩
abbrev cX10_areDifferentVariables : ByteArray := prog_12_method_10_code
def yX10_areDifferentVariables : MethodName := ⟨RX10, "areDifferentVariables", "(I)Z"⟩
abbrev cX10_bindPairs : ByteArray := prog_12_method_11_code
def yX10_bindPairs : MethodName := ⟨RX10, "bindPairs", "(I)Z"⟩
abbrev cX10_call : ByteArray := prog_12_method_12_code
def yX10_call : MethodName := ⟨RX10, "call", "(IIII)I"⟩
abbrev cX10_negated : ByteArray := prog_12_method_13_code
def yX10_negated : MethodName := ⟨RX10, "negated", "(I)I"⟩
abbrev cX10_isNegation : ByteArray := prog_12_method_14_code
def yX10_isNegation : MethodName := ⟨RX10, "isNegation", "(II)Z"⟩
abbrev cX10_isBoolean : ByteArray := prog_12_method_15_code
def yX10_isBoolean : MethodName := ⟨RX10, "isBoolean", "(I)Z"⟩
abbrev cX10_isOfConstants : ByteArray := prog_12_method_16_code
def yX10_isOfConstants : MethodName := ⟨RX10, "isOfConstants", "(I)Z"⟩
abbrev cX10_matches : ByteArray := prog_12_method_17_code
def yX10_matches : MethodName := ⟨RX10, "matches", "(II)Z"⟩
abbrev cX10_isBoundToVariables : ByteArray := prog_12_method_18_code
def yX10_isBoundToVariables : MethodName := ⟨RX10, "isBoundToVariables", "()Z"⟩
abbrev cX10_listParts : ByteArray := prog_12_method_19_code
def yX10_listParts : MethodName := ⟨RX10, "listParts", "(I)I"⟩
abbrev cX10_hasCallOf : ByteArray := prog_12_method_20_code
def yX10_hasCallOf : MethodName := ⟨RX10, "hasCallOf", "(II)Z"⟩
abbrev cX10_hasVariablesOf : ByteArray := prog_12_method_21_code
def yX10_hasVariablesOf : MethodName := ⟨RX10, "hasVariablesOf", "(II)Z"⟩
abbrev cX10_hasBound : ByteArray := prog_12_method_22_code
def yX10_hasBound : MethodName := ⟨RX10, "hasBound", "(I)Z"⟩
abbrev cX10_bindVariablesOf : ByteArray := prog_12_method_23_code
def yX10_bindVariablesOf : MethodName := ⟨RX10, "bindVariablesOf", "(I)V"⟩
abbrev cX10_join : ByteArray := prog_12_method_24_code
def yX10_join : MethodName := ⟨RX10, "join", "(LProofHouse$Clause;I)V"⟩
def RX11 : String := "ProofHouse"
def TX11 : u_T := fun k => match k with
  | 0 => ("ProofHouse", "room", "LProofHouse$Room;", true)
  | 1 => ("ProofHouse", "book", "LProofHouse$Book;", true)
  | 2 => ("ProofHouse", "reader", "LProofHouse$Reader;", true)
  | 3 => ("ProofHouse", "out", "LProofHouse$Scribe;", true)
  | 4 => ("ProofHouse", "terms", "LProofHouse$Terms;", true)
  | 5 => ("ProofHouse", "evaluator", "LProofHouse$Evaluator;", true)
  | 6 => ("ProofHouse", "rewriter", "LProofHouse$Rewriter;", true)
  | 7 => ("ProofHouse", "schemes", "LProofHouse$Schemes;", true)
  | 8 => ("ProofHouse", "prover", "LProofHouse$Prover;", true)
  | 9 => ("ProofHouse", "proofs", "LProofHouse$Proofs;", true)
  | 10 => ("ProofHouse", "text", "[C", true)
  | 11 => ("ProofHouse", "textLength", "I", false)
  | 12 => ("ProofHouse", "waiting", "[I", true)
  | 13 => ("ProofHouse", "fuelSet", "I", false)
  | 14 => ("ProofHouse", "name", "I", false)
  | 15 => ("ProofHouse", "subject", "I", false)
  | 16 => ("ProofHouse", "measure", "I", false)
  | 17 => ("ProofHouse", "hints", "I", false)
  | 18 => ("ProofHouse", "stepsMade", "I", false)
  | 19 => ("ProofHouse", "workFault", "I", false)
  | _ => ("ProofHouse", "proved", "Z", false)
def tyX11 : Nat → FieldType := fun k => match k with
  | 0 => .object "ProofHouse$Room"
  | 1 => .object "ProofHouse$Book"
  | 2 => .object "ProofHouse$Reader"
  | 3 => .object "ProofHouse$Scribe"
  | 4 => .object "ProofHouse$Terms"
  | 5 => .object "ProofHouse$Evaluator"
  | 6 => .object "ProofHouse$Rewriter"
  | 7 => .object "ProofHouse$Schemes"
  | 8 => .object "ProofHouse$Prover"
  | 9 => .object "ProofHouse$Proofs"
  | 10 => .array .char
  | 11 => .int
  | 12 => .array .int
  | 13 => .int
  | 14 => .int
  | 15 => .int
  | 16 => .int
  | 17 => .int
  | 18 => .int
  | 19 => .int
  | _ => .boolean
abbrev wsX110 : List Cond := u_ws RX11 TX11 21
theorem nmX11 : ∀ a, a < 21 → ∀ b, b < 21 → a ≠ b → (TX11 a).2.1 ≠ (TX11 b).2.1 := by decide +kernel
theorem tyX11_ok : ∀ k, k < 21 → parseFieldDescriptor (TX11 k).2.2.1 = some (tyX11 k) := by decide +kernel
abbrev cX11_pairCell : ByteArray := prog_1_method_1_code
def yX11_pairCell : MethodName := ⟨RX11, "pairCell", "(II)J"⟩
abbrev cX11_init : ByteArray := prog_1_method_2_code
def yX11_init : MethodName := ⟨RX11, "<init>", "()V"⟩
abbrev cX11_feed : ByteArray := prog_1_method_3_code
def yX11_feed : MethodName := ⟨RX11, "feed", "(IIIII)V"⟩
abbrev cX11_end : ByteArray := prog_1_method_4_code
def yX11_end : MethodName := ⟨RX11, "end", "(I)I"⟩
abbrev cX11_fuel : ByteArray := prog_1_method_5_code
def yX11_fuel : MethodName := ⟨RX11, "fuel", "(I)I"⟩
abbrev cX11_run : ByteArray := prog_1_method_6_code
def yX11_run : MethodName := ⟨RX11, "run", "()I"⟩
abbrev cX11_fault : ByteArray := prog_1_method_7_code
def yX11_fault : MethodName := ⟨RX11, "fault", "(I)I"⟩
abbrev cX11_steps : ByteArray := prog_1_method_8_code
def yX11_steps : MethodName := ⟨RX11, "steps", "()I"⟩
abbrev cX11_count : ByteArray := prog_1_method_9_code
def yX11_count : MethodName := ⟨RX11, "count", "(I)I"⟩
abbrev cX11_size : ByteArray := prog_1_method_10_code
def yX11_size : MethodName := ⟨RX11, "size", "()I"⟩
abbrev cX11_letter : ByteArray := prog_1_method_11_code
def yX11_letter : MethodName := ⟨RX11, "letter", "(I)I"⟩
abbrev cX11_taken : ByteArray := prog_1_method_12_code
def yX11_taken : MethodName := ⟨RX11, "taken", "(I)I"⟩
abbrev cX11_tell : ByteArray := prog_1_method_13_code
def yX11_tell : MethodName := ⟨RX11, "tell", "(I)I"⟩
abbrev cX11_recheck : ByteArray := prog_1_method_14_code
def yX11_recheck : MethodName := ⟨RX11, "recheck", "()Z"⟩
abbrev cX11_forgetLatest : ByteArray := prog_1_method_15_code
def yX11_forgetLatest : MethodName := ⟨RX11, "forgetLatest", "()V"⟩
abbrev cX11_asked : ByteArray := prog_1_method_16_code
def yX11_asked : MethodName := ⟨RX11, "asked", "(I)I"⟩
abbrev cX11_isAsTold : ByteArray := prog_1_method_17_code
def yX11_isAsTold : MethodName := ⟨RX11, "isAsTold", "(I)Z"⟩
abbrev cX11_isNameAt : ByteArray := prog_1_method_18_code
def yX11_isNameAt : MethodName := ⟨RX11, "isNameAt", "(I)Z"⟩
abbrev cX11_isTermAt : ByteArray := prog_1_method_19_code
def yX11_isTermAt : MethodName := ⟨RX11, "isTermAt", "(II)Z"⟩
abbrev cX11_isDefinition : ByteArray := prog_1_method_20_code
def yX11_isDefinition : MethodName := ⟨RX11, "isDefinition", "(IZ)Z"⟩
abbrev cX11_nameAsked : ByteArray := prog_1_method_21_code
def yX11_nameAsked : MethodName := ⟨RX11, "nameAsked", "(I)I"⟩
abbrev cX11_prepare : ByteArray := prog_1_method_22_code
def yX11_prepare : MethodName := ⟨RX11, "prepare", "(I)V"⟩
abbrev cX11_showValue : ByteArray := prog_1_method_23_code
def yX11_showValue : MethodName := ⟨RX11, "showValue", "(I)V"⟩
abbrev cX11_showTerm : ByteArray := prog_1_method_24_code
def yX11_showTerm : MethodName := ⟨RX11, "showTerm", "(I)V"⟩
abbrev cX11_conclude : ByteArray := prog_1_method_25_code
def yX11_conclude : MethodName := ⟨RX11, "conclude", "(II)I"⟩
abbrev cX11_shownWrong : ByteArray := prog_1_method_26_code
def yX11_shownWrong : MethodName := ⟨RX11, "shownWrong", "()I"⟩
def RX12 : String := "ProofHouseModel"
def TX12 : u_T := fun k => match k with
  | 0 => ("ProofHouseModel", "left", "[I", true)
  | 1 => ("ProofHouseModel", "right", "[I", true)
  | 2 => ("ProofHouseModel", "next", "[I", true)
  | 3 => ("ProofHouseModel", "sizes", "[I", true)
  | 4 => ("ProofHouseModel", "heights", "[I", true)
  | 5 => ("ProofHouseModel", "number", "[J", true)
  | 6 => ("ProofHouseModel", "naturals", "I", false)
  | 7 => ("ProofHouseModel", "heads", "[I", true)
  | 8 => ("ProofHouseModel", "objects", "I", false)
  | 9 => ("ProofHouseModel", "names", "[I", true)
  | 10 => ("ProofHouseModel", "lengths", "[I", true)
  | 11 => ("ProofHouseModel", "symbols", "I", false)
  | 12 => ("ProofHouseModel", "waiting", "[I", true)
  | 13 => ("ProofHouseModel", "text", "[I", true)
  | 14 => ("ProofHouseModel", "textSize", "I", false)
  | 15 => ("ProofHouseModel", "out", "[I", true)
  | 16 => ("ProofHouseModel", "outSize", "I", false)
  | 17 => ("ProofHouseModel", "word", "[I", true)
  | 18 => ("ProofHouseModel", "wordSize", "I", false)
  | 19 => ("ProofHouseModel", "tellWhat", "[I", true)
  | 20 => ("ProofHouseModel", "telling", "I", false)
  | 21 => ("ProofHouseModel", "one", "[I", true)
  | 22 => ("ProofHouseModel", "oneSize", "I", false)
  | 23 => ("ProofHouseModel", "at", "I", false)
  | 24 => ("ProofHouseModel", "readFault", "I", false)
  | 25 => ("ProofHouseModel", "readPlace", "I", false)
  | 26 => ("ProofHouseModel", "openSort", "[I", true)
  | 27 => ("ProofHouseModel", "openFrom", "[I", true)
  | 28 => ("ProofHouseModel", "openState", "[I", true)
  | 29 => ("ProofHouseModel", "openLast", "[I", true)
  | 30 => ("ProofHouseModel", "open", "I", false)
  | 31 => ("ProofHouseModel", "items", "[I", true)
  | 32 => ("ProofHouseModel", "itemSize", "I", false)
  | 33 => ("ProofHouseModel", "whole", "I", false)
  | 34 => ("ProofHouseModel", "done", "Z", false)
  | 35 => ("ProofHouseModel", "defs", "I", false)
  | 36 => ("ProofHouseModel", "defName", "[I", true)
  | 37 => ("ProofHouseModel", "defMany", "[I", true)
  | 38 => ("ProofHouseModel", "defVariable", "[I", true)
  | 39 => ("ProofHouseModel", "defBody", "[I", true)
  | 40 => ("ProofHouseModel", "defMeasure", "[I", true)
  | 41 => ("ProofHouseModel", "defSelf", "[Z", true)
  | 42 => ("ProofHouseModel", "theorems", "I", false)
  | 43 => ("ProofHouseModel", "theoremName", "[I", true)
  | 44 => ("ProofHouseModel", "theorem", "[I", true)
  | 45 => ("ProofHouseModel", "theoremSort", "[I", true)
  | 46 => ("ProofHouseModel", "ruleLeft", "[I", true)
  | 47 => ("ProofHouseModel", "ruleRight", "[I", true)
  | 48 => ("ProofHouseModel", "ruleMany", "[I", true)
  | 49 => ("ProofHouseModel", "ruleHypothesis", "[I", true)
  | 50 => ("ProofHouseModel", "rulePermutes", "[Z", true)
  | 51 => ("ProofHouseModel", "ruleTruth", "[Z", true)
  | 52 => ("ProofHouseModel", "ruleOn", "[Z", true)
  | 53 => ("ProofHouseModel", "ruleOut", "[Z", true)
  | 54 => ("ProofHouseModel", "taken", "I", false)
  | 55 => ("ProofHouseModel", "takenSort", "[I", true)
  | 56 => ("ProofHouseModel", "takenFrom", "[I", true)
  | 57 => ("ProofHouseModel", "comingName", "I", false)
  | 58 => ("ProofHouseModel", "comingMany", "I", false)
  | 59 => ("ProofHouseModel", "fuel", "I", false)
  | 60 => ("ProofHouseModel", "steps", "I", false)
  | 61 => ("ProofHouseModel", "work", "I", false)
  | 62 => ("ProofHouseModel", "proved", "Z", false)
  | 63 => ("ProofHouseModel", "leftMany", "I", false)
  | 64 => ("ProofHouseModel", "short0", "Z", false)
  | 65 => ("ProofHouseModel", "other", "[I", true)
  | 66 => ("ProofHouseModel", "callOf", "[I", true)
  | 67 => ("ProofHouseModel", "restOf", "[I", true)
  | 68 => ("ProofHouseModel", "fromOf", "[I", true)
  | 69 => ("ProofHouseModel", "calls", "I", false)
  | 70 => ("ProofHouseModel", "built", "[I", true)
  | 71 => ("ProofHouseModel", "builtSize", "I", false)
  | 72 => ("ProofHouseModel", "variable", "[I", true)
  | 73 => ("ProofHouseModel", "instead", "[I", true)
  | 74 => ("ProofHouseModel", "pairs", "I", false)
  | 75 => ("ProofHouseModel", "walk", "[I", true)
  | 76 => ("ProofHouseModel", "walking", "I", false)
  | 77 => ("ProofHouseModel", "its", "[I", true)
  | 78 => ("ProofHouseModel", "itsMany", "I", false)
  | 79 => ("ProofHouseModel", "evalTerm", "[I", true)
  | 80 => ("ProofHouseModel", "evalRest", "[I", true)
  | 81 => ("ProofHouseModel", "evalFrom", "[I", true)
  | 82 => ("ProofHouseModel", "evalDef", "[I", true)
  | 83 => ("ProofHouseModel", "evalBase", "[I", true)
  | 84 => ("ProofHouseModel", "evalEnds", "[Z", true)
  | 85 => ("ProofHouseModel", "evals", "I", false)
  | 86 => ("ProofHouseModel", "value", "[I", true)
  | 87 => ("ProofHouseModel", "values", "I", false)
  | 88 => ("ProofHouseModel", "evalLimit", "I", false)
  | 89 => ("ProofHouseModel", "evalWhy", "I", false)
  | 90 => ("ProofHouseModel", "evalDone", "Z", false)
  | 91 => ("ProofHouseModel", "evalValue", "I", false)
  | 92 => ("ProofHouseModel", "job", "[I", true)
  | 93 => ("ProofHouseModel", "jobTruth", "[Z", true)
  | 94 => ("ProofHouseModel", "jobPhase", "[I", true)
  | 95 => ("ProofHouseModel", "jobA", "[I", true)
  | 96 => ("ProofHouseModel", "jobB", "[I", true)
  | 97 => ("ProofHouseModel", "jobC", "[I", true)
  | 98 => ("ProofHouseModel", "jobRest", "[I", true)
  | 99 => ("ProofHouseModel", "jobFrom", "[I", true)
  | 100 => ("ProofHouseModel", "jobRule", "[I", true)
  | 101 => ("ProofHouseModel", "jobHypothesis", "[I", true)
  | 102 => ("ProofHouseModel", "jobs", "I", false)
  | 103 => ("ProofHouseModel", "result", "[I", true)
  | 104 => ("ProofHouseModel", "results", "I", false)
  | 105 => ("ProofHouseModel", "ruleVariable", "[I", true)
  | 106 => ("ProofHouseModel", "ruleInstead", "[I", true)
  | 107 => ("ProofHouseModel", "rulePairs", "[I", true)
  | 108 => ("ProofHouseModel", "context", "[I", true)
  | 109 => ("ProofHouseModel", "contexts", "I", false)
  | 110 => ("ProofHouseModel", "came", "I", false)
  | 111 => ("ProofHouseModel", "ended", "Z", false)
  | 112 => ("ProofHouseModel", "seekLeft", "[I", true)
  | 113 => ("ProofHouseModel", "seekRight", "[I", true)
  | 114 => ("ProofHouseModel", "literal", "[I", true)
  | 115 => ("ProofHouseModel", "many", "[I", true)
  | 116 => ("ProofHouseModel", "rounds", "[I", true)
  | 117 => ("ProofHouseModel", "rows", "I", false)
  | 118 => ("ProofHouseModel", "order", "[I", true)
  | 119 => ("ProofHouseModel", "waits", "I", false)
  | 120 => ("ProofHouseModel", "leftRow", "[I", true)
  | 121 => ("ProofHouseModel", "draft", "[I", true)
  | 122 => ("ProofHouseModel", "drafted", "I", false)
  | 123 => ("ProofHouseModel", "end", "[I", true)
  | 124 => ("ProofHouseModel", "ruler", "[I", true)
  | 125 => ("ProofHouseModel", "rulers", "[I", true)
  | 126 => ("ProofHouseModel", "paths", "I", false)
  | 127 => ("ProofHouseModel", "pathTerm", "[I", true)
  | 128 => ("ProofHouseModel", "pathRuler", "[I", true)
  | 129 => ("ProofHouseModel", "pathRulers", "[I", true)
  | 130 => ("ProofHouseModel", "found", "[I", true)
  | 131 => ("ProofHouseModel", "foundMany", "I", false)
  | 132 => ("ProofHouseModel", "began", "I", false)
  | 133 => ("ProofHouseModel", "hintFunction", "I", false)
  | 134 => ("ProofHouseModel", "hintList", "I", false)
  | 135 => ("ProofHouseModel", "hasOff", "Z", false)
  | 136 => ("ProofHouseModel", "hintWrong", "I", false)
  | 137 => ("ProofHouseModel", "used", "[I", true)
  | 138 => ("ProofHouseModel", "usedPairs", "[I", true)
  | 139 => ("ProofHouseModel", "uses", "I", false)
  | 140 => ("ProofHouseModel", "stepTerm", "[I", true)
  | 141 => ("ProofHouseModel", "proof", "[I", true)
  | 142 => ("ProofHouseModel", "proofPart", "[I", true)
  | 143 => ("ProofHouseModel", "proofFrom", "[I", true)
  | 144 => ("ProofHouseModel", "proofs", "I", false)
  | 145 => ("ProofHouseModel", "clause", "[I", true)
  | 146 => ("ProofHouseModel", "clauseMany", "[I", true)
  | 147 => ("ProofHouseModel", "clauses", "I", false)
  | _ => ("ProofHouseModel", "wrongProof", "I", false)
def tyX12 : Nat → FieldType := fun k => match k with
  | 0 => .array .int
  | 1 => .array .int
  | 2 => .array .int
  | 3 => .array .int
  | 4 => .array .int
  | 5 => .array .long
  | 6 => .int
  | 7 => .array .int
  | 8 => .int
  | 9 => .array .int
  | 10 => .array .int
  | 11 => .int
  | 12 => .array .int
  | 13 => .array .int
  | 14 => .int
  | 15 => .array .int
  | 16 => .int
  | 17 => .array .int
  | 18 => .int
  | 19 => .array .int
  | 20 => .int
  | 21 => .array .int
  | 22 => .int
  | 23 => .int
  | 24 => .int
  | 25 => .int
  | 26 => .array .int
  | 27 => .array .int
  | 28 => .array .int
  | 29 => .array .int
  | 30 => .int
  | 31 => .array .int
  | 32 => .int
  | 33 => .int
  | 34 => .boolean
  | 35 => .int
  | 36 => .array .int
  | 37 => .array .int
  | 38 => .array .int
  | 39 => .array .int
  | 40 => .array .int
  | 41 => .array .boolean
  | 42 => .int
  | 43 => .array .int
  | 44 => .array .int
  | 45 => .array .int
  | 46 => .array .int
  | 47 => .array .int
  | 48 => .array .int
  | 49 => .array .int
  | 50 => .array .boolean
  | 51 => .array .boolean
  | 52 => .array .boolean
  | 53 => .array .boolean
  | 54 => .int
  | 55 => .array .int
  | 56 => .array .int
  | 57 => .int
  | 58 => .int
  | 59 => .int
  | 60 => .int
  | 61 => .int
  | 62 => .boolean
  | 63 => .int
  | 64 => .boolean
  | 65 => .array .int
  | 66 => .array .int
  | 67 => .array .int
  | 68 => .array .int
  | 69 => .int
  | 70 => .array .int
  | 71 => .int
  | 72 => .array .int
  | 73 => .array .int
  | 74 => .int
  | 75 => .array .int
  | 76 => .int
  | 77 => .array .int
  | 78 => .int
  | 79 => .array .int
  | 80 => .array .int
  | 81 => .array .int
  | 82 => .array .int
  | 83 => .array .int
  | 84 => .array .boolean
  | 85 => .int
  | 86 => .array .int
  | 87 => .int
  | 88 => .int
  | 89 => .int
  | 90 => .boolean
  | 91 => .int
  | 92 => .array .int
  | 93 => .array .boolean
  | 94 => .array .int
  | 95 => .array .int
  | 96 => .array .int
  | 97 => .array .int
  | 98 => .array .int
  | 99 => .array .int
  | 100 => .array .int
  | 101 => .array .int
  | 102 => .int
  | 103 => .array .int
  | 104 => .int
  | 105 => .array .int
  | 106 => .array .int
  | 107 => .array .int
  | 108 => .array .int
  | 109 => .int
  | 110 => .int
  | 111 => .boolean
  | 112 => .array .int
  | 113 => .array .int
  | 114 => .array .int
  | 115 => .array .int
  | 116 => .array .int
  | 117 => .int
  | 118 => .array .int
  | 119 => .int
  | 120 => .array .int
  | 121 => .array .int
  | 122 => .int
  | 123 => .array .int
  | 124 => .array .int
  | 125 => .array .int
  | 126 => .int
  | 127 => .array .int
  | 128 => .array .int
  | 129 => .array .int
  | 130 => .array .int
  | 131 => .int
  | 132 => .int
  | 133 => .int
  | 134 => .int
  | 135 => .boolean
  | 136 => .int
  | 137 => .array .int
  | 138 => .array .int
  | 139 => .int
  | 140 => .array .int
  | 141 => .array .int
  | 142 => .array .int
  | 143 => .array .int
  | 144 => .int
  | 145 => .array .int
  | 146 => .array .int
  | 147 => .int
  | _ => .int
abbrev wsX120 : List Cond := u_ws RX12 TX12 149
theorem nmX12 : ∀ a, a < 149 → ∀ b, b < 149 → a ≠ b → (TX12 a).2.1 ≠ (TX12 b).2.1 := by decide +kernel
theorem tyX12_ok : ∀ k, k < 149 → parseFieldDescriptor (TX12 k).2.2.1 = some (tyX12 k) := by decide +kernel
abbrev cX12_init : ByteArray := prog_14_method_1_code
def yX12_init : MethodName := ⟨RX12, "<init>", "()V"⟩
abbrev cX12_said : ByteArray := prog_14_method_3_code
def yX12_said : MethodName := ⟨RX12, "said", "(IIIIIIII)V"⟩
abbrev cX12_spell : ByteArray := prog_14_method_4_code
def yX12_spell : MethodName := ⟨RX12, "spell", "(I)V"⟩
abbrev cX12_slot : ByteArray := prog_14_method_5_code
def yX12_slot : MethodName := ⟨RX12, "slot", "(II)I"⟩
abbrev cX12_slotOf : ByteArray := prog_14_method_6_code
def yX12_slotOf : MethodName := ⟨RX12, "slotOf", "(I)I"⟩
abbrev cX12_spelled : ByteArray := prog_14_method_7_code
def yX12_spelled : MethodName := ⟨RX12, "spelled", "(IIZ)I"⟩
abbrev cX12_added : ByteArray := prog_14_method_8_code
def yX12_added : MethodName := ⟨RX12, "added", "(III)I"⟩
abbrev cX12_pair : ByteArray := prog_14_method_9_code
def yX12_pair : MethodName := ⟨RX12, "pair", "(II)I"⟩
abbrev cX12_value : ByteArray := prog_14_method_10_code
def yX12_value : MethodName := ⟨RX12, "value", "(I)J"⟩
abbrev cX12_natural : ByteArray := prog_14_method_11_code
def yX12_natural : MethodName := ⟨RX12, "natural", "(J)I"⟩
abbrev cX12_isWord : ByteArray := prog_14_method_12_code
def yX12_isWord : MethodName := ⟨RX12, "isWord", "(I)Z"⟩
abbrev cX12_symbol : ByteArray := prog_14_method_13_code
def yX12_symbol : MethodName := ⟨RX12, "symbol", "()I"⟩
abbrev cX12_forget : ByteArray := prog_14_method_14_code
def yX12_forget : MethodName := ⟨RX12, "forget", "(I)V"⟩
abbrev cX12_isPair : ByteArray := prog_14_method_15_code
def yX12_isPair : MethodName := ⟨RX12, "isPair", "(I)Z"⟩
abbrev cX12_isNatural : ByteArray := prog_14_method_16_code
def yX12_isNatural : MethodName := ⟨RX12, "isNatural", "(I)Z"⟩
abbrev cX12_isSymbol : ByteArray := prog_14_method_17_code
def yX12_isSymbol : MethodName := ⟨RX12, "isSymbol", "(I)Z"⟩
abbrev cX12_list1 : ByteArray := prog_14_method_18_code
def yX12_list1 : MethodName := ⟨RX12, "list1", "(I)I"⟩
abbrev cX12_list2 : ByteArray := prog_14_method_19_code
def yX12_list2 : MethodName := ⟨RX12, "list2", "(II)I"⟩
abbrev cX12_list3 : ByteArray := prog_14_method_20_code
def yX12_list3 : MethodName := ⟨RX12, "list3", "(III)I"⟩
abbrev cX12_lengthOf : ByteArray := prog_14_method_22_code
def yX12_lengthOf : MethodName := ⟨RX12, "lengthOf", "(I)I"⟩
abbrev cX12_nth : ByteArray := prog_14_method_23_code
def yX12_nth : MethodName := ⟨RX12, "nth", "(II)I"⟩
abbrev cX12_isDigit : ByteArray := prog_14_method_24_code
def yX12_isDigit : MethodName := ⟨RX12, "isDigit", "(I)Z"⟩
abbrev cX12_isAtom : ByteArray := prog_14_method_25_code
def yX12_isAtom : MethodName := ⟨RX12, "isAtom", "(I)Z"⟩
abbrev cX12_skip : ByteArray := prog_14_method_26_code
def yX12_skip : MethodName := ⟨RX12, "skip", "()V"⟩
abbrev cX12_bad : ByteArray := prog_14_method_27_code
def yX12_bad : MethodName := ⟨RX12, "bad", "(II)V"⟩
abbrev cX12_mayBegin : ByteArray := prog_14_method_28_code
def yX12_mayBegin : MethodName := ⟨RX12, "mayBegin", "()Z"⟩
abbrev cX12_begin : ByteArray := prog_14_method_29_code
def yX12_begin : MethodName := ⟨RX12, "begin", "(I)V"⟩
abbrev cX12_deliver : ByteArray := prog_14_method_30_code
def yX12_deliver : MethodName := ⟨RX12, "deliver", "(I)V"⟩
abbrev cX12_close : ByteArray := prog_14_method_31_code
def yX12_close : MethodName := ⟨RX12, "close", "()V"⟩
abbrev cX12_atom : ByteArray := prog_14_method_32_code
def yX12_atom : MethodName := ⟨RX12, "atom", "(II)I"⟩
abbrev cX12_isInList : ByteArray := prog_14_method_33_code
def yX12_isInList : MethodName := ⟨RX12, "isInList", "()Z"⟩
abbrev cX12_readWord : ByteArray := prog_14_method_34_code
def yX12_readWord : MethodName := ⟨RX12, "readWord", "(I)V"⟩
abbrev cX12_reads : ByteArray := prog_14_method_35_code
def yX12_reads : MethodName := ⟨RX12, "reads", "()Z"⟩
abbrev cX12_tellLetter : ByteArray := prog_14_method_36_code
def yX12_tellLetter : MethodName := ⟨RX12, "tellLetter", "(I)V"⟩
abbrev cX12_isFull : ByteArray := prog_14_method_37_code
def yX12_isFull : MethodName := ⟨RX12, "isFull", "()Z"⟩
abbrev cX12_tellAtom : ByteArray := prog_14_method_38_code
def yX12_tellAtom : MethodName := ⟨RX12, "tellAtom", "(I)V"⟩
abbrev cX12_isQuoted : ByteArray := prog_14_method_39_code
def yX12_isQuoted : MethodName := ⟨RX12, "isQuoted", "(I)Z"⟩
abbrev cX12_later : ByteArray := prog_14_method_40_code
def yX12_later : MethodName := ⟨RX12, "later", "(I)V"⟩
abbrev cX12_tellObject : ByteArray := prog_14_method_41_code
def yX12_tellObject : MethodName := ⟨RX12, "tellObject", "(I)V"⟩
abbrev cX12_isSmaller : ByteArray := prog_14_method_42_code
def yX12_isSmaller : MethodName := ⟨RX12, "isSmaller", "(II)Z"⟩
abbrev cX12_isVariable : ByteArray := prog_14_method_43_code
def yX12_isVariable : MethodName := ⟨RX12, "isVariable", "(I)Z"⟩
abbrev cX12_isConstant : ByteArray := prog_14_method_44_code
def yX12_isConstant : MethodName := ⟨RX12, "isConstant", "(I)Z"⟩
abbrev cX12_isCall : ByteArray := prog_14_method_45_code
def yX12_isCall : MethodName := ⟨RX12, "isCall", "(I)Z"⟩
abbrev cX12_isCallOf : ByteArray := prog_14_method_46_code
def yX12_isCallOf : MethodName := ⟨RX12, "isCallOf", "(II)Z"⟩
abbrev cX12_constantOf : ByteArray := prog_14_method_47_code
def yX12_constantOf : MethodName := ⟨RX12, "constantOf", "(I)I"⟩
abbrev cX12_valueOf : ByteArray := prog_14_method_48_code
def yX12_valueOf : MethodName := ⟨RX12, "valueOf", "(I)I"⟩
abbrev cX12_term : ByteArray := prog_14_method_49_code
def yX12_term : MethodName := ⟨RX12, "term", "(II)I"⟩
abbrev cX12_functionOf : ByteArray := prog_14_method_50_code
def yX12_functionOf : MethodName := ⟨RX12, "functionOf", "(I)I"⟩
abbrev cX12_manyOf : ByteArray := prog_14_method_51_code
def yX12_manyOf : MethodName := ⟨RX12, "manyOf", "(I)I"⟩
abbrev cX12_isReserved : ByteArray := prog_14_method_52_code
def yX12_isReserved : MethodName := ⟨RX12, "isReserved", "(I)Z"⟩
abbrev cX12_fail : ByteArray := prog_14_method_53_code
def yX12_fail : MethodName := ⟨RX12, "fail", "(I)V"⟩
abbrev cX12_sizeOf : ByteArray := prog_14_method_54_code
def yX12_sizeOf : MethodName := ⟨RX12, "sizeOf", "(I)I"⟩
abbrev cX12_callFrom : ByteArray := prog_14_method_55_code
def yX12_callFrom : MethodName := ⟨RX12, "callFrom", "(II)I"⟩
abbrev cX12_build : ByteArray := prog_14_method_56_code
def yX12_build : MethodName := ⟨RX12, "build", "(I)V"⟩
abbrev cX12_openCall : ByteArray := prog_14_method_57_code
def yX12_openCall : MethodName := ⟨RX12, "openCall", "(I)V"⟩
abbrev cX12_substituted : ByteArray := prog_14_method_58_code
def yX12_substituted : MethodName := ⟨RX12, "substituted", "(I)I"⟩
abbrev cX12_beginInstance : ByteArray := prog_14_method_59_code
def yX12_beginInstance : MethodName := ⟨RX12, "beginInstance", "(III)V"⟩
abbrev cX12_anew : ByteArray := prog_14_method_60_code
def yX12_anew : MethodName := ⟨RX12, "anew", "(III)I"⟩
abbrev cX12_instance : ByteArray := prog_14_method_61_code
def yX12_instance : MethodName := ⟨RX12, "instance", "(I)I"⟩
abbrev cX12_beginTerm : ByteArray := prog_14_method_62_code
def yX12_beginTerm : MethodName := ⟨RX12, "beginTerm", "(I)Z"⟩
abbrev cX12_termOf : ByteArray := prog_14_method_63_code
def yX12_termOf : MethodName := ⟨RX12, "termOf", "(I)I"⟩
abbrev cX12_made : ByteArray := prog_14_method_64_code
def yX12_made : MethodName := ⟨RX12, "made", "(IIII)I"⟩
abbrev cX12_made2 : ByteArray := prog_14_method_65_code
def yX12_made2 : MethodName := ⟨RX12, "made2", "(III)I"⟩
abbrev cX12_notOf : ByteArray := prog_14_method_66_code
def yX12_notOf : MethodName := ⟨RX12, "notOf", "(I)I"⟩
abbrev cX12_isBoolean : ByteArray := prog_14_method_67_code
def yX12_isBoolean : MethodName := ⟨RX12, "isBoolean", "(I)Z"⟩
abbrev cX12_walkTo : ByteArray := prog_14_method_68_code
def yX12_walkTo : MethodName := ⟨RX12, "walkTo", "(I)V"⟩
abbrev cX12_walkOn : ByteArray := prog_14_method_69_code
def yX12_walkOn : MethodName := ⟨RX12, "walkOn", "()I"⟩
abbrev cX12_hasCall : ByteArray := prog_14_method_70_code
def yX12_hasCall : MethodName := ⟨RX12, "hasCall", "(II)Z"⟩
abbrev cX12_hasVariable : ByteArray := prog_14_method_71_code
def yX12_hasVariable : MethodName := ⟨RX12, "hasVariable", "(II)Z"⟩
abbrev cX12_variablesOf : ByteArray := prog_14_method_72_code
def yX12_variablesOf : MethodName := ⟨RX12, "variablesOf", "(I)V"⟩
abbrev cX12_isStep : ByteArray := prog_14_method_73_code
def yX12_isStep : MethodName := ⟨RX12, "isStep", "()Z"⟩
abbrev cX12_beginEval : ByteArray := prog_14_method_74_code
def yX12_beginEval : MethodName := ⟨RX12, "beginEval", "(IIIZ)V"⟩
abbrev cX12_numberOf : ByteArray := prog_14_method_75_code
def yX12_numberOf : MethodName := ⟨RX12, "numberOf", "(I)J"⟩
abbrev cX12_truth : ByteArray := prog_14_method_76_code
def yX12_truth : MethodName := ⟨RX12, "truth", "(Z)I"⟩
abbrev cX12_basic : ByteArray := prog_14_method_77_code
def yX12_basic : MethodName := ⟨RX12, "basic", "(II)I"⟩
abbrev cX12_takeValue : ByteArray := prog_14_method_78_code
def yX12_takeValue : MethodName := ⟨RX12, "takeValue", "(Z)V"⟩
abbrev cX12_goOn : ByteArray := prog_14_method_79_code
def yX12_goOn : MethodName := ⟨RX12, "goOn", "(Z)V"⟩
abbrev cX12_evaluated : ByteArray := prog_14_method_80_code
def yX12_evaluated : MethodName := ⟨RX12, "evaluated", "(IZ)I"⟩
abbrev cX12_beginJob : ByteArray := prog_14_method_81_code
def yX12_beginJob : MethodName := ⟨RX12, "beginJob", "(IZ)V"⟩
abbrev cX12_end0 : ByteArray := prog_14_method_82_code
def yX12_end0 : MethodName := ⟨RX12, "end0", "(I)V"⟩
abbrev cX12_passOn : ByteArray := prog_14_method_83_code
def yX12_passOn : MethodName := ⟨RX12, "passOn", "(I)V"⟩
abbrev cX12_isInContext : ByteArray := prog_14_method_84_code
def yX12_isInContext : MethodName := ⟨RX12, "isInContext", "(I)Z"⟩
abbrev cX12_isDenied : ByteArray := prog_14_method_85_code
def yX12_isDenied : MethodName := ⟨RX12, "isDenied", "(I)Z"⟩
abbrev cX12_lookedUp : ByteArray := prog_14_method_86_code
def yX12_lookedUp : MethodName := ⟨RX12, "lookedUp", "(IZ)I"⟩
abbrev cX12_startJob : ByteArray := prog_14_method_87_code
def yX12_startJob : MethodName := ⟨RX12, "startJob", "(I)V"⟩
abbrev cX12_nextTerm : ByteArray := prog_14_method_88_code
def yX12_nextTerm : MethodName := ⟨RX12, "nextTerm", "(I)V"⟩
abbrev cX12_takeResult : ByteArray := prog_14_method_89_code
def yX12_takeResult : MethodName := ⟨RX12, "takeResult", "(I)V"⟩
abbrev cX12_push : ByteArray := prog_14_method_90_code
def yX12_push : MethodName := ⟨RX12, "push", "(I)V"⟩
abbrev cX12_test : ByteArray := prog_14_method_91_code
def yX12_test : MethodName := ⟨RX12, "test", "(I)V"⟩
abbrev cX12_join : ByteArray := prog_14_method_92_code
def yX12_join : MethodName := ⟨RX12, "join", "(IIII)V"⟩
abbrev cX12_areConstants : ByteArray := prog_14_method_93_code
def yX12_areConstants : MethodName := ⟨RX12, "areConstants", "(I)Z"⟩
abbrev cX12_isNumbered : ByteArray := prog_14_method_94_code
def yX12_isNumbered : MethodName := ⟨RX12, "isNumbered", "(I)Z"⟩
abbrev cX12_plain : ByteArray := prog_14_method_95_code
def yX12_plain : MethodName := ⟨RX12, "plain", "(I)I"⟩
abbrev cX12_apply : ByteArray := prog_14_method_96_code
def yX12_apply : MethodName := ⟨RX12, "apply", "(I)V"⟩
abbrev cX12_fallen : ByteArray := prog_14_method_97_code
def yX12_fallen : MethodName := ⟨RX12, "fallen", "(II)I"⟩
abbrev cX12_constantValue : ByteArray := prog_14_method_98_code
def yX12_constantValue : MethodName := ⟨RX12, "constantValue", "(II)I"⟩
abbrev cX12_matches : ByteArray := prog_14_method_99_code
def yX12_matches : MethodName := ⟨RX12, "matches", "(IIIZ)Z"⟩
abbrev cX12_bound : ByteArray := prog_14_method_100_code
def yX12_bound : MethodName := ⟨RX12, "bound", "(IIIZ)Z"⟩
abbrev cX12_takePairs : ByteArray := prog_14_method_101_code
def yX12_takePairs : MethodName := ⟨RX12, "takePairs", "(I)V"⟩
abbrev cX12_tryRules : ByteArray := prog_14_method_102_code
def yX12_tryRules : MethodName := ⟨RX12, "tryRules", "(II)V"⟩
abbrev cX12_nextHypothesis : ByteArray := prog_14_method_103_code
def yX12_nextHypothesis : MethodName := ⟨RX12, "nextHypothesis", "(I)V"⟩
abbrev cX12_bodyOf : ByteArray := prog_14_method_104_code
def yX12_bodyOf : MethodName := ⟨RX12, "bodyOf", "(II)I"⟩
abbrev cX12_define : ByteArray := prog_14_method_105_code
def yX12_define : MethodName := ⟨RX12, "define", "(I)V"⟩
abbrev cX12_rewritten : ByteArray := prog_14_method_106_code
def yX12_rewritten : MethodName := ⟨RX12, "rewritten", "(IZ)I"⟩
abbrev cX12_put : ByteArray := prog_14_method_107_code
def yX12_put : MethodName := ⟨RX12, "put", "(I)V"⟩
abbrev cX12_bounded : ByteArray := prog_14_method_108_code
def yX12_bounded : MethodName := ⟨RX12, "bounded", "()V"⟩
abbrev cX12_row : ByteArray := prog_14_method_109_code
def yX12_row : MethodName := ⟨RX12, "row", "(I)I"⟩
abbrev cX12_isProved : ByteArray := prog_14_method_110_code
def yX12_isProved : MethodName := ⟨RX12, "isProved", "(I)Z"⟩
abbrev cX12_removeAt : ByteArray := prog_14_method_111_code
def yX12_removeAt : MethodName := ⟨RX12, "removeAt", "(II)V"⟩
abbrev cX12_changeTo : ByteArray := prog_14_method_112_code
def yX12_changeTo : MethodName := ⟨RX12, "changeTo", "(III)Z"⟩
abbrev cX12_together : ByteArray := prog_14_method_113_code
def yX12_together : MethodName := ⟨RX12, "together", "(I)I"⟩
abbrev cX12_splitRow : ByteArray := prog_14_method_114_code
def yX12_splitRow : MethodName := ⟨RX12, "splitRow", "(IIII)I"⟩
abbrev cX12_split : ByteArray := prog_14_method_115_code
def yX12_split : MethodName := ⟨RX12, "split", "(III)V"⟩
abbrev cX12_splits : ByteArray := prog_14_method_116_code
def yX12_splits : MethodName := ⟨RX12, "splits", "(I)Z"⟩
abbrev cX12_leave : ByteArray := prog_14_method_117_code
def yX12_leave : MethodName := ⟨RX12, "leave", "(I)V"⟩
abbrev cX12_round : ByteArray := prog_14_method_118_code
def yX12_round : MethodName := ⟨RX12, "round", "(I)V"⟩
abbrev cX12_prove : ByteArray := prog_14_method_119_code
def yX12_prove : MethodName := ⟨RX12, "prove", "()Z"⟩
abbrev cX12_tellOut : ByteArray := prog_14_method_120_code
def yX12_tellOut : MethodName := ⟨RX12, "tellOut", "(I)V"⟩
abbrev cX12_rowList : ByteArray := prog_14_method_121_code
def yX12_rowList : MethodName := ⟨RX12, "rowList", "(I)I"⟩
abbrev cX12_tellLeft : ByteArray := prog_14_method_122_code
def yX12_tellLeft : MethodName := ⟨RX12, "tellLeft", "()V"⟩
abbrev cX12_pathsOf : ByteArray := prog_14_method_123_code
def yX12_pathsOf : MethodName := ⟨RX12, "pathsOf", "(I)V"⟩
abbrev cX12_find : ByteArray := prog_14_method_124_code
def yX12_find : MethodName := ⟨RX12, "find", "(II)V"⟩
abbrev cX12_isNewName : ByteArray := prog_14_method_125_code
def yX12_isNewName : MethodName := ⟨RX12, "isNewName", "(I)Z"⟩
abbrev cX12_definition : ByteArray := prog_14_method_126_code
def yX12_definition : MethodName := ⟨RX12, "definition", "(I)I"⟩
abbrev cX12_theoremOf : ByteArray := prog_14_method_127_code
def yX12_theoremOf : MethodName := ⟨RX12, "theoremOf", "(I)I"⟩
abbrev cX12_areVariables : ByteArray := prog_14_method_128_code
def yX12_areVariables : MethodName := ⟨RX12, "areVariables", "(II)Z"⟩
abbrev cX12_isIn : ByteArray := prog_14_method_129_code
def yX12_isIn : MethodName := ⟨RX12, "isIn", "(II)Z"⟩
abbrev cX12_hasOnly : ByteArray := prog_14_method_130_code
def yX12_hasOnly : MethodName := ⟨RX12, "hasOnly", "(II)Z"⟩
abbrev cX12_areApart : ByteArray := prog_14_method_131_code
def yX12_areApart : MethodName := ⟨RX12, "areApart", "(I)Z"⟩
abbrev cX12_measureRows : ByteArray := prog_14_method_132_code
def yX12_measureRows : MethodName := ⟨RX12, "measureRows", "(III)V"⟩
abbrev cX12_defun : ByteArray := prog_14_method_133_code
def yX12_defun : MethodName := ⟨RX12, "defun", "(I)I"⟩
abbrev cX12_take : ByteArray := prog_14_method_134_code
def yX12_take : MethodName := ⟨RX12, "take", "(I)V"⟩
abbrev cX12_ruleOf : ByteArray := prog_14_method_135_code
def yX12_ruleOf : MethodName := ⟨RX12, "ruleOf", "(II)V"⟩
abbrev cX12_covers : ByteArray := prog_14_method_136_code
def yX12_covers : MethodName := ⟨RX12, "covers", "(II)Z"⟩
abbrev cX12_hypotheses : ByteArray := prog_14_method_137_code
def yX12_hypotheses : MethodName := ⟨RX12, "hypotheses", "(II)V"⟩
abbrev cX12_wrong : ByteArray := prog_14_method_138_code
def yX12_wrong : MethodName := ⟨RX12, "wrong", "(I)V"⟩
abbrev cX12_induction : ByteArray := prog_14_method_139_code
def yX12_induction : MethodName := ⟨RX12, "induction", "(I)V"⟩
abbrev cX12_arePairs : ByteArray := prog_14_method_140_code
def yX12_arePairs : MethodName := ⟨RX12, "arePairs", "(I)Z"⟩
abbrev cX12_using : ByteArray := prog_14_method_141_code
def yX12_using : MethodName := ⟨RX12, "using", "(I)V"⟩
abbrev cX12_turningOff : ByteArray := prog_14_method_142_code
def yX12_turningOff : MethodName := ⟨RX12, "turningOff", "(I)V"⟩
abbrev cX12_hints : ByteArray := prog_14_method_143_code
def yX12_hints : MethodName := ⟨RX12, "hints", "(I)I"⟩
abbrev cX12_takeParameters : ByteArray := prog_14_method_144_code
def yX12_takeParameters : MethodName := ⟨RX12, "takeParameters", "(II)V"⟩
abbrev cX12_inductionRow : ByteArray := prog_14_method_145_code
def yX12_inductionRow : MethodName := ⟨RX12, "inductionRow", "(IIII)V"⟩
abbrev cX12_useRows : ByteArray := prog_14_method_146_code
def yX12_useRows : MethodName := ⟨RX12, "useRows", "()V"⟩
abbrev cX12_proveBy : ByteArray := prog_14_method_147_code
def yX12_proveBy : MethodName := ⟨RX12, "proveBy", "(I)Z"⟩
abbrev cX12_allRulesIn : ByteArray := prog_14_method_148_code
def yX12_allRulesIn : MethodName := ⟨RX12, "allRulesIn", "()V"⟩
abbrev cX12_defthm : ByteArray := prog_14_method_149_code
def yX12_defthm : MethodName := ⟨RX12, "defthm", "(IZ)I"⟩
abbrev cX12_addTheorem : ByteArray := prog_14_method_150_code
def yX12_addTheorem : MethodName := ⟨RX12, "addTheorem", "(III)V"⟩
abbrev cX12_partsFrom : ByteArray := prog_14_method_151_code
def yX12_partsFrom : MethodName := ⟨RX12, "partsFrom", "(I)I"⟩
abbrev cX12_partsTo : ByteArray := prog_14_method_152_code
def yX12_partsTo : MethodName := ⟨RX12, "partsTo", "(I)I"⟩
abbrev cX12_areTerms : ByteArray := prog_14_method_153_code
def yX12_areTerms : MethodName := ⟨RX12, "areTerms", "(III)Z"⟩
abbrev cX12_isTermList : ByteArray := prog_14_method_154_code
def yX12_isTermList : MethodName := ⟨RX12, "isTermList", "(I)Z"⟩
abbrev cX12_told : ByteArray := prog_14_method_155_code
def yX12_told : MethodName := ⟨RX12, "told", "(I)I"⟩
abbrev cX12_isInduction : ByteArray := prog_14_method_156_code
def yX12_isInduction : MethodName := ⟨RX12, "isInduction", "(I)Z"⟩
abbrev cX12_isForm : ByteArray := prog_14_method_157_code
def yX12_isForm : MethodName := ⟨RX12, "isForm", "(I)Z"⟩
abbrev cX12_beginProof : ByteArray := prog_14_method_158_code
def yX12_beginProof : MethodName := ⟨RX12, "beginProof", "(I)V"⟩
abbrev cX12_pour : ByteArray := prog_14_method_159_code
def yX12_pour : MethodName := ⟨RX12, "pour", "(II)V"⟩
abbrev cX12_has : ByteArray := prog_14_method_160_code
def yX12_has : MethodName := ⟨RX12, "has", "(II)Z"⟩
abbrev cX12_beginsEqual : ByteArray := prog_14_method_161_code
def yX12_beginsEqual : MethodName := ⟨RX12, "beginsEqual", "(I)Z"⟩
abbrev cX12_concludes : ByteArray := prog_14_method_162_code
def yX12_concludes : MethodName := ⟨RX12, "concludes", "(I)Z"⟩
abbrev cX12_defined : ByteArray := prog_14_method_163_code
def yX12_defined : MethodName := ⟨RX12, "defined", "(I)V"⟩
abbrev cX12_instanced : ByteArray := prog_14_method_164_code
def yX12_instanced : MethodName := ⟨RX12, "instanced", "(II)Z"⟩
abbrev cX12_replaced : ByteArray := prog_14_method_165_code
def yX12_replaced : MethodName := ⟨RX12, "replaced", "(I)Z"⟩
abbrev cX12_inducts : ByteArray := prog_14_method_166_code
def yX12_inducts : MethodName := ⟨RX12, "inducts", "(III)Z"⟩
abbrev cX12_goProof : ByteArray := prog_14_method_167_code
def yX12_goProof : MethodName := ⟨RX12, "goProof", "()V"⟩
abbrev cX12_check : ByteArray := prog_14_method_168_code
def yX12_check : MethodName := ⟨RX12, "check", "(I)I"⟩
abbrev cX12_eval : ByteArray := prog_14_method_169_code
def yX12_eval : MethodName := ⟨RX12, "eval", "(I)I"⟩
abbrev cX12_simplify : ByteArray := prog_14_method_170_code
def yX12_simplify : MethodName := ⟨RX12, "simplify", "(I)I"⟩
abbrev cX12_turn : ByteArray := prog_14_method_171_code
def yX12_turn : MethodName := ⟨RX12, "turn", "(IZ)I"⟩
abbrev cX12_undo : ByteArray := prog_14_method_172_code
def yX12_undo : MethodName := ⟨RX12, "undo", "(I)I"⟩
abbrev cX12_command : ByteArray := prog_14_method_173_code
def yX12_command : MethodName := ⟨RX12, "command", "(I)I"⟩
abbrev cX12_feed : ByteArray := prog_14_method_174_code
def yX12_feed : MethodName := ⟨RX12, "feed", "(IIIII)V"⟩
abbrev cX12_end : ByteArray := prog_14_method_175_code
def yX12_end : MethodName := ⟨RX12, "end", "(I)I"⟩
abbrev cX12_fuel : ByteArray := prog_14_method_176_code
def yX12_fuel : MethodName := ⟨RX12, "fuel", "(I)I"⟩
abbrev cX12_run : ByteArray := prog_14_method_177_code
def yX12_run : MethodName := ⟨RX12, "run", "()I"⟩
abbrev cX12_fault : ByteArray := prog_14_method_178_code
def yX12_fault : MethodName := ⟨RX12, "fault", "(I)I"⟩
abbrev cX12_steps : ByteArray := prog_14_method_179_code
def yX12_steps : MethodName := ⟨RX12, "steps", "()I"⟩
abbrev cX12_count : ByteArray := prog_14_method_180_code
def yX12_count : MethodName := ⟨RX12, "count", "(I)I"⟩
abbrev cX12_size : ByteArray := prog_14_method_181_code
def yX12_size : MethodName := ⟨RX12, "size", "()I"⟩
abbrev cX12_letter : ByteArray := prog_14_method_182_code
def yX12_letter : MethodName := ⟨RX12, "letter", "(I)I"⟩
abbrev cX12_taken : ByteArray := prog_14_method_183_code
def yX12_taken : MethodName := ⟨RX12, "taken", "(I)I"⟩
abbrev cX12_tell : ByteArray := prog_14_method_184_code
def yX12_tell : MethodName := ⟨RX12, "tell", "(I)I"⟩
abbrev cX12_recheck : ByteArray := prog_14_method_185_code
def yX12_recheck : MethodName := ⟨RX12, "recheck", "()Z"⟩
def wsX12_spell : List Cond := .code yX12_spell cX12_spell 2 none :: ([.fieldLink RX12 50 "ProofHouseModel" "word" "[I", .fieldLink RX12 309 "ProofHouseModel" "wordSize" "I"] ++ wsX120)
def wsX12_spelled : List Cond := .code yX12_spelled cX12_spelled 6 (some .int) :: ([.fieldLink RX12 50 "ProofHouseModel" "word" "[I", .fieldLink RX12 35 "ProofHouseModel" "names" "[I"] ++ wsX120)
def wsX12_isWord : List Cond := .code yX12_isWord cX12_isWord 4 (some .boolean) :: ([.fieldLink RX12 38 "ProofHouseModel" "lengths" "[I", .fieldLink RX12 309 "ProofHouseModel" "wordSize" "I", .fieldLink RX12 35 "ProofHouseModel" "names" "[I", .fieldLink RX12 50 "ProofHouseModel" "word" "[I"] ++ wsX120)
def wsX12_added : List Cond := .code yX12_added cX12_added 4 (some .int) :: ([.fieldLink RX12 8 "ProofHouseModel" "left" "[I", .fieldLink RX12 332 "ProofHouseModel" "objects" "I", .fieldLink RX12 14 "ProofHouseModel" "right" "[I", .fieldLink RX12 17 "ProofHouseModel" "next" "[I", .fieldLink RX12 31 "ProofHouseModel" "heads" "[I", .fieldLink RX12 20 "ProofHouseModel" "sizes" "[I", .fieldLink RX12 23 "ProofHouseModel" "heights" "[I"] ++ wsX120)
def wsX12_symbol_r1 : List Cond := [Cond.fieldLink RX12 309 "ProofHouseModel" "wordSize" "I", Cond.fieldLink RX12 31 "ProofHouseModel" "heads" "[I", Cond.fieldLink RX12 8 "ProofHouseModel" "left" "[I", Cond.fieldLink RX12 14 "ProofHouseModel" "right" "[I", Cond.fieldLink RX12 17 "ProofHouseModel" "next" "[I", Cond.fieldLink RX12 38 "ProofHouseModel" "lengths" "[I", Cond.fieldLink RX12 346 "ProofHouseModel" "symbols" "I", Cond.fieldLink RX12 35 "ProofHouseModel" "names" "[I", Cond.fieldLink RX12 50 "ProofHouseModel" "word" "[I", Cond.methodLink RX12 328 yX12_spelled, Cond.instanceMethod yX12_spelled, Cond.selects RX12 yX12_spelled yX12_spelled, Cond.initialized RX12, Cond.code yX12_spelled cX12_spelled 6 (some .int), Cond.methodLink RX12 342 yX12_isWord, Cond.instanceMethod yX12_isWord, Cond.selects RX12 yX12_isWord yX12_isWord, Cond.code yX12_isWord cX12_isWord 4 (some .boolean), Cond.methodLink RX12 335 yX12_added, Cond.instanceMethod yX12_added, Cond.selects RX12 yX12_added yX12_added, Cond.code yX12_added cX12_added 4 (some .int), Cond.fieldLink RX12 332 "ProofHouseModel" "objects" "I", Cond.fieldLink RX12 20 "ProofHouseModel" "sizes" "[I"]
def wsX12_symbol_r2 : List Cond := [Cond.fieldLink RX12 23 "ProofHouseModel" "heights" "[I"]
def wsX12_symbol : List Cond := .code yX12_symbol cX12_symbol 3 (some .int) :: ((wsX12_symbol_r1 ++ wsX12_symbol_r2) ++ wsX120)
def wsX12_said_r1 : List Cond := [Cond.fieldLink RX12 309 "ProofHouseModel" "wordSize" "I", Cond.methodLink RX12 312 yX12_spell, Cond.instanceMethod yX12_spell, Cond.selects RX12 yX12_spell yX12_spell, Cond.initialized RX12, Cond.code yX12_spell cX12_spell 2 none, Cond.fieldLink RX12 50 "ProofHouseModel" "word" "[I", Cond.methodLink RX12 316 yX12_symbol, Cond.instanceMethod yX12_symbol, Cond.selects RX12 yX12_symbol yX12_symbol, Cond.code yX12_symbol cX12_symbol 3 (some .int), Cond.fieldLink RX12 31 "ProofHouseModel" "heads" "[I", Cond.fieldLink RX12 8 "ProofHouseModel" "left" "[I", Cond.fieldLink RX12 14 "ProofHouseModel" "right" "[I", Cond.fieldLink RX12 17 "ProofHouseModel" "next" "[I", Cond.fieldLink RX12 38 "ProofHouseModel" "lengths" "[I", Cond.fieldLink RX12 346 "ProofHouseModel" "symbols" "I", Cond.fieldLink RX12 35 "ProofHouseModel" "names" "[I", Cond.methodLink RX12 328 yX12_spelled, Cond.instanceMethod yX12_spelled, Cond.selects RX12 yX12_spelled yX12_spelled, Cond.code yX12_spelled cX12_spelled 6 (some .int), Cond.methodLink RX12 342 yX12_isWord, Cond.instanceMethod yX12_isWord]
def wsX12_said_r2 : List Cond := [Cond.selects RX12 yX12_isWord yX12_isWord, Cond.code yX12_isWord cX12_isWord 4 (some .boolean), Cond.methodLink RX12 335 yX12_added, Cond.instanceMethod yX12_added, Cond.selects RX12 yX12_added yX12_added, Cond.code yX12_added cX12_added 4 (some .int), Cond.fieldLink RX12 332 "ProofHouseModel" "objects" "I", Cond.fieldLink RX12 20 "ProofHouseModel" "sizes" "[I", Cond.fieldLink RX12 23 "ProofHouseModel" "heights" "[I"]
def wsX12_said : List Cond := .code yX12_said cX12_said 10 none :: ((wsX12_said_r1 ++ wsX12_said_r2) ++ wsX120)
def wsX12_init_r1 : List Cond := [Cond.methodLink RX12 1 objectInit, Cond.instanceMethod objectInit, Cond.code objectInit ⟨#[0xb1]⟩ 1 none, Cond.constant RX12 7 (452000), Cond.arrayClass .int, Cond.fieldLink RX12 8 "ProofHouseModel" "left" "[I", Cond.fieldLink RX12 14 "ProofHouseModel" "right" "[I", Cond.fieldLink RX12 17 "ProofHouseModel" "next" "[I", Cond.fieldLink RX12 20 "ProofHouseModel" "sizes" "[I", Cond.fieldLink RX12 23 "ProofHouseModel" "heights" "[I", Cond.constant RX12 26 (40000), Cond.arrayClass .long, Cond.fieldLink RX12 27 "ProofHouseModel" "number" "[J", Cond.fieldLink RX12 31 "ProofHouseModel" "heads" "[I", Cond.constant RX12 34 (252000), Cond.fieldLink RX12 35 "ProofHouseModel" "names" "[I", Cond.fieldLink RX12 38 "ProofHouseModel" "lengths" "[I", Cond.fieldLink RX12 41 "ProofHouseModel" "waiting" "[I", Cond.fieldLink RX12 44 "ProofHouseModel" "text" "[I", Cond.fieldLink RX12 47 "ProofHouseModel" "out" "[I", Cond.fieldLink RX12 50 "ProofHouseModel" "word" "[I", Cond.fieldLink RX12 53 "ProofHouseModel" "tellWhat" "[I", Cond.fieldLink RX12 56 "ProofHouseModel" "one" "[I", Cond.fieldLink RX12 59 "ProofHouseModel" "readPlace" "I"]
def wsX12_init_r2 : List Cond := [Cond.fieldLink RX12 63 "ProofHouseModel" "openSort" "[I", Cond.fieldLink RX12 66 "ProofHouseModel" "openFrom" "[I", Cond.fieldLink RX12 69 "ProofHouseModel" "openState" "[I", Cond.fieldLink RX12 72 "ProofHouseModel" "openLast" "[I", Cond.fieldLink RX12 75 "ProofHouseModel" "items" "[I", Cond.fieldLink RX12 78 "ProofHouseModel" "defName" "[I", Cond.fieldLink RX12 81 "ProofHouseModel" "defMany" "[I", Cond.fieldLink RX12 84 "ProofHouseModel" "defVariable" "[I", Cond.fieldLink RX12 87 "ProofHouseModel" "defBody" "[I", Cond.fieldLink RX12 90 "ProofHouseModel" "defMeasure" "[I", Cond.arrayClass .boolean, Cond.fieldLink RX12 93 "ProofHouseModel" "defSelf" "[Z", Cond.fieldLink RX12 97 "ProofHouseModel" "theoremName" "[I", Cond.fieldLink RX12 100 "ProofHouseModel" "theorem" "[I", Cond.fieldLink RX12 103 "ProofHouseModel" "theoremSort" "[I", Cond.fieldLink RX12 106 "ProofHouseModel" "ruleLeft" "[I", Cond.fieldLink RX12 109 "ProofHouseModel" "ruleRight" "[I", Cond.fieldLink RX12 112 "ProofHouseModel" "ruleMany" "[I", Cond.fieldLink RX12 115 "ProofHouseModel" "ruleHypothesis" "[I", Cond.fieldLink RX12 118 "ProofHouseModel" "rulePermutes" "[Z", Cond.fieldLink RX12 121 "ProofHouseModel" "ruleTruth" "[Z", Cond.fieldLink RX12 124 "ProofHouseModel" "ruleOn" "[Z", Cond.fieldLink RX12 127 "ProofHouseModel" "ruleOut" "[Z", Cond.fieldLink RX12 130 "ProofHouseModel" "takenSort" "[I"]
def wsX12_init_r3 : List Cond := [Cond.fieldLink RX12 133 "ProofHouseModel" "takenFrom" "[I", Cond.fieldLink RX12 136 "ProofHouseModel" "comingName" "I", Cond.fieldLink RX12 139 "ProofHouseModel" "fuel" "I", Cond.fieldLink RX12 142 "ProofHouseModel" "other" "[I", Cond.fieldLink RX12 145 "ProofHouseModel" "callOf" "[I", Cond.fieldLink RX12 148 "ProofHouseModel" "restOf" "[I", Cond.fieldLink RX12 151 "ProofHouseModel" "fromOf" "[I", Cond.fieldLink RX12 154 "ProofHouseModel" "built" "[I", Cond.fieldLink RX12 157 "ProofHouseModel" "variable" "[I", Cond.fieldLink RX12 160 "ProofHouseModel" "instead" "[I", Cond.fieldLink RX12 163 "ProofHouseModel" "walk" "[I", Cond.fieldLink RX12 166 "ProofHouseModel" "its" "[I", Cond.fieldLink RX12 169 "ProofHouseModel" "evalTerm" "[I", Cond.fieldLink RX12 172 "ProofHouseModel" "evalRest" "[I", Cond.fieldLink RX12 175 "ProofHouseModel" "evalFrom" "[I", Cond.fieldLink RX12 178 "ProofHouseModel" "evalDef" "[I", Cond.fieldLink RX12 181 "ProofHouseModel" "evalBase" "[I", Cond.fieldLink RX12 184 "ProofHouseModel" "evalEnds" "[Z", Cond.fieldLink RX12 187 "ProofHouseModel" "value" "[I", Cond.fieldLink RX12 190 "ProofHouseModel" "job" "[I", Cond.fieldLink RX12 193 "ProofHouseModel" "jobTruth" "[Z", Cond.fieldLink RX12 196 "ProofHouseModel" "jobPhase" "[I", Cond.fieldLink RX12 199 "ProofHouseModel" "jobA" "[I", Cond.fieldLink RX12 202 "ProofHouseModel" "jobB" "[I"]
def wsX12_init_r4 : List Cond := [Cond.fieldLink RX12 205 "ProofHouseModel" "jobC" "[I", Cond.fieldLink RX12 208 "ProofHouseModel" "jobRest" "[I", Cond.fieldLink RX12 211 "ProofHouseModel" "jobFrom" "[I", Cond.fieldLink RX12 214 "ProofHouseModel" "jobRule" "[I", Cond.fieldLink RX12 217 "ProofHouseModel" "jobHypothesis" "[I", Cond.fieldLink RX12 220 "ProofHouseModel" "result" "[I", Cond.fieldLink RX12 223 "ProofHouseModel" "ruleVariable" "[I", Cond.fieldLink RX12 226 "ProofHouseModel" "ruleInstead" "[I", Cond.fieldLink RX12 229 "ProofHouseModel" "rulePairs" "[I", Cond.fieldLink RX12 232 "ProofHouseModel" "context" "[I", Cond.fieldLink RX12 235 "ProofHouseModel" "seekLeft" "[I", Cond.fieldLink RX12 238 "ProofHouseModel" "seekRight" "[I", Cond.constant RX12 241 (69000), Cond.fieldLink RX12 242 "ProofHouseModel" "literal" "[I", Cond.fieldLink RX12 245 "ProofHouseModel" "many" "[I", Cond.fieldLink RX12 248 "ProofHouseModel" "rounds" "[I", Cond.fieldLink RX12 251 "ProofHouseModel" "order" "[I", Cond.fieldLink RX12 254 "ProofHouseModel" "leftRow" "[I", Cond.fieldLink RX12 257 "ProofHouseModel" "draft" "[I", Cond.fieldLink RX12 260 "ProofHouseModel" "end" "[I", Cond.fieldLink RX12 263 "ProofHouseModel" "ruler" "[I", Cond.fieldLink RX12 266 "ProofHouseModel" "rulers" "[I", Cond.fieldLink RX12 269 "ProofHouseModel" "pathTerm" "[I", Cond.fieldLink RX12 272 "ProofHouseModel" "pathRuler" "[I"]
def wsX12_init_r5 : List Cond := [Cond.fieldLink RX12 275 "ProofHouseModel" "pathRulers" "[I", Cond.fieldLink RX12 278 "ProofHouseModel" "found" "[I", Cond.fieldLink RX12 281 "ProofHouseModel" "used" "[I", Cond.fieldLink RX12 284 "ProofHouseModel" "usedPairs" "[I", Cond.fieldLink RX12 287 "ProofHouseModel" "stepTerm" "[I", Cond.fieldLink RX12 290 "ProofHouseModel" "proof" "[I", Cond.fieldLink RX12 293 "ProofHouseModel" "proofPart" "[I", Cond.fieldLink RX12 296 "ProofHouseModel" "proofFrom" "[I", Cond.fieldLink RX12 299 "ProofHouseModel" "clause" "[I", Cond.fieldLink RX12 302 "ProofHouseModel" "clauseMany" "[I", Cond.methodLink RX12 305 yX12_said, Cond.instanceMethod yX12_said, Cond.selects RX12 yX12_said yX12_said, Cond.initialized RX12, Cond.code yX12_said cX12_said 10 none, Cond.fieldLink RX12 309 "ProofHouseModel" "wordSize" "I", Cond.methodLink RX12 312 yX12_spell, Cond.instanceMethod yX12_spell, Cond.selects RX12 yX12_spell yX12_spell, Cond.code yX12_spell cX12_spell 2 none, Cond.methodLink RX12 316 yX12_symbol, Cond.instanceMethod yX12_symbol, Cond.selects RX12 yX12_symbol yX12_symbol, Cond.code yX12_symbol cX12_symbol 3 (some .int)]
def wsX12_init_r6 : List Cond := [Cond.fieldLink RX12 346 "ProofHouseModel" "symbols" "I", Cond.methodLink RX12 328 yX12_spelled, Cond.instanceMethod yX12_spelled, Cond.selects RX12 yX12_spelled yX12_spelled, Cond.code yX12_spelled cX12_spelled 6 (some .int), Cond.methodLink RX12 342 yX12_isWord, Cond.instanceMethod yX12_isWord, Cond.selects RX12 yX12_isWord yX12_isWord, Cond.code yX12_isWord cX12_isWord 4 (some .boolean), Cond.methodLink RX12 335 yX12_added, Cond.instanceMethod yX12_added, Cond.selects RX12 yX12_added yX12_added, Cond.code yX12_added cX12_added 4 (some .int), Cond.fieldLink RX12 332 "ProofHouseModel" "objects" "I"]
def wsX12_init : List Cond := .code yX12_init cX12_init 2 none :: ((wsX12_init_r1 ++ (wsX12_init_r2 ++ (wsX12_init_r3 ++ (wsX12_init_r4 ++ (wsX12_init_r5 ++ wsX12_init_r6))))) ++ wsX120)
def wsX12_slot : List Cond := .code yX12_slot cX12_slot 2 (some .int) :: ([.constant RX12 320 (40503)])
def wsX12_isPair : List Cond := .code yX12_isPair cX12_isPair 2 (some .boolean) :: ([.fieldLink RX12 8 "ProofHouseModel" "left" "[I"] ++ wsX120)
def wsX12_isNatural : List Cond := .code yX12_isNatural cX12_isNatural 2 (some .boolean) :: ([.fieldLink RX12 8 "ProofHouseModel" "left" "[I"] ++ wsX120)
def wsX12_isSymbol : List Cond := .code yX12_isSymbol cX12_isSymbol 2 (some .boolean) :: ([.fieldLink RX12 8 "ProofHouseModel" "left" "[I"] ++ wsX120)
set_option maxRecDepth 20000 in
theorem ggX12_init_X12_said : GoodIn wsX12_init wsX12_said := goodIn_r _ [111, 112, 113, 114, 115, 110, 116, 21, 117, 118, 119, 120, 14, 6, 7, 8, 17, 121, 16, 122, 123, 124, 125, 126, 127, 128, 129, 130, 131, 132, 133, 134, 9, 10, 135, 136, 137, 138, 139, 140, 141, 142, 143, 144, 145, 146, 147, 148, 149, 150, 151, 152, 153, 154, 155, 156, 157, 158, 159, 160, 161, 162, 163, 164, 165, 166, 167, 168, 169, 170, 171, 172, 173, 174, 175, 176, 177, 178, 179, 180, 181, 182, 183, 184, 185, 186, 187, 188, 189, 190, 191, 192, 193, 194, 195, 196, 197, 198, 199, 200, 201, 202, 203, 204, 205, 206, 207, 208, 209, 210, 211, 212, 213, 214, 215, 216, 217, 218, 219, 220, 221, 222, 223, 224, 225, 226, 227, 228, 229, 230, 231, 232, 233, 234, 235, 236, 237, 238, 239, 240, 241, 242, 243, 244, 245, 246, 247, 248, 249, 250, 251, 252, 253, 254, 255, 256, 257, 258, 259, 260, 261, 262, 263, 264, 265, 266, 267, 268, 269, 270, 271, 272, 273, 274, 275, 276, 277, 278, 279, 280, 281, 282, 283] (by decide +kernel) (by decide +kernel)
set_option maxRecDepth 20000 in
theorem gX12_init_X12_said : GoodIn wsX12_init (wsV RX12 305 RX12 yX12_said wsX12_said) := goodIn_app (goodIn_of _ (by decide +kernel)) ggX12_init_X12_said
theorem dX12_init_0 : decode cX12_init 0 = .ok (.aload_n 0, 1) := by decide +kernel
theorem dX12_init_1 : decode cX12_init 1 = .ok (.invokespecial 1, 3) := by decide +kernel
theorem dX12_init_4 : decode cX12_init 4 = .ok (.aload_n 0, 1) := by decide +kernel
theorem dX12_init_5 : decode cX12_init 5 = .ok (.ldc 7, 2) := by decide +kernel
theorem dX12_init_7 : decode cX12_init 7 = .ok (.newarray .int, 2) := by decide +kernel
theorem dX12_init_9 : decode cX12_init 9 = .ok (.putfield 8, 3) := by decide +kernel
theorem dX12_init_12 : decode cX12_init 12 = .ok (.aload_n 0, 1) := by decide +kernel
theorem dX12_init_13 : decode cX12_init 13 = .ok (.ldc 7, 2) := by decide +kernel
theorem dX12_init_15 : decode cX12_init 15 = .ok (.newarray .int, 2) := by decide +kernel
theorem dX12_init_17 : decode cX12_init 17 = .ok (.putfield 14, 3) := by decide +kernel
theorem dX12_init_20 : decode cX12_init 20 = .ok (.aload_n 0, 1) := by decide +kernel
theorem dX12_init_21 : decode cX12_init 21 = .ok (.ldc 7, 2) := by decide +kernel
theorem dX12_init_23 : decode cX12_init 23 = .ok (.newarray .int, 2) := by decide +kernel
theorem dX12_init_25 : decode cX12_init 25 = .ok (.putfield 17, 3) := by decide +kernel
theorem dX12_init_28 : decode cX12_init 28 = .ok (.aload_n 0, 1) := by decide +kernel
theorem dX12_init_29 : decode cX12_init 29 = .ok (.ldc 7, 2) := by decide +kernel
theorem dX12_init_31 : decode cX12_init 31 = .ok (.newarray .int, 2) := by decide +kernel
theorem dX12_init_33 : decode cX12_init 33 = .ok (.putfield 20, 3) := by decide +kernel
theorem dX12_init_36 : decode cX12_init 36 = .ok (.aload_n 0, 1) := by decide +kernel
theorem dX12_init_37 : decode cX12_init 37 = .ok (.ldc 7, 2) := by decide +kernel
theorem dX12_init_39 : decode cX12_init 39 = .ok (.newarray .int, 2) := by decide +kernel
theorem dX12_init_41 : decode cX12_init 41 = .ok (.putfield 23, 3) := by decide +kernel
theorem dX12_init_44 : decode cX12_init 44 = .ok (.aload_n 0, 1) := by decide +kernel
theorem dX12_init_45 : decode cX12_init 45 = .ok (.ldc 26, 2) := by decide +kernel
theorem dX12_init_47 : decode cX12_init 47 = .ok (.newarray .long, 2) := by decide +kernel
theorem dX12_init_49 : decode cX12_init 49 = .ok (.putfield 27, 3) := by decide +kernel
theorem dX12_init_52 : decode cX12_init 52 = .ok (.aload_n 0, 1) := by decide +kernel
theorem dX12_init_53 : decode cX12_init 53 = .ok (.sipush 8192, 3) := by decide +kernel
theorem dX12_init_56 : decode cX12_init 56 = .ok (.newarray .int, 2) := by decide +kernel
theorem dX12_init_58 : decode cX12_init 58 = .ok (.putfield 31, 3) := by decide +kernel
theorem dX12_init_61 : decode cX12_init 61 = .ok (.aload_n 0, 1) := by decide +kernel
theorem dX12_init_62 : decode cX12_init 62 = .ok (.ldc 34, 2) := by decide +kernel
theorem dX12_init_64 : decode cX12_init 64 = .ok (.newarray .int, 2) := by decide +kernel
theorem dX12_init_66 : decode cX12_init 66 = .ok (.putfield 35, 3) := by decide +kernel
theorem dX12_init_69 : decode cX12_init 69 = .ok (.aload_n 0, 1) := by decide +kernel
theorem dX12_init_70 : decode cX12_init 70 = .ok (.sipush 21000, 3) := by decide +kernel
theorem dX12_init_73 : decode cX12_init 73 = .ok (.newarray .int, 2) := by decide +kernel
theorem dX12_init_75 : decode cX12_init 75 = .ok (.putfield 38, 3) := by decide +kernel
theorem dX12_init_78 : decode cX12_init 78 = .ok (.aload_n 0, 1) := by decide +kernel
theorem dX12_init_79 : decode cX12_init 79 = .ok (.bipush 20, 2) := by decide +kernel
theorem dX12_init_81 : decode cX12_init 81 = .ok (.newarray .int, 2) := by decide +kernel
theorem dX12_init_83 : decode cX12_init 83 = .ok (.putfield 41, 3) := by decide +kernel
theorem dX12_init_86 : decode cX12_init 86 = .ok (.aload_n 0, 1) := by decide +kernel
theorem dX12_init_87 : decode cX12_init 87 = .ok (.sipush 3000, 3) := by decide +kernel
theorem dX12_init_90 : decode cX12_init 90 = .ok (.newarray .int, 2) := by decide +kernel
theorem dX12_init_92 : decode cX12_init 92 = .ok (.putfield 44, 3) := by decide +kernel
theorem dX12_init_95 : decode cX12_init 95 = .ok (.aload_n 0, 1) := by decide +kernel
theorem dX12_init_96 : decode cX12_init 96 = .ok (.sipush 2000, 3) := by decide +kernel
theorem dX12_init_99 : decode cX12_init 99 = .ok (.newarray .int, 2) := by decide +kernel
theorem dX12_init_101 : decode cX12_init 101 = .ok (.putfield 47, 3) := by decide +kernel
theorem dX12_init_104 : decode cX12_init 104 = .ok (.aload_n 0, 1) := by decide +kernel
theorem dX12_init_105 : decode cX12_init 105 = .ok (.bipush 12, 2) := by decide +kernel
theorem dX12_init_107 : decode cX12_init 107 = .ok (.newarray .int, 2) := by decide +kernel
theorem dX12_init_109 : decode cX12_init 109 = .ok (.putfield 50, 3) := by decide +kernel
theorem dX12_init_112 : decode cX12_init 112 = .ok (.aload_n 0, 1) := by decide +kernel
theorem dX12_init_113 : decode cX12_init 113 = .ok (.sipush 4000, 3) := by decide +kernel
theorem dX12_init_116 : decode cX12_init 116 = .ok (.newarray .int, 2) := by decide +kernel
theorem dX12_init_118 : decode cX12_init 118 = .ok (.putfield 53, 3) := by decide +kernel
theorem dX12_init_121 : decode cX12_init 121 = .ok (.aload_n 0, 1) := by decide +kernel
theorem dX12_init_122 : decode cX12_init 122 = .ok (.sipush 200, 3) := by decide +kernel
theorem dX12_init_125 : decode cX12_init 125 = .ok (.newarray .int, 2) := by decide +kernel
theorem dX12_init_127 : decode cX12_init 127 = .ok (.putfield 56, 3) := by decide +kernel
theorem dX12_init_130 : decode cX12_init 130 = .ok (.aload_n 0, 1) := by decide +kernel
theorem dX12_init_131 : decode cX12_init 131 = .ok (.iconst (-1), 1) := by decide +kernel
theorem dX12_init_132 : decode cX12_init 132 = .ok (.putfield 59, 3) := by decide +kernel
theorem dX12_init_135 : decode cX12_init 135 = .ok (.aload_n 0, 1) := by decide +kernel
theorem dX12_init_136 : decode cX12_init 136 = .ok (.bipush 40, 2) := by decide +kernel
theorem dX12_init_138 : decode cX12_init 138 = .ok (.newarray .int, 2) := by decide +kernel
theorem dX12_init_140 : decode cX12_init 140 = .ok (.putfield 63, 3) := by decide +kernel
theorem dX12_init_143 : decode cX12_init 143 = .ok (.aload_n 0, 1) := by decide +kernel
theorem dX12_init_144 : decode cX12_init 144 = .ok (.bipush 40, 2) := by decide +kernel
theorem dX12_init_146 : decode cX12_init 146 = .ok (.newarray .int, 2) := by decide +kernel
theorem dX12_init_148 : decode cX12_init 148 = .ok (.putfield 66, 3) := by decide +kernel
theorem dX12_init_151 : decode cX12_init 151 = .ok (.aload_n 0, 1) := by decide +kernel
theorem dX12_init_152 : decode cX12_init 152 = .ok (.bipush 40, 2) := by decide +kernel
theorem dX12_init_154 : decode cX12_init 154 = .ok (.newarray .int, 2) := by decide +kernel
theorem dX12_init_156 : decode cX12_init 156 = .ok (.putfield 69, 3) := by decide +kernel
theorem dX12_init_159 : decode cX12_init 159 = .ok (.aload_n 0, 1) := by decide +kernel
theorem dX12_init_160 : decode cX12_init 160 = .ok (.bipush 40, 2) := by decide +kernel
theorem dX12_init_162 : decode cX12_init 162 = .ok (.newarray .int, 2) := by decide +kernel
theorem dX12_init_164 : decode cX12_init 164 = .ok (.putfield 72, 3) := by decide +kernel
theorem dX12_init_167 : decode cX12_init 167 = .ok (.aload_n 0, 1) := by decide +kernel
theorem dX12_init_168 : decode cX12_init 168 = .ok (.sipush 1100, 3) := by decide +kernel
theorem dX12_init_171 : decode cX12_init 171 = .ok (.newarray .int, 2) := by decide +kernel
theorem dX12_init_173 : decode cX12_init 173 = .ok (.putfield 75, 3) := by decide +kernel
theorem dX12_init_176 : decode cX12_init 176 = .ok (.aload_n 0, 1) := by decide +kernel
theorem dX12_init_177 : decode cX12_init 177 = .ok (.bipush 40, 2) := by decide +kernel
theorem dX12_init_179 : decode cX12_init 179 = .ok (.newarray .int, 2) := by decide +kernel
theorem dX12_init_181 : decode cX12_init 181 = .ok (.putfield 78, 3) := by decide +kernel
theorem dX12_init_184 : decode cX12_init 184 = .ok (.aload_n 0, 1) := by decide +kernel
theorem dX12_init_185 : decode cX12_init 185 = .ok (.bipush 40, 2) := by decide +kernel
theorem dX12_init_187 : decode cX12_init 187 = .ok (.newarray .int, 2) := by decide +kernel
theorem dX12_init_189 : decode cX12_init 189 = .ok (.putfield 81, 3) := by decide +kernel
theorem dX12_init_192 : decode cX12_init 192 = .ok (.aload_n 0, 1) := by decide +kernel
theorem dX12_init_193 : decode cX12_init 193 = .ok (.sipush 240, 3) := by decide +kernel
theorem dX12_init_196 : decode cX12_init 196 = .ok (.newarray .int, 2) := by decide +kernel
theorem dX12_init_198 : decode cX12_init 198 = .ok (.putfield 84, 3) := by decide +kernel
theorem dX12_init_201 : decode cX12_init 201 = .ok (.aload_n 0, 1) := by decide +kernel
theorem dX12_init_202 : decode cX12_init 202 = .ok (.bipush 40, 2) := by decide +kernel
theorem dX12_init_204 : decode cX12_init 204 = .ok (.newarray .int, 2) := by decide +kernel
theorem dX12_init_206 : decode cX12_init 206 = .ok (.putfield 87, 3) := by decide +kernel
theorem dX12_init_209 : decode cX12_init 209 = .ok (.aload_n 0, 1) := by decide +kernel
theorem dX12_init_210 : decode cX12_init 210 = .ok (.bipush 40, 2) := by decide +kernel
theorem dX12_init_212 : decode cX12_init 212 = .ok (.newarray .int, 2) := by decide +kernel
theorem dX12_init_214 : decode cX12_init 214 = .ok (.putfield 90, 3) := by decide +kernel
theorem dX12_init_217 : decode cX12_init 217 = .ok (.aload_n 0, 1) := by decide +kernel
theorem dX12_init_218 : decode cX12_init 218 = .ok (.bipush 40, 2) := by decide +kernel
theorem dX12_init_220 : decode cX12_init 220 = .ok (.newarray .boolean, 2) := by decide +kernel
theorem dX12_init_222 : decode cX12_init 222 = .ok (.putfield 93, 3) := by decide +kernel
theorem dX12_init_225 : decode cX12_init 225 = .ok (.aload_n 0, 1) := by decide +kernel
theorem dX12_init_226 : decode cX12_init 226 = .ok (.bipush 60, 2) := by decide +kernel
theorem dX12_init_228 : decode cX12_init 228 = .ok (.newarray .int, 2) := by decide +kernel
theorem dX12_init_230 : decode cX12_init 230 = .ok (.putfield 97, 3) := by decide +kernel
theorem dX12_init_233 : decode cX12_init 233 = .ok (.aload_n 0, 1) := by decide +kernel
theorem dX12_init_234 : decode cX12_init 234 = .ok (.bipush 60, 2) := by decide +kernel
theorem dX12_init_236 : decode cX12_init 236 = .ok (.newarray .int, 2) := by decide +kernel
theorem dX12_init_238 : decode cX12_init 238 = .ok (.putfield 100, 3) := by decide +kernel
theorem dX12_init_241 : decode cX12_init 241 = .ok (.aload_n 0, 1) := by decide +kernel
theorem dX12_init_242 : decode cX12_init 242 = .ok (.bipush 60, 2) := by decide +kernel
theorem dX12_init_244 : decode cX12_init 244 = .ok (.newarray .int, 2) := by decide +kernel
theorem dX12_init_246 : decode cX12_init 246 = .ok (.putfield 103, 3) := by decide +kernel
theorem dX12_init_249 : decode cX12_init 249 = .ok (.aload_n 0, 1) := by decide +kernel
theorem dX12_init_250 : decode cX12_init 250 = .ok (.bipush 60, 2) := by decide +kernel
theorem dX12_init_252 : decode cX12_init 252 = .ok (.newarray .int, 2) := by decide +kernel
theorem dX12_init_254 : decode cX12_init 254 = .ok (.putfield 106, 3) := by decide +kernel
theorem dX12_init_257 : decode cX12_init 257 = .ok (.aload_n 0, 1) := by decide +kernel
theorem dX12_init_258 : decode cX12_init 258 = .ok (.bipush 60, 2) := by decide +kernel
theorem dX12_init_260 : decode cX12_init 260 = .ok (.newarray .int, 2) := by decide +kernel
theorem dX12_init_262 : decode cX12_init 262 = .ok (.putfield 109, 3) := by decide +kernel
theorem dX12_init_265 : decode cX12_init 265 = .ok (.aload_n 0, 1) := by decide +kernel
theorem dX12_init_266 : decode cX12_init 266 = .ok (.bipush 60, 2) := by decide +kernel
theorem dX12_init_268 : decode cX12_init 268 = .ok (.newarray .int, 2) := by decide +kernel
theorem dX12_init_270 : decode cX12_init 270 = .ok (.putfield 112, 3) := by decide +kernel
theorem dX12_init_273 : decode cX12_init 273 = .ok (.aload_n 0, 1) := by decide +kernel
theorem dX12_init_274 : decode cX12_init 274 = .ok (.sipush 7200, 3) := by decide +kernel
theorem dX12_init_277 : decode cX12_init 277 = .ok (.newarray .int, 2) := by decide +kernel
theorem dX12_init_279 : decode cX12_init 279 = .ok (.putfield 115, 3) := by decide +kernel
theorem dX12_init_282 : decode cX12_init 282 = .ok (.aload_n 0, 1) := by decide +kernel
theorem dX12_init_283 : decode cX12_init 283 = .ok (.bipush 60, 2) := by decide +kernel
theorem dX12_init_285 : decode cX12_init 285 = .ok (.newarray .boolean, 2) := by decide +kernel
theorem dX12_init_287 : decode cX12_init 287 = .ok (.putfield 118, 3) := by decide +kernel
theorem dX12_init_290 : decode cX12_init 290 = .ok (.aload_n 0, 1) := by decide +kernel
theorem dX12_init_291 : decode cX12_init 291 = .ok (.bipush 60, 2) := by decide +kernel
theorem dX12_init_293 : decode cX12_init 293 = .ok (.newarray .boolean, 2) := by decide +kernel
theorem dX12_init_295 : decode cX12_init 295 = .ok (.putfield 121, 3) := by decide +kernel
theorem dX12_init_298 : decode cX12_init 298 = .ok (.aload_n 0, 1) := by decide +kernel
theorem dX12_init_299 : decode cX12_init 299 = .ok (.bipush 60, 2) := by decide +kernel
theorem dX12_init_301 : decode cX12_init 301 = .ok (.newarray .boolean, 2) := by decide +kernel
theorem dX12_init_303 : decode cX12_init 303 = .ok (.putfield 124, 3) := by decide +kernel
theorem dX12_init_306 : decode cX12_init 306 = .ok (.aload_n 0, 1) := by decide +kernel
theorem dX12_init_307 : decode cX12_init 307 = .ok (.bipush 60, 2) := by decide +kernel
theorem dX12_init_309 : decode cX12_init 309 = .ok (.newarray .boolean, 2) := by decide +kernel
theorem dX12_init_311 : decode cX12_init 311 = .ok (.putfield 127, 3) := by decide +kernel
theorem dX12_init_314 : decode cX12_init 314 = .ok (.aload_n 0, 1) := by decide +kernel
theorem dX12_init_315 : decode cX12_init 315 = .ok (.bipush 100, 2) := by decide +kernel
theorem dX12_init_317 : decode cX12_init 317 = .ok (.newarray .int, 2) := by decide +kernel
theorem dX12_init_319 : decode cX12_init 319 = .ok (.putfield 130, 3) := by decide +kernel
theorem dX12_init_322 : decode cX12_init 322 = .ok (.aload_n 0, 1) := by decide +kernel
theorem dX12_init_323 : decode cX12_init 323 = .ok (.bipush 100, 2) := by decide +kernel
theorem dX12_init_325 : decode cX12_init 325 = .ok (.newarray .int, 2) := by decide +kernel
theorem dX12_init_327 : decode cX12_init 327 = .ok (.putfield 133, 3) := by decide +kernel
theorem dX12_init_330 : decode cX12_init 330 = .ok (.aload_n 0, 1) := by decide +kernel
theorem dX12_init_331 : decode cX12_init 331 = .ok (.iconst (-1), 1) := by decide +kernel
theorem dX12_init_332 : decode cX12_init 332 = .ok (.putfield 136, 3) := by decide +kernel
theorem dX12_init_335 : decode cX12_init 335 = .ok (.aload_n 0, 1) := by decide +kernel
theorem dX12_init_336 : decode cX12_init 336 = .ok (.sipush 1000, 3) := by decide +kernel
theorem dX12_init_339 : decode cX12_init 339 = .ok (.putfield 139, 3) := by decide +kernel
theorem dX12_init_342 : decode cX12_init 342 = .ok (.aload_n 0, 1) := by decide +kernel
theorem dX12_init_343 : decode cX12_init 343 = .ok (.sipush 200, 3) := by decide +kernel
theorem dX12_init_346 : decode cX12_init 346 = .ok (.newarray .int, 2) := by decide +kernel
theorem dX12_init_348 : decode cX12_init 348 = .ok (.putfield 142, 3) := by decide +kernel
theorem dX12_init_351 : decode cX12_init 351 = .ok (.aload_n 0, 1) := by decide +kernel
theorem dX12_init_352 : decode cX12_init 352 = .ok (.sipush 1200, 3) := by decide +kernel
theorem dX12_init_355 : decode cX12_init 355 = .ok (.newarray .int, 2) := by decide +kernel
theorem dX12_init_357 : decode cX12_init 357 = .ok (.putfield 145, 3) := by decide +kernel
theorem dX12_init_360 : decode cX12_init 360 = .ok (.aload_n 0, 1) := by decide +kernel
theorem dX12_init_361 : decode cX12_init 361 = .ok (.sipush 1200, 3) := by decide +kernel
theorem dX12_init_364 : decode cX12_init 364 = .ok (.newarray .int, 2) := by decide +kernel
theorem dX12_init_366 : decode cX12_init 366 = .ok (.putfield 148, 3) := by decide +kernel
theorem dX12_init_369 : decode cX12_init 369 = .ok (.aload_n 0, 1) := by decide +kernel
theorem dX12_init_370 : decode cX12_init 370 = .ok (.sipush 1200, 3) := by decide +kernel
theorem dX12_init_373 : decode cX12_init 373 = .ok (.newarray .int, 2) := by decide +kernel
theorem dX12_init_375 : decode cX12_init 375 = .ok (.putfield 151, 3) := by decide +kernel
theorem dX12_init_378 : decode cX12_init 378 = .ok (.aload_n 0, 1) := by decide +kernel
theorem dX12_init_379 : decode cX12_init 379 = .ok (.sipush 2400, 3) := by decide +kernel
theorem dX12_init_382 : decode cX12_init 382 = .ok (.newarray .int, 2) := by decide +kernel
theorem dX12_init_384 : decode cX12_init 384 = .ok (.putfield 154, 3) := by decide +kernel
theorem dX12_init_387 : decode cX12_init 387 = .ok (.aload_n 0, 1) := by decide +kernel
theorem dX12_init_388 : decode cX12_init 388 = .ok (.sipush 400, 3) := by decide +kernel
theorem dX12_init_391 : decode cX12_init 391 = .ok (.newarray .int, 2) := by decide +kernel
theorem dX12_init_393 : decode cX12_init 393 = .ok (.putfield 157, 3) := by decide +kernel
theorem dX12_init_396 : decode cX12_init 396 = .ok (.aload_n 0, 1) := by decide +kernel
theorem dX12_init_397 : decode cX12_init 397 = .ok (.sipush 400, 3) := by decide +kernel
theorem dX12_init_400 : decode cX12_init 400 = .ok (.newarray .int, 2) := by decide +kernel
theorem dX12_init_402 : decode cX12_init 402 = .ok (.putfield 160, 3) := by decide +kernel
theorem dX12_init_405 : decode cX12_init 405 = .ok (.aload_n 0, 1) := by decide +kernel
theorem dX12_init_406 : decode cX12_init 406 = .ok (.sipush 400, 3) := by decide +kernel
theorem dX12_init_409 : decode cX12_init 409 = .ok (.newarray .int, 2) := by decide +kernel
theorem dX12_init_411 : decode cX12_init 411 = .ok (.putfield 163, 3) := by decide +kernel
theorem dX12_init_414 : decode cX12_init 414 = .ok (.aload_n 0, 1) := by decide +kernel
theorem dX12_init_415 : decode cX12_init 415 = .ok (.sipush 130, 3) := by decide +kernel
theorem dX12_init_418 : decode cX12_init 418 = .ok (.newarray .int, 2) := by decide +kernel
theorem dX12_init_420 : decode cX12_init 420 = .ok (.putfield 166, 3) := by decide +kernel
theorem dX12_init_423 : decode cX12_init 423 = .ok (.aload_n 0, 1) := by decide +kernel
theorem dX12_init_424 : decode cX12_init 424 = .ok (.sipush 300, 3) := by decide +kernel
theorem dX12_init_427 : decode cX12_init 427 = .ok (.newarray .int, 2) := by decide +kernel
theorem dX12_init_429 : decode cX12_init 429 = .ok (.putfield 169, 3) := by decide +kernel
theorem dX12_init_432 : decode cX12_init 432 = .ok (.aload_n 0, 1) := by decide +kernel
theorem dX12_init_433 : decode cX12_init 433 = .ok (.sipush 300, 3) := by decide +kernel
theorem dX12_init_436 : decode cX12_init 436 = .ok (.newarray .int, 2) := by decide +kernel
theorem dX12_init_438 : decode cX12_init 438 = .ok (.putfield 172, 3) := by decide +kernel
theorem dX12_init_441 : decode cX12_init 441 = .ok (.aload_n 0, 1) := by decide +kernel
theorem dX12_init_442 : decode cX12_init 442 = .ok (.sipush 300, 3) := by decide +kernel
theorem dX12_init_445 : decode cX12_init 445 = .ok (.newarray .int, 2) := by decide +kernel
theorem dX12_init_447 : decode cX12_init 447 = .ok (.putfield 175, 3) := by decide +kernel
theorem dX12_init_450 : decode cX12_init 450 = .ok (.aload_n 0, 1) := by decide +kernel
theorem dX12_init_451 : decode cX12_init 451 = .ok (.sipush 300, 3) := by decide +kernel
theorem dX12_init_454 : decode cX12_init 454 = .ok (.newarray .int, 2) := by decide +kernel
theorem dX12_init_456 : decode cX12_init 456 = .ok (.putfield 178, 3) := by decide +kernel
theorem dX12_init_459 : decode cX12_init 459 = .ok (.aload_n 0, 1) := by decide +kernel
theorem dX12_init_460 : decode cX12_init 460 = .ok (.sipush 300, 3) := by decide +kernel
theorem dX12_init_463 : decode cX12_init 463 = .ok (.newarray .int, 2) := by decide +kernel
theorem dX12_init_465 : decode cX12_init 465 = .ok (.putfield 181, 3) := by decide +kernel
theorem dX12_init_468 : decode cX12_init 468 = .ok (.aload_n 0, 1) := by decide +kernel
theorem dX12_init_469 : decode cX12_init 469 = .ok (.sipush 300, 3) := by decide +kernel
theorem dX12_init_472 : decode cX12_init 472 = .ok (.newarray .boolean, 2) := by decide +kernel
theorem dX12_init_474 : decode cX12_init 474 = .ok (.putfield 184, 3) := by decide +kernel
theorem dX12_init_477 : decode cX12_init 477 = .ok (.aload_n 0, 1) := by decide +kernel
theorem dX12_init_478 : decode cX12_init 478 = .ok (.sipush 2400, 3) := by decide +kernel
theorem dX12_init_481 : decode cX12_init 481 = .ok (.newarray .int, 2) := by decide +kernel
theorem dX12_init_483 : decode cX12_init 483 = .ok (.putfield 187, 3) := by decide +kernel
theorem dX12_init_486 : decode cX12_init 486 = .ok (.aload_n 0, 1) := by decide +kernel
theorem dX12_init_487 : decode cX12_init 487 = .ok (.bipush 60, 2) := by decide +kernel
theorem dX12_init_489 : decode cX12_init 489 = .ok (.newarray .int, 2) := by decide +kernel
theorem dX12_init_491 : decode cX12_init 491 = .ok (.putfield 190, 3) := by decide +kernel
theorem dX12_init_494 : decode cX12_init 494 = .ok (.aload_n 0, 1) := by decide +kernel
theorem dX12_init_495 : decode cX12_init 495 = .ok (.bipush 60, 2) := by decide +kernel
theorem dX12_init_497 : decode cX12_init 497 = .ok (.newarray .boolean, 2) := by decide +kernel
theorem dX12_init_499 : decode cX12_init 499 = .ok (.putfield 193, 3) := by decide +kernel
theorem dX12_init_502 : decode cX12_init 502 = .ok (.aload_n 0, 1) := by decide +kernel
theorem dX12_init_503 : decode cX12_init 503 = .ok (.bipush 60, 2) := by decide +kernel
theorem dX12_init_505 : decode cX12_init 505 = .ok (.newarray .int, 2) := by decide +kernel
theorem dX12_init_507 : decode cX12_init 507 = .ok (.putfield 196, 3) := by decide +kernel
theorem dX12_init_510 : decode cX12_init 510 = .ok (.aload_n 0, 1) := by decide +kernel
theorem dX12_init_511 : decode cX12_init 511 = .ok (.bipush 60, 2) := by decide +kernel
theorem dX12_init_513 : decode cX12_init 513 = .ok (.newarray .int, 2) := by decide +kernel
theorem dX12_init_515 : decode cX12_init 515 = .ok (.putfield 199, 3) := by decide +kernel
theorem dX12_init_518 : decode cX12_init 518 = .ok (.aload_n 0, 1) := by decide +kernel
theorem dX12_init_519 : decode cX12_init 519 = .ok (.bipush 60, 2) := by decide +kernel
theorem dX12_init_521 : decode cX12_init 521 = .ok (.newarray .int, 2) := by decide +kernel
theorem dX12_init_523 : decode cX12_init 523 = .ok (.putfield 202, 3) := by decide +kernel
theorem dX12_init_526 : decode cX12_init 526 = .ok (.aload_n 0, 1) := by decide +kernel
theorem dX12_init_527 : decode cX12_init 527 = .ok (.bipush 60, 2) := by decide +kernel
theorem dX12_init_529 : decode cX12_init 529 = .ok (.newarray .int, 2) := by decide +kernel
theorem dX12_init_531 : decode cX12_init 531 = .ok (.putfield 205, 3) := by decide +kernel
theorem dX12_init_534 : decode cX12_init 534 = .ok (.aload_n 0, 1) := by decide +kernel
theorem dX12_init_535 : decode cX12_init 535 = .ok (.bipush 60, 2) := by decide +kernel
theorem dX12_init_537 : decode cX12_init 537 = .ok (.newarray .int, 2) := by decide +kernel
theorem dX12_init_539 : decode cX12_init 539 = .ok (.putfield 208, 3) := by decide +kernel
theorem dX12_init_542 : decode cX12_init 542 = .ok (.aload_n 0, 1) := by decide +kernel
theorem dX12_init_543 : decode cX12_init 543 = .ok (.bipush 60, 2) := by decide +kernel
theorem dX12_init_545 : decode cX12_init 545 = .ok (.newarray .int, 2) := by decide +kernel
theorem dX12_init_547 : decode cX12_init 547 = .ok (.putfield 211, 3) := by decide +kernel
theorem dX12_init_550 : decode cX12_init 550 = .ok (.aload_n 0, 1) := by decide +kernel
theorem dX12_init_551 : decode cX12_init 551 = .ok (.bipush 60, 2) := by decide +kernel
theorem dX12_init_553 : decode cX12_init 553 = .ok (.newarray .int, 2) := by decide +kernel
theorem dX12_init_555 : decode cX12_init 555 = .ok (.putfield 214, 3) := by decide +kernel
theorem dX12_init_558 : decode cX12_init 558 = .ok (.aload_n 0, 1) := by decide +kernel
theorem dX12_init_559 : decode cX12_init 559 = .ok (.bipush 60, 2) := by decide +kernel
theorem dX12_init_561 : decode cX12_init 561 = .ok (.newarray .int, 2) := by decide +kernel
theorem dX12_init_563 : decode cX12_init 563 = .ok (.putfield 217, 3) := by decide +kernel
theorem dX12_init_566 : decode cX12_init 566 = .ok (.aload_n 0, 1) := by decide +kernel
theorem dX12_init_567 : decode cX12_init 567 = .ok (.sipush 1200, 3) := by decide +kernel
theorem dX12_init_570 : decode cX12_init 570 = .ok (.newarray .int, 2) := by decide +kernel
theorem dX12_init_572 : decode cX12_init 572 = .ok (.putfield 220, 3) := by decide +kernel
theorem dX12_init_575 : decode cX12_init 575 = .ok (.aload_n 0, 1) := by decide +kernel
theorem dX12_init_576 : decode cX12_init 576 = .ok (.sipush 7800, 3) := by decide +kernel
theorem dX12_init_579 : decode cX12_init 579 = .ok (.newarray .int, 2) := by decide +kernel
theorem dX12_init_581 : decode cX12_init 581 = .ok (.putfield 223, 3) := by decide +kernel
theorem dX12_init_584 : decode cX12_init 584 = .ok (.aload_n 0, 1) := by decide +kernel
theorem dX12_init_585 : decode cX12_init 585 = .ok (.sipush 7800, 3) := by decide +kernel
theorem dX12_init_588 : decode cX12_init 588 = .ok (.newarray .int, 2) := by decide +kernel
theorem dX12_init_590 : decode cX12_init 590 = .ok (.putfield 226, 3) := by decide +kernel
theorem dX12_init_593 : decode cX12_init 593 = .ok (.aload_n 0, 1) := by decide +kernel
theorem dX12_init_594 : decode cX12_init 594 = .ok (.bipush 60, 2) := by decide +kernel
theorem dX12_init_596 : decode cX12_init 596 = .ok (.newarray .int, 2) := by decide +kernel
theorem dX12_init_598 : decode cX12_init 598 = .ok (.putfield 229, 3) := by decide +kernel
theorem dX12_init_601 : decode cX12_init 601 = .ok (.aload_n 0, 1) := by decide +kernel
theorem dX12_init_602 : decode cX12_init 602 = .ok (.sipush 200, 3) := by decide +kernel
theorem dX12_init_605 : decode cX12_init 605 = .ok (.newarray .int, 2) := by decide +kernel
theorem dX12_init_607 : decode cX12_init 607 = .ok (.putfield 232, 3) := by decide +kernel
theorem dX12_init_610 : decode cX12_init 610 = .ok (.aload_n 0, 1) := by decide +kernel
theorem dX12_init_611 : decode cX12_init 611 = .ok (.sipush 800, 3) := by decide +kernel
theorem dX12_init_614 : decode cX12_init 614 = .ok (.newarray .int, 2) := by decide +kernel
theorem dX12_init_616 : decode cX12_init 616 = .ok (.putfield 235, 3) := by decide +kernel
theorem dX12_init_619 : decode cX12_init 619 = .ok (.aload_n 0, 1) := by decide +kernel
theorem dX12_init_620 : decode cX12_init 620 = .ok (.sipush 800, 3) := by decide +kernel
theorem dX12_init_623 : decode cX12_init 623 = .ok (.newarray .int, 2) := by decide +kernel
theorem dX12_init_625 : decode cX12_init 625 = .ok (.putfield 238, 3) := by decide +kernel
theorem dX12_init_628 : decode cX12_init 628 = .ok (.aload_n 0, 1) := by decide +kernel
theorem dX12_init_629 : decode cX12_init 629 = .ok (.ldc 241, 2) := by decide +kernel
theorem dX12_init_631 : decode cX12_init 631 = .ok (.newarray .int, 2) := by decide +kernel
theorem dX12_init_633 : decode cX12_init 633 = .ok (.putfield 242, 3) := by decide +kernel
theorem dX12_init_636 : decode cX12_init 636 = .ok (.aload_n 0, 1) := by decide +kernel
theorem dX12_init_637 : decode cX12_init 637 = .ok (.sipush 2300, 3) := by decide +kernel
theorem dX12_init_640 : decode cX12_init 640 = .ok (.newarray .int, 2) := by decide +kernel
theorem dX12_init_642 : decode cX12_init 642 = .ok (.putfield 245, 3) := by decide +kernel
theorem dX12_init_645 : decode cX12_init 645 = .ok (.aload_n 0, 1) := by decide +kernel
theorem dX12_init_646 : decode cX12_init 646 = .ok (.sipush 2300, 3) := by decide +kernel
theorem dX12_init_649 : decode cX12_init 649 = .ok (.newarray .int, 2) := by decide +kernel
theorem dX12_init_651 : decode cX12_init 651 = .ok (.putfield 248, 3) := by decide +kernel
theorem dX12_init_654 : decode cX12_init 654 = .ok (.aload_n 0, 1) := by decide +kernel
theorem dX12_init_655 : decode cX12_init 655 = .ok (.sipush 2300, 3) := by decide +kernel
theorem dX12_init_658 : decode cX12_init 658 = .ok (.newarray .int, 2) := by decide +kernel
theorem dX12_init_660 : decode cX12_init 660 = .ok (.putfield 251, 3) := by decide +kernel
theorem dX12_init_663 : decode cX12_init 663 = .ok (.aload_n 0, 1) := by decide +kernel
theorem dX12_init_664 : decode cX12_init 664 = .ok (.bipush 20, 2) := by decide +kernel
theorem dX12_init_666 : decode cX12_init 666 = .ok (.newarray .int, 2) := by decide +kernel
theorem dX12_init_668 : decode cX12_init 668 = .ok (.putfield 254, 3) := by decide +kernel
theorem dX12_init_671 : decode cX12_init 671 = .ok (.aload_n 0, 1) := by decide +kernel
theorem dX12_init_672 : decode cX12_init 672 = .ok (.sipush 1200, 3) := by decide +kernel
theorem dX12_init_675 : decode cX12_init 675 = .ok (.newarray .int, 2) := by decide +kernel
theorem dX12_init_677 : decode cX12_init 677 = .ok (.putfield 257, 3) := by decide +kernel
theorem dX12_init_680 : decode cX12_init 680 = .ok (.aload_n 0, 1) := by decide +kernel
theorem dX12_init_681 : decode cX12_init 681 = .ok (.sipush 128, 3) := by decide +kernel
theorem dX12_init_684 : decode cX12_init 684 = .ok (.newarray .int, 2) := by decide +kernel
theorem dX12_init_686 : decode cX12_init 686 = .ok (.putfield 260, 3) := by decide +kernel
theorem dX12_init_689 : decode cX12_init 689 = .ok (.aload_n 0, 1) := by decide +kernel
theorem dX12_init_690 : decode cX12_init 690 = .ok (.sipush 8192, 3) := by decide +kernel
theorem dX12_init_693 : decode cX12_init 693 = .ok (.newarray .int, 2) := by decide +kernel
theorem dX12_init_695 : decode cX12_init 695 = .ok (.putfield 263, 3) := by decide +kernel
theorem dX12_init_698 : decode cX12_init 698 = .ok (.aload_n 0, 1) := by decide +kernel
theorem dX12_init_699 : decode cX12_init 699 = .ok (.sipush 128, 3) := by decide +kernel
theorem dX12_init_702 : decode cX12_init 702 = .ok (.newarray .int, 2) := by decide +kernel
theorem dX12_init_704 : decode cX12_init 704 = .ok (.putfield 266, 3) := by decide +kernel
theorem dX12_init_707 : decode cX12_init 707 = .ok (.aload_n 0, 1) := by decide +kernel
theorem dX12_init_708 : decode cX12_init 708 = .ok (.sipush 128, 3) := by decide +kernel
theorem dX12_init_711 : decode cX12_init 711 = .ok (.newarray .int, 2) := by decide +kernel
theorem dX12_init_713 : decode cX12_init 713 = .ok (.putfield 269, 3) := by decide +kernel
theorem dX12_init_716 : decode cX12_init 716 = .ok (.aload_n 0, 1) := by decide +kernel
theorem dX12_init_717 : decode cX12_init 717 = .ok (.sipush 8192, 3) := by decide +kernel
theorem dX12_init_720 : decode cX12_init 720 = .ok (.newarray .int, 2) := by decide +kernel
theorem dX12_init_722 : decode cX12_init 722 = .ok (.putfield 272, 3) := by decide +kernel
theorem dX12_init_725 : decode cX12_init 725 = .ok (.aload_n 0, 1) := by decide +kernel
theorem dX12_init_726 : decode cX12_init 726 = .ok (.sipush 128, 3) := by decide +kernel
theorem dX12_init_729 : decode cX12_init 729 = .ok (.newarray .int, 2) := by decide +kernel
theorem dX12_init_731 : decode cX12_init 731 = .ok (.putfield 275, 3) := by decide +kernel
theorem dX12_init_734 : decode cX12_init 734 = .ok (.aload_n 0, 1) := by decide +kernel
theorem dX12_init_735 : decode cX12_init 735 = .ok (.sipush 130, 3) := by decide +kernel
theorem dX12_init_738 : decode cX12_init 738 = .ok (.newarray .int, 2) := by decide +kernel
theorem dX12_init_740 : decode cX12_init 740 = .ok (.putfield 278, 3) := by decide +kernel
theorem dX12_init_743 : decode cX12_init 743 = .ok (.aload_n 0, 1) := by decide +kernel
theorem dX12_init_744 : decode cX12_init 744 = .ok (.sipush 400, 3) := by decide +kernel
theorem dX12_init_747 : decode cX12_init 747 = .ok (.newarray .int, 2) := by decide +kernel
theorem dX12_init_749 : decode cX12_init 749 = .ok (.putfield 281, 3) := by decide +kernel
theorem dX12_init_752 : decode cX12_init 752 = .ok (.aload_n 0, 1) := by decide +kernel
theorem dX12_init_753 : decode cX12_init 753 = .ok (.sipush 400, 3) := by decide +kernel
theorem dX12_init_756 : decode cX12_init 756 = .ok (.newarray .int, 2) := by decide +kernel
theorem dX12_init_758 : decode cX12_init 758 = .ok (.putfield 284, 3) := by decide +kernel
theorem dX12_init_761 : decode cX12_init 761 = .ok (.aload_n 0, 1) := by decide +kernel
theorem dX12_init_762 : decode cX12_init 762 = .ok (.bipush 6, 2) := by decide +kernel
theorem dX12_init_764 : decode cX12_init 764 = .ok (.newarray .int, 2) := by decide +kernel
theorem dX12_init_766 : decode cX12_init 766 = .ok (.putfield 287, 3) := by decide +kernel
theorem dX12_init_769 : decode cX12_init 769 = .ok (.aload_n 0, 1) := by decide +kernel
theorem dX12_init_770 : decode cX12_init 770 = .ok (.bipush 40, 2) := by decide +kernel
theorem dX12_init_772 : decode cX12_init 772 = .ok (.newarray .int, 2) := by decide +kernel
theorem dX12_init_774 : decode cX12_init 774 = .ok (.putfield 290, 3) := by decide +kernel
theorem dX12_init_777 : decode cX12_init 777 = .ok (.aload_n 0, 1) := by decide +kernel
theorem dX12_init_778 : decode cX12_init 778 = .ok (.bipush 40, 2) := by decide +kernel
theorem dX12_init_780 : decode cX12_init 780 = .ok (.newarray .int, 2) := by decide +kernel
theorem dX12_init_782 : decode cX12_init 782 = .ok (.putfield 293, 3) := by decide +kernel
theorem dX12_init_785 : decode cX12_init 785 = .ok (.aload_n 0, 1) := by decide +kernel
theorem dX12_init_786 : decode cX12_init 786 = .ok (.bipush 40, 2) := by decide +kernel
theorem dX12_init_788 : decode cX12_init 788 = .ok (.newarray .int, 2) := by decide +kernel
theorem dX12_init_790 : decode cX12_init 790 = .ok (.putfield 296, 3) := by decide +kernel
theorem dX12_init_793 : decode cX12_init 793 = .ok (.aload_n 0, 1) := by decide +kernel
theorem dX12_init_794 : decode cX12_init 794 = .ok (.sipush 10500, 3) := by decide +kernel
theorem dX12_init_797 : decode cX12_init 797 = .ok (.newarray .int, 2) := by decide +kernel
theorem dX12_init_799 : decode cX12_init 799 = .ok (.putfield 299, 3) := by decide +kernel
theorem dX12_init_802 : decode cX12_init 802 = .ok (.aload_n 0, 1) := by decide +kernel
theorem dX12_init_803 : decode cX12_init 803 = .ok (.sipush 350, 3) := by decide +kernel
theorem dX12_init_806 : decode cX12_init 806 = .ok (.newarray .int, 2) := by decide +kernel
theorem dX12_init_808 : decode cX12_init 808 = .ok (.putfield 302, 3) := by decide +kernel
theorem dX12_init_811 : decode cX12_init 811 = .ok (.iconst 0, 1) := by decide +kernel
theorem dX12_init_812 : decode cX12_init 812 = .ok (.istore_n 1, 1) := by decide +kernel
theorem dX12_init_813 : decode cX12_init 813 = .ok (.iload_n 1, 1) := by decide +kernel
theorem dX12_init_814 : decode cX12_init 814 = .ok (.sipush 8192, 3) := by decide +kernel
theorem dX12_init_817 : decode cX12_init 817 = .ok (.if_icmp .ge 16, 3) := by decide +kernel
theorem dX12_init_820 : decode cX12_init 820 = .ok (.aload_n 0, 1) := by decide +kernel
theorem dX12_init_821 : decode cX12_init 821 = .ok (.getfield 31, 3) := by decide +kernel
theorem dX12_init_824 : decode cX12_init 824 = .ok (.iload_n 1, 1) := by decide +kernel
theorem dX12_init_825 : decode cX12_init 825 = .ok (.iconst (-1), 1) := by decide +kernel
theorem dX12_init_826 : decode cX12_init 826 = .ok (.iastore, 1) := by decide +kernel
theorem dX12_init_827 : decode cX12_init 827 = .ok (.iinc 1 1, 3) := by decide +kernel
theorem dX12_init_830 : decode cX12_init 830 = .ok (.goto (-17), 3) := by decide +kernel
theorem dX12_init_833 : decode cX12_init 833 = .ok (.aload_n 0, 1) := by decide +kernel
theorem dX12_init_834 : decode cX12_init 834 = .ok (.bipush 110, 2) := by decide +kernel
theorem dX12_init_836 : decode cX12_init 836 = .ok (.bipush 105, 2) := by decide +kernel
theorem dX12_init_838 : decode cX12_init 838 = .ok (.bipush 108, 2) := by decide +kernel
theorem dX12_init_840 : decode cX12_init 840 = .ok (.iconst 0, 1) := by decide +kernel
theorem dX12_init_841 : decode cX12_init 841 = .ok (.iconst 0, 1) := by decide +kernel
theorem dX12_init_842 : decode cX12_init 842 = .ok (.iconst 0, 1) := by decide +kernel
theorem dX12_init_843 : decode cX12_init 843 = .ok (.iconst 0, 1) := by decide +kernel
theorem dX12_init_844 : decode cX12_init 844 = .ok (.iconst 0, 1) := by decide +kernel
theorem dX12_init_845 : decode cX12_init 845 = .ok (.invokevirtual 305, 3) := by decide +kernel
theorem dX12_init_848 : decode cX12_init 848 = .ok (.aload_n 0, 1) := by decide +kernel
theorem dX12_init_849 : decode cX12_init 849 = .ok (.bipush 116, 2) := by decide +kernel
theorem dX12_init_851 : decode cX12_init 851 = .ok (.iconst 0, 1) := by decide +kernel
theorem dX12_init_852 : decode cX12_init 852 = .ok (.iconst 0, 1) := by decide +kernel
theorem dX12_init_853 : decode cX12_init 853 = .ok (.iconst 0, 1) := by decide +kernel
theorem dX12_init_854 : decode cX12_init 854 = .ok (.iconst 0, 1) := by decide +kernel
theorem dX12_init_855 : decode cX12_init 855 = .ok (.iconst 0, 1) := by decide +kernel
theorem dX12_init_856 : decode cX12_init 856 = .ok (.iconst 0, 1) := by decide +kernel
theorem dX12_init_857 : decode cX12_init 857 = .ok (.iconst 0, 1) := by decide +kernel
theorem dX12_init_858 : decode cX12_init 858 = .ok (.invokevirtual 305, 3) := by decide +kernel
theorem dX12_init_861 : decode cX12_init 861 = .ok (.aload_n 0, 1) := by decide +kernel
theorem dX12_init_862 : decode cX12_init 862 = .ok (.bipush 113, 2) := by decide +kernel
theorem dX12_init_864 : decode cX12_init 864 = .ok (.bipush 117, 2) := by decide +kernel
theorem dX12_init_866 : decode cX12_init 866 = .ok (.bipush 111, 2) := by decide +kernel
theorem dX12_init_868 : decode cX12_init 868 = .ok (.bipush 116, 2) := by decide +kernel
theorem dX12_init_870 : decode cX12_init 870 = .ok (.bipush 101, 2) := by decide +kernel
theorem dX12_init_872 : decode cX12_init 872 = .ok (.iconst 0, 1) := by decide +kernel
theorem dX12_init_873 : decode cX12_init 873 = .ok (.iconst 0, 1) := by decide +kernel
theorem dX12_init_874 : decode cX12_init 874 = .ok (.iconst 0, 1) := by decide +kernel
theorem dX12_init_875 : decode cX12_init 875 = .ok (.invokevirtual 305, 3) := by decide +kernel
theorem dX12_init_878 : decode cX12_init 878 = .ok (.aload_n 0, 1) := by decide +kernel
theorem dX12_init_879 : decode cX12_init 879 = .ok (.bipush 105, 2) := by decide +kernel
theorem dX12_init_881 : decode cX12_init 881 = .ok (.bipush 102, 2) := by decide +kernel
theorem dX12_init_883 : decode cX12_init 883 = .ok (.iconst 0, 1) := by decide +kernel
theorem dX12_init_884 : decode cX12_init 884 = .ok (.iconst 0, 1) := by decide +kernel
theorem dX12_init_885 : decode cX12_init 885 = .ok (.iconst 0, 1) := by decide +kernel
theorem dX12_init_886 : decode cX12_init 886 = .ok (.iconst 0, 1) := by decide +kernel
theorem dX12_init_887 : decode cX12_init 887 = .ok (.iconst 0, 1) := by decide +kernel
theorem dX12_init_888 : decode cX12_init 888 = .ok (.iconst 0, 1) := by decide +kernel
theorem dX12_init_889 : decode cX12_init 889 = .ok (.invokevirtual 305, 3) := by decide +kernel
theorem dX12_init_892 : decode cX12_init 892 = .ok (.aload_n 0, 1) := by decide +kernel
theorem dX12_init_893 : decode cX12_init 893 = .ok (.bipush 101, 2) := by decide +kernel
theorem dX12_init_895 : decode cX12_init 895 = .ok (.bipush 113, 2) := by decide +kernel
theorem dX12_init_897 : decode cX12_init 897 = .ok (.bipush 117, 2) := by decide +kernel
theorem dX12_init_899 : decode cX12_init 899 = .ok (.bipush 97, 2) := by decide +kernel
theorem dX12_init_901 : decode cX12_init 901 = .ok (.bipush 108, 2) := by decide +kernel
theorem dX12_init_903 : decode cX12_init 903 = .ok (.iconst 0, 1) := by decide +kernel
theorem dX12_init_904 : decode cX12_init 904 = .ok (.iconst 0, 1) := by decide +kernel
theorem dX12_init_905 : decode cX12_init 905 = .ok (.iconst 0, 1) := by decide +kernel
theorem dX12_init_906 : decode cX12_init 906 = .ok (.invokevirtual 305, 3) := by decide +kernel
theorem dX12_init_909 : decode cX12_init 909 = .ok (.aload_n 0, 1) := by decide +kernel
theorem dX12_init_910 : decode cX12_init 910 = .ok (.bipush 99, 2) := by decide +kernel
theorem dX12_init_912 : decode cX12_init 912 = .ok (.bipush 111, 2) := by decide +kernel
theorem dX12_init_914 : decode cX12_init 914 = .ok (.bipush 110, 2) := by decide +kernel
theorem dX12_init_916 : decode cX12_init 916 = .ok (.bipush 115, 2) := by decide +kernel
theorem dX12_init_918 : decode cX12_init 918 = .ok (.iconst 0, 1) := by decide +kernel
theorem dX12_init_919 : decode cX12_init 919 = .ok (.iconst 0, 1) := by decide +kernel
theorem dX12_init_920 : decode cX12_init 920 = .ok (.iconst 0, 1) := by decide +kernel
theorem dX12_init_921 : decode cX12_init 921 = .ok (.iconst 0, 1) := by decide +kernel
theorem dX12_init_922 : decode cX12_init 922 = .ok (.invokevirtual 305, 3) := by decide +kernel
theorem dX12_init_925 : decode cX12_init 925 = .ok (.aload_n 0, 1) := by decide +kernel
theorem dX12_init_926 : decode cX12_init 926 = .ok (.bipush 105, 2) := by decide +kernel
theorem dX12_init_928 : decode cX12_init 928 = .ok (.bipush 109, 2) := by decide +kernel
theorem dX12_init_930 : decode cX12_init 930 = .ok (.bipush 112, 2) := by decide +kernel
theorem dX12_init_932 : decode cX12_init 932 = .ok (.bipush 108, 2) := by decide +kernel
theorem dX12_init_934 : decode cX12_init 934 = .ok (.bipush 105, 2) := by decide +kernel
theorem dX12_init_936 : decode cX12_init 936 = .ok (.bipush 101, 2) := by decide +kernel
theorem dX12_init_938 : decode cX12_init 938 = .ok (.bipush 115, 2) := by decide +kernel
theorem dX12_init_940 : decode cX12_init 940 = .ok (.iconst 0, 1) := by decide +kernel
theorem dX12_init_941 : decode cX12_init 941 = .ok (.invokevirtual 305, 3) := by decide +kernel
theorem dX12_init_944 : decode cX12_init 944 = .ok (.aload_n 0, 1) := by decide +kernel
theorem dX12_init_945 : decode cX12_init 945 = .ok (.bipush 43, 2) := by decide +kernel
theorem dX12_init_947 : decode cX12_init 947 = .ok (.iconst 0, 1) := by decide +kernel
theorem dX12_init_948 : decode cX12_init 948 = .ok (.iconst 0, 1) := by decide +kernel
theorem dX12_init_949 : decode cX12_init 949 = .ok (.iconst 0, 1) := by decide +kernel
theorem dX12_init_950 : decode cX12_init 950 = .ok (.iconst 0, 1) := by decide +kernel
theorem dX12_init_951 : decode cX12_init 951 = .ok (.iconst 0, 1) := by decide +kernel
theorem dX12_init_952 : decode cX12_init 952 = .ok (.iconst 0, 1) := by decide +kernel
theorem dX12_init_953 : decode cX12_init 953 = .ok (.iconst 0, 1) := by decide +kernel
theorem dX12_init_954 : decode cX12_init 954 = .ok (.invokevirtual 305, 3) := by decide +kernel
theorem dX12_init_957 : decode cX12_init 957 = .ok (.aload_n 0, 1) := by decide +kernel
theorem dX12_init_958 : decode cX12_init 958 = .ok (.bipush 45, 2) := by decide +kernel
theorem dX12_init_960 : decode cX12_init 960 = .ok (.iconst 0, 1) := by decide +kernel
theorem dX12_init_961 : decode cX12_init 961 = .ok (.iconst 0, 1) := by decide +kernel
theorem dX12_init_962 : decode cX12_init 962 = .ok (.iconst 0, 1) := by decide +kernel
theorem dX12_init_963 : decode cX12_init 963 = .ok (.iconst 0, 1) := by decide +kernel
theorem dX12_init_964 : decode cX12_init 964 = .ok (.iconst 0, 1) := by decide +kernel
theorem dX12_init_965 : decode cX12_init 965 = .ok (.iconst 0, 1) := by decide +kernel
theorem dX12_init_966 : decode cX12_init 966 = .ok (.iconst 0, 1) := by decide +kernel
theorem dX12_init_967 : decode cX12_init 967 = .ok (.invokevirtual 305, 3) := by decide +kernel
theorem dX12_init_970 : decode cX12_init 970 = .ok (.aload_n 0, 1) := by decide +kernel
theorem dX12_init_971 : decode cX12_init 971 = .ok (.bipush 60, 2) := by decide +kernel
theorem dX12_init_973 : decode cX12_init 973 = .ok (.iconst 0, 1) := by decide +kernel
theorem dX12_init_974 : decode cX12_init 974 = .ok (.iconst 0, 1) := by decide +kernel
theorem dX12_init_975 : decode cX12_init 975 = .ok (.iconst 0, 1) := by decide +kernel
theorem dX12_init_976 : decode cX12_init 976 = .ok (.iconst 0, 1) := by decide +kernel
theorem dX12_init_977 : decode cX12_init 977 = .ok (.iconst 0, 1) := by decide +kernel
theorem dX12_init_978 : decode cX12_init 978 = .ok (.iconst 0, 1) := by decide +kernel
theorem dX12_init_979 : decode cX12_init 979 = .ok (.iconst 0, 1) := by decide +kernel
theorem dX12_init_980 : decode cX12_init 980 = .ok (.invokevirtual 305, 3) := by decide +kernel
theorem dX12_init_983 : decode cX12_init 983 = .ok (.aload_n 0, 1) := by decide +kernel
theorem dX12_init_984 : decode cX12_init 984 = .ok (.bipush 99, 2) := by decide +kernel
theorem dX12_init_986 : decode cX12_init 986 = .ok (.bipush 111, 2) := by decide +kernel
theorem dX12_init_988 : decode cX12_init 988 = .ok (.bipush 110, 2) := by decide +kernel
theorem dX12_init_990 : decode cX12_init 990 = .ok (.bipush 115, 2) := by decide +kernel
theorem dX12_init_992 : decode cX12_init 992 = .ok (.bipush 112, 2) := by decide +kernel
theorem dX12_init_994 : decode cX12_init 994 = .ok (.iconst 0, 1) := by decide +kernel
theorem dX12_init_995 : decode cX12_init 995 = .ok (.iconst 0, 1) := by decide +kernel
theorem dX12_init_996 : decode cX12_init 996 = .ok (.iconst 0, 1) := by decide +kernel
theorem dX12_init_997 : decode cX12_init 997 = .ok (.invokevirtual 305, 3) := by decide +kernel
theorem dX12_init_1000 : decode cX12_init 1000 = .ok (.aload_n 0, 1) := by decide +kernel
theorem dX12_init_1001 : decode cX12_init 1001 = .ok (.bipush 99, 2) := by decide +kernel
theorem dX12_init_1003 : decode cX12_init 1003 = .ok (.bipush 97, 2) := by decide +kernel
theorem dX12_init_1005 : decode cX12_init 1005 = .ok (.bipush 114, 2) := by decide +kernel
theorem dX12_init_1007 : decode cX12_init 1007 = .ok (.iconst 0, 1) := by decide +kernel
theorem dX12_init_1008 : decode cX12_init 1008 = .ok (.iconst 0, 1) := by decide +kernel
theorem dX12_init_1009 : decode cX12_init 1009 = .ok (.iconst 0, 1) := by decide +kernel
theorem dX12_init_1010 : decode cX12_init 1010 = .ok (.iconst 0, 1) := by decide +kernel
theorem dX12_init_1011 : decode cX12_init 1011 = .ok (.iconst 0, 1) := by decide +kernel
theorem dX12_init_1012 : decode cX12_init 1012 = .ok (.invokevirtual 305, 3) := by decide +kernel
theorem dX12_init_1015 : decode cX12_init 1015 = .ok (.aload_n 0, 1) := by decide +kernel
theorem dX12_init_1016 : decode cX12_init 1016 = .ok (.bipush 99, 2) := by decide +kernel
theorem dX12_init_1018 : decode cX12_init 1018 = .ok (.bipush 100, 2) := by decide +kernel
theorem dX12_init_1020 : decode cX12_init 1020 = .ok (.bipush 114, 2) := by decide +kernel
theorem dX12_init_1022 : decode cX12_init 1022 = .ok (.iconst 0, 1) := by decide +kernel
theorem dX12_init_1023 : decode cX12_init 1023 = .ok (.iconst 0, 1) := by decide +kernel
theorem dX12_init_1024 : decode cX12_init 1024 = .ok (.iconst 0, 1) := by decide +kernel
theorem dX12_init_1025 : decode cX12_init 1025 = .ok (.iconst 0, 1) := by decide +kernel
theorem dX12_init_1026 : decode cX12_init 1026 = .ok (.iconst 0, 1) := by decide +kernel
theorem dX12_init_1027 : decode cX12_init 1027 = .ok (.invokevirtual 305, 3) := by decide +kernel
theorem dX12_init_1030 : decode cX12_init 1030 = .ok (.aload_n 0, 1) := by decide +kernel
theorem dX12_init_1031 : decode cX12_init 1031 = .ok (.bipush 110, 2) := by decide +kernel
theorem dX12_init_1033 : decode cX12_init 1033 = .ok (.bipush 97, 2) := by decide +kernel
theorem dX12_init_1035 : decode cX12_init 1035 = .ok (.bipush 116, 2) := by decide +kernel
theorem dX12_init_1037 : decode cX12_init 1037 = .ok (.bipush 112, 2) := by decide +kernel
theorem dX12_init_1039 : decode cX12_init 1039 = .ok (.iconst 0, 1) := by decide +kernel
theorem dX12_init_1040 : decode cX12_init 1040 = .ok (.iconst 0, 1) := by decide +kernel
theorem dX12_init_1041 : decode cX12_init 1041 = .ok (.iconst 0, 1) := by decide +kernel
theorem dX12_init_1042 : decode cX12_init 1042 = .ok (.iconst 0, 1) := by decide +kernel
theorem dX12_init_1043 : decode cX12_init 1043 = .ok (.invokevirtual 305, 3) := by decide +kernel
theorem dX12_init_1046 : decode cX12_init 1046 = .ok (.aload_n 0, 1) := by decide +kernel
theorem dX12_init_1047 : decode cX12_init 1047 = .ok (.bipush 115, 2) := by decide +kernel
theorem dX12_init_1049 : decode cX12_init 1049 = .ok (.bipush 121, 2) := by decide +kernel
theorem dX12_init_1051 : decode cX12_init 1051 = .ok (.bipush 109, 2) := by decide +kernel
theorem dX12_init_1053 : decode cX12_init 1053 = .ok (.bipush 98, 2) := by decide +kernel
theorem dX12_init_1055 : decode cX12_init 1055 = .ok (.bipush 111, 2) := by decide +kernel
theorem dX12_init_1057 : decode cX12_init 1057 = .ok (.bipush 108, 2) := by decide +kernel
theorem dX12_init_1059 : decode cX12_init 1059 = .ok (.bipush 112, 2) := by decide +kernel
theorem dX12_init_1061 : decode cX12_init 1061 = .ok (.iconst 0, 1) := by decide +kernel
theorem dX12_init_1062 : decode cX12_init 1062 = .ok (.invokevirtual 305, 3) := by decide +kernel
theorem dX12_init_1065 : decode cX12_init 1065 = .ok (.aload_n 0, 1) := by decide +kernel
theorem dX12_init_1066 : decode cX12_init 1066 = .ok (.bipush 110, 2) := by decide +kernel
theorem dX12_init_1068 : decode cX12_init 1068 = .ok (.bipush 111, 2) := by decide +kernel
theorem dX12_init_1070 : decode cX12_init 1070 = .ok (.bipush 116, 2) := by decide +kernel
theorem dX12_init_1072 : decode cX12_init 1072 = .ok (.iconst 0, 1) := by decide +kernel
theorem dX12_init_1073 : decode cX12_init 1073 = .ok (.iconst 0, 1) := by decide +kernel
theorem dX12_init_1074 : decode cX12_init 1074 = .ok (.iconst 0, 1) := by decide +kernel
theorem dX12_init_1075 : decode cX12_init 1075 = .ok (.iconst 0, 1) := by decide +kernel
theorem dX12_init_1076 : decode cX12_init 1076 = .ok (.iconst 0, 1) := by decide +kernel
theorem dX12_init_1077 : decode cX12_init 1077 = .ok (.invokevirtual 305, 3) := by decide +kernel
theorem dX12_init_1080 : decode cX12_init 1080 = .ok (.aload_n 0, 1) := by decide +kernel
theorem dX12_init_1081 : decode cX12_init 1081 = .ok (.bipush 104, 2) := by decide +kernel
theorem dX12_init_1083 : decode cX12_init 1083 = .ok (.bipush 101, 2) := by decide +kernel
theorem dX12_init_1085 : decode cX12_init 1085 = .ok (.bipush 105, 2) := by decide +kernel
theorem dX12_init_1087 : decode cX12_init 1087 = .ok (.bipush 103, 2) := by decide +kernel
theorem dX12_init_1089 : decode cX12_init 1089 = .ok (.bipush 104, 2) := by decide +kernel
theorem dX12_init_1091 : decode cX12_init 1091 = .ok (.bipush 116, 2) := by decide +kernel
theorem dX12_init_1093 : decode cX12_init 1093 = .ok (.iconst 0, 1) := by decide +kernel
theorem dX12_init_1094 : decode cX12_init 1094 = .ok (.iconst 0, 1) := by decide +kernel
theorem dX12_init_1095 : decode cX12_init 1095 = .ok (.invokevirtual 305, 3) := by decide +kernel
theorem dX12_init_1098 : decode cX12_init 1098 = .ok (.aload_n 0, 1) := by decide +kernel
theorem dX12_init_1099 : decode cX12_init 1099 = .ok (.bipush 100, 2) := by decide +kernel
theorem dX12_init_1101 : decode cX12_init 1101 = .ok (.bipush 101, 2) := by decide +kernel
theorem dX12_init_1103 : decode cX12_init 1103 = .ok (.bipush 102, 2) := by decide +kernel
theorem dX12_init_1105 : decode cX12_init 1105 = .ok (.bipush 117, 2) := by decide +kernel
theorem dX12_init_1107 : decode cX12_init 1107 = .ok (.bipush 110, 2) := by decide +kernel
theorem dX12_init_1109 : decode cX12_init 1109 = .ok (.iconst 0, 1) := by decide +kernel
theorem dX12_init_1110 : decode cX12_init 1110 = .ok (.iconst 0, 1) := by decide +kernel
theorem dX12_init_1111 : decode cX12_init 1111 = .ok (.iconst 0, 1) := by decide +kernel
theorem dX12_init_1112 : decode cX12_init 1112 = .ok (.invokevirtual 305, 3) := by decide +kernel
theorem dX12_init_1115 : decode cX12_init 1115 = .ok (.aload_n 0, 1) := by decide +kernel
theorem dX12_init_1116 : decode cX12_init 1116 = .ok (.bipush 116, 2) := by decide +kernel
theorem dX12_init_1118 : decode cX12_init 1118 = .ok (.bipush 104, 2) := by decide +kernel
theorem dX12_init_1120 : decode cX12_init 1120 = .ok (.bipush 101, 2) := by decide +kernel
theorem dX12_init_1122 : decode cX12_init 1122 = .ok (.bipush 111, 2) := by decide +kernel
theorem dX12_init_1124 : decode cX12_init 1124 = .ok (.bipush 114, 2) := by decide +kernel
theorem dX12_init_1126 : decode cX12_init 1126 = .ok (.bipush 101, 2) := by decide +kernel
theorem dX12_init_1128 : decode cX12_init 1128 = .ok (.bipush 109, 2) := by decide +kernel
theorem dX12_init_1130 : decode cX12_init 1130 = .ok (.iconst 0, 1) := by decide +kernel
theorem dX12_init_1131 : decode cX12_init 1131 = .ok (.invokevirtual 305, 3) := by decide +kernel
theorem dX12_init_1134 : decode cX12_init 1134 = .ok (.aload_n 0, 1) := by decide +kernel
theorem dX12_init_1135 : decode cX12_init 1135 = .ok (.bipush 101, 2) := by decide +kernel
theorem dX12_init_1137 : decode cX12_init 1137 = .ok (.bipush 118, 2) := by decide +kernel
theorem dX12_init_1139 : decode cX12_init 1139 = .ok (.bipush 97, 2) := by decide +kernel
theorem dX12_init_1141 : decode cX12_init 1141 = .ok (.bipush 108, 2) := by decide +kernel
theorem dX12_init_1143 : decode cX12_init 1143 = .ok (.iconst 0, 1) := by decide +kernel
theorem dX12_init_1144 : decode cX12_init 1144 = .ok (.iconst 0, 1) := by decide +kernel
theorem dX12_init_1145 : decode cX12_init 1145 = .ok (.iconst 0, 1) := by decide +kernel
theorem dX12_init_1146 : decode cX12_init 1146 = .ok (.iconst 0, 1) := by decide +kernel
theorem dX12_init_1147 : decode cX12_init 1147 = .ok (.invokevirtual 305, 3) := by decide +kernel
theorem dX12_init_1150 : decode cX12_init 1150 = .ok (.aload_n 0, 1) := by decide +kernel
theorem dX12_init_1151 : decode cX12_init 1151 = .ok (.bipush 115, 2) := by decide +kernel
theorem dX12_init_1153 : decode cX12_init 1153 = .ok (.bipush 105, 2) := by decide +kernel
theorem dX12_init_1155 : decode cX12_init 1155 = .ok (.bipush 109, 2) := by decide +kernel
theorem dX12_init_1157 : decode cX12_init 1157 = .ok (.bipush 112, 2) := by decide +kernel
theorem dX12_init_1159 : decode cX12_init 1159 = .ok (.bipush 108, 2) := by decide +kernel
theorem dX12_init_1161 : decode cX12_init 1161 = .ok (.bipush 105, 2) := by decide +kernel
theorem dX12_init_1163 : decode cX12_init 1163 = .ok (.bipush 102, 2) := by decide +kernel
theorem dX12_init_1165 : decode cX12_init 1165 = .ok (.bipush 121, 2) := by decide +kernel
theorem dX12_init_1167 : decode cX12_init 1167 = .ok (.invokevirtual 305, 3) := by decide +kernel
theorem dX12_init_1170 : decode cX12_init 1170 = .ok (.aload_n 0, 1) := by decide +kernel
theorem dX12_init_1171 : decode cX12_init 1171 = .ok (.bipush 112, 2) := by decide +kernel
theorem dX12_init_1173 : decode cX12_init 1173 = .ok (.bipush 114, 2) := by decide +kernel
theorem dX12_init_1175 : decode cX12_init 1175 = .ok (.bipush 111, 2) := by decide +kernel
theorem dX12_init_1177 : decode cX12_init 1177 = .ok (.bipush 118, 2) := by decide +kernel
theorem dX12_init_1179 : decode cX12_init 1179 = .ok (.bipush 101, 2) := by decide +kernel
theorem dX12_init_1181 : decode cX12_init 1181 = .ok (.iconst 0, 1) := by decide +kernel
theorem dX12_init_1182 : decode cX12_init 1182 = .ok (.iconst 0, 1) := by decide +kernel
theorem dX12_init_1183 : decode cX12_init 1183 = .ok (.iconst 0, 1) := by decide +kernel
theorem dX12_init_1184 : decode cX12_init 1184 = .ok (.invokevirtual 305, 3) := by decide +kernel
theorem dX12_init_1187 : decode cX12_init 1187 = .ok (.aload_n 0, 1) := by decide +kernel
theorem dX12_init_1188 : decode cX12_init 1188 = .ok (.bipush 100, 2) := by decide +kernel
theorem dX12_init_1190 : decode cX12_init 1190 = .ok (.bipush 101, 2) := by decide +kernel
theorem dX12_init_1192 : decode cX12_init 1192 = .ok (.bipush 102, 2) := by decide +kernel
theorem dX12_init_1194 : decode cX12_init 1194 = .ok (.bipush 116, 2) := by decide +kernel
theorem dX12_init_1196 : decode cX12_init 1196 = .ok (.bipush 104, 2) := by decide +kernel
theorem dX12_init_1198 : decode cX12_init 1198 = .ok (.bipush 109, 2) := by decide +kernel
theorem dX12_init_1200 : decode cX12_init 1200 = .ok (.iconst 0, 1) := by decide +kernel
theorem dX12_init_1201 : decode cX12_init 1201 = .ok (.iconst 0, 1) := by decide +kernel
theorem dX12_init_1202 : decode cX12_init 1202 = .ok (.invokevirtual 305, 3) := by decide +kernel
theorem dX12_init_1205 : decode cX12_init 1205 = .ok (.aload_n 0, 1) := by decide +kernel
theorem dX12_init_1206 : decode cX12_init 1206 = .ok (.bipush 111, 2) := by decide +kernel
theorem dX12_init_1208 : decode cX12_init 1208 = .ok (.bipush 110, 2) := by decide +kernel
theorem dX12_init_1210 : decode cX12_init 1210 = .ok (.iconst 0, 1) := by decide +kernel
theorem dX12_init_1211 : decode cX12_init 1211 = .ok (.iconst 0, 1) := by decide +kernel
theorem dX12_init_1212 : decode cX12_init 1212 = .ok (.iconst 0, 1) := by decide +kernel
theorem dX12_init_1213 : decode cX12_init 1213 = .ok (.iconst 0, 1) := by decide +kernel
theorem dX12_init_1214 : decode cX12_init 1214 = .ok (.iconst 0, 1) := by decide +kernel
theorem dX12_init_1215 : decode cX12_init 1215 = .ok (.iconst 0, 1) := by decide +kernel
theorem dX12_init_1216 : decode cX12_init 1216 = .ok (.invokevirtual 305, 3) := by decide +kernel
theorem dX12_init_1219 : decode cX12_init 1219 = .ok (.aload_n 0, 1) := by decide +kernel
theorem dX12_init_1220 : decode cX12_init 1220 = .ok (.bipush 111, 2) := by decide +kernel
theorem dX12_init_1222 : decode cX12_init 1222 = .ok (.bipush 102, 2) := by decide +kernel
theorem dX12_init_1224 : decode cX12_init 1224 = .ok (.bipush 102, 2) := by decide +kernel
theorem dX12_init_1226 : decode cX12_init 1226 = .ok (.iconst 0, 1) := by decide +kernel
theorem dX12_init_1227 : decode cX12_init 1227 = .ok (.iconst 0, 1) := by decide +kernel
theorem dX12_init_1228 : decode cX12_init 1228 = .ok (.iconst 0, 1) := by decide +kernel
theorem dX12_init_1229 : decode cX12_init 1229 = .ok (.iconst 0, 1) := by decide +kernel
theorem dX12_init_1230 : decode cX12_init 1230 = .ok (.iconst 0, 1) := by decide +kernel
theorem dX12_init_1231 : decode cX12_init 1231 = .ok (.invokevirtual 305, 3) := by decide +kernel
theorem dX12_init_1234 : decode cX12_init 1234 = .ok (.aload_n 0, 1) := by decide +kernel
theorem dX12_init_1235 : decode cX12_init 1235 = .ok (.bipush 117, 2) := by decide +kernel
theorem dX12_init_1237 : decode cX12_init 1237 = .ok (.bipush 110, 2) := by decide +kernel
theorem dX12_init_1239 : decode cX12_init 1239 = .ok (.bipush 100, 2) := by decide +kernel
theorem dX12_init_1241 : decode cX12_init 1241 = .ok (.bipush 111, 2) := by decide +kernel
theorem dX12_init_1243 : decode cX12_init 1243 = .ok (.iconst 0, 1) := by decide +kernel
theorem dX12_init_1244 : decode cX12_init 1244 = .ok (.iconst 0, 1) := by decide +kernel
theorem dX12_init_1245 : decode cX12_init 1245 = .ok (.iconst 0, 1) := by decide +kernel
theorem dX12_init_1246 : decode cX12_init 1246 = .ok (.iconst 0, 1) := by decide +kernel
theorem dX12_init_1247 : decode cX12_init 1247 = .ok (.invokevirtual 305, 3) := by decide +kernel
theorem dX12_init_1250 : decode cX12_init 1250 = .ok (.aload_n 0, 1) := by decide +kernel
theorem dX12_init_1251 : decode cX12_init 1251 = .ok (.bipush 99, 2) := by decide +kernel
theorem dX12_init_1253 : decode cX12_init 1253 = .ok (.bipush 104, 2) := by decide +kernel
theorem dX12_init_1255 : decode cX12_init 1255 = .ok (.bipush 101, 2) := by decide +kernel
theorem dX12_init_1257 : decode cX12_init 1257 = .ok (.bipush 99, 2) := by decide +kernel
theorem dX12_init_1259 : decode cX12_init 1259 = .ok (.bipush 107, 2) := by decide +kernel
theorem dX12_init_1261 : decode cX12_init 1261 = .ok (.iconst 0, 1) := by decide +kernel
theorem dX12_init_1262 : decode cX12_init 1262 = .ok (.iconst 0, 1) := by decide +kernel
theorem dX12_init_1263 : decode cX12_init 1263 = .ok (.iconst 0, 1) := by decide +kernel
theorem dX12_init_1264 : decode cX12_init 1264 = .ok (.invokevirtual 305, 3) := by decide +kernel
theorem dX12_init_1267 : decode cX12_init 1267 = .ok (.aload_n 0, 1) := by decide +kernel
theorem dX12_init_1268 : decode cX12_init 1268 = .ok (.bipush 105, 2) := by decide +kernel
theorem dX12_init_1270 : decode cX12_init 1270 = .ok (.bipush 110, 2) := by decide +kernel
theorem dX12_init_1272 : decode cX12_init 1272 = .ok (.bipush 100, 2) := by decide +kernel
theorem dX12_init_1274 : decode cX12_init 1274 = .ok (.bipush 117, 2) := by decide +kernel
theorem dX12_init_1276 : decode cX12_init 1276 = .ok (.bipush 99, 2) := by decide +kernel
theorem dX12_init_1278 : decode cX12_init 1278 = .ok (.bipush 116, 2) := by decide +kernel
theorem dX12_init_1280 : decode cX12_init 1280 = .ok (.iconst 0, 1) := by decide +kernel
theorem dX12_init_1281 : decode cX12_init 1281 = .ok (.iconst 0, 1) := by decide +kernel
theorem dX12_init_1282 : decode cX12_init 1282 = .ok (.invokevirtual 305, 3) := by decide +kernel
theorem dX12_init_1285 : decode cX12_init 1285 = .ok (.aload_n 0, 1) := by decide +kernel
theorem dX12_init_1286 : decode cX12_init 1286 = .ok (.bipush 117, 2) := by decide +kernel
theorem dX12_init_1288 : decode cX12_init 1288 = .ok (.bipush 115, 2) := by decide +kernel
theorem dX12_init_1290 : decode cX12_init 1290 = .ok (.bipush 101, 2) := by decide +kernel
theorem dX12_init_1292 : decode cX12_init 1292 = .ok (.iconst 0, 1) := by decide +kernel
theorem dX12_init_1293 : decode cX12_init 1293 = .ok (.iconst 0, 1) := by decide +kernel
theorem dX12_init_1294 : decode cX12_init 1294 = .ok (.iconst 0, 1) := by decide +kernel
theorem dX12_init_1295 : decode cX12_init 1295 = .ok (.iconst 0, 1) := by decide +kernel
theorem dX12_init_1296 : decode cX12_init 1296 = .ok (.iconst 0, 1) := by decide +kernel
theorem dX12_init_1297 : decode cX12_init 1297 = .ok (.invokevirtual 305, 3) := by decide +kernel
theorem dX12_init_1300 : decode cX12_init 1300 = .ok (.aload_n 0, 1) := by decide +kernel
theorem dX12_init_1301 : decode cX12_init 1301 = .ok (.bipush 116, 2) := by decide +kernel
theorem dX12_init_1303 : decode cX12_init 1303 = .ok (.bipush 97, 2) := by decide +kernel
theorem dX12_init_1305 : decode cX12_init 1305 = .ok (.bipush 117, 2) := by decide +kernel
theorem dX12_init_1307 : decode cX12_init 1307 = .ok (.bipush 116, 2) := by decide +kernel
theorem dX12_init_1309 : decode cX12_init 1309 = .ok (.iconst 0, 1) := by decide +kernel
theorem dX12_init_1310 : decode cX12_init 1310 = .ok (.iconst 0, 1) := by decide +kernel
theorem dX12_init_1311 : decode cX12_init 1311 = .ok (.iconst 0, 1) := by decide +kernel
theorem dX12_init_1312 : decode cX12_init 1312 = .ok (.iconst 0, 1) := by decide +kernel
theorem dX12_init_1313 : decode cX12_init 1313 = .ok (.invokevirtual 305, 3) := by decide +kernel
theorem dX12_init_1316 : decode cX12_init 1316 = .ok (.aload_n 0, 1) := by decide +kernel
theorem dX12_init_1317 : decode cX12_init 1317 = .ok (.bipush 115, 2) := by decide +kernel
theorem dX12_init_1319 : decode cX12_init 1319 = .ok (.bipush 97, 2) := by decide +kernel
theorem dX12_init_1321 : decode cX12_init 1321 = .ok (.bipush 109, 2) := by decide +kernel
theorem dX12_init_1323 : decode cX12_init 1323 = .ok (.bipush 101, 2) := by decide +kernel
theorem dX12_init_1325 : decode cX12_init 1325 = .ok (.iconst 0, 1) := by decide +kernel
theorem dX12_init_1326 : decode cX12_init 1326 = .ok (.iconst 0, 1) := by decide +kernel
theorem dX12_init_1327 : decode cX12_init 1327 = .ok (.iconst 0, 1) := by decide +kernel
theorem dX12_init_1328 : decode cX12_init 1328 = .ok (.iconst 0, 1) := by decide +kernel
theorem dX12_init_1329 : decode cX12_init 1329 = .ok (.invokevirtual 305, 3) := by decide +kernel
theorem dX12_init_1332 : decode cX12_init 1332 = .ok (.aload_n 0, 1) := by decide +kernel
theorem dX12_init_1333 : decode cX12_init 1333 = .ok (.bipush 118, 2) := by decide +kernel
theorem dX12_init_1335 : decode cX12_init 1335 = .ok (.bipush 97, 2) := by decide +kernel
theorem dX12_init_1337 : decode cX12_init 1337 = .ok (.bipush 108, 2) := by decide +kernel
theorem dX12_init_1339 : decode cX12_init 1339 = .ok (.bipush 117, 2) := by decide +kernel
theorem dX12_init_1341 : decode cX12_init 1341 = .ok (.bipush 101, 2) := by decide +kernel
theorem dX12_init_1343 : decode cX12_init 1343 = .ok (.iconst 0, 1) := by decide +kernel
theorem dX12_init_1344 : decode cX12_init 1344 = .ok (.iconst 0, 1) := by decide +kernel
theorem dX12_init_1345 : decode cX12_init 1345 = .ok (.iconst 0, 1) := by decide +kernel
theorem dX12_init_1346 : decode cX12_init 1346 = .ok (.invokevirtual 305, 3) := by decide +kernel
theorem dX12_init_1349 : decode cX12_init 1349 = .ok (.aload_n 0, 1) := by decide +kernel
theorem dX12_init_1350 : decode cX12_init 1350 = .ok (.bipush 102, 2) := by decide +kernel
theorem dX12_init_1352 : decode cX12_init 1352 = .ok (.bipush 105, 2) := by decide +kernel
theorem dX12_init_1354 : decode cX12_init 1354 = .ok (.bipush 114, 2) := by decide +kernel
theorem dX12_init_1356 : decode cX12_init 1356 = .ok (.bipush 115, 2) := by decide +kernel
theorem dX12_init_1358 : decode cX12_init 1358 = .ok (.bipush 116, 2) := by decide +kernel
theorem dX12_init_1360 : decode cX12_init 1360 = .ok (.iconst 0, 1) := by decide +kernel
theorem dX12_init_1361 : decode cX12_init 1361 = .ok (.iconst 0, 1) := by decide +kernel
theorem dX12_init_1362 : decode cX12_init 1362 = .ok (.iconst 0, 1) := by decide +kernel
theorem dX12_init_1363 : decode cX12_init 1363 = .ok (.invokevirtual 305, 3) := by decide +kernel
theorem dX12_init_1366 : decode cX12_init 1366 = .ok (.aload_n 0, 1) := by decide +kernel
theorem dX12_init_1367 : decode cX12_init 1367 = .ok (.bipush 115, 2) := by decide +kernel
theorem dX12_init_1369 : decode cX12_init 1369 = .ok (.bipush 101, 2) := by decide +kernel
theorem dX12_init_1371 : decode cX12_init 1371 = .ok (.bipush 99, 2) := by decide +kernel
theorem dX12_init_1373 : decode cX12_init 1373 = .ok (.bipush 111, 2) := by decide +kernel
theorem dX12_init_1375 : decode cX12_init 1375 = .ok (.bipush 110, 2) := by decide +kernel
theorem dX12_init_1377 : decode cX12_init 1377 = .ok (.bipush 100, 2) := by decide +kernel
theorem dX12_init_1379 : decode cX12_init 1379 = .ok (.iconst 0, 1) := by decide +kernel
theorem dX12_init_1380 : decode cX12_init 1380 = .ok (.iconst 0, 1) := by decide +kernel
theorem dX12_init_1381 : decode cX12_init 1381 = .ok (.invokevirtual 305, 3) := by decide +kernel
theorem dX12_init_1384 : decode cX12_init 1384 = .ok (.aload_n 0, 1) := by decide +kernel
theorem dX12_init_1385 : decode cX12_init 1385 = .ok (.bipush 112, 2) := by decide +kernel
theorem dX12_init_1387 : decode cX12_init 1387 = .ok (.bipush 97, 2) := by decide +kernel
theorem dX12_init_1389 : decode cX12_init 1389 = .ok (.bipush 105, 2) := by decide +kernel
theorem dX12_init_1391 : decode cX12_init 1391 = .ok (.bipush 114, 2) := by decide +kernel
theorem dX12_init_1393 : decode cX12_init 1393 = .ok (.iconst 0, 1) := by decide +kernel
theorem dX12_init_1394 : decode cX12_init 1394 = .ok (.iconst 0, 1) := by decide +kernel
theorem dX12_init_1395 : decode cX12_init 1395 = .ok (.iconst 0, 1) := by decide +kernel
theorem dX12_init_1396 : decode cX12_init 1396 = .ok (.iconst 0, 1) := by decide +kernel
theorem dX12_init_1397 : decode cX12_init 1397 = .ok (.invokevirtual 305, 3) := by decide +kernel
theorem dX12_init_1400 : decode cX12_init 1400 = .ok (.aload_n 0, 1) := by decide +kernel
theorem dX12_init_1401 : decode cX12_init 1401 = .ok (.bipush 121, 2) := by decide +kernel
theorem dX12_init_1403 : decode cX12_init 1403 = .ok (.bipush 101, 2) := by decide +kernel
theorem dX12_init_1405 : decode cX12_init 1405 = .ok (.bipush 115, 2) := by decide +kernel
theorem dX12_init_1407 : decode cX12_init 1407 = .ok (.iconst 0, 1) := by decide +kernel
theorem dX12_init_1408 : decode cX12_init 1408 = .ok (.iconst 0, 1) := by decide +kernel
theorem dX12_init_1409 : decode cX12_init 1409 = .ok (.iconst 0, 1) := by decide +kernel
theorem dX12_init_1410 : decode cX12_init 1410 = .ok (.iconst 0, 1) := by decide +kernel
theorem dX12_init_1411 : decode cX12_init 1411 = .ok (.iconst 0, 1) := by decide +kernel
theorem dX12_init_1412 : decode cX12_init 1412 = .ok (.invokevirtual 305, 3) := by decide +kernel
theorem dX12_init_1415 : decode cX12_init 1415 = .ok (.aload_n 0, 1) := by decide +kernel
theorem dX12_init_1416 : decode cX12_init 1416 = .ok (.bipush 110, 2) := by decide +kernel
theorem dX12_init_1418 : decode cX12_init 1418 = .ok (.bipush 111, 2) := by decide +kernel
theorem dX12_init_1420 : decode cX12_init 1420 = .ok (.iconst 0, 1) := by decide +kernel
theorem dX12_init_1421 : decode cX12_init 1421 = .ok (.iconst 0, 1) := by decide +kernel
theorem dX12_init_1422 : decode cX12_init 1422 = .ok (.iconst 0, 1) := by decide +kernel
theorem dX12_init_1423 : decode cX12_init 1423 = .ok (.iconst 0, 1) := by decide +kernel
theorem dX12_init_1424 : decode cX12_init 1424 = .ok (.iconst 0, 1) := by decide +kernel
theorem dX12_init_1425 : decode cX12_init 1425 = .ok (.iconst 0, 1) := by decide +kernel
theorem dX12_init_1426 : decode cX12_init 1426 = .ok (.invokevirtual 305, 3) := by decide +kernel
theorem dX12_init_1429 : decode cX12_init 1429 = .ok (.aload_n 0, 1) := by decide +kernel
theorem dX12_init_1430 : decode cX12_init 1430 = .ok (.bipush 100, 2) := by decide +kernel
theorem dX12_init_1432 : decode cX12_init 1432 = .ok (.bipush 101, 2) := by decide +kernel
theorem dX12_init_1434 : decode cX12_init 1434 = .ok (.bipush 102, 2) := by decide +kernel
theorem dX12_init_1436 : decode cX12_init 1436 = .ok (.iconst 0, 1) := by decide +kernel
theorem dX12_init_1437 : decode cX12_init 1437 = .ok (.iconst 0, 1) := by decide +kernel
theorem dX12_init_1438 : decode cX12_init 1438 = .ok (.iconst 0, 1) := by decide +kernel
theorem dX12_init_1439 : decode cX12_init 1439 = .ok (.iconst 0, 1) := by decide +kernel
theorem dX12_init_1440 : decode cX12_init 1440 = .ok (.iconst 0, 1) := by decide +kernel
theorem dX12_init_1441 : decode cX12_init 1441 = .ok (.invokevirtual 305, 3) := by decide +kernel
theorem dX12_init_1444 : decode cX12_init 1444 = .ok (.aload_n 0, 1) := by decide +kernel
theorem dX12_init_1445 : decode cX12_init 1445 = .ok (.bipush 116, 2) := by decide +kernel
theorem dX12_init_1447 : decode cX12_init 1447 = .ok (.bipush 104, 2) := by decide +kernel
theorem dX12_init_1449 : decode cX12_init 1449 = .ok (.bipush 109, 2) := by decide +kernel
theorem dX12_init_1451 : decode cX12_init 1451 = .ok (.iconst 0, 1) := by decide +kernel
theorem dX12_init_1452 : decode cX12_init 1452 = .ok (.iconst 0, 1) := by decide +kernel
theorem dX12_init_1453 : decode cX12_init 1453 = .ok (.iconst 0, 1) := by decide +kernel
theorem dX12_init_1454 : decode cX12_init 1454 = .ok (.iconst 0, 1) := by decide +kernel
theorem dX12_init_1455 : decode cX12_init 1455 = .ok (.iconst 0, 1) := by decide +kernel
theorem dX12_init_1456 : decode cX12_init 1456 = .ok (.invokevirtual 305, 3) := by decide +kernel
theorem dX12_init_1459 : decode cX12_init 1459 = .ok (.aload_n 0, 1) := by decide +kernel
theorem dX12_init_1460 : decode cX12_init 1460 = .ok (.bipush 119, 2) := by decide +kernel
theorem dX12_init_1462 : decode cX12_init 1462 = .ok (.bipush 101, 2) := by decide +kernel
theorem dX12_init_1464 : decode cX12_init 1464 = .ok (.bipush 97, 2) := by decide +kernel
theorem dX12_init_1466 : decode cX12_init 1466 = .ok (.bipush 107, 2) := by decide +kernel
theorem dX12_init_1468 : decode cX12_init 1468 = .ok (.iconst 0, 1) := by decide +kernel
theorem dX12_init_1469 : decode cX12_init 1469 = .ok (.iconst 0, 1) := by decide +kernel
theorem dX12_init_1470 : decode cX12_init 1470 = .ok (.iconst 0, 1) := by decide +kernel
theorem dX12_init_1471 : decode cX12_init 1471 = .ok (.iconst 0, 1) := by decide +kernel
theorem dX12_init_1472 : decode cX12_init 1472 = .ok (.invokevirtual 305, 3) := by decide +kernel
theorem dX12_init_1475 : decode cX12_init 1475 = .ok (.aload_n 0, 1) := by decide +kernel
theorem dX12_init_1476 : decode cX12_init 1476 = .ok (.bipush 99, 2) := by decide +kernel
theorem dX12_init_1478 : decode cX12_init 1478 = .ok (.bipush 117, 2) := by decide +kernel
theorem dX12_init_1480 : decode cX12_init 1480 = .ok (.bipush 116, 2) := by decide +kernel
theorem dX12_init_1482 : decode cX12_init 1482 = .ok (.iconst 0, 1) := by decide +kernel
theorem dX12_init_1483 : decode cX12_init 1483 = .ok (.iconst 0, 1) := by decide +kernel
theorem dX12_init_1484 : decode cX12_init 1484 = .ok (.iconst 0, 1) := by decide +kernel
theorem dX12_init_1485 : decode cX12_init 1485 = .ok (.iconst 0, 1) := by decide +kernel
theorem dX12_init_1486 : decode cX12_init 1486 = .ok (.iconst 0, 1) := by decide +kernel
theorem dX12_init_1487 : decode cX12_init 1487 = .ok (.invokevirtual 305, 3) := by decide +kernel
theorem dX12_init_1490 : decode cX12_init 1490 = .ok (.aload_n 0, 1) := by decide +kernel
theorem dX12_init_1491 : decode cX12_init 1491 = .ok (.bipush 105, 2) := by decide +kernel
theorem dX12_init_1493 : decode cX12_init 1493 = .ok (.bipush 110, 2) := by decide +kernel
theorem dX12_init_1495 : decode cX12_init 1495 = .ok (.bipush 115, 2) := by decide +kernel
theorem dX12_init_1497 : decode cX12_init 1497 = .ok (.bipush 116, 2) := by decide +kernel
theorem dX12_init_1499 : decode cX12_init 1499 = .ok (.iconst 0, 1) := by decide +kernel
theorem dX12_init_1500 : decode cX12_init 1500 = .ok (.iconst 0, 1) := by decide +kernel
theorem dX12_init_1501 : decode cX12_init 1501 = .ok (.iconst 0, 1) := by decide +kernel
theorem dX12_init_1502 : decode cX12_init 1502 = .ok (.iconst 0, 1) := by decide +kernel
theorem dX12_init_1503 : decode cX12_init 1503 = .ok (.invokevirtual 305, 3) := by decide +kernel
theorem dX12_init_1506 : decode cX12_init 1506 = .ok (.aload_n 0, 1) := by decide +kernel
theorem dX12_init_1507 : decode cX12_init 1507 = .ok (.bipush 115, 2) := by decide +kernel
theorem dX12_init_1509 : decode cX12_init 1509 = .ok (.bipush 119, 2) := by decide +kernel
theorem dX12_init_1511 : decode cX12_init 1511 = .ok (.bipush 97, 2) := by decide +kernel
theorem dX12_init_1513 : decode cX12_init 1513 = .ok (.bipush 112, 2) := by decide +kernel
theorem dX12_init_1515 : decode cX12_init 1515 = .ok (.iconst 0, 1) := by decide +kernel
theorem dX12_init_1516 : decode cX12_init 1516 = .ok (.iconst 0, 1) := by decide +kernel
theorem dX12_init_1517 : decode cX12_init 1517 = .ok (.iconst 0, 1) := by decide +kernel
theorem dX12_init_1518 : decode cX12_init 1518 = .ok (.iconst 0, 1) := by decide +kernel
theorem dX12_init_1519 : decode cX12_init 1519 = .ok (.invokevirtual 305, 3) := by decide +kernel
theorem dX12_init_1522 : decode cX12_init 1522 = .ok (.aload_n 0, 1) := by decide +kernel
theorem dX12_init_1523 : decode cX12_init 1523 = .ok (.bipush 112, 2) := by decide +kernel
theorem dX12_init_1525 : decode cX12_init 1525 = .ok (.bipush 117, 2) := by decide +kernel
theorem dX12_init_1527 : decode cX12_init 1527 = .ok (.bipush 116, 2) := by decide +kernel
theorem dX12_init_1529 : decode cX12_init 1529 = .ok (.iconst 0, 1) := by decide +kernel
theorem dX12_init_1530 : decode cX12_init 1530 = .ok (.iconst 0, 1) := by decide +kernel
theorem dX12_init_1531 : decode cX12_init 1531 = .ok (.iconst 0, 1) := by decide +kernel
theorem dX12_init_1532 : decode cX12_init 1532 = .ok (.iconst 0, 1) := by decide +kernel
theorem dX12_init_1533 : decode cX12_init 1533 = .ok (.iconst 0, 1) := by decide +kernel
theorem dX12_init_1534 : decode cX12_init 1534 = .ok (.invokevirtual 305, 3) := by decide +kernel
theorem dX12_init_1537 : decode cX12_init 1537 = .ok (.return_, 1) := by decide +kernel
set_option maxRecDepth 20000 in
theorem ggX12_said_X12_spell : GoodIn wsX12_said wsX12_spell := goodIn_r _ [6, 7, 1, 34, 35, 36, 37, 38, 39, 40, 41, 42, 43, 44, 45, 46, 47, 48, 49, 50, 51, 52, 53, 54, 55, 56, 57, 58, 59, 60, 61, 62, 63, 64, 65, 66, 67, 68, 69, 70, 71, 72, 73, 74, 75, 76, 77, 78, 79, 80, 81, 82, 83, 84, 85, 86, 87, 88, 89, 90, 91, 92, 93, 94, 95, 96, 97, 98, 99, 100, 101, 102, 103, 104, 105, 106, 107, 108, 109, 110, 111, 112, 113, 114, 115, 116, 117, 118, 119, 120, 121, 122, 123, 124, 125, 126, 127, 128, 129, 130, 131, 132, 133, 134, 135, 136, 137, 138, 139, 140, 141, 142, 143, 144, 145, 146, 147, 148, 149, 150, 151, 152, 153, 154, 155, 156, 157, 158, 159, 160, 161, 162, 163, 164, 165, 166, 167, 168, 169, 170, 171, 172, 173, 174, 175, 176, 177, 178, 179, 180, 181, 182] (by decide +kernel) (by decide +kernel)
set_option maxRecDepth 20000 in
theorem gX12_said_X12_spell : GoodIn wsX12_said (wsV RX12 312 RX12 yX12_spell wsX12_spell) := goodIn_app (goodIn_of _ (by decide +kernel)) ggX12_said_X12_spell
set_option maxRecDepth 20000 in
theorem ggX12_said_X12_symbol : GoodIn wsX12_said wsX12_symbol := goodIn_r _ [11, 1, 12, 13, 14, 15, 16, 17, 18, 7, 19, 20, 21, 5, 22, 23, 24, 25, 26, 27, 28, 29, 30, 31, 32, 33, 34, 35, 36, 37, 38, 39, 40, 41, 42, 43, 44, 45, 46, 47, 48, 49, 50, 51, 52, 53, 54, 55, 56, 57, 58, 59, 60, 61, 62, 63, 64, 65, 66, 67, 68, 69, 70, 71, 72, 73, 74, 75, 76, 77, 78, 79, 80, 81, 82, 83, 84, 85, 86, 87, 88, 89, 90, 91, 92, 93, 94, 95, 96, 97, 98, 99, 100, 101, 102, 103, 104, 105, 106, 107, 108, 109, 110, 111, 112, 113, 114, 115, 116, 117, 118, 119, 120, 121, 122, 123, 124, 125, 126, 127, 128, 129, 130, 131, 132, 133, 134, 135, 136, 137, 138, 139, 140, 141, 142, 143, 144, 145, 146, 147, 148, 149, 150, 151, 152, 153, 154, 155, 156, 157, 158, 159, 160, 161, 162, 163, 164, 165, 166, 167, 168, 169, 170, 171, 172, 173, 174, 175, 176, 177, 178, 179, 180, 181, 182] (by decide +kernel) (by decide +kernel)
set_option maxRecDepth 20000 in
theorem gX12_said_X12_symbol : GoodIn wsX12_said (wsV RX12 316 RX12 yX12_symbol wsX12_symbol) := goodIn_app (goodIn_of _ (by decide +kernel)) ggX12_said_X12_symbol
theorem dX12_said_0 : decode cX12_said 0 = .ok (.aload_n 0, 1) := by decide +kernel
theorem dX12_said_1 : decode cX12_said 1 = .ok (.iconst 0, 1) := by decide +kernel
theorem dX12_said_2 : decode cX12_said 2 = .ok (.putfield 309, 3) := by decide +kernel
theorem dX12_said_5 : decode cX12_said 5 = .ok (.aload_n 0, 1) := by decide +kernel
theorem dX12_said_6 : decode cX12_said 6 = .ok (.iload_n 1, 1) := by decide +kernel
theorem dX12_said_7 : decode cX12_said 7 = .ok (.invokevirtual 312, 3) := by decide +kernel
theorem dX12_said_10 : decode cX12_said 10 = .ok (.aload_n 0, 1) := by decide +kernel
theorem dX12_said_11 : decode cX12_said 11 = .ok (.iload_n 2, 1) := by decide +kernel
theorem dX12_said_12 : decode cX12_said 12 = .ok (.invokevirtual 312, 3) := by decide +kernel
theorem dX12_said_15 : decode cX12_said 15 = .ok (.aload_n 0, 1) := by decide +kernel
theorem dX12_said_16 : decode cX12_said 16 = .ok (.iload_n 3, 1) := by decide +kernel
theorem dX12_said_17 : decode cX12_said 17 = .ok (.invokevirtual 312, 3) := by decide +kernel
theorem dX12_said_20 : decode cX12_said 20 = .ok (.aload_n 0, 1) := by decide +kernel
theorem dX12_said_21 : decode cX12_said 21 = .ok (.iload 4, 2) := by decide +kernel
theorem dX12_said_23 : decode cX12_said 23 = .ok (.invokevirtual 312, 3) := by decide +kernel
theorem dX12_said_26 : decode cX12_said 26 = .ok (.aload_n 0, 1) := by decide +kernel
theorem dX12_said_27 : decode cX12_said 27 = .ok (.iload 5, 2) := by decide +kernel
theorem dX12_said_29 : decode cX12_said 29 = .ok (.invokevirtual 312, 3) := by decide +kernel
theorem dX12_said_32 : decode cX12_said 32 = .ok (.aload_n 0, 1) := by decide +kernel
theorem dX12_said_33 : decode cX12_said 33 = .ok (.iload 6, 2) := by decide +kernel
theorem dX12_said_35 : decode cX12_said 35 = .ok (.invokevirtual 312, 3) := by decide +kernel
theorem dX12_said_38 : decode cX12_said 38 = .ok (.aload_n 0, 1) := by decide +kernel
theorem dX12_said_39 : decode cX12_said 39 = .ok (.iload 7, 2) := by decide +kernel
theorem dX12_said_41 : decode cX12_said 41 = .ok (.invokevirtual 312, 3) := by decide +kernel
theorem dX12_said_44 : decode cX12_said 44 = .ok (.aload_n 0, 1) := by decide +kernel
theorem dX12_said_45 : decode cX12_said 45 = .ok (.iload 8, 2) := by decide +kernel
theorem dX12_said_47 : decode cX12_said 47 = .ok (.invokevirtual 312, 3) := by decide +kernel
theorem dX12_said_50 : decode cX12_said 50 = .ok (.aload_n 0, 1) := by decide +kernel
theorem dX12_said_51 : decode cX12_said 51 = .ok (.invokevirtual 316, 3) := by decide +kernel
theorem dX12_said_54 : decode cX12_said 54 = .ok (.istore 9, 2) := by decide +kernel
theorem dX12_said_56 : decode cX12_said 56 = .ok (.return_, 1) := by decide +kernel
theorem dX12_spell_0 : decode cX12_spell 0 = .ok (.iload_n 1, 1) := by decide +kernel
theorem dX12_spell_1 : decode cX12_spell 1 = .ok (.ifCond .ne 4, 3) := by decide +kernel
theorem dX12_spell_4 : decode cX12_spell 4 = .ok (.return_, 1) := by decide +kernel
theorem dX12_spell_5 : decode cX12_spell 5 = .ok (.aload_n 0, 1) := by decide +kernel
theorem dX12_spell_6 : decode cX12_spell 6 = .ok (.getfield 50, 3) := by decide +kernel
theorem dX12_spell_9 : decode cX12_spell 9 = .ok (.aload_n 0, 1) := by decide +kernel
theorem dX12_spell_10 : decode cX12_spell 10 = .ok (.getfield 309, 3) := by decide +kernel
theorem dX12_spell_13 : decode cX12_spell 13 = .ok (.iload_n 1, 1) := by decide +kernel
theorem dX12_spell_14 : decode cX12_spell 14 = .ok (.iastore, 1) := by decide +kernel
theorem dX12_spell_15 : decode cX12_spell 15 = .ok (.aload_n 0, 1) := by decide +kernel
theorem dX12_spell_16 : decode cX12_spell 16 = .ok (.dup, 1) := by decide +kernel
theorem dX12_spell_17 : decode cX12_spell 17 = .ok (.getfield 309, 3) := by decide +kernel
theorem dX12_spell_20 : decode cX12_spell 20 = .ok (.iconst 1, 1) := by decide +kernel
theorem dX12_spell_21 : decode cX12_spell 21 = .ok (.iadd, 1) := by decide +kernel
theorem dX12_spell_22 : decode cX12_spell 22 = .ok (.putfield 309, 3) := by decide +kernel
theorem dX12_spell_25 : decode cX12_spell 25 = .ok (.return_, 1) := by decide +kernel
theorem dX12_slot_0 : decode cX12_slot 0 = .ok (.iload_n 0, 1) := by decide +kernel
theorem dX12_slot_1 : decode cX12_slot 1 = .ok (.ldc_w 320, 3) := by decide +kernel
theorem dX12_slot_4 : decode cX12_slot 4 = .ok (.imul, 1) := by decide +kernel
theorem dX12_slot_5 : decode cX12_slot 5 = .ok (.iload_n 1, 1) := by decide +kernel
theorem dX12_slot_6 : decode cX12_slot 6 = .ok (.sipush 30011, 3) := by decide +kernel
theorem dX12_slot_9 : decode cX12_slot 9 = .ok (.imul, 1) := by decide +kernel
theorem dX12_slot_10 : decode cX12_slot 10 = .ok (.iadd, 1) := by decide +kernel
theorem dX12_slot_11 : decode cX12_slot 11 = .ok (.bipush 7, 2) := by decide +kernel
theorem dX12_slot_13 : decode cX12_slot 13 = .ok (.iadd, 1) := by decide +kernel
theorem dX12_slot_14 : decode cX12_slot 14 = .ok (.iconst 2, 1) := by decide +kernel
theorem dX12_slot_15 : decode cX12_slot 15 = .ok (.iushr, 1) := by decide +kernel
theorem dX12_slot_16 : decode cX12_slot 16 = .ok (.sipush 8191, 3) := by decide +kernel
theorem dX12_slot_19 : decode cX12_slot 19 = .ok (.iand, 1) := by decide +kernel
theorem dX12_slot_20 : decode cX12_slot 20 = .ok (.ireturn, 1) := by decide +kernel
theorem dX12_spelled_0 : decode cX12_spelled 0 = .ok (.iconst 5, 1) := by decide +kernel
theorem dX12_spelled_1 : decode cX12_spelled 1 = .ok (.istore 4, 2) := by decide +kernel
theorem dX12_spelled_3 : decode cX12_spelled 3 = .ok (.iconst 0, 1) := by decide +kernel
theorem dX12_spelled_4 : decode cX12_spelled 4 = .ok (.istore 5, 2) := by decide +kernel
theorem dX12_spelled_6 : decode cX12_spelled 6 = .ok (.iload 5, 2) := by decide +kernel
theorem dX12_spelled_8 : decode cX12_spelled 8 = .ok (.iload_n 2, 1) := by decide +kernel
theorem dX12_spelled_9 : decode cX12_spelled 9 = .ok (.if_icmp .ge 41, 3) := by decide +kernel
theorem dX12_spelled_12 : decode cX12_spelled 12 = .ok (.sipush 131, 3) := by decide +kernel
theorem dX12_spelled_15 : decode cX12_spelled 15 = .ok (.iload 4, 2) := by decide +kernel
theorem dX12_spelled_17 : decode cX12_spelled 17 = .ok (.imul, 1) := by decide +kernel
theorem dX12_spelled_18 : decode cX12_spelled 18 = .ok (.iload_n 3, 1) := by decide +kernel
theorem dX12_spelled_19 : decode cX12_spelled 19 = .ok (.ifCond .eq 13, 3) := by decide +kernel
theorem dX12_spelled_22 : decode cX12_spelled 22 = .ok (.aload_n 0, 1) := by decide +kernel
theorem dX12_spelled_23 : decode cX12_spelled 23 = .ok (.getfield 50, 3) := by decide +kernel
theorem dX12_spelled_26 : decode cX12_spelled 26 = .ok (.iload 5, 2) := by decide +kernel
theorem dX12_spelled_28 : decode cX12_spelled 28 = .ok (.iaload, 1) := by decide +kernel
theorem dX12_spelled_29 : decode cX12_spelled 29 = .ok (.goto 12, 3) := by decide +kernel
theorem dX12_spelled_32 : decode cX12_spelled 32 = .ok (.aload_n 0, 1) := by decide +kernel
theorem dX12_spelled_33 : decode cX12_spelled 33 = .ok (.getfield 35, 3) := by decide +kernel
theorem dX12_spelled_36 : decode cX12_spelled 36 = .ok (.iload_n 1, 1) := by decide +kernel
theorem dX12_spelled_37 : decode cX12_spelled 37 = .ok (.iload 5, 2) := by decide +kernel
theorem dX12_spelled_39 : decode cX12_spelled 39 = .ok (.iadd, 1) := by decide +kernel
theorem dX12_spelled_40 : decode cX12_spelled 40 = .ok (.iaload, 1) := by decide +kernel
theorem dX12_spelled_41 : decode cX12_spelled 41 = .ok (.iadd, 1) := by decide +kernel
theorem dX12_spelled_42 : decode cX12_spelled 42 = .ok (.istore 4, 2) := by decide +kernel
theorem dX12_spelled_44 : decode cX12_spelled 44 = .ok (.iinc 5 1, 3) := by decide +kernel
theorem dX12_spelled_47 : decode cX12_spelled 47 = .ok (.goto (-41), 3) := by decide +kernel
theorem dX12_spelled_50 : decode cX12_spelled 50 = .ok (.iload 4, 2) := by decide +kernel
theorem dX12_spelled_52 : decode cX12_spelled 52 = .ok (.sipush 8191, 3) := by decide +kernel
theorem dX12_spelled_55 : decode cX12_spelled 55 = .ok (.iand, 1) := by decide +kernel
theorem dX12_spelled_56 : decode cX12_spelled 56 = .ok (.ireturn, 1) := by decide +kernel
theorem dX12_added_0 : decode cX12_added 0 = .ok (.aload_n 0, 1) := by decide +kernel
theorem dX12_added_1 : decode cX12_added 1 = .ok (.getfield 8, 3) := by decide +kernel
theorem dX12_added_4 : decode cX12_added 4 = .ok (.aload_n 0, 1) := by decide +kernel
theorem dX12_added_5 : decode cX12_added 5 = .ok (.getfield 332, 3) := by decide +kernel
theorem dX12_added_8 : decode cX12_added 8 = .ok (.iload_n 1, 1) := by decide +kernel
theorem dX12_added_9 : decode cX12_added 9 = .ok (.iastore, 1) := by decide +kernel
theorem dX12_added_10 : decode cX12_added 10 = .ok (.aload_n 0, 1) := by decide +kernel
theorem dX12_added_11 : decode cX12_added 11 = .ok (.getfield 14, 3) := by decide +kernel
theorem dX12_added_14 : decode cX12_added 14 = .ok (.aload_n 0, 1) := by decide +kernel
theorem dX12_added_15 : decode cX12_added 15 = .ok (.getfield 332, 3) := by decide +kernel
theorem dX12_added_18 : decode cX12_added 18 = .ok (.iload_n 2, 1) := by decide +kernel
theorem dX12_added_19 : decode cX12_added 19 = .ok (.iastore, 1) := by decide +kernel
theorem dX12_added_20 : decode cX12_added 20 = .ok (.aload_n 0, 1) := by decide +kernel
theorem dX12_added_21 : decode cX12_added 21 = .ok (.getfield 17, 3) := by decide +kernel
theorem dX12_added_24 : decode cX12_added 24 = .ok (.aload_n 0, 1) := by decide +kernel
theorem dX12_added_25 : decode cX12_added 25 = .ok (.getfield 332, 3) := by decide +kernel
theorem dX12_added_28 : decode cX12_added 28 = .ok (.aload_n 0, 1) := by decide +kernel
theorem dX12_added_29 : decode cX12_added 29 = .ok (.getfield 31, 3) := by decide +kernel
theorem dX12_added_32 : decode cX12_added 32 = .ok (.iload_n 3, 1) := by decide +kernel
theorem dX12_added_33 : decode cX12_added 33 = .ok (.iaload, 1) := by decide +kernel
theorem dX12_added_34 : decode cX12_added 34 = .ok (.iastore, 1) := by decide +kernel
theorem dX12_added_35 : decode cX12_added 35 = .ok (.aload_n 0, 1) := by decide +kernel
theorem dX12_added_36 : decode cX12_added 36 = .ok (.getfield 20, 3) := by decide +kernel
theorem dX12_added_39 : decode cX12_added 39 = .ok (.aload_n 0, 1) := by decide +kernel
theorem dX12_added_40 : decode cX12_added 40 = .ok (.getfield 332, 3) := by decide +kernel
theorem dX12_added_43 : decode cX12_added 43 = .ok (.iconst 0, 1) := by decide +kernel
theorem dX12_added_44 : decode cX12_added 44 = .ok (.iastore, 1) := by decide +kernel
theorem dX12_added_45 : decode cX12_added 45 = .ok (.aload_n 0, 1) := by decide +kernel
theorem dX12_added_46 : decode cX12_added 46 = .ok (.getfield 23, 3) := by decide +kernel
theorem dX12_added_49 : decode cX12_added 49 = .ok (.aload_n 0, 1) := by decide +kernel
theorem dX12_added_50 : decode cX12_added 50 = .ok (.getfield 332, 3) := by decide +kernel
theorem dX12_added_53 : decode cX12_added 53 = .ok (.iload_n 1, 1) := by decide +kernel
theorem dX12_added_54 : decode cX12_added 54 = .ok (.ifCond .ge 7, 3) := by decide +kernel
theorem dX12_added_57 : decode cX12_added 57 = .ok (.iconst 0, 1) := by decide +kernel
theorem dX12_added_58 : decode cX12_added 58 = .ok (.goto 35, 3) := by decide +kernel
theorem dX12_added_61 : decode cX12_added 61 = .ok (.iconst 1, 1) := by decide +kernel
theorem dX12_added_62 : decode cX12_added 62 = .ok (.aload_n 0, 1) := by decide +kernel
theorem dX12_added_63 : decode cX12_added 63 = .ok (.getfield 23, 3) := by decide +kernel
theorem dX12_added_66 : decode cX12_added 66 = .ok (.iload_n 1, 1) := by decide +kernel
theorem dX12_added_67 : decode cX12_added 67 = .ok (.iaload, 1) := by decide +kernel
theorem dX12_added_68 : decode cX12_added 68 = .ok (.aload_n 0, 1) := by decide +kernel
theorem dX12_added_69 : decode cX12_added 69 = .ok (.getfield 23, 3) := by decide +kernel
theorem dX12_added_72 : decode cX12_added 72 = .ok (.iload_n 2, 1) := by decide +kernel
theorem dX12_added_73 : decode cX12_added 73 = .ok (.iaload, 1) := by decide +kernel
theorem dX12_added_74 : decode cX12_added 74 = .ok (.if_icmp .le 12, 3) := by decide +kernel
theorem dX12_added_77 : decode cX12_added 77 = .ok (.aload_n 0, 1) := by decide +kernel
theorem dX12_added_78 : decode cX12_added 78 = .ok (.getfield 23, 3) := by decide +kernel
theorem dX12_added_81 : decode cX12_added 81 = .ok (.iload_n 1, 1) := by decide +kernel
theorem dX12_added_82 : decode cX12_added 82 = .ok (.iaload, 1) := by decide +kernel
theorem dX12_added_83 : decode cX12_added 83 = .ok (.goto 9, 3) := by decide +kernel
theorem dX12_added_86 : decode cX12_added 86 = .ok (.aload_n 0, 1) := by decide +kernel
theorem dX12_added_87 : decode cX12_added 87 = .ok (.getfield 23, 3) := by decide +kernel
theorem dX12_added_90 : decode cX12_added 90 = .ok (.iload_n 2, 1) := by decide +kernel
theorem dX12_added_91 : decode cX12_added 91 = .ok (.iaload, 1) := by decide +kernel
theorem dX12_added_92 : decode cX12_added 92 = .ok (.iadd, 1) := by decide +kernel
theorem dX12_added_93 : decode cX12_added 93 = .ok (.iastore, 1) := by decide +kernel
theorem dX12_added_94 : decode cX12_added 94 = .ok (.aload_n 0, 1) := by decide +kernel
theorem dX12_added_95 : decode cX12_added 95 = .ok (.getfield 31, 3) := by decide +kernel
theorem dX12_added_98 : decode cX12_added 98 = .ok (.iload_n 3, 1) := by decide +kernel
theorem dX12_added_99 : decode cX12_added 99 = .ok (.aload_n 0, 1) := by decide +kernel
theorem dX12_added_100 : decode cX12_added 100 = .ok (.getfield 332, 3) := by decide +kernel
theorem dX12_added_103 : decode cX12_added 103 = .ok (.iastore, 1) := by decide +kernel
theorem dX12_added_104 : decode cX12_added 104 = .ok (.aload_n 0, 1) := by decide +kernel
theorem dX12_added_105 : decode cX12_added 105 = .ok (.dup, 1) := by decide +kernel
theorem dX12_added_106 : decode cX12_added 106 = .ok (.getfield 332, 3) := by decide +kernel
theorem dX12_added_109 : decode cX12_added 109 = .ok (.iconst 1, 1) := by decide +kernel
theorem dX12_added_110 : decode cX12_added 110 = .ok (.iadd, 1) := by decide +kernel
theorem dX12_added_111 : decode cX12_added 111 = .ok (.putfield 332, 3) := by decide +kernel
theorem dX12_added_114 : decode cX12_added 114 = .ok (.aload_n 0, 1) := by decide +kernel
theorem dX12_added_115 : decode cX12_added 115 = .ok (.getfield 332, 3) := by decide +kernel
theorem dX12_added_118 : decode cX12_added 118 = .ok (.iconst 1, 1) := by decide +kernel
theorem dX12_added_119 : decode cX12_added 119 = .ok (.isub, 1) := by decide +kernel
theorem dX12_added_120 : decode cX12_added 120 = .ok (.ireturn, 1) := by decide +kernel
theorem dX12_isWord_0 : decode cX12_isWord 0 = .ok (.aload_n 0, 1) := by decide +kernel
theorem dX12_isWord_1 : decode cX12_isWord 1 = .ok (.getfield 38, 3) := by decide +kernel
theorem dX12_isWord_4 : decode cX12_isWord 4 = .ok (.iload_n 1, 1) := by decide +kernel
theorem dX12_isWord_5 : decode cX12_isWord 5 = .ok (.iaload, 1) := by decide +kernel
theorem dX12_isWord_6 : decode cX12_isWord 6 = .ok (.aload_n 0, 1) := by decide +kernel
theorem dX12_isWord_7 : decode cX12_isWord 7 = .ok (.getfield 309, 3) := by decide +kernel
theorem dX12_isWord_10 : decode cX12_isWord 10 = .ok (.if_icmp .ne 7, 3) := by decide +kernel
theorem dX12_isWord_13 : decode cX12_isWord 13 = .ok (.iconst 1, 1) := by decide +kernel
theorem dX12_isWord_14 : decode cX12_isWord 14 = .ok (.goto 4, 3) := by decide +kernel
theorem dX12_isWord_17 : decode cX12_isWord 17 = .ok (.iconst 0, 1) := by decide +kernel
theorem dX12_isWord_18 : decode cX12_isWord 18 = .ok (.istore_n 2, 1) := by decide +kernel
theorem dX12_isWord_19 : decode cX12_isWord 19 = .ok (.iconst 0, 1) := by decide +kernel
theorem dX12_isWord_20 : decode cX12_isWord 20 = .ok (.istore_n 3, 1) := by decide +kernel
theorem dX12_isWord_21 : decode cX12_isWord 21 = .ok (.iload_n 3, 1) := by decide +kernel
theorem dX12_isWord_22 : decode cX12_isWord 22 = .ok (.aload_n 0, 1) := by decide +kernel
theorem dX12_isWord_23 : decode cX12_isWord 23 = .ok (.getfield 309, 3) := by decide +kernel
theorem dX12_isWord_26 : decode cX12_isWord 26 = .ok (.if_icmp .ge 39, 3) := by decide +kernel
theorem dX12_isWord_29 : decode cX12_isWord 29 = .ok (.iload_n 2, 1) := by decide +kernel
theorem dX12_isWord_30 : decode cX12_isWord 30 = .ok (.ifCond .eq 35, 3) := by decide +kernel
theorem dX12_isWord_33 : decode cX12_isWord 33 = .ok (.aload_n 0, 1) := by decide +kernel
theorem dX12_isWord_34 : decode cX12_isWord 34 = .ok (.getfield 35, 3) := by decide +kernel
theorem dX12_isWord_37 : decode cX12_isWord 37 = .ok (.bipush 12, 2) := by decide +kernel
theorem dX12_isWord_39 : decode cX12_isWord 39 = .ok (.iload_n 1, 1) := by decide +kernel
theorem dX12_isWord_40 : decode cX12_isWord 40 = .ok (.imul, 1) := by decide +kernel
theorem dX12_isWord_41 : decode cX12_isWord 41 = .ok (.iload_n 3, 1) := by decide +kernel
theorem dX12_isWord_42 : decode cX12_isWord 42 = .ok (.iadd, 1) := by decide +kernel
theorem dX12_isWord_43 : decode cX12_isWord 43 = .ok (.iaload, 1) := by decide +kernel
theorem dX12_isWord_44 : decode cX12_isWord 44 = .ok (.aload_n 0, 1) := by decide +kernel
theorem dX12_isWord_45 : decode cX12_isWord 45 = .ok (.getfield 50, 3) := by decide +kernel
theorem dX12_isWord_48 : decode cX12_isWord 48 = .ok (.iload_n 3, 1) := by decide +kernel
theorem dX12_isWord_49 : decode cX12_isWord 49 = .ok (.iaload, 1) := by decide +kernel
theorem dX12_isWord_50 : decode cX12_isWord 50 = .ok (.if_icmp .ne 7, 3) := by decide +kernel
theorem dX12_isWord_53 : decode cX12_isWord 53 = .ok (.iconst 1, 1) := by decide +kernel
theorem dX12_isWord_54 : decode cX12_isWord 54 = .ok (.goto 4, 3) := by decide +kernel
theorem dX12_isWord_57 : decode cX12_isWord 57 = .ok (.iconst 0, 1) := by decide +kernel
theorem dX12_isWord_58 : decode cX12_isWord 58 = .ok (.istore_n 2, 1) := by decide +kernel
theorem dX12_isWord_59 : decode cX12_isWord 59 = .ok (.iinc 3 1, 3) := by decide +kernel
theorem dX12_isWord_62 : decode cX12_isWord 62 = .ok (.goto (-41), 3) := by decide +kernel
theorem dX12_isWord_65 : decode cX12_isWord 65 = .ok (.iload_n 2, 1) := by decide +kernel
theorem dX12_isWord_66 : decode cX12_isWord 66 = .ok (.ireturn, 1) := by decide +kernel
set_option maxRecDepth 20000 in
theorem ggX12_symbol_X12_spelled : GoodIn wsX12_symbol wsX12_spelled := goodIn_r _ [14, 9, 8, 26, 27, 28, 29, 30, 31, 32, 33, 34, 35, 36, 37, 38, 39, 40, 41, 42, 43, 44, 45, 46, 47, 48, 49, 50, 51, 52, 53, 54, 55, 56, 57, 58, 59, 60, 61, 62, 63, 64, 65, 66, 67, 68, 69, 70, 71, 72, 73, 74, 75, 76, 77, 78, 79, 80, 81, 82, 83, 84, 85, 86, 87, 88, 89, 90, 91, 92, 93, 94, 95, 96, 97, 98, 99, 100, 101, 102, 103, 104, 105, 106, 107, 108, 109, 110, 111, 112, 113, 114, 115, 116, 117, 118, 119, 120, 121, 122, 123, 124, 125, 126, 127, 128, 129, 130, 131, 132, 133, 134, 135, 136, 137, 138, 139, 140, 141, 142, 143, 144, 145, 146, 147, 148, 149, 150, 151, 152, 153, 154, 155, 156, 157, 158, 159, 160, 161, 162, 163, 164, 165, 166, 167, 168, 169, 170, 171, 172, 173, 174] (by decide +kernel) (by decide +kernel)
set_option maxRecDepth 20000 in
theorem gX12_symbol_X12_spelled : GoodIn wsX12_symbol (wsV RX12 328 RX12 yX12_spelled wsX12_spelled) := goodIn_app (goodIn_of _ (by decide +kernel)) ggX12_symbol_X12_spelled
set_option maxRecDepth 20000 in
theorem ggX12_symbol_X12_isWord : GoodIn wsX12_symbol wsX12_isWord := goodIn_r _ [18, 6, 1, 8, 9, 26, 27, 28, 29, 30, 31, 32, 33, 34, 35, 36, 37, 38, 39, 40, 41, 42, 43, 44, 45, 46, 47, 48, 49, 50, 51, 52, 53, 54, 55, 56, 57, 58, 59, 60, 61, 62, 63, 64, 65, 66, 67, 68, 69, 70, 71, 72, 73, 74, 75, 76, 77, 78, 79, 80, 81, 82, 83, 84, 85, 86, 87, 88, 89, 90, 91, 92, 93, 94, 95, 96, 97, 98, 99, 100, 101, 102, 103, 104, 105, 106, 107, 108, 109, 110, 111, 112, 113, 114, 115, 116, 117, 118, 119, 120, 121, 122, 123, 124, 125, 126, 127, 128, 129, 130, 131, 132, 133, 134, 135, 136, 137, 138, 139, 140, 141, 142, 143, 144, 145, 146, 147, 148, 149, 150, 151, 152, 153, 154, 155, 156, 157, 158, 159, 160, 161, 162, 163, 164, 165, 166, 167, 168, 169, 170, 171, 172, 173, 174] (by decide +kernel) (by decide +kernel)
set_option maxRecDepth 20000 in
theorem gX12_symbol_X12_isWord : GoodIn wsX12_symbol (wsV RX12 342 RX12 yX12_isWord wsX12_isWord) := goodIn_app (goodIn_of _ (by decide +kernel)) ggX12_symbol_X12_isWord
set_option maxRecDepth 20000 in
theorem ggX12_symbol_X12_added : GoodIn wsX12_symbol wsX12_added := goodIn_r _ [22, 3, 23, 4, 5, 2, 24, 25, 26, 27, 28, 29, 30, 31, 32, 33, 34, 35, 36, 37, 38, 39, 40, 41, 42, 43, 44, 45, 46, 47, 48, 49, 50, 51, 52, 53, 54, 55, 56, 57, 58, 59, 60, 61, 62, 63, 64, 65, 66, 67, 68, 69, 70, 71, 72, 73, 74, 75, 76, 77, 78, 79, 80, 81, 82, 83, 84, 85, 86, 87, 88, 89, 90, 91, 92, 93, 94, 95, 96, 97, 98, 99, 100, 101, 102, 103, 104, 105, 106, 107, 108, 109, 110, 111, 112, 113, 114, 115, 116, 117, 118, 119, 120, 121, 122, 123, 124, 125, 126, 127, 128, 129, 130, 131, 132, 133, 134, 135, 136, 137, 138, 139, 140, 141, 142, 143, 144, 145, 146, 147, 148, 149, 150, 151, 152, 153, 154, 155, 156, 157, 158, 159, 160, 161, 162, 163, 164, 165, 166, 167, 168, 169, 170, 171, 172, 173, 174] (by decide +kernel) (by decide +kernel)
set_option maxRecDepth 20000 in
theorem gX12_symbol_X12_added : GoodIn wsX12_symbol (wsV RX12 335 RX12 yX12_added wsX12_added) := goodIn_app (goodIn_of _ (by decide +kernel)) ggX12_symbol_X12_added
theorem dX12_symbol_0 : decode cX12_symbol 0 = .ok (.aload_n 0, 1) := by decide +kernel
theorem dX12_symbol_1 : decode cX12_symbol 1 = .ok (.iconst 0, 1) := by decide +kernel
theorem dX12_symbol_2 : decode cX12_symbol 2 = .ok (.aload_n 0, 1) := by decide +kernel
theorem dX12_symbol_3 : decode cX12_symbol 3 = .ok (.getfield 309, 3) := by decide +kernel
theorem dX12_symbol_6 : decode cX12_symbol 6 = .ok (.iconst 1, 1) := by decide +kernel
theorem dX12_symbol_7 : decode cX12_symbol 7 = .ok (.invokevirtual 328, 3) := by decide +kernel
theorem dX12_symbol_10 : decode cX12_symbol 10 = .ok (.istore_n 1, 1) := by decide +kernel
theorem dX12_symbol_11 : decode cX12_symbol 11 = .ok (.aload_n 0, 1) := by decide +kernel
theorem dX12_symbol_12 : decode cX12_symbol 12 = .ok (.getfield 31, 3) := by decide +kernel
theorem dX12_symbol_15 : decode cX12_symbol 15 = .ok (.iload_n 1, 1) := by decide +kernel
theorem dX12_symbol_16 : decode cX12_symbol 16 = .ok (.iaload, 1) := by decide +kernel
theorem dX12_symbol_17 : decode cX12_symbol 17 = .ok (.istore_n 2, 1) := by decide +kernel
theorem dX12_symbol_18 : decode cX12_symbol 18 = .ok (.iload_n 2, 1) := by decide +kernel
theorem dX12_symbol_19 : decode cX12_symbol 19 = .ok (.iconst (-1), 1) := by decide +kernel
theorem dX12_symbol_20 : decode cX12_symbol 20 = .ok (.if_icmp .eq 39, 3) := by decide +kernel
theorem dX12_symbol_23 : decode cX12_symbol 23 = .ok (.aload_n 0, 1) := by decide +kernel
theorem dX12_symbol_24 : decode cX12_symbol 24 = .ok (.getfield 8, 3) := by decide +kernel
theorem dX12_symbol_27 : decode cX12_symbol 27 = .ok (.iload_n 2, 1) := by decide +kernel
theorem dX12_symbol_28 : decode cX12_symbol 28 = .ok (.iaload, 1) := by decide +kernel
theorem dX12_symbol_29 : decode cX12_symbol 29 = .ok (.bipush (-2), 2) := by decide +kernel
theorem dX12_symbol_31 : decode cX12_symbol 31 = .ok (.if_icmp .ne 18, 3) := by decide +kernel
theorem dX12_symbol_34 : decode cX12_symbol 34 = .ok (.aload_n 0, 1) := by decide +kernel
theorem dX12_symbol_35 : decode cX12_symbol 35 = .ok (.aload_n 0, 1) := by decide +kernel
theorem dX12_symbol_36 : decode cX12_symbol 36 = .ok (.getfield 14, 3) := by decide +kernel
theorem dX12_symbol_39 : decode cX12_symbol 39 = .ok (.iload_n 2, 1) := by decide +kernel
theorem dX12_symbol_40 : decode cX12_symbol 40 = .ok (.iaload, 1) := by decide +kernel
theorem dX12_symbol_41 : decode cX12_symbol 41 = .ok (.invokevirtual 342, 3) := by decide +kernel
theorem dX12_symbol_44 : decode cX12_symbol 44 = .ok (.ifCond .eq 5, 3) := by decide +kernel
theorem dX12_symbol_47 : decode cX12_symbol 47 = .ok (.iload_n 2, 1) := by decide +kernel
theorem dX12_symbol_48 : decode cX12_symbol 48 = .ok (.ireturn, 1) := by decide +kernel
theorem dX12_symbol_49 : decode cX12_symbol 49 = .ok (.aload_n 0, 1) := by decide +kernel
theorem dX12_symbol_50 : decode cX12_symbol 50 = .ok (.getfield 17, 3) := by decide +kernel
theorem dX12_symbol_53 : decode cX12_symbol 53 = .ok (.iload_n 2, 1) := by decide +kernel
theorem dX12_symbol_54 : decode cX12_symbol 54 = .ok (.iaload, 1) := by decide +kernel
theorem dX12_symbol_55 : decode cX12_symbol 55 = .ok (.istore_n 2, 1) := by decide +kernel
theorem dX12_symbol_56 : decode cX12_symbol 56 = .ok (.goto (-38), 3) := by decide +kernel
theorem dX12_symbol_59 : decode cX12_symbol 59 = .ok (.aload_n 0, 1) := by decide +kernel
theorem dX12_symbol_60 : decode cX12_symbol 60 = .ok (.getfield 38, 3) := by decide +kernel
theorem dX12_symbol_63 : decode cX12_symbol 63 = .ok (.aload_n 0, 1) := by decide +kernel
theorem dX12_symbol_64 : decode cX12_symbol 64 = .ok (.getfield 346, 3) := by decide +kernel
theorem dX12_symbol_67 : decode cX12_symbol 67 = .ok (.aload_n 0, 1) := by decide +kernel
theorem dX12_symbol_68 : decode cX12_symbol 68 = .ok (.getfield 309, 3) := by decide +kernel
theorem dX12_symbol_71 : decode cX12_symbol 71 = .ok (.iastore, 1) := by decide +kernel
theorem dX12_symbol_72 : decode cX12_symbol 72 = .ok (.iconst 0, 1) := by decide +kernel
theorem dX12_symbol_73 : decode cX12_symbol 73 = .ok (.istore_n 2, 1) := by decide +kernel
theorem dX12_symbol_74 : decode cX12_symbol 74 = .ok (.iload_n 2, 1) := by decide +kernel
theorem dX12_symbol_75 : decode cX12_symbol 75 = .ok (.aload_n 0, 1) := by decide +kernel
theorem dX12_symbol_76 : decode cX12_symbol 76 = .ok (.getfield 309, 3) := by decide +kernel
theorem dX12_symbol_79 : decode cX12_symbol 79 = .ok (.if_icmp .ge 29, 3) := by decide +kernel
theorem dX12_symbol_82 : decode cX12_symbol 82 = .ok (.aload_n 0, 1) := by decide +kernel
theorem dX12_symbol_83 : decode cX12_symbol 83 = .ok (.getfield 35, 3) := by decide +kernel
theorem dX12_symbol_86 : decode cX12_symbol 86 = .ok (.bipush 12, 2) := by decide +kernel
theorem dX12_symbol_88 : decode cX12_symbol 88 = .ok (.aload_n 0, 1) := by decide +kernel
theorem dX12_symbol_89 : decode cX12_symbol 89 = .ok (.getfield 346, 3) := by decide +kernel
theorem dX12_symbol_92 : decode cX12_symbol 92 = .ok (.imul, 1) := by decide +kernel
theorem dX12_symbol_93 : decode cX12_symbol 93 = .ok (.iload_n 2, 1) := by decide +kernel
theorem dX12_symbol_94 : decode cX12_symbol 94 = .ok (.iadd, 1) := by decide +kernel
theorem dX12_symbol_95 : decode cX12_symbol 95 = .ok (.aload_n 0, 1) := by decide +kernel
theorem dX12_symbol_96 : decode cX12_symbol 96 = .ok (.getfield 50, 3) := by decide +kernel
theorem dX12_symbol_99 : decode cX12_symbol 99 = .ok (.iload_n 2, 1) := by decide +kernel
theorem dX12_symbol_100 : decode cX12_symbol 100 = .ok (.iaload, 1) := by decide +kernel
theorem dX12_symbol_101 : decode cX12_symbol 101 = .ok (.iastore, 1) := by decide +kernel
theorem dX12_symbol_102 : decode cX12_symbol 102 = .ok (.iinc 2 1, 3) := by decide +kernel
theorem dX12_symbol_105 : decode cX12_symbol 105 = .ok (.goto (-31), 3) := by decide +kernel
theorem dX12_symbol_108 : decode cX12_symbol 108 = .ok (.aload_n 0, 1) := by decide +kernel
theorem dX12_symbol_109 : decode cX12_symbol 109 = .ok (.dup, 1) := by decide +kernel
theorem dX12_symbol_110 : decode cX12_symbol 110 = .ok (.getfield 346, 3) := by decide +kernel
theorem dX12_symbol_113 : decode cX12_symbol 113 = .ok (.iconst 1, 1) := by decide +kernel
theorem dX12_symbol_114 : decode cX12_symbol 114 = .ok (.iadd, 1) := by decide +kernel
theorem dX12_symbol_115 : decode cX12_symbol 115 = .ok (.putfield 346, 3) := by decide +kernel
theorem dX12_symbol_118 : decode cX12_symbol 118 = .ok (.aload_n 0, 1) := by decide +kernel
theorem dX12_symbol_119 : decode cX12_symbol 119 = .ok (.bipush (-2), 2) := by decide +kernel
theorem dX12_symbol_121 : decode cX12_symbol 121 = .ok (.aload_n 0, 1) := by decide +kernel
theorem dX12_symbol_122 : decode cX12_symbol 122 = .ok (.getfield 346, 3) := by decide +kernel
theorem dX12_symbol_125 : decode cX12_symbol 125 = .ok (.iconst 1, 1) := by decide +kernel
theorem dX12_symbol_126 : decode cX12_symbol 126 = .ok (.isub, 1) := by decide +kernel
theorem dX12_symbol_127 : decode cX12_symbol 127 = .ok (.iload_n 1, 1) := by decide +kernel
theorem dX12_symbol_128 : decode cX12_symbol 128 = .ok (.invokevirtual 335, 3) := by decide +kernel
theorem dX12_symbol_131 : decode cX12_symbol 131 = .ok (.ireturn, 1) := by decide +kernel
theorem dX12_isPair_0 : decode cX12_isPair 0 = .ok (.aload_n 0, 1) := by decide +kernel
theorem dX12_isPair_1 : decode cX12_isPair 1 = .ok (.getfield 8, 3) := by decide +kernel
theorem dX12_isPair_4 : decode cX12_isPair 4 = .ok (.iload_n 1, 1) := by decide +kernel
theorem dX12_isPair_5 : decode cX12_isPair 5 = .ok (.iaload, 1) := by decide +kernel
theorem dX12_isPair_6 : decode cX12_isPair 6 = .ok (.ifCond .lt 7, 3) := by decide +kernel
theorem dX12_isPair_9 : decode cX12_isPair 9 = .ok (.iconst 1, 1) := by decide +kernel
theorem dX12_isPair_10 : decode cX12_isPair 10 = .ok (.goto 4, 3) := by decide +kernel
theorem dX12_isPair_13 : decode cX12_isPair 13 = .ok (.iconst 0, 1) := by decide +kernel
theorem dX12_isPair_14 : decode cX12_isPair 14 = .ok (.ireturn, 1) := by decide +kernel
theorem dX12_isNatural_0 : decode cX12_isNatural 0 = .ok (.aload_n 0, 1) := by decide +kernel
theorem dX12_isNatural_1 : decode cX12_isNatural 1 = .ok (.getfield 8, 3) := by decide +kernel
theorem dX12_isNatural_4 : decode cX12_isNatural 4 = .ok (.iload_n 1, 1) := by decide +kernel
theorem dX12_isNatural_5 : decode cX12_isNatural 5 = .ok (.iaload, 1) := by decide +kernel
theorem dX12_isNatural_6 : decode cX12_isNatural 6 = .ok (.iconst (-1), 1) := by decide +kernel
theorem dX12_isNatural_7 : decode cX12_isNatural 7 = .ok (.if_icmp .ne 7, 3) := by decide +kernel
theorem dX12_isNatural_10 : decode cX12_isNatural 10 = .ok (.iconst 1, 1) := by decide +kernel
theorem dX12_isNatural_11 : decode cX12_isNatural 11 = .ok (.goto 4, 3) := by decide +kernel
theorem dX12_isNatural_14 : decode cX12_isNatural 14 = .ok (.iconst 0, 1) := by decide +kernel
theorem dX12_isNatural_15 : decode cX12_isNatural 15 = .ok (.ireturn, 1) := by decide +kernel
theorem dX12_isSymbol_0 : decode cX12_isSymbol 0 = .ok (.aload_n 0, 1) := by decide +kernel
theorem dX12_isSymbol_1 : decode cX12_isSymbol 1 = .ok (.getfield 8, 3) := by decide +kernel
theorem dX12_isSymbol_4 : decode cX12_isSymbol 4 = .ok (.iload_n 1, 1) := by decide +kernel
theorem dX12_isSymbol_5 : decode cX12_isSymbol 5 = .ok (.iaload, 1) := by decide +kernel
theorem dX12_isSymbol_6 : decode cX12_isSymbol 6 = .ok (.bipush (-2), 2) := by decide +kernel
theorem dX12_isSymbol_8 : decode cX12_isSymbol 8 = .ok (.if_icmp .ne 7, 3) := by decide +kernel
theorem dX12_isSymbol_11 : decode cX12_isSymbol 11 = .ok (.iconst 1, 1) := by decide +kernel
theorem dX12_isSymbol_12 : decode cX12_isSymbol 12 = .ok (.goto 4, 3) := by decide +kernel
theorem dX12_isSymbol_15 : decode cX12_isSymbol 15 = .ok (.iconst 0, 1) := by decide +kernel
theorem dX12_isSymbol_16 : decode cX12_isSymbol 16 = .ok (.ireturn, 1) := by decide +kernel
abbrev vwCl : List vw_C := [(RX0, TX0, 21), (RX1, TX1, 4), (RX2, TX2, 15), (RX3, TX3, 11), (RX4, TX4, 11), (RX5, TX5, 11), (RX6, TX6, 14), (RX7, TX7, 9), (RX8, TX8, 11), (RX9, TX9, 4), (RX10, TX10, 16), (RX11, TX11, 21), (RX12, TX12, 149)]
