def wsX0_init_r1 : List Cond := [Cond.methodLink RX0 3 objectInit, Cond.instanceMethod objectInit, Cond.code objectInit ⟨#[0xb1]⟩ 1 none, Cond.arrayClass .int, Cond.fieldLink RX0 9 "ProofHouse$Book" "functionNames" "[I", Cond.fieldLink RX0 15 "ProofHouse$Book" "parameters" "[I", Cond.fieldLink RX0 18 "ProofHouse$Book" "arities" "[I", Cond.fieldLink RX0 21 "ProofHouse$Book" "bodies" "[I", Cond.fieldLink RX0 24 "ProofHouse$Book" "measures" "[I", Cond.fieldLink RX0 27 "ProofHouse$Book" "functions" "I", Cond.fieldLink RX0 31 "ProofHouse$Book" "theoremNames" "[I", Cond.fieldLink RX0 34 "ProofHouse$Book" "formulas" "[I", Cond.fieldLink RX0 37 "ProofHouse$Book" "lefts" "[I", Cond.fieldLink RX0 40 "ProofHouse$Book" "rights" "[I", Cond.classLink RX0 43 "[[I", Cond.fieldLink RX0 45 "ProofHouse$Book" "hypotheses" "[[I", Cond.fieldLink RX0 48 "ProofHouse$Book" "hypothesisCounts" "[I", Cond.arrayClass .boolean, Cond.fieldLink RX0 51 "ProofHouse$Book" "truthAlone" "[Z", Cond.fieldLink RX0 55 "ProofHouse$Book" "turning" "[Z", Cond.fieldLink RX0 58 "ProofHouse$Book" "on" "[Z", Cond.fieldLink RX0 61 "ProofHouse$Book" "muted" "[Z", Cond.fieldLink RX0 64 "ProofHouse$Book" "theorems" "I", Cond.fieldLink RX0 67 "ProofHouse$Book" "kinds" "[I"]
def wsX0_init_r2 : List Cond := [Cond.fieldLink RX0 70 "ProofHouse$Book" "marks" "[I", Cond.fieldLink RX0 73 "ProofHouse$Book" "entries" "I", Cond.fieldLink RX0 76 "ProofHouse$Book" "kept" "I"]
def wsX0_init : List Cond := .code yX0_init cX0_init 2 none :: ((wsX0_init_r1 ++ wsX0_init_r2) ++ wsX00)
def wsX1_init : List Cond := .code yX1_init cX1_init 1 none :: ([.methodLink RX1 3 objectInit, .instanceMethod objectInit, .code objectInit ⟨#[0xb1]⟩ 1 none, .arrayClass .int, .fieldLink RX1 11 "ProofHouse$Clause" "literals" "[I", .fieldLink RX1 15 "ProofHouse$Clause" "length" "I", .fieldLink RX1 19 "ProofHouse$Clause" "weight" "I", .fieldLink RX1 22 "ProofHouse$Clause" "rounds" "I"] ++ wsX10)
def wsX2_init : List Cond := .code yX2_init cX2_init 3 none :: ([.methodLink RX2 3 objectInit, .instanceMethod objectInit, .code objectInit ⟨#[0xb1]⟩ 1 none, .arrayClass .int, .fieldLink RX2 11 "ProofHouse$Evaluator" "names" "[I", .fieldLink RX2 15 "ProofHouse$Evaluator" "rests" "[I", .fieldLink RX2 18 "ProofHouse$Evaluator" "bases" "[I", .arrayClass .boolean, .fieldLink RX2 21 "ProofHouse$Evaluator" "inBody" "[Z", .fieldLink RX2 25 "ProofHouse$Evaluator" "outerOwners" "[I", .fieldLink RX2 28 "ProofHouse$Evaluator" "outerFloors" "[I", .fieldLink RX2 31 "ProofHouse$Evaluator" "values" "[I", .fieldLink RX2 34 "ProofHouse$Evaluator" "depth" "I", .fieldLink RX2 38 "ProofHouse$Evaluator" "held" "I", .fieldLink RX2 41 "ProofHouse$Evaluator" "owner" "I", .fieldLink RX2 44 "ProofHouse$Evaluator" "floor" "I", .fieldLink RX2 47 "ProofHouse$Evaluator" "stepsLeft" "I", .fieldLink RX2 50 "ProofHouse$Evaluator" "stopped" "I", .fieldLink RX2 53 "ProofHouse$Evaluator" "room" "LProofHouse$Room;", .fieldLink RX2 57 "ProofHouse$Evaluator" "book" "LProofHouse$Book;"] ++ wsX20)
def wsX3_init_r1 : List Cond := [Cond.methodLink RX3 3 objectInit, Cond.instanceMethod objectInit, Cond.code objectInit ⟨#[0xb1]⟩ 1 none, Cond.classLink RX3 11 "[[I", Cond.arrayClass .int, Cond.fieldLink RX3 13 "ProofHouse$Proofs" "frames" "[[I", Cond.fieldLink RX3 16 "ProofHouse$Proofs" "depth" "I", Cond.classLink RX3 20 RX1, Cond.fieldLink RX3 22 "ProofHouse$Proofs" "clauses" "[LProofHouse$Clause;", Cond.fieldLink RX3 26 "ProofHouse$Proofs" "held" "I", Cond.instantiable RX1 4, Cond.initialized RX1, Cond.fieldLink RX3 30 "ProofHouse$Proofs" "wanted" "LProofHouse$Clause;", Cond.fieldLink RX3 34 "ProofHouse$Proofs" "wrong" "I", Cond.fieldLink RX3 37 "ProofHouse$Proofs" "room" "LProofHouse$Room;", Cond.fieldLink RX3 41 "ProofHouse$Proofs" "book" "LProofHouse$Book;", Cond.fieldLink RX3 45 "ProofHouse$Proofs" "terms" "LProofHouse$Terms;", Cond.fieldLink RX3 49 "ProofHouse$Proofs" "evaluator" "LProofHouse$Evaluator;", Cond.fieldLink RX3 53 "ProofHouse$Proofs" "schemes" "LProofHouse$Schemes;", Cond.instanceMethod yX1_init, Cond.code yX1_init cX1_init 1 none, Cond.methodLink RX1 3 objectInit, Cond.fieldLink RX1 11 "ProofHouse$Clause" "literals" "[I", Cond.fieldLink RX1 15 "ProofHouse$Clause" "length" "I"]
def wsX3_init_r2 : List Cond := [Cond.fieldLink RX1 19 "ProofHouse$Clause" "weight" "I", Cond.fieldLink RX1 22 "ProofHouse$Clause" "rounds" "I"]
def wsX3_init : List Cond := .code yX3_init cX3_init 7 none :: ((wsX3_init_r1 ++ wsX3_init_r2) ++ wsX30 ++ wsX10)
def wsX4_init_r1 : List Cond := [Cond.methodLink RX4 5 objectInit, Cond.instanceMethod objectInit, Cond.code objectInit ⟨#[0xb1]⟩ 1 none, Cond.classLink RX4 11 RX1, Cond.fieldLink RX4 13 "ProofHouse$Prover" "given" "[LProofHouse$Clause;", Cond.fieldLink RX4 17 "ProofHouse$Prover" "givenCount" "I", Cond.fieldLink RX4 21 "ProofHouse$Prover" "waiting" "[LProofHouse$Clause;", Cond.fieldLink RX4 24 "ProofHouse$Prover" "waitingCount" "I", Cond.fieldLink RX4 27 "ProofHouse$Prover" "left" "[LProofHouse$Clause;", Cond.fieldLink RX4 30 "ProofHouse$Prover" "leftCount" "I", Cond.instantiable RX1 4, Cond.initialized RX1, Cond.fieldLink RX4 34 "ProofHouse$Prover" "spare" "LProofHouse$Clause;", Cond.fieldLink RX4 38 "ProofHouse$Prover" "checking" "Z", Cond.fieldLink RX4 42 "ProofHouse$Prover" "room" "LProofHouse$Room;", Cond.fieldLink RX4 46 "ProofHouse$Prover" "terms" "LProofHouse$Terms;", Cond.fieldLink RX4 50 "ProofHouse$Prover" "rewriter" "LProofHouse$Rewriter;", Cond.instanceMethod yX1_init, Cond.code yX1_init cX1_init 1 none, Cond.methodLink RX1 3 objectInit, Cond.arrayClass .int, Cond.fieldLink RX1 11 "ProofHouse$Clause" "literals" "[I", Cond.fieldLink RX1 15 "ProofHouse$Clause" "length" "I", Cond.fieldLink RX1 19 "ProofHouse$Clause" "weight" "I"]
def wsX4_init_r2 : List Cond := [Cond.fieldLink RX1 22 "ProofHouse$Clause" "rounds" "I"]
def wsX4_init : List Cond := .code yX4_init cX4_init 5 none :: ((wsX4_init_r1 ++ wsX4_init_r2) ++ wsX40 ++ wsX10)
def wsX5_init : List Cond := .code yX5_init cX5_init 2 none :: ([.methodLink RX5 3 objectInit, .instanceMethod objectInit, .code objectInit ⟨#[0xb1]⟩ 1 none, .arrayClass .int, .fieldLink RX5 11 "ProofHouse$Reader" "phases" "[I", .fieldLink RX5 15 "ProofHouse$Reader" "bases" "[I", .fieldLink RX5 18 "ProofHouse$Reader" "tails" "[I", .fieldLink RX5 21 "ProofHouse$Reader" "items" "[I", .fieldLink RX5 24 "ProofHouse$Reader" "depth" "I", .fieldLink RX5 28 "ProofHouse$Reader" "held" "I", .fieldLink RX5 31 "ProofHouse$Reader" "words" "I", .fieldLink RX5 34 "ProofHouse$Reader" "whole" "I", .fieldLink RX5 37 "ProofHouse$Reader" "flaw" "I", .fieldLink RX5 40 "ProofHouse$Reader" "place" "I", .fieldLink RX5 43 "ProofHouse$Reader" "room" "LProofHouse$Room;"] ++ wsX50)
def wsX9_init : List Cond := .code yX9_init cX9_init 3 none :: ([.methodLink RX9 3 objectInit, .instanceMethod objectInit, .code objectInit ⟨#[0xb1]⟩ 1 none, .fieldLink RX9 9 "ProofHouse$Scribe" "length" "I", .fieldLink RX9 15 "ProofHouse$Scribe" "room" "LProofHouse$Room;", .methodLink RX9 19 Lib.Math.max.name, .static Lib.Math.max.name, .initialized "java/lang/Math", .code Lib.Math.max.name Lib.Math.max.code 2 (some .int), .arrayClass .char, .fieldLink RX9 25 "ProofHouse$Scribe" "letters" "[C", .arrayClass .int, .fieldLink RX9 29 "ProofHouse$Scribe" "rests" "[I"] ++ wsX90)
def wsX6_init_r1 : List Cond := [Cond.methodLink RX6 5 objectInit, Cond.instanceMethod objectInit, Cond.code objectInit ⟨#[0xb1]⟩ 1 none, Cond.classLink RX6 11 "[[I", Cond.arrayClass .int, Cond.fieldLink RX6 13 "ProofHouse$Rewriter" "frames" "[[I", Cond.fieldLink RX6 16 "ProofHouse$Rewriter" "depth" "I", Cond.fieldLink RX6 20 "ProofHouse$Rewriter" "answer" "I", Cond.fieldLink RX6 23 "ProofHouse$Rewriter" "horizon" "I", Cond.fieldLink RX6 26 "ProofHouse$Rewriter" "notes" "[[I", Cond.fieldLink RX6 29 "ProofHouse$Rewriter" "noted" "I", Cond.fieldLink RX6 32 "ProofHouse$Rewriter" "checking" "Z", Cond.fieldLink RX6 36 "ProofHouse$Rewriter" "nextNote" "I", Cond.fieldLink RX6 39 "ProofHouse$Rewriter" "room" "LProofHouse$Room;", Cond.fieldLink RX6 43 "ProofHouse$Rewriter" "book" "LProofHouse$Book;", Cond.fieldLink RX6 47 "ProofHouse$Rewriter" "terms" "LProofHouse$Terms;", Cond.fieldLink RX6 51 "ProofHouse$Rewriter" "evaluator" "LProofHouse$Evaluator;", Cond.classLink RX6 55 RX9, Cond.instantiable RX9 4, Cond.initialized RX9, Cond.fieldLink RX6 60 "ProofHouse$Rewriter" "mine" "LProofHouse$Scribe;", Cond.fieldLink RX6 64 "ProofHouse$Rewriter" "other" "LProofHouse$Scribe;", Cond.methodLink RX6 57 yX9_init, Cond.instanceMethod yX9_init]
def wsX6_init_r2 : List Cond := [Cond.code yX9_init cX9_init 3 none, Cond.methodLink RX9 3 objectInit, Cond.fieldLink RX9 9 "ProofHouse$Scribe" "length" "I", Cond.fieldLink RX9 15 "ProofHouse$Scribe" "room" "LProofHouse$Room;", Cond.methodLink RX9 19 Lib.Math.max.name, Cond.static Lib.Math.max.name, Cond.initialized "java/lang/Math", Cond.code Lib.Math.max.name Lib.Math.max.code 2 (some .int), Cond.arrayClass .char, Cond.fieldLink RX9 25 "ProofHouse$Scribe" "letters" "[C", Cond.fieldLink RX9 29 "ProofHouse$Scribe" "rests" "[I"]
def wsX6_init : List Cond := .code yX6_init cX6_init 5 none :: ((wsX6_init_r1 ++ wsX6_init_r2) ++ wsX60 ++ wsX90)
def wsX8_init : List Cond := .code yX8_init cX8_init 4 none :: ([.methodLink RX8 3 objectInit, .instanceMethod objectInit, .code objectInit ⟨#[0xb1]⟩ 1 none, .arrayClass .int, .fieldLink RX8 11 "ProofHouse$Schemes" "ifs" "[I", .arrayClass .boolean, .fieldLink RX8 15 "ProofHouse$Schemes" "third" "[Z", .fieldLink RX8 19 "ProofHouse$Schemes" "deep" "I", .fieldLink RX8 23 "ProofHouse$Schemes" "pathEnd" "I", .fieldLink RX8 26 "ProofHouse$Schemes" "calls" "[I", .fieldLink RX8 29 "ProofHouse$Schemes" "callCount" "I", .fieldLink RX8 32 "ProofHouse$Schemes" "filled" "[I", .fieldLink RX8 35 "ProofHouse$Schemes" "induction" "I", .fieldLink RX8 38 "ProofHouse$Schemes" "room" "LProofHouse$Room;", .fieldLink RX8 42 "ProofHouse$Schemes" "book" "LProofHouse$Book;", .fieldLink RX8 46 "ProofHouse$Schemes" "terms" "LProofHouse$Terms;"] ++ wsX80)
def wsX10_init : List Cond := .code yX10_init cX10_init 3 none :: ([.methodLink RX10 3 objectInit, .instanceMethod objectInit, .code objectInit ⟨#[0xb1]⟩ 1 none, .fieldLink RX10 9 "ProofHouse$Terms" "ownName" "I", .fieldLink RX10 15 "ProofHouse$Terms" "ownArity" "I", .arrayClass .int, .fieldLink RX10 18 "ProofHouse$Terms" "variables" "[I", .fieldLink RX10 22 "ProofHouse$Terms" "meanings" "[I", .fieldLink RX10 25 "ProofHouse$Terms" "bound" "I", .fieldLink RX10 28 "ProofHouse$Terms" "replaced" "I", .fieldLink RX10 31 "ProofHouse$Terms" "replacement" "I", .fieldLink RX10 34 "ProofHouse$Terms" "names" "[I", .fieldLink RX10 37 "ProofHouse$Terms" "rests" "[I", .fieldLink RX10 40 "ProofHouse$Terms" "bases" "[I", .fieldLink RX10 43 "ProofHouse$Terms" "values" "[I", .fieldLink RX10 46 "ProofHouse$Terms" "waiting" "[I", .fieldLink RX10 49 "ProofHouse$Terms" "targets" "[I", .fieldLink RX10 52 "ProofHouse$Terms" "parts" "[I", .fieldLink RX10 55 "ProofHouse$Terms" "room" "LProofHouse$Room;", .fieldLink RX10 59 "ProofHouse$Terms" "book" "LProofHouse$Book;"] ++ wsX100)
theorem dX0_init_0 : decode cX0_init 0 = .ok (.aload_n 0, 1) := by decide +kernel
theorem dX0_init_1 : decode cX0_init 1 = .ok (.invokespecial 3, 3) := by decide +kernel
theorem dX0_init_4 : decode cX0_init 4 = .ok (.aload_n 0, 1) := by decide +kernel
theorem dX0_init_5 : decode cX0_init 5 = .ok (.bipush 40, 2) := by decide +kernel
theorem dX0_init_7 : decode cX0_init 7 = .ok (.newarray .int, 2) := by decide +kernel
theorem dX0_init_9 : decode cX0_init 9 = .ok (.putfield 9, 3) := by decide +kernel
theorem dX0_init_12 : decode cX0_init 12 = .ok (.aload_n 0, 1) := by decide +kernel
theorem dX0_init_13 : decode cX0_init 13 = .ok (.bipush 40, 2) := by decide +kernel
theorem dX0_init_15 : decode cX0_init 15 = .ok (.newarray .int, 2) := by decide +kernel
theorem dX0_init_17 : decode cX0_init 17 = .ok (.putfield 15, 3) := by decide +kernel
theorem dX0_init_20 : decode cX0_init 20 = .ok (.aload_n 0, 1) := by decide +kernel
theorem dX0_init_21 : decode cX0_init 21 = .ok (.bipush 40, 2) := by decide +kernel
theorem dX0_init_23 : decode cX0_init 23 = .ok (.newarray .int, 2) := by decide +kernel
theorem dX0_init_25 : decode cX0_init 25 = .ok (.putfield 18, 3) := by decide +kernel
theorem dX0_init_28 : decode cX0_init 28 = .ok (.aload_n 0, 1) := by decide +kernel
theorem dX0_init_29 : decode cX0_init 29 = .ok (.bipush 40, 2) := by decide +kernel
theorem dX0_init_31 : decode cX0_init 31 = .ok (.newarray .int, 2) := by decide +kernel
theorem dX0_init_33 : decode cX0_init 33 = .ok (.putfield 21, 3) := by decide +kernel
theorem dX0_init_36 : decode cX0_init 36 = .ok (.aload_n 0, 1) := by decide +kernel
theorem dX0_init_37 : decode cX0_init 37 = .ok (.bipush 40, 2) := by decide +kernel
theorem dX0_init_39 : decode cX0_init 39 = .ok (.newarray .int, 2) := by decide +kernel
theorem dX0_init_41 : decode cX0_init 41 = .ok (.putfield 24, 3) := by decide +kernel
theorem dX0_init_44 : decode cX0_init 44 = .ok (.aload_n 0, 1) := by decide +kernel
theorem dX0_init_45 : decode cX0_init 45 = .ok (.iconst 0, 1) := by decide +kernel
theorem dX0_init_46 : decode cX0_init 46 = .ok (.putfield 27, 3) := by decide +kernel
theorem dX0_init_49 : decode cX0_init 49 = .ok (.aload_n 0, 1) := by decide +kernel
theorem dX0_init_50 : decode cX0_init 50 = .ok (.bipush 60, 2) := by decide +kernel
theorem dX0_init_52 : decode cX0_init 52 = .ok (.newarray .int, 2) := by decide +kernel
theorem dX0_init_54 : decode cX0_init 54 = .ok (.putfield 31, 3) := by decide +kernel
theorem dX0_init_57 : decode cX0_init 57 = .ok (.aload_n 0, 1) := by decide +kernel
theorem dX0_init_58 : decode cX0_init 58 = .ok (.bipush 60, 2) := by decide +kernel
theorem dX0_init_60 : decode cX0_init 60 = .ok (.newarray .int, 2) := by decide +kernel
theorem dX0_init_62 : decode cX0_init 62 = .ok (.putfield 34, 3) := by decide +kernel
theorem dX0_init_65 : decode cX0_init 65 = .ok (.aload_n 0, 1) := by decide +kernel
theorem dX0_init_66 : decode cX0_init 66 = .ok (.bipush 60, 2) := by decide +kernel
theorem dX0_init_68 : decode cX0_init 68 = .ok (.newarray .int, 2) := by decide +kernel
theorem dX0_init_70 : decode cX0_init 70 = .ok (.putfield 37, 3) := by decide +kernel
theorem dX0_init_73 : decode cX0_init 73 = .ok (.aload_n 0, 1) := by decide +kernel
theorem dX0_init_74 : decode cX0_init 74 = .ok (.bipush 60, 2) := by decide +kernel
theorem dX0_init_76 : decode cX0_init 76 = .ok (.newarray .int, 2) := by decide +kernel
theorem dX0_init_78 : decode cX0_init 78 = .ok (.putfield 40, 3) := by decide +kernel
theorem dX0_init_81 : decode cX0_init 81 = .ok (.aload_n 0, 1) := by decide +kernel
theorem dX0_init_82 : decode cX0_init 82 = .ok (.bipush 60, 2) := by decide +kernel
theorem dX0_init_84 : decode cX0_init 84 = .ok (.bipush 60, 2) := by decide +kernel
theorem dX0_init_86 : decode cX0_init 86 = .ok (.multianewarray 43 2, 4) := by decide +kernel
theorem dX0_init_90 : decode cX0_init 90 = .ok (.putfield 45, 3) := by decide +kernel
theorem dX0_init_93 : decode cX0_init 93 = .ok (.aload_n 0, 1) := by decide +kernel
theorem dX0_init_94 : decode cX0_init 94 = .ok (.bipush 60, 2) := by decide +kernel
theorem dX0_init_96 : decode cX0_init 96 = .ok (.newarray .int, 2) := by decide +kernel
theorem dX0_init_98 : decode cX0_init 98 = .ok (.putfield 48, 3) := by decide +kernel
theorem dX0_init_101 : decode cX0_init 101 = .ok (.aload_n 0, 1) := by decide +kernel
theorem dX0_init_102 : decode cX0_init 102 = .ok (.bipush 60, 2) := by decide +kernel
theorem dX0_init_104 : decode cX0_init 104 = .ok (.newarray .boolean, 2) := by decide +kernel
theorem dX0_init_106 : decode cX0_init 106 = .ok (.putfield 51, 3) := by decide +kernel
theorem dX0_init_109 : decode cX0_init 109 = .ok (.aload_n 0, 1) := by decide +kernel
theorem dX0_init_110 : decode cX0_init 110 = .ok (.bipush 60, 2) := by decide +kernel
theorem dX0_init_112 : decode cX0_init 112 = .ok (.newarray .boolean, 2) := by decide +kernel
theorem dX0_init_114 : decode cX0_init 114 = .ok (.putfield 55, 3) := by decide +kernel
theorem dX0_init_117 : decode cX0_init 117 = .ok (.aload_n 0, 1) := by decide +kernel
theorem dX0_init_118 : decode cX0_init 118 = .ok (.bipush 60, 2) := by decide +kernel
theorem dX0_init_120 : decode cX0_init 120 = .ok (.newarray .boolean, 2) := by decide +kernel
theorem dX0_init_122 : decode cX0_init 122 = .ok (.putfield 58, 3) := by decide +kernel
theorem dX0_init_125 : decode cX0_init 125 = .ok (.aload_n 0, 1) := by decide +kernel
theorem dX0_init_126 : decode cX0_init 126 = .ok (.bipush 60, 2) := by decide +kernel
theorem dX0_init_128 : decode cX0_init 128 = .ok (.newarray .boolean, 2) := by decide +kernel
theorem dX0_init_130 : decode cX0_init 130 = .ok (.putfield 61, 3) := by decide +kernel
theorem dX0_init_133 : decode cX0_init 133 = .ok (.aload_n 0, 1) := by decide +kernel
theorem dX0_init_134 : decode cX0_init 134 = .ok (.iconst 0, 1) := by decide +kernel
theorem dX0_init_135 : decode cX0_init 135 = .ok (.putfield 64, 3) := by decide +kernel
theorem dX0_init_138 : decode cX0_init 138 = .ok (.aload_n 0, 1) := by decide +kernel
theorem dX0_init_139 : decode cX0_init 139 = .ok (.bipush 100, 2) := by decide +kernel
theorem dX0_init_141 : decode cX0_init 141 = .ok (.newarray .int, 2) := by decide +kernel
theorem dX0_init_143 : decode cX0_init 143 = .ok (.putfield 67, 3) := by decide +kernel
theorem dX0_init_146 : decode cX0_init 146 = .ok (.aload_n 0, 1) := by decide +kernel
theorem dX0_init_147 : decode cX0_init 147 = .ok (.bipush 100, 2) := by decide +kernel
theorem dX0_init_149 : decode cX0_init 149 = .ok (.newarray .int, 2) := by decide +kernel
theorem dX0_init_151 : decode cX0_init 151 = .ok (.putfield 70, 3) := by decide +kernel
theorem dX0_init_154 : decode cX0_init 154 = .ok (.aload_n 0, 1) := by decide +kernel
theorem dX0_init_155 : decode cX0_init 155 = .ok (.iconst 0, 1) := by decide +kernel
theorem dX0_init_156 : decode cX0_init 156 = .ok (.putfield 73, 3) := by decide +kernel
theorem dX0_init_159 : decode cX0_init 159 = .ok (.aload_n 0, 1) := by decide +kernel
theorem dX0_init_160 : decode cX0_init 160 = .ok (.iload_n 1, 1) := by decide +kernel
theorem dX0_init_161 : decode cX0_init 161 = .ok (.putfield 76, 3) := by decide +kernel
theorem dX0_init_164 : decode cX0_init 164 = .ok (.return_, 1) := by decide +kernel
theorem dX1_init_0 : decode cX1_init 0 = .ok (.aload_n 0, 1) := by decide +kernel
theorem dX1_init_1 : decode cX1_init 1 = .ok (.invokespecial 3, 3) := by decide +kernel
theorem dX1_init_4 : decode cX1_init 4 = .ok (.aload_n 0, 1) := by decide +kernel
theorem dX1_init_5 : decode cX1_init 5 = .ok (.bipush 30, 2) := by decide +kernel
theorem dX1_init_7 : decode cX1_init 7 = .ok (.newarray .int, 2) := by decide +kernel
theorem dX1_init_9 : decode cX1_init 9 = .ok (.putfield 11, 3) := by decide +kernel
theorem dX1_init_12 : decode cX1_init 12 = .ok (.aload_n 0, 1) := by decide +kernel
theorem dX1_init_13 : decode cX1_init 13 = .ok (.iconst 0, 1) := by decide +kernel
theorem dX1_init_14 : decode cX1_init 14 = .ok (.putfield 15, 3) := by decide +kernel
theorem dX1_init_17 : decode cX1_init 17 = .ok (.aload_n 0, 1) := by decide +kernel
theorem dX1_init_18 : decode cX1_init 18 = .ok (.iconst 0, 1) := by decide +kernel
theorem dX1_init_19 : decode cX1_init 19 = .ok (.putfield 19, 3) := by decide +kernel
theorem dX1_init_22 : decode cX1_init 22 = .ok (.aload_n 0, 1) := by decide +kernel
theorem dX1_init_23 : decode cX1_init 23 = .ok (.iconst 0, 1) := by decide +kernel
theorem dX1_init_24 : decode cX1_init 24 = .ok (.putfield 22, 3) := by decide +kernel
theorem dX1_init_27 : decode cX1_init 27 = .ok (.return_, 1) := by decide +kernel
theorem dX2_init_0 : decode cX2_init 0 = .ok (.aload_n 0, 1) := by decide +kernel
theorem dX2_init_1 : decode cX2_init 1 = .ok (.invokespecial 3, 3) := by decide +kernel
theorem dX2_init_4 : decode cX2_init 4 = .ok (.aload_n 0, 1) := by decide +kernel
theorem dX2_init_5 : decode cX2_init 5 = .ok (.sipush 300, 3) := by decide +kernel
theorem dX2_init_8 : decode cX2_init 8 = .ok (.newarray .int, 2) := by decide +kernel
theorem dX2_init_10 : decode cX2_init 10 = .ok (.putfield 11, 3) := by decide +kernel
theorem dX2_init_13 : decode cX2_init 13 = .ok (.aload_n 0, 1) := by decide +kernel
theorem dX2_init_14 : decode cX2_init 14 = .ok (.sipush 300, 3) := by decide +kernel
theorem dX2_init_17 : decode cX2_init 17 = .ok (.newarray .int, 2) := by decide +kernel
theorem dX2_init_19 : decode cX2_init 19 = .ok (.putfield 15, 3) := by decide +kernel
theorem dX2_init_22 : decode cX2_init 22 = .ok (.aload_n 0, 1) := by decide +kernel
theorem dX2_init_23 : decode cX2_init 23 = .ok (.sipush 300, 3) := by decide +kernel
theorem dX2_init_26 : decode cX2_init 26 = .ok (.newarray .int, 2) := by decide +kernel
theorem dX2_init_28 : decode cX2_init 28 = .ok (.putfield 18, 3) := by decide +kernel
theorem dX2_init_31 : decode cX2_init 31 = .ok (.aload_n 0, 1) := by decide +kernel
theorem dX2_init_32 : decode cX2_init 32 = .ok (.sipush 300, 3) := by decide +kernel
theorem dX2_init_35 : decode cX2_init 35 = .ok (.newarray .boolean, 2) := by decide +kernel
theorem dX2_init_37 : decode cX2_init 37 = .ok (.putfield 21, 3) := by decide +kernel
theorem dX2_init_40 : decode cX2_init 40 = .ok (.aload_n 0, 1) := by decide +kernel
theorem dX2_init_41 : decode cX2_init 41 = .ok (.sipush 300, 3) := by decide +kernel
theorem dX2_init_44 : decode cX2_init 44 = .ok (.newarray .int, 2) := by decide +kernel
theorem dX2_init_46 : decode cX2_init 46 = .ok (.putfield 25, 3) := by decide +kernel
theorem dX2_init_49 : decode cX2_init 49 = .ok (.aload_n 0, 1) := by decide +kernel
theorem dX2_init_50 : decode cX2_init 50 = .ok (.sipush 300, 3) := by decide +kernel
theorem dX2_init_53 : decode cX2_init 53 = .ok (.newarray .int, 2) := by decide +kernel
theorem dX2_init_55 : decode cX2_init 55 = .ok (.putfield 28, 3) := by decide +kernel
theorem dX2_init_58 : decode cX2_init 58 = .ok (.aload_n 0, 1) := by decide +kernel
theorem dX2_init_59 : decode cX2_init 59 = .ok (.sipush 1803, 3) := by decide +kernel
theorem dX2_init_62 : decode cX2_init 62 = .ok (.newarray .int, 2) := by decide +kernel
theorem dX2_init_64 : decode cX2_init 64 = .ok (.putfield 31, 3) := by decide +kernel
theorem dX2_init_67 : decode cX2_init 67 = .ok (.aload_n 0, 1) := by decide +kernel
theorem dX2_init_68 : decode cX2_init 68 = .ok (.iconst 0, 1) := by decide +kernel
theorem dX2_init_69 : decode cX2_init 69 = .ok (.putfield 34, 3) := by decide +kernel
theorem dX2_init_72 : decode cX2_init 72 = .ok (.aload_n 0, 1) := by decide +kernel
theorem dX2_init_73 : decode cX2_init 73 = .ok (.iconst 0, 1) := by decide +kernel
theorem dX2_init_74 : decode cX2_init 74 = .ok (.putfield 38, 3) := by decide +kernel
theorem dX2_init_77 : decode cX2_init 77 = .ok (.aload_n 0, 1) := by decide +kernel
theorem dX2_init_78 : decode cX2_init 78 = .ok (.iconst (-1), 1) := by decide +kernel
theorem dX2_init_79 : decode cX2_init 79 = .ok (.putfield 41, 3) := by decide +kernel
theorem dX2_init_82 : decode cX2_init 82 = .ok (.aload_n 0, 1) := by decide +kernel
theorem dX2_init_83 : decode cX2_init 83 = .ok (.iconst 0, 1) := by decide +kernel
theorem dX2_init_84 : decode cX2_init 84 = .ok (.putfield 44, 3) := by decide +kernel
theorem dX2_init_87 : decode cX2_init 87 = .ok (.aload_n 0, 1) := by decide +kernel
theorem dX2_init_88 : decode cX2_init 88 = .ok (.iconst 0, 1) := by decide +kernel
theorem dX2_init_89 : decode cX2_init 89 = .ok (.putfield 47, 3) := by decide +kernel
theorem dX2_init_92 : decode cX2_init 92 = .ok (.aload_n 0, 1) := by decide +kernel
theorem dX2_init_93 : decode cX2_init 93 = .ok (.iconst 0, 1) := by decide +kernel
theorem dX2_init_94 : decode cX2_init 94 = .ok (.putfield 50, 3) := by decide +kernel
theorem dX2_init_97 : decode cX2_init 97 = .ok (.aload_n 0, 1) := by decide +kernel
theorem dX2_init_98 : decode cX2_init 98 = .ok (.aload_n 1, 1) := by decide +kernel
theorem dX2_init_99 : decode cX2_init 99 = .ok (.putfield 53, 3) := by decide +kernel
theorem dX2_init_102 : decode cX2_init 102 = .ok (.aload_n 0, 1) := by decide +kernel
theorem dX2_init_103 : decode cX2_init 103 = .ok (.aload_n 2, 1) := by decide +kernel
theorem dX2_init_104 : decode cX2_init 104 = .ok (.putfield 57, 3) := by decide +kernel
theorem dX2_init_107 : decode cX2_init 107 = .ok (.return_, 1) := by decide +kernel
set_option maxRecDepth 20000 in
theorem ggX3_init_X1_init : GoodIn wsX3_init wsX1_init := goodIn_r _ [21, 22, 2, 3, 5, 23, 24, 25, 26, 38, 39, 40, 41] (by decide +kernel) (by decide +kernel)
theorem dX3_init_0 : decode cX3_init 0 = .ok (.aload_n 0, 1) := by decide +kernel
theorem dX3_init_1 : decode cX3_init 1 = .ok (.invokespecial 3, 3) := by decide +kernel
theorem dX3_init_4 : decode cX3_init 4 = .ok (.aload_n 0, 1) := by decide +kernel
theorem dX3_init_5 : decode cX3_init 5 = .ok (.bipush 40, 2) := by decide +kernel
theorem dX3_init_7 : decode cX3_init 7 = .ok (.iconst 4, 1) := by decide +kernel
theorem dX3_init_8 : decode cX3_init 8 = .ok (.multianewarray 11 2, 4) := by decide +kernel
theorem dX3_init_12 : decode cX3_init 12 = .ok (.putfield 13, 3) := by decide +kernel
theorem dX3_init_15 : decode cX3_init 15 = .ok (.aload_n 0, 1) := by decide +kernel
theorem dX3_init_16 : decode cX3_init 16 = .ok (.iconst 0, 1) := by decide +kernel
theorem dX3_init_17 : decode cX3_init 17 = .ok (.putfield 16, 3) := by decide +kernel
theorem dX3_init_20 : decode cX3_init 20 = .ok (.aload_n 0, 1) := by decide +kernel
theorem dX3_init_21 : decode cX3_init 21 = .ok (.sipush 256, 3) := by decide +kernel
theorem dX3_init_24 : decode cX3_init 24 = .ok (.anewarray 20, 3) := by decide +kernel
theorem dX3_init_27 : decode cX3_init 27 = .ok (.putfield 22, 3) := by decide +kernel
theorem dX3_init_30 : decode cX3_init 30 = .ok (.aload_n 0, 1) := by decide +kernel
theorem dX3_init_31 : decode cX3_init 31 = .ok (.iconst 0, 1) := by decide +kernel
theorem dX3_init_32 : decode cX3_init 32 = .ok (.putfield 26, 3) := by decide +kernel
theorem dX3_init_35 : decode cX3_init 35 = .ok (.aload_n 0, 1) := by decide +kernel
theorem dX3_init_36 : decode cX3_init 36 = .ok (.new 20, 3) := by decide +kernel
theorem dX3_init_39 : decode cX3_init 39 = .ok (.dup, 1) := by decide +kernel
theorem dX3_init_40 : decode cX3_init 40 = .ok (.invokespecial 29, 3) := by decide +kernel
theorem dX3_init_43 : decode cX3_init 43 = .ok (.putfield 30, 3) := by decide +kernel
theorem dX3_init_46 : decode cX3_init 46 = .ok (.aload_n 0, 1) := by decide +kernel
theorem dX3_init_47 : decode cX3_init 47 = .ok (.iconst (-1), 1) := by decide +kernel
theorem dX3_init_48 : decode cX3_init 48 = .ok (.putfield 34, 3) := by decide +kernel
theorem dX3_init_51 : decode cX3_init 51 = .ok (.aload_n 0, 1) := by decide +kernel
theorem dX3_init_52 : decode cX3_init 52 = .ok (.aload_n 1, 1) := by decide +kernel
theorem dX3_init_53 : decode cX3_init 53 = .ok (.putfield 37, 3) := by decide +kernel
theorem dX3_init_56 : decode cX3_init 56 = .ok (.aload_n 0, 1) := by decide +kernel
theorem dX3_init_57 : decode cX3_init 57 = .ok (.aload_n 2, 1) := by decide +kernel
theorem dX3_init_58 : decode cX3_init 58 = .ok (.putfield 41, 3) := by decide +kernel
theorem dX3_init_61 : decode cX3_init 61 = .ok (.aload_n 0, 1) := by decide +kernel
theorem dX3_init_62 : decode cX3_init 62 = .ok (.aload_n 3, 1) := by decide +kernel
theorem dX3_init_63 : decode cX3_init 63 = .ok (.putfield 45, 3) := by decide +kernel
theorem dX3_init_66 : decode cX3_init 66 = .ok (.aload_n 0, 1) := by decide +kernel
theorem dX3_init_67 : decode cX3_init 67 = .ok (.aload 4, 2) := by decide +kernel
theorem dX3_init_69 : decode cX3_init 69 = .ok (.putfield 49, 3) := by decide +kernel
theorem dX3_init_72 : decode cX3_init 72 = .ok (.aload_n 0, 1) := by decide +kernel
theorem dX3_init_73 : decode cX3_init 73 = .ok (.aload 5, 2) := by decide +kernel
theorem dX3_init_75 : decode cX3_init 75 = .ok (.putfield 53, 3) := by decide +kernel
theorem dX3_init_78 : decode cX3_init 78 = .ok (.iconst 0, 1) := by decide +kernel
theorem dX3_init_79 : decode cX3_init 79 = .ok (.istore 6, 2) := by decide +kernel
theorem dX3_init_81 : decode cX3_init 81 = .ok (.iload 6, 2) := by decide +kernel
theorem dX3_init_83 : decode cX3_init 83 = .ok (.sipush 256, 3) := by decide +kernel
theorem dX3_init_86 : decode cX3_init 86 = .ok (.if_icmp .ge 23, 3) := by decide +kernel
theorem dX3_init_89 : decode cX3_init 89 = .ok (.aload_n 0, 1) := by decide +kernel
theorem dX3_init_90 : decode cX3_init 90 = .ok (.getfield 22, 3) := by decide +kernel
theorem dX3_init_93 : decode cX3_init 93 = .ok (.iload 6, 2) := by decide +kernel
theorem dX3_init_95 : decode cX3_init 95 = .ok (.new 20, 3) := by decide +kernel
theorem dX3_init_98 : decode cX3_init 98 = .ok (.dup, 1) := by decide +kernel
theorem dX3_init_99 : decode cX3_init 99 = .ok (.invokespecial 29, 3) := by decide +kernel
theorem dX3_init_102 : decode cX3_init 102 = .ok (.aastore, 1) := by decide +kernel
theorem dX3_init_103 : decode cX3_init 103 = .ok (.iinc 6 1, 3) := by decide +kernel
theorem dX3_init_106 : decode cX3_init 106 = .ok (.goto (-25), 3) := by decide +kernel
theorem dX3_init_109 : decode cX3_init 109 = .ok (.return_, 1) := by decide +kernel
set_option maxRecDepth 20000 in
theorem ggX4_init_X1_init : GoodIn wsX4_init wsX1_init := goodIn_r _ [19, 20, 2, 3, 21, 22, 23, 24, 25, 37, 38, 39, 40] (by decide +kernel) (by decide +kernel)
theorem dX4_init_0 : decode cX4_init 0 = .ok (.aload_n 0, 1) := by decide +kernel
theorem dX4_init_1 : decode cX4_init 1 = .ok (.invokespecial 5, 3) := by decide +kernel
theorem dX4_init_4 : decode cX4_init 4 = .ok (.aload_n 0, 1) := by decide +kernel
theorem dX4_init_5 : decode cX4_init 5 = .ok (.bipush 120, 2) := by decide +kernel
theorem dX4_init_7 : decode cX4_init 7 = .ok (.anewarray 11, 3) := by decide +kernel
theorem dX4_init_10 : decode cX4_init 10 = .ok (.putfield 13, 3) := by decide +kernel
theorem dX4_init_13 : decode cX4_init 13 = .ok (.aload_n 0, 1) := by decide +kernel
theorem dX4_init_14 : decode cX4_init 14 = .ok (.iconst 0, 1) := by decide +kernel
theorem dX4_init_15 : decode cX4_init 15 = .ok (.putfield 17, 3) := by decide +kernel
theorem dX4_init_18 : decode cX4_init 18 = .ok (.aload_n 0, 1) := by decide +kernel
theorem dX4_init_19 : decode cX4_init 19 = .ok (.bipush 10, 2) := by decide +kernel
theorem dX4_init_21 : decode cX4_init 21 = .ok (.anewarray 11, 3) := by decide +kernel
theorem dX4_init_24 : decode cX4_init 24 = .ok (.putfield 21, 3) := by decide +kernel
theorem dX4_init_27 : decode cX4_init 27 = .ok (.aload_n 0, 1) := by decide +kernel
theorem dX4_init_28 : decode cX4_init 28 = .ok (.iconst 0, 1) := by decide +kernel
theorem dX4_init_29 : decode cX4_init 29 = .ok (.putfield 24, 3) := by decide +kernel
theorem dX4_init_32 : decode cX4_init 32 = .ok (.aload_n 0, 1) := by decide +kernel
theorem dX4_init_33 : decode cX4_init 33 = .ok (.bipush 20, 2) := by decide +kernel
theorem dX4_init_35 : decode cX4_init 35 = .ok (.anewarray 11, 3) := by decide +kernel
theorem dX4_init_38 : decode cX4_init 38 = .ok (.putfield 27, 3) := by decide +kernel
theorem dX4_init_41 : decode cX4_init 41 = .ok (.aload_n 0, 1) := by decide +kernel
theorem dX4_init_42 : decode cX4_init 42 = .ok (.iconst 0, 1) := by decide +kernel
theorem dX4_init_43 : decode cX4_init 43 = .ok (.putfield 30, 3) := by decide +kernel
theorem dX4_init_46 : decode cX4_init 46 = .ok (.aload_n 0, 1) := by decide +kernel
theorem dX4_init_47 : decode cX4_init 47 = .ok (.new 11, 3) := by decide +kernel
theorem dX4_init_50 : decode cX4_init 50 = .ok (.dup, 1) := by decide +kernel
theorem dX4_init_51 : decode cX4_init 51 = .ok (.invokespecial 33, 3) := by decide +kernel
theorem dX4_init_54 : decode cX4_init 54 = .ok (.putfield 34, 3) := by decide +kernel
theorem dX4_init_57 : decode cX4_init 57 = .ok (.aload_n 0, 1) := by decide +kernel
theorem dX4_init_58 : decode cX4_init 58 = .ok (.iconst 0, 1) := by decide +kernel
theorem dX4_init_59 : decode cX4_init 59 = .ok (.putfield 38, 3) := by decide +kernel
theorem dX4_init_62 : decode cX4_init 62 = .ok (.aload_n 0, 1) := by decide +kernel
theorem dX4_init_63 : decode cX4_init 63 = .ok (.aload_n 1, 1) := by decide +kernel
theorem dX4_init_64 : decode cX4_init 64 = .ok (.putfield 42, 3) := by decide +kernel
theorem dX4_init_67 : decode cX4_init 67 = .ok (.aload_n 0, 1) := by decide +kernel
theorem dX4_init_68 : decode cX4_init 68 = .ok (.aload_n 2, 1) := by decide +kernel
theorem dX4_init_69 : decode cX4_init 69 = .ok (.putfield 46, 3) := by decide +kernel
theorem dX4_init_72 : decode cX4_init 72 = .ok (.aload_n 0, 1) := by decide +kernel
theorem dX4_init_73 : decode cX4_init 73 = .ok (.aload_n 3, 1) := by decide +kernel
theorem dX4_init_74 : decode cX4_init 74 = .ok (.putfield 50, 3) := by decide +kernel
theorem dX4_init_77 : decode cX4_init 77 = .ok (.iconst 0, 1) := by decide +kernel
theorem dX4_init_78 : decode cX4_init 78 = .ok (.istore 4, 2) := by decide +kernel
theorem dX4_init_80 : decode cX4_init 80 = .ok (.iload 4, 2) := by decide +kernel
theorem dX4_init_82 : decode cX4_init 82 = .ok (.bipush 120, 2) := by decide +kernel
theorem dX4_init_84 : decode cX4_init 84 = .ok (.if_icmp .ge 23, 3) := by decide +kernel
theorem dX4_init_87 : decode cX4_init 87 = .ok (.aload_n 0, 1) := by decide +kernel
theorem dX4_init_88 : decode cX4_init 88 = .ok (.getfield 13, 3) := by decide +kernel
theorem dX4_init_91 : decode cX4_init 91 = .ok (.iload 4, 2) := by decide +kernel
theorem dX4_init_93 : decode cX4_init 93 = .ok (.new 11, 3) := by decide +kernel
theorem dX4_init_96 : decode cX4_init 96 = .ok (.dup, 1) := by decide +kernel
theorem dX4_init_97 : decode cX4_init 97 = .ok (.invokespecial 33, 3) := by decide +kernel
theorem dX4_init_100 : decode cX4_init 100 = .ok (.aastore, 1) := by decide +kernel
theorem dX4_init_101 : decode cX4_init 101 = .ok (.iinc 4 1, 3) := by decide +kernel
theorem dX4_init_104 : decode cX4_init 104 = .ok (.goto (-24), 3) := by decide +kernel
theorem dX4_init_107 : decode cX4_init 107 = .ok (.iconst 0, 1) := by decide +kernel
theorem dX4_init_108 : decode cX4_init 108 = .ok (.istore 4, 2) := by decide +kernel
theorem dX4_init_110 : decode cX4_init 110 = .ok (.iload 4, 2) := by decide +kernel
theorem dX4_init_112 : decode cX4_init 112 = .ok (.bipush 10, 2) := by decide +kernel
theorem dX4_init_114 : decode cX4_init 114 = .ok (.if_icmp .ge 23, 3) := by decide +kernel
theorem dX4_init_117 : decode cX4_init 117 = .ok (.aload_n 0, 1) := by decide +kernel
theorem dX4_init_118 : decode cX4_init 118 = .ok (.getfield 21, 3) := by decide +kernel
theorem dX4_init_121 : decode cX4_init 121 = .ok (.iload 4, 2) := by decide +kernel
theorem dX4_init_123 : decode cX4_init 123 = .ok (.new 11, 3) := by decide +kernel
theorem dX4_init_126 : decode cX4_init 126 = .ok (.dup, 1) := by decide +kernel
theorem dX4_init_127 : decode cX4_init 127 = .ok (.invokespecial 33, 3) := by decide +kernel
theorem dX4_init_130 : decode cX4_init 130 = .ok (.aastore, 1) := by decide +kernel
theorem dX4_init_131 : decode cX4_init 131 = .ok (.iinc 4 1, 3) := by decide +kernel
theorem dX4_init_134 : decode cX4_init 134 = .ok (.goto (-24), 3) := by decide +kernel
theorem dX4_init_137 : decode cX4_init 137 = .ok (.iconst 0, 1) := by decide +kernel
theorem dX4_init_138 : decode cX4_init 138 = .ok (.istore 4, 2) := by decide +kernel
theorem dX4_init_140 : decode cX4_init 140 = .ok (.iload 4, 2) := by decide +kernel
theorem dX4_init_142 : decode cX4_init 142 = .ok (.bipush 20, 2) := by decide +kernel
theorem dX4_init_144 : decode cX4_init 144 = .ok (.if_icmp .ge 23, 3) := by decide +kernel
theorem dX4_init_147 : decode cX4_init 147 = .ok (.aload_n 0, 1) := by decide +kernel
theorem dX4_init_148 : decode cX4_init 148 = .ok (.getfield 27, 3) := by decide +kernel
theorem dX4_init_151 : decode cX4_init 151 = .ok (.iload 4, 2) := by decide +kernel
theorem dX4_init_153 : decode cX4_init 153 = .ok (.new 11, 3) := by decide +kernel
theorem dX4_init_156 : decode cX4_init 156 = .ok (.dup, 1) := by decide +kernel
theorem dX4_init_157 : decode cX4_init 157 = .ok (.invokespecial 33, 3) := by decide +kernel
theorem dX4_init_160 : decode cX4_init 160 = .ok (.aastore, 1) := by decide +kernel
theorem dX4_init_161 : decode cX4_init 161 = .ok (.iinc 4 1, 3) := by decide +kernel
theorem dX4_init_164 : decode cX4_init 164 = .ok (.goto (-24), 3) := by decide +kernel
theorem dX4_init_167 : decode cX4_init 167 = .ok (.return_, 1) := by decide +kernel
theorem dX5_init_0 : decode cX5_init 0 = .ok (.aload_n 0, 1) := by decide +kernel
theorem dX5_init_1 : decode cX5_init 1 = .ok (.invokespecial 3, 3) := by decide +kernel
theorem dX5_init_4 : decode cX5_init 4 = .ok (.aload_n 0, 1) := by decide +kernel
theorem dX5_init_5 : decode cX5_init 5 = .ok (.bipush 41, 2) := by decide +kernel
theorem dX5_init_7 : decode cX5_init 7 = .ok (.newarray .int, 2) := by decide +kernel
theorem dX5_init_9 : decode cX5_init 9 = .ok (.putfield 11, 3) := by decide +kernel
theorem dX5_init_12 : decode cX5_init 12 = .ok (.aload_n 0, 1) := by decide +kernel
theorem dX5_init_13 : decode cX5_init 13 = .ok (.bipush 41, 2) := by decide +kernel
theorem dX5_init_15 : decode cX5_init 15 = .ok (.newarray .int, 2) := by decide +kernel
theorem dX5_init_17 : decode cX5_init 17 = .ok (.putfield 15, 3) := by decide +kernel
theorem dX5_init_20 : decode cX5_init 20 = .ok (.aload_n 0, 1) := by decide +kernel
theorem dX5_init_21 : decode cX5_init 21 = .ok (.bipush 41, 2) := by decide +kernel
theorem dX5_init_23 : decode cX5_init 23 = .ok (.newarray .int, 2) := by decide +kernel
theorem dX5_init_25 : decode cX5_init 25 = .ok (.putfield 18, 3) := by decide +kernel
theorem dX5_init_28 : decode cX5_init 28 = .ok (.aload_n 0, 1) := by decide +kernel
theorem dX5_init_29 : decode cX5_init 29 = .ok (.sipush 1000, 3) := by decide +kernel
theorem dX5_init_32 : decode cX5_init 32 = .ok (.newarray .int, 2) := by decide +kernel
theorem dX5_init_34 : decode cX5_init 34 = .ok (.putfield 21, 3) := by decide +kernel
theorem dX5_init_37 : decode cX5_init 37 = .ok (.aload_n 0, 1) := by decide +kernel
theorem dX5_init_38 : decode cX5_init 38 = .ok (.iconst 0, 1) := by decide +kernel
theorem dX5_init_39 : decode cX5_init 39 = .ok (.putfield 24, 3) := by decide +kernel
theorem dX5_init_42 : decode cX5_init 42 = .ok (.aload_n 0, 1) := by decide +kernel
theorem dX5_init_43 : decode cX5_init 43 = .ok (.iconst 0, 1) := by decide +kernel
theorem dX5_init_44 : decode cX5_init 44 = .ok (.putfield 28, 3) := by decide +kernel
theorem dX5_init_47 : decode cX5_init 47 = .ok (.aload_n 0, 1) := by decide +kernel
theorem dX5_init_48 : decode cX5_init 48 = .ok (.iconst 0, 1) := by decide +kernel
theorem dX5_init_49 : decode cX5_init 49 = .ok (.putfield 31, 3) := by decide +kernel
theorem dX5_init_52 : decode cX5_init 52 = .ok (.aload_n 0, 1) := by decide +kernel
theorem dX5_init_53 : decode cX5_init 53 = .ok (.iconst 0, 1) := by decide +kernel
theorem dX5_init_54 : decode cX5_init 54 = .ok (.putfield 34, 3) := by decide +kernel
theorem dX5_init_57 : decode cX5_init 57 = .ok (.aload_n 0, 1) := by decide +kernel
theorem dX5_init_58 : decode cX5_init 58 = .ok (.iconst 0, 1) := by decide +kernel
theorem dX5_init_59 : decode cX5_init 59 = .ok (.putfield 37, 3) := by decide +kernel
theorem dX5_init_62 : decode cX5_init 62 = .ok (.aload_n 0, 1) := by decide +kernel
theorem dX5_init_63 : decode cX5_init 63 = .ok (.iconst (-1), 1) := by decide +kernel
theorem dX5_init_64 : decode cX5_init 64 = .ok (.putfield 40, 3) := by decide +kernel
theorem dX5_init_67 : decode cX5_init 67 = .ok (.aload_n 0, 1) := by decide +kernel
theorem dX5_init_68 : decode cX5_init 68 = .ok (.aload_n 1, 1) := by decide +kernel
theorem dX5_init_69 : decode cX5_init 69 = .ok (.putfield 43, 3) := by decide +kernel
theorem dX5_init_72 : decode cX5_init 72 = .ok (.return_, 1) := by decide +kernel
set_option maxRecDepth 20000 in
theorem ggX6_init_X9_init : GoodIn wsX6_init wsX9_init := goodIn_r _ [25, 26, 2, 3, 27, 28, 29, 30, 31, 32, 33, 34, 5, 35, 50, 51, 52, 53] (by decide +kernel) (by decide +kernel)
set_option maxRecDepth 20000 in
theorem gX6_init_X9_init : GoodIn wsX6_init (wsX9_init) := ggX6_init_X9_init
theorem dX6_init_0 : decode cX6_init 0 = .ok (.aload_n 0, 1) := by decide +kernel
theorem dX6_init_1 : decode cX6_init 1 = .ok (.invokespecial 5, 3) := by decide +kernel
theorem dX6_init_4 : decode cX6_init 4 = .ok (.aload_n 0, 1) := by decide +kernel
theorem dX6_init_5 : decode cX6_init 5 = .ok (.bipush 60, 2) := by decide +kernel
theorem dX6_init_7 : decode cX6_init 7 = .ok (.bipush 17, 2) := by decide +kernel
theorem dX6_init_9 : decode cX6_init 9 = .ok (.multianewarray 11 2, 4) := by decide +kernel
theorem dX6_init_13 : decode cX6_init 13 = .ok (.putfield 13, 3) := by decide +kernel
theorem dX6_init_16 : decode cX6_init 16 = .ok (.aload_n 0, 1) := by decide +kernel
theorem dX6_init_17 : decode cX6_init 17 = .ok (.iconst 0, 1) := by decide +kernel
theorem dX6_init_18 : decode cX6_init 18 = .ok (.putfield 16, 3) := by decide +kernel
theorem dX6_init_21 : decode cX6_init 21 = .ok (.aload_n 0, 1) := by decide +kernel
theorem dX6_init_22 : decode cX6_init 22 = .ok (.iconst (-1), 1) := by decide +kernel
theorem dX6_init_23 : decode cX6_init 23 = .ok (.putfield 20, 3) := by decide +kernel
theorem dX6_init_26 : decode cX6_init 26 = .ok (.aload_n 0, 1) := by decide +kernel
theorem dX6_init_27 : decode cX6_init 27 = .ok (.iconst 0, 1) := by decide +kernel
theorem dX6_init_28 : decode cX6_init 28 = .ok (.putfield 23, 3) := by decide +kernel
theorem dX6_init_31 : decode cX6_init 31 = .ok (.aload_n 0, 1) := by decide +kernel
theorem dX6_init_32 : decode cX6_init 32 = .ok (.sipush 1000, 3) := by decide +kernel
theorem dX6_init_35 : decode cX6_init 35 = .ok (.iconst 5, 1) := by decide +kernel
theorem dX6_init_36 : decode cX6_init 36 = .ok (.multianewarray 11 2, 4) := by decide +kernel
theorem dX6_init_40 : decode cX6_init 40 = .ok (.putfield 26, 3) := by decide +kernel
theorem dX6_init_43 : decode cX6_init 43 = .ok (.aload_n 0, 1) := by decide +kernel
theorem dX6_init_44 : decode cX6_init 44 = .ok (.iconst 0, 1) := by decide +kernel
theorem dX6_init_45 : decode cX6_init 45 = .ok (.putfield 29, 3) := by decide +kernel
theorem dX6_init_48 : decode cX6_init 48 = .ok (.aload_n 0, 1) := by decide +kernel
theorem dX6_init_49 : decode cX6_init 49 = .ok (.iconst 0, 1) := by decide +kernel
theorem dX6_init_50 : decode cX6_init 50 = .ok (.putfield 32, 3) := by decide +kernel
theorem dX6_init_53 : decode cX6_init 53 = .ok (.aload_n 0, 1) := by decide +kernel
theorem dX6_init_54 : decode cX6_init 54 = .ok (.iconst 0, 1) := by decide +kernel
theorem dX6_init_55 : decode cX6_init 55 = .ok (.putfield 36, 3) := by decide +kernel
theorem dX6_init_58 : decode cX6_init 58 = .ok (.aload_n 0, 1) := by decide +kernel
theorem dX6_init_59 : decode cX6_init 59 = .ok (.aload_n 1, 1) := by decide +kernel
theorem dX6_init_60 : decode cX6_init 60 = .ok (.putfield 39, 3) := by decide +kernel
theorem dX6_init_63 : decode cX6_init 63 = .ok (.aload_n 0, 1) := by decide +kernel
theorem dX6_init_64 : decode cX6_init 64 = .ok (.aload_n 2, 1) := by decide +kernel
theorem dX6_init_65 : decode cX6_init 65 = .ok (.putfield 43, 3) := by decide +kernel
theorem dX6_init_68 : decode cX6_init 68 = .ok (.aload_n 0, 1) := by decide +kernel
theorem dX6_init_69 : decode cX6_init 69 = .ok (.aload_n 3, 1) := by decide +kernel
theorem dX6_init_70 : decode cX6_init 70 = .ok (.putfield 47, 3) := by decide +kernel
theorem dX6_init_73 : decode cX6_init 73 = .ok (.aload_n 0, 1) := by decide +kernel
theorem dX6_init_74 : decode cX6_init 74 = .ok (.aload 4, 2) := by decide +kernel
theorem dX6_init_76 : decode cX6_init 76 = .ok (.putfield 51, 3) := by decide +kernel
theorem dX6_init_79 : decode cX6_init 79 = .ok (.aload_n 0, 1) := by decide +kernel
theorem dX6_init_80 : decode cX6_init 80 = .ok (.new 55, 3) := by decide +kernel
theorem dX6_init_83 : decode cX6_init 83 = .ok (.dup, 1) := by decide +kernel
theorem dX6_init_84 : decode cX6_init 84 = .ok (.aload_n 1, 1) := by decide +kernel
theorem dX6_init_85 : decode cX6_init 85 = .ok (.sipush 200, 3) := by decide +kernel
theorem dX6_init_88 : decode cX6_init 88 = .ok (.invokespecial 57, 3) := by decide +kernel
theorem dX6_init_91 : decode cX6_init 91 = .ok (.putfield 60, 3) := by decide +kernel
theorem dX6_init_94 : decode cX6_init 94 = .ok (.aload_n 0, 1) := by decide +kernel
theorem dX6_init_95 : decode cX6_init 95 = .ok (.new 55, 3) := by decide +kernel
theorem dX6_init_98 : decode cX6_init 98 = .ok (.dup, 1) := by decide +kernel
theorem dX6_init_99 : decode cX6_init 99 = .ok (.aload_n 1, 1) := by decide +kernel
theorem dX6_init_100 : decode cX6_init 100 = .ok (.sipush 200, 3) := by decide +kernel
theorem dX6_init_103 : decode cX6_init 103 = .ok (.invokespecial 57, 3) := by decide +kernel
theorem dX6_init_106 : decode cX6_init 106 = .ok (.putfield 64, 3) := by decide +kernel
theorem dX6_init_109 : decode cX6_init 109 = .ok (.return_, 1) := by decide +kernel
theorem dX8_init_0 : decode cX8_init 0 = .ok (.aload_n 0, 1) := by decide +kernel
theorem dX8_init_1 : decode cX8_init 1 = .ok (.invokespecial 3, 3) := by decide +kernel
theorem dX8_init_4 : decode cX8_init 4 = .ok (.aload_n 0, 1) := by decide +kernel
theorem dX8_init_5 : decode cX8_init 5 = .ok (.bipush 64, 2) := by decide +kernel
theorem dX8_init_7 : decode cX8_init 7 = .ok (.newarray .int, 2) := by decide +kernel
theorem dX8_init_9 : decode cX8_init 9 = .ok (.putfield 11, 3) := by decide +kernel
theorem dX8_init_12 : decode cX8_init 12 = .ok (.aload_n 0, 1) := by decide +kernel
theorem dX8_init_13 : decode cX8_init 13 = .ok (.bipush 64, 2) := by decide +kernel
theorem dX8_init_15 : decode cX8_init 15 = .ok (.newarray .boolean, 2) := by decide +kernel
theorem dX8_init_17 : decode cX8_init 17 = .ok (.putfield 15, 3) := by decide +kernel
theorem dX8_init_20 : decode cX8_init 20 = .ok (.aload_n 0, 1) := by decide +kernel
theorem dX8_init_21 : decode cX8_init 21 = .ok (.iconst 0, 1) := by decide +kernel
theorem dX8_init_22 : decode cX8_init 22 = .ok (.putfield 19, 3) := by decide +kernel
theorem dX8_init_25 : decode cX8_init 25 = .ok (.aload_n 0, 1) := by decide +kernel
theorem dX8_init_26 : decode cX8_init 26 = .ok (.iconst 0, 1) := by decide +kernel
theorem dX8_init_27 : decode cX8_init 27 = .ok (.putfield 23, 3) := by decide +kernel
theorem dX8_init_30 : decode cX8_init 30 = .ok (.aload_n 0, 1) := by decide +kernel
theorem dX8_init_31 : decode cX8_init 31 = .ok (.sipush 128, 3) := by decide +kernel
theorem dX8_init_34 : decode cX8_init 34 = .ok (.newarray .int, 2) := by decide +kernel
theorem dX8_init_36 : decode cX8_init 36 = .ok (.putfield 26, 3) := by decide +kernel
theorem dX8_init_39 : decode cX8_init 39 = .ok (.aload_n 0, 1) := by decide +kernel
theorem dX8_init_40 : decode cX8_init 40 = .ok (.iconst 0, 1) := by decide +kernel
theorem dX8_init_41 : decode cX8_init 41 = .ok (.putfield 29, 3) := by decide +kernel
theorem dX8_init_44 : decode cX8_init 44 = .ok (.aload_n 0, 1) := by decide +kernel
theorem dX8_init_45 : decode cX8_init 45 = .ok (.bipush 6, 2) := by decide +kernel
theorem dX8_init_47 : decode cX8_init 47 = .ok (.newarray .int, 2) := by decide +kernel
theorem dX8_init_49 : decode cX8_init 49 = .ok (.putfield 32, 3) := by decide +kernel
theorem dX8_init_52 : decode cX8_init 52 = .ok (.aload_n 0, 1) := by decide +kernel
theorem dX8_init_53 : decode cX8_init 53 = .ok (.iconst (-1), 1) := by decide +kernel
theorem dX8_init_54 : decode cX8_init 54 = .ok (.putfield 35, 3) := by decide +kernel
theorem dX8_init_57 : decode cX8_init 57 = .ok (.aload_n 0, 1) := by decide +kernel
theorem dX8_init_58 : decode cX8_init 58 = .ok (.aload_n 1, 1) := by decide +kernel
theorem dX8_init_59 : decode cX8_init 59 = .ok (.putfield 38, 3) := by decide +kernel
theorem dX8_init_62 : decode cX8_init 62 = .ok (.aload_n 0, 1) := by decide +kernel
theorem dX8_init_63 : decode cX8_init 63 = .ok (.aload_n 2, 1) := by decide +kernel
theorem dX8_init_64 : decode cX8_init 64 = .ok (.putfield 42, 3) := by decide +kernel
theorem dX8_init_67 : decode cX8_init 67 = .ok (.aload_n 0, 1) := by decide +kernel
theorem dX8_init_68 : decode cX8_init 68 = .ok (.aload_n 3, 1) := by decide +kernel
theorem dX8_init_69 : decode cX8_init 69 = .ok (.putfield 46, 3) := by decide +kernel
theorem dX8_init_72 : decode cX8_init 72 = .ok (.return_, 1) := by decide +kernel
theorem dX9_init_0 : decode cX9_init 0 = .ok (.aload_n 0, 1) := by decide +kernel
theorem dX9_init_1 : decode cX9_init 1 = .ok (.invokespecial 3, 3) := by decide +kernel
theorem dX9_init_4 : decode cX9_init 4 = .ok (.aload_n 0, 1) := by decide +kernel
theorem dX9_init_5 : decode cX9_init 5 = .ok (.iconst 0, 1) := by decide +kernel
theorem dX9_init_6 : decode cX9_init 6 = .ok (.putfield 9, 3) := by decide +kernel
theorem dX9_init_9 : decode cX9_init 9 = .ok (.aload_n 0, 1) := by decide +kernel
theorem dX9_init_10 : decode cX9_init 10 = .ok (.aload_n 1, 1) := by decide +kernel
theorem dX9_init_11 : decode cX9_init 11 = .ok (.putfield 15, 3) := by decide +kernel
theorem dX9_init_14 : decode cX9_init 14 = .ok (.aload_n 0, 1) := by decide +kernel
theorem dX9_init_15 : decode cX9_init 15 = .ok (.iconst 1, 1) := by decide +kernel
theorem dX9_init_16 : decode cX9_init 16 = .ok (.iload_n 2, 1) := by decide +kernel
theorem dX9_init_17 : decode cX9_init 17 = .ok (.invokestatic 19, 3) := by decide +kernel
theorem dX9_init_20 : decode cX9_init 20 = .ok (.newarray .char, 2) := by decide +kernel
theorem dX9_init_22 : decode cX9_init 22 = .ok (.putfield 25, 3) := by decide +kernel
theorem dX9_init_25 : decode cX9_init 25 = .ok (.aload_n 0, 1) := by decide +kernel
theorem dX9_init_26 : decode cX9_init 26 = .ok (.iconst 1, 1) := by decide +kernel
theorem dX9_init_27 : decode cX9_init 27 = .ok (.iload_n 2, 1) := by decide +kernel
theorem dX9_init_28 : decode cX9_init 28 = .ok (.invokestatic 19, 3) := by decide +kernel
theorem dX9_init_31 : decode cX9_init 31 = .ok (.newarray .int, 2) := by decide +kernel
theorem dX9_init_33 : decode cX9_init 33 = .ok (.putfield 29, 3) := by decide +kernel
theorem dX9_init_36 : decode cX9_init 36 = .ok (.return_, 1) := by decide +kernel
theorem dX10_init_0 : decode cX10_init 0 = .ok (.aload_n 0, 1) := by decide +kernel
theorem dX10_init_1 : decode cX10_init 1 = .ok (.invokespecial 3, 3) := by decide +kernel
theorem dX10_init_4 : decode cX10_init 4 = .ok (.aload_n 0, 1) := by decide +kernel
theorem dX10_init_5 : decode cX10_init 5 = .ok (.iconst (-1), 1) := by decide +kernel
theorem dX10_init_6 : decode cX10_init 6 = .ok (.putfield 9, 3) := by decide +kernel
theorem dX10_init_9 : decode cX10_init 9 = .ok (.aload_n 0, 1) := by decide +kernel
theorem dX10_init_10 : decode cX10_init 10 = .ok (.iconst (-1), 1) := by decide +kernel
theorem dX10_init_11 : decode cX10_init 11 = .ok (.putfield 15, 3) := by decide +kernel
theorem dX10_init_14 : decode cX10_init 14 = .ok (.aload_n 0, 1) := by decide +kernel
theorem dX10_init_15 : decode cX10_init 15 = .ok (.sipush 256, 3) := by decide +kernel
theorem dX10_init_18 : decode cX10_init 18 = .ok (.newarray .int, 2) := by decide +kernel
theorem dX10_init_20 : decode cX10_init 20 = .ok (.putfield 18, 3) := by decide +kernel
theorem dX10_init_23 : decode cX10_init 23 = .ok (.aload_n 0, 1) := by decide +kernel
theorem dX10_init_24 : decode cX10_init 24 = .ok (.sipush 256, 3) := by decide +kernel
theorem dX10_init_27 : decode cX10_init 27 = .ok (.newarray .int, 2) := by decide +kernel
theorem dX10_init_29 : decode cX10_init 29 = .ok (.putfield 22, 3) := by decide +kernel
theorem dX10_init_32 : decode cX10_init 32 = .ok (.aload_n 0, 1) := by decide +kernel
theorem dX10_init_33 : decode cX10_init 33 = .ok (.iconst 0, 1) := by decide +kernel
theorem dX10_init_34 : decode cX10_init 34 = .ok (.putfield 25, 3) := by decide +kernel
theorem dX10_init_37 : decode cX10_init 37 = .ok (.aload_n 0, 1) := by decide +kernel
theorem dX10_init_38 : decode cX10_init 38 = .ok (.iconst (-1), 1) := by decide +kernel
theorem dX10_init_39 : decode cX10_init 39 = .ok (.putfield 28, 3) := by decide +kernel
theorem dX10_init_42 : decode cX10_init 42 = .ok (.aload_n 0, 1) := by decide +kernel
theorem dX10_init_43 : decode cX10_init 43 = .ok (.iconst (-1), 1) := by decide +kernel
theorem dX10_init_44 : decode cX10_init 44 = .ok (.putfield 31, 3) := by decide +kernel
theorem dX10_init_47 : decode cX10_init 47 = .ok (.aload_n 0, 1) := by decide +kernel
theorem dX10_init_48 : decode cX10_init 48 = .ok (.sipush 128, 3) := by decide +kernel
theorem dX10_init_51 : decode cX10_init 51 = .ok (.newarray .int, 2) := by decide +kernel
theorem dX10_init_53 : decode cX10_init 53 = .ok (.putfield 34, 3) := by decide +kernel
theorem dX10_init_56 : decode cX10_init 56 = .ok (.aload_n 0, 1) := by decide +kernel
theorem dX10_init_57 : decode cX10_init 57 = .ok (.sipush 128, 3) := by decide +kernel
theorem dX10_init_60 : decode cX10_init 60 = .ok (.newarray .int, 2) := by decide +kernel
theorem dX10_init_62 : decode cX10_init 62 = .ok (.putfield 37, 3) := by decide +kernel
theorem dX10_init_65 : decode cX10_init 65 = .ok (.aload_n 0, 1) := by decide +kernel
theorem dX10_init_66 : decode cX10_init 66 = .ok (.sipush 128, 3) := by decide +kernel
theorem dX10_init_69 : decode cX10_init 69 = .ok (.newarray .int, 2) := by decide +kernel
theorem dX10_init_71 : decode cX10_init 71 = .ok (.putfield 40, 3) := by decide +kernel
theorem dX10_init_74 : decode cX10_init 74 = .ok (.aload_n 0, 1) := by decide +kernel
theorem dX10_init_75 : decode cX10_init 75 = .ok (.sipush 768, 3) := by decide +kernel
theorem dX10_init_78 : decode cX10_init 78 = .ok (.newarray .int, 2) := by decide +kernel
theorem dX10_init_80 : decode cX10_init 80 = .ok (.putfield 43, 3) := by decide +kernel
theorem dX10_init_83 : decode cX10_init 83 = .ok (.aload_n 0, 1) := by decide +kernel
theorem dX10_init_84 : decode cX10_init 84 = .ok (.sipush 128, 3) := by decide +kernel
theorem dX10_init_87 : decode cX10_init 87 = .ok (.newarray .int, 2) := by decide +kernel
theorem dX10_init_89 : decode cX10_init 89 = .ok (.putfield 46, 3) := by decide +kernel
theorem dX10_init_92 : decode cX10_init 92 = .ok (.aload_n 0, 1) := by decide +kernel
theorem dX10_init_93 : decode cX10_init 93 = .ok (.sipush 128, 3) := by decide +kernel
theorem dX10_init_96 : decode cX10_init 96 = .ok (.newarray .int, 2) := by decide +kernel
theorem dX10_init_98 : decode cX10_init 98 = .ok (.putfield 49, 3) := by decide +kernel
theorem dX10_init_101 : decode cX10_init 101 = .ok (.aload_n 0, 1) := by decide +kernel
theorem dX10_init_102 : decode cX10_init 102 = .ok (.sipush 128, 3) := by decide +kernel
theorem dX10_init_105 : decode cX10_init 105 = .ok (.newarray .int, 2) := by decide +kernel
theorem dX10_init_107 : decode cX10_init 107 = .ok (.putfield 52, 3) := by decide +kernel
theorem dX10_init_110 : decode cX10_init 110 = .ok (.aload_n 0, 1) := by decide +kernel
theorem dX10_init_111 : decode cX10_init 111 = .ok (.aload_n 1, 1) := by decide +kernel
theorem dX10_init_112 : decode cX10_init 112 = .ok (.putfield 55, 3) := by decide +kernel
theorem dX10_init_115 : decode cX10_init 115 = .ok (.aload_n 0, 1) := by decide +kernel
theorem dX10_init_116 : decode cX10_init 116 = .ok (.aload_n 2, 1) := by decide +kernel
theorem dX10_init_117 : decode cX10_init 117 = .ok (.putfield 59, 3) := by decide +kernel
theorem dX10_init_120 : decode cX10_init 120 = .ok (.return_, 1) := by decide +kernel

/-! the class's constructors, all cells kept -/
theorem ia_I (cA : ClassId) (n : Nat) : vp_cell cA (n, .inl (fun _ => 0)) = arrV cA n (fun _ => defaultValue .int) := rfl
theorem ia_Z (cA : ClassId) (n : Nat) : vp_cell cA (n, .inl (fun _ => 0)) = arrV cA n (fun _ => defaultValue .boolean) := rfl
theorem ia_J (cA : ClassId) (n : Nat) : vp_cell cA (n, .inr (.inl (fun _ => 0))) = arrV cA n (fun _ => defaultValue .long) := rfl
theorem fnO_0 {f : Nat → Nat} : fnO f 0 = fun _ => none := funext fun i => if_neg (Nat.not_lt_zero i)
abbrev kU : Type := (Nat → Nat) × (Nat → Nat → Nat) × Unit
abbrev kU2 : Type := (Nat → Nat) × (Nat → Nat → Nat) × (Nat → kU)
def kW1 (ca : Nat → ClassId) (h0 : Nat) (u : kU) : va_W := ([(h0, .inr (1, [.ref (u.1 0), .int (0), .int (0), .int (0)])), ((u.1 0), .inl (ca 0, 30, .inl (fun _ => 0)))] ++ ([]))
set_option maxHeartbeats 4000000 in
set_option maxRecDepth 100000 in
/-- ProofHouse$Clause() -/
theorem k_X1_init (l : Launch) (D : va_G) (ca : Nat → ClassId) (h0 sz : Nat)  : Met l yX1_init wsX1_init ({ frames := 1, cells := 1, slots := 30, locals := 12 }) (va_Pc [.ref (h0)] (fun U => U.heap.size = sz ∧ va_P D vwCl [(h0, .inr (1, [.null, .int 0, .int 0, .int 0]))] U.heap ∧ va_K D vwCl (yTy ca) U ∧ va_D (fun _ => True) [(h0, .inr (1, [.null, .int 0, .int 0, .int 0]))])) (va_Qv (fun _ : kU => True) (fun u t => va_P D vwCl (kW1 ca h0  u) t.heap ∧ va_K D vwCl (yTy ca) t ∧ va_D (va_A [(h0, .inr (1, [.null, .int 0, .int 0, .int 0]))] sz) (kW1 ca h0  u)) (va_A [(h0, .inr (1, [.null, .int 0, .int 0, .int 0]))] sz)) 1 30 (va_A [(h0, .inr (1, [.null, .int 0, .int 0, .int 0]))] sz) := by
  refine Met.ofW (cc := cX1_init) (maxL := 1) (ret := none) (by decide) rfl ?_
  intro p e s m args below meth c s₁ B hml hv
  obtain ⟨rfl, hsz, hP, hK, hD0⟩ := hv
  have hx := B.exec
  have hb := B.bytes
  have hr := B.returns
  have hts := atoms_spec (ws := wsX1_init) B.pre
  have hown : s.vm.findClass RX1 = some m.cls := findClass_of_methodNamed B.named
  have hnm : meth.name = "<init>" := (name_of_methodNamed B.named B.method).1
  subst hsz
  have hD := hD0.self (sz := s.heap.size)
  generalize hAe : va_A ([(h0, .inr (1, [.null, .int 0, .int 0, .int 0]))]) s.heap.size = A at hD ⊢
  have hA : ∀ q : Nat, s.heap.size ≤ q → A q := fun q h => by rw [← hAe]; exact Or.inr h
  have hS : va_S A s.heap s.heap [] := va_S.rf
  have hl := lv_entry ([.ref (h0)]) (n := 1) (Nat.le_of_ble_eq_true rfl)
  rw [lg_entry_eq]
  generalize (lg_sl ([.ref (h0)]) ++ List.replicate (1 - (lg_sl ([.ref (h0)])).length) Slot.unset).toArray = ls at hl ⊢
  have hl : lv_has ls 1 [(0, .ref (h0))] := hl
  have hP : va_P D vwCl ([(h0, .inr (1, [.null, .int 0, .int 0, .int 0]))] ++ ([])) s.heap := hP
  have hD : va_D A ([(h0, .inr (1, [.null, .int 0, .int 0, .int 0]))] ++ ([])) := hD
  refine lv_aload_n hx hb dX1_init_0 rfl (lv_at hl 0 rfl) ?_
  refine W.objInit hx hb hown (hts (.methodLink RX1 3 objectInit) (List.mem_of_getElem? (i := 1) rfl)) (hts (.instanceMethod objectInit) (List.mem_of_getElem? (i := 2) rfl)) (hts (.code objectInit ⟨#[0xb1]⟩ 1 none) (List.mem_of_getElem? (i := 3) rfl)) rfl (by rw [hml]; exact hl.1) rfl dX1_init_1 (Nat.le_of_ble_eq_true rfl) (Nat.le_of_ble_eq_true rfl) ?_
  refine W.eq (g2 := F0 m 4 ls []) rfl ?_
  refine lv_aload_n hx hb dX1_init_4 rfl (lv_at hl 0 rfl) ?_
  refine lv_bipush hx hb dX1_init_5 (v := 30) rfl ?_
  refine kb_arr (C := RX1) (T := TX1) (N := 4) (ci := 1) (ty0 := tyX1) (atype := .int) (ty := .int) (a0 := (30, .inl (fun _ => 0))) (nw := 30) 0 hx hb hts (fun w h => List.mem_cons_of_mem _ (List.mem_append_right _ h)) tyX1_ok nmX1 hown hnm rfl hA hK hP hD hS (hts (.arrayClass .int) (List.mem_of_getElem? (i := 4) rfl)) rfl rfl (fun cA => ia_I cA _) (by decide) (by decide) (by decide) (Nat.le_of_ble_eq_true rfl) (Nat.le_of_ble_eq_true rfl) dX1_init_7 0 (by decide) (Nat.le_of_ble_eq_true rfl) (hts (.fieldLink RX1 11 "ProofHouse$Clause" "literals" "[I") (List.mem_of_getElem? (i := 5) rfl)) rfl rfl (tyX1_ok 0 (by decide)) dX1_init_9 ?_
  clear hP hD hS
  intro q1 H locs hP hD hS
  have hP : va_P D vwCl ([(h0, .inr (1, [.ref q1, .int 0, .int 0, .int 0])), (q1, .inl (ca 0, 30, .inl (fun _ => 0)))] ++ ([])) H := hP
  have hD : va_D A ([(h0, .inr (1, [.ref q1, .int 0, .int 0, .int 0])), (q1, .inl (ca 0, 30, .inl (fun _ => 0)))] ++ ([])) := hD
  refine lv_aload_n hx hb dX1_init_12 rfl (lv_at hl 0 rfl) ?_
  refine lv_iconst hx hb dX1_init_13 (v := 0) rfl ?_
  refine va_put (D := D) (ci := 1) (v := .int (0)) (ty := .int) (C := RX1) (T := TX1) (N := 4) hx hb hts (fun w h => List.mem_cons_of_mem _ (List.mem_append_right _ h)) tyX1 tyX1_ok nmX1 hown hK hP hD hS 0 rfl rfl 1 (by decide) (hts (.fieldLink RX1 15 "ProofHouse$Clause" "length" "I") (List.mem_of_getElem? (i := 6) rfl)) (fun _ h9 => h9) rfl (tyX1_ok 1 (by decide)) rfl rfl (Nat.le_of_ble_eq_true rfl) dX1_init_14 ?_
  clear hP hD hS
  intro H locs hP hD hS
  have hP : va_P D vwCl ([(h0, .inr (1, [.ref q1, .int (0), .int 0, .int 0])), (q1, .inl (ca 0, 30, .inl (fun _ => 0)))] ++ ([])) H := hP
  have hD : va_D A ([(h0, .inr (1, [.ref q1, .int (0), .int 0, .int 0])), (q1, .inl (ca 0, 30, .inl (fun _ => 0)))] ++ ([])) := hD
  refine lv_aload_n hx hb dX1_init_17 rfl (lv_at hl 0 rfl) ?_
  refine lv_iconst hx hb dX1_init_18 (v := 0) rfl ?_
  refine va_put (D := D) (ci := 1) (v := .int (0)) (ty := .int) (C := RX1) (T := TX1) (N := 4) hx hb hts (fun w h => List.mem_cons_of_mem _ (List.mem_append_right _ h)) tyX1 tyX1_ok nmX1 hown hK hP hD hS 0 rfl rfl 2 (by decide) (hts (.fieldLink RX1 19 "ProofHouse$Clause" "weight" "I") (List.mem_of_getElem? (i := 7) rfl)) (fun _ h9 => h9) rfl (tyX1_ok 2 (by decide)) rfl rfl (Nat.le_of_ble_eq_true rfl) dX1_init_19 ?_
  clear hP hD hS
  intro H locs hP hD hS
  have hP : va_P D vwCl ([(h0, .inr (1, [.ref q1, .int (0), .int (0), .int 0])), (q1, .inl (ca 0, 30, .inl (fun _ => 0)))] ++ ([])) H := hP
  have hD : va_D A ([(h0, .inr (1, [.ref q1, .int (0), .int (0), .int 0])), (q1, .inl (ca 0, 30, .inl (fun _ => 0)))] ++ ([])) := hD
  refine lv_aload_n hx hb dX1_init_22 rfl (lv_at hl 0 rfl) ?_
  refine lv_iconst hx hb dX1_init_23 (v := 0) rfl ?_
  refine va_put (D := D) (ci := 1) (v := .int (0)) (ty := .int) (C := RX1) (T := TX1) (N := 4) hx hb hts (fun w h => List.mem_cons_of_mem _ (List.mem_append_right _ h)) tyX1 tyX1_ok nmX1 hown hK hP hD hS 0 rfl rfl 3 (by decide) (hts (.fieldLink RX1 22 "ProofHouse$Clause" "rounds" "I") (List.mem_of_getElem? (i := 8) rfl)) (fun _ h9 => h9) rfl (tyX1_ok 3 (by decide)) rfl rfl (Nat.le_of_ble_eq_true rfl) dX1_init_24 ?_
  clear hP hD hS
  intro H locs hP hD hS
  have hP : va_P D vwCl ([(h0, .inr (1, [.ref q1, .int (0), .int (0), .int (0)])), (q1, .inl (ca 0, 30, .inl (fun _ => 0)))] ++ ([])) H := hP
  have hD : va_D A ([(h0, .inr (1, [.ref q1, .int (0), .int (0), .int (0)])), (q1, .inl (ca 0, 30, .inl (fun _ => 0)))] ++ ([])) := hD
  exact W.vret hx hb hr (fun t ht hW => ⟨⟨((fun k => ([q1] : List Nat).getD k 0), (fun k => ([] : List (Nat → Nat)).getD k (fun _ => 0)), ()), rfl, trivial, ⟨by rw [ht]; exact hP, va_K.moved hW.alike hK, hD⟩⟩, hS.F ht⟩) hS.2.2 dX1_init_27

def kW5 (ca : Nat → ClassId) (h0 : Nat) (r1 : Nat) (u : kU) : va_W := ([(h0, .inr (5, [.ref (r1), .ref (u.1 0), .ref (u.1 1), .ref (u.1 2), .ref (u.1 3), .int (0), .int (0), .int (0), .int (0), .int (0), .int ((-1))])), ((u.1 0), .inl (ca 0, 41, .inl (fun _ => 0))), ((u.1 1), .inl (ca 0, 41, .inl (fun _ => 0))), ((u.1 2), .inl (ca 0, 41, .inl (fun _ => 0))), ((u.1 3), .inl (ca 0, 1000, .inl (fun _ => 0)))] ++ ([]))
set_option maxHeartbeats 4000000 in
set_option maxRecDepth 100000 in
/-- ProofHouse$Reader() -/
theorem k_X5_init (l : Launch) (D : va_G) (ca : Nat → ClassId) (h0 sz : Nat) (r1 : Nat) : Met l yX5_init wsX5_init ({ frames := 1, cells := 4, slots := 1123, locals := 12 }) (va_Pc [.ref (h0), .ref (r1)] (fun U => U.heap.size = sz ∧ va_P D vwCl [(h0, .inr (5, [.null, .null, .null, .null, .null, .int 0, .int 0, .int 0, .int 0, .int 0, .int 0]))] U.heap ∧ va_K D vwCl (yTy ca) U ∧ va_D (fun _ => True) [(h0, .inr (5, [.null, .null, .null, .null, .null, .int 0, .int 0, .int 0, .int 0, .int 0, .int 0]))])) (va_Qv (fun _ : kU => True) (fun u t => va_P D vwCl (kW5 ca h0 r1 u) t.heap ∧ va_K D vwCl (yTy ca) t ∧ va_D (va_A [(h0, .inr (5, [.null, .null, .null, .null, .null, .int 0, .int 0, .int 0, .int 0, .int 0, .int 0]))] sz) (kW5 ca h0 r1 u)) (va_A [(h0, .inr (5, [.null, .null, .null, .null, .null, .int 0, .int 0, .int 0, .int 0, .int 0, .int 0]))] sz)) 4 1123 (va_A [(h0, .inr (5, [.null, .null, .null, .null, .null, .int 0, .int 0, .int 0, .int 0, .int 0, .int 0]))] sz) := by
  refine Met.ofW (cc := cX5_init) (maxL := 2) (ret := none) (by decide) rfl ?_
  intro p e s m args below meth c s₁ B hml hv
  obtain ⟨rfl, hsz, hP, hK, hD0⟩ := hv
  have hx := B.exec
  have hb := B.bytes
  have hr := B.returns
  have hts := atoms_spec (ws := wsX5_init) B.pre
  have hown : s.vm.findClass RX5 = some m.cls := findClass_of_methodNamed B.named
  have hnm : meth.name = "<init>" := (name_of_methodNamed B.named B.method).1
  subst hsz
  have hD := hD0.self (sz := s.heap.size)
  generalize hAe : va_A ([(h0, .inr (5, [.null, .null, .null, .null, .null, .int 0, .int 0, .int 0, .int 0, .int 0, .int 0]))]) s.heap.size = A at hD ⊢
  have hA : ∀ q : Nat, s.heap.size ≤ q → A q := fun q h => by rw [← hAe]; exact Or.inr h
  have hS : va_S A s.heap s.heap [] := va_S.rf
  have hl := lv_entry ([.ref (h0), .ref (r1)]) (n := 2) (Nat.le_of_ble_eq_true rfl)
  rw [lg_entry_eq]
  generalize (lg_sl ([.ref (h0), .ref (r1)]) ++ List.replicate (2 - (lg_sl ([.ref (h0), .ref (r1)])).length) Slot.unset).toArray = ls at hl ⊢
  have hl : lv_has ls 2 [(0, .ref (h0)), (1, .ref (r1))] := hl
  have hP : va_P D vwCl ([(h0, .inr (5, [.null, .null, .null, .null, .null, .int 0, .int 0, .int 0, .int 0, .int 0, .int 0]))] ++ ([])) s.heap := hP
  have hD : va_D A ([(h0, .inr (5, [.null, .null, .null, .null, .null, .int 0, .int 0, .int 0, .int 0, .int 0, .int 0]))] ++ ([])) := hD
  refine lv_aload_n hx hb dX5_init_0 rfl (lv_at hl 0 rfl) ?_
  refine W.objInit hx hb hown (hts (.methodLink RX5 3 objectInit) (List.mem_of_getElem? (i := 1) rfl)) (hts (.instanceMethod objectInit) (List.mem_of_getElem? (i := 2) rfl)) (hts (.code objectInit ⟨#[0xb1]⟩ 1 none) (List.mem_of_getElem? (i := 3) rfl)) rfl (by rw [hml]; exact hl.1) rfl dX5_init_1 (Nat.le_of_ble_eq_true rfl) (Nat.le_of_ble_eq_true rfl) ?_
  refine W.eq (g2 := F0 m 4 ls []) rfl ?_
  refine lv_aload_n hx hb dX5_init_4 rfl (lv_at hl 0 rfl) ?_
  refine lv_bipush hx hb dX5_init_5 (v := 41) rfl ?_
  refine kb_arr (C := RX5) (T := TX5) (N := 11) (ci := 5) (ty0 := tyX5) (atype := .int) (ty := .int) (a0 := (41, .inl (fun _ => 0))) (nw := 41) 0 hx hb hts (fun w h => List.mem_cons_of_mem _ (List.mem_append_right _ h)) tyX5_ok nmX5 hown hnm rfl hA hK hP hD hS (hts (.arrayClass .int) (List.mem_of_getElem? (i := 4) rfl)) rfl rfl (fun cA => ia_I cA _) (by decide) (by decide) (by decide) (Nat.le_of_ble_eq_true rfl) (Nat.le_of_ble_eq_true rfl) dX5_init_7 1 (by decide) (Nat.le_of_ble_eq_true rfl) (hts (.fieldLink RX5 11 "ProofHouse$Reader" "phases" "[I") (List.mem_of_getElem? (i := 5) rfl)) rfl rfl (tyX5_ok 1 (by decide)) dX5_init_9 ?_
  clear hP hD hS
  intro q1 H locs hP hD hS
  have hP : va_P D vwCl ([(h0, .inr (5, [.null, .ref q1, .null, .null, .null, .int 0, .int 0, .int 0, .int 0, .int 0, .int 0])), (q1, .inl (ca 0, 41, .inl (fun _ => 0)))] ++ ([])) H := hP
  have hD : va_D A ([(h0, .inr (5, [.null, .ref q1, .null, .null, .null, .int 0, .int 0, .int 0, .int 0, .int 0, .int 0])), (q1, .inl (ca 0, 41, .inl (fun _ => 0)))] ++ ([])) := hD
  refine lv_aload_n hx hb dX5_init_12 rfl (lv_at hl 0 rfl) ?_
  refine lv_bipush hx hb dX5_init_13 (v := 41) rfl ?_
  refine kb_arr (C := RX5) (T := TX5) (N := 11) (ci := 5) (ty0 := tyX5) (atype := .int) (ty := .int) (a0 := (41, .inl (fun _ => 0))) (nw := 41) 0 hx hb hts (fun w h => List.mem_cons_of_mem _ (List.mem_append_right _ h)) tyX5_ok nmX5 hown hnm rfl hA hK hP hD hS (hts (.arrayClass .int) (List.mem_of_getElem? (i := 4) rfl)) rfl rfl (fun cA => ia_I cA _) (by decide) (by decide) (by decide) (Nat.le_of_ble_eq_true rfl) (Nat.le_of_ble_eq_true rfl) dX5_init_15 2 (by decide) (Nat.le_of_ble_eq_true rfl) (hts (.fieldLink RX5 15 "ProofHouse$Reader" "bases" "[I") (List.mem_of_getElem? (i := 6) rfl)) rfl rfl (tyX5_ok 2 (by decide)) dX5_init_17 ?_
  clear hP hD hS
  intro q2 H locs hP hD hS
  have hP : va_P D vwCl ([(h0, .inr (5, [.null, .ref q1, .ref q2, .null, .null, .int 0, .int 0, .int 0, .int 0, .int 0, .int 0])), (q1, .inl (ca 0, 41, .inl (fun _ => 0))), (q2, .inl (ca 0, 41, .inl (fun _ => 0)))] ++ ([])) H := hP
  have hD : va_D A ([(h0, .inr (5, [.null, .ref q1, .ref q2, .null, .null, .int 0, .int 0, .int 0, .int 0, .int 0, .int 0])), (q1, .inl (ca 0, 41, .inl (fun _ => 0))), (q2, .inl (ca 0, 41, .inl (fun _ => 0)))] ++ ([])) := hD
  refine lv_aload_n hx hb dX5_init_20 rfl (lv_at hl 0 rfl) ?_
  refine lv_bipush hx hb dX5_init_21 (v := 41) rfl ?_
  refine kb_arr (C := RX5) (T := TX5) (N := 11) (ci := 5) (ty0 := tyX5) (atype := .int) (ty := .int) (a0 := (41, .inl (fun _ => 0))) (nw := 41) 0 hx hb hts (fun w h => List.mem_cons_of_mem _ (List.mem_append_right _ h)) tyX5_ok nmX5 hown hnm rfl hA hK hP hD hS (hts (.arrayClass .int) (List.mem_of_getElem? (i := 4) rfl)) rfl rfl (fun cA => ia_I cA _) (by decide) (by decide) (by decide) (Nat.le_of_ble_eq_true rfl) (Nat.le_of_ble_eq_true rfl) dX5_init_23 3 (by decide) (Nat.le_of_ble_eq_true rfl) (hts (.fieldLink RX5 18 "ProofHouse$Reader" "tails" "[I") (List.mem_of_getElem? (i := 7) rfl)) rfl rfl (tyX5_ok 3 (by decide)) dX5_init_25 ?_
  clear hP hD hS
  intro q3 H locs hP hD hS
  have hP : va_P D vwCl ([(h0, .inr (5, [.null, .ref q1, .ref q2, .ref q3, .null, .int 0, .int 0, .int 0, .int 0, .int 0, .int 0])), (q1, .inl (ca 0, 41, .inl (fun _ => 0))), (q2, .inl (ca 0, 41, .inl (fun _ => 0))), (q3, .inl (ca 0, 41, .inl (fun _ => 0)))] ++ ([])) H := hP
  have hD : va_D A ([(h0, .inr (5, [.null, .ref q1, .ref q2, .ref q3, .null, .int 0, .int 0, .int 0, .int 0, .int 0, .int 0])), (q1, .inl (ca 0, 41, .inl (fun _ => 0))), (q2, .inl (ca 0, 41, .inl (fun _ => 0))), (q3, .inl (ca 0, 41, .inl (fun _ => 0)))] ++ ([])) := hD
  refine lv_aload_n hx hb dX5_init_28 rfl (lv_at hl 0 rfl) ?_
  refine lv_sipush hx hb dX5_init_29 (v := 1000) rfl ?_
  refine kb_arr (C := RX5) (T := TX5) (N := 11) (ci := 5) (ty0 := tyX5) (atype := .int) (ty := .int) (a0 := (1000, .inl (fun _ => 0))) (nw := 1000) 0 hx hb hts (fun w h => List.mem_cons_of_mem _ (List.mem_append_right _ h)) tyX5_ok nmX5 hown hnm rfl hA hK hP hD hS (hts (.arrayClass .int) (List.mem_of_getElem? (i := 4) rfl)) rfl rfl (fun cA => ia_I cA _) (by decide) (by decide) (by decide) (Nat.le_of_ble_eq_true rfl) (Nat.le_of_ble_eq_true rfl) dX5_init_32 4 (by decide) (Nat.le_of_ble_eq_true rfl) (hts (.fieldLink RX5 21 "ProofHouse$Reader" "items" "[I") (List.mem_of_getElem? (i := 8) rfl)) rfl rfl (tyX5_ok 4 (by decide)) dX5_init_34 ?_
  clear hP hD hS
  intro q4 H locs hP hD hS
  have hP : va_P D vwCl ([(h0, .inr (5, [.null, .ref q1, .ref q2, .ref q3, .ref q4, .int 0, .int 0, .int 0, .int 0, .int 0, .int 0])), (q1, .inl (ca 0, 41, .inl (fun _ => 0))), (q2, .inl (ca 0, 41, .inl (fun _ => 0))), (q3, .inl (ca 0, 41, .inl (fun _ => 0))), (q4, .inl (ca 0, 1000, .inl (fun _ => 0)))] ++ ([])) H := hP
  have hD : va_D A ([(h0, .inr (5, [.null, .ref q1, .ref q2, .ref q3, .ref q4, .int 0, .int 0, .int 0, .int 0, .int 0, .int 0])), (q1, .inl (ca 0, 41, .inl (fun _ => 0))), (q2, .inl (ca 0, 41, .inl (fun _ => 0))), (q3, .inl (ca 0, 41, .inl (fun _ => 0))), (q4, .inl (ca 0, 1000, .inl (fun _ => 0)))] ++ ([])) := hD
  refine lv_aload_n hx hb dX5_init_37 rfl (lv_at hl 0 rfl) ?_
  refine lv_iconst hx hb dX5_init_38 (v := 0) rfl ?_
  refine va_put (D := D) (ci := 5) (v := .int (0)) (ty := .int) (C := RX5) (T := TX5) (N := 11) hx hb hts (fun w h => List.mem_cons_of_mem _ (List.mem_append_right _ h)) tyX5 tyX5_ok nmX5 hown hK hP hD hS 0 rfl rfl 5 (by decide) (hts (.fieldLink RX5 24 "ProofHouse$Reader" "depth" "I") (List.mem_of_getElem? (i := 9) rfl)) (fun _ h9 => h9) rfl (tyX5_ok 5 (by decide)) rfl rfl (Nat.le_of_ble_eq_true rfl) dX5_init_39 ?_
  clear hP hD hS
  intro H locs hP hD hS
  have hP : va_P D vwCl ([(h0, .inr (5, [.null, .ref q1, .ref q2, .ref q3, .ref q4, .int (0), .int 0, .int 0, .int 0, .int 0, .int 0])), (q1, .inl (ca 0, 41, .inl (fun _ => 0))), (q2, .inl (ca 0, 41, .inl (fun _ => 0))), (q3, .inl (ca 0, 41, .inl (fun _ => 0))), (q4, .inl (ca 0, 1000, .inl (fun _ => 0)))] ++ ([])) H := hP
  have hD : va_D A ([(h0, .inr (5, [.null, .ref q1, .ref q2, .ref q3, .ref q4, .int (0), .int 0, .int 0, .int 0, .int 0, .int 0])), (q1, .inl (ca 0, 41, .inl (fun _ => 0))), (q2, .inl (ca 0, 41, .inl (fun _ => 0))), (q3, .inl (ca 0, 41, .inl (fun _ => 0))), (q4, .inl (ca 0, 1000, .inl (fun _ => 0)))] ++ ([])) := hD
  refine lv_aload_n hx hb dX5_init_42 rfl (lv_at hl 0 rfl) ?_
  refine lv_iconst hx hb dX5_init_43 (v := 0) rfl ?_
  refine va_put (D := D) (ci := 5) (v := .int (0)) (ty := .int) (C := RX5) (T := TX5) (N := 11) hx hb hts (fun w h => List.mem_cons_of_mem _ (List.mem_append_right _ h)) tyX5 tyX5_ok nmX5 hown hK hP hD hS 0 rfl rfl 6 (by decide) (hts (.fieldLink RX5 28 "ProofHouse$Reader" "held" "I") (List.mem_of_getElem? (i := 10) rfl)) (fun _ h9 => h9) rfl (tyX5_ok 6 (by decide)) rfl rfl (Nat.le_of_ble_eq_true rfl) dX5_init_44 ?_
  clear hP hD hS
  intro H locs hP hD hS
  have hP : va_P D vwCl ([(h0, .inr (5, [.null, .ref q1, .ref q2, .ref q3, .ref q4, .int (0), .int (0), .int 0, .int 0, .int 0, .int 0])), (q1, .inl (ca 0, 41, .inl (fun _ => 0))), (q2, .inl (ca 0, 41, .inl (fun _ => 0))), (q3, .inl (ca 0, 41, .inl (fun _ => 0))), (q4, .inl (ca 0, 1000, .inl (fun _ => 0)))] ++ ([])) H := hP
  have hD : va_D A ([(h0, .inr (5, [.null, .ref q1, .ref q2, .ref q3, .ref q4, .int (0), .int (0), .int 0, .int 0, .int 0, .int 0])), (q1, .inl (ca 0, 41, .inl (fun _ => 0))), (q2, .inl (ca 0, 41, .inl (fun _ => 0))), (q3, .inl (ca 0, 41, .inl (fun _ => 0))), (q4, .inl (ca 0, 1000, .inl (fun _ => 0)))] ++ ([])) := hD
  refine lv_aload_n hx hb dX5_init_47 rfl (lv_at hl 0 rfl) ?_
  refine lv_iconst hx hb dX5_init_48 (v := 0) rfl ?_
  refine va_put (D := D) (ci := 5) (v := .int (0)) (ty := .int) (C := RX5) (T := TX5) (N := 11) hx hb hts (fun w h => List.mem_cons_of_mem _ (List.mem_append_right _ h)) tyX5 tyX5_ok nmX5 hown hK hP hD hS 0 rfl rfl 7 (by decide) (hts (.fieldLink RX5 31 "ProofHouse$Reader" "words" "I") (List.mem_of_getElem? (i := 11) rfl)) (fun _ h9 => h9) rfl (tyX5_ok 7 (by decide)) rfl rfl (Nat.le_of_ble_eq_true rfl) dX5_init_49 ?_
  clear hP hD hS
  intro H locs hP hD hS
  have hP : va_P D vwCl ([(h0, .inr (5, [.null, .ref q1, .ref q2, .ref q3, .ref q4, .int (0), .int (0), .int (0), .int 0, .int 0, .int 0])), (q1, .inl (ca 0, 41, .inl (fun _ => 0))), (q2, .inl (ca 0, 41, .inl (fun _ => 0))), (q3, .inl (ca 0, 41, .inl (fun _ => 0))), (q4, .inl (ca 0, 1000, .inl (fun _ => 0)))] ++ ([])) H := hP
  have hD : va_D A ([(h0, .inr (5, [.null, .ref q1, .ref q2, .ref q3, .ref q4, .int (0), .int (0), .int (0), .int 0, .int 0, .int 0])), (q1, .inl (ca 0, 41, .inl (fun _ => 0))), (q2, .inl (ca 0, 41, .inl (fun _ => 0))), (q3, .inl (ca 0, 41, .inl (fun _ => 0))), (q4, .inl (ca 0, 1000, .inl (fun _ => 0)))] ++ ([])) := hD
  refine lv_aload_n hx hb dX5_init_52 rfl (lv_at hl 0 rfl) ?_
  refine lv_iconst hx hb dX5_init_53 (v := 0) rfl ?_
  refine va_put (D := D) (ci := 5) (v := .int (0)) (ty := .int) (C := RX5) (T := TX5) (N := 11) hx hb hts (fun w h => List.mem_cons_of_mem _ (List.mem_append_right _ h)) tyX5 tyX5_ok nmX5 hown hK hP hD hS 0 rfl rfl 8 (by decide) (hts (.fieldLink RX5 34 "ProofHouse$Reader" "whole" "I") (List.mem_of_getElem? (i := 12) rfl)) (fun _ h9 => h9) rfl (tyX5_ok 8 (by decide)) rfl rfl (Nat.le_of_ble_eq_true rfl) dX5_init_54 ?_
  clear hP hD hS
  intro H locs hP hD hS
  have hP : va_P D vwCl ([(h0, .inr (5, [.null, .ref q1, .ref q2, .ref q3, .ref q4, .int (0), .int (0), .int (0), .int (0), .int 0, .int 0])), (q1, .inl (ca 0, 41, .inl (fun _ => 0))), (q2, .inl (ca 0, 41, .inl (fun _ => 0))), (q3, .inl (ca 0, 41, .inl (fun _ => 0))), (q4, .inl (ca 0, 1000, .inl (fun _ => 0)))] ++ ([])) H := hP
  have hD : va_D A ([(h0, .inr (5, [.null, .ref q1, .ref q2, .ref q3, .ref q4, .int (0), .int (0), .int (0), .int (0), .int 0, .int 0])), (q1, .inl (ca 0, 41, .inl (fun _ => 0))), (q2, .inl (ca 0, 41, .inl (fun _ => 0))), (q3, .inl (ca 0, 41, .inl (fun _ => 0))), (q4, .inl (ca 0, 1000, .inl (fun _ => 0)))] ++ ([])) := hD
  refine lv_aload_n hx hb dX5_init_57 rfl (lv_at hl 0 rfl) ?_
  refine lv_iconst hx hb dX5_init_58 (v := 0) rfl ?_
  refine va_put (D := D) (ci := 5) (v := .int (0)) (ty := .int) (C := RX5) (T := TX5) (N := 11) hx hb hts (fun w h => List.mem_cons_of_mem _ (List.mem_append_right _ h)) tyX5 tyX5_ok nmX5 hown hK hP hD hS 0 rfl rfl 9 (by decide) (hts (.fieldLink RX5 37 "ProofHouse$Reader" "flaw" "I") (List.mem_of_getElem? (i := 13) rfl)) (fun _ h9 => h9) rfl (tyX5_ok 9 (by decide)) rfl rfl (Nat.le_of_ble_eq_true rfl) dX5_init_59 ?_
  clear hP hD hS
  intro H locs hP hD hS
  have hP : va_P D vwCl ([(h0, .inr (5, [.null, .ref q1, .ref q2, .ref q3, .ref q4, .int (0), .int (0), .int (0), .int (0), .int (0), .int 0])), (q1, .inl (ca 0, 41, .inl (fun _ => 0))), (q2, .inl (ca 0, 41, .inl (fun _ => 0))), (q3, .inl (ca 0, 41, .inl (fun _ => 0))), (q4, .inl (ca 0, 1000, .inl (fun _ => 0)))] ++ ([])) H := hP
  have hD : va_D A ([(h0, .inr (5, [.null, .ref q1, .ref q2, .ref q3, .ref q4, .int (0), .int (0), .int (0), .int (0), .int (0), .int 0])), (q1, .inl (ca 0, 41, .inl (fun _ => 0))), (q2, .inl (ca 0, 41, .inl (fun _ => 0))), (q3, .inl (ca 0, 41, .inl (fun _ => 0))), (q4, .inl (ca 0, 1000, .inl (fun _ => 0)))] ++ ([])) := hD
  refine lv_aload_n hx hb dX5_init_62 rfl (lv_at hl 0 rfl) ?_
  refine lv_iconst hx hb dX5_init_63 (v := (-1)) rfl ?_
  refine va_put (D := D) (ci := 5) (v := .int ((-1))) (ty := .int) (C := RX5) (T := TX5) (N := 11) hx hb hts (fun w h => List.mem_cons_of_mem _ (List.mem_append_right _ h)) tyX5 tyX5_ok nmX5 hown hK hP hD hS 0 rfl rfl 10 (by decide) (hts (.fieldLink RX5 40 "ProofHouse$Reader" "place" "I") (List.mem_of_getElem? (i := 14) rfl)) (fun _ h9 => h9) rfl (tyX5_ok 10 (by decide)) rfl rfl (Nat.le_of_ble_eq_true rfl) dX5_init_64 ?_
  clear hP hD hS
  intro H locs hP hD hS
  have hP : va_P D vwCl ([(h0, .inr (5, [.null, .ref q1, .ref q2, .ref q3, .ref q4, .int (0), .int (0), .int (0), .int (0), .int (0), .int ((-1))])), (q1, .inl (ca 0, 41, .inl (fun _ => 0))), (q2, .inl (ca 0, 41, .inl (fun _ => 0))), (q3, .inl (ca 0, 41, .inl (fun _ => 0))), (q4, .inl (ca 0, 1000, .inl (fun _ => 0)))] ++ ([])) H := hP
  have hD : va_D A ([(h0, .inr (5, [.null, .ref q1, .ref q2, .ref q3, .ref q4, .int (0), .int (0), .int (0), .int (0), .int (0), .int ((-1))])), (q1, .inl (ca 0, 41, .inl (fun _ => 0))), (q2, .inl (ca 0, 41, .inl (fun _ => 0))), (q3, .inl (ca 0, 41, .inl (fun _ => 0))), (q4, .inl (ca 0, 1000, .inl (fun _ => 0)))] ++ ([])) := hD
  refine lv_aload_n hx hb dX5_init_67 rfl (lv_at hl 0 rfl) ?_
  refine lv_aload_n hx hb dX5_init_68 rfl (lv_at hl 1 rfl) ?_
  refine va_putF (D := D) (ci := 5) (v := .ref (r1)) (ty := .object "ProofHouse$Room") (C := RX5) (T := TX5) (N := 11) hx hb hts (fun w h => List.mem_cons_of_mem _ (List.mem_append_right _ h)) tyX5 tyX5_ok nmX5 hown hK hP hD hS 0 rfl rfl 0 (by decide) (hts (.fieldLink RX5 43 "ProofHouse$Reader" "room" "LProofHouse$Room;") (List.mem_of_getElem? (i := 15) rfl)) (fun _ h9 => h9) rfl hnm rfl (tyX5_ok 0 (by decide)) rfl rfl (Nat.le_of_ble_eq_true rfl) dX5_init_69 ?_
  clear hP hD hS
  intro H locs hP hD hS
  have hP : va_P D vwCl ([(h0, .inr (5, [.ref (r1), .ref q1, .ref q2, .ref q3, .ref q4, .int (0), .int (0), .int (0), .int (0), .int (0), .int ((-1))])), (q1, .inl (ca 0, 41, .inl (fun _ => 0))), (q2, .inl (ca 0, 41, .inl (fun _ => 0))), (q3, .inl (ca 0, 41, .inl (fun _ => 0))), (q4, .inl (ca 0, 1000, .inl (fun _ => 0)))] ++ ([])) H := hP
  have hD : va_D A ([(h0, .inr (5, [.ref (r1), .ref q1, .ref q2, .ref q3, .ref q4, .int (0), .int (0), .int (0), .int (0), .int (0), .int ((-1))])), (q1, .inl (ca 0, 41, .inl (fun _ => 0))), (q2, .inl (ca 0, 41, .inl (fun _ => 0))), (q3, .inl (ca 0, 41, .inl (fun _ => 0))), (q4, .inl (ca 0, 1000, .inl (fun _ => 0)))] ++ ([])) := hD
  exact W.vret hx hb hr (fun t ht hW => ⟨⟨((fun k => ([q1, q2, q3, q4] : List Nat).getD k 0), (fun k => ([] : List (Nat → Nat)).getD k (fun _ => 0)), ()), rfl, trivial, ⟨by rw [ht]; exact hP, va_K.moved hW.alike hK, hD⟩⟩, hS.F ht⟩) hS.2.2 dX5_init_72

def kW9_2000 (ca : Nat → ClassId) (h0 : Nat) (r1 : Nat) (u : kU) : va_W := ([(h0, .inr (9, [.ref (r1), .ref (u.1 0), .ref (u.1 1), .int (0)])), ((u.1 0), .inl (ca 2, 2000, .inl (fun _ => 0))), ((u.1 1), .inl (ca 0, 2000, .inl (fun _ => 0)))] ++ ([]))
set_option maxHeartbeats 4000000 in
set_option maxRecDepth 100000 in
/-- ProofHouse$Scribe() -/
theorem k_X9_init_2000 (l : Launch) (D : va_G) (ca : Nat → ClassId) (h0 sz : Nat) (r1 : Nat) : Met l yX9_init wsX9_init ({ frames := 1, cells := 2, slots := 4000, locals := 16 }) (va_Pc [.ref (h0), .ref (r1), .int (2000)] (fun U => U.heap.size = sz ∧ va_P D vwCl [(h0, .inr (9, [.null, .null, .null, .int 0]))] U.heap ∧ va_K D vwCl (yTy ca) U ∧ va_D (fun _ => True) [(h0, .inr (9, [.null, .null, .null, .int 0]))])) (va_Qv (fun _ : kU => True) (fun u t => va_P D vwCl (kW9_2000 ca h0 r1 u) t.heap ∧ va_K D vwCl (yTy ca) t ∧ va_D (va_A [(h0, .inr (9, [.null, .null, .null, .int 0]))] sz) (kW9_2000 ca h0 r1 u)) (va_A [(h0, .inr (9, [.null, .null, .null, .int 0]))] sz)) 2 4000 (va_A [(h0, .inr (9, [.null, .null, .null, .int 0]))] sz) := by
  refine Met.ofW (cc := cX9_init) (maxL := 3) (ret := none) (by decide) rfl ?_
  intro p e s m args below meth c s₁ B hml hv
  obtain ⟨rfl, hsz, hP, hK, hD0⟩ := hv
  have hx := B.exec
  have hb := B.bytes
  have hr := B.returns
  have hts := atoms_spec (ws := wsX9_init) B.pre
  have hown : s.vm.findClass RX9 = some m.cls := findClass_of_methodNamed B.named
  have hnm : meth.name = "<init>" := (name_of_methodNamed B.named B.method).1
  subst hsz
  have hD := hD0.self (sz := s.heap.size)
  generalize hAe : va_A ([(h0, .inr (9, [.null, .null, .null, .int 0]))]) s.heap.size = A at hD ⊢
  have hA : ∀ q : Nat, s.heap.size ≤ q → A q := fun q h => by rw [← hAe]; exact Or.inr h
  have hS : va_S A s.heap s.heap [] := va_S.rf
  have hl := lv_entry ([.ref (h0), .ref (r1), .int (2000)]) (n := 3) (Nat.le_of_ble_eq_true rfl)
  rw [lg_entry_eq]
  generalize (lg_sl ([.ref (h0), .ref (r1), .int (2000)]) ++ List.replicate (3 - (lg_sl ([.ref (h0), .ref (r1), .int (2000)])).length) Slot.unset).toArray = ls at hl ⊢
  have hl : lv_has ls 3 [(0, .ref (h0)), (1, .ref (r1)), (2, .int (2000))] := hl
  have hP : va_P D vwCl ([(h0, .inr (9, [.null, .null, .null, .int 0]))] ++ ([])) s.heap := hP
  have hD : va_D A ([(h0, .inr (9, [.null, .null, .null, .int 0]))] ++ ([])) := hD
  refine lv_aload_n hx hb dX9_init_0 rfl (lv_at hl 0 rfl) ?_
  refine W.objInit hx hb hown (hts (.methodLink RX9 3 objectInit) (List.mem_of_getElem? (i := 1) rfl)) (hts (.instanceMethod objectInit) (List.mem_of_getElem? (i := 2) rfl)) (hts (.code objectInit ⟨#[0xb1]⟩ 1 none) (List.mem_of_getElem? (i := 3) rfl)) rfl (by rw [hml]; exact hl.1) rfl dX9_init_1 (Nat.le_of_ble_eq_true rfl) (Nat.le_of_ble_eq_true rfl) ?_
  refine W.eq (g2 := F0 m 4 ls []) rfl ?_
  refine lv_aload_n hx hb dX9_init_4 rfl (lv_at hl 0 rfl) ?_
  refine lv_iconst hx hb dX9_init_5 (v := 0) rfl ?_
  refine va_put (D := D) (ci := 9) (v := .int (0)) (ty := .int) (C := RX9) (T := TX9) (N := 4) hx hb hts (fun w h => List.mem_cons_of_mem _ (List.mem_append_right _ h)) tyX9 tyX9_ok nmX9 hown hK hP hD hS 0 rfl rfl 3 (by decide) (hts (.fieldLink RX9 9 "ProofHouse$Scribe" "length" "I") (List.mem_of_getElem? (i := 4) rfl)) (fun _ h9 => h9) rfl (tyX9_ok 3 (by decide)) rfl rfl (Nat.le_of_ble_eq_true rfl) dX9_init_6 ?_
  clear hP hD hS
  intro H locs hP hD hS
  have hP : va_P D vwCl ([(h0, .inr (9, [.null, .null, .null, .int (0)]))] ++ ([])) H := hP
  have hD : va_D A ([(h0, .inr (9, [.null, .null, .null, .int (0)]))] ++ ([])) := hD
  refine lv_aload_n hx hb dX9_init_9 rfl (lv_at hl 0 rfl) ?_
  refine lv_aload_n hx hb dX9_init_10 rfl (lv_at hl 1 rfl) ?_
  refine va_putF (D := D) (ci := 9) (v := .ref (r1)) (ty := .object "ProofHouse$Room") (C := RX9) (T := TX9) (N := 4) hx hb hts (fun w h => List.mem_cons_of_mem _ (List.mem_append_right _ h)) tyX9 tyX9_ok nmX9 hown hK hP hD hS 0 rfl rfl 0 (by decide) (hts (.fieldLink RX9 15 "ProofHouse$Scribe" "room" "LProofHouse$Room;") (List.mem_of_getElem? (i := 5) rfl)) (fun _ h9 => h9) rfl hnm rfl (tyX9_ok 0 (by decide)) rfl rfl (Nat.le_of_ble_eq_true rfl) dX9_init_11 ?_
  clear hP hD hS
  intro H locs hP hD hS
  have hP : va_P D vwCl ([(h0, .inr (9, [.ref (r1), .null, .null, .int (0)]))] ++ ([])) H := hP
  have hD : va_D A ([(h0, .inr (9, [.ref (r1), .null, .null, .int (0)]))] ++ ([])) := hD
  refine lv_aload_n hx hb dX9_init_14 rfl (lv_at hl 0 rfl) ?_
  refine lv_iconst hx hb dX9_init_15 (v := 1) rfl ?_
  refine lv_iload_n hx hb dX9_init_16 rfl (lv_at hl 2 rfl) ?_
  refine va_mmax hx hb (by rw [hml]; exact hl.1.symm) hown (hts (.methodLink RX9 19 Lib.Math.max.name) (List.mem_of_getElem? (i := 6) rfl)) (hts (.static Lib.Math.max.name) (List.mem_of_getElem? (i := 7) rfl)) (hts (.initialized "java/lang/Math") (List.mem_of_getElem? (i := 8) rfl)) (hts (.code Lib.Math.max.name Lib.Math.max.code 2 (some .int)) (List.mem_of_getElem? (i := 9) rfl)) (Nat.le_of_ble_eq_true rfl) (Nat.le_of_ble_eq_true rfl) (Nat.le_of_ble_eq_true rfl) (Nat.le_of_ble_eq_true rfl) dX9_init_17 ?_
  refine kb_arr (C := RX9) (T := TX9) (N := 4) (ci := 9) (ty0 := tyX9) (atype := .char) (ty := .char) (a0 := (2000, .inl (fun _ => 0))) (nw := 2000) 2 hx hb hts (fun w h => List.mem_cons_of_mem _ (List.mem_append_right _ h)) tyX9_ok nmX9 hown hnm rfl hA hK hP hD hS (hts (.arrayClass .char) (List.mem_of_getElem? (i := 10) rfl)) rfl rfl (fun cA => ia_C cA _) (by decide) (by decide) (by decide) (Nat.le_of_ble_eq_true rfl) (Nat.le_of_ble_eq_true rfl) dX9_init_20 1 (by decide) (Nat.le_of_ble_eq_true rfl) (hts (.fieldLink RX9 25 "ProofHouse$Scribe" "letters" "[C") (List.mem_of_getElem? (i := 11) rfl)) rfl rfl (tyX9_ok 1 (by decide)) dX9_init_22 ?_
  clear hP hD hS
  intro q1 H locs hP hD hS
  have hP : va_P D vwCl ([(h0, .inr (9, [.ref (r1), .ref q1, .null, .int (0)])), (q1, .inl (ca 2, 2000, .inl (fun _ => 0)))] ++ ([])) H := hP
  have hD : va_D A ([(h0, .inr (9, [.ref (r1), .ref q1, .null, .int (0)])), (q1, .inl (ca 2, 2000, .inl (fun _ => 0)))] ++ ([])) := hD
  refine lv_aload_n hx hb dX9_init_25 rfl (lv_at hl 0 rfl) ?_
  refine lv_iconst hx hb dX9_init_26 (v := 1) rfl ?_
  refine lv_iload_n hx hb dX9_init_27 rfl (lv_at hl 2 rfl) ?_
  refine va_mmax hx hb (by rw [hml]; exact hl.1.symm) hown (hts (.methodLink RX9 19 Lib.Math.max.name) (List.mem_of_getElem? (i := 6) rfl)) (hts (.static Lib.Math.max.name) (List.mem_of_getElem? (i := 7) rfl)) (hts (.initialized "java/lang/Math") (List.mem_of_getElem? (i := 8) rfl)) (hts (.code Lib.Math.max.name Lib.Math.max.code 2 (some .int)) (List.mem_of_getElem? (i := 9) rfl)) (Nat.le_of_ble_eq_true rfl) (Nat.le_of_ble_eq_true rfl) (Nat.le_of_ble_eq_true rfl) (Nat.le_of_ble_eq_true rfl) dX9_init_28 ?_
  refine kb_arr (C := RX9) (T := TX9) (N := 4) (ci := 9) (ty0 := tyX9) (atype := .int) (ty := .int) (a0 := (2000, .inl (fun _ => 0))) (nw := 2000) 0 hx hb hts (fun w h => List.mem_cons_of_mem _ (List.mem_append_right _ h)) tyX9_ok nmX9 hown hnm rfl hA hK hP hD hS (hts (.arrayClass .int) (List.mem_of_getElem? (i := 12) rfl)) rfl rfl (fun cA => ia_I cA _) (by decide) (by decide) (by decide) (Nat.le_of_ble_eq_true rfl) (Nat.le_of_ble_eq_true rfl) dX9_init_31 2 (by decide) (Nat.le_of_ble_eq_true rfl) (hts (.fieldLink RX9 29 "ProofHouse$Scribe" "rests" "[I") (List.mem_of_getElem? (i := 13) rfl)) rfl rfl (tyX9_ok 2 (by decide)) dX9_init_33 ?_
  clear hP hD hS
  intro q2 H locs hP hD hS
  have hP : va_P D vwCl ([(h0, .inr (9, [.ref (r1), .ref q1, .ref q2, .int (0)])), (q1, .inl (ca 2, 2000, .inl (fun _ => 0))), (q2, .inl (ca 0, 2000, .inl (fun _ => 0)))] ++ ([])) H := hP
  have hD : va_D A ([(h0, .inr (9, [.ref (r1), .ref q1, .ref q2, .int (0)])), (q1, .inl (ca 2, 2000, .inl (fun _ => 0))), (q2, .inl (ca 0, 2000, .inl (fun _ => 0)))] ++ ([])) := hD
  exact W.vret hx hb hr (fun t ht hW => ⟨⟨((fun k => ([q1, q2] : List Nat).getD k 0), (fun k => ([] : List (Nat → Nat)).getD k (fun _ => 0)), ()), rfl, trivial, ⟨by rw [ht]; exact hP, va_K.moved hW.alike hK, hD⟩⟩, hS.F ht⟩) hS.2.2 dX9_init_36

def kW9_200 (ca : Nat → ClassId) (h0 : Nat) (r1 : Nat) (u : kU) : va_W := ([(h0, .inr (9, [.ref (r1), .ref (u.1 0), .ref (u.1 1), .int (0)])), ((u.1 0), .inl (ca 2, 200, .inl (fun _ => 0))), ((u.1 1), .inl (ca 0, 200, .inl (fun _ => 0)))] ++ ([]))
set_option maxHeartbeats 4000000 in
set_option maxRecDepth 100000 in
/-- ProofHouse$Scribe() -/
theorem k_X9_init_200 (l : Launch) (D : va_G) (ca : Nat → ClassId) (h0 sz : Nat) (r1 : Nat) : Met l yX9_init wsX9_init ({ frames := 1, cells := 2, slots := 400, locals := 16 }) (va_Pc [.ref (h0), .ref (r1), .int (200)] (fun U => U.heap.size = sz ∧ va_P D vwCl [(h0, .inr (9, [.null, .null, .null, .int 0]))] U.heap ∧ va_K D vwCl (yTy ca) U ∧ va_D (fun _ => True) [(h0, .inr (9, [.null, .null, .null, .int 0]))])) (va_Qv (fun _ : kU => True) (fun u t => va_P D vwCl (kW9_200 ca h0 r1 u) t.heap ∧ va_K D vwCl (yTy ca) t ∧ va_D (va_A [(h0, .inr (9, [.null, .null, .null, .int 0]))] sz) (kW9_200 ca h0 r1 u)) (va_A [(h0, .inr (9, [.null, .null, .null, .int 0]))] sz)) 2 400 (va_A [(h0, .inr (9, [.null, .null, .null, .int 0]))] sz) := by
  refine Met.ofW (cc := cX9_init) (maxL := 3) (ret := none) (by decide) rfl ?_
  intro p e s m args below meth c s₁ B hml hv
  obtain ⟨rfl, hsz, hP, hK, hD0⟩ := hv
  have hx := B.exec
  have hb := B.bytes
  have hr := B.returns
  have hts := atoms_spec (ws := wsX9_init) B.pre
  have hown : s.vm.findClass RX9 = some m.cls := findClass_of_methodNamed B.named
  have hnm : meth.name = "<init>" := (name_of_methodNamed B.named B.method).1
  subst hsz
  have hD := hD0.self (sz := s.heap.size)
  generalize hAe : va_A ([(h0, .inr (9, [.null, .null, .null, .int 0]))]) s.heap.size = A at hD ⊢
  have hA : ∀ q : Nat, s.heap.size ≤ q → A q := fun q h => by rw [← hAe]; exact Or.inr h
  have hS : va_S A s.heap s.heap [] := va_S.rf
  have hl := lv_entry ([.ref (h0), .ref (r1), .int (200)]) (n := 3) (Nat.le_of_ble_eq_true rfl)
  rw [lg_entry_eq]
  generalize (lg_sl ([.ref (h0), .ref (r1), .int (200)]) ++ List.replicate (3 - (lg_sl ([.ref (h0), .ref (r1), .int (200)])).length) Slot.unset).toArray = ls at hl ⊢
  have hl : lv_has ls 3 [(0, .ref (h0)), (1, .ref (r1)), (2, .int (200))] := hl
  have hP : va_P D vwCl ([(h0, .inr (9, [.null, .null, .null, .int 0]))] ++ ([])) s.heap := hP
  have hD : va_D A ([(h0, .inr (9, [.null, .null, .null, .int 0]))] ++ ([])) := hD
  refine lv_aload_n hx hb dX9_init_0 rfl (lv_at hl 0 rfl) ?_
  refine W.objInit hx hb hown (hts (.methodLink RX9 3 objectInit) (List.mem_of_getElem? (i := 1) rfl)) (hts (.instanceMethod objectInit) (List.mem_of_getElem? (i := 2) rfl)) (hts (.code objectInit ⟨#[0xb1]⟩ 1 none) (List.mem_of_getElem? (i := 3) rfl)) rfl (by rw [hml]; exact hl.1) rfl dX9_init_1 (Nat.le_of_ble_eq_true rfl) (Nat.le_of_ble_eq_true rfl) ?_
  refine W.eq (g2 := F0 m 4 ls []) rfl ?_
  refine lv_aload_n hx hb dX9_init_4 rfl (lv_at hl 0 rfl) ?_
  refine lv_iconst hx hb dX9_init_5 (v := 0) rfl ?_
  refine va_put (D := D) (ci := 9) (v := .int (0)) (ty := .int) (C := RX9) (T := TX9) (N := 4) hx hb hts (fun w h => List.mem_cons_of_mem _ (List.mem_append_right _ h)) tyX9 tyX9_ok nmX9 hown hK hP hD hS 0 rfl rfl 3 (by decide) (hts (.fieldLink RX9 9 "ProofHouse$Scribe" "length" "I") (List.mem_of_getElem? (i := 4) rfl)) (fun _ h9 => h9) rfl (tyX9_ok 3 (by decide)) rfl rfl (Nat.le_of_ble_eq_true rfl) dX9_init_6 ?_
  clear hP hD hS
  intro H locs hP hD hS
  have hP : va_P D vwCl ([(h0, .inr (9, [.null, .null, .null, .int (0)]))] ++ ([])) H := hP
  have hD : va_D A ([(h0, .inr (9, [.null, .null, .null, .int (0)]))] ++ ([])) := hD
  refine lv_aload_n hx hb dX9_init_9 rfl (lv_at hl 0 rfl) ?_
  refine lv_aload_n hx hb dX9_init_10 rfl (lv_at hl 1 rfl) ?_
  refine va_putF (D := D) (ci := 9) (v := .ref (r1)) (ty := .object "ProofHouse$Room") (C := RX9) (T := TX9) (N := 4) hx hb hts (fun w h => List.mem_cons_of_mem _ (List.mem_append_right _ h)) tyX9 tyX9_ok nmX9 hown hK hP hD hS 0 rfl rfl 0 (by decide) (hts (.fieldLink RX9 15 "ProofHouse$Scribe" "room" "LProofHouse$Room;") (List.mem_of_getElem? (i := 5) rfl)) (fun _ h9 => h9) rfl hnm rfl (tyX9_ok 0 (by decide)) rfl rfl (Nat.le_of_ble_eq_true rfl) dX9_init_11 ?_
  clear hP hD hS
  intro H locs hP hD hS
  have hP : va_P D vwCl ([(h0, .inr (9, [.ref (r1), .null, .null, .int (0)]))] ++ ([])) H := hP
  have hD : va_D A ([(h0, .inr (9, [.ref (r1), .null, .null, .int (0)]))] ++ ([])) := hD
  refine lv_aload_n hx hb dX9_init_14 rfl (lv_at hl 0 rfl) ?_
  refine lv_iconst hx hb dX9_init_15 (v := 1) rfl ?_
  refine lv_iload_n hx hb dX9_init_16 rfl (lv_at hl 2 rfl) ?_
  refine va_mmax hx hb (by rw [hml]; exact hl.1.symm) hown (hts (.methodLink RX9 19 Lib.Math.max.name) (List.mem_of_getElem? (i := 6) rfl)) (hts (.static Lib.Math.max.name) (List.mem_of_getElem? (i := 7) rfl)) (hts (.initialized "java/lang/Math") (List.mem_of_getElem? (i := 8) rfl)) (hts (.code Lib.Math.max.name Lib.Math.max.code 2 (some .int)) (List.mem_of_getElem? (i := 9) rfl)) (Nat.le_of_ble_eq_true rfl) (Nat.le_of_ble_eq_true rfl) (Nat.le_of_ble_eq_true rfl) (Nat.le_of_ble_eq_true rfl) dX9_init_17 ?_
  refine kb_arr (C := RX9) (T := TX9) (N := 4) (ci := 9) (ty0 := tyX9) (atype := .char) (ty := .char) (a0 := (200, .inl (fun _ => 0))) (nw := 200) 2 hx hb hts (fun w h => List.mem_cons_of_mem _ (List.mem_append_right _ h)) tyX9_ok nmX9 hown hnm rfl hA hK hP hD hS (hts (.arrayClass .char) (List.mem_of_getElem? (i := 10) rfl)) rfl rfl (fun cA => ia_C cA _) (by decide) (by decide) (by decide) (Nat.le_of_ble_eq_true rfl) (Nat.le_of_ble_eq_true rfl) dX9_init_20 1 (by decide) (Nat.le_of_ble_eq_true rfl) (hts (.fieldLink RX9 25 "ProofHouse$Scribe" "letters" "[C") (List.mem_of_getElem? (i := 11) rfl)) rfl rfl (tyX9_ok 1 (by decide)) dX9_init_22 ?_
  clear hP hD hS
  intro q1 H locs hP hD hS
  have hP : va_P D vwCl ([(h0, .inr (9, [.ref (r1), .ref q1, .null, .int (0)])), (q1, .inl (ca 2, 200, .inl (fun _ => 0)))] ++ ([])) H := hP
  have hD : va_D A ([(h0, .inr (9, [.ref (r1), .ref q1, .null, .int (0)])), (q1, .inl (ca 2, 200, .inl (fun _ => 0)))] ++ ([])) := hD
  refine lv_aload_n hx hb dX9_init_25 rfl (lv_at hl 0 rfl) ?_
  refine lv_iconst hx hb dX9_init_26 (v := 1) rfl ?_
  refine lv_iload_n hx hb dX9_init_27 rfl (lv_at hl 2 rfl) ?_
  refine va_mmax hx hb (by rw [hml]; exact hl.1.symm) hown (hts (.methodLink RX9 19 Lib.Math.max.name) (List.mem_of_getElem? (i := 6) rfl)) (hts (.static Lib.Math.max.name) (List.mem_of_getElem? (i := 7) rfl)) (hts (.initialized "java/lang/Math") (List.mem_of_getElem? (i := 8) rfl)) (hts (.code Lib.Math.max.name Lib.Math.max.code 2 (some .int)) (List.mem_of_getElem? (i := 9) rfl)) (Nat.le_of_ble_eq_true rfl) (Nat.le_of_ble_eq_true rfl) (Nat.le_of_ble_eq_true rfl) (Nat.le_of_ble_eq_true rfl) dX9_init_28 ?_
  refine kb_arr (C := RX9) (T := TX9) (N := 4) (ci := 9) (ty0 := tyX9) (atype := .int) (ty := .int) (a0 := (200, .inl (fun _ => 0))) (nw := 200) 0 hx hb hts (fun w h => List.mem_cons_of_mem _ (List.mem_append_right _ h)) tyX9_ok nmX9 hown hnm rfl hA hK hP hD hS (hts (.arrayClass .int) (List.mem_of_getElem? (i := 12) rfl)) rfl rfl (fun cA => ia_I cA _) (by decide) (by decide) (by decide) (Nat.le_of_ble_eq_true rfl) (Nat.le_of_ble_eq_true rfl) dX9_init_31 2 (by decide) (Nat.le_of_ble_eq_true rfl) (hts (.fieldLink RX9 29 "ProofHouse$Scribe" "rests" "[I") (List.mem_of_getElem? (i := 13) rfl)) rfl rfl (tyX9_ok 2 (by decide)) dX9_init_33 ?_
  clear hP hD hS
  intro q2 H locs hP hD hS
  have hP : va_P D vwCl ([(h0, .inr (9, [.ref (r1), .ref q1, .ref q2, .int (0)])), (q1, .inl (ca 2, 200, .inl (fun _ => 0))), (q2, .inl (ca 0, 200, .inl (fun _ => 0)))] ++ ([])) H := hP
  have hD : va_D A ([(h0, .inr (9, [.ref (r1), .ref q1, .ref q2, .int (0)])), (q1, .inl (ca 2, 200, .inl (fun _ => 0))), (q2, .inl (ca 0, 200, .inl (fun _ => 0)))] ++ ([])) := hD
  exact W.vret hx hb hr (fun t ht hW => ⟨⟨((fun k => ([q1, q2] : List Nat).getD k 0), (fun k => ([] : List (Nat → Nat)).getD k (fun _ => 0)), ()), rfl, trivial, ⟨by rw [ht]; exact hP, va_K.moved hW.alike hK, hD⟩⟩, hS.F ht⟩) hS.2.2 dX9_init_36

def kW10 (ca : Nat → ClassId) (h0 : Nat) (r1 : Nat) (r2 : Nat) (u : kU) : va_W := ([(h0, .inr (10, [.ref (r1), .ref (r2), .int ((-1)), .int ((-1)), .ref (u.1 0), .ref (u.1 1), .int (0), .int ((-1)), .int ((-1)), .ref (u.1 2), .ref (u.1 3), .ref (u.1 4), .ref (u.1 5), .ref (u.1 6), .ref (u.1 7), .ref (u.1 8)])), ((u.1 0), .inl (ca 0, 256, .inl (fun _ => 0))), ((u.1 1), .inl (ca 0, 256, .inl (fun _ => 0))), ((u.1 2), .inl (ca 0, 128, .inl (fun _ => 0))), ((u.1 3), .inl (ca 0, 128, .inl (fun _ => 0))), ((u.1 4), .inl (ca 0, 128, .inl (fun _ => 0))), ((u.1 5), .inl (ca 0, 768, .inl (fun _ => 0))), ((u.1 6), .inl (ca 0, 128, .inl (fun _ => 0))), ((u.1 7), .inl (ca 0, 128, .inl (fun _ => 0))), ((u.1 8), .inl (ca 0, 128, .inl (fun _ => 0)))] ++ ([]))
set_option maxHeartbeats 4000000 in
set_option maxRecDepth 100000 in
/-- ProofHouse$Terms() -/
theorem k_X10_init (l : Launch) (D : va_G) (ca : Nat → ClassId) (h0 sz : Nat) (r1 : Nat) (r2 : Nat) : Met l yX10_init wsX10_init ({ frames := 1, cells := 9, slots := 2048, locals := 12 }) (va_Pc [.ref (h0), .ref (r1), .ref (r2)] (fun U => U.heap.size = sz ∧ va_P D vwCl [(h0, .inr (10, [.null, .null, .int 0, .int 0, .null, .null, .int 0, .int 0, .int 0, .null, .null, .null, .null, .null, .null, .null]))] U.heap ∧ va_K D vwCl (yTy ca) U ∧ va_D (fun _ => True) [(h0, .inr (10, [.null, .null, .int 0, .int 0, .null, .null, .int 0, .int 0, .int 0, .null, .null, .null, .null, .null, .null, .null]))])) (va_Qv (fun _ : kU => True) (fun u t => va_P D vwCl (kW10 ca h0 r1 r2 u) t.heap ∧ va_K D vwCl (yTy ca) t ∧ va_D (va_A [(h0, .inr (10, [.null, .null, .int 0, .int 0, .null, .null, .int 0, .int 0, .int 0, .null, .null, .null, .null, .null, .null, .null]))] sz) (kW10 ca h0 r1 r2 u)) (va_A [(h0, .inr (10, [.null, .null, .int 0, .int 0, .null, .null, .int 0, .int 0, .int 0, .null, .null, .null, .null, .null, .null, .null]))] sz)) 9 2048 (va_A [(h0, .inr (10, [.null, .null, .int 0, .int 0, .null, .null, .int 0, .int 0, .int 0, .null, .null, .null, .null, .null, .null, .null]))] sz) := by
  refine Met.ofW (cc := cX10_init) (maxL := 3) (ret := none) (by decide) rfl ?_
  intro p e s m args below meth c s₁ B hml hv
  obtain ⟨rfl, hsz, hP, hK, hD0⟩ := hv
  have hx := B.exec
  have hb := B.bytes
  have hr := B.returns
  have hts := atoms_spec (ws := wsX10_init) B.pre
  have hown : s.vm.findClass RX10 = some m.cls := findClass_of_methodNamed B.named
  have hnm : meth.name = "<init>" := (name_of_methodNamed B.named B.method).1
  subst hsz
  have hD := hD0.self (sz := s.heap.size)
  generalize hAe : va_A ([(h0, .inr (10, [.null, .null, .int 0, .int 0, .null, .null, .int 0, .int 0, .int 0, .null, .null, .null, .null, .null, .null, .null]))]) s.heap.size = A at hD ⊢
  have hA : ∀ q : Nat, s.heap.size ≤ q → A q := fun q h => by rw [← hAe]; exact Or.inr h
  have hS : va_S A s.heap s.heap [] := va_S.rf
  have hl := lv_entry ([.ref (h0), .ref (r1), .ref (r2)]) (n := 3) (Nat.le_of_ble_eq_true rfl)
  rw [lg_entry_eq]
  generalize (lg_sl ([.ref (h0), .ref (r1), .ref (r2)]) ++ List.replicate (3 - (lg_sl ([.ref (h0), .ref (r1), .ref (r2)])).length) Slot.unset).toArray = ls at hl ⊢
  have hl : lv_has ls 3 [(0, .ref (h0)), (1, .ref (r1)), (2, .ref (r2))] := hl
  have hP : va_P D vwCl ([(h0, .inr (10, [.null, .null, .int 0, .int 0, .null, .null, .int 0, .int 0, .int 0, .null, .null, .null, .null, .null, .null, .null]))] ++ ([])) s.heap := hP
  have hD : va_D A ([(h0, .inr (10, [.null, .null, .int 0, .int 0, .null, .null, .int 0, .int 0, .int 0, .null, .null, .null, .null, .null, .null, .null]))] ++ ([])) := hD
  refine lv_aload_n hx hb dX10_init_0 rfl (lv_at hl 0 rfl) ?_
  refine W.objInit hx hb hown (hts (.methodLink RX10 3 objectInit) (List.mem_of_getElem? (i := 1) rfl)) (hts (.instanceMethod objectInit) (List.mem_of_getElem? (i := 2) rfl)) (hts (.code objectInit ⟨#[0xb1]⟩ 1 none) (List.mem_of_getElem? (i := 3) rfl)) rfl (by rw [hml]; exact hl.1) rfl dX10_init_1 (Nat.le_of_ble_eq_true rfl) (Nat.le_of_ble_eq_true rfl) ?_
  refine W.eq (g2 := F0 m 4 ls []) rfl ?_
  refine lv_aload_n hx hb dX10_init_4 rfl (lv_at hl 0 rfl) ?_
  refine lv_iconst hx hb dX10_init_5 (v := (-1)) rfl ?_
  refine va_put (D := D) (ci := 10) (v := .int ((-1))) (ty := .int) (C := RX10) (T := TX10) (N := 16) hx hb hts (fun w h => List.mem_cons_of_mem _ (List.mem_append_right _ h)) tyX10 tyX10_ok nmX10 hown hK hP hD hS 0 rfl rfl 2 (by decide) (hts (.fieldLink RX10 9 "ProofHouse$Terms" "ownName" "I") (List.mem_of_getElem? (i := 4) rfl)) (fun _ h9 => h9) rfl (tyX10_ok 2 (by decide)) rfl rfl (Nat.le_of_ble_eq_true rfl) dX10_init_6 ?_
  clear hP hD hS
  intro H locs hP hD hS
  have hP : va_P D vwCl ([(h0, .inr (10, [.null, .null, .int ((-1)), .int 0, .null, .null, .int 0, .int 0, .int 0, .null, .null, .null, .null, .null, .null, .null]))] ++ ([])) H := hP
  have hD : va_D A ([(h0, .inr (10, [.null, .null, .int ((-1)), .int 0, .null, .null, .int 0, .int 0, .int 0, .null, .null, .null, .null, .null, .null, .null]))] ++ ([])) := hD
  refine lv_aload_n hx hb dX10_init_9 rfl (lv_at hl 0 rfl) ?_
  refine lv_iconst hx hb dX10_init_10 (v := (-1)) rfl ?_
  refine va_put (D := D) (ci := 10) (v := .int ((-1))) (ty := .int) (C := RX10) (T := TX10) (N := 16) hx hb hts (fun w h => List.mem_cons_of_mem _ (List.mem_append_right _ h)) tyX10 tyX10_ok nmX10 hown hK hP hD hS 0 rfl rfl 3 (by decide) (hts (.fieldLink RX10 15 "ProofHouse$Terms" "ownArity" "I") (List.mem_of_getElem? (i := 5) rfl)) (fun _ h9 => h9) rfl (tyX10_ok 3 (by decide)) rfl rfl (Nat.le_of_ble_eq_true rfl) dX10_init_11 ?_
  clear hP hD hS
  intro H locs hP hD hS
  have hP : va_P D vwCl ([(h0, .inr (10, [.null, .null, .int ((-1)), .int ((-1)), .null, .null, .int 0, .int 0, .int 0, .null, .null, .null, .null, .null, .null, .null]))] ++ ([])) H := hP
  have hD : va_D A ([(h0, .inr (10, [.null, .null, .int ((-1)), .int ((-1)), .null, .null, .int 0, .int 0, .int 0, .null, .null, .null, .null, .null, .null, .null]))] ++ ([])) := hD
  refine lv_aload_n hx hb dX10_init_14 rfl (lv_at hl 0 rfl) ?_
  refine lv_sipush hx hb dX10_init_15 (v := 256) rfl ?_
  refine kb_arr (C := RX10) (T := TX10) (N := 16) (ci := 10) (ty0 := tyX10) (atype := .int) (ty := .int) (a0 := (256, .inl (fun _ => 0))) (nw := 256) 0 hx hb hts (fun w h => List.mem_cons_of_mem _ (List.mem_append_right _ h)) tyX10_ok nmX10 hown hnm rfl hA hK hP hD hS (hts (.arrayClass .int) (List.mem_of_getElem? (i := 6) rfl)) rfl rfl (fun cA => ia_I cA _) (by decide) (by decide) (by decide) (Nat.le_of_ble_eq_true rfl) (Nat.le_of_ble_eq_true rfl) dX10_init_18 4 (by decide) (Nat.le_of_ble_eq_true rfl) (hts (.fieldLink RX10 18 "ProofHouse$Terms" "variables" "[I") (List.mem_of_getElem? (i := 7) rfl)) rfl rfl (tyX10_ok 4 (by decide)) dX10_init_20 ?_
  clear hP hD hS
  intro q1 H locs hP hD hS
  have hP : va_P D vwCl ([(h0, .inr (10, [.null, .null, .int ((-1)), .int ((-1)), .ref q1, .null, .int 0, .int 0, .int 0, .null, .null, .null, .null, .null, .null, .null])), (q1, .inl (ca 0, 256, .inl (fun _ => 0)))] ++ ([])) H := hP
  have hD : va_D A ([(h0, .inr (10, [.null, .null, .int ((-1)), .int ((-1)), .ref q1, .null, .int 0, .int 0, .int 0, .null, .null, .null, .null, .null, .null, .null])), (q1, .inl (ca 0, 256, .inl (fun _ => 0)))] ++ ([])) := hD
  refine lv_aload_n hx hb dX10_init_23 rfl (lv_at hl 0 rfl) ?_
  refine lv_sipush hx hb dX10_init_24 (v := 256) rfl ?_
  refine kb_arr (C := RX10) (T := TX10) (N := 16) (ci := 10) (ty0 := tyX10) (atype := .int) (ty := .int) (a0 := (256, .inl (fun _ => 0))) (nw := 256) 0 hx hb hts (fun w h => List.mem_cons_of_mem _ (List.mem_append_right _ h)) tyX10_ok nmX10 hown hnm rfl hA hK hP hD hS (hts (.arrayClass .int) (List.mem_of_getElem? (i := 6) rfl)) rfl rfl (fun cA => ia_I cA _) (by decide) (by decide) (by decide) (Nat.le_of_ble_eq_true rfl) (Nat.le_of_ble_eq_true rfl) dX10_init_27 5 (by decide) (Nat.le_of_ble_eq_true rfl) (hts (.fieldLink RX10 22 "ProofHouse$Terms" "meanings" "[I") (List.mem_of_getElem? (i := 8) rfl)) rfl rfl (tyX10_ok 5 (by decide)) dX10_init_29 ?_
  clear hP hD hS
  intro q2 H locs hP hD hS
  have hP : va_P D vwCl ([(h0, .inr (10, [.null, .null, .int ((-1)), .int ((-1)), .ref q1, .ref q2, .int 0, .int 0, .int 0, .null, .null, .null, .null, .null, .null, .null])), (q1, .inl (ca 0, 256, .inl (fun _ => 0))), (q2, .inl (ca 0, 256, .inl (fun _ => 0)))] ++ ([])) H := hP
  have hD : va_D A ([(h0, .inr (10, [.null, .null, .int ((-1)), .int ((-1)), .ref q1, .ref q2, .int 0, .int 0, .int 0, .null, .null, .null, .null, .null, .null, .null])), (q1, .inl (ca 0, 256, .inl (fun _ => 0))), (q2, .inl (ca 0, 256, .inl (fun _ => 0)))] ++ ([])) := hD
  refine lv_aload_n hx hb dX10_init_32 rfl (lv_at hl 0 rfl) ?_
  refine lv_iconst hx hb dX10_init_33 (v := 0) rfl ?_
  refine va_put (D := D) (ci := 10) (v := .int (0)) (ty := .int) (C := RX10) (T := TX10) (N := 16) hx hb hts (fun w h => List.mem_cons_of_mem _ (List.mem_append_right _ h)) tyX10 tyX10_ok nmX10 hown hK hP hD hS 0 rfl rfl 6 (by decide) (hts (.fieldLink RX10 25 "ProofHouse$Terms" "bound" "I") (List.mem_of_getElem? (i := 9) rfl)) (fun _ h9 => h9) rfl (tyX10_ok 6 (by decide)) rfl rfl (Nat.le_of_ble_eq_true rfl) dX10_init_34 ?_
  clear hP hD hS
  intro H locs hP hD hS
  have hP : va_P D vwCl ([(h0, .inr (10, [.null, .null, .int ((-1)), .int ((-1)), .ref q1, .ref q2, .int (0), .int 0, .int 0, .null, .null, .null, .null, .null, .null, .null])), (q1, .inl (ca 0, 256, .inl (fun _ => 0))), (q2, .inl (ca 0, 256, .inl (fun _ => 0)))] ++ ([])) H := hP
  have hD : va_D A ([(h0, .inr (10, [.null, .null, .int ((-1)), .int ((-1)), .ref q1, .ref q2, .int (0), .int 0, .int 0, .null, .null, .null, .null, .null, .null, .null])), (q1, .inl (ca 0, 256, .inl (fun _ => 0))), (q2, .inl (ca 0, 256, .inl (fun _ => 0)))] ++ ([])) := hD
  refine lv_aload_n hx hb dX10_init_37 rfl (lv_at hl 0 rfl) ?_
  refine lv_iconst hx hb dX10_init_38 (v := (-1)) rfl ?_
  refine va_put (D := D) (ci := 10) (v := .int ((-1))) (ty := .int) (C := RX10) (T := TX10) (N := 16) hx hb hts (fun w h => List.mem_cons_of_mem _ (List.mem_append_right _ h)) tyX10 tyX10_ok nmX10 hown hK hP hD hS 0 rfl rfl 7 (by decide) (hts (.fieldLink RX10 28 "ProofHouse$Terms" "replaced" "I") (List.mem_of_getElem? (i := 10) rfl)) (fun _ h9 => h9) rfl (tyX10_ok 7 (by decide)) rfl rfl (Nat.le_of_ble_eq_true rfl) dX10_init_39 ?_
  clear hP hD hS
  intro H locs hP hD hS
  have hP : va_P D vwCl ([(h0, .inr (10, [.null, .null, .int ((-1)), .int ((-1)), .ref q1, .ref q2, .int (0), .int ((-1)), .int 0, .null, .null, .null, .null, .null, .null, .null])), (q1, .inl (ca 0, 256, .inl (fun _ => 0))), (q2, .inl (ca 0, 256, .inl (fun _ => 0)))] ++ ([])) H := hP
  have hD : va_D A ([(h0, .inr (10, [.null, .null, .int ((-1)), .int ((-1)), .ref q1, .ref q2, .int (0), .int ((-1)), .int 0, .null, .null, .null, .null, .null, .null, .null])), (q1, .inl (ca 0, 256, .inl (fun _ => 0))), (q2, .inl (ca 0, 256, .inl (fun _ => 0)))] ++ ([])) := hD
  refine lv_aload_n hx hb dX10_init_42 rfl (lv_at hl 0 rfl) ?_
  refine lv_iconst hx hb dX10_init_43 (v := (-1)) rfl ?_
  refine va_put (D := D) (ci := 10) (v := .int ((-1))) (ty := .int) (C := RX10) (T := TX10) (N := 16) hx hb hts (fun w h => List.mem_cons_of_mem _ (List.mem_append_right _ h)) tyX10 tyX10_ok nmX10 hown hK hP hD hS 0 rfl rfl 8 (by decide) (hts (.fieldLink RX10 31 "ProofHouse$Terms" "replacement" "I") (List.mem_of_getElem? (i := 11) rfl)) (fun _ h9 => h9) rfl (tyX10_ok 8 (by decide)) rfl rfl (Nat.le_of_ble_eq_true rfl) dX10_init_44 ?_
  clear hP hD hS
  intro H locs hP hD hS
  have hP : va_P D vwCl ([(h0, .inr (10, [.null, .null, .int ((-1)), .int ((-1)), .ref q1, .ref q2, .int (0), .int ((-1)), .int ((-1)), .null, .null, .null, .null, .null, .null, .null])), (q1, .inl (ca 0, 256, .inl (fun _ => 0))), (q2, .inl (ca 0, 256, .inl (fun _ => 0)))] ++ ([])) H := hP
  have hD : va_D A ([(h0, .inr (10, [.null, .null, .int ((-1)), .int ((-1)), .ref q1, .ref q2, .int (0), .int ((-1)), .int ((-1)), .null, .null, .null, .null, .null, .null, .null])), (q1, .inl (ca 0, 256, .inl (fun _ => 0))), (q2, .inl (ca 0, 256, .inl (fun _ => 0)))] ++ ([])) := hD
  refine lv_aload_n hx hb dX10_init_47 rfl (lv_at hl 0 rfl) ?_
  refine lv_sipush hx hb dX10_init_48 (v := 128) rfl ?_
  refine kb_arr (C := RX10) (T := TX10) (N := 16) (ci := 10) (ty0 := tyX10) (atype := .int) (ty := .int) (a0 := (128, .inl (fun _ => 0))) (nw := 128) 0 hx hb hts (fun w h => List.mem_cons_of_mem _ (List.mem_append_right _ h)) tyX10_ok nmX10 hown hnm rfl hA hK hP hD hS (hts (.arrayClass .int) (List.mem_of_getElem? (i := 6) rfl)) rfl rfl (fun cA => ia_I cA _) (by decide) (by decide) (by decide) (Nat.le_of_ble_eq_true rfl) (Nat.le_of_ble_eq_true rfl) dX10_init_51 9 (by decide) (Nat.le_of_ble_eq_true rfl) (hts (.fieldLink RX10 34 "ProofHouse$Terms" "names" "[I") (List.mem_of_getElem? (i := 12) rfl)) rfl rfl (tyX10_ok 9 (by decide)) dX10_init_53 ?_
  clear hP hD hS
  intro q3 H locs hP hD hS
  have hP : va_P D vwCl ([(h0, .inr (10, [.null, .null, .int ((-1)), .int ((-1)), .ref q1, .ref q2, .int (0), .int ((-1)), .int ((-1)), .ref q3, .null, .null, .null, .null, .null, .null])), (q1, .inl (ca 0, 256, .inl (fun _ => 0))), (q2, .inl (ca 0, 256, .inl (fun _ => 0))), (q3, .inl (ca 0, 128, .inl (fun _ => 0)))] ++ ([])) H := hP
  have hD : va_D A ([(h0, .inr (10, [.null, .null, .int ((-1)), .int ((-1)), .ref q1, .ref q2, .int (0), .int ((-1)), .int ((-1)), .ref q3, .null, .null, .null, .null, .null, .null])), (q1, .inl (ca 0, 256, .inl (fun _ => 0))), (q2, .inl (ca 0, 256, .inl (fun _ => 0))), (q3, .inl (ca 0, 128, .inl (fun _ => 0)))] ++ ([])) := hD
  refine lv_aload_n hx hb dX10_init_56 rfl (lv_at hl 0 rfl) ?_
  refine lv_sipush hx hb dX10_init_57 (v := 128) rfl ?_
  refine kb_arr (C := RX10) (T := TX10) (N := 16) (ci := 10) (ty0 := tyX10) (atype := .int) (ty := .int) (a0 := (128, .inl (fun _ => 0))) (nw := 128) 0 hx hb hts (fun w h => List.mem_cons_of_mem _ (List.mem_append_right _ h)) tyX10_ok nmX10 hown hnm rfl hA hK hP hD hS (hts (.arrayClass .int) (List.mem_of_getElem? (i := 6) rfl)) rfl rfl (fun cA => ia_I cA _) (by decide) (by decide) (by decide) (Nat.le_of_ble_eq_true rfl) (Nat.le_of_ble_eq_true rfl) dX10_init_60 10 (by decide) (Nat.le_of_ble_eq_true rfl) (hts (.fieldLink RX10 37 "ProofHouse$Terms" "rests" "[I") (List.mem_of_getElem? (i := 13) rfl)) rfl rfl (tyX10_ok 10 (by decide)) dX10_init_62 ?_
  clear hP hD hS
  intro q4 H locs hP hD hS
  have hP : va_P D vwCl ([(h0, .inr (10, [.null, .null, .int ((-1)), .int ((-1)), .ref q1, .ref q2, .int (0), .int ((-1)), .int ((-1)), .ref q3, .ref q4, .null, .null, .null, .null, .null])), (q1, .inl (ca 0, 256, .inl (fun _ => 0))), (q2, .inl (ca 0, 256, .inl (fun _ => 0))), (q3, .inl (ca 0, 128, .inl (fun _ => 0))), (q4, .inl (ca 0, 128, .inl (fun _ => 0)))] ++ ([])) H := hP
  have hD : va_D A ([(h0, .inr (10, [.null, .null, .int ((-1)), .int ((-1)), .ref q1, .ref q2, .int (0), .int ((-1)), .int ((-1)), .ref q3, .ref q4, .null, .null, .null, .null, .null])), (q1, .inl (ca 0, 256, .inl (fun _ => 0))), (q2, .inl (ca 0, 256, .inl (fun _ => 0))), (q3, .inl (ca 0, 128, .inl (fun _ => 0))), (q4, .inl (ca 0, 128, .inl (fun _ => 0)))] ++ ([])) := hD
  refine lv_aload_n hx hb dX10_init_65 rfl (lv_at hl 0 rfl) ?_
  refine lv_sipush hx hb dX10_init_66 (v := 128) rfl ?_
  refine kb_arr (C := RX10) (T := TX10) (N := 16) (ci := 10) (ty0 := tyX10) (atype := .int) (ty := .int) (a0 := (128, .inl (fun _ => 0))) (nw := 128) 0 hx hb hts (fun w h => List.mem_cons_of_mem _ (List.mem_append_right _ h)) tyX10_ok nmX10 hown hnm rfl hA hK hP hD hS (hts (.arrayClass .int) (List.mem_of_getElem? (i := 6) rfl)) rfl rfl (fun cA => ia_I cA _) (by decide) (by decide) (by decide) (Nat.le_of_ble_eq_true rfl) (Nat.le_of_ble_eq_true rfl) dX10_init_69 11 (by decide) (Nat.le_of_ble_eq_true rfl) (hts (.fieldLink RX10 40 "ProofHouse$Terms" "bases" "[I") (List.mem_of_getElem? (i := 14) rfl)) rfl rfl (tyX10_ok 11 (by decide)) dX10_init_71 ?_
  clear hP hD hS
  intro q5 H locs hP hD hS
  have hP : va_P D vwCl ([(h0, .inr (10, [.null, .null, .int ((-1)), .int ((-1)), .ref q1, .ref q2, .int (0), .int ((-1)), .int ((-1)), .ref q3, .ref q4, .ref q5, .null, .null, .null, .null])), (q1, .inl (ca 0, 256, .inl (fun _ => 0))), (q2, .inl (ca 0, 256, .inl (fun _ => 0))), (q3, .inl (ca 0, 128, .inl (fun _ => 0))), (q4, .inl (ca 0, 128, .inl (fun _ => 0))), (q5, .inl (ca 0, 128, .inl (fun _ => 0)))] ++ ([])) H := hP
  have hD : va_D A ([(h0, .inr (10, [.null, .null, .int ((-1)), .int ((-1)), .ref q1, .ref q2, .int (0), .int ((-1)), .int ((-1)), .ref q3, .ref q4, .ref q5, .null, .null, .null, .null])), (q1, .inl (ca 0, 256, .inl (fun _ => 0))), (q2, .inl (ca 0, 256, .inl (fun _ => 0))), (q3, .inl (ca 0, 128, .inl (fun _ => 0))), (q4, .inl (ca 0, 128, .inl (fun _ => 0))), (q5, .inl (ca 0, 128, .inl (fun _ => 0)))] ++ ([])) := hD
  refine lv_aload_n hx hb dX10_init_74 rfl (lv_at hl 0 rfl) ?_
  refine lv_sipush hx hb dX10_init_75 (v := 768) rfl ?_
  refine kb_arr (C := RX10) (T := TX10) (N := 16) (ci := 10) (ty0 := tyX10) (atype := .int) (ty := .int) (a0 := (768, .inl (fun _ => 0))) (nw := 768) 0 hx hb hts (fun w h => List.mem_cons_of_mem _ (List.mem_append_right _ h)) tyX10_ok nmX10 hown hnm rfl hA hK hP hD hS (hts (.arrayClass .int) (List.mem_of_getElem? (i := 6) rfl)) rfl rfl (fun cA => ia_I cA _) (by decide) (by decide) (by decide) (Nat.le_of_ble_eq_true rfl) (Nat.le_of_ble_eq_true rfl) dX10_init_78 12 (by decide) (Nat.le_of_ble_eq_true rfl) (hts (.fieldLink RX10 43 "ProofHouse$Terms" "values" "[I") (List.mem_of_getElem? (i := 15) rfl)) rfl rfl (tyX10_ok 12 (by decide)) dX10_init_80 ?_
  clear hP hD hS
  intro q6 H locs hP hD hS
  have hP : va_P D vwCl ([(h0, .inr (10, [.null, .null, .int ((-1)), .int ((-1)), .ref q1, .ref q2, .int (0), .int ((-1)), .int ((-1)), .ref q3, .ref q4, .ref q5, .ref q6, .null, .null, .null])), (q1, .inl (ca 0, 256, .inl (fun _ => 0))), (q2, .inl (ca 0, 256, .inl (fun _ => 0))), (q3, .inl (ca 0, 128, .inl (fun _ => 0))), (q4, .inl (ca 0, 128, .inl (fun _ => 0))), (q5, .inl (ca 0, 128, .inl (fun _ => 0))), (q6, .inl (ca 0, 768, .inl (fun _ => 0)))] ++ ([])) H := hP
  have hD : va_D A ([(h0, .inr (10, [.null, .null, .int ((-1)), .int ((-1)), .ref q1, .ref q2, .int (0), .int ((-1)), .int ((-1)), .ref q3, .ref q4, .ref q5, .ref q6, .null, .null, .null])), (q1, .inl (ca 0, 256, .inl (fun _ => 0))), (q2, .inl (ca 0, 256, .inl (fun _ => 0))), (q3, .inl (ca 0, 128, .inl (fun _ => 0))), (q4, .inl (ca 0, 128, .inl (fun _ => 0))), (q5, .inl (ca 0, 128, .inl (fun _ => 0))), (q6, .inl (ca 0, 768, .inl (fun _ => 0)))] ++ ([])) := hD
  refine lv_aload_n hx hb dX10_init_83 rfl (lv_at hl 0 rfl) ?_
  refine lv_sipush hx hb dX10_init_84 (v := 128) rfl ?_
  refine kb_arr (C := RX10) (T := TX10) (N := 16) (ci := 10) (ty0 := tyX10) (atype := .int) (ty := .int) (a0 := (128, .inl (fun _ => 0))) (nw := 128) 0 hx hb hts (fun w h => List.mem_cons_of_mem _ (List.mem_append_right _ h)) tyX10_ok nmX10 hown hnm rfl hA hK hP hD hS (hts (.arrayClass .int) (List.mem_of_getElem? (i := 6) rfl)) rfl rfl (fun cA => ia_I cA _) (by decide) (by decide) (by decide) (Nat.le_of_ble_eq_true rfl) (Nat.le_of_ble_eq_true rfl) dX10_init_87 13 (by decide) (Nat.le_of_ble_eq_true rfl) (hts (.fieldLink RX10 46 "ProofHouse$Terms" "waiting" "[I") (List.mem_of_getElem? (i := 16) rfl)) rfl rfl (tyX10_ok 13 (by decide)) dX10_init_89 ?_
  clear hP hD hS
  intro q7 H locs hP hD hS
  have hP : va_P D vwCl ([(h0, .inr (10, [.null, .null, .int ((-1)), .int ((-1)), .ref q1, .ref q2, .int (0), .int ((-1)), .int ((-1)), .ref q3, .ref q4, .ref q5, .ref q6, .ref q7, .null, .null])), (q1, .inl (ca 0, 256, .inl (fun _ => 0))), (q2, .inl (ca 0, 256, .inl (fun _ => 0))), (q3, .inl (ca 0, 128, .inl (fun _ => 0))), (q4, .inl (ca 0, 128, .inl (fun _ => 0))), (q5, .inl (ca 0, 128, .inl (fun _ => 0))), (q6, .inl (ca 0, 768, .inl (fun _ => 0))), (q7, .inl (ca 0, 128, .inl (fun _ => 0)))] ++ ([])) H := hP
  have hD : va_D A ([(h0, .inr (10, [.null, .null, .int ((-1)), .int ((-1)), .ref q1, .ref q2, .int (0), .int ((-1)), .int ((-1)), .ref q3, .ref q4, .ref q5, .ref q6, .ref q7, .null, .null])), (q1, .inl (ca 0, 256, .inl (fun _ => 0))), (q2, .inl (ca 0, 256, .inl (fun _ => 0))), (q3, .inl (ca 0, 128, .inl (fun _ => 0))), (q4, .inl (ca 0, 128, .inl (fun _ => 0))), (q5, .inl (ca 0, 128, .inl (fun _ => 0))), (q6, .inl (ca 0, 768, .inl (fun _ => 0))), (q7, .inl (ca 0, 128, .inl (fun _ => 0)))] ++ ([])) := hD
  refine lv_aload_n hx hb dX10_init_92 rfl (lv_at hl 0 rfl) ?_
  refine lv_sipush hx hb dX10_init_93 (v := 128) rfl ?_
  refine kb_arr (C := RX10) (T := TX10) (N := 16) (ci := 10) (ty0 := tyX10) (atype := .int) (ty := .int) (a0 := (128, .inl (fun _ => 0))) (nw := 128) 0 hx hb hts (fun w h => List.mem_cons_of_mem _ (List.mem_append_right _ h)) tyX10_ok nmX10 hown hnm rfl hA hK hP hD hS (hts (.arrayClass .int) (List.mem_of_getElem? (i := 6) rfl)) rfl rfl (fun cA => ia_I cA _) (by decide) (by decide) (by decide) (Nat.le_of_ble_eq_true rfl) (Nat.le_of_ble_eq_true rfl) dX10_init_96 14 (by decide) (Nat.le_of_ble_eq_true rfl) (hts (.fieldLink RX10 49 "ProofHouse$Terms" "targets" "[I") (List.mem_of_getElem? (i := 17) rfl)) rfl rfl (tyX10_ok 14 (by decide)) dX10_init_98 ?_
  clear hP hD hS
  intro q8 H locs hP hD hS
  have hP : va_P D vwCl ([(h0, .inr (10, [.null, .null, .int ((-1)), .int ((-1)), .ref q1, .ref q2, .int (0), .int ((-1)), .int ((-1)), .ref q3, .ref q4, .ref q5, .ref q6, .ref q7, .ref q8, .null])), (q1, .inl (ca 0, 256, .inl (fun _ => 0))), (q2, .inl (ca 0, 256, .inl (fun _ => 0))), (q3, .inl (ca 0, 128, .inl (fun _ => 0))), (q4, .inl (ca 0, 128, .inl (fun _ => 0))), (q5, .inl (ca 0, 128, .inl (fun _ => 0))), (q6, .inl (ca 0, 768, .inl (fun _ => 0))), (q7, .inl (ca 0, 128, .inl (fun _ => 0))), (q8, .inl (ca 0, 128, .inl (fun _ => 0)))] ++ ([])) H := hP
  have hD : va_D A ([(h0, .inr (10, [.null, .null, .int ((-1)), .int ((-1)), .ref q1, .ref q2, .int (0), .int ((-1)), .int ((-1)), .ref q3, .ref q4, .ref q5, .ref q6, .ref q7, .ref q8, .null])), (q1, .inl (ca 0, 256, .inl (fun _ => 0))), (q2, .inl (ca 0, 256, .inl (fun _ => 0))), (q3, .inl (ca 0, 128, .inl (fun _ => 0))), (q4, .inl (ca 0, 128, .inl (fun _ => 0))), (q5, .inl (ca 0, 128, .inl (fun _ => 0))), (q6, .inl (ca 0, 768, .inl (fun _ => 0))), (q7, .inl (ca 0, 128, .inl (fun _ => 0))), (q8, .inl (ca 0, 128, .inl (fun _ => 0)))] ++ ([])) := hD
  refine lv_aload_n hx hb dX10_init_101 rfl (lv_at hl 0 rfl) ?_
  refine lv_sipush hx hb dX10_init_102 (v := 128) rfl ?_
  refine kb_arr (C := RX10) (T := TX10) (N := 16) (ci := 10) (ty0 := tyX10) (atype := .int) (ty := .int) (a0 := (128, .inl (fun _ => 0))) (nw := 128) 0 hx hb hts (fun w h => List.mem_cons_of_mem _ (List.mem_append_right _ h)) tyX10_ok nmX10 hown hnm rfl hA hK hP hD hS (hts (.arrayClass .int) (List.mem_of_getElem? (i := 6) rfl)) rfl rfl (fun cA => ia_I cA _) (by decide) (by decide) (by decide) (Nat.le_of_ble_eq_true rfl) (Nat.le_of_ble_eq_true rfl) dX10_init_105 15 (by decide) (Nat.le_of_ble_eq_true rfl) (hts (.fieldLink RX10 52 "ProofHouse$Terms" "parts" "[I") (List.mem_of_getElem? (i := 18) rfl)) rfl rfl (tyX10_ok 15 (by decide)) dX10_init_107 ?_
  clear hP hD hS
  intro q9 H locs hP hD hS
  have hP : va_P D vwCl ([(h0, .inr (10, [.null, .null, .int ((-1)), .int ((-1)), .ref q1, .ref q2, .int (0), .int ((-1)), .int ((-1)), .ref q3, .ref q4, .ref q5, .ref q6, .ref q7, .ref q8, .ref q9])), (q1, .inl (ca 0, 256, .inl (fun _ => 0))), (q2, .inl (ca 0, 256, .inl (fun _ => 0))), (q3, .inl (ca 0, 128, .inl (fun _ => 0))), (q4, .inl (ca 0, 128, .inl (fun _ => 0))), (q5, .inl (ca 0, 128, .inl (fun _ => 0))), (q6, .inl (ca 0, 768, .inl (fun _ => 0))), (q7, .inl (ca 0, 128, .inl (fun _ => 0))), (q8, .inl (ca 0, 128, .inl (fun _ => 0))), (q9, .inl (ca 0, 128, .inl (fun _ => 0)))] ++ ([])) H := hP
  have hD : va_D A ([(h0, .inr (10, [.null, .null, .int ((-1)), .int ((-1)), .ref q1, .ref q2, .int (0), .int ((-1)), .int ((-1)), .ref q3, .ref q4, .ref q5, .ref q6, .ref q7, .ref q8, .ref q9])), (q1, .inl (ca 0, 256, .inl (fun _ => 0))), (q2, .inl (ca 0, 256, .inl (fun _ => 0))), (q3, .inl (ca 0, 128, .inl (fun _ => 0))), (q4, .inl (ca 0, 128, .inl (fun _ => 0))), (q5, .inl (ca 0, 128, .inl (fun _ => 0))), (q6, .inl (ca 0, 768, .inl (fun _ => 0))), (q7, .inl (ca 0, 128, .inl (fun _ => 0))), (q8, .inl (ca 0, 128, .inl (fun _ => 0))), (q9, .inl (ca 0, 128, .inl (fun _ => 0)))] ++ ([])) := hD
  refine lv_aload_n hx hb dX10_init_110 rfl (lv_at hl 0 rfl) ?_
  refine lv_aload_n hx hb dX10_init_111 rfl (lv_at hl 1 rfl) ?_
  refine va_putF (D := D) (ci := 10) (v := .ref (r1)) (ty := .object "ProofHouse$Room") (C := RX10) (T := TX10) (N := 16) hx hb hts (fun w h => List.mem_cons_of_mem _ (List.mem_append_right _ h)) tyX10 tyX10_ok nmX10 hown hK hP hD hS 0 rfl rfl 0 (by decide) (hts (.fieldLink RX10 55 "ProofHouse$Terms" "room" "LProofHouse$Room;") (List.mem_of_getElem? (i := 19) rfl)) (fun _ h9 => h9) rfl hnm rfl (tyX10_ok 0 (by decide)) rfl rfl (Nat.le_of_ble_eq_true rfl) dX10_init_112 ?_
  clear hP hD hS
  intro H locs hP hD hS
  have hP : va_P D vwCl ([(h0, .inr (10, [.ref (r1), .null, .int ((-1)), .int ((-1)), .ref q1, .ref q2, .int (0), .int ((-1)), .int ((-1)), .ref q3, .ref q4, .ref q5, .ref q6, .ref q7, .ref q8, .ref q9])), (q1, .inl (ca 0, 256, .inl (fun _ => 0))), (q2, .inl (ca 0, 256, .inl (fun _ => 0))), (q3, .inl (ca 0, 128, .inl (fun _ => 0))), (q4, .inl (ca 0, 128, .inl (fun _ => 0))), (q5, .inl (ca 0, 128, .inl (fun _ => 0))), (q6, .inl (ca 0, 768, .inl (fun _ => 0))), (q7, .inl (ca 0, 128, .inl (fun _ => 0))), (q8, .inl (ca 0, 128, .inl (fun _ => 0))), (q9, .inl (ca 0, 128, .inl (fun _ => 0)))] ++ ([])) H := hP
  have hD : va_D A ([(h0, .inr (10, [.ref (r1), .null, .int ((-1)), .int ((-1)), .ref q1, .ref q2, .int (0), .int ((-1)), .int ((-1)), .ref q3, .ref q4, .ref q5, .ref q6, .ref q7, .ref q8, .ref q9])), (q1, .inl (ca 0, 256, .inl (fun _ => 0))), (q2, .inl (ca 0, 256, .inl (fun _ => 0))), (q3, .inl (ca 0, 128, .inl (fun _ => 0))), (q4, .inl (ca 0, 128, .inl (fun _ => 0))), (q5, .inl (ca 0, 128, .inl (fun _ => 0))), (q6, .inl (ca 0, 768, .inl (fun _ => 0))), (q7, .inl (ca 0, 128, .inl (fun _ => 0))), (q8, .inl (ca 0, 128, .inl (fun _ => 0))), (q9, .inl (ca 0, 128, .inl (fun _ => 0)))] ++ ([])) := hD
  refine lv_aload_n hx hb dX10_init_115 rfl (lv_at hl 0 rfl) ?_
  refine lv_aload_n hx hb dX10_init_116 rfl (lv_at hl 2 rfl) ?_
  refine va_putF (D := D) (ci := 10) (v := .ref (r2)) (ty := .object "ProofHouse$Book") (C := RX10) (T := TX10) (N := 16) hx hb hts (fun w h => List.mem_cons_of_mem _ (List.mem_append_right _ h)) tyX10 tyX10_ok nmX10 hown hK hP hD hS 0 rfl rfl 1 (by decide) (hts (.fieldLink RX10 59 "ProofHouse$Terms" "book" "LProofHouse$Book;") (List.mem_of_getElem? (i := 20) rfl)) (fun _ h9 => h9) rfl hnm rfl (tyX10_ok 1 (by decide)) rfl rfl (Nat.le_of_ble_eq_true rfl) dX10_init_117 ?_
  clear hP hD hS
  intro H locs hP hD hS
  have hP : va_P D vwCl ([(h0, .inr (10, [.ref (r1), .ref (r2), .int ((-1)), .int ((-1)), .ref q1, .ref q2, .int (0), .int ((-1)), .int ((-1)), .ref q3, .ref q4, .ref q5, .ref q6, .ref q7, .ref q8, .ref q9])), (q1, .inl (ca 0, 256, .inl (fun _ => 0))), (q2, .inl (ca 0, 256, .inl (fun _ => 0))), (q3, .inl (ca 0, 128, .inl (fun _ => 0))), (q4, .inl (ca 0, 128, .inl (fun _ => 0))), (q5, .inl (ca 0, 128, .inl (fun _ => 0))), (q6, .inl (ca 0, 768, .inl (fun _ => 0))), (q7, .inl (ca 0, 128, .inl (fun _ => 0))), (q8, .inl (ca 0, 128, .inl (fun _ => 0))), (q9, .inl (ca 0, 128, .inl (fun _ => 0)))] ++ ([])) H := hP
  have hD : va_D A ([(h0, .inr (10, [.ref (r1), .ref (r2), .int ((-1)), .int ((-1)), .ref q1, .ref q2, .int (0), .int ((-1)), .int ((-1)), .ref q3, .ref q4, .ref q5, .ref q6, .ref q7, .ref q8, .ref q9])), (q1, .inl (ca 0, 256, .inl (fun _ => 0))), (q2, .inl (ca 0, 256, .inl (fun _ => 0))), (q3, .inl (ca 0, 128, .inl (fun _ => 0))), (q4, .inl (ca 0, 128, .inl (fun _ => 0))), (q5, .inl (ca 0, 128, .inl (fun _ => 0))), (q6, .inl (ca 0, 768, .inl (fun _ => 0))), (q7, .inl (ca 0, 128, .inl (fun _ => 0))), (q8, .inl (ca 0, 128, .inl (fun _ => 0))), (q9, .inl (ca 0, 128, .inl (fun _ => 0)))] ++ ([])) := hD
  exact W.vret hx hb hr (fun t ht hW => ⟨⟨((fun k => ([q1, q2, q3, q4, q5, q6, q7, q8, q9] : List Nat).getD k 0), (fun k => ([] : List (Nat → Nat)).getD k (fun _ => 0)), ()), rfl, trivial, ⟨by rw [ht]; exact hP, va_K.moved hW.alike hK, hD⟩⟩, hS.F ht⟩) hS.2.2 dX10_init_120

def kW2 (ca : Nat → ClassId) (h0 : Nat) (r1 : Nat) (r2 : Nat) (u : kU) : va_W := ([(h0, .inr (2, [.ref (r1), .ref (r2), .ref (u.1 0), .ref (u.1 1), .ref (u.1 2), .ref (u.1 3), .ref (u.1 4), .ref (u.1 5), .ref (u.1 6), .int (0), .int (0), .int ((-1)), .int (0), .int (0), .int (0)])), ((u.1 0), .inl (ca 0, 300, .inl (fun _ => 0))), ((u.1 1), .inl (ca 0, 300, .inl (fun _ => 0))), ((u.1 2), .inl (ca 0, 300, .inl (fun _ => 0))), ((u.1 3), .inl (ca 1, 300, .inl (fun _ => 0))), ((u.1 4), .inl (ca 0, 300, .inl (fun _ => 0))), ((u.1 5), .inl (ca 0, 300, .inl (fun _ => 0))), ((u.1 6), .inl (ca 0, 1803, .inl (fun _ => 0)))] ++ ([]))
set_option maxHeartbeats 4000000 in
set_option maxRecDepth 100000 in
/-- ProofHouse$Evaluator() -/
theorem k_X2_init (l : Launch) (D : va_G) (ca : Nat → ClassId) (h0 sz : Nat) (r1 : Nat) (r2 : Nat) : Met l yX2_init wsX2_init ({ frames := 1, cells := 7, slots := 3603, locals := 12 }) (va_Pc [.ref (h0), .ref (r1), .ref (r2)] (fun U => U.heap.size = sz ∧ va_P D vwCl [(h0, .inr (2, [.null, .null, .null, .null, .null, .null, .null, .null, .null, .int 0, .int 0, .int 0, .int 0, .int 0, .int 0]))] U.heap ∧ va_K D vwCl (yTy ca) U ∧ va_D (fun _ => True) [(h0, .inr (2, [.null, .null, .null, .null, .null, .null, .null, .null, .null, .int 0, .int 0, .int 0, .int 0, .int 0, .int 0]))])) (va_Qv (fun _ : kU => True) (fun u t => va_P D vwCl (kW2 ca h0 r1 r2 u) t.heap ∧ va_K D vwCl (yTy ca) t ∧ va_D (va_A [(h0, .inr (2, [.null, .null, .null, .null, .null, .null, .null, .null, .null, .int 0, .int 0, .int 0, .int 0, .int 0, .int 0]))] sz) (kW2 ca h0 r1 r2 u)) (va_A [(h0, .inr (2, [.null, .null, .null, .null, .null, .null, .null, .null, .null, .int 0, .int 0, .int 0, .int 0, .int 0, .int 0]))] sz)) 7 3603 (va_A [(h0, .inr (2, [.null, .null, .null, .null, .null, .null, .null, .null, .null, .int 0, .int 0, .int 0, .int 0, .int 0, .int 0]))] sz) := by
  refine Met.ofW (cc := cX2_init) (maxL := 3) (ret := none) (by decide) rfl ?_
  intro p e s m args below meth c s₁ B hml hv
  obtain ⟨rfl, hsz, hP, hK, hD0⟩ := hv
  have hx := B.exec
  have hb := B.bytes
  have hr := B.returns
  have hts := atoms_spec (ws := wsX2_init) B.pre
  have hown : s.vm.findClass RX2 = some m.cls := findClass_of_methodNamed B.named
  have hnm : meth.name = "<init>" := (name_of_methodNamed B.named B.method).1
  subst hsz
  have hD := hD0.self (sz := s.heap.size)
  generalize hAe : va_A ([(h0, .inr (2, [.null, .null, .null, .null, .null, .null, .null, .null, .null, .int 0, .int 0, .int 0, .int 0, .int 0, .int 0]))]) s.heap.size = A at hD ⊢
  have hA : ∀ q : Nat, s.heap.size ≤ q → A q := fun q h => by rw [← hAe]; exact Or.inr h
  have hS : va_S A s.heap s.heap [] := va_S.rf
  have hl := lv_entry ([.ref (h0), .ref (r1), .ref (r2)]) (n := 3) (Nat.le_of_ble_eq_true rfl)
  rw [lg_entry_eq]
  generalize (lg_sl ([.ref (h0), .ref (r1), .ref (r2)]) ++ List.replicate (3 - (lg_sl ([.ref (h0), .ref (r1), .ref (r2)])).length) Slot.unset).toArray = ls at hl ⊢
  have hl : lv_has ls 3 [(0, .ref (h0)), (1, .ref (r1)), (2, .ref (r2))] := hl
  have hP : va_P D vwCl ([(h0, .inr (2, [.null, .null, .null, .null, .null, .null, .null, .null, .null, .int 0, .int 0, .int 0, .int 0, .int 0, .int 0]))] ++ ([])) s.heap := hP
  have hD : va_D A ([(h0, .inr (2, [.null, .null, .null, .null, .null, .null, .null, .null, .null, .int 0, .int 0, .int 0, .int 0, .int 0, .int 0]))] ++ ([])) := hD
  refine lv_aload_n hx hb dX2_init_0 rfl (lv_at hl 0 rfl) ?_
  refine W.objInit hx hb hown (hts (.methodLink RX2 3 objectInit) (List.mem_of_getElem? (i := 1) rfl)) (hts (.instanceMethod objectInit) (List.mem_of_getElem? (i := 2) rfl)) (hts (.code objectInit ⟨#[0xb1]⟩ 1 none) (List.mem_of_getElem? (i := 3) rfl)) rfl (by rw [hml]; exact hl.1) rfl dX2_init_1 (Nat.le_of_ble_eq_true rfl) (Nat.le_of_ble_eq_true rfl) ?_
  refine W.eq (g2 := F0 m 4 ls []) rfl ?_
  refine lv_aload_n hx hb dX2_init_4 rfl (lv_at hl 0 rfl) ?_
  refine lv_sipush hx hb dX2_init_5 (v := 300) rfl ?_
  refine kb_arr (C := RX2) (T := TX2) (N := 15) (ci := 2) (ty0 := tyX2) (atype := .int) (ty := .int) (a0 := (300, .inl (fun _ => 0))) (nw := 300) 0 hx hb hts (fun w h => List.mem_cons_of_mem _ (List.mem_append_right _ h)) tyX2_ok nmX2 hown hnm rfl hA hK hP hD hS (hts (.arrayClass .int) (List.mem_of_getElem? (i := 4) rfl)) rfl rfl (fun cA => ia_I cA _) (by decide) (by decide) (by decide) (Nat.le_of_ble_eq_true rfl) (Nat.le_of_ble_eq_true rfl) dX2_init_8 2 (by decide) (Nat.le_of_ble_eq_true rfl) (hts (.fieldLink RX2 11 "ProofHouse$Evaluator" "names" "[I") (List.mem_of_getElem? (i := 5) rfl)) rfl rfl (tyX2_ok 2 (by decide)) dX2_init_10 ?_
  clear hP hD hS
  intro q1 H locs hP hD hS
  have hP : va_P D vwCl ([(h0, .inr (2, [.null, .null, .ref q1, .null, .null, .null, .null, .null, .null, .int 0, .int 0, .int 0, .int 0, .int 0, .int 0])), (q1, .inl (ca 0, 300, .inl (fun _ => 0)))] ++ ([])) H := hP
  have hD : va_D A ([(h0, .inr (2, [.null, .null, .ref q1, .null, .null, .null, .null, .null, .null, .int 0, .int 0, .int 0, .int 0, .int 0, .int 0])), (q1, .inl (ca 0, 300, .inl (fun _ => 0)))] ++ ([])) := hD
  refine lv_aload_n hx hb dX2_init_13 rfl (lv_at hl 0 rfl) ?_
  refine lv_sipush hx hb dX2_init_14 (v := 300) rfl ?_
  refine kb_arr (C := RX2) (T := TX2) (N := 15) (ci := 2) (ty0 := tyX2) (atype := .int) (ty := .int) (a0 := (300, .inl (fun _ => 0))) (nw := 300) 0 hx hb hts (fun w h => List.mem_cons_of_mem _ (List.mem_append_right _ h)) tyX2_ok nmX2 hown hnm rfl hA hK hP hD hS (hts (.arrayClass .int) (List.mem_of_getElem? (i := 4) rfl)) rfl rfl (fun cA => ia_I cA _) (by decide) (by decide) (by decide) (Nat.le_of_ble_eq_true rfl) (Nat.le_of_ble_eq_true rfl) dX2_init_17 3 (by decide) (Nat.le_of_ble_eq_true rfl) (hts (.fieldLink RX2 15 "ProofHouse$Evaluator" "rests" "[I") (List.mem_of_getElem? (i := 6) rfl)) rfl rfl (tyX2_ok 3 (by decide)) dX2_init_19 ?_
  clear hP hD hS
  intro q2 H locs hP hD hS
  have hP : va_P D vwCl ([(h0, .inr (2, [.null, .null, .ref q1, .ref q2, .null, .null, .null, .null, .null, .int 0, .int 0, .int 0, .int 0, .int 0, .int 0])), (q1, .inl (ca 0, 300, .inl (fun _ => 0))), (q2, .inl (ca 0, 300, .inl (fun _ => 0)))] ++ ([])) H := hP
  have hD : va_D A ([(h0, .inr (2, [.null, .null, .ref q1, .ref q2, .null, .null, .null, .null, .null, .int 0, .int 0, .int 0, .int 0, .int 0, .int 0])), (q1, .inl (ca 0, 300, .inl (fun _ => 0))), (q2, .inl (ca 0, 300, .inl (fun _ => 0)))] ++ ([])) := hD
  refine lv_aload_n hx hb dX2_init_22 rfl (lv_at hl 0 rfl) ?_
  refine lv_sipush hx hb dX2_init_23 (v := 300) rfl ?_
  refine kb_arr (C := RX2) (T := TX2) (N := 15) (ci := 2) (ty0 := tyX2) (atype := .int) (ty := .int) (a0 := (300, .inl (fun _ => 0))) (nw := 300) 0 hx hb hts (fun w h => List.mem_cons_of_mem _ (List.mem_append_right _ h)) tyX2_ok nmX2 hown hnm rfl hA hK hP hD hS (hts (.arrayClass .int) (List.mem_of_getElem? (i := 4) rfl)) rfl rfl (fun cA => ia_I cA _) (by decide) (by decide) (by decide) (Nat.le_of_ble_eq_true rfl) (Nat.le_of_ble_eq_true rfl) dX2_init_26 4 (by decide) (Nat.le_of_ble_eq_true rfl) (hts (.fieldLink RX2 18 "ProofHouse$Evaluator" "bases" "[I") (List.mem_of_getElem? (i := 7) rfl)) rfl rfl (tyX2_ok 4 (by decide)) dX2_init_28 ?_
  clear hP hD hS
  intro q3 H locs hP hD hS
  have hP : va_P D vwCl ([(h0, .inr (2, [.null, .null, .ref q1, .ref q2, .ref q3, .null, .null, .null, .null, .int 0, .int 0, .int 0, .int 0, .int 0, .int 0])), (q1, .inl (ca 0, 300, .inl (fun _ => 0))), (q2, .inl (ca 0, 300, .inl (fun _ => 0))), (q3, .inl (ca 0, 300, .inl (fun _ => 0)))] ++ ([])) H := hP
  have hD : va_D A ([(h0, .inr (2, [.null, .null, .ref q1, .ref q2, .ref q3, .null, .null, .null, .null, .int 0, .int 0, .int 0, .int 0, .int 0, .int 0])), (q1, .inl (ca 0, 300, .inl (fun _ => 0))), (q2, .inl (ca 0, 300, .inl (fun _ => 0))), (q3, .inl (ca 0, 300, .inl (fun _ => 0)))] ++ ([])) := hD
  refine lv_aload_n hx hb dX2_init_31 rfl (lv_at hl 0 rfl) ?_
  refine lv_sipush hx hb dX2_init_32 (v := 300) rfl ?_
  refine kb_arr (C := RX2) (T := TX2) (N := 15) (ci := 2) (ty0 := tyX2) (atype := .boolean) (ty := .boolean) (a0 := (300, .inl (fun _ => 0))) (nw := 300) 1 hx hb hts (fun w h => List.mem_cons_of_mem _ (List.mem_append_right _ h)) tyX2_ok nmX2 hown hnm rfl hA hK hP hD hS (hts (.arrayClass .boolean) (List.mem_of_getElem? (i := 8) rfl)) rfl rfl (fun cA => ia_Z cA _) (by decide) (by decide) (by decide) (Nat.le_of_ble_eq_true rfl) (Nat.le_of_ble_eq_true rfl) dX2_init_35 5 (by decide) (Nat.le_of_ble_eq_true rfl) (hts (.fieldLink RX2 21 "ProofHouse$Evaluator" "inBody" "[Z") (List.mem_of_getElem? (i := 9) rfl)) rfl rfl (tyX2_ok 5 (by decide)) dX2_init_37 ?_
  clear hP hD hS
  intro q4 H locs hP hD hS
  have hP : va_P D vwCl ([(h0, .inr (2, [.null, .null, .ref q1, .ref q2, .ref q3, .ref q4, .null, .null, .null, .int 0, .int 0, .int 0, .int 0, .int 0, .int 0])), (q1, .inl (ca 0, 300, .inl (fun _ => 0))), (q2, .inl (ca 0, 300, .inl (fun _ => 0))), (q3, .inl (ca 0, 300, .inl (fun _ => 0))), (q4, .inl (ca 1, 300, .inl (fun _ => 0)))] ++ ([])) H := hP
  have hD : va_D A ([(h0, .inr (2, [.null, .null, .ref q1, .ref q2, .ref q3, .ref q4, .null, .null, .null, .int 0, .int 0, .int 0, .int 0, .int 0, .int 0])), (q1, .inl (ca 0, 300, .inl (fun _ => 0))), (q2, .inl (ca 0, 300, .inl (fun _ => 0))), (q3, .inl (ca 0, 300, .inl (fun _ => 0))), (q4, .inl (ca 1, 300, .inl (fun _ => 0)))] ++ ([])) := hD
  refine lv_aload_n hx hb dX2_init_40 rfl (lv_at hl 0 rfl) ?_
  refine lv_sipush hx hb dX2_init_41 (v := 300) rfl ?_
  refine kb_arr (C := RX2) (T := TX2) (N := 15) (ci := 2) (ty0 := tyX2) (atype := .int) (ty := .int) (a0 := (300, .inl (fun _ => 0))) (nw := 300) 0 hx hb hts (fun w h => List.mem_cons_of_mem _ (List.mem_append_right _ h)) tyX2_ok nmX2 hown hnm rfl hA hK hP hD hS (hts (.arrayClass .int) (List.mem_of_getElem? (i := 4) rfl)) rfl rfl (fun cA => ia_I cA _) (by decide) (by decide) (by decide) (Nat.le_of_ble_eq_true rfl) (Nat.le_of_ble_eq_true rfl) dX2_init_44 6 (by decide) (Nat.le_of_ble_eq_true rfl) (hts (.fieldLink RX2 25 "ProofHouse$Evaluator" "outerOwners" "[I") (List.mem_of_getElem? (i := 10) rfl)) rfl rfl (tyX2_ok 6 (by decide)) dX2_init_46 ?_
  clear hP hD hS
  intro q5 H locs hP hD hS
  have hP : va_P D vwCl ([(h0, .inr (2, [.null, .null, .ref q1, .ref q2, .ref q3, .ref q4, .ref q5, .null, .null, .int 0, .int 0, .int 0, .int 0, .int 0, .int 0])), (q1, .inl (ca 0, 300, .inl (fun _ => 0))), (q2, .inl (ca 0, 300, .inl (fun _ => 0))), (q3, .inl (ca 0, 300, .inl (fun _ => 0))), (q4, .inl (ca 1, 300, .inl (fun _ => 0))), (q5, .inl (ca 0, 300, .inl (fun _ => 0)))] ++ ([])) H := hP
  have hD : va_D A ([(h0, .inr (2, [.null, .null, .ref q1, .ref q2, .ref q3, .ref q4, .ref q5, .null, .null, .int 0, .int 0, .int 0, .int 0, .int 0, .int 0])), (q1, .inl (ca 0, 300, .inl (fun _ => 0))), (q2, .inl (ca 0, 300, .inl (fun _ => 0))), (q3, .inl (ca 0, 300, .inl (fun _ => 0))), (q4, .inl (ca 1, 300, .inl (fun _ => 0))), (q5, .inl (ca 0, 300, .inl (fun _ => 0)))] ++ ([])) := hD
  refine lv_aload_n hx hb dX2_init_49 rfl (lv_at hl 0 rfl) ?_
  refine lv_sipush hx hb dX2_init_50 (v := 300) rfl ?_
  refine kb_arr (C := RX2) (T := TX2) (N := 15) (ci := 2) (ty0 := tyX2) (atype := .int) (ty := .int) (a0 := (300, .inl (fun _ => 0))) (nw := 300) 0 hx hb hts (fun w h => List.mem_cons_of_mem _ (List.mem_append_right _ h)) tyX2_ok nmX2 hown hnm rfl hA hK hP hD hS (hts (.arrayClass .int) (List.mem_of_getElem? (i := 4) rfl)) rfl rfl (fun cA => ia_I cA _) (by decide) (by decide) (by decide) (Nat.le_of_ble_eq_true rfl) (Nat.le_of_ble_eq_true rfl) dX2_init_53 7 (by decide) (Nat.le_of_ble_eq_true rfl) (hts (.fieldLink RX2 28 "ProofHouse$Evaluator" "outerFloors" "[I") (List.mem_of_getElem? (i := 11) rfl)) rfl rfl (tyX2_ok 7 (by decide)) dX2_init_55 ?_
  clear hP hD hS
  intro q6 H locs hP hD hS
  have hP : va_P D vwCl ([(h0, .inr (2, [.null, .null, .ref q1, .ref q2, .ref q3, .ref q4, .ref q5, .ref q6, .null, .int 0, .int 0, .int 0, .int 0, .int 0, .int 0])), (q1, .inl (ca 0, 300, .inl (fun _ => 0))), (q2, .inl (ca 0, 300, .inl (fun _ => 0))), (q3, .inl (ca 0, 300, .inl (fun _ => 0))), (q4, .inl (ca 1, 300, .inl (fun _ => 0))), (q5, .inl (ca 0, 300, .inl (fun _ => 0))), (q6, .inl (ca 0, 300, .inl (fun _ => 0)))] ++ ([])) H := hP
  have hD : va_D A ([(h0, .inr (2, [.null, .null, .ref q1, .ref q2, .ref q3, .ref q4, .ref q5, .ref q6, .null, .int 0, .int 0, .int 0, .int 0, .int 0, .int 0])), (q1, .inl (ca 0, 300, .inl (fun _ => 0))), (q2, .inl (ca 0, 300, .inl (fun _ => 0))), (q3, .inl (ca 0, 300, .inl (fun _ => 0))), (q4, .inl (ca 1, 300, .inl (fun _ => 0))), (q5, .inl (ca 0, 300, .inl (fun _ => 0))), (q6, .inl (ca 0, 300, .inl (fun _ => 0)))] ++ ([])) := hD
  refine lv_aload_n hx hb dX2_init_58 rfl (lv_at hl 0 rfl) ?_
  refine lv_sipush hx hb dX2_init_59 (v := 1803) rfl ?_
  refine kb_arr (C := RX2) (T := TX2) (N := 15) (ci := 2) (ty0 := tyX2) (atype := .int) (ty := .int) (a0 := (1803, .inl (fun _ => 0))) (nw := 1803) 0 hx hb hts (fun w h => List.mem_cons_of_mem _ (List.mem_append_right _ h)) tyX2_ok nmX2 hown hnm rfl hA hK hP hD hS (hts (.arrayClass .int) (List.mem_of_getElem? (i := 4) rfl)) rfl rfl (fun cA => ia_I cA _) (by decide) (by decide) (by decide) (Nat.le_of_ble_eq_true rfl) (Nat.le_of_ble_eq_true rfl) dX2_init_62 8 (by decide) (Nat.le_of_ble_eq_true rfl) (hts (.fieldLink RX2 31 "ProofHouse$Evaluator" "values" "[I") (List.mem_of_getElem? (i := 12) rfl)) rfl rfl (tyX2_ok 8 (by decide)) dX2_init_64 ?_
  clear hP hD hS
  intro q7 H locs hP hD hS
  have hP : va_P D vwCl ([(h0, .inr (2, [.null, .null, .ref q1, .ref q2, .ref q3, .ref q4, .ref q5, .ref q6, .ref q7, .int 0, .int 0, .int 0, .int 0, .int 0, .int 0])), (q1, .inl (ca 0, 300, .inl (fun _ => 0))), (q2, .inl (ca 0, 300, .inl (fun _ => 0))), (q3, .inl (ca 0, 300, .inl (fun _ => 0))), (q4, .inl (ca 1, 300, .inl (fun _ => 0))), (q5, .inl (ca 0, 300, .inl (fun _ => 0))), (q6, .inl (ca 0, 300, .inl (fun _ => 0))), (q7, .inl (ca 0, 1803, .inl (fun _ => 0)))] ++ ([])) H := hP
  have hD : va_D A ([(h0, .inr (2, [.null, .null, .ref q1, .ref q2, .ref q3, .ref q4, .ref q5, .ref q6, .ref q7, .int 0, .int 0, .int 0, .int 0, .int 0, .int 0])), (q1, .inl (ca 0, 300, .inl (fun _ => 0))), (q2, .inl (ca 0, 300, .inl (fun _ => 0))), (q3, .inl (ca 0, 300, .inl (fun _ => 0))), (q4, .inl (ca 1, 300, .inl (fun _ => 0))), (q5, .inl (ca 0, 300, .inl (fun _ => 0))), (q6, .inl (ca 0, 300, .inl (fun _ => 0))), (q7, .inl (ca 0, 1803, .inl (fun _ => 0)))] ++ ([])) := hD
  refine lv_aload_n hx hb dX2_init_67 rfl (lv_at hl 0 rfl) ?_
  refine lv_iconst hx hb dX2_init_68 (v := 0) rfl ?_
  refine va_put (D := D) (ci := 2) (v := .int (0)) (ty := .int) (C := RX2) (T := TX2) (N := 15) hx hb hts (fun w h => List.mem_cons_of_mem _ (List.mem_append_right _ h)) tyX2 tyX2_ok nmX2 hown hK hP hD hS 0 rfl rfl 9 (by decide) (hts (.fieldLink RX2 34 "ProofHouse$Evaluator" "depth" "I") (List.mem_of_getElem? (i := 13) rfl)) (fun _ h9 => h9) rfl (tyX2_ok 9 (by decide)) rfl rfl (Nat.le_of_ble_eq_true rfl) dX2_init_69 ?_
  clear hP hD hS
  intro H locs hP hD hS
  have hP : va_P D vwCl ([(h0, .inr (2, [.null, .null, .ref q1, .ref q2, .ref q3, .ref q4, .ref q5, .ref q6, .ref q7, .int (0), .int 0, .int 0, .int 0, .int 0, .int 0])), (q1, .inl (ca 0, 300, .inl (fun _ => 0))), (q2, .inl (ca 0, 300, .inl (fun _ => 0))), (q3, .inl (ca 0, 300, .inl (fun _ => 0))), (q4, .inl (ca 1, 300, .inl (fun _ => 0))), (q5, .inl (ca 0, 300, .inl (fun _ => 0))), (q6, .inl (ca 0, 300, .inl (fun _ => 0))), (q7, .inl (ca 0, 1803, .inl (fun _ => 0)))] ++ ([])) H := hP
  have hD : va_D A ([(h0, .inr (2, [.null, .null, .ref q1, .ref q2, .ref q3, .ref q4, .ref q5, .ref q6, .ref q7, .int (0), .int 0, .int 0, .int 0, .int 0, .int 0])), (q1, .inl (ca 0, 300, .inl (fun _ => 0))), (q2, .inl (ca 0, 300, .inl (fun _ => 0))), (q3, .inl (ca 0, 300, .inl (fun _ => 0))), (q4, .inl (ca 1, 300, .inl (fun _ => 0))), (q5, .inl (ca 0, 300, .inl (fun _ => 0))), (q6, .inl (ca 0, 300, .inl (fun _ => 0))), (q7, .inl (ca 0, 1803, .inl (fun _ => 0)))] ++ ([])) := hD
  refine lv_aload_n hx hb dX2_init_72 rfl (lv_at hl 0 rfl) ?_
  refine lv_iconst hx hb dX2_init_73 (v := 0) rfl ?_
  refine va_put (D := D) (ci := 2) (v := .int (0)) (ty := .int) (C := RX2) (T := TX2) (N := 15) hx hb hts (fun w h => List.mem_cons_of_mem _ (List.mem_append_right _ h)) tyX2 tyX2_ok nmX2 hown hK hP hD hS 0 rfl rfl 10 (by decide) (hts (.fieldLink RX2 38 "ProofHouse$Evaluator" "held" "I") (List.mem_of_getElem? (i := 14) rfl)) (fun _ h9 => h9) rfl (tyX2_ok 10 (by decide)) rfl rfl (Nat.le_of_ble_eq_true rfl) dX2_init_74 ?_
  clear hP hD hS
  intro H locs hP hD hS
  have hP : va_P D vwCl ([(h0, .inr (2, [.null, .null, .ref q1, .ref q2, .ref q3, .ref q4, .ref q5, .ref q6, .ref q7, .int (0), .int (0), .int 0, .int 0, .int 0, .int 0])), (q1, .inl (ca 0, 300, .inl (fun _ => 0))), (q2, .inl (ca 0, 300, .inl (fun _ => 0))), (q3, .inl (ca 0, 300, .inl (fun _ => 0))), (q4, .inl (ca 1, 300, .inl (fun _ => 0))), (q5, .inl (ca 0, 300, .inl (fun _ => 0))), (q6, .inl (ca 0, 300, .inl (fun _ => 0))), (q7, .inl (ca 0, 1803, .inl (fun _ => 0)))] ++ ([])) H := hP
  have hD : va_D A ([(h0, .inr (2, [.null, .null, .ref q1, .ref q2, .ref q3, .ref q4, .ref q5, .ref q6, .ref q7, .int (0), .int (0), .int 0, .int 0, .int 0, .int 0])), (q1, .inl (ca 0, 300, .inl (fun _ => 0))), (q2, .inl (ca 0, 300, .inl (fun _ => 0))), (q3, .inl (ca 0, 300, .inl (fun _ => 0))), (q4, .inl (ca 1, 300, .inl (fun _ => 0))), (q5, .inl (ca 0, 300, .inl (fun _ => 0))), (q6, .inl (ca 0, 300, .inl (fun _ => 0))), (q7, .inl (ca 0, 1803, .inl (fun _ => 0)))] ++ ([])) := hD
  refine lv_aload_n hx hb dX2_init_77 rfl (lv_at hl 0 rfl) ?_
  refine lv_iconst hx hb dX2_init_78 (v := (-1)) rfl ?_
  refine va_put (D := D) (ci := 2) (v := .int ((-1))) (ty := .int) (C := RX2) (T := TX2) (N := 15) hx hb hts (fun w h => List.mem_cons_of_mem _ (List.mem_append_right _ h)) tyX2 tyX2_ok nmX2 hown hK hP hD hS 0 rfl rfl 11 (by decide) (hts (.fieldLink RX2 41 "ProofHouse$Evaluator" "owner" "I") (List.mem_of_getElem? (i := 15) rfl)) (fun _ h9 => h9) rfl (tyX2_ok 11 (by decide)) rfl rfl (Nat.le_of_ble_eq_true rfl) dX2_init_79 ?_
  clear hP hD hS
  intro H locs hP hD hS
  have hP : va_P D vwCl ([(h0, .inr (2, [.null, .null, .ref q1, .ref q2, .ref q3, .ref q4, .ref q5, .ref q6, .ref q7, .int (0), .int (0), .int ((-1)), .int 0, .int 0, .int 0])), (q1, .inl (ca 0, 300, .inl (fun _ => 0))), (q2, .inl (ca 0, 300, .inl (fun _ => 0))), (q3, .inl (ca 0, 300, .inl (fun _ => 0))), (q4, .inl (ca 1, 300, .inl (fun _ => 0))), (q5, .inl (ca 0, 300, .inl (fun _ => 0))), (q6, .inl (ca 0, 300, .inl (fun _ => 0))), (q7, .inl (ca 0, 1803, .inl (fun _ => 0)))] ++ ([])) H := hP
  have hD : va_D A ([(h0, .inr (2, [.null, .null, .ref q1, .ref q2, .ref q3, .ref q4, .ref q5, .ref q6, .ref q7, .int (0), .int (0), .int ((-1)), .int 0, .int 0, .int 0])), (q1, .inl (ca 0, 300, .inl (fun _ => 0))), (q2, .inl (ca 0, 300, .inl (fun _ => 0))), (q3, .inl (ca 0, 300, .inl (fun _ => 0))), (q4, .inl (ca 1, 300, .inl (fun _ => 0))), (q5, .inl (ca 0, 300, .inl (fun _ => 0))), (q6, .inl (ca 0, 300, .inl (fun _ => 0))), (q7, .inl (ca 0, 1803, .inl (fun _ => 0)))] ++ ([])) := hD
  refine lv_aload_n hx hb dX2_init_82 rfl (lv_at hl 0 rfl) ?_
  refine lv_iconst hx hb dX2_init_83 (v := 0) rfl ?_
  refine va_put (D := D) (ci := 2) (v := .int (0)) (ty := .int) (C := RX2) (T := TX2) (N := 15) hx hb hts (fun w h => List.mem_cons_of_mem _ (List.mem_append_right _ h)) tyX2 tyX2_ok nmX2 hown hK hP hD hS 0 rfl rfl 12 (by decide) (hts (.fieldLink RX2 44 "ProofHouse$Evaluator" "floor" "I") (List.mem_of_getElem? (i := 16) rfl)) (fun _ h9 => h9) rfl (tyX2_ok 12 (by decide)) rfl rfl (Nat.le_of_ble_eq_true rfl) dX2_init_84 ?_
  clear hP hD hS
  intro H locs hP hD hS
  have hP : va_P D vwCl ([(h0, .inr (2, [.null, .null, .ref q1, .ref q2, .ref q3, .ref q4, .ref q5, .ref q6, .ref q7, .int (0), .int (0), .int ((-1)), .int (0), .int 0, .int 0])), (q1, .inl (ca 0, 300, .inl (fun _ => 0))), (q2, .inl (ca 0, 300, .inl (fun _ => 0))), (q3, .inl (ca 0, 300, .inl (fun _ => 0))), (q4, .inl (ca 1, 300, .inl (fun _ => 0))), (q5, .inl (ca 0, 300, .inl (fun _ => 0))), (q6, .inl (ca 0, 300, .inl (fun _ => 0))), (q7, .inl (ca 0, 1803, .inl (fun _ => 0)))] ++ ([])) H := hP
  have hD : va_D A ([(h0, .inr (2, [.null, .null, .ref q1, .ref q2, .ref q3, .ref q4, .ref q5, .ref q6, .ref q7, .int (0), .int (0), .int ((-1)), .int (0), .int 0, .int 0])), (q1, .inl (ca 0, 300, .inl (fun _ => 0))), (q2, .inl (ca 0, 300, .inl (fun _ => 0))), (q3, .inl (ca 0, 300, .inl (fun _ => 0))), (q4, .inl (ca 1, 300, .inl (fun _ => 0))), (q5, .inl (ca 0, 300, .inl (fun _ => 0))), (q6, .inl (ca 0, 300, .inl (fun _ => 0))), (q7, .inl (ca 0, 1803, .inl (fun _ => 0)))] ++ ([])) := hD
  refine lv_aload_n hx hb dX2_init_87 rfl (lv_at hl 0 rfl) ?_
  refine lv_iconst hx hb dX2_init_88 (v := 0) rfl ?_
  refine va_put (D := D) (ci := 2) (v := .int (0)) (ty := .int) (C := RX2) (T := TX2) (N := 15) hx hb hts (fun w h => List.mem_cons_of_mem _ (List.mem_append_right _ h)) tyX2 tyX2_ok nmX2 hown hK hP hD hS 0 rfl rfl 13 (by decide) (hts (.fieldLink RX2 47 "ProofHouse$Evaluator" "stepsLeft" "I") (List.mem_of_getElem? (i := 17) rfl)) (fun _ h9 => h9) rfl (tyX2_ok 13 (by decide)) rfl rfl (Nat.le_of_ble_eq_true rfl) dX2_init_89 ?_
  clear hP hD hS
  intro H locs hP hD hS
  have hP : va_P D vwCl ([(h0, .inr (2, [.null, .null, .ref q1, .ref q2, .ref q3, .ref q4, .ref q5, .ref q6, .ref q7, .int (0), .int (0), .int ((-1)), .int (0), .int (0), .int 0])), (q1, .inl (ca 0, 300, .inl (fun _ => 0))), (q2, .inl (ca 0, 300, .inl (fun _ => 0))), (q3, .inl (ca 0, 300, .inl (fun _ => 0))), (q4, .inl (ca 1, 300, .inl (fun _ => 0))), (q5, .inl (ca 0, 300, .inl (fun _ => 0))), (q6, .inl (ca 0, 300, .inl (fun _ => 0))), (q7, .inl (ca 0, 1803, .inl (fun _ => 0)))] ++ ([])) H := hP
  have hD : va_D A ([(h0, .inr (2, [.null, .null, .ref q1, .ref q2, .ref q3, .ref q4, .ref q5, .ref q6, .ref q7, .int (0), .int (0), .int ((-1)), .int (0), .int (0), .int 0])), (q1, .inl (ca 0, 300, .inl (fun _ => 0))), (q2, .inl (ca 0, 300, .inl (fun _ => 0))), (q3, .inl (ca 0, 300, .inl (fun _ => 0))), (q4, .inl (ca 1, 300, .inl (fun _ => 0))), (q5, .inl (ca 0, 300, .inl (fun _ => 0))), (q6, .inl (ca 0, 300, .inl (fun _ => 0))), (q7, .inl (ca 0, 1803, .inl (fun _ => 0)))] ++ ([])) := hD
  refine lv_aload_n hx hb dX2_init_92 rfl (lv_at hl 0 rfl) ?_
  refine lv_iconst hx hb dX2_init_93 (v := 0) rfl ?_
  refine va_put (D := D) (ci := 2) (v := .int (0)) (ty := .int) (C := RX2) (T := TX2) (N := 15) hx hb hts (fun w h => List.mem_cons_of_mem _ (List.mem_append_right _ h)) tyX2 tyX2_ok nmX2 hown hK hP hD hS 0 rfl rfl 14 (by decide) (hts (.fieldLink RX2 50 "ProofHouse$Evaluator" "stopped" "I") (List.mem_of_getElem? (i := 18) rfl)) (fun _ h9 => h9) rfl (tyX2_ok 14 (by decide)) rfl rfl (Nat.le_of_ble_eq_true rfl) dX2_init_94 ?_
  clear hP hD hS
  intro H locs hP hD hS
  have hP : va_P D vwCl ([(h0, .inr (2, [.null, .null, .ref q1, .ref q2, .ref q3, .ref q4, .ref q5, .ref q6, .ref q7, .int (0), .int (0), .int ((-1)), .int (0), .int (0), .int (0)])), (q1, .inl (ca 0, 300, .inl (fun _ => 0))), (q2, .inl (ca 0, 300, .inl (fun _ => 0))), (q3, .inl (ca 0, 300, .inl (fun _ => 0))), (q4, .inl (ca 1, 300, .inl (fun _ => 0))), (q5, .inl (ca 0, 300, .inl (fun _ => 0))), (q6, .inl (ca 0, 300, .inl (fun _ => 0))), (q7, .inl (ca 0, 1803, .inl (fun _ => 0)))] ++ ([])) H := hP
  have hD : va_D A ([(h0, .inr (2, [.null, .null, .ref q1, .ref q2, .ref q3, .ref q4, .ref q5, .ref q6, .ref q7, .int (0), .int (0), .int ((-1)), .int (0), .int (0), .int (0)])), (q1, .inl (ca 0, 300, .inl (fun _ => 0))), (q2, .inl (ca 0, 300, .inl (fun _ => 0))), (q3, .inl (ca 0, 300, .inl (fun _ => 0))), (q4, .inl (ca 1, 300, .inl (fun _ => 0))), (q5, .inl (ca 0, 300, .inl (fun _ => 0))), (q6, .inl (ca 0, 300, .inl (fun _ => 0))), (q7, .inl (ca 0, 1803, .inl (fun _ => 0)))] ++ ([])) := hD
  refine lv_aload_n hx hb dX2_init_97 rfl (lv_at hl 0 rfl) ?_
  refine lv_aload_n hx hb dX2_init_98 rfl (lv_at hl 1 rfl) ?_
  refine va_putF (D := D) (ci := 2) (v := .ref (r1)) (ty := .object "ProofHouse$Room") (C := RX2) (T := TX2) (N := 15) hx hb hts (fun w h => List.mem_cons_of_mem _ (List.mem_append_right _ h)) tyX2 tyX2_ok nmX2 hown hK hP hD hS 0 rfl rfl 0 (by decide) (hts (.fieldLink RX2 53 "ProofHouse$Evaluator" "room" "LProofHouse$Room;") (List.mem_of_getElem? (i := 19) rfl)) (fun _ h9 => h9) rfl hnm rfl (tyX2_ok 0 (by decide)) rfl rfl (Nat.le_of_ble_eq_true rfl) dX2_init_99 ?_
  clear hP hD hS
  intro H locs hP hD hS
  have hP : va_P D vwCl ([(h0, .inr (2, [.ref (r1), .null, .ref q1, .ref q2, .ref q3, .ref q4, .ref q5, .ref q6, .ref q7, .int (0), .int (0), .int ((-1)), .int (0), .int (0), .int (0)])), (q1, .inl (ca 0, 300, .inl (fun _ => 0))), (q2, .inl (ca 0, 300, .inl (fun _ => 0))), (q3, .inl (ca 0, 300, .inl (fun _ => 0))), (q4, .inl (ca 1, 300, .inl (fun _ => 0))), (q5, .inl (ca 0, 300, .inl (fun _ => 0))), (q6, .inl (ca 0, 300, .inl (fun _ => 0))), (q7, .inl (ca 0, 1803, .inl (fun _ => 0)))] ++ ([])) H := hP
  have hD : va_D A ([(h0, .inr (2, [.ref (r1), .null, .ref q1, .ref q2, .ref q3, .ref q4, .ref q5, .ref q6, .ref q7, .int (0), .int (0), .int ((-1)), .int (0), .int (0), .int (0)])), (q1, .inl (ca 0, 300, .inl (fun _ => 0))), (q2, .inl (ca 0, 300, .inl (fun _ => 0))), (q3, .inl (ca 0, 300, .inl (fun _ => 0))), (q4, .inl (ca 1, 300, .inl (fun _ => 0))), (q5, .inl (ca 0, 300, .inl (fun _ => 0))), (q6, .inl (ca 0, 300, .inl (fun _ => 0))), (q7, .inl (ca 0, 1803, .inl (fun _ => 0)))] ++ ([])) := hD
  refine lv_aload_n hx hb dX2_init_102 rfl (lv_at hl 0 rfl) ?_
  refine lv_aload_n hx hb dX2_init_103 rfl (lv_at hl 2 rfl) ?_
  refine va_putF (D := D) (ci := 2) (v := .ref (r2)) (ty := .object "ProofHouse$Book") (C := RX2) (T := TX2) (N := 15) hx hb hts (fun w h => List.mem_cons_of_mem _ (List.mem_append_right _ h)) tyX2 tyX2_ok nmX2 hown hK hP hD hS 0 rfl rfl 1 (by decide) (hts (.fieldLink RX2 57 "ProofHouse$Evaluator" "book" "LProofHouse$Book;") (List.mem_of_getElem? (i := 20) rfl)) (fun _ h9 => h9) rfl hnm rfl (tyX2_ok 1 (by decide)) rfl rfl (Nat.le_of_ble_eq_true rfl) dX2_init_104 ?_
  clear hP hD hS
  intro H locs hP hD hS
  have hP : va_P D vwCl ([(h0, .inr (2, [.ref (r1), .ref (r2), .ref q1, .ref q2, .ref q3, .ref q4, .ref q5, .ref q6, .ref q7, .int (0), .int (0), .int ((-1)), .int (0), .int (0), .int (0)])), (q1, .inl (ca 0, 300, .inl (fun _ => 0))), (q2, .inl (ca 0, 300, .inl (fun _ => 0))), (q3, .inl (ca 0, 300, .inl (fun _ => 0))), (q4, .inl (ca 1, 300, .inl (fun _ => 0))), (q5, .inl (ca 0, 300, .inl (fun _ => 0))), (q6, .inl (ca 0, 300, .inl (fun _ => 0))), (q7, .inl (ca 0, 1803, .inl (fun _ => 0)))] ++ ([])) H := hP
  have hD : va_D A ([(h0, .inr (2, [.ref (r1), .ref (r2), .ref q1, .ref q2, .ref q3, .ref q4, .ref q5, .ref q6, .ref q7, .int (0), .int (0), .int ((-1)), .int (0), .int (0), .int (0)])), (q1, .inl (ca 0, 300, .inl (fun _ => 0))), (q2, .inl (ca 0, 300, .inl (fun _ => 0))), (q3, .inl (ca 0, 300, .inl (fun _ => 0))), (q4, .inl (ca 1, 300, .inl (fun _ => 0))), (q5, .inl (ca 0, 300, .inl (fun _ => 0))), (q6, .inl (ca 0, 300, .inl (fun _ => 0))), (q7, .inl (ca 0, 1803, .inl (fun _ => 0)))] ++ ([])) := hD
  exact W.vret hx hb hr (fun t ht hW => ⟨⟨((fun k => ([q1, q2, q3, q4, q5, q6, q7] : List Nat).getD k 0), (fun k => ([] : List (Nat → Nat)).getD k (fun _ => 0)), ()), rfl, trivial, ⟨by rw [ht]; exact hP, va_K.moved hW.alike hK, hD⟩⟩, hS.F ht⟩) hS.2.2 dX2_init_107

def kW8 (ca : Nat → ClassId) (h0 : Nat) (r1 : Nat) (r2 : Nat) (r3 : Nat) (u : kU) : va_W := ([(h0, .inr (8, [.ref (r1), .ref (r2), .ref (r3), .ref (u.1 0), .ref (u.1 1), .int (0), .int (0), .ref (u.1 2), .int (0), .ref (u.1 3), .int ((-1))])), ((u.1 0), .inl (ca 0, 64, .inl (fun _ => 0))), ((u.1 1), .inl (ca 1, 64, .inl (fun _ => 0))), ((u.1 2), .inl (ca 0, 128, .inl (fun _ => 0))), ((u.1 3), .inl (ca 0, 6, .inl (fun _ => 0)))] ++ ([]))
set_option maxHeartbeats 4000000 in
set_option maxRecDepth 100000 in
/-- ProofHouse$Schemes() -/
theorem k_X8_init (l : Launch) (D : va_G) (ca : Nat → ClassId) (h0 sz : Nat) (r1 : Nat) (r2 : Nat) (r3 : Nat) : Met l yX8_init wsX8_init ({ frames := 1, cells := 4, slots := 262, locals := 12 }) (va_Pc [.ref (h0), .ref (r1), .ref (r2), .ref (r3)] (fun U => U.heap.size = sz ∧ va_P D vwCl [(h0, .inr (8, [.null, .null, .null, .null, .null, .int 0, .int 0, .null, .int 0, .null, .int 0]))] U.heap ∧ va_K D vwCl (yTy ca) U ∧ va_D (fun _ => True) [(h0, .inr (8, [.null, .null, .null, .null, .null, .int 0, .int 0, .null, .int 0, .null, .int 0]))])) (va_Qv (fun _ : kU => True) (fun u t => va_P D vwCl (kW8 ca h0 r1 r2 r3 u) t.heap ∧ va_K D vwCl (yTy ca) t ∧ va_D (va_A [(h0, .inr (8, [.null, .null, .null, .null, .null, .int 0, .int 0, .null, .int 0, .null, .int 0]))] sz) (kW8 ca h0 r1 r2 r3 u)) (va_A [(h0, .inr (8, [.null, .null, .null, .null, .null, .int 0, .int 0, .null, .int 0, .null, .int 0]))] sz)) 4 262 (va_A [(h0, .inr (8, [.null, .null, .null, .null, .null, .int 0, .int 0, .null, .int 0, .null, .int 0]))] sz) := by
  refine Met.ofW (cc := cX8_init) (maxL := 4) (ret := none) (by decide) rfl ?_
  intro p e s m args below meth c s₁ B hml hv
  obtain ⟨rfl, hsz, hP, hK, hD0⟩ := hv
  have hx := B.exec
  have hb := B.bytes
  have hr := B.returns
  have hts := atoms_spec (ws := wsX8_init) B.pre
  have hown : s.vm.findClass RX8 = some m.cls := findClass_of_methodNamed B.named
  have hnm : meth.name = "<init>" := (name_of_methodNamed B.named B.method).1
  subst hsz
  have hD := hD0.self (sz := s.heap.size)
  generalize hAe : va_A ([(h0, .inr (8, [.null, .null, .null, .null, .null, .int 0, .int 0, .null, .int 0, .null, .int 0]))]) s.heap.size = A at hD ⊢
  have hA : ∀ q : Nat, s.heap.size ≤ q → A q := fun q h => by rw [← hAe]; exact Or.inr h
  have hS : va_S A s.heap s.heap [] := va_S.rf
  have hl := lv_entry ([.ref (h0), .ref (r1), .ref (r2), .ref (r3)]) (n := 4) (Nat.le_of_ble_eq_true rfl)
  rw [lg_entry_eq]
  generalize (lg_sl ([.ref (h0), .ref (r1), .ref (r2), .ref (r3)]) ++ List.replicate (4 - (lg_sl ([.ref (h0), .ref (r1), .ref (r2), .ref (r3)])).length) Slot.unset).toArray = ls at hl ⊢
  have hl : lv_has ls 4 [(0, .ref (h0)), (1, .ref (r1)), (2, .ref (r2)), (3, .ref (r3))] := hl
  have hP : va_P D vwCl ([(h0, .inr (8, [.null, .null, .null, .null, .null, .int 0, .int 0, .null, .int 0, .null, .int 0]))] ++ ([])) s.heap := hP
  have hD : va_D A ([(h0, .inr (8, [.null, .null, .null, .null, .null, .int 0, .int 0, .null, .int 0, .null, .int 0]))] ++ ([])) := hD
  refine lv_aload_n hx hb dX8_init_0 rfl (lv_at hl 0 rfl) ?_
  refine W.objInit hx hb hown (hts (.methodLink RX8 3 objectInit) (List.mem_of_getElem? (i := 1) rfl)) (hts (.instanceMethod objectInit) (List.mem_of_getElem? (i := 2) rfl)) (hts (.code objectInit ⟨#[0xb1]⟩ 1 none) (List.mem_of_getElem? (i := 3) rfl)) rfl (by rw [hml]; exact hl.1) rfl dX8_init_1 (Nat.le_of_ble_eq_true rfl) (Nat.le_of_ble_eq_true rfl) ?_
  refine W.eq (g2 := F0 m 4 ls []) rfl ?_
  refine lv_aload_n hx hb dX8_init_4 rfl (lv_at hl 0 rfl) ?_
  refine lv_bipush hx hb dX8_init_5 (v := 64) rfl ?_
  refine kb_arr (C := RX8) (T := TX8) (N := 11) (ci := 8) (ty0 := tyX8) (atype := .int) (ty := .int) (a0 := (64, .inl (fun _ => 0))) (nw := 64) 0 hx hb hts (fun w h => List.mem_cons_of_mem _ (List.mem_append_right _ h)) tyX8_ok nmX8 hown hnm rfl hA hK hP hD hS (hts (.arrayClass .int) (List.mem_of_getElem? (i := 4) rfl)) rfl rfl (fun cA => ia_I cA _) (by decide) (by decide) (by decide) (Nat.le_of_ble_eq_true rfl) (Nat.le_of_ble_eq_true rfl) dX8_init_7 3 (by decide) (Nat.le_of_ble_eq_true rfl) (hts (.fieldLink RX8 11 "ProofHouse$Schemes" "ifs" "[I") (List.mem_of_getElem? (i := 5) rfl)) rfl rfl (tyX8_ok 3 (by decide)) dX8_init_9 ?_
  clear hP hD hS
  intro q1 H locs hP hD hS
  have hP : va_P D vwCl ([(h0, .inr (8, [.null, .null, .null, .ref q1, .null, .int 0, .int 0, .null, .int 0, .null, .int 0])), (q1, .inl (ca 0, 64, .inl (fun _ => 0)))] ++ ([])) H := hP
  have hD : va_D A ([(h0, .inr (8, [.null, .null, .null, .ref q1, .null, .int 0, .int 0, .null, .int 0, .null, .int 0])), (q1, .inl (ca 0, 64, .inl (fun _ => 0)))] ++ ([])) := hD
  refine lv_aload_n hx hb dX8_init_12 rfl (lv_at hl 0 rfl) ?_
  refine lv_bipush hx hb dX8_init_13 (v := 64) rfl ?_
  refine kb_arr (C := RX8) (T := TX8) (N := 11) (ci := 8) (ty0 := tyX8) (atype := .boolean) (ty := .boolean) (a0 := (64, .inl (fun _ => 0))) (nw := 64) 1 hx hb hts (fun w h => List.mem_cons_of_mem _ (List.mem_append_right _ h)) tyX8_ok nmX8 hown hnm rfl hA hK hP hD hS (hts (.arrayClass .boolean) (List.mem_of_getElem? (i := 6) rfl)) rfl rfl (fun cA => ia_Z cA _) (by decide) (by decide) (by decide) (Nat.le_of_ble_eq_true rfl) (Nat.le_of_ble_eq_true rfl) dX8_init_15 4 (by decide) (Nat.le_of_ble_eq_true rfl) (hts (.fieldLink RX8 15 "ProofHouse$Schemes" "third" "[Z") (List.mem_of_getElem? (i := 7) rfl)) rfl rfl (tyX8_ok 4 (by decide)) dX8_init_17 ?_
  clear hP hD hS
  intro q2 H locs hP hD hS
  have hP : va_P D vwCl ([(h0, .inr (8, [.null, .null, .null, .ref q1, .ref q2, .int 0, .int 0, .null, .int 0, .null, .int 0])), (q1, .inl (ca 0, 64, .inl (fun _ => 0))), (q2, .inl (ca 1, 64, .inl (fun _ => 0)))] ++ ([])) H := hP
  have hD : va_D A ([(h0, .inr (8, [.null, .null, .null, .ref q1, .ref q2, .int 0, .int 0, .null, .int 0, .null, .int 0])), (q1, .inl (ca 0, 64, .inl (fun _ => 0))), (q2, .inl (ca 1, 64, .inl (fun _ => 0)))] ++ ([])) := hD
  refine lv_aload_n hx hb dX8_init_20 rfl (lv_at hl 0 rfl) ?_
  refine lv_iconst hx hb dX8_init_21 (v := 0) rfl ?_
  refine va_put (D := D) (ci := 8) (v := .int (0)) (ty := .int) (C := RX8) (T := TX8) (N := 11) hx hb hts (fun w h => List.mem_cons_of_mem _ (List.mem_append_right _ h)) tyX8 tyX8_ok nmX8 hown hK hP hD hS 0 rfl rfl 5 (by decide) (hts (.fieldLink RX8 19 "ProofHouse$Schemes" "deep" "I") (List.mem_of_getElem? (i := 8) rfl)) (fun _ h9 => h9) rfl (tyX8_ok 5 (by decide)) rfl rfl (Nat.le_of_ble_eq_true rfl) dX8_init_22 ?_
  clear hP hD hS
  intro H locs hP hD hS
  have hP : va_P D vwCl ([(h0, .inr (8, [.null, .null, .null, .ref q1, .ref q2, .int (0), .int 0, .null, .int 0, .null, .int 0])), (q1, .inl (ca 0, 64, .inl (fun _ => 0))), (q2, .inl (ca 1, 64, .inl (fun _ => 0)))] ++ ([])) H := hP
  have hD : va_D A ([(h0, .inr (8, [.null, .null, .null, .ref q1, .ref q2, .int (0), .int 0, .null, .int 0, .null, .int 0])), (q1, .inl (ca 0, 64, .inl (fun _ => 0))), (q2, .inl (ca 1, 64, .inl (fun _ => 0)))] ++ ([])) := hD
  refine lv_aload_n hx hb dX8_init_25 rfl (lv_at hl 0 rfl) ?_
  refine lv_iconst hx hb dX8_init_26 (v := 0) rfl ?_
  refine va_put (D := D) (ci := 8) (v := .int (0)) (ty := .int) (C := RX8) (T := TX8) (N := 11) hx hb hts (fun w h => List.mem_cons_of_mem _ (List.mem_append_right _ h)) tyX8 tyX8_ok nmX8 hown hK hP hD hS 0 rfl rfl 6 (by decide) (hts (.fieldLink RX8 23 "ProofHouse$Schemes" "pathEnd" "I") (List.mem_of_getElem? (i := 9) rfl)) (fun _ h9 => h9) rfl (tyX8_ok 6 (by decide)) rfl rfl (Nat.le_of_ble_eq_true rfl) dX8_init_27 ?_
  clear hP hD hS
  intro H locs hP hD hS
  have hP : va_P D vwCl ([(h0, .inr (8, [.null, .null, .null, .ref q1, .ref q2, .int (0), .int (0), .null, .int 0, .null, .int 0])), (q1, .inl (ca 0, 64, .inl (fun _ => 0))), (q2, .inl (ca 1, 64, .inl (fun _ => 0)))] ++ ([])) H := hP
  have hD : va_D A ([(h0, .inr (8, [.null, .null, .null, .ref q1, .ref q2, .int (0), .int (0), .null, .int 0, .null, .int 0])), (q1, .inl (ca 0, 64, .inl (fun _ => 0))), (q2, .inl (ca 1, 64, .inl (fun _ => 0)))] ++ ([])) := hD
  refine lv_aload_n hx hb dX8_init_30 rfl (lv_at hl 0 rfl) ?_
  refine lv_sipush hx hb dX8_init_31 (v := 128) rfl ?_
  refine kb_arr (C := RX8) (T := TX8) (N := 11) (ci := 8) (ty0 := tyX8) (atype := .int) (ty := .int) (a0 := (128, .inl (fun _ => 0))) (nw := 128) 0 hx hb hts (fun w h => List.mem_cons_of_mem _ (List.mem_append_right _ h)) tyX8_ok nmX8 hown hnm rfl hA hK hP hD hS (hts (.arrayClass .int) (List.mem_of_getElem? (i := 4) rfl)) rfl rfl (fun cA => ia_I cA _) (by decide) (by decide) (by decide) (Nat.le_of_ble_eq_true rfl) (Nat.le_of_ble_eq_true rfl) dX8_init_34 7 (by decide) (Nat.le_of_ble_eq_true rfl) (hts (.fieldLink RX8 26 "ProofHouse$Schemes" "calls" "[I") (List.mem_of_getElem? (i := 10) rfl)) rfl rfl (tyX8_ok 7 (by decide)) dX8_init_36 ?_
  clear hP hD hS
  intro q3 H locs hP hD hS
  have hP : va_P D vwCl ([(h0, .inr (8, [.null, .null, .null, .ref q1, .ref q2, .int (0), .int (0), .ref q3, .int 0, .null, .int 0])), (q1, .inl (ca 0, 64, .inl (fun _ => 0))), (q2, .inl (ca 1, 64, .inl (fun _ => 0))), (q3, .inl (ca 0, 128, .inl (fun _ => 0)))] ++ ([])) H := hP
  have hD : va_D A ([(h0, .inr (8, [.null, .null, .null, .ref q1, .ref q2, .int (0), .int (0), .ref q3, .int 0, .null, .int 0])), (q1, .inl (ca 0, 64, .inl (fun _ => 0))), (q2, .inl (ca 1, 64, .inl (fun _ => 0))), (q3, .inl (ca 0, 128, .inl (fun _ => 0)))] ++ ([])) := hD
  refine lv_aload_n hx hb dX8_init_39 rfl (lv_at hl 0 rfl) ?_
  refine lv_iconst hx hb dX8_init_40 (v := 0) rfl ?_
  refine va_put (D := D) (ci := 8) (v := .int (0)) (ty := .int) (C := RX8) (T := TX8) (N := 11) hx hb hts (fun w h => List.mem_cons_of_mem _ (List.mem_append_right _ h)) tyX8 tyX8_ok nmX8 hown hK hP hD hS 0 rfl rfl 8 (by decide) (hts (.fieldLink RX8 29 "ProofHouse$Schemes" "callCount" "I") (List.mem_of_getElem? (i := 11) rfl)) (fun _ h9 => h9) rfl (tyX8_ok 8 (by decide)) rfl rfl (Nat.le_of_ble_eq_true rfl) dX8_init_41 ?_
  clear hP hD hS
  intro H locs hP hD hS
  have hP : va_P D vwCl ([(h0, .inr (8, [.null, .null, .null, .ref q1, .ref q2, .int (0), .int (0), .ref q3, .int (0), .null, .int 0])), (q1, .inl (ca 0, 64, .inl (fun _ => 0))), (q2, .inl (ca 1, 64, .inl (fun _ => 0))), (q3, .inl (ca 0, 128, .inl (fun _ => 0)))] ++ ([])) H := hP
  have hD : va_D A ([(h0, .inr (8, [.null, .null, .null, .ref q1, .ref q2, .int (0), .int (0), .ref q3, .int (0), .null, .int 0])), (q1, .inl (ca 0, 64, .inl (fun _ => 0))), (q2, .inl (ca 1, 64, .inl (fun _ => 0))), (q3, .inl (ca 0, 128, .inl (fun _ => 0)))] ++ ([])) := hD
  refine lv_aload_n hx hb dX8_init_44 rfl (lv_at hl 0 rfl) ?_
  refine lv_bipush hx hb dX8_init_45 (v := 6) rfl ?_
  refine kb_arr (C := RX8) (T := TX8) (N := 11) (ci := 8) (ty0 := tyX8) (atype := .int) (ty := .int) (a0 := (6, .inl (fun _ => 0))) (nw := 6) 0 hx hb hts (fun w h => List.mem_cons_of_mem _ (List.mem_append_right _ h)) tyX8_ok nmX8 hown hnm rfl hA hK hP hD hS (hts (.arrayClass .int) (List.mem_of_getElem? (i := 4) rfl)) rfl rfl (fun cA => ia_I cA _) (by decide) (by decide) (by decide) (Nat.le_of_ble_eq_true rfl) (Nat.le_of_ble_eq_true rfl) dX8_init_47 9 (by decide) (Nat.le_of_ble_eq_true rfl) (hts (.fieldLink RX8 32 "ProofHouse$Schemes" "filled" "[I") (List.mem_of_getElem? (i := 12) rfl)) rfl rfl (tyX8_ok 9 (by decide)) dX8_init_49 ?_
  clear hP hD hS
  intro q4 H locs hP hD hS
  have hP : va_P D vwCl ([(h0, .inr (8, [.null, .null, .null, .ref q1, .ref q2, .int (0), .int (0), .ref q3, .int (0), .ref q4, .int 0])), (q1, .inl (ca 0, 64, .inl (fun _ => 0))), (q2, .inl (ca 1, 64, .inl (fun _ => 0))), (q3, .inl (ca 0, 128, .inl (fun _ => 0))), (q4, .inl (ca 0, 6, .inl (fun _ => 0)))] ++ ([])) H := hP
  have hD : va_D A ([(h0, .inr (8, [.null, .null, .null, .ref q1, .ref q2, .int (0), .int (0), .ref q3, .int (0), .ref q4, .int 0])), (q1, .inl (ca 0, 64, .inl (fun _ => 0))), (q2, .inl (ca 1, 64, .inl (fun _ => 0))), (q3, .inl (ca 0, 128, .inl (fun _ => 0))), (q4, .inl (ca 0, 6, .inl (fun _ => 0)))] ++ ([])) := hD
  refine lv_aload_n hx hb dX8_init_52 rfl (lv_at hl 0 rfl) ?_
  refine lv_iconst hx hb dX8_init_53 (v := (-1)) rfl ?_
  refine va_put (D := D) (ci := 8) (v := .int ((-1))) (ty := .int) (C := RX8) (T := TX8) (N := 11) hx hb hts (fun w h => List.mem_cons_of_mem _ (List.mem_append_right _ h)) tyX8 tyX8_ok nmX8 hown hK hP hD hS 0 rfl rfl 10 (by decide) (hts (.fieldLink RX8 35 "ProofHouse$Schemes" "induction" "I") (List.mem_of_getElem? (i := 13) rfl)) (fun _ h9 => h9) rfl (tyX8_ok 10 (by decide)) rfl rfl (Nat.le_of_ble_eq_true rfl) dX8_init_54 ?_
  clear hP hD hS
  intro H locs hP hD hS
  have hP : va_P D vwCl ([(h0, .inr (8, [.null, .null, .null, .ref q1, .ref q2, .int (0), .int (0), .ref q3, .int (0), .ref q4, .int ((-1))])), (q1, .inl (ca 0, 64, .inl (fun _ => 0))), (q2, .inl (ca 1, 64, .inl (fun _ => 0))), (q3, .inl (ca 0, 128, .inl (fun _ => 0))), (q4, .inl (ca 0, 6, .inl (fun _ => 0)))] ++ ([])) H := hP
  have hD : va_D A ([(h0, .inr (8, [.null, .null, .null, .ref q1, .ref q2, .int (0), .int (0), .ref q3, .int (0), .ref q4, .int ((-1))])), (q1, .inl (ca 0, 64, .inl (fun _ => 0))), (q2, .inl (ca 1, 64, .inl (fun _ => 0))), (q3, .inl (ca 0, 128, .inl (fun _ => 0))), (q4, .inl (ca 0, 6, .inl (fun _ => 0)))] ++ ([])) := hD
  refine lv_aload_n hx hb dX8_init_57 rfl (lv_at hl 0 rfl) ?_
  refine lv_aload_n hx hb dX8_init_58 rfl (lv_at hl 1 rfl) ?_
  refine va_putF (D := D) (ci := 8) (v := .ref (r1)) (ty := .object "ProofHouse$Room") (C := RX8) (T := TX8) (N := 11) hx hb hts (fun w h => List.mem_cons_of_mem _ (List.mem_append_right _ h)) tyX8 tyX8_ok nmX8 hown hK hP hD hS 0 rfl rfl 0 (by decide) (hts (.fieldLink RX8 38 "ProofHouse$Schemes" "room" "LProofHouse$Room;") (List.mem_of_getElem? (i := 14) rfl)) (fun _ h9 => h9) rfl hnm rfl (tyX8_ok 0 (by decide)) rfl rfl (Nat.le_of_ble_eq_true rfl) dX8_init_59 ?_
  clear hP hD hS
  intro H locs hP hD hS
  have hP : va_P D vwCl ([(h0, .inr (8, [.ref (r1), .null, .null, .ref q1, .ref q2, .int (0), .int (0), .ref q3, .int (0), .ref q4, .int ((-1))])), (q1, .inl (ca 0, 64, .inl (fun _ => 0))), (q2, .inl (ca 1, 64, .inl (fun _ => 0))), (q3, .inl (ca 0, 128, .inl (fun _ => 0))), (q4, .inl (ca 0, 6, .inl (fun _ => 0)))] ++ ([])) H := hP
  have hD : va_D A ([(h0, .inr (8, [.ref (r1), .null, .null, .ref q1, .ref q2, .int (0), .int (0), .ref q3, .int (0), .ref q4, .int ((-1))])), (q1, .inl (ca 0, 64, .inl (fun _ => 0))), (q2, .inl (ca 1, 64, .inl (fun _ => 0))), (q3, .inl (ca 0, 128, .inl (fun _ => 0))), (q4, .inl (ca 0, 6, .inl (fun _ => 0)))] ++ ([])) := hD
  refine lv_aload_n hx hb dX8_init_62 rfl (lv_at hl 0 rfl) ?_
  refine lv_aload_n hx hb dX8_init_63 rfl (lv_at hl 2 rfl) ?_
  refine va_putF (D := D) (ci := 8) (v := .ref (r2)) (ty := .object "ProofHouse$Book") (C := RX8) (T := TX8) (N := 11) hx hb hts (fun w h => List.mem_cons_of_mem _ (List.mem_append_right _ h)) tyX8 tyX8_ok nmX8 hown hK hP hD hS 0 rfl rfl 1 (by decide) (hts (.fieldLink RX8 42 "ProofHouse$Schemes" "book" "LProofHouse$Book;") (List.mem_of_getElem? (i := 15) rfl)) (fun _ h9 => h9) rfl hnm rfl (tyX8_ok 1 (by decide)) rfl rfl (Nat.le_of_ble_eq_true rfl) dX8_init_64 ?_
  clear hP hD hS
  intro H locs hP hD hS
  have hP : va_P D vwCl ([(h0, .inr (8, [.ref (r1), .ref (r2), .null, .ref q1, .ref q2, .int (0), .int (0), .ref q3, .int (0), .ref q4, .int ((-1))])), (q1, .inl (ca 0, 64, .inl (fun _ => 0))), (q2, .inl (ca 1, 64, .inl (fun _ => 0))), (q3, .inl (ca 0, 128, .inl (fun _ => 0))), (q4, .inl (ca 0, 6, .inl (fun _ => 0)))] ++ ([])) H := hP
  have hD : va_D A ([(h0, .inr (8, [.ref (r1), .ref (r2), .null, .ref q1, .ref q2, .int (0), .int (0), .ref q3, .int (0), .ref q4, .int ((-1))])), (q1, .inl (ca 0, 64, .inl (fun _ => 0))), (q2, .inl (ca 1, 64, .inl (fun _ => 0))), (q3, .inl (ca 0, 128, .inl (fun _ => 0))), (q4, .inl (ca 0, 6, .inl (fun _ => 0)))] ++ ([])) := hD
  refine lv_aload_n hx hb dX8_init_67 rfl (lv_at hl 0 rfl) ?_
  refine lv_aload_n hx hb dX8_init_68 rfl (lv_at hl 3 rfl) ?_
  refine va_putF (D := D) (ci := 8) (v := .ref (r3)) (ty := .object "ProofHouse$Terms") (C := RX8) (T := TX8) (N := 11) hx hb hts (fun w h => List.mem_cons_of_mem _ (List.mem_append_right _ h)) tyX8 tyX8_ok nmX8 hown hK hP hD hS 0 rfl rfl 2 (by decide) (hts (.fieldLink RX8 46 "ProofHouse$Schemes" "terms" "LProofHouse$Terms;") (List.mem_of_getElem? (i := 16) rfl)) (fun _ h9 => h9) rfl hnm rfl (tyX8_ok 2 (by decide)) rfl rfl (Nat.le_of_ble_eq_true rfl) dX8_init_69 ?_
  clear hP hD hS
  intro H locs hP hD hS
  have hP : va_P D vwCl ([(h0, .inr (8, [.ref (r1), .ref (r2), .ref (r3), .ref q1, .ref q2, .int (0), .int (0), .ref q3, .int (0), .ref q4, .int ((-1))])), (q1, .inl (ca 0, 64, .inl (fun _ => 0))), (q2, .inl (ca 1, 64, .inl (fun _ => 0))), (q3, .inl (ca 0, 128, .inl (fun _ => 0))), (q4, .inl (ca 0, 6, .inl (fun _ => 0)))] ++ ([])) H := hP
  have hD : va_D A ([(h0, .inr (8, [.ref (r1), .ref (r2), .ref (r3), .ref q1, .ref q2, .int (0), .int (0), .ref q3, .int (0), .ref q4, .int ((-1))])), (q1, .inl (ca 0, 64, .inl (fun _ => 0))), (q2, .inl (ca 1, 64, .inl (fun _ => 0))), (q3, .inl (ca 0, 128, .inl (fun _ => 0))), (q4, .inl (ca 0, 6, .inl (fun _ => 0)))] ++ ([])) := hD
  exact W.vret hx hb hr (fun t ht hW => ⟨⟨((fun k => ([q1, q2, q3, q4] : List Nat).getD k 0), (fun k => ([] : List (Nat → Nat)).getD k (fun _ => 0)), ()), rfl, trivial, ⟨by rw [ht]; exact hP, va_K.moved hW.alike hK, hD⟩⟩, hS.F ht⟩) hS.2.2 dX8_init_72
