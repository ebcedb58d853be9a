/-! the words that the class's methods need -/
def ysF : List Cond := [.fieldLink RX0 27 "ProofHouse$Book" "functions" "I", .fieldLink RX0 9 "ProofHouse$Book" "functionNames" "[I", .fieldLink RX0 64 "ProofHouse$Book" "theorems" "I", .fieldLink RX0 31 "ProofHouse$Book" "theoremNames" "[I", .fieldLink RX0 18 "ProofHouse$Book" "arities" "[I", .fieldLink RX0 37 "ProofHouse$Book" "lefts" "[I", .fieldLink RX0 58 "ProofHouse$Book" "on" "[Z", .fieldLink RX0 61 "ProofHouse$Book" "muted" "[Z", .fieldLink RX0 51 "ProofHouse$Book" "truthAlone" "[Z", .fieldLink RX0 15 "ProofHouse$Book" "parameters" "[I", .fieldLink RX0 21 "ProofHouse$Book" "bodies" "[I", .fieldLink RX0 24 "ProofHouse$Book" "measures" "[I", .fieldLink RX0 34 "ProofHouse$Book" "formulas" "[I", .fieldLink RX0 73 "ProofHouse$Book" "entries" "I", .fieldLink RX0 67 "ProofHouse$Book" "kinds" "[I", .fieldLink RX0 70 "ProofHouse$Book" "marks" "[I", .fieldLink RX0 76 "ProofHouse$Book" "kept" "I", .fieldLink RX1 15 "ProofHouse$Clause" "length" "I", .fieldLink RX1 19 "ProofHouse$Clause" "weight" "I", .fieldLink RX1 22 "ProofHouse$Clause" "rounds" "I", .fieldLink RX1 11 "ProofHouse$Clause" "literals" "[I", .fieldLink RX2 34 "ProofHouse$Evaluator" "depth" "I", .fieldLink RX2 38 "ProofHouse$Evaluator" "held" "I", .fieldLink RX2 41 "ProofHouse$Evaluator" "owner" "I", .fieldLink RX2 44 "ProofHouse$Evaluator" "floor" "I", .fieldLink RX2 47 "ProofHouse$Evaluator" "stepsLeft" "I", .fieldLink RX2 50 "ProofHouse$Evaluator" "stopped" "I", .fieldLink RX2 53 "ProofHouse$Evaluator" "room" "LProofHouse$Room;", .fieldLink RX2 31 "ProofHouse$Evaluator" "values" "[I", .fieldLink RX2 18 "ProofHouse$Evaluator" "bases" "[I", .fieldLink RX2 11 "ProofHouse$Evaluator" "names" "[I", .fieldLink RX2 21 "ProofHouse$Evaluator" "inBody" "[Z", .fieldLink RX2 15 "ProofHouse$Evaluator" "rests" "[I", .fieldLink RX2 25 "ProofHouse$Evaluator" "outerOwners" "[I", .fieldLink RX2 28 "ProofHouse$Evaluator" "outerFloors" "[I", .fieldLink RX2 57 "ProofHouse$Evaluator" "book" "LProofHouse$Book;", .fieldLink RX3 16 "ProofHouse$Proofs" "depth" "I", .fieldLink RX3 26 "ProofHouse$Proofs" "held" "I", .fieldLink RX3 34 "ProofHouse$Proofs" "wrong" "I", .fieldLink RX3 37 "ProofHouse$Proofs" "room" "LProofHouse$Room;", .fieldLink RX3 13 "ProofHouse$Proofs" "frames" "[[I", .fieldLink RX3 45 "ProofHouse$Proofs" "terms" "LProofHouse$Terms;", .fieldLink RX3 41 "ProofHouse$Proofs" "book" "LProofHouse$Book;", .fieldLink RX3 49 "ProofHouse$Proofs" "evaluator" "LProofHouse$Evaluator;", .fieldLink RX3 53 "ProofHouse$Proofs" "schemes" "LProofHouse$Schemes;", .fieldLink RX3 22 "ProofHouse$Proofs" "clauses" "[LProofHouse$Clause;", .fieldLink RX3 30 "ProofHouse$Proofs" "wanted" "LProofHouse$Clause;", .fieldLink RX4 17 "ProofHouse$Prover" "givenCount" "I", .fieldLink RX4 30 "ProofHouse$Prover" "leftCount" "I", .fieldLink RX4 42 "ProofHouse$Prover" "room" "LProofHouse$Room;", .fieldLink RX4 34 "ProofHouse$Prover" "spare" "LProofHouse$Clause;", .fieldLink RX4 13 "ProofHouse$Prover" "given" "[LProofHouse$Clause;", .fieldLink RX4 38 "ProofHouse$Prover" "checking" "Z", .fieldLink RX4 21 "ProofHouse$Prover" "waiting" "[LProofHouse$Clause;", .fieldLink RX4 24 "ProofHouse$Prover" "waitingCount" "I", .fieldLink RX4 27 "ProofHouse$Prover" "left" "[LProofHouse$Clause;", .fieldLink RX4 46 "ProofHouse$Prover" "terms" "LProofHouse$Terms;", .fieldLink RX4 50 "ProofHouse$Prover" "rewriter" "LProofHouse$Rewriter;", .fieldLink RX5 24 "ProofHouse$Reader" "depth" "I", .fieldLink RX5 28 "ProofHouse$Reader" "held" "I", .fieldLink RX5 31 "ProofHouse$Reader" "words" "I", .fieldLink RX5 34 "ProofHouse$Reader" "whole" "I", .fieldLink RX5 37 "ProofHouse$Reader" "flaw" "I", .fieldLink RX5 40 "ProofHouse$Reader" "place" "I", .fieldLink RX5 11 "ProofHouse$Reader" "phases" "[I", .fieldLink RX5 43 "ProofHouse$Reader" "room" "LProofHouse$Room;", .fieldLink RX5 18 "ProofHouse$Reader" "tails" "[I", .fieldLink RX5 15 "ProofHouse$Reader" "bases" "[I", .fieldLink RX5 21 "ProofHouse$Reader" "items" "[I", .fieldLink RX6 29 "ProofHouse$Rewriter" "noted" "I", .fieldLink RX6 43 "ProofHouse$Rewriter" "book" "LProofHouse$Book;", .fieldLink RX6 23 "ProofHouse$Rewriter" "horizon" "I", .fieldLink RX6 16 "ProofHouse$Rewriter" "depth" "I", .fieldLink RX6 20 "ProofHouse$Rewriter" "answer" "I", .fieldLink RX6 39 "ProofHouse$Rewriter" "room" "LProofHouse$Room;", .fieldLink RX6 13 "ProofHouse$Rewriter" "frames" "[[I", .fieldLink RX6 32 "ProofHouse$Rewriter" "checking" "Z", .fieldLink RX6 26 "ProofHouse$Rewriter" "notes" "[[I", .fieldLink RX6 36 "ProofHouse$Rewriter" "nextNote" "I", .fieldLink RX6 47 "ProofHouse$Rewriter" "terms" "LProofHouse$Terms;", .fieldLink RX6 51 "ProofHouse$Rewriter" "evaluator" "LProofHouse$Evaluator;", .fieldLink RX6 60 "ProofHouse$Rewriter" "mine" "LProofHouse$Scribe;", .fieldLink RX6 64 "ProofHouse$Rewriter" "other" "LProofHouse$Scribe;", .fieldLink RX7 34 "ProofHouse$Room" "given" "I", .fieldLink RX7 37 "ProofHouse$Room" "spent" "I", .fieldLink RX7 40 "ProofHouse$Room" "trouble" "I", .fieldLink RX7 27 "ProofHouse$Room" "heads" "[I", .fieldLink RX7 12 "ProofHouse$Room" "cells" "[J", .fieldLink RX7 16 "ProofHouse$Room" "chain" "[I", .fieldLink RX7 30 "ProofHouse$Room" "used" "I", .fieldLink RX7 20 "ProofHouse$Room" "sums" "[I", .fieldLink RX7 23 "ProofHouse$Room" "heights" "[I", .fieldLink RX8 19 "ProofHouse$Schemes" "deep" "I", .fieldLink RX8 15 "ProofHouse$Schemes" "third" "[Z", .fieldLink RX8 38 "ProofHouse$Schemes" "room" "LProofHouse$Room;", .fieldLink RX8 11 "ProofHouse$Schemes" "ifs" "[I", .fieldLink RX8 23 "ProofHouse$Schemes" "pathEnd" "I", .fieldLink RX8 46 "ProofHouse$Schemes" "terms" "LProofHouse$Terms;", .fieldLink RX8 29 "ProofHouse$Schemes" "callCount" "I", .fieldLink RX8 26 "ProofHouse$Schemes" "calls" "[I", .fieldLink RX8 42 "ProofHouse$Schemes" "book" "LProofHouse$Book;", .fieldLink RX8 32 "ProofHouse$Schemes" "filled" "[I", .fieldLink RX8 35 "ProofHouse$Schemes" "induction" "I", .fieldLink RX9 9 "ProofHouse$Scribe" "length" "I", .fieldLink RX9 25 "ProofHouse$Scribe" "letters" "[C", .fieldLink RX9 15 "ProofHouse$Scribe" "room" "LProofHouse$Room;", .fieldLink RX9 29 "ProofHouse$Scribe" "rests" "[I", .fieldLink RX10 43 "ProofHouse$Terms" "values" "[I", .fieldLink RX10 34 "ProofHouse$Terms" "names" "[I", .fieldLink RX10 55 "ProofHouse$Terms" "room" "LProofHouse$Room;", .fieldLink RX10 37 "ProofHouse$Terms" "rests" "[I", .fieldLink RX10 40 "ProofHouse$Terms" "bases" "[I", .fieldLink RX10 28 "ProofHouse$Terms" "replaced" "I", .fieldLink RX10 31 "ProofHouse$Terms" "replacement" "I", .fieldLink RX10 9 "ProofHouse$Terms" "ownName" "I", .fieldLink RX10 15 "ProofHouse$Terms" "ownArity" "I", .fieldLink RX10 59 "ProofHouse$Terms" "book" "LProofHouse$Book;", .fieldLink RX10 25 "ProofHouse$Terms" "bound" "I", .fieldLink RX10 18 "ProofHouse$Terms" "variables" "[I", .fieldLink RX10 22 "ProofHouse$Terms" "meanings" "[I", .fieldLink RX10 46 "ProofHouse$Terms" "waiting" "[I", .fieldLink RX10 49 "ProofHouse$Terms" "targets" "[I", .fieldLink RX10 52 "ProofHouse$Terms" "parts" "[I", .fieldLink RX11 108 "ProofHouse" "waiting" "[I", .fieldLink RX11 105 "ProofHouse" "textLength" "I", .fieldLink RX11 101 "ProofHouse" "text" "[C", .fieldLink RX11 112 "ProofHouse" "fuelSet" "I", .fieldLink RX11 36 "ProofHouse" "reader" "LProofHouse$Reader;", .fieldLink RX11 14 "ProofHouse" "room" "LProofHouse$Room;", .fieldLink RX11 88 "ProofHouse" "prover" "LProofHouse$Prover;", .fieldLink RX11 97 "ProofHouse" "proofs" "LProofHouse$Proofs;", .fieldLink RX11 127 "ProofHouse" "stepsMade" "I", .fieldLink RX11 130 "ProofHouse" "workFault" "I", .fieldLink RX11 27 "ProofHouse" "book" "LProofHouse$Book;", .fieldLink RX11 45 "ProofHouse" "out" "LProofHouse$Scribe;", .fieldLink RX11 133 "ProofHouse" "proved" "Z", .fieldLink RX11 70 "ProofHouse" "rewriter" "LProofHouse$Rewriter;", .fieldLink RX11 115 "ProofHouse" "name" "I", .fieldLink RX11 118 "ProofHouse" "subject" "I", .fieldLink RX11 121 "ProofHouse" "measure" "I", .fieldLink RX11 124 "ProofHouse" "hints" "I", .fieldLink RX11 79 "ProofHouse" "schemes" "LProofHouse$Schemes;", .fieldLink RX11 54 "ProofHouse" "terms" "LProofHouse$Terms;", .fieldLink RX11 61 "ProofHouse" "evaluator" "LProofHouse$Evaluator;", .fieldLink RX0 79 "ProofHouse$Book" "BASE_ARITIES" "[I", .fieldLink RX3 96 "ProofHouse$Proofs" "LENGTHS" "[I", .fieldLink RX3 100 "ProofHouse$Proofs" "PART_COUNTS" "[I", .fieldLink RX3 103 "ProofHouse$Proofs" "FIRST_PARTS" "[I", .fieldLink RX3 106 "ProofHouse$Proofs" "TERM_COUNTS" "[I"]
def ysK : List Cond := [.constant RX2 61 (1000000), .constant RX3 61 (1000000), .constant RX4 70 (1000000), .constant RX6 76 (1000000), .constant RX7 11 (160000), .constant RX7 77 (2147483647), .constant RX7 78 (1000000), .constant RX8 64 (1000000), .constant RX10 63 (1000000), .constant RX11 249 (1000000), .constantLong RX2 134 (4611686018427387903), .constantLong RX5 79 (-1), .constantLong RX5 99 (4611686018427387903), .constantLong RX5 101 (10), .constantLong RX5 103 (47), .constantLong RX5 105 (4611686018427387904), .constantLong RX7 75 (-7046029254386353131), .constantLong RX7 69 (4611686018427387904), .constantLong RX9 61 (4611686018427387904), .constantLong RX9 63 (4611686018427387903), .constantLong RX11 3 (-9223372036854775808)]
def ysI : List Cond := [.initialized RX0, .initialized RX1, .initialized RX2, .initialized RX3, .initialized RX4, .initialized RX5, .initialized RX6, .initialized RX7, .initialized RX8, .initialized RX9, .initialized RX10, .initialized RX11, .initialized "java/lang/Math"]
def ysL : List Cond := [.methodLink RX2 62 yX7_isCall, .methodLink RX2 68 yX2_begin, .methodLink RX2 72 yX7_isVariable, .methodLink RX2 75 yX2_parameterValue, .methodLink RX2 79 yX7_valueOf, .methodLink RX2 82 yX2_hold, .methodLink RX2 85 yX2_isReady, .methodLink RX2 88 yX2_baseValue, .methodLink RX2 92 yX2_close, .methodLink RX2 95 yX2_goOn, .methodLink RX2 98 yX7_isPair, .methodLink RX2 101 yX7_step, .methodLink RX2 105 yX7_left, .methodLink RX2 108 yX7_right, .methodLink RX2 116 yX0_functionOf, .methodLink RX2 126 yX7_made, .methodLink RX2 130 yX7_numberOf, .methodLink RX2 136 yX7_isNatural, .methodLink RX2 139 yX7_isSymbol, .methodLink RX2 142 yX7_heightOf, .methodLink RX3 57 yX3_open, .methodLink RX3 67 yX7_item, .methodLink RX3 71 yX3_conclude, .methodLink RX3 75 yX7_blame, .methodLink RX3 78 yX7_step, .methodLink RX3 82 yX3_isFormed, .methodLink RX3 86 yX3_isWholeFormed, .methodLink RX3 89 yX7_left, .methodLink RX3 93 yX7_lengthOf, .methodLink RX3 109 yX3_termAt, .methodLink RX3 112 yX10_rebuilt, .methodLink RX3 117 yX3_valueAt, .methodLink RX3 120 yX0_functionOf, .methodLink RX3 125 yX0_theoremOf, .methodLink RX3 128 yX3_isListOfTerms, .methodLink RX3 131 yX7_right, .methodLink RX3 134 yX10_bindPairs, .methodLink RX3 137 yX3_isInduction, .methodLink RX3 140 yX7_isCall, .methodLink RX3 143 yX10_isOfConstants, .methodLink RX3 146 yX7_valueOf, .methodLink RX3 149 yX2_baseValue, .methodLink RX3 155 yX7_isPair, .methodLink RX3 158 yX8_inductionAsked, .methodLink RX3 166 yX8_countPaths, .methodLink RX3 169 yX1_clear, .methodLink RX3 172 yX3_concludeAlone, .methodLink RX3 176 yX3_isInduced, .methodLink RX3 180 yX3_concludeOfParts, .methodLink RX3 183 yX10_join, .methodLink RX3 186 yX10_negated, .methodLink RX3 189 yX3_joinEqual, .methodLink RX3 193 yX7_constantOf, .methodLink RX3 196 yX3_definedCall, .methodLink RX3 202 yX10_call, .methodLink RX3 205 yX3_concludePair, .methodLink RX3 219 yX7_made, .methodLink RX3 223 yX3_concludeWeak, .methodLink RX3 227 yX3_isCut, .methodLink RX3 231 yX3_joinRebuilt, .methodLink RX3 240 yX7_isCallOf, .methodLink RX3 250 yX3_joinAllBut, .methodLink RX3 253 yX1_copy, .methodLink RX3 257 yX10_isNegation, .methodLink RX3 260 yX1_placeOf, .methodLink RX3 263 yX8_goToPath, .methodLink RX3 266 yX8_addRulers, .methodLink RX3 269 yX8_addInductionHypotheses, .methodLink RX3 272 yX3_isWithin, .methodLink RX4 54 yX7_blame, .methodLink RX4 60 yX1_clear, .methodLink RX4 66 yX1_copy, .methodLink RX4 71 yX4_isPlain, .methodLink RX4 78 yX4_leave, .methodLink RX4 81 yX4_makeRound, .methodLink RX4 91 yX7_isConstant, .methodLink RX4 95 yX10_isNegation, .methodLink RX4 101 yX4_rowOfOthers, .methodLink RX4 105 yX6_recalled, .methodLink RX4 111 yX6_rewritten, .methodLink RX4 114 yX7_isCallOf, .methodLink RX4 117 yX7_item, .methodLink RX4 121 yX4_split, .methodLink RX4 125 yX4_stands, .methodLink RX4 129 yX1_isTooBig, .methodLink RX4 133 yX10_negated, .methodLink RX4 141 yX7_made, .methodLink RX4 145 yX7_sizeOf, .methodLink RX4 148 yX1_remove, .methodLink RX4 152 yX1_placeOf, .methodLink RX4 155 yX1_insert, .methodLink RX4 159 yX4_fillSplit, .methodLink RX4 163 yX10_join, .methodLink RX4 167 yX4_listOf, .methodLink RX4 171 yX6_isAllRecalled, .methodLink RX5 47 yX5_lineEnd, .methodLink RX5 51 yX5_takeWord, .methodLink RX5 60 yX5_refuse, .methodLink RX5 72 yX5_atomEnd, .methodLink RX5 75 yX5_atomCell, .methodLink RX5 81 yX5_canStand, .methodLink RX5 85 yX7_made, .methodLink RX5 91 yX5_deliver, .methodLink RX5 95 yX5_takeMark, .methodLink RX6 72 yX6_ask, .methodLink RX6 82 yX6_start, .methodLink RX6 86 yX6_goOnWithTest, .methodLink RX6 89 yX6_goOnWithThen, .methodLink RX6 92 yX6_choice, .methodLink RX6 96 yX6_finish, .methodLink RX6 100 yX6_goOnWithNegation, .methodLink RX6 103 yX6_gather, .methodLink RX6 106 yX6_compute, .methodLink RX6 109 yX7_item, .methodLink RX6 113 yX6_reduceEqual, .methodLink RX6 117 yX6_reduceLess, .methodLink RX6 120 yX7_left, .methodLink RX6 124 yX6_reduceOther, .methodLink RX6 127 yX6_lookUp, .methodLink RX6 130 yX6_seek, .methodLink RX6 133 yX6_compare, .methodLink RX6 136 yX6_apply, .methodLink RX6 139 yX6_judge, .methodLink RX6 142 yX6_unfold, .methodLink RX6 145 yX6_chooseBranch, .methodLink RX6 148 yX6_recalled, .methodLink RX6 152 yX7_blame, .methodLink RX6 155 yX7_step, .methodLink RX6 165 yX7_isConstant, .methodLink RX6 169 yX7_isCall, .methodLink RX6 172 yX6_lookedUp, .methodLink RX6 175 yX7_isCallOf, .methodLink RX6 179 yX10_call, .methodLink RX6 184 yX6_askInstead, .methodLink RX6 188 yX7_right, .methodLink RX6 195 yX7_made, .methodLink RX6 199 yX10_negated, .methodLink RX6 202 yX10_isBoolean, .methodLink RX6 205 yX7_isPair, .methodLink RX6 213 yX7_sizeOf, .methodLink RX6 216 yX10_isOfConstants, .methodLink RX6 219 yX7_valueOf, .methodLink RX6 222 yX2_baseValue, .methodLink RX6 227 yX2_evaluated, .methodLink RX6 230 yX7_constantOf, .methodLink RX6 233 yX7_isNatural, .methodLink RX6 236 yX7_numberOf, .methodLink RX6 240 yX0_canLook, .methodLink RX6 247 yX10_matches, .methodLink RX6 254 yX9_clear, .methodLink RX6 260 yX10_rebuilt, .methodLink RX6 263 yX9_write, .methodLink RX6 279 yX0_functionOf, .methodLink RX6 291 yX10_bindRow, .methodLink RX6 295 yX6_rewritten, .methodLink RX6 301 yX6_addHypotheses, .methodLink RX6 307 yX6_isRule, .methodLink RX6 311 yX10_isBoundToVariables, .methodLink RX6 320 yX10_bindVariablesOf, .methodLink RX6 323 yX10_hasBound, .methodLink RX7 88 yX7_isNatural, .methodLink RX7 71 yX7_made, .methodLink RX8 50 yX7_item, .methodLink RX8 56 yX7_isCallOf, .methodLink RX8 60 yX8_goToPath, .methodLink RX8 65 yX10_listParts, .methodLink RX8 74 yX10_hasCallOf, .methodLink RX8 77 yX8_listCalls, .methodLink RX8 81 yX7_right, .methodLink RX8 84 yX7_isPair, .methodLink RX8 87 yX7_left, .methodLink RX8 90 yX10_bindRow, .methodLink RX8 97 yX10_rebuilt, .methodLink RX8 100 yX10_negated, .methodLink RX8 103 yX10_join, .methodLink RX8 107 yX4_newClause, .methodLink RX8 113 yX8_addRulers, .methodLink RX8 117 yX10_call, .methodLink RX8 132 yX10_unbind, .methodLink RX8 135 yX10_bind, .methodLink RX8 138 yX0_theoremOf, .methodLink RX8 144 yX10_bindPairs, .methodLink RX8 154 yX1_clear, .methodLink RX8 159 yX8_addUses, .methodLink RX8 162 yX0_functionOf, .methodLink RX8 165 yX1_copy, .methodLink RX8 172 yX8_addInductionHypotheses, .methodLink RX8 176 yX7_lengthOf, .methodLink RX8 179 yX8_inductionAsked, .methodLink RX8 182 yX8_useAsked, .methodLink RX8 185 yX8_offAsked, .methodLink RX8 193 yX7_isName, .methodLink RX8 196 yX10_hasBound, .methodLink RX8 199 yX10_areDifferentVariables, .methodLink RX9 33 yX7_isQuoted, .methodLink RX9 39 yX9_put, .methodLink RX9 43 yX7_right, .methodLink RX9 47 yX7_left, .methodLink RX9 50 yX7_isPair, .methodLink RX9 53 yX7_cellOf, .methodLink RX9 57 yX9_putAtom, .methodLink RX10 64 yX10_readMeaning, .methodLink RX10 68 yX10_meaningOf, .methodLink RX10 72 yX7_left, .methodLink RX10 77 yX7_right, .methodLink RX10 80 yX7_isPair, .methodLink RX10 88 yX7_made, .methodLink RX10 92 yX10_isTooBig, .methodLink RX10 96 yX7_sizeOf, .methodLink RX10 99 yX7_blame, .methodLink RX10 103 yX7_isCall, .methodLink RX10 106 yX7_isVariable, .methodLink RX10 109 yX10_standsFor, .methodLink RX10 112 yX7_valueOf, .methodLink RX10 115 yX7_isNatural, .methodLink RX10 118 yX7_isQuoted, .methodLink RX10 121 yX0_arityOf, .methodLink RX10 126 yX7_lengthOf, .methodLink RX10 129 yX10_bind, .methodLink RX10 133 yX7_item, .methodLink RX10 136 yX10_rebuilt, .methodLink RX10 139 yX7_isCallOf, .methodLink RX10 142 yX7_isConstant, .methodLink RX10 145 yX10_call, .methodLink RX10 149 yX10_listParts, .methodLink RX10 157 yX1_insert, .methodLink RX11 143 yX11_forgetLatest, .methodLink RX11 146 yX5_read, .methodLink RX11 153 yX11_asked, .methodLink RX11 160 yX7_begin, .methodLink RX11 163 yX11_prepare, .methodLink RX11 166 yX4_prove, .methodLink RX11 170 yX7_left, .methodLink RX11 173 yX7_item, .methodLink RX11 177 yX3_goThrough, .methodLink RX11 183 yX11_conclude, .methodLink RX11 195 yX0_rules, .methodLink RX11 214 yX0_placeOf, .methodLink RX11 220 yX11_pairCell, .methodLink RX11 224 yX7_made, .methodLink RX11 243 yX9_clear, .methodLink RX11 246 yX9_write, .methodLink RX11 250 yX6_doNotesHold, .methodLink RX11 254 yX4_isAllProved, .methodLink RX11 260 yX7_forget, .methodLink RX11 263 yX0_muteNone, .methodLink RX11 266 yX4_begin, .methodLink RX11 268 yX11_isAsTold, .methodLink RX11 272 yX8_hintsAsked, .methodLink RX11 275 yX11_nameAsked, .methodLink RX11 278 yX7_lengthOf, .methodLink RX11 281 yX11_isTermAt, .methodLink RX11 285 yX10_hasVariablesOf, .methodLink RX11 288 yX7_right, .methodLink RX11 291 yX11_isNameAt, .methodLink RX11 294 yX11_isDefinition, .methodLink RX11 298 yX7_isName, .methodLink RX11 301 yX10_rebuilt, .methodLink RX11 304 yX10_areDifferentVariables, .methodLink RX11 313 yX10_hasCallOf, .methodLink RX11 316 yX8_isFlat, .methodLink RX11 319 yX0_theoremOf, .methodLink RX11 322 yX0_functionOf, .methodLink RX11 328 yX6_begin, .methodLink RX11 329 yX2_evaluated, .methodLink RX11 332 yX11_showValue, .methodLink RX11 335 yX6_rewritten, .methodLink RX11 339 yX11_showTerm, .methodLink RX11 342 yX8_mute, .methodLink RX11 345 yX8_addTheoremClauses, .methodLink RX11 349 yX8_addMeasureClauses, .methodLink RX11 357 yX0_takeBack, .methodLink RX11 363 yX7_blame, .methodLink RX11 366 yX4_listOfLeft, .methodLink RX11 373 yX11_shownWrong, .methodLink RX11 376 yX0_addFunction, .methodLink RX11 380 yX0_enter, .methodLink RX11 384 yX0_addTheorem, .methodLink RX11 387 yX6_learn, .methodLink RX11 403 yX4_listOf]
def ysM : List Cond := [.instanceMethod yX0_functionOf, .selects RX0 yX0_functionOf yX0_functionOf, .code yX0_functionOf cX0_functionOf 3 (some .int), .instanceMethod yX0_theoremOf, .selects RX0 yX0_theoremOf yX0_theoremOf, .code yX0_theoremOf cX0_theoremOf 3 (some .int), .instanceMethod yX0_arityOf, .selects RX0 yX0_arityOf yX0_arityOf, .code yX0_arityOf cX0_arityOf 3 (some .int), .instanceMethod yX0_canLook, .selects RX0 yX0_canLook yX0_canLook, .code yX0_canLook cX0_canLook 3 (some .boolean), .instanceMethod yX0_rules, .selects RX0 yX0_rules yX0_rules, .code yX0_rules cX0_rules 4 (some .int), .instanceMethod yX0_muteNone, .selects RX0 yX0_muteNone yX0_muteNone, .code yX0_muteNone cX0_muteNone 2 none, .instanceMethod yX0_addFunction, .selects RX0 yX0_addFunction yX0_addFunction, .code yX0_addFunction cX0_addFunction 6 none, .instanceMethod yX0_addTheorem, .selects RX0 yX0_addTheorem yX0_addTheorem, .code yX0_addTheorem cX0_addTheorem 3 none, .instanceMethod yX0_enter, .selects RX0 yX0_enter yX0_enter, .code yX0_enter cX0_enter 3 none, .instanceMethod yX0_takeBack, .selects RX0 yX0_takeBack yX0_takeBack, .code yX0_takeBack cX0_takeBack 1 none, .instanceMethod yX0_placeOf, .selects RX0 yX0_placeOf yX0_placeOf, .code yX0_placeOf cX0_placeOf 4 (some .int), .instanceMethod yX1_clear, .selects RX1 yX1_clear yX1_clear, .code yX1_clear cX1_clear 1 none, .instanceMethod yX1_copy, .selects RX1 yX1_copy yX1_copy, .code yX1_copy cX1_copy 2 none, .instanceMethod yX1_placeOf, .selects RX1 yX1_placeOf yX1_placeOf, .code yX1_placeOf cX1_placeOf 3 (some .int), .instanceMethod yX1_insert, .selects RX1 yX1_insert yX1_insert, .code yX1_insert cX1_insert 5 (some .boolean), .instanceMethod yX1_isTooBig, .selects RX1 yX1_isTooBig yX1_isTooBig, .code yX1_isTooBig cX1_isTooBig 1 (some .boolean), .instanceMethod yX1_remove, .selects RX1 yX1_remove yX1_remove, .code yX1_remove cX1_remove 4 none, .instanceMethod yX2_evaluated, .selects RX2 yX2_evaluated yX2_evaluated, .code yX2_evaluated cX2_evaluated 7 (some .int), .instanceMethod yX2_isReady, .selects RX2 yX2_isReady yX2_isReady, .code yX2_isReady cX2_isReady 2 (some .boolean), .instanceMethod yX2_begin, .selects RX2 yX2_begin yX2_begin, .code yX2_begin cX2_begin 2 none, .instanceMethod yX2_hold, .selects RX2 yX2_hold yX2_hold, .code yX2_hold cX2_hold 2 none, .instanceMethod yX2_parameterValue, .selects RX2 yX2_parameterValue yX2_parameterValue, .code yX2_parameterValue cX2_parameterValue 5 (some .int), .instanceMethod yX2_goOn, .selects RX2 yX2_goOn yX2_goOn, .code yX2_goOn cX2_goOn 3 (some .int), .instanceMethod yX2_close, .selects RX2 yX2_close yX2_close, .code yX2_close cX2_close 2 none, .instanceMethod yX2_baseValue, .selects RX2 yX2_baseValue yX2_baseValue, .code yX2_baseValue cX2_baseValue 9 (some .int), .instanceMethod yX3_goThrough, .selects RX3 yX3_goThrough yX3_goThrough, .code yX3_goThrough cX3_goThrough 5 none, .instanceMethod yX3_open, .selects RX3 yX3_open yX3_open, .code yX3_open cX3_open 4 none, .instanceMethod yX3_isFormed, .selects RX3 yX3_isFormed yX3_isFormed, .code yX3_isFormed cX3_isFormed 6 (some .boolean), .instanceMethod yX3_termAt, .selects RX3 yX3_termAt yX3_termAt, .code yX3_termAt cX3_termAt 3 (some .int), .instanceMethod yX3_isWholeFormed, .selects RX3 yX3_isWholeFormed yX3_isWholeFormed, .code yX3_isWholeFormed cX3_isWholeFormed 2 (some .boolean), .instanceMethod yX3_valueAt, .selects RX3 yX3_valueAt yX3_valueAt, .code yX3_valueAt cX3_valueAt 6 (some .int), .instanceMethod yX3_isListOfTerms, .selects RX3 yX3_isListOfTerms yX3_isListOfTerms, .code yX3_isListOfTerms cX3_isListOfTerms 4 (some .boolean), .instanceMethod yX3_isInduction, .selects RX3 yX3_isInduction yX3_isInduction, .code yX3_isInduction cX3_isInduction 5 (some .boolean), .instanceMethod yX3_conclude, .selects RX3 yX3_conclude yX3_conclude, .code yX3_conclude cX3_conclude 6 none, .instanceMethod yX3_concludeAlone, .selects RX3 yX3_concludeAlone yX3_concludeAlone, .code yX3_concludeAlone cX3_concludeAlone 9 none, .instanceMethod yX3_joinEqual, .selects RX3 yX3_joinEqual yX3_joinEqual, .code yX3_joinEqual cX3_joinEqual 4 none, .instanceMethod yX3_concludePair, .selects RX3 yX3_concludePair yX3_concludePair, .code yX3_concludePair cX3_concludePair 8 none, .instanceMethod yX3_definedCall, .selects RX3 yX3_definedCall yX3_definedCall, .code yX3_definedCall cX3_definedCall 2 (some .int), .instanceMethod yX3_concludeOfParts, .selects RX3 yX3_concludeOfParts yX3_concludeOfParts, .code yX3_concludeOfParts cX3_concludeOfParts 6 (some .boolean), .instanceMethod yX3_joinAllBut, .selects RX3 yX3_joinAllBut yX3_joinAllBut, .code yX3_joinAllBut cX3_joinAllBut 5 none, .instanceMethod yX3_joinRebuilt, .selects RX3 yX3_joinRebuilt yX3_joinRebuilt, .code yX3_joinRebuilt cX3_joinRebuilt 5 none, .instanceMethod yX3_concludeWeak, .selects RX3 yX3_concludeWeak yX3_concludeWeak, .code yX3_concludeWeak cX3_concludeWeak 5 none, .instanceMethod yX3_isCut, .selects RX3 yX3_isCut yX3_isCut, .code yX3_isCut cX3_isCut 7 (some .boolean), .instanceMethod yX3_isInduced, .selects RX3 yX3_isInduced yX3_isInduced, .code yX3_isInduced cX3_isInduced 9 (some .boolean), .instanceMethod yX3_isWithin, .selects RX3 yX3_isWithin yX3_isWithin, .code yX3_isWithin cX3_isWithin 4 (some .boolean), .instanceMethod yX4_begin, .selects RX4 yX4_begin yX4_begin, .code yX4_begin cX4_begin 1 none, .instanceMethod yX4_newClause, .selects RX4 yX4_newClause yX4_newClause, .code yX4_newClause cX4_newClause 2 (some (.object "ProofHouse$Clause")), .instanceMethod yX4_prove, .selects RX4 yX4_prove yX4_prove, .code yX4_prove cX4_prove 5 none, .instanceMethod yX4_leave, .selects RX4 yX4_leave yX4_leave, .code yX4_leave cX4_leave 2 none, .instanceMethod yX4_isPlain, .selects RX4 yX4_isPlain yX4_isPlain, .code yX4_isPlain cX4_isPlain 5 (some .boolean), .instanceMethod yX4_makeRound, .selects RX4 yX4_makeRound yX4_makeRound, .code yX4_makeRound cX4_makeRound 9 none, .instanceMethod yX4_rowOfOthers, .selects RX4 yX4_rowOfOthers yX4_rowOfOthers, .code yX4_rowOfOthers cX4_rowOfOthers 5 (some .int), .instanceMethod yX4_stands, .selects RX4 yX4_stands yX4_stands, .code yX4_stands cX4_stands 5 (some .boolean), .instanceMethod yX4_split, .selects RX4 yX4_split yX4_split, .code yX4_split cX4_split 9 none, .instanceMethod yX4_fillSplit, .selects RX4 yX4_fillSplit yX4_fillSplit, .code yX4_fillSplit cX4_fillSplit 7 none, .instanceMethod yX4_listOf, .selects RX4 yX4_listOf yX4_listOf, .code yX4_listOf cX4_listOf 4 (some .int), .instanceMethod yX4_listOfLeft, .selects RX4 yX4_listOfLeft yX4_listOfLeft, .code yX4_listOfLeft cX4_listOfLeft 3 (some .int), .instanceMethod yX4_isAllProved, .selects RX4 yX4_isAllProved yX4_isAllProved, .code yX4_isAllProved cX4_isAllProved 1 (some .boolean), .instanceMethod yX5_read, .selects RX5 yX5_read yX5_read, .code yX5_read cX5_read 5 (some .int), .instanceMethod yX5_refuse, .selects RX5 yX5_refuse yX5_refuse, .code yX5_refuse cX5_refuse 3 none, .instanceMethod yX5_lineEnd, .selects RX5 yX5_lineEnd yX5_lineEnd, .code yX5_lineEnd cX5_lineEnd 5 (some .int), .instanceMethod yX5_atomEnd, .selects RX5 yX5_atomEnd yX5_atomEnd, .code yX5_atomEnd cX5_atomEnd 5 (some .int), .instanceMethod yX5_takeWord, .selects RX5 yX5_takeWord yX5_takeWord, .code yX5_takeWord cX5_takeWord 10 (some .int), .instanceMethod yX5_atomCell, .selects RX5 yX5_atomCell yX5_atomCell, .code yX5_atomCell cX5_atomCell 13 (some .long), .instanceMethod yX5_canStand, .selects RX5 yX5_canStand yX5_canStand, .code yX5_canStand cX5_canStand 2 (some .boolean), .instanceMethod yX5_takeMark, .selects RX5 yX5_takeMark yX5_takeMark, .code yX5_takeMark cX5_takeMark 3 none, .instanceMethod yX5_deliver, .selects RX5 yX5_deliver yX5_deliver, .code yX5_deliver cX5_deliver 3 none, .instanceMethod yX6_begin, .selects RX6 yX6_begin yX6_begin, .code yX6_begin cX6_begin 1 none, .instanceMethod yX6_rewritten, .selects RX6 yX6_rewritten yX6_rewritten, .code yX6_rewritten cX6_rewritten 6 (some .int), .instanceMethod yX6_ask, .selects RX6 yX6_ask yX6_ask, .code yX6_ask cX6_ask 5 none, .instanceMethod yX6_recalled, .selects RX6 yX6_recalled yX6_recalled, .code yX6_recalled cX6_recalled 5 (some .int), .instanceMethod yX6_finish, .selects RX6 yX6_finish yX6_finish, .code yX6_finish cX6_finish 4 none, .instanceMethod yX6_askInstead, .selects RX6 yX6_askInstead yX6_askInstead, .code yX6_askInstead cX6_askInstead 3 none, .instanceMethod yX6_start, .selects RX6 yX6_start yX6_start, .code yX6_start cX6_start 4 none, .instanceMethod yX6_goOnWithTest, .selects RX6 yX6_goOnWithTest yX6_goOnWithTest, .code yX6_goOnWithTest cX6_goOnWithTest 5 none, .instanceMethod yX6_goOnWithThen, .selects RX6 yX6_goOnWithThen yX6_goOnWithThen, .code yX6_goOnWithThen cX6_goOnWithThen 3 none, .instanceMethod yX6_choice, .selects RX6 yX6_choice yX6_choice, .code yX6_choice cX6_choice 5 (some .int), .instanceMethod yX6_goOnWithNegation, .selects RX6 yX6_goOnWithNegation yX6_goOnWithNegation, .code yX6_goOnWithNegation cX6_goOnWithNegation 4 none, .instanceMethod yX6_lookedUp, .selects RX6 yX6_lookedUp yX6_lookedUp, .code yX6_lookedUp cX6_lookedUp 11 (some .int), .instanceMethod yX6_gather, .selects RX6 yX6_gather yX6_gather, .code yX6_gather cX6_gather 5 none, .instanceMethod yX6_compute, .selects RX6 yX6_compute yX6_compute, .code yX6_compute cX6_compute 6 none, .instanceMethod yX6_reduceEqual, .selects RX6 yX6_reduceEqual yX6_reduceEqual, .code yX6_reduceEqual cX6_reduceEqual 9 none, .instanceMethod yX6_reduceLess, .selects RX6 yX6_reduceLess yX6_reduceLess, .code yX6_reduceLess cX6_reduceLess 8 none, .instanceMethod yX6_reduceOther, .selects RX6 yX6_reduceOther yX6_reduceOther, .code yX6_reduceOther cX6_reduceOther 7 none, .instanceMethod yX6_lookUp, .selects RX6 yX6_lookUp yX6_lookUp, .code yX6_lookUp cX6_lookUp 3 none, .instanceMethod yX6_seek, .selects RX6 yX6_seek yX6_seek, .code yX6_seek cX6_seek 3 none, .instanceMethod yX6_compare, .selects RX6 yX6_compare yX6_compare, .code yX6_compare cX6_compare 5 none, .instanceMethod yX6_apply, .selects RX6 yX6_apply yX6_apply, .code yX6_apply cX6_apply 4 none, .instanceMethod yX6_judge, .selects RX6 yX6_judge yX6_judge, .code yX6_judge cX6_judge 2 none, .instanceMethod yX6_unfold, .selects RX6 yX6_unfold yX6_unfold, .code yX6_unfold cX6_unfold 6 none, .instanceMethod yX6_chooseBranch, .selects RX6 yX6_chooseBranch yX6_chooseBranch, .code yX6_chooseBranch cX6_chooseBranch 3 none, .instanceMethod yX6_doNotesHold, .selects RX6 yX6_doNotesHold yX6_doNotesHold, .code yX6_doNotesHold cX6_doNotesHold 5 (some .boolean), .instanceMethod yX6_isAllRecalled, .selects RX6 yX6_isAllRecalled yX6_isAllRecalled, .code yX6_isAllRecalled cX6_isAllRecalled 1 (some .boolean), .instanceMethod yX6_learn, .selects RX6 yX6_learn yX6_learn, .code yX6_learn cX6_learn 7 none, .instanceMethod yX6_addHypotheses, .selects RX6 yX6_addHypotheses yX6_addHypotheses, .code yX6_addHypotheses cX6_addHypotheses 8 none, .instanceMethod yX6_isRule, .selects RX6 yX6_isRule yX6_isRule, .code yX6_isRule cX6_isRule 7 (some .boolean), .instanceMethod yX7_begin, .selects RX7 yX7_begin yX7_begin, .code yX7_begin cX7_begin 2 none, .instanceMethod yX7_step, .selects RX7 yX7_step yX7_step, .code yX7_step cX7_step 1 (some .boolean), .instanceMethod yX7_blame, .selects RX7 yX7_blame yX7_blame, .code yX7_blame cX7_blame 2 none, .instanceMethod yX7_made, .selects RX7 yX7_made yX7_made, .code yX7_made cX7_made 11 (some .int), .instanceMethod yX7_forget, .selects RX7 yX7_forget yX7_forget, .code yX7_forget cX7_forget 3 none, .instanceMethod yX7_cellOf, .selects RX7 yX7_cellOf yX7_cellOf, .code yX7_cellOf cX7_cellOf 2 (some .long), .instanceMethod yX7_isPair, .selects RX7 yX7_isPair yX7_isPair, .code yX7_isPair cX7_isPair 2 (some .boolean), .instanceMethod yX7_isNatural, .selects RX7 yX7_isNatural yX7_isNatural, .code yX7_isNatural cX7_isNatural 2 (some .boolean), .instanceMethod yX7_isSymbol, .selects RX7 yX7_isSymbol yX7_isSymbol, .code yX7_isSymbol cX7_isSymbol 2 (some .boolean), .instanceMethod yX7_isVariable, .selects RX7 yX7_isVariable yX7_isVariable, .code yX7_isVariable cX7_isVariable 2 (some .boolean), .instanceMethod yX7_isName, .selects RX7 yX7_isName yX7_isName, .code yX7_isName cX7_isName 2 (some .boolean), .instanceMethod yX7_isConstant, .selects RX7 yX7_isConstant yX7_isConstant, .code yX7_isConstant cX7_isConstant 4 (some .boolean), .instanceMethod yX7_isCall, .selects RX7 yX7_isCall yX7_isCall, .code yX7_isCall cX7_isCall 2 (some .boolean), .instanceMethod yX7_isCallOf, .selects RX7 yX7_isCallOf yX7_isCallOf, .code yX7_isCallOf cX7_isCallOf 3 (some .boolean), .instanceMethod yX7_isQuoted, .selects RX7 yX7_isQuoted yX7_isQuoted, .code yX7_isQuoted cX7_isQuoted 4 (some .boolean), .instanceMethod yX7_left, .selects RX7 yX7_left yX7_left, .code yX7_left cX7_left 2 (some .int), .instanceMethod yX7_right, .selects RX7 yX7_right yX7_right, .code yX7_right cX7_right 2 (some .int), .instanceMethod yX7_item, .selects RX7 yX7_item yX7_item, .code yX7_item cX7_item 5 (some .int), .instanceMethod yX7_lengthOf, .selects RX7 yX7_lengthOf yX7_lengthOf, .code yX7_lengthOf cX7_lengthOf 4 (some .int), .instanceMethod yX7_sizeOf, .selects RX7 yX7_sizeOf yX7_sizeOf, .code yX7_sizeOf cX7_sizeOf 2 (some .int), .instanceMethod yX7_heightOf, .selects RX7 yX7_heightOf yX7_heightOf, .code yX7_heightOf cX7_heightOf 2 (some .int), .instanceMethod yX7_numberOf, .selects RX7 yX7_numberOf yX7_numberOf, .code yX7_numberOf cX7_numberOf 2 (some .long), .instanceMethod yX7_valueOf, .selects RX7 yX7_valueOf yX7_valueOf, .code yX7_valueOf cX7_valueOf 4 (some .int), .instanceMethod yX7_constantOf, .selects RX7 yX7_constantOf yX7_constantOf, .code yX7_constantOf cX7_constantOf 2 (some .int), .instanceMethod yX8_goToPath, .selects RX8 yX8_goToPath yX8_goToPath, .code yX8_goToPath cX8_goToPath 3 (some .boolean), .instanceMethod yX8_countPaths, .selects RX8 yX8_countPaths yX8_countPaths, .code yX8_countPaths cX8_countPaths 4 (some .int), .instanceMethod yX8_listCalls, .selects RX8 yX8_listCalls yX8_listCalls, .code yX8_listCalls cX8_listCalls 4 none, .instanceMethod yX8_isFlat, .selects RX8 yX8_isFlat yX8_isFlat, .code yX8_isFlat cX8_isFlat 7 (some .boolean), .instanceMethod yX8_addRulers, .selects RX8 yX8_addRulers yX8_addRulers, .code yX8_addRulers cX8_addRulers 7 none, .instanceMethod yX8_addMeasureClauses, .selects RX8 yX8_addMeasureClauses yX8_addMeasureClauses, .code yX8_addMeasureClauses cX8_addMeasureClauses 10 none, .instanceMethod yX8_addInductionHypotheses, .selects RX8 yX8_addInductionHypotheses yX8_addInductionHypotheses, .code yX8_addInductionHypotheses cX8_addInductionHypotheses 7 none, .instanceMethod yX8_mute, .selects RX8 yX8_mute yX8_mute, .code yX8_mute cX8_mute 7 none, .instanceMethod yX8_addUses, .selects RX8 yX8_addUses yX8_addUses, .code yX8_addUses cX8_addUses 6 none, .instanceMethod yX8_addTheoremClauses, .selects RX8 yX8_addTheoremClauses yX8_addTheoremClauses, .code yX8_addTheoremClauses cX8_addTheoremClauses 9 none, .instanceMethod yX8_hintsAsked, .selects RX8 yX8_hintsAsked yX8_hintsAsked, .code yX8_hintsAsked cX8_hintsAsked 9 (some .int), .instanceMethod yX8_useAsked, .selects RX8 yX8_useAsked yX8_useAsked, .code yX8_useAsked cX8_useAsked 4 (some .int), .instanceMethod yX8_offAsked, .selects RX8 yX8_offAsked yX8_offAsked, .code yX8_offAsked cX8_offAsked 4 (some .int), .instanceMethod yX8_inductionAsked, .selects RX8 yX8_inductionAsked yX8_inductionAsked, .code yX8_inductionAsked cX8_inductionAsked 6 (some .int), .instanceMethod yX9_clear, .selects RX9 yX9_clear yX9_clear, .code yX9_clear cX9_clear 1 none, .instanceMethod yX9_write, .selects RX9 yX9_write yX9_write, .code yX9_write cX9_write 6 none, .instanceMethod yX9_put, .selects RX9 yX9_put yX9_put, .code yX9_put cX9_put 2 none, .instanceMethod yX9_putAtom, .selects RX9 yX9_putAtom yX9_putAtom, .code yX9_putAtom cX9_putAtom 10 none, .instanceMethod yX10_rebuilt, .selects RX10 yX10_rebuilt yX10_rebuilt, .code yX10_rebuilt cX10_rebuilt 9 (some .int), .instanceMethod yX10_isTooBig, .selects RX10 yX10_isTooBig yX10_isTooBig, .code yX10_isTooBig cX10_isTooBig 4 (some .boolean), .instanceMethod yX10_meaningOf, .selects RX10 yX10_meaningOf yX10_meaningOf, .code yX10_meaningOf cX10_meaningOf 4 (some .int), .instanceMethod yX10_readMeaning, .selects RX10 yX10_readMeaning yX10_readMeaning, .code yX10_readMeaning cX10_readMeaning 5 (some .int), .instanceMethod yX10_standsFor, .selects RX10 yX10_standsFor yX10_standsFor, .code yX10_standsFor cX10_standsFor 3 (some .int), .instanceMethod yX10_unbind, .selects RX10 yX10_unbind yX10_unbind, .code yX10_unbind cX10_unbind 1 none, .instanceMethod yX10_bind, .selects RX10 yX10_bind yX10_bind, .code yX10_bind cX10_bind 3 none, .instanceMethod yX10_bindRow, .selects RX10 yX10_bindRow yX10_bindRow, .code yX10_bindRow cX10_bindRow 5 none, .instanceMethod yX10_areDifferentVariables, .selects RX10 yX10_areDifferentVariables yX10_areDifferentVariables, .code yX10_areDifferentVariables cX10_areDifferentVariables 4 (some .boolean), .instanceMethod yX10_bindPairs, .selects RX10 yX10_bindPairs yX10_bindPairs, .code yX10_bindPairs cX10_bindPairs 6 (some .boolean), .instanceMethod yX10_call, .selects RX10 yX10_call yX10_call, .code yX10_call cX10_call 7 (some .int), .instanceMethod yX10_negated, .selects RX10 yX10_negated yX10_negated, .code yX10_negated cX10_negated 2 (some .int), .instanceMethod yX10_isNegation, .selects RX10 yX10_isNegation yX10_isNegation, .code yX10_isNegation cX10_isNegation 3 (some .boolean), .instanceMethod yX10_isBoolean, .selects RX10 yX10_isBoolean yX10_isBoolean, .code yX10_isBoolean cX10_isBoolean 2 (some .boolean), .instanceMethod yX10_isOfConstants, .selects RX10 yX10_isOfConstants yX10_isOfConstants, .code yX10_isOfConstants cX10_isOfConstants 3 (some .boolean), .instanceMethod yX10_matches, .selects RX10 yX10_matches yX10_matches, .code yX10_matches cX10_matches 9 (some .boolean), .instanceMethod yX10_isBoundToVariables, .selects RX10 yX10_isBoundToVariables yX10_isBoundToVariables, .code yX10_isBoundToVariables cX10_isBoundToVariables 3 (some .boolean), .instanceMethod yX10_listParts, .selects RX10 yX10_listParts yX10_listParts, .code yX10_listParts cX10_listParts 7 (some .int), .instanceMethod yX10_hasCallOf, .selects RX10 yX10_hasCallOf yX10_hasCallOf, .code yX10_hasCallOf cX10_hasCallOf 5 (some .boolean), .instanceMethod yX10_hasVariablesOf, .selects RX10 yX10_hasVariablesOf yX10_hasVariablesOf, .code yX10_hasVariablesOf cX10_hasVariablesOf 7 (some .boolean), .instanceMethod yX10_hasBound, .selects RX10 yX10_hasBound yX10_hasBound, .code yX10_hasBound cX10_hasBound 7 (some .boolean), .instanceMethod yX10_bindVariablesOf, .selects RX10 yX10_bindVariablesOf yX10_bindVariablesOf, .code yX10_bindVariablesOf cX10_bindVariablesOf 4 none, .instanceMethod yX10_join, .selects RX10 yX10_join yX10_join, .code yX10_join cX10_join 3 none, .static yX11_pairCell, .code yX11_pairCell cX11_pairCell 2 (some .long), .instanceMethod yX11_feed, .selects RX11 yX11_feed yX11_feed, .code yX11_feed cX11_feed 6 none, .instanceMethod yX11_end, .selects RX11 yX11_end yX11_end, .code yX11_end cX11_end 3 (some .int), .instanceMethod yX11_fuel, .selects RX11 yX11_fuel yX11_fuel, .code yX11_fuel cX11_fuel 3 (some .int), .instanceMethod yX11_run, .selects RX11 yX11_run yX11_run, .code yX11_run cX11_run 5 (some .int), .instanceMethod yX11_fault, .selects RX11 yX11_fault yX11_fault, .code yX11_fault cX11_fault 2 (some .int), .instanceMethod yX11_steps, .selects RX11 yX11_steps yX11_steps, .code yX11_steps cX11_steps 1 (some .int), .instanceMethod yX11_count, .selects RX11 yX11_count yX11_count, .code yX11_count cX11_count 2 (some .int), .instanceMethod yX11_size, .selects RX11 yX11_size yX11_size, .code yX11_size cX11_size 1 (some .int), .instanceMethod yX11_letter, .selects RX11 yX11_letter yX11_letter, .code yX11_letter cX11_letter 2 (some .int), .instanceMethod yX11_taken, .selects RX11 yX11_taken yX11_taken, .code yX11_taken cX11_taken 2 (some .int), .instanceMethod yX11_tell, .selects RX11 yX11_tell yX11_tell, .code yX11_tell cX11_tell 5 (some .int), .instanceMethod yX11_recheck, .selects RX11 yX11_recheck yX11_recheck, .code yX11_recheck cX11_recheck 2 (some .boolean), .instanceMethod yX11_forgetLatest, .selects RX11 yX11_forgetLatest yX11_forgetLatest, .code yX11_forgetLatest cX11_forgetLatest 1 none, .instanceMethod yX11_asked, .selects RX11 yX11_asked yX11_asked, .code yX11_asked cX11_asked 3 (some .int), .instanceMethod yX11_isAsTold, .selects RX11 yX11_isAsTold yX11_isAsTold, .code yX11_isAsTold cX11_isAsTold 3 (some .boolean), .instanceMethod yX11_isNameAt, .selects RX11 yX11_isNameAt yX11_isNameAt, .code yX11_isNameAt cX11_isNameAt 2 (some .boolean), .instanceMethod yX11_isTermAt, .selects RX11 yX11_isTermAt yX11_isTermAt, .code yX11_isTermAt cX11_isTermAt 3 (some .boolean), .instanceMethod yX11_isDefinition, .selects RX11 yX11_isDefinition yX11_isDefinition, .code yX11_isDefinition cX11_isDefinition 5 (some .boolean), .instanceMethod yX11_nameAsked, .selects RX11 yX11_nameAsked yX11_nameAsked, .code yX11_nameAsked cX11_nameAsked 3 (some .int), .instanceMethod yX11_prepare, .selects RX11 yX11_prepare yX11_prepare, .code yX11_prepare cX11_prepare 3 none, .instanceMethod yX11_showValue, .selects RX11 yX11_showValue yX11_showValue, .code yX11_showValue cX11_showValue 2 none, .instanceMethod yX11_showTerm, .selects RX11 yX11_showTerm yX11_showTerm, .code yX11_showTerm cX11_showTerm 2 none, .instanceMethod yX11_conclude, .selects RX11 yX11_conclude yX11_conclude, .code yX11_conclude cX11_conclude 5 (some .int), .instanceMethod yX11_shownWrong, .selects RX11 yX11_shownWrong yX11_shownWrong, .code yX11_shownWrong cX11_shownWrong 4 (some .int)]
def ysS : List Cond := wsV RX5 66 RJ0 yJ0_indexOf_0f7a4 wsJ0_indexOf_0f7a4 ++ (wsV RX9 67 RJ0 yJ0_charAt_5068e wsJ0_charAt_5068e ++ va_wsS RX11 137 yJ7_fill_53178 wsJ7_fill_53178)
def ysJ : List Cond := [.methodLink RX1 25 arraycopyName, .methodLink RX5 54 Lib.Math.max.name, .methodLink RX6 159 arraycopyName, .methodLink RX6 208 Lib.Math.min.name, .methodLink RX7 79 Lib.Math.min.name, .methodLink RX7 85 Lib.Math.max.name, .methodLink RX8 188 Lib.Math.max.name, .methodLink RX9 73 Lib.Math.min.name, .static Lib.Math.max.name, .code Lib.Math.max.name Lib.Math.max.code 2 (some .int), .static Lib.Math.min.name, .code Lib.Math.min.name Lib.Math.min.code 2 (some .int), .native arraycopyName, .static arraycopyName, .initialized "java/lang/System"] ++ ysS
def ysT : List Cond := wsX00 ++ (wsX10 ++ (wsX20 ++ (wsX30 ++ (wsX40 ++ (wsX50 ++ (wsX60 ++ (wsX70 ++ (wsX80 ++ (wsX90 ++ (wsX100 ++ (wsX110)))))))))))
def wsN : List Cond := ysF ++ (ysK ++ (ysI ++ (ysL ++ (ysM ++ (ysJ ++ ysT)))))
set_option maxRecDepth 100000 in
theorem wsN_good : ∀ w ∈ wsN, goodWord w = true := List.all_eq_true.mp (by decide +kernel)
theorem ysF_in {w : Cond} (h : w ∈ ysF) : w ∈ wsN := List.mem_append_left _ h
theorem ysK_in {w : Cond} (h : w ∈ ysK) : w ∈ wsN := List.mem_append_right _ (List.mem_append_left _ h)
theorem ysI_in {w : Cond} (h : w ∈ ysI) : w ∈ wsN := List.mem_append_right _ (List.mem_append_right _ (List.mem_append_left _ h))
theorem ysL_in {w : Cond} (h : w ∈ ysL) : w ∈ wsN := List.mem_append_right _ (List.mem_append_right _ (List.mem_append_right _ (List.mem_append_left _ h)))
theorem ysM_in {w : Cond} (h : w ∈ ysM) : w ∈ wsN := List.mem_append_right _ (List.mem_append_right _ (List.mem_append_right _ (List.mem_append_right _ (List.mem_append_left _ h))))
theorem ysJ_in {w : Cond} (h : w ∈ ysJ) : w ∈ wsN := List.mem_append_right _ (List.mem_append_right _ (List.mem_append_right _ (List.mem_append_right _ (List.mem_append_right _ (List.mem_append_left _ h)))))
theorem ysT_in {w : Cond} (h : w ∈ ysT) : w ∈ wsN := List.mem_append_right _ (List.mem_append_right _ (List.mem_append_right _ (List.mem_append_right _ (List.mem_append_right _ (List.mem_append_right _ (h))))))
theorem wsN_0 : ∀ w ∈ u_ws RX0 TX0 21, w ∈ wsN := fun w h => ysT_in (List.mem_append_left _ h)
theorem wsN_1 : ∀ w ∈ u_ws RX1 TX1 4, w ∈ wsN := fun w h => ysT_in (List.mem_append_right _ (List.mem_append_left _ h))
theorem wsN_2 : ∀ w ∈ u_ws RX2 TX2 15, w ∈ wsN := fun w h => ysT_in (List.mem_append_right _ (List.mem_append_right _ (List.mem_append_left _ h)))
theorem wsN_3 : ∀ w ∈ u_ws RX3 TX3 11, w ∈ wsN := fun w h => ysT_in (List.mem_append_right _ (List.mem_append_right _ (List.mem_append_right _ (List.mem_append_left _ h))))
theorem wsN_4 : ∀ w ∈ u_ws RX4 TX4 11, w ∈ wsN := fun w h => ysT_in (List.mem_append_right _ (List.mem_append_right _ (List.mem_append_right _ (List.mem_append_right _ (List.mem_append_left _ h)))))
theorem wsN_5 : ∀ w ∈ u_ws RX5 TX5 11, w ∈ wsN := fun w h => ysT_in (List.mem_append_right _ (List.mem_append_right _ (List.mem_append_right _ (List.mem_append_right _ (List.mem_append_right _ (List.mem_append_left _ h))))))
theorem wsN_6 : ∀ w ∈ u_ws RX6 TX6 14, w ∈ wsN := fun w h => ysT_in (List.mem_append_right _ (List.mem_append_right _ (List.mem_append_right _ (List.mem_append_right _ (List.mem_append_right _ (List.mem_append_right _ (List.mem_append_left _ h)))))))
theorem wsN_7 : ∀ w ∈ u_ws RX7 TX7 9, w ∈ wsN := fun w h => ysT_in (List.mem_append_right _ (List.mem_append_right _ (List.mem_append_right _ (List.mem_append_right _ (List.mem_append_right _ (List.mem_append_right _ (List.mem_append_right _ (List.mem_append_left _ h))))))))
theorem wsN_8 : ∀ w ∈ u_ws RX8 TX8 11, w ∈ wsN := fun w h => ysT_in (List.mem_append_right _ (List.mem_append_right _ (List.mem_append_right _ (List.mem_append_right _ (List.mem_append_right _ (List.mem_append_right _ (List.mem_append_right _ (List.mem_append_right _ (List.mem_append_left _ h)))))))))
theorem wsN_9 : ∀ w ∈ u_ws RX9 TX9 4, w ∈ wsN := fun w h => ysT_in (List.mem_append_right _ (List.mem_append_right _ (List.mem_append_right _ (List.mem_append_right _ (List.mem_append_right _ (List.mem_append_right _ (List.mem_append_right _ (List.mem_append_right _ (List.mem_append_right _ (List.mem_append_left _ h))))))))))
theorem wsN_10 : ∀ w ∈ u_ws RX10 TX10 16, w ∈ wsN := fun w h => ysT_in (List.mem_append_right _ (List.mem_append_right _ (List.mem_append_right _ (List.mem_append_right _ (List.mem_append_right _ (List.mem_append_right _ (List.mem_append_right _ (List.mem_append_right _ (List.mem_append_right _ (List.mem_append_right _ (List.mem_append_left _ h)))))))))))
theorem wsN_11 : ∀ w ∈ u_ws RX11 TX11 21, w ∈ wsN := fun w h => ysT_in (List.mem_append_right _ (List.mem_append_right _ (List.mem_append_right _ (List.mem_append_right _ (List.mem_append_right _ (List.mem_append_right _ (List.mem_append_right _ (List.mem_append_right _ (List.mem_append_right _ (List.mem_append_right _ (List.mem_append_right _ (h))))))))))))
set_option maxRecDepth 100000 in
theorem yL_0_27 : Cond.fieldLink RX0 27 "ProofHouse$Book" "functions" "I" ∈ wsN := ysF_in (List.mem_of_getElem? (i := 0) rfl)
set_option maxRecDepth 100000 in
theorem yL_0_9 : Cond.fieldLink RX0 9 "ProofHouse$Book" "functionNames" "[I" ∈ wsN := ysF_in (List.mem_of_getElem? (i := 1) rfl)
set_option maxRecDepth 100000 in
theorem yL_0_64 : Cond.fieldLink RX0 64 "ProofHouse$Book" "theorems" "I" ∈ wsN := ysF_in (List.mem_of_getElem? (i := 2) rfl)
set_option maxRecDepth 100000 in
theorem yL_0_31 : Cond.fieldLink RX0 31 "ProofHouse$Book" "theoremNames" "[I" ∈ wsN := ysF_in (List.mem_of_getElem? (i := 3) rfl)
set_option maxRecDepth 100000 in
theorem yL_0_18 : Cond.fieldLink RX0 18 "ProofHouse$Book" "arities" "[I" ∈ wsN := ysF_in (List.mem_of_getElem? (i := 4) rfl)
set_option maxRecDepth 100000 in
theorem yL_0_37 : Cond.fieldLink RX0 37 "ProofHouse$Book" "lefts" "[I" ∈ wsN := ysF_in (List.mem_of_getElem? (i := 5) rfl)
set_option maxRecDepth 100000 in
theorem yL_0_58 : Cond.fieldLink RX0 58 "ProofHouse$Book" "on" "[Z" ∈ wsN := ysF_in (List.mem_of_getElem? (i := 6) rfl)
set_option maxRecDepth 100000 in
theorem yL_0_61 : Cond.fieldLink RX0 61 "ProofHouse$Book" "muted" "[Z" ∈ wsN := ysF_in (List.mem_of_getElem? (i := 7) rfl)
set_option maxRecDepth 100000 in
theorem yL_0_51 : Cond.fieldLink RX0 51 "ProofHouse$Book" "truthAlone" "[Z" ∈ wsN := ysF_in (List.mem_of_getElem? (i := 8) rfl)
set_option maxRecDepth 100000 in
theorem yL_0_15 : Cond.fieldLink RX0 15 "ProofHouse$Book" "parameters" "[I" ∈ wsN := ysF_in (List.mem_of_getElem? (i := 9) rfl)
set_option maxRecDepth 100000 in
theorem yL_0_21 : Cond.fieldLink RX0 21 "ProofHouse$Book" "bodies" "[I" ∈ wsN := ysF_in (List.mem_of_getElem? (i := 10) rfl)
set_option maxRecDepth 100000 in
theorem yL_0_24 : Cond.fieldLink RX0 24 "ProofHouse$Book" "measures" "[I" ∈ wsN := ysF_in (List.mem_of_getElem? (i := 11) rfl)
set_option maxRecDepth 100000 in
theorem yL_0_34 : Cond.fieldLink RX0 34 "ProofHouse$Book" "formulas" "[I" ∈ wsN := ysF_in (List.mem_of_getElem? (i := 12) rfl)
set_option maxRecDepth 100000 in
theorem yL_0_73 : Cond.fieldLink RX0 73 "ProofHouse$Book" "entries" "I" ∈ wsN := ysF_in (List.mem_of_getElem? (i := 13) rfl)
set_option maxRecDepth 100000 in
theorem yL_0_67 : Cond.fieldLink RX0 67 "ProofHouse$Book" "kinds" "[I" ∈ wsN := ysF_in (List.mem_of_getElem? (i := 14) rfl)
set_option maxRecDepth 100000 in
theorem yL_0_70 : Cond.fieldLink RX0 70 "ProofHouse$Book" "marks" "[I" ∈ wsN := ysF_in (List.mem_of_getElem? (i := 15) rfl)
set_option maxRecDepth 100000 in
theorem yL_0_76 : Cond.fieldLink RX0 76 "ProofHouse$Book" "kept" "I" ∈ wsN := ysF_in (List.mem_of_getElem? (i := 16) rfl)
set_option maxRecDepth 100000 in
theorem yL_1_15 : Cond.fieldLink RX1 15 "ProofHouse$Clause" "length" "I" ∈ wsN := ysF_in (List.mem_of_getElem? (i := 17) rfl)
set_option maxRecDepth 100000 in
theorem yL_1_19 : Cond.fieldLink RX1 19 "ProofHouse$Clause" "weight" "I" ∈ wsN := ysF_in (List.mem_of_getElem? (i := 18) rfl)
set_option maxRecDepth 100000 in
theorem yL_1_22 : Cond.fieldLink RX1 22 "ProofHouse$Clause" "rounds" "I" ∈ wsN := ysF_in (List.mem_of_getElem? (i := 19) rfl)
set_option maxRecDepth 100000 in
theorem yL_1_11 : Cond.fieldLink RX1 11 "ProofHouse$Clause" "literals" "[I" ∈ wsN := ysF_in (List.mem_of_getElem? (i := 20) rfl)
set_option maxRecDepth 100000 in
theorem yL_2_34 : Cond.fieldLink RX2 34 "ProofHouse$Evaluator" "depth" "I" ∈ wsN := ysF_in (List.mem_of_getElem? (i := 21) rfl)
set_option maxRecDepth 100000 in
theorem yL_2_38 : Cond.fieldLink RX2 38 "ProofHouse$Evaluator" "held" "I" ∈ wsN := ysF_in (List.mem_of_getElem? (i := 22) rfl)
set_option maxRecDepth 100000 in
theorem yL_2_41 : Cond.fieldLink RX2 41 "ProofHouse$Evaluator" "owner" "I" ∈ wsN := ysF_in (List.mem_of_getElem? (i := 23) rfl)
set_option maxRecDepth 100000 in
theorem yL_2_44 : Cond.fieldLink RX2 44 "ProofHouse$Evaluator" "floor" "I" ∈ wsN := ysF_in (List.mem_of_getElem? (i := 24) rfl)
set_option maxRecDepth 100000 in
theorem yL_2_47 : Cond.fieldLink RX2 47 "ProofHouse$Evaluator" "stepsLeft" "I" ∈ wsN := ysF_in (List.mem_of_getElem? (i := 25) rfl)
set_option maxRecDepth 100000 in
theorem yL_2_50 : Cond.fieldLink RX2 50 "ProofHouse$Evaluator" "stopped" "I" ∈ wsN := ysF_in (List.mem_of_getElem? (i := 26) rfl)
set_option maxRecDepth 100000 in
theorem yL_2_53 : Cond.fieldLink RX2 53 "ProofHouse$Evaluator" "room" "LProofHouse$Room;" ∈ wsN := ysF_in (List.mem_of_getElem? (i := 27) rfl)
set_option maxRecDepth 100000 in
theorem yL_2_31 : Cond.fieldLink RX2 31 "ProofHouse$Evaluator" "values" "[I" ∈ wsN := ysF_in (List.mem_of_getElem? (i := 28) rfl)
set_option maxRecDepth 100000 in
theorem yL_2_18 : Cond.fieldLink RX2 18 "ProofHouse$Evaluator" "bases" "[I" ∈ wsN := ysF_in (List.mem_of_getElem? (i := 29) rfl)
set_option maxRecDepth 100000 in
theorem yL_2_11 : Cond.fieldLink RX2 11 "ProofHouse$Evaluator" "names" "[I" ∈ wsN := ysF_in (List.mem_of_getElem? (i := 30) rfl)
set_option maxRecDepth 100000 in
theorem yL_2_21 : Cond.fieldLink RX2 21 "ProofHouse$Evaluator" "inBody" "[Z" ∈ wsN := ysF_in (List.mem_of_getElem? (i := 31) rfl)
set_option maxRecDepth 100000 in
theorem yL_2_15 : Cond.fieldLink RX2 15 "ProofHouse$Evaluator" "rests" "[I" ∈ wsN := ysF_in (List.mem_of_getElem? (i := 32) rfl)
set_option maxRecDepth 100000 in
theorem yL_2_25 : Cond.fieldLink RX2 25 "ProofHouse$Evaluator" "outerOwners" "[I" ∈ wsN := ysF_in (List.mem_of_getElem? (i := 33) rfl)
set_option maxRecDepth 100000 in
theorem yL_2_28 : Cond.fieldLink RX2 28 "ProofHouse$Evaluator" "outerFloors" "[I" ∈ wsN := ysF_in (List.mem_of_getElem? (i := 34) rfl)
set_option maxRecDepth 100000 in
theorem yL_2_57 : Cond.fieldLink RX2 57 "ProofHouse$Evaluator" "book" "LProofHouse$Book;" ∈ wsN := ysF_in (List.mem_of_getElem? (i := 35) rfl)
set_option maxRecDepth 100000 in
theorem yL_3_16 : Cond.fieldLink RX3 16 "ProofHouse$Proofs" "depth" "I" ∈ wsN := ysF_in (List.mem_of_getElem? (i := 36) rfl)
set_option maxRecDepth 100000 in
theorem yL_3_26 : Cond.fieldLink RX3 26 "ProofHouse$Proofs" "held" "I" ∈ wsN := ysF_in (List.mem_of_getElem? (i := 37) rfl)
set_option maxRecDepth 100000 in
theorem yL_3_34 : Cond.fieldLink RX3 34 "ProofHouse$Proofs" "wrong" "I" ∈ wsN := ysF_in (List.mem_of_getElem? (i := 38) rfl)
set_option maxRecDepth 100000 in
theorem yL_3_37 : Cond.fieldLink RX3 37 "ProofHouse$Proofs" "room" "LProofHouse$Room;" ∈ wsN := ysF_in (List.mem_of_getElem? (i := 39) rfl)
set_option maxRecDepth 100000 in
theorem yL_3_13 : Cond.fieldLink RX3 13 "ProofHouse$Proofs" "frames" "[[I" ∈ wsN := ysF_in (List.mem_of_getElem? (i := 40) rfl)
set_option maxRecDepth 100000 in
theorem yL_3_45 : Cond.fieldLink RX3 45 "ProofHouse$Proofs" "terms" "LProofHouse$Terms;" ∈ wsN := ysF_in (List.mem_of_getElem? (i := 41) rfl)
set_option maxRecDepth 100000 in
theorem yL_3_41 : Cond.fieldLink RX3 41 "ProofHouse$Proofs" "book" "LProofHouse$Book;" ∈ wsN := ysF_in (List.mem_of_getElem? (i := 42) rfl)
set_option maxRecDepth 100000 in
theorem yL_3_49 : Cond.fieldLink RX3 49 "ProofHouse$Proofs" "evaluator" "LProofHouse$Evaluator;" ∈ wsN := ysF_in (List.mem_of_getElem? (i := 43) rfl)
set_option maxRecDepth 100000 in
theorem yL_3_53 : Cond.fieldLink RX3 53 "ProofHouse$Proofs" "schemes" "LProofHouse$Schemes;" ∈ wsN := ysF_in (List.mem_of_getElem? (i := 44) rfl)
set_option maxRecDepth 100000 in
theorem yL_3_22 : Cond.fieldLink RX3 22 "ProofHouse$Proofs" "clauses" "[LProofHouse$Clause;" ∈ wsN := ysF_in (List.mem_of_getElem? (i := 45) rfl)
set_option maxRecDepth 100000 in
theorem yL_3_30 : Cond.fieldLink RX3 30 "ProofHouse$Proofs" "wanted" "LProofHouse$Clause;" ∈ wsN := ysF_in (List.mem_of_getElem? (i := 46) rfl)
set_option maxRecDepth 100000 in
theorem yL_4_17 : Cond.fieldLink RX4 17 "ProofHouse$Prover" "givenCount" "I" ∈ wsN := ysF_in (List.mem_of_getElem? (i := 47) rfl)
set_option maxRecDepth 100000 in
theorem yL_4_30 : Cond.fieldLink RX4 30 "ProofHouse$Prover" "leftCount" "I" ∈ wsN := ysF_in (List.mem_of_getElem? (i := 48) rfl)
set_option maxRecDepth 100000 in
theorem yL_4_42 : Cond.fieldLink RX4 42 "ProofHouse$Prover" "room" "LProofHouse$Room;" ∈ wsN := ysF_in (List.mem_of_getElem? (i := 49) rfl)
set_option maxRecDepth 100000 in
theorem yL_4_34 : Cond.fieldLink RX4 34 "ProofHouse$Prover" "spare" "LProofHouse$Clause;" ∈ wsN := ysF_in (List.mem_of_getElem? (i := 50) rfl)
set_option maxRecDepth 100000 in
theorem yL_4_13 : Cond.fieldLink RX4 13 "ProofHouse$Prover" "given" "[LProofHouse$Clause;" ∈ wsN := ysF_in (List.mem_of_getElem? (i := 51) rfl)
set_option maxRecDepth 100000 in
theorem yL_4_38 : Cond.fieldLink RX4 38 "ProofHouse$Prover" "checking" "Z" ∈ wsN := ysF_in (List.mem_of_getElem? (i := 52) rfl)
set_option maxRecDepth 100000 in
theorem yL_4_21 : Cond.fieldLink RX4 21 "ProofHouse$Prover" "waiting" "[LProofHouse$Clause;" ∈ wsN := ysF_in (List.mem_of_getElem? (i := 53) rfl)
set_option maxRecDepth 100000 in
theorem yL_4_24 : Cond.fieldLink RX4 24 "ProofHouse$Prover" "waitingCount" "I" ∈ wsN := ysF_in (List.mem_of_getElem? (i := 54) rfl)
set_option maxRecDepth 100000 in
theorem yL_4_27 : Cond.fieldLink RX4 27 "ProofHouse$Prover" "left" "[LProofHouse$Clause;" ∈ wsN := ysF_in (List.mem_of_getElem? (i := 55) rfl)
set_option maxRecDepth 100000 in
theorem yL_4_46 : Cond.fieldLink RX4 46 "ProofHouse$Prover" "terms" "LProofHouse$Terms;" ∈ wsN := ysF_in (List.mem_of_getElem? (i := 56) rfl)
set_option maxRecDepth 100000 in
theorem yL_4_50 : Cond.fieldLink RX4 50 "ProofHouse$Prover" "rewriter" "LProofHouse$Rewriter;" ∈ wsN := ysF_in (List.mem_of_getElem? (i := 57) rfl)
set_option maxRecDepth 100000 in
theorem yL_5_24 : Cond.fieldLink RX5 24 "ProofHouse$Reader" "depth" "I" ∈ wsN := ysF_in (List.mem_of_getElem? (i := 58) rfl)
set_option maxRecDepth 100000 in
theorem yL_5_28 : Cond.fieldLink RX5 28 "ProofHouse$Reader" "held" "I" ∈ wsN := ysF_in (List.mem_of_getElem? (i := 59) rfl)
set_option maxRecDepth 100000 in
theorem yL_5_31 : Cond.fieldLink RX5 31 "ProofHouse$Reader" "words" "I" ∈ wsN := ysF_in (List.mem_of_getElem? (i := 60) rfl)
set_option maxRecDepth 100000 in
theorem yL_5_34 : Cond.fieldLink RX5 34 "ProofHouse$Reader" "whole" "I" ∈ wsN := ysF_in (List.mem_of_getElem? (i := 61) rfl)
set_option maxRecDepth 100000 in
theorem yL_5_37 : Cond.fieldLink RX5 37 "ProofHouse$Reader" "flaw" "I" ∈ wsN := ysF_in (List.mem_of_getElem? (i := 62) rfl)
set_option maxRecDepth 100000 in
theorem yL_5_40 : Cond.fieldLink RX5 40 "ProofHouse$Reader" "place" "I" ∈ wsN := ysF_in (List.mem_of_getElem? (i := 63) rfl)
set_option maxRecDepth 100000 in
theorem yL_5_11 : Cond.fieldLink RX5 11 "ProofHouse$Reader" "phases" "[I" ∈ wsN := ysF_in (List.mem_of_getElem? (i := 64) rfl)
set_option maxRecDepth 100000 in
theorem yL_5_43 : Cond.fieldLink RX5 43 "ProofHouse$Reader" "room" "LProofHouse$Room;" ∈ wsN := ysF_in (List.mem_of_getElem? (i := 65) rfl)
set_option maxRecDepth 100000 in
theorem yL_5_18 : Cond.fieldLink RX5 18 "ProofHouse$Reader" "tails" "[I" ∈ wsN := ysF_in (List.mem_of_getElem? (i := 66) rfl)
set_option maxRecDepth 100000 in
theorem yL_5_15 : Cond.fieldLink RX5 15 "ProofHouse$Reader" "bases" "[I" ∈ wsN := ysF_in (List.mem_of_getElem? (i := 67) rfl)
set_option maxRecDepth 100000 in
theorem yL_5_21 : Cond.fieldLink RX5 21 "ProofHouse$Reader" "items" "[I" ∈ wsN := ysF_in (List.mem_of_getElem? (i := 68) rfl)
set_option maxRecDepth 100000 in
theorem yL_6_29 : Cond.fieldLink RX6 29 "ProofHouse$Rewriter" "noted" "I" ∈ wsN := ysF_in (List.mem_of_getElem? (i := 69) rfl)
set_option maxRecDepth 100000 in
theorem yL_6_43 : Cond.fieldLink RX6 43 "ProofHouse$Rewriter" "book" "LProofHouse$Book;" ∈ wsN := ysF_in (List.mem_of_getElem? (i := 70) rfl)
set_option maxRecDepth 100000 in
theorem yL_6_23 : Cond.fieldLink RX6 23 "ProofHouse$Rewriter" "horizon" "I" ∈ wsN := ysF_in (List.mem_of_getElem? (i := 71) rfl)
set_option maxRecDepth 100000 in
theorem yL_6_16 : Cond.fieldLink RX6 16 "ProofHouse$Rewriter" "depth" "I" ∈ wsN := ysF_in (List.mem_of_getElem? (i := 72) rfl)
set_option maxRecDepth 100000 in
theorem yL_6_20 : Cond.fieldLink RX6 20 "ProofHouse$Rewriter" "answer" "I" ∈ wsN := ysF_in (List.mem_of_getElem? (i := 73) rfl)
set_option maxRecDepth 100000 in
theorem yL_6_39 : Cond.fieldLink RX6 39 "ProofHouse$Rewriter" "room" "LProofHouse$Room;" ∈ wsN := ysF_in (List.mem_of_getElem? (i := 74) rfl)
set_option maxRecDepth 100000 in
theorem yL_6_13 : Cond.fieldLink RX6 13 "ProofHouse$Rewriter" "frames" "[[I" ∈ wsN := ysF_in (List.mem_of_getElem? (i := 75) rfl)
set_option maxRecDepth 100000 in
theorem yL_6_32 : Cond.fieldLink RX6 32 "ProofHouse$Rewriter" "checking" "Z" ∈ wsN := ysF_in (List.mem_of_getElem? (i := 76) rfl)
set_option maxRecDepth 100000 in
theorem yL_6_26 : Cond.fieldLink RX6 26 "ProofHouse$Rewriter" "notes" "[[I" ∈ wsN := ysF_in (List.mem_of_getElem? (i := 77) rfl)
set_option maxRecDepth 100000 in
theorem yL_6_36 : Cond.fieldLink RX6 36 "ProofHouse$Rewriter" "nextNote" "I" ∈ wsN := ysF_in (List.mem_of_getElem? (i := 78) rfl)
set_option maxRecDepth 100000 in
theorem yL_6_47 : Cond.fieldLink RX6 47 "ProofHouse$Rewriter" "terms" "LProofHouse$Terms;" ∈ wsN := ysF_in (List.mem_of_getElem? (i := 79) rfl)
set_option maxRecDepth 100000 in
theorem yL_6_51 : Cond.fieldLink RX6 51 "ProofHouse$Rewriter" "evaluator" "LProofHouse$Evaluator;" ∈ wsN := ysF_in (List.mem_of_getElem? (i := 80) rfl)
set_option maxRecDepth 100000 in
theorem yL_6_60 : Cond.fieldLink RX6 60 "ProofHouse$Rewriter" "mine" "LProofHouse$Scribe;" ∈ wsN := ysF_in (List.mem_of_getElem? (i := 81) rfl)
set_option maxRecDepth 100000 in
theorem yL_6_64 : Cond.fieldLink RX6 64 "ProofHouse$Rewriter" "other" "LProofHouse$Scribe;" ∈ wsN := ysF_in (List.mem_of_getElem? (i := 82) rfl)
set_option maxRecDepth 100000 in
theorem yL_7_34 : Cond.fieldLink RX7 34 "ProofHouse$Room" "given" "I" ∈ wsN := ysF_in (List.mem_of_getElem? (i := 83) rfl)
set_option maxRecDepth 100000 in
theorem yL_7_37 : Cond.fieldLink RX7 37 "ProofHouse$Room" "spent" "I" ∈ wsN := ysF_in (List.mem_of_getElem? (i := 84) rfl)
set_option maxRecDepth 100000 in
theorem yL_7_40 : Cond.fieldLink RX7 40 "ProofHouse$Room" "trouble" "I" ∈ wsN := ysF_in (List.mem_of_getElem? (i := 85) rfl)
set_option maxRecDepth 100000 in
theorem yL_7_27 : Cond.fieldLink RX7 27 "ProofHouse$Room" "heads" "[I" ∈ wsN := ysF_in (List.mem_of_getElem? (i := 86) rfl)
set_option maxRecDepth 100000 in
theorem yL_7_12 : Cond.fieldLink RX7 12 "ProofHouse$Room" "cells" "[J" ∈ wsN := ysF_in (List.mem_of_getElem? (i := 87) rfl)
set_option maxRecDepth 100000 in
theorem yL_7_16 : Cond.fieldLink RX7 16 "ProofHouse$Room" "chain" "[I" ∈ wsN := ysF_in (List.mem_of_getElem? (i := 88) rfl)
set_option maxRecDepth 100000 in
theorem yL_7_30 : Cond.fieldLink RX7 30 "ProofHouse$Room" "used" "I" ∈ wsN := ysF_in (List.mem_of_getElem? (i := 89) rfl)
set_option maxRecDepth 100000 in
theorem yL_7_20 : Cond.fieldLink RX7 20 "ProofHouse$Room" "sums" "[I" ∈ wsN := ysF_in (List.mem_of_getElem? (i := 90) rfl)
set_option maxRecDepth 100000 in
theorem yL_7_23 : Cond.fieldLink RX7 23 "ProofHouse$Room" "heights" "[I" ∈ wsN := ysF_in (List.mem_of_getElem? (i := 91) rfl)
set_option maxRecDepth 100000 in
theorem yL_8_19 : Cond.fieldLink RX8 19 "ProofHouse$Schemes" "deep" "I" ∈ wsN := ysF_in (List.mem_of_getElem? (i := 92) rfl)
set_option maxRecDepth 100000 in
theorem yL_8_15 : Cond.fieldLink RX8 15 "ProofHouse$Schemes" "third" "[Z" ∈ wsN := ysF_in (List.mem_of_getElem? (i := 93) rfl)
set_option maxRecDepth 100000 in
theorem yL_8_38 : Cond.fieldLink RX8 38 "ProofHouse$Schemes" "room" "LProofHouse$Room;" ∈ wsN := ysF_in (List.mem_of_getElem? (i := 94) rfl)
set_option maxRecDepth 100000 in
theorem yL_8_11 : Cond.fieldLink RX8 11 "ProofHouse$Schemes" "ifs" "[I" ∈ wsN := ysF_in (List.mem_of_getElem? (i := 95) rfl)
set_option maxRecDepth 100000 in
theorem yL_8_23 : Cond.fieldLink RX8 23 "ProofHouse$Schemes" "pathEnd" "I" ∈ wsN := ysF_in (List.mem_of_getElem? (i := 96) rfl)
set_option maxRecDepth 100000 in
theorem yL_8_46 : Cond.fieldLink RX8 46 "ProofHouse$Schemes" "terms" "LProofHouse$Terms;" ∈ wsN := ysF_in (List.mem_of_getElem? (i := 97) rfl)
set_option maxRecDepth 100000 in
theorem yL_8_29 : Cond.fieldLink RX8 29 "ProofHouse$Schemes" "callCount" "I" ∈ wsN := ysF_in (List.mem_of_getElem? (i := 98) rfl)
set_option maxRecDepth 100000 in
theorem yL_8_26 : Cond.fieldLink RX8 26 "ProofHouse$Schemes" "calls" "[I" ∈ wsN := ysF_in (List.mem_of_getElem? (i := 99) rfl)
set_option maxRecDepth 100000 in
theorem yL_8_42 : Cond.fieldLink RX8 42 "ProofHouse$Schemes" "book" "LProofHouse$Book;" ∈ wsN := ysF_in (List.mem_of_getElem? (i := 100) rfl)
set_option maxRecDepth 100000 in
theorem yL_8_32 : Cond.fieldLink RX8 32 "ProofHouse$Schemes" "filled" "[I" ∈ wsN := ysF_in (List.mem_of_getElem? (i := 101) rfl)
set_option maxRecDepth 100000 in
theorem yL_8_35 : Cond.fieldLink RX8 35 "ProofHouse$Schemes" "induction" "I" ∈ wsN := ysF_in (List.mem_of_getElem? (i := 102) rfl)
set_option maxRecDepth 100000 in
theorem yL_9_9 : Cond.fieldLink RX9 9 "ProofHouse$Scribe" "length" "I" ∈ wsN := ysF_in (List.mem_of_getElem? (i := 103) rfl)
set_option maxRecDepth 100000 in
theorem yL_9_25 : Cond.fieldLink RX9 25 "ProofHouse$Scribe" "letters" "[C" ∈ wsN := ysF_in (List.mem_of_getElem? (i := 104) rfl)
set_option maxRecDepth 100000 in
theorem yL_9_15 : Cond.fieldLink RX9 15 "ProofHouse$Scribe" "room" "LProofHouse$Room;" ∈ wsN := ysF_in (List.mem_of_getElem? (i := 105) rfl)
set_option maxRecDepth 100000 in
theorem yL_9_29 : Cond.fieldLink RX9 29 "ProofHouse$Scribe" "rests" "[I" ∈ wsN := ysF_in (List.mem_of_getElem? (i := 106) rfl)
set_option maxRecDepth 100000 in
theorem yL_10_43 : Cond.fieldLink RX10 43 "ProofHouse$Terms" "values" "[I" ∈ wsN := ysF_in (List.mem_of_getElem? (i := 107) rfl)
set_option maxRecDepth 100000 in
theorem yL_10_34 : Cond.fieldLink RX10 34 "ProofHouse$Terms" "names" "[I" ∈ wsN := ysF_in (List.mem_of_getElem? (i := 108) rfl)
set_option maxRecDepth 100000 in
theorem yL_10_55 : Cond.fieldLink RX10 55 "ProofHouse$Terms" "room" "LProofHouse$Room;" ∈ wsN := ysF_in (List.mem_of_getElem? (i := 109) rfl)
set_option maxRecDepth 100000 in
theorem yL_10_37 : Cond.fieldLink RX10 37 "ProofHouse$Terms" "rests" "[I" ∈ wsN := ysF_in (List.mem_of_getElem? (i := 110) rfl)
set_option maxRecDepth 100000 in
theorem yL_10_40 : Cond.fieldLink RX10 40 "ProofHouse$Terms" "bases" "[I" ∈ wsN := ysF_in (List.mem_of_getElem? (i := 111) rfl)
set_option maxRecDepth 100000 in
theorem yL_10_28 : Cond.fieldLink RX10 28 "ProofHouse$Terms" "replaced" "I" ∈ wsN := ysF_in (List.mem_of_getElem? (i := 112) rfl)
set_option maxRecDepth 100000 in
theorem yL_10_31 : Cond.fieldLink RX10 31 "ProofHouse$Terms" "replacement" "I" ∈ wsN := ysF_in (List.mem_of_getElem? (i := 113) rfl)
set_option maxRecDepth 100000 in
theorem yL_10_9 : Cond.fieldLink RX10 9 "ProofHouse$Terms" "ownName" "I" ∈ wsN := ysF_in (List.mem_of_getElem? (i := 114) rfl)
set_option maxRecDepth 100000 in
theorem yL_10_15 : Cond.fieldLink RX10 15 "ProofHouse$Terms" "ownArity" "I" ∈ wsN := ysF_in (List.mem_of_getElem? (i := 115) rfl)
set_option maxRecDepth 100000 in
theorem yL_10_59 : Cond.fieldLink RX10 59 "ProofHouse$Terms" "book" "LProofHouse$Book;" ∈ wsN := ysF_in (List.mem_of_getElem? (i := 116) rfl)
set_option maxRecDepth 100000 in
theorem yL_10_25 : Cond.fieldLink RX10 25 "ProofHouse$Terms" "bound" "I" ∈ wsN := ysF_in (List.mem_of_getElem? (i := 117) rfl)
set_option maxRecDepth 100000 in
theorem yL_10_18 : Cond.fieldLink RX10 18 "ProofHouse$Terms" "variables" "[I" ∈ wsN := ysF_in (List.mem_of_getElem? (i := 118) rfl)
set_option maxRecDepth 100000 in
theorem yL_10_22 : Cond.fieldLink RX10 22 "ProofHouse$Terms" "meanings" "[I" ∈ wsN := ysF_in (List.mem_of_getElem? (i := 119) rfl)
set_option maxRecDepth 100000 in
theorem yL_10_46 : Cond.fieldLink RX10 46 "ProofHouse$Terms" "waiting" "[I" ∈ wsN := ysF_in (List.mem_of_getElem? (i := 120) rfl)
set_option maxRecDepth 100000 in
theorem yL_10_49 : Cond.fieldLink RX10 49 "ProofHouse$Terms" "targets" "[I" ∈ wsN := ysF_in (List.mem_of_getElem? (i := 121) rfl)
set_option maxRecDepth 100000 in
theorem yL_10_52 : Cond.fieldLink RX10 52 "ProofHouse$Terms" "parts" "[I" ∈ wsN := ysF_in (List.mem_of_getElem? (i := 122) rfl)
set_option maxRecDepth 100000 in
theorem yL_11_108 : Cond.fieldLink RX11 108 "ProofHouse" "waiting" "[I" ∈ wsN := ysF_in (List.mem_of_getElem? (i := 123) rfl)
set_option maxRecDepth 100000 in
theorem yL_11_105 : Cond.fieldLink RX11 105 "ProofHouse" "textLength" "I" ∈ wsN := ysF_in (List.mem_of_getElem? (i := 124) rfl)
set_option maxRecDepth 100000 in
theorem yL_11_101 : Cond.fieldLink RX11 101 "ProofHouse" "text" "[C" ∈ wsN := ysF_in (List.mem_of_getElem? (i := 125) rfl)
set_option maxRecDepth 100000 in
theorem yL_11_112 : Cond.fieldLink RX11 112 "ProofHouse" "fuelSet" "I" ∈ wsN := ysF_in (List.mem_of_getElem? (i := 126) rfl)
set_option maxRecDepth 100000 in
theorem yL_11_36 : Cond.fieldLink RX11 36 "ProofHouse" "reader" "LProofHouse$Reader;" ∈ wsN := ysF_in (List.mem_of_getElem? (i := 127) rfl)
set_option maxRecDepth 100000 in
theorem yL_11_14 : Cond.fieldLink RX11 14 "ProofHouse" "room" "LProofHouse$Room;" ∈ wsN := ysF_in (List.mem_of_getElem? (i := 128) rfl)
set_option maxRecDepth 100000 in
theorem yL_11_88 : Cond.fieldLink RX11 88 "ProofHouse" "prover" "LProofHouse$Prover;" ∈ wsN := ysF_in (List.mem_of_getElem? (i := 129) rfl)
set_option maxRecDepth 100000 in
theorem yL_11_97 : Cond.fieldLink RX11 97 "ProofHouse" "proofs" "LProofHouse$Proofs;" ∈ wsN := ysF_in (List.mem_of_getElem? (i := 130) rfl)
set_option maxRecDepth 100000 in
theorem yL_11_127 : Cond.fieldLink RX11 127 "ProofHouse" "stepsMade" "I" ∈ wsN := ysF_in (List.mem_of_getElem? (i := 131) rfl)
set_option maxRecDepth 100000 in
theorem yL_11_130 : Cond.fieldLink RX11 130 "ProofHouse" "workFault" "I" ∈ wsN := ysF_in (List.mem_of_getElem? (i := 132) rfl)
set_option maxRecDepth 100000 in
theorem yL_11_27 : Cond.fieldLink RX11 27 "ProofHouse" "book" "LProofHouse$Book;" ∈ wsN := ysF_in (List.mem_of_getElem? (i := 133) rfl)
set_option maxRecDepth 100000 in
theorem yL_11_45 : Cond.fieldLink RX11 45 "ProofHouse" "out" "LProofHouse$Scribe;" ∈ wsN := ysF_in (List.mem_of_getElem? (i := 134) rfl)
set_option maxRecDepth 100000 in
theorem yL_11_133 : Cond.fieldLink RX11 133 "ProofHouse" "proved" "Z" ∈ wsN := ysF_in (List.mem_of_getElem? (i := 135) rfl)
set_option maxRecDepth 100000 in
theorem yL_11_70 : Cond.fieldLink RX11 70 "ProofHouse" "rewriter" "LProofHouse$Rewriter;" ∈ wsN := ysF_in (List.mem_of_getElem? (i := 136) rfl)
set_option maxRecDepth 100000 in
theorem yL_11_115 : Cond.fieldLink RX11 115 "ProofHouse" "name" "I" ∈ wsN := ysF_in (List.mem_of_getElem? (i := 137) rfl)
set_option maxRecDepth 100000 in
theorem yL_11_118 : Cond.fieldLink RX11 118 "ProofHouse" "subject" "I" ∈ wsN := ysF_in (List.mem_of_getElem? (i := 138) rfl)
set_option maxRecDepth 100000 in
theorem yL_11_121 : Cond.fieldLink RX11 121 "ProofHouse" "measure" "I" ∈ wsN := ysF_in (List.mem_of_getElem? (i := 139) rfl)
set_option maxRecDepth 100000 in
theorem yL_11_124 : Cond.fieldLink RX11 124 "ProofHouse" "hints" "I" ∈ wsN := ysF_in (List.mem_of_getElem? (i := 140) rfl)
set_option maxRecDepth 100000 in
theorem yL_11_79 : Cond.fieldLink RX11 79 "ProofHouse" "schemes" "LProofHouse$Schemes;" ∈ wsN := ysF_in (List.mem_of_getElem? (i := 141) rfl)
set_option maxRecDepth 100000 in
theorem yL_11_54 : Cond.fieldLink RX11 54 "ProofHouse" "terms" "LProofHouse$Terms;" ∈ wsN := ysF_in (List.mem_of_getElem? (i := 142) rfl)
set_option maxRecDepth 100000 in
theorem yL_11_61 : Cond.fieldLink RX11 61 "ProofHouse" "evaluator" "LProofHouse$Evaluator;" ∈ wsN := ysF_in (List.mem_of_getElem? (i := 143) rfl)
set_option maxRecDepth 100000 in
theorem yL_0_79 : Cond.fieldLink RX0 79 "ProofHouse$Book" "BASE_ARITIES" "[I" ∈ wsN := ysF_in (List.mem_of_getElem? (i := 144) rfl)
set_option maxRecDepth 100000 in
theorem yL_3_96 : Cond.fieldLink RX3 96 "ProofHouse$Proofs" "LENGTHS" "[I" ∈ wsN := ysF_in (List.mem_of_getElem? (i := 145) rfl)
set_option maxRecDepth 100000 in
theorem yL_3_100 : Cond.fieldLink RX3 100 "ProofHouse$Proofs" "PART_COUNTS" "[I" ∈ wsN := ysF_in (List.mem_of_getElem? (i := 146) rfl)
set_option maxRecDepth 100000 in
theorem yL_3_103 : Cond.fieldLink RX3 103 "ProofHouse$Proofs" "FIRST_PARTS" "[I" ∈ wsN := ysF_in (List.mem_of_getElem? (i := 147) rfl)
set_option maxRecDepth 100000 in
theorem yL_3_106 : Cond.fieldLink RX3 106 "ProofHouse$Proofs" "TERM_COUNTS" "[I" ∈ wsN := ysF_in (List.mem_of_getElem? (i := 148) rfl)
set_option maxRecDepth 100000 in
theorem yK_2_61 : Cond.constant RX2 61 (jI (1000000)) ∈ wsN := ysK_in (List.mem_of_getElem? (i := 0) rfl)
set_option maxRecDepth 100000 in
theorem yK_3_61 : Cond.constant RX3 61 (jI (1000000)) ∈ wsN := ysK_in (List.mem_of_getElem? (i := 1) rfl)
set_option maxRecDepth 100000 in
theorem yK_4_70 : Cond.constant RX4 70 (jI (1000000)) ∈ wsN := ysK_in (List.mem_of_getElem? (i := 2) rfl)
set_option maxRecDepth 100000 in
theorem yK_6_76 : Cond.constant RX6 76 (jI (1000000)) ∈ wsN := ysK_in (List.mem_of_getElem? (i := 3) rfl)
set_option maxRecDepth 100000 in
theorem yK_7_11 : Cond.constant RX7 11 (jI (160000)) ∈ wsN := ysK_in (List.mem_of_getElem? (i := 4) rfl)
set_option maxRecDepth 100000 in
theorem yK_7_77 : Cond.constant RX7 77 (jI (2147483647)) ∈ wsN := ysK_in (List.mem_of_getElem? (i := 5) rfl)
set_option maxRecDepth 100000 in
theorem yK_7_78 : Cond.constant RX7 78 (jI (1000000)) ∈ wsN := ysK_in (List.mem_of_getElem? (i := 6) rfl)
set_option maxRecDepth 100000 in
theorem yK_8_64 : Cond.constant RX8 64 (jI (1000000)) ∈ wsN := ysK_in (List.mem_of_getElem? (i := 7) rfl)
set_option maxRecDepth 100000 in
theorem yK_10_63 : Cond.constant RX10 63 (jI (1000000)) ∈ wsN := ysK_in (List.mem_of_getElem? (i := 8) rfl)
set_option maxRecDepth 100000 in
theorem yK_11_249 : Cond.constant RX11 249 (jI (1000000)) ∈ wsN := ysK_in (List.mem_of_getElem? (i := 9) rfl)
set_option maxRecDepth 100000 in
theorem yK_2_134 : Cond.constantLong RX2 134 (jL (4611686018427387903)) ∈ wsN := ysK_in (List.mem_of_getElem? (i := 10) rfl)
set_option maxRecDepth 100000 in
theorem yK_5_79 : Cond.constantLong RX5 79 (jL (-1)) ∈ wsN := ysK_in (List.mem_of_getElem? (i := 11) rfl)
set_option maxRecDepth 100000 in
theorem yK_5_99 : Cond.constantLong RX5 99 (jL (4611686018427387903)) ∈ wsN := ysK_in (List.mem_of_getElem? (i := 12) rfl)
set_option maxRecDepth 100000 in
theorem yK_5_101 : Cond.constantLong RX5 101 (jL (10)) ∈ wsN := ysK_in (List.mem_of_getElem? (i := 13) rfl)
set_option maxRecDepth 100000 in
theorem yK_5_103 : Cond.constantLong RX5 103 (jL (47)) ∈ wsN := ysK_in (List.mem_of_getElem? (i := 14) rfl)
set_option maxRecDepth 100000 in
theorem yK_5_105 : Cond.constantLong RX5 105 (jL (4611686018427387904)) ∈ wsN := ysK_in (List.mem_of_getElem? (i := 15) rfl)
set_option maxRecDepth 100000 in
theorem yK_7_75 : Cond.constantLong RX7 75 (jL (-7046029254386353131)) ∈ wsN := ysK_in (List.mem_of_getElem? (i := 16) rfl)
set_option maxRecDepth 100000 in
theorem yK_7_69 : Cond.constantLong RX7 69 (jL (4611686018427387904)) ∈ wsN := ysK_in (List.mem_of_getElem? (i := 17) rfl)
set_option maxRecDepth 100000 in
theorem yK_9_61 : Cond.constantLong RX9 61 (jL (4611686018427387904)) ∈ wsN := ysK_in (List.mem_of_getElem? (i := 18) rfl)
set_option maxRecDepth 100000 in
theorem yK_9_63 : Cond.constantLong RX9 63 (jL (4611686018427387903)) ∈ wsN := ysK_in (List.mem_of_getElem? (i := 19) rfl)
set_option maxRecDepth 100000 in
theorem yK_11_3 : Cond.constantLong RX11 3 (jL (-9223372036854775808)) ∈ wsN := ysK_in (List.mem_of_getElem? (i := 20) rfl)
set_option maxRecDepth 100000 in
theorem yJ_0 : Cond.methodLink RX1 25 arraycopyName ∈ wsN := ysJ_in (List.mem_of_getElem? (i := 0) rfl)
set_option maxRecDepth 100000 in
theorem yJ_1 : Cond.methodLink RX5 54 Lib.Math.max.name ∈ wsN := ysJ_in (List.mem_of_getElem? (i := 1) rfl)
set_option maxRecDepth 100000 in
theorem yJ_2 : Cond.methodLink RX6 159 arraycopyName ∈ wsN := ysJ_in (List.mem_of_getElem? (i := 2) rfl)
set_option maxRecDepth 100000 in
theorem yJ_3 : Cond.methodLink RX6 208 Lib.Math.min.name ∈ wsN := ysJ_in (List.mem_of_getElem? (i := 3) rfl)
set_option maxRecDepth 100000 in
theorem yJ_4 : Cond.methodLink RX7 79 Lib.Math.min.name ∈ wsN := ysJ_in (List.mem_of_getElem? (i := 4) rfl)
set_option maxRecDepth 100000 in
theorem yJ_5 : Cond.methodLink RX7 85 Lib.Math.max.name ∈ wsN := ysJ_in (List.mem_of_getElem? (i := 5) rfl)
set_option maxRecDepth 100000 in
theorem yJ_6 : Cond.methodLink RX8 188 Lib.Math.max.name ∈ wsN := ysJ_in (List.mem_of_getElem? (i := 6) rfl)
set_option maxRecDepth 100000 in
theorem yJ_7 : Cond.methodLink RX9 73 Lib.Math.min.name ∈ wsN := ysJ_in (List.mem_of_getElem? (i := 7) rfl)
set_option maxRecDepth 100000 in
theorem yJ_8 : Cond.static Lib.Math.max.name ∈ wsN := ysJ_in (List.mem_of_getElem? (i := 8) rfl)
set_option maxRecDepth 100000 in
theorem yJ_9 : Cond.code Lib.Math.max.name Lib.Math.max.code 2 (some .int) ∈ wsN := ysJ_in (List.mem_of_getElem? (i := 9) rfl)
set_option maxRecDepth 100000 in
theorem yJ_10 : Cond.static Lib.Math.min.name ∈ wsN := ysJ_in (List.mem_of_getElem? (i := 10) rfl)
set_option maxRecDepth 100000 in
theorem yJ_11 : Cond.code Lib.Math.min.name Lib.Math.min.code 2 (some .int) ∈ wsN := ysJ_in (List.mem_of_getElem? (i := 11) rfl)
set_option maxRecDepth 100000 in
theorem yJ_12 : Cond.native arraycopyName ∈ wsN := ysJ_in (List.mem_of_getElem? (i := 12) rfl)
set_option maxRecDepth 100000 in
theorem yJ_13 : Cond.static arraycopyName ∈ wsN := ysJ_in (List.mem_of_getElem? (i := 13) rfl)
set_option maxRecDepth 100000 in
theorem yJ_14 : Cond.initialized "java/lang/System" ∈ wsN := ysJ_in (List.mem_of_getElem? (i := 14) rfl)
theorem hV {y : MethodName} {cy : ByteArray} {mx idx : Nat} {own C : String} {ret : Option FieldType} (i j q : Nat) (h0 : ysL[i]? = some (.methodLink own idx y)) (h1 : ysI[q]? = some (.initialized C)) (h2 : ysM[j]? = some (.instanceMethod y)) (h3 : ysM[j + 1]? = some (.selects C y y)) (h4 : ysM[j + 2]? = some (.code y cy mx ret)) : GoodIn wsN (wsV own idx C y (.code y cy mx ret :: wsN)) := by
  refine fun w hw => ?_
  have hm : w ∈ wsN := by
    rcases List.mem_append.mp hw with h | h
    · simp only [List.mem_cons, List.not_mem_nil, or_false] at h
      rcases h with rfl | rfl | rfl | rfl
      · exact ysL_in (List.mem_of_getElem? h0)
      · exact ysM_in (List.mem_of_getElem? h2)
      · exact ysM_in (List.mem_of_getElem? h3)
      · exact ysI_in (List.mem_of_getElem? h1)
    · rcases List.mem_cons.mp h with rfl | h
      · exact ysM_in (List.mem_of_getElem? h4)
      · exact h
  exact ⟨hm, good_of_word (wsN_good w hm)⟩
set_option maxRecDepth 100000 in
theorem yG_2_62 : GoodIn wsN (wsV RX2 62 RX7 yX7_isCall (.code yX7_isCall cX7_isCall 2 (some .boolean) :: wsN)) := hV 0 324 7 rfl rfl rfl rfl rfl
set_option maxRecDepth 100000 in
theorem yG_2_68 : GoodIn wsN (wsV RX2 68 RX2 yX2_begin (.code yX2_begin cX2_begin 2 none :: wsN)) := hV 1 57 2 rfl rfl rfl rfl rfl
set_option maxRecDepth 100000 in
theorem yG_2_72 : GoodIn wsN (wsV RX2 72 RX7 yX7_isVariable (.code yX7_isVariable cX7_isVariable 2 (some .boolean) :: wsN)) := hV 2 315 7 rfl rfl rfl rfl rfl
set_option maxRecDepth 100000 in
theorem yG_2_75 : GoodIn wsN (wsV RX2 75 RX2 yX2_parameterValue (.code yX2_parameterValue cX2_parameterValue 5 (some .int) :: wsN)) := hV 3 63 2 rfl rfl rfl rfl rfl
set_option maxRecDepth 100000 in
theorem yG_2_79 : GoodIn wsN (wsV RX2 79 RX7 yX7_valueOf (.code yX7_valueOf cX7_valueOf 4 (some .int) :: wsN)) := hV 4 354 7 rfl rfl rfl rfl rfl
set_option maxRecDepth 100000 in
theorem yG_2_82 : GoodIn wsN (wsV RX2 82 RX2 yX2_hold (.code yX2_hold cX2_hold 2 none :: wsN)) := hV 5 60 2 rfl rfl rfl rfl rfl
set_option maxRecDepth 100000 in
theorem yG_2_85 : GoodIn wsN (wsV RX2 85 RX2 yX2_isReady (.code yX2_isReady cX2_isReady 2 (some .boolean) :: wsN)) := hV 6 54 2 rfl rfl rfl rfl rfl
set_option maxRecDepth 100000 in
theorem yG_2_88 : GoodIn wsN (wsV RX2 88 RX2 yX2_baseValue (.code yX2_baseValue cX2_baseValue 9 (some .int) :: wsN)) := hV 7 72 2 rfl rfl rfl rfl rfl
set_option maxRecDepth 100000 in
theorem yG_2_92 : GoodIn wsN (wsV RX2 92 RX2 yX2_close (.code yX2_close cX2_close 2 none :: wsN)) := hV 8 69 2 rfl rfl rfl rfl rfl
set_option maxRecDepth 100000 in
theorem yG_2_95 : GoodIn wsN (wsV RX2 95 RX2 yX2_goOn (.code yX2_goOn cX2_goOn 3 (some .int) :: wsN)) := hV 9 66 2 rfl rfl rfl rfl rfl
set_option maxRecDepth 100000 in
theorem yG_2_98 : GoodIn wsN (wsV RX2 98 RX7 yX7_isPair (.code yX7_isPair cX7_isPair 2 (some .boolean) :: wsN)) := hV 10 306 7 rfl rfl rfl rfl rfl
set_option maxRecDepth 100000 in
theorem yG_2_101 : GoodIn wsN (wsV RX2 101 RX7 yX7_step (.code yX7_step cX7_step 1 (some .boolean) :: wsN)) := hV 11 291 7 rfl rfl rfl rfl rfl
set_option maxRecDepth 100000 in
theorem yG_2_105 : GoodIn wsN (wsV RX2 105 RX7 yX7_left (.code yX7_left cX7_left 2 (some .int) :: wsN)) := hV 12 333 7 rfl rfl rfl rfl rfl
set_option maxRecDepth 100000 in
theorem yG_2_108 : GoodIn wsN (wsV RX2 108 RX7 yX7_right (.code yX7_right cX7_right 2 (some .int) :: wsN)) := hV 13 336 7 rfl rfl rfl rfl rfl
set_option maxRecDepth 100000 in
theorem yG_2_116 : GoodIn wsN (wsV RX2 116 RX0 yX0_functionOf (.code yX0_functionOf cX0_functionOf 3 (some .int) :: wsN)) := hV 14 0 0 rfl rfl rfl rfl rfl
set_option maxRecDepth 100000 in
theorem yG_2_126 : GoodIn wsN (wsV RX2 126 RX7 yX7_made (.code yX7_made cX7_made 11 (some .int) :: wsN)) := hV 15 297 7 rfl rfl rfl rfl rfl
set_option maxRecDepth 100000 in
theorem yG_2_130 : GoodIn wsN (wsV RX2 130 RX7 yX7_numberOf (.code yX7_numberOf cX7_numberOf 2 (some .long) :: wsN)) := hV 16 351 7 rfl rfl rfl rfl rfl
set_option maxRecDepth 100000 in
theorem yG_2_136 : GoodIn wsN (wsV RX2 136 RX7 yX7_isNatural (.code yX7_isNatural cX7_isNatural 2 (some .boolean) :: wsN)) := hV 17 309 7 rfl rfl rfl rfl rfl
set_option maxRecDepth 100000 in
theorem yG_2_139 : GoodIn wsN (wsV RX2 139 RX7 yX7_isSymbol (.code yX7_isSymbol cX7_isSymbol 2 (some .boolean) :: wsN)) := hV 18 312 7 rfl rfl rfl rfl rfl
set_option maxRecDepth 100000 in
theorem yG_2_142 : GoodIn wsN (wsV RX2 142 RX7 yX7_heightOf (.code yX7_heightOf cX7_heightOf 2 (some .int) :: wsN)) := hV 19 348 7 rfl rfl rfl rfl rfl
set_option maxRecDepth 100000 in
theorem yG_3_57 : GoodIn wsN (wsV RX3 57 RX3 yX3_open (.code yX3_open cX3_open 4 none :: wsN)) := hV 20 78 3 rfl rfl rfl rfl rfl
set_option maxRecDepth 100000 in
theorem yG_3_67 : GoodIn wsN (wsV RX3 67 RX7 yX7_item (.code yX7_item cX7_item 5 (some .int) :: wsN)) := hV 21 339 7 rfl rfl rfl rfl rfl
set_option maxRecDepth 100000 in
theorem yG_3_71 : GoodIn wsN (wsV RX3 71 RX3 yX3_conclude (.code yX3_conclude cX3_conclude 6 none :: wsN)) := hV 22 99 3 rfl rfl rfl rfl rfl
set_option maxRecDepth 100000 in
theorem yG_3_75 : GoodIn wsN (wsV RX3 75 RX7 yX7_blame (.code yX7_blame cX7_blame 2 none :: wsN)) := hV 23 294 7 rfl rfl rfl rfl rfl
set_option maxRecDepth 100000 in
theorem yG_3_78 : GoodIn wsN (wsV RX3 78 RX7 yX7_step (.code yX7_step cX7_step 1 (some .boolean) :: wsN)) := hV 24 291 7 rfl rfl rfl rfl rfl
set_option maxRecDepth 100000 in
theorem yG_3_82 : GoodIn wsN (wsV RX3 82 RX3 yX3_isFormed (.code yX3_isFormed cX3_isFormed 6 (some .boolean) :: wsN)) := hV 25 81 3 rfl rfl rfl rfl rfl
set_option maxRecDepth 100000 in
theorem yG_3_86 : GoodIn wsN (wsV RX3 86 RX3 yX3_isWholeFormed (.code yX3_isWholeFormed cX3_isWholeFormed 2 (some .boolean) :: wsN)) := hV 26 87 3 rfl rfl rfl rfl rfl
set_option maxRecDepth 100000 in
theorem yG_3_89 : GoodIn wsN (wsV RX3 89 RX7 yX7_left (.code yX7_left cX7_left 2 (some .int) :: wsN)) := hV 27 333 7 rfl rfl rfl rfl rfl
set_option maxRecDepth 100000 in
theorem yG_3_93 : GoodIn wsN (wsV RX3 93 RX7 yX7_lengthOf (.code yX7_lengthOf cX7_lengthOf 4 (some .int) :: wsN)) := hV 28 342 7 rfl rfl rfl rfl rfl
set_option maxRecDepth 100000 in
theorem yG_3_109 : GoodIn wsN (wsV RX3 109 RX3 yX3_termAt (.code yX3_termAt cX3_termAt 3 (some .int) :: wsN)) := hV 29 84 3 rfl rfl rfl rfl rfl
set_option maxRecDepth 100000 in
theorem yG_3_112 : GoodIn wsN (wsV RX3 112 RX10 yX10_rebuilt (.code yX10_rebuilt cX10_rebuilt 9 (some .int) :: wsN)) := hV 30 414 10 rfl rfl rfl rfl rfl
set_option maxRecDepth 100000 in
theorem yG_3_117 : GoodIn wsN (wsV RX3 117 RX3 yX3_valueAt (.code yX3_valueAt cX3_valueAt 6 (some .int) :: wsN)) := hV 31 90 3 rfl rfl rfl rfl rfl
set_option maxRecDepth 100000 in
theorem yG_3_120 : GoodIn wsN (wsV RX3 120 RX0 yX0_functionOf (.code yX0_functionOf cX0_functionOf 3 (some .int) :: wsN)) := hV 32 0 0 rfl rfl rfl rfl rfl
set_option maxRecDepth 100000 in
theorem yG_3_125 : GoodIn wsN (wsV RX3 125 RX0 yX0_theoremOf (.code yX0_theoremOf cX0_theoremOf 3 (some .int) :: wsN)) := hV 33 3 0 rfl rfl rfl rfl rfl
set_option maxRecDepth 100000 in
theorem yG_3_128 : GoodIn wsN (wsV RX3 128 RX3 yX3_isListOfTerms (.code yX3_isListOfTerms cX3_isListOfTerms 4 (some .boolean) :: wsN)) := hV 34 93 3 rfl rfl rfl rfl rfl
set_option maxRecDepth 100000 in
theorem yG_3_131 : GoodIn wsN (wsV RX3 131 RX7 yX7_right (.code yX7_right cX7_right 2 (some .int) :: wsN)) := hV 35 336 7 rfl rfl rfl rfl rfl
set_option maxRecDepth 100000 in
theorem yG_3_134 : GoodIn wsN (wsV RX3 134 RX10 yX10_bindPairs (.code yX10_bindPairs cX10_bindPairs 6 (some .boolean) :: wsN)) := hV 36 441 10 rfl rfl rfl rfl rfl
set_option maxRecDepth 100000 in
theorem yG_3_137 : GoodIn wsN (wsV RX3 137 RX3 yX3_isInduction (.code yX3_isInduction cX3_isInduction 5 (some .boolean) :: wsN)) := hV 37 96 3 rfl rfl rfl rfl rfl
set_option maxRecDepth 100000 in
theorem yG_3_140 : GoodIn wsN (wsV RX3 140 RX7 yX7_isCall (.code yX7_isCall cX7_isCall 2 (some .boolean) :: wsN)) := hV 38 324 7 rfl rfl rfl rfl rfl
set_option maxRecDepth 100000 in
theorem yG_3_143 : GoodIn wsN (wsV RX3 143 RX10 yX10_isOfConstants (.code yX10_isOfConstants cX10_isOfConstants 3 (some .boolean) :: wsN)) := hV 39 456 10 rfl rfl rfl rfl rfl
set_option maxRecDepth 100000 in
theorem yG_3_146 : GoodIn wsN (wsV RX3 146 RX7 yX7_valueOf (.code yX7_valueOf cX7_valueOf 4 (some .int) :: wsN)) := hV 40 354 7 rfl rfl rfl rfl rfl
set_option maxRecDepth 100000 in
theorem yG_3_149 : GoodIn wsN (wsV RX3 149 RX2 yX2_baseValue (.code yX2_baseValue cX2_baseValue 9 (some .int) :: wsN)) := hV 41 72 2 rfl rfl rfl rfl rfl
set_option maxRecDepth 100000 in
theorem yG_3_155 : GoodIn wsN (wsV RX3 155 RX7 yX7_isPair (.code yX7_isPair cX7_isPair 2 (some .boolean) :: wsN)) := hV 42 306 7 rfl rfl rfl rfl rfl
set_option maxRecDepth 100000 in
theorem yG_3_158 : GoodIn wsN (wsV RX3 158 RX8 yX8_inductionAsked (.code yX8_inductionAsked cX8_inductionAsked 6 (some .int) :: wsN)) := hV 43 399 8 rfl rfl rfl rfl rfl
set_option maxRecDepth 100000 in
theorem yG_3_166 : GoodIn wsN (wsV RX3 166 RX8 yX8_countPaths (.code yX8_countPaths cX8_countPaths 4 (some .int) :: wsN)) := hV 44 363 8 rfl rfl rfl rfl rfl
set_option maxRecDepth 100000 in
theorem yG_3_169 : GoodIn wsN (wsV RX3 169 RX1 yX1_clear (.code yX1_clear cX1_clear 1 none :: wsN)) := hV 45 33 1 rfl rfl rfl rfl rfl
set_option maxRecDepth 100000 in
theorem yG_3_172 : GoodIn wsN (wsV RX3 172 RX3 yX3_concludeAlone (.code yX3_concludeAlone cX3_concludeAlone 9 none :: wsN)) := hV 46 102 3 rfl rfl rfl rfl rfl
set_option maxRecDepth 100000 in
theorem yG_3_176 : GoodIn wsN (wsV RX3 176 RX3 yX3_isInduced (.code yX3_isInduced cX3_isInduced 9 (some .boolean) :: wsN)) := hV 47 129 3 rfl rfl rfl rfl rfl
set_option maxRecDepth 100000 in
theorem yG_3_180 : GoodIn wsN (wsV RX3 180 RX3 yX3_concludeOfParts (.code yX3_concludeOfParts cX3_concludeOfParts 6 (some .boolean) :: wsN)) := hV 48 114 3 rfl rfl rfl rfl rfl
set_option maxRecDepth 100000 in
theorem yG_3_183 : GoodIn wsN (wsV RX3 183 RX10 yX10_join (.code yX10_join cX10_join 3 none :: wsN)) := hV 49 480 10 rfl rfl rfl rfl rfl
set_option maxRecDepth 100000 in
theorem yG_3_186 : GoodIn wsN (wsV RX3 186 RX10 yX10_negated (.code yX10_negated cX10_negated 2 (some .int) :: wsN)) := hV 50 447 10 rfl rfl rfl rfl rfl
set_option maxRecDepth 100000 in
theorem yG_3_189 : GoodIn wsN (wsV RX3 189 RX3 yX3_joinEqual (.code yX3_joinEqual cX3_joinEqual 4 none :: wsN)) := hV 51 105 3 rfl rfl rfl rfl rfl
set_option maxRecDepth 100000 in
theorem yG_3_193 : GoodIn wsN (wsV RX3 193 RX7 yX7_constantOf (.code yX7_constantOf cX7_constantOf 2 (some .int) :: wsN)) := hV 52 357 7 rfl rfl rfl rfl rfl
set_option maxRecDepth 100000 in
theorem yG_3_196 : GoodIn wsN (wsV RX3 196 RX3 yX3_definedCall (.code yX3_definedCall cX3_definedCall 2 (some .int) :: wsN)) := hV 53 111 3 rfl rfl rfl rfl rfl
set_option maxRecDepth 100000 in
theorem yG_3_202 : GoodIn wsN (wsV RX3 202 RX10 yX10_call (.code yX10_call cX10_call 7 (some .int) :: wsN)) := hV 54 444 10 rfl rfl rfl rfl rfl
set_option maxRecDepth 100000 in
theorem yG_3_205 : GoodIn wsN (wsV RX3 205 RX3 yX3_concludePair (.code yX3_concludePair cX3_concludePair 8 none :: wsN)) := hV 55 108 3 rfl rfl rfl rfl rfl
set_option maxRecDepth 100000 in
theorem yG_3_219 : GoodIn wsN (wsV RX3 219 RX7 yX7_made (.code yX7_made cX7_made 11 (some .int) :: wsN)) := hV 56 297 7 rfl rfl rfl rfl rfl
set_option maxRecDepth 100000 in
theorem yG_3_223 : GoodIn wsN (wsV RX3 223 RX3 yX3_concludeWeak (.code yX3_concludeWeak cX3_concludeWeak 5 none :: wsN)) := hV 57 123 3 rfl rfl rfl rfl rfl
set_option maxRecDepth 100000 in
theorem yG_3_227 : GoodIn wsN (wsV RX3 227 RX3 yX3_isCut (.code yX3_isCut cX3_isCut 7 (some .boolean) :: wsN)) := hV 58 126 3 rfl rfl rfl rfl rfl
set_option maxRecDepth 100000 in
theorem yG_3_231 : GoodIn wsN (wsV RX3 231 RX3 yX3_joinRebuilt (.code yX3_joinRebuilt cX3_joinRebuilt 5 none :: wsN)) := hV 59 120 3 rfl rfl rfl rfl rfl
set_option maxRecDepth 100000 in
theorem yG_3_240 : GoodIn wsN (wsV RX3 240 RX7 yX7_isCallOf (.code yX7_isCallOf cX7_isCallOf 3 (some .boolean) :: wsN)) := hV 60 327 7 rfl rfl rfl rfl rfl
set_option maxRecDepth 100000 in
theorem yG_3_250 : GoodIn wsN (wsV RX3 250 RX3 yX3_joinAllBut (.code yX3_joinAllBut cX3_joinAllBut 5 none :: wsN)) := hV 61 117 3 rfl rfl rfl rfl rfl
set_option maxRecDepth 100000 in
theorem yG_3_253 : GoodIn wsN (wsV RX3 253 RX1 yX1_copy (.code yX1_copy cX1_copy 2 none :: wsN)) := hV 62 36 1 rfl rfl rfl rfl rfl
set_option maxRecDepth 100000 in
theorem yG_3_257 : GoodIn wsN (wsV RX3 257 RX10 yX10_isNegation (.code yX10_isNegation cX10_isNegation 3 (some .boolean) :: wsN)) := hV 63 450 10 rfl rfl rfl rfl rfl
set_option maxRecDepth 100000 in
theorem yG_3_260 : GoodIn wsN (wsV RX3 260 RX1 yX1_placeOf (.code yX1_placeOf cX1_placeOf 3 (some .int) :: wsN)) := hV 64 39 1 rfl rfl rfl rfl rfl
set_option maxRecDepth 100000 in
theorem yG_3_263 : GoodIn wsN (wsV RX3 263 RX8 yX8_goToPath (.code yX8_goToPath cX8_goToPath 3 (some .boolean) :: wsN)) := hV 65 360 8 rfl rfl rfl rfl rfl
set_option maxRecDepth 100000 in
theorem yG_3_266 : GoodIn wsN (wsV RX3 266 RX8 yX8_addRulers (.code yX8_addRulers cX8_addRulers 7 none :: wsN)) := hV 66 372 8 rfl rfl rfl rfl rfl
set_option maxRecDepth 100000 in
theorem yG_3_269 : GoodIn wsN (wsV RX3 269 RX8 yX8_addInductionHypotheses (.code yX8_addInductionHypotheses cX8_addInductionHypotheses 7 none :: wsN)) := hV 67 378 8 rfl rfl rfl rfl rfl
set_option maxRecDepth 100000 in
theorem yG_3_272 : GoodIn wsN (wsV RX3 272 RX3 yX3_isWithin (.code yX3_isWithin cX3_isWithin 4 (some .boolean) :: wsN)) := hV 68 132 3 rfl rfl rfl rfl rfl
set_option maxRecDepth 100000 in
theorem yG_4_54 : GoodIn wsN (wsV RX4 54 RX7 yX7_blame (.code yX7_blame cX7_blame 2 none :: wsN)) := hV 69 294 7 rfl rfl rfl rfl rfl
set_option maxRecDepth 100000 in
theorem yG_4_60 : GoodIn wsN (wsV RX4 60 RX1 yX1_clear (.code yX1_clear cX1_clear 1 none :: wsN)) := hV 70 33 1 rfl rfl rfl rfl rfl
set_option maxRecDepth 100000 in
theorem yG_4_66 : GoodIn wsN (wsV RX4 66 RX1 yX1_copy (.code yX1_copy cX1_copy 2 none :: wsN)) := hV 71 36 1 rfl rfl rfl rfl rfl
set_option maxRecDepth 100000 in
theorem yG_4_71 : GoodIn wsN (wsV RX4 71 RX4 yX4_isPlain (.code yX4_isPlain cX4_isPlain 5 (some .boolean) :: wsN)) := hV 72 147 4 rfl rfl rfl rfl rfl
set_option maxRecDepth 100000 in
theorem yG_4_78 : GoodIn wsN (wsV RX4 78 RX4 yX4_leave (.code yX4_leave cX4_leave 2 none :: wsN)) := hV 73 144 4 rfl rfl rfl rfl rfl
set_option maxRecDepth 100000 in
theorem yG_4_81 : GoodIn wsN (wsV RX4 81 RX4 yX4_makeRound (.code yX4_makeRound cX4_makeRound 9 none :: wsN)) := hV 74 150 4 rfl rfl rfl rfl rfl
set_option maxRecDepth 100000 in
theorem yG_4_91 : GoodIn wsN (wsV RX4 91 RX7 yX7_isConstant (.code yX7_isConstant cX7_isConstant 4 (some .boolean) :: wsN)) := hV 75 321 7 rfl rfl rfl rfl rfl
set_option maxRecDepth 100000 in
theorem yG_4_95 : GoodIn wsN (wsV RX4 95 RX10 yX10_isNegation (.code yX10_isNegation cX10_isNegation 3 (some .boolean) :: wsN)) := hV 76 450 10 rfl rfl rfl rfl rfl
set_option maxRecDepth 100000 in
theorem yG_4_101 : GoodIn wsN (wsV RX4 101 RX4 yX4_rowOfOthers (.code yX4_rowOfOthers cX4_rowOfOthers 5 (some .int) :: wsN)) := hV 77 153 4 rfl rfl rfl rfl rfl
set_option maxRecDepth 100000 in
theorem yG_4_105 : GoodIn wsN (wsV RX4 105 RX6 yX6_recalled (.code yX6_recalled cX6_recalled 5 (some .int) :: wsN)) := hV 78 210 6 rfl rfl rfl rfl rfl
set_option maxRecDepth 100000 in
theorem yG_4_111 : GoodIn wsN (wsV RX4 111 RX6 yX6_rewritten (.code yX6_rewritten cX6_rewritten 6 (some .int) :: wsN)) := hV 79 204 6 rfl rfl rfl rfl rfl
set_option maxRecDepth 100000 in
theorem yG_4_114 : GoodIn wsN (wsV RX4 114 RX7 yX7_isCallOf (.code yX7_isCallOf cX7_isCallOf 3 (some .boolean) :: wsN)) := hV 80 327 7 rfl rfl rfl rfl rfl
set_option maxRecDepth 100000 in
theorem yG_4_117 : GoodIn wsN (wsV RX4 117 RX7 yX7_item (.code yX7_item cX7_item 5 (some .int) :: wsN)) := hV 81 339 7 rfl rfl rfl rfl rfl
set_option maxRecDepth 100000 in
theorem yG_4_121 : GoodIn wsN (wsV RX4 121 RX4 yX4_split (.code yX4_split cX4_split 9 none :: wsN)) := hV 82 159 4 rfl rfl rfl rfl rfl
set_option maxRecDepth 100000 in
theorem yG_4_125 : GoodIn wsN (wsV RX4 125 RX4 yX4_stands (.code yX4_stands cX4_stands 5 (some .boolean) :: wsN)) := hV 83 156 4 rfl rfl rfl rfl rfl
set_option maxRecDepth 100000 in
theorem yG_4_129 : GoodIn wsN (wsV RX4 129 RX1 yX1_isTooBig (.code yX1_isTooBig cX1_isTooBig 1 (some .boolean) :: wsN)) := hV 84 45 1 rfl rfl rfl rfl rfl
set_option maxRecDepth 100000 in
theorem yG_4_133 : GoodIn wsN (wsV RX4 133 RX10 yX10_negated (.code yX10_negated cX10_negated 2 (some .int) :: wsN)) := hV 85 447 10 rfl rfl rfl rfl rfl
set_option maxRecDepth 100000 in
theorem yG_4_141 : GoodIn wsN (wsV RX4 141 RX7 yX7_made (.code yX7_made cX7_made 11 (some .int) :: wsN)) := hV 86 297 7 rfl rfl rfl rfl rfl
set_option maxRecDepth 100000 in
theorem yG_4_145 : GoodIn wsN (wsV RX4 145 RX7 yX7_sizeOf (.code yX7_sizeOf cX7_sizeOf 2 (some .int) :: wsN)) := hV 87 345 7 rfl rfl rfl rfl rfl
set_option maxRecDepth 100000 in
theorem yG_4_148 : GoodIn wsN (wsV RX4 148 RX1 yX1_remove (.code yX1_remove cX1_remove 4 none :: wsN)) := hV 88 48 1 rfl rfl rfl rfl rfl
set_option maxRecDepth 100000 in
theorem yG_4_152 : GoodIn wsN (wsV RX4 152 RX1 yX1_placeOf (.code yX1_placeOf cX1_placeOf 3 (some .int) :: wsN)) := hV 89 39 1 rfl rfl rfl rfl rfl
set_option maxRecDepth 100000 in
theorem yG_4_155 : GoodIn wsN (wsV RX4 155 RX1 yX1_insert (.code yX1_insert cX1_insert 5 (some .boolean) :: wsN)) := hV 90 42 1 rfl rfl rfl rfl rfl
set_option maxRecDepth 100000 in
theorem yG_4_159 : GoodIn wsN (wsV RX4 159 RX4 yX4_fillSplit (.code yX4_fillSplit cX4_fillSplit 7 none :: wsN)) := hV 91 162 4 rfl rfl rfl rfl rfl
set_option maxRecDepth 100000 in
theorem yG_4_163 : GoodIn wsN (wsV RX4 163 RX10 yX10_join (.code yX10_join cX10_join 3 none :: wsN)) := hV 92 480 10 rfl rfl rfl rfl rfl
set_option maxRecDepth 100000 in
theorem yG_4_167 : GoodIn wsN (wsV RX4 167 RX4 yX4_listOf (.code yX4_listOf cX4_listOf 4 (some .int) :: wsN)) := hV 93 165 4 rfl rfl rfl rfl rfl
set_option maxRecDepth 100000 in
theorem yG_4_171 : GoodIn wsN (wsV RX4 171 RX6 yX6_isAllRecalled (.code yX6_isAllRecalled cX6_isAllRecalled 1 (some .boolean) :: wsN)) := hV 94 276 6 rfl rfl rfl rfl rfl
set_option maxRecDepth 100000 in
theorem yG_5_47 : GoodIn wsN (wsV RX5 47 RX5 yX5_lineEnd (.code yX5_lineEnd cX5_lineEnd 5 (some .int) :: wsN)) := hV 95 180 5 rfl rfl rfl rfl rfl
set_option maxRecDepth 100000 in
theorem yG_5_51 : GoodIn wsN (wsV RX5 51 RX5 yX5_takeWord (.code yX5_takeWord cX5_takeWord 10 (some .int) :: wsN)) := hV 96 186 5 rfl rfl rfl rfl rfl
set_option maxRecDepth 100000 in
theorem yG_5_60 : GoodIn wsN (wsV RX5 60 RX5 yX5_refuse (.code yX5_refuse cX5_refuse 3 none :: wsN)) := hV 97 177 5 rfl rfl rfl rfl rfl
set_option maxRecDepth 100000 in
theorem yG_5_72 : GoodIn wsN (wsV RX5 72 RX5 yX5_atomEnd (.code yX5_atomEnd cX5_atomEnd 5 (some .int) :: wsN)) := hV 98 183 5 rfl rfl rfl rfl rfl
set_option maxRecDepth 100000 in
theorem yG_5_75 : GoodIn wsN (wsV RX5 75 RX5 yX5_atomCell (.code yX5_atomCell cX5_atomCell 13 (some .long) :: wsN)) := hV 99 189 5 rfl rfl rfl rfl rfl
set_option maxRecDepth 100000 in
theorem yG_5_81 : GoodIn wsN (wsV RX5 81 RX5 yX5_canStand (.code yX5_canStand cX5_canStand 2 (some .boolean) :: wsN)) := hV 100 192 5 rfl rfl rfl rfl rfl
set_option maxRecDepth 100000 in
theorem yG_5_85 : GoodIn wsN (wsV RX5 85 RX7 yX7_made (.code yX7_made cX7_made 11 (some .int) :: wsN)) := hV 101 297 7 rfl rfl rfl rfl rfl
set_option maxRecDepth 100000 in
theorem yG_5_91 : GoodIn wsN (wsV RX5 91 RX5 yX5_deliver (.code yX5_deliver cX5_deliver 3 none :: wsN)) := hV 102 198 5 rfl rfl rfl rfl rfl
set_option maxRecDepth 100000 in
theorem yG_5_95 : GoodIn wsN (wsV RX5 95 RX5 yX5_takeMark (.code yX5_takeMark cX5_takeMark 3 none :: wsN)) := hV 103 195 5 rfl rfl rfl rfl rfl
set_option maxRecDepth 100000 in
theorem yG_6_72 : GoodIn wsN (wsV RX6 72 RX6 yX6_ask (.code yX6_ask cX6_ask 5 none :: wsN)) := hV 104 207 6 rfl rfl rfl rfl rfl
set_option maxRecDepth 100000 in
theorem yG_6_82 : GoodIn wsN (wsV RX6 82 RX6 yX6_start (.code yX6_start cX6_start 4 none :: wsN)) := hV 105 219 6 rfl rfl rfl rfl rfl
set_option maxRecDepth 100000 in
theorem yG_6_86 : GoodIn wsN (wsV RX6 86 RX6 yX6_goOnWithTest (.code yX6_goOnWithTest cX6_goOnWithTest 5 none :: wsN)) := hV 106 222 6 rfl rfl rfl rfl rfl
set_option maxRecDepth 100000 in
theorem yG_6_89 : GoodIn wsN (wsV RX6 89 RX6 yX6_goOnWithThen (.code yX6_goOnWithThen cX6_goOnWithThen 3 none :: wsN)) := hV 107 225 6 rfl rfl rfl rfl rfl
set_option maxRecDepth 100000 in
theorem yG_6_92 : GoodIn wsN (wsV RX6 92 RX6 yX6_choice (.code yX6_choice cX6_choice 5 (some .int) :: wsN)) := hV 108 228 6 rfl rfl rfl rfl rfl
set_option maxRecDepth 100000 in
theorem yG_6_96 : GoodIn wsN (wsV RX6 96 RX6 yX6_finish (.code yX6_finish cX6_finish 4 none :: wsN)) := hV 109 213 6 rfl rfl rfl rfl rfl
set_option maxRecDepth 100000 in
theorem yG_6_100 : GoodIn wsN (wsV RX6 100 RX6 yX6_goOnWithNegation (.code yX6_goOnWithNegation cX6_goOnWithNegation 4 none :: wsN)) := hV 110 231 6 rfl rfl rfl rfl rfl
set_option maxRecDepth 100000 in
theorem yG_6_103 : GoodIn wsN (wsV RX6 103 RX6 yX6_gather (.code yX6_gather cX6_gather 5 none :: wsN)) := hV 111 237 6 rfl rfl rfl rfl rfl
set_option maxRecDepth 100000 in
theorem yG_6_106 : GoodIn wsN (wsV RX6 106 RX6 yX6_compute (.code yX6_compute cX6_compute 6 none :: wsN)) := hV 112 240 6 rfl rfl rfl rfl rfl
set_option maxRecDepth 100000 in
theorem yG_6_109 : GoodIn wsN (wsV RX6 109 RX7 yX7_item (.code yX7_item cX7_item 5 (some .int) :: wsN)) := hV 113 339 7 rfl rfl rfl rfl rfl
set_option maxRecDepth 100000 in
theorem yG_6_113 : GoodIn wsN (wsV RX6 113 RX6 yX6_reduceEqual (.code yX6_reduceEqual cX6_reduceEqual 9 none :: wsN)) := hV 114 243 6 rfl rfl rfl rfl rfl
set_option maxRecDepth 100000 in
theorem yG_6_117 : GoodIn wsN (wsV RX6 117 RX6 yX6_reduceLess (.code yX6_reduceLess cX6_reduceLess 8 none :: wsN)) := hV 115 246 6 rfl rfl rfl rfl rfl
set_option maxRecDepth 100000 in
theorem yG_6_120 : GoodIn wsN (wsV RX6 120 RX7 yX7_left (.code yX7_left cX7_left 2 (some .int) :: wsN)) := hV 116 333 7 rfl rfl rfl rfl rfl
set_option maxRecDepth 100000 in
theorem yG_6_124 : GoodIn wsN (wsV RX6 124 RX6 yX6_reduceOther (.code yX6_reduceOther cX6_reduceOther 7 none :: wsN)) := hV 117 249 6 rfl rfl rfl rfl rfl
set_option maxRecDepth 100000 in
theorem yG_6_127 : GoodIn wsN (wsV RX6 127 RX6 yX6_lookUp (.code yX6_lookUp cX6_lookUp 3 none :: wsN)) := hV 118 252 6 rfl rfl rfl rfl rfl
set_option maxRecDepth 100000 in
theorem yG_6_130 : GoodIn wsN (wsV RX6 130 RX6 yX6_seek (.code yX6_seek cX6_seek 3 none :: wsN)) := hV 119 255 6 rfl rfl rfl rfl rfl
set_option maxRecDepth 100000 in
theorem yG_6_133 : GoodIn wsN (wsV RX6 133 RX6 yX6_compare (.code yX6_compare cX6_compare 5 none :: wsN)) := hV 120 258 6 rfl rfl rfl rfl rfl
set_option maxRecDepth 100000 in
theorem yG_6_136 : GoodIn wsN (wsV RX6 136 RX6 yX6_apply (.code yX6_apply cX6_apply 4 none :: wsN)) := hV 121 261 6 rfl rfl rfl rfl rfl
set_option maxRecDepth 100000 in
theorem yG_6_139 : GoodIn wsN (wsV RX6 139 RX6 yX6_judge (.code yX6_judge cX6_judge 2 none :: wsN)) := hV 122 264 6 rfl rfl rfl rfl rfl
set_option maxRecDepth 100000 in
theorem yG_6_142 : GoodIn wsN (wsV RX6 142 RX6 yX6_unfold (.code yX6_unfold cX6_unfold 6 none :: wsN)) := hV 123 267 6 rfl rfl rfl rfl rfl
set_option maxRecDepth 100000 in
theorem yG_6_145 : GoodIn wsN (wsV RX6 145 RX6 yX6_chooseBranch (.code yX6_chooseBranch cX6_chooseBranch 3 none :: wsN)) := hV 124 270 6 rfl rfl rfl rfl rfl
set_option maxRecDepth 100000 in
theorem yG_6_148 : GoodIn wsN (wsV RX6 148 RX6 yX6_recalled (.code yX6_recalled cX6_recalled 5 (some .int) :: wsN)) := hV 125 210 6 rfl rfl rfl rfl rfl
set_option maxRecDepth 100000 in
theorem yG_6_152 : GoodIn wsN (wsV RX6 152 RX7 yX7_blame (.code yX7_blame cX7_blame 2 none :: wsN)) := hV 126 294 7 rfl rfl rfl rfl rfl
set_option maxRecDepth 100000 in
theorem yG_6_155 : GoodIn wsN (wsV RX6 155 RX7 yX7_step (.code yX7_step cX7_step 1 (some .boolean) :: wsN)) := hV 127 291 7 rfl rfl rfl rfl rfl
set_option maxRecDepth 100000 in
theorem yG_6_165 : GoodIn wsN (wsV RX6 165 RX7 yX7_isConstant (.code yX7_isConstant cX7_isConstant 4 (some .boolean) :: wsN)) := hV 128 321 7 rfl rfl rfl rfl rfl
set_option maxRecDepth 100000 in
theorem yG_6_169 : GoodIn wsN (wsV RX6 169 RX7 yX7_isCall (.code yX7_isCall cX7_isCall 2 (some .boolean) :: wsN)) := hV 129 324 7 rfl rfl rfl rfl rfl
set_option maxRecDepth 100000 in
theorem yG_6_172 : GoodIn wsN (wsV RX6 172 RX6 yX6_lookedUp (.code yX6_lookedUp cX6_lookedUp 11 (some .int) :: wsN)) := hV 130 234 6 rfl rfl rfl rfl rfl
set_option maxRecDepth 100000 in
theorem yG_6_175 : GoodIn wsN (wsV RX6 175 RX7 yX7_isCallOf (.code yX7_isCallOf cX7_isCallOf 3 (some .boolean) :: wsN)) := hV 131 327 7 rfl rfl rfl rfl rfl
set_option maxRecDepth 100000 in
theorem yG_6_179 : GoodIn wsN (wsV RX6 179 RX10 yX10_call (.code yX10_call cX10_call 7 (some .int) :: wsN)) := hV 132 444 10 rfl rfl rfl rfl rfl
set_option maxRecDepth 100000 in
theorem yG_6_184 : GoodIn wsN (wsV RX6 184 RX6 yX6_askInstead (.code yX6_askInstead cX6_askInstead 3 none :: wsN)) := hV 133 216 6 rfl rfl rfl rfl rfl
set_option maxRecDepth 100000 in
theorem yG_6_188 : GoodIn wsN (wsV RX6 188 RX7 yX7_right (.code yX7_right cX7_right 2 (some .int) :: wsN)) := hV 134 336 7 rfl rfl rfl rfl rfl
set_option maxRecDepth 100000 in
theorem yG_6_195 : GoodIn wsN (wsV RX6 195 RX7 yX7_made (.code yX7_made cX7_made 11 (some .int) :: wsN)) := hV 135 297 7 rfl rfl rfl rfl rfl
set_option maxRecDepth 100000 in
theorem yG_6_199 : GoodIn wsN (wsV RX6 199 RX10 yX10_negated (.code yX10_negated cX10_negated 2 (some .int) :: wsN)) := hV 136 447 10 rfl rfl rfl rfl rfl
set_option maxRecDepth 100000 in
theorem yG_6_202 : GoodIn wsN (wsV RX6 202 RX10 yX10_isBoolean (.code yX10_isBoolean cX10_isBoolean 2 (some .boolean) :: wsN)) := hV 137 453 10 rfl rfl rfl rfl rfl
set_option maxRecDepth 100000 in
theorem yG_6_205 : GoodIn wsN (wsV RX6 205 RX7 yX7_isPair (.code yX7_isPair cX7_isPair 2 (some .boolean) :: wsN)) := hV 138 306 7 rfl rfl rfl rfl rfl
set_option maxRecDepth 100000 in
theorem yG_6_213 : GoodIn wsN (wsV RX6 213 RX7 yX7_sizeOf (.code yX7_sizeOf cX7_sizeOf 2 (some .int) :: wsN)) := hV 139 345 7 rfl rfl rfl rfl rfl
set_option maxRecDepth 100000 in
theorem yG_6_216 : GoodIn wsN (wsV RX6 216 RX10 yX10_isOfConstants (.code yX10_isOfConstants cX10_isOfConstants 3 (some .boolean) :: wsN)) := hV 140 456 10 rfl rfl rfl rfl rfl
set_option maxRecDepth 100000 in
theorem yG_6_219 : GoodIn wsN (wsV RX6 219 RX7 yX7_valueOf (.code yX7_valueOf cX7_valueOf 4 (some .int) :: wsN)) := hV 141 354 7 rfl rfl rfl rfl rfl
set_option maxRecDepth 100000 in
theorem yG_6_222 : GoodIn wsN (wsV RX6 222 RX2 yX2_baseValue (.code yX2_baseValue cX2_baseValue 9 (some .int) :: wsN)) := hV 142 72 2 rfl rfl rfl rfl rfl
set_option maxRecDepth 100000 in
theorem yG_6_227 : GoodIn wsN (wsV RX6 227 RX2 yX2_evaluated (.code yX2_evaluated cX2_evaluated 7 (some .int) :: wsN)) := hV 143 51 2 rfl rfl rfl rfl rfl
set_option maxRecDepth 100000 in
theorem yG_6_230 : GoodIn wsN (wsV RX6 230 RX7 yX7_constantOf (.code yX7_constantOf cX7_constantOf 2 (some .int) :: wsN)) := hV 144 357 7 rfl rfl rfl rfl rfl
set_option maxRecDepth 100000 in
theorem yG_6_233 : GoodIn wsN (wsV RX6 233 RX7 yX7_isNatural (.code yX7_isNatural cX7_isNatural 2 (some .boolean) :: wsN)) := hV 145 309 7 rfl rfl rfl rfl rfl
set_option maxRecDepth 100000 in
theorem yG_6_236 : GoodIn wsN (wsV RX6 236 RX7 yX7_numberOf (.code yX7_numberOf cX7_numberOf 2 (some .long) :: wsN)) := hV 146 351 7 rfl rfl rfl rfl rfl
set_option maxRecDepth 100000 in
theorem yG_6_240 : GoodIn wsN (wsV RX6 240 RX0 yX0_canLook (.code yX0_canLook cX0_canLook 3 (some .boolean) :: wsN)) := hV 147 9 0 rfl rfl rfl rfl rfl
set_option maxRecDepth 100000 in
theorem yG_6_247 : GoodIn wsN (wsV RX6 247 RX10 yX10_matches (.code yX10_matches cX10_matches 9 (some .boolean) :: wsN)) := hV 148 459 10 rfl rfl rfl rfl rfl
set_option maxRecDepth 100000 in
theorem yG_6_254 : GoodIn wsN (wsV RX6 254 RX9 yX9_clear (.code yX9_clear cX9_clear 1 none :: wsN)) := hV 149 402 9 rfl rfl rfl rfl rfl
set_option maxRecDepth 100000 in
theorem yG_6_260 : GoodIn wsN (wsV RX6 260 RX10 yX10_rebuilt (.code yX10_rebuilt cX10_rebuilt 9 (some .int) :: wsN)) := hV 150 414 10 rfl rfl rfl rfl rfl
set_option maxRecDepth 100000 in
theorem yG_6_263 : GoodIn wsN (wsV RX6 263 RX9 yX9_write (.code yX9_write cX9_write 6 none :: wsN)) := hV 151 405 9 rfl rfl rfl rfl rfl
set_option maxRecDepth 100000 in
theorem yG_6_279 : GoodIn wsN (wsV RX6 279 RX0 yX0_functionOf (.code yX0_functionOf cX0_functionOf 3 (some .int) :: wsN)) := hV 152 0 0 rfl rfl rfl rfl rfl
set_option maxRecDepth 100000 in
theorem yG_6_291 : GoodIn wsN (wsV RX6 291 RX10 yX10_bindRow (.code yX10_bindRow cX10_bindRow 5 none :: wsN)) := hV 153 435 10 rfl rfl rfl rfl rfl
set_option maxRecDepth 100000 in
theorem yG_6_295 : GoodIn wsN (wsV RX6 295 RX6 yX6_rewritten (.code yX6_rewritten cX6_rewritten 6 (some .int) :: wsN)) := hV 154 204 6 rfl rfl rfl rfl rfl
set_option maxRecDepth 100000 in
theorem yG_6_301 : GoodIn wsN (wsV RX6 301 RX6 yX6_addHypotheses (.code yX6_addHypotheses cX6_addHypotheses 8 none :: wsN)) := hV 155 282 6 rfl rfl rfl rfl rfl
set_option maxRecDepth 100000 in
theorem yG_6_307 : GoodIn wsN (wsV RX6 307 RX6 yX6_isRule (.code yX6_isRule cX6_isRule 7 (some .boolean) :: wsN)) := hV 156 285 6 rfl rfl rfl rfl rfl
set_option maxRecDepth 100000 in
theorem yG_6_311 : GoodIn wsN (wsV RX6 311 RX10 yX10_isBoundToVariables (.code yX10_isBoundToVariables cX10_isBoundToVariables 3 (some .boolean) :: wsN)) := hV 157 462 10 rfl rfl rfl rfl rfl
set_option maxRecDepth 100000 in
theorem yG_6_320 : GoodIn wsN (wsV RX6 320 RX10 yX10_bindVariablesOf (.code yX10_bindVariablesOf cX10_bindVariablesOf 4 none :: wsN)) := hV 158 477 10 rfl rfl rfl rfl rfl
set_option maxRecDepth 100000 in
theorem yG_6_323 : GoodIn wsN (wsV RX6 323 RX10 yX10_hasBound (.code yX10_hasBound cX10_hasBound 7 (some .boolean) :: wsN)) := hV 159 474 10 rfl rfl rfl rfl rfl
set_option maxRecDepth 100000 in
theorem yG_7_88 : GoodIn wsN (wsV RX7 88 RX7 yX7_isNatural (.code yX7_isNatural cX7_isNatural 2 (some .boolean) :: wsN)) := hV 160 309 7 rfl rfl rfl rfl rfl
set_option maxRecDepth 100000 in
theorem yG_7_71 : GoodIn wsN (wsV RX7 71 RX7 yX7_made (.code yX7_made cX7_made 11 (some .int) :: wsN)) := hV 161 297 7 rfl rfl rfl rfl rfl
set_option maxRecDepth 100000 in
theorem yG_8_50 : GoodIn wsN (wsV RX8 50 RX7 yX7_item (.code yX7_item cX7_item 5 (some .int) :: wsN)) := hV 162 339 7 rfl rfl rfl rfl rfl
set_option maxRecDepth 100000 in
theorem yG_8_56 : GoodIn wsN (wsV RX8 56 RX7 yX7_isCallOf (.code yX7_isCallOf cX7_isCallOf 3 (some .boolean) :: wsN)) := hV 163 327 7 rfl rfl rfl rfl rfl
set_option maxRecDepth 100000 in
theorem yG_8_60 : GoodIn wsN (wsV RX8 60 RX8 yX8_goToPath (.code yX8_goToPath cX8_goToPath 3 (some .boolean) :: wsN)) := hV 164 360 8 rfl rfl rfl rfl rfl
set_option maxRecDepth 100000 in
theorem yG_8_65 : GoodIn wsN (wsV RX8 65 RX10 yX10_listParts (.code yX10_listParts cX10_listParts 7 (some .int) :: wsN)) := hV 165 465 10 rfl rfl rfl rfl rfl
set_option maxRecDepth 100000 in
theorem yG_8_74 : GoodIn wsN (wsV RX8 74 RX10 yX10_hasCallOf (.code yX10_hasCallOf cX10_hasCallOf 5 (some .boolean) :: wsN)) := hV 166 468 10 rfl rfl rfl rfl rfl
set_option maxRecDepth 100000 in
theorem yG_8_77 : GoodIn wsN (wsV RX8 77 RX8 yX8_listCalls (.code yX8_listCalls cX8_listCalls 4 none :: wsN)) := hV 167 366 8 rfl rfl rfl rfl rfl
set_option maxRecDepth 100000 in
theorem yG_8_81 : GoodIn wsN (wsV RX8 81 RX7 yX7_right (.code yX7_right cX7_right 2 (some .int) :: wsN)) := hV 168 336 7 rfl rfl rfl rfl rfl
set_option maxRecDepth 100000 in
theorem yG_8_84 : GoodIn wsN (wsV RX8 84 RX7 yX7_isPair (.code yX7_isPair cX7_isPair 2 (some .boolean) :: wsN)) := hV 169 306 7 rfl rfl rfl rfl rfl
set_option maxRecDepth 100000 in
theorem yG_8_87 : GoodIn wsN (wsV RX8 87 RX7 yX7_left (.code yX7_left cX7_left 2 (some .int) :: wsN)) := hV 170 333 7 rfl rfl rfl rfl rfl
set_option maxRecDepth 100000 in
theorem yG_8_90 : GoodIn wsN (wsV RX8 90 RX10 yX10_bindRow (.code yX10_bindRow cX10_bindRow 5 none :: wsN)) := hV 171 435 10 rfl rfl rfl rfl rfl
set_option maxRecDepth 100000 in
theorem yG_8_97 : GoodIn wsN (wsV RX8 97 RX10 yX10_rebuilt (.code yX10_rebuilt cX10_rebuilt 9 (some .int) :: wsN)) := hV 172 414 10 rfl rfl rfl rfl rfl
set_option maxRecDepth 100000 in
theorem yG_8_100 : GoodIn wsN (wsV RX8 100 RX10 yX10_negated (.code yX10_negated cX10_negated 2 (some .int) :: wsN)) := hV 173 447 10 rfl rfl rfl rfl rfl
set_option maxRecDepth 100000 in
theorem yG_8_103 : GoodIn wsN (wsV RX8 103 RX10 yX10_join (.code yX10_join cX10_join 3 none :: wsN)) := hV 174 480 10 rfl rfl rfl rfl rfl
set_option maxRecDepth 100000 in
theorem yG_8_107 : GoodIn wsN (wsV RX8 107 RX4 yX4_newClause (.code yX4_newClause cX4_newClause 2 (some (.object "ProofHouse$Clause")) :: wsN)) := hV 175 138 4 rfl rfl rfl rfl rfl
set_option maxRecDepth 100000 in
theorem yG_8_113 : GoodIn wsN (wsV RX8 113 RX8 yX8_addRulers (.code yX8_addRulers cX8_addRulers 7 none :: wsN)) := hV 176 372 8 rfl rfl rfl rfl rfl
set_option maxRecDepth 100000 in
theorem yG_8_117 : GoodIn wsN (wsV RX8 117 RX10 yX10_call (.code yX10_call cX10_call 7 (some .int) :: wsN)) := hV 177 444 10 rfl rfl rfl rfl rfl
set_option maxRecDepth 100000 in
theorem yG_8_132 : GoodIn wsN (wsV RX8 132 RX10 yX10_unbind (.code yX10_unbind cX10_unbind 1 none :: wsN)) := hV 178 429 10 rfl rfl rfl rfl rfl
set_option maxRecDepth 100000 in
theorem yG_8_135 : GoodIn wsN (wsV RX8 135 RX10 yX10_bind (.code yX10_bind cX10_bind 3 none :: wsN)) := hV 179 432 10 rfl rfl rfl rfl rfl
set_option maxRecDepth 100000 in
theorem yG_8_138 : GoodIn wsN (wsV RX8 138 RX0 yX0_theoremOf (.code yX0_theoremOf cX0_theoremOf 3 (some .int) :: wsN)) := hV 180 3 0 rfl rfl rfl rfl rfl
set_option maxRecDepth 100000 in
theorem yG_8_144 : GoodIn wsN (wsV RX8 144 RX10 yX10_bindPairs (.code yX10_bindPairs cX10_bindPairs 6 (some .boolean) :: wsN)) := hV 181 441 10 rfl rfl rfl rfl rfl
set_option maxRecDepth 100000 in
theorem yG_8_154 : GoodIn wsN (wsV RX8 154 RX1 yX1_clear (.code yX1_clear cX1_clear 1 none :: wsN)) := hV 182 33 1 rfl rfl rfl rfl rfl
set_option maxRecDepth 100000 in
theorem yG_8_159 : GoodIn wsN (wsV RX8 159 RX8 yX8_addUses (.code yX8_addUses cX8_addUses 6 none :: wsN)) := hV 183 384 8 rfl rfl rfl rfl rfl
set_option maxRecDepth 100000 in
theorem yG_8_162 : GoodIn wsN (wsV RX8 162 RX0 yX0_functionOf (.code yX0_functionOf cX0_functionOf 3 (some .int) :: wsN)) := hV 184 0 0 rfl rfl rfl rfl rfl
set_option maxRecDepth 100000 in
theorem yG_8_165 : GoodIn wsN (wsV RX8 165 RX1 yX1_copy (.code yX1_copy cX1_copy 2 none :: wsN)) := hV 185 36 1 rfl rfl rfl rfl rfl
set_option maxRecDepth 100000 in
theorem yG_8_172 : GoodIn wsN (wsV RX8 172 RX8 yX8_addInductionHypotheses (.code yX8_addInductionHypotheses cX8_addInductionHypotheses 7 none :: wsN)) := hV 186 378 8 rfl rfl rfl rfl rfl
set_option maxRecDepth 100000 in
theorem yG_8_176 : GoodIn wsN (wsV RX8 176 RX7 yX7_lengthOf (.code yX7_lengthOf cX7_lengthOf 4 (some .int) :: wsN)) := hV 187 342 7 rfl rfl rfl rfl rfl
set_option maxRecDepth 100000 in
theorem yG_8_179 : GoodIn wsN (wsV RX8 179 RX8 yX8_inductionAsked (.code yX8_inductionAsked cX8_inductionAsked 6 (some .int) :: wsN)) := hV 188 399 8 rfl rfl rfl rfl rfl
set_option maxRecDepth 100000 in
theorem yG_8_182 : GoodIn wsN (wsV RX8 182 RX8 yX8_useAsked (.code yX8_useAsked cX8_useAsked 4 (some .int) :: wsN)) := hV 189 393 8 rfl rfl rfl rfl rfl
set_option maxRecDepth 100000 in
theorem yG_8_185 : GoodIn wsN (wsV RX8 185 RX8 yX8_offAsked (.code yX8_offAsked cX8_offAsked 4 (some .int) :: wsN)) := hV 190 396 8 rfl rfl rfl rfl rfl
set_option maxRecDepth 100000 in
theorem yG_8_193 : GoodIn wsN (wsV RX8 193 RX7 yX7_isName (.code yX7_isName cX7_isName 2 (some .boolean) :: wsN)) := hV 191 318 7 rfl rfl rfl rfl rfl
set_option maxRecDepth 100000 in
theorem yG_8_196 : GoodIn wsN (wsV RX8 196 RX10 yX10_hasBound (.code yX10_hasBound cX10_hasBound 7 (some .boolean) :: wsN)) := hV 192 474 10 rfl rfl rfl rfl rfl
set_option maxRecDepth 100000 in
theorem yG_8_199 : GoodIn wsN (wsV RX8 199 RX10 yX10_areDifferentVariables (.code yX10_areDifferentVariables cX10_areDifferentVariables 4 (some .boolean) :: wsN)) := hV 193 438 10 rfl rfl rfl rfl rfl
set_option maxRecDepth 100000 in
theorem yG_9_33 : GoodIn wsN (wsV RX9 33 RX7 yX7_isQuoted (.code yX7_isQuoted cX7_isQuoted 4 (some .boolean) :: wsN)) := hV 194 330 7 rfl rfl rfl rfl rfl
set_option maxRecDepth 100000 in
theorem yG_9_39 : GoodIn wsN (wsV RX9 39 RX9 yX9_put (.code yX9_put cX9_put 2 none :: wsN)) := hV 195 408 9 rfl rfl rfl rfl rfl
set_option maxRecDepth 100000 in
theorem yG_9_43 : GoodIn wsN (wsV RX9 43 RX7 yX7_right (.code yX7_right cX7_right 2 (some .int) :: wsN)) := hV 196 336 7 rfl rfl rfl rfl rfl
set_option maxRecDepth 100000 in
theorem yG_9_47 : GoodIn wsN (wsV RX9 47 RX7 yX7_left (.code yX7_left cX7_left 2 (some .int) :: wsN)) := hV 197 333 7 rfl rfl rfl rfl rfl
set_option maxRecDepth 100000 in
theorem yG_9_50 : GoodIn wsN (wsV RX9 50 RX7 yX7_isPair (.code yX7_isPair cX7_isPair 2 (some .boolean) :: wsN)) := hV 198 306 7 rfl rfl rfl rfl rfl
set_option maxRecDepth 100000 in
theorem yG_9_53 : GoodIn wsN (wsV RX9 53 RX7 yX7_cellOf (.code yX7_cellOf cX7_cellOf 2 (some .long) :: wsN)) := hV 199 303 7 rfl rfl rfl rfl rfl
set_option maxRecDepth 100000 in
theorem yG_9_57 : GoodIn wsN (wsV RX9 57 RX9 yX9_putAtom (.code yX9_putAtom cX9_putAtom 10 none :: wsN)) := hV 200 411 9 rfl rfl rfl rfl rfl
set_option maxRecDepth 100000 in
theorem yG_10_64 : GoodIn wsN (wsV RX10 64 RX10 yX10_readMeaning (.code yX10_readMeaning cX10_readMeaning 5 (some .int) :: wsN)) := hV 201 423 10 rfl rfl rfl rfl rfl
set_option maxRecDepth 100000 in
theorem yG_10_68 : GoodIn wsN (wsV RX10 68 RX10 yX10_meaningOf (.code yX10_meaningOf cX10_meaningOf 4 (some .int) :: wsN)) := hV 202 420 10 rfl rfl rfl rfl rfl
set_option maxRecDepth 100000 in
theorem yG_10_72 : GoodIn wsN (wsV RX10 72 RX7 yX7_left (.code yX7_left cX7_left 2 (some .int) :: wsN)) := hV 203 333 7 rfl rfl rfl rfl rfl
set_option maxRecDepth 100000 in
theorem yG_10_77 : GoodIn wsN (wsV RX10 77 RX7 yX7_right (.code yX7_right cX7_right 2 (some .int) :: wsN)) := hV 204 336 7 rfl rfl rfl rfl rfl
set_option maxRecDepth 100000 in
theorem yG_10_80 : GoodIn wsN (wsV RX10 80 RX7 yX7_isPair (.code yX7_isPair cX7_isPair 2 (some .boolean) :: wsN)) := hV 205 306 7 rfl rfl rfl rfl rfl
set_option maxRecDepth 100000 in
theorem yG_10_88 : GoodIn wsN (wsV RX10 88 RX7 yX7_made (.code yX7_made cX7_made 11 (some .int) :: wsN)) := hV 206 297 7 rfl rfl rfl rfl rfl
set_option maxRecDepth 100000 in
theorem yG_10_92 : GoodIn wsN (wsV RX10 92 RX10 yX10_isTooBig (.code yX10_isTooBig cX10_isTooBig 4 (some .boolean) :: wsN)) := hV 207 417 10 rfl rfl rfl rfl rfl
set_option maxRecDepth 100000 in
theorem yG_10_96 : GoodIn wsN (wsV RX10 96 RX7 yX7_sizeOf (.code yX7_sizeOf cX7_sizeOf 2 (some .int) :: wsN)) := hV 208 345 7 rfl rfl rfl rfl rfl
set_option maxRecDepth 100000 in
theorem yG_10_99 : GoodIn wsN (wsV RX10 99 RX7 yX7_blame (.code yX7_blame cX7_blame 2 none :: wsN)) := hV 209 294 7 rfl rfl rfl rfl rfl
set_option maxRecDepth 100000 in
theorem yG_10_103 : GoodIn wsN (wsV RX10 103 RX7 yX7_isCall (.code yX7_isCall cX7_isCall 2 (some .boolean) :: wsN)) := hV 210 324 7 rfl rfl rfl rfl rfl
set_option maxRecDepth 100000 in
theorem yG_10_106 : GoodIn wsN (wsV RX10 106 RX7 yX7_isVariable (.code yX7_isVariable cX7_isVariable 2 (some .boolean) :: wsN)) := hV 211 315 7 rfl rfl rfl rfl rfl
set_option maxRecDepth 100000 in
theorem yG_10_109 : GoodIn wsN (wsV RX10 109 RX10 yX10_standsFor (.code yX10_standsFor cX10_standsFor 3 (some .int) :: wsN)) := hV 212 426 10 rfl rfl rfl rfl rfl
set_option maxRecDepth 100000 in
theorem yG_10_112 : GoodIn wsN (wsV RX10 112 RX7 yX7_valueOf (.code yX7_valueOf cX7_valueOf 4 (some .int) :: wsN)) := hV 213 354 7 rfl rfl rfl rfl rfl
set_option maxRecDepth 100000 in
theorem yG_10_115 : GoodIn wsN (wsV RX10 115 RX7 yX7_isNatural (.code yX7_isNatural cX7_isNatural 2 (some .boolean) :: wsN)) := hV 214 309 7 rfl rfl rfl rfl rfl
set_option maxRecDepth 100000 in
theorem yG_10_118 : GoodIn wsN (wsV RX10 118 RX7 yX7_isQuoted (.code yX7_isQuoted cX7_isQuoted 4 (some .boolean) :: wsN)) := hV 215 330 7 rfl rfl rfl rfl rfl
set_option maxRecDepth 100000 in
theorem yG_10_121 : GoodIn wsN (wsV RX10 121 RX0 yX0_arityOf (.code yX0_arityOf cX0_arityOf 3 (some .int) :: wsN)) := hV 216 6 0 rfl rfl rfl rfl rfl
set_option maxRecDepth 100000 in
theorem yG_10_126 : GoodIn wsN (wsV RX10 126 RX7 yX7_lengthOf (.code yX7_lengthOf cX7_lengthOf 4 (some .int) :: wsN)) := hV 217 342 7 rfl rfl rfl rfl rfl
set_option maxRecDepth 100000 in
theorem yG_10_129 : GoodIn wsN (wsV RX10 129 RX10 yX10_bind (.code yX10_bind cX10_bind 3 none :: wsN)) := hV 218 432 10 rfl rfl rfl rfl rfl
set_option maxRecDepth 100000 in
theorem yG_10_133 : GoodIn wsN (wsV RX10 133 RX7 yX7_item (.code yX7_item cX7_item 5 (some .int) :: wsN)) := hV 219 339 7 rfl rfl rfl rfl rfl
set_option maxRecDepth 100000 in
theorem yG_10_136 : GoodIn wsN (wsV RX10 136 RX10 yX10_rebuilt (.code yX10_rebuilt cX10_rebuilt 9 (some .int) :: wsN)) := hV 220 414 10 rfl rfl rfl rfl rfl
set_option maxRecDepth 100000 in
theorem yG_10_139 : GoodIn wsN (wsV RX10 139 RX7 yX7_isCallOf (.code yX7_isCallOf cX7_isCallOf 3 (some .boolean) :: wsN)) := hV 221 327 7 rfl rfl rfl rfl rfl
set_option maxRecDepth 100000 in
theorem yG_10_142 : GoodIn wsN (wsV RX10 142 RX7 yX7_isConstant (.code yX7_isConstant cX7_isConstant 4 (some .boolean) :: wsN)) := hV 222 321 7 rfl rfl rfl rfl rfl
set_option maxRecDepth 100000 in
theorem yG_10_145 : GoodIn wsN (wsV RX10 145 RX10 yX10_call (.code yX10_call cX10_call 7 (some .int) :: wsN)) := hV 223 444 10 rfl rfl rfl rfl rfl
set_option maxRecDepth 100000 in
theorem yG_10_149 : GoodIn wsN (wsV RX10 149 RX10 yX10_listParts (.code yX10_listParts cX10_listParts 7 (some .int) :: wsN)) := hV 224 465 10 rfl rfl rfl rfl rfl
set_option maxRecDepth 100000 in
theorem yG_10_157 : GoodIn wsN (wsV RX10 157 RX1 yX1_insert (.code yX1_insert cX1_insert 5 (some .boolean) :: wsN)) := hV 225 42 1 rfl rfl rfl rfl rfl
set_option maxRecDepth 100000 in
theorem yG_11_143 : GoodIn wsN (wsV RX11 143 RX11 yX11_forgetLatest (.code yX11_forgetLatest cX11_forgetLatest 1 none :: wsN)) := hV 226 521 11 rfl rfl rfl rfl rfl
set_option maxRecDepth 100000 in
theorem yG_11_146 : GoodIn wsN (wsV RX11 146 RX5 yX5_read (.code yX5_read cX5_read 5 (some .int) :: wsN)) := hV 227 174 5 rfl rfl rfl rfl rfl
set_option maxRecDepth 100000 in
theorem yG_11_153 : GoodIn wsN (wsV RX11 153 RX11 yX11_asked (.code yX11_asked cX11_asked 3 (some .int) :: wsN)) := hV 228 524 11 rfl rfl rfl rfl rfl
set_option maxRecDepth 100000 in
theorem yG_11_160 : GoodIn wsN (wsV RX11 160 RX7 yX7_begin (.code yX7_begin cX7_begin 2 none :: wsN)) := hV 229 288 7 rfl rfl rfl rfl rfl
set_option maxRecDepth 100000 in
theorem yG_11_163 : GoodIn wsN (wsV RX11 163 RX11 yX11_prepare (.code yX11_prepare cX11_prepare 3 none :: wsN)) := hV 230 542 11 rfl rfl rfl rfl rfl
set_option maxRecDepth 100000 in
theorem yG_11_166 : GoodIn wsN (wsV RX11 166 RX4 yX4_prove (.code yX4_prove cX4_prove 5 none :: wsN)) := hV 231 141 4 rfl rfl rfl rfl rfl
set_option maxRecDepth 100000 in
theorem yG_11_170 : GoodIn wsN (wsV RX11 170 RX7 yX7_left (.code yX7_left cX7_left 2 (some .int) :: wsN)) := hV 232 333 7 rfl rfl rfl rfl rfl
set_option maxRecDepth 100000 in
theorem yG_11_173 : GoodIn wsN (wsV RX11 173 RX7 yX7_item (.code yX7_item cX7_item 5 (some .int) :: wsN)) := hV 233 339 7 rfl rfl rfl rfl rfl
set_option maxRecDepth 100000 in
theorem yG_11_177 : GoodIn wsN (wsV RX11 177 RX3 yX3_goThrough (.code yX3_goThrough cX3_goThrough 5 none :: wsN)) := hV 234 75 3 rfl rfl rfl rfl rfl
set_option maxRecDepth 100000 in
theorem yG_11_183 : GoodIn wsN (wsV RX11 183 RX11 yX11_conclude (.code yX11_conclude cX11_conclude 5 (some .int) :: wsN)) := hV 235 551 11 rfl rfl rfl rfl rfl
set_option maxRecDepth 100000 in
theorem yG_11_195 : GoodIn wsN (wsV RX11 195 RX0 yX0_rules (.code yX0_rules cX0_rules 4 (some .int) :: wsN)) := hV 236 12 0 rfl rfl rfl rfl rfl
set_option maxRecDepth 100000 in
theorem yG_11_214 : GoodIn wsN (wsV RX11 214 RX0 yX0_placeOf (.code yX0_placeOf cX0_placeOf 4 (some .int) :: wsN)) := hV 237 30 0 rfl rfl rfl rfl rfl
set_option maxRecDepth 100000 in
theorem yG_11_224 : GoodIn wsN (wsV RX11 224 RX7 yX7_made (.code yX7_made cX7_made 11 (some .int) :: wsN)) := hV 239 297 7 rfl rfl rfl rfl rfl
set_option maxRecDepth 100000 in
theorem yG_11_243 : GoodIn wsN (wsV RX11 243 RX9 yX9_clear (.code yX9_clear cX9_clear 1 none :: wsN)) := hV 240 402 9 rfl rfl rfl rfl rfl
set_option maxRecDepth 100000 in
theorem yG_11_246 : GoodIn wsN (wsV RX11 246 RX9 yX9_write (.code yX9_write cX9_write 6 none :: wsN)) := hV 241 405 9 rfl rfl rfl rfl rfl
set_option maxRecDepth 100000 in
theorem yG_11_250 : GoodIn wsN (wsV RX11 250 RX6 yX6_doNotesHold (.code yX6_doNotesHold cX6_doNotesHold 5 (some .boolean) :: wsN)) := hV 242 273 6 rfl rfl rfl rfl rfl
set_option maxRecDepth 100000 in
theorem yG_11_254 : GoodIn wsN (wsV RX11 254 RX4 yX4_isAllProved (.code yX4_isAllProved cX4_isAllProved 1 (some .boolean) :: wsN)) := hV 243 171 4 rfl rfl rfl rfl rfl
set_option maxRecDepth 100000 in
theorem yG_11_260 : GoodIn wsN (wsV RX11 260 RX7 yX7_forget (.code yX7_forget cX7_forget 3 none :: wsN)) := hV 244 300 7 rfl rfl rfl rfl rfl
set_option maxRecDepth 100000 in
theorem yG_11_263 : GoodIn wsN (wsV RX11 263 RX0 yX0_muteNone (.code yX0_muteNone cX0_muteNone 2 none :: wsN)) := hV 245 15 0 rfl rfl rfl rfl rfl
set_option maxRecDepth 100000 in
theorem yG_11_266 : GoodIn wsN (wsV RX11 266 RX4 yX4_begin (.code yX4_begin cX4_begin 1 none :: wsN)) := hV 246 135 4 rfl rfl rfl rfl rfl
set_option maxRecDepth 100000 in
theorem yG_11_268 : GoodIn wsN (wsV RX11 268 RX11 yX11_isAsTold (.code yX11_isAsTold cX11_isAsTold 3 (some .boolean) :: wsN)) := hV 247 527 11 rfl rfl rfl rfl rfl
set_option maxRecDepth 100000 in
theorem yG_11_272 : GoodIn wsN (wsV RX11 272 RX8 yX8_hintsAsked (.code yX8_hintsAsked cX8_hintsAsked 9 (some .int) :: wsN)) := hV 248 390 8 rfl rfl rfl rfl rfl
set_option maxRecDepth 100000 in
theorem yG_11_275 : GoodIn wsN (wsV RX11 275 RX11 yX11_nameAsked (.code yX11_nameAsked cX11_nameAsked 3 (some .int) :: wsN)) := hV 249 539 11 rfl rfl rfl rfl rfl
set_option maxRecDepth 100000 in
theorem yG_11_278 : GoodIn wsN (wsV RX11 278 RX7 yX7_lengthOf (.code yX7_lengthOf cX7_lengthOf 4 (some .int) :: wsN)) := hV 250 342 7 rfl rfl rfl rfl rfl
set_option maxRecDepth 100000 in
theorem yG_11_281 : GoodIn wsN (wsV RX11 281 RX11 yX11_isTermAt (.code yX11_isTermAt cX11_isTermAt 3 (some .boolean) :: wsN)) := hV 251 533 11 rfl rfl rfl rfl rfl
set_option maxRecDepth 100000 in
theorem yG_11_285 : GoodIn wsN (wsV RX11 285 RX10 yX10_hasVariablesOf (.code yX10_hasVariablesOf cX10_hasVariablesOf 7 (some .boolean) :: wsN)) := hV 252 471 10 rfl rfl rfl rfl rfl
set_option maxRecDepth 100000 in
theorem yG_11_288 : GoodIn wsN (wsV RX11 288 RX7 yX7_right (.code yX7_right cX7_right 2 (some .int) :: wsN)) := hV 253 336 7 rfl rfl rfl rfl rfl
set_option maxRecDepth 100000 in
theorem yG_11_291 : GoodIn wsN (wsV RX11 291 RX11 yX11_isNameAt (.code yX11_isNameAt cX11_isNameAt 2 (some .boolean) :: wsN)) := hV 254 530 11 rfl rfl rfl rfl rfl
set_option maxRecDepth 100000 in
theorem yG_11_294 : GoodIn wsN (wsV RX11 294 RX11 yX11_isDefinition (.code yX11_isDefinition cX11_isDefinition 5 (some .boolean) :: wsN)) := hV 255 536 11 rfl rfl rfl rfl rfl
set_option maxRecDepth 100000 in
theorem yG_11_298 : GoodIn wsN (wsV RX11 298 RX7 yX7_isName (.code yX7_isName cX7_isName 2 (some .boolean) :: wsN)) := hV 256 318 7 rfl rfl rfl rfl rfl
set_option maxRecDepth 100000 in
theorem yG_11_301 : GoodIn wsN (wsV RX11 301 RX10 yX10_rebuilt (.code yX10_rebuilt cX10_rebuilt 9 (some .int) :: wsN)) := hV 257 414 10 rfl rfl rfl rfl rfl
set_option maxRecDepth 100000 in
theorem yG_11_304 : GoodIn wsN (wsV RX11 304 RX10 yX10_areDifferentVariables (.code yX10_areDifferentVariables cX10_areDifferentVariables 4 (some .boolean) :: wsN)) := hV 258 438 10 rfl rfl rfl rfl rfl
set_option maxRecDepth 100000 in
theorem yG_11_313 : GoodIn wsN (wsV RX11 313 RX10 yX10_hasCallOf (.code yX10_hasCallOf cX10_hasCallOf 5 (some .boolean) :: wsN)) := hV 259 468 10 rfl rfl rfl rfl rfl
set_option maxRecDepth 100000 in
theorem yG_11_316 : GoodIn wsN (wsV RX11 316 RX8 yX8_isFlat (.code yX8_isFlat cX8_isFlat 7 (some .boolean) :: wsN)) := hV 260 369 8 rfl rfl rfl rfl rfl
set_option maxRecDepth 100000 in
theorem yG_11_319 : GoodIn wsN (wsV RX11 319 RX0 yX0_theoremOf (.code yX0_theoremOf cX0_theoremOf 3 (some .int) :: wsN)) := hV 261 3 0 rfl rfl rfl rfl rfl
set_option maxRecDepth 100000 in
theorem yG_11_322 : GoodIn wsN (wsV RX11 322 RX0 yX0_functionOf (.code yX0_functionOf cX0_functionOf 3 (some .int) :: wsN)) := hV 262 0 0 rfl rfl rfl rfl rfl
set_option maxRecDepth 100000 in
theorem yG_11_328 : GoodIn wsN (wsV RX11 328 RX6 yX6_begin (.code yX6_begin cX6_begin 1 none :: wsN)) := hV 263 201 6 rfl rfl rfl rfl rfl
set_option maxRecDepth 100000 in
theorem yG_11_329 : GoodIn wsN (wsV RX11 329 RX2 yX2_evaluated (.code yX2_evaluated cX2_evaluated 7 (some .int) :: wsN)) := hV 264 51 2 rfl rfl rfl rfl rfl
set_option maxRecDepth 100000 in
theorem yG_11_332 : GoodIn wsN (wsV RX11 332 RX11 yX11_showValue (.code yX11_showValue cX11_showValue 2 none :: wsN)) := hV 265 545 11 rfl rfl rfl rfl rfl
set_option maxRecDepth 100000 in
theorem yG_11_335 : GoodIn wsN (wsV RX11 335 RX6 yX6_rewritten (.code yX6_rewritten cX6_rewritten 6 (some .int) :: wsN)) := hV 266 204 6 rfl rfl rfl rfl rfl
set_option maxRecDepth 100000 in
theorem yG_11_339 : GoodIn wsN (wsV RX11 339 RX11 yX11_showTerm (.code yX11_showTerm cX11_showTerm 2 none :: wsN)) := hV 267 548 11 rfl rfl rfl rfl rfl
set_option maxRecDepth 100000 in
theorem yG_11_342 : GoodIn wsN (wsV RX11 342 RX8 yX8_mute (.code yX8_mute cX8_mute 7 none :: wsN)) := hV 268 381 8 rfl rfl rfl rfl rfl
set_option maxRecDepth 100000 in
theorem yG_11_345 : GoodIn wsN (wsV RX11 345 RX8 yX8_addTheoremClauses (.code yX8_addTheoremClauses cX8_addTheoremClauses 9 none :: wsN)) := hV 269 387 8 rfl rfl rfl rfl rfl
set_option maxRecDepth 100000 in
theorem yG_11_349 : GoodIn wsN (wsV RX11 349 RX8 yX8_addMeasureClauses (.code yX8_addMeasureClauses cX8_addMeasureClauses 10 none :: wsN)) := hV 270 375 8 rfl rfl rfl rfl rfl
set_option maxRecDepth 100000 in
theorem yG_11_357 : GoodIn wsN (wsV RX11 357 RX0 yX0_takeBack (.code yX0_takeBack cX0_takeBack 1 none :: wsN)) := hV 271 27 0 rfl rfl rfl rfl rfl
set_option maxRecDepth 100000 in
theorem yG_11_363 : GoodIn wsN (wsV RX11 363 RX7 yX7_blame (.code yX7_blame cX7_blame 2 none :: wsN)) := hV 272 294 7 rfl rfl rfl rfl rfl
set_option maxRecDepth 100000 in
theorem yG_11_366 : GoodIn wsN (wsV RX11 366 RX4 yX4_listOfLeft (.code yX4_listOfLeft cX4_listOfLeft 3 (some .int) :: wsN)) := hV 273 168 4 rfl rfl rfl rfl rfl
set_option maxRecDepth 100000 in
theorem yG_11_373 : GoodIn wsN (wsV RX11 373 RX11 yX11_shownWrong (.code yX11_shownWrong cX11_shownWrong 4 (some .int) :: wsN)) := hV 274 554 11 rfl rfl rfl rfl rfl
set_option maxRecDepth 100000 in
theorem yG_11_376 : GoodIn wsN (wsV RX11 376 RX0 yX0_addFunction (.code yX0_addFunction cX0_addFunction 6 none :: wsN)) := hV 275 18 0 rfl rfl rfl rfl rfl
set_option maxRecDepth 100000 in
theorem yG_11_380 : GoodIn wsN (wsV RX11 380 RX0 yX0_enter (.code yX0_enter cX0_enter 3 none :: wsN)) := hV 276 24 0 rfl rfl rfl rfl rfl
set_option maxRecDepth 100000 in
theorem yG_11_384 : GoodIn wsN (wsV RX11 384 RX0 yX0_addTheorem (.code yX0_addTheorem cX0_addTheorem 3 none :: wsN)) := hV 277 21 0 rfl rfl rfl rfl rfl
set_option maxRecDepth 100000 in
theorem yG_11_387 : GoodIn wsN (wsV RX11 387 RX6 yX6_learn (.code yX6_learn cX6_learn 7 none :: wsN)) := hV 278 279 6 rfl rfl rfl rfl rfl
set_option maxRecDepth 100000 in
theorem yG_11_403 : GoodIn wsN (wsV RX11 403 RX4 yX4_listOf (.code yX4_listOf cX4_listOf 4 (some .int) :: wsN)) := hV 279 165 4 rfl rfl rfl rfl rfl
theorem yD_0_functionOf : yX0_functionOf.cls = RX0 ∧ yX0_functionOf.cls ≠ "java/lang/invoke/MethodHandle" ∧ yX0_functionOf.cls ≠ "java/lang/invoke/VarHandle" ∧ (parseMethodDescriptor yX0_functionOf.desc).map (fun d => d.parameters.length) = some 1 := by decide +kernel
theorem yD_0_theoremOf : yX0_theoremOf.cls = RX0 ∧ yX0_theoremOf.cls ≠ "java/lang/invoke/MethodHandle" ∧ yX0_theoremOf.cls ≠ "java/lang/invoke/VarHandle" ∧ (parseMethodDescriptor yX0_theoremOf.desc).map (fun d => d.parameters.length) = some 1 := by decide +kernel
theorem yD_0_arityOf : yX0_arityOf.cls = RX0 ∧ yX0_arityOf.cls ≠ "java/lang/invoke/MethodHandle" ∧ yX0_arityOf.cls ≠ "java/lang/invoke/VarHandle" ∧ (parseMethodDescriptor yX0_arityOf.desc).map (fun d => d.parameters.length) = some 1 := by decide +kernel
theorem yD_0_canLook : yX0_canLook.cls = RX0 ∧ yX0_canLook.cls ≠ "java/lang/invoke/MethodHandle" ∧ yX0_canLook.cls ≠ "java/lang/invoke/VarHandle" ∧ (parseMethodDescriptor yX0_canLook.desc).map (fun d => d.parameters.length) = some 2 := by decide +kernel
theorem yD_0_rules : yX0_rules.cls = RX0 ∧ yX0_rules.cls ≠ "java/lang/invoke/MethodHandle" ∧ yX0_rules.cls ≠ "java/lang/invoke/VarHandle" ∧ (parseMethodDescriptor yX0_rules.desc).map (fun d => d.parameters.length) = some 1 := by decide +kernel
theorem yD_0_muteNone : yX0_muteNone.cls = RX0 ∧ yX0_muteNone.cls ≠ "java/lang/invoke/MethodHandle" ∧ yX0_muteNone.cls ≠ "java/lang/invoke/VarHandle" ∧ (parseMethodDescriptor yX0_muteNone.desc).map (fun d => d.parameters.length) = some 0 := by decide +kernel
theorem yD_0_addFunction : yX0_addFunction.cls = RX0 ∧ yX0_addFunction.cls ≠ "java/lang/invoke/MethodHandle" ∧ yX0_addFunction.cls ≠ "java/lang/invoke/VarHandle" ∧ (parseMethodDescriptor yX0_addFunction.desc).map (fun d => d.parameters.length) = some 5 := by decide +kernel
theorem yD_0_addTheorem : yX0_addTheorem.cls = RX0 ∧ yX0_addTheorem.cls ≠ "java/lang/invoke/MethodHandle" ∧ yX0_addTheorem.cls ≠ "java/lang/invoke/VarHandle" ∧ (parseMethodDescriptor yX0_addTheorem.desc).map (fun d => d.parameters.length) = some 2 := by decide +kernel
theorem yD_0_enter : yX0_enter.cls = RX0 ∧ yX0_enter.cls ≠ "java/lang/invoke/MethodHandle" ∧ yX0_enter.cls ≠ "java/lang/invoke/VarHandle" ∧ (parseMethodDescriptor yX0_enter.desc).map (fun d => d.parameters.length) = some 2 := by decide +kernel
theorem yD_0_takeBack : yX0_takeBack.cls = RX0 ∧ yX0_takeBack.cls ≠ "java/lang/invoke/MethodHandle" ∧ yX0_takeBack.cls ≠ "java/lang/invoke/VarHandle" ∧ (parseMethodDescriptor yX0_takeBack.desc).map (fun d => d.parameters.length) = some 0 := by decide +kernel
theorem yD_0_placeOf : yX0_placeOf.cls = RX0 ∧ yX0_placeOf.cls ≠ "java/lang/invoke/MethodHandle" ∧ yX0_placeOf.cls ≠ "java/lang/invoke/VarHandle" ∧ (parseMethodDescriptor yX0_placeOf.desc).map (fun d => d.parameters.length) = some 1 := by decide +kernel
theorem yD_1_clear : yX1_clear.cls = RX1 ∧ yX1_clear.cls ≠ "java/lang/invoke/MethodHandle" ∧ yX1_clear.cls ≠ "java/lang/invoke/VarHandle" ∧ (parseMethodDescriptor yX1_clear.desc).map (fun d => d.parameters.length) = some 0 := by decide +kernel
theorem yD_1_copy : yX1_copy.cls = RX1 ∧ yX1_copy.cls ≠ "java/lang/invoke/MethodHandle" ∧ yX1_copy.cls ≠ "java/lang/invoke/VarHandle" ∧ (parseMethodDescriptor yX1_copy.desc).map (fun d => d.parameters.length) = some 1 := by decide +kernel
theorem yD_1_placeOf : yX1_placeOf.cls = RX1 ∧ yX1_placeOf.cls ≠ "java/lang/invoke/MethodHandle" ∧ yX1_placeOf.cls ≠ "java/lang/invoke/VarHandle" ∧ (parseMethodDescriptor yX1_placeOf.desc).map (fun d => d.parameters.length) = some 1 := by decide +kernel
theorem yD_1_insert : yX1_insert.cls = RX1 ∧ yX1_insert.cls ≠ "java/lang/invoke/MethodHandle" ∧ yX1_insert.cls ≠ "java/lang/invoke/VarHandle" ∧ (parseMethodDescriptor yX1_insert.desc).map (fun d => d.parameters.length) = some 3 := by decide +kernel
theorem yD_1_isTooBig : yX1_isTooBig.cls = RX1 ∧ yX1_isTooBig.cls ≠ "java/lang/invoke/MethodHandle" ∧ yX1_isTooBig.cls ≠ "java/lang/invoke/VarHandle" ∧ (parseMethodDescriptor yX1_isTooBig.desc).map (fun d => d.parameters.length) = some 0 := by decide +kernel
theorem yD_1_remove : yX1_remove.cls = RX1 ∧ yX1_remove.cls ≠ "java/lang/invoke/MethodHandle" ∧ yX1_remove.cls ≠ "java/lang/invoke/VarHandle" ∧ (parseMethodDescriptor yX1_remove.desc).map (fun d => d.parameters.length) = some 2 := by decide +kernel
theorem yD_2_evaluated : yX2_evaluated.cls = RX2 ∧ yX2_evaluated.cls ≠ "java/lang/invoke/MethodHandle" ∧ yX2_evaluated.cls ≠ "java/lang/invoke/VarHandle" ∧ (parseMethodDescriptor yX2_evaluated.desc).map (fun d => d.parameters.length) = some 2 := by decide +kernel
theorem yD_2_isReady : yX2_isReady.cls = RX2 ∧ yX2_isReady.cls ≠ "java/lang/invoke/MethodHandle" ∧ yX2_isReady.cls ≠ "java/lang/invoke/VarHandle" ∧ (parseMethodDescriptor yX2_isReady.desc).map (fun d => d.parameters.length) = some 1 := by decide +kernel
theorem yD_2_begin : yX2_begin.cls = RX2 ∧ yX2_begin.cls ≠ "java/lang/invoke/MethodHandle" ∧ yX2_begin.cls ≠ "java/lang/invoke/VarHandle" ∧ (parseMethodDescriptor yX2_begin.desc).map (fun d => d.parameters.length) = some 1 := by decide +kernel
theorem yD_2_hold : yX2_hold.cls = RX2 ∧ yX2_hold.cls ≠ "java/lang/invoke/MethodHandle" ∧ yX2_hold.cls ≠ "java/lang/invoke/VarHandle" ∧ (parseMethodDescriptor yX2_hold.desc).map (fun d => d.parameters.length) = some 1 := by decide +kernel
theorem yD_2_parameterValue : yX2_parameterValue.cls = RX2 ∧ yX2_parameterValue.cls ≠ "java/lang/invoke/MethodHandle" ∧ yX2_parameterValue.cls ≠ "java/lang/invoke/VarHandle" ∧ (parseMethodDescriptor yX2_parameterValue.desc).map (fun d => d.parameters.length) = some 1 := by decide +kernel
theorem yD_2_goOn : yX2_goOn.cls = RX2 ∧ yX2_goOn.cls ≠ "java/lang/invoke/MethodHandle" ∧ yX2_goOn.cls ≠ "java/lang/invoke/VarHandle" ∧ (parseMethodDescriptor yX2_goOn.desc).map (fun d => d.parameters.length) = some 1 := by decide +kernel
theorem yD_2_close : yX2_close.cls = RX2 ∧ yX2_close.cls ≠ "java/lang/invoke/MethodHandle" ∧ yX2_close.cls ≠ "java/lang/invoke/VarHandle" ∧ (parseMethodDescriptor yX2_close.desc).map (fun d => d.parameters.length) = some 1 := by decide +kernel
theorem yD_2_baseValue : yX2_baseValue.cls = RX2 ∧ yX2_baseValue.cls ≠ "java/lang/invoke/MethodHandle" ∧ yX2_baseValue.cls ≠ "java/lang/invoke/VarHandle" ∧ (parseMethodDescriptor yX2_baseValue.desc).map (fun d => d.parameters.length) = some 4 := by decide +kernel
theorem yD_3_goThrough : yX3_goThrough.cls = RX3 ∧ yX3_goThrough.cls ≠ "java/lang/invoke/MethodHandle" ∧ yX3_goThrough.cls ≠ "java/lang/invoke/VarHandle" ∧ (parseMethodDescriptor yX3_goThrough.desc).map (fun d => d.parameters.length) = some 1 := by decide +kernel
theorem yD_3_open : yX3_open.cls = RX3 ∧ yX3_open.cls ≠ "java/lang/invoke/MethodHandle" ∧ yX3_open.cls ≠ "java/lang/invoke/VarHandle" ∧ (parseMethodDescriptor yX3_open.desc).map (fun d => d.parameters.length) = some 1 := by decide +kernel
theorem yD_3_isFormed : yX3_isFormed.cls = RX3 ∧ yX3_isFormed.cls ≠ "java/lang/invoke/MethodHandle" ∧ yX3_isFormed.cls ≠ "java/lang/invoke/VarHandle" ∧ (parseMethodDescriptor yX3_isFormed.desc).map (fun d => d.parameters.length) = some 1 := by decide +kernel
theorem yD_3_termAt : yX3_termAt.cls = RX3 ∧ yX3_termAt.cls ≠ "java/lang/invoke/MethodHandle" ∧ yX3_termAt.cls ≠ "java/lang/invoke/VarHandle" ∧ (parseMethodDescriptor yX3_termAt.desc).map (fun d => d.parameters.length) = some 2 := by decide +kernel
theorem yD_3_isWholeFormed : yX3_isWholeFormed.cls = RX3 ∧ yX3_isWholeFormed.cls ≠ "java/lang/invoke/MethodHandle" ∧ yX3_isWholeFormed.cls ≠ "java/lang/invoke/VarHandle" ∧ (parseMethodDescriptor yX3_isWholeFormed.desc).map (fun d => d.parameters.length) = some 1 := by decide +kernel
theorem yD_3_valueAt : yX3_valueAt.cls = RX3 ∧ yX3_valueAt.cls ≠ "java/lang/invoke/MethodHandle" ∧ yX3_valueAt.cls ≠ "java/lang/invoke/VarHandle" ∧ (parseMethodDescriptor yX3_valueAt.desc).map (fun d => d.parameters.length) = some 1 := by decide +kernel
theorem yD_3_isListOfTerms : yX3_isListOfTerms.cls = RX3 ∧ yX3_isListOfTerms.cls ≠ "java/lang/invoke/MethodHandle" ∧ yX3_isListOfTerms.cls ≠ "java/lang/invoke/VarHandle" ∧ (parseMethodDescriptor yX3_isListOfTerms.desc).map (fun d => d.parameters.length) = some 1 := by decide +kernel
theorem yD_3_isInduction : yX3_isInduction.cls = RX3 ∧ yX3_isInduction.cls ≠ "java/lang/invoke/MethodHandle" ∧ yX3_isInduction.cls ≠ "java/lang/invoke/VarHandle" ∧ (parseMethodDescriptor yX3_isInduction.desc).map (fun d => d.parameters.length) = some 1 := by decide +kernel
theorem yD_3_conclude : yX3_conclude.cls = RX3 ∧ yX3_conclude.cls ≠ "java/lang/invoke/MethodHandle" ∧ yX3_conclude.cls ≠ "java/lang/invoke/VarHandle" ∧ (parseMethodDescriptor yX3_conclude.desc).map (fun d => d.parameters.length) = some 1 := by decide +kernel
theorem yD_3_concludeAlone : yX3_concludeAlone.cls = RX3 ∧ yX3_concludeAlone.cls ≠ "java/lang/invoke/MethodHandle" ∧ yX3_concludeAlone.cls ≠ "java/lang/invoke/VarHandle" ∧ (parseMethodDescriptor yX3_concludeAlone.desc).map (fun d => d.parameters.length) = some 2 := by decide +kernel
theorem yD_3_joinEqual : yX3_joinEqual.cls = RX3 ∧ yX3_joinEqual.cls ≠ "java/lang/invoke/MethodHandle" ∧ yX3_joinEqual.cls ≠ "java/lang/invoke/VarHandle" ∧ (parseMethodDescriptor yX3_joinEqual.desc).map (fun d => d.parameters.length) = some 3 := by decide +kernel
theorem yD_3_concludePair : yX3_concludePair.cls = RX3 ∧ yX3_concludePair.cls ≠ "java/lang/invoke/MethodHandle" ∧ yX3_concludePair.cls ≠ "java/lang/invoke/VarHandle" ∧ (parseMethodDescriptor yX3_concludePair.desc).map (fun d => d.parameters.length) = some 4 := by decide +kernel
theorem yD_3_definedCall : yX3_definedCall.cls = RX3 ∧ yX3_definedCall.cls ≠ "java/lang/invoke/MethodHandle" ∧ yX3_definedCall.cls ≠ "java/lang/invoke/VarHandle" ∧ (parseMethodDescriptor yX3_definedCall.desc).map (fun d => d.parameters.length) = some 1 := by decide +kernel
theorem yD_3_concludeOfParts : yX3_concludeOfParts.cls = RX3 ∧ yX3_concludeOfParts.cls ≠ "java/lang/invoke/MethodHandle" ∧ yX3_concludeOfParts.cls ≠ "java/lang/invoke/VarHandle" ∧ (parseMethodDescriptor yX3_concludeOfParts.desc).map (fun d => d.parameters.length) = some 3 := by decide +kernel
theorem yD_3_joinAllBut : yX3_joinAllBut.cls = RX3 ∧ yX3_joinAllBut.cls ≠ "java/lang/invoke/MethodHandle" ∧ yX3_joinAllBut.cls ≠ "java/lang/invoke/VarHandle" ∧ (parseMethodDescriptor yX3_joinAllBut.desc).map (fun d => d.parameters.length) = some 3 := by decide +kernel
theorem yD_3_joinRebuilt : yX3_joinRebuilt.cls = RX3 ∧ yX3_joinRebuilt.cls ≠ "java/lang/invoke/MethodHandle" ∧ yX3_joinRebuilt.cls ≠ "java/lang/invoke/VarHandle" ∧ (parseMethodDescriptor yX3_joinRebuilt.desc).map (fun d => d.parameters.length) = some 3 := by decide +kernel
theorem yD_3_concludeWeak : yX3_concludeWeak.cls = RX3 ∧ yX3_concludeWeak.cls ≠ "java/lang/invoke/MethodHandle" ∧ yX3_concludeWeak.cls ≠ "java/lang/invoke/VarHandle" ∧ (parseMethodDescriptor yX3_concludeWeak.desc).map (fun d => d.parameters.length) = some 3 := by decide +kernel
theorem yD_3_isCut : yX3_isCut.cls = RX3 ∧ yX3_isCut.cls ≠ "java/lang/invoke/MethodHandle" ∧ yX3_isCut.cls ≠ "java/lang/invoke/VarHandle" ∧ (parseMethodDescriptor yX3_isCut.desc).map (fun d => d.parameters.length) = some 4 := by decide +kernel
theorem yD_3_isInduced : yX3_isInduced.cls = RX3 ∧ yX3_isInduced.cls ≠ "java/lang/invoke/MethodHandle" ∧ yX3_isInduced.cls ≠ "java/lang/invoke/VarHandle" ∧ (parseMethodDescriptor yX3_isInduced.desc).map (fun d => d.parameters.length) = some 3 := by decide +kernel
theorem yD_3_isWithin : yX3_isWithin.cls = RX3 ∧ yX3_isWithin.cls ≠ "java/lang/invoke/MethodHandle" ∧ yX3_isWithin.cls ≠ "java/lang/invoke/VarHandle" ∧ (parseMethodDescriptor yX3_isWithin.desc).map (fun d => d.parameters.length) = some 2 := by decide +kernel
theorem yD_4_begin : yX4_begin.cls = RX4 ∧ yX4_begin.cls ≠ "java/lang/invoke/MethodHandle" ∧ yX4_begin.cls ≠ "java/lang/invoke/VarHandle" ∧ (parseMethodDescriptor yX4_begin.desc).map (fun d => d.parameters.length) = some 0 := by decide +kernel
theorem yD_4_newClause : yX4_newClause.cls = RX4 ∧ yX4_newClause.cls ≠ "java/lang/invoke/MethodHandle" ∧ yX4_newClause.cls ≠ "java/lang/invoke/VarHandle" ∧ (parseMethodDescriptor yX4_newClause.desc).map (fun d => d.parameters.length) = some 0 := by decide +kernel
theorem yD_4_prove : yX4_prove.cls = RX4 ∧ yX4_prove.cls ≠ "java/lang/invoke/MethodHandle" ∧ yX4_prove.cls ≠ "java/lang/invoke/VarHandle" ∧ (parseMethodDescriptor yX4_prove.desc).map (fun d => d.parameters.length) = some 1 := by decide +kernel
theorem yD_4_leave : yX4_leave.cls = RX4 ∧ yX4_leave.cls ≠ "java/lang/invoke/MethodHandle" ∧ yX4_leave.cls ≠ "java/lang/invoke/VarHandle" ∧ (parseMethodDescriptor yX4_leave.desc).map (fun d => d.parameters.length) = some 1 := by decide +kernel
theorem yD_4_isPlain : yX4_isPlain.cls = RX4 ∧ yX4_isPlain.cls ≠ "java/lang/invoke/MethodHandle" ∧ yX4_isPlain.cls ≠ "java/lang/invoke/VarHandle" ∧ (parseMethodDescriptor yX4_isPlain.desc).map (fun d => d.parameters.length) = some 1 := by decide +kernel
theorem yD_4_makeRound : yX4_makeRound.cls = RX4 ∧ yX4_makeRound.cls ≠ "java/lang/invoke/MethodHandle" ∧ yX4_makeRound.cls ≠ "java/lang/invoke/VarHandle" ∧ (parseMethodDescriptor yX4_makeRound.desc).map (fun d => d.parameters.length) = some 1 := by decide +kernel
theorem yD_4_rowOfOthers : yX4_rowOfOthers.cls = RX4 ∧ yX4_rowOfOthers.cls ≠ "java/lang/invoke/MethodHandle" ∧ yX4_rowOfOthers.cls ≠ "java/lang/invoke/VarHandle" ∧ (parseMethodDescriptor yX4_rowOfOthers.desc).map (fun d => d.parameters.length) = some 2 := by decide +kernel
theorem yD_4_stands : yX4_stands.cls = RX4 ∧ yX4_stands.cls ≠ "java/lang/invoke/MethodHandle" ∧ yX4_stands.cls ≠ "java/lang/invoke/VarHandle" ∧ (parseMethodDescriptor yX4_stands.desc).map (fun d => d.parameters.length) = some 3 := by decide +kernel
theorem yD_4_split : yX4_split.cls = RX4 ∧ yX4_split.cls ≠ "java/lang/invoke/MethodHandle" ∧ yX4_split.cls ≠ "java/lang/invoke/VarHandle" ∧ (parseMethodDescriptor yX4_split.desc).map (fun d => d.parameters.length) = some 3 := by decide +kernel
theorem yD_4_fillSplit : yX4_fillSplit.cls = RX4 ∧ yX4_fillSplit.cls ≠ "java/lang/invoke/MethodHandle" ∧ yX4_fillSplit.cls ≠ "java/lang/invoke/VarHandle" ∧ (parseMethodDescriptor yX4_fillSplit.desc).map (fun d => d.parameters.length) = some 5 := by decide +kernel
theorem yD_4_listOf : yX4_listOf.cls = RX4 ∧ yX4_listOf.cls ≠ "java/lang/invoke/MethodHandle" ∧ yX4_listOf.cls ≠ "java/lang/invoke/VarHandle" ∧ (parseMethodDescriptor yX4_listOf.desc).map (fun d => d.parameters.length) = some 1 := by decide +kernel
theorem yD_4_listOfLeft : yX4_listOfLeft.cls = RX4 ∧ yX4_listOfLeft.cls ≠ "java/lang/invoke/MethodHandle" ∧ yX4_listOfLeft.cls ≠ "java/lang/invoke/VarHandle" ∧ (parseMethodDescriptor yX4_listOfLeft.desc).map (fun d => d.parameters.length) = some 0 := by decide +kernel
theorem yD_4_isAllProved : yX4_isAllProved.cls = RX4 ∧ yX4_isAllProved.cls ≠ "java/lang/invoke/MethodHandle" ∧ yX4_isAllProved.cls ≠ "java/lang/invoke/VarHandle" ∧ (parseMethodDescriptor yX4_isAllProved.desc).map (fun d => d.parameters.length) = some 0 := by decide +kernel
theorem yD_5_read : yX5_read.cls = RX5 ∧ yX5_read.cls ≠ "java/lang/invoke/MethodHandle" ∧ yX5_read.cls ≠ "java/lang/invoke/VarHandle" ∧ (parseMethodDescriptor yX5_read.desc).map (fun d => d.parameters.length) = some 2 := by decide +kernel
theorem yD_5_refuse : yX5_refuse.cls = RX5 ∧ yX5_refuse.cls ≠ "java/lang/invoke/MethodHandle" ∧ yX5_refuse.cls ≠ "java/lang/invoke/VarHandle" ∧ (parseMethodDescriptor yX5_refuse.desc).map (fun d => d.parameters.length) = some 2 := by decide +kernel
theorem yD_5_lineEnd : yX5_lineEnd.cls = RX5 ∧ yX5_lineEnd.cls ≠ "java/lang/invoke/MethodHandle" ∧ yX5_lineEnd.cls ≠ "java/lang/invoke/VarHandle" ∧ (parseMethodDescriptor yX5_lineEnd.desc).map (fun d => d.parameters.length) = some 3 := by decide +kernel
theorem yD_5_atomEnd : yX5_atomEnd.cls = RX5 ∧ yX5_atomEnd.cls ≠ "java/lang/invoke/MethodHandle" ∧ yX5_atomEnd.cls ≠ "java/lang/invoke/VarHandle" ∧ (parseMethodDescriptor yX5_atomEnd.desc).map (fun d => d.parameters.length) = some 3 := by decide +kernel
theorem yD_5_takeWord : yX5_takeWord.cls = RX5 ∧ yX5_takeWord.cls ≠ "java/lang/invoke/MethodHandle" ∧ yX5_takeWord.cls ≠ "java/lang/invoke/VarHandle" ∧ (parseMethodDescriptor yX5_takeWord.desc).map (fun d => d.parameters.length) = some 3 := by decide +kernel
theorem yD_5_atomCell : yX5_atomCell.cls = RX5 ∧ yX5_atomCell.cls ≠ "java/lang/invoke/MethodHandle" ∧ yX5_atomCell.cls ≠ "java/lang/invoke/VarHandle" ∧ (parseMethodDescriptor yX5_atomCell.desc).map (fun d => d.parameters.length) = some 3 := by decide +kernel
theorem yD_5_canStand : yX5_canStand.cls = RX5 ∧ yX5_canStand.cls ≠ "java/lang/invoke/MethodHandle" ∧ yX5_canStand.cls ≠ "java/lang/invoke/VarHandle" ∧ (parseMethodDescriptor yX5_canStand.desc).map (fun d => d.parameters.length) = some 1 := by decide +kernel
theorem yD_5_takeMark : yX5_takeMark.cls = RX5 ∧ yX5_takeMark.cls ≠ "java/lang/invoke/MethodHandle" ∧ yX5_takeMark.cls ≠ "java/lang/invoke/VarHandle" ∧ (parseMethodDescriptor yX5_takeMark.desc).map (fun d => d.parameters.length) = some 1 := by decide +kernel
theorem yD_5_deliver : yX5_deliver.cls = RX5 ∧ yX5_deliver.cls ≠ "java/lang/invoke/MethodHandle" ∧ yX5_deliver.cls ≠ "java/lang/invoke/VarHandle" ∧ (parseMethodDescriptor yX5_deliver.desc).map (fun d => d.parameters.length) = some 1 := by decide +kernel
theorem yD_6_begin : yX6_begin.cls = RX6 ∧ yX6_begin.cls ≠ "java/lang/invoke/MethodHandle" ∧ yX6_begin.cls ≠ "java/lang/invoke/VarHandle" ∧ (parseMethodDescriptor yX6_begin.desc).map (fun d => d.parameters.length) = some 0 := by decide +kernel
theorem yD_6_rewritten : yX6_rewritten.cls = RX6 ∧ yX6_rewritten.cls ≠ "java/lang/invoke/MethodHandle" ∧ yX6_rewritten.cls ≠ "java/lang/invoke/VarHandle" ∧ (parseMethodDescriptor yX6_rewritten.desc).map (fun d => d.parameters.length) = some 3 := by decide +kernel
theorem yD_6_ask : yX6_ask.cls = RX6 ∧ yX6_ask.cls ≠ "java/lang/invoke/MethodHandle" ∧ yX6_ask.cls ≠ "java/lang/invoke/VarHandle" ∧ (parseMethodDescriptor yX6_ask.desc).map (fun d => d.parameters.length) = some 3 := by decide +kernel
theorem yD_6_recalled : yX6_recalled.cls = RX6 ∧ yX6_recalled.cls ≠ "java/lang/invoke/MethodHandle" ∧ yX6_recalled.cls ≠ "java/lang/invoke/VarHandle" ∧ (parseMethodDescriptor yX6_recalled.desc).map (fun d => d.parameters.length) = some 3 := by decide +kernel
theorem yD_6_finish : yX6_finish.cls = RX6 ∧ yX6_finish.cls ≠ "java/lang/invoke/MethodHandle" ∧ yX6_finish.cls ≠ "java/lang/invoke/VarHandle" ∧ (parseMethodDescriptor yX6_finish.desc).map (fun d => d.parameters.length) = some 1 := by decide +kernel
theorem yD_6_askInstead : yX6_askInstead.cls = RX6 ∧ yX6_askInstead.cls ≠ "java/lang/invoke/MethodHandle" ∧ yX6_askInstead.cls ≠ "java/lang/invoke/VarHandle" ∧ (parseMethodDescriptor yX6_askInstead.desc).map (fun d => d.parameters.length) = some 2 := by decide +kernel
theorem yD_6_start : yX6_start.cls = RX6 ∧ yX6_start.cls ≠ "java/lang/invoke/MethodHandle" ∧ yX6_start.cls ≠ "java/lang/invoke/VarHandle" ∧ (parseMethodDescriptor yX6_start.desc).map (fun d => d.parameters.length) = some 1 := by decide +kernel
theorem yD_6_goOnWithTest : yX6_goOnWithTest.cls = RX6 ∧ yX6_goOnWithTest.cls ≠ "java/lang/invoke/MethodHandle" ∧ yX6_goOnWithTest.cls ≠ "java/lang/invoke/VarHandle" ∧ (parseMethodDescriptor yX6_goOnWithTest.desc).map (fun d => d.parameters.length) = some 1 := by decide +kernel
theorem yD_6_goOnWithThen : yX6_goOnWithThen.cls = RX6 ∧ yX6_goOnWithThen.cls ≠ "java/lang/invoke/MethodHandle" ∧ yX6_goOnWithThen.cls ≠ "java/lang/invoke/VarHandle" ∧ (parseMethodDescriptor yX6_goOnWithThen.desc).map (fun d => d.parameters.length) = some 1 := by decide +kernel
theorem yD_6_choice : yX6_choice.cls = RX6 ∧ yX6_choice.cls ≠ "java/lang/invoke/MethodHandle" ∧ yX6_choice.cls ≠ "java/lang/invoke/VarHandle" ∧ (parseMethodDescriptor yX6_choice.desc).map (fun d => d.parameters.length) = some 4 := by decide +kernel
theorem yD_6_goOnWithNegation : yX6_goOnWithNegation.cls = RX6 ∧ yX6_goOnWithNegation.cls ≠ "java/lang/invoke/MethodHandle" ∧ yX6_goOnWithNegation.cls ≠ "java/lang/invoke/VarHandle" ∧ (parseMethodDescriptor yX6_goOnWithNegation.desc).map (fun d => d.parameters.length) = some 1 := by decide +kernel
theorem yD_6_lookedUp : yX6_lookedUp.cls = RX6 ∧ yX6_lookedUp.cls ≠ "java/lang/invoke/MethodHandle" ∧ yX6_lookedUp.cls ≠ "java/lang/invoke/VarHandle" ∧ (parseMethodDescriptor yX6_lookedUp.desc).map (fun d => d.parameters.length) = some 3 := by decide +kernel
theorem yD_6_gather : yX6_gather.cls = RX6 ∧ yX6_gather.cls ≠ "java/lang/invoke/MethodHandle" ∧ yX6_gather.cls ≠ "java/lang/invoke/VarHandle" ∧ (parseMethodDescriptor yX6_gather.desc).map (fun d => d.parameters.length) = some 1 := by decide +kernel
theorem yD_6_compute : yX6_compute.cls = RX6 ∧ yX6_compute.cls ≠ "java/lang/invoke/MethodHandle" ∧ yX6_compute.cls ≠ "java/lang/invoke/VarHandle" ∧ (parseMethodDescriptor yX6_compute.desc).map (fun d => d.parameters.length) = some 1 := by decide +kernel
theorem yD_6_reduceEqual : yX6_reduceEqual.cls = RX6 ∧ yX6_reduceEqual.cls ≠ "java/lang/invoke/MethodHandle" ∧ yX6_reduceEqual.cls ≠ "java/lang/invoke/VarHandle" ∧ (parseMethodDescriptor yX6_reduceEqual.desc).map (fun d => d.parameters.length) = some 3 := by decide +kernel
theorem yD_6_reduceLess : yX6_reduceLess.cls = RX6 ∧ yX6_reduceLess.cls ≠ "java/lang/invoke/MethodHandle" ∧ yX6_reduceLess.cls ≠ "java/lang/invoke/VarHandle" ∧ (parseMethodDescriptor yX6_reduceLess.desc).map (fun d => d.parameters.length) = some 3 := by decide +kernel
theorem yD_6_reduceOther : yX6_reduceOther.cls = RX6 ∧ yX6_reduceOther.cls ≠ "java/lang/invoke/MethodHandle" ∧ yX6_reduceOther.cls ≠ "java/lang/invoke/VarHandle" ∧ (parseMethodDescriptor yX6_reduceOther.desc).map (fun d => d.parameters.length) = some 3 := by decide +kernel
theorem yD_6_lookUp : yX6_lookUp.cls = RX6 ∧ yX6_lookUp.cls ≠ "java/lang/invoke/MethodHandle" ∧ yX6_lookUp.cls ≠ "java/lang/invoke/VarHandle" ∧ (parseMethodDescriptor yX6_lookUp.desc).map (fun d => d.parameters.length) = some 1 := by decide +kernel
theorem yD_6_seek : yX6_seek.cls = RX6 ∧ yX6_seek.cls ≠ "java/lang/invoke/MethodHandle" ∧ yX6_seek.cls ≠ "java/lang/invoke/VarHandle" ∧ (parseMethodDescriptor yX6_seek.desc).map (fun d => d.parameters.length) = some 1 := by decide +kernel
theorem yD_6_compare : yX6_compare.cls = RX6 ∧ yX6_compare.cls ≠ "java/lang/invoke/MethodHandle" ∧ yX6_compare.cls ≠ "java/lang/invoke/VarHandle" ∧ (parseMethodDescriptor yX6_compare.desc).map (fun d => d.parameters.length) = some 1 := by decide +kernel
theorem yD_6_apply : yX6_apply.cls = RX6 ∧ yX6_apply.cls ≠ "java/lang/invoke/MethodHandle" ∧ yX6_apply.cls ≠ "java/lang/invoke/VarHandle" ∧ (parseMethodDescriptor yX6_apply.desc).map (fun d => d.parameters.length) = some 1 := by decide +kernel
theorem yD_6_judge : yX6_judge.cls = RX6 ∧ yX6_judge.cls ≠ "java/lang/invoke/MethodHandle" ∧ yX6_judge.cls ≠ "java/lang/invoke/VarHandle" ∧ (parseMethodDescriptor yX6_judge.desc).map (fun d => d.parameters.length) = some 1 := by decide +kernel
theorem yD_6_unfold : yX6_unfold.cls = RX6 ∧ yX6_unfold.cls ≠ "java/lang/invoke/MethodHandle" ∧ yX6_unfold.cls ≠ "java/lang/invoke/VarHandle" ∧ (parseMethodDescriptor yX6_unfold.desc).map (fun d => d.parameters.length) = some 1 := by decide +kernel
theorem yD_6_chooseBranch : yX6_chooseBranch.cls = RX6 ∧ yX6_chooseBranch.cls ≠ "java/lang/invoke/MethodHandle" ∧ yX6_chooseBranch.cls ≠ "java/lang/invoke/VarHandle" ∧ (parseMethodDescriptor yX6_chooseBranch.desc).map (fun d => d.parameters.length) = some 1 := by decide +kernel
theorem yD_6_doNotesHold : yX6_doNotesHold.cls = RX6 ∧ yX6_doNotesHold.cls ≠ "java/lang/invoke/MethodHandle" ∧ yX6_doNotesHold.cls ≠ "java/lang/invoke/VarHandle" ∧ (parseMethodDescriptor yX6_doNotesHold.desc).map (fun d => d.parameters.length) = some 0 := by decide +kernel
theorem yD_6_isAllRecalled : yX6_isAllRecalled.cls = RX6 ∧ yX6_isAllRecalled.cls ≠ "java/lang/invoke/MethodHandle" ∧ yX6_isAllRecalled.cls ≠ "java/lang/invoke/VarHandle" ∧ (parseMethodDescriptor yX6_isAllRecalled.desc).map (fun d => d.parameters.length) = some 0 := by decide +kernel
theorem yD_6_learn : yX6_learn.cls = RX6 ∧ yX6_learn.cls ≠ "java/lang/invoke/MethodHandle" ∧ yX6_learn.cls ≠ "java/lang/invoke/VarHandle" ∧ (parseMethodDescriptor yX6_learn.desc).map (fun d => d.parameters.length) = some 0 := by decide +kernel
theorem yD_6_addHypotheses : yX6_addHypotheses.cls = RX6 ∧ yX6_addHypotheses.cls ≠ "java/lang/invoke/MethodHandle" ∧ yX6_addHypotheses.cls ≠ "java/lang/invoke/VarHandle" ∧ (parseMethodDescriptor yX6_addHypotheses.desc).map (fun d => d.parameters.length) = some 2 := by decide +kernel
theorem yD_6_isRule : yX6_isRule.cls = RX6 ∧ yX6_isRule.cls ≠ "java/lang/invoke/MethodHandle" ∧ yX6_isRule.cls ≠ "java/lang/invoke/VarHandle" ∧ (parseMethodDescriptor yX6_isRule.desc).map (fun d => d.parameters.length) = some 3 := by decide +kernel
theorem yD_7_begin : yX7_begin.cls = RX7 ∧ yX7_begin.cls ≠ "java/lang/invoke/MethodHandle" ∧ yX7_begin.cls ≠ "java/lang/invoke/VarHandle" ∧ (parseMethodDescriptor yX7_begin.desc).map (fun d => d.parameters.length) = some 1 := by decide +kernel
theorem yD_7_step : yX7_step.cls = RX7 ∧ yX7_step.cls ≠ "java/lang/invoke/MethodHandle" ∧ yX7_step.cls ≠ "java/lang/invoke/VarHandle" ∧ (parseMethodDescriptor yX7_step.desc).map (fun d => d.parameters.length) = some 0 := by decide +kernel
theorem yD_7_blame : yX7_blame.cls = RX7 ∧ yX7_blame.cls ≠ "java/lang/invoke/MethodHandle" ∧ yX7_blame.cls ≠ "java/lang/invoke/VarHandle" ∧ (parseMethodDescriptor yX7_blame.desc).map (fun d => d.parameters.length) = some 1 := by decide +kernel
theorem yD_7_made : yX7_made.cls = RX7 ∧ yX7_made.cls ≠ "java/lang/invoke/MethodHandle" ∧ yX7_made.cls ≠ "java/lang/invoke/VarHandle" ∧ (parseMethodDescriptor yX7_made.desc).map (fun d => d.parameters.length) = some 1 := by decide +kernel
theorem yD_7_forget : yX7_forget.cls = RX7 ∧ yX7_forget.cls ≠ "java/lang/invoke/MethodHandle" ∧ yX7_forget.cls ≠ "java/lang/invoke/VarHandle" ∧ (parseMethodDescriptor yX7_forget.desc).map (fun d => d.parameters.length) = some 1 := by decide +kernel
theorem yD_7_cellOf : yX7_cellOf.cls = RX7 ∧ yX7_cellOf.cls ≠ "java/lang/invoke/MethodHandle" ∧ yX7_cellOf.cls ≠ "java/lang/invoke/VarHandle" ∧ (parseMethodDescriptor yX7_cellOf.desc).map (fun d => d.parameters.length) = some 1 := by decide +kernel
theorem yD_7_isPair : yX7_isPair.cls = RX7 ∧ yX7_isPair.cls ≠ "java/lang/invoke/MethodHandle" ∧ yX7_isPair.cls ≠ "java/lang/invoke/VarHandle" ∧ (parseMethodDescriptor yX7_isPair.desc).map (fun d => d.parameters.length) = some 1 := by decide +kernel
theorem yD_7_isNatural : yX7_isNatural.cls = RX7 ∧ yX7_isNatural.cls ≠ "java/lang/invoke/MethodHandle" ∧ yX7_isNatural.cls ≠ "java/lang/invoke/VarHandle" ∧ (parseMethodDescriptor yX7_isNatural.desc).map (fun d => d.parameters.length) = some 1 := by decide +kernel
theorem yD_7_isSymbol : yX7_isSymbol.cls = RX7 ∧ yX7_isSymbol.cls ≠ "java/lang/invoke/MethodHandle" ∧ yX7_isSymbol.cls ≠ "java/lang/invoke/VarHandle" ∧ (parseMethodDescriptor yX7_isSymbol.desc).map (fun d => d.parameters.length) = some 1 := by decide +kernel
theorem yD_7_isVariable : yX7_isVariable.cls = RX7 ∧ yX7_isVariable.cls ≠ "java/lang/invoke/MethodHandle" ∧ yX7_isVariable.cls ≠ "java/lang/invoke/VarHandle" ∧ (parseMethodDescriptor yX7_isVariable.desc).map (fun d => d.parameters.length) = some 1 := by decide +kernel
theorem yD_7_isName : yX7_isName.cls = RX7 ∧ yX7_isName.cls ≠ "java/lang/invoke/MethodHandle" ∧ yX7_isName.cls ≠ "java/lang/invoke/VarHandle" ∧ (parseMethodDescriptor yX7_isName.desc).map (fun d => d.parameters.length) = some 1 := by decide +kernel
theorem yD_7_isConstant : yX7_isConstant.cls = RX7 ∧ yX7_isConstant.cls ≠ "java/lang/invoke/MethodHandle" ∧ yX7_isConstant.cls ≠ "java/lang/invoke/VarHandle" ∧ (parseMethodDescriptor yX7_isConstant.desc).map (fun d => d.parameters.length) = some 1 := by decide +kernel
theorem yD_7_isCall : yX7_isCall.cls = RX7 ∧ yX7_isCall.cls ≠ "java/lang/invoke/MethodHandle" ∧ yX7_isCall.cls ≠ "java/lang/invoke/VarHandle" ∧ (parseMethodDescriptor yX7_isCall.desc).map (fun d => d.parameters.length) = some 1 := by decide +kernel
theorem yD_7_isCallOf : yX7_isCallOf.cls = RX7 ∧ yX7_isCallOf.cls ≠ "java/lang/invoke/MethodHandle" ∧ yX7_isCallOf.cls ≠ "java/lang/invoke/VarHandle" ∧ (parseMethodDescriptor yX7_isCallOf.desc).map (fun d => d.parameters.length) = some 2 := by decide +kernel
theorem yD_7_isQuoted : yX7_isQuoted.cls = RX7 ∧ yX7_isQuoted.cls ≠ "java/lang/invoke/MethodHandle" ∧ yX7_isQuoted.cls ≠ "java/lang/invoke/VarHandle" ∧ (parseMethodDescriptor yX7_isQuoted.desc).map (fun d => d.parameters.length) = some 1 := by decide +kernel
theorem yD_7_left : yX7_left.cls = RX7 ∧ yX7_left.cls ≠ "java/lang/invoke/MethodHandle" ∧ yX7_left.cls ≠ "java/lang/invoke/VarHandle" ∧ (parseMethodDescriptor yX7_left.desc).map (fun d => d.parameters.length) = some 1 := by decide +kernel
theorem yD_7_right : yX7_right.cls = RX7 ∧ yX7_right.cls ≠ "java/lang/invoke/MethodHandle" ∧ yX7_right.cls ≠ "java/lang/invoke/VarHandle" ∧ (parseMethodDescriptor yX7_right.desc).map (fun d => d.parameters.length) = some 1 := by decide +kernel
theorem yD_7_item : yX7_item.cls = RX7 ∧ yX7_item.cls ≠ "java/lang/invoke/MethodHandle" ∧ yX7_item.cls ≠ "java/lang/invoke/VarHandle" ∧ (parseMethodDescriptor yX7_item.desc).map (fun d => d.parameters.length) = some 2 := by decide +kernel
theorem yD_7_lengthOf : yX7_lengthOf.cls = RX7 ∧ yX7_lengthOf.cls ≠ "java/lang/invoke/MethodHandle" ∧ yX7_lengthOf.cls ≠ "java/lang/invoke/VarHandle" ∧ (parseMethodDescriptor yX7_lengthOf.desc).map (fun d => d.parameters.length) = some 1 := by decide +kernel
theorem yD_7_sizeOf : yX7_sizeOf.cls = RX7 ∧ yX7_sizeOf.cls ≠ "java/lang/invoke/MethodHandle" ∧ yX7_sizeOf.cls ≠ "java/lang/invoke/VarHandle" ∧ (parseMethodDescriptor yX7_sizeOf.desc).map (fun d => d.parameters.length) = some 1 := by decide +kernel
theorem yD_7_heightOf : yX7_heightOf.cls = RX7 ∧ yX7_heightOf.cls ≠ "java/lang/invoke/MethodHandle" ∧ yX7_heightOf.cls ≠ "java/lang/invoke/VarHandle" ∧ (parseMethodDescriptor yX7_heightOf.desc).map (fun d => d.parameters.length) = some 1 := by decide +kernel
theorem yD_7_numberOf : yX7_numberOf.cls = RX7 ∧ yX7_numberOf.cls ≠ "java/lang/invoke/MethodHandle" ∧ yX7_numberOf.cls ≠ "java/lang/invoke/VarHandle" ∧ (parseMethodDescriptor yX7_numberOf.desc).map (fun d => d.parameters.length) = some 1 := by decide +kernel
theorem yD_7_valueOf : yX7_valueOf.cls = RX7 ∧ yX7_valueOf.cls ≠ "java/lang/invoke/MethodHandle" ∧ yX7_valueOf.cls ≠ "java/lang/invoke/VarHandle" ∧ (parseMethodDescriptor yX7_valueOf.desc).map (fun d => d.parameters.length) = some 1 := by decide +kernel
theorem yD_7_constantOf : yX7_constantOf.cls = RX7 ∧ yX7_constantOf.cls ≠ "java/lang/invoke/MethodHandle" ∧ yX7_constantOf.cls ≠ "java/lang/invoke/VarHandle" ∧ (parseMethodDescriptor yX7_constantOf.desc).map (fun d => d.parameters.length) = some 1 := by decide +kernel
theorem yD_8_goToPath : yX8_goToPath.cls = RX8 ∧ yX8_goToPath.cls ≠ "java/lang/invoke/MethodHandle" ∧ yX8_goToPath.cls ≠ "java/lang/invoke/VarHandle" ∧ (parseMethodDescriptor yX8_goToPath.desc).map (fun d => d.parameters.length) = some 1 := by decide +kernel
theorem yD_8_countPaths : yX8_countPaths.cls = RX8 ∧ yX8_countPaths.cls ≠ "java/lang/invoke/MethodHandle" ∧ yX8_countPaths.cls ≠ "java/lang/invoke/VarHandle" ∧ (parseMethodDescriptor yX8_countPaths.desc).map (fun d => d.parameters.length) = some 1 := by decide +kernel
theorem yD_8_listCalls : yX8_listCalls.cls = RX8 ∧ yX8_listCalls.cls ≠ "java/lang/invoke/MethodHandle" ∧ yX8_listCalls.cls ≠ "java/lang/invoke/VarHandle" ∧ (parseMethodDescriptor yX8_listCalls.desc).map (fun d => d.parameters.length) = some 1 := by decide +kernel
theorem yD_8_isFlat : yX8_isFlat.cls = RX8 ∧ yX8_isFlat.cls ≠ "java/lang/invoke/MethodHandle" ∧ yX8_isFlat.cls ≠ "java/lang/invoke/VarHandle" ∧ (parseMethodDescriptor yX8_isFlat.desc).map (fun d => d.parameters.length) = some 2 := by decide +kernel
theorem yD_8_addRulers : yX8_addRulers.cls = RX8 ∧ yX8_addRulers.cls ≠ "java/lang/invoke/MethodHandle" ∧ yX8_addRulers.cls ≠ "java/lang/invoke/VarHandle" ∧ (parseMethodDescriptor yX8_addRulers.desc).map (fun d => d.parameters.length) = some 3 := by decide +kernel
theorem yD_8_addMeasureClauses : yX8_addMeasureClauses.cls = RX8 ∧ yX8_addMeasureClauses.cls ≠ "java/lang/invoke/MethodHandle" ∧ yX8_addMeasureClauses.cls ≠ "java/lang/invoke/VarHandle" ∧ (parseMethodDescriptor yX8_addMeasureClauses.desc).map (fun d => d.parameters.length) = some 5 := by decide +kernel
theorem yD_8_addInductionHypotheses : yX8_addInductionHypotheses.cls = RX8 ∧ yX8_addInductionHypotheses.cls ≠ "java/lang/invoke/MethodHandle" ∧ yX8_addInductionHypotheses.cls ≠ "java/lang/invoke/VarHandle" ∧ (parseMethodDescriptor yX8_addInductionHypotheses.desc).map (fun d => d.parameters.length) = some 4 := by decide +kernel
theorem yD_8_mute : yX8_mute.cls = RX8 ∧ yX8_mute.cls ≠ "java/lang/invoke/MethodHandle" ∧ yX8_mute.cls ≠ "java/lang/invoke/VarHandle" ∧ (parseMethodDescriptor yX8_mute.desc).map (fun d => d.parameters.length) = some 1 := by decide +kernel
theorem yD_8_addUses : yX8_addUses.cls = RX8 ∧ yX8_addUses.cls ≠ "java/lang/invoke/MethodHandle" ∧ yX8_addUses.cls ≠ "java/lang/invoke/VarHandle" ∧ (parseMethodDescriptor yX8_addUses.desc).map (fun d => d.parameters.length) = some 2 := by decide +kernel
theorem yD_8_addTheoremClauses : yX8_addTheoremClauses.cls = RX8 ∧ yX8_addTheoremClauses.cls ≠ "java/lang/invoke/MethodHandle" ∧ yX8_addTheoremClauses.cls ≠ "java/lang/invoke/VarHandle" ∧ (parseMethodDescriptor yX8_addTheoremClauses.desc).map (fun d => d.parameters.length) = some 3 := by decide +kernel
theorem yD_8_hintsAsked : yX8_hintsAsked.cls = RX8 ∧ yX8_hintsAsked.cls ≠ "java/lang/invoke/MethodHandle" ∧ yX8_hintsAsked.cls ≠ "java/lang/invoke/VarHandle" ∧ (parseMethodDescriptor yX8_hintsAsked.desc).map (fun d => d.parameters.length) = some 1 := by decide +kernel
theorem yD_8_useAsked : yX8_useAsked.cls = RX8 ∧ yX8_useAsked.cls ≠ "java/lang/invoke/MethodHandle" ∧ yX8_useAsked.cls ≠ "java/lang/invoke/VarHandle" ∧ (parseMethodDescriptor yX8_useAsked.desc).map (fun d => d.parameters.length) = some 2 := by decide +kernel
theorem yD_8_offAsked : yX8_offAsked.cls = RX8 ∧ yX8_offAsked.cls ≠ "java/lang/invoke/MethodHandle" ∧ yX8_offAsked.cls ≠ "java/lang/invoke/VarHandle" ∧ (parseMethodDescriptor yX8_offAsked.desc).map (fun d => d.parameters.length) = some 1 := by decide +kernel
theorem yD_8_inductionAsked : yX8_inductionAsked.cls = RX8 ∧ yX8_inductionAsked.cls ≠ "java/lang/invoke/MethodHandle" ∧ yX8_inductionAsked.cls ≠ "java/lang/invoke/VarHandle" ∧ (parseMethodDescriptor yX8_inductionAsked.desc).map (fun d => d.parameters.length) = some 1 := by decide +kernel
theorem yD_9_clear : yX9_clear.cls = RX9 ∧ yX9_clear.cls ≠ "java/lang/invoke/MethodHandle" ∧ yX9_clear.cls ≠ "java/lang/invoke/VarHandle" ∧ (parseMethodDescriptor yX9_clear.desc).map (fun d => d.parameters.length) = some 0 := by decide +kernel
theorem yD_9_write : yX9_write.cls = RX9 ∧ yX9_write.cls ≠ "java/lang/invoke/MethodHandle" ∧ yX9_write.cls ≠ "java/lang/invoke/VarHandle" ∧ (parseMethodDescriptor yX9_write.desc).map (fun d => d.parameters.length) = some 1 := by decide +kernel
theorem yD_9_put : yX9_put.cls = RX9 ∧ yX9_put.cls ≠ "java/lang/invoke/MethodHandle" ∧ yX9_put.cls ≠ "java/lang/invoke/VarHandle" ∧ (parseMethodDescriptor yX9_put.desc).map (fun d => d.parameters.length) = some 1 := by decide +kernel
theorem yD_9_putAtom : yX9_putAtom.cls = RX9 ∧ yX9_putAtom.cls ≠ "java/lang/invoke/MethodHandle" ∧ yX9_putAtom.cls ≠ "java/lang/invoke/VarHandle" ∧ (parseMethodDescriptor yX9_putAtom.desc).map (fun d => d.parameters.length) = some 1 := by decide +kernel
theorem yD_10_rebuilt : yX10_rebuilt.cls = RX10 ∧ yX10_rebuilt.cls ≠ "java/lang/invoke/MethodHandle" ∧ yX10_rebuilt.cls ≠ "java/lang/invoke/VarHandle" ∧ (parseMethodDescriptor yX10_rebuilt.desc).map (fun d => d.parameters.length) = some 2 := by decide +kernel
theorem yD_10_isTooBig : yX10_isTooBig.cls = RX10 ∧ yX10_isTooBig.cls ≠ "java/lang/invoke/MethodHandle" ∧ yX10_isTooBig.cls ≠ "java/lang/invoke/VarHandle" ∧ (parseMethodDescriptor yX10_isTooBig.desc).map (fun d => d.parameters.length) = some 2 := by decide +kernel
theorem yD_10_meaningOf : yX10_meaningOf.cls = RX10 ∧ yX10_meaningOf.cls ≠ "java/lang/invoke/MethodHandle" ∧ yX10_meaningOf.cls ≠ "java/lang/invoke/VarHandle" ∧ (parseMethodDescriptor yX10_meaningOf.desc).map (fun d => d.parameters.length) = some 2 := by decide +kernel
theorem yD_10_readMeaning : yX10_readMeaning.cls = RX10 ∧ yX10_readMeaning.cls ≠ "java/lang/invoke/MethodHandle" ∧ yX10_readMeaning.cls ≠ "java/lang/invoke/VarHandle" ∧ (parseMethodDescriptor yX10_readMeaning.desc).map (fun d => d.parameters.length) = some 1 := by decide +kernel
theorem yD_10_standsFor : yX10_standsFor.cls = RX10 ∧ yX10_standsFor.cls ≠ "java/lang/invoke/MethodHandle" ∧ yX10_standsFor.cls ≠ "java/lang/invoke/VarHandle" ∧ (parseMethodDescriptor yX10_standsFor.desc).map (fun d => d.parameters.length) = some 1 := by decide +kernel
theorem yD_10_unbind : yX10_unbind.cls = RX10 ∧ yX10_unbind.cls ≠ "java/lang/invoke/MethodHandle" ∧ yX10_unbind.cls ≠ "java/lang/invoke/VarHandle" ∧ (parseMethodDescriptor yX10_unbind.desc).map (fun d => d.parameters.length) = some 0 := by decide +kernel
theorem yD_10_bind : yX10_bind.cls = RX10 ∧ yX10_bind.cls ≠ "java/lang/invoke/MethodHandle" ∧ yX10_bind.cls ≠ "java/lang/invoke/VarHandle" ∧ (parseMethodDescriptor yX10_bind.desc).map (fun d => d.parameters.length) = some 2 := by decide +kernel
theorem yD_10_bindRow : yX10_bindRow.cls = RX10 ∧ yX10_bindRow.cls ≠ "java/lang/invoke/MethodHandle" ∧ yX10_bindRow.cls ≠ "java/lang/invoke/VarHandle" ∧ (parseMethodDescriptor yX10_bindRow.desc).map (fun d => d.parameters.length) = some 2 := by decide +kernel
theorem yD_10_areDifferentVariables : yX10_areDifferentVariables.cls = RX10 ∧ yX10_areDifferentVariables.cls ≠ "java/lang/invoke/MethodHandle" ∧ yX10_areDifferentVariables.cls ≠ "java/lang/invoke/VarHandle" ∧ (parseMethodDescriptor yX10_areDifferentVariables.desc).map (fun d => d.parameters.length) = some 1 := by decide +kernel
theorem yD_10_bindPairs : yX10_bindPairs.cls = RX10 ∧ yX10_bindPairs.cls ≠ "java/lang/invoke/MethodHandle" ∧ yX10_bindPairs.cls ≠ "java/lang/invoke/VarHandle" ∧ (parseMethodDescriptor yX10_bindPairs.desc).map (fun d => d.parameters.length) = some 1 := by decide +kernel
theorem yD_10_call : yX10_call.cls = RX10 ∧ yX10_call.cls ≠ "java/lang/invoke/MethodHandle" ∧ yX10_call.cls ≠ "java/lang/invoke/VarHandle" ∧ (parseMethodDescriptor yX10_call.desc).map (fun d => d.parameters.length) = some 4 := by decide +kernel
theorem yD_10_negated : yX10_negated.cls = RX10 ∧ yX10_negated.cls ≠ "java/lang/invoke/MethodHandle" ∧ yX10_negated.cls ≠ "java/lang/invoke/VarHandle" ∧ (parseMethodDescriptor yX10_negated.desc).map (fun d => d.parameters.length) = some 1 := by decide +kernel
theorem yD_10_isNegation : yX10_isNegation.cls = RX10 ∧ yX10_isNegation.cls ≠ "java/lang/invoke/MethodHandle" ∧ yX10_isNegation.cls ≠ "java/lang/invoke/VarHandle" ∧ (parseMethodDescriptor yX10_isNegation.desc).map (fun d => d.parameters.length) = some 2 := by decide +kernel
theorem yD_10_isBoolean : yX10_isBoolean.cls = RX10 ∧ yX10_isBoolean.cls ≠ "java/lang/invoke/MethodHandle" ∧ yX10_isBoolean.cls ≠ "java/lang/invoke/VarHandle" ∧ (parseMethodDescriptor yX10_isBoolean.desc).map (fun d => d.parameters.length) = some 1 := by decide +kernel
theorem yD_10_isOfConstants : yX10_isOfConstants.cls = RX10 ∧ yX10_isOfConstants.cls ≠ "java/lang/invoke/MethodHandle" ∧ yX10_isOfConstants.cls ≠ "java/lang/invoke/VarHandle" ∧ (parseMethodDescriptor yX10_isOfConstants.desc).map (fun d => d.parameters.length) = some 1 := by decide +kernel
theorem yD_10_matches : yX10_matches.cls = RX10 ∧ yX10_matches.cls ≠ "java/lang/invoke/MethodHandle" ∧ yX10_matches.cls ≠ "java/lang/invoke/VarHandle" ∧ (parseMethodDescriptor yX10_matches.desc).map (fun d => d.parameters.length) = some 2 := by decide +kernel
theorem yD_10_isBoundToVariables : yX10_isBoundToVariables.cls = RX10 ∧ yX10_isBoundToVariables.cls ≠ "java/lang/invoke/MethodHandle" ∧ yX10_isBoundToVariables.cls ≠ "java/lang/invoke/VarHandle" ∧ (parseMethodDescriptor yX10_isBoundToVariables.desc).map (fun d => d.parameters.length) = some 0 := by decide +kernel
theorem yD_10_listParts : yX10_listParts.cls = RX10 ∧ yX10_listParts.cls ≠ "java/lang/invoke/MethodHandle" ∧ yX10_listParts.cls ≠ "java/lang/invoke/VarHandle" ∧ (parseMethodDescriptor yX10_listParts.desc).map (fun d => d.parameters.length) = some 1 := by decide +kernel
theorem yD_10_hasCallOf : yX10_hasCallOf.cls = RX10 ∧ yX10_hasCallOf.cls ≠ "java/lang/invoke/MethodHandle" ∧ yX10_hasCallOf.cls ≠ "java/lang/invoke/VarHandle" ∧ (parseMethodDescriptor yX10_hasCallOf.desc).map (fun d => d.parameters.length) = some 2 := by decide +kernel
theorem yD_10_hasVariablesOf : yX10_hasVariablesOf.cls = RX10 ∧ yX10_hasVariablesOf.cls ≠ "java/lang/invoke/MethodHandle" ∧ yX10_hasVariablesOf.cls ≠ "java/lang/invoke/VarHandle" ∧ (parseMethodDescriptor yX10_hasVariablesOf.desc).map (fun d => d.parameters.length) = some 2 := by decide +kernel
theorem yD_10_hasBound : yX10_hasBound.cls = RX10 ∧ yX10_hasBound.cls ≠ "java/lang/invoke/MethodHandle" ∧ yX10_hasBound.cls ≠ "java/lang/invoke/VarHandle" ∧ (parseMethodDescriptor yX10_hasBound.desc).map (fun d => d.parameters.length) = some 1 := by decide +kernel
theorem yD_10_bindVariablesOf : yX10_bindVariablesOf.cls = RX10 ∧ yX10_bindVariablesOf.cls ≠ "java/lang/invoke/MethodHandle" ∧ yX10_bindVariablesOf.cls ≠ "java/lang/invoke/VarHandle" ∧ (parseMethodDescriptor yX10_bindVariablesOf.desc).map (fun d => d.parameters.length) = some 1 := by decide +kernel
theorem yD_10_join : yX10_join.cls = RX10 ∧ yX10_join.cls ≠ "java/lang/invoke/MethodHandle" ∧ yX10_join.cls ≠ "java/lang/invoke/VarHandle" ∧ (parseMethodDescriptor yX10_join.desc).map (fun d => d.parameters.length) = some 2 := by decide +kernel
theorem yD_11_pairCell : yX11_pairCell.cls = RX11 ∧ yX11_pairCell.cls ≠ "java/lang/invoke/MethodHandle" ∧ yX11_pairCell.cls ≠ "java/lang/invoke/VarHandle" ∧ (parseMethodDescriptor yX11_pairCell.desc).map (fun d => d.parameters.length) = some 2 := by decide +kernel
theorem yD_11_feed : yX11_feed.cls = RX11 ∧ yX11_feed.cls ≠ "java/lang/invoke/MethodHandle" ∧ yX11_feed.cls ≠ "java/lang/invoke/VarHandle" ∧ (parseMethodDescriptor yX11_feed.desc).map (fun d => d.parameters.length) = some 5 := by decide +kernel
theorem yD_11_end : yX11_end.cls = RX11 ∧ yX11_end.cls ≠ "java/lang/invoke/MethodHandle" ∧ yX11_end.cls ≠ "java/lang/invoke/VarHandle" ∧ (parseMethodDescriptor yX11_end.desc).map (fun d => d.parameters.length) = some 1 := by decide +kernel
theorem yD_11_fuel : yX11_fuel.cls = RX11 ∧ yX11_fuel.cls ≠ "java/lang/invoke/MethodHandle" ∧ yX11_fuel.cls ≠ "java/lang/invoke/VarHandle" ∧ (parseMethodDescriptor yX11_fuel.desc).map (fun d => d.parameters.length) = some 1 := by decide +kernel
theorem yD_11_run : yX11_run.cls = RX11 ∧ yX11_run.cls ≠ "java/lang/invoke/MethodHandle" ∧ yX11_run.cls ≠ "java/lang/invoke/VarHandle" ∧ (parseMethodDescriptor yX11_run.desc).map (fun d => d.parameters.length) = some 0 := by decide +kernel
theorem yD_11_fault : yX11_fault.cls = RX11 ∧ yX11_fault.cls ≠ "java/lang/invoke/MethodHandle" ∧ yX11_fault.cls ≠ "java/lang/invoke/VarHandle" ∧ (parseMethodDescriptor yX11_fault.desc).map (fun d => d.parameters.length) = some 1 := by decide +kernel
theorem yD_11_steps : yX11_steps.cls = RX11 ∧ yX11_steps.cls ≠ "java/lang/invoke/MethodHandle" ∧ yX11_steps.cls ≠ "java/lang/invoke/VarHandle" ∧ (parseMethodDescriptor yX11_steps.desc).map (fun d => d.parameters.length) = some 0 := by decide +kernel
theorem yD_11_count : yX11_count.cls = RX11 ∧ yX11_count.cls ≠ "java/lang/invoke/MethodHandle" ∧ yX11_count.cls ≠ "java/lang/invoke/VarHandle" ∧ (parseMethodDescriptor yX11_count.desc).map (fun d => d.parameters.length) = some 1 := by decide +kernel
theorem yD_11_size : yX11_size.cls = RX11 ∧ yX11_size.cls ≠ "java/lang/invoke/MethodHandle" ∧ yX11_size.cls ≠ "java/lang/invoke/VarHandle" ∧ (parseMethodDescriptor yX11_size.desc).map (fun d => d.parameters.length) = some 0 := by decide +kernel
theorem yD_11_letter : yX11_letter.cls = RX11 ∧ yX11_letter.cls ≠ "java/lang/invoke/MethodHandle" ∧ yX11_letter.cls ≠ "java/lang/invoke/VarHandle" ∧ (parseMethodDescriptor yX11_letter.desc).map (fun d => d.parameters.length) = some 1 := by decide +kernel
theorem yD_11_taken : yX11_taken.cls = RX11 ∧ yX11_taken.cls ≠ "java/lang/invoke/MethodHandle" ∧ yX11_taken.cls ≠ "java/lang/invoke/VarHandle" ∧ (parseMethodDescriptor yX11_taken.desc).map (fun d => d.parameters.length) = some 1 := by decide +kernel
theorem yD_11_tell : yX11_tell.cls = RX11 ∧ yX11_tell.cls ≠ "java/lang/invoke/MethodHandle" ∧ yX11_tell.cls ≠ "java/lang/invoke/VarHandle" ∧ (parseMethodDescriptor yX11_tell.desc).map (fun d => d.parameters.length) = some 1 := by decide +kernel
theorem yD_11_recheck : yX11_recheck.cls = RX11 ∧ yX11_recheck.cls ≠ "java/lang/invoke/MethodHandle" ∧ yX11_recheck.cls ≠ "java/lang/invoke/VarHandle" ∧ (parseMethodDescriptor yX11_recheck.desc).map (fun d => d.parameters.length) = some 0 := by decide +kernel
theorem yD_11_forgetLatest : yX11_forgetLatest.cls = RX11 ∧ yX11_forgetLatest.cls ≠ "java/lang/invoke/MethodHandle" ∧ yX11_forgetLatest.cls ≠ "java/lang/invoke/VarHandle" ∧ (parseMethodDescriptor yX11_forgetLatest.desc).map (fun d => d.parameters.length) = some 0 := by decide +kernel
theorem yD_11_asked : yX11_asked.cls = RX11 ∧ yX11_asked.cls ≠ "java/lang/invoke/MethodHandle" ∧ yX11_asked.cls ≠ "java/lang/invoke/VarHandle" ∧ (parseMethodDescriptor yX11_asked.desc).map (fun d => d.parameters.length) = some 1 := by decide +kernel
theorem yD_11_isAsTold : yX11_isAsTold.cls = RX11 ∧ yX11_isAsTold.cls ≠ "java/lang/invoke/MethodHandle" ∧ yX11_isAsTold.cls ≠ "java/lang/invoke/VarHandle" ∧ (parseMethodDescriptor yX11_isAsTold.desc).map (fun d => d.parameters.length) = some 1 := by decide +kernel
theorem yD_11_isNameAt : yX11_isNameAt.cls = RX11 ∧ yX11_isNameAt.cls ≠ "java/lang/invoke/MethodHandle" ∧ yX11_isNameAt.cls ≠ "java/lang/invoke/VarHandle" ∧ (parseMethodDescriptor yX11_isNameAt.desc).map (fun d => d.parameters.length) = some 1 := by decide +kernel
theorem yD_11_isTermAt : yX11_isTermAt.cls = RX11 ∧ yX11_isTermAt.cls ≠ "java/lang/invoke/MethodHandle" ∧ yX11_isTermAt.cls ≠ "java/lang/invoke/VarHandle" ∧ (parseMethodDescriptor yX11_isTermAt.desc).map (fun d => d.parameters.length) = some 2 := by decide +kernel
theorem yD_11_isDefinition : yX11_isDefinition.cls = RX11 ∧ yX11_isDefinition.cls ≠ "java/lang/invoke/MethodHandle" ∧ yX11_isDefinition.cls ≠ "java/lang/invoke/VarHandle" ∧ (parseMethodDescriptor yX11_isDefinition.desc).map (fun d => d.parameters.length) = some 2 := by decide +kernel
theorem yD_11_nameAsked : yX11_nameAsked.cls = RX11 ∧ yX11_nameAsked.cls ≠ "java/lang/invoke/MethodHandle" ∧ yX11_nameAsked.cls ≠ "java/lang/invoke/VarHandle" ∧ (parseMethodDescriptor yX11_nameAsked.desc).map (fun d => d.parameters.length) = some 1 := by decide +kernel
theorem yD_11_prepare : yX11_prepare.cls = RX11 ∧ yX11_prepare.cls ≠ "java/lang/invoke/MethodHandle" ∧ yX11_prepare.cls ≠ "java/lang/invoke/VarHandle" ∧ (parseMethodDescriptor yX11_prepare.desc).map (fun d => d.parameters.length) = some 1 := by decide +kernel
theorem yD_11_showValue : yX11_showValue.cls = RX11 ∧ yX11_showValue.cls ≠ "java/lang/invoke/MethodHandle" ∧ yX11_showValue.cls ≠ "java/lang/invoke/VarHandle" ∧ (parseMethodDescriptor yX11_showValue.desc).map (fun d => d.parameters.length) = some 1 := by decide +kernel
theorem yD_11_showTerm : yX11_showTerm.cls = RX11 ∧ yX11_showTerm.cls ≠ "java/lang/invoke/MethodHandle" ∧ yX11_showTerm.cls ≠ "java/lang/invoke/VarHandle" ∧ (parseMethodDescriptor yX11_showTerm.desc).map (fun d => d.parameters.length) = some 1 := by decide +kernel
theorem yD_11_conclude : yX11_conclude.cls = RX11 ∧ yX11_conclude.cls ≠ "java/lang/invoke/MethodHandle" ∧ yX11_conclude.cls ≠ "java/lang/invoke/VarHandle" ∧ (parseMethodDescriptor yX11_conclude.desc).map (fun d => d.parameters.length) = some 2 := by decide +kernel
theorem yD_11_shownWrong : yX11_shownWrong.cls = RX11 ∧ yX11_shownWrong.cls ≠ "java/lang/invoke/MethodHandle" ∧ yX11_shownWrong.cls ≠ "java/lang/invoke/VarHandle" ∧ (parseMethodDescriptor yX11_shownWrong.desc).map (fun d => d.parameters.length) = some 0 := by decide +kernel
/-! nest mates -/
def wsQ : List Cond := [.fieldLinkNest RX2 111 "ProofHouse$Book" "parameters" "[I" "ProofHouse", .fieldLinkNest RX2 119 "ProofHouse$Book" "bodies" "[I" "ProofHouse", .fieldLinkNest RX3 62 "ProofHouse$Room" "trouble" "I" "ProofHouse", .fieldLinkNest RX3 163 "ProofHouse$Book" "bodies" "[I" "ProofHouse", .fieldLinkNest RX3 199 "ProofHouse$Book" "formulas" "[I" "ProofHouse", .fieldLinkNest RX3 209 "ProofHouse$Book" "functionNames" "[I" "ProofHouse", .fieldLinkNest RX3 212 "ProofHouse$Book" "parameters" "[I" "ProofHouse", .fieldLinkNest RX3 234 "ProofHouse$Clause" "length" "I" "ProofHouse", .fieldLinkNest RX3 237 "ProofHouse$Clause" "literals" "[I" "ProofHouse", .fieldLinkNest RX3 244 "ProofHouse$Terms" "replaced" "I" "ProofHouse", .fieldLinkNest RX3 247 "ProofHouse$Terms" "replacement" "I" "ProofHouse", .fieldLinkNest RX4 63 "ProofHouse$Room" "trouble" "I" "ProofHouse", .fieldLinkNest RX4 75 "ProofHouse$Clause" "rounds" "I" "ProofHouse", .fieldLinkNest RX4 84 "ProofHouse$Clause" "length" "I" "ProofHouse", .fieldLinkNest RX4 87 "ProofHouse$Clause" "literals" "[I" "ProofHouse", .fieldLinkNest RX6 67 "ProofHouse$Book" "theorems" "I" "ProofHouse", .fieldLinkNest RX6 77 "ProofHouse$Room" "trouble" "I" "ProofHouse", .fieldLinkNest RX6 243 "ProofHouse$Book" "lefts" "[I" "ProofHouse", .fieldLinkNest RX6 250 "ProofHouse$Book" "turning" "[Z" "ProofHouse", .fieldLinkNest RX6 257 "ProofHouse$Book" "rights" "[I" "ProofHouse", .fieldLinkNest RX6 266 "ProofHouse$Scribe" "length" "I" "ProofHouse", .fieldLinkNest RX6 269 "ProofHouse$Scribe" "letters" "[C" "ProofHouse", .fieldLinkNest RX6 273 "ProofHouse$Book" "hypothesisCounts" "[I" "ProofHouse", .fieldLinkNest RX6 276 "ProofHouse$Book" "hypotheses" "[[I" "ProofHouse", .fieldLinkNest RX6 282 "ProofHouse$Book" "bodies" "[I" "ProofHouse", .fieldLinkNest RX6 285 "ProofHouse$Book" "measures" "[I" "ProofHouse", .fieldLinkNest RX6 288 "ProofHouse$Book" "parameters" "[I" "ProofHouse", .fieldLinkNest RX6 298 "ProofHouse$Book" "formulas" "[I" "ProofHouse", .fieldLinkNest RX6 304 "ProofHouse$Book" "truthAlone" "[Z" "ProofHouse", .fieldLinkNest RX6 314 "ProofHouse$Book" "on" "[Z" "ProofHouse", .fieldLinkNest RX6 317 "ProofHouse$Terms" "waiting" "[I" "ProofHouse", .fieldLinkNest RX8 71 "ProofHouse$Terms" "parts" "[I" "ProofHouse", .fieldLinkNest RX8 94 "ProofHouse$Room" "trouble" "I" "ProofHouse", .fieldLinkNest RX8 121 "ProofHouse$Book" "functionNames" "[I" "ProofHouse", .fieldLinkNest RX8 126 "ProofHouse$Book" "parameters" "[I" "ProofHouse", .fieldLinkNest RX8 129 "ProofHouse$Book" "arities" "[I" "ProofHouse", .fieldLinkNest RX8 141 "ProofHouse$Book" "muted" "[Z" "ProofHouse", .fieldLinkNest RX8 147 "ProofHouse$Book" "formulas" "[I" "ProofHouse", .fieldLinkNest RX8 150 "ProofHouse$Prover" "spare" "LProofHouse$Clause;" "ProofHouse", .fieldLinkNest RX8 169 "ProofHouse$Book" "bodies" "[I" "ProofHouse", .fieldLinkNest RX8 202 "ProofHouse$Book" "measures" "[I" "ProofHouse", .fieldLinkNest RX10 152 "ProofHouse$Clause" "length" "I" "ProofHouse", .fieldLinkNest RX11 150 "ProofHouse$Reader" "flaw" "I" "ProofHouse", .fieldLinkNest RX11 157 "ProofHouse$Room" "trouble" "I" "ProofHouse", .fieldLinkNest RX11 20 "ProofHouse$Room" "used" "I" "ProofHouse", .fieldLinkNest RX11 180 "ProofHouse$Room" "spent" "I" "ProofHouse", .fieldLinkNest RX11 186 "ProofHouse$Reader" "place" "I" "ProofHouse", .fieldLinkNest RX11 189 "ProofHouse$Book" "functions" "I" "ProofHouse", .fieldLinkNest RX11 192 "ProofHouse$Book" "theorems" "I" "ProofHouse", .fieldLinkNest RX11 199 "ProofHouse$Prover" "leftCount" "I" "ProofHouse", .fieldLinkNest RX11 202 "ProofHouse$Scribe" "length" "I" "ProofHouse", .fieldLinkNest RX11 205 "ProofHouse$Scribe" "letters" "[C" "ProofHouse", .fieldLinkNest RX11 208 "ProofHouse$Book" "entries" "I" "ProofHouse", .fieldLinkNest RX11 211 "ProofHouse$Book" "kinds" "[I" "ProofHouse", .fieldLinkNest RX11 217 "ProofHouse$Book" "measures" "[I" "ProofHouse", .fieldLinkNest RX11 228 "ProofHouse$Book" "parameters" "[I" "ProofHouse", .fieldLinkNest RX11 231 "ProofHouse$Book" "bodies" "[I" "ProofHouse", .fieldLinkNest RX11 234 "ProofHouse$Book" "functionNames" "[I" "ProofHouse", .fieldLinkNest RX11 237 "ProofHouse$Book" "formulas" "[I" "ProofHouse", .fieldLinkNest RX11 240 "ProofHouse$Book" "theoremNames" "[I" "ProofHouse", .fieldLinkNest RX11 257 "ProofHouse$Book" "kept" "I" "ProofHouse", .fieldLinkNest RX11 307 "ProofHouse$Terms" "ownName" "I" "ProofHouse", .fieldLinkNest RX11 310 "ProofHouse$Terms" "ownArity" "I" "ProofHouse", .fieldLinkNest RX11 325 "ProofHouse$Book" "lefts" "[I" "ProofHouse", .fieldLinkNest RX11 353 "ProofHouse$Book" "on" "[Z" "ProofHouse", .fieldLinkNest RX11 360 "ProofHouse$Evaluator" "stopped" "I" "ProofHouse", .fieldLinkNest RX11 370 "ProofHouse$Prover" "givenCount" "I" "ProofHouse", .fieldLinkNest RX11 390 "ProofHouse$Proofs" "clauses" "[LProofHouse$Clause;" "ProofHouse", .fieldLinkNest RX11 394 "ProofHouse$Clause" "length" "I" "ProofHouse", .fieldLinkNest RX11 397 "ProofHouse$Clause" "literals" "[I" "ProofHouse", .fieldLinkNest RX11 400 "ProofHouse$Proofs" "wrong" "I" "ProofHouse"]
def wsQm : List Cond := [.methodLinkNest RX2 122 yX11_pairCell "ProofHouse", .methodLinkNest RX3 215 yX11_pairCell "ProofHouse", .methodLinkNest RX4 137 yX11_pairCell "ProofHouse", .methodLinkNest RX5 107 yX11_pairCell "ProofHouse", .methodLinkNest RX6 191 yX11_pairCell "ProofHouse", .methodLinkNest RX7 92 yX11_pairCell "ProofHouse", .methodLinkNest RX10 84 yX11_pairCell "ProofHouse"]
def nN (U : State) : Prop := (∀ w ∈ wsQ, va_Nw w U) ∧ ∀ w ∈ wsQm, va_Nw w U
theorem nN.same {u U : State} (h : u.vm = U.vm) (q : nN u) : nN U := by
  refine ⟨fun w hw => va_Nw.same ?_ h (q.1 w hw), fun w hw => va_Nw.same ?_ h (q.2 w hw)⟩
  · exact (List.all_eq_true.mp (by decide +kernel : wsQ.all (fun w => w.onTables) = true)) w hw
  · exact (List.all_eq_true.mp (by decide +kernel : wsQm.all (fun w => w.onTables) = true)) w hw
def isFN : Cond → Bool
  | .fieldLinkNest _ _ _ _ _ _ => true
  | _ => false
def isMN : Cond → Bool
  | .methodLinkNest _ _ _ _ => true
  | _ => false
theorem nN.warm {s U : State} (h : s.WarmedH U.vm) (q : nN s) : nN U := by
  refine ⟨fun w hw => ?_, fun w hw => ?_⟩
  · have e := (List.all_eq_true.mp (by decide +kernel : wsQ.all isFN = true)) w hw
    have z := q.1 w hw
    cases w with
    | fieldLinkNest a b c d f g => exact va_Nw.warmF h z
    | _ => cases e
  · have e := (List.all_eq_true.mp (by decide +kernel : wsQm.all isMN = true)) w hw
    have z := q.2 w hw
    cases w with
    | methodLinkNest a b c d => exact va_Nw.warmM h z
    | _ => cases e
set_option maxRecDepth 100000 in
theorem yN_2_111 {U : State} (q : nN U) : va_Nw (.fieldLinkNest RX2 111 "ProofHouse$Book" "parameters" "[I" "ProofHouse") U := q.1 _ (List.mem_of_getElem? (i := 0) rfl)
set_option maxRecDepth 100000 in
theorem yN_2_119 {U : State} (q : nN U) : va_Nw (.fieldLinkNest RX2 119 "ProofHouse$Book" "bodies" "[I" "ProofHouse") U := q.1 _ (List.mem_of_getElem? (i := 1) rfl)
set_option maxRecDepth 100000 in
theorem yN_3_62 {U : State} (q : nN U) : va_Nw (.fieldLinkNest RX3 62 "ProofHouse$Room" "trouble" "I" "ProofHouse") U := q.1 _ (List.mem_of_getElem? (i := 2) rfl)
set_option maxRecDepth 100000 in
theorem yN_3_163 {U : State} (q : nN U) : va_Nw (.fieldLinkNest RX3 163 "ProofHouse$Book" "bodies" "[I" "ProofHouse") U := q.1 _ (List.mem_of_getElem? (i := 3) rfl)
set_option maxRecDepth 100000 in
theorem yN_3_199 {U : State} (q : nN U) : va_Nw (.fieldLinkNest RX3 199 "ProofHouse$Book" "formulas" "[I" "ProofHouse") U := q.1 _ (List.mem_of_getElem? (i := 4) rfl)
set_option maxRecDepth 100000 in
theorem yN_3_209 {U : State} (q : nN U) : va_Nw (.fieldLinkNest RX3 209 "ProofHouse$Book" "functionNames" "[I" "ProofHouse") U := q.1 _ (List.mem_of_getElem? (i := 5) rfl)
set_option maxRecDepth 100000 in
theorem yN_3_212 {U : State} (q : nN U) : va_Nw (.fieldLinkNest RX3 212 "ProofHouse$Book" "parameters" "[I" "ProofHouse") U := q.1 _ (List.mem_of_getElem? (i := 6) rfl)
set_option maxRecDepth 100000 in
theorem yN_3_234 {U : State} (q : nN U) : va_Nw (.fieldLinkNest RX3 234 "ProofHouse$Clause" "length" "I" "ProofHouse") U := q.1 _ (List.mem_of_getElem? (i := 7) rfl)
set_option maxRecDepth 100000 in
theorem yN_3_237 {U : State} (q : nN U) : va_Nw (.fieldLinkNest RX3 237 "ProofHouse$Clause" "literals" "[I" "ProofHouse") U := q.1 _ (List.mem_of_getElem? (i := 8) rfl)
set_option maxRecDepth 100000 in
theorem yN_3_244 {U : State} (q : nN U) : va_Nw (.fieldLinkNest RX3 244 "ProofHouse$Terms" "replaced" "I" "ProofHouse") U := q.1 _ (List.mem_of_getElem? (i := 9) rfl)
set_option maxRecDepth 100000 in
theorem yN_3_247 {U : State} (q : nN U) : va_Nw (.fieldLinkNest RX3 247 "ProofHouse$Terms" "replacement" "I" "ProofHouse") U := q.1 _ (List.mem_of_getElem? (i := 10) rfl)
set_option maxRecDepth 100000 in
theorem yN_4_63 {U : State} (q : nN U) : va_Nw (.fieldLinkNest RX4 63 "ProofHouse$Room" "trouble" "I" "ProofHouse") U := q.1 _ (List.mem_of_getElem? (i := 11) rfl)
set_option maxRecDepth 100000 in
theorem yN_4_75 {U : State} (q : nN U) : va_Nw (.fieldLinkNest RX4 75 "ProofHouse$Clause" "rounds" "I" "ProofHouse") U := q.1 _ (List.mem_of_getElem? (i := 12) rfl)
set_option maxRecDepth 100000 in
theorem yN_4_84 {U : State} (q : nN U) : va_Nw (.fieldLinkNest RX4 84 "ProofHouse$Clause" "length" "I" "ProofHouse") U := q.1 _ (List.mem_of_getElem? (i := 13) rfl)
set_option maxRecDepth 100000 in
theorem yN_4_87 {U : State} (q : nN U) : va_Nw (.fieldLinkNest RX4 87 "ProofHouse$Clause" "literals" "[I" "ProofHouse") U := q.1 _ (List.mem_of_getElem? (i := 14) rfl)
set_option maxRecDepth 100000 in
theorem yN_6_67 {U : State} (q : nN U) : va_Nw (.fieldLinkNest RX6 67 "ProofHouse$Book" "theorems" "I" "ProofHouse") U := q.1 _ (List.mem_of_getElem? (i := 15) rfl)
set_option maxRecDepth 100000 in
theorem yN_6_77 {U : State} (q : nN U) : va_Nw (.fieldLinkNest RX6 77 "ProofHouse$Room" "trouble" "I" "ProofHouse") U := q.1 _ (List.mem_of_getElem? (i := 16) rfl)
set_option maxRecDepth 100000 in
theorem yN_6_243 {U : State} (q : nN U) : va_Nw (.fieldLinkNest RX6 243 "ProofHouse$Book" "lefts" "[I" "ProofHouse") U := q.1 _ (List.mem_of_getElem? (i := 17) rfl)
set_option maxRecDepth 100000 in
theorem yN_6_250 {U : State} (q : nN U) : va_Nw (.fieldLinkNest RX6 250 "ProofHouse$Book" "turning" "[Z" "ProofHouse") U := q.1 _ (List.mem_of_getElem? (i := 18) rfl)
set_option maxRecDepth 100000 in
theorem yN_6_257 {U : State} (q : nN U) : va_Nw (.fieldLinkNest RX6 257 "ProofHouse$Book" "rights" "[I" "ProofHouse") U := q.1 _ (List.mem_of_getElem? (i := 19) rfl)
set_option maxRecDepth 100000 in
theorem yN_6_266 {U : State} (q : nN U) : va_Nw (.fieldLinkNest RX6 266 "ProofHouse$Scribe" "length" "I" "ProofHouse") U := q.1 _ (List.mem_of_getElem? (i := 20) rfl)
set_option maxRecDepth 100000 in
theorem yN_6_269 {U : State} (q : nN U) : va_Nw (.fieldLinkNest RX6 269 "ProofHouse$Scribe" "letters" "[C" "ProofHouse") U := q.1 _ (List.mem_of_getElem? (i := 21) rfl)
set_option maxRecDepth 100000 in
theorem yN_6_273 {U : State} (q : nN U) : va_Nw (.fieldLinkNest RX6 273 "ProofHouse$Book" "hypothesisCounts" "[I" "ProofHouse") U := q.1 _ (List.mem_of_getElem? (i := 22) rfl)
set_option maxRecDepth 100000 in
theorem yN_6_276 {U : State} (q : nN U) : va_Nw (.fieldLinkNest RX6 276 "ProofHouse$Book" "hypotheses" "[[I" "ProofHouse") U := q.1 _ (List.mem_of_getElem? (i := 23) rfl)
set_option maxRecDepth 100000 in
theorem yN_6_282 {U : State} (q : nN U) : va_Nw (.fieldLinkNest RX6 282 "ProofHouse$Book" "bodies" "[I" "ProofHouse") U := q.1 _ (List.mem_of_getElem? (i := 24) rfl)
set_option maxRecDepth 100000 in
theorem yN_6_285 {U : State} (q : nN U) : va_Nw (.fieldLinkNest RX6 285 "ProofHouse$Book" "measures" "[I" "ProofHouse") U := q.1 _ (List.mem_of_getElem? (i := 25) rfl)
set_option maxRecDepth 100000 in
theorem yN_6_288 {U : State} (q : nN U) : va_Nw (.fieldLinkNest RX6 288 "ProofHouse$Book" "parameters" "[I" "ProofHouse") U := q.1 _ (List.mem_of_getElem? (i := 26) rfl)
set_option maxRecDepth 100000 in
theorem yN_6_298 {U : State} (q : nN U) : va_Nw (.fieldLinkNest RX6 298 "ProofHouse$Book" "formulas" "[I" "ProofHouse") U := q.1 _ (List.mem_of_getElem? (i := 27) rfl)
set_option maxRecDepth 100000 in
theorem yN_6_304 {U : State} (q : nN U) : va_Nw (.fieldLinkNest RX6 304 "ProofHouse$Book" "truthAlone" "[Z" "ProofHouse") U := q.1 _ (List.mem_of_getElem? (i := 28) rfl)
set_option maxRecDepth 100000 in
theorem yN_6_314 {U : State} (q : nN U) : va_Nw (.fieldLinkNest RX6 314 "ProofHouse$Book" "on" "[Z" "ProofHouse") U := q.1 _ (List.mem_of_getElem? (i := 29) rfl)
set_option maxRecDepth 100000 in
theorem yN_6_317 {U : State} (q : nN U) : va_Nw (.fieldLinkNest RX6 317 "ProofHouse$Terms" "waiting" "[I" "ProofHouse") U := q.1 _ (List.mem_of_getElem? (i := 30) rfl)
set_option maxRecDepth 100000 in
theorem yN_8_71 {U : State} (q : nN U) : va_Nw (.fieldLinkNest RX8 71 "ProofHouse$Terms" "parts" "[I" "ProofHouse") U := q.1 _ (List.mem_of_getElem? (i := 31) rfl)
set_option maxRecDepth 100000 in
theorem yN_8_94 {U : State} (q : nN U) : va_Nw (.fieldLinkNest RX8 94 "ProofHouse$Room" "trouble" "I" "ProofHouse") U := q.1 _ (List.mem_of_getElem? (i := 32) rfl)
set_option maxRecDepth 100000 in
theorem yN_8_121 {U : State} (q : nN U) : va_Nw (.fieldLinkNest RX8 121 "ProofHouse$Book" "functionNames" "[I" "ProofHouse") U := q.1 _ (List.mem_of_getElem? (i := 33) rfl)
set_option maxRecDepth 100000 in
theorem yN_8_126 {U : State} (q : nN U) : va_Nw (.fieldLinkNest RX8 126 "ProofHouse$Book" "parameters" "[I" "ProofHouse") U := q.1 _ (List.mem_of_getElem? (i := 34) rfl)
set_option maxRecDepth 100000 in
theorem yN_8_129 {U : State} (q : nN U) : va_Nw (.fieldLinkNest RX8 129 "ProofHouse$Book" "arities" "[I" "ProofHouse") U := q.1 _ (List.mem_of_getElem? (i := 35) rfl)
set_option maxRecDepth 100000 in
theorem yN_8_141 {U : State} (q : nN U) : va_Nw (.fieldLinkNest RX8 141 "ProofHouse$Book" "muted" "[Z" "ProofHouse") U := q.1 _ (List.mem_of_getElem? (i := 36) rfl)
set_option maxRecDepth 100000 in
theorem yN_8_147 {U : State} (q : nN U) : va_Nw (.fieldLinkNest RX8 147 "ProofHouse$Book" "formulas" "[I" "ProofHouse") U := q.1 _ (List.mem_of_getElem? (i := 37) rfl)
set_option maxRecDepth 100000 in
theorem yN_8_150 {U : State} (q : nN U) : va_Nw (.fieldLinkNest RX8 150 "ProofHouse$Prover" "spare" "LProofHouse$Clause;" "ProofHouse") U := q.1 _ (List.mem_of_getElem? (i := 38) rfl)
set_option maxRecDepth 100000 in
theorem yN_8_169 {U : State} (q : nN U) : va_Nw (.fieldLinkNest RX8 169 "ProofHouse$Book" "bodies" "[I" "ProofHouse") U := q.1 _ (List.mem_of_getElem? (i := 39) rfl)
set_option maxRecDepth 100000 in
theorem yN_8_202 {U : State} (q : nN U) : va_Nw (.fieldLinkNest RX8 202 "ProofHouse$Book" "measures" "[I" "ProofHouse") U := q.1 _ (List.mem_of_getElem? (i := 40) rfl)
set_option maxRecDepth 100000 in
theorem yN_10_152 {U : State} (q : nN U) : va_Nw (.fieldLinkNest RX10 152 "ProofHouse$Clause" "length" "I" "ProofHouse") U := q.1 _ (List.mem_of_getElem? (i := 41) rfl)
set_option maxRecDepth 100000 in
theorem yN_11_150 {U : State} (q : nN U) : va_Nw (.fieldLinkNest RX11 150 "ProofHouse$Reader" "flaw" "I" "ProofHouse") U := q.1 _ (List.mem_of_getElem? (i := 42) rfl)
set_option maxRecDepth 100000 in
theorem yN_11_157 {U : State} (q : nN U) : va_Nw (.fieldLinkNest RX11 157 "ProofHouse$Room" "trouble" "I" "ProofHouse") U := q.1 _ (List.mem_of_getElem? (i := 43) rfl)
set_option maxRecDepth 100000 in
theorem yN_11_20 {U : State} (q : nN U) : va_Nw (.fieldLinkNest RX11 20 "ProofHouse$Room" "used" "I" "ProofHouse") U := q.1 _ (List.mem_of_getElem? (i := 44) rfl)
set_option maxRecDepth 100000 in
theorem yN_11_180 {U : State} (q : nN U) : va_Nw (.fieldLinkNest RX11 180 "ProofHouse$Room" "spent" "I" "ProofHouse") U := q.1 _ (List.mem_of_getElem? (i := 45) rfl)
set_option maxRecDepth 100000 in
theorem yN_11_186 {U : State} (q : nN U) : va_Nw (.fieldLinkNest RX11 186 "ProofHouse$Reader" "place" "I" "ProofHouse") U := q.1 _ (List.mem_of_getElem? (i := 46) rfl)
set_option maxRecDepth 100000 in
theorem yN_11_189 {U : State} (q : nN U) : va_Nw (.fieldLinkNest RX11 189 "ProofHouse$Book" "functions" "I" "ProofHouse") U := q.1 _ (List.mem_of_getElem? (i := 47) rfl)
set_option maxRecDepth 100000 in
theorem yN_11_192 {U : State} (q : nN U) : va_Nw (.fieldLinkNest RX11 192 "ProofHouse$Book" "theorems" "I" "ProofHouse") U := q.1 _ (List.mem_of_getElem? (i := 48) rfl)
set_option maxRecDepth 100000 in
theorem yN_11_199 {U : State} (q : nN U) : va_Nw (.fieldLinkNest RX11 199 "ProofHouse$Prover" "leftCount" "I" "ProofHouse") U := q.1 _ (List.mem_of_getElem? (i := 49) rfl)
set_option maxRecDepth 100000 in
theorem yN_11_202 {U : State} (q : nN U) : va_Nw (.fieldLinkNest RX11 202 "ProofHouse$Scribe" "length" "I" "ProofHouse") U := q.1 _ (List.mem_of_getElem? (i := 50) rfl)
set_option maxRecDepth 100000 in
theorem yN_11_205 {U : State} (q : nN U) : va_Nw (.fieldLinkNest RX11 205 "ProofHouse$Scribe" "letters" "[C" "ProofHouse") U := q.1 _ (List.mem_of_getElem? (i := 51) rfl)
set_option maxRecDepth 100000 in
theorem yN_11_208 {U : State} (q : nN U) : va_Nw (.fieldLinkNest RX11 208 "ProofHouse$Book" "entries" "I" "ProofHouse") U := q.1 _ (List.mem_of_getElem? (i := 52) rfl)
set_option maxRecDepth 100000 in
theorem yN_11_211 {U : State} (q : nN U) : va_Nw (.fieldLinkNest RX11 211 "ProofHouse$Book" "kinds" "[I" "ProofHouse") U := q.1 _ (List.mem_of_getElem? (i := 53) rfl)
set_option maxRecDepth 100000 in
theorem yN_11_217 {U : State} (q : nN U) : va_Nw (.fieldLinkNest RX11 217 "ProofHouse$Book" "measures" "[I" "ProofHouse") U := q.1 _ (List.mem_of_getElem? (i := 54) rfl)
set_option maxRecDepth 100000 in
theorem yN_11_228 {U : State} (q : nN U) : va_Nw (.fieldLinkNest RX11 228 "ProofHouse$Book" "parameters" "[I" "ProofHouse") U := q.1 _ (List.mem_of_getElem? (i := 55) rfl)
set_option maxRecDepth 100000 in
theorem yN_11_231 {U : State} (q : nN U) : va_Nw (.fieldLinkNest RX11 231 "ProofHouse$Book" "bodies" "[I" "ProofHouse") U := q.1 _ (List.mem_of_getElem? (i := 56) rfl)
set_option maxRecDepth 100000 in
theorem yN_11_234 {U : State} (q : nN U) : va_Nw (.fieldLinkNest RX11 234 "ProofHouse$Book" "functionNames" "[I" "ProofHouse") U := q.1 _ (List.mem_of_getElem? (i := 57) rfl)
set_option maxRecDepth 100000 in
theorem yN_11_237 {U : State} (q : nN U) : va_Nw (.fieldLinkNest RX11 237 "ProofHouse$Book" "formulas" "[I" "ProofHouse") U := q.1 _ (List.mem_of_getElem? (i := 58) rfl)
set_option maxRecDepth 100000 in
theorem yN_11_240 {U : State} (q : nN U) : va_Nw (.fieldLinkNest RX11 240 "ProofHouse$Book" "theoremNames" "[I" "ProofHouse") U := q.1 _ (List.mem_of_getElem? (i := 59) rfl)
set_option maxRecDepth 100000 in
theorem yN_11_257 {U : State} (q : nN U) : va_Nw (.fieldLinkNest RX11 257 "ProofHouse$Book" "kept" "I" "ProofHouse") U := q.1 _ (List.mem_of_getElem? (i := 60) rfl)
set_option maxRecDepth 100000 in
theorem yN_11_307 {U : State} (q : nN U) : va_Nw (.fieldLinkNest RX11 307 "ProofHouse$Terms" "ownName" "I" "ProofHouse") U := q.1 _ (List.mem_of_getElem? (i := 61) rfl)
set_option maxRecDepth 100000 in
theorem yN_11_310 {U : State} (q : nN U) : va_Nw (.fieldLinkNest RX11 310 "ProofHouse$Terms" "ownArity" "I" "ProofHouse") U := q.1 _ (List.mem_of_getElem? (i := 62) rfl)
set_option maxRecDepth 100000 in
theorem yN_11_325 {U : State} (q : nN U) : va_Nw (.fieldLinkNest RX11 325 "ProofHouse$Book" "lefts" "[I" "ProofHouse") U := q.1 _ (List.mem_of_getElem? (i := 63) rfl)
set_option maxRecDepth 100000 in
theorem yN_11_353 {U : State} (q : nN U) : va_Nw (.fieldLinkNest RX11 353 "ProofHouse$Book" "on" "[Z" "ProofHouse") U := q.1 _ (List.mem_of_getElem? (i := 64) rfl)
set_option maxRecDepth 100000 in
theorem yN_11_360 {U : State} (q : nN U) : va_Nw (.fieldLinkNest RX11 360 "ProofHouse$Evaluator" "stopped" "I" "ProofHouse") U := q.1 _ (List.mem_of_getElem? (i := 65) rfl)
set_option maxRecDepth 100000 in
theorem yN_11_370 {U : State} (q : nN U) : va_Nw (.fieldLinkNest RX11 370 "ProofHouse$Prover" "givenCount" "I" "ProofHouse") U := q.1 _ (List.mem_of_getElem? (i := 66) rfl)
set_option maxRecDepth 100000 in
theorem yN_11_390 {U : State} (q : nN U) : va_Nw (.fieldLinkNest RX11 390 "ProofHouse$Proofs" "clauses" "[LProofHouse$Clause;" "ProofHouse") U := q.1 _ (List.mem_of_getElem? (i := 67) rfl)
set_option maxRecDepth 100000 in
theorem yN_11_394 {U : State} (q : nN U) : va_Nw (.fieldLinkNest RX11 394 "ProofHouse$Clause" "length" "I" "ProofHouse") U := q.1 _ (List.mem_of_getElem? (i := 68) rfl)
set_option maxRecDepth 100000 in
theorem yN_11_397 {U : State} (q : nN U) : va_Nw (.fieldLinkNest RX11 397 "ProofHouse$Clause" "literals" "[I" "ProofHouse") U := q.1 _ (List.mem_of_getElem? (i := 69) rfl)
set_option maxRecDepth 100000 in
theorem yN_11_400 {U : State} (q : nN U) : va_Nw (.fieldLinkNest RX11 400 "ProofHouse$Proofs" "wrong" "I" "ProofHouse") U := q.1 _ (List.mem_of_getElem? (i := 70) rfl)
set_option maxRecDepth 100000 in
theorem yNm_2_122 {U : State} (q : nN U) : va_Nw (.methodLinkNest RX2 122 yX11_pairCell "ProofHouse") U := q.2 _ (List.mem_of_getElem? (i := 0) rfl)
set_option maxRecDepth 100000 in
theorem yNm_3_215 {U : State} (q : nN U) : va_Nw (.methodLinkNest RX3 215 yX11_pairCell "ProofHouse") U := q.2 _ (List.mem_of_getElem? (i := 1) rfl)
set_option maxRecDepth 100000 in
theorem yNm_4_137 {U : State} (q : nN U) : va_Nw (.methodLinkNest RX4 137 yX11_pairCell "ProofHouse") U := q.2 _ (List.mem_of_getElem? (i := 2) rfl)
set_option maxRecDepth 100000 in
theorem yNm_5_107 {U : State} (q : nN U) : va_Nw (.methodLinkNest RX5 107 yX11_pairCell "ProofHouse") U := q.2 _ (List.mem_of_getElem? (i := 3) rfl)
set_option maxRecDepth 100000 in
theorem yNm_6_191 {U : State} (q : nN U) : va_Nw (.methodLinkNest RX6 191 yX11_pairCell "ProofHouse") U := q.2 _ (List.mem_of_getElem? (i := 4) rfl)
set_option maxRecDepth 100000 in
theorem yNm_7_92 {U : State} (q : nN U) : va_Nw (.methodLinkNest RX7 92 yX11_pairCell "ProofHouse") U := q.2 _ (List.mem_of_getElem? (i := 5) rfl)
set_option maxRecDepth 100000 in
theorem yNm_10_84 {U : State} (q : nN U) : va_Nw (.methodLinkNest RX10 84 yX11_pairCell "ProofHouse") U := q.2 _ (List.mem_of_getElem? (i := 6) rfl)
/-! static rows -/
def yT_BASE_ARITIES : List Int := [3, 2, 2, 2, 2, 2, 2, 1, 1, 1, 1, 1, 1, 1]
def yT_LENGTHS : List Int := [2, 2, 2, 3, 3, 3, 4, 4, 2, 2, 3, 4, 2, 2, 3, 3]
def yT_TERM_COUNTS : List Int := [1, 1, 1, 2, 2, 2, 3, 3, 0, 0, 0, 1, 0, 0, 0, 1]
def yT_FIRST_PARTS : List Int := [0, 0, 0, 0, 0, 0, 0, 0, 0, 0, 2, 2, 1, 1, 1, 3]
def yT_PART_COUNTS : List Int := [0, 0, 0, 0, 0, 0, 0, 0, 0, 0, 1, 2, 1, 1, 2, 0]
def yS1 (C n : String) (l : List Int) (t : Nat) (A : Nat → Prop) (U : State) (H : Heap) : Prop := va_Z C n "[I" (.ref t) A U H ∧ va_T .int t l.length (fun j => .int (jI (l.getD j 0))) A U H
def yK1 (ad : Nat → Nat → Nat) (i : Nat) : Nat := if i = 1 then ad 14 0 else ad 14 2
def yV1 (ad : Nat → Nat → Nat) (i : Nat) : Nat := if i = 1 then ad 15 0 else ad 15 2
def yK2 (ad : Nat → Nat → Nat) (i : Nat) : Nat := if i = 1 then ad 14 1 else ad 14 2
def yV2 (ad : Nat → Nat → Nat) (i : Nat) : Nat := if i = 1 then ad 15 1 else ad 15 2
def yE (ad : Nat → Nat → Nat) (A : Nat → Prop) (U : State) (H : Heap) : Prop := nN U ∧ yS1 "ProofHouse$Book" "BASE_ARITIES" yT_BASE_ARITIES (ad 13 0) A U H ∧ yS1 "ProofHouse$Proofs" "LENGTHS" yT_LENGTHS (ad 13 1) A U H ∧ yS1 "ProofHouse$Proofs" "TERM_COUNTS" yT_TERM_COUNTS (ad 13 2) A U H ∧ yS1 "ProofHouse$Proofs" "FIRST_PARTS" yT_FIRST_PARTS (ad 13 3) A U H ∧ yS1 "ProofHouse$Proofs" "PART_COUNTS" yT_PART_COUNTS (ad 13 4) A U H ∧ sS (yK1 ad) (yV1 ad) A U H ∧ sS (yK2 ad) (yV2 ad) A U H ∧ vk_R RX5 64 " abcdefghijklmnopqrstuvwxyz0123456789+-*/<>=?!_" (ad 14 0) U ∧ vk_R RX9 65 " abcdefghijklmnopqrstuvwxyz0123456789+-*/<>=?!_" (ad 14 1) U
theorem yS1.moved {C n : String} {l : List Int} {t : Nat} {A : Nat → Prop} {u U : State} {H : Heap} (hvm : u.vm.Alike U.vm) (h : yS1 C n l t A u H) : yS1 C n l t A U H := ⟨va_Z.moved hvm h.1, va_T.moved hvm h.2⟩
theorem yS1.kept {C n : String} {l : List Int} {t : Nat} {A : Nat → Prop} {U : State} {H H1 : Heap} (h : yS1 C n l t A U H) (hq : ∀ a : Nat, a < H.size → ¬ A a → H1[a]? = H[a]?) : yS1 C n l t A U H1 := ⟨h.1.kept hq, h.2.kept hq⟩
theorem yS1.narrow {C n : String} {l : List Int} {t : Nat} {A B : Nat → Prop} {U : State} {H : Heap} (h : yS1 C n l t A U H) (hAB : ∀ q, B q → A q) : yS1 C n l t B U H := ⟨h.1.narrow hAB, h.2.narrow hAB⟩
theorem yE.calling {ad : Nat → Nat → Nat} {A : Nat → Prop} {U : State} {H : Heap} {V : State} (hvm : U.vm = V.vm) (h : yE ad A U H) : yE ad A V H := by
  have ha : U.vm.Alike V.vm := hvm ▸ Vm.Alike.refl U.vm
  obtain ⟨q, h1, h2, h3, h4, h5, h6, h7, h8, h9⟩ := h
  exact ⟨nN.same hvm q, h1.moved ha, h2.moved ha, h3.moved ha, h4.moved ha, h5.moved ha, h6.moved ha, h7.moved ha, vk_R.same hvm.symm h8, vk_R.same hvm.symm h9⟩
theorem yE.start {ad : Nat → Nat → Nat} {A B : Nat → Prop} {s U : State} {H0 H : Heap} {locs : List Loc} (h : yE ad A s H0) (hW : s.WarmedH U.vm) (hS : va_S A H0 H locs) (hAB : ∀ q, B q → A q) : yE ad B U H := by
  obtain ⟨q, h1, h2, h3, h4, h5, h6, h7, h8, h9⟩ := h
  exact ⟨nN.warm hW q, ((h1.moved hW.alike).kept hS.2.1).narrow hAB, ((h2.moved hW.alike).kept hS.2.1).narrow hAB, ((h3.moved hW.alike).kept hS.2.1).narrow hAB, ((h4.moved hW.alike).kept hS.2.1).narrow hAB, ((h5.moved hW.alike).kept hS.2.1).narrow hAB, ((h6.moved hW.alike).kept hS.2.1).narrow hAB, ((h7.moved hW.alike).kept hS.2.1).narrow hAB, vk_R.warm hW h8, vk_R.warm hW h9⟩
