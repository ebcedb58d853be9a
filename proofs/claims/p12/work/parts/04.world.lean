/-! the words that the reference's methods need, all in one list -/
def wsF : List Cond := [.fieldLink RX12 8 "ProofHouseModel" "left" "[I", .fieldLink RX12 14 "ProofHouseModel" "right" "[I", .fieldLink RX12 17 "ProofHouseModel" "next" "[I", .fieldLink RX12 20 "ProofHouseModel" "sizes" "[I", .fieldLink RX12 23 "ProofHouseModel" "heights" "[I", .fieldLink RX12 27 "ProofHouseModel" "number" "[J", .fieldLink RX12 339 "ProofHouseModel" "naturals" "I", .fieldLink RX12 31 "ProofHouseModel" "heads" "[I", .fieldLink RX12 332 "ProofHouseModel" "objects" "I", .fieldLink RX12 35 "ProofHouseModel" "names" "[I", .fieldLink RX12 38 "ProofHouseModel" "lengths" "[I", .fieldLink RX12 346 "ProofHouseModel" "symbols" "I", .fieldLink RX12 41 "ProofHouseModel" "waiting" "[I", .fieldLink RX12 44 "ProofHouseModel" "text" "[I", .fieldLink RX12 374 "ProofHouseModel" "textSize" "I", .fieldLink RX12 47 "ProofHouseModel" "out" "[I", .fieldLink RX12 441 "ProofHouseModel" "outSize" "I", .fieldLink RX12 50 "ProofHouseModel" "word" "[I", .fieldLink RX12 309 "ProofHouseModel" "wordSize" "I", .fieldLink RX12 53 "ProofHouseModel" "tellWhat" "[I", .fieldLink RX12 450 "ProofHouseModel" "telling" "I", .fieldLink RX12 56 "ProofHouseModel" "one" "[I", .fieldLink RX12 438 "ProofHouseModel" "oneSize" "I", .fieldLink RX12 371 "ProofHouseModel" "at" "I", .fieldLink RX12 377 "ProofHouseModel" "readFault" "I", .fieldLink RX12 59 "ProofHouseModel" "readPlace" "I", .fieldLink RX12 63 "ProofHouseModel" "openSort" "[I", .fieldLink RX12 66 "ProofHouseModel" "openFrom" "[I", .fieldLink RX12 69 "ProofHouseModel" "openState" "[I", .fieldLink RX12 72 "ProofHouseModel" "openLast" "[I", .fieldLink RX12 380 "ProofHouseModel" "open" "I", .fieldLink RX12 75 "ProofHouseModel" "items" "[I", .fieldLink RX12 387 "ProofHouseModel" "itemSize" "I", .fieldLink RX12 390 "ProofHouseModel" "whole" "I", .fieldLink RX12 383 "ProofHouseModel" "done" "Z", .fieldLink RX12 474 "ProofHouseModel" "defs" "I", .fieldLink RX12 78 "ProofHouseModel" "defName" "[I", .fieldLink RX12 81 "ProofHouseModel" "defMany" "[I", .fieldLink RX12 84 "ProofHouseModel" "defVariable" "[I", .fieldLink RX12 87 "ProofHouseModel" "defBody" "[I", .fieldLink RX12 90 "ProofHouseModel" "defMeasure" "[I", .fieldLink RX12 93 "ProofHouseModel" "defSelf" "[Z", .fieldLink RX12 699 "ProofHouseModel" "theorems" "I", .fieldLink RX12 97 "ProofHouseModel" "theoremName" "[I", .fieldLink RX12 100 "ProofHouseModel" "theorem" "[I", .fieldLink RX12 103 "ProofHouseModel" "theoremSort" "[I", .fieldLink RX12 106 "ProofHouseModel" "ruleLeft" "[I", .fieldLink RX12 109 "ProofHouseModel" "ruleRight" "[I", .fieldLink RX12 112 "ProofHouseModel" "ruleMany" "[I", .fieldLink RX12 115 "ProofHouseModel" "ruleHypothesis" "[I", .fieldLink RX12 118 "ProofHouseModel" "rulePermutes" "[Z", .fieldLink RX12 121 "ProofHouseModel" "ruleTruth" "[Z", .fieldLink RX12 124 "ProofHouseModel" "ruleOn" "[Z", .fieldLink RX12 127 "ProofHouseModel" "ruleOut" "[Z", .fieldLink RX12 845 "ProofHouseModel" "taken" "I", .fieldLink RX12 130 "ProofHouseModel" "takenSort" "[I", .fieldLink RX12 133 "ProofHouseModel" "takenFrom" "[I", .fieldLink RX12 136 "ProofHouseModel" "comingName" "I", .fieldLink RX12 477 "ProofHouseModel" "comingMany" "I", .fieldLink RX12 139 "ProofHouseModel" "fuel" "I", .fieldLink RX12 561 "ProofHouseModel" "steps" "I", .fieldLink RX12 480 "ProofHouseModel" "work" "I", .fieldLink RX12 779 "ProofHouseModel" "proved" "Z", .fieldLink RX12 751 "ProofHouseModel" "leftMany" "I", .fieldLink RX12 435 "ProofHouseModel" "short0" "Z", .fieldLink RX12 142 "ProofHouseModel" "other" "[I", .fieldLink RX12 145 "ProofHouseModel" "callOf" "[I", .fieldLink RX12 148 "ProofHouseModel" "restOf" "[I", .fieldLink RX12 151 "ProofHouseModel" "fromOf" "[I", .fieldLink RX12 492 "ProofHouseModel" "calls" "I", .fieldLink RX12 154 "ProofHouseModel" "built" "[I", .fieldLink RX12 486 "ProofHouseModel" "builtSize" "I", .fieldLink RX12 157 "ProofHouseModel" "variable" "[I", .fieldLink RX12 160 "ProofHouseModel" "instead" "[I", .fieldLink RX12 495 "ProofHouseModel" "pairs" "I", .fieldLink RX12 163 "ProofHouseModel" "walk" "[I", .fieldLink RX12 549 "ProofHouseModel" "walking" "I", .fieldLink RX12 166 "ProofHouseModel" "its" "[I", .fieldLink RX12 558 "ProofHouseModel" "itsMany" "I", .fieldLink RX12 169 "ProofHouseModel" "evalTerm" "[I", .fieldLink RX12 172 "ProofHouseModel" "evalRest" "[I", .fieldLink RX12 175 "ProofHouseModel" "evalFrom" "[I", .fieldLink RX12 178 "ProofHouseModel" "evalDef" "[I", .fieldLink RX12 181 "ProofHouseModel" "evalBase" "[I", .fieldLink RX12 184 "ProofHouseModel" "evalEnds" "[Z", .fieldLink RX12 573 "ProofHouseModel" "evals" "I", .fieldLink RX12 187 "ProofHouseModel" "value" "[I", .fieldLink RX12 582 "ProofHouseModel" "values" "I", .fieldLink RX12 579 "ProofHouseModel" "evalLimit" "I", .fieldLink RX12 576 "ProofHouseModel" "evalWhy" "I", .fieldLink RX12 564 "ProofHouseModel" "evalDone" "Z", .fieldLink RX12 570 "ProofHouseModel" "evalValue" "I", .fieldLink RX12 190 "ProofHouseModel" "job" "[I", .fieldLink RX12 193 "ProofHouseModel" "jobTruth" "[Z", .fieldLink RX12 196 "ProofHouseModel" "jobPhase" "[I", .fieldLink RX12 199 "ProofHouseModel" "jobA" "[I", .fieldLink RX12 202 "ProofHouseModel" "jobB" "[I", .fieldLink RX12 205 "ProofHouseModel" "jobC" "[I", .fieldLink RX12 208 "ProofHouseModel" "jobRest" "[I", .fieldLink RX12 211 "ProofHouseModel" "jobFrom" "[I", .fieldLink RX12 214 "ProofHouseModel" "jobRule" "[I", .fieldLink RX12 217 "ProofHouseModel" "jobHypothesis" "[I", .fieldLink RX12 612 "ProofHouseModel" "jobs" "I", .fieldLink RX12 220 "ProofHouseModel" "result" "[I", .fieldLink RX12 647 "ProofHouseModel" "results" "I", .fieldLink RX12 223 "ProofHouseModel" "ruleVariable" "[I", .fieldLink RX12 226 "ProofHouseModel" "ruleInstead" "[I", .fieldLink RX12 229 "ProofHouseModel" "rulePairs" "[I", .fieldLink RX12 232 "ProofHouseModel" "context" "[I", .fieldLink RX12 625 "ProofHouseModel" "contexts" "I", .fieldLink RX12 618 "ProofHouseModel" "came" "I", .fieldLink RX12 609 "ProofHouseModel" "ended" "Z", .fieldLink RX12 235 "ProofHouseModel" "seekLeft" "[I", .fieldLink RX12 238 "ProofHouseModel" "seekRight" "[I", .fieldLink RX12 242 "ProofHouseModel" "literal" "[I", .fieldLink RX12 245 "ProofHouseModel" "many" "[I", .fieldLink RX12 248 "ProofHouseModel" "rounds" "[I", .fieldLink RX12 733 "ProofHouseModel" "rows" "I", .fieldLink RX12 251 "ProofHouseModel" "order" "[I", .fieldLink RX12 748 "ProofHouseModel" "waits" "I", .fieldLink RX12 254 "ProofHouseModel" "leftRow" "[I", .fieldLink RX12 257 "ProofHouseModel" "draft" "[I", .fieldLink RX12 727 "ProofHouseModel" "drafted" "I", .fieldLink RX12 260 "ProofHouseModel" "end" "[I", .fieldLink RX12 263 "ProofHouseModel" "ruler" "[I", .fieldLink RX12 266 "ProofHouseModel" "rulers" "[I", .fieldLink RX12 788 "ProofHouseModel" "paths" "I", .fieldLink RX12 269 "ProofHouseModel" "pathTerm" "[I", .fieldLink RX12 272 "ProofHouseModel" "pathRuler" "[I", .fieldLink RX12 275 "ProofHouseModel" "pathRulers" "[I", .fieldLink RX12 278 "ProofHouseModel" "found" "[I", .fieldLink RX12 791 "ProofHouseModel" "foundMany" "I", .fieldLink RX12 848 "ProofHouseModel" "began" "I", .fieldLink RX12 863 "ProofHouseModel" "hintFunction" "I", .fieldLink RX12 869 "ProofHouseModel" "hintList" "I", .fieldLink RX12 881 "ProofHouseModel" "hasOff" "Z", .fieldLink RX12 860 "ProofHouseModel" "hintWrong" "I", .fieldLink RX12 281 "ProofHouseModel" "used" "[I", .fieldLink RX12 284 "ProofHouseModel" "usedPairs" "[I", .fieldLink RX12 878 "ProofHouseModel" "uses" "I", .fieldLink RX12 287 "ProofHouseModel" "stepTerm" "[I", .fieldLink RX12 290 "ProofHouseModel" "proof" "[I", .fieldLink RX12 293 "ProofHouseModel" "proofPart" "[I", .fieldLink RX12 296 "ProofHouseModel" "proofFrom" "[I", .fieldLink RX12 926 "ProofHouseModel" "proofs" "I", .fieldLink RX12 299 "ProofHouseModel" "clause" "[I", .fieldLink RX12 302 "ProofHouseModel" "clauseMany" "[I", .fieldLink RX12 938 "ProofHouseModel" "clauses" "I", .fieldLink RX12 932 "ProofHouseModel" "wrongProof" "I"]
def wsK : List Cond := [.constant RX12 320 (40503), .constantLong RX12 396 (4611686018427387903), .constantLong RX12 398 (10), .constantLong RX12 400 (48)]
def wsC : List Cond := .initialized RX12 :: [.methodLink RX12 908 yX12_addTheorem, .instanceMethod yX12_addTheorem, .selects RX12 yX12_addTheorem yX12_addTheorem, .code yX12_addTheorem cX12_addTheorem 4 none, .methodLink RX12 335 yX12_added, .instanceMethod yX12_added, .selects RX12 yX12_added yX12_added, .code yX12_added cX12_added 4 (some .int), .methodLink RX12 995 yX12_allRulesIn, .instanceMethod yX12_allRulesIn, .selects RX12 yX12_allRulesIn yX12_allRulesIn, .code yX12_allRulesIn cX12_allRulesIn 2 none, .methodLink RX12 520 yX12_anew, .instanceMethod yX12_anew, .selects RX12 yX12_anew yX12_anew, .code yX12_anew cX12_anew 8 (some .int), .methodLink RX12 653 yX12_apply, .instanceMethod yX12_apply, .selects RX12 yX12_apply yX12_apply, .code yX12_apply cX12_apply 9 none, .methodLink RX12 824 yX12_areApart, .instanceMethod yX12_areApart, .selects RX12 yX12_areApart yX12_areApart, .code yX12_areApart cX12_areApart 6 (some .boolean), .methodLink RX12 681 yX12_areConstants, .instanceMethod yX12_areConstants, .selects RX12 yX12_areConstants yX12_areConstants, .code yX12_areConstants cX12_areConstants 3 (some .boolean), .methodLink RX12 872 yX12_arePairs, .instanceMethod yX12_arePairs, .selects RX12 yX12_arePairs yX12_arePairs, .code yX12_arePairs cX12_arePairs 5 (some .boolean), .methodLink RX12 914 yX12_areTerms, .instanceMethod yX12_areTerms, .selects RX12 yX12_areTerms yX12_areTerms, .code yX12_areTerms cX12_areTerms 5 (some .boolean), .methodLink RX12 812 yX12_areVariables, .instanceMethod yX12_areVariables, .selects RX12 yX12_areVariables yX12_areVariables, .code yX12_areVariables cX12_areVariables 6 (some .boolean), .methodLink RX12 426 yX12_atom, .instanceMethod yX12_atom, .selects RX12 yX12_atom yX12_atom, .code yX12_atom cX12_atom 7 (some .int), .methodLink RX12 410 yX12_bad, .instanceMethod yX12_bad, .selects RX12 yX12_bad yX12_bad, .code yX12_bad cX12_bad 3 none, .methodLink RX12 599 yX12_basic, .instanceMethod yX12_basic, .selects RX12 yX12_basic yX12_basic, .code yX12_basic cX12_basic 5 (some .int), .methodLink RX12 414 yX12_begin, .instanceMethod yX12_begin, .selects RX12 yX12_begin yX12_begin, .code yX12_begin cX12_begin 2 none, .methodLink RX12 595 yX12_beginEval, .instanceMethod yX12_beginEval, .selects RX12 yX12_beginEval yX12_beginEval, .code yX12_beginEval cX12_beginEval 6 none, .methodLink RX12 510 yX12_beginInstance, .instanceMethod yX12_beginInstance, .selects RX12 yX12_beginInstance yX12_beginInstance, .code yX12_beginInstance cX12_beginInstance 4 none, .methodLink RX12 621 yX12_beginJob, .instanceMethod yX12_beginJob, .selects RX12 yX12_beginJob yX12_beginJob, .code yX12_beginJob cX12_beginJob 3 none, .methodLink RX12 965 yX12_beginProof, .instanceMethod yX12_beginProof, .selects RX12 yX12_beginProof yX12_beginProof, .code yX12_beginProof cX12_beginProof 2 none, .methodLink RX12 535 yX12_beginTerm, .instanceMethod yX12_beginTerm, .selects RX12 yX12_beginTerm yX12_beginTerm, .code yX12_beginTerm cX12_beginTerm 3 (some .boolean), .methodLink RX12 953 yX12_beginsEqual, .instanceMethod yX12_beginsEqual, .selects RX12 yX12_beginsEqual yX12_beginsEqual, .code yX12_beginsEqual cX12_beginsEqual 2 (some .boolean), .methodLink RX12 675 yX12_bodyOf, .instanceMethod yX12_bodyOf, .selects RX12 yX12_bodyOf yX12_bodyOf, .code yX12_bodyOf cX12_bodyOf 5 (some .int), .methodLink RX12 702 yX12_bound, .instanceMethod yX12_bound, .selects RX12 yX12_bound yX12_bound, .code yX12_bound cX12_bound 6 (some .boolean), .methodLink RX12 730 yX12_bounded, .instanceMethod yX12_bounded, .selects RX12 yX12_bounded yX12_bounded, .code yX12_bounded cX12_bounded 3 none, .methodLink RX12 498 yX12_build, .instanceMethod yX12_build, .selects RX12 yX12_build yX12_build, .code yX12_build cX12_build 2 none, .methodLink RX12 514 yX12_callFrom, .instanceMethod yX12_callFrom, .selects RX12 yX12_callFrom yX12_callFrom, .code yX12_callFrom cX12_callFrom 6 (some .int), .methodLink RX12 763 yX12_changeTo, .instanceMethod yX12_changeTo, .selects RX12 yX12_changeTo yX12_changeTo, .code yX12_changeTo cX12_changeTo 5 (some .boolean), .methodLink RX12 986 yX12_check, .instanceMethod yX12_check, .selects RX12 yX12_check yX12_check, .code yX12_check cX12_check 7 (some .int), .methodLink RX12 420 yX12_close, .instanceMethod yX12_close, .selects RX12 yX12_close yX12_close, .code yX12_close cX12_close 3 none, .methodLink RX12 1001 yX12_command, .instanceMethod yX12_command, .selects RX12 yX12_command yX12_command, .code yX12_command cX12_command 2 (some .int), .methodLink RX12 968 yX12_concludes, .instanceMethod yX12_concludes, .selects RX12 yX12_concludes yX12_concludes, .code yX12_concludes cX12_concludes 8 (some .boolean), .methodLink RX12 523 yX12_constantOf, .instanceMethod yX12_constantOf, .selects RX12 yX12_constantOf yX12_constantOf, .code yX12_constantOf cX12_constantOf 2 (some .int), .methodLink RX12 684 yX12_constantValue, .instanceMethod yX12_constantValue, .selects RX12 yX12_constantValue yX12_constantValue, .code yX12_constantValue cX12_constantValue 4 (some .int), .methodLink RX12 854 yX12_covers, .instanceMethod yX12_covers, .selects RX12 yX12_covers yX12_covers, .code yX12_covers cX12_covers 5 (some .boolean), .methodLink RX12 718 yX12_define, .instanceMethod yX12_define, .selects RX12 yX12_define yX12_define, .code yX12_define cX12_define 4 none, .methodLink RX12 941 yX12_defined, .instanceMethod yX12_defined, .selects RX12 yX12_defined yX12_defined, .code yX12_defined cX12_defined 4 none, .methodLink RX12 827 yX12_definition, .instanceMethod yX12_definition, .selects RX12 yX12_definition yX12_definition, .code yX12_definition cX12_definition 3 (some .int), .methodLink RX12 980 yX12_defthm, .instanceMethod yX12_defthm, .selects RX12 yX12_defthm yX12_defthm, .code yX12_defthm cX12_defthm 10 (some .int), .methodLink RX12 983 yX12_defun, .instanceMethod yX12_defun, .selects RX12 yX12_defun yX12_defun, .code yX12_defun cX12_defun 10 (some .int), .methodLink RX12 393 yX12_deliver, .instanceMethod yX12_deliver, .selects RX12 yX12_deliver yX12_deliver, .code yX12_deliver cX12_deliver 3 none, .methodLink RX12 637 yX12_end0, .instanceMethod yX12_end0, .selects RX12 yX12_end0 yX12_end0, .code yX12_end0 cX12_end0 2 none, .methodLink RX12 974 yX12_eval, .instanceMethod yX12_eval, .selects RX12 yX12_eval yX12_eval, .code yX12_eval cX12_eval 4 (some .int), .methodLink RX12 687 yX12_evaluated, .instanceMethod yX12_evaluated, .selects RX12 yX12_evaluated yX12_evaluated, .code yX12_evaluated cX12_evaluated 3 (some .int), .methodLink RX12 517 yX12_fail, .instanceMethod yX12_fail, .selects RX12 yX12_fail yX12_fail, .code yX12_fail cX12_fail 2 none, .methodLink RX12 696 yX12_fallen, .instanceMethod yX12_fallen, .selects RX12 yX12_fallen yX12_fallen, .code yX12_fallen cX12_fallen 5 (some .int), .methodLink RX12 806 yX12_find, .instanceMethod yX12_find, .selects RX12 yX12_find yX12_find, .code yX12_find cX12_find 4 none, .methodLink RX12 839 yX12_forget, .instanceMethod yX12_forget, .selects RX12 yX12_forget yX12_forget, .code yX12_forget cX12_forget 2 none, .methodLink RX12 526 yX12_functionOf, .instanceMethod yX12_functionOf, .selects RX12 yX12_functionOf yX12_functionOf, .code yX12_functionOf cX12_functionOf 3 (some .int), .methodLink RX12 606 yX12_goOn, .instanceMethod yX12_goOn, .selects RX12 yX12_goOn yX12_goOn, .code yX12_goOn cX12_goOn 4 none, .methodLink RX12 971 yX12_goProof, .instanceMethod yX12_goProof, .selects RX12 yX12_goProof yX12_goProof, .code yX12_goProof cX12_goProof 5 none, .methodLink RX12 947 yX12_has, .instanceMethod yX12_has, .selects RX12 yX12_has yX12_has, .code yX12_has cX12_has 4 (some .boolean), .methodLink RX12 803 yX12_hasCall, .instanceMethod yX12_hasCall, .selects RX12 yX12_hasCall yX12_hasCall, .code yX12_hasCall cX12_hasCall 4 (some .boolean), .methodLink RX12 818 yX12_hasOnly, .instanceMethod yX12_hasOnly, .selects RX12 yX12_hasOnly yX12_hasOnly, .code yX12_hasOnly cX12_hasOnly 4 (some .boolean), .methodLink RX12 857 yX12_hasVariable, .instanceMethod yX12_hasVariable, .selects RX12 yX12_hasVariable yX12_hasVariable, .code yX12_hasVariable cX12_hasVariable 3 (some .boolean), .methodLink RX12 902 yX12_hints, .instanceMethod yX12_hints, .selects RX12 yX12_hints yX12_hints, .code yX12_hints cX12_hints 5 (some .int), .methodLink RX12 851 yX12_hypotheses, .instanceMethod yX12_hypotheses, .selects RX12 yX12_hypotheses yX12_hypotheses, .code yX12_hypotheses cX12_hypotheses 5 none, .methodLink RX12 884 yX12_induction, .instanceMethod yX12_induction, .selects RX12 yX12_induction yX12_induction, .code yX12_induction cX12_induction 4 none, .methodLink RX12 899 yX12_inductionRow, .instanceMethod yX12_inductionRow, .selects RX12 yX12_inductionRow yX12_inductionRow, .code yX12_inductionRow cX12_inductionRow 7 none, .methodLink RX12 959 yX12_inducts, .instanceMethod yX12_inducts, .selects RX12 yX12_inducts yX12_inducts, .code yX12_inducts cX12_inducts 10 (some .boolean), .methodLink RX12 712 yX12_instance, .instanceMethod yX12_instance, .selects RX12 yX12_instance yX12_instance, .code yX12_instance cX12_instance 2 (some .int), .methodLink RX12 950 yX12_instanced, .instanceMethod yX12_instanced, .selects RX12 yX12_instanced yX12_instanced, .code yX12_instanced cX12_instanced 6 (some .boolean), .methodLink RX12 423 yX12_isAtom, .static yX12_isAtom, .code yX12_isAtom cX12_isAtom 1 (some .boolean), .methodLink RX12 631 yX12_isBoolean, .instanceMethod yX12_isBoolean, .selects RX12 yX12_isBoolean yX12_isBoolean, .code yX12_isBoolean cX12_isBoolean 2 (some .boolean), .methodLink RX12 483 yX12_isCall, .instanceMethod yX12_isCall, .selects RX12 yX12_isCall yX12_isCall, .code yX12_isCall cX12_isCall 2 (some .boolean), .methodLink RX12 542 yX12_isCallOf, .instanceMethod yX12_isCallOf, .selects RX12 yX12_isCallOf yX12_isCallOf, .code yX12_isCallOf cX12_isCallOf 3 (some .boolean), .methodLink RX12 546 yX12_isConstant, .instanceMethod yX12_isConstant, .selects RX12 yX12_isConstant yX12_isConstant, .code yX12_isConstant cX12_isConstant 2 (some .boolean), .methodLink RX12 634 yX12_isDenied, .instanceMethod yX12_isDenied, .selects RX12 yX12_isDenied yX12_isDenied, .code yX12_isDenied cX12_isDenied 3 (some .boolean), .methodLink RX12 368 yX12_isDigit, .static yX12_isDigit, .code yX12_isDigit cX12_isDigit 1 (some .boolean), .methodLink RX12 929 yX12_isForm, .instanceMethod yX12_isForm, .selects RX12 yX12_isForm yX12_isForm, .code yX12_isForm cX12_isForm 3 (some .boolean), .methodLink RX12 456 yX12_isFull, .instanceMethod yX12_isFull, .selects RX12 yX12_isFull yX12_isFull, .code yX12_isFull cX12_isFull 1 (some .boolean), .methodLink RX12 800 yX12_isIn, .instanceMethod yX12_isIn, .selects RX12 yX12_isIn yX12_isIn, .code yX12_isIn cX12_isIn 4 (some .boolean), .methodLink RX12 628 yX12_isInContext, .instanceMethod yX12_isInContext, .selects RX12 yX12_isInContext yX12_isInContext, .code yX12_isInContext cX12_isInContext 3 (some .boolean), .methodLink RX12 417 yX12_isInList, .instanceMethod yX12_isInList, .selects RX12 yX12_isInList yX12_isInList, .code yX12_isInList cX12_isInList 1 (some .boolean), .methodLink RX12 923 yX12_isInduction, .instanceMethod yX12_isInduction, .selects RX12 yX12_isInduction yX12_isInduction, .code yX12_isInduction cX12_isInduction 5 (some .boolean), .methodLink RX12 468 yX12_isNatural, .instanceMethod yX12_isNatural, .selects RX12 yX12_isNatural yX12_isNatural, .code yX12_isNatural cX12_isNatural 2 (some .boolean), .methodLink RX12 809 yX12_isNewName, .instanceMethod yX12_isNewName, .selects RX12 yX12_isNewName yX12_isNewName, .code yX12_isNewName cX12_isNewName 2 (some .boolean), .methodLink RX12 678 yX12_isNumbered, .instanceMethod yX12_isNumbered, .selects RX12 yX12_isNumbered yX12_isNumbered, .code yX12_isNumbered cX12_isNumbered 2 (some .boolean), .methodLink RX12 365 yX12_isPair, .instanceMethod yX12_isPair, .selects RX12 yX12_isPair yX12_isPair, .code yX12_isPair cX12_isPair 2 (some .boolean), .methodLink RX12 773 yX12_isProved, .instanceMethod yX12_isProved, .selects RX12 yX12_isProved yX12_isProved, .code yX12_isProved cX12_isProved 5 (some .boolean), .methodLink RX12 462 yX12_isQuoted, .instanceMethod yX12_isQuoted, .selects RX12 yX12_isQuoted yX12_isQuoted, .code yX12_isQuoted cX12_isQuoted 2 (some .boolean), .methodLink RX12 794 yX12_isReserved, .static yX12_isReserved, .code yX12_isReserved cX12_isReserved 1 (some .boolean), .methodLink RX12 715 yX12_isSmaller, .instanceMethod yX12_isSmaller, .selects RX12 yX12_isSmaller yX12_isSmaller, .code yX12_isSmaller cX12_isSmaller 7 (some .boolean), .methodLink RX12 615 yX12_isStep, .instanceMethod yX12_isStep, .selects RX12 yX12_isStep yX12_isStep, .code yX12_isStep cX12_isStep 1 (some .boolean), .methodLink RX12 444 yX12_isSymbol, .instanceMethod yX12_isSymbol, .selects RX12 yX12_isSymbol yX12_isSymbol, .code yX12_isSymbol cX12_isSymbol 2 (some .boolean), .methodLink RX12 920 yX12_isTermList, .instanceMethod yX12_isTermList, .selects RX12 yX12_isTermList yX12_isTermList, .code yX12_isTermList cX12_isTermList 3 (some .boolean), .methodLink RX12 504 yX12_isVariable, .instanceMethod yX12_isVariable, .selects RX12 yX12_isVariable yX12_isVariable, .code yX12_isVariable cX12_isVariable 2 (some .boolean), .methodLink RX12 342 yX12_isWord, .instanceMethod yX12_isWord, .selects RX12 yX12_isWord yX12_isWord, .code yX12_isWord cX12_isWord 4 (some .boolean), .methodLink RX12 665 yX12_join, .instanceMethod yX12_join, .selects RX12 yX12_join yX12_join, .code yX12_join cX12_join 5 none, .methodLink RX12 453 yX12_later, .instanceMethod yX12_later, .selects RX12 yX12_later yX12_later, .code yX12_later cX12_later 2 none, .methodLink RX12 767 yX12_leave, .instanceMethod yX12_leave, .selects RX12 yX12_leave yX12_leave, .code yX12_leave cX12_leave 2 none, .methodLink RX12 529 yX12_lengthOf, .instanceMethod yX12_lengthOf, .selects RX12 yX12_lengthOf yX12_lengthOf, .code yX12_lengthOf cX12_lengthOf 4 (some .int), .methodLink RX12 356 yX12_list1, .instanceMethod yX12_list1, .selects RX12 yX12_list1 yX12_list1, .code yX12_list1 cX12_list1 2 (some .int), .methodLink RX12 359 yX12_list2, .instanceMethod yX12_list2, .selects RX12 yX12_list2 yX12_list2, .code yX12_list2 cX12_list2 3 (some .int), .methodLink RX12 362 yX12_list3, .instanceMethod yX12_list3, .selects RX12 yX12_list3 yX12_list3, .code yX12_list3 cX12_list3 4 (some .int), .methodLink RX12 640 yX12_lookedUp, .instanceMethod yX12_lookedUp, .selects RX12 yX12_lookedUp yX12_lookedUp, .code yX12_lookedUp cX12_lookedUp 6 (some .int), .methodLink RX12 538 yX12_made, .instanceMethod yX12_made, .selects RX12 yX12_made yX12_made, .code yX12_made cX12_made 7 (some .int), .methodLink RX12 693 yX12_made2, .instanceMethod yX12_made2, .selects RX12 yX12_made2 yX12_made2, .code yX12_made2 cX12_made2 4 (some .int), .methodLink RX12 532 yX12_manyOf, .instanceMethod yX12_manyOf, .selects RX12 yX12_manyOf yX12_manyOf, .code yX12_manyOf cX12_manyOf 2 (some .int), .methodLink RX12 706 yX12_matches, .instanceMethod yX12_matches, .selects RX12 yX12_matches yX12_matches, .code yX12_matches cX12_matches 10 (some .boolean), .methodLink RX12 406 yX12_mayBegin, .instanceMethod yX12_mayBegin, .selects RX12 yX12_mayBegin yX12_mayBegin, .code yX12_mayBegin cX12_mayBegin 1 (some .boolean), .methodLink RX12 830 yX12_measureRows, .instanceMethod yX12_measureRows, .selects RX12 yX12_measureRows yX12_measureRows, .code yX12_measureRows cX12_measureRows 9 none, .methodLink RX12 402 yX12_natural, .instanceMethod yX12_natural, .selects RX12 yX12_natural yX12_natural, .code yX12_natural cX12_natural 5 (some .int), .methodLink RX12 669 yX12_nextHypothesis, .instanceMethod yX12_nextHypothesis, .selects RX12 yX12_nextHypothesis yX12_nextHypothesis, .code yX12_nextHypothesis cX12_nextHypothesis 4 none, .methodLink RX12 650 yX12_nextTerm, .instanceMethod yX12_nextTerm, .selects RX12 yX12_nextTerm yX12_nextTerm, .code yX12_nextTerm cX12_nextTerm 4 none, .methodLink RX12 659 yX12_notOf, .instanceMethod yX12_notOf, .selects RX12 yX12_notOf yX12_notOf, .code yX12_notOf cX12_notOf 2 (some .int), .methodLink RX12 471 yX12_nth, .instanceMethod yX12_nth, .selects RX12 yX12_nth yX12_nth, .code yX12_nth cX12_nth 5 (some .int), .methodLink RX12 589 yX12_numberOf, .instanceMethod yX12_numberOf, .selects RX12 yX12_numberOf yX12_numberOf, .code yX12_numberOf cX12_numberOf 2 (some .long), .methodLink RX12 501 yX12_openCall, .instanceMethod yX12_openCall, .selects RX12 yX12_openCall yX12_openCall, .code yX12_openCall cX12_openCall 2 none, .methodLink RX12 353 yX12_pair, .instanceMethod yX12_pair, .selects RX12 yX12_pair yX12_pair, .code yX12_pair cX12_pair 5 (some .int), .methodLink RX12 935 yX12_partsFrom, .static yX12_partsFrom, .code yX12_partsFrom cX12_partsFrom 1 (some .int), .methodLink RX12 962 yX12_partsTo, .instanceMethod yX12_partsTo, .selects RX12 yX12_partsTo yX12_partsTo, .code yX12_partsTo cX12_partsTo 2 (some .int), .methodLink RX12 644 yX12_passOn, .instanceMethod yX12_passOn, .selects RX12 yX12_passOn yX12_passOn, .code yX12_passOn cX12_passOn 3 none, .methodLink RX12 821 yX12_pathsOf, .instanceMethod yX12_pathsOf, .selects RX12 yX12_pathsOf yX12_pathsOf, .code yX12_pathsOf cX12_pathsOf 7 none, .methodLink RX12 690 yX12_plain, .instanceMethod yX12_plain, .selects RX12 yX12_plain yX12_plain, .code yX12_plain cX12_plain 7 (some .int), .methodLink RX12 944 yX12_pour, .instanceMethod yX12_pour, .selects RX12 yX12_pour yX12_pour, .code yX12_pour cX12_pour 4 none, .methodLink RX12 833 yX12_prove, .instanceMethod yX12_prove, .selects RX12 yX12_prove yX12_prove, .code yX12_prove cX12_prove 2 (some .boolean), .methodLink RX12 905 yX12_proveBy, .instanceMethod yX12_proveBy, .selects RX12 yX12_proveBy yX12_proveBy, .code yX12_proveBy cX12_proveBy 5 (some .boolean), .methodLink RX12 662 yX12_push, .instanceMethod yX12_push, .selects RX12 yX12_push yX12_push, .code yX12_push cX12_push 2 none, .methodLink RX12 739 yX12_put, .instanceMethod yX12_put, .selects RX12 yX12_put yX12_put, .code yX12_put cX12_put 3 none, .methodLink RX12 432 yX12_readWord, .instanceMethod yX12_readWord, .selects RX12 yX12_readWord yX12_readWord, .code yX12_readWord cX12_readWord 6 none, .methodLink RX12 998 yX12_reads, .instanceMethod yX12_reads, .selects RX12 yX12_reads yX12_reads, .code yX12_reads cX12_reads 2 (some .boolean), .methodLink RX12 736 yX12_removeAt, .instanceMethod yX12_removeAt, .selects RX12 yX12_removeAt yX12_removeAt, .code yX12_removeAt cX12_removeAt 4 none, .methodLink RX12 956 yX12_replaced, .instanceMethod yX12_replaced, .selects RX12 yX12_replaced yX12_replaced, .code yX12_replaced cX12_replaced 5 (some .boolean), .methodLink RX12 754 yX12_rewritten, .instanceMethod yX12_rewritten, .selects RX12 yX12_rewritten yX12_rewritten, .code yX12_rewritten cX12_rewritten 4 (some .int), .methodLink RX12 776 yX12_round, .instanceMethod yX12_round, .selects RX12 yX12_round yX12_round, .code yX12_round cX12_round 7 none, .methodLink RX12 742 yX12_row, .instanceMethod yX12_row, .selects RX12 yX12_row yX12_row, .code yX12_row cX12_row 3 (some .int), .methodLink RX12 782 yX12_rowList, .instanceMethod yX12_rowList, .selects RX12 yX12_rowList yX12_rowList, .code yX12_rowList cX12_rowList 4 (some .int), .methodLink RX12 911 yX12_ruleOf, .instanceMethod yX12_ruleOf, .selects RX12 yX12_ruleOf yX12_ruleOf, .code yX12_ruleOf cX12_ruleOf 10 none, .methodLink RX12 977 yX12_simplify, .instanceMethod yX12_simplify, .selects RX12 yX12_simplify yX12_simplify, .code yX12_simplify cX12_simplify 4 (some .int), .methodLink RX12 489 yX12_sizeOf, .instanceMethod yX12_sizeOf, .selects RX12 yX12_sizeOf yX12_sizeOf, .code yX12_sizeOf cX12_sizeOf 2 (some .int), .methodLink RX12 429 yX12_skip, .instanceMethod yX12_skip, .selects RX12 yX12_skip yX12_skip, .code yX12_skip cX12_skip 2 none, .methodLink RX12 324 yX12_slot, .static yX12_slot, .code yX12_slot cX12_slot 2 (some .int), .methodLink RX12 349 yX12_slotOf, .instanceMethod yX12_slotOf, .selects RX12 yX12_slotOf yX12_slotOf, .code yX12_slotOf cX12_slotOf 2 (some .int), .methodLink RX12 312 yX12_spell, .instanceMethod yX12_spell, .selects RX12 yX12_spell yX12_spell, .code yX12_spell cX12_spell 2 none, .methodLink RX12 328 yX12_spelled, .instanceMethod yX12_spelled, .selects RX12 yX12_spelled yX12_spelled, .code yX12_spelled cX12_spelled 6 (some .int), .methodLink RX12 760 yX12_split, .instanceMethod yX12_split, .selects RX12 yX12_split yX12_split, .code yX12_split cX12_split 11 none, .methodLink RX12 745 yX12_splitRow, .instanceMethod yX12_splitRow, .selects RX12 yX12_splitRow yX12_splitRow, .code yX12_splitRow cX12_splitRow 6 (some .int), .methodLink RX12 757 yX12_splits, .instanceMethod yX12_splits, .selects RX12 yX12_splits yX12_splits, .code yX12_splits cX12_splits 2 (some .boolean), .methodLink RX12 724 yX12_startJob, .instanceMethod yX12_startJob, .selects RX12 yX12_startJob yX12_startJob, .code yX12_startJob cX12_startJob 4 none, .methodLink RX12 507 yX12_substituted, .instanceMethod yX12_substituted, .selects RX12 yX12_substituted yX12_substituted, .code yX12_substituted cX12_substituted 3 (some .int), .methodLink RX12 316 yX12_symbol, .instanceMethod yX12_symbol, .selects RX12 yX12_symbol yX12_symbol, .code yX12_symbol cX12_symbol 3 (some .int), .methodLink RX12 842 yX12_take, .instanceMethod yX12_take, .selects RX12 yX12_take yX12_take, .code yX12_take cX12_take 2 none, .methodLink RX12 709 yX12_takePairs, .instanceMethod yX12_takePairs, .selects RX12 yX12_takePairs yX12_takePairs, .code yX12_takePairs cX12_takePairs 3 none, .methodLink RX12 893 yX12_takeParameters, .instanceMethod yX12_takeParameters, .selects RX12 yX12_takeParameters yX12_takeParameters, .code yX12_takeParameters cX12_takeParameters 4 none, .methodLink RX12 721 yX12_takeResult, .instanceMethod yX12_takeResult, .selects RX12 yX12_takeResult yX12_takeResult, .code yX12_takeResult cX12_takeResult 3 none, .methodLink RX12 602 yX12_takeValue, .instanceMethod yX12_takeValue, .selects RX12 yX12_takeValue yX12_takeValue, .code yX12_takeValue cX12_takeValue 3 none, .methodLink RX12 459 yX12_tellAtom, .instanceMethod yX12_tellAtom, .selects RX12 yX12_tellAtom yX12_tellAtom, .code yX12_tellAtom cX12_tellAtom 4 none, .methodLink RX12 836 yX12_tellLeft, .instanceMethod yX12_tellLeft, .selects RX12 yX12_tellLeft yX12_tellLeft, .code yX12_tellLeft cX12_tellLeft 3 none, .methodLink RX12 447 yX12_tellLetter, .instanceMethod yX12_tellLetter, .selects RX12 yX12_tellLetter yX12_tellLetter, .code yX12_tellLetter cX12_tellLetter 2 none, .methodLink RX12 465 yX12_tellObject, .instanceMethod yX12_tellObject, .selects RX12 yX12_tellObject yX12_tellObject, .code yX12_tellObject cX12_tellObject 4 none, .methodLink RX12 785 yX12_tellOut, .instanceMethod yX12_tellOut, .selects RX12 yX12_tellOut yX12_tellOut, .code yX12_tellOut cX12_tellOut 2 none, .methodLink RX12 592 yX12_term, .instanceMethod yX12_term, .selects RX12 yX12_term yX12_term, .code yX12_term cX12_term 3 (some .int), .methodLink RX12 815 yX12_termOf, .instanceMethod yX12_termOf, .selects RX12 yX12_termOf yX12_termOf, .code yX12_termOf cX12_termOf 7 (some .int), .methodLink RX12 656 yX12_test, .instanceMethod yX12_test, .selects RX12 yX12_test yX12_test, .code yX12_test cX12_test 4 none, .methodLink RX12 875 yX12_theoremOf, .instanceMethod yX12_theoremOf, .selects RX12 yX12_theoremOf yX12_theoremOf, .code yX12_theoremOf cX12_theoremOf 3 (some .int), .methodLink RX12 770 yX12_together, .instanceMethod yX12_together, .selects RX12 yX12_together yX12_together, .code yX12_together cX12_together 4 (some .int), .methodLink RX12 917 yX12_told, .instanceMethod yX12_told, .selects RX12 yX12_told yX12_told, .code yX12_told cX12_told 2 (some .int), .methodLink RX12 585 yX12_truth, .static yX12_truth, .code yX12_truth cX12_truth 1 (some .int), .methodLink RX12 672 yX12_tryRules, .instanceMethod yX12_tryRules, .selects RX12 yX12_tryRules yX12_tryRules, .code yX12_tryRules cX12_tryRules 5 none, .methodLink RX12 989 yX12_turn, .instanceMethod yX12_turn, .selects RX12 yX12_turn yX12_turn, .code yX12_turn cX12_turn 4 (some .int), .methodLink RX12 890 yX12_turningOff, .instanceMethod yX12_turningOff, .selects RX12 yX12_turningOff yX12_turningOff, .code yX12_turningOff cX12_turningOff 5 none, .methodLink RX12 992 yX12_undo, .instanceMethod yX12_undo, .selects RX12 yX12_undo yX12_undo, .code yX12_undo cX12_undo 2 (some .int), .methodLink RX12 896 yX12_useRows, .instanceMethod yX12_useRows, .selects RX12 yX12_useRows yX12_useRows, .code yX12_useRows cX12_useRows 3 none, .methodLink RX12 887 yX12_using, .instanceMethod yX12_using, .selects RX12 yX12_using yX12_using, .code yX12_using cX12_using 5 none, .methodLink RX12 321 yX12_value, .instanceMethod yX12_value, .selects RX12 yX12_value yX12_value, .code yX12_value cX12_value 2 (some .long), .methodLink RX12 567 yX12_valueOf, .instanceMethod yX12_valueOf, .selects RX12 yX12_valueOf yX12_valueOf, .code yX12_valueOf cX12_valueOf 2 (some .int), .methodLink RX12 797 yX12_variablesOf, .instanceMethod yX12_variablesOf, .selects RX12 yX12_variablesOf yX12_variablesOf, .code yX12_variablesOf cX12_variablesOf 5 none, .methodLink RX12 555 yX12_walkOn, .instanceMethod yX12_walkOn, .selects RX12 yX12_walkOn yX12_walkOn, .code yX12_walkOn cX12_walkOn 4 (some .int), .methodLink RX12 552 yX12_walkTo, .instanceMethod yX12_walkTo, .selects RX12 yX12_walkTo yX12_walkTo, .code yX12_walkTo cX12_walkTo 2 none, .methodLink RX12 866 yX12_wrong, .instanceMethod yX12_wrong, .selects RX12 yX12_wrong yX12_wrong, .code yX12_wrong cX12_wrong 2 none]
def wsM : List Cond := wsF ++ (wsK ++ (wsC ++ wsX120))
theorem wsM_good : ∀ w ∈ wsM, goodWord w = true := List.all_eq_true.mp (by decide +kernel)
theorem wsM_cls : ∀ w ∈ u_ws RX12 TX12 149, w ∈ wsM := fun w h => List.mem_append_right _ (List.mem_append_right _ (List.mem_append_right _ h))
theorem wsF_in {w : Cond} (h : w ∈ wsF) : w ∈ wsM := List.mem_append_left _ h
theorem wsK_in {w : Cond} (h : w ∈ wsK) : w ∈ wsM := List.mem_append_right _ (List.mem_append_left _ h)
theorem wsC_in {w : Cond} (h : w ∈ wsC) : w ∈ wsM := List.mem_append_right _ (List.mem_append_right _ (List.mem_append_left _ h))
theorem L_0 : Cond.fieldLink RX12 8 "ProofHouseModel" (TX12 0).2.1 (TX12 0).2.2.1 ∈ wsM := wsF_in (List.mem_of_getElem? (i := 0) rfl)
theorem L_1 : Cond.fieldLink RX12 14 "ProofHouseModel" (TX12 1).2.1 (TX12 1).2.2.1 ∈ wsM := wsF_in (List.mem_of_getElem? (i := 1) rfl)
theorem L_2 : Cond.fieldLink RX12 17 "ProofHouseModel" (TX12 2).2.1 (TX12 2).2.2.1 ∈ wsM := wsF_in (List.mem_of_getElem? (i := 2) rfl)
theorem L_3 : Cond.fieldLink RX12 20 "ProofHouseModel" (TX12 3).2.1 (TX12 3).2.2.1 ∈ wsM := wsF_in (List.mem_of_getElem? (i := 3) rfl)
theorem L_4 : Cond.fieldLink RX12 23 "ProofHouseModel" (TX12 4).2.1 (TX12 4).2.2.1 ∈ wsM := wsF_in (List.mem_of_getElem? (i := 4) rfl)
theorem L_5 : Cond.fieldLink RX12 27 "ProofHouseModel" (TX12 5).2.1 (TX12 5).2.2.1 ∈ wsM := wsF_in (List.mem_of_getElem? (i := 5) rfl)
theorem L_6 : Cond.fieldLink RX12 339 "ProofHouseModel" (TX12 6).2.1 (TX12 6).2.2.1 ∈ wsM := wsF_in (List.mem_of_getElem? (i := 6) rfl)
theorem L_7 : Cond.fieldLink RX12 31 "ProofHouseModel" (TX12 7).2.1 (TX12 7).2.2.1 ∈ wsM := wsF_in (List.mem_of_getElem? (i := 7) rfl)
theorem L_8 : Cond.fieldLink RX12 332 "ProofHouseModel" (TX12 8).2.1 (TX12 8).2.2.1 ∈ wsM := wsF_in (List.mem_of_getElem? (i := 8) rfl)
theorem L_9 : Cond.fieldLink RX12 35 "ProofHouseModel" (TX12 9).2.1 (TX12 9).2.2.1 ∈ wsM := wsF_in (List.mem_of_getElem? (i := 9) rfl)
theorem L_10 : Cond.fieldLink RX12 38 "ProofHouseModel" (TX12 10).2.1 (TX12 10).2.2.1 ∈ wsM := wsF_in (List.mem_of_getElem? (i := 10) rfl)
theorem L_11 : Cond.fieldLink RX12 346 "ProofHouseModel" (TX12 11).2.1 (TX12 11).2.2.1 ∈ wsM := wsF_in (List.mem_of_getElem? (i := 11) rfl)
theorem L_12 : Cond.fieldLink RX12 41 "ProofHouseModel" (TX12 12).2.1 (TX12 12).2.2.1 ∈ wsM := wsF_in (List.mem_of_getElem? (i := 12) rfl)
theorem L_13 : Cond.fieldLink RX12 44 "ProofHouseModel" (TX12 13).2.1 (TX12 13).2.2.1 ∈ wsM := wsF_in (List.mem_of_getElem? (i := 13) rfl)
theorem L_14 : Cond.fieldLink RX12 374 "ProofHouseModel" (TX12 14).2.1 (TX12 14).2.2.1 ∈ wsM := wsF_in (List.mem_of_getElem? (i := 14) rfl)
theorem L_15 : Cond.fieldLink RX12 47 "ProofHouseModel" (TX12 15).2.1 (TX12 15).2.2.1 ∈ wsM := wsF_in (List.mem_of_getElem? (i := 15) rfl)
theorem L_16 : Cond.fieldLink RX12 441 "ProofHouseModel" (TX12 16).2.1 (TX12 16).2.2.1 ∈ wsM := wsF_in (List.mem_of_getElem? (i := 16) rfl)
theorem L_17 : Cond.fieldLink RX12 50 "ProofHouseModel" (TX12 17).2.1 (TX12 17).2.2.1 ∈ wsM := wsF_in (List.mem_of_getElem? (i := 17) rfl)
theorem L_18 : Cond.fieldLink RX12 309 "ProofHouseModel" (TX12 18).2.1 (TX12 18).2.2.1 ∈ wsM := wsF_in (List.mem_of_getElem? (i := 18) rfl)
theorem L_19 : Cond.fieldLink RX12 53 "ProofHouseModel" (TX12 19).2.1 (TX12 19).2.2.1 ∈ wsM := wsF_in (List.mem_of_getElem? (i := 19) rfl)
theorem L_20 : Cond.fieldLink RX12 450 "ProofHouseModel" (TX12 20).2.1 (TX12 20).2.2.1 ∈ wsM := wsF_in (List.mem_of_getElem? (i := 20) rfl)
theorem L_21 : Cond.fieldLink RX12 56 "ProofHouseModel" (TX12 21).2.1 (TX12 21).2.2.1 ∈ wsM := wsF_in (List.mem_of_getElem? (i := 21) rfl)
theorem L_22 : Cond.fieldLink RX12 438 "ProofHouseModel" (TX12 22).2.1 (TX12 22).2.2.1 ∈ wsM := wsF_in (List.mem_of_getElem? (i := 22) rfl)
theorem L_23 : Cond.fieldLink RX12 371 "ProofHouseModel" (TX12 23).2.1 (TX12 23).2.2.1 ∈ wsM := wsF_in (List.mem_of_getElem? (i := 23) rfl)
theorem L_24 : Cond.fieldLink RX12 377 "ProofHouseModel" (TX12 24).2.1 (TX12 24).2.2.1 ∈ wsM := wsF_in (List.mem_of_getElem? (i := 24) rfl)
theorem L_25 : Cond.fieldLink RX12 59 "ProofHouseModel" (TX12 25).2.1 (TX12 25).2.2.1 ∈ wsM := wsF_in (List.mem_of_getElem? (i := 25) rfl)
theorem L_26 : Cond.fieldLink RX12 63 "ProofHouseModel" (TX12 26).2.1 (TX12 26).2.2.1 ∈ wsM := wsF_in (List.mem_of_getElem? (i := 26) rfl)
theorem L_27 : Cond.fieldLink RX12 66 "ProofHouseModel" (TX12 27).2.1 (TX12 27).2.2.1 ∈ wsM := wsF_in (List.mem_of_getElem? (i := 27) rfl)
theorem L_28 : Cond.fieldLink RX12 69 "ProofHouseModel" (TX12 28).2.1 (TX12 28).2.2.1 ∈ wsM := wsF_in (List.mem_of_getElem? (i := 28) rfl)
theorem L_29 : Cond.fieldLink RX12 72 "ProofHouseModel" (TX12 29).2.1 (TX12 29).2.2.1 ∈ wsM := wsF_in (List.mem_of_getElem? (i := 29) rfl)
theorem L_30 : Cond.fieldLink RX12 380 "ProofHouseModel" (TX12 30).2.1 (TX12 30).2.2.1 ∈ wsM := wsF_in (List.mem_of_getElem? (i := 30) rfl)
theorem L_31 : Cond.fieldLink RX12 75 "ProofHouseModel" (TX12 31).2.1 (TX12 31).2.2.1 ∈ wsM := wsF_in (List.mem_of_getElem? (i := 31) rfl)
theorem L_32 : Cond.fieldLink RX12 387 "ProofHouseModel" (TX12 32).2.1 (TX12 32).2.2.1 ∈ wsM := wsF_in (List.mem_of_getElem? (i := 32) rfl)
theorem L_33 : Cond.fieldLink RX12 390 "ProofHouseModel" (TX12 33).2.1 (TX12 33).2.2.1 ∈ wsM := wsF_in (List.mem_of_getElem? (i := 33) rfl)
theorem L_34 : Cond.fieldLink RX12 383 "ProofHouseModel" (TX12 34).2.1 (TX12 34).2.2.1 ∈ wsM := wsF_in (List.mem_of_getElem? (i := 34) rfl)
theorem L_35 : Cond.fieldLink RX12 474 "ProofHouseModel" (TX12 35).2.1 (TX12 35).2.2.1 ∈ wsM := wsF_in (List.mem_of_getElem? (i := 35) rfl)
theorem L_36 : Cond.fieldLink RX12 78 "ProofHouseModel" (TX12 36).2.1 (TX12 36).2.2.1 ∈ wsM := wsF_in (List.mem_of_getElem? (i := 36) rfl)
theorem L_37 : Cond.fieldLink RX12 81 "ProofHouseModel" (TX12 37).2.1 (TX12 37).2.2.1 ∈ wsM := wsF_in (List.mem_of_getElem? (i := 37) rfl)
theorem L_38 : Cond.fieldLink RX12 84 "ProofHouseModel" (TX12 38).2.1 (TX12 38).2.2.1 ∈ wsM := wsF_in (List.mem_of_getElem? (i := 38) rfl)
theorem L_39 : Cond.fieldLink RX12 87 "ProofHouseModel" (TX12 39).2.1 (TX12 39).2.2.1 ∈ wsM := wsF_in (List.mem_of_getElem? (i := 39) rfl)
theorem L_40 : Cond.fieldLink RX12 90 "ProofHouseModel" (TX12 40).2.1 (TX12 40).2.2.1 ∈ wsM := wsF_in (List.mem_of_getElem? (i := 40) rfl)
theorem L_41 : Cond.fieldLink RX12 93 "ProofHouseModel" (TX12 41).2.1 (TX12 41).2.2.1 ∈ wsM := wsF_in (List.mem_of_getElem? (i := 41) rfl)
theorem L_42 : Cond.fieldLink RX12 699 "ProofHouseModel" (TX12 42).2.1 (TX12 42).2.2.1 ∈ wsM := wsF_in (List.mem_of_getElem? (i := 42) rfl)
theorem L_43 : Cond.fieldLink RX12 97 "ProofHouseModel" (TX12 43).2.1 (TX12 43).2.2.1 ∈ wsM := wsF_in (List.mem_of_getElem? (i := 43) rfl)
theorem L_44 : Cond.fieldLink RX12 100 "ProofHouseModel" (TX12 44).2.1 (TX12 44).2.2.1 ∈ wsM := wsF_in (List.mem_of_getElem? (i := 44) rfl)
theorem L_45 : Cond.fieldLink RX12 103 "ProofHouseModel" (TX12 45).2.1 (TX12 45).2.2.1 ∈ wsM := wsF_in (List.mem_of_getElem? (i := 45) rfl)
theorem L_46 : Cond.fieldLink RX12 106 "ProofHouseModel" (TX12 46).2.1 (TX12 46).2.2.1 ∈ wsM := wsF_in (List.mem_of_getElem? (i := 46) rfl)
theorem L_47 : Cond.fieldLink RX12 109 "ProofHouseModel" (TX12 47).2.1 (TX12 47).2.2.1 ∈ wsM := wsF_in (List.mem_of_getElem? (i := 47) rfl)
theorem L_48 : Cond.fieldLink RX12 112 "ProofHouseModel" (TX12 48).2.1 (TX12 48).2.2.1 ∈ wsM := wsF_in (List.mem_of_getElem? (i := 48) rfl)
theorem L_49 : Cond.fieldLink RX12 115 "ProofHouseModel" (TX12 49).2.1 (TX12 49).2.2.1 ∈ wsM := wsF_in (List.mem_of_getElem? (i := 49) rfl)
theorem L_50 : Cond.fieldLink RX12 118 "ProofHouseModel" (TX12 50).2.1 (TX12 50).2.2.1 ∈ wsM := wsF_in (List.mem_of_getElem? (i := 50) rfl)
theorem L_51 : Cond.fieldLink RX12 121 "ProofHouseModel" (TX12 51).2.1 (TX12 51).2.2.1 ∈ wsM := wsF_in (List.mem_of_getElem? (i := 51) rfl)
theorem L_52 : Cond.fieldLink RX12 124 "ProofHouseModel" (TX12 52).2.1 (TX12 52).2.2.1 ∈ wsM := wsF_in (List.mem_of_getElem? (i := 52) rfl)
theorem L_53 : Cond.fieldLink RX12 127 "ProofHouseModel" (TX12 53).2.1 (TX12 53).2.2.1 ∈ wsM := wsF_in (List.mem_of_getElem? (i := 53) rfl)
theorem L_54 : Cond.fieldLink RX12 845 "ProofHouseModel" (TX12 54).2.1 (TX12 54).2.2.1 ∈ wsM := wsF_in (List.mem_of_getElem? (i := 54) rfl)
theorem L_55 : Cond.fieldLink RX12 130 "ProofHouseModel" (TX12 55).2.1 (TX12 55).2.2.1 ∈ wsM := wsF_in (List.mem_of_getElem? (i := 55) rfl)
theorem L_56 : Cond.fieldLink RX12 133 "ProofHouseModel" (TX12 56).2.1 (TX12 56).2.2.1 ∈ wsM := wsF_in (List.mem_of_getElem? (i := 56) rfl)
theorem L_57 : Cond.fieldLink RX12 136 "ProofHouseModel" (TX12 57).2.1 (TX12 57).2.2.1 ∈ wsM := wsF_in (List.mem_of_getElem? (i := 57) rfl)
theorem L_58 : Cond.fieldLink RX12 477 "ProofHouseModel" (TX12 58).2.1 (TX12 58).2.2.1 ∈ wsM := wsF_in (List.mem_of_getElem? (i := 58) rfl)
theorem L_59 : Cond.fieldLink RX12 139 "ProofHouseModel" (TX12 59).2.1 (TX12 59).2.2.1 ∈ wsM := wsF_in (List.mem_of_getElem? (i := 59) rfl)
theorem L_60 : Cond.fieldLink RX12 561 "ProofHouseModel" (TX12 60).2.1 (TX12 60).2.2.1 ∈ wsM := wsF_in (List.mem_of_getElem? (i := 60) rfl)
theorem L_61 : Cond.fieldLink RX12 480 "ProofHouseModel" (TX12 61).2.1 (TX12 61).2.2.1 ∈ wsM := wsF_in (List.mem_of_getElem? (i := 61) rfl)
theorem L_62 : Cond.fieldLink RX12 779 "ProofHouseModel" (TX12 62).2.1 (TX12 62).2.2.1 ∈ wsM := wsF_in (List.mem_of_getElem? (i := 62) rfl)
theorem L_63 : Cond.fieldLink RX12 751 "ProofHouseModel" (TX12 63).2.1 (TX12 63).2.2.1 ∈ wsM := wsF_in (List.mem_of_getElem? (i := 63) rfl)
theorem L_64 : Cond.fieldLink RX12 435 "ProofHouseModel" (TX12 64).2.1 (TX12 64).2.2.1 ∈ wsM := wsF_in (List.mem_of_getElem? (i := 64) rfl)
theorem L_65 : Cond.fieldLink RX12 142 "ProofHouseModel" (TX12 65).2.1 (TX12 65).2.2.1 ∈ wsM := wsF_in (List.mem_of_getElem? (i := 65) rfl)
theorem L_66 : Cond.fieldLink RX12 145 "ProofHouseModel" (TX12 66).2.1 (TX12 66).2.2.1 ∈ wsM := wsF_in (List.mem_of_getElem? (i := 66) rfl)
theorem L_67 : Cond.fieldLink RX12 148 "ProofHouseModel" (TX12 67).2.1 (TX12 67).2.2.1 ∈ wsM := wsF_in (List.mem_of_getElem? (i := 67) rfl)
theorem L_68 : Cond.fieldLink RX12 151 "ProofHouseModel" (TX12 68).2.1 (TX12 68).2.2.1 ∈ wsM := wsF_in (List.mem_of_getElem? (i := 68) rfl)
theorem L_69 : Cond.fieldLink RX12 492 "ProofHouseModel" (TX12 69).2.1 (TX12 69).2.2.1 ∈ wsM := wsF_in (List.mem_of_getElem? (i := 69) rfl)
theorem L_70 : Cond.fieldLink RX12 154 "ProofHouseModel" (TX12 70).2.1 (TX12 70).2.2.1 ∈ wsM := wsF_in (List.mem_of_getElem? (i := 70) rfl)
theorem L_71 : Cond.fieldLink RX12 486 "ProofHouseModel" (TX12 71).2.1 (TX12 71).2.2.1 ∈ wsM := wsF_in (List.mem_of_getElem? (i := 71) rfl)
theorem L_72 : Cond.fieldLink RX12 157 "ProofHouseModel" (TX12 72).2.1 (TX12 72).2.2.1 ∈ wsM := wsF_in (List.mem_of_getElem? (i := 72) rfl)
theorem L_73 : Cond.fieldLink RX12 160 "ProofHouseModel" (TX12 73).2.1 (TX12 73).2.2.1 ∈ wsM := wsF_in (List.mem_of_getElem? (i := 73) rfl)
theorem L_74 : Cond.fieldLink RX12 495 "ProofHouseModel" (TX12 74).2.1 (TX12 74).2.2.1 ∈ wsM := wsF_in (List.mem_of_getElem? (i := 74) rfl)
theorem L_75 : Cond.fieldLink RX12 163 "ProofHouseModel" (TX12 75).2.1 (TX12 75).2.2.1 ∈ wsM := wsF_in (List.mem_of_getElem? (i := 75) rfl)
theorem L_76 : Cond.fieldLink RX12 549 "ProofHouseModel" (TX12 76).2.1 (TX12 76).2.2.1 ∈ wsM := wsF_in (List.mem_of_getElem? (i := 76) rfl)
theorem L_77 : Cond.fieldLink RX12 166 "ProofHouseModel" (TX12 77).2.1 (TX12 77).2.2.1 ∈ wsM := wsF_in (List.mem_of_getElem? (i := 77) rfl)
theorem L_78 : Cond.fieldLink RX12 558 "ProofHouseModel" (TX12 78).2.1 (TX12 78).2.2.1 ∈ wsM := wsF_in (List.mem_of_getElem? (i := 78) rfl)
theorem L_79 : Cond.fieldLink RX12 169 "ProofHouseModel" (TX12 79).2.1 (TX12 79).2.2.1 ∈ wsM := wsF_in (List.mem_of_getElem? (i := 79) rfl)
theorem L_80 : Cond.fieldLink RX12 172 "ProofHouseModel" (TX12 80).2.1 (TX12 80).2.2.1 ∈ wsM := wsF_in (List.mem_of_getElem? (i := 80) rfl)
theorem L_81 : Cond.fieldLink RX12 175 "ProofHouseModel" (TX12 81).2.1 (TX12 81).2.2.1 ∈ wsM := wsF_in (List.mem_of_getElem? (i := 81) rfl)
theorem L_82 : Cond.fieldLink RX12 178 "ProofHouseModel" (TX12 82).2.1 (TX12 82).2.2.1 ∈ wsM := wsF_in (List.mem_of_getElem? (i := 82) rfl)
theorem L_83 : Cond.fieldLink RX12 181 "ProofHouseModel" (TX12 83).2.1 (TX12 83).2.2.1 ∈ wsM := wsF_in (List.mem_of_getElem? (i := 83) rfl)
theorem L_84 : Cond.fieldLink RX12 184 "ProofHouseModel" (TX12 84).2.1 (TX12 84).2.2.1 ∈ wsM := wsF_in (List.mem_of_getElem? (i := 84) rfl)
theorem L_85 : Cond.fieldLink RX12 573 "ProofHouseModel" (TX12 85).2.1 (TX12 85).2.2.1 ∈ wsM := wsF_in (List.mem_of_getElem? (i := 85) rfl)
theorem L_86 : Cond.fieldLink RX12 187 "ProofHouseModel" (TX12 86).2.1 (TX12 86).2.2.1 ∈ wsM := wsF_in (List.mem_of_getElem? (i := 86) rfl)
theorem L_87 : Cond.fieldLink RX12 582 "ProofHouseModel" (TX12 87).2.1 (TX12 87).2.2.1 ∈ wsM := wsF_in (List.mem_of_getElem? (i := 87) rfl)
theorem L_88 : Cond.fieldLink RX12 579 "ProofHouseModel" (TX12 88).2.1 (TX12 88).2.2.1 ∈ wsM := wsF_in (List.mem_of_getElem? (i := 88) rfl)
theorem L_89 : Cond.fieldLink RX12 576 "ProofHouseModel" (TX12 89).2.1 (TX12 89).2.2.1 ∈ wsM := wsF_in (List.mem_of_getElem? (i := 89) rfl)
theorem L_90 : Cond.fieldLink RX12 564 "ProofHouseModel" (TX12 90).2.1 (TX12 90).2.2.1 ∈ wsM := wsF_in (List.mem_of_getElem? (i := 90) rfl)
theorem L_91 : Cond.fieldLink RX12 570 "ProofHouseModel" (TX12 91).2.1 (TX12 91).2.2.1 ∈ wsM := wsF_in (List.mem_of_getElem? (i := 91) rfl)
theorem L_92 : Cond.fieldLink RX12 190 "ProofHouseModel" (TX12 92).2.1 (TX12 92).2.2.1 ∈ wsM := wsF_in (List.mem_of_getElem? (i := 92) rfl)
theorem L_93 : Cond.fieldLink RX12 193 "ProofHouseModel" (TX12 93).2.1 (TX12 93).2.2.1 ∈ wsM := wsF_in (List.mem_of_getElem? (i := 93) rfl)
theorem L_94 : Cond.fieldLink RX12 196 "ProofHouseModel" (TX12 94).2.1 (TX12 94).2.2.1 ∈ wsM := wsF_in (List.mem_of_getElem? (i := 94) rfl)
theorem L_95 : Cond.fieldLink RX12 199 "ProofHouseModel" (TX12 95).2.1 (TX12 95).2.2.1 ∈ wsM := wsF_in (List.mem_of_getElem? (i := 95) rfl)
theorem L_96 : Cond.fieldLink RX12 202 "ProofHouseModel" (TX12 96).2.1 (TX12 96).2.2.1 ∈ wsM := wsF_in (List.mem_of_getElem? (i := 96) rfl)
theorem L_97 : Cond.fieldLink RX12 205 "ProofHouseModel" (TX12 97).2.1 (TX12 97).2.2.1 ∈ wsM := wsF_in (List.mem_of_getElem? (i := 97) rfl)
theorem L_98 : Cond.fieldLink RX12 208 "ProofHouseModel" (TX12 98).2.1 (TX12 98).2.2.1 ∈ wsM := wsF_in (List.mem_of_getElem? (i := 98) rfl)
theorem L_99 : Cond.fieldLink RX12 211 "ProofHouseModel" (TX12 99).2.1 (TX12 99).2.2.1 ∈ wsM := wsF_in (List.mem_of_getElem? (i := 99) rfl)
theorem L_100 : Cond.fieldLink RX12 214 "ProofHouseModel" (TX12 100).2.1 (TX12 100).2.2.1 ∈ wsM := wsF_in (List.mem_of_getElem? (i := 100) rfl)
theorem L_101 : Cond.fieldLink RX12 217 "ProofHouseModel" (TX12 101).2.1 (TX12 101).2.2.1 ∈ wsM := wsF_in (List.mem_of_getElem? (i := 101) rfl)
theorem L_102 : Cond.fieldLink RX12 612 "ProofHouseModel" (TX12 102).2.1 (TX12 102).2.2.1 ∈ wsM := wsF_in (List.mem_of_getElem? (i := 102) rfl)
theorem L_103 : Cond.fieldLink RX12 220 "ProofHouseModel" (TX12 103).2.1 (TX12 103).2.2.1 ∈ wsM := wsF_in (List.mem_of_getElem? (i := 103) rfl)
theorem L_104 : Cond.fieldLink RX12 647 "ProofHouseModel" (TX12 104).2.1 (TX12 104).2.2.1 ∈ wsM := wsF_in (List.mem_of_getElem? (i := 104) rfl)
theorem L_105 : Cond.fieldLink RX12 223 "ProofHouseModel" (TX12 105).2.1 (TX12 105).2.2.1 ∈ wsM := wsF_in (List.mem_of_getElem? (i := 105) rfl)
theorem L_106 : Cond.fieldLink RX12 226 "ProofHouseModel" (TX12 106).2.1 (TX12 106).2.2.1 ∈ wsM := wsF_in (List.mem_of_getElem? (i := 106) rfl)
theorem L_107 : Cond.fieldLink RX12 229 "ProofHouseModel" (TX12 107).2.1 (TX12 107).2.2.1 ∈ wsM := wsF_in (List.mem_of_getElem? (i := 107) rfl)
theorem L_108 : Cond.fieldLink RX12 232 "ProofHouseModel" (TX12 108).2.1 (TX12 108).2.2.1 ∈ wsM := wsF_in (List.mem_of_getElem? (i := 108) rfl)
theorem L_109 : Cond.fieldLink RX12 625 "ProofHouseModel" (TX12 109).2.1 (TX12 109).2.2.1 ∈ wsM := wsF_in (List.mem_of_getElem? (i := 109) rfl)
theorem L_110 : Cond.fieldLink RX12 618 "ProofHouseModel" (TX12 110).2.1 (TX12 110).2.2.1 ∈ wsM := wsF_in (List.mem_of_getElem? (i := 110) rfl)
theorem L_111 : Cond.fieldLink RX12 609 "ProofHouseModel" (TX12 111).2.1 (TX12 111).2.2.1 ∈ wsM := wsF_in (List.mem_of_getElem? (i := 111) rfl)
theorem L_112 : Cond.fieldLink RX12 235 "ProofHouseModel" (TX12 112).2.1 (TX12 112).2.2.1 ∈ wsM := wsF_in (List.mem_of_getElem? (i := 112) rfl)
theorem L_113 : Cond.fieldLink RX12 238 "ProofHouseModel" (TX12 113).2.1 (TX12 113).2.2.1 ∈ wsM := wsF_in (List.mem_of_getElem? (i := 113) rfl)
theorem L_114 : Cond.fieldLink RX12 242 "ProofHouseModel" (TX12 114).2.1 (TX12 114).2.2.1 ∈ wsM := wsF_in (List.mem_of_getElem? (i := 114) rfl)
theorem L_115 : Cond.fieldLink RX12 245 "ProofHouseModel" (TX12 115).2.1 (TX12 115).2.2.1 ∈ wsM := wsF_in (List.mem_of_getElem? (i := 115) rfl)
theorem L_116 : Cond.fieldLink RX12 248 "ProofHouseModel" (TX12 116).2.1 (TX12 116).2.2.1 ∈ wsM := wsF_in (List.mem_of_getElem? (i := 116) rfl)
theorem L_117 : Cond.fieldLink RX12 733 "ProofHouseModel" (TX12 117).2.1 (TX12 117).2.2.1 ∈ wsM := wsF_in (List.mem_of_getElem? (i := 117) rfl)
theorem L_118 : Cond.fieldLink RX12 251 "ProofHouseModel" (TX12 118).2.1 (TX12 118).2.2.1 ∈ wsM := wsF_in (List.mem_of_getElem? (i := 118) rfl)
theorem L_119 : Cond.fieldLink RX12 748 "ProofHouseModel" (TX12 119).2.1 (TX12 119).2.2.1 ∈ wsM := wsF_in (List.mem_of_getElem? (i := 119) rfl)
theorem L_120 : Cond.fieldLink RX12 254 "ProofHouseModel" (TX12 120).2.1 (TX12 120).2.2.1 ∈ wsM := wsF_in (List.mem_of_getElem? (i := 120) rfl)
theorem L_121 : Cond.fieldLink RX12 257 "ProofHouseModel" (TX12 121).2.1 (TX12 121).2.2.1 ∈ wsM := wsF_in (List.mem_of_getElem? (i := 121) rfl)
theorem L_122 : Cond.fieldLink RX12 727 "ProofHouseModel" (TX12 122).2.1 (TX12 122).2.2.1 ∈ wsM := wsF_in (List.mem_of_getElem? (i := 122) rfl)
theorem L_123 : Cond.fieldLink RX12 260 "ProofHouseModel" (TX12 123).2.1 (TX12 123).2.2.1 ∈ wsM := wsF_in (List.mem_of_getElem? (i := 123) rfl)
theorem L_124 : Cond.fieldLink RX12 263 "ProofHouseModel" (TX12 124).2.1 (TX12 124).2.2.1 ∈ wsM := wsF_in (List.mem_of_getElem? (i := 124) rfl)
theorem L_125 : Cond.fieldLink RX12 266 "ProofHouseModel" (TX12 125).2.1 (TX12 125).2.2.1 ∈ wsM := wsF_in (List.mem_of_getElem? (i := 125) rfl)
theorem L_126 : Cond.fieldLink RX12 788 "ProofHouseModel" (TX12 126).2.1 (TX12 126).2.2.1 ∈ wsM := wsF_in (List.mem_of_getElem? (i := 126) rfl)
theorem L_127 : Cond.fieldLink RX12 269 "ProofHouseModel" (TX12 127).2.1 (TX12 127).2.2.1 ∈ wsM := wsF_in (List.mem_of_getElem? (i := 127) rfl)
theorem L_128 : Cond.fieldLink RX12 272 "ProofHouseModel" (TX12 128).2.1 (TX12 128).2.2.1 ∈ wsM := wsF_in (List.mem_of_getElem? (i := 128) rfl)
theorem L_129 : Cond.fieldLink RX12 275 "ProofHouseModel" (TX12 129).2.1 (TX12 129).2.2.1 ∈ wsM := wsF_in (List.mem_of_getElem? (i := 129) rfl)
theorem L_130 : Cond.fieldLink RX12 278 "ProofHouseModel" (TX12 130).2.1 (TX12 130).2.2.1 ∈ wsM := wsF_in (List.mem_of_getElem? (i := 130) rfl)
theorem L_131 : Cond.fieldLink RX12 791 "ProofHouseModel" (TX12 131).2.1 (TX12 131).2.2.1 ∈ wsM := wsF_in (List.mem_of_getElem? (i := 131) rfl)
theorem L_132 : Cond.fieldLink RX12 848 "ProofHouseModel" (TX12 132).2.1 (TX12 132).2.2.1 ∈ wsM := wsF_in (List.mem_of_getElem? (i := 132) rfl)
theorem L_133 : Cond.fieldLink RX12 863 "ProofHouseModel" (TX12 133).2.1 (TX12 133).2.2.1 ∈ wsM := wsF_in (List.mem_of_getElem? (i := 133) rfl)
theorem L_134 : Cond.fieldLink RX12 869 "ProofHouseModel" (TX12 134).2.1 (TX12 134).2.2.1 ∈ wsM := wsF_in (List.mem_of_getElem? (i := 134) rfl)
theorem L_135 : Cond.fieldLink RX12 881 "ProofHouseModel" (TX12 135).2.1 (TX12 135).2.2.1 ∈ wsM := wsF_in (List.mem_of_getElem? (i := 135) rfl)
theorem L_136 : Cond.fieldLink RX12 860 "ProofHouseModel" (TX12 136).2.1 (TX12 136).2.2.1 ∈ wsM := wsF_in (List.mem_of_getElem? (i := 136) rfl)
theorem L_137 : Cond.fieldLink RX12 281 "ProofHouseModel" (TX12 137).2.1 (TX12 137).2.2.1 ∈ wsM := wsF_in (List.mem_of_getElem? (i := 137) rfl)
theorem L_138 : Cond.fieldLink RX12 284 "ProofHouseModel" (TX12 138).2.1 (TX12 138).2.2.1 ∈ wsM := wsF_in (List.mem_of_getElem? (i := 138) rfl)
theorem L_139 : Cond.fieldLink RX12 878 "ProofHouseModel" (TX12 139).2.1 (TX12 139).2.2.1 ∈ wsM := wsF_in (List.mem_of_getElem? (i := 139) rfl)
theorem L_140 : Cond.fieldLink RX12 287 "ProofHouseModel" (TX12 140).2.1 (TX12 140).2.2.1 ∈ wsM := wsF_in (List.mem_of_getElem? (i := 140) rfl)
theorem L_141 : Cond.fieldLink RX12 290 "ProofHouseModel" (TX12 141).2.1 (TX12 141).2.2.1 ∈ wsM := wsF_in (List.mem_of_getElem? (i := 141) rfl)
theorem L_142 : Cond.fieldLink RX12 293 "ProofHouseModel" (TX12 142).2.1 (TX12 142).2.2.1 ∈ wsM := wsF_in (List.mem_of_getElem? (i := 142) rfl)
theorem L_143 : Cond.fieldLink RX12 296 "ProofHouseModel" (TX12 143).2.1 (TX12 143).2.2.1 ∈ wsM := wsF_in (List.mem_of_getElem? (i := 143) rfl)
theorem L_144 : Cond.fieldLink RX12 926 "ProofHouseModel" (TX12 144).2.1 (TX12 144).2.2.1 ∈ wsM := wsF_in (List.mem_of_getElem? (i := 144) rfl)
theorem L_145 : Cond.fieldLink RX12 299 "ProofHouseModel" (TX12 145).2.1 (TX12 145).2.2.1 ∈ wsM := wsF_in (List.mem_of_getElem? (i := 145) rfl)
theorem L_146 : Cond.fieldLink RX12 302 "ProofHouseModel" (TX12 146).2.1 (TX12 146).2.2.1 ∈ wsM := wsF_in (List.mem_of_getElem? (i := 146) rfl)
theorem L_147 : Cond.fieldLink RX12 938 "ProofHouseModel" (TX12 147).2.1 (TX12 147).2.2.1 ∈ wsM := wsF_in (List.mem_of_getElem? (i := 147) rfl)
theorem L_148 : Cond.fieldLink RX12 932 "ProofHouseModel" (TX12 148).2.1 (TX12 148).2.2.1 ∈ wsM := wsF_in (List.mem_of_getElem? (i := 148) rfl)
theorem K_320 : Cond.constant RX12 320 (jI (40503)) ∈ wsM := wsK_in (List.mem_of_getElem? (i := 0) rfl)
theorem K_396 : Cond.constantLong RX12 396 (jL (4611686018427387903)) ∈ wsM := wsK_in (List.mem_of_getElem? (i := 1) rfl)
theorem K_398 : Cond.constantLong RX12 398 (jL (10)) ∈ wsM := wsK_in (List.mem_of_getElem? (i := 2) rfl)
theorem K_400 : Cond.constantLong RX12 400 (jL (48)) ∈ wsM := wsK_in (List.mem_of_getElem? (i := 3) rfl)
theorem gV {y : MethodName} {cy : ByteArray} {mx idx : Nat} {ret : Option FieldType} (i : Nat) (h1 : wsC[i]? = some (.methodLink RX12 idx y)) (h2 : wsC[i + 1]? = some (.instanceMethod y)) (h3 : wsC[i + 2]? = some (.selects RX12 y y)) (h4 : wsC[i + 3]? = some (.code y cy mx ret)) : GoodIn wsM (wsV RX12 idx RX12 y (.code y cy mx ret :: wsM)) := by
  refine fun w hw => ?_
  have hm : w ∈ wsM := by
    rcases List.mem_append.mp hw with h | h
    · simp only [List.mem_cons, List.not_mem_nil, or_false] at h
      rcases h with rfl | rfl | rfl | rfl
      · exact wsC_in (List.mem_of_getElem? h1)
      · exact wsC_in (List.mem_of_getElem? h2)
      · exact wsC_in (List.mem_of_getElem? h3)
      · exact wsC_in (List.mem_of_getElem? (i := 0) rfl)
    · rcases List.mem_cons.mp h with rfl | h
      · exact wsC_in (List.mem_of_getElem? h4)
      · exact h
  exact ⟨hm, good_of_word (wsM_good w hm)⟩
theorem gT {y : MethodName} {cy : ByteArray} {mx idx : Nat} {ret : Option FieldType} (i : Nat) (h1 : wsC[i]? = some (.methodLink RX12 idx y)) (h2 : wsC[i + 1]? = some (.static y)) (h4 : wsC[i + 2]? = some (.code y cy mx ret)) : GoodIn wsM (wsS RX12 idx y (.code y cy mx ret :: wsM)) := by
  refine fun w hw => ?_
  have hm : w ∈ wsM := by
    rcases List.mem_append.mp hw with h | h
    · simp only [List.mem_cons, List.not_mem_nil, or_false] at h
      rcases h with rfl | rfl | rfl
      · exact wsC_in (List.mem_of_getElem? h1)
      · exact wsC_in (List.mem_of_getElem? h2)
      · exact wsC_in (List.mem_of_getElem? (i := 0) rfl)
    · rcases List.mem_cons.mp h with rfl | h
      · exact wsC_in (List.mem_of_getElem? h4)
      · exact h
  exact ⟨hm, good_of_word (wsM_good w hm)⟩
theorem E_addTheorem : yX12_addTheorem.cls = RX12 ∧ yX12_addTheorem.cls ≠ "java/lang/invoke/MethodHandle" ∧ yX12_addTheorem.cls ≠ "java/lang/invoke/VarHandle" ∧ (parseMethodDescriptor yX12_addTheorem.desc).map (fun d => d.parameters.length) = some 3 := by decide +kernel
set_option maxRecDepth 100000 in
theorem G_addTheorem : GoodIn wsM (wsV RX12 908 RX12 yX12_addTheorem (.code yX12_addTheorem cX12_addTheorem 4 none :: wsM)) := gV 1 rfl rfl rfl rfl
theorem E_added : yX12_added.cls = RX12 ∧ yX12_added.cls ≠ "java/lang/invoke/MethodHandle" ∧ yX12_added.cls ≠ "java/lang/invoke/VarHandle" ∧ (parseMethodDescriptor yX12_added.desc).map (fun d => d.parameters.length) = some 3 := by decide +kernel
set_option maxRecDepth 100000 in
theorem G_added : GoodIn wsM (wsV RX12 335 RX12 yX12_added (.code yX12_added cX12_added 4 (some .int) :: wsM)) := gV 5 rfl rfl rfl rfl
theorem E_allRulesIn : yX12_allRulesIn.cls = RX12 ∧ yX12_allRulesIn.cls ≠ "java/lang/invoke/MethodHandle" ∧ yX12_allRulesIn.cls ≠ "java/lang/invoke/VarHandle" ∧ (parseMethodDescriptor yX12_allRulesIn.desc).map (fun d => d.parameters.length) = some 0 := by decide +kernel
set_option maxRecDepth 100000 in
theorem G_allRulesIn : GoodIn wsM (wsV RX12 995 RX12 yX12_allRulesIn (.code yX12_allRulesIn cX12_allRulesIn 2 none :: wsM)) := gV 9 rfl rfl rfl rfl
theorem E_anew : yX12_anew.cls = RX12 ∧ yX12_anew.cls ≠ "java/lang/invoke/MethodHandle" ∧ yX12_anew.cls ≠ "java/lang/invoke/VarHandle" ∧ (parseMethodDescriptor yX12_anew.desc).map (fun d => d.parameters.length) = some 3 := by decide +kernel
set_option maxRecDepth 100000 in
theorem G_anew : GoodIn wsM (wsV RX12 520 RX12 yX12_anew (.code yX12_anew cX12_anew 8 (some .int) :: wsM)) := gV 13 rfl rfl rfl rfl
theorem E_apply : yX12_apply.cls = RX12 ∧ yX12_apply.cls ≠ "java/lang/invoke/MethodHandle" ∧ yX12_apply.cls ≠ "java/lang/invoke/VarHandle" ∧ (parseMethodDescriptor yX12_apply.desc).map (fun d => d.parameters.length) = some 1 := by decide +kernel
set_option maxRecDepth 100000 in
theorem G_apply : GoodIn wsM (wsV RX12 653 RX12 yX12_apply (.code yX12_apply cX12_apply 9 none :: wsM)) := gV 17 rfl rfl rfl rfl
theorem E_areApart : yX12_areApart.cls = RX12 ∧ yX12_areApart.cls ≠ "java/lang/invoke/MethodHandle" ∧ yX12_areApart.cls ≠ "java/lang/invoke/VarHandle" ∧ (parseMethodDescriptor yX12_areApart.desc).map (fun d => d.parameters.length) = some 1 := by decide +kernel
set_option maxRecDepth 100000 in
theorem G_areApart : GoodIn wsM (wsV RX12 824 RX12 yX12_areApart (.code yX12_areApart cX12_areApart 6 (some .boolean) :: wsM)) := gV 21 rfl rfl rfl rfl
theorem E_areConstants : yX12_areConstants.cls = RX12 ∧ yX12_areConstants.cls ≠ "java/lang/invoke/MethodHandle" ∧ yX12_areConstants.cls ≠ "java/lang/invoke/VarHandle" ∧ (parseMethodDescriptor yX12_areConstants.desc).map (fun d => d.parameters.length) = some 1 := by decide +kernel
set_option maxRecDepth 100000 in
theorem G_areConstants : GoodIn wsM (wsV RX12 681 RX12 yX12_areConstants (.code yX12_areConstants cX12_areConstants 3 (some .boolean) :: wsM)) := gV 25 rfl rfl rfl rfl
theorem E_arePairs : yX12_arePairs.cls = RX12 ∧ yX12_arePairs.cls ≠ "java/lang/invoke/MethodHandle" ∧ yX12_arePairs.cls ≠ "java/lang/invoke/VarHandle" ∧ (parseMethodDescriptor yX12_arePairs.desc).map (fun d => d.parameters.length) = some 1 := by decide +kernel
set_option maxRecDepth 100000 in
theorem G_arePairs : GoodIn wsM (wsV RX12 872 RX12 yX12_arePairs (.code yX12_arePairs cX12_arePairs 5 (some .boolean) :: wsM)) := gV 29 rfl rfl rfl rfl
theorem E_areTerms : yX12_areTerms.cls = RX12 ∧ yX12_areTerms.cls ≠ "java/lang/invoke/MethodHandle" ∧ yX12_areTerms.cls ≠ "java/lang/invoke/VarHandle" ∧ (parseMethodDescriptor yX12_areTerms.desc).map (fun d => d.parameters.length) = some 3 := by decide +kernel
set_option maxRecDepth 100000 in
theorem G_areTerms : GoodIn wsM (wsV RX12 914 RX12 yX12_areTerms (.code yX12_areTerms cX12_areTerms 5 (some .boolean) :: wsM)) := gV 33 rfl rfl rfl rfl
theorem E_areVariables : yX12_areVariables.cls = RX12 ∧ yX12_areVariables.cls ≠ "java/lang/invoke/MethodHandle" ∧ yX12_areVariables.cls ≠ "java/lang/invoke/VarHandle" ∧ (parseMethodDescriptor yX12_areVariables.desc).map (fun d => d.parameters.length) = some 2 := by decide +kernel
set_option maxRecDepth 100000 in
theorem G_areVariables : GoodIn wsM (wsV RX12 812 RX12 yX12_areVariables (.code yX12_areVariables cX12_areVariables 6 (some .boolean) :: wsM)) := gV 37 rfl rfl rfl rfl
theorem E_atom : yX12_atom.cls = RX12 ∧ yX12_atom.cls ≠ "java/lang/invoke/MethodHandle" ∧ yX12_atom.cls ≠ "java/lang/invoke/VarHandle" ∧ (parseMethodDescriptor yX12_atom.desc).map (fun d => d.parameters.length) = some 2 := by decide +kernel
set_option maxRecDepth 100000 in
theorem G_atom : GoodIn wsM (wsV RX12 426 RX12 yX12_atom (.code yX12_atom cX12_atom 7 (some .int) :: wsM)) := gV 41 rfl rfl rfl rfl
theorem E_bad : yX12_bad.cls = RX12 ∧ yX12_bad.cls ≠ "java/lang/invoke/MethodHandle" ∧ yX12_bad.cls ≠ "java/lang/invoke/VarHandle" ∧ (parseMethodDescriptor yX12_bad.desc).map (fun d => d.parameters.length) = some 2 := by decide +kernel
set_option maxRecDepth 100000 in
theorem G_bad : GoodIn wsM (wsV RX12 410 RX12 yX12_bad (.code yX12_bad cX12_bad 3 none :: wsM)) := gV 45 rfl rfl rfl rfl
theorem E_basic : yX12_basic.cls = RX12 ∧ yX12_basic.cls ≠ "java/lang/invoke/MethodHandle" ∧ yX12_basic.cls ≠ "java/lang/invoke/VarHandle" ∧ (parseMethodDescriptor yX12_basic.desc).map (fun d => d.parameters.length) = some 2 := by decide +kernel
set_option maxRecDepth 100000 in
theorem G_basic : GoodIn wsM (wsV RX12 599 RX12 yX12_basic (.code yX12_basic cX12_basic 5 (some .int) :: wsM)) := gV 49 rfl rfl rfl rfl
theorem E_begin : yX12_begin.cls = RX12 ∧ yX12_begin.cls ≠ "java/lang/invoke/MethodHandle" ∧ yX12_begin.cls ≠ "java/lang/invoke/VarHandle" ∧ (parseMethodDescriptor yX12_begin.desc).map (fun d => d.parameters.length) = some 1 := by decide +kernel
set_option maxRecDepth 100000 in
theorem G_begin : GoodIn wsM (wsV RX12 414 RX12 yX12_begin (.code yX12_begin cX12_begin 2 none :: wsM)) := gV 53 rfl rfl rfl rfl
theorem E_beginEval : yX12_beginEval.cls = RX12 ∧ yX12_beginEval.cls ≠ "java/lang/invoke/MethodHandle" ∧ yX12_beginEval.cls ≠ "java/lang/invoke/VarHandle" ∧ (parseMethodDescriptor yX12_beginEval.desc).map (fun d => d.parameters.length) = some 4 := by decide +kernel
set_option maxRecDepth 100000 in
theorem G_beginEval : GoodIn wsM (wsV RX12 595 RX12 yX12_beginEval (.code yX12_beginEval cX12_beginEval 6 none :: wsM)) := gV 57 rfl rfl rfl rfl
theorem E_beginInstance : yX12_beginInstance.cls = RX12 ∧ yX12_beginInstance.cls ≠ "java/lang/invoke/MethodHandle" ∧ yX12_beginInstance.cls ≠ "java/lang/invoke/VarHandle" ∧ (parseMethodDescriptor yX12_beginInstance.desc).map (fun d => d.parameters.length) = some 3 := by decide +kernel
set_option maxRecDepth 100000 in
theorem G_beginInstance : GoodIn wsM (wsV RX12 510 RX12 yX12_beginInstance (.code yX12_beginInstance cX12_beginInstance 4 none :: wsM)) := gV 61 rfl rfl rfl rfl
theorem E_beginJob : yX12_beginJob.cls = RX12 ∧ yX12_beginJob.cls ≠ "java/lang/invoke/MethodHandle" ∧ yX12_beginJob.cls ≠ "java/lang/invoke/VarHandle" ∧ (parseMethodDescriptor yX12_beginJob.desc).map (fun d => d.parameters.length) = some 2 := by decide +kernel
set_option maxRecDepth 100000 in
theorem G_beginJob : GoodIn wsM (wsV RX12 621 RX12 yX12_beginJob (.code yX12_beginJob cX12_beginJob 3 none :: wsM)) := gV 65 rfl rfl rfl rfl
theorem E_beginProof : yX12_beginProof.cls = RX12 ∧ yX12_beginProof.cls ≠ "java/lang/invoke/MethodHandle" ∧ yX12_beginProof.cls ≠ "java/lang/invoke/VarHandle" ∧ (parseMethodDescriptor yX12_beginProof.desc).map (fun d => d.parameters.length) = some 1 := by decide +kernel
set_option maxRecDepth 100000 in
theorem G_beginProof : GoodIn wsM (wsV RX12 965 RX12 yX12_beginProof (.code yX12_beginProof cX12_beginProof 2 none :: wsM)) := gV 69 rfl rfl rfl rfl
theorem E_beginTerm : yX12_beginTerm.cls = RX12 ∧ yX12_beginTerm.cls ≠ "java/lang/invoke/MethodHandle" ∧ yX12_beginTerm.cls ≠ "java/lang/invoke/VarHandle" ∧ (parseMethodDescriptor yX12_beginTerm.desc).map (fun d => d.parameters.length) = some 1 := by decide +kernel
set_option maxRecDepth 100000 in
theorem G_beginTerm : GoodIn wsM (wsV RX12 535 RX12 yX12_beginTerm (.code yX12_beginTerm cX12_beginTerm 3 (some .boolean) :: wsM)) := gV 73 rfl rfl rfl rfl
theorem E_beginsEqual : yX12_beginsEqual.cls = RX12 ∧ yX12_beginsEqual.cls ≠ "java/lang/invoke/MethodHandle" ∧ yX12_beginsEqual.cls ≠ "java/lang/invoke/VarHandle" ∧ (parseMethodDescriptor yX12_beginsEqual.desc).map (fun d => d.parameters.length) = some 1 := by decide +kernel
set_option maxRecDepth 100000 in
theorem G_beginsEqual : GoodIn wsM (wsV RX12 953 RX12 yX12_beginsEqual (.code yX12_beginsEqual cX12_beginsEqual 2 (some .boolean) :: wsM)) := gV 77 rfl rfl rfl rfl
theorem E_bodyOf : yX12_bodyOf.cls = RX12 ∧ yX12_bodyOf.cls ≠ "java/lang/invoke/MethodHandle" ∧ yX12_bodyOf.cls ≠ "java/lang/invoke/VarHandle" ∧ (parseMethodDescriptor yX12_bodyOf.desc).map (fun d => d.parameters.length) = some 2 := by decide +kernel
set_option maxRecDepth 100000 in
theorem G_bodyOf : GoodIn wsM (wsV RX12 675 RX12 yX12_bodyOf (.code yX12_bodyOf cX12_bodyOf 5 (some .int) :: wsM)) := gV 81 rfl rfl rfl rfl
theorem E_bound : yX12_bound.cls = RX12 ∧ yX12_bound.cls ≠ "java/lang/invoke/MethodHandle" ∧ yX12_bound.cls ≠ "java/lang/invoke/VarHandle" ∧ (parseMethodDescriptor yX12_bound.desc).map (fun d => d.parameters.length) = some 4 := by decide +kernel
set_option maxRecDepth 100000 in
theorem G_bound : GoodIn wsM (wsV RX12 702 RX12 yX12_bound (.code yX12_bound cX12_bound 6 (some .boolean) :: wsM)) := gV 85 rfl rfl rfl rfl
theorem E_bounded : yX12_bounded.cls = RX12 ∧ yX12_bounded.cls ≠ "java/lang/invoke/MethodHandle" ∧ yX12_bounded.cls ≠ "java/lang/invoke/VarHandle" ∧ (parseMethodDescriptor yX12_bounded.desc).map (fun d => d.parameters.length) = some 0 := by decide +kernel
set_option maxRecDepth 100000 in
theorem G_bounded : GoodIn wsM (wsV RX12 730 RX12 yX12_bounded (.code yX12_bounded cX12_bounded 3 none :: wsM)) := gV 89 rfl rfl rfl rfl
theorem E_build : yX12_build.cls = RX12 ∧ yX12_build.cls ≠ "java/lang/invoke/MethodHandle" ∧ yX12_build.cls ≠ "java/lang/invoke/VarHandle" ∧ (parseMethodDescriptor yX12_build.desc).map (fun d => d.parameters.length) = some 1 := by decide +kernel
set_option maxRecDepth 100000 in
theorem G_build : GoodIn wsM (wsV RX12 498 RX12 yX12_build (.code yX12_build cX12_build 2 none :: wsM)) := gV 93 rfl rfl rfl rfl
theorem E_callFrom : yX12_callFrom.cls = RX12 ∧ yX12_callFrom.cls ≠ "java/lang/invoke/MethodHandle" ∧ yX12_callFrom.cls ≠ "java/lang/invoke/VarHandle" ∧ (parseMethodDescriptor yX12_callFrom.desc).map (fun d => d.parameters.length) = some 2 := by decide +kernel
set_option maxRecDepth 100000 in
theorem G_callFrom : GoodIn wsM (wsV RX12 514 RX12 yX12_callFrom (.code yX12_callFrom cX12_callFrom 6 (some .int) :: wsM)) := gV 97 rfl rfl rfl rfl
theorem E_changeTo : yX12_changeTo.cls = RX12 ∧ yX12_changeTo.cls ≠ "java/lang/invoke/MethodHandle" ∧ yX12_changeTo.cls ≠ "java/lang/invoke/VarHandle" ∧ (parseMethodDescriptor yX12_changeTo.desc).map (fun d => d.parameters.length) = some 3 := by decide +kernel
set_option maxRecDepth 100000 in
theorem G_changeTo : GoodIn wsM (wsV RX12 763 RX12 yX12_changeTo (.code yX12_changeTo cX12_changeTo 5 (some .boolean) :: wsM)) := gV 101 rfl rfl rfl rfl
theorem E_check : yX12_check.cls = RX12 ∧ yX12_check.cls ≠ "java/lang/invoke/MethodHandle" ∧ yX12_check.cls ≠ "java/lang/invoke/VarHandle" ∧ (parseMethodDescriptor yX12_check.desc).map (fun d => d.parameters.length) = some 1 := by decide +kernel
set_option maxRecDepth 100000 in
theorem G_check : GoodIn wsM (wsV RX12 986 RX12 yX12_check (.code yX12_check cX12_check 7 (some .int) :: wsM)) := gV 105 rfl rfl rfl rfl
theorem E_close : yX12_close.cls = RX12 ∧ yX12_close.cls ≠ "java/lang/invoke/MethodHandle" ∧ yX12_close.cls ≠ "java/lang/invoke/VarHandle" ∧ (parseMethodDescriptor yX12_close.desc).map (fun d => d.parameters.length) = some 0 := by decide +kernel
set_option maxRecDepth 100000 in
theorem G_close : GoodIn wsM (wsV RX12 420 RX12 yX12_close (.code yX12_close cX12_close 3 none :: wsM)) := gV 109 rfl rfl rfl rfl
theorem E_command : yX12_command.cls = RX12 ∧ yX12_command.cls ≠ "java/lang/invoke/MethodHandle" ∧ yX12_command.cls ≠ "java/lang/invoke/VarHandle" ∧ (parseMethodDescriptor yX12_command.desc).map (fun d => d.parameters.length) = some 1 := by decide +kernel
set_option maxRecDepth 100000 in
theorem G_command : GoodIn wsM (wsV RX12 1001 RX12 yX12_command (.code yX12_command cX12_command 2 (some .int) :: wsM)) := gV 113 rfl rfl rfl rfl
theorem E_concludes : yX12_concludes.cls = RX12 ∧ yX12_concludes.cls ≠ "java/lang/invoke/MethodHandle" ∧ yX12_concludes.cls ≠ "java/lang/invoke/VarHandle" ∧ (parseMethodDescriptor yX12_concludes.desc).map (fun d => d.parameters.length) = some 1 := by decide +kernel
set_option maxRecDepth 100000 in
theorem G_concludes : GoodIn wsM (wsV RX12 968 RX12 yX12_concludes (.code yX12_concludes cX12_concludes 8 (some .boolean) :: wsM)) := gV 117 rfl rfl rfl rfl
theorem E_constantOf : yX12_constantOf.cls = RX12 ∧ yX12_constantOf.cls ≠ "java/lang/invoke/MethodHandle" ∧ yX12_constantOf.cls ≠ "java/lang/invoke/VarHandle" ∧ (parseMethodDescriptor yX12_constantOf.desc).map (fun d => d.parameters.length) = some 1 := by decide +kernel
set_option maxRecDepth 100000 in
theorem G_constantOf : GoodIn wsM (wsV RX12 523 RX12 yX12_constantOf (.code yX12_constantOf cX12_constantOf 2 (some .int) :: wsM)) := gV 121 rfl rfl rfl rfl
theorem E_constantValue : yX12_constantValue.cls = RX12 ∧ yX12_constantValue.cls ≠ "java/lang/invoke/MethodHandle" ∧ yX12_constantValue.cls ≠ "java/lang/invoke/VarHandle" ∧ (parseMethodDescriptor yX12_constantValue.desc).map (fun d => d.parameters.length) = some 2 := by decide +kernel
set_option maxRecDepth 100000 in
theorem G_constantValue : GoodIn wsM (wsV RX12 684 RX12 yX12_constantValue (.code yX12_constantValue cX12_constantValue 4 (some .int) :: wsM)) := gV 125 rfl rfl rfl rfl
theorem E_covers : yX12_covers.cls = RX12 ∧ yX12_covers.cls ≠ "java/lang/invoke/MethodHandle" ∧ yX12_covers.cls ≠ "java/lang/invoke/VarHandle" ∧ (parseMethodDescriptor yX12_covers.desc).map (fun d => d.parameters.length) = some 2 := by decide +kernel
set_option maxRecDepth 100000 in
theorem G_covers : GoodIn wsM (wsV RX12 854 RX12 yX12_covers (.code yX12_covers cX12_covers 5 (some .boolean) :: wsM)) := gV 129 rfl rfl rfl rfl
theorem E_define : yX12_define.cls = RX12 ∧ yX12_define.cls ≠ "java/lang/invoke/MethodHandle" ∧ yX12_define.cls ≠ "java/lang/invoke/VarHandle" ∧ (parseMethodDescriptor yX12_define.desc).map (fun d => d.parameters.length) = some 1 := by decide +kernel
set_option maxRecDepth 100000 in
theorem G_define : GoodIn wsM (wsV RX12 718 RX12 yX12_define (.code yX12_define cX12_define 4 none :: wsM)) := gV 133 rfl rfl rfl rfl
theorem E_defined : yX12_defined.cls = RX12 ∧ yX12_defined.cls ≠ "java/lang/invoke/MethodHandle" ∧ yX12_defined.cls ≠ "java/lang/invoke/VarHandle" ∧ (parseMethodDescriptor yX12_defined.desc).map (fun d => d.parameters.length) = some 1 := by decide +kernel
set_option maxRecDepth 100000 in
theorem G_defined : GoodIn wsM (wsV RX12 941 RX12 yX12_defined (.code yX12_defined cX12_defined 4 none :: wsM)) := gV 137 rfl rfl rfl rfl
theorem E_definition : yX12_definition.cls = RX12 ∧ yX12_definition.cls ≠ "java/lang/invoke/MethodHandle" ∧ yX12_definition.cls ≠ "java/lang/invoke/VarHandle" ∧ (parseMethodDescriptor yX12_definition.desc).map (fun d => d.parameters.length) = some 1 := by decide +kernel
set_option maxRecDepth 100000 in
theorem G_definition : GoodIn wsM (wsV RX12 827 RX12 yX12_definition (.code yX12_definition cX12_definition 3 (some .int) :: wsM)) := gV 141 rfl rfl rfl rfl
theorem E_defthm : yX12_defthm.cls = RX12 ∧ yX12_defthm.cls ≠ "java/lang/invoke/MethodHandle" ∧ yX12_defthm.cls ≠ "java/lang/invoke/VarHandle" ∧ (parseMethodDescriptor yX12_defthm.desc).map (fun d => d.parameters.length) = some 2 := by decide +kernel
set_option maxRecDepth 100000 in
theorem G_defthm : GoodIn wsM (wsV RX12 980 RX12 yX12_defthm (.code yX12_defthm cX12_defthm 10 (some .int) :: wsM)) := gV 145 rfl rfl rfl rfl
theorem E_defun : yX12_defun.cls = RX12 ∧ yX12_defun.cls ≠ "java/lang/invoke/MethodHandle" ∧ yX12_defun.cls ≠ "java/lang/invoke/VarHandle" ∧ (parseMethodDescriptor yX12_defun.desc).map (fun d => d.parameters.length) = some 1 := by decide +kernel
set_option maxRecDepth 100000 in
theorem G_defun : GoodIn wsM (wsV RX12 983 RX12 yX12_defun (.code yX12_defun cX12_defun 10 (some .int) :: wsM)) := gV 149 rfl rfl rfl rfl
theorem E_deliver : yX12_deliver.cls = RX12 ∧ yX12_deliver.cls ≠ "java/lang/invoke/MethodHandle" ∧ yX12_deliver.cls ≠ "java/lang/invoke/VarHandle" ∧ (parseMethodDescriptor yX12_deliver.desc).map (fun d => d.parameters.length) = some 1 := by decide +kernel
set_option maxRecDepth 100000 in
theorem G_deliver : GoodIn wsM (wsV RX12 393 RX12 yX12_deliver (.code yX12_deliver cX12_deliver 3 none :: wsM)) := gV 153 rfl rfl rfl rfl
theorem E_end0 : yX12_end0.cls = RX12 ∧ yX12_end0.cls ≠ "java/lang/invoke/MethodHandle" ∧ yX12_end0.cls ≠ "java/lang/invoke/VarHandle" ∧ (parseMethodDescriptor yX12_end0.desc).map (fun d => d.parameters.length) = some 1 := by decide +kernel
set_option maxRecDepth 100000 in
theorem G_end0 : GoodIn wsM (wsV RX12 637 RX12 yX12_end0 (.code yX12_end0 cX12_end0 2 none :: wsM)) := gV 157 rfl rfl rfl rfl
theorem E_eval : yX12_eval.cls = RX12 ∧ yX12_eval.cls ≠ "java/lang/invoke/MethodHandle" ∧ yX12_eval.cls ≠ "java/lang/invoke/VarHandle" ∧ (parseMethodDescriptor yX12_eval.desc).map (fun d => d.parameters.length) = some 1 := by decide +kernel
set_option maxRecDepth 100000 in
theorem G_eval : GoodIn wsM (wsV RX12 974 RX12 yX12_eval (.code yX12_eval cX12_eval 4 (some .int) :: wsM)) := gV 161 rfl rfl rfl rfl
theorem E_evaluated : yX12_evaluated.cls = RX12 ∧ yX12_evaluated.cls ≠ "java/lang/invoke/MethodHandle" ∧ yX12_evaluated.cls ≠ "java/lang/invoke/VarHandle" ∧ (parseMethodDescriptor yX12_evaluated.desc).map (fun d => d.parameters.length) = some 2 := by decide +kernel
set_option maxRecDepth 100000 in
theorem G_evaluated : GoodIn wsM (wsV RX12 687 RX12 yX12_evaluated (.code yX12_evaluated cX12_evaluated 3 (some .int) :: wsM)) := gV 165 rfl rfl rfl rfl
theorem E_fail : yX12_fail.cls = RX12 ∧ yX12_fail.cls ≠ "java/lang/invoke/MethodHandle" ∧ yX12_fail.cls ≠ "java/lang/invoke/VarHandle" ∧ (parseMethodDescriptor yX12_fail.desc).map (fun d => d.parameters.length) = some 1 := by decide +kernel
set_option maxRecDepth 100000 in
theorem G_fail : GoodIn wsM (wsV RX12 517 RX12 yX12_fail (.code yX12_fail cX12_fail 2 none :: wsM)) := gV 169 rfl rfl rfl rfl
theorem E_fallen : yX12_fallen.cls = RX12 ∧ yX12_fallen.cls ≠ "java/lang/invoke/MethodHandle" ∧ yX12_fallen.cls ≠ "java/lang/invoke/VarHandle" ∧ (parseMethodDescriptor yX12_fallen.desc).map (fun d => d.parameters.length) = some 2 := by decide +kernel
set_option maxRecDepth 100000 in
theorem G_fallen : GoodIn wsM (wsV RX12 696 RX12 yX12_fallen (.code yX12_fallen cX12_fallen 5 (some .int) :: wsM)) := gV 173 rfl rfl rfl rfl
theorem E_find : yX12_find.cls = RX12 ∧ yX12_find.cls ≠ "java/lang/invoke/MethodHandle" ∧ yX12_find.cls ≠ "java/lang/invoke/VarHandle" ∧ (parseMethodDescriptor yX12_find.desc).map (fun d => d.parameters.length) = some 2 := by decide +kernel
set_option maxRecDepth 100000 in
theorem G_find : GoodIn wsM (wsV RX12 806 RX12 yX12_find (.code yX12_find cX12_find 4 none :: wsM)) := gV 177 rfl rfl rfl rfl
theorem E_forget : yX12_forget.cls = RX12 ∧ yX12_forget.cls ≠ "java/lang/invoke/MethodHandle" ∧ yX12_forget.cls ≠ "java/lang/invoke/VarHandle" ∧ (parseMethodDescriptor yX12_forget.desc).map (fun d => d.parameters.length) = some 1 := by decide +kernel
set_option maxRecDepth 100000 in
theorem G_forget : GoodIn wsM (wsV RX12 839 RX12 yX12_forget (.code yX12_forget cX12_forget 2 none :: wsM)) := gV 181 rfl rfl rfl rfl
theorem E_functionOf : yX12_functionOf.cls = RX12 ∧ yX12_functionOf.cls ≠ "java/lang/invoke/MethodHandle" ∧ yX12_functionOf.cls ≠ "java/lang/invoke/VarHandle" ∧ (parseMethodDescriptor yX12_functionOf.desc).map (fun d => d.parameters.length) = some 1 := by decide +kernel
set_option maxRecDepth 100000 in
theorem G_functionOf : GoodIn wsM (wsV RX12 526 RX12 yX12_functionOf (.code yX12_functionOf cX12_functionOf 3 (some .int) :: wsM)) := gV 185 rfl rfl rfl rfl
theorem E_goOn : yX12_goOn.cls = RX12 ∧ yX12_goOn.cls ≠ "java/lang/invoke/MethodHandle" ∧ yX12_goOn.cls ≠ "java/lang/invoke/VarHandle" ∧ (parseMethodDescriptor yX12_goOn.desc).map (fun d => d.parameters.length) = some 1 := by decide +kernel
set_option maxRecDepth 100000 in
theorem G_goOn : GoodIn wsM (wsV RX12 606 RX12 yX12_goOn (.code yX12_goOn cX12_goOn 4 none :: wsM)) := gV 189 rfl rfl rfl rfl
theorem E_goProof : yX12_goProof.cls = RX12 ∧ yX12_goProof.cls ≠ "java/lang/invoke/MethodHandle" ∧ yX12_goProof.cls ≠ "java/lang/invoke/VarHandle" ∧ (parseMethodDescriptor yX12_goProof.desc).map (fun d => d.parameters.length) = some 0 := by decide +kernel
set_option maxRecDepth 100000 in
theorem G_goProof : GoodIn wsM (wsV RX12 971 RX12 yX12_goProof (.code yX12_goProof cX12_goProof 5 none :: wsM)) := gV 193 rfl rfl rfl rfl
theorem E_has : yX12_has.cls = RX12 ∧ yX12_has.cls ≠ "java/lang/invoke/MethodHandle" ∧ yX12_has.cls ≠ "java/lang/invoke/VarHandle" ∧ (parseMethodDescriptor yX12_has.desc).map (fun d => d.parameters.length) = some 2 := by decide +kernel
set_option maxRecDepth 100000 in
theorem G_has : GoodIn wsM (wsV RX12 947 RX12 yX12_has (.code yX12_has cX12_has 4 (some .boolean) :: wsM)) := gV 197 rfl rfl rfl rfl
theorem E_hasCall : yX12_hasCall.cls = RX12 ∧ yX12_hasCall.cls ≠ "java/lang/invoke/MethodHandle" ∧ yX12_hasCall.cls ≠ "java/lang/invoke/VarHandle" ∧ (parseMethodDescriptor yX12_hasCall.desc).map (fun d => d.parameters.length) = some 2 := by decide +kernel
set_option maxRecDepth 100000 in
theorem G_hasCall : GoodIn wsM (wsV RX12 803 RX12 yX12_hasCall (.code yX12_hasCall cX12_hasCall 4 (some .boolean) :: wsM)) := gV 201 rfl rfl rfl rfl
theorem E_hasOnly : yX12_hasOnly.cls = RX12 ∧ yX12_hasOnly.cls ≠ "java/lang/invoke/MethodHandle" ∧ yX12_hasOnly.cls ≠ "java/lang/invoke/VarHandle" ∧ (parseMethodDescriptor yX12_hasOnly.desc).map (fun d => d.parameters.length) = some 2 := by decide +kernel
set_option maxRecDepth 100000 in
theorem G_hasOnly : GoodIn wsM (wsV RX12 818 RX12 yX12_hasOnly (.code yX12_hasOnly cX12_hasOnly 4 (some .boolean) :: wsM)) := gV 205 rfl rfl rfl rfl
theorem E_hasVariable : yX12_hasVariable.cls = RX12 ∧ yX12_hasVariable.cls ≠ "java/lang/invoke/MethodHandle" ∧ yX12_hasVariable.cls ≠ "java/lang/invoke/VarHandle" ∧ (parseMethodDescriptor yX12_hasVariable.desc).map (fun d => d.parameters.length) = some 2 := by decide +kernel
set_option maxRecDepth 100000 in
theorem G_hasVariable : GoodIn wsM (wsV RX12 857 RX12 yX12_hasVariable (.code yX12_hasVariable cX12_hasVariable 3 (some .boolean) :: wsM)) := gV 209 rfl rfl rfl rfl
theorem E_hints : yX12_hints.cls = RX12 ∧ yX12_hints.cls ≠ "java/lang/invoke/MethodHandle" ∧ yX12_hints.cls ≠ "java/lang/invoke/VarHandle" ∧ (parseMethodDescriptor yX12_hints.desc).map (fun d => d.parameters.length) = some 1 := by decide +kernel
set_option maxRecDepth 100000 in
theorem G_hints : GoodIn wsM (wsV RX12 902 RX12 yX12_hints (.code yX12_hints cX12_hints 5 (some .int) :: wsM)) := gV 213 rfl rfl rfl rfl
theorem E_hypotheses : yX12_hypotheses.cls = RX12 ∧ yX12_hypotheses.cls ≠ "java/lang/invoke/MethodHandle" ∧ yX12_hypotheses.cls ≠ "java/lang/invoke/VarHandle" ∧ (parseMethodDescriptor yX12_hypotheses.desc).map (fun d => d.parameters.length) = some 2 := by decide +kernel
set_option maxRecDepth 100000 in
theorem G_hypotheses : GoodIn wsM (wsV RX12 851 RX12 yX12_hypotheses (.code yX12_hypotheses cX12_hypotheses 5 none :: wsM)) := gV 217 rfl rfl rfl rfl
theorem E_induction : yX12_induction.cls = RX12 ∧ yX12_induction.cls ≠ "java/lang/invoke/MethodHandle" ∧ yX12_induction.cls ≠ "java/lang/invoke/VarHandle" ∧ (parseMethodDescriptor yX12_induction.desc).map (fun d => d.parameters.length) = some 1 := by decide +kernel
set_option maxRecDepth 100000 in
theorem G_induction : GoodIn wsM (wsV RX12 884 RX12 yX12_induction (.code yX12_induction cX12_induction 4 none :: wsM)) := gV 221 rfl rfl rfl rfl
theorem E_inductionRow : yX12_inductionRow.cls = RX12 ∧ yX12_inductionRow.cls ≠ "java/lang/invoke/MethodHandle" ∧ yX12_inductionRow.cls ≠ "java/lang/invoke/VarHandle" ∧ (parseMethodDescriptor yX12_inductionRow.desc).map (fun d => d.parameters.length) = some 4 := by decide +kernel
set_option maxRecDepth 100000 in
theorem G_inductionRow : GoodIn wsM (wsV RX12 899 RX12 yX12_inductionRow (.code yX12_inductionRow cX12_inductionRow 7 none :: wsM)) := gV 225 rfl rfl rfl rfl
theorem E_inducts : yX12_inducts.cls = RX12 ∧ yX12_inducts.cls ≠ "java/lang/invoke/MethodHandle" ∧ yX12_inducts.cls ≠ "java/lang/invoke/VarHandle" ∧ (parseMethodDescriptor yX12_inducts.desc).map (fun d => d.parameters.length) = some 3 := by decide +kernel
set_option maxRecDepth 100000 in
theorem G_inducts : GoodIn wsM (wsV RX12 959 RX12 yX12_inducts (.code yX12_inducts cX12_inducts 10 (some .boolean) :: wsM)) := gV 229 rfl rfl rfl rfl
theorem E_instance : yX12_instance.cls = RX12 ∧ yX12_instance.cls ≠ "java/lang/invoke/MethodHandle" ∧ yX12_instance.cls ≠ "java/lang/invoke/VarHandle" ∧ (parseMethodDescriptor yX12_instance.desc).map (fun d => d.parameters.length) = some 1 := by decide +kernel
set_option maxRecDepth 100000 in
theorem G_instance : GoodIn wsM (wsV RX12 712 RX12 yX12_instance (.code yX12_instance cX12_instance 2 (some .int) :: wsM)) := gV 233 rfl rfl rfl rfl
theorem E_instanced : yX12_instanced.cls = RX12 ∧ yX12_instanced.cls ≠ "java/lang/invoke/MethodHandle" ∧ yX12_instanced.cls ≠ "java/lang/invoke/VarHandle" ∧ (parseMethodDescriptor yX12_instanced.desc).map (fun d => d.parameters.length) = some 2 := by decide +kernel
set_option maxRecDepth 100000 in
theorem G_instanced : GoodIn wsM (wsV RX12 950 RX12 yX12_instanced (.code yX12_instanced cX12_instanced 6 (some .boolean) :: wsM)) := gV 237 rfl rfl rfl rfl
theorem E_isAtom : yX12_isAtom.cls = RX12 ∧ yX12_isAtom.cls ≠ "java/lang/invoke/MethodHandle" ∧ yX12_isAtom.cls ≠ "java/lang/invoke/VarHandle" ∧ (parseMethodDescriptor yX12_isAtom.desc).map (fun d => d.parameters.length) = some 1 := by decide +kernel
set_option maxRecDepth 100000 in
theorem G_isAtom : GoodIn wsM (wsS RX12 423 yX12_isAtom (.code yX12_isAtom cX12_isAtom 1 (some .boolean) :: wsM)) := gT 241 rfl rfl rfl
theorem E_isBoolean : yX12_isBoolean.cls = RX12 ∧ yX12_isBoolean.cls ≠ "java/lang/invoke/MethodHandle" ∧ yX12_isBoolean.cls ≠ "java/lang/invoke/VarHandle" ∧ (parseMethodDescriptor yX12_isBoolean.desc).map (fun d => d.parameters.length) = some 1 := by decide +kernel
set_option maxRecDepth 100000 in
theorem G_isBoolean : GoodIn wsM (wsV RX12 631 RX12 yX12_isBoolean (.code yX12_isBoolean cX12_isBoolean 2 (some .boolean) :: wsM)) := gV 244 rfl rfl rfl rfl
theorem E_isCall : yX12_isCall.cls = RX12 ∧ yX12_isCall.cls ≠ "java/lang/invoke/MethodHandle" ∧ yX12_isCall.cls ≠ "java/lang/invoke/VarHandle" ∧ (parseMethodDescriptor yX12_isCall.desc).map (fun d => d.parameters.length) = some 1 := by decide +kernel
set_option maxRecDepth 100000 in
theorem G_isCall : GoodIn wsM (wsV RX12 483 RX12 yX12_isCall (.code yX12_isCall cX12_isCall 2 (some .boolean) :: wsM)) := gV 248 rfl rfl rfl rfl
theorem E_isCallOf : yX12_isCallOf.cls = RX12 ∧ yX12_isCallOf.cls ≠ "java/lang/invoke/MethodHandle" ∧ yX12_isCallOf.cls ≠ "java/lang/invoke/VarHandle" ∧ (parseMethodDescriptor yX12_isCallOf.desc).map (fun d => d.parameters.length) = some 2 := by decide +kernel
set_option maxRecDepth 100000 in
theorem G_isCallOf : GoodIn wsM (wsV RX12 542 RX12 yX12_isCallOf (.code yX12_isCallOf cX12_isCallOf 3 (some .boolean) :: wsM)) := gV 252 rfl rfl rfl rfl
theorem E_isConstant : yX12_isConstant.cls = RX12 ∧ yX12_isConstant.cls ≠ "java/lang/invoke/MethodHandle" ∧ yX12_isConstant.cls ≠ "java/lang/invoke/VarHandle" ∧ (parseMethodDescriptor yX12_isConstant.desc).map (fun d => d.parameters.length) = some 1 := by decide +kernel
set_option maxRecDepth 100000 in
theorem G_isConstant : GoodIn wsM (wsV RX12 546 RX12 yX12_isConstant (.code yX12_isConstant cX12_isConstant 2 (some .boolean) :: wsM)) := gV 256 rfl rfl rfl rfl
theorem E_isDenied : yX12_isDenied.cls = RX12 ∧ yX12_isDenied.cls ≠ "java/lang/invoke/MethodHandle" ∧ yX12_isDenied.cls ≠ "java/lang/invoke/VarHandle" ∧ (parseMethodDescriptor yX12_isDenied.desc).map (fun d => d.parameters.length) = some 1 := by decide +kernel
set_option maxRecDepth 100000 in
theorem G_isDenied : GoodIn wsM (wsV RX12 634 RX12 yX12_isDenied (.code yX12_isDenied cX12_isDenied 3 (some .boolean) :: wsM)) := gV 260 rfl rfl rfl rfl
theorem E_isDigit : yX12_isDigit.cls = RX12 ∧ yX12_isDigit.cls ≠ "java/lang/invoke/MethodHandle" ∧ yX12_isDigit.cls ≠ "java/lang/invoke/VarHandle" ∧ (parseMethodDescriptor yX12_isDigit.desc).map (fun d => d.parameters.length) = some 1 := by decide +kernel
set_option maxRecDepth 100000 in
theorem G_isDigit : GoodIn wsM (wsS RX12 368 yX12_isDigit (.code yX12_isDigit cX12_isDigit 1 (some .boolean) :: wsM)) := gT 264 rfl rfl rfl
theorem E_isForm : yX12_isForm.cls = RX12 ∧ yX12_isForm.cls ≠ "java/lang/invoke/MethodHandle" ∧ yX12_isForm.cls ≠ "java/lang/invoke/VarHandle" ∧ (parseMethodDescriptor yX12_isForm.desc).map (fun d => d.parameters.length) = some 1 := by decide +kernel
set_option maxRecDepth 100000 in
theorem G_isForm : GoodIn wsM (wsV RX12 929 RX12 yX12_isForm (.code yX12_isForm cX12_isForm 3 (some .boolean) :: wsM)) := gV 267 rfl rfl rfl rfl
theorem E_isFull : yX12_isFull.cls = RX12 ∧ yX12_isFull.cls ≠ "java/lang/invoke/MethodHandle" ∧ yX12_isFull.cls ≠ "java/lang/invoke/VarHandle" ∧ (parseMethodDescriptor yX12_isFull.desc).map (fun d => d.parameters.length) = some 0 := by decide +kernel
set_option maxRecDepth 100000 in
theorem G_isFull : GoodIn wsM (wsV RX12 456 RX12 yX12_isFull (.code yX12_isFull cX12_isFull 1 (some .boolean) :: wsM)) := gV 271 rfl rfl rfl rfl
theorem E_isIn : yX12_isIn.cls = RX12 ∧ yX12_isIn.cls ≠ "java/lang/invoke/MethodHandle" ∧ yX12_isIn.cls ≠ "java/lang/invoke/VarHandle" ∧ (parseMethodDescriptor yX12_isIn.desc).map (fun d => d.parameters.length) = some 2 := by decide +kernel
set_option maxRecDepth 100000 in
theorem G_isIn : GoodIn wsM (wsV RX12 800 RX12 yX12_isIn (.code yX12_isIn cX12_isIn 4 (some .boolean) :: wsM)) := gV 275 rfl rfl rfl rfl
theorem E_isInContext : yX12_isInContext.cls = RX12 ∧ yX12_isInContext.cls ≠ "java/lang/invoke/MethodHandle" ∧ yX12_isInContext.cls ≠ "java/lang/invoke/VarHandle" ∧ (parseMethodDescriptor yX12_isInContext.desc).map (fun d => d.parameters.length) = some 1 := by decide +kernel
set_option maxRecDepth 100000 in
theorem G_isInContext : GoodIn wsM (wsV RX12 628 RX12 yX12_isInContext (.code yX12_isInContext cX12_isInContext 3 (some .boolean) :: wsM)) := gV 279 rfl rfl rfl rfl
theorem E_isInList : yX12_isInList.cls = RX12 ∧ yX12_isInList.cls ≠ "java/lang/invoke/MethodHandle" ∧ yX12_isInList.cls ≠ "java/lang/invoke/VarHandle" ∧ (parseMethodDescriptor yX12_isInList.desc).map (fun d => d.parameters.length) = some 0 := by decide +kernel
set_option maxRecDepth 100000 in
theorem G_isInList : GoodIn wsM (wsV RX12 417 RX12 yX12_isInList (.code yX12_isInList cX12_isInList 1 (some .boolean) :: wsM)) := gV 283 rfl rfl rfl rfl
theorem E_isInduction : yX12_isInduction.cls = RX12 ∧ yX12_isInduction.cls ≠ "java/lang/invoke/MethodHandle" ∧ yX12_isInduction.cls ≠ "java/lang/invoke/VarHandle" ∧ (parseMethodDescriptor yX12_isInduction.desc).map (fun d => d.parameters.length) = some 1 := by decide +kernel
set_option maxRecDepth 100000 in
theorem G_isInduction : GoodIn wsM (wsV RX12 923 RX12 yX12_isInduction (.code yX12_isInduction cX12_isInduction 5 (some .boolean) :: wsM)) := gV 287 rfl rfl rfl rfl
theorem E_isNatural : yX12_isNatural.cls = RX12 ∧ yX12_isNatural.cls ≠ "java/lang/invoke/MethodHandle" ∧ yX12_isNatural.cls ≠ "java/lang/invoke/VarHandle" ∧ (parseMethodDescriptor yX12_isNatural.desc).map (fun d => d.parameters.length) = some 1 := by decide +kernel
set_option maxRecDepth 100000 in
theorem G_isNatural : GoodIn wsM (wsV RX12 468 RX12 yX12_isNatural (.code yX12_isNatural cX12_isNatural 2 (some .boolean) :: wsM)) := gV 291 rfl rfl rfl rfl
theorem E_isNewName : yX12_isNewName.cls = RX12 ∧ yX12_isNewName.cls ≠ "java/lang/invoke/MethodHandle" ∧ yX12_isNewName.cls ≠ "java/lang/invoke/VarHandle" ∧ (parseMethodDescriptor yX12_isNewName.desc).map (fun d => d.parameters.length) = some 1 := by decide +kernel
set_option maxRecDepth 100000 in
theorem G_isNewName : GoodIn wsM (wsV RX12 809 RX12 yX12_isNewName (.code yX12_isNewName cX12_isNewName 2 (some .boolean) :: wsM)) := gV 295 rfl rfl rfl rfl
theorem E_isNumbered : yX12_isNumbered.cls = RX12 ∧ yX12_isNumbered.cls ≠ "java/lang/invoke/MethodHandle" ∧ yX12_isNumbered.cls ≠ "java/lang/invoke/VarHandle" ∧ (parseMethodDescriptor yX12_isNumbered.desc).map (fun d => d.parameters.length) = some 1 := by decide +kernel
set_option maxRecDepth 100000 in
theorem G_isNumbered : GoodIn wsM (wsV RX12 678 RX12 yX12_isNumbered (.code yX12_isNumbered cX12_isNumbered 2 (some .boolean) :: wsM)) := gV 299 rfl rfl rfl rfl
theorem E_isPair : yX12_isPair.cls = RX12 ∧ yX12_isPair.cls ≠ "java/lang/invoke/MethodHandle" ∧ yX12_isPair.cls ≠ "java/lang/invoke/VarHandle" ∧ (parseMethodDescriptor yX12_isPair.desc).map (fun d => d.parameters.length) = some 1 := by decide +kernel
set_option maxRecDepth 100000 in
theorem G_isPair : GoodIn wsM (wsV RX12 365 RX12 yX12_isPair (.code yX12_isPair cX12_isPair 2 (some .boolean) :: wsM)) := gV 303 rfl rfl rfl rfl
theorem E_isProved : yX12_isProved.cls = RX12 ∧ yX12_isProved.cls ≠ "java/lang/invoke/MethodHandle" ∧ yX12_isProved.cls ≠ "java/lang/invoke/VarHandle" ∧ (parseMethodDescriptor yX12_isProved.desc).map (fun d => d.parameters.length) = some 1 := by decide +kernel
set_option maxRecDepth 100000 in
theorem G_isProved : GoodIn wsM (wsV RX12 773 RX12 yX12_isProved (.code yX12_isProved cX12_isProved 5 (some .boolean) :: wsM)) := gV 307 rfl rfl rfl rfl
theorem E_isQuoted : yX12_isQuoted.cls = RX12 ∧ yX12_isQuoted.cls ≠ "java/lang/invoke/MethodHandle" ∧ yX12_isQuoted.cls ≠ "java/lang/invoke/VarHandle" ∧ (parseMethodDescriptor yX12_isQuoted.desc).map (fun d => d.parameters.length) = some 1 := by decide +kernel
set_option maxRecDepth 100000 in
theorem G_isQuoted : GoodIn wsM (wsV RX12 462 RX12 yX12_isQuoted (.code yX12_isQuoted cX12_isQuoted 2 (some .boolean) :: wsM)) := gV 311 rfl rfl rfl rfl
theorem E_isReserved : yX12_isReserved.cls = RX12 ∧ yX12_isReserved.cls ≠ "java/lang/invoke/MethodHandle" ∧ yX12_isReserved.cls ≠ "java/lang/invoke/VarHandle" ∧ (parseMethodDescriptor yX12_isReserved.desc).map (fun d => d.parameters.length) = some 1 := by decide +kernel
set_option maxRecDepth 100000 in
theorem G_isReserved : GoodIn wsM (wsS RX12 794 yX12_isReserved (.code yX12_isReserved cX12_isReserved 1 (some .boolean) :: wsM)) := gT 315 rfl rfl rfl
theorem E_isSmaller : yX12_isSmaller.cls = RX12 ∧ yX12_isSmaller.cls ≠ "java/lang/invoke/MethodHandle" ∧ yX12_isSmaller.cls ≠ "java/lang/invoke/VarHandle" ∧ (parseMethodDescriptor yX12_isSmaller.desc).map (fun d => d.parameters.length) = some 2 := by decide +kernel
set_option maxRecDepth 100000 in
theorem G_isSmaller : GoodIn wsM (wsV RX12 715 RX12 yX12_isSmaller (.code yX12_isSmaller cX12_isSmaller 7 (some .boolean) :: wsM)) := gV 318 rfl rfl rfl rfl
theorem E_isStep : yX12_isStep.cls = RX12 ∧ yX12_isStep.cls ≠ "java/lang/invoke/MethodHandle" ∧ yX12_isStep.cls ≠ "java/lang/invoke/VarHandle" ∧ (parseMethodDescriptor yX12_isStep.desc).map (fun d => d.parameters.length) = some 0 := by decide +kernel
set_option maxRecDepth 100000 in
theorem G_isStep : GoodIn wsM (wsV RX12 615 RX12 yX12_isStep (.code yX12_isStep cX12_isStep 1 (some .boolean) :: wsM)) := gV 322 rfl rfl rfl rfl
theorem E_isSymbol : yX12_isSymbol.cls = RX12 ∧ yX12_isSymbol.cls ≠ "java/lang/invoke/MethodHandle" ∧ yX12_isSymbol.cls ≠ "java/lang/invoke/VarHandle" ∧ (parseMethodDescriptor yX12_isSymbol.desc).map (fun d => d.parameters.length) = some 1 := by decide +kernel
set_option maxRecDepth 100000 in
theorem G_isSymbol : GoodIn wsM (wsV RX12 444 RX12 yX12_isSymbol (.code yX12_isSymbol cX12_isSymbol 2 (some .boolean) :: wsM)) := gV 326 rfl rfl rfl rfl
theorem E_isTermList : yX12_isTermList.cls = RX12 ∧ yX12_isTermList.cls ≠ "java/lang/invoke/MethodHandle" ∧ yX12_isTermList.cls ≠ "java/lang/invoke/VarHandle" ∧ (parseMethodDescriptor yX12_isTermList.desc).map (fun d => d.parameters.length) = some 1 := by decide +kernel
set_option maxRecDepth 100000 in
theorem G_isTermList : GoodIn wsM (wsV RX12 920 RX12 yX12_isTermList (.code yX12_isTermList cX12_isTermList 3 (some .boolean) :: wsM)) := gV 330 rfl rfl rfl rfl
theorem E_isVariable : yX12_isVariable.cls = RX12 ∧ yX12_isVariable.cls ≠ "java/lang/invoke/MethodHandle" ∧ yX12_isVariable.cls ≠ "java/lang/invoke/VarHandle" ∧ (parseMethodDescriptor yX12_isVariable.desc).map (fun d => d.parameters.length) = some 1 := by decide +kernel
set_option maxRecDepth 100000 in
theorem G_isVariable : GoodIn wsM (wsV RX12 504 RX12 yX12_isVariable (.code yX12_isVariable cX12_isVariable 2 (some .boolean) :: wsM)) := gV 334 rfl rfl rfl rfl
theorem E_isWord : yX12_isWord.cls = RX12 ∧ yX12_isWord.cls ≠ "java/lang/invoke/MethodHandle" ∧ yX12_isWord.cls ≠ "java/lang/invoke/VarHandle" ∧ (parseMethodDescriptor yX12_isWord.desc).map (fun d => d.parameters.length) = some 1 := by decide +kernel
set_option maxRecDepth 100000 in
theorem G_isWord : GoodIn wsM (wsV RX12 342 RX12 yX12_isWord (.code yX12_isWord cX12_isWord 4 (some .boolean) :: wsM)) := gV 338 rfl rfl rfl rfl
theorem E_join : yX12_join.cls = RX12 ∧ yX12_join.cls ≠ "java/lang/invoke/MethodHandle" ∧ yX12_join.cls ≠ "java/lang/invoke/VarHandle" ∧ (parseMethodDescriptor yX12_join.desc).map (fun d => d.parameters.length) = some 4 := by decide +kernel
set_option maxRecDepth 100000 in
theorem G_join : GoodIn wsM (wsV RX12 665 RX12 yX12_join (.code yX12_join cX12_join 5 none :: wsM)) := gV 342 rfl rfl rfl rfl
theorem E_later : yX12_later.cls = RX12 ∧ yX12_later.cls ≠ "java/lang/invoke/MethodHandle" ∧ yX12_later.cls ≠ "java/lang/invoke/VarHandle" ∧ (parseMethodDescriptor yX12_later.desc).map (fun d => d.parameters.length) = some 1 := by decide +kernel
set_option maxRecDepth 100000 in
theorem G_later : GoodIn wsM (wsV RX12 453 RX12 yX12_later (.code yX12_later cX12_later 2 none :: wsM)) := gV 346 rfl rfl rfl rfl
theorem E_leave : yX12_leave.cls = RX12 ∧ yX12_leave.cls ≠ "java/lang/invoke/MethodHandle" ∧ yX12_leave.cls ≠ "java/lang/invoke/VarHandle" ∧ (parseMethodDescriptor yX12_leave.desc).map (fun d => d.parameters.length) = some 1 := by decide +kernel
set_option maxRecDepth 100000 in
theorem G_leave : GoodIn wsM (wsV RX12 767 RX12 yX12_leave (.code yX12_leave cX12_leave 2 none :: wsM)) := gV 350 rfl rfl rfl rfl
theorem E_lengthOf : yX12_lengthOf.cls = RX12 ∧ yX12_lengthOf.cls ≠ "java/lang/invoke/MethodHandle" ∧ yX12_lengthOf.cls ≠ "java/lang/invoke/VarHandle" ∧ (parseMethodDescriptor yX12_lengthOf.desc).map (fun d => d.parameters.length) = some 1 := by decide +kernel
set_option maxRecDepth 100000 in
theorem G_lengthOf : GoodIn wsM (wsV RX12 529 RX12 yX12_lengthOf (.code yX12_lengthOf cX12_lengthOf 4 (some .int) :: wsM)) := gV 354 rfl rfl rfl rfl
theorem E_list1 : yX12_list1.cls = RX12 ∧ yX12_list1.cls ≠ "java/lang/invoke/MethodHandle" ∧ yX12_list1.cls ≠ "java/lang/invoke/VarHandle" ∧ (parseMethodDescriptor yX12_list1.desc).map (fun d => d.parameters.length) = some 1 := by decide +kernel
set_option maxRecDepth 100000 in
theorem G_list1 : GoodIn wsM (wsV RX12 356 RX12 yX12_list1 (.code yX12_list1 cX12_list1 2 (some .int) :: wsM)) := gV 358 rfl rfl rfl rfl
theorem E_list2 : yX12_list2.cls = RX12 ∧ yX12_list2.cls ≠ "java/lang/invoke/MethodHandle" ∧ yX12_list2.cls ≠ "java/lang/invoke/VarHandle" ∧ (parseMethodDescriptor yX12_list2.desc).map (fun d => d.parameters.length) = some 2 := by decide +kernel
set_option maxRecDepth 100000 in
theorem G_list2 : GoodIn wsM (wsV RX12 359 RX12 yX12_list2 (.code yX12_list2 cX12_list2 3 (some .int) :: wsM)) := gV 362 rfl rfl rfl rfl
theorem E_list3 : yX12_list3.cls = RX12 ∧ yX12_list3.cls ≠ "java/lang/invoke/MethodHandle" ∧ yX12_list3.cls ≠ "java/lang/invoke/VarHandle" ∧ (parseMethodDescriptor yX12_list3.desc).map (fun d => d.parameters.length) = some 3 := by decide +kernel
set_option maxRecDepth 100000 in
theorem G_list3 : GoodIn wsM (wsV RX12 362 RX12 yX12_list3 (.code yX12_list3 cX12_list3 4 (some .int) :: wsM)) := gV 366 rfl rfl rfl rfl
theorem E_lookedUp : yX12_lookedUp.cls = RX12 ∧ yX12_lookedUp.cls ≠ "java/lang/invoke/MethodHandle" ∧ yX12_lookedUp.cls ≠ "java/lang/invoke/VarHandle" ∧ (parseMethodDescriptor yX12_lookedUp.desc).map (fun d => d.parameters.length) = some 2 := by decide +kernel
set_option maxRecDepth 100000 in
theorem G_lookedUp : GoodIn wsM (wsV RX12 640 RX12 yX12_lookedUp (.code yX12_lookedUp cX12_lookedUp 6 (some .int) :: wsM)) := gV 370 rfl rfl rfl rfl
theorem E_made : yX12_made.cls = RX12 ∧ yX12_made.cls ≠ "java/lang/invoke/MethodHandle" ∧ yX12_made.cls ≠ "java/lang/invoke/VarHandle" ∧ (parseMethodDescriptor yX12_made.desc).map (fun d => d.parameters.length) = some 4 := by decide +kernel
set_option maxRecDepth 100000 in
theorem G_made : GoodIn wsM (wsV RX12 538 RX12 yX12_made (.code yX12_made cX12_made 7 (some .int) :: wsM)) := gV 374 rfl rfl rfl rfl
theorem E_made2 : yX12_made2.cls = RX12 ∧ yX12_made2.cls ≠ "java/lang/invoke/MethodHandle" ∧ yX12_made2.cls ≠ "java/lang/invoke/VarHandle" ∧ (parseMethodDescriptor yX12_made2.desc).map (fun d => d.parameters.length) = some 3 := by decide +kernel
set_option maxRecDepth 100000 in
theorem G_made2 : GoodIn wsM (wsV RX12 693 RX12 yX12_made2 (.code yX12_made2 cX12_made2 4 (some .int) :: wsM)) := gV 378 rfl rfl rfl rfl
theorem E_manyOf : yX12_manyOf.cls = RX12 ∧ yX12_manyOf.cls ≠ "java/lang/invoke/MethodHandle" ∧ yX12_manyOf.cls ≠ "java/lang/invoke/VarHandle" ∧ (parseMethodDescriptor yX12_manyOf.desc).map (fun d => d.parameters.length) = some 1 := by decide +kernel
set_option maxRecDepth 100000 in
theorem G_manyOf : GoodIn wsM (wsV RX12 532 RX12 yX12_manyOf (.code yX12_manyOf cX12_manyOf 2 (some .int) :: wsM)) := gV 382 rfl rfl rfl rfl
theorem E_matches : yX12_matches.cls = RX12 ∧ yX12_matches.cls ≠ "java/lang/invoke/MethodHandle" ∧ yX12_matches.cls ≠ "java/lang/invoke/VarHandle" ∧ (parseMethodDescriptor yX12_matches.desc).map (fun d => d.parameters.length) = some 4 := by decide +kernel
set_option maxRecDepth 100000 in
theorem G_matches : GoodIn wsM (wsV RX12 706 RX12 yX12_matches (.code yX12_matches cX12_matches 10 (some .boolean) :: wsM)) := gV 386 rfl rfl rfl rfl
theorem E_mayBegin : yX12_mayBegin.cls = RX12 ∧ yX12_mayBegin.cls ≠ "java/lang/invoke/MethodHandle" ∧ yX12_mayBegin.cls ≠ "java/lang/invoke/VarHandle" ∧ (parseMethodDescriptor yX12_mayBegin.desc).map (fun d => d.parameters.length) = some 0 := by decide +kernel
set_option maxRecDepth 100000 in
theorem G_mayBegin : GoodIn wsM (wsV RX12 406 RX12 yX12_mayBegin (.code yX12_mayBegin cX12_mayBegin 1 (some .boolean) :: wsM)) := gV 390 rfl rfl rfl rfl
theorem E_measureRows : yX12_measureRows.cls = RX12 ∧ yX12_measureRows.cls ≠ "java/lang/invoke/MethodHandle" ∧ yX12_measureRows.cls ≠ "java/lang/invoke/VarHandle" ∧ (parseMethodDescriptor yX12_measureRows.desc).map (fun d => d.parameters.length) = some 3 := by decide +kernel
set_option maxRecDepth 100000 in
theorem G_measureRows : GoodIn wsM (wsV RX12 830 RX12 yX12_measureRows (.code yX12_measureRows cX12_measureRows 9 none :: wsM)) := gV 394 rfl rfl rfl rfl
theorem E_natural : yX12_natural.cls = RX12 ∧ yX12_natural.cls ≠ "java/lang/invoke/MethodHandle" ∧ yX12_natural.cls ≠ "java/lang/invoke/VarHandle" ∧ (parseMethodDescriptor yX12_natural.desc).map (fun d => d.parameters.length) = some 1 := by decide +kernel
set_option maxRecDepth 100000 in
theorem G_natural : GoodIn wsM (wsV RX12 402 RX12 yX12_natural (.code yX12_natural cX12_natural 5 (some .int) :: wsM)) := gV 398 rfl rfl rfl rfl
theorem E_nextHypothesis : yX12_nextHypothesis.cls = RX12 ∧ yX12_nextHypothesis.cls ≠ "java/lang/invoke/MethodHandle" ∧ yX12_nextHypothesis.cls ≠ "java/lang/invoke/VarHandle" ∧ (parseMethodDescriptor yX12_nextHypothesis.desc).map (fun d => d.parameters.length) = some 1 := by decide +kernel
set_option maxRecDepth 100000 in
theorem G_nextHypothesis : GoodIn wsM (wsV RX12 669 RX12 yX12_nextHypothesis (.code yX12_nextHypothesis cX12_nextHypothesis 4 none :: wsM)) := gV 402 rfl rfl rfl rfl
theorem E_nextTerm : yX12_nextTerm.cls = RX12 ∧ yX12_nextTerm.cls ≠ "java/lang/invoke/MethodHandle" ∧ yX12_nextTerm.cls ≠ "java/lang/invoke/VarHandle" ∧ (parseMethodDescriptor yX12_nextTerm.desc).map (fun d => d.parameters.length) = some 1 := by decide +kernel
set_option maxRecDepth 100000 in
theorem G_nextTerm : GoodIn wsM (wsV RX12 650 RX12 yX12_nextTerm (.code yX12_nextTerm cX12_nextTerm 4 none :: wsM)) := gV 406 rfl rfl rfl rfl
theorem E_notOf : yX12_notOf.cls = RX12 ∧ yX12_notOf.cls ≠ "java/lang/invoke/MethodHandle" ∧ yX12_notOf.cls ≠ "java/lang/invoke/VarHandle" ∧ (parseMethodDescriptor yX12_notOf.desc).map (fun d => d.parameters.length) = some 1 := by decide +kernel
set_option maxRecDepth 100000 in
theorem G_notOf : GoodIn wsM (wsV RX12 659 RX12 yX12_notOf (.code yX12_notOf cX12_notOf 2 (some .int) :: wsM)) := gV 410 rfl rfl rfl rfl
theorem E_nth : yX12_nth.cls = RX12 ∧ yX12_nth.cls ≠ "java/lang/invoke/MethodHandle" ∧ yX12_nth.cls ≠ "java/lang/invoke/VarHandle" ∧ (parseMethodDescriptor yX12_nth.desc).map (fun d => d.parameters.length) = some 2 := by decide +kernel
set_option maxRecDepth 100000 in
theorem G_nth : GoodIn wsM (wsV RX12 471 RX12 yX12_nth (.code yX12_nth cX12_nth 5 (some .int) :: wsM)) := gV 414 rfl rfl rfl rfl
theorem E_numberOf : yX12_numberOf.cls = RX12 ∧ yX12_numberOf.cls ≠ "java/lang/invoke/MethodHandle" ∧ yX12_numberOf.cls ≠ "java/lang/invoke/VarHandle" ∧ (parseMethodDescriptor yX12_numberOf.desc).map (fun d => d.parameters.length) = some 1 := by decide +kernel
set_option maxRecDepth 100000 in
theorem G_numberOf : GoodIn wsM (wsV RX12 589 RX12 yX12_numberOf (.code yX12_numberOf cX12_numberOf 2 (some .long) :: wsM)) := gV 418 rfl rfl rfl rfl
theorem E_openCall : yX12_openCall.cls = RX12 ∧ yX12_openCall.cls ≠ "java/lang/invoke/MethodHandle" ∧ yX12_openCall.cls ≠ "java/lang/invoke/VarHandle" ∧ (parseMethodDescriptor yX12_openCall.desc).map (fun d => d.parameters.length) = some 1 := by decide +kernel
set_option maxRecDepth 100000 in
theorem G_openCall : GoodIn wsM (wsV RX12 501 RX12 yX12_openCall (.code yX12_openCall cX12_openCall 2 none :: wsM)) := gV 422 rfl rfl rfl rfl
theorem E_pair : yX12_pair.cls = RX12 ∧ yX12_pair.cls ≠ "java/lang/invoke/MethodHandle" ∧ yX12_pair.cls ≠ "java/lang/invoke/VarHandle" ∧ (parseMethodDescriptor yX12_pair.desc).map (fun d => d.parameters.length) = some 2 := by decide +kernel
set_option maxRecDepth 100000 in
theorem G_pair : GoodIn wsM (wsV RX12 353 RX12 yX12_pair (.code yX12_pair cX12_pair 5 (some .int) :: wsM)) := gV 426 rfl rfl rfl rfl
theorem E_partsFrom : yX12_partsFrom.cls = RX12 ∧ yX12_partsFrom.cls ≠ "java/lang/invoke/MethodHandle" ∧ yX12_partsFrom.cls ≠ "java/lang/invoke/VarHandle" ∧ (parseMethodDescriptor yX12_partsFrom.desc).map (fun d => d.parameters.length) = some 1 := by decide +kernel
set_option maxRecDepth 100000 in
theorem G_partsFrom : GoodIn wsM (wsS RX12 935 yX12_partsFrom (.code yX12_partsFrom cX12_partsFrom 1 (some .int) :: wsM)) := gT 430 rfl rfl rfl
theorem E_partsTo : yX12_partsTo.cls = RX12 ∧ yX12_partsTo.cls ≠ "java/lang/invoke/MethodHandle" ∧ yX12_partsTo.cls ≠ "java/lang/invoke/VarHandle" ∧ (parseMethodDescriptor yX12_partsTo.desc).map (fun d => d.parameters.length) = some 1 := by decide +kernel
set_option maxRecDepth 100000 in
theorem G_partsTo : GoodIn wsM (wsV RX12 962 RX12 yX12_partsTo (.code yX12_partsTo cX12_partsTo 2 (some .int) :: wsM)) := gV 433 rfl rfl rfl rfl
theorem E_passOn : yX12_passOn.cls = RX12 ∧ yX12_passOn.cls ≠ "java/lang/invoke/MethodHandle" ∧ yX12_passOn.cls ≠ "java/lang/invoke/VarHandle" ∧ (parseMethodDescriptor yX12_passOn.desc).map (fun d => d.parameters.length) = some 1 := by decide +kernel
set_option maxRecDepth 100000 in
theorem G_passOn : GoodIn wsM (wsV RX12 644 RX12 yX12_passOn (.code yX12_passOn cX12_passOn 3 none :: wsM)) := gV 437 rfl rfl rfl rfl
theorem E_pathsOf : yX12_pathsOf.cls = RX12 ∧ yX12_pathsOf.cls ≠ "java/lang/invoke/MethodHandle" ∧ yX12_pathsOf.cls ≠ "java/lang/invoke/VarHandle" ∧ (parseMethodDescriptor yX12_pathsOf.desc).map (fun d => d.parameters.length) = some 1 := by decide +kernel
set_option maxRecDepth 100000 in
theorem G_pathsOf : GoodIn wsM (wsV RX12 821 RX12 yX12_pathsOf (.code yX12_pathsOf cX12_pathsOf 7 none :: wsM)) := gV 441 rfl rfl rfl rfl
theorem E_plain : yX12_plain.cls = RX12 ∧ yX12_plain.cls ≠ "java/lang/invoke/MethodHandle" ∧ yX12_plain.cls ≠ "java/lang/invoke/VarHandle" ∧ (parseMethodDescriptor yX12_plain.desc).map (fun d => d.parameters.length) = some 1 := by decide +kernel
set_option maxRecDepth 100000 in
theorem G_plain : GoodIn wsM (wsV RX12 690 RX12 yX12_plain (.code yX12_plain cX12_plain 7 (some .int) :: wsM)) := gV 445 rfl rfl rfl rfl
theorem E_pour : yX12_pour.cls = RX12 ∧ yX12_pour.cls ≠ "java/lang/invoke/MethodHandle" ∧ yX12_pour.cls ≠ "java/lang/invoke/VarHandle" ∧ (parseMethodDescriptor yX12_pour.desc).map (fun d => d.parameters.length) = some 2 := by decide +kernel
set_option maxRecDepth 100000 in
theorem G_pour : GoodIn wsM (wsV RX12 944 RX12 yX12_pour (.code yX12_pour cX12_pour 4 none :: wsM)) := gV 449 rfl rfl rfl rfl
theorem E_prove : yX12_prove.cls = RX12 ∧ yX12_prove.cls ≠ "java/lang/invoke/MethodHandle" ∧ yX12_prove.cls ≠ "java/lang/invoke/VarHandle" ∧ (parseMethodDescriptor yX12_prove.desc).map (fun d => d.parameters.length) = some 0 := by decide +kernel
set_option maxRecDepth 100000 in
theorem G_prove : GoodIn wsM (wsV RX12 833 RX12 yX12_prove (.code yX12_prove cX12_prove 2 (some .boolean) :: wsM)) := gV 453 rfl rfl rfl rfl
theorem E_proveBy : yX12_proveBy.cls = RX12 ∧ yX12_proveBy.cls ≠ "java/lang/invoke/MethodHandle" ∧ yX12_proveBy.cls ≠ "java/lang/invoke/VarHandle" ∧ (parseMethodDescriptor yX12_proveBy.desc).map (fun d => d.parameters.length) = some 1 := by decide +kernel
set_option maxRecDepth 100000 in
theorem G_proveBy : GoodIn wsM (wsV RX12 905 RX12 yX12_proveBy (.code yX12_proveBy cX12_proveBy 5 (some .boolean) :: wsM)) := gV 457 rfl rfl rfl rfl
theorem E_push : yX12_push.cls = RX12 ∧ yX12_push.cls ≠ "java/lang/invoke/MethodHandle" ∧ yX12_push.cls ≠ "java/lang/invoke/VarHandle" ∧ (parseMethodDescriptor yX12_push.desc).map (fun d => d.parameters.length) = some 1 := by decide +kernel
set_option maxRecDepth 100000 in
theorem G_push : GoodIn wsM (wsV RX12 662 RX12 yX12_push (.code yX12_push cX12_push 2 none :: wsM)) := gV 461 rfl rfl rfl rfl
theorem E_put : yX12_put.cls = RX12 ∧ yX12_put.cls ≠ "java/lang/invoke/MethodHandle" ∧ yX12_put.cls ≠ "java/lang/invoke/VarHandle" ∧ (parseMethodDescriptor yX12_put.desc).map (fun d => d.parameters.length) = some 1 := by decide +kernel
set_option maxRecDepth 100000 in
theorem G_put : GoodIn wsM (wsV RX12 739 RX12 yX12_put (.code yX12_put cX12_put 3 none :: wsM)) := gV 465 rfl rfl rfl rfl
theorem E_readWord : yX12_readWord.cls = RX12 ∧ yX12_readWord.cls ≠ "java/lang/invoke/MethodHandle" ∧ yX12_readWord.cls ≠ "java/lang/invoke/VarHandle" ∧ (parseMethodDescriptor yX12_readWord.desc).map (fun d => d.parameters.length) = some 1 := by decide +kernel
set_option maxRecDepth 100000 in
theorem G_readWord : GoodIn wsM (wsV RX12 432 RX12 yX12_readWord (.code yX12_readWord cX12_readWord 6 none :: wsM)) := gV 469 rfl rfl rfl rfl
theorem E_reads : yX12_reads.cls = RX12 ∧ yX12_reads.cls ≠ "java/lang/invoke/MethodHandle" ∧ yX12_reads.cls ≠ "java/lang/invoke/VarHandle" ∧ (parseMethodDescriptor yX12_reads.desc).map (fun d => d.parameters.length) = some 0 := by decide +kernel
set_option maxRecDepth 100000 in
theorem G_reads : GoodIn wsM (wsV RX12 998 RX12 yX12_reads (.code yX12_reads cX12_reads 2 (some .boolean) :: wsM)) := gV 473 rfl rfl rfl rfl
theorem E_removeAt : yX12_removeAt.cls = RX12 ∧ yX12_removeAt.cls ≠ "java/lang/invoke/MethodHandle" ∧ yX12_removeAt.cls ≠ "java/lang/invoke/VarHandle" ∧ (parseMethodDescriptor yX12_removeAt.desc).map (fun d => d.parameters.length) = some 2 := by decide +kernel
set_option maxRecDepth 100000 in
theorem G_removeAt : GoodIn wsM (wsV RX12 736 RX12 yX12_removeAt (.code yX12_removeAt cX12_removeAt 4 none :: wsM)) := gV 477 rfl rfl rfl rfl
theorem E_replaced : yX12_replaced.cls = RX12 ∧ yX12_replaced.cls ≠ "java/lang/invoke/MethodHandle" ∧ yX12_replaced.cls ≠ "java/lang/invoke/VarHandle" ∧ (parseMethodDescriptor yX12_replaced.desc).map (fun d => d.parameters.length) = some 1 := by decide +kernel
set_option maxRecDepth 100000 in
theorem G_replaced : GoodIn wsM (wsV RX12 956 RX12 yX12_replaced (.code yX12_replaced cX12_replaced 5 (some .boolean) :: wsM)) := gV 481 rfl rfl rfl rfl
theorem E_rewritten : yX12_rewritten.cls = RX12 ∧ yX12_rewritten.cls ≠ "java/lang/invoke/MethodHandle" ∧ yX12_rewritten.cls ≠ "java/lang/invoke/VarHandle" ∧ (parseMethodDescriptor yX12_rewritten.desc).map (fun d => d.parameters.length) = some 2 := by decide +kernel
set_option maxRecDepth 100000 in
theorem G_rewritten : GoodIn wsM (wsV RX12 754 RX12 yX12_rewritten (.code yX12_rewritten cX12_rewritten 4 (some .int) :: wsM)) := gV 485 rfl rfl rfl rfl
theorem E_round : yX12_round.cls = RX12 ∧ yX12_round.cls ≠ "java/lang/invoke/MethodHandle" ∧ yX12_round.cls ≠ "java/lang/invoke/VarHandle" ∧ (parseMethodDescriptor yX12_round.desc).map (fun d => d.parameters.length) = some 1 := by decide +kernel
set_option maxRecDepth 100000 in
theorem G_round : GoodIn wsM (wsV RX12 776 RX12 yX12_round (.code yX12_round cX12_round 7 none :: wsM)) := gV 489 rfl rfl rfl rfl
theorem E_row : yX12_row.cls = RX12 ∧ yX12_row.cls ≠ "java/lang/invoke/MethodHandle" ∧ yX12_row.cls ≠ "java/lang/invoke/VarHandle" ∧ (parseMethodDescriptor yX12_row.desc).map (fun d => d.parameters.length) = some 1 := by decide +kernel
set_option maxRecDepth 100000 in
theorem G_row : GoodIn wsM (wsV RX12 742 RX12 yX12_row (.code yX12_row cX12_row 3 (some .int) :: wsM)) := gV 493 rfl rfl rfl rfl
theorem E_rowList : yX12_rowList.cls = RX12 ∧ yX12_rowList.cls ≠ "java/lang/invoke/MethodHandle" ∧ yX12_rowList.cls ≠ "java/lang/invoke/VarHandle" ∧ (parseMethodDescriptor yX12_rowList.desc).map (fun d => d.parameters.length) = some 1 := by decide +kernel
set_option maxRecDepth 100000 in
theorem G_rowList : GoodIn wsM (wsV RX12 782 RX12 yX12_rowList (.code yX12_rowList cX12_rowList 4 (some .int) :: wsM)) := gV 497 rfl rfl rfl rfl
theorem E_ruleOf : yX12_ruleOf.cls = RX12 ∧ yX12_ruleOf.cls ≠ "java/lang/invoke/MethodHandle" ∧ yX12_ruleOf.cls ≠ "java/lang/invoke/VarHandle" ∧ (parseMethodDescriptor yX12_ruleOf.desc).map (fun d => d.parameters.length) = some 2 := by decide +kernel
set_option maxRecDepth 100000 in
theorem G_ruleOf : GoodIn wsM (wsV RX12 911 RX12 yX12_ruleOf (.code yX12_ruleOf cX12_ruleOf 10 none :: wsM)) := gV 501 rfl rfl rfl rfl
theorem E_simplify : yX12_simplify.cls = RX12 ∧ yX12_simplify.cls ≠ "java/lang/invoke/MethodHandle" ∧ yX12_simplify.cls ≠ "java/lang/invoke/VarHandle" ∧ (parseMethodDescriptor yX12_simplify.desc).map (fun d => d.parameters.length) = some 1 := by decide +kernel
set_option maxRecDepth 100000 in
theorem G_simplify : GoodIn wsM (wsV RX12 977 RX12 yX12_simplify (.code yX12_simplify cX12_simplify 4 (some .int) :: wsM)) := gV 505 rfl rfl rfl rfl
theorem E_sizeOf : yX12_sizeOf.cls = RX12 ∧ yX12_sizeOf.cls ≠ "java/lang/invoke/MethodHandle" ∧ yX12_sizeOf.cls ≠ "java/lang/invoke/VarHandle" ∧ (parseMethodDescriptor yX12_sizeOf.desc).map (fun d => d.parameters.length) = some 1 := by decide +kernel
set_option maxRecDepth 100000 in
theorem G_sizeOf : GoodIn wsM (wsV RX12 489 RX12 yX12_sizeOf (.code yX12_sizeOf cX12_sizeOf 2 (some .int) :: wsM)) := gV 509 rfl rfl rfl rfl
theorem E_skip : yX12_skip.cls = RX12 ∧ yX12_skip.cls ≠ "java/lang/invoke/MethodHandle" ∧ yX12_skip.cls ≠ "java/lang/invoke/VarHandle" ∧ (parseMethodDescriptor yX12_skip.desc).map (fun d => d.parameters.length) = some 0 := by decide +kernel
set_option maxRecDepth 100000 in
theorem G_skip : GoodIn wsM (wsV RX12 429 RX12 yX12_skip (.code yX12_skip cX12_skip 2 none :: wsM)) := gV 513 rfl rfl rfl rfl
theorem E_slot : yX12_slot.cls = RX12 ∧ yX12_slot.cls ≠ "java/lang/invoke/MethodHandle" ∧ yX12_slot.cls ≠ "java/lang/invoke/VarHandle" ∧ (parseMethodDescriptor yX12_slot.desc).map (fun d => d.parameters.length) = some 2 := by decide +kernel
set_option maxRecDepth 100000 in
theorem G_slot : GoodIn wsM (wsS RX12 324 yX12_slot (.code yX12_slot cX12_slot 2 (some .int) :: wsM)) := gT 517 rfl rfl rfl
theorem E_slotOf : yX12_slotOf.cls = RX12 ∧ yX12_slotOf.cls ≠ "java/lang/invoke/MethodHandle" ∧ yX12_slotOf.cls ≠ "java/lang/invoke/VarHandle" ∧ (parseMethodDescriptor yX12_slotOf.desc).map (fun d => d.parameters.length) = some 1 := by decide +kernel
set_option maxRecDepth 100000 in
theorem G_slotOf : GoodIn wsM (wsV RX12 349 RX12 yX12_slotOf (.code yX12_slotOf cX12_slotOf 2 (some .int) :: wsM)) := gV 520 rfl rfl rfl rfl
theorem E_spell : yX12_spell.cls = RX12 ∧ yX12_spell.cls ≠ "java/lang/invoke/MethodHandle" ∧ yX12_spell.cls ≠ "java/lang/invoke/VarHandle" ∧ (parseMethodDescriptor yX12_spell.desc).map (fun d => d.parameters.length) = some 1 := by decide +kernel
set_option maxRecDepth 100000 in
theorem G_spell : GoodIn wsM (wsV RX12 312 RX12 yX12_spell (.code yX12_spell cX12_spell 2 none :: wsM)) := gV 524 rfl rfl rfl rfl
theorem E_spelled : yX12_spelled.cls = RX12 ∧ yX12_spelled.cls ≠ "java/lang/invoke/MethodHandle" ∧ yX12_spelled.cls ≠ "java/lang/invoke/VarHandle" ∧ (parseMethodDescriptor yX12_spelled.desc).map (fun d => d.parameters.length) = some 3 := by decide +kernel
set_option maxRecDepth 100000 in
theorem G_spelled : GoodIn wsM (wsV RX12 328 RX12 yX12_spelled (.code yX12_spelled cX12_spelled 6 (some .int) :: wsM)) := gV 528 rfl rfl rfl rfl
theorem E_split : yX12_split.cls = RX12 ∧ yX12_split.cls ≠ "java/lang/invoke/MethodHandle" ∧ yX12_split.cls ≠ "java/lang/invoke/VarHandle" ∧ (parseMethodDescriptor yX12_split.desc).map (fun d => d.parameters.length) = some 3 := by decide +kernel
set_option maxRecDepth 100000 in
theorem G_split : GoodIn wsM (wsV RX12 760 RX12 yX12_split (.code yX12_split cX12_split 11 none :: wsM)) := gV 532 rfl rfl rfl rfl
theorem E_splitRow : yX12_splitRow.cls = RX12 ∧ yX12_splitRow.cls ≠ "java/lang/invoke/MethodHandle" ∧ yX12_splitRow.cls ≠ "java/lang/invoke/VarHandle" ∧ (parseMethodDescriptor yX12_splitRow.desc).map (fun d => d.parameters.length) = some 4 := by decide +kernel
set_option maxRecDepth 100000 in
theorem G_splitRow : GoodIn wsM (wsV RX12 745 RX12 yX12_splitRow (.code yX12_splitRow cX12_splitRow 6 (some .int) :: wsM)) := gV 536 rfl rfl rfl rfl
theorem E_splits : yX12_splits.cls = RX12 ∧ yX12_splits.cls ≠ "java/lang/invoke/MethodHandle" ∧ yX12_splits.cls ≠ "java/lang/invoke/VarHandle" ∧ (parseMethodDescriptor yX12_splits.desc).map (fun d => d.parameters.length) = some 1 := by decide +kernel
set_option maxRecDepth 100000 in
theorem G_splits : GoodIn wsM (wsV RX12 757 RX12 yX12_splits (.code yX12_splits cX12_splits 2 (some .boolean) :: wsM)) := gV 540 rfl rfl rfl rfl
theorem E_startJob : yX12_startJob.cls = RX12 ∧ yX12_startJob.cls ≠ "java/lang/invoke/MethodHandle" ∧ yX12_startJob.cls ≠ "java/lang/invoke/VarHandle" ∧ (parseMethodDescriptor yX12_startJob.desc).map (fun d => d.parameters.length) = some 1 := by decide +kernel
set_option maxRecDepth 100000 in
theorem G_startJob : GoodIn wsM (wsV RX12 724 RX12 yX12_startJob (.code yX12_startJob cX12_startJob 4 none :: wsM)) := gV 544 rfl rfl rfl rfl
theorem E_substituted : yX12_substituted.cls = RX12 ∧ yX12_substituted.cls ≠ "java/lang/invoke/MethodHandle" ∧ yX12_substituted.cls ≠ "java/lang/invoke/VarHandle" ∧ (parseMethodDescriptor yX12_substituted.desc).map (fun d => d.parameters.length) = some 1 := by decide +kernel
set_option maxRecDepth 100000 in
theorem G_substituted : GoodIn wsM (wsV RX12 507 RX12 yX12_substituted (.code yX12_substituted cX12_substituted 3 (some .int) :: wsM)) := gV 548 rfl rfl rfl rfl
theorem E_symbol : yX12_symbol.cls = RX12 ∧ yX12_symbol.cls ≠ "java/lang/invoke/MethodHandle" ∧ yX12_symbol.cls ≠ "java/lang/invoke/VarHandle" ∧ (parseMethodDescriptor yX12_symbol.desc).map (fun d => d.parameters.length) = some 0 := by decide +kernel
set_option maxRecDepth 100000 in
theorem G_symbol : GoodIn wsM (wsV RX12 316 RX12 yX12_symbol (.code yX12_symbol cX12_symbol 3 (some .int) :: wsM)) := gV 552 rfl rfl rfl rfl
theorem E_take : yX12_take.cls = RX12 ∧ yX12_take.cls ≠ "java/lang/invoke/MethodHandle" ∧ yX12_take.cls ≠ "java/lang/invoke/VarHandle" ∧ (parseMethodDescriptor yX12_take.desc).map (fun d => d.parameters.length) = some 1 := by decide +kernel
set_option maxRecDepth 100000 in
theorem G_take : GoodIn wsM (wsV RX12 842 RX12 yX12_take (.code yX12_take cX12_take 2 none :: wsM)) := gV 556 rfl rfl rfl rfl
theorem E_takePairs : yX12_takePairs.cls = RX12 ∧ yX12_takePairs.cls ≠ "java/lang/invoke/MethodHandle" ∧ yX12_takePairs.cls ≠ "java/lang/invoke/VarHandle" ∧ (parseMethodDescriptor yX12_takePairs.desc).map (fun d => d.parameters.length) = some 1 := by decide +kernel
set_option maxRecDepth 100000 in
theorem G_takePairs : GoodIn wsM (wsV RX12 709 RX12 yX12_takePairs (.code yX12_takePairs cX12_takePairs 3 none :: wsM)) := gV 560 rfl rfl rfl rfl
theorem E_takeParameters : yX12_takeParameters.cls = RX12 ∧ yX12_takeParameters.cls ≠ "java/lang/invoke/MethodHandle" ∧ yX12_takeParameters.cls ≠ "java/lang/invoke/VarHandle" ∧ (parseMethodDescriptor yX12_takeParameters.desc).map (fun d => d.parameters.length) = some 2 := by decide +kernel
set_option maxRecDepth 100000 in
theorem G_takeParameters : GoodIn wsM (wsV RX12 893 RX12 yX12_takeParameters (.code yX12_takeParameters cX12_takeParameters 4 none :: wsM)) := gV 564 rfl rfl rfl rfl
theorem E_takeResult : yX12_takeResult.cls = RX12 ∧ yX12_takeResult.cls ≠ "java/lang/invoke/MethodHandle" ∧ yX12_takeResult.cls ≠ "java/lang/invoke/VarHandle" ∧ (parseMethodDescriptor yX12_takeResult.desc).map (fun d => d.parameters.length) = some 1 := by decide +kernel
set_option maxRecDepth 100000 in
theorem G_takeResult : GoodIn wsM (wsV RX12 721 RX12 yX12_takeResult (.code yX12_takeResult cX12_takeResult 3 none :: wsM)) := gV 568 rfl rfl rfl rfl
theorem E_takeValue : yX12_takeValue.cls = RX12 ∧ yX12_takeValue.cls ≠ "java/lang/invoke/MethodHandle" ∧ yX12_takeValue.cls ≠ "java/lang/invoke/VarHandle" ∧ (parseMethodDescriptor yX12_takeValue.desc).map (fun d => d.parameters.length) = some 1 := by decide +kernel
set_option maxRecDepth 100000 in
theorem G_takeValue : GoodIn wsM (wsV RX12 602 RX12 yX12_takeValue (.code yX12_takeValue cX12_takeValue 3 none :: wsM)) := gV 572 rfl rfl rfl rfl
theorem E_tellAtom : yX12_tellAtom.cls = RX12 ∧ yX12_tellAtom.cls ≠ "java/lang/invoke/MethodHandle" ∧ yX12_tellAtom.cls ≠ "java/lang/invoke/VarHandle" ∧ (parseMethodDescriptor yX12_tellAtom.desc).map (fun d => d.parameters.length) = some 1 := by decide +kernel
set_option maxRecDepth 100000 in
theorem G_tellAtom : GoodIn wsM (wsV RX12 459 RX12 yX12_tellAtom (.code yX12_tellAtom cX12_tellAtom 4 none :: wsM)) := gV 576 rfl rfl rfl rfl
theorem E_tellLeft : yX12_tellLeft.cls = RX12 ∧ yX12_tellLeft.cls ≠ "java/lang/invoke/MethodHandle" ∧ yX12_tellLeft.cls ≠ "java/lang/invoke/VarHandle" ∧ (parseMethodDescriptor yX12_tellLeft.desc).map (fun d => d.parameters.length) = some 0 := by decide +kernel
set_option maxRecDepth 100000 in
theorem G_tellLeft : GoodIn wsM (wsV RX12 836 RX12 yX12_tellLeft (.code yX12_tellLeft cX12_tellLeft 3 none :: wsM)) := gV 580 rfl rfl rfl rfl
theorem E_tellLetter : yX12_tellLetter.cls = RX12 ∧ yX12_tellLetter.cls ≠ "java/lang/invoke/MethodHandle" ∧ yX12_tellLetter.cls ≠ "java/lang/invoke/VarHandle" ∧ (parseMethodDescriptor yX12_tellLetter.desc).map (fun d => d.parameters.length) = some 1 := by decide +kernel
set_option maxRecDepth 100000 in
theorem G_tellLetter : GoodIn wsM (wsV RX12 447 RX12 yX12_tellLetter (.code yX12_tellLetter cX12_tellLetter 2 none :: wsM)) := gV 584 rfl rfl rfl rfl
theorem E_tellObject : yX12_tellObject.cls = RX12 ∧ yX12_tellObject.cls ≠ "java/lang/invoke/MethodHandle" ∧ yX12_tellObject.cls ≠ "java/lang/invoke/VarHandle" ∧ (parseMethodDescriptor yX12_tellObject.desc).map (fun d => d.parameters.length) = some 1 := by decide +kernel
set_option maxRecDepth 100000 in
theorem G_tellObject : GoodIn wsM (wsV RX12 465 RX12 yX12_tellObject (.code yX12_tellObject cX12_tellObject 4 none :: wsM)) := gV 588 rfl rfl rfl rfl
theorem E_tellOut : yX12_tellOut.cls = RX12 ∧ yX12_tellOut.cls ≠ "java/lang/invoke/MethodHandle" ∧ yX12_tellOut.cls ≠ "java/lang/invoke/VarHandle" ∧ (parseMethodDescriptor yX12_tellOut.desc).map (fun d => d.parameters.length) = some 1 := by decide +kernel
set_option maxRecDepth 100000 in
theorem G_tellOut : GoodIn wsM (wsV RX12 785 RX12 yX12_tellOut (.code yX12_tellOut cX12_tellOut 2 none :: wsM)) := gV 592 rfl rfl rfl rfl
theorem E_term : yX12_term.cls = RX12 ∧ yX12_term.cls ≠ "java/lang/invoke/MethodHandle" ∧ yX12_term.cls ≠ "java/lang/invoke/VarHandle" ∧ (parseMethodDescriptor yX12_term.desc).map (fun d => d.parameters.length) = some 2 := by decide +kernel
set_option maxRecDepth 100000 in
theorem G_term : GoodIn wsM (wsV RX12 592 RX12 yX12_term (.code yX12_term cX12_term 3 (some .int) :: wsM)) := gV 596 rfl rfl rfl rfl
theorem E_termOf : yX12_termOf.cls = RX12 ∧ yX12_termOf.cls ≠ "java/lang/invoke/MethodHandle" ∧ yX12_termOf.cls ≠ "java/lang/invoke/VarHandle" ∧ (parseMethodDescriptor yX12_termOf.desc).map (fun d => d.parameters.length) = some 1 := by decide +kernel
set_option maxRecDepth 100000 in
theorem G_termOf : GoodIn wsM (wsV RX12 815 RX12 yX12_termOf (.code yX12_termOf cX12_termOf 7 (some .int) :: wsM)) := gV 600 rfl rfl rfl rfl
theorem E_test : yX12_test.cls = RX12 ∧ yX12_test.cls ≠ "java/lang/invoke/MethodHandle" ∧ yX12_test.cls ≠ "java/lang/invoke/VarHandle" ∧ (parseMethodDescriptor yX12_test.desc).map (fun d => d.parameters.length) = some 1 := by decide +kernel
set_option maxRecDepth 100000 in
theorem G_test : GoodIn wsM (wsV RX12 656 RX12 yX12_test (.code yX12_test cX12_test 4 none :: wsM)) := gV 604 rfl rfl rfl rfl
theorem E_theoremOf : yX12_theoremOf.cls = RX12 ∧ yX12_theoremOf.cls ≠ "java/lang/invoke/MethodHandle" ∧ yX12_theoremOf.cls ≠ "java/lang/invoke/VarHandle" ∧ (parseMethodDescriptor yX12_theoremOf.desc).map (fun d => d.parameters.length) = some 1 := by decide +kernel
set_option maxRecDepth 100000 in
theorem G_theoremOf : GoodIn wsM (wsV RX12 875 RX12 yX12_theoremOf (.code yX12_theoremOf cX12_theoremOf 3 (some .int) :: wsM)) := gV 608 rfl rfl rfl rfl
theorem E_together : yX12_together.cls = RX12 ∧ yX12_together.cls ≠ "java/lang/invoke/MethodHandle" ∧ yX12_together.cls ≠ "java/lang/invoke/VarHandle" ∧ (parseMethodDescriptor yX12_together.desc).map (fun d => d.parameters.length) = some 1 := by decide +kernel
set_option maxRecDepth 100000 in
theorem G_together : GoodIn wsM (wsV RX12 770 RX12 yX12_together (.code yX12_together cX12_together 4 (some .int) :: wsM)) := gV 612 rfl rfl rfl rfl
theorem E_told : yX12_told.cls = RX12 ∧ yX12_told.cls ≠ "java/lang/invoke/MethodHandle" ∧ yX12_told.cls ≠ "java/lang/invoke/VarHandle" ∧ (parseMethodDescriptor yX12_told.desc).map (fun d => d.parameters.length) = some 1 := by decide +kernel
set_option maxRecDepth 100000 in
theorem G_told : GoodIn wsM (wsV RX12 917 RX12 yX12_told (.code yX12_told cX12_told 2 (some .int) :: wsM)) := gV 616 rfl rfl rfl rfl
theorem E_truth : yX12_truth.cls = RX12 ∧ yX12_truth.cls ≠ "java/lang/invoke/MethodHandle" ∧ yX12_truth.cls ≠ "java/lang/invoke/VarHandle" ∧ (parseMethodDescriptor yX12_truth.desc).map (fun d => d.parameters.length) = some 1 := by decide +kernel
set_option maxRecDepth 100000 in
theorem G_truth : GoodIn wsM (wsS RX12 585 yX12_truth (.code yX12_truth cX12_truth 1 (some .int) :: wsM)) := gT 620 rfl rfl rfl
theorem E_tryRules : yX12_tryRules.cls = RX12 ∧ yX12_tryRules.cls ≠ "java/lang/invoke/MethodHandle" ∧ yX12_tryRules.cls ≠ "java/lang/invoke/VarHandle" ∧ (parseMethodDescriptor yX12_tryRules.desc).map (fun d => d.parameters.length) = some 2 := by decide +kernel
set_option maxRecDepth 100000 in
theorem G_tryRules : GoodIn wsM (wsV RX12 672 RX12 yX12_tryRules (.code yX12_tryRules cX12_tryRules 5 none :: wsM)) := gV 623 rfl rfl rfl rfl
theorem E_turn : yX12_turn.cls = RX12 ∧ yX12_turn.cls ≠ "java/lang/invoke/MethodHandle" ∧ yX12_turn.cls ≠ "java/lang/invoke/VarHandle" ∧ (parseMethodDescriptor yX12_turn.desc).map (fun d => d.parameters.length) = some 2 := by decide +kernel
set_option maxRecDepth 100000 in
theorem G_turn : GoodIn wsM (wsV RX12 989 RX12 yX12_turn (.code yX12_turn cX12_turn 4 (some .int) :: wsM)) := gV 627 rfl rfl rfl rfl
theorem E_turningOff : yX12_turningOff.cls = RX12 ∧ yX12_turningOff.cls ≠ "java/lang/invoke/MethodHandle" ∧ yX12_turningOff.cls ≠ "java/lang/invoke/VarHandle" ∧ (parseMethodDescriptor yX12_turningOff.desc).map (fun d => d.parameters.length) = some 1 := by decide +kernel
set_option maxRecDepth 100000 in
theorem G_turningOff : GoodIn wsM (wsV RX12 890 RX12 yX12_turningOff (.code yX12_turningOff cX12_turningOff 5 none :: wsM)) := gV 631 rfl rfl rfl rfl
theorem E_undo : yX12_undo.cls = RX12 ∧ yX12_undo.cls ≠ "java/lang/invoke/MethodHandle" ∧ yX12_undo.cls ≠ "java/lang/invoke/VarHandle" ∧ (parseMethodDescriptor yX12_undo.desc).map (fun d => d.parameters.length) = some 1 := by decide +kernel
set_option maxRecDepth 100000 in
theorem G_undo : GoodIn wsM (wsV RX12 992 RX12 yX12_undo (.code yX12_undo cX12_undo 2 (some .int) :: wsM)) := gV 635 rfl rfl rfl rfl
theorem E_useRows : yX12_useRows.cls = RX12 ∧ yX12_useRows.cls ≠ "java/lang/invoke/MethodHandle" ∧ yX12_useRows.cls ≠ "java/lang/invoke/VarHandle" ∧ (parseMethodDescriptor yX12_useRows.desc).map (fun d => d.parameters.length) = some 0 := by decide +kernel
set_option maxRecDepth 100000 in
theorem G_useRows : GoodIn wsM (wsV RX12 896 RX12 yX12_useRows (.code yX12_useRows cX12_useRows 3 none :: wsM)) := gV 639 rfl rfl rfl rfl
theorem E_using : yX12_using.cls = RX12 ∧ yX12_using.cls ≠ "java/lang/invoke/MethodHandle" ∧ yX12_using.cls ≠ "java/lang/invoke/VarHandle" ∧ (parseMethodDescriptor yX12_using.desc).map (fun d => d.parameters.length) = some 1 := by decide +kernel
set_option maxRecDepth 100000 in
theorem G_using : GoodIn wsM (wsV RX12 887 RX12 yX12_using (.code yX12_using cX12_using 5 none :: wsM)) := gV 643 rfl rfl rfl rfl
theorem E_value : yX12_value.cls = RX12 ∧ yX12_value.cls ≠ "java/lang/invoke/MethodHandle" ∧ yX12_value.cls ≠ "java/lang/invoke/VarHandle" ∧ (parseMethodDescriptor yX12_value.desc).map (fun d => d.parameters.length) = some 1 := by decide +kernel
set_option maxRecDepth 100000 in
theorem G_value : GoodIn wsM (wsV RX12 321 RX12 yX12_value (.code yX12_value cX12_value 2 (some .long) :: wsM)) := gV 647 rfl rfl rfl rfl
theorem E_valueOf : yX12_valueOf.cls = RX12 ∧ yX12_valueOf.cls ≠ "java/lang/invoke/MethodHandle" ∧ yX12_valueOf.cls ≠ "java/lang/invoke/VarHandle" ∧ (parseMethodDescriptor yX12_valueOf.desc).map (fun d => d.parameters.length) = some 1 := by decide +kernel
set_option maxRecDepth 100000 in
theorem G_valueOf : GoodIn wsM (wsV RX12 567 RX12 yX12_valueOf (.code yX12_valueOf cX12_valueOf 2 (some .int) :: wsM)) := gV 651 rfl rfl rfl rfl
theorem E_variablesOf : yX12_variablesOf.cls = RX12 ∧ yX12_variablesOf.cls ≠ "java/lang/invoke/MethodHandle" ∧ yX12_variablesOf.cls ≠ "java/lang/invoke/VarHandle" ∧ (parseMethodDescriptor yX12_variablesOf.desc).map (fun d => d.parameters.length) = some 1 := by decide +kernel
set_option maxRecDepth 100000 in
theorem G_variablesOf : GoodIn wsM (wsV RX12 797 RX12 yX12_variablesOf (.code yX12_variablesOf cX12_variablesOf 5 none :: wsM)) := gV 655 rfl rfl rfl rfl
theorem E_walkOn : yX12_walkOn.cls = RX12 ∧ yX12_walkOn.cls ≠ "java/lang/invoke/MethodHandle" ∧ yX12_walkOn.cls ≠ "java/lang/invoke/VarHandle" ∧ (parseMethodDescriptor yX12_walkOn.desc).map (fun d => d.parameters.length) = some 0 := by decide +kernel
set_option maxRecDepth 100000 in
theorem G_walkOn : GoodIn wsM (wsV RX12 555 RX12 yX12_walkOn (.code yX12_walkOn cX12_walkOn 4 (some .int) :: wsM)) := gV 659 rfl rfl rfl rfl
theorem E_walkTo : yX12_walkTo.cls = RX12 ∧ yX12_walkTo.cls ≠ "java/lang/invoke/MethodHandle" ∧ yX12_walkTo.cls ≠ "java/lang/invoke/VarHandle" ∧ (parseMethodDescriptor yX12_walkTo.desc).map (fun d => d.parameters.length) = some 1 := by decide +kernel
set_option maxRecDepth 100000 in
theorem G_walkTo : GoodIn wsM (wsV RX12 552 RX12 yX12_walkTo (.code yX12_walkTo cX12_walkTo 2 none :: wsM)) := gV 663 rfl rfl rfl rfl
theorem E_wrong : yX12_wrong.cls = RX12 ∧ yX12_wrong.cls ≠ "java/lang/invoke/MethodHandle" ∧ yX12_wrong.cls ≠ "java/lang/invoke/VarHandle" ∧ (parseMethodDescriptor yX12_wrong.desc).map (fun d => d.parameters.length) = some 1 := by decide +kernel
set_option maxRecDepth 100000 in
theorem G_wrong : GoodIn wsM (wsV RX12 866 RX12 yX12_wrong (.code yX12_wrong cX12_wrong 2 none :: wsM)) := gV 667 rfl rfl rfl rfl
/-! the reference's state in whole numbers -/
abbrev iST : Type := (Nat → Int) × (Nat → Int → Int) × (Int → Int)
def iI (u : iST) (k : Nat) (v : Int) : iST := (fun j => if j = k then v else u.1 j, u.2)
def iA (u : iST) (k : Nat) (i v : Int) : iST := (u.1, fun j => if j = k then (fun x => if x = i then v else u.2.1 k x) else u.2.1 j, u.2.2)
def iL (u : iST) (i v : Int) : iST := (u.1, u.2.1, fun x => if x = i then v else u.2.2 x)
def toM (u : iST) : mST := (fun k => jI (u.1 k), fun k i => jI (u.2.1 k (i : Int)), fun i => jL (u.2.2 (i : Int)))
def zS : List Nat := [34, 62, 64, 90, 111, 135]
def zA : List Nat := [41, 50, 51, 52, 53, 84, 93]
def iR (u : iST) : Prop := (∀ k, inR (u.1 k)) ∧ (∀ k i, inR (u.2.1 k i)) ∧ (∀ i, inL (u.2.2 i)) ∧ (∀ k ∈ zS, bz (u.1 k)) ∧ ∀ k ∈ zA, ∀ i, bz (u.2.1 k i)
theorem toM_I (u : iST) (k : Nat) (v : Int) : mI (toM u) k (jI v) = toM (iI u k v) := by
  refine Prod.ext (funext fun j => ?_) rfl
  show (if j = k then jI v else jI (u.1 j)) = jI (if j = k then v else u.1 j)
  split <;> rfl
theorem toM_A (u : iST) (k : Nat) {i : Int} (v : Int) (h0 : 0 ≤ i) : mA (toM u) k i.toNat (jI v) = toM (iA u k i v) := by
  refine Prod.ext rfl (Prod.ext (funext fun j => funext fun n => ?_) rfl)
  show (if j = k then upd (fun i => jI (u.2.1 k (i : Int))) i.toNat (jI v) else fun i => jI (u.2.1 j (i : Int))) n = jI ((if j = k then (fun x => if x = i then v else u.2.1 k x) else u.2.1 j) (n : Int))
  by_cases hj : j = k
  · rw [if_pos hj, if_pos hj]
    show (if n = i.toNat then jI v else jI (u.2.1 k (n : Int))) = jI (if (n : Int) = i then v else u.2.1 k (n : Int))
    by_cases hn : n = i.toNat
    · rw [if_pos hn, if_pos (by omega)]
    · rw [if_neg hn, if_neg (by omega)]
  · rw [if_neg hj, if_neg hj]
theorem toM_L (u : iST) {i : Int} (v : Int) (h0 : 0 ≤ i) : ((toM u).1, (toM u).2.1, vp_updL (toM u).2.2 i.toNat (jL v)) = toM (iL u i v) := by
  refine Prod.ext rfl (Prod.ext rfl (funext fun n => ?_))
  show (if n = i.toNat then jL v else jL (u.2.2 (n : Int))) = jL (if (n : Int) = i then v else u.2.2 (n : Int))
  by_cases hn : n = i.toNat
  · rw [if_pos hn, if_pos (by omega)]
  · rw [if_neg hn, if_neg (by omega)]
theorem iR_I {u : iST} (h : iR u) (k : Nat) {v : Int} (hv : inR v) (hz : k ∈ zS → bz v) : iR (iI u k v) := by
  obtain ⟨h1, h2, h3, h4, h5⟩ := h
  refine ⟨fun j => ?_, h2, h3, fun j hj => ?_, h5⟩
  · show inR (if j = k then v else u.1 j)
    split
    · exact hv
    · exact h1 j
  · show bz (if j = k then v else u.1 j)
    split
    · next e => exact hz (e ▸ hj)
    · exact h4 j hj
theorem iR_A {u : iST} (h : iR u) (k : Nat) (i : Int) {v : Int} (hv : inR v) (hz : k ∈ zA → bz v) : iR (iA u k i v) := by
  obtain ⟨h1, h2, h3, h4, h5⟩ := h
  refine ⟨h1, fun j x => ?_, h3, h4, fun j hj x => ?_⟩
  · show inR ((if j = k then (fun x => if x = i then v else u.2.1 k x) else u.2.1 j) x)
    by_cases e : j = k
    · rw [if_pos e]
      show inR (if x = i then v else u.2.1 k x)
      split
      · exact hv
      · exact h2 k x
    · rw [if_neg e]; exact h2 j x
  · show bz ((if j = k then (fun x => if x = i then v else u.2.1 k x) else u.2.1 j) x)
    by_cases e : j = k
    · rw [if_pos e]
      show bz (if x = i then v else u.2.1 k x)
      split
      · exact hz (e ▸ hj)
      · exact h5 k (e ▸ hj) x
    · rw [if_neg e]; exact h5 j hj x
theorem iR_L {u : iST} (h : iR u) (i : Int) {v : Int} (hv : inL v) : iR (iL u i v) := by
  obtain ⟨h1, h2, h3, h4, h5⟩ := h
  refine ⟨h1, h2, fun x => ?_, h4, h5⟩
  show inL (if x = i then v else u.2.2 x)
  split
  · exact hv
  · exact h3 x
/-- the reference's object lies in the heap and holds u -/
def kW (D : va_G) (ca : Nat → ClassId) (A : Nat → Prop) (h0 : Nat) (ad : Nat → Nat) (H0 H : Heap) (locs : List Loc) (u : iST) : Prop := va_P D vwCl (mCl ca h0 ad (toM u)) H ∧ va_D A (mCl ca h0 ad (toM u)) ∧ va_S A H0 H locs ∧ iR u ∧ ∀ q, H0.size ≤ q → A q
abbrev iWd (D : va_G) (ca : Nat → ClassId) (A : Nat → Prop) (h0 : Nat) (ad : Nat → Nat) (u : iST) (t : State) : Prop := mWd D ca A h0 ad (toM u) t ∧ iR u
def kMI (l : Launch) (y : MethodName) (ws : List Cond) (rm : Room) (As : List Value) (Q : Int → iST → Prop) (u : iST) : Prop := ∀ (D : va_G) (ca : Nat → ClassId) (h0 sz : Nat) (ad : Nat → Nat), Met l y ws rm (va_Pc (.ref h0 :: As) (fun U => U.heap.size = sz ∧ iWd D ca (fun _ => True) h0 ad u U)) (va_Qi (fun (r : Int32) (v : iST) => ∃ x, r = jI x ∧ inR x ∧ Q x v) (iWd D ca (va_A (mCl ca h0 ad (toM u)) sz) h0 ad) (va_A (mCl ca h0 ad (toM u)) sz)) 0 0 (va_A (mCl ca h0 ad (toM u)) sz)
def kML (l : Launch) (y : MethodName) (ws : List Cond) (rm : Room) (As : List Value) (Q : Int → iST → Prop) (u : iST) : Prop := ∀ (D : va_G) (ca : Nat → ClassId) (h0 sz : Nat) (ad : Nat → Nat), Met l y ws rm (va_Pc (.ref h0 :: As) (fun U => U.heap.size = sz ∧ iWd D ca (fun _ => True) h0 ad u U)) (va_Ql (fun (r : Int64) (v : iST) => ∃ x, r = jL x ∧ inL x ∧ Q x v) (iWd D ca (va_A (mCl ca h0 ad (toM u)) sz) h0 ad) (va_A (mCl ca h0 ad (toM u)) sz)) 0 0 (va_A (mCl ca h0 ad (toM u)) sz)
def kMV (l : Launch) (y : MethodName) (ws : List Cond) (rm : Room) (As : List Value) (Q : iST → Prop) (u : iST) : Prop := ∀ (D : va_G) (ca : Nat → ClassId) (h0 sz : Nat) (ad : Nat → Nat), Met l y ws rm (va_Pc (.ref h0 :: As) (fun U => U.heap.size = sz ∧ iWd D ca (fun _ => True) h0 ad u U)) (va_Qv Q (iWd D ca (va_A (mCl ca h0 ad (toM u)) sz) h0 ad) (va_A (mCl ca h0 ad (toM u)) sz)) 0 0 (va_A (mCl ca h0 ad (toM u)) sz)
def kSI (l : Launch) (y : MethodName) (ws : List Cond) (rm : Room) (As : List Value) (Q : Int → iST → Prop) (u : iST) : Prop := ∀ (D : va_G) (ca : Nat → ClassId) (h0 sz : Nat) (ad : Nat → Nat), Met l y ws rm (va_Pc As (fun U => U.heap.size = sz ∧ iWd D ca (fun _ => True) h0 ad u U)) (va_Qi (fun (r : Int32) (v : iST) => ∃ x, r = jI x ∧ inR x ∧ Q x v) (iWd D ca (va_A (mCl ca h0 ad (toM u)) sz) h0 ad) (va_A (mCl ca h0 ad (toM u)) sz)) 0 0 (va_A (mCl ca h0 ad (toM u)) sz)
abbrev kX (p : Program) (m : MethodId) (c : Code) (cc : ByteArray) (nL : Nat) (s : State) (args : Array Value) (D : va_G) (ca : Nat → ClassId) : Prop := CallFix p m c cc nL s args wsM RX12 ∧ va_K D vwCl (mTy ca) s
section KWorld
variable {p : Program} {l : Launch} {e : Env} {R : Room} {s : State} {m : MethodId} {args : Array Value} {below : List Frame} {meth : Method} {c : Code} {H : Heap} {locs : List Loc} {Q : State → Prop}
variable {cc : ByteArray} {pc nL : Nat} {ls : Array Slot} {rest : List Value} {D : va_G} {ca : Nat → ClassId} {A : Nat → Prop} {h0 : Nat} {ad : Nat → Nat} {H0 : Heap} {u : iST}
/-- a number of the object is read -/
theorem gS (k idx : Nat) (hk : k < 149) (hL : Cond.fieldLink RX12 idx "ProofHouseModel" (TX12 k).2.1 (TX12 k).2.2.1 ∈ wsM) (hF : ∀ (ad : Nat → Nat) (u : mST), (mFs ad u)[k]? = some (.int (u.1 k))) (hC : (TX12 k).1 = "ProofHouseModel") (X : kX p m c cc nL s args D ca) (hw : kW D ca A h0 ad H0 H locs u) (d : decode cc pc = .ok (.getfield idx, 3)) {P : Int → Prop} (h : rd (u.1 k) P)
    (kk : ∀ v, inR v → P v → W p l e R s m args below meth c H locs 0 0 Q (F0 m (pc + 3) ls (.int (jI v) :: rest))) : W p l e R s m args below meth c H locs 0 0 Q (F0 m pc ls (.ref h0 :: rest)) :=
  va_get (D := D) (ci := 12) (v := .int (jI (u.1 k))) (C := RX12) (T := TX12) (N := 149) X.1.1 X.1.2.1 X.1.2.2.2.2 wsM_cls X.1.2.2.2.1 X.2 hw.1 0 mH_0 rfl k hk (X.1.2.2.2.2 _ hL) (fun x h9 => by rw [hC] at h9; exact h9) (hF ad (toM u)) d (kk _ (hw.2.2.2.1.1 k) (h _ rfl (hw.2.2.2.1.1 k)))
theorem gZ (k idx : Nat) (hk : k < 149) (hL : Cond.fieldLink RX12 idx "ProofHouseModel" (TX12 k).2.1 (TX12 k).2.2.1 ∈ wsM) (hF : ∀ (ad : Nat → Nat) (u : mST), (mFs ad u)[k]? = some (.int (u.1 k))) (hC : (TX12 k).1 = "ProofHouseModel") (hz : k ∈ zS) (X : kX p m c cc nL s args D ca) (hw : kW D ca A h0 ad H0 H locs u) (d : decode cc pc = .ok (.getfield idx, 3)) {P : Int → Prop} (h : rz (u.1 k) P)
    (kk : ∀ v, bz v → P v → W p l e R s m args below meth c H locs 0 0 Q (F0 m (pc + 3) ls (.int (jI v) :: rest))) : W p l e R s m args below meth c H locs 0 0 Q (F0 m pc ls (.ref h0 :: rest)) :=
  va_get (D := D) (ci := 12) (v := .int (jI (u.1 k))) (C := RX12) (T := TX12) (N := 149) X.1.1 X.1.2.1 X.1.2.2.2.2 wsM_cls X.1.2.2.2.1 X.2 hw.1 0 mH_0 rfl k hk (X.1.2.2.2.2 _ hL) (fun x h9 => by rw [hC] at h9; exact h9) (hF ad (toM u)) d (kk _ (hw.2.2.2.1.2.2.2.1 k hz) (h _ rfl (hw.2.2.2.1.2.2.2.1 k hz)))
/-- a row of the object is named -/
theorem gA (k idx : Nat) (hk : k < 149) (hL : Cond.fieldLink RX12 idx "ProofHouseModel" (TX12 k).2.1 (TX12 k).2.2.1 ∈ wsM) (hF : ∀ (ad : Nat → Nat) (u : mST), (mFs ad u)[k]? = some (.ref (ad k))) (hC : (TX12 k).1 = "ProofHouseModel") (X : kX p m c cc nL s args D ca) (hw : kW D ca A h0 ad H0 H locs u) (d : decode cc pc = .ok (.getfield idx, 3))
    (kk : W p l e R s m args below meth c H locs 0 0 Q (F0 m (pc + 3) ls (.ref (ad k) :: rest))) : W p l e R s m args below meth c H locs 0 0 Q (F0 m pc ls (.ref h0 :: rest)) :=
  va_get (D := D) (ci := 12) (v := .ref (ad k)) (C := RX12) (T := TX12) (N := 149) X.1.1 X.1.2.1 X.1.2.2.2.2 wsM_cls X.1.2.2.2.1 X.2 hw.1 0 mH_0 rfl k hk (X.1.2.2.2.2 _ hL) (fun x h9 => by rw [hC] at h9; exact h9) (hF ad (toM u)) d kk
theorem pS (k idx : Nat) (hk : k < 149) (hL : Cond.fieldLink RX12 idx "ProofHouseModel" (TX12 k).2.1 (TX12 k).2.2.1 ∈ wsM) (hC : (TX12 k).1 = "ProofHouseModel") (hfin : (TX12 k).2.2.2 = false) (hty : tyX12 k = .int) (hI : ∀ (ca : Nat → ClassId) (h0 : Nat) (ad : Nat → Nat) (u : mST) (x : Int32), (mCl ca h0 ad u).set 0 (h0, .inr (12, (mFs ad u).set k (.int x))) = mCl ca h0 ad (mI u k x)) (hzz : k ∉ zS) (X : kX p m c cc nL s args D ca) (hw : kW D ca A h0 ad H0 H locs u) {v : Int} (hv : inR v) (d : decode cc pc = .ok (.putfield idx, 3)) {P : iST → Prop} (h : sw (iI u k v) P)
    (kk : ∀ (H : Heap) (locs : List Loc) (u : iST), kW D ca A h0 ad H0 H locs u → P u → W p l e R s m args below meth c H locs 0 0 Q (F0 m (pc + 3) ls rest)) : W p l e R s m args below meth c H locs 0 0 Q (F0 m pc ls (.int (jI v) :: .ref h0 :: rest)) := by
  refine va_put (D := D) (ci := 12) (v := .int (jI v)) (ty := .int) (C := RX12) (T := TX12) (N := 149) X.1.1 X.1.2.1 X.1.2.2.2.2 wsM_cls tyX12 tyX12_ok nmX12 X.1.2.2.2.1 X.2 hw.1 hw.2.1 hw.2.2.1 0 mH_0 rfl k hk (X.1.2.2.2.2 _ hL) (fun x h9 => by rw [hC] at h9; exact h9) hfin (hty ▸ tyX12_ok k hk) rfl rfl (by exact hk) d (fun H locs hP hD hS => ?_)
  rw [hI, toM_I] at hP hD
  exact kk H locs _ ⟨hP, hD, hS, iR_I hw.2.2.2.1 k hv (fun q => absurd q hzz), hw.2.2.2.2⟩ (h _ rfl)
theorem pZ (k idx : Nat) (hk : k < 149) (hL : Cond.fieldLink RX12 idx "ProofHouseModel" (TX12 k).2.1 (TX12 k).2.2.1 ∈ wsM) (hC : (TX12 k).1 = "ProofHouseModel") (hfin : (TX12 k).2.2.2 = false) (hty : tyX12 k = .boolean) (hI : ∀ (ca : Nat → ClassId) (h0 : Nat) (ad : Nat → Nat) (u : mST) (x : Int32), (mCl ca h0 ad u).set 0 (h0, .inr (12, (mFs ad u).set k (.int x))) = mCl ca h0 ad (mI u k x)) (X : kX p m c cc nL s args D ca) (hw : kW D ca A h0 ad H0 H locs u) {v : Int} (d : decode cc pc = .ok (.putfield idx, 3)) {P : iST → Prop} (h : zt v (sw (iI u k v) P))
    (kk : ∀ (H : Heap) (locs : List Loc) (u : iST), kW D ca A h0 ad H0 H locs u → P u → W p l e R s m args below meth c H locs 0 0 Q (F0 m (pc + 3) ls rest)) : W p l e R s m args below meth c H locs 0 0 Q (F0 m pc ls (.int (jI v) :: .ref h0 :: rest)) := by
  refine va_put (D := D) (ci := 12) (v := .int (jI v)) (ty := .boolean) (C := RX12) (T := TX12) (N := 149) X.1.1 X.1.2.1 X.1.2.2.2.2 wsM_cls tyX12 tyX12_ok nmX12 X.1.2.2.2.1 X.2 hw.1 hw.2.1 hw.2.2.1 0 mH_0 rfl k hk (X.1.2.2.2.2 _ hL) (fun x h9 => by rw [hC] at h9; exact h9) hfin (hty ▸ tyX12_ok k hk) (bz_nar h.1) (bz_fit h.1) (by exact hk) d (fun H locs hP hD hS => ?_)
  rw [hI, toM_I] at hP hD
  exact kk H locs _ ⟨hP, hD, hS, iR_I hw.2.2.2.1 k (bz_in h.1) (fun _ => h.1), hw.2.2.2.2⟩ (h.2 _ rfl)
theorem aL (k q0 t0 N : Nat) (hG : ∀ (ca : Nat → ClassId) (h0 : Nat) (ad : Nat → Nat) (u : mST), (mCl ca h0 ad u)[q0]? = some (ad k, .inl (ca k, N, .inl (u.2.1 k)))) (hT : ∀ ca : Nat → ClassId, (mTy ca)[t0]? = some (ca k, .int)) (X : kX p m c cc nL s args D ca) (hw : kW D ca A h0 ad H0 H locs u) {i : Int} (ri : inR i) (d : decode cc pc = .ok (.iaload, 1)) {n : Int} (hn : n = (N : Int)) {P : Int → Prop} (h : bd i n (rd (u.2.1 k i) P))
    (kk : ∀ v, inR v → P v → W p l e R s m args below meth c H locs 0 0 Q (F0 m (pc + 1) ls (.int (jI v) :: rest))) : W p l e R s m args below meth c H locs 0 0 Q (F0 m pc ls (.int (jI i) :: .ref (ad k) :: rest)) := by
  refine va_iald X.1.1 X.1.2.1 X.2 hw.1 q0 t0 (hG ca h0 ad (toM u)) (hT ca) (jI_in hn h.1 h.2.1 ri) d ?_
  have e : (toM u).2.1 k (jI i).toNatClampNeg = jI (u.2.1 k i) := by
    rw [jI_cl ri]
    show jI (u.2.1 k ((i.toNat : Nat) : Int)) = jI (u.2.1 k i)
    rw [Int.toNat_of_nonneg h.1]
  rw [e]
  exact kk _ (hw.2.2.2.1.2.1 k i) (h.2.2 _ rfl (hw.2.2.2.1.2.1 k i))
theorem aZ (k q0 t0 N : Nat) (hG : ∀ (ca : Nat → ClassId) (h0 : Nat) (ad : Nat → Nat) (u : mST), (mCl ca h0 ad u)[q0]? = some (ad k, .inl (ca k, N, .inl (u.2.1 k)))) (hT : ∀ ca : Nat → ClassId, (mTy ca)[t0]? = some (ca k, .boolean)) (hz : k ∈ zA) (X : kX p m c cc nL s args D ca) (hw : kW D ca A h0 ad H0 H locs u) {i : Int} (ri : inR i) (d : decode cc pc = .ok (.baload, 1)) {n : Int} (hn : n = (N : Int)) {P : Int → Prop} (h : bd i n (rz (u.2.1 k i) P))
    (kk : ∀ v, bz v → P v → W p l e R s m args below meth c H locs 0 0 Q (F0 m (pc + 1) ls (.int (jI v) :: rest))) : W p l e R s m args below meth c H locs 0 0 Q (F0 m pc ls (.int (jI i) :: .ref (ad k) :: rest)) := by
  refine va_zald X.1.1 X.1.2.1 X.2 hw.1 q0 t0 (hG ca h0 ad (toM u)) (hT ca) (jI_in hn h.1 h.2.1 ri) d ?_
  have e : (toM u).2.1 k (jI i).toNatClampNeg = jI (u.2.1 k i) := by
    rw [jI_cl ri]
    show jI (u.2.1 k ((i.toNat : Nat) : Int)) = jI (u.2.1 k i)
    rw [Int.toNat_of_nonneg h.1]
  rw [e]
  exact kk _ (hw.2.2.2.1.2.2.2.2 k hz i) (h.2.2 _ rfl (hw.2.2.2.1.2.2.2.2 k hz i))
theorem aS (k q0 t0 N : Nat) (hG : ∀ (ca : Nat → ClassId) (h0 : Nat) (ad : Nat → Nat) (u : mST), (mCl ca h0 ad u)[q0]? = some (ad k, .inl (ca k, N, .inl (u.2.1 k)))) (hT : ∀ ca : Nat → ClassId, (mTy ca)[t0]? = some (ca k, .int)) (hSA : ∀ (ca : Nat → ClassId) (h0 : Nat) (ad : Nat → Nat) (u : mST) (i : Nat) (x : Int32), (mCl ca h0 ad u).set q0 (ad k, .inl (ca k, N, .inl (upd (u.2.1 k) i x))) = mCl ca h0 ad (mA u k i x)) (hzz : k ∉ zA) (X : kX p m c cc nL s args D ca) (hw : kW D ca A h0 ad H0 H locs u) {i v : Int} (ri : inR i) (rv : inR v) (d : decode cc pc = .ok (.iastore, 1)) {n : Int} (hn : n = (N : Int)) {P : iST → Prop} (h : bd i n (sw (iA u k i v) P))
    (kk : ∀ (H : Heap) (locs : List Loc) (u : iST), kW D ca A h0 ad H0 H locs u → P u → W p l e R s m args below meth c H locs 0 0 Q (F0 m (pc + 1) ls rest)) : W p l e R s m args below meth c H locs 0 0 Q (F0 m pc ls (.int (jI v) :: .int (jI i) :: .ref (ad k) :: rest)) := by
  refine va_iast X.1.1 X.1.2.1 X.2 hw.1 hw.2.1 hw.2.2.1 q0 t0 (hG ca h0 ad (toM u)) (hT ca) (jI_in hn h.1 h.2.1 ri) d (fun H locs hP hD hS => ?_)
  rw [hSA, jI_cl ri, toM_A u k v h.1] at hP hD
  exact kk H locs _ ⟨hP, hD, hS, iR_A hw.2.2.2.1 k i rv (fun q => absurd q hzz), hw.2.2.2.2⟩ (h.2.2 _ rfl)
theorem aY (k q0 t0 N : Nat) (hG : ∀ (ca : Nat → ClassId) (h0 : Nat) (ad : Nat → Nat) (u : mST), (mCl ca h0 ad u)[q0]? = some (ad k, .inl (ca k, N, .inl (u.2.1 k)))) (hT : ∀ ca : Nat → ClassId, (mTy ca)[t0]? = some (ca k, .boolean)) (hSA : ∀ (ca : Nat → ClassId) (h0 : Nat) (ad : Nat → Nat) (u : mST) (i : Nat) (x : Int32), (mCl ca h0 ad u).set q0 (ad k, .inl (ca k, N, .inl (upd (u.2.1 k) i x))) = mCl ca h0 ad (mA u k i x)) (X : kX p m c cc nL s args D ca) (hw : kW D ca A h0 ad H0 H locs u) {i v : Int} (ri : inR i) (d : decode cc pc = .ok (.bastore, 1)) {n : Int} (hn : n = (N : Int)) {P : iST → Prop} (h : zt v (bd i n (sw (iA u k i v) P)))
    (kk : ∀ (H : Heap) (locs : List Loc) (u : iST), kW D ca A h0 ad H0 H locs u → P u → W p l e R s m args below meth c H locs 0 0 Q (F0 m (pc + 1) ls rest)) : W p l e R s m args below meth c H locs 0 0 Q (F0 m pc ls (.int (jI v) :: .int (jI i) :: .ref (ad k) :: rest)) := by
  obtain ⟨hz, h⟩ := h
  refine va_zast X.1.1 X.1.2.1 X.2 hw.1 hw.2.1 hw.2.2.1 q0 t0 (hG ca h0 ad (toM u)) (hT ca) (jI_in hn h.1 h.2.1 ri) d (fun H locs hP hD hS => ?_)
  rw [bz_vp hz, hSA, jI_cl ri, toM_A u k v h.1] at hP hD
  exact kk H locs _ ⟨hP, hD, hS, iR_A hw.2.2.2.1 k i (bz_in hz) (fun _ => hz), hw.2.2.2.2⟩ (h.2.2 _ rfl)
theorem aJ (X : kX p m c cc nL s args D ca) (hw : kW D ca A h0 ad H0 H locs u) {i : Int} (ri : inR i) (d : decode cc pc = .ok (.laload, 1)) {P : Int → Prop} (h : bd i 40000 (rl (u.2.2 i) P))
    (kk : ∀ v, inL v → P v → W p l e R s m args below meth c H locs 0 0 Q (F0 m (pc + 1) ls (.long (jL v) :: rest))) : W p l e R s m args below meth c H locs 0 0 Q (F0 m pc ls (.int (jI i) :: .ref (ad 5) :: rest)) := by
  refine va_lald X.1.1 X.1.2.1 X.2 hw.1 6 5 mG_5 rfl (jI_in rfl h.1 h.2.1 ri) d ?_
  have e : (toM u).2.2 (jI i).toNatClampNeg = jL (u.2.2 i) := by
    rw [jI_cl ri]
    show jL (u.2.2 ((i.toNat : Nat) : Int)) = jL (u.2.2 i)
    rw [Int.toNat_of_nonneg h.1]
  rw [e]
  exact kk _ (hw.2.2.2.1.2.2.1 i) (h.2.2 _ rfl (hw.2.2.2.1.2.2.1 i))
theorem aK (X : kX p m c cc nL s args D ca) (hw : kW D ca A h0 ad H0 H locs u) {i v : Int} (ri : inR i) (rv : inL v) (d : decode cc pc = .ok (.lastore, 1)) {P : iST → Prop} (h : bd i 40000 (sw (iL u i v) P))
    (kk : ∀ (H : Heap) (locs : List Loc) (u : iST), kW D ca A h0 ad H0 H locs u → P u → W p l e R s m args below meth c H locs 0 0 Q (F0 m (pc + 1) ls rest)) : W p l e R s m args below meth c H locs 0 0 Q (F0 m pc ls (.long (jL v) :: .int (jI i) :: .ref (ad 5) :: rest)) := by
  refine va_last X.1.1 X.1.2.1 X.2 hw.1 hw.2.1 hw.2.2.1 6 5 mG_5 rfl (jI_in rfl h.1 h.2.1 ri) d (fun H locs hP hD hS => ?_)
  rw [mSL_5, jI_cl ri, toM_L u v h.1] at hP hD
  exact kk H locs _ ⟨hP, hD, hS, iR_L hw.2.2.2.1 i rv, hw.2.2.2.2⟩ (h.2.2 _ rfl)
theorem kld (idx : Nat) {v : Int} (hL : Cond.constant RX12 idx (jI v) ∈ wsM) (X : kX p m c cc nL s args D ca) (d : decode cc pc = .ok (.ldc idx, 2)) (kk : W p l e R s m args below meth c H locs 0 0 Q (F0 m (pc + 2) ls (.int (jI v) :: rest))) : W p l e R s m args below meth c H locs 0 0 Q (F0 m pc ls rest) := lv_ldc X.1.1 X.1.2.1 X.1.2.2.2.1 (X.1.2.2.2.2 _ hL) d kk
theorem kldw (idx : Nat) {v : Int} (hL : Cond.constant RX12 idx (jI v) ∈ wsM) (X : kX p m c cc nL s args D ca) (d : decode cc pc = .ok (.ldc_w idx, 3)) (kk : W p l e R s m args below meth c H locs 0 0 Q (F0 m (pc + 3) ls (.int (jI v) :: rest))) : W p l e R s m args below meth c H locs 0 0 Q (F0 m pc ls rest) := lv_ldcw X.1.1 X.1.2.1 X.1.2.2.2.1 (X.1.2.2.2.2 _ hL) d kk
theorem kld2 (idx : Nat) {v : Int} (hL : Cond.constantLong RX12 idx (jL v) ∈ wsM) (X : kX p m c cc nL s args D ca) (d : decode cc pc = .ok (.ldc2_w idx, 3)) (kk : W p l e R s m args below meth c H locs 0 0 Q (F0 m (pc + 3) ls (.long (jL v) :: rest))) : W p l e R s m args below meth c H locs 0 0 Q (F0 m pc ls rest) := lv_ldc2 X.1.1 X.1.2.1 X.1.2.2.2.1 (X.1.2.2.2.2 _ hL) d kk
theorem kfree (hw : kW D ca A h0 ad H0 H locs u) : ∀ q, va_A (mCl ca h0 ad (toM u)) H.size q → A q := pl_free hw.2.1 hw.2.2.1 hw.2.2.2.2
theorem kblind {As : List Value} {sz : Nat} {B : Nat → Prop} : FrameBlind (va_Pc As (fun U => U.heap.size = sz ∧ iWd D ca B h0 ad u U)) := fun a U g mk q => by
  obtain ⟨q0, q1, ⟨qP, qK, qD⟩, qR⟩ := q
  exact ⟨q0, q1, ⟨qP, va_K.moved (u := U) (U := U.calling g mk a) (Vm.Alike.refl U.vm) qK, qD⟩, qR⟩
theorem kback {A1 : Nat → Prop} {t : State} {H1 : Heap} {locs1 : List Loc} {v : iST} (hw : kW D ca A h0 ad H0 H locs u) (hA1 : A1 = va_A (mCl ca h0 ad (toM u)) H.size) (ht : t.heap = H1) (hB : iWd D ca A1 h0 ad v t) (hS : va_S A H0 H1 locs1) : kW D ca A h0 ad H0 H1 locs1 v := by
  obtain ⟨⟨hP1, hK1, hD1⟩, hR⟩ := hB
  subst hA1
  rw [ht] at hP1
  exact ⟨hP1, hD1.weaken (fun _ _ _ h => kfree hw _ h), hS, hR, hw.2.2.2.2⟩
theorem kcI {y : MethodName} {cy : ByteArray} {mx : Nat} {ret : Option FieldType} {Fy Ly idx n : Nat} {As : List Value} {K : Int → iST → Prop} (hM : kMI l y (.code y cy mx ret :: wsM) { frames := Fy, cells := 0, slots := 0, locals := Ly } As K u) (hG : GoodIn wsM (wsV RX12 idx RX12 y (.code y cy mx ret :: wsM))) (hd : y.cls = RX12 ∧ y.cls ≠ "java/lang/invoke/MethodHandle" ∧ y.cls ≠ "java/lang/invoke/VarHandle" ∧ (parseMethodDescriptor y.desc).map (fun d => d.parameters.length) = some n) (X : kX p m c cc nL s args D ca) (hw : kW D ca A h0 ad H0 H locs u) (hRf : Fy + 1 ≤ R.frames) (hRl : 8 + (mx + 11) + Ly ≤ R.locals) (hn : As.length = n) (hls : ls.size = nL) (hst : (rest.map fun v => v.category).sum ≤ 8) {st : List Value} (hsk : st = As.reverse ++ .ref h0 :: rest) (d : decode cc pc = .ok (.invokevirtual idx, 3))
    (kk : ∀ (r : Int) (v : iST) (H : Heap) (locs : List Loc), inR r → K r v → kW D ca A h0 ad H0 H locs v → W p l e R s m args below meth c H locs 0 0 Q (F0 m (pc + 3) ls (.int (jI r) :: rest))) : W p l e R s m args below meth c H locs 0 0 Q (F0 m pc ls st) := by
  subst hsk
  refine va_calli (va_runV (rest := rest) X.1 (hM D ca h0 H.size ad) (cwV n X.1.2.2.2.2 hG rfl rfl rfl hd ⟨hRf, hRl⟩) ⟨kblind, va_recv X.2 hw.1 (ci := 12) (q0 := 0) rfl mH_0, fun U hU hW => ⟨rfl, by rw [hU], ⟨by rw [hU]; exact hw.1, va_K.moved hW.alike X.2, hw.2.1.weaken (fun _ _ _ _ => trivial)⟩, hw.2.2.2.1⟩⟩ rfl hn hls rfl (lv_room hst) d ⟨Nat.zero_le _, Nat.zero_le _⟩) hw.2.2.1 (fun q _ h => kfree hw q h) (kfree hw) (fun r v t H1 locs1 ht hvm hp hB hz1 hk1 hS => ?_)
  obtain ⟨x, rfl, hx, hK⟩ := hp
  exact kk x v H1 locs1 hx hK (kback hw rfl ht hB hS)
theorem kcL {y : MethodName} {cy : ByteArray} {mx : Nat} {ret : Option FieldType} {Fy Ly idx n : Nat} {As : List Value} {K : Int → iST → Prop} (hM : kML l y (.code y cy mx ret :: wsM) { frames := Fy, cells := 0, slots := 0, locals := Ly } As K u) (hG : GoodIn wsM (wsV RX12 idx RX12 y (.code y cy mx ret :: wsM))) (hd : y.cls = RX12 ∧ y.cls ≠ "java/lang/invoke/MethodHandle" ∧ y.cls ≠ "java/lang/invoke/VarHandle" ∧ (parseMethodDescriptor y.desc).map (fun d => d.parameters.length) = some n) (X : kX p m c cc nL s args D ca) (hw : kW D ca A h0 ad H0 H locs u) (hRf : Fy + 1 ≤ R.frames) (hRl : 8 + (mx + 11) + Ly ≤ R.locals) (hn : As.length = n) (hls : ls.size = nL) (hst : (rest.map fun v => v.category).sum ≤ 8) {st : List Value} (hsk : st = As.reverse ++ .ref h0 :: rest) (d : decode cc pc = .ok (.invokevirtual idx, 3))
    (kk : ∀ (r : Int) (v : iST) (H : Heap) (locs : List Loc), inL r → K r v → kW D ca A h0 ad H0 H locs v → W p l e R s m args below meth c H locs 0 0 Q (F0 m (pc + 3) ls (.long (jL r) :: rest))) : W p l e R s m args below meth c H locs 0 0 Q (F0 m pc ls st) := by
  subst hsk
  refine va_calll (va_runV (rest := rest) X.1 (hM D ca h0 H.size ad) (cwV n X.1.2.2.2.2 hG rfl rfl rfl hd ⟨hRf, hRl⟩) ⟨kblind, va_recv X.2 hw.1 (ci := 12) (q0 := 0) rfl mH_0, fun U hU hW => ⟨rfl, by rw [hU], ⟨by rw [hU]; exact hw.1, va_K.moved hW.alike X.2, hw.2.1.weaken (fun _ _ _ _ => trivial)⟩, hw.2.2.2.1⟩⟩ rfl hn hls rfl (lv_room hst) d ⟨Nat.zero_le _, Nat.zero_le _⟩) hw.2.2.1 (fun q _ h => kfree hw q h) (kfree hw) (fun r v t H1 locs1 ht hvm hp hB hz1 hk1 hS => ?_)
  obtain ⟨x, rfl, hx, hK⟩ := hp
  exact kk x v H1 locs1 hx hK (kback hw rfl ht hB hS)
theorem kcV {y : MethodName} {cy : ByteArray} {mx : Nat} {ret : Option FieldType} {Fy Ly idx n : Nat} {As : List Value} {K : iST → Prop} (hM : kMV l y (.code y cy mx ret :: wsM) { frames := Fy, cells := 0, slots := 0, locals := Ly } As K u) (hG : GoodIn wsM (wsV RX12 idx RX12 y (.code y cy mx ret :: wsM))) (hd : y.cls = RX12 ∧ y.cls ≠ "java/lang/invoke/MethodHandle" ∧ y.cls ≠ "java/lang/invoke/VarHandle" ∧ (parseMethodDescriptor y.desc).map (fun d => d.parameters.length) = some n) (X : kX p m c cc nL s args D ca) (hw : kW D ca A h0 ad H0 H locs u) (hRf : Fy + 1 ≤ R.frames) (hRl : 8 + (mx + 11) + Ly ≤ R.locals) (hn : As.length = n) (hls : ls.size = nL) (hst : (rest.map fun v => v.category).sum ≤ 8) {st : List Value} (hsk : st = As.reverse ++ .ref h0 :: rest) (d : decode cc pc = .ok (.invokevirtual idx, 3))
    (kk : ∀ (v : iST) (H : Heap) (locs : List Loc), K v → kW D ca A h0 ad H0 H locs v → W p l e R s m args below meth c H locs 0 0 Q (F0 m (pc + 3) ls rest)) : W p l e R s m args below meth c H locs 0 0 Q (F0 m pc ls st) := by
  subst hsk
  refine va_callv (va_runV (rest := rest) X.1 (hM D ca h0 H.size ad) (cwV n X.1.2.2.2.2 hG rfl rfl rfl hd ⟨hRf, hRl⟩) ⟨kblind, va_recv X.2 hw.1 (ci := 12) (q0 := 0) rfl mH_0, fun U hU hW => ⟨rfl, by rw [hU], ⟨by rw [hU]; exact hw.1, va_K.moved hW.alike X.2, hw.2.1.weaken (fun _ _ _ _ => trivial)⟩, hw.2.2.2.1⟩⟩ rfl hn hls rfl (lv_room hst) d ⟨Nat.zero_le _, Nat.zero_le _⟩) hw.2.2.1 (fun q _ h => kfree hw q h) (kfree hw) (fun v t H1 locs1 ht hvm hp hB hz1 hk1 hS => ?_)
  exact kk v H1 locs1 hp (kback hw rfl ht hB hS)
theorem kcT {y : MethodName} {cy : ByteArray} {mx : Nat} {ret : Option FieldType} {Fy Ly idx n : Nat} {As : List Value} {K : Int → iST → Prop} (hM : kSI l y (.code y cy mx ret :: wsM) { frames := Fy, cells := 0, slots := 0, locals := Ly } As K u) (hG : GoodIn wsM (wsS RX12 idx y (.code y cy mx ret :: wsM))) (hd : y.cls = RX12 ∧ y.cls ≠ "java/lang/invoke/MethodHandle" ∧ y.cls ≠ "java/lang/invoke/VarHandle" ∧ (parseMethodDescriptor y.desc).map (fun d => d.parameters.length) = some n) (X : kX p m c cc nL s args D ca) (hw : kW D ca A h0 ad H0 H locs u) (hRf : Fy + 1 ≤ R.frames) (hRl : 8 + (mx + 11) + Ly ≤ R.locals) (hn : As.length = n) (hls : ls.size = nL) (hst : (rest.map fun v => v.category).sum ≤ 8) {st : List Value} (hsk : st = As.reverse ++ rest) (d : decode cc pc = .ok (.invokestatic idx, 3))
    (kk : ∀ (r : Int) (v : iST) (H : Heap) (locs : List Loc), inR r → K r v → kW D ca A h0 ad H0 H locs v → W p l e R s m args below meth c H locs 0 0 Q (F0 m (pc + 3) ls (.int (jI r) :: rest))) : W p l e R s m args below meth c H locs 0 0 Q (F0 m pc ls st) := by
  subst hsk
  refine va_calli (va_runS (rest := rest) X.1 (hM D ca h0 H.size ad) (cwS n X.1.2.2.2.2 hG rfl rfl rfl hd ⟨hRf, hRl⟩) ⟨kblind, fun U hU hW => ⟨rfl, by rw [hU], ⟨by rw [hU]; exact hw.1, va_K.moved hW.alike X.2, hw.2.1.weaken (fun _ _ _ _ => trivial)⟩, hw.2.2.2.1⟩⟩ rfl hn hls rfl (lv_room hst) d ⟨Nat.zero_le _, Nat.zero_le _⟩) hw.2.2.1 (fun q _ h => kfree hw q h) (kfree hw) (fun r v t H1 locs1 ht hvm hp hB hz1 hk1 hS => ?_)
  obtain ⟨x, rfl, hx, hK⟩ := hp
  exact kk x v H1 locs1 hx hK (kback hw rfl ht hB hS)
end KWorld

