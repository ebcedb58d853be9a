def wsX12_said_r1 : List Cond := [Cond.fieldLink RX12 309 "ProofHouseModel" "wordSize" "I", Cond.methodLink RX12 312 yX12_spell, Cond.instanceMethod yX12_spell, Cond.selects RX12 yX12_spell yX12_spell, Cond.initialized RX12, Cond.code yX12_spell cX12_spell 2 none, Cond.fieldLink RX12 50 "ProofHouseModel" "word" "[I", Cond.methodLink RX12 316 yX12_symbol, Cond.instanceMethod yX12_symbol, Cond.selects RX12 yX12_symbol yX12_symbol, Cond.code yX12_symbol cX12_symbol 3 (some .int), Cond.fieldLink RX12 31 "ProofHouseModel" "heads" "[I", Cond.fieldLink RX12 8 "ProofHouseModel" "left" "[I", Cond.fieldLink RX12 14 "ProofHouseModel" "right" "[I", Cond.fieldLink RX12 17 "ProofHouseModel" "next" "[I", Cond.fieldLink RX12 38 "ProofHouseModel" "lengths" "[I", Cond.fieldLink RX12 346 "ProofHouseModel" "symbols" "I", Cond.fieldLink RX12 35 "ProofHouseModel" "names" "[I", Cond.methodLink RX12 328 yX12_spelled, Cond.instanceMethod yX12_spelled, Cond.selects RX12 yX12_spelled yX12_spelled, Cond.code yX12_spelled cX12_spelled 6 (some .int), Cond.methodLink RX12 342 yX12_isWord, Cond.instanceMethod yX12_isWord]
def wsX12_said_r2 : List Cond := [Cond.selects RX12 yX12_isWord yX12_isWord, Cond.code yX12_isWord cX12_isWord 4 (some .boolean), Cond.methodLink RX12 335 yX12_added, Cond.instanceMethod yX12_added, Cond.selects RX12 yX12_added yX12_added, Cond.code yX12_added cX12_added 4 (some .int), Cond.fieldLink RX12 332 "ProofHouseModel" "objects" "I", Cond.fieldLink RX12 20 "ProofHouseModel" "sizes" "[I", Cond.fieldLink RX12 23 "ProofHouseModel" "heights" "[I"]
def wsX12_said : List Cond := .code yX12_said cX12_said 10 none :: ((wsX12_said_r1 ++ wsX12_said_r2) ++ wsX120)
def wsX12_init_r1 : List Cond := [Cond.methodLink RX12 1 objectInit, Cond.instanceMethod objectInit, Cond.code objectInit ⟨#[0xb1]⟩ 1 none, Cond.constant RX12 7 (452000), Cond.arrayClass .int, Cond.fieldLink RX12 8 "ProofHouseModel" "left" "[I", Cond.fieldLink RX12 14 "ProofHouseModel" "right" "[I", Cond.fieldLink RX12 17 "ProofHouseModel" "next" "[I", Cond.fieldLink RX12 20 "ProofHouseModel" "sizes" "[I", Cond.fieldLink RX12 23 "ProofHouseModel" "heights" "[I", Cond.constant RX12 26 (40000), Cond.arrayClass .long, Cond.fieldLink RX12 27 "ProofHouseModel" "number" "[J", Cond.fieldLink RX12 31 "ProofHouseModel" "heads" "[I", Cond.constant RX12 34 (252000), Cond.fieldLink RX12 35 "ProofHouseModel" "names" "[I", Cond.fieldLink RX12 38 "ProofHouseModel" "lengths" "[I", Cond.fieldLink RX12 41 "ProofHouseModel" "waiting" "[I", Cond.fieldLink RX12 44 "ProofHouseModel" "text" "[I", Cond.fieldLink RX12 47 "ProofHouseModel" "out" "[I", Cond.fieldLink RX12 50 "ProofHouseModel" "word" "[I", Cond.fieldLink RX12 53 "ProofHouseModel" "tellWhat" "[I", Cond.fieldLink RX12 56 "ProofHouseModel" "one" "[I", Cond.fieldLink RX12 59 "ProofHouseModel" "readPlace" "I"]
def wsX12_init_r2 : List Cond := [Cond.fieldLink RX12 63 "ProofHouseModel" "openSort" "[I", Cond.fieldLink RX12 66 "ProofHouseModel" "openFrom" "[I", Cond.fieldLink RX12 69 "ProofHouseModel" "openState" "[I", Cond.fieldLink RX12 72 "ProofHouseModel" "openLast" "[I", Cond.fieldLink RX12 75 "ProofHouseModel" "items" "[I", Cond.fieldLink RX12 78 "ProofHouseModel" "defName" "[I", Cond.fieldLink RX12 81 "ProofHouseModel" "defMany" "[I", Cond.fieldLink RX12 84 "ProofHouseModel" "defVariable" "[I", Cond.fieldLink RX12 87 "ProofHouseModel" "defBody" "[I", Cond.fieldLink RX12 90 "ProofHouseModel" "defMeasure" "[I", Cond.arrayClass .boolean, Cond.fieldLink RX12 93 "ProofHouseModel" "defSelf" "[Z", Cond.fieldLink RX12 97 "ProofHouseModel" "theoremName" "[I", Cond.fieldLink RX12 100 "ProofHouseModel" "theorem" "[I", Cond.fieldLink RX12 103 "ProofHouseModel" "theoremSort" "[I", Cond.fieldLink RX12 106 "ProofHouseModel" "ruleLeft" "[I", Cond.fieldLink RX12 109 "ProofHouseModel" "ruleRight" "[I", Cond.fieldLink RX12 112 "ProofHouseModel" "ruleMany" "[I", Cond.fieldLink RX12 115 "ProofHouseModel" "ruleHypothesis" "[I", Cond.fieldLink RX12 118 "ProofHouseModel" "rulePermutes" "[Z", Cond.fieldLink RX12 121 "ProofHouseModel" "ruleTruth" "[Z", Cond.fieldLink RX12 124 "ProofHouseModel" "ruleOn" "[Z", Cond.fieldLink RX12 127 "ProofHouseModel" "ruleOut" "[Z", Cond.fieldLink RX12 130 "ProofHouseModel" "takenSort" "[I"]
def wsX12_init_r3 : List Cond := [Cond.fieldLink RX12 133 "ProofHouseModel" "takenFrom" "[I", Cond.fieldLink RX12 136 "ProofHouseModel" "comingName" "I", Cond.fieldLink RX12 139 "ProofHouseModel" "fuel" "I", Cond.fieldLink RX12 142 "ProofHouseModel" "other" "[I", Cond.fieldLink RX12 145 "ProofHouseModel" "callOf" "[I", Cond.fieldLink RX12 148 "ProofHouseModel" "restOf" "[I", Cond.fieldLink RX12 151 "ProofHouseModel" "fromOf" "[I", Cond.fieldLink RX12 154 "ProofHouseModel" "built" "[I", Cond.fieldLink RX12 157 "ProofHouseModel" "variable" "[I", Cond.fieldLink RX12 160 "ProofHouseModel" "instead" "[I", Cond.fieldLink RX12 163 "ProofHouseModel" "walk" "[I", Cond.fieldLink RX12 166 "ProofHouseModel" "its" "[I", Cond.fieldLink RX12 169 "ProofHouseModel" "evalTerm" "[I", Cond.fieldLink RX12 172 "ProofHouseModel" "evalRest" "[I", Cond.fieldLink RX12 175 "ProofHouseModel" "evalFrom" "[I", Cond.fieldLink RX12 178 "ProofHouseModel" "evalDef" "[I", Cond.fieldLink RX12 181 "ProofHouseModel" "evalBase" "[I", Cond.fieldLink RX12 184 "ProofHouseModel" "evalEnds" "[Z", Cond.fieldLink RX12 187 "ProofHouseModel" "value" "[I", Cond.fieldLink RX12 190 "ProofHouseModel" "job" "[I", Cond.fieldLink RX12 193 "ProofHouseModel" "jobTruth" "[Z", Cond.fieldLink RX12 196 "ProofHouseModel" "jobPhase" "[I", Cond.fieldLink RX12 199 "ProofHouseModel" "jobA" "[I", Cond.fieldLink RX12 202 "ProofHouseModel" "jobB" "[I"]
def wsX12_init_r4 : List Cond := [Cond.fieldLink RX12 205 "ProofHouseModel" "jobC" "[I", Cond.fieldLink RX12 208 "ProofHouseModel" "jobRest" "[I", Cond.fieldLink RX12 211 "ProofHouseModel" "jobFrom" "[I", Cond.fieldLink RX12 214 "ProofHouseModel" "jobRule" "[I", Cond.fieldLink RX12 217 "ProofHouseModel" "jobHypothesis" "[I", Cond.fieldLink RX12 220 "ProofHouseModel" "result" "[I", Cond.fieldLink RX12 223 "ProofHouseModel" "ruleVariable" "[I", Cond.fieldLink RX12 226 "ProofHouseModel" "ruleInstead" "[I", Cond.fieldLink RX12 229 "ProofHouseModel" "rulePairs" "[I", Cond.fieldLink RX12 232 "ProofHouseModel" "context" "[I", Cond.fieldLink RX12 235 "ProofHouseModel" "seekLeft" "[I", Cond.fieldLink RX12 238 "ProofHouseModel" "seekRight" "[I", Cond.constant RX12 241 (69000), Cond.fieldLink RX12 242 "ProofHouseModel" "literal" "[I", Cond.fieldLink RX12 245 "ProofHouseModel" "many" "[I", Cond.fieldLink RX12 248 "ProofHouseModel" "rounds" "[I", Cond.fieldLink RX12 251 "ProofHouseModel" "order" "[I", Cond.fieldLink RX12 254 "ProofHouseModel" "leftRow" "[I", Cond.fieldLink RX12 257 "ProofHouseModel" "draft" "[I", Cond.fieldLink RX12 260 "ProofHouseModel" "end" "[I", Cond.fieldLink RX12 263 "ProofHouseModel" "ruler" "[I", Cond.fieldLink RX12 266 "ProofHouseModel" "rulers" "[I", Cond.fieldLink RX12 269 "ProofHouseModel" "pathTerm" "[I", Cond.fieldLink RX12 272 "ProofHouseModel" "pathRuler" "[I"]
def wsX12_init_r5 : List Cond := [Cond.fieldLink RX12 275 "ProofHouseModel" "pathRulers" "[I", Cond.fieldLink RX12 278 "ProofHouseModel" "found" "[I", Cond.fieldLink RX12 281 "ProofHouseModel" "used" "[I", Cond.fieldLink RX12 284 "ProofHouseModel" "usedPairs" "[I", Cond.fieldLink RX12 287 "ProofHouseModel" "stepTerm" "[I", Cond.fieldLink RX12 290 "ProofHouseModel" "proof" "[I", Cond.fieldLink RX12 293 "ProofHouseModel" "proofPart" "[I", Cond.fieldLink RX12 296 "ProofHouseModel" "proofFrom" "[I", Cond.fieldLink RX12 299 "ProofHouseModel" "clause" "[I", Cond.fieldLink RX12 302 "ProofHouseModel" "clauseMany" "[I", Cond.methodLink RX12 305 yX12_said, Cond.instanceMethod yX12_said, Cond.selects RX12 yX12_said yX12_said, Cond.initialized RX12, Cond.code yX12_said cX12_said 10 none, Cond.fieldLink RX12 309 "ProofHouseModel" "wordSize" "I", Cond.methodLink RX12 312 yX12_spell, Cond.instanceMethod yX12_spell, Cond.selects RX12 yX12_spell yX12_spell, Cond.code yX12_spell cX12_spell 2 none, Cond.methodLink RX12 316 yX12_symbol, Cond.instanceMethod yX12_symbol, Cond.selects RX12 yX12_symbol yX12_symbol, Cond.code yX12_symbol cX12_symbol 3 (some .int)]
def wsX12_init_r6 : List Cond := [Cond.fieldLink RX12 346 "ProofHouseModel" "symbols" "I", Cond.methodLink RX12 328 yX12_spelled, Cond.instanceMethod yX12_spelled, Cond.selects RX12 yX12_spelled yX12_spelled, Cond.code yX12_spelled cX12_spelled 6 (some .int), Cond.methodLink RX12 342 yX12_isWord, Cond.instanceMethod yX12_isWord, Cond.selects RX12 yX12_isWord yX12_isWord, Cond.code yX12_isWord cX12_isWord 4 (some .boolean), Cond.methodLink RX12 335 yX12_added, Cond.instanceMethod yX12_added, Cond.selects RX12 yX12_added yX12_added, Cond.code yX12_added cX12_added 4 (some .int), Cond.fieldLink RX12 332 "ProofHouseModel" "objects" "I"]
def wsX12_init : List Cond := .code yX12_init cX12_init 2 none :: ((wsX12_init_r1 ++ (wsX12_init_r2 ++ (wsX12_init_r3 ++ (wsX12_init_r4 ++ (wsX12_init_r5 ++ wsX12_init_r6))))) ++ wsX120)
set_option maxRecDepth 20000 in
theorem ggX12_init_X12_said : GoodIn wsX12_init wsX12_said := goodIn_r _ [111, 112, 113, 114, 115, 110, 116, 21, 117, 118, 119, 120, 14, 6, 7, 8, 17, 121, 16, 122, 123, 124, 125, 126, 127, 128, 129, 130, 131, 132, 133, 134, 9, 10, 135, 136, 137, 138, 139, 140, 141, 142, 143, 144, 145, 146, 147, 148, 149, 150, 151, 152, 153, 154, 155, 156, 157, 158, 159, 160, 161, 162, 163, 164, 165, 166, 167, 168, 169, 170, 171, 172, 173, 174, 175, 176, 177, 178, 179, 180, 181, 182, 183, 184, 185, 186, 187, 188, 189, 190, 191, 192, 193, 194, 195, 196, 197, 198, 199, 200, 201, 202, 203, 204, 205, 206, 207, 208, 209, 210, 211, 212, 213, 214, 215, 216, 217, 218, 219, 220, 221, 222, 223, 224, 225, 226, 227, 228, 229, 230, 231, 232, 233, 234, 235, 236, 237, 238, 239, 240, 241, 242, 243, 244, 245, 246, 247, 248, 249, 250, 251, 252, 253, 254, 255, 256, 257, 258, 259, 260, 261, 262, 263, 264, 265, 266, 267, 268, 269, 270, 271, 272, 273, 274, 275, 276, 277, 278, 279, 280, 281, 282, 283] (by decide +kernel) (by decide +kernel)
set_option maxRecDepth 20000 in
theorem gX12_init_X12_said : GoodIn wsX12_init (wsV RX12 305 RX12 yX12_said wsX12_said) := goodIn_app (goodIn_of _ (by decide +kernel)) ggX12_init_X12_said
theorem dX12_init_0 : decode cX12_init 0 = .ok (.aload_n 0, 1) := by decide +kernel
theorem dX12_init_1 : decode cX12_init 1 = .ok (.invokespecial 1, 3) := by decide +kernel
theorem dX12_init_4 : decode cX12_init 4 = .ok (.aload_n 0, 1) := by decide +kernel
theorem dX12_init_5 : decode cX12_init 5 = .ok (.ldc 7, 2) := by decide +kernel
theorem dX12_init_7 : decode cX12_init 7 = .ok (.newarray .int, 2) := by decide +kernel
theorem dX12_init_9 : decode cX12_init 9 = .ok (.putfield 8, 3) := by decide +kernel
theorem dX12_init_12 : decode cX12_init 12 = .ok (.aload_n 0, 1) := by decide +kernel
theorem dX12_init_13 : decode cX12_init 13 = .ok (.ldc 7, 2) := by decide +kernel
theorem dX12_init_15 : decode cX12_init 15 = .ok (.newarray .int, 2) := by decide +kernel
theorem dX12_init_17 : decode cX12_init 17 = .ok (.putfield 14, 3) := by decide +kernel
theorem dX12_init_20 : decode cX12_init 20 = .ok (.aload_n 0, 1) := by decide +kernel
theorem dX12_init_21 : decode cX12_init 21 = .ok (.ldc 7, 2) := by decide +kernel
theorem dX12_init_23 : decode cX12_init 23 = .ok (.newarray .int, 2) := by decide +kernel
theorem dX12_init_25 : decode cX12_init 25 = .ok (.putfield 17, 3) := by decide +kernel
theorem dX12_init_28 : decode cX12_init 28 = .ok (.aload_n 0, 1) := by decide +kernel
theorem dX12_init_29 : decode cX12_init 29 = .ok (.ldc 7, 2) := by decide +kernel
theorem dX12_init_31 : decode cX12_init 31 = .ok (.newarray .int, 2) := by decide +kernel
theorem dX12_init_33 : decode cX12_init 33 = .ok (.putfield 20, 3) := by decide +kernel
theorem dX12_init_36 : decode cX12_init 36 = .ok (.aload_n 0, 1) := by decide +kernel
theorem dX12_init_37 : decode cX12_init 37 = .ok (.ldc 7, 2) := by decide +kernel
theorem dX12_init_39 : decode cX12_init 39 = .ok (.newarray .int, 2) := by decide +kernel
theorem dX12_init_41 : decode cX12_init 41 = .ok (.putfield 23, 3) := by decide +kernel
theorem dX12_init_44 : decode cX12_init 44 = .ok (.aload_n 0, 1) := by decide +kernel
theorem dX12_init_45 : decode cX12_init 45 = .ok (.ldc 26, 2) := by decide +kernel
theorem dX12_init_47 : decode cX12_init 47 = .ok (.newarray .long, 2) := by decide +kernel
theorem dX12_init_49 : decode cX12_init 49 = .ok (.putfield 27, 3) := by decide +kernel
theorem dX12_init_52 : decode cX12_init 52 = .ok (.aload_n 0, 1) := by decide +kernel
theorem dX12_init_53 : decode cX12_init 53 = .ok (.sipush 8192, 3) := by decide +kernel
theorem dX12_init_56 : decode cX12_init 56 = .ok (.newarray .int, 2) := by decide +kernel
theorem dX12_init_58 : decode cX12_init 58 = .ok (.putfield 31, 3) := by decide +kernel
theorem dX12_init_61 : decode cX12_init 61 = .ok (.aload_n 0, 1) := by decide +kernel
theorem dX12_init_62 : decode cX12_init 62 = .ok (.ldc 34, 2) := by decide +kernel
theorem dX12_init_64 : decode cX12_init 64 = .ok (.newarray .int, 2) := by decide +kernel
theorem dX12_init_66 : decode cX12_init 66 = .ok (.putfield 35, 3) := by decide +kernel
theorem dX12_init_69 : decode cX12_init 69 = .ok (.aload_n 0, 1) := by decide +kernel
theorem dX12_init_70 : decode cX12_init 70 = .ok (.sipush 21000, 3) := by decide +kernel
theorem dX12_init_73 : decode cX12_init 73 = .ok (.newarray .int, 2) := by decide +kernel
theorem dX12_init_75 : decode cX12_init 75 = .ok (.putfield 38, 3) := by decide +kernel
theorem dX12_init_78 : decode cX12_init 78 = .ok (.aload_n 0, 1) := by decide +kernel
theorem dX12_init_79 : decode cX12_init 79 = .ok (.bipush 20, 2) := by decide +kernel
theorem dX12_init_81 : decode cX12_init 81 = .ok (.newarray .int, 2) := by decide +kernel
theorem dX12_init_83 : decode cX12_init 83 = .ok (.putfield 41, 3) := by decide +kernel
theorem dX12_init_86 : decode cX12_init 86 = .ok (.aload_n 0, 1) := by decide +kernel
theorem dX12_init_87 : decode cX12_init 87 = .ok (.sipush 3000, 3) := by decide +kernel
theorem dX12_init_90 : decode cX12_init 90 = .ok (.newarray .int, 2) := by decide +kernel
theorem dX12_init_92 : decode cX12_init 92 = .ok (.putfield 44, 3) := by decide +kernel
theorem dX12_init_95 : decode cX12_init 95 = .ok (.aload_n 0, 1) := by decide +kernel
theorem dX12_init_96 : decode cX12_init 96 = .ok (.sipush 2000, 3) := by decide +kernel
theorem dX12_init_99 : decode cX12_init 99 = .ok (.newarray .int, 2) := by decide +kernel
theorem dX12_init_101 : decode cX12_init 101 = .ok (.putfield 47, 3) := by decide +kernel
theorem dX12_init_104 : decode cX12_init 104 = .ok (.aload_n 0, 1) := by decide +kernel
theorem dX12_init_105 : decode cX12_init 105 = .ok (.bipush 12, 2) := by decide +kernel
theorem dX12_init_107 : decode cX12_init 107 = .ok (.newarray .int, 2) := by decide +kernel
theorem dX12_init_109 : decode cX12_init 109 = .ok (.putfield 50, 3) := by decide +kernel
theorem dX12_init_112 : decode cX12_init 112 = .ok (.aload_n 0, 1) := by decide +kernel
theorem dX12_init_113 : decode cX12_init 113 = .ok (.sipush 4000, 3) := by decide +kernel
theorem dX12_init_116 : decode cX12_init 116 = .ok (.newarray .int, 2) := by decide +kernel
theorem dX12_init_118 : decode cX12_init 118 = .ok (.putfield 53, 3) := by decide +kernel
theorem dX12_init_121 : decode cX12_init 121 = .ok (.aload_n 0, 1) := by decide +kernel
theorem dX12_init_122 : decode cX12_init 122 = .ok (.sipush 200, 3) := by decide +kernel
theorem dX12_init_125 : decode cX12_init 125 = .ok (.newarray .int, 2) := by decide +kernel
theorem dX12_init_127 : decode cX12_init 127 = .ok (.putfield 56, 3) := by decide +kernel
theorem dX12_init_130 : decode cX12_init 130 = .ok (.aload_n 0, 1) := by decide +kernel
theorem dX12_init_131 : decode cX12_init 131 = .ok (.iconst (-1), 1) := by decide +kernel
theorem dX12_init_132 : decode cX12_init 132 = .ok (.putfield 59, 3) := by decide +kernel
theorem dX12_init_135 : decode cX12_init 135 = .ok (.aload_n 0, 1) := by decide +kernel
theorem dX12_init_136 : decode cX12_init 136 = .ok (.bipush 40, 2) := by decide +kernel
theorem dX12_init_138 : decode cX12_init 138 = .ok (.newarray .int, 2) := by decide +kernel
theorem dX12_init_140 : decode cX12_init 140 = .ok (.putfield 63, 3) := by decide +kernel
theorem dX12_init_143 : decode cX12_init 143 = .ok (.aload_n 0, 1) := by decide +kernel
theorem dX12_init_144 : decode cX12_init 144 = .ok (.bipush 40, 2) := by decide +kernel
theorem dX12_init_146 : decode cX12_init 146 = .ok (.newarray .int, 2) := by decide +kernel
theorem dX12_init_148 : decode cX12_init 148 = .ok (.putfield 66, 3) := by decide +kernel
theorem dX12_init_151 : decode cX12_init 151 = .ok (.aload_n 0, 1) := by decide +kernel
theorem dX12_init_152 : decode cX12_init 152 = .ok (.bipush 40, 2) := by decide +kernel
theorem dX12_init_154 : decode cX12_init 154 = .ok (.newarray .int, 2) := by decide +kernel
theorem dX12_init_156 : decode cX12_init 156 = .ok (.putfield 69, 3) := by decide +kernel
theorem dX12_init_159 : decode cX12_init 159 = .ok (.aload_n 0, 1) := by decide +kernel
theorem dX12_init_160 : decode cX12_init 160 = .ok (.bipush 40, 2) := by decide +kernel
theorem dX12_init_162 : decode cX12_init 162 = .ok (.newarray .int, 2) := by decide +kernel
theorem dX12_init_164 : decode cX12_init 164 = .ok (.putfield 72, 3) := by decide +kernel
theorem dX12_init_167 : decode cX12_init 167 = .ok (.aload_n 0, 1) := by decide +kernel
theorem dX12_init_168 : decode cX12_init 168 = .ok (.sipush 1100, 3) := by decide +kernel
theorem dX12_init_171 : decode cX12_init 171 = .ok (.newarray .int, 2) := by decide +kernel
theorem dX12_init_173 : decode cX12_init 173 = .ok (.putfield 75, 3) := by decide +kernel
theorem dX12_init_176 : decode cX12_init 176 = .ok (.aload_n 0, 1) := by decide +kernel
theorem dX12_init_177 : decode cX12_init 177 = .ok (.bipush 40, 2) := by decide +kernel
theorem dX12_init_179 : decode cX12_init 179 = .ok (.newarray .int, 2) := by decide +kernel
theorem dX12_init_181 : decode cX12_init 181 = .ok (.putfield 78, 3) := by decide +kernel
theorem dX12_init_184 : decode cX12_init 184 = .ok (.aload_n 0, 1) := by decide +kernel
theorem dX12_init_185 : decode cX12_init 185 = .ok (.bipush 40, 2) := by decide +kernel
theorem dX12_init_187 : decode cX12_init 187 = .ok (.newarray .int, 2) := by decide +kernel
theorem dX12_init_189 : decode cX12_init 189 = .ok (.putfield 81, 3) := by decide +kernel
theorem dX12_init_192 : decode cX12_init 192 = .ok (.aload_n 0, 1) := by decide +kernel
theorem dX12_init_193 : decode cX12_init 193 = .ok (.sipush 240, 3) := by decide +kernel
theorem dX12_init_196 : decode cX12_init 196 = .ok (.newarray .int, 2) := by decide +kernel
theorem dX12_init_198 : decode cX12_init 198 = .ok (.putfield 84, 3) := by decide +kernel
theorem dX12_init_201 : decode cX12_init 201 = .ok (.aload_n 0, 1) := by decide +kernel
theorem dX12_init_202 : decode cX12_init 202 = .ok (.bipush 40, 2) := by decide +kernel
theorem dX12_init_204 : decode cX12_init 204 = .ok (.newarray .int, 2) := by decide +kernel
theorem dX12_init_206 : decode cX12_init 206 = .ok (.putfield 87, 3) := by decide +kernel
theorem dX12_init_209 : decode cX12_init 209 = .ok (.aload_n 0, 1) := by decide +kernel
theorem dX12_init_210 : decode cX12_init 210 = .ok (.bipush 40, 2) := by decide +kernel
theorem dX12_init_212 : decode cX12_init 212 = .ok (.newarray .int, 2) := by decide +kernel
theorem dX12_init_214 : decode cX12_init 214 = .ok (.putfield 90, 3) := by decide +kernel
theorem dX12_init_217 : decode cX12_init 217 = .ok (.aload_n 0, 1) := by decide +kernel
theorem dX12_init_218 : decode cX12_init 218 = .ok (.bipush 40, 2) := by decide +kernel
theorem dX12_init_220 : decode cX12_init 220 = .ok (.newarray .boolean, 2) := by decide +kernel
theorem dX12_init_222 : decode cX12_init 222 = .ok (.putfield 93, 3) := by decide +kernel
theorem dX12_init_225 : decode cX12_init 225 = .ok (.aload_n 0, 1) := by decide +kernel
theorem dX12_init_226 : decode cX12_init 226 = .ok (.bipush 60, 2) := by decide +kernel
theorem dX12_init_228 : decode cX12_init 228 = .ok (.newarray .int, 2) := by decide +kernel
theorem dX12_init_230 : decode cX12_init 230 = .ok (.putfield 97, 3) := by decide +kernel
theorem dX12_init_233 : decode cX12_init 233 = .ok (.aload_n 0, 1) := by decide +kernel
theorem dX12_init_234 : decode cX12_init 234 = .ok (.bipush 60, 2) := by decide +kernel
theorem dX12_init_236 : decode cX12_init 236 = .ok (.newarray .int, 2) := by decide +kernel
theorem dX12_init_238 : decode cX12_init 238 = .ok (.putfield 100, 3) := by decide +kernel
theorem dX12_init_241 : decode cX12_init 241 = .ok (.aload_n 0, 1) := by decide +kernel
theorem dX12_init_242 : decode cX12_init 242 = .ok (.bipush 60, 2) := by decide +kernel
theorem dX12_init_244 : decode cX12_init 244 = .ok (.newarray .int, 2) := by decide +kernel
theorem dX12_init_246 : decode cX12_init 246 = .ok (.putfield 103, 3) := by decide +kernel
theorem dX12_init_249 : decode cX12_init 249 = .ok (.aload_n 0, 1) := by decide +kernel
theorem dX12_init_250 : decode cX12_init 250 = .ok (.bipush 60, 2) := by decide +kernel
theorem dX12_init_252 : decode cX12_init 252 = .ok (.newarray .int, 2) := by decide +kernel
theorem dX12_init_254 : decode cX12_init 254 = .ok (.putfield 106, 3) := by decide +kernel
theorem dX12_init_257 : decode cX12_init 257 = .ok (.aload_n 0, 1) := by decide +kernel
theorem dX12_init_258 : decode cX12_init 258 = .ok (.bipush 60, 2) := by decide +kernel
theorem dX12_init_260 : decode cX12_init 260 = .ok (.newarray .int, 2) := by decide +kernel
theorem dX12_init_262 : decode cX12_init 262 = .ok (.putfield 109, 3) := by decide +kernel
theorem dX12_init_265 : decode cX12_init 265 = .ok (.aload_n 0, 1) := by decide +kernel
theorem dX12_init_266 : decode cX12_init 266 = .ok (.bipush 60, 2) := by decide +kernel
theorem dX12_init_268 : decode cX12_init 268 = .ok (.newarray .int, 2) := by decide +kernel
theorem dX12_init_270 : decode cX12_init 270 = .ok (.putfield 112, 3) := by decide +kernel
theorem dX12_init_273 : decode cX12_init 273 = .ok (.aload_n 0, 1) := by decide +kernel
theorem dX12_init_274 : decode cX12_init 274 = .ok (.sipush 7200, 3) := by decide +kernel
theorem dX12_init_277 : decode cX12_init 277 = .ok (.newarray .int, 2) := by decide +kernel
theorem dX12_init_279 : decode cX12_init 279 = .ok (.putfield 115, 3) := by decide +kernel
theorem dX12_init_282 : decode cX12_init 282 = .ok (.aload_n 0, 1) := by decide +kernel
theorem dX12_init_283 : decode cX12_init 283 = .ok (.bipush 60, 2) := by decide +kernel
theorem dX12_init_285 : decode cX12_init 285 = .ok (.newarray .boolean, 2) := by decide +kernel
theorem dX12_init_287 : decode cX12_init 287 = .ok (.putfield 118, 3) := by decide +kernel
theorem dX12_init_290 : decode cX12_init 290 = .ok (.aload_n 0, 1) := by decide +kernel
theorem dX12_init_291 : decode cX12_init 291 = .ok (.bipush 60, 2) := by decide +kernel
theorem dX12_init_293 : decode cX12_init 293 = .ok (.newarray .boolean, 2) := by decide +kernel
theorem dX12_init_295 : decode cX12_init 295 = .ok (.putfield 121, 3) := by decide +kernel
theorem dX12_init_298 : decode cX12_init 298 = .ok (.aload_n 0, 1) := by decide +kernel
theorem dX12_init_299 : decode cX12_init 299 = .ok (.bipush 60, 2) := by decide +kernel
theorem dX12_init_301 : decode cX12_init 301 = .ok (.newarray .boolean, 2) := by decide +kernel
theorem dX12_init_303 : decode cX12_init 303 = .ok (.putfield 124, 3) := by decide +kernel
theorem dX12_init_306 : decode cX12_init 306 = .ok (.aload_n 0, 1) := by decide +kernel
theorem dX12_init_307 : decode cX12_init 307 = .ok (.bipush 60, 2) := by decide +kernel
theorem dX12_init_309 : decode cX12_init 309 = .ok (.newarray .boolean, 2) := by decide +kernel
theorem dX12_init_311 : decode cX12_init 311 = .ok (.putfield 127, 3) := by decide +kernel
theorem dX12_init_314 : decode cX12_init 314 = .ok (.aload_n 0, 1) := by decide +kernel
theorem dX12_init_315 : decode cX12_init 315 = .ok (.bipush 100, 2) := by decide +kernel
theorem dX12_init_317 : decode cX12_init 317 = .ok (.newarray .int, 2) := by decide +kernel
theorem dX12_init_319 : decode cX12_init 319 = .ok (.putfield 130, 3) := by decide +kernel
theorem dX12_init_322 : decode cX12_init 322 = .ok (.aload_n 0, 1) := by decide +kernel
theorem dX12_init_323 : decode cX12_init 323 = .ok (.bipush 100, 2) := by decide +kernel
theorem dX12_init_325 : decode cX12_init 325 = .ok (.newarray .int, 2) := by decide +kernel
theorem dX12_init_327 : decode cX12_init 327 = .ok (.putfield 133, 3) := by decide +kernel
theorem dX12_init_330 : decode cX12_init 330 = .ok (.aload_n 0, 1) := by decide +kernel
theorem dX12_init_331 : decode cX12_init 331 = .ok (.iconst (-1), 1) := by decide +kernel
theorem dX12_init_332 : decode cX12_init 332 = .ok (.putfield 136, 3) := by decide +kernel
theorem dX12_init_335 : decode cX12_init 335 = .ok (.aload_n 0, 1) := by decide +kernel
theorem dX12_init_336 : decode cX12_init 336 = .ok (.sipush 1000, 3) := by decide +kernel
theorem dX12_init_339 : decode cX12_init 339 = .ok (.putfield 139, 3) := by decide +kernel
theorem dX12_init_342 : decode cX12_init 342 = .ok (.aload_n 0, 1) := by decide +kernel
theorem dX12_init_343 : decode cX12_init 343 = .ok (.sipush 200, 3) := by decide +kernel
theorem dX12_init_346 : decode cX12_init 346 = .ok (.newarray .int, 2) := by decide +kernel
theorem dX12_init_348 : decode cX12_init 348 = .ok (.putfield 142, 3) := by decide +kernel
theorem dX12_init_351 : decode cX12_init 351 = .ok (.aload_n 0, 1) := by decide +kernel
theorem dX12_init_352 : decode cX12_init 352 = .ok (.sipush 1200, 3) := by decide +kernel
theorem dX12_init_355 : decode cX12_init 355 = .ok (.newarray .int, 2) := by decide +kernel
theorem dX12_init_357 : decode cX12_init 357 = .ok (.putfield 145, 3) := by decide +kernel
theorem dX12_init_360 : decode cX12_init 360 = .ok (.aload_n 0, 1) := by decide +kernel
theorem dX12_init_361 : decode cX12_init 361 = .ok (.sipush 1200, 3) := by decide +kernel
theorem dX12_init_364 : decode cX12_init 364 = .ok (.newarray .int, 2) := by decide +kernel
theorem dX12_init_366 : decode cX12_init 366 = .ok (.putfield 148, 3) := by decide +kernel
theorem dX12_init_369 : decode cX12_init 369 = .ok (.aload_n 0, 1) := by decide +kernel
theorem dX12_init_370 : decode cX12_init 370 = .ok (.sipush 1200, 3) := by decide +kernel
theorem dX12_init_373 : decode cX12_init 373 = .ok (.newarray .int, 2) := by decide +kernel
theorem dX12_init_375 : decode cX12_init 375 = .ok (.putfield 151, 3) := by decide +kernel
theorem dX12_init_378 : decode cX12_init 378 = .ok (.aload_n 0, 1) := by decide +kernel
theorem dX12_init_379 : decode cX12_init 379 = .ok (.sipush 2400, 3) := by decide +kernel
theorem dX12_init_382 : decode cX12_init 382 = .ok (.newarray .int, 2) := by decide +kernel
theorem dX12_init_384 : decode cX12_init 384 = .ok (.putfield 154, 3) := by decide +kernel
theorem dX12_init_387 : decode cX12_init 387 = .ok (.aload_n 0, 1) := by decide +kernel
theorem dX12_init_388 : decode cX12_init 388 = .ok (.sipush 400, 3) := by decide +kernel
theorem dX12_init_391 : decode cX12_init 391 = .ok (.newarray .int, 2) := by decide +kernel
theorem dX12_init_393 : decode cX12_init 393 = .ok (.putfield 157, 3) := by decide +kernel
theorem dX12_init_396 : decode cX12_init 396 = .ok (.aload_n 0, 1) := by decide +kernel
theorem dX12_init_397 : decode cX12_init 397 = .ok (.sipush 400, 3) := by decide +kernel
theorem dX12_init_400 : decode cX12_init 400 = .ok (.newarray .int, 2) := by decide +kernel
theorem dX12_init_402 : decode cX12_init 402 = .ok (.putfield 160, 3) := by decide +kernel
theorem dX12_init_405 : decode cX12_init 405 = .ok (.aload_n 0, 1) := by decide +kernel
theorem dX12_init_406 : decode cX12_init 406 = .ok (.sipush 400, 3) := by decide +kernel
theorem dX12_init_409 : decode cX12_init 409 = .ok (.newarray .int, 2) := by decide +kernel
theorem dX12_init_411 : decode cX12_init 411 = .ok (.putfield 163, 3) := by decide +kernel
theorem dX12_init_414 : decode cX12_init 414 = .ok (.aload_n 0, 1) := by decide +kernel
theorem dX12_init_415 : decode cX12_init 415 = .ok (.sipush 130, 3) := by decide +kernel
theorem dX12_init_418 : decode cX12_init 418 = .ok (.newarray .int, 2) := by decide +kernel
theorem dX12_init_420 : decode cX12_init 420 = .ok (.putfield 166, 3) := by decide +kernel
theorem dX12_init_423 : decode cX12_init 423 = .ok (.aload_n 0, 1) := by decide +kernel
theorem dX12_init_424 : decode cX12_init 424 = .ok (.sipush 300, 3) := by decide +kernel
theorem dX12_init_427 : decode cX12_init 427 = .ok (.newarray .int, 2) := by decide +kernel
theorem dX12_init_429 : decode cX12_init 429 = .ok (.putfield 169, 3) := by decide +kernel
theorem dX12_init_432 : decode cX12_init 432 = .ok (.aload_n 0, 1) := by decide +kernel
theorem dX12_init_433 : decode cX12_init 433 = .ok (.sipush 300, 3) := by decide +kernel
theorem dX12_init_436 : decode cX12_init 436 = .ok (.newarray .int, 2) := by decide +kernel
theorem dX12_init_438 : decode cX12_init 438 = .ok (.putfield 172, 3) := by decide +kernel
theorem dX12_init_441 : decode cX12_init 441 = .ok (.aload_n 0, 1) := by decide +kernel
theorem dX12_init_442 : decode cX12_init 442 = .ok (.sipush 300, 3) := by decide +kernel
theorem dX12_init_445 : decode cX12_init 445 = .ok (.newarray .int, 2) := by decide +kernel
theorem dX12_init_447 : decode cX12_init 447 = .ok (.putfield 175, 3) := by decide +kernel
theorem dX12_init_450 : decode cX12_init 450 = .ok (.aload_n 0, 1) := by decide +kernel
theorem dX12_init_451 : decode cX12_init 451 = .ok (.sipush 300, 3) := by decide +kernel
theorem dX12_init_454 : decode cX12_init 454 = .ok (.newarray .int, 2) := by decide +kernel
theorem dX12_init_456 : decode cX12_init 456 = .ok (.putfield 178, 3) := by decide +kernel
theorem dX12_init_459 : decode cX12_init 459 = .ok (.aload_n 0, 1) := by decide +kernel
theorem dX12_init_460 : decode cX12_init 460 = .ok (.sipush 300, 3) := by decide +kernel
theorem dX12_init_463 : decode cX12_init 463 = .ok (.newarray .int, 2) := by decide +kernel
theorem dX12_init_465 : decode cX12_init 465 = .ok (.putfield 181, 3) := by decide +kernel
theorem dX12_init_468 : decode cX12_init 468 = .ok (.aload_n 0, 1) := by decide +kernel
theorem dX12_init_469 : decode cX12_init 469 = .ok (.sipush 300, 3) := by decide +kernel
theorem dX12_init_472 : decode cX12_init 472 = .ok (.newarray .boolean, 2) := by decide +kernel
theorem dX12_init_474 : decode cX12_init 474 = .ok (.putfield 184, 3) := by decide +kernel
theorem dX12_init_477 : decode cX12_init 477 = .ok (.aload_n 0, 1) := by decide +kernel
theorem dX12_init_478 : decode cX12_init 478 = .ok (.sipush 2400, 3) := by decide +kernel
theorem dX12_init_481 : decode cX12_init 481 = .ok (.newarray .int, 2) := by decide +kernel
theorem dX12_init_483 : decode cX12_init 483 = .ok (.putfield 187, 3) := by decide +kernel
theorem dX12_init_486 : decode cX12_init 486 = .ok (.aload_n 0, 1) := by decide +kernel
theorem dX12_init_487 : decode cX12_init 487 = .ok (.bipush 60, 2) := by decide +kernel
theorem dX12_init_489 : decode cX12_init 489 = .ok (.newarray .int, 2) := by decide +kernel
theorem dX12_init_491 : decode cX12_init 491 = .ok (.putfield 190, 3) := by decide +kernel
theorem dX12_init_494 : decode cX12_init 494 = .ok (.aload_n 0, 1) := by decide +kernel
theorem dX12_init_495 : decode cX12_init 495 = .ok (.bipush 60, 2) := by decide +kernel
theorem dX12_init_497 : decode cX12_init 497 = .ok (.newarray .boolean, 2) := by decide +kernel
theorem dX12_init_499 : decode cX12_init 499 = .ok (.putfield 193, 3) := by decide +kernel
theorem dX12_init_502 : decode cX12_init 502 = .ok (.aload_n 0, 1) := by decide +kernel
theorem dX12_init_503 : decode cX12_init 503 = .ok (.bipush 60, 2) := by decide +kernel
theorem dX12_init_505 : decode cX12_init 505 = .ok (.newarray .int, 2) := by decide +kernel
theorem dX12_init_507 : decode cX12_init 507 = .ok (.putfield 196, 3) := by decide +kernel
theorem dX12_init_510 : decode cX12_init 510 = .ok (.aload_n 0, 1) := by decide +kernel
theorem dX12_init_511 : decode cX12_init 511 = .ok (.bipush 60, 2) := by decide +kernel
theorem dX12_init_513 : decode cX12_init 513 = .ok (.newarray .int, 2) := by decide +kernel
theorem dX12_init_515 : decode cX12_init 515 = .ok (.putfield 199, 3) := by decide +kernel
theorem dX12_init_518 : decode cX12_init 518 = .ok (.aload_n 0, 1) := by decide +kernel
theorem dX12_init_519 : decode cX12_init 519 = .ok (.bipush 60, 2) := by decide +kernel
theorem dX12_init_521 : decode cX12_init 521 = .ok (.newarray .int, 2) := by decide +kernel
theorem dX12_init_523 : decode cX12_init 523 = .ok (.putfield 202, 3) := by decide +kernel
theorem dX12_init_526 : decode cX12_init 526 = .ok (.aload_n 0, 1) := by decide +kernel
theorem dX12_init_527 : decode cX12_init 527 = .ok (.bipush 60, 2) := by decide +kernel
theorem dX12_init_529 : decode cX12_init 529 = .ok (.newarray .int, 2) := by decide +kernel
theorem dX12_init_531 : decode cX12_init 531 = .ok (.putfield 205, 3) := by decide +kernel
theorem dX12_init_534 : decode cX12_init 534 = .ok (.aload_n 0, 1) := by decide +kernel
theorem dX12_init_535 : decode cX12_init 535 = .ok (.bipush 60, 2) := by decide +kernel
theorem dX12_init_537 : decode cX12_init 537 = .ok (.newarray .int, 2) := by decide +kernel
theorem dX12_init_539 : decode cX12_init 539 = .ok (.putfield 208, 3) := by decide +kernel
theorem dX12_init_542 : decode cX12_init 542 = .ok (.aload_n 0, 1) := by decide +kernel
theorem dX12_init_543 : decode cX12_init 543 = .ok (.bipush 60, 2) := by decide +kernel
theorem dX12_init_545 : decode cX12_init 545 = .ok (.newarray .int, 2) := by decide +kernel
theorem dX12_init_547 : decode cX12_init 547 = .ok (.putfield 211, 3) := by decide +kernel
theorem dX12_init_550 : decode cX12_init 550 = .ok (.aload_n 0, 1) := by decide +kernel
theorem dX12_init_551 : decode cX12_init 551 = .ok (.bipush 60, 2) := by decide +kernel
theorem dX12_init_553 : decode cX12_init 553 = .ok (.newarray .int, 2) := by decide +kernel
theorem dX12_init_555 : decode cX12_init 555 = .ok (.putfield 214, 3) := by decide +kernel
theorem dX12_init_558 : decode cX12_init 558 = .ok (.aload_n 0, 1) := by decide +kernel
theorem dX12_init_559 : decode cX12_init 559 = .ok (.bipush 60, 2) := by decide +kernel
theorem dX12_init_561 : decode cX12_init 561 = .ok (.newarray .int, 2) := by decide +kernel
theorem dX12_init_563 : decode cX12_init 563 = .ok (.putfield 217, 3) := by decide +kernel
theorem dX12_init_566 : decode cX12_init 566 = .ok (.aload_n 0, 1) := by decide +kernel
theorem dX12_init_567 : decode cX12_init 567 = .ok (.sipush 1200, 3) := by decide +kernel
theorem dX12_init_570 : decode cX12_init 570 = .ok (.newarray .int, 2) := by decide +kernel
theorem dX12_init_572 : decode cX12_init 572 = .ok (.putfield 220, 3) := by decide +kernel
theorem dX12_init_575 : decode cX12_init 575 = .ok (.aload_n 0, 1) := by decide +kernel
theorem dX12_init_576 : decode cX12_init 576 = .ok (.sipush 7800, 3) := by decide +kernel
theorem dX12_init_579 : decode cX12_init 579 = .ok (.newarray .int, 2) := by decide +kernel
theorem dX12_init_581 : decode cX12_init 581 = .ok (.putfield 223, 3) := by decide +kernel
theorem dX12_init_584 : decode cX12_init 584 = .ok (.aload_n 0, 1) := by decide +kernel
theorem dX12_init_585 : decode cX12_init 585 = .ok (.sipush 7800, 3) := by decide +kernel
theorem dX12_init_588 : decode cX12_init 588 = .ok (.newarray .int, 2) := by decide +kernel
theorem dX12_init_590 : decode cX12_init 590 = .ok (.putfield 226, 3) := by decide +kernel
theorem dX12_init_593 : decode cX12_init 593 = .ok (.aload_n 0, 1) := by decide +kernel
theorem dX12_init_594 : decode cX12_init 594 = .ok (.bipush 60, 2) := by decide +kernel
theorem dX12_init_596 : decode cX12_init 596 = .ok (.newarray .int, 2) := by decide +kernel
theorem dX12_init_598 : decode cX12_init 598 = .ok (.putfield 229, 3) := by decide +kernel
theorem dX12_init_601 : decode cX12_init 601 = .ok (.aload_n 0, 1) := by decide +kernel
theorem dX12_init_602 : decode cX12_init 602 = .ok (.sipush 200, 3) := by decide +kernel
theorem dX12_init_605 : decode cX12_init 605 = .ok (.newarray .int, 2) := by decide +kernel
theorem dX12_init_607 : decode cX12_init 607 = .ok (.putfield 232, 3) := by decide +kernel
theorem dX12_init_610 : decode cX12_init 610 = .ok (.aload_n 0, 1) := by decide +kernel
theorem dX12_init_611 : decode cX12_init 611 = .ok (.sipush 800, 3) := by decide +kernel
theorem dX12_init_614 : decode cX12_init 614 = .ok (.newarray .int, 2) := by decide +kernel
theorem dX12_init_616 : decode cX12_init 616 = .ok (.putfield 235, 3) := by decide +kernel
theorem dX12_init_619 : decode cX12_init 619 = .ok (.aload_n 0, 1) := by decide +kernel
theorem dX12_init_620 : decode cX12_init 620 = .ok (.sipush 800, 3) := by decide +kernel
theorem dX12_init_623 : decode cX12_init 623 = .ok (.newarray .int, 2) := by decide +kernel
theorem dX12_init_625 : decode cX12_init 625 = .ok (.putfield 238, 3) := by decide +kernel
theorem dX12_init_628 : decode cX12_init 628 = .ok (.aload_n 0, 1) := by decide +kernel
theorem dX12_init_629 : decode cX12_init 629 = .ok (.ldc 241, 2) := by decide +kernel
theorem dX12_init_631 : decode cX12_init 631 = .ok (.newarray .int, 2) := by decide +kernel
theorem dX12_init_633 : decode cX12_init 633 = .ok (.putfield 242, 3) := by decide +kernel
theorem dX12_init_636 : decode cX12_init 636 = .ok (.aload_n 0, 1) := by decide +kernel
theorem dX12_init_637 : decode cX12_init 637 = .ok (.sipush 2300, 3) := by decide +kernel
theorem dX12_init_640 : decode cX12_init 640 = .ok (.newarray .int, 2) := by decide +kernel
theorem dX12_init_642 : decode cX12_init 642 = .ok (.putfield 245, 3) := by decide +kernel
theorem dX12_init_645 : decode cX12_init 645 = .ok (.aload_n 0, 1) := by decide +kernel
theorem dX12_init_646 : decode cX12_init 646 = .ok (.sipush 2300, 3) := by decide +kernel
theorem dX12_init_649 : decode cX12_init 649 = .ok (.newarray .int, 2) := by decide +kernel
theorem dX12_init_651 : decode cX12_init 651 = .ok (.putfield 248, 3) := by decide +kernel
theorem dX12_init_654 : decode cX12_init 654 = .ok (.aload_n 0, 1) := by decide +kernel
theorem dX12_init_655 : decode cX12_init 655 = .ok (.sipush 2300, 3) := by decide +kernel
theorem dX12_init_658 : decode cX12_init 658 = .ok (.newarray .int, 2) := by decide +kernel
theorem dX12_init_660 : decode cX12_init 660 = .ok (.putfield 251, 3) := by decide +kernel
theorem dX12_init_663 : decode cX12_init 663 = .ok (.aload_n 0, 1) := by decide +kernel
theorem dX12_init_664 : decode cX12_init 664 = .ok (.bipush 20, 2) := by decide +kernel
theorem dX12_init_666 : decode cX12_init 666 = .ok (.newarray .int, 2) := by decide +kernel
theorem dX12_init_668 : decode cX12_init 668 = .ok (.putfield 254, 3) := by decide +kernel
theorem dX12_init_671 : decode cX12_init 671 = .ok (.aload_n 0, 1) := by decide +kernel
theorem dX12_init_672 : decode cX12_init 672 = .ok (.sipush 1200, 3) := by decide +kernel
theorem dX12_init_675 : decode cX12_init 675 = .ok (.newarray .int, 2) := by decide +kernel
theorem dX12_init_677 : decode cX12_init 677 = .ok (.putfield 257, 3) := by decide +kernel
theorem dX12_init_680 : decode cX12_init 680 = .ok (.aload_n 0, 1) := by decide +kernel
theorem dX12_init_681 : decode cX12_init 681 = .ok (.sipush 128, 3) := by decide +kernel
theorem dX12_init_684 : decode cX12_init 684 = .ok (.newarray .int, 2) := by decide +kernel
theorem dX12_init_686 : decode cX12_init 686 = .ok (.putfield 260, 3) := by decide +kernel
theorem dX12_init_689 : decode cX12_init 689 = .ok (.aload_n 0, 1) := by decide +kernel
theorem dX12_init_690 : decode cX12_init 690 = .ok (.sipush 8192, 3) := by decide +kernel
theorem dX12_init_693 : decode cX12_init 693 = .ok (.newarray .int, 2) := by decide +kernel
theorem dX12_init_695 : decode cX12_init 695 = .ok (.putfield 263, 3) := by decide +kernel
theorem dX12_init_698 : decode cX12_init 698 = .ok (.aload_n 0, 1) := by decide +kernel
theorem dX12_init_699 : decode cX12_init 699 = .ok (.sipush 128, 3) := by decide +kernel
theorem dX12_init_702 : decode cX12_init 702 = .ok (.newarray .int, 2) := by decide +kernel
theorem dX12_init_704 : decode cX12_init 704 = .ok (.putfield 266, 3) := by decide +kernel
theorem dX12_init_707 : decode cX12_init 707 = .ok (.aload_n 0, 1) := by decide +kernel
theorem dX12_init_708 : decode cX12_init 708 = .ok (.sipush 128, 3) := by decide +kernel
theorem dX12_init_711 : decode cX12_init 711 = .ok (.newarray .int, 2) := by decide +kernel
theorem dX12_init_713 : decode cX12_init 713 = .ok (.putfield 269, 3) := by decide +kernel
theorem dX12_init_716 : decode cX12_init 716 = .ok (.aload_n 0, 1) := by decide +kernel
theorem dX12_init_717 : decode cX12_init 717 = .ok (.sipush 8192, 3) := by decide +kernel
theorem dX12_init_720 : decode cX12_init 720 = .ok (.newarray .int, 2) := by decide +kernel
theorem dX12_init_722 : decode cX12_init 722 = .ok (.putfield 272, 3) := by decide +kernel
theorem dX12_init_725 : decode cX12_init 725 = .ok (.aload_n 0, 1) := by decide +kernel
theorem dX12_init_726 : decode cX12_init 726 = .ok (.sipush 128, 3) := by decide +kernel
theorem dX12_init_729 : decode cX12_init 729 = .ok (.newarray .int, 2) := by decide +kernel
theorem dX12_init_731 : decode cX12_init 731 = .ok (.putfield 275, 3) := by decide +kernel
theorem dX12_init_734 : decode cX12_init 734 = .ok (.aload_n 0, 1) := by decide +kernel
theorem dX12_init_735 : decode cX12_init 735 = .ok (.sipush 130, 3) := by decide +kernel
theorem dX12_init_738 : decode cX12_init 738 = .ok (.newarray .int, 2) := by decide +kernel
theorem dX12_init_740 : decode cX12_init 740 = .ok (.putfield 278, 3) := by decide +kernel
theorem dX12_init_743 : decode cX12_init 743 = .ok (.aload_n 0, 1) := by decide +kernel
theorem dX12_init_744 : decode cX12_init 744 = .ok (.sipush 400, 3) := by decide +kernel
theorem dX12_init_747 : decode cX12_init 747 = .ok (.newarray .int, 2) := by decide +kernel
theorem dX12_init_749 : decode cX12_init 749 = .ok (.putfield 281, 3) := by decide +kernel
theorem dX12_init_752 : decode cX12_init 752 = .ok (.aload_n 0, 1) := by decide +kernel
theorem dX12_init_753 : decode cX12_init 753 = .ok (.sipush 400, 3) := by decide +kernel
theorem dX12_init_756 : decode cX12_init 756 = .ok (.newarray .int, 2) := by decide +kernel
theorem dX12_init_758 : decode cX12_init 758 = .ok (.putfield 284, 3) := by decide +kernel
theorem dX12_init_761 : decode cX12_init 761 = .ok (.aload_n 0, 1) := by decide +kernel
theorem dX12_init_762 : decode cX12_init 762 = .ok (.bipush 6, 2) := by decide +kernel
theorem dX12_init_764 : decode cX12_init 764 = .ok (.newarray .int, 2) := by decide +kernel
theorem dX12_init_766 : decode cX12_init 766 = .ok (.putfield 287, 3) := by decide +kernel
theorem dX12_init_769 : decode cX12_init 769 = .ok (.aload_n 0, 1) := by decide +kernel
theorem dX12_init_770 : decode cX12_init 770 = .ok (.bipush 40, 2) := by decide +kernel
theorem dX12_init_772 : decode cX12_init 772 = .ok (.newarray .int, 2) := by decide +kernel
theorem dX12_init_774 : decode cX12_init 774 = .ok (.putfield 290, 3) := by decide +kernel
theorem dX12_init_777 : decode cX12_init 777 = .ok (.aload_n 0, 1) := by decide +kernel
theorem dX12_init_778 : decode cX12_init 778 = .ok (.bipush 40, 2) := by decide +kernel
theorem dX12_init_780 : decode cX12_init 780 = .ok (.newarray .int, 2) := by decide +kernel
theorem dX12_init_782 : decode cX12_init 782 = .ok (.putfield 293, 3) := by decide +kernel
theorem dX12_init_785 : decode cX12_init 785 = .ok (.aload_n 0, 1) := by decide +kernel
theorem dX12_init_786 : decode cX12_init 786 = .ok (.bipush 40, 2) := by decide +kernel
theorem dX12_init_788 : decode cX12_init 788 = .ok (.newarray .int, 2) := by decide +kernel
theorem dX12_init_790 : decode cX12_init 790 = .ok (.putfield 296, 3) := by decide +kernel
theorem dX12_init_793 : decode cX12_init 793 = .ok (.aload_n 0, 1) := by decide +kernel
theorem dX12_init_794 : decode cX12_init 794 = .ok (.sipush 10500, 3) := by decide +kernel
theorem dX12_init_797 : decode cX12_init 797 = .ok (.newarray .int, 2) := by decide +kernel
theorem dX12_init_799 : decode cX12_init 799 = .ok (.putfield 299, 3) := by decide +kernel
theorem dX12_init_802 : decode cX12_init 802 = .ok (.aload_n 0, 1) := by decide +kernel
theorem dX12_init_803 : decode cX12_init 803 = .ok (.sipush 350, 3) := by decide +kernel
theorem dX12_init_806 : decode cX12_init 806 = .ok (.newarray .int, 2) := by decide +kernel
theorem dX12_init_808 : decode cX12_init 808 = .ok (.putfield 302, 3) := by decide +kernel
theorem dX12_init_811 : decode cX12_init 811 = .ok (.iconst 0, 1) := by decide +kernel
theorem dX12_init_812 : decode cX12_init 812 = .ok (.istore_n 1, 1) := by decide +kernel
theorem dX12_init_813 : decode cX12_init 813 = .ok (.iload_n 1, 1) := by decide +kernel
theorem dX12_init_814 : decode cX12_init 814 = .ok (.sipush 8192, 3) := by decide +kernel
theorem dX12_init_817 : decode cX12_init 817 = .ok (.if_icmp .ge 16, 3) := by decide +kernel
theorem dX12_init_820 : decode cX12_init 820 = .ok (.aload_n 0, 1) := by decide +kernel
theorem dX12_init_821 : decode cX12_init 821 = .ok (.getfield 31, 3) := by decide +kernel
theorem dX12_init_824 : decode cX12_init 824 = .ok (.iload_n 1, 1) := by decide +kernel
theorem dX12_init_825 : decode cX12_init 825 = .ok (.iconst (-1), 1) := by decide +kernel
theorem dX12_init_826 : decode cX12_init 826 = .ok (.iastore, 1) := by decide +kernel
theorem dX12_init_827 : decode cX12_init 827 = .ok (.iinc 1 1, 3) := by decide +kernel
theorem dX12_init_830 : decode cX12_init 830 = .ok (.goto (-17), 3) := by decide +kernel
theorem dX12_init_833 : decode cX12_init 833 = .ok (.aload_n 0, 1) := by decide +kernel
theorem dX12_init_834 : decode cX12_init 834 = .ok (.bipush 110, 2) := by decide +kernel
theorem dX12_init_836 : decode cX12_init 836 = .ok (.bipush 105, 2) := by decide +kernel
theorem dX12_init_838 : decode cX12_init 838 = .ok (.bipush 108, 2) := by decide +kernel
theorem dX12_init_840 : decode cX12_init 840 = .ok (.iconst 0, 1) := by decide +kernel
theorem dX12_init_841 : decode cX12_init 841 = .ok (.iconst 0, 1) := by decide +kernel
theorem dX12_init_842 : decode cX12_init 842 = .ok (.iconst 0, 1) := by decide +kernel
theorem dX12_init_843 : decode cX12_init 843 = .ok (.iconst 0, 1) := by decide +kernel
theorem dX12_init_844 : decode cX12_init 844 = .ok (.iconst 0, 1) := by decide +kernel
theorem dX12_init_845 : decode cX12_init 845 = .ok (.invokevirtual 305, 3) := by decide +kernel
theorem dX12_init_848 : decode cX12_init 848 = .ok (.aload_n 0, 1) := by decide +kernel
theorem dX12_init_849 : decode cX12_init 849 = .ok (.bipush 116, 2) := by decide +kernel
theorem dX12_init_851 : decode cX12_init 851 = .ok (.iconst 0, 1) := by decide +kernel
theorem dX12_init_852 : decode cX12_init 852 = .ok (.iconst 0, 1) := by decide +kernel
theorem dX12_init_853 : decode cX12_init 853 = .ok (.iconst 0, 1) := by decide +kernel
theorem dX12_init_854 : decode cX12_init 854 = .ok (.iconst 0, 1) := by decide +kernel
theorem dX12_init_855 : decode cX12_init 855 = .ok (.iconst 0, 1) := by decide +kernel
theorem dX12_init_856 : decode cX12_init 856 = .ok (.iconst 0, 1) := by decide +kernel
theorem dX12_init_857 : decode cX12_init 857 = .ok (.iconst 0, 1) := by decide +kernel
theorem dX12_init_858 : decode cX12_init 858 = .ok (.invokevirtual 305, 3) := by decide +kernel
theorem dX12_init_861 : decode cX12_init 861 = .ok (.aload_n 0, 1) := by decide +kernel
theorem dX12_init_862 : decode cX12_init 862 = .ok (.bipush 113, 2) := by decide +kernel
theorem dX12_init_864 : decode cX12_init 864 = .ok (.bipush 117, 2) := by decide +kernel
theorem dX12_init_866 : decode cX12_init 866 = .ok (.bipush 111, 2) := by decide +kernel
theorem dX12_init_868 : decode cX12_init 868 = .ok (.bipush 116, 2) := by decide +kernel
theorem dX12_init_870 : decode cX12_init 870 = .ok (.bipush 101, 2) := by decide +kernel
theorem dX12_init_872 : decode cX12_init 872 = .ok (.iconst 0, 1) := by decide +kernel
theorem dX12_init_873 : decode cX12_init 873 = .ok (.iconst 0, 1) := by decide +kernel
theorem dX12_init_874 : decode cX12_init 874 = .ok (.iconst 0, 1) := by decide +kernel
theorem dX12_init_875 : decode cX12_init 875 = .ok (.invokevirtual 305, 3) := by decide +kernel
theorem dX12_init_878 : decode cX12_init 878 = .ok (.aload_n 0, 1) := by decide +kernel
theorem dX12_init_879 : decode cX12_init 879 = .ok (.bipush 105, 2) := by decide +kernel
theorem dX12_init_881 : decode cX12_init 881 = .ok (.bipush 102, 2) := by decide +kernel
theorem dX12_init_883 : decode cX12_init 883 = .ok (.iconst 0, 1) := by decide +kernel
theorem dX12_init_884 : decode cX12_init 884 = .ok (.iconst 0, 1) := by decide +kernel
theorem dX12_init_885 : decode cX12_init 885 = .ok (.iconst 0, 1) := by decide +kernel
theorem dX12_init_886 : decode cX12_init 886 = .ok (.iconst 0, 1) := by decide +kernel
theorem dX12_init_887 : decode cX12_init 887 = .ok (.iconst 0, 1) := by decide +kernel
theorem dX12_init_888 : decode cX12_init 888 = .ok (.iconst 0, 1) := by decide +kernel
theorem dX12_init_889 : decode cX12_init 889 = .ok (.invokevirtual 305, 3) := by decide +kernel
theorem dX12_init_892 : decode cX12_init 892 = .ok (.aload_n 0, 1) := by decide +kernel
theorem dX12_init_893 : decode cX12_init 893 = .ok (.bipush 101, 2) := by decide +kernel
theorem dX12_init_895 : decode cX12_init 895 = .ok (.bipush 113, 2) := by decide +kernel
theorem dX12_init_897 : decode cX12_init 897 = .ok (.bipush 117, 2) := by decide +kernel
theorem dX12_init_899 : decode cX12_init 899 = .ok (.bipush 97, 2) := by decide +kernel
theorem dX12_init_901 : decode cX12_init 901 = .ok (.bipush 108, 2) := by decide +kernel
theorem dX12_init_903 : decode cX12_init 903 = .ok (.iconst 0, 1) := by decide +kernel
theorem dX12_init_904 : decode cX12_init 904 = .ok (.iconst 0, 1) := by decide +kernel
theorem dX12_init_905 : decode cX12_init 905 = .ok (.iconst 0, 1) := by decide +kernel
theorem dX12_init_906 : decode cX12_init 906 = .ok (.invokevirtual 305, 3) := by decide +kernel
theorem dX12_init_909 : decode cX12_init 909 = .ok (.aload_n 0, 1) := by decide +kernel
theorem dX12_init_910 : decode cX12_init 910 = .ok (.bipush 99, 2) := by decide +kernel
theorem dX12_init_912 : decode cX12_init 912 = .ok (.bipush 111, 2) := by decide +kernel
theorem dX12_init_914 : decode cX12_init 914 = .ok (.bipush 110, 2) := by decide +kernel
theorem dX12_init_916 : decode cX12_init 916 = .ok (.bipush 115, 2) := by decide +kernel
theorem dX12_init_918 : decode cX12_init 918 = .ok (.iconst 0, 1) := by decide +kernel
theorem dX12_init_919 : decode cX12_init 919 = .ok (.iconst 0, 1) := by decide +kernel
theorem dX12_init_920 : decode cX12_init 920 = .ok (.iconst 0, 1) := by decide +kernel
theorem dX12_init_921 : decode cX12_init 921 = .ok (.iconst 0, 1) := by decide +kernel
theorem dX12_init_922 : decode cX12_init 922 = .ok (.invokevirtual 305, 3) := by decide +kernel
theorem dX12_init_925 : decode cX12_init 925 = .ok (.aload_n 0, 1) := by decide +kernel
theorem dX12_init_926 : decode cX12_init 926 = .ok (.bipush 105, 2) := by decide +kernel
theorem dX12_init_928 : decode cX12_init 928 = .ok (.bipush 109, 2) := by decide +kernel
theorem dX12_init_930 : decode cX12_init 930 = .ok (.bipush 112, 2) := by decide +kernel
theorem dX12_init_932 : decode cX12_init 932 = .ok (.bipush 108, 2) := by decide +kernel
theorem dX12_init_934 : decode cX12_init 934 = .ok (.bipush 105, 2) := by decide +kernel
theorem dX12_init_936 : decode cX12_init 936 = .ok (.bipush 101, 2) := by decide +kernel
theorem dX12_init_938 : decode cX12_init 938 = .ok (.bipush 115, 2) := by decide +kernel
theorem dX12_init_940 : decode cX12_init 940 = .ok (.iconst 0, 1) := by decide +kernel
theorem dX12_init_941 : decode cX12_init 941 = .ok (.invokevirtual 305, 3) := by decide +kernel
theorem dX12_init_944 : decode cX12_init 944 = .ok (.aload_n 0, 1) := by decide +kernel
theorem dX12_init_945 : decode cX12_init 945 = .ok (.bipush 43, 2) := by decide +kernel
theorem dX12_init_947 : decode cX12_init 947 = .ok (.iconst 0, 1) := by decide +kernel
theorem dX12_init_948 : decode cX12_init 948 = .ok (.iconst 0, 1) := by decide +kernel
theorem dX12_init_949 : decode cX12_init 949 = .ok (.iconst 0, 1) := by decide +kernel
theorem dX12_init_950 : decode cX12_init 950 = .ok (.iconst 0, 1) := by decide +kernel
theorem dX12_init_951 : decode cX12_init 951 = .ok (.iconst 0, 1) := by decide +kernel
theorem dX12_init_952 : decode cX12_init 952 = .ok (.iconst 0, 1) := by decide +kernel
theorem dX12_init_953 : decode cX12_init 953 = .ok (.iconst 0, 1) := by decide +kernel
theorem dX12_init_954 : decode cX12_init 954 = .ok (.invokevirtual 305, 3) := by decide +kernel
theorem dX12_init_957 : decode cX12_init 957 = .ok (.aload_n 0, 1) := by decide +kernel
theorem dX12_init_958 : decode cX12_init 958 = .ok (.bipush 45, 2) := by decide +kernel
theorem dX12_init_960 : decode cX12_init 960 = .ok (.iconst 0, 1) := by decide +kernel
theorem dX12_init_961 : decode cX12_init 961 = .ok (.iconst 0, 1) := by decide +kernel
theorem dX12_init_962 : decode cX12_init 962 = .ok (.iconst 0, 1) := by decide +kernel
theorem dX12_init_963 : decode cX12_init 963 = .ok (.iconst 0, 1) := by decide +kernel
theorem dX12_init_964 : decode cX12_init 964 = .ok (.iconst 0, 1) := by decide +kernel
theorem dX12_init_965 : decode cX12_init 965 = .ok (.iconst 0, 1) := by decide +kernel
theorem dX12_init_966 : decode cX12_init 966 = .ok (.iconst 0, 1) := by decide +kernel
theorem dX12_init_967 : decode cX12_init 967 = .ok (.invokevirtual 305, 3) := by decide +kernel
theorem dX12_init_970 : decode cX12_init 970 = .ok (.aload_n 0, 1) := by decide +kernel
theorem dX12_init_971 : decode cX12_init 971 = .ok (.bipush 60, 2) := by decide +kernel
theorem dX12_init_973 : decode cX12_init 973 = .ok (.iconst 0, 1) := by decide +kernel
theorem dX12_init_974 : decode cX12_init 974 = .ok (.iconst 0, 1) := by decide +kernel
theorem dX12_init_975 : decode cX12_init 975 = .ok (.iconst 0, 1) := by decide +kernel
theorem dX12_init_976 : decode cX12_init 976 = .ok (.iconst 0, 1) := by decide +kernel
theorem dX12_init_977 : decode cX12_init 977 = .ok (.iconst 0, 1) := by decide +kernel
theorem dX12_init_978 : decode cX12_init 978 = .ok (.iconst 0, 1) := by decide +kernel
theorem dX12_init_979 : decode cX12_init 979 = .ok (.iconst 0, 1) := by decide +kernel
theorem dX12_init_980 : decode cX12_init 980 = .ok (.invokevirtual 305, 3) := by decide +kernel
theorem dX12_init_983 : decode cX12_init 983 = .ok (.aload_n 0, 1) := by decide +kernel
theorem dX12_init_984 : decode cX12_init 984 = .ok (.bipush 99, 2) := by decide +kernel
theorem dX12_init_986 : decode cX12_init 986 = .ok (.bipush 111, 2) := by decide +kernel
theorem dX12_init_988 : decode cX12_init 988 = .ok (.bipush 110, 2) := by decide +kernel
theorem dX12_init_990 : decode cX12_init 990 = .ok (.bipush 115, 2) := by decide +kernel
theorem dX12_init_992 : decode cX12_init 992 = .ok (.bipush 112, 2) := by decide +kernel
theorem dX12_init_994 : decode cX12_init 994 = .ok (.iconst 0, 1) := by decide +kernel
theorem dX12_init_995 : decode cX12_init 995 = .ok (.iconst 0, 1) := by decide +kernel
theorem dX12_init_996 : decode cX12_init 996 = .ok (.iconst 0, 1) := by decide +kernel
theorem dX12_init_997 : decode cX12_init 997 = .ok (.invokevirtual 305, 3) := by decide +kernel
theorem dX12_init_1000 : decode cX12_init 1000 = .ok (.aload_n 0, 1) := by decide +kernel
theorem dX12_init_1001 : decode cX12_init 1001 = .ok (.bipush 99, 2) := by decide +kernel
theorem dX12_init_1003 : decode cX12_init 1003 = .ok (.bipush 97, 2) := by decide +kernel
theorem dX12_init_1005 : decode cX12_init 1005 = .ok (.bipush 114, 2) := by decide +kernel
theorem dX12_init_1007 : decode cX12_init 1007 = .ok (.iconst 0, 1) := by decide +kernel
theorem dX12_init_1008 : decode cX12_init 1008 = .ok (.iconst 0, 1) := by decide +kernel
theorem dX12_init_1009 : decode cX12_init 1009 = .ok (.iconst 0, 1) := by decide +kernel
theorem dX12_init_1010 : decode cX12_init 1010 = .ok (.iconst 0, 1) := by decide +kernel
theorem dX12_init_1011 : decode cX12_init 1011 = .ok (.iconst 0, 1) := by decide +kernel
theorem dX12_init_1012 : decode cX12_init 1012 = .ok (.invokevirtual 305, 3) := by decide +kernel
theorem dX12_init_1015 : decode cX12_init 1015 = .ok (.aload_n 0, 1) := by decide +kernel
theorem dX12_init_1016 : decode cX12_init 1016 = .ok (.bipush 99, 2) := by decide +kernel
theorem dX12_init_1018 : decode cX12_init 1018 = .ok (.bipush 100, 2) := by decide +kernel
theorem dX12_init_1020 : decode cX12_init 1020 = .ok (.bipush 114, 2) := by decide +kernel
theorem dX12_init_1022 : decode cX12_init 1022 = .ok (.iconst 0, 1) := by decide +kernel
theorem dX12_init_1023 : decode cX12_init 1023 = .ok (.iconst 0, 1) := by decide +kernel
theorem dX12_init_1024 : decode cX12_init 1024 = .ok (.iconst 0, 1) := by decide +kernel
theorem dX12_init_1025 : decode cX12_init 1025 = .ok (.iconst 0, 1) := by decide +kernel
theorem dX12_init_1026 : decode cX12_init 1026 = .ok (.iconst 0, 1) := by decide +kernel
theorem dX12_init_1027 : decode cX12_init 1027 = .ok (.invokevirtual 305, 3) := by decide +kernel
theorem dX12_init_1030 : decode cX12_init 1030 = .ok (.aload_n 0, 1) := by decide +kernel
theorem dX12_init_1031 : decode cX12_init 1031 = .ok (.bipush 110, 2) := by decide +kernel
theorem dX12_init_1033 : decode cX12_init 1033 = .ok (.bipush 97, 2) := by decide +kernel
theorem dX12_init_1035 : decode cX12_init 1035 = .ok (.bipush 116, 2) := by decide +kernel
theorem dX12_init_1037 : decode cX12_init 1037 = .ok (.bipush 112, 2) := by decide +kernel
theorem dX12_init_1039 : decode cX12_init 1039 = .ok (.iconst 0, 1) := by decide +kernel
theorem dX12_init_1040 : decode cX12_init 1040 = .ok (.iconst 0, 1) := by decide +kernel
theorem dX12_init_1041 : decode cX12_init 1041 = .ok (.iconst 0, 1) := by decide +kernel
theorem dX12_init_1042 : decode cX12_init 1042 = .ok (.iconst 0, 1) := by decide +kernel
theorem dX12_init_1043 : decode cX12_init 1043 = .ok (.invokevirtual 305, 3) := by decide +kernel
theorem dX12_init_1046 : decode cX12_init 1046 = .ok (.aload_n 0, 1) := by decide +kernel
theorem dX12_init_1047 : decode cX12_init 1047 = .ok (.bipush 115, 2) := by decide +kernel
theorem dX12_init_1049 : decode cX12_init 1049 = .ok (.bipush 121, 2) := by decide +kernel
theorem dX12_init_1051 : decode cX12_init 1051 = .ok (.bipush 109, 2) := by decide +kernel
theorem dX12_init_1053 : decode cX12_init 1053 = .ok (.bipush 98, 2) := by decide +kernel
theorem dX12_init_1055 : decode cX12_init 1055 = .ok (.bipush 111, 2) := by decide +kernel
theorem dX12_init_1057 : decode cX12_init 1057 = .ok (.bipush 108, 2) := by decide +kernel
theorem dX12_init_1059 : decode cX12_init 1059 = .ok (.bipush 112, 2) := by decide +kernel
theorem dX12_init_1061 : decode cX12_init 1061 = .ok (.iconst 0, 1) := by decide +kernel
theorem dX12_init_1062 : decode cX12_init 1062 = .ok (.invokevirtual 305, 3) := by decide +kernel
theorem dX12_init_1065 : decode cX12_init 1065 = .ok (.aload_n 0, 1) := by decide +kernel
theorem dX12_init_1066 : decode cX12_init 1066 = .ok (.bipush 110, 2) := by decide +kernel
theorem dX12_init_1068 : decode cX12_init 1068 = .ok (.bipush 111, 2) := by decide +kernel
theorem dX12_init_1070 : decode cX12_init 1070 = .ok (.bipush 116, 2) := by decide +kernel
theorem dX12_init_1072 : decode cX12_init 1072 = .ok (.iconst 0, 1) := by decide +kernel
theorem dX12_init_1073 : decode cX12_init 1073 = .ok (.iconst 0, 1) := by decide +kernel
theorem dX12_init_1074 : decode cX12_init 1074 = .ok (.iconst 0, 1) := by decide +kernel
theorem dX12_init_1075 : decode cX12_init 1075 = .ok (.iconst 0, 1) := by decide +kernel
theorem dX12_init_1076 : decode cX12_init 1076 = .ok (.iconst 0, 1) := by decide +kernel
theorem dX12_init_1077 : decode cX12_init 1077 = .ok (.invokevirtual 305, 3) := by decide +kernel
theorem dX12_init_1080 : decode cX12_init 1080 = .ok (.aload_n 0, 1) := by decide +kernel
theorem dX12_init_1081 : decode cX12_init 1081 = .ok (.bipush 104, 2) := by decide +kernel
theorem dX12_init_1083 : decode cX12_init 1083 = .ok (.bipush 101, 2) := by decide +kernel
theorem dX12_init_1085 : decode cX12_init 1085 = .ok (.bipush 105, 2) := by decide +kernel
theorem dX12_init_1087 : decode cX12_init 1087 = .ok (.bipush 103, 2) := by decide +kernel
theorem dX12_init_1089 : decode cX12_init 1089 = .ok (.bipush 104, 2) := by decide +kernel
theorem dX12_init_1091 : decode cX12_init 1091 = .ok (.bipush 116, 2) := by decide +kernel
theorem dX12_init_1093 : decode cX12_init 1093 = .ok (.iconst 0, 1) := by decide +kernel
theorem dX12_init_1094 : decode cX12_init 1094 = .ok (.iconst 0, 1) := by decide +kernel
theorem dX12_init_1095 : decode cX12_init 1095 = .ok (.invokevirtual 305, 3) := by decide +kernel
theorem dX12_init_1098 : decode cX12_init 1098 = .ok (.aload_n 0, 1) := by decide +kernel
theorem dX12_init_1099 : decode cX12_init 1099 = .ok (.bipush 100, 2) := by decide +kernel
theorem dX12_init_1101 : decode cX12_init 1101 = .ok (.bipush 101, 2) := by decide +kernel
theorem dX12_init_1103 : decode cX12_init 1103 = .ok (.bipush 102, 2) := by decide +kernel
theorem dX12_init_1105 : decode cX12_init 1105 = .ok (.bipush 117, 2) := by decide +kernel
theorem dX12_init_1107 : decode cX12_init 1107 = .ok (.bipush 110, 2) := by decide +kernel
theorem dX12_init_1109 : decode cX12_init 1109 = .ok (.iconst 0, 1) := by decide +kernel
theorem dX12_init_1110 : decode cX12_init 1110 = .ok (.iconst 0, 1) := by decide +kernel
theorem dX12_init_1111 : decode cX12_init 1111 = .ok (.iconst 0, 1) := by decide +kernel
theorem dX12_init_1112 : decode cX12_init 1112 = .ok (.invokevirtual 305, 3) := by decide +kernel
theorem dX12_init_1115 : decode cX12_init 1115 = .ok (.aload_n 0, 1) := by decide +kernel
theorem dX12_init_1116 : decode cX12_init 1116 = .ok (.bipush 116, 2) := by decide +kernel
theorem dX12_init_1118 : decode cX12_init 1118 = .ok (.bipush 104, 2) := by decide +kernel
theorem dX12_init_1120 : decode cX12_init 1120 = .ok (.bipush 101, 2) := by decide +kernel
theorem dX12_init_1122 : decode cX12_init 1122 = .ok (.bipush 111, 2) := by decide +kernel
theorem dX12_init_1124 : decode cX12_init 1124 = .ok (.bipush 114, 2) := by decide +kernel
theorem dX12_init_1126 : decode cX12_init 1126 = .ok (.bipush 101, 2) := by decide +kernel
theorem dX12_init_1128 : decode cX12_init 1128 = .ok (.bipush 109, 2) := by decide +kernel
theorem dX12_init_1130 : decode cX12_init 1130 = .ok (.iconst 0, 1) := by decide +kernel
theorem dX12_init_1131 : decode cX12_init 1131 = .ok (.invokevirtual 305, 3) := by decide +kernel
theorem dX12_init_1134 : decode cX12_init 1134 = .ok (.aload_n 0, 1) := by decide +kernel
theorem dX12_init_1135 : decode cX12_init 1135 = .ok (.bipush 101, 2) := by decide +kernel
theorem dX12_init_1137 : decode cX12_init 1137 = .ok (.bipush 118, 2) := by decide +kernel
theorem dX12_init_1139 : decode cX12_init 1139 = .ok (.bipush 97, 2) := by decide +kernel
theorem dX12_init_1141 : decode cX12_init 1141 = .ok (.bipush 108, 2) := by decide +kernel
theorem dX12_init_1143 : decode cX12_init 1143 = .ok (.iconst 0, 1) := by decide +kernel
theorem dX12_init_1144 : decode cX12_init 1144 = .ok (.iconst 0, 1) := by decide +kernel
theorem dX12_init_1145 : decode cX12_init 1145 = .ok (.iconst 0, 1) := by decide +kernel
theorem dX12_init_1146 : decode cX12_init 1146 = .ok (.iconst 0, 1) := by decide +kernel
theorem dX12_init_1147 : decode cX12_init 1147 = .ok (.invokevirtual 305, 3) := by decide +kernel
theorem dX12_init_1150 : decode cX12_init 1150 = .ok (.aload_n 0, 1) := by decide +kernel
theorem dX12_init_1151 : decode cX12_init 1151 = .ok (.bipush 115, 2) := by decide +kernel
theorem dX12_init_1153 : decode cX12_init 1153 = .ok (.bipush 105, 2) := by decide +kernel
theorem dX12_init_1155 : decode cX12_init 1155 = .ok (.bipush 109, 2) := by decide +kernel
theorem dX12_init_1157 : decode cX12_init 1157 = .ok (.bipush 112, 2) := by decide +kernel
theorem dX12_init_1159 : decode cX12_init 1159 = .ok (.bipush 108, 2) := by decide +kernel
theorem dX12_init_1161 : decode cX12_init 1161 = .ok (.bipush 105, 2) := by decide +kernel
theorem dX12_init_1163 : decode cX12_init 1163 = .ok (.bipush 102, 2) := by decide +kernel
theorem dX12_init_1165 : decode cX12_init 1165 = .ok (.bipush 121, 2) := by decide +kernel
theorem dX12_init_1167 : decode cX12_init 1167 = .ok (.invokevirtual 305, 3) := by decide +kernel
theorem dX12_init_1170 : decode cX12_init 1170 = .ok (.aload_n 0, 1) := by decide +kernel
theorem dX12_init_1171 : decode cX12_init 1171 = .ok (.bipush 112, 2) := by decide +kernel
theorem dX12_init_1173 : decode cX12_init 1173 = .ok (.bipush 114, 2) := by decide +kernel
theorem dX12_init_1175 : decode cX12_init 1175 = .ok (.bipush 111, 2) := by decide +kernel
theorem dX12_init_1177 : decode cX12_init 1177 = .ok (.bipush 118, 2) := by decide +kernel
theorem dX12_init_1179 : decode cX12_init 1179 = .ok (.bipush 101, 2) := by decide +kernel
theorem dX12_init_1181 : decode cX12_init 1181 = .ok (.iconst 0, 1) := by decide +kernel
theorem dX12_init_1182 : decode cX12_init 1182 = .ok (.iconst 0, 1) := by decide +kernel
theorem dX12_init_1183 : decode cX12_init 1183 = .ok (.iconst 0, 1) := by decide +kernel
theorem dX12_init_1184 : decode cX12_init 1184 = .ok (.invokevirtual 305, 3) := by decide +kernel
theorem dX12_init_1187 : decode cX12_init 1187 = .ok (.aload_n 0, 1) := by decide +kernel
theorem dX12_init_1188 : decode cX12_init 1188 = .ok (.bipush 100, 2) := by decide +kernel
theorem dX12_init_1190 : decode cX12_init 1190 = .ok (.bipush 101, 2) := by decide +kernel
theorem dX12_init_1192 : decode cX12_init 1192 = .ok (.bipush 102, 2) := by decide +kernel
theorem dX12_init_1194 : decode cX12_init 1194 = .ok (.bipush 116, 2) := by decide +kernel
theorem dX12_init_1196 : decode cX12_init 1196 = .ok (.bipush 104, 2) := by decide +kernel
theorem dX12_init_1198 : decode cX12_init 1198 = .ok (.bipush 109, 2) := by decide +kernel
theorem dX12_init_1200 : decode cX12_init 1200 = .ok (.iconst 0, 1) := by decide +kernel
theorem dX12_init_1201 : decode cX12_init 1201 = .ok (.iconst 0, 1) := by decide +kernel
theorem dX12_init_1202 : decode cX12_init 1202 = .ok (.invokevirtual 305, 3) := by decide +kernel
theorem dX12_init_1205 : decode cX12_init 1205 = .ok (.aload_n 0, 1) := by decide +kernel
theorem dX12_init_1206 : decode cX12_init 1206 = .ok (.bipush 111, 2) := by decide +kernel
theorem dX12_init_1208 : decode cX12_init 1208 = .ok (.bipush 110, 2) := by decide +kernel
theorem dX12_init_1210 : decode cX12_init 1210 = .ok (.iconst 0, 1) := by decide +kernel
theorem dX12_init_1211 : decode cX12_init 1211 = .ok (.iconst 0, 1) := by decide +kernel
theorem dX12_init_1212 : decode cX12_init 1212 = .ok (.iconst 0, 1) := by decide +kernel
theorem dX12_init_1213 : decode cX12_init 1213 = .ok (.iconst 0, 1) := by decide +kernel
theorem dX12_init_1214 : decode cX12_init 1214 = .ok (.iconst 0, 1) := by decide +kernel
theorem dX12_init_1215 : decode cX12_init 1215 = .ok (.iconst 0, 1) := by decide +kernel
theorem dX12_init_1216 : decode cX12_init 1216 = .ok (.invokevirtual 305, 3) := by decide +kernel
theorem dX12_init_1219 : decode cX12_init 1219 = .ok (.aload_n 0, 1) := by decide +kernel
theorem dX12_init_1220 : decode cX12_init 1220 = .ok (.bipush 111, 2) := by decide +kernel
theorem dX12_init_1222 : decode cX12_init 1222 = .ok (.bipush 102, 2) := by decide +kernel
theorem dX12_init_1224 : decode cX12_init 1224 = .ok (.bipush 102, 2) := by decide +kernel
theorem dX12_init_1226 : decode cX12_init 1226 = .ok (.iconst 0, 1) := by decide +kernel
theorem dX12_init_1227 : decode cX12_init 1227 = .ok (.iconst 0, 1) := by decide +kernel
theorem dX12_init_1228 : decode cX12_init 1228 = .ok (.iconst 0, 1) := by decide +kernel
theorem dX12_init_1229 : decode cX12_init 1229 = .ok (.iconst 0, 1) := by decide +kernel
theorem dX12_init_1230 : decode cX12_init 1230 = .ok (.iconst 0, 1) := by decide +kernel
theorem dX12_init_1231 : decode cX12_init 1231 = .ok (.invokevirtual 305, 3) := by decide +kernel
theorem dX12_init_1234 : decode cX12_init 1234 = .ok (.aload_n 0, 1) := by decide +kernel
theorem dX12_init_1235 : decode cX12_init 1235 = .ok (.bipush 117, 2) := by decide +kernel
theorem dX12_init_1237 : decode cX12_init 1237 = .ok (.bipush 110, 2) := by decide +kernel
theorem dX12_init_1239 : decode cX12_init 1239 = .ok (.bipush 100, 2) := by decide +kernel
theorem dX12_init_1241 : decode cX12_init 1241 = .ok (.bipush 111, 2) := by decide +kernel
theorem dX12_init_1243 : decode cX12_init 1243 = .ok (.iconst 0, 1) := by decide +kernel
theorem dX12_init_1244 : decode cX12_init 1244 = .ok (.iconst 0, 1) := by decide +kernel
theorem dX12_init_1245 : decode cX12_init 1245 = .ok (.iconst 0, 1) := by decide +kernel
theorem dX12_init_1246 : decode cX12_init 1246 = .ok (.iconst 0, 1) := by decide +kernel
theorem dX12_init_1247 : decode cX12_init 1247 = .ok (.invokevirtual 305, 3) := by decide +kernel
theorem dX12_init_1250 : decode cX12_init 1250 = .ok (.aload_n 0, 1) := by decide +kernel
theorem dX12_init_1251 : decode cX12_init 1251 = .ok (.bipush 99, 2) := by decide +kernel
theorem dX12_init_1253 : decode cX12_init 1253 = .ok (.bipush 104, 2) := by decide +kernel
theorem dX12_init_1255 : decode cX12_init 1255 = .ok (.bipush 101, 2) := by decide +kernel
theorem dX12_init_1257 : decode cX12_init 1257 = .ok (.bipush 99, 2) := by decide +kernel
theorem dX12_init_1259 : decode cX12_init 1259 = .ok (.bipush 107, 2) := by decide +kernel
theorem dX12_init_1261 : decode cX12_init 1261 = .ok (.iconst 0, 1) := by decide +kernel
theorem dX12_init_1262 : decode cX12_init 1262 = .ok (.iconst 0, 1) := by decide +kernel
theorem dX12_init_1263 : decode cX12_init 1263 = .ok (.iconst 0, 1) := by decide +kernel
theorem dX12_init_1264 : decode cX12_init 1264 = .ok (.invokevirtual 305, 3) := by decide +kernel
theorem dX12_init_1267 : decode cX12_init 1267 = .ok (.aload_n 0, 1) := by decide +kernel
theorem dX12_init_1268 : decode cX12_init 1268 = .ok (.bipush 105, 2) := by decide +kernel
theorem dX12_init_1270 : decode cX12_init 1270 = .ok (.bipush 110, 2) := by decide +kernel
theorem dX12_init_1272 : decode cX12_init 1272 = .ok (.bipush 100, 2) := by decide +kernel
theorem dX12_init_1274 : decode cX12_init 1274 = .ok (.bipush 117, 2) := by decide +kernel
theorem dX12_init_1276 : decode cX12_init 1276 = .ok (.bipush 99, 2) := by decide +kernel
theorem dX12_init_1278 : decode cX12_init 1278 = .ok (.bipush 116, 2) := by decide +kernel
theorem dX12_init_1280 : decode cX12_init 1280 = .ok (.iconst 0, 1) := by decide +kernel
theorem dX12_init_1281 : decode cX12_init 1281 = .ok (.iconst 0, 1) := by decide +kernel
theorem dX12_init_1282 : decode cX12_init 1282 = .ok (.invokevirtual 305, 3) := by decide +kernel
theorem dX12_init_1285 : decode cX12_init 1285 = .ok (.aload_n 0, 1) := by decide +kernel
theorem dX12_init_1286 : decode cX12_init 1286 = .ok (.bipush 117, 2) := by decide +kernel
theorem dX12_init_1288 : decode cX12_init 1288 = .ok (.bipush 115, 2) := by decide +kernel
theorem dX12_init_1290 : decode cX12_init 1290 = .ok (.bipush 101, 2) := by decide +kernel
theorem dX12_init_1292 : decode cX12_init 1292 = .ok (.iconst 0, 1) := by decide +kernel
theorem dX12_init_1293 : decode cX12_init 1293 = .ok (.iconst 0, 1) := by decide +kernel
theorem dX12_init_1294 : decode cX12_init 1294 = .ok (.iconst 0, 1) := by decide +kernel
theorem dX12_init_1295 : decode cX12_init 1295 = .ok (.iconst 0, 1) := by decide +kernel
theorem dX12_init_1296 : decode cX12_init 1296 = .ok (.iconst 0, 1) := by decide +kernel
theorem dX12_init_1297 : decode cX12_init 1297 = .ok (.invokevirtual 305, 3) := by decide +kernel
theorem dX12_init_1300 : decode cX12_init 1300 = .ok (.aload_n 0, 1) := by decide +kernel
theorem dX12_init_1301 : decode cX12_init 1301 = .ok (.bipush 116, 2) := by decide +kernel
theorem dX12_init_1303 : decode cX12_init 1303 = .ok (.bipush 97, 2) := by decide +kernel
theorem dX12_init_1305 : decode cX12_init 1305 = .ok (.bipush 117, 2) := by decide +kernel
theorem dX12_init_1307 : decode cX12_init 1307 = .ok (.bipush 116, 2) := by decide +kernel
theorem dX12_init_1309 : decode cX12_init 1309 = .ok (.iconst 0, 1) := by decide +kernel
theorem dX12_init_1310 : decode cX12_init 1310 = .ok (.iconst 0, 1) := by decide +kernel
theorem dX12_init_1311 : decode cX12_init 1311 = .ok (.iconst 0, 1) := by decide +kernel
theorem dX12_init_1312 : decode cX12_init 1312 = .ok (.iconst 0, 1) := by decide +kernel
theorem dX12_init_1313 : decode cX12_init 1313 = .ok (.invokevirtual 305, 3) := by decide +kernel
theorem dX12_init_1316 : decode cX12_init 1316 = .ok (.aload_n 0, 1) := by decide +kernel
theorem dX12_init_1317 : decode cX12_init 1317 = .ok (.bipush 115, 2) := by decide +kernel
theorem dX12_init_1319 : decode cX12_init 1319 = .ok (.bipush 97, 2) := by decide +kernel
theorem dX12_init_1321 : decode cX12_init 1321 = .ok (.bipush 109, 2) := by decide +kernel
theorem dX12_init_1323 : decode cX12_init 1323 = .ok (.bipush 101, 2) := by decide +kernel
theorem dX12_init_1325 : decode cX12_init 1325 = .ok (.iconst 0, 1) := by decide +kernel
theorem dX12_init_1326 : decode cX12_init 1326 = .ok (.iconst 0, 1) := by decide +kernel
theorem dX12_init_1327 : decode cX12_init 1327 = .ok (.iconst 0, 1) := by decide +kernel
theorem dX12_init_1328 : decode cX12_init 1328 = .ok (.iconst 0, 1) := by decide +kernel
theorem dX12_init_1329 : decode cX12_init 1329 = .ok (.invokevirtual 305, 3) := by decide +kernel
theorem dX12_init_1332 : decode cX12_init 1332 = .ok (.aload_n 0, 1) := by decide +kernel
theorem dX12_init_1333 : decode cX12_init 1333 = .ok (.bipush 118, 2) := by decide +kernel
theorem dX12_init_1335 : decode cX12_init 1335 = .ok (.bipush 97, 2) := by decide +kernel
theorem dX12_init_1337 : decode cX12_init 1337 = .ok (.bipush 108, 2) := by decide +kernel
theorem dX12_init_1339 : decode cX12_init 1339 = .ok (.bipush 117, 2) := by decide +kernel
theorem dX12_init_1341 : decode cX12_init 1341 = .ok (.bipush 101, 2) := by decide +kernel
theorem dX12_init_1343 : decode cX12_init 1343 = .ok (.iconst 0, 1) := by decide +kernel
theorem dX12_init_1344 : decode cX12_init 1344 = .ok (.iconst 0, 1) := by decide +kernel
theorem dX12_init_1345 : decode cX12_init 1345 = .ok (.iconst 0, 1) := by decide +kernel
theorem dX12_init_1346 : decode cX12_init 1346 = .ok (.invokevirtual 305, 3) := by decide +kernel
theorem dX12_init_1349 : decode cX12_init 1349 = .ok (.aload_n 0, 1) := by decide +kernel
theorem dX12_init_1350 : decode cX12_init 1350 = .ok (.bipush 102, 2) := by decide +kernel
theorem dX12_init_1352 : decode cX12_init 1352 = .ok (.bipush 105, 2) := by decide +kernel
theorem dX12_init_1354 : decode cX12_init 1354 = .ok (.bipush 114, 2) := by decide +kernel
theorem dX12_init_1356 : decode cX12_init 1356 = .ok (.bipush 115, 2) := by decide +kernel
theorem dX12_init_1358 : decode cX12_init 1358 = .ok (.bipush 116, 2) := by decide +kernel
theorem dX12_init_1360 : decode cX12_init 1360 = .ok (.iconst 0, 1) := by decide +kernel
theorem dX12_init_1361 : decode cX12_init 1361 = .ok (.iconst 0, 1) := by decide +kernel
theorem dX12_init_1362 : decode cX12_init 1362 = .ok (.iconst 0, 1) := by decide +kernel
theorem dX12_init_1363 : decode cX12_init 1363 = .ok (.invokevirtual 305, 3) := by decide +kernel
theorem dX12_init_1366 : decode cX12_init 1366 = .ok (.aload_n 0, 1) := by decide +kernel
theorem dX12_init_1367 : decode cX12_init 1367 = .ok (.bipush 115, 2) := by decide +kernel
theorem dX12_init_1369 : decode cX12_init 1369 = .ok (.bipush 101, 2) := by decide +kernel
theorem dX12_init_1371 : decode cX12_init 1371 = .ok (.bipush 99, 2) := by decide +kernel
theorem dX12_init_1373 : decode cX12_init 1373 = .ok (.bipush 111, 2) := by decide +kernel
theorem dX12_init_1375 : decode cX12_init 1375 = .ok (.bipush 110, 2) := by decide +kernel
theorem dX12_init_1377 : decode cX12_init 1377 = .ok (.bipush 100, 2) := by decide +kernel
theorem dX12_init_1379 : decode cX12_init 1379 = .ok (.iconst 0, 1) := by decide +kernel
theorem dX12_init_1380 : decode cX12_init 1380 = .ok (.iconst 0, 1) := by decide +kernel
theorem dX12_init_1381 : decode cX12_init 1381 = .ok (.invokevirtual 305, 3) := by decide +kernel
theorem dX12_init_1384 : decode cX12_init 1384 = .ok (.aload_n 0, 1) := by decide +kernel
theorem dX12_init_1385 : decode cX12_init 1385 = .ok (.bipush 112, 2) := by decide +kernel
theorem dX12_init_1387 : decode cX12_init 1387 = .ok (.bipush 97, 2) := by decide +kernel
theorem dX12_init_1389 : decode cX12_init 1389 = .ok (.bipush 105, 2) := by decide +kernel
theorem dX12_init_1391 : decode cX12_init 1391 = .ok (.bipush 114, 2) := by decide +kernel
theorem dX12_init_1393 : decode cX12_init 1393 = .ok (.iconst 0, 1) := by decide +kernel
theorem dX12_init_1394 : decode cX12_init 1394 = .ok (.iconst 0, 1) := by decide +kernel
theorem dX12_init_1395 : decode cX12_init 1395 = .ok (.iconst 0, 1) := by decide +kernel
theorem dX12_init_1396 : decode cX12_init 1396 = .ok (.iconst 0, 1) := by decide +kernel
theorem dX12_init_1397 : decode cX12_init 1397 = .ok (.invokevirtual 305, 3) := by decide +kernel
theorem dX12_init_1400 : decode cX12_init 1400 = .ok (.aload_n 0, 1) := by decide +kernel
theorem dX12_init_1401 : decode cX12_init 1401 = .ok (.bipush 121, 2) := by decide +kernel
theorem dX12_init_1403 : decode cX12_init 1403 = .ok (.bipush 101, 2) := by decide +kernel
theorem dX12_init_1405 : decode cX12_init 1405 = .ok (.bipush 115, 2) := by decide +kernel
theorem dX12_init_1407 : decode cX12_init 1407 = .ok (.iconst 0, 1) := by decide +kernel
theorem dX12_init_1408 : decode cX12_init 1408 = .ok (.iconst 0, 1) := by decide +kernel
theorem dX12_init_1409 : decode cX12_init 1409 = .ok (.iconst 0, 1) := by decide +kernel
theorem dX12_init_1410 : decode cX12_init 1410 = .ok (.iconst 0, 1) := by decide +kernel
theorem dX12_init_1411 : decode cX12_init 1411 = .ok (.iconst 0, 1) := by decide +kernel
theorem dX12_init_1412 : decode cX12_init 1412 = .ok (.invokevirtual 305, 3) := by decide +kernel
theorem dX12_init_1415 : decode cX12_init 1415 = .ok (.aload_n 0, 1) := by decide +kernel
theorem dX12_init_1416 : decode cX12_init 1416 = .ok (.bipush 110, 2) := by decide +kernel
theorem dX12_init_1418 : decode cX12_init 1418 = .ok (.bipush 111, 2) := by decide +kernel
theorem dX12_init_1420 : decode cX12_init 1420 = .ok (.iconst 0, 1) := by decide +kernel
theorem dX12_init_1421 : decode cX12_init 1421 = .ok (.iconst 0, 1) := by decide +kernel
theorem dX12_init_1422 : decode cX12_init 1422 = .ok (.iconst 0, 1) := by decide +kernel
theorem dX12_init_1423 : decode cX12_init 1423 = .ok (.iconst 0, 1) := by decide +kernel
theorem dX12_init_1424 : decode cX12_init 1424 = .ok (.iconst 0, 1) := by decide +kernel
theorem dX12_init_1425 : decode cX12_init 1425 = .ok (.iconst 0, 1) := by decide +kernel
theorem dX12_init_1426 : decode cX12_init 1426 = .ok (.invokevirtual 305, 3) := by decide +kernel
theorem dX12_init_1429 : decode cX12_init 1429 = .ok (.aload_n 0, 1) := by decide +kernel
theorem dX12_init_1430 : decode cX12_init 1430 = .ok (.bipush 100, 2) := by decide +kernel
theorem dX12_init_1432 : decode cX12_init 1432 = .ok (.bipush 101, 2) := by decide +kernel
theorem dX12_init_1434 : decode cX12_init 1434 = .ok (.bipush 102, 2) := by decide +kernel
theorem dX12_init_1436 : decode cX12_init 1436 = .ok (.iconst 0, 1) := by decide +kernel
theorem dX12_init_1437 : decode cX12_init 1437 = .ok (.iconst 0, 1) := by decide +kernel
theorem dX12_init_1438 : decode cX12_init 1438 = .ok (.iconst 0, 1) := by decide +kernel
theorem dX12_init_1439 : decode cX12_init 1439 = .ok (.iconst 0, 1) := by decide +kernel
theorem dX12_init_1440 : decode cX12_init 1440 = .ok (.iconst 0, 1) := by decide +kernel
theorem dX12_init_1441 : decode cX12_init 1441 = .ok (.invokevirtual 305, 3) := by decide +kernel
theorem dX12_init_1444 : decode cX12_init 1444 = .ok (.aload_n 0, 1) := by decide +kernel
theorem dX12_init_1445 : decode cX12_init 1445 = .ok (.bipush 116, 2) := by decide +kernel
theorem dX12_init_1447 : decode cX12_init 1447 = .ok (.bipush 104, 2) := by decide +kernel
theorem dX12_init_1449 : decode cX12_init 1449 = .ok (.bipush 109, 2) := by decide +kernel
theorem dX12_init_1451 : decode cX12_init 1451 = .ok (.iconst 0, 1) := by decide +kernel
theorem dX12_init_1452 : decode cX12_init 1452 = .ok (.iconst 0, 1) := by decide +kernel
theorem dX12_init_1453 : decode cX12_init 1453 = .ok (.iconst 0, 1) := by decide +kernel
theorem dX12_init_1454 : decode cX12_init 1454 = .ok (.iconst 0, 1) := by decide +kernel
theorem dX12_init_1455 : decode cX12_init 1455 = .ok (.iconst 0, 1) := by decide +kernel
theorem dX12_init_1456 : decode cX12_init 1456 = .ok (.invokevirtual 305, 3) := by decide +kernel
theorem dX12_init_1459 : decode cX12_init 1459 = .ok (.aload_n 0, 1) := by decide +kernel
theorem dX12_init_1460 : decode cX12_init 1460 = .ok (.bipush 119, 2) := by decide +kernel
theorem dX12_init_1462 : decode cX12_init 1462 = .ok (.bipush 101, 2) := by decide +kernel
theorem dX12_init_1464 : decode cX12_init 1464 = .ok (.bipush 97, 2) := by decide +kernel
theorem dX12_init_1466 : decode cX12_init 1466 = .ok (.bipush 107, 2) := by decide +kernel
theorem dX12_init_1468 : decode cX12_init 1468 = .ok (.iconst 0, 1) := by decide +kernel
theorem dX12_init_1469 : decode cX12_init 1469 = .ok (.iconst 0, 1) := by decide +kernel
theorem dX12_init_1470 : decode cX12_init 1470 = .ok (.iconst 0, 1) := by decide +kernel
theorem dX12_init_1471 : decode cX12_init 1471 = .ok (.iconst 0, 1) := by decide +kernel
theorem dX12_init_1472 : decode cX12_init 1472 = .ok (.invokevirtual 305, 3) := by decide +kernel
theorem dX12_init_1475 : decode cX12_init 1475 = .ok (.aload_n 0, 1) := by decide +kernel
theorem dX12_init_1476 : decode cX12_init 1476 = .ok (.bipush 99, 2) := by decide +kernel
theorem dX12_init_1478 : decode cX12_init 1478 = .ok (.bipush 117, 2) := by decide +kernel
theorem dX12_init_1480 : decode cX12_init 1480 = .ok (.bipush 116, 2) := by decide +kernel
theorem dX12_init_1482 : decode cX12_init 1482 = .ok (.iconst 0, 1) := by decide +kernel
theorem dX12_init_1483 : decode cX12_init 1483 = .ok (.iconst 0, 1) := by decide +kernel
theorem dX12_init_1484 : decode cX12_init 1484 = .ok (.iconst 0, 1) := by decide +kernel
theorem dX12_init_1485 : decode cX12_init 1485 = .ok (.iconst 0, 1) := by decide +kernel
theorem dX12_init_1486 : decode cX12_init 1486 = .ok (.iconst 0, 1) := by decide +kernel
theorem dX12_init_1487 : decode cX12_init 1487 = .ok (.invokevirtual 305, 3) := by decide +kernel
theorem dX12_init_1490 : decode cX12_init 1490 = .ok (.aload_n 0, 1) := by decide +kernel
theorem dX12_init_1491 : decode cX12_init 1491 = .ok (.bipush 105, 2) := by decide +kernel
theorem dX12_init_1493 : decode cX12_init 1493 = .ok (.bipush 110, 2) := by decide +kernel
theorem dX12_init_1495 : decode cX12_init 1495 = .ok (.bipush 115, 2) := by decide +kernel
theorem dX12_init_1497 : decode cX12_init 1497 = .ok (.bipush 116, 2) := by decide +kernel
theorem dX12_init_1499 : decode cX12_init 1499 = .ok (.iconst 0, 1) := by decide +kernel
theorem dX12_init_1500 : decode cX12_init 1500 = .ok (.iconst 0, 1) := by decide +kernel
theorem dX12_init_1501 : decode cX12_init 1501 = .ok (.iconst 0, 1) := by decide +kernel
theorem dX12_init_1502 : decode cX12_init 1502 = .ok (.iconst 0, 1) := by decide +kernel
theorem dX12_init_1503 : decode cX12_init 1503 = .ok (.invokevirtual 305, 3) := by decide +kernel
theorem dX12_init_1506 : decode cX12_init 1506 = .ok (.aload_n 0, 1) := by decide +kernel
theorem dX12_init_1507 : decode cX12_init 1507 = .ok (.bipush 115, 2) := by decide +kernel
theorem dX12_init_1509 : decode cX12_init 1509 = .ok (.bipush 119, 2) := by decide +kernel
theorem dX12_init_1511 : decode cX12_init 1511 = .ok (.bipush 97, 2) := by decide +kernel
theorem dX12_init_1513 : decode cX12_init 1513 = .ok (.bipush 112, 2) := by decide +kernel
theorem dX12_init_1515 : decode cX12_init 1515 = .ok (.iconst 0, 1) := by decide +kernel
theorem dX12_init_1516 : decode cX12_init 1516 = .ok (.iconst 0, 1) := by decide +kernel
theorem dX12_init_1517 : decode cX12_init 1517 = .ok (.iconst 0, 1) := by decide +kernel
theorem dX12_init_1518 : decode cX12_init 1518 = .ok (.iconst 0, 1) := by decide +kernel
theorem dX12_init_1519 : decode cX12_init 1519 = .ok (.invokevirtual 305, 3) := by decide +kernel
theorem dX12_init_1522 : decode cX12_init 1522 = .ok (.aload_n 0, 1) := by decide +kernel
theorem dX12_init_1523 : decode cX12_init 1523 = .ok (.bipush 112, 2) := by decide +kernel
theorem dX12_init_1525 : decode cX12_init 1525 = .ok (.bipush 117, 2) := by decide +kernel
theorem dX12_init_1527 : decode cX12_init 1527 = .ok (.bipush 116, 2) := by decide +kernel
theorem dX12_init_1529 : decode cX12_init 1529 = .ok (.iconst 0, 1) := by decide +kernel
theorem dX12_init_1530 : decode cX12_init 1530 = .ok (.iconst 0, 1) := by decide +kernel
theorem dX12_init_1531 : decode cX12_init 1531 = .ok (.iconst 0, 1) := by decide +kernel
theorem dX12_init_1532 : decode cX12_init 1532 = .ok (.iconst 0, 1) := by decide +kernel
theorem dX12_init_1533 : decode cX12_init 1533 = .ok (.iconst 0, 1) := by decide +kernel
theorem dX12_init_1534 : decode cX12_init 1534 = .ok (.invokevirtual 305, 3) := by decide +kernel
theorem dX12_init_1537 : decode cX12_init 1537 = .ok (.return_, 1) := by decide +kernel
/-- the reference's object as it is new -/
def mF0 : List Value := [.null, .null, .null, .null, .null, .null, .int 0, .null, .int 0, .null, .null, .int 0, .null, .null, .int 0, .null, .int 0, .null, .int 0, .null, .int 0, .null, .int 0, .int 0, .int 0, .int 0, .null, .null, .null, .null, .int 0, .null, .int 0, .int 0, .int 0, .int 0, .null, .null, .null, .null, .null, .null, .int 0, .null, .null, .null, .null, .null, .null, .null, .null, .null, .null, .null, .int 0, .null, .null, .int 0, .int 0, .int 0, .int 0, .int 0, .int 0, .int 0, .int 0, .null, .null, .null, .null, .int 0, .null, .int 0, .null, .null, .int 0, .null, .int 0, .null, .int 0, .null, .null, .null, .null, .null, .null, .int 0, .null, .int 0, .int 0, .int 0, .int 0, .int 0, .null, .null, .null, .null, .null, .null, .null, .null, .null, .null, .int 0, .null, .int 0, .null, .null, .null, .null, .int 0, .int 0, .int 0, .null, .null, .null, .null, .null, .int 0, .null, .int 0, .null, .null, .int 0, .null, .null, .null, .int 0, .null, .null, .null, .null, .int 0, .int 0, .int 0, .int 0, .int 0, .int 0, .null, .null, .int 0, .null, .null, .null, .null, .int 0, .null, .null, .int 0, .int 0]
set_option maxRecDepth 100000 in
theorem mF0_len : mF0.length = 149 := rfl
section
variable {p : Program} {l : Launch} {e : Env} {R : Room} {s : State} {m : MethodId} {args : Array Value} {below : List Frame} {meth : Method} {c : Code} {H : Heap} {locs : List Loc} {cells slots : Nat} {Q : State → Prop}
/-- a row is made and put into its field -/
theorem ia_arr {cc : ByteArray} {pc nw : Nat} {nn : Int32} {index : Nat} {atype : ArrayType} {ty : FieldType} {a0 : vp_A} {Ts : List Cond} {A : Nat → Prop} {H0 : Heap} {D : va_G} {h0 : Nat} {ls : Array Slot} (hx : p.tables.exec = Jvm.exec) (hb : c.code = cc) (hts : ∀ w ∈ Ts, w.before args s = true) (hin : ∀ w ∈ wsX120, w ∈ Ts) (hown : s.vm.findClass RX12 = some m.cls) (hnm : meth.name = "<init>") (hA : ∀ q : Nat, H0.size ≤ q → A q) {fs : List Value} {cs : va_W} {ts : List (ClassId × FieldType)} (hlen : fs.length = 149) (hK : va_K D vwCl ts s) (hP : va_P D vwCl ((h0, .inr (12, fs)) :: cs) H) (hD : va_D A ((h0, .inr (12, fs)) :: cs)) (hS : va_S A H0 H locs)
    (harr : (Cond.arrayClass (newarray.typeOf atype)).before args s = true) (hty : newarray.typeOf atype = ty) (ha : ∀ cA : ClassId, vp_cell cA a0 = arrV cA nw (fun _ => defaultValue ty)) (hn : ¬ nn < 0) (hN : nn.toNatClampNeg = nw) (hbytes : nw * componentBytes ty ≤ 536870912) (hcells : cells + 1 ≤ R.cells) (hslots : slots + nw ≤ R.slots)
    (hd1 : decode cc pc = .ok (.newarray atype, 2)) (k : Nat) (hk : k < 149) (hlink : (Cond.fieldLink RX12 index "ProofHouseModel" (TX12 k).2.1 (TX12 k).2.2.1).before args s = true) (hself : (TX12 k).1 = "ProofHouseModel") (hfin : (TX12 k).2.2.2 = true) (hparse : parseFieldDescriptor (TX12 k).2.2.1 = some (.array ty)) (hd2 : decode cc (pc + 2) = .ok (.putfield index, 3))
    (kk : ∀ (q : Nat) (cA : ClassId) (H1 : Heap) (locs1 : List Loc), va_K D vwCl (ts ++ [(cA, ty)]) s → va_P D vwCl ((h0, .inr (12, fs.set k (.ref q))) :: (cs ++ [(q, .inl (cA, a0))])) H1 → va_D A ((h0, .inr (12, fs.set k (.ref q))) :: (cs ++ [(q, .inl (cA, a0))])) → va_S A H0 H1 locs1 → W p l e R s m args below meth c H1 locs1 (cells + 1) (slots + nw) Q (F0 m (pc + 5) ls [])) : W p l e R s m args below meth c H locs cells slots Q (F0 m pc ls [.int nn, .ref h0]) := by
  refine va_newa (ty := ty) (a0 := a0) (N' := nw) hx hb harr hty hK hP hD hS hA ha hn hN hbytes hcells hslots hd1 (fun q cA H hK hP hD hS => ?_)
  refine va_putF (D := D) (ci := 12) (v := .ref q) (ty := .array ty) (C := RX12) (T := TX12) (N := 149) hx hb hts hin tyX12 tyX12_ok nmX12 hown hK hP hD hS 0 rfl rfl k hk hlink (fun _ h9 => by rw [hself] at h9; exact h9) hfin hnm (by rw [hself]; rfl) hparse rfl rfl (by rw [hlen]; exact hk) hd2 (fun H locs hP hD hS => ?_)
  exact kk q cA H locs hK hP hD hS
end
theorem ww_all : ∀ w ∈ wsX120, w ∈ wsX12_init := fun w h => List.mem_cons_of_mem _ (List.mem_append_right _ h)
set_option maxRecDepth 100000 in
theorem ww_acI : Cond.arrayClass .int ∈ wsX12_init := List.mem_of_getElem? (i := 5) rfl
set_option maxRecDepth 100000 in
theorem ww_acJ : Cond.arrayClass .long ∈ wsX12_init := List.mem_of_getElem? (i := 12) rfl
set_option maxRecDepth 100000 in
theorem ww_acZ : Cond.arrayClass .boolean ∈ wsX12_init := List.mem_of_getElem? (i := 35) rfl
set_option maxRecDepth 100000 in
theorem ww_ol : Cond.methodLink RX12 1 objectInit ∈ wsX12_init := List.mem_of_getElem? (i := 1) rfl
set_option maxRecDepth 100000 in
theorem ww_oi : Cond.instanceMethod objectInit ∈ wsX12_init := List.mem_of_getElem? (i := 2) rfl
set_option maxRecDepth 100000 in
theorem ww_oc : Cond.code objectInit ⟨#[0xb1]⟩ 1 none ∈ wsX12_init := List.mem_of_getElem? (i := 3) rfl
set_option maxRecDepth 100000 in
theorem ww_c7 : Cond.constant RX12 7 (452000) ∈ wsX12_init := List.mem_of_getElem? (i := 4) rfl
set_option maxRecDepth 100000 in
theorem ww_f0 : Cond.fieldLink RX12 8 "ProofHouseModel" "left" "[I" ∈ wsX12_init := List.mem_of_getElem? (i := 6) rfl
set_option maxRecDepth 100000 in
theorem ww_f1 : Cond.fieldLink RX12 14 "ProofHouseModel" "right" "[I" ∈ wsX12_init := List.mem_of_getElem? (i := 7) rfl
set_option maxRecDepth 100000 in
theorem ww_f2 : Cond.fieldLink RX12 17 "ProofHouseModel" "next" "[I" ∈ wsX12_init := List.mem_of_getElem? (i := 8) rfl
set_option maxRecDepth 100000 in
theorem ww_f3 : Cond.fieldLink RX12 20 "ProofHouseModel" "sizes" "[I" ∈ wsX12_init := List.mem_of_getElem? (i := 9) rfl
set_option maxRecDepth 100000 in
theorem ww_f4 : Cond.fieldLink RX12 23 "ProofHouseModel" "heights" "[I" ∈ wsX12_init := List.mem_of_getElem? (i := 10) rfl
set_option maxRecDepth 100000 in
theorem ww_c26 : Cond.constant RX12 26 (40000) ∈ wsX12_init := List.mem_of_getElem? (i := 11) rfl
set_option maxRecDepth 100000 in
theorem ww_f5 : Cond.fieldLink RX12 27 "ProofHouseModel" "number" "[J" ∈ wsX12_init := List.mem_of_getElem? (i := 13) rfl
set_option maxRecDepth 100000 in
theorem ww_f7 : Cond.fieldLink RX12 31 "ProofHouseModel" "heads" "[I" ∈ wsX12_init := List.mem_of_getElem? (i := 14) rfl
set_option maxRecDepth 100000 in
theorem ww_c34 : Cond.constant RX12 34 (252000) ∈ wsX12_init := List.mem_of_getElem? (i := 15) rfl
set_option maxRecDepth 100000 in
theorem ww_f9 : Cond.fieldLink RX12 35 "ProofHouseModel" "names" "[I" ∈ wsX12_init := List.mem_of_getElem? (i := 16) rfl
set_option maxRecDepth 100000 in
theorem ww_f10 : Cond.fieldLink RX12 38 "ProofHouseModel" "lengths" "[I" ∈ wsX12_init := List.mem_of_getElem? (i := 17) rfl
set_option maxRecDepth 100000 in
theorem ww_f12 : Cond.fieldLink RX12 41 "ProofHouseModel" "waiting" "[I" ∈ wsX12_init := List.mem_of_getElem? (i := 18) rfl
set_option maxRecDepth 100000 in
theorem ww_f13 : Cond.fieldLink RX12 44 "ProofHouseModel" "text" "[I" ∈ wsX12_init := List.mem_of_getElem? (i := 19) rfl
set_option maxRecDepth 100000 in
theorem ww_f15 : Cond.fieldLink RX12 47 "ProofHouseModel" "out" "[I" ∈ wsX12_init := List.mem_of_getElem? (i := 20) rfl
set_option maxRecDepth 100000 in
theorem ww_f17 : Cond.fieldLink RX12 50 "ProofHouseModel" "word" "[I" ∈ wsX12_init := List.mem_of_getElem? (i := 21) rfl
set_option maxRecDepth 100000 in
theorem ww_f19 : Cond.fieldLink RX12 53 "ProofHouseModel" "tellWhat" "[I" ∈ wsX12_init := List.mem_of_getElem? (i := 22) rfl
set_option maxRecDepth 100000 in
theorem ww_f21 : Cond.fieldLink RX12 56 "ProofHouseModel" "one" "[I" ∈ wsX12_init := List.mem_of_getElem? (i := 23) rfl
set_option maxRecDepth 100000 in
theorem ww_f25 : Cond.fieldLink RX12 59 "ProofHouseModel" "readPlace" "I" ∈ wsX12_init := List.mem_of_getElem? (i := 24) rfl
set_option maxRecDepth 100000 in
theorem ww_f26 : Cond.fieldLink RX12 63 "ProofHouseModel" "openSort" "[I" ∈ wsX12_init := List.mem_of_getElem? (i := 25) rfl
set_option maxRecDepth 100000 in
theorem ww_f27 : Cond.fieldLink RX12 66 "ProofHouseModel" "openFrom" "[I" ∈ wsX12_init := List.mem_of_getElem? (i := 26) rfl
set_option maxRecDepth 100000 in
theorem ww_f28 : Cond.fieldLink RX12 69 "ProofHouseModel" "openState" "[I" ∈ wsX12_init := List.mem_of_getElem? (i := 27) rfl
set_option maxRecDepth 100000 in
theorem ww_f29 : Cond.fieldLink RX12 72 "ProofHouseModel" "openLast" "[I" ∈ wsX12_init := List.mem_of_getElem? (i := 28) rfl
set_option maxRecDepth 100000 in
theorem ww_f31 : Cond.fieldLink RX12 75 "ProofHouseModel" "items" "[I" ∈ wsX12_init := List.mem_of_getElem? (i := 29) rfl
set_option maxRecDepth 100000 in
theorem ww_f36 : Cond.fieldLink RX12 78 "ProofHouseModel" "defName" "[I" ∈ wsX12_init := List.mem_of_getElem? (i := 30) rfl
set_option maxRecDepth 100000 in
theorem ww_f37 : Cond.fieldLink RX12 81 "ProofHouseModel" "defMany" "[I" ∈ wsX12_init := List.mem_of_getElem? (i := 31) rfl
set_option maxRecDepth 100000 in
theorem ww_f38 : Cond.fieldLink RX12 84 "ProofHouseModel" "defVariable" "[I" ∈ wsX12_init := List.mem_of_getElem? (i := 32) rfl
set_option maxRecDepth 100000 in
theorem ww_f39 : Cond.fieldLink RX12 87 "ProofHouseModel" "defBody" "[I" ∈ wsX12_init := List.mem_of_getElem? (i := 33) rfl
set_option maxRecDepth 100000 in
theorem ww_f40 : Cond.fieldLink RX12 90 "ProofHouseModel" "defMeasure" "[I" ∈ wsX12_init := List.mem_of_getElem? (i := 34) rfl
set_option maxRecDepth 100000 in
theorem ww_f41 : Cond.fieldLink RX12 93 "ProofHouseModel" "defSelf" "[Z" ∈ wsX12_init := List.mem_of_getElem? (i := 36) rfl
set_option maxRecDepth 100000 in
theorem ww_f43 : Cond.fieldLink RX12 97 "ProofHouseModel" "theoremName" "[I" ∈ wsX12_init := List.mem_of_getElem? (i := 37) rfl
set_option maxRecDepth 100000 in
theorem ww_f44 : Cond.fieldLink RX12 100 "ProofHouseModel" "theorem" "[I" ∈ wsX12_init := List.mem_of_getElem? (i := 38) rfl
set_option maxRecDepth 100000 in
theorem ww_f45 : Cond.fieldLink RX12 103 "ProofHouseModel" "theoremSort" "[I" ∈ wsX12_init := List.mem_of_getElem? (i := 39) rfl
set_option maxRecDepth 100000 in
theorem ww_f46 : Cond.fieldLink RX12 106 "ProofHouseModel" "ruleLeft" "[I" ∈ wsX12_init := List.mem_of_getElem? (i := 40) rfl
set_option maxRecDepth 100000 in
theorem ww_f47 : Cond.fieldLink RX12 109 "ProofHouseModel" "ruleRight" "[I" ∈ wsX12_init := List.mem_of_getElem? (i := 41) rfl
set_option maxRecDepth 100000 in
theorem ww_f48 : Cond.fieldLink RX12 112 "ProofHouseModel" "ruleMany" "[I" ∈ wsX12_init := List.mem_of_getElem? (i := 42) rfl
set_option maxRecDepth 100000 in
theorem ww_f49 : Cond.fieldLink RX12 115 "ProofHouseModel" "ruleHypothesis" "[I" ∈ wsX12_init := List.mem_of_getElem? (i := 43) rfl
set_option maxRecDepth 100000 in
theorem ww_f50 : Cond.fieldLink RX12 118 "ProofHouseModel" "rulePermutes" "[Z" ∈ wsX12_init := List.mem_of_getElem? (i := 44) rfl
set_option maxRecDepth 100000 in
theorem ww_f51 : Cond.fieldLink RX12 121 "ProofHouseModel" "ruleTruth" "[Z" ∈ wsX12_init := List.mem_of_getElem? (i := 45) rfl
set_option maxRecDepth 100000 in
theorem ww_f52 : Cond.fieldLink RX12 124 "ProofHouseModel" "ruleOn" "[Z" ∈ wsX12_init := List.mem_of_getElem? (i := 46) rfl
set_option maxRecDepth 100000 in
theorem ww_f53 : Cond.fieldLink RX12 127 "ProofHouseModel" "ruleOut" "[Z" ∈ wsX12_init := List.mem_of_getElem? (i := 47) rfl
set_option maxRecDepth 100000 in
theorem ww_f55 : Cond.fieldLink RX12 130 "ProofHouseModel" "takenSort" "[I" ∈ wsX12_init := List.mem_of_getElem? (i := 48) rfl
set_option maxRecDepth 100000 in
theorem ww_f56 : Cond.fieldLink RX12 133 "ProofHouseModel" "takenFrom" "[I" ∈ wsX12_init := List.mem_of_getElem? (i := 49) rfl
set_option maxRecDepth 100000 in
theorem ww_f57 : Cond.fieldLink RX12 136 "ProofHouseModel" "comingName" "I" ∈ wsX12_init := List.mem_of_getElem? (i := 50) rfl
set_option maxRecDepth 100000 in
theorem ww_f59 : Cond.fieldLink RX12 139 "ProofHouseModel" "fuel" "I" ∈ wsX12_init := List.mem_of_getElem? (i := 51) rfl
set_option maxRecDepth 100000 in
theorem ww_f65 : Cond.fieldLink RX12 142 "ProofHouseModel" "other" "[I" ∈ wsX12_init := List.mem_of_getElem? (i := 52) rfl
set_option maxRecDepth 100000 in
theorem ww_f66 : Cond.fieldLink RX12 145 "ProofHouseModel" "callOf" "[I" ∈ wsX12_init := List.mem_of_getElem? (i := 53) rfl
set_option maxRecDepth 100000 in
theorem ww_f67 : Cond.fieldLink RX12 148 "ProofHouseModel" "restOf" "[I" ∈ wsX12_init := List.mem_of_getElem? (i := 54) rfl
set_option maxRecDepth 100000 in
theorem ww_f68 : Cond.fieldLink RX12 151 "ProofHouseModel" "fromOf" "[I" ∈ wsX12_init := List.mem_of_getElem? (i := 55) rfl
set_option maxRecDepth 100000 in
theorem ww_f70 : Cond.fieldLink RX12 154 "ProofHouseModel" "built" "[I" ∈ wsX12_init := List.mem_of_getElem? (i := 56) rfl
set_option maxRecDepth 100000 in
theorem ww_f72 : Cond.fieldLink RX12 157 "ProofHouseModel" "variable" "[I" ∈ wsX12_init := List.mem_of_getElem? (i := 57) rfl
set_option maxRecDepth 100000 in
theorem ww_f73 : Cond.fieldLink RX12 160 "ProofHouseModel" "instead" "[I" ∈ wsX12_init := List.mem_of_getElem? (i := 58) rfl
set_option maxRecDepth 100000 in
theorem ww_f75 : Cond.fieldLink RX12 163 "ProofHouseModel" "walk" "[I" ∈ wsX12_init := List.mem_of_getElem? (i := 59) rfl
set_option maxRecDepth 100000 in
theorem ww_f77 : Cond.fieldLink RX12 166 "ProofHouseModel" "its" "[I" ∈ wsX12_init := List.mem_of_getElem? (i := 60) rfl
set_option maxRecDepth 100000 in
theorem ww_f79 : Cond.fieldLink RX12 169 "ProofHouseModel" "evalTerm" "[I" ∈ wsX12_init := List.mem_of_getElem? (i := 61) rfl
set_option maxRecDepth 100000 in
theorem ww_f80 : Cond.fieldLink RX12 172 "ProofHouseModel" "evalRest" "[I" ∈ wsX12_init := List.mem_of_getElem? (i := 62) rfl
set_option maxRecDepth 100000 in
theorem ww_f81 : Cond.fieldLink RX12 175 "ProofHouseModel" "evalFrom" "[I" ∈ wsX12_init := List.mem_of_getElem? (i := 63) rfl
set_option maxRecDepth 100000 in
theorem ww_f82 : Cond.fieldLink RX12 178 "ProofHouseModel" "evalDef" "[I" ∈ wsX12_init := List.mem_of_getElem? (i := 64) rfl
set_option maxRecDepth 100000 in
theorem ww_f83 : Cond.fieldLink RX12 181 "ProofHouseModel" "evalBase" "[I" ∈ wsX12_init := List.mem_of_getElem? (i := 65) rfl
set_option maxRecDepth 100000 in
theorem ww_f84 : Cond.fieldLink RX12 184 "ProofHouseModel" "evalEnds" "[Z" ∈ wsX12_init := List.mem_of_getElem? (i := 66) rfl
set_option maxRecDepth 100000 in
theorem ww_f86 : Cond.fieldLink RX12 187 "ProofHouseModel" "value" "[I" ∈ wsX12_init := List.mem_of_getElem? (i := 67) rfl
set_option maxRecDepth 100000 in
theorem ww_f92 : Cond.fieldLink RX12 190 "ProofHouseModel" "job" "[I" ∈ wsX12_init := List.mem_of_getElem? (i := 68) rfl
set_option maxRecDepth 100000 in
theorem ww_f93 : Cond.fieldLink RX12 193 "ProofHouseModel" "jobTruth" "[Z" ∈ wsX12_init := List.mem_of_getElem? (i := 69) rfl
set_option maxRecDepth 100000 in
theorem ww_f94 : Cond.fieldLink RX12 196 "ProofHouseModel" "jobPhase" "[I" ∈ wsX12_init := List.mem_of_getElem? (i := 70) rfl
set_option maxRecDepth 100000 in
theorem ww_f95 : Cond.fieldLink RX12 199 "ProofHouseModel" "jobA" "[I" ∈ wsX12_init := List.mem_of_getElem? (i := 71) rfl
set_option maxRecDepth 100000 in
theorem ww_f96 : Cond.fieldLink RX12 202 "ProofHouseModel" "jobB" "[I" ∈ wsX12_init := List.mem_of_getElem? (i := 72) rfl
set_option maxRecDepth 100000 in
theorem ww_f97 : Cond.fieldLink RX12 205 "ProofHouseModel" "jobC" "[I" ∈ wsX12_init := List.mem_of_getElem? (i := 73) rfl
set_option maxRecDepth 100000 in
theorem ww_f98 : Cond.fieldLink RX12 208 "ProofHouseModel" "jobRest" "[I" ∈ wsX12_init := List.mem_of_getElem? (i := 74) rfl
set_option maxRecDepth 100000 in
theorem ww_f99 : Cond.fieldLink RX12 211 "ProofHouseModel" "jobFrom" "[I" ∈ wsX12_init := List.mem_of_getElem? (i := 75) rfl
set_option maxRecDepth 100000 in
theorem ww_f100 : Cond.fieldLink RX12 214 "ProofHouseModel" "jobRule" "[I" ∈ wsX12_init := List.mem_of_getElem? (i := 76) rfl
set_option maxRecDepth 100000 in
theorem ww_f101 : Cond.fieldLink RX12 217 "ProofHouseModel" "jobHypothesis" "[I" ∈ wsX12_init := List.mem_of_getElem? (i := 77) rfl
set_option maxRecDepth 100000 in
theorem ww_f103 : Cond.fieldLink RX12 220 "ProofHouseModel" "result" "[I" ∈ wsX12_init := List.mem_of_getElem? (i := 78) rfl
set_option maxRecDepth 100000 in
theorem ww_f105 : Cond.fieldLink RX12 223 "ProofHouseModel" "ruleVariable" "[I" ∈ wsX12_init := List.mem_of_getElem? (i := 79) rfl
set_option maxRecDepth 100000 in
theorem ww_f106 : Cond.fieldLink RX12 226 "ProofHouseModel" "ruleInstead" "[I" ∈ wsX12_init := List.mem_of_getElem? (i := 80) rfl
set_option maxRecDepth 100000 in
theorem ww_f107 : Cond.fieldLink RX12 229 "ProofHouseModel" "rulePairs" "[I" ∈ wsX12_init := List.mem_of_getElem? (i := 81) rfl
set_option maxRecDepth 100000 in
theorem ww_f108 : Cond.fieldLink RX12 232 "ProofHouseModel" "context" "[I" ∈ wsX12_init := List.mem_of_getElem? (i := 82) rfl
set_option maxRecDepth 100000 in
theorem ww_f112 : Cond.fieldLink RX12 235 "ProofHouseModel" "seekLeft" "[I" ∈ wsX12_init := List.mem_of_getElem? (i := 83) rfl
set_option maxRecDepth 100000 in
theorem ww_f113 : Cond.fieldLink RX12 238 "ProofHouseModel" "seekRight" "[I" ∈ wsX12_init := List.mem_of_getElem? (i := 84) rfl
set_option maxRecDepth 100000 in
theorem ww_c241 : Cond.constant RX12 241 (69000) ∈ wsX12_init := List.mem_of_getElem? (i := 85) rfl
set_option maxRecDepth 100000 in
theorem ww_f114 : Cond.fieldLink RX12 242 "ProofHouseModel" "literal" "[I" ∈ wsX12_init := List.mem_of_getElem? (i := 86) rfl
set_option maxRecDepth 100000 in
theorem ww_f115 : Cond.fieldLink RX12 245 "ProofHouseModel" "many" "[I" ∈ wsX12_init := List.mem_of_getElem? (i := 87) rfl
set_option maxRecDepth 100000 in
theorem ww_f116 : Cond.fieldLink RX12 248 "ProofHouseModel" "rounds" "[I" ∈ wsX12_init := List.mem_of_getElem? (i := 88) rfl
set_option maxRecDepth 100000 in
theorem ww_f118 : Cond.fieldLink RX12 251 "ProofHouseModel" "order" "[I" ∈ wsX12_init := List.mem_of_getElem? (i := 89) rfl
set_option maxRecDepth 100000 in
theorem ww_f120 : Cond.fieldLink RX12 254 "ProofHouseModel" "leftRow" "[I" ∈ wsX12_init := List.mem_of_getElem? (i := 90) rfl
set_option maxRecDepth 100000 in
theorem ww_f121 : Cond.fieldLink RX12 257 "ProofHouseModel" "draft" "[I" ∈ wsX12_init := List.mem_of_getElem? (i := 91) rfl
set_option maxRecDepth 100000 in
theorem ww_f123 : Cond.fieldLink RX12 260 "ProofHouseModel" "end" "[I" ∈ wsX12_init := List.mem_of_getElem? (i := 92) rfl
set_option maxRecDepth 100000 in
theorem ww_f124 : Cond.fieldLink RX12 263 "ProofHouseModel" "ruler" "[I" ∈ wsX12_init := List.mem_of_getElem? (i := 93) rfl
set_option maxRecDepth 100000 in
theorem ww_f125 : Cond.fieldLink RX12 266 "ProofHouseModel" "rulers" "[I" ∈ wsX12_init := List.mem_of_getElem? (i := 94) rfl
set_option maxRecDepth 100000 in
theorem ww_f127 : Cond.fieldLink RX12 269 "ProofHouseModel" "pathTerm" "[I" ∈ wsX12_init := List.mem_of_getElem? (i := 95) rfl
set_option maxRecDepth 100000 in
theorem ww_f128 : Cond.fieldLink RX12 272 "ProofHouseModel" "pathRuler" "[I" ∈ wsX12_init := List.mem_of_getElem? (i := 96) rfl
set_option maxRecDepth 100000 in
theorem ww_f129 : Cond.fieldLink RX12 275 "ProofHouseModel" "pathRulers" "[I" ∈ wsX12_init := List.mem_of_getElem? (i := 97) rfl
set_option maxRecDepth 100000 in
theorem ww_f130 : Cond.fieldLink RX12 278 "ProofHouseModel" "found" "[I" ∈ wsX12_init := List.mem_of_getElem? (i := 98) rfl
set_option maxRecDepth 100000 in
theorem ww_f137 : Cond.fieldLink RX12 281 "ProofHouseModel" "used" "[I" ∈ wsX12_init := List.mem_of_getElem? (i := 99) rfl
set_option maxRecDepth 100000 in
theorem ww_f138 : Cond.fieldLink RX12 284 "ProofHouseModel" "usedPairs" "[I" ∈ wsX12_init := List.mem_of_getElem? (i := 100) rfl
set_option maxRecDepth 100000 in
theorem ww_f140 : Cond.fieldLink RX12 287 "ProofHouseModel" "stepTerm" "[I" ∈ wsX12_init := List.mem_of_getElem? (i := 101) rfl
set_option maxRecDepth 100000 in
theorem ww_f141 : Cond.fieldLink RX12 290 "ProofHouseModel" "proof" "[I" ∈ wsX12_init := List.mem_of_getElem? (i := 102) rfl
set_option maxRecDepth 100000 in
theorem ww_f142 : Cond.fieldLink RX12 293 "ProofHouseModel" "proofPart" "[I" ∈ wsX12_init := List.mem_of_getElem? (i := 103) rfl
set_option maxRecDepth 100000 in
theorem ww_f143 : Cond.fieldLink RX12 296 "ProofHouseModel" "proofFrom" "[I" ∈ wsX12_init := List.mem_of_getElem? (i := 104) rfl
set_option maxRecDepth 100000 in
theorem ww_f145 : Cond.fieldLink RX12 299 "ProofHouseModel" "clause" "[I" ∈ wsX12_init := List.mem_of_getElem? (i := 105) rfl
set_option maxRecDepth 100000 in
theorem ww_f146 : Cond.fieldLink RX12 302 "ProofHouseModel" "clauseMany" "[I" ∈ wsX12_init := List.mem_of_getElem? (i := 106) rfl
