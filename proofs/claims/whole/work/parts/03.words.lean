theorem k_1 : (Cond.initialized "PlanClauses") ∈ q_tbl := q_mem (List.mem_of_getElem? (i := 44) rfl) rfl
theorem k_2 : (Cond.initialized "PlanClauses$Formula") ∈ q_tbl := q_mem (List.mem_of_getElem? (i := 45) rfl) rfl
theorem k_3 : (Cond.initialized "PlanClauses$Rows") ∈ q_tbl := q_mem (List.mem_of_getElem? (i := 46) rfl) rfl
theorem k_4 : (Cond.initialized "PlanClauses$Models") ∈ q_tbl := q_mem (List.mem_of_getElem? (i := 47) rfl) rfl
theorem k_5 : (Cond.initialized "PlanClauses$Search") ∈ q_tbl := q_mem (List.mem_of_getElem? (i := 48) rfl) rfl
theorem k_6 : (Cond.initialized "PlanClauses$Trail") ∈ q_tbl := q_mem (List.mem_of_getElem? (i := 49) rfl) rfl
theorem k_7 : (Cond.initialized "PlanClauses$Task") ∈ q_tbl := q_mem (List.mem_of_getElem? (i := 50) rfl) rfl
theorem k_8 : (Cond.initialized "PlanClauses$Code") ∈ q_tbl := q_mem (List.mem_of_getElem? (i := 51) rfl) rfl
theorem k_9 : (Cond.initialized "PlanClausesModel") ∈ q_tbl := q_mem (List.mem_of_getElem? (i := 52) rfl) rfl
theorem k_10 : (Cond.initialized "java/lang/Math") ∈ q_tbl := q_mem (List.mem_of_getElem? (i := 53) rfl) rfl
theorem k_11 : (Cond.initialized "java/lang/Integer") ∈ q_tbl := q_mem (List.mem_of_getElem? (i := 54) rfl) rfl
theorem k_32 : (Cond.fieldLink "PlanClauses$Rows" (7) "PlanClauses$Rows" "wantTrue" "[I") ∈ q_tbl := q_mem (List.mem_of_getElem? (i := 75) rfl) rfl
theorem k_33 : (Cond.fieldLink "PlanClauses$Search" (100) "PlanClauses$Rows" "wantTrue" "[I") ∈ q_tbl := q_mem (List.mem_of_getElem? (i := 76) rfl) rfl
theorem k_34 : (Cond.fieldLink "PlanClauses$Rows" (13) "PlanClauses$Rows" "wantFalse" "[I") ∈ q_tbl := q_mem (List.mem_of_getElem? (i := 77) rfl) rfl
theorem k_35 : (Cond.fieldLink "PlanClauses$Search" (103) "PlanClauses$Rows" "wantFalse" "[I") ∈ q_tbl := q_mem (List.mem_of_getElem? (i := 78) rfl) rfl
theorem k_36 : (Cond.fieldLink "PlanClauses$Rows" (16) "PlanClauses$Rows" "size" "I") ∈ q_tbl := q_mem (List.mem_of_getElem? (i := 79) rfl) rfl
theorem k_37 : (Cond.fieldLink "PlanClauses$Search" (40) "PlanClauses$Rows" "size" "I") ∈ q_tbl := q_mem (List.mem_of_getElem? (i := 80) rfl) rfl
theorem k_38 : (Cond.fieldLink "PlanClauses" (45) "PlanClauses$Rows" "size" "I") ∈ q_tbl := q_mem (List.mem_of_getElem? (i := 81) rfl) rfl
theorem k_39 : (Cond.fieldLink "PlanClauses$Models" (50) "PlanClauses$Rows" "size" "I") ∈ q_tbl := q_mem (List.mem_of_getElem? (i := 82) rfl) rfl
theorem k_40 : (Cond.fieldLink "PlanClauses$Formula" (40) "PlanClauses$Rows" "size" "I") ∈ q_tbl := q_mem (List.mem_of_getElem? (i := 83) rfl) rfl
theorem k_41 : (Cond.fieldLink "PlanClauses$Rows" (20) "PlanClauses$Rows" "oldest" "I") ∈ q_tbl := q_mem (List.mem_of_getElem? (i := 84) rfl) rfl
theorem k_52 : (Cond.fieldLink "PlanClauses" (51) "PlanClauses$Formula" "width" "I") ∈ q_tbl := q_mem (List.mem_of_getElem? (i := 95) rfl) rfl
theorem k_53 : (Cond.fieldLink "PlanClauses$Models" (76) "PlanClauses$Formula" "width" "I") ∈ q_tbl := q_mem (List.mem_of_getElem? (i := 96) rfl) rfl
theorem k_54 : (Cond.fieldLink "PlanClauses$Formula" (30) "PlanClauses$Formula" "draftSize" "I") ∈ q_tbl := q_mem (List.mem_of_getElem? (i := 97) rfl) rfl
theorem k_55 : (Cond.fieldLink "PlanClauses" (54) "PlanClauses$Formula" "draftSize" "I") ∈ q_tbl := q_mem (List.mem_of_getElem? (i := 98) rfl) rfl
theorem k_56 : (Cond.fieldLink "PlanClauses$Formula" (9) "PlanClauses$Formula" "draft" "[I") ∈ q_tbl := q_mem (List.mem_of_getElem? (i := 99) rfl) rfl
theorem k_57 : (Cond.fieldLink "PlanClauses$Formula" (15) "PlanClauses$Formula" "literals" "[I") ∈ q_tbl := q_mem (List.mem_of_getElem? (i := 100) rfl) rfl
theorem k_58 : (Cond.fieldLink "PlanClauses$Formula" (18) "PlanClauses$Formula" "sizes" "[I") ∈ q_tbl := q_mem (List.mem_of_getElem? (i := 101) rfl) rfl
theorem k_59 : (Cond.fieldLink "PlanClauses$Search" (147) "PlanClauses$Formula" "sizes" "[I") ∈ q_tbl := q_mem (List.mem_of_getElem? (i := 102) rfl) rfl
theorem k_60 : (Cond.fieldLink "PlanClauses$Formula" (26) "PlanClauses$Formula" "rows" "LPlanClauses$Rows;") ∈ q_tbl := q_mem (List.mem_of_getElem? (i := 103) rfl) rfl
theorem k_61 : (Cond.fieldLink "PlanClauses$Search" (35) "PlanClauses$Formula" "rows" "LPlanClauses$Rows;") ∈ q_tbl := q_mem (List.mem_of_getElem? (i := 104) rfl) rfl
theorem k_62 : (Cond.fieldLink "PlanClauses" (41) "PlanClauses$Formula" "rows" "LPlanClauses$Rows;") ∈ q_tbl := q_mem (List.mem_of_getElem? (i := 105) rfl) rfl
theorem k_63 : (Cond.fieldLink "PlanClauses$Models" (45) "PlanClauses$Formula" "rows" "LPlanClauses$Rows;") ∈ q_tbl := q_mem (List.mem_of_getElem? (i := 106) rfl) rfl
theorem k_97 : (Cond.fieldLink "PlanClauses$Trail" (24) "PlanClauses$Trail" "trues" "I") ∈ q_tbl := q_mem (List.mem_of_getElem? (i := 140) rfl) rfl
theorem k_98 : (Cond.fieldLink "PlanClauses$Search" (82) "PlanClauses$Trail" "trues" "I") ∈ q_tbl := q_mem (List.mem_of_getElem? (i := 141) rfl) rfl
theorem k_99 : (Cond.fieldLink "PlanClauses$Trail" (28) "PlanClauses$Trail" "falses" "I") ∈ q_tbl := q_mem (List.mem_of_getElem? (i := 142) rfl) rfl
theorem k_100 : (Cond.fieldLink "PlanClauses$Search" (79) "PlanClauses$Trail" "falses" "I") ∈ q_tbl := q_mem (List.mem_of_getElem? (i := 143) rfl) rfl
theorem k_101 : (Cond.fieldLink "PlanClauses$Trail" (31) "PlanClauses$Trail" "length" "I") ∈ q_tbl := q_mem (List.mem_of_getElem? (i := 144) rfl) rfl
theorem k_102 : (Cond.fieldLink "PlanClauses$Search" (93) "PlanClauses$Trail" "length" "I") ∈ q_tbl := q_mem (List.mem_of_getElem? (i := 145) rfl) rfl
theorem k_103 : (Cond.fieldLink "PlanClauses$Trail" (34) "PlanClauses$Trail" "level" "I") ∈ q_tbl := q_mem (List.mem_of_getElem? (i := 146) rfl) rfl
theorem k_104 : (Cond.fieldLink "PlanClauses$Search" (73) "PlanClauses$Trail" "level" "I") ∈ q_tbl := q_mem (List.mem_of_getElem? (i := 147) rfl) rfl
theorem k_105 : (Cond.fieldLink "PlanClauses$Trail" (9) "PlanClauses$Trail" "order" "[I") ∈ q_tbl := q_mem (List.mem_of_getElem? (i := 148) rfl) rfl
theorem k_106 : (Cond.fieldLink "PlanClauses$Search" (123) "PlanClauses$Trail" "order" "[I") ∈ q_tbl := q_mem (List.mem_of_getElem? (i := 149) rfl) rfl
theorem k_107 : (Cond.fieldLink "PlanClauses$Trail" (15) "PlanClauses$Trail" "whyTrue" "[I") ∈ q_tbl := q_mem (List.mem_of_getElem? (i := 150) rfl) rfl
theorem k_108 : (Cond.fieldLink "PlanClauses$Search" (126) "PlanClauses$Trail" "whyTrue" "[I") ∈ q_tbl := q_mem (List.mem_of_getElem? (i := 151) rfl) rfl
theorem k_109 : (Cond.fieldLink "PlanClauses$Trail" (18) "PlanClauses$Trail" "whyFalse" "[I") ∈ q_tbl := q_mem (List.mem_of_getElem? (i := 152) rfl) rfl
theorem k_110 : (Cond.fieldLink "PlanClauses$Search" (129) "PlanClauses$Trail" "whyFalse" "[I") ∈ q_tbl := q_mem (List.mem_of_getElem? (i := 153) rfl) rfl
theorem k_111 : (Cond.fieldLink "PlanClauses$Trail" (21) "PlanClauses$Trail" "ahead" "[I") ∈ q_tbl := q_mem (List.mem_of_getElem? (i := 154) rfl) rfl
theorem k_112 : (Cond.fieldLink "PlanClauses$Search" (120) "PlanClauses$Trail" "ahead" "[I") ∈ q_tbl := q_mem (List.mem_of_getElem? (i := 155) rfl) rfl
theorem k_130 : (Cond.fieldLink "PlanClauses$Search" (31) "PlanClauses$Search" "formula" "LPlanClauses$Formula;") ∈ q_tbl := q_mem (List.mem_of_getElem? (i := 173) rfl) rfl
theorem k_131 : (Cond.fieldLink "PlanClauses$Search" (14) "PlanClauses$Search" "learned" "LPlanClauses$Rows;") ∈ q_tbl := q_mem (List.mem_of_getElem? (i := 174) rfl) rfl
theorem k_132 : (Cond.fieldLink "PlanClauses$Search" (23) "PlanClauses$Search" "trail" "LPlanClauses$Trail;") ∈ q_tbl := q_mem (List.mem_of_getElem? (i := 175) rfl) rfl
theorem k_133 : (Cond.fieldLink "PlanClauses$Search" (27) "PlanClauses$Search" "weights" "[I") ∈ q_tbl := q_mem (List.mem_of_getElem? (i := 176) rfl) rfl
theorem k_134 : (Cond.fieldLink "PlanClauses$Search" (53) "PlanClauses$Search" "clauses" "I") ∈ q_tbl := q_mem (List.mem_of_getElem? (i := 177) rfl) rfl
theorem k_135 : (Cond.fieldLink "PlanClauses$Search" (106) "PlanClauses$Search" "clashTrue" "I") ∈ q_tbl := q_mem (List.mem_of_getElem? (i := 178) rfl) rfl
theorem k_136 : (Cond.fieldLink "PlanClauses$Search" (109) "PlanClauses$Search" "clashFalse" "I") ∈ q_tbl := q_mem (List.mem_of_getElem? (i := 179) rfl) rfl
theorem k_137 : (Cond.fieldLink "PlanClauses$Search" (60) "PlanClauses$Search" "ended" "Z") ∈ q_tbl := q_mem (List.mem_of_getElem? (i := 180) rfl) rfl
theorem k_155 : (Cond.fieldLink "PlanClauses$Models" (15) "PlanClauses$Models" "formula" "LPlanClauses$Formula;") ∈ q_tbl := q_mem (List.mem_of_getElem? (i := 198) rfl) rfl
theorem k_156 : (Cond.fieldLink "PlanClauses$Models" (24) "PlanClauses$Models" "search" "LPlanClauses$Search;") ∈ q_tbl := q_mem (List.mem_of_getElem? (i := 199) rfl) rfl
theorem k_157 : (Cond.fieldLink "PlanClauses$Models" (9) "PlanClauses$Models" "rows" "[I") ∈ q_tbl := q_mem (List.mem_of_getElem? (i := 200) rfl) rfl
theorem k_158 : (Cond.fieldLink "PlanClauses$Models" (35) "PlanClauses$Models" "size" "I") ∈ q_tbl := q_mem (List.mem_of_getElem? (i := 201) rfl) rfl
theorem k_159 : (Cond.fieldLink "PlanClauses" (95) "PlanClauses$Models" "size" "I") ∈ q_tbl := q_mem (List.mem_of_getElem? (i := 202) rfl) rfl
theorem k_160 : (Cond.fieldLink "PlanClauses$Models" (39) "PlanClauses$Models" "seenTrue" "I") ∈ q_tbl := q_mem (List.mem_of_getElem? (i := 203) rfl) rfl
theorem k_161 : (Cond.fieldLink "PlanClauses$Models" (42) "PlanClauses$Models" "seenFalse" "I") ∈ q_tbl := q_mem (List.mem_of_getElem? (i := 204) rfl) rfl
theorem k_162 : (Cond.fieldLink "PlanClauses$Models" (28) "PlanClauses$Models" "begun" "Z") ∈ q_tbl := q_mem (List.mem_of_getElem? (i := 205) rfl) rfl
theorem k_163 : (Cond.fieldLink "PlanClauses$Models" (32) "PlanClauses$Models" "complete" "Z") ∈ q_tbl := q_mem (List.mem_of_getElem? (i := 206) rfl) rfl
theorem k_187 : (Cond.fieldLink "PlanClauses$Task" (24) "PlanClauses$Task" "factCount" "I") ∈ q_tbl := q_mem (List.mem_of_getElem? (i := 230) rfl) rfl
theorem k_188 : (Cond.fieldLink "PlanClauses$Code" (52) "PlanClauses$Task" "factCount" "I") ∈ q_tbl := q_mem (List.mem_of_getElem? (i := 231) rfl) rfl
theorem k_189 : (Cond.fieldLink "PlanClauses" (100) "PlanClauses$Task" "factCount" "I") ∈ q_tbl := q_mem (List.mem_of_getElem? (i := 232) rfl) rfl
theorem k_190 : (Cond.fieldLink "PlanClauses$Task" (28) "PlanClauses$Task" "actionCount" "I") ∈ q_tbl := q_mem (List.mem_of_getElem? (i := 233) rfl) rfl
theorem k_191 : (Cond.fieldLink "PlanClauses$Code" (57) "PlanClauses$Task" "actionCount" "I") ∈ q_tbl := q_mem (List.mem_of_getElem? (i := 234) rfl) rfl
theorem k_192 : (Cond.fieldLink "PlanClauses" (111) "PlanClauses$Task" "actionCount" "I") ∈ q_tbl := q_mem (List.mem_of_getElem? (i := 235) rfl) rfl
theorem k_193 : (Cond.fieldLink "PlanClauses$Task" (31) "PlanClauses$Task" "beginning" "I") ∈ q_tbl := q_mem (List.mem_of_getElem? (i := 236) rfl) rfl
theorem k_194 : (Cond.fieldLink "PlanClauses$Code" (60) "PlanClauses$Task" "beginning" "I") ∈ q_tbl := q_mem (List.mem_of_getElem? (i := 237) rfl) rfl
theorem k_195 : (Cond.fieldLink "PlanClauses" (127) "PlanClauses$Task" "beginning" "I") ∈ q_tbl := q_mem (List.mem_of_getElem? (i := 238) rfl) rfl
theorem k_196 : (Cond.fieldLink "PlanClauses$Task" (34) "PlanClauses$Task" "goal" "I") ∈ q_tbl := q_mem (List.mem_of_getElem? (i := 239) rfl) rfl
theorem k_197 : (Cond.fieldLink "PlanClauses$Code" (77) "PlanClauses$Task" "goal" "I") ∈ q_tbl := q_mem (List.mem_of_getElem? (i := 240) rfl) rfl
theorem k_198 : (Cond.fieldLink "PlanClauses" (149) "PlanClauses$Task" "goal" "I") ∈ q_tbl := q_mem (List.mem_of_getElem? (i := 241) rfl) rfl
theorem k_199 : (Cond.fieldLink "PlanClauses$Task" (9) "PlanClauses$Task" "asks" "[I") ∈ q_tbl := q_mem (List.mem_of_getElem? (i := 242) rfl) rfl
theorem k_200 : (Cond.fieldLink "PlanClauses$Code" (80) "PlanClauses$Task" "asks" "[I") ∈ q_tbl := q_mem (List.mem_of_getElem? (i := 243) rfl) rfl
theorem k_201 : (Cond.fieldLink "PlanClauses$Task" (15) "PlanClauses$Task" "adds" "[I") ∈ q_tbl := q_mem (List.mem_of_getElem? (i := 244) rfl) rfl
theorem k_202 : (Cond.fieldLink "PlanClauses$Code" (86) "PlanClauses$Task" "adds" "[I") ∈ q_tbl := q_mem (List.mem_of_getElem? (i := 245) rfl) rfl
theorem k_203 : (Cond.fieldLink "PlanClauses$Task" (18) "PlanClauses$Task" "takes" "[I") ∈ q_tbl := q_mem (List.mem_of_getElem? (i := 246) rfl) rfl
theorem k_204 : (Cond.fieldLink "PlanClauses$Code" (89) "PlanClauses$Task" "takes" "[I") ∈ q_tbl := q_mem (List.mem_of_getElem? (i := 247) rfl) rfl
theorem k_205 : (Cond.fieldLink "PlanClauses$Task" (21) "PlanClauses$Task" "ways" "[I") ∈ q_tbl := q_mem (List.mem_of_getElem? (i := 248) rfl) rfl
theorem k_206 : (Cond.fieldLink "PlanClauses$Task" (37) "PlanClauses$Task" "counted" "Z") ∈ q_tbl := q_mem (List.mem_of_getElem? (i := 249) rfl) rfl
theorem k_232 : (Cond.fieldLink "PlanClauses$Code" (18) "PlanClauses$Code" "task" "LPlanClauses$Task;") ∈ q_tbl := q_mem (List.mem_of_getElem? (i := 275) rfl) rfl
theorem k_233 : (Cond.fieldLink "PlanClauses$Code" (9) "PlanClauses$Code" "literals" "[I") ∈ q_tbl := q_mem (List.mem_of_getElem? (i := 276) rfl) rfl
theorem k_234 : (Cond.fieldLink "PlanClauses$Code" (15) "PlanClauses$Code" "starts" "[I") ∈ q_tbl := q_mem (List.mem_of_getElem? (i := 277) rfl) rfl
theorem k_235 : (Cond.fieldLink "PlanClauses$Code" (30) "PlanClauses$Code" "clauseCount" "I") ∈ q_tbl := q_mem (List.mem_of_getElem? (i := 278) rfl) rfl
theorem k_236 : (Cond.fieldLink "PlanClauses" (142) "PlanClauses$Code" "clauseCount" "I") ∈ q_tbl := q_mem (List.mem_of_getElem? (i := 279) rfl) rfl
theorem k_237 : (Cond.fieldLink "PlanClauses$Code" (33) "PlanClauses$Code" "literalCount" "I") ∈ q_tbl := q_mem (List.mem_of_getElem? (i := 280) rfl) rfl
theorem k_238 : (Cond.fieldLink "PlanClauses" (145) "PlanClauses$Code" "literalCount" "I") ∈ q_tbl := q_mem (List.mem_of_getElem? (i := 281) rfl) rfl
theorem k_239 : (Cond.fieldLink "PlanClauses$Code" (26) "PlanClauses$Code" "steps" "I") ∈ q_tbl := q_mem (List.mem_of_getElem? (i := 282) rfl) rfl
theorem k_240 : (Cond.fieldLink "PlanClauses$Code" (22) "PlanClauses$Code" "told" "Z") ∈ q_tbl := q_mem (List.mem_of_getElem? (i := 283) rfl) rfl
theorem k_256 : (Cond.fieldLink "PlanClauses" (12) "PlanClauses" "formula" "LPlanClauses$Formula;") ∈ q_tbl := q_mem (List.mem_of_getElem? (i := 299) rfl) rfl
theorem k_257 : (Cond.fieldLink "PlanClauses" (21) "PlanClauses" "found" "LPlanClauses$Models;") ∈ q_tbl := q_mem (List.mem_of_getElem? (i := 300) rfl) rfl
theorem k_258 : (Cond.fieldLink "PlanClauses" (28) "PlanClauses" "task" "LPlanClauses$Task;") ∈ q_tbl := q_mem (List.mem_of_getElem? (i := 301) rfl) rfl
theorem k_259 : (Cond.fieldLink "PlanClauses" (37) "PlanClauses" "told" "LPlanClauses$Code;") ∈ q_tbl := q_mem (List.mem_of_getElem? (i := 302) rfl) rfl
theorem k_270 : (Cond.instanceMethod ⟨"PlanClauses", "variables", "(I)I"⟩) ∈ q_tbl := q_mem (List.mem_of_getElem? (i := 313) rfl) rfl
theorem k_271 : (Cond.selects "PlanClauses" ⟨"PlanClauses", "variables", "(I)I"⟩ ⟨"PlanClauses", "variables", "(I)I"⟩) ∈ q_tbl := q_mem (List.mem_of_getElem? (i := 314) rfl) rfl
theorem k_272 : (Cond.code ⟨"PlanClauses", "variables", "(I)I"⟩ prog_1_method_2_code (3) (Option.some Jvm.ClassFile.FieldType.int)) ∈ q_tbl := q_mem (List.mem_of_getElem? (i := 315) rfl) rfl
theorem k_273 : (Cond.methodLink "PlanClauses" (57) ⟨"PlanClauses$Models", "forget", "()V"⟩) ∈ q_tbl := q_mem (List.mem_of_getElem? (i := 316) rfl) rfl
theorem k_274 : (Cond.instanceMethod ⟨"PlanClauses$Models", "forget", "()V"⟩) ∈ q_tbl := q_mem (List.mem_of_getElem? (i := 317) rfl) rfl
theorem k_275 : (Cond.selects "PlanClauses$Models" ⟨"PlanClauses$Models", "forget", "()V"⟩ ⟨"PlanClauses$Models", "forget", "()V"⟩) ∈ q_tbl := q_mem (List.mem_of_getElem? (i := 318) rfl) rfl
theorem k_276 : (Cond.code ⟨"PlanClauses$Models", "forget", "()V"⟩ prog_4_method_2_code (1) (Option.none : Option Jvm.ClassFile.FieldType)) ∈ q_tbl := q_mem (List.mem_of_getElem? (i := 319) rfl) rfl
theorem k_278 : (Cond.instanceMethod ⟨"PlanClauses", "literal", "(I)I"⟩) ∈ q_tbl := q_mem (List.mem_of_getElem? (i := 321) rfl) rfl
theorem k_279 : (Cond.selects "PlanClauses" ⟨"PlanClauses", "literal", "(I)I"⟩ ⟨"PlanClauses", "literal", "(I)I"⟩) ∈ q_tbl := q_mem (List.mem_of_getElem? (i := 322) rfl) rfl
theorem k_280 : (Cond.code ⟨"PlanClauses", "literal", "(I)I"⟩ prog_1_method_3_code (2) (Option.some Jvm.ClassFile.FieldType.int)) ∈ q_tbl := q_mem (List.mem_of_getElem? (i := 323) rfl) rfl
theorem k_281 : (Cond.methodLink "PlanClauses" (60) ⟨"PlanClauses", "isLiteralOrZero", "(I)Z"⟩) ∈ q_tbl := q_mem (List.mem_of_getElem? (i := 324) rfl) rfl
theorem k_283 : (Cond.instanceMethod ⟨"PlanClauses", "isLiteralOrZero", "(I)Z"⟩) ∈ q_tbl := q_mem (List.mem_of_getElem? (i := 326) rfl) rfl
theorem k_284 : (Cond.code ⟨"PlanClauses", "isLiteralOrZero", "(I)Z"⟩ prog_1_method_14_code (2) (Option.some Jvm.ClassFile.FieldType.boolean)) ∈ q_tbl := q_mem (List.mem_of_getElem? (i := 327) rfl) rfl
theorem k_285 : (Cond.methodLink "PlanClauses" (64) ⟨"java/lang/Math", "abs", "(I)I"⟩) ∈ q_tbl := q_mem (List.mem_of_getElem? (i := 328) rfl) rfl
theorem k_286 : (Cond.static ⟨"java/lang/Math", "abs", "(I)I"⟩) ∈ q_tbl := q_mem (List.mem_of_getElem? (i := 329) rfl) rfl
theorem k_287 : (Cond.code ⟨"java/lang/Math", "abs", "(I)I"⟩ prog_12_method_59_code (1) (Option.some Jvm.ClassFile.FieldType.int)) ∈ q_tbl := q_mem (List.mem_of_getElem? (i := 330) rfl) rfl
theorem k_288 : (Cond.methodLink "PlanClauses" (70) ⟨"PlanClauses$Formula", "draftHas", "(I)Z"⟩) ∈ q_tbl := q_mem (List.mem_of_getElem? (i := 331) rfl) rfl
theorem k_289 : (Cond.instanceMethod ⟨"PlanClauses$Formula", "draftHas", "(I)Z"⟩) ∈ q_tbl := q_mem (List.mem_of_getElem? (i := 332) rfl) rfl
theorem k_290 : (Cond.selects "PlanClauses$Formula" ⟨"PlanClauses$Formula", "draftHas", "(I)Z"⟩ ⟨"PlanClauses$Formula", "draftHas", "(I)Z"⟩) ∈ q_tbl := q_mem (List.mem_of_getElem? (i := 333) rfl) rfl
theorem k_291 : (Cond.code ⟨"PlanClauses$Formula", "draftHas", "(I)Z"⟩ prog_3_method_2_code (3) (Option.some Jvm.ClassFile.FieldType.boolean)) ∈ q_tbl := q_mem (List.mem_of_getElem? (i := 334) rfl) rfl
theorem k_292 : (Cond.methodLink "PlanClauses$Formula" (34) ⟨"java/lang/Math", "abs", "(I)I"⟩) ∈ q_tbl := q_mem (List.mem_of_getElem? (i := 335) rfl) rfl
theorem k_293 : (Cond.methodLink "PlanClauses" (73) ⟨"PlanClauses$Formula", "addToDraft", "(I)I"⟩) ∈ q_tbl := q_mem (List.mem_of_getElem? (i := 336) rfl) rfl
theorem k_294 : (Cond.instanceMethod ⟨"PlanClauses$Formula", "addToDraft", "(I)I"⟩) ∈ q_tbl := q_mem (List.mem_of_getElem? (i := 337) rfl) rfl
theorem k_295 : (Cond.selects "PlanClauses$Formula" ⟨"PlanClauses$Formula", "addToDraft", "(I)I"⟩ ⟨"PlanClauses$Formula", "addToDraft", "(I)I"⟩) ∈ q_tbl := q_mem (List.mem_of_getElem? (i := 338) rfl) rfl
theorem k_296 : (Cond.code ⟨"PlanClauses$Formula", "addToDraft", "(I)I"⟩ prog_3_method_3_code (2) (Option.some Jvm.ClassFile.FieldType.int)) ∈ q_tbl := q_mem (List.mem_of_getElem? (i := 339) rfl) rfl
theorem k_298 : (Cond.instanceMethod ⟨"PlanClauses", "clause", "()I"⟩) ∈ q_tbl := q_mem (List.mem_of_getElem? (i := 341) rfl) rfl
theorem k_299 : (Cond.selects "PlanClauses" ⟨"PlanClauses", "clause", "()I"⟩ ⟨"PlanClauses", "clause", "()I"⟩) ∈ q_tbl := q_mem (List.mem_of_getElem? (i := 342) rfl) rfl
theorem k_300 : (Cond.code ⟨"PlanClauses", "clause", "()I"⟩ prog_1_method_4_code (1) (Option.some Jvm.ClassFile.FieldType.int)) ∈ q_tbl := q_mem (List.mem_of_getElem? (i := 343) rfl) rfl
theorem k_301 : (Cond.methodLink "PlanClauses" (76) ⟨"PlanClauses$Formula", "addDraft", "()V"⟩) ∈ q_tbl := q_mem (List.mem_of_getElem? (i := 344) rfl) rfl
theorem k_302 : (Cond.instanceMethod ⟨"PlanClauses$Formula", "addDraft", "()V"⟩) ∈ q_tbl := q_mem (List.mem_of_getElem? (i := 345) rfl) rfl
theorem k_303 : (Cond.selects "PlanClauses$Formula" ⟨"PlanClauses$Formula", "addDraft", "()V"⟩ ⟨"PlanClauses$Formula", "addDraft", "()V"⟩) ∈ q_tbl := q_mem (List.mem_of_getElem? (i := 346) rfl) rfl
theorem k_304 : (Cond.code ⟨"PlanClauses$Formula", "addDraft", "()V"⟩ prog_3_method_4_code (6) (Option.none : Option Jvm.ClassFile.FieldType)) ∈ q_tbl := q_mem (List.mem_of_getElem? (i := 347) rfl) rfl
theorem k_305 : (Cond.methodLink "PlanClauses$Formula" (43) ⟨"PlanClauses$Rows", "add", "(II)V"⟩) ∈ q_tbl := q_mem (List.mem_of_getElem? (i := 348) rfl) rfl
theorem k_306 : (Cond.instanceMethod ⟨"PlanClauses$Rows", "add", "(II)V"⟩) ∈ q_tbl := q_mem (List.mem_of_getElem? (i := 349) rfl) rfl
theorem k_307 : (Cond.selects "PlanClauses$Rows" ⟨"PlanClauses$Rows", "add", "(II)V"⟩ ⟨"PlanClauses$Rows", "add", "(II)V"⟩) ∈ q_tbl := q_mem (List.mem_of_getElem? (i := 350) rfl) rfl
theorem k_308 : (Cond.code ⟨"PlanClauses$Rows", "add", "(II)V"⟩ prog_5_method_3_code (5) (Option.none : Option Jvm.ClassFile.FieldType)) ∈ q_tbl := q_mem (List.mem_of_getElem? (i := 351) rfl) rfl
theorem k_310 : (Cond.instanceMethod ⟨"PlanClauses", "drop", "()I"⟩) ∈ q_tbl := q_mem (List.mem_of_getElem? (i := 353) rfl) rfl
theorem k_311 : (Cond.selects "PlanClauses" ⟨"PlanClauses", "drop", "()I"⟩ ⟨"PlanClauses", "drop", "()I"⟩) ∈ q_tbl := q_mem (List.mem_of_getElem? (i := 354) rfl) rfl
theorem k_312 : (Cond.code ⟨"PlanClauses", "drop", "()I"⟩ prog_1_method_5_code (1) (Option.some Jvm.ClassFile.FieldType.int)) ∈ q_tbl := q_mem (List.mem_of_getElem? (i := 355) rfl) rfl
theorem k_314 : (Cond.instanceMethod ⟨"PlanClauses", "at", "(II)I"⟩) ∈ q_tbl := q_mem (List.mem_of_getElem? (i := 357) rfl) rfl
theorem k_315 : (Cond.selects "PlanClauses" ⟨"PlanClauses", "at", "(II)I"⟩ ⟨"PlanClauses", "at", "(II)I"⟩) ∈ q_tbl := q_mem (List.mem_of_getElem? (i := 358) rfl) rfl
theorem k_316 : (Cond.code ⟨"PlanClauses", "at", "(II)I"⟩ prog_1_method_6_code (3) (Option.some Jvm.ClassFile.FieldType.int)) ∈ q_tbl := q_mem (List.mem_of_getElem? (i := 359) rfl) rfl
theorem k_317 : (Cond.methodLink "PlanClauses" (79) ⟨"PlanClauses$Formula", "literalOf", "(II)I"⟩) ∈ q_tbl := q_mem (List.mem_of_getElem? (i := 360) rfl) rfl
theorem k_318 : (Cond.instanceMethod ⟨"PlanClauses$Formula", "literalOf", "(II)I"⟩) ∈ q_tbl := q_mem (List.mem_of_getElem? (i := 361) rfl) rfl
theorem k_319 : (Cond.selects "PlanClauses$Formula" ⟨"PlanClauses$Formula", "literalOf", "(II)I"⟩ ⟨"PlanClauses$Formula", "literalOf", "(II)I"⟩) ∈ q_tbl := q_mem (List.mem_of_getElem? (i := 362) rfl) rfl
theorem k_320 : (Cond.code ⟨"PlanClauses$Formula", "literalOf", "(II)I"⟩ prog_3_method_5_code (3) (Option.some Jvm.ClassFile.FieldType.int)) ∈ q_tbl := q_mem (List.mem_of_getElem? (i := 363) rfl) rfl
theorem k_322 : (Cond.instanceMethod ⟨"PlanClauses", "sat", "(I)I"⟩) ∈ q_tbl := q_mem (List.mem_of_getElem? (i := 365) rfl) rfl
theorem k_323 : (Cond.selects "PlanClauses" ⟨"PlanClauses", "sat", "(I)I"⟩ ⟨"PlanClauses", "sat", "(I)I"⟩) ∈ q_tbl := q_mem (List.mem_of_getElem? (i := 366) rfl) rfl
theorem k_324 : (Cond.code ⟨"PlanClauses", "sat", "(I)I"⟩ prog_1_method_7_code (2) (Option.some Jvm.ClassFile.FieldType.int)) ∈ q_tbl := q_mem (List.mem_of_getElem? (i := 367) rfl) rfl
theorem k_325 : (Cond.methodLink "PlanClauses" (83) ⟨"PlanClauses$Models", "allow", "(I)Z"⟩) ∈ q_tbl := q_mem (List.mem_of_getElem? (i := 368) rfl) rfl
theorem k_326 : (Cond.instanceMethod ⟨"PlanClauses$Models", "allow", "(I)Z"⟩) ∈ q_tbl := q_mem (List.mem_of_getElem? (i := 369) rfl) rfl
theorem k_327 : (Cond.selects "PlanClauses$Models" ⟨"PlanClauses$Models", "allow", "(I)Z"⟩ ⟨"PlanClauses$Models", "allow", "(I)Z"⟩) ∈ q_tbl := q_mem (List.mem_of_getElem? (i := 370) rfl) rfl
theorem k_328 : (Cond.code ⟨"PlanClauses$Models", "allow", "(I)Z"⟩ prog_4_method_10_code (6) (Option.some Jvm.ClassFile.FieldType.boolean)) ∈ q_tbl := q_mem (List.mem_of_getElem? (i := 371) rfl) rfl
theorem k_329 : (Cond.methodLink "PlanClauses$Models" (57) ⟨"PlanClauses$Models", "begin", "()V"⟩) ∈ q_tbl := q_mem (List.mem_of_getElem? (i := 372) rfl) rfl
theorem k_331 : (Cond.instanceMethod ⟨"PlanClauses$Models", "begin", "()V"⟩) ∈ q_tbl := q_mem (List.mem_of_getElem? (i := 374) rfl) rfl
theorem k_332 : (Cond.code ⟨"PlanClauses$Models", "begin", "()V"⟩ prog_4_method_3_code (1) (Option.none : Option Jvm.ClassFile.FieldType)) ∈ q_tbl := q_mem (List.mem_of_getElem? (i := 375) rfl) rfl
theorem k_333 : (Cond.methodLink "PlanClauses$Models" (53) ⟨"PlanClauses$Search", "begin", "(I)V"⟩) ∈ q_tbl := q_mem (List.mem_of_getElem? (i := 376) rfl) rfl
theorem k_334 : (Cond.instanceMethod ⟨"PlanClauses$Search", "begin", "(I)V"⟩) ∈ q_tbl := q_mem (List.mem_of_getElem? (i := 377) rfl) rfl
theorem k_335 : (Cond.selects "PlanClauses$Search" ⟨"PlanClauses$Search", "begin", "(I)V"⟩ ⟨"PlanClauses$Search", "begin", "(I)V"⟩) ∈ q_tbl := q_mem (List.mem_of_getElem? (i := 378) rfl) rfl
theorem k_336 : (Cond.code ⟨"PlanClauses$Search", "begin", "(I)V"⟩ prog_6_method_2_code (2) (Option.none : Option Jvm.ClassFile.FieldType)) ∈ q_tbl := q_mem (List.mem_of_getElem? (i := 379) rfl) rfl
theorem k_337 : (Cond.methodLink "PlanClauses$Search" (44) ⟨"java/lang/Math", "min", "(II)I"⟩) ∈ q_tbl := q_mem (List.mem_of_getElem? (i := 380) rfl) rfl
theorem k_338 : (Cond.static ⟨"java/lang/Math", "min", "(II)I"⟩) ∈ q_tbl := q_mem (List.mem_of_getElem? (i := 381) rfl) rfl
theorem k_339 : (Cond.code ⟨"java/lang/Math", "min", "(II)I"⟩ prog_12_method_69_code (2) (Option.some Jvm.ClassFile.FieldType.int)) ∈ q_tbl := q_mem (List.mem_of_getElem? (i := 382) rfl) rfl
theorem k_340 : (Cond.methodLink "PlanClauses$Search" (50) ⟨"java/lang/Math", "max", "(II)I"⟩) ∈ q_tbl := q_mem (List.mem_of_getElem? (i := 383) rfl) rfl
theorem k_341 : (Cond.static ⟨"java/lang/Math", "max", "(II)I"⟩) ∈ q_tbl := q_mem (List.mem_of_getElem? (i := 384) rfl) rfl
theorem k_342 : (Cond.code ⟨"java/lang/Math", "max", "(II)I"⟩ prog_12_method_65_code (2) (Option.some Jvm.ClassFile.FieldType.int)) ∈ q_tbl := q_mem (List.mem_of_getElem? (i := 385) rfl) rfl
theorem k_343 : (Cond.methodLink "PlanClauses$Search" (56) ⟨"PlanClauses$Rows", "clear", "()V"⟩) ∈ q_tbl := q_mem (List.mem_of_getElem? (i := 386) rfl) rfl
theorem k_344 : (Cond.instanceMethod ⟨"PlanClauses$Rows", "clear", "()V"⟩) ∈ q_tbl := q_mem (List.mem_of_getElem? (i := 387) rfl) rfl
theorem k_345 : (Cond.selects "PlanClauses$Rows" ⟨"PlanClauses$Rows", "clear", "()V"⟩ ⟨"PlanClauses$Rows", "clear", "()V"⟩) ∈ q_tbl := q_mem (List.mem_of_getElem? (i := 388) rfl) rfl
theorem k_346 : (Cond.code ⟨"PlanClauses$Rows", "clear", "()V"⟩ prog_5_method_2_code (1) (Option.none : Option Jvm.ClassFile.FieldType)) ∈ q_tbl := q_mem (List.mem_of_getElem? (i := 389) rfl) rfl
theorem k_347 : (Cond.methodLink "PlanClauses$Search" (59) ⟨"PlanClauses$Trail", "clear", "()V"⟩) ∈ q_tbl := q_mem (List.mem_of_getElem? (i := 390) rfl) rfl
theorem k_348 : (Cond.instanceMethod ⟨"PlanClauses$Trail", "clear", "()V"⟩) ∈ q_tbl := q_mem (List.mem_of_getElem? (i := 391) rfl) rfl
theorem k_349 : (Cond.selects "PlanClauses$Trail" ⟨"PlanClauses$Trail", "clear", "()V"⟩ ⟨"PlanClauses$Trail", "clear", "()V"⟩) ∈ q_tbl := q_mem (List.mem_of_getElem? (i := 392) rfl) rfl
theorem k_350 : (Cond.code ⟨"PlanClauses$Trail", "clear", "()V"⟩ prog_8_method_2_code (1) (Option.none : Option Jvm.ClassFile.FieldType)) ∈ q_tbl := q_mem (List.mem_of_getElem? (i := 393) rfl) rfl
theorem k_351 : (Cond.methodLink "PlanClauses$Models" (84) ⟨"java/lang/Math", "abs", "(I)I"⟩) ∈ q_tbl := q_mem (List.mem_of_getElem? (i := 394) rfl) rfl
theorem k_352 : (Cond.methodLink "PlanClauses$Models" (59) ⟨"PlanClauses$Search", "find", "(II)I"⟩) ∈ q_tbl := q_mem (List.mem_of_getElem? (i := 395) rfl) rfl
theorem k_353 : (Cond.instanceMethod ⟨"PlanClauses$Search", "find", "(II)I"⟩) ∈ q_tbl := q_mem (List.mem_of_getElem? (i := 396) rfl) rfl
theorem k_354 : (Cond.selects "PlanClauses$Search" ⟨"PlanClauses$Search", "find", "(II)I"⟩ ⟨"PlanClauses$Search", "find", "(II)I"⟩) ∈ q_tbl := q_mem (List.mem_of_getElem? (i := 397) rfl) rfl
theorem k_355 : (Cond.code ⟨"PlanClauses$Search", "find", "(II)I"⟩ prog_6_method_4_code (8) (Option.some Jvm.ClassFile.FieldType.int)) ∈ q_tbl := q_mem (List.mem_of_getElem? (i := 398) rfl) rfl
theorem k_356 : (Cond.methodLink "PlanClauses$Search" (64) ⟨"PlanClauses$Trail", "back", "(I)V"⟩) ∈ q_tbl := q_mem (List.mem_of_getElem? (i := 399) rfl) rfl
theorem k_357 : (Cond.instanceMethod ⟨"PlanClauses$Trail", "back", "(I)V"⟩) ∈ q_tbl := q_mem (List.mem_of_getElem? (i := 400) rfl) rfl
theorem k_358 : (Cond.selects "PlanClauses$Trail" ⟨"PlanClauses$Trail", "back", "(I)V"⟩ ⟨"PlanClauses$Trail", "back", "(I)V"⟩) ∈ q_tbl := q_mem (List.mem_of_getElem? (i := 401) rfl) rfl
theorem k_359 : (Cond.code ⟨"PlanClauses$Trail", "back", "(I)V"⟩ prog_8_method_5_code (3) (Option.none : Option Jvm.ClassFile.FieldType)) ∈ q_tbl := q_mem (List.mem_of_getElem? (i := 402) rfl) rfl
theorem k_360 : (Cond.methodLink "PlanClauses$Trail" (41) ⟨"java/lang/Integer", "bitCount", "(I)I"⟩) ∈ q_tbl := q_mem (List.mem_of_getElem? (i := 403) rfl) rfl
theorem k_361 : (Cond.static ⟨"java/lang/Integer", "bitCount", "(I)I"⟩) ∈ q_tbl := q_mem (List.mem_of_getElem? (i := 404) rfl) rfl
theorem k_362 : (Cond.code ⟨"java/lang/Integer", "bitCount", "(I)I"⟩ prog_11_method_49_code (1) (Option.some Jvm.ClassFile.FieldType.int)) ∈ q_tbl := q_mem (List.mem_of_getElem? (i := 405) rfl) rfl
theorem k_363 : (Cond.constant "java/lang/Integer" (265) (1431655765 : Int32)) ∈ q_tbl := q_mem (List.mem_of_getElem? (i := 406) rfl) rfl
theorem k_364 : (Cond.constant "java/lang/Integer" (266) (858993459 : Int32)) ∈ q_tbl := q_mem (List.mem_of_getElem? (i := 407) rfl) rfl
theorem k_365 : (Cond.constant "java/lang/Integer" (267) (252645135 : Int32)) ∈ q_tbl := q_mem (List.mem_of_getElem? (i := 408) rfl) rfl
theorem k_366 : (Cond.constantLong "PlanClauses$Search" (67) (1099511627776 : Int64)) ∈ q_tbl := q_mem (List.mem_of_getElem? (i := 409) rfl) rfl
theorem k_367 : (Cond.methodLink "PlanClauses$Search" (69) ⟨"PlanClauses$Search", "propagate", "()Z"⟩) ∈ q_tbl := q_mem (List.mem_of_getElem? (i := 410) rfl) rfl
theorem k_369 : (Cond.instanceMethod ⟨"PlanClauses$Search", "propagate", "()Z"⟩) ∈ q_tbl := q_mem (List.mem_of_getElem? (i := 412) rfl) rfl
theorem k_370 : (Cond.code ⟨"PlanClauses$Search", "propagate", "()Z"⟩ prog_6_method_5_code (3) (Option.some Jvm.ClassFile.FieldType.boolean)) ∈ q_tbl := q_mem (List.mem_of_getElem? (i := 413) rfl) rfl
theorem k_371 : (Cond.methodLink "PlanClauses$Search" (96) ⟨"PlanClauses$Search", "holds", "(LPlanClauses$Rows;I)Z"⟩) ∈ q_tbl := q_mem (List.mem_of_getElem? (i := 414) rfl) rfl
theorem k_373 : (Cond.instanceMethod ⟨"PlanClauses$Search", "holds", "(LPlanClauses$Rows;I)Z"⟩) ∈ q_tbl := q_mem (List.mem_of_getElem? (i := 416) rfl) rfl
theorem k_374 : (Cond.code ⟨"PlanClauses$Search", "holds", "(LPlanClauses$Rows;I)Z"⟩ prog_6_method_6_code (7) (Option.some Jvm.ClassFile.FieldType.boolean)) ∈ q_tbl := q_mem (List.mem_of_getElem? (i := 417) rfl) rfl
theorem k_375 : (Cond.methodLink "PlanClauses$Search" (112) ⟨"PlanClauses$Search", "areSeveral", "(I)Z"⟩) ∈ q_tbl := q_mem (List.mem_of_getElem? (i := 418) rfl) rfl
theorem k_376 : (Cond.static ⟨"PlanClauses$Search", "areSeveral", "(I)Z"⟩) ∈ q_tbl := q_mem (List.mem_of_getElem? (i := 419) rfl) rfl
theorem k_377 : (Cond.code ⟨"PlanClauses$Search", "areSeveral", "(I)Z"⟩ prog_6_method_10_code (1) (Option.some Jvm.ClassFile.FieldType.boolean)) ∈ q_tbl := q_mem (List.mem_of_getElem? (i := 420) rfl) rfl
theorem k_378 : (Cond.methodLink "PlanClauses$Search" (116) ⟨"PlanClauses$Trail", "conclude", "(III)V"⟩) ∈ q_tbl := q_mem (List.mem_of_getElem? (i := 421) rfl) rfl
theorem k_379 : (Cond.instanceMethod ⟨"PlanClauses$Trail", "conclude", "(III)V"⟩) ∈ q_tbl := q_mem (List.mem_of_getElem? (i := 422) rfl) rfl
theorem k_380 : (Cond.selects "PlanClauses$Trail" ⟨"PlanClauses$Trail", "conclude", "(III)V"⟩ ⟨"PlanClauses$Trail", "conclude", "(III)V"⟩) ∈ q_tbl := q_mem (List.mem_of_getElem? (i := 423) rfl) rfl
set_option maxRecDepth 20000 in
theorem k_381 : (Cond.code ⟨"PlanClauses$Trail", "conclude", "(III)V"⟩ prog_8_method_3_code (4) (Option.none : Option Jvm.ClassFile.FieldType)) ∈ q_tbl := q_mem (List.mem_of_getElem? (i := 424) rfl) rfl
set_option maxRecDepth 20000 in
theorem k_382 : (Cond.methodLink "PlanClauses$Search" (76) ⟨"PlanClauses$Search", "learn", "()V"⟩) ∈ q_tbl := q_mem (List.mem_of_getElem? (i := 425) rfl) rfl
set_option maxRecDepth 20000 in
theorem k_384 : (Cond.instanceMethod ⟨"PlanClauses$Search", "learn", "()V"⟩) ∈ q_tbl := q_mem (List.mem_of_getElem? (i := 427) rfl) rfl
set_option maxRecDepth 20000 in
theorem k_385 : (Cond.code ⟨"PlanClauses$Search", "learn", "()V"⟩ prog_6_method_7_code (6) (Option.none : Option Jvm.ClassFile.FieldType)) ∈ q_tbl := q_mem (List.mem_of_getElem? (i := 428) rfl) rfl
set_option maxRecDepth 20000 in
theorem k_386 : (Cond.methodLink "PlanClauses$Search" (132) ⟨"PlanClauses$Rows", "add", "(II)V"⟩) ∈ q_tbl := q_mem (List.mem_of_getElem? (i := 429) rfl) rfl
set_option maxRecDepth 20000 in
theorem k_387 : (Cond.methodLink "PlanClauses$Search" (135) ⟨"PlanClauses$Trail", "revise", "(III)V"⟩) ∈ q_tbl := q_mem (List.mem_of_getElem? (i := 430) rfl) rfl
set_option maxRecDepth 20000 in
theorem k_388 : (Cond.instanceMethod ⟨"PlanClauses$Trail", "revise", "(III)V"⟩) ∈ q_tbl := q_mem (List.mem_of_getElem? (i := 431) rfl) rfl
set_option maxRecDepth 20000 in
theorem k_389 : (Cond.selects "PlanClauses$Trail" ⟨"PlanClauses$Trail", "revise", "(III)V"⟩ ⟨"PlanClauses$Trail", "revise", "(III)V"⟩) ∈ q_tbl := q_mem (List.mem_of_getElem? (i := 432) rfl) rfl
set_option maxRecDepth 20000 in
theorem k_390 : (Cond.code ⟨"PlanClauses$Trail", "revise", "(III)V"⟩ prog_8_method_6_code (6) (Option.none : Option Jvm.ClassFile.FieldType)) ∈ q_tbl := q_mem (List.mem_of_getElem? (i := 433) rfl) rfl
set_option maxRecDepth 20000 in
theorem k_391 : (Cond.methodLink "PlanClauses$Trail" (47) ⟨"PlanClauses$Trail", "back", "(I)V"⟩) ∈ q_tbl := q_mem (List.mem_of_getElem? (i := 434) rfl) rfl
set_option maxRecDepth 20000 in
theorem k_392 : (Cond.methodLink "PlanClauses$Trail" (37) ⟨"PlanClauses$Trail", "conclude", "(III)V"⟩) ∈ q_tbl := q_mem (List.mem_of_getElem? (i := 435) rfl) rfl
set_option maxRecDepth 20000 in
theorem k_393 : (Cond.methodLink "PlanClauses$Search" (85) ⟨"PlanClauses$Trail", "suppose", "(II)V"⟩) ∈ q_tbl := q_mem (List.mem_of_getElem? (i := 436) rfl) rfl
set_option maxRecDepth 20000 in
theorem k_394 : (Cond.instanceMethod ⟨"PlanClauses$Trail", "suppose", "(II)V"⟩) ∈ q_tbl := q_mem (List.mem_of_getElem? (i := 437) rfl) rfl
set_option maxRecDepth 20000 in
theorem k_395 : (Cond.selects "PlanClauses$Trail" ⟨"PlanClauses$Trail", "suppose", "(II)V"⟩ ⟨"PlanClauses$Trail", "suppose", "(II)V"⟩) ∈ q_tbl := q_mem (List.mem_of_getElem? (i := 438) rfl) rfl
set_option maxRecDepth 20000 in
theorem k_396 : (Cond.code ⟨"PlanClauses$Trail", "suppose", "(II)V"⟩ prog_8_method_4_code (6) (Option.none : Option Jvm.ClassFile.FieldType)) ∈ q_tbl := q_mem (List.mem_of_getElem? (i := 439) rfl) rfl
set_option maxRecDepth 20000 in
theorem k_397 : (Cond.methodLink "PlanClauses$Search" (89) ⟨"PlanClauses$Search", "heaviest", "()I"⟩) ∈ q_tbl := q_mem (List.mem_of_getElem? (i := 440) rfl) rfl
set_option maxRecDepth 20000 in
theorem k_399 : (Cond.instanceMethod ⟨"PlanClauses$Search", "heaviest", "()I"⟩) ∈ q_tbl := q_mem (List.mem_of_getElem? (i := 442) rfl) rfl
set_option maxRecDepth 20000 in
theorem k_400 : (Cond.code ⟨"PlanClauses$Search", "heaviest", "()I"⟩ prog_6_method_8_code (4) (Option.some Jvm.ClassFile.FieldType.int)) ∈ q_tbl := q_mem (List.mem_of_getElem? (i := 443) rfl) rfl
set_option maxRecDepth 20000 in
theorem k_401 : (Cond.methodLink "PlanClauses$Search" (138) ⟨"PlanClauses$Search", "weigh", "(II)V"⟩) ∈ q_tbl := q_mem (List.mem_of_getElem? (i := 444) rfl) rfl
set_option maxRecDepth 20000 in
theorem k_403 : (Cond.instanceMethod ⟨"PlanClauses$Search", "weigh", "(II)V"⟩) ∈ q_tbl := q_mem (List.mem_of_getElem? (i := 446) rfl) rfl
set_option maxRecDepth 20000 in
theorem k_404 : (Cond.code ⟨"PlanClauses$Search", "weigh", "(II)V"⟩ prog_6_method_9_code (6) (Option.none : Option Jvm.ClassFile.FieldType)) ∈ q_tbl := q_mem (List.mem_of_getElem? (i := 447) rfl) rfl
set_option maxRecDepth 20000 in
theorem k_405 : (Cond.methodLink "PlanClauses$Search" (141) ⟨"java/lang/Integer", "bitCount", "(I)I"⟩) ∈ q_tbl := q_mem (List.mem_of_getElem? (i := 448) rfl) rfl
set_option maxRecDepth 20000 in
theorem k_406 : (Cond.methodLink "PlanClauses$Search" (150) ⟨"PlanClauses$Formula", "literalOf", "(II)I"⟩) ∈ q_tbl := q_mem (List.mem_of_getElem? (i := 449) rfl) rfl
set_option maxRecDepth 20000 in
theorem k_407 : (Cond.methodLink "PlanClauses$Search" (153) ⟨"java/lang/Math", "abs", "(I)I"⟩) ∈ q_tbl := q_mem (List.mem_of_getElem? (i := 450) rfl) rfl
set_option maxRecDepth 20000 in
theorem k_408 : (Cond.methodLink "PlanClauses$Models" (73) ⟨"PlanClauses$Models", "see", "(I)V"⟩) ∈ q_tbl := q_mem (List.mem_of_getElem? (i := 451) rfl) rfl
set_option maxRecDepth 20000 in
theorem k_410 : (Cond.instanceMethod ⟨"PlanClauses$Models", "see", "(I)V"⟩) ∈ q_tbl := q_mem (List.mem_of_getElem? (i := 453) rfl) rfl
set_option maxRecDepth 20000 in
theorem k_411 : (Cond.code ⟨"PlanClauses$Models", "see", "(I)V"⟩ prog_4_method_4_code (2) (Option.none : Option Jvm.ClassFile.FieldType)) ∈ q_tbl := q_mem (List.mem_of_getElem? (i := 454) rfl) rfl
set_option maxRecDepth 20000 in
theorem k_413 : (Cond.instanceMethod ⟨"PlanClauses", "value", "(I)I"⟩) ∈ q_tbl := q_mem (List.mem_of_getElem? (i := 456) rfl) rfl
set_option maxRecDepth 20000 in
theorem k_414 : (Cond.selects "PlanClauses" ⟨"PlanClauses", "value", "(I)I"⟩ ⟨"PlanClauses", "value", "(I)I"⟩) ∈ q_tbl := q_mem (List.mem_of_getElem? (i := 457) rfl) rfl
set_option maxRecDepth 20000 in
theorem k_415 : (Cond.code ⟨"PlanClauses", "value", "(I)I"⟩ prog_1_method_8_code (2) (Option.some Jvm.ClassFile.FieldType.int)) ∈ q_tbl := q_mem (List.mem_of_getElem? (i := 458) rfl) rfl
set_option maxRecDepth 20000 in
theorem k_416 : (Cond.methodLink "PlanClauses" (86) ⟨"PlanClauses", "isVariable", "(I)Z"⟩) ∈ q_tbl := q_mem (List.mem_of_getElem? (i := 459) rfl) rfl
set_option maxRecDepth 20000 in
theorem k_418 : (Cond.instanceMethod ⟨"PlanClauses", "isVariable", "(I)Z"⟩) ∈ q_tbl := q_mem (List.mem_of_getElem? (i := 461) rfl) rfl
set_option maxRecDepth 20000 in
theorem k_419 : (Cond.code ⟨"PlanClauses", "isVariable", "(I)Z"⟩ prog_1_method_13_code (2) (Option.some Jvm.ClassFile.FieldType.boolean)) ∈ q_tbl := q_mem (List.mem_of_getElem? (i := 462) rfl) rfl
set_option maxRecDepth 20000 in
theorem k_420 : (Cond.methodLink "PlanClauses" (89) ⟨"PlanClauses$Models", "reach", "(I)Z"⟩) ∈ q_tbl := q_mem (List.mem_of_getElem? (i := 463) rfl) rfl
set_option maxRecDepth 20000 in
theorem k_421 : (Cond.instanceMethod ⟨"PlanClauses$Models", "reach", "(I)Z"⟩) ∈ q_tbl := q_mem (List.mem_of_getElem? (i := 464) rfl) rfl
set_option maxRecDepth 20000 in
theorem k_422 : (Cond.selects "PlanClauses$Models" ⟨"PlanClauses$Models", "reach", "(I)Z"⟩ ⟨"PlanClauses$Models", "reach", "(I)Z"⟩) ∈ q_tbl := q_mem (List.mem_of_getElem? (i := 465) rfl) rfl
set_option maxRecDepth 20000 in
theorem k_423 : (Cond.code ⟨"PlanClauses$Models", "reach", "(I)Z"⟩ prog_4_method_5_code (4) (Option.some Jvm.ClassFile.FieldType.boolean)) ∈ q_tbl := q_mem (List.mem_of_getElem? (i := 466) rfl) rfl
set_option maxRecDepth 20000 in
theorem k_424 : (Cond.methodLink "PlanClauses$Models" (63) ⟨"PlanClauses$Models", "greater", "(I)I"⟩) ∈ q_tbl := q_mem (List.mem_of_getElem? (i := 467) rfl) rfl
set_option maxRecDepth 20000 in
theorem k_426 : (Cond.instanceMethod ⟨"PlanClauses$Models", "greater", "(I)I"⟩) ∈ q_tbl := q_mem (List.mem_of_getElem? (i := 469) rfl) rfl
set_option maxRecDepth 20000 in
theorem k_427 : (Cond.code ⟨"PlanClauses$Models", "greater", "(I)I"⟩ prog_4_method_6_code (6) (Option.some Jvm.ClassFile.FieldType.int)) ∈ q_tbl := q_mem (List.mem_of_getElem? (i := 470) rfl) rfl
set_option maxRecDepth 20000 in
theorem k_428 : (Cond.methodLink "PlanClauses$Models" (67) ⟨"PlanClauses$Models", "sameAhead", "(II)I"⟩) ∈ q_tbl := q_mem (List.mem_of_getElem? (i := 471) rfl) rfl
set_option maxRecDepth 20000 in
theorem k_429 : (Cond.static ⟨"PlanClauses$Models", "sameAhead", "(II)I"⟩) ∈ q_tbl := q_mem (List.mem_of_getElem? (i := 472) rfl) rfl
set_option maxRecDepth 20000 in
theorem k_430 : (Cond.code ⟨"PlanClauses$Models", "sameAhead", "(II)I"⟩ prog_4_method_8_code (2) (Option.some Jvm.ClassFile.FieldType.int)) ∈ q_tbl := q_mem (List.mem_of_getElem? (i := 473) rfl) rfl
set_option maxRecDepth 20000 in
theorem k_431 : (Cond.methodLink "PlanClauses$Models" (79) ⟨"java/lang/Integer", "numberOfTrailingZeros", "(I)I"⟩) ∈ q_tbl := q_mem (List.mem_of_getElem? (i := 474) rfl) rfl
set_option maxRecDepth 20000 in
theorem k_432 : (Cond.static ⟨"java/lang/Integer", "numberOfTrailingZeros", "(I)I"⟩) ∈ q_tbl := q_mem (List.mem_of_getElem? (i := 475) rfl) rfl
set_option maxRecDepth 20000 in
theorem k_433 : (Cond.code ⟨"java/lang/Integer", "numberOfTrailingZeros", "(I)I"⟩ prog_11_method_48_code (2) (Option.some Jvm.ClassFile.FieldType.int)) ∈ q_tbl := q_mem (List.mem_of_getElem? (i := 476) rfl) rfl
set_option maxRecDepth 20000 in
theorem k_434 : (Cond.constant "java/lang/Integer" (264) (65536 : Int32)) ∈ q_tbl := q_mem (List.mem_of_getElem? (i := 477) rfl) rfl
set_option maxRecDepth 20000 in
theorem k_435 : (Cond.methodLink "PlanClauses$Models" (70) ⟨"PlanClauses$Models", "least", "(II)I"⟩) ∈ q_tbl := q_mem (List.mem_of_getElem? (i := 478) rfl) rfl
set_option maxRecDepth 20000 in
theorem k_437 : (Cond.instanceMethod ⟨"PlanClauses$Models", "least", "(II)I"⟩) ∈ q_tbl := q_mem (List.mem_of_getElem? (i := 480) rfl) rfl
set_option maxRecDepth 20000 in
theorem k_438 : (Cond.code ⟨"PlanClauses$Models", "least", "(II)I"⟩ prog_4_method_7_code (8) (Option.some Jvm.ClassFile.FieldType.int)) ∈ q_tbl := q_mem (List.mem_of_getElem? (i := 481) rfl) rfl
set_option maxRecDepth 20000 in
theorem k_439 : (Cond.methodLink "PlanClauses" (92) ⟨"PlanClauses$Models", "truth", "(II)I"⟩) ∈ q_tbl := q_mem (List.mem_of_getElem? (i := 482) rfl) rfl
set_option maxRecDepth 20000 in
theorem k_440 : (Cond.instanceMethod ⟨"PlanClauses$Models", "truth", "(II)I"⟩) ∈ q_tbl := q_mem (List.mem_of_getElem? (i := 483) rfl) rfl
set_option maxRecDepth 20000 in
theorem k_441 : (Cond.selects "PlanClauses$Models" ⟨"PlanClauses$Models", "truth", "(II)I"⟩ ⟨"PlanClauses$Models", "truth", "(II)I"⟩) ∈ q_tbl := q_mem (List.mem_of_getElem? (i := 484) rfl) rfl
set_option maxRecDepth 20000 in
theorem k_442 : (Cond.code ⟨"PlanClauses$Models", "truth", "(II)I"⟩ prog_4_method_9_code (3) (Option.some Jvm.ClassFile.FieldType.int)) ∈ q_tbl := q_mem (List.mem_of_getElem? (i := 485) rfl) rfl
set_option maxRecDepth 20000 in
theorem k_444 : (Cond.instanceMethod ⟨"PlanClauses", "model", "(II)I"⟩) ∈ q_tbl := q_mem (List.mem_of_getElem? (i := 487) rfl) rfl
set_option maxRecDepth 20000 in
theorem k_445 : (Cond.selects "PlanClauses" ⟨"PlanClauses", "model", "(II)I"⟩ ⟨"PlanClauses", "model", "(II)I"⟩) ∈ q_tbl := q_mem (List.mem_of_getElem? (i := 488) rfl) rfl
set_option maxRecDepth 20000 in
theorem k_446 : (Cond.code ⟨"PlanClauses", "model", "(II)I"⟩ prog_1_method_9_code (3) (Option.some Jvm.ClassFile.FieldType.int)) ∈ q_tbl := q_mem (List.mem_of_getElem? (i := 489) rfl) rfl
set_option maxRecDepth 20000 in
theorem k_448 : (Cond.instanceMethod ⟨"PlanClauses", "models", "()I"⟩) ∈ q_tbl := q_mem (List.mem_of_getElem? (i := 491) rfl) rfl
set_option maxRecDepth 20000 in
theorem k_449 : (Cond.selects "PlanClauses" ⟨"PlanClauses", "models", "()I"⟩ ⟨"PlanClauses", "models", "()I"⟩) ∈ q_tbl := q_mem (List.mem_of_getElem? (i := 492) rfl) rfl
set_option maxRecDepth 20000 in
theorem k_450 : (Cond.code ⟨"PlanClauses", "models", "()I"⟩ prog_1_method_10_code (1) (Option.some Jvm.ClassFile.FieldType.int)) ∈ q_tbl := q_mem (List.mem_of_getElem? (i := 493) rfl) rfl
set_option maxRecDepth 20000 in
theorem k_452 : (Cond.instanceMethod ⟨"PlanClauses", "forced", "(I)I"⟩) ∈ q_tbl := q_mem (List.mem_of_getElem? (i := 495) rfl) rfl
set_option maxRecDepth 20000 in
theorem k_453 : (Cond.selects "PlanClauses" ⟨"PlanClauses", "forced", "(I)I"⟩ ⟨"PlanClauses", "forced", "(I)I"⟩) ∈ q_tbl := q_mem (List.mem_of_getElem? (i := 496) rfl) rfl
set_option maxRecDepth 20000 in
theorem k_454 : (Cond.code ⟨"PlanClauses", "forced", "(I)I"⟩ prog_1_method_11_code (3) (Option.some Jvm.ClassFile.FieldType.int)) ∈ q_tbl := q_mem (List.mem_of_getElem? (i := 497) rfl) rfl
set_option maxRecDepth 20000 in
theorem k_456 : (Cond.instanceMethod ⟨"PlanClauses", "culprit", "()I"⟩) ∈ q_tbl := q_mem (List.mem_of_getElem? (i := 499) rfl) rfl
set_option maxRecDepth 20000 in
theorem k_457 : (Cond.selects "PlanClauses" ⟨"PlanClauses", "culprit", "()I"⟩ ⟨"PlanClauses", "culprit", "()I"⟩) ∈ q_tbl := q_mem (List.mem_of_getElem? (i := 500) rfl) rfl
set_option maxRecDepth 20000 in
theorem k_458 : (Cond.code ⟨"PlanClauses", "culprit", "()I"⟩ prog_1_method_12_code (1) (Option.some Jvm.ClassFile.FieldType.int)) ∈ q_tbl := q_mem (List.mem_of_getElem? (i := 501) rfl) rfl
set_option maxRecDepth 20000 in
theorem k_459 : (Cond.methodLink "PlanClauses" (96) ⟨"PlanClauses$Models", "firstWithout", "()I"⟩) ∈ q_tbl := q_mem (List.mem_of_getElem? (i := 502) rfl) rfl
set_option maxRecDepth 20000 in
theorem k_460 : (Cond.instanceMethod ⟨"PlanClauses$Models", "firstWithout", "()I"⟩) ∈ q_tbl := q_mem (List.mem_of_getElem? (i := 503) rfl) rfl
set_option maxRecDepth 20000 in
theorem k_461 : (Cond.selects "PlanClauses$Models" ⟨"PlanClauses$Models", "firstWithout", "()I"⟩ ⟨"PlanClauses$Models", "firstWithout", "()I"⟩) ∈ q_tbl := q_mem (List.mem_of_getElem? (i := 504) rfl) rfl
set_option maxRecDepth 20000 in
theorem k_462 : (Cond.code ⟨"PlanClauses$Models", "firstWithout", "()I"⟩ prog_4_method_11_code (5) (Option.some Jvm.ClassFile.FieldType.int)) ∈ q_tbl := q_mem (List.mem_of_getElem? (i := 505) rfl) rfl
set_option maxRecDepth 20000 in
theorem k_463 : (Cond.methodLink "PlanClauses$Models" (89) ⟨"PlanClauses$Search", "end", "()V"⟩) ∈ q_tbl := q_mem (List.mem_of_getElem? (i := 506) rfl) rfl
set_option maxRecDepth 20000 in
theorem k_464 : (Cond.instanceMethod ⟨"PlanClauses$Search", "end", "()V"⟩) ∈ q_tbl := q_mem (List.mem_of_getElem? (i := 507) rfl) rfl
set_option maxRecDepth 20000 in
theorem k_465 : (Cond.selects "PlanClauses$Search" ⟨"PlanClauses$Search", "end", "()V"⟩ ⟨"PlanClauses$Search", "end", "()V"⟩) ∈ q_tbl := q_mem (List.mem_of_getElem? (i := 508) rfl) rfl
set_option maxRecDepth 20000 in
theorem k_466 : (Cond.code ⟨"PlanClauses$Search", "end", "()V"⟩ prog_6_method_3_code (1) (Option.none : Option Jvm.ClassFile.FieldType)) ∈ q_tbl := q_mem (List.mem_of_getElem? (i := 509) rfl) rfl
set_option maxRecDepth 20000 in
theorem k_468 : (Cond.instanceMethod ⟨"PlanClauses", "facts", "(I)I"⟩) ∈ q_tbl := q_mem (List.mem_of_getElem? (i := 511) rfl) rfl
set_option maxRecDepth 20000 in
theorem k_469 : (Cond.selects "PlanClauses" ⟨"PlanClauses", "facts", "(I)I"⟩ ⟨"PlanClauses", "facts", "(I)I"⟩) ∈ q_tbl := q_mem (List.mem_of_getElem? (i := 512) rfl) rfl
set_option maxRecDepth 20000 in
theorem k_470 : (Cond.code ⟨"PlanClauses", "facts", "(I)I"⟩ prog_1_method_15_code (3) (Option.some Jvm.ClassFile.FieldType.int)) ∈ q_tbl := q_mem (List.mem_of_getElem? (i := 513) rfl) rfl
set_option maxRecDepth 20000 in
theorem k_471 : (Cond.methodLink "PlanClauses" (103) ⟨"PlanClauses$Task", "restart", "(I)V"⟩) ∈ q_tbl := q_mem (List.mem_of_getElem? (i := 514) rfl) rfl
set_option maxRecDepth 20000 in
theorem k_472 : (Cond.instanceMethod ⟨"PlanClauses$Task", "restart", "(I)V"⟩) ∈ q_tbl := q_mem (List.mem_of_getElem? (i := 515) rfl) rfl
set_option maxRecDepth 20000 in
theorem k_473 : (Cond.selects "PlanClauses$Task" ⟨"PlanClauses$Task", "restart", "(I)V"⟩ ⟨"PlanClauses$Task", "restart", "(I)V"⟩) ∈ q_tbl := q_mem (List.mem_of_getElem? (i := 516) rfl) rfl
set_option maxRecDepth 20000 in
theorem k_474 : (Cond.code ⟨"PlanClauses$Task", "restart", "(I)V"⟩ prog_7_method_2_code (2) (Option.none : Option Jvm.ClassFile.FieldType)) ∈ q_tbl := q_mem (List.mem_of_getElem? (i := 517) rfl) rfl
set_option maxRecDepth 20000 in
theorem k_475 : (Cond.methodLink "PlanClauses" (107) ⟨"PlanClauses$Code", "forget", "()V"⟩) ∈ q_tbl := q_mem (List.mem_of_getElem? (i := 518) rfl) rfl
set_option maxRecDepth 20000 in
theorem k_476 : (Cond.instanceMethod ⟨"PlanClauses$Code", "forget", "()V"⟩) ∈ q_tbl := q_mem (List.mem_of_getElem? (i := 519) rfl) rfl
set_option maxRecDepth 20000 in
theorem k_477 : (Cond.selects "PlanClauses$Code" ⟨"PlanClauses$Code", "forget", "()V"⟩ ⟨"PlanClauses$Code", "forget", "()V"⟩) ∈ q_tbl := q_mem (List.mem_of_getElem? (i := 520) rfl) rfl
set_option maxRecDepth 20000 in
theorem k_478 : (Cond.code ⟨"PlanClauses$Code", "forget", "()V"⟩ prog_2_method_2_code (1) (Option.none : Option Jvm.ClassFile.FieldType)) ∈ q_tbl := q_mem (List.mem_of_getElem? (i := 521) rfl) rfl
set_option maxRecDepth 20000 in
theorem k_480 : (Cond.instanceMethod ⟨"PlanClauses", "action", "(III)I"⟩) ∈ q_tbl := q_mem (List.mem_of_getElem? (i := 523) rfl) rfl
set_option maxRecDepth 20000 in
theorem k_481 : (Cond.selects "PlanClauses" ⟨"PlanClauses", "action", "(III)I"⟩ ⟨"PlanClauses", "action", "(III)I"⟩) ∈ q_tbl := q_mem (List.mem_of_getElem? (i := 524) rfl) rfl
set_option maxRecDepth 20000 in
theorem k_482 : (Cond.code ⟨"PlanClauses", "action", "(III)I"⟩ prog_1_method_16_code (4) (Option.some Jvm.ClassFile.FieldType.int)) ∈ q_tbl := q_mem (List.mem_of_getElem? (i := 525) rfl) rfl
set_option maxRecDepth 20000 in
theorem k_483 : (Cond.methodLink "PlanClauses" (108) ⟨"PlanClauses", "areFacts", "(I)Z"⟩) ∈ q_tbl := q_mem (List.mem_of_getElem? (i := 526) rfl) rfl
set_option maxRecDepth 20000 in
theorem k_485 : (Cond.instanceMethod ⟨"PlanClauses", "areFacts", "(I)Z"⟩) ∈ q_tbl := q_mem (List.mem_of_getElem? (i := 528) rfl) rfl
set_option maxRecDepth 20000 in
theorem k_486 : (Cond.code ⟨"PlanClauses", "areFacts", "(I)Z"⟩ prog_1_method_26_code (2) (Option.some Jvm.ClassFile.FieldType.boolean)) ∈ q_tbl := q_mem (List.mem_of_getElem? (i := 529) rfl) rfl
set_option maxRecDepth 20000 in
theorem k_487 : (Cond.methodLink "PlanClauses" (114) ⟨"PlanClauses$Task", "addAction", "(III)I"⟩) ∈ q_tbl := q_mem (List.mem_of_getElem? (i := 530) rfl) rfl
set_option maxRecDepth 20000 in
theorem k_488 : (Cond.instanceMethod ⟨"PlanClauses$Task", "addAction", "(III)I"⟩) ∈ q_tbl := q_mem (List.mem_of_getElem? (i := 531) rfl) rfl
set_option maxRecDepth 20000 in
theorem k_489 : (Cond.selects "PlanClauses$Task" ⟨"PlanClauses$Task", "addAction", "(III)I"⟩ ⟨"PlanClauses$Task", "addAction", "(III)I"⟩) ∈ q_tbl := q_mem (List.mem_of_getElem? (i := 532) rfl) rfl
set_option maxRecDepth 20000 in
theorem k_490 : (Cond.code ⟨"PlanClauses$Task", "addAction", "(III)I"⟩ prog_7_method_3_code (5) (Option.some Jvm.ClassFile.FieldType.int)) ∈ q_tbl := q_mem (List.mem_of_getElem? (i := 533) rfl) rfl
set_option maxRecDepth 20000 in
theorem k_492 : (Cond.instanceMethod ⟨"PlanClauses", "set", "(II)I"⟩) ∈ q_tbl := q_mem (List.mem_of_getElem? (i := 535) rfl) rfl
set_option maxRecDepth 20000 in
theorem k_493 : (Cond.selects "PlanClauses" ⟨"PlanClauses", "set", "(II)I"⟩ ⟨"PlanClauses", "set", "(II)I"⟩) ∈ q_tbl := q_mem (List.mem_of_getElem? (i := 536) rfl) rfl
set_option maxRecDepth 20000 in
theorem k_494 : (Cond.code ⟨"PlanClauses", "set", "(II)I"⟩ prog_1_method_17_code (3) (Option.some Jvm.ClassFile.FieldType.int)) ∈ q_tbl := q_mem (List.mem_of_getElem? (i := 537) rfl) rfl
set_option maxRecDepth 20000 in
theorem k_495 : (Cond.methodLink "PlanClauses" (118) ⟨"PlanClauses$Task", "begin", "(I)I"⟩) ∈ q_tbl := q_mem (List.mem_of_getElem? (i := 538) rfl) rfl
set_option maxRecDepth 20000 in
theorem k_496 : (Cond.instanceMethod ⟨"PlanClauses$Task", "begin", "(I)I"⟩) ∈ q_tbl := q_mem (List.mem_of_getElem? (i := 539) rfl) rfl
set_option maxRecDepth 20000 in
theorem k_497 : (Cond.selects "PlanClauses$Task" ⟨"PlanClauses$Task", "begin", "(I)I"⟩ ⟨"PlanClauses$Task", "begin", "(I)I"⟩) ∈ q_tbl := q_mem (List.mem_of_getElem? (i := 540) rfl) rfl
set_option maxRecDepth 20000 in
theorem k_498 : (Cond.code ⟨"PlanClauses$Task", "begin", "(I)I"⟩ prog_7_method_4_code (3) (Option.some Jvm.ClassFile.FieldType.int)) ∈ q_tbl := q_mem (List.mem_of_getElem? (i := 541) rfl) rfl
set_option maxRecDepth 20000 in
theorem k_499 : (Cond.methodLink "PlanClauses" (121) ⟨"PlanClauses$Task", "aim", "(I)I"⟩) ∈ q_tbl := q_mem (List.mem_of_getElem? (i := 542) rfl) rfl
set_option maxRecDepth 20000 in
theorem k_500 : (Cond.instanceMethod ⟨"PlanClauses$Task", "aim", "(I)I"⟩) ∈ q_tbl := q_mem (List.mem_of_getElem? (i := 543) rfl) rfl
set_option maxRecDepth 20000 in
theorem k_501 : (Cond.selects "PlanClauses$Task" ⟨"PlanClauses$Task", "aim", "(I)I"⟩ ⟨"PlanClauses$Task", "aim", "(I)I"⟩) ∈ q_tbl := q_mem (List.mem_of_getElem? (i := 544) rfl) rfl
set_option maxRecDepth 20000 in
theorem k_502 : (Cond.code ⟨"PlanClauses$Task", "aim", "(I)I"⟩ prog_7_method_5_code (3) (Option.some Jvm.ClassFile.FieldType.int)) ∈ q_tbl := q_mem (List.mem_of_getElem? (i := 545) rfl) rfl
set_option maxRecDepth 20000 in
theorem k_504 : (Cond.instanceMethod ⟨"PlanClauses", "plan", "(I)I"⟩) ∈ q_tbl := q_mem (List.mem_of_getElem? (i := 547) rfl) rfl
set_option maxRecDepth 20000 in
theorem k_505 : (Cond.selects "PlanClauses" ⟨"PlanClauses", "plan", "(I)I"⟩ ⟨"PlanClauses", "plan", "(I)I"⟩) ∈ q_tbl := q_mem (List.mem_of_getElem? (i := 548) rfl) rfl
set_option maxRecDepth 20000 in
theorem k_506 : (Cond.code ⟨"PlanClauses", "plan", "(I)I"⟩ prog_1_method_18_code (2) (Option.some Jvm.ClassFile.FieldType.int)) ∈ q_tbl := q_mem (List.mem_of_getElem? (i := 549) rfl) rfl
set_option maxRecDepth 20000 in
theorem k_507 : (Cond.methodLink "PlanClauses" (124) ⟨"PlanClauses", "isLength", "(I)Z"⟩) ∈ q_tbl := q_mem (List.mem_of_getElem? (i := 550) rfl) rfl
set_option maxRecDepth 20000 in
theorem k_508 : (Cond.static ⟨"PlanClauses", "isLength", "(I)Z"⟩) ∈ q_tbl := q_mem (List.mem_of_getElem? (i := 551) rfl) rfl
set_option maxRecDepth 20000 in
theorem k_509 : (Cond.code ⟨"PlanClauses", "isLength", "(I)Z"⟩ prog_1_method_27_code (1) (Option.some Jvm.ClassFile.FieldType.boolean)) ∈ q_tbl := q_mem (List.mem_of_getElem? (i := 552) rfl) rfl
set_option maxRecDepth 20000 in
theorem k_510 : (Cond.methodLink "PlanClauses" (130) ⟨"PlanClauses$Task", "ways", "(II)I"⟩) ∈ q_tbl := q_mem (List.mem_of_getElem? (i := 553) rfl) rfl
set_option maxRecDepth 20000 in
theorem k_511 : (Cond.instanceMethod ⟨"PlanClauses$Task", "ways", "(II)I"⟩) ∈ q_tbl := q_mem (List.mem_of_getElem? (i := 554) rfl) rfl
set_option maxRecDepth 20000 in
theorem k_512 : (Cond.selects "PlanClauses$Task" ⟨"PlanClauses$Task", "ways", "(II)I"⟩ ⟨"PlanClauses$Task", "ways", "(II)I"⟩) ∈ q_tbl := q_mem (List.mem_of_getElem? (i := 555) rfl) rfl
set_option maxRecDepth 20000 in
theorem k_513 : (Cond.code ⟨"PlanClauses$Task", "ways", "(II)I"⟩ prog_7_method_7_code (3) (Option.some Jvm.ClassFile.FieldType.int)) ∈ q_tbl := q_mem (List.mem_of_getElem? (i := 556) rfl) rfl
set_option maxRecDepth 20000 in
theorem k_514 : (Cond.methodLink "PlanClauses$Task" (41) ⟨"PlanClauses$Task", "countWays", "()V"⟩) ∈ q_tbl := q_mem (List.mem_of_getElem? (i := 557) rfl) rfl
set_option maxRecDepth 20000 in
theorem k_516 : (Cond.instanceMethod ⟨"PlanClauses$Task", "countWays", "()V"⟩) ∈ q_tbl := q_mem (List.mem_of_getElem? (i := 559) rfl) rfl
set_option maxRecDepth 20000 in
theorem k_517 : (Cond.code ⟨"PlanClauses$Task", "countWays", "()V"⟩ prog_7_method_9_code (6) (Option.none : Option Jvm.ClassFile.FieldType)) ∈ q_tbl := q_mem (List.mem_of_getElem? (i := 560) rfl) rfl
set_option maxRecDepth 20000 in
theorem k_518 : (Cond.methodLink "PlanClauses$Task" (44) ⟨"PlanClauses$Task", "waysCounted", "(II)I"⟩) ∈ q_tbl := q_mem (List.mem_of_getElem? (i := 561) rfl) rfl
set_option maxRecDepth 20000 in
theorem k_520 : (Cond.instanceMethod ⟨"PlanClauses$Task", "waysCounted", "(II)I"⟩) ∈ q_tbl := q_mem (List.mem_of_getElem? (i := 563) rfl) rfl
set_option maxRecDepth 20000 in
theorem k_521 : (Cond.code ⟨"PlanClauses$Task", "waysCounted", "(II)I"⟩ prog_7_method_8_code (3) (Option.some Jvm.ClassFile.FieldType.int)) ∈ q_tbl := q_mem (List.mem_of_getElem? (i := 564) rfl) rfl
set_option maxRecDepth 20000 in
theorem k_522 : (Cond.methodLink "PlanClauses$Task" (48) ⟨"PlanClauses$Task", "after", "(II)I"⟩) ∈ q_tbl := q_mem (List.mem_of_getElem? (i := 565) rfl) rfl
set_option maxRecDepth 20000 in
theorem k_523 : (Cond.instanceMethod ⟨"PlanClauses$Task", "after", "(II)I"⟩) ∈ q_tbl := q_mem (List.mem_of_getElem? (i := 566) rfl) rfl
set_option maxRecDepth 20000 in
theorem k_524 : (Cond.selects "PlanClauses$Task" ⟨"PlanClauses$Task", "after", "(II)I"⟩ ⟨"PlanClauses$Task", "after", "(II)I"⟩) ∈ q_tbl := q_mem (List.mem_of_getElem? (i := 567) rfl) rfl
set_option maxRecDepth 20000 in
theorem k_525 : (Cond.code ⟨"PlanClauses$Task", "after", "(II)I"⟩ prog_7_method_6_code (3) (Option.some Jvm.ClassFile.FieldType.int)) ∈ q_tbl := q_mem (List.mem_of_getElem? (i := 568) rfl) rfl
set_option maxRecDepth 20000 in
theorem k_526 : (Cond.methodLink "PlanClauses$Task" (51) ⟨"java/lang/Math", "min", "(II)I"⟩) ∈ q_tbl := q_mem (List.mem_of_getElem? (i := 569) rfl) rfl
set_option maxRecDepth 20000 in
theorem k_528 : (Cond.instanceMethod ⟨"PlanClauses", "step", "(II)I"⟩) ∈ q_tbl := q_mem (List.mem_of_getElem? (i := 571) rfl) rfl
set_option maxRecDepth 20000 in
theorem k_529 : (Cond.selects "PlanClauses" ⟨"PlanClauses", "step", "(II)I"⟩ ⟨"PlanClauses", "step", "(II)I"⟩) ∈ q_tbl := q_mem (List.mem_of_getElem? (i := 572) rfl) rfl
set_option maxRecDepth 20000 in
theorem k_530 : (Cond.code ⟨"PlanClauses", "step", "(II)I"⟩ prog_1_method_19_code (3) (Option.some Jvm.ClassFile.FieldType.int)) ∈ q_tbl := q_mem (List.mem_of_getElem? (i := 573) rfl) rfl
set_option maxRecDepth 20000 in
theorem k_531 : (Cond.methodLink "PlanClauses" (133) ⟨"PlanClauses$Task", "stateAhead", "(II)I"⟩) ∈ q_tbl := q_mem (List.mem_of_getElem? (i := 574) rfl) rfl
set_option maxRecDepth 20000 in
theorem k_532 : (Cond.instanceMethod ⟨"PlanClauses$Task", "stateAhead", "(II)I"⟩) ∈ q_tbl := q_mem (List.mem_of_getElem? (i := 575) rfl) rfl
set_option maxRecDepth 20000 in
theorem k_533 : (Cond.selects "PlanClauses$Task" ⟨"PlanClauses$Task", "stateAhead", "(II)I"⟩ ⟨"PlanClauses$Task", "stateAhead", "(II)I"⟩) ∈ q_tbl := q_mem (List.mem_of_getElem? (i := 576) rfl) rfl
set_option maxRecDepth 20000 in
theorem k_534 : (Cond.code ⟨"PlanClauses$Task", "stateAhead", "(II)I"⟩ prog_7_method_11_code (6) (Option.some Jvm.ClassFile.FieldType.int)) ∈ q_tbl := q_mem (List.mem_of_getElem? (i := 577) rfl) rfl
set_option maxRecDepth 20000 in
theorem k_535 : (Cond.methodLink "PlanClauses$Task" (58) ⟨"PlanClauses$Task", "choice", "(II)I"⟩) ∈ q_tbl := q_mem (List.mem_of_getElem? (i := 578) rfl) rfl
set_option maxRecDepth 20000 in
theorem k_536 : (Cond.instanceMethod ⟨"PlanClauses$Task", "choice", "(II)I"⟩) ∈ q_tbl := q_mem (List.mem_of_getElem? (i := 579) rfl) rfl
set_option maxRecDepth 20000 in
theorem k_537 : (Cond.selects "PlanClauses$Task" ⟨"PlanClauses$Task", "choice", "(II)I"⟩ ⟨"PlanClauses$Task", "choice", "(II)I"⟩) ∈ q_tbl := q_mem (List.mem_of_getElem? (i := 580) rfl) rfl
set_option maxRecDepth 20000 in
theorem k_538 : (Cond.code ⟨"PlanClauses$Task", "choice", "(II)I"⟩ prog_7_method_10_code (4) (Option.some Jvm.ClassFile.FieldType.int)) ∈ q_tbl := q_mem (List.mem_of_getElem? (i := 581) rfl) rfl
set_option maxRecDepth 20000 in
theorem k_539 : (Cond.methodLink "PlanClauses$Task" (56) ⟨"PlanClauses$Task", "ways", "(II)I"⟩) ∈ q_tbl := q_mem (List.mem_of_getElem? (i := 582) rfl) rfl
set_option maxRecDepth 20000 in
theorem k_540 : (Cond.methodLink "PlanClauses" (136) ⟨"PlanClauses$Task", "choice", "(II)I"⟩) ∈ q_tbl := q_mem (List.mem_of_getElem? (i := 583) rfl) rfl
set_option maxRecDepth 20000 in
theorem k_542 : (Cond.instanceMethod ⟨"PlanClauses", "state", "(II)I"⟩) ∈ q_tbl := q_mem (List.mem_of_getElem? (i := 585) rfl) rfl
set_option maxRecDepth 20000 in
theorem k_543 : (Cond.selects "PlanClauses" ⟨"PlanClauses", "state", "(II)I"⟩ ⟨"PlanClauses", "state", "(II)I"⟩) ∈ q_tbl := q_mem (List.mem_of_getElem? (i := 586) rfl) rfl
set_option maxRecDepth 20000 in
theorem k_544 : (Cond.code ⟨"PlanClauses", "state", "(II)I"⟩ prog_1_method_20_code (3) (Option.some Jvm.ClassFile.FieldType.int)) ∈ q_tbl := q_mem (List.mem_of_getElem? (i := 587) rfl) rfl
set_option maxRecDepth 20000 in
theorem k_546 : (Cond.instanceMethod ⟨"PlanClauses", "shortest", "()I"⟩) ∈ q_tbl := q_mem (List.mem_of_getElem? (i := 589) rfl) rfl
set_option maxRecDepth 20000 in
theorem k_547 : (Cond.selects "PlanClauses" ⟨"PlanClauses", "shortest", "()I"⟩ ⟨"PlanClauses", "shortest", "()I"⟩) ∈ q_tbl := q_mem (List.mem_of_getElem? (i := 590) rfl) rfl
set_option maxRecDepth 20000 in
theorem k_548 : (Cond.code ⟨"PlanClauses", "shortest", "()I"⟩ prog_1_method_21_code (2) (Option.some Jvm.ClassFile.FieldType.int)) ∈ q_tbl := q_mem (List.mem_of_getElem? (i := 591) rfl) rfl
set_option maxRecDepth 20000 in
theorem k_550 : (Cond.instanceMethod ⟨"PlanClauses", "plans", "(I)I"⟩) ∈ q_tbl := q_mem (List.mem_of_getElem? (i := 593) rfl) rfl
set_option maxRecDepth 20000 in
theorem k_551 : (Cond.selects "PlanClauses" ⟨"PlanClauses", "plans", "(I)I"⟩ ⟨"PlanClauses", "plans", "(I)I"⟩) ∈ q_tbl := q_mem (List.mem_of_getElem? (i := 594) rfl) rfl
set_option maxRecDepth 20000 in
theorem k_552 : (Cond.code ⟨"PlanClauses", "plans", "(I)I"⟩ prog_1_method_22_code (2) (Option.some Jvm.ClassFile.FieldType.int)) ∈ q_tbl := q_mem (List.mem_of_getElem? (i := 595) rfl) rfl
set_option maxRecDepth 20000 in
theorem k_554 : (Cond.instanceMethod ⟨"PlanClauses", "code", "(II)I"⟩) ∈ q_tbl := q_mem (List.mem_of_getElem? (i := 597) rfl) rfl
set_option maxRecDepth 20000 in
theorem k_555 : (Cond.selects "PlanClauses" ⟨"PlanClauses", "code", "(II)I"⟩ ⟨"PlanClauses", "code", "(II)I"⟩) ∈ q_tbl := q_mem (List.mem_of_getElem? (i := 598) rfl) rfl
set_option maxRecDepth 20000 in
theorem k_556 : (Cond.code ⟨"PlanClauses", "code", "(II)I"⟩ prog_1_method_23_code (3) (Option.some Jvm.ClassFile.FieldType.int)) ∈ q_tbl := q_mem (List.mem_of_getElem? (i := 599) rfl) rfl
set_option maxRecDepth 20000 in
theorem k_557 : (Cond.methodLink "PlanClauses" (139) ⟨"PlanClauses$Code", "tell", "(I)V"⟩) ∈ q_tbl := q_mem (List.mem_of_getElem? (i := 600) rfl) rfl
set_option maxRecDepth 20000 in
theorem k_558 : (Cond.instanceMethod ⟨"PlanClauses$Code", "tell", "(I)V"⟩) ∈ q_tbl := q_mem (List.mem_of_getElem? (i := 601) rfl) rfl
set_option maxRecDepth 20000 in
theorem k_559 : (Cond.selects "PlanClauses$Code" ⟨"PlanClauses$Code", "tell", "(I)V"⟩ ⟨"PlanClauses$Code", "tell", "(I)V"⟩) ∈ q_tbl := q_mem (List.mem_of_getElem? (i := 602) rfl) rfl
set_option maxRecDepth 20000 in
theorem k_560 : (Cond.code ⟨"PlanClauses$Code", "tell", "(I)V"⟩ prog_2_method_3_code (3) (Option.none : Option Jvm.ClassFile.FieldType)) ∈ q_tbl := q_mem (List.mem_of_getElem? (i := 603) rfl) rfl
set_option maxRecDepth 20000 in
theorem k_561 : (Cond.methodLink "PlanClauses$Code" (36) ⟨"PlanClauses$Code", "tellEnds", "()V"⟩) ∈ q_tbl := q_mem (List.mem_of_getElem? (i := 604) rfl) rfl
set_option maxRecDepth 20000 in
theorem k_563 : (Cond.instanceMethod ⟨"PlanClauses$Code", "tellEnds", "()V"⟩) ∈ q_tbl := q_mem (List.mem_of_getElem? (i := 606) rfl) rfl
set_option maxRecDepth 20000 in
theorem k_564 : (Cond.code ⟨"PlanClauses$Code", "tellEnds", "()V"⟩ prog_2_method_9_code (2) (Option.none : Option Jvm.ClassFile.FieldType)) ∈ q_tbl := q_mem (List.mem_of_getElem? (i := 607) rfl) rfl
set_option maxRecDepth 20000 in
theorem k_565 : (Cond.methodLink "PlanClauses$Code" (63) ⟨"PlanClauses$Code", "has", "(II)Z"⟩) ∈ q_tbl := q_mem (List.mem_of_getElem? (i := 608) rfl) rfl
set_option maxRecDepth 20000 in
theorem k_566 : (Cond.static ⟨"PlanClauses$Code", "has", "(II)Z"⟩) ∈ q_tbl := q_mem (List.mem_of_getElem? (i := 609) rfl) rfl
set_option maxRecDepth 20000 in
theorem k_567 : (Cond.code ⟨"PlanClauses$Code", "has", "(II)Z"⟩ prog_2_method_15_code (2) (Option.some Jvm.ClassFile.FieldType.boolean)) ∈ q_tbl := q_mem (List.mem_of_getElem? (i := 610) rfl) rfl
set_option maxRecDepth 20000 in
theorem k_568 : (Cond.methodLink "PlanClauses$Code" (67) ⟨"PlanClauses$Code", "fact", "(II)I"⟩) ∈ q_tbl := q_mem (List.mem_of_getElem? (i := 611) rfl) rfl
set_option maxRecDepth 20000 in
theorem k_570 : (Cond.instanceMethod ⟨"PlanClauses$Code", "fact", "(II)I"⟩) ∈ q_tbl := q_mem (List.mem_of_getElem? (i := 613) rfl) rfl
set_option maxRecDepth 20000 in
theorem k_571 : (Cond.code ⟨"PlanClauses$Code", "fact", "(II)I"⟩ prog_2_method_5_code (3) (Option.some Jvm.ClassFile.FieldType.int)) ∈ q_tbl := q_mem (List.mem_of_getElem? (i := 614) rfl) rfl
set_option maxRecDepth 20000 in
theorem k_572 : (Cond.methodLink "PlanClauses$Code" (71) ⟨"PlanClauses$Code", "put", "(I)V"⟩) ∈ q_tbl := q_mem (List.mem_of_getElem? (i := 615) rfl) rfl
set_option maxRecDepth 20000 in
theorem k_574 : (Cond.instanceMethod ⟨"PlanClauses$Code", "put", "(I)V"⟩) ∈ q_tbl := q_mem (List.mem_of_getElem? (i := 617) rfl) rfl
set_option maxRecDepth 20000 in
theorem k_575 : (Cond.code ⟨"PlanClauses$Code", "put", "(I)V"⟩ prog_2_method_7_code (2) (Option.none : Option Jvm.ClassFile.FieldType)) ∈ q_tbl := q_mem (List.mem_of_getElem? (i := 618) rfl) rfl
set_option maxRecDepth 20000 in
theorem k_576 : (Cond.methodLink "PlanClauses$Code" (74) ⟨"PlanClauses$Code", "close", "()V"⟩) ∈ q_tbl := q_mem (List.mem_of_getElem? (i := 619) rfl) rfl
set_option maxRecDepth 20000 in
theorem k_578 : (Cond.instanceMethod ⟨"PlanClauses$Code", "close", "()V"⟩) ∈ q_tbl := q_mem (List.mem_of_getElem? (i := 621) rfl) rfl
set_option maxRecDepth 20000 in
theorem k_579 : (Cond.code ⟨"PlanClauses$Code", "close", "()V"⟩ prog_2_method_8_code (1) (Option.none : Option Jvm.ClassFile.FieldType)) ∈ q_tbl := q_mem (List.mem_of_getElem? (i := 622) rfl) rfl
set_option maxRecDepth 20000 in
theorem k_580 : (Cond.methodLink "PlanClauses$Code" (39) ⟨"PlanClauses$Code", "tellAsked", "(I)V"⟩) ∈ q_tbl := q_mem (List.mem_of_getElem? (i := 623) rfl) rfl
set_option maxRecDepth 20000 in
theorem k_582 : (Cond.instanceMethod ⟨"PlanClauses$Code", "tellAsked", "(I)V"⟩) ∈ q_tbl := q_mem (List.mem_of_getElem? (i := 625) rfl) rfl
set_option maxRecDepth 20000 in
theorem k_583 : (Cond.code ⟨"PlanClauses$Code", "tellAsked", "(I)V"⟩ prog_2_method_10_code (4) (Option.none : Option Jvm.ClassFile.FieldType)) ∈ q_tbl := q_mem (List.mem_of_getElem? (i := 626) rfl) rfl
set_option maxRecDepth 20000 in
theorem k_584 : (Cond.methodLink "PlanClauses$Code" (83) ⟨"PlanClauses$Code", "done", "(II)I"⟩) ∈ q_tbl := q_mem (List.mem_of_getElem? (i := 627) rfl) rfl
set_option maxRecDepth 20000 in
theorem k_586 : (Cond.instanceMethod ⟨"PlanClauses$Code", "done", "(II)I"⟩) ∈ q_tbl := q_mem (List.mem_of_getElem? (i := 629) rfl) rfl
set_option maxRecDepth 20000 in
theorem k_587 : (Cond.code ⟨"PlanClauses$Code", "done", "(II)I"⟩ prog_2_method_6_code (3) (Option.some Jvm.ClassFile.FieldType.int)) ∈ q_tbl := q_mem (List.mem_of_getElem? (i := 630) rfl) rfl
set_option maxRecDepth 20000 in
theorem k_588 : (Cond.methodLink "PlanClauses$Code" (43) ⟨"PlanClauses$Code", "tellChanged", "(I)V"⟩) ∈ q_tbl := q_mem (List.mem_of_getElem? (i := 631) rfl) rfl
set_option maxRecDepth 20000 in
theorem k_590 : (Cond.instanceMethod ⟨"PlanClauses$Code", "tellChanged", "(I)V"⟩) ∈ q_tbl := q_mem (List.mem_of_getElem? (i := 633) rfl) rfl
set_option maxRecDepth 20000 in
theorem k_591 : (Cond.code ⟨"PlanClauses$Code", "tellChanged", "(I)V"⟩ prog_2_method_11_code (5) (Option.none : Option Jvm.ClassFile.FieldType)) ∈ q_tbl := q_mem (List.mem_of_getElem? (i := 634) rfl) rfl
set_option maxRecDepth 20000 in
theorem k_592 : (Cond.methodLink "PlanClauses$Code" (46) ⟨"PlanClauses$Code", "tellKept", "(I)V"⟩) ∈ q_tbl := q_mem (List.mem_of_getElem? (i := 635) rfl) rfl
set_option maxRecDepth 20000 in
theorem k_594 : (Cond.instanceMethod ⟨"PlanClauses$Code", "tellKept", "(I)V"⟩) ∈ q_tbl := q_mem (List.mem_of_getElem? (i := 637) rfl) rfl
set_option maxRecDepth 20000 in
theorem k_595 : (Cond.code ⟨"PlanClauses$Code", "tellKept", "(I)V"⟩ prog_2_method_12_code (3) (Option.none : Option Jvm.ClassFile.FieldType)) ∈ q_tbl := q_mem (List.mem_of_getElem? (i := 638) rfl) rfl
set_option maxRecDepth 20000 in
theorem k_596 : (Cond.methodLink "PlanClauses$Code" (92) ⟨"PlanClauses$Code", "putActionsWith", "([III)V"⟩) ∈ q_tbl := q_mem (List.mem_of_getElem? (i := 639) rfl) rfl
set_option maxRecDepth 20000 in
theorem k_598 : (Cond.instanceMethod ⟨"PlanClauses$Code", "putActionsWith", "([III)V"⟩) ∈ q_tbl := q_mem (List.mem_of_getElem? (i := 641) rfl) rfl
set_option maxRecDepth 20000 in
theorem k_599 : (Cond.code ⟨"PlanClauses$Code", "putActionsWith", "([III)V"⟩ prog_2_method_13_code (5) (Option.none : Option Jvm.ClassFile.FieldType)) ∈ q_tbl := q_mem (List.mem_of_getElem? (i := 642) rfl) rfl
set_option maxRecDepth 20000 in
theorem k_600 : (Cond.methodLink "PlanClauses$Code" (49) ⟨"PlanClauses$Code", "tellPairs", "(I)V"⟩) ∈ q_tbl := q_mem (List.mem_of_getElem? (i := 643) rfl) rfl
set_option maxRecDepth 20000 in
theorem k_602 : (Cond.instanceMethod ⟨"PlanClauses$Code", "tellPairs", "(I)V"⟩) ∈ q_tbl := q_mem (List.mem_of_getElem? (i := 645) rfl) rfl
set_option maxRecDepth 20000 in
theorem k_603 : (Cond.code ⟨"PlanClauses$Code", "tellPairs", "(I)V"⟩ prog_2_method_14_code (4) (Option.none : Option Jvm.ClassFile.FieldType)) ∈ q_tbl := q_mem (List.mem_of_getElem? (i := 646) rfl) rfl
set_option maxRecDepth 20000 in
theorem k_605 : (Cond.instanceMethod ⟨"PlanClauses", "coded", "(III)I"⟩) ∈ q_tbl := q_mem (List.mem_of_getElem? (i := 648) rfl) rfl
set_option maxRecDepth 20000 in
theorem k_606 : (Cond.selects "PlanClauses" ⟨"PlanClauses", "coded", "(III)I"⟩ ⟨"PlanClauses", "coded", "(III)I"⟩) ∈ q_tbl := q_mem (List.mem_of_getElem? (i := 649) rfl) rfl
set_option maxRecDepth 20000 in
theorem k_607 : (Cond.code ⟨"PlanClauses", "coded", "(III)I"⟩ prog_1_method_24_code (4) (Option.some Jvm.ClassFile.FieldType.int)) ∈ q_tbl := q_mem (List.mem_of_getElem? (i := 650) rfl) rfl
set_option maxRecDepth 20000 in
theorem k_608 : (Cond.methodLink "PlanClauses" (148) ⟨"PlanClauses$Code", "literalOf", "(II)I"⟩) ∈ q_tbl := q_mem (List.mem_of_getElem? (i := 651) rfl) rfl
set_option maxRecDepth 20000 in
theorem k_609 : (Cond.instanceMethod ⟨"PlanClauses$Code", "literalOf", "(II)I"⟩) ∈ q_tbl := q_mem (List.mem_of_getElem? (i := 652) rfl) rfl
set_option maxRecDepth 20000 in
theorem k_610 : (Cond.selects "PlanClauses$Code" ⟨"PlanClauses$Code", "literalOf", "(II)I"⟩ ⟨"PlanClauses$Code", "literalOf", "(II)I"⟩) ∈ q_tbl := q_mem (List.mem_of_getElem? (i := 653) rfl) rfl
set_option maxRecDepth 20000 in
theorem k_611 : (Cond.code ⟨"PlanClauses$Code", "literalOf", "(II)I"⟩ prog_2_method_4_code (3) (Option.some Jvm.ClassFile.FieldType.int)) ∈ q_tbl := q_mem (List.mem_of_getElem? (i := 654) rfl) rfl
set_option maxRecDepth 20000 in
theorem k_613 : (Cond.instanceMethod ⟨"PlanClauses", "count", "(I)I"⟩) ∈ q_tbl := q_mem (List.mem_of_getElem? (i := 656) rfl) rfl
set_option maxRecDepth 20000 in
theorem k_614 : (Cond.selects "PlanClauses" ⟨"PlanClauses", "count", "(I)I"⟩ ⟨"PlanClauses", "count", "(I)I"⟩) ∈ q_tbl := q_mem (List.mem_of_getElem? (i := 657) rfl) rfl
set_option maxRecDepth 20000 in
theorem k_615 : (Cond.code ⟨"PlanClauses", "count", "(I)I"⟩ prog_1_method_25_code (2) (Option.some Jvm.ClassFile.FieldType.int)) ∈ q_tbl := q_mem (List.mem_of_getElem? (i := 658) rfl) rfl
set_option maxRecDepth 20000 in
theorem k_622 : (Cond.fieldLink "PlanClausesModel" (55) "PlanClausesModel" "variables" "I") ∈ q_tbl := q_mem (List.mem_of_getElem? (i := 665) rfl) rfl
set_option maxRecDepth 20000 in
theorem k_623 : (Cond.fieldLink "PlanClausesModel" (63) "PlanClausesModel" "clauses" "I") ∈ q_tbl := q_mem (List.mem_of_getElem? (i := 666) rfl) rfl
set_option maxRecDepth 20000 in
theorem k_624 : (Cond.fieldLink "PlanClausesModel" (7) "PlanClausesModel" "literals" "[I") ∈ q_tbl := q_mem (List.mem_of_getElem? (i := 667) rfl) rfl
set_option maxRecDepth 20000 in
theorem k_625 : (Cond.fieldLink "PlanClausesModel" (13) "PlanClausesModel" "sizes" "[I") ∈ q_tbl := q_mem (List.mem_of_getElem? (i := 668) rfl) rfl
set_option maxRecDepth 20000 in
theorem k_626 : (Cond.fieldLink "PlanClausesModel" (16) "PlanClausesModel" "told" "[I") ∈ q_tbl := q_mem (List.mem_of_getElem? (i := 669) rfl) rfl
set_option maxRecDepth 20000 in
theorem k_627 : (Cond.fieldLink "PlanClausesModel" (19) "PlanClausesModel" "toldNot" "[I") ∈ q_tbl := q_mem (List.mem_of_getElem? (i := 670) rfl) rfl
set_option maxRecDepth 20000 in
theorem k_628 : (Cond.fieldLink "PlanClausesModel" (66) "PlanClausesModel" "drafted" "I") ∈ q_tbl := q_mem (List.mem_of_getElem? (i := 671) rfl) rfl
set_option maxRecDepth 20000 in
theorem k_629 : (Cond.fieldLink "PlanClausesModel" (22) "PlanClausesModel" "draft" "[I") ∈ q_tbl := q_mem (List.mem_of_getElem? (i := 672) rfl) rfl
set_option maxRecDepth 20000 in
theorem k_630 : (Cond.fieldLink "PlanClausesModel" (69) "PlanClausesModel" "isKnown" "Z") ∈ q_tbl := q_mem (List.mem_of_getElem? (i := 673) rfl) rfl
set_option maxRecDepth 20000 in
theorem k_631 : (Cond.fieldLink "PlanClausesModel" (99) "PlanClausesModel" "many" "I") ∈ q_tbl := q_mem (List.mem_of_getElem? (i := 674) rfl) rfl
set_option maxRecDepth 20000 in
theorem k_632 : (Cond.fieldLink "PlanClausesModel" (25) "PlanClausesModel" "found" "[I") ∈ q_tbl := q_mem (List.mem_of_getElem? (i := 675) rfl) rfl
set_option maxRecDepth 20000 in
theorem k_633 : (Cond.fieldLink "PlanClausesModel" (118) "PlanClausesModel" "facts" "I") ∈ q_tbl := q_mem (List.mem_of_getElem? (i := 676) rfl) rfl
set_option maxRecDepth 20000 in
theorem k_634 : (Cond.fieldLink "PlanClausesModel" (121) "PlanClausesModel" "actions" "I") ∈ q_tbl := q_mem (List.mem_of_getElem? (i := 677) rfl) rfl
set_option maxRecDepth 20000 in
theorem k_635 : (Cond.fieldLink "PlanClausesModel" (28) "PlanClausesModel" "asks" "[I") ∈ q_tbl := q_mem (List.mem_of_getElem? (i := 678) rfl) rfl
set_option maxRecDepth 20000 in
theorem k_636 : (Cond.fieldLink "PlanClausesModel" (31) "PlanClausesModel" "adds" "[I") ∈ q_tbl := q_mem (List.mem_of_getElem? (i := 679) rfl) rfl
set_option maxRecDepth 20000 in
theorem k_637 : (Cond.fieldLink "PlanClausesModel" (34) "PlanClausesModel" "takes" "[I") ∈ q_tbl := q_mem (List.mem_of_getElem? (i := 680) rfl) rfl
set_option maxRecDepth 20000 in
theorem k_638 : (Cond.fieldLink "PlanClausesModel" (124) "PlanClausesModel" "beginning" "I") ∈ q_tbl := q_mem (List.mem_of_getElem? (i := 681) rfl) rfl
set_option maxRecDepth 20000 in
theorem k_639 : (Cond.fieldLink "PlanClausesModel" (127) "PlanClausesModel" "goal" "I") ∈ q_tbl := q_mem (List.mem_of_getElem? (i := 682) rfl) rfl
set_option maxRecDepth 20000 in
theorem k_640 : (Cond.fieldLink "PlanClausesModel" (84) "PlanClausesModel" "isTrue" "I") ∈ q_tbl := q_mem (List.mem_of_getElem? (i := 683) rfl) rfl
set_option maxRecDepth 20000 in
theorem k_641 : (Cond.fieldLink "PlanClausesModel" (87) "PlanClausesModel" "isFalse" "I") ∈ q_tbl := q_mem (List.mem_of_getElem? (i := 684) rfl) rfl
set_option maxRecDepth 20000 in
theorem k_642 : (Cond.fieldLink "PlanClausesModel" (37) "PlanClausesModel" "keptTrue" "[I") ∈ q_tbl := q_mem (List.mem_of_getElem? (i := 685) rfl) rfl
set_option maxRecDepth 20000 in
theorem k_643 : (Cond.fieldLink "PlanClausesModel" (40) "PlanClausesModel" "keptFalse" "[I") ∈ q_tbl := q_mem (List.mem_of_getElem? (i := 686) rfl) rfl
set_option maxRecDepth 20000 in
theorem k_644 : (Cond.fieldLink "PlanClausesModel" (43) "PlanClausesModel" "triedTrue" "[I") ∈ q_tbl := q_mem (List.mem_of_getElem? (i := 687) rfl) rfl
set_option maxRecDepth 20000 in
theorem k_645 : (Cond.fieldLink "PlanClausesModel" (46) "PlanClausesModel" "triedFalse" "[I") ∈ q_tbl := q_mem (List.mem_of_getElem? (i := 688) rfl) rfl
set_option maxRecDepth 20000 in
theorem k_646 : (Cond.fieldLink "PlanClausesModel" (81) "PlanClausesModel" "shortest1" "I") ∈ q_tbl := q_mem (List.mem_of_getElem? (i := 689) rfl) rfl
set_option maxRecDepth 20000 in
theorem k_647 : (Cond.fieldLink "PlanClausesModel" (106) "PlanClausesModel" "backYes" "I") ∈ q_tbl := q_mem (List.mem_of_getElem? (i := 690) rfl) rfl
set_option maxRecDepth 20000 in
theorem k_648 : (Cond.fieldLink "PlanClausesModel" (109) "PlanClausesModel" "backNo" "I") ∈ q_tbl := q_mem (List.mem_of_getElem? (i := 691) rfl) rfl
set_option maxRecDepth 20000 in
theorem k_649 : (Cond.fieldLink "PlanClausesModel" (49) "PlanClausesModel" "ways" "[I") ∈ q_tbl := q_mem (List.mem_of_getElem? (i := 692) rfl) rfl
set_option maxRecDepth 20000 in
theorem k_650 : (Cond.fieldLink "PlanClausesModel" (146) "PlanClausesModel" "did" "I") ∈ q_tbl := q_mem (List.mem_of_getElem? (i := 693) rfl) rfl
set_option maxRecDepth 20000 in
theorem k_651 : (Cond.fieldLink "PlanClausesModel" (149) "PlanClausesModel" "stood" "I") ∈ q_tbl := q_mem (List.mem_of_getElem? (i := 694) rfl) rfl
set_option maxRecDepth 20000 in
theorem k_652 : (Cond.fieldLink "PlanClausesModel" (156) "PlanClausesModel" "codedClauses" "I") ∈ q_tbl := q_mem (List.mem_of_getElem? (i := 695) rfl) rfl
set_option maxRecDepth 20000 in
theorem k_653 : (Cond.fieldLink "PlanClausesModel" (165) "PlanClausesModel" "codedLiterals" "I") ∈ q_tbl := q_mem (List.mem_of_getElem? (i := 696) rfl) rfl
set_option maxRecDepth 20000 in
theorem k_654 : (Cond.fieldLink "PlanClausesModel" (159) "PlanClausesModel" "wanted" "I") ∈ q_tbl := q_mem (List.mem_of_getElem? (i := 697) rfl) rfl
set_option maxRecDepth 20000 in
theorem k_655 : (Cond.fieldLink "PlanClausesModel" (168) "PlanClausesModel" "wantedSize" "I") ∈ q_tbl := q_mem (List.mem_of_getElem? (i := 698) rfl) rfl
set_option maxRecDepth 20000 in
theorem k_656 : (Cond.fieldLink "PlanClausesModel" (52) "PlanClausesModel" "kept" "[I") ∈ q_tbl := q_mem (List.mem_of_getElem? (i := 699) rfl) rfl
set_option maxRecDepth 20000 in
theorem k_657 : (Cond.fieldLink "PlanClausesModel" (162) "PlanClausesModel" "inHand" "I") ∈ q_tbl := q_mem (List.mem_of_getElem? (i := 700) rfl) rfl
set_option maxRecDepth 20000 in
theorem k_732 : (Cond.instanceMethod ⟨"PlanClausesModel", "variables", "(I)I"⟩) ∈ q_tbl := q_mem (List.mem_of_getElem? (i := 775) rfl) rfl
set_option maxRecDepth 20000 in
theorem k_733 : (Cond.selects "PlanClausesModel" ⟨"PlanClausesModel", "variables", "(I)I"⟩ ⟨"PlanClausesModel", "variables", "(I)I"⟩) ∈ q_tbl := q_mem (List.mem_of_getElem? (i := 776) rfl) rfl
set_option maxRecDepth 20000 in
theorem k_734 : (Cond.code ⟨"PlanClausesModel", "variables", "(I)I"⟩ prog_10_method_4_code (3) (Option.some Jvm.ClassFile.FieldType.int)) ∈ q_tbl := q_mem (List.mem_of_getElem? (i := 777) rfl) rfl
set_option maxRecDepth 20000 in
theorem k_735 : (Cond.methodLink "PlanClausesModel" (59) ⟨"PlanClausesModel", "in", "(III)Z"⟩) ∈ q_tbl := q_mem (List.mem_of_getElem? (i := 778) rfl) rfl
set_option maxRecDepth 20000 in
theorem k_736 : (Cond.static ⟨"PlanClausesModel", "in", "(III)Z"⟩) ∈ q_tbl := q_mem (List.mem_of_getElem? (i := 779) rfl) rfl
set_option maxRecDepth 20000 in
theorem k_737 : (Cond.code ⟨"PlanClausesModel", "in", "(III)Z"⟩ prog_10_method_3_code (3) (Option.some Jvm.ClassFile.FieldType.boolean)) ∈ q_tbl := q_mem (List.mem_of_getElem? (i := 780) rfl) rfl
set_option maxRecDepth 20000 in
theorem k_739 : (Cond.instanceMethod ⟨"PlanClausesModel", "literal", "(I)I"⟩) ∈ q_tbl := q_mem (List.mem_of_getElem? (i := 782) rfl) rfl
set_option maxRecDepth 20000 in
theorem k_740 : (Cond.selects "PlanClausesModel" ⟨"PlanClausesModel", "literal", "(I)I"⟩ ⟨"PlanClausesModel", "literal", "(I)I"⟩) ∈ q_tbl := q_mem (List.mem_of_getElem? (i := 783) rfl) rfl
set_option maxRecDepth 20000 in
theorem k_741 : (Cond.code ⟨"PlanClausesModel", "literal", "(I)I"⟩ prog_10_method_7_code (3) (Option.some Jvm.ClassFile.FieldType.int)) ∈ q_tbl := q_mem (List.mem_of_getElem? (i := 784) rfl) rfl
set_option maxRecDepth 20000 in
theorem k_742 : (Cond.methodLink "PlanClausesModel" (73) ⟨"PlanClausesModel", "isLiteral", "(I)Z"⟩) ∈ q_tbl := q_mem (List.mem_of_getElem? (i := 785) rfl) rfl
set_option maxRecDepth 20000 in
theorem k_744 : (Cond.instanceMethod ⟨"PlanClausesModel", "isLiteral", "(I)Z"⟩) ∈ q_tbl := q_mem (List.mem_of_getElem? (i := 787) rfl) rfl
set_option maxRecDepth 20000 in
theorem k_745 : (Cond.code ⟨"PlanClausesModel", "isLiteral", "(I)Z"⟩ prog_10_method_6_code (2) (Option.some Jvm.ClassFile.FieldType.boolean)) ∈ q_tbl := q_mem (List.mem_of_getElem? (i := 788) rfl) rfl
set_option maxRecDepth 20000 in
theorem k_746 : (Cond.methodLink "PlanClausesModel" (77) ⟨"PlanClausesModel", "size", "(I)I"⟩) ∈ q_tbl := q_mem (List.mem_of_getElem? (i := 789) rfl) rfl
set_option maxRecDepth 20000 in
theorem k_747 : (Cond.static ⟨"PlanClausesModel", "size", "(I)I"⟩) ∈ q_tbl := q_mem (List.mem_of_getElem? (i := 790) rfl) rfl
set_option maxRecDepth 20000 in
theorem k_748 : (Cond.code ⟨"PlanClausesModel", "size", "(I)I"⟩ prog_10_method_5_code (1) (Option.some Jvm.ClassFile.FieldType.int)) ∈ q_tbl := q_mem (List.mem_of_getElem? (i := 791) rfl) rfl
set_option maxRecDepth 20000 in
theorem k_750 : (Cond.instanceMethod ⟨"PlanClausesModel", "clause", "()I"⟩) ∈ q_tbl := q_mem (List.mem_of_getElem? (i := 793) rfl) rfl
set_option maxRecDepth 20000 in
theorem k_751 : (Cond.selects "PlanClausesModel" ⟨"PlanClausesModel", "clause", "()I"⟩ ⟨"PlanClausesModel", "clause", "()I"⟩) ∈ q_tbl := q_mem (List.mem_of_getElem? (i := 794) rfl) rfl
set_option maxRecDepth 20000 in
theorem k_752 : (Cond.code ⟨"PlanClausesModel", "clause", "()I"⟩ prog_10_method_8_code (3) (Option.some Jvm.ClassFile.FieldType.int)) ∈ q_tbl := q_mem (List.mem_of_getElem? (i := 795) rfl) rfl
set_option maxRecDepth 20000 in
theorem k_754 : (Cond.instanceMethod ⟨"PlanClausesModel", "drop", "()I"⟩) ∈ q_tbl := q_mem (List.mem_of_getElem? (i := 797) rfl) rfl
set_option maxRecDepth 20000 in
theorem k_755 : (Cond.selects "PlanClausesModel" ⟨"PlanClausesModel", "drop", "()I"⟩ ⟨"PlanClausesModel", "drop", "()I"⟩) ∈ q_tbl := q_mem (List.mem_of_getElem? (i := 798) rfl) rfl
set_option maxRecDepth 20000 in
theorem k_756 : (Cond.code ⟨"PlanClausesModel", "drop", "()I"⟩ prog_10_method_9_code (1) (Option.some Jvm.ClassFile.FieldType.int)) ∈ q_tbl := q_mem (List.mem_of_getElem? (i := 799) rfl) rfl
set_option maxRecDepth 20000 in
theorem k_758 : (Cond.instanceMethod ⟨"PlanClausesModel", "at", "(II)I"⟩) ∈ q_tbl := q_mem (List.mem_of_getElem? (i := 801) rfl) rfl
set_option maxRecDepth 20000 in
theorem k_759 : (Cond.selects "PlanClausesModel" ⟨"PlanClausesModel", "at", "(II)I"⟩ ⟨"PlanClausesModel", "at", "(II)I"⟩) ∈ q_tbl := q_mem (List.mem_of_getElem? (i := 802) rfl) rfl
set_option maxRecDepth 20000 in
theorem k_760 : (Cond.code ⟨"PlanClausesModel", "at", "(II)I"⟩ prog_10_method_10_code (3) (Option.some Jvm.ClassFile.FieldType.int)) ∈ q_tbl := q_mem (List.mem_of_getElem? (i := 803) rfl) rfl
set_option maxRecDepth 20000 in
theorem k_762 : (Cond.instanceMethod ⟨"PlanClausesModel", "sat", "(I)I"⟩) ∈ q_tbl := q_mem (List.mem_of_getElem? (i := 805) rfl) rfl
set_option maxRecDepth 20000 in
theorem k_763 : (Cond.selects "PlanClausesModel" ⟨"PlanClausesModel", "sat", "(I)I"⟩ ⟨"PlanClausesModel", "sat", "(I)I"⟩) ∈ q_tbl := q_mem (List.mem_of_getElem? (i := 806) rfl) rfl
set_option maxRecDepth 20000 in
theorem k_764 : (Cond.code ⟨"PlanClausesModel", "sat", "(I)I"⟩ prog_10_method_14_code (4) (Option.some Jvm.ClassFile.FieldType.int)) ∈ q_tbl := q_mem (List.mem_of_getElem? (i := 807) rfl) rfl
set_option maxRecDepth 20000 in
theorem k_765 : (Cond.methodLink "PlanClausesModel" (96) ⟨"PlanClausesModel", "canBe", "(III)Z"⟩) ∈ q_tbl := q_mem (List.mem_of_getElem? (i := 808) rfl) rfl
set_option maxRecDepth 20000 in
theorem k_767 : (Cond.instanceMethod ⟨"PlanClausesModel", "canBe", "(III)Z"⟩) ∈ q_tbl := q_mem (List.mem_of_getElem? (i := 810) rfl) rfl
set_option maxRecDepth 20000 in
theorem k_768 : (Cond.code ⟨"PlanClausesModel", "canBe", "(III)Z"⟩ prog_10_method_13_code (8) (Option.some Jvm.ClassFile.FieldType.boolean)) ∈ q_tbl := q_mem (List.mem_of_getElem? (i := 811) rfl) rfl
set_option maxRecDepth 20000 in
theorem k_769 : (Cond.methodLink "PlanClausesModel" (93) ⟨"PlanClausesModel", "follows", "(I)Z"⟩) ∈ q_tbl := q_mem (List.mem_of_getElem? (i := 812) rfl) rfl
set_option maxRecDepth 20000 in
theorem k_771 : (Cond.instanceMethod ⟨"PlanClausesModel", "follows", "(I)Z"⟩) ∈ q_tbl := q_mem (List.mem_of_getElem? (i := 814) rfl) rfl
set_option maxRecDepth 20000 in
theorem k_772 : (Cond.code ⟨"PlanClausesModel", "follows", "(I)Z"⟩ prog_10_method_12_code (8) (Option.some Jvm.ClassFile.FieldType.boolean)) ∈ q_tbl := q_mem (List.mem_of_getElem? (i := 815) rfl) rfl
set_option maxRecDepth 20000 in
theorem k_773 : (Cond.methodLink "PlanClausesModel" (90) ⟨"PlanClausesModel", "ones", "(I)I"⟩) ∈ q_tbl := q_mem (List.mem_of_getElem? (i := 816) rfl) rfl
set_option maxRecDepth 20000 in
theorem k_774 : (Cond.static ⟨"PlanClausesModel", "ones", "(I)I"⟩) ∈ q_tbl := q_mem (List.mem_of_getElem? (i := 817) rfl) rfl
set_option maxRecDepth 20000 in
theorem k_775 : (Cond.code ⟨"PlanClausesModel", "ones", "(I)I"⟩ prog_10_method_11_code (3) (Option.some Jvm.ClassFile.FieldType.int)) ∈ q_tbl := q_mem (List.mem_of_getElem? (i := 818) rfl) rfl
set_option maxRecDepth 20000 in
theorem k_777 : (Cond.instanceMethod ⟨"PlanClausesModel", "value", "(I)I"⟩) ∈ q_tbl := q_mem (List.mem_of_getElem? (i := 820) rfl) rfl
set_option maxRecDepth 20000 in
theorem k_778 : (Cond.selects "PlanClausesModel" ⟨"PlanClausesModel", "value", "(I)I"⟩ ⟨"PlanClausesModel", "value", "(I)I"⟩) ∈ q_tbl := q_mem (List.mem_of_getElem? (i := 821) rfl) rfl
set_option maxRecDepth 20000 in
theorem k_779 : (Cond.code ⟨"PlanClausesModel", "value", "(I)I"⟩ prog_10_method_18_code (2) (Option.some Jvm.ClassFile.FieldType.int)) ∈ q_tbl := q_mem (List.mem_of_getElem? (i := 822) rfl) rfl
set_option maxRecDepth 20000 in
theorem k_780 : (Cond.methodLink "PlanClausesModel" (112) ⟨"PlanClausesModel", "isVariable", "(I)Z"⟩) ∈ q_tbl := q_mem (List.mem_of_getElem? (i := 823) rfl) rfl
set_option maxRecDepth 20000 in
theorem k_782 : (Cond.instanceMethod ⟨"PlanClausesModel", "isVariable", "(I)Z"⟩) ∈ q_tbl := q_mem (List.mem_of_getElem? (i := 825) rfl) rfl
set_option maxRecDepth 20000 in
theorem k_783 : (Cond.code ⟨"PlanClausesModel", "isVariable", "(I)Z"⟩ prog_10_method_17_code (2) (Option.some Jvm.ClassFile.FieldType.boolean)) ∈ q_tbl := q_mem (List.mem_of_getElem? (i := 826) rfl) rfl
set_option maxRecDepth 20000 in
theorem k_784 : (Cond.methodLink "PlanClausesModel" (115) ⟨"PlanClausesModel", "know", "()V"⟩) ∈ q_tbl := q_mem (List.mem_of_getElem? (i := 827) rfl) rfl
set_option maxRecDepth 20000 in
theorem k_786 : (Cond.instanceMethod ⟨"PlanClausesModel", "know", "()V"⟩) ∈ q_tbl := q_mem (List.mem_of_getElem? (i := 829) rfl) rfl
set_option maxRecDepth 20000 in
theorem k_787 : (Cond.code ⟨"PlanClausesModel", "know", "()V"⟩ prog_10_method_15_code (4) (Option.none : Option Jvm.ClassFile.FieldType)) ∈ q_tbl := q_mem (List.mem_of_getElem? (i := 830) rfl) rfl
set_option maxRecDepth 20000 in
theorem k_788 : (Cond.methodLink "PlanClausesModel" (102) ⟨"PlanClausesModel", "back", "(II)I"⟩) ∈ q_tbl := q_mem (List.mem_of_getElem? (i := 831) rfl) rfl
set_option maxRecDepth 20000 in
theorem k_790 : (Cond.instanceMethod ⟨"PlanClausesModel", "back", "(II)I"⟩) ∈ q_tbl := q_mem (List.mem_of_getElem? (i := 833) rfl) rfl
set_option maxRecDepth 20000 in
theorem k_791 : (Cond.code ⟨"PlanClausesModel", "back", "(II)I"⟩ prog_10_method_16_code (6) (Option.some Jvm.ClassFile.FieldType.int)) ∈ q_tbl := q_mem (List.mem_of_getElem? (i := 834) rfl) rfl
set_option maxRecDepth 20000 in
theorem k_793 : (Cond.instanceMethod ⟨"PlanClausesModel", "model", "(II)I"⟩) ∈ q_tbl := q_mem (List.mem_of_getElem? (i := 836) rfl) rfl
set_option maxRecDepth 20000 in
theorem k_794 : (Cond.selects "PlanClausesModel" ⟨"PlanClausesModel", "model", "(II)I"⟩ ⟨"PlanClausesModel", "model", "(II)I"⟩) ∈ q_tbl := q_mem (List.mem_of_getElem? (i := 837) rfl) rfl
set_option maxRecDepth 20000 in
theorem k_795 : (Cond.code ⟨"PlanClausesModel", "model", "(II)I"⟩ prog_10_method_19_code (3) (Option.some Jvm.ClassFile.FieldType.int)) ∈ q_tbl := q_mem (List.mem_of_getElem? (i := 838) rfl) rfl
set_option maxRecDepth 20000 in
theorem k_797 : (Cond.instanceMethod ⟨"PlanClausesModel", "models", "()I"⟩) ∈ q_tbl := q_mem (List.mem_of_getElem? (i := 840) rfl) rfl
set_option maxRecDepth 20000 in
theorem k_798 : (Cond.selects "PlanClausesModel" ⟨"PlanClausesModel", "models", "()I"⟩ ⟨"PlanClausesModel", "models", "()I"⟩) ∈ q_tbl := q_mem (List.mem_of_getElem? (i := 841) rfl) rfl
set_option maxRecDepth 20000 in
theorem k_799 : (Cond.code ⟨"PlanClausesModel", "models", "()I"⟩ prog_10_method_20_code (1) (Option.some Jvm.ClassFile.FieldType.int)) ∈ q_tbl := q_mem (List.mem_of_getElem? (i := 842) rfl) rfl
set_option maxRecDepth 20000 in
theorem k_801 : (Cond.instanceMethod ⟨"PlanClausesModel", "forced", "(I)I"⟩) ∈ q_tbl := q_mem (List.mem_of_getElem? (i := 844) rfl) rfl
set_option maxRecDepth 20000 in
theorem k_802 : (Cond.selects "PlanClausesModel" ⟨"PlanClausesModel", "forced", "(I)I"⟩ ⟨"PlanClausesModel", "forced", "(I)I"⟩) ∈ q_tbl := q_mem (List.mem_of_getElem? (i := 845) rfl) rfl
set_option maxRecDepth 20000 in
theorem k_803 : (Cond.code ⟨"PlanClausesModel", "forced", "(I)I"⟩ prog_10_method_21_code (4) (Option.some Jvm.ClassFile.FieldType.int)) ∈ q_tbl := q_mem (List.mem_of_getElem? (i := 846) rfl) rfl
set_option maxRecDepth 20000 in
theorem k_805 : (Cond.instanceMethod ⟨"PlanClausesModel", "culprit", "()I"⟩) ∈ q_tbl := q_mem (List.mem_of_getElem? (i := 848) rfl) rfl
set_option maxRecDepth 20000 in
theorem k_806 : (Cond.selects "PlanClausesModel" ⟨"PlanClausesModel", "culprit", "()I"⟩ ⟨"PlanClausesModel", "culprit", "()I"⟩) ∈ q_tbl := q_mem (List.mem_of_getElem? (i := 849) rfl) rfl
set_option maxRecDepth 20000 in
theorem k_807 : (Cond.code ⟨"PlanClausesModel", "culprit", "()I"⟩ prog_10_method_22_code (2) (Option.some Jvm.ClassFile.FieldType.int)) ∈ q_tbl := q_mem (List.mem_of_getElem? (i := 850) rfl) rfl
set_option maxRecDepth 20000 in
theorem k_809 : (Cond.instanceMethod ⟨"PlanClausesModel", "facts", "(I)I"⟩) ∈ q_tbl := q_mem (List.mem_of_getElem? (i := 852) rfl) rfl
set_option maxRecDepth 20000 in
theorem k_810 : (Cond.selects "PlanClausesModel" ⟨"PlanClausesModel", "facts", "(I)I"⟩ ⟨"PlanClausesModel", "facts", "(I)I"⟩) ∈ q_tbl := q_mem (List.mem_of_getElem? (i := 853) rfl) rfl
set_option maxRecDepth 20000 in
theorem k_811 : (Cond.code ⟨"PlanClausesModel", "facts", "(I)I"⟩ prog_10_method_24_code (3) (Option.some Jvm.ClassFile.FieldType.int)) ∈ q_tbl := q_mem (List.mem_of_getElem? (i := 854) rfl) rfl
set_option maxRecDepth 20000 in
theorem k_813 : (Cond.instanceMethod ⟨"PlanClausesModel", "action", "(III)I"⟩) ∈ q_tbl := q_mem (List.mem_of_getElem? (i := 856) rfl) rfl
set_option maxRecDepth 20000 in
theorem k_814 : (Cond.selects "PlanClausesModel" ⟨"PlanClausesModel", "action", "(III)I"⟩ ⟨"PlanClausesModel", "action", "(III)I"⟩) ∈ q_tbl := q_mem (List.mem_of_getElem? (i := 857) rfl) rfl
set_option maxRecDepth 20000 in
theorem k_815 : (Cond.code ⟨"PlanClausesModel", "action", "(III)I"⟩ prog_10_method_25_code (4) (Option.some Jvm.ClassFile.FieldType.int)) ∈ q_tbl := q_mem (List.mem_of_getElem? (i := 858) rfl) rfl
set_option maxRecDepth 20000 in
theorem k_816 : (Cond.methodLink "PlanClausesModel" (130) ⟨"PlanClausesModel", "areFacts", "(I)Z"⟩) ∈ q_tbl := q_mem (List.mem_of_getElem? (i := 859) rfl) rfl
set_option maxRecDepth 20000 in
theorem k_818 : (Cond.instanceMethod ⟨"PlanClausesModel", "areFacts", "(I)Z"⟩) ∈ q_tbl := q_mem (List.mem_of_getElem? (i := 861) rfl) rfl
set_option maxRecDepth 20000 in
theorem k_819 : (Cond.code ⟨"PlanClausesModel", "areFacts", "(I)Z"⟩ prog_10_method_23_code (2) (Option.some Jvm.ClassFile.FieldType.boolean)) ∈ q_tbl := q_mem (List.mem_of_getElem? (i := 862) rfl) rfl
set_option maxRecDepth 20000 in
theorem k_821 : (Cond.instanceMethod ⟨"PlanClausesModel", "set", "(II)I"⟩) ∈ q_tbl := q_mem (List.mem_of_getElem? (i := 864) rfl) rfl
set_option maxRecDepth 20000 in
theorem k_822 : (Cond.selects "PlanClausesModel" ⟨"PlanClausesModel", "set", "(II)I"⟩ ⟨"PlanClausesModel", "set", "(II)I"⟩) ∈ q_tbl := q_mem (List.mem_of_getElem? (i := 865) rfl) rfl
set_option maxRecDepth 20000 in
theorem k_823 : (Cond.code ⟨"PlanClausesModel", "set", "(II)I"⟩ prog_10_method_26_code (4) (Option.some Jvm.ClassFile.FieldType.int)) ∈ q_tbl := q_mem (List.mem_of_getElem? (i := 866) rfl) rfl
set_option maxRecDepth 20000 in
theorem k_825 : (Cond.instanceMethod ⟨"PlanClausesModel", "plan", "(I)I"⟩) ∈ q_tbl := q_mem (List.mem_of_getElem? (i := 868) rfl) rfl
set_option maxRecDepth 20000 in
theorem k_826 : (Cond.selects "PlanClausesModel" ⟨"PlanClausesModel", "plan", "(I)I"⟩ ⟨"PlanClausesModel", "plan", "(I)I"⟩) ∈ q_tbl := q_mem (List.mem_of_getElem? (i := 869) rfl) rfl
set_option maxRecDepth 20000 in
theorem k_827 : (Cond.code ⟨"PlanClausesModel", "plan", "(I)I"⟩ prog_10_method_31_code (2) (Option.some Jvm.ClassFile.FieldType.int)) ∈ q_tbl := q_mem (List.mem_of_getElem? (i := 870) rfl) rfl
set_option maxRecDepth 20000 in
theorem k_828 : (Cond.methodLink "PlanClausesModel" (140) ⟨"PlanClausesModel", "isLength", "(I)Z"⟩) ∈ q_tbl := q_mem (List.mem_of_getElem? (i := 871) rfl) rfl
set_option maxRecDepth 20000 in
theorem k_829 : (Cond.static ⟨"PlanClausesModel", "isLength", "(I)Z"⟩) ∈ q_tbl := q_mem (List.mem_of_getElem? (i := 872) rfl) rfl
set_option maxRecDepth 20000 in
theorem k_830 : (Cond.code ⟨"PlanClausesModel", "isLength", "(I)Z"⟩ prog_10_method_29_code (1) (Option.some Jvm.ClassFile.FieldType.boolean)) ∈ q_tbl := q_mem (List.mem_of_getElem? (i := 873) rfl) rfl
set_option maxRecDepth 20000 in
theorem k_831 : (Cond.methodLink "PlanClausesModel" (143) ⟨"PlanClausesModel", "plansOf", "(I)I"⟩) ∈ q_tbl := q_mem (List.mem_of_getElem? (i := 874) rfl) rfl
set_option maxRecDepth 20000 in
theorem k_833 : (Cond.instanceMethod ⟨"PlanClausesModel", "plansOf", "(I)I"⟩) ∈ q_tbl := q_mem (List.mem_of_getElem? (i := 876) rfl) rfl
set_option maxRecDepth 20000 in
theorem k_834 : (Cond.code ⟨"PlanClausesModel", "plansOf", "(I)I"⟩ prog_10_method_30_code (2) (Option.some Jvm.ClassFile.FieldType.int)) ∈ q_tbl := q_mem (List.mem_of_getElem? (i := 877) rfl) rfl
set_option maxRecDepth 20000 in
theorem k_835 : (Cond.methodLink "PlanClausesModel" (136) ⟨"PlanClausesModel", "counts", "(I)V"⟩) ∈ q_tbl := q_mem (List.mem_of_getElem? (i := 878) rfl) rfl
set_option maxRecDepth 20000 in
theorem k_837 : (Cond.instanceMethod ⟨"PlanClausesModel", "counts", "(I)V"⟩) ∈ q_tbl := q_mem (List.mem_of_getElem? (i := 880) rfl) rfl
set_option maxRecDepth 20000 in
theorem k_838 : (Cond.code ⟨"PlanClausesModel", "counts", "(I)V"⟩ prog_10_method_28_code (8) (Option.none : Option Jvm.ClassFile.FieldType)) ∈ q_tbl := q_mem (List.mem_of_getElem? (i := 881) rfl) rfl
set_option maxRecDepth 20000 in
theorem k_839 : (Cond.methodLink "PlanClausesModel" (133) ⟨"PlanClausesModel", "after", "(II)I"⟩) ∈ q_tbl := q_mem (List.mem_of_getElem? (i := 882) rfl) rfl
set_option maxRecDepth 20000 in
theorem k_841 : (Cond.instanceMethod ⟨"PlanClausesModel", "after", "(II)I"⟩) ∈ q_tbl := q_mem (List.mem_of_getElem? (i := 884) rfl) rfl
set_option maxRecDepth 20000 in
theorem k_842 : (Cond.code ⟨"PlanClausesModel", "after", "(II)I"⟩ prog_10_method_27_code (3) (Option.some Jvm.ClassFile.FieldType.int)) ∈ q_tbl := q_mem (List.mem_of_getElem? (i := 885) rfl) rfl
set_option maxRecDepth 20000 in
theorem k_844 : (Cond.instanceMethod ⟨"PlanClausesModel", "plans", "(I)I"⟩) ∈ q_tbl := q_mem (List.mem_of_getElem? (i := 887) rfl) rfl
set_option maxRecDepth 20000 in
theorem k_845 : (Cond.selects "PlanClausesModel" ⟨"PlanClausesModel", "plans", "(I)I"⟩ ⟨"PlanClausesModel", "plans", "(I)I"⟩) ∈ q_tbl := q_mem (List.mem_of_getElem? (i := 888) rfl) rfl
set_option maxRecDepth 20000 in
theorem k_846 : (Cond.code ⟨"PlanClausesModel", "plans", "(I)I"⟩ prog_10_method_32_code (2) (Option.some Jvm.ClassFile.FieldType.int)) ∈ q_tbl := q_mem (List.mem_of_getElem? (i := 889) rfl) rfl
set_option maxRecDepth 20000 in
theorem k_848 : (Cond.instanceMethod ⟨"PlanClausesModel", "step", "(II)I"⟩) ∈ q_tbl := q_mem (List.mem_of_getElem? (i := 891) rfl) rfl
set_option maxRecDepth 20000 in
theorem k_849 : (Cond.selects "PlanClausesModel" ⟨"PlanClausesModel", "step", "(II)I"⟩ ⟨"PlanClausesModel", "step", "(II)I"⟩) ∈ q_tbl := q_mem (List.mem_of_getElem? (i := 892) rfl) rfl
set_option maxRecDepth 20000 in
theorem k_850 : (Cond.code ⟨"PlanClausesModel", "step", "(II)I"⟩ prog_10_method_34_code (3) (Option.some Jvm.ClassFile.FieldType.int)) ∈ q_tbl := q_mem (List.mem_of_getElem? (i := 893) rfl) rfl
set_option maxRecDepth 20000 in
theorem k_851 : (Cond.methodLink "PlanClausesModel" (152) ⟨"PlanClausesModel", "goes", "(II)V"⟩) ∈ q_tbl := q_mem (List.mem_of_getElem? (i := 894) rfl) rfl
set_option maxRecDepth 20000 in
theorem k_853 : (Cond.instanceMethod ⟨"PlanClausesModel", "goes", "(II)V"⟩) ∈ q_tbl := q_mem (List.mem_of_getElem? (i := 896) rfl) rfl
set_option maxRecDepth 20000 in
theorem k_854 : (Cond.code ⟨"PlanClausesModel", "goes", "(II)V"⟩ prog_10_method_33_code (6) (Option.none : Option Jvm.ClassFile.FieldType)) ∈ q_tbl := q_mem (List.mem_of_getElem? (i := 897) rfl) rfl
set_option maxRecDepth 20000 in
theorem k_856 : (Cond.instanceMethod ⟨"PlanClausesModel", "state", "(II)I"⟩) ∈ q_tbl := q_mem (List.mem_of_getElem? (i := 899) rfl) rfl
set_option maxRecDepth 20000 in
theorem k_857 : (Cond.selects "PlanClausesModel" ⟨"PlanClausesModel", "state", "(II)I"⟩ ⟨"PlanClausesModel", "state", "(II)I"⟩) ∈ q_tbl := q_mem (List.mem_of_getElem? (i := 900) rfl) rfl
set_option maxRecDepth 20000 in
theorem k_858 : (Cond.code ⟨"PlanClausesModel", "state", "(II)I"⟩ prog_10_method_35_code (3) (Option.some Jvm.ClassFile.FieldType.int)) ∈ q_tbl := q_mem (List.mem_of_getElem? (i := 901) rfl) rfl
set_option maxRecDepth 20000 in
theorem k_860 : (Cond.instanceMethod ⟨"PlanClausesModel", "shortest", "()I"⟩) ∈ q_tbl := q_mem (List.mem_of_getElem? (i := 903) rfl) rfl
set_option maxRecDepth 20000 in
theorem k_861 : (Cond.selects "PlanClausesModel" ⟨"PlanClausesModel", "shortest", "()I"⟩ ⟨"PlanClausesModel", "shortest", "()I"⟩) ∈ q_tbl := q_mem (List.mem_of_getElem? (i := 904) rfl) rfl
set_option maxRecDepth 20000 in
theorem k_862 : (Cond.code ⟨"PlanClausesModel", "shortest", "()I"⟩ prog_10_method_36_code (2) (Option.some Jvm.ClassFile.FieldType.int)) ∈ q_tbl := q_mem (List.mem_of_getElem? (i := 905) rfl) rfl
set_option maxRecDepth 20000 in
theorem k_864 : (Cond.instanceMethod ⟨"PlanClausesModel", "code", "(II)I"⟩) ∈ q_tbl := q_mem (List.mem_of_getElem? (i := 907) rfl) rfl
set_option maxRecDepth 20000 in
theorem k_865 : (Cond.selects "PlanClausesModel" ⟨"PlanClausesModel", "code", "(II)I"⟩ ⟨"PlanClausesModel", "code", "(II)I"⟩) ∈ q_tbl := q_mem (List.mem_of_getElem? (i := 908) rfl) rfl
set_option maxRecDepth 20000 in
theorem k_866 : (Cond.code ⟨"PlanClausesModel", "code", "(II)I"⟩ prog_10_method_45_code (3) (Option.some Jvm.ClassFile.FieldType.int)) ∈ q_tbl := q_mem (List.mem_of_getElem? (i := 909) rfl) rfl
set_option maxRecDepth 20000 in
theorem k_867 : (Cond.methodLink "PlanClausesModel" (193) ⟨"PlanClausesModel", "codes", "(II)V"⟩) ∈ q_tbl := q_mem (List.mem_of_getElem? (i := 910) rfl) rfl
set_option maxRecDepth 20000 in
theorem k_869 : (Cond.instanceMethod ⟨"PlanClausesModel", "codes", "(II)V"⟩) ∈ q_tbl := q_mem (List.mem_of_getElem? (i := 912) rfl) rfl
set_option maxRecDepth 20000 in
theorem k_870 : (Cond.code ⟨"PlanClausesModel", "codes", "(II)V"⟩ prog_10_method_44_code (4) (Option.none : Option Jvm.ClassFile.FieldType)) ∈ q_tbl := q_mem (List.mem_of_getElem? (i := 913) rfl) rfl
set_option maxRecDepth 20000 in
theorem k_871 : (Cond.methodLink "PlanClausesModel" (178) ⟨"PlanClausesModel", "factAt", "(II)I"⟩) ∈ q_tbl := q_mem (List.mem_of_getElem? (i := 914) rfl) rfl
set_option maxRecDepth 20000 in
theorem k_873 : (Cond.instanceMethod ⟨"PlanClausesModel", "factAt", "(II)I"⟩) ∈ q_tbl := q_mem (List.mem_of_getElem? (i := 916) rfl) rfl
set_option maxRecDepth 20000 in
theorem k_874 : (Cond.code ⟨"PlanClausesModel", "factAt", "(II)I"⟩ prog_10_method_37_code (3) (Option.some Jvm.ClassFile.FieldType.int)) ∈ q_tbl := q_mem (List.mem_of_getElem? (i := 917) rfl) rfl
set_option maxRecDepth 20000 in
theorem k_875 : (Cond.methodLink "PlanClausesModel" (175) ⟨"PlanClausesModel", "says", "(I)V"⟩) ∈ q_tbl := q_mem (List.mem_of_getElem? (i := 918) rfl) rfl
set_option maxRecDepth 20000 in
theorem k_877 : (Cond.instanceMethod ⟨"PlanClausesModel", "says", "(I)V"⟩) ∈ q_tbl := q_mem (List.mem_of_getElem? (i := 920) rfl) rfl
set_option maxRecDepth 20000 in
theorem k_878 : (Cond.code ⟨"PlanClausesModel", "says", "(I)V"⟩ prog_10_method_39_code (2) (Option.none : Option Jvm.ClassFile.FieldType)) ∈ q_tbl := q_mem (List.mem_of_getElem? (i := 921) rfl) rfl
set_option maxRecDepth 20000 in
theorem k_879 : (Cond.methodLink "PlanClausesModel" (181) ⟨"PlanClausesModel", "ends", "()V"⟩) ∈ q_tbl := q_mem (List.mem_of_getElem? (i := 922) rfl) rfl
set_option maxRecDepth 20000 in
theorem k_881 : (Cond.instanceMethod ⟨"PlanClausesModel", "ends", "()V"⟩) ∈ q_tbl := q_mem (List.mem_of_getElem? (i := 924) rfl) rfl
set_option maxRecDepth 20000 in
theorem k_882 : (Cond.code ⟨"PlanClausesModel", "ends", "()V"⟩ prog_10_method_40_code (1) (Option.none : Option Jvm.ClassFile.FieldType)) ∈ q_tbl := q_mem (List.mem_of_getElem? (i := 925) rfl) rfl
set_option maxRecDepth 20000 in
theorem k_883 : (Cond.methodLink "PlanClausesModel" (190) ⟨"PlanClausesModel", "codesStep", "(II)V"⟩) ∈ q_tbl := q_mem (List.mem_of_getElem? (i := 926) rfl) rfl
set_option maxRecDepth 20000 in
theorem k_885 : (Cond.instanceMethod ⟨"PlanClausesModel", "codesStep", "(II)V"⟩) ∈ q_tbl := q_mem (List.mem_of_getElem? (i := 928) rfl) rfl
set_option maxRecDepth 20000 in
theorem k_886 : (Cond.code ⟨"PlanClausesModel", "codesStep", "(II)V"⟩ prog_10_method_43_code (5) (Option.none : Option Jvm.ClassFile.FieldType)) ∈ q_tbl := q_mem (List.mem_of_getElem? (i := 929) rfl) rfl
set_option maxRecDepth 20000 in
theorem k_887 : (Cond.methodLink "PlanClausesModel" (171) ⟨"PlanClausesModel", "actionAt", "(III)I"⟩) ∈ q_tbl := q_mem (List.mem_of_getElem? (i := 930) rfl) rfl
set_option maxRecDepth 20000 in
theorem k_889 : (Cond.instanceMethod ⟨"PlanClausesModel", "actionAt", "(III)I"⟩) ∈ q_tbl := q_mem (List.mem_of_getElem? (i := 932) rfl) rfl
set_option maxRecDepth 20000 in
theorem k_890 : (Cond.code ⟨"PlanClausesModel", "actionAt", "(III)I"⟩ prog_10_method_38_code (4) (Option.some Jvm.ClassFile.FieldType.int)) ∈ q_tbl := q_mem (List.mem_of_getElem? (i := 933) rfl) rfl
set_option maxRecDepth 20000 in
theorem k_891 : (Cond.methodLink "PlanClausesModel" (184) ⟨"PlanClausesModel", "codesEffects", "(II)V"⟩) ∈ q_tbl := q_mem (List.mem_of_getElem? (i := 934) rfl) rfl
set_option maxRecDepth 20000 in
theorem k_893 : (Cond.instanceMethod ⟨"PlanClausesModel", "codesEffects", "(II)V"⟩) ∈ q_tbl := q_mem (List.mem_of_getElem? (i := 936) rfl) rfl
set_option maxRecDepth 20000 in
theorem k_894 : (Cond.code ⟨"PlanClausesModel", "codesEffects", "(II)V"⟩ prog_10_method_41_code (5) (Option.none : Option Jvm.ClassFile.FieldType)) ∈ q_tbl := q_mem (List.mem_of_getElem? (i := 937) rfl) rfl
set_option maxRecDepth 20000 in
theorem k_895 : (Cond.methodLink "PlanClausesModel" (187) ⟨"PlanClausesModel", "codesFrames", "(II)V"⟩) ∈ q_tbl := q_mem (List.mem_of_getElem? (i := 938) rfl) rfl
set_option maxRecDepth 20000 in
theorem k_897 : (Cond.instanceMethod ⟨"PlanClausesModel", "codesFrames", "(II)V"⟩) ∈ q_tbl := q_mem (List.mem_of_getElem? (i := 940) rfl) rfl
set_option maxRecDepth 20000 in
theorem k_898 : (Cond.code ⟨"PlanClausesModel", "codesFrames", "(II)V"⟩ prog_10_method_42_code (5) (Option.none : Option Jvm.ClassFile.FieldType)) ∈ q_tbl := q_mem (List.mem_of_getElem? (i := 941) rfl) rfl
set_option maxRecDepth 20000 in
theorem k_900 : (Cond.instanceMethod ⟨"PlanClausesModel", "coded", "(III)I"⟩) ∈ q_tbl := q_mem (List.mem_of_getElem? (i := 943) rfl) rfl
set_option maxRecDepth 20000 in
theorem k_901 : (Cond.selects "PlanClausesModel" ⟨"PlanClausesModel", "coded", "(III)I"⟩ ⟨"PlanClausesModel", "coded", "(III)I"⟩) ∈ q_tbl := q_mem (List.mem_of_getElem? (i := 944) rfl) rfl
set_option maxRecDepth 20000 in
theorem k_902 : (Cond.code ⟨"PlanClausesModel", "coded", "(III)I"⟩ prog_10_method_46_code (4) (Option.some Jvm.ClassFile.FieldType.int)) ∈ q_tbl := q_mem (List.mem_of_getElem? (i := 945) rfl) rfl
set_option maxRecDepth 20000 in
theorem k_904 : (Cond.instanceMethod ⟨"PlanClausesModel", "count", "(I)I"⟩) ∈ q_tbl := q_mem (List.mem_of_getElem? (i := 947) rfl) rfl
set_option maxRecDepth 20000 in
theorem k_905 : (Cond.selects "PlanClausesModel" ⟨"PlanClausesModel", "count", "(I)I"⟩ ⟨"PlanClausesModel", "count", "(I)I"⟩) ∈ q_tbl := q_mem (List.mem_of_getElem? (i := 948) rfl) rfl
set_option maxRecDepth 20000 in
theorem k_906 : (Cond.code ⟨"PlanClausesModel", "count", "(I)I"⟩ prog_10_method_47_code (2) (Option.some Jvm.ClassFile.FieldType.int)) ∈ q_tbl := q_mem (List.mem_of_getElem? (i := 949) rfl) rfl
