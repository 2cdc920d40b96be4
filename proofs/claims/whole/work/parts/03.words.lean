/-! ===== the words that hold at every state of the run; the nest mates' links ===== -/
def gw : List Cond := lw_tbl.filter goodWord
theorem gwm {w : Cond} (i : Nat) (h : lw_tbl[i]? = some w) (hg : goodWord w = true) : w ∈ gw := List.mem_filter.mpr ⟨List.mem_of_getElem? h, hg⟩
theorem gw_good {ws : List Cond} (h : ∀ w ∈ ws, w ∈ gw) : GoodIn gw ws := fun w hw => ⟨h w hw, good_of_word (List.mem_filter.mp (h w hw)).2⟩
theorem tw_0 : Cond.selects RX2 yX2_advance yX2_advance ∈ gw := gwm 0 (by decide +kernel) rfl
theorem tw_1 : Cond.selects RX2 yX2_isDigitAt yX2_isDigitAt ∈ gw := gwm 1 (by decide +kernel) rfl
theorem tw_2 : Cond.selects RX2 yX2_readNode yX2_readNode ∈ gw := gwm 2 (by decide +kernel) rfl
theorem tw_3 : Cond.selects RX2 yX2_isDigit yX2_isDigit ∈ gw := gwm 3 (by decide +kernel) rfl
theorem tw_4 : Cond.selects RX2 yX2_isTag yX2_isTag ∈ gw := gwm 4 (by decide +kernel) rfl
theorem tw_5 : Cond.selects RX2 yX2_isClass yX2_isClass ∈ gw := gwm 5 (by decide +kernel) rfl
theorem tw_6 : Cond.selects RX2 yX2_take yX2_take ∈ gw := gwm 6 (by decide +kernel) rfl
theorem tw_7 : Cond.selects RX2 yX2_readRule yX2_readRule ∈ gw := gwm 7 (by decide +kernel) rfl
theorem tw_8 : Cond.selects RX2 yX2_readSelector yX2_readSelector ∈ gw := gwm 8 (by decide +kernel) rfl
theorem tw_9 : Cond.selects RX2 yX2_readCompound yX2_readCompound ∈ gw := gwm 9 (by decide +kernel) rfl
theorem tw_10 : Cond.selects RX2 yX2_isJoint yX2_isJoint ∈ gw := gwm 10 (by decide +kernel) rfl
theorem tw_11 : Cond.selects RX2 yX2_readDeclarations yX2_readDeclarations ∈ gw := gwm 11 (by decide +kernel) rfl
theorem tw_12 : Cond.selects RX2 yX2_readDeclaration yX2_readDeclaration ∈ gw := gwm 12 (by decide +kernel) rfl
theorem tw_13 : Cond.selects RX2 yX2_isProperty yX2_isProperty ∈ gw := gwm 13 (by decide +kernel) rfl
theorem tw_14 : Cond.selects RX3 yX3_level yX3_level ∈ gw := gwm 14 (by decide +kernel) rfl
theorem tw_15 : Cond.selects RX7 yX7_refresh yX7_refresh ∈ gw := gwm 15 (by decide +kernel) rfl
theorem tw_16 : Cond.selects RX4 yX4_under yX4_under ∈ gw := gwm 16 (by decide +kernel) rfl
theorem tw_17 : Cond.selects RX6 yX6_noteRule yX6_noteRule ∈ gw := gwm 17 (by decide +kernel) rfl
theorem tw_18 : Cond.selects RX6 yX6_settle yX6_settle ∈ gw := gwm 18 (by decide +kernel) rfl
theorem tw_19 : Cond.selects RX6 yX6_styleOf yX6_styleOf ∈ gw := gwm 19 (by decide +kernel) rfl
theorem tw_20 : Cond.selects RX7 yX7_perform yX7_perform ∈ gw := gwm 20 (by decide +kernel) rfl
theorem tw_21 : Cond.selects RX1 yX1_putTag yX1_putTag ∈ gw := gwm 21 (by decide +kernel) rfl
theorem tw_22 : Cond.selects RX1 yX1_flipClass yX1_flipClass ∈ gw := gwm 22 (by decide +kernel) rfl
theorem tw_23 : Cond.selects RX7 yX7_isPlace yX7_isPlace ∈ gw := gwm 23 (by decide +kernel) rfl
theorem tw_24 : Cond.selects RX4 yX4_lookedAtBy yX4_lookedAtBy ∈ gw := gwm 24 (by decide +kernel) rfl
theorem tw_25 : Cond.selects RX7 yX7_tryOut yX7_tryOut ∈ gw := gwm 25 (by decide +kernel) rfl
theorem tw_26 : Cond.selects RX7 yX7_gatherAnswers yX7_gatherAnswers ∈ gw := gwm 26 (by decide +kernel) rfl
theorem tw_27 : Cond.selects RX7 yX7_addAnswers yX7_addAnswers ∈ gw := gwm 27 (by decide +kernel) rfl
theorem tw_28 : Cond.selects RX8 yX8_begins yX8_begins ∈ gw := gwm 28 (by decide +kernel) rfl
theorem tw_29 : Cond.selects RX8 yX8_settles yX8_settles ∈ gw := gwm 29 (by decide +kernel) rfl
theorem tw_30 : Cond.selects RX8 yX8_advances yX8_advances ∈ gw := gwm 30 (by decide +kernel) rfl
theorem tw_31 : Cond.selects RX8 yX8_letterAt yX8_letterAt ∈ gw := gwm 31 (by decide +kernel) rfl
theorem tw_32 : Cond.selects RX8 yX8_isWell yX8_isWell ∈ gw := gwm 32 (by decide +kernel) rfl
theorem tw_33 : Cond.selects RX8 yX8_isThis yX8_isThis ∈ gw := gwm 33 (by decide +kernel) rfl
theorem tw_34 : Cond.selects RX8 yX8_takes yX8_takes ∈ gw := gwm 34 (by decide +kernel) rfl
theorem tw_35 : Cond.selects RX8 yX8_readsNode yX8_readsNode ∈ gw := gwm 35 (by decide +kernel) rfl
theorem tw_36 : Cond.selects RX8 yX8_isFrom yX8_isFrom ∈ gw := gwm 36 (by decide +kernel) rfl
theorem tw_37 : Cond.selects RX8 yX8_readsRule yX8_readsRule ∈ gw := gwm 37 (by decide +kernel) rfl
theorem tw_38 : Cond.selects RX8 yX8_readsCompound yX8_readsCompound ∈ gw := gwm 38 (by decide +kernel) rfl
theorem tw_39 : Cond.selects RX8 yX8_readsDeclarations yX8_readsDeclarations ∈ gw := gwm 39 (by decide +kernel) rfl
theorem tw_40 : Cond.selects RX8 yX8_isNode yX8_isNode ∈ gw := gwm 40 (by decide +kernel) rfl
theorem tw_41 : Cond.selects RX8 yX8_fills yX8_fills ∈ gw := gwm 41 (by decide +kernel) rfl
theorem tw_42 : Cond.selects RX8 yX8_matching yX8_matching ∈ gw := gwm 42 (by decide +kernel) rfl
theorem tw_43 : Cond.selects RX8 yX8_fits yX8_fits ∈ gw := gwm 43 (by decide +kernel) rfl
theorem tw_44 : Cond.selects RX8 yX8_rulesOf yX8_rulesOf ∈ gw := gwm 44 (by decide +kernel) rfl
theorem tw_45 : Cond.selects RX8 yX8_recordOf yX8_recordOf ∈ gw := gwm 45 (by decide +kernel) rfl
theorem tw_46 : Cond.selects RX8 yX8_isLike yX8_isLike ∈ gw := gwm 46 (by decide +kernel) rfl
theorem tw_47 : Cond.selects RX8 yX8_valueOf yX8_valueOf ∈ gw := gwm 47 (by decide +kernel) rfl
theorem tw_48 : Cond.selects RX8 yX8_sourceOf yX8_sourceOf ∈ gw := gwm 48 (by decide +kernel) rfl
theorem tw_49 : Cond.selects RX8 yX8_winnerOf yX8_winnerOf ∈ gw := gwm 49 (by decide +kernel) rfl
theorem tw_50 : Cond.selects RX8 yX8_heightOf yX8_heightOf ∈ gw := gwm 50 (by decide +kernel) rfl
theorem tw_51 : Cond.selects RX8 yX8_specific yX8_specific ∈ gw := gwm 51 (by decide +kernel) rfl
theorem tw_52 : Cond.selects RX8 yX8_below yX8_below ∈ gw := gwm 52 (by decide +kernel) rfl
theorem tw_53 : Cond.selects RX8 yX8_isRule yX8_isRule ∈ gw := gwm 53 (by decide +kernel) rfl
theorem tw_54 : Cond.selects RX8 yX8_notes yX8_notes ∈ gw := gwm 54 (by decide +kernel) rfl
theorem tw_55 : Cond.selects RX8 yX8_lookedAt yX8_lookedAt ∈ gw := gwm 55 (by decide +kernel) rfl
theorem tw_56 : Cond.selects RX8 yX8_different yX8_different ∈ gw := gwm 56 (by decide +kernel) rfl
theorem tw_57 : Cond.selects RX8 yX8_valueBy yX8_valueBy ∈ gw := gwm 57 (by decide +kernel) rfl
theorem tw_58 : Cond.selects RX8 yX8_unseenSet yX8_unseenSet ∈ gw := gwm 58 (by decide +kernel) rfl
theorem tw_59 : Cond.selects RX8 yX8_styles yX8_styles ∈ gw := gwm 59 (by decide +kernel) rfl
theorem tw_60 : Cond.initialized RL ∈ gw := gwm 60 (by decide +kernel) rfl
theorem tw_61 : Cond.initialized RX7 ∈ gw := gwm 61 (by decide +kernel) rfl
theorem tw_62 : Cond.initialized RX2 ∈ gw := gwm 62 (by decide +kernel) rfl
theorem tw_63 : Cond.initialized RX4 ∈ gw := gwm 63 (by decide +kernel) rfl
theorem tw_64 : Cond.initialized RX1 ∈ gw := gwm 64 (by decide +kernel) rfl
theorem tw_65 : Cond.initialized RX3 ∈ gw := gwm 65 (by decide +kernel) rfl
theorem tw_66 : Cond.initialized RX6 ∈ gw := gwm 66 (by decide +kernel) rfl
theorem tw_67 : Cond.initialized RX0 ∈ gw := gwm 67 (by decide +kernel) rfl
theorem tw_68 : Cond.initialized RX5 ∈ gw := gwm 68 (by decide +kernel) rfl
theorem tw_69 : Cond.initialized RX8 ∈ gw := gwm 69 (by decide +kernel) rfl
theorem tw_70 : Cond.initialized RJ9 ∈ gw := gwm 70 (by decide +kernel) rfl
theorem tw_71 : Cond.initialized RJ6 ∈ gw := gwm 71 (by decide +kernel) rfl
theorem tw_72 : Cond.initialized RJ10 ∈ gw := gwm 72 (by decide +kernel) rfl
theorem tw_73 : Cond.classLink RL 7 RX7 ∈ gw := gwm 73 (by decide +kernel) rfl
theorem tw_74 : Cond.instantiable RX7 13 ∈ gw := gwm 74 (by decide +kernel) rfl
theorem tw_75 : Cond.methodLink RL 9 yX7_init ∈ gw := gwm 75 (by decide +kernel) rfl
theorem tw_76 : Cond.instanceMethod yX7_init ∈ gw := gwm 76 (by decide +kernel) rfl
theorem tw_77 : Cond.code yX7_init cX7_init 2 none ∈ gw := gwm 77 (by decide +kernel) rfl
theorem tw_78 : Cond.methodLink RX7 1 objectInit ∈ gw := gwm 78 (by decide +kernel) rfl
theorem tw_79 : Cond.instanceMethod objectInit ∈ gw := gwm 79 (by decide +kernel) rfl
theorem tw_80 : Cond.code objectInit ⟨#[0xb1]⟩ 1 none ∈ gw := gwm 80 (by decide +kernel) rfl
theorem tw_81 : Cond.classLink RX7 17 RX2 ∈ gw := gwm 81 (by decide +kernel) rfl
theorem tw_82 : Cond.instantiable RX2 6 ∈ gw := gwm 82 (by decide +kernel) rfl
theorem tw_84 : Cond.instanceMethod yX2_init ∈ gw := gwm 84 (by decide +kernel) rfl
theorem tw_85 : Cond.code yX2_init cX2_init 1 none ∈ gw := gwm 85 (by decide +kernel) rfl
theorem tw_86 : Cond.methodLink RX2 3 objectInit ∈ gw := gwm 86 (by decide +kernel) rfl
theorem tw_87 : Cond.classLink RX2 28 RX4 ∈ gw := gwm 87 (by decide +kernel) rfl
theorem tw_88 : Cond.instantiable RX4 6 ∈ gw := gwm 88 (by decide +kernel) rfl
theorem tw_89 : Cond.methodLink RX2 30 yX4_init ∈ gw := gwm 89 (by decide +kernel) rfl
theorem tw_90 : Cond.instanceMethod yX4_init ∈ gw := gwm 90 (by decide +kernel) rfl
theorem tw_91 : Cond.code yX4_init cX4_init 2 none ∈ gw := gwm 91 (by decide +kernel) rfl
theorem tw_92 : Cond.methodLink RX4 3 objectInit ∈ gw := gwm 92 (by decide +kernel) rfl
theorem tw_93 : Cond.classLink RX4 25 RX1 ∈ gw := gwm 93 (by decide +kernel) rfl
theorem tw_94 : Cond.instantiable RX1 3 ∈ gw := gwm 94 (by decide +kernel) rfl
theorem tw_96 : Cond.instanceMethod yX1_init ∈ gw := gwm 96 (by decide +kernel) rfl
theorem tw_97 : Cond.code yX1_init cX1_init 1 none ∈ gw := gwm 97 (by decide +kernel) rfl
theorem tw_98 : Cond.methodLink RX1 3 objectInit ∈ gw := gwm 98 (by decide +kernel) rfl
theorem tw_99 : Cond.fieldLink RX1 9 "StyleTree$Look" "tags" "[I" ∈ gw := gwm 99 (by decide +kernel) rfl
theorem tw_100 : Cond.fieldLink RX4 46 "StyleTree$Look" "tags" "[I" ∈ gw := gwm 100 (by decide +kernel) rfl
theorem tw_101 : Cond.fieldLink RX7 112 "StyleTree$Look" "tags" "[I" ∈ gw := gwm 101 (by decide +kernel) rfl
theorem tw_102 : Cond.fieldLink RX1 15 "StyleTree$Look" "classes" "[I" ∈ gw := gwm 102 (by decide +kernel) rfl
theorem tw_103 : Cond.fieldLink RX4 49 "StyleTree$Look" "classes" "[I" ∈ gw := gwm 103 (by decide +kernel) rfl
theorem tw_104 : Cond.fieldLink RX7 115 "StyleTree$Look" "classes" "[I" ∈ gw := gwm 104 (by decide +kernel) rfl
theorem tw_105 : Cond.fieldLink RX1 18 "StyleTree$Look" "on" "I" ∈ gw := gwm 105 (by decide +kernel) rfl
theorem tw_106 : Cond.fieldLink RX4 39 "StyleTree$Look" "on" "I" ∈ gw := gwm 106 (by decide +kernel) rfl
theorem tw_107 : Cond.fieldLink RX7 226 "StyleTree$Look" "on" "I" ∈ gw := gwm 107 (by decide +kernel) rfl
theorem tw_115 : Cond.arrayClass .char ∈ gw := gwm 115 (by decide +kernel) rfl
theorem tw_116 : Cond.arrayClass .int ∈ gw := gwm 116 (by decide +kernel) rfl
theorem tw_117 : Cond.classLink RX4 32 RX3 ∈ gw := gwm 117 (by decide +kernel) rfl
theorem tw_119 : Cond.instantiable RX3 10 ∈ gw := gwm 119 (by decide +kernel) rfl
theorem tw_121 : Cond.instanceMethod yX3_init ∈ gw := gwm 121 (by decide +kernel) rfl
theorem tw_122 : Cond.code yX3_init cX3_init 1 none ∈ gw := gwm 122 (by decide +kernel) rfl
theorem tw_123 : Cond.methodLink RX3 3 objectInit ∈ gw := gwm 123 (by decide +kernel) rfl
theorem tw_124 : Cond.fieldLink RX3 28 "StyleTree$Rule" "user" "Z" ∈ gw := gwm 124 (by decide +kernel) rfl
theorem tw_125 : Cond.fieldLink RX7 135 "StyleTree$Rule" "user" "Z" ∈ gw := gwm 125 (by decide +kernel) rfl
theorem tw_126 : Cond.fieldLink RX3 32 "StyleTree$Rule" "compounds" "I" ∈ gw := gwm 126 (by decide +kernel) rfl
theorem tw_127 : Cond.fieldLink RX7 141 "StyleTree$Rule" "compounds" "I" ∈ gw := gwm 127 (by decide +kernel) rfl
theorem tw_128 : Cond.fieldLink RX4 63 "StyleTree$Rule" "compounds" "I" ∈ gw := gwm 128 (by decide +kernel) rfl
theorem tw_129 : Cond.fieldLink RX3 36 "StyleTree$Rule" "specific" "I" ∈ gw := gwm 129 (by decide +kernel) rfl
theorem tw_130 : Cond.fieldLink RX7 144 "StyleTree$Rule" "specific" "I" ∈ gw := gwm 130 (by decide +kernel) rfl
theorem tw_131 : Cond.fieldLink RX3 39 "StyleTree$Rule" "declared" "I" ∈ gw := gwm 131 (by decide +kernel) rfl
theorem tw_132 : Cond.fieldLink RX7 147 "StyleTree$Rule" "declared" "I" ∈ gw := gwm 132 (by decide +kernel) rfl
theorem tw_133 : Cond.fieldLink RX4 74 "StyleTree$Rule" "declared" "I" ∈ gw := gwm 133 (by decide +kernel) rfl
theorem tw_134 : Cond.fieldLink RX2 121 "StyleTree$Rule" "declared" "I" ∈ gw := gwm 134 (by decide +kernel) rfl
theorem tw_135 : Cond.fieldLink RX3 42 "StyleTree$Rule" "strong" "I" ∈ gw := gwm 135 (by decide +kernel) rfl
theorem tw_136 : Cond.fieldLink RX7 150 "StyleTree$Rule" "strong" "I" ∈ gw := gwm 136 (by decide +kernel) rfl
theorem tw_137 : Cond.fieldLink RX3 9 "StyleTree$Rule" "tags" "[I" ∈ gw := gwm 137 (by decide +kernel) rfl
theorem tw_138 : Cond.fieldLink RX3 15 "StyleTree$Rule" "classes" "[I" ∈ gw := gwm 138 (by decide +kernel) rfl
theorem tw_139 : Cond.fieldLink RX4 88 "StyleTree$Rule" "classes" "[I" ∈ gw := gwm 139 (by decide +kernel) rfl
theorem tw_140 : Cond.fieldLink RX3 18 "StyleTree$Rule" "isChild" "[Z" ∈ gw := gwm 140 (by decide +kernel) rfl
theorem tw_141 : Cond.fieldLink RX4 66 "StyleTree$Rule" "isChild" "[Z" ∈ gw := gwm 141 (by decide +kernel) rfl
theorem tw_142 : Cond.fieldLink RX3 22 "StyleTree$Rule" "values" "[I" ∈ gw := gwm 142 (by decide +kernel) rfl
theorem tw_143 : Cond.fieldLink RX6 70 "StyleTree$Rule" "values" "[I" ∈ gw := gwm 143 (by decide +kernel) rfl
theorem tw_144 : Cond.fieldLink RX3 25 "StyleTree$Rule" "weights" "[I" ∈ gw := gwm 144 (by decide +kernel) rfl
theorem tw_145 : Cond.fieldLink RX4 77 "StyleTree$Rule" "weights" "[I" ∈ gw := gwm 145 (by decide +kernel) rfl
theorem tw_167 : Cond.arrayClass .boolean ∈ gw := gwm 167 (by decide +kernel) rfl
theorem tw_168 : Cond.fieldLink RX4 9 "StyleTree$Sheet" "nodes" "I" ∈ gw := gwm 168 (by decide +kernel) rfl
theorem tw_169 : Cond.fieldLink RX6 28 "StyleTree$Sheet" "nodes" "I" ∈ gw := gwm 169 (by decide +kernel) rfl
theorem tw_170 : Cond.fieldLink RX7 106 "StyleTree$Sheet" "nodes" "I" ∈ gw := gwm 170 (by decide +kernel) rfl
theorem tw_171 : Cond.fieldLink RX2 58 "StyleTree$Sheet" "nodes" "I" ∈ gw := gwm 171 (by decide +kernel) rfl
theorem tw_172 : Cond.fieldLink RX4 15 "StyleTree$Sheet" "rules" "I" ∈ gw := gwm 172 (by decide +kernel) rfl
theorem tw_173 : Cond.fieldLink RX6 31 "StyleTree$Sheet" "rules" "I" ∈ gw := gwm 173 (by decide +kernel) rfl
theorem tw_174 : Cond.fieldLink RX7 128 "StyleTree$Sheet" "rules" "I" ∈ gw := gwm 174 (by decide +kernel) rfl
theorem tw_175 : Cond.fieldLink RX2 77 "StyleTree$Sheet" "rules" "I" ∈ gw := gwm 175 (by decide +kernel) rfl
theorem tw_176 : Cond.fieldLink RX4 18 "StyleTree$Sheet" "parents" "[I" ∈ gw := gwm 176 (by decide +kernel) rfl
theorem tw_177 : Cond.fieldLink RX6 64 "StyleTree$Sheet" "parents" "[I" ∈ gw := gwm 177 (by decide +kernel) rfl
theorem tw_178 : Cond.fieldLink RX7 109 "StyleTree$Sheet" "parents" "[I" ∈ gw := gwm 178 (by decide +kernel) rfl
theorem tw_179 : Cond.fieldLink RX4 22 "StyleTree$Sheet" "above" "[I" ∈ gw := gwm 179 (by decide +kernel) rfl
theorem tw_180 : Cond.fieldLink RX4 28 "StyleTree$Sheet" "told" "LStyleTree$Look;" ∈ gw := gwm 180 (by decide +kernel) rfl
theorem tw_181 : Cond.fieldLink RX7 92 "StyleTree$Sheet" "told" "LStyleTree$Look;" ∈ gw := gwm 181 (by decide +kernel) rfl
theorem tw_182 : Cond.fieldLink RX4 34 "StyleTree$Sheet" "rows" "[LStyleTree$Rule;" ∈ gw := gwm 182 (by decide +kernel) rfl
theorem tw_183 : Cond.fieldLink RX6 40 "StyleTree$Sheet" "rows" "[LStyleTree$Rule;" ∈ gw := gwm 183 (by decide +kernel) rfl
theorem tw_184 : Cond.fieldLink RX7 131 "StyleTree$Sheet" "rows" "[LStyleTree$Rule;" ∈ gw := gwm 184 (by decide +kernel) rfl
theorem tw_185 : Cond.fieldLink RX2 84 "StyleTree$Sheet" "rows" "[LStyleTree$Rule;" ∈ gw := gwm 185 (by decide +kernel) rfl
theorem tw_199 : Cond.fieldLink RX2 9 "StyleTree$Reader" "letters" "[C" ∈ gw := gwm 199 (by decide +kernel) rfl
theorem tw_200 : Cond.fieldLink RX2 15 "StyleTree$Reader" "length" "I" ∈ gw := gwm 200 (by decide +kernel) rfl
theorem tw_201 : Cond.fieldLink RX2 19 "StyleTree$Reader" "next" "I" ∈ gw := gwm 201 (by decide +kernel) rfl
theorem tw_202 : Cond.fieldLink RX2 22 "StyleTree$Reader" "start" "I" ∈ gw := gwm 202 (by decide +kernel) rfl
theorem tw_203 : Cond.fieldLink RX2 25 "StyleTree$Reader" "token" "I" ∈ gw := gwm 203 (by decide +kernel) rfl
theorem tw_204 : Cond.fieldLink RX2 31 "StyleTree$Reader" "sheet" "LStyleTree$Sheet;" ∈ gw := gwm 204 (by decide +kernel) rfl
theorem tw_218 : Cond.classLink RX7 24 RX4 ∈ gw := gwm 218 (by decide +kernel) rfl
theorem tw_219 : Cond.methodLink RX7 26 yX4_init ∈ gw := gwm 219 (by decide +kernel) rfl
theorem tw_220 : Cond.classLink RX7 31 RX1 ∈ gw := gwm 220 (by decide +kernel) rfl
theorem tw_222 : Cond.classLink RX7 41 RX6 ∈ gw := gwm 222 (by decide +kernel) rfl
theorem tw_223 : Cond.instantiable RX6 5 ∈ gw := gwm 223 (by decide +kernel) rfl
theorem tw_225 : Cond.instanceMethod yX6_init ∈ gw := gwm 225 (by decide +kernel) rfl
theorem tw_226 : Cond.code yX6_init cX6_init 1 none ∈ gw := gwm 226 (by decide +kernel) rfl
theorem tw_227 : Cond.methodLink RX6 3 objectInit ∈ gw := gwm 227 (by decide +kernel) rfl
theorem tw_228 : Cond.fieldLink RX6 9 "StyleTree$Styles" "nodes" "I" ∈ gw := gwm 228 (by decide +kernel) rfl
theorem tw_229 : Cond.fieldLink RX6 15 "StyleTree$Styles" "nodesOfRule" "[I" ∈ gw := gwm 229 (by decide +kernel) rfl
theorem tw_230 : Cond.fieldLink RX6 19 "StyleTree$Styles" "rulesOfNode" "[I" ∈ gw := gwm 230 (by decide +kernel) rfl
theorem tw_231 : Cond.fieldLink RX6 22 "StyleTree$Styles" "values" "[I" ∈ gw := gwm 231 (by decide +kernel) rfl
theorem tw_232 : Cond.fieldLink RX6 25 "StyleTree$Styles" "sources" "[I" ∈ gw := gwm 232 (by decide +kernel) rfl
theorem tw_244 : Cond.classLink RX7 51 RX0 ∈ gw := gwm 244 (by decide +kernel) rfl
theorem tw_245 : Cond.instantiable RX0 2 ∈ gw := gwm 245 (by decide +kernel) rfl
theorem tw_247 : Cond.instanceMethod yX0_init ∈ gw := gwm 247 (by decide +kernel) rfl
theorem tw_248 : Cond.code yX0_init cX0_init 1 none ∈ gw := gwm 248 (by decide +kernel) rfl
theorem tw_249 : Cond.methodLink RX0 3 objectInit ∈ gw := gwm 249 (by decide +kernel) rfl
theorem tw_250 : Cond.fieldLink RX0 9 "StyleTree$History" "remedies" "[I" ∈ gw := gwm 250 (by decide +kernel) rfl
theorem tw_251 : Cond.fieldLink RX0 15 "StyleTree$History" "size" "I" ∈ gw := gwm 251 (by decide +kernel) rfl
theorem tw_252 : Cond.fieldLink RX7 171 "StyleTree$History" "size" "I" ∈ gw := gwm 252 (by decide +kernel) rfl
theorem tw_258 : Cond.classLink RX7 58 RX5 ∈ gw := gwm 258 (by decide +kernel) rfl
theorem tw_259 : Cond.instantiable RX5 4 ∈ gw := gwm 259 (by decide +kernel) rfl
theorem tw_261 : Cond.instanceMethod yX5_init ∈ gw := gwm 261 (by decide +kernel) rfl
theorem tw_262 : Cond.code yX5_init cX5_init 1 none ∈ gw := gwm 262 (by decide +kernel) rfl
theorem tw_263 : Cond.methodLink RX5 3 objectInit ∈ gw := gwm 263 (by decide +kernel) rfl
theorem tw_264 : Cond.fieldLink RX5 9 "StyleTree$Sightings" "nodes" "[I" ∈ gw := gwm 264 (by decide +kernel) rfl
theorem tw_265 : Cond.fieldLink RX5 15 "StyleTree$Sightings" "properties" "[I" ∈ gw := gwm 265 (by decide +kernel) rfl
theorem tw_266 : Cond.fieldLink RX5 18 "StyleTree$Sightings" "values" "[I" ∈ gw := gwm 266 (by decide +kernel) rfl
theorem tw_267 : Cond.fieldLink RX5 21 "StyleTree$Sightings" "size" "I" ∈ gw := gwm 267 (by decide +kernel) rfl
theorem tw_268 : Cond.fieldLink RX7 207 "StyleTree$Sightings" "size" "I" ∈ gw := gwm 268 (by decide +kernel) rfl
theorem tw_279 : Cond.fieldLink RX7 9 "StyleTree" "letters" "[C" ∈ gw := gwm 279 (by decide +kernel) rfl
theorem tw_280 : Cond.fieldLink RX7 13 "StyleTree" "length" "I" ∈ gw := gwm 280 (by decide +kernel) rfl
theorem tw_281 : Cond.fieldLink RX7 20 "StyleTree" "reader" "LStyleTree$Reader;" ∈ gw := gwm 281 (by decide +kernel) rfl
theorem tw_282 : Cond.fieldLink RX7 27 "StyleTree" "sheet" "LStyleTree$Sheet;" ∈ gw := gwm 282 (by decide +kernel) rfl
theorem tw_283 : Cond.fieldLink RX7 34 "StyleTree" "look" "LStyleTree$Look;" ∈ gw := gwm 283 (by decide +kernel) rfl
theorem tw_284 : Cond.fieldLink RX7 38 "StyleTree" "trial" "LStyleTree$Look;" ∈ gw := gwm 284 (by decide +kernel) rfl
theorem tw_285 : Cond.fieldLink RX7 44 "StyleTree" "now" "LStyleTree$Styles;" ∈ gw := gwm 285 (by decide +kernel) rfl
theorem tw_286 : Cond.fieldLink RX7 48 "StyleTree" "then" "LStyleTree$Styles;" ∈ gw := gwm 286 (by decide +kernel) rfl
theorem tw_287 : Cond.fieldLink RX7 54 "StyleTree" "history" "LStyleTree$History;" ∈ gw := gwm 287 (by decide +kernel) rfl
theorem tw_288 : Cond.fieldLink RX7 61 "StyleTree" "sightings" "LStyleTree$Sightings;" ∈ gw := gwm 288 (by decide +kernel) rfl
theorem tw_289 : Cond.fieldLink RX7 65 "StyleTree" "images" "[LStyleTree$Look;" ∈ gw := gwm 289 (by decide +kernel) rfl
theorem tw_290 : Cond.fieldLink RX7 69 "StyleTree" "keptImages" "I" ∈ gw := gwm 290 (by decide +kernel) rfl
theorem tw_291 : Cond.fieldLink RX7 72 "StyleTree" "answers" "[I" ∈ gw := gwm 291 (by decide +kernel) rfl
theorem tw_319 : Cond.methodLink RL 13 yX7_type ∈ gw := gwm 319 (by decide +kernel) rfl
theorem tw_320 : Cond.instanceMethod yX7_type ∈ gw := gwm 320 (by decide +kernel) rfl
theorem tw_321 : Cond.selects RX7 yX7_type yX7_type ∈ gw := gwm 321 (by decide +kernel) rfl
theorem tw_322 : Cond.code yX7_type cX7_type 2 (some .int) ∈ gw := gwm 322 (by decide +kernel) rfl
theorem tw_323 : Cond.methodLink RX7 76 yX7_within ∈ gw := gwm 323 (by decide +kernel) rfl
theorem tw_324 : Cond.static yX7_within ∈ gw := gwm 324 (by decide +kernel) rfl
theorem tw_325 : Cond.code yX7_within cX7_within 2 (some .boolean) ∈ gw := gwm 325 (by decide +kernel) rfl
theorem tw_326 : Cond.methodLink RL 18 yX7_clear ∈ gw := gwm 326 (by decide +kernel) rfl
theorem tw_327 : Cond.instanceMethod yX7_clear ∈ gw := gwm 327 (by decide +kernel) rfl
theorem tw_328 : Cond.selects RX7 yX7_clear yX7_clear ∈ gw := gwm 328 (by decide +kernel) rfl
theorem tw_329 : Cond.code yX7_clear cX7_clear 2 (some .int) ∈ gw := gwm 329 (by decide +kernel) rfl
theorem tw_330 : Cond.methodLink RL 23 yX7_page ∈ gw := gwm 330 (by decide +kernel) rfl
theorem tw_331 : Cond.instanceMethod yX7_page ∈ gw := gwm 331 (by decide +kernel) rfl
theorem tw_332 : Cond.selects RX7 yX7_page yX7_page ∈ gw := gwm 332 (by decide +kernel) rfl
theorem tw_333 : Cond.code yX7_page cX7_page 2 (some .int) ∈ gw := gwm 333 (by decide +kernel) rfl
theorem tw_334 : Cond.methodLink RX7 80 yX2_readAll ∈ gw := gwm 334 (by decide +kernel) rfl
theorem tw_335 : Cond.instanceMethod yX2_readAll ∈ gw := gwm 335 (by decide +kernel) rfl
theorem tw_336 : Cond.selects RX2 yX2_readAll yX2_readAll ∈ gw := gwm 336 (by decide +kernel) rfl
theorem tw_337 : Cond.code yX2_readAll cX2_readAll 5 (some .int) ∈ gw := gwm 337 (by decide +kernel) rfl
theorem tw_338 : Cond.methodLink RX2 35 yJ9_min_7cf53 ∈ gw := gwm 338 (by decide +kernel) rfl
theorem tw_339 : Cond.static yJ9_min_7cf53 ∈ gw := gwm 339 (by decide +kernel) rfl
theorem tw_340 : Cond.code yJ9_min_7cf53 cJ9_min_7cf53 2 (some .int) ∈ gw := gwm 340 (by decide +kernel) rfl
theorem tw_341 : Cond.methodLink RX2 41 yX4_empty ∈ gw := gwm 341 (by decide +kernel) rfl
theorem tw_342 : Cond.instanceMethod yX4_empty ∈ gw := gwm 342 (by decide +kernel) rfl
theorem tw_343 : Cond.selects RX4 yX4_empty yX4_empty ∈ gw := gwm 343 (by decide +kernel) rfl
theorem tw_344 : Cond.code yX4_empty cX4_empty 1 none ∈ gw := gwm 344 (by decide +kernel) rfl
theorem tw_345 : Cond.methodLink RX2 44 yX2_advance ∈ gw := gwm 345 (by decide +kernel) rfl
theorem tw_347 : Cond.instanceMethod yX2_advance ∈ gw := gwm 347 (by decide +kernel) rfl
theorem tw_348 : Cond.code yX2_advance cX2_advance 1 none ∈ gw := gwm 348 (by decide +kernel) rfl
theorem tw_349 : Cond.methodLink RX2 54 yX2_isDigitAt ∈ gw := gwm 349 (by decide +kernel) rfl
theorem tw_351 : Cond.instanceMethod yX2_isDigitAt ∈ gw := gwm 351 (by decide +kernel) rfl
theorem tw_352 : Cond.code yX2_isDigitAt cX2_isDigitAt 2 (some .boolean) ∈ gw := gwm 352 (by decide +kernel) rfl
theorem tw_353 : Cond.methodLink RX2 47 yX2_readNode ∈ gw := gwm 353 (by decide +kernel) rfl
theorem tw_355 : Cond.instanceMethod yX2_readNode ∈ gw := gwm 355 (by decide +kernel) rfl
theorem tw_356 : Cond.code yX2_readNode cX2_readNode 6 (some .boolean) ∈ gw := gwm 356 (by decide +kernel) rfl
theorem tw_357 : Cond.methodLink RX2 61 yX2_isDigit ∈ gw := gwm 357 (by decide +kernel) rfl
theorem tw_359 : Cond.instanceMethod yX2_isDigit ∈ gw := gwm 359 (by decide +kernel) rfl
theorem tw_360 : Cond.code yX2_isDigit cX2_isDigit 1 (some .boolean) ∈ gw := gwm 360 (by decide +kernel) rfl
theorem tw_361 : Cond.methodLink RX2 64 yX2_isTag ∈ gw := gwm 361 (by decide +kernel) rfl
theorem tw_363 : Cond.instanceMethod yX2_isTag ∈ gw := gwm 363 (by decide +kernel) rfl
theorem tw_364 : Cond.code yX2_isTag cX2_isTag 1 (some .boolean) ∈ gw := gwm 364 (by decide +kernel) rfl
theorem tw_365 : Cond.methodLink RX2 67 yX2_isClass ∈ gw := gwm 365 (by decide +kernel) rfl
theorem tw_367 : Cond.instanceMethod yX2_isClass ∈ gw := gwm 367 (by decide +kernel) rfl
theorem tw_368 : Cond.code yX2_isClass cX2_isClass 1 (some .boolean) ∈ gw := gwm 368 (by decide +kernel) rfl
theorem tw_369 : Cond.methodLink RX2 70 yX2_take ∈ gw := gwm 369 (by decide +kernel) rfl
theorem tw_371 : Cond.instanceMethod yX2_take ∈ gw := gwm 371 (by decide +kernel) rfl
theorem tw_372 : Cond.code yX2_take cX2_take 2 (some .boolean) ∈ gw := gwm 372 (by decide +kernel) rfl
theorem tw_373 : Cond.methodLink RX2 73 yX4_addNode ∈ gw := gwm 373 (by decide +kernel) rfl
theorem tw_374 : Cond.instanceMethod yX4_addNode ∈ gw := gwm 374 (by decide +kernel) rfl
theorem tw_375 : Cond.selects RX4 yX4_addNode yX4_addNode ∈ gw := gwm 375 (by decide +kernel) rfl
theorem tw_376 : Cond.code yX4_addNode cX4_addNode 4 none ∈ gw := gwm 376 (by decide +kernel) rfl
theorem tw_378 : Cond.methodLink RX2 51 yX2_readRule ∈ gw := gwm 378 (by decide +kernel) rfl
theorem tw_380 : Cond.instanceMethod yX2_readRule ∈ gw := gwm 380 (by decide +kernel) rfl
theorem tw_381 : Cond.code yX2_readRule cX2_readRule 2 (some .boolean) ∈ gw := gwm 381 (by decide +kernel) rfl
theorem tw_383 : Cond.methodLink RX2 88 yX3_begin ∈ gw := gwm 383 (by decide +kernel) rfl
theorem tw_384 : Cond.instanceMethod yX3_begin ∈ gw := gwm 384 (by decide +kernel) rfl
theorem tw_385 : Cond.selects RX3 yX3_begin yX3_begin ∈ gw := gwm 385 (by decide +kernel) rfl
theorem tw_386 : Cond.code yX3_begin cX3_begin 2 none ∈ gw := gwm 386 (by decide +kernel) rfl
theorem tw_387 : Cond.methodLink RX2 94 yX2_readSelector ∈ gw := gwm 387 (by decide +kernel) rfl
theorem tw_389 : Cond.instanceMethod yX2_readSelector ∈ gw := gwm 389 (by decide +kernel) rfl
theorem tw_390 : Cond.code yX2_readSelector cX2_readSelector 4 (some .boolean) ∈ gw := gwm 390 (by decide +kernel) rfl
theorem tw_391 : Cond.methodLink RX2 104 yX2_readCompound ∈ gw := gwm 391 (by decide +kernel) rfl
theorem tw_393 : Cond.instanceMethod yX2_readCompound ∈ gw := gwm 393 (by decide +kernel) rfl
theorem tw_394 : Cond.code yX2_readCompound cX2_readCompound 7 (some .boolean) ∈ gw := gwm 394 (by decide +kernel) rfl
theorem tw_395 : Cond.methodLink RX2 111 yX3_addCompound ∈ gw := gwm 395 (by decide +kernel) rfl
theorem tw_396 : Cond.instanceMethod yX3_addCompound ∈ gw := gwm 396 (by decide +kernel) rfl
theorem tw_397 : Cond.selects RX3 yX3_addCompound yX3_addCompound ∈ gw := gwm 397 (by decide +kernel) rfl
theorem tw_398 : Cond.code yX3_addCompound cX3_addCompound 4 none ∈ gw := gwm 398 (by decide +kernel) rfl
theorem tw_400 : Cond.methodLink RX3 49 yJ6_bitCount_0f7a4 ∈ gw := gwm 400 (by decide +kernel) rfl
theorem tw_401 : Cond.static yJ6_bitCount_0f7a4 ∈ gw := gwm 401 (by decide +kernel) rfl
theorem tw_402 : Cond.code yJ6_bitCount_0f7a4 cJ6_bitCount_0f7a4 1 (some .int) ∈ gw := gwm 402 (by decide +kernel) rfl
theorem tw_403 : Cond.constant RJ6 265 1431655765 ∈ gw := gwm 403 (by decide +kernel) rfl
theorem tw_404 : Cond.constant RJ6 266 858993459 ∈ gw := gwm 404 (by decide +kernel) rfl
theorem tw_405 : Cond.constant RJ6 267 252645135 ∈ gw := gwm 405 (by decide +kernel) rfl
theorem tw_406 : Cond.methodLink RX2 108 yX2_isJoint ∈ gw := gwm 406 (by decide +kernel) rfl
theorem tw_408 : Cond.instanceMethod yX2_isJoint ∈ gw := gwm 408 (by decide +kernel) rfl
theorem tw_409 : Cond.code yX2_isJoint cX2_isJoint 1 (some .boolean) ∈ gw := gwm 409 (by decide +kernel) rfl
theorem tw_410 : Cond.methodLink RX2 98 yX2_readDeclarations ∈ gw := gwm 410 (by decide +kernel) rfl
theorem tw_412 : Cond.instanceMethod yX2_readDeclarations ∈ gw := gwm 412 (by decide +kernel) rfl
theorem tw_413 : Cond.code yX2_readDeclarations cX2_readDeclarations 3 (some .boolean) ∈ gw := gwm 413 (by decide +kernel) rfl
theorem tw_414 : Cond.methodLink RX2 115 yX2_readDeclaration ∈ gw := gwm 414 (by decide +kernel) rfl
theorem tw_416 : Cond.instanceMethod yX2_readDeclaration ∈ gw := gwm 416 (by decide +kernel) rfl
theorem tw_417 : Cond.code yX2_readDeclaration cX2_readDeclaration 4 (some .boolean) ∈ gw := gwm 417 (by decide +kernel) rfl
theorem tw_418 : Cond.methodLink RX2 118 yX2_isProperty ∈ gw := gwm 418 (by decide +kernel) rfl
theorem tw_420 : Cond.instanceMethod yX2_isProperty ∈ gw := gwm 420 (by decide +kernel) rfl
theorem tw_421 : Cond.code yX2_isProperty cX2_isProperty 1 (some .boolean) ∈ gw := gwm 421 (by decide +kernel) rfl
theorem tw_423 : Cond.static yX7_hasBit ∈ gw := gwm 423 (by decide +kernel) rfl
theorem tw_424 : Cond.code yX7_hasBit cX7_hasBit 2 (some .boolean) ∈ gw := gwm 424 (by decide +kernel) rfl
theorem tw_425 : Cond.methodLink RX2 127 yX3_declare ∈ gw := gwm 425 (by decide +kernel) rfl
theorem tw_426 : Cond.instanceMethod yX3_declare ∈ gw := gwm 426 (by decide +kernel) rfl
theorem tw_427 : Cond.selects RX3 yX3_declare yX3_declare ∈ gw := gwm 427 (by decide +kernel) rfl
theorem tw_428 : Cond.code yX3_declare cX3_declare 4 none ∈ gw := gwm 428 (by decide +kernel) rfl
theorem tw_429 : Cond.methodLink RX3 55 yX3_level ∈ gw := gwm 429 (by decide +kernel) rfl
theorem tw_431 : Cond.instanceMethod yX3_level ∈ gw := gwm 431 (by decide +kernel) rfl
theorem tw_432 : Cond.code yX3_level cX3_level 2 (some .int) ∈ gw := gwm 432 (by decide +kernel) rfl
theorem tw_433 : Cond.methodLink RX2 101 yX4_addRule ∈ gw := gwm 433 (by decide +kernel) rfl
theorem tw_434 : Cond.instanceMethod yX4_addRule ∈ gw := gwm 434 (by decide +kernel) rfl
theorem tw_435 : Cond.selects RX4 yX4_addRule yX4_addRule ∈ gw := gwm 435 (by decide +kernel) rfl
theorem tw_436 : Cond.code yX4_addRule cX4_addRule 1 none ∈ gw := gwm 436 (by decide +kernel) rfl
theorem tw_437 : Cond.methodLink RX7 84 yX2_fault ∈ gw := gwm 437 (by decide +kernel) rfl
theorem tw_438 : Cond.instanceMethod yX2_fault ∈ gw := gwm 438 (by decide +kernel) rfl
theorem tw_439 : Cond.selects RX2 yX2_fault yX2_fault ∈ gw := gwm 439 (by decide +kernel) rfl
theorem tw_440 : Cond.code yX2_fault cX2_fault 1 (some .int) ∈ gw := gwm 440 (by decide +kernel) rfl
theorem tw_441 : Cond.methodLink RX7 88 yX2_exchange ∈ gw := gwm 441 (by decide +kernel) rfl
theorem tw_442 : Cond.instanceMethod yX2_exchange ∈ gw := gwm 442 (by decide +kernel) rfl
theorem tw_443 : Cond.selects RX2 yX2_exchange yX2_exchange ∈ gw := gwm 443 (by decide +kernel) rfl
theorem tw_444 : Cond.code yX2_exchange cX2_exchange 3 (some (.object "StyleTree$Sheet")) ∈ gw := gwm 444 (by decide +kernel) rfl
theorem tw_445 : Cond.methodLink RX7 95 yX1_copyFrom ∈ gw := gwm 445 (by decide +kernel) rfl
theorem tw_446 : Cond.instanceMethod yX1_copyFrom ∈ gw := gwm 446 (by decide +kernel) rfl
theorem tw_447 : Cond.selects RX1 yX1_copyFrom yX1_copyFrom ∈ gw := gwm 447 (by decide +kernel) rfl
theorem tw_448 : Cond.code yX1_copyFrom cX1_copyFrom 2 none ∈ gw := gwm 448 (by decide +kernel) rfl
theorem tw_449 : Cond.methodLink RX1 22 arraycopyName ∈ gw := gwm 449 (by decide +kernel) rfl
theorem tw_450 : Cond.static arraycopyName ∈ gw := gwm 450 (by decide +kernel) rfl
theorem tw_451 : Cond.native arraycopyName ∈ gw := gwm 451 (by decide +kernel) rfl
theorem tw_452 : Cond.methodLink RX7 99 yX0_empty ∈ gw := gwm 452 (by decide +kernel) rfl
theorem tw_453 : Cond.instanceMethod yX0_empty ∈ gw := gwm 453 (by decide +kernel) rfl
theorem tw_454 : Cond.selects RX0 yX0_empty yX0_empty ∈ gw := gwm 454 (by decide +kernel) rfl
theorem tw_455 : Cond.code yX0_empty cX0_empty 1 none ∈ gw := gwm 455 (by decide +kernel) rfl
theorem tw_456 : Cond.methodLink RX7 102 yX5_empty ∈ gw := gwm 456 (by decide +kernel) rfl
theorem tw_457 : Cond.instanceMethod yX5_empty ∈ gw := gwm 457 (by decide +kernel) rfl
theorem tw_458 : Cond.selects RX5 yX5_empty yX5_empty ∈ gw := gwm 458 (by decide +kernel) rfl
theorem tw_459 : Cond.code yX5_empty cX5_empty 1 none ∈ gw := gwm 459 (by decide +kernel) rfl
theorem tw_460 : Cond.methodLink RX7 103 yX7_refresh ∈ gw := gwm 460 (by decide +kernel) rfl
theorem tw_462 : Cond.instanceMethod yX7_refresh ∈ gw := gwm 462 (by decide +kernel) rfl
theorem tw_463 : Cond.code yX7_refresh cX7_refresh 1 none ∈ gw := gwm 463 (by decide +kernel) rfl
theorem tw_464 : Cond.methodLink RX7 232 yX6_resolve ∈ gw := gwm 464 (by decide +kernel) rfl
theorem tw_465 : Cond.instanceMethod yX6_resolve ∈ gw := gwm 465 (by decide +kernel) rfl
theorem tw_466 : Cond.selects RX6 yX6_resolve yX6_resolve ∈ gw := gwm 466 (by decide +kernel) rfl
theorem tw_467 : Cond.code yX6_resolve cX6_resolve 5 none ∈ gw := gwm 467 (by decide +kernel) rfl
theorem tw_468 : Cond.methodLink RX6 34 yX1_hasOn ∈ gw := gwm 468 (by decide +kernel) rfl
theorem tw_469 : Cond.instanceMethod yX1_hasOn ∈ gw := gwm 469 (by decide +kernel) rfl
theorem tw_470 : Cond.selects RX1 yX1_hasOn yX1_hasOn ∈ gw := gwm 470 (by decide +kernel) rfl
theorem tw_471 : Cond.code yX1_hasOn cX1_hasOn 2 (some .boolean) ∈ gw := gwm 471 (by decide +kernel) rfl
theorem tw_473 : Cond.methodLink RX6 44 yX4_reached ∈ gw := gwm 473 (by decide +kernel) rfl
theorem tw_474 : Cond.instanceMethod yX4_reached ∈ gw := gwm 474 (by decide +kernel) rfl
theorem tw_475 : Cond.selects RX4 yX4_reached yX4_reached ∈ gw := gwm 475 (by decide +kernel) rfl
theorem tw_476 : Cond.code yX4_reached cX4_reached 5 (some .int) ∈ gw := gwm 476 (by decide +kernel) rfl
theorem tw_477 : Cond.methodLink RX4 59 yX4_fitted ∈ gw := gwm 477 (by decide +kernel) rfl
theorem tw_478 : Cond.instanceMethod yX4_fitted ∈ gw := gwm 478 (by decide +kernel) rfl
theorem tw_479 : Cond.selects RX4 yX4_fitted yX4_fitted ∈ gw := gwm 479 (by decide +kernel) rfl
theorem tw_480 : Cond.code yX4_fitted cX4_fitted 6 (some .int) ∈ gw := gwm 480 (by decide +kernel) rfl
theorem tw_481 : Cond.methodLink RX4 55 yX3_fits ∈ gw := gwm 481 (by decide +kernel) rfl
theorem tw_482 : Cond.instanceMethod yX3_fits ∈ gw := gwm 482 (by decide +kernel) rfl
theorem tw_483 : Cond.selects RX3 yX3_fits yX3_fits ∈ gw := gwm 483 (by decide +kernel) rfl
theorem tw_484 : Cond.code yX3_fits cX3_fits 5 (some .boolean) ∈ gw := gwm 484 (by decide +kernel) rfl
theorem tw_485 : Cond.methodLink RX4 70 yX4_under ∈ gw := gwm 485 (by decide +kernel) rfl
theorem tw_487 : Cond.instanceMethod yX4_under ∈ gw := gwm 487 (by decide +kernel) rfl
theorem tw_488 : Cond.code yX4_under cX4_under 6 (some .int) ∈ gw := gwm 488 (by decide +kernel) rfl
theorem tw_489 : Cond.methodLink RX6 48 yX6_noteRule ∈ gw := gwm 489 (by decide +kernel) rfl
theorem tw_491 : Cond.instanceMethod yX6_noteRule ∈ gw := gwm 491 (by decide +kernel) rfl
theorem tw_492 : Cond.code yX6_noteRule cX6_noteRule 3 none ∈ gw := gwm 492 (by decide +kernel) rfl
theorem tw_494 : Cond.methodLink RX6 52 yX6_settle ∈ gw := gwm 494 (by decide +kernel) rfl
theorem tw_496 : Cond.instanceMethod yX6_settle ∈ gw := gwm 496 (by decide +kernel) rfl
theorem tw_497 : Cond.code yX6_settle cX6_settle 7 none ∈ gw := gwm 497 (by decide +kernel) rfl
theorem tw_498 : Cond.methodLink RX6 60 yX4_strongest ∈ gw := gwm 498 (by decide +kernel) rfl
theorem tw_499 : Cond.instanceMethod yX4_strongest ∈ gw := gwm 499 (by decide +kernel) rfl
theorem tw_500 : Cond.selects RX4 yX4_strongest yX4_strongest ∈ gw := gwm 500 (by decide +kernel) rfl
theorem tw_501 : Cond.code yX4_strongest cX4_strongest 7 (some .int) ∈ gw := gwm 501 (by decide +kernel) rfl
theorem tw_504 : Cond.methodLink RL 27 yX7_node ∈ gw := gwm 504 (by decide +kernel) rfl
theorem tw_505 : Cond.instanceMethod yX7_node ∈ gw := gwm 505 (by decide +kernel) rfl
theorem tw_506 : Cond.selects RX7 yX7_node yX7_node ∈ gw := gwm 506 (by decide +kernel) rfl
theorem tw_507 : Cond.code yX7_node cX7_node 3 (some .int) ∈ gw := gwm 507 (by decide +kernel) rfl
theorem tw_508 : Cond.methodLink RX7 118 yX6_rulesOf ∈ gw := gwm 508 (by decide +kernel) rfl
theorem tw_509 : Cond.instanceMethod yX6_rulesOf ∈ gw := gwm 509 (by decide +kernel) rfl
theorem tw_510 : Cond.selects RX6 yX6_rulesOf yX6_rulesOf ∈ gw := gwm 510 (by decide +kernel) rfl
theorem tw_511 : Cond.code yX6_rulesOf cX6_rulesOf 2 (some .int) ∈ gw := gwm 511 (by decide +kernel) rfl
theorem tw_512 : Cond.methodLink RX7 122 yX6_recordOf ∈ gw := gwm 512 (by decide +kernel) rfl
theorem tw_513 : Cond.instanceMethod yX6_recordOf ∈ gw := gwm 513 (by decide +kernel) rfl
theorem tw_514 : Cond.selects RX6 yX6_recordOf yX6_recordOf ∈ gw := gwm 514 (by decide +kernel) rfl
theorem tw_515 : Cond.code yX6_recordOf cX6_recordOf 4 (some .int) ∈ gw := gwm 515 (by decide +kernel) rfl
theorem tw_516 : Cond.methodLink RX6 76 yX6_styleOf ∈ gw := gwm 516 (by decide +kernel) rfl
theorem tw_518 : Cond.instanceMethod yX6_styleOf ∈ gw := gwm 518 (by decide +kernel) rfl
theorem tw_519 : Cond.code yX6_styleOf cX6_styleOf 4 (some .int) ∈ gw := gwm 519 (by decide +kernel) rfl
theorem tw_520 : Cond.methodLink RX6 73 yX6_valueAt ∈ gw := gwm 520 (by decide +kernel) rfl
theorem tw_521 : Cond.instanceMethod yX6_valueAt ∈ gw := gwm 521 (by decide +kernel) rfl
theorem tw_522 : Cond.selects RX6 yX6_valueAt yX6_valueAt ∈ gw := gwm 522 (by decide +kernel) rfl
theorem tw_523 : Cond.code yX6_valueAt cX6_valueAt 3 (some .int) ∈ gw := gwm 523 (by decide +kernel) rfl
theorem tw_524 : Cond.methodLink RX7 125 yX4_below ∈ gw := gwm 524 (by decide +kernel) rfl
theorem tw_525 : Cond.instanceMethod yX4_below ∈ gw := gwm 525 (by decide +kernel) rfl
theorem tw_526 : Cond.selects RX4 yX4_below yX4_below ∈ gw := gwm 526 (by decide +kernel) rfl
theorem tw_527 : Cond.code yX4_below cX4_below 4 (some .int) ∈ gw := gwm 527 (by decide +kernel) rfl
theorem tw_528 : Cond.methodLink RL 32 yX7_rule ∈ gw := gwm 528 (by decide +kernel) rfl
theorem tw_529 : Cond.instanceMethod yX7_rule ∈ gw := gwm 529 (by decide +kernel) rfl
theorem tw_530 : Cond.selects RX7 yX7_rule yX7_rule ∈ gw := gwm 530 (by decide +kernel) rfl
theorem tw_531 : Cond.code yX7_rule cX7_rule 4 (some .int) ∈ gw := gwm 531 (by decide +kernel) rfl
theorem tw_532 : Cond.methodLink RX7 153 yX1_hasOn ∈ gw := gwm 532 (by decide +kernel) rfl
theorem tw_533 : Cond.methodLink RX7 157 yX6_nodesOf ∈ gw := gwm 533 (by decide +kernel) rfl
theorem tw_534 : Cond.instanceMethod yX6_nodesOf ∈ gw := gwm 534 (by decide +kernel) rfl
theorem tw_535 : Cond.selects RX6 yX6_nodesOf yX6_nodesOf ∈ gw := gwm 535 (by decide +kernel) rfl
theorem tw_536 : Cond.code yX6_nodesOf cX6_nodesOf 2 (some .int) ∈ gw := gwm 536 (by decide +kernel) rfl
theorem tw_537 : Cond.methodLink RL 36 yX7_toggles ∈ gw := gwm 537 (by decide +kernel) rfl
theorem tw_538 : Cond.instanceMethod yX7_toggles ∈ gw := gwm 538 (by decide +kernel) rfl
theorem tw_539 : Cond.selects RX7 yX7_toggles yX7_toggles ∈ gw := gwm 539 (by decide +kernel) rfl
theorem tw_540 : Cond.code yX7_toggles cX7_toggles 4 (some .int) ∈ gw := gwm 540 (by decide +kernel) rfl
theorem tw_541 : Cond.methodLink RX7 160 yX7_perform ∈ gw := gwm 541 (by decide +kernel) rfl
theorem tw_543 : Cond.instanceMethod yX7_perform ∈ gw := gwm 543 (by decide +kernel) rfl
theorem tw_544 : Cond.code yX7_perform cX7_perform 3 none ∈ gw := gwm 544 (by decide +kernel) rfl
theorem tw_545 : Cond.methodLink RX7 167 yX1_apply ∈ gw := gwm 545 (by decide +kernel) rfl
theorem tw_546 : Cond.instanceMethod yX1_apply ∈ gw := gwm 546 (by decide +kernel) rfl
theorem tw_547 : Cond.selects RX1 yX1_apply yX1_apply ∈ gw := gwm 547 (by decide +kernel) rfl
theorem tw_548 : Cond.code yX1_apply cX1_apply 2 none ∈ gw := gwm 548 (by decide +kernel) rfl
theorem tw_549 : Cond.methodLink RX1 32 yX1_putTag ∈ gw := gwm 549 (by decide +kernel) rfl
theorem tw_551 : Cond.instanceMethod yX1_putTag ∈ gw := gwm 551 (by decide +kernel) rfl
theorem tw_552 : Cond.code yX1_putTag cX1_putTag 3 none ∈ gw := gwm 552 (by decide +kernel) rfl
theorem tw_554 : Cond.methodLink RX1 36 yX1_flipClass ∈ gw := gwm 554 (by decide +kernel) rfl
theorem tw_556 : Cond.instanceMethod yX1_flipClass ∈ gw := gwm 556 (by decide +kernel) rfl
theorem tw_557 : Cond.code yX1_flipClass cX1_flipClass 3 none ∈ gw := gwm 557 (by decide +kernel) rfl
theorem tw_558 : Cond.methodLink RX7 236 yX0_add ∈ gw := gwm 558 (by decide +kernel) rfl
theorem tw_559 : Cond.instanceMethod yX0_add ∈ gw := gwm 559 (by decide +kernel) rfl
theorem tw_560 : Cond.selects RX0 yX0_add yX0_add ∈ gw := gwm 560 (by decide +kernel) rfl
theorem tw_561 : Cond.code yX0_add cX0_add 2 none ∈ gw := gwm 561 (by decide +kernel) rfl
theorem tw_562 : Cond.methodLink RX0 19 arraycopyName ∈ gw := gwm 562 (by decide +kernel) rfl
theorem tw_564 : Cond.methodLink RL 40 yX7_tags ∈ gw := gwm 564 (by decide +kernel) rfl
theorem tw_565 : Cond.instanceMethod yX7_tags ∈ gw := gwm 565 (by decide +kernel) rfl
theorem tw_566 : Cond.selects RX7 yX7_tags yX7_tags ∈ gw := gwm 566 (by decide +kernel) rfl
theorem tw_567 : Cond.code yX7_tags cX7_tags 5 (some .int) ∈ gw := gwm 567 (by decide +kernel) rfl
theorem tw_568 : Cond.methodLink RL 44 yX7_switches ∈ gw := gwm 568 (by decide +kernel) rfl
theorem tw_569 : Cond.instanceMethod yX7_switches ∈ gw := gwm 569 (by decide +kernel) rfl
theorem tw_570 : Cond.selects RX7 yX7_switches yX7_switches ∈ gw := gwm 570 (by decide +kernel) rfl
theorem tw_571 : Cond.code yX7_switches cX7_switches 3 (some .int) ∈ gw := gwm 571 (by decide +kernel) rfl
theorem tw_572 : Cond.methodLink RL 48 yX7_undo ∈ gw := gwm 572 (by decide +kernel) rfl
theorem tw_573 : Cond.instanceMethod yX7_undo ∈ gw := gwm 573 (by decide +kernel) rfl
theorem tw_574 : Cond.selects RX7 yX7_undo yX7_undo ∈ gw := gwm 574 (by decide +kernel) rfl
theorem tw_575 : Cond.code yX7_undo cX7_undo 2 (some .int) ∈ gw := gwm 575 (by decide +kernel) rfl
theorem tw_576 : Cond.methodLink RX7 164 yX0_takeLatest ∈ gw := gwm 576 (by decide +kernel) rfl
theorem tw_577 : Cond.instanceMethod yX0_takeLatest ∈ gw := gwm 577 (by decide +kernel) rfl
theorem tw_578 : Cond.selects RX0 yX0_takeLatest yX0_takeLatest ∈ gw := gwm 578 (by decide +kernel) rfl
theorem tw_579 : Cond.code yX0_takeLatest cX0_takeLatest 1 (some .int) ∈ gw := gwm 579 (by decide +kernel) rfl
theorem tw_580 : Cond.methodLink RL 52 yX7_value ∈ gw := gwm 580 (by decide +kernel) rfl
theorem tw_581 : Cond.instanceMethod yX7_value ∈ gw := gwm 581 (by decide +kernel) rfl
theorem tw_582 : Cond.selects RX7 yX7_value yX7_value ∈ gw := gwm 582 (by decide +kernel) rfl
theorem tw_583 : Cond.code yX7_value cX7_value 3 (some .int) ∈ gw := gwm 583 (by decide +kernel) rfl
theorem tw_584 : Cond.methodLink RX7 174 yX7_isPlace ∈ gw := gwm 584 (by decide +kernel) rfl
theorem tw_586 : Cond.instanceMethod yX7_isPlace ∈ gw := gwm 586 (by decide +kernel) rfl
theorem tw_587 : Cond.code yX7_isPlace cX7_isPlace 3 (some .boolean) ∈ gw := gwm 587 (by decide +kernel) rfl
theorem tw_588 : Cond.methodLink RX7 177 yX6_valueAt ∈ gw := gwm 588 (by decide +kernel) rfl
theorem tw_589 : Cond.methodLink RL 56 yX7_winner ∈ gw := gwm 589 (by decide +kernel) rfl
theorem tw_590 : Cond.instanceMethod yX7_winner ∈ gw := gwm 590 (by decide +kernel) rfl
theorem tw_591 : Cond.selects RX7 yX7_winner yX7_winner ∈ gw := gwm 591 (by decide +kernel) rfl
theorem tw_592 : Cond.code yX7_winner cX7_winner 7 (some .int) ∈ gw := gwm 592 (by decide +kernel) rfl
theorem tw_593 : Cond.methodLink RX7 181 yX4_strongest ∈ gw := gwm 593 (by decide +kernel) rfl
theorem tw_594 : Cond.methodLink RX7 184 yJ9_min_7cf53 ∈ gw := gwm 594 (by decide +kernel) rfl
theorem tw_595 : Cond.methodLink RL 61 yX7_source ∈ gw := gwm 595 (by decide +kernel) rfl
theorem tw_596 : Cond.instanceMethod yX7_source ∈ gw := gwm 596 (by decide +kernel) rfl
theorem tw_597 : Cond.selects RX7 yX7_source yX7_source ∈ gw := gwm 597 (by decide +kernel) rfl
theorem tw_598 : Cond.code yX7_source cX7_source 3 (some .int) ∈ gw := gwm 598 (by decide +kernel) rfl
theorem tw_599 : Cond.methodLink RX7 189 yX6_sourceAt ∈ gw := gwm 599 (by decide +kernel) rfl
theorem tw_600 : Cond.instanceMethod yX6_sourceAt ∈ gw := gwm 600 (by decide +kernel) rfl
theorem tw_601 : Cond.selects RX6 yX6_sourceAt yX6_sourceAt ∈ gw := gwm 601 (by decide +kernel) rfl
theorem tw_602 : Cond.code yX6_sourceAt cX6_sourceAt 3 (some .int) ∈ gw := gwm 602 (by decide +kernel) rfl
theorem tw_603 : Cond.methodLink RL 65 yX7_change ∈ gw := gwm 603 (by decide +kernel) rfl
theorem tw_604 : Cond.instanceMethod yX7_change ∈ gw := gwm 604 (by decide +kernel) rfl
theorem tw_605 : Cond.selects RX7 yX7_change yX7_change ∈ gw := gwm 605 (by decide +kernel) rfl
theorem tw_606 : Cond.code yX7_change cX7_change 4 (some .int) ∈ gw := gwm 606 (by decide +kernel) rfl
theorem tw_607 : Cond.methodLink RX7 192 yX4_lookedAt ∈ gw := gwm 607 (by decide +kernel) rfl
theorem tw_608 : Cond.instanceMethod yX4_lookedAt ∈ gw := gwm 608 (by decide +kernel) rfl
theorem tw_609 : Cond.selects RX4 yX4_lookedAt yX4_lookedAt ∈ gw := gwm 609 (by decide +kernel) rfl
theorem tw_610 : Cond.code yX4_lookedAt cX4_lookedAt 6 (some .int) ∈ gw := gwm 610 (by decide +kernel) rfl
theorem tw_611 : Cond.methodLink RX4 80 yX1_hasOn ∈ gw := gwm 611 (by decide +kernel) rfl
theorem tw_612 : Cond.methodLink RX4 84 yX4_lookedAtBy ∈ gw := gwm 612 (by decide +kernel) rfl
theorem tw_614 : Cond.instanceMethod yX4_lookedAtBy ∈ gw := gwm 614 (by decide +kernel) rfl
theorem tw_615 : Cond.code yX4_lookedAtBy cX4_lookedAtBy 8 (some .int) ∈ gw := gwm 615 (by decide +kernel) rfl
theorem tw_616 : Cond.methodLink RX4 89 yX4_below ∈ gw := gwm 616 (by decide +kernel) rfl
theorem tw_617 : Cond.methodLink RX7 196 yX7_tryOut ∈ gw := gwm 617 (by decide +kernel) rfl
theorem tw_619 : Cond.instanceMethod yX7_tryOut ∈ gw := gwm 619 (by decide +kernel) rfl
theorem tw_620 : Cond.code yX7_tryOut cX7_tryOut 2 none ∈ gw := gwm 620 (by decide +kernel) rfl
theorem tw_621 : Cond.methodLink RX7 199 yX6_differences ∈ gw := gwm 621 (by decide +kernel) rfl
theorem tw_622 : Cond.instanceMethod yX6_differences ∈ gw := gwm 622 (by decide +kernel) rfl
theorem tw_623 : Cond.selects RX6 yX6_differences yX6_differences ∈ gw := gwm 623 (by decide +kernel) rfl
theorem tw_624 : Cond.code yX6_differences cX6_differences 4 (some .int) ∈ gw := gwm 624 (by decide +kernel) rfl
theorem tw_625 : Cond.methodLink RL 69 yX7_wanted ∈ gw := gwm 625 (by decide +kernel) rfl
theorem tw_626 : Cond.instanceMethod yX7_wanted ∈ gw := gwm 626 (by decide +kernel) rfl
theorem tw_627 : Cond.selects RX7 yX7_wanted yX7_wanted ∈ gw := gwm 627 (by decide +kernel) rfl
theorem tw_628 : Cond.code yX7_wanted cX7_wanted 5 (some .int) ∈ gw := gwm 628 (by decide +kernel) rfl
theorem tw_629 : Cond.methodLink RL 73 yX7_sees ∈ gw := gwm 629 (by decide +kernel) rfl
theorem tw_630 : Cond.instanceMethod yX7_sees ∈ gw := gwm 630 (by decide +kernel) rfl
theorem tw_631 : Cond.selects RX7 yX7_sees yX7_sees ∈ gw := gwm 631 (by decide +kernel) rfl
theorem tw_632 : Cond.code yX7_sees cX7_sees 4 (some .int) ∈ gw := gwm 632 (by decide +kernel) rfl
theorem tw_633 : Cond.methodLink RX7 203 yX5_add ∈ gw := gwm 633 (by decide +kernel) rfl
theorem tw_634 : Cond.instanceMethod yX5_add ∈ gw := gwm 634 (by decide +kernel) rfl
theorem tw_635 : Cond.selects RX5 yX5_add yX5_add ∈ gw := gwm 635 (by decide +kernel) rfl
theorem tw_636 : Cond.code yX5_add cX5_add 4 (some .boolean) ∈ gw := gwm 636 (by decide +kernel) rfl
theorem tw_638 : Cond.methodLink RL 77 yX7_forget ∈ gw := gwm 638 (by decide +kernel) rfl
theorem tw_639 : Cond.instanceMethod yX7_forget ∈ gw := gwm 639 (by decide +kernel) rfl
theorem tw_640 : Cond.selects RX7 yX7_forget yX7_forget ∈ gw := gwm 640 (by decide +kernel) rfl
theorem tw_641 : Cond.code yX7_forget cX7_forget 2 (some .int) ∈ gw := gwm 641 (by decide +kernel) rfl
theorem tw_642 : Cond.methodLink RL 81 yX7_unseen ∈ gw := gwm 642 (by decide +kernel) rfl
theorem tw_643 : Cond.instanceMethod yX7_unseen ∈ gw := gwm 643 (by decide +kernel) rfl
theorem tw_644 : Cond.selects RX7 yX7_unseen yX7_unseen ∈ gw := gwm 644 (by decide +kernel) rfl
theorem tw_645 : Cond.code yX7_unseen cX7_unseen 3 (some .int) ∈ gw := gwm 645 (by decide +kernel) rfl
theorem tw_646 : Cond.methodLink RX7 208 yX5_holdIn ∈ gw := gwm 646 (by decide +kernel) rfl
theorem tw_647 : Cond.instanceMethod yX5_holdIn ∈ gw := gwm 647 (by decide +kernel) rfl
theorem tw_648 : Cond.selects RX5 yX5_holdIn yX5_holdIn ∈ gw := gwm 648 (by decide +kernel) rfl
theorem tw_649 : Cond.code yX5_holdIn cX5_holdIn 3 (some .boolean) ∈ gw := gwm 649 (by decide +kernel) rfl
theorem tw_650 : Cond.methodLink RX5 29 yX6_valueAt ∈ gw := gwm 650 (by decide +kernel) rfl
theorem tw_651 : Cond.methodLink RL 85 yX7_ask ∈ gw := gwm 651 (by decide +kernel) rfl
theorem tw_652 : Cond.instanceMethod yX7_ask ∈ gw := gwm 652 (by decide +kernel) rfl
theorem tw_653 : Cond.selects RX7 yX7_ask yX7_ask ∈ gw := gwm 653 (by decide +kernel) rfl
theorem tw_654 : Cond.code yX7_ask cX7_ask 6 (some .int) ∈ gw := gwm 654 (by decide +kernel) rfl
theorem tw_655 : Cond.methodLink RX7 212 yX7_unseen ∈ gw := gwm 655 (by decide +kernel) rfl
theorem tw_656 : Cond.methodLink RX7 215 yJ6_bitCount_0f7a4 ∈ gw := gwm 656 (by decide +kernel) rfl
theorem tw_657 : Cond.methodLink RX7 220 yX7_gatherAnswers ∈ gw := gwm 657 (by decide +kernel) rfl
theorem tw_659 : Cond.instanceMethod yX7_gatherAnswers ∈ gw := gwm 659 (by decide +kernel) rfl
theorem tw_660 : Cond.code yX7_gatherAnswers cX7_gatherAnswers 3 none ∈ gw := gwm 660 (by decide +kernel) rfl
theorem tw_661 : Cond.methodLink RX7 223 yX7_hasBit ∈ gw := gwm 661 (by decide +kernel) rfl
theorem tw_662 : Cond.methodLink RX7 238 yX7_addAnswers ∈ gw := gwm 662 (by decide +kernel) rfl
theorem tw_664 : Cond.instanceMethod yX7_addAnswers ∈ gw := gwm 664 (by decide +kernel) rfl
theorem tw_665 : Cond.code yX7_addAnswers cX7_addAnswers 3 none ∈ gw := gwm 665 (by decide +kernel) rfl
theorem tw_666 : Cond.methodLink RL 89 yX7_keep ∈ gw := gwm 666 (by decide +kernel) rfl
theorem tw_667 : Cond.instanceMethod yX7_keep ∈ gw := gwm 667 (by decide +kernel) rfl
theorem tw_668 : Cond.selects RX7 yX7_keep yX7_keep ∈ gw := gwm 668 (by decide +kernel) rfl
theorem tw_669 : Cond.code yX7_keep cX7_keep 2 (some .int) ∈ gw := gwm 669 (by decide +kernel) rfl
theorem tw_670 : Cond.methodLink RL 93 yX7_back ∈ gw := gwm 670 (by decide +kernel) rfl
theorem tw_671 : Cond.instanceMethod yX7_back ∈ gw := gwm 671 (by decide +kernel) rfl
theorem tw_672 : Cond.selects RX7 yX7_back yX7_back ∈ gw := gwm 672 (by decide +kernel) rfl
theorem tw_673 : Cond.code yX7_back cX7_back 2 (some .int) ∈ gw := gwm 673 (by decide +kernel) rfl
theorem tw_674 : Cond.methodLink RL 97 yX7_count ∈ gw := gwm 674 (by decide +kernel) rfl
theorem tw_675 : Cond.instanceMethod yX7_count ∈ gw := gwm 675 (by decide +kernel) rfl
theorem tw_676 : Cond.selects RX7 yX7_count yX7_count ∈ gw := gwm 676 (by decide +kernel) rfl
theorem tw_677 : Cond.code yX7_count cX7_count 2 (some .int) ∈ gw := gwm 677 (by decide +kernel) rfl
theorem tw_678 : Cond.methodLink RX7 229 yX6_unlikeStyles ∈ gw := gwm 678 (by decide +kernel) rfl
theorem tw_679 : Cond.instanceMethod yX6_unlikeStyles ∈ gw := gwm 679 (by decide +kernel) rfl
theorem tw_680 : Cond.selects RX6 yX6_unlikeStyles yX6_unlikeStyles ∈ gw := gwm 680 (by decide +kernel) rfl
theorem tw_681 : Cond.code yX6_unlikeStyles cX6_unlikeStyles 3 (some .int) ∈ gw := gwm 681 (by decide +kernel) rfl
theorem tw_682 : Cond.methodLink RX6 80 yX6_recordOf ∈ gw := gwm 682 (by decide +kernel) rfl
theorem tw_683 : Cond.classLink RL 10 RX8 ∈ gw := gwm 683 (by decide +kernel) rfl
theorem tw_684 : Cond.instantiable RX8 22 ∈ gw := gwm 684 (by decide +kernel) rfl
theorem tw_685 : Cond.methodLink RL 12 yX8_init ∈ gw := gwm 685 (by decide +kernel) rfl
theorem tw_686 : Cond.instanceMethod yX8_init ∈ gw := gwm 686 (by decide +kernel) rfl
theorem tw_687 : Cond.code yX8_init cX8_init 1 none ∈ gw := gwm 687 (by decide +kernel) rfl
theorem tw_688 : Cond.methodLink RX8 1 objectInit ∈ gw := gwm 688 (by decide +kernel) rfl
theorem tw_689 : Cond.methodLink RX8 50 yX8_begins ∈ gw := gwm 689 (by decide +kernel) rfl
theorem tw_691 : Cond.instanceMethod yX8_begins ∈ gw := gwm 691 (by decide +kernel) rfl
theorem tw_692 : Cond.code yX8_begins cX8_begins 2 none ∈ gw := gwm 692 (by decide +kernel) rfl
theorem tw_693 : Cond.methodLink RX8 53 yX8_settles ∈ gw := gwm 693 (by decide +kernel) rfl
theorem tw_695 : Cond.instanceMethod yX8_settles ∈ gw := gwm 695 (by decide +kernel) rfl
theorem tw_696 : Cond.code yX8_settles cX8_settles 2 none ∈ gw := gwm 696 (by decide +kernel) rfl
theorem tw_697 : Cond.fieldLink RX8 56 "StyleTreeModel" "thrown" "I" ∈ gw := gwm 697 (by decide +kernel) rfl
theorem tw_698 : Cond.fieldLink RX8 7 "StyleTreeModel" "text" "[I" ∈ gw := gwm 698 (by decide +kernel) rfl
theorem tw_699 : Cond.fieldLink RX8 64 "StyleTreeModel" "typed" "I" ∈ gw := gwm 699 (by decide +kernel) rfl
theorem tw_700 : Cond.fieldLink RX8 67 "StyleTreeModel" "at" "I" ∈ gw := gwm 700 (by decide +kernel) rfl
theorem tw_701 : Cond.fieldLink RX8 77 "StyleTreeModel" "token" "I" ∈ gw := gwm 701 (by decide +kernel) rfl
theorem tw_702 : Cond.fieldLink RX8 74 "StyleTreeModel" "place" "I" ∈ gw := gwm 702 (by decide +kernel) rfl
theorem tw_703 : Cond.fieldLink RX8 80 "StyleTreeModel" "value" "I" ∈ gw := gwm 703 (by decide +kernel) rfl
theorem tw_704 : Cond.fieldLink RX8 87 "StyleTreeModel" "fault" "I" ∈ gw := gwm 704 (by decide +kernel) rfl
theorem tw_705 : Cond.fieldLink RX8 13 "StyleTreeModel" "told" "[I" ∈ gw := gwm 705 (by decide +kernel) rfl
theorem tw_706 : Cond.fieldLink RX8 16 "StyleTreeModel" "draft" "[I" ∈ gw := gwm 706 (by decide +kernel) rfl
theorem tw_707 : Cond.fieldLink RX8 19 "StyleTreeModel" "draftNow" "[I" ∈ gw := gwm 707 (by decide +kernel) rfl
theorem tw_708 : Cond.fieldLink RX8 22 "StyleTreeModel" "s" "[I" ∈ gw := gwm 708 (by decide +kernel) rfl
theorem tw_709 : Cond.fieldLink RX8 25 "StyleTreeModel" "undos" "[I" ∈ gw := gwm 709 (by decide +kernel) rfl
theorem tw_710 : Cond.fieldLink RX8 127 "StyleTreeModel" "undoMany" "I" ∈ gw := gwm 710 (by decide +kernel) rfl
theorem tw_711 : Cond.fieldLink RX8 28 "StyleTreeModel" "kept" "[I" ∈ gw := gwm 711 (by decide +kernel) rfl
theorem tw_712 : Cond.fieldLink RX8 31 "StyleTreeModel" "isKept" "[Z" ∈ gw := gwm 712 (by decide +kernel) rfl
theorem tw_713 : Cond.fieldLink RX8 35 "StyleTreeModel" "seenNode" "[I" ∈ gw := gwm 713 (by decide +kernel) rfl
theorem tw_714 : Cond.fieldLink RX8 38 "StyleTreeModel" "seenProperty" "[I" ∈ gw := gwm 714 (by decide +kernel) rfl
theorem tw_715 : Cond.fieldLink RX8 41 "StyleTreeModel" "seenValue" "[I" ∈ gw := gwm 715 (by decide +kernel) rfl
theorem tw_716 : Cond.fieldLink RX8 124 "StyleTreeModel" "seenMany" "I" ∈ gw := gwm 716 (by decide +kernel) rfl
theorem tw_717 : Cond.fieldLink RX8 44 "StyleTreeModel" "was" "[I" ∈ gw := gwm 717 (by decide +kernel) rfl
theorem tw_718 : Cond.fieldLink RX8 47 "StyleTreeModel" "matched" "[I" ∈ gw := gwm 718 (by decide +kernel) rfl
theorem tw_764 : Cond.methodLink RL 17 yX8_type ∈ gw := gwm 764 (by decide +kernel) rfl
theorem tw_765 : Cond.instanceMethod yX8_type ∈ gw := gwm 765 (by decide +kernel) rfl
theorem tw_766 : Cond.selects RX8 yX8_type yX8_type ∈ gw := gwm 766 (by decide +kernel) rfl
theorem tw_767 : Cond.code yX8_type cX8_type 2 (some .int) ∈ gw := gwm 767 (by decide +kernel) rfl
theorem tw_768 : Cond.methodLink RX8 60 yX8_in ∈ gw := gwm 768 (by decide +kernel) rfl
theorem tw_769 : Cond.static yX8_in ∈ gw := gwm 769 (by decide +kernel) rfl
theorem tw_770 : Cond.code yX8_in cX8_in 3 (some .boolean) ∈ gw := gwm 770 (by decide +kernel) rfl
theorem tw_771 : Cond.methodLink RL 22 yX8_clear ∈ gw := gwm 771 (by decide +kernel) rfl
theorem tw_772 : Cond.instanceMethod yX8_clear ∈ gw := gwm 772 (by decide +kernel) rfl
theorem tw_773 : Cond.selects RX8 yX8_clear yX8_clear ∈ gw := gwm 773 (by decide +kernel) rfl
theorem tw_774 : Cond.code yX8_clear cX8_clear 2 (some .int) ∈ gw := gwm 774 (by decide +kernel) rfl
theorem tw_775 : Cond.methodLink RL 26 yX8_page ∈ gw := gwm 775 (by decide +kernel) rfl
theorem tw_776 : Cond.instanceMethod yX8_page ∈ gw := gwm 776 (by decide +kernel) rfl
theorem tw_777 : Cond.selects RX8 yX8_page yX8_page ∈ gw := gwm 777 (by decide +kernel) rfl
theorem tw_778 : Cond.code yX8_page cX8_page 3 (some .int) ∈ gw := gwm 778 (by decide +kernel) rfl
theorem tw_779 : Cond.methodLink RX8 94 yX8_advances ∈ gw := gwm 779 (by decide +kernel) rfl
theorem tw_781 : Cond.instanceMethod yX8_advances ∈ gw := gwm 781 (by decide +kernel) rfl
theorem tw_782 : Cond.code yX8_advances cX8_advances 2 none ∈ gw := gwm 782 (by decide +kernel) rfl
theorem tw_783 : Cond.methodLink RX8 70 yX8_letterAt ∈ gw := gwm 783 (by decide +kernel) rfl
theorem tw_785 : Cond.instanceMethod yX8_letterAt ∈ gw := gwm 785 (by decide +kernel) rfl
theorem tw_786 : Cond.code yX8_letterAt cX8_letterAt 2 (some .int) ∈ gw := gwm 786 (by decide +kernel) rfl
theorem tw_787 : Cond.methodLink RX8 83 yX8_isSign ∈ gw := gwm 787 (by decide +kernel) rfl
theorem tw_788 : Cond.static yX8_isSign ∈ gw := gwm 788 (by decide +kernel) rfl
theorem tw_789 : Cond.code yX8_isSign cX8_isSign 1 (some .boolean) ∈ gw := gwm 789 (by decide +kernel) rfl
theorem tw_790 : Cond.methodLink RX8 90 yX8_isWell ∈ gw := gwm 790 (by decide +kernel) rfl
theorem tw_792 : Cond.instanceMethod yX8_isWell ∈ gw := gwm 792 (by decide +kernel) rfl
theorem tw_793 : Cond.code yX8_isWell cX8_isWell 1 (some .boolean) ∈ gw := gwm 793 (by decide +kernel) rfl
theorem tw_794 : Cond.methodLink RX8 108 yX8_isThis ∈ gw := gwm 794 (by decide +kernel) rfl
theorem tw_796 : Cond.instanceMethod yX8_isThis ∈ gw := gwm 796 (by decide +kernel) rfl
theorem tw_797 : Cond.code yX8_isThis cX8_isThis 2 (some .boolean) ∈ gw := gwm 797 (by decide +kernel) rfl
theorem tw_798 : Cond.methodLink RX8 97 yX8_takes ∈ gw := gwm 798 (by decide +kernel) rfl
theorem tw_800 : Cond.instanceMethod yX8_takes ∈ gw := gwm 800 (by decide +kernel) rfl
theorem tw_801 : Cond.code yX8_takes cX8_takes 3 (some .int) ∈ gw := gwm 801 (by decide +kernel) rfl
theorem tw_802 : Cond.methodLink RX8 118 yX8_readsNode ∈ gw := gwm 802 (by decide +kernel) rfl
theorem tw_804 : Cond.instanceMethod yX8_readsNode ∈ gw := gwm 804 (by decide +kernel) rfl
theorem tw_805 : Cond.code yX8_readsNode cX8_readsNode 3 none ∈ gw := gwm 805 (by decide +kernel) rfl
theorem tw_806 : Cond.methodLink RX8 101 yX8_isFrom ∈ gw := gwm 806 (by decide +kernel) rfl
theorem tw_808 : Cond.instanceMethod yX8_isFrom ∈ gw := gwm 808 (by decide +kernel) rfl
theorem tw_809 : Cond.code yX8_isFrom cX8_isFrom 3 (some .boolean) ∈ gw := gwm 809 (by decide +kernel) rfl
theorem tw_810 : Cond.methodLink RX8 105 yX8_has ∈ gw := gwm 810 (by decide +kernel) rfl
theorem tw_811 : Cond.static yX8_has ∈ gw := gwm 811 (by decide +kernel) rfl
theorem tw_812 : Cond.code yX8_has cX8_has 2 (some .boolean) ∈ gw := gwm 812 (by decide +kernel) rfl
theorem tw_813 : Cond.methodLink RX8 121 yX8_readsRule ∈ gw := gwm 813 (by decide +kernel) rfl
theorem tw_815 : Cond.instanceMethod yX8_readsRule ∈ gw := gwm 815 (by decide +kernel) rfl
theorem tw_816 : Cond.code yX8_readsRule cX8_readsRule 4 none ∈ gw := gwm 816 (by decide +kernel) rfl
theorem tw_817 : Cond.methodLink RX8 111 yX8_readsCompound ∈ gw := gwm 817 (by decide +kernel) rfl
theorem tw_819 : Cond.instanceMethod yX8_readsCompound ∈ gw := gwm 819 (by decide +kernel) rfl
theorem tw_820 : Cond.code yX8_readsCompound cX8_readsCompound 4 none ∈ gw := gwm 820 (by decide +kernel) rfl
theorem tw_821 : Cond.methodLink RX8 115 yX8_readsDeclarations ∈ gw := gwm 821 (by decide +kernel) rfl
theorem tw_823 : Cond.instanceMethod yX8_readsDeclarations ∈ gw := gwm 823 (by decide +kernel) rfl
theorem tw_824 : Cond.code yX8_readsDeclarations cX8_readsDeclarations 4 none ∈ gw := gwm 824 (by decide +kernel) rfl
theorem tw_825 : Cond.methodLink RL 31 yX8_node ∈ gw := gwm 825 (by decide +kernel) rfl
theorem tw_826 : Cond.instanceMethod yX8_node ∈ gw := gwm 826 (by decide +kernel) rfl
theorem tw_827 : Cond.selects RX8 yX8_node yX8_node ∈ gw := gwm 827 (by decide +kernel) rfl
theorem tw_828 : Cond.code yX8_node cX8_node 3 (some .int) ∈ gw := gwm 828 (by decide +kernel) rfl
theorem tw_829 : Cond.methodLink RX8 162 yX8_isNode ∈ gw := gwm 829 (by decide +kernel) rfl
theorem tw_831 : Cond.instanceMethod yX8_isNode ∈ gw := gwm 831 (by decide +kernel) rfl
theorem tw_832 : Cond.code yX8_isNode cX8_isNode 2 (some .boolean) ∈ gw := gwm 832 (by decide +kernel) rfl
theorem tw_833 : Cond.methodLink RX8 165 yX8_fills ∈ gw := gwm 833 (by decide +kernel) rfl
theorem tw_835 : Cond.instanceMethod yX8_fills ∈ gw := gwm 835 (by decide +kernel) rfl
theorem tw_836 : Cond.code yX8_fills cX8_fills 2 none ∈ gw := gwm 836 (by decide +kernel) rfl
theorem tw_837 : Cond.methodLink RX8 133 yX8_matching ∈ gw := gwm 837 (by decide +kernel) rfl
theorem tw_839 : Cond.instanceMethod yX8_matching ∈ gw := gwm 839 (by decide +kernel) rfl
theorem tw_840 : Cond.code yX8_matching cX8_matching 9 (some .int) ∈ gw := gwm 840 (by decide +kernel) rfl
theorem tw_841 : Cond.methodLink RX8 130 yX8_fits ∈ gw := gwm 841 (by decide +kernel) rfl
theorem tw_843 : Cond.instanceMethod yX8_fits ∈ gw := gwm 843 (by decide +kernel) rfl
theorem tw_844 : Cond.code yX8_fits cX8_fits 4 (some .boolean) ∈ gw := gwm 844 (by decide +kernel) rfl
theorem tw_845 : Cond.methodLink RX8 143 yX8_rulesOf ∈ gw := gwm 845 (by decide +kernel) rfl
theorem tw_847 : Cond.instanceMethod yX8_rulesOf ∈ gw := gwm 847 (by decide +kernel) rfl
theorem tw_848 : Cond.code yX8_rulesOf cX8_rulesOf 4 (some .int) ∈ gw := gwm 848 (by decide +kernel) rfl
theorem tw_849 : Cond.methodLink RX8 168 yX8_recordOf ∈ gw := gwm 849 (by decide +kernel) rfl
theorem tw_851 : Cond.instanceMethod yX8_recordOf ∈ gw := gwm 851 (by decide +kernel) rfl
theorem tw_852 : Cond.code yX8_recordOf cX8_recordOf 3 (some .int) ∈ gw := gwm 852 (by decide +kernel) rfl
theorem tw_853 : Cond.methodLink RX8 159 yX8_isLike ∈ gw := gwm 853 (by decide +kernel) rfl
theorem tw_855 : Cond.instanceMethod yX8_isLike ∈ gw := gwm 855 (by decide +kernel) rfl
theorem tw_856 : Cond.code yX8_isLike cX8_isLike 5 (some .boolean) ∈ gw := gwm 856 (by decide +kernel) rfl
theorem tw_857 : Cond.methodLink RX8 156 yX8_valueOf ∈ gw := gwm 857 (by decide +kernel) rfl
theorem tw_859 : Cond.instanceMethod yX8_valueOf ∈ gw := gwm 859 (by decide +kernel) rfl
theorem tw_860 : Cond.code yX8_valueOf cX8_valueOf 4 (some .int) ∈ gw := gwm 860 (by decide +kernel) rfl
theorem tw_861 : Cond.methodLink RX8 153 yX8_sourceOf ∈ gw := gwm 861 (by decide +kernel) rfl
theorem tw_863 : Cond.instanceMethod yX8_sourceOf ∈ gw := gwm 863 (by decide +kernel) rfl
theorem tw_864 : Cond.code yX8_sourceOf cX8_sourceOf 4 (some .int) ∈ gw := gwm 864 (by decide +kernel) rfl
theorem tw_865 : Cond.methodLink RX8 149 yX8_winnerOf ∈ gw := gwm 865 (by decide +kernel) rfl
theorem tw_867 : Cond.instanceMethod yX8_winnerOf ∈ gw := gwm 867 (by decide +kernel) rfl
theorem tw_868 : Cond.code yX8_winnerOf cX8_winnerOf 9 (some .int) ∈ gw := gwm 868 (by decide +kernel) rfl
theorem tw_869 : Cond.methodLink RX8 146 yX8_heightOf ∈ gw := gwm 869 (by decide +kernel) rfl
theorem tw_871 : Cond.instanceMethod yX8_heightOf ∈ gw := gwm 871 (by decide +kernel) rfl
theorem tw_872 : Cond.code yX8_heightOf cX8_heightOf 5 (some .int) ∈ gw := gwm 872 (by decide +kernel) rfl
theorem tw_873 : Cond.methodLink RX8 140 yX8_specific ∈ gw := gwm 873 (by decide +kernel) rfl
theorem tw_875 : Cond.instanceMethod yX8_specific ∈ gw := gwm 875 (by decide +kernel) rfl
theorem tw_876 : Cond.code yX8_specific cX8_specific 4 (some .int) ∈ gw := gwm 876 (by decide +kernel) rfl
theorem tw_877 : Cond.methodLink RX8 137 yX8_ones ∈ gw := gwm 877 (by decide +kernel) rfl
theorem tw_878 : Cond.static yX8_ones ∈ gw := gwm 878 (by decide +kernel) rfl
theorem tw_879 : Cond.code yX8_ones cX8_ones 3 (some .int) ∈ gw := gwm 879 (by decide +kernel) rfl
theorem tw_880 : Cond.methodLink RX8 171 yX8_below ∈ gw := gwm 880 (by decide +kernel) rfl
theorem tw_882 : Cond.instanceMethod yX8_below ∈ gw := gwm 882 (by decide +kernel) rfl
theorem tw_883 : Cond.code yX8_below cX8_below 5 (some .int) ∈ gw := gwm 883 (by decide +kernel) rfl
theorem tw_884 : Cond.methodLink RL 35 yX8_rule ∈ gw := gwm 884 (by decide +kernel) rfl
theorem tw_885 : Cond.instanceMethod yX8_rule ∈ gw := gwm 885 (by decide +kernel) rfl
theorem tw_886 : Cond.selects RX8 yX8_rule yX8_rule ∈ gw := gwm 886 (by decide +kernel) rfl
theorem tw_887 : Cond.code yX8_rule cX8_rule 3 (some .int) ∈ gw := gwm 887 (by decide +kernel) rfl
theorem tw_888 : Cond.methodLink RX8 174 yX8_isRule ∈ gw := gwm 888 (by decide +kernel) rfl
theorem tw_890 : Cond.instanceMethod yX8_isRule ∈ gw := gwm 890 (by decide +kernel) rfl
theorem tw_891 : Cond.code yX8_isRule cX8_isRule 2 (some .boolean) ∈ gw := gwm 891 (by decide +kernel) rfl
theorem tw_892 : Cond.methodLink RL 39 yX8_toggles ∈ gw := gwm 892 (by decide +kernel) rfl
theorem tw_893 : Cond.instanceMethod yX8_toggles ∈ gw := gwm 893 (by decide +kernel) rfl
theorem tw_894 : Cond.selects RX8 yX8_toggles yX8_toggles ∈ gw := gwm 894 (by decide +kernel) rfl
theorem tw_895 : Cond.code yX8_toggles cX8_toggles 3 (some .int) ∈ gw := gwm 895 (by decide +kernel) rfl
theorem tw_896 : Cond.methodLink RX8 177 yX8_isFour ∈ gw := gwm 896 (by decide +kernel) rfl
theorem tw_897 : Cond.static yX8_isFour ∈ gw := gwm 897 (by decide +kernel) rfl
theorem tw_898 : Cond.code yX8_isFour cX8_isFour 1 (some .boolean) ∈ gw := gwm 898 (by decide +kernel) rfl
theorem tw_899 : Cond.methodLink RX8 180 yX8_notes ∈ gw := gwm 899 (by decide +kernel) rfl
theorem tw_901 : Cond.instanceMethod yX8_notes ∈ gw := gwm 901 (by decide +kernel) rfl
theorem tw_902 : Cond.code yX8_notes cX8_notes 2 none ∈ gw := gwm 902 (by decide +kernel) rfl
theorem tw_903 : Cond.methodLink RL 43 yX8_tags ∈ gw := gwm 903 (by decide +kernel) rfl
theorem tw_904 : Cond.instanceMethod yX8_tags ∈ gw := gwm 904 (by decide +kernel) rfl
theorem tw_905 : Cond.selects RX8 yX8_tags yX8_tags ∈ gw := gwm 905 (by decide +kernel) rfl
theorem tw_906 : Cond.code yX8_tags cX8_tags 4 (some .int) ∈ gw := gwm 906 (by decide +kernel) rfl
theorem tw_907 : Cond.methodLink RL 47 yX8_switches ∈ gw := gwm 907 (by decide +kernel) rfl
theorem tw_908 : Cond.instanceMethod yX8_switches ∈ gw := gwm 908 (by decide +kernel) rfl
theorem tw_909 : Cond.selects RX8 yX8_switches yX8_switches ∈ gw := gwm 909 (by decide +kernel) rfl
theorem tw_910 : Cond.code yX8_switches cX8_switches 2 (some .int) ∈ gw := gwm 910 (by decide +kernel) rfl
theorem tw_911 : Cond.methodLink RL 51 yX8_undo ∈ gw := gwm 911 (by decide +kernel) rfl
theorem tw_912 : Cond.instanceMethod yX8_undo ∈ gw := gwm 912 (by decide +kernel) rfl
theorem tw_913 : Cond.selects RX8 yX8_undo yX8_undo ∈ gw := gwm 913 (by decide +kernel) rfl
theorem tw_914 : Cond.code yX8_undo cX8_undo 2 (some .int) ∈ gw := gwm 914 (by decide +kernel) rfl
theorem tw_915 : Cond.methodLink RL 55 yX8_value ∈ gw := gwm 915 (by decide +kernel) rfl
theorem tw_916 : Cond.instanceMethod yX8_value ∈ gw := gwm 916 (by decide +kernel) rfl
theorem tw_917 : Cond.selects RX8 yX8_value yX8_value ∈ gw := gwm 917 (by decide +kernel) rfl
theorem tw_918 : Cond.code yX8_value cX8_value 3 (some .int) ∈ gw := gwm 918 (by decide +kernel) rfl
theorem tw_919 : Cond.methodLink RL 60 yX8_winner ∈ gw := gwm 919 (by decide +kernel) rfl
theorem tw_920 : Cond.instanceMethod yX8_winner ∈ gw := gwm 920 (by decide +kernel) rfl
theorem tw_921 : Cond.selects RX8 yX8_winner yX8_winner ∈ gw := gwm 921 (by decide +kernel) rfl
theorem tw_922 : Cond.code yX8_winner cX8_winner 4 (some .int) ∈ gw := gwm 922 (by decide +kernel) rfl
theorem tw_923 : Cond.methodLink RL 64 yX8_source ∈ gw := gwm 923 (by decide +kernel) rfl
theorem tw_924 : Cond.instanceMethod yX8_source ∈ gw := gwm 924 (by decide +kernel) rfl
theorem tw_925 : Cond.selects RX8 yX8_source yX8_source ∈ gw := gwm 925 (by decide +kernel) rfl
theorem tw_926 : Cond.code yX8_source cX8_source 3 (some .int) ∈ gw := gwm 926 (by decide +kernel) rfl
theorem tw_927 : Cond.methodLink RL 68 yX8_change ∈ gw := gwm 927 (by decide +kernel) rfl
theorem tw_928 : Cond.instanceMethod yX8_change ∈ gw := gwm 928 (by decide +kernel) rfl
theorem tw_929 : Cond.selects RX8 yX8_change yX8_change ∈ gw := gwm 929 (by decide +kernel) rfl
theorem tw_930 : Cond.code yX8_change cX8_change 4 (some .int) ∈ gw := gwm 930 (by decide +kernel) rfl
theorem tw_931 : Cond.methodLink RX8 183 yX8_lookedAt ∈ gw := gwm 931 (by decide +kernel) rfl
theorem tw_933 : Cond.instanceMethod yX8_lookedAt ∈ gw := gwm 933 (by decide +kernel) rfl
theorem tw_934 : Cond.code yX8_lookedAt cX8_lookedAt 9 (some .int) ∈ gw := gwm 934 (by decide +kernel) rfl
theorem tw_935 : Cond.methodLink RX8 186 yX8_different ∈ gw := gwm 935 (by decide +kernel) rfl
theorem tw_937 : Cond.instanceMethod yX8_different ∈ gw := gwm 937 (by decide +kernel) rfl
theorem tw_938 : Cond.code yX8_different cX8_different 5 (some .int) ∈ gw := gwm 938 (by decide +kernel) rfl
theorem tw_939 : Cond.methodLink RL 72 yX8_wanted ∈ gw := gwm 939 (by decide +kernel) rfl
theorem tw_940 : Cond.instanceMethod yX8_wanted ∈ gw := gwm 940 (by decide +kernel) rfl
theorem tw_941 : Cond.selects RX8 yX8_wanted yX8_wanted ∈ gw := gwm 941 (by decide +kernel) rfl
theorem tw_942 : Cond.code yX8_wanted cX8_wanted 6 (some .int) ∈ gw := gwm 942 (by decide +kernel) rfl
theorem tw_943 : Cond.methodLink RX8 189 yX8_valueBy ∈ gw := gwm 943 (by decide +kernel) rfl
theorem tw_945 : Cond.instanceMethod yX8_valueBy ∈ gw := gwm 945 (by decide +kernel) rfl
theorem tw_946 : Cond.code yX8_valueBy cX8_valueBy 5 (some .int) ∈ gw := gwm 946 (by decide +kernel) rfl
theorem tw_947 : Cond.methodLink RL 76 yX8_sees ∈ gw := gwm 947 (by decide +kernel) rfl
theorem tw_948 : Cond.instanceMethod yX8_sees ∈ gw := gwm 948 (by decide +kernel) rfl
theorem tw_949 : Cond.selects RX8 yX8_sees yX8_sees ∈ gw := gwm 949 (by decide +kernel) rfl
theorem tw_950 : Cond.code yX8_sees cX8_sees 4 (some .int) ∈ gw := gwm 950 (by decide +kernel) rfl
theorem tw_951 : Cond.methodLink RL 80 yX8_forget ∈ gw := gwm 951 (by decide +kernel) rfl
theorem tw_952 : Cond.instanceMethod yX8_forget ∈ gw := gwm 952 (by decide +kernel) rfl
theorem tw_953 : Cond.selects RX8 yX8_forget yX8_forget ∈ gw := gwm 953 (by decide +kernel) rfl
theorem tw_954 : Cond.code yX8_forget cX8_forget 2 (some .int) ∈ gw := gwm 954 (by decide +kernel) rfl
theorem tw_955 : Cond.methodLink RL 84 yX8_unseen ∈ gw := gwm 955 (by decide +kernel) rfl
theorem tw_956 : Cond.instanceMethod yX8_unseen ∈ gw := gwm 956 (by decide +kernel) rfl
theorem tw_957 : Cond.selects RX8 yX8_unseen yX8_unseen ∈ gw := gwm 957 (by decide +kernel) rfl
theorem tw_958 : Cond.code yX8_unseen cX8_unseen 1 (some .int) ∈ gw := gwm 958 (by decide +kernel) rfl
theorem tw_959 : Cond.methodLink RX8 192 yX8_unseenSet ∈ gw := gwm 959 (by decide +kernel) rfl
theorem tw_961 : Cond.instanceMethod yX8_unseenSet ∈ gw := gwm 961 (by decide +kernel) rfl
theorem tw_962 : Cond.code yX8_unseenSet cX8_unseenSet 5 (some .int) ∈ gw := gwm 962 (by decide +kernel) rfl
theorem tw_963 : Cond.methodLink RL 88 yX8_ask ∈ gw := gwm 963 (by decide +kernel) rfl
theorem tw_964 : Cond.instanceMethod yX8_ask ∈ gw := gwm 964 (by decide +kernel) rfl
theorem tw_965 : Cond.selects RX8 yX8_ask yX8_ask ∈ gw := gwm 965 (by decide +kernel) rfl
theorem tw_966 : Cond.code yX8_ask cX8_ask 7 (some .int) ∈ gw := gwm 966 (by decide +kernel) rfl
theorem tw_967 : Cond.methodLink RL 92 yX8_keep ∈ gw := gwm 967 (by decide +kernel) rfl
theorem tw_968 : Cond.instanceMethod yX8_keep ∈ gw := gwm 968 (by decide +kernel) rfl
theorem tw_969 : Cond.selects RX8 yX8_keep yX8_keep ∈ gw := gwm 969 (by decide +kernel) rfl
theorem tw_970 : Cond.code yX8_keep cX8_keep 3 (some .int) ∈ gw := gwm 970 (by decide +kernel) rfl
theorem tw_971 : Cond.methodLink RL 96 yX8_back ∈ gw := gwm 971 (by decide +kernel) rfl
theorem tw_972 : Cond.instanceMethod yX8_back ∈ gw := gwm 972 (by decide +kernel) rfl
theorem tw_973 : Cond.selects RX8 yX8_back yX8_back ∈ gw := gwm 973 (by decide +kernel) rfl
theorem tw_974 : Cond.code yX8_back cX8_back 3 (some .int) ∈ gw := gwm 974 (by decide +kernel) rfl
theorem tw_975 : Cond.methodLink RL 100 yX8_count ∈ gw := gwm 975 (by decide +kernel) rfl
theorem tw_976 : Cond.instanceMethod yX8_count ∈ gw := gwm 976 (by decide +kernel) rfl
theorem tw_977 : Cond.selects RX8 yX8_count yX8_count ∈ gw := gwm 977 (by decide +kernel) rfl
theorem tw_978 : Cond.code yX8_count cX8_count 2 (some .int) ∈ gw := gwm 978 (by decide +kernel) rfl
theorem tw_979 : Cond.methodLink RX8 196 yX8_styles ∈ gw := gwm 979 (by decide +kernel) rfl
theorem tw_981 : Cond.instanceMethod yX8_styles ∈ gw := gwm 981 (by decide +kernel) rfl
theorem tw_982 : Cond.code yX8_styles cX8_styles 3 (some .int) ∈ gw := gwm 982 (by decide +kernel) rfl
def nst : List Cond := [Cond.methodLinkNest RX7 19 yX2_init RX7, Cond.methodLinkNest RX4 27 yX1_init RX7, Cond.arrayOver (.object "StyleTree$Rule"), Cond.methodLinkNest RX4 38 yX3_init RX7, Cond.methodLinkNest RX7 33 yX1_init RX7, Cond.methodLinkNest RX7 43 yX6_init RX7, Cond.methodLinkNest RX7 53 yX0_init RX7, Cond.methodLinkNest RX7 60 yX5_init RX7, Cond.arrayOver (.object "StyleTree$Look"), Cond.methodLinkNest RX4 42 yX7_within RX7, Cond.methodLinkNest RX2 80 yX7_within RX7, Cond.methodLinkNest RX3 45 yX7_within RX7, Cond.methodLinkNest RX2 124 yX7_hasBit RX7, Cond.methodLinkNest RX1 28 yX7_hasBit RX7, Cond.methodLinkNest RX6 56 yX7_hasBit RX7, Cond.methodLinkNest RX4 52 yX7_hasBit RX7, Cond.methodLinkNest RX6 67 yX7_within RX7, Cond.methodLinkNest RX1 39 yX7_within RX7, Cond.methodLinkNest RX0 25 yX7_within RX7, Cond.methodLinkNest RX5 25 yX7_within RX7]
theorem tn_83 : Cond.methodLinkNest RX7 19 yX2_init RX7 ∈ nst := List.mem_of_getElem? (i := 0) rfl
theorem tn_95 : Cond.methodLinkNest RX4 27 yX1_init RX7 ∈ nst := List.mem_of_getElem? (i := 1) rfl
theorem tn_118 : Cond.arrayOver (.object "StyleTree$Rule") ∈ nst := List.mem_of_getElem? (i := 2) rfl
theorem tn_120 : Cond.methodLinkNest RX4 38 yX3_init RX7 ∈ nst := List.mem_of_getElem? (i := 3) rfl
theorem tn_221 : Cond.methodLinkNest RX7 33 yX1_init RX7 ∈ nst := List.mem_of_getElem? (i := 4) rfl
theorem tn_224 : Cond.methodLinkNest RX7 43 yX6_init RX7 ∈ nst := List.mem_of_getElem? (i := 5) rfl
theorem tn_246 : Cond.methodLinkNest RX7 53 yX0_init RX7 ∈ nst := List.mem_of_getElem? (i := 6) rfl
theorem tn_260 : Cond.methodLinkNest RX7 60 yX5_init RX7 ∈ nst := List.mem_of_getElem? (i := 7) rfl
theorem tn_278 : Cond.arrayOver (.object "StyleTree$Look") ∈ nst := List.mem_of_getElem? (i := 8) rfl
theorem tn_377 : Cond.methodLinkNest RX4 42 yX7_within RX7 ∈ nst := List.mem_of_getElem? (i := 9) rfl
theorem tn_382 : Cond.methodLinkNest RX2 80 yX7_within RX7 ∈ nst := List.mem_of_getElem? (i := 10) rfl
theorem tn_399 : Cond.methodLinkNest RX3 45 yX7_within RX7 ∈ nst := List.mem_of_getElem? (i := 11) rfl
theorem tn_422 : Cond.methodLinkNest RX2 124 yX7_hasBit RX7 ∈ nst := List.mem_of_getElem? (i := 12) rfl
theorem tn_472 : Cond.methodLinkNest RX1 28 yX7_hasBit RX7 ∈ nst := List.mem_of_getElem? (i := 13) rfl
theorem tn_493 : Cond.methodLinkNest RX6 56 yX7_hasBit RX7 ∈ nst := List.mem_of_getElem? (i := 14) rfl
theorem tn_502 : Cond.methodLinkNest RX4 52 yX7_hasBit RX7 ∈ nst := List.mem_of_getElem? (i := 15) rfl
theorem tn_503 : Cond.methodLinkNest RX6 67 yX7_within RX7 ∈ nst := List.mem_of_getElem? (i := 16) rfl
theorem tn_553 : Cond.methodLinkNest RX1 39 yX7_within RX7 ∈ nst := List.mem_of_getElem? (i := 17) rfl
theorem tn_563 : Cond.methodLinkNest RX0 25 yX7_within RX7 ∈ nst := List.mem_of_getElem? (i := 18) rfl
theorem tn_637 : Cond.methodLinkNest RX5 25 yX7_within RX7 ∈ nst := List.mem_of_getElem? (i := 19) rfl
theorem nst_tbl : ∀ w ∈ nst, w ∈ lw_tbl := by
  intro w hw
  simp only [nst, List.mem_cons, List.not_mem_nil, or_false] at hw
  rcases hw with rfl | rfl | rfl | rfl | rfl | rfl | rfl | rfl | rfl | rfl | rfl | rfl | rfl | rfl | rfl | rfl | rfl | rfl | rfl | rfl
  · exact List.mem_of_getElem? (i := 83) (by decide +kernel)
  · exact List.mem_of_getElem? (i := 95) (by decide +kernel)
  · exact List.mem_of_getElem? (i := 118) (by decide +kernel)
  · exact List.mem_of_getElem? (i := 120) (by decide +kernel)
  · exact List.mem_of_getElem? (i := 221) (by decide +kernel)
  · exact List.mem_of_getElem? (i := 224) (by decide +kernel)
  · exact List.mem_of_getElem? (i := 246) (by decide +kernel)
  · exact List.mem_of_getElem? (i := 260) (by decide +kernel)
  · exact List.mem_of_getElem? (i := 278) (by decide +kernel)
  · exact List.mem_of_getElem? (i := 377) (by decide +kernel)
  · exact List.mem_of_getElem? (i := 382) (by decide +kernel)
  · exact List.mem_of_getElem? (i := 399) (by decide +kernel)
  · exact List.mem_of_getElem? (i := 422) (by decide +kernel)
  · exact List.mem_of_getElem? (i := 472) (by decide +kernel)
  · exact List.mem_of_getElem? (i := 493) (by decide +kernel)
  · exact List.mem_of_getElem? (i := 502) (by decide +kernel)
  · exact List.mem_of_getElem? (i := 503) (by decide +kernel)
  · exact List.mem_of_getElem? (i := 553) (by decide +kernel)
  · exact List.mem_of_getElem? (i := 563) (by decide +kernel)
  · exact List.mem_of_getElem? (i := 637) (by decide +kernel)
theorem nst_moved {s U : State} (hW : s.WarmedH U.vm) (h : ∀ w ∈ nst, va_Nw w s) : ∀ w ∈ nst, va_Nw w U := by
  intro w hw
  have h0 := h w hw
  simp only [nst, List.mem_cons, List.not_mem_nil, or_false] at hw
  rcases hw with rfl | rfl | rfl | rfl | rfl | rfl | rfl | rfl | rfl | rfl | rfl | rfl | rfl | rfl | rfl | rfl | rfl | rfl | rfl | rfl
  · exact va_Nw.warmM hW h0
  · exact va_Nw.warmM hW h0
  · exact va_AO.moved hW.alike h0
  · exact va_Nw.warmM hW h0
  · exact va_Nw.warmM hW h0
  · exact va_Nw.warmM hW h0
  · exact va_Nw.warmM hW h0
  · exact va_Nw.warmM hW h0
  · exact va_AO.moved hW.alike h0
  · exact va_Nw.warmM hW h0
  · exact va_Nw.warmM hW h0
  · exact va_Nw.warmM hW h0
  · exact va_Nw.warmM hW h0
  · exact va_Nw.warmM hW h0
  · exact va_Nw.warmM hW h0
  · exact va_Nw.warmM hW h0
  · exact va_Nw.warmM hW h0
  · exact va_Nw.warmM hW h0
  · exact va_Nw.warmM hW h0
  · exact va_Nw.warmM hW h0
theorem nst_calling {U : State} {g : JFrame} {mk : MethodId} {a : Array Value} (h : ∀ w ∈ nst, va_Nw w U) : ∀ w ∈ nst, va_Nw w (U.calling g mk a) := by
  intro w hw
  have h0 := h w hw
  simp only [nst, List.mem_cons, List.not_mem_nil, or_false] at hw
  rcases hw with rfl | rfl | rfl | rfl | rfl | rfl | rfl | rfl | rfl | rfl | rfl | rfl | rfl | rfl | rfl | rfl | rfl | rfl | rfl | rfl
  · exact va_Nw.same (u := U) rfl rfl h0
  · exact va_Nw.same (u := U) rfl rfl h0
  · exact va_AO.moved (u := U) (U := U.calling g mk a) (Vm.Alike.refl U.vm) h0
  · exact va_Nw.same (u := U) rfl rfl h0
  · exact va_Nw.same (u := U) rfl rfl h0
  · exact va_Nw.same (u := U) rfl rfl h0
  · exact va_Nw.same (u := U) rfl rfl h0
  · exact va_Nw.same (u := U) rfl rfl h0
  · exact va_AO.moved (u := U) (U := U.calling g mk a) (Vm.Alike.refl U.vm) h0
  · exact va_Nw.same (u := U) rfl rfl h0
  · exact va_Nw.same (u := U) rfl rfl h0
  · exact va_Nw.same (u := U) rfl rfl h0
  · exact va_Nw.same (u := U) rfl rfl h0
  · exact va_Nw.same (u := U) rfl rfl h0
  · exact va_Nw.same (u := U) rfl rfl h0
  · exact va_Nw.same (u := U) rfl rfl h0
  · exact va_Nw.same (u := U) rfl rfl h0
  · exact va_Nw.same (u := U) rfl rfl h0
  · exact va_Nw.same (u := U) rfl rfl h0
  · exact va_Nw.same (u := U) rfl rfl h0
theorem hinX0 : ∀ w ∈ u_ws RX0 TX0 2, w ∈ gw := by
  intro w hw
  obtain ⟨k, hk, rfl⟩ := List.mem_map.mp hw
  have hk := List.mem_range.mp hk
  rcases (show k = 0 ∨ k = 1 by omega) with rfl | rfl
  · exact gwm 253 (by decide +kernel) rfl
  · exact gwm 255 (by decide +kernel) rfl
theorem hinX1 : ∀ w ∈ u_ws RX1 TX1 3, w ∈ gw := by
  intro w hw
  obtain ⟨k, hk, rfl⟩ := List.mem_map.mp hw
  have hk := List.mem_range.mp hk
  rcases (show k = 0 ∨ k = 1 ∨ k = 2 by omega) with rfl | rfl | rfl
  · exact gwm 108 (by decide +kernel) rfl
  · exact gwm 110 (by decide +kernel) rfl
  · exact gwm 112 (by decide +kernel) rfl
theorem hinX2 : ∀ w ∈ u_ws RX2 TX2 6, w ∈ gw := by
  intro w hw
  obtain ⟨k, hk, rfl⟩ := List.mem_map.mp hw
  have hk := List.mem_range.mp hk
  rcases (show k = 0 ∨ k = 1 ∨ k = 2 ∨ k = 3 ∨ k = 4 ∨ k = 5 by omega) with rfl | rfl | rfl | rfl | rfl | rfl
  · exact gwm 205 (by decide +kernel) rfl
  · exact gwm 207 (by decide +kernel) rfl
  · exact gwm 209 (by decide +kernel) rfl
  · exact gwm 211 (by decide +kernel) rfl
  · exact gwm 213 (by decide +kernel) rfl
  · exact gwm 215 (by decide +kernel) rfl
theorem hinX3 : ∀ w ∈ u_ws RX3 TX3 10, w ∈ gw := by
  intro w hw
  obtain ⟨k, hk, rfl⟩ := List.mem_map.mp hw
  have hk := List.mem_range.mp hk
  rcases (show k = 0 ∨ k = 1 ∨ k = 2 ∨ k = 3 ∨ k = 4 ∨ k = 5 ∨ k = 6 ∨ k = 7 ∨ k = 8 ∨ k = 9 by omega) with rfl | rfl | rfl | rfl | rfl | rfl | rfl | rfl | rfl | rfl
  · exact gwm 146 (by decide +kernel) rfl
  · exact gwm 148 (by decide +kernel) rfl
  · exact gwm 150 (by decide +kernel) rfl
  · exact gwm 152 (by decide +kernel) rfl
  · exact gwm 154 (by decide +kernel) rfl
  · exact gwm 156 (by decide +kernel) rfl
  · exact gwm 158 (by decide +kernel) rfl
  · exact gwm 160 (by decide +kernel) rfl
  · exact gwm 162 (by decide +kernel) rfl
  · exact gwm 164 (by decide +kernel) rfl
theorem hinX4 : ∀ w ∈ u_ws RX4 TX4 6, w ∈ gw := by
  intro w hw
  obtain ⟨k, hk, rfl⟩ := List.mem_map.mp hw
  have hk := List.mem_range.mp hk
  rcases (show k = 0 ∨ k = 1 ∨ k = 2 ∨ k = 3 ∨ k = 4 ∨ k = 5 by omega) with rfl | rfl | rfl | rfl | rfl | rfl
  · exact gwm 186 (by decide +kernel) rfl
  · exact gwm 188 (by decide +kernel) rfl
  · exact gwm 190 (by decide +kernel) rfl
  · exact gwm 192 (by decide +kernel) rfl
  · exact gwm 194 (by decide +kernel) rfl
  · exact gwm 196 (by decide +kernel) rfl
theorem hinX5 : ∀ w ∈ u_ws RX5 TX5 4, w ∈ gw := by
  intro w hw
  obtain ⟨k, hk, rfl⟩ := List.mem_map.mp hw
  have hk := List.mem_range.mp hk
  rcases (show k = 0 ∨ k = 1 ∨ k = 2 ∨ k = 3 by omega) with rfl | rfl | rfl | rfl
  · exact gwm 269 (by decide +kernel) rfl
  · exact gwm 271 (by decide +kernel) rfl
  · exact gwm 273 (by decide +kernel) rfl
  · exact gwm 275 (by decide +kernel) rfl
theorem hinX6 : ∀ w ∈ u_ws RX6 TX6 5, w ∈ gw := by
  intro w hw
  obtain ⟨k, hk, rfl⟩ := List.mem_map.mp hw
  have hk := List.mem_range.mp hk
  rcases (show k = 0 ∨ k = 1 ∨ k = 2 ∨ k = 3 ∨ k = 4 by omega) with rfl | rfl | rfl | rfl | rfl
  · exact gwm 233 (by decide +kernel) rfl
  · exact gwm 235 (by decide +kernel) rfl
  · exact gwm 237 (by decide +kernel) rfl
  · exact gwm 239 (by decide +kernel) rfl
  · exact gwm 241 (by decide +kernel) rfl
theorem hinX7 : ∀ w ∈ u_ws RX7 TX7 13, w ∈ gw := by
  intro w hw
  obtain ⟨k, hk, rfl⟩ := List.mem_map.mp hw
  have hk := List.mem_range.mp hk
  rcases (show k = 0 ∨ k = 1 ∨ k = 2 ∨ k = 3 ∨ k = 4 ∨ k = 5 ∨ k = 6 ∨ k = 7 ∨ k = 8 ∨ k = 9 ∨ k = 10 ∨ k = 11 ∨ k = 12 by omega) with rfl | rfl | rfl | rfl | rfl | rfl | rfl | rfl | rfl | rfl | rfl | rfl | rfl
  · exact gwm 292 (by decide +kernel) rfl
  · exact gwm 294 (by decide +kernel) rfl
  · exact gwm 296 (by decide +kernel) rfl
  · exact gwm 298 (by decide +kernel) rfl
  · exact gwm 300 (by decide +kernel) rfl
  · exact gwm 302 (by decide +kernel) rfl
  · exact gwm 304 (by decide +kernel) rfl
  · exact gwm 306 (by decide +kernel) rfl
  · exact gwm 308 (by decide +kernel) rfl
  · exact gwm 310 (by decide +kernel) rfl
  · exact gwm 312 (by decide +kernel) rfl
  · exact gwm 314 (by decide +kernel) rfl
  · exact gwm 316 (by decide +kernel) rfl
theorem hinX8 : ∀ w ∈ u_ws RX8 TX8 22, w ∈ gw := by
  intro w hw
  obtain ⟨k, hk, rfl⟩ := List.mem_map.mp hw
  have hk := List.mem_range.mp hk
  rcases (show k = 0 ∨ k = 1 ∨ k = 2 ∨ k = 3 ∨ k = 4 ∨ k = 5 ∨ k = 6 ∨ k = 7 ∨ k = 8 ∨ k = 9 ∨ k = 10 ∨ k = 11 ∨ k = 12 ∨ k = 13 ∨ k = 14 ∨ k = 15 ∨ k = 16 ∨ k = 17 ∨ k = 18 ∨ k = 19 ∨ k = 20 ∨ k = 21 by omega) with rfl | rfl | rfl | rfl | rfl | rfl | rfl | rfl | rfl | rfl | rfl | rfl | rfl | rfl | rfl | rfl | rfl | rfl | rfl | rfl | rfl | rfl
  · exact gwm 719 (by decide +kernel) rfl
  · exact gwm 721 (by decide +kernel) rfl
  · exact gwm 723 (by decide +kernel) rfl
  · exact gwm 725 (by decide +kernel) rfl
  · exact gwm 727 (by decide +kernel) rfl
  · exact gwm 729 (by decide +kernel) rfl
  · exact gwm 731 (by decide +kernel) rfl
  · exact gwm 733 (by decide +kernel) rfl
  · exact gwm 735 (by decide +kernel) rfl
  · exact gwm 737 (by decide +kernel) rfl
  · exact gwm 739 (by decide +kernel) rfl
  · exact gwm 741 (by decide +kernel) rfl
  · exact gwm 743 (by decide +kernel) rfl
  · exact gwm 745 (by decide +kernel) rfl
  · exact gwm 747 (by decide +kernel) rfl
  · exact gwm 749 (by decide +kernel) rfl
  · exact gwm 751 (by decide +kernel) rfl
  · exact gwm 753 (by decide +kernel) rfl
  · exact gwm 755 (by decide +kernel) rfl
  · exact gwm 757 (by decide +kernel) rfl
  · exact gwm 759 (by decide +kernel) rfl
  · exact gwm 761 (by decide +kernel) rfl
