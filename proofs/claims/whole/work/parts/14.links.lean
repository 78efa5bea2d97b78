theorem k1_32 : (Cond.fieldLink "LaneOrder$Text" (9 : Nat) "LaneOrder$Text" "codes" "[I") ∈ tb := tb1 32 (by decide +kernel) rfl
theorem k1_33 : (Cond.fieldLinkNest "LaneOrder" (277 : Nat) "LaneOrder$Text" "codes" "[I" "LaneOrder") ∈ nw := nw1 33 (by decide +kernel) rfl
theorem k1_34 : (Cond.fieldLink "LaneOrder$Text" (15 : Nat) "LaneOrder$Text" "length" "I") ∈ tb := tb1 34 (by decide +kernel) rfl
theorem k1_35 : (Cond.fieldLinkNest "LaneOrder" (50 : Nat) "LaneOrder$Text" "length" "I" "LaneOrder") ∈ nw := nw1 35 (by decide +kernel) rfl
theorem k1_54 : (Cond.fieldLink "LaneOrder$Sheet" (9 : Nat) "LaneOrder$Sheet" "kind" "[I") ∈ tb := tb1 54 (by decide +kernel) rfl
theorem k1_55 : (Cond.fieldLinkNest "LaneOrder$Reading" (67 : Nat) "LaneOrder$Sheet" "kind" "[I" "LaneOrder") ∈ nw := nw1 55 (by decide +kernel) rfl
theorem k1_56 : (Cond.fieldLinkNest "LaneOrder" (94 : Nat) "LaneOrder$Sheet" "kind" "[I" "LaneOrder") ∈ nw := nw1 56 (by decide +kernel) rfl
theorem k1_57 : (Cond.fieldLink "LaneOrder$Sheet" (15 : Nat) "LaneOrder$Sheet" "left" "[I") ∈ tb := tb1 57 (by decide +kernel) rfl
theorem k1_58 : (Cond.fieldLinkNest "LaneOrder$Reading" (99 : Nat) "LaneOrder$Sheet" "left" "[I" "LaneOrder") ∈ nw := nw1 58 (by decide +kernel) rfl
theorem k1_59 : (Cond.fieldLinkNest "LaneOrder" (98 : Nat) "LaneOrder$Sheet" "left" "[I" "LaneOrder") ∈ nw := nw1 59 (by decide +kernel) rfl
theorem k1_60 : (Cond.fieldLink "LaneOrder$Sheet" (18 : Nat) "LaneOrder$Sheet" "top" "[I") ∈ tb := tb1 60 (by decide +kernel) rfl
theorem k1_61 : (Cond.fieldLinkNest "LaneOrder$Reading" (89 : Nat) "LaneOrder$Sheet" "top" "[I" "LaneOrder") ∈ nw := nw1 61 (by decide +kernel) rfl
theorem k1_62 : (Cond.fieldLinkNest "LaneOrder" (101 : Nat) "LaneOrder$Sheet" "top" "[I" "LaneOrder") ∈ nw := nw1 62 (by decide +kernel) rfl
theorem k1_63 : (Cond.fieldLink "LaneOrder$Sheet" (21 : Nat) "LaneOrder$Sheet" "right" "[I") ∈ tb := tb1 63 (by decide +kernel) rfl
theorem k1_64 : (Cond.fieldLinkNest "LaneOrder$Reading" (102 : Nat) "LaneOrder$Sheet" "right" "[I" "LaneOrder") ∈ nw := nw1 64 (by decide +kernel) rfl
theorem k1_65 : (Cond.fieldLinkNest "LaneOrder" (104 : Nat) "LaneOrder$Sheet" "right" "[I" "LaneOrder") ∈ nw := nw1 65 (by decide +kernel) rfl
theorem k1_66 : (Cond.fieldLink "LaneOrder$Sheet" (24 : Nat) "LaneOrder$Sheet" "bottom" "[I") ∈ tb := tb1 66 (by decide +kernel) rfl
theorem k1_67 : (Cond.fieldLinkNest "LaneOrder$Reading" (92 : Nat) "LaneOrder$Sheet" "bottom" "[I" "LaneOrder") ∈ nw := nw1 67 (by decide +kernel) rfl
theorem k1_68 : (Cond.fieldLinkNest "LaneOrder" (107 : Nat) "LaneOrder$Sheet" "bottom" "[I" "LaneOrder") ∈ nw := nw1 68 (by decide +kernel) rfl
theorem k1_69 : (Cond.fieldLink "LaneOrder$Sheet" (30 : Nat) "LaneOrder$Sheet" "size" "I") ∈ tb := tb1 69 (by decide +kernel) rfl
theorem k1_70 : (Cond.fieldLinkNest "LaneOrder$Reading" (64 : Nat) "LaneOrder$Sheet" "size" "I" "LaneOrder") ∈ nw := nw1 70 (by decide +kernel) rfl
theorem k1_71 : (Cond.fieldLinkNest "LaneOrder" (87 : Nat) "LaneOrder$Sheet" "size" "I" "LaneOrder") ∈ nw := nw1 71 (by decide +kernel) rfl
theorem k1_72 : (Cond.fieldLink "LaneOrder$Sheet" (27 : Nat) "LaneOrder$Sheet" "rule" "[I") ∈ tb := tb1 72 (by decide +kernel) rfl
theorem k1_73 : (Cond.fieldLinkNest "LaneOrder" (237 : Nat) "LaneOrder$Sheet" "rule" "[I" "LaneOrder") ∈ nw := nw1 73 (by decide +kernel) rfl
theorem k1_74 : (Cond.fieldLink "LaneOrder$Sheet" (34 : Nat) "LaneOrder$Sheet" "ruleCount" "I") ∈ tb := tb1 74 (by decide +kernel) rfl
theorem k1_75 : (Cond.fieldLinkNest "LaneOrder" (208 : Nat) "LaneOrder$Sheet" "ruleCount" "I" "LaneOrder") ∈ nw := nw1 75 (by decide +kernel) rfl
theorem k1_99 : (Cond.fieldLink "LaneOrder$Cuts" (9 : Nat) "LaneOrder$Cuts" "axis" "[I") ∈ tb := tb1 99 (by decide +kernel) rfl
theorem k1_100 : (Cond.fieldLinkNest "LaneOrder" (146 : Nat) "LaneOrder$Cuts" "axis" "[I" "LaneOrder") ∈ nw := nw1 100 (by decide +kernel) rfl
theorem k1_101 : (Cond.fieldLink "LaneOrder$Cuts" (15 : Nat) "LaneOrder$Cuts" "at" "[I") ∈ tb := tb1 101 (by decide +kernel) rfl
theorem k1_102 : (Cond.fieldLinkNest "LaneOrder" (149 : Nat) "LaneOrder$Cuts" "at" "[I" "LaneOrder") ∈ nw := nw1 102 (by decide +kernel) rfl
theorem k1_103 : (Cond.fieldLink "LaneOrder$Cuts" (18 : Nat) "LaneOrder$Cuts" "width" "[I") ∈ tb := tb1 103 (by decide +kernel) rfl
theorem k1_104 : (Cond.fieldLinkNest "LaneOrder" (152 : Nat) "LaneOrder$Cuts" "width" "[I" "LaneOrder") ∈ nw := nw1 104 (by decide +kernel) rfl
theorem k1_105 : (Cond.fieldLink "LaneOrder$Cuts" (21 : Nat) "LaneOrder$Cuts" "first" "[I") ∈ tb := tb1 105 (by decide +kernel) rfl
theorem k1_106 : (Cond.fieldLinkNest "LaneOrder" (155 : Nat) "LaneOrder$Cuts" "first" "[I" "LaneOrder") ∈ nw := nw1 106 (by decide +kernel) rfl
theorem k1_107 : (Cond.fieldLink "LaneOrder$Cuts" (24 : Nat) "LaneOrder$Cuts" "second" "[I") ∈ tb := tb1 107 (by decide +kernel) rfl
theorem k1_108 : (Cond.fieldLinkNest "LaneOrder" (158 : Nat) "LaneOrder$Cuts" "second" "[I" "LaneOrder") ∈ nw := nw1 108 (by decide +kernel) rfl
theorem k1_109 : (Cond.fieldLink "LaneOrder$Cuts" (27 : Nat) "LaneOrder$Cuts" "size" "I") ∈ tb := tb1 109 (by decide +kernel) rfl
theorem k1_110 : (Cond.fieldLinkNest "LaneOrder" (143 : Nat) "LaneOrder$Cuts" "size" "I" "LaneOrder") ∈ nw := nw1 110 (by decide +kernel) rfl
theorem k1_130 : (Cond.fieldLink "LaneOrder$Lanes" (9 : Nat) "LaneOrder$Lanes" "axis" "[I") ∈ tb := tb1 130 (by decide +kernel) rfl
theorem k1_131 : (Cond.fieldLinkNest "LaneOrder$Reading" (127 : Nat) "LaneOrder$Lanes" "axis" "[I" "LaneOrder") ∈ nw := nw1 131 (by decide +kernel) rfl
theorem k1_132 : (Cond.fieldLinkNest "LaneOrder" (175 : Nat) "LaneOrder$Lanes" "axis" "[I" "LaneOrder") ∈ nw := nw1 132 (by decide +kernel) rfl
theorem k1_133 : (Cond.fieldLink "LaneOrder$Lanes" (15 : Nat) "LaneOrder$Lanes" "at" "[I") ∈ tb := tb1 133 (by decide +kernel) rfl
theorem k1_134 : (Cond.fieldLinkNest "LaneOrder$Reading" (130 : Nat) "LaneOrder$Lanes" "at" "[I" "LaneOrder") ∈ nw := nw1 134 (by decide +kernel) rfl
theorem k1_135 : (Cond.fieldLinkNest "LaneOrder" (176 : Nat) "LaneOrder$Lanes" "at" "[I" "LaneOrder") ∈ nw := nw1 135 (by decide +kernel) rfl
theorem k1_136 : (Cond.fieldLink "LaneOrder$Lanes" (18 : Nat) "LaneOrder$Lanes" "width" "[I") ∈ tb := tb1 136 (by decide +kernel) rfl
theorem k1_137 : (Cond.fieldLinkNest "LaneOrder$Reading" (133 : Nat) "LaneOrder$Lanes" "width" "[I" "LaneOrder") ∈ nw := nw1 137 (by decide +kernel) rfl
theorem k1_138 : (Cond.fieldLinkNest "LaneOrder" (177 : Nat) "LaneOrder$Lanes" "width" "[I" "LaneOrder") ∈ nw := nw1 138 (by decide +kernel) rfl
theorem k1_139 : (Cond.fieldLink "LaneOrder$Lanes" (21 : Nat) "LaneOrder$Lanes" "size" "I") ∈ tb := tb1 139 (by decide +kernel) rfl
theorem k1_140 : (Cond.fieldLinkNest "LaneOrder$Reading" (120 : Nat) "LaneOrder$Lanes" "size" "I" "LaneOrder") ∈ nw := nw1 140 (by decide +kernel) rfl
theorem k1_141 : (Cond.fieldLinkNest "LaneOrder" (172 : Nat) "LaneOrder$Lanes" "size" "I" "LaneOrder") ∈ nw := nw1 141 (by decide +kernel) rfl
theorem k1_151 : (Cond.fieldLink "LaneOrder$Reading" (12 : Nat) "LaneOrder$Reading" "sheet" "LLaneOrder$Sheet;") ∈ tb := tb1 151 (by decide +kernel) rfl
theorem k1_152 : (Cond.fieldLinkNest "LaneOrder" (69 : Nat) "LaneOrder$Reading" "sheet" "LLaneOrder$Sheet;" "LaneOrder") ∈ nw := nw1 152 (by decide +kernel) rfl
theorem k1_153 : (Cond.fieldLink "LaneOrder$Reading" (18 : Nat) "LaneOrder$Reading" "order" "[I") ∈ tb := tb1 153 (by decide +kernel) rfl
theorem k1_154 : (Cond.fieldLinkNest "LaneOrder" (136 : Nat) "LaneOrder$Reading" "order" "[I" "LaneOrder") ∈ nw := nw1 154 (by decide +kernel) rfl
theorem k1_155 : (Cond.fieldLink "LaneOrder$Reading" (85 : Nat) "LaneOrder$Reading" "orderSize" "I") ∈ tb := tb1 155 (by decide +kernel) rfl
theorem k1_156 : (Cond.fieldLinkNest "LaneOrder" (133 : Nat) "LaneOrder$Reading" "orderSize" "I" "LaneOrder") ∈ nw := nw1 156 (by decide +kernel) rfl
theorem k1_157 : (Cond.fieldLink "LaneOrder$Reading" (22 : Nat) "LaneOrder$Reading" "place" "[I") ∈ tb := tb1 157 (by decide +kernel) rfl
theorem k1_158 : (Cond.fieldLinkNest "LaneOrder" (110 : Nat) "LaneOrder$Reading" "place" "[I" "LaneOrder") ∈ nw := nw1 158 (by decide +kernel) rfl
theorem k1_159 : (Cond.fieldLink "LaneOrder$Reading" (25 : Nat) "LaneOrder$Reading" "figure" "[I") ∈ tb := tb1 159 (by decide +kernel) rfl
theorem k1_160 : (Cond.fieldLinkNest "LaneOrder" (113 : Nat) "LaneOrder$Reading" "figure" "[I" "LaneOrder") ∈ nw := nw1 160 (by decide +kernel) rfl
theorem k1_161 : (Cond.fieldLink "LaneOrder$Reading" (28 : Nat) "LaneOrder$Reading" "depth" "[I") ∈ tb := tb1 161 (by decide +kernel) rfl
theorem k1_162 : (Cond.fieldLinkNest "LaneOrder" (116 : Nat) "LaneOrder$Reading" "depth" "[I" "LaneOrder") ∈ nw := nw1 162 (by decide +kernel) rfl
theorem k1_163 : (Cond.fieldLink "LaneOrder$Reading" (31 : Nat) "LaneOrder$Reading" "leaf" "[I") ∈ tb := tb1 163 (by decide +kernel) rfl
theorem k1_164 : (Cond.fieldLink "LaneOrder$Reading" (57 : Nat) "LaneOrder$Reading" "leafCount" "I") ∈ tb := tb1 164 (by decide +kernel) rfl
theorem k1_165 : (Cond.fieldLinkNest "LaneOrder" (256 : Nat) "LaneOrder$Reading" "leafCount" "I" "LaneOrder") ∈ nw := nw1 165 (by decide +kernel) rfl
theorem k1_166 : (Cond.fieldLink "LaneOrder$Reading" (37 : Nat) "LaneOrder$Reading" "cuts" "LLaneOrder$Cuts;") ∈ tb := tb1 166 (by decide +kernel) rfl
theorem k1_167 : (Cond.fieldLinkNest "LaneOrder" (139 : Nat) "LaneOrder$Reading" "cuts" "LLaneOrder$Cuts;" "LaneOrder") ∈ nw := nw1 167 (by decide +kernel) rfl
theorem k1_168 : (Cond.fieldLink "LaneOrder$Reading" (44 : Nat) "LaneOrder$Reading" "lanes" "LLaneOrder$Lanes;") ∈ tb := tb1 168 (by decide +kernel) rfl
theorem k1_169 : (Cond.fieldLinkNest "LaneOrder" (168 : Nat) "LaneOrder$Reading" "lanes" "LLaneOrder$Lanes;" "LaneOrder") ∈ nw := nw1 169 (by decide +kernel) rfl
theorem k1_170 : (Cond.fieldLink "LaneOrder$Reading" (48 : Nat) "LaneOrder$Reading" "row" "[I") ∈ tb := tb1 170 (by decide +kernel) rfl
theorem k1_171 : (Cond.fieldLink "LaneOrder$Reading" (61 : Nat) "LaneOrder$Reading" "rowSize" "I") ∈ tb := tb1 171 (by decide +kernel) rfl
theorem k1_172 : (Cond.fieldLinkNest "LaneOrder" (161 : Nat) "LaneOrder$Reading" "rowSize" "I" "LaneOrder") ∈ nw := nw1 172 (by decide +kernel) rfl
theorem k1_173 : (Cond.fieldLink "LaneOrder$Reading" (51 : Nat) "LaneOrder$Reading" "secondSide" "[I") ∈ tb := tb1 173 (by decide +kernel) rfl
theorem k1_207 : (Cond.fieldLink "LaneOrder$Seen" (9 : Nat) "LaneOrder$Seen" "box" "[I") ∈ tb := tb1 207 (by decide +kernel) rfl
theorem k1_208 : (Cond.fieldLink "LaneOrder$Seen" (15 : Nat) "LaneOrder$Seen" "kinds" "[I") ∈ tb := tb1 208 (by decide +kernel) rfl
theorem k1_209 : (Cond.fieldLink "LaneOrder$Seen" (18 : Nat) "LaneOrder$Seen" "size" "I") ∈ tb := tb1 209 (by decide +kernel) rfl
theorem k1_210 : (Cond.fieldLinkNest "LaneOrder" (240 : Nat) "LaneOrder$Seen" "size" "I" "LaneOrder") ∈ nw := nw1 210 (by decide +kernel) rfl
theorem k1_226 : (Cond.fieldLink "LaneOrder$Draws" (34 : Nat) "LaneOrder$Draws" "seed" "I") ∈ tb := tb1 226 (by decide +kernel) rfl
theorem k1_227 : (Cond.fieldLinkNest "LaneOrder" (244 : Nat) "LaneOrder$Draws" "seed" "I" "LaneOrder") ∈ nw := nw1 227 (by decide +kernel) rfl
theorem k1_231 : (Cond.fieldLink "LaneOrder" (12 : Nat) "LaneOrder" "text" "LLaneOrder$Text;") ∈ tb := tb1 231 (by decide +kernel) rfl
theorem k1_232 : (Cond.fieldLink "LaneOrder" (19 : Nat) "LaneOrder" "current" "LLaneOrder$Reading;") ∈ tb := tb1 232 (by decide +kernel) rfl
theorem k1_233 : (Cond.fieldLink "LaneOrder" (26 : Nat) "LaneOrder" "seen" "LLaneOrder$Seen;") ∈ tb := tb1 233 (by decide +kernel) rfl
theorem k1_234 : (Cond.fieldLink "LaneOrder" (33 : Nat) "LaneOrder" "keptSheet" "LLaneOrder$Sheet;") ∈ tb := tb1 234 (by decide +kernel) rfl
theorem k1_235 : (Cond.fieldLink "LaneOrder" (37 : Nat) "LaneOrder" "keptSeen" "LLaneOrder$Seen;") ∈ tb := tb1 235 (by decide +kernel) rfl
theorem k1_236 : (Cond.fieldLink "LaneOrder" (80 : Nat) "LaneOrder" "imageKept" "Z") ∈ tb := tb1 236 (by decide +kernel) rfl
theorem k1_237 : (Cond.fieldLink "LaneOrder" (84 : Nat) "LaneOrder" "pagesRead" "I") ∈ tb := tb1 237 (by decide +kernel) rfl
theorem k1_238 : (Cond.fieldLink "LaneOrder" (40 : Nat) "LaneOrder" "trial" "LLaneOrder$Reading;") ∈ tb := tb1 238 (by decide +kernel) rfl
theorem k1_239 : (Cond.fieldLink "LaneOrder" (46 : Nat) "LaneOrder" "draws" "LLaneOrder$Draws;") ∈ tb := tb1 239 (by decide +kernel) rfl
theorem k2_63 : (Cond.fieldLink "java/lang/String" (38 : Nat) "java/lang/String" "COMPACT_STRINGS" "Z") ∈ tb := tb2 63 (by decide +kernel) rfl
theorem k2_93 : (Cond.constant "java/lang/StringUTF16" (227 : Nat) (65536 : Int32)) ∈ tb := tb2 93 (by decide +kernel) rfl
theorem k2_106 : (Cond.fieldLink "java/lang/String" (1053 : Nat) "jdk/internal/util/Preconditions" "SIOOBE_FORMATTER" "Ljava/util/function/BiFunction;") ∈ tb := tb2 106 (by decide +kernel) rfl
theorem k2_117 : (Cond.fieldLink "java/lang/StringUTF16" (44 : Nat) "java/lang/StringUTF16" "$assertionsDisabled" "Z") ∈ tb := tb2 117 (by decide +kernel) rfl
theorem k2_119 : (Cond.fieldLink "java/lang/StringUTF16" (59 : Nat) "java/lang/StringUTF16" "HI_BYTE_SHIFT" "I") ∈ tb := tb2 119 (by decide +kernel) rfl
theorem k2_121 : (Cond.fieldLink "java/lang/StringUTF16" (63 : Nat) "java/lang/StringUTF16" "LO_BYTE_SHIFT" "I") ∈ tb := tb2 121 (by decide +kernel) rfl
theorem k3_10 : (Cond.native ({ cls := "java/lang/System", name := "arraycopy", desc := "(Ljava/lang/Object;ILjava/lang/Object;II)V" } : Jvm.MethodName)) ∈ tb := tb3 10 (by decide +kernel) rfl
theorem k3_166 : (Cond.fieldLink "LaneOrder" (221 : Nat) "LaneOrder" "STEPS_RIGHT" "[I") ∈ tb := tb3 166 (by decide +kernel) rfl
theorem k3_169 : (Cond.fieldLink "LaneOrder" (227 : Nat) "LaneOrder" "STEPS_DOWN" "[I") ∈ tb := tb3 169 (by decide +kernel) rfl
theorem k3_216 : (Cond.constant "LaneOrder$Draws" (39 : Nat) (1103515245 : Int32)) ∈ tb := tb3 216 (by decide +kernel) rfl
theorem k3_217 : (Cond.constant "LaneOrder$Draws" (40 : Nat) (2147483647 : Int32)) ∈ tb := tb3 217 (by decide +kernel) rfl
theorem k3_218 : (Cond.constant "LaneOrder$Draws" (38 : Nat) (65536 : Int32)) ∈ tb := tb3 218 (by decide +kernel) rfl
theorem k4_10 : (Cond.constantLong "LaneOrder" (259 : Nat) (1429 : Int64)) ∈ tb := tb4 10 (by decide +kernel) rfl
theorem k4_11 : (Cond.constantLong "LaneOrder" (261 : Nat) (31 : Int64)) ∈ tb := tb4 11 (by decide +kernel) rfl
theorem k4_24 : (Cond.fieldLink "LaneOrderModel" (7 : Nat) "LaneOrderModel" "signs" "[I") ∈ tb := tb4 24 (by decide +kernel) rfl
theorem k4_25 : (Cond.fieldLink "LaneOrderModel" (80 : Nat) "LaneOrderModel" "signMany" "I") ∈ tb := tb4 25 (by decide +kernel) rfl
theorem k4_26 : (Cond.fieldLink "LaneOrderModel" (93 : Nat) "LaneOrderModel" "end" "I") ∈ tb := tb4 26 (by decide +kernel) rfl
theorem k4_27 : (Cond.fieldLink "LaneOrderModel" (98 : Nat) "LaneOrderModel" "readRules" "I") ∈ tb := tb4 27 (by decide +kernel) rfl
theorem k4_28 : (Cond.fieldLink "LaneOrderModel" (105 : Nat) "LaneOrderModel" "readMany" "I") ∈ tb := tb4 28 (by decide +kernel) rfl
theorem k4_29 : (Cond.fieldLink "LaneOrderModel" (119 : Nat) "LaneOrderModel" "boxes" "I") ∈ tb := tb4 29 (by decide +kernel) rfl
theorem k4_30 : (Cond.fieldLink "LaneOrderModel" (128 : Nat) "LaneOrderModel" "pagesRead" "I") ∈ tb := tb4 30 (by decide +kernel) rfl
theorem k4_31 : (Cond.fieldLink "LaneOrderModel" (13 : Nat) "LaneOrderModel" "kinds" "[I") ∈ tb := tb4 31 (by decide +kernel) rfl
theorem k4_32 : (Cond.fieldLink "LaneOrderModel" (16 : Nat) "LaneOrderModel" "sides" "[I") ∈ tb := tb4 32 (by decide +kernel) rfl
theorem k4_33 : (Cond.fieldLink "LaneOrderModel" (19 : Nat) "LaneOrderModel" "rules" "[I") ∈ tb := tb4 33 (by decide +kernel) rfl
theorem k4_34 : (Cond.fieldLink "LaneOrderModel" (122 : Nat) "LaneOrderModel" "ruleMany" "I") ∈ tb := tb4 34 (by decide +kernel) rfl
theorem k4_35 : (Cond.fieldLink "LaneOrderModel" (22 : Nat) "LaneOrderModel" "bound" "[I") ∈ tb := tb4 35 (by decide +kernel) rfl
theorem k4_36 : (Cond.fieldLink "LaneOrderModel" (142 : Nat) "LaneOrderModel" "laneLevel" "I") ∈ tb := tb4 36 (by decide +kernel) rfl
theorem k4_37 : (Cond.fieldLink "LaneOrderModel" (145 : Nat) "LaneOrderModel" "laneAt" "I") ∈ tb := tb4 37 (by decide +kernel) rfl
theorem k4_38 : (Cond.fieldLink "LaneOrderModel" (139 : Nat) "LaneOrderModel" "laneWidth" "I") ∈ tb := tb4 38 (by decide +kernel) rfl
theorem k4_39 : (Cond.fieldLink "LaneOrderModel" (25 : Nat) "LaneOrderModel" "order" "[I") ∈ tb := tb4 39 (by decide +kernel) rfl
theorem k4_40 : (Cond.fieldLink "LaneOrderModel" (166 : Nat) "LaneOrderModel" "orderMany" "I") ∈ tb := tb4 40 (by decide +kernel) rfl
theorem k4_41 : (Cond.fieldLink "LaneOrderModel" (28 : Nat) "LaneOrderModel" "cuts" "[I") ∈ tb := tb4 41 (by decide +kernel) rfl
theorem k4_42 : (Cond.fieldLink "LaneOrderModel" (182 : Nat) "LaneOrderModel" "cutMany" "I") ∈ tb := tb4 42 (by decide +kernel) rfl
theorem k4_43 : (Cond.fieldLink "LaneOrderModel" (172 : Nat) "LaneOrderModel" "leafMany" "I") ∈ tb := tb4 43 (by decide +kernel) rfl
theorem k4_44 : (Cond.fieldLink "LaneOrderModel" (31 : Nat) "LaneOrderModel" "leafOf" "[I") ∈ tb := tb4 44 (by decide +kernel) rfl
theorem k4_45 : (Cond.fieldLink "LaneOrderModel" (34 : Nat) "LaneOrderModel" "deep" "[I") ∈ tb := tb4 45 (by decide +kernel) rfl
theorem k4_46 : (Cond.fieldLink "LaneOrderModel" (37 : Nat) "LaneOrderModel" "parts" "[I") ∈ tb := tb4 46 (by decide +kernel) rfl
theorem k4_47 : (Cond.fieldLink "LaneOrderModel" (40 : Nat) "LaneOrderModel" "partDeep" "[I") ∈ tb := tb4 47 (by decide +kernel) rfl
theorem k4_48 : (Cond.fieldLink "LaneOrderModel" (43 : Nat) "LaneOrderModel" "orderThen" "[I") ∈ tb := tb4 48 (by decide +kernel) rfl
theorem k4_49 : (Cond.fieldLink "LaneOrderModel" (46 : Nat) "LaneOrderModel" "rulesThen" "[I") ∈ tb := tb4 49 (by decide +kernel) rfl
theorem k4_50 : (Cond.fieldLink "LaneOrderModel" (125 : Nat) "LaneOrderModel" "seenMany" "I") ∈ tb := tb4 50 (by decide +kernel) rfl
theorem k4_51 : (Cond.fieldLink "LaneOrderModel" (49 : Nat) "LaneOrderModel" "sights" "[I") ∈ tb := tb4 51 (by decide +kernel) rfl
theorem k4_52 : (Cond.fieldLink "LaneOrderModel" (275 : Nat) "LaneOrderModel" "seedNow" "I") ∈ tb := tb4 52 (by decide +kernel) rfl
theorem k4_53 : (Cond.fieldLink "LaneOrderModel" (52 : Nat) "LaneOrderModel" "kindsThen" "[I") ∈ tb := tb4 53 (by decide +kernel) rfl
theorem k4_54 : (Cond.fieldLink "LaneOrderModel" (55 : Nat) "LaneOrderModel" "sidesThen" "[I") ∈ tb := tb4 54 (by decide +kernel) rfl
theorem k4_55 : (Cond.fieldLink "LaneOrderModel" (70 : Nat) "LaneOrderModel" "keptPage" "I") ∈ tb := tb4 55 (by decide +kernel) rfl
theorem k4_56 : (Cond.fieldLink "LaneOrderModel" (293 : Nat) "LaneOrderModel" "keptBoxes" "I") ∈ tb := tb4 56 (by decide +kernel) rfl
theorem k4_57 : (Cond.fieldLink "LaneOrderModel" (296 : Nat) "LaneOrderModel" "keptRuleMany" "I") ∈ tb := tb4 57 (by decide +kernel) rfl
theorem k4_58 : (Cond.fieldLink "LaneOrderModel" (299 : Nat) "LaneOrderModel" "keptSeen" "I") ∈ tb := tb4 58 (by decide +kernel) rfl
theorem k4_59 : (Cond.fieldLink "LaneOrderModel" (58 : Nat) "LaneOrderModel" "keptKinds" "[I") ∈ tb := tb4 59 (by decide +kernel) rfl
theorem k4_60 : (Cond.fieldLink "LaneOrderModel" (61 : Nat) "LaneOrderModel" "keptSides" "[I") ∈ tb := tb4 60 (by decide +kernel) rfl
theorem k4_61 : (Cond.fieldLink "LaneOrderModel" (64 : Nat) "LaneOrderModel" "keptRules" "[I") ∈ tb := tb4 61 (by decide +kernel) rfl
theorem k4_62 : (Cond.fieldLink "LaneOrderModel" (67 : Nat) "LaneOrderModel" "keptSights" "[I") ∈ tb := tb4 62 (by decide +kernel) rfl
theorem k4_63 : (Cond.fieldLink "LaneOrderModel" (310 : Nat) "LaneOrderModel" "hash" "J") ∈ tb := tb4 63 (by decide +kernel) rfl
theorem k4_149 : (Cond.constantLong "LaneOrderModel" (74 : Nat) (126 : Int64)) ∈ tb := tb4 149 (by decide +kernel) rfl
theorem k4_172 : (Cond.constantLong "LaneOrderModel" (87 : Nat) (48 : Int64)) ∈ tb := tb4 172 (by decide +kernel) rfl
theorem k4_173 : (Cond.constantLong "LaneOrderModel" (89 : Nat) (56 : Int64)) ∈ tb := tb4 173 (by decide +kernel) rfl
theorem k4_174 : (Cond.constantLong "LaneOrderModel" (91 : Nat) (57 : Int64)) ∈ tb := tb4 174 (by decide +kernel) rfl
theorem k4_179 : (Cond.constantLong "LaneOrderModel" (96 : Nat) (51 : Int64)) ∈ tb := tb4 179 (by decide +kernel) rfl
theorem k5_40 : (Cond.constantLong "LaneOrderModel" (219 : Nat) (4 : Int64)) ∈ tb := tb5 40 (by decide +kernel) rfl
theorem k5_72 : (Cond.constantLong "LaneOrderModel" (230 : Nat) (900 : Int64)) ∈ tb := tb5 72 (by decide +kernel) rfl
theorem k5_85 : (Cond.constantLong "LaneOrderModel" (236 : Nat) (-9 : Int64)) ∈ tb := tb5 85 (by decide +kernel) rfl
theorem k5_86 : (Cond.constantLong "LaneOrderModel" (238 : Nat) (9 : Int64)) ∈ tb := tb5 86 (by decide +kernel) rfl
theorem k5_106 : (Cond.constantLong "LaneOrderModel" (247 : Nat) (5 : Int64)) ∈ tb := tb5 106 (by decide +kernel) rfl
theorem k5_150 : (Cond.constantLong "LaneOrderModel" (268 : Nat) (3 : Int64)) ∈ tb := tb5 150 (by decide +kernel) rfl
theorem k5_159 : (Cond.constantLong "LaneOrderModel" (286 : Nat) (20 : Int64)) ∈ tb := tb5 159 (by decide +kernel) rfl
theorem k5_160 : (Cond.constantLong "LaneOrderModel" (288 : Nat) (2 : Int64)) ∈ tb := tb5 160 (by decide +kernel) rfl
theorem k5_169 : (Cond.constantLong "LaneOrderModel" (273 : Nat) (1103515245 : Int64)) ∈ tb := tb5 169 (by decide +kernel) rfl
theorem k5_170 : (Cond.constantLong "LaneOrderModel" (278 : Nat) (12345 : Int64)) ∈ tb := tb5 170 (by decide +kernel) rfl
theorem k5_171 : (Cond.constantLong "LaneOrderModel" (280 : Nat) (2147483647 : Int64)) ∈ tb := tb5 171 (by decide +kernel) rfl
theorem k5_172 : (Cond.constant "LaneOrderModel" (282 : Nat) (65536 : Int32)) ∈ tb := tb5 172 (by decide +kernel) rfl
theorem k5_197 : (Cond.constantLong "LaneOrderModel" (318 : Nat) (1429 : Int64)) ∈ tb := tb5 197 (by decide +kernel) rfl
theorem k5_206 : (Cond.constantLong "LaneOrderModel" (308 : Nat) (31 : Int64)) ∈ tb := tb5 206 (by decide +kernel) rfl
theorem k5_207 : (Cond.fieldLink "java/lang/String" (15 : Nat) "java/lang/String" "coder" "B") ∈ tb := tb5 207 (by decide +kernel) rfl
theorem k5_208 : (Cond.fieldLink "java/lang/String" (9 : Nat) "java/lang/String" "value" "[B") ∈ tb := tb5 208 (by decide +kernel) rfl
theorem in0 : ∀ w ∈ u_ws RX0 TX0 6, w ∈ tb := tb_list [111, 113, 115, 117, 119, 121] (by decide +kernel) (by decide +kernel)
theorem cl0 : clsOK 0 "LaneOrder$Cuts" TX0 tyX0 6 := ⟨rfl, rfl, by decide, in0, tyX0_ok, nmX0⟩
theorem in1 : ∀ w ∈ u_ws RX1 TX1 1, w ∈ tb := tb_list [228] (by decide +kernel) (by decide +kernel)
theorem cl1 : clsOK 1 "LaneOrder$Draws" TX1 tyX1 1 := ⟨rfl, rfl, by decide, in1, tyX1_ok, nmX1⟩
theorem in2 : ∀ w ∈ u_ws RX2 TX2 4, w ∈ tb := tb_list [142, 144, 146, 148] (by decide +kernel) (by decide +kernel)
theorem cl2 : clsOK 2 "LaneOrder$Lanes" TX2 tyX2 4 := ⟨rfl, rfl, by decide, in2, tyX2_ok, nmX2⟩
theorem in3 : ∀ w ∈ u_ws RX3 TX3 13, w ∈ tb := tb_list [174, 176, 178, 180, 182, 184, 186, 188, 190, 192, 194, 196, 198] (by decide +kernel) (by decide +kernel)
theorem cl3 : clsOK 3 "LaneOrder$Reading" TX3 tyX3 13 := ⟨rfl, rfl, by decide, in3, tyX3_ok, nmX3⟩
theorem in4 : ∀ w ∈ u_ws RX4 TX4 3, w ∈ tb := tb_list [211, 213, 215] (by decide +kernel) (by decide +kernel)
theorem cl4 : clsOK 4 "LaneOrder$Seen" TX4 tyX4 3 := ⟨rfl, rfl, by decide, in4, tyX4_ok, nmX4⟩
theorem in5 : ∀ w ∈ u_ws RX5 TX5 8, w ∈ tb := tb_list [76, 78, 80, 82, 84, 86, 88, 90] (by decide +kernel) (by decide +kernel)
theorem cl5 : clsOK 5 "LaneOrder$Sheet" TX5 tyX5 8 := ⟨rfl, rfl, by decide, in5, tyX5_ok, nmX5⟩
theorem in6 : ∀ w ∈ u_ws RX6 TX6 2, w ∈ tb := tb_list [36, 38] (by decide +kernel) (by decide +kernel)
theorem cl6 : clsOK 6 "LaneOrder$Text" TX6 tyX6 2 := ⟨rfl, rfl, by decide, in6, tyX6_ok, nmX6⟩
theorem in7 : ∀ w ∈ u_ws RX7 TX7 9, w ∈ tb := tb_list [240, 242, 244, 246, 248, 250, 252, 254, 256] (by decide +kernel) (by decide +kernel)
theorem cl7 : clsOK 7 "LaneOrder" TX7 tyX7 9 := ⟨rfl, rfl, by decide, in7, tyX7_ok, nmX7⟩
theorem in8 : ∀ w ∈ u_ws RX8 TX8 40, w ∈ tb := tb_list [784, 786, 788, 790, 792, 794, 796, 798, 800, 802, 804, 806, 808, 810, 812, 814, 816, 818, 820, 822, 824, 826, 828, 830, 832, 834, 836, 838, 840, 842, 844, 846, 848, 850, 852, 854, 856, 858, 860, 862] (by decide +kernel) (by decide +kernel)
theorem cl8 : clsOK 8 "LaneOrderModel" TX8 tyX8 40 := ⟨rfl, rfl, by decide, in8, tyX8_ok, nmX8⟩
theorem ini_LaneOrder : Cond.initialized "LaneOrder" ∈ tb := tb1 1 (by decide +kernel) rfl
theorem ini_LaneOrder_Cuts : Cond.initialized "LaneOrder$Cuts" ∈ tb := tb1 5 (by decide +kernel) rfl
theorem ini_LaneOrder_Draws : Cond.initialized "LaneOrder$Draws" ∈ tb := tb1 8 (by decide +kernel) rfl
theorem ini_LaneOrder_Lanes : Cond.initialized "LaneOrder$Lanes" ∈ tb := tb1 6 (by decide +kernel) rfl
theorem ini_LaneOrder_Reading : Cond.initialized "LaneOrder$Reading" ∈ tb := tb1 3 (by decide +kernel) rfl
theorem ini_LaneOrder_Seen : Cond.initialized "LaneOrder$Seen" ∈ tb := tb1 7 (by decide +kernel) rfl
theorem ini_LaneOrder_Sheet : Cond.initialized "LaneOrder$Sheet" ∈ tb := tb1 4 (by decide +kernel) rfl
theorem ini_LaneOrder_Text : Cond.initialized "LaneOrder$Text" ∈ tb := tb1 2 (by decide +kernel) rfl
theorem ini_LaneOrderLaw : Cond.initialized "LaneOrderLaw" ∈ tb := tb1 0 (by decide +kernel) rfl
theorem ini_LaneOrderModel : Cond.initialized "LaneOrderModel" ∈ tb := tb1 9 (by decide +kernel) rfl
theorem ini_java_lang_Character : Cond.initialized "java/lang/Character" ∈ tb := tb1 15 (by decide +kernel) rfl
theorem ini_java_lang_Integer : Cond.initialized "java/lang/Integer" ∈ tb := tb1 17 (by decide +kernel) rfl
theorem ini_java_lang_Math : Cond.initialized "java/lang/Math" ∈ tb := tb1 12 (by decide +kernel) rfl
theorem ini_java_lang_String : Cond.initialized "java/lang/String" ∈ tb := tb1 10 (by decide +kernel) rfl
theorem ini_java_lang_StringLatin1 : Cond.initialized "java/lang/StringLatin1" ∈ tb := tb1 11 (by decide +kernel) rfl
theorem ini_java_lang_StringUTF16 : Cond.initialized "java/lang/StringUTF16" ∈ tb := tb1 13 (by decide +kernel) rfl
theorem ini_java_lang_System : Cond.initialized "java/lang/System" ∈ tb := tb1 16 (by decide +kernel) rfl
theorem ini_jdk_internal_util_Preconditions : Cond.initialized "jdk/internal/util/Preconditions" ∈ tb := tb1 14 (by decide +kernel) rfl
theorem ac_n : Cond.native arraycopyName ∈ tb := tb3 10 (by decide +kernel) rfl
theorem ac_s : Cond.static arraycopyName ∈ tb := tb3 9 (by decide +kernel) rfl
theorem mmax_s : Cond.static Lib.Math.max.name ∈ tb := tb2 80 (by decide +kernel) rfl
theorem mmax_c : Cond.code Lib.Math.max.name Lib.Math.max.code 2 (some .int) ∈ tb := tb2 81 (by decide +kernel) rfl
theorem mmin_s : Cond.static Lib.Math.min.name ∈ tb := tb2 83 (by decide +kernel) rfl
theorem mmin_c : Cond.code Lib.Math.min.name Lib.Math.min.code 2 (some .int) ∈ tb := tb2 84 (by decide +kernel) rfl
theorem kc_J0_checkBoundsBeginEnd_23922 : Cond.code yJ0_checkBoundsBeginEnd_23922 cJ0_checkBoundsBeginEnd_23922 3 none ∈ tb := tb2 105 (by decide +kernel) rfl
theorem ki_J0_checkBoundsBeginEnd_23922 : Cond.static yJ0_checkBoundsBeginEnd_23922 ∈ tb := tb2 104 (by decide +kernel) rfl
theorem kd_J0_checkBoundsBeginEnd_23922 : yJ0_checkBoundsBeginEnd_23922.cls ≠ "java/lang/invoke/MethodHandle" ∧ yJ0_checkBoundsBeginEnd_23922.cls ≠ "java/lang/invoke/VarHandle" ∧ (parseMethodDescriptor yJ0_checkBoundsBeginEnd_23922.desc).map (fun d => d.parameters.length) = some 3 := ⟨by decide, by decide, by decide +kernel⟩
theorem kc_J0_coder_7d493 : Cond.code yJ0_coder_7d493 cJ0_coder_7d493 1 (some .byte) ∈ tb := tb2 72 (by decide +kernel) rfl
theorem ki_J0_coder_7d493 : Cond.instanceMethod yJ0_coder_7d493 ∈ tb := tb2 70 (by decide +kernel) rfl
theorem ks_J0_coder_7d493 : Cond.selects yJ0_coder_7d493.cls yJ0_coder_7d493 yJ0_coder_7d493 ∈ tb := tb2 71 (by decide +kernel) rfl
theorem kd_J0_coder_7d493 : yJ0_coder_7d493.cls ≠ "java/lang/invoke/MethodHandle" ∧ yJ0_coder_7d493.cls ≠ "java/lang/invoke/VarHandle" ∧ (parseMethodDescriptor yJ0_coder_7d493.desc).map (fun d => d.parameters.length) = some 0 := ⟨by decide, by decide, by decide +kernel⟩
theorem kc_J0_indexOf_0f7a4 : Cond.code yJ0_indexOf_0f7a4 cJ0_indexOf_0f7a4 2 (some .int) ∈ tb := tb2 54 (by decide +kernel) rfl
theorem ki_J0_indexOf_0f7a4 : Cond.instanceMethod yJ0_indexOf_0f7a4 ∈ tb := tb2 52 (by decide +kernel) rfl
theorem ks_J0_indexOf_0f7a4 : Cond.selects yJ0_indexOf_0f7a4.cls yJ0_indexOf_0f7a4 yJ0_indexOf_0f7a4 ∈ tb := tb2 53 (by decide +kernel) rfl
theorem kd_J0_indexOf_0f7a4 : yJ0_indexOf_0f7a4.cls ≠ "java/lang/invoke/MethodHandle" ∧ yJ0_indexOf_0f7a4.cls ≠ "java/lang/invoke/VarHandle" ∧ (parseMethodDescriptor yJ0_indexOf_0f7a4.desc).map (fun d => d.parameters.length) = some 1 := ⟨by decide, by decide, by decide +kernel⟩
theorem kc_J0_indexOf_7cf53 : Cond.code yJ0_indexOf_7cf53 cJ0_indexOf_7cf53 3 (some .int) ∈ tb := tb2 58 (by decide +kernel) rfl
theorem ki_J0_indexOf_7cf53 : Cond.instanceMethod yJ0_indexOf_7cf53 ∈ tb := tb2 56 (by decide +kernel) rfl
theorem ks_J0_indexOf_7cf53 : Cond.selects yJ0_indexOf_7cf53.cls yJ0_indexOf_7cf53 yJ0_indexOf_7cf53 ∈ tb := tb2 57 (by decide +kernel) rfl
theorem kd_J0_indexOf_7cf53 : yJ0_indexOf_7cf53.cls ≠ "java/lang/invoke/MethodHandle" ∧ yJ0_indexOf_7cf53.cls ≠ "java/lang/invoke/VarHandle" ∧ (parseMethodDescriptor yJ0_indexOf_7cf53.desc).map (fun d => d.parameters.length) = some 2 := ⟨by decide, by decide, by decide +kernel⟩
theorem kc_J0_isLatin1_aae02 : Cond.code yJ0_isLatin1_aae02 cJ0_isLatin1_aae02 1 (some .boolean) ∈ tb := tb2 62 (by decide +kernel) rfl
theorem ki_J0_isLatin1_aae02 : Cond.instanceMethod yJ0_isLatin1_aae02 ∈ tb := tb2 60 (by decide +kernel) rfl
theorem ks_J0_isLatin1_aae02 : Cond.selects yJ0_isLatin1_aae02.cls yJ0_isLatin1_aae02 yJ0_isLatin1_aae02 ∈ tb := tb2 61 (by decide +kernel) rfl
theorem kd_J0_isLatin1_aae02 : yJ0_isLatin1_aae02.cls ≠ "java/lang/invoke/MethodHandle" ∧ yJ0_isLatin1_aae02.cls ≠ "java/lang/invoke/VarHandle" ∧ (parseMethodDescriptor yJ0_isLatin1_aae02.desc).map (fun d => d.parameters.length) = some 0 := ⟨by decide, by decide, by decide +kernel⟩
theorem kc_J0_length_8abf5 : Cond.code yJ0_length_8abf5 cJ0_length_8abf5 1 (some .int) ∈ tb := tb2 68 (by decide +kernel) rfl
theorem ki_J0_length_8abf5 : Cond.instanceMethod yJ0_length_8abf5 ∈ tb := tb2 66 (by decide +kernel) rfl
theorem ks_J0_length_8abf5 : Cond.selects yJ0_length_8abf5.cls yJ0_length_8abf5 yJ0_length_8abf5 ∈ tb := tb2 67 (by decide +kernel) rfl
theorem kd_J0_length_8abf5 : yJ0_length_8abf5.cls ≠ "java/lang/invoke/MethodHandle" ∧ yJ0_length_8abf5.cls ≠ "java/lang/invoke/VarHandle" ∧ (parseMethodDescriptor yJ0_length_8abf5.desc).map (fun d => d.parameters.length) = some 0 := ⟨by decide, by decide, by decide +kernel⟩
theorem kc_J11_highSurrogate_5068e : Cond.code yJ11_highSurrogate_5068e cJ11_highSurrogate_5068e 1 (some .char) ∈ tb := tb2 131 (by decide +kernel) rfl
theorem ki_J11_highSurrogate_5068e : Cond.static yJ11_highSurrogate_5068e ∈ tb := tb2 130 (by decide +kernel) rfl
theorem kd_J11_highSurrogate_5068e : yJ11_highSurrogate_5068e.cls ≠ "java/lang/invoke/MethodHandle" ∧ yJ11_highSurrogate_5068e.cls ≠ "java/lang/invoke/VarHandle" ∧ (parseMethodDescriptor yJ11_highSurrogate_5068e.desc).map (fun d => d.parameters.length) = some 1 := ⟨by decide, by decide, by decide +kernel⟩
theorem kc_J11_isValidCodePoint_9a6ad : Cond.code yJ11_isValidCodePoint_9a6ad cJ11_isValidCodePoint_9a6ad 2 (some .boolean) ∈ tb := tb2 128 (by decide +kernel) rfl
theorem ki_J11_isValidCodePoint_9a6ad : Cond.static yJ11_isValidCodePoint_9a6ad ∈ tb := tb2 127 (by decide +kernel) rfl
theorem kd_J11_isValidCodePoint_9a6ad : yJ11_isValidCodePoint_9a6ad.cls ≠ "java/lang/invoke/MethodHandle" ∧ yJ11_isValidCodePoint_9a6ad.cls ≠ "java/lang/invoke/VarHandle" ∧ (parseMethodDescriptor yJ11_isValidCodePoint_9a6ad.desc).map (fun d => d.parameters.length) = some 1 := ⟨by decide, by decide, by decide +kernel⟩
theorem kc_J11_lowSurrogate_5068e : Cond.code yJ11_lowSurrogate_5068e cJ11_lowSurrogate_5068e 1 (some .char) ∈ tb := tb2 135 (by decide +kernel) rfl
theorem ki_J11_lowSurrogate_5068e : Cond.static yJ11_lowSurrogate_5068e ∈ tb := tb2 134 (by decide +kernel) rfl
theorem kd_J11_lowSurrogate_5068e : yJ11_lowSurrogate_5068e.cls ≠ "java/lang/invoke/MethodHandle" ∧ yJ11_lowSurrogate_5068e.cls ≠ "java/lang/invoke/VarHandle" ∧ (parseMethodDescriptor yJ11_lowSurrogate_5068e.desc).map (fun d => d.parameters.length) = some 1 := ⟨by decide, by decide, by decide +kernel⟩
theorem kc_J1_canEncode_9a6ad : Cond.code yJ1_canEncode_9a6ad cJ1_canEncode_9a6ad 1 (some .boolean) ∈ tb := tb2 78 (by decide +kernel) rfl
theorem ki_J1_canEncode_9a6ad : Cond.static yJ1_canEncode_9a6ad ∈ tb := tb2 77 (by decide +kernel) rfl
theorem kd_J1_canEncode_9a6ad : yJ1_canEncode_9a6ad.cls ≠ "java/lang/invoke/MethodHandle" ∧ yJ1_canEncode_9a6ad.cls ≠ "java/lang/invoke/VarHandle" ∧ (parseMethodDescriptor yJ1_canEncode_9a6ad.desc).map (fun d => d.parameters.length) = some 1 := ⟨by decide, by decide, by decide +kernel⟩
theorem kc_J1_indexOfChar_4cfef : Cond.code yJ1_indexOfChar_4cfef cJ1_indexOfChar_4cfef 6 (some .int) ∈ tb := tb2 87 (by decide +kernel) rfl
theorem ki_J1_indexOfChar_4cfef : Cond.static yJ1_indexOfChar_4cfef ∈ tb := tb2 86 (by decide +kernel) rfl
theorem kd_J1_indexOfChar_4cfef : yJ1_indexOfChar_4cfef.cls ≠ "java/lang/invoke/MethodHandle" ∧ yJ1_indexOfChar_4cfef.cls ≠ "java/lang/invoke/VarHandle" ∧ (parseMethodDescriptor yJ1_indexOfChar_4cfef.desc).map (fun d => d.parameters.length) = some 4 := ⟨by decide, by decide, by decide +kernel⟩
theorem kc_J1_indexOf_4cfef : Cond.code yJ1_indexOf_4cfef cJ1_indexOf_4cfef 4 (some .int) ∈ tb := tb2 75 (by decide +kernel) rfl
theorem ki_J1_indexOf_4cfef : Cond.static yJ1_indexOf_4cfef ∈ tb := tb2 74 (by decide +kernel) rfl
theorem kd_J1_indexOf_4cfef : yJ1_indexOf_4cfef.cls ≠ "java/lang/invoke/MethodHandle" ∧ yJ1_indexOf_4cfef.cls ≠ "java/lang/invoke/VarHandle" ∧ (parseMethodDescriptor yJ1_indexOf_4cfef.desc).map (fun d => d.parameters.length) = some 4 := ⟨by decide, by decide, by decide +kernel⟩
theorem kc_J2_checkBoundsBeginEnd_d044e : Cond.code yJ2_checkBoundsBeginEnd_d044e cJ2_checkBoundsBeginEnd_d044e 3 none ∈ tb := tb2 99 (by decide +kernel) rfl
theorem ki_J2_checkBoundsBeginEnd_d044e : Cond.static yJ2_checkBoundsBeginEnd_d044e ∈ tb := tb2 98 (by decide +kernel) rfl
theorem kd_J2_checkBoundsBeginEnd_d044e : yJ2_checkBoundsBeginEnd_d044e.cls ≠ "java/lang/invoke/MethodHandle" ∧ yJ2_checkBoundsBeginEnd_d044e.cls ≠ "java/lang/invoke/VarHandle" ∧ (parseMethodDescriptor yJ2_checkBoundsBeginEnd_d044e.desc).map (fun d => d.parameters.length) = some 3 := ⟨by decide, by decide, by decide +kernel⟩
theorem kc_J2_getChar_3b067 : Cond.code yJ2_getChar_3b067 cJ2_getChar_3b067 2 (some .char) ∈ tb := tb2 116 (by decide +kernel) rfl
theorem ki_J2_getChar_3b067 : Cond.static yJ2_getChar_3b067 ∈ tb := tb2 115 (by decide +kernel) rfl
theorem kd_J2_getChar_3b067 : yJ2_getChar_3b067.cls ≠ "java/lang/invoke/MethodHandle" ∧ yJ2_getChar_3b067.cls ≠ "java/lang/invoke/VarHandle" ∧ (parseMethodDescriptor yJ2_getChar_3b067.desc).map (fun d => d.parameters.length) = some 2 := ⟨by decide, by decide, by decide +kernel⟩
theorem kc_J2_indexOfCharUnsafe_4cfef : Cond.code yJ2_indexOfCharUnsafe_4cfef cJ2_indexOfCharUnsafe_4cfef 5 (some .int) ∈ tb := tb2 113 (by decide +kernel) rfl
theorem ki_J2_indexOfCharUnsafe_4cfef : Cond.static yJ2_indexOfCharUnsafe_4cfef ∈ tb := tb2 112 (by decide +kernel) rfl
theorem kd_J2_indexOfCharUnsafe_4cfef : yJ2_indexOfCharUnsafe_4cfef.cls ≠ "java/lang/invoke/MethodHandle" ∧ yJ2_indexOfCharUnsafe_4cfef.cls ≠ "java/lang/invoke/VarHandle" ∧ (parseMethodDescriptor yJ2_indexOfCharUnsafe_4cfef.desc).map (fun d => d.parameters.length) = some 4 := ⟨by decide, by decide, by decide +kernel⟩
theorem kc_J2_indexOfChar_4cfef : Cond.code yJ2_indexOfChar_4cfef cJ2_indexOfChar_4cfef 4 (some .int) ∈ tb := tb2 96 (by decide +kernel) rfl
theorem ki_J2_indexOfChar_4cfef : Cond.static yJ2_indexOfChar_4cfef ∈ tb := tb2 95 (by decide +kernel) rfl
theorem kd_J2_indexOfChar_4cfef : yJ2_indexOfChar_4cfef.cls ≠ "java/lang/invoke/MethodHandle" ∧ yJ2_indexOfChar_4cfef.cls ≠ "java/lang/invoke/VarHandle" ∧ (parseMethodDescriptor yJ2_indexOfChar_4cfef.desc).map (fun d => d.parameters.length) = some 4 := ⟨by decide, by decide, by decide +kernel⟩
theorem kc_J2_indexOfSupplementary_4cfef : Cond.code yJ2_indexOfSupplementary_4cfef cJ2_indexOfSupplementary_4cfef 7 (some .int) ∈ tb := tb2 125 (by decide +kernel) rfl
theorem ki_J2_indexOfSupplementary_4cfef : Cond.static yJ2_indexOfSupplementary_4cfef ∈ tb := tb2 124 (by decide +kernel) rfl
theorem kd_J2_indexOfSupplementary_4cfef : yJ2_indexOfSupplementary_4cfef.cls ≠ "java/lang/invoke/MethodHandle" ∧ yJ2_indexOfSupplementary_4cfef.cls ≠ "java/lang/invoke/VarHandle" ∧ (parseMethodDescriptor yJ2_indexOfSupplementary_4cfef.desc).map (fun d => d.parameters.length) = some 4 := ⟨by decide, by decide, by decide +kernel⟩
theorem kc_J2_indexOf_4cfef : Cond.code yJ2_indexOf_4cfef cJ2_indexOf_4cfef 4 (some .int) ∈ tb := tb2 90 (by decide +kernel) rfl
theorem ki_J2_indexOf_4cfef : Cond.static yJ2_indexOf_4cfef ∈ tb := tb2 89 (by decide +kernel) rfl
theorem kd_J2_indexOf_4cfef : yJ2_indexOf_4cfef.cls ≠ "java/lang/invoke/MethodHandle" ∧ yJ2_indexOf_4cfef.cls ≠ "java/lang/invoke/VarHandle" ∧ (parseMethodDescriptor yJ2_indexOf_4cfef.desc).map (fun d => d.parameters.length) = some 4 := ⟨by decide, by decide, by decide +kernel⟩
theorem kc_J2_length_9d52b : Cond.code yJ2_length_9d52b cJ2_length_9d52b 1 (some .int) ∈ tb := tb2 102 (by decide +kernel) rfl
theorem ki_J2_length_9d52b : Cond.static yJ2_length_9d52b ∈ tb := tb2 101 (by decide +kernel) rfl
theorem kd_J2_length_9d52b : yJ2_length_9d52b.cls ≠ "java/lang/invoke/MethodHandle" ∧ yJ2_length_9d52b.cls ≠ "java/lang/invoke/VarHandle" ∧ (parseMethodDescriptor yJ2_length_9d52b.desc).map (fun d => d.parameters.length) = some 1 := ⟨by decide, by decide, by decide +kernel⟩
theorem kc_J3_checkFromToIndex_8c36e : Cond.code yJ3_checkFromToIndex_8c36e cJ3_checkFromToIndex_8c36e 4 (some .int) ∈ tb := tb2 110 (by decide +kernel) rfl
theorem ki_J3_checkFromToIndex_8c36e : Cond.static yJ3_checkFromToIndex_8c36e ∈ tb := tb2 109 (by decide +kernel) rfl
theorem kd_J3_checkFromToIndex_8c36e : yJ3_checkFromToIndex_8c36e.cls ≠ "java/lang/invoke/MethodHandle" ∧ yJ3_checkFromToIndex_8c36e.cls ≠ "java/lang/invoke/VarHandle" ∧ (parseMethodDescriptor yJ3_checkFromToIndex_8c36e.desc).map (fun d => d.parameters.length) = some 4 := ⟨by decide, by decide, by decide +kernel⟩
theorem kc_J6_bitCount_0f7a4 : Cond.code yJ6_bitCount_0f7a4 cJ6_bitCount_0f7a4 1 (some .int) ∈ tb := tb3 49 (by decide +kernel) rfl
theorem ki_J6_bitCount_0f7a4 : Cond.static yJ6_bitCount_0f7a4 ∈ tb := tb3 48 (by decide +kernel) rfl
theorem kd_J6_bitCount_0f7a4 : yJ6_bitCount_0f7a4.cls ≠ "java/lang/invoke/MethodHandle" ∧ yJ6_bitCount_0f7a4.cls ≠ "java/lang/invoke/VarHandle" ∧ (parseMethodDescriptor yJ6_bitCount_0f7a4.desc).map (fun d => d.parameters.length) = some 1 := ⟨by decide, by decide, by decide +kernel⟩
theorem kc_J9_max_7cf53 : Cond.code yJ9_max_7cf53 cJ9_max_7cf53 2 (some .int) ∈ tb := tb2 81 (by decide +kernel) rfl
theorem ki_J9_max_7cf53 : Cond.static yJ9_max_7cf53 ∈ tb := tb2 80 (by decide +kernel) rfl
theorem kd_J9_max_7cf53 : yJ9_max_7cf53.cls ≠ "java/lang/invoke/MethodHandle" ∧ yJ9_max_7cf53.cls ≠ "java/lang/invoke/VarHandle" ∧ (parseMethodDescriptor yJ9_max_7cf53.desc).map (fun d => d.parameters.length) = some 2 := ⟨by decide, by decide, by decide +kernel⟩
theorem kc_J9_min_7cf53 : Cond.code yJ9_min_7cf53 cJ9_min_7cf53 2 (some .int) ∈ tb := tb2 84 (by decide +kernel) rfl
theorem ki_J9_min_7cf53 : Cond.static yJ9_min_7cf53 ∈ tb := tb2 83 (by decide +kernel) rfl
theorem kd_J9_min_7cf53 : yJ9_min_7cf53.cls ≠ "java/lang/invoke/MethodHandle" ∧ yJ9_min_7cf53.cls ≠ "java/lang/invoke/VarHandle" ∧ (parseMethodDescriptor yJ9_min_7cf53.desc).map (fun d => d.parameters.length) = some 2 := ⟨by decide, by decide, by decide +kernel⟩
theorem kc_X0_add : Cond.code yX0_add cX0_add 6 none ∈ tb := tb3 14 (by decide +kernel) rfl
theorem ki_X0_add : Cond.instanceMethod yX0_add ∈ tb := tb3 12 (by decide +kernel) rfl
theorem ks_X0_add : Cond.selects yX0_add.cls yX0_add yX0_add ∈ tb := tb3 13 (by decide +kernel) rfl
theorem kd_X0_add : yX0_add.cls ≠ "java/lang/invoke/MethodHandle" ∧ yX0_add.cls ≠ "java/lang/invoke/VarHandle" ∧ (parseMethodDescriptor yX0_add.desc).map (fun d => d.parameters.length) = some 5 := ⟨by decide, by decide, by decide +kernel⟩
theorem kc_X0_clear : Cond.code yX0_clear cX0_clear 1 none ∈ tb := tb2 183 (by decide +kernel) rfl
theorem ki_X0_clear : Cond.instanceMethod yX0_clear ∈ tb := tb2 181 (by decide +kernel) rfl
theorem ks_X0_clear : Cond.selects yX0_clear.cls yX0_clear yX0_clear ∈ tb := tb2 182 (by decide +kernel) rfl
theorem kd_X0_clear : yX0_clear.cls ≠ "java/lang/invoke/MethodHandle" ∧ yX0_clear.cls ≠ "java/lang/invoke/VarHandle" ∧ (parseMethodDescriptor yX0_clear.desc).map (fun d => d.parameters.length) = some 0 := ⟨by decide, by decide, by decide +kernel⟩
theorem kc_X0_init : Cond.code yX0_init cX0_init 1 none ∈ tb := tb1 97 (by decide +kernel) rfl
theorem ki_X0_init : Cond.instanceMethod yX0_init ∈ tb := tb1 96 (by decide +kernel) rfl
theorem kd_X0_init : yX0_init.cls ≠ "java/lang/invoke/MethodHandle" ∧ yX0_init.cls ≠ "java/lang/invoke/VarHandle" ∧ (parseMethodDescriptor yX0_init.desc).map (fun d => d.parameters.length) = some 0 := ⟨by decide, by decide, by decide +kernel⟩
theorem kc_X1_drawTo : Cond.code yX1_drawTo cX1_drawTo 7 none ∈ tb := tb3 206 (by decide +kernel) rfl
theorem ki_X1_drawTo : Cond.instanceMethod yX1_drawTo ∈ tb := tb3 204 (by decide +kernel) rfl
theorem ks_X1_drawTo : Cond.selects yX1_drawTo.cls yX1_drawTo yX1_drawTo ∈ tb := tb3 205 (by decide +kernel) rfl
theorem kd_X1_drawTo : yX1_drawTo.cls ≠ "java/lang/invoke/MethodHandle" ∧ yX1_drawTo.cls ≠ "java/lang/invoke/VarHandle" ∧ (parseMethodDescriptor yX1_drawTo.desc).map (fun d => d.parameters.length) = some 1 := ⟨by decide, by decide, by decide +kernel⟩
theorem kc_X1_init : Cond.code yX1_init cX1_init 1 none ∈ tb := tb1 224 (by decide +kernel) rfl
theorem ki_X1_init : Cond.instanceMethod yX1_init ∈ tb := tb1 223 (by decide +kernel) rfl
theorem kd_X1_init : yX1_init.cls ≠ "java/lang/invoke/MethodHandle" ∧ yX1_init.cls ≠ "java/lang/invoke/VarHandle" ∧ (parseMethodDescriptor yX1_init.desc).map (fun d => d.parameters.length) = some 0 := ⟨by decide, by decide, by decide +kernel⟩
theorem kc_X1_ofEight : Cond.code yX1_ofEight cX1_ofEight 1 (some .int) ∈ tb := tb3 211 (by decide +kernel) rfl
theorem ki_X1_ofEight : Cond.instanceMethod yX1_ofEight ∈ tb := tb3 210 (by decide +kernel) rfl
theorem ks_X1_ofEight : Cond.selects yX1_ofEight.cls yX1_ofEight yX1_ofEight ∈ tb := tbS 14 (by decide +kernel) rfl
theorem kd_X1_ofEight : yX1_ofEight.cls ≠ "java/lang/invoke/MethodHandle" ∧ yX1_ofEight.cls ≠ "java/lang/invoke/VarHandle" ∧ (parseMethodDescriptor yX1_ofEight.desc).map (fun d => d.parameters.length) = some 0 := ⟨by decide, by decide, by decide +kernel⟩
theorem kc_X1_ofThree : Cond.code yX1_ofThree cX1_ofThree 1 (some .int) ∈ tb := tb3 222 (by decide +kernel) rfl
theorem ki_X1_ofThree : Cond.instanceMethod yX1_ofThree ∈ tb := tb3 221 (by decide +kernel) rfl
theorem ks_X1_ofThree : Cond.selects yX1_ofThree.cls yX1_ofThree yX1_ofThree ∈ tb := tbS 16 (by decide +kernel) rfl
theorem kd_X1_ofThree : yX1_ofThree.cls ≠ "java/lang/invoke/MethodHandle" ∧ yX1_ofThree.cls ≠ "java/lang/invoke/VarHandle" ∧ (parseMethodDescriptor yX1_ofThree.desc).map (fun d => d.parameters.length) = some 0 := ⟨by decide, by decide, by decide +kernel⟩
theorem kc_X1_step : Cond.code yX1_step cX1_step 1 none ∈ tb := tb3 215 (by decide +kernel) rfl
theorem ki_X1_step : Cond.instanceMethod yX1_step ∈ tb := tb3 214 (by decide +kernel) rfl
theorem ks_X1_step : Cond.selects yX1_step.cls yX1_step yX1_step ∈ tb := tbS 15 (by decide +kernel) rfl
theorem kd_X1_step : yX1_step.cls ≠ "java/lang/invoke/MethodHandle" ∧ yX1_step.cls ≠ "java/lang/invoke/VarHandle" ∧ (parseMethodDescriptor yX1_step.desc).map (fun d => d.parameters.length) = some 0 := ⟨by decide, by decide, by decide +kernel⟩
theorem kc_X2_add : Cond.code yX2_add cX2_add 5 none ∈ tb := tb2 223 (by decide +kernel) rfl
theorem ki_X2_add : Cond.instanceMethod yX2_add ∈ tb := tb2 221 (by decide +kernel) rfl
theorem ks_X2_add : Cond.selects yX2_add.cls yX2_add yX2_add ∈ tb := tb2 222 (by decide +kernel) rfl
theorem kd_X2_add : yX2_add.cls ≠ "java/lang/invoke/MethodHandle" ∧ yX2_add.cls ≠ "java/lang/invoke/VarHandle" ∧ (parseMethodDescriptor yX2_add.desc).map (fun d => d.parameters.length) = some 3 := ⟨by decide, by decide, by decide +kernel⟩
theorem kc_X2_clear : Cond.code yX2_clear cX2_clear 1 none ∈ tb := tb2 207 (by decide +kernel) rfl
theorem ki_X2_clear : Cond.instanceMethod yX2_clear ∈ tb := tb2 205 (by decide +kernel) rfl
theorem ks_X2_clear : Cond.selects yX2_clear.cls yX2_clear yX2_clear ∈ tb := tb2 206 (by decide +kernel) rfl
theorem kd_X2_clear : yX2_clear.cls ≠ "java/lang/invoke/MethodHandle" ∧ yX2_clear.cls ≠ "java/lang/invoke/VarHandle" ∧ (parseMethodDescriptor yX2_clear.desc).map (fun d => d.parameters.length) = some 0 := ⟨by decide, by decide, by decide +kernel⟩
theorem kc_X2_has : Cond.code yX2_has cX2_has 4 (some .boolean) ∈ tb := tb2 219 (by decide +kernel) rfl
theorem ki_X2_has : Cond.instanceMethod yX2_has ∈ tb := tb2 217 (by decide +kernel) rfl
theorem ks_X2_has : Cond.selects yX2_has.cls yX2_has yX2_has ∈ tb := tb2 218 (by decide +kernel) rfl
theorem kd_X2_has : yX2_has.cls ≠ "java/lang/invoke/MethodHandle" ∧ yX2_has.cls ≠ "java/lang/invoke/VarHandle" ∧ (parseMethodDescriptor yX2_has.desc).map (fun d => d.parameters.length) = some 2 := ⟨by decide, by decide, by decide +kernel⟩
theorem kc_X2_init : Cond.code yX2_init cX2_init 1 none ∈ tb := tb1 128 (by decide +kernel) rfl
theorem ki_X2_init : Cond.instanceMethod yX2_init ∈ tb := tb1 127 (by decide +kernel) rfl
theorem kd_X2_init : yX2_init.cls ≠ "java/lang/invoke/MethodHandle" ∧ yX2_init.cls ≠ "java/lang/invoke/VarHandle" ∧ (parseMethodDescriptor yX2_init.desc).map (fun d => d.parameters.length) = some 0 := ⟨by decide, by decide, by decide +kernel⟩
theorem kc_X2_isBehind : Cond.code yX2_isBehind cX2_isBehind 5 (some .boolean) ∈ tb := tb2 227 (by decide +kernel) rfl
theorem ki_X2_isBehind : Cond.instanceMethod yX2_isBehind ∈ tb := tb2 226 (by decide +kernel) rfl
theorem ks_X2_isBehind : Cond.selects yX2_isBehind.cls yX2_isBehind yX2_isBehind ∈ tb := tbS 8 (by decide +kernel) rfl
theorem kd_X2_isBehind : yX2_isBehind.cls ≠ "java/lang/invoke/MethodHandle" ∧ yX2_isBehind.cls ≠ "java/lang/invoke/VarHandle" ∧ (parseMethodDescriptor yX2_isBehind.desc).map (fun d => d.parameters.length) = some 4 := ⟨by decide, by decide, by decide +kernel⟩
theorem kc_X3_divide : Cond.code yX3_divide cX3_divide 8 (some .int) ∈ tb := tb3 7 (by decide +kernel) rfl
theorem ki_X3_divide : Cond.instanceMethod yX3_divide ∈ tb := tb3 6 (by decide +kernel) rfl
theorem ks_X3_divide : Cond.selects yX3_divide.cls yX3_divide yX3_divide ∈ tb := tbS 10 (by decide +kernel) rfl
theorem kd_X3_divide : yX3_divide.cls ≠ "java/lang/invoke/MethodHandle" ∧ yX3_divide.cls ≠ "java/lang/invoke/VarHandle" ∧ (parseMethodDescriptor yX3_divide.desc).map (fun d => d.parameters.length) = some 2 := ⟨by decide, by decide, by decide +kernel⟩
theorem kc_X3_gatherLanes : Cond.code yX3_gatherLanes cX3_gatherLanes 3 none ∈ tb := tb2 203 (by decide +kernel) rfl
theorem ki_X3_gatherLanes : Cond.instanceMethod yX3_gatherLanes ∈ tb := tb2 201 (by decide +kernel) rfl
theorem ks_X3_gatherLanes : Cond.selects yX3_gatherLanes.cls yX3_gatherLanes yX3_gatherLanes ∈ tb := tb2 202 (by decide +kernel) rfl
theorem kd_X3_gatherLanes : yX3_gatherLanes.cls ≠ "java/lang/invoke/MethodHandle" ∧ yX3_gatherLanes.cls ≠ "java/lang/invoke/VarHandle" ∧ (parseMethodDescriptor yX3_gatherLanes.desc).map (fun d => d.parameters.length) = some 2 := ⟨by decide, by decide, by decide +kernel⟩
theorem kc_X3_gatherLanesOf : Cond.code yX3_gatherLanesOf cX3_gatherLanesOf 9 none ∈ tb := tb2 211 (by decide +kernel) rfl
theorem ki_X3_gatherLanesOf : Cond.instanceMethod yX3_gatherLanesOf ∈ tb := tb2 210 (by decide +kernel) rfl
theorem ks_X3_gatherLanesOf : Cond.selects yX3_gatherLanesOf.cls yX3_gatherLanesOf yX3_gatherLanesOf ∈ tb := tbS 6 (by decide +kernel) rfl
theorem kd_X3_gatherLanesOf : yX3_gatherLanesOf.cls ≠ "java/lang/invoke/MethodHandle" ∧ yX3_gatherLanesOf.cls ≠ "java/lang/invoke/VarHandle" ∧ (parseMethodDescriptor yX3_gatherLanesOf.desc).map (fun d => d.parameters.length) = some 5 := ⟨by decide, by decide, by decide +kernel⟩
theorem kc_X3_init : Cond.code yX3_init cX3_init 1 none ∈ tb := tb1 46 (by decide +kernel) rfl
theorem ki_X3_init : Cond.instanceMethod yX3_init ∈ tb := tb1 45 (by decide +kernel) rfl
theorem kd_X3_init : yX3_init.cls ≠ "java/lang/invoke/MethodHandle" ∧ yX3_init.cls ≠ "java/lang/invoke/VarHandle" ∧ (parseMethodDescriptor yX3_init.desc).map (fun d => d.parameters.length) = some 0 := ⟨by decide, by decide, by decide +kernel⟩
theorem kc_X3_isByNumber : Cond.code yX3_isByNumber cX3_isByNumber 2 (some .boolean) ∈ tb := tb3 228 (by decide +kernel) rfl
theorem ki_X3_isByNumber : Cond.instanceMethod yX3_isByNumber ∈ tb := tb3 226 (by decide +kernel) rfl
theorem ks_X3_isByNumber : Cond.selects yX3_isByNumber.cls yX3_isByNumber yX3_isByNumber ∈ tb := tb3 227 (by decide +kernel) rfl
theorem kd_X3_isByNumber : yX3_isByNumber.cls ≠ "java/lang/invoke/MethodHandle" ∧ yX3_isByNumber.cls ≠ "java/lang/invoke/VarHandle" ∧ (parseMethodDescriptor yX3_isByNumber.desc).map (fun d => d.parameters.length) = some 0 := ⟨by decide, by decide, by decide +kernel⟩
theorem kc_X3_isOrderedLike : Cond.code yX3_isOrderedLike cX3_isOrderedLike 3 (some .boolean) ∈ tb := tb3 174 (by decide +kernel) rfl
theorem ki_X3_isOrderedLike : Cond.instanceMethod yX3_isOrderedLike ∈ tb := tb3 172 (by decide +kernel) rfl
theorem ks_X3_isOrderedLike : Cond.selects yX3_isOrderedLike.cls yX3_isOrderedLike yX3_isOrderedLike ∈ tb := tb3 173 (by decide +kernel) rfl
theorem kd_X3_isOrderedLike : yX3_isOrderedLike.cls ≠ "java/lang/invoke/MethodHandle" ∧ yX3_isOrderedLike.cls ≠ "java/lang/invoke/VarHandle" ∧ (parseMethodDescriptor yX3_isOrderedLike.desc).map (fun d => d.parameters.length) = some 1 := ⟨by decide, by decide, by decide +kernel⟩
theorem kc_X3_nearestFigure : Cond.code yX3_nearestFigure cX3_nearestFigure 6 (some .int) ∈ tb := tb2 187 (by decide +kernel) rfl
theorem ki_X3_nearestFigure : Cond.instanceMethod yX3_nearestFigure ∈ tb := tb2 186 (by decide +kernel) rfl
theorem ks_X3_nearestFigure : Cond.selects yX3_nearestFigure.cls yX3_nearestFigure yX3_nearestFigure ∈ tb := tbS 4 (by decide +kernel) rfl
theorem kd_X3_nearestFigure : yX3_nearestFigure.cls ≠ "java/lang/invoke/MethodHandle" ∧ yX3_nearestFigure.cls ≠ "java/lang/invoke/VarHandle" ∧ (parseMethodDescriptor yX3_nearestFigure.desc).map (fun d => d.parameters.length) = some 1 := ⟨by decide, by decide, by decide +kernel⟩
theorem kc_X3_nextBegin : Cond.code yX3_nextBegin cX3_nextBegin 10 (some .int) ∈ tb := tb2 215 (by decide +kernel) rfl
theorem ki_X3_nextBegin : Cond.instanceMethod yX3_nextBegin ∈ tb := tb2 214 (by decide +kernel) rfl
theorem ks_X3_nextBegin : Cond.selects yX3_nextBegin.cls yX3_nextBegin yX3_nextBegin ∈ tb := tbS 7 (by decide +kernel) rfl
theorem kd_X3_nextBegin : yX3_nextBegin.cls ≠ "java/lang/invoke/MethodHandle" ∧ yX3_nextBegin.cls ≠ "java/lang/invoke/VarHandle" ∧ (parseMethodDescriptor yX3_nextBegin.desc).map (fun d => d.parameters.length) = some 5 := ⟨by decide, by decide, by decide +kernel⟩
theorem kc_X3_putInOrder : Cond.code yX3_putInOrder cX3_putInOrder 3 none ∈ tb := tb3 18 (by decide +kernel) rfl
theorem ki_X3_putInOrder : Cond.instanceMethod yX3_putInOrder ∈ tb := tb3 17 (by decide +kernel) rfl
theorem ks_X3_putInOrder : Cond.selects yX3_putInOrder.cls yX3_putInOrder yX3_putInOrder ∈ tb := tbS 11 (by decide +kernel) rfl
theorem kd_X3_putInOrder : yX3_putInOrder.cls ≠ "java/lang/invoke/MethodHandle" ∧ yX3_putInOrder.cls ≠ "java/lang/invoke/VarHandle" ∧ (parseMethodDescriptor yX3_putInOrder.desc).map (fun d => d.parameters.length) = some 0 := ⟨by decide, by decide, by decide +kernel⟩
theorem kc_X3_putNext : Cond.code yX3_putNext cX3_putNext 2 none ∈ tb := tb3 22 (by decide +kernel) rfl
theorem ki_X3_putNext : Cond.instanceMethod yX3_putNext ∈ tb := tb3 21 (by decide +kernel) rfl
theorem ks_X3_putNext : Cond.selects yX3_putNext.cls yX3_putNext yX3_putNext ∈ tb := tbS 12 (by decide +kernel) rfl
theorem kd_X3_putNext : yX3_putNext.cls ≠ "java/lang/invoke/MethodHandle" ∧ yX3_putNext.cls ≠ "java/lang/invoke/VarHandle" ∧ (parseMethodDescriptor yX3_putNext.desc).map (fun d => d.parameters.length) = some 1 := ⟨by decide, by decide, by decide +kernel⟩
theorem kc_X3_readLeaf : Cond.code yX3_readLeaf cX3_readLeaf 7 none ∈ tb := tb2 231 (by decide +kernel) rfl
theorem ki_X3_readLeaf : Cond.instanceMethod yX3_readLeaf ∈ tb := tb2 230 (by decide +kernel) rfl
theorem ks_X3_readLeaf : Cond.selects yX3_readLeaf.cls yX3_readLeaf yX3_readLeaf ∈ tb := tbS 9 (by decide +kernel) rfl
theorem kd_X3_readLeaf : yX3_readLeaf.cls ≠ "java/lang/invoke/MethodHandle" ∧ yX3_readLeaf.cls ≠ "java/lang/invoke/VarHandle" ∧ (parseMethodDescriptor yX3_readLeaf.desc).map (fun d => d.parameters.length) = some 3 := ⟨by decide, by decide, by decide +kernel⟩
theorem kc_X3_readPart : Cond.code yX3_readPart cX3_readPart 5 none ∈ tb := tb2 199 (by decide +kernel) rfl
theorem ki_X3_readPart : Cond.instanceMethod yX3_readPart ∈ tb := tb2 198 (by decide +kernel) rfl
theorem ks_X3_readPart : Cond.selects yX3_readPart.cls yX3_readPart yX3_readPart ∈ tb := tbS 5 (by decide +kernel) rfl
theorem kd_X3_readPart : yX3_readPart.cls ≠ "java/lang/invoke/MethodHandle" ∧ yX3_readPart.cls ≠ "java/lang/invoke/VarHandle" ∧ (parseMethodDescriptor yX3_readPart.desc).map (fun d => d.parameters.length) = some 3 := ⟨by decide, by decide, by decide +kernel⟩
theorem kc_X3_reason : Cond.code yX3_reason cX3_reason 4 (some .int) ∈ tb := tb3 82 (by decide +kernel) rfl
theorem ki_X3_reason : Cond.instanceMethod yX3_reason ∈ tb := tb3 80 (by decide +kernel) rfl
theorem ks_X3_reason : Cond.selects yX3_reason.cls yX3_reason yX3_reason ∈ tb := tb3 81 (by decide +kernel) rfl
theorem kd_X3_reason : yX3_reason.cls ≠ "java/lang/invoke/MethodHandle" ∧ yX3_reason.cls ≠ "java/lang/invoke/VarHandle" ∧ (parseMethodDescriptor yX3_reason.desc).map (fun d => d.parameters.length) = some 2 := ⟨by decide, by decide, by decide +kernel⟩
theorem kc_X3_renew : Cond.code yX3_renew cX3_renew 2 none ∈ tb := tb2 179 (by decide +kernel) rfl
theorem ki_X3_renew : Cond.instanceMethod yX3_renew ∈ tb := tb2 177 (by decide +kernel) rfl
theorem ks_X3_renew : Cond.selects yX3_renew.cls yX3_renew yX3_renew ∈ tb := tb2 178 (by decide +kernel) rfl
theorem kd_X3_renew : yX3_renew.cls ≠ "java/lang/invoke/MethodHandle" ∧ yX3_renew.cls ≠ "java/lang/invoke/VarHandle" ∧ (parseMethodDescriptor yX3_renew.desc).map (fun d => d.parameters.length) = some 0 := ⟨by decide, by decide, by decide +kernel⟩
theorem kc_X4_add : Cond.code yX4_add cX4_add 4 none ∈ tb := tb3 194 (by decide +kernel) rfl
theorem ki_X4_add : Cond.instanceMethod yX4_add ∈ tb := tb3 192 (by decide +kernel) rfl
theorem ks_X4_add : Cond.selects yX4_add.cls yX4_add yX4_add ∈ tb := tb3 193 (by decide +kernel) rfl
theorem kd_X4_add : yX4_add.cls ≠ "java/lang/invoke/MethodHandle" ∧ yX4_add.cls ≠ "java/lang/invoke/VarHandle" ∧ (parseMethodDescriptor yX4_add.desc).map (fun d => d.parameters.length) = some 3 := ⟨by decide, by decide, by decide +kernel⟩
theorem kc_X4_clear : Cond.code yX4_clear cX4_clear 1 none ∈ tb := tb3 26 (by decide +kernel) rfl
theorem ki_X4_clear : Cond.instanceMethod yX4_clear ∈ tb := tb3 24 (by decide +kernel) rfl
theorem ks_X4_clear : Cond.selects yX4_clear.cls yX4_clear yX4_clear ∈ tb := tb3 25 (by decide +kernel) rfl
theorem kd_X4_clear : yX4_clear.cls ≠ "java/lang/invoke/MethodHandle" ∧ yX4_clear.cls ≠ "java/lang/invoke/VarHandle" ∧ (parseMethodDescriptor yX4_clear.desc).map (fun d => d.parameters.length) = some 0 := ⟨by decide, by decide, by decide +kernel⟩
theorem kc_X4_copy : Cond.code yX4_copy cX4_copy 2 none ∈ tb := tb3 236 (by decide +kernel) rfl
theorem ki_X4_copy : Cond.instanceMethod yX4_copy ∈ tb := tb3 234 (by decide +kernel) rfl
theorem ks_X4_copy : Cond.selects yX4_copy.cls yX4_copy yX4_copy ∈ tb := tb3 235 (by decide +kernel) rfl
theorem kd_X4_copy : yX4_copy.cls ≠ "java/lang/invoke/MethodHandle" ∧ yX4_copy.cls ≠ "java/lang/invoke/VarHandle" ∧ (parseMethodDescriptor yX4_copy.desc).map (fun d => d.parameters.length) = some 1 := ⟨by decide, by decide, by decide +kernel⟩
theorem kc_X4_init : Cond.code yX4_init cX4_init 1 none ∈ tb := tb1 205 (by decide +kernel) rfl
theorem ki_X4_init : Cond.instanceMethod yX4_init ∈ tb := tb1 204 (by decide +kernel) rfl
theorem kd_X4_init : yX4_init.cls ≠ "java/lang/invoke/MethodHandle" ∧ yX4_init.cls ≠ "java/lang/invoke/VarHandle" ∧ (parseMethodDescriptor yX4_init.desc).map (fun d => d.parameters.length) = some 0 := ⟨by decide, by decide, by decide +kernel⟩
theorem kc_X4_kindsSo : Cond.code yX4_kindsSo cX4_kindsSo 1 (some .int) ∈ tb := tb3 46 (by decide +kernel) rfl
theorem ki_X4_kindsSo : Cond.static yX4_kindsSo ∈ tb := tb3 45 (by decide +kernel) rfl
theorem kd_X4_kindsSo : yX4_kindsSo.cls ≠ "java/lang/invoke/MethodHandle" ∧ yX4_kindsSo.cls ≠ "java/lang/invoke/VarHandle" ∧ (parseMethodDescriptor yX4_kindsSo.desc).map (fun d => d.parameters.length) = some 1 := ⟨by decide, by decide, by decide +kernel⟩
theorem kc_X4_nextQuestionFor : Cond.code yX4_nextQuestionFor cX4_nextQuestionFor 9 (some .int) ∈ tb := tb3 42 (by decide +kernel) rfl
theorem ki_X4_nextQuestionFor : Cond.instanceMethod yX4_nextQuestionFor ∈ tb := tb3 40 (by decide +kernel) rfl
theorem ks_X4_nextQuestionFor : Cond.selects yX4_nextQuestionFor.cls yX4_nextQuestionFor yX4_nextQuestionFor ∈ tb := tb3 41 (by decide +kernel) rfl
theorem kd_X4_nextQuestionFor : yX4_nextQuestionFor.cls ≠ "java/lang/invoke/MethodHandle" ∧ yX4_nextQuestionFor.cls ≠ "java/lang/invoke/VarHandle" ∧ (parseMethodDescriptor yX4_nextQuestionFor.desc).map (fun d => d.parameters.length) = some 1 := ⟨by decide, by decide, by decide +kernel⟩
theorem kc_X4_sortsOf : Cond.code yX4_sortsOf cX4_sortsOf 4 (some .int) ∈ tb := tb3 38 (by decide +kernel) rfl
theorem ki_X4_sortsOf : Cond.instanceMethod yX4_sortsOf ∈ tb := tb3 36 (by decide +kernel) rfl
theorem ks_X4_sortsOf : Cond.selects yX4_sortsOf.cls yX4_sortsOf yX4_sortsOf ∈ tb := tb3 37 (by decide +kernel) rfl
theorem kd_X4_sortsOf : yX4_sortsOf.cls ≠ "java/lang/invoke/MethodHandle" ∧ yX4_sortsOf.cls ≠ "java/lang/invoke/VarHandle" ∧ (parseMethodDescriptor yX4_sortsOf.desc).map (fun d => d.parameters.length) = some 1 := ⟨by decide, by decide, by decide +kernel⟩
theorem kc_X5_add : Cond.code yX5_add cX5_add 6 none ∈ tb := tb2 170 (by decide +kernel) rfl
theorem ki_X5_add : Cond.instanceMethod yX5_add ∈ tb := tb2 168 (by decide +kernel) rfl
theorem ks_X5_add : Cond.selects yX5_add.cls yX5_add yX5_add ∈ tb := tb2 169 (by decide +kernel) rfl
theorem kd_X5_add : yX5_add.cls ≠ "java/lang/invoke/MethodHandle" ∧ yX5_add.cls ≠ "java/lang/invoke/VarHandle" ∧ (parseMethodDescriptor yX5_add.desc).map (fun d => d.parameters.length) = some 5 := ⟨by decide, by decide, by decide +kernel⟩
theorem kc_X5_addRule : Cond.code yX5_addRule cX5_addRule 2 none ∈ tb := tb2 175 (by decide +kernel) rfl
theorem ki_X5_addRule : Cond.instanceMethod yX5_addRule ∈ tb := tb2 173 (by decide +kernel) rfl
theorem ks_X5_addRule : Cond.selects yX5_addRule.cls yX5_addRule yX5_addRule ∈ tb := tb2 174 (by decide +kernel) rfl
theorem kd_X5_addRule : yX5_addRule.cls ≠ "java/lang/invoke/MethodHandle" ∧ yX5_addRule.cls ≠ "java/lang/invoke/VarHandle" ∧ (parseMethodDescriptor yX5_addRule.desc).map (fun d => d.parameters.length) = some 1 := ⟨by decide, by decide, by decide +kernel⟩
theorem kc_X5_clear : Cond.code yX5_clear cX5_clear 1 none ∈ tb := tb2 162 (by decide +kernel) rfl
theorem ki_X5_clear : Cond.instanceMethod yX5_clear ∈ tb := tb2 160 (by decide +kernel) rfl
theorem ks_X5_clear : Cond.selects yX5_clear.cls yX5_clear yX5_clear ∈ tb := tb2 161 (by decide +kernel) rfl
theorem kd_X5_clear : yX5_clear.cls ≠ "java/lang/invoke/MethodHandle" ∧ yX5_clear.cls ≠ "java/lang/invoke/VarHandle" ∧ (parseMethodDescriptor yX5_clear.desc).map (fun d => d.parameters.length) = some 0 := ⟨by decide, by decide, by decide +kernel⟩
theorem kc_X5_copy : Cond.code yX5_copy cX5_copy 2 none ∈ tb := tb3 159 (by decide +kernel) rfl
theorem ki_X5_copy : Cond.instanceMethod yX5_copy ∈ tb := tb3 157 (by decide +kernel) rfl
theorem ks_X5_copy : Cond.selects yX5_copy.cls yX5_copy yX5_copy ∈ tb := tb3 158 (by decide +kernel) rfl
theorem kd_X5_copy : yX5_copy.cls ≠ "java/lang/invoke/MethodHandle" ∧ yX5_copy.cls ≠ "java/lang/invoke/VarHandle" ∧ (parseMethodDescriptor yX5_copy.desc).map (fun d => d.parameters.length) = some 1 := ⟨by decide, by decide, by decide +kernel⟩
theorem kc_X5_copyWithout : Cond.code yX5_copyWithout cX5_copyWithout 3 none ∈ tb := tb3 155 (by decide +kernel) rfl
theorem ki_X5_copyWithout : Cond.instanceMethod yX5_copyWithout ∈ tb := tb3 153 (by decide +kernel) rfl
theorem ks_X5_copyWithout : Cond.selects yX5_copyWithout.cls yX5_copyWithout yX5_copyWithout ∈ tb := tb3 154 (by decide +kernel) rfl
theorem kd_X5_copyWithout : yX5_copyWithout.cls ≠ "java/lang/invoke/MethodHandle" ∧ yX5_copyWithout.cls ≠ "java/lang/invoke/VarHandle" ∧ (parseMethodDescriptor yX5_copyWithout.desc).map (fun d => d.parameters.length) = some 2 := ⟨by decide, by decide, by decide +kernel⟩
theorem kc_X5_distance : Cond.code yX5_distance cX5_distance 3 (some .int) ∈ tb := tb2 191 (by decide +kernel) rfl
theorem ki_X5_distance : Cond.instanceMethod yX5_distance ∈ tb := tb2 189 (by decide +kernel) rfl
theorem ks_X5_distance : Cond.selects yX5_distance.cls yX5_distance yX5_distance ∈ tb := tb2 190 (by decide +kernel) rfl
theorem kd_X5_distance : yX5_distance.cls ≠ "java/lang/invoke/MethodHandle" ∧ yX5_distance.cls ≠ "java/lang/invoke/VarHandle" ∧ (parseMethodDescriptor yX5_distance.desc).map (fun d => d.parameters.length) = some 2 := ⟨by decide, by decide, by decide +kernel⟩
theorem kc_X5_dropRule : Cond.code yX5_dropRule cX5_dropRule 3 none ∈ tb := tb3 182 (by decide +kernel) rfl
theorem ki_X5_dropRule : Cond.instanceMethod yX5_dropRule ∈ tb := tb3 180 (by decide +kernel) rfl
theorem ks_X5_dropRule : Cond.selects yX5_dropRule.cls yX5_dropRule yX5_dropRule ∈ tb := tb3 181 (by decide +kernel) rfl
theorem kd_X5_dropRule : yX5_dropRule.cls ≠ "java/lang/invoke/MethodHandle" ∧ yX5_dropRule.cls ≠ "java/lang/invoke/VarHandle" ∧ (parseMethodDescriptor yX5_dropRule.desc).map (fun d => d.parameters.length) = some 1 := ⟨by decide, by decide, by decide +kernel⟩
theorem kc_X5_gap : Cond.code yX5_gap cX5_gap 4 (some .int) ∈ tb := tb2 194 (by decide +kernel) rfl
theorem ki_X5_gap : Cond.static yX5_gap ∈ tb := tb2 193 (by decide +kernel) rfl
theorem kd_X5_gap : yX5_gap.cls ≠ "java/lang/invoke/MethodHandle" ∧ yX5_gap.cls ≠ "java/lang/invoke/VarHandle" ∧ (parseMethodDescriptor yX5_gap.desc).map (fun d => d.parameters.length) = some 4 := ⟨by decide, by decide, by decide +kernel⟩
theorem kc_X5_greatestNumber : Cond.code yX5_greatestNumber cX5_greatestNumber 3 (some .int) ∈ tb := tb3 143 (by decide +kernel) rfl
theorem ki_X5_greatestNumber : Cond.instanceMethod yX5_greatestNumber ∈ tb := tb3 141 (by decide +kernel) rfl
theorem ks_X5_greatestNumber : Cond.selects yX5_greatestNumber.cls yX5_greatestNumber yX5_greatestNumber ∈ tb := tb3 142 (by decide +kernel) rfl
theorem kd_X5_greatestNumber : yX5_greatestNumber.cls ≠ "java/lang/invoke/MethodHandle" ∧ yX5_greatestNumber.cls ≠ "java/lang/invoke/VarHandle" ∧ (parseMethodDescriptor yX5_greatestNumber.desc).map (fun d => d.parameters.length) = some 0 := ⟨by decide, by decide, by decide +kernel⟩
theorem kc_X5_has : Cond.code yX5_has cX5_has 2 (some .boolean) ∈ tb := tb3 34 (by decide +kernel) rfl
theorem ki_X5_has : Cond.instanceMethod yX5_has ∈ tb := tb3 32 (by decide +kernel) rfl
theorem ks_X5_has : Cond.selects yX5_has.cls yX5_has yX5_has ∈ tb := tb3 33 (by decide +kernel) rfl
theorem kd_X5_has : yX5_has.cls ≠ "java/lang/invoke/MethodHandle" ∧ yX5_has.cls ≠ "java/lang/invoke/VarHandle" ∧ (parseMethodDescriptor yX5_has.desc).map (fun d => d.parameters.length) = some 1 := ⟨by decide, by decide, by decide +kernel⟩
theorem kc_X5_init : Cond.code yX5_init cX5_init 1 none ∈ tb := tb1 52 (by decide +kernel) rfl
theorem ki_X5_init : Cond.instanceMethod yX5_init ∈ tb := tb1 51 (by decide +kernel) rfl
theorem kd_X5_init : yX5_init.cls ≠ "java/lang/invoke/MethodHandle" ∧ yX5_init.cls ≠ "java/lang/invoke/VarHandle" ∧ (parseMethodDescriptor yX5_init.desc).map (fun d => d.parameters.length) = some 0 := ⟨by decide, by decide, by decide +kernel⟩
theorem kc_X5_isAhead : Cond.code yX5_isAhead cX5_isAhead 5 (some .boolean) ∈ tb := tb2 235 (by decide +kernel) rfl
theorem ki_X5_isAhead : Cond.instanceMethod yX5_isAhead ∈ tb := tb2 233 (by decide +kernel) rfl
theorem ks_X5_isAhead : Cond.selects yX5_isAhead.cls yX5_isAhead yX5_isAhead ∈ tb := tb2 234 (by decide +kernel) rfl
theorem kd_X5_isAhead : yX5_isAhead.cls ≠ "java/lang/invoke/MethodHandle" ∧ yX5_isAhead.cls ≠ "java/lang/invoke/VarHandle" ∧ (parseMethodDescriptor yX5_isAhead.desc).map (fun d => d.parameters.length) = some 2 := ⟨by decide, by decide, by decide +kernel⟩
theorem kc_X5_isOfKind : Cond.code yX5_isOfKind cX5_isOfKind 3 (some .boolean) ∈ tb := tb3 3 (by decide +kernel) rfl
theorem ki_X5_isOfKind : Cond.instanceMethod yX5_isOfKind ∈ tb := tb3 1 (by decide +kernel) rfl
theorem ks_X5_isOfKind : Cond.selects yX5_isOfKind.cls yX5_isOfKind yX5_isOfKind ∈ tb := tb3 2 (by decide +kernel) rfl
theorem kd_X5_isOfKind : yX5_isOfKind.cls ≠ "java/lang/invoke/MethodHandle" ∧ yX5_isOfKind.cls ≠ "java/lang/invoke/VarHandle" ∧ (parseMethodDescriptor yX5_isOfKind.desc).map (fun d => d.parameters.length) = some 2 := ⟨by decide, by decide, by decide +kernel⟩
theorem kc_X5_rank : Cond.code yX5_rank cX5_rank 3 (some .int) ∈ tb := tb2 239 (by decide +kernel) rfl
theorem ki_X5_rank : Cond.instanceMethod yX5_rank ∈ tb := tb2 237 (by decide +kernel) rfl
theorem ks_X5_rank : Cond.selects yX5_rank.cls yX5_rank yX5_rank ∈ tb := tb2 238 (by decide +kernel) rfl
theorem kd_X5_rank : yX5_rank.cls ≠ "java/lang/invoke/MethodHandle" ∧ yX5_rank.cls ≠ "java/lang/invoke/VarHandle" ∧ (parseMethodDescriptor yX5_rank.desc).map (fun d => d.parameters.length) = some 2 := ⟨by decide, by decide, by decide +kernel⟩
theorem kc_X5_remove : Cond.code yX5_remove cX5_remove 3 none ∈ tb := tb3 103 (by decide +kernel) rfl
theorem ki_X5_remove : Cond.instanceMethod yX5_remove ∈ tb := tb3 101 (by decide +kernel) rfl
theorem ks_X5_remove : Cond.selects yX5_remove.cls yX5_remove yX5_remove ∈ tb := tb3 102 (by decide +kernel) rfl
theorem kd_X5_remove : yX5_remove.cls ≠ "java/lang/invoke/MethodHandle" ∧ yX5_remove.cls ≠ "java/lang/invoke/VarHandle" ∧ (parseMethodDescriptor yX5_remove.desc).map (fun d => d.parameters.length) = some 1 := ⟨by decide, by decide, by decide +kernel⟩
theorem kc_X5_ruleThatTells : Cond.code yX5_ruleThatTells cX5_ruleThatTells 4 (some .int) ∈ tb := tb3 86 (by decide +kernel) rfl
theorem ki_X5_ruleThatTells : Cond.instanceMethod yX5_ruleThatTells ∈ tb := tb3 84 (by decide +kernel) rfl
theorem ks_X5_ruleThatTells : Cond.selects yX5_ruleThatTells.cls yX5_ruleThatTells yX5_ruleThatTells ∈ tb := tb3 85 (by decide +kernel) rfl
theorem kd_X5_ruleThatTells : yX5_ruleThatTells.cls ≠ "java/lang/invoke/MethodHandle" ∧ yX5_ruleThatTells.cls ≠ "java/lang/invoke/VarHandle" ∧ (parseMethodDescriptor yX5_ruleThatTells.desc).map (fun d => d.parameters.length) = some 2 := ⟨by decide, by decide, by decide +kernel⟩
theorem kc_X5_shift : Cond.code yX5_shift cX5_shift 4 none ∈ tb := tb3 119 (by decide +kernel) rfl
theorem ki_X5_shift : Cond.instanceMethod yX5_shift ∈ tb := tb3 117 (by decide +kernel) rfl
theorem ks_X5_shift : Cond.selects yX5_shift.cls yX5_shift yX5_shift ∈ tb := tb3 118 (by decide +kernel) rfl
theorem kd_X5_shift : yX5_shift.cls ≠ "java/lang/invoke/MethodHandle" ∧ yX5_shift.cls ≠ "java/lang/invoke/VarHandle" ∧ (parseMethodDescriptor yX5_shift.desc).map (fun d => d.parameters.length) = some 3 := ⟨by decide, by decide, by decide +kernel⟩
theorem kc_X5_staysInside : Cond.code yX5_staysInside cX5_staysInside 4 (some .boolean) ∈ tb := tb3 115 (by decide +kernel) rfl
theorem ki_X5_staysInside : Cond.instanceMethod yX5_staysInside ∈ tb := tb3 113 (by decide +kernel) rfl
theorem ks_X5_staysInside : Cond.selects yX5_staysInside.cls yX5_staysInside yX5_staysInside ∈ tb := tb3 114 (by decide +kernel) rfl
theorem kd_X5_staysInside : yX5_staysInside.cls ≠ "java/lang/invoke/MethodHandle" ∧ yX5_staysInside.cls ≠ "java/lang/invoke/VarHandle" ∧ (parseMethodDescriptor yX5_staysInside.desc).map (fun d => d.parameters.length) = some 3 := ⟨by decide, by decide, by decide +kernel⟩
theorem kc_X5_stretch : Cond.code yX5_stretch cX5_stretch 3 none ∈ tb := tb3 147 (by decide +kernel) rfl
theorem ki_X5_stretch : Cond.instanceMethod yX5_stretch ∈ tb := tb3 145 (by decide +kernel) rfl
theorem ks_X5_stretch : Cond.selects yX5_stretch.cls yX5_stretch yX5_stretch ∈ tb := tb3 146 (by decide +kernel) rfl
theorem kd_X5_stretch : yX5_stretch.cls ≠ "java/lang/invoke/MethodHandle" ∧ yX5_stretch.cls ≠ "java/lang/invoke/VarHandle" ∧ (parseMethodDescriptor yX5_stretch.desc).map (fun d => d.parameters.length) = some 1 := ⟨by decide, by decide, by decide +kernel⟩
theorem kc_X5_takeRules : Cond.code yX5_takeRules cX5_takeRules 4 none ∈ tb := tb3 134 (by decide +kernel) rfl
theorem ki_X5_takeRules : Cond.instanceMethod yX5_takeRules ∈ tb := tb3 132 (by decide +kernel) rfl
theorem ks_X5_takeRules : Cond.selects yX5_takeRules.cls yX5_takeRules yX5_takeRules ∈ tb := tb3 133 (by decide +kernel) rfl
theorem kd_X5_takeRules : yX5_takeRules.cls ≠ "java/lang/invoke/MethodHandle" ∧ yX5_takeRules.cls ≠ "java/lang/invoke/VarHandle" ∧ (parseMethodDescriptor yX5_takeRules.desc).map (fun d => d.parameters.length) = some 1 := ⟨by decide, by decide, by decide +kernel⟩
theorem kc_X6_add : Cond.code yX6_add cX6_add 2 none ∈ tb := tb2 26 (by decide +kernel) rfl
theorem ki_X6_add : Cond.instanceMethod yX6_add ∈ tb := tb2 24 (by decide +kernel) rfl
theorem ks_X6_add : Cond.selects yX6_add.cls yX6_add yX6_add ∈ tb := tb2 25 (by decide +kernel) rfl
theorem kd_X6_add : yX6_add.cls ≠ "java/lang/invoke/MethodHandle" ∧ yX6_add.cls ≠ "java/lang/invoke/VarHandle" ∧ (parseMethodDescriptor yX6_add.desc).map (fun d => d.parameters.length) = some 1 := ⟨by decide, by decide, by decide +kernel⟩
theorem kc_X6_clear : Cond.code yX6_clear cX6_clear 1 none ∈ tb := tb2 34 (by decide +kernel) rfl
theorem ki_X6_clear : Cond.instanceMethod yX6_clear ∈ tb := tb2 32 (by decide +kernel) rfl
theorem ks_X6_clear : Cond.selects yX6_clear.cls yX6_clear yX6_clear ∈ tb := tb2 33 (by decide +kernel) rfl
theorem kd_X6_clear : yX6_clear.cls ≠ "java/lang/invoke/MethodHandle" ∧ yX6_clear.cls ≠ "java/lang/invoke/VarHandle" ∧ (parseMethodDescriptor yX6_clear.desc).map (fun d => d.parameters.length) = some 0 := ⟨by decide, by decide, by decide +kernel⟩
theorem kc_X6_digitAt : Cond.code yX6_digitAt cX6_digitAt 2 (some .int) ∈ tb := tb2 166 (by decide +kernel) rfl
theorem ki_X6_digitAt : Cond.instanceMethod yX6_digitAt ∈ tb := tb2 165 (by decide +kernel) rfl
theorem ks_X6_digitAt : Cond.selects yX6_digitAt.cls yX6_digitAt yX6_digitAt ∈ tb := tbS 3 (by decide +kernel) rfl
theorem kd_X6_digitAt : yX6_digitAt.cls ≠ "java/lang/invoke/MethodHandle" ∧ yX6_digitAt.cls ≠ "java/lang/invoke/VarHandle" ∧ (parseMethodDescriptor yX6_digitAt.desc).map (fun d => d.parameters.length) = some 1 := ⟨by decide, by decide, by decide +kernel⟩
theorem kc_X6_firstFault : Cond.code yX6_firstFault cX6_firstFault 4 (some .int) ∈ tb := tb2 42 (by decide +kernel) rfl
theorem ki_X6_firstFault : Cond.instanceMethod yX6_firstFault ∈ tb := tb2 40 (by decide +kernel) rfl
theorem ks_X6_firstFault : Cond.selects yX6_firstFault.cls yX6_firstFault yX6_firstFault ∈ tb := tb2 41 (by decide +kernel) rfl
theorem kd_X6_firstFault : yX6_firstFault.cls ≠ "java/lang/invoke/MethodHandle" ∧ yX6_firstFault.cls ≠ "java/lang/invoke/VarHandle" ∧ (parseMethodDescriptor yX6_firstFault.desc).map (fun d => d.parameters.length) = some 0 := ⟨by decide, by decide, by decide +kernel⟩
theorem kc_X6_fitsBoxes : Cond.code yX6_fitsBoxes cX6_fitsBoxes 3 (some .boolean) ∈ tb := tb2 46 (by decide +kernel) rfl
theorem ki_X6_fitsBoxes : Cond.instanceMethod yX6_fitsBoxes ∈ tb := tb2 45 (by decide +kernel) rfl
theorem ks_X6_fitsBoxes : Cond.selects yX6_fitsBoxes.cls yX6_fitsBoxes yX6_fitsBoxes ∈ tb := tbS 0 (by decide +kernel) rfl
theorem kd_X6_fitsBoxes : yX6_fitsBoxes.cls ≠ "java/lang/invoke/MethodHandle" ∧ yX6_fitsBoxes.cls ≠ "java/lang/invoke/VarHandle" ∧ (parseMethodDescriptor yX6_fitsBoxes.desc).map (fun d => d.parameters.length) = some 1 := ⟨by decide, by decide, by decide +kernel⟩
theorem kc_X6_fitsRules : Cond.code yX6_fitsRules cX6_fitsRules 4 (some .boolean) ∈ tb := tb2 140 (by decide +kernel) rfl
theorem ki_X6_fitsRules : Cond.instanceMethod yX6_fitsRules ∈ tb := tb2 139 (by decide +kernel) rfl
theorem ks_X6_fitsRules : Cond.selects yX6_fitsRules.cls yX6_fitsRules yX6_fitsRules ∈ tb := tbS 1 (by decide +kernel) rfl
theorem kd_X6_fitsRules : yX6_fitsRules.cls ≠ "java/lang/invoke/MethodHandle" ∧ yX6_fitsRules.cls ≠ "java/lang/invoke/VarHandle" ∧ (parseMethodDescriptor yX6_fitsRules.desc).map (fun d => d.parameters.length) = some 2 := ⟨by decide, by decide, by decide +kernel⟩
theorem kc_X6_init : Cond.code yX6_init cX6_init 1 none ∈ tb := tb1 30 (by decide +kernel) rfl
theorem ki_X6_init : Cond.instanceMethod yX6_init ∈ tb := tb1 29 (by decide +kernel) rfl
theorem kd_X6_init : yX6_init.cls ≠ "java/lang/invoke/MethodHandle" ∧ yX6_init.cls ≠ "java/lang/invoke/VarHandle" ∧ (parseMethodDescriptor yX6_init.desc).map (fun d => d.parameters.length) = some 0 := ⟨by decide, by decide, by decide +kernel⟩
theorem kc_X6_isPage : Cond.code yX6_isPage cX6_isPage 2 (some .boolean) ∈ tb := tb2 149 (by decide +kernel) rfl
theorem ki_X6_isPage : Cond.instanceMethod yX6_isPage ∈ tb := tb2 147 (by decide +kernel) rfl
theorem ks_X6_isPage : Cond.selects yX6_isPage.cls yX6_isPage yX6_isPage ∈ tb := tb2 148 (by decide +kernel) rfl
theorem kd_X6_isPage : yX6_isPage.cls ≠ "java/lang/invoke/MethodHandle" ∧ yX6_isPage.cls ≠ "java/lang/invoke/VarHandle" ∧ (parseMethodDescriptor yX6_isPage.desc).map (fun d => d.parameters.length) = some 0 := ⟨by decide, by decide, by decide +kernel⟩
theorem kc_X6_kindOf : Cond.code yX6_kindOf cX6_kindOf 1 (some .int) ∈ tb := tb2 49 (by decide +kernel) rfl
theorem ki_X6_kindOf : Cond.static yX6_kindOf ∈ tb := tb2 48 (by decide +kernel) rfl
theorem kd_X6_kindOf : yX6_kindOf.cls ≠ "java/lang/invoke/MethodHandle" ∧ yX6_kindOf.cls ≠ "java/lang/invoke/VarHandle" ∧ (parseMethodDescriptor yX6_kindOf.desc).map (fun d => d.parameters.length) = some 1 := ⟨by decide, by decide, by decide +kernel⟩
theorem kc_X6_rulesPlace : Cond.code yX6_rulesPlace cX6_rulesPlace 2 (some .int) ∈ tb := tb2 153 (by decide +kernel) rfl
theorem ki_X6_rulesPlace : Cond.instanceMethod yX6_rulesPlace ∈ tb := tb2 152 (by decide +kernel) rfl
theorem ks_X6_rulesPlace : Cond.selects yX6_rulesPlace.cls yX6_rulesPlace yX6_rulesPlace ∈ tb := tbS 2 (by decide +kernel) rfl
theorem kd_X6_rulesPlace : yX6_rulesPlace.cls ≠ "java/lang/invoke/MethodHandle" ∧ yX6_rulesPlace.cls ≠ "java/lang/invoke/VarHandle" ∧ (parseMethodDescriptor yX6_rulesPlace.desc).map (fun d => d.parameters.length) = some 0 := ⟨by decide, by decide, by decide +kernel⟩
theorem kc_X6_writeTo : Cond.code yX6_writeTo cX6_writeTo 4 none ∈ tb := tb2 158 (by decide +kernel) rfl
theorem ki_X6_writeTo : Cond.instanceMethod yX6_writeTo ∈ tb := tb2 156 (by decide +kernel) rfl
theorem ks_X6_writeTo : Cond.selects yX6_writeTo.cls yX6_writeTo yX6_writeTo ∈ tb := tb2 157 (by decide +kernel) rfl
theorem kd_X6_writeTo : yX6_writeTo.cls ≠ "java/lang/invoke/MethodHandle" ∧ yX6_writeTo.cls ≠ "java/lang/invoke/VarHandle" ∧ (parseMethodDescriptor yX6_writeTo.desc).map (fun d => d.parameters.length) = some 1 := ⟨by decide, by decide, by decide +kernel⟩
theorem kc_X7_areRules : Cond.code yX7_areRules cX7_areRules 5 (some .boolean) ∈ tb := tb3 130 (by decide +kernel) rfl
theorem ki_X7_areRules : Cond.static yX7_areRules ∈ tb := tb3 129 (by decide +kernel) rfl
theorem kd_X7_areRules : yX7_areRules.cls ≠ "java/lang/invoke/MethodHandle" ∧ yX7_areRules.cls ≠ "java/lang/invoke/VarHandle" ∧ (parseMethodDescriptor yX7_areRules.desc).map (fun d => d.parameters.length) = some 1 := ⟨by decide, by decide, by decide +kernel⟩
theorem kc_X7_as : Cond.code yX7_as cX7_as 3 (some .int) ∈ tb := tb3 57 (by decide +kernel) rfl
theorem ki_X7_as : Cond.instanceMethod yX7_as ∈ tb := tb3 55 (by decide +kernel) rfl
theorem ks_X7_as : Cond.selects yX7_as.cls yX7_as yX7_as ∈ tb := tb3 56 (by decide +kernel) rfl
theorem kd_X7_as : yX7_as.cls ≠ "java/lang/invoke/MethodHandle" ∧ yX7_as.cls ≠ "java/lang/invoke/VarHandle" ∧ (parseMethodDescriptor yX7_as.desc).map (fun d => d.parameters.length) = some 2 := ⟨by decide, by decide, by decide +kernel⟩
theorem kc_X7_blank : Cond.code yX7_blank cX7_blank 2 (some .int) ∈ tb := tb2 30 (by decide +kernel) rfl
theorem ki_X7_blank : Cond.instanceMethod yX7_blank ∈ tb := tb2 28 (by decide +kernel) rfl
theorem ks_X7_blank : Cond.selects yX7_blank.cls yX7_blank yX7_blank ∈ tb := tb2 29 (by decide +kernel) rfl
theorem kd_X7_blank : yX7_blank.cls ≠ "java/lang/invoke/MethodHandle" ∧ yX7_blank.cls ≠ "java/lang/invoke/VarHandle" ∧ (parseMethodDescriptor yX7_blank.desc).map (fun d => d.parameters.length) = some 0 := ⟨by decide, by decide, by decide +kernel⟩
theorem kc_X7_box : Cond.code yX7_box cX7_box 4 (some .int) ∈ tb := tb3 30 (by decide +kernel) rfl
theorem ki_X7_box : Cond.instanceMethod yX7_box ∈ tb := tb3 28 (by decide +kernel) rfl
theorem ks_X7_box : Cond.selects yX7_box.cls yX7_box yX7_box ∈ tb := tb3 29 (by decide +kernel) rfl
theorem kd_X7_box : yX7_box.cls ≠ "java/lang/invoke/MethodHandle" ∧ yX7_box.cls ≠ "java/lang/invoke/VarHandle" ∧ (parseMethodDescriptor yX7_box.desc).map (fun d => d.parameters.length) = some 2 := ⟨by decide, by decide, by decide +kernel⟩
theorem kc_X7_calm : Cond.code yX7_calm cX7_calm 4 (some .int) ∈ tb := tb3 165 (by decide +kernel) rfl
theorem ki_X7_calm : Cond.instanceMethod yX7_calm ∈ tb := tb3 163 (by decide +kernel) rfl
theorem ks_X7_calm : Cond.selects yX7_calm.cls yX7_calm yX7_calm ∈ tb := tb3 164 (by decide +kernel) rfl
theorem kd_X7_calm : yX7_calm.cls ≠ "java/lang/invoke/MethodHandle" ∧ yX7_calm.cls ≠ "java/lang/invoke/VarHandle" ∧ (parseMethodDescriptor yX7_calm.desc).map (fun d => d.parameters.length) = some 0 := ⟨by decide, by decide, by decide +kernel⟩
theorem kc_X7_change : Cond.code yX7_change cX7_change 4 (some .int) ∈ tb := tb3 123 (by decide +kernel) rfl
theorem ki_X7_change : Cond.instanceMethod yX7_change ∈ tb := tb3 121 (by decide +kernel) rfl
theorem ks_X7_change : Cond.selects yX7_change.cls yX7_change yX7_change ∈ tb := tb3 122 (by decide +kernel) rfl
theorem kd_X7_change : yX7_change.cls ≠ "java/lang/invoke/MethodHandle" ∧ yX7_change.cls ≠ "java/lang/invoke/VarHandle" ∧ (parseMethodDescriptor yX7_change.desc).map (fun d => d.parameters.length) = some 2 := ⟨by decide, by decide, by decide +kernel⟩
theorem kc_X7_count : Cond.code yX7_count cX7_count 2 (some .int) ∈ tb := tb4 5 (by decide +kernel) rfl
theorem ki_X7_count : Cond.instanceMethod yX7_count ∈ tb := tb4 3 (by decide +kernel) rfl
theorem ks_X7_count : Cond.selects yX7_count.cls yX7_count yX7_count ∈ tb := tb4 4 (by decide +kernel) rfl
theorem kd_X7_count : yX7_count.cls ≠ "java/lang/invoke/MethodHandle" ∧ yX7_count.cls ≠ "java/lang/invoke/VarHandle" ∧ (parseMethodDescriptor yX7_count.desc).map (fun d => d.parameters.length) = some 1 := ⟨by decide, by decide, by decide +kernel⟩
theorem kc_X7_cut : Cond.code yX7_cut cX7_cut 4 (some .int) ∈ tb := tb3 69 (by decide +kernel) rfl
theorem ki_X7_cut : Cond.instanceMethod yX7_cut ∈ tb := tb3 67 (by decide +kernel) rfl
theorem ks_X7_cut : Cond.selects yX7_cut.cls yX7_cut yX7_cut ∈ tb := tb3 68 (by decide +kernel) rfl
theorem kd_X7_cut : yX7_cut.cls ≠ "java/lang/invoke/MethodHandle" ∧ yX7_cut.cls ≠ "java/lang/invoke/VarHandle" ∧ (parseMethodDescriptor yX7_cut.desc).map (fun d => d.parameters.length) = some 2 := ⟨by decide, by decide, by decide +kernel⟩
theorem kc_X7_digest : Cond.code yX7_digest cX7_digest 5 (some .long) ∈ tb := tb4 9 (by decide +kernel) rfl
theorem ki_X7_digest : Cond.instanceMethod yX7_digest ∈ tb := tb4 7 (by decide +kernel) rfl
theorem ks_X7_digest : Cond.selects yX7_digest.cls yX7_digest yX7_digest ∈ tb := tb4 8 (by decide +kernel) rfl
theorem kd_X7_digest : yX7_digest.cls ≠ "java/lang/invoke/MethodHandle" ∧ yX7_digest.cls ≠ "java/lang/invoke/VarHandle" ∧ (parseMethodDescriptor yX7_digest.desc).map (fun d => d.parameters.length) = some 0 := ⟨by decide, by decide, by decide +kernel⟩
theorem kc_X7_drawn : Cond.code yX7_drawn cX7_drawn 7 (some .int) ∈ tb := tb3 202 (by decide +kernel) rfl
theorem ki_X7_drawn : Cond.instanceMethod yX7_drawn ∈ tb := tb3 200 (by decide +kernel) rfl
theorem ks_X7_drawn : Cond.selects yX7_drawn.cls yX7_drawn yX7_drawn ∈ tb := tb3 201 (by decide +kernel) rfl
theorem kd_X7_drawn : yX7_drawn.cls ≠ "java/lang/invoke/MethodHandle" ∧ yX7_drawn.cls ≠ "java/lang/invoke/VarHandle" ∧ (parseMethodDescriptor yX7_drawn.desc).map (fun d => d.parameters.length) = some 3 := ⟨by decide, by decide, by decide +kernel⟩
theorem kc_X7_fault : Cond.code yX7_fault cX7_fault 1 (some .int) ∈ tb := tb2 38 (by decide +kernel) rfl
theorem ki_X7_fault : Cond.instanceMethod yX7_fault ∈ tb := tb2 36 (by decide +kernel) rfl
theorem ks_X7_fault : Cond.selects yX7_fault.cls yX7_fault yX7_fault ∈ tb := tb2 37 (by decide +kernel) rfl
theorem kd_X7_fault : yX7_fault.cls ≠ "java/lang/invoke/MethodHandle" ∧ yX7_fault.cls ≠ "java/lang/invoke/VarHandle" ∧ (parseMethodDescriptor yX7_fault.desc).map (fun d => d.parameters.length) = some 0 := ⟨by decide, by decide, by decide +kernel⟩
theorem kc_X7_forget : Cond.code yX7_forget cX7_forget 2 (some .int) ∈ tb := tb3 198 (by decide +kernel) rfl
theorem ki_X7_forget : Cond.instanceMethod yX7_forget ∈ tb := tb3 196 (by decide +kernel) rfl
theorem ks_X7_forget : Cond.selects yX7_forget.cls yX7_forget yX7_forget ∈ tb := tb3 197 (by decide +kernel) rfl
theorem kd_X7_forget : yX7_forget.cls ≠ "java/lang/invoke/MethodHandle" ∧ yX7_forget.cls ≠ "java/lang/invoke/VarHandle" ∧ (parseMethodDescriptor yX7_forget.desc).map (fun d => d.parameters.length) = some 0 := ⟨by decide, by decide, by decide +kernel⟩
theorem kc_X7_free : Cond.code yX7_free cX7_free 4 (some .int) ∈ tb := tb3 186 (by decide +kernel) rfl
theorem ki_X7_free : Cond.instanceMethod yX7_free ∈ tb := tb3 184 (by decide +kernel) rfl
theorem ks_X7_free : Cond.selects yX7_free.cls yX7_free yX7_free ∈ tb := tb3 185 (by decide +kernel) rfl
theorem kd_X7_free : yX7_free.cls ≠ "java/lang/invoke/MethodHandle" ∧ yX7_free.cls ≠ "java/lang/invoke/VarHandle" ∧ (parseMethodDescriptor yX7_free.desc).map (fun d => d.parameters.length) = some 0 := ⟨by decide, by decide, by decide +kernel⟩
theorem kc_X7_hasNoPage : Cond.code yX7_hasNoPage cX7_hasNoPage 1 (some .boolean) ∈ tb := tb3 94 (by decide +kernel) rfl
theorem ki_X7_hasNoPage : Cond.instanceMethod yX7_hasNoPage ∈ tb := tb3 93 (by decide +kernel) rfl
theorem ks_X7_hasNoPage : Cond.selects yX7_hasNoPage.cls yX7_hasNoPage yX7_hasNoPage ∈ tb := tbS 13 (by decide +kernel) rfl
theorem kd_X7_hasNoPage : yX7_hasNoPage.cls ≠ "java/lang/invoke/MethodHandle" ∧ yX7_hasNoPage.cls ≠ "java/lang/invoke/VarHandle" ∧ (parseMethodDescriptor yX7_hasNoPage.desc).map (fun d => d.parameters.length) = some 0 := ⟨by decide, by decide, by decide +kernel⟩
theorem kc_X7_idle : Cond.code yX7_idle cX7_idle 4 (some .int) ∈ tb := tb3 178 (by decide +kernel) rfl
theorem ki_X7_idle : Cond.instanceMethod yX7_idle ∈ tb := tb3 176 (by decide +kernel) rfl
theorem ks_X7_idle : Cond.selects yX7_idle.cls yX7_idle yX7_idle ∈ tb := tb3 177 (by decide +kernel) rfl
theorem kd_X7_idle : yX7_idle.cls ≠ "java/lang/invoke/MethodHandle" ∧ yX7_idle.cls ≠ "java/lang/invoke/VarHandle" ∧ (parseMethodDescriptor yX7_idle.desc).map (fun d => d.parameters.length) = some 0 := ⟨by decide, by decide, by decide +kernel⟩
theorem kc_X7_image : Cond.code yX7_image cX7_image 1 (some .int) ∈ tb := tb3 232 (by decide +kernel) rfl
theorem ki_X7_image : Cond.instanceMethod yX7_image ∈ tb := tb3 230 (by decide +kernel) rfl
theorem ks_X7_image : Cond.selects yX7_image.cls yX7_image yX7_image ∈ tb := tb3 231 (by decide +kernel) rfl
theorem kd_X7_image : yX7_image.cls ≠ "java/lang/invoke/MethodHandle" ∧ yX7_image.cls ≠ "java/lang/invoke/VarHandle" ∧ (parseMethodDescriptor yX7_image.desc).map (fun d => d.parameters.length) = some 0 := ⟨by decide, by decide, by decide +kernel⟩
theorem kc_X7_init : Cond.code yX7_init cX7_init 1 none ∈ tb := tb1 22 (by decide +kernel) rfl
theorem ki_X7_init : Cond.instanceMethod yX7_init ∈ tb := tb1 21 (by decide +kernel) rfl
theorem kd_X7_init : yX7_init.cls ≠ "java/lang/invoke/MethodHandle" ∧ yX7_init.cls ≠ "java/lang/invoke/VarHandle" ∧ (parseMethodDescriptor yX7_init.desc).map (fun d => d.parameters.length) = some 0 := ⟨by decide, by decide, by decide +kernel⟩
theorem kc_X7_isKind : Cond.code yX7_isKind cX7_isKind 1 (some .boolean) ∈ tb := tb3 60 (by decide +kernel) rfl
theorem ki_X7_isKind : Cond.static yX7_isKind ∈ tb := tb3 59 (by decide +kernel) rfl
theorem kd_X7_isKind : yX7_isKind.cls ≠ "java/lang/invoke/MethodHandle" ∧ yX7_isKind.cls ≠ "java/lang/invoke/VarHandle" ∧ (parseMethodDescriptor yX7_isKind.desc).map (fun d => d.parameters.length) = some 1 := ⟨by decide, by decide, by decide +kernel⟩
theorem kc_X7_isStep : Cond.code yX7_isStep cX7_isStep 1 (some .boolean) ∈ tb := tb3 111 (by decide +kernel) rfl
theorem ki_X7_isStep : Cond.static yX7_isStep ∈ tb := tb3 110 (by decide +kernel) rfl
theorem kd_X7_isStep : yX7_isStep.cls ≠ "java/lang/invoke/MethodHandle" ∧ yX7_isStep.cls ≠ "java/lang/invoke/VarHandle" ∧ (parseMethodDescriptor yX7_isStep.desc).map (fun d => d.parameters.length) = some 1 := ⟨by decide, by decide, by decide +kernel⟩
theorem kc_X7_lane : Cond.code yX7_lane cX7_lane 4 (some .int) ∈ tb := tb3 73 (by decide +kernel) rfl
theorem ki_X7_lane : Cond.instanceMethod yX7_lane ∈ tb := tb3 71 (by decide +kernel) rfl
theorem ks_X7_lane : Cond.selects yX7_lane.cls yX7_lane yX7_lane ∈ tb := tb3 72 (by decide +kernel) rfl
theorem kd_X7_lane : yX7_lane.cls ≠ "java/lang/invoke/MethodHandle" ∧ yX7_lane.cls ≠ "java/lang/invoke/VarHandle" ∧ (parseMethodDescriptor yX7_lane.desc).map (fun d => d.parameters.length) = some 2 := ⟨by decide, by decide, by decide +kernel⟩
theorem kc_X7_letter : Cond.code yX7_letter cX7_letter 2 (some .int) ∈ tb := tb2 22 (by decide +kernel) rfl
theorem ki_X7_letter : Cond.instanceMethod yX7_letter ∈ tb := tb2 20 (by decide +kernel) rfl
theorem ks_X7_letter : Cond.selects yX7_letter.cls yX7_letter yX7_letter ∈ tb := tb2 21 (by decide +kernel) rfl
theorem kd_X7_letter : yX7_letter.cls ≠ "java/lang/invoke/MethodHandle" ∧ yX7_letter.cls ≠ "java/lang/invoke/VarHandle" ∧ (parseMethodDescriptor yX7_letter.desc).map (fun d => d.parameters.length) = some 1 := ⟨by decide, by decide, by decide +kernel⟩
theorem kc_X7_move : Cond.code yX7_move cX7_move 4 (some .int) ∈ tb := tb3 108 (by decide +kernel) rfl
theorem ki_X7_move : Cond.instanceMethod yX7_move ∈ tb := tb3 106 (by decide +kernel) rfl
theorem ks_X7_move : Cond.selects yX7_move.cls yX7_move yX7_move ∈ tb := tb3 107 (by decide +kernel) rfl
theorem kd_X7_move : yX7_move.cls ≠ "java/lang/invoke/MethodHandle" ∧ yX7_move.cls ≠ "java/lang/invoke/VarHandle" ∧ (parseMethodDescriptor yX7_move.desc).map (fun d => d.parameters.length) = some 3 := ⟨by decide, by decide, by decide +kernel⟩
theorem kc_X7_order : Cond.code yX7_order cX7_order 2 (some .int) ∈ tb := tb3 65 (by decide +kernel) rfl
theorem ki_X7_order : Cond.instanceMethod yX7_order ∈ tb := tb3 63 (by decide +kernel) rfl
theorem ks_X7_order : Cond.selects yX7_order.cls yX7_order yX7_order ∈ tb := tb3 64 (by decide +kernel) rfl
theorem kd_X7_order : yX7_order.cls ≠ "java/lang/invoke/MethodHandle" ∧ yX7_order.cls ≠ "java/lang/invoke/VarHandle" ∧ (parseMethodDescriptor yX7_order.desc).map (fun d => d.parameters.length) = some 1 := ⟨by decide, by decide, by decide +kernel⟩
theorem kc_X7_page : Cond.code yX7_page cX7_page 1 (some .int) ∈ tb := tb2 145 (by decide +kernel) rfl
theorem ki_X7_page : Cond.instanceMethod yX7_page ∈ tb := tb2 143 (by decide +kernel) rfl
theorem ks_X7_page : Cond.selects yX7_page.cls yX7_page yX7_page ∈ tb := tb2 144 (by decide +kernel) rfl
theorem kd_X7_page : yX7_page.cls ≠ "java/lang/invoke/MethodHandle" ∧ yX7_page.cls ≠ "java/lang/invoke/VarHandle" ∧ (parseMethodDescriptor yX7_page.desc).map (fun d => d.parameters.length) = some 0 := ⟨by decide, by decide, by decide +kernel⟩
theorem kc_X7_put : Cond.code yX7_put cX7_put 3 (some .int) ∈ tb := tb3 90 (by decide +kernel) rfl
theorem ki_X7_put : Cond.instanceMethod yX7_put ∈ tb := tb3 88 (by decide +kernel) rfl
theorem ks_X7_put : Cond.selects yX7_put.cls yX7_put yX7_put ∈ tb := tb3 89 (by decide +kernel) rfl
theorem kd_X7_put : yX7_put.cls ≠ "java/lang/invoke/MethodHandle" ∧ yX7_put.cls ≠ "java/lang/invoke/VarHandle" ∧ (parseMethodDescriptor yX7_put.desc).map (fun d => d.parameters.length) = some 2 := ⟨by decide, by decide, by decide +kernel⟩
theorem kc_X7_restore : Cond.code yX7_restore cX7_restore 1 (some .int) ∈ tb := tb4 1 (by decide +kernel) rfl
theorem ki_X7_restore : Cond.instanceMethod yX7_restore ∈ tb := tb3 239 (by decide +kernel) rfl
theorem ks_X7_restore : Cond.selects yX7_restore.cls yX7_restore yX7_restore ∈ tb := tb4 0 (by decide +kernel) rfl
theorem kd_X7_restore : yX7_restore.cls ≠ "java/lang/invoke/MethodHandle" ∧ yX7_restore.cls ≠ "java/lang/invoke/VarHandle" ∧ (parseMethodDescriptor yX7_restore.desc).map (fun d => d.parameters.length) = some 0 := ⟨by decide, by decide, by decide +kernel⟩
theorem kc_X7_rules : Cond.code yX7_rules cX7_rules 2 (some .int) ∈ tb := tb3 127 (by decide +kernel) rfl
theorem ki_X7_rules : Cond.instanceMethod yX7_rules ∈ tb := tb3 125 (by decide +kernel) rfl
theorem ks_X7_rules : Cond.selects yX7_rules.cls yX7_rules yX7_rules ∈ tb := tb3 126 (by decide +kernel) rfl
theorem kd_X7_rules : yX7_rules.cls ≠ "java/lang/invoke/MethodHandle" ∧ yX7_rules.cls ≠ "java/lang/invoke/VarHandle" ∧ (parseMethodDescriptor yX7_rules.desc).map (fun d => d.parameters.length) = some 1 := ⟨by decide, by decide, by decide +kernel⟩
theorem kc_X7_scale : Cond.code yX7_scale cX7_scale 2 (some .int) ∈ tb := tb3 139 (by decide +kernel) rfl
theorem ki_X7_scale : Cond.instanceMethod yX7_scale ∈ tb := tb3 137 (by decide +kernel) rfl
theorem ks_X7_scale : Cond.selects yX7_scale.cls yX7_scale yX7_scale ∈ tb := tb3 138 (by decide +kernel) rfl
theorem kd_X7_scale : yX7_scale.cls ≠ "java/lang/invoke/MethodHandle" ∧ yX7_scale.cls ≠ "java/lang/invoke/VarHandle" ∧ (parseMethodDescriptor yX7_scale.desc).map (fun d => d.parameters.length) = some 1 := ⟨by decide, by decide, by decide +kernel⟩
theorem kc_X7_see : Cond.code yX7_see cX7_see 4 (some .int) ∈ tb := tb3 190 (by decide +kernel) rfl
theorem ki_X7_see : Cond.instanceMethod yX7_see ∈ tb := tb3 188 (by decide +kernel) rfl
theorem ks_X7_see : Cond.selects yX7_see.cls yX7_see yX7_see ∈ tb := tb3 189 (by decide +kernel) rfl
theorem kd_X7_see : yX7_see.cls ≠ "java/lang/invoke/MethodHandle" ∧ yX7_see.cls ≠ "java/lang/invoke/VarHandle" ∧ (parseMethodDescriptor yX7_see.desc).map (fun d => d.parameters.length) = some 3 := ⟨by decide, by decide, by decide +kernel⟩
theorem kc_X7_take : Cond.code yX7_take cX7_take 2 (some .int) ∈ tb := tb3 99 (by decide +kernel) rfl
theorem ki_X7_take : Cond.instanceMethod yX7_take ∈ tb := tb3 97 (by decide +kernel) rfl
theorem ks_X7_take : Cond.selects yX7_take.cls yX7_take yX7_take ∈ tb := tb3 98 (by decide +kernel) rfl
theorem kd_X7_take : yX7_take.cls ≠ "java/lang/invoke/MethodHandle" ∧ yX7_take.cls ≠ "java/lang/invoke/VarHandle" ∧ (parseMethodDescriptor yX7_take.desc).map (fun d => d.parameters.length) = some 1 := ⟨by decide, by decide, by decide +kernel⟩
theorem kc_X7_why : Cond.code yX7_why cX7_why 4 (some .int) ∈ tb := tb3 78 (by decide +kernel) rfl
theorem ki_X7_why : Cond.instanceMethod yX7_why ∈ tb := tb3 76 (by decide +kernel) rfl
theorem ks_X7_why : Cond.selects yX7_why.cls yX7_why yX7_why ∈ tb := tb3 77 (by decide +kernel) rfl
theorem kd_X7_why : yX7_why.cls ≠ "java/lang/invoke/MethodHandle" ∧ yX7_why.cls ≠ "java/lang/invoke/VarHandle" ∧ (parseMethodDescriptor yX7_why.desc).map (fun d => d.parameters.length) = some 2 := ⟨by decide, by decide, by decide +kernel⟩
theorem kc_X7_without : Cond.code yX7_without cX7_without 6 (some .int) ∈ tb := tb3 151 (by decide +kernel) rfl
theorem ki_X7_without : Cond.instanceMethod yX7_without ∈ tb := tb3 149 (by decide +kernel) rfl
theorem ks_X7_without : Cond.selects yX7_without.cls yX7_without yX7_without ∈ tb := tb3 150 (by decide +kernel) rfl
theorem kd_X7_without : yX7_without.cls ≠ "java/lang/invoke/MethodHandle" ∧ yX7_without.cls ≠ "java/lang/invoke/VarHandle" ∧ (parseMethodDescriptor yX7_without.desc).map (fun d => d.parameters.length) = some 1 := ⟨by decide, by decide, by decide +kernel⟩
theorem kc_X8_apart : Cond.code yX8_apart cX8_apart 4 (some .int) ∈ tb := tb4 214 (by decide +kernel) rfl
theorem ki_X8_apart : Cond.instanceMethod yX8_apart ∈ tb := tb4 213 (by decide +kernel) rfl
theorem ks_X8_apart : Cond.selects yX8_apart.cls yX8_apart yX8_apart ∈ tb := tbS 25 (by decide +kernel) rfl
theorem kd_X8_apart : yX8_apart.cls ≠ "java/lang/invoke/MethodHandle" ∧ yX8_apart.cls ≠ "java/lang/invoke/VarHandle" ∧ (parseMethodDescriptor yX8_apart.desc).map (fun d => d.parameters.length) = some 2 := ⟨by decide, by decide, by decide +kernel⟩
theorem kc_X8_append : Cond.code yX8_append cX8_append 3 none ∈ tb := tb5 13 (by decide +kernel) rfl
theorem ki_X8_append : Cond.instanceMethod yX8_append ∈ tb := tb5 12 (by decide +kernel) rfl
theorem ks_X8_append : Cond.selects yX8_append.cls yX8_append yX8_append ∈ tb := tbS 34 (by decide +kernel) rfl
theorem kd_X8_append : yX8_append.cls ≠ "java/lang/invoke/MethodHandle" ∧ yX8_append.cls ≠ "java/lang/invoke/VarHandle" ∧ (parseMethodDescriptor yX8_append.desc).map (fun d => d.parameters.length) = some 1 := ⟨by decide, by decide, by decide +kernel⟩
theorem kc_X8_as : Cond.code yX8_as cX8_as 4 (some .int) ∈ tb := tb5 39 (by decide +kernel) rfl
theorem ki_X8_as : Cond.instanceMethod yX8_as ∈ tb := tb5 37 (by decide +kernel) rfl
theorem ks_X8_as : Cond.selects yX8_as.cls yX8_as yX8_as ∈ tb := tb5 38 (by decide +kernel) rfl
theorem kd_X8_as : yX8_as.cls ≠ "java/lang/invoke/MethodHandle" ∧ yX8_as.cls ≠ "java/lang/invoke/VarHandle" ∧ (parseMethodDescriptor yX8_as.desc).map (fun d => d.parameters.length) = some 2 := ⟨by decide, by decide, by decide +kernel⟩
theorem kc_X8_askOf : Cond.code yX8_askOf cX8_askOf 9 (some .int) ∈ tb := tb5 35 (by decide +kernel) rfl
theorem ki_X8_askOf : Cond.instanceMethod yX8_askOf ∈ tb := tb5 34 (by decide +kernel) rfl
theorem ks_X8_askOf : Cond.selects yX8_askOf.cls yX8_askOf yX8_askOf ∈ tb := tbS 38 (by decide +kernel) rfl
theorem kd_X8_askOf : yX8_askOf.cls ≠ "java/lang/invoke/MethodHandle" ∧ yX8_askOf.cls ≠ "java/lang/invoke/VarHandle" ∧ (parseMethodDescriptor yX8_askOf.desc).map (fun d => d.parameters.length) = some 1 := ⟨by decide, by decide, by decide +kernel⟩
theorem kc_X8_blank : Cond.code yX8_blank cX8_blank 2 (some .int) ∈ tb := tb4 156 (by decide +kernel) rfl
theorem ki_X8_blank : Cond.instanceMethod yX8_blank ∈ tb := tb4 154 (by decide +kernel) rfl
theorem ks_X8_blank : Cond.selects yX8_blank.cls yX8_blank yX8_blank ∈ tb := tb4 155 (by decide +kernel) rfl
theorem kd_X8_blank : yX8_blank.cls ≠ "java/lang/invoke/MethodHandle" ∧ yX8_blank.cls ≠ "java/lang/invoke/VarHandle" ∧ (parseMethodDescriptor yX8_blank.desc).map (fun d => d.parameters.length) = some 0 := ⟨by decide, by decide, by decide +kernel⟩
theorem kc_X8_boundMany : Cond.code yX8_boundMany cX8_boundMany 3 (some .int) ∈ tb := tb5 192 (by decide +kernel) rfl
theorem ki_X8_boundMany : Cond.instanceMethod yX8_boundMany ∈ tb := tb5 191 (by decide +kernel) rfl
theorem ks_X8_boundMany : Cond.selects yX8_boundMany.cls yX8_boundMany yX8_boundMany ∈ tb := tbS 51 (by decide +kernel) rfl
theorem kd_X8_boundMany : yX8_boundMany.cls ≠ "java/lang/invoke/MethodHandle" ∧ yX8_boundMany.cls ≠ "java/lang/invoke/VarHandle" ∧ (parseMethodDescriptor yX8_boundMany.desc).map (fun d => d.parameters.length) = some 0 := ⟨by decide, by decide, by decide +kernel⟩
theorem kc_X8_box : Cond.code yX8_box cX8_box 3 (some .int) ∈ tb := tb4 190 (by decide +kernel) rfl
theorem ki_X8_box : Cond.instanceMethod yX8_box ∈ tb := tb4 188 (by decide +kernel) rfl
theorem ks_X8_box : Cond.selects yX8_box.cls yX8_box yX8_box ∈ tb := tb4 189 (by decide +kernel) rfl
theorem kd_X8_box : yX8_box.cls ≠ "java/lang/invoke/MethodHandle" ∧ yX8_box.cls ≠ "java/lang/invoke/VarHandle" ∧ (parseMethodDescriptor yX8_box.desc).map (fun d => d.parameters.length) = some 2 := ⟨by decide, by decide, by decide +kernel⟩
theorem kc_X8_byRule : Cond.code yX8_byRule cX8_byRule 4 (some .int) ∈ tb := tb5 5 (by decide +kernel) rfl
theorem ki_X8_byRule : Cond.instanceMethod yX8_byRule ∈ tb := tb5 4 (by decide +kernel) rfl
theorem ks_X8_byRule : Cond.selects yX8_byRule.cls yX8_byRule yX8_byRule ∈ tb := tbS 32 (by decide +kernel) rfl
theorem kd_X8_byRule : yX8_byRule.cls ≠ "java/lang/invoke/MethodHandle" ∧ yX8_byRule.cls ≠ "java/lang/invoke/VarHandle" ∧ (parseMethodDescriptor yX8_byRule.desc).map (fun d => d.parameters.length) = some 3 := ⟨by decide, by decide, by decide +kernel⟩
theorem kc_X8_calm : Cond.code yX8_calm cX8_calm 5 (some .int) ∈ tb := tb5 125 (by decide +kernel) rfl
theorem ki_X8_calm : Cond.instanceMethod yX8_calm ∈ tb := tb5 123 (by decide +kernel) rfl
theorem ks_X8_calm : Cond.selects yX8_calm.cls yX8_calm yX8_calm ∈ tb := tb5 124 (by decide +kernel) rfl
theorem kd_X8_calm : yX8_calm.cls ≠ "java/lang/invoke/MethodHandle" ∧ yX8_calm.cls ≠ "java/lang/invoke/VarHandle" ∧ (parseMethodDescriptor yX8_calm.desc).map (fun d => d.parameters.length) = some 0 := ⟨by decide, by decide, by decide +kernel⟩
theorem kc_X8_change : Cond.code yX8_change cX8_change 4 (some .int) ∈ tb := tb5 94 (by decide +kernel) rfl
theorem ki_X8_change : Cond.instanceMethod yX8_change ∈ tb := tb5 92 (by decide +kernel) rfl
theorem ks_X8_change : Cond.selects yX8_change.cls yX8_change yX8_change ∈ tb := tb5 93 (by decide +kernel) rfl
theorem kd_X8_change : yX8_change.cls ≠ "java/lang/invoke/MethodHandle" ∧ yX8_change.cls ≠ "java/lang/invoke/VarHandle" ∧ (parseMethodDescriptor yX8_change.desc).map (fun d => d.parameters.length) = some 2 := ⟨by decide, by decide, by decide +kernel⟩
theorem kc_X8_copy : Cond.code yX8_copy cX8_copy 3 none ∈ tb := tb5 121 (by decide +kernel) rfl
theorem ki_X8_copy : Cond.static yX8_copy ∈ tb := tb5 120 (by decide +kernel) rfl
theorem kd_X8_copy : yX8_copy.cls ≠ "java/lang/invoke/MethodHandle" ∧ yX8_copy.cls ≠ "java/lang/invoke/VarHandle" ∧ (parseMethodDescriptor yX8_copy.desc).map (fun d => d.parameters.length) = some 2 := ⟨by decide, by decide, by decide +kernel⟩
theorem kc_X8_count : Cond.code yX8_count cX8_count 2 (some .int) ∈ tb := tb5 184 (by decide +kernel) rfl
theorem ki_X8_count : Cond.instanceMethod yX8_count ∈ tb := tb5 182 (by decide +kernel) rfl
theorem ks_X8_count : Cond.selects yX8_count.cls yX8_count yX8_count ∈ tb := tb5 183 (by decide +kernel) rfl
theorem kd_X8_count : yX8_count.cls ≠ "java/lang/invoke/MethodHandle" ∧ yX8_count.cls ≠ "java/lang/invoke/VarHandle" ∧ (parseMethodDescriptor yX8_count.desc).map (fun d => d.parameters.length) = some 1 := ⟨by decide, by decide, by decide +kernel⟩
theorem kc_X8_countOf : Cond.code yX8_countOf cX8_countOf 2 (some .int) ∈ tb := tb5 188 (by decide +kernel) rfl
theorem ki_X8_countOf : Cond.instanceMethod yX8_countOf ∈ tb := tb5 187 (by decide +kernel) rfl
theorem ks_X8_countOf : Cond.selects yX8_countOf.cls yX8_countOf yX8_countOf ∈ tb := tbS 50 (by decide +kernel) rfl
theorem kd_X8_countOf : yX8_countOf.cls ≠ "java/lang/invoke/MethodHandle" ∧ yX8_countOf.cls ≠ "java/lang/invoke/VarHandle" ∧ (parseMethodDescriptor yX8_countOf.desc).map (fun d => d.parameters.length) = some 1 := ⟨by decide, by decide, by decide +kernel⟩
theorem kc_X8_cut : Cond.code yX8_cut cX8_cut 3 (some .int) ∈ tb := tb5 48 (by decide +kernel) rfl
theorem ki_X8_cut : Cond.instanceMethod yX8_cut ∈ tb := tb5 46 (by decide +kernel) rfl
theorem ks_X8_cut : Cond.selects yX8_cut.cls yX8_cut yX8_cut ∈ tb := tb5 47 (by decide +kernel) rfl
theorem kd_X8_cut : yX8_cut.cls ≠ "java/lang/invoke/MethodHandle" ∧ yX8_cut.cls ≠ "java/lang/invoke/VarHandle" ∧ (parseMethodDescriptor yX8_cut.desc).map (fun d => d.parameters.length) = some 2 := ⟨by decide, by decide, by decide +kernel⟩
theorem kc_X8_digest : Cond.code yX8_digest cX8_digest 2 (some .long) ∈ tb := tb5 196 (by decide +kernel) rfl
theorem ki_X8_digest : Cond.instanceMethod yX8_digest ∈ tb := tb5 194 (by decide +kernel) rfl
theorem ks_X8_digest : Cond.selects yX8_digest.cls yX8_digest yX8_digest ∈ tb := tb5 195 (by decide +kernel) rfl
theorem kd_X8_digest : yX8_digest.cls ≠ "java/lang/invoke/MethodHandle" ∧ yX8_digest.cls ≠ "java/lang/invoke/VarHandle" ∧ (parseMethodDescriptor yX8_digest.desc).map (fun d => d.parameters.length) = some 0 := ⟨by decide, by decide, by decide +kernel⟩
theorem kc_X8_draw : Cond.code yX8_draw cX8_draw 2 (some .int) ∈ tb := tb5 168 (by decide +kernel) rfl
theorem ki_X8_draw : Cond.instanceMethod yX8_draw ∈ tb := tb5 167 (by decide +kernel) rfl
theorem ks_X8_draw : Cond.selects yX8_draw.cls yX8_draw yX8_draw ∈ tb := tbS 49 (by decide +kernel) rfl
theorem kd_X8_draw : yX8_draw.cls ≠ "java/lang/invoke/MethodHandle" ∧ yX8_draw.cls ≠ "java/lang/invoke/VarHandle" ∧ (parseMethodDescriptor yX8_draw.desc).map (fun d => d.parameters.length) = some 1 := ⟨by decide, by decide, by decide +kernel⟩
theorem kc_X8_drawBox : Cond.code yX8_drawBox cX8_drawBox 2 none ∈ tb := tb5 164 (by decide +kernel) rfl
theorem ki_X8_drawBox : Cond.instanceMethod yX8_drawBox ∈ tb := tb5 163 (by decide +kernel) rfl
theorem ks_X8_drawBox : Cond.selects yX8_drawBox.cls yX8_drawBox yX8_drawBox ∈ tb := tbS 48 (by decide +kernel) rfl
theorem kd_X8_drawBox : yX8_drawBox.cls ≠ "java/lang/invoke/MethodHandle" ∧ yX8_drawBox.cls ≠ "java/lang/invoke/VarHandle" ∧ (parseMethodDescriptor yX8_drawBox.desc).map (fun d => d.parameters.length) = some 1 := ⟨by decide, by decide, by decide +kernel⟩
theorem kc_X8_drawn : Cond.code yX8_drawn cX8_drawn 11 (some .int) ∈ tb := tb5 158 (by decide +kernel) rfl
theorem ki_X8_drawn : Cond.instanceMethod yX8_drawn ∈ tb := tb5 156 (by decide +kernel) rfl
theorem ks_X8_drawn : Cond.selects yX8_drawn.cls yX8_drawn yX8_drawn ∈ tb := tb5 157 (by decide +kernel) rfl
theorem kd_X8_drawn : yX8_drawn.cls ≠ "java/lang/invoke/MethodHandle" ∧ yX8_drawn.cls ≠ "java/lang/invoke/VarHandle" ∧ (parseMethodDescriptor yX8_drawn.desc).map (fun d => d.parameters.length) = some 3 := ⟨by decide, by decide, by decide +kernel⟩
theorem kc_X8_fault : Cond.code yX8_fault cX8_fault 1 (some .int) ∈ tb := tb4 160 (by decide +kernel) rfl
theorem ki_X8_fault : Cond.instanceMethod yX8_fault ∈ tb := tb4 158 (by decide +kernel) rfl
theorem ks_X8_fault : Cond.selects yX8_fault.cls yX8_fault yX8_fault ∈ tb := tb4 159 (by decide +kernel) rfl
theorem kd_X8_fault : yX8_fault.cls ≠ "java/lang/invoke/MethodHandle" ∧ yX8_fault.cls ≠ "java/lang/invoke/VarHandle" ∧ (parseMethodDescriptor yX8_fault.desc).map (fun d => d.parameters.length) = some 0 := ⟨by decide, by decide, by decide +kernel⟩
theorem kc_X8_faultOf : Cond.code yX8_faultOf cX8_faultOf 2 (some .int) ∈ tb := tb4 164 (by decide +kernel) rfl
theorem ki_X8_faultOf : Cond.instanceMethod yX8_faultOf ∈ tb := tb4 163 (by decide +kernel) rfl
theorem ks_X8_faultOf : Cond.selects yX8_faultOf.cls yX8_faultOf yX8_faultOf ∈ tb := tbS 17 (by decide +kernel) rfl
theorem kd_X8_faultOf : yX8_faultOf.cls ≠ "java/lang/invoke/MethodHandle" ∧ yX8_faultOf.cls ≠ "java/lang/invoke/VarHandle" ∧ (parseMethodDescriptor yX8_faultOf.desc).map (fun d => d.parameters.length) = some 0 := ⟨by decide, by decide, by decide +kernel⟩
theorem kc_X8_firstSide : Cond.code yX8_firstSide cX8_firstSide 4 (some .int) ∈ tb := tb5 17 (by decide +kernel) rfl
theorem ki_X8_firstSide : Cond.instanceMethod yX8_firstSide ∈ tb := tb5 16 (by decide +kernel) rfl
theorem ks_X8_firstSide : Cond.selects yX8_firstSide.cls yX8_firstSide yX8_firstSide ∈ tb := tbS 35 (by decide +kernel) rfl
theorem kd_X8_firstSide : yX8_firstSide.cls ≠ "java/lang/invoke/MethodHandle" ∧ yX8_firstSide.cls ≠ "java/lang/invoke/VarHandle" ∧ (parseMethodDescriptor yX8_firstSide.desc).map (fun d => d.parameters.length) = some 1 := ⟨by decide, by decide, by decide +kernel⟩
theorem kc_X8_forget : Cond.code yX8_forget cX8_forget 2 (some .int) ∈ tb := tb5 154 (by decide +kernel) rfl
theorem ki_X8_forget : Cond.instanceMethod yX8_forget ∈ tb := tb5 152 (by decide +kernel) rfl
theorem ks_X8_forget : Cond.selects yX8_forget.cls yX8_forget yX8_forget ∈ tb := tb5 153 (by decide +kernel) rfl
theorem kd_X8_forget : yX8_forget.cls ≠ "java/lang/invoke/MethodHandle" ∧ yX8_forget.cls ≠ "java/lang/invoke/VarHandle" ∧ (parseMethodDescriptor yX8_forget.desc).map (fun d => d.parameters.length) = some 0 := ⟨by decide, by decide, by decide +kernel⟩
theorem kc_X8_free : Cond.code yX8_free cX8_free 1 (some .int) ∈ tb := tb5 141 (by decide +kernel) rfl
theorem ki_X8_free : Cond.instanceMethod yX8_free ∈ tb := tb5 139 (by decide +kernel) rfl
theorem ks_X8_free : Cond.selects yX8_free.cls yX8_free yX8_free ∈ tb := tb5 140 (by decide +kernel) rfl
theorem kd_X8_free : yX8_free.cls ≠ "java/lang/invoke/MethodHandle" ∧ yX8_free.cls ≠ "java/lang/invoke/VarHandle" ∧ (parseMethodDescriptor yX8_free.desc).map (fun d => d.parameters.length) = some 0 := ⟨by decide, by decide, by decide +kernel⟩
theorem kc_X8_freeOf : Cond.code yX8_freeOf cX8_freeOf 4 (some .int) ∈ tb := tb5 145 (by decide +kernel) rfl
theorem ki_X8_freeOf : Cond.instanceMethod yX8_freeOf ∈ tb := tb5 144 (by decide +kernel) rfl
theorem ks_X8_freeOf : Cond.selects yX8_freeOf.cls yX8_freeOf yX8_freeOf ∈ tb := tbS 47 (by decide +kernel) rfl
theorem kd_X8_freeOf : yX8_freeOf.cls ≠ "java/lang/invoke/MethodHandle" ∧ yX8_freeOf.cls ≠ "java/lang/invoke/VarHandle" ∧ (parseMethodDescriptor yX8_freeOf.desc).map (fun d => d.parameters.length) = some 0 := ⟨by decide, by decide, by decide +kernel⟩
theorem kc_X8_gap : Cond.code yX8_gap cX8_gap 4 (some .int) ∈ tb := tb4 217 (by decide +kernel) rfl
theorem ki_X8_gap : Cond.static yX8_gap ∈ tb := tb4 216 (by decide +kernel) rfl
theorem kd_X8_gap : yX8_gap.cls ≠ "java/lang/invoke/MethodHandle" ∧ yX8_gap.cls ≠ "java/lang/invoke/VarHandle" ∧ (parseMethodDescriptor yX8_gap.desc).map (fun d => d.parameters.length) = some 4 := ⟨by decide, by decide, by decide +kernel⟩
theorem kc_X8_greatest : Cond.code yX8_greatest cX8_greatest 3 (some .int) ∈ tb := tb5 110 (by decide +kernel) rfl
theorem ki_X8_greatest : Cond.instanceMethod yX8_greatest ∈ tb := tb5 109 (by decide +kernel) rfl
theorem ks_X8_greatest : Cond.selects yX8_greatest.cls yX8_greatest yX8_greatest ∈ tb := tbS 43 (by decide +kernel) rfl
theorem kd_X8_greatest : yX8_greatest.cls ≠ "java/lang/invoke/MethodHandle" ∧ yX8_greatest.cls ≠ "java/lang/invoke/VarHandle" ∧ (parseMethodDescriptor yX8_greatest.desc).map (fun d => d.parameters.length) = some 0 := ⟨by decide, by decide, by decide +kernel⟩
theorem kc_X8_has : Cond.code yX8_has cX8_has 2 (some .boolean) ∈ tb := tb4 182 (by decide +kernel) rfl
theorem ki_X8_has : Cond.static yX8_has ∈ tb := tb4 181 (by decide +kernel) rfl
theorem kd_X8_has : yX8_has.cls ≠ "java/lang/invoke/MethodHandle" ∧ yX8_has.cls ≠ "java/lang/invoke/VarHandle" ∧ (parseMethodDescriptor yX8_has.desc).map (fun d => d.parameters.length) = some 2 := ⟨by decide, by decide, by decide +kernel⟩
theorem kc_X8_idle : Cond.code yX8_idle cX8_idle 1 (some .int) ∈ tb := tb5 133 (by decide +kernel) rfl
theorem ki_X8_idle : Cond.instanceMethod yX8_idle ∈ tb := tb5 131 (by decide +kernel) rfl
theorem ks_X8_idle : Cond.selects yX8_idle.cls yX8_idle yX8_idle ∈ tb := tb5 132 (by decide +kernel) rfl
theorem kd_X8_idle : yX8_idle.cls ≠ "java/lang/invoke/MethodHandle" ∧ yX8_idle.cls ≠ "java/lang/invoke/VarHandle" ∧ (parseMethodDescriptor yX8_idle.desc).map (fun d => d.parameters.length) = some 0 := ⟨by decide, by decide, by decide +kernel⟩
theorem kc_X8_idleOf : Cond.code yX8_idleOf cX8_idleOf 5 (some .int) ∈ tb := tb5 137 (by decide +kernel) rfl
theorem ki_X8_idleOf : Cond.instanceMethod yX8_idleOf ∈ tb := tb5 136 (by decide +kernel) rfl
theorem ks_X8_idleOf : Cond.selects yX8_idleOf.cls yX8_idleOf yX8_idleOf ∈ tb := tbS 46 (by decide +kernel) rfl
theorem kd_X8_idleOf : yX8_idleOf.cls ≠ "java/lang/invoke/MethodHandle" ∧ yX8_idleOf.cls ≠ "java/lang/invoke/VarHandle" ∧ (parseMethodDescriptor yX8_idleOf.desc).map (fun d => d.parameters.length) = some 0 := ⟨by decide, by decide, by decide +kernel⟩
theorem kc_X8_image : Cond.code yX8_image cX8_image 1 (some .int) ∈ tb := tb5 176 (by decide +kernel) rfl
theorem ki_X8_image : Cond.instanceMethod yX8_image ∈ tb := tb5 174 (by decide +kernel) rfl
theorem ks_X8_image : Cond.selects yX8_image.cls yX8_image yX8_image ∈ tb := tb5 175 (by decide +kernel) rfl
theorem kd_X8_image : yX8_image.cls ≠ "java/lang/invoke/MethodHandle" ∧ yX8_image.cls ≠ "java/lang/invoke/VarHandle" ∧ (parseMethodDescriptor yX8_image.desc).map (fun d => d.parameters.length) = some 0 := ⟨by decide, by decide, by decide +kernel⟩
theorem kc_X8_in : Cond.code yX8_in cX8_in 6 (some .boolean) ∈ tb := tb4 152 (by decide +kernel) rfl
theorem ki_X8_in : Cond.static yX8_in ∈ tb := tb4 151 (by decide +kernel) rfl
theorem kd_X8_in : yX8_in.cls ≠ "java/lang/invoke/MethodHandle" ∧ yX8_in.cls ≠ "java/lang/invoke/VarHandle" ∧ (parseMethodDescriptor yX8_in.desc).map (fun d => d.parameters.length) = some 3 := ⟨by decide, by decide, by decide +kernel⟩
theorem kc_X8_init : Cond.code yX8_init cX8_init 1 none ∈ tb := tb4 22 (by decide +kernel) rfl
theorem ki_X8_init : Cond.instanceMethod yX8_init ∈ tb := tb4 21 (by decide +kernel) rfl
theorem kd_X8_init : yX8_init.cls ≠ "java/lang/invoke/MethodHandle" ∧ yX8_init.cls ≠ "java/lang/invoke/VarHandle" ∧ (parseMethodDescriptor yX8_init.desc).map (fun d => d.parameters.length) = some 0 := ⟨by decide, by decide, by decide +kernel⟩
theorem kc_X8_isAhead : Cond.code yX8_isAhead cX8_isAhead 4 (some .boolean) ∈ tb := tb4 237 (by decide +kernel) rfl
theorem ki_X8_isAhead : Cond.instanceMethod yX8_isAhead ∈ tb := tb4 236 (by decide +kernel) rfl
theorem ks_X8_isAhead : Cond.selects yX8_isAhead.cls yX8_isAhead yX8_isAhead ∈ tb := tbS 30 (by decide +kernel) rfl
theorem kd_X8_isAhead : yX8_isAhead.cls ≠ "java/lang/invoke/MethodHandle" ∧ yX8_isAhead.cls ≠ "java/lang/invoke/VarHandle" ∧ (parseMethodDescriptor yX8_isAhead.desc).map (fun d => d.parameters.length) = some 2 := ⟨by decide, by decide, by decide +kernel⟩
theorem kc_X8_isBox : Cond.code yX8_isBox cX8_isBox 2 (some .boolean) ∈ tb := tb4 194 (by decide +kernel) rfl
theorem ki_X8_isBox : Cond.instanceMethod yX8_isBox ∈ tb := tb4 193 (by decide +kernel) rfl
theorem ks_X8_isBox : Cond.selects yX8_isBox.cls yX8_isBox yX8_isBox ∈ tb := tbS 20 (by decide +kernel) rfl
theorem kd_X8_isBox : yX8_isBox.cls ≠ "java/lang/invoke/MethodHandle" ∧ yX8_isBox.cls ≠ "java/lang/invoke/VarHandle" ∧ (parseMethodDescriptor yX8_isBox.desc).map (fun d => d.parameters.length) = some 1 := ⟨by decide, by decide, by decide +kernel⟩
theorem kc_X8_isBoxSign : Cond.code yX8_isBoxSign cX8_isBoxSign 3 (some .boolean) ∈ tb := tb4 168 (by decide +kernel) rfl
theorem ki_X8_isBoxSign : Cond.instanceMethod yX8_isBoxSign ∈ tb := tb4 167 (by decide +kernel) rfl
theorem ks_X8_isBoxSign : Cond.selects yX8_isBoxSign.cls yX8_isBoxSign yX8_isBoxSign ∈ tb := tbS 18 (by decide +kernel) rfl
theorem kd_X8_isBoxSign : yX8_isBoxSign.cls ≠ "java/lang/invoke/MethodHandle" ∧ yX8_isBoxSign.cls ≠ "java/lang/invoke/VarHandle" ∧ (parseMethodDescriptor yX8_isBoxSign.desc).map (fun d => d.parameters.length) = some 1 := ⟨by decide, by decide, by decide +kernel⟩
theorem kc_X8_isLane : Cond.code yX8_isLane cX8_isLane 6 (some .boolean) ∈ tb := tb4 229 (by decide +kernel) rfl
theorem ki_X8_isLane : Cond.instanceMethod yX8_isLane ∈ tb := tb4 228 (by decide +kernel) rfl
theorem ks_X8_isLane : Cond.selects yX8_isLane.cls yX8_isLane yX8_isLane ∈ tb := tbS 28 (by decide +kernel) rfl
theorem kd_X8_isLane : yX8_isLane.cls ≠ "java/lang/invoke/MethodHandle" ∧ yX8_isLane.cls ≠ "java/lang/invoke/VarHandle" ∧ (parseMethodDescriptor yX8_isLane.desc).map (fun d => d.parameters.length) = some 4 := ⟨by decide, by decide, by decide +kernel⟩
theorem kc_X8_isRuleSign : Cond.code yX8_isRuleSign cX8_isRuleSign 2 (some .boolean) ∈ tb := tb4 178 (by decide +kernel) rfl
theorem ki_X8_isRuleSign : Cond.instanceMethod yX8_isRuleSign ∈ tb := tb4 177 (by decide +kernel) rfl
theorem ks_X8_isRuleSign : Cond.selects yX8_isRuleSign.cls yX8_isRuleSign yX8_isRuleSign ∈ tb := tbS 19 (by decide +kernel) rfl
theorem kd_X8_isRuleSign : yX8_isRuleSign.cls ≠ "java/lang/invoke/MethodHandle" ∧ yX8_isRuleSign.cls ≠ "java/lang/invoke/VarHandle" ∧ (parseMethodDescriptor yX8_isRuleSign.desc).map (fun d => d.parameters.length) = some 1 := ⟨by decide, by decide, by decide +kernel⟩
theorem kc_X8_isRules : Cond.code yX8_isRules cX8_isRules 4 (some .boolean) ∈ tb := tb5 101 (by decide +kernel) rfl
theorem ki_X8_isRules : Cond.static yX8_isRules ∈ tb := tb5 100 (by decide +kernel) rfl
theorem kd_X8_isRules : yX8_isRules.cls ≠ "java/lang/invoke/MethodHandle" ∧ yX8_isRules.cls ≠ "java/lang/invoke/VarHandle" ∧ (parseMethodDescriptor yX8_isRules.desc).map (fun d => d.parameters.length) = some 1 := ⟨by decide, by decide, by decide +kernel⟩
theorem kc_X8_isSameOrder : Cond.code yX8_isSameOrder cX8_isSameOrder 2 (some .boolean) ∈ tb := tb5 129 (by decide +kernel) rfl
theorem ki_X8_isSameOrder : Cond.instanceMethod yX8_isSameOrder ∈ tb := tb5 128 (by decide +kernel) rfl
theorem ks_X8_isSameOrder : Cond.selects yX8_isSameOrder.cls yX8_isSameOrder yX8_isSameOrder ∈ tb := tbS 45 (by decide +kernel) rfl
theorem kd_X8_isSameOrder : yX8_isSameOrder.cls ≠ "java/lang/invoke/MethodHandle" ∧ yX8_isSameOrder.cls ≠ "java/lang/invoke/VarHandle" ∧ (parseMethodDescriptor yX8_isSameOrder.desc).map (fun d => d.parameters.length) = some 0 := ⟨by decide, by decide, by decide +kernel⟩
theorem kc_X8_isSort : Cond.code yX8_isSort cX8_isSort 3 (some .boolean) ∈ tb := tb5 9 (by decide +kernel) rfl
theorem ki_X8_isSort : Cond.instanceMethod yX8_isSort ∈ tb := tb5 8 (by decide +kernel) rfl
theorem ks_X8_isSort : Cond.selects yX8_isSort.cls yX8_isSort yX8_isSort ∈ tb := tbS 33 (by decide +kernel) rfl
theorem kd_X8_isSort : yX8_isSort.cls ≠ "java/lang/invoke/MethodHandle" ∧ yX8_isSort.cls ≠ "java/lang/invoke/VarHandle" ∧ (parseMethodDescriptor yX8_isSort.desc).map (fun d => d.parameters.length) = some 2 := ⟨by decide, by decide, by decide +kernel⟩
theorem kc_X8_keepOrder : Cond.code yX8_keepOrder cX8_keepOrder 1 none ∈ tb := tb5 118 (by decide +kernel) rfl
theorem ki_X8_keepOrder : Cond.instanceMethod yX8_keepOrder ∈ tb := tb5 117 (by decide +kernel) rfl
theorem ks_X8_keepOrder : Cond.selects yX8_keepOrder.cls yX8_keepOrder yX8_keepOrder ∈ tb := tbS 44 (by decide +kernel) rfl
theorem kd_X8_keepOrder : yX8_keepOrder.cls ≠ "java/lang/invoke/MethodHandle" ∧ yX8_keepOrder.cls ≠ "java/lang/invoke/VarHandle" ∧ (parseMethodDescriptor yX8_keepOrder.desc).map (fun d => d.parameters.length) = some 0 := ⟨by decide, by decide, by decide +kernel⟩
theorem kc_X8_kindBy : Cond.code yX8_kindBy cX8_kindBy 1 (some .int) ∈ tb := tb4 171 (by decide +kernel) rfl
theorem ki_X8_kindBy : Cond.static yX8_kindBy ∈ tb := tb4 170 (by decide +kernel) rfl
theorem kd_X8_kindBy : yX8_kindBy.cls ≠ "java/lang/invoke/MethodHandle" ∧ yX8_kindBy.cls ≠ "java/lang/invoke/VarHandle" ∧ (parseMethodDescriptor yX8_kindBy.desc).map (fun d => d.parameters.length) = some 1 := ⟨by decide, by decide, by decide +kernel⟩
theorem kc_X8_lacks : Cond.code yX8_lacks cX8_lacks 1 (some .boolean) ∈ tb := tb5 76 (by decide +kernel) rfl
theorem ki_X8_lacks : Cond.instanceMethod yX8_lacks ∈ tb := tb5 75 (by decide +kernel) rfl
theorem ks_X8_lacks : Cond.selects yX8_lacks.cls yX8_lacks yX8_lacks ∈ tb := tbS 41 (by decide +kernel) rfl
theorem kd_X8_lacks : yX8_lacks.cls ≠ "java/lang/invoke/MethodHandle" ∧ yX8_lacks.cls ≠ "java/lang/invoke/VarHandle" ∧ (parseMethodDescriptor yX8_lacks.desc).map (fun d => d.parameters.length) = some 0 := ⟨by decide, by decide, by decide +kernel⟩
theorem kc_X8_lane : Cond.code yX8_lane cX8_lane 4 (some .int) ∈ tb := tb5 56 (by decide +kernel) rfl
theorem ki_X8_lane : Cond.instanceMethod yX8_lane ∈ tb := tb5 54 (by decide +kernel) rfl
theorem ks_X8_lane : Cond.selects yX8_lane.cls yX8_lane yX8_lane ∈ tb := tb5 55 (by decide +kernel) rfl
theorem kd_X8_lane : yX8_lane.cls ≠ "java/lang/invoke/MethodHandle" ∧ yX8_lane.cls ≠ "java/lang/invoke/VarHandle" ∧ (parseMethodDescriptor yX8_lane.desc).map (fun d => d.parameters.length) = some 2 := ⟨by decide, by decide, by decide +kernel⟩
theorem kc_X8_laneOf : Cond.code yX8_laneOf cX8_laneOf 5 (some .int) ∈ tb := tb5 60 (by decide +kernel) rfl
theorem ki_X8_laneOf : Cond.instanceMethod yX8_laneOf ∈ tb := tb5 59 (by decide +kernel) rfl
theorem ks_X8_laneOf : Cond.selects yX8_laneOf.cls yX8_laneOf yX8_laneOf ∈ tb := tbS 39 (by decide +kernel) rfl
theorem kd_X8_laneOf : yX8_laneOf.cls ≠ "java/lang/invoke/MethodHandle" ∧ yX8_laneOf.cls ≠ "java/lang/invoke/VarHandle" ∧ (parseMethodDescriptor yX8_laneOf.desc).map (fun d => d.parameters.length) = some 1 := ⟨by decide, by decide, by decide +kernel⟩
theorem kc_X8_layAll : Cond.code yX8_layAll cX8_layAll 1 none ∈ tb := tb4 202 (by decide +kernel) rfl
theorem ki_X8_layAll : Cond.instanceMethod yX8_layAll ∈ tb := tb4 201 (by decide +kernel) rfl
theorem ks_X8_layAll : Cond.selects yX8_layAll.cls yX8_layAll yX8_layAll ∈ tb := tbS 22 (by decide +kernel) rfl
theorem kd_X8_layAll : yX8_layAll.cls ≠ "java/lang/invoke/MethodHandle" ∧ yX8_layAll.cls ≠ "java/lang/invoke/VarHandle" ∧ (parseMethodDescriptor yX8_layAll.desc).map (fun d => d.parameters.length) = some 0 := ⟨by decide, by decide, by decide +kernel⟩
theorem kc_X8_layBound : Cond.code yX8_layBound cX8_layBound 7 (some .int) ∈ tb := tb4 210 (by decide +kernel) rfl
theorem ki_X8_layBound : Cond.instanceMethod yX8_layBound ∈ tb := tb4 209 (by decide +kernel) rfl
theorem ks_X8_layBound : Cond.selects yX8_layBound.cls yX8_layBound yX8_layBound ∈ tb := tbS 24 (by decide +kernel) rfl
theorem kd_X8_layBound : yX8_layBound.cls ≠ "java/lang/invoke/MethodHandle" ∧ yX8_layBound.cls ≠ "java/lang/invoke/VarHandle" ∧ (parseMethodDescriptor yX8_layBound.desc).map (fun d => d.parameters.length) = some 1 := ⟨by decide, by decide, by decide +kernel⟩
theorem kc_X8_layLane : Cond.code yX8_layLane cX8_layLane 6 none ∈ tb := tb4 221 (by decide +kernel) rfl
theorem ki_X8_layLane : Cond.instanceMethod yX8_layLane ∈ tb := tb4 220 (by decide +kernel) rfl
theorem ks_X8_layLane : Cond.selects yX8_layLane.cls yX8_layLane yX8_layLane ∈ tb := tbS 26 (by decide +kernel) rfl
theorem kd_X8_layLane : yX8_layLane.cls ≠ "java/lang/invoke/MethodHandle" ∧ yX8_layLane.cls ≠ "java/lang/invoke/VarHandle" ∧ (parseMethodDescriptor yX8_layLane.desc).map (fun d => d.parameters.length) = some 1 := ⟨by decide, by decide, by decide +kernel⟩
theorem kc_X8_layLeaf : Cond.code yX8_layLeaf cX8_layLeaf 6 none ∈ tb := tb4 233 (by decide +kernel) rfl
theorem ki_X8_layLeaf : Cond.instanceMethod yX8_layLeaf ∈ tb := tb4 232 (by decide +kernel) rfl
theorem ks_X8_layLeaf : Cond.selects yX8_layLeaf.cls yX8_layLeaf yX8_layLeaf ∈ tb := tbS 29 (by decide +kernel) rfl
theorem kd_X8_layLeaf : yX8_layLeaf.cls ≠ "java/lang/invoke/MethodHandle" ∧ yX8_layLeaf.cls ≠ "java/lang/invoke/VarHandle" ∧ (parseMethodDescriptor yX8_layLeaf.desc).map (fun d => d.parameters.length) = some 2 := ⟨by decide, by decide, by decide +kernel⟩
theorem kc_X8_layOrder : Cond.code yX8_layOrder cX8_layOrder 7 none ∈ tb := tb4 206 (by decide +kernel) rfl
theorem ki_X8_layOrder : Cond.instanceMethod yX8_layOrder ∈ tb := tb4 205 (by decide +kernel) rfl
theorem ks_X8_layOrder : Cond.selects yX8_layOrder.cls yX8_layOrder yX8_layOrder ∈ tb := tbS 23 (by decide +kernel) rfl
theorem kd_X8_layOrder : yX8_layOrder.cls ≠ "java/lang/invoke/MethodHandle" ∧ yX8_layOrder.cls ≠ "java/lang/invoke/VarHandle" ∧ (parseMethodDescriptor yX8_layOrder.desc).map (fun d => d.parameters.length) = some 1 := ⟨by decide, by decide, by decide +kernel⟩
theorem kc_X8_letter : Cond.code yX8_letter cX8_letter 2 (some .int) ∈ tb := tb4 148 (by decide +kernel) rfl
theorem ki_X8_letter : Cond.instanceMethod yX8_letter ∈ tb := tb4 146 (by decide +kernel) rfl
theorem ks_X8_letter : Cond.selects yX8_letter.cls yX8_letter yX8_letter ∈ tb := tb4 147 (by decide +kernel) rfl
theorem kd_X8_letter : yX8_letter.cls ≠ "java/lang/invoke/MethodHandle" ∧ yX8_letter.cls ≠ "java/lang/invoke/VarHandle" ∧ (parseMethodDescriptor yX8_letter.desc).map (fun d => d.parameters.length) = some 1 := ⟨by decide, by decide, by decide +kernel⟩
theorem kc_X8_move : Cond.code yX8_move cX8_move 5 (some .int) ∈ tb := tb5 84 (by decide +kernel) rfl
theorem ki_X8_move : Cond.instanceMethod yX8_move ∈ tb := tb5 82 (by decide +kernel) rfl
theorem ks_X8_move : Cond.selects yX8_move.cls yX8_move yX8_move ∈ tb := tb5 83 (by decide +kernel) rfl
theorem kd_X8_move : yX8_move.cls ≠ "java/lang/invoke/MethodHandle" ∧ yX8_move.cls ≠ "java/lang/invoke/VarHandle" ∧ (parseMethodDescriptor yX8_move.desc).map (fun d => d.parameters.length) = some 3 := ⟨by decide, by decide, by decide +kernel⟩
theorem kc_X8_nextLane : Cond.code yX8_nextLane cX8_nextLane 12 (some .int) ∈ tb := tb5 64 (by decide +kernel) rfl
theorem ki_X8_nextLane : Cond.instanceMethod yX8_nextLane ∈ tb := tb5 63 (by decide +kernel) rfl
theorem ks_X8_nextLane : Cond.selects yX8_nextLane.cls yX8_nextLane yX8_nextLane ∈ tb := tbS 40 (by decide +kernel) rfl
theorem kd_X8_nextLane : yX8_nextLane.cls ≠ "java/lang/invoke/MethodHandle" ∧ yX8_nextLane.cls ≠ "java/lang/invoke/VarHandle" ∧ (parseMethodDescriptor yX8_nextLane.desc).map (fun d => d.parameters.length) = some 2 := ⟨by decide, by decide, by decide +kernel⟩
theorem kc_X8_ones : Cond.code yX8_ones cX8_ones 3 (some .int) ∈ tb := tb5 20 (by decide +kernel) rfl
theorem ki_X8_ones : Cond.static yX8_ones ∈ tb := tb5 19 (by decide +kernel) rfl
theorem kd_X8_ones : yX8_ones.cls ≠ "java/lang/invoke/MethodHandle" ∧ yX8_ones.cls ≠ "java/lang/invoke/VarHandle" ∧ (parseMethodDescriptor yX8_ones.desc).map (fun d => d.parameters.length) = some 1 := ⟨by decide, by decide, by decide +kernel⟩
theorem kc_X8_order : Cond.code yX8_order cX8_order 2 (some .int) ∈ tb := tb5 44 (by decide +kernel) rfl
theorem ki_X8_order : Cond.instanceMethod yX8_order ∈ tb := tb5 42 (by decide +kernel) rfl
theorem ks_X8_order : Cond.selects yX8_order.cls yX8_order yX8_order ∈ tb := tb5 43 (by decide +kernel) rfl
theorem kd_X8_order : yX8_order.cls ≠ "java/lang/invoke/MethodHandle" ∧ yX8_order.cls ≠ "java/lang/invoke/VarHandle" ∧ (parseMethodDescriptor yX8_order.desc).map (fun d => d.parameters.length) = some 1 := ⟨by decide, by decide, by decide +kernel⟩
theorem kc_X8_page : Cond.code yX8_page cX8_page 3 (some .int) ∈ tb := tb4 186 (by decide +kernel) rfl
theorem ki_X8_page : Cond.instanceMethod yX8_page ∈ tb := tb4 184 (by decide +kernel) rfl
theorem ks_X8_page : Cond.selects yX8_page.cls yX8_page yX8_page ∈ tb := tb4 185 (by decide +kernel) rfl
theorem kd_X8_page : yX8_page.cls ≠ "java/lang/invoke/MethodHandle" ∧ yX8_page.cls ≠ "java/lang/invoke/VarHandle" ∧ (parseMethodDescriptor yX8_page.desc).map (fun d => d.parameters.length) = some 0 := ⟨by decide, by decide, by decide +kernel⟩
theorem kc_X8_placeOf : Cond.code yX8_placeOf cX8_placeOf 4 (some .int) ∈ tb := tb5 24 (by decide +kernel) rfl
theorem ki_X8_placeOf : Cond.instanceMethod yX8_placeOf ∈ tb := tb5 23 (by decide +kernel) rfl
theorem ks_X8_placeOf : Cond.selects yX8_placeOf.cls yX8_placeOf yX8_placeOf ∈ tb := tbS 36 (by decide +kernel) rfl
theorem kd_X8_placeOf : yX8_placeOf.cls ≠ "java/lang/invoke/MethodHandle" ∧ yX8_placeOf.cls ≠ "java/lang/invoke/VarHandle" ∧ (parseMethodDescriptor yX8_placeOf.desc).map (fun d => d.parameters.length) = some 1 := ⟨by decide, by decide, by decide +kernel⟩
theorem kc_X8_put : Cond.code yX8_put cX8_put 3 (some .int) ∈ tb := tb5 71 (by decide +kernel) rfl
theorem ki_X8_put : Cond.instanceMethod yX8_put ∈ tb := tb5 69 (by decide +kernel) rfl
theorem ks_X8_put : Cond.selects yX8_put.cls yX8_put yX8_put ∈ tb := tb5 70 (by decide +kernel) rfl
theorem kd_X8_put : yX8_put.cls ≠ "java/lang/invoke/MethodHandle" ∧ yX8_put.cls ≠ "java/lang/invoke/VarHandle" ∧ (parseMethodDescriptor yX8_put.desc).map (fun d => d.parameters.length) = some 2 := ⟨by decide, by decide, by decide +kernel⟩
theorem kc_X8_rankOf : Cond.code yX8_rankOf cX8_rankOf 3 (some .int) ∈ tb := tb5 67 (by decide +kernel) rfl
theorem ki_X8_rankOf : Cond.static yX8_rankOf ∈ tb := tb5 66 (by decide +kernel) rfl
theorem kd_X8_rankOf : yX8_rankOf.cls ≠ "java/lang/invoke/MethodHandle" ∧ yX8_rankOf.cls ≠ "java/lang/invoke/VarHandle" ∧ (parseMethodDescriptor yX8_rankOf.desc).map (fun d => d.parameters.length) = some 3 := ⟨by decide, by decide, by decide +kernel⟩
theorem kc_X8_restore : Cond.code yX8_restore cX8_restore 1 (some .int) ∈ tb := tb5 180 (by decide +kernel) rfl
theorem ki_X8_restore : Cond.instanceMethod yX8_restore ∈ tb := tb5 178 (by decide +kernel) rfl
theorem ks_X8_restore : Cond.selects yX8_restore.cls yX8_restore yX8_restore ∈ tb := tb5 179 (by decide +kernel) rfl
theorem kd_X8_restore : yX8_restore.cls ≠ "java/lang/invoke/MethodHandle" ∧ yX8_restore.cls ≠ "java/lang/invoke/VarHandle" ∧ (parseMethodDescriptor yX8_restore.desc).map (fun d => d.parameters.length) = some 0 := ⟨by decide, by decide, by decide +kernel⟩
theorem kc_X8_ruleOf : Cond.code yX8_ruleOf cX8_ruleOf 4 (some .int) ∈ tb := tb5 1 (by decide +kernel) rfl
theorem ki_X8_ruleOf : Cond.instanceMethod yX8_ruleOf ∈ tb := tb5 0 (by decide +kernel) rfl
theorem ks_X8_ruleOf : Cond.selects yX8_ruleOf.cls yX8_ruleOf yX8_ruleOf ∈ tb := tbS 31 (by decide +kernel) rfl
theorem kd_X8_ruleOf : yX8_ruleOf.cls ≠ "java/lang/invoke/MethodHandle" ∧ yX8_ruleOf.cls ≠ "java/lang/invoke/VarHandle" ∧ (parseMethodDescriptor yX8_ruleOf.desc).map (fun d => d.parameters.length) = some 2 := ⟨by decide, by decide, by decide +kernel⟩
theorem kc_X8_rules : Cond.code yX8_rules cX8_rules 4 (some .int) ∈ tb := tb5 98 (by decide +kernel) rfl
theorem ki_X8_rules : Cond.instanceMethod yX8_rules ∈ tb := tb5 96 (by decide +kernel) rfl
theorem ks_X8_rules : Cond.selects yX8_rules.cls yX8_rules yX8_rules ∈ tb := tb5 97 (by decide +kernel) rfl
theorem kd_X8_rules : yX8_rules.cls ≠ "java/lang/invoke/MethodHandle" ∧ yX8_rules.cls ≠ "java/lang/invoke/VarHandle" ∧ (parseMethodDescriptor yX8_rules.desc).map (fun d => d.parameters.length) = some 1 := ⟨by decide, by decide, by decide +kernel⟩
theorem kc_X8_say : Cond.code yX8_say cX8_say 3 none ∈ tb := tb5 205 (by decide +kernel) rfl
theorem ki_X8_say : Cond.instanceMethod yX8_say ∈ tb := tb5 204 (by decide +kernel) rfl
theorem ks_X8_say : Cond.selects yX8_say.cls yX8_say yX8_say ∈ tb := tbS 53 (by decide +kernel) rfl
theorem kd_X8_say : yX8_say.cls ≠ "java/lang/invoke/MethodHandle" ∧ yX8_say.cls ≠ "java/lang/invoke/VarHandle" ∧ (parseMethodDescriptor yX8_say.desc).map (fun d => d.parameters.length) = some 1 := ⟨by decide, by decide, by decide +kernel⟩
theorem kc_X8_sayPage : Cond.code yX8_sayPage cX8_sayPage 3 none ∈ tb := tb5 201 (by decide +kernel) rfl
theorem ki_X8_sayPage : Cond.instanceMethod yX8_sayPage ∈ tb := tb5 200 (by decide +kernel) rfl
theorem ks_X8_sayPage : Cond.selects yX8_sayPage.cls yX8_sayPage yX8_sayPage ∈ tb := tbS 52 (by decide +kernel) rfl
theorem kd_X8_sayPage : yX8_sayPage.cls ≠ "java/lang/invoke/MethodHandle" ∧ yX8_sayPage.cls ≠ "java/lang/invoke/VarHandle" ∧ (parseMethodDescriptor yX8_sayPage.desc).map (fun d => d.parameters.length) = some 0 := ⟨by decide, by decide, by decide +kernel⟩
theorem kc_X8_scale : Cond.code yX8_scale cX8_scale 3 (some .int) ∈ tb := tb5 105 (by decide +kernel) rfl
theorem ki_X8_scale : Cond.instanceMethod yX8_scale ∈ tb := tb5 103 (by decide +kernel) rfl
theorem ks_X8_scale : Cond.selects yX8_scale.cls yX8_scale yX8_scale ∈ tb := tb5 104 (by decide +kernel) rfl
theorem kd_X8_scale : yX8_scale.cls ≠ "java/lang/invoke/MethodHandle" ∧ yX8_scale.cls ≠ "java/lang/invoke/VarHandle" ∧ (parseMethodDescriptor yX8_scale.desc).map (fun d => d.parameters.length) = some 1 := ⟨by decide, by decide, by decide +kernel⟩
theorem kc_X8_see : Cond.code yX8_see cX8_see 4 (some .int) ∈ tb := tb5 149 (by decide +kernel) rfl
theorem ki_X8_see : Cond.instanceMethod yX8_see ∈ tb := tb5 147 (by decide +kernel) rfl
theorem ks_X8_see : Cond.selects yX8_see.cls yX8_see yX8_see ∈ tb := tb5 148 (by decide +kernel) rfl
theorem kd_X8_see : yX8_see.cls ≠ "java/lang/invoke/MethodHandle" ∧ yX8_see.cls ≠ "java/lang/invoke/VarHandle" ∧ (parseMethodDescriptor yX8_see.desc).map (fun d => d.parameters.length) = some 3 := ⟨by decide, by decide, by decide +kernel⟩
theorem kc_X8_shift : Cond.code yX8_shift cX8_shift 4 none ∈ tb := tb5 90 (by decide +kernel) rfl
theorem ki_X8_shift : Cond.instanceMethod yX8_shift ∈ tb := tb5 89 (by decide +kernel) rfl
theorem ks_X8_shift : Cond.selects yX8_shift.cls yX8_shift yX8_shift ∈ tb := tbS 42 (by decide +kernel) rfl
theorem kd_X8_shift : yX8_shift.cls ≠ "java/lang/invoke/MethodHandle" ∧ yX8_shift.cls ≠ "java/lang/invoke/VarHandle" ∧ (parseMethodDescriptor yX8_shift.desc).map (fun d => d.parameters.length) = some 3 := ⟨by decide, by decide, by decide +kernel⟩
theorem kc_X8_sortsBy : Cond.code yX8_sortsBy cX8_sortsBy 1 (some .int) ∈ tb := tb5 31 (by decide +kernel) rfl
theorem ki_X8_sortsBy : Cond.static yX8_sortsBy ∈ tb := tb5 30 (by decide +kernel) rfl
theorem kd_X8_sortsBy : yX8_sortsBy.cls ≠ "java/lang/invoke/MethodHandle" ∧ yX8_sortsBy.cls ≠ "java/lang/invoke/VarHandle" ∧ (parseMethodDescriptor yX8_sortsBy.desc).map (fun d => d.parameters.length) = some 1 := ⟨by decide, by decide, by decide +kernel⟩
theorem kc_X8_sortsOf : Cond.code yX8_sortsOf cX8_sortsOf 5 (some .int) ∈ tb := tb5 28 (by decide +kernel) rfl
theorem ki_X8_sortsOf : Cond.instanceMethod yX8_sortsOf ∈ tb := tb5 27 (by decide +kernel) rfl
theorem ks_X8_sortsOf : Cond.selects yX8_sortsOf.cls yX8_sortsOf yX8_sortsOf ∈ tb := tbS 37 (by decide +kernel) rfl
theorem kd_X8_sortsOf : yX8_sortsOf.cls ≠ "java/lang/invoke/MethodHandle" ∧ yX8_sortsOf.cls ≠ "java/lang/invoke/VarHandle" ∧ (parseMethodDescriptor yX8_sortsOf.desc).map (fun d => d.parameters.length) = some 1 := ⟨by decide, by decide, by decide +kernel⟩
theorem kc_X8_take : Cond.code yX8_take cX8_take 4 (some .int) ∈ tb := tb5 80 (by decide +kernel) rfl
theorem ki_X8_take : Cond.instanceMethod yX8_take ∈ tb := tb5 78 (by decide +kernel) rfl
theorem ks_X8_take : Cond.selects yX8_take.cls yX8_take yX8_take ∈ tb := tb5 79 (by decide +kernel) rfl
theorem kd_X8_take : yX8_take.cls ≠ "java/lang/invoke/MethodHandle" ∧ yX8_take.cls ≠ "java/lang/invoke/VarHandle" ∧ (parseMethodDescriptor yX8_take.desc).map (fun d => d.parameters.length) = some 1 := ⟨by decide, by decide, by decide +kernel⟩
theorem kc_X8_tellBox : Cond.code yX8_tellBox cX8_tellBox 3 (some .int) ∈ tb := tb4 198 (by decide +kernel) rfl
theorem ki_X8_tellBox : Cond.instanceMethod yX8_tellBox ∈ tb := tb4 197 (by decide +kernel) rfl
theorem ks_X8_tellBox : Cond.selects yX8_tellBox.cls yX8_tellBox yX8_tellBox ∈ tb := tbS 21 (by decide +kernel) rfl
theorem kd_X8_tellBox : yX8_tellBox.cls ≠ "java/lang/invoke/MethodHandle" ∧ yX8_tellBox.cls ≠ "java/lang/invoke/VarHandle" ∧ (parseMethodDescriptor yX8_tellBox.desc).map (fun d => d.parameters.length) = some 2 := ⟨by decide, by decide, by decide +kernel⟩
theorem kc_X8_tryLane : Cond.code yX8_tryLane cX8_tryLane 6 none ∈ tb := tb4 225 (by decide +kernel) rfl
theorem ki_X8_tryLane : Cond.instanceMethod yX8_tryLane ∈ tb := tb4 224 (by decide +kernel) rfl
theorem ks_X8_tryLane : Cond.selects yX8_tryLane.cls yX8_tryLane yX8_tryLane ∈ tb := tbS 27 (by decide +kernel) rfl
theorem kd_X8_tryLane : yX8_tryLane.cls ≠ "java/lang/invoke/MethodHandle" ∧ yX8_tryLane.cls ≠ "java/lang/invoke/VarHandle" ∧ (parseMethodDescriptor yX8_tryLane.desc).map (fun d => d.parameters.length) = some 4 := ⟨by decide, by decide, by decide +kernel⟩
theorem kc_X8_why : Cond.code yX8_why cX8_why 5 (some .int) ∈ tb := tb5 52 (by decide +kernel) rfl
theorem ki_X8_why : Cond.instanceMethod yX8_why ∈ tb := tb5 50 (by decide +kernel) rfl
theorem ks_X8_why : Cond.selects yX8_why.cls yX8_why yX8_why ∈ tb := tb5 51 (by decide +kernel) rfl
theorem kd_X8_why : yX8_why.cls ≠ "java/lang/invoke/MethodHandle" ∧ yX8_why.cls ≠ "java/lang/invoke/VarHandle" ∧ (parseMethodDescriptor yX8_why.desc).map (fun d => d.parameters.length) = some 2 := ⟨by decide, by decide, by decide +kernel⟩
theorem kc_X8_without : Cond.code yX8_without cX8_without 5 (some .int) ∈ tb := tb5 114 (by decide +kernel) rfl
theorem ki_X8_without : Cond.instanceMethod yX8_without ∈ tb := tb5 112 (by decide +kernel) rfl
theorem ks_X8_without : Cond.selects yX8_without.cls yX8_without yX8_without ∈ tb := tb5 113 (by decide +kernel) rfl
theorem kd_X8_without : yX8_without.cls ≠ "java/lang/invoke/MethodHandle" ∧ yX8_without.cls ≠ "java/lang/invoke/VarHandle" ∧ (parseMethodDescriptor yX8_without.desc).map (fun d => d.parameters.length) = some 1 := ⟨by decide, by decide, by decide +kernel⟩
theorem v_X7_54 : vOK "LaneOrder" 54 yX6_add cX6_add 2 none 1 := ⟨tb2 23 (by decide +kernel) rfl, ki_X6_add, ks_X6_add, ini_LaneOrder_Text, kc_X6_add, kd_X6_add⟩
theorem v_X7_58 : vOK "LaneOrder" 58 yX6_clear cX6_clear 1 none 0 := ⟨tb2 31 (by decide +kernel) rfl, ki_X6_clear, ks_X6_clear, ini_LaneOrder_Text, kc_X6_clear, kd_X6_clear⟩
theorem v_X7_61 : vOK "LaneOrder" 61 yX6_firstFault cX6_firstFault 4 (some .int) 0 := ⟨tb2 39 (by decide +kernel) rfl, ki_X6_firstFault, ks_X6_firstFault, ini_LaneOrder_Text, kc_X6_firstFault, kd_X6_firstFault⟩
theorem v_X7_65 : vOK "LaneOrder" 65 yX6_isPage cX6_isPage 2 (some .boolean) 0 := ⟨tb2 146 (by decide +kernel) rfl, ki_X6_isPage, ks_X6_isPage, ini_LaneOrder_Text, kc_X6_isPage, kd_X6_isPage⟩
theorem v_X7_72 : vOK "LaneOrder" 72 yX6_writeTo cX6_writeTo 4 none 1 := ⟨tb2 155 (by decide +kernel) rfl, ki_X6_writeTo, ks_X6_writeTo, ini_LaneOrder_Text, kc_X6_writeTo, kd_X6_writeTo⟩
theorem v_X7_76 : vOK "LaneOrder" 76 yX3_renew cX3_renew 2 none 0 := ⟨tb2 176 (by decide +kernel) rfl, ki_X3_renew, ks_X3_renew, ini_LaneOrder_Reading, kc_X3_renew, kd_X3_renew⟩
theorem v_X7_79 : vOK "LaneOrder" 79 yX4_clear cX4_clear 1 none 0 := ⟨tb3 23 (by decide +kernel) rfl, ki_X4_clear, ks_X4_clear, ini_LaneOrder_Seen, kc_X4_clear, kd_X4_clear⟩
theorem v_X7_90 : vOK "LaneOrder" 90 yX5_has cX5_has 2 (some .boolean) 1 := ⟨tb3 31 (by decide +kernel) rfl, ki_X5_has, ks_X5_has, ini_LaneOrder_Sheet, kc_X5_has, kd_X5_has⟩
theorem v_X7_119 : vOK "LaneOrder" 119 yX4_sortsOf cX4_sortsOf 4 (some .int) 1 := ⟨tb3 35 (by decide +kernel) rfl, ki_X4_sortsOf, ks_X4_sortsOf, ini_LaneOrder_Seen, kc_X4_sortsOf, kd_X4_sortsOf⟩
theorem v_X7_123 : vOK "LaneOrder" 123 yX4_nextQuestionFor cX4_nextQuestionFor 9 (some .int) 1 := ⟨tb3 39 (by decide +kernel) rfl, ki_X4_nextQuestionFor, ks_X4_nextQuestionFor, ini_LaneOrder_Seen, kc_X4_nextQuestionFor, kd_X4_nextQuestionFor⟩
theorem v_X7_126 : sOK "LaneOrder" 126 yX7_isKind cX7_isKind 1 (some .boolean) 1 := ⟨tb3 58 (by decide +kernel) rfl, ki_X7_isKind, ini_LaneOrder, kc_X7_isKind, kd_X7_isKind⟩
theorem v_X7_129 : vOK "LaneOrder" 129 yX5_isOfKind cX5_isOfKind 3 (some .boolean) 2 := ⟨tb3 61 (by decide +kernel) rfl, ki_X5_isOfKind, ks_X5_isOfKind, ini_LaneOrder_Sheet, kc_X5_isOfKind, kd_X5_isOfKind⟩
theorem v_X7_164 : vOK "LaneOrder" 164 yX3_gatherLanes cX3_gatherLanes 3 none 2 := ⟨tb3 74 (by decide +kernel) rfl, ki_X3_gatherLanes, ks_X3_gatherLanes, ini_LaneOrder_Reading, kc_X3_gatherLanes, kd_X3_gatherLanes⟩
theorem v_X7_178 : vOK "LaneOrder" 178 yX3_reason cX3_reason 4 (some .int) 2 := ⟨tb3 79 (by decide +kernel) rfl, ki_X3_reason, ks_X3_reason, ini_LaneOrder_Reading, kc_X3_reason, kd_X3_reason⟩
theorem v_X7_182 : vOK "LaneOrder" 182 yX7_hasNoPage cX7_hasNoPage 1 (some .boolean) 0 := ⟨tb3 91 (by decide +kernel) rfl, ki_X7_hasNoPage, ks_X7_hasNoPage, ini_LaneOrder, kc_X7_hasNoPage, kd_X7_hasNoPage⟩
theorem v_X7_185 : vOK "LaneOrder" 185 yX5_add cX5_add 6 none 5 := ⟨tb3 95 (by decide +kernel) rfl, ki_X5_add, ks_X5_add, ini_LaneOrder_Sheet, kc_X5_add, kd_X5_add⟩
theorem v_X7_188 : vOK "LaneOrder" 188 yX5_remove cX5_remove 3 none 1 := ⟨tb3 100 (by decide +kernel) rfl, ki_X5_remove, ks_X5_remove, ini_LaneOrder_Sheet, kc_X5_remove, kd_X5_remove⟩
theorem v_X7_191 : sOK "LaneOrder" 191 yX7_isStep cX7_isStep 1 (some .boolean) 1 := ⟨tb3 109 (by decide +kernel) rfl, ki_X7_isStep, ini_LaneOrder, kc_X7_isStep, kd_X7_isStep⟩
theorem v_X7_194 : vOK "LaneOrder" 194 yX5_staysInside cX5_staysInside 4 (some .boolean) 3 := ⟨tb3 112 (by decide +kernel) rfl, ki_X5_staysInside, ks_X5_staysInside, ini_LaneOrder_Sheet, kc_X5_staysInside, kd_X5_staysInside⟩
theorem v_X7_198 : vOK "LaneOrder" 198 yX5_shift cX5_shift 4 none 3 := ⟨tb3 116 (by decide +kernel) rfl, ki_X5_shift, ks_X5_shift, ini_LaneOrder_Sheet, kc_X5_shift, kd_X5_shift⟩
theorem v_X7_202 : sOK "LaneOrder" 202 yX7_areRules cX7_areRules 5 (some .boolean) 1 := ⟨tb3 128 (by decide +kernel) rfl, ki_X7_areRules, ini_LaneOrder, kc_X7_areRules, kd_X7_areRules⟩
theorem v_X7_205 : vOK "LaneOrder" 205 yX5_takeRules cX5_takeRules 4 none 1 := ⟨tb3 131 (by decide +kernel) rfl, ki_X5_takeRules, ks_X5_takeRules, ini_LaneOrder_Sheet, kc_X5_takeRules, kd_X5_takeRules⟩
theorem v_X7_211 : vOK "LaneOrder" 211 yX5_greatestNumber cX5_greatestNumber 3 (some .int) 0 := ⟨tb3 140 (by decide +kernel) rfl, ki_X5_greatestNumber, ks_X5_greatestNumber, ini_LaneOrder_Sheet, kc_X5_greatestNumber, kd_X5_greatestNumber⟩
theorem v_X7_214 : vOK "LaneOrder" 214 yX5_stretch cX5_stretch 3 none 1 := ⟨tb3 144 (by decide +kernel) rfl, ki_X5_stretch, ks_X5_stretch, ini_LaneOrder_Sheet, kc_X5_stretch, kd_X5_stretch⟩
theorem v_X7_217 : vOK "LaneOrder" 217 yX5_copyWithout cX5_copyWithout 3 none 2 := ⟨tb3 152 (by decide +kernel) rfl, ki_X5_copyWithout, ks_X5_copyWithout, ini_LaneOrder_Sheet, kc_X5_copyWithout, kd_X5_copyWithout⟩
theorem v_X7_224 : vOK "LaneOrder" 224 yX5_copy cX5_copy 2 none 1 := ⟨tb3 168 (by decide +kernel) rfl, ki_X5_copy, ks_X5_copy, ini_LaneOrder_Sheet, kc_X5_copy, kd_X5_copy⟩
theorem v_X7_230 : vOK "LaneOrder" 230 yX3_isOrderedLike cX3_isOrderedLike 3 (some .boolean) 1 := ⟨tb3 171 (by decide +kernel) rfl, ki_X3_isOrderedLike, ks_X3_isOrderedLike, ini_LaneOrder_Reading, kc_X3_isOrderedLike, kd_X3_isOrderedLike⟩
theorem v_X7_234 : vOK "LaneOrder" 234 yX5_dropRule cX5_dropRule 3 none 1 := ⟨tb3 179 (by decide +kernel) rfl, ki_X5_dropRule, ks_X5_dropRule, ini_LaneOrder_Sheet, kc_X5_dropRule, kd_X5_dropRule⟩
theorem v_X7_241 : vOK "LaneOrder" 241 yX4_add cX4_add 4 none 3 := ⟨tb3 191 (by decide +kernel) rfl, ki_X4_add, ks_X4_add, ini_LaneOrder_Seen, kc_X4_add, kd_X4_add⟩
theorem v_X7_247 : vOK "LaneOrder" 247 yX1_drawTo cX1_drawTo 7 none 1 := ⟨tb3 203 (by decide +kernel) rfl, ki_X1_drawTo, ks_X1_drawTo, ini_LaneOrder_Draws, kc_X1_drawTo, kd_X1_drawTo⟩
theorem v_X7_250 : vOK "LaneOrder" 250 yX3_isByNumber cX3_isByNumber 2 (some .boolean) 0 := ⟨tb3 225 (by decide +kernel) rfl, ki_X3_isByNumber, ks_X3_isByNumber, ini_LaneOrder_Reading, kc_X3_isByNumber, kd_X3_isByNumber⟩
theorem v_X7_253 : vOK "LaneOrder" 253 yX4_copy cX4_copy 2 none 1 := ⟨tb3 233 (by decide +kernel) rfl, ki_X4_copy, ks_X4_copy, ini_LaneOrder_Seen, kc_X4_copy, kd_X4_copy⟩
theorem v_X7_263 : vOK "LaneOrder" 263 yX7_box cX7_box 4 (some .int) 2 := ⟨tb4 12 (by decide +kernel) rfl, ki_X7_box, ks_X7_box, ini_LaneOrder, kc_X7_box, kd_X7_box⟩
theorem v_X7_266 : vOK "LaneOrder" 266 yX7_order cX7_order 2 (some .int) 1 := ⟨tb4 13 (by decide +kernel) rfl, ki_X7_order, ks_X7_order, ini_LaneOrder, kc_X7_order, kd_X7_order⟩
theorem v_X7_268 : vOK "LaneOrder" 268 yX7_cut cX7_cut 4 (some .int) 2 := ⟨tb4 14 (by decide +kernel) rfl, ki_X7_cut, ks_X7_cut, ini_LaneOrder, kc_X7_cut, kd_X7_cut⟩
theorem v_X7_271 : vOK "LaneOrder" 271 yX7_idle cX7_idle 4 (some .int) 0 := ⟨tb4 15 (by decide +kernel) rfl, ki_X7_idle, ks_X7_idle, ini_LaneOrder, kc_X7_idle, kd_X7_idle⟩
theorem v_X7_274 : vOK "LaneOrder" 274 yX7_free cX7_free 4 (some .int) 0 := ⟨tb4 16 (by decide +kernel) rfl, ki_X7_free, ks_X7_free, ini_LaneOrder, kc_X7_free, kd_X7_free⟩
theorem v_X7_280 : vOK "LaneOrder" 280 yX7_count cX7_count 2 (some .int) 1 := ⟨tb4 17 (by decide +kernel) rfl, ki_X7_count, ks_X7_count, ini_LaneOrder, kc_X7_count, kd_X7_count⟩
theorem v_X1_9 : vOK "LaneOrder$Draws" 9 yX5_clear cX5_clear 1 none 0 := ⟨tb3 207 (by decide +kernel) rfl, ki_X5_clear, ks_X5_clear, ini_LaneOrder_Sheet, kc_X5_clear, kd_X5_clear⟩
theorem v_X1_16 : vOK "LaneOrder$Draws" 16 yX1_ofEight cX1_ofEight 1 (some .int) 0 := ⟨tb3 208 (by decide +kernel) rfl, ki_X1_ofEight, ks_X1_ofEight, ini_LaneOrder_Draws, kc_X1_ofEight, kd_X1_ofEight⟩
theorem v_X1_20 : vOK "LaneOrder$Draws" 20 yX1_ofThree cX1_ofThree 1 (some .int) 0 := ⟨tb3 219 (by decide +kernel) rfl, ki_X1_ofThree, ks_X1_ofThree, ini_LaneOrder_Draws, kc_X1_ofThree, kd_X1_ofThree⟩
theorem v_X1_23 : vOK "LaneOrder$Draws" 23 yX5_add cX5_add 6 none 5 := ⟨tb3 223 (by decide +kernel) rfl, ki_X5_add, ks_X5_add, ini_LaneOrder_Sheet, kc_X5_add, kd_X5_add⟩
theorem v_X1_27 : vOK "LaneOrder$Draws" 27 yX5_addRule cX5_addRule 2 none 1 := ⟨tb3 224 (by decide +kernel) rfl, ki_X5_addRule, ks_X5_addRule, ini_LaneOrder_Sheet, kc_X5_addRule, kd_X5_addRule⟩
theorem v_X1_31 : vOK "LaneOrder$Draws" 31 yX1_step cX1_step 1 none 0 := ⟨tb3 212 (by decide +kernel) rfl, ki_X1_step, ks_X1_step, ini_LaneOrder_Draws, kc_X1_step, kd_X1_step⟩
theorem v_X2_25 : vOK "LaneOrder$Lanes" 25 yX2_isBehind cX2_isBehind 5 (some .boolean) 4 := ⟨tb2 224 (by decide +kernel) rfl, ki_X2_isBehind, ks_X2_isBehind, ini_LaneOrder_Lanes, kc_X2_isBehind, kd_X2_isBehind⟩
theorem v_X3_54 : vOK "LaneOrder$Reading" 54 yX0_clear cX0_clear 1 none 0 := ⟨tb2 180 (by decide +kernel) rfl, ki_X0_clear, ks_X0_clear, ini_LaneOrder_Cuts, kc_X0_clear, kd_X0_clear⟩
theorem v_X3_70 : vOK "LaneOrder$Reading" 70 yX3_nearestFigure cX3_nearestFigure 6 (some .int) 1 := ⟨tb2 184 (by decide +kernel) rfl, ki_X3_nearestFigure, ks_X3_nearestFigure, ini_LaneOrder_Reading, kc_X3_nearestFigure, kd_X3_nearestFigure⟩
theorem v_X3_74 : vOK "LaneOrder$Reading" 74 yX3_readPart cX3_readPart 5 none 3 := ⟨tb2 196 (by decide +kernel) rfl, ki_X3_readPart, ks_X3_readPart, ini_LaneOrder_Reading, kc_X3_readPart, kd_X3_readPart⟩
theorem v_X3_78 : vOK "LaneOrder$Reading" 78 yX3_putInOrder cX3_putInOrder 3 none 0 := ⟨tb3 15 (by decide +kernel) rfl, ki_X3_putInOrder, ks_X3_putInOrder, ini_LaneOrder_Reading, kc_X3_putInOrder, kd_X3_putInOrder⟩
theorem v_X3_81 : vOK "LaneOrder$Reading" 81 yX5_ruleThatTells cX5_ruleThatTells 4 (some .int) 2 := ⟨tb3 83 (by decide +kernel) rfl, ki_X5_ruleThatTells, ks_X5_ruleThatTells, ini_LaneOrder_Sheet, kc_X5_ruleThatTells, kd_X5_ruleThatTells⟩
theorem v_X3_88 : vOK "LaneOrder$Reading" 88 yX2_clear cX2_clear 1 none 0 := ⟨tb2 204 (by decide +kernel) rfl, ki_X2_clear, ks_X2_clear, ini_LaneOrder_Lanes, kc_X2_clear, kd_X2_clear⟩
theorem v_X3_95 : vOK "LaneOrder$Reading" 95 yX3_gatherLanesOf cX3_gatherLanesOf 9 none 5 := ⟨tb2 208 (by decide +kernel) rfl, ki_X3_gatherLanesOf, ks_X3_gatherLanesOf, ini_LaneOrder_Reading, kc_X3_gatherLanesOf, kd_X3_gatherLanesOf⟩
theorem v_X3_105 : vOK "LaneOrder$Reading" 105 yX3_nextBegin cX3_nextBegin 10 (some .int) 5 := ⟨tb2 212 (by decide +kernel) rfl, ki_X3_nextBegin, ks_X3_nextBegin, ini_LaneOrder_Reading, kc_X3_nextBegin, kd_X3_nextBegin⟩
theorem v_X3_109 : vOK "LaneOrder$Reading" 109 yX2_has cX2_has 4 (some .boolean) 2 := ⟨tb2 216 (by decide +kernel) rfl, ki_X2_has, ks_X2_has, ini_LaneOrder_Lanes, kc_X2_has, kd_X2_has⟩
theorem v_X3_113 : vOK "LaneOrder$Reading" 113 yX2_add cX2_add 5 none 3 := ⟨tb2 220 (by decide +kernel) rfl, ki_X2_add, ks_X2_add, ini_LaneOrder_Lanes, kc_X2_add, kd_X2_add⟩
theorem v_X3_116 : vOK "LaneOrder$Reading" 116 yX3_gatherLanes cX3_gatherLanes 3 none 2 := ⟨tb2 200 (by decide +kernel) rfl, ki_X3_gatherLanes, ks_X3_gatherLanes, ini_LaneOrder_Reading, kc_X3_gatherLanes, kd_X3_gatherLanes⟩
theorem v_X3_121 : vOK "LaneOrder$Reading" 121 yX3_readLeaf cX3_readLeaf 7 none 3 := ⟨tb2 228 (by decide +kernel) rfl, ki_X3_readLeaf, ks_X3_readLeaf, ini_LaneOrder_Reading, kc_X3_readLeaf, kd_X3_readLeaf⟩
theorem v_X3_124 : vOK "LaneOrder$Reading" 124 yX3_divide cX3_divide 8 (some .int) 2 := ⟨tb3 4 (by decide +kernel) rfl, ki_X3_divide, ks_X3_divide, ini_LaneOrder_Reading, kc_X3_divide, kd_X3_divide⟩
theorem v_X3_136 : vOK "LaneOrder$Reading" 136 yX0_add cX0_add 6 none 5 := ⟨tb3 11 (by decide +kernel) rfl, ki_X0_add, ks_X0_add, ini_LaneOrder_Cuts, kc_X0_add, kd_X0_add⟩
theorem kl_X3_139 : Cond.methodLink "LaneOrder$Reading" 139 arraycopyName ∈ tb := tb3 8 (by decide +kernel) rfl
theorem v_X3_145 : vOK "LaneOrder$Reading" 145 yX5_isAhead cX5_isAhead 5 (some .boolean) 2 := ⟨tb2 232 (by decide +kernel) rfl, ki_X5_isAhead, ks_X5_isAhead, ini_LaneOrder_Sheet, kc_X5_isAhead, kd_X5_isAhead⟩
theorem v_X3_148 : vOK "LaneOrder$Reading" 148 yX5_distance cX5_distance 3 (some .int) 2 := ⟨tb2 188 (by decide +kernel) rfl, ki_X5_distance, ks_X5_distance, ini_LaneOrder_Sheet, kc_X5_distance, kd_X5_distance⟩
theorem v_X3_151 : vOK "LaneOrder$Reading" 151 yX3_putNext cX3_putNext 2 none 1 := ⟨tb3 19 (by decide +kernel) rfl, ki_X3_putNext, ks_X3_putNext, ini_LaneOrder_Reading, kc_X3_putNext, kd_X3_putNext⟩
theorem kl_X4_22 : Cond.methodLink "LaneOrder$Seen" 22 arraycopyName ∈ tb := tb3 237 (by decide +kernel) rfl
theorem v_X4_28 : sOK "LaneOrder$Seen" 28 yX4_kindsSo cX4_kindsSo 1 (some .int) 1 := ⟨tb3 44 (by decide +kernel) rfl, ki_X4_kindsSo, ini_LaneOrder_Seen, kc_X4_kindsSo, kd_X4_kindsSo⟩
theorem v_X4_32 : vOK "LaneOrder$Seen" 32 yX4_sortsOf cX4_sortsOf 4 (some .int) 1 := ⟨tb3 43 (by decide +kernel) rfl, ki_X4_sortsOf, ks_X4_sortsOf, ini_LaneOrder_Seen, kc_X4_sortsOf, kd_X4_sortsOf⟩
theorem v_X4_35 : sOK "LaneOrder$Seen" 35 yJ6_bitCount_0f7a4 cJ6_bitCount_0f7a4 1 (some .int) 1 := ⟨tb3 47 (by decide +kernel) rfl, ki_J6_bitCount_0f7a4, ini_java_lang_Integer, kc_J6_bitCount_0f7a4, kd_J6_bitCount_0f7a4⟩
theorem kl_X4_40 : Cond.methodLink "LaneOrder$Seen" 40 Lib.Math.max.name ∈ tb := tb3 53 (by decide +kernel) rfl
theorem kl_X5_37 : Cond.methodLink "LaneOrder$Sheet" 37 arraycopyName ∈ tb := tb3 160 (by decide +kernel) rfl
theorem v_X5_43 : vOK "LaneOrder$Sheet" 43 yX5_copy cX5_copy 2 none 1 := ⟨tb3 156 (by decide +kernel) rfl, ki_X5_copy, ks_X5_copy, ini_LaneOrder_Sheet, kc_X5_copy, kd_X5_copy⟩
theorem v_X5_47 : vOK "LaneOrder$Sheet" 47 yX5_remove cX5_remove 3 none 1 := ⟨tb3 161 (by decide +kernel) rfl, ki_X5_remove, ks_X5_remove, ini_LaneOrder_Sheet, kc_X5_remove, kd_X5_remove⟩
theorem v_X5_51 : vOK "LaneOrder$Sheet" 51 yX5_has cX5_has 2 (some .boolean) 1 := ⟨tb3 104 (by decide +kernel) rfl, ki_X5_has, ks_X5_has, ini_LaneOrder_Sheet, kc_X5_has, kd_X5_has⟩
theorem kl_X5_55 : Cond.methodLink "LaneOrder$Sheet" 55 Lib.Math.max.name ∈ tb := tb2 195 (by decide +kernel) rfl
theorem v_X5_61 : vOK "LaneOrder$Sheet" 61 yX5_addRule cX5_addRule 2 none 1 := ⟨tb3 135 (by decide +kernel) rfl, ki_X5_addRule, ks_X5_addRule, ini_LaneOrder_Sheet, kc_X5_addRule, kd_X5_addRule⟩
theorem v_X5_64 : vOK "LaneOrder$Sheet" 64 yX5_isOfKind cX5_isOfKind 3 (some .boolean) 2 := ⟨tb3 0 (by decide +kernel) rfl, ki_X5_isOfKind, ks_X5_isOfKind, ini_LaneOrder_Sheet, kc_X5_isOfKind, kd_X5_isOfKind⟩
theorem v_X5_68 : vOK "LaneOrder$Sheet" 68 yX5_rank cX5_rank 3 (some .int) 2 := ⟨tb2 236 (by decide +kernel) rfl, ki_X5_rank, ks_X5_rank, ini_LaneOrder_Sheet, kc_X5_rank, kd_X5_rank⟩
theorem v_X5_71 : sOK "LaneOrder$Sheet" 71 yX5_gap cX5_gap 4 (some .int) 4 := ⟨tb2 192 (by decide +kernel) rfl, ki_X5_gap, ini_LaneOrder_Sheet, kc_X5_gap, kd_X5_gap⟩
theorem v_X6_19 : vOK "LaneOrder$Text" 19 yX6_fitsBoxes cX6_fitsBoxes 3 (some .boolean) 1 := ⟨tb2 43 (by decide +kernel) rfl, ki_X6_fitsBoxes, ks_X6_fitsBoxes, ini_LaneOrder_Text, kc_X6_fitsBoxes, kd_X6_fitsBoxes⟩
theorem v_X6_23 : vOK "LaneOrder$Text" 23 yX6_fitsRules cX6_fitsRules 4 (some .boolean) 2 := ⟨tb2 137 (by decide +kernel) rfl, ki_X6_fitsRules, ks_X6_fitsRules, ini_LaneOrder_Text, kc_X6_fitsRules, kd_X6_fitsRules⟩
theorem v_X6_27 : vOK "LaneOrder$Text" 27 yX6_rulesPlace cX6_rulesPlace 2 (some .int) 0 := ⟨tb2 150 (by decide +kernel) rfl, ki_X6_rulesPlace, ks_X6_rulesPlace, ini_LaneOrder_Text, kc_X6_rulesPlace, kd_X6_rulesPlace⟩
theorem v_X6_31 : vOK "LaneOrder$Text" 31 yX6_firstFault cX6_firstFault 4 (some .int) 0 := ⟨tb2 154 (by decide +kernel) rfl, ki_X6_firstFault, ks_X6_firstFault, ini_LaneOrder_Text, kc_X6_firstFault, kd_X6_firstFault⟩
theorem v_X6_34 : vOK "LaneOrder$Text" 34 yX5_clear cX5_clear 1 none 0 := ⟨tb2 159 (by decide +kernel) rfl, ki_X5_clear, ks_X5_clear, ini_LaneOrder_Sheet, kc_X5_clear, kd_X5_clear⟩
theorem v_X6_39 : sOK "LaneOrder$Text" 39 yX6_kindOf cX6_kindOf 1 (some .int) 1 := ⟨tb2 47 (by decide +kernel) rfl, ki_X6_kindOf, ini_LaneOrder_Text, kc_X6_kindOf, kd_X6_kindOf⟩
theorem v_X6_43 : vOK "LaneOrder$Text" 43 yX6_digitAt cX6_digitAt 2 (some .int) 1 := ⟨tb2 163 (by decide +kernel) rfl, ki_X6_digitAt, ks_X6_digitAt, ini_LaneOrder_Text, kc_X6_digitAt, kd_X6_digitAt⟩
theorem v_X6_46 : vOK "LaneOrder$Text" 46 yX5_add cX5_add 6 none 5 := ⟨tb2 167 (by decide +kernel) rfl, ki_X5_add, ks_X5_add, ini_LaneOrder_Sheet, kc_X5_add, kd_X5_add⟩
theorem kl_X6_50 : Cond.methodLink "LaneOrder$Text" 50 Lib.Math.max.name ∈ tb := tb2 171 (by decide +kernel) rfl
theorem v_X6_56 : vOK "LaneOrder$Text" 56 yX5_addRule cX5_addRule 2 none 1 := ⟨tb2 172 (by decide +kernel) rfl, ki_X5_addRule, ks_X5_addRule, ini_LaneOrder_Sheet, kc_X5_addRule, kd_X5_addRule⟩
theorem v_X6_62 : vOK "LaneOrder$Text" 62 yJ0_indexOf_0f7a4 cJ0_indexOf_0f7a4 2 (some .int) 1 := ⟨tb2 51 (by decide +kernel) rfl, ki_J0_indexOf_0f7a4, ks_J0_indexOf_0f7a4, ini_java_lang_String, kc_J0_indexOf_0f7a4, kd_J0_indexOf_0f7a4⟩
theorem v_L_13 : vOK "LaneOrderLaw" 13 yX7_letter cX7_letter 2 (some .int) 1 := ⟨tb2 19 (by decide +kernel) rfl, ki_X7_letter, ks_X7_letter, ini_LaneOrder, kc_X7_letter, kd_X7_letter⟩
theorem v_L_17 : vOK "LaneOrderLaw" 17 yX8_letter cX8_letter 2 (some .int) 1 := ⟨tb4 145 (by decide +kernel) rfl, ki_X8_letter, ks_X8_letter, ini_LaneOrderModel, kc_X8_letter, kd_X8_letter⟩
theorem v_L_18 : vOK "LaneOrderLaw" 18 yX7_blank cX7_blank 2 (some .int) 0 := ⟨tb2 27 (by decide +kernel) rfl, ki_X7_blank, ks_X7_blank, ini_LaneOrder, kc_X7_blank, kd_X7_blank⟩
theorem v_L_22 : vOK "LaneOrderLaw" 22 yX8_blank cX8_blank 2 (some .int) 0 := ⟨tb4 153 (by decide +kernel) rfl, ki_X8_blank, ks_X8_blank, ini_LaneOrderModel, kc_X8_blank, kd_X8_blank⟩
theorem v_L_23 : vOK "LaneOrderLaw" 23 yX7_fault cX7_fault 1 (some .int) 0 := ⟨tb2 35 (by decide +kernel) rfl, ki_X7_fault, ks_X7_fault, ini_LaneOrder, kc_X7_fault, kd_X7_fault⟩
theorem v_L_26 : vOK "LaneOrderLaw" 26 yX8_fault cX8_fault 1 (some .int) 0 := ⟨tb4 157 (by decide +kernel) rfl, ki_X8_fault, ks_X8_fault, ini_LaneOrderModel, kc_X8_fault, kd_X8_fault⟩
theorem v_L_27 : vOK "LaneOrderLaw" 27 yX7_page cX7_page 1 (some .int) 0 := ⟨tb2 142 (by decide +kernel) rfl, ki_X7_page, ks_X7_page, ini_LaneOrder, kc_X7_page, kd_X7_page⟩
theorem v_L_30 : vOK "LaneOrderLaw" 30 yX8_page cX8_page 3 (some .int) 0 := ⟨tb4 183 (by decide +kernel) rfl, ki_X8_page, ks_X8_page, ini_LaneOrderModel, kc_X8_page, kd_X8_page⟩
theorem v_L_31 : vOK "LaneOrderLaw" 31 yX7_box cX7_box 4 (some .int) 2 := ⟨tb3 27 (by decide +kernel) rfl, ki_X7_box, ks_X7_box, ini_LaneOrder, kc_X7_box, kd_X7_box⟩
theorem v_L_35 : vOK "LaneOrderLaw" 35 yX8_box cX8_box 3 (some .int) 2 := ⟨tb4 187 (by decide +kernel) rfl, ki_X8_box, ks_X8_box, ini_LaneOrderModel, kc_X8_box, kd_X8_box⟩
theorem v_L_36 : vOK "LaneOrderLaw" 36 yX7_as cX7_as 3 (some .int) 2 := ⟨tb3 54 (by decide +kernel) rfl, ki_X7_as, ks_X7_as, ini_LaneOrder, kc_X7_as, kd_X7_as⟩
theorem v_L_39 : vOK "LaneOrderLaw" 39 yX8_as cX8_as 4 (some .int) 2 := ⟨tb5 36 (by decide +kernel) rfl, ki_X8_as, ks_X8_as, ini_LaneOrderModel, kc_X8_as, kd_X8_as⟩
theorem v_L_40 : vOK "LaneOrderLaw" 40 yX7_order cX7_order 2 (some .int) 1 := ⟨tb3 62 (by decide +kernel) rfl, ki_X7_order, ks_X7_order, ini_LaneOrder, kc_X7_order, kd_X7_order⟩
theorem v_L_43 : vOK "LaneOrderLaw" 43 yX8_order cX8_order 2 (some .int) 1 := ⟨tb5 41 (by decide +kernel) rfl, ki_X8_order, ks_X8_order, ini_LaneOrderModel, kc_X8_order, kd_X8_order⟩
theorem v_L_44 : vOK "LaneOrderLaw" 44 yX7_cut cX7_cut 4 (some .int) 2 := ⟨tb3 66 (by decide +kernel) rfl, ki_X7_cut, ks_X7_cut, ini_LaneOrder, kc_X7_cut, kd_X7_cut⟩
theorem v_L_47 : vOK "LaneOrderLaw" 47 yX8_cut cX8_cut 3 (some .int) 2 := ⟨tb5 45 (by decide +kernel) rfl, ki_X8_cut, ks_X8_cut, ini_LaneOrderModel, kc_X8_cut, kd_X8_cut⟩
theorem v_L_48 : vOK "LaneOrderLaw" 48 yX7_lane cX7_lane 4 (some .int) 2 := ⟨tb3 70 (by decide +kernel) rfl, ki_X7_lane, ks_X7_lane, ini_LaneOrder, kc_X7_lane, kd_X7_lane⟩
theorem v_L_51 : vOK "LaneOrderLaw" 51 yX8_lane cX8_lane 4 (some .int) 2 := ⟨tb5 53 (by decide +kernel) rfl, ki_X8_lane, ks_X8_lane, ini_LaneOrderModel, kc_X8_lane, kd_X8_lane⟩
theorem v_L_52 : vOK "LaneOrderLaw" 52 yX7_why cX7_why 4 (some .int) 2 := ⟨tb3 75 (by decide +kernel) rfl, ki_X7_why, ks_X7_why, ini_LaneOrder, kc_X7_why, kd_X7_why⟩
theorem v_L_55 : vOK "LaneOrderLaw" 55 yX8_why cX8_why 5 (some .int) 2 := ⟨tb5 49 (by decide +kernel) rfl, ki_X8_why, ks_X8_why, ini_LaneOrderModel, kc_X8_why, kd_X8_why⟩
theorem v_L_56 : vOK "LaneOrderLaw" 56 yX7_put cX7_put 3 (some .int) 2 := ⟨tb3 87 (by decide +kernel) rfl, ki_X7_put, ks_X7_put, ini_LaneOrder, kc_X7_put, kd_X7_put⟩
theorem v_L_59 : vOK "LaneOrderLaw" 59 yX8_put cX8_put 3 (some .int) 2 := ⟨tb5 68 (by decide +kernel) rfl, ki_X8_put, ks_X8_put, ini_LaneOrderModel, kc_X8_put, kd_X8_put⟩
theorem v_L_60 : vOK "LaneOrderLaw" 60 yX7_take cX7_take 2 (some .int) 1 := ⟨tb3 96 (by decide +kernel) rfl, ki_X7_take, ks_X7_take, ini_LaneOrder, kc_X7_take, kd_X7_take⟩
theorem v_L_63 : vOK "LaneOrderLaw" 63 yX8_take cX8_take 4 (some .int) 1 := ⟨tb5 77 (by decide +kernel) rfl, ki_X8_take, ks_X8_take, ini_LaneOrderModel, kc_X8_take, kd_X8_take⟩
theorem v_L_64 : vOK "LaneOrderLaw" 64 yX7_move cX7_move 4 (some .int) 3 := ⟨tb3 105 (by decide +kernel) rfl, ki_X7_move, ks_X7_move, ini_LaneOrder, kc_X7_move, kd_X7_move⟩
theorem v_L_68 : vOK "LaneOrderLaw" 68 yX8_move cX8_move 5 (some .int) 3 := ⟨tb5 81 (by decide +kernel) rfl, ki_X8_move, ks_X8_move, ini_LaneOrderModel, kc_X8_move, kd_X8_move⟩
theorem v_L_69 : vOK "LaneOrderLaw" 69 yX7_change cX7_change 4 (some .int) 2 := ⟨tb3 120 (by decide +kernel) rfl, ki_X7_change, ks_X7_change, ini_LaneOrder, kc_X7_change, kd_X7_change⟩
theorem v_L_72 : vOK "LaneOrderLaw" 72 yX8_change cX8_change 4 (some .int) 2 := ⟨tb5 91 (by decide +kernel) rfl, ki_X8_change, ks_X8_change, ini_LaneOrderModel, kc_X8_change, kd_X8_change⟩
theorem v_L_73 : vOK "LaneOrderLaw" 73 yX7_rules cX7_rules 2 (some .int) 1 := ⟨tb3 124 (by decide +kernel) rfl, ki_X7_rules, ks_X7_rules, ini_LaneOrder, kc_X7_rules, kd_X7_rules⟩
theorem v_L_76 : vOK "LaneOrderLaw" 76 yX8_rules cX8_rules 4 (some .int) 1 := ⟨tb5 95 (by decide +kernel) rfl, ki_X8_rules, ks_X8_rules, ini_LaneOrderModel, kc_X8_rules, kd_X8_rules⟩
theorem v_L_77 : vOK "LaneOrderLaw" 77 yX7_scale cX7_scale 2 (some .int) 1 := ⟨tb3 136 (by decide +kernel) rfl, ki_X7_scale, ks_X7_scale, ini_LaneOrder, kc_X7_scale, kd_X7_scale⟩
theorem v_L_80 : vOK "LaneOrderLaw" 80 yX8_scale cX8_scale 3 (some .int) 1 := ⟨tb5 102 (by decide +kernel) rfl, ki_X8_scale, ks_X8_scale, ini_LaneOrderModel, kc_X8_scale, kd_X8_scale⟩
theorem v_L_81 : vOK "LaneOrderLaw" 81 yX7_without cX7_without 6 (some .int) 1 := ⟨tb3 148 (by decide +kernel) rfl, ki_X7_without, ks_X7_without, ini_LaneOrder, kc_X7_without, kd_X7_without⟩
theorem v_L_84 : vOK "LaneOrderLaw" 84 yX8_without cX8_without 5 (some .int) 1 := ⟨tb5 111 (by decide +kernel) rfl, ki_X8_without, ks_X8_without, ini_LaneOrderModel, kc_X8_without, kd_X8_without⟩
theorem v_L_85 : vOK "LaneOrderLaw" 85 yX7_calm cX7_calm 4 (some .int) 0 := ⟨tb3 162 (by decide +kernel) rfl, ki_X7_calm, ks_X7_calm, ini_LaneOrder, kc_X7_calm, kd_X7_calm⟩
theorem v_L_88 : vOK "LaneOrderLaw" 88 yX8_calm cX8_calm 5 (some .int) 0 := ⟨tb5 122 (by decide +kernel) rfl, ki_X8_calm, ks_X8_calm, ini_LaneOrderModel, kc_X8_calm, kd_X8_calm⟩
theorem v_L_89 : vOK "LaneOrderLaw" 89 yX7_idle cX7_idle 4 (some .int) 0 := ⟨tb3 175 (by decide +kernel) rfl, ki_X7_idle, ks_X7_idle, ini_LaneOrder, kc_X7_idle, kd_X7_idle⟩
theorem v_L_92 : vOK "LaneOrderLaw" 92 yX8_idle cX8_idle 1 (some .int) 0 := ⟨tb5 130 (by decide +kernel) rfl, ki_X8_idle, ks_X8_idle, ini_LaneOrderModel, kc_X8_idle, kd_X8_idle⟩
theorem v_L_93 : vOK "LaneOrderLaw" 93 yX7_free cX7_free 4 (some .int) 0 := ⟨tb3 183 (by decide +kernel) rfl, ki_X7_free, ks_X7_free, ini_LaneOrder, kc_X7_free, kd_X7_free⟩
theorem v_L_96 : vOK "LaneOrderLaw" 96 yX8_free cX8_free 1 (some .int) 0 := ⟨tb5 138 (by decide +kernel) rfl, ki_X8_free, ks_X8_free, ini_LaneOrderModel, kc_X8_free, kd_X8_free⟩
theorem v_L_97 : vOK "LaneOrderLaw" 97 yX7_see cX7_see 4 (some .int) 3 := ⟨tb3 187 (by decide +kernel) rfl, ki_X7_see, ks_X7_see, ini_LaneOrder, kc_X7_see, kd_X7_see⟩
theorem v_L_101 : vOK "LaneOrderLaw" 101 yX8_see cX8_see 4 (some .int) 3 := ⟨tb5 146 (by decide +kernel) rfl, ki_X8_see, ks_X8_see, ini_LaneOrderModel, kc_X8_see, kd_X8_see⟩
theorem v_L_102 : vOK "LaneOrderLaw" 102 yX7_forget cX7_forget 2 (some .int) 0 := ⟨tb3 195 (by decide +kernel) rfl, ki_X7_forget, ks_X7_forget, ini_LaneOrder, kc_X7_forget, kd_X7_forget⟩
theorem v_L_105 : vOK "LaneOrderLaw" 105 yX8_forget cX8_forget 2 (some .int) 0 := ⟨tb5 151 (by decide +kernel) rfl, ki_X8_forget, ks_X8_forget, ini_LaneOrderModel, kc_X8_forget, kd_X8_forget⟩
theorem v_L_106 : vOK "LaneOrderLaw" 106 yX7_drawn cX7_drawn 7 (some .int) 3 := ⟨tb3 199 (by decide +kernel) rfl, ki_X7_drawn, ks_X7_drawn, ini_LaneOrder, kc_X7_drawn, kd_X7_drawn⟩
theorem v_L_109 : vOK "LaneOrderLaw" 109 yX8_drawn cX8_drawn 11 (some .int) 3 := ⟨tb5 155 (by decide +kernel) rfl, ki_X8_drawn, ks_X8_drawn, ini_LaneOrderModel, kc_X8_drawn, kd_X8_drawn⟩
theorem v_L_110 : vOK "LaneOrderLaw" 110 yX7_image cX7_image 1 (some .int) 0 := ⟨tb3 229 (by decide +kernel) rfl, ki_X7_image, ks_X7_image, ini_LaneOrder, kc_X7_image, kd_X7_image⟩
theorem v_L_113 : vOK "LaneOrderLaw" 113 yX8_image cX8_image 1 (some .int) 0 := ⟨tb5 173 (by decide +kernel) rfl, ki_X8_image, ks_X8_image, ini_LaneOrderModel, kc_X8_image, kd_X8_image⟩
theorem v_L_114 : vOK "LaneOrderLaw" 114 yX7_restore cX7_restore 1 (some .int) 0 := ⟨tb3 238 (by decide +kernel) rfl, ki_X7_restore, ks_X7_restore, ini_LaneOrder, kc_X7_restore, kd_X7_restore⟩
theorem v_L_117 : vOK "LaneOrderLaw" 117 yX8_restore cX8_restore 1 (some .int) 0 := ⟨tb5 177 (by decide +kernel) rfl, ki_X8_restore, ks_X8_restore, ini_LaneOrderModel, kc_X8_restore, kd_X8_restore⟩
theorem v_L_118 : vOK "LaneOrderLaw" 118 yX7_count cX7_count 2 (some .int) 1 := ⟨tb4 2 (by decide +kernel) rfl, ki_X7_count, ks_X7_count, ini_LaneOrder, kc_X7_count, kd_X7_count⟩
theorem v_L_121 : vOK "LaneOrderLaw" 121 yX8_count cX8_count 2 (some .int) 1 := ⟨tb5 181 (by decide +kernel) rfl, ki_X8_count, ks_X8_count, ini_LaneOrderModel, kc_X8_count, kd_X8_count⟩
theorem v_L_122 : vOK "LaneOrderLaw" 122 yX7_digest cX7_digest 5 (some .long) 0 := ⟨tb4 6 (by decide +kernel) rfl, ki_X7_digest, ks_X7_digest, ini_LaneOrder, kc_X7_digest, kd_X7_digest⟩
theorem v_L_126 : vOK "LaneOrderLaw" 126 yX8_digest cX8_digest 2 (some .long) 0 := ⟨tb5 193 (by decide +kernel) rfl, ki_X8_digest, ks_X8_digest, ini_LaneOrderModel, kc_X8_digest, kd_X8_digest⟩
theorem v_X8_76 : sOK "LaneOrderModel" 76 yX8_in cX8_in 6 (some .boolean) 3 := ⟨tb4 150 (by decide +kernel) rfl, ki_X8_in, ini_LaneOrderModel, kc_X8_in, kd_X8_in⟩
theorem v_X8_83 : sOK "LaneOrderModel" 83 yX8_kindBy cX8_kindBy 1 (some .int) 1 := ⟨tb4 169 (by decide +kernel) rfl, ki_X8_kindBy, ini_LaneOrderModel, kc_X8_kindBy, kd_X8_kindBy⟩
theorem v_X8_101 : sOK "LaneOrderModel" 101 yX8_has cX8_has 2 (some .boolean) 2 := ⟨tb4 180 (by decide +kernel) rfl, ki_X8_has, ini_LaneOrderModel, kc_X8_has, kd_X8_has⟩
theorem v_X8_108 : vOK "LaneOrderModel" 108 yX8_isBoxSign cX8_isBoxSign 3 (some .boolean) 1 := ⟨tb4 165 (by decide +kernel) rfl, ki_X8_isBoxSign, ks_X8_isBoxSign, ini_LaneOrderModel, kc_X8_isBoxSign, kd_X8_isBoxSign⟩
theorem v_X8_112 : vOK "LaneOrderModel" 112 yX8_isRuleSign cX8_isRuleSign 2 (some .boolean) 1 := ⟨tb4 175 (by decide +kernel) rfl, ki_X8_isRuleSign, ks_X8_isRuleSign, ini_LaneOrderModel, kc_X8_isRuleSign, kd_X8_isRuleSign⟩
theorem v_X8_115 : vOK "LaneOrderModel" 115 yX8_faultOf cX8_faultOf 2 (some .int) 0 := ⟨tb4 161 (by decide +kernel) rfl, ki_X8_faultOf, ks_X8_faultOf, ini_LaneOrderModel, kc_X8_faultOf, kd_X8_faultOf⟩
theorem v_X8_131 : sOK "LaneOrderModel" 131 yX8_gap cX8_gap 4 (some .int) 4 := ⟨tb4 215 (by decide +kernel) rfl, ki_X8_gap, ini_LaneOrderModel, kc_X8_gap, kd_X8_gap⟩
theorem v_X8_135 : vOK "LaneOrderModel" 135 yX8_apart cX8_apart 4 (some .int) 2 := ⟨tb4 211 (by decide +kernel) rfl, ki_X8_apart, ks_X8_apart, ini_LaneOrderModel, kc_X8_apart, kd_X8_apart⟩
theorem v_X8_148 : vOK "LaneOrderModel" 148 yX8_isLane cX8_isLane 6 (some .boolean) 4 := ⟨tb4 226 (by decide +kernel) rfl, ki_X8_isLane, ks_X8_isLane, ini_LaneOrderModel, kc_X8_isLane, kd_X8_isLane⟩
theorem v_X8_152 : vOK "LaneOrderModel" 152 yX8_tryLane cX8_tryLane 6 none 4 := ⟨tb4 222 (by decide +kernel) rfl, ki_X8_tryLane, ks_X8_tryLane, ini_LaneOrderModel, kc_X8_tryLane, kd_X8_tryLane⟩
theorem v_X8_156 : vOK "LaneOrderModel" 156 yX8_isSort cX8_isSort 3 (some .boolean) 2 := ⟨tb5 6 (by decide +kernel) rfl, ki_X8_isSort, ks_X8_isSort, ini_LaneOrderModel, kc_X8_isSort, kd_X8_isSort⟩
theorem v_X8_159 : vOK "LaneOrderModel" 159 yX8_byRule cX8_byRule 4 (some .int) 3 := ⟨tb5 2 (by decide +kernel) rfl, ki_X8_byRule, ks_X8_byRule, ini_LaneOrderModel, kc_X8_byRule, kd_X8_byRule⟩
theorem v_X8_163 : vOK "LaneOrderModel" 163 yX8_ruleOf cX8_ruleOf 4 (some .int) 2 := ⟨tb4 238 (by decide +kernel) rfl, ki_X8_ruleOf, ks_X8_ruleOf, ini_LaneOrderModel, kc_X8_ruleOf, kd_X8_ruleOf⟩
theorem v_X8_169 : vOK "LaneOrderModel" 169 yX8_isAhead cX8_isAhead 4 (some .boolean) 2 := ⟨tb4 234 (by decide +kernel) rfl, ki_X8_isAhead, ks_X8_isAhead, ini_LaneOrderModel, kc_X8_isAhead, kd_X8_isAhead⟩
theorem v_X8_175 : vOK "LaneOrderModel" 175 yX8_append cX8_append 3 none 1 := ⟨tb5 10 (by decide +kernel) rfl, ki_X8_append, ks_X8_append, ini_LaneOrderModel, kc_X8_append, kd_X8_append⟩
theorem v_X8_179 : vOK "LaneOrderModel" 179 yX8_layBound cX8_layBound 7 (some .int) 1 := ⟨tb4 207 (by decide +kernel) rfl, ki_X8_layBound, ks_X8_layBound, ini_LaneOrderModel, kc_X8_layBound, kd_X8_layBound⟩
theorem v_X8_185 : vOK "LaneOrderModel" 185 yX8_layLane cX8_layLane 6 none 1 := ⟨tb4 218 (by decide +kernel) rfl, ki_X8_layLane, ks_X8_layLane, ini_LaneOrderModel, kc_X8_layLane, kd_X8_layLane⟩
theorem v_X8_188 : vOK "LaneOrderModel" 188 yX8_layLeaf cX8_layLeaf 6 none 2 := ⟨tb4 230 (by decide +kernel) rfl, ki_X8_layLeaf, ks_X8_layLeaf, ini_LaneOrderModel, kc_X8_layLeaf, kd_X8_layLeaf⟩
theorem v_X8_192 : vOK "LaneOrderModel" 192 yX8_firstSide cX8_firstSide 4 (some .int) 1 := ⟨tb5 14 (by decide +kernel) rfl, ki_X8_firstSide, ks_X8_firstSide, ini_LaneOrderModel, kc_X8_firstSide, kd_X8_firstSide⟩
theorem v_X8_195 : sOK "LaneOrderModel" 195 yX8_ones cX8_ones 3 (some .int) 1 := ⟨tb5 18 (by decide +kernel) rfl, ki_X8_ones, ini_LaneOrderModel, kc_X8_ones, kd_X8_ones⟩
theorem v_X8_198 : vOK "LaneOrderModel" 198 yX8_layOrder cX8_layOrder 7 none 1 := ⟨tb4 203 (by decide +kernel) rfl, ki_X8_layOrder, ks_X8_layOrder, ini_LaneOrderModel, kc_X8_layOrder, kd_X8_layOrder⟩
theorem v_X8_201 : vOK "LaneOrderModel" 201 yX8_layAll cX8_layAll 1 none 0 := ⟨tb4 199 (by decide +kernel) rfl, ki_X8_layAll, ks_X8_layAll, ini_LaneOrderModel, kc_X8_layAll, kd_X8_layAll⟩
theorem v_X8_204 : vOK "LaneOrderModel" 204 yX8_placeOf cX8_placeOf 4 (some .int) 1 := ⟨tb5 21 (by decide +kernel) rfl, ki_X8_placeOf, ks_X8_placeOf, ini_LaneOrderModel, kc_X8_placeOf, kd_X8_placeOf⟩
theorem v_X8_207 : vOK "LaneOrderModel" 207 yX8_sortsOf cX8_sortsOf 5 (some .int) 1 := ⟨tb5 25 (by decide +kernel) rfl, ki_X8_sortsOf, ks_X8_sortsOf, ini_LaneOrderModel, kc_X8_sortsOf, kd_X8_sortsOf⟩
theorem v_X8_210 : vOK "LaneOrderModel" 210 yX8_askOf cX8_askOf 9 (some .int) 1 := ⟨tb5 32 (by decide +kernel) rfl, ki_X8_askOf, ks_X8_askOf, ini_LaneOrderModel, kc_X8_askOf, kd_X8_askOf⟩
theorem v_X8_213 : vOK "LaneOrderModel" 213 yX8_isBox cX8_isBox 2 (some .boolean) 1 := ⟨tb4 191 (by decide +kernel) rfl, ki_X8_isBox, ks_X8_isBox, ini_LaneOrderModel, kc_X8_isBox, kd_X8_isBox⟩
theorem v_X8_216 : vOK "LaneOrderModel" 216 yX8_tellBox cX8_tellBox 3 (some .int) 2 := ⟨tb4 195 (by decide +kernel) rfl, ki_X8_tellBox, ks_X8_tellBox, ini_LaneOrderModel, kc_X8_tellBox, kd_X8_tellBox⟩
theorem v_X8_221 : sOK "LaneOrderModel" 221 yX8_rankOf cX8_rankOf 3 (some .int) 3 := ⟨tb5 65 (by decide +kernel) rfl, ki_X8_rankOf, ini_LaneOrderModel, kc_X8_rankOf, kd_X8_rankOf⟩
theorem v_X8_224 : vOK "LaneOrderModel" 224 yX8_nextLane cX8_nextLane 12 (some .int) 2 := ⟨tb5 61 (by decide +kernel) rfl, ki_X8_nextLane, ks_X8_nextLane, ini_LaneOrderModel, kc_X8_nextLane, kd_X8_nextLane⟩
theorem v_X8_227 : vOK "LaneOrderModel" 227 yX8_laneOf cX8_laneOf 5 (some .int) 1 := ⟨tb5 57 (by decide +kernel) rfl, ki_X8_laneOf, ks_X8_laneOf, ini_LaneOrderModel, kc_X8_laneOf, kd_X8_laneOf⟩
theorem v_X8_232 : vOK "LaneOrderModel" 232 yX8_lacks cX8_lacks 1 (some .boolean) 0 := ⟨tb5 73 (by decide +kernel) rfl, ki_X8_lacks, ks_X8_lacks, ini_LaneOrderModel, kc_X8_lacks, kd_X8_lacks⟩
theorem v_X8_240 : vOK "LaneOrderModel" 240 yX8_shift cX8_shift 4 none 3 := ⟨tb5 87 (by decide +kernel) rfl, ki_X8_shift, ks_X8_shift, ini_LaneOrderModel, kc_X8_shift, kd_X8_shift⟩
theorem v_X8_244 : sOK "LaneOrderModel" 244 yX8_isRules cX8_isRules 4 (some .boolean) 1 := ⟨tb5 99 (by decide +kernel) rfl, ki_X8_isRules, ini_LaneOrderModel, kc_X8_isRules, kd_X8_isRules⟩
theorem v_X8_249 : vOK "LaneOrderModel" 249 yX8_greatest cX8_greatest 3 (some .int) 0 := ⟨tb5 107 (by decide +kernel) rfl, ki_X8_greatest, ks_X8_greatest, ini_LaneOrderModel, kc_X8_greatest, kd_X8_greatest⟩
theorem v_X8_252 : sOK "LaneOrderModel" 252 yX8_copy cX8_copy 3 none 2 := ⟨tb5 119 (by decide +kernel) rfl, ki_X8_copy, ini_LaneOrderModel, kc_X8_copy, kd_X8_copy⟩
theorem v_X8_256 : vOK "LaneOrderModel" 256 yX8_keepOrder cX8_keepOrder 1 none 0 := ⟨tb5 115 (by decide +kernel) rfl, ki_X8_keepOrder, ks_X8_keepOrder, ini_LaneOrderModel, kc_X8_keepOrder, kd_X8_keepOrder⟩
theorem v_X8_259 : vOK "LaneOrderModel" 259 yX8_isSameOrder cX8_isSameOrder 2 (some .boolean) 0 := ⟨tb5 126 (by decide +kernel) rfl, ki_X8_isSameOrder, ks_X8_isSameOrder, ini_LaneOrderModel, kc_X8_isSameOrder, kd_X8_isSameOrder⟩
theorem v_X8_262 : vOK "LaneOrderModel" 262 yX8_idleOf cX8_idleOf 5 (some .int) 0 := ⟨tb5 134 (by decide +kernel) rfl, ki_X8_idleOf, ks_X8_idleOf, ini_LaneOrderModel, kc_X8_idleOf, kd_X8_idleOf⟩
theorem v_X8_265 : vOK "LaneOrderModel" 265 yX8_freeOf cX8_freeOf 4 (some .int) 0 := ⟨tb5 142 (by decide +kernel) rfl, ki_X8_freeOf, ks_X8_freeOf, ini_LaneOrderModel, kc_X8_freeOf, kd_X8_freeOf⟩
theorem v_X8_270 : sOK "LaneOrderModel" 270 yX8_sortsBy cX8_sortsBy 1 (some .int) 1 := ⟨tb5 29 (by decide +kernel) rfl, ki_X8_sortsBy, ini_LaneOrderModel, kc_X8_sortsBy, kd_X8_sortsBy⟩
theorem v_X8_283 : vOK "LaneOrderModel" 283 yX8_draw cX8_draw 2 (some .int) 1 := ⟨tb5 165 (by decide +kernel) rfl, ki_X8_draw, ks_X8_draw, ini_LaneOrderModel, kc_X8_draw, kd_X8_draw⟩
theorem v_X8_290 : vOK "LaneOrderModel" 290 yX8_drawBox cX8_drawBox 2 none 1 := ⟨tb5 161 (by decide +kernel) rfl, ki_X8_drawBox, ks_X8_drawBox, ini_LaneOrderModel, kc_X8_drawBox, kd_X8_drawBox⟩
theorem v_X8_302 : vOK "LaneOrderModel" 302 yX8_boundMany cX8_boundMany 3 (some .int) 0 := ⟨tb5 189 (by decide +kernel) rfl, ki_X8_boundMany, ks_X8_boundMany, ini_LaneOrderModel, kc_X8_boundMany, kd_X8_boundMany⟩
theorem v_X8_305 : vOK "LaneOrderModel" 305 yX8_countOf cX8_countOf 2 (some .int) 1 := ⟨tb5 185 (by decide +kernel) rfl, ki_X8_countOf, ks_X8_countOf, ini_LaneOrderModel, kc_X8_countOf, kd_X8_countOf⟩
theorem v_X8_314 : vOK "LaneOrderModel" 314 yX8_say cX8_say 3 none 1 := ⟨tb5 202 (by decide +kernel) rfl, ki_X8_say, ks_X8_say, ini_LaneOrderModel, kc_X8_say, kd_X8_say⟩
theorem v_X8_320 : vOK "LaneOrderModel" 320 yX8_sayPage cX8_sayPage 3 none 0 := ⟨tb5 198 (by decide +kernel) rfl, ki_X8_sayPage, ks_X8_sayPage, ini_LaneOrderModel, kc_X8_sayPage, kd_X8_sayPage⟩
theorem v_J0_335 : vOK "java/lang/String" 335 yJ0_coder_7d493 cJ0_coder_7d493 1 (some .byte) 0 := ⟨tb2 69 (by decide +kernel) rfl, ki_J0_coder_7d493, ks_J0_coder_7d493, ini_java_lang_String, kc_J0_coder_7d493, kd_J0_coder_7d493⟩
theorem v_J0_492 : vOK "java/lang/String" 492 yJ0_isLatin1_aae02 cJ0_isLatin1_aae02 1 (some .boolean) 0 := ⟨tb2 59 (by decide +kernel) rfl, ki_J0_isLatin1_aae02, ks_J0_isLatin1_aae02, ini_java_lang_String, kc_J0_isLatin1_aae02, kd_J0_isLatin1_aae02⟩
theorem v_J0_505 : vOK "java/lang/String" 505 yJ0_length_8abf5 cJ0_length_8abf5 1 (some .int) 0 := ⟨tb2 65 (by decide +kernel) rfl, ki_J0_length_8abf5, ks_J0_length_8abf5, ini_java_lang_String, kc_J0_length_8abf5, kd_J0_length_8abf5⟩
theorem v_J0_633 : vOK "java/lang/String" 633 yJ0_indexOf_7cf53 cJ0_indexOf_7cf53 3 (some .int) 2 := ⟨tb2 55 (by decide +kernel) rfl, ki_J0_indexOf_7cf53, ks_J0_indexOf_7cf53, ini_java_lang_String, kc_J0_indexOf_7cf53, kd_J0_indexOf_7cf53⟩
theorem v_J0_637 : sOK "java/lang/String" 637 yJ1_indexOf_4cfef cJ1_indexOf_4cfef 4 (some .int) 4 := ⟨tb2 73 (by decide +kernel) rfl, ki_J1_indexOf_4cfef, ini_java_lang_StringLatin1, kc_J1_indexOf_4cfef, kd_J1_indexOf_4cfef⟩
theorem v_J0_640 : sOK "java/lang/String" 640 yJ2_indexOf_4cfef cJ2_indexOf_4cfef 4 (some .int) 4 := ⟨tb2 88 (by decide +kernel) rfl, ki_J2_indexOf_4cfef, ini_java_lang_StringUTF16, kc_J2_indexOf_4cfef, kd_J2_indexOf_4cfef⟩
theorem v_J0_1062 : sOK "java/lang/String" 1062 yJ3_checkFromToIndex_8c36e cJ3_checkFromToIndex_8c36e 4 (some .int) 4 := ⟨tb2 108 (by decide +kernel) rfl, ki_J3_checkFromToIndex_8c36e, ini_jdk_internal_util_Preconditions, kc_J3_checkFromToIndex_8c36e, kd_J3_checkFromToIndex_8c36e⟩
theorem kl_J1_38 : Cond.methodLink "java/lang/StringLatin1" 38 Lib.Math.min.name ∈ tb := tb2 82 (by decide +kernel) rfl
theorem v_J1_88 : sOK "java/lang/StringLatin1" 88 yJ1_canEncode_9a6ad cJ1_canEncode_9a6ad 1 (some .boolean) 1 := ⟨tb2 76 (by decide +kernel) rfl, ki_J1_canEncode_9a6ad, ini_java_lang_StringLatin1, kc_J1_canEncode_9a6ad, kd_J1_canEncode_9a6ad⟩
theorem kl_J1_92 : Cond.methodLink "java/lang/StringLatin1" 92 Lib.Math.max.name ∈ tb := tb2 79 (by decide +kernel) rfl
theorem v_J1_95 : sOK "java/lang/StringLatin1" 95 yJ1_indexOfChar_4cfef cJ1_indexOfChar_4cfef 6 (some .int) 4 := ⟨tb2 85 (by decide +kernel) rfl, ki_J1_indexOfChar_4cfef, ini_java_lang_StringLatin1, kc_J1_indexOfChar_4cfef, kd_J1_indexOfChar_4cfef⟩
theorem v_J2_48 : sOK "java/lang/StringUTF16" 48 yJ2_length_9d52b cJ2_length_9d52b 1 (some .int) 1 := ⟨tb2 100 (by decide +kernel) rfl, ki_J2_length_9d52b, ini_java_lang_StringUTF16, kc_J2_length_9d52b, kd_J2_length_9d52b⟩
theorem v_J2_71 : sOK "java/lang/StringUTF16" 71 yJ2_getChar_3b067 cJ2_getChar_3b067 2 (some .char) 2 := ⟨tb2 114 (by decide +kernel) rfl, ki_J2_getChar_3b067, ini_java_lang_StringUTF16, kc_J2_getChar_3b067, kd_J2_getChar_3b067⟩
theorem v_J2_96 : sOK "java/lang/StringUTF16" 96 yJ2_checkBoundsBeginEnd_d044e cJ2_checkBoundsBeginEnd_d044e 3 none 3 := ⟨tb2 97 (by decide +kernel) rfl, ki_J2_checkBoundsBeginEnd_d044e, ini_java_lang_StringUTF16, kc_J2_checkBoundsBeginEnd_d044e, kd_J2_checkBoundsBeginEnd_d044e⟩
theorem v_J2_157 : sOK "java/lang/StringUTF16" 157 yJ11_highSurrogate_5068e cJ11_highSurrogate_5068e 1 (some .char) 1 := ⟨tb2 129 (by decide +kernel) rfl, ki_J11_highSurrogate_5068e, ini_java_lang_Character, kc_J11_highSurrogate_5068e, kd_J11_highSurrogate_5068e⟩
theorem v_J2_161 : sOK "java/lang/StringUTF16" 161 yJ11_lowSurrogate_5068e cJ11_lowSurrogate_5068e 1 (some .char) 1 := ⟨tb2 133 (by decide +kernel) rfl, ki_J11_lowSurrogate_5068e, ini_java_lang_Character, kc_J11_lowSurrogate_5068e, kd_J11_lowSurrogate_5068e⟩
theorem v_J2_164 : sOK "java/lang/StringUTF16" 164 yJ11_isValidCodePoint_9a6ad cJ11_isValidCodePoint_9a6ad 2 (some .boolean) 1 := ⟨tb2 126 (by decide +kernel) rfl, ki_J11_isValidCodePoint_9a6ad, ini_java_lang_Character, kc_J11_isValidCodePoint_9a6ad, kd_J11_isValidCodePoint_9a6ad⟩
theorem kl_J2_183 : Cond.methodLink "java/lang/StringUTF16" 183 Lib.Math.min.name ∈ tb := tb2 92 (by decide +kernel) rfl
theorem kl_J2_224 : Cond.methodLink "java/lang/StringUTF16" 224 Lib.Math.max.name ∈ tb := tb2 91 (by decide +kernel) rfl
theorem v_J2_228 : sOK "java/lang/StringUTF16" 228 yJ2_indexOfChar_4cfef cJ2_indexOfChar_4cfef 4 (some .int) 4 := ⟨tb2 94 (by decide +kernel) rfl, ki_J2_indexOfChar_4cfef, ini_java_lang_StringUTF16, kc_J2_indexOfChar_4cfef, kd_J2_indexOfChar_4cfef⟩
theorem v_J2_232 : sOK "java/lang/StringUTF16" 232 yJ2_indexOfSupplementary_4cfef cJ2_indexOfSupplementary_4cfef 7 (some .int) 4 := ⟨tb2 123 (by decide +kernel) rfl, ki_J2_indexOfSupplementary_4cfef, ini_java_lang_StringUTF16, kc_J2_indexOfSupplementary_4cfef, kd_J2_indexOfSupplementary_4cfef⟩
theorem v_J2_241 : sOK "java/lang/StringUTF16" 241 yJ0_checkBoundsBeginEnd_23922 cJ0_checkBoundsBeginEnd_23922 3 none 3 := ⟨tb2 103 (by decide +kernel) rfl, ki_J0_checkBoundsBeginEnd_23922, ini_java_lang_String, kc_J0_checkBoundsBeginEnd_23922, kd_J0_checkBoundsBeginEnd_23922⟩
theorem v_J2_244 : sOK "java/lang/StringUTF16" 244 yJ2_indexOfCharUnsafe_4cfef cJ2_indexOfCharUnsafe_4cfef 5 (some .int) 4 := ⟨tb2 111 (by decide +kernel) rfl, ki_J2_indexOfCharUnsafe_4cfef, ini_java_lang_StringUTF16, kc_J2_indexOfCharUnsafe_4cfef, kd_J2_indexOfCharUnsafe_4cfef⟩
