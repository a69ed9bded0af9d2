theorem cs_tgm {w : Cond} (i : Nat) (h : tables_1[i]? = some w) (g : goodWord w = true) : w ∈ cs_TG := List.mem_filter.mpr ⟨List.mem_append_right _ (List.mem_of_getElem? h), g⟩
theorem cs_nwm {w : Cond} (i : Nat) (h : tables_1[i]? = some w) (g : isNest w = true) : w ∈ cs_NW := List.mem_filter.mpr ⟨List.mem_append_right _ (List.mem_of_getElem? h), g⟩
theorem cs_slm (y : MethodName) (n i : Nat) (h : lw_privs[i]? = some (y, n)) : Cond.selects y.cls y y ∈ cs_TG := List.mem_filter.mpr ⟨List.mem_append_left _ (List.mem_map.mpr ⟨(y, n), List.mem_of_getElem? h, rfl⟩), rfl⟩
theorem tw_1 : (Cond.initialized "CastOffs") ∈ cs_TG := cs_tgm 1 (by decide +kernel) rfl
theorem tw_2 : (Cond.initialized "CastOffs$Spit") ∈ cs_TG := cs_tgm 2 (by decide +kernel) rfl
theorem tw_3 : (Cond.initialized "CastOffs$Reader") ∈ cs_TG := cs_tgm 3 (by decide +kernel) rfl
theorem tw_4 : (Cond.initialized "CastOffs$Stock") ∈ cs_TG := cs_tgm 4 (by decide +kernel) rfl
theorem tw_5 : (Cond.initialized "CastOffs$Book") ∈ cs_TG := cs_tgm 5 (by decide +kernel) rfl
theorem tw_6 : (Cond.initialized "CastOffs$Chain") ∈ cs_TG := cs_tgm 6 (by decide +kernel) rfl
theorem tw_7 : (Cond.initialized "CastOffs$Rings") ∈ cs_TG := cs_tgm 7 (by decide +kernel) rfl
theorem tw_8 : (Cond.initialized "CastOffs$Turns") ∈ cs_TG := cs_tgm 8 (by decide +kernel) rfl
theorem tw_9 : (Cond.initialized "CastOffsModel") ∈ cs_TG := cs_tgm 9 (by decide +kernel) rfl
theorem tw_10 : (Cond.initialized "java/lang/Math") ∈ cs_TG := cs_tgm 10 (by decide +kernel) rfl
theorem tw_11 : (Cond.initialized "java/util/Arrays") ∈ cs_TG := cs_tgm 11 (by decide +kernel) rfl
theorem tw_16 : (Cond.initialized "java/lang/System") ∈ cs_TG := cs_tgm 16 (by decide +kernel) rfl
theorem tw_31 : (Cond.fieldLink "CastOffs$Spit" (24 : Nat) "CastOffs$Spit" "sorts" "I") ∈ cs_TG := cs_tgm 31 (by decide +kernel) rfl
theorem tn_32 : (Cond.fieldLinkNest "CastOffs$Reader" (65 : Nat) "CastOffs$Spit" "sorts" "I" "CastOffs") ∈ cs_NW := cs_nwm 32 (by decide +kernel) rfl
theorem tn_33 : (Cond.fieldLinkNest "CastOffs" (117 : Nat) "CastOffs$Spit" "sorts" "I" "CastOffs") ∈ cs_NW := cs_nwm 33 (by decide +kernel) rfl
theorem tn_34 : (Cond.fieldLinkNest "CastOffs$Stock" (98 : Nat) "CastOffs$Spit" "sorts" "I" "CastOffs") ∈ cs_NW := cs_nwm 34 (by decide +kernel) rfl
theorem tw_35 : (Cond.fieldLink "CastOffs$Spit" (28 : Nat) "CastOffs$Spit" "houses" "I") ∈ cs_TG := cs_tgm 35 (by decide +kernel) rfl
theorem tn_36 : (Cond.fieldLinkNest "CastOffs$Rings" (43 : Nat) "CastOffs$Spit" "houses" "I" "CastOffs") ∈ cs_NW := cs_nwm 36 (by decide +kernel) rfl
theorem tn_37 : (Cond.fieldLinkNest "CastOffs$Reader" (88 : Nat) "CastOffs$Spit" "houses" "I" "CastOffs") ∈ cs_NW := cs_nwm 37 (by decide +kernel) rfl
theorem tn_38 : (Cond.fieldLinkNest "CastOffs" (120 : Nat) "CastOffs$Spit" "houses" "I" "CastOffs") ∈ cs_NW := cs_nwm 38 (by decide +kernel) rfl
theorem tn_39 : (Cond.fieldLinkNest "CastOffs$Stock" (101 : Nat) "CastOffs$Spit" "houses" "I" "CastOffs") ∈ cs_NW := cs_nwm 39 (by decide +kernel) rfl
theorem tw_40 : (Cond.fieldLink "CastOffs$Spit" (31 : Nat) "CastOffs$Spit" "parts" "I") ∈ cs_TG := cs_tgm 40 (by decide +kernel) rfl
theorem tn_41 : (Cond.fieldLinkNest "CastOffs$Stock" (50 : Nat) "CastOffs$Spit" "parts" "I" "CastOffs") ∈ cs_NW := cs_nwm 41 (by decide +kernel) rfl
theorem tn_42 : (Cond.fieldLinkNest "CastOffs$Reader" (94 : Nat) "CastOffs$Spit" "parts" "I" "CastOffs") ∈ cs_NW := cs_nwm 42 (by decide +kernel) rfl
theorem tw_43 : (Cond.fieldLink "CastOffs$Spit" (9 : Nat) "CastOffs$Spit" "place" "[I") ∈ cs_TG := cs_tgm 43 (by decide +kernel) rfl
theorem tn_44 : (Cond.fieldLinkNest "CastOffs$Reader" (104 : Nat) "CastOffs$Spit" "place" "[I" "CastOffs") ∈ cs_NW := cs_nwm 44 (by decide +kernel) rfl
theorem tn_45 : (Cond.fieldLinkNest "CastOffs" (137 : Nat) "CastOffs$Spit" "place" "[I" "CastOffs") ∈ cs_NW := cs_nwm 45 (by decide +kernel) rfl
theorem tn_46 : (Cond.fieldLinkNest "CastOffs$Stock" (104 : Nat) "CastOffs$Spit" "place" "[I" "CastOffs") ∈ cs_NW := cs_nwm 46 (by decide +kernel) rfl
theorem tw_47 : (Cond.fieldLink "CastOffs$Spit" (15 : Nat) "CastOffs$Spit" "partSort" "[I") ∈ cs_TG := cs_tgm 47 (by decide +kernel) rfl
theorem tn_48 : (Cond.fieldLinkNest "CastOffs$Stock" (55 : Nat) "CastOffs$Spit" "partSort" "[I" "CastOffs") ∈ cs_NW := cs_nwm 48 (by decide +kernel) rfl
theorem tn_49 : (Cond.fieldLinkNest "CastOffs$Reader" (97 : Nat) "CastOffs$Spit" "partSort" "[I" "CastOffs") ∈ cs_NW := cs_nwm 49 (by decide +kernel) rfl
theorem tw_50 : (Cond.fieldLink "CastOffs$Spit" (18 : Nat) "CastOffs$Spit" "partHouse" "[I") ∈ cs_TG := cs_tgm 50 (by decide +kernel) rfl
theorem tn_51 : (Cond.fieldLinkNest "CastOffs$Stock" (58 : Nat) "CastOffs$Spit" "partHouse" "[I" "CastOffs") ∈ cs_NW := cs_nwm 51 (by decide +kernel) rfl
theorem tn_52 : (Cond.fieldLinkNest "CastOffs$Reader" (101 : Nat) "CastOffs$Spit" "partHouse" "[I" "CastOffs") ∈ cs_NW := cs_nwm 52 (by decide +kernel) rfl
theorem tw_53 : (Cond.fieldLink "CastOffs$Spit" (21 : Nat) "CastOffs$Spit" "worthTo" "[I") ∈ cs_TG := cs_tgm 53 (by decide +kernel) rfl
theorem tn_54 : (Cond.fieldLinkNest "CastOffs$Reader" (107 : Nat) "CastOffs$Spit" "worthTo" "[I" "CastOffs") ∈ cs_NW := cs_nwm 54 (by decide +kernel) rfl
theorem tw_78 : (Cond.fieldLink "CastOffs$Reader" (9 : Nat) "CastOffs$Reader" "text" "[C") ∈ cs_TG := cs_tgm 78 (by decide +kernel) rfl
theorem tw_79 : (Cond.fieldLink "CastOffs$Reader" (15 : Nat) "CastOffs$Reader" "draft" "LCastOffs$Spit;") ∈ cs_TG := cs_tgm 79 (by decide +kernel) rfl
theorem tw_80 : (Cond.fieldLink "CastOffs$Reader" (25 : Nat) "CastOffs$Reader" "length" "I") ∈ cs_TG := cs_tgm 80 (by decide +kernel) rfl
theorem tw_81 : (Cond.fieldLink "CastOffs$Reader" (29 : Nat) "CastOffs$Reader" "at" "I") ∈ cs_TG := cs_tgm 81 (by decide +kernel) rfl
theorem tw_82 : (Cond.fieldLink "CastOffs$Reader" (32 : Nat) "CastOffs$Reader" "worths" "I") ∈ cs_TG := cs_tgm 82 (by decide +kernel) rfl
theorem tw_83 : (Cond.fieldLink "CastOffs$Reader" (35 : Nat) "CastOffs$Reader" "pairsTold" "I") ∈ cs_TG := cs_tgm 83 (by decide +kernel) rfl
theorem tw_84 : (Cond.fieldLink "CastOffs$Reader" (38 : Nat) "CastOffs$Reader" "faultKind" "I") ∈ cs_TG := cs_tgm 84 (by decide +kernel) rfl
theorem tn_85 : (Cond.fieldLinkNest "CastOffs" (102 : Nat) "CastOffs$Reader" "faultKind" "I" "CastOffs") ∈ cs_NW := cs_nwm 85 (by decide +kernel) rfl
theorem tw_86 : (Cond.fieldLink "CastOffs$Reader" (41 : Nat) "CastOffs$Reader" "faultAt" "I") ∈ cs_TG := cs_tgm 86 (by decide +kernel) rfl
theorem tn_87 : (Cond.fieldLinkNest "CastOffs" (101 : Nat) "CastOffs$Reader" "faultAt" "I" "CastOffs") ∈ cs_NW := cs_nwm 87 (by decide +kernel) rfl
theorem tw_111 : (Cond.fieldLink "CastOffs$Stock" (33 : Nat) "CastOffs$Stock" "spit" "LCastOffs$Spit;") ∈ cs_TG := cs_tgm 111 (by decide +kernel) rfl
theorem tn_112 : (Cond.fieldLinkNest "CastOffs$Rings" (37 : Nat) "CastOffs$Stock" "spit" "LCastOffs$Spit;" "CastOffs") ∈ cs_NW := cs_nwm 112 (by decide +kernel) rfl
theorem tn_113 : (Cond.fieldLinkNest "CastOffs$Turns" (79 : Nat) "CastOffs$Stock" "spit" "LCastOffs$Spit;" "CastOffs") ∈ cs_NW := cs_nwm 113 (by decide +kernel) rfl
theorem tw_114 : (Cond.fieldLink "CastOffs$Stock" (37 : Nat) "CastOffs$Stock" "count" "I") ∈ cs_TG := cs_tgm 114 (by decide +kernel) rfl
theorem tn_115 : (Cond.fieldLinkNest "CastOffs$Turns" (46 : Nat) "CastOffs$Stock" "count" "I" "CastOffs") ∈ cs_NW := cs_nwm 115 (by decide +kernel) rfl
theorem tn_116 : (Cond.fieldLinkNest "CastOffs$Chain" (41 : Nat) "CastOffs$Stock" "count" "I" "CastOffs") ∈ cs_NW := cs_nwm 116 (by decide +kernel) rfl
theorem tn_117 : (Cond.fieldLinkNest "CastOffs" (114 : Nat) "CastOffs$Stock" "count" "I" "CastOffs") ∈ cs_NW := cs_nwm 117 (by decide +kernel) rfl
theorem tn_118 : (Cond.fieldLinkNest "CastOffs$Rings" (65 : Nat) "CastOffs$Stock" "count" "I" "CastOffs") ∈ cs_NW := cs_nwm 118 (by decide +kernel) rfl
theorem tw_119 : (Cond.fieldLink "CastOffs$Stock" (41 : Nat) "CastOffs$Stock" "weeks" "I") ∈ cs_TG := cs_tgm 119 (by decide +kernel) rfl
theorem tn_120 : (Cond.fieldLinkNest "CastOffs" (123 : Nat) "CastOffs$Stock" "weeks" "I" "CastOffs") ∈ cs_NW := cs_nwm 120 (by decide +kernel) rfl
theorem tw_121 : (Cond.fieldLink "CastOffs$Stock" (65 : Nat) "CastOffs$Stock" "seedNow" "I") ∈ cs_TG := cs_tgm 121 (by decide +kernel) rfl
theorem tn_122 : (Cond.fieldLinkNest "CastOffs" (250 : Nat) "CastOffs$Stock" "seedNow" "I" "CastOffs") ∈ cs_NW := cs_nwm 122 (by decide +kernel) rfl
theorem tw_123 : (Cond.fieldLink "CastOffs$Stock" (82 : Nat) "CastOffs$Stock" "moves" "I") ∈ cs_TG := cs_tgm 123 (by decide +kernel) rfl
theorem tw_124 : (Cond.fieldLink "CastOffs$Stock" (9 : Nat) "CastOffs$Stock" "sort" "[I") ∈ cs_TG := cs_tgm 124 (by decide +kernel) rfl
theorem tn_125 : (Cond.fieldLinkNest "CastOffs$Chain" (29 : Nat) "CastOffs$Stock" "sort" "[I" "CastOffs") ∈ cs_NW := cs_nwm 125 (by decide +kernel) rfl
theorem tn_126 : (Cond.fieldLinkNest "CastOffs$Turns" (57 : Nat) "CastOffs$Stock" "sort" "[I" "CastOffs") ∈ cs_NW := cs_nwm 126 (by decide +kernel) rfl
theorem tn_127 : (Cond.fieldLinkNest "CastOffs$Rings" (68 : Nat) "CastOffs$Stock" "sort" "[I" "CastOffs") ∈ cs_NW := cs_nwm 127 (by decide +kernel) rfl
theorem tn_128 : (Cond.fieldLinkNest "CastOffs" (163 : Nat) "CastOffs$Stock" "sort" "[I" "CastOffs") ∈ cs_NW := cs_nwm 128 (by decide +kernel) rfl
theorem tw_129 : (Cond.fieldLink "CastOffs$Stock" (15 : Nat) "CastOffs$Stock" "owner" "[I") ∈ cs_TG := cs_tgm 129 (by decide +kernel) rfl
theorem tn_130 : (Cond.fieldLinkNest "CastOffs$Chain" (51 : Nat) "CastOffs$Stock" "owner" "[I" "CastOffs") ∈ cs_NW := cs_nwm 130 (by decide +kernel) rfl
theorem tn_131 : (Cond.fieldLinkNest "CastOffs$Rings" (71 : Nat) "CastOffs$Stock" "owner" "[I" "CastOffs") ∈ cs_NW := cs_nwm 131 (by decide +kernel) rfl
theorem tn_132 : (Cond.fieldLinkNest "CastOffs" (166 : Nat) "CastOffs$Stock" "owner" "[I" "CastOffs") ∈ cs_NW := cs_nwm 132 (by decide +kernel) rfl
theorem tw_133 : (Cond.fieldLink "CastOffs$Stock" (18 : Nat) "CastOffs$Stock" "yard" "[I") ∈ cs_TG := cs_tgm 133 (by decide +kernel) rfl
theorem tn_134 : (Cond.fieldLinkNest "CastOffs$Chain" (34 : Nat) "CastOffs$Stock" "yard" "[I" "CastOffs") ∈ cs_NW := cs_nwm 134 (by decide +kernel) rfl
theorem tn_135 : (Cond.fieldLinkNest "CastOffs$Turns" (54 : Nat) "CastOffs$Stock" "yard" "[I" "CastOffs") ∈ cs_NW := cs_nwm 135 (by decide +kernel) rfl
theorem tn_136 : (Cond.fieldLinkNest "CastOffs" (169 : Nat) "CastOffs$Stock" "yard" "[I" "CastOffs") ∈ cs_NW := cs_nwm 136 (by decide +kernel) rfl
theorem tw_137 : (Cond.fieldLink "CastOffs$Stock" (21 : Nat) "CastOffs$Stock" "handCount" "[I") ∈ cs_TG := cs_tgm 137 (by decide +kernel) rfl
theorem tn_138 : (Cond.fieldLinkNest "CastOffs" (172 : Nat) "CastOffs$Stock" "handCount" "[I" "CastOffs") ∈ cs_NW := cs_nwm 138 (by decide +kernel) rfl
theorem tw_139 : (Cond.fieldLink "CastOffs$Stock" (24 : Nat) "CastOffs$Stock" "handHouse" "[I") ∈ cs_TG := cs_tgm 139 (by decide +kernel) rfl
theorem tn_140 : (Cond.fieldLinkNest "CastOffs" (175 : Nat) "CastOffs$Stock" "handHouse" "[I" "CastOffs") ∈ cs_NW := cs_nwm 140 (by decide +kernel) rfl
theorem tw_141 : (Cond.fieldLink "CastOffs$Stock" (27 : Nat) "CastOffs$Stock" "held" "[I") ∈ cs_TG := cs_tgm 141 (by decide +kernel) rfl
theorem tn_142 : (Cond.fieldLinkNest "CastOffs$Turns" (31 : Nat) "CastOffs$Stock" "held" "[I" "CastOffs") ∈ cs_NW := cs_nwm 142 (by decide +kernel) rfl
theorem tn_143 : (Cond.fieldLinkNest "CastOffs" (140 : Nat) "CastOffs$Stock" "held" "[I" "CastOffs") ∈ cs_NW := cs_nwm 143 (by decide +kernel) rfl
theorem tw_144 : (Cond.fieldLink "CastOffs$Stock" (30 : Nat) "CastOffs$Stock" "heldOfSort" "[I") ∈ cs_TG := cs_tgm 144 (by decide +kernel) rfl
theorem tw_177 : (Cond.fieldLink "CastOffs$Book" (22 : Nat) "CastOffs$Book" "entries" "I") ∈ cs_TG := cs_tgm 177 (by decide +kernel) rfl
theorem tn_178 : (Cond.fieldLinkNest "CastOffs" (111 : Nat) "CastOffs$Book" "entries" "I" "CastOffs") ∈ cs_NW := cs_nwm 178 (by decide +kernel) rfl
theorem tw_179 : (Cond.fieldLink "CastOffs$Book" (9 : Nat) "CastOffs$Book" "house" "[I") ∈ cs_TG := cs_tgm 179 (by decide +kernel) rfl
theorem tw_180 : (Cond.fieldLink "CastOffs$Book" (15 : Nat) "CastOffs$Book" "part" "[I") ∈ cs_TG := cs_tgm 180 (by decide +kernel) rfl
theorem tw_181 : (Cond.fieldLink "CastOffs$Book" (18 : Nat) "CastOffs$Book" "took" "[Z") ∈ cs_TG := cs_tgm 181 (by decide +kernel) rfl
theorem tw_198 : (Cond.fieldLink "CastOffs$Chain" (18 : Nat) "CastOffs$Chain" "stock" "LCastOffs$Stock;") ∈ cs_TG := cs_tgm 198 (by decide +kernel) rfl
theorem tw_199 : (Cond.fieldLink "CastOffs$Chain" (9 : Nat) "CastOffs$Chain" "swapsTo" "[I") ∈ cs_TG := cs_tgm 199 (by decide +kernel) rfl
theorem tw_200 : (Cond.fieldLink "CastOffs$Chain" (15 : Nat) "CastOffs$Chain" "queue" "[I") ∈ cs_TG := cs_tgm 200 (by decide +kernel) rfl
theorem tw_201 : (Cond.fieldLink "CastOffs$Chain" (25 : Nat) "CastOffs$Chain" "queued" "I") ∈ cs_TG := cs_tgm 201 (by decide +kernel) rfl
theorem tw_217 : (Cond.fieldLink "CastOffs$Rings" (33 : Nat) "CastOffs$Rings" "stock" "LCastOffs$Stock;") ∈ cs_TG := cs_tgm 217 (by decide +kernel) rfl
theorem tw_218 : (Cond.fieldLink "CastOffs$Rings" (49 : Nat) "CastOffs$Rings" "houses" "I") ∈ cs_TG := cs_tgm 218 (by decide +kernel) rfl
theorem tw_219 : (Cond.fieldLink "CastOffs$Rings" (50 : Nat) "CastOffs$Rings" "bestSum" "I") ∈ cs_TG := cs_tgm 219 (by decide +kernel) rfl
theorem tn_220 : (Cond.fieldLinkNest "CastOffs" (214 : Nat) "CastOffs$Rings" "bestSum" "I" "CastOffs") ∈ cs_NW := cs_nwm 220 (by decide +kernel) rfl
theorem tw_221 : (Cond.fieldLink "CastOffs$Rings" (9 : Nat) "CastOffs$Rings" "giver" "[I") ∈ cs_TG := cs_tgm 221 (by decide +kernel) rfl
theorem tw_222 : (Cond.fieldLink "CastOffs$Rings" (15 : Nat) "CastOffs$Rings" "thrown" "[I") ∈ cs_TG := cs_tgm 222 (by decide +kernel) rfl
theorem tw_223 : (Cond.fieldLink "CastOffs$Rings" (18 : Nat) "CastOffs$Rings" "bestGiver" "[I") ∈ cs_TG := cs_tgm 223 (by decide +kernel) rfl
theorem tw_224 : (Cond.fieldLink "CastOffs$Rings" (21 : Nat) "CastOffs$Rings" "bestThrown" "[I") ∈ cs_TG := cs_tgm 224 (by decide +kernel) rfl
theorem tn_225 : (Cond.fieldLinkNest "CastOffs" (217 : Nat) "CastOffs$Rings" "bestThrown" "[I" "CastOffs") ∈ cs_NW := cs_nwm 225 (by decide +kernel) rfl
theorem tw_226 : (Cond.fieldLink "CastOffs$Rings" (24 : Nat) "CastOffs$Rings" "choices" "[I") ∈ cs_TG := cs_tgm 226 (by decide +kernel) rfl
theorem tw_227 : (Cond.fieldLink "CastOffs$Rings" (27 : Nat) "CastOffs$Rings" "choiceCount" "[I") ∈ cs_TG := cs_tgm 227 (by decide +kernel) rfl
theorem tw_228 : (Cond.fieldLink "CastOffs$Rings" (30 : Nat) "CastOffs$Rings" "mostFrom" "[I") ∈ cs_TG := cs_tgm 228 (by decide +kernel) rfl
theorem tw_256 : (Cond.fieldLink "CastOffs$Turns" (27 : Nat) "CastOffs$Turns" "stock" "LCastOffs$Stock;") ∈ cs_TG := cs_tgm 256 (by decide +kernel) rfl
theorem tw_257 : (Cond.fieldLink "CastOffs$Turns" (9 : Nat) "CastOffs$Turns" "player" "[I") ∈ cs_TG := cs_tgm 257 (by decide +kernel) rfl
theorem tw_258 : (Cond.fieldLink "CastOffs$Turns" (15 : Nat) "CastOffs$Turns" "room" "[I") ∈ cs_TG := cs_tgm 258 (by decide +kernel) rfl
theorem tw_259 : (Cond.fieldLink "CastOffs$Turns" (18 : Nat) "CastOffs$Turns" "had" "[I") ∈ cs_TG := cs_tgm 259 (by decide +kernel) rfl
theorem tw_260 : (Cond.fieldLink "CastOffs$Turns" (21 : Nat) "CastOffs$Turns" "left" "[I") ∈ cs_TG := cs_tgm 260 (by decide +kernel) rfl
theorem tw_261 : (Cond.fieldLink "CastOffs$Turns" (24 : Nat) "CastOffs$Turns" "leastPart" "[I") ∈ cs_TG := cs_tgm 261 (by decide +kernel) rfl
theorem tw_262 : (Cond.fieldLink "CastOffs$Turns" (63 : Nat) "CastOffs$Turns" "partTakenFirst" "I") ∈ cs_TG := cs_tgm 262 (by decide +kernel) rfl
theorem tn_263 : (Cond.fieldLinkNest "CastOffs" (239 : Nat) "CastOffs$Turns" "partTakenFirst" "I" "CastOffs") ∈ cs_NW := cs_nwm 263 (by decide +kernel) rfl
theorem tw_279 : (Cond.fieldLink "CastOffs" (9 : Nat) "CastOffs" "text" "[C") ∈ cs_TG := cs_tgm 279 (by decide +kernel) rfl
theorem tw_280 : (Cond.fieldLink "CastOffs" (91 : Nat) "CastOffs" "textLength" "I") ∈ cs_TG := cs_tgm 280 (by decide +kernel) rfl
theorem tw_281 : (Cond.fieldLink "CastOffs" (13 : Nat) "CastOffs" "faultAt" "I") ∈ cs_TG := cs_tgm 281 (by decide +kernel) rfl
theorem tw_282 : (Cond.fieldLink "CastOffs" (20 : Nat) "CastOffs" "shoreline" "LCastOffs$Spit;") ∈ cs_TG := cs_tgm 282 (by decide +kernel) rfl
theorem tw_283 : (Cond.fieldLink "CastOffs" (24 : Nat) "CastOffs" "draft" "LCastOffs$Spit;") ∈ cs_TG := cs_tgm 283 (by decide +kernel) rfl
theorem tw_284 : (Cond.fieldLink "CastOffs" (32 : Nat) "CastOffs" "reader" "LCastOffs$Reader;") ∈ cs_TG := cs_tgm 284 (by decide +kernel) rfl
theorem tw_285 : (Cond.fieldLink "CastOffs" (41 : Nat) "CastOffs" "now" "LCastOffs$Stock;") ∈ cs_TG := cs_tgm 285 (by decide +kernel) rfl
theorem tw_286 : (Cond.fieldLink "CastOffs" (45 : Nat) "CastOffs" "trial" "LCastOffs$Stock;") ∈ cs_TG := cs_tgm 286 (by decide +kernel) rfl
theorem tw_287 : (Cond.fieldLink "CastOffs" (48 : Nat) "CastOffs" "images" "[LCastOffs$Stock;") ∈ cs_TG := cs_tgm 287 (by decide +kernel) rfl
theorem tw_288 : (Cond.fieldLink "CastOffs" (52 : Nat) "CastOffs" "kept" "[Z") ∈ cs_TG := cs_tgm 288 (by decide +kernel) rfl
theorem tw_289 : (Cond.fieldLink "CastOffs" (59 : Nat) "CastOffs" "book" "LCastOffs$Book;") ∈ cs_TG := cs_tgm 289 (by decide +kernel) rfl
theorem tw_290 : (Cond.fieldLink "CastOffs" (68 : Nat) "CastOffs" "swaps" "LCastOffs$Chain;") ∈ cs_TG := cs_tgm 290 (by decide +kernel) rfl
theorem tw_291 : (Cond.fieldLink "CastOffs" (75 : Nat) "CastOffs" "ringSearch" "LCastOffs$Rings;") ∈ cs_TG := cs_tgm 291 (by decide +kernel) rfl
theorem tw_292 : (Cond.fieldLink "CastOffs" (82 : Nat) "CastOffs" "game" "LCastOffs$Turns;") ∈ cs_TG := cs_tgm 292 (by decide +kernel) rfl
theorem tw_293 : (Cond.fieldLink "CastOffs" (86 : Nat) "CastOffs" "wealthWithout" "[I") ∈ cs_TG := cs_tgm 293 (by decide +kernel) rfl
theorem tw_325 : (Cond.methodLink "CastOffsLaw" (15 : Nat) ({ cls := "CastOffs", name := "feed", desc := "(IJ)I" } : MethodName)) ∈ cs_TG := cs_tgm 325 (by decide +kernel) rfl
theorem tw_326 : (Cond.instanceMethod ({ cls := "CastOffs", name := "feed", desc := "(IJ)I" } : MethodName)) ∈ cs_TG := cs_tgm 326 (by decide +kernel) rfl
theorem tw_327 : (Cond.selects "CastOffs" ({ cls := "CastOffs", name := "feed", desc := "(IJ)I" } : MethodName) ({ cls := "CastOffs", name := "feed", desc := "(IJ)I" } : MethodName)) ∈ cs_TG := cs_tgm 327 (by decide +kernel) rfl
theorem tw_328 : (Cond.code ({ cls := "CastOffs", name := "feed", desc := "(IJ)I" } : MethodName) prog_1_method_2_code (5 : Nat) (Option.some FieldType.int)) ∈ cs_TG := cs_tgm 328 (by decide +kernel) rfl
theorem tw_329 : (Cond.constant "CastOffs" (90 : Nat) (-1000000002 : Int32)) ∈ cs_TG := cs_tgm 329 (by decide +kernel) rfl
theorem tw_330 : (Cond.constant "CastOffs" (94 : Nat) (-1000000004 : Int32)) ∈ cs_TG := cs_tgm 330 (by decide +kernel) rfl
theorem tw_331 : (Cond.constantLong "CastOffs" (95 : Nat) (255 : Int64)) ∈ cs_TG := cs_tgm 331 (by decide +kernel) rfl
theorem tw_332 : (Cond.methodLink "CastOffsLaw" (20 : Nat) ({ cls := "CastOffs", name := "spit", desc := "()I" } : MethodName)) ∈ cs_TG := cs_tgm 332 (by decide +kernel) rfl
theorem tw_333 : (Cond.instanceMethod ({ cls := "CastOffs", name := "spit", desc := "()I" } : MethodName)) ∈ cs_TG := cs_tgm 333 (by decide +kernel) rfl
theorem tw_334 : (Cond.selects "CastOffs" ({ cls := "CastOffs", name := "spit", desc := "()I" } : MethodName) ({ cls := "CastOffs", name := "spit", desc := "()I" } : MethodName)) ∈ cs_TG := cs_tgm 334 (by decide +kernel) rfl
theorem tw_335 : (Cond.code ({ cls := "CastOffs", name := "spit", desc := "()I" } : MethodName) prog_1_method_3_code (3 : Nat) (Option.some FieldType.int)) ∈ cs_TG := cs_tgm 335 (by decide +kernel) rfl
theorem tn_336 : (Cond.methodLinkNest "CastOffs" (97 : Nat) ({ cls := "CastOffs$Reader", name := "readText", desc := "(I)Z" } : MethodName) "CastOffs") ∈ cs_NW := cs_nwm 336 (by decide +kernel) rfl
theorem tw_338 : (Cond.instanceMethod ({ cls := "CastOffs$Reader", name := "readText", desc := "(I)Z" } : MethodName)) ∈ cs_TG := cs_tgm 338 (by decide +kernel) rfl
theorem tw_339 : (Cond.code ({ cls := "CastOffs$Reader", name := "readText", desc := "(I)Z" } : MethodName) prog_4_method_2_code (3 : Nat) (Option.some FieldType.boolean)) ∈ cs_TG := cs_tgm 339 (by decide +kernel) rfl
theorem tw_340 : (Cond.methodLink "CastOffs$Reader" (19 : Nat) ({ cls := "java/lang/Math", name := "min", desc := "(II)I" } : MethodName)) ∈ cs_TG := cs_tgm 340 (by decide +kernel) rfl
theorem tw_341 : (Cond.static ({ cls := "java/lang/Math", name := "min", desc := "(II)I" } : MethodName)) ∈ cs_TG := cs_tgm 341 (by decide +kernel) rfl
theorem tw_342 : (Cond.code ({ cls := "java/lang/Math", name := "min", desc := "(II)I" } : MethodName) prog_11_method_69_code (2 : Nat) (Option.some FieldType.int)) ∈ cs_TG := cs_tgm 342 (by decide +kernel) rfl
theorem tn_343 : (Cond.methodLinkNest "CastOffs$Reader" (44 : Nat) ({ cls := "CastOffs$Spit", name := "clear", desc := "()V" } : MethodName) "CastOffs") ∈ cs_NW := cs_nwm 343 (by decide +kernel) rfl
theorem tw_345 : (Cond.instanceMethod ({ cls := "CastOffs$Spit", name := "clear", desc := "()V" } : MethodName)) ∈ cs_TG := cs_tgm 345 (by decide +kernel) rfl
theorem tw_346 : (Cond.code ({ cls := "CastOffs$Spit", name := "clear", desc := "()V" } : MethodName) prog_6_method_2_code (1 : Nat) (Option.none : Option FieldType)) ∈ cs_TG := cs_tgm 346 (by decide +kernel) rfl
theorem tw_347 : (Cond.methodLink "CastOffs$Spit" (34 : Nat) ({ cls := "java/util/Arrays", name := "fill", desc := "([II)V" } : MethodName)) ∈ cs_TG := cs_tgm 347 (by decide +kernel) rfl
theorem tw_348 : (Cond.static ({ cls := "java/util/Arrays", name := "fill", desc := "([II)V" } : MethodName)) ∈ cs_TG := cs_tgm 348 (by decide +kernel) rfl
theorem tw_349 : (Cond.code ({ cls := "java/util/Arrays", name := "fill", desc := "([II)V" } : MethodName) prog_16_method_103_code (4 : Nat) (Option.none : Option FieldType)) ∈ cs_TG := cs_tgm 349 (by decide +kernel) rfl
theorem tw_350 : (Cond.methodLink "CastOffs$Reader" (49 : Nat) ({ cls := "CastOffs$Reader", name := "skipBlanks", desc := "()V" } : MethodName)) ∈ cs_TG := cs_tgm 350 (by decide +kernel) rfl
theorem tw_352 : (Cond.instanceMethod ({ cls := "CastOffs$Reader", name := "skipBlanks", desc := "()V" } : MethodName)) ∈ cs_TG := cs_tgm 352 (by decide +kernel) rfl
theorem tw_353 : (Cond.code ({ cls := "CastOffs$Reader", name := "skipBlanks", desc := "()V" } : MethodName) prog_4_method_10_code (1 : Nat) (Option.none : Option FieldType)) ∈ cs_TG := cs_tgm 353 (by decide +kernel) rfl
theorem tw_354 : (Cond.methodLink "CastOffs$Reader" (52 : Nat) ({ cls := "CastOffs$Reader", name := "readClause", desc := "()V" } : MethodName)) ∈ cs_TG := cs_tgm 354 (by decide +kernel) rfl
theorem tw_356 : (Cond.instanceMethod ({ cls := "CastOffs$Reader", name := "readClause", desc := "()V" } : MethodName)) ∈ cs_TG := cs_tgm 356 (by decide +kernel) rfl
theorem tw_357 : (Cond.code ({ cls := "CastOffs$Reader", name := "readClause", desc := "()V" } : MethodName) prog_4_method_3_code (2 : Nat) (Option.none : Option FieldType)) ∈ cs_TG := cs_tgm 357 (by decide +kernel) rfl
theorem tw_359 : (Cond.methodLink "CastOffs$Reader" (57 : Nat) ({ cls := "CastOffs$Reader", name := "isWord", desc := "(Ljava/lang/String;I)Z" } : MethodName)) ∈ cs_TG := cs_tgm 359 (by decide +kernel) rfl
theorem tw_361 : (Cond.instanceMethod ({ cls := "CastOffs$Reader", name := "isWord", desc := "(Ljava/lang/String;I)Z" } : MethodName)) ∈ cs_TG := cs_tgm 361 (by decide +kernel) rfl
theorem tw_362 : (Cond.code ({ cls := "CastOffs$Reader", name := "isWord", desc := "(Ljava/lang/String;I)Z" } : MethodName) prog_4_method_12_code (4 : Nat) (Option.some FieldType.boolean)) ∈ cs_TG := cs_tgm 362 (by decide +kernel) rfl
theorem tw_411 : (Cond.methodLink "CastOffs$Reader" (61 : Nat) ({ cls := "CastOffs$Reader", name := "readSorts", desc := "(I)V" } : MethodName)) ∈ cs_TG := cs_tgm 411 (by decide +kernel) rfl
theorem tw_413 : (Cond.instanceMethod ({ cls := "CastOffs$Reader", name := "readSorts", desc := "(I)V" } : MethodName)) ∈ cs_TG := cs_tgm 413 (by decide +kernel) rfl
theorem tw_414 : (Cond.code ({ cls := "CastOffs$Reader", name := "readSorts", desc := "(I)V" } : MethodName) prog_4_method_4_code (3 : Nat) (Option.none : Option FieldType)) ∈ cs_TG := cs_tgm 414 (by decide +kernel) rfl
theorem tw_415 : (Cond.methodLink "CastOffs$Reader" (77 : Nat) ({ cls := "CastOffs$Reader", name := "fail", desc := "(II)V" } : MethodName)) ∈ cs_TG := cs_tgm 415 (by decide +kernel) rfl
theorem tw_417 : (Cond.instanceMethod ({ cls := "CastOffs$Reader", name := "fail", desc := "(II)V" } : MethodName)) ∈ cs_TG := cs_tgm 417 (by decide +kernel) rfl
theorem tw_418 : (Cond.code ({ cls := "CastOffs$Reader", name := "fail", desc := "(II)V" } : MethodName) prog_4_method_13_code (3 : Nat) (Option.none : Option FieldType)) ∈ cs_TG := cs_tgm 418 (by decide +kernel) rfl
theorem tw_419 : (Cond.methodLink "CastOffs$Reader" (81 : Nat) ({ cls := "CastOffs$Reader", name := "readNumber", desc := "(II)I" } : MethodName)) ∈ cs_TG := cs_tgm 419 (by decide +kernel) rfl
theorem tw_421 : (Cond.instanceMethod ({ cls := "CastOffs$Reader", name := "readNumber", desc := "(II)I" } : MethodName)) ∈ cs_TG := cs_tgm 421 (by decide +kernel) rfl
theorem tw_422 : (Cond.code ({ cls := "CastOffs$Reader", name := "readNumber", desc := "(II)I" } : MethodName) prog_4_method_7_code (5 : Nat) (Option.some FieldType.int)) ∈ cs_TG := cs_tgm 422 (by decide +kernel) rfl
theorem tw_423 : (Cond.methodLink "CastOffs$Reader" (91 : Nat) ({ cls := "CastOffs$Reader", name := "numberFollows", desc := "()Z" } : MethodName)) ∈ cs_TG := cs_tgm 423 (by decide +kernel) rfl
theorem tw_425 : (Cond.instanceMethod ({ cls := "CastOffs$Reader", name := "numberFollows", desc := "()Z" } : MethodName)) ∈ cs_TG := cs_tgm 425 (by decide +kernel) rfl
theorem tw_426 : (Cond.code ({ cls := "CastOffs$Reader", name := "numberFollows", desc := "()Z" } : MethodName) prog_4_method_9_code (1 : Nat) (Option.some FieldType.boolean)) ∈ cs_TG := cs_tgm 426 (by decide +kernel) rfl
theorem tw_427 : (Cond.methodLink "CastOffs$Reader" (110 : Nat) ({ cls := "CastOffs$Reader", name := "isFigure", desc := "(C)Z" } : MethodName)) ∈ cs_TG := cs_tgm 427 (by decide +kernel) rfl
theorem tw_428 : (Cond.static ({ cls := "CastOffs$Reader", name := "isFigure", desc := "(C)Z" } : MethodName)) ∈ cs_TG := cs_tgm 428 (by decide +kernel) rfl
theorem tw_429 : (Cond.code ({ cls := "CastOffs$Reader", name := "isFigure", desc := "(C)Z" } : MethodName) prog_4_method_11_code (1 : Nat) (Option.some FieldType.boolean)) ∈ cs_TG := cs_tgm 429 (by decide +kernel) rfl
theorem tw_430 : (Cond.methodLink "CastOffs$Reader" (84 : Nat) ({ cls := "CastOffs$Reader", name := "readEnd", desc := "()Z" } : MethodName)) ∈ cs_TG := cs_tgm 430 (by decide +kernel) rfl
theorem tw_432 : (Cond.instanceMethod ({ cls := "CastOffs$Reader", name := "readEnd", desc := "()Z" } : MethodName)) ∈ cs_TG := cs_tgm 432 (by decide +kernel) rfl
theorem tw_433 : (Cond.code ({ cls := "CastOffs$Reader", name := "readEnd", desc := "()Z" } : MethodName) prog_4_method_8_code (1 : Nat) (Option.some FieldType.boolean)) ∈ cs_TG := cs_tgm 433 (by decide +kernel) rfl
theorem tw_435 : (Cond.methodLink "CastOffs$Reader" (69 : Nat) ({ cls := "CastOffs$Reader", name := "readHouse", desc := "(I)V" } : MethodName)) ∈ cs_TG := cs_tgm 435 (by decide +kernel) rfl
theorem tw_437 : (Cond.instanceMethod ({ cls := "CastOffs$Reader", name := "readHouse", desc := "(I)V" } : MethodName)) ∈ cs_TG := cs_tgm 437 (by decide +kernel) rfl
theorem tw_438 : (Cond.code ({ cls := "CastOffs$Reader", name := "readHouse", desc := "(I)V" } : MethodName) prog_4_method_5_code (6 : Nat) (Option.none : Option FieldType)) ∈ cs_TG := cs_tgm 438 (by decide +kernel) rfl
theorem tw_440 : (Cond.methodLink "CastOffs$Reader" (74 : Nat) ({ cls := "CastOffs$Reader", name := "readWorth", desc := "(I)V" } : MethodName)) ∈ cs_TG := cs_tgm 440 (by decide +kernel) rfl
theorem tw_442 : (Cond.instanceMethod ({ cls := "CastOffs$Reader", name := "readWorth", desc := "(I)V" } : MethodName)) ∈ cs_TG := cs_tgm 442 (by decide +kernel) rfl
theorem tw_443 : (Cond.code ({ cls := "CastOffs$Reader", name := "readWorth", desc := "(I)V" } : MethodName) prog_4_method_6_code (7 : Nat) (Option.none : Option FieldType)) ∈ cs_TG := cs_tgm 443 (by decide +kernel) rfl
theorem tn_444 : (Cond.methodLinkNest "CastOffs" (105 : Nat) ({ cls := "CastOffs$Spit", name := "copyFrom", desc := "(LCastOffs$Spit;)V" } : MethodName) "CastOffs") ∈ cs_NW := cs_nwm 444 (by decide +kernel) rfl
theorem tw_446 : (Cond.instanceMethod ({ cls := "CastOffs$Spit", name := "copyFrom", desc := "(LCastOffs$Spit;)V" } : MethodName)) ∈ cs_TG := cs_tgm 446 (by decide +kernel) rfl
theorem tw_447 : (Cond.code ({ cls := "CastOffs$Spit", name := "copyFrom", desc := "(LCastOffs$Spit;)V" } : MethodName) prog_6_method_3_code (2 : Nat) (Option.none : Option FieldType)) ∈ cs_TG := cs_tgm 447 (by decide +kernel) rfl
theorem tw_448 : (Cond.methodLink "CastOffs$Spit" (40 : Nat) ({ cls := "java/lang/System", name := "arraycopy", desc := "(Ljava/lang/Object;ILjava/lang/Object;II)V" } : MethodName)) ∈ cs_TG := cs_tgm 448 (by decide +kernel) rfl
theorem tw_449 : (Cond.static ({ cls := "java/lang/System", name := "arraycopy", desc := "(Ljava/lang/Object;ILjava/lang/Object;II)V" } : MethodName)) ∈ cs_TG := cs_tgm 449 (by decide +kernel) rfl
theorem tw_450 : (Cond.native ({ cls := "java/lang/System", name := "arraycopy", desc := "(Ljava/lang/Object;ILjava/lang/Object;II)V" } : MethodName)) ∈ cs_TG := cs_tgm 450 (by decide +kernel) rfl
theorem tn_451 : (Cond.methodLinkNest "CastOffs" (108 : Nat) ({ cls := "CastOffs$Stock", name := "layOut", desc := "()V" } : MethodName) "CastOffs") ∈ cs_NW := cs_nwm 451 (by decide +kernel) rfl
theorem tw_453 : (Cond.instanceMethod ({ cls := "CastOffs$Stock", name := "layOut", desc := "()V" } : MethodName)) ∈ cs_TG := cs_tgm 453 (by decide +kernel) rfl
theorem tw_454 : (Cond.code ({ cls := "CastOffs$Stock", name := "layOut", desc := "()V" } : MethodName) prog_7_method_2_code (2 : Nat) (Option.none : Option FieldType)) ∈ cs_TG := cs_tgm 454 (by decide +kernel) rfl
theorem tw_455 : (Cond.methodLink "CastOffs$Stock" (44 : Nat) ({ cls := "java/util/Arrays", name := "fill", desc := "([II)V" } : MethodName)) ∈ cs_TG := cs_tgm 455 (by decide +kernel) rfl
theorem tw_456 : (Cond.methodLink "CastOffs$Stock" (61 : Nat) ({ cls := "CastOffs$Stock", name := "addPart", desc := "(II)Z" } : MethodName)) ∈ cs_TG := cs_tgm 456 (by decide +kernel) rfl
theorem tw_458 : (Cond.instanceMethod ({ cls := "CastOffs$Stock", name := "addPart", desc := "(II)Z" } : MethodName)) ∈ cs_TG := cs_tgm 458 (by decide +kernel) rfl
theorem tw_459 : (Cond.code ({ cls := "CastOffs$Stock", name := "addPart", desc := "(II)Z" } : MethodName) prog_7_method_7_code (4 : Nat) (Option.some FieldType.boolean)) ∈ cs_TG := cs_tgm 459 (by decide +kernel) rfl
theorem tw_460 : (Cond.methodLink "CastOffs$Stock" (78 : Nat) ({ cls := "CastOffs$Stock", name := "handOver", desc := "(II)V" } : MethodName)) ∈ cs_TG := cs_tgm 460 (by decide +kernel) rfl
theorem tw_462 : (Cond.instanceMethod ({ cls := "CastOffs$Stock", name := "handOver", desc := "(II)V" } : MethodName)) ∈ cs_TG := cs_tgm 462 (by decide +kernel) rfl
theorem tw_463 : (Cond.code ({ cls := "CastOffs$Stock", name := "handOver", desc := "(II)V" } : MethodName) prog_7_method_10_code (3 : Nat) (Option.none : Option FieldType)) ∈ cs_TG := cs_tgm 463 (by decide +kernel) rfl
theorem tw_465 : (Cond.methodLink "CastOffsLaw" (25 : Nat) ({ cls := "CastOffs", name := "fault", desc := "()I" } : MethodName)) ∈ cs_TG := cs_tgm 465 (by decide +kernel) rfl
theorem tw_466 : (Cond.instanceMethod ({ cls := "CastOffs", name := "fault", desc := "()I" } : MethodName)) ∈ cs_TG := cs_tgm 466 (by decide +kernel) rfl
theorem tw_467 : (Cond.selects "CastOffs" ({ cls := "CastOffs", name := "fault", desc := "()I" } : MethodName) ({ cls := "CastOffs", name := "fault", desc := "()I" } : MethodName)) ∈ cs_TG := cs_tgm 467 (by decide +kernel) rfl
theorem tw_468 : (Cond.code ({ cls := "CastOffs", name := "fault", desc := "()I" } : MethodName) prog_1_method_4_code (1 : Nat) (Option.some FieldType.int)) ∈ cs_TG := cs_tgm 468 (by decide +kernel) rfl
theorem tw_469 : (Cond.methodLink "CastOffsLaw" (29 : Nat) ({ cls := "CastOffs", name := "told", desc := "(I)I" } : MethodName)) ∈ cs_TG := cs_tgm 469 (by decide +kernel) rfl
theorem tw_470 : (Cond.instanceMethod ({ cls := "CastOffs", name := "told", desc := "(I)I" } : MethodName)) ∈ cs_TG := cs_tgm 470 (by decide +kernel) rfl
theorem tw_471 : (Cond.selects "CastOffs" ({ cls := "CastOffs", name := "told", desc := "(I)I" } : MethodName) ({ cls := "CastOffs", name := "told", desc := "(I)I" } : MethodName)) ∈ cs_TG := cs_tgm 471 (by decide +kernel) rfl
theorem tw_472 : (Cond.code ({ cls := "CastOffs", name := "told", desc := "(I)I" } : MethodName) prog_1_method_5_code (2 : Nat) (Option.some FieldType.int)) ∈ cs_TG := cs_tgm 472 (by decide +kernel) rfl
theorem tn_473 : (Cond.methodLinkNest "CastOffs" (126 : Nat) ({ cls := "CastOffs$Stock", name := "poorHouses", desc := "()I" } : MethodName) "CastOffs") ∈ cs_NW := cs_nwm 473 (by decide +kernel) rfl
theorem tw_475 : (Cond.instanceMethod ({ cls := "CastOffs$Stock", name := "poorHouses", desc := "()I" } : MethodName)) ∈ cs_TG := cs_tgm 475 (by decide +kernel) rfl
theorem tw_476 : (Cond.code ({ cls := "CastOffs$Stock", name := "poorHouses", desc := "()I" } : MethodName) prog_7_method_16_code (3 : Nat) (Option.some FieldType.int)) ∈ cs_TG := cs_tgm 476 (by decide +kernel) rfl
theorem tn_477 : (Cond.methodLinkNest "CastOffs" (130 : Nat) ({ cls := "CastOffs$Stock", name := "countLying", desc := "()I" } : MethodName) "CastOffs") ∈ cs_NW := cs_nwm 477 (by decide +kernel) rfl
theorem tw_479 : (Cond.instanceMethod ({ cls := "CastOffs$Stock", name := "countLying", desc := "()I" } : MethodName)) ∈ cs_TG := cs_tgm 479 (by decide +kernel) rfl
theorem tw_480 : (Cond.code ({ cls := "CastOffs$Stock", name := "countLying", desc := "()I" } : MethodName) prog_7_method_17_code (3 : Nat) (Option.some FieldType.int)) ∈ cs_TG := cs_tgm 480 (by decide +kernel) rfl
theorem tw_481 : (Cond.methodLink "CastOffs$Stock" (74 : Nat) ({ cls := "CastOffs$Stock", name := "lies", desc := "(I)Z" } : MethodName)) ∈ cs_TG := cs_tgm 481 (by decide +kernel) rfl
theorem tw_483 : (Cond.instanceMethod ({ cls := "CastOffs$Stock", name := "lies", desc := "(I)Z" } : MethodName)) ∈ cs_TG := cs_tgm 483 (by decide +kernel) rfl
theorem tw_484 : (Cond.code ({ cls := "CastOffs$Stock", name := "lies", desc := "(I)Z" } : MethodName) prog_7_method_5_code (2 : Nat) (Option.some FieldType.boolean)) ∈ cs_TG := cs_tgm 484 (by decide +kernel) rfl
theorem tw_485 : (Cond.methodLink "CastOffsLaw" (34 : Nat) ({ cls := "CastOffs", name := "house", desc := "(II)I" } : MethodName)) ∈ cs_TG := cs_tgm 485 (by decide +kernel) rfl
theorem tw_486 : (Cond.instanceMethod ({ cls := "CastOffs", name := "house", desc := "(II)I" } : MethodName)) ∈ cs_TG := cs_tgm 486 (by decide +kernel) rfl
theorem tw_487 : (Cond.selects "CastOffs" ({ cls := "CastOffs", name := "house", desc := "(II)I" } : MethodName) ({ cls := "CastOffs", name := "house", desc := "(II)I" } : MethodName)) ∈ cs_TG := cs_tgm 487 (by decide +kernel) rfl
theorem tw_488 : (Cond.code ({ cls := "CastOffs", name := "house", desc := "(II)I" } : MethodName) prog_1_method_6_code (3 : Nat) (Option.some FieldType.int)) ∈ cs_TG := cs_tgm 488 (by decide +kernel) rfl
theorem tn_489 : (Cond.methodLinkNest "CastOffs" (133 : Nat) ({ cls := "CastOffs$Spit", name := "isHouse", desc := "(I)Z" } : MethodName) "CastOffs") ∈ cs_NW := cs_nwm 489 (by decide +kernel) rfl
theorem tw_491 : (Cond.instanceMethod ({ cls := "CastOffs$Spit", name := "isHouse", desc := "(I)Z" } : MethodName)) ∈ cs_TG := cs_tgm 491 (by decide +kernel) rfl
theorem tw_492 : (Cond.code ({ cls := "CastOffs$Spit", name := "isHouse", desc := "(I)Z" } : MethodName) prog_6_method_4_code (2 : Nat) (Option.some FieldType.boolean)) ∈ cs_TG := cs_tgm 492 (by decide +kernel) rfl
theorem tw_493 : (Cond.constant "CastOffs" (136 : Nat) (-1000000001 : Int32)) ∈ cs_TG := cs_tgm 493 (by decide +kernel) rfl
theorem tn_494 : (Cond.methodLinkNest "CastOffs" (143 : Nat) ({ cls := "CastOffs$Stock", name := "wealthOf", desc := "(I)I" } : MethodName) "CastOffs") ∈ cs_NW := cs_nwm 494 (by decide +kernel) rfl
theorem tw_496 : (Cond.instanceMethod ({ cls := "CastOffs$Stock", name := "wealthOf", desc := "(I)I" } : MethodName)) ∈ cs_TG := cs_tgm 496 (by decide +kernel) rfl
theorem tw_497 : (Cond.code ({ cls := "CastOffs$Stock", name := "wealthOf", desc := "(I)I" } : MethodName) prog_7_method_14_code (4 : Nat) (Option.some FieldType.int)) ∈ cs_TG := cs_tgm 497 (by decide +kernel) rfl
theorem tn_498 : (Cond.methodLinkNest "CastOffs$Stock" (88 : Nat) ({ cls := "CastOffs$Spit", name := "worthOf", desc := "(II)I" } : MethodName) "CastOffs") ∈ cs_NW := cs_nwm 498 (by decide +kernel) rfl
theorem tw_500 : (Cond.instanceMethod ({ cls := "CastOffs$Spit", name := "worthOf", desc := "(II)I" } : MethodName)) ∈ cs_TG := cs_tgm 500 (by decide +kernel) rfl
theorem tw_501 : (Cond.code ({ cls := "CastOffs$Spit", name := "worthOf", desc := "(II)I" } : MethodName) prog_6_method_6_code (3 : Nat) (Option.some FieldType.int)) ∈ cs_TG := cs_tgm 501 (by decide +kernel) rfl
theorem tn_502 : (Cond.methodLinkNest "CastOffs" (147 : Nat) ({ cls := "CastOffs$Stock", name := "sortsHad", desc := "(I)I" } : MethodName) "CastOffs") ∈ cs_NW := cs_nwm 502 (by decide +kernel) rfl
theorem tw_504 : (Cond.instanceMethod ({ cls := "CastOffs$Stock", name := "sortsHad", desc := "(I)I" } : MethodName)) ∈ cs_TG := cs_tgm 504 (by decide +kernel) rfl
theorem tw_505 : (Cond.code ({ cls := "CastOffs$Stock", name := "sortsHad", desc := "(I)I" } : MethodName) prog_7_method_15_code (4 : Nat) (Option.some FieldType.int)) ∈ cs_TG := cs_tgm 505 (by decide +kernel) rfl
theorem tn_506 : (Cond.methodLinkNest "CastOffs" (150 : Nat) ({ cls := "CastOffs$Stock", name := "countInYard", desc := "(I)I" } : MethodName) "CastOffs") ∈ cs_NW := cs_nwm 506 (by decide +kernel) rfl
theorem tw_508 : (Cond.instanceMethod ({ cls := "CastOffs$Stock", name := "countInYard", desc := "(I)I" } : MethodName)) ∈ cs_TG := cs_tgm 508 (by decide +kernel) rfl
theorem tw_509 : (Cond.code ({ cls := "CastOffs$Stock", name := "countInYard", desc := "(I)I" } : MethodName) prog_7_method_18_code (4 : Nat) (Option.some FieldType.int)) ∈ cs_TG := cs_tgm 509 (by decide +kernel) rfl
theorem tw_510 : (Cond.methodLink "CastOffsLaw" (39 : Nat) ({ cls := "CastOffs", name := "worth", desc := "(II)I" } : MethodName)) ∈ cs_TG := cs_tgm 510 (by decide +kernel) rfl
theorem tw_511 : (Cond.instanceMethod ({ cls := "CastOffs", name := "worth", desc := "(II)I" } : MethodName)) ∈ cs_TG := cs_tgm 511 (by decide +kernel) rfl
theorem tw_512 : (Cond.selects "CastOffs" ({ cls := "CastOffs", name := "worth", desc := "(II)I" } : MethodName) ({ cls := "CastOffs", name := "worth", desc := "(II)I" } : MethodName)) ∈ cs_TG := cs_tgm 512 (by decide +kernel) rfl
theorem tw_513 : (Cond.code ({ cls := "CastOffs", name := "worth", desc := "(II)I" } : MethodName) prog_1_method_7_code (3 : Nat) (Option.some FieldType.int)) ∈ cs_TG := cs_tgm 513 (by decide +kernel) rfl
theorem tn_514 : (Cond.methodLinkNest "CastOffs" (153 : Nat) ({ cls := "CastOffs$Spit", name := "isSort", desc := "(I)Z" } : MethodName) "CastOffs") ∈ cs_NW := cs_nwm 514 (by decide +kernel) rfl
theorem tw_516 : (Cond.instanceMethod ({ cls := "CastOffs$Spit", name := "isSort", desc := "(I)Z" } : MethodName)) ∈ cs_TG := cs_tgm 516 (by decide +kernel) rfl
theorem tw_517 : (Cond.code ({ cls := "CastOffs$Spit", name := "isSort", desc := "(I)Z" } : MethodName) prog_6_method_5_code (2 : Nat) (Option.some FieldType.boolean)) ∈ cs_TG := cs_tgm 517 (by decide +kernel) rfl
theorem tn_518 : (Cond.methodLinkNest "CastOffs" (156 : Nat) ({ cls := "CastOffs$Spit", name := "worthOf", desc := "(II)I" } : MethodName) "CastOffs") ∈ cs_NW := cs_nwm 518 (by decide +kernel) rfl
theorem tw_519 : (Cond.methodLink "CastOffsLaw" (43 : Nat) ({ cls := "CastOffs", name := "part", desc := "(II)I" } : MethodName)) ∈ cs_TG := cs_tgm 519 (by decide +kernel) rfl
theorem tw_520 : (Cond.instanceMethod ({ cls := "CastOffs", name := "part", desc := "(II)I" } : MethodName)) ∈ cs_TG := cs_tgm 520 (by decide +kernel) rfl
theorem tw_521 : (Cond.selects "CastOffs" ({ cls := "CastOffs", name := "part", desc := "(II)I" } : MethodName) ({ cls := "CastOffs", name := "part", desc := "(II)I" } : MethodName)) ∈ cs_TG := cs_tgm 521 (by decide +kernel) rfl
theorem tw_522 : (Cond.code ({ cls := "CastOffs", name := "part", desc := "(II)I" } : MethodName) prog_1_method_8_code (3 : Nat) (Option.some FieldType.int)) ∈ cs_TG := cs_tgm 522 (by decide +kernel) rfl
theorem tn_523 : (Cond.methodLinkNest "CastOffs" (160 : Nat) ({ cls := "CastOffs$Stock", name := "isPart", desc := "(I)Z" } : MethodName) "CastOffs") ∈ cs_NW := cs_nwm 523 (by decide +kernel) rfl
theorem tw_525 : (Cond.instanceMethod ({ cls := "CastOffs$Stock", name := "isPart", desc := "(I)Z" } : MethodName)) ∈ cs_TG := cs_tgm 525 (by decide +kernel) rfl
theorem tw_526 : (Cond.code ({ cls := "CastOffs$Stock", name := "isPart", desc := "(I)Z" } : MethodName) prog_7_method_4_code (2 : Nat) (Option.some FieldType.boolean)) ∈ cs_TG := cs_tgm 526 (by decide +kernel) rfl
theorem tw_527 : (Cond.methodLink "CastOffsLaw" (47 : Nat) ({ cls := "CastOffs", name := "hand", desc := "(II)I" } : MethodName)) ∈ cs_TG := cs_tgm 527 (by decide +kernel) rfl
theorem tw_528 : (Cond.instanceMethod ({ cls := "CastOffs", name := "hand", desc := "(II)I" } : MethodName)) ∈ cs_TG := cs_tgm 528 (by decide +kernel) rfl
theorem tw_529 : (Cond.selects "CastOffs" ({ cls := "CastOffs", name := "hand", desc := "(II)I" } : MethodName) ({ cls := "CastOffs", name := "hand", desc := "(II)I" } : MethodName)) ∈ cs_TG := cs_tgm 529 (by decide +kernel) rfl
theorem tw_530 : (Cond.code ({ cls := "CastOffs", name := "hand", desc := "(II)I" } : MethodName) prog_1_method_9_code (3 : Nat) (Option.some FieldType.int)) ∈ cs_TG := cs_tgm 530 (by decide +kernel) rfl
theorem tw_531 : (Cond.methodLink "CastOffsLaw" (51 : Nat) ({ cls := "CastOffs", name := "toss", desc := "(II)I" } : MethodName)) ∈ cs_TG := cs_tgm 531 (by decide +kernel) rfl
theorem tw_532 : (Cond.instanceMethod ({ cls := "CastOffs", name := "toss", desc := "(II)I" } : MethodName)) ∈ cs_TG := cs_tgm 532 (by decide +kernel) rfl
theorem tw_533 : (Cond.selects "CastOffs" ({ cls := "CastOffs", name := "toss", desc := "(II)I" } : MethodName) ({ cls := "CastOffs", name := "toss", desc := "(II)I" } : MethodName)) ∈ cs_TG := cs_tgm 533 (by decide +kernel) rfl
theorem tw_534 : (Cond.code ({ cls := "CastOffs", name := "toss", desc := "(II)I" } : MethodName) prog_1_method_10_code (3 : Nat) (Option.some FieldType.int)) ∈ cs_TG := cs_tgm 534 (by decide +kernel) rfl
theorem tn_535 : (Cond.methodLinkNest "CastOffs" (178 : Nat) ({ cls := "CastOffs$Stock", name := "throwOut", desc := "(II)Z" } : MethodName) "CastOffs") ∈ cs_NW := cs_nwm 535 (by decide +kernel) rfl
theorem tw_537 : (Cond.instanceMethod ({ cls := "CastOffs$Stock", name := "throwOut", desc := "(II)Z" } : MethodName)) ∈ cs_TG := cs_tgm 537 (by decide +kernel) rfl
theorem tw_538 : (Cond.code ({ cls := "CastOffs$Stock", name := "throwOut", desc := "(II)Z" } : MethodName) prog_7_method_8_code (3 : Nat) (Option.some FieldType.boolean)) ∈ cs_TG := cs_tgm 538 (by decide +kernel) rfl
theorem tw_539 : (Cond.constant "CastOffs" (182 : Nat) (-1000000003 : Int32)) ∈ cs_TG := cs_tgm 539 (by decide +kernel) rfl
theorem tw_540 : (Cond.methodLink "CastOffsLaw" (55 : Nat) ({ cls := "CastOffs", name := "take", desc := "(II)I" } : MethodName)) ∈ cs_TG := cs_tgm 540 (by decide +kernel) rfl
theorem tw_541 : (Cond.instanceMethod ({ cls := "CastOffs", name := "take", desc := "(II)I" } : MethodName)) ∈ cs_TG := cs_tgm 541 (by decide +kernel) rfl
theorem tw_542 : (Cond.selects "CastOffs" ({ cls := "CastOffs", name := "take", desc := "(II)I" } : MethodName) ({ cls := "CastOffs", name := "take", desc := "(II)I" } : MethodName)) ∈ cs_TG := cs_tgm 542 (by decide +kernel) rfl
theorem tw_543 : (Cond.code ({ cls := "CastOffs", name := "take", desc := "(II)I" } : MethodName) prog_1_method_11_code (3 : Nat) (Option.some FieldType.int)) ∈ cs_TG := cs_tgm 543 (by decide +kernel) rfl
theorem tn_544 : (Cond.methodLinkNest "CastOffs" (183 : Nat) ({ cls := "CastOffs$Stock", name := "carryHome", desc := "(II)Z" } : MethodName) "CastOffs") ∈ cs_NW := cs_nwm 544 (by decide +kernel) rfl
theorem tw_546 : (Cond.instanceMethod ({ cls := "CastOffs$Stock", name := "carryHome", desc := "(II)Z" } : MethodName)) ∈ cs_TG := cs_tgm 546 (by decide +kernel) rfl
theorem tw_547 : (Cond.code ({ cls := "CastOffs$Stock", name := "carryHome", desc := "(II)Z" } : MethodName) prog_7_method_9_code (3 : Nat) (Option.some FieldType.boolean)) ∈ cs_TG := cs_tgm 547 (by decide +kernel) rfl
theorem tw_548 : (Cond.methodLink "CastOffs$Stock" (85 : Nat) ({ cls := "CastOffs$Stock", name := "mayTake", desc := "(II)Z" } : MethodName)) ∈ cs_TG := cs_tgm 548 (by decide +kernel) rfl
theorem tw_550 : (Cond.instanceMethod ({ cls := "CastOffs$Stock", name := "mayTake", desc := "(II)Z" } : MethodName)) ∈ cs_TG := cs_tgm 550 (by decide +kernel) rfl
theorem tw_551 : (Cond.code ({ cls := "CastOffs$Stock", name := "mayTake", desc := "(II)Z" } : MethodName) prog_7_method_6_code (3 : Nat) (Option.some FieldType.boolean)) ∈ cs_TG := cs_tgm 551 (by decide +kernel) rfl
theorem tw_552 : (Cond.methodLink "CastOffsLaw" (59 : Nat) ({ cls := "CastOffs", name := "ashore", desc := "(I)I" } : MethodName)) ∈ cs_TG := cs_tgm 552 (by decide +kernel) rfl
theorem tw_553 : (Cond.instanceMethod ({ cls := "CastOffs", name := "ashore", desc := "(I)I" } : MethodName)) ∈ cs_TG := cs_tgm 553 (by decide +kernel) rfl
theorem tw_554 : (Cond.selects "CastOffs" ({ cls := "CastOffs", name := "ashore", desc := "(I)I" } : MethodName) ({ cls := "CastOffs", name := "ashore", desc := "(I)I" } : MethodName)) ∈ cs_TG := cs_tgm 554 (by decide +kernel) rfl
theorem tw_555 : (Cond.code ({ cls := "CastOffs", name := "ashore", desc := "(I)I" } : MethodName) prog_1_method_12_code (2 : Nat) (Option.some FieldType.int)) ∈ cs_TG := cs_tgm 555 (by decide +kernel) rfl
theorem tn_556 : (Cond.methodLinkNest "CastOffs" (186 : Nat) ({ cls := "CastOffs$Stock", name := "addPart", desc := "(II)Z" } : MethodName) "CastOffs") ∈ cs_NW := cs_nwm 556 (by decide +kernel) rfl
theorem tw_557 : (Cond.methodLink "CastOffsLaw" (63 : Nat) ({ cls := "CastOffs", name := "first", desc := "(I)I" } : MethodName)) ∈ cs_TG := cs_tgm 557 (by decide +kernel) rfl
theorem tw_558 : (Cond.instanceMethod ({ cls := "CastOffs", name := "first", desc := "(I)I" } : MethodName)) ∈ cs_TG := cs_tgm 558 (by decide +kernel) rfl
theorem tw_559 : (Cond.selects "CastOffs" ({ cls := "CastOffs", name := "first", desc := "(I)I" } : MethodName) ({ cls := "CastOffs", name := "first", desc := "(I)I" } : MethodName)) ∈ cs_TG := cs_tgm 559 (by decide +kernel) rfl
theorem tw_560 : (Cond.code ({ cls := "CastOffs", name := "first", desc := "(I)I" } : MethodName) prog_1_method_13_code (2 : Nat) (Option.some FieldType.int)) ∈ cs_TG := cs_tgm 560 (by decide +kernel) rfl
theorem tn_561 : (Cond.methodLinkNest "CastOffs" (189 : Nat) ({ cls := "CastOffs$Stock", name := "lies", desc := "(I)Z" } : MethodName) "CastOffs") ∈ cs_NW := cs_nwm 561 (by decide +kernel) rfl
theorem tn_562 : (Cond.methodLinkNest "CastOffs" (192 : Nat) ({ cls := "CastOffs$Stock", name := "firstAt", desc := "(I)I" } : MethodName) "CastOffs") ∈ cs_NW := cs_nwm 562 (by decide +kernel) rfl
theorem tw_564 : (Cond.instanceMethod ({ cls := "CastOffs$Stock", name := "firstAt", desc := "(I)I" } : MethodName)) ∈ cs_TG := cs_tgm 564 (by decide +kernel) rfl
theorem tw_565 : (Cond.code ({ cls := "CastOffs$Stock", name := "firstAt", desc := "(I)I" } : MethodName) prog_7_method_19_code (10 : Nat) (Option.some FieldType.int)) ∈ cs_TG := cs_tgm 565 (by decide +kernel) rfl
theorem tw_566 : (Cond.methodLink "CastOffs$Stock" (92 : Nat) ({ cls := "CastOffs$Stock", name := "gainOf", desc := "(II)I" } : MethodName)) ∈ cs_TG := cs_tgm 566 (by decide +kernel) rfl
theorem tw_568 : (Cond.instanceMethod ({ cls := "CastOffs$Stock", name := "gainOf", desc := "(II)I" } : MethodName)) ∈ cs_TG := cs_tgm 568 (by decide +kernel) rfl
theorem tw_569 : (Cond.code ({ cls := "CastOffs$Stock", name := "gainOf", desc := "(II)I" } : MethodName) prog_7_method_11_code (3 : Nat) (Option.some FieldType.int)) ∈ cs_TG := cs_tgm 569 (by decide +kernel) rfl
theorem tw_570 : (Cond.methodLink "CastOffs$Stock" (107 : Nat) ({ cls := "java/lang/Math", name := "abs", desc := "(I)I" } : MethodName)) ∈ cs_TG := cs_tgm 570 (by decide +kernel) rfl
theorem tw_571 : (Cond.static ({ cls := "java/lang/Math", name := "abs", desc := "(I)I" } : MethodName)) ∈ cs_TG := cs_tgm 571 (by decide +kernel) rfl
theorem tw_572 : (Cond.code ({ cls := "java/lang/Math", name := "abs", desc := "(I)I" } : MethodName) prog_11_method_59_code (1 : Nat) (Option.some FieldType.int)) ∈ cs_TG := cs_tgm 572 (by decide +kernel) rfl
theorem tw_573 : (Cond.methodLink "CastOffsLaw" (67 : Nat) ({ cls := "CastOffs", name := "week", desc := "(I)I" } : MethodName)) ∈ cs_TG := cs_tgm 573 (by decide +kernel) rfl
theorem tw_574 : (Cond.instanceMethod ({ cls := "CastOffs", name := "week", desc := "(I)I" } : MethodName)) ∈ cs_TG := cs_tgm 574 (by decide +kernel) rfl
theorem tw_575 : (Cond.selects "CastOffs" ({ cls := "CastOffs", name := "week", desc := "(I)I" } : MethodName) ({ cls := "CastOffs", name := "week", desc := "(I)I" } : MethodName)) ∈ cs_TG := cs_tgm 575 (by decide +kernel) rfl
theorem tw_576 : (Cond.code ({ cls := "CastOffs", name := "week", desc := "(I)I" } : MethodName) prog_1_method_14_code (2 : Nat) (Option.some FieldType.int)) ∈ cs_TG := cs_tgm 576 (by decide +kernel) rfl
theorem tn_577 : (Cond.methodLinkNest "CastOffs" (195 : Nat) ({ cls := "CastOffs$Stock", name := "liveWeeks", desc := "(IZ)I" } : MethodName) "CastOffs") ∈ cs_NW := cs_nwm 577 (by decide +kernel) rfl
theorem tw_579 : (Cond.instanceMethod ({ cls := "CastOffs$Stock", name := "liveWeeks", desc := "(IZ)I" } : MethodName)) ∈ cs_TG := cs_tgm 579 (by decide +kernel) rfl
theorem tw_580 : (Cond.code ({ cls := "CastOffs$Stock", name := "liveWeeks", desc := "(IZ)I" } : MethodName) prog_7_method_22_code (6 : Nat) (Option.some FieldType.int)) ∈ cs_TG := cs_tgm 580 (by decide +kernel) rfl
theorem tw_581 : (Cond.methodLink "CastOffs$Stock" (116 : Nat) ({ cls := "CastOffs$Stock", name := "comeByDraw", desc := "()Z" } : MethodName)) ∈ cs_TG := cs_tgm 581 (by decide +kernel) rfl
theorem tw_583 : (Cond.instanceMethod ({ cls := "CastOffs$Stock", name := "comeByDraw", desc := "()Z" } : MethodName)) ∈ cs_TG := cs_tgm 583 (by decide +kernel) rfl
theorem tw_584 : (Cond.code ({ cls := "CastOffs$Stock", name := "comeByDraw", desc := "()Z" } : MethodName) prog_7_method_25_code (1 : Nat) (Option.some FieldType.boolean)) ∈ cs_TG := cs_tgm 584 (by decide +kernel) rfl
theorem tw_585 : (Cond.methodLink "CastOffs$Stock" (134 : Nat) ({ cls := "CastOffs$Stock", name := "draw", desc := "(I)I" } : MethodName)) ∈ cs_TG := cs_tgm 585 (by decide +kernel) rfl
theorem tw_587 : (Cond.instanceMethod ({ cls := "CastOffs$Stock", name := "draw", desc := "(I)I" } : MethodName)) ∈ cs_TG := cs_tgm 587 (by decide +kernel) rfl
theorem tw_588 : (Cond.code ({ cls := "CastOffs$Stock", name := "draw", desc := "(I)I" } : MethodName) prog_7_method_26_code (2 : Nat) (Option.some FieldType.int)) ∈ cs_TG := cs_tgm 588 (by decide +kernel) rfl
theorem tw_589 : (Cond.constantLong "CastOffs$Stock" (137 : Nat) (1103515245 : Int64)) ∈ cs_TG := cs_tgm 589 (by decide +kernel) rfl
theorem tw_590 : (Cond.constantLong "CastOffs$Stock" (139 : Nat) (12345 : Int64)) ∈ cs_TG := cs_tgm 590 (by decide +kernel) rfl
theorem tw_591 : (Cond.constantLong "CastOffs$Stock" (141 : Nat) (2147483647 : Int64)) ∈ cs_TG := cs_tgm 591 (by decide +kernel) rfl
theorem tw_592 : (Cond.constant "CastOffs$Stock" (143 : Nat) (65536 : Int32)) ∈ cs_TG := cs_tgm 592 (by decide +kernel) rfl
theorem tw_593 : (Cond.methodLink "CastOffs$Stock" (120 : Nat) ({ cls := "CastOffs$Stock", name := "liveWeek", desc := "()I" } : MethodName)) ∈ cs_TG := cs_tgm 593 (by decide +kernel) rfl
theorem tw_595 : (Cond.instanceMethod ({ cls := "CastOffs$Stock", name := "liveWeek", desc := "()I" } : MethodName)) ∈ cs_TG := cs_tgm 595 (by decide +kernel) rfl
theorem tw_596 : (Cond.code ({ cls := "CastOffs$Stock", name := "liveWeek", desc := "()I" } : MethodName) prog_7_method_23_code (4 : Nat) (Option.some FieldType.int)) ∈ cs_TG := cs_tgm 596 (by decide +kernel) rfl
theorem tw_597 : (Cond.methodLink "CastOffs$Stock" (113 : Nat) ({ cls := "CastOffs$Stock", name := "partToTake", desc := "(I)I" } : MethodName)) ∈ cs_TG := cs_tgm 597 (by decide +kernel) rfl
theorem tw_599 : (Cond.instanceMethod ({ cls := "CastOffs$Stock", name := "partToTake", desc := "(I)I" } : MethodName)) ∈ cs_TG := cs_tgm 599 (by decide +kernel) rfl
theorem tw_600 : (Cond.code ({ cls := "CastOffs$Stock", name := "partToTake", desc := "(I)I" } : MethodName) prog_7_method_20_code (5 : Nat) (Option.some FieldType.int)) ∈ cs_TG := cs_tgm 600 (by decide +kernel) rfl
theorem tw_601 : (Cond.methodLink "CastOffs$Stock" (124 : Nat) ({ cls := "CastOffs$Stock", name := "carryHome", desc := "(II)Z" } : MethodName)) ∈ cs_TG := cs_tgm 601 (by decide +kernel) rfl
theorem tw_602 : (Cond.methodLink "CastOffs$Stock" (127 : Nat) ({ cls := "CastOffs$Stock", name := "throwSpare", desc := "(I)V" } : MethodName)) ∈ cs_TG := cs_tgm 602 (by decide +kernel) rfl
theorem tw_604 : (Cond.instanceMethod ({ cls := "CastOffs$Stock", name := "throwSpare", desc := "(I)V" } : MethodName)) ∈ cs_TG := cs_tgm 604 (by decide +kernel) rfl
theorem tw_605 : (Cond.code ({ cls := "CastOffs$Stock", name := "throwSpare", desc := "(I)V" } : MethodName) prog_7_method_24_code (3 : Nat) (Option.none : Option FieldType)) ∈ cs_TG := cs_tgm 605 (by decide +kernel) rfl
theorem tw_606 : (Cond.methodLink "CastOffs$Stock" (95 : Nat) ({ cls := "CastOffs$Stock", name := "lossOf", desc := "(II)I" } : MethodName)) ∈ cs_TG := cs_tgm 606 (by decide +kernel) rfl
theorem tw_608 : (Cond.instanceMethod ({ cls := "CastOffs$Stock", name := "lossOf", desc := "(II)I" } : MethodName)) ∈ cs_TG := cs_tgm 608 (by decide +kernel) rfl
theorem tw_609 : (Cond.code ({ cls := "CastOffs$Stock", name := "lossOf", desc := "(II)I" } : MethodName) prog_7_method_12_code (3 : Nat) (Option.some FieldType.int)) ∈ cs_TG := cs_tgm 609 (by decide +kernel) rfl
theorem tw_610 : (Cond.methodLink "CastOffs$Stock" (131 : Nat) ({ cls := "CastOffs$Stock", name := "throwOut", desc := "(II)Z" } : MethodName)) ∈ cs_TG := cs_tgm 610 (by decide +kernel) rfl
theorem tw_611 : (Cond.methodLink "CastOffsLaw" (71 : Nat) ({ cls := "CastOffs", name := "drift", desc := "(I)I" } : MethodName)) ∈ cs_TG := cs_tgm 611 (by decide +kernel) rfl
theorem tw_612 : (Cond.instanceMethod ({ cls := "CastOffs", name := "drift", desc := "(I)I" } : MethodName)) ∈ cs_TG := cs_tgm 612 (by decide +kernel) rfl
theorem tw_613 : (Cond.selects "CastOffs" ({ cls := "CastOffs", name := "drift", desc := "(I)I" } : MethodName) ({ cls := "CastOffs", name := "drift", desc := "(I)I" } : MethodName)) ∈ cs_TG := cs_tgm 613 (by decide +kernel) rfl
theorem tw_614 : (Cond.code ({ cls := "CastOffs", name := "drift", desc := "(I)I" } : MethodName) prog_1_method_15_code (2 : Nat) (Option.some FieldType.int)) ∈ cs_TG := cs_tgm 614 (by decide +kernel) rfl
theorem tw_615 : (Cond.methodLink "CastOffsLaw" (75 : Nat) ({ cls := "CastOffs", name := "begin", desc := "()I" } : MethodName)) ∈ cs_TG := cs_tgm 615 (by decide +kernel) rfl
theorem tw_616 : (Cond.instanceMethod ({ cls := "CastOffs", name := "begin", desc := "()I" } : MethodName)) ∈ cs_TG := cs_tgm 616 (by decide +kernel) rfl
theorem tw_617 : (Cond.selects "CastOffs" ({ cls := "CastOffs", name := "begin", desc := "()I" } : MethodName) ({ cls := "CastOffs", name := "begin", desc := "()I" } : MethodName)) ∈ cs_TG := cs_tgm 617 (by decide +kernel) rfl
theorem tw_618 : (Cond.code ({ cls := "CastOffs", name := "begin", desc := "()I" } : MethodName) prog_1_method_16_code (2 : Nat) (Option.some FieldType.int)) ∈ cs_TG := cs_tgm 618 (by decide +kernel) rfl
theorem tw_619 : (Cond.methodLink "CastOffsLaw" (79 : Nat) ({ cls := "CastOffs", name := "gain", desc := "(II)I" } : MethodName)) ∈ cs_TG := cs_tgm 619 (by decide +kernel) rfl
theorem tw_620 : (Cond.instanceMethod ({ cls := "CastOffs", name := "gain", desc := "(II)I" } : MethodName)) ∈ cs_TG := cs_tgm 620 (by decide +kernel) rfl
theorem tw_621 : (Cond.selects "CastOffs" ({ cls := "CastOffs", name := "gain", desc := "(II)I" } : MethodName) ({ cls := "CastOffs", name := "gain", desc := "(II)I" } : MethodName)) ∈ cs_TG := cs_tgm 621 (by decide +kernel) rfl
theorem tw_622 : (Cond.code ({ cls := "CastOffs", name := "gain", desc := "(II)I" } : MethodName) prog_1_method_17_code (3 : Nat) (Option.some FieldType.int)) ∈ cs_TG := cs_tgm 622 (by decide +kernel) rfl
theorem tn_623 : (Cond.methodLinkNest "CastOffs" (199 : Nat) ({ cls := "CastOffs$Stock", name := "gainOf", desc := "(II)I" } : MethodName) "CastOffs") ∈ cs_NW := cs_nwm 623 (by decide +kernel) rfl
theorem tw_624 : (Cond.methodLink "CastOffsLaw" (83 : Nat) ({ cls := "CastOffs", name := "down", desc := "(III)I" } : MethodName)) ∈ cs_TG := cs_tgm 624 (by decide +kernel) rfl
theorem tw_625 : (Cond.instanceMethod ({ cls := "CastOffs", name := "down", desc := "(III)I" } : MethodName)) ∈ cs_TG := cs_tgm 625 (by decide +kernel) rfl
theorem tw_626 : (Cond.selects "CastOffs" ({ cls := "CastOffs", name := "down", desc := "(III)I" } : MethodName) ({ cls := "CastOffs", name := "down", desc := "(III)I" } : MethodName)) ∈ cs_TG := cs_tgm 626 (by decide +kernel) rfl
theorem tw_627 : (Cond.code ({ cls := "CastOffs", name := "down", desc := "(III)I" } : MethodName) prog_1_method_18_code (6 : Nat) (Option.some FieldType.int)) ∈ cs_TG := cs_tgm 627 (by decide +kernel) rfl
theorem tw_628 : (Cond.methodLink "CastOffs" (202 : Nat) ({ cls := "CastOffs", name := "tryWithout", desc := "(I)V" } : MethodName)) ∈ cs_TG := cs_tgm 628 (by decide +kernel) rfl
theorem tw_630 : (Cond.instanceMethod ({ cls := "CastOffs", name := "tryWithout", desc := "(I)V" } : MethodName)) ∈ cs_TG := cs_tgm 630 (by decide +kernel) rfl
theorem tw_631 : (Cond.code ({ cls := "CastOffs", name := "tryWithout", desc := "(I)V" } : MethodName) prog_1_method_30_code (3 : Nat) (Option.none : Option FieldType)) ∈ cs_TG := cs_tgm 631 (by decide +kernel) rfl
theorem tn_632 : (Cond.methodLinkNest "CastOffs" (206 : Nat) ({ cls := "CastOffs$Stock", name := "copyFrom", desc := "(LCastOffs$Stock;)V" } : MethodName) "CastOffs") ∈ cs_NW := cs_nwm 632 (by decide +kernel) rfl
theorem tw_634 : (Cond.instanceMethod ({ cls := "CastOffs$Stock", name := "copyFrom", desc := "(LCastOffs$Stock;)V" } : MethodName)) ∈ cs_TG := cs_tgm 634 (by decide +kernel) rfl
theorem tw_635 : (Cond.code ({ cls := "CastOffs$Stock", name := "copyFrom", desc := "(LCastOffs$Stock;)V" } : MethodName) prog_7_method_3_code (2 : Nat) (Option.none : Option FieldType)) ∈ cs_TG := cs_tgm 635 (by decide +kernel) rfl
theorem tw_636 : (Cond.methodLink "CastOffs$Stock" (68 : Nat) ({ cls := "java/lang/System", name := "arraycopy", desc := "(Ljava/lang/Object;ILjava/lang/Object;II)V" } : MethodName)) ∈ cs_TG := cs_tgm 636 (by decide +kernel) rfl
theorem tw_637 : (Cond.methodLink "CastOffsLaw" (88 : Nat) ({ cls := "CastOffs", name := "chain", desc := "(II)I" } : MethodName)) ∈ cs_TG := cs_tgm 637 (by decide +kernel) rfl
theorem tw_638 : (Cond.instanceMethod ({ cls := "CastOffs", name := "chain", desc := "(II)I" } : MethodName)) ∈ cs_TG := cs_tgm 638 (by decide +kernel) rfl
theorem tw_639 : (Cond.selects "CastOffs" ({ cls := "CastOffs", name := "chain", desc := "(II)I" } : MethodName) ({ cls := "CastOffs", name := "chain", desc := "(II)I" } : MethodName)) ∈ cs_TG := cs_tgm 639 (by decide +kernel) rfl
theorem tw_640 : (Cond.code ({ cls := "CastOffs", name := "chain", desc := "(II)I" } : MethodName) prog_1_method_19_code (3 : Nat) (Option.some FieldType.int)) ∈ cs_TG := cs_tgm 640 (by decide +kernel) rfl
theorem tn_641 : (Cond.methodLinkNest "CastOffs" (208 : Nat) ({ cls := "CastOffs$Chain", name := "fewestFor", desc := "(II)I" } : MethodName) "CastOffs") ∈ cs_NW := cs_nwm 641 (by decide +kernel) rfl
theorem tw_643 : (Cond.instanceMethod ({ cls := "CastOffs$Chain", name := "fewestFor", desc := "(II)I" } : MethodName)) ∈ cs_TG := cs_tgm 643 (by decide +kernel) rfl
theorem tw_644 : (Cond.code ({ cls := "CastOffs$Chain", name := "fewestFor", desc := "(II)I" } : MethodName) prog_3_method_2_code (5 : Nat) (Option.some FieldType.int)) ∈ cs_TG := cs_tgm 644 (by decide +kernel) rfl
theorem tw_645 : (Cond.methodLink "CastOffs$Chain" (22 : Nat) ({ cls := "CastOffs$Chain", name := "queueLying", desc := "()V" } : MethodName)) ∈ cs_TG := cs_tgm 645 (by decide +kernel) rfl
theorem tw_647 : (Cond.instanceMethod ({ cls := "CastOffs$Chain", name := "queueLying", desc := "()V" } : MethodName)) ∈ cs_TG := cs_tgm 647 (by decide +kernel) rfl
theorem tw_648 : (Cond.code ({ cls := "CastOffs$Chain", name := "queueLying", desc := "()V" } : MethodName) prog_3_method_3_code (2 : Nat) (Option.none : Option FieldType)) ∈ cs_TG := cs_tgm 648 (by decide +kernel) rfl
theorem tn_649 : (Cond.methodLinkNest "CastOffs$Chain" (44 : Nat) ({ cls := "CastOffs$Stock", name := "lies", desc := "(I)Z" } : MethodName) "CastOffs") ∈ cs_NW := cs_nwm 649 (by decide +kernel) rfl
theorem tw_650 : (Cond.methodLink "CastOffs$Chain" (48 : Nat) ({ cls := "CastOffs$Chain", name := "enqueue", desc := "(II)V" } : MethodName)) ∈ cs_TG := cs_tgm 650 (by decide +kernel) rfl
theorem tw_652 : (Cond.instanceMethod ({ cls := "CastOffs$Chain", name := "enqueue", desc := "(II)V" } : MethodName)) ∈ cs_TG := cs_tgm 652 (by decide +kernel) rfl
theorem tw_653 : (Cond.code ({ cls := "CastOffs$Chain", name := "enqueue", desc := "(II)V" } : MethodName) prog_3_method_5_code (3 : Nat) (Option.none : Option FieldType)) ∈ cs_TG := cs_tgm 653 (by decide +kernel) rfl
theorem tw_654 : (Cond.methodLink "CastOffs$Chain" (37 : Nat) ({ cls := "CastOffs$Chain", name := "swapAgainst", desc := "(II)V" } : MethodName)) ∈ cs_TG := cs_tgm 654 (by decide +kernel) rfl
theorem tw_656 : (Cond.instanceMethod ({ cls := "CastOffs$Chain", name := "swapAgainst", desc := "(II)V" } : MethodName)) ∈ cs_TG := cs_tgm 656 (by decide +kernel) rfl
theorem tw_657 : (Cond.code ({ cls := "CastOffs$Chain", name := "swapAgainst", desc := "(II)V" } : MethodName) prog_3_method_4_code (7 : Nat) (Option.none : Option FieldType)) ∈ cs_TG := cs_tgm 657 (by decide +kernel) rfl
theorem tn_658 : (Cond.methodLinkNest "CastOffs$Chain" (54 : Nat) ({ cls := "CastOffs$Stock", name := "betterBy", desc := "(III)I" } : MethodName) "CastOffs") ∈ cs_NW := cs_nwm 658 (by decide +kernel) rfl
theorem tw_660 : (Cond.instanceMethod ({ cls := "CastOffs$Stock", name := "betterBy", desc := "(III)I" } : MethodName)) ∈ cs_TG := cs_tgm 660 (by decide +kernel) rfl
theorem tw_661 : (Cond.code ({ cls := "CastOffs$Stock", name := "betterBy", desc := "(III)I" } : MethodName) prog_7_method_13_code (4 : Nat) (Option.some FieldType.int)) ∈ cs_TG := cs_tgm 661 (by decide +kernel) rfl
theorem tw_662 : (Cond.methodLink "CastOffsLaw" (92 : Nat) ({ cls := "CastOffs", name := "rings", desc := "(II)I" } : MethodName)) ∈ cs_TG := cs_tgm 662 (by decide +kernel) rfl
theorem tw_663 : (Cond.instanceMethod ({ cls := "CastOffs", name := "rings", desc := "(II)I" } : MethodName)) ∈ cs_TG := cs_tgm 663 (by decide +kernel) rfl
theorem tw_664 : (Cond.selects "CastOffs" ({ cls := "CastOffs", name := "rings", desc := "(II)I" } : MethodName) ({ cls := "CastOffs", name := "rings", desc := "(II)I" } : MethodName)) ∈ cs_TG := cs_tgm 664 (by decide +kernel) rfl
theorem tw_665 : (Cond.code ({ cls := "CastOffs", name := "rings", desc := "(II)I" } : MethodName) prog_1_method_20_code (3 : Nat) (Option.some FieldType.int)) ∈ cs_TG := cs_tgm 665 (by decide +kernel) rfl
theorem tn_666 : (Cond.methodLinkNest "CastOffs" (211 : Nat) ({ cls := "CastOffs$Rings", name := "findBest", desc := "()V" } : MethodName) "CastOffs") ∈ cs_NW := cs_nwm 666 (by decide +kernel) rfl
theorem tw_668 : (Cond.instanceMethod ({ cls := "CastOffs$Rings", name := "findBest", desc := "()V" } : MethodName)) ∈ cs_TG := cs_tgm 668 (by decide +kernel) rfl
theorem tw_669 : (Cond.code ({ cls := "CastOffs$Rings", name := "findBest", desc := "()V" } : MethodName) prog_5_method_2_code (3 : Nat) (Option.none : Option FieldType)) ∈ cs_TG := cs_tgm 669 (by decide +kernel) rfl
theorem tw_670 : (Cond.methodLink "CastOffs$Rings" (53 : Nat) ({ cls := "CastOffs$Rings", name := "listChoices", desc := "(I)V" } : MethodName)) ∈ cs_TG := cs_tgm 670 (by decide +kernel) rfl
theorem tw_672 : (Cond.instanceMethod ({ cls := "CastOffs$Rings", name := "listChoices", desc := "(I)V" } : MethodName)) ∈ cs_TG := cs_tgm 672 (by decide +kernel) rfl
theorem tw_673 : (Cond.code ({ cls := "CastOffs$Rings", name := "listChoices", desc := "(I)V" } : MethodName) prog_5_method_4_code (6 : Nat) (Option.none : Option FieldType)) ∈ cs_TG := cs_tgm 673 (by decide +kernel) rfl
theorem tw_674 : (Cond.methodLink "CastOffs$Rings" (57 : Nat) ({ cls := "CastOffs$Rings", name := "mostBetter", desc := "(II)I" } : MethodName)) ∈ cs_TG := cs_tgm 674 (by decide +kernel) rfl
theorem tw_676 : (Cond.instanceMethod ({ cls := "CastOffs$Rings", name := "mostBetter", desc := "(II)I" } : MethodName)) ∈ cs_TG := cs_tgm 676 (by decide +kernel) rfl
theorem tw_677 : (Cond.code ({ cls := "CastOffs$Rings", name := "mostBetter", desc := "(II)I" } : MethodName) prog_5_method_5_code (8 : Nat) (Option.some FieldType.int)) ∈ cs_TG := cs_tgm 677 (by decide +kernel) rfl
theorem tn_678 : (Cond.methodLinkNest "CastOffs$Rings" (74 : Nat) ({ cls := "CastOffs$Stock", name := "betterBy", desc := "(III)I" } : MethodName) "CastOffs") ∈ cs_NW := cs_nwm 678 (by decide +kernel) rfl
theorem tw_679 : (Cond.methodLink "CastOffs$Rings" (78 : Nat) ({ cls := "java/lang/Math", name := "max", desc := "(II)I" } : MethodName)) ∈ cs_TG := cs_tgm 679 (by decide +kernel) rfl
theorem tw_680 : (Cond.static ({ cls := "java/lang/Math", name := "max", desc := "(II)I" } : MethodName)) ∈ cs_TG := cs_tgm 680 (by decide +kernel) rfl
theorem tw_681 : (Cond.code ({ cls := "java/lang/Math", name := "max", desc := "(II)I" } : MethodName) prog_11_method_65_code (2 : Nat) (Option.some FieldType.int)) ∈ cs_TG := cs_tgm 681 (by decide +kernel) rfl
theorem tw_682 : (Cond.methodLink "CastOffs$Rings" (61 : Nat) ({ cls := "CastOffs$Rings", name := "chooseGiver", desc := "(III)V" } : MethodName)) ∈ cs_TG := cs_tgm 682 (by decide +kernel) rfl
theorem tw_684 : (Cond.instanceMethod ({ cls := "CastOffs$Rings", name := "chooseGiver", desc := "(III)V" } : MethodName)) ∈ cs_TG := cs_tgm 684 (by decide +kernel) rfl
theorem tw_685 : (Cond.code ({ cls := "CastOffs$Rings", name := "chooseGiver", desc := "(III)V" } : MethodName) prog_5_method_6_code (6 : Nat) (Option.none : Option FieldType)) ∈ cs_TG := cs_tgm 685 (by decide +kernel) rfl
theorem tw_686 : (Cond.methodLink "CastOffs$Rings" (83 : Nat) ({ cls := "CastOffs$Rings", name := "chooseThrown", desc := "(II)V" } : MethodName)) ∈ cs_TG := cs_tgm 686 (by decide +kernel) rfl
theorem tw_688 : (Cond.instanceMethod ({ cls := "CastOffs$Rings", name := "chooseThrown", desc := "(II)V" } : MethodName)) ∈ cs_TG := cs_tgm 688 (by decide +kernel) rfl
theorem tw_689 : (Cond.code ({ cls := "CastOffs$Rings", name := "chooseThrown", desc := "(II)V" } : MethodName) prog_5_method_7_code (5 : Nat) (Option.none : Option FieldType)) ∈ cs_TG := cs_tgm 689 (by decide +kernel) rfl
theorem tw_690 : (Cond.methodLink "CastOffs$Rings" (87 : Nat) ({ cls := "CastOffs$Rings", name := "remember", desc := "(I)V" } : MethodName)) ∈ cs_TG := cs_tgm 690 (by decide +kernel) rfl
theorem tw_692 : (Cond.instanceMethod ({ cls := "CastOffs$Rings", name := "remember", desc := "(I)V" } : MethodName)) ∈ cs_TG := cs_tgm 692 (by decide +kernel) rfl
theorem tw_693 : (Cond.code ({ cls := "CastOffs$Rings", name := "remember", desc := "(I)V" } : MethodName) prog_5_method_9_code (2 : Nat) (Option.none : Option FieldType)) ∈ cs_TG := cs_tgm 693 (by decide +kernel) rfl
theorem tw_694 : (Cond.methodLink "CastOffs$Rings" (94 : Nat) ({ cls := "java/lang/System", name := "arraycopy", desc := "(Ljava/lang/Object;ILjava/lang/Object;II)V" } : MethodName)) ∈ cs_TG := cs_tgm 694 (by decide +kernel) rfl
theorem tw_695 : (Cond.methodLink "CastOffs$Rings" (90 : Nat) ({ cls := "CastOffs$Rings", name := "hopeLostBy", desc := "(I)I" } : MethodName)) ∈ cs_TG := cs_tgm 695 (by decide +kernel) rfl
theorem tw_697 : (Cond.instanceMethod ({ cls := "CastOffs$Rings", name := "hopeLostBy", desc := "(I)I" } : MethodName)) ∈ cs_TG := cs_tgm 697 (by decide +kernel) rfl
theorem tw_698 : (Cond.code ({ cls := "CastOffs$Rings", name := "hopeLostBy", desc := "(I)I" } : MethodName) prog_5_method_8_code (7 : Nat) (Option.some FieldType.int)) ∈ cs_TG := cs_tgm 698 (by decide +kernel) rfl
theorem tn_699 : (Cond.methodLinkNest "CastOffs" (220 : Nat) ({ cls := "CastOffs$Rings", name := "partTakenBy", desc := "(I)I" } : MethodName) "CastOffs") ∈ cs_NW := cs_nwm 699 (by decide +kernel) rfl
theorem tw_701 : (Cond.instanceMethod ({ cls := "CastOffs$Rings", name := "partTakenBy", desc := "(I)I" } : MethodName)) ∈ cs_TG := cs_tgm 701 (by decide +kernel) rfl
theorem tw_702 : (Cond.code ({ cls := "CastOffs$Rings", name := "partTakenBy", desc := "(I)I" } : MethodName) prog_5_method_3_code (2 : Nat) (Option.some FieldType.int)) ∈ cs_TG := cs_tgm 702 (by decide +kernel) rfl
theorem tw_703 : (Cond.methodLink "CastOffsLaw" (96 : Nat) ({ cls := "CastOffs", name := "odds", desc := "(II)I" } : MethodName)) ∈ cs_TG := cs_tgm 703 (by decide +kernel) rfl
theorem tw_704 : (Cond.instanceMethod ({ cls := "CastOffs", name := "odds", desc := "(II)I" } : MethodName)) ∈ cs_TG := cs_tgm 704 (by decide +kernel) rfl
theorem tw_705 : (Cond.selects "CastOffs" ({ cls := "CastOffs", name := "odds", desc := "(II)I" } : MethodName) ({ cls := "CastOffs", name := "odds", desc := "(II)I" } : MethodName)) ∈ cs_TG := cs_tgm 705 (by decide +kernel) rfl
theorem tw_706 : (Cond.code ({ cls := "CastOffs", name := "odds", desc := "(II)I" } : MethodName) prog_1_method_21_code (6 : Nat) (Option.some FieldType.int)) ∈ cs_TG := cs_tgm 706 (by decide +kernel) rfl
theorem tw_707 : (Cond.constantLong "CastOffs" (223 : Nat) (1000000000 : Int64)) ∈ cs_TG := cs_tgm 707 (by decide +kernel) rfl
theorem tn_708 : (Cond.methodLinkNest "CastOffs" (225 : Nat) ({ cls := "CastOffs$Spit", name := "stillMissing", desc := "(J)J" } : MethodName) "CastOffs") ∈ cs_NW := cs_nwm 708 (by decide +kernel) rfl
theorem tw_710 : (Cond.instanceMethod ({ cls := "CastOffs$Spit", name := "stillMissing", desc := "(J)J" } : MethodName)) ∈ cs_TG := cs_tgm 710 (by decide +kernel) rfl
theorem tw_711 : (Cond.code ({ cls := "CastOffs$Spit", name := "stillMissing", desc := "(J)J" } : MethodName) prog_6_method_7_code (3 : Nat) (Option.some FieldType.long)) ∈ cs_TG := cs_tgm 711 (by decide +kernel) rfl
theorem tw_712 : (Cond.methodLink "CastOffsLaw" (100 : Nat) ({ cls := "CastOffs", name := "waits", desc := "(III)I" } : MethodName)) ∈ cs_TG := cs_tgm 712 (by decide +kernel) rfl
theorem tw_713 : (Cond.instanceMethod ({ cls := "CastOffs", name := "waits", desc := "(III)I" } : MethodName)) ∈ cs_TG := cs_tgm 713 (by decide +kernel) rfl
theorem tw_714 : (Cond.selects "CastOffs" ({ cls := "CastOffs", name := "waits", desc := "(III)I" } : MethodName) ({ cls := "CastOffs", name := "waits", desc := "(III)I" } : MethodName)) ∈ cs_TG := cs_tgm 714 (by decide +kernel) rfl
theorem tw_715 : (Cond.code ({ cls := "CastOffs", name := "waits", desc := "(III)I" } : MethodName) prog_1_method_22_code (14 : Nat) (Option.some FieldType.int)) ∈ cs_TG := cs_tgm 715 (by decide +kernel) rfl
theorem tn_716 : (Cond.methodLinkNest "CastOffs" (229 : Nat) ({ cls := "CastOffs$Stock", name := "greatestGain", desc := "(I)I" } : MethodName) "CastOffs") ∈ cs_NW := cs_nwm 716 (by decide +kernel) rfl
theorem tw_718 : (Cond.instanceMethod ({ cls := "CastOffs$Stock", name := "greatestGain", desc := "(I)I" } : MethodName)) ∈ cs_TG := cs_tgm 718 (by decide +kernel) rfl
theorem tw_719 : (Cond.code ({ cls := "CastOffs$Stock", name := "greatestGain", desc := "(I)I" } : MethodName) prog_7_method_21_code (3 : Nat) (Option.some FieldType.int)) ∈ cs_TG := cs_tgm 719 (by decide +kernel) rfl
theorem tw_720 : (Cond.methodLink "CastOffsLaw" (104 : Nat) ({ cls := "CastOffs", name := "turnsAt", desc := "(IIIII)I" } : MethodName)) ∈ cs_TG := cs_tgm 720 (by decide +kernel) rfl
theorem tw_721 : (Cond.instanceMethod ({ cls := "CastOffs", name := "turnsAt", desc := "(IIIII)I" } : MethodName)) ∈ cs_TG := cs_tgm 721 (by decide +kernel) rfl
theorem tw_722 : (Cond.selects "CastOffs" ({ cls := "CastOffs", name := "turnsAt", desc := "(IIIII)I" } : MethodName) ({ cls := "CastOffs", name := "turnsAt", desc := "(IIIII)I" } : MethodName)) ∈ cs_TG := cs_tgm 722 (by decide +kernel) rfl
theorem tw_723 : (Cond.code ({ cls := "CastOffs", name := "turnsAt", desc := "(IIIII)I" } : MethodName) prog_1_method_23_code (7 : Nat) (Option.some FieldType.int)) ∈ cs_TG := cs_tgm 723 (by decide +kernel) rfl
theorem tn_724 : (Cond.methodLinkNest "CastOffs" (232 : Nat) ({ cls := "CastOffs$Turns", name := "setUp", desc := "(III)V" } : MethodName) "CastOffs") ∈ cs_NW := cs_nwm 724 (by decide +kernel) rfl
theorem tw_726 : (Cond.instanceMethod ({ cls := "CastOffs$Turns", name := "setUp", desc := "(III)V" } : MethodName)) ∈ cs_TG := cs_tgm 726 (by decide +kernel) rfl
theorem tw_727 : (Cond.code ({ cls := "CastOffs$Turns", name := "setUp", desc := "(III)V" } : MethodName) prog_8_method_2_code (7 : Nat) (Option.none : Option FieldType)) ∈ cs_TG := cs_tgm 727 (by decide +kernel) rfl
theorem tn_728 : (Cond.methodLinkNest "CastOffs$Turns" (36 : Nat) ({ cls := "CastOffs$Stock", name := "sortsHad", desc := "(I)I" } : MethodName) "CastOffs") ∈ cs_NW := cs_nwm 728 (by decide +kernel) rfl
theorem tw_729 : (Cond.methodLink "CastOffs$Turns" (40 : Nat) ({ cls := "java/util/Arrays", name := "fill", desc := "([II)V" } : MethodName)) ∈ cs_TG := cs_tgm 729 (by decide +kernel) rfl
theorem tn_730 : (Cond.methodLinkNest "CastOffs$Turns" (50 : Nat) ({ cls := "CastOffs$Stock", name := "lies", desc := "(I)Z" } : MethodName) "CastOffs") ∈ cs_NW := cs_nwm 730 (by decide +kernel) rfl
theorem tn_731 : (Cond.methodLinkNest "CastOffs" (236 : Nat) ({ cls := "CastOffs$Turns", name := "playOut", desc := "(I)I" } : MethodName) "CastOffs") ∈ cs_NW := cs_nwm 731 (by decide +kernel) rfl
theorem tw_733 : (Cond.instanceMethod ({ cls := "CastOffs$Turns", name := "playOut", desc := "(I)I" } : MethodName)) ∈ cs_TG := cs_tgm 733 (by decide +kernel) rfl
theorem tw_734 : (Cond.code ({ cls := "CastOffs$Turns", name := "playOut", desc := "(I)I" } : MethodName) prog_8_method_3_code (7 : Nat) (Option.some FieldType.int)) ∈ cs_TG := cs_tgm 734 (by decide +kernel) rfl
theorem tn_735 : (Cond.methodLinkNest "CastOffs$Turns" (60 : Nat) ({ cls := "CastOffs$Stock", name := "wealthOf", desc := "(I)I" } : MethodName) "CastOffs") ∈ cs_NW := cs_nwm 735 (by decide +kernel) rfl
theorem tw_736 : (Cond.methodLink "CastOffs$Turns" (66 : Nat) ({ cls := "CastOffs$Turns", name := "bestOf", desc := "(II)I" } : MethodName)) ∈ cs_TG := cs_tgm 736 (by decide +kernel) rfl
theorem tw_738 : (Cond.instanceMethod ({ cls := "CastOffs$Turns", name := "bestOf", desc := "(II)I" } : MethodName)) ∈ cs_TG := cs_tgm 738 (by decide +kernel) rfl
theorem tw_739 : (Cond.code ({ cls := "CastOffs$Turns", name := "bestOf", desc := "(II)I" } : MethodName) prog_8_method_4_code (5 : Nat) (Option.some FieldType.int)) ∈ cs_TG := cs_tgm 739 (by decide +kernel) rfl
theorem tw_740 : (Cond.methodLink "CastOffs$Turns" (70 : Nat) ({ cls := "CastOffs$Turns", name := "valueOfTaking", desc := "(III)I" } : MethodName)) ∈ cs_TG := cs_tgm 740 (by decide +kernel) rfl
theorem tw_742 : (Cond.instanceMethod ({ cls := "CastOffs$Turns", name := "valueOfTaking", desc := "(III)I" } : MethodName)) ∈ cs_TG := cs_tgm 742 (by decide +kernel) rfl
theorem tw_743 : (Cond.code ({ cls := "CastOffs$Turns", name := "valueOfTaking", desc := "(III)I" } : MethodName) prog_8_method_5_code (7 : Nat) (Option.some FieldType.int)) ∈ cs_TG := cs_tgm 743 (by decide +kernel) rfl
theorem tn_744 : (Cond.methodLinkNest "CastOffs$Turns" (83 : Nat) ({ cls := "CastOffs$Spit", name := "worthOf", desc := "(II)I" } : MethodName) "CastOffs") ∈ cs_NW := cs_nwm 744 (by decide +kernel) rfl
theorem tw_745 : (Cond.methodLink "CastOffs$Turns" (74 : Nat) ({ cls := "java/lang/Math", name := "max", desc := "(II)I" } : MethodName)) ∈ cs_TG := cs_tgm 745 (by decide +kernel) rfl
theorem tw_746 : (Cond.methodLink "CastOffsLaw" (109 : Nat) ({ cls := "CastOffs", name := "write", desc := "(IIZ)I" } : MethodName)) ∈ cs_TG := cs_tgm 746 (by decide +kernel) rfl
theorem tw_747 : (Cond.instanceMethod ({ cls := "CastOffs", name := "write", desc := "(IIZ)I" } : MethodName)) ∈ cs_TG := cs_tgm 747 (by decide +kernel) rfl
theorem tw_748 : (Cond.selects "CastOffs" ({ cls := "CastOffs", name := "write", desc := "(IIZ)I" } : MethodName) ({ cls := "CastOffs", name := "write", desc := "(IIZ)I" } : MethodName)) ∈ cs_TG := cs_tgm 748 (by decide +kernel) rfl
theorem tw_749 : (Cond.code ({ cls := "CastOffs", name := "write", desc := "(IIZ)I" } : MethodName) prog_1_method_24_code (4 : Nat) (Option.some FieldType.int)) ∈ cs_TG := cs_tgm 749 (by decide +kernel) rfl
theorem tn_750 : (Cond.methodLinkNest "CastOffs" (242 : Nat) ({ cls := "CastOffs$Book", name := "enter", desc := "(IIZ)Z" } : MethodName) "CastOffs") ∈ cs_NW := cs_nwm 750 (by decide +kernel) rfl
theorem tw_752 : (Cond.instanceMethod ({ cls := "CastOffs$Book", name := "enter", desc := "(IIZ)Z" } : MethodName)) ∈ cs_TG := cs_tgm 752 (by decide +kernel) rfl
theorem tw_753 : (Cond.code ({ cls := "CastOffs$Book", name := "enter", desc := "(IIZ)Z" } : MethodName) prog_2_method_2_code (4 : Nat) (Option.some FieldType.boolean)) ∈ cs_TG := cs_tgm 753 (by decide +kernel) rfl
theorem tw_754 : (Cond.methodLink "CastOffsLaw" (114 : Nat) ({ cls := "CastOffs", name := "tear", desc := "()I" } : MethodName)) ∈ cs_TG := cs_tgm 754 (by decide +kernel) rfl
theorem tw_755 : (Cond.instanceMethod ({ cls := "CastOffs", name := "tear", desc := "()I" } : MethodName)) ∈ cs_TG := cs_tgm 755 (by decide +kernel) rfl
theorem tw_756 : (Cond.selects "CastOffs" ({ cls := "CastOffs", name := "tear", desc := "()I" } : MethodName) ({ cls := "CastOffs", name := "tear", desc := "()I" } : MethodName)) ∈ cs_TG := cs_tgm 756 (by decide +kernel) rfl
theorem tw_757 : (Cond.code ({ cls := "CastOffs", name := "tear", desc := "()I" } : MethodName) prog_1_method_25_code (2 : Nat) (Option.some FieldType.int)) ∈ cs_TG := cs_tgm 757 (by decide +kernel) rfl
theorem tw_758 : (Cond.methodLink "CastOffsLaw" (118 : Nat) ({ cls := "CastOffs", name := "judge", desc := "()I" } : MethodName)) ∈ cs_TG := cs_tgm 758 (by decide +kernel) rfl
theorem tw_759 : (Cond.instanceMethod ({ cls := "CastOffs", name := "judge", desc := "()I" } : MethodName)) ∈ cs_TG := cs_tgm 759 (by decide +kernel) rfl
theorem tw_760 : (Cond.selects "CastOffs" ({ cls := "CastOffs", name := "judge", desc := "()I" } : MethodName) ({ cls := "CastOffs", name := "judge", desc := "()I" } : MethodName)) ∈ cs_TG := cs_tgm 760 (by decide +kernel) rfl
theorem tw_761 : (Cond.code ({ cls := "CastOffs", name := "judge", desc := "()I" } : MethodName) prog_1_method_26_code (1 : Nat) (Option.some FieldType.int)) ∈ cs_TG := cs_tgm 761 (by decide +kernel) rfl
theorem tn_762 : (Cond.methodLinkNest "CastOffs" (246 : Nat) ({ cls := "CastOffs$Book", name := "firstWrong", desc := "(LCastOffs$Stock;)I" } : MethodName) "CastOffs") ∈ cs_NW := cs_nwm 762 (by decide +kernel) rfl
theorem tw_764 : (Cond.instanceMethod ({ cls := "CastOffs$Book", name := "firstWrong", desc := "(LCastOffs$Stock;)I" } : MethodName)) ∈ cs_TG := cs_tgm 764 (by decide +kernel) rfl
theorem tw_765 : (Cond.code ({ cls := "CastOffs$Book", name := "firstWrong", desc := "(LCastOffs$Stock;)I" } : MethodName) prog_2_method_3_code (4 : Nat) (Option.some FieldType.int)) ∈ cs_TG := cs_tgm 765 (by decide +kernel) rfl
theorem tn_766 : (Cond.methodLinkNest "CastOffs$Book" (26 : Nat) ({ cls := "CastOffs$Stock", name := "isPart", desc := "(I)Z" } : MethodName) "CastOffs") ∈ cs_NW := cs_nwm 766 (by decide +kernel) rfl
theorem tn_767 : (Cond.methodLinkNest "CastOffs$Book" (32 : Nat) ({ cls := "CastOffs$Stock", name := "carryHome", desc := "(II)Z" } : MethodName) "CastOffs") ∈ cs_NW := cs_nwm 767 (by decide +kernel) rfl
theorem tn_768 : (Cond.methodLinkNest "CastOffs$Book" (36 : Nat) ({ cls := "CastOffs$Stock", name := "throwOut", desc := "(II)Z" } : MethodName) "CastOffs") ∈ cs_NW := cs_nwm 768 (by decide +kernel) rfl
theorem tw_769 : (Cond.methodLink "CastOffsLaw" (122 : Nat) ({ cls := "CastOffs", name := "seed", desc := "(I)I" } : MethodName)) ∈ cs_TG := cs_tgm 769 (by decide +kernel) rfl
theorem tw_770 : (Cond.instanceMethod ({ cls := "CastOffs", name := "seed", desc := "(I)I" } : MethodName)) ∈ cs_TG := cs_tgm 770 (by decide +kernel) rfl
theorem tw_771 : (Cond.selects "CastOffs" ({ cls := "CastOffs", name := "seed", desc := "(I)I" } : MethodName) ({ cls := "CastOffs", name := "seed", desc := "(I)I" } : MethodName)) ∈ cs_TG := cs_tgm 771 (by decide +kernel) rfl
theorem tw_772 : (Cond.code ({ cls := "CastOffs", name := "seed", desc := "(I)I" } : MethodName) prog_1_method_27_code (3 : Nat) (Option.some FieldType.int)) ∈ cs_TG := cs_tgm 772 (by decide +kernel) rfl
theorem tw_773 : (Cond.methodLink "CastOffsLaw" (126 : Nat) ({ cls := "CastOffs", name := "keep", desc := "(I)I" } : MethodName)) ∈ cs_TG := cs_tgm 773 (by decide +kernel) rfl
theorem tw_774 : (Cond.instanceMethod ({ cls := "CastOffs", name := "keep", desc := "(I)I" } : MethodName)) ∈ cs_TG := cs_tgm 774 (by decide +kernel) rfl
theorem tw_775 : (Cond.selects "CastOffs" ({ cls := "CastOffs", name := "keep", desc := "(I)I" } : MethodName) ({ cls := "CastOffs", name := "keep", desc := "(I)I" } : MethodName)) ∈ cs_TG := cs_tgm 775 (by decide +kernel) rfl
theorem tw_776 : (Cond.code ({ cls := "CastOffs", name := "keep", desc := "(I)I" } : MethodName) prog_1_method_28_code (2 : Nat) (Option.some FieldType.int)) ∈ cs_TG := cs_tgm 776 (by decide +kernel) rfl
theorem tw_777 : (Cond.methodLink "CastOffsLaw" (130 : Nat) ({ cls := "CastOffs", name := "goBack", desc := "(I)I" } : MethodName)) ∈ cs_TG := cs_tgm 777 (by decide +kernel) rfl
theorem tw_778 : (Cond.instanceMethod ({ cls := "CastOffs", name := "goBack", desc := "(I)I" } : MethodName)) ∈ cs_TG := cs_tgm 778 (by decide +kernel) rfl
theorem tw_779 : (Cond.selects "CastOffs" ({ cls := "CastOffs", name := "goBack", desc := "(I)I" } : MethodName) ({ cls := "CastOffs", name := "goBack", desc := "(I)I" } : MethodName)) ∈ cs_TG := cs_tgm 779 (by decide +kernel) rfl
theorem tw_780 : (Cond.code ({ cls := "CastOffs", name := "goBack", desc := "(I)I" } : MethodName) prog_1_method_29_code (2 : Nat) (Option.some FieldType.int)) ∈ cs_TG := cs_tgm 780 (by decide +kernel) rfl
theorem tw_787 : (Cond.fieldLink "CastOffsModel" (96 : Nat) "CastOffsModel" "sorts" "I") ∈ cs_TG := cs_tgm 787 (by decide +kernel) rfl
theorem tw_788 : (Cond.fieldLink "CastOffsModel" (99 : Nat) "CastOffsModel" "houses" "I") ∈ cs_TG := cs_tgm 788 (by decide +kernel) rfl
theorem tw_789 : (Cond.fieldLink "CastOffsModel" (7 : Nat) "CastOffsModel" "place" "[I") ∈ cs_TG := cs_tgm 789 (by decide +kernel) rfl
theorem tw_790 : (Cond.fieldLink "CastOffsModel" (13 : Nat) "CastOffsModel" "worths" "[I") ∈ cs_TG := cs_tgm 790 (by decide +kernel) rfl
theorem tw_791 : (Cond.fieldLink "CastOffsModel" (112 : Nat) "CastOffsModel" "toldParts" "I") ∈ cs_TG := cs_tgm 791 (by decide +kernel) rfl
theorem tw_792 : (Cond.fieldLink "CastOffsModel" (16 : Nat) "CastOffsModel" "toldSort" "[I") ∈ cs_TG := cs_tgm 792 (by decide +kernel) rfl
theorem tw_793 : (Cond.fieldLink "CastOffsModel" (19 : Nat) "CastOffsModel" "toldHome" "[I") ∈ cs_TG := cs_tgm 793 (by decide +kernel) rfl
theorem tw_794 : (Cond.fieldLink "CastOffsModel" (106 : Nat) "CastOffsModel" "parts" "I") ∈ cs_TG := cs_tgm 794 (by decide +kernel) rfl
theorem tw_795 : (Cond.fieldLink "CastOffsModel" (22 : Nat) "CastOffsModel" "sort" "[I") ∈ cs_TG := cs_tgm 795 (by decide +kernel) rfl
theorem tw_796 : (Cond.fieldLink "CastOffsModel" (25 : Nat) "CastOffsModel" "owner" "[I") ∈ cs_TG := cs_tgm 796 (by decide +kernel) rfl
theorem tw_797 : (Cond.fieldLink "CastOffsModel" (28 : Nat) "CastOffsModel" "yard" "[I") ∈ cs_TG := cs_tgm 797 (by decide +kernel) rfl
theorem tw_798 : (Cond.fieldLink "CastOffsModel" (31 : Nat) "CastOffsModel" "hands" "[I") ∈ cs_TG := cs_tgm 798 (by decide +kernel) rfl
theorem tw_799 : (Cond.fieldLink "CastOffsModel" (34 : Nat) "CastOffsModel" "hand" "[I") ∈ cs_TG := cs_tgm 799 (by decide +kernel) rfl
theorem tw_800 : (Cond.fieldLink "CastOffsModel" (109 : Nat) "CastOffsModel" "week" "I") ∈ cs_TG := cs_tgm 800 (by decide +kernel) rfl
theorem tw_801 : (Cond.fieldLink "CastOffsModel" (266 : Nat) "CastOffsModel" "seed" "I") ∈ cs_TG := cs_tgm 801 (by decide +kernel) rfl
theorem tw_802 : (Cond.fieldLink "CastOffsModel" (37 : Nat) "CastOffsModel" "text" "[I") ∈ cs_TG := cs_tgm 802 (by decide +kernel) rfl
theorem tw_803 : (Cond.fieldLink "CastOffsModel" (118 : Nat) "CastOffsModel" "texted" "I") ∈ cs_TG := cs_tgm 803 (by decide +kernel) rfl
theorem tw_804 : (Cond.fieldLink "CastOffsModel" (40 : Nat) "CastOffsModel" "faultPlace" "I") ∈ cs_TG := cs_tgm 804 (by decide +kernel) rfl
theorem tw_805 : (Cond.fieldLink "CastOffsModel" (124 : Nat) "CastOffsModel" "at0" "I") ∈ cs_TG := cs_tgm 805 (by decide +kernel) rfl
theorem tw_806 : (Cond.fieldLink "CastOffsModel" (131 : Nat) "CastOffsModel" "said" "J") ∈ cs_TG := cs_tgm 806 (by decide +kernel) rfl
theorem tw_807 : (Cond.fieldLink "CastOffsModel" (135 : Nat) "CastOffsModel" "wordEnd" "I") ∈ cs_TG := cs_tgm 807 (by decide +kernel) rfl
theorem tw_808 : (Cond.fieldLink "CastOffsModel" (161 : Nat) "CastOffsModel" "number" "I") ∈ cs_TG := cs_tgm 808 (by decide +kernel) rfl
theorem tw_809 : (Cond.fieldLink "CastOffsModel" (158 : Nat) "CastOffsModel" "numberAt" "I") ∈ cs_TG := cs_tgm 809 (by decide +kernel) rfl
theorem tw_810 : (Cond.fieldLink "CastOffsModel" (170 : Nat) "CastOffsModel" "readSorts" "I") ∈ cs_TG := cs_tgm 810 (by decide +kernel) rfl
theorem tw_811 : (Cond.fieldLink "CastOffsModel" (164 : Nat) "CastOffsModel" "readHouses" "I") ∈ cs_TG := cs_tgm 811 (by decide +kernel) rfl
theorem tw_812 : (Cond.fieldLink "CastOffsModel" (44 : Nat) "CastOffsModel" "readPlace" "[I") ∈ cs_TG := cs_tgm 812 (by decide +kernel) rfl
theorem tw_813 : (Cond.fieldLink "CastOffsModel" (173 : Nat) "CastOffsModel" "readParts" "I") ∈ cs_TG := cs_tgm 813 (by decide +kernel) rfl
theorem tw_814 : (Cond.fieldLink "CastOffsModel" (47 : Nat) "CastOffsModel" "readSort" "[I") ∈ cs_TG := cs_tgm 814 (by decide +kernel) rfl
theorem tw_815 : (Cond.fieldLink "CastOffsModel" (50 : Nat) "CastOffsModel" "readHome" "[I") ∈ cs_TG := cs_tgm 815 (by decide +kernel) rfl
theorem tw_816 : (Cond.fieldLink "CastOffsModel" (176 : Nat) "CastOffsModel" "readWorths" "I") ∈ cs_TG := cs_tgm 816 (by decide +kernel) rfl
theorem tw_817 : (Cond.fieldLink "CastOffsModel" (53 : Nat) "CastOffsModel" "readWorth" "[I") ∈ cs_TG := cs_tgm 817 (by decide +kernel) rfl
theorem tw_818 : (Cond.fieldLink "CastOffsModel" (56 : Nat) "CastOffsModel" "without" "[I") ∈ cs_TG := cs_tgm 818 (by decide +kernel) rfl
theorem tw_819 : (Cond.fieldLink "CastOffsModel" (59 : Nat) "CastOffsModel" "steps" "[I") ∈ cs_TG := cs_tgm 819 (by decide +kernel) rfl
theorem tw_820 : (Cond.fieldLink "CastOffsModel" (62 : Nat) "CastOffsModel" "takesOf" "[I") ∈ cs_TG := cs_tgm 820 (by decide +kernel) rfl
theorem tw_821 : (Cond.fieldLink "CastOffsModel" (65 : Nat) "CastOffsModel" "throwsOf" "[I") ∈ cs_TG := cs_tgm 821 (by decide +kernel) rfl
theorem tw_822 : (Cond.fieldLink "CastOffsModel" (68 : Nat) "CastOffsModel" "bestTakes" "[I") ∈ cs_TG := cs_tgm 822 (by decide +kernel) rfl
theorem tw_823 : (Cond.fieldLink "CastOffsModel" (71 : Nat) "CastOffsModel" "bestThrows" "[I") ∈ cs_TG := cs_tgm 823 (by decide +kernel) rfl
theorem tw_824 : (Cond.fieldLink "CastOffsModel" (74 : Nat) "CastOffsModel" "lie" "[I") ∈ cs_TG := cs_tgm 824 (by decide +kernel) rfl
theorem tw_825 : (Cond.fieldLink "CastOffsModel" (318 : Nat) "CastOffsModel" "lies" "I") ∈ cs_TG := cs_tgm 825 (by decide +kernel) rfl
theorem tw_826 : (Cond.fieldLink "CastOffsModel" (77 : Nat) "CastOffsModel" "comes" "[I") ∈ cs_TG := cs_tgm 826 (by decide +kernel) rfl
theorem tw_827 : (Cond.fieldLink "CastOffsModel" (195 : Nat) "CastOffsModel" "booked" "I") ∈ cs_TG := cs_tgm 827 (by decide +kernel) rfl
theorem tw_828 : (Cond.fieldLink "CastOffsModel" (80 : Nat) "CastOffsModel" "bookHouse" "[I") ∈ cs_TG := cs_tgm 828 (by decide +kernel) rfl
theorem tw_829 : (Cond.fieldLink "CastOffsModel" (83 : Nat) "CastOffsModel" "bookPart" "[I") ∈ cs_TG := cs_tgm 829 (by decide +kernel) rfl
theorem tw_830 : (Cond.fieldLink "CastOffsModel" (86 : Nat) "CastOffsModel" "bookTook" "[Z") ∈ cs_TG := cs_tgm 830 (by decide +kernel) rfl
theorem tw_831 : (Cond.fieldLink "CastOffsModel" (90 : Nat) "CastOffsModel" "images" "[I") ∈ cs_TG := cs_tgm 831 (by decide +kernel) rfl
theorem tw_832 : (Cond.fieldLink "CastOffsModel" (93 : Nat) "CastOffsModel" "isKept" "[Z") ∈ cs_TG := cs_tgm 832 (by decide +kernel) rfl
theorem tw_926 : (Cond.methodLink "CastOffsLaw" (78 : Nat) ({ cls := "CastOffsModel", name := "begin", desc := "()I" } : MethodName)) ∈ cs_TG := cs_tgm 926 (by decide +kernel) rfl
theorem tw_927 : (Cond.instanceMethod ({ cls := "CastOffsModel", name := "begin", desc := "()I" } : MethodName)) ∈ cs_TG := cs_tgm 927 (by decide +kernel) rfl
theorem tw_928 : (Cond.selects "CastOffsModel" ({ cls := "CastOffsModel", name := "begin", desc := "()I" } : MethodName) ({ cls := "CastOffsModel", name := "begin", desc := "()I" } : MethodName)) ∈ cs_TG := cs_tgm 928 (by decide +kernel) rfl
theorem tw_929 : (Cond.code ({ cls := "CastOffsModel", name := "begin", desc := "()I" } : MethodName) prog_10_method_9_code (3 : Nat) (Option.some FieldType.int)) ∈ cs_TG := cs_tgm 929 (by decide +kernel) rfl
theorem tw_930 : (Cond.methodLink "CastOffsLaw" (19 : Nat) ({ cls := "CastOffsModel", name := "feed", desc := "(IJ)I" } : MethodName)) ∈ cs_TG := cs_tgm 930 (by decide +kernel) rfl
theorem tw_931 : (Cond.instanceMethod ({ cls := "CastOffsModel", name := "feed", desc := "(IJ)I" } : MethodName)) ∈ cs_TG := cs_tgm 931 (by decide +kernel) rfl
theorem tw_932 : (Cond.selects "CastOffsModel" ({ cls := "CastOffsModel", name := "feed", desc := "(IJ)I" } : MethodName) ({ cls := "CastOffsModel", name := "feed", desc := "(IJ)I" } : MethodName)) ∈ cs_TG := cs_tgm 932 (by decide +kernel) rfl
theorem tw_933 : (Cond.code ({ cls := "CastOffsModel", name := "feed", desc := "(IJ)I" } : MethodName) prog_10_method_10_code (5 : Nat) (Option.some FieldType.int)) ∈ cs_TG := cs_tgm 933 (by decide +kernel) rfl
theorem tw_934 : (Cond.constantLong "CastOffsModel" (115 : Nat) (8 : Int64)) ∈ cs_TG := cs_tgm 934 (by decide +kernel) rfl
theorem tw_935 : (Cond.methodLink "CastOffsModel" (102 : Nat) ({ cls := "CastOffsModel", name := "in", desc := "(JJJ)Z" } : MethodName)) ∈ cs_TG := cs_tgm 935 (by decide +kernel) rfl
theorem tw_936 : (Cond.static ({ cls := "CastOffsModel", name := "in", desc := "(JJJ)Z" } : MethodName)) ∈ cs_TG := cs_tgm 936 (by decide +kernel) rfl
theorem tw_937 : (Cond.code ({ cls := "CastOffsModel", name := "in", desc := "(JJJ)Z" } : MethodName) prog_10_method_3_code (6 : Nat) (Option.some FieldType.boolean)) ∈ cs_TG := cs_tgm 937 (by decide +kernel) rfl
theorem tw_938 : (Cond.constant "CastOffsModel" (117 : Nat) (-1000000002 : Int32)) ∈ cs_TG := cs_tgm 938 (by decide +kernel) rfl
theorem tw_939 : (Cond.constant "CastOffsModel" (121 : Nat) (-1000000004 : Int32)) ∈ cs_TG := cs_tgm 939 (by decide +kernel) rfl
theorem tw_940 : (Cond.constantLong "CastOffsModel" (122 : Nat) (255 : Int64)) ∈ cs_TG := cs_tgm 940 (by decide +kernel) rfl
theorem tw_941 : (Cond.methodLink "CastOffsLaw" (24 : Nat) ({ cls := "CastOffsModel", name := "spit", desc := "()I" } : MethodName)) ∈ cs_TG := cs_tgm 941 (by decide +kernel) rfl
theorem tw_942 : (Cond.instanceMethod ({ cls := "CastOffsModel", name := "spit", desc := "()I" } : MethodName)) ∈ cs_TG := cs_tgm 942 (by decide +kernel) rfl
theorem tw_943 : (Cond.selects "CastOffsModel" ({ cls := "CastOffsModel", name := "spit", desc := "()I" } : MethodName) ({ cls := "CastOffsModel", name := "spit", desc := "()I" } : MethodName)) ∈ cs_TG := cs_tgm 943 (by decide +kernel) rfl
theorem tw_944 : (Cond.code ({ cls := "CastOffsModel", name := "spit", desc := "()I" } : MethodName) prog_10_method_19_code (3 : Nat) (Option.some FieldType.int)) ∈ cs_TG := cs_tgm 944 (by decide +kernel) rfl
theorem tw_945 : (Cond.methodLink "CastOffsModel" (127 : Nat) ({ cls := "CastOffsModel", name := "here", desc := "()I" } : MethodName)) ∈ cs_TG := cs_tgm 945 (by decide +kernel) rfl
theorem tw_947 : (Cond.instanceMethod ({ cls := "CastOffsModel", name := "here", desc := "()I" } : MethodName)) ∈ cs_TG := cs_tgm 947 (by decide +kernel) rfl
theorem tw_948 : (Cond.code ({ cls := "CastOffsModel", name := "here", desc := "()I" } : MethodName) prog_10_method_11_code (1 : Nat) (Option.some FieldType.int)) ∈ cs_TG := cs_tgm 948 (by decide +kernel) rfl
theorem tw_949 : (Cond.methodLink "CastOffsModel" (192 : Nat) ({ cls := "CastOffsModel", name := "takeClause", desc := "()I" } : MethodName)) ∈ cs_TG := cs_tgm 949 (by decide +kernel) rfl
theorem tw_951 : (Cond.instanceMethod ({ cls := "CastOffsModel", name := "takeClause", desc := "()I" } : MethodName)) ∈ cs_TG := cs_tgm 951 (by decide +kernel) rfl
theorem tw_952 : (Cond.code ({ cls := "CastOffsModel", name := "takeClause", desc := "()I" } : MethodName) prog_10_method_18_code (3 : Nat) (Option.some FieldType.int)) ∈ cs_TG := cs_tgm 952 (by decide +kernel) rfl
theorem tw_953 : (Cond.methodLink "CastOffsModel" (179 : Nat) ({ cls := "CastOffsModel", name := "readWord", desc := "()V" } : MethodName)) ∈ cs_TG := cs_tgm 953 (by decide +kernel) rfl
theorem tw_955 : (Cond.instanceMethod ({ cls := "CastOffsModel", name := "readWord", desc := "()V" } : MethodName)) ∈ cs_TG := cs_tgm 955 (by decide +kernel) rfl
theorem tw_956 : (Cond.code ({ cls := "CastOffsModel", name := "readWord", desc := "()V" } : MethodName) prog_10_method_13_code (2 : Nat) (Option.none : Option FieldType)) ∈ cs_TG := cs_tgm 956 (by decide +kernel) rfl
theorem tw_957 : (Cond.constantLong "CastOffsModel" (138 : Nat) (97 : Int64)) ∈ cs_TG := cs_tgm 957 (by decide +kernel) rfl
theorem tw_958 : (Cond.constantLong "CastOffsModel" (140 : Nat) (122 : Int64)) ∈ cs_TG := cs_tgm 958 (by decide +kernel) rfl
theorem tw_959 : (Cond.constantLong "CastOffsModel" (142 : Nat) (1000000000000 : Int64)) ∈ cs_TG := cs_tgm 959 (by decide +kernel) rfl
theorem tw_960 : (Cond.constantLong "CastOffsModel" (144 : Nat) (2000000000000 : Int64)) ∈ cs_TG := cs_tgm 960 (by decide +kernel) rfl
theorem tw_961 : (Cond.constantLong "CastOffsModel" (146 : Nat) (27 : Int64)) ∈ cs_TG := cs_tgm 961 (by decide +kernel) rfl
theorem tw_962 : (Cond.constantLong "CastOffsModel" (148 : Nat) (96 : Int64)) ∈ cs_TG := cs_tgm 962 (by decide +kernel) rfl
theorem tw_963 : (Cond.methodLink "CastOffsModel" (182 : Nat) ({ cls := "CastOffsModel", name := "code", desc := "(IIIII)J" } : MethodName)) ∈ cs_TG := cs_tgm 963 (by decide +kernel) rfl
theorem tw_964 : (Cond.static ({ cls := "CastOffsModel", name := "code", desc := "(IIIII)J" } : MethodName)) ∈ cs_TG := cs_tgm 964 (by decide +kernel) rfl
theorem tw_965 : (Cond.code ({ cls := "CastOffsModel", name := "code", desc := "(IIIII)J" } : MethodName) prog_10_method_14_code (5 : Nat) (Option.some FieldType.long)) ∈ cs_TG := cs_tgm 965 (by decide +kernel) rfl
theorem tw_966 : (Cond.methodLink "CastOffsModel" (154 : Nat) ({ cls := "CastOffsModel", name := "fails", desc := "(II)I" } : MethodName)) ∈ cs_TG := cs_tgm 966 (by decide +kernel) rfl
theorem tw_968 : (Cond.instanceMethod ({ cls := "CastOffsModel", name := "fails", desc := "(II)I" } : MethodName)) ∈ cs_TG := cs_tgm 968 (by decide +kernel) rfl
theorem tw_969 : (Cond.code ({ cls := "CastOffsModel", name := "fails", desc := "(II)I" } : MethodName) prog_10_method_12_code (3 : Nat) (Option.some FieldType.int)) ∈ cs_TG := cs_tgm 969 (by decide +kernel) rfl
theorem tw_970 : (Cond.methodLink "CastOffsModel" (167 : Nat) ({ cls := "CastOffsModel", name := "takeNumber", desc := "(II)I" } : MethodName)) ∈ cs_TG := cs_tgm 970 (by decide +kernel) rfl
theorem tw_972 : (Cond.instanceMethod ({ cls := "CastOffsModel", name := "takeNumber", desc := "(II)I" } : MethodName)) ∈ cs_TG := cs_tgm 972 (by decide +kernel) rfl
theorem tw_973 : (Cond.code ({ cls := "CastOffsModel", name := "takeNumber", desc := "(II)I" } : MethodName) prog_10_method_15_code (4 : Nat) (Option.some FieldType.int)) ∈ cs_TG := cs_tgm 973 (by decide +kernel) rfl
theorem tw_974 : (Cond.constantLong "CastOffsModel" (150 : Nat) (48 : Int64)) ∈ cs_TG := cs_tgm 974 (by decide +kernel) rfl
theorem tw_975 : (Cond.constantLong "CastOffsModel" (152 : Nat) (57 : Int64)) ∈ cs_TG := cs_tgm 975 (by decide +kernel) rfl
theorem tw_976 : (Cond.methodLink "CastOffsModel" (186 : Nat) ({ cls := "CastOffsModel", name := "takeHouse", desc := "()I" } : MethodName)) ∈ cs_TG := cs_tgm 976 (by decide +kernel) rfl
theorem tw_978 : (Cond.instanceMethod ({ cls := "CastOffsModel", name := "takeHouse", desc := "()I" } : MethodName)) ∈ cs_TG := cs_tgm 978 (by decide +kernel) rfl
theorem tw_979 : (Cond.code ({ cls := "CastOffsModel", name := "takeHouse", desc := "()I" } : MethodName) prog_10_method_16_code (4 : Nat) (Option.some FieldType.int)) ∈ cs_TG := cs_tgm 979 (by decide +kernel) rfl
theorem tw_980 : (Cond.methodLink "CastOffsModel" (189 : Nat) ({ cls := "CastOffsModel", name := "takeWorth", desc := "()I" } : MethodName)) ∈ cs_TG := cs_tgm 980 (by decide +kernel) rfl
theorem tw_982 : (Cond.instanceMethod ({ cls := "CastOffsModel", name := "takeWorth", desc := "()I" } : MethodName)) ∈ cs_TG := cs_tgm 982 (by decide +kernel) rfl
theorem tw_983 : (Cond.code ({ cls := "CastOffsModel", name := "takeWorth", desc := "()I" } : MethodName) prog_10_method_17_code (4 : Nat) (Option.some FieldType.int)) ∈ cs_TG := cs_tgm 983 (by decide +kernel) rfl
theorem tw_984 : (Cond.methodLink "CastOffsModel" (198 : Nat) ({ cls := "CastOffsModel", name := "begin", desc := "()I" } : MethodName)) ∈ cs_TG := cs_tgm 984 (by decide +kernel) rfl
theorem tw_985 : (Cond.methodLink "CastOffsLaw" (28 : Nat) ({ cls := "CastOffsModel", name := "fault", desc := "()I" } : MethodName)) ∈ cs_TG := cs_tgm 985 (by decide +kernel) rfl
theorem tw_986 : (Cond.instanceMethod ({ cls := "CastOffsModel", name := "fault", desc := "()I" } : MethodName)) ∈ cs_TG := cs_tgm 986 (by decide +kernel) rfl
theorem tw_987 : (Cond.selects "CastOffsModel" ({ cls := "CastOffsModel", name := "fault", desc := "()I" } : MethodName) ({ cls := "CastOffsModel", name := "fault", desc := "()I" } : MethodName)) ∈ cs_TG := cs_tgm 987 (by decide +kernel) rfl
theorem tw_988 : (Cond.code ({ cls := "CastOffsModel", name := "fault", desc := "()I" } : MethodName) prog_10_method_20_code (1 : Nat) (Option.some FieldType.int)) ∈ cs_TG := cs_tgm 988 (by decide +kernel) rfl
theorem tw_989 : (Cond.methodLink "CastOffsLaw" (33 : Nat) ({ cls := "CastOffsModel", name := "told", desc := "(I)I" } : MethodName)) ∈ cs_TG := cs_tgm 989 (by decide +kernel) rfl
theorem tw_990 : (Cond.instanceMethod ({ cls := "CastOffsModel", name := "told", desc := "(I)I" } : MethodName)) ∈ cs_TG := cs_tgm 990 (by decide +kernel) rfl
theorem tw_991 : (Cond.selects "CastOffsModel" ({ cls := "CastOffsModel", name := "told", desc := "(I)I" } : MethodName) ({ cls := "CastOffsModel", name := "told", desc := "(I)I" } : MethodName)) ∈ cs_TG := cs_tgm 991 (by decide +kernel) rfl
theorem tw_992 : (Cond.code ({ cls := "CastOffsModel", name := "told", desc := "(I)I" } : MethodName) prog_10_method_27_code (2 : Nat) (Option.some FieldType.int)) ∈ cs_TG := cs_tgm 992 (by decide +kernel) rfl
theorem tw_993 : (Cond.methodLink "CastOffsModel" (215 : Nat) ({ cls := "CastOffsModel", name := "poor", desc := "()I" } : MethodName)) ∈ cs_TG := cs_tgm 993 (by decide +kernel) rfl
theorem tw_995 : (Cond.instanceMethod ({ cls := "CastOffsModel", name := "poor", desc := "()I" } : MethodName)) ∈ cs_TG := cs_tgm 995 (by decide +kernel) rfl
theorem tw_996 : (Cond.code ({ cls := "CastOffsModel", name := "poor", desc := "()I" } : MethodName) prog_10_method_26_code (3 : Nat) (Option.some FieldType.int)) ∈ cs_TG := cs_tgm 996 (by decide +kernel) rfl
theorem tw_997 : (Cond.methodLink "CastOffsModel" (212 : Nat) ({ cls := "CastOffsModel", name := "countOf", desc := "(I)I" } : MethodName)) ∈ cs_TG := cs_tgm 997 (by decide +kernel) rfl
theorem tw_999 : (Cond.instanceMethod ({ cls := "CastOffsModel", name := "countOf", desc := "(I)I" } : MethodName)) ∈ cs_TG := cs_tgm 999 (by decide +kernel) rfl
theorem tw_1000 : (Cond.code ({ cls := "CastOffsModel", name := "countOf", desc := "(I)I" } : MethodName) prog_10_method_21_code (4 : Nat) (Option.some FieldType.int)) ∈ cs_TG := cs_tgm 1000 (by decide +kernel) rfl
theorem tw_1001 : (Cond.methodLink "CastOffsLaw" (38 : Nat) ({ cls := "CastOffsModel", name := "house", desc := "(II)I" } : MethodName)) ∈ cs_TG := cs_tgm 1001 (by decide +kernel) rfl
theorem tw_1002 : (Cond.instanceMethod ({ cls := "CastOffsModel", name := "house", desc := "(II)I" } : MethodName)) ∈ cs_TG := cs_tgm 1002 (by decide +kernel) rfl
theorem tw_1003 : (Cond.selects "CastOffsModel" ({ cls := "CastOffsModel", name := "house", desc := "(II)I" } : MethodName) ({ cls := "CastOffsModel", name := "house", desc := "(II)I" } : MethodName)) ∈ cs_TG := cs_tgm 1003 (by decide +kernel) rfl
theorem tw_1004 : (Cond.code ({ cls := "CastOffsModel", name := "house", desc := "(II)I" } : MethodName) prog_10_method_28_code (3 : Nat) (Option.some FieldType.int)) ∈ cs_TG := cs_tgm 1004 (by decide +kernel) rfl
theorem tw_1005 : (Cond.methodLink "CastOffsModel" (218 : Nat) ({ cls := "CastOffsModel", name := "isHouse", desc := "(I)Z" } : MethodName)) ∈ cs_TG := cs_tgm 1005 (by decide +kernel) rfl
theorem tw_1007 : (Cond.instanceMethod ({ cls := "CastOffsModel", name := "isHouse", desc := "(I)Z" } : MethodName)) ∈ cs_TG := cs_tgm 1007 (by decide +kernel) rfl
theorem tw_1008 : (Cond.code ({ cls := "CastOffsModel", name := "isHouse", desc := "(I)Z" } : MethodName) prog_10_method_6_code (2 : Nat) (Option.some FieldType.boolean)) ∈ cs_TG := cs_tgm 1008 (by decide +kernel) rfl
theorem tw_1009 : (Cond.constant "CastOffsModel" (222 : Nat) (-1000000001 : Int32)) ∈ cs_TG := cs_tgm 1009 (by decide +kernel) rfl
theorem tw_1010 : (Cond.methodLink "CastOffsModel" (223 : Nat) ({ cls := "CastOffsModel", name := "wealthOf", desc := "(I)I" } : MethodName)) ∈ cs_TG := cs_tgm 1010 (by decide +kernel) rfl
theorem tw_1012 : (Cond.instanceMethod ({ cls := "CastOffsModel", name := "wealthOf", desc := "(I)I" } : MethodName)) ∈ cs_TG := cs_tgm 1012 (by decide +kernel) rfl
theorem tw_1013 : (Cond.code ({ cls := "CastOffsModel", name := "wealthOf", desc := "(I)I" } : MethodName) prog_10_method_24_code (2 : Nat) (Option.some FieldType.int)) ∈ cs_TG := cs_tgm 1013 (by decide +kernel) rfl
theorem tw_1014 : (Cond.methodLink "CastOffsModel" (205 : Nat) ({ cls := "CastOffsModel", name := "sortsOf", desc := "(I)I" } : MethodName)) ∈ cs_TG := cs_tgm 1014 (by decide +kernel) rfl
theorem tw_1016 : (Cond.instanceMethod ({ cls := "CastOffsModel", name := "sortsOf", desc := "(I)I" } : MethodName)) ∈ cs_TG := cs_tgm 1016 (by decide +kernel) rfl
theorem tw_1017 : (Cond.code ({ cls := "CastOffsModel", name := "sortsOf", desc := "(I)I" } : MethodName) prog_10_method_22_code (4 : Nat) (Option.some FieldType.int)) ∈ cs_TG := cs_tgm 1017 (by decide +kernel) rfl
theorem tw_1018 : (Cond.methodLink "CastOffsModel" (209 : Nat) ({ cls := "CastOffsModel", name := "worthOf", desc := "(II)I" } : MethodName)) ∈ cs_TG := cs_tgm 1018 (by decide +kernel) rfl
theorem tw_1020 : (Cond.instanceMethod ({ cls := "CastOffsModel", name := "worthOf", desc := "(II)I" } : MethodName)) ∈ cs_TG := cs_tgm 1020 (by decide +kernel) rfl
theorem tw_1021 : (Cond.code ({ cls := "CastOffsModel", name := "worthOf", desc := "(II)I" } : MethodName) prog_10_method_23_code (5 : Nat) (Option.some FieldType.int)) ∈ cs_TG := cs_tgm 1021 (by decide +kernel) rfl
theorem tw_1022 : (Cond.methodLink "CastOffsModel" (201 : Nat) ({ cls := "CastOffsModel", name := "has", desc := "(II)Z" } : MethodName)) ∈ cs_TG := cs_tgm 1022 (by decide +kernel) rfl
theorem tw_1023 : (Cond.static ({ cls := "CastOffsModel", name := "has", desc := "(II)Z" } : MethodName)) ∈ cs_TG := cs_tgm 1023 (by decide +kernel) rfl
theorem tw_1024 : (Cond.code ({ cls := "CastOffsModel", name := "has", desc := "(II)Z" } : MethodName) prog_10_method_4_code (2 : Nat) (Option.some FieldType.boolean)) ∈ cs_TG := cs_tgm 1024 (by decide +kernel) rfl
theorem tw_1025 : (Cond.methodLink "CastOffsModel" (226 : Nat) ({ cls := "CastOffsModel", name := "inYard", desc := "(I)I" } : MethodName)) ∈ cs_TG := cs_tgm 1025 (by decide +kernel) rfl
theorem tw_1027 : (Cond.instanceMethod ({ cls := "CastOffsModel", name := "inYard", desc := "(I)I" } : MethodName)) ∈ cs_TG := cs_tgm 1027 (by decide +kernel) rfl
theorem tw_1028 : (Cond.code ({ cls := "CastOffsModel", name := "inYard", desc := "(I)I" } : MethodName) prog_10_method_25_code (4 : Nat) (Option.some FieldType.int)) ∈ cs_TG := cs_tgm 1028 (by decide +kernel) rfl
theorem tw_1029 : (Cond.methodLink "CastOffsLaw" (42 : Nat) ({ cls := "CastOffsModel", name := "worth", desc := "(II)I" } : MethodName)) ∈ cs_TG := cs_tgm 1029 (by decide +kernel) rfl
theorem tw_1030 : (Cond.instanceMethod ({ cls := "CastOffsModel", name := "worth", desc := "(II)I" } : MethodName)) ∈ cs_TG := cs_tgm 1030 (by decide +kernel) rfl
theorem tw_1031 : (Cond.selects "CastOffsModel" ({ cls := "CastOffsModel", name := "worth", desc := "(II)I" } : MethodName) ({ cls := "CastOffsModel", name := "worth", desc := "(II)I" } : MethodName)) ∈ cs_TG := cs_tgm 1031 (by decide +kernel) rfl
theorem tw_1032 : (Cond.code ({ cls := "CastOffsModel", name := "worth", desc := "(II)I" } : MethodName) prog_10_method_29_code (3 : Nat) (Option.some FieldType.int)) ∈ cs_TG := cs_tgm 1032 (by decide +kernel) rfl
theorem tw_1033 : (Cond.methodLink "CastOffsModel" (229 : Nat) ({ cls := "CastOffsModel", name := "isSort", desc := "(I)Z" } : MethodName)) ∈ cs_TG := cs_tgm 1033 (by decide +kernel) rfl
theorem tw_1035 : (Cond.instanceMethod ({ cls := "CastOffsModel", name := "isSort", desc := "(I)Z" } : MethodName)) ∈ cs_TG := cs_tgm 1035 (by decide +kernel) rfl
theorem tw_1036 : (Cond.code ({ cls := "CastOffsModel", name := "isSort", desc := "(I)Z" } : MethodName) prog_10_method_8_code (2 : Nat) (Option.some FieldType.boolean)) ∈ cs_TG := cs_tgm 1036 (by decide +kernel) rfl
theorem tw_1037 : (Cond.methodLink "CastOffsLaw" (46 : Nat) ({ cls := "CastOffsModel", name := "part", desc := "(II)I" } : MethodName)) ∈ cs_TG := cs_tgm 1037 (by decide +kernel) rfl
theorem tw_1038 : (Cond.instanceMethod ({ cls := "CastOffsModel", name := "part", desc := "(II)I" } : MethodName)) ∈ cs_TG := cs_tgm 1038 (by decide +kernel) rfl
theorem tw_1039 : (Cond.selects "CastOffsModel" ({ cls := "CastOffsModel", name := "part", desc := "(II)I" } : MethodName) ({ cls := "CastOffsModel", name := "part", desc := "(II)I" } : MethodName)) ∈ cs_TG := cs_tgm 1039 (by decide +kernel) rfl
theorem tw_1040 : (Cond.code ({ cls := "CastOffsModel", name := "part", desc := "(II)I" } : MethodName) prog_10_method_30_code (3 : Nat) (Option.some FieldType.int)) ∈ cs_TG := cs_tgm 1040 (by decide +kernel) rfl
theorem tw_1041 : (Cond.methodLink "CastOffsModel" (232 : Nat) ({ cls := "CastOffsModel", name := "isPart", desc := "(I)Z" } : MethodName)) ∈ cs_TG := cs_tgm 1041 (by decide +kernel) rfl
theorem tw_1043 : (Cond.instanceMethod ({ cls := "CastOffsModel", name := "isPart", desc := "(I)Z" } : MethodName)) ∈ cs_TG := cs_tgm 1043 (by decide +kernel) rfl
theorem tw_1044 : (Cond.code ({ cls := "CastOffsModel", name := "isPart", desc := "(I)Z" } : MethodName) prog_10_method_7_code (2 : Nat) (Option.some FieldType.boolean)) ∈ cs_TG := cs_tgm 1044 (by decide +kernel) rfl
theorem tw_1045 : (Cond.methodLink "CastOffsLaw" (50 : Nat) ({ cls := "CastOffsModel", name := "hand", desc := "(II)I" } : MethodName)) ∈ cs_TG := cs_tgm 1045 (by decide +kernel) rfl
theorem tw_1046 : (Cond.instanceMethod ({ cls := "CastOffsModel", name := "hand", desc := "(II)I" } : MethodName)) ∈ cs_TG := cs_tgm 1046 (by decide +kernel) rfl
theorem tw_1047 : (Cond.selects "CastOffsModel" ({ cls := "CastOffsModel", name := "hand", desc := "(II)I" } : MethodName) ({ cls := "CastOffsModel", name := "hand", desc := "(II)I" } : MethodName)) ∈ cs_TG := cs_tgm 1047 (by decide +kernel) rfl
theorem tw_1048 : (Cond.code ({ cls := "CastOffsModel", name := "hand", desc := "(II)I" } : MethodName) prog_10_method_31_code (3 : Nat) (Option.some FieldType.int)) ∈ cs_TG := cs_tgm 1048 (by decide +kernel) rfl
theorem tw_1049 : (Cond.methodLink "CastOffsLaw" (54 : Nat) ({ cls := "CastOffsModel", name := "toss", desc := "(II)I" } : MethodName)) ∈ cs_TG := cs_tgm 1049 (by decide +kernel) rfl
theorem tw_1050 : (Cond.instanceMethod ({ cls := "CastOffsModel", name := "toss", desc := "(II)I" } : MethodName)) ∈ cs_TG := cs_tgm 1050 (by decide +kernel) rfl
theorem tw_1051 : (Cond.selects "CastOffsModel" ({ cls := "CastOffsModel", name := "toss", desc := "(II)I" } : MethodName) ({ cls := "CastOffsModel", name := "toss", desc := "(II)I" } : MethodName)) ∈ cs_TG := cs_tgm 1051 (by decide +kernel) rfl
theorem tw_1052 : (Cond.code ({ cls := "CastOffsModel", name := "toss", desc := "(II)I" } : MethodName) prog_10_method_35_code (3 : Nat) (Option.some FieldType.int)) ∈ cs_TG := cs_tgm 1052 (by decide +kernel) rfl
theorem tw_1053 : (Cond.constant "CastOffsModel" (235 : Nat) (-1000000003 : Int32)) ∈ cs_TG := cs_tgm 1053 (by decide +kernel) rfl
theorem tw_1054 : (Cond.methodLink "CastOffsModel" (236 : Nat) ({ cls := "CastOffsModel", name := "tossNow", desc := "(II)V" } : MethodName)) ∈ cs_TG := cs_tgm 1054 (by decide +kernel) rfl
theorem tw_1056 : (Cond.instanceMethod ({ cls := "CastOffsModel", name := "tossNow", desc := "(II)V" } : MethodName)) ∈ cs_TG := cs_tgm 1056 (by decide +kernel) rfl
theorem tw_1057 : (Cond.code ({ cls := "CastOffsModel", name := "tossNow", desc := "(II)V" } : MethodName) prog_10_method_32_code (3 : Nat) (Option.none : Option FieldType)) ∈ cs_TG := cs_tgm 1057 (by decide +kernel) rfl
theorem tw_1058 : (Cond.methodLink "CastOffsLaw" (58 : Nat) ({ cls := "CastOffsModel", name := "take", desc := "(II)I" } : MethodName)) ∈ cs_TG := cs_tgm 1058 (by decide +kernel) rfl
theorem tw_1059 : (Cond.instanceMethod ({ cls := "CastOffsModel", name := "take", desc := "(II)I" } : MethodName)) ∈ cs_TG := cs_tgm 1059 (by decide +kernel) rfl
theorem tw_1060 : (Cond.selects "CastOffsModel" ({ cls := "CastOffsModel", name := "take", desc := "(II)I" } : MethodName) ({ cls := "CastOffsModel", name := "take", desc := "(II)I" } : MethodName)) ∈ cs_TG := cs_tgm 1060 (by decide +kernel) rfl
theorem tw_1061 : (Cond.code ({ cls := "CastOffsModel", name := "take", desc := "(II)I" } : MethodName) prog_10_method_36_code (3 : Nat) (Option.some FieldType.int)) ∈ cs_TG := cs_tgm 1061 (by decide +kernel) rfl
theorem tw_1062 : (Cond.methodLink "CastOffsModel" (240 : Nat) ({ cls := "CastOffsModel", name := "mayTake", desc := "(II)Z" } : MethodName)) ∈ cs_TG := cs_tgm 1062 (by decide +kernel) rfl
theorem tw_1064 : (Cond.instanceMethod ({ cls := "CastOffsModel", name := "mayTake", desc := "(II)Z" } : MethodName)) ∈ cs_TG := cs_tgm 1064 (by decide +kernel) rfl
theorem tw_1065 : (Cond.code ({ cls := "CastOffsModel", name := "mayTake", desc := "(II)Z" } : MethodName) prog_10_method_34_code (3 : Nat) (Option.some FieldType.boolean)) ∈ cs_TG := cs_tgm 1065 (by decide +kernel) rfl
theorem tw_1066 : (Cond.methodLink "CastOffsModel" (243 : Nat) ({ cls := "CastOffsModel", name := "takeNow", desc := "(II)V" } : MethodName)) ∈ cs_TG := cs_tgm 1066 (by decide +kernel) rfl
theorem tw_1068 : (Cond.instanceMethod ({ cls := "CastOffsModel", name := "takeNow", desc := "(II)V" } : MethodName)) ∈ cs_TG := cs_tgm 1068 (by decide +kernel) rfl
theorem tw_1069 : (Cond.code ({ cls := "CastOffsModel", name := "takeNow", desc := "(II)V" } : MethodName) prog_10_method_33_code (3 : Nat) (Option.none : Option FieldType)) ∈ cs_TG := cs_tgm 1069 (by decide +kernel) rfl
theorem tw_1070 : (Cond.methodLink "CastOffsLaw" (62 : Nat) ({ cls := "CastOffsModel", name := "ashore", desc := "(I)I" } : MethodName)) ∈ cs_TG := cs_tgm 1070 (by decide +kernel) rfl
theorem tw_1071 : (Cond.instanceMethod ({ cls := "CastOffsModel", name := "ashore", desc := "(I)I" } : MethodName)) ∈ cs_TG := cs_tgm 1071 (by decide +kernel) rfl
theorem tw_1072 : (Cond.selects "CastOffsModel" ({ cls := "CastOffsModel", name := "ashore", desc := "(I)I" } : MethodName) ({ cls := "CastOffsModel", name := "ashore", desc := "(I)I" } : MethodName)) ∈ cs_TG := cs_tgm 1072 (by decide +kernel) rfl
theorem tw_1073 : (Cond.code ({ cls := "CastOffsModel", name := "ashore", desc := "(I)I" } : MethodName) prog_10_method_38_code (2 : Nat) (Option.some FieldType.int)) ∈ cs_TG := cs_tgm 1073 (by decide +kernel) rfl
theorem tw_1074 : (Cond.methodLink "CastOffsModel" (246 : Nat) ({ cls := "CastOffsModel", name := "ashoreNow", desc := "(I)I" } : MethodName)) ∈ cs_TG := cs_tgm 1074 (by decide +kernel) rfl
theorem tw_1076 : (Cond.instanceMethod ({ cls := "CastOffsModel", name := "ashoreNow", desc := "(I)I" } : MethodName)) ∈ cs_TG := cs_tgm 1076 (by decide +kernel) rfl
theorem tw_1077 : (Cond.code ({ cls := "CastOffsModel", name := "ashoreNow", desc := "(I)I" } : MethodName) prog_10_method_37_code (2 : Nat) (Option.some FieldType.int)) ∈ cs_TG := cs_tgm 1077 (by decide +kernel) rfl
theorem tw_1078 : (Cond.methodLink "CastOffsLaw" (66 : Nat) ({ cls := "CastOffsModel", name := "first", desc := "(I)I" } : MethodName)) ∈ cs_TG := cs_tgm 1078 (by decide +kernel) rfl
theorem tw_1079 : (Cond.instanceMethod ({ cls := "CastOffsModel", name := "first", desc := "(I)I" } : MethodName)) ∈ cs_TG := cs_tgm 1079 (by decide +kernel) rfl
theorem tw_1080 : (Cond.selects "CastOffsModel" ({ cls := "CastOffsModel", name := "first", desc := "(I)I" } : MethodName) ({ cls := "CastOffsModel", name := "first", desc := "(I)I" } : MethodName)) ∈ cs_TG := cs_tgm 1080 (by decide +kernel) rfl
theorem tw_1081 : (Cond.code ({ cls := "CastOffsModel", name := "first", desc := "(I)I" } : MethodName) prog_10_method_40_code (6 : Nat) (Option.some FieldType.int)) ∈ cs_TG := cs_tgm 1081 (by decide +kernel) rfl
theorem tw_1082 : (Cond.methodLink "CastOffsModel" (249 : Nat) ({ cls := "CastOffsModel", name := "gainOf", desc := "(II)I" } : MethodName)) ∈ cs_TG := cs_tgm 1082 (by decide +kernel) rfl
theorem tw_1084 : (Cond.instanceMethod ({ cls := "CastOffsModel", name := "gainOf", desc := "(II)I" } : MethodName)) ∈ cs_TG := cs_tgm 1084 (by decide +kernel) rfl
theorem tw_1085 : (Cond.code ({ cls := "CastOffsModel", name := "gainOf", desc := "(II)I" } : MethodName) prog_10_method_39_code (3 : Nat) (Option.some FieldType.int)) ∈ cs_TG := cs_tgm 1085 (by decide +kernel) rfl
theorem tw_1086 : (Cond.methodLink "CastOffsModel" (252 : Nat) ({ cls := "CastOffsModel", name := "size", desc := "(I)I" } : MethodName)) ∈ cs_TG := cs_tgm 1086 (by decide +kernel) rfl
theorem tw_1087 : (Cond.static ({ cls := "CastOffsModel", name := "size", desc := "(I)I" } : MethodName)) ∈ cs_TG := cs_tgm 1087 (by decide +kernel) rfl
theorem tw_1088 : (Cond.code ({ cls := "CastOffsModel", name := "size", desc := "(I)I" } : MethodName) prog_10_method_5_code (1 : Nat) (Option.some FieldType.int)) ∈ cs_TG := cs_tgm 1088 (by decide +kernel) rfl
theorem tw_1089 : (Cond.methodLink "CastOffsLaw" (70 : Nat) ({ cls := "CastOffsModel", name := "week", desc := "(I)I" } : MethodName)) ∈ cs_TG := cs_tgm 1089 (by decide +kernel) rfl
theorem tw_1090 : (Cond.instanceMethod ({ cls := "CastOffsModel", name := "week", desc := "(I)I" } : MethodName)) ∈ cs_TG := cs_tgm 1090 (by decide +kernel) rfl
theorem tw_1091 : (Cond.selects "CastOffsModel" ({ cls := "CastOffsModel", name := "week", desc := "(I)I" } : MethodName) ({ cls := "CastOffsModel", name := "week", desc := "(I)I" } : MethodName)) ∈ cs_TG := cs_tgm 1091 (by decide +kernel) rfl
theorem tw_1092 : (Cond.code ({ cls := "CastOffsModel", name := "week", desc := "(I)I" } : MethodName) prog_10_method_44_code (5 : Nat) (Option.some FieldType.int)) ∈ cs_TG := cs_tgm 1092 (by decide +kernel) rfl
theorem tw_1093 : (Cond.constantLong "CastOffsModel" (261 : Nat) (99 : Int64)) ∈ cs_TG := cs_tgm 1093 (by decide +kernel) rfl
theorem tw_1094 : (Cond.methodLink "CastOffsModel" (263 : Nat) ({ cls := "CastOffsModel", name := "weekNow", desc := "()I" } : MethodName)) ∈ cs_TG := cs_tgm 1094 (by decide +kernel) rfl
theorem tw_1096 : (Cond.instanceMethod ({ cls := "CastOffsModel", name := "weekNow", desc := "()I" } : MethodName)) ∈ cs_TG := cs_tgm 1096 (by decide +kernel) rfl
theorem tw_1097 : (Cond.code ({ cls := "CastOffsModel", name := "weekNow", desc := "()I" } : MethodName) prog_10_method_43_code (5 : Nat) (Option.some FieldType.int)) ∈ cs_TG := cs_tgm 1097 (by decide +kernel) rfl
theorem tw_1098 : (Cond.methodLink "CastOffsModel" (255 : Nat) ({ cls := "CastOffsModel", name := "bestTake", desc := "(I)I" } : MethodName)) ∈ cs_TG := cs_tgm 1098 (by decide +kernel) rfl
theorem tw_1100 : (Cond.instanceMethod ({ cls := "CastOffsModel", name := "bestTake", desc := "(I)I" } : MethodName)) ∈ cs_TG := cs_tgm 1100 (by decide +kernel) rfl
theorem tw_1101 : (Cond.code ({ cls := "CastOffsModel", name := "bestTake", desc := "(I)I" } : MethodName) prog_10_method_42_code (6 : Nat) (Option.some FieldType.int)) ∈ cs_TG := cs_tgm 1101 (by decide +kernel) rfl
theorem tw_1102 : (Cond.methodLink "CastOffsModel" (258 : Nat) ({ cls := "CastOffsModel", name := "isIdle", desc := "(II)Z" } : MethodName)) ∈ cs_TG := cs_tgm 1102 (by decide +kernel) rfl
theorem tw_1104 : (Cond.instanceMethod ({ cls := "CastOffsModel", name := "isIdle", desc := "(II)Z" } : MethodName)) ∈ cs_TG := cs_tgm 1104 (by decide +kernel) rfl
theorem tw_1105 : (Cond.code ({ cls := "CastOffsModel", name := "isIdle", desc := "(II)Z" } : MethodName) prog_10_method_41_code (5 : Nat) (Option.some FieldType.boolean)) ∈ cs_TG := cs_tgm 1105 (by decide +kernel) rfl
theorem tw_1106 : (Cond.methodLink "CastOffsLaw" (74 : Nat) ({ cls := "CastOffsModel", name := "drift", desc := "(I)I" } : MethodName)) ∈ cs_TG := cs_tgm 1106 (by decide +kernel) rfl
theorem tw_1107 : (Cond.instanceMethod ({ cls := "CastOffsModel", name := "drift", desc := "(I)I" } : MethodName)) ∈ cs_TG := cs_tgm 1107 (by decide +kernel) rfl
theorem tw_1108 : (Cond.selects "CastOffsModel" ({ cls := "CastOffsModel", name := "drift", desc := "(I)I" } : MethodName) ({ cls := "CastOffsModel", name := "drift", desc := "(I)I" } : MethodName)) ∈ cs_TG := cs_tgm 1108 (by decide +kernel) rfl
theorem tw_1109 : (Cond.code ({ cls := "CastOffsModel", name := "drift", desc := "(I)I" } : MethodName) prog_10_method_46_code (5 : Nat) (Option.some FieldType.int)) ∈ cs_TG := cs_tgm 1109 (by decide +kernel) rfl
theorem tw_1110 : (Cond.methodLink "CastOffsModel" (276 : Nat) ({ cls := "CastOffsModel", name := "draw", desc := "(I)I" } : MethodName)) ∈ cs_TG := cs_tgm 1110 (by decide +kernel) rfl
theorem tw_1112 : (Cond.instanceMethod ({ cls := "CastOffsModel", name := "draw", desc := "(I)I" } : MethodName)) ∈ cs_TG := cs_tgm 1112 (by decide +kernel) rfl
theorem tw_1113 : (Cond.code ({ cls := "CastOffsModel", name := "draw", desc := "(I)I" } : MethodName) prog_10_method_45_code (2 : Nat) (Option.some FieldType.int)) ∈ cs_TG := cs_tgm 1113 (by decide +kernel) rfl
theorem tw_1114 : (Cond.constantLong "CastOffsModel" (269 : Nat) (1103515245 : Int64)) ∈ cs_TG := cs_tgm 1114 (by decide +kernel) rfl
theorem tw_1115 : (Cond.constantLong "CastOffsModel" (271 : Nat) (12345 : Int64)) ∈ cs_TG := cs_tgm 1115 (by decide +kernel) rfl
theorem tw_1116 : (Cond.constantLong "CastOffsModel" (273 : Nat) (2147483648 : Int64)) ∈ cs_TG := cs_tgm 1116 (by decide +kernel) rfl
theorem tw_1117 : (Cond.constant "CastOffsModel" (275 : Nat) (65536 : Int32)) ∈ cs_TG := cs_tgm 1117 (by decide +kernel) rfl
theorem tw_1118 : (Cond.methodLink "CastOffsLaw" (82 : Nat) ({ cls := "CastOffsModel", name := "gain", desc := "(II)I" } : MethodName)) ∈ cs_TG := cs_tgm 1118 (by decide +kernel) rfl
theorem tw_1119 : (Cond.instanceMethod ({ cls := "CastOffsModel", name := "gain", desc := "(II)I" } : MethodName)) ∈ cs_TG := cs_tgm 1119 (by decide +kernel) rfl
theorem tw_1120 : (Cond.selects "CastOffsModel" ({ cls := "CastOffsModel", name := "gain", desc := "(II)I" } : MethodName) ({ cls := "CastOffsModel", name := "gain", desc := "(II)I" } : MethodName)) ∈ cs_TG := cs_tgm 1120 (by decide +kernel) rfl
theorem tw_1121 : (Cond.code ({ cls := "CastOffsModel", name := "gain", desc := "(II)I" } : MethodName) prog_10_method_47_code (3 : Nat) (Option.some FieldType.int)) ∈ cs_TG := cs_tgm 1121 (by decide +kernel) rfl
theorem tw_1122 : (Cond.methodLink "CastOffsLaw" (87 : Nat) ({ cls := "CastOffsModel", name := "down", desc := "(III)I" } : MethodName)) ∈ cs_TG := cs_tgm 1122 (by decide +kernel) rfl
theorem tw_1123 : (Cond.instanceMethod ({ cls := "CastOffsModel", name := "down", desc := "(III)I" } : MethodName)) ∈ cs_TG := cs_tgm 1123 (by decide +kernel) rfl
theorem tw_1124 : (Cond.selects "CastOffsModel" ({ cls := "CastOffsModel", name := "down", desc := "(III)I" } : MethodName) ({ cls := "CastOffsModel", name := "down", desc := "(III)I" } : MethodName)) ∈ cs_TG := cs_tgm 1124 (by decide +kernel) rfl
theorem tw_1125 : (Cond.code ({ cls := "CastOffsModel", name := "down", desc := "(III)I" } : MethodName) prog_10_method_48_code (7 : Nat) (Option.some FieldType.int)) ∈ cs_TG := cs_tgm 1125 (by decide +kernel) rfl
theorem tw_1126 : (Cond.constantLong "CastOffsModel" (279 : Nat) (20 : Int64)) ∈ cs_TG := cs_tgm 1126 (by decide +kernel) rfl
theorem tw_1127 : (Cond.methodLink "CastOffsModel" (281 : Nat) ({ cls := "CastOffsModel", name := "save", desc := "(I)V" } : MethodName)) ∈ cs_TG := cs_tgm 1127 (by decide +kernel) rfl
theorem tw_1129 : (Cond.instanceMethod ({ cls := "CastOffsModel", name := "save", desc := "(I)V" } : MethodName)) ∈ cs_TG := cs_tgm 1129 (by decide +kernel) rfl
theorem tw_1130 : (Cond.code ({ cls := "CastOffsModel", name := "save", desc := "(I)V" } : MethodName) prog_10_method_70_code (4 : Nat) (Option.none : Option FieldType)) ∈ cs_TG := cs_tgm 1130 (by decide +kernel) rfl
theorem tw_1131 : (Cond.methodLink "CastOffsModel" (285 : Nat) ({ cls := "CastOffsModel", name := "load", desc := "(I)V" } : MethodName)) ∈ cs_TG := cs_tgm 1131 (by decide +kernel) rfl
theorem tw_1133 : (Cond.instanceMethod ({ cls := "CastOffsModel", name := "load", desc := "(I)V" } : MethodName)) ∈ cs_TG := cs_tgm 1133 (by decide +kernel) rfl
theorem tw_1134 : (Cond.code ({ cls := "CastOffsModel", name := "load", desc := "(I)V" } : MethodName) prog_10_method_71_code (4 : Nat) (Option.none : Option FieldType)) ∈ cs_TG := cs_tgm 1134 (by decide +kernel) rfl
theorem tw_1135 : (Cond.methodLink "CastOffsLaw" (91 : Nat) ({ cls := "CastOffsModel", name := "chain", desc := "(II)I" } : MethodName)) ∈ cs_TG := cs_tgm 1135 (by decide +kernel) rfl
theorem tw_1136 : (Cond.instanceMethod ({ cls := "CastOffsModel", name := "chain", desc := "(II)I" } : MethodName)) ∈ cs_TG := cs_tgm 1136 (by decide +kernel) rfl
theorem tw_1137 : (Cond.selects "CastOffsModel" ({ cls := "CastOffsModel", name := "chain", desc := "(II)I" } : MethodName) ({ cls := "CastOffsModel", name := "chain", desc := "(II)I" } : MethodName)) ∈ cs_TG := cs_tgm 1137 (by decide +kernel) rfl
theorem tw_1138 : (Cond.code ({ cls := "CastOffsModel", name := "chain", desc := "(II)I" } : MethodName) prog_10_method_51_code (7 : Nat) (Option.some FieldType.int)) ∈ cs_TG := cs_tgm 1138 (by decide +kernel) rfl
theorem tw_1139 : (Cond.methodLink "CastOffsModel" (288 : Nat) ({ cls := "CastOffsModel", name := "fromOf", desc := "(I)I" } : MethodName)) ∈ cs_TG := cs_tgm 1139 (by decide +kernel) rfl
theorem tw_1141 : (Cond.instanceMethod ({ cls := "CastOffsModel", name := "fromOf", desc := "(I)I" } : MethodName)) ∈ cs_TG := cs_tgm 1141 (by decide +kernel) rfl
theorem tw_1142 : (Cond.code ({ cls := "CastOffsModel", name := "fromOf", desc := "(I)I" } : MethodName) prog_10_method_50_code (2 : Nat) (Option.some FieldType.int)) ∈ cs_TG := cs_tgm 1142 (by decide +kernel) rfl
theorem tw_1143 : (Cond.methodLink "CastOffsModel" (291 : Nat) ({ cls := "CastOffsModel", name := "betterBy", desc := "(III)I" } : MethodName)) ∈ cs_TG := cs_tgm 1143 (by decide +kernel) rfl
theorem tw_1145 : (Cond.instanceMethod ({ cls := "CastOffsModel", name := "betterBy", desc := "(III)I" } : MethodName)) ∈ cs_TG := cs_tgm 1145 (by decide +kernel) rfl
theorem tw_1146 : (Cond.code ({ cls := "CastOffsModel", name := "betterBy", desc := "(III)I" } : MethodName) prog_10_method_49_code (6 : Nat) (Option.some FieldType.int)) ∈ cs_TG := cs_tgm 1146 (by decide +kernel) rfl
theorem tw_1147 : (Cond.methodLink "CastOffsLaw" (95 : Nat) ({ cls := "CastOffsModel", name := "rings", desc := "(II)I" } : MethodName)) ∈ cs_TG := cs_tgm 1147 (by decide +kernel) rfl
theorem tw_1148 : (Cond.instanceMethod ({ cls := "CastOffsModel", name := "rings", desc := "(II)I" } : MethodName)) ∈ cs_TG := cs_tgm 1148 (by decide +kernel) rfl
theorem tw_1149 : (Cond.selects "CastOffsModel" ({ cls := "CastOffsModel", name := "rings", desc := "(II)I" } : MethodName) ({ cls := "CastOffsModel", name := "rings", desc := "(II)I" } : MethodName)) ∈ cs_TG := cs_tgm 1149 (by decide +kernel) rfl
theorem tw_1150 : (Cond.code ({ cls := "CastOffsModel", name := "rings", desc := "(II)I" } : MethodName) prog_10_method_57_code (4 : Nat) (Option.some FieldType.int)) ∈ cs_TG := cs_tgm 1150 (by decide +kernel) rfl
theorem tw_1151 : (Cond.methodLink "CastOffsModel" (307 : Nat) ({ cls := "CastOffsModel", name := "findRings", desc := "()I" } : MethodName)) ∈ cs_TG := cs_tgm 1151 (by decide +kernel) rfl
theorem tw_1153 : (Cond.instanceMethod ({ cls := "CastOffsModel", name := "findRings", desc := "()I" } : MethodName)) ∈ cs_TG := cs_tgm 1153 (by decide +kernel) rfl
theorem tw_1154 : (Cond.code ({ cls := "CastOffsModel", name := "findRings", desc := "()I" } : MethodName) prog_10_method_56_code (8 : Nat) (Option.some FieldType.int)) ∈ cs_TG := cs_tgm 1154 (by decide +kernel) rfl
theorem tw_1155 : (Cond.methodLink "CastOffsModel" (298 : Nat) ({ cls := "CastOffsModel", name := "areRings", desc := "(I)Z" } : MethodName)) ∈ cs_TG := cs_tgm 1155 (by decide +kernel) rfl
theorem tw_1157 : (Cond.instanceMethod ({ cls := "CastOffsModel", name := "areRings", desc := "(I)Z" } : MethodName)) ∈ cs_TG := cs_tgm 1157 (by decide +kernel) rfl
theorem tw_1158 : (Cond.code ({ cls := "CastOffsModel", name := "areRings", desc := "(I)Z" } : MethodName) prog_10_method_52_code (7 : Nat) (Option.some FieldType.boolean)) ∈ cs_TG := cs_tgm 1158 (by decide +kernel) rfl
theorem tw_1159 : (Cond.methodLink "CastOffsModel" (301 : Nat) ({ cls := "CastOffsModel", name := "areThrown", desc := "(I)Z" } : MethodName)) ∈ cs_TG := cs_tgm 1159 (by decide +kernel) rfl
theorem tw_1161 : (Cond.instanceMethod ({ cls := "CastOffsModel", name := "areThrown", desc := "(I)Z" } : MethodName)) ∈ cs_TG := cs_tgm 1161 (by decide +kernel) rfl
theorem tw_1162 : (Cond.code ({ cls := "CastOffsModel", name := "areThrown", desc := "(I)Z" } : MethodName) prog_10_method_54_code (5 : Nat) (Option.some FieldType.boolean)) ∈ cs_TG := cs_tgm 1162 (by decide +kernel) rfl
theorem tw_1163 : (Cond.methodLink "CastOffsModel" (295 : Nat) ({ cls := "CastOffsModel", name := "partOf", desc := "(II)I" } : MethodName)) ∈ cs_TG := cs_tgm 1163 (by decide +kernel) rfl
theorem tw_1165 : (Cond.instanceMethod ({ cls := "CastOffsModel", name := "partOf", desc := "(II)I" } : MethodName)) ∈ cs_TG := cs_tgm 1165 (by decide +kernel) rfl
theorem tw_1166 : (Cond.code ({ cls := "CastOffsModel", name := "partOf", desc := "(II)I" } : MethodName) prog_10_method_53_code (5 : Nat) (Option.some FieldType.int)) ∈ cs_TG := cs_tgm 1166 (by decide +kernel) rfl
theorem tw_1167 : (Cond.methodLink "CastOffsModel" (304 : Nat) ({ cls := "CastOffsModel", name := "ringsSum", desc := "()I" } : MethodName)) ∈ cs_TG := cs_tgm 1167 (by decide +kernel) rfl
theorem tw_1169 : (Cond.instanceMethod ({ cls := "CastOffsModel", name := "ringsSum", desc := "()I" } : MethodName)) ∈ cs_TG := cs_tgm 1169 (by decide +kernel) rfl
theorem tw_1170 : (Cond.code ({ cls := "CastOffsModel", name := "ringsSum", desc := "()I" } : MethodName) prog_10_method_55_code (4 : Nat) (Option.some FieldType.int)) ∈ cs_TG := cs_tgm 1170 (by decide +kernel) rfl
theorem tw_1171 : (Cond.methodLink "CastOffsLaw" (99 : Nat) ({ cls := "CastOffsModel", name := "odds", desc := "(II)I" } : MethodName)) ∈ cs_TG := cs_tgm 1171 (by decide +kernel) rfl
theorem tw_1172 : (Cond.instanceMethod ({ cls := "CastOffsModel", name := "odds", desc := "(II)I" } : MethodName)) ∈ cs_TG := cs_tgm 1172 (by decide +kernel) rfl
theorem tw_1173 : (Cond.selects "CastOffsModel" ({ cls := "CastOffsModel", name := "odds", desc := "(II)I" } : MethodName) ({ cls := "CastOffsModel", name := "odds", desc := "(II)I" } : MethodName)) ∈ cs_TG := cs_tgm 1173 (by decide +kernel) rfl
theorem tw_1174 : (Cond.code ({ cls := "CastOffsModel", name := "odds", desc := "(II)I" } : MethodName) prog_10_method_59_code (3 : Nat) (Option.some FieldType.int)) ∈ cs_TG := cs_tgm 1174 (by decide +kernel) rfl
theorem tw_1175 : (Cond.constantLong "CastOffsModel" (312 : Nat) (60 : Int64)) ∈ cs_TG := cs_tgm 1175 (by decide +kernel) rfl
theorem tw_1176 : (Cond.methodLink "CastOffsModel" (314 : Nat) ({ cls := "CastOffsModel", name := "oddsBy", desc := "(I)J" } : MethodName)) ∈ cs_TG := cs_tgm 1176 (by decide +kernel) rfl
theorem tw_1178 : (Cond.instanceMethod ({ cls := "CastOffsModel", name := "oddsBy", desc := "(I)J" } : MethodName)) ∈ cs_TG := cs_tgm 1178 (by decide +kernel) rfl
theorem tw_1179 : (Cond.code ({ cls := "CastOffsModel", name := "oddsBy", desc := "(I)J" } : MethodName) prog_10_method_58_code (5 : Nat) (Option.some FieldType.long)) ∈ cs_TG := cs_tgm 1179 (by decide +kernel) rfl
theorem tw_1180 : (Cond.constantLong "CastOffsModel" (310 : Nat) (1000000000 : Int64)) ∈ cs_TG := cs_tgm 1180 (by decide +kernel) rfl
theorem tw_1181 : (Cond.methodLink "CastOffsLaw" (103 : Nat) ({ cls := "CastOffsModel", name := "waits", desc := "(III)I" } : MethodName)) ∈ cs_TG := cs_tgm 1181 (by decide +kernel) rfl
theorem tw_1182 : (Cond.instanceMethod ({ cls := "CastOffsModel", name := "waits", desc := "(III)I" } : MethodName)) ∈ cs_TG := cs_tgm 1182 (by decide +kernel) rfl
theorem tw_1183 : (Cond.selects "CastOffsModel" ({ cls := "CastOffsModel", name := "waits", desc := "(III)I" } : MethodName) ({ cls := "CastOffsModel", name := "waits", desc := "(III)I" } : MethodName)) ∈ cs_TG := cs_tgm 1183 (by decide +kernel) rfl
theorem tw_1184 : (Cond.code ({ cls := "CastOffsModel", name := "waits", desc := "(III)I" } : MethodName) prog_10_method_60_code (13 : Nat) (Option.some FieldType.int)) ∈ cs_TG := cs_tgm 1184 (by decide +kernel) rfl
theorem tw_1185 : (Cond.methodLink "CastOffsLaw" (108 : Nat) ({ cls := "CastOffsModel", name := "turnsAt", desc := "(IIIII)I" } : MethodName)) ∈ cs_TG := cs_tgm 1185 (by decide +kernel) rfl
theorem tw_1186 : (Cond.instanceMethod ({ cls := "CastOffsModel", name := "turnsAt", desc := "(IIIII)I" } : MethodName)) ∈ cs_TG := cs_tgm 1186 (by decide +kernel) rfl
theorem tw_1187 : (Cond.selects "CastOffsModel" ({ cls := "CastOffsModel", name := "turnsAt", desc := "(IIIII)I" } : MethodName) ({ cls := "CastOffsModel", name := "turnsAt", desc := "(IIIII)I" } : MethodName)) ∈ cs_TG := cs_tgm 1187 (by decide +kernel) rfl
theorem tw_1188 : (Cond.code ({ cls := "CastOffsModel", name := "turnsAt", desc := "(IIIII)I" } : MethodName) prog_10_method_65_code (14 : Nat) (Option.some FieldType.int)) ∈ cs_TG := cs_tgm 1188 (by decide +kernel) rfl
theorem tw_1189 : (Cond.constantLong "CastOffsModel" (324 : Nat) (4 : Int64)) ∈ cs_TG := cs_tgm 1189 (by decide +kernel) rfl
theorem tw_1190 : (Cond.methodLink "CastOffsModel" (326 : Nat) ({ cls := "CastOffsModel", name := "findLie", desc := "(I)V" } : MethodName)) ∈ cs_TG := cs_tgm 1190 (by decide +kernel) rfl
theorem tw_1192 : (Cond.instanceMethod ({ cls := "CastOffsModel", name := "findLie", desc := "(I)V" } : MethodName)) ∈ cs_TG := cs_tgm 1192 (by decide +kernel) rfl
theorem tw_1193 : (Cond.code ({ cls := "CastOffsModel", name := "findLie", desc := "(I)V" } : MethodName) prog_10_method_62_code (3 : Nat) (Option.none : Option FieldType)) ∈ cs_TG := cs_tgm 1193 (by decide +kernel) rfl
theorem tw_1194 : (Cond.methodLink "CastOffsModel" (321 : Nat) ({ cls := "CastOffsModel", name := "power", desc := "(I)I" } : MethodName)) ∈ cs_TG := cs_tgm 1194 (by decide +kernel) rfl
theorem tw_1195 : (Cond.static ({ cls := "CastOffsModel", name := "power", desc := "(I)I" } : MethodName)) ∈ cs_TG := cs_tgm 1195 (by decide +kernel) rfl
theorem tw_1196 : (Cond.code ({ cls := "CastOffsModel", name := "power", desc := "(I)I" } : MethodName) prog_10_method_61_code (3 : Nat) (Option.some FieldType.int)) ∈ cs_TG := cs_tgm 1196 (by decide +kernel) rfl
theorem tw_1197 : (Cond.methodLink "CastOffsModel" (329 : Nat) ({ cls := "CastOffsModel", name := "endOf", desc := "(IIII)I" } : MethodName)) ∈ cs_TG := cs_tgm 1197 (by decide +kernel) rfl
theorem tw_1199 : (Cond.instanceMethod ({ cls := "CastOffsModel", name := "endOf", desc := "(IIII)I" } : MethodName)) ∈ cs_TG := cs_tgm 1199 (by decide +kernel) rfl
theorem tw_1200 : (Cond.code ({ cls := "CastOffsModel", name := "endOf", desc := "(IIII)I" } : MethodName) prog_10_method_64_code (10 : Nat) (Option.some FieldType.int)) ∈ cs_TG := cs_tgm 1200 (by decide +kernel) rfl
theorem tw_1201 : (Cond.methodLink "CastOffsModel" (333 : Nat) ({ cls := "CastOffsModel", name := "mayBe", desc := "(III)Z" } : MethodName)) ∈ cs_TG := cs_tgm 1201 (by decide +kernel) rfl
theorem tw_1203 : (Cond.instanceMethod ({ cls := "CastOffsModel", name := "mayBe", desc := "(III)Z" } : MethodName)) ∈ cs_TG := cs_tgm 1203 (by decide +kernel) rfl
theorem tw_1204 : (Cond.code ({ cls := "CastOffsModel", name := "mayBe", desc := "(III)Z" } : MethodName) prog_10_method_63_code (9 : Nat) (Option.some FieldType.boolean)) ∈ cs_TG := cs_tgm 1204 (by decide +kernel) rfl
theorem tw_1205 : (Cond.methodLink "CastOffsLaw" (113 : Nat) ({ cls := "CastOffsModel", name := "write", desc := "(IIZ)I" } : MethodName)) ∈ cs_TG := cs_tgm 1205 (by decide +kernel) rfl
theorem tw_1206 : (Cond.instanceMethod ({ cls := "CastOffsModel", name := "write", desc := "(IIZ)I" } : MethodName)) ∈ cs_TG := cs_tgm 1206 (by decide +kernel) rfl
theorem tw_1207 : (Cond.selects "CastOffsModel" ({ cls := "CastOffsModel", name := "write", desc := "(IIZ)I" } : MethodName) ({ cls := "CastOffsModel", name := "write", desc := "(IIZ)I" } : MethodName)) ∈ cs_TG := cs_tgm 1207 (by decide +kernel) rfl
theorem tw_1208 : (Cond.code ({ cls := "CastOffsModel", name := "write", desc := "(IIZ)I" } : MethodName) prog_10_method_66_code (4 : Nat) (Option.some FieldType.int)) ∈ cs_TG := cs_tgm 1208 (by decide +kernel) rfl
theorem tw_1209 : (Cond.methodLink "CastOffsLaw" (117 : Nat) ({ cls := "CastOffsModel", name := "tear", desc := "()I" } : MethodName)) ∈ cs_TG := cs_tgm 1209 (by decide +kernel) rfl
theorem tw_1210 : (Cond.instanceMethod ({ cls := "CastOffsModel", name := "tear", desc := "()I" } : MethodName)) ∈ cs_TG := cs_tgm 1210 (by decide +kernel) rfl
theorem tw_1211 : (Cond.selects "CastOffsModel" ({ cls := "CastOffsModel", name := "tear", desc := "()I" } : MethodName) ({ cls := "CastOffsModel", name := "tear", desc := "()I" } : MethodName)) ∈ cs_TG := cs_tgm 1211 (by decide +kernel) rfl
theorem tw_1212 : (Cond.code ({ cls := "CastOffsModel", name := "tear", desc := "()I" } : MethodName) prog_10_method_67_code (2 : Nat) (Option.some FieldType.int)) ∈ cs_TG := cs_tgm 1212 (by decide +kernel) rfl
theorem tw_1213 : (Cond.methodLink "CastOffsLaw" (121 : Nat) ({ cls := "CastOffsModel", name := "judge", desc := "()I" } : MethodName)) ∈ cs_TG := cs_tgm 1213 (by decide +kernel) rfl
theorem tw_1214 : (Cond.instanceMethod ({ cls := "CastOffsModel", name := "judge", desc := "()I" } : MethodName)) ∈ cs_TG := cs_tgm 1214 (by decide +kernel) rfl
theorem tw_1215 : (Cond.selects "CastOffsModel" ({ cls := "CastOffsModel", name := "judge", desc := "()I" } : MethodName) ({ cls := "CastOffsModel", name := "judge", desc := "()I" } : MethodName)) ∈ cs_TG := cs_tgm 1215 (by decide +kernel) rfl
theorem tw_1216 : (Cond.code ({ cls := "CastOffsModel", name := "judge", desc := "()I" } : MethodName) prog_10_method_68_code (6 : Nat) (Option.some FieldType.int)) ∈ cs_TG := cs_tgm 1216 (by decide +kernel) rfl
theorem tw_1217 : (Cond.methodLink "CastOffsLaw" (125 : Nat) ({ cls := "CastOffsModel", name := "seed", desc := "(I)I" } : MethodName)) ∈ cs_TG := cs_tgm 1217 (by decide +kernel) rfl
theorem tw_1218 : (Cond.instanceMethod ({ cls := "CastOffsModel", name := "seed", desc := "(I)I" } : MethodName)) ∈ cs_TG := cs_tgm 1218 (by decide +kernel) rfl
theorem tw_1219 : (Cond.selects "CastOffsModel" ({ cls := "CastOffsModel", name := "seed", desc := "(I)I" } : MethodName) ({ cls := "CastOffsModel", name := "seed", desc := "(I)I" } : MethodName)) ∈ cs_TG := cs_tgm 1219 (by decide +kernel) rfl
theorem tw_1220 : (Cond.code ({ cls := "CastOffsModel", name := "seed", desc := "(I)I" } : MethodName) prog_10_method_69_code (3 : Nat) (Option.some FieldType.int)) ∈ cs_TG := cs_tgm 1220 (by decide +kernel) rfl
theorem tw_1221 : (Cond.methodLink "CastOffsLaw" (129 : Nat) ({ cls := "CastOffsModel", name := "keep", desc := "(I)I" } : MethodName)) ∈ cs_TG := cs_tgm 1221 (by decide +kernel) rfl
theorem tw_1222 : (Cond.instanceMethod ({ cls := "CastOffsModel", name := "keep", desc := "(I)I" } : MethodName)) ∈ cs_TG := cs_tgm 1222 (by decide +kernel) rfl
theorem tw_1223 : (Cond.selects "CastOffsModel" ({ cls := "CastOffsModel", name := "keep", desc := "(I)I" } : MethodName) ({ cls := "CastOffsModel", name := "keep", desc := "(I)I" } : MethodName)) ∈ cs_TG := cs_tgm 1223 (by decide +kernel) rfl
theorem tw_1224 : (Cond.code ({ cls := "CastOffsModel", name := "keep", desc := "(I)I" } : MethodName) prog_10_method_72_code (2 : Nat) (Option.some FieldType.int)) ∈ cs_TG := cs_tgm 1224 (by decide +kernel) rfl
theorem tw_1225 : (Cond.methodLink "CastOffsLaw" (133 : Nat) ({ cls := "CastOffsModel", name := "goBack", desc := "(I)I" } : MethodName)) ∈ cs_TG := cs_tgm 1225 (by decide +kernel) rfl
theorem tw_1226 : (Cond.instanceMethod ({ cls := "CastOffsModel", name := "goBack", desc := "(I)I" } : MethodName)) ∈ cs_TG := cs_tgm 1226 (by decide +kernel) rfl
theorem tw_1227 : (Cond.selects "CastOffsModel" ({ cls := "CastOffsModel", name := "goBack", desc := "(I)I" } : MethodName) ({ cls := "CastOffsModel", name := "goBack", desc := "(I)I" } : MethodName)) ∈ cs_TG := cs_tgm 1227 (by decide +kernel) rfl
theorem tw_1228 : (Cond.code ({ cls := "CastOffsModel", name := "goBack", desc := "(I)I" } : MethodName) prog_10_method_73_code (2 : Nat) (Option.some FieldType.int)) ∈ cs_TG := cs_tgm 1228 (by decide +kernel) rfl
theorem tw_1229 : (Cond.constantLong "CastOffsLaw" (13 : Nat) (4294967295 : Int64)) ∈ cs_TG := cs_tgm 1229 (by decide +kernel) rfl
theorem ts_0 : Cond.selects "CastOffs$Reader" ({ cls := "CastOffs$Reader", name := "readText", desc := "(I)Z" } : MethodName) ({ cls := "CastOffs$Reader", name := "readText", desc := "(I)Z" } : MethodName) ∈ cs_TG := cs_slm ({ cls := "CastOffs$Reader", name := "readText", desc := "(I)Z" } : MethodName) 8 0 (by decide +kernel)
theorem ts_1 : Cond.selects "CastOffs$Spit" ({ cls := "CastOffs$Spit", name := "clear", desc := "()V" } : MethodName) ({ cls := "CastOffs$Spit", name := "clear", desc := "()V" } : MethodName) ∈ cs_TG := cs_slm ({ cls := "CastOffs$Spit", name := "clear", desc := "()V" } : MethodName) 7 1 (by decide +kernel)
theorem ts_2 : Cond.selects "CastOffs$Reader" ({ cls := "CastOffs$Reader", name := "skipBlanks", desc := "()V" } : MethodName) ({ cls := "CastOffs$Reader", name := "skipBlanks", desc := "()V" } : MethodName) ∈ cs_TG := cs_slm ({ cls := "CastOffs$Reader", name := "skipBlanks", desc := "()V" } : MethodName) 8 2 (by decide +kernel)
theorem ts_3 : Cond.selects "CastOffs$Reader" ({ cls := "CastOffs$Reader", name := "readClause", desc := "()V" } : MethodName) ({ cls := "CastOffs$Reader", name := "readClause", desc := "()V" } : MethodName) ∈ cs_TG := cs_slm ({ cls := "CastOffs$Reader", name := "readClause", desc := "()V" } : MethodName) 8 3 (by decide +kernel)
theorem ts_4 : Cond.selects "CastOffs$Reader" ({ cls := "CastOffs$Reader", name := "isWord", desc := "(Ljava/lang/String;I)Z" } : MethodName) ({ cls := "CastOffs$Reader", name := "isWord", desc := "(Ljava/lang/String;I)Z" } : MethodName) ∈ cs_TG := cs_slm ({ cls := "CastOffs$Reader", name := "isWord", desc := "(Ljava/lang/String;I)Z" } : MethodName) 8 4 (by decide +kernel)
theorem ts_5 : Cond.selects "CastOffs$Reader" ({ cls := "CastOffs$Reader", name := "readSorts", desc := "(I)V" } : MethodName) ({ cls := "CastOffs$Reader", name := "readSorts", desc := "(I)V" } : MethodName) ∈ cs_TG := cs_slm ({ cls := "CastOffs$Reader", name := "readSorts", desc := "(I)V" } : MethodName) 8 5 (by decide +kernel)
theorem ts_6 : Cond.selects "CastOffs$Reader" ({ cls := "CastOffs$Reader", name := "fail", desc := "(II)V" } : MethodName) ({ cls := "CastOffs$Reader", name := "fail", desc := "(II)V" } : MethodName) ∈ cs_TG := cs_slm ({ cls := "CastOffs$Reader", name := "fail", desc := "(II)V" } : MethodName) 8 6 (by decide +kernel)
theorem ts_7 : Cond.selects "CastOffs$Reader" ({ cls := "CastOffs$Reader", name := "readNumber", desc := "(II)I" } : MethodName) ({ cls := "CastOffs$Reader", name := "readNumber", desc := "(II)I" } : MethodName) ∈ cs_TG := cs_slm ({ cls := "CastOffs$Reader", name := "readNumber", desc := "(II)I" } : MethodName) 8 7 (by decide +kernel)
theorem ts_8 : Cond.selects "CastOffs$Reader" ({ cls := "CastOffs$Reader", name := "numberFollows", desc := "()Z" } : MethodName) ({ cls := "CastOffs$Reader", name := "numberFollows", desc := "()Z" } : MethodName) ∈ cs_TG := cs_slm ({ cls := "CastOffs$Reader", name := "numberFollows", desc := "()Z" } : MethodName) 8 8 (by decide +kernel)
theorem ts_9 : Cond.selects "CastOffs$Reader" ({ cls := "CastOffs$Reader", name := "readEnd", desc := "()Z" } : MethodName) ({ cls := "CastOffs$Reader", name := "readEnd", desc := "()Z" } : MethodName) ∈ cs_TG := cs_slm ({ cls := "CastOffs$Reader", name := "readEnd", desc := "()Z" } : MethodName) 8 9 (by decide +kernel)
theorem ts_10 : Cond.selects "CastOffs$Reader" ({ cls := "CastOffs$Reader", name := "readHouse", desc := "(I)V" } : MethodName) ({ cls := "CastOffs$Reader", name := "readHouse", desc := "(I)V" } : MethodName) ∈ cs_TG := cs_slm ({ cls := "CastOffs$Reader", name := "readHouse", desc := "(I)V" } : MethodName) 8 10 (by decide +kernel)
theorem ts_11 : Cond.selects "CastOffs$Reader" ({ cls := "CastOffs$Reader", name := "readWorth", desc := "(I)V" } : MethodName) ({ cls := "CastOffs$Reader", name := "readWorth", desc := "(I)V" } : MethodName) ∈ cs_TG := cs_slm ({ cls := "CastOffs$Reader", name := "readWorth", desc := "(I)V" } : MethodName) 8 11 (by decide +kernel)
theorem ts_12 : Cond.selects "CastOffs$Spit" ({ cls := "CastOffs$Spit", name := "copyFrom", desc := "(LCastOffs$Spit;)V" } : MethodName) ({ cls := "CastOffs$Spit", name := "copyFrom", desc := "(LCastOffs$Spit;)V" } : MethodName) ∈ cs_TG := cs_slm ({ cls := "CastOffs$Spit", name := "copyFrom", desc := "(LCastOffs$Spit;)V" } : MethodName) 7 12 (by decide +kernel)
theorem ts_13 : Cond.selects "CastOffs$Stock" ({ cls := "CastOffs$Stock", name := "layOut", desc := "()V" } : MethodName) ({ cls := "CastOffs$Stock", name := "layOut", desc := "()V" } : MethodName) ∈ cs_TG := cs_slm ({ cls := "CastOffs$Stock", name := "layOut", desc := "()V" } : MethodName) 12 13 (by decide +kernel)
theorem ts_14 : Cond.selects "CastOffs$Stock" ({ cls := "CastOffs$Stock", name := "addPart", desc := "(II)Z" } : MethodName) ({ cls := "CastOffs$Stock", name := "addPart", desc := "(II)Z" } : MethodName) ∈ cs_TG := cs_slm ({ cls := "CastOffs$Stock", name := "addPart", desc := "(II)Z" } : MethodName) 12 14 (by decide +kernel)
theorem ts_15 : Cond.selects "CastOffs$Stock" ({ cls := "CastOffs$Stock", name := "handOver", desc := "(II)V" } : MethodName) ({ cls := "CastOffs$Stock", name := "handOver", desc := "(II)V" } : MethodName) ∈ cs_TG := cs_slm ({ cls := "CastOffs$Stock", name := "handOver", desc := "(II)V" } : MethodName) 12 15 (by decide +kernel)
theorem ts_16 : Cond.selects "CastOffs$Stock" ({ cls := "CastOffs$Stock", name := "poorHouses", desc := "()I" } : MethodName) ({ cls := "CastOffs$Stock", name := "poorHouses", desc := "()I" } : MethodName) ∈ cs_TG := cs_slm ({ cls := "CastOffs$Stock", name := "poorHouses", desc := "()I" } : MethodName) 12 16 (by decide +kernel)
theorem ts_17 : Cond.selects "CastOffs$Stock" ({ cls := "CastOffs$Stock", name := "countLying", desc := "()I" } : MethodName) ({ cls := "CastOffs$Stock", name := "countLying", desc := "()I" } : MethodName) ∈ cs_TG := cs_slm ({ cls := "CastOffs$Stock", name := "countLying", desc := "()I" } : MethodName) 12 17 (by decide +kernel)
theorem ts_18 : Cond.selects "CastOffs$Stock" ({ cls := "CastOffs$Stock", name := "lies", desc := "(I)Z" } : MethodName) ({ cls := "CastOffs$Stock", name := "lies", desc := "(I)Z" } : MethodName) ∈ cs_TG := cs_slm ({ cls := "CastOffs$Stock", name := "lies", desc := "(I)Z" } : MethodName) 12 18 (by decide +kernel)
theorem ts_19 : Cond.selects "CastOffs$Spit" ({ cls := "CastOffs$Spit", name := "isHouse", desc := "(I)Z" } : MethodName) ({ cls := "CastOffs$Spit", name := "isHouse", desc := "(I)Z" } : MethodName) ∈ cs_TG := cs_slm ({ cls := "CastOffs$Spit", name := "isHouse", desc := "(I)Z" } : MethodName) 7 19 (by decide +kernel)
theorem ts_20 : Cond.selects "CastOffs$Stock" ({ cls := "CastOffs$Stock", name := "wealthOf", desc := "(I)I" } : MethodName) ({ cls := "CastOffs$Stock", name := "wealthOf", desc := "(I)I" } : MethodName) ∈ cs_TG := cs_slm ({ cls := "CastOffs$Stock", name := "wealthOf", desc := "(I)I" } : MethodName) 12 20 (by decide +kernel)
theorem ts_21 : Cond.selects "CastOffs$Spit" ({ cls := "CastOffs$Spit", name := "worthOf", desc := "(II)I" } : MethodName) ({ cls := "CastOffs$Spit", name := "worthOf", desc := "(II)I" } : MethodName) ∈ cs_TG := cs_slm ({ cls := "CastOffs$Spit", name := "worthOf", desc := "(II)I" } : MethodName) 7 21 (by decide +kernel)
theorem ts_22 : Cond.selects "CastOffs$Stock" ({ cls := "CastOffs$Stock", name := "sortsHad", desc := "(I)I" } : MethodName) ({ cls := "CastOffs$Stock", name := "sortsHad", desc := "(I)I" } : MethodName) ∈ cs_TG := cs_slm ({ cls := "CastOffs$Stock", name := "sortsHad", desc := "(I)I" } : MethodName) 12 22 (by decide +kernel)
theorem ts_23 : Cond.selects "CastOffs$Stock" ({ cls := "CastOffs$Stock", name := "countInYard", desc := "(I)I" } : MethodName) ({ cls := "CastOffs$Stock", name := "countInYard", desc := "(I)I" } : MethodName) ∈ cs_TG := cs_slm ({ cls := "CastOffs$Stock", name := "countInYard", desc := "(I)I" } : MethodName) 12 23 (by decide +kernel)
theorem ts_24 : Cond.selects "CastOffs$Spit" ({ cls := "CastOffs$Spit", name := "isSort", desc := "(I)Z" } : MethodName) ({ cls := "CastOffs$Spit", name := "isSort", desc := "(I)Z" } : MethodName) ∈ cs_TG := cs_slm ({ cls := "CastOffs$Spit", name := "isSort", desc := "(I)Z" } : MethodName) 7 24 (by decide +kernel)
theorem ts_25 : Cond.selects "CastOffs$Stock" ({ cls := "CastOffs$Stock", name := "isPart", desc := "(I)Z" } : MethodName) ({ cls := "CastOffs$Stock", name := "isPart", desc := "(I)Z" } : MethodName) ∈ cs_TG := cs_slm ({ cls := "CastOffs$Stock", name := "isPart", desc := "(I)Z" } : MethodName) 12 25 (by decide +kernel)
theorem ts_26 : Cond.selects "CastOffs$Stock" ({ cls := "CastOffs$Stock", name := "throwOut", desc := "(II)Z" } : MethodName) ({ cls := "CastOffs$Stock", name := "throwOut", desc := "(II)Z" } : MethodName) ∈ cs_TG := cs_slm ({ cls := "CastOffs$Stock", name := "throwOut", desc := "(II)Z" } : MethodName) 12 26 (by decide +kernel)
theorem ts_27 : Cond.selects "CastOffs$Stock" ({ cls := "CastOffs$Stock", name := "carryHome", desc := "(II)Z" } : MethodName) ({ cls := "CastOffs$Stock", name := "carryHome", desc := "(II)Z" } : MethodName) ∈ cs_TG := cs_slm ({ cls := "CastOffs$Stock", name := "carryHome", desc := "(II)Z" } : MethodName) 12 27 (by decide +kernel)
theorem ts_28 : Cond.selects "CastOffs$Stock" ({ cls := "CastOffs$Stock", name := "mayTake", desc := "(II)Z" } : MethodName) ({ cls := "CastOffs$Stock", name := "mayTake", desc := "(II)Z" } : MethodName) ∈ cs_TG := cs_slm ({ cls := "CastOffs$Stock", name := "mayTake", desc := "(II)Z" } : MethodName) 12 28 (by decide +kernel)
theorem ts_29 : Cond.selects "CastOffs$Stock" ({ cls := "CastOffs$Stock", name := "firstAt", desc := "(I)I" } : MethodName) ({ cls := "CastOffs$Stock", name := "firstAt", desc := "(I)I" } : MethodName) ∈ cs_TG := cs_slm ({ cls := "CastOffs$Stock", name := "firstAt", desc := "(I)I" } : MethodName) 12 29 (by decide +kernel)
theorem ts_30 : Cond.selects "CastOffs$Stock" ({ cls := "CastOffs$Stock", name := "gainOf", desc := "(II)I" } : MethodName) ({ cls := "CastOffs$Stock", name := "gainOf", desc := "(II)I" } : MethodName) ∈ cs_TG := cs_slm ({ cls := "CastOffs$Stock", name := "gainOf", desc := "(II)I" } : MethodName) 12 30 (by decide +kernel)
theorem ts_31 : Cond.selects "CastOffs$Stock" ({ cls := "CastOffs$Stock", name := "liveWeeks", desc := "(IZ)I" } : MethodName) ({ cls := "CastOffs$Stock", name := "liveWeeks", desc := "(IZ)I" } : MethodName) ∈ cs_TG := cs_slm ({ cls := "CastOffs$Stock", name := "liveWeeks", desc := "(IZ)I" } : MethodName) 12 31 (by decide +kernel)
theorem ts_32 : Cond.selects "CastOffs$Stock" ({ cls := "CastOffs$Stock", name := "comeByDraw", desc := "()Z" } : MethodName) ({ cls := "CastOffs$Stock", name := "comeByDraw", desc := "()Z" } : MethodName) ∈ cs_TG := cs_slm ({ cls := "CastOffs$Stock", name := "comeByDraw", desc := "()Z" } : MethodName) 12 32 (by decide +kernel)
theorem ts_33 : Cond.selects "CastOffs$Stock" ({ cls := "CastOffs$Stock", name := "draw", desc := "(I)I" } : MethodName) ({ cls := "CastOffs$Stock", name := "draw", desc := "(I)I" } : MethodName) ∈ cs_TG := cs_slm ({ cls := "CastOffs$Stock", name := "draw", desc := "(I)I" } : MethodName) 12 33 (by decide +kernel)
theorem ts_34 : Cond.selects "CastOffs$Stock" ({ cls := "CastOffs$Stock", name := "liveWeek", desc := "()I" } : MethodName) ({ cls := "CastOffs$Stock", name := "liveWeek", desc := "()I" } : MethodName) ∈ cs_TG := cs_slm ({ cls := "CastOffs$Stock", name := "liveWeek", desc := "()I" } : MethodName) 12 34 (by decide +kernel)
theorem ts_35 : Cond.selects "CastOffs$Stock" ({ cls := "CastOffs$Stock", name := "partToTake", desc := "(I)I" } : MethodName) ({ cls := "CastOffs$Stock", name := "partToTake", desc := "(I)I" } : MethodName) ∈ cs_TG := cs_slm ({ cls := "CastOffs$Stock", name := "partToTake", desc := "(I)I" } : MethodName) 12 35 (by decide +kernel)
theorem ts_36 : Cond.selects "CastOffs$Stock" ({ cls := "CastOffs$Stock", name := "throwSpare", desc := "(I)V" } : MethodName) ({ cls := "CastOffs$Stock", name := "throwSpare", desc := "(I)V" } : MethodName) ∈ cs_TG := cs_slm ({ cls := "CastOffs$Stock", name := "throwSpare", desc := "(I)V" } : MethodName) 12 36 (by decide +kernel)
theorem ts_37 : Cond.selects "CastOffs$Stock" ({ cls := "CastOffs$Stock", name := "lossOf", desc := "(II)I" } : MethodName) ({ cls := "CastOffs$Stock", name := "lossOf", desc := "(II)I" } : MethodName) ∈ cs_TG := cs_slm ({ cls := "CastOffs$Stock", name := "lossOf", desc := "(II)I" } : MethodName) 12 37 (by decide +kernel)
theorem ts_38 : Cond.selects "CastOffs" ({ cls := "CastOffs", name := "tryWithout", desc := "(I)V" } : MethodName) ({ cls := "CastOffs", name := "tryWithout", desc := "(I)V" } : MethodName) ∈ cs_TG := cs_slm ({ cls := "CastOffs", name := "tryWithout", desc := "(I)V" } : MethodName) 15 38 (by decide +kernel)
theorem ts_39 : Cond.selects "CastOffs$Stock" ({ cls := "CastOffs$Stock", name := "copyFrom", desc := "(LCastOffs$Stock;)V" } : MethodName) ({ cls := "CastOffs$Stock", name := "copyFrom", desc := "(LCastOffs$Stock;)V" } : MethodName) ∈ cs_TG := cs_slm ({ cls := "CastOffs$Stock", name := "copyFrom", desc := "(LCastOffs$Stock;)V" } : MethodName) 12 39 (by decide +kernel)
theorem ts_40 : Cond.selects "CastOffs$Chain" ({ cls := "CastOffs$Chain", name := "fewestFor", desc := "(II)I" } : MethodName) ({ cls := "CastOffs$Chain", name := "fewestFor", desc := "(II)I" } : MethodName) ∈ cs_TG := cs_slm ({ cls := "CastOffs$Chain", name := "fewestFor", desc := "(II)I" } : MethodName) 4 40 (by decide +kernel)
theorem ts_41 : Cond.selects "CastOffs$Chain" ({ cls := "CastOffs$Chain", name := "queueLying", desc := "()V" } : MethodName) ({ cls := "CastOffs$Chain", name := "queueLying", desc := "()V" } : MethodName) ∈ cs_TG := cs_slm ({ cls := "CastOffs$Chain", name := "queueLying", desc := "()V" } : MethodName) 4 41 (by decide +kernel)
theorem ts_42 : Cond.selects "CastOffs$Chain" ({ cls := "CastOffs$Chain", name := "enqueue", desc := "(II)V" } : MethodName) ({ cls := "CastOffs$Chain", name := "enqueue", desc := "(II)V" } : MethodName) ∈ cs_TG := cs_slm ({ cls := "CastOffs$Chain", name := "enqueue", desc := "(II)V" } : MethodName) 4 42 (by decide +kernel)
theorem ts_43 : Cond.selects "CastOffs$Chain" ({ cls := "CastOffs$Chain", name := "swapAgainst", desc := "(II)V" } : MethodName) ({ cls := "CastOffs$Chain", name := "swapAgainst", desc := "(II)V" } : MethodName) ∈ cs_TG := cs_slm ({ cls := "CastOffs$Chain", name := "swapAgainst", desc := "(II)V" } : MethodName) 4 43 (by decide +kernel)
theorem ts_44 : Cond.selects "CastOffs$Stock" ({ cls := "CastOffs$Stock", name := "betterBy", desc := "(III)I" } : MethodName) ({ cls := "CastOffs$Stock", name := "betterBy", desc := "(III)I" } : MethodName) ∈ cs_TG := cs_slm ({ cls := "CastOffs$Stock", name := "betterBy", desc := "(III)I" } : MethodName) 12 44 (by decide +kernel)
theorem ts_45 : Cond.selects "CastOffs$Rings" ({ cls := "CastOffs$Rings", name := "findBest", desc := "()V" } : MethodName) ({ cls := "CastOffs$Rings", name := "findBest", desc := "()V" } : MethodName) ∈ cs_TG := cs_slm ({ cls := "CastOffs$Rings", name := "findBest", desc := "()V" } : MethodName) 10 45 (by decide +kernel)
theorem ts_46 : Cond.selects "CastOffs$Rings" ({ cls := "CastOffs$Rings", name := "listChoices", desc := "(I)V" } : MethodName) ({ cls := "CastOffs$Rings", name := "listChoices", desc := "(I)V" } : MethodName) ∈ cs_TG := cs_slm ({ cls := "CastOffs$Rings", name := "listChoices", desc := "(I)V" } : MethodName) 10 46 (by decide +kernel)
theorem ts_47 : Cond.selects "CastOffs$Rings" ({ cls := "CastOffs$Rings", name := "mostBetter", desc := "(II)I" } : MethodName) ({ cls := "CastOffs$Rings", name := "mostBetter", desc := "(II)I" } : MethodName) ∈ cs_TG := cs_slm ({ cls := "CastOffs$Rings", name := "mostBetter", desc := "(II)I" } : MethodName) 10 47 (by decide +kernel)
theorem ts_48 : Cond.selects "CastOffs$Rings" ({ cls := "CastOffs$Rings", name := "chooseGiver", desc := "(III)V" } : MethodName) ({ cls := "CastOffs$Rings", name := "chooseGiver", desc := "(III)V" } : MethodName) ∈ cs_TG := cs_slm ({ cls := "CastOffs$Rings", name := "chooseGiver", desc := "(III)V" } : MethodName) 10 48 (by decide +kernel)
theorem ts_49 : Cond.selects "CastOffs$Rings" ({ cls := "CastOffs$Rings", name := "chooseThrown", desc := "(II)V" } : MethodName) ({ cls := "CastOffs$Rings", name := "chooseThrown", desc := "(II)V" } : MethodName) ∈ cs_TG := cs_slm ({ cls := "CastOffs$Rings", name := "chooseThrown", desc := "(II)V" } : MethodName) 10 49 (by decide +kernel)
theorem ts_50 : Cond.selects "CastOffs$Rings" ({ cls := "CastOffs$Rings", name := "remember", desc := "(I)V" } : MethodName) ({ cls := "CastOffs$Rings", name := "remember", desc := "(I)V" } : MethodName) ∈ cs_TG := cs_slm ({ cls := "CastOffs$Rings", name := "remember", desc := "(I)V" } : MethodName) 10 50 (by decide +kernel)
theorem ts_51 : Cond.selects "CastOffs$Rings" ({ cls := "CastOffs$Rings", name := "hopeLostBy", desc := "(I)I" } : MethodName) ({ cls := "CastOffs$Rings", name := "hopeLostBy", desc := "(I)I" } : MethodName) ∈ cs_TG := cs_slm ({ cls := "CastOffs$Rings", name := "hopeLostBy", desc := "(I)I" } : MethodName) 10 51 (by decide +kernel)
theorem ts_52 : Cond.selects "CastOffs$Rings" ({ cls := "CastOffs$Rings", name := "partTakenBy", desc := "(I)I" } : MethodName) ({ cls := "CastOffs$Rings", name := "partTakenBy", desc := "(I)I" } : MethodName) ∈ cs_TG := cs_slm ({ cls := "CastOffs$Rings", name := "partTakenBy", desc := "(I)I" } : MethodName) 10 52 (by decide +kernel)
theorem ts_53 : Cond.selects "CastOffs$Spit" ({ cls := "CastOffs$Spit", name := "stillMissing", desc := "(J)J" } : MethodName) ({ cls := "CastOffs$Spit", name := "stillMissing", desc := "(J)J" } : MethodName) ∈ cs_TG := cs_slm ({ cls := "CastOffs$Spit", name := "stillMissing", desc := "(J)J" } : MethodName) 7 53 (by decide +kernel)
theorem ts_54 : Cond.selects "CastOffs$Stock" ({ cls := "CastOffs$Stock", name := "greatestGain", desc := "(I)I" } : MethodName) ({ cls := "CastOffs$Stock", name := "greatestGain", desc := "(I)I" } : MethodName) ∈ cs_TG := cs_slm ({ cls := "CastOffs$Stock", name := "greatestGain", desc := "(I)I" } : MethodName) 12 54 (by decide +kernel)
theorem ts_55 : Cond.selects "CastOffs$Turns" ({ cls := "CastOffs$Turns", name := "setUp", desc := "(III)V" } : MethodName) ({ cls := "CastOffs$Turns", name := "setUp", desc := "(III)V" } : MethodName) ∈ cs_TG := cs_slm ({ cls := "CastOffs$Turns", name := "setUp", desc := "(III)V" } : MethodName) 7 55 (by decide +kernel)
theorem ts_56 : Cond.selects "CastOffs$Turns" ({ cls := "CastOffs$Turns", name := "playOut", desc := "(I)I" } : MethodName) ({ cls := "CastOffs$Turns", name := "playOut", desc := "(I)I" } : MethodName) ∈ cs_TG := cs_slm ({ cls := "CastOffs$Turns", name := "playOut", desc := "(I)I" } : MethodName) 7 56 (by decide +kernel)
theorem ts_57 : Cond.selects "CastOffs$Turns" ({ cls := "CastOffs$Turns", name := "bestOf", desc := "(II)I" } : MethodName) ({ cls := "CastOffs$Turns", name := "bestOf", desc := "(II)I" } : MethodName) ∈ cs_TG := cs_slm ({ cls := "CastOffs$Turns", name := "bestOf", desc := "(II)I" } : MethodName) 7 57 (by decide +kernel)
theorem ts_58 : Cond.selects "CastOffs$Turns" ({ cls := "CastOffs$Turns", name := "valueOfTaking", desc := "(III)I" } : MethodName) ({ cls := "CastOffs$Turns", name := "valueOfTaking", desc := "(III)I" } : MethodName) ∈ cs_TG := cs_slm ({ cls := "CastOffs$Turns", name := "valueOfTaking", desc := "(III)I" } : MethodName) 7 58 (by decide +kernel)
theorem ts_59 : Cond.selects "CastOffs$Book" ({ cls := "CastOffs$Book", name := "enter", desc := "(IIZ)Z" } : MethodName) ({ cls := "CastOffs$Book", name := "enter", desc := "(IIZ)Z" } : MethodName) ∈ cs_TG := cs_slm ({ cls := "CastOffs$Book", name := "enter", desc := "(IIZ)Z" } : MethodName) 4 59 (by decide +kernel)
theorem ts_60 : Cond.selects "CastOffs$Book" ({ cls := "CastOffs$Book", name := "firstWrong", desc := "(LCastOffs$Stock;)I" } : MethodName) ({ cls := "CastOffs$Book", name := "firstWrong", desc := "(LCastOffs$Stock;)I" } : MethodName) ∈ cs_TG := cs_slm ({ cls := "CastOffs$Book", name := "firstWrong", desc := "(LCastOffs$Stock;)I" } : MethodName) 4 60 (by decide +kernel)
theorem ts_61 : Cond.selects "CastOffsModel" ({ cls := "CastOffsModel", name := "here", desc := "()I" } : MethodName) ({ cls := "CastOffsModel", name := "here", desc := "()I" } : MethodName) ∈ cs_TG := cs_slm ({ cls := "CastOffsModel", name := "here", desc := "()I" } : MethodName) 46 61 (by decide +kernel)
theorem ts_62 : Cond.selects "CastOffsModel" ({ cls := "CastOffsModel", name := "takeClause", desc := "()I" } : MethodName) ({ cls := "CastOffsModel", name := "takeClause", desc := "()I" } : MethodName) ∈ cs_TG := cs_slm ({ cls := "CastOffsModel", name := "takeClause", desc := "()I" } : MethodName) 46 62 (by decide +kernel)
theorem ts_63 : Cond.selects "CastOffsModel" ({ cls := "CastOffsModel", name := "readWord", desc := "()V" } : MethodName) ({ cls := "CastOffsModel", name := "readWord", desc := "()V" } : MethodName) ∈ cs_TG := cs_slm ({ cls := "CastOffsModel", name := "readWord", desc := "()V" } : MethodName) 46 63 (by decide +kernel)
theorem ts_64 : Cond.selects "CastOffsModel" ({ cls := "CastOffsModel", name := "fails", desc := "(II)I" } : MethodName) ({ cls := "CastOffsModel", name := "fails", desc := "(II)I" } : MethodName) ∈ cs_TG := cs_slm ({ cls := "CastOffsModel", name := "fails", desc := "(II)I" } : MethodName) 46 64 (by decide +kernel)
theorem ts_65 : Cond.selects "CastOffsModel" ({ cls := "CastOffsModel", name := "takeNumber", desc := "(II)I" } : MethodName) ({ cls := "CastOffsModel", name := "takeNumber", desc := "(II)I" } : MethodName) ∈ cs_TG := cs_slm ({ cls := "CastOffsModel", name := "takeNumber", desc := "(II)I" } : MethodName) 46 65 (by decide +kernel)
theorem ts_66 : Cond.selects "CastOffsModel" ({ cls := "CastOffsModel", name := "takeHouse", desc := "()I" } : MethodName) ({ cls := "CastOffsModel", name := "takeHouse", desc := "()I" } : MethodName) ∈ cs_TG := cs_slm ({ cls := "CastOffsModel", name := "takeHouse", desc := "()I" } : MethodName) 46 66 (by decide +kernel)
theorem ts_67 : Cond.selects "CastOffsModel" ({ cls := "CastOffsModel", name := "takeWorth", desc := "()I" } : MethodName) ({ cls := "CastOffsModel", name := "takeWorth", desc := "()I" } : MethodName) ∈ cs_TG := cs_slm ({ cls := "CastOffsModel", name := "takeWorth", desc := "()I" } : MethodName) 46 67 (by decide +kernel)
theorem ts_68 : Cond.selects "CastOffsModel" ({ cls := "CastOffsModel", name := "poor", desc := "()I" } : MethodName) ({ cls := "CastOffsModel", name := "poor", desc := "()I" } : MethodName) ∈ cs_TG := cs_slm ({ cls := "CastOffsModel", name := "poor", desc := "()I" } : MethodName) 46 68 (by decide +kernel)
theorem ts_69 : Cond.selects "CastOffsModel" ({ cls := "CastOffsModel", name := "countOf", desc := "(I)I" } : MethodName) ({ cls := "CastOffsModel", name := "countOf", desc := "(I)I" } : MethodName) ∈ cs_TG := cs_slm ({ cls := "CastOffsModel", name := "countOf", desc := "(I)I" } : MethodName) 46 69 (by decide +kernel)
theorem ts_70 : Cond.selects "CastOffsModel" ({ cls := "CastOffsModel", name := "isHouse", desc := "(I)Z" } : MethodName) ({ cls := "CastOffsModel", name := "isHouse", desc := "(I)Z" } : MethodName) ∈ cs_TG := cs_slm ({ cls := "CastOffsModel", name := "isHouse", desc := "(I)Z" } : MethodName) 46 70 (by decide +kernel)
theorem ts_71 : Cond.selects "CastOffsModel" ({ cls := "CastOffsModel", name := "wealthOf", desc := "(I)I" } : MethodName) ({ cls := "CastOffsModel", name := "wealthOf", desc := "(I)I" } : MethodName) ∈ cs_TG := cs_slm ({ cls := "CastOffsModel", name := "wealthOf", desc := "(I)I" } : MethodName) 46 71 (by decide +kernel)
theorem ts_72 : Cond.selects "CastOffsModel" ({ cls := "CastOffsModel", name := "sortsOf", desc := "(I)I" } : MethodName) ({ cls := "CastOffsModel", name := "sortsOf", desc := "(I)I" } : MethodName) ∈ cs_TG := cs_slm ({ cls := "CastOffsModel", name := "sortsOf", desc := "(I)I" } : MethodName) 46 72 (by decide +kernel)
theorem ts_73 : Cond.selects "CastOffsModel" ({ cls := "CastOffsModel", name := "worthOf", desc := "(II)I" } : MethodName) ({ cls := "CastOffsModel", name := "worthOf", desc := "(II)I" } : MethodName) ∈ cs_TG := cs_slm ({ cls := "CastOffsModel", name := "worthOf", desc := "(II)I" } : MethodName) 46 73 (by decide +kernel)
theorem ts_74 : Cond.selects "CastOffsModel" ({ cls := "CastOffsModel", name := "inYard", desc := "(I)I" } : MethodName) ({ cls := "CastOffsModel", name := "inYard", desc := "(I)I" } : MethodName) ∈ cs_TG := cs_slm ({ cls := "CastOffsModel", name := "inYard", desc := "(I)I" } : MethodName) 46 74 (by decide +kernel)
theorem ts_75 : Cond.selects "CastOffsModel" ({ cls := "CastOffsModel", name := "isSort", desc := "(I)Z" } : MethodName) ({ cls := "CastOffsModel", name := "isSort", desc := "(I)Z" } : MethodName) ∈ cs_TG := cs_slm ({ cls := "CastOffsModel", name := "isSort", desc := "(I)Z" } : MethodName) 46 75 (by decide +kernel)
theorem ts_76 : Cond.selects "CastOffsModel" ({ cls := "CastOffsModel", name := "isPart", desc := "(I)Z" } : MethodName) ({ cls := "CastOffsModel", name := "isPart", desc := "(I)Z" } : MethodName) ∈ cs_TG := cs_slm ({ cls := "CastOffsModel", name := "isPart", desc := "(I)Z" } : MethodName) 46 76 (by decide +kernel)
theorem ts_77 : Cond.selects "CastOffsModel" ({ cls := "CastOffsModel", name := "tossNow", desc := "(II)V" } : MethodName) ({ cls := "CastOffsModel", name := "tossNow", desc := "(II)V" } : MethodName) ∈ cs_TG := cs_slm ({ cls := "CastOffsModel", name := "tossNow", desc := "(II)V" } : MethodName) 46 77 (by decide +kernel)
theorem ts_78 : Cond.selects "CastOffsModel" ({ cls := "CastOffsModel", name := "mayTake", desc := "(II)Z" } : MethodName) ({ cls := "CastOffsModel", name := "mayTake", desc := "(II)Z" } : MethodName) ∈ cs_TG := cs_slm ({ cls := "CastOffsModel", name := "mayTake", desc := "(II)Z" } : MethodName) 46 78 (by decide +kernel)
theorem ts_79 : Cond.selects "CastOffsModel" ({ cls := "CastOffsModel", name := "takeNow", desc := "(II)V" } : MethodName) ({ cls := "CastOffsModel", name := "takeNow", desc := "(II)V" } : MethodName) ∈ cs_TG := cs_slm ({ cls := "CastOffsModel", name := "takeNow", desc := "(II)V" } : MethodName) 46 79 (by decide +kernel)
theorem ts_80 : Cond.selects "CastOffsModel" ({ cls := "CastOffsModel", name := "ashoreNow", desc := "(I)I" } : MethodName) ({ cls := "CastOffsModel", name := "ashoreNow", desc := "(I)I" } : MethodName) ∈ cs_TG := cs_slm ({ cls := "CastOffsModel", name := "ashoreNow", desc := "(I)I" } : MethodName) 46 80 (by decide +kernel)
theorem ts_81 : Cond.selects "CastOffsModel" ({ cls := "CastOffsModel", name := "gainOf", desc := "(II)I" } : MethodName) ({ cls := "CastOffsModel", name := "gainOf", desc := "(II)I" } : MethodName) ∈ cs_TG := cs_slm ({ cls := "CastOffsModel", name := "gainOf", desc := "(II)I" } : MethodName) 46 81 (by decide +kernel)
theorem ts_82 : Cond.selects "CastOffsModel" ({ cls := "CastOffsModel", name := "weekNow", desc := "()I" } : MethodName) ({ cls := "CastOffsModel", name := "weekNow", desc := "()I" } : MethodName) ∈ cs_TG := cs_slm ({ cls := "CastOffsModel", name := "weekNow", desc := "()I" } : MethodName) 46 82 (by decide +kernel)
theorem ts_83 : Cond.selects "CastOffsModel" ({ cls := "CastOffsModel", name := "bestTake", desc := "(I)I" } : MethodName) ({ cls := "CastOffsModel", name := "bestTake", desc := "(I)I" } : MethodName) ∈ cs_TG := cs_slm ({ cls := "CastOffsModel", name := "bestTake", desc := "(I)I" } : MethodName) 46 83 (by decide +kernel)
theorem ts_84 : Cond.selects "CastOffsModel" ({ cls := "CastOffsModel", name := "isIdle", desc := "(II)Z" } : MethodName) ({ cls := "CastOffsModel", name := "isIdle", desc := "(II)Z" } : MethodName) ∈ cs_TG := cs_slm ({ cls := "CastOffsModel", name := "isIdle", desc := "(II)Z" } : MethodName) 46 84 (by decide +kernel)
theorem ts_85 : Cond.selects "CastOffsModel" ({ cls := "CastOffsModel", name := "draw", desc := "(I)I" } : MethodName) ({ cls := "CastOffsModel", name := "draw", desc := "(I)I" } : MethodName) ∈ cs_TG := cs_slm ({ cls := "CastOffsModel", name := "draw", desc := "(I)I" } : MethodName) 46 85 (by decide +kernel)
theorem ts_86 : Cond.selects "CastOffsModel" ({ cls := "CastOffsModel", name := "save", desc := "(I)V" } : MethodName) ({ cls := "CastOffsModel", name := "save", desc := "(I)V" } : MethodName) ∈ cs_TG := cs_slm ({ cls := "CastOffsModel", name := "save", desc := "(I)V" } : MethodName) 46 86 (by decide +kernel)
theorem ts_87 : Cond.selects "CastOffsModel" ({ cls := "CastOffsModel", name := "load", desc := "(I)V" } : MethodName) ({ cls := "CastOffsModel", name := "load", desc := "(I)V" } : MethodName) ∈ cs_TG := cs_slm ({ cls := "CastOffsModel", name := "load", desc := "(I)V" } : MethodName) 46 87 (by decide +kernel)
theorem ts_88 : Cond.selects "CastOffsModel" ({ cls := "CastOffsModel", name := "fromOf", desc := "(I)I" } : MethodName) ({ cls := "CastOffsModel", name := "fromOf", desc := "(I)I" } : MethodName) ∈ cs_TG := cs_slm ({ cls := "CastOffsModel", name := "fromOf", desc := "(I)I" } : MethodName) 46 88 (by decide +kernel)
theorem ts_89 : Cond.selects "CastOffsModel" ({ cls := "CastOffsModel", name := "betterBy", desc := "(III)I" } : MethodName) ({ cls := "CastOffsModel", name := "betterBy", desc := "(III)I" } : MethodName) ∈ cs_TG := cs_slm ({ cls := "CastOffsModel", name := "betterBy", desc := "(III)I" } : MethodName) 46 89 (by decide +kernel)
theorem ts_90 : Cond.selects "CastOffsModel" ({ cls := "CastOffsModel", name := "findRings", desc := "()I" } : MethodName) ({ cls := "CastOffsModel", name := "findRings", desc := "()I" } : MethodName) ∈ cs_TG := cs_slm ({ cls := "CastOffsModel", name := "findRings", desc := "()I" } : MethodName) 46 90 (by decide +kernel)
theorem ts_91 : Cond.selects "CastOffsModel" ({ cls := "CastOffsModel", name := "areRings", desc := "(I)Z" } : MethodName) ({ cls := "CastOffsModel", name := "areRings", desc := "(I)Z" } : MethodName) ∈ cs_TG := cs_slm ({ cls := "CastOffsModel", name := "areRings", desc := "(I)Z" } : MethodName) 46 91 (by decide +kernel)
theorem ts_92 : Cond.selects "CastOffsModel" ({ cls := "CastOffsModel", name := "areThrown", desc := "(I)Z" } : MethodName) ({ cls := "CastOffsModel", name := "areThrown", desc := "(I)Z" } : MethodName) ∈ cs_TG := cs_slm ({ cls := "CastOffsModel", name := "areThrown", desc := "(I)Z" } : MethodName) 46 92 (by decide +kernel)
theorem ts_93 : Cond.selects "CastOffsModel" ({ cls := "CastOffsModel", name := "partOf", desc := "(II)I" } : MethodName) ({ cls := "CastOffsModel", name := "partOf", desc := "(II)I" } : MethodName) ∈ cs_TG := cs_slm ({ cls := "CastOffsModel", name := "partOf", desc := "(II)I" } : MethodName) 46 93 (by decide +kernel)
theorem ts_94 : Cond.selects "CastOffsModel" ({ cls := "CastOffsModel", name := "ringsSum", desc := "()I" } : MethodName) ({ cls := "CastOffsModel", name := "ringsSum", desc := "()I" } : MethodName) ∈ cs_TG := cs_slm ({ cls := "CastOffsModel", name := "ringsSum", desc := "()I" } : MethodName) 46 94 (by decide +kernel)
theorem ts_95 : Cond.selects "CastOffsModel" ({ cls := "CastOffsModel", name := "oddsBy", desc := "(I)J" } : MethodName) ({ cls := "CastOffsModel", name := "oddsBy", desc := "(I)J" } : MethodName) ∈ cs_TG := cs_slm ({ cls := "CastOffsModel", name := "oddsBy", desc := "(I)J" } : MethodName) 46 95 (by decide +kernel)
theorem ts_96 : Cond.selects "CastOffsModel" ({ cls := "CastOffsModel", name := "findLie", desc := "(I)V" } : MethodName) ({ cls := "CastOffsModel", name := "findLie", desc := "(I)V" } : MethodName) ∈ cs_TG := cs_slm ({ cls := "CastOffsModel", name := "findLie", desc := "(I)V" } : MethodName) 46 96 (by decide +kernel)
theorem ts_97 : Cond.selects "CastOffsModel" ({ cls := "CastOffsModel", name := "endOf", desc := "(IIII)I" } : MethodName) ({ cls := "CastOffsModel", name := "endOf", desc := "(IIII)I" } : MethodName) ∈ cs_TG := cs_slm ({ cls := "CastOffsModel", name := "endOf", desc := "(IIII)I" } : MethodName) 46 97 (by decide +kernel)
theorem ts_98 : Cond.selects "CastOffsModel" ({ cls := "CastOffsModel", name := "mayBe", desc := "(III)Z" } : MethodName) ({ cls := "CastOffsModel", name := "mayBe", desc := "(III)Z" } : MethodName) ∈ cs_TG := cs_slm ({ cls := "CastOffsModel", name := "mayBe", desc := "(III)Z" } : MethodName) 46 98 (by decide +kernel)
theorem iX0 : ∀ w ∈ u_ws RX0 TX0 4, w ∈ cs_TG := by decide +kernel
theorem iX1 : ∀ w ∈ u_ws RX1 TX1 4, w ∈ cs_TG := by decide +kernel
theorem iX2 : ∀ w ∈ u_ws RX2 TX2 8, w ∈ cs_TG := by decide +kernel
theorem iX3 : ∀ w ∈ u_ws RX3 TX3 10, w ∈ cs_TG := by decide +kernel
theorem iX4 : ∀ w ∈ u_ws RX4 TX4 7, w ∈ cs_TG := by decide +kernel
theorem iX5 : ∀ w ∈ u_ws RX5 TX5 12, w ∈ cs_TG := by decide +kernel
theorem iX6 : ∀ w ∈ u_ws RX6 TX6 7, w ∈ cs_TG := by decide +kernel
theorem iX7 : ∀ w ∈ u_ws RX7 TX7 15, w ∈ cs_TG := by decide +kernel
theorem iX8 : ∀ w ∈ u_ws RX8 TX8 46, w ∈ cs_TG := by decide +kernel
