theorem tw_17 : (Cond.classLink "CastOffsLaw" (7 : Nat) "CastOffs") ∈ cs_TG := cs_tgm 17 (by decide +kernel) rfl
theorem tw_18 : (Cond.instantiable "CastOffs" (15 : Nat)) ∈ cs_TG := cs_tgm 18 (by decide +kernel) rfl
theorem tw_22 : (Cond.methodLink "CastOffs" (3 : Nat) ({ cls := "java/lang/Object", name := "<init>", desc := "()V" } : MethodName)) ∈ cs_TG := cs_tgm 22 (by decide +kernel) rfl
theorem tw_23 : (Cond.instanceMethod ({ cls := "java/lang/Object", name := "<init>", desc := "()V" } : MethodName)) ∈ cs_TG := cs_tgm 23 (by decide +kernel) rfl
theorem tw_24 : (Cond.code ({ cls := "java/lang/Object", name := "<init>", desc := "()V" } : MethodName) object_method_1_code (1 : Nat) (Option.none : Option FieldType)) ∈ cs_TG := cs_tgm 24 (by decide +kernel) rfl
theorem tw_70 : (Cond.arrayClass FieldType.char) ∈ cs_TG := cs_tgm 70 (by decide +kernel) rfl
theorem pf_X7_9 : PF RX7 9 7 0 true (.array .char) := ⟨_, _, _, tyX7, rfl, by decide, iX7, tw_279, tyX7_ok, nmX7, rfl, by decide +kernel, rfl⟩
theorem pf_X7_13 : PF RX7 13 7 2 false .int := ⟨_, _, _, tyX7, rfl, by decide, iX7, tw_281, tyX7_ok, nmX7, rfl, by decide +kernel, rfl⟩
theorem tw_25 : (Cond.classLink "CastOffs" (17 : Nat) "CastOffs$Spit") ∈ cs_TG := cs_tgm 25 (by decide +kernel) rfl
theorem tw_26 : (Cond.instantiable "CastOffs$Spit" (7 : Nat)) ∈ cs_TG := cs_tgm 26 (by decide +kernel) rfl
theorem tw_30 : (Cond.methodLink "CastOffs$Spit" (3 : Nat) ({ cls := "java/lang/Object", name := "<init>", desc := "()V" } : MethodName)) ∈ cs_TG := cs_tgm 30 (by decide +kernel) rfl
theorem tw_71 : (Cond.arrayClass FieldType.int) ∈ cs_TG := cs_tgm 71 (by decide +kernel) rfl
theorem pf_X4_9 : PF RX4 9 4 3 true (.array .int) := ⟨_, _, _, tyX4, rfl, by decide, iX4, tw_43, tyX4_ok, nmX4, rfl, by decide +kernel, rfl⟩
theorem pf_X4_15 : PF RX4 15 4 4 true (.array .int) := ⟨_, _, _, tyX4, rfl, by decide, iX4, tw_47, tyX4_ok, nmX4, rfl, by decide +kernel, rfl⟩
theorem pf_X4_18 : PF RX4 18 4 5 true (.array .int) := ⟨_, _, _, tyX4, rfl, by decide, iX4, tw_50, tyX4_ok, nmX4, rfl, by decide +kernel, rfl⟩
theorem pf_X4_21 : PF RX4 21 4 6 true (.array .int) := ⟨_, _, _, tyX4, rfl, by decide, iX4, tw_53, tyX4_ok, nmX4, rfl, by decide +kernel, rfl⟩
theorem tn_27 : (Cond.methodLinkNest "CastOffs" (19 : Nat) ({ cls := "CastOffs$Spit", name := "<init>", desc := "()V" } : MethodName) "CastOffs") ∈ cs_NW := cs_nwm 27 (by decide +kernel) rfl
theorem tw_28 : (Cond.instanceMethod ({ cls := "CastOffs$Spit", name := "<init>", desc := "()V" } : MethodName)) ∈ cs_TG := cs_tgm 28 (by decide +kernel) rfl
theorem tw_29 : (Cond.code ({ cls := "CastOffs$Spit", name := "<init>", desc := "()V" } : MethodName) prog_6_method_1_code (1 : Nat) (Option.none : Option FieldType)) ∈ cs_TG := cs_tgm 29 (by decide +kernel) rfl
theorem ci_X7_19 : CLI RX7 19 yX4_init cX4_init 1 0 := ⟨Or.inr ⟨_, tn_27⟩, tw_28, tw_2, tw_29, rfl, ⟨by decide +kernel, by decide +kernel, by decide +kernel⟩, by decide⟩
theorem pf_X7_20 : PF RX7 20 7 3 true (.object "CastOffs$Spit") := ⟨_, _, _, tyX7, rfl, by decide, iX7, tw_282, tyX7_ok, nmX7, rfl, by decide +kernel, rfl⟩
theorem pf_X7_24 : PF RX7 24 7 4 true (.object "CastOffs$Spit") := ⟨_, _, _, tyX7, rfl, by decide, iX7, tw_283, tyX7_ok, nmX7, rfl, by decide +kernel, rfl⟩
theorem tw_72 : (Cond.classLink "CastOffs" (27 : Nat) "CastOffs$Reader") ∈ cs_TG := cs_tgm 72 (by decide +kernel) rfl
theorem tw_73 : (Cond.instantiable "CastOffs$Reader" (8 : Nat)) ∈ cs_TG := cs_tgm 73 (by decide +kernel) rfl
theorem tw_77 : (Cond.methodLink "CastOffs$Reader" (3 : Nat) ({ cls := "java/lang/Object", name := "<init>", desc := "()V" } : MethodName)) ∈ cs_TG := cs_tgm 77 (by decide +kernel) rfl
theorem pf_X2_9 : PF RX2 9 2 0 true (.array .char) := ⟨_, _, _, tyX2, rfl, by decide, iX2, tw_78, tyX2_ok, nmX2, rfl, by decide +kernel, rfl⟩
theorem pf_X2_15 : PF RX2 15 2 1 true (.object "CastOffs$Spit") := ⟨_, _, _, tyX2, rfl, by decide, iX2, tw_79, tyX2_ok, nmX2, rfl, by decide +kernel, rfl⟩
theorem tn_74 : (Cond.methodLinkNest "CastOffs" (29 : Nat) ({ cls := "CastOffs$Reader", name := "<init>", desc := "([CLCastOffs$Spit;)V" } : MethodName) "CastOffs") ∈ cs_NW := cs_nwm 74 (by decide +kernel) rfl
theorem tw_75 : (Cond.instanceMethod ({ cls := "CastOffs$Reader", name := "<init>", desc := "([CLCastOffs$Spit;)V" } : MethodName)) ∈ cs_TG := cs_tgm 75 (by decide +kernel) rfl
theorem tw_76 : (Cond.code ({ cls := "CastOffs$Reader", name := "<init>", desc := "([CLCastOffs$Spit;)V" } : MethodName) prog_4_method_1_code (3 : Nat) (Option.none : Option FieldType)) ∈ cs_TG := cs_tgm 76 (by decide +kernel) rfl
theorem ci_X7_29 : CLI RX7 29 yX2_init cX2_init 3 2 := ⟨Or.inr ⟨_, tn_74⟩, tw_75, tw_3, tw_76, rfl, ⟨by decide +kernel, by decide +kernel, by decide +kernel⟩, by decide⟩
theorem pf_X7_32 : PF RX7 32 7 5 true (.object "CastOffs$Reader") := ⟨_, _, _, tyX7, rfl, by decide, iX7, tw_284, tyX7_ok, nmX7, rfl, by decide +kernel, rfl⟩
theorem tw_105 : (Cond.classLink "CastOffs" (36 : Nat) "CastOffs$Stock") ∈ cs_TG := cs_tgm 105 (by decide +kernel) rfl
theorem tw_106 : (Cond.instantiable "CastOffs$Stock" (12 : Nat)) ∈ cs_TG := cs_tgm 106 (by decide +kernel) rfl
theorem tw_110 : (Cond.methodLink "CastOffs$Stock" (3 : Nat) ({ cls := "java/lang/Object", name := "<init>", desc := "()V" } : MethodName)) ∈ cs_TG := cs_tgm 110 (by decide +kernel) rfl
theorem pf_X5_9 : PF RX5 9 5 5 true (.array .int) := ⟨_, _, _, tyX5, rfl, by decide, iX5, tw_124, tyX5_ok, nmX5, rfl, by decide +kernel, rfl⟩
theorem pf_X5_15 : PF RX5 15 5 6 true (.array .int) := ⟨_, _, _, tyX5, rfl, by decide, iX5, tw_129, tyX5_ok, nmX5, rfl, by decide +kernel, rfl⟩
theorem pf_X5_18 : PF RX5 18 5 7 true (.array .int) := ⟨_, _, _, tyX5, rfl, by decide, iX5, tw_133, tyX5_ok, nmX5, rfl, by decide +kernel, rfl⟩
theorem pf_X5_21 : PF RX5 21 5 8 true (.array .int) := ⟨_, _, _, tyX5, rfl, by decide, iX5, tw_137, tyX5_ok, nmX5, rfl, by decide +kernel, rfl⟩
theorem pf_X5_24 : PF RX5 24 5 9 true (.array .int) := ⟨_, _, _, tyX5, rfl, by decide, iX5, tw_139, tyX5_ok, nmX5, rfl, by decide +kernel, rfl⟩
theorem pf_X5_27 : PF RX5 27 5 10 true (.array .int) := ⟨_, _, _, tyX5, rfl, by decide, iX5, tw_141, tyX5_ok, nmX5, rfl, by decide +kernel, rfl⟩
theorem pf_X5_30 : PF RX5 30 5 11 true (.array .int) := ⟨_, _, _, tyX5, rfl, by decide, iX5, tw_144, tyX5_ok, nmX5, rfl, by decide +kernel, rfl⟩
theorem pf_X5_33 : PF RX5 33 5 0 true (.object "CastOffs$Spit") := ⟨_, _, _, tyX5, rfl, by decide, iX5, tw_111, tyX5_ok, nmX5, rfl, by decide +kernel, rfl⟩
theorem tn_107 : (Cond.methodLinkNest "CastOffs" (38 : Nat) ({ cls := "CastOffs$Stock", name := "<init>", desc := "(LCastOffs$Spit;)V" } : MethodName) "CastOffs") ∈ cs_NW := cs_nwm 107 (by decide +kernel) rfl
theorem tw_108 : (Cond.instanceMethod ({ cls := "CastOffs$Stock", name := "<init>", desc := "(LCastOffs$Spit;)V" } : MethodName)) ∈ cs_TG := cs_tgm 108 (by decide +kernel) rfl
theorem tw_109 : (Cond.code ({ cls := "CastOffs$Stock", name := "<init>", desc := "(LCastOffs$Spit;)V" } : MethodName) prog_7_method_1_code (2 : Nat) (Option.none : Option FieldType)) ∈ cs_TG := cs_tgm 109 (by decide +kernel) rfl
theorem ci_X7_38 : CLI RX7 38 yX5_init cX5_init 2 1 := ⟨Or.inr ⟨_, tn_107⟩, tw_108, tw_4, tw_109, rfl, ⟨by decide +kernel, by decide +kernel, by decide +kernel⟩, by decide⟩
theorem pf_X7_41 : PF RX7 41 7 6 true (.object "CastOffs$Stock") := ⟨_, _, _, tyX7, rfl, by decide, iX7, tw_285, tyX7_ok, nmX7, rfl, by decide +kernel, rfl⟩
theorem pf_X7_45 : PF RX7 45 7 7 true (.object "CastOffs$Stock") := ⟨_, _, _, tyX7, rfl, by decide, iX7, tw_286, tyX7_ok, nmX7, rfl, by decide +kernel, rfl⟩
theorem pf_X7_48 : PF RX7 48 7 8 true (.array (.object "CastOffs$Stock")) := ⟨_, _, _, tyX7, rfl, by decide, iX7, tw_287, tyX7_ok, nmX7, rfl, by decide +kernel, rfl⟩
theorem tw_191 : (Cond.arrayClass FieldType.boolean) ∈ cs_TG := cs_tgm 191 (by decide +kernel) rfl
theorem pf_X7_52 : PF RX7 52 7 9 true (.array .boolean) := ⟨_, _, _, tyX7, rfl, by decide, iX7, tw_288, tyX7_ok, nmX7, rfl, by decide +kernel, rfl⟩
theorem tw_171 : (Cond.classLink "CastOffs" (56 : Nat) "CastOffs$Book") ∈ cs_TG := cs_tgm 171 (by decide +kernel) rfl
theorem tw_172 : (Cond.instantiable "CastOffs$Book" (4 : Nat)) ∈ cs_TG := cs_tgm 172 (by decide +kernel) rfl
theorem tw_176 : (Cond.methodLink "CastOffs$Book" (3 : Nat) ({ cls := "java/lang/Object", name := "<init>", desc := "()V" } : MethodName)) ∈ cs_TG := cs_tgm 176 (by decide +kernel) rfl
theorem pf_X0_9 : PF RX0 9 0 1 true (.array .int) := ⟨_, _, _, tyX0, rfl, by decide, iX0, tw_179, tyX0_ok, nmX0, rfl, by decide +kernel, rfl⟩
theorem pf_X0_15 : PF RX0 15 0 2 true (.array .int) := ⟨_, _, _, tyX0, rfl, by decide, iX0, tw_180, tyX0_ok, nmX0, rfl, by decide +kernel, rfl⟩
theorem pf_X0_18 : PF RX0 18 0 3 true (.array .boolean) := ⟨_, _, _, tyX0, rfl, by decide, iX0, tw_181, tyX0_ok, nmX0, rfl, by decide +kernel, rfl⟩
theorem tn_173 : (Cond.methodLinkNest "CastOffs" (58 : Nat) ({ cls := "CastOffs$Book", name := "<init>", desc := "()V" } : MethodName) "CastOffs") ∈ cs_NW := cs_nwm 173 (by decide +kernel) rfl
theorem tw_174 : (Cond.instanceMethod ({ cls := "CastOffs$Book", name := "<init>", desc := "()V" } : MethodName)) ∈ cs_TG := cs_tgm 174 (by decide +kernel) rfl
theorem tw_175 : (Cond.code ({ cls := "CastOffs$Book", name := "<init>", desc := "()V" } : MethodName) prog_2_method_1_code (1 : Nat) (Option.none : Option FieldType)) ∈ cs_TG := cs_tgm 175 (by decide +kernel) rfl
theorem ci_X7_58 : CLI RX7 58 yX0_init cX0_init 1 0 := ⟨Or.inr ⟨_, tn_173⟩, tw_174, tw_5, tw_175, rfl, ⟨by decide +kernel, by decide +kernel, by decide +kernel⟩, by decide⟩
theorem pf_X7_59 : PF RX7 59 7 10 true (.object "CastOffs$Book") := ⟨_, _, _, tyX7, rfl, by decide, iX7, tw_289, tyX7_ok, nmX7, rfl, by decide +kernel, rfl⟩
theorem tw_192 : (Cond.classLink "CastOffs" (63 : Nat) "CastOffs$Chain") ∈ cs_TG := cs_tgm 192 (by decide +kernel) rfl
theorem tw_193 : (Cond.instantiable "CastOffs$Chain" (4 : Nat)) ∈ cs_TG := cs_tgm 193 (by decide +kernel) rfl
theorem tw_197 : (Cond.methodLink "CastOffs$Chain" (3 : Nat) ({ cls := "java/lang/Object", name := "<init>", desc := "()V" } : MethodName)) ∈ cs_TG := cs_tgm 197 (by decide +kernel) rfl
theorem pf_X1_9 : PF RX1 9 1 1 true (.array .int) := ⟨_, _, _, tyX1, rfl, by decide, iX1, tw_199, tyX1_ok, nmX1, rfl, by decide +kernel, rfl⟩
theorem pf_X1_15 : PF RX1 15 1 2 true (.array .int) := ⟨_, _, _, tyX1, rfl, by decide, iX1, tw_200, tyX1_ok, nmX1, rfl, by decide +kernel, rfl⟩
theorem pf_X1_18 : PF RX1 18 1 0 true (.object "CastOffs$Stock") := ⟨_, _, _, tyX1, rfl, by decide, iX1, tw_198, tyX1_ok, nmX1, rfl, by decide +kernel, rfl⟩
theorem tn_194 : (Cond.methodLinkNest "CastOffs" (65 : Nat) ({ cls := "CastOffs$Chain", name := "<init>", desc := "(LCastOffs$Stock;)V" } : MethodName) "CastOffs") ∈ cs_NW := cs_nwm 194 (by decide +kernel) rfl
theorem tw_195 : (Cond.instanceMethod ({ cls := "CastOffs$Chain", name := "<init>", desc := "(LCastOffs$Stock;)V" } : MethodName)) ∈ cs_TG := cs_tgm 195 (by decide +kernel) rfl
theorem tw_196 : (Cond.code ({ cls := "CastOffs$Chain", name := "<init>", desc := "(LCastOffs$Stock;)V" } : MethodName) prog_3_method_1_code (2 : Nat) (Option.none : Option FieldType)) ∈ cs_TG := cs_tgm 196 (by decide +kernel) rfl
theorem ci_X7_65 : CLI RX7 65 yX1_init cX1_init 2 1 := ⟨Or.inr ⟨_, tn_194⟩, tw_195, tw_6, tw_196, rfl, ⟨by decide +kernel, by decide +kernel, by decide +kernel⟩, by decide⟩
theorem pf_X7_68 : PF RX7 68 7 11 true (.object "CastOffs$Chain") := ⟨_, _, _, tyX7, rfl, by decide, iX7, tw_290, tyX7_ok, nmX7, rfl, by decide +kernel, rfl⟩
theorem tw_211 : (Cond.classLink "CastOffs" (72 : Nat) "CastOffs$Rings") ∈ cs_TG := cs_tgm 211 (by decide +kernel) rfl
theorem tw_212 : (Cond.instantiable "CastOffs$Rings" (10 : Nat)) ∈ cs_TG := cs_tgm 212 (by decide +kernel) rfl
theorem tw_216 : (Cond.methodLink "CastOffs$Rings" (3 : Nat) ({ cls := "java/lang/Object", name := "<init>", desc := "()V" } : MethodName)) ∈ cs_TG := cs_tgm 216 (by decide +kernel) rfl
theorem pf_X3_9 : PF RX3 9 3 3 true (.array .int) := ⟨_, _, _, tyX3, rfl, by decide, iX3, tw_221, tyX3_ok, nmX3, rfl, by decide +kernel, rfl⟩
theorem pf_X3_15 : PF RX3 15 3 4 true (.array .int) := ⟨_, _, _, tyX3, rfl, by decide, iX3, tw_222, tyX3_ok, nmX3, rfl, by decide +kernel, rfl⟩
theorem pf_X3_18 : PF RX3 18 3 5 true (.array .int) := ⟨_, _, _, tyX3, rfl, by decide, iX3, tw_223, tyX3_ok, nmX3, rfl, by decide +kernel, rfl⟩
theorem pf_X3_21 : PF RX3 21 3 6 true (.array .int) := ⟨_, _, _, tyX3, rfl, by decide, iX3, tw_224, tyX3_ok, nmX3, rfl, by decide +kernel, rfl⟩
theorem pf_X3_24 : PF RX3 24 3 7 true (.array .int) := ⟨_, _, _, tyX3, rfl, by decide, iX3, tw_226, tyX3_ok, nmX3, rfl, by decide +kernel, rfl⟩
theorem pf_X3_27 : PF RX3 27 3 8 true (.array .int) := ⟨_, _, _, tyX3, rfl, by decide, iX3, tw_227, tyX3_ok, nmX3, rfl, by decide +kernel, rfl⟩
theorem pf_X3_30 : PF RX3 30 3 9 true (.array .int) := ⟨_, _, _, tyX3, rfl, by decide, iX3, tw_228, tyX3_ok, nmX3, rfl, by decide +kernel, rfl⟩
theorem pf_X3_33 : PF RX3 33 3 0 true (.object "CastOffs$Stock") := ⟨_, _, _, tyX3, rfl, by decide, iX3, tw_217, tyX3_ok, nmX3, rfl, by decide +kernel, rfl⟩
theorem tn_213 : (Cond.methodLinkNest "CastOffs" (74 : Nat) ({ cls := "CastOffs$Rings", name := "<init>", desc := "(LCastOffs$Stock;)V" } : MethodName) "CastOffs") ∈ cs_NW := cs_nwm 213 (by decide +kernel) rfl
theorem tw_214 : (Cond.instanceMethod ({ cls := "CastOffs$Rings", name := "<init>", desc := "(LCastOffs$Stock;)V" } : MethodName)) ∈ cs_TG := cs_tgm 214 (by decide +kernel) rfl
theorem tw_215 : (Cond.code ({ cls := "CastOffs$Rings", name := "<init>", desc := "(LCastOffs$Stock;)V" } : MethodName) prog_5_method_1_code (2 : Nat) (Option.none : Option FieldType)) ∈ cs_TG := cs_tgm 215 (by decide +kernel) rfl
theorem ci_X7_74 : CLI RX7 74 yX3_init cX3_init 2 1 := ⟨Or.inr ⟨_, tn_213⟩, tw_214, tw_7, tw_215, rfl, ⟨by decide +kernel, by decide +kernel, by decide +kernel⟩, by decide⟩
theorem pf_X7_75 : PF RX7 75 7 12 true (.object "CastOffs$Rings") := ⟨_, _, _, tyX7, rfl, by decide, iX7, tw_291, tyX7_ok, nmX7, rfl, by decide +kernel, rfl⟩
theorem tw_250 : (Cond.classLink "CastOffs" (79 : Nat) "CastOffs$Turns") ∈ cs_TG := cs_tgm 250 (by decide +kernel) rfl
theorem tw_251 : (Cond.instantiable "CastOffs$Turns" (7 : Nat)) ∈ cs_TG := cs_tgm 251 (by decide +kernel) rfl
theorem tw_255 : (Cond.methodLink "CastOffs$Turns" (3 : Nat) ({ cls := "java/lang/Object", name := "<init>", desc := "()V" } : MethodName)) ∈ cs_TG := cs_tgm 255 (by decide +kernel) rfl
theorem pf_X6_9 : PF RX6 9 6 1 true (.array .int) := ⟨_, _, _, tyX6, rfl, by decide, iX6, tw_257, tyX6_ok, nmX6, rfl, by decide +kernel, rfl⟩
theorem pf_X6_15 : PF RX6 15 6 2 true (.array .int) := ⟨_, _, _, tyX6, rfl, by decide, iX6, tw_258, tyX6_ok, nmX6, rfl, by decide +kernel, rfl⟩
theorem pf_X6_18 : PF RX6 18 6 3 true (.array .int) := ⟨_, _, _, tyX6, rfl, by decide, iX6, tw_259, tyX6_ok, nmX6, rfl, by decide +kernel, rfl⟩
theorem pf_X6_21 : PF RX6 21 6 4 true (.array .int) := ⟨_, _, _, tyX6, rfl, by decide, iX6, tw_260, tyX6_ok, nmX6, rfl, by decide +kernel, rfl⟩
theorem pf_X6_24 : PF RX6 24 6 5 true (.array .int) := ⟨_, _, _, tyX6, rfl, by decide, iX6, tw_261, tyX6_ok, nmX6, rfl, by decide +kernel, rfl⟩
theorem pf_X6_27 : PF RX6 27 6 0 true (.object "CastOffs$Stock") := ⟨_, _, _, tyX6, rfl, by decide, iX6, tw_256, tyX6_ok, nmX6, rfl, by decide +kernel, rfl⟩
theorem tn_252 : (Cond.methodLinkNest "CastOffs" (81 : Nat) ({ cls := "CastOffs$Turns", name := "<init>", desc := "(LCastOffs$Stock;)V" } : MethodName) "CastOffs") ∈ cs_NW := cs_nwm 252 (by decide +kernel) rfl
theorem tw_253 : (Cond.instanceMethod ({ cls := "CastOffs$Turns", name := "<init>", desc := "(LCastOffs$Stock;)V" } : MethodName)) ∈ cs_TG := cs_tgm 253 (by decide +kernel) rfl
theorem tw_254 : (Cond.code ({ cls := "CastOffs$Turns", name := "<init>", desc := "(LCastOffs$Stock;)V" } : MethodName) prog_8_method_1_code (2 : Nat) (Option.none : Option FieldType)) ∈ cs_TG := cs_tgm 254 (by decide +kernel) rfl
theorem ci_X7_81 : CLI RX7 81 yX6_init cX6_init 2 1 := ⟨Or.inr ⟨_, tn_252⟩, tw_253, tw_8, tw_254, rfl, ⟨by decide +kernel, by decide +kernel, by decide +kernel⟩, by decide⟩
theorem pf_X7_82 : PF RX7 82 7 13 true (.object "CastOffs$Turns") := ⟨_, _, _, tyX7, rfl, by decide, iX7, tw_292, tyX7_ok, nmX7, rfl, by decide +kernel, rfl⟩
theorem pf_X7_86 : PF RX7 86 7 14 true (.array .int) := ⟨_, _, _, tyX7, rfl, by decide, iX7, tw_293, tyX7_ok, nmX7, rfl, by decide +kernel, rfl⟩
theorem tw_19 : (Cond.methodLink "CastOffsLaw" (9 : Nat) ({ cls := "CastOffs", name := "<init>", desc := "()V" } : MethodName)) ∈ cs_TG := cs_tgm 19 (by decide +kernel) rfl
theorem tw_20 : (Cond.instanceMethod ({ cls := "CastOffs", name := "<init>", desc := "()V" } : MethodName)) ∈ cs_TG := cs_tgm 20 (by decide +kernel) rfl
theorem tw_21 : (Cond.code ({ cls := "CastOffs", name := "<init>", desc := "()V" } : MethodName) prog_1_method_1_code (1 : Nat) (Option.none : Option FieldType)) ∈ cs_TG := cs_tgm 21 (by decide +kernel) rfl
theorem ci_L_9 : CLI RL 9 yX7_init cX7_init 1 0 := ⟨Or.inl tw_19, tw_20, tw_1, tw_21, rfl, ⟨by decide +kernel, by decide +kernel, by decide +kernel⟩, by decide⟩
theorem tw_781 : (Cond.classLink "CastOffsLaw" (10 : Nat) "CastOffsModel") ∈ cs_TG := cs_tgm 781 (by decide +kernel) rfl
theorem tw_782 : (Cond.instantiable "CastOffsModel" (46 : Nat)) ∈ cs_TG := cs_tgm 782 (by decide +kernel) rfl
theorem tw_786 : (Cond.methodLink "CastOffsModel" (1 : Nat) ({ cls := "java/lang/Object", name := "<init>", desc := "()V" } : MethodName)) ∈ cs_TG := cs_tgm 786 (by decide +kernel) rfl
theorem pf_X8_7 : PF RX8 7 8 2 true (.array .int) := ⟨_, _, _, tyX8, rfl, by decide, iX8, tw_789, tyX8_ok, nmX8, rfl, by decide +kernel, rfl⟩
theorem pf_X8_13 : PF RX8 13 8 3 true (.array .int) := ⟨_, _, _, tyX8, rfl, by decide, iX8, tw_790, tyX8_ok, nmX8, rfl, by decide +kernel, rfl⟩
theorem pf_X8_16 : PF RX8 16 8 5 true (.array .int) := ⟨_, _, _, tyX8, rfl, by decide, iX8, tw_792, tyX8_ok, nmX8, rfl, by decide +kernel, rfl⟩
theorem pf_X8_19 : PF RX8 19 8 6 true (.array .int) := ⟨_, _, _, tyX8, rfl, by decide, iX8, tw_793, tyX8_ok, nmX8, rfl, by decide +kernel, rfl⟩
theorem pf_X8_22 : PF RX8 22 8 8 true (.array .int) := ⟨_, _, _, tyX8, rfl, by decide, iX8, tw_795, tyX8_ok, nmX8, rfl, by decide +kernel, rfl⟩
theorem pf_X8_25 : PF RX8 25 8 9 true (.array .int) := ⟨_, _, _, tyX8, rfl, by decide, iX8, tw_796, tyX8_ok, nmX8, rfl, by decide +kernel, rfl⟩
theorem pf_X8_28 : PF RX8 28 8 10 true (.array .int) := ⟨_, _, _, tyX8, rfl, by decide, iX8, tw_797, tyX8_ok, nmX8, rfl, by decide +kernel, rfl⟩
theorem pf_X8_31 : PF RX8 31 8 11 true (.array .int) := ⟨_, _, _, tyX8, rfl, by decide, iX8, tw_798, tyX8_ok, nmX8, rfl, by decide +kernel, rfl⟩
theorem pf_X8_34 : PF RX8 34 8 12 true (.array .int) := ⟨_, _, _, tyX8, rfl, by decide, iX8, tw_799, tyX8_ok, nmX8, rfl, by decide +kernel, rfl⟩
theorem pf_X8_37 : PF RX8 37 8 15 true (.array .int) := ⟨_, _, _, tyX8, rfl, by decide, iX8, tw_802, tyX8_ok, nmX8, rfl, by decide +kernel, rfl⟩
theorem pf_X8_40 : PF RX8 40 8 17 false .int := ⟨_, _, _, tyX8, rfl, by decide, iX8, tw_804, tyX8_ok, nmX8, rfl, by decide +kernel, rfl⟩
theorem pf_X8_44 : PF RX8 44 8 25 true (.array .int) := ⟨_, _, _, tyX8, rfl, by decide, iX8, tw_812, tyX8_ok, nmX8, rfl, by decide +kernel, rfl⟩
theorem pf_X8_47 : PF RX8 47 8 27 true (.array .int) := ⟨_, _, _, tyX8, rfl, by decide, iX8, tw_814, tyX8_ok, nmX8, rfl, by decide +kernel, rfl⟩
theorem pf_X8_50 : PF RX8 50 8 28 true (.array .int) := ⟨_, _, _, tyX8, rfl, by decide, iX8, tw_815, tyX8_ok, nmX8, rfl, by decide +kernel, rfl⟩
theorem pf_X8_53 : PF RX8 53 8 30 true (.array .int) := ⟨_, _, _, tyX8, rfl, by decide, iX8, tw_817, tyX8_ok, nmX8, rfl, by decide +kernel, rfl⟩
theorem pf_X8_56 : PF RX8 56 8 31 true (.array .int) := ⟨_, _, _, tyX8, rfl, by decide, iX8, tw_818, tyX8_ok, nmX8, rfl, by decide +kernel, rfl⟩
theorem pf_X8_59 : PF RX8 59 8 32 true (.array .int) := ⟨_, _, _, tyX8, rfl, by decide, iX8, tw_819, tyX8_ok, nmX8, rfl, by decide +kernel, rfl⟩
theorem pf_X8_62 : PF RX8 62 8 33 true (.array .int) := ⟨_, _, _, tyX8, rfl, by decide, iX8, tw_820, tyX8_ok, nmX8, rfl, by decide +kernel, rfl⟩
theorem pf_X8_65 : PF RX8 65 8 34 true (.array .int) := ⟨_, _, _, tyX8, rfl, by decide, iX8, tw_821, tyX8_ok, nmX8, rfl, by decide +kernel, rfl⟩
theorem pf_X8_68 : PF RX8 68 8 35 true (.array .int) := ⟨_, _, _, tyX8, rfl, by decide, iX8, tw_822, tyX8_ok, nmX8, rfl, by decide +kernel, rfl⟩
theorem pf_X8_71 : PF RX8 71 8 36 true (.array .int) := ⟨_, _, _, tyX8, rfl, by decide, iX8, tw_823, tyX8_ok, nmX8, rfl, by decide +kernel, rfl⟩
theorem pf_X8_74 : PF RX8 74 8 37 true (.array .int) := ⟨_, _, _, tyX8, rfl, by decide, iX8, tw_824, tyX8_ok, nmX8, rfl, by decide +kernel, rfl⟩
theorem pf_X8_77 : PF RX8 77 8 39 true (.array .int) := ⟨_, _, _, tyX8, rfl, by decide, iX8, tw_826, tyX8_ok, nmX8, rfl, by decide +kernel, rfl⟩
theorem pf_X8_80 : PF RX8 80 8 41 true (.array .int) := ⟨_, _, _, tyX8, rfl, by decide, iX8, tw_828, tyX8_ok, nmX8, rfl, by decide +kernel, rfl⟩
theorem pf_X8_83 : PF RX8 83 8 42 true (.array .int) := ⟨_, _, _, tyX8, rfl, by decide, iX8, tw_829, tyX8_ok, nmX8, rfl, by decide +kernel, rfl⟩
theorem pf_X8_86 : PF RX8 86 8 43 true (.array .boolean) := ⟨_, _, _, tyX8, rfl, by decide, iX8, tw_830, tyX8_ok, nmX8, rfl, by decide +kernel, rfl⟩
theorem pf_X8_90 : PF RX8 90 8 44 true (.array .int) := ⟨_, _, _, tyX8, rfl, by decide, iX8, tw_831, tyX8_ok, nmX8, rfl, by decide +kernel, rfl⟩
theorem pf_X8_93 : PF RX8 93 8 45 true (.array .boolean) := ⟨_, _, _, tyX8, rfl, by decide, iX8, tw_832, tyX8_ok, nmX8, rfl, by decide +kernel, rfl⟩
theorem pf_X8_96 : PF RX8 96 8 0 false .int := ⟨_, _, _, tyX8, rfl, by decide, iX8, tw_787, tyX8_ok, nmX8, rfl, by decide +kernel, rfl⟩
theorem tw_783 : (Cond.methodLink "CastOffsLaw" (12 : Nat) ({ cls := "CastOffsModel", name := "<init>", desc := "()V" } : MethodName)) ∈ cs_TG := cs_tgm 783 (by decide +kernel) rfl
theorem tw_784 : (Cond.instanceMethod ({ cls := "CastOffsModel", name := "<init>", desc := "()V" } : MethodName)) ∈ cs_TG := cs_tgm 784 (by decide +kernel) rfl
theorem tw_785 : (Cond.code ({ cls := "CastOffsModel", name := "<init>", desc := "()V" } : MethodName) prog_10_method_1_code (1 : Nat) (Option.none : Option FieldType)) ∈ cs_TG := cs_tgm 785 (by decide +kernel) rfl
theorem ci_L_12 : CLI RL 12 yX8_init cX8_init 1 0 := ⟨Or.inl tw_783, tw_784, tw_9, tw_785, rfl, ⟨by decide +kernel, by decide +kernel, by decide +kernel⟩, by decide⟩
