theorem p8_oddsBy_69 (x1 : Int) {h : HP} {Q : Int → Prop} (hb : p8_oddsBy x1 h Q) : MT yX8_oddsBy cX8_oddsBy 5 (some .long) 1 [vR 69, vI x1] h (QLP h Q) := by
  refine MT.of (own := RX8) (by decide) rfl (Nat.le_of_ble_eq_true rfl) rfl (fun X F G => ?_)
  unfold p8_oddsBy at hb
  refine AW.ldc2 (x := 1000000000) (pn := 3) F dX8_oddsBy_0 rfl tw_1180 (by decide) ?_
  refine AW.lstore_n (ls2 := [some (vR 69), some (vI x1), some (vL 1000000000), none, none]) (pn := 4) F dX8_oddsBy_3 rfl rfl (by decide) rfl rfl ?_
  refine AW.iconst (pn := 5) F dX8_oddsBy_4 rfl ?_
  refine AW.istore (ls2 := [some (vR 69), some (vI x1), some (vL 1000000000), none, some (vI 0)]) (pn := 7) F dX8_oddsBy_5 rfl (by decide) rfl rfl ?_
  refine p8_oddsBy_L7_ok_69 F G  _ _ _ hb

theorem p8_odds_69 (x1 x2 : Int) {h : HP} {Q : Int → Prop} (hb : p8_odds x1 x2 h Q) : MT yX8_odds cX8_odds 3 (some .int) 3 [vR 69, vI x1, vI x2] h (QP h Q) := by
  refine MT.of (own := RX8) (by decide) rfl (Nat.le_of_ble_eq_true rfl) rfl (fun X F G => ?_)
  unfold p8_odds at hb
  refine AW.aload_n (pn := 1) F dX8_odds_0 rfl rfl rfl ?_
  refine AW.iload_n (pn := 2) F dX8_odds_1 rfl rfl rfl ?_
  refine AW.cVP (pn := 5) (st := []) F dX8_odds_2 rfl cl_X8_229 so_69 (p8_isSort_69 x1 hb) rfl rfl (Nat.le_of_ble_eq_true rfl) (by decide) (fun r1 hb => ?_)
  refine AW.if_ne (pn := 8) (tg := 11) F dX8_odds_5 rfl (by decide) hb (fun hb => ?_) (fun hb => ?_)
  · refine AW.iload_n (pn := 12) F dX8_odds_11 rfl rfl rfl ?_
    refine AW.i2l (pn := 13) F dX8_odds_12 rfl ?_
    refine AW.lconst (x := 0) (pn := 14) F dX8_odds_13 rfl (by decide) ?_
    refine AW.ldc2 (x := 60) (pn := 17) F dX8_odds_14 rfl tw_1175 (by decide) ?_
    refine AW.cSP (pn := 20) (st := []) F dX8_odds_17 rfl cl_X8_102 (p8_in_s (w32 x2) 0 60 hb) rfl rfl (Nat.le_of_ble_eq_true rfl) (by decide) (fun r2 hb => ?_)
    refine AW.if_eq (pn := 23) (tg := 32) F dX8_odds_20 rfl (by decide) hb (fun hb => ?_) (fun hb => ?_)
    · refine AW.ldc (x := (-1000000002)) (pn := 34) F dX8_odds_32 rfl tw_938 (by decide) ?_
      exact AW.iret F G dX8_odds_34 ⟨rfl, _, rfl, hb⟩
    · refine AW.aload_n (pn := 24) F dX8_odds_23 rfl rfl rfl ?_
      refine AW.iload_n (pn := 25) F dX8_odds_24 rfl rfl rfl ?_
      refine AW.cVLP (pn := 28) (st := []) F dX8_odds_25 rfl cl_X8_314 so_69 (p8_oddsBy_69 x2 hb) rfl rfl (Nat.le_of_ble_eq_true rfl) (by decide) (fun r3 hb => ?_)
      refine AW.l2i (pn := 29) F dX8_odds_28 rfl ?_
      refine AW.goto (tg := 34) F dX8_odds_29 (by decide) ?_
      exact AW.iret F G dX8_odds_34 ⟨rfl, _, rfl, hb⟩
  · refine AW.ldc (x := (-1000000001)) (pn := 10) F dX8_odds_8 rfl tw_1009 (by decide) ?_
    exact AW.iret F G dX8_odds_10 ⟨rfl, _, rfl, hb⟩

theorem p8_waits_L96_ok_69 {X : Cx} {x3 x7 : Int} {h : HP} {Q : Int → Prop} (F : Fx X cX8_waits RX8 13 4) (G : Rx X (some .int) (QP h Q))  : ∀ (n : Nat) (x5 : Int) (x9 : Int) (x10 : Int), p8_waits_L96 x3 x7 h Q n x5 x9 x10 → AW X 13 96 [some (vR 69), none, none, some (vI x3), none, some (vL x5), none, some (vL x7), none, some (vI x9), some (vI x10), none, none] [] h := by
  intro n
  induction n with
  | zero => intro _ _ _ hb; exact hb.elim
  | succ n ih =>
    intro x5 x9 x10 hb
    unfold p8_waits_L96 at hb
    refine AW.iload (pn := 98) F dX8_waits_96 rfl rfl ?_
    refine AW.bipush (pn := 100) F dX8_waits_98 rfl (by decide) ?_
    refine AW.icmp_gt (pn := 103) (tg := 165) F dX8_waits_100 rfl (by decide) hb (fun hb => ?_) (fun hb => ?_)
    · refine AW.iload (pn := 167) F dX8_waits_165 rfl rfl ?_
      exact AW.iret F G dX8_waits_167 ⟨rfl, _, rfl, hb⟩
    · refine AW.lload (pn := 105) F dX8_waits_103 rfl rfl ?_
      refine AW.aload_n (pn := 106) F dX8_waits_105 rfl rfl rfl ?_
      refine AW.iload (pn := 108) F dX8_waits_106 rfl rfl ?_
      refine AW.cVLP (pn := 111) (st := [vL x7]) F dX8_waits_108 rfl cl_X8_314 so_69 (p8_oddsBy_69 x10 hb) rfl rfl (Nat.le_of_ble_eq_true rfl) (by decide) (fun r15 hb => ?_)
      refine AW.lmul (pn := 112) F dX8_waits_111 rfl ?_
      refine AW.ldc2 (x := 1000000000) (pn := 115) F dX8_waits_112 rfl tw_1180 (by decide) ?_
      refine AW.ldiv (pn := 116) F dX8_waits_115 rfl (by decide) ?_
      refine AW.iload (pn := 118) F dX8_waits_116 rfl rfl ?_
      refine AW.i2l (pn := 119) F dX8_waits_118 rfl ?_
      refine AW.iload_n (pn := 120) F dX8_waits_119 rfl rfl rfl ?_
      refine AW.i2l (pn := 121) F dX8_waits_120 rfl ?_
      refine AW.lmul (pn := 122) F dX8_waits_121 rfl ?_
      refine AW.lsub (pn := 123) F dX8_waits_122 rfl ?_
      refine AW.lstore (ls2 := [some (vR 69), none, none, some (vI x3), none, some (vL x5), none, some (vL x7), none, some (vI x9), some (vI x10), some (vL ((ld (x7 * r15) 1000000000) - ((w32 x10) * (w32 x3)))), none]) (pn := 125) F dX8_waits_123 rfl (by decide) rfl rfl ?_
      refine AW.lload (pn := 127) F dX8_waits_125 rfl rfl ?_
      refine AW.lload (pn := 129) F dX8_waits_127 rfl rfl ?_
      refine AW.lcmp (pn := 130) F dX8_waits_129 rfl ?_
      refine jn_1 hb (fun (y17 : Int) => AW X 13 140 [some (vR 69), none, none, some (vI x3), none, some (vL x5), none, some (vL x7), none, none, some (vI x10), some (vL ((ld (x7 * r15) 1000000000) - ((w32 x10) * (w32 x3)))), none] [vI y17] h) (fun y17 hb => ?_) (fun K18 hK18 hb => ?_)
      · refine AW.istore (ls2 := [some (vR 69), none, none, some (vI x3), none, some (vL x5), none, some (vL x7), none, some (vI y17), some (vI x10), some (vL ((ld (x7 * r15) 1000000000) - ((w32 x10) * (w32 x3)))), none]) (pn := 142) F dX8_waits_140 rfl (by decide) rfl rfl ?_
        refine AW.lload (pn := 144) F dX8_waits_142 rfl rfl ?_
        refine AW.lload (pn := 146) F dX8_waits_144 rfl rfl ?_
        refine AW.lcmp (pn := 147) F dX8_waits_146 rfl ?_
        refine AW.if_le (pn := 150) (tg := 155) F dX8_waits_147 rfl (by decide) hb (fun hb => ?_) (fun hb => ?_)
        · refine AW.lload (pn := 157) F dX8_waits_155 rfl rfl ?_
          refine AW.lstore (ls2 := [some (vR 69), none, none, some (vI x3), none, some (vL x5), none, some (vL x7), none, some (vI y17), some (vI x10), some (vL ((ld (x7 * r15) 1000000000) - ((w32 x10) * (w32 x3)))), none]) (pn := 159) F dX8_waits_157 rfl (by decide) rfl rfl ?_
          refine AW.iinc (ls2 := [some (vR 69), none, none, some (vI x3), none, some (vL x5), none, some (vL x7), none, some (vI y17), some (vI (x10 + 1)), some (vL ((ld (x7 * r15) 1000000000) - ((w32 x10) * (w32 x3)))), none]) (pn := 162) F dX8_waits_159 rfl rfl (by decide) rfl rfl ?_
          refine AW.goto (tg := 96) F dX8_waits_162 (by decide) ?_
          refine AW.drop [true, true, true, true, true, true, true, true, true, true, true, false, true] rfl ?_
          exact ih _ _ _ hb
        · refine AW.lload (pn := 152) F dX8_waits_150 rfl rfl ?_
          refine AW.goto (tg := 157) F dX8_waits_152 (by decide) ?_
          refine AW.lstore (ls2 := [some (vR 69), none, none, some (vI x3), none, some (vL ((ld (x7 * r15) 1000000000) - ((w32 x10) * (w32 x3)))), none, some (vL x7), none, some (vI y17), some (vI x10), some (vL ((ld (x7 * r15) 1000000000) - ((w32 x10) * (w32 x3)))), none]) (pn := 159) F dX8_waits_157 rfl (by decide) rfl rfl ?_
          refine AW.iinc (ls2 := [some (vR 69), none, none, some (vI x3), none, some (vL ((ld (x7 * r15) 1000000000) - ((w32 x10) * (w32 x3)))), none, some (vL x7), none, some (vI y17), some (vI (x10 + 1)), some (vL ((ld (x7 * r15) 1000000000) - ((w32 x10) * (w32 x3)))), none]) (pn := 162) F dX8_waits_159 rfl rfl (by decide) rfl rfl ?_
          refine AW.goto (tg := 96) F dX8_waits_162 (by decide) ?_
          refine AW.drop [true, true, true, true, true, true, true, true, true, true, true, false, true] rfl ?_
          exact ih _ _ _ hb
      refine AW.if_le (pn := 133) (tg := 138) F dX8_waits_130 rfl (by decide) hb (fun hb => ?_) (fun hb => ?_)
      · refine AW.iload (pn := 140) F dX8_waits_138 rfl rfl ?_
        refine AW.drop [true, true, true, true, true, true, true, true, true, false, true, true, true] rfl ?_
        exact hK18 _ hb
      · refine AW.iload (pn := 135) F dX8_waits_133 rfl rfl ?_
        refine AW.goto (tg := 140) F dX8_waits_135 (by decide) ?_
        refine AW.drop [true, true, true, true, true, true, true, true, true, false, true, true, true] rfl ?_
        exact hK18 _ hb

theorem p8_waits_69 (x1 x2 x3 : Int) {h : HP} {Q : Int → Prop} (hb : p8_waits x1 x2 x3 h Q) : MT yX8_waits cX8_waits 13 (some .int) 4 [vR 69, vI x1, vI x2, vI x3] h (QP h Q) := by
  refine MT.of (own := RX8) (by decide) rfl (Nat.le_of_ble_eq_true rfl) rfl (fun X F G => ?_)
  unfold p8_waits at hb
  refine AW.aload_n (pn := 1) F dX8_waits_0 rfl rfl rfl ?_
  refine AW.iload_n (pn := 2) F dX8_waits_1 rfl rfl rfl ?_
  refine AW.cVP (pn := 5) (st := []) F dX8_waits_2 rfl cl_X8_218 so_69 (p8_isHouse_69 x1 hb) rfl rfl (Nat.le_of_ble_eq_true rfl) (by decide) (fun r1 hb => ?_)
  refine AW.if_eq (pn := 8) (tg := 16) F dX8_waits_5 rfl (by decide) hb (fun hb => ?_) (fun hb => ?_)
  · refine AW.ldc (x := (-1000000001)) (pn := 18) F dX8_waits_16 rfl tw_1009 (by decide) ?_
    exact AW.iret F G dX8_waits_18 ⟨rfl, _, rfl, hb⟩
  · refine AW.aload_n (pn := 9) F dX8_waits_8 rfl rfl rfl ?_
    refine AW.iload_n (pn := 10) F dX8_waits_9 rfl rfl rfl ?_
    refine AW.cVP (pn := 13) (st := []) F dX8_waits_10 rfl cl_X8_229 so_69 (p8_isSort_69 x2 hb) rfl rfl (Nat.le_of_ble_eq_true rfl) (by decide) (fun r2 hb => ?_)
    refine AW.if_ne (pn := 16) (tg := 19) F dX8_waits_13 rfl (by decide) hb (fun hb => ?_) (fun hb => ?_)
    · refine AW.iload_n (pn := 20) F dX8_waits_19 rfl rfl rfl ?_
      refine AW.i2l (pn := 21) F dX8_waits_20 rfl ?_
      refine AW.lconst (x := 0) (pn := 22) F dX8_waits_21 rfl (by decide) ?_
      refine AW.ldc2 (x := 99) (pn := 25) F dX8_waits_22 rfl tw_1093 (by decide) ?_
      refine AW.cSP (pn := 28) (st := []) F dX8_waits_25 rfl cl_X8_102 (p8_in_s (w32 x3) 0 99 hb) rfl rfl (Nat.le_of_ble_eq_true rfl) (by decide) (fun r3 hb => ?_)
      refine AW.if_ne (pn := 31) (tg := 34) F dX8_waits_28 rfl (by decide) hb (fun hb => ?_) (fun hb => ?_)
      · refine AW.aload_n (pn := 35) F dX8_waits_34 rfl rfl rfl ?_
        refine AW.iload_n (pn := 36) F dX8_waits_35 rfl rfl rfl ?_
        refine AW.cVP (pn := 39) (st := []) F dX8_waits_36 rfl cl_X8_255 so_69 (p8_bestTake_69 x1 hb) rfl rfl (Nat.le_of_ble_eq_true rfl) (by decide) (fun r4 hb => ?_)
        refine AW.istore (ls2 := [some (vR 69), some (vI x1), some (vI x2), some (vI x3), some (vI r4), none, none, none, none, none, none, none, none]) (pn := 41) F dX8_waits_39 rfl (by decide) rfl rfl ?_
        refine AW.iload (pn := 43) F dX8_waits_41 rfl rfl ?_
        refine jn_1 hb (fun (y7 : Int) => AW X 13 58 [some (vR 69), some (vI x1), some (vI x2), some (vI x3), none, none, none, none, none, none, none, none, none] [vL y7] h) (fun y7 hb => ?_) (fun K8 hK8 hb => ?_)
        · refine AW.lstore (ls2 := [some (vR 69), some (vI x1), some (vI x2), some (vI x3), none, some (vL y7), none, none, none, none, none, none, none]) (pn := 60) F dX8_waits_58 rfl (by decide) rfl rfl ?_
          refine AW.aload_n (pn := 61) F dX8_waits_60 rfl rfl rfl ?_
          refine AW.iload_n (pn := 62) F dX8_waits_61 rfl rfl rfl ?_
          refine AW.cVP (pn := 65) (st := []) F dX8_waits_62 rfl cl_X8_205 so_69 (p8_sortsOf_69 x1 hb) rfl rfl (Nat.le_of_ble_eq_true rfl) (by decide) (fun r9 hb => ?_)
          refine AW.iload_n (pn := 66) F dX8_waits_65 rfl rfl rfl ?_
          refine AW.cSP (pn := 69) (st := []) F dX8_waits_66 rfl cl_X8_201 (p8_has_s r9 x2 hb) rfl rfl (Nat.le_of_ble_eq_true rfl) (by decide) (fun r10 hb => ?_)
          refine jn_1 hb (fun (y13 : Int) => AW X 13 88 [some (vR 69), none, none, some (vI x3), none, some (vL y7), none, none, none, none, none, none, none] [vL y13] h) (fun y13 hb => ?_) (fun K14 hK14 hb => ?_)
          · refine AW.lstore (ls2 := [some (vR 69), none, none, some (vI x3), none, some (vL y7), none, some (vL y13), none, none, none, none, none]) (pn := 90) F dX8_waits_88 rfl (by decide) rfl rfl ?_
            refine AW.iconst (pn := 91) F dX8_waits_90 rfl ?_
            refine AW.istore (ls2 := [some (vR 69), none, none, some (vI x3), none, some (vL y7), none, some (vL y13), none, some (vI (-1)), none, none, none]) (pn := 93) F dX8_waits_91 rfl (by decide) rfl rfl ?_
            refine AW.iconst (pn := 94) F dX8_waits_93 rfl ?_
            refine AW.istore (ls2 := [some (vR 69), none, none, some (vI x3), none, some (vL y7), none, some (vL y13), none, some (vI (-1)), some (vI 0), none, none]) (pn := 96) F dX8_waits_94 rfl (by decide) rfl rfl ?_
            refine p8_waits_L96_ok_69 F G  _ _ _ _ hb
          refine AW.if_eq (pn := 72) (tg := 76) F dX8_waits_69 rfl (by decide) hb (fun hb => ?_) (fun hb => ?_)
          · refine AW.aload_n (pn := 77) F dX8_waits_76 rfl rfl rfl ?_
            refine AW.getR (r := 71) (pn := 80) F dX8_waits_77 rfl gl_X8_13 so_69 rfl ?_
            refine AW.bipush (pn := 82) F dX8_waits_80 rfl (by decide) ?_
            refine AW.iload_n (pn := 83) F dX8_waits_82 rfl rfl rfl ?_
            refine AW.imul (pn := 84) F dX8_waits_83 rfl ?_
            refine AW.iload_n (pn := 85) F dX8_waits_84 rfl rfl rfl ?_
            refine AW.iadd (pn := 86) F dX8_waits_85 rfl ?_
            refine AW.iald (pn := 87) F dX8_waits_86 rfl so_71 hb (fun v19 hb => ?_)
            refine AW.i2l (pn := 88) F dX8_waits_87 rfl ?_
            refine AW.drop [true, false, false, true, true, true, true, true, true, true, true, true, true] rfl ?_
            exact hK14 _ hb
          · refine AW.lconst (x := 0) (pn := 73) F dX8_waits_72 rfl (by decide) ?_
            refine AW.goto (tg := 88) F dX8_waits_73 (by decide) ?_
            refine AW.drop [true, false, false, true, true, true, true, true, true, true, true, true, true] rfl ?_
            exact hK14 _ hb
        refine AW.if_ge (pn := 46) (tg := 50) F dX8_waits_43 rfl (by decide) hb (fun hb => ?_) (fun hb => ?_)
        · refine AW.aload_n (pn := 51) F dX8_waits_50 rfl rfl rfl ?_
          refine AW.iload_n (pn := 52) F dX8_waits_51 rfl rfl rfl ?_
          refine AW.iload (pn := 54) F dX8_waits_52 rfl rfl ?_
          refine AW.cVP (pn := 57) (st := []) F dX8_waits_54 rfl cl_X8_249 so_69 (p8_gainOf_69 x1 r4 hb) rfl rfl (Nat.le_of_ble_eq_true rfl) (by decide) (fun r20 hb => ?_)
          refine AW.i2l (pn := 58) F dX8_waits_57 rfl ?_
          refine AW.drop [true, true, true, true, false, true, true, true, true, true, true, true, true] rfl ?_
          exact hK8 _ hb
        · refine AW.lconst (x := 0) (pn := 47) F dX8_waits_46 rfl (by decide) ?_
          refine AW.goto (tg := 58) F dX8_waits_47 (by decide) ?_
          refine AW.drop [true, true, true, true, false, true, true, true, true, true, true, true, true] rfl ?_
          exact hK8 _ hb
      · refine AW.ldc (x := (-1000000002)) (pn := 33) F dX8_waits_31 rfl tw_938 (by decide) ?_
        exact AW.iret F G dX8_waits_33 ⟨rfl, _, rfl, hb⟩
    · refine AW.ldc (x := (-1000000001)) (pn := 18) F dX8_waits_16 rfl tw_1009 (by decide) ?_
      exact AW.iret F G dX8_waits_18 ⟨rfl, _, rfl, hb⟩

theorem p8_findLie_L7_ok_69 {X : Cx} {x1 : Int} {Q : HP → Prop} (F : Fx X cX8_findLie RX8 3 1) (G : Rx X none (QV Q))  : ∀ (n : Nat) (h : HP) (x2 : Int), p8_findLie_L7 x1 Q n h x2 → AW X 3 7 [some (vR 69), some (vI x1), some (vI x2)] [] h := by
  intro n
  induction n with
  | zero => intro _ _ hb; exact hb.elim
  | succ n ih =>
    intro h x2 hb
    unfold p8_findLie_L7 at hb
    refine AW.iload_n (pn := 8) F dX8_findLie_7 rfl rfl rfl ?_
    refine AW.aload_n (pn := 9) F dX8_findLie_8 rfl rfl rfl ?_
    refine AW.getI (pn := 12) F dX8_findLie_9 rfl gl_X8_106 so_69 rfl ?_
    refine AW.icmp_ge (pn := 15) (tg := 69) F dX8_findLie_12 rfl (by decide) hb (fun hb => ?_) (fun hb => ?_)
    · exact AW.vret F G dX8_findLie_69 ⟨rfl, hb⟩
    · refine AW.aload_n (pn := 16) F dX8_findLie_15 rfl rfl rfl ?_
      refine AW.getI (pn := 19) F dX8_findLie_16 rfl gl_X8_318 so_69 rfl ?_
      refine AW.bipush (pn := 21) F dX8_findLie_19 rfl (by decide) ?_
      refine AW.icmp_ge (pn := 24) (tg := 69) F dX8_findLie_21 rfl (by decide) hb (fun hb => ?_) (fun hb => ?_)
      · exact AW.vret F G dX8_findLie_69 ⟨rfl, hb⟩
      · refine AW.aload_n (pn := 25) F dX8_findLie_24 rfl rfl rfl ?_
        refine AW.getR (r := 75) (pn := 28) F dX8_findLie_25 rfl gl_X8_25 so_69 rfl ?_
        refine AW.iload_n (pn := 29) F dX8_findLie_28 rfl rfl rfl ?_
        refine AW.iald (pn := 30) F dX8_findLie_29 rfl so_75 hb (fun v2 hb => ?_)
        refine AW.if_ge (pn := 33) (tg := 63) F dX8_findLie_30 rfl (by decide) hb (fun hb => ?_) (fun hb => ?_)
        · refine AW.iinc (ls2 := [some (vR 69), some (vI x1), some (vI (x2 + 1))]) (pn := 66) F dX8_findLie_63 rfl rfl (by decide) rfl rfl ?_
          refine AW.goto (tg := 7) F dX8_findLie_66 (by decide) ?_
          exact ih _ _ hb
        · refine AW.aload_n (pn := 34) F dX8_findLie_33 rfl rfl rfl ?_
          refine AW.getR (r := 76) (pn := 37) F dX8_findLie_34 rfl gl_X8_28 so_69 rfl ?_
          refine AW.iload_n (pn := 38) F dX8_findLie_37 rfl rfl rfl ?_
          refine AW.iald (pn := 39) F dX8_findLie_38 rfl so_76 hb (fun v3 hb => ?_)
          refine AW.iload_n (pn := 40) F dX8_findLie_39 rfl rfl rfl ?_
          refine AW.icmp_ne (pn := 43) (tg := 63) F dX8_findLie_40 rfl (by decide) hb (fun hb => ?_) (fun hb => ?_)
          · refine AW.iinc (ls2 := [some (vR 69), some (vI x1), some (vI (x2 + 1))]) (pn := 66) F dX8_findLie_63 rfl rfl (by decide) rfl rfl ?_
            refine AW.goto (tg := 7) F dX8_findLie_66 (by decide) ?_
            exact ih _ _ hb
          · refine AW.aload_n (pn := 44) F dX8_findLie_43 rfl rfl rfl ?_
            refine AW.getR (r := 90) (pn := 47) F dX8_findLie_44 rfl gl_X8_74 so_69 rfl ?_
            refine AW.aload_n (pn := 48) F dX8_findLie_47 rfl rfl rfl ?_
            refine AW.getI (pn := 51) F dX8_findLie_48 rfl gl_X8_318 so_69 rfl ?_
            refine AW.iload_n (pn := 52) F dX8_findLie_51 rfl rfl rfl ?_
            refine AW.iast (pn := 53) F dX8_findLie_52 rfl so_90 hb (fun h4 hb => ?_)
            refine AW.aload_n (pn := 54) F dX8_findLie_53 rfl rfl rfl ?_
            refine AW.dupR (pn := 55) F dX8_findLie_54 rfl ?_
            refine AW.getI (pn := 58) F dX8_findLie_55 rfl gl_X8_318 so_69 rfl ?_
            refine AW.iconst (pn := 59) F dX8_findLie_58 rfl ?_
            refine AW.iadd (pn := 60) F dX8_findLie_59 rfl ?_
            refine AW.putI (pn := 63) F dX8_findLie_60 rfl pl_X8_318 so_69 rfl hb (fun h5 hb => ?_)
            refine AW.iinc (ls2 := [some (vR 69), some (vI x1), some (vI (x2 + 1))]) (pn := 66) F dX8_findLie_63 rfl rfl (by decide) rfl rfl ?_
            refine AW.goto (tg := 7) F dX8_findLie_66 (by decide) ?_
            exact ih _ _ hb

theorem p8_findLie_69 (x1 : Int) {h : HP} {Q : HP → Prop} (hb : p8_findLie x1 h Q) : MT yX8_findLie cX8_findLie 3 none 1 [vR 69, vI x1] h (QV Q) := by
  refine MT.of (own := RX8) (by decide) rfl (Nat.le_of_ble_eq_true rfl) rfl (fun X F G => ?_)
  unfold p8_findLie at hb
  refine AW.aload_n (pn := 1) F dX8_findLie_0 rfl rfl rfl ?_
  refine AW.iconst (pn := 2) F dX8_findLie_1 rfl ?_
  refine AW.putI (pn := 5) F dX8_findLie_2 rfl pl_X8_318 so_69 rfl hb (fun h1 hb => ?_)
  refine AW.iconst (pn := 6) F dX8_findLie_5 rfl ?_
  refine AW.istore_n (ls2 := [some (vR 69), some (vI x1), some (vI 0)]) (pn := 7) F dX8_findLie_6 rfl rfl (by decide) rfl rfl ?_
  refine p8_findLie_L7_ok_69 F G  _ _ _ hb

theorem p8_power_L4_ok_s {X : Cx} {x0 : Int} {h : HP} {Q : Int → Prop} (F : Fx X cX8_power RX8 3 1) (G : Rx X (some .int) (QP h Q))  : ∀ (n : Nat) (x1 : Int) (x2 : Int), p8_power_L4 x0 h Q n x1 x2 → AW X 3 4 [some (vI x0), some (vI x1), some (vI x2)] [] h := by
  intro n
  induction n with
  | zero => intro _ _ hb; exact hb.elim
  | succ n ih =>
    intro x1 x2 hb
    unfold p8_power_L4 at hb
    refine AW.iload_n (pn := 5) F dX8_power_4 rfl rfl rfl ?_
    refine AW.iload_n (pn := 6) F dX8_power_5 rfl rfl rfl ?_
    refine AW.icmp_ge (pn := 9) (tg := 20) F dX8_power_6 rfl (by decide) hb (fun hb => ?_) (fun hb => ?_)
    · refine AW.iload_n (pn := 21) F dX8_power_20 rfl rfl rfl ?_
      exact AW.iret F G dX8_power_21 ⟨rfl, _, rfl, hb⟩
    · refine AW.iload_n (pn := 10) F dX8_power_9 rfl rfl rfl ?_
      refine AW.bipush (pn := 12) F dX8_power_10 rfl (by decide) ?_
      refine AW.imul (pn := 13) F dX8_power_12 rfl ?_
      refine AW.istore_n (ls2 := [some (vI x0), some (vI (x1 * 9)), some (vI x2)]) (pn := 14) F dX8_power_13 rfl rfl (by decide) rfl rfl ?_
      refine AW.iinc (ls2 := [some (vI x0), some (vI (x1 * 9)), some (vI (x2 + 1))]) (pn := 17) F dX8_power_14 rfl rfl (by decide) rfl rfl ?_
      refine AW.goto (tg := 4) F dX8_power_17 (by decide) ?_
      exact ih _ _ hb

theorem p8_power_s (x0 : Int) {h : HP} {Q : Int → Prop} (hb : p8_power x0 h Q) : MT yX8_power cX8_power 3 (some .int) 1 [vI x0] h (QP h Q) := by
  refine MT.of (own := RX8) (by decide) rfl (Nat.le_of_ble_eq_true rfl) rfl (fun X F G => ?_)
  unfold p8_power at hb
  refine AW.iconst (pn := 1) F dX8_power_0 rfl ?_
  refine AW.istore_n (ls2 := [some (vI x0), some (vI 1), none]) (pn := 2) F dX8_power_1 rfl rfl (by decide) rfl rfl ?_
  refine AW.iconst (pn := 3) F dX8_power_2 rfl ?_
  refine AW.istore_n (ls2 := [some (vI x0), some (vI 1), some (vI 0)]) (pn := 4) F dX8_power_3 rfl rfl (by decide) rfl rfl ?_
  refine p8_power_L4_ok_s F G  _ _ _ hb

theorem p8_endOf_L17_ok_69 {X : Cx} {x1 x2 x3 x4 : Int} {h : HP} {E114 : Int → Int → Prop} {Q : Int → Prop} (F : Fx X cX8_endOf RX8 10 3) (G : Rx X (some .int) (QP h Q)) (hE114 : ∀ (x5 : Int) (x6 : Int), E114 x5 x6 → AW X 10 114 [some (vR 69), some (vI x1), some (vI x2), none, none, some (vI x5), some (vI x6), none, none, none] [] h) : ∀ (n : Nat) (x5 : Int) (x6 : Int) (x7 : Int), p8_endOf_L17 x1 x2 x3 x4 h E114 n x5 x6 x7 → AW X 10 17 [some (vR 69), some (vI x1), some (vI x2), some (vI x3), some (vI x4), some (vI x5), some (vI x6), some (vI x7), none, none] [] h := by
  intro n
  induction n with
  | zero => intro _ _ _ hb; exact hb.elim
  | succ n ih =>
    intro x5 x6 x7 hb
    unfold p8_endOf_L17 at hb
    refine AW.iload (pn := 19) F dX8_endOf_17 rfl rfl ?_
    refine AW.iload_n (pn := 20) F dX8_endOf_19 rfl rfl rfl ?_
    refine AW.icmp_ge (pn := 23) (tg := 114) F dX8_endOf_20 rfl (by decide) hb (fun hb => ?_) (fun hb => ?_)
    · refine AW.drop [true, true, true, false, false, true, true, false, true, true] rfl ?_
      exact hE114 _ _ hb
    · refine AW.iload (pn := 25) F dX8_endOf_23 rfl rfl ?_
      refine AW.iload (pn := 27) F dX8_endOf_25 rfl rfl ?_
      refine AW.cSP (pn := 30) (st := [vI x4]) F dX8_endOf_27 rfl cl_X8_321 (p8_power_s x7 hb) rfl rfl (Nat.le_of_ble_eq_true rfl) (by decide) (fun r3 hb => ?_)
      refine AW.idiv (pn := 31) F dX8_endOf_30 rfl hb.1 ?_
      replace hb := hb.2
      refine AW.bipush (pn := 33) F dX8_endOf_31 rfl (by decide) ?_
      refine AW.irem (pn := 34) F dX8_endOf_33 rfl (by decide) ?_
      refine AW.istore (ls2 := [some (vR 69), some (vI x1), some (vI x2), some (vI x3), some (vI x4), some (vI x5), some (vI x6), some (vI x7), some (vI (qm (qd x4 r3) 9)), none]) (pn := 36) F dX8_endOf_34 rfl (by decide) rfl rfl ?_
      refine AW.iload (pn := 38) F dX8_endOf_36 rfl rfl ?_
      refine jn_1 hb (fun (y7 : Int) => AW X 10 70 [some (vR 69), some (vI x1), some (vI x2), some (vI x3), some (vI x4), some (vI x5), some (vI x6), some (vI x7), none, none] [vI y7] h) (fun y7 hb => ?_) (fun K8 hK8 hb => ?_)
      · refine AW.istore (ls2 := [some (vR 69), some (vI x1), some (vI x2), some (vI x3), some (vI x4), some (vI x5), some (vI x6), some (vI x7), none, some (vI y7)]) (pn := 72) F dX8_endOf_70 rfl (by decide) rfl rfl ?_
        refine AW.iload (pn := 74) F dX8_endOf_72 rfl rfl ?_
        refine AW.iload (pn := 76) F dX8_endOf_74 rfl rfl ?_
        refine AW.iconst (pn := 77) F dX8_endOf_76 rfl ?_
        refine AW.irem (pn := 78) F dX8_endOf_77 rfl (by decide) ?_
        refine jn_1 hb (fun (y10 : Int) => AW X 10 87 [some (vR 69), some (vI x1), some (vI x2), some (vI x3), some (vI x4), none, some (vI x6), some (vI x7), none, some (vI y7)] [vI y10, vI x5] h) (fun y10 hb => ?_) (fun K11 hK11 hb => ?_)
        · refine AW.ior (pn := 88) F dX8_endOf_87 rfl ?_
          refine AW.istore (ls2 := [some (vR 69), some (vI x1), some (vI x2), some (vI x3), some (vI x4), some (vI (io x5 y10)), some (vI x6), some (vI x7), none, some (vI y7)]) (pn := 90) F dX8_endOf_88 rfl (by decide) rfl rfl ?_
          refine AW.iload (pn := 92) F dX8_endOf_90 rfl rfl ?_
          refine AW.iload (pn := 94) F dX8_endOf_92 rfl rfl ?_
          refine AW.iconst (pn := 95) F dX8_endOf_94 rfl ?_
          refine AW.irem (pn := 96) F dX8_endOf_95 rfl (by decide) ?_
          refine AW.if_ne (pn := 99) (tg := 103) F dX8_endOf_96 rfl (by decide) hb (fun hb => ?_) (fun hb => ?_)
          · refine AW.iload (pn := 105) F dX8_endOf_103 rfl rfl ?_
            refine AW.ior (pn := 106) F dX8_endOf_105 rfl ?_
            refine AW.istore (ls2 := [some (vR 69), some (vI x1), some (vI x2), some (vI x3), some (vI x4), some (vI (io x5 y10)), some (vI (io x6 y7)), some (vI x7), none, some (vI y7)]) (pn := 108) F dX8_endOf_106 rfl (by decide) rfl rfl ?_
            refine AW.iinc (ls2 := [some (vR 69), some (vI x1), some (vI x2), some (vI x3), some (vI x4), some (vI (io x5 y10)), some (vI (io x6 y7)), some (vI (x7 + 1)), none, some (vI y7)]) (pn := 111) F dX8_endOf_108 rfl rfl (by decide) rfl rfl ?_
            refine AW.goto (tg := 17) F dX8_endOf_111 (by decide) ?_
            refine AW.drop [true, true, true, true, true, true, true, true, true, false] rfl ?_
            exact ih _ _ _ hb
          · refine AW.iconst (pn := 100) F dX8_endOf_99 rfl ?_
            refine AW.goto (tg := 105) F dX8_endOf_100 (by decide) ?_
            refine AW.ior (pn := 106) F dX8_endOf_105 rfl ?_
            refine AW.istore (ls2 := [some (vR 69), some (vI x1), some (vI x2), some (vI x3), some (vI x4), some (vI (io x5 y10)), some (vI (io x6 0)), some (vI x7), none, some (vI y7)]) (pn := 108) F dX8_endOf_106 rfl (by decide) rfl rfl ?_
            refine AW.iinc (ls2 := [some (vR 69), some (vI x1), some (vI x2), some (vI x3), some (vI x4), some (vI (io x5 y10)), some (vI (io x6 0)), some (vI (x7 + 1)), none, some (vI y7)]) (pn := 111) F dX8_endOf_108 rfl rfl (by decide) rfl rfl ?_
            refine AW.goto (tg := 17) F dX8_endOf_111 (by decide) ?_
            refine AW.drop [true, true, true, true, true, true, true, true, true, false] rfl ?_
            exact ih _ _ _ hb
        refine AW.if_ne (pn := 81) (tg := 86) F dX8_endOf_78 rfl (by decide) hb (fun hb => ?_) (fun hb => ?_)
        · refine AW.iconst (pn := 87) F dX8_endOf_86 rfl ?_
          refine AW.drop [true, true, true, true, true, false, true, true, true, true] rfl ?_
          exact hK11 _ hb
        · refine AW.iload (pn := 83) F dX8_endOf_81 rfl rfl ?_
          refine AW.goto (tg := 87) F dX8_endOf_83 (by decide) ?_
          refine AW.drop [true, true, true, true, true, false, true, true, true, true] rfl ?_
          exact hK11 _ hb
      refine jn_0 hb (AW X 10 50 [some (vR 69), some (vI x1), some (vI x2), some (vI x3), some (vI x4), some (vI x5), some (vI x6), some (vI x7), none, none] [] h) (fun  hb => ?_) (fun K12 hK12 hb => ?_)
      · refine AW.iconst (pn := 51) F dX8_endOf_50 rfl ?_
        refine AW.goto (tg := 70) F dX8_endOf_51 (by decide) ?_
        exact hK8 _ hb
      refine AW.if_eq (pn := 41) (tg := 50) F dX8_endOf_38 rfl (by decide) hb (fun hb => ?_) (fun hb => ?_)
      · refine AW.drop [true, true, true, true, true, true, true, true, false, true] rfl ?_
        exact hK12 hb
      · refine AW.iload (pn := 43) F dX8_endOf_41 rfl rfl ?_
        refine AW.aload_n (pn := 44) F dX8_endOf_43 rfl rfl rfl ?_
        refine AW.getI (pn := 47) F dX8_endOf_44 rfl gl_X8_318 so_69 rfl ?_
        refine AW.icmp_le (pn := 50) (tg := 54) F dX8_endOf_47 rfl (by decide) hb (fun hb => ?_) (fun hb => ?_)
        · refine AW.iconst (pn := 55) F dX8_endOf_54 rfl ?_
          refine AW.aload_n (pn := 56) F dX8_endOf_55 rfl rfl rfl ?_
          refine AW.getR (r := 74) (pn := 59) F dX8_endOf_56 rfl gl_X8_22 so_69 rfl ?_
          refine AW.aload_n (pn := 60) F dX8_endOf_59 rfl rfl rfl ?_
          refine AW.getR (r := 90) (pn := 63) F dX8_endOf_60 rfl gl_X8_74 so_69 rfl ?_
          refine AW.iload (pn := 65) F dX8_endOf_63 rfl rfl ?_
          refine AW.iconst (pn := 66) F dX8_endOf_65 rfl ?_
          refine AW.isub (pn := 67) F dX8_endOf_66 rfl ?_
          refine AW.iald (pn := 68) F dX8_endOf_67 rfl so_90 hb (fun v13 hb => ?_)
          refine AW.iald (pn := 69) F dX8_endOf_68 rfl so_74 hb (fun v14 hb => ?_)
          refine AW.ishl (pn := 70) F dX8_endOf_69 rfl ?_
          refine AW.drop [true, true, true, true, true, true, true, true, false, true] rfl ?_
          exact hK8 _ hb
        · refine AW.drop [true, true, true, true, true, true, true, true, false, true] rfl ?_
          exact hK12 hb

theorem p8_endOf_69 (x1 x2 x3 x4 : Int) {h : HP} {Q : Int → Prop} (hb : p8_endOf x1 x2 x3 x4 h Q) : MT yX8_endOf cX8_endOf 10 (some .int) 3 [vR 69, vI x1, vI x2, vI x3, vI x4] h (QP h Q) := by
  refine MT.of (own := RX8) (by decide) rfl (Nat.le_of_ble_eq_true rfl) rfl (fun X F G => ?_)
  unfold p8_endOf at hb
  refine AW.aload_n (pn := 1) F dX8_endOf_0 rfl rfl rfl ?_
  refine AW.iload_n (pn := 2) F dX8_endOf_1 rfl rfl rfl ?_
  refine AW.cVP (pn := 5) (st := []) F dX8_endOf_2 rfl cl_X8_205 so_69 (p8_sortsOf_69 x1 hb) rfl rfl (Nat.le_of_ble_eq_true rfl) (by decide) (fun r1 hb => ?_)
  refine AW.istore (ls2 := [some (vR 69), some (vI x1), some (vI x2), some (vI x3), some (vI x4), some (vI r1), none, none, none, none]) (pn := 7) F dX8_endOf_5 rfl (by decide) rfl rfl ?_
  refine AW.aload_n (pn := 8) F dX8_endOf_7 rfl rfl rfl ?_
  refine AW.iload_n (pn := 9) F dX8_endOf_8 rfl rfl rfl ?_
  refine AW.cVP (pn := 12) (st := []) F dX8_endOf_9 rfl cl_X8_205 so_69 (p8_sortsOf_69 x2 hb) rfl rfl (Nat.le_of_ble_eq_true rfl) (by decide) (fun r2 hb => ?_)
  refine AW.istore (ls2 := [some (vR 69), some (vI x1), some (vI x2), some (vI x3), some (vI x4), some (vI r1), some (vI r2), none, none, none]) (pn := 14) F dX8_endOf_12 rfl (by decide) rfl rfl ?_
  refine AW.iconst (pn := 15) F dX8_endOf_14 rfl ?_
  refine AW.istore (ls2 := [some (vR 69), some (vI x1), some (vI x2), some (vI x3), some (vI x4), some (vI r1), some (vI r2), some (vI 0), none, none]) (pn := 17) F dX8_endOf_15 rfl (by decide) rfl rfl ?_
  refine p8_endOf_L17_ok_69 F G (fun y15 y16 hb => ?_) _ _ _ _ hb
  refine AW.aload_n (pn := 115) F dX8_endOf_114 rfl rfl rfl ?_
  refine AW.iload_n (pn := 116) F dX8_endOf_115 rfl rfl rfl ?_
  refine AW.iload (pn := 118) F dX8_endOf_116 rfl rfl ?_
  refine AW.cVP (pn := 121) (st := []) F dX8_endOf_118 rfl cl_X8_209 so_69 (p8_worthOf_69 x1 y15 hb) rfl rfl (Nat.le_of_ble_eq_true rfl) (by decide) (fun r17 hb => ?_)
  refine AW.aload_n (pn := 122) F dX8_endOf_121 rfl rfl rfl ?_
  refine AW.iload_n (pn := 123) F dX8_endOf_122 rfl rfl rfl ?_
  refine AW.iload (pn := 125) F dX8_endOf_123 rfl rfl ?_
  refine AW.cVP (pn := 128) (st := [vI r17]) F dX8_endOf_125 rfl cl_X8_209 so_69 (p8_worthOf_69 x2 y16 hb) rfl rfl (Nat.le_of_ble_eq_true rfl) (by decide) (fun r18 hb => ?_)
  refine AW.isub (pn := 129) F dX8_endOf_128 rfl ?_
  exact AW.iret F G dX8_endOf_129 ⟨rfl, _, rfl, hb⟩

theorem p8_mayBe_L42_ok_69 {X : Cx} {x1 x2 x4 : Int} {h : HP} {E114 : Int → Int → Prop} {Q : Int → Prop} (F : Fx X cX8_mayBe RX8 9 2) (G : Rx X (some .boolean) (QP h Q)) (hE114 : ∀ (x5 : Int) (x6 : Int), E114 x5 x6 → AW X 9 114 [none, none, none, none, none, some (vI x5), some (vI x6), none, none] [] h) : ∀ (n : Nat) (x5 : Int) (x6 : Int) (x7 : Int), p8_mayBe_L42 x1 x2 x4 h E114 n x5 x6 x7 → AW X 9 42 [none, some (vI x1), some (vI x2), none, some (vI x4), some (vI x5), some (vI x6), some (vI x7), none] [] h := by
  intro n
  induction n with
  | zero => intro _ _ _ hb; exact hb.elim
  | succ n ih =>
    intro x5 x6 x7 hb
    unfold p8_mayBe_L42 at hb
    refine AW.iload (pn := 44) F dX8_mayBe_42 rfl rfl ?_
    refine AW.iload_n (pn := 45) F dX8_mayBe_44 rfl rfl rfl ?_
    refine AW.iconst (pn := 46) F dX8_mayBe_45 rfl ?_
    refine AW.isub (pn := 47) F dX8_mayBe_46 rfl ?_
    refine AW.icmp_ge (pn := 50) (tg := 114) F dX8_mayBe_47 rfl (by decide) hb (fun hb => ?_) (fun hb => ?_)
    · refine AW.drop [true, false, false, true, false, true, true, false, true] rfl ?_
      exact hE114 _ _ hb
    · refine AW.iload_n (pn := 51) F dX8_mayBe_50 rfl rfl rfl ?_
      refine AW.iload (pn := 53) F dX8_mayBe_51 rfl rfl ?_
      refine AW.cSP (pn := 56) (st := [vI x1]) F dX8_mayBe_53 rfl cl_X8_321 (p8_power_s x7 hb) rfl rfl (Nat.le_of_ble_eq_true rfl) (by decide) (fun r5 hb => ?_)
      refine AW.idiv (pn := 57) F dX8_mayBe_56 rfl hb.1 ?_
      replace hb := hb.2
      refine AW.bipush (pn := 59) F dX8_mayBe_57 rfl (by decide) ?_
      refine AW.irem (pn := 60) F dX8_mayBe_59 rfl (by decide) ?_
      refine AW.istore (ls2 := [none, some (vI x1), some (vI x2), none, some (vI x4), some (vI x5), some (vI x6), some (vI x7), some (vI (qm (qd x1 r5) 9))]) (pn := 62) F dX8_mayBe_60 rfl (by decide) rfl rfl ?_
      refine AW.iload (pn := 64) F dX8_mayBe_62 rfl rfl ?_
      refine jn_1 hb (fun (y7 : Int) => AW X 9 79 [none, some (vI x1), some (vI x2), none, some (vI x4), some (vI x5), none, some (vI x7), some (vI (qm (qd x1 r5) 9))] [vI y7] h) (fun y7 hb => ?_) (fun K8 hK8 hb => ?_)
      · refine AW.istore (ls2 := [none, some (vI x1), some (vI x2), none, some (vI x4), some (vI x5), some (vI y7), some (vI x7), some (vI (qm (qd x1 r5) 9))]) (pn := 81) F dX8_mayBe_79 rfl (by decide) rfl rfl ?_
        refine AW.iload (pn := 83) F dX8_mayBe_81 rfl rfl ?_
        refine AW.iload (pn := 85) F dX8_mayBe_83 rfl rfl ?_
        refine AW.iconst (pn := 86) F dX8_mayBe_85 rfl ?_
        refine AW.irem (pn := 87) F dX8_mayBe_86 rfl (by decide) ?_
        refine AW.iload_n (pn := 88) F dX8_mayBe_87 rfl rfl rfl ?_
        refine AW.iconst (pn := 89) F dX8_mayBe_88 rfl ?_
        refine AW.isub (pn := 90) F dX8_mayBe_89 rfl ?_
        refine AW.iconst (pn := 91) F dX8_mayBe_90 rfl ?_
        refine AW.irem (pn := 92) F dX8_mayBe_91 rfl (by decide) ?_
        refine AW.icmp_ne (pn := 95) (tg := 104) F dX8_mayBe_92 rfl (by decide) hb (fun hb => ?_) (fun hb => ?_)
        · refine AW.iconst (pn := 105) F dX8_mayBe_104 rfl ?_
          refine AW.iadd (pn := 106) F dX8_mayBe_105 rfl ?_
          refine AW.istore (ls2 := [none, some (vI x1), some (vI x2), none, some (vI x4), some (vI (x5 + 0)), some (vI y7), some (vI x7), some (vI (qm (qd x1 r5) 9))]) (pn := 108) F dX8_mayBe_106 rfl (by decide) rfl rfl ?_
          refine AW.iinc (ls2 := [none, some (vI x1), some (vI x2), none, some (vI x4), some (vI (x5 + 0)), some (vI y7), some (vI (x7 + 1)), some (vI (qm (qd x1 r5) 9))]) (pn := 111) F dX8_mayBe_108 rfl rfl (by decide) rfl rfl ?_
          refine AW.goto (tg := 42) F dX8_mayBe_111 (by decide) ?_
          refine AW.drop [true, true, true, true, true, true, true, true, false] rfl ?_
          exact ih _ _ _ hb
        · refine AW.iload (pn := 97) F dX8_mayBe_95 rfl rfl ?_
          refine AW.if_le (pn := 100) (tg := 104) F dX8_mayBe_97 rfl (by decide) hb (fun hb => ?_) (fun hb => ?_)
          · refine AW.iconst (pn := 105) F dX8_mayBe_104 rfl ?_
            refine AW.iadd (pn := 106) F dX8_mayBe_105 rfl ?_
            refine AW.istore (ls2 := [none, some (vI x1), some (vI x2), none, some (vI x4), some (vI (x5 + 0)), some (vI y7), some (vI x7), some (vI (qm (qd x1 r5) 9))]) (pn := 108) F dX8_mayBe_106 rfl (by decide) rfl rfl ?_
            refine AW.iinc (ls2 := [none, some (vI x1), some (vI x2), none, some (vI x4), some (vI (x5 + 0)), some (vI y7), some (vI (x7 + 1)), some (vI (qm (qd x1 r5) 9))]) (pn := 111) F dX8_mayBe_108 rfl rfl (by decide) rfl rfl ?_
            refine AW.goto (tg := 42) F dX8_mayBe_111 (by decide) ?_
            refine AW.drop [true, true, true, true, true, true, true, true, false] rfl ?_
            exact ih _ _ _ hb
          · refine AW.iconst (pn := 101) F dX8_mayBe_100 rfl ?_
            refine AW.goto (tg := 105) F dX8_mayBe_101 (by decide) ?_
            refine AW.iadd (pn := 106) F dX8_mayBe_105 rfl ?_
            refine AW.istore (ls2 := [none, some (vI x1), some (vI x2), none, some (vI x4), some (vI (x5 + 1)), some (vI y7), some (vI x7), some (vI (qm (qd x1 r5) 9))]) (pn := 108) F dX8_mayBe_106 rfl (by decide) rfl rfl ?_
            refine AW.iinc (ls2 := [none, some (vI x1), some (vI x2), none, some (vI x4), some (vI (x5 + 1)), some (vI y7), some (vI (x7 + 1)), some (vI (qm (qd x1 r5) 9))]) (pn := 111) F dX8_mayBe_108 rfl rfl (by decide) rfl rfl ?_
            refine AW.goto (tg := 42) F dX8_mayBe_111 (by decide) ?_
            refine AW.drop [true, true, true, true, true, true, true, true, false] rfl ?_
            exact ih _ _ _ hb
      refine jn_0 hb (AW X 9 78 [none, some (vI x1), some (vI x2), none, some (vI x4), some (vI x5), none, some (vI x7), some (vI (qm (qd x1 r5) 9))] [] h) (fun  hb => ?_) (fun K9 hK9 hb => ?_)
      · refine AW.iconst (pn := 79) F dX8_mayBe_78 rfl ?_
        exact hK8 _ hb
      refine AW.if_eq (pn := 67) (tg := 78) F dX8_mayBe_64 rfl (by decide) hb (fun hb => ?_) (fun hb => ?_)
      · refine AW.drop [true, true, true, true, true, true, false, true, true] rfl ?_
        exact hK9 hb
      · refine AW.iload (pn := 69) F dX8_mayBe_67 rfl rfl ?_
        refine AW.iload (pn := 71) F dX8_mayBe_69 rfl rfl ?_
        refine AW.icmp_eq (pn := 74) (tg := 78) F dX8_mayBe_71 rfl (by decide) hb (fun hb => ?_) (fun hb => ?_)
        · refine AW.drop [true, true, true, true, true, true, false, true, true] rfl ?_
          exact hK9 hb
        · refine AW.iconst (pn := 75) F dX8_mayBe_74 rfl ?_
          refine AW.goto (tg := 79) F dX8_mayBe_75 (by decide) ?_
          refine AW.drop [true, true, true, true, true, true, false, true, true] rfl ?_
          exact hK8 _ hb

theorem p8_mayBe_69 (x1 x2 x3 : Int) {h : HP} {Q : Int → Prop} (hb : p8_mayBe x1 x2 x3 h Q) : MT yX8_mayBe cX8_mayBe 9 (some .boolean) 2 [vR 69, vI x1, vI x2, vI x3] h (QP h Q) := by
  refine MT.of (own := RX8) (by decide) rfl (Nat.le_of_ble_eq_true rfl) rfl (fun X F G => ?_)
  unfold p8_mayBe at hb
  refine AW.iload_n (pn := 1) F dX8_mayBe_0 rfl rfl rfl ?_
  refine AW.iload_n (pn := 2) F dX8_mayBe_1 rfl rfl rfl ?_
  refine AW.iconst (pn := 3) F dX8_mayBe_2 rfl ?_
  refine AW.isub (pn := 4) F dX8_mayBe_3 rfl ?_
  refine AW.cSP (pn := 7) (st := [vI x1]) F dX8_mayBe_4 rfl cl_X8_321 (p8_power_s (x2 - 1) hb) rfl rfl (Nat.le_of_ble_eq_true rfl) (by decide) (fun r1 hb => ?_)
  refine AW.idiv (pn := 8) F dX8_mayBe_7 rfl hb.1 ?_
  replace hb := hb.2
  refine AW.bipush (pn := 10) F dX8_mayBe_8 rfl (by decide) ?_
  refine AW.irem (pn := 11) F dX8_mayBe_10 rfl (by decide) ?_
  refine AW.istore (ls2 := [some (vR 69), some (vI x1), some (vI x2), some (vI x3), some (vI (qm (qd x1 r1) 9)), none, none, none, none]) (pn := 13) F dX8_mayBe_11 rfl (by decide) rfl rfl ?_
  refine AW.iload (pn := 15) F dX8_mayBe_13 rfl rfl ?_
  refine AW.if_ne (pn := 18) (tg := 20) F dX8_mayBe_15 rfl (by decide) hb (fun hb => ?_) (fun hb => ?_)
  · refine AW.iload_n (pn := 21) F dX8_mayBe_20 rfl rfl rfl ?_
    refine AW.istore (ls2 := [some (vR 69), some (vI x1), some (vI x2), some (vI x3), some (vI (qm (qd x1 r1) 9)), some (vI x3), none, none, none]) (pn := 23) F dX8_mayBe_21 rfl (by decide) rfl rfl ?_
    refine AW.iload (pn := 25) F dX8_mayBe_23 rfl rfl ?_
    refine AW.aload_n (pn := 26) F dX8_mayBe_25 rfl rfl rfl ?_
    refine AW.getI (pn := 29) F dX8_mayBe_26 rfl gl_X8_318 so_69 rfl ?_
    refine jn_1 hb (fun (y3 : Int) => AW X 9 37 [none, some (vI x1), some (vI x2), none, some (vI (qm (qd x1 r1) 9)), some (vI x3), none, none, none] [vI y3] h) (fun y3 hb => ?_) (fun K4 hK4 hb => ?_)
    · refine AW.istore (ls2 := [none, some (vI x1), some (vI x2), none, some (vI (qm (qd x1 r1) 9)), some (vI x3), some (vI y3), none, none]) (pn := 39) F dX8_mayBe_37 rfl (by decide) rfl rfl ?_
      refine AW.iconst (pn := 40) F dX8_mayBe_39 rfl ?_
      refine AW.istore (ls2 := [none, some (vI x1), some (vI x2), none, some (vI (qm (qd x1 r1) 9)), some (vI x3), some (vI y3), some (vI 0), none]) (pn := 42) F dX8_mayBe_40 rfl (by decide) rfl rfl ?_
      refine p8_mayBe_L42_ok_69 F G (fun y10 y11 hb => ?_) _ _ _ _ hb
      refine AW.iload (pn := 116) F dX8_mayBe_114 rfl rfl ?_
      refine AW.if_eq (pn := 119) (tg := 129) F dX8_mayBe_116 rfl (by decide) hb (fun hb => ?_) (fun hb => ?_)
      · refine AW.iconst (pn := 130) F dX8_mayBe_129 rfl ?_
        exact AW.zret F G dX8_mayBe_130 (by decide) ⟨rfl, _, rfl, hb⟩
      · refine AW.iload (pn := 121) F dX8_mayBe_119 rfl rfl ?_
        refine AW.iconst (pn := 122) F dX8_mayBe_121 rfl ?_
        refine AW.icmp_ge (pn := 125) (tg := 129) F dX8_mayBe_122 rfl (by decide) hb (fun hb => ?_) (fun hb => ?_)
        · refine AW.iconst (pn := 130) F dX8_mayBe_129 rfl ?_
          exact AW.zret F G dX8_mayBe_130 (by decide) ⟨rfl, _, rfl, hb⟩
        · refine AW.iconst (pn := 126) F dX8_mayBe_125 rfl ?_
          refine AW.goto (tg := 130) F dX8_mayBe_126 (by decide) ?_
          exact AW.zret F G dX8_mayBe_130 (by decide) ⟨rfl, _, rfl, hb⟩
    refine AW.icmp_gt (pn := 32) (tg := 36) F dX8_mayBe_29 rfl (by decide) hb (fun hb => ?_) (fun hb => ?_)
    · refine AW.iconst (pn := 37) F dX8_mayBe_36 rfl ?_
      refine AW.drop [false, true, true, false, true, true, true, true, true] rfl ?_
      exact hK4 _ hb
    · refine AW.iconst (pn := 33) F dX8_mayBe_32 rfl ?_
      refine AW.goto (tg := 37) F dX8_mayBe_33 (by decide) ?_
      refine AW.drop [false, true, true, false, true, true, true, true, true] rfl ?_
      exact hK4 _ hb
  · refine AW.iconst (pn := 19) F dX8_mayBe_18 rfl ?_
    exact AW.zret F G dX8_mayBe_19 (by decide) ⟨rfl, _, rfl, hb⟩

theorem p8_turnsAt_L82_ok_69 {X : Cx} {x1 x2 x4 x5 : Int} {E115 : HP → Prop} {Q : Int → HP → Prop} (F : Fx X cX8_turnsAt RX8 14 4) (G : Rx X (some .int) (QI Q)) (hE115 : ∀ (h : HP), E115 h → AW X 14 115 [some (vR 69), some (vI x1), some (vI x2), none, some (vI x4), some (vI x5), none, none, none, none, none, none, none, none] [] h) : ∀ (n : Nat) (h : HP) (x6 : Int), p8_turnsAt_L82 x1 x2 x4 x5 E115 n h x6 → AW X 14 82 [some (vR 69), some (vI x1), some (vI x2), none, some (vI x4), some (vI x5), some (vI x6), none, none, none, none, none, none, none] [] h := by
  intro n
  induction n with
  | zero => intro _ _ hb; exact hb.elim
  | succ n ih =>
    intro h x6 hb
    unfold p8_turnsAt_L82 at hb
    refine AW.iload (pn := 84) F dX8_turnsAt_82 rfl rfl ?_
    refine AW.iload (pn := 86) F dX8_turnsAt_84 rfl rfl ?_
    refine AW.cSP (pn := 89) (st := [vI x6]) F dX8_turnsAt_86 rfl cl_X8_321 (p8_power_s x4 hb) rfl rfl (Nat.le_of_ble_eq_true rfl) (by decide) (fun r8 hb => ?_)
    refine AW.icmp_ge (pn := 92) (tg := 115) F dX8_turnsAt_89 rfl (by decide) hb (fun hb => ?_) (fun hb => ?_)
    · refine AW.drop [true, true, true, true, true, true, false, true, true, true, true, true, true, true] rfl ?_
      exact hE115 _ hb
    · refine AW.aload_n (pn := 93) F dX8_turnsAt_92 rfl rfl rfl ?_
      refine AW.getR (r := 91) (pn := 96) F dX8_turnsAt_93 rfl gl_X8_77 so_69 rfl ?_
      refine AW.iload (pn := 98) F dX8_turnsAt_96 rfl rfl ?_
      refine AW.aload_n (pn := 99) F dX8_turnsAt_98 rfl rfl rfl ?_
      refine AW.iload_n (pn := 100) F dX8_turnsAt_99 rfl rfl rfl ?_
      refine AW.iload_n (pn := 101) F dX8_turnsAt_100 rfl rfl rfl ?_
      refine AW.iload (pn := 103) F dX8_turnsAt_101 rfl rfl ?_
      refine AW.iload (pn := 105) F dX8_turnsAt_103 rfl rfl ?_
      refine AW.cVP (pn := 108) (st := [vI x6, vR 91]) F dX8_turnsAt_105 rfl cl_X8_329 so_69 (p8_endOf_69 x1 x2 x4 x6 hb) rfl rfl (Nat.le_of_ble_eq_true rfl) (by decide) (fun r9 hb => ?_)
      refine AW.iast (pn := 109) F dX8_turnsAt_108 rfl so_91 hb (fun h10 hb => ?_)
      refine AW.iinc (ls2 := [some (vR 69), some (vI x1), some (vI x2), none, some (vI x4), some (vI x5), some (vI (x6 + 1)), none, none, none, none, none, none, none]) (pn := 112) F dX8_turnsAt_109 rfl rfl (by decide) rfl rfl ?_
      refine AW.goto (tg := 82) F dX8_turnsAt_112 (by decide) ?_
      exact ih _ _ hb

theorem p8_turnsAt_L176_ok_69 {X : Cx} {x1 x2 x5 x7 x8 x9 : Int} {h : HP} {E292 : Int → Int → Prop} {Q : Int → HP → Prop} (F : Fx X cX8_turnsAt RX8 14 4) (G : Rx X (some .int) (QI Q)) (hE292 : ∀ (x6 : Int) (x10 : Int), E292 x6 x10 → AW X 14 292 [some (vR 69), some (vI x1), some (vI x2), none, none, some (vI x5), some (vI x6), some (vI x7), some (vI x8), some (vI x9), some (vI x10), none, none, none] [] h) : ∀ (n : Nat) (x6 : Int) (x10 : Int) (x11 : Int), p8_turnsAt_L176 x1 x2 x5 x7 x8 x9 h E292 n x6 x10 x11 → AW X 14 176 [some (vR 69), some (vI x1), some (vI x2), none, none, some (vI x5), some (vI x6), some (vI x7), some (vI x8), some (vI x9), some (vI x10), some (vI x11), none, none] [] h := by
  intro n
  induction n with
  | zero => intro _ _ _ hb; exact hb.elim
  | succ n ih =>
    intro x6 x10 x11 hb
    unfold p8_turnsAt_L176 at hb
    refine AW.iload (pn := 178) F dX8_turnsAt_176 rfl rfl ?_
    refine AW.bipush (pn := 180) F dX8_turnsAt_178 rfl (by decide) ?_
    refine AW.icmp_ge (pn := 183) (tg := 292) F dX8_turnsAt_180 rfl (by decide) hb (fun hb => ?_) (fun hb => ?_)
    · refine AW.drop [true, true, true, true, true, true, true, true, true, true, true, false, true, true] rfl ?_
      exact hE292 _ _ hb
    · refine AW.iload (pn := 185) F dX8_turnsAt_183 rfl rfl ?_
      refine AW.iload (pn := 187) F dX8_turnsAt_185 rfl rfl ?_
      refine AW.iload (pn := 189) F dX8_turnsAt_187 rfl rfl ?_
      refine AW.iconst (pn := 190) F dX8_turnsAt_189 rfl ?_
      refine AW.isub (pn := 191) F dX8_turnsAt_190 rfl ?_
      refine AW.cSP (pn := 194) (st := [vI x11, vI x9]) F dX8_turnsAt_191 rfl cl_X8_321 (p8_power_s (x7 - 1) hb) rfl rfl (Nat.le_of_ble_eq_true rfl) (by decide) (fun r18 hb => ?_)
      refine AW.imul (pn := 195) F dX8_turnsAt_194 rfl ?_
      refine AW.iadd (pn := 196) F dX8_turnsAt_195 rfl ?_
      refine AW.istore (ls2 := [some (vR 69), some (vI x1), some (vI x2), none, none, some (vI x5), some (vI x6), some (vI x7), some (vI x8), some (vI x9), some (vI x10), some (vI x11), some (vI (x9 + (x11 * r18))), none]) (pn := 198) F dX8_turnsAt_196 rfl (by decide) rfl rfl ?_
      refine AW.aload_n (pn := 199) F dX8_turnsAt_198 rfl rfl rfl ?_
      refine AW.iload (pn := 201) F dX8_turnsAt_199 rfl rfl ?_
      refine AW.iload (pn := 203) F dX8_turnsAt_201 rfl rfl ?_
      refine AW.iload (pn := 205) F dX8_turnsAt_203 rfl rfl ?_
      refine AW.cVP (pn := 208) (st := []) F dX8_turnsAt_205 rfl cl_X8_333 so_69 (p8_mayBe_69 (x9 + (x11 * r18)) x7 x8 hb) rfl rfl (Nat.le_of_ble_eq_true rfl) (by decide) (fun r19 hb => ?_)
      refine jn_1 hb (fun (y26 : Int) => AW X 14 251 [some (vR 69), some (vI x1), some (vI x2), none, none, some (vI x5), some (vI x6), some (vI x7), some (vI x8), some (vI x9), some (vI x10), some (vI x11), some (vI (x9 + (x11 * r18))), none] [vI y26] h) (fun y26 hb => ?_) (fun K27 hK27 hb => ?_)
      · refine AW.istore (ls2 := [some (vR 69), some (vI x1), some (vI x2), none, none, some (vI x5), some (vI x6), some (vI x7), some (vI x8), some (vI x9), some (vI x10), some (vI x11), some (vI (x9 + (x11 * r18))), some (vI y26)]) (pn := 253) F dX8_turnsAt_251 rfl (by decide) rfl rfl ?_
        refine AW.iload (pn := 255) F dX8_turnsAt_253 rfl rfl ?_
        refine jn_1 hb (fun (y30 : Int) => AW X 14 270 [some (vR 69), some (vI x1), some (vI x2), none, none, some (vI x5), some (vI x6), some (vI x7), some (vI x8), some (vI x9), none, some (vI x11), none, some (vI y26)] [vI y30] h) (fun y30 hb => ?_) (fun K31 hK31 hb => ?_)
        · refine AW.istore (ls2 := [some (vR 69), some (vI x1), some (vI x2), none, none, some (vI x5), some (vI x6), some (vI x7), some (vI x8), some (vI x9), some (vI y30), some (vI x11), none, some (vI y26)]) (pn := 272) F dX8_turnsAt_270 rfl (by decide) rfl rfl ?_
          refine AW.iload (pn := 274) F dX8_turnsAt_272 rfl rfl ?_
          refine AW.if_eq (pn := 277) (tg := 282) F dX8_turnsAt_274 rfl (by decide) hb (fun hb => ?_) (fun hb => ?_)
          · refine AW.iload (pn := 284) F dX8_turnsAt_282 rfl rfl ?_
            refine AW.istore (ls2 := [some (vR 69), some (vI x1), some (vI x2), none, none, some (vI x5), some (vI x6), some (vI x7), some (vI x8), some (vI x9), some (vI y30), some (vI x11), none, some (vI y26)]) (pn := 286) F dX8_turnsAt_284 rfl (by decide) rfl rfl ?_
            refine AW.iinc (ls2 := [some (vR 69), some (vI x1), some (vI x2), none, none, some (vI x5), some (vI x6), some (vI x7), some (vI x8), some (vI x9), some (vI y30), some (vI (x11 + 1)), none, some (vI y26)]) (pn := 289) F dX8_turnsAt_286 rfl rfl (by decide) rfl rfl ?_
            refine AW.goto (tg := 176) F dX8_turnsAt_289 (by decide) ?_
            refine AW.drop [true, true, true, true, true, true, true, true, true, true, true, true, true, false] rfl ?_
            exact ih _ _ _ hb
          · refine AW.iload (pn := 279) F dX8_turnsAt_277 rfl rfl ?_
            refine AW.goto (tg := 284) F dX8_turnsAt_279 (by decide) ?_
            refine AW.istore (ls2 := [some (vR 69), some (vI x1), some (vI x2), none, none, some (vI x5), some (vI x11), some (vI x7), some (vI x8), some (vI x9), some (vI y30), some (vI x11), none, some (vI y26)]) (pn := 286) F dX8_turnsAt_284 rfl (by decide) rfl rfl ?_
            refine AW.iinc (ls2 := [some (vR 69), some (vI x1), some (vI x2), none, none, some (vI x5), some (vI x11), some (vI x7), some (vI x8), some (vI x9), some (vI y30), some (vI (x11 + 1)), none, some (vI y26)]) (pn := 289) F dX8_turnsAt_286 rfl rfl (by decide) rfl rfl ?_
            refine AW.goto (tg := 176) F dX8_turnsAt_289 (by decide) ?_
            refine AW.drop [true, true, true, true, true, true, true, true, true, true, true, true, true, false] rfl ?_
            exact ih _ _ _ hb
        refine AW.if_eq (pn := 258) (tg := 268) F dX8_turnsAt_255 rfl (by decide) hb (fun hb => ?_) (fun hb => ?_)
        · refine AW.iload (pn := 270) F dX8_turnsAt_268 rfl rfl ?_
          refine AW.drop [true, true, true, true, true, true, true, true, true, true, false, true, false, true] rfl ?_
          exact hK31 _ hb
        · refine AW.aload_n (pn := 259) F dX8_turnsAt_258 rfl rfl rfl ?_
          refine AW.getR (r := 91) (pn := 262) F dX8_turnsAt_259 rfl gl_X8_77 so_69 rfl ?_
          refine AW.iload (pn := 264) F dX8_turnsAt_262 rfl rfl ?_
          refine AW.iald (pn := 265) F dX8_turnsAt_264 rfl so_91 hb (fun v32 hb => ?_)
          refine AW.goto (tg := 270) F dX8_turnsAt_265 (by decide) ?_
          refine AW.drop [true, true, true, true, true, true, true, true, true, true, false, true, false, true] rfl ?_
          exact hK31 _ hb
      refine jn_0 hb (AW X 14 250 [some (vR 69), some (vI x1), some (vI x2), none, none, some (vI x5), some (vI x6), some (vI x7), some (vI x8), some (vI x9), some (vI x10), some (vI x11), some (vI (x9 + (x11 * r18))), none] [] h) (fun  hb => ?_) (fun K33 hK33 hb => ?_)
      · refine AW.iconst (pn := 251) F dX8_turnsAt_250 rfl ?_
        exact hK27 _ hb
      refine AW.if_eq (pn := 211) (tg := 250) F dX8_turnsAt_208 rfl (by decide) hb (fun hb => ?_) (fun hb => ?_)
      · exact hK33 hb
      · refine AW.iload (pn := 213) F dX8_turnsAt_211 rfl rfl ?_
        refine AW.iconst (pn := 214) F dX8_turnsAt_213 rfl ?_
        refine AW.irem (pn := 215) F dX8_turnsAt_214 rfl (by decide) ?_
        refine AW.iconst (pn := 216) F dX8_turnsAt_215 rfl ?_
        refine jn_0 hb (AW X 14 246 [some (vR 69), some (vI x1), some (vI x2), none, none, some (vI x5), some (vI x6), some (vI x7), some (vI x8), some (vI x9), some (vI x10), some (vI x11), some (vI (x9 + (x11 * r18))), none] [] h) (fun  hb => ?_) (fun K36 hK36 hb => ?_)
        · refine AW.iconst (pn := 247) F dX8_turnsAt_246 rfl ?_
          refine AW.goto (tg := 251) F dX8_turnsAt_247 (by decide) ?_
          exact hK27 _ hb
        refine AW.icmp_ne (pn := 219) (tg := 234) F dX8_turnsAt_216 rfl (by decide) hb (fun hb => ?_) (fun hb => ?_)
        · refine AW.aload_n (pn := 235) F dX8_turnsAt_234 rfl rfl rfl ?_
          refine AW.getR (r := 91) (pn := 238) F dX8_turnsAt_235 rfl gl_X8_77 so_69 rfl ?_
          refine AW.iload (pn := 240) F dX8_turnsAt_238 rfl rfl ?_
          refine AW.iald (pn := 241) F dX8_turnsAt_240 rfl so_91 hb (fun v37 hb => ?_)
          refine AW.iload (pn := 243) F dX8_turnsAt_241 rfl rfl ?_
          refine AW.icmp_ge (pn := 246) (tg := 250) F dX8_turnsAt_243 rfl (by decide) hb (fun hb => ?_) (fun hb => ?_)
          · exact hK33 hb
          · exact hK36 hb
        · refine AW.aload_n (pn := 220) F dX8_turnsAt_219 rfl rfl rfl ?_
          refine AW.getR (r := 91) (pn := 223) F dX8_turnsAt_220 rfl gl_X8_77 so_69 rfl ?_
          refine AW.iload (pn := 225) F dX8_turnsAt_223 rfl rfl ?_
          refine AW.iald (pn := 226) F dX8_turnsAt_225 rfl so_91 hb (fun v38 hb => ?_)
          refine AW.iload (pn := 228) F dX8_turnsAt_226 rfl rfl ?_
          refine AW.icmp_le (pn := 231) (tg := 250) F dX8_turnsAt_228 rfl (by decide) hb (fun hb => ?_) (fun hb => ?_)
          · exact hK33 hb
          · refine AW.goto (tg := 246) F dX8_turnsAt_231 (by decide) ?_
            exact hK36 hb

theorem p8_turnsAt_L149_ok_69 {X : Cx} {x1 x2 x5 x7 x8 : Int} {E307 : HP → Int → Prop} {Q : Int → HP → Prop} (F : Fx X cX8_turnsAt RX8 14 4) (G : Rx X (some .int) (QI Q)) (hE307 : ∀ (h : HP) (x6 : Int), E307 h x6 → AW X 14 307 [some (vR 69), some (vI x1), some (vI x2), none, none, some (vI x5), some (vI x6), some (vI x7), none, none, none, none, none, none] [] h) : ∀ (n : Nat) (h : HP) (x6 : Int) (x9 : Int), p8_turnsAt_L149 x1 x2 x5 x7 x8 E307 n h x6 x9 → AW X 14 149 [some (vR 69), some (vI x1), some (vI x2), none, none, some (vI x5), some (vI x6), some (vI x7), some (vI x8), some (vI x9), none, none, none, none] [] h := by
  intro n
  induction n with
  | zero => intro _ _ _ hb; exact hb.elim
  | succ n ih =>
    intro h x6 x9 hb
    unfold p8_turnsAt_L149 at hb
    refine AW.iload (pn := 151) F dX8_turnsAt_149 rfl rfl ?_
    refine AW.iload (pn := 153) F dX8_turnsAt_151 rfl rfl ?_
    refine AW.iconst (pn := 154) F dX8_turnsAt_153 rfl ?_
    refine AW.isub (pn := 155) F dX8_turnsAt_154 rfl ?_
    refine AW.cSP (pn := 158) (st := [vI x9]) F dX8_turnsAt_155 rfl cl_X8_321 (p8_power_s (x7 - 1) hb) rfl rfl (Nat.le_of_ble_eq_true rfl) (by decide) (fun r16 hb => ?_)
    refine AW.icmp_ge (pn := 161) (tg := 307) F dX8_turnsAt_158 rfl (by decide) hb (fun hb => ?_) (fun hb => ?_)
    · refine AW.drop [true, true, true, true, true, true, true, true, false, false, true, true, true, true] rfl ?_
      exact hE307 _ _ hb
    · refine AW.aload_n (pn := 162) F dX8_turnsAt_161 rfl rfl rfl ?_
      refine AW.getR (r := 91) (pn := 165) F dX8_turnsAt_162 rfl gl_X8_77 so_69 rfl ?_
      refine AW.iload (pn := 167) F dX8_turnsAt_165 rfl rfl ?_
      refine AW.iald (pn := 168) F dX8_turnsAt_167 rfl so_91 hb (fun v17 hb => ?_)
      refine AW.istore (ls2 := [some (vR 69), some (vI x1), some (vI x2), none, none, some (vI x5), some (vI x6), some (vI x7), some (vI x8), some (vI x9), some (vI v17), none, none, none]) (pn := 170) F dX8_turnsAt_168 rfl (by decide) rfl rfl ?_
      refine AW.iconst (pn := 171) F dX8_turnsAt_170 rfl ?_
      refine AW.istore (ls2 := [some (vR 69), some (vI x1), some (vI x2), none, none, some (vI x5), some (vI 0), some (vI x7), some (vI x8), some (vI x9), some (vI v17), none, none, none]) (pn := 173) F dX8_turnsAt_171 rfl (by decide) rfl rfl ?_
      refine AW.iconst (pn := 174) F dX8_turnsAt_173 rfl ?_
      refine AW.istore (ls2 := [some (vR 69), some (vI x1), some (vI x2), none, none, some (vI x5), some (vI 0), some (vI x7), some (vI x8), some (vI x9), some (vI v17), some (vI 1), none, none]) (pn := 176) F dX8_turnsAt_174 rfl (by decide) rfl rfl ?_
      refine p8_turnsAt_L176_ok_69 F G (fun y39 y40 hb => ?_) _ _ _ _ hb
      refine AW.aload_n (pn := 293) F dX8_turnsAt_292 rfl rfl rfl ?_
      refine AW.getR (r := 91) (pn := 296) F dX8_turnsAt_293 rfl gl_X8_77 so_69 rfl ?_
      refine AW.iload (pn := 298) F dX8_turnsAt_296 rfl rfl ?_
      refine AW.iload (pn := 300) F dX8_turnsAt_298 rfl rfl ?_
      refine AW.iast (pn := 301) F dX8_turnsAt_300 rfl so_91 hb (fun h41 hb => ?_)
      refine AW.iinc (ls2 := [some (vR 69), some (vI x1), some (vI x2), none, none, some (vI x5), some (vI y39), some (vI x7), some (vI x8), some (vI (x9 + 1)), some (vI y40), none, none, none]) (pn := 304) F dX8_turnsAt_301 rfl rfl (by decide) rfl rfl ?_
      refine AW.goto (tg := 149) F dX8_turnsAt_304 (by decide) ?_
      refine AW.drop [true, true, true, true, true, true, true, true, true, true, false, true, true, true] rfl ?_
      exact ih _ _ _ hb

theorem p8_turnsAt_L122_ok_69 {X : Cx} {x1 x2 x5 : Int} {E313 : HP → Int → Prop} {Q : Int → HP → Prop} (F : Fx X cX8_turnsAt RX8 14 4) (G : Rx X (some .int) (QI Q)) (hE313 : ∀ (h : HP) (x6 : Int), E313 h x6 → AW X 14 313 [some (vR 69), none, none, none, none, some (vI x5), some (vI x6), none, none, none, none, none, none, none] [] h) : ∀ (n : Nat) (h : HP) (x6 : Int) (x7 : Int), p8_turnsAt_L122 x1 x2 x5 E313 n h x6 x7 → AW X 14 122 [some (vR 69), some (vI x1), some (vI x2), none, none, some (vI x5), some (vI x6), some (vI x7), none, none, none, none, none, none] [] h := by
  intro n
  induction n with
  | zero => intro _ _ _ hb; exact hb.elim
  | succ n ih =>
    intro h x6 x7 hb
    unfold p8_turnsAt_L122 at hb
    refine AW.iload (pn := 124) F dX8_turnsAt_122 rfl rfl ?_
    refine AW.if_le (pn := 127) (tg := 313) F dX8_turnsAt_124 rfl (by decide) hb (fun hb => ?_) (fun hb => ?_)
    · refine AW.drop [true, false, false, true, true, true, true, false, true, true, true, true, true, true] rfl ?_
      exact hE313 _ _ hb
    · refine AW.aload_n (pn := 128) F dX8_turnsAt_127 rfl rfl rfl ?_
      refine AW.iload (pn := 130) F dX8_turnsAt_128 rfl rfl ?_
      refine AW.iconst (pn := 131) F dX8_turnsAt_130 rfl ?_
      refine AW.irem (pn := 132) F dX8_turnsAt_131 rfl (by decide) ?_
      refine AW.iconst (pn := 133) F dX8_turnsAt_132 rfl ?_
      refine jn_1 hb (fun (y13 : Int) => AW X 14 141 [some (vR 69), some (vI x1), some (vI x2), none, none, some (vI x5), some (vI x6), some (vI x7), none, none, none, none, none, none] [vI y13, vR 69] h) (fun y13 hb => ?_) (fun K14 hK14 hb => ?_)
      · refine AW.cVP (pn := 144) (st := []) F dX8_turnsAt_141 rfl cl_X8_212 so_69 (p8_countOf_69 y13 hb) rfl rfl (Nat.le_of_ble_eq_true rfl) (by decide) (fun r15 hb => ?_)
        refine AW.istore (ls2 := [some (vR 69), some (vI x1), some (vI x2), none, none, some (vI x5), some (vI x6), some (vI x7), some (vI r15), none, none, none, none, none]) (pn := 146) F dX8_turnsAt_144 rfl (by decide) rfl rfl ?_
        refine AW.iconst (pn := 147) F dX8_turnsAt_146 rfl ?_
        refine AW.istore (ls2 := [some (vR 69), some (vI x1), some (vI x2), none, none, some (vI x5), some (vI x6), some (vI x7), some (vI r15), some (vI 0), none, none, none, none]) (pn := 149) F dX8_turnsAt_147 rfl (by decide) rfl rfl ?_
        refine p8_turnsAt_L149_ok_69 F G (fun h42 y43 hb => ?_) _ _ _ _ hb
        refine AW.iinc (ls2 := [some (vR 69), some (vI x1), some (vI x2), none, none, some (vI x5), some (vI y43), some (vI (x7 + (-1))), none, none, none, none, none, none]) (pn := 310) F dX8_turnsAt_307 rfl rfl (by decide) rfl rfl ?_
        refine AW.goto (tg := 122) F dX8_turnsAt_310 (by decide) ?_
        exact ih _ _ _ hb
      refine AW.icmp_ne (pn := 136) (tg := 140) F dX8_turnsAt_133 rfl (by decide) hb (fun hb => ?_) (fun hb => ?_)
      · refine AW.iload_n (pn := 141) F dX8_turnsAt_140 rfl rfl rfl ?_
        exact hK14 _ hb
      · refine AW.iload_n (pn := 137) F dX8_turnsAt_136 rfl rfl rfl ?_
        refine AW.goto (tg := 141) F dX8_turnsAt_137 (by decide) ?_
        exact hK14 _ hb

theorem p8_turnsAt_69 (x1 x2 x3 x4 x5 : Int) {h : HP} {Q : Int → HP → Prop} (hb : p8_turnsAt x1 x2 x3 x4 x5 h Q) : MT yX8_turnsAt cX8_turnsAt 14 (some .int) 4 [vR 69, vI x1, vI x2, vI x3, vI x4, vI x5] h (QI Q) := by
  refine MT.of (own := RX8) (by decide) rfl (Nat.le_of_ble_eq_true rfl) rfl (fun X F G => ?_)
  unfold p8_turnsAt at hb
  refine AW.aload_n (pn := 1) F dX8_turnsAt_0 rfl rfl rfl ?_
  refine AW.iload_n (pn := 2) F dX8_turnsAt_1 rfl rfl rfl ?_
  refine AW.cVP (pn := 5) (st := []) F dX8_turnsAt_2 rfl cl_X8_218 so_69 (p8_isHouse_69 x1 hb) rfl rfl (Nat.le_of_ble_eq_true rfl) (by decide) (fun r1 hb => ?_)
  refine AW.if_eq (pn := 8) (tg := 44) F dX8_turnsAt_5 rfl (by decide) hb (fun hb => ?_) (fun hb => ?_)
  · refine AW.ldc (x := (-1000000001)) (pn := 46) F dX8_turnsAt_44 rfl tw_1009 (by decide) ?_
    exact AW.iret F G dX8_turnsAt_46 ⟨_, rfl, hb⟩
  · refine AW.aload_n (pn := 9) F dX8_turnsAt_8 rfl rfl rfl ?_
    refine AW.iload_n (pn := 10) F dX8_turnsAt_9 rfl rfl rfl ?_
    refine AW.cVP (pn := 13) (st := []) F dX8_turnsAt_10 rfl cl_X8_218 so_69 (p8_isHouse_69 x2 hb) rfl rfl (Nat.le_of_ble_eq_true rfl) (by decide) (fun r2 hb => ?_)
    refine AW.if_eq (pn := 16) (tg := 44) F dX8_turnsAt_13 rfl (by decide) hb (fun hb => ?_) (fun hb => ?_)
    · refine AW.ldc (x := (-1000000001)) (pn := 46) F dX8_turnsAt_44 rfl tw_1009 (by decide) ?_
      exact AW.iret F G dX8_turnsAt_46 ⟨_, rfl, hb⟩
    · refine AW.iload_n (pn := 17) F dX8_turnsAt_16 rfl rfl rfl ?_
      refine AW.iload_n (pn := 18) F dX8_turnsAt_17 rfl rfl rfl ?_
      refine AW.icmp_eq (pn := 21) (tg := 44) F dX8_turnsAt_18 rfl (by decide) hb (fun hb => ?_) (fun hb => ?_)
      · refine AW.ldc (x := (-1000000001)) (pn := 46) F dX8_turnsAt_44 rfl tw_1009 (by decide) ?_
        exact AW.iret F G dX8_turnsAt_46 ⟨_, rfl, hb⟩
      · refine AW.iload_n (pn := 22) F dX8_turnsAt_21 rfl rfl rfl ?_
        refine AW.iconst (pn := 23) F dX8_turnsAt_22 rfl ?_
        refine jn_0 hb (AW X 14 47 [some (vR 69), some (vI x1), some (vI x2), some (vI x3), some (vI x4), some (vI x5), none, none, none, none, none, none, none, none] [] h) (fun  hb => ?_) (fun K4 hK4 hb => ?_)
        · refine AW.iload (pn := 49) F dX8_turnsAt_47 rfl rfl ?_
          refine AW.i2l (pn := 50) F dX8_turnsAt_49 rfl ?_
          refine AW.lconst (x := 0) (pn := 51) F dX8_turnsAt_50 rfl (by decide) ?_
          refine AW.ldc2 (x := 4) (pn := 54) F dX8_turnsAt_51 rfl tw_1189 (by decide) ?_
          refine AW.cSP (pn := 57) (st := []) F dX8_turnsAt_54 rfl cl_X8_102 (p8_in_s (w32 x4) 0 4 hb) rfl rfl (Nat.le_of_ble_eq_true rfl) (by decide) (fun r5 hb => ?_)
          refine AW.if_eq (pn := 60) (tg := 71) F dX8_turnsAt_57 rfl (by decide) hb (fun hb => ?_) (fun hb => ?_)
          · refine AW.ldc (x := (-1000000002)) (pn := 73) F dX8_turnsAt_71 rfl tw_938 (by decide) ?_
            exact AW.iret F G dX8_turnsAt_73 ⟨_, rfl, hb⟩
          · refine AW.iload (pn := 62) F dX8_turnsAt_60 rfl rfl ?_
            refine AW.i2l (pn := 63) F dX8_turnsAt_62 rfl ?_
            refine AW.lconst (x := 0) (pn := 64) F dX8_turnsAt_63 rfl (by decide) ?_
            refine AW.lconst (x := 1) (pn := 65) F dX8_turnsAt_64 rfl (by decide) ?_
            refine AW.cSP (pn := 68) (st := []) F dX8_turnsAt_65 rfl cl_X8_102 (p8_in_s (w32 x5) 0 1 hb) rfl rfl (Nat.le_of_ble_eq_true rfl) (by decide) (fun r6 hb => ?_)
            refine AW.if_ne (pn := 71) (tg := 74) F dX8_turnsAt_68 rfl (by decide) hb (fun hb => ?_) (fun hb => ?_)
            · refine AW.aload_n (pn := 75) F dX8_turnsAt_74 rfl rfl rfl ?_
              refine AW.iload_n (pn := 76) F dX8_turnsAt_75 rfl rfl rfl ?_
              refine AW.cVV (pn := 79) (st := []) F dX8_turnsAt_76 rfl cl_X8_326 so_69 (p8_findLie_69 x3 hb) rfl rfl (Nat.le_of_ble_eq_true rfl) (by decide) (fun h7 hb => ?_)
              refine AW.iconst (pn := 80) F dX8_turnsAt_79 rfl ?_
              refine AW.istore (ls2 := [some (vR 69), some (vI x1), some (vI x2), some (vI x3), some (vI x4), some (vI x5), some (vI 0), none, none, none, none, none, none, none]) (pn := 82) F dX8_turnsAt_80 rfl (by decide) rfl rfl ?_
              refine AW.drop [true, true, true, false, true, true, true, true, true, true, true, true, true, true] rfl ?_
              refine p8_turnsAt_L82_ok_69 F G (fun h11 hb => ?_) _ _ _ hb
              refine AW.iconst (pn := 116) F dX8_turnsAt_115 rfl ?_
              refine AW.istore (ls2 := [some (vR 69), some (vI x1), some (vI x2), none, some (vI x4), some (vI x5), some (vI 0), none, none, none, none, none, none, none]) (pn := 118) F dX8_turnsAt_116 rfl (by decide) rfl rfl ?_
              refine AW.iload (pn := 120) F dX8_turnsAt_118 rfl rfl ?_
              refine AW.istore (ls2 := [some (vR 69), some (vI x1), some (vI x2), none, some (vI x4), some (vI x5), some (vI 0), some (vI x4), none, none, none, none, none, none]) (pn := 122) F dX8_turnsAt_120 rfl (by decide) rfl rfl ?_
              refine AW.drop [true, true, true, true, false, true, true, true, true, true, true, true, true, true] rfl ?_
              refine p8_turnsAt_L122_ok_69 F G (fun h44 y45 hb => ?_) _ _ _ _ hb
              refine AW.iload (pn := 315) F dX8_turnsAt_313 rfl rfl ?_
              refine AW.if_ne (pn := 318) (tg := 327) F dX8_turnsAt_315 rfl (by decide) hb (fun hb => ?_) (fun hb => ?_)
              · refine AW.iload (pn := 329) F dX8_turnsAt_327 rfl rfl ?_
                refine AW.if_ne (pn := 332) (tg := 336) F dX8_turnsAt_329 rfl (by decide) hb (fun hb => ?_) (fun hb => ?_)
                · refine AW.aload_n (pn := 337) F dX8_turnsAt_336 rfl rfl rfl ?_
                  refine AW.getR (r := 90) (pn := 340) F dX8_turnsAt_337 rfl gl_X8_74 so_69 rfl ?_
                  refine AW.iload (pn := 342) F dX8_turnsAt_340 rfl rfl ?_
                  refine AW.iconst (pn := 343) F dX8_turnsAt_342 rfl ?_
                  refine AW.isub (pn := 344) F dX8_turnsAt_343 rfl ?_
                  refine AW.iald (pn := 345) F dX8_turnsAt_344 rfl so_90 hb (fun v46 hb => ?_)
                  exact AW.iret F G dX8_turnsAt_345 ⟨_, rfl, hb⟩
                · refine AW.iconst (pn := 333) F dX8_turnsAt_332 rfl ?_
                  refine AW.goto (tg := 345) F dX8_turnsAt_333 (by decide) ?_
                  exact AW.iret F G dX8_turnsAt_345 ⟨_, rfl, hb⟩
              · refine AW.aload_n (pn := 319) F dX8_turnsAt_318 rfl rfl rfl ?_
                refine AW.getR (r := 91) (pn := 322) F dX8_turnsAt_319 rfl gl_X8_77 so_69 rfl ?_
                refine AW.iconst (pn := 323) F dX8_turnsAt_322 rfl ?_
                refine AW.iald (pn := 324) F dX8_turnsAt_323 rfl so_91 hb (fun v47 hb => ?_)
                refine AW.goto (tg := 345) F dX8_turnsAt_324 (by decide) ?_
                exact AW.iret F G dX8_turnsAt_345 ⟨_, rfl, hb⟩
            · refine AW.ldc (x := (-1000000002)) (pn := 73) F dX8_turnsAt_71 rfl tw_938 (by decide) ?_
              exact AW.iret F G dX8_turnsAt_73 ⟨_, rfl, hb⟩
        refine AW.icmp_eq (pn := 26) (tg := 47) F dX8_turnsAt_23 rfl (by decide) hb (fun hb => ?_) (fun hb => ?_)
        · exact hK4 hb
        · refine AW.aload_n (pn := 27) F dX8_turnsAt_26 rfl rfl rfl ?_
          refine AW.iload_n (pn := 28) F dX8_turnsAt_27 rfl rfl rfl ?_
          refine AW.cVP (pn := 31) (st := []) F dX8_turnsAt_28 rfl cl_X8_218 so_69 (p8_isHouse_69 x3 hb) rfl rfl (Nat.le_of_ble_eq_true rfl) (by decide) (fun r48 hb => ?_)
          refine AW.if_eq (pn := 34) (tg := 44) F dX8_turnsAt_31 rfl (by decide) hb (fun hb => ?_) (fun hb => ?_)
          · refine AW.ldc (x := (-1000000001)) (pn := 46) F dX8_turnsAt_44 rfl tw_1009 (by decide) ?_
            exact AW.iret F G dX8_turnsAt_46 ⟨_, rfl, hb⟩
          · refine AW.iload_n (pn := 35) F dX8_turnsAt_34 rfl rfl rfl ?_
            refine AW.iload_n (pn := 36) F dX8_turnsAt_35 rfl rfl rfl ?_
            refine AW.icmp_eq (pn := 39) (tg := 44) F dX8_turnsAt_36 rfl (by decide) hb (fun hb => ?_) (fun hb => ?_)
            · refine AW.ldc (x := (-1000000001)) (pn := 46) F dX8_turnsAt_44 rfl tw_1009 (by decide) ?_
              exact AW.iret F G dX8_turnsAt_46 ⟨_, rfl, hb⟩
            · refine AW.iload_n (pn := 40) F dX8_turnsAt_39 rfl rfl rfl ?_
              refine AW.iload_n (pn := 41) F dX8_turnsAt_40 rfl rfl rfl ?_
              refine AW.icmp_ne (pn := 44) (tg := 47) F dX8_turnsAt_41 rfl (by decide) hb (fun hb => ?_) (fun hb => ?_)
              · exact hK4 hb
              · refine AW.ldc (x := (-1000000001)) (pn := 46) F dX8_turnsAt_44 rfl tw_1009 (by decide) ?_
                exact AW.iret F G dX8_turnsAt_46 ⟨_, rfl, hb⟩

theorem p8_write_69 (x1 x2 x3 : Int) {h : HP} {Q : Int → HP → Prop} (hb : p8_write x1 x2 x3 h Q) : MT yX8_write cX8_write 4 (some .int) 3 [vR 69, vI x1, vI x2, vI x3] h (QI Q) := by
  refine MT.of (own := RX8) (by decide) rfl (Nat.le_of_ble_eq_true rfl) rfl (fun X F G => ?_)
  unfold p8_write at hb
  refine AW.aload_n (pn := 1) F dX8_write_0 rfl rfl rfl ?_
  refine AW.iload_n (pn := 2) F dX8_write_1 rfl rfl rfl ?_
  refine AW.cVP (pn := 5) (st := []) F dX8_write_2 rfl cl_X8_218 so_69 (p8_isHouse_69 x1 hb) rfl rfl (Nat.le_of_ble_eq_true rfl) (by decide) (fun r1 hb => ?_)
  refine AW.if_eq (pn := 8) (tg := 16) F dX8_write_5 rfl (by decide) hb (fun hb => ?_) (fun hb => ?_)
  · refine AW.ldc (x := (-1000000001)) (pn := 18) F dX8_write_16 rfl tw_1009 (by decide) ?_
    exact AW.iret F G dX8_write_18 ⟨_, rfl, hb⟩
  · refine AW.aload_n (pn := 9) F dX8_write_8 rfl rfl rfl ?_
    refine AW.iload_n (pn := 10) F dX8_write_9 rfl rfl rfl ?_
    refine AW.cVP (pn := 13) (st := []) F dX8_write_10 rfl cl_X8_232 so_69 (p8_isPart_69 x2 hb) rfl rfl (Nat.le_of_ble_eq_true rfl) (by decide) (fun r2 hb => ?_)
    refine AW.if_ne (pn := 16) (tg := 19) F dX8_write_13 rfl (by decide) hb (fun hb => ?_) (fun hb => ?_)
    · refine AW.aload_n (pn := 20) F dX8_write_19 rfl rfl rfl ?_
      refine AW.getI (pn := 23) F dX8_write_20 rfl gl_X8_195 so_69 rfl ?_
      refine AW.bipush (pn := 25) F dX8_write_23 rfl (by decide) ?_
      refine AW.icmp_ne (pn := 28) (tg := 31) F dX8_write_25 rfl (by decide) hb (fun hb => ?_) (fun hb => ?_)
      · refine AW.aload_n (pn := 32) F dX8_write_31 rfl rfl rfl ?_
        refine AW.getR (r := 92) (pn := 35) F dX8_write_32 rfl gl_X8_80 so_69 rfl ?_
        refine AW.aload_n (pn := 36) F dX8_write_35 rfl rfl rfl ?_
        refine AW.getI (pn := 39) F dX8_write_36 rfl gl_X8_195 so_69 rfl ?_
        refine AW.iload_n (pn := 40) F dX8_write_39 rfl rfl rfl ?_
        refine AW.iast (pn := 41) F dX8_write_40 rfl so_92 hb (fun h3 hb => ?_)
        refine AW.aload_n (pn := 42) F dX8_write_41 rfl rfl rfl ?_
        refine AW.getR (r := 93) (pn := 45) F dX8_write_42 rfl gl_X8_83 so_69 rfl ?_
        refine AW.aload_n (pn := 46) F dX8_write_45 rfl rfl rfl ?_
        refine AW.getI (pn := 49) F dX8_write_46 rfl gl_X8_195 so_69 rfl ?_
        refine AW.iload_n (pn := 50) F dX8_write_49 rfl rfl rfl ?_
        refine AW.iast (pn := 51) F dX8_write_50 rfl so_93 hb (fun h4 hb => ?_)
        refine AW.aload_n (pn := 52) F dX8_write_51 rfl rfl rfl ?_
        refine AW.getR (r := 94) (pn := 55) F dX8_write_52 rfl gl_X8_86 so_69 rfl ?_
        refine AW.aload_n (pn := 56) F dX8_write_55 rfl rfl rfl ?_
        refine AW.getI (pn := 59) F dX8_write_56 rfl gl_X8_195 so_69 rfl ?_
        refine AW.iload_n (pn := 60) F dX8_write_59 rfl rfl rfl ?_
        refine AW.zast (pn := 61) F dX8_write_60 rfl so_94 hb (fun h5 hb => ?_)
        refine AW.aload_n (pn := 62) F dX8_write_61 rfl rfl rfl ?_
        refine AW.dupR (pn := 63) F dX8_write_62 rfl ?_
        refine AW.getI (pn := 66) F dX8_write_63 rfl gl_X8_195 so_69 rfl ?_
        refine AW.iconst (pn := 67) F dX8_write_66 rfl ?_
        refine AW.iadd (pn := 68) F dX8_write_67 rfl ?_
        refine AW.putI (pn := 71) F dX8_write_68 rfl pl_X8_195 so_69 rfl hb (fun h6 hb => ?_)
        refine AW.aload_n (pn := 72) F dX8_write_71 rfl rfl rfl ?_
        refine AW.getI (pn := 75) F dX8_write_72 rfl gl_X8_195 so_69 rfl ?_
        exact AW.iret F G dX8_write_75 ⟨_, rfl, hb⟩
      · refine AW.ldc (x := (-1000000004)) (pn := 30) F dX8_write_28 rfl tw_939 (by decide) ?_
        exact AW.iret F G dX8_write_30 ⟨_, rfl, hb⟩
    · refine AW.ldc (x := (-1000000001)) (pn := 18) F dX8_write_16 rfl tw_1009 (by decide) ?_
      exact AW.iret F G dX8_write_18 ⟨_, rfl, hb⟩

theorem p8_tear_69  {h : HP} {Q : Int → HP → Prop} (hb : p8_tear  h Q) : MT yX8_tear cX8_tear 2 (some .int) 1 [vR 69] h (QI Q) := by
  refine MT.of (own := RX8) (by decide) rfl (Nat.le_of_ble_eq_true rfl) rfl (fun X F G => ?_)
  unfold p8_tear at hb
  refine AW.aload_n (pn := 1) F dX8_tear_0 rfl rfl rfl ?_
  refine AW.getI (pn := 4) F dX8_tear_1 rfl gl_X8_195 so_69 rfl ?_
  refine AW.istore_n (ls2 := [some (vR 69), some (vI (h 69 40))]) (pn := 5) F dX8_tear_4 rfl rfl (by decide) rfl rfl ?_
  refine AW.aload_n (pn := 6) F dX8_tear_5 rfl rfl rfl ?_
  refine AW.iconst (pn := 7) F dX8_tear_6 rfl ?_
  refine AW.putI (pn := 10) F dX8_tear_7 rfl pl_X8_195 so_69 rfl hb (fun h1 hb => ?_)
  refine AW.iload_n (pn := 11) F dX8_tear_10 rfl rfl rfl ?_
  exact AW.iret F G dX8_tear_11 ⟨_, rfl, hb⟩

theorem p8_judge_L9_ok_69 {X : Cx} {E129 : HP → Int → Prop} {Q : Int → HP → Prop} (F : Fx X cX8_judge RX8 6 3) (G : Rx X (some .int) (QI Q)) (hE129 : ∀ (h : HP) (x1 : Int), E129 h x1 → AW X 6 129 [some (vR 69), some (vI x1), none, none, none, none] [] h) : ∀ (n : Nat) (h : HP) (x1 : Int) (x2 : Int), p8_judge_L9 E129 n h x1 x2 → AW X 6 9 [some (vR 69), some (vI x1), some (vI x2), none, none, none] [] h := by
  intro n
  induction n with
  | zero => intro _ _ _ hb; exact hb.elim
  | succ n ih =>
    intro h x1 x2 hb
    unfold p8_judge_L9 at hb
    refine AW.iload_n (pn := 10) F dX8_judge_9 rfl rfl rfl ?_
    refine AW.aload_n (pn := 11) F dX8_judge_10 rfl rfl rfl ?_
    refine AW.getI (pn := 14) F dX8_judge_11 rfl gl_X8_195 so_69 rfl ?_
    refine AW.icmp_ge (pn := 17) (tg := 129) F dX8_judge_14 rfl (by decide) hb (fun hb => ?_) (fun hb => ?_)
    · refine AW.drop [true, true, false, true, true, true] rfl ?_
      exact hE129 _ _ hb
    · refine AW.iload_n (pn := 18) F dX8_judge_17 rfl rfl rfl ?_
      refine AW.if_ge (pn := 21) (tg := 129) F dX8_judge_18 rfl (by decide) hb (fun hb => ?_) (fun hb => ?_)
      · refine AW.drop [true, true, false, true, true, true] rfl ?_
        exact hE129 _ _ hb
      · refine AW.aload_n (pn := 22) F dX8_judge_21 rfl rfl rfl ?_
        refine AW.getR (r := 92) (pn := 25) F dX8_judge_22 rfl gl_X8_80 so_69 rfl ?_
        refine AW.iload_n (pn := 26) F dX8_judge_25 rfl rfl rfl ?_
        refine AW.iald (pn := 27) F dX8_judge_26 rfl so_92 hb (fun v2 hb => ?_)
        refine AW.istore_n (ls2 := [some (vR 69), some (vI x1), some (vI x2), some (vI v2), none, none]) (pn := 28) F dX8_judge_27 rfl rfl (by decide) rfl rfl ?_
        refine AW.aload_n (pn := 29) F dX8_judge_28 rfl rfl rfl ?_
        refine AW.getR (r := 93) (pn := 32) F dX8_judge_29 rfl gl_X8_83 so_69 rfl ?_
        refine AW.iload_n (pn := 33) F dX8_judge_32 rfl rfl rfl ?_
        refine AW.iald (pn := 34) F dX8_judge_33 rfl so_93 hb (fun v3 hb => ?_)
        refine AW.istore (ls2 := [some (vR 69), some (vI x1), some (vI x2), some (vI v2), some (vI v3), none]) (pn := 36) F dX8_judge_34 rfl (by decide) rfl rfl ?_
        refine AW.iload (pn := 38) F dX8_judge_36 rfl rfl ?_
        refine AW.aload_n (pn := 39) F dX8_judge_38 rfl rfl rfl ?_
        refine AW.getI (pn := 42) F dX8_judge_39 rfl gl_X8_106 so_69 rfl ?_
        refine jn_1 hb (fun (y5 : Int) => AW X 6 50 [some (vR 69), some (vI x1), some (vI x2), some (vI v2), some (vI v3), none] [vI y5] h) (fun y5 hb => ?_) (fun K6 hK6 hb => ?_)
        · refine AW.istore (ls2 := [some (vR 69), some (vI x1), some (vI x2), some (vI v2), some (vI v3), some (vI y5)]) (pn := 52) F dX8_judge_50 rfl (by decide) rfl rfl ?_
          refine AW.iload (pn := 54) F dX8_judge_52 rfl rfl ?_
          refine jn_0 hb (AW X 6 86 [some (vR 69), some (vI x1), some (vI x2), some (vI v2), some (vI v3), some (vI y5)] [] h) (fun  hb => ?_) (fun K10 hK10 hb => ?_)
          · refine AW.iload (pn := 88) F dX8_judge_86 rfl rfl ?_
            refine AW.if_eq (pn := 91) (tg := 121) F dX8_judge_88 rfl (by decide) hb (fun hb => ?_) (fun hb => ?_)
            · refine AW.iload_n (pn := 122) F dX8_judge_121 rfl rfl rfl ?_
              refine AW.istore_n (ls2 := [some (vR 69), some (vI x2), some (vI x2), some (vI v2), some (vI v3), some (vI y5)]) (pn := 123) F dX8_judge_122 rfl rfl (by decide) rfl rfl ?_
              refine AW.iinc (ls2 := [some (vR 69), some (vI x2), some (vI (x2 + 1)), some (vI v2), some (vI v3), some (vI y5)]) (pn := 126) F dX8_judge_123 rfl rfl (by decide) rfl rfl ?_
              refine AW.goto (tg := 9) F dX8_judge_126 (by decide) ?_
              refine AW.drop [true, true, true, false, false, false] rfl ?_
              exact ih _ _ _ hb
            · refine AW.aload_n (pn := 92) F dX8_judge_91 rfl rfl rfl ?_
              refine AW.getR (r := 94) (pn := 95) F dX8_judge_92 rfl gl_X8_86 so_69 rfl ?_
              refine AW.iload_n (pn := 96) F dX8_judge_95 rfl rfl rfl ?_
              refine AW.zald (pn := 97) F dX8_judge_96 rfl so_94 hb (fun v11 hb => ?_)
              refine AW.if_ne (pn := 100) (tg := 121) F dX8_judge_97 rfl (by decide) hb (fun hb => ?_) (fun hb => ?_)
              · refine AW.iload_n (pn := 122) F dX8_judge_121 rfl rfl rfl ?_
                refine AW.istore_n (ls2 := [some (vR 69), some (vI x2), some (vI x2), some (vI v2), some (vI v3), some (vI y5)]) (pn := 123) F dX8_judge_122 rfl rfl (by decide) rfl rfl ?_
                refine AW.iinc (ls2 := [some (vR 69), some (vI x2), some (vI (x2 + 1)), some (vI v2), some (vI v3), some (vI y5)]) (pn := 126) F dX8_judge_123 rfl rfl (by decide) rfl rfl ?_
                refine AW.goto (tg := 9) F dX8_judge_126 (by decide) ?_
                refine AW.drop [true, true, true, false, false, false] rfl ?_
                exact ih _ _ _ hb
              · refine AW.aload_n (pn := 101) F dX8_judge_100 rfl rfl rfl ?_
                refine AW.getR (r := 75) (pn := 104) F dX8_judge_101 rfl gl_X8_25 so_69 rfl ?_
                refine AW.iload (pn := 106) F dX8_judge_104 rfl rfl ?_
                refine AW.iald (pn := 107) F dX8_judge_106 rfl so_75 hb (fun v12 hb => ?_)
                refine AW.iload_n (pn := 108) F dX8_judge_107 rfl rfl rfl ?_
                refine AW.icmp_ne (pn := 111) (tg := 121) F dX8_judge_108 rfl (by decide) hb (fun hb => ?_) (fun hb => ?_)
                · refine AW.iload_n (pn := 122) F dX8_judge_121 rfl rfl rfl ?_
                  refine AW.istore_n (ls2 := [some (vR 69), some (vI x2), some (vI x2), some (vI v2), some (vI v3), some (vI y5)]) (pn := 123) F dX8_judge_122 rfl rfl (by decide) rfl rfl ?_
                  refine AW.iinc (ls2 := [some (vR 69), some (vI x2), some (vI (x2 + 1)), some (vI v2), some (vI v3), some (vI y5)]) (pn := 126) F dX8_judge_123 rfl rfl (by decide) rfl rfl ?_
                  refine AW.goto (tg := 9) F dX8_judge_126 (by decide) ?_
                  refine AW.drop [true, true, true, false, false, false] rfl ?_
                  exact ih _ _ _ hb
                · refine AW.aload_n (pn := 112) F dX8_judge_111 rfl rfl rfl ?_
                  refine AW.iload_n (pn := 113) F dX8_judge_112 rfl rfl rfl ?_
                  refine AW.iload (pn := 115) F dX8_judge_113 rfl rfl ?_
                  refine AW.cVV (pn := 118) (st := []) F dX8_judge_115 rfl cl_X8_236 so_69 (p8_tossNow_69 v2 v3 hb) rfl rfl (Nat.le_of_ble_eq_true rfl) (by decide) (fun h13 hb => ?_)
                  refine AW.goto (tg := 123) F dX8_judge_118 (by decide) ?_
                  refine AW.iinc (ls2 := [some (vR 69), some (vI x1), some (vI (x2 + 1)), some (vI v2), some (vI v3), some (vI y5)]) (pn := 126) F dX8_judge_123 rfl rfl (by decide) rfl rfl ?_
                  refine AW.goto (tg := 9) F dX8_judge_126 (by decide) ?_
                  refine AW.drop [true, true, true, false, false, false] rfl ?_
                  exact ih _ _ _ hb
          refine AW.if_eq (pn := 57) (tg := 86) F dX8_judge_54 rfl (by decide) hb (fun hb => ?_) (fun hb => ?_)
          · exact hK10 hb
          · refine AW.aload_n (pn := 58) F dX8_judge_57 rfl rfl rfl ?_
            refine AW.getR (r := 94) (pn := 61) F dX8_judge_58 rfl gl_X8_86 so_69 rfl ?_
            refine AW.iload_n (pn := 62) F dX8_judge_61 rfl rfl rfl ?_
            refine AW.zald (pn := 63) F dX8_judge_62 rfl so_94 hb (fun v14 hb => ?_)
            refine AW.if_eq (pn := 66) (tg := 86) F dX8_judge_63 rfl (by decide) hb (fun hb => ?_) (fun hb => ?_)
            · exact hK10 hb
            · refine AW.aload_n (pn := 67) F dX8_judge_66 rfl rfl rfl ?_
              refine AW.iload_n (pn := 68) F dX8_judge_67 rfl rfl rfl ?_
              refine AW.iload (pn := 70) F dX8_judge_68 rfl rfl ?_
              refine AW.cVP (pn := 73) (st := []) F dX8_judge_70 rfl cl_X8_240 so_69 (p8_mayTake_69 v2 v3 hb) rfl rfl (Nat.le_of_ble_eq_true rfl) (by decide) (fun r15 hb => ?_)
              refine AW.if_eq (pn := 76) (tg := 86) F dX8_judge_73 rfl (by decide) hb (fun hb => ?_) (fun hb => ?_)
              · exact hK10 hb
              · refine AW.aload_n (pn := 77) F dX8_judge_76 rfl rfl rfl ?_
                refine AW.iload_n (pn := 78) F dX8_judge_77 rfl rfl rfl ?_
                refine AW.iload (pn := 80) F dX8_judge_78 rfl rfl ?_
                refine AW.cVV (pn := 83) (st := []) F dX8_judge_80 rfl cl_X8_243 so_69 (p8_takeNow_69 v2 v3 hb) rfl rfl (Nat.le_of_ble_eq_true rfl) (by decide) (fun h16 hb => ?_)
                refine AW.goto (tg := 123) F dX8_judge_83 (by decide) ?_
                refine AW.iinc (ls2 := [some (vR 69), some (vI x1), some (vI (x2 + 1)), some (vI v2), some (vI v3), some (vI y5)]) (pn := 126) F dX8_judge_123 rfl rfl (by decide) rfl rfl ?_
                refine AW.goto (tg := 9) F dX8_judge_126 (by decide) ?_
                refine AW.drop [true, true, true, false, false, false] rfl ?_
                exact ih _ _ _ hb
        refine AW.icmp_ge (pn := 45) (tg := 49) F dX8_judge_42 rfl (by decide) hb (fun hb => ?_) (fun hb => ?_)
        · refine AW.iconst (pn := 50) F dX8_judge_49 rfl ?_
          exact hK6 _ hb
        · refine AW.iconst (pn := 46) F dX8_judge_45 rfl ?_
          refine AW.goto (tg := 50) F dX8_judge_46 (by decide) ?_
          exact hK6 _ hb

theorem p8_judge_69  {h : HP} {Q : Int → HP → Prop} (hb : p8_judge  h Q) : MT yX8_judge cX8_judge 6 (some .int) 3 [vR 69] h (QI Q) := by
  refine MT.of (own := RX8) (by decide) rfl (Nat.le_of_ble_eq_true rfl) rfl (fun X F G => ?_)
  unfold p8_judge at hb
  refine AW.aload_n (pn := 1) F dX8_judge_0 rfl rfl rfl ?_
  refine AW.iconst (pn := 2) F dX8_judge_1 rfl ?_
  refine AW.cVV (pn := 5) (st := []) F dX8_judge_2 rfl cl_X8_281 so_69 (p8_save_69 2 hb) rfl rfl (Nat.le_of_ble_eq_true rfl) (by decide) (fun h1 hb => ?_)
  refine AW.iconst (pn := 6) F dX8_judge_5 rfl ?_
  refine AW.istore_n (ls2 := [some (vR 69), some (vI (-1)), none, none, none, none]) (pn := 7) F dX8_judge_6 rfl rfl (by decide) rfl rfl ?_
  refine AW.iconst (pn := 8) F dX8_judge_7 rfl ?_
  refine AW.istore_n (ls2 := [some (vR 69), some (vI (-1)), some (vI 0), none, none, none]) (pn := 9) F dX8_judge_8 rfl rfl (by decide) rfl rfl ?_
  refine p8_judge_L9_ok_69 F G (fun h17 y18 hb => ?_) _ _ _ _ hb
  refine AW.aload_n (pn := 130) F dX8_judge_129 rfl rfl rfl ?_
  refine AW.iconst (pn := 131) F dX8_judge_130 rfl ?_
  refine AW.cVV (pn := 134) (st := []) F dX8_judge_131 rfl cl_X8_285 so_69 (p8_load_69 2 hb) rfl rfl (Nat.le_of_ble_eq_true rfl) (by decide) (fun h19 hb => ?_)
  refine AW.iload_n (pn := 135) F dX8_judge_134 rfl rfl rfl ?_
  exact AW.iret F G dX8_judge_135 ⟨_, rfl, hb⟩

theorem p8_seed_69 (x1 : Int) {h : HP} {Q : Int → HP → Prop} (hb : p8_seed x1 h Q) : MT yX8_seed cX8_seed 3 (some .int) 1 [vR 69, vI x1] h (QI Q) := by
  refine MT.of (own := RX8) (by decide) rfl (Nat.le_of_ble_eq_true rfl) rfl (fun X F G => ?_)
  unfold p8_seed at hb
  refine AW.iload_n (pn := 1) F dX8_seed_0 rfl rfl rfl ?_
  refine AW.if_ge (pn := 4) (tg := 7) F dX8_seed_1 rfl (by decide) hb (fun hb => ?_) (fun hb => ?_)
  · refine AW.aload_n (pn := 8) F dX8_seed_7 rfl rfl rfl ?_
    refine AW.getI (pn := 11) F dX8_seed_8 rfl gl_X8_266 so_69 rfl ?_
    refine AW.istore_n (ls2 := [some (vR 69), some (vI x1), some (vI (h 69 14))]) (pn := 12) F dX8_seed_11 rfl rfl (by decide) rfl rfl ?_
    refine AW.aload_n (pn := 13) F dX8_seed_12 rfl rfl rfl ?_
    refine AW.iload_n (pn := 14) F dX8_seed_13 rfl rfl rfl ?_
    refine AW.putI (pn := 17) F dX8_seed_14 rfl pl_X8_266 so_69 rfl hb (fun h1 hb => ?_)
    refine AW.iload_n (pn := 18) F dX8_seed_17 rfl rfl rfl ?_
    exact AW.iret F G dX8_seed_18 ⟨_, rfl, hb⟩
  · refine AW.ldc (x := (-1000000002)) (pn := 6) F dX8_seed_4 rfl tw_938 (by decide) ?_
    exact AW.iret F G dX8_seed_6 ⟨_, rfl, hb⟩

theorem p8_keep_69 (x1 : Int) {h : HP} {Q : Int → HP → Prop} (hb : p8_keep x1 h Q) : MT yX8_keep cX8_keep 2 (some .int) 2 [vR 69, vI x1] h (QI Q) := by
  refine MT.of (own := RX8) (by decide) rfl (Nat.le_of_ble_eq_true rfl) rfl (fun X F G => ?_)
  unfold p8_keep at hb
  refine AW.iload_n (pn := 1) F dX8_keep_0 rfl rfl rfl ?_
  refine AW.i2l (pn := 2) F dX8_keep_1 rfl ?_
  refine AW.lconst (x := 0) (pn := 3) F dX8_keep_2 rfl (by decide) ?_
  refine AW.lconst (x := 1) (pn := 4) F dX8_keep_3 rfl (by decide) ?_
  refine AW.cSP (pn := 7) (st := []) F dX8_keep_4 rfl cl_X8_102 (p8_in_s (w32 x1) 0 1 hb) rfl rfl (Nat.le_of_ble_eq_true rfl) (by decide) (fun r1 hb => ?_)
  refine AW.if_ne (pn := 10) (tg := 13) F dX8_keep_7 rfl (by decide) hb (fun hb => ?_) (fun hb => ?_)
  · refine AW.aload_n (pn := 14) F dX8_keep_13 rfl rfl rfl ?_
    refine AW.iload_n (pn := 15) F dX8_keep_14 rfl rfl rfl ?_
    refine AW.cVV (pn := 18) (st := []) F dX8_keep_15 rfl cl_X8_281 so_69 (p8_save_69 x1 hb) rfl rfl (Nat.le_of_ble_eq_true rfl) (by decide) (fun h2 hb => ?_)
    refine AW.aload_n (pn := 19) F dX8_keep_18 rfl rfl rfl ?_
    refine AW.getR (r := 96) (pn := 22) F dX8_keep_19 rfl gl_X8_93 so_69 rfl ?_
    refine AW.iload_n (pn := 23) F dX8_keep_22 rfl rfl rfl ?_
    refine AW.iconst (pn := 24) F dX8_keep_23 rfl ?_
    refine AW.zast (pn := 25) F dX8_keep_24 rfl so_96 hb (fun h3 hb => ?_)
    refine AW.iconst (pn := 26) F dX8_keep_25 rfl ?_
    exact AW.iret F G dX8_keep_26 ⟨_, rfl, hb⟩
  · refine AW.ldc (x := (-1000000001)) (pn := 12) F dX8_keep_10 rfl tw_1009 (by decide) ?_
    exact AW.iret F G dX8_keep_12 ⟨_, rfl, hb⟩

theorem p8_goBack_69 (x1 : Int) {h : HP} {Q : Int → HP → Prop} (hb : p8_goBack x1 h Q) : MT yX8_goBack cX8_goBack 2 (some .int) 2 [vR 69, vI x1] h (QI Q) := by
  refine MT.of (own := RX8) (by decide) rfl (Nat.le_of_ble_eq_true rfl) rfl (fun X F G => ?_)
  unfold p8_goBack at hb
  refine AW.iload_n (pn := 1) F dX8_goBack_0 rfl rfl rfl ?_
  refine AW.i2l (pn := 2) F dX8_goBack_1 rfl ?_
  refine AW.lconst (x := 0) (pn := 3) F dX8_goBack_2 rfl (by decide) ?_
  refine AW.lconst (x := 1) (pn := 4) F dX8_goBack_3 rfl (by decide) ?_
  refine AW.cSP (pn := 7) (st := []) F dX8_goBack_4 rfl cl_X8_102 (p8_in_s (w32 x1) 0 1 hb) rfl rfl (Nat.le_of_ble_eq_true rfl) (by decide) (fun r1 hb => ?_)
  refine AW.if_ne (pn := 10) (tg := 13) F dX8_goBack_7 rfl (by decide) hb (fun hb => ?_) (fun hb => ?_)
  · refine AW.aload_n (pn := 14) F dX8_goBack_13 rfl rfl rfl ?_
    refine AW.getR (r := 96) (pn := 17) F dX8_goBack_14 rfl gl_X8_93 so_69 rfl ?_
    refine AW.iload_n (pn := 18) F dX8_goBack_17 rfl rfl rfl ?_
    refine AW.zald (pn := 19) F dX8_goBack_18 rfl so_96 hb (fun v2 hb => ?_)
    refine AW.if_ne (pn := 22) (tg := 25) F dX8_goBack_19 rfl (by decide) hb (fun hb => ?_) (fun hb => ?_)
    · refine AW.aload_n (pn := 26) F dX8_goBack_25 rfl rfl rfl ?_
      refine AW.iload_n (pn := 27) F dX8_goBack_26 rfl rfl rfl ?_
      refine AW.cVV (pn := 30) (st := []) F dX8_goBack_27 rfl cl_X8_285 so_69 (p8_load_69 x1 hb) rfl rfl (Nat.le_of_ble_eq_true rfl) (by decide) (fun h3 hb => ?_)
      refine AW.iconst (pn := 31) F dX8_goBack_30 rfl ?_
      exact AW.iret F G dX8_goBack_31 ⟨_, rfl, hb⟩
    · refine AW.ldc (x := (-1000000003)) (pn := 24) F dX8_goBack_22 rfl tw_1053 (by decide) ?_
      exact AW.iret F G dX8_goBack_24 ⟨_, rfl, hb⟩
  · refine AW.ldc (x := (-1000000001)) (pn := 12) F dX8_goBack_10 rfl tw_1009 (by decide) ?_
    exact AW.iret F G dX8_goBack_12 ⟨_, rfl, hb⟩

