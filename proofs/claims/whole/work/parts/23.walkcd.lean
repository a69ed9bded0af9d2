theorem p4_stillMissing_2 (x1 : Int) {h : HP} {Q : Int → Prop} (hb : p4_stillMissing x1 h Q) : MT yX4_stillMissing cX4_stillMissing 3 (some .long) 1 [vR 2, vL x1] h (QLP h Q) := by
  refine MT.of (own := RX4) (by decide) rfl (Nat.le_of_ble_eq_true rfl) rfl (fun X F G => ?_)
  unfold p4_stillMissing at hb
  refine AW.aload_n (pn := 1) F dX4_stillMissing_0 rfl rfl rfl ?_
  refine AW.getI (pn := 4) F dX4_stillMissing_1 rfl gl_X4_24 so_2 rfl ?_
  refine AW.if_le (pn := 7) (tg := 25) F dX4_stillMissing_4 rfl (by decide) hb (fun hb => ?_) (fun hb => ?_)
  · refine AW.lload_n (pn := 26) F dX4_stillMissing_25 rfl rfl rfl ?_
    exact AW.lret F G dX4_stillMissing_26 ⟨rfl, _, rfl, hb⟩
  · refine AW.lload_n (pn := 8) F dX4_stillMissing_7 rfl rfl rfl ?_
    refine AW.aload_n (pn := 9) F dX4_stillMissing_8 rfl rfl rfl ?_
    refine AW.getI (pn := 12) F dX4_stillMissing_9 rfl gl_X4_24 so_2 rfl ?_
    refine AW.iconst (pn := 13) F dX4_stillMissing_12 rfl ?_
    refine AW.isub (pn := 14) F dX4_stillMissing_13 rfl ?_
    refine AW.i2l (pn := 15) F dX4_stillMissing_14 rfl ?_
    refine AW.lmul (pn := 16) F dX4_stillMissing_15 rfl ?_
    refine AW.aload_n (pn := 17) F dX4_stillMissing_16 rfl rfl rfl ?_
    refine AW.getI (pn := 20) F dX4_stillMissing_17 rfl gl_X4_24 so_2 rfl ?_
    refine AW.i2l (pn := 21) F dX4_stillMissing_20 rfl ?_
    refine AW.ldiv (pn := 22) F dX4_stillMissing_21 rfl hb.1 ?_
    replace hb := hb.2
    refine AW.goto (tg := 26) F dX4_stillMissing_22 (by decide) ?_
    exact AW.lret F G dX4_stillMissing_26 ⟨rfl, _, rfl, hb⟩

theorem p7_odds_L34_ok_0 {X : Cx} {x2 : Int} {h : HP} {Q : Int → Prop} (F : Fx X cX7_odds RX7 6 2) (G : Rx X (some .int) (QP h Q))  : ∀ (n : Nat) (x3 : Int) (x5 : Int), p7_odds_L34 x2 h Q n x3 x5 → AW X 6 34 [some (vR 0), none, some (vI x2), some (vL x3), none, some (vI x5)] [] h := by
  intro n
  induction n with
  | zero => intro _ _ hb; exact hb.elim
  | succ n ih =>
    intro x3 x5 hb
    unfold p7_odds_L34 at hb
    refine AW.iload (pn := 36) F dX7_odds_34 rfl rfl ?_
    refine AW.iload_n (pn := 37) F dX7_odds_36 rfl rfl rfl ?_
    refine AW.icmp_ge (pn := 40) (tg := 55) F dX7_odds_37 rfl (by decide) hb (fun hb => ?_) (fun hb => ?_)
    · refine AW.ldc2 (x := 1000000000) (pn := 58) F dX7_odds_55 rfl tw_707 (by decide) ?_
      refine AW.lload_n (pn := 59) F dX7_odds_58 rfl rfl rfl ?_
      refine AW.lsub (pn := 60) F dX7_odds_59 rfl ?_
      refine AW.l2i (pn := 61) F dX7_odds_60 rfl ?_
      exact AW.iret F G dX7_odds_61 ⟨rfl, _, rfl, hb⟩
    · refine AW.aload_n (pn := 41) F dX7_odds_40 rfl rfl rfl ?_
      refine AW.getR (r := 2) (pn := 44) F dX7_odds_41 rfl gl_X7_20 so_0 rfl ?_
      refine AW.lload_n (pn := 45) F dX7_odds_44 rfl rfl rfl ?_
      refine AW.cVLP (pn := 48) (st := []) F dX7_odds_45 rfl cl_X7_225 so_2 (p4_stillMissing_2 x3 hb) rfl rfl (Nat.le_of_ble_eq_true rfl) (by decide) (fun r2 hb => ?_)
      refine AW.lstore_n (ls2 := [some (vR 0), none, some (vI x2), some (vL r2), none, some (vI x5)]) (pn := 49) F dX7_odds_48 rfl rfl (by decide) rfl rfl ?_
      refine AW.iinc (ls2 := [some (vR 0), none, some (vI x2), some (vL r2), none, some (vI (x5 + 1))]) (pn := 52) F dX7_odds_49 rfl rfl (by decide) rfl rfl ?_
      refine AW.goto (tg := 34) F dX7_odds_52 (by decide) ?_
      exact ih _ _ hb

theorem p7_odds_0 (x1 x2 : Int) {h : HP} {Q : Int → Prop} (hb : p7_odds x1 x2 h Q) : MT yX7_odds cX7_odds 6 (some .int) 2 [vR 0, vI x1, vI x2] h (QP h Q) := by
  refine MT.of (own := RX7) (by decide) rfl (Nat.le_of_ble_eq_true rfl) rfl (fun X F G => ?_)
  unfold p7_odds at hb
  refine AW.aload_n (pn := 1) F dX7_odds_0 rfl rfl rfl ?_
  refine AW.getR (r := 2) (pn := 4) F dX7_odds_1 rfl gl_X7_20 so_0 rfl ?_
  refine AW.iload_n (pn := 5) F dX7_odds_4 rfl rfl rfl ?_
  refine AW.cVP (pn := 8) (st := []) F dX7_odds_5 rfl cl_X7_153 so_2 (p4_isSort_2 x1 hb) rfl rfl (Nat.le_of_ble_eq_true rfl) (by decide) (fun r1 hb => ?_)
  refine AW.if_ne (pn := 11) (tg := 14) F dX7_odds_8 rfl (by decide) hb (fun hb => ?_) (fun hb => ?_)
  · refine AW.iload_n (pn := 15) F dX7_odds_14 rfl rfl rfl ?_
    refine AW.if_lt (pn := 18) (tg := 24) F dX7_odds_15 rfl (by decide) hb (fun hb => ?_) (fun hb => ?_)
    · refine AW.ldc (x := (-1000000002)) (pn := 26) F dX7_odds_24 rfl tw_329 (by decide) ?_
      exact AW.iret F G dX7_odds_26 ⟨rfl, _, rfl, hb⟩
    · refine AW.iload_n (pn := 19) F dX7_odds_18 rfl rfl rfl ?_
      refine AW.bipush (pn := 21) F dX7_odds_19 rfl (by decide) ?_
      refine AW.icmp_le (pn := 24) (tg := 27) F dX7_odds_21 rfl (by decide) hb (fun hb => ?_) (fun hb => ?_)
      · refine AW.ldc2 (x := 1000000000) (pn := 30) F dX7_odds_27 rfl tw_707 (by decide) ?_
        refine AW.lstore_n (ls2 := [some (vR 0), some (vI x1), some (vI x2), some (vL 1000000000), none, none]) (pn := 31) F dX7_odds_30 rfl rfl (by decide) rfl rfl ?_
        refine AW.iconst (pn := 32) F dX7_odds_31 rfl ?_
        refine AW.istore (ls2 := [some (vR 0), some (vI x1), some (vI x2), some (vL 1000000000), none, some (vI 0)]) (pn := 34) F dX7_odds_32 rfl (by decide) rfl rfl ?_
        refine AW.drop [true, false, true, true, true, true] rfl ?_
        refine p7_odds_L34_ok_0 F G  _ _ _ hb
      · refine AW.ldc (x := (-1000000002)) (pn := 26) F dX7_odds_24 rfl tw_329 (by decide) ?_
        exact AW.iret F G dX7_odds_26 ⟨rfl, _, rfl, hb⟩
  · refine AW.ldc (x := (-1000000001)) (pn := 13) F dX7_odds_11 rfl tw_493 (by decide) ?_
    exact AW.iret F G dX7_odds_13 ⟨rfl, _, rfl, hb⟩

theorem p5_greatestGain_13 (x1 : Int) {h : HP} {Q : Int → Prop} (hb : p5_greatestGain 13 x1 h Q) : MT yX5_greatestGain cX5_greatestGain 3 (some .int) 4 [vR 13, vI x1] h (QP h Q) := by
  refine MT.of (own := RX5) (by decide) rfl (Nat.le_of_ble_eq_true rfl) rfl (fun X F G => ?_)
  unfold p5_greatestGain at hb
  refine AW.aload_n (pn := 1) F dX5_greatestGain_0 rfl rfl rfl ?_
  refine AW.iload_n (pn := 2) F dX5_greatestGain_1 rfl rfl rfl ?_
  refine AW.cVP (pn := 5) (st := []) F dX5_greatestGain_2 rfl cl_X5_113 so_13 (p5_partToTake_13 x1 hb) rfl rfl (Nat.le_of_ble_eq_true rfl) (by decide) (fun r1 hb => ?_)
  refine AW.istore_n (ls2 := [some (vR 13), some (vI x1), some (vI r1)]) (pn := 6) F dX5_greatestGain_5 rfl rfl (by decide) rfl rfl ?_
  refine AW.iload_n (pn := 7) F dX5_greatestGain_6 rfl rfl rfl ?_
  refine AW.iconst (pn := 8) F dX5_greatestGain_7 rfl ?_
  refine AW.icmp_ne (pn := 11) (tg := 15) F dX5_greatestGain_8 rfl (by decide) hb (fun hb => ?_) (fun hb => ?_)
  · refine AW.aload_n (pn := 16) F dX5_greatestGain_15 rfl rfl rfl ?_
    refine AW.iload_n (pn := 17) F dX5_greatestGain_16 rfl rfl rfl ?_
    refine AW.aload_n (pn := 18) F dX5_greatestGain_17 rfl rfl rfl ?_
    refine AW.getR (r := 14) (pn := 21) F dX5_greatestGain_18 rfl gl_X5_9 so_13 rfl ?_
    refine AW.iload_n (pn := 22) F dX5_greatestGain_21 rfl rfl rfl ?_
    refine AW.iald (pn := 23) F dX5_greatestGain_22 rfl so_14 hb (fun v2 hb => ?_)
    refine AW.cVP (pn := 26) (st := []) F dX5_greatestGain_23 rfl cl_X5_92 so_13 (p5_gainOf_13 x1 v2 hb) rfl rfl (Nat.le_of_ble_eq_true rfl) (by decide) (fun r3 hb => ?_)
    exact AW.iret F G dX5_greatestGain_26 ⟨rfl, _, rfl, hb⟩
  · refine AW.iconst (pn := 12) F dX5_greatestGain_11 rfl ?_
    refine AW.goto (tg := 26) F dX5_greatestGain_12 (by decide) ?_
    exact AW.iret F G dX5_greatestGain_26 ⟨rfl, _, rfl, hb⟩

theorem p7_waits_L72_ok_0 {X : Cx} {x3 x4 : Int} {h : HP} {Q : Int → Prop} (F : Fx X cX7_waits RX7 14 5) (G : Rx X (some .int) (QP h Q))  : ∀ (n : Nat) (x6 : Int) (x8 : Int) (x10 : Int) (x11 : Int), p7_waits_L72 x3 x4 h Q n x6 x8 x10 x11 → AW X 14 72 [some (vR 0), none, none, some (vI x3), some (vL x4), none, some (vL x6), none, some (vL x8), none, some (vI x10), some (vI x11), none, none] [] h := by
  intro n
  induction n with
  | zero => intro _ _ _ _ hb; exact hb.elim
  | succ n ih =>
    intro x6 x8 x10 x11 hb
    unfold p7_waits_L72 at hb
    refine AW.iload (pn := 74) F dX7_waits_72 rfl rfl ?_
    refine AW.bipush (pn := 76) F dX7_waits_74 rfl (by decide) ?_
    refine AW.icmp_gt (pn := 79) (tg := 134) F dX7_waits_76 rfl (by decide) hb (fun hb => ?_) (fun hb => ?_)
    · refine AW.iload (pn := 136) F dX7_waits_134 rfl rfl ?_
      exact AW.iret F G dX7_waits_136 ⟨rfl, _, rfl, hb⟩
    · refine AW.lload (pn := 81) F dX7_waits_79 rfl rfl ?_
      refine AW.ldc2 (x := 1000000000) (pn := 84) F dX7_waits_81 rfl tw_707 (by decide) ?_
      refine AW.lload (pn := 86) F dX7_waits_84 rfl rfl ?_
      refine AW.lsub (pn := 87) F dX7_waits_86 rfl ?_
      refine AW.lmul (pn := 88) F dX7_waits_87 rfl ?_
      refine AW.ldc2 (x := 1000000000) (pn := 91) F dX7_waits_88 rfl tw_707 (by decide) ?_
      refine AW.ldiv (pn := 92) F dX7_waits_91 rfl (by decide) ?_
      refine AW.iload (pn := 94) F dX7_waits_92 rfl rfl ?_
      refine AW.i2l (pn := 95) F dX7_waits_94 rfl ?_
      refine AW.iload_n (pn := 96) F dX7_waits_95 rfl rfl rfl ?_
      refine AW.i2l (pn := 97) F dX7_waits_96 rfl ?_
      refine AW.lmul (pn := 98) F dX7_waits_97 rfl ?_
      refine AW.lsub (pn := 99) F dX7_waits_98 rfl ?_
      refine AW.lstore (ls2 := [some (vR 0), none, none, some (vI x3), some (vL x4), none, some (vL x6), none, some (vL x8), none, some (vI x10), some (vI x11), some (vL ((ld (x4 * (1000000000 - x8)) 1000000000) - ((w32 x11) * (w32 x3)))), none]) (pn := 101) F dX7_waits_99 rfl (by decide) rfl rfl ?_
      refine AW.lload (pn := 103) F dX7_waits_101 rfl rfl ?_
      refine AW.lload (pn := 105) F dX7_waits_103 rfl rfl ?_
      refine AW.lcmp (pn := 106) F dX7_waits_105 rfl ?_
      refine jn_2 hb (fun (y7 : Int) (y8 : Int) => AW X 14 117 [some (vR 0), none, none, some (vI x3), some (vL x4), none, some (vL y7), none, some (vL x8), none, some (vI y8), some (vI x11), none, none] [] h) (fun y7 y8 hb => ?_) (fun K9 hK9 hb => ?_)
      · refine AW.aload_n (pn := 118) F dX7_waits_117 rfl rfl rfl ?_
        refine AW.getR (r := 2) (pn := 121) F dX7_waits_118 rfl gl_X7_20 so_0 rfl ?_
        refine AW.lload (pn := 123) F dX7_waits_121 rfl rfl ?_
        refine AW.cVLP (pn := 126) (st := []) F dX7_waits_123 rfl cl_X7_225 so_2 (p4_stillMissing_2 x8 hb) rfl rfl (Nat.le_of_ble_eq_true rfl) (by decide) (fun r10 hb => ?_)
        refine AW.lstore (ls2 := [some (vR 0), none, none, some (vI x3), some (vL x4), none, some (vL y7), none, some (vL r10), none, some (vI y8), some (vI x11), none, none]) (pn := 128) F dX7_waits_126 rfl (by decide) rfl rfl ?_
        refine AW.iinc (ls2 := [some (vR 0), none, none, some (vI x3), some (vL x4), none, some (vL y7), none, some (vL r10), none, some (vI y8), some (vI (x11 + 1)), none, none]) (pn := 131) F dX7_waits_128 rfl rfl (by decide) rfl rfl ?_
        refine AW.goto (tg := 72) F dX7_waits_131 (by decide) ?_
        exact ih _ _ _ _ hb
      refine AW.if_le (pn := 109) (tg := 117) F dX7_waits_106 rfl (by decide) hb (fun hb => ?_) (fun hb => ?_)
      · refine AW.drop [true, true, true, true, true, true, true, true, true, true, true, true, false, true] rfl ?_
        exact hK9 _ _ hb
      · refine AW.lload (pn := 111) F dX7_waits_109 rfl rfl ?_
        refine AW.lstore (ls2 := [some (vR 0), none, none, some (vI x3), some (vL x4), none, some (vL ((ld (x4 * (1000000000 - x8)) 1000000000) - ((w32 x11) * (w32 x3)))), none, some (vL x8), none, some (vI x10), some (vI x11), some (vL ((ld (x4 * (1000000000 - x8)) 1000000000) - ((w32 x11) * (w32 x3)))), none]) (pn := 113) F dX7_waits_111 rfl (by decide) rfl rfl ?_
        refine AW.iload (pn := 115) F dX7_waits_113 rfl rfl ?_
        refine AW.istore (ls2 := [some (vR 0), none, none, some (vI x3), some (vL x4), none, some (vL ((ld (x4 * (1000000000 - x8)) 1000000000) - ((w32 x11) * (w32 x3)))), none, some (vL x8), none, some (vI x11), some (vI x11), some (vL ((ld (x4 * (1000000000 - x8)) 1000000000) - ((w32 x11) * (w32 x3)))), none]) (pn := 117) F dX7_waits_115 rfl (by decide) rfl rfl ?_
        refine AW.drop [true, true, true, true, true, true, true, true, true, true, true, true, false, true] rfl ?_
        exact hK9 _ _ hb

theorem p7_waits_0 (x1 x2 x3 : Int) {h : HP} {Q : Int → Prop} (hb : p7_waits x1 x2 x3 h Q) : MT yX7_waits cX7_waits 14 (some .int) 5 [vR 0, vI x1, vI x2, vI x3] h (QP h Q) := by
  refine MT.of (own := RX7) (by decide) rfl (Nat.le_of_ble_eq_true rfl) rfl (fun X F G => ?_)
  unfold p7_waits at hb
  refine AW.aload_n (pn := 1) F dX7_waits_0 rfl rfl rfl ?_
  refine AW.getR (r := 2) (pn := 4) F dX7_waits_1 rfl gl_X7_20 so_0 rfl ?_
  refine AW.iload_n (pn := 5) F dX7_waits_4 rfl rfl rfl ?_
  refine AW.cVP (pn := 8) (st := []) F dX7_waits_5 rfl cl_X7_133 so_2 (p4_isHouse_2 x1 hb) rfl rfl (Nat.le_of_ble_eq_true rfl) (by decide) (fun r1 hb => ?_)
  refine AW.if_eq (pn := 11) (tg := 22) F dX7_waits_8 rfl (by decide) hb (fun hb => ?_) (fun hb => ?_)
  · refine AW.ldc (x := (-1000000001)) (pn := 24) F dX7_waits_22 rfl tw_493 (by decide) ?_
    exact AW.iret F G dX7_waits_24 ⟨rfl, _, rfl, hb⟩
  · refine AW.aload_n (pn := 12) F dX7_waits_11 rfl rfl rfl ?_
    refine AW.getR (r := 2) (pn := 15) F dX7_waits_12 rfl gl_X7_20 so_0 rfl ?_
    refine AW.iload_n (pn := 16) F dX7_waits_15 rfl rfl rfl ?_
    refine AW.cVP (pn := 19) (st := []) F dX7_waits_16 rfl cl_X7_153 so_2 (p4_isSort_2 x2 hb) rfl rfl (Nat.le_of_ble_eq_true rfl) (by decide) (fun r2 hb => ?_)
    refine AW.if_ne (pn := 22) (tg := 25) F dX7_waits_19 rfl (by decide) hb (fun hb => ?_) (fun hb => ?_)
    · refine AW.iload_n (pn := 26) F dX7_waits_25 rfl rfl rfl ?_
      refine AW.if_lt (pn := 29) (tg := 35) F dX7_waits_26 rfl (by decide) hb (fun hb => ?_) (fun hb => ?_)
      · refine AW.ldc (x := (-1000000002)) (pn := 37) F dX7_waits_35 rfl tw_329 (by decide) ?_
        exact AW.iret F G dX7_waits_37 ⟨rfl, _, rfl, hb⟩
      · refine AW.iload_n (pn := 30) F dX7_waits_29 rfl rfl rfl ?_
        refine AW.bipush (pn := 32) F dX7_waits_30 rfl (by decide) ?_
        refine AW.icmp_le (pn := 35) (tg := 38) F dX7_waits_32 rfl (by decide) hb (fun hb => ?_) (fun hb => ?_)
        · refine AW.aload_n (pn := 39) F dX7_waits_38 rfl rfl rfl ?_
          refine AW.getR (r := 13) (pn := 42) F dX7_waits_39 rfl gl_X7_41 so_0 rfl ?_
          refine AW.iload_n (pn := 43) F dX7_waits_42 rfl rfl rfl ?_
          refine AW.iload_n (pn := 44) F dX7_waits_43 rfl rfl rfl ?_
          refine AW.cVP (pn := 47) (st := []) F dX7_waits_44 rfl cl_X7_199 so_13 (p5_gainOf_13 x1 x2 hb) rfl rfl (Nat.le_of_ble_eq_true rfl) (by decide) (fun r3 hb => ?_)
          refine AW.i2l (pn := 48) F dX7_waits_47 rfl ?_
          refine AW.lstore (ls2 := [some (vR 0), some (vI x1), some (vI x2), some (vI x3), some (vL (w32 r3)), none, none, none, none, none, none, none, none, none]) (pn := 50) F dX7_waits_48 rfl (by decide) rfl rfl ?_
          refine AW.aload_n (pn := 51) F dX7_waits_50 rfl rfl rfl ?_
          refine AW.getR (r := 13) (pn := 54) F dX7_waits_51 rfl gl_X7_41 so_0 rfl ?_
          refine AW.iload_n (pn := 55) F dX7_waits_54 rfl rfl rfl ?_
          refine AW.cVP (pn := 58) (st := []) F dX7_waits_55 rfl cl_X7_229 so_13 (p5_greatestGain_13 x1 hb) rfl rfl (Nat.le_of_ble_eq_true rfl) (by decide) (fun r4 hb => ?_)
          refine AW.i2l (pn := 59) F dX7_waits_58 rfl ?_
          refine AW.lstore (ls2 := [some (vR 0), some (vI x1), some (vI x2), some (vI x3), some (vL (w32 r3)), none, some (vL (w32 r4)), none, none, none, none, none, none, none]) (pn := 61) F dX7_waits_59 rfl (by decide) rfl rfl ?_
          refine AW.ldc2 (x := 1000000000) (pn := 64) F dX7_waits_61 rfl tw_707 (by decide) ?_
          refine AW.lstore (ls2 := [some (vR 0), some (vI x1), some (vI x2), some (vI x3), some (vL (w32 r3)), none, some (vL (w32 r4)), none, some (vL 1000000000), none, none, none, none, none]) (pn := 66) F dX7_waits_64 rfl (by decide) rfl rfl ?_
          refine AW.iconst (pn := 67) F dX7_waits_66 rfl ?_
          refine AW.istore (ls2 := [some (vR 0), some (vI x1), some (vI x2), some (vI x3), some (vL (w32 r3)), none, some (vL (w32 r4)), none, some (vL 1000000000), none, some (vI (-1)), none, none, none]) (pn := 69) F dX7_waits_67 rfl (by decide) rfl rfl ?_
          refine AW.iconst (pn := 70) F dX7_waits_69 rfl ?_
          refine AW.istore (ls2 := [some (vR 0), some (vI x1), some (vI x2), some (vI x3), some (vL (w32 r3)), none, some (vL (w32 r4)), none, some (vL 1000000000), none, some (vI (-1)), some (vI 0), none, none]) (pn := 72) F dX7_waits_70 rfl (by decide) rfl rfl ?_
          refine AW.drop [true, false, false, true, true, true, true, true, true, true, true, true, true, true] rfl ?_
          refine p7_waits_L72_ok_0 F G  _ _ _ _ _ hb
        · refine AW.ldc (x := (-1000000002)) (pn := 37) F dX7_waits_35 rfl tw_329 (by decide) ?_
          exact AW.iret F G dX7_waits_37 ⟨rfl, _, rfl, hb⟩
    · refine AW.ldc (x := (-1000000001)) (pn := 24) F dX7_waits_22 rfl tw_493 (by decide) ?_
      exact AW.iret F G dX7_waits_24 ⟨rfl, _, rfl, hb⟩

theorem p6_setUp_L17_ok_62 {X : Cx} {x3 : Int} {E74 : HP → Prop} {Q : HP → Prop} (F : Fx X cX6_setUp RX6 7 2) (G : Rx X none (QV Q)) (hE74 : ∀ (h : HP), E74 h → AW X 7 74 [some (vR 62), none, none, some (vI x3), none, none, none] [] h) : ∀ (n : Nat) (h : HP) (x4 : Int), p6_setUp_L17 x3 E74 n h x4 → AW X 7 17 [some (vR 62), none, none, some (vI x3), some (vI x4), none, none] [] h := by
  intro n
  induction n with
  | zero => intro _ _ hb; exact hb.elim
  | succ n ih =>
    intro h x4 hb
    unfold p6_setUp_L17 at hb
    refine AW.iload (pn := 19) F dX6_setUp_17 rfl rfl ?_
    refine AW.iconst (pn := 20) F dX6_setUp_19 rfl ?_
    refine AW.icmp_ge (pn := 23) (tg := 74) F dX6_setUp_20 rfl (by decide) hb (fun hb => ?_) (fun hb => ?_)
    · refine AW.drop [true, true, true, true, false, true, true] rfl ?_
      exact hE74 _ hb
    · refine AW.aload_n (pn := 24) F dX6_setUp_23 rfl rfl rfl ?_
      refine AW.getR (r := 64) (pn := 27) F dX6_setUp_24 rfl gl_X6_15 so_62 rfl ?_
      refine AW.iload (pn := 29) F dX6_setUp_27 rfl rfl ?_
      refine AW.iconst (pn := 30) F dX6_setUp_29 rfl ?_
      refine AW.aload_n (pn := 31) F dX6_setUp_30 rfl rfl rfl ?_
      refine AW.getR (r := 13) (pn := 34) F dX6_setUp_31 rfl gl_X6_27 so_62 rfl ?_
      refine AW.getR (r := 19) (pn := 37) F dX6_setUp_34 rfl gl_X6_31 so_13 rfl ?_
      refine AW.aload_n (pn := 38) F dX6_setUp_37 rfl rfl rfl ?_
      refine AW.getR (r := 63) (pn := 41) F dX6_setUp_38 rfl gl_X6_9 so_62 rfl ?_
      refine AW.iload (pn := 43) F dX6_setUp_41 rfl rfl ?_
      refine AW.iald (pn := 44) F dX6_setUp_43 rfl so_63 hb (fun v3 hb => ?_)
      refine AW.iald (pn := 45) F dX6_setUp_44 rfl so_19 hb (fun v4 hb => ?_)
      refine AW.isub (pn := 46) F dX6_setUp_45 rfl ?_
      refine AW.iast (pn := 47) F dX6_setUp_46 rfl so_64 hb (fun h5 hb => ?_)
      refine AW.aload_n (pn := 48) F dX6_setUp_47 rfl rfl rfl ?_
      refine AW.getR (r := 65) (pn := 51) F dX6_setUp_48 rfl gl_X6_18 so_62 rfl ?_
      refine AW.iload (pn := 53) F dX6_setUp_51 rfl rfl ?_
      refine AW.aload_n (pn := 54) F dX6_setUp_53 rfl rfl rfl ?_
      refine AW.getR (r := 13) (pn := 57) F dX6_setUp_54 rfl gl_X6_27 so_62 rfl ?_
      refine AW.aload_n (pn := 58) F dX6_setUp_57 rfl rfl rfl ?_
      refine AW.getR (r := 63) (pn := 61) F dX6_setUp_58 rfl gl_X6_9 so_62 rfl ?_
      refine AW.iload (pn := 63) F dX6_setUp_61 rfl rfl ?_
      refine AW.iald (pn := 64) F dX6_setUp_63 rfl so_63 hb (fun v6 hb => ?_)
      refine AW.cVP (pn := 67) (st := [vI x4, vR 65]) F dX6_setUp_64 rfl cl_X6_36 so_13 (p5_sortsHad_13 v6 hb) rfl rfl (Nat.le_of_ble_eq_true rfl) (by decide) (fun r7 hb => ?_)
      refine AW.iast (pn := 68) F dX6_setUp_67 rfl so_65 hb (fun h8 hb => ?_)
      refine AW.iinc (ls2 := [some (vR 62), none, none, some (vI x3), some (vI (x4 + 1)), none, none]) (pn := 71) F dX6_setUp_68 rfl rfl (by decide) rfl rfl ?_
      refine AW.goto (tg := 17) F dX6_setUp_71 (by decide) ?_
      exact ih _ _ hb

theorem p6_setUp_L88_ok_62 {X : Cx} {x3 : Int} {Q : HP → Prop} (F : Fx X cX6_setUp RX6 7 2) (G : Rx X none (QV Q))  : ∀ (n : Nat) (h : HP) (x4 : Int) (x5 : Int), p6_setUp_L88 x3 Q n h x4 x5 → AW X 7 88 [some (vR 62), none, none, some (vI x3), some (vI x4), some (vI x5), none] [] h := by
  intro n
  induction n with
  | zero => intro _ _ _ hb; exact hb.elim
  | succ n ih =>
    intro h x4 x5 hb
    unfold p6_setUp_L88 at hb
    refine AW.iload (pn := 90) F dX6_setUp_88 rfl rfl ?_
    refine AW.aload_n (pn := 91) F dX6_setUp_90 rfl rfl rfl ?_
    refine AW.getR (r := 13) (pn := 94) F dX6_setUp_91 rfl gl_X6_27 so_62 rfl ?_
    refine AW.getI (pn := 97) F dX6_setUp_94 rfl gl_X6_46 so_13 rfl ?_
    refine AW.icmp_ge (pn := 100) (tg := 194) F dX6_setUp_97 rfl (by decide) hb (fun hb => ?_) (fun hb => ?_)
    · exact AW.vret F G dX6_setUp_194 ⟨rfl, hb⟩
    · refine AW.iload (pn := 102) F dX6_setUp_100 rfl rfl ?_
      refine AW.bipush (pn := 104) F dX6_setUp_102 rfl (by decide) ?_
      refine AW.icmp_ge (pn := 107) (tg := 194) F dX6_setUp_104 rfl (by decide) hb (fun hb => ?_) (fun hb => ?_)
      · exact AW.vret F G dX6_setUp_194 ⟨rfl, hb⟩
      · refine AW.aload_n (pn := 108) F dX6_setUp_107 rfl rfl rfl ?_
        refine AW.getR (r := 13) (pn := 111) F dX6_setUp_108 rfl gl_X6_27 so_62 rfl ?_
        refine AW.iload (pn := 113) F dX6_setUp_111 rfl rfl ?_
        refine AW.cVP (pn := 116) (st := []) F dX6_setUp_113 rfl cl_X6_50 so_13 (p5_lies_13 x5 hb) rfl rfl (Nat.le_of_ble_eq_true rfl) (by decide) (fun r11 hb => ?_)
        refine AW.if_eq (pn := 119) (tg := 188) F dX6_setUp_116 rfl (by decide) hb (fun hb => ?_) (fun hb => ?_)
        · refine AW.iinc (ls2 := [some (vR 62), none, none, some (vI x3), some (vI x4), some (vI (x5 + 1)), none]) (pn := 191) F dX6_setUp_188 rfl rfl (by decide) rfl rfl ?_
          refine AW.goto (tg := 88) F dX6_setUp_191 (by decide) ?_
          exact ih _ _ _ hb
        · refine AW.aload_n (pn := 120) F dX6_setUp_119 rfl rfl rfl ?_
          refine AW.getR (r := 13) (pn := 123) F dX6_setUp_120 rfl gl_X6_27 so_62 rfl ?_
          refine AW.getR (r := 16) (pn := 126) F dX6_setUp_123 rfl gl_X6_54 so_13 rfl ?_
          refine AW.iload (pn := 128) F dX6_setUp_126 rfl rfl ?_
          refine AW.iald (pn := 129) F dX6_setUp_128 rfl so_16 hb (fun v12 hb => ?_)
          refine AW.iload_n (pn := 130) F dX6_setUp_129 rfl rfl rfl ?_
          refine AW.icmp_ne (pn := 133) (tg := 188) F dX6_setUp_130 rfl (by decide) hb (fun hb => ?_) (fun hb => ?_)
          · refine AW.iinc (ls2 := [some (vR 62), none, none, some (vI x3), some (vI x4), some (vI (x5 + 1)), none]) (pn := 191) F dX6_setUp_188 rfl rfl (by decide) rfl rfl ?_
            refine AW.goto (tg := 88) F dX6_setUp_191 (by decide) ?_
            exact ih _ _ _ hb
          · refine AW.aload_n (pn := 134) F dX6_setUp_133 rfl rfl rfl ?_
            refine AW.getR (r := 13) (pn := 137) F dX6_setUp_134 rfl gl_X6_27 so_62 rfl ?_
            refine AW.getR (r := 14) (pn := 140) F dX6_setUp_137 rfl gl_X6_57 so_13 rfl ?_
            refine AW.iload (pn := 142) F dX6_setUp_140 rfl rfl ?_
            refine AW.iald (pn := 143) F dX6_setUp_142 rfl so_14 hb (fun v13 hb => ?_)
            refine AW.istore (ls2 := [some (vR 62), none, none, some (vI x3), some (vI x4), some (vI x5), some (vI v13)]) (pn := 145) F dX6_setUp_143 rfl (by decide) rfl rfl ?_
            refine AW.aload_n (pn := 146) F dX6_setUp_145 rfl rfl rfl ?_
            refine AW.getR (r := 67) (pn := 149) F dX6_setUp_146 rfl gl_X6_24 so_62 rfl ?_
            refine AW.iload (pn := 151) F dX6_setUp_149 rfl rfl ?_
            refine AW.aload_n (pn := 152) F dX6_setUp_151 rfl rfl rfl ?_
            refine AW.getR (r := 66) (pn := 155) F dX6_setUp_152 rfl gl_X6_21 so_62 rfl ?_
            refine AW.iload (pn := 157) F dX6_setUp_155 rfl rfl ?_
            refine AW.iald (pn := 158) F dX6_setUp_157 rfl so_66 hb (fun v14 hb => ?_)
            refine jn_1 hb (fun (y17 : Int) => AW X 7 173 [some (vR 62), none, none, some (vI x3), some (vI x4), some (vI x5), some (vI v13)] [vI y17, vI v13, vR 67] h) (fun y17 hb => ?_) (fun K18 hK18 hb => ?_)
            · refine AW.iast (pn := 174) F dX6_setUp_173 rfl so_67 hb (fun h19 hb => ?_)
              refine AW.aload_n (pn := 175) F dX6_setUp_174 rfl rfl rfl ?_
              refine AW.getR (r := 66) (pn := 178) F dX6_setUp_175 rfl gl_X6_21 so_62 rfl ?_
              refine AW.iload (pn := 180) F dX6_setUp_178 rfl rfl ?_
              refine AW.dup2IR (pn := 181) F dX6_setUp_180 rfl ?_
              refine AW.iald (pn := 182) F dX6_setUp_181 rfl so_66 hb (fun v20 hb => ?_)
              refine AW.iconst (pn := 183) F dX6_setUp_182 rfl ?_
              refine AW.iadd (pn := 184) F dX6_setUp_183 rfl ?_
              refine AW.iast (pn := 185) F dX6_setUp_184 rfl so_66 hb (fun h21 hb => ?_)
              refine AW.iinc (ls2 := [some (vR 62), none, none, some (vI x3), some (vI (x4 + 1)), some (vI x5), some (vI v13)]) (pn := 188) F dX6_setUp_185 rfl rfl (by decide) rfl rfl ?_
              refine AW.iinc (ls2 := [some (vR 62), none, none, some (vI x3), some (vI (x4 + 1)), some (vI (x5 + 1)), some (vI v13)]) (pn := 191) F dX6_setUp_188 rfl rfl (by decide) rfl rfl ?_
              refine AW.goto (tg := 88) F dX6_setUp_191 (by decide) ?_
              refine AW.drop [true, true, true, true, true, true, false] rfl ?_
              exact ih _ _ _ hb
            refine AW.if_ne (pn := 161) (tg := 166) F dX6_setUp_158 rfl (by decide) hb (fun hb => ?_) (fun hb => ?_)
            · refine AW.aload_n (pn := 167) F dX6_setUp_166 rfl rfl rfl ?_
              refine AW.getR (r := 67) (pn := 170) F dX6_setUp_167 rfl gl_X6_24 so_62 rfl ?_
              refine AW.iload (pn := 172) F dX6_setUp_170 rfl rfl ?_
              refine AW.iald (pn := 173) F dX6_setUp_172 rfl so_67 hb (fun v22 hb => ?_)
              exact hK18 _ hb
            · refine AW.iload (pn := 163) F dX6_setUp_161 rfl rfl ?_
              refine AW.goto (tg := 173) F dX6_setUp_163 (by decide) ?_
              exact hK18 _ hb

theorem p6_setUp_62 (x1 x2 x3 : Int) {h : HP} {Q : HP → Prop} (hb : p6_setUp x1 x2 x3 h Q) : MT yX6_setUp cX6_setUp 7 none 2 [vR 62, vI x1, vI x2, vI x3] h (QV Q) := by
  refine MT.of (own := RX6) (by decide) rfl (Nat.le_of_ble_eq_true rfl) rfl (fun X F G => ?_)
  unfold p6_setUp at hb
  refine AW.aload_n (pn := 1) F dX6_setUp_0 rfl rfl rfl ?_
  refine AW.getR (r := 63) (pn := 4) F dX6_setUp_1 rfl gl_X6_9 so_62 rfl ?_
  refine AW.iconst (pn := 5) F dX6_setUp_4 rfl ?_
  refine AW.iload_n (pn := 6) F dX6_setUp_5 rfl rfl rfl ?_
  refine AW.iast (pn := 7) F dX6_setUp_6 rfl so_63 hb (fun h1 hb => ?_)
  refine AW.aload_n (pn := 8) F dX6_setUp_7 rfl rfl rfl ?_
  refine AW.getR (r := 63) (pn := 11) F dX6_setUp_8 rfl gl_X6_9 so_62 rfl ?_
  refine AW.iconst (pn := 12) F dX6_setUp_11 rfl ?_
  refine AW.iload_n (pn := 13) F dX6_setUp_12 rfl rfl rfl ?_
  refine AW.iast (pn := 14) F dX6_setUp_13 rfl so_63 hb (fun h2 hb => ?_)
  refine AW.iconst (pn := 15) F dX6_setUp_14 rfl ?_
  refine AW.istore (ls2 := [some (vR 62), some (vI x1), some (vI x2), some (vI x3), some (vI 0), none, none]) (pn := 17) F dX6_setUp_15 rfl (by decide) rfl rfl ?_
  refine AW.drop [true, false, false, true, true, true, true] rfl ?_
  refine p6_setUp_L17_ok_62 F G (fun h9 hb => ?_) _ _ _ hb
  refine AW.aload_n (pn := 75) F dX6_setUp_74 rfl rfl rfl ?_
  refine AW.getR (r := 66) (pn := 78) F dX6_setUp_75 rfl gl_X6_21 so_62 rfl ?_
  refine AW.iconst (pn := 79) F dX6_setUp_78 rfl ?_
  refine AW.cSV (pn := 82) F dX6_setUp_79 rfl cl_X6_40 (pJ_fill_66 0 hb) rfl rfl (Nat.le_of_ble_eq_true rfl) (by decide) (fun h10 hb => ?_)
  refine AW.iconst (pn := 83) F dX6_setUp_82 rfl ?_
  refine AW.istore (ls2 := [some (vR 62), none, none, some (vI x3), some (vI 0), none, none]) (pn := 85) F dX6_setUp_83 rfl (by decide) rfl rfl ?_
  refine AW.iconst (pn := 86) F dX6_setUp_85 rfl ?_
  refine AW.istore (ls2 := [some (vR 62), none, none, some (vI x3), some (vI 0), some (vI 0), none]) (pn := 88) F dX6_setUp_86 rfl (by decide) rfl rfl ?_
  refine p6_setUp_L88_ok_62 F G  _ _ _ _ hb

theorem p6_valueOfTaking_62 {R : Int → Int → HP → (Int → HP → Prop) → Prop} {dR dd : Nat} (hR : (∀ (x1 x2 : Int) (h : HP) (Q : Int → HP → Prop), R x1 x2 h Q → MT yX6_bestOf cX6_bestOf 5 (some .int) dR [vR 62, vI x1, vI x2] h (QI Q))) (hdR : dR + 1 ≤ dd) (hdB : 10 ≤ dR) (x1 x2 x3 : Int) {h : HP} {Q : Int → HP → Prop} (hb : p6_valueOfTaking R x1 x2 x3 h Q) : MT yX6_valueOfTaking cX6_valueOfTaking 7 (some .int) dd [vR 62, vI x1, vI x2, vI x3] h (QI Q) := by
  refine MT.of (own := RX6) (by decide) rfl (Nat.le_of_ble_eq_true rfl) rfl (fun X F G => ?_)
  unfold p6_valueOfTaking at hb
  refine AW.aload_n (pn := 1) F dX6_valueOfTaking_0 rfl rfl rfl ?_
  refine AW.getR (r := 65) (pn := 4) F dX6_valueOfTaking_1 rfl gl_X6_18 so_62 rfl ?_
  refine AW.iload_n (pn := 5) F dX6_valueOfTaking_4 rfl rfl rfl ?_
  refine AW.iald (pn := 6) F dX6_valueOfTaking_5 rfl so_65 hb (fun v1 hb => ?_)
  refine AW.istore (ls2 := [some (vR 62), some (vI x1), some (vI x2), some (vI x3), some (vI v1), none, none]) (pn := 8) F dX6_valueOfTaking_6 rfl (by decide) rfl rfl ?_
  refine AW.iload (pn := 10) F dX6_valueOfTaking_8 rfl rfl ?_
  refine AW.iload_n (pn := 11) F dX6_valueOfTaking_10 rfl rfl rfl ?_
  refine AW.ishr (pn := 12) F dX6_valueOfTaking_11 rfl ?_
  refine AW.iconst (pn := 13) F dX6_valueOfTaking_12 rfl ?_
  refine AW.iand (pn := 14) F dX6_valueOfTaking_13 rfl ?_
  refine jn_1 hb (fun (y5 : Int) => AW X 7 38 [some (vR 62), some (vI x1), some (vI x2), some (vI x3), some (vI v1), none, none] [vI y5] h) (fun y5 hb => ?_) (fun K6 hK6 hb => ?_)
  · refine AW.istore (ls2 := [some (vR 62), some (vI x1), some (vI x2), some (vI x3), some (vI v1), some (vI y5), none]) (pn := 40) F dX6_valueOfTaking_38 rfl (by decide) rfl rfl ?_
    refine AW.aload_n (pn := 41) F dX6_valueOfTaking_40 rfl rfl rfl ?_
    refine AW.getR (r := 65) (pn := 44) F dX6_valueOfTaking_41 rfl gl_X6_18 so_62 rfl ?_
    refine AW.iload_n (pn := 45) F dX6_valueOfTaking_44 rfl rfl rfl ?_
    refine AW.iload (pn := 47) F dX6_valueOfTaking_45 rfl rfl ?_
    refine AW.iconst (pn := 48) F dX6_valueOfTaking_47 rfl ?_
    refine AW.iload_n (pn := 49) F dX6_valueOfTaking_48 rfl rfl rfl ?_
    refine AW.ishl (pn := 50) F dX6_valueOfTaking_49 rfl ?_
    refine AW.ior (pn := 51) F dX6_valueOfTaking_50 rfl ?_
    refine AW.iast (pn := 52) F dX6_valueOfTaking_51 rfl so_65 hb (fun h7 hb => ?_)
    refine AW.aload_n (pn := 53) F dX6_valueOfTaking_52 rfl rfl rfl ?_
    refine AW.getR (r := 64) (pn := 56) F dX6_valueOfTaking_53 rfl gl_X6_15 so_62 rfl ?_
    refine AW.iload_n (pn := 57) F dX6_valueOfTaking_56 rfl rfl rfl ?_
    refine AW.dup2IR (pn := 58) F dX6_valueOfTaking_57 rfl ?_
    refine AW.iald (pn := 59) F dX6_valueOfTaking_58 rfl so_64 hb (fun v8 hb => ?_)
    refine AW.iconst (pn := 60) F dX6_valueOfTaking_59 rfl ?_
    refine AW.isub (pn := 61) F dX6_valueOfTaking_60 rfl ?_
    refine AW.iast (pn := 62) F dX6_valueOfTaking_61 rfl so_64 hb (fun h9 hb => ?_)
    refine AW.aload_n (pn := 63) F dX6_valueOfTaking_62 rfl rfl rfl ?_
    refine AW.getR (r := 66) (pn := 66) F dX6_valueOfTaking_63 rfl gl_X6_21 so_62 rfl ?_
    refine AW.iload_n (pn := 67) F dX6_valueOfTaking_66 rfl rfl rfl ?_
    refine AW.dup2IR (pn := 68) F dX6_valueOfTaking_67 rfl ?_
    refine AW.iald (pn := 69) F dX6_valueOfTaking_68 rfl so_66 hb (fun v10 hb => ?_)
    refine AW.iconst (pn := 70) F dX6_valueOfTaking_69 rfl ?_
    refine AW.isub (pn := 71) F dX6_valueOfTaking_70 rfl ?_
    refine AW.iast (pn := 72) F dX6_valueOfTaking_71 rfl so_66 hb (fun h11 hb => ?_)
    refine AW.iload (pn := 74) F dX6_valueOfTaking_72 rfl rfl ?_
    refine AW.aload_n (pn := 75) F dX6_valueOfTaking_74 rfl rfl rfl ?_
    refine AW.iload_n (pn := 76) F dX6_valueOfTaking_75 rfl rfl rfl ?_
    refine AW.iconst (pn := 77) F dX6_valueOfTaking_76 rfl ?_
    refine AW.isub (pn := 78) F dX6_valueOfTaking_77 rfl ?_
    refine AW.iconst (pn := 79) F dX6_valueOfTaking_78 rfl ?_
    refine AW.iload_n (pn := 80) F dX6_valueOfTaking_79 rfl rfl rfl ?_
    refine AW.isub (pn := 81) F dX6_valueOfTaking_80 rfl ?_
    refine AW.cVI (pn := 84) (st := [vI y5]) F dX6_valueOfTaking_81 rfl cl_X6_66 so_62 (hR (x2 - 1) (1 - x3) _ _ hb) rfl rfl (Nat.le_of_ble_eq_true rfl) (by omega) (fun r12 h13 hb => ?_)
    refine AW.isub (pn := 85) F dX6_valueOfTaking_84 rfl ?_
    refine AW.istore (ls2 := [some (vR 62), some (vI x1), some (vI x2), some (vI x3), some (vI v1), some (vI y5), some (vI (y5 - r12))]) (pn := 87) F dX6_valueOfTaking_85 rfl (by decide) rfl rfl ?_
    refine AW.aload_n (pn := 88) F dX6_valueOfTaking_87 rfl rfl rfl ?_
    refine AW.getR (r := 66) (pn := 91) F dX6_valueOfTaking_88 rfl gl_X6_21 so_62 rfl ?_
    refine AW.iload_n (pn := 92) F dX6_valueOfTaking_91 rfl rfl rfl ?_
    refine AW.dup2IR (pn := 93) F dX6_valueOfTaking_92 rfl ?_
    refine AW.iald (pn := 94) F dX6_valueOfTaking_93 rfl so_66 hb (fun v14 hb => ?_)
    refine AW.iconst (pn := 95) F dX6_valueOfTaking_94 rfl ?_
    refine AW.iadd (pn := 96) F dX6_valueOfTaking_95 rfl ?_
    refine AW.iast (pn := 97) F dX6_valueOfTaking_96 rfl so_66 hb (fun h15 hb => ?_)
    refine AW.aload_n (pn := 98) F dX6_valueOfTaking_97 rfl rfl rfl ?_
    refine AW.getR (r := 64) (pn := 101) F dX6_valueOfTaking_98 rfl gl_X6_15 so_62 rfl ?_
    refine AW.iload_n (pn := 102) F dX6_valueOfTaking_101 rfl rfl rfl ?_
    refine AW.dup2IR (pn := 103) F dX6_valueOfTaking_102 rfl ?_
    refine AW.iald (pn := 104) F dX6_valueOfTaking_103 rfl so_64 hb (fun v16 hb => ?_)
    refine AW.iconst (pn := 105) F dX6_valueOfTaking_104 rfl ?_
    refine AW.iadd (pn := 106) F dX6_valueOfTaking_105 rfl ?_
    refine AW.iast (pn := 107) F dX6_valueOfTaking_106 rfl so_64 hb (fun h17 hb => ?_)
    refine AW.aload_n (pn := 108) F dX6_valueOfTaking_107 rfl rfl rfl ?_
    refine AW.getR (r := 65) (pn := 111) F dX6_valueOfTaking_108 rfl gl_X6_18 so_62 rfl ?_
    refine AW.iload_n (pn := 112) F dX6_valueOfTaking_111 rfl rfl rfl ?_
    refine AW.iload (pn := 114) F dX6_valueOfTaking_112 rfl rfl ?_
    refine AW.iast (pn := 115) F dX6_valueOfTaking_114 rfl so_65 hb (fun h18 hb => ?_)
    refine AW.iload (pn := 117) F dX6_valueOfTaking_115 rfl rfl ?_
    exact AW.iret F G dX6_valueOfTaking_117 ⟨_, rfl, hb⟩
  refine AW.if_ne (pn := 17) (tg := 37) F dX6_valueOfTaking_14 rfl (by decide) hb (fun hb => ?_) (fun hb => ?_)
  · refine AW.iconst (pn := 38) F dX6_valueOfTaking_37 rfl ?_
    exact hK6 _ hb
  · refine AW.aload_n (pn := 18) F dX6_valueOfTaking_17 rfl rfl rfl ?_
    refine AW.getR (r := 13) (pn := 21) F dX6_valueOfTaking_18 rfl gl_X6_27 so_62 rfl ?_
    refine AW.getR (r := 2) (pn := 24) F dX6_valueOfTaking_21 rfl gl_X6_79 so_13 rfl ?_
    refine AW.aload_n (pn := 25) F dX6_valueOfTaking_24 rfl rfl rfl ?_
    refine AW.getR (r := 63) (pn := 28) F dX6_valueOfTaking_25 rfl gl_X6_9 so_62 rfl ?_
    refine AW.iload_n (pn := 29) F dX6_valueOfTaking_28 rfl rfl rfl ?_
    refine AW.iald (pn := 30) F dX6_valueOfTaking_29 rfl so_63 hb (fun v19 hb => ?_)
    refine AW.iload_n (pn := 31) F dX6_valueOfTaking_30 rfl rfl rfl ?_
    refine AW.cVP (pn := 34) (st := []) F dX6_valueOfTaking_31 rfl cl_X6_83 so_2 (p4_worthOf_2 v19 x1 hb) rfl rfl (Nat.le_of_ble_eq_true rfl) (by omega) (fun r20 hb => ?_)
    refine AW.goto (tg := 38) F dX6_valueOfTaking_34 (by decide) ?_
    exact hK6 _ hb

theorem p6_bestOf_L21_ok_62 {R : Int → Int → HP → (Int → HP → Prop) → Prop} {dR dd : Nat} (hR : (∀ (x1 x2 : Int) (h : HP) (Q : Int → HP → Prop), R x1 x2 h Q → MT yX6_bestOf cX6_bestOf 5 (some .int) dR [vR 62, vI x1, vI x2] h (QI Q))) (hdR : dR + 2 ≤ dd) (hdB : 10 ≤ dR) {X : Cx} {x1 x2 : Int} {Q : Int → HP → Prop} (F : Fx X cX6_bestOf RX6 5 dd) (G : Rx X (some .int) (QI Q))  : ∀ (n : Nat) (h : HP) (x3 : Int) (x4 : Int), p6_bestOf_L21 R x1 x2 Q n h x3 x4 → AW X 5 21 [some (vR 62), some (vI x1), some (vI x2), some (vI x3), some (vI x4)] [] h := by
  intro n
  induction n with
  | zero => intro _ _ _ hb; exact hb.elim
  | succ n ih =>
    intro h x3 x4 hb
    unfold p6_bestOf_L21 at hb
    refine AW.iload (pn := 23) F dX6_bestOf_21 rfl rfl ?_
    refine AW.bipush (pn := 25) F dX6_bestOf_23 rfl (by decide) ?_
    refine AW.icmp_ge (pn := 28) (tg := 66) F dX6_bestOf_25 rfl (by decide) hb (fun hb => ?_) (fun hb => ?_)
    · refine AW.iload_n (pn := 67) F dX6_bestOf_66 rfl rfl rfl ?_
      exact AW.iret F G dX6_bestOf_67 ⟨_, rfl, hb⟩
    · refine AW.aload_n (pn := 29) F dX6_bestOf_28 rfl rfl rfl ?_
      refine AW.getR (r := 66) (pn := 32) F dX6_bestOf_29 rfl gl_X6_21 so_62 rfl ?_
      refine AW.iload (pn := 34) F dX6_bestOf_32 rfl rfl ?_
      refine AW.iald (pn := 35) F dX6_bestOf_34 rfl so_66 hb (fun v3 hb => ?_)
      refine AW.if_le (pn := 38) (tg := 60) F dX6_bestOf_35 rfl (by decide) hb (fun hb => ?_) (fun hb => ?_)
      · refine AW.iinc (ls2 := [some (vR 62), some (vI x1), some (vI x2), some (vI x3), some (vI (x4 + 1))]) (pn := 63) F dX6_bestOf_60 rfl rfl (by decide) rfl rfl ?_
        refine AW.goto (tg := 21) F dX6_bestOf_63 (by decide) ?_
        exact ih _ _ _ hb
      · refine AW.aload_n (pn := 39) F dX6_bestOf_38 rfl rfl rfl ?_
        refine AW.getR (r := 64) (pn := 42) F dX6_bestOf_39 rfl gl_X6_15 so_62 rfl ?_
        refine AW.iload_n (pn := 43) F dX6_bestOf_42 rfl rfl rfl ?_
        refine AW.iald (pn := 44) F dX6_bestOf_43 rfl so_64 hb (fun v4 hb => ?_)
        refine AW.if_le (pn := 47) (tg := 60) F dX6_bestOf_44 rfl (by decide) hb (fun hb => ?_) (fun hb => ?_)
        · refine AW.iinc (ls2 := [some (vR 62), some (vI x1), some (vI x2), some (vI x3), some (vI (x4 + 1))]) (pn := 63) F dX6_bestOf_60 rfl rfl (by decide) rfl rfl ?_
          refine AW.goto (tg := 21) F dX6_bestOf_63 (by decide) ?_
          exact ih _ _ _ hb
        · refine AW.iload_n (pn := 48) F dX6_bestOf_47 rfl rfl rfl ?_
          refine AW.aload_n (pn := 49) F dX6_bestOf_48 rfl rfl rfl ?_
          refine AW.iload (pn := 51) F dX6_bestOf_49 rfl rfl ?_
          refine AW.iload_n (pn := 52) F dX6_bestOf_51 rfl rfl rfl ?_
          refine AW.iload_n (pn := 53) F dX6_bestOf_52 rfl rfl rfl ?_
          refine AW.cVI (pn := 56) (st := [vI x3]) F dX6_bestOf_53 rfl cl_X6_70 so_62 (p6_valueOfTaking_62 (dd := dR + 1) hR (by omega) (by omega) x4 x1 x2 hb) rfl rfl (Nat.le_of_ble_eq_true rfl) (by omega) (fun r5 h6 hb => ?_)
          refine AW.mmax (pn := 59) F dX6_bestOf_56 rfl tw_745 tw_680 tw_10 tw_681 (by omega) (Nat.le_of_ble_eq_true rfl) ?_
          refine AW.istore_n (ls2 := [some (vR 62), some (vI x1), some (vI x2), some (vI (mx x3 r5)), some (vI x4)]) (pn := 60) F dX6_bestOf_59 rfl rfl (by decide) rfl rfl ?_
          refine AW.iinc (ls2 := [some (vR 62), some (vI x1), some (vI x2), some (vI (mx x3 r5)), some (vI (x4 + 1))]) (pn := 63) F dX6_bestOf_60 rfl rfl (by decide) rfl rfl ?_
          refine AW.goto (tg := 21) F dX6_bestOf_63 (by decide) ?_
          exact ih _ _ _ hb

theorem p6_bestOf_B_62 {R : Int → Int → HP → (Int → HP → Prop) → Prop} {dR dd : Nat} (hR : (∀ (x1 x2 : Int) (h : HP) (Q : Int → HP → Prop), R x1 x2 h Q → MT yX6_bestOf cX6_bestOf 5 (some .int) dR [vR 62, vI x1, vI x2] h (QI Q))) (hdR : dR + 2 ≤ dd) (hdB : 10 ≤ dR) (x1 x2 : Int) {h : HP} {Q : Int → HP → Prop} (hb : p6_bestOf_B R x1 x2 h Q) : MT yX6_bestOf cX6_bestOf 5 (some .int) dd [vR 62, vI x1, vI x2] h (QI Q) := by
  refine MT.of (own := RX6) (by decide) rfl (Nat.le_of_ble_eq_true rfl) rfl (fun X F G => ?_)
  unfold p6_bestOf_B at hb
  refine AW.iload_n (pn := 1) F dX6_bestOf_0 rfl rfl rfl ?_
  refine AW.if_gt (pn := 4) (tg := 6) F dX6_bestOf_1 rfl (by decide) hb (fun hb => ?_) (fun hb => ?_)
  · refine AW.aload_n (pn := 7) F dX6_bestOf_6 rfl rfl rfl ?_
    refine AW.iload_n (pn := 8) F dX6_bestOf_7 rfl rfl rfl ?_
    refine AW.iconst (pn := 9) F dX6_bestOf_8 rfl ?_
    refine AW.isub (pn := 10) F dX6_bestOf_9 rfl ?_
    refine AW.iconst (pn := 11) F dX6_bestOf_10 rfl ?_
    refine AW.iload_n (pn := 12) F dX6_bestOf_11 rfl rfl rfl ?_
    refine AW.isub (pn := 13) F dX6_bestOf_12 rfl ?_
    refine AW.cVI (pn := 16) (st := []) F dX6_bestOf_13 rfl cl_X6_66 so_62 (hR (x1 - 1) (1 - x2) _ _ hb) rfl rfl (Nat.le_of_ble_eq_true rfl) (by omega) (fun r1 h2 hb => ?_)
    refine AW.ineg (pn := 17) F dX6_bestOf_16 rfl ?_
    refine AW.istore_n (ls2 := [some (vR 62), some (vI x1), some (vI x2), some (vI (-r1)), none]) (pn := 18) F dX6_bestOf_17 rfl rfl (by decide) rfl rfl ?_
    refine AW.iconst (pn := 19) F dX6_bestOf_18 rfl ?_
    refine AW.istore (ls2 := [some (vR 62), some (vI x1), some (vI x2), some (vI (-r1)), some (vI 0)]) (pn := 21) F dX6_bestOf_19 rfl (by decide) rfl rfl ?_
    refine p6_bestOf_L21_ok_62 hR hdR hdB F G  _ _ _ _ hb
  · refine AW.iconst (pn := 5) F dX6_bestOf_4 rfl ?_
    exact AW.iret F G dX6_bestOf_5 ⟨_, rfl, hb⟩

theorem p6_bestOf_62 : ∀ (n : Nat) (x1 x2 : Int) {h : HP} {Q : Int → HP → Prop}, p6_bestOf n x1 x2 h Q → MT yX6_bestOf cX6_bestOf 5 (some .int) (10 + 2 * n) [vR 62, vI x1, vI x2] h (QI Q) := by
  intro n
  induction n with
  | zero => intro x1 x2 h Q hb; exact hb.elim
  | succ n ih =>
    intro x1 x2 h Q hb
    exact p6_bestOf_B_62 (fun x1 x2 h Q hb => ih x1 x2 hb) (by omega) (by omega) x1 x2 hb

theorem p6_playOut_L52_ok_62 {X : Cx} {x1 x2 : Int} {Q : Int → HP → Prop} (F : Fx X cX6_playOut RX6 7 28) (G : Rx X (some .int) (QI Q))  : ∀ (n : Nat) (h : HP) (x3 : Int) (x4 : Int), p6_playOut_L52 x1 x2 Q n h x3 x4 → AW X 7 52 [some (vR 62), some (vI x1), some (vI x2), some (vI x3), some (vI x4), none, none] [] h := by
  intro n
  induction n with
  | zero => intro _ _ _ hb; exact hb.elim
  | succ n ih =>
    intro h x3 x4 hb
    unfold p6_playOut_L52 at hb
    refine AW.iload (pn := 54) F dX6_playOut_52 rfl rfl ?_
    refine AW.bipush (pn := 56) F dX6_playOut_54 rfl (by decide) ?_
    refine AW.icmp_ge (pn := 59) (tg := 154) F dX6_playOut_56 rfl (by decide) hb (fun hb => ?_) (fun hb => ?_)
    · refine AW.iload_n (pn := 155) F dX6_playOut_154 rfl rfl rfl ?_
      refine AW.iload_n (pn := 156) F dX6_playOut_155 rfl rfl rfl ?_
      refine AW.iadd (pn := 157) F dX6_playOut_156 rfl ?_
      exact AW.iret F G dX6_playOut_157 ⟨_, rfl, hb⟩
    · refine AW.aload_n (pn := 60) F dX6_playOut_59 rfl rfl rfl ?_
      refine AW.getR (r := 66) (pn := 63) F dX6_playOut_60 rfl gl_X6_21 so_62 rfl ?_
      refine AW.iload (pn := 65) F dX6_playOut_63 rfl rfl ?_
      refine AW.iald (pn := 66) F dX6_playOut_65 rfl so_66 hb (fun v8 hb => ?_)
      refine AW.if_le (pn := 69) (tg := 148) F dX6_playOut_66 rfl (by decide) hb (fun hb => ?_) (fun hb => ?_)
      · refine AW.iinc (ls2 := [some (vR 62), some (vI x1), some (vI x2), some (vI x3), some (vI (x4 + 1)), none, none]) (pn := 151) F dX6_playOut_148 rfl rfl (by decide) rfl rfl ?_
        refine AW.goto (tg := 52) F dX6_playOut_151 (by decide) ?_
        exact ih _ _ _ hb
      · refine AW.aload_n (pn := 70) F dX6_playOut_69 rfl rfl rfl ?_
        refine AW.getR (r := 64) (pn := 73) F dX6_playOut_70 rfl gl_X6_15 so_62 rfl ?_
        refine AW.iconst (pn := 74) F dX6_playOut_73 rfl ?_
        refine AW.iald (pn := 75) F dX6_playOut_74 rfl so_64 hb (fun v9 hb => ?_)
        refine AW.if_le (pn := 78) (tg := 148) F dX6_playOut_75 rfl (by decide) hb (fun hb => ?_) (fun hb => ?_)
        · refine AW.iinc (ls2 := [some (vR 62), some (vI x1), some (vI x2), some (vI x3), some (vI (x4 + 1)), none, none]) (pn := 151) F dX6_playOut_148 rfl rfl (by decide) rfl rfl ?_
          refine AW.goto (tg := 52) F dX6_playOut_151 (by decide) ?_
          exact ih _ _ _ hb
        · refine AW.aload_n (pn := 79) F dX6_playOut_78 rfl rfl rfl ?_
          refine AW.iload (pn := 81) F dX6_playOut_79 rfl rfl ?_
          refine AW.iload_n (pn := 82) F dX6_playOut_81 rfl rfl rfl ?_
          refine AW.iconst (pn := 83) F dX6_playOut_82 rfl ?_
          refine AW.cVI (pn := 86) (st := []) F dX6_playOut_83 rfl cl_X6_70 so_62 (p6_valueOfTaking_62 (dR := 26) (dd := 27) (fun x1 x2 h Q hb => p6_bestOf_62 8 x1 x2 hb) (by decide) (by decide) x4 x1 0 hb) rfl rfl (Nat.le_of_ble_eq_true rfl) (by decide) (fun r10 h11 hb => ?_)
          refine AW.istore (ls2 := [some (vR 62), some (vI x1), some (vI x2), some (vI x3), some (vI x4), some (vI r10), none]) (pn := 88) F dX6_playOut_86 rfl (by decide) rfl rfl ?_
          refine AW.aload_n (pn := 89) F dX6_playOut_88 rfl rfl rfl ?_
          refine AW.getI (pn := 92) F dX6_playOut_89 rfl gl_X6_63 so_62 rfl ?_
          refine AW.iconst (pn := 93) F dX6_playOut_92 rfl ?_
          refine jn_1 hb (fun (y14 : Int) => AW X 7 115 [some (vR 62), some (vI x1), some (vI x2), some (vI x3), some (vI x4), some (vI r10), none] [vI y14] h11) (fun y14 hb => ?_) (fun K15 hK15 hb => ?_)
          · refine AW.istore (ls2 := [some (vR 62), some (vI x1), some (vI x2), some (vI x3), some (vI x4), some (vI r10), some (vI y14)]) (pn := 117) F dX6_playOut_115 rfl (by decide) rfl rfl ?_
            refine AW.iload (pn := 119) F dX6_playOut_117 rfl rfl ?_
            refine AW.iload_n (pn := 120) F dX6_playOut_119 rfl rfl rfl ?_
            refine jn_0 hb (AW X 7 134 [some (vR 62), some (vI x1), some (vI x2), none, some (vI x4), some (vI r10), none] [] h11) (fun  hb => ?_) (fun K16 hK16 hb => ?_)
            · refine AW.iload (pn := 136) F dX6_playOut_134 rfl rfl ?_
              refine AW.istore_n (ls2 := [some (vR 62), some (vI x1), some (vI x2), some (vI r10), some (vI x4), some (vI r10), none]) (pn := 137) F dX6_playOut_136 rfl rfl (by decide) rfl rfl ?_
              refine AW.aload_n (pn := 138) F dX6_playOut_137 rfl rfl rfl ?_
              refine AW.aload_n (pn := 139) F dX6_playOut_138 rfl rfl rfl ?_
              refine AW.getR (r := 67) (pn := 142) F dX6_playOut_139 rfl gl_X6_24 so_62 rfl ?_
              refine AW.iload (pn := 144) F dX6_playOut_142 rfl rfl ?_
              refine AW.iald (pn := 145) F dX6_playOut_144 rfl so_67 hb (fun v17 hb => ?_)
              refine AW.putI (pn := 148) F dX6_playOut_145 rfl pl_X6_63 so_62 rfl hb (fun h18 hb => ?_)
              refine AW.iinc (ls2 := [some (vR 62), some (vI x1), some (vI x2), some (vI r10), some (vI (x4 + 1)), some (vI r10), none]) (pn := 151) F dX6_playOut_148 rfl rfl (by decide) rfl rfl ?_
              refine AW.goto (tg := 52) F dX6_playOut_151 (by decide) ?_
              refine AW.drop [true, true, true, true, true, false, true] rfl ?_
              exact ih _ _ _ hb
            refine AW.icmp_gt (pn := 123) (tg := 134) F dX6_playOut_120 rfl (by decide) hb (fun hb => ?_) (fun hb => ?_)
            · refine AW.drop [true, true, true, false, true, true, false] rfl ?_
              exact hK16 hb
            · refine AW.iload (pn := 125) F dX6_playOut_123 rfl rfl ?_
              refine AW.iload_n (pn := 126) F dX6_playOut_125 rfl rfl rfl ?_
              refine AW.icmp_ne (pn := 129) (tg := 148) F dX6_playOut_126 rfl (by decide) hb (fun hb => ?_) (fun hb => ?_)
              · refine AW.iinc (ls2 := [some (vR 62), some (vI x1), some (vI x2), some (vI x3), some (vI (x4 + 1)), some (vI r10), some (vI y14)]) (pn := 151) F dX6_playOut_148 rfl rfl (by decide) rfl rfl ?_
                refine AW.goto (tg := 52) F dX6_playOut_151 (by decide) ?_
                refine AW.drop [true, true, true, true, true, false, false] rfl ?_
                exact ih _ _ _ hb
              · refine AW.iload (pn := 131) F dX6_playOut_129 rfl rfl ?_
                refine AW.if_eq (pn := 134) (tg := 148) F dX6_playOut_131 rfl (by decide) hb (fun hb => ?_) (fun hb => ?_)
                · refine AW.iinc (ls2 := [some (vR 62), some (vI x1), some (vI x2), some (vI x3), some (vI (x4 + 1)), some (vI r10), some (vI y14)]) (pn := 151) F dX6_playOut_148 rfl rfl (by decide) rfl rfl ?_
                  refine AW.goto (tg := 52) F dX6_playOut_151 (by decide) ?_
                  refine AW.drop [true, true, true, true, true, false, false] rfl ?_
                  exact ih _ _ _ hb
                · refine AW.drop [true, true, true, false, true, true, false] rfl ?_
                  exact hK16 hb
          refine jn_0 hb (AW X 7 114 [some (vR 62), some (vI x1), some (vI x2), some (vI x3), some (vI x4), some (vI r10), none] [] h11) (fun  hb => ?_) (fun K19 hK19 hb => ?_)
          · refine AW.iconst (pn := 115) F dX6_playOut_114 rfl ?_
            exact hK15 _ hb
          refine AW.icmp_eq (pn := 96) (tg := 114) F dX6_playOut_93 rfl (by decide) hb (fun hb => ?_) (fun hb => ?_)
          · exact hK19 hb
          · refine AW.aload_n (pn := 97) F dX6_playOut_96 rfl rfl rfl ?_
            refine AW.getR (r := 67) (pn := 100) F dX6_playOut_97 rfl gl_X6_24 so_62 rfl ?_
            refine AW.iload (pn := 102) F dX6_playOut_100 rfl rfl ?_
            refine AW.iald (pn := 103) F dX6_playOut_102 rfl so_67 hb (fun v20 hb => ?_)
            refine AW.aload_n (pn := 104) F dX6_playOut_103 rfl rfl rfl ?_
            refine AW.getI (pn := 107) F dX6_playOut_104 rfl gl_X6_63 so_62 rfl ?_
            refine AW.icmp_ge (pn := 110) (tg := 114) F dX6_playOut_107 rfl (by decide) hb (fun hb => ?_) (fun hb => ?_)
            · exact hK19 hb
            · refine AW.iconst (pn := 111) F dX6_playOut_110 rfl ?_
              refine AW.goto (tg := 115) F dX6_playOut_111 (by decide) ?_
              exact hK15 _ hb

theorem p6_playOut_62 (x1 : Int) {h : HP} {Q : Int → HP → Prop} (hb : p6_playOut x1 h Q) : MT yX6_playOut cX6_playOut 7 (some .int) 28 [vR 62, vI x1] h (QI Q) := by
  refine MT.of (own := RX6) (by decide) rfl (Nat.le_of_ble_eq_true rfl) rfl (fun X F G => ?_)
  unfold p6_playOut at hb
  refine AW.aload_n (pn := 1) F dX6_playOut_0 rfl rfl rfl ?_
  refine AW.getR (r := 13) (pn := 4) F dX6_playOut_1 rfl gl_X6_27 so_62 rfl ?_
  refine AW.aload_n (pn := 5) F dX6_playOut_4 rfl rfl rfl ?_
  refine AW.getR (r := 63) (pn := 8) F dX6_playOut_5 rfl gl_X6_9 so_62 rfl ?_
  refine AW.iconst (pn := 9) F dX6_playOut_8 rfl ?_
  refine AW.iald (pn := 10) F dX6_playOut_9 rfl so_63 hb (fun v1 hb => ?_)
  refine AW.cVP (pn := 13) (st := []) F dX6_playOut_10 rfl cl_X6_60 so_13 (p5_wealthOf_13 v1 hb) rfl rfl (Nat.le_of_ble_eq_true rfl) (by decide) (fun r2 hb => ?_)
  refine AW.aload_n (pn := 14) F dX6_playOut_13 rfl rfl rfl ?_
  refine AW.getR (r := 13) (pn := 17) F dX6_playOut_14 rfl gl_X6_27 so_62 rfl ?_
  refine AW.aload_n (pn := 18) F dX6_playOut_17 rfl rfl rfl ?_
  refine AW.getR (r := 63) (pn := 21) F dX6_playOut_18 rfl gl_X6_9 so_62 rfl ?_
  refine AW.iconst (pn := 22) F dX6_playOut_21 rfl ?_
  refine AW.iald (pn := 23) F dX6_playOut_22 rfl so_63 hb (fun v3 hb => ?_)
  refine AW.cVP (pn := 26) (st := [vI r2]) F dX6_playOut_23 rfl cl_X6_60 so_13 (p5_wealthOf_13 v3 hb) rfl rfl (Nat.le_of_ble_eq_true rfl) (by decide) (fun r4 hb => ?_)
  refine AW.isub (pn := 27) F dX6_playOut_26 rfl ?_
  refine AW.istore_n (ls2 := [some (vR 62), some (vI x1), some (vI (r2 - r4)), none, none, none, none]) (pn := 28) F dX6_playOut_27 rfl rfl (by decide) rfl rfl ?_
  refine AW.aload_n (pn := 29) F dX6_playOut_28 rfl rfl rfl ?_
  refine AW.iconst (pn := 30) F dX6_playOut_29 rfl ?_
  refine AW.putI (pn := 33) F dX6_playOut_30 rfl pl_X6_63 so_62 rfl hb (fun h5 hb => ?_)
  refine AW.iload_n (pn := 34) F dX6_playOut_33 rfl rfl rfl ?_
  refine AW.if_gt (pn := 37) (tg := 39) F dX6_playOut_34 rfl (by decide) hb (fun hb => ?_) (fun hb => ?_)
  · refine AW.aload_n (pn := 40) F dX6_playOut_39 rfl rfl rfl ?_
    refine AW.iload_n (pn := 41) F dX6_playOut_40 rfl rfl rfl ?_
    refine AW.iconst (pn := 42) F dX6_playOut_41 rfl ?_
    refine AW.isub (pn := 43) F dX6_playOut_42 rfl ?_
    refine AW.iconst (pn := 44) F dX6_playOut_43 rfl ?_
    refine AW.cVI (pn := 47) (st := []) F dX6_playOut_44 rfl cl_X6_66 so_62 (p6_bestOf_62 8 (x1 - 1) 1 hb) rfl rfl (Nat.le_of_ble_eq_true rfl) (by decide) (fun r6 h7 hb => ?_)
    refine AW.ineg (pn := 48) F dX6_playOut_47 rfl ?_
    refine AW.istore_n (ls2 := [some (vR 62), some (vI x1), some (vI (r2 - r4)), some (vI (-r6)), none, none, none]) (pn := 49) F dX6_playOut_48 rfl rfl (by decide) rfl rfl ?_
    refine AW.iconst (pn := 50) F dX6_playOut_49 rfl ?_
    refine AW.istore (ls2 := [some (vR 62), some (vI x1), some (vI (r2 - r4)), some (vI (-r6)), some (vI 0), none, none]) (pn := 52) F dX6_playOut_50 rfl (by decide) rfl rfl ?_
    refine p6_playOut_L52_ok_62 F G  _ _ _ _ hb
  · refine AW.iload_n (pn := 38) F dX6_playOut_37 rfl rfl rfl ?_
    exact AW.iret F G dX6_playOut_38 ⟨_, rfl, hb⟩

theorem p7_turnsAt_0 (x1 x2 x3 x4 x5 : Int) {h : HP} {Q : Int → HP → Prop} (hb : p7_turnsAt x1 x2 x3 x4 x5 h Q) : MT yX7_turnsAt cX7_turnsAt 7 (some .int) 29 [vR 0, vI x1, vI x2, vI x3, vI x4, vI x5] h (QI Q) := by
  refine MT.of (own := RX7) (by decide) rfl (Nat.le_of_ble_eq_true rfl) rfl (fun X F G => ?_)
  unfold p7_turnsAt at hb
  refine AW.aload_n (pn := 1) F dX7_turnsAt_0 rfl rfl rfl ?_
  refine AW.getR (r := 2) (pn := 4) F dX7_turnsAt_1 rfl gl_X7_20 so_0 rfl ?_
  refine AW.iload_n (pn := 5) F dX7_turnsAt_4 rfl rfl rfl ?_
  refine AW.cVP (pn := 8) (st := []) F dX7_turnsAt_5 rfl cl_X7_133 so_2 (p4_isHouse_2 x1 hb) rfl rfl (Nat.le_of_ble_eq_true rfl) (by decide) (fun r1 hb => ?_)
  refine AW.if_eq (pn := 11) (tg := 38) F dX7_turnsAt_8 rfl (by decide) hb (fun hb => ?_) (fun hb => ?_)
  · refine AW.ldc (x := (-1000000001)) (pn := 40) F dX7_turnsAt_38 rfl tw_493 (by decide) ?_
    exact AW.iret F G dX7_turnsAt_40 ⟨_, rfl, hb⟩
  · refine AW.aload_n (pn := 12) F dX7_turnsAt_11 rfl rfl rfl ?_
    refine AW.getR (r := 2) (pn := 15) F dX7_turnsAt_12 rfl gl_X7_20 so_0 rfl ?_
    refine AW.iload_n (pn := 16) F dX7_turnsAt_15 rfl rfl rfl ?_
    refine AW.cVP (pn := 19) (st := []) F dX7_turnsAt_16 rfl cl_X7_133 so_2 (p4_isHouse_2 x2 hb) rfl rfl (Nat.le_of_ble_eq_true rfl) (by decide) (fun r2 hb => ?_)
    refine AW.if_eq (pn := 22) (tg := 38) F dX7_turnsAt_19 rfl (by decide) hb (fun hb => ?_) (fun hb => ?_)
    · refine AW.ldc (x := (-1000000001)) (pn := 40) F dX7_turnsAt_38 rfl tw_493 (by decide) ?_
      exact AW.iret F G dX7_turnsAt_40 ⟨_, rfl, hb⟩
    · refine AW.iload_n (pn := 23) F dX7_turnsAt_22 rfl rfl rfl ?_
      refine AW.iconst (pn := 24) F dX7_turnsAt_23 rfl ?_
      refine jn_0 hb (AW X 7 41 [some (vR 0), some (vI x1), some (vI x2), some (vI x3), some (vI x4), some (vI x5), none] [] h) (fun  hb => ?_) (fun K4 hK4 hb => ?_)
      · refine AW.iload_n (pn := 42) F dX7_turnsAt_41 rfl rfl rfl ?_
        refine AW.iload_n (pn := 43) F dX7_turnsAt_42 rfl rfl rfl ?_
        refine AW.icmp_eq (pn := 46) (tg := 56) F dX7_turnsAt_43 rfl (by decide) hb (fun hb => ?_) (fun hb => ?_)
        · refine AW.ldc (x := (-1000000001)) (pn := 58) F dX7_turnsAt_56 rfl tw_493 (by decide) ?_
          exact AW.iret F G dX7_turnsAt_58 ⟨_, rfl, hb⟩
        · refine AW.iload_n (pn := 47) F dX7_turnsAt_46 rfl rfl rfl ?_
          refine AW.iload_n (pn := 48) F dX7_turnsAt_47 rfl rfl rfl ?_
          refine AW.icmp_eq (pn := 51) (tg := 56) F dX7_turnsAt_48 rfl (by decide) hb (fun hb => ?_) (fun hb => ?_)
          · refine AW.ldc (x := (-1000000001)) (pn := 58) F dX7_turnsAt_56 rfl tw_493 (by decide) ?_
            exact AW.iret F G dX7_turnsAt_58 ⟨_, rfl, hb⟩
          · refine AW.iload_n (pn := 52) F dX7_turnsAt_51 rfl rfl rfl ?_
            refine AW.iload_n (pn := 53) F dX7_turnsAt_52 rfl rfl rfl ?_
            refine AW.icmp_ne (pn := 56) (tg := 59) F dX7_turnsAt_53 rfl (by decide) hb (fun hb => ?_) (fun hb => ?_)
            · refine AW.iload (pn := 61) F dX7_turnsAt_59 rfl rfl ?_
              refine AW.if_lt (pn := 64) (tg := 81) F dX7_turnsAt_61 rfl (by decide) hb (fun hb => ?_) (fun hb => ?_)
              · refine AW.ldc (x := (-1000000002)) (pn := 83) F dX7_turnsAt_81 rfl tw_329 (by decide) ?_
                exact AW.iret F G dX7_turnsAt_83 ⟨_, rfl, hb⟩
              · refine AW.iload (pn := 66) F dX7_turnsAt_64 rfl rfl ?_
                refine AW.iconst (pn := 67) F dX7_turnsAt_66 rfl ?_
                refine AW.icmp_gt (pn := 70) (tg := 81) F dX7_turnsAt_67 rfl (by decide) hb (fun hb => ?_) (fun hb => ?_)
                · refine AW.ldc (x := (-1000000002)) (pn := 83) F dX7_turnsAt_81 rfl tw_329 (by decide) ?_
                  exact AW.iret F G dX7_turnsAt_83 ⟨_, rfl, hb⟩
                · refine AW.iload (pn := 72) F dX7_turnsAt_70 rfl rfl ?_
                  refine AW.if_lt (pn := 75) (tg := 81) F dX7_turnsAt_72 rfl (by decide) hb (fun hb => ?_) (fun hb => ?_)
                  · refine AW.ldc (x := (-1000000002)) (pn := 83) F dX7_turnsAt_81 rfl tw_329 (by decide) ?_
                    exact AW.iret F G dX7_turnsAt_83 ⟨_, rfl, hb⟩
                  · refine AW.iload (pn := 77) F dX7_turnsAt_75 rfl rfl ?_
                    refine AW.iconst (pn := 78) F dX7_turnsAt_77 rfl ?_
                    refine AW.icmp_le (pn := 81) (tg := 84) F dX7_turnsAt_78 rfl (by decide) hb (fun hb => ?_) (fun hb => ?_)
                    · refine AW.aload_n (pn := 85) F dX7_turnsAt_84 rfl rfl rfl ?_
                      refine AW.getR (r := 62) (pn := 88) F dX7_turnsAt_85 rfl gl_X7_82 so_0 rfl ?_
                      refine AW.iload_n (pn := 89) F dX7_turnsAt_88 rfl rfl rfl ?_
                      refine AW.iload_n (pn := 90) F dX7_turnsAt_89 rfl rfl rfl ?_
                      refine AW.iload_n (pn := 91) F dX7_turnsAt_90 rfl rfl rfl ?_
                      refine AW.cVV (pn := 94) (st := []) F dX7_turnsAt_91 rfl cl_X7_232 so_62 (p6_setUp_62 x1 x2 x3 hb) rfl rfl (Nat.le_of_ble_eq_true rfl) (by decide) (fun h5 hb => ?_)
                      refine AW.aload_n (pn := 95) F dX7_turnsAt_94 rfl rfl rfl ?_
                      refine AW.getR (r := 62) (pn := 98) F dX7_turnsAt_95 rfl gl_X7_82 so_0 rfl ?_
                      refine AW.iload (pn := 100) F dX7_turnsAt_98 rfl rfl ?_
                      refine AW.cVI (pn := 103) (st := []) F dX7_turnsAt_100 rfl cl_X7_236 so_62 (p6_playOut_62 x4 hb) rfl rfl (Nat.le_of_ble_eq_true rfl) (by decide) (fun r6 h7 hb => ?_)
                      refine AW.istore (ls2 := [some (vR 0), some (vI x1), some (vI x2), some (vI x3), some (vI x4), some (vI x5), some (vI r6)]) (pn := 105) F dX7_turnsAt_103 rfl (by decide) rfl rfl ?_
                      refine AW.iload (pn := 107) F dX7_turnsAt_105 rfl rfl ?_
                      refine AW.if_ne (pn := 110) (tg := 115) F dX7_turnsAt_107 rfl (by decide) hb (fun hb => ?_) (fun hb => ?_)
                      · refine AW.aload_n (pn := 116) F dX7_turnsAt_115 rfl rfl rfl ?_
                        refine AW.getR (r := 62) (pn := 119) F dX7_turnsAt_116 rfl gl_X7_82 so_0 rfl ?_
                        refine AW.getI (pn := 122) F dX7_turnsAt_119 rfl gl_X7_239 so_62 rfl ?_
                        exact AW.iret F G dX7_turnsAt_122 ⟨_, rfl, hb⟩
                      · refine AW.iload (pn := 112) F dX7_turnsAt_110 rfl rfl ?_
                        refine AW.goto (tg := 122) F dX7_turnsAt_112 (by decide) ?_
                        exact AW.iret F G dX7_turnsAt_122 ⟨_, rfl, hb⟩
                    · refine AW.ldc (x := (-1000000002)) (pn := 83) F dX7_turnsAt_81 rfl tw_329 (by decide) ?_
                      exact AW.iret F G dX7_turnsAt_83 ⟨_, rfl, hb⟩
            · refine AW.ldc (x := (-1000000001)) (pn := 58) F dX7_turnsAt_56 rfl tw_493 (by decide) ?_
              exact AW.iret F G dX7_turnsAt_58 ⟨_, rfl, hb⟩
      refine AW.icmp_eq (pn := 27) (tg := 41) F dX7_turnsAt_24 rfl (by decide) hb (fun hb => ?_) (fun hb => ?_)
      · exact hK4 hb
      · refine AW.aload_n (pn := 28) F dX7_turnsAt_27 rfl rfl rfl ?_
        refine AW.getR (r := 2) (pn := 31) F dX7_turnsAt_28 rfl gl_X7_20 so_0 rfl ?_
        refine AW.iload_n (pn := 32) F dX7_turnsAt_31 rfl rfl rfl ?_
        refine AW.cVP (pn := 35) (st := []) F dX7_turnsAt_32 rfl cl_X7_133 so_2 (p4_isHouse_2 x3 hb) rfl rfl (Nat.le_of_ble_eq_true rfl) (by decide) (fun r8 hb => ?_)
        refine AW.if_ne (pn := 38) (tg := 41) F dX7_turnsAt_35 rfl (by decide) hb (fun hb => ?_) (fun hb => ?_)
        · exact hK4 hb
        · refine AW.ldc (x := (-1000000001)) (pn := 40) F dX7_turnsAt_38 rfl tw_493 (by decide) ?_
          exact AW.iret F G dX7_turnsAt_40 ⟨_, rfl, hb⟩

theorem p0_enter_47 (x1 x2 x3 : Int) {h : HP} {Q : Int → HP → Prop} (hb : p0_enter x1 x2 x3 h Q) : MT yX0_enter cX0_enter 4 (some .boolean) 1 [vR 47, vI x1, vI x2, vI x3] h (QI Q) := by
  refine MT.of (own := RX0) (by decide) rfl (Nat.le_of_ble_eq_true rfl) rfl (fun X F G => ?_)
  unfold p0_enter at hb
  refine AW.aload_n (pn := 1) F dX0_enter_0 rfl rfl rfl ?_
  refine AW.getI (pn := 4) F dX0_enter_1 rfl gl_X0_22 so_47 rfl ?_
  refine AW.bipush (pn := 6) F dX0_enter_4 rfl (by decide) ?_
  refine AW.icmp_lt (pn := 9) (tg := 11) F dX0_enter_6 rfl (by decide) hb (fun hb => ?_) (fun hb => ?_)
  · refine AW.aload_n (pn := 12) F dX0_enter_11 rfl rfl rfl ?_
    refine AW.getR (r := 48) (pn := 15) F dX0_enter_12 rfl gl_X0_9 so_47 rfl ?_
    refine AW.aload_n (pn := 16) F dX0_enter_15 rfl rfl rfl ?_
    refine AW.getI (pn := 19) F dX0_enter_16 rfl gl_X0_22 so_47 rfl ?_
    refine AW.iload_n (pn := 20) F dX0_enter_19 rfl rfl rfl ?_
    refine AW.iast (pn := 21) F dX0_enter_20 rfl so_48 hb (fun h1 hb => ?_)
    refine AW.aload_n (pn := 22) F dX0_enter_21 rfl rfl rfl ?_
    refine AW.getR (r := 49) (pn := 25) F dX0_enter_22 rfl gl_X0_15 so_47 rfl ?_
    refine AW.aload_n (pn := 26) F dX0_enter_25 rfl rfl rfl ?_
    refine AW.getI (pn := 29) F dX0_enter_26 rfl gl_X0_22 so_47 rfl ?_
    refine AW.iload_n (pn := 30) F dX0_enter_29 rfl rfl rfl ?_
    refine AW.iast (pn := 31) F dX0_enter_30 rfl so_49 hb (fun h2 hb => ?_)
    refine AW.aload_n (pn := 32) F dX0_enter_31 rfl rfl rfl ?_
    refine AW.getR (r := 50) (pn := 35) F dX0_enter_32 rfl gl_X0_18 so_47 rfl ?_
    refine AW.aload_n (pn := 36) F dX0_enter_35 rfl rfl rfl ?_
    refine AW.getI (pn := 39) F dX0_enter_36 rfl gl_X0_22 so_47 rfl ?_
    refine AW.iload_n (pn := 40) F dX0_enter_39 rfl rfl rfl ?_
    refine AW.zast (pn := 41) F dX0_enter_40 rfl so_50 hb (fun h3 hb => ?_)
    refine AW.aload_n (pn := 42) F dX0_enter_41 rfl rfl rfl ?_
    refine AW.dupR (pn := 43) F dX0_enter_42 rfl ?_
    refine AW.getI (pn := 46) F dX0_enter_43 rfl gl_X0_22 so_47 rfl ?_
    refine AW.iconst (pn := 47) F dX0_enter_46 rfl ?_
    refine AW.iadd (pn := 48) F dX0_enter_47 rfl ?_
    refine AW.putI (pn := 51) F dX0_enter_48 rfl pl_X0_22 so_47 rfl hb (fun h4 hb => ?_)
    refine AW.iconst (pn := 52) F dX0_enter_51 rfl ?_
    exact AW.zret F G dX0_enter_52 (by decide) ⟨_, rfl, hb⟩
  · refine AW.iconst (pn := 10) F dX0_enter_9 rfl ?_
    exact AW.zret F G dX0_enter_10 (by decide) ⟨_, rfl, hb⟩

theorem p7_write_0 (x1 x2 x3 : Int) {h : HP} {Q : Int → HP → Prop} (hb : p7_write x1 x2 x3 h Q) : MT yX7_write cX7_write 4 (some .int) 2 [vR 0, vI x1, vI x2, vI x3] h (QI Q) := by
  refine MT.of (own := RX7) (by decide) rfl (Nat.le_of_ble_eq_true rfl) rfl (fun X F G => ?_)
  unfold p7_write at hb
  refine AW.aload_n (pn := 1) F dX7_write_0 rfl rfl rfl ?_
  refine AW.getR (r := 2) (pn := 4) F dX7_write_1 rfl gl_X7_20 so_0 rfl ?_
  refine AW.iload_n (pn := 5) F dX7_write_4 rfl rfl rfl ?_
  refine AW.cVP (pn := 8) (st := []) F dX7_write_5 rfl cl_X7_133 so_2 (p4_isHouse_2 x1 hb) rfl rfl (Nat.le_of_ble_eq_true rfl) (by decide) (fun r1 hb => ?_)
  refine AW.if_eq (pn := 11) (tg := 22) F dX7_write_8 rfl (by decide) hb (fun hb => ?_) (fun hb => ?_)
  · refine AW.ldc (x := (-1000000001)) (pn := 24) F dX7_write_22 rfl tw_493 (by decide) ?_
    exact AW.iret F G dX7_write_24 ⟨_, rfl, hb⟩
  · refine AW.aload_n (pn := 12) F dX7_write_11 rfl rfl rfl ?_
    refine AW.getR (r := 13) (pn := 15) F dX7_write_12 rfl gl_X7_41 so_0 rfl ?_
    refine AW.iload_n (pn := 16) F dX7_write_15 rfl rfl rfl ?_
    refine AW.cVP (pn := 19) (st := []) F dX7_write_16 rfl cl_X7_160 so_13 (p5_isPart_13 x2 hb) rfl rfl (Nat.le_of_ble_eq_true rfl) (by decide) (fun r2 hb => ?_)
    refine AW.if_ne (pn := 22) (tg := 25) F dX7_write_19 rfl (by decide) hb (fun hb => ?_) (fun hb => ?_)
    · refine AW.aload_n (pn := 26) F dX7_write_25 rfl rfl rfl ?_
      refine AW.getR (r := 47) (pn := 29) F dX7_write_26 rfl gl_X7_59 so_0 rfl ?_
      refine AW.iload_n (pn := 30) F dX7_write_29 rfl rfl rfl ?_
      refine AW.iload_n (pn := 31) F dX7_write_30 rfl rfl rfl ?_
      refine AW.iload_n (pn := 32) F dX7_write_31 rfl rfl rfl ?_
      refine AW.cVI (pn := 35) (st := []) F dX7_write_32 rfl cl_X7_242 so_47 (p0_enter_47 x1 x2 x3 hb) rfl rfl (Nat.le_of_ble_eq_true rfl) (by decide) (fun r3 h4 hb => ?_)
      refine AW.if_eq (pn := 38) (tg := 48) F dX7_write_35 rfl (by decide) hb (fun hb => ?_) (fun hb => ?_)
      · refine AW.ldc (x := (-1000000004)) (pn := 50) F dX7_write_48 rfl tw_330 (by decide) ?_
        exact AW.iret F G dX7_write_50 ⟨_, rfl, hb⟩
      · refine AW.aload_n (pn := 39) F dX7_write_38 rfl rfl rfl ?_
        refine AW.getR (r := 47) (pn := 42) F dX7_write_39 rfl gl_X7_59 so_0 rfl ?_
        refine AW.getI (pn := 45) F dX7_write_42 rfl gl_X7_111 so_47 rfl ?_
        refine AW.goto (tg := 50) F dX7_write_45 (by decide) ?_
        exact AW.iret F G dX7_write_50 ⟨_, rfl, hb⟩
    · refine AW.ldc (x := (-1000000001)) (pn := 24) F dX7_write_22 rfl tw_493 (by decide) ?_
      exact AW.iret F G dX7_write_24 ⟨_, rfl, hb⟩

theorem p7_tear_0  {h : HP} {Q : Int → HP → Prop} (hb : p7_tear  h Q) : MT yX7_tear cX7_tear 2 (some .int) 1 [vR 0] h (QI Q) := by
  refine MT.of (own := RX7) (by decide) rfl (Nat.le_of_ble_eq_true rfl) rfl (fun X F G => ?_)
  unfold p7_tear at hb
  refine AW.aload_n (pn := 1) F dX7_tear_0 rfl rfl rfl ?_
  refine AW.getR (r := 47) (pn := 4) F dX7_tear_1 rfl gl_X7_59 so_0 rfl ?_
  refine AW.getI (pn := 7) F dX7_tear_4 rfl gl_X7_111 so_47 rfl ?_
  refine AW.istore_n (ls2 := [some (vR 0), some (vI (h 47 0))]) (pn := 8) F dX7_tear_7 rfl rfl (by decide) rfl rfl ?_
  refine AW.aload_n (pn := 9) F dX7_tear_8 rfl rfl rfl ?_
  refine AW.getR (r := 47) (pn := 12) F dX7_tear_9 rfl gl_X7_59 so_0 rfl ?_
  refine AW.iconst (pn := 13) F dX7_tear_12 rfl ?_
  refine AW.putI (pn := 16) F dX7_tear_13 rfl pl_X7_111 so_47 rfl hb (fun h1 hb => ?_)
  refine AW.iload_n (pn := 17) F dX7_tear_16 rfl rfl rfl ?_
  exact AW.iret F G dX7_tear_17 ⟨_, rfl, hb⟩

theorem p5_isPart_21 (x1 : Int) {h : HP} {Q : Int → Prop} (hb : p5_isPart 21 x1 h Q) : MT yX5_isPart cX5_isPart 2 (some .boolean) 1 [vR 21, vI x1] h (QP h Q) := by
  refine MT.of (own := RX5) (by decide) rfl (Nat.le_of_ble_eq_true rfl) rfl (fun X F G => ?_)
  unfold p5_isPart at hb
  refine AW.iload_n (pn := 1) F dX5_isPart_0 rfl rfl rfl ?_
  refine AW.if_lt (pn := 4) (tg := 16) F dX5_isPart_1 rfl (by decide) hb (fun hb => ?_) (fun hb => ?_)
  · refine AW.iconst (pn := 17) F dX5_isPart_16 rfl ?_
    exact AW.zret F G dX5_isPart_17 (by decide) ⟨rfl, _, rfl, hb⟩
  · refine AW.iload_n (pn := 5) F dX5_isPart_4 rfl rfl rfl ?_
    refine AW.aload_n (pn := 6) F dX5_isPart_5 rfl rfl rfl ?_
    refine AW.getI (pn := 9) F dX5_isPart_6 rfl gl_X5_37 so_21 rfl ?_
    refine AW.icmp_ge (pn := 12) (tg := 16) F dX5_isPart_9 rfl (by decide) hb (fun hb => ?_) (fun hb => ?_)
    · refine AW.iconst (pn := 17) F dX5_isPart_16 rfl ?_
      exact AW.zret F G dX5_isPart_17 (by decide) ⟨rfl, _, rfl, hb⟩
    · refine AW.iconst (pn := 13) F dX5_isPart_12 rfl ?_
      refine AW.goto (tg := 17) F dX5_isPart_13 (by decide) ?_
      exact AW.zret F G dX5_isPart_17 (by decide) ⟨rfl, _, rfl, hb⟩

theorem p0_firstWrong_L2_ok_47_21 {X : Cx} {Q : Int → HP → Prop} (F : Fx X cX0_firstWrong RX0 4 4) (G : Rx X (some .int) (QI Q))  : ∀ (n : Nat) (h : HP) (x2 : Int), p0_firstWrong_L2 Q n h x2 → AW X 4 2 [some (vR 47), some (vR 21), some (vI x2), none] [] h := by
  intro n
  induction n with
  | zero => intro _ _ hb; exact hb.elim
  | succ n ih =>
    intro h x2 hb
    unfold p0_firstWrong_L2 at hb
    refine AW.iload_n (pn := 3) F dX0_firstWrong_2 rfl rfl rfl ?_
    refine AW.aload_n (pn := 4) F dX0_firstWrong_3 rfl rfl rfl ?_
    refine AW.getI (pn := 7) F dX0_firstWrong_4 rfl gl_X0_22 so_47 rfl ?_
    refine AW.icmp_ge (pn := 10) (tg := 82) F dX0_firstWrong_7 rfl (by decide) hb (fun hb => ?_) (fun hb => ?_)
    · refine AW.iconst (pn := 83) F dX0_firstWrong_82 rfl ?_
      exact AW.iret F G dX0_firstWrong_83 ⟨_, rfl, hb⟩
    · refine AW.aload_n (pn := 11) F dX0_firstWrong_10 rfl rfl rfl ?_
      refine AW.aload_n (pn := 12) F dX0_firstWrong_11 rfl rfl rfl ?_
      refine AW.getR (r := 49) (pn := 15) F dX0_firstWrong_12 rfl gl_X0_15 so_47 rfl ?_
      refine AW.iload_n (pn := 16) F dX0_firstWrong_15 rfl rfl rfl ?_
      refine AW.iald (pn := 17) F dX0_firstWrong_16 rfl so_49 hb (fun v1 hb => ?_)
      refine AW.cVP (pn := 20) (st := []) F dX0_firstWrong_17 rfl cl_X0_26 so_21 (p5_isPart_21 v1 hb) rfl rfl (Nat.le_of_ble_eq_true rfl) (by decide) (fun r2 hb => ?_)
      refine AW.if_ne (pn := 23) (tg := 25) F dX0_firstWrong_20 rfl (by decide) hb (fun hb => ?_) (fun hb => ?_)
      · refine AW.aload_n (pn := 26) F dX0_firstWrong_25 rfl rfl rfl ?_
        refine AW.getR (r := 50) (pn := 29) F dX0_firstWrong_26 rfl gl_X0_18 so_47 rfl ?_
        refine AW.iload_n (pn := 30) F dX0_firstWrong_29 rfl rfl rfl ?_
        refine AW.zald (pn := 31) F dX0_firstWrong_30 rfl so_50 hb (fun v3 hb => ?_)
        refine jn_2 hb (fun (y14 : Int) (h15 : HP) => AW X 4 69 [some (vR 47), some (vR 21), some (vI x2), none] [vI y14] h15) (fun y14 h15 hb => ?_) (fun K16 hK16 hb => ?_)
        · refine AW.istore_n (ls2 := [some (vR 47), some (vR 21), some (vI x2), some (vI y14)]) (pn := 70) F dX0_firstWrong_69 rfl rfl (by decide) rfl rfl ?_
          refine AW.iload_n (pn := 71) F dX0_firstWrong_70 rfl rfl rfl ?_
          refine AW.if_ne (pn := 74) (tg := 76) F dX0_firstWrong_71 rfl (by decide) hb (fun hb => ?_) (fun hb => ?_)
          · refine AW.iinc (ls2 := [some (vR 47), some (vR 21), some (vI (x2 + 1)), some (vI y14)]) (pn := 79) F dX0_firstWrong_76 rfl rfl (by decide) rfl rfl ?_
            refine AW.goto (tg := 2) F dX0_firstWrong_79 (by decide) ?_
            refine AW.drop [true, true, true, false] rfl ?_
            exact ih _ _ hb
          · refine AW.iload_n (pn := 75) F dX0_firstWrong_74 rfl rfl rfl ?_
            exact AW.iret F G dX0_firstWrong_75 ⟨_, rfl, hb⟩
        refine AW.if_eq (pn := 34) (tg := 53) F dX0_firstWrong_31 rfl (by decide) hb (fun hb => ?_) (fun hb => ?_)
        · refine AW.aload_n (pn := 54) F dX0_firstWrong_53 rfl rfl rfl ?_
          refine AW.aload_n (pn := 55) F dX0_firstWrong_54 rfl rfl rfl ?_
          refine AW.getR (r := 48) (pn := 58) F dX0_firstWrong_55 rfl gl_X0_9 so_47 rfl ?_
          refine AW.iload_n (pn := 59) F dX0_firstWrong_58 rfl rfl rfl ?_
          refine AW.iald (pn := 60) F dX0_firstWrong_59 rfl so_48 hb (fun v17 hb => ?_)
          refine AW.aload_n (pn := 61) F dX0_firstWrong_60 rfl rfl rfl ?_
          refine AW.getR (r := 49) (pn := 64) F dX0_firstWrong_61 rfl gl_X0_15 so_47 rfl ?_
          refine AW.iload_n (pn := 65) F dX0_firstWrong_64 rfl rfl rfl ?_
          refine AW.iald (pn := 66) F dX0_firstWrong_65 rfl so_49 hb (fun v18 hb => ?_)
          refine AW.cVI (pn := 69) (st := []) F dX0_firstWrong_66 rfl cl_X0_36 so_21 (p5_throwOut_21 v17 v18 hb) rfl rfl (Nat.le_of_ble_eq_true rfl) (by decide) (fun r19 h20 hb => ?_)
          exact hK16 _ _ hb
        · refine AW.aload_n (pn := 35) F dX0_firstWrong_34 rfl rfl rfl ?_
          refine AW.aload_n (pn := 36) F dX0_firstWrong_35 rfl rfl rfl ?_
          refine AW.getR (r := 48) (pn := 39) F dX0_firstWrong_36 rfl gl_X0_9 so_47 rfl ?_
          refine AW.iload_n (pn := 40) F dX0_firstWrong_39 rfl rfl rfl ?_
          refine AW.iald (pn := 41) F dX0_firstWrong_40 rfl so_48 hb (fun v21 hb => ?_)
          refine AW.aload_n (pn := 42) F dX0_firstWrong_41 rfl rfl rfl ?_
          refine AW.getR (r := 49) (pn := 45) F dX0_firstWrong_42 rfl gl_X0_15 so_47 rfl ?_
          refine AW.iload_n (pn := 46) F dX0_firstWrong_45 rfl rfl rfl ?_
          refine AW.iald (pn := 47) F dX0_firstWrong_46 rfl so_49 hb (fun v22 hb => ?_)
          refine AW.cVI (pn := 50) (st := []) F dX0_firstWrong_47 rfl cl_X0_32 so_21 (p5_carryHome_21 v21 v22 hb) rfl rfl (Nat.le_of_ble_eq_true rfl) (by decide) (fun r23 h24 hb => ?_)
          refine AW.goto (tg := 69) F dX0_firstWrong_50 (by decide) ?_
          exact hK16 _ _ hb
      · refine AW.iload_n (pn := 24) F dX0_firstWrong_23 rfl rfl rfl ?_
        exact AW.iret F G dX0_firstWrong_24 ⟨_, rfl, hb⟩

theorem p0_firstWrong_47_21  {h : HP} {Q : Int → HP → Prop} (hb : p0_firstWrong  h Q) : MT yX0_firstWrong cX0_firstWrong 4 (some .int) 4 [vR 47, vR 21] h (QI Q) := by
  refine MT.of (own := RX0) (by decide) rfl (Nat.le_of_ble_eq_true rfl) rfl (fun X F G => ?_)
  unfold p0_firstWrong at hb
  refine AW.iconst (pn := 1) F dX0_firstWrong_0 rfl ?_
  refine AW.istore_n (ls2 := [some (vR 47), some (vR 21), some (vI 0), none]) (pn := 2) F dX0_firstWrong_1 rfl rfl (by decide) rfl rfl ?_
  refine p0_firstWrong_L2_ok_47_21 F G  _ _ _ hb

theorem p7_judge_0  {h : HP} {Q : Int → HP → Prop} (hb : p7_judge  h Q) : MT yX7_judge cX7_judge 1 (some .int) 5 [vR 0] h (QI Q) := by
  refine MT.of (own := RX7) (by decide) rfl (Nat.le_of_ble_eq_true rfl) rfl (fun X F G => ?_)
  unfold p7_judge at hb
  refine AW.aload_n (pn := 1) F dX7_judge_0 rfl rfl rfl ?_
  refine AW.getR (r := 21) (pn := 4) F dX7_judge_1 rfl gl_X7_45 so_0 rfl ?_
  refine AW.aload_n (pn := 5) F dX7_judge_4 rfl rfl rfl ?_
  refine AW.getR (r := 13) (pn := 8) F dX7_judge_5 rfl gl_X7_41 so_0 rfl ?_
  refine AW.cVV (pn := 11) (st := []) F dX7_judge_8 rfl cl_X7_206 so_21 (p5_copyFrom_21_13  hb) rfl rfl (Nat.le_of_ble_eq_true rfl) (by decide) (fun h1 hb => ?_)
  refine AW.aload_n (pn := 12) F dX7_judge_11 rfl rfl rfl ?_
  refine AW.getR (r := 47) (pn := 15) F dX7_judge_12 rfl gl_X7_59 so_0 rfl ?_
  refine AW.aload_n (pn := 16) F dX7_judge_15 rfl rfl rfl ?_
  refine AW.getR (r := 21) (pn := 19) F dX7_judge_16 rfl gl_X7_45 so_0 rfl ?_
  refine AW.cVI (pn := 22) (st := []) F dX7_judge_19 rfl cl_X7_246 so_47 (p0_firstWrong_47_21  hb) rfl rfl (Nat.le_of_ble_eq_true rfl) (by decide) (fun r2 h3 hb => ?_)
  exact AW.iret F G dX7_judge_22 ⟨_, rfl, hb⟩

theorem p7_seed_0 (x1 : Int) {h : HP} {Q : Int → HP → Prop} (hb : p7_seed x1 h Q) : MT yX7_seed cX7_seed 3 (some .int) 1 [vR 0, vI x1] h (QI Q) := by
  refine MT.of (own := RX7) (by decide) rfl (Nat.le_of_ble_eq_true rfl) rfl (fun X F G => ?_)
  unfold p7_seed at hb
  refine AW.iload_n (pn := 1) F dX7_seed_0 rfl rfl rfl ?_
  refine AW.if_ge (pn := 4) (tg := 7) F dX7_seed_1 rfl (by decide) hb (fun hb => ?_) (fun hb => ?_)
  · refine AW.aload_n (pn := 8) F dX7_seed_7 rfl rfl rfl ?_
    refine AW.getR (r := 13) (pn := 11) F dX7_seed_8 rfl gl_X7_41 so_0 rfl ?_
    refine AW.getI (pn := 14) F dX7_seed_11 rfl gl_X7_250 so_13 rfl ?_
    refine AW.istore_n (ls2 := [some (vR 0), some (vI x1), some (vI (h 13 3))]) (pn := 15) F dX7_seed_14 rfl rfl (by decide) rfl rfl ?_
    refine AW.aload_n (pn := 16) F dX7_seed_15 rfl rfl rfl ?_
    refine AW.getR (r := 13) (pn := 19) F dX7_seed_16 rfl gl_X7_41 so_0 rfl ?_
    refine AW.iload_n (pn := 20) F dX7_seed_19 rfl rfl rfl ?_
    refine AW.putI (pn := 23) F dX7_seed_20 rfl pl_X7_250 so_13 rfl hb (fun h1 hb => ?_)
    refine AW.iload_n (pn := 24) F dX7_seed_23 rfl rfl rfl ?_
    exact AW.iret F G dX7_seed_24 ⟨_, rfl, hb⟩
  · refine AW.ldc (x := (-1000000002)) (pn := 6) F dX7_seed_4 rfl tw_329 (by decide) ?_
    exact AW.iret F G dX7_seed_6 ⟨_, rfl, hb⟩

theorem p5_copyFrom_30_13  {h : HP} {Q : HP → Prop} (hb : p5_copyFrom 30 13 h Q) : MT yX5_copyFrom cX5_copyFrom 2 none 1 [vR 30, vR 13] h (QV Q) := by
  refine MT.of (own := RX5) (by decide) rfl (Nat.le_of_ble_eq_true rfl) rfl (fun X F G => ?_)
  unfold p5_copyFrom at hb
  refine AW.aload_n (pn := 1) F dX5_copyFrom_0 rfl rfl rfl ?_
  refine AW.aload_n (pn := 2) F dX5_copyFrom_1 rfl rfl rfl ?_
  refine AW.getI (pn := 5) F dX5_copyFrom_2 rfl gl_X5_37 so_13 rfl ?_
  refine AW.putI (pn := 8) F dX5_copyFrom_5 rfl pl_X5_37 so_30 rfl hb (fun h1 hb => ?_)
  refine AW.aload_n (pn := 9) F dX5_copyFrom_8 rfl rfl rfl ?_
  refine AW.aload_n (pn := 10) F dX5_copyFrom_9 rfl rfl rfl ?_
  refine AW.getI (pn := 13) F dX5_copyFrom_10 rfl gl_X5_41 so_13 rfl ?_
  refine AW.putI (pn := 16) F dX5_copyFrom_13 rfl pl_X5_41 so_30 rfl hb (fun h2 hb => ?_)
  refine AW.aload_n (pn := 17) F dX5_copyFrom_16 rfl rfl rfl ?_
  refine AW.aload_n (pn := 18) F dX5_copyFrom_17 rfl rfl rfl ?_
  refine AW.getI (pn := 21) F dX5_copyFrom_18 rfl gl_X5_65 so_13 rfl ?_
  refine AW.putI (pn := 24) F dX5_copyFrom_21 rfl pl_X5_65 so_30 rfl hb (fun h3 hb => ?_)
  refine AW.aload_n (pn := 25) F dX5_copyFrom_24 rfl rfl rfl ?_
  refine AW.getR (r := 14) (pn := 28) F dX5_copyFrom_25 rfl gl_X5_9 so_13 rfl ?_
  refine AW.iconst (pn := 29) F dX5_copyFrom_28 rfl ?_
  refine AW.aload_n (pn := 30) F dX5_copyFrom_29 rfl rfl rfl ?_
  refine AW.getR (r := 31) (pn := 33) F dX5_copyFrom_30 rfl gl_X5_9 so_30 rfl ?_
  refine AW.iconst (pn := 34) F dX5_copyFrom_33 rfl ?_
  refine AW.bipush (pn := 36) F dX5_copyFrom_34 rfl (by decide) ?_
  refine AW.acpy (pn := 39) 32 F dX5_copyFrom_36 rfl tw_636 tw_450 tw_449 tw_16 so_14 so_31 (by decide) (by decide) (by decide) (by decide) (by decide) (Nat.le_of_ble_eq_true rfl) hb (fun h4 hb => ?_)
  refine AW.aload_n (pn := 40) F dX5_copyFrom_39 rfl rfl rfl ?_
  refine AW.getR (r := 15) (pn := 43) F dX5_copyFrom_40 rfl gl_X5_15 so_13 rfl ?_
  refine AW.iconst (pn := 44) F dX5_copyFrom_43 rfl ?_
  refine AW.aload_n (pn := 45) F dX5_copyFrom_44 rfl rfl rfl ?_
  refine AW.getR (r := 32) (pn := 48) F dX5_copyFrom_45 rfl gl_X5_15 so_30 rfl ?_
  refine AW.iconst (pn := 49) F dX5_copyFrom_48 rfl ?_
  refine AW.bipush (pn := 51) F dX5_copyFrom_49 rfl (by decide) ?_
  refine AW.acpy (pn := 54) 32 F dX5_copyFrom_51 rfl tw_636 tw_450 tw_449 tw_16 so_15 so_32 (by decide) (by decide) (by decide) (by decide) (by decide) (Nat.le_of_ble_eq_true rfl) hb (fun h5 hb => ?_)
  refine AW.aload_n (pn := 55) F dX5_copyFrom_54 rfl rfl rfl ?_
  refine AW.getR (r := 16) (pn := 58) F dX5_copyFrom_55 rfl gl_X5_18 so_13 rfl ?_
  refine AW.iconst (pn := 59) F dX5_copyFrom_58 rfl ?_
  refine AW.aload_n (pn := 60) F dX5_copyFrom_59 rfl rfl rfl ?_
  refine AW.getR (r := 33) (pn := 63) F dX5_copyFrom_60 rfl gl_X5_18 so_30 rfl ?_
  refine AW.iconst (pn := 64) F dX5_copyFrom_63 rfl ?_
  refine AW.bipush (pn := 66) F dX5_copyFrom_64 rfl (by decide) ?_
  refine AW.acpy (pn := 69) 32 F dX5_copyFrom_66 rfl tw_636 tw_450 tw_449 tw_16 so_16 so_33 (by decide) (by decide) (by decide) (by decide) (by decide) (Nat.le_of_ble_eq_true rfl) hb (fun h6 hb => ?_)
  refine AW.aload_n (pn := 70) F dX5_copyFrom_69 rfl rfl rfl ?_
  refine AW.getR (r := 17) (pn := 73) F dX5_copyFrom_70 rfl gl_X5_21 so_13 rfl ?_
  refine AW.iconst (pn := 74) F dX5_copyFrom_73 rfl ?_
  refine AW.aload_n (pn := 75) F dX5_copyFrom_74 rfl rfl rfl ?_
  refine AW.getR (r := 34) (pn := 78) F dX5_copyFrom_75 rfl gl_X5_21 so_30 rfl ?_
  refine AW.iconst (pn := 79) F dX5_copyFrom_78 rfl ?_
  refine AW.bipush (pn := 81) F dX5_copyFrom_79 rfl (by decide) ?_
  refine AW.acpy (pn := 84) 32 F dX5_copyFrom_81 rfl tw_636 tw_450 tw_449 tw_16 so_17 so_34 (by decide) (by decide) (by decide) (by decide) (by decide) (Nat.le_of_ble_eq_true rfl) hb (fun h7 hb => ?_)
  refine AW.aload_n (pn := 85) F dX5_copyFrom_84 rfl rfl rfl ?_
  refine AW.getR (r := 18) (pn := 88) F dX5_copyFrom_85 rfl gl_X5_24 so_13 rfl ?_
  refine AW.iconst (pn := 89) F dX5_copyFrom_88 rfl ?_
  refine AW.aload_n (pn := 90) F dX5_copyFrom_89 rfl rfl rfl ?_
  refine AW.getR (r := 35) (pn := 93) F dX5_copyFrom_90 rfl gl_X5_24 so_30 rfl ?_
  refine AW.iconst (pn := 94) F dX5_copyFrom_93 rfl ?_
  refine AW.sipush (pn := 97) F dX5_copyFrom_94 rfl (by decide) ?_
  refine AW.acpy (pn := 100) 640 F dX5_copyFrom_97 rfl tw_636 tw_450 tw_449 tw_16 so_18 so_35 (by decide) (by decide) (by decide) (by decide) (by decide) (Nat.le_of_ble_eq_true rfl) hb (fun h8 hb => ?_)
  refine AW.aload_n (pn := 101) F dX5_copyFrom_100 rfl rfl rfl ?_
  refine AW.getR (r := 19) (pn := 104) F dX5_copyFrom_101 rfl gl_X5_27 so_13 rfl ?_
  refine AW.iconst (pn := 105) F dX5_copyFrom_104 rfl ?_
  refine AW.aload_n (pn := 106) F dX5_copyFrom_105 rfl rfl rfl ?_
  refine AW.getR (r := 36) (pn := 109) F dX5_copyFrom_106 rfl gl_X5_27 so_30 rfl ?_
  refine AW.iconst (pn := 110) F dX5_copyFrom_109 rfl ?_
  refine AW.iconst (pn := 111) F dX5_copyFrom_110 rfl ?_
  refine AW.acpy (pn := 114) 5 F dX5_copyFrom_111 rfl tw_636 tw_450 tw_449 tw_16 so_19 so_36 (by decide) (by decide) (by decide) (by decide) (by decide) (Nat.le_of_ble_eq_true rfl) hb (fun h9 hb => ?_)
  refine AW.aload_n (pn := 115) F dX5_copyFrom_114 rfl rfl rfl ?_
  refine AW.getR (r := 20) (pn := 118) F dX5_copyFrom_115 rfl gl_X5_30 so_13 rfl ?_
  refine AW.iconst (pn := 119) F dX5_copyFrom_118 rfl ?_
  refine AW.aload_n (pn := 120) F dX5_copyFrom_119 rfl rfl rfl ?_
  refine AW.getR (r := 37) (pn := 123) F dX5_copyFrom_120 rfl gl_X5_30 so_30 rfl ?_
  refine AW.iconst (pn := 124) F dX5_copyFrom_123 rfl ?_
  refine AW.bipush (pn := 126) F dX5_copyFrom_124 rfl (by decide) ?_
  refine AW.acpy (pn := 129) 30 F dX5_copyFrom_126 rfl tw_636 tw_450 tw_449 tw_16 so_20 so_37 (by decide) (by decide) (by decide) (by decide) (by decide) (Nat.le_of_ble_eq_true rfl) hb (fun h10 hb => ?_)
  exact AW.vret F G dX5_copyFrom_129 ⟨rfl, hb⟩

theorem p5_copyFrom_38_13  {h : HP} {Q : HP → Prop} (hb : p5_copyFrom 38 13 h Q) : MT yX5_copyFrom cX5_copyFrom 2 none 1 [vR 38, vR 13] h (QV Q) := by
  refine MT.of (own := RX5) (by decide) rfl (Nat.le_of_ble_eq_true rfl) rfl (fun X F G => ?_)
  unfold p5_copyFrom at hb
  refine AW.aload_n (pn := 1) F dX5_copyFrom_0 rfl rfl rfl ?_
  refine AW.aload_n (pn := 2) F dX5_copyFrom_1 rfl rfl rfl ?_
  refine AW.getI (pn := 5) F dX5_copyFrom_2 rfl gl_X5_37 so_13 rfl ?_
  refine AW.putI (pn := 8) F dX5_copyFrom_5 rfl pl_X5_37 so_38 rfl hb (fun h1 hb => ?_)
  refine AW.aload_n (pn := 9) F dX5_copyFrom_8 rfl rfl rfl ?_
  refine AW.aload_n (pn := 10) F dX5_copyFrom_9 rfl rfl rfl ?_
  refine AW.getI (pn := 13) F dX5_copyFrom_10 rfl gl_X5_41 so_13 rfl ?_
  refine AW.putI (pn := 16) F dX5_copyFrom_13 rfl pl_X5_41 so_38 rfl hb (fun h2 hb => ?_)
  refine AW.aload_n (pn := 17) F dX5_copyFrom_16 rfl rfl rfl ?_
  refine AW.aload_n (pn := 18) F dX5_copyFrom_17 rfl rfl rfl ?_
  refine AW.getI (pn := 21) F dX5_copyFrom_18 rfl gl_X5_65 so_13 rfl ?_
  refine AW.putI (pn := 24) F dX5_copyFrom_21 rfl pl_X5_65 so_38 rfl hb (fun h3 hb => ?_)
  refine AW.aload_n (pn := 25) F dX5_copyFrom_24 rfl rfl rfl ?_
  refine AW.getR (r := 14) (pn := 28) F dX5_copyFrom_25 rfl gl_X5_9 so_13 rfl ?_
  refine AW.iconst (pn := 29) F dX5_copyFrom_28 rfl ?_
  refine AW.aload_n (pn := 30) F dX5_copyFrom_29 rfl rfl rfl ?_
  refine AW.getR (r := 39) (pn := 33) F dX5_copyFrom_30 rfl gl_X5_9 so_38 rfl ?_
  refine AW.iconst (pn := 34) F dX5_copyFrom_33 rfl ?_
  refine AW.bipush (pn := 36) F dX5_copyFrom_34 rfl (by decide) ?_
  refine AW.acpy (pn := 39) 32 F dX5_copyFrom_36 rfl tw_636 tw_450 tw_449 tw_16 so_14 so_39 (by decide) (by decide) (by decide) (by decide) (by decide) (Nat.le_of_ble_eq_true rfl) hb (fun h4 hb => ?_)
  refine AW.aload_n (pn := 40) F dX5_copyFrom_39 rfl rfl rfl ?_
  refine AW.getR (r := 15) (pn := 43) F dX5_copyFrom_40 rfl gl_X5_15 so_13 rfl ?_
  refine AW.iconst (pn := 44) F dX5_copyFrom_43 rfl ?_
  refine AW.aload_n (pn := 45) F dX5_copyFrom_44 rfl rfl rfl ?_
  refine AW.getR (r := 40) (pn := 48) F dX5_copyFrom_45 rfl gl_X5_15 so_38 rfl ?_
  refine AW.iconst (pn := 49) F dX5_copyFrom_48 rfl ?_
  refine AW.bipush (pn := 51) F dX5_copyFrom_49 rfl (by decide) ?_
  refine AW.acpy (pn := 54) 32 F dX5_copyFrom_51 rfl tw_636 tw_450 tw_449 tw_16 so_15 so_40 (by decide) (by decide) (by decide) (by decide) (by decide) (Nat.le_of_ble_eq_true rfl) hb (fun h5 hb => ?_)
  refine AW.aload_n (pn := 55) F dX5_copyFrom_54 rfl rfl rfl ?_
  refine AW.getR (r := 16) (pn := 58) F dX5_copyFrom_55 rfl gl_X5_18 so_13 rfl ?_
  refine AW.iconst (pn := 59) F dX5_copyFrom_58 rfl ?_
  refine AW.aload_n (pn := 60) F dX5_copyFrom_59 rfl rfl rfl ?_
  refine AW.getR (r := 41) (pn := 63) F dX5_copyFrom_60 rfl gl_X5_18 so_38 rfl ?_
  refine AW.iconst (pn := 64) F dX5_copyFrom_63 rfl ?_
  refine AW.bipush (pn := 66) F dX5_copyFrom_64 rfl (by decide) ?_
  refine AW.acpy (pn := 69) 32 F dX5_copyFrom_66 rfl tw_636 tw_450 tw_449 tw_16 so_16 so_41 (by decide) (by decide) (by decide) (by decide) (by decide) (Nat.le_of_ble_eq_true rfl) hb (fun h6 hb => ?_)
  refine AW.aload_n (pn := 70) F dX5_copyFrom_69 rfl rfl rfl ?_
  refine AW.getR (r := 17) (pn := 73) F dX5_copyFrom_70 rfl gl_X5_21 so_13 rfl ?_
  refine AW.iconst (pn := 74) F dX5_copyFrom_73 rfl ?_
  refine AW.aload_n (pn := 75) F dX5_copyFrom_74 rfl rfl rfl ?_
  refine AW.getR (r := 42) (pn := 78) F dX5_copyFrom_75 rfl gl_X5_21 so_38 rfl ?_
  refine AW.iconst (pn := 79) F dX5_copyFrom_78 rfl ?_
  refine AW.bipush (pn := 81) F dX5_copyFrom_79 rfl (by decide) ?_
  refine AW.acpy (pn := 84) 32 F dX5_copyFrom_81 rfl tw_636 tw_450 tw_449 tw_16 so_17 so_42 (by decide) (by decide) (by decide) (by decide) (by decide) (Nat.le_of_ble_eq_true rfl) hb (fun h7 hb => ?_)
  refine AW.aload_n (pn := 85) F dX5_copyFrom_84 rfl rfl rfl ?_
  refine AW.getR (r := 18) (pn := 88) F dX5_copyFrom_85 rfl gl_X5_24 so_13 rfl ?_
  refine AW.iconst (pn := 89) F dX5_copyFrom_88 rfl ?_
  refine AW.aload_n (pn := 90) F dX5_copyFrom_89 rfl rfl rfl ?_
  refine AW.getR (r := 43) (pn := 93) F dX5_copyFrom_90 rfl gl_X5_24 so_38 rfl ?_
  refine AW.iconst (pn := 94) F dX5_copyFrom_93 rfl ?_
  refine AW.sipush (pn := 97) F dX5_copyFrom_94 rfl (by decide) ?_
  refine AW.acpy (pn := 100) 640 F dX5_copyFrom_97 rfl tw_636 tw_450 tw_449 tw_16 so_18 so_43 (by decide) (by decide) (by decide) (by decide) (by decide) (Nat.le_of_ble_eq_true rfl) hb (fun h8 hb => ?_)
  refine AW.aload_n (pn := 101) F dX5_copyFrom_100 rfl rfl rfl ?_
  refine AW.getR (r := 19) (pn := 104) F dX5_copyFrom_101 rfl gl_X5_27 so_13 rfl ?_
  refine AW.iconst (pn := 105) F dX5_copyFrom_104 rfl ?_
  refine AW.aload_n (pn := 106) F dX5_copyFrom_105 rfl rfl rfl ?_
  refine AW.getR (r := 44) (pn := 109) F dX5_copyFrom_106 rfl gl_X5_27 so_38 rfl ?_
  refine AW.iconst (pn := 110) F dX5_copyFrom_109 rfl ?_
  refine AW.iconst (pn := 111) F dX5_copyFrom_110 rfl ?_
  refine AW.acpy (pn := 114) 5 F dX5_copyFrom_111 rfl tw_636 tw_450 tw_449 tw_16 so_19 so_44 (by decide) (by decide) (by decide) (by decide) (by decide) (Nat.le_of_ble_eq_true rfl) hb (fun h9 hb => ?_)
  refine AW.aload_n (pn := 115) F dX5_copyFrom_114 rfl rfl rfl ?_
  refine AW.getR (r := 20) (pn := 118) F dX5_copyFrom_115 rfl gl_X5_30 so_13 rfl ?_
  refine AW.iconst (pn := 119) F dX5_copyFrom_118 rfl ?_
  refine AW.aload_n (pn := 120) F dX5_copyFrom_119 rfl rfl rfl ?_
  refine AW.getR (r := 45) (pn := 123) F dX5_copyFrom_120 rfl gl_X5_30 so_38 rfl ?_
  refine AW.iconst (pn := 124) F dX5_copyFrom_123 rfl ?_
  refine AW.bipush (pn := 126) F dX5_copyFrom_124 rfl (by decide) ?_
  refine AW.acpy (pn := 129) 30 F dX5_copyFrom_126 rfl tw_636 tw_450 tw_449 tw_16 so_20 so_45 (by decide) (by decide) (by decide) (by decide) (by decide) (Nat.le_of_ble_eq_true rfl) hb (fun h10 hb => ?_)
  exact AW.vret F G dX5_copyFrom_129 ⟨rfl, hb⟩

theorem p7_keep_0 (x1 : Int) {h : HP} {Q : Int → HP → Prop} (hb : p7_keep x1 h Q) : MT yX7_keep cX7_keep 2 (some .int) 2 [vR 0, vI x1] h (QI Q) := by
  refine MT.of (own := RX7) (by decide) rfl (Nat.le_of_ble_eq_true rfl) rfl (fun X F G => ?_)
  unfold p7_keep at hb
  refine AW.iload_n (pn := 1) F dX7_keep_0 rfl rfl rfl ?_
  refine AW.if_lt (pn := 4) (tg := 9) F dX7_keep_1 rfl (by decide) hb (fun hb => ?_) (fun hb => ?_)
  · refine AW.ldc (x := (-1000000001)) (pn := 11) F dX7_keep_9 rfl tw_493 (by decide) ?_
    exact AW.iret F G dX7_keep_11 ⟨_, rfl, hb⟩
  · refine AW.iload_n (pn := 5) F dX7_keep_4 rfl rfl rfl ?_
    refine AW.iconst (pn := 6) F dX7_keep_5 rfl ?_
    refine AW.icmp_lt (pn := 9) (tg := 12) F dX7_keep_6 rfl (by decide) hb (fun hb => ?_) (fun hb => ?_)
    · refine AW.aload_n (pn := 13) F dX7_keep_12 rfl rfl rfl ?_
      refine AW.getR (r := 29) (pn := 16) F dX7_keep_13 rfl gl_X7_48 so_0 rfl ?_
      refine AW.iload_n (pn := 17) F dX7_keep_16 rfl rfl rfl ?_
      rcases hb.1 with hq | hq
      · refine AW.aald (pn := 18) (r := 30) (j := 0) F dX7_keep_17 rfl so_29 hq (by decide) rfl ?_
        replace hb := hb.2.1 hq
        refine AW.aload_n (pn := 19) F dX7_keep_18 rfl rfl rfl ?_
        refine AW.getR (r := 13) (pn := 22) F dX7_keep_19 rfl gl_X7_41 so_0 rfl ?_
        refine AW.cVV (pn := 25) (st := []) F dX7_keep_22 rfl cl_X7_206 so_30 (p5_copyFrom_30_13  hb) rfl rfl (Nat.le_of_ble_eq_true rfl) (by decide) (fun h1 hb => ?_)
        refine AW.aload_n (pn := 26) F dX7_keep_25 rfl rfl rfl ?_
        refine AW.getR (r := 46) (pn := 29) F dX7_keep_26 rfl gl_X7_52 so_0 rfl ?_
        refine AW.iload_n (pn := 30) F dX7_keep_29 rfl rfl rfl ?_
        refine AW.iconst (pn := 31) F dX7_keep_30 rfl ?_
        refine AW.zast (pn := 32) F dX7_keep_31 rfl so_46 hb (fun h2 hb => ?_)
        refine AW.iconst (pn := 33) F dX7_keep_32 rfl ?_
        exact AW.iret F G dX7_keep_33 ⟨_, rfl, hb⟩
      · refine AW.aald (pn := 18) (r := 38) (j := 1) F dX7_keep_17 rfl so_29 hq (by decide) rfl ?_
        replace hb := hb.2.2 hq
        refine AW.aload_n (pn := 19) F dX7_keep_18 rfl rfl rfl ?_
        refine AW.getR (r := 13) (pn := 22) F dX7_keep_19 rfl gl_X7_41 so_0 rfl ?_
        refine AW.cVV (pn := 25) (st := []) F dX7_keep_22 rfl cl_X7_206 so_38 (p5_copyFrom_38_13  hb) rfl rfl (Nat.le_of_ble_eq_true rfl) (by decide) (fun h3 hb => ?_)
        refine AW.aload_n (pn := 26) F dX7_keep_25 rfl rfl rfl ?_
        refine AW.getR (r := 46) (pn := 29) F dX7_keep_26 rfl gl_X7_52 so_0 rfl ?_
        refine AW.iload_n (pn := 30) F dX7_keep_29 rfl rfl rfl ?_
        refine AW.iconst (pn := 31) F dX7_keep_30 rfl ?_
        refine AW.zast (pn := 32) F dX7_keep_31 rfl so_46 hb (fun h4 hb => ?_)
        refine AW.iconst (pn := 33) F dX7_keep_32 rfl ?_
        exact AW.iret F G dX7_keep_33 ⟨_, rfl, hb⟩
    · refine AW.ldc (x := (-1000000001)) (pn := 11) F dX7_keep_9 rfl tw_493 (by decide) ?_
      exact AW.iret F G dX7_keep_11 ⟨_, rfl, hb⟩

theorem p5_copyFrom_13_30  {h : HP} {Q : HP → Prop} (hb : p5_copyFrom 13 30 h Q) : MT yX5_copyFrom cX5_copyFrom 2 none 1 [vR 13, vR 30] h (QV Q) := by
  refine MT.of (own := RX5) (by decide) rfl (Nat.le_of_ble_eq_true rfl) rfl (fun X F G => ?_)
  unfold p5_copyFrom at hb
  refine AW.aload_n (pn := 1) F dX5_copyFrom_0 rfl rfl rfl ?_
  refine AW.aload_n (pn := 2) F dX5_copyFrom_1 rfl rfl rfl ?_
  refine AW.getI (pn := 5) F dX5_copyFrom_2 rfl gl_X5_37 so_30 rfl ?_
  refine AW.putI (pn := 8) F dX5_copyFrom_5 rfl pl_X5_37 so_13 rfl hb (fun h1 hb => ?_)
  refine AW.aload_n (pn := 9) F dX5_copyFrom_8 rfl rfl rfl ?_
  refine AW.aload_n (pn := 10) F dX5_copyFrom_9 rfl rfl rfl ?_
  refine AW.getI (pn := 13) F dX5_copyFrom_10 rfl gl_X5_41 so_30 rfl ?_
  refine AW.putI (pn := 16) F dX5_copyFrom_13 rfl pl_X5_41 so_13 rfl hb (fun h2 hb => ?_)
  refine AW.aload_n (pn := 17) F dX5_copyFrom_16 rfl rfl rfl ?_
  refine AW.aload_n (pn := 18) F dX5_copyFrom_17 rfl rfl rfl ?_
  refine AW.getI (pn := 21) F dX5_copyFrom_18 rfl gl_X5_65 so_30 rfl ?_
  refine AW.putI (pn := 24) F dX5_copyFrom_21 rfl pl_X5_65 so_13 rfl hb (fun h3 hb => ?_)
  refine AW.aload_n (pn := 25) F dX5_copyFrom_24 rfl rfl rfl ?_
  refine AW.getR (r := 31) (pn := 28) F dX5_copyFrom_25 rfl gl_X5_9 so_30 rfl ?_
  refine AW.iconst (pn := 29) F dX5_copyFrom_28 rfl ?_
  refine AW.aload_n (pn := 30) F dX5_copyFrom_29 rfl rfl rfl ?_
  refine AW.getR (r := 14) (pn := 33) F dX5_copyFrom_30 rfl gl_X5_9 so_13 rfl ?_
  refine AW.iconst (pn := 34) F dX5_copyFrom_33 rfl ?_
  refine AW.bipush (pn := 36) F dX5_copyFrom_34 rfl (by decide) ?_
  refine AW.acpy (pn := 39) 32 F dX5_copyFrom_36 rfl tw_636 tw_450 tw_449 tw_16 so_31 so_14 (by decide) (by decide) (by decide) (by decide) (by decide) (Nat.le_of_ble_eq_true rfl) hb (fun h4 hb => ?_)
  refine AW.aload_n (pn := 40) F dX5_copyFrom_39 rfl rfl rfl ?_
  refine AW.getR (r := 32) (pn := 43) F dX5_copyFrom_40 rfl gl_X5_15 so_30 rfl ?_
  refine AW.iconst (pn := 44) F dX5_copyFrom_43 rfl ?_
  refine AW.aload_n (pn := 45) F dX5_copyFrom_44 rfl rfl rfl ?_
  refine AW.getR (r := 15) (pn := 48) F dX5_copyFrom_45 rfl gl_X5_15 so_13 rfl ?_
  refine AW.iconst (pn := 49) F dX5_copyFrom_48 rfl ?_
  refine AW.bipush (pn := 51) F dX5_copyFrom_49 rfl (by decide) ?_
  refine AW.acpy (pn := 54) 32 F dX5_copyFrom_51 rfl tw_636 tw_450 tw_449 tw_16 so_32 so_15 (by decide) (by decide) (by decide) (by decide) (by decide) (Nat.le_of_ble_eq_true rfl) hb (fun h5 hb => ?_)
  refine AW.aload_n (pn := 55) F dX5_copyFrom_54 rfl rfl rfl ?_
  refine AW.getR (r := 33) (pn := 58) F dX5_copyFrom_55 rfl gl_X5_18 so_30 rfl ?_
  refine AW.iconst (pn := 59) F dX5_copyFrom_58 rfl ?_
  refine AW.aload_n (pn := 60) F dX5_copyFrom_59 rfl rfl rfl ?_
  refine AW.getR (r := 16) (pn := 63) F dX5_copyFrom_60 rfl gl_X5_18 so_13 rfl ?_
  refine AW.iconst (pn := 64) F dX5_copyFrom_63 rfl ?_
  refine AW.bipush (pn := 66) F dX5_copyFrom_64 rfl (by decide) ?_
  refine AW.acpy (pn := 69) 32 F dX5_copyFrom_66 rfl tw_636 tw_450 tw_449 tw_16 so_33 so_16 (by decide) (by decide) (by decide) (by decide) (by decide) (Nat.le_of_ble_eq_true rfl) hb (fun h6 hb => ?_)
  refine AW.aload_n (pn := 70) F dX5_copyFrom_69 rfl rfl rfl ?_
  refine AW.getR (r := 34) (pn := 73) F dX5_copyFrom_70 rfl gl_X5_21 so_30 rfl ?_
  refine AW.iconst (pn := 74) F dX5_copyFrom_73 rfl ?_
  refine AW.aload_n (pn := 75) F dX5_copyFrom_74 rfl rfl rfl ?_
  refine AW.getR (r := 17) (pn := 78) F dX5_copyFrom_75 rfl gl_X5_21 so_13 rfl ?_
  refine AW.iconst (pn := 79) F dX5_copyFrom_78 rfl ?_
  refine AW.bipush (pn := 81) F dX5_copyFrom_79 rfl (by decide) ?_
  refine AW.acpy (pn := 84) 32 F dX5_copyFrom_81 rfl tw_636 tw_450 tw_449 tw_16 so_34 so_17 (by decide) (by decide) (by decide) (by decide) (by decide) (Nat.le_of_ble_eq_true rfl) hb (fun h7 hb => ?_)
  refine AW.aload_n (pn := 85) F dX5_copyFrom_84 rfl rfl rfl ?_
  refine AW.getR (r := 35) (pn := 88) F dX5_copyFrom_85 rfl gl_X5_24 so_30 rfl ?_
  refine AW.iconst (pn := 89) F dX5_copyFrom_88 rfl ?_
  refine AW.aload_n (pn := 90) F dX5_copyFrom_89 rfl rfl rfl ?_
  refine AW.getR (r := 18) (pn := 93) F dX5_copyFrom_90 rfl gl_X5_24 so_13 rfl ?_
  refine AW.iconst (pn := 94) F dX5_copyFrom_93 rfl ?_
  refine AW.sipush (pn := 97) F dX5_copyFrom_94 rfl (by decide) ?_
  refine AW.acpy (pn := 100) 640 F dX5_copyFrom_97 rfl tw_636 tw_450 tw_449 tw_16 so_35 so_18 (by decide) (by decide) (by decide) (by decide) (by decide) (Nat.le_of_ble_eq_true rfl) hb (fun h8 hb => ?_)
  refine AW.aload_n (pn := 101) F dX5_copyFrom_100 rfl rfl rfl ?_
  refine AW.getR (r := 36) (pn := 104) F dX5_copyFrom_101 rfl gl_X5_27 so_30 rfl ?_
  refine AW.iconst (pn := 105) F dX5_copyFrom_104 rfl ?_
  refine AW.aload_n (pn := 106) F dX5_copyFrom_105 rfl rfl rfl ?_
  refine AW.getR (r := 19) (pn := 109) F dX5_copyFrom_106 rfl gl_X5_27 so_13 rfl ?_
  refine AW.iconst (pn := 110) F dX5_copyFrom_109 rfl ?_
  refine AW.iconst (pn := 111) F dX5_copyFrom_110 rfl ?_
  refine AW.acpy (pn := 114) 5 F dX5_copyFrom_111 rfl tw_636 tw_450 tw_449 tw_16 so_36 so_19 (by decide) (by decide) (by decide) (by decide) (by decide) (Nat.le_of_ble_eq_true rfl) hb (fun h9 hb => ?_)
  refine AW.aload_n (pn := 115) F dX5_copyFrom_114 rfl rfl rfl ?_
  refine AW.getR (r := 37) (pn := 118) F dX5_copyFrom_115 rfl gl_X5_30 so_30 rfl ?_
  refine AW.iconst (pn := 119) F dX5_copyFrom_118 rfl ?_
  refine AW.aload_n (pn := 120) F dX5_copyFrom_119 rfl rfl rfl ?_
  refine AW.getR (r := 20) (pn := 123) F dX5_copyFrom_120 rfl gl_X5_30 so_13 rfl ?_
  refine AW.iconst (pn := 124) F dX5_copyFrom_123 rfl ?_
  refine AW.bipush (pn := 126) F dX5_copyFrom_124 rfl (by decide) ?_
  refine AW.acpy (pn := 129) 30 F dX5_copyFrom_126 rfl tw_636 tw_450 tw_449 tw_16 so_37 so_20 (by decide) (by decide) (by decide) (by decide) (by decide) (Nat.le_of_ble_eq_true rfl) hb (fun h10 hb => ?_)
  exact AW.vret F G dX5_copyFrom_129 ⟨rfl, hb⟩

theorem p5_copyFrom_13_38  {h : HP} {Q : HP → Prop} (hb : p5_copyFrom 13 38 h Q) : MT yX5_copyFrom cX5_copyFrom 2 none 1 [vR 13, vR 38] h (QV Q) := by
  refine MT.of (own := RX5) (by decide) rfl (Nat.le_of_ble_eq_true rfl) rfl (fun X F G => ?_)
  unfold p5_copyFrom at hb
  refine AW.aload_n (pn := 1) F dX5_copyFrom_0 rfl rfl rfl ?_
  refine AW.aload_n (pn := 2) F dX5_copyFrom_1 rfl rfl rfl ?_
  refine AW.getI (pn := 5) F dX5_copyFrom_2 rfl gl_X5_37 so_38 rfl ?_
  refine AW.putI (pn := 8) F dX5_copyFrom_5 rfl pl_X5_37 so_13 rfl hb (fun h1 hb => ?_)
  refine AW.aload_n (pn := 9) F dX5_copyFrom_8 rfl rfl rfl ?_
  refine AW.aload_n (pn := 10) F dX5_copyFrom_9 rfl rfl rfl ?_
  refine AW.getI (pn := 13) F dX5_copyFrom_10 rfl gl_X5_41 so_38 rfl ?_
  refine AW.putI (pn := 16) F dX5_copyFrom_13 rfl pl_X5_41 so_13 rfl hb (fun h2 hb => ?_)
  refine AW.aload_n (pn := 17) F dX5_copyFrom_16 rfl rfl rfl ?_
  refine AW.aload_n (pn := 18) F dX5_copyFrom_17 rfl rfl rfl ?_
  refine AW.getI (pn := 21) F dX5_copyFrom_18 rfl gl_X5_65 so_38 rfl ?_
  refine AW.putI (pn := 24) F dX5_copyFrom_21 rfl pl_X5_65 so_13 rfl hb (fun h3 hb => ?_)
  refine AW.aload_n (pn := 25) F dX5_copyFrom_24 rfl rfl rfl ?_
  refine AW.getR (r := 39) (pn := 28) F dX5_copyFrom_25 rfl gl_X5_9 so_38 rfl ?_
  refine AW.iconst (pn := 29) F dX5_copyFrom_28 rfl ?_
  refine AW.aload_n (pn := 30) F dX5_copyFrom_29 rfl rfl rfl ?_
  refine AW.getR (r := 14) (pn := 33) F dX5_copyFrom_30 rfl gl_X5_9 so_13 rfl ?_
  refine AW.iconst (pn := 34) F dX5_copyFrom_33 rfl ?_
  refine AW.bipush (pn := 36) F dX5_copyFrom_34 rfl (by decide) ?_
  refine AW.acpy (pn := 39) 32 F dX5_copyFrom_36 rfl tw_636 tw_450 tw_449 tw_16 so_39 so_14 (by decide) (by decide) (by decide) (by decide) (by decide) (Nat.le_of_ble_eq_true rfl) hb (fun h4 hb => ?_)
  refine AW.aload_n (pn := 40) F dX5_copyFrom_39 rfl rfl rfl ?_
  refine AW.getR (r := 40) (pn := 43) F dX5_copyFrom_40 rfl gl_X5_15 so_38 rfl ?_
  refine AW.iconst (pn := 44) F dX5_copyFrom_43 rfl ?_
  refine AW.aload_n (pn := 45) F dX5_copyFrom_44 rfl rfl rfl ?_
  refine AW.getR (r := 15) (pn := 48) F dX5_copyFrom_45 rfl gl_X5_15 so_13 rfl ?_
  refine AW.iconst (pn := 49) F dX5_copyFrom_48 rfl ?_
  refine AW.bipush (pn := 51) F dX5_copyFrom_49 rfl (by decide) ?_
  refine AW.acpy (pn := 54) 32 F dX5_copyFrom_51 rfl tw_636 tw_450 tw_449 tw_16 so_40 so_15 (by decide) (by decide) (by decide) (by decide) (by decide) (Nat.le_of_ble_eq_true rfl) hb (fun h5 hb => ?_)
  refine AW.aload_n (pn := 55) F dX5_copyFrom_54 rfl rfl rfl ?_
  refine AW.getR (r := 41) (pn := 58) F dX5_copyFrom_55 rfl gl_X5_18 so_38 rfl ?_
  refine AW.iconst (pn := 59) F dX5_copyFrom_58 rfl ?_
  refine AW.aload_n (pn := 60) F dX5_copyFrom_59 rfl rfl rfl ?_
  refine AW.getR (r := 16) (pn := 63) F dX5_copyFrom_60 rfl gl_X5_18 so_13 rfl ?_
  refine AW.iconst (pn := 64) F dX5_copyFrom_63 rfl ?_
  refine AW.bipush (pn := 66) F dX5_copyFrom_64 rfl (by decide) ?_
  refine AW.acpy (pn := 69) 32 F dX5_copyFrom_66 rfl tw_636 tw_450 tw_449 tw_16 so_41 so_16 (by decide) (by decide) (by decide) (by decide) (by decide) (Nat.le_of_ble_eq_true rfl) hb (fun h6 hb => ?_)
  refine AW.aload_n (pn := 70) F dX5_copyFrom_69 rfl rfl rfl ?_
  refine AW.getR (r := 42) (pn := 73) F dX5_copyFrom_70 rfl gl_X5_21 so_38 rfl ?_
  refine AW.iconst (pn := 74) F dX5_copyFrom_73 rfl ?_
  refine AW.aload_n (pn := 75) F dX5_copyFrom_74 rfl rfl rfl ?_
  refine AW.getR (r := 17) (pn := 78) F dX5_copyFrom_75 rfl gl_X5_21 so_13 rfl ?_
  refine AW.iconst (pn := 79) F dX5_copyFrom_78 rfl ?_
  refine AW.bipush (pn := 81) F dX5_copyFrom_79 rfl (by decide) ?_
  refine AW.acpy (pn := 84) 32 F dX5_copyFrom_81 rfl tw_636 tw_450 tw_449 tw_16 so_42 so_17 (by decide) (by decide) (by decide) (by decide) (by decide) (Nat.le_of_ble_eq_true rfl) hb (fun h7 hb => ?_)
  refine AW.aload_n (pn := 85) F dX5_copyFrom_84 rfl rfl rfl ?_
  refine AW.getR (r := 43) (pn := 88) F dX5_copyFrom_85 rfl gl_X5_24 so_38 rfl ?_
  refine AW.iconst (pn := 89) F dX5_copyFrom_88 rfl ?_
  refine AW.aload_n (pn := 90) F dX5_copyFrom_89 rfl rfl rfl ?_
  refine AW.getR (r := 18) (pn := 93) F dX5_copyFrom_90 rfl gl_X5_24 so_13 rfl ?_
  refine AW.iconst (pn := 94) F dX5_copyFrom_93 rfl ?_
  refine AW.sipush (pn := 97) F dX5_copyFrom_94 rfl (by decide) ?_
  refine AW.acpy (pn := 100) 640 F dX5_copyFrom_97 rfl tw_636 tw_450 tw_449 tw_16 so_43 so_18 (by decide) (by decide) (by decide) (by decide) (by decide) (Nat.le_of_ble_eq_true rfl) hb (fun h8 hb => ?_)
  refine AW.aload_n (pn := 101) F dX5_copyFrom_100 rfl rfl rfl ?_
  refine AW.getR (r := 44) (pn := 104) F dX5_copyFrom_101 rfl gl_X5_27 so_38 rfl ?_
  refine AW.iconst (pn := 105) F dX5_copyFrom_104 rfl ?_
  refine AW.aload_n (pn := 106) F dX5_copyFrom_105 rfl rfl rfl ?_
  refine AW.getR (r := 19) (pn := 109) F dX5_copyFrom_106 rfl gl_X5_27 so_13 rfl ?_
  refine AW.iconst (pn := 110) F dX5_copyFrom_109 rfl ?_
  refine AW.iconst (pn := 111) F dX5_copyFrom_110 rfl ?_
  refine AW.acpy (pn := 114) 5 F dX5_copyFrom_111 rfl tw_636 tw_450 tw_449 tw_16 so_44 so_19 (by decide) (by decide) (by decide) (by decide) (by decide) (Nat.le_of_ble_eq_true rfl) hb (fun h9 hb => ?_)
  refine AW.aload_n (pn := 115) F dX5_copyFrom_114 rfl rfl rfl ?_
  refine AW.getR (r := 45) (pn := 118) F dX5_copyFrom_115 rfl gl_X5_30 so_38 rfl ?_
  refine AW.iconst (pn := 119) F dX5_copyFrom_118 rfl ?_
  refine AW.aload_n (pn := 120) F dX5_copyFrom_119 rfl rfl rfl ?_
  refine AW.getR (r := 20) (pn := 123) F dX5_copyFrom_120 rfl gl_X5_30 so_13 rfl ?_
  refine AW.iconst (pn := 124) F dX5_copyFrom_123 rfl ?_
  refine AW.bipush (pn := 126) F dX5_copyFrom_124 rfl (by decide) ?_
  refine AW.acpy (pn := 129) 30 F dX5_copyFrom_126 rfl tw_636 tw_450 tw_449 tw_16 so_45 so_20 (by decide) (by decide) (by decide) (by decide) (by decide) (Nat.le_of_ble_eq_true rfl) hb (fun h10 hb => ?_)
  exact AW.vret F G dX5_copyFrom_129 ⟨rfl, hb⟩

theorem p7_goBack_0 (x1 : Int) {h : HP} {Q : Int → HP → Prop} (hb : p7_goBack x1 h Q) : MT yX7_goBack cX7_goBack 2 (some .int) 2 [vR 0, vI x1] h (QI Q) := by
  refine MT.of (own := RX7) (by decide) rfl (Nat.le_of_ble_eq_true rfl) rfl (fun X F G => ?_)
  unfold p7_goBack at hb
  refine AW.iload_n (pn := 1) F dX7_goBack_0 rfl rfl rfl ?_
  refine AW.if_lt (pn := 4) (tg := 9) F dX7_goBack_1 rfl (by decide) hb (fun hb => ?_) (fun hb => ?_)
  · refine AW.ldc (x := (-1000000001)) (pn := 11) F dX7_goBack_9 rfl tw_493 (by decide) ?_
    exact AW.iret F G dX7_goBack_11 ⟨_, rfl, hb⟩
  · refine AW.iload_n (pn := 5) F dX7_goBack_4 rfl rfl rfl ?_
    refine AW.iconst (pn := 6) F dX7_goBack_5 rfl ?_
    refine AW.icmp_lt (pn := 9) (tg := 12) F dX7_goBack_6 rfl (by decide) hb (fun hb => ?_) (fun hb => ?_)
    · refine AW.aload_n (pn := 13) F dX7_goBack_12 rfl rfl rfl ?_
      refine AW.getR (r := 46) (pn := 16) F dX7_goBack_13 rfl gl_X7_52 so_0 rfl ?_
      refine AW.iload_n (pn := 17) F dX7_goBack_16 rfl rfl rfl ?_
      refine AW.zald (pn := 18) F dX7_goBack_17 rfl so_46 hb (fun v1 hb => ?_)
      refine AW.if_ne (pn := 21) (tg := 24) F dX7_goBack_18 rfl (by decide) hb (fun hb => ?_) (fun hb => ?_)
      · refine AW.aload_n (pn := 25) F dX7_goBack_24 rfl rfl rfl ?_
        refine AW.getR (r := 13) (pn := 28) F dX7_goBack_25 rfl gl_X7_41 so_0 rfl ?_
        refine AW.aload_n (pn := 29) F dX7_goBack_28 rfl rfl rfl ?_
        refine AW.getR (r := 29) (pn := 32) F dX7_goBack_29 rfl gl_X7_48 so_0 rfl ?_
        refine AW.iload_n (pn := 33) F dX7_goBack_32 rfl rfl rfl ?_
        rcases hb.1 with hq | hq
        · refine AW.aald (pn := 34) (r := 30) (j := 0) F dX7_goBack_33 rfl so_29 hq (by decide) rfl ?_
          replace hb := hb.2.1 hq
          refine AW.cVV (pn := 37) (st := []) F dX7_goBack_34 rfl cl_X7_206 so_13 (p5_copyFrom_13_30  hb) rfl rfl (Nat.le_of_ble_eq_true rfl) (by decide) (fun h2 hb => ?_)
          refine AW.iconst (pn := 38) F dX7_goBack_37 rfl ?_
          exact AW.iret F G dX7_goBack_38 ⟨_, rfl, hb⟩
        · refine AW.aald (pn := 34) (r := 38) (j := 1) F dX7_goBack_33 rfl so_29 hq (by decide) rfl ?_
          replace hb := hb.2.2 hq
          refine AW.cVV (pn := 37) (st := []) F dX7_goBack_34 rfl cl_X7_206 so_13 (p5_copyFrom_13_38  hb) rfl rfl (Nat.le_of_ble_eq_true rfl) (by decide) (fun h3 hb => ?_)
          refine AW.iconst (pn := 38) F dX7_goBack_37 rfl ?_
          exact AW.iret F G dX7_goBack_38 ⟨_, rfl, hb⟩
      · refine AW.ldc (x := (-1000000003)) (pn := 23) F dX7_goBack_21 rfl tw_539 (by decide) ?_
        exact AW.iret F G dX7_goBack_23 ⟨_, rfl, hb⟩
    · refine AW.ldc (x := (-1000000001)) (pn := 11) F dX7_goBack_9 rfl tw_493 (by decide) ?_
      exact AW.iret F G dX7_goBack_11 ⟨_, rfl, hb⟩

