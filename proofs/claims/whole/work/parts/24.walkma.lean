theorem p8_in_s (x0 x2 x4 : Int) {h : HP} {Q : Int → Prop} (hb : p8_in x0 x2 x4 h Q) : MT yX8_in cX8_in 6 (some .boolean) 1 [vL x0, vL x2, vL x4] h (QP h Q) := by
  refine MT.of (own := RX8) (by decide) rfl (Nat.le_of_ble_eq_true rfl) rfl (fun X F G => ?_)
  unfold p8_in at hb
  refine AW.lload_n (pn := 1) F dX8_in_0 rfl rfl rfl ?_
  refine AW.lload_n (pn := 2) F dX8_in_1 rfl rfl rfl ?_
  refine AW.lcmp (pn := 3) F dX8_in_2 rfl ?_
  refine AW.if_lt (pn := 6) (tg := 17) F dX8_in_3 rfl (by decide) hb (fun hb => ?_) (fun hb => ?_)
  · refine AW.iconst (pn := 18) F dX8_in_17 rfl ?_
    exact AW.zret F G dX8_in_18 (by decide) ⟨rfl, _, rfl, hb⟩
  · refine AW.lload_n (pn := 7) F dX8_in_6 rfl rfl rfl ?_
    refine AW.lload (pn := 9) F dX8_in_7 rfl rfl ?_
    refine AW.lcmp (pn := 10) F dX8_in_9 rfl ?_
    refine AW.if_gt (pn := 13) (tg := 17) F dX8_in_10 rfl (by decide) hb (fun hb => ?_) (fun hb => ?_)
    · refine AW.iconst (pn := 18) F dX8_in_17 rfl ?_
      exact AW.zret F G dX8_in_18 (by decide) ⟨rfl, _, rfl, hb⟩
    · refine AW.iconst (pn := 14) F dX8_in_13 rfl ?_
      refine AW.goto (tg := 18) F dX8_in_14 (by decide) ?_
      exact AW.zret F G dX8_in_18 (by decide) ⟨rfl, _, rfl, hb⟩

theorem p8_feed_L35_ok_69 {X : Cx} {x2 : Int} {Q : Int → HP → Prop} (F : Fx X cX8_feed RX8 5 2) (G : Rx X (some .int) (QI Q))  : ∀ (n : Nat) (h : HP) (x4 : Int), p8_feed_L35 x2 Q n h x4 → AW X 5 35 [some (vR 69), none, some (vL x2), none, some (vI x4)] [] h := by
  intro n
  induction n with
  | zero => intro _ _ hb; exact hb.elim
  | succ n ih =>
    intro h x4 hb
    unfold p8_feed_L35 at hb
    refine AW.iload (pn := 37) F dX8_feed_35 rfl rfl ?_
    refine AW.if_lt (pn := 40) (tg := 77) F dX8_feed_37 rfl (by decide) hb (fun hb => ?_) (fun hb => ?_)
    · refine AW.aload_n (pn := 78) F dX8_feed_77 rfl rfl rfl ?_
      refine AW.getI (pn := 81) F dX8_feed_78 rfl gl_X8_118 so_69 rfl ?_
      exact AW.iret F G dX8_feed_81 ⟨_, rfl, hb⟩
    · refine AW.aload_n (pn := 41) F dX8_feed_40 rfl rfl rfl ?_
      refine AW.getR (r := 79) (pn := 44) F dX8_feed_41 rfl gl_X8_37 so_69 rfl ?_
      refine AW.aload_n (pn := 45) F dX8_feed_44 rfl rfl rfl ?_
      refine AW.getI (pn := 48) F dX8_feed_45 rfl gl_X8_118 so_69 rfl ?_
      refine AW.lload_n (pn := 49) F dX8_feed_48 rfl rfl rfl ?_
      refine AW.bipush (pn := 51) F dX8_feed_49 rfl (by decide) ?_
      refine AW.iload (pn := 53) F dX8_feed_51 rfl rfl ?_
      refine AW.imul (pn := 54) F dX8_feed_53 rfl ?_
      refine AW.lshr (pn := 55) F dX8_feed_54 rfl ?_
      refine AW.ldc2 (x := 255) (pn := 58) F dX8_feed_55 rfl tw_940 (by decide) ?_
      refine AW.land (pn := 59) F dX8_feed_58 rfl ?_
      refine AW.l2i (pn := 60) F dX8_feed_59 rfl ?_
      refine AW.iast (pn := 61) F dX8_feed_60 rfl so_79 hb (fun h2 hb => ?_)
      refine AW.aload_n (pn := 62) F dX8_feed_61 rfl rfl rfl ?_
      refine AW.dupR (pn := 63) F dX8_feed_62 rfl ?_
      refine AW.getI (pn := 66) F dX8_feed_63 rfl gl_X8_118 so_69 rfl ?_
      refine AW.iconst (pn := 67) F dX8_feed_66 rfl ?_
      refine AW.iadd (pn := 68) F dX8_feed_67 rfl ?_
      refine AW.putI (pn := 71) F dX8_feed_68 rfl pl_X8_118 so_69 rfl hb (fun h3 hb => ?_)
      refine AW.iinc (ls2 := [some (vR 69), none, some (vL x2), none, some (vI (x4 + (-1)))]) (pn := 74) F dX8_feed_71 rfl rfl (by decide) rfl rfl ?_
      refine AW.goto (tg := 35) F dX8_feed_74 (by decide) ?_
      exact ih _ _ hb

theorem p8_feed_69 (x1 x2 : Int) {h : HP} {Q : Int → HP → Prop} (hb : p8_feed x1 x2 h Q) : MT yX8_feed cX8_feed 5 (some .int) 2 [vR 69, vI x1, vL x2] h (QI Q) := by
  refine MT.of (own := RX8) (by decide) rfl (Nat.le_of_ble_eq_true rfl) rfl (fun X F G => ?_)
  unfold p8_feed at hb
  refine AW.iload_n (pn := 1) F dX8_feed_0 rfl rfl rfl ?_
  refine AW.i2l (pn := 2) F dX8_feed_1 rfl ?_
  refine AW.lconst (x := 1) (pn := 3) F dX8_feed_2 rfl (by decide) ?_
  refine AW.ldc2 (x := 8) (pn := 6) F dX8_feed_3 rfl tw_934 (by decide) ?_
  refine AW.cSP (pn := 9) (st := []) F dX8_feed_6 rfl cl_X8_102 (p8_in_s (w32 x1) 1 8 hb) rfl rfl (Nat.le_of_ble_eq_true rfl) (by decide) (fun r1 hb => ?_)
  refine AW.if_ne (pn := 12) (tg := 15) F dX8_feed_9 rfl (by decide) hb (fun hb => ?_) (fun hb => ?_)
  · refine AW.aload_n (pn := 16) F dX8_feed_15 rfl rfl rfl ?_
    refine AW.getI (pn := 19) F dX8_feed_16 rfl gl_X8_118 so_69 rfl ?_
    refine AW.iload_n (pn := 20) F dX8_feed_19 rfl rfl rfl ?_
    refine AW.iadd (pn := 21) F dX8_feed_20 rfl ?_
    refine AW.sipush (pn := 24) F dX8_feed_21 rfl (by decide) ?_
    refine AW.icmp_le (pn := 27) (tg := 30) F dX8_feed_24 rfl (by decide) hb (fun hb => ?_) (fun hb => ?_)
    · refine AW.iload_n (pn := 31) F dX8_feed_30 rfl rfl rfl ?_
      refine AW.iconst (pn := 32) F dX8_feed_31 rfl ?_
      refine AW.isub (pn := 33) F dX8_feed_32 rfl ?_
      refine AW.istore (ls2 := [some (vR 69), some (vI x1), some (vL x2), none, some (vI (x1 - 1))]) (pn := 35) F dX8_feed_33 rfl (by decide) rfl rfl ?_
      refine AW.drop [true, false, true, true, true] rfl ?_
      refine p8_feed_L35_ok_69 F G  _ _ _ hb
    · refine AW.ldc (x := (-1000000004)) (pn := 29) F dX8_feed_27 rfl tw_939 (by decide) ?_
      exact AW.iret F G dX8_feed_29 ⟨_, rfl, hb⟩
  · refine AW.ldc (x := (-1000000002)) (pn := 14) F dX8_feed_12 rfl tw_938 (by decide) ?_
    exact AW.iret F G dX8_feed_14 ⟨_, rfl, hb⟩

theorem p8_here_L0_ok_69 {X : Cx} {E38 : HP → Prop} {Q : Int → HP → Prop} (F : Fx X cX8_here RX8 1 1) (G : Rx X (some .int) (QI Q)) (hE38 : ∀ (h : HP), E38 h → AW X 1 38 [some (vR 69)] [] h) : ∀ (n : Nat) (h : HP), p8_here_L0 E38 n h → AW X 1 0 [some (vR 69)] [] h := by
  intro n
  induction n with
  | zero => intro _ hb; exact hb.elim
  | succ n ih =>
    intro h hb
    unfold p8_here_L0 at hb
    refine AW.aload_n (pn := 1) F dX8_here_0 rfl rfl rfl ?_
    refine AW.getI (pn := 4) F dX8_here_1 rfl gl_X8_124 so_69 rfl ?_
    refine AW.aload_n (pn := 5) F dX8_here_4 rfl rfl rfl ?_
    refine AW.getI (pn := 8) F dX8_here_5 rfl gl_X8_118 so_69 rfl ?_
    refine AW.icmp_ge (pn := 11) (tg := 38) F dX8_here_8 rfl (by decide) hb (fun hb => ?_) (fun hb => ?_)
    · exact hE38 _ hb
    · refine AW.aload_n (pn := 12) F dX8_here_11 rfl rfl rfl ?_
      refine AW.getR (r := 79) (pn := 15) F dX8_here_12 rfl gl_X8_37 so_69 rfl ?_
      refine AW.aload_n (pn := 16) F dX8_here_15 rfl rfl rfl ?_
      refine AW.getI (pn := 19) F dX8_here_16 rfl gl_X8_124 so_69 rfl ?_
      refine AW.iald (pn := 20) F dX8_here_19 rfl so_79 hb (fun v10 hb => ?_)
      refine AW.bipush (pn := 22) F dX8_here_20 rfl (by decide) ?_
      refine AW.icmp_ne (pn := 25) (tg := 38) F dX8_here_22 rfl (by decide) hb (fun hb => ?_) (fun hb => ?_)
      · exact hE38 _ hb
      · refine AW.aload_n (pn := 26) F dX8_here_25 rfl rfl rfl ?_
        refine AW.dupR (pn := 27) F dX8_here_26 rfl ?_
        refine AW.getI (pn := 30) F dX8_here_27 rfl gl_X8_124 so_69 rfl ?_
        refine AW.iconst (pn := 31) F dX8_here_30 rfl ?_
        refine AW.iadd (pn := 32) F dX8_here_31 rfl ?_
        refine AW.putI (pn := 35) F dX8_here_32 rfl pl_X8_124 so_69 rfl hb (fun h11 hb => ?_)
        refine AW.goto (tg := 0) F dX8_here_35 (by decide) ?_
        exact ih _ hb

theorem p8_here_69  {h : HP} {Q : Int → HP → Prop} (hb : p8_here  h Q) : MT yX8_here cX8_here 1 (some .int) 1 [vR 69] h (QI Q) := by
  refine MT.of (own := RX8) (by decide) rfl (Nat.le_of_ble_eq_true rfl) rfl (fun X F G => ?_)
  unfold p8_here at hb
  refine AW.aload_n (pn := 1) F dX8_here_0 rfl rfl rfl ?_
  refine AW.getI (pn := 4) F dX8_here_1 rfl gl_X8_124 so_69 rfl ?_
  refine AW.aload_n (pn := 5) F dX8_here_4 rfl rfl rfl ?_
  refine AW.getI (pn := 8) F dX8_here_5 rfl gl_X8_118 so_69 rfl ?_
  refine jn_1 hb (fun (h5 : HP) => AW X 1 38 [some (vR 69)] [] h5) (fun h5 hb => ?_) (fun K6 hK6 hb => ?_)
  · refine AW.aload_n (pn := 39) F dX8_here_38 rfl rfl rfl ?_
    refine AW.getI (pn := 42) F dX8_here_39 rfl gl_X8_124 so_69 rfl ?_
    refine AW.aload_n (pn := 43) F dX8_here_42 rfl rfl rfl ?_
    refine AW.getI (pn := 46) F dX8_here_43 rfl gl_X8_118 so_69 rfl ?_
    refine AW.icmp_ge (pn := 49) (tg := 61) F dX8_here_46 rfl (by decide) hb (fun hb => ?_) (fun hb => ?_)
    · refine AW.iconst (pn := 62) F dX8_here_61 rfl ?_
      exact AW.iret F G dX8_here_62 ⟨_, rfl, hb⟩
    · refine AW.aload_n (pn := 50) F dX8_here_49 rfl rfl rfl ?_
      refine AW.getR (r := 79) (pn := 53) F dX8_here_50 rfl gl_X8_37 so_69 rfl ?_
      refine AW.aload_n (pn := 54) F dX8_here_53 rfl rfl rfl ?_
      refine AW.getI (pn := 57) F dX8_here_54 rfl gl_X8_124 so_69 rfl ?_
      refine AW.iald (pn := 58) F dX8_here_57 rfl so_79 hb (fun v7 hb => ?_)
      refine AW.goto (tg := 62) F dX8_here_58 (by decide) ?_
      exact AW.iret F G dX8_here_62 ⟨_, rfl, hb⟩
  refine AW.icmp_ge (pn := 11) (tg := 38) F dX8_here_8 rfl (by decide) hb (fun hb => ?_) (fun hb => ?_)
  · exact hK6 _ hb
  · refine AW.aload_n (pn := 12) F dX8_here_11 rfl rfl rfl ?_
    refine AW.getR (r := 79) (pn := 15) F dX8_here_12 rfl gl_X8_37 so_69 rfl ?_
    refine AW.aload_n (pn := 16) F dX8_here_15 rfl rfl rfl ?_
    refine AW.getI (pn := 19) F dX8_here_16 rfl gl_X8_124 so_69 rfl ?_
    refine AW.iald (pn := 20) F dX8_here_19 rfl so_79 hb (fun v8 hb => ?_)
    refine AW.bipush (pn := 22) F dX8_here_20 rfl (by decide) ?_
    refine AW.icmp_ne (pn := 25) (tg := 38) F dX8_here_22 rfl (by decide) hb (fun hb => ?_) (fun hb => ?_)
    · exact hK6 _ hb
    · refine AW.aload_n (pn := 26) F dX8_here_25 rfl rfl rfl ?_
      refine AW.dupR (pn := 27) F dX8_here_26 rfl ?_
      refine AW.getI (pn := 30) F dX8_here_27 rfl gl_X8_124 so_69 rfl ?_
      refine AW.iconst (pn := 31) F dX8_here_30 rfl ?_
      refine AW.iadd (pn := 32) F dX8_here_31 rfl ?_
      refine AW.putI (pn := 35) F dX8_here_32 rfl pl_X8_124 so_69 rfl hb (fun h9 hb => ?_)
      refine AW.goto (tg := 0) F dX8_here_35 (by decide) ?_
      refine p8_here_L0_ok_69 F G (fun h12 hb => ?_) _ _ hb
      exact hK6 _ hb

theorem p8_readWord_L18_ok_69 {X : Cx} {Q : HP → Prop} (F : Fx X cX8_readWord RX8 2 2) (G : Rx X none (QV Q))  : ∀ (n : Nat) (h : HP), p8_readWord_L18 Q n h → AW X 2 18 [some (vR 69), none] [] h := by
  intro n
  induction n with
  | zero => intro _ hb; exact hb.elim
  | succ n ih =>
    intro h hb
    unfold p8_readWord_L18 at hb
    refine AW.aload_n (pn := 19) F dX8_readWord_18 rfl rfl rfl ?_
    refine AW.getI (pn := 22) F dX8_readWord_19 rfl gl_X8_135 so_69 rfl ?_
    refine AW.aload_n (pn := 23) F dX8_readWord_22 rfl rfl rfl ?_
    refine AW.getI (pn := 26) F dX8_readWord_23 rfl gl_X8_118 so_69 rfl ?_
    refine AW.icmp_ge (pn := 29) (tg := 108) F dX8_readWord_26 rfl (by decide) hb (fun hb => ?_) (fun hb => ?_)
    · exact AW.vret F G dX8_readWord_108 ⟨rfl, hb⟩
    · refine AW.aload_n (pn := 30) F dX8_readWord_29 rfl rfl rfl ?_
      refine AW.getR (r := 79) (pn := 33) F dX8_readWord_30 rfl gl_X8_37 so_69 rfl ?_
      refine AW.aload_n (pn := 34) F dX8_readWord_33 rfl rfl rfl ?_
      refine AW.getI (pn := 37) F dX8_readWord_34 rfl gl_X8_135 so_69 rfl ?_
      refine AW.iald (pn := 38) F dX8_readWord_37 rfl so_79 hb (fun v5 hb => ?_)
      refine AW.i2l (pn := 39) F dX8_readWord_38 rfl ?_
      refine AW.ldc2 (x := 97) (pn := 42) F dX8_readWord_39 rfl tw_957 (by decide) ?_
      refine AW.ldc2 (x := 122) (pn := 45) F dX8_readWord_42 rfl tw_958 (by decide) ?_
      refine AW.cSP (pn := 48) (st := []) F dX8_readWord_45 rfl cl_X8_102 (p8_in_s (w32 v5) 97 122 hb) rfl rfl (Nat.le_of_ble_eq_true rfl) (by decide) (fun r6 hb => ?_)
      refine AW.if_eq (pn := 51) (tg := 108) F dX8_readWord_48 rfl (by decide) hb (fun hb => ?_) (fun hb => ?_)
      · exact AW.vret F G dX8_readWord_108 ⟨rfl, hb⟩
      · refine AW.aload_n (pn := 52) F dX8_readWord_51 rfl rfl rfl ?_
        refine AW.aload_n (pn := 53) F dX8_readWord_52 rfl rfl rfl ?_
        refine AW.getL (pn := 56) F dX8_readWord_53 rfl gl_X8_131 so_69 rfl ?_
        refine AW.ldc2 (x := 1000000000000) (pn := 59) F dX8_readWord_56 rfl tw_959 (by decide) ?_
        refine AW.lcmp (pn := 60) F dX8_readWord_59 rfl ?_
        refine jn_1 hb (fun (y9 : Int) => AW X 2 92 [some (vR 69), none] [vL y9, vR 69] h) (fun y9 hb => ?_) (fun K10 hK10 hb => ?_)
        · refine AW.putL (pn := 95) F dX8_readWord_92 rfl pl_X8_131 so_69 rfl hb (fun h11 hb => ?_)
          refine AW.aload_n (pn := 96) F dX8_readWord_95 rfl rfl rfl ?_
          refine AW.dupR (pn := 97) F dX8_readWord_96 rfl ?_
          refine AW.getI (pn := 100) F dX8_readWord_97 rfl gl_X8_135 so_69 rfl ?_
          refine AW.iconst (pn := 101) F dX8_readWord_100 rfl ?_
          refine AW.iadd (pn := 102) F dX8_readWord_101 rfl ?_
          refine AW.putI (pn := 105) F dX8_readWord_102 rfl pl_X8_135 so_69 rfl hb (fun h12 hb => ?_)
          refine AW.goto (tg := 18) F dX8_readWord_105 (by decide) ?_
          exact ih _ hb
        refine AW.if_le (pn := 63) (tg := 69) F dX8_readWord_60 rfl (by decide) hb (fun hb => ?_) (fun hb => ?_)
        · refine AW.ldc2 (x := 27) (pn := 72) F dX8_readWord_69 rfl tw_961 (by decide) ?_
          refine AW.aload_n (pn := 73) F dX8_readWord_72 rfl rfl rfl ?_
          refine AW.getL (pn := 76) F dX8_readWord_73 rfl gl_X8_131 so_69 rfl ?_
          refine AW.lmul (pn := 77) F dX8_readWord_76 rfl ?_
          refine AW.aload_n (pn := 78) F dX8_readWord_77 rfl rfl rfl ?_
          refine AW.getR (r := 79) (pn := 81) F dX8_readWord_78 rfl gl_X8_37 so_69 rfl ?_
          refine AW.aload_n (pn := 82) F dX8_readWord_81 rfl rfl rfl ?_
          refine AW.getI (pn := 85) F dX8_readWord_82 rfl gl_X8_135 so_69 rfl ?_
          refine AW.iald (pn := 86) F dX8_readWord_85 rfl so_79 hb (fun v13 hb => ?_)
          refine AW.i2l (pn := 87) F dX8_readWord_86 rfl ?_
          refine AW.ladd (pn := 88) F dX8_readWord_87 rfl ?_
          refine AW.ldc2 (x := 96) (pn := 91) F dX8_readWord_88 rfl tw_962 (by decide) ?_
          refine AW.lsub (pn := 92) F dX8_readWord_91 rfl ?_
          exact hK10 _ hb
        · refine AW.ldc2 (x := 2000000000000) (pn := 66) F dX8_readWord_63 rfl tw_960 (by decide) ?_
          refine AW.goto (tg := 92) F dX8_readWord_66 (by decide) ?_
          exact hK10 _ hb

theorem p8_readWord_69  {h : HP} {Q : HP → Prop} (hb : p8_readWord  h Q) : MT yX8_readWord cX8_readWord 2 none 2 [vR 69] h (QV Q) := by
  refine MT.of (own := RX8) (by decide) rfl (Nat.le_of_ble_eq_true rfl) rfl (fun X F G => ?_)
  unfold p8_readWord at hb
  refine AW.aload_n (pn := 1) F dX8_readWord_0 rfl rfl rfl ?_
  refine AW.cVI (pn := 4) (st := []) F dX8_readWord_1 rfl cl_X8_127 so_69 (p8_here_69  hb) rfl rfl (Nat.le_of_ble_eq_true rfl) (by decide) (fun r1 h2 hb => ?_)
  refine AW.istore_n (ls2 := [some (vR 69), some (vI r1)]) (pn := 5) F dX8_readWord_4 rfl rfl (by decide) rfl rfl ?_
  refine AW.aload_n (pn := 6) F dX8_readWord_5 rfl rfl rfl ?_
  refine AW.lconst (x := 0) (pn := 7) F dX8_readWord_6 rfl (by decide) ?_
  refine AW.putL (pn := 10) F dX8_readWord_7 rfl pl_X8_131 so_69 rfl hb (fun h3 hb => ?_)
  refine AW.aload_n (pn := 11) F dX8_readWord_10 rfl rfl rfl ?_
  refine AW.aload_n (pn := 12) F dX8_readWord_11 rfl rfl rfl ?_
  refine AW.getI (pn := 15) F dX8_readWord_12 rfl gl_X8_124 so_69 rfl ?_
  refine AW.putI (pn := 18) F dX8_readWord_15 rfl pl_X8_135 so_69 rfl hb (fun h4 hb => ?_)
  refine AW.drop [true, false] rfl ?_
  refine p8_readWord_L18_ok_69 F G  _ _ hb

theorem p8_code_s (x0 x1 x2 x3 x4 : Int) {h : HP} {Q : Int → Prop} (hb : p8_code x0 x1 x2 x3 x4 h Q) : MT yX8_code cX8_code 5 (some .long) 1 [vI x0, vI x1, vI x2, vI x3, vI x4] h (QLP h Q) := by
  refine MT.of (own := RX8) (by decide) rfl (Nat.le_of_ble_eq_true rfl) rfl (fun X F G => ?_)
  unfold p8_code at hb
  refine AW.ldc2 (x := 27) (pn := 3) F dX8_code_0 rfl tw_961 (by decide) ?_
  refine AW.ldc2 (x := 27) (pn := 6) F dX8_code_3 rfl tw_961 (by decide) ?_
  refine AW.ldc2 (x := 27) (pn := 9) F dX8_code_6 rfl tw_961 (by decide) ?_
  refine AW.ldc2 (x := 27) (pn := 12) F dX8_code_9 rfl tw_961 (by decide) ?_
  refine AW.iload_n (pn := 13) F dX8_code_12 rfl rfl rfl ?_
  refine AW.i2l (pn := 14) F dX8_code_13 rfl ?_
  refine AW.ldc2 (x := 96) (pn := 17) F dX8_code_14 rfl tw_962 (by decide) ?_
  refine AW.lsub (pn := 18) F dX8_code_17 rfl ?_
  refine AW.lmul (pn := 19) F dX8_code_18 rfl ?_
  refine AW.iload_n (pn := 20) F dX8_code_19 rfl rfl rfl ?_
  refine AW.i2l (pn := 21) F dX8_code_20 rfl ?_
  refine AW.ladd (pn := 22) F dX8_code_21 rfl ?_
  refine AW.ldc2 (x := 96) (pn := 25) F dX8_code_22 rfl tw_962 (by decide) ?_
  refine AW.lsub (pn := 26) F dX8_code_25 rfl ?_
  refine AW.lmul (pn := 27) F dX8_code_26 rfl ?_
  refine AW.iload_n (pn := 28) F dX8_code_27 rfl rfl rfl ?_
  refine AW.i2l (pn := 29) F dX8_code_28 rfl ?_
  refine AW.ladd (pn := 30) F dX8_code_29 rfl ?_
  refine AW.ldc2 (x := 96) (pn := 33) F dX8_code_30 rfl tw_962 (by decide) ?_
  refine AW.lsub (pn := 34) F dX8_code_33 rfl ?_
  refine AW.lmul (pn := 35) F dX8_code_34 rfl ?_
  refine AW.iload_n (pn := 36) F dX8_code_35 rfl rfl rfl ?_
  refine AW.i2l (pn := 37) F dX8_code_36 rfl ?_
  refine AW.ladd (pn := 38) F dX8_code_37 rfl ?_
  refine AW.ldc2 (x := 96) (pn := 41) F dX8_code_38 rfl tw_962 (by decide) ?_
  refine AW.lsub (pn := 42) F dX8_code_41 rfl ?_
  refine AW.lmul (pn := 43) F dX8_code_42 rfl ?_
  refine AW.iload (pn := 45) F dX8_code_43 rfl rfl ?_
  refine AW.i2l (pn := 46) F dX8_code_45 rfl ?_
  refine AW.ladd (pn := 47) F dX8_code_46 rfl ?_
  refine AW.ldc2 (x := 96) (pn := 50) F dX8_code_47 rfl tw_962 (by decide) ?_
  refine AW.lsub (pn := 51) F dX8_code_50 rfl ?_
  exact AW.lret F G dX8_code_51 ⟨rfl, _, rfl, hb⟩

theorem p8_fails_69 (x1 x2 : Int) {h : HP} {Q : Int → HP → Prop} (hb : p8_fails x1 x2 h Q) : MT yX8_fails cX8_fails 3 (some .int) 1 [vR 69, vI x1, vI x2] h (QI Q) := by
  refine MT.of (own := RX8) (by decide) rfl (Nat.le_of_ble_eq_true rfl) rfl (fun X F G => ?_)
  unfold p8_fails at hb
  refine AW.aload_n (pn := 1) F dX8_fails_0 rfl rfl rfl ?_
  refine AW.iload_n (pn := 2) F dX8_fails_1 rfl rfl rfl ?_
  refine AW.putI (pn := 5) F dX8_fails_2 rfl pl_X8_40 so_69 rfl hb (fun h1 hb => ?_)
  refine AW.iload_n (pn := 6) F dX8_fails_5 rfl rfl rfl ?_
  exact AW.iret F G dX8_fails_6 ⟨_, rfl, hb⟩

theorem p8_takeNumber_L42_ok_69 {X : Cx} {x1 x2 : Int} {E129 : HP → Prop} {Q : Int → HP → Prop} (F : Fx X cX8_takeNumber RX8 4 2) (G : Rx X (some .int) (QI Q)) (hE129 : ∀ (h : HP), E129 h → AW X 4 129 [some (vR 69), some (vI x1), some (vI x2), none] [] h) : ∀ (n : Nat) (h : HP), p8_takeNumber_L42 x1 x2 E129 n h → AW X 4 42 [some (vR 69), some (vI x1), some (vI x2), none] [] h := by
  intro n
  induction n with
  | zero => intro _ hb; exact hb.elim
  | succ n ih =>
    intro h hb
    unfold p8_takeNumber_L42 at hb
    refine AW.aload_n (pn := 43) F dX8_takeNumber_42 rfl rfl rfl ?_
    refine AW.getI (pn := 46) F dX8_takeNumber_43 rfl gl_X8_124 so_69 rfl ?_
    refine AW.aload_n (pn := 47) F dX8_takeNumber_46 rfl rfl rfl ?_
    refine AW.getI (pn := 50) F dX8_takeNumber_47 rfl gl_X8_118 so_69 rfl ?_
    refine AW.icmp_ge (pn := 53) (tg := 129) F dX8_takeNumber_50 rfl (by decide) hb (fun hb => ?_) (fun hb => ?_)
    · exact hE129 _ hb
    · refine AW.aload_n (pn := 54) F dX8_takeNumber_53 rfl rfl rfl ?_
      refine AW.getR (r := 79) (pn := 57) F dX8_takeNumber_54 rfl gl_X8_37 so_69 rfl ?_
      refine AW.aload_n (pn := 58) F dX8_takeNumber_57 rfl rfl rfl ?_
      refine AW.getI (pn := 61) F dX8_takeNumber_58 rfl gl_X8_124 so_69 rfl ?_
      refine AW.iald (pn := 62) F dX8_takeNumber_61 rfl so_79 hb (fun v6 hb => ?_)
      refine AW.i2l (pn := 63) F dX8_takeNumber_62 rfl ?_
      refine AW.ldc2 (x := 48) (pn := 66) F dX8_takeNumber_63 rfl tw_974 (by decide) ?_
      refine AW.ldc2 (x := 57) (pn := 69) F dX8_takeNumber_66 rfl tw_975 (by decide) ?_
      refine AW.cSP (pn := 72) (st := []) F dX8_takeNumber_69 rfl cl_X8_102 (p8_in_s (w32 v6) 48 57 hb) rfl rfl (Nat.le_of_ble_eq_true rfl) (by decide) (fun r7 hb => ?_)
      refine AW.if_eq (pn := 75) (tg := 129) F dX8_takeNumber_72 rfl (by decide) hb (fun hb => ?_) (fun hb => ?_)
      · exact hE129 _ hb
      · refine AW.aload_n (pn := 76) F dX8_takeNumber_75 rfl rfl rfl ?_
        refine AW.aload_n (pn := 77) F dX8_takeNumber_76 rfl rfl rfl ?_
        refine AW.getI (pn := 80) F dX8_takeNumber_77 rfl gl_X8_161 so_69 rfl ?_
        refine AW.sipush (pn := 83) F dX8_takeNumber_80 rfl (by decide) ?_
        refine jn_1 hb (fun (y10 : Int) => AW X 4 113 [some (vR 69), some (vI x1), some (vI x2), none] [vI y10, vR 69] h) (fun y10 hb => ?_) (fun K11 hK11 hb => ?_)
        · refine AW.putI (pn := 116) F dX8_takeNumber_113 rfl pl_X8_161 so_69 rfl hb (fun h12 hb => ?_)
          refine AW.aload_n (pn := 117) F dX8_takeNumber_116 rfl rfl rfl ?_
          refine AW.dupR (pn := 118) F dX8_takeNumber_117 rfl ?_
          refine AW.getI (pn := 121) F dX8_takeNumber_118 rfl gl_X8_124 so_69 rfl ?_
          refine AW.iconst (pn := 122) F dX8_takeNumber_121 rfl ?_
          refine AW.iadd (pn := 123) F dX8_takeNumber_122 rfl ?_
          refine AW.putI (pn := 126) F dX8_takeNumber_123 rfl pl_X8_124 so_69 rfl hb (fun h13 hb => ?_)
          refine AW.goto (tg := 42) F dX8_takeNumber_126 (by decide) ?_
          exact ih _ hb
        refine AW.icmp_le (pn := 86) (tg := 93) F dX8_takeNumber_83 rfl (by decide) hb (fun hb => ?_) (fun hb => ?_)
        · refine AW.bipush (pn := 95) F dX8_takeNumber_93 rfl (by decide) ?_
          refine AW.aload_n (pn := 96) F dX8_takeNumber_95 rfl rfl rfl ?_
          refine AW.getI (pn := 99) F dX8_takeNumber_96 rfl gl_X8_161 so_69 rfl ?_
          refine AW.imul (pn := 100) F dX8_takeNumber_99 rfl ?_
          refine AW.aload_n (pn := 101) F dX8_takeNumber_100 rfl rfl rfl ?_
          refine AW.getR (r := 79) (pn := 104) F dX8_takeNumber_101 rfl gl_X8_37 so_69 rfl ?_
          refine AW.aload_n (pn := 105) F dX8_takeNumber_104 rfl rfl rfl ?_
          refine AW.getI (pn := 108) F dX8_takeNumber_105 rfl gl_X8_124 so_69 rfl ?_
          refine AW.iald (pn := 109) F dX8_takeNumber_108 rfl so_79 hb (fun v14 hb => ?_)
          refine AW.iadd (pn := 110) F dX8_takeNumber_109 rfl ?_
          refine AW.bipush (pn := 112) F dX8_takeNumber_110 rfl (by decide) ?_
          refine AW.isub (pn := 113) F dX8_takeNumber_112 rfl ?_
          exact hK11 _ hb
        · refine AW.aload_n (pn := 87) F dX8_takeNumber_86 rfl rfl rfl ?_
          refine AW.getI (pn := 90) F dX8_takeNumber_87 rfl gl_X8_161 so_69 rfl ?_
          refine AW.goto (tg := 113) F dX8_takeNumber_90 (by decide) ?_
          exact hK11 _ hb

theorem p8_takeNumber_69 (x1 x2 : Int) {h : HP} {Q : Int → HP → Prop} (hb : p8_takeNumber x1 x2 h Q) : MT yX8_takeNumber cX8_takeNumber 4 (some .int) 2 [vR 69, vI x1, vI x2] h (QI Q) := by
  refine MT.of (own := RX8) (by decide) rfl (Nat.le_of_ble_eq_true rfl) rfl (fun X F G => ?_)
  unfold p8_takeNumber at hb
  refine AW.aload_n (pn := 1) F dX8_takeNumber_0 rfl rfl rfl ?_
  refine AW.cVI (pn := 4) (st := []) F dX8_takeNumber_1 rfl cl_X8_127 so_69 (p8_here_69  hb) rfl rfl (Nat.le_of_ble_eq_true rfl) (by decide) (fun r1 h2 hb => ?_)
  refine AW.istore_n (ls2 := [some (vR 69), some (vI x1), some (vI x2), some (vI r1)]) (pn := 5) F dX8_takeNumber_4 rfl rfl (by decide) rfl rfl ?_
  refine AW.iload_n (pn := 6) F dX8_takeNumber_5 rfl rfl rfl ?_
  refine AW.i2l (pn := 7) F dX8_takeNumber_6 rfl ?_
  refine AW.ldc2 (x := 48) (pn := 10) F dX8_takeNumber_7 rfl tw_974 (by decide) ?_
  refine AW.ldc2 (x := 57) (pn := 13) F dX8_takeNumber_10 rfl tw_975 (by decide) ?_
  refine AW.cSP (pn := 16) (st := []) F dX8_takeNumber_13 rfl cl_X8_102 (p8_in_s (w32 r1) 48 57 hb) rfl rfl (Nat.le_of_ble_eq_true rfl) (by decide) (fun r3 hb => ?_)
  refine AW.if_ne (pn := 19) (tg := 29) F dX8_takeNumber_16 rfl (by decide) hb (fun hb => ?_) (fun hb => ?_)
  · refine AW.aload_n (pn := 30) F dX8_takeNumber_29 rfl rfl rfl ?_
    refine AW.aload_n (pn := 31) F dX8_takeNumber_30 rfl rfl rfl ?_
    refine AW.getI (pn := 34) F dX8_takeNumber_31 rfl gl_X8_124 so_69 rfl ?_
    refine AW.putI (pn := 37) F dX8_takeNumber_34 rfl pl_X8_158 so_69 rfl hb (fun h4 hb => ?_)
    refine AW.aload_n (pn := 38) F dX8_takeNumber_37 rfl rfl rfl ?_
    refine AW.iconst (pn := 39) F dX8_takeNumber_38 rfl ?_
    refine AW.putI (pn := 42) F dX8_takeNumber_39 rfl pl_X8_161 so_69 rfl hb (fun h5 hb => ?_)
    refine AW.drop [true, true, true, false] rfl ?_
    refine p8_takeNumber_L42_ok_69 F G (fun h15 hb => ?_) _ _ hb
    refine AW.aload_n (pn := 130) F dX8_takeNumber_129 rfl rfl rfl ?_
    refine AW.getI (pn := 133) F dX8_takeNumber_130 rfl gl_X8_124 so_69 rfl ?_
    refine AW.aload_n (pn := 134) F dX8_takeNumber_133 rfl rfl rfl ?_
    refine AW.getI (pn := 137) F dX8_takeNumber_134 rfl gl_X8_158 so_69 rfl ?_
    refine AW.isub (pn := 138) F dX8_takeNumber_137 rfl ?_
    refine AW.iconst (pn := 139) F dX8_takeNumber_138 rfl ?_
    refine jn_0 hb (AW X 4 157 [some (vR 69), none, none, none] [] h15) (fun  hb => ?_) (fun K17 hK17 hb => ?_)
    · refine AW.aload_n (pn := 158) F dX8_takeNumber_157 rfl rfl rfl ?_
      refine AW.iconst (pn := 159) F dX8_takeNumber_158 rfl ?_
      refine AW.aload_n (pn := 160) F dX8_takeNumber_159 rfl rfl rfl ?_
      refine AW.getI (pn := 163) F dX8_takeNumber_160 rfl gl_X8_158 so_69 rfl ?_
      refine AW.cVI (pn := 166) (st := []) F dX8_takeNumber_163 rfl cl_X8_154 so_69 (p8_fails_69 2 (h15 69 22) hb) rfl rfl (Nat.le_of_ble_eq_true rfl) (by decide) (fun r18 h19 hb => ?_)
      refine AW.goto (tg := 170) F dX8_takeNumber_166 (by decide) ?_
      exact AW.iret F G dX8_takeNumber_170 ⟨_, rfl, hb⟩
    refine AW.icmp_gt (pn := 142) (tg := 157) F dX8_takeNumber_139 rfl (by decide) hb (fun hb => ?_) (fun hb => ?_)
    · refine AW.drop [true, false, false, true] rfl ?_
      exact hK17 hb
    · refine AW.aload_n (pn := 143) F dX8_takeNumber_142 rfl rfl rfl ?_
      refine AW.getI (pn := 146) F dX8_takeNumber_143 rfl gl_X8_161 so_69 rfl ?_
      refine AW.i2l (pn := 147) F dX8_takeNumber_146 rfl ?_
      refine AW.iload_n (pn := 148) F dX8_takeNumber_147 rfl rfl rfl ?_
      refine AW.i2l (pn := 149) F dX8_takeNumber_148 rfl ?_
      refine AW.iload_n (pn := 150) F dX8_takeNumber_149 rfl rfl rfl ?_
      refine AW.i2l (pn := 151) F dX8_takeNumber_150 rfl ?_
      refine AW.cSP (pn := 154) (st := []) F dX8_takeNumber_151 rfl cl_X8_102 (p8_in_s (w32 (h15 69 21)) (w32 x1) (w32 x2) hb) rfl rfl (Nat.le_of_ble_eq_true rfl) (by decide) (fun r20 hb => ?_)
      refine AW.if_ne (pn := 157) (tg := 169) F dX8_takeNumber_154 rfl (by decide) hb (fun hb => ?_) (fun hb => ?_)
      · refine AW.iconst (pn := 170) F dX8_takeNumber_169 rfl ?_
        exact AW.iret F G dX8_takeNumber_170 ⟨_, rfl, hb⟩
      · refine AW.drop [true, false, false, true] rfl ?_
        exact hK17 hb
  · refine AW.aload_n (pn := 20) F dX8_takeNumber_19 rfl rfl rfl ?_
    refine AW.iconst (pn := 21) F dX8_takeNumber_20 rfl ?_
    refine AW.aload_n (pn := 22) F dX8_takeNumber_21 rfl rfl rfl ?_
    refine AW.getI (pn := 25) F dX8_takeNumber_22 rfl gl_X8_124 so_69 rfl ?_
    refine AW.cVI (pn := 28) (st := []) F dX8_takeNumber_25 rfl cl_X8_154 so_69 (p8_fails_69 1 (h2 69 18) hb) rfl rfl (Nat.le_of_ble_eq_true rfl) (by decide) (fun r21 h22 hb => ?_)
    exact AW.iret F G dX8_takeNumber_28 ⟨_, rfl, hb⟩

theorem p8_takeWorth_69  {h : HP} {Q : Int → HP → Prop} (hb : p8_takeWorth  h Q) : MT yX8_takeWorth cX8_takeWorth 4 (some .int) 3 [vR 69] h (QI Q) := by
  refine MT.of (own := RX8) (by decide) rfl (Nat.le_of_ble_eq_true rfl) rfl (fun X F G => ?_)
  unfold p8_takeWorth at hb
  refine AW.aload_n (pn := 1) F dX8_takeWorth_0 rfl rfl rfl ?_
  refine AW.iconst (pn := 2) F dX8_takeWorth_1 rfl ?_
  refine AW.aload_n (pn := 3) F dX8_takeWorth_2 rfl rfl rfl ?_
  refine AW.getI (pn := 6) F dX8_takeWorth_3 rfl gl_X8_164 so_69 rfl ?_
  refine AW.iconst (pn := 7) F dX8_takeWorth_6 rfl ?_
  refine AW.isub (pn := 8) F dX8_takeWorth_7 rfl ?_
  refine AW.cVI (pn := 11) (st := []) F dX8_takeWorth_8 rfl cl_X8_167 so_69 (p8_takeNumber_69 0 ((h 69 24) - 1) hb) rfl rfl (Nat.le_of_ble_eq_true rfl) (by decide) (fun r1 h2 hb => ?_)
  refine AW.istore_n (ls2 := [some (vR 69), some (vI r1), none, none]) (pn := 12) F dX8_takeWorth_11 rfl rfl (by decide) rfl rfl ?_
  refine AW.aload_n (pn := 13) F dX8_takeWorth_12 rfl rfl rfl ?_
  refine AW.getI (pn := 16) F dX8_takeWorth_13 rfl gl_X8_161 so_69 rfl ?_
  refine AW.istore_n (ls2 := [some (vR 69), some (vI r1), some (vI (h2 69 21)), none]) (pn := 17) F dX8_takeWorth_16 rfl rfl (by decide) rfl rfl ?_
  refine AW.iload_n (pn := 18) F dX8_takeWorth_17 rfl rfl rfl ?_
  refine jn_2 hb (fun (y7 : Int) (h8 : HP) => AW X 4 36 [some (vR 69), none, some (vI (h2 69 21)), none] [vI y7] h8) (fun y7 h8 hb => ?_) (fun K9 hK9 hb => ?_)
  · refine AW.istore_n (ls2 := [some (vR 69), some (vI y7), some (vI (h2 69 21)), none]) (pn := 37) F dX8_takeWorth_36 rfl rfl (by decide) rfl rfl ?_
    refine AW.iload_n (pn := 38) F dX8_takeWorth_37 rfl rfl rfl ?_
    refine AW.if_le (pn := 41) (tg := 43) F dX8_takeWorth_38 rfl (by decide) hb (fun hb => ?_) (fun hb => ?_)
    · refine AW.bipush (pn := 45) F dX8_takeWorth_43 rfl (by decide) ?_
      refine AW.iload_n (pn := 46) F dX8_takeWorth_45 rfl rfl rfl ?_
      refine AW.imul (pn := 47) F dX8_takeWorth_46 rfl ?_
      refine AW.aload_n (pn := 48) F dX8_takeWorth_47 rfl rfl rfl ?_
      refine AW.getI (pn := 51) F dX8_takeWorth_48 rfl gl_X8_161 so_69 rfl ?_
      refine AW.iadd (pn := 52) F dX8_takeWorth_51 rfl ?_
      refine AW.istore_n (ls2 := [some (vR 69), some (vI y7), some (vI (h2 69 21)), some (vI ((6 * (h2 69 21)) + (h8 69 21)))]) (pn := 53) F dX8_takeWorth_52 rfl rfl (by decide) rfl rfl ?_
      refine AW.aload_n (pn := 54) F dX8_takeWorth_53 rfl rfl rfl ?_
      refine AW.getR (r := 83) (pn := 57) F dX8_takeWorth_54 rfl gl_X8_53 so_69 rfl ?_
      refine AW.iload_n (pn := 58) F dX8_takeWorth_57 rfl rfl rfl ?_
      refine AW.iald (pn := 59) F dX8_takeWorth_58 rfl so_83 hb (fun v10 hb => ?_)
      refine AW.if_lt (pn := 62) (tg := 72) F dX8_takeWorth_59 rfl (by decide) hb (fun hb => ?_) (fun hb => ?_)
      · refine AW.aload_n (pn := 73) F dX8_takeWorth_72 rfl rfl rfl ?_
        refine AW.dupR (pn := 74) F dX8_takeWorth_73 rfl ?_
        refine AW.getI (pn := 77) F dX8_takeWorth_74 rfl gl_X8_176 so_69 rfl ?_
        refine AW.iconst (pn := 78) F dX8_takeWorth_77 rfl ?_
        refine AW.iadd (pn := 79) F dX8_takeWorth_78 rfl ?_
        refine AW.putI (pn := 82) F dX8_takeWorth_79 rfl pl_X8_176 so_69 rfl hb (fun h11 hb => ?_)
        refine AW.aload_n (pn := 83) F dX8_takeWorth_82 rfl rfl rfl ?_
        refine AW.iconst (pn := 84) F dX8_takeWorth_83 rfl ?_
        refine AW.bipush (pn := 86) F dX8_takeWorth_84 rfl (by decide) ?_
        refine AW.cVI (pn := 89) (st := []) F dX8_takeWorth_86 rfl cl_X8_167 so_69 (p8_takeNumber_69 0 99 hb) rfl rfl (Nat.le_of_ble_eq_true rfl) (by decide) (fun r12 h13 hb => ?_)
        refine AW.istore_n (ls2 := [some (vR 69), some (vI r12), some (vI (h2 69 21)), some (vI ((6 * (h2 69 21)) + (h8 69 21)))]) (pn := 90) F dX8_takeWorth_89 rfl rfl (by decide) rfl rfl ?_
        refine AW.aload_n (pn := 91) F dX8_takeWorth_90 rfl rfl rfl ?_
        refine AW.getR (r := 83) (pn := 94) F dX8_takeWorth_91 rfl gl_X8_53 so_69 rfl ?_
        refine AW.iload_n (pn := 95) F dX8_takeWorth_94 rfl rfl rfl ?_
        refine AW.aload_n (pn := 96) F dX8_takeWorth_95 rfl rfl rfl ?_
        refine AW.getI (pn := 99) F dX8_takeWorth_96 rfl gl_X8_161 so_69 rfl ?_
        refine AW.iast (pn := 100) F dX8_takeWorth_99 rfl so_83 hb (fun h14 hb => ?_)
        refine AW.iload_n (pn := 101) F dX8_takeWorth_100 rfl rfl rfl ?_
        exact AW.iret F G dX8_takeWorth_101 ⟨_, rfl, hb⟩
      · refine AW.aload_n (pn := 63) F dX8_takeWorth_62 rfl rfl rfl ?_
        refine AW.iconst (pn := 64) F dX8_takeWorth_63 rfl ?_
        refine AW.aload_n (pn := 65) F dX8_takeWorth_64 rfl rfl rfl ?_
        refine AW.getI (pn := 68) F dX8_takeWorth_65 rfl gl_X8_158 so_69 rfl ?_
        refine AW.cVI (pn := 71) (st := []) F dX8_takeWorth_68 rfl cl_X8_154 so_69 (p8_fails_69 4 (h8 69 22) hb) rfl rfl (Nat.le_of_ble_eq_true rfl) (by decide) (fun r15 h16 hb => ?_)
        exact AW.iret F G dX8_takeWorth_71 ⟨_, rfl, hb⟩
    · refine AW.iload_n (pn := 42) F dX8_takeWorth_41 rfl rfl rfl ?_
      exact AW.iret F G dX8_takeWorth_42 ⟨_, rfl, hb⟩
  refine AW.if_le (pn := 21) (tg := 25) F dX8_takeWorth_18 rfl (by decide) hb (fun hb => ?_) (fun hb => ?_)
  · refine AW.aload_n (pn := 26) F dX8_takeWorth_25 rfl rfl rfl ?_
    refine AW.iconst (pn := 27) F dX8_takeWorth_26 rfl ?_
    refine AW.aload_n (pn := 28) F dX8_takeWorth_27 rfl rfl rfl ?_
    refine AW.getI (pn := 31) F dX8_takeWorth_28 rfl gl_X8_170 so_69 rfl ?_
    refine AW.iconst (pn := 32) F dX8_takeWorth_31 rfl ?_
    refine AW.isub (pn := 33) F dX8_takeWorth_32 rfl ?_
    refine AW.cVI (pn := 36) (st := []) F dX8_takeWorth_33 rfl cl_X8_167 so_69 (p8_takeNumber_69 0 ((h2 69 23) - 1) hb) rfl rfl (Nat.le_of_ble_eq_true rfl) (by decide) (fun r17 h18 hb => ?_)
    refine AW.drop [true, false, true, true] rfl ?_
    exact hK9 _ _ hb
  · refine AW.iload_n (pn := 22) F dX8_takeWorth_21 rfl rfl rfl ?_
    refine AW.goto (tg := 36) F dX8_takeWorth_22 (by decide) ?_
    refine AW.drop [true, false, true, true] rfl ?_
    exact hK9 _ _ hb

theorem p8_takeHouse_L35_ok_69 {X : Cx} {x1 : Int} {Q : Int → HP → Prop} (F : Fx X cX8_takeHouse RX8 4 3) (G : Rx X (some .int) (QI Q))  : ∀ (n : Nat) (h : HP) (x2 : Int) (x3 : Int), p8_takeHouse_L35 x1 Q n h x2 x3 → AW X 4 35 [some (vR 69), some (vI x1), some (vI x2), some (vI x3)] [] h := by
  intro n
  induction n with
  | zero => intro _ _ _ hb; exact hb.elim
  | succ n ih =>
    intro h x2 x3 hb
    unfold p8_takeHouse_L35 at hb
    refine AW.iload_n (pn := 36) F dX8_takeHouse_35 rfl rfl rfl ?_
    refine AW.if_ne (pn := 39) (tg := 134) F dX8_takeHouse_36 rfl (by decide) hb (fun hb => ?_) (fun hb => ?_)
    · refine AW.iload_n (pn := 135) F dX8_takeHouse_134 rfl rfl rfl ?_
      exact AW.iret F G dX8_takeHouse_135 ⟨_, rfl, hb⟩
    · refine AW.aload_n (pn := 40) F dX8_takeHouse_39 rfl rfl rfl ?_
      refine AW.cVI (pn := 43) (st := []) F dX8_takeHouse_40 rfl cl_X8_127 so_69 (p8_here_69  hb) rfl rfl (Nat.le_of_ble_eq_true rfl) (by decide) (fun r5 h6 hb => ?_)
      refine AW.i2l (pn := 44) F dX8_takeHouse_43 rfl ?_
      refine AW.ldc2 (x := 48) (pn := 47) F dX8_takeHouse_44 rfl tw_974 (by decide) ?_
      refine AW.ldc2 (x := 57) (pn := 50) F dX8_takeHouse_47 rfl tw_975 (by decide) ?_
      refine AW.cSP (pn := 53) (st := []) F dX8_takeHouse_50 rfl cl_X8_102 (p8_in_s (w32 r5) 48 57 hb) rfl rfl (Nat.le_of_ble_eq_true rfl) (by decide) (fun r7 hb => ?_)
      refine AW.if_eq (pn := 56) (tg := 134) F dX8_takeHouse_53 rfl (by decide) hb (fun hb => ?_) (fun hb => ?_)
      · refine AW.iload_n (pn := 135) F dX8_takeHouse_134 rfl rfl rfl ?_
        exact AW.iret F G dX8_takeHouse_135 ⟨_, rfl, hb⟩
      · refine AW.aload_n (pn := 57) F dX8_takeHouse_56 rfl rfl rfl ?_
        refine AW.iconst (pn := 58) F dX8_takeHouse_57 rfl ?_
        refine AW.aload_n (pn := 59) F dX8_takeHouse_58 rfl rfl rfl ?_
        refine AW.getI (pn := 62) F dX8_takeHouse_59 rfl gl_X8_170 so_69 rfl ?_
        refine AW.iconst (pn := 63) F dX8_takeHouse_62 rfl ?_
        refine AW.isub (pn := 64) F dX8_takeHouse_63 rfl ?_
        refine AW.cVI (pn := 67) (st := []) F dX8_takeHouse_64 rfl cl_X8_167 so_69 (p8_takeNumber_69 0 ((h6 69 23) - 1) hb) rfl rfl (Nat.le_of_ble_eq_true rfl) (by decide) (fun r8 h9 hb => ?_)
        refine AW.istore_n (ls2 := [some (vR 69), some (vI x1), some (vI r8), some (vI x3)]) (pn := 68) F dX8_takeHouse_67 rfl rfl (by decide) rfl rfl ?_
        refine AW.iload_n (pn := 69) F dX8_takeHouse_68 rfl rfl rfl ?_
        refine jn_2 hb (fun (y14 : Int) (h15 : HP) => AW X 4 90 [some (vR 69), some (vI x1), none, some (vI x3)] [vI y14] h15) (fun y14 h15 hb => ?_) (fun K16 hK16 hb => ?_)
        · refine AW.istore_n (ls2 := [some (vR 69), some (vI x1), some (vI y14), some (vI x3)]) (pn := 91) F dX8_takeHouse_90 rfl rfl (by decide) rfl rfl ?_
          refine AW.iload_n (pn := 92) F dX8_takeHouse_91 rfl rfl rfl ?_
          refine AW.if_ne (pn := 95) (tg := 35) F dX8_takeHouse_92 rfl (by decide) hb (fun hb => ?_) (fun hb => ?_)
          · exact ih _ _ _ hb
          · refine AW.aload_n (pn := 96) F dX8_takeHouse_95 rfl rfl rfl ?_
            refine AW.getR (r := 81) (pn := 99) F dX8_takeHouse_96 rfl gl_X8_47 so_69 rfl ?_
            refine AW.aload_n (pn := 100) F dX8_takeHouse_99 rfl rfl rfl ?_
            refine AW.getI (pn := 103) F dX8_takeHouse_100 rfl gl_X8_173 so_69 rfl ?_
            refine AW.aload_n (pn := 104) F dX8_takeHouse_103 rfl rfl rfl ?_
            refine AW.getI (pn := 107) F dX8_takeHouse_104 rfl gl_X8_161 so_69 rfl ?_
            refine AW.iast (pn := 108) F dX8_takeHouse_107 rfl so_81 hb (fun h17 hb => ?_)
            refine AW.aload_n (pn := 109) F dX8_takeHouse_108 rfl rfl rfl ?_
            refine AW.getR (r := 82) (pn := 112) F dX8_takeHouse_109 rfl gl_X8_50 so_69 rfl ?_
            refine AW.aload_n (pn := 113) F dX8_takeHouse_112 rfl rfl rfl ?_
            refine AW.getI (pn := 116) F dX8_takeHouse_113 rfl gl_X8_173 so_69 rfl ?_
            refine AW.iload_n (pn := 117) F dX8_takeHouse_116 rfl rfl rfl ?_
            refine AW.iast (pn := 118) F dX8_takeHouse_117 rfl so_82 hb (fun h18 hb => ?_)
            refine AW.aload_n (pn := 119) F dX8_takeHouse_118 rfl rfl rfl ?_
            refine AW.dupR (pn := 120) F dX8_takeHouse_119 rfl ?_
            refine AW.getI (pn := 123) F dX8_takeHouse_120 rfl gl_X8_173 so_69 rfl ?_
            refine AW.iconst (pn := 124) F dX8_takeHouse_123 rfl ?_
            refine AW.iadd (pn := 125) F dX8_takeHouse_124 rfl ?_
            refine AW.putI (pn := 128) F dX8_takeHouse_125 rfl pl_X8_173 so_69 rfl hb (fun h19 hb => ?_)
            refine AW.iinc (ls2 := [some (vR 69), some (vI x1), some (vI y14), some (vI (x3 + 1))]) (pn := 131) F dX8_takeHouse_128 rfl rfl (by decide) rfl rfl ?_
            refine AW.goto (tg := 35) F dX8_takeHouse_131 (by decide) ?_
            exact ih _ _ _ hb
        refine jn_0 hb (AW X 4 89 [some (vR 69), some (vI x1), some (vI r8), some (vI x3)] [] h9) (fun  hb => ?_) (fun K20 hK20 hb => ?_)
        · refine AW.iload_n (pn := 90) F dX8_takeHouse_89 rfl rfl rfl ?_
          refine AW.drop [true, true, false, true] rfl ?_
          exact hK16 _ _ hb
        refine AW.if_ne (pn := 72) (tg := 89) F dX8_takeHouse_69 rfl (by decide) hb (fun hb => ?_) (fun hb => ?_)
        · exact hK20 hb
        · refine AW.iload_n (pn := 73) F dX8_takeHouse_72 rfl rfl rfl ?_
          refine AW.iconst (pn := 74) F dX8_takeHouse_73 rfl ?_
          refine AW.icmp_ne (pn := 77) (tg := 89) F dX8_takeHouse_74 rfl (by decide) hb (fun hb => ?_) (fun hb => ?_)
          · exact hK20 hb
          · refine AW.aload_n (pn := 78) F dX8_takeHouse_77 rfl rfl rfl ?_
            refine AW.iconst (pn := 79) F dX8_takeHouse_78 rfl ?_
            refine AW.aload_n (pn := 80) F dX8_takeHouse_79 rfl rfl rfl ?_
            refine AW.getI (pn := 83) F dX8_takeHouse_80 rfl gl_X8_158 so_69 rfl ?_
            refine AW.cVI (pn := 86) (st := []) F dX8_takeHouse_83 rfl cl_X8_154 so_69 (p8_fails_69 4 (h9 69 22) hb) rfl rfl (Nat.le_of_ble_eq_true rfl) (by decide) (fun r21 h22 hb => ?_)
            refine AW.goto (tg := 90) F dX8_takeHouse_86 (by decide) ?_
            refine AW.drop [true, true, false, true] rfl ?_
            exact hK16 _ _ hb

theorem p8_takeHouse_69  {h : HP} {Q : Int → HP → Prop} (hb : p8_takeHouse  h Q) : MT yX8_takeHouse cX8_takeHouse 4 (some .int) 3 [vR 69] h (QI Q) := by
  refine MT.of (own := RX8) (by decide) rfl (Nat.le_of_ble_eq_true rfl) rfl (fun X F G => ?_)
  unfold p8_takeHouse at hb
  refine AW.aload_n (pn := 1) F dX8_takeHouse_0 rfl rfl rfl ?_
  refine AW.getI (pn := 4) F dX8_takeHouse_1 rfl gl_X8_164 so_69 rfl ?_
  refine AW.istore_n (ls2 := [some (vR 69), some (vI (h 69 24)), none, none]) (pn := 5) F dX8_takeHouse_4 rfl rfl (by decide) rfl rfl ?_
  refine AW.aload_n (pn := 6) F dX8_takeHouse_5 rfl rfl rfl ?_
  refine AW.dupR (pn := 7) F dX8_takeHouse_6 rfl ?_
  refine AW.getI (pn := 10) F dX8_takeHouse_7 rfl gl_X8_164 so_69 rfl ?_
  refine AW.iconst (pn := 11) F dX8_takeHouse_10 rfl ?_
  refine AW.iadd (pn := 12) F dX8_takeHouse_11 rfl ?_
  refine AW.putI (pn := 15) F dX8_takeHouse_12 rfl pl_X8_164 so_69 rfl hb (fun h1 hb => ?_)
  refine AW.aload_n (pn := 16) F dX8_takeHouse_15 rfl rfl rfl ?_
  refine AW.iconst (pn := 17) F dX8_takeHouse_16 rfl ?_
  refine AW.bipush (pn := 19) F dX8_takeHouse_17 rfl (by decide) ?_
  refine AW.cVI (pn := 22) (st := []) F dX8_takeHouse_19 rfl cl_X8_167 so_69 (p8_takeNumber_69 0 99 hb) rfl rfl (Nat.le_of_ble_eq_true rfl) (by decide) (fun r2 h3 hb => ?_)
  refine AW.istore_n (ls2 := [some (vR 69), some (vI (h 69 24)), some (vI r2), none]) (pn := 23) F dX8_takeHouse_22 rfl rfl (by decide) rfl rfl ?_
  refine AW.aload_n (pn := 24) F dX8_takeHouse_23 rfl rfl rfl ?_
  refine AW.getR (r := 80) (pn := 27) F dX8_takeHouse_24 rfl gl_X8_44 so_69 rfl ?_
  refine AW.iload_n (pn := 28) F dX8_takeHouse_27 rfl rfl rfl ?_
  refine AW.aload_n (pn := 29) F dX8_takeHouse_28 rfl rfl rfl ?_
  refine AW.getI (pn := 32) F dX8_takeHouse_29 rfl gl_X8_161 so_69 rfl ?_
  refine AW.iast (pn := 33) F dX8_takeHouse_32 rfl so_80 hb (fun h4 hb => ?_)
  refine AW.iconst (pn := 34) F dX8_takeHouse_33 rfl ?_
  refine AW.istore_n (ls2 := [some (vR 69), some (vI (h 69 24)), some (vI r2), some (vI 0)]) (pn := 35) F dX8_takeHouse_34 rfl rfl (by decide) rfl rfl ?_
  refine p8_takeHouse_L35_ok_69 F G  _ _ _ _ hb

theorem p8_takeClause_69  {h : HP} {Q : Int → HP → Prop} (hb : p8_takeClause  h Q) : MT yX8_takeClause cX8_takeClause 3 (some .int) 4 [vR 69] h (QI Q) := by
  refine MT.of (own := RX8) (by decide) rfl (Nat.le_of_ble_eq_true rfl) rfl (fun X F G => ?_)
  unfold p8_takeClause at hb
  refine AW.aload_n (pn := 1) F dX8_takeClause_0 rfl rfl rfl ?_
  refine AW.cVV (pn := 4) (st := []) F dX8_takeClause_1 rfl cl_X8_179 so_69 (p8_readWord_69  hb) rfl rfl (Nat.le_of_ble_eq_true rfl) (by decide) (fun h1 hb => ?_)
  refine AW.aload_n (pn := 5) F dX8_takeClause_4 rfl rfl rfl ?_
  refine AW.getL (pn := 8) F dX8_takeClause_5 rfl gl_X8_131 so_69 rfl ?_
  refine AW.bipush (pn := 10) F dX8_takeClause_8 rfl (by decide) ?_
  refine AW.bipush (pn := 12) F dX8_takeClause_10 rfl (by decide) ?_
  refine AW.bipush (pn := 14) F dX8_takeClause_12 rfl (by decide) ?_
  refine AW.bipush (pn := 16) F dX8_takeClause_14 rfl (by decide) ?_
  refine AW.bipush (pn := 18) F dX8_takeClause_16 rfl (by decide) ?_
  refine AW.cSLP (pn := 21) (st := [vL (h1 69 19)]) F dX8_takeClause_18 rfl cl_X8_182 (p8_code_s 115 111 114 116 115 hb) rfl rfl (Nat.le_of_ble_eq_true rfl) (by decide) (fun r2 hb => ?_)
  refine AW.lcmp (pn := 22) F dX8_takeClause_21 rfl ?_
  refine jn_1 hb (fun (y6 : Int) => AW X 3 80 [some (vR 69), none, none] [vI y6] h1) (fun y6 hb => ?_) (fun K7 hK7 hb => ?_)
  · refine AW.istore_n (ls2 := [some (vR 69), some (vI y6), none]) (pn := 81) F dX8_takeClause_80 rfl rfl (by decide) rfl rfl ?_
    refine AW.iload_n (pn := 82) F dX8_takeClause_81 rfl rfl rfl ?_
    refine jn_0 hb (AW X 3 96 [some (vR 69), none, none] [] h1) (fun  hb => ?_) (fun K65 hK65 hb => ?_)
    · refine AW.aload_n (pn := 97) F dX8_takeClause_96 rfl rfl rfl ?_
      refine AW.iconst (pn := 98) F dX8_takeClause_97 rfl ?_
      refine AW.aload_n (pn := 99) F dX8_takeClause_98 rfl rfl rfl ?_
      refine AW.getI (pn := 102) F dX8_takeClause_99 rfl gl_X8_124 so_69 rfl ?_
      refine AW.cVI (pn := 105) (st := []) F dX8_takeClause_102 rfl cl_X8_154 so_69 (p8_fails_69 1 (h1 69 18) hb) rfl rfl (Nat.le_of_ble_eq_true rfl) (by decide) (fun r66 h67 hb => ?_)
      exact AW.iret F G dX8_takeClause_105 ⟨_, rfl, hb⟩
    refine AW.if_lt (pn := 85) (tg := 96) F dX8_takeClause_82 rfl (by decide) hb (fun hb => ?_) (fun hb => ?_)
    · refine AW.drop [true, false, true] rfl ?_
      exact hK65 hb
    · refine AW.iload_n (pn := 86) F dX8_takeClause_85 rfl rfl rfl ?_
      refine jn_0 hb (AW X 3 106 [some (vR 69), some (vI y6), none] [] h1) (fun  hb => ?_) (fun K68 hK68 hb => ?_)
      · refine AW.iload_n (pn := 107) F dX8_takeClause_106 rfl rfl rfl ?_
        refine jn_0 hb (AW X 3 155 [some (vR 69), some (vI y6), none] [] h1) (fun  hb => ?_) (fun K71 hK71 hb => ?_)
        · refine AW.aload_n (pn := 156) F dX8_takeClause_155 rfl rfl rfl ?_
          refine AW.aload_n (pn := 157) F dX8_takeClause_156 rfl rfl rfl ?_
          refine AW.getI (pn := 160) F dX8_takeClause_157 rfl gl_X8_135 so_69 rfl ?_
          refine AW.putI (pn := 163) F dX8_takeClause_160 rfl pl_X8_124 so_69 rfl hb (fun h72 hb => ?_)
          refine AW.iconst (pn := 164) F dX8_takeClause_163 rfl ?_
          refine AW.istore_n (ls2 := [some (vR 69), some (vI y6), some (vI 0)]) (pn := 165) F dX8_takeClause_164 rfl rfl (by decide) rfl rfl ?_
          refine AW.iload_n (pn := 166) F dX8_takeClause_165 rfl rfl rfl ?_
          refine jn_2 hb (fun (y91 : Int) (h92 : HP) => AW X 3 205 [some (vR 69), none, some (vI y91)] [] h92) (fun y91 h92 hb => ?_) (fun K93 hK93 hb => ?_)
          · refine AW.iload_n (pn := 206) F dX8_takeClause_205 rfl rfl rfl ?_
            refine jn_1 hb (fun (h99 : HP) => AW X 3 228 [some (vR 69), none, some (vI y91)] [] h99) (fun h99 hb => ?_) (fun K100 hK100 hb => ?_)
            · refine AW.aload_n (pn := 229) F dX8_takeClause_228 rfl rfl rfl ?_
              refine AW.dupR (pn := 230) F dX8_takeClause_229 rfl ?_
              refine AW.getI (pn := 233) F dX8_takeClause_230 rfl gl_X8_124 so_69 rfl ?_
              refine AW.iconst (pn := 234) F dX8_takeClause_233 rfl ?_
              refine AW.iadd (pn := 235) F dX8_takeClause_234 rfl ?_
              refine AW.putI (pn := 238) F dX8_takeClause_235 rfl pl_X8_124 so_69 rfl hb (fun h101 hb => ?_)
              refine AW.iload_n (pn := 239) F dX8_takeClause_238 rfl rfl rfl ?_
              exact AW.iret F G dX8_takeClause_239 ⟨_, rfl, hb⟩
            refine AW.if_ne (pn := 209) (tg := 228) F dX8_takeClause_206 rfl (by decide) hb (fun hb => ?_) (fun hb => ?_)
            · exact hK100 _ hb
            · refine AW.aload_n (pn := 210) F dX8_takeClause_209 rfl rfl rfl ?_
              refine AW.cVI (pn := 213) (st := []) F dX8_takeClause_210 rfl cl_X8_127 so_69 (p8_here_69  hb) rfl rfl (Nat.le_of_ble_eq_true rfl) (by decide) (fun r102 h103 hb => ?_)
              refine AW.bipush (pn := 215) F dX8_takeClause_213 rfl (by decide) ?_
              refine AW.icmp_eq (pn := 218) (tg := 228) F dX8_takeClause_215 rfl (by decide) hb (fun hb => ?_) (fun hb => ?_)
              · exact hK100 _ hb
              · refine AW.aload_n (pn := 219) F dX8_takeClause_218 rfl rfl rfl ?_
                refine AW.iconst (pn := 220) F dX8_takeClause_219 rfl ?_
                refine AW.aload_n (pn := 221) F dX8_takeClause_220 rfl rfl rfl ?_
                refine AW.getI (pn := 224) F dX8_takeClause_221 rfl gl_X8_124 so_69 rfl ?_
                refine AW.cVI (pn := 227) (st := []) F dX8_takeClause_224 rfl cl_X8_154 so_69 (p8_fails_69 1 (h103 69 18) hb) rfl rfl (Nat.le_of_ble_eq_true rfl) (by decide) (fun r104 h105 hb => ?_)
                exact AW.iret F G dX8_takeClause_227 ⟨_, rfl, hb⟩
          refine AW.if_ne (pn := 169) (tg := 188) F dX8_takeClause_166 rfl (by decide) hb (fun hb => ?_) (fun hb => ?_)
          · refine AW.iload_n (pn := 189) F dX8_takeClause_188 rfl rfl rfl ?_
            refine AW.iconst (pn := 190) F dX8_takeClause_189 rfl ?_
            refine jn_2 hb (fun (y112 : Int) (h113 : HP) => AW X 3 204 [some (vR 69), none, none] [vI y112] h113) (fun y112 h113 hb => ?_) (fun K114 hK114 hb => ?_)
            · refine AW.istore_n (ls2 := [some (vR 69), none, some (vI y112)]) (pn := 205) F dX8_takeClause_204 rfl rfl (by decide) rfl rfl ?_
              exact hK93 _ _ hb
            refine AW.icmp_ne (pn := 193) (tg := 200) F dX8_takeClause_190 rfl (by decide) hb (fun hb => ?_) (fun hb => ?_)
            · refine AW.aload_n (pn := 201) F dX8_takeClause_200 rfl rfl rfl ?_
              refine AW.cVI (pn := 204) (st := []) F dX8_takeClause_201 rfl cl_X8_189 so_69 (p8_takeWorth_69  hb) rfl rfl (Nat.le_of_ble_eq_true rfl) (by decide) (fun r115 h116 hb => ?_)
              refine AW.drop [true, false, false] rfl ?_
              exact hK114 _ _ hb
            · refine AW.aload_n (pn := 194) F dX8_takeClause_193 rfl rfl rfl ?_
              refine AW.cVI (pn := 197) (st := []) F dX8_takeClause_194 rfl cl_X8_186 so_69 (p8_takeHouse_69  hb) rfl rfl (Nat.le_of_ble_eq_true rfl) (by decide) (fun r117 h118 hb => ?_)
              refine AW.goto (tg := 204) F dX8_takeClause_197 (by decide) ?_
              refine AW.drop [true, false, false] rfl ?_
              exact hK114 _ _ hb
          · refine AW.aload_n (pn := 170) F dX8_takeClause_169 rfl rfl rfl ?_
            refine AW.iconst (pn := 171) F dX8_takeClause_170 rfl ?_
            refine AW.bipush (pn := 173) F dX8_takeClause_171 rfl (by decide) ?_
            refine AW.cVI (pn := 176) (st := []) F dX8_takeClause_173 rfl cl_X8_167 so_69 (p8_takeNumber_69 1 6 hb) rfl rfl (Nat.le_of_ble_eq_true rfl) (by decide) (fun r119 h120 hb => ?_)
            refine AW.istore_n (ls2 := [some (vR 69), some (vI y6), some (vI r119)]) (pn := 177) F dX8_takeClause_176 rfl rfl (by decide) rfl rfl ?_
            refine AW.aload_n (pn := 178) F dX8_takeClause_177 rfl rfl rfl ?_
            refine AW.aload_n (pn := 179) F dX8_takeClause_178 rfl rfl rfl ?_
            refine AW.getI (pn := 182) F dX8_takeClause_179 rfl gl_X8_161 so_69 rfl ?_
            refine AW.putI (pn := 185) F dX8_takeClause_182 rfl pl_X8_170 so_69 rfl hb (fun h121 hb => ?_)
            refine AW.goto (tg := 205) F dX8_takeClause_185 (by decide) ?_
            refine AW.drop [true, false, true] rfl ?_
            exact hK93 _ _ hb
        refine jn_0 hb (AW X 3 145 [some (vR 69), none, none] [] h1) (fun  hb => ?_) (fun K122 hK122 hb => ?_)
        · refine AW.aload_n (pn := 146) F dX8_takeClause_145 rfl rfl rfl ?_
          refine AW.iconst (pn := 147) F dX8_takeClause_146 rfl ?_
          refine AW.aload_n (pn := 148) F dX8_takeClause_147 rfl rfl rfl ?_
          refine AW.getI (pn := 151) F dX8_takeClause_148 rfl gl_X8_124 so_69 rfl ?_
          refine AW.cVI (pn := 154) (st := []) F dX8_takeClause_151 rfl cl_X8_154 so_69 (p8_fails_69 3 (h1 69 18) hb) rfl rfl (Nat.le_of_ble_eq_true rfl) (by decide) (fun r123 h124 hb => ?_)
          exact AW.iret F G dX8_takeClause_154 ⟨_, rfl, hb⟩
        refine AW.if_ne (pn := 110) (tg := 120) F dX8_takeClause_107 rfl (by decide) hb (fun hb => ?_) (fun hb => ?_)
        · refine AW.iload_n (pn := 121) F dX8_takeClause_120 rfl rfl rfl ?_
          refine AW.iconst (pn := 122) F dX8_takeClause_121 rfl ?_
          refine AW.icmp_ne (pn := 125) (tg := 136) F dX8_takeClause_122 rfl (by decide) hb (fun hb => ?_) (fun hb => ?_)
          · refine AW.aload_n (pn := 137) F dX8_takeClause_136 rfl rfl rfl ?_
            refine AW.getI (pn := 140) F dX8_takeClause_137 rfl gl_X8_176 so_69 rfl ?_
            refine AW.bipush (pn := 142) F dX8_takeClause_140 rfl (by decide) ?_
            refine AW.icmp_ne (pn := 145) (tg := 155) F dX8_takeClause_142 rfl (by decide) hb (fun hb => ?_) (fun hb => ?_)
            · exact hK71 hb
            · refine AW.drop [true, false, true] rfl ?_
              exact hK122 hb
          · refine AW.aload_n (pn := 126) F dX8_takeClause_125 rfl rfl rfl ?_
            refine AW.getI (pn := 129) F dX8_takeClause_126 rfl gl_X8_164 so_69 rfl ?_
            refine AW.iconst (pn := 130) F dX8_takeClause_129 rfl ?_
            refine AW.icmp_ne (pn := 133) (tg := 155) F dX8_takeClause_130 rfl (by decide) hb (fun hb => ?_) (fun hb => ?_)
            · exact hK71 hb
            · refine AW.goto (tg := 145) F dX8_takeClause_133 (by decide) ?_
              refine AW.drop [true, false, true] rfl ?_
              exact hK122 hb
        · refine AW.aload_n (pn := 111) F dX8_takeClause_110 rfl rfl rfl ?_
          refine AW.getI (pn := 114) F dX8_takeClause_111 rfl gl_X8_170 so_69 rfl ?_
          refine AW.if_le (pn := 117) (tg := 155) F dX8_takeClause_114 rfl (by decide) hb (fun hb => ?_) (fun hb => ?_)
          · exact hK71 hb
          · refine AW.goto (tg := 145) F dX8_takeClause_117 (by decide) ?_
            refine AW.drop [true, false, true] rfl ?_
            exact hK122 hb
      refine AW.if_le (pn := 89) (tg := 106) F dX8_takeClause_86 rfl (by decide) hb (fun hb => ?_) (fun hb => ?_)
      · exact hK68 hb
      · refine AW.aload_n (pn := 90) F dX8_takeClause_89 rfl rfl rfl ?_
        refine AW.getI (pn := 93) F dX8_takeClause_90 rfl gl_X8_170 so_69 rfl ?_
        refine AW.if_ne (pn := 96) (tg := 106) F dX8_takeClause_93 rfl (by decide) hb (fun hb => ?_) (fun hb => ?_)
        · exact hK68 hb
        · refine AW.drop [true, false, true] rfl ?_
          exact hK65 hb
  refine AW.if_ne (pn := 25) (tg := 29) F dX8_takeClause_22 rfl (by decide) hb (fun hb => ?_) (fun hb => ?_)
  · refine AW.aload_n (pn := 30) F dX8_takeClause_29 rfl rfl rfl ?_
    refine AW.getL (pn := 33) F dX8_takeClause_30 rfl gl_X8_131 so_69 rfl ?_
    refine AW.bipush (pn := 35) F dX8_takeClause_33 rfl (by decide) ?_
    refine AW.bipush (pn := 37) F dX8_takeClause_35 rfl (by decide) ?_
    refine AW.bipush (pn := 39) F dX8_takeClause_37 rfl (by decide) ?_
    refine AW.bipush (pn := 41) F dX8_takeClause_39 rfl (by decide) ?_
    refine AW.bipush (pn := 43) F dX8_takeClause_41 rfl (by decide) ?_
    refine AW.cSLP (pn := 46) (st := [vL (h1 69 19)]) F dX8_takeClause_43 rfl cl_X8_182 (p8_code_s 104 111 117 115 101 hb) rfl rfl (Nat.le_of_ble_eq_true rfl) (by decide) (fun r125 hb => ?_)
    refine AW.lcmp (pn := 47) F dX8_takeClause_46 rfl ?_
    refine AW.if_ne (pn := 50) (tg := 54) F dX8_takeClause_47 rfl (by decide) hb (fun hb => ?_) (fun hb => ?_)
    · refine AW.aload_n (pn := 55) F dX8_takeClause_54 rfl rfl rfl ?_
      refine AW.getL (pn := 58) F dX8_takeClause_55 rfl gl_X8_131 so_69 rfl ?_
      refine AW.bipush (pn := 60) F dX8_takeClause_58 rfl (by decide) ?_
      refine AW.bipush (pn := 62) F dX8_takeClause_60 rfl (by decide) ?_
      refine AW.bipush (pn := 64) F dX8_takeClause_62 rfl (by decide) ?_
      refine AW.bipush (pn := 66) F dX8_takeClause_64 rfl (by decide) ?_
      refine AW.bipush (pn := 68) F dX8_takeClause_66 rfl (by decide) ?_
      refine AW.cSLP (pn := 71) (st := [vL (h1 69 19)]) F dX8_takeClause_68 rfl cl_X8_182 (p8_code_s 119 111 114 116 104 hb) rfl rfl (Nat.le_of_ble_eq_true rfl) (by decide) (fun r126 hb => ?_)
      refine AW.lcmp (pn := 72) F dX8_takeClause_71 rfl ?_
      refine AW.if_ne (pn := 75) (tg := 79) F dX8_takeClause_72 rfl (by decide) hb (fun hb => ?_) (fun hb => ?_)
      · refine AW.iconst (pn := 80) F dX8_takeClause_79 rfl ?_
        exact hK7 _ hb
      · refine AW.iconst (pn := 76) F dX8_takeClause_75 rfl ?_
        refine AW.goto (tg := 80) F dX8_takeClause_76 (by decide) ?_
        exact hK7 _ hb
    · refine AW.iconst (pn := 51) F dX8_takeClause_50 rfl ?_
      refine AW.goto (tg := 80) F dX8_takeClause_51 (by decide) ?_
      exact hK7 _ hb
  · refine AW.iconst (pn := 26) F dX8_takeClause_25 rfl ?_
    refine AW.goto (tg := 80) F dX8_takeClause_26 (by decide) ?_
    exact hK7 _ hb

theorem p8_begin_L20_ok_69 {X : Cx} {x1 : Int} {Q : Int → HP → Prop} (F : Fx X cX8_begin RX8 3 1) (G : Rx X (some .int) (QI Q))  : ∀ (n : Nat) (h : HP) (x2 : Int), p8_begin_L20 x1 Q n h x2 → AW X 3 20 [some (vR 69), some (vI x1), some (vI x2)] [] h := by
  intro n
  induction n with
  | zero => intro _ _ hb; exact hb.elim
  | succ n ih =>
    intro h x2 hb
    unfold p8_begin_L20 at hb
    refine AW.iload_n (pn := 21) F dX8_begin_20 rfl rfl rfl ?_
    refine AW.aload_n (pn := 22) F dX8_begin_21 rfl rfl rfl ?_
    refine AW.getI (pn := 25) F dX8_begin_22 rfl gl_X8_106 so_69 rfl ?_
    refine AW.icmp_ge (pn := 28) (tg := 87) F dX8_begin_25 rfl (by decide) hb (fun hb => ?_) (fun hb => ?_)
    · refine AW.iload_n (pn := 88) F dX8_begin_87 rfl rfl rfl ?_
      exact AW.iret F G dX8_begin_88 ⟨_, rfl, hb⟩
    · refine AW.aload_n (pn := 29) F dX8_begin_28 rfl rfl rfl ?_
      refine AW.getR (r := 74) (pn := 32) F dX8_begin_29 rfl gl_X8_22 so_69 rfl ?_
      refine AW.iload_n (pn := 33) F dX8_begin_32 rfl rfl rfl ?_
      refine AW.aload_n (pn := 34) F dX8_begin_33 rfl rfl rfl ?_
      refine AW.getR (r := 72) (pn := 37) F dX8_begin_34 rfl gl_X8_16 so_69 rfl ?_
      refine AW.iload_n (pn := 38) F dX8_begin_37 rfl rfl rfl ?_
      refine AW.iald (pn := 39) F dX8_begin_38 rfl so_72 hb (fun v3 hb => ?_)
      refine AW.iast (pn := 40) F dX8_begin_39 rfl so_74 hb (fun h4 hb => ?_)
      refine AW.aload_n (pn := 41) F dX8_begin_40 rfl rfl rfl ?_
      refine AW.getR (r := 75) (pn := 44) F dX8_begin_41 rfl gl_X8_25 so_69 rfl ?_
      refine AW.iload_n (pn := 45) F dX8_begin_44 rfl rfl rfl ?_
      refine AW.aload_n (pn := 46) F dX8_begin_45 rfl rfl rfl ?_
      refine AW.getR (r := 73) (pn := 49) F dX8_begin_46 rfl gl_X8_19 so_69 rfl ?_
      refine AW.iload_n (pn := 50) F dX8_begin_49 rfl rfl rfl ?_
      refine AW.iald (pn := 51) F dX8_begin_50 rfl so_73 hb (fun v5 hb => ?_)
      refine AW.iast (pn := 52) F dX8_begin_51 rfl so_75 hb (fun h6 hb => ?_)
      refine AW.aload_n (pn := 53) F dX8_begin_52 rfl rfl rfl ?_
      refine AW.getR (r := 76) (pn := 56) F dX8_begin_53 rfl gl_X8_28 so_69 rfl ?_
      refine AW.iload_n (pn := 57) F dX8_begin_56 rfl rfl rfl ?_
      refine AW.iconst (pn := 58) F dX8_begin_57 rfl ?_
      refine AW.iast (pn := 59) F dX8_begin_58 rfl so_76 hb (fun h7 hb => ?_)
      refine AW.aload_n (pn := 60) F dX8_begin_59 rfl rfl rfl ?_
      refine AW.getR (r := 77) (pn := 63) F dX8_begin_60 rfl gl_X8_31 so_69 rfl ?_
      refine AW.iload_n (pn := 64) F dX8_begin_63 rfl rfl rfl ?_
      refine AW.iconst (pn := 65) F dX8_begin_64 rfl ?_
      refine AW.iast (pn := 66) F dX8_begin_65 rfl so_77 hb (fun h8 hb => ?_)
      refine AW.aload_n (pn := 67) F dX8_begin_66 rfl rfl rfl ?_
      refine AW.getR (r := 78) (pn := 70) F dX8_begin_67 rfl gl_X8_34 so_69 rfl ?_
      refine AW.bipush (pn := 72) F dX8_begin_70 rfl (by decide) ?_
      refine AW.iload_n (pn := 73) F dX8_begin_72 rfl rfl rfl ?_
      refine AW.imul (pn := 74) F dX8_begin_73 rfl ?_
      refine AW.aload_n (pn := 75) F dX8_begin_74 rfl rfl rfl ?_
      refine AW.getR (r := 73) (pn := 78) F dX8_begin_75 rfl gl_X8_19 so_69 rfl ?_
      refine AW.iload_n (pn := 79) F dX8_begin_78 rfl rfl rfl ?_
      refine AW.iald (pn := 80) F dX8_begin_79 rfl so_73 hb (fun v9 hb => ?_)
      refine AW.iast (pn := 81) F dX8_begin_80 rfl so_78 hb (fun h10 hb => ?_)
      refine AW.iinc (ls2 := [some (vR 69), some (vI x1), some (vI (x2 + 1))]) (pn := 84) F dX8_begin_81 rfl rfl (by decide) rfl rfl ?_
      refine AW.goto (tg := 20) F dX8_begin_84 (by decide) ?_
      exact ih _ _ hb

theorem p8_begin_69  {h : HP} {Q : Int → HP → Prop} (hb : p8_begin  h Q) : MT yX8_begin cX8_begin 3 (some .int) 1 [vR 69] h (QI Q) := by
  refine MT.of (own := RX8) (by decide) rfl (Nat.le_of_ble_eq_true rfl) rfl (fun X F G => ?_)
  unfold p8_begin at hb
  refine AW.aload_n (pn := 1) F dX8_begin_0 rfl rfl rfl ?_
  refine AW.getI (pn := 4) F dX8_begin_1 rfl gl_X8_109 so_69 rfl ?_
  refine AW.istore_n (ls2 := [some (vR 69), some (vI (h 69 13)), none]) (pn := 5) F dX8_begin_4 rfl rfl (by decide) rfl rfl ?_
  refine AW.aload_n (pn := 6) F dX8_begin_5 rfl rfl rfl ?_
  refine AW.iconst (pn := 7) F dX8_begin_6 rfl ?_
  refine AW.putI (pn := 10) F dX8_begin_7 rfl pl_X8_109 so_69 rfl hb (fun h1 hb => ?_)
  refine AW.aload_n (pn := 11) F dX8_begin_10 rfl rfl rfl ?_
  refine AW.aload_n (pn := 12) F dX8_begin_11 rfl rfl rfl ?_
  refine AW.getI (pn := 15) F dX8_begin_12 rfl gl_X8_112 so_69 rfl ?_
  refine AW.putI (pn := 18) F dX8_begin_15 rfl pl_X8_106 so_69 rfl hb (fun h2 hb => ?_)
  refine AW.iconst (pn := 19) F dX8_begin_18 rfl ?_
  refine AW.istore_n (ls2 := [some (vR 69), some (vI (h 69 13)), some (vI 0)]) (pn := 20) F dX8_begin_19 rfl rfl (by decide) rfl rfl ?_
  refine p8_begin_L20_ok_69 F G  _ _ _ hb

theorem p8_spit_L32_ok_69 {X : Cx} {E51 : HP → Prop} {Q : Int → HP → Prop} (F : Fx X cX8_spit RX8 3 5) (G : Rx X (some .int) (QI Q)) (hE51 : ∀ (h : HP), E51 h → AW X 3 51 [some (vR 69), none, none] [] h) : ∀ (n : Nat) (h : HP) (x1 : Int), p8_spit_L32 E51 n h x1 → AW X 3 32 [some (vR 69), some (vI x1), none] [] h := by
  intro n
  induction n with
  | zero => intro _ _ hb; exact hb.elim
  | succ n ih =>
    intro h x1 hb
    unfold p8_spit_L32 at hb
    refine AW.iload_n (pn := 33) F dX8_spit_32 rfl rfl rfl ?_
    refine AW.bipush (pn := 35) F dX8_spit_33 rfl (by decide) ?_
    refine AW.icmp_ge (pn := 38) (tg := 51) F dX8_spit_35 rfl (by decide) hb (fun hb => ?_) (fun hb => ?_)
    · refine AW.drop [true, false, true] rfl ?_
      exact hE51 _ hb
    · refine AW.aload_n (pn := 39) F dX8_spit_38 rfl rfl rfl ?_
      refine AW.getR (r := 83) (pn := 42) F dX8_spit_39 rfl gl_X8_53 so_69 rfl ?_
      refine AW.iload_n (pn := 43) F dX8_spit_42 rfl rfl rfl ?_
      refine AW.iconst (pn := 44) F dX8_spit_43 rfl ?_
      refine AW.iast (pn := 45) F dX8_spit_44 rfl so_83 hb (fun h7 hb => ?_)
      refine AW.iinc (ls2 := [some (vR 69), some (vI (x1 + 1)), none]) (pn := 48) F dX8_spit_45 rfl rfl (by decide) rfl rfl ?_
      refine AW.goto (tg := 32) F dX8_spit_48 (by decide) ?_
      exact ih _ _ hb

theorem p8_spit_L53_ok_69 {X : Cx} {E72 : HP → Int → Prop} {Q : Int → HP → Prop} (F : Fx X cX8_spit RX8 3 5) (G : Rx X (some .int) (QI Q)) (hE72 : ∀ (h : HP) (x1 : Int), E72 h x1 → AW X 3 72 [some (vR 69), some (vI x1), none] [] h) : ∀ (n : Nat) (h : HP) (x1 : Int), p8_spit_L53 E72 n h x1 → AW X 3 53 [some (vR 69), some (vI x1), none] [] h := by
  intro n
  induction n with
  | zero => intro _ _ hb; exact hb.elim
  | succ n ih =>
    intro h x1 hb
    unfold p8_spit_L53 at hb
    refine AW.iload_n (pn := 54) F dX8_spit_53 rfl rfl rfl ?_
    refine AW.if_ne (pn := 57) (tg := 72) F dX8_spit_54 rfl (by decide) hb (fun hb => ?_) (fun hb => ?_)
    · exact hE72 _ _ hb
    · refine AW.aload_n (pn := 58) F dX8_spit_57 rfl rfl rfl ?_
      refine AW.cVI (pn := 61) (st := []) F dX8_spit_58 rfl cl_X8_127 so_69 (p8_here_69  hb) rfl rfl (Nat.le_of_ble_eq_true rfl) (by decide) (fun r9 h10 hb => ?_)
      refine AW.if_lt (pn := 64) (tg := 72) F dX8_spit_61 rfl (by decide) hb (fun hb => ?_) (fun hb => ?_)
      · exact hE72 _ _ hb
      · refine AW.aload_n (pn := 65) F dX8_spit_64 rfl rfl rfl ?_
        refine AW.cVI (pn := 68) (st := []) F dX8_spit_65 rfl cl_X8_192 so_69 (p8_takeClause_69  hb) rfl rfl (Nat.le_of_ble_eq_true rfl) (by decide) (fun r11 h12 hb => ?_)
        refine AW.istore_n (ls2 := [some (vR 69), some (vI r11), none]) (pn := 69) F dX8_spit_68 rfl rfl (by decide) rfl rfl ?_
        refine AW.goto (tg := 53) F dX8_spit_69 (by decide) ?_
        exact ih _ _ hb

theorem p8_spit_L112_ok_69 {X : Cx} {E135 : HP → Prop} {Q : Int → HP → Prop} (F : Fx X cX8_spit RX8 3 5) (G : Rx X (some .int) (QI Q)) (hE135 : ∀ (h : HP), E135 h → AW X 3 135 [some (vR 69), none, none] [] h) : ∀ (n : Nat) (h : HP) (x2 : Int), p8_spit_L112 E135 n h x2 → AW X 3 112 [some (vR 69), none, some (vI x2)] [] h := by
  intro n
  induction n with
  | zero => intro _ _ hb; exact hb.elim
  | succ n ih =>
    intro h x2 hb
    unfold p8_spit_L112 at hb
    refine AW.iload_n (pn := 113) F dX8_spit_112 rfl rfl rfl ?_
    refine AW.iconst (pn := 114) F dX8_spit_113 rfl ?_
    refine AW.icmp_ge (pn := 117) (tg := 135) F dX8_spit_114 rfl (by decide) hb (fun hb => ?_) (fun hb => ?_)
    · refine AW.drop [true, true, false] rfl ?_
      exact hE135 _ hb
    · refine AW.aload_n (pn := 118) F dX8_spit_117 rfl rfl rfl ?_
      refine AW.getR (r := 70) (pn := 121) F dX8_spit_118 rfl gl_X8_7 so_69 rfl ?_
      refine AW.iload_n (pn := 122) F dX8_spit_121 rfl rfl rfl ?_
      refine AW.aload_n (pn := 123) F dX8_spit_122 rfl rfl rfl ?_
      refine AW.getR (r := 80) (pn := 126) F dX8_spit_123 rfl gl_X8_44 so_69 rfl ?_
      refine AW.iload_n (pn := 127) F dX8_spit_126 rfl rfl rfl ?_
      refine AW.iald (pn := 128) F dX8_spit_127 rfl so_80 hb (fun v19 hb => ?_)
      refine AW.iast (pn := 129) F dX8_spit_128 rfl so_70 hb (fun h20 hb => ?_)
      refine AW.iinc (ls2 := [some (vR 69), none, some (vI (x2 + 1))]) (pn := 132) F dX8_spit_129 rfl rfl (by decide) rfl rfl ?_
      refine AW.goto (tg := 112) F dX8_spit_132 (by decide) ?_
      exact ih _ _ hb

theorem p8_spit_L137_ok_69 {X : Cx} {E174 : HP → Prop} {Q : Int → HP → Prop} (F : Fx X cX8_spit RX8 3 5) (G : Rx X (some .int) (QI Q)) (hE174 : ∀ (h : HP), E174 h → AW X 3 174 [some (vR 69), none, none] [] h) : ∀ (n : Nat) (h : HP) (x2 : Int), p8_spit_L137 E174 n h x2 → AW X 3 137 [some (vR 69), none, some (vI x2)] [] h := by
  intro n
  induction n with
  | zero => intro _ _ hb; exact hb.elim
  | succ n ih =>
    intro h x2 hb
    unfold p8_spit_L137 at hb
    refine AW.iload_n (pn := 138) F dX8_spit_137 rfl rfl rfl ?_
    refine AW.bipush (pn := 140) F dX8_spit_138 rfl (by decide) ?_
    refine AW.icmp_ge (pn := 143) (tg := 174) F dX8_spit_140 rfl (by decide) hb (fun hb => ?_) (fun hb => ?_)
    · refine AW.drop [true, true, false] rfl ?_
      exact hE174 _ hb
    · refine AW.aload_n (pn := 144) F dX8_spit_143 rfl rfl rfl ?_
      refine AW.getR (r := 71) (pn := 147) F dX8_spit_144 rfl gl_X8_13 so_69 rfl ?_
      refine AW.iload_n (pn := 148) F dX8_spit_147 rfl rfl rfl ?_
      refine AW.aload_n (pn := 149) F dX8_spit_148 rfl rfl rfl ?_
      refine AW.getR (r := 83) (pn := 152) F dX8_spit_149 rfl gl_X8_53 so_69 rfl ?_
      refine AW.iload_n (pn := 153) F dX8_spit_152 rfl rfl rfl ?_
      refine AW.iald (pn := 154) F dX8_spit_153 rfl so_83 hb (fun v22 hb => ?_)
      refine jn_1 hb (fun (y25 : Int) => AW X 3 167 [some (vR 69), none, some (vI x2)] [vI y25, vI x2, vR 71] h) (fun y25 hb => ?_) (fun K26 hK26 hb => ?_)
      · refine AW.iast (pn := 168) F dX8_spit_167 rfl so_71 hb (fun h27 hb => ?_)
        refine AW.iinc (ls2 := [some (vR 69), none, some (vI (x2 + 1))]) (pn := 171) F dX8_spit_168 rfl rfl (by decide) rfl rfl ?_
        refine AW.goto (tg := 137) F dX8_spit_171 (by decide) ?_
        exact ih _ _ hb
      refine AW.if_ge (pn := 157) (tg := 161) F dX8_spit_154 rfl (by decide) hb (fun hb => ?_) (fun hb => ?_)
      · refine AW.aload_n (pn := 162) F dX8_spit_161 rfl rfl rfl ?_
        refine AW.getR (r := 83) (pn := 165) F dX8_spit_162 rfl gl_X8_53 so_69 rfl ?_
        refine AW.iload_n (pn := 166) F dX8_spit_165 rfl rfl rfl ?_
        refine AW.iald (pn := 167) F dX8_spit_166 rfl so_83 hb (fun v28 hb => ?_)
        exact hK26 _ hb
      · refine AW.iconst (pn := 158) F dX8_spit_157 rfl ?_
        refine AW.goto (tg := 167) F dX8_spit_158 (by decide) ?_
        exact hK26 _ hb

theorem p8_spit_L176_ok_69 {X : Cx} {E212 : HP → Prop} {Q : Int → HP → Prop} (F : Fx X cX8_spit RX8 3 5) (G : Rx X (some .int) (QI Q)) (hE212 : ∀ (h : HP), E212 h → AW X 3 212 [some (vR 69), none, none] [] h) : ∀ (n : Nat) (h : HP) (x2 : Int), p8_spit_L176 E212 n h x2 → AW X 3 176 [some (vR 69), none, some (vI x2)] [] h := by
  intro n
  induction n with
  | zero => intro _ _ hb; exact hb.elim
  | succ n ih =>
    intro h x2 hb
    unfold p8_spit_L176 at hb
    refine AW.iload_n (pn := 177) F dX8_spit_176 rfl rfl rfl ?_
    refine AW.bipush (pn := 179) F dX8_spit_177 rfl (by decide) ?_
    refine AW.icmp_ge (pn := 182) (tg := 212) F dX8_spit_179 rfl (by decide) hb (fun hb => ?_) (fun hb => ?_)
    · refine AW.drop [true, true, false] rfl ?_
      exact hE212 _ hb
    · refine AW.aload_n (pn := 183) F dX8_spit_182 rfl rfl rfl ?_
      refine AW.getR (r := 72) (pn := 186) F dX8_spit_183 rfl gl_X8_16 so_69 rfl ?_
      refine AW.iload_n (pn := 187) F dX8_spit_186 rfl rfl rfl ?_
      refine AW.aload_n (pn := 188) F dX8_spit_187 rfl rfl rfl ?_
      refine AW.getR (r := 81) (pn := 191) F dX8_spit_188 rfl gl_X8_47 so_69 rfl ?_
      refine AW.iload_n (pn := 192) F dX8_spit_191 rfl rfl rfl ?_
      refine AW.iald (pn := 193) F dX8_spit_192 rfl so_81 hb (fun v30 hb => ?_)
      refine AW.iast (pn := 194) F dX8_spit_193 rfl so_72 hb (fun h31 hb => ?_)
      refine AW.aload_n (pn := 195) F dX8_spit_194 rfl rfl rfl ?_
      refine AW.getR (r := 73) (pn := 198) F dX8_spit_195 rfl gl_X8_19 so_69 rfl ?_
      refine AW.iload_n (pn := 199) F dX8_spit_198 rfl rfl rfl ?_
      refine AW.aload_n (pn := 200) F dX8_spit_199 rfl rfl rfl ?_
      refine AW.getR (r := 82) (pn := 203) F dX8_spit_200 rfl gl_X8_50 so_69 rfl ?_
      refine AW.iload_n (pn := 204) F dX8_spit_203 rfl rfl rfl ?_
      refine AW.iald (pn := 205) F dX8_spit_204 rfl so_82 hb (fun v32 hb => ?_)
      refine AW.iast (pn := 206) F dX8_spit_205 rfl so_73 hb (fun h33 hb => ?_)
      refine AW.iinc (ls2 := [some (vR 69), none, some (vI (x2 + 1))]) (pn := 209) F dX8_spit_206 rfl rfl (by decide) rfl rfl ?_
      refine AW.goto (tg := 176) F dX8_spit_209 (by decide) ?_
      exact ih _ _ hb

theorem p8_spit_69  {h : HP} {Q : Int → HP → Prop} (hb : p8_spit  h Q) : MT yX8_spit cX8_spit 3 (some .int) 5 [vR 69] h (QI Q) := by
  refine MT.of (own := RX8) (by decide) rfl (Nat.le_of_ble_eq_true rfl) rfl (fun X F G => ?_)
  unfold p8_spit at hb
  refine AW.aload_n (pn := 1) F dX8_spit_0 rfl rfl rfl ?_
  refine AW.iconst (pn := 2) F dX8_spit_1 rfl ?_
  refine AW.putI (pn := 5) F dX8_spit_2 rfl pl_X8_40 so_69 rfl hb (fun h1 hb => ?_)
  refine AW.aload_n (pn := 6) F dX8_spit_5 rfl rfl rfl ?_
  refine AW.iconst (pn := 7) F dX8_spit_6 rfl ?_
  refine AW.putI (pn := 10) F dX8_spit_7 rfl pl_X8_124 so_69 rfl hb (fun h2 hb => ?_)
  refine AW.aload_n (pn := 11) F dX8_spit_10 rfl rfl rfl ?_
  refine AW.iconst (pn := 12) F dX8_spit_11 rfl ?_
  refine AW.putI (pn := 15) F dX8_spit_12 rfl pl_X8_170 so_69 rfl hb (fun h3 hb => ?_)
  refine AW.aload_n (pn := 16) F dX8_spit_15 rfl rfl rfl ?_
  refine AW.iconst (pn := 17) F dX8_spit_16 rfl ?_
  refine AW.putI (pn := 20) F dX8_spit_17 rfl pl_X8_164 so_69 rfl hb (fun h4 hb => ?_)
  refine AW.aload_n (pn := 21) F dX8_spit_20 rfl rfl rfl ?_
  refine AW.iconst (pn := 22) F dX8_spit_21 rfl ?_
  refine AW.putI (pn := 25) F dX8_spit_22 rfl pl_X8_173 so_69 rfl hb (fun h5 hb => ?_)
  refine AW.aload_n (pn := 26) F dX8_spit_25 rfl rfl rfl ?_
  refine AW.iconst (pn := 27) F dX8_spit_26 rfl ?_
  refine AW.putI (pn := 30) F dX8_spit_27 rfl pl_X8_176 so_69 rfl hb (fun h6 hb => ?_)
  refine AW.iconst (pn := 31) F dX8_spit_30 rfl ?_
  refine AW.istore_n (ls2 := [some (vR 69), some (vI 0), none]) (pn := 32) F dX8_spit_31 rfl rfl (by decide) rfl rfl ?_
  refine p8_spit_L32_ok_69 F G (fun h8 hb => ?_) _ _ _ hb
  refine AW.iconst (pn := 52) F dX8_spit_51 rfl ?_
  refine AW.istore_n (ls2 := [some (vR 69), some (vI 0), none]) (pn := 53) F dX8_spit_52 rfl rfl (by decide) rfl rfl ?_
  refine p8_spit_L53_ok_69 F G (fun h13 y14 hb => ?_) _ _ _ hb
  refine AW.aload_n (pn := 73) F dX8_spit_72 rfl rfl rfl ?_
  refine AW.iconst (pn := 74) F dX8_spit_73 rfl ?_
  refine AW.putI (pn := 77) F dX8_spit_74 rfl pl_X8_118 so_69 rfl hb (fun h15 hb => ?_)
  refine AW.iload_n (pn := 78) F dX8_spit_77 rfl rfl rfl ?_
  refine AW.if_le (pn := 81) (tg := 86) F dX8_spit_78 rfl (by decide) hb (fun hb => ?_) (fun hb => ?_)
  · refine AW.aload_n (pn := 87) F dX8_spit_86 rfl rfl rfl ?_
    refine AW.aload_n (pn := 88) F dX8_spit_87 rfl rfl rfl ?_
    refine AW.getI (pn := 91) F dX8_spit_88 rfl gl_X8_170 so_69 rfl ?_
    refine AW.putI (pn := 94) F dX8_spit_91 rfl pl_X8_96 so_69 rfl hb (fun h16 hb => ?_)
    refine AW.aload_n (pn := 95) F dX8_spit_94 rfl rfl rfl ?_
    refine AW.aload_n (pn := 96) F dX8_spit_95 rfl rfl rfl ?_
    refine AW.getI (pn := 99) F dX8_spit_96 rfl gl_X8_164 so_69 rfl ?_
    refine AW.putI (pn := 102) F dX8_spit_99 rfl pl_X8_99 so_69 rfl hb (fun h17 hb => ?_)
    refine AW.aload_n (pn := 103) F dX8_spit_102 rfl rfl rfl ?_
    refine AW.aload_n (pn := 104) F dX8_spit_103 rfl rfl rfl ?_
    refine AW.getI (pn := 107) F dX8_spit_104 rfl gl_X8_173 so_69 rfl ?_
    refine AW.putI (pn := 110) F dX8_spit_107 rfl pl_X8_112 so_69 rfl hb (fun h18 hb => ?_)
    refine AW.iconst (pn := 111) F dX8_spit_110 rfl ?_
    refine AW.istore_n (ls2 := [some (vR 69), some (vI y14), some (vI 0)]) (pn := 112) F dX8_spit_111 rfl rfl (by decide) rfl rfl ?_
    refine AW.drop [true, false, true] rfl ?_
    refine p8_spit_L112_ok_69 F G (fun h21 hb => ?_) _ _ _ hb
    refine AW.iconst (pn := 136) F dX8_spit_135 rfl ?_
    refine AW.istore_n (ls2 := [some (vR 69), none, some (vI 0)]) (pn := 137) F dX8_spit_136 rfl rfl (by decide) rfl rfl ?_
    refine p8_spit_L137_ok_69 F G (fun h29 hb => ?_) _ _ _ hb
    refine AW.iconst (pn := 175) F dX8_spit_174 rfl ?_
    refine AW.istore_n (ls2 := [some (vR 69), none, some (vI 0)]) (pn := 176) F dX8_spit_175 rfl rfl (by decide) rfl rfl ?_
    refine p8_spit_L176_ok_69 F G (fun h34 hb => ?_) _ _ _ hb
    refine AW.aload_n (pn := 213) F dX8_spit_212 rfl rfl rfl ?_
    refine AW.iconst (pn := 214) F dX8_spit_213 rfl ?_
    refine AW.putI (pn := 217) F dX8_spit_214 rfl pl_X8_195 so_69 rfl hb (fun h35 hb => ?_)
    refine AW.aload_n (pn := 218) F dX8_spit_217 rfl rfl rfl ?_
    refine AW.getR (r := 96) (pn := 221) F dX8_spit_218 rfl gl_X8_93 so_69 rfl ?_
    refine AW.iconst (pn := 222) F dX8_spit_221 rfl ?_
    refine AW.iconst (pn := 223) F dX8_spit_222 rfl ?_
    refine AW.zast (pn := 224) F dX8_spit_223 rfl so_96 hb (fun h36 hb => ?_)
    refine AW.aload_n (pn := 225) F dX8_spit_224 rfl rfl rfl ?_
    refine AW.getR (r := 96) (pn := 228) F dX8_spit_225 rfl gl_X8_93 so_69 rfl ?_
    refine AW.iconst (pn := 229) F dX8_spit_228 rfl ?_
    refine AW.iconst (pn := 230) F dX8_spit_229 rfl ?_
    refine AW.zast (pn := 231) F dX8_spit_230 rfl so_96 hb (fun h37 hb => ?_)
    refine AW.aload_n (pn := 232) F dX8_spit_231 rfl rfl rfl ?_
    refine AW.cVI (pn := 235) (st := []) F dX8_spit_232 rfl cl_X8_198 so_69 (p8_begin_69  hb) rfl rfl (Nat.le_of_ble_eq_true rfl) (by decide) (fun r38 h39 hb => ?_)
    refine AW.istore_n (ls2 := [some (vR 69), none, some (vI r38)]) (pn := 236) F dX8_spit_235 rfl rfl (by decide) rfl rfl ?_
    refine AW.aload_n (pn := 237) F dX8_spit_236 rfl rfl rfl ?_
    refine AW.getI (pn := 240) F dX8_spit_237 rfl gl_X8_106 so_69 rfl ?_
    exact AW.iret F G dX8_spit_240 ⟨_, rfl, hb⟩
  · refine AW.bipush (pn := 83) F dX8_spit_81 rfl (by decide) ?_
    refine AW.iload_n (pn := 84) F dX8_spit_83 rfl rfl rfl ?_
    refine AW.isub (pn := 85) F dX8_spit_84 rfl ?_
    exact AW.iret F G dX8_spit_85 ⟨_, rfl, hb⟩

theorem p8_fault_69  {h : HP} {Q : Int → Prop} (hb : p8_fault  h Q) : MT yX8_fault cX8_fault 1 (some .int) 1 [vR 69] h (QP h Q) := by
  refine MT.of (own := RX8) (by decide) rfl (Nat.le_of_ble_eq_true rfl) rfl (fun X F G => ?_)
  unfold p8_fault at hb
  refine AW.aload_n (pn := 1) F dX8_fault_0 rfl rfl rfl ?_
  refine AW.getI (pn := 4) F dX8_fault_1 rfl gl_X8_40 so_69 rfl ?_
  exact AW.iret F G dX8_fault_4 ⟨rfl, _, rfl, hb⟩

theorem p8_countOf_L4_ok_69 {X : Cx} {x1 : Int} {h : HP} {Q : Int → Prop} (F : Fx X cX8_countOf RX8 4 1) (G : Rx X (some .int) (QP h Q))  : ∀ (n : Nat) (x2 : Int) (x3 : Int), p8_countOf_L4 x1 h Q n x2 x3 → AW X 4 4 [some (vR 69), some (vI x1), some (vI x2), some (vI x3)] [] h := by
  intro n
  induction n with
  | zero => intro _ _ hb; exact hb.elim
  | succ n ih =>
    intro x2 x3 hb
    unfold p8_countOf_L4 at hb
    refine AW.iload_n (pn := 5) F dX8_countOf_4 rfl rfl rfl ?_
    refine AW.aload_n (pn := 6) F dX8_countOf_5 rfl rfl rfl ?_
    refine AW.getI (pn := 9) F dX8_countOf_6 rfl gl_X8_106 so_69 rfl ?_
    refine AW.icmp_ge (pn := 12) (tg := 36) F dX8_countOf_9 rfl (by decide) hb (fun hb => ?_) (fun hb => ?_)
    · refine AW.iload_n (pn := 37) F dX8_countOf_36 rfl rfl rfl ?_
      exact AW.iret F G dX8_countOf_37 ⟨rfl, _, rfl, hb⟩
    · refine AW.iload_n (pn := 13) F dX8_countOf_12 rfl rfl rfl ?_
      refine AW.aload_n (pn := 14) F dX8_countOf_13 rfl rfl rfl ?_
      refine AW.getR (r := 75) (pn := 17) F dX8_countOf_14 rfl gl_X8_25 so_69 rfl ?_
      refine AW.iload_n (pn := 18) F dX8_countOf_17 rfl rfl rfl ?_
      refine AW.iald (pn := 19) F dX8_countOf_18 rfl so_75 hb (fun v1 hb => ?_)
      refine AW.iload_n (pn := 20) F dX8_countOf_19 rfl rfl rfl ?_
      refine AW.icmp_ne (pn := 23) (tg := 27) F dX8_countOf_20 rfl (by decide) hb (fun hb => ?_) (fun hb => ?_)
      · refine AW.iconst (pn := 28) F dX8_countOf_27 rfl ?_
        refine AW.iadd (pn := 29) F dX8_countOf_28 rfl ?_
        refine AW.istore_n (ls2 := [some (vR 69), some (vI x1), some (vI (x2 + 0)), some (vI x3)]) (pn := 30) F dX8_countOf_29 rfl rfl (by decide) rfl rfl ?_
        refine AW.iinc (ls2 := [some (vR 69), some (vI x1), some (vI (x2 + 0)), some (vI (x3 + 1))]) (pn := 33) F dX8_countOf_30 rfl rfl (by decide) rfl rfl ?_
        refine AW.goto (tg := 4) F dX8_countOf_33 (by decide) ?_
        exact ih _ _ hb
      · refine AW.iconst (pn := 24) F dX8_countOf_23 rfl ?_
        refine AW.goto (tg := 28) F dX8_countOf_24 (by decide) ?_
        refine AW.iadd (pn := 29) F dX8_countOf_28 rfl ?_
        refine AW.istore_n (ls2 := [some (vR 69), some (vI x1), some (vI (x2 + 1)), some (vI x3)]) (pn := 30) F dX8_countOf_29 rfl rfl (by decide) rfl rfl ?_
        refine AW.iinc (ls2 := [some (vR 69), some (vI x1), some (vI (x2 + 1)), some (vI (x3 + 1))]) (pn := 33) F dX8_countOf_30 rfl rfl (by decide) rfl rfl ?_
        refine AW.goto (tg := 4) F dX8_countOf_33 (by decide) ?_
        exact ih _ _ hb

theorem p8_countOf_69 (x1 : Int) {h : HP} {Q : Int → Prop} (hb : p8_countOf x1 h Q) : MT yX8_countOf cX8_countOf 4 (some .int) 1 [vR 69, vI x1] h (QP h Q) := by
  refine MT.of (own := RX8) (by decide) rfl (Nat.le_of_ble_eq_true rfl) rfl (fun X F G => ?_)
  unfold p8_countOf at hb
  refine AW.iconst (pn := 1) F dX8_countOf_0 rfl ?_
  refine AW.istore_n (ls2 := [some (vR 69), some (vI x1), some (vI 0), none]) (pn := 2) F dX8_countOf_1 rfl rfl (by decide) rfl rfl ?_
  refine AW.iconst (pn := 3) F dX8_countOf_2 rfl ?_
  refine AW.istore_n (ls2 := [some (vR 69), some (vI x1), some (vI 0), some (vI 0)]) (pn := 4) F dX8_countOf_3 rfl rfl (by decide) rfl rfl ?_
  refine p8_countOf_L4_ok_69 F G  _ _ _ hb

theorem p8_poor_L4_ok_69 {X : Cx} {h : HP} {Q : Int → Prop} (F : Fx X cX8_poor RX8 3 2) (G : Rx X (some .int) (QP h Q))  : ∀ (n : Nat) (x1 : Int) (x2 : Int), p8_poor_L4 h Q n x1 x2 → AW X 3 4 [some (vR 69), some (vI x1), some (vI x2)] [] h := by
  intro n
  induction n with
  | zero => intro _ _ hb; exact hb.elim
  | succ n ih =>
    intro x1 x2 hb
    unfold p8_poor_L4 at hb
    refine AW.iload_n (pn := 5) F dX8_poor_4 rfl rfl rfl ?_
    refine AW.aload_n (pn := 6) F dX8_poor_5 rfl rfl rfl ?_
    refine AW.getI (pn := 9) F dX8_poor_6 rfl gl_X8_99 so_69 rfl ?_
    refine AW.icmp_ge (pn := 12) (tg := 36) F dX8_poor_9 rfl (by decide) hb (fun hb => ?_) (fun hb => ?_)
    · refine AW.iload_n (pn := 37) F dX8_poor_36 rfl rfl rfl ?_
      exact AW.iret F G dX8_poor_37 ⟨rfl, _, rfl, hb⟩
    · refine AW.iload_n (pn := 13) F dX8_poor_12 rfl rfl rfl ?_
      refine AW.aload_n (pn := 14) F dX8_poor_13 rfl rfl rfl ?_
      refine AW.iload_n (pn := 15) F dX8_poor_14 rfl rfl rfl ?_
      refine AW.cVP (pn := 18) (st := [vI x1]) F dX8_poor_15 rfl cl_X8_212 so_69 (p8_countOf_69 x2 hb) rfl rfl (Nat.le_of_ble_eq_true rfl) (by decide) (fun r1 hb => ?_)
      refine AW.if_ne (pn := 21) (tg := 27) F dX8_poor_18 rfl (by decide) hb (fun hb => ?_) (fun hb => ?_)
      · refine AW.iconst (pn := 28) F dX8_poor_27 rfl ?_
        refine AW.ior (pn := 29) F dX8_poor_28 rfl ?_
        refine AW.istore_n (ls2 := [some (vR 69), some (vI (io x1 0)), some (vI x2)]) (pn := 30) F dX8_poor_29 rfl rfl (by decide) rfl rfl ?_
        refine AW.iinc (ls2 := [some (vR 69), some (vI (io x1 0)), some (vI (x2 + 1))]) (pn := 33) F dX8_poor_30 rfl rfl (by decide) rfl rfl ?_
        refine AW.goto (tg := 4) F dX8_poor_33 (by decide) ?_
        exact ih _ _ hb
      · refine AW.iconst (pn := 22) F dX8_poor_21 rfl ?_
        refine AW.iload_n (pn := 23) F dX8_poor_22 rfl rfl rfl ?_
        refine AW.ishl (pn := 24) F dX8_poor_23 rfl ?_
        refine AW.goto (tg := 28) F dX8_poor_24 (by decide) ?_
        refine AW.ior (pn := 29) F dX8_poor_28 rfl ?_
        refine AW.istore_n (ls2 := [some (vR 69), some (vI (io x1 (sl 1 x2))), some (vI x2)]) (pn := 30) F dX8_poor_29 rfl rfl (by decide) rfl rfl ?_
        refine AW.iinc (ls2 := [some (vR 69), some (vI (io x1 (sl 1 x2))), some (vI (x2 + 1))]) (pn := 33) F dX8_poor_30 rfl rfl (by decide) rfl rfl ?_
        refine AW.goto (tg := 4) F dX8_poor_33 (by decide) ?_
        exact ih _ _ hb

theorem p8_poor_69  {h : HP} {Q : Int → Prop} (hb : p8_poor  h Q) : MT yX8_poor cX8_poor 3 (some .int) 2 [vR 69] h (QP h Q) := by
  refine MT.of (own := RX8) (by decide) rfl (Nat.le_of_ble_eq_true rfl) rfl (fun X F G => ?_)
  unfold p8_poor at hb
  refine AW.iconst (pn := 1) F dX8_poor_0 rfl ?_
  refine AW.istore_n (ls2 := [some (vR 69), some (vI 0), none]) (pn := 2) F dX8_poor_1 rfl rfl (by decide) rfl rfl ?_
  refine AW.iconst (pn := 3) F dX8_poor_2 rfl ?_
  refine AW.istore_n (ls2 := [some (vR 69), some (vI 0), some (vI 0)]) (pn := 4) F dX8_poor_3 rfl rfl (by decide) rfl rfl ?_
  refine p8_poor_L4_ok_69 F G  _ _ _ hb

theorem p8_told_69 (x1 : Int) {h : HP} {Q : Int → Prop} (hb : p8_told x1 h Q) : MT yX8_told cX8_told 2 (some .int) 3 [vR 69, vI x1] h (QP h Q) := by
  refine MT.of (own := RX8) (by decide) rfl (Nat.le_of_ble_eq_true rfl) rfl (fun X F G => ?_)
  unfold p8_told at hb
  refine AW.iload_n (pn := 1) F dX8_told_0 rfl rfl rfl ?_
  by_cases hq0 : w32 x1 < 0 ∨ 7 < w32 x1
  · refine AW.tabOut (tg := 89) F dX8_told_1 hq0 (by decide) ?_
    replace hb := hb.1 hq0
    refine AW.ldc (x := (-1000000002)) (pn := 91) F dX8_told_89 rfl tw_938 (by decide) ?_
    exact AW.iret F G dX8_told_91 ⟨rfl, _, rfl, hb⟩
  · have hq1 : w32 x1 = 0 ∨ w32 x1 = 1 ∨ w32 x1 = 2 ∨ w32 x1 = 3 ∨ w32 x1 = 4 ∨ w32 x1 = 5 ∨ w32 x1 = 6 ∨ w32 x1 = 7 := by omega
    rcases hq1 with hq | hq | hq | hq | hq | hq | hq | hq
    · refine AW.tabIn (tg := 48) 0 F dX8_told_1 hq (by decide) (by decide) rfl (by decide) ?_
      replace hb := hb.2.1 hq
      refine AW.aload_n (pn := 49) F dX8_told_48 rfl rfl rfl ?_
      refine AW.getI (pn := 52) F dX8_told_49 rfl gl_X8_96 so_69 rfl ?_
      exact AW.iret F G dX8_told_52 ⟨rfl, _, rfl, hb⟩
    · refine AW.tabIn (tg := 53) 1 F dX8_told_1 hq (by decide) (by decide) rfl (by decide) ?_
      replace hb := hb.2.2.1 hq
      refine AW.aload_n (pn := 54) F dX8_told_53 rfl rfl rfl ?_
      refine AW.getI (pn := 57) F dX8_told_54 rfl gl_X8_99 so_69 rfl ?_
      exact AW.iret F G dX8_told_57 ⟨rfl, _, rfl, hb⟩
    · refine AW.tabIn (tg := 58) 2 F dX8_told_1 hq (by decide) (by decide) rfl (by decide) ?_
      replace hb := hb.2.2.2.1 hq
      refine AW.aload_n (pn := 59) F dX8_told_58 rfl rfl rfl ?_
      refine AW.getI (pn := 62) F dX8_told_59 rfl gl_X8_106 so_69 rfl ?_
      exact AW.iret F G dX8_told_62 ⟨rfl, _, rfl, hb⟩
    · refine AW.tabIn (tg := 63) 3 F dX8_told_1 hq (by decide) (by decide) rfl (by decide) ?_
      replace hb := hb.2.2.2.2.1 hq
      refine AW.aload_n (pn := 64) F dX8_told_63 rfl rfl rfl ?_
      refine AW.getI (pn := 67) F dX8_told_64 rfl gl_X8_118 so_69 rfl ?_
      exact AW.iret F G dX8_told_67 ⟨rfl, _, rfl, hb⟩
    · refine AW.tabIn (tg := 68) 4 F dX8_told_1 hq (by decide) (by decide) rfl (by decide) ?_
      replace hb := hb.2.2.2.2.2.1 hq
      refine AW.aload_n (pn := 69) F dX8_told_68 rfl rfl rfl ?_
      refine AW.getI (pn := 72) F dX8_told_69 rfl gl_X8_109 so_69 rfl ?_
      exact AW.iret F G dX8_told_72 ⟨rfl, _, rfl, hb⟩
    · refine AW.tabIn (tg := 73) 5 F dX8_told_1 hq (by decide) (by decide) rfl (by decide) ?_
      replace hb := hb.2.2.2.2.2.2.1 hq
      refine AW.aload_n (pn := 74) F dX8_told_73 rfl rfl rfl ?_
      refine AW.getI (pn := 77) F dX8_told_74 rfl gl_X8_195 so_69 rfl ?_
      exact AW.iret F G dX8_told_77 ⟨rfl, _, rfl, hb⟩
    · refine AW.tabIn (tg := 78) 6 F dX8_told_1 hq (by decide) (by decide) rfl (by decide) ?_
      replace hb := hb.2.2.2.2.2.2.2.1 hq
      refine AW.aload_n (pn := 79) F dX8_told_78 rfl rfl rfl ?_
      refine AW.cVP (pn := 82) (st := []) F dX8_told_79 rfl cl_X8_215 so_69 (p8_poor_69  hb) rfl rfl (Nat.le_of_ble_eq_true rfl) (by decide) (fun r1 hb => ?_)
      exact AW.iret F G dX8_told_82 ⟨rfl, _, rfl, hb⟩
    · refine AW.tabIn (tg := 83) 7 F dX8_told_1 hq (by decide) (by decide) rfl (by decide) ?_
      replace hb := hb.2.2.2.2.2.2.2.2 hq
      refine AW.aload_n (pn := 84) F dX8_told_83 rfl rfl rfl ?_
      refine AW.iconst (pn := 85) F dX8_told_84 rfl ?_
      refine AW.cVP (pn := 88) (st := []) F dX8_told_85 rfl cl_X8_212 so_69 (p8_countOf_69 (-1) hb) rfl rfl (Nat.le_of_ble_eq_true rfl) (by decide) (fun r2 hb => ?_)
      exact AW.iret F G dX8_told_88 ⟨rfl, _, rfl, hb⟩

theorem p8_isHouse_69 (x1 : Int) {h : HP} {Q : Int → Prop} (hb : p8_isHouse x1 h Q) : MT yX8_isHouse cX8_isHouse 2 (some .boolean) 2 [vR 69, vI x1] h (QP h Q) := by
  refine MT.of (own := RX8) (by decide) rfl (Nat.le_of_ble_eq_true rfl) rfl (fun X F G => ?_)
  unfold p8_isHouse at hb
  refine AW.iload_n (pn := 1) F dX8_isHouse_0 rfl rfl rfl ?_
  refine AW.i2l (pn := 2) F dX8_isHouse_1 rfl ?_
  refine AW.lconst (x := 0) (pn := 3) F dX8_isHouse_2 rfl (by decide) ?_
  refine AW.aload_n (pn := 4) F dX8_isHouse_3 rfl rfl rfl ?_
  refine AW.getI (pn := 7) F dX8_isHouse_4 rfl gl_X8_99 so_69 rfl ?_
  refine AW.iconst (pn := 8) F dX8_isHouse_7 rfl ?_
  refine AW.isub (pn := 9) F dX8_isHouse_8 rfl ?_
  refine AW.i2l (pn := 10) F dX8_isHouse_9 rfl ?_
  refine AW.cSP (pn := 13) (st := []) F dX8_isHouse_10 rfl cl_X8_102 (p8_in_s (w32 x1) 0 (w32 ((h 69 1) - 1)) hb) rfl rfl (Nat.le_of_ble_eq_true rfl) (by decide) (fun r1 hb => ?_)
  exact AW.zret F G dX8_isHouse_13 hb.1 ⟨rfl, _, rfl, hb.2⟩

theorem p8_sortsOf_L4_ok_69 {X : Cx} {x1 : Int} {h : HP} {Q : Int → Prop} (F : Fx X cX8_sortsOf RX8 4 1) (G : Rx X (some .int) (QP h Q))  : ∀ (n : Nat) (x2 : Int) (x3 : Int), p8_sortsOf_L4 x1 h Q n x2 x3 → AW X 4 4 [some (vR 69), some (vI x1), some (vI x2), some (vI x3)] [] h := by
  intro n
  induction n with
  | zero => intro _ _ hb; exact hb.elim
  | succ n ih =>
    intro x2 x3 hb
    unfold p8_sortsOf_L4 at hb
    refine AW.iload_n (pn := 5) F dX8_sortsOf_4 rfl rfl rfl ?_
    refine AW.aload_n (pn := 6) F dX8_sortsOf_5 rfl rfl rfl ?_
    refine AW.getI (pn := 9) F dX8_sortsOf_6 rfl gl_X8_106 so_69 rfl ?_
    refine AW.icmp_ge (pn := 12) (tg := 43) F dX8_sortsOf_9 rfl (by decide) hb (fun hb => ?_) (fun hb => ?_)
    · refine AW.iload_n (pn := 44) F dX8_sortsOf_43 rfl rfl rfl ?_
      exact AW.iret F G dX8_sortsOf_44 ⟨rfl, _, rfl, hb⟩
    · refine AW.iload_n (pn := 13) F dX8_sortsOf_12 rfl rfl rfl ?_
      refine AW.aload_n (pn := 14) F dX8_sortsOf_13 rfl rfl rfl ?_
      refine AW.getR (r := 75) (pn := 17) F dX8_sortsOf_14 rfl gl_X8_25 so_69 rfl ?_
      refine AW.iload_n (pn := 18) F dX8_sortsOf_17 rfl rfl rfl ?_
      refine AW.iald (pn := 19) F dX8_sortsOf_18 rfl so_75 hb (fun v1 hb => ?_)
      refine AW.iload_n (pn := 20) F dX8_sortsOf_19 rfl rfl rfl ?_
      refine AW.icmp_ne (pn := 23) (tg := 34) F dX8_sortsOf_20 rfl (by decide) hb (fun hb => ?_) (fun hb => ?_)
      · refine AW.iconst (pn := 35) F dX8_sortsOf_34 rfl ?_
        refine AW.ior (pn := 36) F dX8_sortsOf_35 rfl ?_
        refine AW.istore_n (ls2 := [some (vR 69), some (vI x1), some (vI (io x2 0)), some (vI x3)]) (pn := 37) F dX8_sortsOf_36 rfl rfl (by decide) rfl rfl ?_
        refine AW.iinc (ls2 := [some (vR 69), some (vI x1), some (vI (io x2 0)), some (vI (x3 + 1))]) (pn := 40) F dX8_sortsOf_37 rfl rfl (by decide) rfl rfl ?_
        refine AW.goto (tg := 4) F dX8_sortsOf_40 (by decide) ?_
        exact ih _ _ hb
      · refine AW.iconst (pn := 24) F dX8_sortsOf_23 rfl ?_
        refine AW.aload_n (pn := 25) F dX8_sortsOf_24 rfl rfl rfl ?_
        refine AW.getR (r := 74) (pn := 28) F dX8_sortsOf_25 rfl gl_X8_22 so_69 rfl ?_
        refine AW.iload_n (pn := 29) F dX8_sortsOf_28 rfl rfl rfl ?_
        refine AW.iald (pn := 30) F dX8_sortsOf_29 rfl so_74 hb (fun v2 hb => ?_)
        refine AW.ishl (pn := 31) F dX8_sortsOf_30 rfl ?_
        refine AW.goto (tg := 35) F dX8_sortsOf_31 (by decide) ?_
        refine AW.ior (pn := 36) F dX8_sortsOf_35 rfl ?_
        refine AW.istore_n (ls2 := [some (vR 69), some (vI x1), some (vI (io x2 (sl 1 v2))), some (vI x3)]) (pn := 37) F dX8_sortsOf_36 rfl rfl (by decide) rfl rfl ?_
        refine AW.iinc (ls2 := [some (vR 69), some (vI x1), some (vI (io x2 (sl 1 v2))), some (vI (x3 + 1))]) (pn := 40) F dX8_sortsOf_37 rfl rfl (by decide) rfl rfl ?_
        refine AW.goto (tg := 4) F dX8_sortsOf_40 (by decide) ?_
        exact ih _ _ hb

theorem p8_sortsOf_69 (x1 : Int) {h : HP} {Q : Int → Prop} (hb : p8_sortsOf x1 h Q) : MT yX8_sortsOf cX8_sortsOf 4 (some .int) 1 [vR 69, vI x1] h (QP h Q) := by
  refine MT.of (own := RX8) (by decide) rfl (Nat.le_of_ble_eq_true rfl) rfl (fun X F G => ?_)
  unfold p8_sortsOf at hb
  refine AW.iconst (pn := 1) F dX8_sortsOf_0 rfl ?_
  refine AW.istore_n (ls2 := [some (vR 69), some (vI x1), some (vI 0), none]) (pn := 2) F dX8_sortsOf_1 rfl rfl (by decide) rfl rfl ?_
  refine AW.iconst (pn := 3) F dX8_sortsOf_2 rfl ?_
  refine AW.istore_n (ls2 := [some (vR 69), some (vI x1), some (vI 0), some (vI 0)]) (pn := 4) F dX8_sortsOf_3 rfl rfl (by decide) rfl rfl ?_
  refine p8_sortsOf_L4_ok_69 F G  _ _ _ hb

theorem p8_has_s (x0 x1 : Int) {h : HP} {Q : Int → Prop} (hb : p8_has x0 x1 h Q) : MT yX8_has cX8_has 2 (some .boolean) 1 [vI x0, vI x1] h (QP h Q) := by
  refine MT.of (own := RX8) (by decide) rfl (Nat.le_of_ble_eq_true rfl) rfl (fun X F G => ?_)
  unfold p8_has at hb
  refine AW.iload_n (pn := 1) F dX8_has_0 rfl rfl rfl ?_
  refine AW.iload_n (pn := 2) F dX8_has_1 rfl rfl rfl ?_
  refine AW.ishr (pn := 3) F dX8_has_2 rfl ?_
  refine AW.iconst (pn := 4) F dX8_has_3 rfl ?_
  refine AW.iand (pn := 5) F dX8_has_4 rfl ?_
  refine AW.iconst (pn := 6) F dX8_has_5 rfl ?_
  refine AW.icmp_ne (pn := 9) (tg := 13) F dX8_has_6 rfl (by decide) hb (fun hb => ?_) (fun hb => ?_)
  · refine AW.iconst (pn := 14) F dX8_has_13 rfl ?_
    exact AW.zret F G dX8_has_14 (by decide) ⟨rfl, _, rfl, hb⟩
  · refine AW.iconst (pn := 10) F dX8_has_9 rfl ?_
    refine AW.goto (tg := 14) F dX8_has_10 (by decide) ?_
    exact AW.zret F G dX8_has_14 (by decide) ⟨rfl, _, rfl, hb⟩

theorem p8_worthOf_L5_ok_69 {X : Cx} {x1 x2 : Int} {h : HP} {Q : Int → Prop} (F : Fx X cX8_worthOf RX8 5 2) (G : Rx X (some .int) (QP h Q))  : ∀ (n : Nat) (x3 : Int) (x4 : Int), p8_worthOf_L5 x1 x2 h Q n x3 x4 → AW X 5 5 [some (vR 69), some (vI x1), some (vI x2), some (vI x3), some (vI x4)] [] h := by
  intro n
  induction n with
  | zero => intro _ _ hb; exact hb.elim
  | succ n ih =>
    intro x3 x4 hb
    unfold p8_worthOf_L5 at hb
    refine AW.iload (pn := 7) F dX8_worthOf_5 rfl rfl ?_
    refine AW.aload_n (pn := 8) F dX8_worthOf_7 rfl rfl rfl ?_
    refine AW.getI (pn := 11) F dX8_worthOf_8 rfl gl_X8_96 so_69 rfl ?_
    refine AW.icmp_ge (pn := 14) (tg := 48) F dX8_worthOf_11 rfl (by decide) hb (fun hb => ?_) (fun hb => ?_)
    · refine AW.iload_n (pn := 49) F dX8_worthOf_48 rfl rfl rfl ?_
      exact AW.iret F G dX8_worthOf_49 ⟨rfl, _, rfl, hb⟩
    · refine AW.iload_n (pn := 15) F dX8_worthOf_14 rfl rfl rfl ?_
      refine AW.iload_n (pn := 16) F dX8_worthOf_15 rfl rfl rfl ?_
      refine AW.iload (pn := 18) F dX8_worthOf_16 rfl rfl ?_
      refine AW.cSP (pn := 21) (st := [vI x3]) F dX8_worthOf_18 rfl cl_X8_201 (p8_has_s x2 x4 hb) rfl rfl (Nat.le_of_ble_eq_true rfl) (by decide) (fun r1 hb => ?_)
      refine AW.if_eq (pn := 24) (tg := 39) F dX8_worthOf_21 rfl (by decide) hb (fun hb => ?_) (fun hb => ?_)
      · refine AW.iconst (pn := 40) F dX8_worthOf_39 rfl ?_
        refine AW.iadd (pn := 41) F dX8_worthOf_40 rfl ?_
        refine AW.istore_n (ls2 := [some (vR 69), some (vI x1), some (vI x2), some (vI (x3 + 0)), some (vI x4)]) (pn := 42) F dX8_worthOf_41 rfl rfl (by decide) rfl rfl ?_
        refine AW.iinc (ls2 := [some (vR 69), some (vI x1), some (vI x2), some (vI (x3 + 0)), some (vI (x4 + 1))]) (pn := 45) F dX8_worthOf_42 rfl rfl (by decide) rfl rfl ?_
        refine AW.goto (tg := 5) F dX8_worthOf_45 (by decide) ?_
        exact ih _ _ hb
      · refine AW.aload_n (pn := 25) F dX8_worthOf_24 rfl rfl rfl ?_
        refine AW.getR (r := 71) (pn := 28) F dX8_worthOf_25 rfl gl_X8_13 so_69 rfl ?_
        refine AW.bipush (pn := 30) F dX8_worthOf_28 rfl (by decide) ?_
        refine AW.iload_n (pn := 31) F dX8_worthOf_30 rfl rfl rfl ?_
        refine AW.imul (pn := 32) F dX8_worthOf_31 rfl ?_
        refine AW.iload (pn := 34) F dX8_worthOf_32 rfl rfl ?_
        refine AW.iadd (pn := 35) F dX8_worthOf_34 rfl ?_
        refine AW.iald (pn := 36) F dX8_worthOf_35 rfl so_71 hb (fun v2 hb => ?_)
        refine AW.goto (tg := 40) F dX8_worthOf_36 (by decide) ?_
        refine AW.iadd (pn := 41) F dX8_worthOf_40 rfl ?_
        refine AW.istore_n (ls2 := [some (vR 69), some (vI x1), some (vI x2), some (vI (x3 + v2)), some (vI x4)]) (pn := 42) F dX8_worthOf_41 rfl rfl (by decide) rfl rfl ?_
        refine AW.iinc (ls2 := [some (vR 69), some (vI x1), some (vI x2), some (vI (x3 + v2)), some (vI (x4 + 1))]) (pn := 45) F dX8_worthOf_42 rfl rfl (by decide) rfl rfl ?_
        refine AW.goto (tg := 5) F dX8_worthOf_45 (by decide) ?_
        exact ih _ _ hb

