theorem p7_feed_L34_ok_0 {X : Cx} {x2 : Int} {Q : Int → HP → Prop} (F : Fx X cX7_feed RX7 5 1) (G : Rx X (some .int) (QI Q))  : ∀ (n : Nat) (h : HP) (x4 : Int), p7_feed_L34 x2 Q n h x4 → AW X 5 34 [some (vR 0), none, some (vL x2), none, some (vI x4)] [] h := by
  intro n
  induction n with
  | zero => intro _ _ hb; exact hb.elim
  | succ n ih =>
    intro h x4 hb
    unfold p7_feed_L34 at hb
    refine AW.iload (pn := 36) F dX7_feed_34 rfl rfl ?_
    refine AW.if_lt (pn := 39) (tg := 77) F dX7_feed_36 rfl (by decide) hb (fun hb => ?_) (fun hb => ?_)
    · refine AW.aload_n (pn := 78) F dX7_feed_77 rfl rfl rfl ?_
      refine AW.getI (pn := 81) F dX7_feed_78 rfl gl_X7_91 so_0 rfl ?_
      exact AW.iret F G dX7_feed_81 ⟨_, rfl, hb⟩
    · refine AW.aload_n (pn := 40) F dX7_feed_39 rfl rfl rfl ?_
      refine AW.getR (r := 1) (pn := 43) F dX7_feed_40 rfl gl_X7_9 so_0 rfl ?_
      refine AW.aload_n (pn := 44) F dX7_feed_43 rfl rfl rfl ?_
      refine AW.getI (pn := 47) F dX7_feed_44 rfl gl_X7_91 so_0 rfl ?_
      refine AW.lload_n (pn := 48) F dX7_feed_47 rfl rfl rfl ?_
      refine AW.bipush (pn := 50) F dX7_feed_48 rfl (by decide) ?_
      refine AW.iload (pn := 52) F dX7_feed_50 rfl rfl ?_
      refine AW.imul (pn := 53) F dX7_feed_52 rfl ?_
      refine AW.lshr (pn := 54) F dX7_feed_53 rfl ?_
      refine AW.ldc2 (x := 255) (pn := 57) F dX7_feed_54 rfl tw_331 (by decide) ?_
      refine AW.land (pn := 58) F dX7_feed_57 rfl ?_
      refine AW.l2i (pn := 59) F dX7_feed_58 rfl ?_
      refine AW.i2c (pn := 60) F dX7_feed_59 rfl ?_
      refine AW.cast (pn := 61) F dX7_feed_60 rfl so_1 hb (fun h1 hb => ?_)
      refine AW.aload_n (pn := 62) F dX7_feed_61 rfl rfl rfl ?_
      refine AW.dupR (pn := 63) F dX7_feed_62 rfl ?_
      refine AW.getI (pn := 66) F dX7_feed_63 rfl gl_X7_91 so_0 rfl ?_
      refine AW.iconst (pn := 67) F dX7_feed_66 rfl ?_
      refine AW.iadd (pn := 68) F dX7_feed_67 rfl ?_
      refine AW.putI (pn := 71) F dX7_feed_68 rfl pl_X7_91 so_0 rfl hb (fun h2 hb => ?_)
      refine AW.iinc (ls2 := [some (vR 0), none, some (vL x2), none, some (vI (x4 + (-1)))]) (pn := 74) F dX7_feed_71 rfl rfl (by decide) rfl rfl ?_
      refine AW.goto (tg := 34) F dX7_feed_74 (by decide) ?_
      exact ih _ _ hb

theorem p7_feed_0 (x1 x2 : Int) {h : HP} {Q : Int → HP → Prop} (hb : p7_feed x1 x2 h Q) : MT yX7_feed cX7_feed 5 (some .int) 1 [vR 0, vI x1, vL x2] h (QI Q) := by
  refine MT.of (own := RX7) (by decide) rfl (Nat.le_of_ble_eq_true rfl) rfl (fun X F G => ?_)
  unfold p7_feed at hb
  refine AW.iload_n (pn := 1) F dX7_feed_0 rfl rfl rfl ?_
  refine AW.iconst (pn := 2) F dX7_feed_1 rfl ?_
  refine AW.icmp_lt (pn := 5) (tg := 11) F dX7_feed_2 rfl (by decide) hb (fun hb => ?_) (fun hb => ?_)
  · refine AW.ldc (x := (-1000000002)) (pn := 13) F dX7_feed_11 rfl tw_329 (by decide) ?_
    exact AW.iret F G dX7_feed_13 ⟨_, rfl, hb⟩
  · refine AW.iload_n (pn := 6) F dX7_feed_5 rfl rfl rfl ?_
    refine AW.bipush (pn := 8) F dX7_feed_6 rfl (by decide) ?_
    refine AW.icmp_le (pn := 11) (tg := 14) F dX7_feed_8 rfl (by decide) hb (fun hb => ?_) (fun hb => ?_)
    · refine AW.aload_n (pn := 15) F dX7_feed_14 rfl rfl rfl ?_
      refine AW.getI (pn := 18) F dX7_feed_15 rfl gl_X7_91 so_0 rfl ?_
      refine AW.iload_n (pn := 19) F dX7_feed_18 rfl rfl rfl ?_
      refine AW.iadd (pn := 20) F dX7_feed_19 rfl ?_
      refine AW.sipush (pn := 23) F dX7_feed_20 rfl (by decide) ?_
      refine AW.icmp_le (pn := 26) (tg := 29) F dX7_feed_23 rfl (by decide) hb (fun hb => ?_) (fun hb => ?_)
      · refine AW.iload_n (pn := 30) F dX7_feed_29 rfl rfl rfl ?_
        refine AW.iconst (pn := 31) F dX7_feed_30 rfl ?_
        refine AW.isub (pn := 32) F dX7_feed_31 rfl ?_
        refine AW.istore (ls2 := [some (vR 0), some (vI x1), some (vL x2), none, some (vI (x1 - 1))]) (pn := 34) F dX7_feed_32 rfl (by decide) rfl rfl ?_
        refine AW.drop [true, false, true, true, true] rfl ?_
        refine p7_feed_L34_ok_0 F G  _ _ _ hb
      · refine AW.ldc (x := (-1000000004)) (pn := 28) F dX7_feed_26 rfl tw_330 (by decide) ?_
        exact AW.iret F G dX7_feed_28 ⟨_, rfl, hb⟩
    · refine AW.ldc (x := (-1000000002)) (pn := 13) F dX7_feed_11 rfl tw_329 (by decide) ?_
      exact AW.iret F G dX7_feed_13 ⟨_, rfl, hb⟩

theorem p4_clear_7  {h : HP} {Q : HP → Prop} (hb : p4_clear  h Q) : MT yX4_clear cX4_clear 1 none 2 [vR 7] h (QV Q) := by
  refine MT.of (own := RX4) (by decide) rfl (Nat.le_of_ble_eq_true rfl) rfl (fun X F G => ?_)
  unfold p4_clear at hb
  refine AW.aload_n (pn := 1) F dX4_clear_0 rfl rfl rfl ?_
  refine AW.iconst (pn := 2) F dX4_clear_1 rfl ?_
  refine AW.putI (pn := 5) F dX4_clear_2 rfl pl_X4_24 so_7 rfl hb (fun h1 hb => ?_)
  refine AW.aload_n (pn := 6) F dX4_clear_5 rfl rfl rfl ?_
  refine AW.iconst (pn := 7) F dX4_clear_6 rfl ?_
  refine AW.putI (pn := 10) F dX4_clear_7 rfl pl_X4_28 so_7 rfl hb (fun h2 hb => ?_)
  refine AW.aload_n (pn := 11) F dX4_clear_10 rfl rfl rfl ?_
  refine AW.iconst (pn := 12) F dX4_clear_11 rfl ?_
  refine AW.putI (pn := 15) F dX4_clear_12 rfl pl_X4_31 so_7 rfl hb (fun h3 hb => ?_)
  refine AW.aload_n (pn := 16) F dX4_clear_15 rfl rfl rfl ?_
  refine AW.getR (r := 11) (pn := 19) F dX4_clear_16 rfl gl_X4_21 so_7 rfl ?_
  refine AW.iconst (pn := 20) F dX4_clear_19 rfl ?_
  refine AW.cSV (pn := 23) F dX4_clear_20 rfl cl_X4_34 (pJ_fill_11 0 hb) rfl rfl (Nat.le_of_ble_eq_true rfl) (by decide) (fun h4 hb => ?_)
  exact AW.vret F G dX4_clear_23 ⟨rfl, hb⟩

theorem p2_skipBlanks_L0_ok_12 {X : Cx} {Q : HP → Prop} (F : Fx X cX2_skipBlanks RX2 1 1) (G : Rx X none (QV Q))  : ∀ (n : Nat) (h : HP), p2_skipBlanks_L0 Q n h → AW X 1 0 [some (vR 12)] [] h := by
  intro n
  induction n with
  | zero => intro _ hb; exact hb.elim
  | succ n ih =>
    intro h hb
    unfold p2_skipBlanks_L0 at hb
    refine AW.aload_n (pn := 1) F dX2_skipBlanks_0 rfl rfl rfl ?_
    refine AW.getI (pn := 4) F dX2_skipBlanks_1 rfl gl_X2_29 so_12 rfl ?_
    refine AW.aload_n (pn := 5) F dX2_skipBlanks_4 rfl rfl rfl ?_
    refine AW.getI (pn := 8) F dX2_skipBlanks_5 rfl gl_X2_25 so_12 rfl ?_
    refine AW.icmp_ge (pn := 11) (tg := 38) F dX2_skipBlanks_8 rfl (by decide) hb (fun hb => ?_) (fun hb => ?_)
    · exact AW.vret F G dX2_skipBlanks_38 ⟨rfl, hb⟩
    · refine AW.aload_n (pn := 12) F dX2_skipBlanks_11 rfl rfl rfl ?_
      refine AW.getR (r := 1) (pn := 15) F dX2_skipBlanks_12 rfl gl_X2_9 so_12 rfl ?_
      refine AW.aload_n (pn := 16) F dX2_skipBlanks_15 rfl rfl rfl ?_
      refine AW.getI (pn := 19) F dX2_skipBlanks_16 rfl gl_X2_29 so_12 rfl ?_
      refine AW.cald (pn := 20) F dX2_skipBlanks_19 rfl so_1 hb (fun v3 hb => ?_)
      refine AW.bipush (pn := 22) F dX2_skipBlanks_20 rfl (by decide) ?_
      refine AW.icmp_ne (pn := 25) (tg := 38) F dX2_skipBlanks_22 rfl (by decide) hb (fun hb => ?_) (fun hb => ?_)
      · exact AW.vret F G dX2_skipBlanks_38 ⟨rfl, hb⟩
      · refine AW.aload_n (pn := 26) F dX2_skipBlanks_25 rfl rfl rfl ?_
        refine AW.dupR (pn := 27) F dX2_skipBlanks_26 rfl ?_
        refine AW.getI (pn := 30) F dX2_skipBlanks_27 rfl gl_X2_29 so_12 rfl ?_
        refine AW.iconst (pn := 31) F dX2_skipBlanks_30 rfl ?_
        refine AW.iadd (pn := 32) F dX2_skipBlanks_31 rfl ?_
        refine AW.putI (pn := 35) F dX2_skipBlanks_32 rfl pl_X2_29 so_12 rfl hb (fun h4 hb => ?_)
        refine AW.goto (tg := 0) F dX2_skipBlanks_35 (by decide) ?_
        exact ih _ hb

theorem p2_skipBlanks_12  {h : HP} {Q : HP → Prop} (hb : p2_skipBlanks  h Q) : MT yX2_skipBlanks cX2_skipBlanks 1 none 1 [vR 12] h (QV Q) := by
  refine MT.of (own := RX2) (by decide) rfl (Nat.le_of_ble_eq_true rfl) rfl (fun X F G => ?_)
  unfold p2_skipBlanks at hb
  refine AW.aload_n (pn := 1) F dX2_skipBlanks_0 rfl rfl rfl ?_
  refine AW.getI (pn := 4) F dX2_skipBlanks_1 rfl gl_X2_29 so_12 rfl ?_
  refine AW.aload_n (pn := 5) F dX2_skipBlanks_4 rfl rfl rfl ?_
  refine AW.getI (pn := 8) F dX2_skipBlanks_5 rfl gl_X2_25 so_12 rfl ?_
  refine AW.icmp_ge (pn := 11) (tg := 38) F dX2_skipBlanks_8 rfl (by decide) hb (fun hb => ?_) (fun hb => ?_)
  · exact AW.vret F G dX2_skipBlanks_38 ⟨rfl, hb⟩
  · refine AW.aload_n (pn := 12) F dX2_skipBlanks_11 rfl rfl rfl ?_
    refine AW.getR (r := 1) (pn := 15) F dX2_skipBlanks_12 rfl gl_X2_9 so_12 rfl ?_
    refine AW.aload_n (pn := 16) F dX2_skipBlanks_15 rfl rfl rfl ?_
    refine AW.getI (pn := 19) F dX2_skipBlanks_16 rfl gl_X2_29 so_12 rfl ?_
    refine AW.cald (pn := 20) F dX2_skipBlanks_19 rfl so_1 hb (fun v1 hb => ?_)
    refine AW.bipush (pn := 22) F dX2_skipBlanks_20 rfl (by decide) ?_
    refine AW.icmp_ne (pn := 25) (tg := 38) F dX2_skipBlanks_22 rfl (by decide) hb (fun hb => ?_) (fun hb => ?_)
    · exact AW.vret F G dX2_skipBlanks_38 ⟨rfl, hb⟩
    · refine AW.aload_n (pn := 26) F dX2_skipBlanks_25 rfl rfl rfl ?_
      refine AW.dupR (pn := 27) F dX2_skipBlanks_26 rfl ?_
      refine AW.getI (pn := 30) F dX2_skipBlanks_27 rfl gl_X2_29 so_12 rfl ?_
      refine AW.iconst (pn := 31) F dX2_skipBlanks_30 rfl ?_
      refine AW.iadd (pn := 32) F dX2_skipBlanks_31 rfl ?_
      refine AW.putI (pn := 35) F dX2_skipBlanks_32 rfl pl_X2_29 so_12 rfl hb (fun h2 hb => ?_)
      refine AW.goto (tg := 0) F dX2_skipBlanks_35 (by decide) ?_
      refine p2_skipBlanks_L0_ok_12 F G  _ _ hb

theorem p2_isWord_L17_ok_12_1000 {X : Cx} {x2 : Int} {h : HP} {Q : Int → Prop} (F : Fx X cX2_isWord RX2 4 8) (G : Rx X (some .boolean) (QP h Q))  : ∀ (n : Nat) (x3 : Int), p2_isWord_L17 0 x2 h Q n x3 → AW X 4 17 [some (vR 12), some (vR 1000), some (vI x2), some (vI x3)] [] h := by
  intro n
  induction n with
  | zero => intro _ hb; exact hb.elim
  | succ n ih =>
    intro x3 hb
    unfold p2_isWord_L17 at hb
    refine AW.iload_n (pn := 18) F dX2_isWord_17 rfl rfl rfl ?_
    refine AW.aload_n (pn := 19) F dX2_isWord_18 rfl rfl rfl ?_
    refine AW.slen0 (pn := 22) F dX2_isWord_19 rfl (by decide) (Nat.le_of_ble_eq_true rfl) ?_
    refine AW.icmp_ge (pn := 25) (tg := 49) F dX2_isWord_22 rfl (by decide) hb (fun hb => ?_) (fun hb => ?_)
    · refine AW.iconst (pn := 50) F dX2_isWord_49 rfl ?_
      exact AW.zret F G dX2_isWord_50 (by decide) ⟨rfl, _, rfl, hb⟩
    · refine AW.aload_n (pn := 26) F dX2_isWord_25 rfl rfl rfl ?_
      refine AW.getR (r := 1) (pn := 29) F dX2_isWord_26 rfl gl_X2_9 so_12 rfl ?_
      refine AW.iload_n (pn := 30) F dX2_isWord_29 rfl rfl rfl ?_
      refine AW.iload_n (pn := 31) F dX2_isWord_30 rfl rfl rfl ?_
      refine AW.iadd (pn := 32) F dX2_isWord_31 rfl ?_
      refine AW.cald (pn := 33) F dX2_isWord_32 rfl so_1 hb (fun v1 hb => ?_)
      refine AW.aload_n (pn := 34) F dX2_isWord_33 rfl rfl rfl ?_
      refine AW.iload_n (pn := 35) F dX2_isWord_34 rfl rfl rfl ?_
      refine AW.schr0 (pn := 38) F dX2_isWord_35 rfl (by decide) (Nat.le_of_ble_eq_true rfl) hb (fun v2 hb => ?_)
      refine AW.icmp_eq (pn := 41) (tg := 43) F dX2_isWord_38 rfl (by decide) hb (fun hb => ?_) (fun hb => ?_)
      · refine AW.iinc (ls2 := [some (vR 12), some (vR 1000), some (vI x2), some (vI (x3 + 1))]) (pn := 46) F dX2_isWord_43 rfl rfl (by decide) rfl rfl ?_
        refine AW.goto (tg := 17) F dX2_isWord_46 (by decide) ?_
        exact ih _ hb
      · refine AW.iconst (pn := 42) F dX2_isWord_41 rfl ?_
        exact AW.zret F G dX2_isWord_42 (by decide) ⟨rfl, _, rfl, hb⟩

theorem p2_isWord_12_1000 (x2 : Int) {h : HP} {Q : Int → Prop} (hb : p2_isWord 0 x2 h Q) : MT yX2_isWord cX2_isWord 4 (some .boolean) 8 [vR 12, vR 1000, vI x2] h (QP h Q) := by
  refine MT.of (own := RX2) (by decide) rfl (Nat.le_of_ble_eq_true rfl) rfl (fun X F G => ?_)
  unfold p2_isWord at hb
  refine AW.aload_n (pn := 1) F dX2_isWord_0 rfl rfl rfl ?_
  refine AW.getI (pn := 4) F dX2_isWord_1 rfl gl_X2_29 so_12 rfl ?_
  refine AW.iload_n (pn := 5) F dX2_isWord_4 rfl rfl rfl ?_
  refine AW.isub (pn := 6) F dX2_isWord_5 rfl ?_
  refine AW.aload_n (pn := 7) F dX2_isWord_6 rfl rfl rfl ?_
  refine AW.slen0 (pn := 10) F dX2_isWord_7 rfl (by decide) (Nat.le_of_ble_eq_true rfl) ?_
  refine AW.icmp_eq (pn := 13) (tg := 15) F dX2_isWord_10 rfl (by decide) hb (fun hb => ?_) (fun hb => ?_)
  · refine AW.iconst (pn := 16) F dX2_isWord_15 rfl ?_
    refine AW.istore_n (ls2 := [some (vR 12), some (vR 1000), some (vI x2), some (vI 0)]) (pn := 17) F dX2_isWord_16 rfl rfl (by decide) rfl rfl ?_
    refine p2_isWord_L17_ok_12_1000 F G  _ _ hb
  · refine AW.iconst (pn := 14) F dX2_isWord_13 rfl ?_
    exact AW.zret F G dX2_isWord_14 (by decide) ⟨rfl, _, rfl, hb⟩

theorem p2_isWord_L17_ok_12_1001 {X : Cx} {x2 : Int} {h : HP} {Q : Int → Prop} (F : Fx X cX2_isWord RX2 4 8) (G : Rx X (some .boolean) (QP h Q))  : ∀ (n : Nat) (x3 : Int), p2_isWord_L17 1 x2 h Q n x3 → AW X 4 17 [some (vR 12), some (vR 1001), some (vI x2), some (vI x3)] [] h := by
  intro n
  induction n with
  | zero => intro _ hb; exact hb.elim
  | succ n ih =>
    intro x3 hb
    unfold p2_isWord_L17 at hb
    refine AW.iload_n (pn := 18) F dX2_isWord_17 rfl rfl rfl ?_
    refine AW.aload_n (pn := 19) F dX2_isWord_18 rfl rfl rfl ?_
    refine AW.slen1 (pn := 22) F dX2_isWord_19 rfl (by decide) (Nat.le_of_ble_eq_true rfl) ?_
    refine AW.icmp_ge (pn := 25) (tg := 49) F dX2_isWord_22 rfl (by decide) hb (fun hb => ?_) (fun hb => ?_)
    · refine AW.iconst (pn := 50) F dX2_isWord_49 rfl ?_
      exact AW.zret F G dX2_isWord_50 (by decide) ⟨rfl, _, rfl, hb⟩
    · refine AW.aload_n (pn := 26) F dX2_isWord_25 rfl rfl rfl ?_
      refine AW.getR (r := 1) (pn := 29) F dX2_isWord_26 rfl gl_X2_9 so_12 rfl ?_
      refine AW.iload_n (pn := 30) F dX2_isWord_29 rfl rfl rfl ?_
      refine AW.iload_n (pn := 31) F dX2_isWord_30 rfl rfl rfl ?_
      refine AW.iadd (pn := 32) F dX2_isWord_31 rfl ?_
      refine AW.cald (pn := 33) F dX2_isWord_32 rfl so_1 hb (fun v1 hb => ?_)
      refine AW.aload_n (pn := 34) F dX2_isWord_33 rfl rfl rfl ?_
      refine AW.iload_n (pn := 35) F dX2_isWord_34 rfl rfl rfl ?_
      refine AW.schr1 (pn := 38) F dX2_isWord_35 rfl (by decide) (Nat.le_of_ble_eq_true rfl) hb (fun v2 hb => ?_)
      refine AW.icmp_eq (pn := 41) (tg := 43) F dX2_isWord_38 rfl (by decide) hb (fun hb => ?_) (fun hb => ?_)
      · refine AW.iinc (ls2 := [some (vR 12), some (vR 1001), some (vI x2), some (vI (x3 + 1))]) (pn := 46) F dX2_isWord_43 rfl rfl (by decide) rfl rfl ?_
        refine AW.goto (tg := 17) F dX2_isWord_46 (by decide) ?_
        exact ih _ hb
      · refine AW.iconst (pn := 42) F dX2_isWord_41 rfl ?_
        exact AW.zret F G dX2_isWord_42 (by decide) ⟨rfl, _, rfl, hb⟩

theorem p2_isWord_12_1001 (x2 : Int) {h : HP} {Q : Int → Prop} (hb : p2_isWord 1 x2 h Q) : MT yX2_isWord cX2_isWord 4 (some .boolean) 8 [vR 12, vR 1001, vI x2] h (QP h Q) := by
  refine MT.of (own := RX2) (by decide) rfl (Nat.le_of_ble_eq_true rfl) rfl (fun X F G => ?_)
  unfold p2_isWord at hb
  refine AW.aload_n (pn := 1) F dX2_isWord_0 rfl rfl rfl ?_
  refine AW.getI (pn := 4) F dX2_isWord_1 rfl gl_X2_29 so_12 rfl ?_
  refine AW.iload_n (pn := 5) F dX2_isWord_4 rfl rfl rfl ?_
  refine AW.isub (pn := 6) F dX2_isWord_5 rfl ?_
  refine AW.aload_n (pn := 7) F dX2_isWord_6 rfl rfl rfl ?_
  refine AW.slen1 (pn := 10) F dX2_isWord_7 rfl (by decide) (Nat.le_of_ble_eq_true rfl) ?_
  refine AW.icmp_eq (pn := 13) (tg := 15) F dX2_isWord_10 rfl (by decide) hb (fun hb => ?_) (fun hb => ?_)
  · refine AW.iconst (pn := 16) F dX2_isWord_15 rfl ?_
    refine AW.istore_n (ls2 := [some (vR 12), some (vR 1001), some (vI x2), some (vI 0)]) (pn := 17) F dX2_isWord_16 rfl rfl (by decide) rfl rfl ?_
    refine p2_isWord_L17_ok_12_1001 F G  _ _ hb
  · refine AW.iconst (pn := 14) F dX2_isWord_13 rfl ?_
    exact AW.zret F G dX2_isWord_14 (by decide) ⟨rfl, _, rfl, hb⟩

theorem p2_isFigure_s (x0 : Int) {h : HP} {Q : Int → Prop} (hb : p2_isFigure x0 h Q) : MT yX2_isFigure cX2_isFigure 1 (some .boolean) 1 [vI x0] h (QP h Q) := by
  refine MT.of (own := RX2) (by decide) rfl (Nat.le_of_ble_eq_true rfl) rfl (fun X F G => ?_)
  unfold p2_isFigure at hb
  refine AW.iload_n (pn := 1) F dX2_isFigure_0 rfl rfl rfl ?_
  refine AW.bipush (pn := 3) F dX2_isFigure_1 rfl (by decide) ?_
  refine AW.icmp_lt (pn := 6) (tg := 16) F dX2_isFigure_3 rfl (by decide) hb (fun hb => ?_) (fun hb => ?_)
  · refine AW.iconst (pn := 17) F dX2_isFigure_16 rfl ?_
    exact AW.zret F G dX2_isFigure_17 (by decide) ⟨rfl, _, rfl, hb⟩
  · refine AW.iload_n (pn := 7) F dX2_isFigure_6 rfl rfl rfl ?_
    refine AW.bipush (pn := 9) F dX2_isFigure_7 rfl (by decide) ?_
    refine AW.icmp_gt (pn := 12) (tg := 16) F dX2_isFigure_9 rfl (by decide) hb (fun hb => ?_) (fun hb => ?_)
    · refine AW.iconst (pn := 17) F dX2_isFigure_16 rfl ?_
      exact AW.zret F G dX2_isFigure_17 (by decide) ⟨rfl, _, rfl, hb⟩
    · refine AW.iconst (pn := 13) F dX2_isFigure_12 rfl ?_
      refine AW.goto (tg := 17) F dX2_isFigure_13 (by decide) ?_
      exact AW.zret F G dX2_isFigure_17 (by decide) ⟨rfl, _, rfl, hb⟩

theorem p2_numberFollows_12  {h : HP} {Q : Int → HP → Prop} (hb : p2_numberFollows  h Q) : MT yX2_numberFollows cX2_numberFollows 1 (some .boolean) 2 [vR 12] h (QI Q) := by
  refine MT.of (own := RX2) (by decide) rfl (Nat.le_of_ble_eq_true rfl) rfl (fun X F G => ?_)
  unfold p2_numberFollows at hb
  refine AW.aload_n (pn := 1) F dX2_numberFollows_0 rfl rfl rfl ?_
  refine AW.cVV (pn := 4) (st := []) F dX2_numberFollows_1 rfl cl_X2_49 so_12 (p2_skipBlanks_12  hb) rfl rfl (Nat.le_of_ble_eq_true rfl) (by decide) (fun h1 hb => ?_)
  refine AW.aload_n (pn := 5) F dX2_numberFollows_4 rfl rfl rfl ?_
  refine AW.getI (pn := 8) F dX2_numberFollows_5 rfl gl_X2_29 so_12 rfl ?_
  refine AW.aload_n (pn := 9) F dX2_numberFollows_8 rfl rfl rfl ?_
  refine AW.getI (pn := 12) F dX2_numberFollows_9 rfl gl_X2_25 so_12 rfl ?_
  refine AW.icmp_ge (pn := 15) (tg := 34) F dX2_numberFollows_12 rfl (by decide) hb (fun hb => ?_) (fun hb => ?_)
  · refine AW.iconst (pn := 35) F dX2_numberFollows_34 rfl ?_
    exact AW.zret F G dX2_numberFollows_35 (by decide) ⟨_, rfl, hb⟩
  · refine AW.aload_n (pn := 16) F dX2_numberFollows_15 rfl rfl rfl ?_
    refine AW.getR (r := 1) (pn := 19) F dX2_numberFollows_16 rfl gl_X2_9 so_12 rfl ?_
    refine AW.aload_n (pn := 20) F dX2_numberFollows_19 rfl rfl rfl ?_
    refine AW.getI (pn := 23) F dX2_numberFollows_20 rfl gl_X2_29 so_12 rfl ?_
    refine AW.cald (pn := 24) F dX2_numberFollows_23 rfl so_1 hb (fun v2 hb => ?_)
    refine AW.cSP (pn := 27) (st := []) F dX2_numberFollows_24 rfl cl_X2_110 (p2_isFigure_s v2 hb) rfl rfl (Nat.le_of_ble_eq_true rfl) (by decide) (fun r3 hb => ?_)
    refine AW.if_eq (pn := 30) (tg := 34) F dX2_numberFollows_27 rfl (by decide) hb (fun hb => ?_) (fun hb => ?_)
    · refine AW.iconst (pn := 35) F dX2_numberFollows_34 rfl ?_
      exact AW.zret F G dX2_numberFollows_35 (by decide) ⟨_, rfl, hb⟩
    · refine AW.iconst (pn := 31) F dX2_numberFollows_30 rfl ?_
      refine AW.goto (tg := 35) F dX2_numberFollows_31 (by decide) ?_
      exact AW.zret F G dX2_numberFollows_35 (by decide) ⟨_, rfl, hb⟩

theorem p2_fail_12 (x1 x2 : Int) {h : HP} {Q : HP → Prop} (hb : p2_fail x1 x2 h Q) : MT yX2_fail cX2_fail 3 none 1 [vR 12, vI x1, vI x2] h (QV Q) := by
  refine MT.of (own := RX2) (by decide) rfl (Nat.le_of_ble_eq_true rfl) rfl (fun X F G => ?_)
  unfold p2_fail at hb
  refine AW.aload_n (pn := 1) F dX2_fail_0 rfl rfl rfl ?_
  refine AW.getI (pn := 4) F dX2_fail_1 rfl gl_X2_38 so_12 rfl ?_
  refine AW.if_ne (pn := 7) (tg := 17) F dX2_fail_4 rfl (by decide) hb (fun hb => ?_) (fun hb => ?_)
  · exact AW.vret F G dX2_fail_17 ⟨rfl, hb⟩
  · refine AW.aload_n (pn := 8) F dX2_fail_7 rfl rfl rfl ?_
    refine AW.iload_n (pn := 9) F dX2_fail_8 rfl rfl rfl ?_
    refine AW.putI (pn := 12) F dX2_fail_9 rfl pl_X2_38 so_12 rfl hb (fun h1 hb => ?_)
    refine AW.aload_n (pn := 13) F dX2_fail_12 rfl rfl rfl ?_
    refine AW.iload_n (pn := 14) F dX2_fail_13 rfl rfl rfl ?_
    refine AW.putI (pn := 17) F dX2_fail_14 rfl pl_X2_41 so_12 rfl hb (fun h2 hb => ?_)
    exact AW.vret F G dX2_fail_17 ⟨rfl, hb⟩

theorem p2_readNumber_L26_ok_12 {X : Cx} {x1 x2 x3 : Int} {E100 : HP → Int → Prop} {Q : Int → HP → Prop} (F : Fx X cX2_readNumber RX2 5 3) (G : Rx X (some .int) (QI Q)) (hE100 : ∀ (h : HP) (x4 : Int), E100 h x4 → AW X 5 100 [some (vR 12), some (vI x1), some (vI x2), some (vI x3), some (vI x4)] [] h) : ∀ (n : Nat) (h : HP) (x4 : Int), p2_readNumber_L26 x1 x2 x3 E100 n h x4 → AW X 5 26 [some (vR 12), some (vI x1), some (vI x2), some (vI x3), some (vI x4)] [] h := by
  intro n
  induction n with
  | zero => intro _ _ hb; exact hb.elim
  | succ n ih =>
    intro h x4 hb
    unfold p2_readNumber_L26 at hb
    refine AW.aload_n (pn := 27) F dX2_readNumber_26 rfl rfl rfl ?_
    refine AW.getI (pn := 30) F dX2_readNumber_27 rfl gl_X2_29 so_12 rfl ?_
    refine AW.aload_n (pn := 31) F dX2_readNumber_30 rfl rfl rfl ?_
    refine AW.getI (pn := 34) F dX2_readNumber_31 rfl gl_X2_25 so_12 rfl ?_
    refine AW.icmp_ge (pn := 37) (tg := 100) F dX2_readNumber_34 rfl (by decide) hb (fun hb => ?_) (fun hb => ?_)
    · exact hE100 _ _ hb
    · refine AW.aload_n (pn := 38) F dX2_readNumber_37 rfl rfl rfl ?_
      refine AW.getR (r := 1) (pn := 41) F dX2_readNumber_38 rfl gl_X2_9 so_12 rfl ?_
      refine AW.aload_n (pn := 42) F dX2_readNumber_41 rfl rfl rfl ?_
      refine AW.getI (pn := 45) F dX2_readNumber_42 rfl gl_X2_29 so_12 rfl ?_
      refine AW.cald (pn := 46) F dX2_readNumber_45 rfl so_1 hb (fun v3 hb => ?_)
      refine AW.cSP (pn := 49) (st := []) F dX2_readNumber_46 rfl cl_X2_110 (p2_isFigure_s v3 hb) rfl rfl (Nat.le_of_ble_eq_true rfl) (by decide) (fun r4 hb => ?_)
      refine AW.if_eq (pn := 52) (tg := 100) F dX2_readNumber_49 rfl (by decide) hb (fun hb => ?_) (fun hb => ?_)
      · exact hE100 _ _ hb
      · refine AW.aload_n (pn := 53) F dX2_readNumber_52 rfl rfl rfl ?_
        refine AW.getI (pn := 56) F dX2_readNumber_53 rfl gl_X2_29 so_12 rfl ?_
        refine AW.iload_n (pn := 57) F dX2_readNumber_56 rfl rfl rfl ?_
        refine AW.isub (pn := 58) F dX2_readNumber_57 rfl ?_
        refine AW.iconst (pn := 59) F dX2_readNumber_58 rfl ?_
        refine jn_1 hb (fun (y7 : Int) => AW X 5 85 [some (vR 12), some (vI x1), some (vI x2), some (vI x3), none] [vI y7] h) (fun y7 hb => ?_) (fun K8 hK8 hb => ?_)
        · refine AW.istore (ls2 := [some (vR 12), some (vI x1), some (vI x2), some (vI x3), some (vI y7)]) (pn := 87) F dX2_readNumber_85 rfl (by decide) rfl rfl ?_
          refine AW.aload_n (pn := 88) F dX2_readNumber_87 rfl rfl rfl ?_
          refine AW.dupR (pn := 89) F dX2_readNumber_88 rfl ?_
          refine AW.getI (pn := 92) F dX2_readNumber_89 rfl gl_X2_29 so_12 rfl ?_
          refine AW.iconst (pn := 93) F dX2_readNumber_92 rfl ?_
          refine AW.iadd (pn := 94) F dX2_readNumber_93 rfl ?_
          refine AW.putI (pn := 97) F dX2_readNumber_94 rfl pl_X2_29 so_12 rfl hb (fun h9 hb => ?_)
          refine AW.goto (tg := 26) F dX2_readNumber_97 (by decide) ?_
          exact ih _ _ hb
        refine AW.icmp_ge (pn := 62) (tg := 83) F dX2_readNumber_59 rfl (by decide) hb (fun hb => ?_) (fun hb => ?_)
        · refine AW.iload (pn := 85) F dX2_readNumber_83 rfl rfl ?_
          refine AW.drop [true, true, true, true, false] rfl ?_
          exact hK8 _ hb
        · refine AW.iload (pn := 64) F dX2_readNumber_62 rfl rfl ?_
          refine AW.bipush (pn := 66) F dX2_readNumber_64 rfl (by decide) ?_
          refine AW.imul (pn := 67) F dX2_readNumber_66 rfl ?_
          refine AW.aload_n (pn := 68) F dX2_readNumber_67 rfl rfl rfl ?_
          refine AW.getR (r := 1) (pn := 71) F dX2_readNumber_68 rfl gl_X2_9 so_12 rfl ?_
          refine AW.aload_n (pn := 72) F dX2_readNumber_71 rfl rfl rfl ?_
          refine AW.getI (pn := 75) F dX2_readNumber_72 rfl gl_X2_29 so_12 rfl ?_
          refine AW.cald (pn := 76) F dX2_readNumber_75 rfl so_1 hb (fun v10 hb => ?_)
          refine AW.iadd (pn := 77) F dX2_readNumber_76 rfl ?_
          refine AW.bipush (pn := 79) F dX2_readNumber_77 rfl (by decide) ?_
          refine AW.isub (pn := 80) F dX2_readNumber_79 rfl ?_
          refine AW.goto (tg := 85) F dX2_readNumber_80 (by decide) ?_
          refine AW.drop [true, true, true, true, false] rfl ?_
          exact hK8 _ hb

theorem p2_readNumber_12 (x1 x2 : Int) {h : HP} {Q : Int → HP → Prop} (hb : p2_readNumber x1 x2 h Q) : MT yX2_readNumber cX2_readNumber 5 (some .int) 3 [vR 12, vI x1, vI x2] h (QI Q) := by
  refine MT.of (own := RX2) (by decide) rfl (Nat.le_of_ble_eq_true rfl) rfl (fun X F G => ?_)
  unfold p2_readNumber at hb
  refine AW.aload_n (pn := 1) F dX2_readNumber_0 rfl rfl rfl ?_
  refine AW.cVI (pn := 4) (st := []) F dX2_readNumber_1 rfl cl_X2_91 so_12 (p2_numberFollows_12  hb) rfl rfl (Nat.le_of_ble_eq_true rfl) (by decide) (fun r1 h2 hb => ?_)
  refine AW.if_ne (pn := 7) (tg := 18) F dX2_readNumber_4 rfl (by decide) hb (fun hb => ?_) (fun hb => ?_)
  · refine AW.aload_n (pn := 19) F dX2_readNumber_18 rfl rfl rfl ?_
    refine AW.getI (pn := 22) F dX2_readNumber_19 rfl gl_X2_29 so_12 rfl ?_
    refine AW.istore_n (ls2 := [some (vR 12), some (vI x1), some (vI x2), some (vI (h2 12 3)), none]) (pn := 23) F dX2_readNumber_22 rfl rfl (by decide) rfl rfl ?_
    refine AW.iconst (pn := 24) F dX2_readNumber_23 rfl ?_
    refine AW.istore (ls2 := [some (vR 12), some (vI x1), some (vI x2), some (vI (h2 12 3)), some (vI 0)]) (pn := 26) F dX2_readNumber_24 rfl (by decide) rfl rfl ?_
    refine p2_readNumber_L26_ok_12 F G (fun h11 y12 hb => ?_) _ _ _ hb
    refine AW.aload_n (pn := 101) F dX2_readNumber_100 rfl rfl rfl ?_
    refine AW.getI (pn := 104) F dX2_readNumber_101 rfl gl_X2_29 so_12 rfl ?_
    refine AW.iload_n (pn := 105) F dX2_readNumber_104 rfl rfl rfl ?_
    refine AW.isub (pn := 106) F dX2_readNumber_105 rfl ?_
    refine AW.iconst (pn := 107) F dX2_readNumber_106 rfl ?_
    refine jn_0 hb (AW X 5 122 [some (vR 12), none, none, some (vI (h2 12 3)), none] [] h11) (fun  hb => ?_) (fun K13 hK13 hb => ?_)
    · refine AW.aload_n (pn := 123) F dX2_readNumber_122 rfl rfl rfl ?_
      refine AW.iconst (pn := 124) F dX2_readNumber_123 rfl ?_
      refine AW.iload_n (pn := 125) F dX2_readNumber_124 rfl rfl rfl ?_
      refine AW.cVV (pn := 128) (st := []) F dX2_readNumber_125 rfl cl_X2_77 so_12 (p2_fail_12 2 (h2 12 3) hb) rfl rfl (Nat.le_of_ble_eq_true rfl) (by decide) (fun h14 hb => ?_)
      refine AW.iconst (pn := 129) F dX2_readNumber_128 rfl ?_
      exact AW.iret F G dX2_readNumber_129 ⟨_, rfl, hb⟩
    refine AW.icmp_gt (pn := 110) (tg := 122) F dX2_readNumber_107 rfl (by decide) hb (fun hb => ?_) (fun hb => ?_)
    · refine AW.drop [true, false, false, true, false] rfl ?_
      exact hK13 hb
    · refine AW.iload (pn := 112) F dX2_readNumber_110 rfl rfl ?_
      refine AW.iload_n (pn := 113) F dX2_readNumber_112 rfl rfl rfl ?_
      refine AW.icmp_lt (pn := 116) (tg := 122) F dX2_readNumber_113 rfl (by decide) hb (fun hb => ?_) (fun hb => ?_)
      · refine AW.drop [true, false, false, true, false] rfl ?_
        exact hK13 hb
      · refine AW.iload (pn := 118) F dX2_readNumber_116 rfl rfl ?_
        refine AW.iload_n (pn := 119) F dX2_readNumber_118 rfl rfl rfl ?_
        refine AW.icmp_le (pn := 122) (tg := 130) F dX2_readNumber_119 rfl (by decide) hb (fun hb => ?_) (fun hb => ?_)
        · refine AW.iload (pn := 132) F dX2_readNumber_130 rfl rfl ?_
          exact AW.iret F G dX2_readNumber_132 ⟨_, rfl, hb⟩
        · refine AW.drop [true, false, false, true, false] rfl ?_
          exact hK13 hb
  · refine AW.aload_n (pn := 8) F dX2_readNumber_7 rfl rfl rfl ?_
    refine AW.iconst (pn := 9) F dX2_readNumber_8 rfl ?_
    refine AW.aload_n (pn := 10) F dX2_readNumber_9 rfl rfl rfl ?_
    refine AW.getI (pn := 13) F dX2_readNumber_10 rfl gl_X2_29 so_12 rfl ?_
    refine AW.cVV (pn := 16) (st := []) F dX2_readNumber_13 rfl cl_X2_77 so_12 (p2_fail_12 1 (h2 12 3) hb) rfl rfl (Nat.le_of_ble_eq_true rfl) (by decide) (fun h15 hb => ?_)
    refine AW.iconst (pn := 17) F dX2_readNumber_16 rfl ?_
    exact AW.iret F G dX2_readNumber_17 ⟨_, rfl, hb⟩

theorem p2_readEnd_12  {h : HP} {Q : Int → HP → Prop} (hb : p2_readEnd  h Q) : MT yX2_readEnd cX2_readEnd 1 (some .boolean) 2 [vR 12] h (QI Q) := by
  refine MT.of (own := RX2) (by decide) rfl (Nat.le_of_ble_eq_true rfl) rfl (fun X F G => ?_)
  unfold p2_readEnd at hb
  refine AW.aload_n (pn := 1) F dX2_readEnd_0 rfl rfl rfl ?_
  refine AW.cVV (pn := 4) (st := []) F dX2_readEnd_1 rfl cl_X2_49 so_12 (p2_skipBlanks_12  hb) rfl rfl (Nat.le_of_ble_eq_true rfl) (by decide) (fun h1 hb => ?_)
  refine AW.aload_n (pn := 5) F dX2_readEnd_4 rfl rfl rfl ?_
  refine AW.getI (pn := 8) F dX2_readEnd_5 rfl gl_X2_29 so_12 rfl ?_
  refine AW.aload_n (pn := 9) F dX2_readEnd_8 rfl rfl rfl ?_
  refine AW.getI (pn := 12) F dX2_readEnd_9 rfl gl_X2_25 so_12 rfl ?_
  refine jn_1 hb (fun (h6 : HP) => AW X 1 51 [some (vR 12)] [] h6) (fun h6 hb => ?_) (fun K7 hK7 hb => ?_)
  · refine AW.aload_n (pn := 52) F dX2_readEnd_51 rfl rfl rfl ?_
    refine AW.getI (pn := 55) F dX2_readEnd_52 rfl gl_X2_38 so_12 rfl ?_
    refine AW.if_ne (pn := 58) (tg := 62) F dX2_readEnd_55 rfl (by decide) hb (fun hb => ?_) (fun hb => ?_)
    · refine AW.iconst (pn := 63) F dX2_readEnd_62 rfl ?_
      exact AW.zret F G dX2_readEnd_63 (by decide) ⟨_, rfl, hb⟩
    · refine AW.iconst (pn := 59) F dX2_readEnd_58 rfl ?_
      refine AW.goto (tg := 63) F dX2_readEnd_59 (by decide) ?_
      exact AW.zret F G dX2_readEnd_63 (by decide) ⟨_, rfl, hb⟩
  refine jn_0 hb (AW X 1 42 [some (vR 12)] [] h1) (fun  hb => ?_) (fun K8 hK8 hb => ?_)
  · refine AW.aload_n (pn := 43) F dX2_readEnd_42 rfl rfl rfl ?_
    refine AW.iconst (pn := 44) F dX2_readEnd_43 rfl ?_
    refine AW.aload_n (pn := 45) F dX2_readEnd_44 rfl rfl rfl ?_
    refine AW.getI (pn := 48) F dX2_readEnd_45 rfl gl_X2_29 so_12 rfl ?_
    refine AW.cVV (pn := 51) (st := []) F dX2_readEnd_48 rfl cl_X2_77 so_12 (p2_fail_12 1 (h1 12 3) hb) rfl rfl (Nat.le_of_ble_eq_true rfl) (by decide) (fun h9 hb => ?_)
    exact hK7 _ hb
  refine AW.icmp_ge (pn := 15) (tg := 42) F dX2_readEnd_12 rfl (by decide) hb (fun hb => ?_) (fun hb => ?_)
  · exact hK8 hb
  · refine AW.aload_n (pn := 16) F dX2_readEnd_15 rfl rfl rfl ?_
    refine AW.getR (r := 1) (pn := 19) F dX2_readEnd_16 rfl gl_X2_9 so_12 rfl ?_
    refine AW.aload_n (pn := 20) F dX2_readEnd_19 rfl rfl rfl ?_
    refine AW.getI (pn := 23) F dX2_readEnd_20 rfl gl_X2_29 so_12 rfl ?_
    refine AW.cald (pn := 24) F dX2_readEnd_23 rfl so_1 hb (fun v10 hb => ?_)
    refine AW.bipush (pn := 26) F dX2_readEnd_24 rfl (by decide) ?_
    refine AW.icmp_ne (pn := 29) (tg := 42) F dX2_readEnd_26 rfl (by decide) hb (fun hb => ?_) (fun hb => ?_)
    · exact hK8 hb
    · refine AW.aload_n (pn := 30) F dX2_readEnd_29 rfl rfl rfl ?_
      refine AW.dupR (pn := 31) F dX2_readEnd_30 rfl ?_
      refine AW.getI (pn := 34) F dX2_readEnd_31 rfl gl_X2_29 so_12 rfl ?_
      refine AW.iconst (pn := 35) F dX2_readEnd_34 rfl ?_
      refine AW.iadd (pn := 36) F dX2_readEnd_35 rfl ?_
      refine AW.putI (pn := 39) F dX2_readEnd_36 rfl pl_X2_29 so_12 rfl hb (fun h11 hb => ?_)
      refine AW.goto (tg := 51) F dX2_readEnd_39 (by decide) ?_
      exact hK7 _ hb

theorem p2_readHouse_L28_ok_12 {X : Cx} {x2 : Int} {E158 : HP → Prop} {Q : HP → Prop} (F : Fx X cX2_readHouse RX2 6 4) (G : Rx X none (QV Q)) (hE158 : ∀ (h : HP), E158 h → AW X 6 158 [some (vR 12), none, some (vI x2), none, none, none] [] h) : ∀ (n : Nat) (h : HP) (x3 : Int), p2_readHouse_L28 x2 E158 n h x3 → AW X 6 28 [some (vR 12), none, some (vI x2), some (vI x3), none, none] [] h := by
  intro n
  induction n with
  | zero => intro _ _ hb; exact hb.elim
  | succ n ih =>
    intro h x3 hb
    unfold p2_readHouse_L28 at hb
    refine AW.iload_n (pn := 29) F dX2_readHouse_28 rfl rfl rfl ?_
    refine AW.iconst (pn := 30) F dX2_readHouse_29 rfl ?_
    refine AW.icmp_gt (pn := 33) (tg := 158) F dX2_readHouse_30 rfl (by decide) hb (fun hb => ?_) (fun hb => ?_)
    · refine AW.drop [true, true, true, false, true, true] rfl ?_
      exact hE158 _ hb
    · refine AW.aload_n (pn := 34) F dX2_readHouse_33 rfl rfl rfl ?_
      refine AW.getI (pn := 37) F dX2_readHouse_34 rfl gl_X2_38 so_12 rfl ?_
      refine AW.if_ne (pn := 40) (tg := 158) F dX2_readHouse_37 rfl (by decide) hb (fun hb => ?_) (fun hb => ?_)
      · refine AW.drop [true, true, true, false, true, true] rfl ?_
        exact hE158 _ hb
      · refine AW.aload_n (pn := 41) F dX2_readHouse_40 rfl rfl rfl ?_
        refine AW.cVI (pn := 44) (st := []) F dX2_readHouse_41 rfl cl_X2_91 so_12 (p2_numberFollows_12  hb) rfl rfl (Nat.le_of_ble_eq_true rfl) (by decide) (fun r3 h4 hb => ?_)
        refine AW.if_eq (pn := 47) (tg := 158) F dX2_readHouse_44 rfl (by decide) hb (fun hb => ?_) (fun hb => ?_)
        · refine AW.drop [true, true, true, false, true, true] rfl ?_
          exact hE158 _ hb
        · refine AW.aload_n (pn := 48) F dX2_readHouse_47 rfl rfl rfl ?_
          refine AW.getI (pn := 51) F dX2_readHouse_48 rfl gl_X2_29 so_12 rfl ?_
          refine AW.istore (ls2 := [some (vR 12), none, some (vI x2), some (vI x3), some (vI (h4 12 3)), none]) (pn := 53) F dX2_readHouse_51 rfl (by decide) rfl rfl ?_
          refine AW.aload_n (pn := 54) F dX2_readHouse_53 rfl rfl rfl ?_
          refine AW.iconst (pn := 55) F dX2_readHouse_54 rfl ?_
          refine AW.aload_n (pn := 56) F dX2_readHouse_55 rfl rfl rfl ?_
          refine AW.getR (r := 7) (pn := 59) F dX2_readHouse_56 rfl gl_X2_15 so_12 rfl ?_
          refine AW.getI (pn := 62) F dX2_readHouse_59 rfl gl_X2_65 so_7 rfl ?_
          refine AW.iconst (pn := 63) F dX2_readHouse_62 rfl ?_
          refine AW.isub (pn := 64) F dX2_readHouse_63 rfl ?_
          refine AW.cVI (pn := 67) (st := []) F dX2_readHouse_64 rfl cl_X2_81 so_12 (p2_readNumber_12 0 ((h4 7 0) - 1) hb) rfl rfl (Nat.le_of_ble_eq_true rfl) (by decide) (fun r5 h6 hb => ?_)
          refine AW.istore (ls2 := [some (vR 12), none, some (vI x2), some (vI x3), some (vI (h4 12 3)), some (vI r5)]) (pn := 69) F dX2_readHouse_67 rfl (by decide) rfl rfl ?_
          refine AW.iload_n (pn := 70) F dX2_readHouse_69 rfl rfl rfl ?_
          refine AW.iconst (pn := 71) F dX2_readHouse_70 rfl ?_
          refine jn_1 hb (fun (h9 : HP) => AW X 6 81 [some (vR 12), none, some (vI x2), some (vI x3), none, some (vI r5)] [] h9) (fun h9 hb => ?_) (fun K10 hK10 hb => ?_)
          · refine AW.aload_n (pn := 82) F dX2_readHouse_81 rfl rfl rfl ?_
            refine AW.getI (pn := 85) F dX2_readHouse_82 rfl gl_X2_38 so_12 rfl ?_
            refine AW.if_ne (pn := 88) (tg := 152) F dX2_readHouse_85 rfl (by decide) hb (fun hb => ?_) (fun hb => ?_)
            · refine AW.iinc (ls2 := [some (vR 12), none, some (vI x2), some (vI (x3 + 1)), none, some (vI r5)]) (pn := 155) F dX2_readHouse_152 rfl rfl (by decide) rfl rfl ?_
              refine AW.goto (tg := 28) F dX2_readHouse_155 (by decide) ?_
              refine AW.drop [true, true, true, true, true, false] rfl ?_
              exact ih _ _ hb
            · refine AW.aload_n (pn := 89) F dX2_readHouse_88 rfl rfl rfl ?_
              refine AW.getR (r := 7) (pn := 92) F dX2_readHouse_89 rfl gl_X2_15 so_12 rfl ?_
              refine AW.getI (pn := 95) F dX2_readHouse_92 rfl gl_X2_94 so_7 rfl ?_
              refine AW.bipush (pn := 97) F dX2_readHouse_95 rfl (by decide) ?_
              refine AW.icmp_ge (pn := 100) (tg := 152) F dX2_readHouse_97 rfl (by decide) hb (fun hb => ?_) (fun hb => ?_)
              · refine AW.iinc (ls2 := [some (vR 12), none, some (vI x2), some (vI (x3 + 1)), none, some (vI r5)]) (pn := 155) F dX2_readHouse_152 rfl rfl (by decide) rfl rfl ?_
                refine AW.goto (tg := 28) F dX2_readHouse_155 (by decide) ?_
                refine AW.drop [true, true, true, true, true, false] rfl ?_
                exact ih _ _ hb
              · refine AW.aload_n (pn := 101) F dX2_readHouse_100 rfl rfl rfl ?_
                refine AW.getR (r := 7) (pn := 104) F dX2_readHouse_101 rfl gl_X2_15 so_12 rfl ?_
                refine AW.getR (r := 9) (pn := 107) F dX2_readHouse_104 rfl gl_X2_97 so_7 rfl ?_
                refine AW.aload_n (pn := 108) F dX2_readHouse_107 rfl rfl rfl ?_
                refine AW.getR (r := 7) (pn := 111) F dX2_readHouse_108 rfl gl_X2_15 so_12 rfl ?_
                refine AW.getI (pn := 114) F dX2_readHouse_111 rfl gl_X2_94 so_7 rfl ?_
                refine AW.iload (pn := 116) F dX2_readHouse_114 rfl rfl ?_
                refine AW.iast (pn := 117) F dX2_readHouse_116 rfl so_9 hb (fun h11 hb => ?_)
                refine AW.aload_n (pn := 118) F dX2_readHouse_117 rfl rfl rfl ?_
                refine AW.getR (r := 7) (pn := 121) F dX2_readHouse_118 rfl gl_X2_15 so_12 rfl ?_
                refine AW.getR (r := 10) (pn := 124) F dX2_readHouse_121 rfl gl_X2_101 so_7 rfl ?_
                refine AW.aload_n (pn := 125) F dX2_readHouse_124 rfl rfl rfl ?_
                refine AW.getR (r := 7) (pn := 128) F dX2_readHouse_125 rfl gl_X2_15 so_12 rfl ?_
                refine AW.getI (pn := 131) F dX2_readHouse_128 rfl gl_X2_94 so_7 rfl ?_
                refine AW.aload_n (pn := 132) F dX2_readHouse_131 rfl rfl rfl ?_
                refine AW.getR (r := 7) (pn := 135) F dX2_readHouse_132 rfl gl_X2_15 so_12 rfl ?_
                refine AW.getI (pn := 138) F dX2_readHouse_135 rfl gl_X2_88 so_7 rfl ?_
                refine AW.iast (pn := 139) F dX2_readHouse_138 rfl so_10 hb (fun h12 hb => ?_)
                refine AW.aload_n (pn := 140) F dX2_readHouse_139 rfl rfl rfl ?_
                refine AW.getR (r := 7) (pn := 143) F dX2_readHouse_140 rfl gl_X2_15 so_12 rfl ?_
                refine AW.dupR (pn := 144) F dX2_readHouse_143 rfl ?_
                refine AW.getI (pn := 147) F dX2_readHouse_144 rfl gl_X2_94 so_7 rfl ?_
                refine AW.iconst (pn := 148) F dX2_readHouse_147 rfl ?_
                refine AW.iadd (pn := 149) F dX2_readHouse_148 rfl ?_
                refine AW.putI (pn := 152) F dX2_readHouse_149 rfl pl_X2_94 so_7 rfl hb (fun h13 hb => ?_)
                refine AW.iinc (ls2 := [some (vR 12), none, some (vI x2), some (vI (x3 + 1)), none, some (vI r5)]) (pn := 155) F dX2_readHouse_152 rfl rfl (by decide) rfl rfl ?_
                refine AW.goto (tg := 28) F dX2_readHouse_155 (by decide) ?_
                refine AW.drop [true, true, true, true, true, false] rfl ?_
                exact ih _ _ hb
          refine AW.icmp_ne (pn := 74) (tg := 81) F dX2_readHouse_71 rfl (by decide) hb (fun hb => ?_) (fun hb => ?_)
          · refine AW.drop [true, true, true, true, false, true] rfl ?_
            exact hK10 _ hb
          · refine AW.aload_n (pn := 75) F dX2_readHouse_74 rfl rfl rfl ?_
            refine AW.iconst (pn := 76) F dX2_readHouse_75 rfl ?_
            refine AW.iload (pn := 78) F dX2_readHouse_76 rfl rfl ?_
            refine AW.cVV (pn := 81) (st := []) F dX2_readHouse_78 rfl cl_X2_77 so_12 (p2_fail_12 4 (h4 12 3) hb) rfl rfl (Nat.le_of_ble_eq_true rfl) (by decide) (fun h14 hb => ?_)
            refine AW.drop [true, true, true, true, false, true] rfl ?_
            exact hK10 _ hb

theorem p2_readHouse_12 (x1 : Int) {h : HP} {Q : HP → Prop} (hb : p2_readHouse x1 h Q) : MT yX2_readHouse cX2_readHouse 6 none 4 [vR 12, vI x1] h (QV Q) := by
  refine MT.of (own := RX2) (by decide) rfl (Nat.le_of_ble_eq_true rfl) rfl (fun X F G => ?_)
  unfold p2_readHouse at hb
  refine AW.aload_n (pn := 1) F dX2_readHouse_0 rfl rfl rfl ?_
  refine AW.getR (r := 7) (pn := 4) F dX2_readHouse_1 rfl gl_X2_15 so_12 rfl ?_
  refine AW.getI (pn := 7) F dX2_readHouse_4 rfl gl_X2_88 so_7 rfl ?_
  refine AW.iconst (pn := 8) F dX2_readHouse_7 rfl ?_
  refine AW.icmp_lt (pn := 11) (tg := 18) F dX2_readHouse_8 rfl (by decide) hb (fun hb => ?_) (fun hb => ?_)
  · refine AW.aload_n (pn := 19) F dX2_readHouse_18 rfl rfl rfl ?_
    refine AW.iconst (pn := 20) F dX2_readHouse_19 rfl ?_
    refine AW.bipush (pn := 22) F dX2_readHouse_20 rfl (by decide) ?_
    refine AW.cVI (pn := 25) (st := []) F dX2_readHouse_22 rfl cl_X2_81 so_12 (p2_readNumber_12 0 99 hb) rfl rfl (Nat.le_of_ble_eq_true rfl) (by decide) (fun r1 h2 hb => ?_)
    refine AW.istore_n (ls2 := [some (vR 12), some (vI x1), some (vI r1), none, none, none]) (pn := 26) F dX2_readHouse_25 rfl rfl (by decide) rfl rfl ?_
    refine AW.iconst (pn := 27) F dX2_readHouse_26 rfl ?_
    refine AW.istore_n (ls2 := [some (vR 12), some (vI x1), some (vI r1), some (vI 0), none, none]) (pn := 28) F dX2_readHouse_27 rfl rfl (by decide) rfl rfl ?_
    refine AW.drop [true, false, true, true, true, true] rfl ?_
    refine p2_readHouse_L28_ok_12 F G (fun h15 hb => ?_) _ _ _ hb
    refine AW.aload_n (pn := 159) F dX2_readHouse_158 rfl rfl rfl ?_
    refine AW.cVI (pn := 162) (st := []) F dX2_readHouse_159 rfl cl_X2_84 so_12 (p2_readEnd_12  hb) rfl rfl (Nat.le_of_ble_eq_true rfl) (by decide) (fun r16 h17 hb => ?_)
    refine AW.if_eq (pn := 165) (tg := 194) F dX2_readHouse_162 rfl (by decide) hb (fun hb => ?_) (fun hb => ?_)
    · exact AW.vret F G dX2_readHouse_194 ⟨rfl, hb⟩
    · refine AW.aload_n (pn := 166) F dX2_readHouse_165 rfl rfl rfl ?_
      refine AW.getR (r := 7) (pn := 169) F dX2_readHouse_166 rfl gl_X2_15 so_12 rfl ?_
      refine AW.getR (r := 8) (pn := 172) F dX2_readHouse_169 rfl gl_X2_104 so_7 rfl ?_
      refine AW.aload_n (pn := 173) F dX2_readHouse_172 rfl rfl rfl ?_
      refine AW.getR (r := 7) (pn := 176) F dX2_readHouse_173 rfl gl_X2_15 so_12 rfl ?_
      refine AW.getI (pn := 179) F dX2_readHouse_176 rfl gl_X2_88 so_7 rfl ?_
      refine AW.iload_n (pn := 180) F dX2_readHouse_179 rfl rfl rfl ?_
      refine AW.iast (pn := 181) F dX2_readHouse_180 rfl so_8 hb (fun h18 hb => ?_)
      refine AW.aload_n (pn := 182) F dX2_readHouse_181 rfl rfl rfl ?_
      refine AW.getR (r := 7) (pn := 185) F dX2_readHouse_182 rfl gl_X2_15 so_12 rfl ?_
      refine AW.dupR (pn := 186) F dX2_readHouse_185 rfl ?_
      refine AW.getI (pn := 189) F dX2_readHouse_186 rfl gl_X2_88 so_7 rfl ?_
      refine AW.iconst (pn := 190) F dX2_readHouse_189 rfl ?_
      refine AW.iadd (pn := 191) F dX2_readHouse_190 rfl ?_
      refine AW.putI (pn := 194) F dX2_readHouse_191 rfl pl_X2_88 so_7 rfl hb (fun h19 hb => ?_)
      exact AW.vret F G dX2_readHouse_194 ⟨rfl, hb⟩
  · refine AW.aload_n (pn := 12) F dX2_readHouse_11 rfl rfl rfl ?_
    refine AW.iconst (pn := 13) F dX2_readHouse_12 rfl ?_
    refine AW.iload_n (pn := 14) F dX2_readHouse_13 rfl rfl rfl ?_
    refine AW.cVV (pn := 17) (st := []) F dX2_readHouse_14 rfl cl_X2_77 so_12 (p2_fail_12 3 x1 hb) rfl rfl (Nat.le_of_ble_eq_true rfl) (by decide) (fun h20 hb => ?_)
    exact AW.vret F G dX2_readHouse_17 ⟨rfl, hb⟩

theorem p2_isWord_L17_ok_12_1002 {X : Cx} {x2 : Int} {h : HP} {Q : Int → Prop} (F : Fx X cX2_isWord RX2 4 8) (G : Rx X (some .boolean) (QP h Q))  : ∀ (n : Nat) (x3 : Int), p2_isWord_L17 2 x2 h Q n x3 → AW X 4 17 [some (vR 12), some (vR 1002), some (vI x2), some (vI x3)] [] h := by
  intro n
  induction n with
  | zero => intro _ hb; exact hb.elim
  | succ n ih =>
    intro x3 hb
    unfold p2_isWord_L17 at hb
    refine AW.iload_n (pn := 18) F dX2_isWord_17 rfl rfl rfl ?_
    refine AW.aload_n (pn := 19) F dX2_isWord_18 rfl rfl rfl ?_
    refine AW.slen2 (pn := 22) F dX2_isWord_19 rfl (by decide) (Nat.le_of_ble_eq_true rfl) ?_
    refine AW.icmp_ge (pn := 25) (tg := 49) F dX2_isWord_22 rfl (by decide) hb (fun hb => ?_) (fun hb => ?_)
    · refine AW.iconst (pn := 50) F dX2_isWord_49 rfl ?_
      exact AW.zret F G dX2_isWord_50 (by decide) ⟨rfl, _, rfl, hb⟩
    · refine AW.aload_n (pn := 26) F dX2_isWord_25 rfl rfl rfl ?_
      refine AW.getR (r := 1) (pn := 29) F dX2_isWord_26 rfl gl_X2_9 so_12 rfl ?_
      refine AW.iload_n (pn := 30) F dX2_isWord_29 rfl rfl rfl ?_
      refine AW.iload_n (pn := 31) F dX2_isWord_30 rfl rfl rfl ?_
      refine AW.iadd (pn := 32) F dX2_isWord_31 rfl ?_
      refine AW.cald (pn := 33) F dX2_isWord_32 rfl so_1 hb (fun v1 hb => ?_)
      refine AW.aload_n (pn := 34) F dX2_isWord_33 rfl rfl rfl ?_
      refine AW.iload_n (pn := 35) F dX2_isWord_34 rfl rfl rfl ?_
      refine AW.schr2 (pn := 38) F dX2_isWord_35 rfl (by decide) (Nat.le_of_ble_eq_true rfl) hb (fun v2 hb => ?_)
      refine AW.icmp_eq (pn := 41) (tg := 43) F dX2_isWord_38 rfl (by decide) hb (fun hb => ?_) (fun hb => ?_)
      · refine AW.iinc (ls2 := [some (vR 12), some (vR 1002), some (vI x2), some (vI (x3 + 1))]) (pn := 46) F dX2_isWord_43 rfl rfl (by decide) rfl rfl ?_
        refine AW.goto (tg := 17) F dX2_isWord_46 (by decide) ?_
        exact ih _ hb
      · refine AW.iconst (pn := 42) F dX2_isWord_41 rfl ?_
        exact AW.zret F G dX2_isWord_42 (by decide) ⟨rfl, _, rfl, hb⟩

theorem p2_isWord_12_1002 (x2 : Int) {h : HP} {Q : Int → Prop} (hb : p2_isWord 2 x2 h Q) : MT yX2_isWord cX2_isWord 4 (some .boolean) 8 [vR 12, vR 1002, vI x2] h (QP h Q) := by
  refine MT.of (own := RX2) (by decide) rfl (Nat.le_of_ble_eq_true rfl) rfl (fun X F G => ?_)
  unfold p2_isWord at hb
  refine AW.aload_n (pn := 1) F dX2_isWord_0 rfl rfl rfl ?_
  refine AW.getI (pn := 4) F dX2_isWord_1 rfl gl_X2_29 so_12 rfl ?_
  refine AW.iload_n (pn := 5) F dX2_isWord_4 rfl rfl rfl ?_
  refine AW.isub (pn := 6) F dX2_isWord_5 rfl ?_
  refine AW.aload_n (pn := 7) F dX2_isWord_6 rfl rfl rfl ?_
  refine AW.slen2 (pn := 10) F dX2_isWord_7 rfl (by decide) (Nat.le_of_ble_eq_true rfl) ?_
  refine AW.icmp_eq (pn := 13) (tg := 15) F dX2_isWord_10 rfl (by decide) hb (fun hb => ?_) (fun hb => ?_)
  · refine AW.iconst (pn := 16) F dX2_isWord_15 rfl ?_
    refine AW.istore_n (ls2 := [some (vR 12), some (vR 1002), some (vI x2), some (vI 0)]) (pn := 17) F dX2_isWord_16 rfl rfl (by decide) rfl rfl ?_
    refine p2_isWord_L17_ok_12_1002 F G  _ _ hb
  · refine AW.iconst (pn := 14) F dX2_isWord_13 rfl ?_
    exact AW.zret F G dX2_isWord_14 (by decide) ⟨rfl, _, rfl, hb⟩

theorem p2_readWorth_12 (x1 : Int) {h : HP} {Q : HP → Prop} (hb : p2_readWorth x1 h Q) : MT yX2_readWorth cX2_readWorth 7 none 4 [vR 12, vI x1] h (QV Q) := by
  refine MT.of (own := RX2) (by decide) rfl (Nat.le_of_ble_eq_true rfl) rfl (fun X F G => ?_)
  unfold p2_readWorth at hb
  refine AW.aload_n (pn := 1) F dX2_readWorth_0 rfl rfl rfl ?_
  refine AW.getI (pn := 4) F dX2_readWorth_1 rfl gl_X2_32 so_12 rfl ?_
  refine AW.bipush (pn := 6) F dX2_readWorth_4 rfl (by decide) ?_
  refine AW.icmp_lt (pn := 9) (tg := 16) F dX2_readWorth_6 rfl (by decide) hb (fun hb => ?_) (fun hb => ?_)
  · refine AW.aload_n (pn := 17) F dX2_readWorth_16 rfl rfl rfl ?_
    refine AW.iconst (pn := 18) F dX2_readWorth_17 rfl ?_
    refine AW.aload_n (pn := 19) F dX2_readWorth_18 rfl rfl rfl ?_
    refine AW.getR (r := 7) (pn := 22) F dX2_readWorth_19 rfl gl_X2_15 so_12 rfl ?_
    refine AW.getI (pn := 25) F dX2_readWorth_22 rfl gl_X2_88 so_7 rfl ?_
    refine AW.iconst (pn := 26) F dX2_readWorth_25 rfl ?_
    refine AW.isub (pn := 27) F dX2_readWorth_26 rfl ?_
    refine AW.cVI (pn := 30) (st := []) F dX2_readWorth_27 rfl cl_X2_81 so_12 (p2_readNumber_12 0 ((h 7 1) - 1) hb) rfl rfl (Nat.le_of_ble_eq_true rfl) (by decide) (fun r1 h2 hb => ?_)
    refine AW.istore_n (ls2 := [some (vR 12), some (vI x1), some (vI r1), none, none, none, none]) (pn := 31) F dX2_readWorth_30 rfl rfl (by decide) rfl rfl ?_
    refine AW.aload_n (pn := 32) F dX2_readWorth_31 rfl rfl rfl ?_
    refine AW.cVV (pn := 35) (st := []) F dX2_readWorth_32 rfl cl_X2_49 so_12 (p2_skipBlanks_12  hb) rfl rfl (Nat.le_of_ble_eq_true rfl) (by decide) (fun h3 hb => ?_)
    refine AW.aload_n (pn := 36) F dX2_readWorth_35 rfl rfl rfl ?_
    refine AW.getI (pn := 39) F dX2_readWorth_36 rfl gl_X2_29 so_12 rfl ?_
    refine AW.istore_n (ls2 := [some (vR 12), some (vI x1), some (vI r1), some (vI (h3 12 3)), none, none, none]) (pn := 40) F dX2_readWorth_39 rfl rfl (by decide) rfl rfl ?_
    refine AW.aload_n (pn := 41) F dX2_readWorth_40 rfl rfl rfl ?_
    refine AW.iconst (pn := 42) F dX2_readWorth_41 rfl ?_
    refine AW.aload_n (pn := 43) F dX2_readWorth_42 rfl rfl rfl ?_
    refine AW.getR (r := 7) (pn := 46) F dX2_readWorth_43 rfl gl_X2_15 so_12 rfl ?_
    refine AW.getI (pn := 49) F dX2_readWorth_46 rfl gl_X2_65 so_7 rfl ?_
    refine AW.iconst (pn := 50) F dX2_readWorth_49 rfl ?_
    refine AW.isub (pn := 51) F dX2_readWorth_50 rfl ?_
    refine AW.cVI (pn := 54) (st := []) F dX2_readWorth_51 rfl cl_X2_81 so_12 (p2_readNumber_12 0 ((h3 7 0) - 1) hb) rfl rfl (Nat.le_of_ble_eq_true rfl) (by decide) (fun r4 h5 hb => ?_)
    refine AW.istore (ls2 := [some (vR 12), some (vI x1), some (vI r1), some (vI (h3 12 3)), some (vI r4), none, none]) (pn := 56) F dX2_readWorth_54 rfl (by decide) rfl rfl ?_
    refine AW.iload_n (pn := 57) F dX2_readWorth_56 rfl rfl rfl ?_
    refine AW.bipush (pn := 59) F dX2_readWorth_57 rfl (by decide) ?_
    refine AW.imul (pn := 60) F dX2_readWorth_59 rfl ?_
    refine AW.iload (pn := 62) F dX2_readWorth_60 rfl rfl ?_
    refine AW.iadd (pn := 63) F dX2_readWorth_62 rfl ?_
    refine AW.istore (ls2 := [some (vR 12), some (vI x1), some (vI r1), some (vI (h3 12 3)), some (vI r4), some (vI ((r1 * 6) + r4)), none]) (pn := 65) F dX2_readWorth_63 rfl (by decide) rfl rfl ?_
    refine AW.aload_n (pn := 66) F dX2_readWorth_65 rfl rfl rfl ?_
    refine AW.getI (pn := 69) F dX2_readWorth_66 rfl gl_X2_38 so_12 rfl ?_
    refine jn_1 hb (fun (h8 : HP) => AW X 7 91 [some (vR 12), none, none, none, none, some (vI ((r1 * 6) + r4)), none] [] h8) (fun h8 hb => ?_) (fun K9 hK9 hb => ?_)
    · refine AW.aload_n (pn := 92) F dX2_readWorth_91 rfl rfl rfl ?_
      refine AW.iconst (pn := 93) F dX2_readWorth_92 rfl ?_
      refine AW.bipush (pn := 95) F dX2_readWorth_93 rfl (by decide) ?_
      refine AW.cVI (pn := 98) (st := []) F dX2_readWorth_95 rfl cl_X2_81 so_12 (p2_readNumber_12 0 99 hb) rfl rfl (Nat.le_of_ble_eq_true rfl) (by decide) (fun r10 h11 hb => ?_)
      refine AW.istore (ls2 := [some (vR 12), none, none, none, none, some (vI ((r1 * 6) + r4)), some (vI r10)]) (pn := 100) F dX2_readWorth_98 rfl (by decide) rfl rfl ?_
      refine AW.aload_n (pn := 101) F dX2_readWorth_100 rfl rfl rfl ?_
      refine AW.cVI (pn := 104) (st := []) F dX2_readWorth_101 rfl cl_X2_84 so_12 (p2_readEnd_12  hb) rfl rfl (Nat.le_of_ble_eq_true rfl) (by decide) (fun r12 h13 hb => ?_)
      refine AW.if_eq (pn := 107) (tg := 142) F dX2_readWorth_104 rfl (by decide) hb (fun hb => ?_) (fun hb => ?_)
      · exact AW.vret F G dX2_readWorth_142 ⟨rfl, hb⟩
      · refine AW.aload_n (pn := 108) F dX2_readWorth_107 rfl rfl rfl ?_
        refine AW.getR (r := 7) (pn := 111) F dX2_readWorth_108 rfl gl_X2_15 so_12 rfl ?_
        refine AW.getR (r := 11) (pn := 114) F dX2_readWorth_111 rfl gl_X2_107 so_7 rfl ?_
        refine AW.iload (pn := 116) F dX2_readWorth_114 rfl rfl ?_
        refine AW.iload (pn := 118) F dX2_readWorth_116 rfl rfl ?_
        refine AW.iast (pn := 119) F dX2_readWorth_118 rfl so_11 hb (fun h14 hb => ?_)
        refine AW.aload_n (pn := 120) F dX2_readWorth_119 rfl rfl rfl ?_
        refine AW.dupR (pn := 121) F dX2_readWorth_120 rfl ?_
        refine AW.getI (pn := 124) F dX2_readWorth_121 rfl gl_X2_35 so_12 rfl ?_
        refine AW.iconst (pn := 125) F dX2_readWorth_124 rfl ?_
        refine AW.iload (pn := 127) F dX2_readWorth_125 rfl rfl ?_
        refine AW.ishl (pn := 128) F dX2_readWorth_127 rfl ?_
        refine AW.ior (pn := 129) F dX2_readWorth_128 rfl ?_
        refine AW.putI (pn := 132) F dX2_readWorth_129 rfl pl_X2_35 so_12 rfl hb (fun h15 hb => ?_)
        refine AW.aload_n (pn := 133) F dX2_readWorth_132 rfl rfl rfl ?_
        refine AW.dupR (pn := 134) F dX2_readWorth_133 rfl ?_
        refine AW.getI (pn := 137) F dX2_readWorth_134 rfl gl_X2_32 so_12 rfl ?_
        refine AW.iconst (pn := 138) F dX2_readWorth_137 rfl ?_
        refine AW.iadd (pn := 139) F dX2_readWorth_138 rfl ?_
        refine AW.putI (pn := 142) F dX2_readWorth_139 rfl pl_X2_32 so_12 rfl hb (fun h16 hb => ?_)
        exact AW.vret F G dX2_readWorth_142 ⟨rfl, hb⟩
    refine AW.if_ne (pn := 72) (tg := 91) F dX2_readWorth_69 rfl (by decide) hb (fun hb => ?_) (fun hb => ?_)
    · refine AW.drop [true, false, false, false, false, true, true] rfl ?_
      exact hK9 _ hb
    · refine AW.aload_n (pn := 73) F dX2_readWorth_72 rfl rfl rfl ?_
      refine AW.getI (pn := 76) F dX2_readWorth_73 rfl gl_X2_35 so_12 rfl ?_
      refine AW.iload (pn := 78) F dX2_readWorth_76 rfl rfl ?_
      refine AW.ishr (pn := 79) F dX2_readWorth_78 rfl ?_
      refine AW.iconst (pn := 80) F dX2_readWorth_79 rfl ?_
      refine AW.iand (pn := 81) F dX2_readWorth_80 rfl ?_
      refine AW.iconst (pn := 82) F dX2_readWorth_81 rfl ?_
      refine AW.icmp_ne (pn := 85) (tg := 91) F dX2_readWorth_82 rfl (by decide) hb (fun hb => ?_) (fun hb => ?_)
      · refine AW.drop [true, false, false, false, false, true, true] rfl ?_
        exact hK9 _ hb
      · refine AW.aload_n (pn := 86) F dX2_readWorth_85 rfl rfl rfl ?_
        refine AW.iconst (pn := 87) F dX2_readWorth_86 rfl ?_
        refine AW.iload_n (pn := 88) F dX2_readWorth_87 rfl rfl rfl ?_
        refine AW.cVV (pn := 91) (st := []) F dX2_readWorth_88 rfl cl_X2_77 so_12 (p2_fail_12 4 (h3 12 3) hb) rfl rfl (Nat.le_of_ble_eq_true rfl) (by decide) (fun h17 hb => ?_)
        refine AW.drop [true, false, false, false, false, true, true] rfl ?_
        exact hK9 _ hb
  · refine AW.aload_n (pn := 10) F dX2_readWorth_9 rfl rfl rfl ?_
    refine AW.iconst (pn := 11) F dX2_readWorth_10 rfl ?_
    refine AW.iload_n (pn := 12) F dX2_readWorth_11 rfl rfl rfl ?_
    refine AW.cVV (pn := 15) (st := []) F dX2_readWorth_12 rfl cl_X2_77 so_12 (p2_fail_12 3 x1 hb) rfl rfl (Nat.le_of_ble_eq_true rfl) (by decide) (fun h18 hb => ?_)
    exact AW.vret F G dX2_readWorth_15 ⟨rfl, hb⟩

theorem p2_readSorts_12 (x1 : Int) {h : HP} {Q : HP → Prop} (hb : p2_readSorts x1 h Q) : MT yX2_readSorts cX2_readSorts 3 none 4 [vR 12, vI x1] h (QV Q) := by
  refine MT.of (own := RX2) (by decide) rfl (Nat.le_of_ble_eq_true rfl) rfl (fun X F G => ?_)
  unfold p2_readSorts at hb
  refine AW.aload_n (pn := 1) F dX2_readSorts_0 rfl rfl rfl ?_
  refine AW.getR (r := 7) (pn := 4) F dX2_readSorts_1 rfl gl_X2_15 so_12 rfl ?_
  refine AW.getI (pn := 7) F dX2_readSorts_4 rfl gl_X2_65 so_7 rfl ?_
  refine AW.if_le (pn := 10) (tg := 17) F dX2_readSorts_7 rfl (by decide) hb (fun hb => ?_) (fun hb => ?_)
  · refine AW.aload_n (pn := 18) F dX2_readSorts_17 rfl rfl rfl ?_
    refine AW.iconst (pn := 19) F dX2_readSorts_18 rfl ?_
    refine AW.bipush (pn := 21) F dX2_readSorts_19 rfl (by decide) ?_
    refine AW.cVI (pn := 24) (st := []) F dX2_readSorts_21 rfl cl_X2_81 so_12 (p2_readNumber_12 1 6 hb) rfl rfl (Nat.le_of_ble_eq_true rfl) (by decide) (fun r1 h2 hb => ?_)
    refine AW.istore_n (ls2 := [some (vR 12), some (vI x1), some (vI r1)]) (pn := 25) F dX2_readSorts_24 rfl rfl (by decide) rfl rfl ?_
    refine AW.aload_n (pn := 26) F dX2_readSorts_25 rfl rfl rfl ?_
    refine AW.cVI (pn := 29) (st := []) F dX2_readSorts_26 rfl cl_X2_84 so_12 (p2_readEnd_12  hb) rfl rfl (Nat.le_of_ble_eq_true rfl) (by decide) (fun r3 h4 hb => ?_)
    refine AW.if_eq (pn := 32) (tg := 40) F dX2_readSorts_29 rfl (by decide) hb (fun hb => ?_) (fun hb => ?_)
    · exact AW.vret F G dX2_readSorts_40 ⟨rfl, hb⟩
    · refine AW.aload_n (pn := 33) F dX2_readSorts_32 rfl rfl rfl ?_
      refine AW.getR (r := 7) (pn := 36) F dX2_readSorts_33 rfl gl_X2_15 so_12 rfl ?_
      refine AW.iload_n (pn := 37) F dX2_readSorts_36 rfl rfl rfl ?_
      refine AW.putI (pn := 40) F dX2_readSorts_37 rfl pl_X2_65 so_7 rfl hb (fun h5 hb => ?_)
      exact AW.vret F G dX2_readSorts_40 ⟨rfl, hb⟩
  · refine AW.aload_n (pn := 11) F dX2_readSorts_10 rfl rfl rfl ?_
    refine AW.iconst (pn := 12) F dX2_readSorts_11 rfl ?_
    refine AW.iload_n (pn := 13) F dX2_readSorts_12 rfl rfl rfl ?_
    refine AW.cVV (pn := 16) (st := []) F dX2_readSorts_13 rfl cl_X2_77 so_12 (p2_fail_12 3 x1 hb) rfl rfl (Nat.le_of_ble_eq_true rfl) (by decide) (fun h6 hb => ?_)
    exact AW.vret F G dX2_readSorts_16 ⟨rfl, hb⟩

theorem p2_readClause_L5_ok_12 {X : Cx} {x1 : Int} {E57 : HP → Prop} {Q : HP → Prop} (F : Fx X cX2_readClause RX2 2 9) (G : Rx X none (QV Q)) (hE57 : ∀ (h : HP), E57 h → AW X 2 57 [some (vR 12), some (vI x1)] [] h) : ∀ (n : Nat) (h : HP), p2_readClause_L5 x1 E57 n h → AW X 2 5 [some (vR 12), some (vI x1)] [] h := by
  intro n
  induction n with
  | zero => intro _ hb; exact hb.elim
  | succ n ih =>
    intro h hb
    unfold p2_readClause_L5 at hb
    refine AW.aload_n (pn := 6) F dX2_readClause_5 rfl rfl rfl ?_
    refine AW.getI (pn := 9) F dX2_readClause_6 rfl gl_X2_29 so_12 rfl ?_
    refine AW.aload_n (pn := 10) F dX2_readClause_9 rfl rfl rfl ?_
    refine AW.getI (pn := 13) F dX2_readClause_10 rfl gl_X2_25 so_12 rfl ?_
    refine AW.icmp_ge (pn := 16) (tg := 57) F dX2_readClause_13 rfl (by decide) hb (fun hb => ?_) (fun hb => ?_)
    · exact hE57 _ hb
    · refine AW.aload_n (pn := 17) F dX2_readClause_16 rfl rfl rfl ?_
      refine AW.getR (r := 1) (pn := 20) F dX2_readClause_17 rfl gl_X2_9 so_12 rfl ?_
      refine AW.aload_n (pn := 21) F dX2_readClause_20 rfl rfl rfl ?_
      refine AW.getI (pn := 24) F dX2_readClause_21 rfl gl_X2_29 so_12 rfl ?_
      refine AW.cald (pn := 25) F dX2_readClause_24 rfl so_1 hb (fun v1 hb => ?_)
      refine AW.bipush (pn := 27) F dX2_readClause_25 rfl (by decide) ?_
      refine AW.icmp_lt (pn := 30) (tg := 57) F dX2_readClause_27 rfl (by decide) hb (fun hb => ?_) (fun hb => ?_)
      · exact hE57 _ hb
      · refine AW.aload_n (pn := 31) F dX2_readClause_30 rfl rfl rfl ?_
        refine AW.getR (r := 1) (pn := 34) F dX2_readClause_31 rfl gl_X2_9 so_12 rfl ?_
        refine AW.aload_n (pn := 35) F dX2_readClause_34 rfl rfl rfl ?_
        refine AW.getI (pn := 38) F dX2_readClause_35 rfl gl_X2_29 so_12 rfl ?_
        refine AW.cald (pn := 39) F dX2_readClause_38 rfl so_1 hb (fun v2 hb => ?_)
        refine AW.bipush (pn := 41) F dX2_readClause_39 rfl (by decide) ?_
        refine AW.icmp_gt (pn := 44) (tg := 57) F dX2_readClause_41 rfl (by decide) hb (fun hb => ?_) (fun hb => ?_)
        · exact hE57 _ hb
        · refine AW.aload_n (pn := 45) F dX2_readClause_44 rfl rfl rfl ?_
          refine AW.dupR (pn := 46) F dX2_readClause_45 rfl ?_
          refine AW.getI (pn := 49) F dX2_readClause_46 rfl gl_X2_29 so_12 rfl ?_
          refine AW.iconst (pn := 50) F dX2_readClause_49 rfl ?_
          refine AW.iadd (pn := 51) F dX2_readClause_50 rfl ?_
          refine AW.putI (pn := 54) F dX2_readClause_51 rfl pl_X2_29 so_12 rfl hb (fun h3 hb => ?_)
          refine AW.goto (tg := 5) F dX2_readClause_54 (by decide) ?_
          exact ih _ hb

theorem p2_readClause_12  {h : HP} {Q : HP → Prop} (hb : p2_readClause  h Q) : MT yX2_readClause cX2_readClause 2 none 9 [vR 12] h (QV Q) := by
  refine MT.of (own := RX2) (by decide) rfl (Nat.le_of_ble_eq_true rfl) rfl (fun X F G => ?_)
  unfold p2_readClause at hb
  refine AW.aload_n (pn := 1) F dX2_readClause_0 rfl rfl rfl ?_
  refine AW.getI (pn := 4) F dX2_readClause_1 rfl gl_X2_29 so_12 rfl ?_
  refine AW.istore_n (ls2 := [some (vR 12), some (vI (h 12 3))]) (pn := 5) F dX2_readClause_4 rfl rfl (by decide) rfl rfl ?_
  refine p2_readClause_L5_ok_12 F G (fun h4 hb => ?_) _ _ hb
  refine AW.aload_n (pn := 58) F dX2_readClause_57 rfl rfl rfl ?_
  refine AW.ldcS0 (pn := 60) F dX2_readClause_58 rfl ?_
  refine AW.iload_n (pn := 61) F dX2_readClause_60 rfl rfl rfl ?_
  refine AW.cVP (pn := 64) (st := []) F dX2_readClause_61 rfl cl_X2_57 so_12 (p2_isWord_12_1000 (h 12 3) hb) rfl rfl (Nat.le_of_ble_eq_true rfl) (by decide) (fun r5 hb => ?_)
  refine AW.if_eq (pn := 67) (tg := 75) F dX2_readClause_64 rfl (by decide) hb (fun hb => ?_) (fun hb => ?_)
  · refine AW.aload_n (pn := 76) F dX2_readClause_75 rfl rfl rfl ?_
    refine AW.getR (r := 7) (pn := 79) F dX2_readClause_76 rfl gl_X2_15 so_12 rfl ?_
    refine AW.getI (pn := 82) F dX2_readClause_79 rfl gl_X2_65 so_7 rfl ?_
    refine jn_0 hb (AW X 2 103 [some (vR 12), some (vI (h 12 3))] [] h4) (fun  hb => ?_) (fun K8 hK8 hb => ?_)
    · refine AW.aload_n (pn := 104) F dX2_readClause_103 rfl rfl rfl ?_
      refine AW.getR (r := 7) (pn := 107) F dX2_readClause_104 rfl gl_X2_15 so_12 rfl ?_
      refine AW.getI (pn := 110) F dX2_readClause_107 rfl gl_X2_65 so_7 rfl ?_
      refine jn_0 hb (AW X 2 131 [some (vR 12), some (vI (h 12 3))] [] h4) (fun  hb => ?_) (fun K11 hK11 hb => ?_)
      · refine AW.aload_n (pn := 132) F dX2_readClause_131 rfl rfl rfl ?_
        refine AW.iconst (pn := 133) F dX2_readClause_132 rfl ?_
        refine AW.iload_n (pn := 134) F dX2_readClause_133 rfl rfl rfl ?_
        refine AW.cVV (pn := 137) (st := []) F dX2_readClause_134 rfl cl_X2_77 so_12 (p2_fail_12 1 (h 12 3) hb) rfl rfl (Nat.le_of_ble_eq_true rfl) (by decide) (fun h12 hb => ?_)
        exact AW.vret F G dX2_readClause_137 ⟨rfl, hb⟩
      refine AW.if_le (pn := 113) (tg := 131) F dX2_readClause_110 rfl (by decide) hb (fun hb => ?_) (fun hb => ?_)
      · exact hK11 hb
      · refine AW.aload_n (pn := 114) F dX2_readClause_113 rfl rfl rfl ?_
        refine AW.ldcS2 (pn := 116) F dX2_readClause_114 rfl ?_
        refine AW.iload_n (pn := 117) F dX2_readClause_116 rfl rfl rfl ?_
        refine AW.cVP (pn := 120) (st := []) F dX2_readClause_117 rfl cl_X2_57 so_12 (p2_isWord_12_1002 (h 12 3) hb) rfl rfl (Nat.le_of_ble_eq_true rfl) (by decide) (fun r13 hb => ?_)
        refine AW.if_eq (pn := 123) (tg := 131) F dX2_readClause_120 rfl (by decide) hb (fun hb => ?_) (fun hb => ?_)
        · exact hK11 hb
        · refine AW.aload_n (pn := 124) F dX2_readClause_123 rfl rfl rfl ?_
          refine AW.iload_n (pn := 125) F dX2_readClause_124 rfl rfl rfl ?_
          refine AW.cVV (pn := 128) (st := []) F dX2_readClause_125 rfl cl_X2_74 so_12 (p2_readWorth_12 (h 12 3) hb) rfl rfl (Nat.le_of_ble_eq_true rfl) (by decide) (fun h14 hb => ?_)
          refine AW.goto (tg := 137) F dX2_readClause_128 (by decide) ?_
          exact AW.vret F G dX2_readClause_137 ⟨rfl, hb⟩
    refine AW.if_le (pn := 85) (tg := 103) F dX2_readClause_82 rfl (by decide) hb (fun hb => ?_) (fun hb => ?_)
    · exact hK8 hb
    · refine AW.aload_n (pn := 86) F dX2_readClause_85 rfl rfl rfl ?_
      refine AW.ldcS1 (pn := 88) F dX2_readClause_86 rfl ?_
      refine AW.iload_n (pn := 89) F dX2_readClause_88 rfl rfl rfl ?_
      refine AW.cVP (pn := 92) (st := []) F dX2_readClause_89 rfl cl_X2_57 so_12 (p2_isWord_12_1001 (h 12 3) hb) rfl rfl (Nat.le_of_ble_eq_true rfl) (by decide) (fun r15 hb => ?_)
      refine AW.if_eq (pn := 95) (tg := 103) F dX2_readClause_92 rfl (by decide) hb (fun hb => ?_) (fun hb => ?_)
      · exact hK8 hb
      · refine AW.aload_n (pn := 96) F dX2_readClause_95 rfl rfl rfl ?_
        refine AW.iload_n (pn := 97) F dX2_readClause_96 rfl rfl rfl ?_
        refine AW.cVV (pn := 100) (st := []) F dX2_readClause_97 rfl cl_X2_69 so_12 (p2_readHouse_12 (h 12 3) hb) rfl rfl (Nat.le_of_ble_eq_true rfl) (by decide) (fun h16 hb => ?_)
        refine AW.goto (tg := 137) F dX2_readClause_100 (by decide) ?_
        exact AW.vret F G dX2_readClause_137 ⟨rfl, hb⟩
  · refine AW.aload_n (pn := 68) F dX2_readClause_67 rfl rfl rfl ?_
    refine AW.iload_n (pn := 69) F dX2_readClause_68 rfl rfl rfl ?_
    refine AW.cVV (pn := 72) (st := []) F dX2_readClause_69 rfl cl_X2_61 so_12 (p2_readSorts_12 (h 12 3) hb) rfl rfl (Nat.le_of_ble_eq_true rfl) (by decide) (fun h17 hb => ?_)
    refine AW.goto (tg := 137) F dX2_readClause_72 (by decide) ?_
    exact AW.vret F G dX2_readClause_137 ⟨rfl, hb⟩

theorem p2_readText_L51_ok_12 {X : Cx} {E90 : HP → Prop} {Q : Int → HP → Prop} (F : Fx X cX2_readText RX2 3 10) (G : Rx X (some .boolean) (QI Q)) (hE90 : ∀ (h : HP), E90 h → AW X 3 90 [some (vR 12), none, none] [] h) : ∀ (n : Nat) (h : HP) (x2 : Int), p2_readText_L51 E90 n h x2 → AW X 3 51 [some (vR 12), none, some (vI x2)] [] h := by
  intro n
  induction n with
  | zero => intro _ _ hb; exact hb.elim
  | succ n ih =>
    intro h x2 hb
    unfold p2_readText_L51 at hb
    refine AW.iload_n (pn := 52) F dX2_readText_51 rfl rfl rfl ?_
    refine AW.sipush (pn := 55) F dX2_readText_52 rfl (by decide) ?_
    refine AW.icmp_ge (pn := 58) (tg := 90) F dX2_readText_55 rfl (by decide) hb (fun hb => ?_) (fun hb => ?_)
    · refine AW.drop [true, true, false] rfl ?_
      exact hE90 _ hb
    · refine AW.aload_n (pn := 59) F dX2_readText_58 rfl rfl rfl ?_
      refine AW.getI (pn := 62) F dX2_readText_59 rfl gl_X2_29 so_12 rfl ?_
      refine AW.aload_n (pn := 63) F dX2_readText_62 rfl rfl rfl ?_
      refine AW.getI (pn := 66) F dX2_readText_63 rfl gl_X2_25 so_12 rfl ?_
      refine AW.icmp_ge (pn := 69) (tg := 90) F dX2_readText_66 rfl (by decide) hb (fun hb => ?_) (fun hb => ?_)
      · refine AW.drop [true, true, false] rfl ?_
        exact hE90 _ hb
      · refine AW.aload_n (pn := 70) F dX2_readText_69 rfl rfl rfl ?_
        refine AW.getI (pn := 73) F dX2_readText_70 rfl gl_X2_38 so_12 rfl ?_
        refine AW.if_ne (pn := 76) (tg := 90) F dX2_readText_73 rfl (by decide) hb (fun hb => ?_) (fun hb => ?_)
        · refine AW.drop [true, true, false] rfl ?_
          exact hE90 _ hb
        · refine AW.aload_n (pn := 77) F dX2_readText_76 rfl rfl rfl ?_
          refine AW.cVV (pn := 80) (st := []) F dX2_readText_77 rfl cl_X2_52 so_12 (p2_readClause_12  hb) rfl rfl (Nat.le_of_ble_eq_true rfl) (by decide) (fun h9 hb => ?_)
          refine AW.aload_n (pn := 81) F dX2_readText_80 rfl rfl rfl ?_
          refine AW.cVV (pn := 84) (st := []) F dX2_readText_81 rfl cl_X2_49 so_12 (p2_skipBlanks_12  hb) rfl rfl (Nat.le_of_ble_eq_true rfl) (by decide) (fun h10 hb => ?_)
          refine AW.iinc (ls2 := [some (vR 12), none, some (vI (x2 + 1))]) (pn := 87) F dX2_readText_84 rfl rfl (by decide) rfl rfl ?_
          refine AW.goto (tg := 51) F dX2_readText_87 (by decide) ?_
          exact ih _ _ hb

theorem p2_readText_12 (x1 : Int) {h : HP} {Q : Int → HP → Prop} (hb : p2_readText x1 h Q) : MT yX2_readText cX2_readText 3 (some .boolean) 10 [vR 12, vI x1] h (QI Q) := by
  refine MT.of (own := RX2) (by decide) rfl (Nat.le_of_ble_eq_true rfl) rfl (fun X F G => ?_)
  unfold p2_readText at hb
  refine AW.aload_n (pn := 1) F dX2_readText_0 rfl rfl rfl ?_
  refine AW.iload_n (pn := 2) F dX2_readText_1 rfl rfl rfl ?_
  refine AW.aload_n (pn := 3) F dX2_readText_2 rfl rfl rfl ?_
  refine AW.getR (r := 1) (pn := 6) F dX2_readText_3 rfl gl_X2_9 so_12 rfl ?_
  refine AW.alen (pn := 7) F dX2_readText_6 rfl so_1 (by decide) ?_
  refine AW.mmin (pn := 10) F dX2_readText_7 rfl tw_340 tw_341 tw_10 tw_342 (by decide) (Nat.le_of_ble_eq_true rfl) ?_
  refine AW.putI (pn := 13) F dX2_readText_10 rfl pl_X2_25 so_12 rfl hb (fun h1 hb => ?_)
  refine AW.aload_n (pn := 14) F dX2_readText_13 rfl rfl rfl ?_
  refine AW.iconst (pn := 15) F dX2_readText_14 rfl ?_
  refine AW.putI (pn := 18) F dX2_readText_15 rfl pl_X2_29 so_12 rfl hb (fun h2 hb => ?_)
  refine AW.aload_n (pn := 19) F dX2_readText_18 rfl rfl rfl ?_
  refine AW.iconst (pn := 20) F dX2_readText_19 rfl ?_
  refine AW.putI (pn := 23) F dX2_readText_20 rfl pl_X2_32 so_12 rfl hb (fun h3 hb => ?_)
  refine AW.aload_n (pn := 24) F dX2_readText_23 rfl rfl rfl ?_
  refine AW.iconst (pn := 25) F dX2_readText_24 rfl ?_
  refine AW.putI (pn := 28) F dX2_readText_25 rfl pl_X2_35 so_12 rfl hb (fun h4 hb => ?_)
  refine AW.aload_n (pn := 29) F dX2_readText_28 rfl rfl rfl ?_
  refine AW.iconst (pn := 30) F dX2_readText_29 rfl ?_
  refine AW.putI (pn := 33) F dX2_readText_30 rfl pl_X2_38 so_12 rfl hb (fun h5 hb => ?_)
  refine AW.aload_n (pn := 34) F dX2_readText_33 rfl rfl rfl ?_
  refine AW.iconst (pn := 35) F dX2_readText_34 rfl ?_
  refine AW.putI (pn := 38) F dX2_readText_35 rfl pl_X2_41 so_12 rfl hb (fun h6 hb => ?_)
  refine AW.aload_n (pn := 39) F dX2_readText_38 rfl rfl rfl ?_
  refine AW.getR (r := 7) (pn := 42) F dX2_readText_39 rfl gl_X2_15 so_12 rfl ?_
  refine AW.cVV (pn := 45) (st := []) F dX2_readText_42 rfl cl_X2_44 so_7 (p4_clear_7  hb) rfl rfl (Nat.le_of_ble_eq_true rfl) (by decide) (fun h7 hb => ?_)
  refine AW.aload_n (pn := 46) F dX2_readText_45 rfl rfl rfl ?_
  refine AW.cVV (pn := 49) (st := []) F dX2_readText_46 rfl cl_X2_49 so_12 (p2_skipBlanks_12  hb) rfl rfl (Nat.le_of_ble_eq_true rfl) (by decide) (fun h8 hb => ?_)
  refine AW.iconst (pn := 50) F dX2_readText_49 rfl ?_
  refine AW.istore_n (ls2 := [some (vR 12), some (vI x1), some (vI 0)]) (pn := 51) F dX2_readText_50 rfl rfl (by decide) rfl rfl ?_
  refine AW.drop [true, false, true] rfl ?_
  refine p2_readText_L51_ok_12 F G (fun h11 hb => ?_) _ _ _ hb
  refine AW.aload_n (pn := 91) F dX2_readText_90 rfl rfl rfl ?_
  refine AW.getI (pn := 94) F dX2_readText_91 rfl gl_X2_38 so_12 rfl ?_
  refine AW.if_ne (pn := 97) (tg := 101) F dX2_readText_94 rfl (by decide) hb (fun hb => ?_) (fun hb => ?_)
  · refine AW.iconst (pn := 102) F dX2_readText_101 rfl ?_
    exact AW.zret F G dX2_readText_102 (by decide) ⟨_, rfl, hb⟩
  · refine AW.iconst (pn := 98) F dX2_readText_97 rfl ?_
    refine AW.goto (tg := 102) F dX2_readText_98 (by decide) ?_
    exact AW.zret F G dX2_readText_102 (by decide) ⟨_, rfl, hb⟩

theorem p4_copyFrom_2_7  {h : HP} {Q : HP → Prop} (hb : p4_copyFrom  h Q) : MT yX4_copyFrom cX4_copyFrom 2 none 1 [vR 2, vR 7] h (QV Q) := by
  refine MT.of (own := RX4) (by decide) rfl (Nat.le_of_ble_eq_true rfl) rfl (fun X F G => ?_)
  unfold p4_copyFrom at hb
  refine AW.aload_n (pn := 1) F dX4_copyFrom_0 rfl rfl rfl ?_
  refine AW.aload_n (pn := 2) F dX4_copyFrom_1 rfl rfl rfl ?_
  refine AW.getI (pn := 5) F dX4_copyFrom_2 rfl gl_X4_24 so_7 rfl ?_
  refine AW.putI (pn := 8) F dX4_copyFrom_5 rfl pl_X4_24 so_2 rfl hb (fun h1 hb => ?_)
  refine AW.aload_n (pn := 9) F dX4_copyFrom_8 rfl rfl rfl ?_
  refine AW.aload_n (pn := 10) F dX4_copyFrom_9 rfl rfl rfl ?_
  refine AW.getI (pn := 13) F dX4_copyFrom_10 rfl gl_X4_28 so_7 rfl ?_
  refine AW.putI (pn := 16) F dX4_copyFrom_13 rfl pl_X4_28 so_2 rfl hb (fun h2 hb => ?_)
  refine AW.aload_n (pn := 17) F dX4_copyFrom_16 rfl rfl rfl ?_
  refine AW.aload_n (pn := 18) F dX4_copyFrom_17 rfl rfl rfl ?_
  refine AW.getI (pn := 21) F dX4_copyFrom_18 rfl gl_X4_31 so_7 rfl ?_
  refine AW.putI (pn := 24) F dX4_copyFrom_21 rfl pl_X4_31 so_2 rfl hb (fun h3 hb => ?_)
  refine AW.aload_n (pn := 25) F dX4_copyFrom_24 rfl rfl rfl ?_
  refine AW.getR (r := 8) (pn := 28) F dX4_copyFrom_25 rfl gl_X4_9 so_7 rfl ?_
  refine AW.iconst (pn := 29) F dX4_copyFrom_28 rfl ?_
  refine AW.aload_n (pn := 30) F dX4_copyFrom_29 rfl rfl rfl ?_
  refine AW.getR (r := 3) (pn := 33) F dX4_copyFrom_30 rfl gl_X4_9 so_2 rfl ?_
  refine AW.iconst (pn := 34) F dX4_copyFrom_33 rfl ?_
  refine AW.iconst (pn := 35) F dX4_copyFrom_34 rfl ?_
  refine AW.acpy (pn := 38) 5 F dX4_copyFrom_35 rfl tw_448 tw_450 tw_449 tw_16 so_8 so_3 (by decide) (by decide) (by decide) (by decide) (by decide) (Nat.le_of_ble_eq_true rfl) hb (fun h4 hb => ?_)
  refine AW.aload_n (pn := 39) F dX4_copyFrom_38 rfl rfl rfl ?_
  refine AW.getR (r := 9) (pn := 42) F dX4_copyFrom_39 rfl gl_X4_15 so_7 rfl ?_
  refine AW.iconst (pn := 43) F dX4_copyFrom_42 rfl ?_
  refine AW.aload_n (pn := 44) F dX4_copyFrom_43 rfl rfl rfl ?_
  refine AW.getR (r := 4) (pn := 47) F dX4_copyFrom_44 rfl gl_X4_15 so_2 rfl ?_
  refine AW.iconst (pn := 48) F dX4_copyFrom_47 rfl ?_
  refine AW.bipush (pn := 50) F dX4_copyFrom_48 rfl (by decide) ?_
  refine AW.acpy (pn := 53) 20 F dX4_copyFrom_50 rfl tw_448 tw_450 tw_449 tw_16 so_9 so_4 (by decide) (by decide) (by decide) (by decide) (by decide) (Nat.le_of_ble_eq_true rfl) hb (fun h5 hb => ?_)
  refine AW.aload_n (pn := 54) F dX4_copyFrom_53 rfl rfl rfl ?_
  refine AW.getR (r := 10) (pn := 57) F dX4_copyFrom_54 rfl gl_X4_18 so_7 rfl ?_
  refine AW.iconst (pn := 58) F dX4_copyFrom_57 rfl ?_
  refine AW.aload_n (pn := 59) F dX4_copyFrom_58 rfl rfl rfl ?_
  refine AW.getR (r := 5) (pn := 62) F dX4_copyFrom_59 rfl gl_X4_18 so_2 rfl ?_
  refine AW.iconst (pn := 63) F dX4_copyFrom_62 rfl ?_
  refine AW.bipush (pn := 65) F dX4_copyFrom_63 rfl (by decide) ?_
  refine AW.acpy (pn := 68) 20 F dX4_copyFrom_65 rfl tw_448 tw_450 tw_449 tw_16 so_10 so_5 (by decide) (by decide) (by decide) (by decide) (by decide) (Nat.le_of_ble_eq_true rfl) hb (fun h6 hb => ?_)
  refine AW.aload_n (pn := 69) F dX4_copyFrom_68 rfl rfl rfl ?_
  refine AW.getR (r := 11) (pn := 72) F dX4_copyFrom_69 rfl gl_X4_21 so_7 rfl ?_
  refine AW.iconst (pn := 73) F dX4_copyFrom_72 rfl ?_
  refine AW.aload_n (pn := 74) F dX4_copyFrom_73 rfl rfl rfl ?_
  refine AW.getR (r := 6) (pn := 77) F dX4_copyFrom_74 rfl gl_X4_21 so_2 rfl ?_
  refine AW.iconst (pn := 78) F dX4_copyFrom_77 rfl ?_
  refine AW.bipush (pn := 80) F dX4_copyFrom_78 rfl (by decide) ?_
  refine AW.acpy (pn := 83) 30 F dX4_copyFrom_80 rfl tw_448 tw_450 tw_449 tw_16 so_11 so_6 (by decide) (by decide) (by decide) (by decide) (by decide) (Nat.le_of_ble_eq_true rfl) hb (fun h7 hb => ?_)
  exact AW.vret F G dX4_copyFrom_83 ⟨rfl, hb⟩

theorem p5_handOver_13 (x1 x2 : Int) {h : HP} {Q : HP → Prop} (hb : p5_handOver 13 x1 x2 h Q) : MT yX5_handOver cX5_handOver 3 none 1 [vR 13, vI x1, vI x2] h (QV Q) := by
  refine MT.of (own := RX5) (by decide) rfl (Nat.le_of_ble_eq_true rfl) rfl (fun X F G => ?_)
  unfold p5_handOver at hb
  refine AW.aload_n (pn := 1) F dX5_handOver_0 rfl rfl rfl ?_
  refine AW.getR (r := 15) (pn := 4) F dX5_handOver_1 rfl gl_X5_15 so_13 rfl ?_
  refine AW.iload_n (pn := 5) F dX5_handOver_4 rfl rfl rfl ?_
  refine AW.iload_n (pn := 6) F dX5_handOver_5 rfl rfl rfl ?_
  refine AW.iast (pn := 7) F dX5_handOver_6 rfl so_15 hb (fun h1 hb => ?_)
  refine AW.aload_n (pn := 8) F dX5_handOver_7 rfl rfl rfl ?_
  refine AW.getR (r := 16) (pn := 11) F dX5_handOver_8 rfl gl_X5_18 so_13 rfl ?_
  refine AW.iload_n (pn := 12) F dX5_handOver_11 rfl rfl rfl ?_
  refine AW.iconst (pn := 13) F dX5_handOver_12 rfl ?_
  refine AW.iast (pn := 14) F dX5_handOver_13 rfl so_16 hb (fun h2 hb => ?_)
  refine AW.aload_n (pn := 15) F dX5_handOver_14 rfl rfl rfl ?_
  refine AW.getR (r := 19) (pn := 18) F dX5_handOver_15 rfl gl_X5_27 so_13 rfl ?_
  refine AW.iload_n (pn := 19) F dX5_handOver_18 rfl rfl rfl ?_
  refine AW.dup2IR (pn := 20) F dX5_handOver_19 rfl ?_
  refine AW.iald (pn := 21) F dX5_handOver_20 rfl so_19 hb (fun v3 hb => ?_)
  refine AW.iconst (pn := 22) F dX5_handOver_21 rfl ?_
  refine AW.iadd (pn := 23) F dX5_handOver_22 rfl ?_
  refine AW.iast (pn := 24) F dX5_handOver_23 rfl so_19 hb (fun h4 hb => ?_)
  refine AW.aload_n (pn := 25) F dX5_handOver_24 rfl rfl rfl ?_
  refine AW.getR (r := 20) (pn := 28) F dX5_handOver_25 rfl gl_X5_30 so_13 rfl ?_
  refine AW.iload_n (pn := 29) F dX5_handOver_28 rfl rfl rfl ?_
  refine AW.bipush (pn := 31) F dX5_handOver_29 rfl (by decide) ?_
  refine AW.imul (pn := 32) F dX5_handOver_31 rfl ?_
  refine AW.aload_n (pn := 33) F dX5_handOver_32 rfl rfl rfl ?_
  refine AW.getR (r := 14) (pn := 36) F dX5_handOver_33 rfl gl_X5_9 so_13 rfl ?_
  refine AW.iload_n (pn := 37) F dX5_handOver_36 rfl rfl rfl ?_
  refine AW.iald (pn := 38) F dX5_handOver_37 rfl so_14 hb (fun v5 hb => ?_)
  refine AW.iadd (pn := 39) F dX5_handOver_38 rfl ?_
  refine AW.dup2IR (pn := 40) F dX5_handOver_39 rfl ?_
  refine AW.iald (pn := 41) F dX5_handOver_40 rfl so_20 hb (fun v6 hb => ?_)
  refine AW.iconst (pn := 42) F dX5_handOver_41 rfl ?_
  refine AW.iadd (pn := 43) F dX5_handOver_42 rfl ?_
  refine AW.iast (pn := 44) F dX5_handOver_43 rfl so_20 hb (fun h7 hb => ?_)
  refine AW.aload_n (pn := 45) F dX5_handOver_44 rfl rfl rfl ?_
  refine AW.getR (r := 17) (pn := 48) F dX5_handOver_45 rfl gl_X5_21 so_13 rfl ?_
  refine AW.iload_n (pn := 49) F dX5_handOver_48 rfl rfl rfl ?_
  refine AW.iald (pn := 50) F dX5_handOver_49 rfl so_17 hb (fun v8 hb => ?_)
  refine AW.bipush (pn := 52) F dX5_handOver_50 rfl (by decide) ?_
  refine AW.icmp_ge (pn := 55) (tg := 82) F dX5_handOver_52 rfl (by decide) hb (fun hb => ?_) (fun hb => ?_)
  · exact AW.vret F G dX5_handOver_82 ⟨rfl, hb⟩
  · refine AW.aload_n (pn := 56) F dX5_handOver_55 rfl rfl rfl ?_
    refine AW.getR (r := 18) (pn := 59) F dX5_handOver_56 rfl gl_X5_24 so_13 rfl ?_
    refine AW.iload_n (pn := 60) F dX5_handOver_59 rfl rfl rfl ?_
    refine AW.bipush (pn := 62) F dX5_handOver_60 rfl (by decide) ?_
    refine AW.imul (pn := 63) F dX5_handOver_62 rfl ?_
    refine AW.aload_n (pn := 64) F dX5_handOver_63 rfl rfl rfl ?_
    refine AW.getR (r := 17) (pn := 67) F dX5_handOver_64 rfl gl_X5_21 so_13 rfl ?_
    refine AW.iload_n (pn := 68) F dX5_handOver_67 rfl rfl rfl ?_
    refine AW.iald (pn := 69) F dX5_handOver_68 rfl so_17 hb (fun v9 hb => ?_)
    refine AW.iadd (pn := 70) F dX5_handOver_69 rfl ?_
    refine AW.iload_n (pn := 71) F dX5_handOver_70 rfl rfl rfl ?_
    refine AW.iast (pn := 72) F dX5_handOver_71 rfl so_18 hb (fun h10 hb => ?_)
    refine AW.aload_n (pn := 73) F dX5_handOver_72 rfl rfl rfl ?_
    refine AW.getR (r := 17) (pn := 76) F dX5_handOver_73 rfl gl_X5_21 so_13 rfl ?_
    refine AW.iload_n (pn := 77) F dX5_handOver_76 rfl rfl rfl ?_
    refine AW.dup2IR (pn := 78) F dX5_handOver_77 rfl ?_
    refine AW.iald (pn := 79) F dX5_handOver_78 rfl so_17 hb (fun v11 hb => ?_)
    refine AW.iconst (pn := 80) F dX5_handOver_79 rfl ?_
    refine AW.iadd (pn := 81) F dX5_handOver_80 rfl ?_
    refine AW.iast (pn := 82) F dX5_handOver_81 rfl so_17 hb (fun h12 hb => ?_)
    exact AW.vret F G dX5_handOver_82 ⟨rfl, hb⟩

theorem p5_addPart_13 (x1 x2 : Int) {h : HP} {Q : Int → HP → Prop} (hb : p5_addPart 13 x1 x2 h Q) : MT yX5_addPart cX5_addPart 4 (some .boolean) 2 [vR 13, vI x1, vI x2] h (QI Q) := by
  refine MT.of (own := RX5) (by decide) rfl (Nat.le_of_ble_eq_true rfl) rfl (fun X F G => ?_)
  unfold p5_addPart at hb
  refine AW.aload_n (pn := 1) F dX5_addPart_0 rfl rfl rfl ?_
  refine AW.getI (pn := 4) F dX5_addPart_1 rfl gl_X5_37 so_13 rfl ?_
  refine AW.bipush (pn := 6) F dX5_addPart_4 rfl (by decide) ?_
  refine AW.icmp_lt (pn := 9) (tg := 11) F dX5_addPart_6 rfl (by decide) hb (fun hb => ?_) (fun hb => ?_)
  · refine AW.aload_n (pn := 12) F dX5_addPart_11 rfl rfl rfl ?_
    refine AW.getI (pn := 15) F dX5_addPart_12 rfl gl_X5_37 so_13 rfl ?_
    refine AW.istore_n (ls2 := [some (vR 13), some (vI x1), some (vI x2), some (vI (h 13 1))]) (pn := 16) F dX5_addPart_15 rfl rfl (by decide) rfl rfl ?_
    refine AW.aload_n (pn := 17) F dX5_addPart_16 rfl rfl rfl ?_
    refine AW.dupR (pn := 18) F dX5_addPart_17 rfl ?_
    refine AW.getI (pn := 21) F dX5_addPart_18 rfl gl_X5_37 so_13 rfl ?_
    refine AW.iconst (pn := 22) F dX5_addPart_21 rfl ?_
    refine AW.iadd (pn := 23) F dX5_addPart_22 rfl ?_
    refine AW.putI (pn := 26) F dX5_addPart_23 rfl pl_X5_37 so_13 rfl hb (fun h1 hb => ?_)
    refine AW.aload_n (pn := 27) F dX5_addPart_26 rfl rfl rfl ?_
    refine AW.getR (r := 14) (pn := 30) F dX5_addPart_27 rfl gl_X5_9 so_13 rfl ?_
    refine AW.iload_n (pn := 31) F dX5_addPart_30 rfl rfl rfl ?_
    refine AW.iload_n (pn := 32) F dX5_addPart_31 rfl rfl rfl ?_
    refine AW.iast (pn := 33) F dX5_addPart_32 rfl so_14 hb (fun h2 hb => ?_)
    refine AW.aload_n (pn := 34) F dX5_addPart_33 rfl rfl rfl ?_
    refine AW.getR (r := 15) (pn := 37) F dX5_addPart_34 rfl gl_X5_15 so_13 rfl ?_
    refine AW.iload_n (pn := 38) F dX5_addPart_37 rfl rfl rfl ?_
    refine AW.iconst (pn := 39) F dX5_addPart_38 rfl ?_
    refine AW.iast (pn := 40) F dX5_addPart_39 rfl so_15 hb (fun h3 hb => ?_)
    refine AW.aload_n (pn := 41) F dX5_addPart_40 rfl rfl rfl ?_
    refine AW.getR (r := 16) (pn := 44) F dX5_addPart_41 rfl gl_X5_18 so_13 rfl ?_
    refine AW.iload_n (pn := 45) F dX5_addPart_44 rfl rfl rfl ?_
    refine AW.iconst (pn := 46) F dX5_addPart_45 rfl ?_
    refine AW.iast (pn := 47) F dX5_addPart_46 rfl so_16 hb (fun h4 hb => ?_)
    refine AW.aload_n (pn := 48) F dX5_addPart_47 rfl rfl rfl ?_
    refine AW.getR (r := 17) (pn := 51) F dX5_addPart_48 rfl gl_X5_21 so_13 rfl ?_
    refine AW.iload_n (pn := 52) F dX5_addPart_51 rfl rfl rfl ?_
    refine AW.iconst (pn := 53) F dX5_addPart_52 rfl ?_
    refine AW.iast (pn := 54) F dX5_addPart_53 rfl so_17 hb (fun h5 hb => ?_)
    refine AW.iload_n (pn := 55) F dX5_addPart_54 rfl rfl rfl ?_
    refine AW.iconst (pn := 56) F dX5_addPart_55 rfl ?_
    refine AW.icmp_eq (pn := 59) (tg := 65) F dX5_addPart_56 rfl (by decide) hb (fun hb => ?_) (fun hb => ?_)
    · refine AW.iconst (pn := 66) F dX5_addPart_65 rfl ?_
      exact AW.zret F G dX5_addPart_66 (by decide) ⟨_, rfl, hb⟩
    · refine AW.aload_n (pn := 60) F dX5_addPart_59 rfl rfl rfl ?_
      refine AW.iload_n (pn := 61) F dX5_addPart_60 rfl rfl rfl ?_
      refine AW.iload_n (pn := 62) F dX5_addPart_61 rfl rfl rfl ?_
      refine AW.cVV (pn := 65) (st := []) F dX5_addPart_62 rfl cl_X5_78 so_13 (p5_handOver_13 x2 (h 13 1) hb) rfl rfl (Nat.le_of_ble_eq_true rfl) (by decide) (fun h6 hb => ?_)
      refine AW.iconst (pn := 66) F dX5_addPart_65 rfl ?_
      exact AW.zret F G dX5_addPart_66 (by decide) ⟨_, rfl, hb⟩
  · refine AW.iconst (pn := 10) F dX5_addPart_9 rfl ?_
    exact AW.zret F G dX5_addPart_10 (by decide) ⟨_, rfl, hb⟩

theorem p5_layOut_L28_ok_13 {X : Cx} {Q : HP → Prop} (F : Fx X cX5_layOut RX5 2 3) (G : Rx X none (QV Q))  : ∀ (n : Nat) (h : HP) (x1 : Int), p5_layOut_L28 13 Q n h x1 → AW X 2 28 [some (vR 13), some (vI x1)] [] h := by
  intro n
  induction n with
  | zero => intro _ _ hb; exact hb.elim
  | succ n ih =>
    intro h x1 hb
    unfold p5_layOut_L28 at hb
    refine AW.iload_n (pn := 29) F dX5_layOut_28 rfl rfl rfl ?_
    refine AW.aload_n (pn := 30) F dX5_layOut_29 rfl rfl rfl ?_
    refine AW.getR (r := 2) (pn := 33) F dX5_layOut_30 rfl gl_X5_33 so_13 rfl ?_
    refine AW.getI (pn := 36) F dX5_layOut_33 rfl gl_X5_50 so_2 rfl ?_
    refine AW.icmp_ge (pn := 39) (tg := 68) F dX5_layOut_36 rfl (by decide) hb (fun hb => ?_) (fun hb => ?_)
    · exact AW.vret F G dX5_layOut_68 ⟨rfl, hb⟩
    · refine AW.aload_n (pn := 40) F dX5_layOut_39 rfl rfl rfl ?_
      refine AW.aload_n (pn := 41) F dX5_layOut_40 rfl rfl rfl ?_
      refine AW.getR (r := 2) (pn := 44) F dX5_layOut_41 rfl gl_X5_33 so_13 rfl ?_
      refine AW.getR (r := 4) (pn := 47) F dX5_layOut_44 rfl gl_X5_55 so_2 rfl ?_
      refine AW.iload_n (pn := 48) F dX5_layOut_47 rfl rfl rfl ?_
      refine AW.iald (pn := 49) F dX5_layOut_48 rfl so_4 hb (fun v5 hb => ?_)
      refine AW.aload_n (pn := 50) F dX5_layOut_49 rfl rfl rfl ?_
      refine AW.getR (r := 2) (pn := 53) F dX5_layOut_50 rfl gl_X5_33 so_13 rfl ?_
      refine AW.getR (r := 5) (pn := 56) F dX5_layOut_53 rfl gl_X5_58 so_2 rfl ?_
      refine AW.iload_n (pn := 57) F dX5_layOut_56 rfl rfl rfl ?_
      refine AW.iald (pn := 58) F dX5_layOut_57 rfl so_5 hb (fun v6 hb => ?_)
      refine AW.cVI (pn := 61) (st := []) F dX5_layOut_58 rfl cl_X5_61 so_13 (p5_addPart_13 v5 v6 hb) rfl rfl (Nat.le_of_ble_eq_true rfl) (by decide) (fun r7 h8 hb => ?_)
      refine AW.popI (pn := 62) F dX5_layOut_61 rfl ?_
      refine AW.iinc (ls2 := [some (vR 13), some (vI (x1 + 1))]) (pn := 65) F dX5_layOut_62 rfl rfl (by decide) rfl rfl ?_
      refine AW.goto (tg := 28) F dX5_layOut_65 (by decide) ?_
      exact ih _ _ hb

theorem p5_layOut_13  {h : HP} {Q : HP → Prop} (hb : p5_layOut 13 h Q) : MT yX5_layOut cX5_layOut 2 none 3 [vR 13] h (QV Q) := by
  refine MT.of (own := RX5) (by decide) rfl (Nat.le_of_ble_eq_true rfl) rfl (fun X F G => ?_)
  unfold p5_layOut at hb
  refine AW.aload_n (pn := 1) F dX5_layOut_0 rfl rfl rfl ?_
  refine AW.iconst (pn := 2) F dX5_layOut_1 rfl ?_
  refine AW.putI (pn := 5) F dX5_layOut_2 rfl pl_X5_37 so_13 rfl hb (fun h1 hb => ?_)
  refine AW.aload_n (pn := 6) F dX5_layOut_5 rfl rfl rfl ?_
  refine AW.iconst (pn := 7) F dX5_layOut_6 rfl ?_
  refine AW.putI (pn := 10) F dX5_layOut_7 rfl pl_X5_41 so_13 rfl hb (fun h2 hb => ?_)
  refine AW.aload_n (pn := 11) F dX5_layOut_10 rfl rfl rfl ?_
  refine AW.getR (r := 19) (pn := 14) F dX5_layOut_11 rfl gl_X5_27 so_13 rfl ?_
  refine AW.iconst (pn := 15) F dX5_layOut_14 rfl ?_
  refine AW.cSV (pn := 18) F dX5_layOut_15 rfl cl_X5_44 (pJ_fill_19 0 hb) rfl rfl (Nat.le_of_ble_eq_true rfl) (by decide) (fun h3 hb => ?_)
  refine AW.aload_n (pn := 19) F dX5_layOut_18 rfl rfl rfl ?_
  refine AW.getR (r := 20) (pn := 22) F dX5_layOut_19 rfl gl_X5_30 so_13 rfl ?_
  refine AW.iconst (pn := 23) F dX5_layOut_22 rfl ?_
  refine AW.cSV (pn := 26) F dX5_layOut_23 rfl cl_X5_44 (pJ_fill_20 0 hb) rfl rfl (Nat.le_of_ble_eq_true rfl) (by decide) (fun h4 hb => ?_)
  refine AW.iconst (pn := 27) F dX5_layOut_26 rfl ?_
  refine AW.istore_n (ls2 := [some (vR 13), some (vI 0)]) (pn := 28) F dX5_layOut_27 rfl rfl (by decide) rfl rfl ?_
  refine p5_layOut_L28_ok_13 F G  _ _ _ hb

theorem p7_spit_L76_ok_0 {X : Cx} {Q : Int → HP → Prop} (F : Fx X cX7_spit RX7 3 11) (G : Rx X (some .int) (QI Q))  : ∀ (n : Nat) (h : HP) (x2 : Int), p7_spit_L76 Q n h x2 → AW X 3 76 [some (vR 0), none, some (vI x2)] [] h := by
  intro n
  induction n with
  | zero => intro _ _ hb; exact hb.elim
  | succ n ih =>
    intro h x2 hb
    unfold p7_spit_L76 at hb
    refine AW.iload_n (pn := 77) F dX7_spit_76 rfl rfl rfl ?_
    refine AW.iconst (pn := 78) F dX7_spit_77 rfl ?_
    refine AW.icmp_ge (pn := 81) (tg := 94) F dX7_spit_78 rfl (by decide) hb (fun hb => ?_) (fun hb => ?_)
    · refine AW.aload_n (pn := 95) F dX7_spit_94 rfl rfl rfl ?_
      refine AW.getR (r := 13) (pn := 98) F dX7_spit_95 rfl gl_X7_41 so_0 rfl ?_
      refine AW.getI (pn := 101) F dX7_spit_98 rfl gl_X7_114 so_13 rfl ?_
      exact AW.iret F G dX7_spit_101 ⟨_, rfl, hb⟩
    · refine AW.aload_n (pn := 82) F dX7_spit_81 rfl rfl rfl ?_
      refine AW.getR (r := 46) (pn := 85) F dX7_spit_82 rfl gl_X7_52 so_0 rfl ?_
      refine AW.iload_n (pn := 86) F dX7_spit_85 rfl rfl rfl ?_
      refine AW.iconst (pn := 87) F dX7_spit_86 rfl ?_
      refine AW.zast (pn := 88) F dX7_spit_87 rfl so_46 hb (fun h8 hb => ?_)
      refine AW.iinc (ls2 := [some (vR 0), none, some (vI (x2 + 1))]) (pn := 91) F dX7_spit_88 rfl rfl (by decide) rfl rfl ?_
      refine AW.goto (tg := 76) F dX7_spit_91 (by decide) ?_
      exact ih _ _ hb

theorem p7_spit_0  {h : HP} {Q : Int → HP → Prop} (hb : p7_spit  h Q) : MT yX7_spit cX7_spit 3 (some .int) 11 [vR 0] h (QI Q) := by
  refine MT.of (own := RX7) (by decide) rfl (Nat.le_of_ble_eq_true rfl) rfl (fun X F G => ?_)
  unfold p7_spit at hb
  refine AW.aload_n (pn := 1) F dX7_spit_0 rfl rfl rfl ?_
  refine AW.getR (r := 12) (pn := 4) F dX7_spit_1 rfl gl_X7_32 so_0 rfl ?_
  refine AW.aload_n (pn := 5) F dX7_spit_4 rfl rfl rfl ?_
  refine AW.getI (pn := 8) F dX7_spit_5 rfl gl_X7_91 so_0 rfl ?_
  refine AW.cVI (pn := 11) (st := []) F dX7_spit_8 rfl cl_X7_97 so_12 (p2_readText_12 (h 0 1) hb) rfl rfl (Nat.le_of_ble_eq_true rfl) (by decide) (fun r1 h2 hb => ?_)
  refine AW.istore_n (ls2 := [some (vR 0), some (vI r1), none]) (pn := 12) F dX7_spit_11 rfl rfl (by decide) rfl rfl ?_
  refine AW.aload_n (pn := 13) F dX7_spit_12 rfl rfl rfl ?_
  refine AW.iconst (pn := 14) F dX7_spit_13 rfl ?_
  refine AW.putI (pn := 17) F dX7_spit_14 rfl pl_X7_91 so_0 rfl hb (fun h3 hb => ?_)
  refine AW.iload_n (pn := 18) F dX7_spit_17 rfl rfl rfl ?_
  refine AW.if_ne (pn := 21) (tg := 43) F dX7_spit_18 rfl (by decide) hb (fun hb => ?_) (fun hb => ?_)
  · refine AW.aload_n (pn := 44) F dX7_spit_43 rfl rfl rfl ?_
    refine AW.iconst (pn := 45) F dX7_spit_44 rfl ?_
    refine AW.putI (pn := 48) F dX7_spit_45 rfl pl_X7_13 so_0 rfl hb (fun h4 hb => ?_)
    refine AW.aload_n (pn := 49) F dX7_spit_48 rfl rfl rfl ?_
    refine AW.getR (r := 2) (pn := 52) F dX7_spit_49 rfl gl_X7_20 so_0 rfl ?_
    refine AW.aload_n (pn := 53) F dX7_spit_52 rfl rfl rfl ?_
    refine AW.getR (r := 7) (pn := 56) F dX7_spit_53 rfl gl_X7_24 so_0 rfl ?_
    refine AW.cVV (pn := 59) (st := []) F dX7_spit_56 rfl cl_X7_105 so_2 (p4_copyFrom_2_7  hb) rfl rfl (Nat.le_of_ble_eq_true rfl) (by decide) (fun h5 hb => ?_)
    refine AW.aload_n (pn := 60) F dX7_spit_59 rfl rfl rfl ?_
    refine AW.getR (r := 13) (pn := 63) F dX7_spit_60 rfl gl_X7_41 so_0 rfl ?_
    refine AW.cVV (pn := 66) (st := []) F dX7_spit_63 rfl cl_X7_108 so_13 (p5_layOut_13  hb) rfl rfl (Nat.le_of_ble_eq_true rfl) (by decide) (fun h6 hb => ?_)
    refine AW.aload_n (pn := 67) F dX7_spit_66 rfl rfl rfl ?_
    refine AW.getR (r := 47) (pn := 70) F dX7_spit_67 rfl gl_X7_59 so_0 rfl ?_
    refine AW.iconst (pn := 71) F dX7_spit_70 rfl ?_
    refine AW.putI (pn := 74) F dX7_spit_71 rfl pl_X7_111 so_47 rfl hb (fun h7 hb => ?_)
    refine AW.iconst (pn := 75) F dX7_spit_74 rfl ?_
    refine AW.istore_n (ls2 := [some (vR 0), some (vI r1), some (vI 0)]) (pn := 76) F dX7_spit_75 rfl rfl (by decide) rfl rfl ?_
    refine AW.drop [true, false, true] rfl ?_
    refine p7_spit_L76_ok_0 F G  _ _ _ hb
  · refine AW.aload_n (pn := 22) F dX7_spit_21 rfl rfl rfl ?_
    refine AW.aload_n (pn := 23) F dX7_spit_22 rfl rfl rfl ?_
    refine AW.getR (r := 12) (pn := 26) F dX7_spit_23 rfl gl_X7_32 so_0 rfl ?_
    refine AW.getI (pn := 29) F dX7_spit_26 rfl gl_X7_101 so_12 rfl ?_
    refine AW.putI (pn := 32) F dX7_spit_29 rfl pl_X7_13 so_0 rfl hb (fun h9 hb => ?_)
    refine AW.bipush (pn := 34) F dX7_spit_32 rfl (by decide) ?_
    refine AW.aload_n (pn := 35) F dX7_spit_34 rfl rfl rfl ?_
    refine AW.getR (r := 12) (pn := 38) F dX7_spit_35 rfl gl_X7_32 so_0 rfl ?_
    refine AW.getI (pn := 41) F dX7_spit_38 rfl gl_X7_102 so_12 rfl ?_
    refine AW.isub (pn := 42) F dX7_spit_41 rfl ?_
    exact AW.iret F G dX7_spit_42 ⟨_, rfl, hb⟩

theorem p7_fault_0  {h : HP} {Q : Int → Prop} (hb : p7_fault  h Q) : MT yX7_fault cX7_fault 1 (some .int) 1 [vR 0] h (QP h Q) := by
  refine MT.of (own := RX7) (by decide) rfl (Nat.le_of_ble_eq_true rfl) rfl (fun X F G => ?_)
  unfold p7_fault at hb
  refine AW.aload_n (pn := 1) F dX7_fault_0 rfl rfl rfl ?_
  refine AW.getI (pn := 4) F dX7_fault_1 rfl gl_X7_13 so_0 rfl ?_
  exact AW.iret F G dX7_fault_4 ⟨rfl, _, rfl, hb⟩

theorem p5_poorHouses_L4_ok_13 {X : Cx} {h : HP} {Q : Int → Prop} (F : Fx X cX5_poorHouses RX5 3 1) (G : Rx X (some .int) (QP h Q))  : ∀ (n : Nat) (x1 : Int) (x2 : Int), p5_poorHouses_L4 13 h Q n x1 x2 → AW X 3 4 [some (vR 13), some (vI x1), some (vI x2)] [] h := by
  intro n
  induction n with
  | zero => intro _ _ hb; exact hb.elim
  | succ n ih =>
    intro x1 x2 hb
    unfold p5_poorHouses_L4 at hb
    refine AW.iload_n (pn := 5) F dX5_poorHouses_4 rfl rfl rfl ?_
    refine AW.aload_n (pn := 6) F dX5_poorHouses_5 rfl rfl rfl ?_
    refine AW.getR (r := 2) (pn := 9) F dX5_poorHouses_6 rfl gl_X5_33 so_13 rfl ?_
    refine AW.getI (pn := 12) F dX5_poorHouses_9 rfl gl_X5_101 so_2 rfl ?_
    refine AW.icmp_ge (pn := 15) (tg := 36) F dX5_poorHouses_12 rfl (by decide) hb (fun hb => ?_) (fun hb => ?_)
    · refine AW.iload_n (pn := 37) F dX5_poorHouses_36 rfl rfl rfl ?_
      exact AW.iret F G dX5_poorHouses_37 ⟨rfl, _, rfl, hb⟩
    · refine AW.aload_n (pn := 16) F dX5_poorHouses_15 rfl rfl rfl ?_
      refine AW.getR (r := 19) (pn := 19) F dX5_poorHouses_16 rfl gl_X5_27 so_13 rfl ?_
      refine AW.iload_n (pn := 20) F dX5_poorHouses_19 rfl rfl rfl ?_
      refine AW.iald (pn := 21) F dX5_poorHouses_20 rfl so_19 hb (fun v1 hb => ?_)
      refine AW.if_ne (pn := 24) (tg := 30) F dX5_poorHouses_21 rfl (by decide) hb (fun hb => ?_) (fun hb => ?_)
      · refine AW.iinc (ls2 := [some (vR 13), some (vI x1), some (vI (x2 + 1))]) (pn := 33) F dX5_poorHouses_30 rfl rfl (by decide) rfl rfl ?_
        refine AW.goto (tg := 4) F dX5_poorHouses_33 (by decide) ?_
        exact ih _ _ hb
      · refine AW.iload_n (pn := 25) F dX5_poorHouses_24 rfl rfl rfl ?_
        refine AW.iconst (pn := 26) F dX5_poorHouses_25 rfl ?_
        refine AW.iload_n (pn := 27) F dX5_poorHouses_26 rfl rfl rfl ?_
        refine AW.ishl (pn := 28) F dX5_poorHouses_27 rfl ?_
        refine AW.ior (pn := 29) F dX5_poorHouses_28 rfl ?_
        refine AW.istore_n (ls2 := [some (vR 13), some (vI (io x1 (sl 1 x2))), some (vI x2)]) (pn := 30) F dX5_poorHouses_29 rfl rfl (by decide) rfl rfl ?_
        refine AW.iinc (ls2 := [some (vR 13), some (vI (io x1 (sl 1 x2))), some (vI (x2 + 1))]) (pn := 33) F dX5_poorHouses_30 rfl rfl (by decide) rfl rfl ?_
        refine AW.goto (tg := 4) F dX5_poorHouses_33 (by decide) ?_
        exact ih _ _ hb

theorem p5_poorHouses_13  {h : HP} {Q : Int → Prop} (hb : p5_poorHouses 13 h Q) : MT yX5_poorHouses cX5_poorHouses 3 (some .int) 1 [vR 13] h (QP h Q) := by
  refine MT.of (own := RX5) (by decide) rfl (Nat.le_of_ble_eq_true rfl) rfl (fun X F G => ?_)
  unfold p5_poorHouses at hb
  refine AW.iconst (pn := 1) F dX5_poorHouses_0 rfl ?_
  refine AW.istore_n (ls2 := [some (vR 13), some (vI 0), none]) (pn := 2) F dX5_poorHouses_1 rfl rfl (by decide) rfl rfl ?_
  refine AW.iconst (pn := 3) F dX5_poorHouses_2 rfl ?_
  refine AW.istore_n (ls2 := [some (vR 13), some (vI 0), some (vI 0)]) (pn := 4) F dX5_poorHouses_3 rfl rfl (by decide) rfl rfl ?_
  refine p5_poorHouses_L4_ok_13 F G  _ _ _ hb

theorem p5_lies_13 (x1 : Int) {h : HP} {Q : Int → Prop} (hb : p5_lies 13 x1 h Q) : MT yX5_lies cX5_lies 2 (some .boolean) 1 [vR 13, vI x1] h (QP h Q) := by
  refine MT.of (own := RX5) (by decide) rfl (Nat.le_of_ble_eq_true rfl) rfl (fun X F G => ?_)
  unfold p5_lies at hb
  refine AW.aload_n (pn := 1) F dX5_lies_0 rfl rfl rfl ?_
  refine AW.getR (r := 15) (pn := 4) F dX5_lies_1 rfl gl_X5_15 so_13 rfl ?_
  refine AW.iload_n (pn := 5) F dX5_lies_4 rfl rfl rfl ?_
  refine AW.iald (pn := 6) F dX5_lies_5 rfl so_15 hb (fun v1 hb => ?_)
  refine AW.iconst (pn := 7) F dX5_lies_6 rfl ?_
  refine AW.icmp_ne (pn := 10) (tg := 14) F dX5_lies_7 rfl (by decide) hb (fun hb => ?_) (fun hb => ?_)
  · refine AW.iconst (pn := 15) F dX5_lies_14 rfl ?_
    exact AW.zret F G dX5_lies_15 (by decide) ⟨rfl, _, rfl, hb⟩
  · refine AW.iconst (pn := 11) F dX5_lies_10 rfl ?_
    refine AW.goto (tg := 15) F dX5_lies_11 (by decide) ?_
    exact AW.zret F G dX5_lies_15 (by decide) ⟨rfl, _, rfl, hb⟩

theorem p5_countLying_L4_ok_13 {X : Cx} {h : HP} {Q : Int → Prop} (F : Fx X cX5_countLying RX5 3 2) (G : Rx X (some .int) (QP h Q))  : ∀ (n : Nat) (x1 : Int) (x2 : Int), p5_countLying_L4 13 h Q n x1 x2 → AW X 3 4 [some (vR 13), some (vI x1), some (vI x2)] [] h := by
  intro n
  induction n with
  | zero => intro _ _ hb; exact hb.elim
  | succ n ih =>
    intro x1 x2 hb
    unfold p5_countLying_L4 at hb
    refine AW.iload_n (pn := 5) F dX5_countLying_4 rfl rfl rfl ?_
    refine AW.aload_n (pn := 6) F dX5_countLying_5 rfl rfl rfl ?_
    refine AW.getI (pn := 9) F dX5_countLying_6 rfl gl_X5_37 so_13 rfl ?_
    refine AW.icmp_ge (pn := 12) (tg := 29) F dX5_countLying_9 rfl (by decide) hb (fun hb => ?_) (fun hb => ?_)
    · refine AW.iload_n (pn := 30) F dX5_countLying_29 rfl rfl rfl ?_
      exact AW.iret F G dX5_countLying_30 ⟨rfl, _, rfl, hb⟩
    · refine AW.aload_n (pn := 13) F dX5_countLying_12 rfl rfl rfl ?_
      refine AW.iload_n (pn := 14) F dX5_countLying_13 rfl rfl rfl ?_
      refine AW.cVP (pn := 17) (st := []) F dX5_countLying_14 rfl cl_X5_74 so_13 (p5_lies_13 x2 hb) rfl rfl (Nat.le_of_ble_eq_true rfl) (by decide) (fun r1 hb => ?_)
      refine AW.if_eq (pn := 20) (tg := 23) F dX5_countLying_17 rfl (by decide) hb (fun hb => ?_) (fun hb => ?_)
      · refine AW.iinc (ls2 := [some (vR 13), some (vI x1), some (vI (x2 + 1))]) (pn := 26) F dX5_countLying_23 rfl rfl (by decide) rfl rfl ?_
        refine AW.goto (tg := 4) F dX5_countLying_26 (by decide) ?_
        exact ih _ _ hb
      · refine AW.iinc (ls2 := [some (vR 13), some (vI (x1 + 1)), some (vI x2)]) (pn := 23) F dX5_countLying_20 rfl rfl (by decide) rfl rfl ?_
        refine AW.iinc (ls2 := [some (vR 13), some (vI (x1 + 1)), some (vI (x2 + 1))]) (pn := 26) F dX5_countLying_23 rfl rfl (by decide) rfl rfl ?_
        refine AW.goto (tg := 4) F dX5_countLying_26 (by decide) ?_
        exact ih _ _ hb

theorem p5_countLying_13  {h : HP} {Q : Int → Prop} (hb : p5_countLying 13 h Q) : MT yX5_countLying cX5_countLying 3 (some .int) 2 [vR 13] h (QP h Q) := by
  refine MT.of (own := RX5) (by decide) rfl (Nat.le_of_ble_eq_true rfl) rfl (fun X F G => ?_)
  unfold p5_countLying at hb
  refine AW.iconst (pn := 1) F dX5_countLying_0 rfl ?_
  refine AW.istore_n (ls2 := [some (vR 13), some (vI 0), none]) (pn := 2) F dX5_countLying_1 rfl rfl (by decide) rfl rfl ?_
  refine AW.iconst (pn := 3) F dX5_countLying_2 rfl ?_
  refine AW.istore_n (ls2 := [some (vR 13), some (vI 0), some (vI 0)]) (pn := 4) F dX5_countLying_3 rfl rfl (by decide) rfl rfl ?_
  refine p5_countLying_L4_ok_13 F G  _ _ _ hb

theorem p7_told_0 (x1 : Int) {h : HP} {Q : Int → Prop} (hb : p7_told x1 h Q) : MT yX7_told cX7_told 2 (some .int) 3 [vR 0, vI x1] h (QP h Q) := by
  refine MT.of (own := RX7) (by decide) rfl (Nat.le_of_ble_eq_true rfl) rfl (fun X F G => ?_)
  unfold p7_told at hb
  refine AW.iload_n (pn := 1) F dX7_told_0 rfl rfl rfl ?_
  by_cases hq0 : w32 x1 < 0 ∨ 7 < w32 x1
  · refine AW.tabOut (tg := 109) F dX7_told_1 hq0 (by decide) ?_
    replace hb := hb.1 hq0
    refine AW.ldc (x := (-1000000002)) (pn := 111) F dX7_told_109 rfl tw_329 (by decide) ?_
    exact AW.iret F G dX7_told_111 ⟨rfl, _, rfl, hb⟩
  · have hq1 : w32 x1 = 0 ∨ w32 x1 = 1 ∨ w32 x1 = 2 ∨ w32 x1 = 3 ∨ w32 x1 = 4 ∨ w32 x1 = 5 ∨ w32 x1 = 6 ∨ w32 x1 = 7 := by omega
    rcases hq1 with hq | hq | hq | hq | hq | hq | hq | hq
    · refine AW.tabIn (tg := 48) 0 F dX7_told_1 hq (by decide) (by decide) rfl (by decide) ?_
      replace hb := hb.2.1 hq
      refine AW.aload_n (pn := 49) F dX7_told_48 rfl rfl rfl ?_
      refine AW.getR (r := 2) (pn := 52) F dX7_told_49 rfl gl_X7_20 so_0 rfl ?_
      refine AW.getI (pn := 55) F dX7_told_52 rfl gl_X7_117 so_2 rfl ?_
      exact AW.iret F G dX7_told_55 ⟨rfl, _, rfl, hb⟩
    · refine AW.tabIn (tg := 56) 1 F dX7_told_1 hq (by decide) (by decide) rfl (by decide) ?_
      replace hb := hb.2.2.1 hq
      refine AW.aload_n (pn := 57) F dX7_told_56 rfl rfl rfl ?_
      refine AW.getR (r := 2) (pn := 60) F dX7_told_57 rfl gl_X7_20 so_0 rfl ?_
      refine AW.getI (pn := 63) F dX7_told_60 rfl gl_X7_120 so_2 rfl ?_
      exact AW.iret F G dX7_told_63 ⟨rfl, _, rfl, hb⟩
    · refine AW.tabIn (tg := 64) 2 F dX7_told_1 hq (by decide) (by decide) rfl (by decide) ?_
      replace hb := hb.2.2.2.1 hq
      refine AW.aload_n (pn := 65) F dX7_told_64 rfl rfl rfl ?_
      refine AW.getR (r := 13) (pn := 68) F dX7_told_65 rfl gl_X7_41 so_0 rfl ?_
      refine AW.getI (pn := 71) F dX7_told_68 rfl gl_X7_114 so_13 rfl ?_
      exact AW.iret F G dX7_told_71 ⟨rfl, _, rfl, hb⟩
    · refine AW.tabIn (tg := 72) 3 F dX7_told_1 hq (by decide) (by decide) rfl (by decide) ?_
      replace hb := hb.2.2.2.2.1 hq
      refine AW.aload_n (pn := 73) F dX7_told_72 rfl rfl rfl ?_
      refine AW.getI (pn := 76) F dX7_told_73 rfl gl_X7_91 so_0 rfl ?_
      exact AW.iret F G dX7_told_76 ⟨rfl, _, rfl, hb⟩
    · refine AW.tabIn (tg := 77) 4 F dX7_told_1 hq (by decide) (by decide) rfl (by decide) ?_
      replace hb := hb.2.2.2.2.2.1 hq
      refine AW.aload_n (pn := 78) F dX7_told_77 rfl rfl rfl ?_
      refine AW.getR (r := 13) (pn := 81) F dX7_told_78 rfl gl_X7_41 so_0 rfl ?_
      refine AW.getI (pn := 84) F dX7_told_81 rfl gl_X7_123 so_13 rfl ?_
      exact AW.iret F G dX7_told_84 ⟨rfl, _, rfl, hb⟩
    · refine AW.tabIn (tg := 85) 5 F dX7_told_1 hq (by decide) (by decide) rfl (by decide) ?_
      replace hb := hb.2.2.2.2.2.2.1 hq
      refine AW.aload_n (pn := 86) F dX7_told_85 rfl rfl rfl ?_
      refine AW.getR (r := 47) (pn := 89) F dX7_told_86 rfl gl_X7_59 so_0 rfl ?_
      refine AW.getI (pn := 92) F dX7_told_89 rfl gl_X7_111 so_47 rfl ?_
      exact AW.iret F G dX7_told_92 ⟨rfl, _, rfl, hb⟩
    · refine AW.tabIn (tg := 93) 6 F dX7_told_1 hq (by decide) (by decide) rfl (by decide) ?_
      replace hb := hb.2.2.2.2.2.2.2.1 hq
      refine AW.aload_n (pn := 94) F dX7_told_93 rfl rfl rfl ?_
      refine AW.getR (r := 13) (pn := 97) F dX7_told_94 rfl gl_X7_41 so_0 rfl ?_
      refine AW.cVP (pn := 100) (st := []) F dX7_told_97 rfl cl_X7_126 so_13 (p5_poorHouses_13  hb) rfl rfl (Nat.le_of_ble_eq_true rfl) (by decide) (fun r1 hb => ?_)
      exact AW.iret F G dX7_told_100 ⟨rfl, _, rfl, hb⟩
    · refine AW.tabIn (tg := 101) 7 F dX7_told_1 hq (by decide) (by decide) rfl (by decide) ?_
      replace hb := hb.2.2.2.2.2.2.2.2 hq
      refine AW.aload_n (pn := 102) F dX7_told_101 rfl rfl rfl ?_
      refine AW.getR (r := 13) (pn := 105) F dX7_told_102 rfl gl_X7_41 so_0 rfl ?_
      refine AW.cVP (pn := 108) (st := []) F dX7_told_105 rfl cl_X7_130 so_13 (p5_countLying_13  hb) rfl rfl (Nat.le_of_ble_eq_true rfl) (by decide) (fun r2 hb => ?_)
      exact AW.iret F G dX7_told_108 ⟨rfl, _, rfl, hb⟩

theorem p4_isHouse_2 (x1 : Int) {h : HP} {Q : Int → Prop} (hb : p4_isHouse x1 h Q) : MT yX4_isHouse cX4_isHouse 2 (some .boolean) 1 [vR 2, vI x1] h (QP h Q) := by
  refine MT.of (own := RX4) (by decide) rfl (Nat.le_of_ble_eq_true rfl) rfl (fun X F G => ?_)
  unfold p4_isHouse at hb
  refine AW.iload_n (pn := 1) F dX4_isHouse_0 rfl rfl rfl ?_
  refine AW.if_lt (pn := 4) (tg := 16) F dX4_isHouse_1 rfl (by decide) hb (fun hb => ?_) (fun hb => ?_)
  · refine AW.iconst (pn := 17) F dX4_isHouse_16 rfl ?_
    exact AW.zret F G dX4_isHouse_17 (by decide) ⟨rfl, _, rfl, hb⟩
  · refine AW.iload_n (pn := 5) F dX4_isHouse_4 rfl rfl rfl ?_
    refine AW.aload_n (pn := 6) F dX4_isHouse_5 rfl rfl rfl ?_
    refine AW.getI (pn := 9) F dX4_isHouse_6 rfl gl_X4_28 so_2 rfl ?_
    refine AW.icmp_ge (pn := 12) (tg := 16) F dX4_isHouse_9 rfl (by decide) hb (fun hb => ?_) (fun hb => ?_)
    · refine AW.iconst (pn := 17) F dX4_isHouse_16 rfl ?_
      exact AW.zret F G dX4_isHouse_17 (by decide) ⟨rfl, _, rfl, hb⟩
    · refine AW.iconst (pn := 13) F dX4_isHouse_12 rfl ?_
      refine AW.goto (tg := 17) F dX4_isHouse_13 (by decide) ?_
      exact AW.zret F G dX4_isHouse_17 (by decide) ⟨rfl, _, rfl, hb⟩

theorem p4_worthOf_2 (x1 x2 : Int) {h : HP} {Q : Int → Prop} (hb : p4_worthOf x1 x2 h Q) : MT yX4_worthOf cX4_worthOf 3 (some .int) 1 [vR 2, vI x1, vI x2] h (QP h Q) := by
  refine MT.of (own := RX4) (by decide) rfl (Nat.le_of_ble_eq_true rfl) rfl (fun X F G => ?_)
  unfold p4_worthOf at hb
  refine AW.aload_n (pn := 1) F dX4_worthOf_0 rfl rfl rfl ?_
  refine AW.getR (r := 6) (pn := 4) F dX4_worthOf_1 rfl gl_X4_21 so_2 rfl ?_
  refine AW.iload_n (pn := 5) F dX4_worthOf_4 rfl rfl rfl ?_
  refine AW.bipush (pn := 7) F dX4_worthOf_5 rfl (by decide) ?_
  refine AW.imul (pn := 8) F dX4_worthOf_7 rfl ?_
  refine AW.iload_n (pn := 9) F dX4_worthOf_8 rfl rfl rfl ?_
  refine AW.iadd (pn := 10) F dX4_worthOf_9 rfl ?_
  refine AW.iald (pn := 11) F dX4_worthOf_10 rfl so_6 hb (fun v1 hb => ?_)
  exact AW.iret F G dX4_worthOf_11 ⟨rfl, _, rfl, hb⟩

theorem p5_wealthOf_L4_ok_13 {X : Cx} {x1 : Int} {h : HP} {Q : Int → Prop} (F : Fx X cX5_wealthOf RX5 4 2) (G : Rx X (some .int) (QP h Q))  : ∀ (n : Nat) (x2 : Int) (x3 : Int), p5_wealthOf_L4 13 x1 h Q n x2 x3 → AW X 4 4 [some (vR 13), some (vI x1), some (vI x2), some (vI x3)] [] h := by
  intro n
  induction n with
  | zero => intro _ _ hb; exact hb.elim
  | succ n ih =>
    intro x2 x3 hb
    unfold p5_wealthOf_L4 at hb
    refine AW.iload_n (pn := 5) F dX5_wealthOf_4 rfl rfl rfl ?_
    refine AW.aload_n (pn := 6) F dX5_wealthOf_5 rfl rfl rfl ?_
    refine AW.getR (r := 2) (pn := 9) F dX5_wealthOf_6 rfl gl_X5_33 so_13 rfl ?_
    refine AW.getI (pn := 12) F dX5_wealthOf_9 rfl gl_X5_98 so_2 rfl ?_
    refine AW.icmp_ge (pn := 15) (tg := 47) F dX5_wealthOf_12 rfl (by decide) hb (fun hb => ?_) (fun hb => ?_)
    · refine AW.iload_n (pn := 48) F dX5_wealthOf_47 rfl rfl rfl ?_
      exact AW.iret F G dX5_wealthOf_48 ⟨rfl, _, rfl, hb⟩
    · refine AW.aload_n (pn := 16) F dX5_wealthOf_15 rfl rfl rfl ?_
      refine AW.getR (r := 20) (pn := 19) F dX5_wealthOf_16 rfl gl_X5_30 so_13 rfl ?_
      refine AW.iload_n (pn := 20) F dX5_wealthOf_19 rfl rfl rfl ?_
      refine AW.bipush (pn := 22) F dX5_wealthOf_20 rfl (by decide) ?_
      refine AW.imul (pn := 23) F dX5_wealthOf_22 rfl ?_
      refine AW.iload_n (pn := 24) F dX5_wealthOf_23 rfl rfl rfl ?_
      refine AW.iadd (pn := 25) F dX5_wealthOf_24 rfl ?_
      refine AW.iald (pn := 26) F dX5_wealthOf_25 rfl so_20 hb (fun v1 hb => ?_)
      refine AW.if_le (pn := 29) (tg := 41) F dX5_wealthOf_26 rfl (by decide) hb (fun hb => ?_) (fun hb => ?_)
      · refine AW.iinc (ls2 := [some (vR 13), some (vI x1), some (vI x2), some (vI (x3 + 1))]) (pn := 44) F dX5_wealthOf_41 rfl rfl (by decide) rfl rfl ?_
        refine AW.goto (tg := 4) F dX5_wealthOf_44 (by decide) ?_
        exact ih _ _ hb
      · refine AW.iload_n (pn := 30) F dX5_wealthOf_29 rfl rfl rfl ?_
        refine AW.aload_n (pn := 31) F dX5_wealthOf_30 rfl rfl rfl ?_
        refine AW.getR (r := 2) (pn := 34) F dX5_wealthOf_31 rfl gl_X5_33 so_13 rfl ?_
        refine AW.iload_n (pn := 35) F dX5_wealthOf_34 rfl rfl rfl ?_
        refine AW.iload_n (pn := 36) F dX5_wealthOf_35 rfl rfl rfl ?_
        refine AW.cVP (pn := 39) (st := [vI x2]) F dX5_wealthOf_36 rfl cl_X5_88 so_2 (p4_worthOf_2 x1 x3 hb) rfl rfl (Nat.le_of_ble_eq_true rfl) (by decide) (fun r2 hb => ?_)
        refine AW.iadd (pn := 40) F dX5_wealthOf_39 rfl ?_
        refine AW.istore_n (ls2 := [some (vR 13), some (vI x1), some (vI (x2 + r2)), some (vI x3)]) (pn := 41) F dX5_wealthOf_40 rfl rfl (by decide) rfl rfl ?_
        refine AW.iinc (ls2 := [some (vR 13), some (vI x1), some (vI (x2 + r2)), some (vI (x3 + 1))]) (pn := 44) F dX5_wealthOf_41 rfl rfl (by decide) rfl rfl ?_
        refine AW.goto (tg := 4) F dX5_wealthOf_44 (by decide) ?_
        exact ih _ _ hb

theorem p5_wealthOf_13 (x1 : Int) {h : HP} {Q : Int → Prop} (hb : p5_wealthOf 13 x1 h Q) : MT yX5_wealthOf cX5_wealthOf 4 (some .int) 2 [vR 13, vI x1] h (QP h Q) := by
  refine MT.of (own := RX5) (by decide) rfl (Nat.le_of_ble_eq_true rfl) rfl (fun X F G => ?_)
  unfold p5_wealthOf at hb
  refine AW.iconst (pn := 1) F dX5_wealthOf_0 rfl ?_
  refine AW.istore_n (ls2 := [some (vR 13), some (vI x1), some (vI 0), none]) (pn := 2) F dX5_wealthOf_1 rfl rfl (by decide) rfl rfl ?_
  refine AW.iconst (pn := 3) F dX5_wealthOf_2 rfl ?_
  refine AW.istore_n (ls2 := [some (vR 13), some (vI x1), some (vI 0), some (vI 0)]) (pn := 4) F dX5_wealthOf_3 rfl rfl (by decide) rfl rfl ?_
  refine p5_wealthOf_L4_ok_13 F G  _ _ _ hb

theorem p5_sortsHad_L4_ok_13 {X : Cx} {x1 : Int} {h : HP} {Q : Int → Prop} (F : Fx X cX5_sortsHad RX5 4 1) (G : Rx X (some .int) (QP h Q))  : ∀ (n : Nat) (x2 : Int) (x3 : Int), p5_sortsHad_L4 13 x1 h Q n x2 x3 → AW X 4 4 [some (vR 13), some (vI x1), some (vI x2), some (vI x3)] [] h := by
  intro n
  induction n with
  | zero => intro _ _ hb; exact hb.elim
  | succ n ih =>
    intro x2 x3 hb
    unfold p5_sortsHad_L4 at hb
    refine AW.iload_n (pn := 5) F dX5_sortsHad_4 rfl rfl rfl ?_
    refine AW.aload_n (pn := 6) F dX5_sortsHad_5 rfl rfl rfl ?_
    refine AW.getR (r := 2) (pn := 9) F dX5_sortsHad_6 rfl gl_X5_33 so_13 rfl ?_
    refine AW.getI (pn := 12) F dX5_sortsHad_9 rfl gl_X5_98 so_2 rfl ?_
    refine AW.icmp_ge (pn := 15) (tg := 41) F dX5_sortsHad_12 rfl (by decide) hb (fun hb => ?_) (fun hb => ?_)
    · refine AW.iload_n (pn := 42) F dX5_sortsHad_41 rfl rfl rfl ?_
      exact AW.iret F G dX5_sortsHad_42 ⟨rfl, _, rfl, hb⟩
    · refine AW.aload_n (pn := 16) F dX5_sortsHad_15 rfl rfl rfl ?_
      refine AW.getR (r := 20) (pn := 19) F dX5_sortsHad_16 rfl gl_X5_30 so_13 rfl ?_
      refine AW.iload_n (pn := 20) F dX5_sortsHad_19 rfl rfl rfl ?_
      refine AW.bipush (pn := 22) F dX5_sortsHad_20 rfl (by decide) ?_
      refine AW.imul (pn := 23) F dX5_sortsHad_22 rfl ?_
      refine AW.iload_n (pn := 24) F dX5_sortsHad_23 rfl rfl rfl ?_
      refine AW.iadd (pn := 25) F dX5_sortsHad_24 rfl ?_
      refine AW.iald (pn := 26) F dX5_sortsHad_25 rfl so_20 hb (fun v1 hb => ?_)
      refine AW.if_le (pn := 29) (tg := 35) F dX5_sortsHad_26 rfl (by decide) hb (fun hb => ?_) (fun hb => ?_)
      · refine AW.iinc (ls2 := [some (vR 13), some (vI x1), some (vI x2), some (vI (x3 + 1))]) (pn := 38) F dX5_sortsHad_35 rfl rfl (by decide) rfl rfl ?_
        refine AW.goto (tg := 4) F dX5_sortsHad_38 (by decide) ?_
        exact ih _ _ hb
      · refine AW.iload_n (pn := 30) F dX5_sortsHad_29 rfl rfl rfl ?_
        refine AW.iconst (pn := 31) F dX5_sortsHad_30 rfl ?_
        refine AW.iload_n (pn := 32) F dX5_sortsHad_31 rfl rfl rfl ?_
        refine AW.ishl (pn := 33) F dX5_sortsHad_32 rfl ?_
        refine AW.ior (pn := 34) F dX5_sortsHad_33 rfl ?_
        refine AW.istore_n (ls2 := [some (vR 13), some (vI x1), some (vI (io x2 (sl 1 x3))), some (vI x3)]) (pn := 35) F dX5_sortsHad_34 rfl rfl (by decide) rfl rfl ?_
        refine AW.iinc (ls2 := [some (vR 13), some (vI x1), some (vI (io x2 (sl 1 x3))), some (vI (x3 + 1))]) (pn := 38) F dX5_sortsHad_35 rfl rfl (by decide) rfl rfl ?_
        refine AW.goto (tg := 4) F dX5_sortsHad_38 (by decide) ?_
        exact ih _ _ hb

