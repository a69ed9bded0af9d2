theorem p5_lossOf_21 (x1 x2 : Int) {h : HP} {Q : Int → Prop} (hb : p5_lossOf 21 x1 x2 h Q) : MT yX5_lossOf cX5_lossOf 3 (some .int) 2 [vR 21, vI x1, vI x2] h (QP h Q) := by
  refine MT.of (own := RX5) (by decide) rfl (Nat.le_of_ble_eq_true rfl) rfl (fun X F G => ?_)
  unfold p5_lossOf at hb
  refine AW.aload_n (pn := 1) F dX5_lossOf_0 rfl rfl rfl ?_
  refine AW.getR (r := 28) (pn := 4) F dX5_lossOf_1 rfl gl_X5_30 so_21 rfl ?_
  refine AW.iload_n (pn := 5) F dX5_lossOf_4 rfl rfl rfl ?_
  refine AW.bipush (pn := 7) F dX5_lossOf_5 rfl (by decide) ?_
  refine AW.imul (pn := 8) F dX5_lossOf_7 rfl ?_
  refine AW.iload_n (pn := 9) F dX5_lossOf_8 rfl rfl rfl ?_
  refine AW.iadd (pn := 10) F dX5_lossOf_9 rfl ?_
  refine AW.iald (pn := 11) F dX5_lossOf_10 rfl so_28 hb (fun v1 hb => ?_)
  refine AW.iconst (pn := 12) F dX5_lossOf_11 rfl ?_
  refine AW.icmp_ne (pn := 15) (tg := 27) F dX5_lossOf_12 rfl (by decide) hb (fun hb => ?_) (fun hb => ?_)
  · refine AW.iconst (pn := 28) F dX5_lossOf_27 rfl ?_
    exact AW.iret F G dX5_lossOf_28 ⟨rfl, _, rfl, hb⟩
  · refine AW.aload_n (pn := 16) F dX5_lossOf_15 rfl rfl rfl ?_
    refine AW.getR (r := 2) (pn := 19) F dX5_lossOf_16 rfl gl_X5_33 so_21 rfl ?_
    refine AW.iload_n (pn := 20) F dX5_lossOf_19 rfl rfl rfl ?_
    refine AW.iload_n (pn := 21) F dX5_lossOf_20 rfl rfl rfl ?_
    refine AW.cVP (pn := 24) (st := []) F dX5_lossOf_21 rfl cl_X5_88 so_2 (p4_worthOf_2 x1 x2 hb) rfl rfl (Nat.le_of_ble_eq_true rfl) (by decide) (fun r2 hb => ?_)
    refine AW.goto (tg := 28) F dX5_lossOf_24 (by decide) ?_
    exact AW.iret F G dX5_lossOf_28 ⟨rfl, _, rfl, hb⟩

theorem p5_throwOut_21 (x1 x2 : Int) {h : HP} {Q : Int → HP → Prop} (hb : p5_throwOut 21 x1 x2 h Q) : MT yX5_throwOut cX5_throwOut 3 (some .boolean) 1 [vR 21, vI x1, vI x2] h (QI Q) := by
  refine MT.of (own := RX5) (by decide) rfl (Nat.le_of_ble_eq_true rfl) rfl (fun X F G => ?_)
  unfold p5_throwOut at hb
  refine AW.aload_n (pn := 1) F dX5_throwOut_0 rfl rfl rfl ?_
  refine AW.getR (r := 23) (pn := 4) F dX5_throwOut_1 rfl gl_X5_15 so_21 rfl ?_
  refine AW.iload_n (pn := 5) F dX5_throwOut_4 rfl rfl rfl ?_
  refine AW.iald (pn := 6) F dX5_throwOut_5 rfl so_23 hb (fun v1 hb => ?_)
  refine AW.iload_n (pn := 7) F dX5_throwOut_6 rfl rfl rfl ?_
  refine AW.icmp_eq (pn := 10) (tg := 12) F dX5_throwOut_7 rfl (by decide) hb (fun hb => ?_) (fun hb => ?_)
  · refine AW.aload_n (pn := 13) F dX5_throwOut_12 rfl rfl rfl ?_
    refine AW.getR (r := 23) (pn := 16) F dX5_throwOut_13 rfl gl_X5_15 so_21 rfl ?_
    refine AW.iload_n (pn := 17) F dX5_throwOut_16 rfl rfl rfl ?_
    refine AW.iconst (pn := 18) F dX5_throwOut_17 rfl ?_
    refine AW.iast (pn := 19) F dX5_throwOut_18 rfl so_23 hb (fun h2 hb => ?_)
    refine AW.aload_n (pn := 20) F dX5_throwOut_19 rfl rfl rfl ?_
    refine AW.getR (r := 24) (pn := 23) F dX5_throwOut_20 rfl gl_X5_18 so_21 rfl ?_
    refine AW.iload_n (pn := 24) F dX5_throwOut_23 rfl rfl rfl ?_
    refine AW.iload_n (pn := 25) F dX5_throwOut_24 rfl rfl rfl ?_
    refine AW.iast (pn := 26) F dX5_throwOut_25 rfl so_24 hb (fun h3 hb => ?_)
    refine AW.aload_n (pn := 27) F dX5_throwOut_26 rfl rfl rfl ?_
    refine AW.getR (r := 27) (pn := 30) F dX5_throwOut_27 rfl gl_X5_27 so_21 rfl ?_
    refine AW.iload_n (pn := 31) F dX5_throwOut_30 rfl rfl rfl ?_
    refine AW.dup2IR (pn := 32) F dX5_throwOut_31 rfl ?_
    refine AW.iald (pn := 33) F dX5_throwOut_32 rfl so_27 hb (fun v4 hb => ?_)
    refine AW.iconst (pn := 34) F dX5_throwOut_33 rfl ?_
    refine AW.isub (pn := 35) F dX5_throwOut_34 rfl ?_
    refine AW.iast (pn := 36) F dX5_throwOut_35 rfl so_27 hb (fun h5 hb => ?_)
    refine AW.aload_n (pn := 37) F dX5_throwOut_36 rfl rfl rfl ?_
    refine AW.getR (r := 28) (pn := 40) F dX5_throwOut_37 rfl gl_X5_30 so_21 rfl ?_
    refine AW.iload_n (pn := 41) F dX5_throwOut_40 rfl rfl rfl ?_
    refine AW.bipush (pn := 43) F dX5_throwOut_41 rfl (by decide) ?_
    refine AW.imul (pn := 44) F dX5_throwOut_43 rfl ?_
    refine AW.aload_n (pn := 45) F dX5_throwOut_44 rfl rfl rfl ?_
    refine AW.getR (r := 22) (pn := 48) F dX5_throwOut_45 rfl gl_X5_9 so_21 rfl ?_
    refine AW.iload_n (pn := 49) F dX5_throwOut_48 rfl rfl rfl ?_
    refine AW.iald (pn := 50) F dX5_throwOut_49 rfl so_22 hb (fun v6 hb => ?_)
    refine AW.iadd (pn := 51) F dX5_throwOut_50 rfl ?_
    refine AW.dup2IR (pn := 52) F dX5_throwOut_51 rfl ?_
    refine AW.iald (pn := 53) F dX5_throwOut_52 rfl so_28 hb (fun v7 hb => ?_)
    refine AW.iconst (pn := 54) F dX5_throwOut_53 rfl ?_
    refine AW.isub (pn := 55) F dX5_throwOut_54 rfl ?_
    refine AW.iast (pn := 56) F dX5_throwOut_55 rfl so_28 hb (fun h8 hb => ?_)
    refine AW.aload_n (pn := 57) F dX5_throwOut_56 rfl rfl rfl ?_
    refine AW.dupR (pn := 58) F dX5_throwOut_57 rfl ?_
    refine AW.getI (pn := 61) F dX5_throwOut_58 rfl gl_X5_82 so_21 rfl ?_
    refine AW.iconst (pn := 62) F dX5_throwOut_61 rfl ?_
    refine AW.iadd (pn := 63) F dX5_throwOut_62 rfl ?_
    refine AW.putI (pn := 66) F dX5_throwOut_63 rfl pl_X5_82 so_21 rfl hb (fun h9 hb => ?_)
    refine AW.iconst (pn := 67) F dX5_throwOut_66 rfl ?_
    exact AW.zret F G dX5_throwOut_67 (by decide) ⟨_, rfl, hb⟩
  · refine AW.iconst (pn := 11) F dX5_throwOut_10 rfl ?_
    exact AW.zret F G dX5_throwOut_11 (by decide) ⟨_, rfl, hb⟩

theorem p5_throwSpare_L2_ok_21 {X : Cx} {x1 : Int} {Q : HP → Prop} (F : Fx X cX5_throwSpare RX5 3 3) (G : Rx X none (QV Q))  : ∀ (n : Nat) (h : HP) (x2 : Int), p5_throwSpare_L2 21 x1 Q n h x2 → AW X 3 2 [some (vR 21), some (vI x1), some (vI x2)] [] h := by
  intro n
  induction n with
  | zero => intro _ _ hb; exact hb.elim
  | succ n ih =>
    intro h x2 hb
    unfold p5_throwSpare_L2 at hb
    refine AW.iload_n (pn := 3) F dX5_throwSpare_2 rfl rfl rfl ?_
    refine AW.aload_n (pn := 4) F dX5_throwSpare_3 rfl rfl rfl ?_
    refine AW.getI (pn := 7) F dX5_throwSpare_4 rfl gl_X5_37 so_21 rfl ?_
    refine AW.icmp_ge (pn := 10) (tg := 47) F dX5_throwSpare_7 rfl (by decide) hb (fun hb => ?_) (fun hb => ?_)
    · exact AW.vret F G dX5_throwSpare_47 ⟨rfl, hb⟩
    · refine AW.aload_n (pn := 11) F dX5_throwSpare_10 rfl rfl rfl ?_
      refine AW.getR (r := 23) (pn := 14) F dX5_throwSpare_11 rfl gl_X5_15 so_21 rfl ?_
      refine AW.iload_n (pn := 15) F dX5_throwSpare_14 rfl rfl rfl ?_
      refine AW.iald (pn := 16) F dX5_throwSpare_15 rfl so_23 hb (fun v1 hb => ?_)
      refine AW.iload_n (pn := 17) F dX5_throwSpare_16 rfl rfl rfl ?_
      refine AW.icmp_ne (pn := 20) (tg := 41) F dX5_throwSpare_17 rfl (by decide) hb (fun hb => ?_) (fun hb => ?_)
      · refine AW.iinc (ls2 := [some (vR 21), some (vI x1), some (vI (x2 + 1))]) (pn := 44) F dX5_throwSpare_41 rfl rfl (by decide) rfl rfl ?_
        refine AW.goto (tg := 2) F dX5_throwSpare_44 (by decide) ?_
        exact ih _ _ hb
      · refine AW.aload_n (pn := 21) F dX5_throwSpare_20 rfl rfl rfl ?_
        refine AW.iload_n (pn := 22) F dX5_throwSpare_21 rfl rfl rfl ?_
        refine AW.aload_n (pn := 23) F dX5_throwSpare_22 rfl rfl rfl ?_
        refine AW.getR (r := 22) (pn := 26) F dX5_throwSpare_23 rfl gl_X5_9 so_21 rfl ?_
        refine AW.iload_n (pn := 27) F dX5_throwSpare_26 rfl rfl rfl ?_
        refine AW.iald (pn := 28) F dX5_throwSpare_27 rfl so_22 hb (fun v2 hb => ?_)
        refine AW.cVP (pn := 31) (st := []) F dX5_throwSpare_28 rfl cl_X5_95 so_21 (p5_lossOf_21 x1 v2 hb) rfl rfl (Nat.le_of_ble_eq_true rfl) (by decide) (fun r3 hb => ?_)
        refine AW.if_ne (pn := 34) (tg := 41) F dX5_throwSpare_31 rfl (by decide) hb (fun hb => ?_) (fun hb => ?_)
        · refine AW.iinc (ls2 := [some (vR 21), some (vI x1), some (vI (x2 + 1))]) (pn := 44) F dX5_throwSpare_41 rfl rfl (by decide) rfl rfl ?_
          refine AW.goto (tg := 2) F dX5_throwSpare_44 (by decide) ?_
          exact ih _ _ hb
        · refine AW.aload_n (pn := 35) F dX5_throwSpare_34 rfl rfl rfl ?_
          refine AW.iload_n (pn := 36) F dX5_throwSpare_35 rfl rfl rfl ?_
          refine AW.iload_n (pn := 37) F dX5_throwSpare_36 rfl rfl rfl ?_
          refine AW.cVI (pn := 40) (st := []) F dX5_throwSpare_37 rfl cl_X5_131 so_21 (p5_throwOut_21 x1 x2 hb) rfl rfl (Nat.le_of_ble_eq_true rfl) (by decide) (fun r4 h5 hb => ?_)
          refine AW.popI (pn := 41) F dX5_throwSpare_40 rfl ?_
          refine AW.iinc (ls2 := [some (vR 21), some (vI x1), some (vI (x2 + 1))]) (pn := 44) F dX5_throwSpare_41 rfl rfl (by decide) rfl rfl ?_
          refine AW.goto (tg := 2) F dX5_throwSpare_44 (by decide) ?_
          exact ih _ _ hb

theorem p5_throwSpare_21 (x1 : Int) {h : HP} {Q : HP → Prop} (hb : p5_throwSpare 21 x1 h Q) : MT yX5_throwSpare cX5_throwSpare 3 none 3 [vR 21, vI x1] h (QV Q) := by
  refine MT.of (own := RX5) (by decide) rfl (Nat.le_of_ble_eq_true rfl) rfl (fun X F G => ?_)
  unfold p5_throwSpare at hb
  refine AW.iconst (pn := 1) F dX5_throwSpare_0 rfl ?_
  refine AW.istore_n (ls2 := [some (vR 21), some (vI x1), some (vI 0)]) (pn := 2) F dX5_throwSpare_1 rfl rfl (by decide) rfl rfl ?_
  refine p5_throwSpare_L2_ok_21 F G  _ _ _ hb

theorem p5_liveWeek_L9_ok_21 {X : Cx} {E54 : HP → Int → Prop} {Q : Int → HP → Prop} (F : Fx X cX5_liveWeek RX5 4 4) (G : Rx X (some .int) (QI Q)) (hE54 : ∀ (h : HP) (x1 : Int), E54 h x1 → AW X 4 54 [some (vR 21), some (vI x1), none, none] [] h) : ∀ (n : Nat) (h : HP) (x1 : Int) (x2 : Int), p5_liveWeek_L9 21 E54 n h x1 x2 → AW X 4 9 [some (vR 21), some (vI x1), some (vI x2), none] [] h := by
  intro n
  induction n with
  | zero => intro _ _ _ hb; exact hb.elim
  | succ n ih =>
    intro h x1 x2 hb
    unfold p5_liveWeek_L9 at hb
    refine AW.iload_n (pn := 10) F dX5_liveWeek_9 rfl rfl rfl ?_
    refine AW.aload_n (pn := 11) F dX5_liveWeek_10 rfl rfl rfl ?_
    refine AW.getR (r := 2) (pn := 14) F dX5_liveWeek_11 rfl gl_X5_33 so_21 rfl ?_
    refine AW.getI (pn := 17) F dX5_liveWeek_14 rfl gl_X5_101 so_2 rfl ?_
    refine AW.icmp_ge (pn := 20) (tg := 54) F dX5_liveWeek_17 rfl (by decide) hb (fun hb => ?_) (fun hb => ?_)
    · refine AW.drop [true, true, false, true] rfl ?_
      exact hE54 _ _ hb
    · refine AW.aload_n (pn := 21) F dX5_liveWeek_20 rfl rfl rfl ?_
      refine AW.iload_n (pn := 22) F dX5_liveWeek_21 rfl rfl rfl ?_
      refine AW.cVP (pn := 25) (st := []) F dX5_liveWeek_22 rfl cl_X5_113 so_21 (p5_partToTake_21 x2 hb) rfl rfl (Nat.le_of_ble_eq_true rfl) (by decide) (fun r2 hb => ?_)
      refine AW.istore_n (ls2 := [some (vR 21), some (vI x1), some (vI x2), some (vI r2)]) (pn := 26) F dX5_liveWeek_25 rfl rfl (by decide) rfl rfl ?_
      refine AW.iload_n (pn := 27) F dX5_liveWeek_26 rfl rfl rfl ?_
      refine AW.iconst (pn := 28) F dX5_liveWeek_27 rfl ?_
      refine jn_2 hb (fun (y7 : Int) (h8 : HP) => AW X 4 43 [some (vR 21), some (vI y7), some (vI x2), none] [] h8) (fun y7 h8 hb => ?_) (fun K9 hK9 hb => ?_)
      · refine AW.aload_n (pn := 44) F dX5_liveWeek_43 rfl rfl rfl ?_
        refine AW.iload_n (pn := 45) F dX5_liveWeek_44 rfl rfl rfl ?_
        refine AW.cVV (pn := 48) (st := []) F dX5_liveWeek_45 rfl cl_X5_127 so_21 (p5_throwSpare_21 x2 hb) rfl rfl (Nat.le_of_ble_eq_true rfl) (by decide) (fun h10 hb => ?_)
        refine AW.iinc (ls2 := [some (vR 21), some (vI y7), some (vI (x2 + 1)), none]) (pn := 51) F dX5_liveWeek_48 rfl rfl (by decide) rfl rfl ?_
        refine AW.goto (tg := 9) F dX5_liveWeek_51 (by decide) ?_
        exact ih _ _ _ hb
      refine AW.icmp_eq (pn := 31) (tg := 43) F dX5_liveWeek_28 rfl (by decide) hb (fun hb => ?_) (fun hb => ?_)
      · refine AW.drop [true, true, true, false] rfl ?_
        exact hK9 _ _ hb
      · refine AW.aload_n (pn := 32) F dX5_liveWeek_31 rfl rfl rfl ?_
        refine AW.iload_n (pn := 33) F dX5_liveWeek_32 rfl rfl rfl ?_
        refine AW.iload_n (pn := 34) F dX5_liveWeek_33 rfl rfl rfl ?_
        refine AW.cVI (pn := 37) (st := []) F dX5_liveWeek_34 rfl cl_X5_124 so_21 (p5_carryHome_21 x2 r2 hb) rfl rfl (Nat.le_of_ble_eq_true rfl) (by decide) (fun r11 h12 hb => ?_)
        refine AW.if_eq (pn := 40) (tg := 43) F dX5_liveWeek_37 rfl (by decide) hb (fun hb => ?_) (fun hb => ?_)
        · refine AW.drop [true, true, true, false] rfl ?_
          exact hK9 _ _ hb
        · refine AW.iinc (ls2 := [some (vR 21), some (vI (x1 + 1)), some (vI x2), some (vI r2)]) (pn := 43) F dX5_liveWeek_40 rfl rfl (by decide) rfl rfl ?_
          refine AW.drop [true, true, true, false] rfl ?_
          exact hK9 _ _ hb

theorem p5_liveWeek_21  {h : HP} {Q : Int → HP → Prop} (hb : p5_liveWeek 21 h Q) : MT yX5_liveWeek cX5_liveWeek 4 (some .int) 4 [vR 21] h (QI Q) := by
  refine MT.of (own := RX5) (by decide) rfl (Nat.le_of_ble_eq_true rfl) rfl (fun X F G => ?_)
  unfold p5_liveWeek at hb
  refine AW.iconst (pn := 1) F dX5_liveWeek_0 rfl ?_
  refine AW.istore_n (ls2 := [some (vR 21), some (vI 0), none, none]) (pn := 2) F dX5_liveWeek_1 rfl rfl (by decide) rfl rfl ?_
  refine AW.aload_n (pn := 3) F dX5_liveWeek_2 rfl rfl rfl ?_
  refine AW.iconst (pn := 4) F dX5_liveWeek_3 rfl ?_
  refine AW.putI (pn := 7) F dX5_liveWeek_4 rfl pl_X5_82 so_21 rfl hb (fun h1 hb => ?_)
  refine AW.iconst (pn := 8) F dX5_liveWeek_7 rfl ?_
  refine AW.istore_n (ls2 := [some (vR 21), some (vI 0), some (vI 0), none]) (pn := 9) F dX5_liveWeek_8 rfl rfl (by decide) rfl rfl ?_
  refine p5_liveWeek_L9_ok_21 F G (fun h13 y14 hb => ?_) _ _ _ _ hb
  refine AW.aload_n (pn := 55) F dX5_liveWeek_54 rfl rfl rfl ?_
  refine AW.dupR (pn := 56) F dX5_liveWeek_55 rfl ?_
  refine AW.getI (pn := 59) F dX5_liveWeek_56 rfl gl_X5_41 so_21 rfl ?_
  refine AW.iconst (pn := 60) F dX5_liveWeek_59 rfl ?_
  refine AW.iadd (pn := 61) F dX5_liveWeek_60 rfl ?_
  refine AW.putI (pn := 64) F dX5_liveWeek_61 rfl pl_X5_41 so_21 rfl hb (fun h15 hb => ?_)
  refine AW.iload_n (pn := 65) F dX5_liveWeek_64 rfl rfl rfl ?_
  exact AW.iret F G dX5_liveWeek_65 ⟨_, rfl, hb⟩

theorem p5_liveWeeks_L5_ok_21 {X : Cx} {x1 x2 : Int} {E48 : HP → Int → Int → Prop} {Q : Int → HP → Prop} (F : Fx X cX5_liveWeeks RX5 6 5) (G : Rx X (some .int) (QI Q)) (hE48 : ∀ (h : HP) (x3 : Int) (x4 : Int), E48 h x3 x4 → AW X 6 48 [some (vR 21), some (vI x1), none, some (vI x3), some (vI x4), none] [] h) : ∀ (n : Nat) (h : HP) (x3 : Int) (x4 : Int), p5_liveWeeks_L5 21 x1 x2 E48 Q n h x3 x4 → AW X 6 5 [some (vR 21), some (vI x1), some (vI x2), some (vI x3), some (vI x4), none] [] h := by
  intro n
  induction n with
  | zero => intro _ _ _ hb; exact hb.elim
  | succ n ih =>
    intro h x3 x4 hb
    unfold p5_liveWeeks_L5 at hb
    refine AW.iload (pn := 7) F dX5_liveWeeks_5 rfl rfl ?_
    refine AW.iload_n (pn := 8) F dX5_liveWeeks_7 rfl rfl rfl ?_
    refine AW.icmp_ge (pn := 11) (tg := 72) F dX5_liveWeeks_8 rfl (by decide) hb (fun hb => ?_) (fun hb => ?_)
    · refine AW.iload_n (pn := 73) F dX5_liveWeeks_72 rfl rfl rfl ?_
      exact AW.iret F G dX5_liveWeeks_73 ⟨_, rfl, hb⟩
    · refine AW.iload_n (pn := 12) F dX5_liveWeeks_11 rfl rfl rfl ?_
      refine jn_2 hb (fun (y6 : Int) (h7 : HP) => AW X 6 27 [some (vR 21), some (vI x1), some (vI x2), some (vI x3), some (vI x4), none] [vI y6] h7) (fun y6 h7 hb => ?_) (fun K8 hK8 hb => ?_)
      · refine AW.istore (ls2 := [some (vR 21), some (vI x1), some (vI x2), some (vI x3), some (vI x4), some (vI y6)]) (pn := 29) F dX5_liveWeeks_27 rfl (by decide) rfl rfl ?_
        refine AW.iload_n (pn := 30) F dX5_liveWeeks_29 rfl rfl rfl ?_
        refine AW.aload_n (pn := 31) F dX5_liveWeeks_30 rfl rfl rfl ?_
        refine AW.cVI (pn := 34) (st := [vI x3]) F dX5_liveWeeks_31 rfl cl_X5_120 so_21 (p5_liveWeek_21  hb) rfl rfl (Nat.le_of_ble_eq_true rfl) (by decide) (fun r9 h10 hb => ?_)
        refine AW.iadd (pn := 35) F dX5_liveWeeks_34 rfl ?_
        refine AW.istore_n (ls2 := [some (vR 21), some (vI x1), some (vI x2), some (vI (x3 + r9)), some (vI x4), some (vI y6)]) (pn := 36) F dX5_liveWeeks_35 rfl rfl (by decide) rfl rfl ?_
        refine AW.aload_n (pn := 37) F dX5_liveWeeks_36 rfl rfl rfl ?_
        refine AW.getI (pn := 40) F dX5_liveWeeks_37 rfl gl_X5_82 so_21 rfl ?_
        refine AW.if_ne (pn := 43) (tg := 66) F dX5_liveWeeks_40 rfl (by decide) hb (fun hb => ?_) (fun hb => ?_)
        · refine AW.iinc (ls2 := [some (vR 21), some (vI x1), some (vI x2), some (vI (x3 + r9)), some (vI (x4 + 1)), some (vI y6)]) (pn := 69) F dX5_liveWeeks_66 rfl rfl (by decide) rfl rfl ?_
          refine AW.goto (tg := 5) F dX5_liveWeeks_69 (by decide) ?_
          refine AW.drop [true, true, true, true, true, false] rfl ?_
          exact ih _ _ _ hb
        · refine AW.iload (pn := 45) F dX5_liveWeeks_43 rfl rfl ?_
          refine AW.if_ne (pn := 48) (tg := 66) F dX5_liveWeeks_45 rfl (by decide) hb (fun hb => ?_) (fun hb => ?_)
          · refine AW.iinc (ls2 := [some (vR 21), some (vI x1), some (vI x2), some (vI (x3 + r9)), some (vI (x4 + 1)), some (vI y6)]) (pn := 69) F dX5_liveWeeks_66 rfl rfl (by decide) rfl rfl ?_
            refine AW.goto (tg := 5) F dX5_liveWeeks_69 (by decide) ?_
            refine AW.drop [true, true, true, true, true, false] rfl ?_
            exact ih _ _ _ hb
          · refine AW.drop [true, true, false, true, true, false] rfl ?_
            exact hE48 _ _ _ hb
      refine jn_1 hb (fun (h11 : HP) => AW X 6 26 [some (vR 21), some (vI x1), some (vI x2), some (vI x3), some (vI x4), none] [] h11) (fun h11 hb => ?_) (fun K12 hK12 hb => ?_)
      · refine AW.iconst (pn := 27) F dX5_liveWeeks_26 rfl ?_
        exact hK8 _ _ hb
      refine AW.if_eq (pn := 15) (tg := 26) F dX5_liveWeeks_12 rfl (by decide) hb (fun hb => ?_) (fun hb => ?_)
      · exact hK12 _ hb
      · refine AW.aload_n (pn := 16) F dX5_liveWeeks_15 rfl rfl rfl ?_
        refine AW.cVI (pn := 19) (st := []) F dX5_liveWeeks_16 rfl cl_X5_116 so_21 (p5_comeByDraw_21  hb) rfl rfl (Nat.le_of_ble_eq_true rfl) (by decide) (fun r13 h14 hb => ?_)
        refine AW.if_eq (pn := 22) (tg := 26) F dX5_liveWeeks_19 rfl (by decide) hb (fun hb => ?_) (fun hb => ?_)
        · exact hK12 _ hb
        · refine AW.iconst (pn := 23) F dX5_liveWeeks_22 rfl ?_
          refine AW.goto (tg := 27) F dX5_liveWeeks_23 (by decide) ?_
          exact hK8 _ _ hb

theorem p5_liveWeeks_21 (x1 x2 : Int) {h : HP} {Q : Int → HP → Prop} (hb : p5_liveWeeks 21 x1 x2 h Q) : MT yX5_liveWeeks cX5_liveWeeks 6 (some .int) 5 [vR 21, vI x1, vI x2] h (QI Q) := by
  refine MT.of (own := RX5) (by decide) rfl (Nat.le_of_ble_eq_true rfl) rfl (fun X F G => ?_)
  unfold p5_liveWeeks at hb
  refine AW.iconst (pn := 1) F dX5_liveWeeks_0 rfl ?_
  refine AW.istore_n (ls2 := [some (vR 21), some (vI x1), some (vI x2), some (vI 0), none, none]) (pn := 2) F dX5_liveWeeks_1 rfl rfl (by decide) rfl rfl ?_
  refine AW.iconst (pn := 3) F dX5_liveWeeks_2 rfl ?_
  refine AW.istore (ls2 := [some (vR 21), some (vI x1), some (vI x2), some (vI 0), some (vI 0), none]) (pn := 5) F dX5_liveWeeks_3 rfl (by decide) rfl rfl ?_
  refine p5_liveWeeks_L5_ok_21 F G (fun h15 y16 y17 hb => ?_) _ _ _ _ hb
  refine AW.aload_n (pn := 49) F dX5_liveWeeks_48 rfl rfl rfl ?_
  refine AW.dupR (pn := 50) F dX5_liveWeeks_49 rfl ?_
  refine AW.getI (pn := 53) F dX5_liveWeeks_50 rfl gl_X5_41 so_21 rfl ?_
  refine AW.iload_n (pn := 54) F dX5_liveWeeks_53 rfl rfl rfl ?_
  refine AW.iconst (pn := 55) F dX5_liveWeeks_54 rfl ?_
  refine AW.isub (pn := 56) F dX5_liveWeeks_55 rfl ?_
  refine AW.iload (pn := 58) F dX5_liveWeeks_56 rfl rfl ?_
  refine AW.isub (pn := 59) F dX5_liveWeeks_58 rfl ?_
  refine AW.iadd (pn := 60) F dX5_liveWeeks_59 rfl ?_
  refine AW.putI (pn := 63) F dX5_liveWeeks_60 rfl pl_X5_41 so_21 rfl hb (fun h18 hb => ?_)
  refine AW.goto (tg := 72) F dX5_liveWeeks_63 (by decide) ?_
  refine AW.iload_n (pn := 73) F dX5_liveWeeks_72 rfl rfl rfl ?_
  exact AW.iret F G dX5_liveWeeks_73 ⟨_, rfl, hb⟩

theorem p5_wealthOf_L4_ok_21 {X : Cx} {x1 : Int} {h : HP} {Q : Int → Prop} (F : Fx X cX5_wealthOf RX5 4 2) (G : Rx X (some .int) (QP h Q))  : ∀ (n : Nat) (x2 : Int) (x3 : Int), p5_wealthOf_L4 21 x1 h Q n x2 x3 → AW X 4 4 [some (vR 21), some (vI x1), some (vI x2), some (vI x3)] [] h := by
  intro n
  induction n with
  | zero => intro _ _ hb; exact hb.elim
  | succ n ih =>
    intro x2 x3 hb
    unfold p5_wealthOf_L4 at hb
    refine AW.iload_n (pn := 5) F dX5_wealthOf_4 rfl rfl rfl ?_
    refine AW.aload_n (pn := 6) F dX5_wealthOf_5 rfl rfl rfl ?_
    refine AW.getR (r := 2) (pn := 9) F dX5_wealthOf_6 rfl gl_X5_33 so_21 rfl ?_
    refine AW.getI (pn := 12) F dX5_wealthOf_9 rfl gl_X5_98 so_2 rfl ?_
    refine AW.icmp_ge (pn := 15) (tg := 47) F dX5_wealthOf_12 rfl (by decide) hb (fun hb => ?_) (fun hb => ?_)
    · refine AW.iload_n (pn := 48) F dX5_wealthOf_47 rfl rfl rfl ?_
      exact AW.iret F G dX5_wealthOf_48 ⟨rfl, _, rfl, hb⟩
    · refine AW.aload_n (pn := 16) F dX5_wealthOf_15 rfl rfl rfl ?_
      refine AW.getR (r := 28) (pn := 19) F dX5_wealthOf_16 rfl gl_X5_30 so_21 rfl ?_
      refine AW.iload_n (pn := 20) F dX5_wealthOf_19 rfl rfl rfl ?_
      refine AW.bipush (pn := 22) F dX5_wealthOf_20 rfl (by decide) ?_
      refine AW.imul (pn := 23) F dX5_wealthOf_22 rfl ?_
      refine AW.iload_n (pn := 24) F dX5_wealthOf_23 rfl rfl rfl ?_
      refine AW.iadd (pn := 25) F dX5_wealthOf_24 rfl ?_
      refine AW.iald (pn := 26) F dX5_wealthOf_25 rfl so_28 hb (fun v1 hb => ?_)
      refine AW.if_le (pn := 29) (tg := 41) F dX5_wealthOf_26 rfl (by decide) hb (fun hb => ?_) (fun hb => ?_)
      · refine AW.iinc (ls2 := [some (vR 21), some (vI x1), some (vI x2), some (vI (x3 + 1))]) (pn := 44) F dX5_wealthOf_41 rfl rfl (by decide) rfl rfl ?_
        refine AW.goto (tg := 4) F dX5_wealthOf_44 (by decide) ?_
        exact ih _ _ hb
      · refine AW.iload_n (pn := 30) F dX5_wealthOf_29 rfl rfl rfl ?_
        refine AW.aload_n (pn := 31) F dX5_wealthOf_30 rfl rfl rfl ?_
        refine AW.getR (r := 2) (pn := 34) F dX5_wealthOf_31 rfl gl_X5_33 so_21 rfl ?_
        refine AW.iload_n (pn := 35) F dX5_wealthOf_34 rfl rfl rfl ?_
        refine AW.iload_n (pn := 36) F dX5_wealthOf_35 rfl rfl rfl ?_
        refine AW.cVP (pn := 39) (st := [vI x2]) F dX5_wealthOf_36 rfl cl_X5_88 so_2 (p4_worthOf_2 x1 x3 hb) rfl rfl (Nat.le_of_ble_eq_true rfl) (by decide) (fun r2 hb => ?_)
        refine AW.iadd (pn := 40) F dX5_wealthOf_39 rfl ?_
        refine AW.istore_n (ls2 := [some (vR 21), some (vI x1), some (vI (x2 + r2)), some (vI x3)]) (pn := 41) F dX5_wealthOf_40 rfl rfl (by decide) rfl rfl ?_
        refine AW.iinc (ls2 := [some (vR 21), some (vI x1), some (vI (x2 + r2)), some (vI (x3 + 1))]) (pn := 44) F dX5_wealthOf_41 rfl rfl (by decide) rfl rfl ?_
        refine AW.goto (tg := 4) F dX5_wealthOf_44 (by decide) ?_
        exact ih _ _ hb

theorem p5_wealthOf_21 (x1 : Int) {h : HP} {Q : Int → Prop} (hb : p5_wealthOf 21 x1 h Q) : MT yX5_wealthOf cX5_wealthOf 4 (some .int) 2 [vR 21, vI x1] h (QP h Q) := by
  refine MT.of (own := RX5) (by decide) rfl (Nat.le_of_ble_eq_true rfl) rfl (fun X F G => ?_)
  unfold p5_wealthOf at hb
  refine AW.iconst (pn := 1) F dX5_wealthOf_0 rfl ?_
  refine AW.istore_n (ls2 := [some (vR 21), some (vI x1), some (vI 0), none]) (pn := 2) F dX5_wealthOf_1 rfl rfl (by decide) rfl rfl ?_
  refine AW.iconst (pn := 3) F dX5_wealthOf_2 rfl ?_
  refine AW.istore_n (ls2 := [some (vR 21), some (vI x1), some (vI 0), some (vI 0)]) (pn := 4) F dX5_wealthOf_3 rfl rfl (by decide) rfl rfl ?_
  refine p5_wealthOf_L4_ok_21 F G  _ _ _ hb

theorem p7_tryWithout_L23_ok_0 {X : Cx} {Q : HP → Prop} (F : Fx X cX7_tryWithout RX7 3 6) (G : Rx X none (QV Q))  : ∀ (n : Nat) (h : HP) (x2 : Int), p7_tryWithout_L23 Q n h x2 → AW X 3 23 [some (vR 0), none, some (vI x2)] [] h := by
  intro n
  induction n with
  | zero => intro _ _ hb; exact hb.elim
  | succ n ih =>
    intro h x2 hb
    unfold p7_tryWithout_L23 at hb
    refine AW.iload_n (pn := 24) F dX7_tryWithout_23 rfl rfl rfl ?_
    refine AW.aload_n (pn := 25) F dX7_tryWithout_24 rfl rfl rfl ?_
    refine AW.getR (r := 2) (pn := 28) F dX7_tryWithout_25 rfl gl_X7_20 so_0 rfl ?_
    refine AW.getI (pn := 31) F dX7_tryWithout_28 rfl gl_X7_120 so_2 rfl ?_
    refine AW.icmp_ge (pn := 34) (tg := 54) F dX7_tryWithout_31 rfl (by decide) hb (fun hb => ?_) (fun hb => ?_)
    · exact AW.vret F G dX7_tryWithout_54 ⟨rfl, hb⟩
    · refine AW.aload_n (pn := 35) F dX7_tryWithout_34 rfl rfl rfl ?_
      refine AW.getR (r := 68) (pn := 38) F dX7_tryWithout_35 rfl gl_X7_86 so_0 rfl ?_
      refine AW.iload_n (pn := 39) F dX7_tryWithout_38 rfl rfl rfl ?_
      refine AW.aload_n (pn := 40) F dX7_tryWithout_39 rfl rfl rfl ?_
      refine AW.getR (r := 21) (pn := 43) F dX7_tryWithout_40 rfl gl_X7_45 so_0 rfl ?_
      refine AW.iload_n (pn := 44) F dX7_tryWithout_43 rfl rfl rfl ?_
      refine AW.cVP (pn := 47) (st := [vI x2, vR 68]) F dX7_tryWithout_44 rfl cl_X7_143 so_21 (p5_wealthOf_21 x2 hb) rfl rfl (Nat.le_of_ble_eq_true rfl) (by decide) (fun r4 hb => ?_)
      refine AW.iast (pn := 48) F dX7_tryWithout_47 rfl so_68 hb (fun h5 hb => ?_)
      refine AW.iinc (ls2 := [some (vR 0), none, some (vI (x2 + 1))]) (pn := 51) F dX7_tryWithout_48 rfl rfl (by decide) rfl rfl ?_
      refine AW.goto (tg := 23) F dX7_tryWithout_51 (by decide) ?_
      exact ih _ _ hb

theorem p7_tryWithout_0 (x1 : Int) {h : HP} {Q : HP → Prop} (hb : p7_tryWithout x1 h Q) : MT yX7_tryWithout cX7_tryWithout 3 none 6 [vR 0, vI x1] h (QV Q) := by
  refine MT.of (own := RX7) (by decide) rfl (Nat.le_of_ble_eq_true rfl) rfl (fun X F G => ?_)
  unfold p7_tryWithout at hb
  refine AW.aload_n (pn := 1) F dX7_tryWithout_0 rfl rfl rfl ?_
  refine AW.getR (r := 21) (pn := 4) F dX7_tryWithout_1 rfl gl_X7_45 so_0 rfl ?_
  refine AW.aload_n (pn := 5) F dX7_tryWithout_4 rfl rfl rfl ?_
  refine AW.getR (r := 13) (pn := 8) F dX7_tryWithout_5 rfl gl_X7_41 so_0 rfl ?_
  refine AW.cVV (pn := 11) (st := []) F dX7_tryWithout_8 rfl cl_X7_206 so_21 (p5_copyFrom_21_13  hb) rfl rfl (Nat.le_of_ble_eq_true rfl) (by decide) (fun h1 hb => ?_)
  refine AW.aload_n (pn := 12) F dX7_tryWithout_11 rfl rfl rfl ?_
  refine AW.getR (r := 21) (pn := 15) F dX7_tryWithout_12 rfl gl_X7_45 so_0 rfl ?_
  refine AW.iload_n (pn := 16) F dX7_tryWithout_15 rfl rfl rfl ?_
  refine AW.iconst (pn := 17) F dX7_tryWithout_16 rfl ?_
  refine AW.cVI (pn := 20) (st := []) F dX7_tryWithout_17 rfl cl_X7_195 so_21 (p5_liveWeeks_21 x1 0 hb) rfl rfl (Nat.le_of_ble_eq_true rfl) (by decide) (fun r2 h3 hb => ?_)
  refine AW.popI (pn := 21) F dX7_tryWithout_20 rfl ?_
  refine AW.iconst (pn := 22) F dX7_tryWithout_21 rfl ?_
  refine AW.istore_n (ls2 := [some (vR 0), some (vI x1), some (vI 0)]) (pn := 23) F dX7_tryWithout_22 rfl rfl (by decide) rfl rfl ?_
  refine AW.drop [true, false, true] rfl ?_
  refine p7_tryWithout_L23_ok_0 F G  _ _ _ hb

theorem p7_down_L101_ok_0 {X : Cx} {x3 : Int} {h : HP} {Q : Int → HP → Prop} (F : Fx X cX7_down RX7 6 7) (G : Rx X (some .int) (QI Q))  : ∀ (n : Nat) (x4 : Int) (x5 : Int), p7_down_L101 x3 h Q n x4 x5 → AW X 6 101 [some (vR 0), none, none, some (vI x3), some (vI x4), some (vI x5)] [] h := by
  intro n
  induction n with
  | zero => intro _ _ hb; exact hb.elim
  | succ n ih =>
    intro x4 x5 hb
    unfold p7_down_L101 at hb
    refine AW.iload (pn := 103) F dX7_down_101 rfl rfl ?_
    refine AW.aload_n (pn := 104) F dX7_down_103 rfl rfl rfl ?_
    refine AW.getR (r := 2) (pn := 107) F dX7_down_104 rfl gl_X7_20 so_0 rfl ?_
    refine AW.getI (pn := 110) F dX7_down_107 rfl gl_X7_120 so_2 rfl ?_
    refine AW.icmp_ge (pn := 113) (tg := 152) F dX7_down_110 rfl (by decide) hb (fun hb => ?_) (fun hb => ?_)
    · refine AW.iload (pn := 154) F dX7_down_152 rfl rfl ?_
      exact AW.iret F G dX7_down_154 ⟨_, rfl, hb⟩
    · refine AW.iload_n (pn := 114) F dX7_down_113 rfl rfl rfl ?_
      refine AW.iconst (pn := 115) F dX7_down_114 rfl ?_
      refine jn_0 hb (AW X 6 124 [some (vR 0), none, none, some (vI x3), some (vI x4), some (vI x5)] [] h) (fun  hb => ?_) (fun K10 hK10 hb => ?_)
      · refine AW.iload (pn := 126) F dX7_down_124 rfl rfl ?_
        refine AW.aload_n (pn := 127) F dX7_down_126 rfl rfl rfl ?_
        refine AW.getR (r := 21) (pn := 130) F dX7_down_127 rfl gl_X7_45 so_0 rfl ?_
        refine AW.iload (pn := 132) F dX7_down_130 rfl rfl ?_
        refine AW.cVP (pn := 135) (st := [vI x4]) F dX7_down_132 rfl cl_X7_143 so_21 (p5_wealthOf_21 x5 hb) rfl rfl (Nat.le_of_ble_eq_true rfl) (by decide) (fun r11 hb => ?_)
        refine AW.aload_n (pn := 136) F dX7_down_135 rfl rfl rfl ?_
        refine AW.getR (r := 68) (pn := 139) F dX7_down_136 rfl gl_X7_86 so_0 rfl ?_
        refine AW.iload (pn := 141) F dX7_down_139 rfl rfl ?_
        refine AW.iald (pn := 142) F dX7_down_141 rfl so_68 hb (fun v12 hb => ?_)
        refine AW.isub (pn := 143) F dX7_down_142 rfl ?_
        refine AW.iadd (pn := 144) F dX7_down_143 rfl ?_
        refine AW.istore (ls2 := [some (vR 0), none, none, some (vI x3), some (vI (x4 + (r11 - v12))), some (vI x5)]) (pn := 146) F dX7_down_144 rfl (by decide) rfl rfl ?_
        refine AW.iinc (ls2 := [some (vR 0), none, none, some (vI x3), some (vI (x4 + (r11 - v12))), some (vI (x5 + 1))]) (pn := 149) F dX7_down_146 rfl rfl (by decide) rfl rfl ?_
        refine AW.goto (tg := 101) F dX7_down_149 (by decide) ?_
        exact ih _ _ hb
      refine AW.icmp_eq (pn := 118) (tg := 124) F dX7_down_115 rfl (by decide) hb (fun hb => ?_) (fun hb => ?_)
      · exact hK10 hb
      · refine AW.iload_n (pn := 119) F dX7_down_118 rfl rfl rfl ?_
        refine AW.iload (pn := 121) F dX7_down_119 rfl rfl ?_
        refine AW.icmp_ne (pn := 124) (tg := 146) F dX7_down_121 rfl (by decide) hb (fun hb => ?_) (fun hb => ?_)
        · refine AW.iinc (ls2 := [some (vR 0), none, none, some (vI x3), some (vI x4), some (vI (x5 + 1))]) (pn := 149) F dX7_down_146 rfl rfl (by decide) rfl rfl ?_
          refine AW.goto (tg := 101) F dX7_down_149 (by decide) ?_
          exact ih _ _ hb
        · exact hK10 hb

theorem p7_down_0 (x1 x2 x3 : Int) {h : HP} {Q : Int → HP → Prop} (hb : p7_down x1 x2 x3 h Q) : MT yX7_down cX7_down 6 (some .int) 7 [vR 0, vI x1, vI x2, vI x3] h (QI Q) := by
  refine MT.of (own := RX7) (by decide) rfl (Nat.le_of_ble_eq_true rfl) rfl (fun X F G => ?_)
  unfold p7_down at hb
  refine AW.aload_n (pn := 1) F dX7_down_0 rfl rfl rfl ?_
  refine AW.getR (r := 2) (pn := 4) F dX7_down_1 rfl gl_X7_20 so_0 rfl ?_
  refine AW.iload_n (pn := 5) F dX7_down_4 rfl rfl rfl ?_
  refine AW.cVP (pn := 8) (st := []) F dX7_down_5 rfl cl_X7_153 so_2 (p4_isSort_2 x1 hb) rfl rfl (Nat.le_of_ble_eq_true rfl) (by decide) (fun r1 hb => ?_)
  refine AW.if_eq (pn := 11) (tg := 27) F dX7_down_8 rfl (by decide) hb (fun hb => ?_) (fun hb => ?_)
  · refine AW.ldc (x := (-1000000001)) (pn := 29) F dX7_down_27 rfl tw_493 (by decide) ?_
    exact AW.iret F G dX7_down_29 ⟨_, rfl, hb⟩
  · refine AW.iload_n (pn := 12) F dX7_down_11 rfl rfl rfl ?_
    refine AW.iconst (pn := 13) F dX7_down_12 rfl ?_
    refine jn_0 hb (AW X 6 30 [some (vR 0), some (vI x1), some (vI x2), some (vI x3), none, none] [] h) (fun  hb => ?_) (fun K3 hK3 hb => ?_)
    · refine AW.iload_n (pn := 31) F dX7_down_30 rfl rfl rfl ?_
      refine AW.iconst (pn := 32) F dX7_down_31 rfl ?_
      refine AW.icmp_lt (pn := 35) (tg := 41) F dX7_down_32 rfl (by decide) hb (fun hb => ?_) (fun hb => ?_)
      · refine AW.ldc (x := (-1000000002)) (pn := 43) F dX7_down_41 rfl tw_329 (by decide) ?_
        exact AW.iret F G dX7_down_43 ⟨_, rfl, hb⟩
      · refine AW.iload_n (pn := 36) F dX7_down_35 rfl rfl rfl ?_
        refine AW.bipush (pn := 38) F dX7_down_36 rfl (by decide) ?_
        refine AW.icmp_le (pn := 41) (tg := 44) F dX7_down_38 rfl (by decide) hb (fun hb => ?_) (fun hb => ?_)
        · refine AW.aload_n (pn := 45) F dX7_down_44 rfl rfl rfl ?_
          refine AW.getR (r := 13) (pn := 48) F dX7_down_45 rfl gl_X7_41 so_0 rfl ?_
          refine AW.getI (pn := 51) F dX7_down_48 rfl gl_X7_114 so_13 rfl ?_
          refine AW.bipush (pn := 53) F dX7_down_51 rfl (by decide) ?_
          refine AW.icmp_lt (pn := 56) (tg := 59) F dX7_down_53 rfl (by decide) hb (fun hb => ?_) (fun hb => ?_)
          · refine AW.aload_n (pn := 60) F dX7_down_59 rfl rfl rfl ?_
            refine AW.iload_n (pn := 61) F dX7_down_60 rfl rfl rfl ?_
            refine AW.cVV (pn := 64) (st := []) F dX7_down_61 rfl cl_X7_202 so_0 (p7_tryWithout_0 x2 hb) rfl rfl (Nat.le_of_ble_eq_true rfl) (by decide) (fun h4 hb => ?_)
            refine AW.aload_n (pn := 65) F dX7_down_64 rfl rfl rfl ?_
            refine AW.getR (r := 21) (pn := 68) F dX7_down_65 rfl gl_X7_45 so_0 rfl ?_
            refine AW.aload_n (pn := 69) F dX7_down_68 rfl rfl rfl ?_
            refine AW.getR (r := 13) (pn := 72) F dX7_down_69 rfl gl_X7_41 so_0 rfl ?_
            refine AW.cVV (pn := 75) (st := []) F dX7_down_72 rfl cl_X7_206 so_21 (p5_copyFrom_21_13  hb) rfl rfl (Nat.le_of_ble_eq_true rfl) (by decide) (fun h5 hb => ?_)
            refine AW.aload_n (pn := 76) F dX7_down_75 rfl rfl rfl ?_
            refine AW.getR (r := 21) (pn := 79) F dX7_down_76 rfl gl_X7_45 so_0 rfl ?_
            refine AW.iload_n (pn := 80) F dX7_down_79 rfl rfl rfl ?_
            refine AW.iconst (pn := 81) F dX7_down_80 rfl ?_
            refine AW.cVI (pn := 84) (st := []) F dX7_down_81 rfl cl_X7_186 so_21 (p5_addPart_21 x1 (-1) hb) rfl rfl (Nat.le_of_ble_eq_true rfl) (by decide) (fun r6 h7 hb => ?_)
            refine AW.popI (pn := 85) F dX7_down_84 rfl ?_
            refine AW.aload_n (pn := 86) F dX7_down_85 rfl rfl rfl ?_
            refine AW.getR (r := 21) (pn := 89) F dX7_down_86 rfl gl_X7_45 so_0 rfl ?_
            refine AW.iload_n (pn := 90) F dX7_down_89 rfl rfl rfl ?_
            refine AW.iconst (pn := 91) F dX7_down_90 rfl ?_
            refine AW.cVI (pn := 94) (st := []) F dX7_down_91 rfl cl_X7_195 so_21 (p5_liveWeeks_21 x2 0 hb) rfl rfl (Nat.le_of_ble_eq_true rfl) (by decide) (fun r8 h9 hb => ?_)
            refine AW.popI (pn := 95) F dX7_down_94 rfl ?_
            refine AW.iconst (pn := 96) F dX7_down_95 rfl ?_
            refine AW.istore (ls2 := [some (vR 0), some (vI x1), some (vI x2), some (vI x3), some (vI 0), none]) (pn := 98) F dX7_down_96 rfl (by decide) rfl rfl ?_
            refine AW.iconst (pn := 99) F dX7_down_98 rfl ?_
            refine AW.istore (ls2 := [some (vR 0), some (vI x1), some (vI x2), some (vI x3), some (vI 0), some (vI 0)]) (pn := 101) F dX7_down_99 rfl (by decide) rfl rfl ?_
            refine AW.drop [true, false, false, true, true, true] rfl ?_
            refine p7_down_L101_ok_0 F G  _ _ _ hb
          · refine AW.ldc (x := (-1000000004)) (pn := 58) F dX7_down_56 rfl tw_330 (by decide) ?_
            exact AW.iret F G dX7_down_58 ⟨_, rfl, hb⟩
        · refine AW.ldc (x := (-1000000002)) (pn := 43) F dX7_down_41 rfl tw_329 (by decide) ?_
          exact AW.iret F G dX7_down_43 ⟨_, rfl, hb⟩
    refine AW.icmp_eq (pn := 16) (tg := 30) F dX7_down_13 rfl (by decide) hb (fun hb => ?_) (fun hb => ?_)
    · exact hK3 hb
    · refine AW.aload_n (pn := 17) F dX7_down_16 rfl rfl rfl ?_
      refine AW.getR (r := 2) (pn := 20) F dX7_down_17 rfl gl_X7_20 so_0 rfl ?_
      refine AW.iload_n (pn := 21) F dX7_down_20 rfl rfl rfl ?_
      refine AW.cVP (pn := 24) (st := []) F dX7_down_21 rfl cl_X7_133 so_2 (p4_isHouse_2 x3 hb) rfl rfl (Nat.le_of_ble_eq_true rfl) (by decide) (fun r13 hb => ?_)
      refine AW.if_ne (pn := 27) (tg := 30) F dX7_down_24 rfl (by decide) hb (fun hb => ?_) (fun hb => ?_)
      · exact hK3 hb
      · refine AW.ldc (x := (-1000000001)) (pn := 29) F dX7_down_27 rfl tw_493 (by decide) ?_
        exact AW.iret F G dX7_down_29 ⟨_, rfl, hb⟩

theorem p1_enqueue_51 (x1 x2 : Int) {h : HP} {Q : HP → Prop} (hb : p1_enqueue x1 x2 h Q) : MT yX1_enqueue cX1_enqueue 3 none 1 [vR 51, vI x1, vI x2] h (QV Q) := by
  refine MT.of (own := RX1) (by decide) rfl (Nat.le_of_ble_eq_true rfl) rfl (fun X F G => ?_)
  unfold p1_enqueue at hb
  refine AW.aload_n (pn := 1) F dX1_enqueue_0 rfl rfl rfl ?_
  refine AW.getI (pn := 4) F dX1_enqueue_1 rfl gl_X1_25 so_51 rfl ?_
  refine AW.bipush (pn := 6) F dX1_enqueue_4 rfl (by decide) ?_
  refine AW.icmp_ge (pn := 9) (tg := 36) F dX1_enqueue_6 rfl (by decide) hb (fun hb => ?_) (fun hb => ?_)
  · exact AW.vret F G dX1_enqueue_36 ⟨rfl, hb⟩
  · refine AW.aload_n (pn := 10) F dX1_enqueue_9 rfl rfl rfl ?_
    refine AW.getR (r := 52) (pn := 13) F dX1_enqueue_10 rfl gl_X1_9 so_51 rfl ?_
    refine AW.iload_n (pn := 14) F dX1_enqueue_13 rfl rfl rfl ?_
    refine AW.iload_n (pn := 15) F dX1_enqueue_14 rfl rfl rfl ?_
    refine AW.iast (pn := 16) F dX1_enqueue_15 rfl so_52 hb (fun h1 hb => ?_)
    refine AW.aload_n (pn := 17) F dX1_enqueue_16 rfl rfl rfl ?_
    refine AW.getR (r := 53) (pn := 20) F dX1_enqueue_17 rfl gl_X1_15 so_51 rfl ?_
    refine AW.aload_n (pn := 21) F dX1_enqueue_20 rfl rfl rfl ?_
    refine AW.getI (pn := 24) F dX1_enqueue_21 rfl gl_X1_25 so_51 rfl ?_
    refine AW.iload_n (pn := 25) F dX1_enqueue_24 rfl rfl rfl ?_
    refine AW.iast (pn := 26) F dX1_enqueue_25 rfl so_53 hb (fun h2 hb => ?_)
    refine AW.aload_n (pn := 27) F dX1_enqueue_26 rfl rfl rfl ?_
    refine AW.dupR (pn := 28) F dX1_enqueue_27 rfl ?_
    refine AW.getI (pn := 31) F dX1_enqueue_28 rfl gl_X1_25 so_51 rfl ?_
    refine AW.iconst (pn := 32) F dX1_enqueue_31 rfl ?_
    refine AW.iadd (pn := 33) F dX1_enqueue_32 rfl ?_
    refine AW.putI (pn := 36) F dX1_enqueue_33 rfl pl_X1_25 so_51 rfl hb (fun h3 hb => ?_)
    exact AW.vret F G dX1_enqueue_36 ⟨rfl, hb⟩

theorem p1_queueLying_L7_ok_51 {X : Cx} {Q : HP → Prop} (F : Fx X cX1_queueLying RX1 2 2) (G : Rx X none (QV Q))  : ∀ (n : Nat) (h : HP) (x1 : Int), p1_queueLying_L7 Q n h x1 → AW X 2 7 [some (vR 51), some (vI x1)] [] h := by
  intro n
  induction n with
  | zero => intro _ _ hb; exact hb.elim
  | succ n ih =>
    intro h x1 hb
    unfold p1_queueLying_L7 at hb
    refine AW.iload_n (pn := 8) F dX1_queueLying_7 rfl rfl rfl ?_
    refine AW.aload_n (pn := 9) F dX1_queueLying_8 rfl rfl rfl ?_
    refine AW.getR (r := 13) (pn := 12) F dX1_queueLying_9 rfl gl_X1_18 so_51 rfl ?_
    refine AW.getI (pn := 15) F dX1_queueLying_12 rfl gl_X1_41 so_13 rfl ?_
    refine AW.icmp_ge (pn := 18) (tg := 48) F dX1_queueLying_15 rfl (by decide) hb (fun hb => ?_) (fun hb => ?_)
    · exact AW.vret F G dX1_queueLying_48 ⟨rfl, hb⟩
    · refine AW.aload_n (pn := 19) F dX1_queueLying_18 rfl rfl rfl ?_
      refine AW.getR (r := 52) (pn := 22) F dX1_queueLying_19 rfl gl_X1_9 so_51 rfl ?_
      refine AW.iload_n (pn := 23) F dX1_queueLying_22 rfl rfl rfl ?_
      refine AW.iconst (pn := 24) F dX1_queueLying_23 rfl ?_
      refine AW.iast (pn := 25) F dX1_queueLying_24 rfl so_52 hb (fun h2 hb => ?_)
      refine AW.aload_n (pn := 26) F dX1_queueLying_25 rfl rfl rfl ?_
      refine AW.getR (r := 13) (pn := 29) F dX1_queueLying_26 rfl gl_X1_18 so_51 rfl ?_
      refine AW.iload_n (pn := 30) F dX1_queueLying_29 rfl rfl rfl ?_
      refine AW.cVP (pn := 33) (st := []) F dX1_queueLying_30 rfl cl_X1_44 so_13 (p5_lies_13 x1 hb) rfl rfl (Nat.le_of_ble_eq_true rfl) (by decide) (fun r3 hb => ?_)
      refine AW.if_eq (pn := 36) (tg := 42) F dX1_queueLying_33 rfl (by decide) hb (fun hb => ?_) (fun hb => ?_)
      · refine AW.iinc (ls2 := [some (vR 51), some (vI (x1 + 1))]) (pn := 45) F dX1_queueLying_42 rfl rfl (by decide) rfl rfl ?_
        refine AW.goto (tg := 7) F dX1_queueLying_45 (by decide) ?_
        exact ih _ _ hb
      · refine AW.aload_n (pn := 37) F dX1_queueLying_36 rfl rfl rfl ?_
        refine AW.iload_n (pn := 38) F dX1_queueLying_37 rfl rfl rfl ?_
        refine AW.iconst (pn := 39) F dX1_queueLying_38 rfl ?_
        refine AW.cVV (pn := 42) (st := []) F dX1_queueLying_39 rfl cl_X1_48 so_51 (p1_enqueue_51 x1 0 hb) rfl rfl (Nat.le_of_ble_eq_true rfl) (by decide) (fun h4 hb => ?_)
        refine AW.iinc (ls2 := [some (vR 51), some (vI (x1 + 1))]) (pn := 45) F dX1_queueLying_42 rfl rfl (by decide) rfl rfl ?_
        refine AW.goto (tg := 7) F dX1_queueLying_45 (by decide) ?_
        exact ih _ _ hb

theorem p1_queueLying_51  {h : HP} {Q : HP → Prop} (hb : p1_queueLying  h Q) : MT yX1_queueLying cX1_queueLying 2 none 2 [vR 51] h (QV Q) := by
  refine MT.of (own := RX1) (by decide) rfl (Nat.le_of_ble_eq_true rfl) rfl (fun X F G => ?_)
  unfold p1_queueLying at hb
  refine AW.aload_n (pn := 1) F dX1_queueLying_0 rfl rfl rfl ?_
  refine AW.iconst (pn := 2) F dX1_queueLying_1 rfl ?_
  refine AW.putI (pn := 5) F dX1_queueLying_2 rfl pl_X1_25 so_51 rfl hb (fun h1 hb => ?_)
  refine AW.iconst (pn := 6) F dX1_queueLying_5 rfl ?_
  refine AW.istore_n (ls2 := [some (vR 51), some (vI 0)]) (pn := 7) F dX1_queueLying_6 rfl rfl (by decide) rfl rfl ?_
  refine p1_queueLying_L7_ok_51 F G  _ _ _ hb

theorem p5_betterBy_13 (x1 x2 x3 : Int) {h : HP} {Q : Int → Prop} (hb : p5_betterBy 13 x1 x2 x3 h Q) : MT yX5_betterBy cX5_betterBy 4 (some .int) 3 [vR 13, vI x1, vI x2, vI x3] h (QP h Q) := by
  refine MT.of (own := RX5) (by decide) rfl (Nat.le_of_ble_eq_true rfl) rfl (fun X F G => ?_)
  unfold p5_betterBy at hb
  refine AW.aload_n (pn := 1) F dX5_betterBy_0 rfl rfl rfl ?_
  refine AW.getR (r := 14) (pn := 4) F dX5_betterBy_1 rfl gl_X5_9 so_13 rfl ?_
  refine AW.iload_n (pn := 5) F dX5_betterBy_4 rfl rfl rfl ?_
  refine AW.iald (pn := 6) F dX5_betterBy_5 rfl so_14 hb (fun v1 hb => ?_)
  refine AW.aload_n (pn := 7) F dX5_betterBy_6 rfl rfl rfl ?_
  refine AW.getR (r := 14) (pn := 10) F dX5_betterBy_7 rfl gl_X5_9 so_13 rfl ?_
  refine AW.iload_n (pn := 11) F dX5_betterBy_10 rfl rfl rfl ?_
  refine AW.iald (pn := 12) F dX5_betterBy_11 rfl so_14 hb (fun v2 hb => ?_)
  refine AW.icmp_ne (pn := 15) (tg := 19) F dX5_betterBy_12 rfl (by decide) hb (fun hb => ?_) (fun hb => ?_)
  · refine AW.aload_n (pn := 20) F dX5_betterBy_19 rfl rfl rfl ?_
    refine AW.iload_n (pn := 21) F dX5_betterBy_20 rfl rfl rfl ?_
    refine AW.aload_n (pn := 22) F dX5_betterBy_21 rfl rfl rfl ?_
    refine AW.getR (r := 14) (pn := 25) F dX5_betterBy_22 rfl gl_X5_9 so_13 rfl ?_
    refine AW.iload_n (pn := 26) F dX5_betterBy_25 rfl rfl rfl ?_
    refine AW.iald (pn := 27) F dX5_betterBy_26 rfl so_14 hb (fun v3 hb => ?_)
    refine AW.cVP (pn := 30) (st := []) F dX5_betterBy_27 rfl cl_X5_92 so_13 (p5_gainOf_13 x1 v3 hb) rfl rfl (Nat.le_of_ble_eq_true rfl) (by decide) (fun r4 hb => ?_)
    refine AW.aload_n (pn := 31) F dX5_betterBy_30 rfl rfl rfl ?_
    refine AW.iload_n (pn := 32) F dX5_betterBy_31 rfl rfl rfl ?_
    refine AW.aload_n (pn := 33) F dX5_betterBy_32 rfl rfl rfl ?_
    refine AW.getR (r := 14) (pn := 36) F dX5_betterBy_33 rfl gl_X5_9 so_13 rfl ?_
    refine AW.iload_n (pn := 37) F dX5_betterBy_36 rfl rfl rfl ?_
    refine AW.iald (pn := 38) F dX5_betterBy_37 rfl so_14 hb (fun v5 hb => ?_)
    refine AW.cVP (pn := 41) (st := [vI r4]) F dX5_betterBy_38 rfl cl_X5_95 so_13 (p5_lossOf_13 x1 v5 hb) rfl rfl (Nat.le_of_ble_eq_true rfl) (by decide) (fun r6 hb => ?_)
    refine AW.isub (pn := 42) F dX5_betterBy_41 rfl ?_
    exact AW.iret F G dX5_betterBy_42 ⟨rfl, _, rfl, hb⟩
  · refine AW.iconst (pn := 16) F dX5_betterBy_15 rfl ?_
    refine AW.goto (tg := 42) F dX5_betterBy_16 (by decide) ?_
    exact AW.iret F G dX5_betterBy_42 ⟨rfl, _, rfl, hb⟩

theorem p1_swapAgainst_L36_ok_51 {X : Cx} {x1 x2 x3 : Int} {Q : HP → Prop} (F : Fx X cX1_swapAgainst RX1 7 4) (G : Rx X none (QV Q))  : ∀ (n : Nat) (h : HP) (x4 : Int), p1_swapAgainst_L36 x1 x2 x3 Q n h x4 → AW X 7 36 [some (vR 51), some (vI x1), some (vI x2), some (vI x3), some (vI x4), none, none] [] h := by
  intro n
  induction n with
  | zero => intro _ _ hb; exact hb.elim
  | succ n ih =>
    intro h x4 hb
    unfold p1_swapAgainst_L36 at hb
    refine AW.iload (pn := 38) F dX1_swapAgainst_36 rfl rfl ?_
    refine AW.aload_n (pn := 39) F dX1_swapAgainst_38 rfl rfl rfl ?_
    refine AW.getR (r := 13) (pn := 42) F dX1_swapAgainst_39 rfl gl_X1_18 so_51 rfl ?_
    refine AW.getI (pn := 45) F dX1_swapAgainst_42 rfl gl_X1_41 so_13 rfl ?_
    refine AW.icmp_ge (pn := 48) (tg := 136) F dX1_swapAgainst_45 rfl (by decide) hb (fun hb => ?_) (fun hb => ?_)
    · exact AW.vret F G dX1_swapAgainst_136 ⟨rfl, hb⟩
    · refine AW.aload_n (pn := 49) F dX1_swapAgainst_48 rfl rfl rfl ?_
      refine AW.getR (r := 13) (pn := 52) F dX1_swapAgainst_49 rfl gl_X1_18 so_51 rfl ?_
      refine AW.getR (r := 15) (pn := 55) F dX1_swapAgainst_52 rfl gl_X1_51 so_13 rfl ?_
      refine AW.iload (pn := 57) F dX1_swapAgainst_55 rfl rfl ?_
      refine AW.iald (pn := 58) F dX1_swapAgainst_57 rfl so_15 hb (fun v7 hb => ?_)
      refine AW.istore (ls2 := [some (vR 51), some (vI x1), some (vI x2), some (vI x3), some (vI x4), some (vI v7), none]) (pn := 60) F dX1_swapAgainst_58 rfl (by decide) rfl rfl ?_
      refine AW.iload (pn := 62) F dX1_swapAgainst_60 rfl rfl ?_
      refine AW.iconst (pn := 63) F dX1_swapAgainst_62 rfl ?_
      refine jn_1 hb (fun (y10 : Int) => AW X 7 94 [some (vR 51), some (vI x1), some (vI x2), some (vI x3), some (vI x4), some (vI v7), none] [vI y10] h) (fun y10 hb => ?_) (fun K11 hK11 hb => ?_)
      · refine AW.istore (ls2 := [some (vR 51), some (vI x1), some (vI x2), some (vI x3), some (vI x4), some (vI v7), some (vI y10)]) (pn := 96) F dX1_swapAgainst_94 rfl (by decide) rfl rfl ?_
        refine AW.iload (pn := 98) F dX1_swapAgainst_96 rfl rfl ?_
        refine AW.if_eq (pn := 101) (tg := 130) F dX1_swapAgainst_98 rfl (by decide) hb (fun hb => ?_) (fun hb => ?_)
        · refine AW.iinc (ls2 := [some (vR 51), some (vI x1), some (vI x2), some (vI x3), some (vI (x4 + 1)), some (vI v7), some (vI y10)]) (pn := 133) F dX1_swapAgainst_130 rfl rfl (by decide) rfl rfl ?_
          refine AW.goto (tg := 36) F dX1_swapAgainst_133 (by decide) ?_
          refine AW.drop [true, true, true, true, true, false, false] rfl ?_
          exact ih _ _ hb
        · refine AW.aload_n (pn := 102) F dX1_swapAgainst_101 rfl rfl rfl ?_
          refine AW.getR (r := 13) (pn := 105) F dX1_swapAgainst_102 rfl gl_X1_18 so_51 rfl ?_
          refine AW.iload (pn := 107) F dX1_swapAgainst_105 rfl rfl ?_
          refine AW.iload (pn := 109) F dX1_swapAgainst_107 rfl rfl ?_
          refine AW.iload_n (pn := 110) F dX1_swapAgainst_109 rfl rfl rfl ?_
          refine AW.cVP (pn := 113) (st := []) F dX1_swapAgainst_110 rfl cl_X1_54 so_13 (p5_betterBy_13 v7 x4 x1 hb) rfl rfl (Nat.le_of_ble_eq_true rfl) (by decide) (fun r12 hb => ?_)
          refine AW.if_le (pn := 116) (tg := 130) F dX1_swapAgainst_113 rfl (by decide) hb (fun hb => ?_) (fun hb => ?_)
          · refine AW.iinc (ls2 := [some (vR 51), some (vI x1), some (vI x2), some (vI x3), some (vI (x4 + 1)), some (vI v7), some (vI y10)]) (pn := 133) F dX1_swapAgainst_130 rfl rfl (by decide) rfl rfl ?_
            refine AW.goto (tg := 36) F dX1_swapAgainst_133 (by decide) ?_
            refine AW.drop [true, true, true, true, true, false, false] rfl ?_
            exact ih _ _ hb
          · refine AW.aload_n (pn := 117) F dX1_swapAgainst_116 rfl rfl rfl ?_
            refine AW.iload (pn := 119) F dX1_swapAgainst_117 rfl rfl ?_
            refine AW.aload_n (pn := 120) F dX1_swapAgainst_119 rfl rfl rfl ?_
            refine AW.getR (r := 52) (pn := 123) F dX1_swapAgainst_120 rfl gl_X1_9 so_51 rfl ?_
            refine AW.iload_n (pn := 124) F dX1_swapAgainst_123 rfl rfl rfl ?_
            refine AW.iald (pn := 125) F dX1_swapAgainst_124 rfl so_52 hb (fun v13 hb => ?_)
            refine AW.iconst (pn := 126) F dX1_swapAgainst_125 rfl ?_
            refine AW.iadd (pn := 127) F dX1_swapAgainst_126 rfl ?_
            refine AW.cVV (pn := 130) (st := []) F dX1_swapAgainst_127 rfl cl_X1_48 so_51 (p1_enqueue_51 x4 (v13 + 1) hb) rfl rfl (Nat.le_of_ble_eq_true rfl) (by decide) (fun h14 hb => ?_)
            refine AW.iinc (ls2 := [some (vR 51), some (vI x1), some (vI x2), some (vI x3), some (vI (x4 + 1)), some (vI v7), some (vI y10)]) (pn := 133) F dX1_swapAgainst_130 rfl rfl (by decide) rfl rfl ?_
            refine AW.goto (tg := 36) F dX1_swapAgainst_133 (by decide) ?_
            refine AW.drop [true, true, true, true, true, false, false] rfl ?_
            exact ih _ _ hb
      refine jn_0 hb (AW X 7 93 [some (vR 51), some (vI x1), some (vI x2), some (vI x3), some (vI x4), some (vI v7), none] [] h) (fun  hb => ?_) (fun K15 hK15 hb => ?_)
      · refine AW.iconst (pn := 94) F dX1_swapAgainst_93 rfl ?_
        exact hK11 _ hb
      refine AW.icmp_eq (pn := 66) (tg := 93) F dX1_swapAgainst_63 rfl (by decide) hb (fun hb => ?_) (fun hb => ?_)
      · exact hK15 hb
      · refine AW.iload (pn := 68) F dX1_swapAgainst_66 rfl rfl ?_
        refine AW.iload_n (pn := 69) F dX1_swapAgainst_68 rfl rfl rfl ?_
        refine AW.icmp_eq (pn := 72) (tg := 93) F dX1_swapAgainst_69 rfl (by decide) hb (fun hb => ?_) (fun hb => ?_)
        · exact hK15 hb
        · refine AW.iload (pn := 74) F dX1_swapAgainst_72 rfl rfl ?_
          refine AW.iload_n (pn := 75) F dX1_swapAgainst_74 rfl rfl rfl ?_
          refine AW.icmp_eq (pn := 78) (tg := 93) F dX1_swapAgainst_75 rfl (by decide) hb (fun hb => ?_) (fun hb => ?_)
          · exact hK15 hb
          · refine AW.aload_n (pn := 79) F dX1_swapAgainst_78 rfl rfl rfl ?_
            refine AW.getR (r := 52) (pn := 82) F dX1_swapAgainst_79 rfl gl_X1_9 so_51 rfl ?_
            refine AW.iload (pn := 84) F dX1_swapAgainst_82 rfl rfl ?_
            refine AW.iald (pn := 85) F dX1_swapAgainst_84 rfl so_52 hb (fun v16 hb => ?_)
            refine AW.iconst (pn := 86) F dX1_swapAgainst_85 rfl ?_
            refine AW.icmp_ne (pn := 89) (tg := 93) F dX1_swapAgainst_86 rfl (by decide) hb (fun hb => ?_) (fun hb => ?_)
            · exact hK15 hb
            · refine AW.iconst (pn := 90) F dX1_swapAgainst_89 rfl ?_
              refine AW.goto (tg := 94) F dX1_swapAgainst_90 (by decide) ?_
              exact hK11 _ hb

theorem p1_swapAgainst_51 (x1 x2 : Int) {h : HP} {Q : HP → Prop} (hb : p1_swapAgainst x1 x2 h Q) : MT yX1_swapAgainst cX1_swapAgainst 7 none 4 [vR 51, vI x1, vI x2] h (QV Q) := by
  refine MT.of (own := RX1) (by decide) rfl (Nat.le_of_ble_eq_true rfl) rfl (fun X F G => ?_)
  unfold p1_swapAgainst at hb
  refine AW.aload_n (pn := 1) F dX1_swapAgainst_0 rfl rfl rfl ?_
  refine AW.getR (r := 13) (pn := 4) F dX1_swapAgainst_1 rfl gl_X1_18 so_51 rfl ?_
  refine AW.iload_n (pn := 5) F dX1_swapAgainst_4 rfl rfl rfl ?_
  refine AW.cVP (pn := 8) (st := []) F dX1_swapAgainst_5 rfl cl_X1_44 so_13 (p5_lies_13 x1 hb) rfl rfl (Nat.le_of_ble_eq_true rfl) (by decide) (fun r1 hb => ?_)
  refine jn_1 hb (fun (y5 : Int) => AW X 7 32 [some (vR 51), some (vI x1), some (vI x2), none, none, none, none] [vI y5] h) (fun y5 hb => ?_) (fun K6 hK6 hb => ?_)
  · refine AW.istore_n (ls2 := [some (vR 51), some (vI x1), some (vI x2), some (vI y5), none, none, none]) (pn := 33) F dX1_swapAgainst_32 rfl rfl (by decide) rfl rfl ?_
    refine AW.iconst (pn := 34) F dX1_swapAgainst_33 rfl ?_
    refine AW.istore (ls2 := [some (vR 51), some (vI x1), some (vI x2), some (vI y5), some (vI 0), none, none]) (pn := 36) F dX1_swapAgainst_34 rfl (by decide) rfl rfl ?_
    refine p1_swapAgainst_L36_ok_51 F G  _ _ _ hb
  refine AW.if_eq (pn := 11) (tg := 23) F dX1_swapAgainst_8 rfl (by decide) hb (fun hb => ?_) (fun hb => ?_)
  · refine AW.aload_n (pn := 24) F dX1_swapAgainst_23 rfl rfl rfl ?_
    refine AW.getR (r := 13) (pn := 27) F dX1_swapAgainst_24 rfl gl_X1_18 so_51 rfl ?_
    refine AW.getR (r := 15) (pn := 30) F dX1_swapAgainst_27 rfl gl_X1_51 so_13 rfl ?_
    refine AW.iload_n (pn := 31) F dX1_swapAgainst_30 rfl rfl rfl ?_
    refine AW.iald (pn := 32) F dX1_swapAgainst_31 rfl so_15 hb (fun v17 hb => ?_)
    exact hK6 _ hb
  · refine AW.aload_n (pn := 12) F dX1_swapAgainst_11 rfl rfl rfl ?_
    refine AW.getR (r := 13) (pn := 15) F dX1_swapAgainst_12 rfl gl_X1_18 so_51 rfl ?_
    refine AW.getR (r := 16) (pn := 18) F dX1_swapAgainst_15 rfl gl_X1_34 so_13 rfl ?_
    refine AW.iload_n (pn := 19) F dX1_swapAgainst_18 rfl rfl rfl ?_
    refine AW.iald (pn := 20) F dX1_swapAgainst_19 rfl so_16 hb (fun v18 hb => ?_)
    refine AW.goto (tg := 32) F dX1_swapAgainst_20 (by decide) ?_
    exact hK6 _ hb

theorem p1_fewestFor_L6_ok_51 {X : Cx} {x1 x2 : Int} {E56 : HP → Int → Prop} {Q : Int → HP → Prop} (F : Fx X cX1_fewestFor RX1 5 5) (G : Rx X (some .int) (QI Q)) (hE56 : ∀ (h : HP) (x4 : Int), E56 h x4 → AW X 5 56 [some (vR 51), none, none, none, some (vI x4)] [] h) : ∀ (n : Nat) (h : HP) (x3 : Int), p1_fewestFor_L6 x1 x2 E56 Q n h x3 → AW X 5 6 [some (vR 51), some (vI x1), some (vI x2), some (vI x3), none] [] h := by
  intro n
  induction n with
  | zero => intro _ _ hb; exact hb.elim
  | succ n ih =>
    intro h x3 hb
    unfold p1_fewestFor_L6 at hb
    refine AW.iload_n (pn := 7) F dX1_fewestFor_6 rfl rfl rfl ?_
    refine AW.aload_n (pn := 8) F dX1_fewestFor_7 rfl rfl rfl ?_
    refine AW.getI (pn := 11) F dX1_fewestFor_8 rfl gl_X1_25 so_51 rfl ?_
    refine AW.icmp_ge (pn := 14) (tg := 77) F dX1_fewestFor_11 rfl (by decide) hb (fun hb => ?_) (fun hb => ?_)
    · refine AW.iconst (pn := 78) F dX1_fewestFor_77 rfl ?_
      exact AW.iret F G dX1_fewestFor_78 ⟨_, rfl, hb⟩
    · refine AW.iload_n (pn := 15) F dX1_fewestFor_14 rfl rfl rfl ?_
      refine AW.bipush (pn := 17) F dX1_fewestFor_15 rfl (by decide) ?_
      refine AW.icmp_ge (pn := 20) (tg := 77) F dX1_fewestFor_17 rfl (by decide) hb (fun hb => ?_) (fun hb => ?_)
      · refine AW.iconst (pn := 78) F dX1_fewestFor_77 rfl ?_
        exact AW.iret F G dX1_fewestFor_78 ⟨_, rfl, hb⟩
      · refine AW.aload_n (pn := 21) F dX1_fewestFor_20 rfl rfl rfl ?_
        refine AW.getR (r := 53) (pn := 24) F dX1_fewestFor_21 rfl gl_X1_15 so_51 rfl ?_
        refine AW.iload_n (pn := 25) F dX1_fewestFor_24 rfl rfl rfl ?_
        refine AW.iald (pn := 26) F dX1_fewestFor_25 rfl so_53 hb (fun v2 hb => ?_)
        refine AW.istore (ls2 := [some (vR 51), some (vI x1), some (vI x2), some (vI x3), some (vI v2)]) (pn := 28) F dX1_fewestFor_26 rfl (by decide) rfl rfl ?_
        refine AW.aload_n (pn := 29) F dX1_fewestFor_28 rfl rfl rfl ?_
        refine AW.getR (r := 13) (pn := 32) F dX1_fewestFor_29 rfl gl_X1_18 so_51 rfl ?_
        refine AW.getR (r := 14) (pn := 35) F dX1_fewestFor_32 rfl gl_X1_29 so_13 rfl ?_
        refine AW.iload (pn := 37) F dX1_fewestFor_35 rfl rfl ?_
        refine AW.iald (pn := 38) F dX1_fewestFor_37 rfl so_14 hb (fun v3 hb => ?_)
        refine AW.iload_n (pn := 39) F dX1_fewestFor_38 rfl rfl rfl ?_
        refine jn_0 hb (AW X 5 64 [some (vR 51), some (vI x1), some (vI x2), some (vI x3), some (vI v2)] [] h) (fun  hb => ?_) (fun K5 hK5 hb => ?_)
        · refine AW.aload_n (pn := 65) F dX1_fewestFor_64 rfl rfl rfl ?_
          refine AW.iload (pn := 67) F dX1_fewestFor_65 rfl rfl ?_
          refine AW.iload_n (pn := 68) F dX1_fewestFor_67 rfl rfl rfl ?_
          refine AW.cVV (pn := 71) (st := []) F dX1_fewestFor_68 rfl cl_X1_37 so_51 (p1_swapAgainst_51 v2 x1 hb) rfl rfl (Nat.le_of_ble_eq_true rfl) (by decide) (fun h6 hb => ?_)
          refine AW.iinc (ls2 := [some (vR 51), some (vI x1), some (vI x2), some (vI (x3 + 1)), some (vI v2)]) (pn := 74) F dX1_fewestFor_71 rfl rfl (by decide) rfl rfl ?_
          refine AW.goto (tg := 6) F dX1_fewestFor_74 (by decide) ?_
          refine AW.drop [true, true, true, true, false] rfl ?_
          exact ih _ _ hb
        refine AW.icmp_ne (pn := 42) (tg := 64) F dX1_fewestFor_39 rfl (by decide) hb (fun hb => ?_) (fun hb => ?_)
        · exact hK5 hb
        · refine AW.aload_n (pn := 43) F dX1_fewestFor_42 rfl rfl rfl ?_
          refine AW.getR (r := 13) (pn := 46) F dX1_fewestFor_43 rfl gl_X1_18 so_51 rfl ?_
          refine AW.getR (r := 16) (pn := 49) F dX1_fewestFor_46 rfl gl_X1_34 so_13 rfl ?_
          refine AW.iload (pn := 51) F dX1_fewestFor_49 rfl rfl ?_
          refine AW.iald (pn := 52) F dX1_fewestFor_51 rfl so_16 hb (fun v7 hb => ?_)
          refine AW.iload_n (pn := 53) F dX1_fewestFor_52 rfl rfl rfl ?_
          refine AW.icmp_eq (pn := 56) (tg := 64) F dX1_fewestFor_53 rfl (by decide) hb (fun hb => ?_) (fun hb => ?_)
          · exact hK5 hb
          · refine AW.drop [true, false, false, false, true] rfl ?_
            exact hE56 _ _ hb

theorem p1_fewestFor_51 (x1 x2 : Int) {h : HP} {Q : Int → HP → Prop} (hb : p1_fewestFor x1 x2 h Q) : MT yX1_fewestFor cX1_fewestFor 5 (some .int) 5 [vR 51, vI x1, vI x2] h (QI Q) := by
  refine MT.of (own := RX1) (by decide) rfl (Nat.le_of_ble_eq_true rfl) rfl (fun X F G => ?_)
  unfold p1_fewestFor at hb
  refine AW.aload_n (pn := 1) F dX1_fewestFor_0 rfl rfl rfl ?_
  refine AW.cVV (pn := 4) (st := []) F dX1_fewestFor_1 rfl cl_X1_22 so_51 (p1_queueLying_51  hb) rfl rfl (Nat.le_of_ble_eq_true rfl) (by decide) (fun h1 hb => ?_)
  refine AW.iconst (pn := 5) F dX1_fewestFor_4 rfl ?_
  refine AW.istore_n (ls2 := [some (vR 51), some (vI x1), some (vI x2), some (vI 0), none]) (pn := 6) F dX1_fewestFor_5 rfl rfl (by decide) rfl rfl ?_
  refine p1_fewestFor_L6_ok_51 F G (fun h8 y9 hb => ?_) _ _ _ hb
  refine AW.aload_n (pn := 57) F dX1_fewestFor_56 rfl rfl rfl ?_
  refine AW.getR (r := 52) (pn := 60) F dX1_fewestFor_57 rfl gl_X1_9 so_51 rfl ?_
  refine AW.iload (pn := 62) F dX1_fewestFor_60 rfl rfl ?_
  refine AW.iald (pn := 63) F dX1_fewestFor_62 rfl so_52 hb (fun v10 hb => ?_)
  exact AW.iret F G dX1_fewestFor_63 ⟨_, rfl, hb⟩

theorem p7_chain_0 (x1 x2 : Int) {h : HP} {Q : Int → HP → Prop} (hb : p7_chain x1 x2 h Q) : MT yX7_chain cX7_chain 3 (some .int) 6 [vR 0, vI x1, vI x2] h (QI Q) := by
  refine MT.of (own := RX7) (by decide) rfl (Nat.le_of_ble_eq_true rfl) rfl (fun X F G => ?_)
  unfold p7_chain at hb
  refine AW.aload_n (pn := 1) F dX7_chain_0 rfl rfl rfl ?_
  refine AW.getR (r := 2) (pn := 4) F dX7_chain_1 rfl gl_X7_20 so_0 rfl ?_
  refine AW.iload_n (pn := 5) F dX7_chain_4 rfl rfl rfl ?_
  refine AW.cVP (pn := 8) (st := []) F dX7_chain_5 rfl cl_X7_133 so_2 (p4_isHouse_2 x1 hb) rfl rfl (Nat.le_of_ble_eq_true rfl) (by decide) (fun r1 hb => ?_)
  refine AW.if_eq (pn := 11) (tg := 22) F dX7_chain_8 rfl (by decide) hb (fun hb => ?_) (fun hb => ?_)
  · refine AW.ldc (x := (-1000000001)) (pn := 24) F dX7_chain_22 rfl tw_493 (by decide) ?_
    exact AW.iret F G dX7_chain_24 ⟨_, rfl, hb⟩
  · refine AW.aload_n (pn := 12) F dX7_chain_11 rfl rfl rfl ?_
    refine AW.getR (r := 2) (pn := 15) F dX7_chain_12 rfl gl_X7_20 so_0 rfl ?_
    refine AW.iload_n (pn := 16) F dX7_chain_15 rfl rfl rfl ?_
    refine AW.cVP (pn := 19) (st := []) F dX7_chain_16 rfl cl_X7_153 so_2 (p4_isSort_2 x2 hb) rfl rfl (Nat.le_of_ble_eq_true rfl) (by decide) (fun r2 hb => ?_)
    refine AW.if_ne (pn := 22) (tg := 25) F dX7_chain_19 rfl (by decide) hb (fun hb => ?_) (fun hb => ?_)
    · refine AW.aload_n (pn := 26) F dX7_chain_25 rfl rfl rfl ?_
      refine AW.getR (r := 51) (pn := 29) F dX7_chain_26 rfl gl_X7_68 so_0 rfl ?_
      refine AW.iload_n (pn := 30) F dX7_chain_29 rfl rfl rfl ?_
      refine AW.iload_n (pn := 31) F dX7_chain_30 rfl rfl rfl ?_
      refine AW.cVI (pn := 34) (st := []) F dX7_chain_31 rfl cl_X7_208 so_51 (p1_fewestFor_51 x1 x2 hb) rfl rfl (Nat.le_of_ble_eq_true rfl) (by decide) (fun r3 h4 hb => ?_)
      exact AW.iret F G dX7_chain_34 ⟨_, rfl, hb⟩
    · refine AW.ldc (x := (-1000000001)) (pn := 24) F dX7_chain_22 rfl tw_493 (by decide) ?_
      exact AW.iret F G dX7_chain_24 ⟨_, rfl, hb⟩

theorem p3_listChoices_L7_ok_54 {X : Cx} {x1 : Int} {E85 : HP → Int → Prop} {Q : HP → Prop} (F : Fx X cX3_listChoices RX3 6 1) (G : Rx X none (QV Q)) (hE85 : ∀ (h : HP) (x2 : Int), E85 h x2 → AW X 6 85 [some (vR 54), some (vI x1), some (vI x2), none, none, none] [] h) : ∀ (n : Nat) (h : HP) (x2 : Int) (x3 : Int) (x4 : Int), p3_listChoices_L7 x1 E85 n h x2 x3 x4 → AW X 6 7 [some (vR 54), some (vI x1), some (vI x2), some (vI x3), some (vI x4), none] [] h := by
  intro n
  induction n with
  | zero => intro _ _ _ _ hb; exact hb.elim
  | succ n ih =>
    intro h x2 x3 x4 hb
    unfold p3_listChoices_L7 at hb
    refine AW.iload (pn := 9) F dX3_listChoices_7 rfl rfl ?_
    refine AW.aload_n (pn := 10) F dX3_listChoices_9 rfl rfl rfl ?_
    refine AW.getR (r := 13) (pn := 13) F dX3_listChoices_10 rfl gl_X3_33 so_54 rfl ?_
    refine AW.getI (pn := 16) F dX3_listChoices_13 rfl gl_X3_65 so_13 rfl ?_
    refine AW.icmp_ge (pn := 19) (tg := 85) F dX3_listChoices_16 rfl (by decide) hb (fun hb => ?_) (fun hb => ?_)
    · refine AW.drop [true, true, true, false, false, true] rfl ?_
      exact hE85 _ _ hb
    · refine AW.iconst (pn := 20) F dX3_listChoices_19 rfl ?_
      refine AW.aload_n (pn := 21) F dX3_listChoices_20 rfl rfl rfl ?_
      refine AW.getR (r := 13) (pn := 24) F dX3_listChoices_21 rfl gl_X3_33 so_54 rfl ?_
      refine AW.getR (r := 14) (pn := 27) F dX3_listChoices_24 rfl gl_X3_68 so_13 rfl ?_
      refine AW.iload (pn := 29) F dX3_listChoices_27 rfl rfl ?_
      refine AW.iald (pn := 30) F dX3_listChoices_29 rfl so_14 hb (fun v1 hb => ?_)
      refine AW.ishl (pn := 31) F dX3_listChoices_30 rfl ?_
      refine AW.istore (ls2 := [some (vR 54), some (vI x1), some (vI x2), some (vI x3), some (vI x4), some (vI (sl 1 v1))]) (pn := 33) F dX3_listChoices_31 rfl (by decide) rfl rfl ?_
      refine AW.aload_n (pn := 34) F dX3_listChoices_33 rfl rfl rfl ?_
      refine AW.getR (r := 13) (pn := 37) F dX3_listChoices_34 rfl gl_X3_33 so_54 rfl ?_
      refine AW.getR (r := 15) (pn := 40) F dX3_listChoices_37 rfl gl_X3_71 so_13 rfl ?_
      refine AW.iload (pn := 42) F dX3_listChoices_40 rfl rfl ?_
      refine AW.iald (pn := 43) F dX3_listChoices_42 rfl so_15 hb (fun v2 hb => ?_)
      refine AW.iload_n (pn := 44) F dX3_listChoices_43 rfl rfl rfl ?_
      refine AW.icmp_ne (pn := 47) (tg := 79) F dX3_listChoices_44 rfl (by decide) hb (fun hb => ?_) (fun hb => ?_)
      · refine AW.iinc (ls2 := [some (vR 54), some (vI x1), some (vI x2), some (vI x3), some (vI (x4 + 1)), some (vI (sl 1 v1))]) (pn := 82) F dX3_listChoices_79 rfl rfl (by decide) rfl rfl ?_
        refine AW.goto (tg := 7) F dX3_listChoices_82 (by decide) ?_
        refine AW.drop [true, true, true, true, true, false] rfl ?_
        exact ih _ _ _ _ hb
      · refine AW.iload_n (pn := 48) F dX3_listChoices_47 rfl rfl rfl ?_
        refine AW.iload (pn := 50) F dX3_listChoices_48 rfl rfl ?_
        refine AW.iand (pn := 51) F dX3_listChoices_50 rfl ?_
        refine AW.if_ne (pn := 54) (tg := 79) F dX3_listChoices_51 rfl (by decide) hb (fun hb => ?_) (fun hb => ?_)
        · refine AW.iinc (ls2 := [some (vR 54), some (vI x1), some (vI x2), some (vI x3), some (vI (x4 + 1)), some (vI (sl 1 v1))]) (pn := 82) F dX3_listChoices_79 rfl rfl (by decide) rfl rfl ?_
          refine AW.goto (tg := 7) F dX3_listChoices_82 (by decide) ?_
          refine AW.drop [true, true, true, true, true, false] rfl ?_
          exact ih _ _ _ _ hb
        · refine AW.iload_n (pn := 55) F dX3_listChoices_54 rfl rfl rfl ?_
          refine AW.iconst (pn := 56) F dX3_listChoices_55 rfl ?_
          refine AW.icmp_ge (pn := 59) (tg := 79) F dX3_listChoices_56 rfl (by decide) hb (fun hb => ?_) (fun hb => ?_)
          · refine AW.iinc (ls2 := [some (vR 54), some (vI x1), some (vI x2), some (vI x3), some (vI (x4 + 1)), some (vI (sl 1 v1))]) (pn := 82) F dX3_listChoices_79 rfl rfl (by decide) rfl rfl ?_
            refine AW.goto (tg := 7) F dX3_listChoices_82 (by decide) ?_
            refine AW.drop [true, true, true, true, true, false] rfl ?_
            exact ih _ _ _ _ hb
          · refine AW.iload_n (pn := 60) F dX3_listChoices_59 rfl rfl rfl ?_
            refine AW.iload (pn := 62) F dX3_listChoices_60 rfl rfl ?_
            refine AW.ior (pn := 63) F dX3_listChoices_62 rfl ?_
            refine AW.istore_n (ls2 := [some (vR 54), some (vI x1), some (vI x2), some (vI (io x3 (sl 1 v1))), some (vI x4), some (vI (sl 1 v1))]) (pn := 64) F dX3_listChoices_63 rfl rfl (by decide) rfl rfl ?_
            refine AW.aload_n (pn := 65) F dX3_listChoices_64 rfl rfl rfl ?_
            refine AW.getR (r := 59) (pn := 68) F dX3_listChoices_65 rfl gl_X3_24 so_54 rfl ?_
            refine AW.iload_n (pn := 69) F dX3_listChoices_68 rfl rfl rfl ?_
            refine AW.iconst (pn := 70) F dX3_listChoices_69 rfl ?_
            refine AW.imul (pn := 71) F dX3_listChoices_70 rfl ?_
            refine AW.iload_n (pn := 72) F dX3_listChoices_71 rfl rfl rfl ?_
            refine AW.iadd (pn := 73) F dX3_listChoices_72 rfl ?_
            refine AW.iload (pn := 75) F dX3_listChoices_73 rfl rfl ?_
            refine AW.iast (pn := 76) F dX3_listChoices_75 rfl so_59 hb (fun h3 hb => ?_)
            refine AW.iinc (ls2 := [some (vR 54), some (vI x1), some (vI (x2 + 1)), some (vI (io x3 (sl 1 v1))), some (vI x4), some (vI (sl 1 v1))]) (pn := 79) F dX3_listChoices_76 rfl rfl (by decide) rfl rfl ?_
            refine AW.iinc (ls2 := [some (vR 54), some (vI x1), some (vI (x2 + 1)), some (vI (io x3 (sl 1 v1))), some (vI (x4 + 1)), some (vI (sl 1 v1))]) (pn := 82) F dX3_listChoices_79 rfl rfl (by decide) rfl rfl ?_
            refine AW.goto (tg := 7) F dX3_listChoices_82 (by decide) ?_
            refine AW.drop [true, true, true, true, true, false] rfl ?_
            exact ih _ _ _ _ hb

theorem p3_listChoices_54 (x1 : Int) {h : HP} {Q : HP → Prop} (hb : p3_listChoices x1 h Q) : MT yX3_listChoices cX3_listChoices 6 none 1 [vR 54, vI x1] h (QV Q) := by
  refine MT.of (own := RX3) (by decide) rfl (Nat.le_of_ble_eq_true rfl) rfl (fun X F G => ?_)
  unfold p3_listChoices at hb
  refine AW.iconst (pn := 1) F dX3_listChoices_0 rfl ?_
  refine AW.istore_n (ls2 := [some (vR 54), some (vI x1), some (vI 0), none, none, none]) (pn := 2) F dX3_listChoices_1 rfl rfl (by decide) rfl rfl ?_
  refine AW.iconst (pn := 3) F dX3_listChoices_2 rfl ?_
  refine AW.istore_n (ls2 := [some (vR 54), some (vI x1), some (vI 0), some (vI 0), none, none]) (pn := 4) F dX3_listChoices_3 rfl rfl (by decide) rfl rfl ?_
  refine AW.iconst (pn := 5) F dX3_listChoices_4 rfl ?_
  refine AW.istore (ls2 := [some (vR 54), some (vI x1), some (vI 0), some (vI 0), some (vI 0), none]) (pn := 7) F dX3_listChoices_5 rfl (by decide) rfl rfl ?_
  refine p3_listChoices_L7_ok_54 F G (fun h4 y5 hb => ?_) _ _ _ _ _ hb
  refine AW.aload_n (pn := 86) F dX3_listChoices_85 rfl rfl rfl ?_
  refine AW.getR (r := 60) (pn := 89) F dX3_listChoices_86 rfl gl_X3_27 so_54 rfl ?_
  refine AW.iload_n (pn := 90) F dX3_listChoices_89 rfl rfl rfl ?_
  refine AW.iload_n (pn := 91) F dX3_listChoices_90 rfl rfl rfl ?_
  refine AW.iast (pn := 92) F dX3_listChoices_91 rfl so_60 hb (fun h6 hb => ?_)
  exact AW.vret F G dX3_listChoices_92 ⟨rfl, hb⟩

theorem p3_mostBetter_L19_ok_54 {X : Cx} {x1 x2 x4 : Int} {h : HP} {E79 : Int → Prop} {Q : Int → Prop} (F : Fx X cX3_mostBetter RX3 8 4) (G : Rx X (some .int) (QP h Q)) (hE79 : ∀ (x3 : Int), E79 x3 → AW X 8 79 [some (vR 54), some (vI x1), some (vI x2), some (vI x3), some (vI x4), none, none, none] [] h) : ∀ (n : Nat) (x3 : Int) (x5 : Int), p3_mostBetter_L19 x1 x2 x4 h E79 n x3 x5 → AW X 8 19 [some (vR 54), some (vI x1), some (vI x2), some (vI x3), some (vI x4), some (vI x5), none, none] [] h := by
  intro n
  induction n with
  | zero => intro _ _ hb; exact hb.elim
  | succ n ih =>
    intro x3 x5 hb
    unfold p3_mostBetter_L19 at hb
    refine AW.iload (pn := 21) F dX3_mostBetter_19 rfl rfl ?_
    refine AW.aload_n (pn := 22) F dX3_mostBetter_21 rfl rfl rfl ?_
    refine AW.getR (r := 60) (pn := 25) F dX3_mostBetter_22 rfl gl_X3_27 so_54 rfl ?_
    refine AW.iload_n (pn := 26) F dX3_mostBetter_25 rfl rfl rfl ?_
    refine AW.iald (pn := 27) F dX3_mostBetter_26 rfl so_60 hb (fun v2 hb => ?_)
    refine AW.icmp_ge (pn := 30) (tg := 79) F dX3_mostBetter_27 rfl (by decide) hb (fun hb => ?_) (fun hb => ?_)
    · refine AW.drop [true, true, true, true, true, false, true, true] rfl ?_
      exact hE79 _ hb
    · refine AW.aload_n (pn := 31) F dX3_mostBetter_30 rfl rfl rfl ?_
      refine AW.getR (r := 59) (pn := 34) F dX3_mostBetter_31 rfl gl_X3_24 so_54 rfl ?_
      refine AW.iload_n (pn := 35) F dX3_mostBetter_34 rfl rfl rfl ?_
      refine AW.iconst (pn := 36) F dX3_mostBetter_35 rfl ?_
      refine AW.imul (pn := 37) F dX3_mostBetter_36 rfl ?_
      refine AW.iload (pn := 39) F dX3_mostBetter_37 rfl rfl ?_
      refine AW.iadd (pn := 40) F dX3_mostBetter_39 rfl ?_
      refine AW.iald (pn := 41) F dX3_mostBetter_40 rfl so_59 hb (fun v3 hb => ?_)
      refine AW.istore (ls2 := [some (vR 54), some (vI x1), some (vI x2), some (vI x3), some (vI x4), some (vI x5), some (vI v3), none]) (pn := 43) F dX3_mostBetter_41 rfl (by decide) rfl rfl ?_
      refine AW.aload_n (pn := 44) F dX3_mostBetter_43 rfl rfl rfl ?_
      refine AW.getR (r := 59) (pn := 47) F dX3_mostBetter_44 rfl gl_X3_24 so_54 rfl ?_
      refine AW.iload_n (pn := 48) F dX3_mostBetter_47 rfl rfl rfl ?_
      refine AW.iconst (pn := 49) F dX3_mostBetter_48 rfl ?_
      refine AW.imul (pn := 50) F dX3_mostBetter_49 rfl ?_
      refine AW.iload (pn := 52) F dX3_mostBetter_50 rfl rfl ?_
      refine AW.iadd (pn := 53) F dX3_mostBetter_52 rfl ?_
      refine AW.iald (pn := 54) F dX3_mostBetter_53 rfl so_59 hb (fun v4 hb => ?_)
      refine AW.istore (ls2 := [some (vR 54), some (vI x1), some (vI x2), some (vI x3), some (vI x4), some (vI x5), some (vI v3), some (vI v4)]) (pn := 56) F dX3_mostBetter_54 rfl (by decide) rfl rfl ?_
      refine AW.iload_n (pn := 57) F dX3_mostBetter_56 rfl rfl rfl ?_
      refine AW.aload_n (pn := 58) F dX3_mostBetter_57 rfl rfl rfl ?_
      refine AW.getR (r := 13) (pn := 61) F dX3_mostBetter_58 rfl gl_X3_33 so_54 rfl ?_
      refine AW.iload_n (pn := 62) F dX3_mostBetter_61 rfl rfl rfl ?_
      refine AW.iload (pn := 64) F dX3_mostBetter_62 rfl rfl ?_
      refine AW.iload (pn := 66) F dX3_mostBetter_64 rfl rfl ?_
      refine AW.cVP (pn := 69) (st := [vI x3]) F dX3_mostBetter_66 rfl cl_X3_74 so_13 (p5_betterBy_13 x1 v3 v4 hb) rfl rfl (Nat.le_of_ble_eq_true rfl) (by decide) (fun r5 hb => ?_)
      refine AW.mmax (pn := 72) F dX3_mostBetter_69 rfl tw_679 tw_680 tw_10 tw_681 (by decide) (Nat.le_of_ble_eq_true rfl) ?_
      refine AW.istore_n (ls2 := [some (vR 54), some (vI x1), some (vI x2), some (vI (mx x3 r5)), some (vI x4), some (vI x5), some (vI v3), some (vI v4)]) (pn := 73) F dX3_mostBetter_72 rfl rfl (by decide) rfl rfl ?_
      refine AW.iinc (ls2 := [some (vR 54), some (vI x1), some (vI x2), some (vI (mx x3 r5)), some (vI x4), some (vI (x5 + 1)), some (vI v3), some (vI v4)]) (pn := 76) F dX3_mostBetter_73 rfl rfl (by decide) rfl rfl ?_
      refine AW.goto (tg := 19) F dX3_mostBetter_76 (by decide) ?_
      refine AW.drop [true, true, true, true, true, true, false, false] rfl ?_
      exact ih _ _ hb

theorem p3_mostBetter_L5_ok_54 {X : Cx} {x1 x2 : Int} {h : HP} {Q : Int → Prop} (F : Fx X cX3_mostBetter RX3 8 4) (G : Rx X (some .int) (QP h Q))  : ∀ (n : Nat) (x3 : Int) (x4 : Int), p3_mostBetter_L5 x1 x2 h Q n x3 x4 → AW X 8 5 [some (vR 54), some (vI x1), some (vI x2), some (vI x3), some (vI x4), none, none, none] [] h := by
  intro n
  induction n with
  | zero => intro _ _ hb; exact hb.elim
  | succ n ih =>
    intro x3 x4 hb
    unfold p3_mostBetter_L5 at hb
    refine AW.iload (pn := 7) F dX3_mostBetter_5 rfl rfl ?_
    refine AW.aload_n (pn := 8) F dX3_mostBetter_7 rfl rfl rfl ?_
    refine AW.getR (r := 60) (pn := 11) F dX3_mostBetter_8 rfl gl_X3_27 so_54 rfl ?_
    refine AW.iload_n (pn := 12) F dX3_mostBetter_11 rfl rfl rfl ?_
    refine AW.iald (pn := 13) F dX3_mostBetter_12 rfl so_60 hb (fun v1 hb => ?_)
    refine AW.icmp_ge (pn := 16) (tg := 85) F dX3_mostBetter_13 rfl (by decide) hb (fun hb => ?_) (fun hb => ?_)
    · refine AW.iload_n (pn := 86) F dX3_mostBetter_85 rfl rfl rfl ?_
      exact AW.iret F G dX3_mostBetter_86 ⟨rfl, _, rfl, hb⟩
    · refine AW.iconst (pn := 17) F dX3_mostBetter_16 rfl ?_
      refine AW.istore (ls2 := [some (vR 54), some (vI x1), some (vI x2), some (vI x3), some (vI x4), some (vI 0), none, none]) (pn := 19) F dX3_mostBetter_17 rfl (by decide) rfl rfl ?_
      refine p3_mostBetter_L19_ok_54 F G (fun y6 hb => ?_) _ _ _ hb
      refine AW.iinc (ls2 := [some (vR 54), some (vI x1), some (vI x2), some (vI y6), some (vI (x4 + 1)), none, none, none]) (pn := 82) F dX3_mostBetter_79 rfl rfl (by decide) rfl rfl ?_
      refine AW.goto (tg := 5) F dX3_mostBetter_82 (by decide) ?_
      exact ih _ _ hb

theorem p3_mostBetter_54 (x1 x2 : Int) {h : HP} {Q : Int → Prop} (hb : p3_mostBetter x1 x2 h Q) : MT yX3_mostBetter cX3_mostBetter 8 (some .int) 4 [vR 54, vI x1, vI x2] h (QP h Q) := by
  refine MT.of (own := RX3) (by decide) rfl (Nat.le_of_ble_eq_true rfl) rfl (fun X F G => ?_)
  unfold p3_mostBetter at hb
  refine AW.iconst (pn := 1) F dX3_mostBetter_0 rfl ?_
  refine AW.istore_n (ls2 := [some (vR 54), some (vI x1), some (vI x2), some (vI 0), none, none, none, none]) (pn := 2) F dX3_mostBetter_1 rfl rfl (by decide) rfl rfl ?_
  refine AW.iconst (pn := 3) F dX3_mostBetter_2 rfl ?_
  refine AW.istore (ls2 := [some (vR 54), some (vI x1), some (vI x2), some (vI 0), some (vI 0), none, none, none]) (pn := 5) F dX3_mostBetter_3 rfl (by decide) rfl rfl ?_
  refine p3_mostBetter_L5_ok_54 F G  _ _ _ hb

theorem p3_hopeLostBy_L4_ok_54 {X : Cx} {x1 : Int} {h : HP} {Q : Int → Prop} (F : Fx X cX3_hopeLostBy RX3 7 4) (G : Rx X (some .int) (QP h Q))  : ∀ (n : Nat) (x2 : Int) (x3 : Int), p3_hopeLostBy_L4 x1 h Q n x2 x3 → AW X 7 4 [some (vR 54), some (vI x1), some (vI x2), some (vI x3), none, none, none] [] h := by
  intro n
  induction n with
  | zero => intro _ _ hb; exact hb.elim
  | succ n ih =>
    intro x2 x3 hb
    unfold p3_hopeLostBy_L4 at hb
    refine AW.iload_n (pn := 5) F dX3_hopeLostBy_4 rfl rfl rfl ?_
    refine AW.iload_n (pn := 6) F dX3_hopeLostBy_5 rfl rfl rfl ?_
    refine AW.icmp_gt (pn := 9) (tg := 105) F dX3_hopeLostBy_6 rfl (by decide) hb (fun hb => ?_) (fun hb => ?_)
    · refine AW.iload_n (pn := 106) F dX3_hopeLostBy_105 rfl rfl rfl ?_
      exact AW.iret F G dX3_hopeLostBy_106 ⟨rfl, _, rfl, hb⟩
    · refine AW.aload_n (pn := 10) F dX3_hopeLostBy_9 rfl rfl rfl ?_
      refine AW.getR (r := 55) (pn := 13) F dX3_hopeLostBy_10 rfl gl_X3_9 so_54 rfl ?_
      refine AW.iload_n (pn := 14) F dX3_hopeLostBy_13 rfl rfl rfl ?_
      refine AW.iald (pn := 15) F dX3_hopeLostBy_14 rfl so_55 hb (fun v1 hb => ?_)
      refine AW.istore (ls2 := [some (vR 54), some (vI x1), some (vI x2), some (vI x3), some (vI v1), none, none]) (pn := 17) F dX3_hopeLostBy_15 rfl (by decide) rfl rfl ?_
      refine AW.iload (pn := 19) F dX3_hopeLostBy_17 rfl rfl ?_
      refine AW.iload_n (pn := 20) F dX3_hopeLostBy_19 rfl rfl rfl ?_
      refine jn_1 hb (fun (y4 : Int) => AW X 7 45 [some (vR 54), some (vI x1), some (vI x2), some (vI x3), some (vI v1), none, none] [vI y4] h) (fun y4 hb => ?_) (fun K5 hK5 hb => ?_)
      · refine AW.istore (ls2 := [some (vR 54), some (vI x1), some (vI x2), some (vI x3), some (vI v1), some (vI y4), none]) (pn := 47) F dX3_hopeLostBy_45 rfl (by decide) rfl rfl ?_
        refine AW.iload (pn := 49) F dX3_hopeLostBy_47 rfl rfl ?_
        refine AW.if_eq (pn := 52) (tg := 99) F dX3_hopeLostBy_49 rfl (by decide) hb (fun hb => ?_) (fun hb => ?_)
        · refine AW.iinc (ls2 := [some (vR 54), some (vI x1), some (vI x2), some (vI (x3 + 1)), some (vI v1), some (vI y4), none]) (pn := 102) F dX3_hopeLostBy_99 rfl rfl (by decide) rfl rfl ?_
          refine AW.goto (tg := 4) F dX3_hopeLostBy_102 (by decide) ?_
          refine AW.drop [true, true, true, true, false, false, true] rfl ?_
          exact ih _ _ hb
        · refine AW.aload_n (pn := 53) F dX3_hopeLostBy_52 rfl rfl rfl ?_
          refine AW.getR (r := 13) (pn := 56) F dX3_hopeLostBy_53 rfl gl_X3_33 so_54 rfl ?_
          refine AW.iload_n (pn := 57) F dX3_hopeLostBy_56 rfl rfl rfl ?_
          refine AW.aload_n (pn := 58) F dX3_hopeLostBy_57 rfl rfl rfl ?_
          refine AW.getR (r := 56) (pn := 61) F dX3_hopeLostBy_58 rfl gl_X3_15 so_54 rfl ?_
          refine AW.iload_n (pn := 62) F dX3_hopeLostBy_61 rfl rfl rfl ?_
          refine AW.iald (pn := 63) F dX3_hopeLostBy_62 rfl so_56 hb (fun v6 hb => ?_)
          refine AW.aload_n (pn := 64) F dX3_hopeLostBy_63 rfl rfl rfl ?_
          refine AW.getR (r := 56) (pn := 67) F dX3_hopeLostBy_64 rfl gl_X3_15 so_54 rfl ?_
          refine AW.iload (pn := 69) F dX3_hopeLostBy_67 rfl rfl ?_
          refine AW.iald (pn := 70) F dX3_hopeLostBy_69 rfl so_56 hb (fun v7 hb => ?_)
          refine AW.cVP (pn := 73) (st := []) F dX3_hopeLostBy_70 rfl cl_X3_74 so_13 (p5_betterBy_13 x3 v6 v7 hb) rfl rfl (Nat.le_of_ble_eq_true rfl) (by decide) (fun r8 hb => ?_)
          refine AW.istore (ls2 := [some (vR 54), some (vI x1), some (vI x2), some (vI x3), some (vI v1), some (vI y4), some (vI r8)]) (pn := 75) F dX3_hopeLostBy_73 rfl (by decide) rfl rfl ?_
          refine AW.iload (pn := 77) F dX3_hopeLostBy_75 rfl rfl ?_
          refine AW.if_gt (pn := 80) (tg := 82) F dX3_hopeLostBy_77 rfl (by decide) hb (fun hb => ?_) (fun hb => ?_)
          · refine AW.iload_n (pn := 83) F dX3_hopeLostBy_82 rfl rfl rfl ?_
            refine AW.aload_n (pn := 84) F dX3_hopeLostBy_83 rfl rfl rfl ?_
            refine AW.getR (r := 61) (pn := 87) F dX3_hopeLostBy_84 rfl gl_X3_30 so_54 rfl ?_
            refine AW.iload_n (pn := 88) F dX3_hopeLostBy_87 rfl rfl rfl ?_
            refine AW.iconst (pn := 89) F dX3_hopeLostBy_88 rfl ?_
            refine AW.imul (pn := 90) F dX3_hopeLostBy_89 rfl ?_
            refine AW.iload (pn := 92) F dX3_hopeLostBy_90 rfl rfl ?_
            refine AW.iadd (pn := 93) F dX3_hopeLostBy_92 rfl ?_
            refine AW.iald (pn := 94) F dX3_hopeLostBy_93 rfl so_61 hb (fun v9 hb => ?_)
            refine AW.iload (pn := 96) F dX3_hopeLostBy_94 rfl rfl ?_
            refine AW.isub (pn := 97) F dX3_hopeLostBy_96 rfl ?_
            refine AW.iadd (pn := 98) F dX3_hopeLostBy_97 rfl ?_
            refine AW.istore_n (ls2 := [some (vR 54), some (vI x1), some (vI (x2 + (v9 - r8))), some (vI x3), some (vI v1), some (vI y4), some (vI r8)]) (pn := 99) F dX3_hopeLostBy_98 rfl rfl (by decide) rfl rfl ?_
            refine AW.iinc (ls2 := [some (vR 54), some (vI x1), some (vI (x2 + (v9 - r8))), some (vI (x3 + 1)), some (vI v1), some (vI y4), some (vI r8)]) (pn := 102) F dX3_hopeLostBy_99 rfl rfl (by decide) rfl rfl ?_
            refine AW.goto (tg := 4) F dX3_hopeLostBy_102 (by decide) ?_
            refine AW.drop [true, true, true, true, false, false, false] rfl ?_
            exact ih _ _ hb
          · refine AW.iconst (pn := 81) F dX3_hopeLostBy_80 rfl ?_
            exact AW.iret F G dX3_hopeLostBy_81 ⟨rfl, _, rfl, hb⟩
      refine jn_0 hb (AW X 7 44 [some (vR 54), some (vI x1), some (vI x2), some (vI x3), some (vI v1), none, none] [] h) (fun  hb => ?_) (fun K10 hK10 hb => ?_)
      · refine AW.iconst (pn := 45) F dX3_hopeLostBy_44 rfl ?_
        exact hK5 _ hb
      refine AW.icmp_eq (pn := 23) (tg := 44) F dX3_hopeLostBy_20 rfl (by decide) hb (fun hb => ?_) (fun hb => ?_)
      · exact hK10 hb
      · refine AW.iload (pn := 25) F dX3_hopeLostBy_23 rfl rfl ?_
        refine AW.iload_n (pn := 26) F dX3_hopeLostBy_25 rfl rfl rfl ?_
        refine AW.icmp_gt (pn := 29) (tg := 44) F dX3_hopeLostBy_26 rfl (by decide) hb (fun hb => ?_) (fun hb => ?_)
        · exact hK10 hb
        · refine AW.iload_n (pn := 30) F dX3_hopeLostBy_29 rfl rfl rfl ?_
          refine AW.iload_n (pn := 31) F dX3_hopeLostBy_30 rfl rfl rfl ?_
          refine jn_0 hb (AW X 7 40 [some (vR 54), some (vI x1), some (vI x2), some (vI x3), some (vI v1), none, none] [] h) (fun  hb => ?_) (fun K11 hK11 hb => ?_)
          · refine AW.iconst (pn := 41) F dX3_hopeLostBy_40 rfl ?_
            refine AW.goto (tg := 45) F dX3_hopeLostBy_41 (by decide) ?_
            exact hK5 _ hb
          refine AW.icmp_eq (pn := 34) (tg := 40) F dX3_hopeLostBy_31 rfl (by decide) hb (fun hb => ?_) (fun hb => ?_)
          · exact hK11 hb
          · refine AW.iload (pn := 36) F dX3_hopeLostBy_34 rfl rfl ?_
            refine AW.iload_n (pn := 37) F dX3_hopeLostBy_36 rfl rfl rfl ?_
            refine AW.icmp_ne (pn := 40) (tg := 44) F dX3_hopeLostBy_37 rfl (by decide) hb (fun hb => ?_) (fun hb => ?_)
            · exact hK10 hb
            · exact hK11 hb

theorem p3_hopeLostBy_54 (x1 : Int) {h : HP} {Q : Int → Prop} (hb : p3_hopeLostBy x1 h Q) : MT yX3_hopeLostBy cX3_hopeLostBy 7 (some .int) 4 [vR 54, vI x1] h (QP h Q) := by
  refine MT.of (own := RX3) (by decide) rfl (Nat.le_of_ble_eq_true rfl) rfl (fun X F G => ?_)
  unfold p3_hopeLostBy at hb
  refine AW.iconst (pn := 1) F dX3_hopeLostBy_0 rfl ?_
  refine AW.istore_n (ls2 := [some (vR 54), some (vI x1), some (vI 0), none, none, none, none]) (pn := 2) F dX3_hopeLostBy_1 rfl rfl (by decide) rfl rfl ?_
  refine AW.iconst (pn := 3) F dX3_hopeLostBy_2 rfl ?_
  refine AW.istore_n (ls2 := [some (vR 54), some (vI x1), some (vI 0), some (vI 0), none, none, none]) (pn := 4) F dX3_hopeLostBy_3 rfl rfl (by decide) rfl rfl ?_
  refine p3_hopeLostBy_L4_ok_54 F G  _ _ _ hb

theorem p3_remember_54 (x1 : Int) {h : HP} {Q : HP → Prop} (hb : p3_remember x1 h Q) : MT yX3_remember cX3_remember 2 none 1 [vR 54, vI x1] h (QV Q) := by
  refine MT.of (own := RX3) (by decide) rfl (Nat.le_of_ble_eq_true rfl) rfl (fun X F G => ?_)
  unfold p3_remember at hb
  refine AW.aload_n (pn := 1) F dX3_remember_0 rfl rfl rfl ?_
  refine AW.iload_n (pn := 2) F dX3_remember_1 rfl rfl rfl ?_
  refine AW.putI (pn := 5) F dX3_remember_2 rfl pl_X3_50 so_54 rfl hb (fun h1 hb => ?_)
  refine AW.aload_n (pn := 6) F dX3_remember_5 rfl rfl rfl ?_
  refine AW.getR (r := 55) (pn := 9) F dX3_remember_6 rfl gl_X3_9 so_54 rfl ?_
  refine AW.iconst (pn := 10) F dX3_remember_9 rfl ?_
  refine AW.aload_n (pn := 11) F dX3_remember_10 rfl rfl rfl ?_
  refine AW.getR (r := 57) (pn := 14) F dX3_remember_11 rfl gl_X3_18 so_54 rfl ?_
  refine AW.iconst (pn := 15) F dX3_remember_14 rfl ?_
  refine AW.iconst (pn := 16) F dX3_remember_15 rfl ?_
  refine AW.acpy (pn := 19) 5 F dX3_remember_16 rfl tw_694 tw_450 tw_449 tw_16 so_55 so_57 (by decide) (by decide) (by decide) (by decide) (by decide) (Nat.le_of_ble_eq_true rfl) hb (fun h2 hb => ?_)
  refine AW.aload_n (pn := 20) F dX3_remember_19 rfl rfl rfl ?_
  refine AW.getR (r := 56) (pn := 23) F dX3_remember_20 rfl gl_X3_15 so_54 rfl ?_
  refine AW.iconst (pn := 24) F dX3_remember_23 rfl ?_
  refine AW.aload_n (pn := 25) F dX3_remember_24 rfl rfl rfl ?_
  refine AW.getR (r := 58) (pn := 28) F dX3_remember_25 rfl gl_X3_21 so_54 rfl ?_
  refine AW.iconst (pn := 29) F dX3_remember_28 rfl ?_
  refine AW.iconst (pn := 30) F dX3_remember_29 rfl ?_
  refine AW.acpy (pn := 33) 5 F dX3_remember_30 rfl tw_694 tw_450 tw_449 tw_16 so_56 so_58 (by decide) (by decide) (by decide) (by decide) (by decide) (Nat.le_of_ble_eq_true rfl) hb (fun h3 hb => ?_)
  exact AW.vret F G dX3_remember_33 ⟨rfl, hb⟩

theorem p3_chooseThrown_L51_ok_54 {R : Int → Int → HP → (HP → Prop) → Prop} {dR dd : Nat} (hR : (∀ (x1 x2 : Int) (h : HP) (Q : HP → Prop), R x1 x2 h Q → MT yX3_chooseThrown cX3_chooseThrown 5 none dR [vR 54, vI x1, vI x2] h (QV Q))) (hdR : dR + 2 ≤ dd) (hdB : 5 ≤ dR) {X : Cx} {x1 x2 : Int} {Q : HP → Prop} (F : Fx X cX3_chooseThrown RX3 5 dd) (G : Rx X none (QV Q))  : ∀ (n : Nat) (h : HP) (x3 : Int), p3_chooseThrown_L51 R x1 x2 Q n h x3 → AW X 5 51 [some (vR 54), some (vI x1), some (vI x2), some (vI x3), none] [] h := by
  intro n
  induction n with
  | zero => intro _ _ hb; exact hb.elim
  | succ n ih =>
    intro h x3 hb
    unfold p3_chooseThrown_L51 at hb
    refine AW.iload_n (pn := 52) F dX3_chooseThrown_51 rfl rfl rfl ?_
    refine AW.aload_n (pn := 53) F dX3_chooseThrown_52 rfl rfl rfl ?_
    refine AW.getR (r := 60) (pn := 56) F dX3_chooseThrown_53 rfl gl_X3_27 so_54 rfl ?_
    refine AW.iload_n (pn := 57) F dX3_chooseThrown_56 rfl rfl rfl ?_
    refine AW.iald (pn := 58) F dX3_chooseThrown_57 rfl so_60 hb (fun v2 hb => ?_)
    refine AW.icmp_ge (pn := 61) (tg := 107) F dX3_chooseThrown_58 rfl (by decide) hb (fun hb => ?_) (fun hb => ?_)
    · exact AW.vret F G dX3_chooseThrown_107 ⟨rfl, hb⟩
    · refine AW.aload_n (pn := 62) F dX3_chooseThrown_61 rfl rfl rfl ?_
      refine AW.getR (r := 56) (pn := 65) F dX3_chooseThrown_62 rfl gl_X3_15 so_54 rfl ?_
      refine AW.iload_n (pn := 66) F dX3_chooseThrown_65 rfl rfl rfl ?_
      refine AW.aload_n (pn := 67) F dX3_chooseThrown_66 rfl rfl rfl ?_
      refine AW.getR (r := 59) (pn := 70) F dX3_chooseThrown_67 rfl gl_X3_24 so_54 rfl ?_
      refine AW.iload_n (pn := 71) F dX3_chooseThrown_70 rfl rfl rfl ?_
      refine AW.iconst (pn := 72) F dX3_chooseThrown_71 rfl ?_
      refine AW.imul (pn := 73) F dX3_chooseThrown_72 rfl ?_
      refine AW.iload_n (pn := 74) F dX3_chooseThrown_73 rfl rfl rfl ?_
      refine AW.iadd (pn := 75) F dX3_chooseThrown_74 rfl ?_
      refine AW.iald (pn := 76) F dX3_chooseThrown_75 rfl so_59 hb (fun v3 hb => ?_)
      refine AW.iast (pn := 77) F dX3_chooseThrown_76 rfl so_56 hb (fun h4 hb => ?_)
      refine AW.aload_n (pn := 78) F dX3_chooseThrown_77 rfl rfl rfl ?_
      refine AW.iload_n (pn := 79) F dX3_chooseThrown_78 rfl rfl rfl ?_
      refine AW.cVP (pn := 82) (st := []) F dX3_chooseThrown_79 rfl cl_X3_90 so_54 (p3_hopeLostBy_54 x1 hb) rfl rfl (Nat.le_of_ble_eq_true rfl) (by omega) (fun r5 hb => ?_)
      refine AW.istore (ls2 := [some (vR 54), some (vI x1), some (vI x2), some (vI x3), some (vI r5)]) (pn := 84) F dX3_chooseThrown_82 rfl (by decide) rfl rfl ?_
      refine AW.iload (pn := 86) F dX3_chooseThrown_84 rfl rfl ?_
      refine AW.iconst (pn := 87) F dX3_chooseThrown_86 rfl ?_
      refine AW.icmp_eq (pn := 90) (tg := 101) F dX3_chooseThrown_87 rfl (by decide) hb (fun hb => ?_) (fun hb => ?_)
      · refine AW.iinc (ls2 := [some (vR 54), some (vI x1), some (vI x2), some (vI (x3 + 1)), some (vI r5)]) (pn := 104) F dX3_chooseThrown_101 rfl rfl (by decide) rfl rfl ?_
        refine AW.goto (tg := 51) F dX3_chooseThrown_104 (by decide) ?_
        refine AW.drop [true, true, true, true, false] rfl ?_
        exact ih _ _ hb
      · refine AW.aload_n (pn := 91) F dX3_chooseThrown_90 rfl rfl rfl ?_
        refine AW.iload_n (pn := 92) F dX3_chooseThrown_91 rfl rfl rfl ?_
        refine AW.iconst (pn := 93) F dX3_chooseThrown_92 rfl ?_
        refine AW.iadd (pn := 94) F dX3_chooseThrown_93 rfl ?_
        refine AW.iload_n (pn := 95) F dX3_chooseThrown_94 rfl rfl rfl ?_
        refine AW.iload (pn := 97) F dX3_chooseThrown_95 rfl rfl ?_
        refine AW.isub (pn := 98) F dX3_chooseThrown_97 rfl ?_
        refine AW.cVV (pn := 101) (st := []) F dX3_chooseThrown_98 rfl cl_X3_83 so_54 (hR (x1 + 1) (x2 - r5) _ _ hb) rfl rfl (Nat.le_of_ble_eq_true rfl) (by omega) (fun h6 hb => ?_)
        refine AW.iinc (ls2 := [some (vR 54), some (vI x1), some (vI x2), some (vI (x3 + 1)), some (vI r5)]) (pn := 104) F dX3_chooseThrown_101 rfl rfl (by decide) rfl rfl ?_
        refine AW.goto (tg := 51) F dX3_chooseThrown_104 (by decide) ?_
        refine AW.drop [true, true, true, true, false] rfl ?_
        exact ih _ _ hb

theorem p3_chooseThrown_B_54 {R : Int → Int → HP → (HP → Prop) → Prop} {dR dd : Nat} (hR : (∀ (x1 x2 : Int) (h : HP) (Q : HP → Prop), R x1 x2 h Q → MT yX3_chooseThrown cX3_chooseThrown 5 none dR [vR 54, vI x1, vI x2] h (QV Q))) (hdR : dR + 2 ≤ dd) (hdB : 5 ≤ dR) (x1 x2 : Int) {h : HP} {Q : HP → Prop} (hb : p3_chooseThrown_B R x1 x2 h Q) : MT yX3_chooseThrown cX3_chooseThrown 5 none dd [vR 54, vI x1, vI x2] h (QV Q) := by
  refine MT.of (own := RX3) (by decide) rfl (Nat.le_of_ble_eq_true rfl) rfl (fun X F G => ?_)
  unfold p3_chooseThrown_B at hb
  refine AW.iload_n (pn := 1) F dX3_chooseThrown_0 rfl rfl rfl ?_
  refine AW.aload_n (pn := 2) F dX3_chooseThrown_1 rfl rfl rfl ?_
  refine AW.getI (pn := 5) F dX3_chooseThrown_2 rfl gl_X3_50 so_54 rfl ?_
  refine AW.icmp_gt (pn := 8) (tg := 9) F dX3_chooseThrown_5 rfl (by decide) hb (fun hb => ?_) (fun hb => ?_)
  · refine AW.iload_n (pn := 10) F dX3_chooseThrown_9 rfl rfl rfl ?_
    refine AW.aload_n (pn := 11) F dX3_chooseThrown_10 rfl rfl rfl ?_
    refine AW.getI (pn := 14) F dX3_chooseThrown_11 rfl gl_X3_49 so_54 rfl ?_
    refine AW.icmp_lt (pn := 17) (tg := 23) F dX3_chooseThrown_14 rfl (by decide) hb (fun hb => ?_) (fun hb => ?_)
    · refine AW.aload_n (pn := 24) F dX3_chooseThrown_23 rfl rfl rfl ?_
      refine AW.getR (r := 55) (pn := 27) F dX3_chooseThrown_24 rfl gl_X3_9 so_54 rfl ?_
      refine AW.iload_n (pn := 28) F dX3_chooseThrown_27 rfl rfl rfl ?_
      refine AW.iald (pn := 29) F dX3_chooseThrown_28 rfl so_55 hb (fun v1 hb => ?_)
      refine AW.iload_n (pn := 30) F dX3_chooseThrown_29 rfl rfl rfl ?_
      refine AW.icmp_ne (pn := 33) (tg := 49) F dX3_chooseThrown_30 rfl (by decide) hb (fun hb => ?_) (fun hb => ?_)
      · refine AW.iconst (pn := 50) F dX3_chooseThrown_49 rfl ?_
        refine AW.istore_n (ls2 := [some (vR 54), some (vI x1), some (vI x2), some (vI 0), none]) (pn := 51) F dX3_chooseThrown_50 rfl rfl (by decide) rfl rfl ?_
        refine p3_chooseThrown_L51_ok_54 hR hdR hdB F G  _ _ _ hb
      · refine AW.aload_n (pn := 34) F dX3_chooseThrown_33 rfl rfl rfl ?_
        refine AW.getR (r := 56) (pn := 37) F dX3_chooseThrown_34 rfl gl_X3_15 so_54 rfl ?_
        refine AW.iload_n (pn := 38) F dX3_chooseThrown_37 rfl rfl rfl ?_
        refine AW.iconst (pn := 39) F dX3_chooseThrown_38 rfl ?_
        refine AW.iast (pn := 40) F dX3_chooseThrown_39 rfl so_56 hb (fun h7 hb => ?_)
        refine AW.aload_n (pn := 41) F dX3_chooseThrown_40 rfl rfl rfl ?_
        refine AW.iload_n (pn := 42) F dX3_chooseThrown_41 rfl rfl rfl ?_
        refine AW.iconst (pn := 43) F dX3_chooseThrown_42 rfl ?_
        refine AW.iadd (pn := 44) F dX3_chooseThrown_43 rfl ?_
        refine AW.iload_n (pn := 45) F dX3_chooseThrown_44 rfl rfl rfl ?_
        refine AW.cVV (pn := 48) (st := []) F dX3_chooseThrown_45 rfl cl_X3_83 so_54 (hR (x1 + 1) x2 _ _ hb) rfl rfl (Nat.le_of_ble_eq_true rfl) (by omega) (fun h8 hb => ?_)
        exact AW.vret F G dX3_chooseThrown_48 ⟨rfl, hb⟩
    · refine AW.aload_n (pn := 18) F dX3_chooseThrown_17 rfl rfl rfl ?_
      refine AW.iload_n (pn := 19) F dX3_chooseThrown_18 rfl rfl rfl ?_
      refine AW.cVV (pn := 22) (st := []) F dX3_chooseThrown_19 rfl cl_X3_87 so_54 (p3_remember_54 x2 hb) rfl rfl (Nat.le_of_ble_eq_true rfl) (by omega) (fun h9 hb => ?_)
      exact AW.vret F G dX3_chooseThrown_22 ⟨rfl, hb⟩
  · exact AW.vret F G dX3_chooseThrown_8 ⟨rfl, hb⟩

theorem p3_chooseThrown_54 : ∀ (n : Nat) (x1 x2 : Int) {h : HP} {Q : HP → Prop}, p3_chooseThrown n x1 x2 h Q → MT yX3_chooseThrown cX3_chooseThrown 5 none (5 + 2 * n) [vR 54, vI x1, vI x2] h (QV Q) := by
  intro n
  induction n with
  | zero => intro x1 x2 h Q hb; exact hb.elim
  | succ n ih =>
    intro x1 x2 h Q hb
    exact p3_chooseThrown_B_54 (fun x1 x2 h Q hb => ih x1 x2 hb) (by omega) (by omega) x1 x2 hb

theorem p3_chooseGiver_L46_ok_54 {R : Int → Int → Int → HP → (HP → Prop) → Prop} {dR dd : Nat} (hR : (∀ (x1 x2 x3 : Int) (h : HP) (Q : HP → Prop), R x1 x2 x3 h Q → MT yX3_chooseGiver cX3_chooseGiver 6 none dR [vR 54, vI x1, vI x2, vI x3] h (QV Q))) (hdR : dR + 2 ≤ dd) (hdB : 22 ≤ dR) {X : Cx} {x1 x2 x3 : Int} {Q : HP → Prop} (F : Fx X cX3_chooseGiver RX3 6 dd) (G : Rx X none (QV Q))  : ∀ (n : Nat) (h : HP) (x4 : Int), p3_chooseGiver_L46 R x1 x2 x3 Q n h x4 → AW X 6 46 [some (vR 54), some (vI x1), some (vI x2), some (vI x3), some (vI x4), none] [] h := by
  intro n
  induction n with
  | zero => intro _ _ hb; exact hb.elim
  | succ n ih =>
    intro h x4 hb
    unfold p3_chooseGiver_L46 at hb
    refine AW.iload (pn := 48) F dX3_chooseGiver_46 rfl rfl ?_
    refine AW.aload_n (pn := 49) F dX3_chooseGiver_48 rfl rfl rfl ?_
    refine AW.getI (pn := 52) F dX3_chooseGiver_49 rfl gl_X3_49 so_54 rfl ?_
    refine AW.icmp_ge (pn := 55) (tg := 119) F dX3_chooseGiver_52 rfl (by decide) hb (fun hb => ?_) (fun hb => ?_)
    · exact AW.vret F G dX3_chooseGiver_119 ⟨rfl, hb⟩
    · refine AW.aload_n (pn := 56) F dX3_chooseGiver_55 rfl rfl rfl ?_
      refine AW.getR (r := 61) (pn := 59) F dX3_chooseGiver_56 rfl gl_X3_30 so_54 rfl ?_
      refine AW.iload_n (pn := 60) F dX3_chooseGiver_59 rfl rfl rfl ?_
      refine AW.iconst (pn := 61) F dX3_chooseGiver_60 rfl ?_
      refine AW.imul (pn := 62) F dX3_chooseGiver_61 rfl ?_
      refine AW.iload (pn := 64) F dX3_chooseGiver_62 rfl rfl ?_
      refine AW.iadd (pn := 65) F dX3_chooseGiver_64 rfl ?_
      refine AW.iald (pn := 66) F dX3_chooseGiver_65 rfl so_61 hb (fun v6 hb => ?_)
      refine AW.istore (ls2 := [some (vR 54), some (vI x1), some (vI x2), some (vI x3), some (vI x4), some (vI v6)]) (pn := 68) F dX3_chooseGiver_66 rfl (by decide) rfl rfl ?_
      refine AW.iload (pn := 70) F dX3_chooseGiver_68 rfl rfl ?_
      refine AW.iload_n (pn := 71) F dX3_chooseGiver_70 rfl rfl rfl ?_
      refine AW.icmp_eq (pn := 74) (tg := 113) F dX3_chooseGiver_71 rfl (by decide) hb (fun hb => ?_) (fun hb => ?_)
      · refine AW.iinc (ls2 := [some (vR 54), some (vI x1), some (vI x2), some (vI x3), some (vI (x4 + 1)), some (vI v6)]) (pn := 116) F dX3_chooseGiver_113 rfl rfl (by decide) rfl rfl ?_
        refine AW.goto (tg := 46) F dX3_chooseGiver_116 (by decide) ?_
        refine AW.drop [true, true, true, true, true, false] rfl ?_
        exact ih _ _ hb
      · refine AW.iload_n (pn := 75) F dX3_chooseGiver_74 rfl rfl rfl ?_
        refine AW.iload (pn := 77) F dX3_chooseGiver_75 rfl rfl ?_
        refine AW.ishr (pn := 78) F dX3_chooseGiver_77 rfl ?_
        refine AW.iconst (pn := 79) F dX3_chooseGiver_78 rfl ?_
        refine AW.iand (pn := 80) F dX3_chooseGiver_79 rfl ?_
        refine AW.if_ne (pn := 83) (tg := 113) F dX3_chooseGiver_80 rfl (by decide) hb (fun hb => ?_) (fun hb => ?_)
        · refine AW.iinc (ls2 := [some (vR 54), some (vI x1), some (vI x2), some (vI x3), some (vI (x4 + 1)), some (vI v6)]) (pn := 116) F dX3_chooseGiver_113 rfl rfl (by decide) rfl rfl ?_
          refine AW.goto (tg := 46) F dX3_chooseGiver_116 (by decide) ?_
          refine AW.drop [true, true, true, true, true, false] rfl ?_
          exact ih _ _ hb
        · refine AW.iload (pn := 85) F dX3_chooseGiver_83 rfl rfl ?_
          refine AW.if_le (pn := 88) (tg := 113) F dX3_chooseGiver_85 rfl (by decide) hb (fun hb => ?_) (fun hb => ?_)
          · refine AW.iinc (ls2 := [some (vR 54), some (vI x1), some (vI x2), some (vI x3), some (vI (x4 + 1)), some (vI v6)]) (pn := 116) F dX3_chooseGiver_113 rfl rfl (by decide) rfl rfl ?_
            refine AW.goto (tg := 46) F dX3_chooseGiver_116 (by decide) ?_
            refine AW.drop [true, true, true, true, true, false] rfl ?_
            exact ih _ _ hb
          · refine AW.aload_n (pn := 89) F dX3_chooseGiver_88 rfl rfl rfl ?_
            refine AW.getR (r := 55) (pn := 92) F dX3_chooseGiver_89 rfl gl_X3_9 so_54 rfl ?_
            refine AW.iload_n (pn := 93) F dX3_chooseGiver_92 rfl rfl rfl ?_
            refine AW.iload (pn := 95) F dX3_chooseGiver_93 rfl rfl ?_
            refine AW.iast (pn := 96) F dX3_chooseGiver_95 rfl so_55 hb (fun h7 hb => ?_)
            refine AW.aload_n (pn := 97) F dX3_chooseGiver_96 rfl rfl rfl ?_
            refine AW.iload_n (pn := 98) F dX3_chooseGiver_97 rfl rfl rfl ?_
            refine AW.iconst (pn := 99) F dX3_chooseGiver_98 rfl ?_
            refine AW.iadd (pn := 100) F dX3_chooseGiver_99 rfl ?_
            refine AW.iload_n (pn := 101) F dX3_chooseGiver_100 rfl rfl rfl ?_
            refine AW.iconst (pn := 102) F dX3_chooseGiver_101 rfl ?_
            refine AW.iload (pn := 104) F dX3_chooseGiver_102 rfl rfl ?_
            refine AW.ishl (pn := 105) F dX3_chooseGiver_104 rfl ?_
            refine AW.ior (pn := 106) F dX3_chooseGiver_105 rfl ?_
            refine AW.iload_n (pn := 107) F dX3_chooseGiver_106 rfl rfl rfl ?_
            refine AW.iload (pn := 109) F dX3_chooseGiver_107 rfl rfl ?_
            refine AW.iadd (pn := 110) F dX3_chooseGiver_109 rfl ?_
            refine AW.cVV (pn := 113) (st := []) F dX3_chooseGiver_110 rfl cl_X3_61 so_54 (hR (x1 + 1) (io x2 (sl 1 x4)) (x3 + v6) _ _ hb) rfl rfl (Nat.le_of_ble_eq_true rfl) (by omega) (fun h8 hb => ?_)
            refine AW.iinc (ls2 := [some (vR 54), some (vI x1), some (vI x2), some (vI x3), some (vI (x4 + 1)), some (vI v6)]) (pn := 116) F dX3_chooseGiver_113 rfl rfl (by decide) rfl rfl ?_
            refine AW.goto (tg := 46) F dX3_chooseGiver_116 (by decide) ?_
            refine AW.drop [true, true, true, true, true, false] rfl ?_
            exact ih _ _ hb

theorem p3_chooseGiver_B_54 {R : Int → Int → Int → HP → (HP → Prop) → Prop} {dR dd : Nat} (hR : (∀ (x1 x2 x3 : Int) (h : HP) (Q : HP → Prop), R x1 x2 x3 h Q → MT yX3_chooseGiver cX3_chooseGiver 6 none dR [vR 54, vI x1, vI x2, vI x3] h (QV Q))) (hdR : dR + 2 ≤ dd) (hdB : 22 ≤ dR) (x1 x2 x3 : Int) {h : HP} {Q : HP → Prop} (hb : p3_chooseGiver_B R x1 x2 x3 h Q) : MT yX3_chooseGiver cX3_chooseGiver 6 none dd [vR 54, vI x1, vI x2, vI x3] h (QV Q) := by
  refine MT.of (own := RX3) (by decide) rfl (Nat.le_of_ble_eq_true rfl) rfl (fun X F G => ?_)
  unfold p3_chooseGiver_B at hb
  refine AW.iload_n (pn := 1) F dX3_chooseGiver_0 rfl rfl rfl ?_
  refine AW.aload_n (pn := 2) F dX3_chooseGiver_1 rfl rfl rfl ?_
  refine AW.getI (pn := 5) F dX3_chooseGiver_2 rfl gl_X3_49 so_54 rfl ?_
  refine AW.icmp_lt (pn := 8) (tg := 15) F dX3_chooseGiver_5 rfl (by decide) hb (fun hb => ?_) (fun hb => ?_)
  · refine AW.iload_n (pn := 16) F dX3_chooseGiver_15 rfl rfl rfl ?_
    refine AW.iload_n (pn := 17) F dX3_chooseGiver_16 rfl rfl rfl ?_
    refine AW.ishr (pn := 18) F dX3_chooseGiver_17 rfl ?_
    refine AW.iconst (pn := 19) F dX3_chooseGiver_18 rfl ?_
    refine AW.iand (pn := 20) F dX3_chooseGiver_19 rfl ?_
    refine jn_1 hb (fun (h4 : HP) => AW X 6 43 [some (vR 54), some (vI x1), some (vI x2), some (vI x3), none, none] [] h4) (fun h4 hb => ?_) (fun K5 hK5 hb => ?_)
    · refine AW.iconst (pn := 44) F dX3_chooseGiver_43 rfl ?_
      refine AW.istore (ls2 := [some (vR 54), some (vI x1), some (vI x2), some (vI x3), some (vI 0), none]) (pn := 46) F dX3_chooseGiver_44 rfl (by decide) rfl rfl ?_
      refine p3_chooseGiver_L46_ok_54 hR hdR hdB F G  _ _ _ hb
    refine AW.if_ne (pn := 23) (tg := 43) F dX3_chooseGiver_20 rfl (by decide) hb (fun hb => ?_) (fun hb => ?_)
    · exact hK5 _ hb
    · refine AW.aload_n (pn := 24) F dX3_chooseGiver_23 rfl rfl rfl ?_
      refine AW.getR (r := 55) (pn := 27) F dX3_chooseGiver_24 rfl gl_X3_9 so_54 rfl ?_
      refine AW.iload_n (pn := 28) F dX3_chooseGiver_27 rfl rfl rfl ?_
      refine AW.iload_n (pn := 29) F dX3_chooseGiver_28 rfl rfl rfl ?_
      refine AW.iast (pn := 30) F dX3_chooseGiver_29 rfl so_55 hb (fun h9 hb => ?_)
      refine AW.aload_n (pn := 31) F dX3_chooseGiver_30 rfl rfl rfl ?_
      refine AW.iload_n (pn := 32) F dX3_chooseGiver_31 rfl rfl rfl ?_
      refine AW.iconst (pn := 33) F dX3_chooseGiver_32 rfl ?_
      refine AW.iadd (pn := 34) F dX3_chooseGiver_33 rfl ?_
      refine AW.iload_n (pn := 35) F dX3_chooseGiver_34 rfl rfl rfl ?_
      refine AW.iconst (pn := 36) F dX3_chooseGiver_35 rfl ?_
      refine AW.iload_n (pn := 37) F dX3_chooseGiver_36 rfl rfl rfl ?_
      refine AW.ishl (pn := 38) F dX3_chooseGiver_37 rfl ?_
      refine AW.ior (pn := 39) F dX3_chooseGiver_38 rfl ?_
      refine AW.iload_n (pn := 40) F dX3_chooseGiver_39 rfl rfl rfl ?_
      refine AW.cVV (pn := 43) (st := []) F dX3_chooseGiver_40 rfl cl_X3_61 so_54 (hR (x1 + 1) (io x2 (sl 1 x1)) x3 _ _ hb) rfl rfl (Nat.le_of_ble_eq_true rfl) (by omega) (fun h10 hb => ?_)
      exact hK5 _ hb
  · refine AW.aload_n (pn := 9) F dX3_chooseGiver_8 rfl rfl rfl ?_
    refine AW.iconst (pn := 10) F dX3_chooseGiver_9 rfl ?_
    refine AW.iload_n (pn := 11) F dX3_chooseGiver_10 rfl rfl rfl ?_
    refine AW.cVV (pn := 14) (st := []) F dX3_chooseGiver_11 rfl cl_X3_83 so_54 (p3_chooseThrown_54 8 0 x3 hb) rfl rfl (Nat.le_of_ble_eq_true rfl) (by omega) (fun h11 hb => ?_)
    exact AW.vret F G dX3_chooseGiver_14 ⟨rfl, hb⟩

theorem p3_chooseGiver_54 : ∀ (n : Nat) (x1 x2 x3 : Int) {h : HP} {Q : HP → Prop}, p3_chooseGiver n x1 x2 x3 h Q → MT yX3_chooseGiver cX3_chooseGiver 6 none (22 + 2 * n) [vR 54, vI x1, vI x2, vI x3] h (QV Q) := by
  intro n
  induction n with
  | zero => intro x1 x2 x3 h Q hb; exact hb.elim
  | succ n ih =>
    intro x1 x2 x3 h Q hb
    exact p3_chooseGiver_B_54 (fun x1 x2 x3 h Q hb => ih x1 x2 x3 hb) (by omega) (by omega) x1 x2 x3 hb

theorem p3_findBest_L21_ok_54 {X : Cx} {E54 : HP → Prop} {Q : HP → Prop} (F : Fx X cX3_findBest RX3 3 39) (G : Rx X none (QV Q)) (hE54 : ∀ (h : HP), E54 h → AW X 3 54 [some (vR 54), none, none] [] h) : ∀ (n : Nat) (h : HP) (x1 : Int), p3_findBest_L21 E54 n h x1 → AW X 3 21 [some (vR 54), some (vI x1), none] [] h := by
  intro n
  induction n with
  | zero => intro _ _ hb; exact hb.elim
  | succ n ih =>
    intro h x1 hb
    unfold p3_findBest_L21 at hb
    refine AW.iload_n (pn := 22) F dX3_findBest_21 rfl rfl rfl ?_
    refine AW.aload_n (pn := 23) F dX3_findBest_22 rfl rfl rfl ?_
    refine AW.getI (pn := 26) F dX3_findBest_23 rfl gl_X3_49 so_54 rfl ?_
    refine AW.icmp_ge (pn := 29) (tg := 54) F dX3_findBest_26 rfl (by decide) hb (fun hb => ?_) (fun hb => ?_)
    · refine AW.drop [true, false, true] rfl ?_
      exact hE54 _ hb
    · refine AW.aload_n (pn := 30) F dX3_findBest_29 rfl rfl rfl ?_
      refine AW.getR (r := 57) (pn := 33) F dX3_findBest_30 rfl gl_X3_18 so_54 rfl ?_
      refine AW.iload_n (pn := 34) F dX3_findBest_33 rfl rfl rfl ?_
      refine AW.iload_n (pn := 35) F dX3_findBest_34 rfl rfl rfl ?_
      refine AW.iast (pn := 36) F dX3_findBest_35 rfl so_57 hb (fun h3 hb => ?_)
      refine AW.aload_n (pn := 37) F dX3_findBest_36 rfl rfl rfl ?_
      refine AW.getR (r := 58) (pn := 40) F dX3_findBest_37 rfl gl_X3_21 so_54 rfl ?_
      refine AW.iload_n (pn := 41) F dX3_findBest_40 rfl rfl rfl ?_
      refine AW.iconst (pn := 42) F dX3_findBest_41 rfl ?_
      refine AW.iast (pn := 43) F dX3_findBest_42 rfl so_58 hb (fun h4 hb => ?_)
      refine AW.aload_n (pn := 44) F dX3_findBest_43 rfl rfl rfl ?_
      refine AW.iload_n (pn := 45) F dX3_findBest_44 rfl rfl rfl ?_
      refine AW.cVV (pn := 48) (st := []) F dX3_findBest_45 rfl cl_X3_53 so_54 (p3_listChoices_54 x1 hb) rfl rfl (Nat.le_of_ble_eq_true rfl) (by decide) (fun h5 hb => ?_)
      refine AW.iinc (ls2 := [some (vR 54), some (vI (x1 + 1)), none]) (pn := 51) F dX3_findBest_48 rfl rfl (by decide) rfl rfl ?_
      refine AW.goto (tg := 21) F dX3_findBest_51 (by decide) ?_
      exact ih _ _ hb

theorem p3_findBest_L66_ok_54 {X : Cx} {x1 : Int} {E96 : HP → Prop} {Q : HP → Prop} (F : Fx X cX3_findBest RX3 3 39) (G : Rx X none (QV Q)) (hE96 : ∀ (h : HP), E96 h → AW X 3 96 [some (vR 54), some (vI x1), none] [] h) : ∀ (n : Nat) (h : HP) (x2 : Int), p3_findBest_L66 x1 E96 n h x2 → AW X 3 66 [some (vR 54), some (vI x1), some (vI x2)] [] h := by
  intro n
  induction n with
  | zero => intro _ _ hb; exact hb.elim
  | succ n ih =>
    intro h x2 hb
    unfold p3_findBest_L66 at hb
    refine AW.iload_n (pn := 67) F dX3_findBest_66 rfl rfl rfl ?_
    refine AW.aload_n (pn := 68) F dX3_findBest_67 rfl rfl rfl ?_
    refine AW.getI (pn := 71) F dX3_findBest_68 rfl gl_X3_49 so_54 rfl ?_
    refine AW.icmp_ge (pn := 74) (tg := 96) F dX3_findBest_71 rfl (by decide) hb (fun hb => ?_) (fun hb => ?_)
    · refine AW.drop [true, true, false] rfl ?_
      exact hE96 _ hb
    · refine AW.aload_n (pn := 75) F dX3_findBest_74 rfl rfl rfl ?_
      refine AW.getR (r := 61) (pn := 78) F dX3_findBest_75 rfl gl_X3_30 so_54 rfl ?_
      refine AW.iload_n (pn := 79) F dX3_findBest_78 rfl rfl rfl ?_
      refine AW.iconst (pn := 80) F dX3_findBest_79 rfl ?_
      refine AW.imul (pn := 81) F dX3_findBest_80 rfl ?_
      refine AW.iload_n (pn := 82) F dX3_findBest_81 rfl rfl rfl ?_
      refine AW.iadd (pn := 83) F dX3_findBest_82 rfl ?_
      refine AW.aload_n (pn := 84) F dX3_findBest_83 rfl rfl rfl ?_
      refine AW.iload_n (pn := 85) F dX3_findBest_84 rfl rfl rfl ?_
      refine AW.iload_n (pn := 86) F dX3_findBest_85 rfl rfl rfl ?_
      refine AW.cVP (pn := 89) (st := [vI ((x1 * 5) + x2), vR 61]) F dX3_findBest_86 rfl cl_X3_57 so_54 (p3_mostBetter_54 x1 x2 hb) rfl rfl (Nat.le_of_ble_eq_true rfl) (by decide) (fun r7 hb => ?_)
      refine AW.iast (pn := 90) F dX3_findBest_89 rfl so_61 hb (fun h8 hb => ?_)
      refine AW.iinc (ls2 := [some (vR 54), some (vI x1), some (vI (x2 + 1))]) (pn := 93) F dX3_findBest_90 rfl rfl (by decide) rfl rfl ?_
      refine AW.goto (tg := 66) F dX3_findBest_93 (by decide) ?_
      exact ih _ _ hb

theorem p3_findBest_L56_ok_54 {X : Cx} {E102 : HP → Prop} {Q : HP → Prop} (F : Fx X cX3_findBest RX3 3 39) (G : Rx X none (QV Q)) (hE102 : ∀ (h : HP), E102 h → AW X 3 102 [some (vR 54), none, none] [] h) : ∀ (n : Nat) (h : HP) (x1 : Int), p3_findBest_L56 E102 n h x1 → AW X 3 56 [some (vR 54), some (vI x1), none] [] h := by
  intro n
  induction n with
  | zero => intro _ _ hb; exact hb.elim
  | succ n ih =>
    intro h x1 hb
    unfold p3_findBest_L56 at hb
    refine AW.iload_n (pn := 57) F dX3_findBest_56 rfl rfl rfl ?_
    refine AW.aload_n (pn := 58) F dX3_findBest_57 rfl rfl rfl ?_
    refine AW.getI (pn := 61) F dX3_findBest_58 rfl gl_X3_49 so_54 rfl ?_
    refine AW.icmp_ge (pn := 64) (tg := 102) F dX3_findBest_61 rfl (by decide) hb (fun hb => ?_) (fun hb => ?_)
    · refine AW.drop [true, false, true] rfl ?_
      exact hE102 _ hb
    · refine AW.iconst (pn := 65) F dX3_findBest_64 rfl ?_
      refine AW.istore_n (ls2 := [some (vR 54), some (vI x1), some (vI 0)]) (pn := 66) F dX3_findBest_65 rfl rfl (by decide) rfl rfl ?_
      refine p3_findBest_L66_ok_54 F G (fun h9 hb => ?_) _ _ _ hb
      refine AW.iinc (ls2 := [some (vR 54), some (vI (x1 + 1)), none]) (pn := 99) F dX3_findBest_96 rfl rfl (by decide) rfl rfl ?_
      refine AW.goto (tg := 56) F dX3_findBest_99 (by decide) ?_
      exact ih _ _ hb

theorem p3_findBest_54  {h : HP} {Q : HP → Prop} (hb : p3_findBest  h Q) : MT yX3_findBest cX3_findBest 3 none 39 [vR 54] h (QV Q) := by
  refine MT.of (own := RX3) (by decide) rfl (Nat.le_of_ble_eq_true rfl) rfl (fun X F G => ?_)
  unfold p3_findBest at hb
  refine AW.aload_n (pn := 1) F dX3_findBest_0 rfl rfl rfl ?_
  refine AW.aload_n (pn := 2) F dX3_findBest_1 rfl rfl rfl ?_
  refine AW.getR (r := 13) (pn := 5) F dX3_findBest_2 rfl gl_X3_33 so_54 rfl ?_
  refine AW.getR (r := 2) (pn := 8) F dX3_findBest_5 rfl gl_X3_37 so_13 rfl ?_
  refine AW.getI (pn := 11) F dX3_findBest_8 rfl gl_X3_43 so_2 rfl ?_
  refine AW.putI (pn := 14) F dX3_findBest_11 rfl pl_X3_49 so_54 rfl hb (fun h1 hb => ?_)
  refine AW.aload_n (pn := 15) F dX3_findBest_14 rfl rfl rfl ?_
  refine AW.iconst (pn := 16) F dX3_findBest_15 rfl ?_
  refine AW.putI (pn := 19) F dX3_findBest_16 rfl pl_X3_50 so_54 rfl hb (fun h2 hb => ?_)
  refine AW.iconst (pn := 20) F dX3_findBest_19 rfl ?_
  refine AW.istore_n (ls2 := [some (vR 54), some (vI 0), none]) (pn := 21) F dX3_findBest_20 rfl rfl (by decide) rfl rfl ?_
  refine p3_findBest_L21_ok_54 F G (fun h6 hb => ?_) _ _ _ hb
  refine AW.iconst (pn := 55) F dX3_findBest_54 rfl ?_
  refine AW.istore_n (ls2 := [some (vR 54), some (vI 0), none]) (pn := 56) F dX3_findBest_55 rfl rfl (by decide) rfl rfl ?_
  refine p3_findBest_L56_ok_54 F G (fun h10 hb => ?_) _ _ _ hb
  refine AW.aload_n (pn := 103) F dX3_findBest_102 rfl rfl rfl ?_
  refine AW.iconst (pn := 104) F dX3_findBest_103 rfl ?_
  refine AW.iconst (pn := 105) F dX3_findBest_104 rfl ?_
  refine AW.iconst (pn := 106) F dX3_findBest_105 rfl ?_
  refine AW.cVV (pn := 109) (st := []) F dX3_findBest_106 rfl cl_X3_61 so_54 (p3_chooseGiver_54 8 0 0 0 hb) rfl rfl (Nat.le_of_ble_eq_true rfl) (by decide) (fun h11 hb => ?_)
  exact AW.vret F G dX3_findBest_109 ⟨rfl, hb⟩

theorem p3_partTakenBy_54 (x1 : Int) {h : HP} {Q : Int → Prop} (hb : p3_partTakenBy x1 h Q) : MT yX3_partTakenBy cX3_partTakenBy 2 (some .int) 1 [vR 54, vI x1] h (QP h Q) := by
  refine MT.of (own := RX3) (by decide) rfl (Nat.le_of_ble_eq_true rfl) rfl (fun X F G => ?_)
  unfold p3_partTakenBy at hb
  refine AW.aload_n (pn := 1) F dX3_partTakenBy_0 rfl rfl rfl ?_
  refine AW.getR (r := 58) (pn := 4) F dX3_partTakenBy_1 rfl gl_X3_21 so_54 rfl ?_
  refine AW.aload_n (pn := 5) F dX3_partTakenBy_4 rfl rfl rfl ?_
  refine AW.getR (r := 57) (pn := 8) F dX3_partTakenBy_5 rfl gl_X3_18 so_54 rfl ?_
  refine AW.iload_n (pn := 9) F dX3_partTakenBy_8 rfl rfl rfl ?_
  refine AW.iald (pn := 10) F dX3_partTakenBy_9 rfl so_57 hb (fun v1 hb => ?_)
  refine AW.iald (pn := 11) F dX3_partTakenBy_10 rfl so_58 hb (fun v2 hb => ?_)
  exact AW.iret F G dX3_partTakenBy_11 ⟨rfl, _, rfl, hb⟩

theorem p7_rings_0 (x1 x2 : Int) {h : HP} {Q : Int → HP → Prop} (hb : p7_rings x1 x2 h Q) : MT yX7_rings cX7_rings 3 (some .int) 40 [vR 0, vI x1, vI x2] h (QI Q) := by
  refine MT.of (own := RX7) (by decide) rfl (Nat.le_of_ble_eq_true rfl) rfl (fun X F G => ?_)
  unfold p7_rings at hb
  refine AW.iload_n (pn := 1) F dX7_rings_0 rfl rfl rfl ?_
  refine AW.iconst (pn := 2) F dX7_rings_1 rfl ?_
  refine jn_0 hb (AW X 3 19 [some (vR 0), some (vI x1), some (vI x2)] [] h) (fun  hb => ?_) (fun K2 hK2 hb => ?_)
  · refine AW.iload_n (pn := 20) F dX7_rings_19 rfl rfl rfl ?_
    refine AW.if_lt (pn := 23) (tg := 28) F dX7_rings_20 rfl (by decide) hb (fun hb => ?_) (fun hb => ?_)
    · refine AW.ldc (x := (-1000000002)) (pn := 30) F dX7_rings_28 rfl tw_329 (by decide) ?_
      exact AW.iret F G dX7_rings_30 ⟨_, rfl, hb⟩
    · refine AW.iload_n (pn := 24) F dX7_rings_23 rfl rfl rfl ?_
      refine AW.iconst (pn := 25) F dX7_rings_24 rfl ?_
      refine AW.icmp_le (pn := 28) (tg := 31) F dX7_rings_25 rfl (by decide) hb (fun hb => ?_) (fun hb => ?_)
      · refine AW.aload_n (pn := 32) F dX7_rings_31 rfl rfl rfl ?_
        refine AW.getR (r := 54) (pn := 35) F dX7_rings_32 rfl gl_X7_75 so_0 rfl ?_
        refine AW.cVV (pn := 38) (st := []) F dX7_rings_35 rfl cl_X7_211 so_54 (p3_findBest_54  hb) rfl rfl (Nat.le_of_ble_eq_true rfl) (by decide) (fun h3 hb => ?_)
        refine AW.iload_n (pn := 39) F dX7_rings_38 rfl rfl rfl ?_
        refine AW.iconst (pn := 40) F dX7_rings_39 rfl ?_
        refine AW.icmp_ne (pn := 43) (tg := 51) F dX7_rings_40 rfl (by decide) hb (fun hb => ?_) (fun hb => ?_)
        · refine AW.iload_n (pn := 52) F dX7_rings_51 rfl rfl rfl ?_
          refine AW.if_ne (pn := 55) (tg := 67) F dX7_rings_52 rfl (by decide) hb (fun hb => ?_) (fun hb => ?_)
          · refine AW.aload_n (pn := 68) F dX7_rings_67 rfl rfl rfl ?_
            refine AW.getR (r := 54) (pn := 71) F dX7_rings_68 rfl gl_X7_75 so_0 rfl ?_
            refine AW.iload_n (pn := 72) F dX7_rings_71 rfl rfl rfl ?_
            refine AW.cVP (pn := 75) (st := []) F dX7_rings_72 rfl cl_X7_220 so_54 (p3_partTakenBy_54 x1 hb) rfl rfl (Nat.le_of_ble_eq_true rfl) (by decide) (fun r4 hb => ?_)
            exact AW.iret F G dX7_rings_75 ⟨_, rfl, hb⟩
          · refine AW.aload_n (pn := 56) F dX7_rings_55 rfl rfl rfl ?_
            refine AW.getR (r := 54) (pn := 59) F dX7_rings_56 rfl gl_X7_75 so_0 rfl ?_
            refine AW.getR (r := 58) (pn := 62) F dX7_rings_59 rfl gl_X7_217 so_54 rfl ?_
            refine AW.iload_n (pn := 63) F dX7_rings_62 rfl rfl rfl ?_
            refine AW.iald (pn := 64) F dX7_rings_63 rfl so_58 hb (fun v5 hb => ?_)
            refine AW.goto (tg := 75) F dX7_rings_64 (by decide) ?_
            exact AW.iret F G dX7_rings_75 ⟨_, rfl, hb⟩
        · refine AW.aload_n (pn := 44) F dX7_rings_43 rfl rfl rfl ?_
          refine AW.getR (r := 54) (pn := 47) F dX7_rings_44 rfl gl_X7_75 so_0 rfl ?_
          refine AW.getI (pn := 50) F dX7_rings_47 rfl gl_X7_214 so_54 rfl ?_
          exact AW.iret F G dX7_rings_50 ⟨_, rfl, hb⟩
      · refine AW.ldc (x := (-1000000002)) (pn := 30) F dX7_rings_28 rfl tw_329 (by decide) ?_
        exact AW.iret F G dX7_rings_30 ⟨_, rfl, hb⟩
  refine AW.icmp_eq (pn := 5) (tg := 19) F dX7_rings_2 rfl (by decide) hb (fun hb => ?_) (fun hb => ?_)
  · exact hK2 hb
  · refine AW.aload_n (pn := 6) F dX7_rings_5 rfl rfl rfl ?_
    refine AW.getR (r := 2) (pn := 9) F dX7_rings_6 rfl gl_X7_20 so_0 rfl ?_
    refine AW.iload_n (pn := 10) F dX7_rings_9 rfl rfl rfl ?_
    refine AW.cVP (pn := 13) (st := []) F dX7_rings_10 rfl cl_X7_133 so_2 (p4_isHouse_2 x1 hb) rfl rfl (Nat.le_of_ble_eq_true rfl) (by decide) (fun r6 hb => ?_)
    refine AW.if_ne (pn := 16) (tg := 19) F dX7_rings_13 rfl (by decide) hb (fun hb => ?_) (fun hb => ?_)
    · exact hK2 hb
    · refine AW.ldc (x := (-1000000001)) (pn := 18) F dX7_rings_16 rfl tw_493 (by decide) ?_
      exact AW.iret F G dX7_rings_18 ⟨_, rfl, hb⟩

