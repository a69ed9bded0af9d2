theorem p5_sortsHad_13 (x1 : Int) {h : HP} {Q : Int → Prop} (hb : p5_sortsHad 13 x1 h Q) : MT yX5_sortsHad cX5_sortsHad 4 (some .int) 1 [vR 13, vI x1] h (QP h Q) := by
  refine MT.of (own := RX5) (by decide) rfl (Nat.le_of_ble_eq_true rfl) rfl (fun X F G => ?_)
  unfold p5_sortsHad at hb
  refine AW.iconst (pn := 1) F dX5_sortsHad_0 rfl ?_
  refine AW.istore_n (ls2 := [some (vR 13), some (vI x1), some (vI 0), none]) (pn := 2) F dX5_sortsHad_1 rfl rfl (by decide) rfl rfl ?_
  refine AW.iconst (pn := 3) F dX5_sortsHad_2 rfl ?_
  refine AW.istore_n (ls2 := [some (vR 13), some (vI x1), some (vI 0), some (vI 0)]) (pn := 4) F dX5_sortsHad_3 rfl rfl (by decide) rfl rfl ?_
  refine p5_sortsHad_L4_ok_13 F G  _ _ _ hb

theorem p5_countInYard_L4_ok_13 {X : Cx} {x1 : Int} {h : HP} {Q : Int → Prop} (F : Fx X cX5_countInYard RX5 4 1) (G : Rx X (some .int) (QP h Q))  : ∀ (n : Nat) (x2 : Int) (x3 : Int), p5_countInYard_L4 13 x1 h Q n x2 x3 → AW X 4 4 [some (vR 13), some (vI x1), some (vI x2), some (vI x3)] [] h := by
  intro n
  induction n with
  | zero => intro _ _ hb; exact hb.elim
  | succ n ih =>
    intro x2 x3 hb
    unfold p5_countInYard_L4 at hb
    refine AW.iload_n (pn := 5) F dX5_countInYard_4 rfl rfl rfl ?_
    refine AW.aload_n (pn := 6) F dX5_countInYard_5 rfl rfl rfl ?_
    refine AW.getI (pn := 9) F dX5_countInYard_6 rfl gl_X5_37 so_13 rfl ?_
    refine AW.icmp_ge (pn := 12) (tg := 31) F dX5_countInYard_9 rfl (by decide) hb (fun hb => ?_) (fun hb => ?_)
    · refine AW.iload_n (pn := 32) F dX5_countInYard_31 rfl rfl rfl ?_
      exact AW.iret F G dX5_countInYard_32 ⟨rfl, _, rfl, hb⟩
    · refine AW.aload_n (pn := 13) F dX5_countInYard_12 rfl rfl rfl ?_
      refine AW.getR (r := 16) (pn := 16) F dX5_countInYard_13 rfl gl_X5_18 so_13 rfl ?_
      refine AW.iload_n (pn := 17) F dX5_countInYard_16 rfl rfl rfl ?_
      refine AW.iald (pn := 18) F dX5_countInYard_17 rfl so_16 hb (fun v1 hb => ?_)
      refine AW.iload_n (pn := 19) F dX5_countInYard_18 rfl rfl rfl ?_
      refine AW.icmp_ne (pn := 22) (tg := 25) F dX5_countInYard_19 rfl (by decide) hb (fun hb => ?_) (fun hb => ?_)
      · refine AW.iinc (ls2 := [some (vR 13), some (vI x1), some (vI x2), some (vI (x3 + 1))]) (pn := 28) F dX5_countInYard_25 rfl rfl (by decide) rfl rfl ?_
        refine AW.goto (tg := 4) F dX5_countInYard_28 (by decide) ?_
        exact ih _ _ hb
      · refine AW.iinc (ls2 := [some (vR 13), some (vI x1), some (vI (x2 + 1)), some (vI x3)]) (pn := 25) F dX5_countInYard_22 rfl rfl (by decide) rfl rfl ?_
        refine AW.iinc (ls2 := [some (vR 13), some (vI x1), some (vI (x2 + 1)), some (vI (x3 + 1))]) (pn := 28) F dX5_countInYard_25 rfl rfl (by decide) rfl rfl ?_
        refine AW.goto (tg := 4) F dX5_countInYard_28 (by decide) ?_
        exact ih _ _ hb

theorem p5_countInYard_13 (x1 : Int) {h : HP} {Q : Int → Prop} (hb : p5_countInYard 13 x1 h Q) : MT yX5_countInYard cX5_countInYard 4 (some .int) 1 [vR 13, vI x1] h (QP h Q) := by
  refine MT.of (own := RX5) (by decide) rfl (Nat.le_of_ble_eq_true rfl) rfl (fun X F G => ?_)
  unfold p5_countInYard at hb
  refine AW.iconst (pn := 1) F dX5_countInYard_0 rfl ?_
  refine AW.istore_n (ls2 := [some (vR 13), some (vI x1), some (vI 0), none]) (pn := 2) F dX5_countInYard_1 rfl rfl (by decide) rfl rfl ?_
  refine AW.iconst (pn := 3) F dX5_countInYard_2 rfl ?_
  refine AW.istore_n (ls2 := [some (vR 13), some (vI x1), some (vI 0), some (vI 0)]) (pn := 4) F dX5_countInYard_3 rfl rfl (by decide) rfl rfl ?_
  refine p5_countInYard_L4_ok_13 F G  _ _ _ hb

theorem p7_house_0 (x1 x2 : Int) {h : HP} {Q : Int → Prop} (hb : p7_house x1 x2 h Q) : MT yX7_house cX7_house 3 (some .int) 3 [vR 0, vI x1, vI x2] h (QP h Q) := by
  refine MT.of (own := RX7) (by decide) rfl (Nat.le_of_ble_eq_true rfl) rfl (fun X F G => ?_)
  unfold p7_house at hb
  refine AW.aload_n (pn := 1) F dX7_house_0 rfl rfl rfl ?_
  refine AW.getR (r := 2) (pn := 4) F dX7_house_1 rfl gl_X7_20 so_0 rfl ?_
  refine AW.iload_n (pn := 5) F dX7_house_4 rfl rfl rfl ?_
  refine AW.cVP (pn := 8) (st := []) F dX7_house_5 rfl cl_X7_133 so_2 (p4_isHouse_2 x1 hb) rfl rfl (Nat.le_of_ble_eq_true rfl) (by decide) (fun r1 hb => ?_)
  refine AW.if_ne (pn := 11) (tg := 14) F dX7_house_8 rfl (by decide) hb (fun hb => ?_) (fun hb => ?_)
  · refine AW.iload_n (pn := 15) F dX7_house_14 rfl rfl rfl ?_
    by_cases hq0 : w32 x2 < 0 ∨ 4 < w32 x2
    · refine AW.tabOut (tg := 95) F dX7_house_15 hq0 (by decide) ?_
      replace hb := hb.1 hq0
      refine AW.ldc (x := (-1000000002)) (pn := 97) F dX7_house_95 rfl tw_329 (by decide) ?_
      exact AW.iret F G dX7_house_97 ⟨rfl, _, rfl, hb⟩
    · have hq1 : w32 x2 = 0 ∨ w32 x2 = 1 ∨ w32 x2 = 2 ∨ w32 x2 = 3 ∨ w32 x2 = 4 := by omega
      rcases hq1 with hq | hq | hq | hq | hq
      · refine AW.tabIn (tg := 48) 0 F dX7_house_15 hq (by decide) (by decide) rfl (by decide) ?_
        replace hb := hb.2.1 hq
        refine AW.aload_n (pn := 49) F dX7_house_48 rfl rfl rfl ?_
        refine AW.getR (r := 2) (pn := 52) F dX7_house_49 rfl gl_X7_20 so_0 rfl ?_
        refine AW.getR (r := 3) (pn := 55) F dX7_house_52 rfl gl_X7_137 so_2 rfl ?_
        refine AW.iload_n (pn := 56) F dX7_house_55 rfl rfl rfl ?_
        refine AW.iald (pn := 57) F dX7_house_56 rfl so_3 hb (fun v2 hb => ?_)
        exact AW.iret F G dX7_house_57 ⟨rfl, _, rfl, hb⟩
      · refine AW.tabIn (tg := 58) 1 F dX7_house_15 hq (by decide) (by decide) rfl (by decide) ?_
        replace hb := hb.2.2.1 hq
        refine AW.aload_n (pn := 59) F dX7_house_58 rfl rfl rfl ?_
        refine AW.getR (r := 13) (pn := 62) F dX7_house_59 rfl gl_X7_41 so_0 rfl ?_
        refine AW.getR (r := 19) (pn := 65) F dX7_house_62 rfl gl_X7_140 so_13 rfl ?_
        refine AW.iload_n (pn := 66) F dX7_house_65 rfl rfl rfl ?_
        refine AW.iald (pn := 67) F dX7_house_66 rfl so_19 hb (fun v3 hb => ?_)
        exact AW.iret F G dX7_house_67 ⟨rfl, _, rfl, hb⟩
      · refine AW.tabIn (tg := 68) 2 F dX7_house_15 hq (by decide) (by decide) rfl (by decide) ?_
        replace hb := hb.2.2.2.1 hq
        refine AW.aload_n (pn := 69) F dX7_house_68 rfl rfl rfl ?_
        refine AW.getR (r := 13) (pn := 72) F dX7_house_69 rfl gl_X7_41 so_0 rfl ?_
        refine AW.iload_n (pn := 73) F dX7_house_72 rfl rfl rfl ?_
        refine AW.cVP (pn := 76) (st := []) F dX7_house_73 rfl cl_X7_143 so_13 (p5_wealthOf_13 x1 hb) rfl rfl (Nat.le_of_ble_eq_true rfl) (by decide) (fun r4 hb => ?_)
        exact AW.iret F G dX7_house_76 ⟨rfl, _, rfl, hb⟩
      · refine AW.tabIn (tg := 77) 3 F dX7_house_15 hq (by decide) (by decide) rfl (by decide) ?_
        replace hb := hb.2.2.2.2.1 hq
        refine AW.aload_n (pn := 78) F dX7_house_77 rfl rfl rfl ?_
        refine AW.getR (r := 13) (pn := 81) F dX7_house_78 rfl gl_X7_41 so_0 rfl ?_
        refine AW.iload_n (pn := 82) F dX7_house_81 rfl rfl rfl ?_
        refine AW.cVP (pn := 85) (st := []) F dX7_house_82 rfl cl_X7_147 so_13 (p5_sortsHad_13 x1 hb) rfl rfl (Nat.le_of_ble_eq_true rfl) (by decide) (fun r5 hb => ?_)
        exact AW.iret F G dX7_house_85 ⟨rfl, _, rfl, hb⟩
      · refine AW.tabIn (tg := 86) 4 F dX7_house_15 hq (by decide) (by decide) rfl (by decide) ?_
        replace hb := hb.2.2.2.2.2 hq
        refine AW.aload_n (pn := 87) F dX7_house_86 rfl rfl rfl ?_
        refine AW.getR (r := 13) (pn := 90) F dX7_house_87 rfl gl_X7_41 so_0 rfl ?_
        refine AW.iload_n (pn := 91) F dX7_house_90 rfl rfl rfl ?_
        refine AW.cVP (pn := 94) (st := []) F dX7_house_91 rfl cl_X7_150 so_13 (p5_countInYard_13 x1 hb) rfl rfl (Nat.le_of_ble_eq_true rfl) (by decide) (fun r6 hb => ?_)
        exact AW.iret F G dX7_house_94 ⟨rfl, _, rfl, hb⟩
  · refine AW.ldc (x := (-1000000001)) (pn := 13) F dX7_house_11 rfl tw_493 (by decide) ?_
    exact AW.iret F G dX7_house_13 ⟨rfl, _, rfl, hb⟩

theorem p4_isSort_2 (x1 : Int) {h : HP} {Q : Int → Prop} (hb : p4_isSort x1 h Q) : MT yX4_isSort cX4_isSort 2 (some .boolean) 1 [vR 2, vI x1] h (QP h Q) := by
  refine MT.of (own := RX4) (by decide) rfl (Nat.le_of_ble_eq_true rfl) rfl (fun X F G => ?_)
  unfold p4_isSort at hb
  refine AW.iload_n (pn := 1) F dX4_isSort_0 rfl rfl rfl ?_
  refine AW.if_lt (pn := 4) (tg := 16) F dX4_isSort_1 rfl (by decide) hb (fun hb => ?_) (fun hb => ?_)
  · refine AW.iconst (pn := 17) F dX4_isSort_16 rfl ?_
    exact AW.zret F G dX4_isSort_17 (by decide) ⟨rfl, _, rfl, hb⟩
  · refine AW.iload_n (pn := 5) F dX4_isSort_4 rfl rfl rfl ?_
    refine AW.aload_n (pn := 6) F dX4_isSort_5 rfl rfl rfl ?_
    refine AW.getI (pn := 9) F dX4_isSort_6 rfl gl_X4_24 so_2 rfl ?_
    refine AW.icmp_ge (pn := 12) (tg := 16) F dX4_isSort_9 rfl (by decide) hb (fun hb => ?_) (fun hb => ?_)
    · refine AW.iconst (pn := 17) F dX4_isSort_16 rfl ?_
      exact AW.zret F G dX4_isSort_17 (by decide) ⟨rfl, _, rfl, hb⟩
    · refine AW.iconst (pn := 13) F dX4_isSort_12 rfl ?_
      refine AW.goto (tg := 17) F dX4_isSort_13 (by decide) ?_
      exact AW.zret F G dX4_isSort_17 (by decide) ⟨rfl, _, rfl, hb⟩

theorem p7_worth_0 (x1 x2 : Int) {h : HP} {Q : Int → Prop} (hb : p7_worth x1 x2 h Q) : MT yX7_worth cX7_worth 3 (some .int) 2 [vR 0, vI x1, vI x2] h (QP h Q) := by
  refine MT.of (own := RX7) (by decide) rfl (Nat.le_of_ble_eq_true rfl) rfl (fun X F G => ?_)
  unfold p7_worth at hb
  refine AW.aload_n (pn := 1) F dX7_worth_0 rfl rfl rfl ?_
  refine AW.getR (r := 2) (pn := 4) F dX7_worth_1 rfl gl_X7_20 so_0 rfl ?_
  refine AW.iload_n (pn := 5) F dX7_worth_4 rfl rfl rfl ?_
  refine AW.cVP (pn := 8) (st := []) F dX7_worth_5 rfl cl_X7_133 so_2 (p4_isHouse_2 x1 hb) rfl rfl (Nat.le_of_ble_eq_true rfl) (by decide) (fun r1 hb => ?_)
  refine AW.if_eq (pn := 11) (tg := 22) F dX7_worth_8 rfl (by decide) hb (fun hb => ?_) (fun hb => ?_)
  · refine AW.ldc (x := (-1000000001)) (pn := 24) F dX7_worth_22 rfl tw_493 (by decide) ?_
    exact AW.iret F G dX7_worth_24 ⟨rfl, _, rfl, hb⟩
  · refine AW.aload_n (pn := 12) F dX7_worth_11 rfl rfl rfl ?_
    refine AW.getR (r := 2) (pn := 15) F dX7_worth_12 rfl gl_X7_20 so_0 rfl ?_
    refine AW.iload_n (pn := 16) F dX7_worth_15 rfl rfl rfl ?_
    refine AW.cVP (pn := 19) (st := []) F dX7_worth_16 rfl cl_X7_153 so_2 (p4_isSort_2 x2 hb) rfl rfl (Nat.le_of_ble_eq_true rfl) (by decide) (fun r2 hb => ?_)
    refine AW.if_ne (pn := 22) (tg := 25) F dX7_worth_19 rfl (by decide) hb (fun hb => ?_) (fun hb => ?_)
    · refine AW.aload_n (pn := 26) F dX7_worth_25 rfl rfl rfl ?_
      refine AW.getR (r := 2) (pn := 29) F dX7_worth_26 rfl gl_X7_20 so_0 rfl ?_
      refine AW.iload_n (pn := 30) F dX7_worth_29 rfl rfl rfl ?_
      refine AW.iload_n (pn := 31) F dX7_worth_30 rfl rfl rfl ?_
      refine AW.cVP (pn := 34) (st := []) F dX7_worth_31 rfl cl_X7_156 so_2 (p4_worthOf_2 x1 x2 hb) rfl rfl (Nat.le_of_ble_eq_true rfl) (by decide) (fun r3 hb => ?_)
      exact AW.iret F G dX7_worth_34 ⟨rfl, _, rfl, hb⟩
    · refine AW.ldc (x := (-1000000001)) (pn := 24) F dX7_worth_22 rfl tw_493 (by decide) ?_
      exact AW.iret F G dX7_worth_24 ⟨rfl, _, rfl, hb⟩

theorem p5_isPart_13 (x1 : Int) {h : HP} {Q : Int → Prop} (hb : p5_isPart 13 x1 h Q) : MT yX5_isPart cX5_isPart 2 (some .boolean) 1 [vR 13, vI x1] h (QP h Q) := by
  refine MT.of (own := RX5) (by decide) rfl (Nat.le_of_ble_eq_true rfl) rfl (fun X F G => ?_)
  unfold p5_isPart at hb
  refine AW.iload_n (pn := 1) F dX5_isPart_0 rfl rfl rfl ?_
  refine AW.if_lt (pn := 4) (tg := 16) F dX5_isPart_1 rfl (by decide) hb (fun hb => ?_) (fun hb => ?_)
  · refine AW.iconst (pn := 17) F dX5_isPart_16 rfl ?_
    exact AW.zret F G dX5_isPart_17 (by decide) ⟨rfl, _, rfl, hb⟩
  · refine AW.iload_n (pn := 5) F dX5_isPart_4 rfl rfl rfl ?_
    refine AW.aload_n (pn := 6) F dX5_isPart_5 rfl rfl rfl ?_
    refine AW.getI (pn := 9) F dX5_isPart_6 rfl gl_X5_37 so_13 rfl ?_
    refine AW.icmp_ge (pn := 12) (tg := 16) F dX5_isPart_9 rfl (by decide) hb (fun hb => ?_) (fun hb => ?_)
    · refine AW.iconst (pn := 17) F dX5_isPart_16 rfl ?_
      exact AW.zret F G dX5_isPart_17 (by decide) ⟨rfl, _, rfl, hb⟩
    · refine AW.iconst (pn := 13) F dX5_isPart_12 rfl ?_
      refine AW.goto (tg := 17) F dX5_isPart_13 (by decide) ?_
      exact AW.zret F G dX5_isPart_17 (by decide) ⟨rfl, _, rfl, hb⟩

theorem p7_part_0 (x1 x2 : Int) {h : HP} {Q : Int → Prop} (hb : p7_part x1 x2 h Q) : MT yX7_part cX7_part 3 (some .int) 2 [vR 0, vI x1, vI x2] h (QP h Q) := by
  refine MT.of (own := RX7) (by decide) rfl (Nat.le_of_ble_eq_true rfl) rfl (fun X F G => ?_)
  unfold p7_part at hb
  refine AW.aload_n (pn := 1) F dX7_part_0 rfl rfl rfl ?_
  refine AW.getR (r := 13) (pn := 4) F dX7_part_1 rfl gl_X7_41 so_0 rfl ?_
  refine AW.iload_n (pn := 5) F dX7_part_4 rfl rfl rfl ?_
  refine AW.cVP (pn := 8) (st := []) F dX7_part_5 rfl cl_X7_160 so_13 (p5_isPart_13 x1 hb) rfl rfl (Nat.le_of_ble_eq_true rfl) (by decide) (fun r1 hb => ?_)
  refine AW.if_ne (pn := 11) (tg := 14) F dX7_part_8 rfl (by decide) hb (fun hb => ?_) (fun hb => ?_)
  · refine AW.iload_n (pn := 15) F dX7_part_14 rfl rfl rfl ?_
    by_cases hq0 : w32 x2 < 0 ∨ 3 < w32 x2
    · refine AW.tabOut (tg := 84) F dX7_part_15 hq0 (by decide) ?_
      replace hb := hb.1 hq0
      refine AW.ldc (x := (-1000000002)) (pn := 86) F dX7_part_84 rfl tw_329 (by decide) ?_
      exact AW.iret F G dX7_part_86 ⟨rfl, _, rfl, hb⟩
    · have hq1 : w32 x2 = 0 ∨ w32 x2 = 1 ∨ w32 x2 = 2 ∨ w32 x2 = 3 := by omega
      rcases hq1 with hq | hq | hq | hq
      · refine AW.tabIn (tg := 44) 0 F dX7_part_15 hq (by decide) (by decide) rfl (by decide) ?_
        replace hb := hb.2.1 hq
        refine AW.aload_n (pn := 45) F dX7_part_44 rfl rfl rfl ?_
        refine AW.getR (r := 13) (pn := 48) F dX7_part_45 rfl gl_X7_41 so_0 rfl ?_
        refine AW.getR (r := 14) (pn := 51) F dX7_part_48 rfl gl_X7_163 so_13 rfl ?_
        refine AW.iload_n (pn := 52) F dX7_part_51 rfl rfl rfl ?_
        refine AW.iald (pn := 53) F dX7_part_52 rfl so_14 hb (fun v2 hb => ?_)
        exact AW.iret F G dX7_part_53 ⟨rfl, _, rfl, hb⟩
      · refine AW.tabIn (tg := 54) 1 F dX7_part_15 hq (by decide) (by decide) rfl (by decide) ?_
        replace hb := hb.2.2.1 hq
        refine AW.aload_n (pn := 55) F dX7_part_54 rfl rfl rfl ?_
        refine AW.getR (r := 13) (pn := 58) F dX7_part_55 rfl gl_X7_41 so_0 rfl ?_
        refine AW.getR (r := 15) (pn := 61) F dX7_part_58 rfl gl_X7_166 so_13 rfl ?_
        refine AW.iload_n (pn := 62) F dX7_part_61 rfl rfl rfl ?_
        refine AW.iald (pn := 63) F dX7_part_62 rfl so_15 hb (fun v3 hb => ?_)
        exact AW.iret F G dX7_part_63 ⟨rfl, _, rfl, hb⟩
      · refine AW.tabIn (tg := 64) 2 F dX7_part_15 hq (by decide) (by decide) rfl (by decide) ?_
        replace hb := hb.2.2.2.1 hq
        refine AW.aload_n (pn := 65) F dX7_part_64 rfl rfl rfl ?_
        refine AW.getR (r := 13) (pn := 68) F dX7_part_65 rfl gl_X7_41 so_0 rfl ?_
        refine AW.getR (r := 16) (pn := 71) F dX7_part_68 rfl gl_X7_169 so_13 rfl ?_
        refine AW.iload_n (pn := 72) F dX7_part_71 rfl rfl rfl ?_
        refine AW.iald (pn := 73) F dX7_part_72 rfl so_16 hb (fun v4 hb => ?_)
        exact AW.iret F G dX7_part_73 ⟨rfl, _, rfl, hb⟩
      · refine AW.tabIn (tg := 74) 3 F dX7_part_15 hq (by decide) (by decide) rfl (by decide) ?_
        replace hb := hb.2.2.2.2 hq
        refine AW.aload_n (pn := 75) F dX7_part_74 rfl rfl rfl ?_
        refine AW.getR (r := 13) (pn := 78) F dX7_part_75 rfl gl_X7_41 so_0 rfl ?_
        refine AW.getR (r := 17) (pn := 81) F dX7_part_78 rfl gl_X7_172 so_13 rfl ?_
        refine AW.iload_n (pn := 82) F dX7_part_81 rfl rfl rfl ?_
        refine AW.iald (pn := 83) F dX7_part_82 rfl so_17 hb (fun v5 hb => ?_)
        exact AW.iret F G dX7_part_83 ⟨rfl, _, rfl, hb⟩
  · refine AW.ldc (x := (-1000000001)) (pn := 13) F dX7_part_11 rfl tw_493 (by decide) ?_
    exact AW.iret F G dX7_part_13 ⟨rfl, _, rfl, hb⟩

theorem p7_hand_0 (x1 x2 : Int) {h : HP} {Q : Int → Prop} (hb : p7_hand x1 x2 h Q) : MT yX7_hand cX7_hand 3 (some .int) 2 [vR 0, vI x1, vI x2] h (QP h Q) := by
  refine MT.of (own := RX7) (by decide) rfl (Nat.le_of_ble_eq_true rfl) rfl (fun X F G => ?_)
  unfold p7_hand at hb
  refine AW.aload_n (pn := 1) F dX7_hand_0 rfl rfl rfl ?_
  refine AW.getR (r := 13) (pn := 4) F dX7_hand_1 rfl gl_X7_41 so_0 rfl ?_
  refine AW.iload_n (pn := 5) F dX7_hand_4 rfl rfl rfl ?_
  refine AW.cVP (pn := 8) (st := []) F dX7_hand_5 rfl cl_X7_160 so_13 (p5_isPart_13 x1 hb) rfl rfl (Nat.le_of_ble_eq_true rfl) (by decide) (fun r1 hb => ?_)
  refine AW.if_ne (pn := 11) (tg := 14) F dX7_hand_8 rfl (by decide) hb (fun hb => ?_) (fun hb => ?_)
  · refine AW.iload_n (pn := 15) F dX7_hand_14 rfl rfl rfl ?_
    refine AW.if_lt (pn := 18) (tg := 31) F dX7_hand_15 rfl (by decide) hb (fun hb => ?_) (fun hb => ?_)
    · refine AW.iconst (pn := 32) F dX7_hand_31 rfl ?_
      refine AW.goto (tg := 49) F dX7_hand_32 (by decide) ?_
      exact AW.iret F G dX7_hand_49 ⟨rfl, _, rfl, hb⟩
    · refine AW.iload_n (pn := 19) F dX7_hand_18 rfl rfl rfl ?_
      refine AW.aload_n (pn := 20) F dX7_hand_19 rfl rfl rfl ?_
      refine AW.getR (r := 13) (pn := 23) F dX7_hand_20 rfl gl_X7_41 so_0 rfl ?_
      refine AW.getR (r := 17) (pn := 26) F dX7_hand_23 rfl gl_X7_172 so_13 rfl ?_
      refine AW.iload_n (pn := 27) F dX7_hand_26 rfl rfl rfl ?_
      refine AW.iald (pn := 28) F dX7_hand_27 rfl so_17 hb (fun v2 hb => ?_)
      refine AW.icmp_lt (pn := 31) (tg := 35) F dX7_hand_28 rfl (by decide) hb (fun hb => ?_) (fun hb => ?_)
      · refine AW.aload_n (pn := 36) F dX7_hand_35 rfl rfl rfl ?_
        refine AW.getR (r := 13) (pn := 39) F dX7_hand_36 rfl gl_X7_41 so_0 rfl ?_
        refine AW.getR (r := 18) (pn := 42) F dX7_hand_39 rfl gl_X7_175 so_13 rfl ?_
        refine AW.iload_n (pn := 43) F dX7_hand_42 rfl rfl rfl ?_
        refine AW.bipush (pn := 45) F dX7_hand_43 rfl (by decide) ?_
        refine AW.imul (pn := 46) F dX7_hand_45 rfl ?_
        refine AW.iload_n (pn := 47) F dX7_hand_46 rfl rfl rfl ?_
        refine AW.iadd (pn := 48) F dX7_hand_47 rfl ?_
        refine AW.iald (pn := 49) F dX7_hand_48 rfl so_18 hb (fun v3 hb => ?_)
        exact AW.iret F G dX7_hand_49 ⟨rfl, _, rfl, hb⟩
      · refine AW.iconst (pn := 32) F dX7_hand_31 rfl ?_
        refine AW.goto (tg := 49) F dX7_hand_32 (by decide) ?_
        exact AW.iret F G dX7_hand_49 ⟨rfl, _, rfl, hb⟩
  · refine AW.ldc (x := (-1000000001)) (pn := 13) F dX7_hand_11 rfl tw_493 (by decide) ?_
    exact AW.iret F G dX7_hand_13 ⟨rfl, _, rfl, hb⟩

theorem p5_throwOut_13 (x1 x2 : Int) {h : HP} {Q : Int → HP → Prop} (hb : p5_throwOut 13 x1 x2 h Q) : MT yX5_throwOut cX5_throwOut 3 (some .boolean) 1 [vR 13, vI x1, vI x2] h (QI Q) := by
  refine MT.of (own := RX5) (by decide) rfl (Nat.le_of_ble_eq_true rfl) rfl (fun X F G => ?_)
  unfold p5_throwOut at hb
  refine AW.aload_n (pn := 1) F dX5_throwOut_0 rfl rfl rfl ?_
  refine AW.getR (r := 15) (pn := 4) F dX5_throwOut_1 rfl gl_X5_15 so_13 rfl ?_
  refine AW.iload_n (pn := 5) F dX5_throwOut_4 rfl rfl rfl ?_
  refine AW.iald (pn := 6) F dX5_throwOut_5 rfl so_15 hb (fun v1 hb => ?_)
  refine AW.iload_n (pn := 7) F dX5_throwOut_6 rfl rfl rfl ?_
  refine AW.icmp_eq (pn := 10) (tg := 12) F dX5_throwOut_7 rfl (by decide) hb (fun hb => ?_) (fun hb => ?_)
  · refine AW.aload_n (pn := 13) F dX5_throwOut_12 rfl rfl rfl ?_
    refine AW.getR (r := 15) (pn := 16) F dX5_throwOut_13 rfl gl_X5_15 so_13 rfl ?_
    refine AW.iload_n (pn := 17) F dX5_throwOut_16 rfl rfl rfl ?_
    refine AW.iconst (pn := 18) F dX5_throwOut_17 rfl ?_
    refine AW.iast (pn := 19) F dX5_throwOut_18 rfl so_15 hb (fun h2 hb => ?_)
    refine AW.aload_n (pn := 20) F dX5_throwOut_19 rfl rfl rfl ?_
    refine AW.getR (r := 16) (pn := 23) F dX5_throwOut_20 rfl gl_X5_18 so_13 rfl ?_
    refine AW.iload_n (pn := 24) F dX5_throwOut_23 rfl rfl rfl ?_
    refine AW.iload_n (pn := 25) F dX5_throwOut_24 rfl rfl rfl ?_
    refine AW.iast (pn := 26) F dX5_throwOut_25 rfl so_16 hb (fun h3 hb => ?_)
    refine AW.aload_n (pn := 27) F dX5_throwOut_26 rfl rfl rfl ?_
    refine AW.getR (r := 19) (pn := 30) F dX5_throwOut_27 rfl gl_X5_27 so_13 rfl ?_
    refine AW.iload_n (pn := 31) F dX5_throwOut_30 rfl rfl rfl ?_
    refine AW.dup2IR (pn := 32) F dX5_throwOut_31 rfl ?_
    refine AW.iald (pn := 33) F dX5_throwOut_32 rfl so_19 hb (fun v4 hb => ?_)
    refine AW.iconst (pn := 34) F dX5_throwOut_33 rfl ?_
    refine AW.isub (pn := 35) F dX5_throwOut_34 rfl ?_
    refine AW.iast (pn := 36) F dX5_throwOut_35 rfl so_19 hb (fun h5 hb => ?_)
    refine AW.aload_n (pn := 37) F dX5_throwOut_36 rfl rfl rfl ?_
    refine AW.getR (r := 20) (pn := 40) F dX5_throwOut_37 rfl gl_X5_30 so_13 rfl ?_
    refine AW.iload_n (pn := 41) F dX5_throwOut_40 rfl rfl rfl ?_
    refine AW.bipush (pn := 43) F dX5_throwOut_41 rfl (by decide) ?_
    refine AW.imul (pn := 44) F dX5_throwOut_43 rfl ?_
    refine AW.aload_n (pn := 45) F dX5_throwOut_44 rfl rfl rfl ?_
    refine AW.getR (r := 14) (pn := 48) F dX5_throwOut_45 rfl gl_X5_9 so_13 rfl ?_
    refine AW.iload_n (pn := 49) F dX5_throwOut_48 rfl rfl rfl ?_
    refine AW.iald (pn := 50) F dX5_throwOut_49 rfl so_14 hb (fun v6 hb => ?_)
    refine AW.iadd (pn := 51) F dX5_throwOut_50 rfl ?_
    refine AW.dup2IR (pn := 52) F dX5_throwOut_51 rfl ?_
    refine AW.iald (pn := 53) F dX5_throwOut_52 rfl so_20 hb (fun v7 hb => ?_)
    refine AW.iconst (pn := 54) F dX5_throwOut_53 rfl ?_
    refine AW.isub (pn := 55) F dX5_throwOut_54 rfl ?_
    refine AW.iast (pn := 56) F dX5_throwOut_55 rfl so_20 hb (fun h8 hb => ?_)
    refine AW.aload_n (pn := 57) F dX5_throwOut_56 rfl rfl rfl ?_
    refine AW.dupR (pn := 58) F dX5_throwOut_57 rfl ?_
    refine AW.getI (pn := 61) F dX5_throwOut_58 rfl gl_X5_82 so_13 rfl ?_
    refine AW.iconst (pn := 62) F dX5_throwOut_61 rfl ?_
    refine AW.iadd (pn := 63) F dX5_throwOut_62 rfl ?_
    refine AW.putI (pn := 66) F dX5_throwOut_63 rfl pl_X5_82 so_13 rfl hb (fun h9 hb => ?_)
    refine AW.iconst (pn := 67) F dX5_throwOut_66 rfl ?_
    exact AW.zret F G dX5_throwOut_67 (by decide) ⟨_, rfl, hb⟩
  · refine AW.iconst (pn := 11) F dX5_throwOut_10 rfl ?_
    exact AW.zret F G dX5_throwOut_11 (by decide) ⟨_, rfl, hb⟩

theorem p7_toss_0 (x1 x2 : Int) {h : HP} {Q : Int → HP → Prop} (hb : p7_toss x1 x2 h Q) : MT yX7_toss cX7_toss 3 (some .int) 2 [vR 0, vI x1, vI x2] h (QI Q) := by
  refine MT.of (own := RX7) (by decide) rfl (Nat.le_of_ble_eq_true rfl) rfl (fun X F G => ?_)
  unfold p7_toss at hb
  refine AW.aload_n (pn := 1) F dX7_toss_0 rfl rfl rfl ?_
  refine AW.getR (r := 2) (pn := 4) F dX7_toss_1 rfl gl_X7_20 so_0 rfl ?_
  refine AW.iload_n (pn := 5) F dX7_toss_4 rfl rfl rfl ?_
  refine AW.cVP (pn := 8) (st := []) F dX7_toss_5 rfl cl_X7_133 so_2 (p4_isHouse_2 x1 hb) rfl rfl (Nat.le_of_ble_eq_true rfl) (by decide) (fun r1 hb => ?_)
  refine AW.if_eq (pn := 11) (tg := 22) F dX7_toss_8 rfl (by decide) hb (fun hb => ?_) (fun hb => ?_)
  · refine AW.ldc (x := (-1000000001)) (pn := 24) F dX7_toss_22 rfl tw_493 (by decide) ?_
    exact AW.iret F G dX7_toss_24 ⟨_, rfl, hb⟩
  · refine AW.aload_n (pn := 12) F dX7_toss_11 rfl rfl rfl ?_
    refine AW.getR (r := 13) (pn := 15) F dX7_toss_12 rfl gl_X7_41 so_0 rfl ?_
    refine AW.iload_n (pn := 16) F dX7_toss_15 rfl rfl rfl ?_
    refine AW.cVP (pn := 19) (st := []) F dX7_toss_16 rfl cl_X7_160 so_13 (p5_isPart_13 x2 hb) rfl rfl (Nat.le_of_ble_eq_true rfl) (by decide) (fun r2 hb => ?_)
    refine AW.if_ne (pn := 22) (tg := 25) F dX7_toss_19 rfl (by decide) hb (fun hb => ?_) (fun hb => ?_)
    · refine AW.aload_n (pn := 26) F dX7_toss_25 rfl rfl rfl ?_
      refine AW.getR (r := 13) (pn := 29) F dX7_toss_26 rfl gl_X7_41 so_0 rfl ?_
      refine AW.iload_n (pn := 30) F dX7_toss_29 rfl rfl rfl ?_
      refine AW.iload_n (pn := 31) F dX7_toss_30 rfl rfl rfl ?_
      refine AW.cVI (pn := 34) (st := []) F dX7_toss_31 rfl cl_X7_178 so_13 (p5_throwOut_13 x1 x2 hb) rfl rfl (Nat.le_of_ble_eq_true rfl) (by decide) (fun r3 h4 hb => ?_)
      refine AW.if_eq (pn := 37) (tg := 49) F dX7_toss_34 rfl (by decide) hb (fun hb => ?_) (fun hb => ?_)
      · refine AW.ldc (x := (-1000000003)) (pn := 51) F dX7_toss_49 rfl tw_539 (by decide) ?_
        exact AW.iret F G dX7_toss_51 ⟨_, rfl, hb⟩
      · refine AW.aload_n (pn := 38) F dX7_toss_37 rfl rfl rfl ?_
        refine AW.getR (r := 13) (pn := 41) F dX7_toss_38 rfl gl_X7_41 so_0 rfl ?_
        refine AW.getR (r := 19) (pn := 44) F dX7_toss_41 rfl gl_X7_140 so_13 rfl ?_
        refine AW.iload_n (pn := 45) F dX7_toss_44 rfl rfl rfl ?_
        refine AW.iald (pn := 46) F dX7_toss_45 rfl so_19 hb (fun v5 hb => ?_)
        refine AW.goto (tg := 51) F dX7_toss_46 (by decide) ?_
        exact AW.iret F G dX7_toss_51 ⟨_, rfl, hb⟩
    · refine AW.ldc (x := (-1000000001)) (pn := 24) F dX7_toss_22 rfl tw_493 (by decide) ?_
      exact AW.iret F G dX7_toss_24 ⟨_, rfl, hb⟩

theorem p5_mayTake_13 (x1 x2 : Int) {h : HP} {Q : Int → Prop} (hb : p5_mayTake 13 x1 x2 h Q) : MT yX5_mayTake cX5_mayTake 3 (some .boolean) 2 [vR 13, vI x1, vI x2] h (QP h Q) := by
  refine MT.of (own := RX5) (by decide) rfl (Nat.le_of_ble_eq_true rfl) rfl (fun X F G => ?_)
  unfold p5_mayTake at hb
  refine AW.aload_n (pn := 1) F dX5_mayTake_0 rfl rfl rfl ?_
  refine AW.getR (r := 19) (pn := 4) F dX5_mayTake_1 rfl gl_X5_27 so_13 rfl ?_
  refine AW.iload_n (pn := 5) F dX5_mayTake_4 rfl rfl rfl ?_
  refine AW.iald (pn := 6) F dX5_mayTake_5 rfl so_19 hb (fun v1 hb => ?_)
  refine AW.iconst (pn := 7) F dX5_mayTake_6 rfl ?_
  refine AW.icmp_ge (pn := 10) (tg := 32) F dX5_mayTake_7 rfl (by decide) hb (fun hb => ?_) (fun hb => ?_)
  · refine AW.iconst (pn := 33) F dX5_mayTake_32 rfl ?_
    exact AW.zret F G dX5_mayTake_33 (by decide) ⟨rfl, _, rfl, hb⟩
  · refine AW.aload_n (pn := 11) F dX5_mayTake_10 rfl rfl rfl ?_
    refine AW.iload_n (pn := 12) F dX5_mayTake_11 rfl rfl rfl ?_
    refine AW.cVP (pn := 15) (st := []) F dX5_mayTake_12 rfl cl_X5_74 so_13 (p5_lies_13 x2 hb) rfl rfl (Nat.le_of_ble_eq_true rfl) (by decide) (fun r2 hb => ?_)
    refine AW.if_eq (pn := 18) (tg := 32) F dX5_mayTake_15 rfl (by decide) hb (fun hb => ?_) (fun hb => ?_)
    · refine AW.iconst (pn := 33) F dX5_mayTake_32 rfl ?_
      exact AW.zret F G dX5_mayTake_33 (by decide) ⟨rfl, _, rfl, hb⟩
    · refine AW.aload_n (pn := 19) F dX5_mayTake_18 rfl rfl rfl ?_
      refine AW.getR (r := 16) (pn := 22) F dX5_mayTake_19 rfl gl_X5_18 so_13 rfl ?_
      refine AW.iload_n (pn := 23) F dX5_mayTake_22 rfl rfl rfl ?_
      refine AW.iald (pn := 24) F dX5_mayTake_23 rfl so_16 hb (fun v3 hb => ?_)
      refine AW.iload_n (pn := 25) F dX5_mayTake_24 rfl rfl rfl ?_
      refine AW.icmp_eq (pn := 28) (tg := 32) F dX5_mayTake_25 rfl (by decide) hb (fun hb => ?_) (fun hb => ?_)
      · refine AW.iconst (pn := 33) F dX5_mayTake_32 rfl ?_
        exact AW.zret F G dX5_mayTake_33 (by decide) ⟨rfl, _, rfl, hb⟩
      · refine AW.iconst (pn := 29) F dX5_mayTake_28 rfl ?_
        refine AW.goto (tg := 33) F dX5_mayTake_29 (by decide) ?_
        exact AW.zret F G dX5_mayTake_33 (by decide) ⟨rfl, _, rfl, hb⟩

theorem p5_carryHome_13 (x1 x2 : Int) {h : HP} {Q : Int → HP → Prop} (hb : p5_carryHome 13 x1 x2 h Q) : MT yX5_carryHome cX5_carryHome 3 (some .boolean) 3 [vR 13, vI x1, vI x2] h (QI Q) := by
  refine MT.of (own := RX5) (by decide) rfl (Nat.le_of_ble_eq_true rfl) rfl (fun X F G => ?_)
  unfold p5_carryHome at hb
  refine AW.aload_n (pn := 1) F dX5_carryHome_0 rfl rfl rfl ?_
  refine AW.iload_n (pn := 2) F dX5_carryHome_1 rfl rfl rfl ?_
  refine AW.iload_n (pn := 3) F dX5_carryHome_2 rfl rfl rfl ?_
  refine AW.cVP (pn := 6) (st := []) F dX5_carryHome_3 rfl cl_X5_85 so_13 (p5_mayTake_13 x1 x2 hb) rfl rfl (Nat.le_of_ble_eq_true rfl) (by decide) (fun r1 hb => ?_)
  refine AW.if_ne (pn := 9) (tg := 11) F dX5_carryHome_6 rfl (by decide) hb (fun hb => ?_) (fun hb => ?_)
  · refine AW.aload_n (pn := 12) F dX5_carryHome_11 rfl rfl rfl ?_
    refine AW.iload_n (pn := 13) F dX5_carryHome_12 rfl rfl rfl ?_
    refine AW.iload_n (pn := 14) F dX5_carryHome_13 rfl rfl rfl ?_
    refine AW.cVV (pn := 17) (st := []) F dX5_carryHome_14 rfl cl_X5_78 so_13 (p5_handOver_13 x1 x2 hb) rfl rfl (Nat.le_of_ble_eq_true rfl) (by decide) (fun h2 hb => ?_)
    refine AW.aload_n (pn := 18) F dX5_carryHome_17 rfl rfl rfl ?_
    refine AW.dupR (pn := 19) F dX5_carryHome_18 rfl ?_
    refine AW.getI (pn := 22) F dX5_carryHome_19 rfl gl_X5_82 so_13 rfl ?_
    refine AW.iconst (pn := 23) F dX5_carryHome_22 rfl ?_
    refine AW.iadd (pn := 24) F dX5_carryHome_23 rfl ?_
    refine AW.putI (pn := 27) F dX5_carryHome_24 rfl pl_X5_82 so_13 rfl hb (fun h3 hb => ?_)
    refine AW.iconst (pn := 28) F dX5_carryHome_27 rfl ?_
    exact AW.zret F G dX5_carryHome_28 (by decide) ⟨_, rfl, hb⟩
  · refine AW.iconst (pn := 10) F dX5_carryHome_9 rfl ?_
    exact AW.zret F G dX5_carryHome_10 (by decide) ⟨_, rfl, hb⟩

theorem p7_take_0 (x1 x2 : Int) {h : HP} {Q : Int → HP → Prop} (hb : p7_take x1 x2 h Q) : MT yX7_take cX7_take 3 (some .int) 4 [vR 0, vI x1, vI x2] h (QI Q) := by
  refine MT.of (own := RX7) (by decide) rfl (Nat.le_of_ble_eq_true rfl) rfl (fun X F G => ?_)
  unfold p7_take at hb
  refine AW.aload_n (pn := 1) F dX7_take_0 rfl rfl rfl ?_
  refine AW.getR (r := 2) (pn := 4) F dX7_take_1 rfl gl_X7_20 so_0 rfl ?_
  refine AW.iload_n (pn := 5) F dX7_take_4 rfl rfl rfl ?_
  refine AW.cVP (pn := 8) (st := []) F dX7_take_5 rfl cl_X7_133 so_2 (p4_isHouse_2 x1 hb) rfl rfl (Nat.le_of_ble_eq_true rfl) (by decide) (fun r1 hb => ?_)
  refine AW.if_eq (pn := 11) (tg := 22) F dX7_take_8 rfl (by decide) hb (fun hb => ?_) (fun hb => ?_)
  · refine AW.ldc (x := (-1000000001)) (pn := 24) F dX7_take_22 rfl tw_493 (by decide) ?_
    exact AW.iret F G dX7_take_24 ⟨_, rfl, hb⟩
  · refine AW.aload_n (pn := 12) F dX7_take_11 rfl rfl rfl ?_
    refine AW.getR (r := 13) (pn := 15) F dX7_take_12 rfl gl_X7_41 so_0 rfl ?_
    refine AW.iload_n (pn := 16) F dX7_take_15 rfl rfl rfl ?_
    refine AW.cVP (pn := 19) (st := []) F dX7_take_16 rfl cl_X7_160 so_13 (p5_isPart_13 x2 hb) rfl rfl (Nat.le_of_ble_eq_true rfl) (by decide) (fun r2 hb => ?_)
    refine AW.if_ne (pn := 22) (tg := 25) F dX7_take_19 rfl (by decide) hb (fun hb => ?_) (fun hb => ?_)
    · refine AW.aload_n (pn := 26) F dX7_take_25 rfl rfl rfl ?_
      refine AW.getR (r := 13) (pn := 29) F dX7_take_26 rfl gl_X7_41 so_0 rfl ?_
      refine AW.iload_n (pn := 30) F dX7_take_29 rfl rfl rfl ?_
      refine AW.iload_n (pn := 31) F dX7_take_30 rfl rfl rfl ?_
      refine AW.cVI (pn := 34) (st := []) F dX7_take_31 rfl cl_X7_183 so_13 (p5_carryHome_13 x1 x2 hb) rfl rfl (Nat.le_of_ble_eq_true rfl) (by decide) (fun r3 h4 hb => ?_)
      refine AW.if_eq (pn := 37) (tg := 49) F dX7_take_34 rfl (by decide) hb (fun hb => ?_) (fun hb => ?_)
      · refine AW.ldc (x := (-1000000003)) (pn := 51) F dX7_take_49 rfl tw_539 (by decide) ?_
        exact AW.iret F G dX7_take_51 ⟨_, rfl, hb⟩
      · refine AW.aload_n (pn := 38) F dX7_take_37 rfl rfl rfl ?_
        refine AW.getR (r := 13) (pn := 41) F dX7_take_38 rfl gl_X7_41 so_0 rfl ?_
        refine AW.getR (r := 19) (pn := 44) F dX7_take_41 rfl gl_X7_140 so_13 rfl ?_
        refine AW.iload_n (pn := 45) F dX7_take_44 rfl rfl rfl ?_
        refine AW.iald (pn := 46) F dX7_take_45 rfl so_19 hb (fun v5 hb => ?_)
        refine AW.goto (tg := 51) F dX7_take_46 (by decide) ?_
        exact AW.iret F G dX7_take_51 ⟨_, rfl, hb⟩
    · refine AW.ldc (x := (-1000000001)) (pn := 24) F dX7_take_22 rfl tw_493 (by decide) ?_
      exact AW.iret F G dX7_take_24 ⟨_, rfl, hb⟩

theorem p7_ashore_0 (x1 : Int) {h : HP} {Q : Int → HP → Prop} (hb : p7_ashore x1 h Q) : MT yX7_ashore cX7_ashore 2 (some .int) 3 [vR 0, vI x1] h (QI Q) := by
  refine MT.of (own := RX7) (by decide) rfl (Nat.le_of_ble_eq_true rfl) rfl (fun X F G => ?_)
  unfold p7_ashore at hb
  refine AW.aload_n (pn := 1) F dX7_ashore_0 rfl rfl rfl ?_
  refine AW.getR (r := 2) (pn := 4) F dX7_ashore_1 rfl gl_X7_20 so_0 rfl ?_
  refine AW.iload_n (pn := 5) F dX7_ashore_4 rfl rfl rfl ?_
  refine AW.cVP (pn := 8) (st := []) F dX7_ashore_5 rfl cl_X7_153 so_2 (p4_isSort_2 x1 hb) rfl rfl (Nat.le_of_ble_eq_true rfl) (by decide) (fun r1 hb => ?_)
  refine AW.if_ne (pn := 11) (tg := 14) F dX7_ashore_8 rfl (by decide) hb (fun hb => ?_) (fun hb => ?_)
  · refine AW.aload_n (pn := 15) F dX7_ashore_14 rfl rfl rfl ?_
    refine AW.getR (r := 13) (pn := 18) F dX7_ashore_15 rfl gl_X7_41 so_0 rfl ?_
    refine AW.iload_n (pn := 19) F dX7_ashore_18 rfl rfl rfl ?_
    refine AW.iconst (pn := 20) F dX7_ashore_19 rfl ?_
    refine AW.cVI (pn := 23) (st := []) F dX7_ashore_20 rfl cl_X7_186 so_13 (p5_addPart_13 x1 (-1) hb) rfl rfl (Nat.le_of_ble_eq_true rfl) (by decide) (fun r2 h3 hb => ?_)
    refine AW.if_eq (pn := 26) (tg := 38) F dX7_ashore_23 rfl (by decide) hb (fun hb => ?_) (fun hb => ?_)
    · refine AW.ldc (x := (-1000000004)) (pn := 40) F dX7_ashore_38 rfl tw_330 (by decide) ?_
      exact AW.iret F G dX7_ashore_40 ⟨_, rfl, hb⟩
    · refine AW.aload_n (pn := 27) F dX7_ashore_26 rfl rfl rfl ?_
      refine AW.getR (r := 13) (pn := 30) F dX7_ashore_27 rfl gl_X7_41 so_0 rfl ?_
      refine AW.getI (pn := 33) F dX7_ashore_30 rfl gl_X7_114 so_13 rfl ?_
      refine AW.iconst (pn := 34) F dX7_ashore_33 rfl ?_
      refine AW.isub (pn := 35) F dX7_ashore_34 rfl ?_
      refine AW.goto (tg := 40) F dX7_ashore_35 (by decide) ?_
      exact AW.iret F G dX7_ashore_40 ⟨_, rfl, hb⟩
  · refine AW.ldc (x := (-1000000001)) (pn := 13) F dX7_ashore_11 rfl tw_493 (by decide) ?_
    exact AW.iret F G dX7_ashore_13 ⟨_, rfl, hb⟩

theorem p5_gainOf_13 (x1 x2 : Int) {h : HP} {Q : Int → Prop} (hb : p5_gainOf 13 x1 x2 h Q) : MT yX5_gainOf cX5_gainOf 3 (some .int) 2 [vR 13, vI x1, vI x2] h (QP h Q) := by
  refine MT.of (own := RX5) (by decide) rfl (Nat.le_of_ble_eq_true rfl) rfl (fun X F G => ?_)
  unfold p5_gainOf at hb
  refine AW.aload_n (pn := 1) F dX5_gainOf_0 rfl rfl rfl ?_
  refine AW.getR (r := 20) (pn := 4) F dX5_gainOf_1 rfl gl_X5_30 so_13 rfl ?_
  refine AW.iload_n (pn := 5) F dX5_gainOf_4 rfl rfl rfl ?_
  refine AW.bipush (pn := 7) F dX5_gainOf_5 rfl (by decide) ?_
  refine AW.imul (pn := 8) F dX5_gainOf_7 rfl ?_
  refine AW.iload_n (pn := 9) F dX5_gainOf_8 rfl rfl rfl ?_
  refine AW.iadd (pn := 10) F dX5_gainOf_9 rfl ?_
  refine AW.iald (pn := 11) F dX5_gainOf_10 rfl so_20 hb (fun v1 hb => ?_)
  refine AW.if_ne (pn := 14) (tg := 26) F dX5_gainOf_11 rfl (by decide) hb (fun hb => ?_) (fun hb => ?_)
  · refine AW.iconst (pn := 27) F dX5_gainOf_26 rfl ?_
    exact AW.iret F G dX5_gainOf_27 ⟨rfl, _, rfl, hb⟩
  · refine AW.aload_n (pn := 15) F dX5_gainOf_14 rfl rfl rfl ?_
    refine AW.getR (r := 2) (pn := 18) F dX5_gainOf_15 rfl gl_X5_33 so_13 rfl ?_
    refine AW.iload_n (pn := 19) F dX5_gainOf_18 rfl rfl rfl ?_
    refine AW.iload_n (pn := 20) F dX5_gainOf_19 rfl rfl rfl ?_
    refine AW.cVP (pn := 23) (st := []) F dX5_gainOf_20 rfl cl_X5_88 so_2 (p4_worthOf_2 x1 x2 hb) rfl rfl (Nat.le_of_ble_eq_true rfl) (by decide) (fun r2 hb => ?_)
    refine AW.goto (tg := 27) F dX5_gainOf_23 (by decide) ?_
    exact AW.iret F G dX5_gainOf_27 ⟨rfl, _, rfl, hb⟩

theorem p5_firstAt_L41_ok_13 {X : Cx} {x1 x2 : Int} {h : HP} {Q : Int → Prop} (F : Fx X cX5_firstAt RX5 10 3) (G : Rx X (some .int) (QP h Q))  : ∀ (n : Nat) (x3 : Int) (x4 : Int) (x5 : Int) (x6 : Int), p5_firstAt_L41 13 x1 x2 h Q n x3 x4 x5 x6 → AW X 10 41 [some (vR 13), some (vI x1), some (vI x2), some (vI x3), some (vI x4), some (vI x5), some (vI x6), none, none, none] [] h := by
  intro n
  induction n with
  | zero => intro _ _ _ _ hb; exact hb.elim
  | succ n ih =>
    intro x3 x4 x5 x6 hb
    unfold p5_firstAt_L41 at hb
    refine AW.iload (pn := 43) F dX5_firstAt_41 rfl rfl ?_
    refine AW.aload_n (pn := 44) F dX5_firstAt_43 rfl rfl rfl ?_
    refine AW.getR (r := 2) (pn := 47) F dX5_firstAt_44 rfl gl_X5_33 so_13 rfl ?_
    refine AW.getI (pn := 50) F dX5_firstAt_47 rfl gl_X5_101 so_2 rfl ?_
    refine AW.icmp_ge (pn := 53) (tg := 154) F dX5_firstAt_50 rfl (by decide) hb (fun hb => ?_) (fun hb => ?_)
    · refine AW.iload_n (pn := 155) F dX5_firstAt_154 rfl rfl rfl ?_
      exact AW.iret F G dX5_firstAt_155 ⟨rfl, _, rfl, hb⟩
    · refine AW.aload_n (pn := 54) F dX5_firstAt_53 rfl rfl rfl ?_
      refine AW.iload (pn := 56) F dX5_firstAt_54 rfl rfl ?_
      refine AW.aload_n (pn := 57) F dX5_firstAt_56 rfl rfl rfl ?_
      refine AW.getR (r := 14) (pn := 60) F dX5_firstAt_57 rfl gl_X5_9 so_13 rfl ?_
      refine AW.iload_n (pn := 61) F dX5_firstAt_60 rfl rfl rfl ?_
      refine AW.iald (pn := 62) F dX5_firstAt_61 rfl so_14 hb (fun v7 hb => ?_)
      refine AW.cVP (pn := 65) (st := []) F dX5_firstAt_62 rfl cl_X5_92 so_13 (p5_gainOf_13 x6 v7 hb) rfl rfl (Nat.le_of_ble_eq_true rfl) (by decide) (fun r8 hb => ?_)
      refine AW.istore (ls2 := [some (vR 13), some (vI x1), some (vI x2), some (vI x3), some (vI x4), some (vI x5), some (vI x6), some (vI r8), none, none]) (pn := 67) F dX5_firstAt_65 rfl (by decide) rfl rfl ?_
      refine AW.aload_n (pn := 68) F dX5_firstAt_67 rfl rfl rfl ?_
      refine AW.getR (r := 2) (pn := 71) F dX5_firstAt_68 rfl gl_X5_33 so_13 rfl ?_
      refine AW.getR (r := 3) (pn := 74) F dX5_firstAt_71 rfl gl_X5_104 so_2 rfl ?_
      refine AW.iload (pn := 76) F dX5_firstAt_74 rfl rfl ?_
      refine AW.iald (pn := 77) F dX5_firstAt_76 rfl so_3 hb (fun v9 hb => ?_)
      refine AW.iload_n (pn := 78) F dX5_firstAt_77 rfl rfl rfl ?_
      refine AW.isub (pn := 79) F dX5_firstAt_78 rfl ?_
      refine AW.mabs (pn := 82) F dX5_firstAt_79 rfl tw_570 tw_571 tw_10 tw_572 (by decide) (Nat.le_of_ble_eq_true rfl) ?_
      refine AW.istore (ls2 := [some (vR 13), some (vI x1), some (vI x2), some (vI x3), some (vI x4), some (vI x5), some (vI x6), some (vI r8), some (vI (ab (v9 - x2))), none]) (pn := 84) F dX5_firstAt_82 rfl (by decide) rfl rfl ?_
      refine AW.iload_n (pn := 85) F dX5_firstAt_84 rfl rfl rfl ?_
      refine AW.iconst (pn := 86) F dX5_firstAt_85 rfl ?_
      refine jn_1 hb (fun (y12 : Int) => AW X 10 115 [some (vR 13), some (vI x1), some (vI x2), some (vI x3), some (vI x4), some (vI x5), some (vI x6), some (vI r8), some (vI (ab (v9 - x2))), none] [vI y12] h) (fun y12 hb => ?_) (fun K13 hK13 hb => ?_)
      · refine AW.istore (ls2 := [some (vR 13), some (vI x1), some (vI x2), some (vI x3), some (vI x4), some (vI x5), some (vI x6), some (vI r8), some (vI (ab (v9 - x2))), some (vI y12)]) (pn := 117) F dX5_firstAt_115 rfl (by decide) rfl rfl ?_
        refine AW.iload (pn := 119) F dX5_firstAt_117 rfl rfl ?_
        refine AW.if_le (pn := 122) (tg := 148) F dX5_firstAt_119 rfl (by decide) hb (fun hb => ?_) (fun hb => ?_)
        · refine AW.iinc (ls2 := [some (vR 13), some (vI x1), some (vI x2), some (vI x3), some (vI x4), some (vI x5), some (vI (x6 + 1)), some (vI r8), some (vI (ab (v9 - x2))), some (vI y12)]) (pn := 151) F dX5_firstAt_148 rfl rfl (by decide) rfl rfl ?_
          refine AW.goto (tg := 41) F dX5_firstAt_151 (by decide) ?_
          refine AW.drop [true, true, true, true, true, true, true, false, false, false] rfl ?_
          exact ih _ _ _ _ hb
        · refine AW.aload_n (pn := 123) F dX5_firstAt_122 rfl rfl rfl ?_
          refine AW.iload (pn := 125) F dX5_firstAt_123 rfl rfl ?_
          refine AW.iload_n (pn := 126) F dX5_firstAt_125 rfl rfl rfl ?_
          refine AW.cVP (pn := 129) (st := []) F dX5_firstAt_126 rfl cl_X5_85 so_13 (p5_mayTake_13 x6 x1 hb) rfl rfl (Nat.le_of_ble_eq_true rfl) (by decide) (fun r14 hb => ?_)
          refine AW.if_eq (pn := 132) (tg := 148) F dX5_firstAt_129 rfl (by decide) hb (fun hb => ?_) (fun hb => ?_)
          · refine AW.iinc (ls2 := [some (vR 13), some (vI x1), some (vI x2), some (vI x3), some (vI x4), some (vI x5), some (vI (x6 + 1)), some (vI r8), some (vI (ab (v9 - x2))), some (vI y12)]) (pn := 151) F dX5_firstAt_148 rfl rfl (by decide) rfl rfl ?_
            refine AW.goto (tg := 41) F dX5_firstAt_151 (by decide) ?_
            refine AW.drop [true, true, true, true, true, true, true, false, false, false] rfl ?_
            exact ih _ _ _ _ hb
          · refine AW.iload (pn := 134) F dX5_firstAt_132 rfl rfl ?_
            refine AW.if_eq (pn := 137) (tg := 148) F dX5_firstAt_134 rfl (by decide) hb (fun hb => ?_) (fun hb => ?_)
            · refine AW.iinc (ls2 := [some (vR 13), some (vI x1), some (vI x2), some (vI x3), some (vI x4), some (vI x5), some (vI (x6 + 1)), some (vI r8), some (vI (ab (v9 - x2))), some (vI y12)]) (pn := 151) F dX5_firstAt_148 rfl rfl (by decide) rfl rfl ?_
              refine AW.goto (tg := 41) F dX5_firstAt_151 (by decide) ?_
              refine AW.drop [true, true, true, true, true, true, true, false, false, false] rfl ?_
              exact ih _ _ _ _ hb
            · refine AW.iload (pn := 139) F dX5_firstAt_137 rfl rfl ?_
              refine AW.istore_n (ls2 := [some (vR 13), some (vI x1), some (vI x2), some (vI x6), some (vI x4), some (vI x5), some (vI x6), some (vI r8), some (vI (ab (v9 - x2))), some (vI y12)]) (pn := 140) F dX5_firstAt_139 rfl rfl (by decide) rfl rfl ?_
              refine AW.iload (pn := 142) F dX5_firstAt_140 rfl rfl ?_
              refine AW.istore (ls2 := [some (vR 13), some (vI x1), some (vI x2), some (vI x6), some (vI (ab (v9 - x2))), some (vI x5), some (vI x6), some (vI r8), some (vI (ab (v9 - x2))), some (vI y12)]) (pn := 144) F dX5_firstAt_142 rfl (by decide) rfl rfl ?_
              refine AW.iload (pn := 146) F dX5_firstAt_144 rfl rfl ?_
              refine AW.istore (ls2 := [some (vR 13), some (vI x1), some (vI x2), some (vI x6), some (vI (ab (v9 - x2))), some (vI r8), some (vI x6), some (vI r8), some (vI (ab (v9 - x2))), some (vI y12)]) (pn := 148) F dX5_firstAt_146 rfl (by decide) rfl rfl ?_
              refine AW.iinc (ls2 := [some (vR 13), some (vI x1), some (vI x2), some (vI x6), some (vI (ab (v9 - x2))), some (vI r8), some (vI (x6 + 1)), some (vI r8), some (vI (ab (v9 - x2))), some (vI y12)]) (pn := 151) F dX5_firstAt_148 rfl rfl (by decide) rfl rfl ?_
              refine AW.goto (tg := 41) F dX5_firstAt_151 (by decide) ?_
              refine AW.drop [true, true, true, true, true, true, true, false, false, false] rfl ?_
              exact ih _ _ _ _ hb
      refine jn_0 hb (AW X 10 110 [some (vR 13), some (vI x1), some (vI x2), some (vI x3), some (vI x4), some (vI x5), some (vI x6), some (vI r8), some (vI (ab (v9 - x2))), none] [] h) (fun  hb => ?_) (fun K15 hK15 hb => ?_)
      · refine AW.iconst (pn := 111) F dX5_firstAt_110 rfl ?_
        refine AW.goto (tg := 115) F dX5_firstAt_111 (by decide) ?_
        exact hK13 _ hb
      refine AW.icmp_eq (pn := 89) (tg := 110) F dX5_firstAt_86 rfl (by decide) hb (fun hb => ?_) (fun hb => ?_)
      · exact hK15 hb
      · refine AW.iload (pn := 91) F dX5_firstAt_89 rfl rfl ?_
        refine AW.iload (pn := 93) F dX5_firstAt_91 rfl rfl ?_
        refine AW.icmp_lt (pn := 96) (tg := 110) F dX5_firstAt_93 rfl (by decide) hb (fun hb => ?_) (fun hb => ?_)
        · exact hK15 hb
        · refine AW.iload (pn := 98) F dX5_firstAt_96 rfl rfl ?_
          refine AW.iload (pn := 100) F dX5_firstAt_98 rfl rfl ?_
          refine jn_0 hb (AW X 10 114 [some (vR 13), some (vI x1), some (vI x2), some (vI x3), some (vI x4), some (vI x5), some (vI x6), some (vI r8), some (vI (ab (v9 - x2))), none] [] h) (fun  hb => ?_) (fun K16 hK16 hb => ?_)
          · refine AW.iconst (pn := 115) F dX5_firstAt_114 rfl ?_
            exact hK13 _ hb
          refine AW.icmp_ne (pn := 103) (tg := 114) F dX5_firstAt_100 rfl (by decide) hb (fun hb => ?_) (fun hb => ?_)
          · exact hK16 hb
          · refine AW.iload (pn := 105) F dX5_firstAt_103 rfl rfl ?_
            refine AW.iload (pn := 107) F dX5_firstAt_105 rfl rfl ?_
            refine AW.icmp_le (pn := 110) (tg := 114) F dX5_firstAt_107 rfl (by decide) hb (fun hb => ?_) (fun hb => ?_)
            · exact hK16 hb
            · exact hK15 hb

theorem p5_firstAt_13 (x1 : Int) {h : HP} {Q : Int → Prop} (hb : p5_firstAt 13 x1 h Q) : MT yX5_firstAt cX5_firstAt 10 (some .int) 3 [vR 13, vI x1] h (QP h Q) := by
  refine MT.of (own := RX5) (by decide) rfl (Nat.le_of_ble_eq_true rfl) rfl (fun X F G => ?_)
  unfold p5_firstAt at hb
  refine AW.aload_n (pn := 1) F dX5_firstAt_0 rfl rfl rfl ?_
  refine AW.getR (r := 16) (pn := 4) F dX5_firstAt_1 rfl gl_X5_18 so_13 rfl ?_
  refine AW.iload_n (pn := 5) F dX5_firstAt_4 rfl rfl rfl ?_
  refine AW.iald (pn := 6) F dX5_firstAt_5 rfl so_16 hb (fun v1 hb => ?_)
  refine AW.iconst (pn := 7) F dX5_firstAt_6 rfl ?_
  refine jn_1 hb (fun (y5 : Int) => AW X 10 29 [some (vR 13), some (vI x1), none, none, none, none, none, none, none, none] [vI y5] h) (fun y5 hb => ?_) (fun K6 hK6 hb => ?_)
  · refine AW.istore_n (ls2 := [some (vR 13), some (vI x1), some (vI y5), none, none, none, none, none, none, none]) (pn := 30) F dX5_firstAt_29 rfl rfl (by decide) rfl rfl ?_
    refine AW.iconst (pn := 31) F dX5_firstAt_30 rfl ?_
    refine AW.istore_n (ls2 := [some (vR 13), some (vI x1), some (vI y5), some (vI (-1)), none, none, none, none, none, none]) (pn := 32) F dX5_firstAt_31 rfl rfl (by decide) rfl rfl ?_
    refine AW.iconst (pn := 33) F dX5_firstAt_32 rfl ?_
    refine AW.istore (ls2 := [some (vR 13), some (vI x1), some (vI y5), some (vI (-1)), some (vI 0), none, none, none, none, none]) (pn := 35) F dX5_firstAt_33 rfl (by decide) rfl rfl ?_
    refine AW.iconst (pn := 36) F dX5_firstAt_35 rfl ?_
    refine AW.istore (ls2 := [some (vR 13), some (vI x1), some (vI y5), some (vI (-1)), some (vI 0), some (vI 0), none, none, none, none]) (pn := 38) F dX5_firstAt_36 rfl (by decide) rfl rfl ?_
    refine AW.iconst (pn := 39) F dX5_firstAt_38 rfl ?_
    refine AW.istore (ls2 := [some (vR 13), some (vI x1), some (vI y5), some (vI (-1)), some (vI 0), some (vI 0), some (vI 0), none, none, none]) (pn := 41) F dX5_firstAt_39 rfl (by decide) rfl rfl ?_
    refine p5_firstAt_L41_ok_13 F G  _ _ _ _ _ hb
  refine AW.icmp_ne (pn := 10) (tg := 15) F dX5_firstAt_7 rfl (by decide) hb (fun hb => ?_) (fun hb => ?_)
  · refine AW.aload_n (pn := 16) F dX5_firstAt_15 rfl rfl rfl ?_
    refine AW.getR (r := 2) (pn := 19) F dX5_firstAt_16 rfl gl_X5_33 so_13 rfl ?_
    refine AW.getR (r := 3) (pn := 22) F dX5_firstAt_19 rfl gl_X5_104 so_2 rfl ?_
    refine AW.aload_n (pn := 23) F dX5_firstAt_22 rfl rfl rfl ?_
    refine AW.getR (r := 16) (pn := 26) F dX5_firstAt_23 rfl gl_X5_18 so_13 rfl ?_
    refine AW.iload_n (pn := 27) F dX5_firstAt_26 rfl rfl rfl ?_
    refine AW.iald (pn := 28) F dX5_firstAt_27 rfl so_16 hb (fun v17 hb => ?_)
    refine AW.iald (pn := 29) F dX5_firstAt_28 rfl so_3 hb (fun v18 hb => ?_)
    exact hK6 _ hb
  · refine AW.bipush (pn := 12) F dX5_firstAt_10 rfl (by decide) ?_
    refine AW.goto (tg := 29) F dX5_firstAt_12 (by decide) ?_
    exact hK6 _ hb

theorem p7_first_0 (x1 : Int) {h : HP} {Q : Int → Prop} (hb : p7_first x1 h Q) : MT yX7_first cX7_first 2 (some .int) 4 [vR 0, vI x1] h (QP h Q) := by
  refine MT.of (own := RX7) (by decide) rfl (Nat.le_of_ble_eq_true rfl) rfl (fun X F G => ?_)
  unfold p7_first at hb
  refine AW.aload_n (pn := 1) F dX7_first_0 rfl rfl rfl ?_
  refine AW.getR (r := 13) (pn := 4) F dX7_first_1 rfl gl_X7_41 so_0 rfl ?_
  refine AW.iload_n (pn := 5) F dX7_first_4 rfl rfl rfl ?_
  refine AW.cVP (pn := 8) (st := []) F dX7_first_5 rfl cl_X7_160 so_13 (p5_isPart_13 x1 hb) rfl rfl (Nat.le_of_ble_eq_true rfl) (by decide) (fun r1 hb => ?_)
  refine AW.if_ne (pn := 11) (tg := 14) F dX7_first_8 rfl (by decide) hb (fun hb => ?_) (fun hb => ?_)
  · refine AW.aload_n (pn := 15) F dX7_first_14 rfl rfl rfl ?_
    refine AW.getR (r := 13) (pn := 18) F dX7_first_15 rfl gl_X7_41 so_0 rfl ?_
    refine AW.iload_n (pn := 19) F dX7_first_18 rfl rfl rfl ?_
    refine AW.cVP (pn := 22) (st := []) F dX7_first_19 rfl cl_X7_189 so_13 (p5_lies_13 x1 hb) rfl rfl (Nat.le_of_ble_eq_true rfl) (by decide) (fun r2 hb => ?_)
    refine AW.if_eq (pn := 25) (tg := 36) F dX7_first_22 rfl (by decide) hb (fun hb => ?_) (fun hb => ?_)
    · refine AW.ldc (x := (-1000000003)) (pn := 38) F dX7_first_36 rfl tw_539 (by decide) ?_
      exact AW.iret F G dX7_first_38 ⟨rfl, _, rfl, hb⟩
    · refine AW.aload_n (pn := 26) F dX7_first_25 rfl rfl rfl ?_
      refine AW.getR (r := 13) (pn := 29) F dX7_first_26 rfl gl_X7_41 so_0 rfl ?_
      refine AW.iload_n (pn := 30) F dX7_first_29 rfl rfl rfl ?_
      refine AW.cVP (pn := 33) (st := []) F dX7_first_30 rfl cl_X7_192 so_13 (p5_firstAt_13 x1 hb) rfl rfl (Nat.le_of_ble_eq_true rfl) (by decide) (fun r3 hb => ?_)
      refine AW.goto (tg := 38) F dX7_first_33 (by decide) ?_
      exact AW.iret F G dX7_first_38 ⟨rfl, _, rfl, hb⟩
  · refine AW.ldc (x := (-1000000001)) (pn := 13) F dX7_first_11 rfl tw_493 (by decide) ?_
    exact AW.iret F G dX7_first_13 ⟨rfl, _, rfl, hb⟩

theorem p5_draw_13 (x1 : Int) {h : HP} {Q : Int → HP → Prop} (hb : p5_draw 13 x1 h Q) : MT yX5_draw cX5_draw 2 (some .int) 1 [vR 13, vI x1] h (QI Q) := by
  refine MT.of (own := RX5) (by decide) rfl (Nat.le_of_ble_eq_true rfl) rfl (fun X F G => ?_)
  unfold p5_draw at hb
  refine AW.aload_n (pn := 1) F dX5_draw_0 rfl rfl rfl ?_
  refine AW.aload_n (pn := 2) F dX5_draw_1 rfl rfl rfl ?_
  refine AW.getI (pn := 5) F dX5_draw_2 rfl gl_X5_65 so_13 rfl ?_
  refine AW.i2l (pn := 6) F dX5_draw_5 rfl ?_
  refine AW.ldc2 (x := 1103515245) (pn := 9) F dX5_draw_6 rfl tw_589 (by decide) ?_
  refine AW.lmul (pn := 10) F dX5_draw_9 rfl ?_
  refine AW.ldc2 (x := 12345) (pn := 13) F dX5_draw_10 rfl tw_590 (by decide) ?_
  refine AW.ladd (pn := 14) F dX5_draw_13 rfl ?_
  refine AW.ldc2 (x := 2147483647) (pn := 17) F dX5_draw_14 rfl tw_591 (by decide) ?_
  refine AW.land (pn := 18) F dX5_draw_17 rfl ?_
  refine AW.l2i (pn := 19) F dX5_draw_18 rfl ?_
  refine AW.putI (pn := 22) F dX5_draw_19 rfl pl_X5_65 so_13 rfl hb (fun h1 hb => ?_)
  refine AW.iload_n (pn := 23) F dX5_draw_22 rfl rfl rfl ?_
  refine AW.if_le (pn := 26) (tg := 38) F dX5_draw_23 rfl (by decide) hb (fun hb => ?_) (fun hb => ?_)
  · refine AW.iconst (pn := 39) F dX5_draw_38 rfl ?_
    exact AW.iret F G dX5_draw_39 ⟨_, rfl, hb⟩
  · refine AW.aload_n (pn := 27) F dX5_draw_26 rfl rfl rfl ?_
    refine AW.getI (pn := 30) F dX5_draw_27 rfl gl_X5_65 so_13 rfl ?_
    refine AW.ldc (x := 65536) (pn := 32) F dX5_draw_30 rfl tw_592 (by decide) ?_
    refine AW.idiv (pn := 33) F dX5_draw_32 rfl (by decide) ?_
    refine AW.iload_n (pn := 34) F dX5_draw_33 rfl rfl rfl ?_
    refine AW.irem (pn := 35) F dX5_draw_34 rfl hb.1 ?_
    replace hb := hb.2
    refine AW.goto (tg := 39) F dX5_draw_35 (by decide) ?_
    exact AW.iret F G dX5_draw_39 ⟨_, rfl, hb⟩

theorem p5_comeByDraw_13  {h : HP} {Q : Int → HP → Prop} (hb : p5_comeByDraw 13 h Q) : MT yX5_comeByDraw cX5_comeByDraw 1 (some .boolean) 3 [vR 13] h (QI Q) := by
  refine MT.of (own := RX5) (by decide) rfl (Nat.le_of_ble_eq_true rfl) rfl (fun X F G => ?_)
  unfold p5_comeByDraw at hb
  refine AW.aload_n (pn := 1) F dX5_comeByDraw_0 rfl rfl rfl ?_
  refine AW.getI (pn := 4) F dX5_comeByDraw_1 rfl gl_X5_37 so_13 rfl ?_
  refine AW.bipush (pn := 6) F dX5_comeByDraw_4 rfl (by decide) ?_
  refine AW.icmp_ge (pn := 9) (tg := 32) F dX5_comeByDraw_6 rfl (by decide) hb (fun hb => ?_) (fun hb => ?_)
  · refine AW.iconst (pn := 33) F dX5_comeByDraw_32 rfl ?_
    exact AW.zret F G dX5_comeByDraw_33 (by decide) ⟨_, rfl, hb⟩
  · refine AW.aload_n (pn := 10) F dX5_comeByDraw_9 rfl rfl rfl ?_
    refine AW.aload_n (pn := 11) F dX5_comeByDraw_10 rfl rfl rfl ?_
    refine AW.aload_n (pn := 12) F dX5_comeByDraw_11 rfl rfl rfl ?_
    refine AW.getR (r := 2) (pn := 15) F dX5_comeByDraw_12 rfl gl_X5_33 so_13 rfl ?_
    refine AW.getI (pn := 18) F dX5_comeByDraw_15 rfl gl_X5_98 so_2 rfl ?_
    refine AW.cVI (pn := 21) (st := [vR 13]) F dX5_comeByDraw_18 rfl cl_X5_134 so_13 (p5_draw_13 (h 2 0) hb) rfl rfl (Nat.le_of_ble_eq_true rfl) (by decide) (fun r1 h2 hb => ?_)
    refine AW.iconst (pn := 22) F dX5_comeByDraw_21 rfl ?_
    refine AW.cVI (pn := 25) (st := []) F dX5_comeByDraw_22 rfl cl_X5_61 so_13 (p5_addPart_13 r1 (-1) hb) rfl rfl (Nat.le_of_ble_eq_true rfl) (by decide) (fun r3 h4 hb => ?_)
    refine AW.if_eq (pn := 28) (tg := 32) F dX5_comeByDraw_25 rfl (by decide) hb (fun hb => ?_) (fun hb => ?_)
    · refine AW.iconst (pn := 33) F dX5_comeByDraw_32 rfl ?_
      exact AW.zret F G dX5_comeByDraw_33 (by decide) ⟨_, rfl, hb⟩
    · refine AW.iconst (pn := 29) F dX5_comeByDraw_28 rfl ?_
      refine AW.goto (tg := 33) F dX5_comeByDraw_29 (by decide) ?_
      exact AW.zret F G dX5_comeByDraw_33 (by decide) ⟨_, rfl, hb⟩

theorem p5_partToTake_L7_ok_13 {X : Cx} {x1 : Int} {h : HP} {Q : Int → Prop} (F : Fx X cX5_partToTake RX5 5 3) (G : Rx X (some .int) (QP h Q))  : ∀ (n : Nat) (x2 : Int) (x3 : Int) (x4 : Int), p5_partToTake_L7 13 x1 h Q n x2 x3 x4 → AW X 5 7 [some (vR 13), some (vI x1), some (vI x2), some (vI x3), some (vI x4)] [] h := by
  intro n
  induction n with
  | zero => intro _ _ _ hb; exact hb.elim
  | succ n ih =>
    intro x2 x3 x4 hb
    unfold p5_partToTake_L7 at hb
    refine AW.iload (pn := 9) F dX5_partToTake_7 rfl rfl ?_
    refine AW.aload_n (pn := 10) F dX5_partToTake_9 rfl rfl rfl ?_
    refine AW.getI (pn := 13) F dX5_partToTake_10 rfl gl_X5_37 so_13 rfl ?_
    refine AW.icmp_ge (pn := 16) (tg := 64) F dX5_partToTake_13 rfl (by decide) hb (fun hb => ?_) (fun hb => ?_)
    · refine AW.iload_n (pn := 65) F dX5_partToTake_64 rfl rfl rfl ?_
      exact AW.iret F G dX5_partToTake_65 ⟨rfl, _, rfl, hb⟩
    · refine AW.aload_n (pn := 17) F dX5_partToTake_16 rfl rfl rfl ?_
      refine AW.iload_n (pn := 18) F dX5_partToTake_17 rfl rfl rfl ?_
      refine AW.iload (pn := 20) F dX5_partToTake_18 rfl rfl ?_
      refine AW.cVP (pn := 23) (st := []) F dX5_partToTake_20 rfl cl_X5_85 so_13 (p5_mayTake_13 x1 x4 hb) rfl rfl (Nat.le_of_ble_eq_true rfl) (by decide) (fun r1 hb => ?_)
      refine AW.if_eq (pn := 26) (tg := 58) F dX5_partToTake_23 rfl (by decide) hb (fun hb => ?_) (fun hb => ?_)
      · refine AW.iinc (ls2 := [some (vR 13), some (vI x1), some (vI x2), some (vI x3), some (vI (x4 + 1))]) (pn := 61) F dX5_partToTake_58 rfl rfl (by decide) rfl rfl ?_
        refine AW.goto (tg := 7) F dX5_partToTake_61 (by decide) ?_
        exact ih _ _ _ hb
      · refine AW.aload_n (pn := 27) F dX5_partToTake_26 rfl rfl rfl ?_
        refine AW.iload_n (pn := 28) F dX5_partToTake_27 rfl rfl rfl ?_
        refine AW.aload_n (pn := 29) F dX5_partToTake_28 rfl rfl rfl ?_
        refine AW.getR (r := 14) (pn := 32) F dX5_partToTake_29 rfl gl_X5_9 so_13 rfl ?_
        refine AW.iload (pn := 34) F dX5_partToTake_32 rfl rfl ?_
        refine AW.iald (pn := 35) F dX5_partToTake_34 rfl so_14 hb (fun v2 hb => ?_)
        refine AW.cVP (pn := 38) (st := []) F dX5_partToTake_35 rfl cl_X5_92 so_13 (p5_gainOf_13 x1 v2 hb) rfl rfl (Nat.le_of_ble_eq_true rfl) (by decide) (fun r3 hb => ?_)
        refine AW.iload_n (pn := 39) F dX5_partToTake_38 rfl rfl rfl ?_
        refine AW.icmp_le (pn := 42) (tg := 58) F dX5_partToTake_39 rfl (by decide) hb (fun hb => ?_) (fun hb => ?_)
        · refine AW.iinc (ls2 := [some (vR 13), some (vI x1), some (vI x2), some (vI x3), some (vI (x4 + 1))]) (pn := 61) F dX5_partToTake_58 rfl rfl (by decide) rfl rfl ?_
          refine AW.goto (tg := 7) F dX5_partToTake_61 (by decide) ?_
          exact ih _ _ _ hb
        · refine AW.iload (pn := 44) F dX5_partToTake_42 rfl rfl ?_
          refine AW.istore_n (ls2 := [some (vR 13), some (vI x1), some (vI x4), some (vI x3), some (vI x4)]) (pn := 45) F dX5_partToTake_44 rfl rfl (by decide) rfl rfl ?_
          refine AW.aload_n (pn := 46) F dX5_partToTake_45 rfl rfl rfl ?_
          refine AW.iload_n (pn := 47) F dX5_partToTake_46 rfl rfl rfl ?_
          refine AW.aload_n (pn := 48) F dX5_partToTake_47 rfl rfl rfl ?_
          refine AW.getR (r := 14) (pn := 51) F dX5_partToTake_48 rfl gl_X5_9 so_13 rfl ?_
          refine AW.iload (pn := 53) F dX5_partToTake_51 rfl rfl ?_
          refine AW.iald (pn := 54) F dX5_partToTake_53 rfl so_14 hb (fun v4 hb => ?_)
          refine AW.cVP (pn := 57) (st := []) F dX5_partToTake_54 rfl cl_X5_92 so_13 (p5_gainOf_13 x1 v4 hb) rfl rfl (Nat.le_of_ble_eq_true rfl) (by decide) (fun r5 hb => ?_)
          refine AW.istore_n (ls2 := [some (vR 13), some (vI x1), some (vI x4), some (vI r5), some (vI x4)]) (pn := 58) F dX5_partToTake_57 rfl rfl (by decide) rfl rfl ?_
          refine AW.iinc (ls2 := [some (vR 13), some (vI x1), some (vI x4), some (vI r5), some (vI (x4 + 1))]) (pn := 61) F dX5_partToTake_58 rfl rfl (by decide) rfl rfl ?_
          refine AW.goto (tg := 7) F dX5_partToTake_61 (by decide) ?_
          exact ih _ _ _ hb

theorem p5_partToTake_13 (x1 : Int) {h : HP} {Q : Int → Prop} (hb : p5_partToTake 13 x1 h Q) : MT yX5_partToTake cX5_partToTake 5 (some .int) 3 [vR 13, vI x1] h (QP h Q) := by
  refine MT.of (own := RX5) (by decide) rfl (Nat.le_of_ble_eq_true rfl) rfl (fun X F G => ?_)
  unfold p5_partToTake at hb
  refine AW.iconst (pn := 1) F dX5_partToTake_0 rfl ?_
  refine AW.istore_n (ls2 := [some (vR 13), some (vI x1), some (vI (-1)), none, none]) (pn := 2) F dX5_partToTake_1 rfl rfl (by decide) rfl rfl ?_
  refine AW.iconst (pn := 3) F dX5_partToTake_2 rfl ?_
  refine AW.istore_n (ls2 := [some (vR 13), some (vI x1), some (vI (-1)), some (vI 0), none]) (pn := 4) F dX5_partToTake_3 rfl rfl (by decide) rfl rfl ?_
  refine AW.iconst (pn := 5) F dX5_partToTake_4 rfl ?_
  refine AW.istore (ls2 := [some (vR 13), some (vI x1), some (vI (-1)), some (vI 0), some (vI 0)]) (pn := 7) F dX5_partToTake_5 rfl (by decide) rfl rfl ?_
  refine p5_partToTake_L7_ok_13 F G  _ _ _ _ hb

theorem p5_lossOf_13 (x1 x2 : Int) {h : HP} {Q : Int → Prop} (hb : p5_lossOf 13 x1 x2 h Q) : MT yX5_lossOf cX5_lossOf 3 (some .int) 2 [vR 13, vI x1, vI x2] h (QP h Q) := by
  refine MT.of (own := RX5) (by decide) rfl (Nat.le_of_ble_eq_true rfl) rfl (fun X F G => ?_)
  unfold p5_lossOf at hb
  refine AW.aload_n (pn := 1) F dX5_lossOf_0 rfl rfl rfl ?_
  refine AW.getR (r := 20) (pn := 4) F dX5_lossOf_1 rfl gl_X5_30 so_13 rfl ?_
  refine AW.iload_n (pn := 5) F dX5_lossOf_4 rfl rfl rfl ?_
  refine AW.bipush (pn := 7) F dX5_lossOf_5 rfl (by decide) ?_
  refine AW.imul (pn := 8) F dX5_lossOf_7 rfl ?_
  refine AW.iload_n (pn := 9) F dX5_lossOf_8 rfl rfl rfl ?_
  refine AW.iadd (pn := 10) F dX5_lossOf_9 rfl ?_
  refine AW.iald (pn := 11) F dX5_lossOf_10 rfl so_20 hb (fun v1 hb => ?_)
  refine AW.iconst (pn := 12) F dX5_lossOf_11 rfl ?_
  refine AW.icmp_ne (pn := 15) (tg := 27) F dX5_lossOf_12 rfl (by decide) hb (fun hb => ?_) (fun hb => ?_)
  · refine AW.iconst (pn := 28) F dX5_lossOf_27 rfl ?_
    exact AW.iret F G dX5_lossOf_28 ⟨rfl, _, rfl, hb⟩
  · refine AW.aload_n (pn := 16) F dX5_lossOf_15 rfl rfl rfl ?_
    refine AW.getR (r := 2) (pn := 19) F dX5_lossOf_16 rfl gl_X5_33 so_13 rfl ?_
    refine AW.iload_n (pn := 20) F dX5_lossOf_19 rfl rfl rfl ?_
    refine AW.iload_n (pn := 21) F dX5_lossOf_20 rfl rfl rfl ?_
    refine AW.cVP (pn := 24) (st := []) F dX5_lossOf_21 rfl cl_X5_88 so_2 (p4_worthOf_2 x1 x2 hb) rfl rfl (Nat.le_of_ble_eq_true rfl) (by decide) (fun r2 hb => ?_)
    refine AW.goto (tg := 28) F dX5_lossOf_24 (by decide) ?_
    exact AW.iret F G dX5_lossOf_28 ⟨rfl, _, rfl, hb⟩

theorem p5_throwSpare_L2_ok_13 {X : Cx} {x1 : Int} {Q : HP → Prop} (F : Fx X cX5_throwSpare RX5 3 3) (G : Rx X none (QV Q))  : ∀ (n : Nat) (h : HP) (x2 : Int), p5_throwSpare_L2 13 x1 Q n h x2 → AW X 3 2 [some (vR 13), some (vI x1), some (vI x2)] [] h := by
  intro n
  induction n with
  | zero => intro _ _ hb; exact hb.elim
  | succ n ih =>
    intro h x2 hb
    unfold p5_throwSpare_L2 at hb
    refine AW.iload_n (pn := 3) F dX5_throwSpare_2 rfl rfl rfl ?_
    refine AW.aload_n (pn := 4) F dX5_throwSpare_3 rfl rfl rfl ?_
    refine AW.getI (pn := 7) F dX5_throwSpare_4 rfl gl_X5_37 so_13 rfl ?_
    refine AW.icmp_ge (pn := 10) (tg := 47) F dX5_throwSpare_7 rfl (by decide) hb (fun hb => ?_) (fun hb => ?_)
    · exact AW.vret F G dX5_throwSpare_47 ⟨rfl, hb⟩
    · refine AW.aload_n (pn := 11) F dX5_throwSpare_10 rfl rfl rfl ?_
      refine AW.getR (r := 15) (pn := 14) F dX5_throwSpare_11 rfl gl_X5_15 so_13 rfl ?_
      refine AW.iload_n (pn := 15) F dX5_throwSpare_14 rfl rfl rfl ?_
      refine AW.iald (pn := 16) F dX5_throwSpare_15 rfl so_15 hb (fun v1 hb => ?_)
      refine AW.iload_n (pn := 17) F dX5_throwSpare_16 rfl rfl rfl ?_
      refine AW.icmp_ne (pn := 20) (tg := 41) F dX5_throwSpare_17 rfl (by decide) hb (fun hb => ?_) (fun hb => ?_)
      · refine AW.iinc (ls2 := [some (vR 13), some (vI x1), some (vI (x2 + 1))]) (pn := 44) F dX5_throwSpare_41 rfl rfl (by decide) rfl rfl ?_
        refine AW.goto (tg := 2) F dX5_throwSpare_44 (by decide) ?_
        exact ih _ _ hb
      · refine AW.aload_n (pn := 21) F dX5_throwSpare_20 rfl rfl rfl ?_
        refine AW.iload_n (pn := 22) F dX5_throwSpare_21 rfl rfl rfl ?_
        refine AW.aload_n (pn := 23) F dX5_throwSpare_22 rfl rfl rfl ?_
        refine AW.getR (r := 14) (pn := 26) F dX5_throwSpare_23 rfl gl_X5_9 so_13 rfl ?_
        refine AW.iload_n (pn := 27) F dX5_throwSpare_26 rfl rfl rfl ?_
        refine AW.iald (pn := 28) F dX5_throwSpare_27 rfl so_14 hb (fun v2 hb => ?_)
        refine AW.cVP (pn := 31) (st := []) F dX5_throwSpare_28 rfl cl_X5_95 so_13 (p5_lossOf_13 x1 v2 hb) rfl rfl (Nat.le_of_ble_eq_true rfl) (by decide) (fun r3 hb => ?_)
        refine AW.if_ne (pn := 34) (tg := 41) F dX5_throwSpare_31 rfl (by decide) hb (fun hb => ?_) (fun hb => ?_)
        · refine AW.iinc (ls2 := [some (vR 13), some (vI x1), some (vI (x2 + 1))]) (pn := 44) F dX5_throwSpare_41 rfl rfl (by decide) rfl rfl ?_
          refine AW.goto (tg := 2) F dX5_throwSpare_44 (by decide) ?_
          exact ih _ _ hb
        · refine AW.aload_n (pn := 35) F dX5_throwSpare_34 rfl rfl rfl ?_
          refine AW.iload_n (pn := 36) F dX5_throwSpare_35 rfl rfl rfl ?_
          refine AW.iload_n (pn := 37) F dX5_throwSpare_36 rfl rfl rfl ?_
          refine AW.cVI (pn := 40) (st := []) F dX5_throwSpare_37 rfl cl_X5_131 so_13 (p5_throwOut_13 x1 x2 hb) rfl rfl (Nat.le_of_ble_eq_true rfl) (by decide) (fun r4 h5 hb => ?_)
          refine AW.popI (pn := 41) F dX5_throwSpare_40 rfl ?_
          refine AW.iinc (ls2 := [some (vR 13), some (vI x1), some (vI (x2 + 1))]) (pn := 44) F dX5_throwSpare_41 rfl rfl (by decide) rfl rfl ?_
          refine AW.goto (tg := 2) F dX5_throwSpare_44 (by decide) ?_
          exact ih _ _ hb

theorem p5_throwSpare_13 (x1 : Int) {h : HP} {Q : HP → Prop} (hb : p5_throwSpare 13 x1 h Q) : MT yX5_throwSpare cX5_throwSpare 3 none 3 [vR 13, vI x1] h (QV Q) := by
  refine MT.of (own := RX5) (by decide) rfl (Nat.le_of_ble_eq_true rfl) rfl (fun X F G => ?_)
  unfold p5_throwSpare at hb
  refine AW.iconst (pn := 1) F dX5_throwSpare_0 rfl ?_
  refine AW.istore_n (ls2 := [some (vR 13), some (vI x1), some (vI 0)]) (pn := 2) F dX5_throwSpare_1 rfl rfl (by decide) rfl rfl ?_
  refine p5_throwSpare_L2_ok_13 F G  _ _ _ hb

theorem p5_liveWeek_L9_ok_13 {X : Cx} {E54 : HP → Int → Prop} {Q : Int → HP → Prop} (F : Fx X cX5_liveWeek RX5 4 4) (G : Rx X (some .int) (QI Q)) (hE54 : ∀ (h : HP) (x1 : Int), E54 h x1 → AW X 4 54 [some (vR 13), some (vI x1), none, none] [] h) : ∀ (n : Nat) (h : HP) (x1 : Int) (x2 : Int), p5_liveWeek_L9 13 E54 n h x1 x2 → AW X 4 9 [some (vR 13), some (vI x1), some (vI x2), none] [] h := by
  intro n
  induction n with
  | zero => intro _ _ _ hb; exact hb.elim
  | succ n ih =>
    intro h x1 x2 hb
    unfold p5_liveWeek_L9 at hb
    refine AW.iload_n (pn := 10) F dX5_liveWeek_9 rfl rfl rfl ?_
    refine AW.aload_n (pn := 11) F dX5_liveWeek_10 rfl rfl rfl ?_
    refine AW.getR (r := 2) (pn := 14) F dX5_liveWeek_11 rfl gl_X5_33 so_13 rfl ?_
    refine AW.getI (pn := 17) F dX5_liveWeek_14 rfl gl_X5_101 so_2 rfl ?_
    refine AW.icmp_ge (pn := 20) (tg := 54) F dX5_liveWeek_17 rfl (by decide) hb (fun hb => ?_) (fun hb => ?_)
    · refine AW.drop [true, true, false, true] rfl ?_
      exact hE54 _ _ hb
    · refine AW.aload_n (pn := 21) F dX5_liveWeek_20 rfl rfl rfl ?_
      refine AW.iload_n (pn := 22) F dX5_liveWeek_21 rfl rfl rfl ?_
      refine AW.cVP (pn := 25) (st := []) F dX5_liveWeek_22 rfl cl_X5_113 so_13 (p5_partToTake_13 x2 hb) rfl rfl (Nat.le_of_ble_eq_true rfl) (by decide) (fun r2 hb => ?_)
      refine AW.istore_n (ls2 := [some (vR 13), some (vI x1), some (vI x2), some (vI r2)]) (pn := 26) F dX5_liveWeek_25 rfl rfl (by decide) rfl rfl ?_
      refine AW.iload_n (pn := 27) F dX5_liveWeek_26 rfl rfl rfl ?_
      refine AW.iconst (pn := 28) F dX5_liveWeek_27 rfl ?_
      refine jn_2 hb (fun (y7 : Int) (h8 : HP) => AW X 4 43 [some (vR 13), some (vI y7), some (vI x2), none] [] h8) (fun y7 h8 hb => ?_) (fun K9 hK9 hb => ?_)
      · refine AW.aload_n (pn := 44) F dX5_liveWeek_43 rfl rfl rfl ?_
        refine AW.iload_n (pn := 45) F dX5_liveWeek_44 rfl rfl rfl ?_
        refine AW.cVV (pn := 48) (st := []) F dX5_liveWeek_45 rfl cl_X5_127 so_13 (p5_throwSpare_13 x2 hb) rfl rfl (Nat.le_of_ble_eq_true rfl) (by decide) (fun h10 hb => ?_)
        refine AW.iinc (ls2 := [some (vR 13), some (vI y7), some (vI (x2 + 1)), none]) (pn := 51) F dX5_liveWeek_48 rfl rfl (by decide) rfl rfl ?_
        refine AW.goto (tg := 9) F dX5_liveWeek_51 (by decide) ?_
        exact ih _ _ _ hb
      refine AW.icmp_eq (pn := 31) (tg := 43) F dX5_liveWeek_28 rfl (by decide) hb (fun hb => ?_) (fun hb => ?_)
      · refine AW.drop [true, true, true, false] rfl ?_
        exact hK9 _ _ hb
      · refine AW.aload_n (pn := 32) F dX5_liveWeek_31 rfl rfl rfl ?_
        refine AW.iload_n (pn := 33) F dX5_liveWeek_32 rfl rfl rfl ?_
        refine AW.iload_n (pn := 34) F dX5_liveWeek_33 rfl rfl rfl ?_
        refine AW.cVI (pn := 37) (st := []) F dX5_liveWeek_34 rfl cl_X5_124 so_13 (p5_carryHome_13 x2 r2 hb) rfl rfl (Nat.le_of_ble_eq_true rfl) (by decide) (fun r11 h12 hb => ?_)
        refine AW.if_eq (pn := 40) (tg := 43) F dX5_liveWeek_37 rfl (by decide) hb (fun hb => ?_) (fun hb => ?_)
        · refine AW.drop [true, true, true, false] rfl ?_
          exact hK9 _ _ hb
        · refine AW.iinc (ls2 := [some (vR 13), some (vI (x1 + 1)), some (vI x2), some (vI r2)]) (pn := 43) F dX5_liveWeek_40 rfl rfl (by decide) rfl rfl ?_
          refine AW.drop [true, true, true, false] rfl ?_
          exact hK9 _ _ hb

theorem p5_liveWeek_13  {h : HP} {Q : Int → HP → Prop} (hb : p5_liveWeek 13 h Q) : MT yX5_liveWeek cX5_liveWeek 4 (some .int) 4 [vR 13] h (QI Q) := by
  refine MT.of (own := RX5) (by decide) rfl (Nat.le_of_ble_eq_true rfl) rfl (fun X F G => ?_)
  unfold p5_liveWeek at hb
  refine AW.iconst (pn := 1) F dX5_liveWeek_0 rfl ?_
  refine AW.istore_n (ls2 := [some (vR 13), some (vI 0), none, none]) (pn := 2) F dX5_liveWeek_1 rfl rfl (by decide) rfl rfl ?_
  refine AW.aload_n (pn := 3) F dX5_liveWeek_2 rfl rfl rfl ?_
  refine AW.iconst (pn := 4) F dX5_liveWeek_3 rfl ?_
  refine AW.putI (pn := 7) F dX5_liveWeek_4 rfl pl_X5_82 so_13 rfl hb (fun h1 hb => ?_)
  refine AW.iconst (pn := 8) F dX5_liveWeek_7 rfl ?_
  refine AW.istore_n (ls2 := [some (vR 13), some (vI 0), some (vI 0), none]) (pn := 9) F dX5_liveWeek_8 rfl rfl (by decide) rfl rfl ?_
  refine p5_liveWeek_L9_ok_13 F G (fun h13 y14 hb => ?_) _ _ _ _ hb
  refine AW.aload_n (pn := 55) F dX5_liveWeek_54 rfl rfl rfl ?_
  refine AW.dupR (pn := 56) F dX5_liveWeek_55 rfl ?_
  refine AW.getI (pn := 59) F dX5_liveWeek_56 rfl gl_X5_41 so_13 rfl ?_
  refine AW.iconst (pn := 60) F dX5_liveWeek_59 rfl ?_
  refine AW.iadd (pn := 61) F dX5_liveWeek_60 rfl ?_
  refine AW.putI (pn := 64) F dX5_liveWeek_61 rfl pl_X5_41 so_13 rfl hb (fun h15 hb => ?_)
  refine AW.iload_n (pn := 65) F dX5_liveWeek_64 rfl rfl rfl ?_
  exact AW.iret F G dX5_liveWeek_65 ⟨_, rfl, hb⟩

theorem p5_liveWeeks_L5_ok_13 {X : Cx} {x1 x2 : Int} {E48 : HP → Int → Int → Prop} {Q : Int → HP → Prop} (F : Fx X cX5_liveWeeks RX5 6 5) (G : Rx X (some .int) (QI Q)) (hE48 : ∀ (h : HP) (x3 : Int) (x4 : Int), E48 h x3 x4 → AW X 6 48 [some (vR 13), some (vI x1), none, some (vI x3), some (vI x4), none] [] h) : ∀ (n : Nat) (h : HP) (x3 : Int) (x4 : Int), p5_liveWeeks_L5 13 x1 x2 E48 Q n h x3 x4 → AW X 6 5 [some (vR 13), some (vI x1), some (vI x2), some (vI x3), some (vI x4), none] [] h := by
  intro n
  induction n with
  | zero => intro _ _ _ hb; exact hb.elim
  | succ n ih =>
    intro h x3 x4 hb
    unfold p5_liveWeeks_L5 at hb
    refine AW.iload (pn := 7) F dX5_liveWeeks_5 rfl rfl ?_
    refine AW.iload_n (pn := 8) F dX5_liveWeeks_7 rfl rfl rfl ?_
    refine AW.icmp_ge (pn := 11) (tg := 72) F dX5_liveWeeks_8 rfl (by decide) hb (fun hb => ?_) (fun hb => ?_)
    · refine AW.iload_n (pn := 73) F dX5_liveWeeks_72 rfl rfl rfl ?_
      exact AW.iret F G dX5_liveWeeks_73 ⟨_, rfl, hb⟩
    · refine AW.iload_n (pn := 12) F dX5_liveWeeks_11 rfl rfl rfl ?_
      refine jn_2 hb (fun (y6 : Int) (h7 : HP) => AW X 6 27 [some (vR 13), some (vI x1), some (vI x2), some (vI x3), some (vI x4), none] [vI y6] h7) (fun y6 h7 hb => ?_) (fun K8 hK8 hb => ?_)
      · refine AW.istore (ls2 := [some (vR 13), some (vI x1), some (vI x2), some (vI x3), some (vI x4), some (vI y6)]) (pn := 29) F dX5_liveWeeks_27 rfl (by decide) rfl rfl ?_
        refine AW.iload_n (pn := 30) F dX5_liveWeeks_29 rfl rfl rfl ?_
        refine AW.aload_n (pn := 31) F dX5_liveWeeks_30 rfl rfl rfl ?_
        refine AW.cVI (pn := 34) (st := [vI x3]) F dX5_liveWeeks_31 rfl cl_X5_120 so_13 (p5_liveWeek_13  hb) rfl rfl (Nat.le_of_ble_eq_true rfl) (by decide) (fun r9 h10 hb => ?_)
        refine AW.iadd (pn := 35) F dX5_liveWeeks_34 rfl ?_
        refine AW.istore_n (ls2 := [some (vR 13), some (vI x1), some (vI x2), some (vI (x3 + r9)), some (vI x4), some (vI y6)]) (pn := 36) F dX5_liveWeeks_35 rfl rfl (by decide) rfl rfl ?_
        refine AW.aload_n (pn := 37) F dX5_liveWeeks_36 rfl rfl rfl ?_
        refine AW.getI (pn := 40) F dX5_liveWeeks_37 rfl gl_X5_82 so_13 rfl ?_
        refine AW.if_ne (pn := 43) (tg := 66) F dX5_liveWeeks_40 rfl (by decide) hb (fun hb => ?_) (fun hb => ?_)
        · refine AW.iinc (ls2 := [some (vR 13), some (vI x1), some (vI x2), some (vI (x3 + r9)), some (vI (x4 + 1)), some (vI y6)]) (pn := 69) F dX5_liveWeeks_66 rfl rfl (by decide) rfl rfl ?_
          refine AW.goto (tg := 5) F dX5_liveWeeks_69 (by decide) ?_
          refine AW.drop [true, true, true, true, true, false] rfl ?_
          exact ih _ _ _ hb
        · refine AW.iload (pn := 45) F dX5_liveWeeks_43 rfl rfl ?_
          refine AW.if_ne (pn := 48) (tg := 66) F dX5_liveWeeks_45 rfl (by decide) hb (fun hb => ?_) (fun hb => ?_)
          · refine AW.iinc (ls2 := [some (vR 13), some (vI x1), some (vI x2), some (vI (x3 + r9)), some (vI (x4 + 1)), some (vI y6)]) (pn := 69) F dX5_liveWeeks_66 rfl rfl (by decide) rfl rfl ?_
            refine AW.goto (tg := 5) F dX5_liveWeeks_69 (by decide) ?_
            refine AW.drop [true, true, true, true, true, false] rfl ?_
            exact ih _ _ _ hb
          · refine AW.drop [true, true, false, true, true, false] rfl ?_
            exact hE48 _ _ _ hb
      refine jn_1 hb (fun (h11 : HP) => AW X 6 26 [some (vR 13), some (vI x1), some (vI x2), some (vI x3), some (vI x4), none] [] h11) (fun h11 hb => ?_) (fun K12 hK12 hb => ?_)
      · refine AW.iconst (pn := 27) F dX5_liveWeeks_26 rfl ?_
        exact hK8 _ _ hb
      refine AW.if_eq (pn := 15) (tg := 26) F dX5_liveWeeks_12 rfl (by decide) hb (fun hb => ?_) (fun hb => ?_)
      · exact hK12 _ hb
      · refine AW.aload_n (pn := 16) F dX5_liveWeeks_15 rfl rfl rfl ?_
        refine AW.cVI (pn := 19) (st := []) F dX5_liveWeeks_16 rfl cl_X5_116 so_13 (p5_comeByDraw_13  hb) rfl rfl (Nat.le_of_ble_eq_true rfl) (by decide) (fun r13 h14 hb => ?_)
        refine AW.if_eq (pn := 22) (tg := 26) F dX5_liveWeeks_19 rfl (by decide) hb (fun hb => ?_) (fun hb => ?_)
        · exact hK12 _ hb
        · refine AW.iconst (pn := 23) F dX5_liveWeeks_22 rfl ?_
          refine AW.goto (tg := 27) F dX5_liveWeeks_23 (by decide) ?_
          exact hK8 _ _ hb

theorem p5_liveWeeks_13 (x1 x2 : Int) {h : HP} {Q : Int → HP → Prop} (hb : p5_liveWeeks 13 x1 x2 h Q) : MT yX5_liveWeeks cX5_liveWeeks 6 (some .int) 5 [vR 13, vI x1, vI x2] h (QI Q) := by
  refine MT.of (own := RX5) (by decide) rfl (Nat.le_of_ble_eq_true rfl) rfl (fun X F G => ?_)
  unfold p5_liveWeeks at hb
  refine AW.iconst (pn := 1) F dX5_liveWeeks_0 rfl ?_
  refine AW.istore_n (ls2 := [some (vR 13), some (vI x1), some (vI x2), some (vI 0), none, none]) (pn := 2) F dX5_liveWeeks_1 rfl rfl (by decide) rfl rfl ?_
  refine AW.iconst (pn := 3) F dX5_liveWeeks_2 rfl ?_
  refine AW.istore (ls2 := [some (vR 13), some (vI x1), some (vI x2), some (vI 0), some (vI 0), none]) (pn := 5) F dX5_liveWeeks_3 rfl (by decide) rfl rfl ?_
  refine p5_liveWeeks_L5_ok_13 F G (fun h15 y16 y17 hb => ?_) _ _ _ _ hb
  refine AW.aload_n (pn := 49) F dX5_liveWeeks_48 rfl rfl rfl ?_
  refine AW.dupR (pn := 50) F dX5_liveWeeks_49 rfl ?_
  refine AW.getI (pn := 53) F dX5_liveWeeks_50 rfl gl_X5_41 so_13 rfl ?_
  refine AW.iload_n (pn := 54) F dX5_liveWeeks_53 rfl rfl rfl ?_
  refine AW.iconst (pn := 55) F dX5_liveWeeks_54 rfl ?_
  refine AW.isub (pn := 56) F dX5_liveWeeks_55 rfl ?_
  refine AW.iload (pn := 58) F dX5_liveWeeks_56 rfl rfl ?_
  refine AW.isub (pn := 59) F dX5_liveWeeks_58 rfl ?_
  refine AW.iadd (pn := 60) F dX5_liveWeeks_59 rfl ?_
  refine AW.putI (pn := 63) F dX5_liveWeeks_60 rfl pl_X5_41 so_13 rfl hb (fun h18 hb => ?_)
  refine AW.goto (tg := 72) F dX5_liveWeeks_63 (by decide) ?_
  refine AW.iload_n (pn := 73) F dX5_liveWeeks_72 rfl rfl rfl ?_
  exact AW.iret F G dX5_liveWeeks_73 ⟨_, rfl, hb⟩

theorem p7_week_0 (x1 : Int) {h : HP} {Q : Int → HP → Prop} (hb : p7_week x1 h Q) : MT yX7_week cX7_week 2 (some .int) 6 [vR 0, vI x1] h (QI Q) := by
  refine MT.of (own := RX7) (by decide) rfl (Nat.le_of_ble_eq_true rfl) rfl (fun X F G => ?_)
  unfold p7_week at hb
  refine AW.iload_n (pn := 1) F dX7_week_0 rfl rfl rfl ?_
  refine AW.iconst (pn := 2) F dX7_week_1 rfl ?_
  refine AW.icmp_lt (pn := 5) (tg := 11) F dX7_week_2 rfl (by decide) hb (fun hb => ?_) (fun hb => ?_)
  · refine AW.ldc (x := (-1000000002)) (pn := 13) F dX7_week_11 rfl tw_329 (by decide) ?_
    exact AW.iret F G dX7_week_13 ⟨_, rfl, hb⟩
  · refine AW.iload_n (pn := 6) F dX7_week_5 rfl rfl rfl ?_
    refine AW.bipush (pn := 8) F dX7_week_6 rfl (by decide) ?_
    refine AW.icmp_le (pn := 11) (tg := 14) F dX7_week_8 rfl (by decide) hb (fun hb => ?_) (fun hb => ?_)
    · refine AW.aload_n (pn := 15) F dX7_week_14 rfl rfl rfl ?_
      refine AW.getR (r := 13) (pn := 18) F dX7_week_15 rfl gl_X7_41 so_0 rfl ?_
      refine AW.iload_n (pn := 19) F dX7_week_18 rfl rfl rfl ?_
      refine AW.iconst (pn := 20) F dX7_week_19 rfl ?_
      refine AW.cVI (pn := 23) (st := []) F dX7_week_20 rfl cl_X7_195 so_13 (p5_liveWeeks_13 x1 0 hb) rfl rfl (Nat.le_of_ble_eq_true rfl) (by decide) (fun r1 h2 hb => ?_)
      exact AW.iret F G dX7_week_23 ⟨_, rfl, hb⟩
    · refine AW.ldc (x := (-1000000002)) (pn := 13) F dX7_week_11 rfl tw_329 (by decide) ?_
      exact AW.iret F G dX7_week_13 ⟨_, rfl, hb⟩

theorem p7_drift_0 (x1 : Int) {h : HP} {Q : Int → HP → Prop} (hb : p7_drift x1 h Q) : MT yX7_drift cX7_drift 2 (some .int) 6 [vR 0, vI x1] h (QI Q) := by
  refine MT.of (own := RX7) (by decide) rfl (Nat.le_of_ble_eq_true rfl) rfl (fun X F G => ?_)
  unfold p7_drift at hb
  refine AW.iload_n (pn := 1) F dX7_drift_0 rfl rfl rfl ?_
  refine AW.iconst (pn := 2) F dX7_drift_1 rfl ?_
  refine AW.icmp_lt (pn := 5) (tg := 11) F dX7_drift_2 rfl (by decide) hb (fun hb => ?_) (fun hb => ?_)
  · refine AW.ldc (x := (-1000000002)) (pn := 13) F dX7_drift_11 rfl tw_329 (by decide) ?_
    exact AW.iret F G dX7_drift_13 ⟨_, rfl, hb⟩
  · refine AW.iload_n (pn := 6) F dX7_drift_5 rfl rfl rfl ?_
    refine AW.bipush (pn := 8) F dX7_drift_6 rfl (by decide) ?_
    refine AW.icmp_le (pn := 11) (tg := 14) F dX7_drift_8 rfl (by decide) hb (fun hb => ?_) (fun hb => ?_)
    · refine AW.aload_n (pn := 15) F dX7_drift_14 rfl rfl rfl ?_
      refine AW.getR (r := 2) (pn := 18) F dX7_drift_15 rfl gl_X7_20 so_0 rfl ?_
      refine AW.getI (pn := 21) F dX7_drift_18 rfl gl_X7_117 so_2 rfl ?_
      refine AW.if_ne (pn := 24) (tg := 27) F dX7_drift_21 rfl (by decide) hb (fun hb => ?_) (fun hb => ?_)
      · refine AW.aload_n (pn := 28) F dX7_drift_27 rfl rfl rfl ?_
        refine AW.getR (r := 13) (pn := 31) F dX7_drift_28 rfl gl_X7_41 so_0 rfl ?_
        refine AW.iload_n (pn := 32) F dX7_drift_31 rfl rfl rfl ?_
        refine AW.iconst (pn := 33) F dX7_drift_32 rfl ?_
        refine AW.cVI (pn := 36) (st := []) F dX7_drift_33 rfl cl_X7_195 so_13 (p5_liveWeeks_13 x1 1 hb) rfl rfl (Nat.le_of_ble_eq_true rfl) (by decide) (fun r1 h2 hb => ?_)
        exact AW.iret F G dX7_drift_36 ⟨_, rfl, hb⟩
      · refine AW.ldc (x := (-1000000003)) (pn := 26) F dX7_drift_24 rfl tw_539 (by decide) ?_
        exact AW.iret F G dX7_drift_26 ⟨_, rfl, hb⟩
    · refine AW.ldc (x := (-1000000002)) (pn := 13) F dX7_drift_11 rfl tw_329 (by decide) ?_
      exact AW.iret F G dX7_drift_13 ⟨_, rfl, hb⟩

theorem p7_begin_0  {h : HP} {Q : Int → HP → Prop} (hb : p7_begin  h Q) : MT yX7_begin cX7_begin 2 (some .int) 4 [vR 0] h (QI Q) := by
  refine MT.of (own := RX7) (by decide) rfl (Nat.le_of_ble_eq_true rfl) rfl (fun X F G => ?_)
  unfold p7_begin at hb
  refine AW.aload_n (pn := 1) F dX7_begin_0 rfl rfl rfl ?_
  refine AW.getR (r := 13) (pn := 4) F dX7_begin_1 rfl gl_X7_41 so_0 rfl ?_
  refine AW.getI (pn := 7) F dX7_begin_4 rfl gl_X7_123 so_13 rfl ?_
  refine AW.istore_n (ls2 := [some (vR 0), some (vI (h 13 2))]) (pn := 8) F dX7_begin_7 rfl rfl (by decide) rfl rfl ?_
  refine AW.aload_n (pn := 9) F dX7_begin_8 rfl rfl rfl ?_
  refine AW.getR (r := 13) (pn := 12) F dX7_begin_9 rfl gl_X7_41 so_0 rfl ?_
  refine AW.cVV (pn := 15) (st := []) F dX7_begin_12 rfl cl_X7_108 so_13 (p5_layOut_13  hb) rfl rfl (Nat.le_of_ble_eq_true rfl) (by decide) (fun h1 hb => ?_)
  refine AW.iload_n (pn := 16) F dX7_begin_15 rfl rfl rfl ?_
  exact AW.iret F G dX7_begin_16 ⟨_, rfl, hb⟩

theorem p7_gain_0 (x1 x2 : Int) {h : HP} {Q : Int → Prop} (hb : p7_gain x1 x2 h Q) : MT yX7_gain cX7_gain 3 (some .int) 3 [vR 0, vI x1, vI x2] h (QP h Q) := by
  refine MT.of (own := RX7) (by decide) rfl (Nat.le_of_ble_eq_true rfl) rfl (fun X F G => ?_)
  unfold p7_gain at hb
  refine AW.aload_n (pn := 1) F dX7_gain_0 rfl rfl rfl ?_
  refine AW.getR (r := 2) (pn := 4) F dX7_gain_1 rfl gl_X7_20 so_0 rfl ?_
  refine AW.iload_n (pn := 5) F dX7_gain_4 rfl rfl rfl ?_
  refine AW.cVP (pn := 8) (st := []) F dX7_gain_5 rfl cl_X7_133 so_2 (p4_isHouse_2 x1 hb) rfl rfl (Nat.le_of_ble_eq_true rfl) (by decide) (fun r1 hb => ?_)
  refine AW.if_eq (pn := 11) (tg := 22) F dX7_gain_8 rfl (by decide) hb (fun hb => ?_) (fun hb => ?_)
  · refine AW.ldc (x := (-1000000001)) (pn := 24) F dX7_gain_22 rfl tw_493 (by decide) ?_
    exact AW.iret F G dX7_gain_24 ⟨rfl, _, rfl, hb⟩
  · refine AW.aload_n (pn := 12) F dX7_gain_11 rfl rfl rfl ?_
    refine AW.getR (r := 13) (pn := 15) F dX7_gain_12 rfl gl_X7_41 so_0 rfl ?_
    refine AW.iload_n (pn := 16) F dX7_gain_15 rfl rfl rfl ?_
    refine AW.cVP (pn := 19) (st := []) F dX7_gain_16 rfl cl_X7_160 so_13 (p5_isPart_13 x2 hb) rfl rfl (Nat.le_of_ble_eq_true rfl) (by decide) (fun r2 hb => ?_)
    refine AW.if_ne (pn := 22) (tg := 25) F dX7_gain_19 rfl (by decide) hb (fun hb => ?_) (fun hb => ?_)
    · refine AW.aload_n (pn := 26) F dX7_gain_25 rfl rfl rfl ?_
      refine AW.getR (r := 13) (pn := 29) F dX7_gain_26 rfl gl_X7_41 so_0 rfl ?_
      refine AW.iload_n (pn := 30) F dX7_gain_29 rfl rfl rfl ?_
      refine AW.aload_n (pn := 31) F dX7_gain_30 rfl rfl rfl ?_
      refine AW.getR (r := 13) (pn := 34) F dX7_gain_31 rfl gl_X7_41 so_0 rfl ?_
      refine AW.getR (r := 14) (pn := 37) F dX7_gain_34 rfl gl_X7_163 so_13 rfl ?_
      refine AW.iload_n (pn := 38) F dX7_gain_37 rfl rfl rfl ?_
      refine AW.iald (pn := 39) F dX7_gain_38 rfl so_14 hb (fun v3 hb => ?_)
      refine AW.cVP (pn := 42) (st := []) F dX7_gain_39 rfl cl_X7_199 so_13 (p5_gainOf_13 x1 v3 hb) rfl rfl (Nat.le_of_ble_eq_true rfl) (by decide) (fun r4 hb => ?_)
      exact AW.iret F G dX7_gain_42 ⟨rfl, _, rfl, hb⟩
    · refine AW.ldc (x := (-1000000001)) (pn := 24) F dX7_gain_22 rfl tw_493 (by decide) ?_
      exact AW.iret F G dX7_gain_24 ⟨rfl, _, rfl, hb⟩

theorem p5_copyFrom_21_13  {h : HP} {Q : HP → Prop} (hb : p5_copyFrom 21 13 h Q) : MT yX5_copyFrom cX5_copyFrom 2 none 1 [vR 21, vR 13] h (QV Q) := by
  refine MT.of (own := RX5) (by decide) rfl (Nat.le_of_ble_eq_true rfl) rfl (fun X F G => ?_)
  unfold p5_copyFrom at hb
  refine AW.aload_n (pn := 1) F dX5_copyFrom_0 rfl rfl rfl ?_
  refine AW.aload_n (pn := 2) F dX5_copyFrom_1 rfl rfl rfl ?_
  refine AW.getI (pn := 5) F dX5_copyFrom_2 rfl gl_X5_37 so_13 rfl ?_
  refine AW.putI (pn := 8) F dX5_copyFrom_5 rfl pl_X5_37 so_21 rfl hb (fun h1 hb => ?_)
  refine AW.aload_n (pn := 9) F dX5_copyFrom_8 rfl rfl rfl ?_
  refine AW.aload_n (pn := 10) F dX5_copyFrom_9 rfl rfl rfl ?_
  refine AW.getI (pn := 13) F dX5_copyFrom_10 rfl gl_X5_41 so_13 rfl ?_
  refine AW.putI (pn := 16) F dX5_copyFrom_13 rfl pl_X5_41 so_21 rfl hb (fun h2 hb => ?_)
  refine AW.aload_n (pn := 17) F dX5_copyFrom_16 rfl rfl rfl ?_
  refine AW.aload_n (pn := 18) F dX5_copyFrom_17 rfl rfl rfl ?_
  refine AW.getI (pn := 21) F dX5_copyFrom_18 rfl gl_X5_65 so_13 rfl ?_
  refine AW.putI (pn := 24) F dX5_copyFrom_21 rfl pl_X5_65 so_21 rfl hb (fun h3 hb => ?_)
  refine AW.aload_n (pn := 25) F dX5_copyFrom_24 rfl rfl rfl ?_
  refine AW.getR (r := 14) (pn := 28) F dX5_copyFrom_25 rfl gl_X5_9 so_13 rfl ?_
  refine AW.iconst (pn := 29) F dX5_copyFrom_28 rfl ?_
  refine AW.aload_n (pn := 30) F dX5_copyFrom_29 rfl rfl rfl ?_
  refine AW.getR (r := 22) (pn := 33) F dX5_copyFrom_30 rfl gl_X5_9 so_21 rfl ?_
  refine AW.iconst (pn := 34) F dX5_copyFrom_33 rfl ?_
  refine AW.bipush (pn := 36) F dX5_copyFrom_34 rfl (by decide) ?_
  refine AW.acpy (pn := 39) 32 F dX5_copyFrom_36 rfl tw_636 tw_450 tw_449 tw_16 so_14 so_22 (by decide) (by decide) (by decide) (by decide) (by decide) (Nat.le_of_ble_eq_true rfl) hb (fun h4 hb => ?_)
  refine AW.aload_n (pn := 40) F dX5_copyFrom_39 rfl rfl rfl ?_
  refine AW.getR (r := 15) (pn := 43) F dX5_copyFrom_40 rfl gl_X5_15 so_13 rfl ?_
  refine AW.iconst (pn := 44) F dX5_copyFrom_43 rfl ?_
  refine AW.aload_n (pn := 45) F dX5_copyFrom_44 rfl rfl rfl ?_
  refine AW.getR (r := 23) (pn := 48) F dX5_copyFrom_45 rfl gl_X5_15 so_21 rfl ?_
  refine AW.iconst (pn := 49) F dX5_copyFrom_48 rfl ?_
  refine AW.bipush (pn := 51) F dX5_copyFrom_49 rfl (by decide) ?_
  refine AW.acpy (pn := 54) 32 F dX5_copyFrom_51 rfl tw_636 tw_450 tw_449 tw_16 so_15 so_23 (by decide) (by decide) (by decide) (by decide) (by decide) (Nat.le_of_ble_eq_true rfl) hb (fun h5 hb => ?_)
  refine AW.aload_n (pn := 55) F dX5_copyFrom_54 rfl rfl rfl ?_
  refine AW.getR (r := 16) (pn := 58) F dX5_copyFrom_55 rfl gl_X5_18 so_13 rfl ?_
  refine AW.iconst (pn := 59) F dX5_copyFrom_58 rfl ?_
  refine AW.aload_n (pn := 60) F dX5_copyFrom_59 rfl rfl rfl ?_
  refine AW.getR (r := 24) (pn := 63) F dX5_copyFrom_60 rfl gl_X5_18 so_21 rfl ?_
  refine AW.iconst (pn := 64) F dX5_copyFrom_63 rfl ?_
  refine AW.bipush (pn := 66) F dX5_copyFrom_64 rfl (by decide) ?_
  refine AW.acpy (pn := 69) 32 F dX5_copyFrom_66 rfl tw_636 tw_450 tw_449 tw_16 so_16 so_24 (by decide) (by decide) (by decide) (by decide) (by decide) (Nat.le_of_ble_eq_true rfl) hb (fun h6 hb => ?_)
  refine AW.aload_n (pn := 70) F dX5_copyFrom_69 rfl rfl rfl ?_
  refine AW.getR (r := 17) (pn := 73) F dX5_copyFrom_70 rfl gl_X5_21 so_13 rfl ?_
  refine AW.iconst (pn := 74) F dX5_copyFrom_73 rfl ?_
  refine AW.aload_n (pn := 75) F dX5_copyFrom_74 rfl rfl rfl ?_
  refine AW.getR (r := 25) (pn := 78) F dX5_copyFrom_75 rfl gl_X5_21 so_21 rfl ?_
  refine AW.iconst (pn := 79) F dX5_copyFrom_78 rfl ?_
  refine AW.bipush (pn := 81) F dX5_copyFrom_79 rfl (by decide) ?_
  refine AW.acpy (pn := 84) 32 F dX5_copyFrom_81 rfl tw_636 tw_450 tw_449 tw_16 so_17 so_25 (by decide) (by decide) (by decide) (by decide) (by decide) (Nat.le_of_ble_eq_true rfl) hb (fun h7 hb => ?_)
  refine AW.aload_n (pn := 85) F dX5_copyFrom_84 rfl rfl rfl ?_
  refine AW.getR (r := 18) (pn := 88) F dX5_copyFrom_85 rfl gl_X5_24 so_13 rfl ?_
  refine AW.iconst (pn := 89) F dX5_copyFrom_88 rfl ?_
  refine AW.aload_n (pn := 90) F dX5_copyFrom_89 rfl rfl rfl ?_
  refine AW.getR (r := 26) (pn := 93) F dX5_copyFrom_90 rfl gl_X5_24 so_21 rfl ?_
  refine AW.iconst (pn := 94) F dX5_copyFrom_93 rfl ?_
  refine AW.sipush (pn := 97) F dX5_copyFrom_94 rfl (by decide) ?_
  refine AW.acpy (pn := 100) 640 F dX5_copyFrom_97 rfl tw_636 tw_450 tw_449 tw_16 so_18 so_26 (by decide) (by decide) (by decide) (by decide) (by decide) (Nat.le_of_ble_eq_true rfl) hb (fun h8 hb => ?_)
  refine AW.aload_n (pn := 101) F dX5_copyFrom_100 rfl rfl rfl ?_
  refine AW.getR (r := 19) (pn := 104) F dX5_copyFrom_101 rfl gl_X5_27 so_13 rfl ?_
  refine AW.iconst (pn := 105) F dX5_copyFrom_104 rfl ?_
  refine AW.aload_n (pn := 106) F dX5_copyFrom_105 rfl rfl rfl ?_
  refine AW.getR (r := 27) (pn := 109) F dX5_copyFrom_106 rfl gl_X5_27 so_21 rfl ?_
  refine AW.iconst (pn := 110) F dX5_copyFrom_109 rfl ?_
  refine AW.iconst (pn := 111) F dX5_copyFrom_110 rfl ?_
  refine AW.acpy (pn := 114) 5 F dX5_copyFrom_111 rfl tw_636 tw_450 tw_449 tw_16 so_19 so_27 (by decide) (by decide) (by decide) (by decide) (by decide) (Nat.le_of_ble_eq_true rfl) hb (fun h9 hb => ?_)
  refine AW.aload_n (pn := 115) F dX5_copyFrom_114 rfl rfl rfl ?_
  refine AW.getR (r := 20) (pn := 118) F dX5_copyFrom_115 rfl gl_X5_30 so_13 rfl ?_
  refine AW.iconst (pn := 119) F dX5_copyFrom_118 rfl ?_
  refine AW.aload_n (pn := 120) F dX5_copyFrom_119 rfl rfl rfl ?_
  refine AW.getR (r := 28) (pn := 123) F dX5_copyFrom_120 rfl gl_X5_30 so_21 rfl ?_
  refine AW.iconst (pn := 124) F dX5_copyFrom_123 rfl ?_
  refine AW.bipush (pn := 126) F dX5_copyFrom_124 rfl (by decide) ?_
  refine AW.acpy (pn := 129) 30 F dX5_copyFrom_126 rfl tw_636 tw_450 tw_449 tw_16 so_20 so_28 (by decide) (by decide) (by decide) (by decide) (by decide) (Nat.le_of_ble_eq_true rfl) hb (fun h10 hb => ?_)
  exact AW.vret F G dX5_copyFrom_129 ⟨rfl, hb⟩

theorem p5_draw_21 (x1 : Int) {h : HP} {Q : Int → HP → Prop} (hb : p5_draw 21 x1 h Q) : MT yX5_draw cX5_draw 2 (some .int) 1 [vR 21, vI x1] h (QI Q) := by
  refine MT.of (own := RX5) (by decide) rfl (Nat.le_of_ble_eq_true rfl) rfl (fun X F G => ?_)
  unfold p5_draw at hb
  refine AW.aload_n (pn := 1) F dX5_draw_0 rfl rfl rfl ?_
  refine AW.aload_n (pn := 2) F dX5_draw_1 rfl rfl rfl ?_
  refine AW.getI (pn := 5) F dX5_draw_2 rfl gl_X5_65 so_21 rfl ?_
  refine AW.i2l (pn := 6) F dX5_draw_5 rfl ?_
  refine AW.ldc2 (x := 1103515245) (pn := 9) F dX5_draw_6 rfl tw_589 (by decide) ?_
  refine AW.lmul (pn := 10) F dX5_draw_9 rfl ?_
  refine AW.ldc2 (x := 12345) (pn := 13) F dX5_draw_10 rfl tw_590 (by decide) ?_
  refine AW.ladd (pn := 14) F dX5_draw_13 rfl ?_
  refine AW.ldc2 (x := 2147483647) (pn := 17) F dX5_draw_14 rfl tw_591 (by decide) ?_
  refine AW.land (pn := 18) F dX5_draw_17 rfl ?_
  refine AW.l2i (pn := 19) F dX5_draw_18 rfl ?_
  refine AW.putI (pn := 22) F dX5_draw_19 rfl pl_X5_65 so_21 rfl hb (fun h1 hb => ?_)
  refine AW.iload_n (pn := 23) F dX5_draw_22 rfl rfl rfl ?_
  refine AW.if_le (pn := 26) (tg := 38) F dX5_draw_23 rfl (by decide) hb (fun hb => ?_) (fun hb => ?_)
  · refine AW.iconst (pn := 39) F dX5_draw_38 rfl ?_
    exact AW.iret F G dX5_draw_39 ⟨_, rfl, hb⟩
  · refine AW.aload_n (pn := 27) F dX5_draw_26 rfl rfl rfl ?_
    refine AW.getI (pn := 30) F dX5_draw_27 rfl gl_X5_65 so_21 rfl ?_
    refine AW.ldc (x := 65536) (pn := 32) F dX5_draw_30 rfl tw_592 (by decide) ?_
    refine AW.idiv (pn := 33) F dX5_draw_32 rfl (by decide) ?_
    refine AW.iload_n (pn := 34) F dX5_draw_33 rfl rfl rfl ?_
    refine AW.irem (pn := 35) F dX5_draw_34 rfl hb.1 ?_
    replace hb := hb.2
    refine AW.goto (tg := 39) F dX5_draw_35 (by decide) ?_
    exact AW.iret F G dX5_draw_39 ⟨_, rfl, hb⟩

theorem p5_handOver_21 (x1 x2 : Int) {h : HP} {Q : HP → Prop} (hb : p5_handOver 21 x1 x2 h Q) : MT yX5_handOver cX5_handOver 3 none 1 [vR 21, vI x1, vI x2] h (QV Q) := by
  refine MT.of (own := RX5) (by decide) rfl (Nat.le_of_ble_eq_true rfl) rfl (fun X F G => ?_)
  unfold p5_handOver at hb
  refine AW.aload_n (pn := 1) F dX5_handOver_0 rfl rfl rfl ?_
  refine AW.getR (r := 23) (pn := 4) F dX5_handOver_1 rfl gl_X5_15 so_21 rfl ?_
  refine AW.iload_n (pn := 5) F dX5_handOver_4 rfl rfl rfl ?_
  refine AW.iload_n (pn := 6) F dX5_handOver_5 rfl rfl rfl ?_
  refine AW.iast (pn := 7) F dX5_handOver_6 rfl so_23 hb (fun h1 hb => ?_)
  refine AW.aload_n (pn := 8) F dX5_handOver_7 rfl rfl rfl ?_
  refine AW.getR (r := 24) (pn := 11) F dX5_handOver_8 rfl gl_X5_18 so_21 rfl ?_
  refine AW.iload_n (pn := 12) F dX5_handOver_11 rfl rfl rfl ?_
  refine AW.iconst (pn := 13) F dX5_handOver_12 rfl ?_
  refine AW.iast (pn := 14) F dX5_handOver_13 rfl so_24 hb (fun h2 hb => ?_)
  refine AW.aload_n (pn := 15) F dX5_handOver_14 rfl rfl rfl ?_
  refine AW.getR (r := 27) (pn := 18) F dX5_handOver_15 rfl gl_X5_27 so_21 rfl ?_
  refine AW.iload_n (pn := 19) F dX5_handOver_18 rfl rfl rfl ?_
  refine AW.dup2IR (pn := 20) F dX5_handOver_19 rfl ?_
  refine AW.iald (pn := 21) F dX5_handOver_20 rfl so_27 hb (fun v3 hb => ?_)
  refine AW.iconst (pn := 22) F dX5_handOver_21 rfl ?_
  refine AW.iadd (pn := 23) F dX5_handOver_22 rfl ?_
  refine AW.iast (pn := 24) F dX5_handOver_23 rfl so_27 hb (fun h4 hb => ?_)
  refine AW.aload_n (pn := 25) F dX5_handOver_24 rfl rfl rfl ?_
  refine AW.getR (r := 28) (pn := 28) F dX5_handOver_25 rfl gl_X5_30 so_21 rfl ?_
  refine AW.iload_n (pn := 29) F dX5_handOver_28 rfl rfl rfl ?_
  refine AW.bipush (pn := 31) F dX5_handOver_29 rfl (by decide) ?_
  refine AW.imul (pn := 32) F dX5_handOver_31 rfl ?_
  refine AW.aload_n (pn := 33) F dX5_handOver_32 rfl rfl rfl ?_
  refine AW.getR (r := 22) (pn := 36) F dX5_handOver_33 rfl gl_X5_9 so_21 rfl ?_
  refine AW.iload_n (pn := 37) F dX5_handOver_36 rfl rfl rfl ?_
  refine AW.iald (pn := 38) F dX5_handOver_37 rfl so_22 hb (fun v5 hb => ?_)
  refine AW.iadd (pn := 39) F dX5_handOver_38 rfl ?_
  refine AW.dup2IR (pn := 40) F dX5_handOver_39 rfl ?_
  refine AW.iald (pn := 41) F dX5_handOver_40 rfl so_28 hb (fun v6 hb => ?_)
  refine AW.iconst (pn := 42) F dX5_handOver_41 rfl ?_
  refine AW.iadd (pn := 43) F dX5_handOver_42 rfl ?_
  refine AW.iast (pn := 44) F dX5_handOver_43 rfl so_28 hb (fun h7 hb => ?_)
  refine AW.aload_n (pn := 45) F dX5_handOver_44 rfl rfl rfl ?_
  refine AW.getR (r := 25) (pn := 48) F dX5_handOver_45 rfl gl_X5_21 so_21 rfl ?_
  refine AW.iload_n (pn := 49) F dX5_handOver_48 rfl rfl rfl ?_
  refine AW.iald (pn := 50) F dX5_handOver_49 rfl so_25 hb (fun v8 hb => ?_)
  refine AW.bipush (pn := 52) F dX5_handOver_50 rfl (by decide) ?_
  refine AW.icmp_ge (pn := 55) (tg := 82) F dX5_handOver_52 rfl (by decide) hb (fun hb => ?_) (fun hb => ?_)
  · exact AW.vret F G dX5_handOver_82 ⟨rfl, hb⟩
  · refine AW.aload_n (pn := 56) F dX5_handOver_55 rfl rfl rfl ?_
    refine AW.getR (r := 26) (pn := 59) F dX5_handOver_56 rfl gl_X5_24 so_21 rfl ?_
    refine AW.iload_n (pn := 60) F dX5_handOver_59 rfl rfl rfl ?_
    refine AW.bipush (pn := 62) F dX5_handOver_60 rfl (by decide) ?_
    refine AW.imul (pn := 63) F dX5_handOver_62 rfl ?_
    refine AW.aload_n (pn := 64) F dX5_handOver_63 rfl rfl rfl ?_
    refine AW.getR (r := 25) (pn := 67) F dX5_handOver_64 rfl gl_X5_21 so_21 rfl ?_
    refine AW.iload_n (pn := 68) F dX5_handOver_67 rfl rfl rfl ?_
    refine AW.iald (pn := 69) F dX5_handOver_68 rfl so_25 hb (fun v9 hb => ?_)
    refine AW.iadd (pn := 70) F dX5_handOver_69 rfl ?_
    refine AW.iload_n (pn := 71) F dX5_handOver_70 rfl rfl rfl ?_
    refine AW.iast (pn := 72) F dX5_handOver_71 rfl so_26 hb (fun h10 hb => ?_)
    refine AW.aload_n (pn := 73) F dX5_handOver_72 rfl rfl rfl ?_
    refine AW.getR (r := 25) (pn := 76) F dX5_handOver_73 rfl gl_X5_21 so_21 rfl ?_
    refine AW.iload_n (pn := 77) F dX5_handOver_76 rfl rfl rfl ?_
    refine AW.dup2IR (pn := 78) F dX5_handOver_77 rfl ?_
    refine AW.iald (pn := 79) F dX5_handOver_78 rfl so_25 hb (fun v11 hb => ?_)
    refine AW.iconst (pn := 80) F dX5_handOver_79 rfl ?_
    refine AW.iadd (pn := 81) F dX5_handOver_80 rfl ?_
    refine AW.iast (pn := 82) F dX5_handOver_81 rfl so_25 hb (fun h12 hb => ?_)
    exact AW.vret F G dX5_handOver_82 ⟨rfl, hb⟩

theorem p5_addPart_21 (x1 x2 : Int) {h : HP} {Q : Int → HP → Prop} (hb : p5_addPart 21 x1 x2 h Q) : MT yX5_addPart cX5_addPart 4 (some .boolean) 2 [vR 21, vI x1, vI x2] h (QI Q) := by
  refine MT.of (own := RX5) (by decide) rfl (Nat.le_of_ble_eq_true rfl) rfl (fun X F G => ?_)
  unfold p5_addPart at hb
  refine AW.aload_n (pn := 1) F dX5_addPart_0 rfl rfl rfl ?_
  refine AW.getI (pn := 4) F dX5_addPart_1 rfl gl_X5_37 so_21 rfl ?_
  refine AW.bipush (pn := 6) F dX5_addPart_4 rfl (by decide) ?_
  refine AW.icmp_lt (pn := 9) (tg := 11) F dX5_addPart_6 rfl (by decide) hb (fun hb => ?_) (fun hb => ?_)
  · refine AW.aload_n (pn := 12) F dX5_addPart_11 rfl rfl rfl ?_
    refine AW.getI (pn := 15) F dX5_addPart_12 rfl gl_X5_37 so_21 rfl ?_
    refine AW.istore_n (ls2 := [some (vR 21), some (vI x1), some (vI x2), some (vI (h 21 1))]) (pn := 16) F dX5_addPart_15 rfl rfl (by decide) rfl rfl ?_
    refine AW.aload_n (pn := 17) F dX5_addPart_16 rfl rfl rfl ?_
    refine AW.dupR (pn := 18) F dX5_addPart_17 rfl ?_
    refine AW.getI (pn := 21) F dX5_addPart_18 rfl gl_X5_37 so_21 rfl ?_
    refine AW.iconst (pn := 22) F dX5_addPart_21 rfl ?_
    refine AW.iadd (pn := 23) F dX5_addPart_22 rfl ?_
    refine AW.putI (pn := 26) F dX5_addPart_23 rfl pl_X5_37 so_21 rfl hb (fun h1 hb => ?_)
    refine AW.aload_n (pn := 27) F dX5_addPart_26 rfl rfl rfl ?_
    refine AW.getR (r := 22) (pn := 30) F dX5_addPart_27 rfl gl_X5_9 so_21 rfl ?_
    refine AW.iload_n (pn := 31) F dX5_addPart_30 rfl rfl rfl ?_
    refine AW.iload_n (pn := 32) F dX5_addPart_31 rfl rfl rfl ?_
    refine AW.iast (pn := 33) F dX5_addPart_32 rfl so_22 hb (fun h2 hb => ?_)
    refine AW.aload_n (pn := 34) F dX5_addPart_33 rfl rfl rfl ?_
    refine AW.getR (r := 23) (pn := 37) F dX5_addPart_34 rfl gl_X5_15 so_21 rfl ?_
    refine AW.iload_n (pn := 38) F dX5_addPart_37 rfl rfl rfl ?_
    refine AW.iconst (pn := 39) F dX5_addPart_38 rfl ?_
    refine AW.iast (pn := 40) F dX5_addPart_39 rfl so_23 hb (fun h3 hb => ?_)
    refine AW.aload_n (pn := 41) F dX5_addPart_40 rfl rfl rfl ?_
    refine AW.getR (r := 24) (pn := 44) F dX5_addPart_41 rfl gl_X5_18 so_21 rfl ?_
    refine AW.iload_n (pn := 45) F dX5_addPart_44 rfl rfl rfl ?_
    refine AW.iconst (pn := 46) F dX5_addPart_45 rfl ?_
    refine AW.iast (pn := 47) F dX5_addPart_46 rfl so_24 hb (fun h4 hb => ?_)
    refine AW.aload_n (pn := 48) F dX5_addPart_47 rfl rfl rfl ?_
    refine AW.getR (r := 25) (pn := 51) F dX5_addPart_48 rfl gl_X5_21 so_21 rfl ?_
    refine AW.iload_n (pn := 52) F dX5_addPart_51 rfl rfl rfl ?_
    refine AW.iconst (pn := 53) F dX5_addPart_52 rfl ?_
    refine AW.iast (pn := 54) F dX5_addPart_53 rfl so_25 hb (fun h5 hb => ?_)
    refine AW.iload_n (pn := 55) F dX5_addPart_54 rfl rfl rfl ?_
    refine AW.iconst (pn := 56) F dX5_addPart_55 rfl ?_
    refine AW.icmp_eq (pn := 59) (tg := 65) F dX5_addPart_56 rfl (by decide) hb (fun hb => ?_) (fun hb => ?_)
    · refine AW.iconst (pn := 66) F dX5_addPart_65 rfl ?_
      exact AW.zret F G dX5_addPart_66 (by decide) ⟨_, rfl, hb⟩
    · refine AW.aload_n (pn := 60) F dX5_addPart_59 rfl rfl rfl ?_
      refine AW.iload_n (pn := 61) F dX5_addPart_60 rfl rfl rfl ?_
      refine AW.iload_n (pn := 62) F dX5_addPart_61 rfl rfl rfl ?_
      refine AW.cVV (pn := 65) (st := []) F dX5_addPart_62 rfl cl_X5_78 so_21 (p5_handOver_21 x2 (h 21 1) hb) rfl rfl (Nat.le_of_ble_eq_true rfl) (by decide) (fun h6 hb => ?_)
      refine AW.iconst (pn := 66) F dX5_addPart_65 rfl ?_
      exact AW.zret F G dX5_addPart_66 (by decide) ⟨_, rfl, hb⟩
  · refine AW.iconst (pn := 10) F dX5_addPart_9 rfl ?_
    exact AW.zret F G dX5_addPart_10 (by decide) ⟨_, rfl, hb⟩

theorem p5_comeByDraw_21  {h : HP} {Q : Int → HP → Prop} (hb : p5_comeByDraw 21 h Q) : MT yX5_comeByDraw cX5_comeByDraw 1 (some .boolean) 3 [vR 21] h (QI Q) := by
  refine MT.of (own := RX5) (by decide) rfl (Nat.le_of_ble_eq_true rfl) rfl (fun X F G => ?_)
  unfold p5_comeByDraw at hb
  refine AW.aload_n (pn := 1) F dX5_comeByDraw_0 rfl rfl rfl ?_
  refine AW.getI (pn := 4) F dX5_comeByDraw_1 rfl gl_X5_37 so_21 rfl ?_
  refine AW.bipush (pn := 6) F dX5_comeByDraw_4 rfl (by decide) ?_
  refine AW.icmp_ge (pn := 9) (tg := 32) F dX5_comeByDraw_6 rfl (by decide) hb (fun hb => ?_) (fun hb => ?_)
  · refine AW.iconst (pn := 33) F dX5_comeByDraw_32 rfl ?_
    exact AW.zret F G dX5_comeByDraw_33 (by decide) ⟨_, rfl, hb⟩
  · refine AW.aload_n (pn := 10) F dX5_comeByDraw_9 rfl rfl rfl ?_
    refine AW.aload_n (pn := 11) F dX5_comeByDraw_10 rfl rfl rfl ?_
    refine AW.aload_n (pn := 12) F dX5_comeByDraw_11 rfl rfl rfl ?_
    refine AW.getR (r := 2) (pn := 15) F dX5_comeByDraw_12 rfl gl_X5_33 so_21 rfl ?_
    refine AW.getI (pn := 18) F dX5_comeByDraw_15 rfl gl_X5_98 so_2 rfl ?_
    refine AW.cVI (pn := 21) (st := [vR 21]) F dX5_comeByDraw_18 rfl cl_X5_134 so_21 (p5_draw_21 (h 2 0) hb) rfl rfl (Nat.le_of_ble_eq_true rfl) (by decide) (fun r1 h2 hb => ?_)
    refine AW.iconst (pn := 22) F dX5_comeByDraw_21 rfl ?_
    refine AW.cVI (pn := 25) (st := []) F dX5_comeByDraw_22 rfl cl_X5_61 so_21 (p5_addPart_21 r1 (-1) hb) rfl rfl (Nat.le_of_ble_eq_true rfl) (by decide) (fun r3 h4 hb => ?_)
    refine AW.if_eq (pn := 28) (tg := 32) F dX5_comeByDraw_25 rfl (by decide) hb (fun hb => ?_) (fun hb => ?_)
    · refine AW.iconst (pn := 33) F dX5_comeByDraw_32 rfl ?_
      exact AW.zret F G dX5_comeByDraw_33 (by decide) ⟨_, rfl, hb⟩
    · refine AW.iconst (pn := 29) F dX5_comeByDraw_28 rfl ?_
      refine AW.goto (tg := 33) F dX5_comeByDraw_29 (by decide) ?_
      exact AW.zret F G dX5_comeByDraw_33 (by decide) ⟨_, rfl, hb⟩

theorem p5_lies_21 (x1 : Int) {h : HP} {Q : Int → Prop} (hb : p5_lies 21 x1 h Q) : MT yX5_lies cX5_lies 2 (some .boolean) 1 [vR 21, vI x1] h (QP h Q) := by
  refine MT.of (own := RX5) (by decide) rfl (Nat.le_of_ble_eq_true rfl) rfl (fun X F G => ?_)
  unfold p5_lies at hb
  refine AW.aload_n (pn := 1) F dX5_lies_0 rfl rfl rfl ?_
  refine AW.getR (r := 23) (pn := 4) F dX5_lies_1 rfl gl_X5_15 so_21 rfl ?_
  refine AW.iload_n (pn := 5) F dX5_lies_4 rfl rfl rfl ?_
  refine AW.iald (pn := 6) F dX5_lies_5 rfl so_23 hb (fun v1 hb => ?_)
  refine AW.iconst (pn := 7) F dX5_lies_6 rfl ?_
  refine AW.icmp_ne (pn := 10) (tg := 14) F dX5_lies_7 rfl (by decide) hb (fun hb => ?_) (fun hb => ?_)
  · refine AW.iconst (pn := 15) F dX5_lies_14 rfl ?_
    exact AW.zret F G dX5_lies_15 (by decide) ⟨rfl, _, rfl, hb⟩
  · refine AW.iconst (pn := 11) F dX5_lies_10 rfl ?_
    refine AW.goto (tg := 15) F dX5_lies_11 (by decide) ?_
    exact AW.zret F G dX5_lies_15 (by decide) ⟨rfl, _, rfl, hb⟩

theorem p5_mayTake_21 (x1 x2 : Int) {h : HP} {Q : Int → Prop} (hb : p5_mayTake 21 x1 x2 h Q) : MT yX5_mayTake cX5_mayTake 3 (some .boolean) 2 [vR 21, vI x1, vI x2] h (QP h Q) := by
  refine MT.of (own := RX5) (by decide) rfl (Nat.le_of_ble_eq_true rfl) rfl (fun X F G => ?_)
  unfold p5_mayTake at hb
  refine AW.aload_n (pn := 1) F dX5_mayTake_0 rfl rfl rfl ?_
  refine AW.getR (r := 27) (pn := 4) F dX5_mayTake_1 rfl gl_X5_27 so_21 rfl ?_
  refine AW.iload_n (pn := 5) F dX5_mayTake_4 rfl rfl rfl ?_
  refine AW.iald (pn := 6) F dX5_mayTake_5 rfl so_27 hb (fun v1 hb => ?_)
  refine AW.iconst (pn := 7) F dX5_mayTake_6 rfl ?_
  refine AW.icmp_ge (pn := 10) (tg := 32) F dX5_mayTake_7 rfl (by decide) hb (fun hb => ?_) (fun hb => ?_)
  · refine AW.iconst (pn := 33) F dX5_mayTake_32 rfl ?_
    exact AW.zret F G dX5_mayTake_33 (by decide) ⟨rfl, _, rfl, hb⟩
  · refine AW.aload_n (pn := 11) F dX5_mayTake_10 rfl rfl rfl ?_
    refine AW.iload_n (pn := 12) F dX5_mayTake_11 rfl rfl rfl ?_
    refine AW.cVP (pn := 15) (st := []) F dX5_mayTake_12 rfl cl_X5_74 so_21 (p5_lies_21 x2 hb) rfl rfl (Nat.le_of_ble_eq_true rfl) (by decide) (fun r2 hb => ?_)
    refine AW.if_eq (pn := 18) (tg := 32) F dX5_mayTake_15 rfl (by decide) hb (fun hb => ?_) (fun hb => ?_)
    · refine AW.iconst (pn := 33) F dX5_mayTake_32 rfl ?_
      exact AW.zret F G dX5_mayTake_33 (by decide) ⟨rfl, _, rfl, hb⟩
    · refine AW.aload_n (pn := 19) F dX5_mayTake_18 rfl rfl rfl ?_
      refine AW.getR (r := 24) (pn := 22) F dX5_mayTake_19 rfl gl_X5_18 so_21 rfl ?_
      refine AW.iload_n (pn := 23) F dX5_mayTake_22 rfl rfl rfl ?_
      refine AW.iald (pn := 24) F dX5_mayTake_23 rfl so_24 hb (fun v3 hb => ?_)
      refine AW.iload_n (pn := 25) F dX5_mayTake_24 rfl rfl rfl ?_
      refine AW.icmp_eq (pn := 28) (tg := 32) F dX5_mayTake_25 rfl (by decide) hb (fun hb => ?_) (fun hb => ?_)
      · refine AW.iconst (pn := 33) F dX5_mayTake_32 rfl ?_
        exact AW.zret F G dX5_mayTake_33 (by decide) ⟨rfl, _, rfl, hb⟩
      · refine AW.iconst (pn := 29) F dX5_mayTake_28 rfl ?_
        refine AW.goto (tg := 33) F dX5_mayTake_29 (by decide) ?_
        exact AW.zret F G dX5_mayTake_33 (by decide) ⟨rfl, _, rfl, hb⟩

theorem p5_gainOf_21 (x1 x2 : Int) {h : HP} {Q : Int → Prop} (hb : p5_gainOf 21 x1 x2 h Q) : MT yX5_gainOf cX5_gainOf 3 (some .int) 2 [vR 21, vI x1, vI x2] h (QP h Q) := by
  refine MT.of (own := RX5) (by decide) rfl (Nat.le_of_ble_eq_true rfl) rfl (fun X F G => ?_)
  unfold p5_gainOf at hb
  refine AW.aload_n (pn := 1) F dX5_gainOf_0 rfl rfl rfl ?_
  refine AW.getR (r := 28) (pn := 4) F dX5_gainOf_1 rfl gl_X5_30 so_21 rfl ?_
  refine AW.iload_n (pn := 5) F dX5_gainOf_4 rfl rfl rfl ?_
  refine AW.bipush (pn := 7) F dX5_gainOf_5 rfl (by decide) ?_
  refine AW.imul (pn := 8) F dX5_gainOf_7 rfl ?_
  refine AW.iload_n (pn := 9) F dX5_gainOf_8 rfl rfl rfl ?_
  refine AW.iadd (pn := 10) F dX5_gainOf_9 rfl ?_
  refine AW.iald (pn := 11) F dX5_gainOf_10 rfl so_28 hb (fun v1 hb => ?_)
  refine AW.if_ne (pn := 14) (tg := 26) F dX5_gainOf_11 rfl (by decide) hb (fun hb => ?_) (fun hb => ?_)
  · refine AW.iconst (pn := 27) F dX5_gainOf_26 rfl ?_
    exact AW.iret F G dX5_gainOf_27 ⟨rfl, _, rfl, hb⟩
  · refine AW.aload_n (pn := 15) F dX5_gainOf_14 rfl rfl rfl ?_
    refine AW.getR (r := 2) (pn := 18) F dX5_gainOf_15 rfl gl_X5_33 so_21 rfl ?_
    refine AW.iload_n (pn := 19) F dX5_gainOf_18 rfl rfl rfl ?_
    refine AW.iload_n (pn := 20) F dX5_gainOf_19 rfl rfl rfl ?_
    refine AW.cVP (pn := 23) (st := []) F dX5_gainOf_20 rfl cl_X5_88 so_2 (p4_worthOf_2 x1 x2 hb) rfl rfl (Nat.le_of_ble_eq_true rfl) (by decide) (fun r2 hb => ?_)
    refine AW.goto (tg := 27) F dX5_gainOf_23 (by decide) ?_
    exact AW.iret F G dX5_gainOf_27 ⟨rfl, _, rfl, hb⟩

theorem p5_partToTake_L7_ok_21 {X : Cx} {x1 : Int} {h : HP} {Q : Int → Prop} (F : Fx X cX5_partToTake RX5 5 3) (G : Rx X (some .int) (QP h Q))  : ∀ (n : Nat) (x2 : Int) (x3 : Int) (x4 : Int), p5_partToTake_L7 21 x1 h Q n x2 x3 x4 → AW X 5 7 [some (vR 21), some (vI x1), some (vI x2), some (vI x3), some (vI x4)] [] h := by
  intro n
  induction n with
  | zero => intro _ _ _ hb; exact hb.elim
  | succ n ih =>
    intro x2 x3 x4 hb
    unfold p5_partToTake_L7 at hb
    refine AW.iload (pn := 9) F dX5_partToTake_7 rfl rfl ?_
    refine AW.aload_n (pn := 10) F dX5_partToTake_9 rfl rfl rfl ?_
    refine AW.getI (pn := 13) F dX5_partToTake_10 rfl gl_X5_37 so_21 rfl ?_
    refine AW.icmp_ge (pn := 16) (tg := 64) F dX5_partToTake_13 rfl (by decide) hb (fun hb => ?_) (fun hb => ?_)
    · refine AW.iload_n (pn := 65) F dX5_partToTake_64 rfl rfl rfl ?_
      exact AW.iret F G dX5_partToTake_65 ⟨rfl, _, rfl, hb⟩
    · refine AW.aload_n (pn := 17) F dX5_partToTake_16 rfl rfl rfl ?_
      refine AW.iload_n (pn := 18) F dX5_partToTake_17 rfl rfl rfl ?_
      refine AW.iload (pn := 20) F dX5_partToTake_18 rfl rfl ?_
      refine AW.cVP (pn := 23) (st := []) F dX5_partToTake_20 rfl cl_X5_85 so_21 (p5_mayTake_21 x1 x4 hb) rfl rfl (Nat.le_of_ble_eq_true rfl) (by decide) (fun r1 hb => ?_)
      refine AW.if_eq (pn := 26) (tg := 58) F dX5_partToTake_23 rfl (by decide) hb (fun hb => ?_) (fun hb => ?_)
      · refine AW.iinc (ls2 := [some (vR 21), some (vI x1), some (vI x2), some (vI x3), some (vI (x4 + 1))]) (pn := 61) F dX5_partToTake_58 rfl rfl (by decide) rfl rfl ?_
        refine AW.goto (tg := 7) F dX5_partToTake_61 (by decide) ?_
        exact ih _ _ _ hb
      · refine AW.aload_n (pn := 27) F dX5_partToTake_26 rfl rfl rfl ?_
        refine AW.iload_n (pn := 28) F dX5_partToTake_27 rfl rfl rfl ?_
        refine AW.aload_n (pn := 29) F dX5_partToTake_28 rfl rfl rfl ?_
        refine AW.getR (r := 22) (pn := 32) F dX5_partToTake_29 rfl gl_X5_9 so_21 rfl ?_
        refine AW.iload (pn := 34) F dX5_partToTake_32 rfl rfl ?_
        refine AW.iald (pn := 35) F dX5_partToTake_34 rfl so_22 hb (fun v2 hb => ?_)
        refine AW.cVP (pn := 38) (st := []) F dX5_partToTake_35 rfl cl_X5_92 so_21 (p5_gainOf_21 x1 v2 hb) rfl rfl (Nat.le_of_ble_eq_true rfl) (by decide) (fun r3 hb => ?_)
        refine AW.iload_n (pn := 39) F dX5_partToTake_38 rfl rfl rfl ?_
        refine AW.icmp_le (pn := 42) (tg := 58) F dX5_partToTake_39 rfl (by decide) hb (fun hb => ?_) (fun hb => ?_)
        · refine AW.iinc (ls2 := [some (vR 21), some (vI x1), some (vI x2), some (vI x3), some (vI (x4 + 1))]) (pn := 61) F dX5_partToTake_58 rfl rfl (by decide) rfl rfl ?_
          refine AW.goto (tg := 7) F dX5_partToTake_61 (by decide) ?_
          exact ih _ _ _ hb
        · refine AW.iload (pn := 44) F dX5_partToTake_42 rfl rfl ?_
          refine AW.istore_n (ls2 := [some (vR 21), some (vI x1), some (vI x4), some (vI x3), some (vI x4)]) (pn := 45) F dX5_partToTake_44 rfl rfl (by decide) rfl rfl ?_
          refine AW.aload_n (pn := 46) F dX5_partToTake_45 rfl rfl rfl ?_
          refine AW.iload_n (pn := 47) F dX5_partToTake_46 rfl rfl rfl ?_
          refine AW.aload_n (pn := 48) F dX5_partToTake_47 rfl rfl rfl ?_
          refine AW.getR (r := 22) (pn := 51) F dX5_partToTake_48 rfl gl_X5_9 so_21 rfl ?_
          refine AW.iload (pn := 53) F dX5_partToTake_51 rfl rfl ?_
          refine AW.iald (pn := 54) F dX5_partToTake_53 rfl so_22 hb (fun v4 hb => ?_)
          refine AW.cVP (pn := 57) (st := []) F dX5_partToTake_54 rfl cl_X5_92 so_21 (p5_gainOf_21 x1 v4 hb) rfl rfl (Nat.le_of_ble_eq_true rfl) (by decide) (fun r5 hb => ?_)
          refine AW.istore_n (ls2 := [some (vR 21), some (vI x1), some (vI x4), some (vI r5), some (vI x4)]) (pn := 58) F dX5_partToTake_57 rfl rfl (by decide) rfl rfl ?_
          refine AW.iinc (ls2 := [some (vR 21), some (vI x1), some (vI x4), some (vI r5), some (vI (x4 + 1))]) (pn := 61) F dX5_partToTake_58 rfl rfl (by decide) rfl rfl ?_
          refine AW.goto (tg := 7) F dX5_partToTake_61 (by decide) ?_
          exact ih _ _ _ hb

theorem p5_partToTake_21 (x1 : Int) {h : HP} {Q : Int → Prop} (hb : p5_partToTake 21 x1 h Q) : MT yX5_partToTake cX5_partToTake 5 (some .int) 3 [vR 21, vI x1] h (QP h Q) := by
  refine MT.of (own := RX5) (by decide) rfl (Nat.le_of_ble_eq_true rfl) rfl (fun X F G => ?_)
  unfold p5_partToTake at hb
  refine AW.iconst (pn := 1) F dX5_partToTake_0 rfl ?_
  refine AW.istore_n (ls2 := [some (vR 21), some (vI x1), some (vI (-1)), none, none]) (pn := 2) F dX5_partToTake_1 rfl rfl (by decide) rfl rfl ?_
  refine AW.iconst (pn := 3) F dX5_partToTake_2 rfl ?_
  refine AW.istore_n (ls2 := [some (vR 21), some (vI x1), some (vI (-1)), some (vI 0), none]) (pn := 4) F dX5_partToTake_3 rfl rfl (by decide) rfl rfl ?_
  refine AW.iconst (pn := 5) F dX5_partToTake_4 rfl ?_
  refine AW.istore (ls2 := [some (vR 21), some (vI x1), some (vI (-1)), some (vI 0), some (vI 0)]) (pn := 7) F dX5_partToTake_5 rfl (by decide) rfl rfl ?_
  refine p5_partToTake_L7_ok_21 F G  _ _ _ _ hb

theorem p5_carryHome_21 (x1 x2 : Int) {h : HP} {Q : Int → HP → Prop} (hb : p5_carryHome 21 x1 x2 h Q) : MT yX5_carryHome cX5_carryHome 3 (some .boolean) 3 [vR 21, vI x1, vI x2] h (QI Q) := by
  refine MT.of (own := RX5) (by decide) rfl (Nat.le_of_ble_eq_true rfl) rfl (fun X F G => ?_)
  unfold p5_carryHome at hb
  refine AW.aload_n (pn := 1) F dX5_carryHome_0 rfl rfl rfl ?_
  refine AW.iload_n (pn := 2) F dX5_carryHome_1 rfl rfl rfl ?_
  refine AW.iload_n (pn := 3) F dX5_carryHome_2 rfl rfl rfl ?_
  refine AW.cVP (pn := 6) (st := []) F dX5_carryHome_3 rfl cl_X5_85 so_21 (p5_mayTake_21 x1 x2 hb) rfl rfl (Nat.le_of_ble_eq_true rfl) (by decide) (fun r1 hb => ?_)
  refine AW.if_ne (pn := 9) (tg := 11) F dX5_carryHome_6 rfl (by decide) hb (fun hb => ?_) (fun hb => ?_)
  · refine AW.aload_n (pn := 12) F dX5_carryHome_11 rfl rfl rfl ?_
    refine AW.iload_n (pn := 13) F dX5_carryHome_12 rfl rfl rfl ?_
    refine AW.iload_n (pn := 14) F dX5_carryHome_13 rfl rfl rfl ?_
    refine AW.cVV (pn := 17) (st := []) F dX5_carryHome_14 rfl cl_X5_78 so_21 (p5_handOver_21 x1 x2 hb) rfl rfl (Nat.le_of_ble_eq_true rfl) (by decide) (fun h2 hb => ?_)
    refine AW.aload_n (pn := 18) F dX5_carryHome_17 rfl rfl rfl ?_
    refine AW.dupR (pn := 19) F dX5_carryHome_18 rfl ?_
    refine AW.getI (pn := 22) F dX5_carryHome_19 rfl gl_X5_82 so_21 rfl ?_
    refine AW.iconst (pn := 23) F dX5_carryHome_22 rfl ?_
    refine AW.iadd (pn := 24) F dX5_carryHome_23 rfl ?_
    refine AW.putI (pn := 27) F dX5_carryHome_24 rfl pl_X5_82 so_21 rfl hb (fun h3 hb => ?_)
    refine AW.iconst (pn := 28) F dX5_carryHome_27 rfl ?_
    exact AW.zret F G dX5_carryHome_28 (by decide) ⟨_, rfl, hb⟩
  · refine AW.iconst (pn := 10) F dX5_carryHome_9 rfl ?_
    exact AW.zret F G dX5_carryHome_10 (by decide) ⟨_, rfl, hb⟩

