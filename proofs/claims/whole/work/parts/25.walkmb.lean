theorem p8_worthOf_69 (x1 x2 : Int) {h : HP} {Q : Int → Prop} (hb : p8_worthOf x1 x2 h Q) : MT yX8_worthOf cX8_worthOf 5 (some .int) 2 [vR 69, vI x1, vI x2] h (QP h Q) := by
  refine MT.of (own := RX8) (by decide) rfl (Nat.le_of_ble_eq_true rfl) rfl (fun X F G => ?_)
  unfold p8_worthOf at hb
  refine AW.iconst (pn := 1) F dX8_worthOf_0 rfl ?_
  refine AW.istore_n (ls2 := [some (vR 69), some (vI x1), some (vI x2), some (vI 0), none]) (pn := 2) F dX8_worthOf_1 rfl rfl (by decide) rfl rfl ?_
  refine AW.iconst (pn := 3) F dX8_worthOf_2 rfl ?_
  refine AW.istore (ls2 := [some (vR 69), some (vI x1), some (vI x2), some (vI 0), some (vI 0)]) (pn := 5) F dX8_worthOf_3 rfl (by decide) rfl rfl ?_
  refine p8_worthOf_L5_ok_69 F G  _ _ _ hb

theorem p8_wealthOf_69 (x1 : Int) {h : HP} {Q : Int → Prop} (hb : p8_wealthOf x1 h Q) : MT yX8_wealthOf cX8_wealthOf 2 (some .int) 3 [vR 69, vI x1] h (QP h Q) := by
  refine MT.of (own := RX8) (by decide) rfl (Nat.le_of_ble_eq_true rfl) rfl (fun X F G => ?_)
  unfold p8_wealthOf at hb
  refine AW.aload_n (pn := 1) F dX8_wealthOf_0 rfl rfl rfl ?_
  refine AW.iload_n (pn := 2) F dX8_wealthOf_1 rfl rfl rfl ?_
  refine AW.aload_n (pn := 3) F dX8_wealthOf_2 rfl rfl rfl ?_
  refine AW.iload_n (pn := 4) F dX8_wealthOf_3 rfl rfl rfl ?_
  refine AW.cVP (pn := 7) (st := [vI x1, vR 69]) F dX8_wealthOf_4 rfl cl_X8_205 so_69 (p8_sortsOf_69 x1 hb) rfl rfl (Nat.le_of_ble_eq_true rfl) (by decide) (fun r1 hb => ?_)
  refine AW.cVP (pn := 10) (st := []) F dX8_wealthOf_7 rfl cl_X8_209 so_69 (p8_worthOf_69 x1 r1 hb) rfl rfl (Nat.le_of_ble_eq_true rfl) (by decide) (fun r2 hb => ?_)
  exact AW.iret F G dX8_wealthOf_10 ⟨rfl, _, rfl, hb⟩

theorem p8_inYard_L4_ok_69 {X : Cx} {x1 : Int} {h : HP} {Q : Int → Prop} (F : Fx X cX8_inYard RX8 4 1) (G : Rx X (some .int) (QP h Q))  : ∀ (n : Nat) (x2 : Int) (x3 : Int), p8_inYard_L4 x1 h Q n x2 x3 → AW X 4 4 [some (vR 69), some (vI x1), some (vI x2), some (vI x3)] [] h := by
  intro n
  induction n with
  | zero => intro _ _ hb; exact hb.elim
  | succ n ih =>
    intro x2 x3 hb
    unfold p8_inYard_L4 at hb
    refine AW.iload_n (pn := 5) F dX8_inYard_4 rfl rfl rfl ?_
    refine AW.aload_n (pn := 6) F dX8_inYard_5 rfl rfl rfl ?_
    refine AW.getI (pn := 9) F dX8_inYard_6 rfl gl_X8_106 so_69 rfl ?_
    refine AW.icmp_ge (pn := 12) (tg := 45) F dX8_inYard_9 rfl (by decide) hb (fun hb => ?_) (fun hb => ?_)
    · refine AW.iload_n (pn := 46) F dX8_inYard_45 rfl rfl rfl ?_
      exact AW.iret F G dX8_inYard_46 ⟨rfl, _, rfl, hb⟩
    · refine AW.iload_n (pn := 13) F dX8_inYard_12 rfl rfl rfl ?_
      refine AW.aload_n (pn := 14) F dX8_inYard_13 rfl rfl rfl ?_
      refine AW.getR (r := 75) (pn := 17) F dX8_inYard_14 rfl gl_X8_25 so_69 rfl ?_
      refine AW.iload_n (pn := 18) F dX8_inYard_17 rfl rfl rfl ?_
      refine AW.iald (pn := 19) F dX8_inYard_18 rfl so_75 hb (fun v1 hb => ?_)
      refine AW.if_ge (pn := 22) (tg := 36) F dX8_inYard_19 rfl (by decide) hb (fun hb => ?_) (fun hb => ?_)
      · refine AW.iconst (pn := 37) F dX8_inYard_36 rfl ?_
        refine AW.iadd (pn := 38) F dX8_inYard_37 rfl ?_
        refine AW.istore_n (ls2 := [some (vR 69), some (vI x1), some (vI (x2 + 0)), some (vI x3)]) (pn := 39) F dX8_inYard_38 rfl rfl (by decide) rfl rfl ?_
        refine AW.iinc (ls2 := [some (vR 69), some (vI x1), some (vI (x2 + 0)), some (vI (x3 + 1))]) (pn := 42) F dX8_inYard_39 rfl rfl (by decide) rfl rfl ?_
        refine AW.goto (tg := 4) F dX8_inYard_42 (by decide) ?_
        exact ih _ _ hb
      · refine AW.aload_n (pn := 23) F dX8_inYard_22 rfl rfl rfl ?_
        refine AW.getR (r := 76) (pn := 26) F dX8_inYard_23 rfl gl_X8_28 so_69 rfl ?_
        refine AW.iload_n (pn := 27) F dX8_inYard_26 rfl rfl rfl ?_
        refine AW.iald (pn := 28) F dX8_inYard_27 rfl so_76 hb (fun v2 hb => ?_)
        refine AW.iload_n (pn := 29) F dX8_inYard_28 rfl rfl rfl ?_
        refine AW.icmp_ne (pn := 32) (tg := 36) F dX8_inYard_29 rfl (by decide) hb (fun hb => ?_) (fun hb => ?_)
        · refine AW.iconst (pn := 37) F dX8_inYard_36 rfl ?_
          refine AW.iadd (pn := 38) F dX8_inYard_37 rfl ?_
          refine AW.istore_n (ls2 := [some (vR 69), some (vI x1), some (vI (x2 + 0)), some (vI x3)]) (pn := 39) F dX8_inYard_38 rfl rfl (by decide) rfl rfl ?_
          refine AW.iinc (ls2 := [some (vR 69), some (vI x1), some (vI (x2 + 0)), some (vI (x3 + 1))]) (pn := 42) F dX8_inYard_39 rfl rfl (by decide) rfl rfl ?_
          refine AW.goto (tg := 4) F dX8_inYard_42 (by decide) ?_
          exact ih _ _ hb
        · refine AW.iconst (pn := 33) F dX8_inYard_32 rfl ?_
          refine AW.goto (tg := 37) F dX8_inYard_33 (by decide) ?_
          refine AW.iadd (pn := 38) F dX8_inYard_37 rfl ?_
          refine AW.istore_n (ls2 := [some (vR 69), some (vI x1), some (vI (x2 + 1)), some (vI x3)]) (pn := 39) F dX8_inYard_38 rfl rfl (by decide) rfl rfl ?_
          refine AW.iinc (ls2 := [some (vR 69), some (vI x1), some (vI (x2 + 1)), some (vI (x3 + 1))]) (pn := 42) F dX8_inYard_39 rfl rfl (by decide) rfl rfl ?_
          refine AW.goto (tg := 4) F dX8_inYard_42 (by decide) ?_
          exact ih _ _ hb

theorem p8_inYard_69 (x1 : Int) {h : HP} {Q : Int → Prop} (hb : p8_inYard x1 h Q) : MT yX8_inYard cX8_inYard 4 (some .int) 1 [vR 69, vI x1] h (QP h Q) := by
  refine MT.of (own := RX8) (by decide) rfl (Nat.le_of_ble_eq_true rfl) rfl (fun X F G => ?_)
  unfold p8_inYard at hb
  refine AW.iconst (pn := 1) F dX8_inYard_0 rfl ?_
  refine AW.istore_n (ls2 := [some (vR 69), some (vI x1), some (vI 0), none]) (pn := 2) F dX8_inYard_1 rfl rfl (by decide) rfl rfl ?_
  refine AW.iconst (pn := 3) F dX8_inYard_2 rfl ?_
  refine AW.istore_n (ls2 := [some (vR 69), some (vI x1), some (vI 0), some (vI 0)]) (pn := 4) F dX8_inYard_3 rfl rfl (by decide) rfl rfl ?_
  refine p8_inYard_L4_ok_69 F G  _ _ _ hb

theorem p8_house_69 (x1 x2 : Int) {h : HP} {Q : Int → Prop} (hb : p8_house x1 x2 h Q) : MT yX8_house cX8_house 3 (some .int) 4 [vR 69, vI x1, vI x2] h (QP h Q) := by
  refine MT.of (own := RX8) (by decide) rfl (Nat.le_of_ble_eq_true rfl) rfl (fun X F G => ?_)
  unfold p8_house at hb
  refine AW.aload_n (pn := 1) F dX8_house_0 rfl rfl rfl ?_
  refine AW.iload_n (pn := 2) F dX8_house_1 rfl rfl rfl ?_
  refine AW.cVP (pn := 5) (st := []) F dX8_house_2 rfl cl_X8_218 so_69 (p8_isHouse_69 x1 hb) rfl rfl (Nat.le_of_ble_eq_true rfl) (by decide) (fun r1 hb => ?_)
  refine AW.if_ne (pn := 8) (tg := 11) F dX8_house_5 rfl (by decide) hb (fun hb => ?_) (fun hb => ?_)
  · refine AW.iload_n (pn := 12) F dX8_house_11 rfl rfl rfl ?_
    by_cases hq0 : w32 x2 < 0 ∨ 4 < w32 x2
    · refine AW.tabOut (tg := 79) F dX8_house_12 hq0 (by decide) ?_
      replace hb := hb.1 hq0
      refine AW.ldc (x := (-1000000002)) (pn := 81) F dX8_house_79 rfl tw_938 (by decide) ?_
      exact AW.iret F G dX8_house_81 ⟨rfl, _, rfl, hb⟩
    · have hq1 : w32 x2 = 0 ∨ w32 x2 = 1 ∨ w32 x2 = 2 ∨ w32 x2 = 3 ∨ w32 x2 = 4 := by omega
      rcases hq1 with hq | hq | hq | hq | hq
      · refine AW.tabIn (tg := 48) 0 F dX8_house_12 hq (by decide) (by decide) rfl (by decide) ?_
        replace hb := hb.2.1 hq
        refine AW.aload_n (pn := 49) F dX8_house_48 rfl rfl rfl ?_
        refine AW.getR (r := 70) (pn := 52) F dX8_house_49 rfl gl_X8_7 so_69 rfl ?_
        refine AW.iload_n (pn := 53) F dX8_house_52 rfl rfl rfl ?_
        refine AW.iald (pn := 54) F dX8_house_53 rfl so_70 hb (fun v2 hb => ?_)
        exact AW.iret F G dX8_house_54 ⟨rfl, _, rfl, hb⟩
      · refine AW.tabIn (tg := 55) 1 F dX8_house_12 hq (by decide) (by decide) rfl (by decide) ?_
        replace hb := hb.2.2.1 hq
        refine AW.aload_n (pn := 56) F dX8_house_55 rfl rfl rfl ?_
        refine AW.iload_n (pn := 57) F dX8_house_56 rfl rfl rfl ?_
        refine AW.cVP (pn := 60) (st := []) F dX8_house_57 rfl cl_X8_212 so_69 (p8_countOf_69 x1 hb) rfl rfl (Nat.le_of_ble_eq_true rfl) (by decide) (fun r3 hb => ?_)
        exact AW.iret F G dX8_house_60 ⟨rfl, _, rfl, hb⟩
      · refine AW.tabIn (tg := 61) 2 F dX8_house_12 hq (by decide) (by decide) rfl (by decide) ?_
        replace hb := hb.2.2.2.1 hq
        refine AW.aload_n (pn := 62) F dX8_house_61 rfl rfl rfl ?_
        refine AW.iload_n (pn := 63) F dX8_house_62 rfl rfl rfl ?_
        refine AW.cVP (pn := 66) (st := []) F dX8_house_63 rfl cl_X8_223 so_69 (p8_wealthOf_69 x1 hb) rfl rfl (Nat.le_of_ble_eq_true rfl) (by decide) (fun r4 hb => ?_)
        exact AW.iret F G dX8_house_66 ⟨rfl, _, rfl, hb⟩
      · refine AW.tabIn (tg := 67) 3 F dX8_house_12 hq (by decide) (by decide) rfl (by decide) ?_
        replace hb := hb.2.2.2.2.1 hq
        refine AW.aload_n (pn := 68) F dX8_house_67 rfl rfl rfl ?_
        refine AW.iload_n (pn := 69) F dX8_house_68 rfl rfl rfl ?_
        refine AW.cVP (pn := 72) (st := []) F dX8_house_69 rfl cl_X8_205 so_69 (p8_sortsOf_69 x1 hb) rfl rfl (Nat.le_of_ble_eq_true rfl) (by decide) (fun r5 hb => ?_)
        exact AW.iret F G dX8_house_72 ⟨rfl, _, rfl, hb⟩
      · refine AW.tabIn (tg := 73) 4 F dX8_house_12 hq (by decide) (by decide) rfl (by decide) ?_
        replace hb := hb.2.2.2.2.2 hq
        refine AW.aload_n (pn := 74) F dX8_house_73 rfl rfl rfl ?_
        refine AW.iload_n (pn := 75) F dX8_house_74 rfl rfl rfl ?_
        refine AW.cVP (pn := 78) (st := []) F dX8_house_75 rfl cl_X8_226 so_69 (p8_inYard_69 x1 hb) rfl rfl (Nat.le_of_ble_eq_true rfl) (by decide) (fun r6 hb => ?_)
        exact AW.iret F G dX8_house_78 ⟨rfl, _, rfl, hb⟩
  · refine AW.ldc (x := (-1000000001)) (pn := 10) F dX8_house_8 rfl tw_1009 (by decide) ?_
    exact AW.iret F G dX8_house_10 ⟨rfl, _, rfl, hb⟩

theorem p8_isSort_69 (x1 : Int) {h : HP} {Q : Int → Prop} (hb : p8_isSort x1 h Q) : MT yX8_isSort cX8_isSort 2 (some .boolean) 2 [vR 69, vI x1] h (QP h Q) := by
  refine MT.of (own := RX8) (by decide) rfl (Nat.le_of_ble_eq_true rfl) rfl (fun X F G => ?_)
  unfold p8_isSort at hb
  refine AW.iload_n (pn := 1) F dX8_isSort_0 rfl rfl rfl ?_
  refine AW.i2l (pn := 2) F dX8_isSort_1 rfl ?_
  refine AW.lconst (x := 0) (pn := 3) F dX8_isSort_2 rfl (by decide) ?_
  refine AW.aload_n (pn := 4) F dX8_isSort_3 rfl rfl rfl ?_
  refine AW.getI (pn := 7) F dX8_isSort_4 rfl gl_X8_96 so_69 rfl ?_
  refine AW.iconst (pn := 8) F dX8_isSort_7 rfl ?_
  refine AW.isub (pn := 9) F dX8_isSort_8 rfl ?_
  refine AW.i2l (pn := 10) F dX8_isSort_9 rfl ?_
  refine AW.cSP (pn := 13) (st := []) F dX8_isSort_10 rfl cl_X8_102 (p8_in_s (w32 x1) 0 (w32 ((h 69 0) - 1)) hb) rfl rfl (Nat.le_of_ble_eq_true rfl) (by decide) (fun r1 hb => ?_)
  exact AW.zret F G dX8_isSort_13 hb.1 ⟨rfl, _, rfl, hb.2⟩

theorem p8_worth_69 (x1 x2 : Int) {h : HP} {Q : Int → Prop} (hb : p8_worth x1 x2 h Q) : MT yX8_worth cX8_worth 3 (some .int) 3 [vR 69, vI x1, vI x2] h (QP h Q) := by
  refine MT.of (own := RX8) (by decide) rfl (Nat.le_of_ble_eq_true rfl) rfl (fun X F G => ?_)
  unfold p8_worth at hb
  refine AW.aload_n (pn := 1) F dX8_worth_0 rfl rfl rfl ?_
  refine AW.iload_n (pn := 2) F dX8_worth_1 rfl rfl rfl ?_
  refine AW.cVP (pn := 5) (st := []) F dX8_worth_2 rfl cl_X8_218 so_69 (p8_isHouse_69 x1 hb) rfl rfl (Nat.le_of_ble_eq_true rfl) (by decide) (fun r1 hb => ?_)
  refine AW.if_eq (pn := 8) (tg := 30) F dX8_worth_5 rfl (by decide) hb (fun hb => ?_) (fun hb => ?_)
  · refine AW.ldc (x := (-1000000001)) (pn := 32) F dX8_worth_30 rfl tw_1009 (by decide) ?_
    exact AW.iret F G dX8_worth_32 ⟨rfl, _, rfl, hb⟩
  · refine AW.aload_n (pn := 9) F dX8_worth_8 rfl rfl rfl ?_
    refine AW.iload_n (pn := 10) F dX8_worth_9 rfl rfl rfl ?_
    refine AW.cVP (pn := 13) (st := []) F dX8_worth_10 rfl cl_X8_229 so_69 (p8_isSort_69 x2 hb) rfl rfl (Nat.le_of_ble_eq_true rfl) (by decide) (fun r2 hb => ?_)
    refine AW.if_eq (pn := 16) (tg := 30) F dX8_worth_13 rfl (by decide) hb (fun hb => ?_) (fun hb => ?_)
    · refine AW.ldc (x := (-1000000001)) (pn := 32) F dX8_worth_30 rfl tw_1009 (by decide) ?_
      exact AW.iret F G dX8_worth_32 ⟨rfl, _, rfl, hb⟩
    · refine AW.aload_n (pn := 17) F dX8_worth_16 rfl rfl rfl ?_
      refine AW.getR (r := 71) (pn := 20) F dX8_worth_17 rfl gl_X8_13 so_69 rfl ?_
      refine AW.bipush (pn := 22) F dX8_worth_20 rfl (by decide) ?_
      refine AW.iload_n (pn := 23) F dX8_worth_22 rfl rfl rfl ?_
      refine AW.imul (pn := 24) F dX8_worth_23 rfl ?_
      refine AW.iload_n (pn := 25) F dX8_worth_24 rfl rfl rfl ?_
      refine AW.iadd (pn := 26) F dX8_worth_25 rfl ?_
      refine AW.iald (pn := 27) F dX8_worth_26 rfl so_71 hb (fun v3 hb => ?_)
      refine AW.goto (tg := 32) F dX8_worth_27 (by decide) ?_
      exact AW.iret F G dX8_worth_32 ⟨rfl, _, rfl, hb⟩

theorem p8_isPart_69 (x1 : Int) {h : HP} {Q : Int → Prop} (hb : p8_isPart x1 h Q) : MT yX8_isPart cX8_isPart 2 (some .boolean) 2 [vR 69, vI x1] h (QP h Q) := by
  refine MT.of (own := RX8) (by decide) rfl (Nat.le_of_ble_eq_true rfl) rfl (fun X F G => ?_)
  unfold p8_isPart at hb
  refine AW.iload_n (pn := 1) F dX8_isPart_0 rfl rfl rfl ?_
  refine AW.i2l (pn := 2) F dX8_isPart_1 rfl ?_
  refine AW.lconst (x := 0) (pn := 3) F dX8_isPart_2 rfl (by decide) ?_
  refine AW.aload_n (pn := 4) F dX8_isPart_3 rfl rfl rfl ?_
  refine AW.getI (pn := 7) F dX8_isPart_4 rfl gl_X8_106 so_69 rfl ?_
  refine AW.iconst (pn := 8) F dX8_isPart_7 rfl ?_
  refine AW.isub (pn := 9) F dX8_isPart_8 rfl ?_
  refine AW.i2l (pn := 10) F dX8_isPart_9 rfl ?_
  refine AW.cSP (pn := 13) (st := []) F dX8_isPart_10 rfl cl_X8_102 (p8_in_s (w32 x1) 0 (w32 ((h 69 7) - 1)) hb) rfl rfl (Nat.le_of_ble_eq_true rfl) (by decide) (fun r1 hb => ?_)
  exact AW.zret F G dX8_isPart_13 hb.1 ⟨rfl, _, rfl, hb.2⟩

theorem p8_part_69 (x1 x2 : Int) {h : HP} {Q : Int → Prop} (hb : p8_part x1 x2 h Q) : MT yX8_part cX8_part 3 (some .int) 3 [vR 69, vI x1, vI x2] h (QP h Q) := by
  refine MT.of (own := RX8) (by decide) rfl (Nat.le_of_ble_eq_true rfl) rfl (fun X F G => ?_)
  unfold p8_part at hb
  refine AW.aload_n (pn := 1) F dX8_part_0 rfl rfl rfl ?_
  refine AW.iload_n (pn := 2) F dX8_part_1 rfl rfl rfl ?_
  refine AW.cVP (pn := 5) (st := []) F dX8_part_2 rfl cl_X8_232 so_69 (p8_isPart_69 x1 hb) rfl rfl (Nat.le_of_ble_eq_true rfl) (by decide) (fun r1 hb => ?_)
  refine AW.if_ne (pn := 8) (tg := 11) F dX8_part_5 rfl (by decide) hb (fun hb => ?_) (fun hb => ?_)
  · refine AW.iload_n (pn := 12) F dX8_part_11 rfl rfl rfl ?_
    refine AW.if_ne (pn := 15) (tg := 24) F dX8_part_12 rfl (by decide) hb (fun hb => ?_) (fun hb => ?_)
    · refine AW.iload_n (pn := 25) F dX8_part_24 rfl rfl rfl ?_
      refine AW.iconst (pn := 26) F dX8_part_25 rfl ?_
      refine AW.icmp_ne (pn := 29) (tg := 38) F dX8_part_26 rfl (by decide) hb (fun hb => ?_) (fun hb => ?_)
      · refine AW.iload_n (pn := 39) F dX8_part_38 rfl rfl rfl ?_
        refine AW.iconst (pn := 40) F dX8_part_39 rfl ?_
        refine AW.icmp_ne (pn := 43) (tg := 65) F dX8_part_40 rfl (by decide) hb (fun hb => ?_) (fun hb => ?_)
        · refine AW.iload_n (pn := 66) F dX8_part_65 rfl rfl rfl ?_
          refine AW.iconst (pn := 67) F dX8_part_66 rfl ?_
          refine AW.icmp_ne (pn := 70) (tg := 79) F dX8_part_67 rfl (by decide) hb (fun hb => ?_) (fun hb => ?_)
          · refine AW.ldc (x := (-1000000002)) (pn := 81) F dX8_part_79 rfl tw_938 (by decide) ?_
            exact AW.iret F G dX8_part_81 ⟨rfl, _, rfl, hb⟩
          · refine AW.aload_n (pn := 71) F dX8_part_70 rfl rfl rfl ?_
            refine AW.getR (r := 77) (pn := 74) F dX8_part_71 rfl gl_X8_31 so_69 rfl ?_
            refine AW.iload_n (pn := 75) F dX8_part_74 rfl rfl rfl ?_
            refine AW.iald (pn := 76) F dX8_part_75 rfl so_77 hb (fun v2 hb => ?_)
            refine AW.goto (tg := 81) F dX8_part_76 (by decide) ?_
            exact AW.iret F G dX8_part_81 ⟨rfl, _, rfl, hb⟩
        · refine AW.aload_n (pn := 44) F dX8_part_43 rfl rfl rfl ?_
          refine AW.getR (r := 75) (pn := 47) F dX8_part_44 rfl gl_X8_25 so_69 rfl ?_
          refine AW.iload_n (pn := 48) F dX8_part_47 rfl rfl rfl ?_
          refine AW.iald (pn := 49) F dX8_part_48 rfl so_75 hb (fun v3 hb => ?_)
          refine AW.if_ge (pn := 52) (tg := 61) F dX8_part_49 rfl (by decide) hb (fun hb => ?_) (fun hb => ?_)
          · refine AW.iconst (pn := 62) F dX8_part_61 rfl ?_
            refine AW.goto (tg := 81) F dX8_part_62 (by decide) ?_
            exact AW.iret F G dX8_part_81 ⟨rfl, _, rfl, hb⟩
          · refine AW.aload_n (pn := 53) F dX8_part_52 rfl rfl rfl ?_
            refine AW.getR (r := 76) (pn := 56) F dX8_part_53 rfl gl_X8_28 so_69 rfl ?_
            refine AW.iload_n (pn := 57) F dX8_part_56 rfl rfl rfl ?_
            refine AW.iald (pn := 58) F dX8_part_57 rfl so_76 hb (fun v4 hb => ?_)
            refine AW.goto (tg := 81) F dX8_part_58 (by decide) ?_
            exact AW.iret F G dX8_part_81 ⟨rfl, _, rfl, hb⟩
      · refine AW.aload_n (pn := 30) F dX8_part_29 rfl rfl rfl ?_
        refine AW.getR (r := 75) (pn := 33) F dX8_part_30 rfl gl_X8_25 so_69 rfl ?_
        refine AW.iload_n (pn := 34) F dX8_part_33 rfl rfl rfl ?_
        refine AW.iald (pn := 35) F dX8_part_34 rfl so_75 hb (fun v5 hb => ?_)
        refine AW.goto (tg := 81) F dX8_part_35 (by decide) ?_
        exact AW.iret F G dX8_part_81 ⟨rfl, _, rfl, hb⟩
    · refine AW.aload_n (pn := 16) F dX8_part_15 rfl rfl rfl ?_
      refine AW.getR (r := 74) (pn := 19) F dX8_part_16 rfl gl_X8_22 so_69 rfl ?_
      refine AW.iload_n (pn := 20) F dX8_part_19 rfl rfl rfl ?_
      refine AW.iald (pn := 21) F dX8_part_20 rfl so_74 hb (fun v6 hb => ?_)
      refine AW.goto (tg := 81) F dX8_part_21 (by decide) ?_
      exact AW.iret F G dX8_part_81 ⟨rfl, _, rfl, hb⟩
  · refine AW.ldc (x := (-1000000001)) (pn := 10) F dX8_part_8 rfl tw_1009 (by decide) ?_
    exact AW.iret F G dX8_part_10 ⟨rfl, _, rfl, hb⟩

theorem p8_hand_69 (x1 x2 : Int) {h : HP} {Q : Int → Prop} (hb : p8_hand x1 x2 h Q) : MT yX8_hand cX8_hand 3 (some .int) 3 [vR 69, vI x1, vI x2] h (QP h Q) := by
  refine MT.of (own := RX8) (by decide) rfl (Nat.le_of_ble_eq_true rfl) rfl (fun X F G => ?_)
  unfold p8_hand at hb
  refine AW.aload_n (pn := 1) F dX8_hand_0 rfl rfl rfl ?_
  refine AW.iload_n (pn := 2) F dX8_hand_1 rfl rfl rfl ?_
  refine AW.cVP (pn := 5) (st := []) F dX8_hand_2 rfl cl_X8_232 so_69 (p8_isPart_69 x1 hb) rfl rfl (Nat.le_of_ble_eq_true rfl) (by decide) (fun r1 hb => ?_)
  refine AW.if_ne (pn := 8) (tg := 11) F dX8_hand_5 rfl (by decide) hb (fun hb => ?_) (fun hb => ?_)
  · refine AW.iload_n (pn := 12) F dX8_hand_11 rfl rfl rfl ?_
    refine AW.i2l (pn := 13) F dX8_hand_12 rfl ?_
    refine AW.lconst (x := 0) (pn := 14) F dX8_hand_13 rfl (by decide) ?_
    refine AW.aload_n (pn := 15) F dX8_hand_14 rfl rfl rfl ?_
    refine AW.getR (r := 77) (pn := 18) F dX8_hand_15 rfl gl_X8_31 so_69 rfl ?_
    refine AW.iload_n (pn := 19) F dX8_hand_18 rfl rfl rfl ?_
    refine AW.iald (pn := 20) F dX8_hand_19 rfl so_77 hb (fun v2 hb => ?_)
    refine AW.iconst (pn := 21) F dX8_hand_20 rfl ?_
    refine AW.isub (pn := 22) F dX8_hand_21 rfl ?_
    refine AW.i2l (pn := 23) F dX8_hand_22 rfl ?_
    refine AW.cSP (pn := 26) (st := []) F dX8_hand_23 rfl cl_X8_102 (p8_in_s (w32 x2) 0 (w32 (v2 - 1)) hb) rfl rfl (Nat.le_of_ble_eq_true rfl) (by decide) (fun r3 hb => ?_)
    refine AW.if_eq (pn := 29) (tg := 43) F dX8_hand_26 rfl (by decide) hb (fun hb => ?_) (fun hb => ?_)
    · refine AW.iconst (pn := 44) F dX8_hand_43 rfl ?_
      exact AW.iret F G dX8_hand_44 ⟨rfl, _, rfl, hb⟩
    · refine AW.aload_n (pn := 30) F dX8_hand_29 rfl rfl rfl ?_
      refine AW.getR (r := 78) (pn := 33) F dX8_hand_30 rfl gl_X8_34 so_69 rfl ?_
      refine AW.bipush (pn := 35) F dX8_hand_33 rfl (by decide) ?_
      refine AW.iload_n (pn := 36) F dX8_hand_35 rfl rfl rfl ?_
      refine AW.imul (pn := 37) F dX8_hand_36 rfl ?_
      refine AW.iload_n (pn := 38) F dX8_hand_37 rfl rfl rfl ?_
      refine AW.iadd (pn := 39) F dX8_hand_38 rfl ?_
      refine AW.iald (pn := 40) F dX8_hand_39 rfl so_78 hb (fun v4 hb => ?_)
      refine AW.goto (tg := 44) F dX8_hand_40 (by decide) ?_
      exact AW.iret F G dX8_hand_44 ⟨rfl, _, rfl, hb⟩
  · refine AW.ldc (x := (-1000000001)) (pn := 10) F dX8_hand_8 rfl tw_1009 (by decide) ?_
    exact AW.iret F G dX8_hand_10 ⟨rfl, _, rfl, hb⟩

theorem p8_tossNow_69 (x1 x2 : Int) {h : HP} {Q : HP → Prop} (hb : p8_tossNow x1 x2 h Q) : MT yX8_tossNow cX8_tossNow 3 none 1 [vR 69, vI x1, vI x2] h (QV Q) := by
  refine MT.of (own := RX8) (by decide) rfl (Nat.le_of_ble_eq_true rfl) rfl (fun X F G => ?_)
  unfold p8_tossNow at hb
  refine AW.aload_n (pn := 1) F dX8_tossNow_0 rfl rfl rfl ?_
  refine AW.getR (r := 75) (pn := 4) F dX8_tossNow_1 rfl gl_X8_25 so_69 rfl ?_
  refine AW.iload_n (pn := 5) F dX8_tossNow_4 rfl rfl rfl ?_
  refine AW.iconst (pn := 6) F dX8_tossNow_5 rfl ?_
  refine AW.iast (pn := 7) F dX8_tossNow_6 rfl so_75 hb (fun h1 hb => ?_)
  refine AW.aload_n (pn := 8) F dX8_tossNow_7 rfl rfl rfl ?_
  refine AW.getR (r := 76) (pn := 11) F dX8_tossNow_8 rfl gl_X8_28 so_69 rfl ?_
  refine AW.iload_n (pn := 12) F dX8_tossNow_11 rfl rfl rfl ?_
  refine AW.iload_n (pn := 13) F dX8_tossNow_12 rfl rfl rfl ?_
  refine AW.iast (pn := 14) F dX8_tossNow_13 rfl so_76 hb (fun h2 hb => ?_)
  exact AW.vret F G dX8_tossNow_14 ⟨rfl, hb⟩

theorem p8_toss_69 (x1 x2 : Int) {h : HP} {Q : Int → HP → Prop} (hb : p8_toss x1 x2 h Q) : MT yX8_toss cX8_toss 3 (some .int) 3 [vR 69, vI x1, vI x2] h (QI Q) := by
  refine MT.of (own := RX8) (by decide) rfl (Nat.le_of_ble_eq_true rfl) rfl (fun X F G => ?_)
  unfold p8_toss at hb
  refine AW.aload_n (pn := 1) F dX8_toss_0 rfl rfl rfl ?_
  refine AW.iload_n (pn := 2) F dX8_toss_1 rfl rfl rfl ?_
  refine AW.cVP (pn := 5) (st := []) F dX8_toss_2 rfl cl_X8_218 so_69 (p8_isHouse_69 x1 hb) rfl rfl (Nat.le_of_ble_eq_true rfl) (by decide) (fun r1 hb => ?_)
  refine AW.if_eq (pn := 8) (tg := 16) F dX8_toss_5 rfl (by decide) hb (fun hb => ?_) (fun hb => ?_)
  · refine AW.ldc (x := (-1000000001)) (pn := 18) F dX8_toss_16 rfl tw_1009 (by decide) ?_
    exact AW.iret F G dX8_toss_18 ⟨_, rfl, hb⟩
  · refine AW.aload_n (pn := 9) F dX8_toss_8 rfl rfl rfl ?_
    refine AW.iload_n (pn := 10) F dX8_toss_9 rfl rfl rfl ?_
    refine AW.cVP (pn := 13) (st := []) F dX8_toss_10 rfl cl_X8_232 so_69 (p8_isPart_69 x2 hb) rfl rfl (Nat.le_of_ble_eq_true rfl) (by decide) (fun r2 hb => ?_)
    refine AW.if_ne (pn := 16) (tg := 19) F dX8_toss_13 rfl (by decide) hb (fun hb => ?_) (fun hb => ?_)
    · refine AW.aload_n (pn := 20) F dX8_toss_19 rfl rfl rfl ?_
      refine AW.getR (r := 75) (pn := 23) F dX8_toss_20 rfl gl_X8_25 so_69 rfl ?_
      refine AW.iload_n (pn := 24) F dX8_toss_23 rfl rfl rfl ?_
      refine AW.iald (pn := 25) F dX8_toss_24 rfl so_75 hb (fun v3 hb => ?_)
      refine AW.iload_n (pn := 26) F dX8_toss_25 rfl rfl rfl ?_
      refine AW.icmp_eq (pn := 29) (tg := 32) F dX8_toss_26 rfl (by decide) hb (fun hb => ?_) (fun hb => ?_)
      · refine AW.aload_n (pn := 33) F dX8_toss_32 rfl rfl rfl ?_
        refine AW.iload_n (pn := 34) F dX8_toss_33 rfl rfl rfl ?_
        refine AW.iload_n (pn := 35) F dX8_toss_34 rfl rfl rfl ?_
        refine AW.cVV (pn := 38) (st := []) F dX8_toss_35 rfl cl_X8_236 so_69 (p8_tossNow_69 x1 x2 hb) rfl rfl (Nat.le_of_ble_eq_true rfl) (by decide) (fun h4 hb => ?_)
        refine AW.aload_n (pn := 39) F dX8_toss_38 rfl rfl rfl ?_
        refine AW.iload_n (pn := 40) F dX8_toss_39 rfl rfl rfl ?_
        refine AW.cVP (pn := 43) (st := []) F dX8_toss_40 rfl cl_X8_212 so_69 (p8_countOf_69 x1 hb) rfl rfl (Nat.le_of_ble_eq_true rfl) (by decide) (fun r5 hb => ?_)
        exact AW.iret F G dX8_toss_43 ⟨_, rfl, hb⟩
      · refine AW.ldc (x := (-1000000003)) (pn := 31) F dX8_toss_29 rfl tw_1053 (by decide) ?_
        exact AW.iret F G dX8_toss_31 ⟨_, rfl, hb⟩
    · refine AW.ldc (x := (-1000000001)) (pn := 18) F dX8_toss_16 rfl tw_1009 (by decide) ?_
      exact AW.iret F G dX8_toss_18 ⟨_, rfl, hb⟩

theorem p8_mayTake_69 (x1 x2 : Int) {h : HP} {Q : Int → Prop} (hb : p8_mayTake x1 x2 h Q) : MT yX8_mayTake cX8_mayTake 3 (some .boolean) 2 [vR 69, vI x1, vI x2] h (QP h Q) := by
  refine MT.of (own := RX8) (by decide) rfl (Nat.le_of_ble_eq_true rfl) rfl (fun X F G => ?_)
  unfold p8_mayTake at hb
  refine AW.aload_n (pn := 1) F dX8_mayTake_0 rfl rfl rfl ?_
  refine AW.getR (r := 75) (pn := 4) F dX8_mayTake_1 rfl gl_X8_25 so_69 rfl ?_
  refine AW.iload_n (pn := 5) F dX8_mayTake_4 rfl rfl rfl ?_
  refine AW.iald (pn := 6) F dX8_mayTake_5 rfl so_75 hb (fun v1 hb => ?_)
  refine AW.if_ge (pn := 9) (tg := 32) F dX8_mayTake_6 rfl (by decide) hb (fun hb => ?_) (fun hb => ?_)
  · refine AW.iconst (pn := 33) F dX8_mayTake_32 rfl ?_
    exact AW.zret F G dX8_mayTake_33 (by decide) ⟨rfl, _, rfl, hb⟩
  · refine AW.aload_n (pn := 10) F dX8_mayTake_9 rfl rfl rfl ?_
    refine AW.getR (r := 76) (pn := 13) F dX8_mayTake_10 rfl gl_X8_28 so_69 rfl ?_
    refine AW.iload_n (pn := 14) F dX8_mayTake_13 rfl rfl rfl ?_
    refine AW.iald (pn := 15) F dX8_mayTake_14 rfl so_76 hb (fun v2 hb => ?_)
    refine AW.iload_n (pn := 16) F dX8_mayTake_15 rfl rfl rfl ?_
    refine AW.icmp_eq (pn := 19) (tg := 32) F dX8_mayTake_16 rfl (by decide) hb (fun hb => ?_) (fun hb => ?_)
    · refine AW.iconst (pn := 33) F dX8_mayTake_32 rfl ?_
      exact AW.zret F G dX8_mayTake_33 (by decide) ⟨rfl, _, rfl, hb⟩
    · refine AW.aload_n (pn := 20) F dX8_mayTake_19 rfl rfl rfl ?_
      refine AW.iload_n (pn := 21) F dX8_mayTake_20 rfl rfl rfl ?_
      refine AW.cVP (pn := 24) (st := []) F dX8_mayTake_21 rfl cl_X8_212 so_69 (p8_countOf_69 x1 hb) rfl rfl (Nat.le_of_ble_eq_true rfl) (by decide) (fun r3 hb => ?_)
      refine AW.iconst (pn := 25) F dX8_mayTake_24 rfl ?_
      refine AW.icmp_ge (pn := 28) (tg := 32) F dX8_mayTake_25 rfl (by decide) hb (fun hb => ?_) (fun hb => ?_)
      · refine AW.iconst (pn := 33) F dX8_mayTake_32 rfl ?_
        exact AW.zret F G dX8_mayTake_33 (by decide) ⟨rfl, _, rfl, hb⟩
      · refine AW.iconst (pn := 29) F dX8_mayTake_28 rfl ?_
        refine AW.goto (tg := 33) F dX8_mayTake_29 (by decide) ?_
        exact AW.zret F G dX8_mayTake_33 (by decide) ⟨rfl, _, rfl, hb⟩

theorem p8_takeNow_69 (x1 x2 : Int) {h : HP} {Q : HP → Prop} (hb : p8_takeNow x1 x2 h Q) : MT yX8_takeNow cX8_takeNow 3 none 1 [vR 69, vI x1, vI x2] h (QV Q) := by
  refine MT.of (own := RX8) (by decide) rfl (Nat.le_of_ble_eq_true rfl) rfl (fun X F G => ?_)
  unfold p8_takeNow at hb
  refine AW.aload_n (pn := 1) F dX8_takeNow_0 rfl rfl rfl ?_
  refine AW.getR (r := 75) (pn := 4) F dX8_takeNow_1 rfl gl_X8_25 so_69 rfl ?_
  refine AW.iload_n (pn := 5) F dX8_takeNow_4 rfl rfl rfl ?_
  refine AW.iload_n (pn := 6) F dX8_takeNow_5 rfl rfl rfl ?_
  refine AW.iast (pn := 7) F dX8_takeNow_6 rfl so_75 hb (fun h1 hb => ?_)
  refine AW.aload_n (pn := 8) F dX8_takeNow_7 rfl rfl rfl ?_
  refine AW.getR (r := 76) (pn := 11) F dX8_takeNow_8 rfl gl_X8_28 so_69 rfl ?_
  refine AW.iload_n (pn := 12) F dX8_takeNow_11 rfl rfl rfl ?_
  refine AW.iconst (pn := 13) F dX8_takeNow_12 rfl ?_
  refine AW.iast (pn := 14) F dX8_takeNow_13 rfl so_76 hb (fun h2 hb => ?_)
  refine AW.aload_n (pn := 15) F dX8_takeNow_14 rfl rfl rfl ?_
  refine AW.getR (r := 77) (pn := 18) F dX8_takeNow_15 rfl gl_X8_31 so_69 rfl ?_
  refine AW.iload_n (pn := 19) F dX8_takeNow_18 rfl rfl rfl ?_
  refine AW.iald (pn := 20) F dX8_takeNow_19 rfl so_77 hb (fun v3 hb => ?_)
  refine AW.bipush (pn := 22) F dX8_takeNow_20 rfl (by decide) ?_
  refine AW.icmp_ge (pn := 25) (tg := 52) F dX8_takeNow_22 rfl (by decide) hb (fun hb => ?_) (fun hb => ?_)
  · exact AW.vret F G dX8_takeNow_52 ⟨rfl, hb⟩
  · refine AW.aload_n (pn := 26) F dX8_takeNow_25 rfl rfl rfl ?_
    refine AW.getR (r := 78) (pn := 29) F dX8_takeNow_26 rfl gl_X8_34 so_69 rfl ?_
    refine AW.bipush (pn := 31) F dX8_takeNow_29 rfl (by decide) ?_
    refine AW.iload_n (pn := 32) F dX8_takeNow_31 rfl rfl rfl ?_
    refine AW.imul (pn := 33) F dX8_takeNow_32 rfl ?_
    refine AW.aload_n (pn := 34) F dX8_takeNow_33 rfl rfl rfl ?_
    refine AW.getR (r := 77) (pn := 37) F dX8_takeNow_34 rfl gl_X8_31 so_69 rfl ?_
    refine AW.iload_n (pn := 38) F dX8_takeNow_37 rfl rfl rfl ?_
    refine AW.iald (pn := 39) F dX8_takeNow_38 rfl so_77 hb (fun v4 hb => ?_)
    refine AW.iadd (pn := 40) F dX8_takeNow_39 rfl ?_
    refine AW.iload_n (pn := 41) F dX8_takeNow_40 rfl rfl rfl ?_
    refine AW.iast (pn := 42) F dX8_takeNow_41 rfl so_78 hb (fun h5 hb => ?_)
    refine AW.aload_n (pn := 43) F dX8_takeNow_42 rfl rfl rfl ?_
    refine AW.getR (r := 77) (pn := 46) F dX8_takeNow_43 rfl gl_X8_31 so_69 rfl ?_
    refine AW.iload_n (pn := 47) F dX8_takeNow_46 rfl rfl rfl ?_
    refine AW.dup2IR (pn := 48) F dX8_takeNow_47 rfl ?_
    refine AW.iald (pn := 49) F dX8_takeNow_48 rfl so_77 hb (fun v6 hb => ?_)
    refine AW.iconst (pn := 50) F dX8_takeNow_49 rfl ?_
    refine AW.iadd (pn := 51) F dX8_takeNow_50 rfl ?_
    refine AW.iast (pn := 52) F dX8_takeNow_51 rfl so_77 hb (fun h7 hb => ?_)
    exact AW.vret F G dX8_takeNow_52 ⟨rfl, hb⟩

theorem p8_take_69 (x1 x2 : Int) {h : HP} {Q : Int → HP → Prop} (hb : p8_take x1 x2 h Q) : MT yX8_take cX8_take 3 (some .int) 3 [vR 69, vI x1, vI x2] h (QI Q) := by
  refine MT.of (own := RX8) (by decide) rfl (Nat.le_of_ble_eq_true rfl) rfl (fun X F G => ?_)
  unfold p8_take at hb
  refine AW.aload_n (pn := 1) F dX8_take_0 rfl rfl rfl ?_
  refine AW.iload_n (pn := 2) F dX8_take_1 rfl rfl rfl ?_
  refine AW.cVP (pn := 5) (st := []) F dX8_take_2 rfl cl_X8_218 so_69 (p8_isHouse_69 x1 hb) rfl rfl (Nat.le_of_ble_eq_true rfl) (by decide) (fun r1 hb => ?_)
  refine AW.if_eq (pn := 8) (tg := 16) F dX8_take_5 rfl (by decide) hb (fun hb => ?_) (fun hb => ?_)
  · refine AW.ldc (x := (-1000000001)) (pn := 18) F dX8_take_16 rfl tw_1009 (by decide) ?_
    exact AW.iret F G dX8_take_18 ⟨_, rfl, hb⟩
  · refine AW.aload_n (pn := 9) F dX8_take_8 rfl rfl rfl ?_
    refine AW.iload_n (pn := 10) F dX8_take_9 rfl rfl rfl ?_
    refine AW.cVP (pn := 13) (st := []) F dX8_take_10 rfl cl_X8_232 so_69 (p8_isPart_69 x2 hb) rfl rfl (Nat.le_of_ble_eq_true rfl) (by decide) (fun r2 hb => ?_)
    refine AW.if_ne (pn := 16) (tg := 19) F dX8_take_13 rfl (by decide) hb (fun hb => ?_) (fun hb => ?_)
    · refine AW.aload_n (pn := 20) F dX8_take_19 rfl rfl rfl ?_
      refine AW.iload_n (pn := 21) F dX8_take_20 rfl rfl rfl ?_
      refine AW.iload_n (pn := 22) F dX8_take_21 rfl rfl rfl ?_
      refine AW.cVP (pn := 25) (st := []) F dX8_take_22 rfl cl_X8_240 so_69 (p8_mayTake_69 x1 x2 hb) rfl rfl (Nat.le_of_ble_eq_true rfl) (by decide) (fun r3 hb => ?_)
      refine AW.if_ne (pn := 28) (tg := 31) F dX8_take_25 rfl (by decide) hb (fun hb => ?_) (fun hb => ?_)
      · refine AW.aload_n (pn := 32) F dX8_take_31 rfl rfl rfl ?_
        refine AW.iload_n (pn := 33) F dX8_take_32 rfl rfl rfl ?_
        refine AW.iload_n (pn := 34) F dX8_take_33 rfl rfl rfl ?_
        refine AW.cVV (pn := 37) (st := []) F dX8_take_34 rfl cl_X8_243 so_69 (p8_takeNow_69 x1 x2 hb) rfl rfl (Nat.le_of_ble_eq_true rfl) (by decide) (fun h4 hb => ?_)
        refine AW.aload_n (pn := 38) F dX8_take_37 rfl rfl rfl ?_
        refine AW.iload_n (pn := 39) F dX8_take_38 rfl rfl rfl ?_
        refine AW.cVP (pn := 42) (st := []) F dX8_take_39 rfl cl_X8_212 so_69 (p8_countOf_69 x1 hb) rfl rfl (Nat.le_of_ble_eq_true rfl) (by decide) (fun r5 hb => ?_)
        exact AW.iret F G dX8_take_42 ⟨_, rfl, hb⟩
      · refine AW.ldc (x := (-1000000003)) (pn := 30) F dX8_take_28 rfl tw_1053 (by decide) ?_
        exact AW.iret F G dX8_take_30 ⟨_, rfl, hb⟩
    · refine AW.ldc (x := (-1000000001)) (pn := 18) F dX8_take_16 rfl tw_1009 (by decide) ?_
      exact AW.iret F G dX8_take_18 ⟨_, rfl, hb⟩

theorem p8_ashoreNow_69 (x1 : Int) {h : HP} {Q : Int → HP → Prop} (hb : p8_ashoreNow x1 h Q) : MT yX8_ashoreNow cX8_ashoreNow 2 (some .int) 1 [vR 69, vI x1] h (QI Q) := by
  refine MT.of (own := RX8) (by decide) rfl (Nat.le_of_ble_eq_true rfl) rfl (fun X F G => ?_)
  unfold p8_ashoreNow at hb
  refine AW.aload_n (pn := 1) F dX8_ashoreNow_0 rfl rfl rfl ?_
  refine AW.getR (r := 74) (pn := 4) F dX8_ashoreNow_1 rfl gl_X8_22 so_69 rfl ?_
  refine AW.aload_n (pn := 5) F dX8_ashoreNow_4 rfl rfl rfl ?_
  refine AW.getI (pn := 8) F dX8_ashoreNow_5 rfl gl_X8_106 so_69 rfl ?_
  refine AW.iload_n (pn := 9) F dX8_ashoreNow_8 rfl rfl rfl ?_
  refine AW.iast (pn := 10) F dX8_ashoreNow_9 rfl so_74 hb (fun h1 hb => ?_)
  refine AW.aload_n (pn := 11) F dX8_ashoreNow_10 rfl rfl rfl ?_
  refine AW.getR (r := 75) (pn := 14) F dX8_ashoreNow_11 rfl gl_X8_25 so_69 rfl ?_
  refine AW.aload_n (pn := 15) F dX8_ashoreNow_14 rfl rfl rfl ?_
  refine AW.getI (pn := 18) F dX8_ashoreNow_15 rfl gl_X8_106 so_69 rfl ?_
  refine AW.iconst (pn := 19) F dX8_ashoreNow_18 rfl ?_
  refine AW.iast (pn := 20) F dX8_ashoreNow_19 rfl so_75 hb (fun h2 hb => ?_)
  refine AW.aload_n (pn := 21) F dX8_ashoreNow_20 rfl rfl rfl ?_
  refine AW.getR (r := 76) (pn := 24) F dX8_ashoreNow_21 rfl gl_X8_28 so_69 rfl ?_
  refine AW.aload_n (pn := 25) F dX8_ashoreNow_24 rfl rfl rfl ?_
  refine AW.getI (pn := 28) F dX8_ashoreNow_25 rfl gl_X8_106 so_69 rfl ?_
  refine AW.iconst (pn := 29) F dX8_ashoreNow_28 rfl ?_
  refine AW.iast (pn := 30) F dX8_ashoreNow_29 rfl so_76 hb (fun h3 hb => ?_)
  refine AW.aload_n (pn := 31) F dX8_ashoreNow_30 rfl rfl rfl ?_
  refine AW.getR (r := 77) (pn := 34) F dX8_ashoreNow_31 rfl gl_X8_31 so_69 rfl ?_
  refine AW.aload_n (pn := 35) F dX8_ashoreNow_34 rfl rfl rfl ?_
  refine AW.getI (pn := 38) F dX8_ashoreNow_35 rfl gl_X8_106 so_69 rfl ?_
  refine AW.iconst (pn := 39) F dX8_ashoreNow_38 rfl ?_
  refine AW.iast (pn := 40) F dX8_ashoreNow_39 rfl so_77 hb (fun h4 hb => ?_)
  refine AW.aload_n (pn := 41) F dX8_ashoreNow_40 rfl rfl rfl ?_
  refine AW.dupR (pn := 42) F dX8_ashoreNow_41 rfl ?_
  refine AW.getI (pn := 45) F dX8_ashoreNow_42 rfl gl_X8_106 so_69 rfl ?_
  refine AW.iconst (pn := 46) F dX8_ashoreNow_45 rfl ?_
  refine AW.iadd (pn := 47) F dX8_ashoreNow_46 rfl ?_
  refine AW.putI (pn := 50) F dX8_ashoreNow_47 rfl pl_X8_106 so_69 rfl hb (fun h5 hb => ?_)
  refine AW.aload_n (pn := 51) F dX8_ashoreNow_50 rfl rfl rfl ?_
  refine AW.getI (pn := 54) F dX8_ashoreNow_51 rfl gl_X8_106 so_69 rfl ?_
  refine AW.iconst (pn := 55) F dX8_ashoreNow_54 rfl ?_
  refine AW.isub (pn := 56) F dX8_ashoreNow_55 rfl ?_
  exact AW.iret F G dX8_ashoreNow_56 ⟨_, rfl, hb⟩

theorem p8_ashore_69 (x1 : Int) {h : HP} {Q : Int → HP → Prop} (hb : p8_ashore x1 h Q) : MT yX8_ashore cX8_ashore 2 (some .int) 3 [vR 69, vI x1] h (QI Q) := by
  refine MT.of (own := RX8) (by decide) rfl (Nat.le_of_ble_eq_true rfl) rfl (fun X F G => ?_)
  unfold p8_ashore at hb
  refine AW.aload_n (pn := 1) F dX8_ashore_0 rfl rfl rfl ?_
  refine AW.iload_n (pn := 2) F dX8_ashore_1 rfl rfl rfl ?_
  refine AW.cVP (pn := 5) (st := []) F dX8_ashore_2 rfl cl_X8_229 so_69 (p8_isSort_69 x1 hb) rfl rfl (Nat.le_of_ble_eq_true rfl) (by decide) (fun r1 hb => ?_)
  refine AW.if_ne (pn := 8) (tg := 11) F dX8_ashore_5 rfl (by decide) hb (fun hb => ?_) (fun hb => ?_)
  · refine AW.aload_n (pn := 12) F dX8_ashore_11 rfl rfl rfl ?_
    refine AW.getI (pn := 15) F dX8_ashore_12 rfl gl_X8_106 so_69 rfl ?_
    refine AW.bipush (pn := 17) F dX8_ashore_15 rfl (by decide) ?_
    refine AW.icmp_ne (pn := 20) (tg := 25) F dX8_ashore_17 rfl (by decide) hb (fun hb => ?_) (fun hb => ?_)
    · refine AW.aload_n (pn := 26) F dX8_ashore_25 rfl rfl rfl ?_
      refine AW.iload_n (pn := 27) F dX8_ashore_26 rfl rfl rfl ?_
      refine AW.cVI (pn := 30) (st := []) F dX8_ashore_27 rfl cl_X8_246 so_69 (p8_ashoreNow_69 x1 hb) rfl rfl (Nat.le_of_ble_eq_true rfl) (by decide) (fun r2 h3 hb => ?_)
      exact AW.iret F G dX8_ashore_30 ⟨_, rfl, hb⟩
    · refine AW.ldc (x := (-1000000004)) (pn := 22) F dX8_ashore_20 rfl tw_939 (by decide) ?_
      refine AW.goto (tg := 30) F dX8_ashore_22 (by decide) ?_
      exact AW.iret F G dX8_ashore_30 ⟨_, rfl, hb⟩
  · refine AW.ldc (x := (-1000000001)) (pn := 10) F dX8_ashore_8 rfl tw_1009 (by decide) ?_
    exact AW.iret F G dX8_ashore_10 ⟨_, rfl, hb⟩

theorem p8_gainOf_69 (x1 x2 : Int) {h : HP} {Q : Int → Prop} (hb : p8_gainOf x1 x2 h Q) : MT yX8_gainOf cX8_gainOf 3 (some .int) 2 [vR 69, vI x1, vI x2] h (QP h Q) := by
  refine MT.of (own := RX8) (by decide) rfl (Nat.le_of_ble_eq_true rfl) rfl (fun X F G => ?_)
  unfold p8_gainOf at hb
  refine AW.aload_n (pn := 1) F dX8_gainOf_0 rfl rfl rfl ?_
  refine AW.iload_n (pn := 2) F dX8_gainOf_1 rfl rfl rfl ?_
  refine AW.cVP (pn := 5) (st := []) F dX8_gainOf_2 rfl cl_X8_205 so_69 (p8_sortsOf_69 x1 hb) rfl rfl (Nat.le_of_ble_eq_true rfl) (by decide) (fun r1 hb => ?_)
  refine AW.aload_n (pn := 6) F dX8_gainOf_5 rfl rfl rfl ?_
  refine AW.getR (r := 74) (pn := 9) F dX8_gainOf_6 rfl gl_X8_22 so_69 rfl ?_
  refine AW.iload_n (pn := 10) F dX8_gainOf_9 rfl rfl rfl ?_
  refine AW.iald (pn := 11) F dX8_gainOf_10 rfl so_74 hb (fun v2 hb => ?_)
  refine AW.cSP (pn := 14) (st := []) F dX8_gainOf_11 rfl cl_X8_201 (p8_has_s r1 v2 hb) rfl rfl (Nat.le_of_ble_eq_true rfl) (by decide) (fun r3 hb => ?_)
  refine AW.if_eq (pn := 17) (tg := 21) F dX8_gainOf_14 rfl (by decide) hb (fun hb => ?_) (fun hb => ?_)
  · refine AW.aload_n (pn := 22) F dX8_gainOf_21 rfl rfl rfl ?_
    refine AW.getR (r := 71) (pn := 25) F dX8_gainOf_22 rfl gl_X8_13 so_69 rfl ?_
    refine AW.bipush (pn := 27) F dX8_gainOf_25 rfl (by decide) ?_
    refine AW.iload_n (pn := 28) F dX8_gainOf_27 rfl rfl rfl ?_
    refine AW.imul (pn := 29) F dX8_gainOf_28 rfl ?_
    refine AW.aload_n (pn := 30) F dX8_gainOf_29 rfl rfl rfl ?_
    refine AW.getR (r := 74) (pn := 33) F dX8_gainOf_30 rfl gl_X8_22 so_69 rfl ?_
    refine AW.iload_n (pn := 34) F dX8_gainOf_33 rfl rfl rfl ?_
    refine AW.iald (pn := 35) F dX8_gainOf_34 rfl so_74 hb (fun v4 hb => ?_)
    refine AW.iadd (pn := 36) F dX8_gainOf_35 rfl ?_
    refine AW.iald (pn := 37) F dX8_gainOf_36 rfl so_71 hb (fun v5 hb => ?_)
    exact AW.iret F G dX8_gainOf_37 ⟨rfl, _, rfl, hb⟩
  · refine AW.iconst (pn := 18) F dX8_gainOf_17 rfl ?_
    refine AW.goto (tg := 37) F dX8_gainOf_18 (by decide) ?_
    exact AW.iret F G dX8_gainOf_37 ⟨rfl, _, rfl, hb⟩

theorem p8_size_s (x0 : Int) {h : HP} {Q : Int → Prop} (hb : p8_size x0 h Q) : MT yX8_size cX8_size 1 (some .int) 1 [vI x0] h (QP h Q) := by
  refine MT.of (own := RX8) (by decide) rfl (Nat.le_of_ble_eq_true rfl) rfl (fun X F G => ?_)
  unfold p8_size at hb
  refine AW.iload_n (pn := 1) F dX8_size_0 rfl rfl rfl ?_
  refine AW.if_ge (pn := 4) (tg := 9) F dX8_size_1 rfl (by decide) hb (fun hb => ?_) (fun hb => ?_)
  · refine AW.iload_n (pn := 10) F dX8_size_9 rfl rfl rfl ?_
    exact AW.iret F G dX8_size_10 ⟨rfl, _, rfl, hb⟩
  · refine AW.iload_n (pn := 5) F dX8_size_4 rfl rfl rfl ?_
    refine AW.ineg (pn := 6) F dX8_size_5 rfl ?_
    refine AW.goto (tg := 10) F dX8_size_6 (by decide) ?_
    exact AW.iret F G dX8_size_10 ⟨rfl, _, rfl, hb⟩

theorem p8_first_L54_ok_69 {X : Cx} {x1 x2 : Int} {h : HP} {Q : Int → Prop} (F : Fx X cX8_first RX8 6 3) (G : Rx X (some .int) (QP h Q))  : ∀ (n : Nat) (x3 : Int) (x4 : Int), p8_first_L54 x1 x2 h Q n x3 x4 → AW X 6 54 [some (vR 69), some (vI x1), some (vI x2), some (vI x3), some (vI x4), none] [] h := by
  intro n
  induction n with
  | zero => intro _ _ hb; exact hb.elim
  | succ n ih =>
    intro x3 x4 hb
    unfold p8_first_L54 at hb
    refine AW.iload (pn := 56) F dX8_first_54 rfl rfl ?_
    refine AW.aload_n (pn := 57) F dX8_first_56 rfl rfl rfl ?_
    refine AW.getI (pn := 60) F dX8_first_57 rfl gl_X8_99 so_69 rfl ?_
    refine AW.icmp_ge (pn := 63) (tg := 160) F dX8_first_60 rfl (by decide) hb (fun hb => ?_) (fun hb => ?_)
    · refine AW.iload_n (pn := 161) F dX8_first_160 rfl rfl rfl ?_
      exact AW.iret F G dX8_first_161 ⟨rfl, _, rfl, hb⟩
    · refine AW.aload_n (pn := 64) F dX8_first_63 rfl rfl rfl ?_
      refine AW.iload (pn := 66) F dX8_first_64 rfl rfl ?_
      refine AW.iload_n (pn := 67) F dX8_first_66 rfl rfl rfl ?_
      refine AW.cVP (pn := 70) (st := []) F dX8_first_67 rfl cl_X8_240 so_69 (p8_mayTake_69 x4 x1 hb) rfl rfl (Nat.le_of_ble_eq_true rfl) (by decide) (fun r9 hb => ?_)
      refine AW.if_eq (pn := 73) (tg := 154) F dX8_first_70 rfl (by decide) hb (fun hb => ?_) (fun hb => ?_)
      · refine AW.iinc (ls2 := [some (vR 69), some (vI x1), some (vI x2), some (vI x3), some (vI (x4 + 1)), none]) (pn := 157) F dX8_first_154 rfl rfl (by decide) rfl rfl ?_
        refine AW.goto (tg := 54) F dX8_first_157 (by decide) ?_
        exact ih _ _ hb
      · refine AW.aload_n (pn := 74) F dX8_first_73 rfl rfl rfl ?_
        refine AW.iload (pn := 76) F dX8_first_74 rfl rfl ?_
        refine AW.iload_n (pn := 77) F dX8_first_76 rfl rfl rfl ?_
        refine AW.cVP (pn := 80) (st := []) F dX8_first_77 rfl cl_X8_249 so_69 (p8_gainOf_69 x4 x1 hb) rfl rfl (Nat.le_of_ble_eq_true rfl) (by decide) (fun r10 hb => ?_)
        refine AW.if_le (pn := 83) (tg := 154) F dX8_first_80 rfl (by decide) hb (fun hb => ?_) (fun hb => ?_)
        · refine AW.iinc (ls2 := [some (vR 69), some (vI x1), some (vI x2), some (vI x3), some (vI (x4 + 1)), none]) (pn := 157) F dX8_first_154 rfl rfl (by decide) rfl rfl ?_
          refine AW.goto (tg := 54) F dX8_first_157 (by decide) ?_
          exact ih _ _ hb
        · refine AW.iload_n (pn := 84) F dX8_first_83 rfl rfl rfl ?_
          refine jn_1 hb (fun (y16 : Int) => AW X 6 115 [some (vR 69), some (vI x1), some (vI x2), some (vI x3), some (vI x4), none] [vI y16] h) (fun y16 hb => ?_) (fun K17 hK17 hb => ?_)
          · refine AW.istore (ls2 := [some (vR 69), some (vI x1), some (vI x2), some (vI x3), some (vI x4), some (vI y16)]) (pn := 117) F dX8_first_115 rfl (by decide) rfl rfl ?_
            refine AW.iload_n (pn := 118) F dX8_first_117 rfl rfl rfl ?_
            refine AW.if_lt (pn := 121) (tg := 147) F dX8_first_118 rfl (by decide) hb (fun hb => ?_) (fun hb => ?_)
            · refine AW.iload (pn := 149) F dX8_first_147 rfl rfl ?_
              refine AW.goto (tg := 153) F dX8_first_149 (by decide) ?_
              refine AW.istore_n (ls2 := [some (vR 69), some (vI x1), some (vI x2), some (vI x4), some (vI x4), some (vI y16)]) (pn := 154) F dX8_first_153 rfl rfl (by decide) rfl rfl ?_
              refine AW.iinc (ls2 := [some (vR 69), some (vI x1), some (vI x2), some (vI x4), some (vI (x4 + 1)), some (vI y16)]) (pn := 157) F dX8_first_154 rfl rfl (by decide) rfl rfl ?_
              refine AW.goto (tg := 54) F dX8_first_157 (by decide) ?_
              refine AW.drop [true, true, true, true, true, false] rfl ?_
              exact ih _ _ hb
            · refine AW.iload (pn := 123) F dX8_first_121 rfl rfl ?_
              refine AW.if_lt (pn := 126) (tg := 147) F dX8_first_123 rfl (by decide) hb (fun hb => ?_) (fun hb => ?_)
              · refine AW.iload (pn := 149) F dX8_first_147 rfl rfl ?_
                refine AW.goto (tg := 153) F dX8_first_149 (by decide) ?_
                refine AW.istore_n (ls2 := [some (vR 69), some (vI x1), some (vI x2), some (vI x4), some (vI x4), some (vI y16)]) (pn := 154) F dX8_first_153 rfl rfl (by decide) rfl rfl ?_
                refine AW.iinc (ls2 := [some (vR 69), some (vI x1), some (vI x2), some (vI x4), some (vI (x4 + 1)), some (vI y16)]) (pn := 157) F dX8_first_154 rfl rfl (by decide) rfl rfl ?_
                refine AW.goto (tg := 54) F dX8_first_157 (by decide) ?_
                refine AW.drop [true, true, true, true, true, false] rfl ?_
                exact ih _ _ hb
              · refine AW.iload (pn := 128) F dX8_first_126 rfl rfl ?_
                refine AW.if_ne (pn := 131) (tg := 152) F dX8_first_128 rfl (by decide) hb (fun hb => ?_) (fun hb => ?_)
                · refine AW.iload_n (pn := 153) F dX8_first_152 rfl rfl rfl ?_
                  refine AW.istore_n (ls2 := [some (vR 69), some (vI x1), some (vI x2), some (vI x3), some (vI x4), some (vI y16)]) (pn := 154) F dX8_first_153 rfl rfl (by decide) rfl rfl ?_
                  refine AW.iinc (ls2 := [some (vR 69), some (vI x1), some (vI x2), some (vI x3), some (vI (x4 + 1)), some (vI y16)]) (pn := 157) F dX8_first_154 rfl rfl (by decide) rfl rfl ?_
                  refine AW.goto (tg := 54) F dX8_first_157 (by decide) ?_
                  refine AW.drop [true, true, true, true, true, false] rfl ?_
                  exact ih _ _ hb
                · refine AW.aload_n (pn := 132) F dX8_first_131 rfl rfl rfl ?_
                  refine AW.iload (pn := 134) F dX8_first_132 rfl rfl ?_
                  refine AW.iload_n (pn := 135) F dX8_first_134 rfl rfl rfl ?_
                  refine AW.cVP (pn := 138) (st := []) F dX8_first_135 rfl cl_X8_249 so_69 (p8_gainOf_69 x4 x1 hb) rfl rfl (Nat.le_of_ble_eq_true rfl) (by decide) (fun r18 hb => ?_)
                  refine AW.aload_n (pn := 139) F dX8_first_138 rfl rfl rfl ?_
                  refine AW.iload_n (pn := 140) F dX8_first_139 rfl rfl rfl ?_
                  refine AW.iload_n (pn := 141) F dX8_first_140 rfl rfl rfl ?_
                  refine AW.cVP (pn := 144) (st := [vI r18]) F dX8_first_141 rfl cl_X8_249 so_69 (p8_gainOf_69 x3 x1 hb) rfl rfl (Nat.le_of_ble_eq_true rfl) (by decide) (fun r19 hb => ?_)
                  refine AW.icmp_le (pn := 147) (tg := 152) F dX8_first_144 rfl (by decide) hb (fun hb => ?_) (fun hb => ?_)
                  · refine AW.iload_n (pn := 153) F dX8_first_152 rfl rfl rfl ?_
                    refine AW.istore_n (ls2 := [some (vR 69), some (vI x1), some (vI x2), some (vI x3), some (vI x4), some (vI y16)]) (pn := 154) F dX8_first_153 rfl rfl (by decide) rfl rfl ?_
                    refine AW.iinc (ls2 := [some (vR 69), some (vI x1), some (vI x2), some (vI x3), some (vI (x4 + 1)), some (vI y16)]) (pn := 157) F dX8_first_154 rfl rfl (by decide) rfl rfl ?_
                    refine AW.goto (tg := 54) F dX8_first_157 (by decide) ?_
                    refine AW.drop [true, true, true, true, true, false] rfl ?_
                    exact ih _ _ hb
                  · refine AW.iload (pn := 149) F dX8_first_147 rfl rfl ?_
                    refine AW.goto (tg := 153) F dX8_first_149 (by decide) ?_
                    refine AW.istore_n (ls2 := [some (vR 69), some (vI x1), some (vI x2), some (vI x4), some (vI x4), some (vI y16)]) (pn := 154) F dX8_first_153 rfl rfl (by decide) rfl rfl ?_
                    refine AW.iinc (ls2 := [some (vR 69), some (vI x1), some (vI x2), some (vI x4), some (vI (x4 + 1)), some (vI y16)]) (pn := 157) F dX8_first_154 rfl rfl (by decide) rfl rfl ?_
                    refine AW.goto (tg := 54) F dX8_first_157 (by decide) ?_
                    refine AW.drop [true, true, true, true, true, false] rfl ?_
                    exact ih _ _ hb
          refine AW.if_ge (pn := 87) (tg := 91) F dX8_first_84 rfl (by decide) hb (fun hb => ?_) (fun hb => ?_)
          · refine AW.aload_n (pn := 92) F dX8_first_91 rfl rfl rfl ?_
            refine AW.getR (r := 70) (pn := 95) F dX8_first_92 rfl gl_X8_7 so_69 rfl ?_
            refine AW.iload (pn := 97) F dX8_first_95 rfl rfl ?_
            refine AW.iald (pn := 98) F dX8_first_97 rfl so_70 hb (fun v20 hb => ?_)
            refine AW.iload_n (pn := 99) F dX8_first_98 rfl rfl rfl ?_
            refine AW.isub (pn := 100) F dX8_first_99 rfl ?_
            refine AW.cSP (pn := 103) (st := []) F dX8_first_100 rfl cl_X8_252 (p8_size_s (v20 - x2) hb) rfl rfl (Nat.le_of_ble_eq_true rfl) (by decide) (fun r21 hb => ?_)
            refine AW.aload_n (pn := 104) F dX8_first_103 rfl rfl rfl ?_
            refine AW.getR (r := 70) (pn := 107) F dX8_first_104 rfl gl_X8_7 so_69 rfl ?_
            refine AW.iload_n (pn := 108) F dX8_first_107 rfl rfl rfl ?_
            refine AW.iald (pn := 109) F dX8_first_108 rfl so_70 hb (fun v22 hb => ?_)
            refine AW.iload_n (pn := 110) F dX8_first_109 rfl rfl rfl ?_
            refine AW.isub (pn := 111) F dX8_first_110 rfl ?_
            refine AW.cSP (pn := 114) (st := [vI r21]) F dX8_first_111 rfl cl_X8_252 (p8_size_s (v22 - x2) hb) rfl rfl (Nat.le_of_ble_eq_true rfl) (by decide) (fun r23 hb => ?_)
            refine AW.isub (pn := 115) F dX8_first_114 rfl ?_
            exact hK17 _ hb
          · refine AW.iconst (pn := 88) F dX8_first_87 rfl ?_
            refine AW.goto (tg := 115) F dX8_first_88 (by decide) ?_
            exact hK17 _ hb

theorem p8_first_69 (x1 : Int) {h : HP} {Q : Int → Prop} (hb : p8_first x1 h Q) : MT yX8_first cX8_first 6 (some .int) 3 [vR 69, vI x1] h (QP h Q) := by
  refine MT.of (own := RX8) (by decide) rfl (Nat.le_of_ble_eq_true rfl) rfl (fun X F G => ?_)
  unfold p8_first at hb
  refine AW.aload_n (pn := 1) F dX8_first_0 rfl rfl rfl ?_
  refine AW.iload_n (pn := 2) F dX8_first_1 rfl rfl rfl ?_
  refine AW.cVP (pn := 5) (st := []) F dX8_first_2 rfl cl_X8_232 so_69 (p8_isPart_69 x1 hb) rfl rfl (Nat.le_of_ble_eq_true rfl) (by decide) (fun r1 hb => ?_)
  refine AW.if_ne (pn := 8) (tg := 11) F dX8_first_5 rfl (by decide) hb (fun hb => ?_) (fun hb => ?_)
  · refine AW.aload_n (pn := 12) F dX8_first_11 rfl rfl rfl ?_
    refine AW.getR (r := 75) (pn := 15) F dX8_first_12 rfl gl_X8_25 so_69 rfl ?_
    refine AW.iload_n (pn := 16) F dX8_first_15 rfl rfl rfl ?_
    refine AW.iald (pn := 17) F dX8_first_16 rfl so_75 hb (fun v2 hb => ?_)
    refine AW.if_lt (pn := 20) (tg := 23) F dX8_first_17 rfl (by decide) hb (fun hb => ?_) (fun hb => ?_)
    · refine AW.aload_n (pn := 24) F dX8_first_23 rfl rfl rfl ?_
      refine AW.getR (r := 76) (pn := 27) F dX8_first_24 rfl gl_X8_28 so_69 rfl ?_
      refine AW.iload_n (pn := 28) F dX8_first_27 rfl rfl rfl ?_
      refine AW.iald (pn := 29) F dX8_first_28 rfl so_76 hb (fun v3 hb => ?_)
      refine jn_1 hb (fun (y7 : Int) => AW X 6 48 [some (vR 69), some (vI x1), none, none, none, none] [vI y7] h) (fun y7 hb => ?_) (fun K8 hK8 hb => ?_)
      · refine AW.istore_n (ls2 := [some (vR 69), some (vI x1), some (vI y7), none, none, none]) (pn := 49) F dX8_first_48 rfl rfl (by decide) rfl rfl ?_
        refine AW.iconst (pn := 50) F dX8_first_49 rfl ?_
        refine AW.istore_n (ls2 := [some (vR 69), some (vI x1), some (vI y7), some (vI (-1)), none, none]) (pn := 51) F dX8_first_50 rfl rfl (by decide) rfl rfl ?_
        refine AW.iconst (pn := 52) F dX8_first_51 rfl ?_
        refine AW.istore (ls2 := [some (vR 69), some (vI x1), some (vI y7), some (vI (-1)), some (vI 0), none]) (pn := 54) F dX8_first_52 rfl (by decide) rfl rfl ?_
        refine p8_first_L54_ok_69 F G  _ _ _ hb
      refine AW.if_ge (pn := 32) (tg := 37) F dX8_first_29 rfl (by decide) hb (fun hb => ?_) (fun hb => ?_)
      · refine AW.aload_n (pn := 38) F dX8_first_37 rfl rfl rfl ?_
        refine AW.getR (r := 70) (pn := 41) F dX8_first_38 rfl gl_X8_7 so_69 rfl ?_
        refine AW.aload_n (pn := 42) F dX8_first_41 rfl rfl rfl ?_
        refine AW.getR (r := 76) (pn := 45) F dX8_first_42 rfl gl_X8_28 so_69 rfl ?_
        refine AW.iload_n (pn := 46) F dX8_first_45 rfl rfl rfl ?_
        refine AW.iald (pn := 47) F dX8_first_46 rfl so_76 hb (fun v24 hb => ?_)
        refine AW.iald (pn := 48) F dX8_first_47 rfl so_70 hb (fun v25 hb => ?_)
        exact hK8 _ hb
      · refine AW.bipush (pn := 34) F dX8_first_32 rfl (by decide) ?_
        refine AW.goto (tg := 48) F dX8_first_34 (by decide) ?_
        exact hK8 _ hb
    · refine AW.ldc (x := (-1000000003)) (pn := 22) F dX8_first_20 rfl tw_1053 (by decide) ?_
      exact AW.iret F G dX8_first_22 ⟨rfl, _, rfl, hb⟩
  · refine AW.ldc (x := (-1000000001)) (pn := 10) F dX8_first_8 rfl tw_1009 (by decide) ?_
    exact AW.iret F G dX8_first_10 ⟨rfl, _, rfl, hb⟩

theorem p8_bestTake_L7_ok_69 {X : Cx} {x1 : Int} {h : HP} {Q : Int → Prop} (F : Fx X cX8_bestTake RX8 6 3) (G : Rx X (some .int) (QP h Q))  : ∀ (n : Nat) (x2 : Int) (x3 : Int) (x4 : Int), p8_bestTake_L7 x1 h Q n x2 x3 x4 → AW X 6 7 [some (vR 69), some (vI x1), some (vI x2), some (vI x3), some (vI x4), none] [] h := by
  intro n
  induction n with
  | zero => intro _ _ _ hb; exact hb.elim
  | succ n ih =>
    intro x2 x3 x4 hb
    unfold p8_bestTake_L7 at hb
    refine AW.iload (pn := 9) F dX8_bestTake_7 rfl rfl ?_
    refine AW.aload_n (pn := 10) F dX8_bestTake_9 rfl rfl rfl ?_
    refine AW.getI (pn := 13) F dX8_bestTake_10 rfl gl_X8_106 so_69 rfl ?_
    refine AW.icmp_ge (pn := 16) (tg := 71) F dX8_bestTake_13 rfl (by decide) hb (fun hb => ?_) (fun hb => ?_)
    · refine AW.iload_n (pn := 72) F dX8_bestTake_71 rfl rfl rfl ?_
      exact AW.iret F G dX8_bestTake_72 ⟨rfl, _, rfl, hb⟩
    · refine AW.aload_n (pn := 17) F dX8_bestTake_16 rfl rfl rfl ?_
      refine AW.iload_n (pn := 18) F dX8_bestTake_17 rfl rfl rfl ?_
      refine AW.iload (pn := 20) F dX8_bestTake_18 rfl rfl ?_
      refine AW.cVP (pn := 23) (st := []) F dX8_bestTake_20 rfl cl_X8_240 so_69 (p8_mayTake_69 x1 x4 hb) rfl rfl (Nat.le_of_ble_eq_true rfl) (by decide) (fun r1 hb => ?_)
      refine jn_1 hb (fun (y4 : Int) => AW X 6 37 [some (vR 69), some (vI x1), some (vI x2), some (vI x3), some (vI x4), none] [vI y4] h) (fun y4 hb => ?_) (fun K5 hK5 hb => ?_)
      · refine AW.istore (ls2 := [some (vR 69), some (vI x1), some (vI x2), some (vI x3), some (vI x4), some (vI y4)]) (pn := 39) F dX8_bestTake_37 rfl (by decide) rfl rfl ?_
        refine AW.iload (pn := 41) F dX8_bestTake_39 rfl rfl ?_
        refine AW.iload_n (pn := 42) F dX8_bestTake_41 rfl rfl rfl ?_
        refine jn_1 hb (fun (y7 : Int) => AW X 6 51 [some (vR 69), some (vI x1), none, some (vI x3), some (vI x4), some (vI y4)] [vI y7] h) (fun y7 hb => ?_) (fun K8 hK8 hb => ?_)
        · refine AW.istore_n (ls2 := [some (vR 69), some (vI x1), some (vI y7), some (vI x3), some (vI x4), some (vI y4)]) (pn := 52) F dX8_bestTake_51 rfl rfl (by decide) rfl rfl ?_
          refine AW.iload (pn := 54) F dX8_bestTake_52 rfl rfl ?_
          refine AW.iload_n (pn := 55) F dX8_bestTake_54 rfl rfl rfl ?_
          refine AW.icmp_le (pn := 58) (tg := 63) F dX8_bestTake_55 rfl (by decide) hb (fun hb => ?_) (fun hb => ?_)
          · refine AW.iload_n (pn := 64) F dX8_bestTake_63 rfl rfl rfl ?_
            refine AW.istore_n (ls2 := [some (vR 69), some (vI x1), some (vI y7), some (vI x3), some (vI x4), some (vI y4)]) (pn := 65) F dX8_bestTake_64 rfl rfl (by decide) rfl rfl ?_
            refine AW.iinc (ls2 := [some (vR 69), some (vI x1), some (vI y7), some (vI x3), some (vI (x4 + 1)), some (vI y4)]) (pn := 68) F dX8_bestTake_65 rfl rfl (by decide) rfl rfl ?_
            refine AW.goto (tg := 7) F dX8_bestTake_68 (by decide) ?_
            refine AW.drop [true, true, true, true, true, false] rfl ?_
            exact ih _ _ _ hb
          · refine AW.iload (pn := 60) F dX8_bestTake_58 rfl rfl ?_
            refine AW.goto (tg := 64) F dX8_bestTake_60 (by decide) ?_
            refine AW.istore_n (ls2 := [some (vR 69), some (vI x1), some (vI y7), some (vI y4), some (vI x4), some (vI y4)]) (pn := 65) F dX8_bestTake_64 rfl rfl (by decide) rfl rfl ?_
            refine AW.iinc (ls2 := [some (vR 69), some (vI x1), some (vI y7), some (vI y4), some (vI (x4 + 1)), some (vI y4)]) (pn := 68) F dX8_bestTake_65 rfl rfl (by decide) rfl rfl ?_
            refine AW.goto (tg := 7) F dX8_bestTake_68 (by decide) ?_
            refine AW.drop [true, true, true, true, true, false] rfl ?_
            exact ih _ _ _ hb
        refine AW.icmp_le (pn := 45) (tg := 50) F dX8_bestTake_42 rfl (by decide) hb (fun hb => ?_) (fun hb => ?_)
        · refine AW.iload_n (pn := 51) F dX8_bestTake_50 rfl rfl rfl ?_
          refine AW.drop [true, true, false, true, true, true] rfl ?_
          exact hK8 _ hb
        · refine AW.iload (pn := 47) F dX8_bestTake_45 rfl rfl ?_
          refine AW.goto (tg := 51) F dX8_bestTake_47 (by decide) ?_
          refine AW.drop [true, true, false, true, true, true] rfl ?_
          exact hK8 _ hb
      refine AW.if_eq (pn := 26) (tg := 36) F dX8_bestTake_23 rfl (by decide) hb (fun hb => ?_) (fun hb => ?_)
      · refine AW.iconst (pn := 37) F dX8_bestTake_36 rfl ?_
        exact hK5 _ hb
      · refine AW.aload_n (pn := 27) F dX8_bestTake_26 rfl rfl rfl ?_
        refine AW.iload_n (pn := 28) F dX8_bestTake_27 rfl rfl rfl ?_
        refine AW.iload (pn := 30) F dX8_bestTake_28 rfl rfl ?_
        refine AW.cVP (pn := 33) (st := []) F dX8_bestTake_30 rfl cl_X8_249 so_69 (p8_gainOf_69 x1 x4 hb) rfl rfl (Nat.le_of_ble_eq_true rfl) (by decide) (fun r9 hb => ?_)
        refine AW.goto (tg := 37) F dX8_bestTake_33 (by decide) ?_
        exact hK5 _ hb

theorem p8_bestTake_69 (x1 : Int) {h : HP} {Q : Int → Prop} (hb : p8_bestTake x1 h Q) : MT yX8_bestTake cX8_bestTake 6 (some .int) 3 [vR 69, vI x1] h (QP h Q) := by
  refine MT.of (own := RX8) (by decide) rfl (Nat.le_of_ble_eq_true rfl) rfl (fun X F G => ?_)
  unfold p8_bestTake at hb
  refine AW.iconst (pn := 1) F dX8_bestTake_0 rfl ?_
  refine AW.istore_n (ls2 := [some (vR 69), some (vI x1), some (vI (-1)), none, none, none]) (pn := 2) F dX8_bestTake_1 rfl rfl (by decide) rfl rfl ?_
  refine AW.iconst (pn := 3) F dX8_bestTake_2 rfl ?_
  refine AW.istore_n (ls2 := [some (vR 69), some (vI x1), some (vI (-1)), some (vI 0), none, none]) (pn := 4) F dX8_bestTake_3 rfl rfl (by decide) rfl rfl ?_
  refine AW.iconst (pn := 5) F dX8_bestTake_4 rfl ?_
  refine AW.istore (ls2 := [some (vR 69), some (vI x1), some (vI (-1)), some (vI 0), some (vI 0), none]) (pn := 7) F dX8_bestTake_5 rfl (by decide) rfl rfl ?_
  refine p8_bestTake_L7_ok_69 F G  _ _ _ _ hb

theorem p8_isIdle_L5_ok_69 {X : Cx} {x1 x2 : Int} {h : HP} {E55 : Int → Prop} {Q : Int → Prop} (F : Fx X cX8_isIdle RX8 5 1) (G : Rx X (some .boolean) (QP h Q)) (hE55 : ∀ (x3 : Int), E55 x3 → AW X 5 55 [some (vR 69), some (vI x1), some (vI x2), some (vI x3), none] [] h) : ∀ (n : Nat) (x3 : Int) (x4 : Int), p8_isIdle_L5 x1 x2 h E55 n x3 x4 → AW X 5 5 [some (vR 69), some (vI x1), some (vI x2), some (vI x3), some (vI x4)] [] h := by
  intro n
  induction n with
  | zero => intro _ _ hb; exact hb.elim
  | succ n ih =>
    intro x3 x4 hb
    unfold p8_isIdle_L5 at hb
    refine AW.iload (pn := 7) F dX8_isIdle_5 rfl rfl ?_
    refine AW.aload_n (pn := 8) F dX8_isIdle_7 rfl rfl rfl ?_
    refine AW.getI (pn := 11) F dX8_isIdle_8 rfl gl_X8_106 so_69 rfl ?_
    refine AW.icmp_ge (pn := 14) (tg := 55) F dX8_isIdle_11 rfl (by decide) hb (fun hb => ?_) (fun hb => ?_)
    · refine AW.drop [true, true, true, true, false] rfl ?_
      exact hE55 _ hb
    · refine AW.iload_n (pn := 15) F dX8_isIdle_14 rfl rfl rfl ?_
      refine AW.aload_n (pn := 16) F dX8_isIdle_15 rfl rfl rfl ?_
      refine AW.getR (r := 75) (pn := 19) F dX8_isIdle_16 rfl gl_X8_25 so_69 rfl ?_
      refine AW.iload (pn := 21) F dX8_isIdle_19 rfl rfl ?_
      refine AW.iald (pn := 22) F dX8_isIdle_21 rfl so_75 hb (fun v1 hb => ?_)
      refine AW.iload_n (pn := 23) F dX8_isIdle_22 rfl rfl rfl ?_
      refine AW.icmp_ne (pn := 26) (tg := 46) F dX8_isIdle_23 rfl (by decide) hb (fun hb => ?_) (fun hb => ?_)
      · refine AW.iconst (pn := 47) F dX8_isIdle_46 rfl ?_
        refine AW.iadd (pn := 48) F dX8_isIdle_47 rfl ?_
        refine AW.istore_n (ls2 := [some (vR 69), some (vI x1), some (vI x2), some (vI (x3 + 0)), some (vI x4)]) (pn := 49) F dX8_isIdle_48 rfl rfl (by decide) rfl rfl ?_
        refine AW.iinc (ls2 := [some (vR 69), some (vI x1), some (vI x2), some (vI (x3 + 0)), some (vI (x4 + 1))]) (pn := 52) F dX8_isIdle_49 rfl rfl (by decide) rfl rfl ?_
        refine AW.goto (tg := 5) F dX8_isIdle_52 (by decide) ?_
        exact ih _ _ hb
      · refine AW.aload_n (pn := 27) F dX8_isIdle_26 rfl rfl rfl ?_
        refine AW.getR (r := 74) (pn := 30) F dX8_isIdle_27 rfl gl_X8_22 so_69 rfl ?_
        refine AW.iload (pn := 32) F dX8_isIdle_30 rfl rfl ?_
        refine AW.iald (pn := 33) F dX8_isIdle_32 rfl so_74 hb (fun v2 hb => ?_)
        refine AW.aload_n (pn := 34) F dX8_isIdle_33 rfl rfl rfl ?_
        refine AW.getR (r := 74) (pn := 37) F dX8_isIdle_34 rfl gl_X8_22 so_69 rfl ?_
        refine AW.iload_n (pn := 38) F dX8_isIdle_37 rfl rfl rfl ?_
        refine AW.iald (pn := 39) F dX8_isIdle_38 rfl so_74 hb (fun v3 hb => ?_)
        refine AW.icmp_ne (pn := 42) (tg := 46) F dX8_isIdle_39 rfl (by decide) hb (fun hb => ?_) (fun hb => ?_)
        · refine AW.iconst (pn := 47) F dX8_isIdle_46 rfl ?_
          refine AW.iadd (pn := 48) F dX8_isIdle_47 rfl ?_
          refine AW.istore_n (ls2 := [some (vR 69), some (vI x1), some (vI x2), some (vI (x3 + 0)), some (vI x4)]) (pn := 49) F dX8_isIdle_48 rfl rfl (by decide) rfl rfl ?_
          refine AW.iinc (ls2 := [some (vR 69), some (vI x1), some (vI x2), some (vI (x3 + 0)), some (vI (x4 + 1))]) (pn := 52) F dX8_isIdle_49 rfl rfl (by decide) rfl rfl ?_
          refine AW.goto (tg := 5) F dX8_isIdle_52 (by decide) ?_
          exact ih _ _ hb
        · refine AW.iconst (pn := 43) F dX8_isIdle_42 rfl ?_
          refine AW.goto (tg := 47) F dX8_isIdle_43 (by decide) ?_
          refine AW.iadd (pn := 48) F dX8_isIdle_47 rfl ?_
          refine AW.istore_n (ls2 := [some (vR 69), some (vI x1), some (vI x2), some (vI (x3 + 1)), some (vI x4)]) (pn := 49) F dX8_isIdle_48 rfl rfl (by decide) rfl rfl ?_
          refine AW.iinc (ls2 := [some (vR 69), some (vI x1), some (vI x2), some (vI (x3 + 1)), some (vI (x4 + 1))]) (pn := 52) F dX8_isIdle_49 rfl rfl (by decide) rfl rfl ?_
          refine AW.goto (tg := 5) F dX8_isIdle_52 (by decide) ?_
          exact ih _ _ hb

theorem p8_isIdle_69 (x1 x2 : Int) {h : HP} {Q : Int → Prop} (hb : p8_isIdle x1 x2 h Q) : MT yX8_isIdle cX8_isIdle 5 (some .boolean) 1 [vR 69, vI x1, vI x2] h (QP h Q) := by
  refine MT.of (own := RX8) (by decide) rfl (Nat.le_of_ble_eq_true rfl) rfl (fun X F G => ?_)
  unfold p8_isIdle at hb
  refine AW.iconst (pn := 1) F dX8_isIdle_0 rfl ?_
  refine AW.istore_n (ls2 := [some (vR 69), some (vI x1), some (vI x2), some (vI 0), none]) (pn := 2) F dX8_isIdle_1 rfl rfl (by decide) rfl rfl ?_
  refine AW.iconst (pn := 3) F dX8_isIdle_2 rfl ?_
  refine AW.istore (ls2 := [some (vR 69), some (vI x1), some (vI x2), some (vI 0), some (vI 0)]) (pn := 5) F dX8_isIdle_3 rfl (by decide) rfl rfl ?_
  refine p8_isIdle_L5_ok_69 F G (fun y4 hb => ?_) _ _ _ hb
  refine AW.iload_n (pn := 56) F dX8_isIdle_55 rfl rfl rfl ?_
  refine AW.iconst (pn := 57) F dX8_isIdle_56 rfl ?_
  refine AW.icmp_gt (pn := 60) (tg := 79) F dX8_isIdle_57 rfl (by decide) hb (fun hb => ?_) (fun hb => ?_)
  · refine AW.iconst (pn := 80) F dX8_isIdle_79 rfl ?_
    refine AW.goto (tg := 84) F dX8_isIdle_80 (by decide) ?_
    exact AW.zret F G dX8_isIdle_84 (by decide) ⟨rfl, _, rfl, hb⟩
  · refine AW.aload_n (pn := 61) F dX8_isIdle_60 rfl rfl rfl ?_
    refine AW.getR (r := 71) (pn := 64) F dX8_isIdle_61 rfl gl_X8_13 so_69 rfl ?_
    refine AW.bipush (pn := 66) F dX8_isIdle_64 rfl (by decide) ?_
    refine AW.iload_n (pn := 67) F dX8_isIdle_66 rfl rfl rfl ?_
    refine AW.imul (pn := 68) F dX8_isIdle_67 rfl ?_
    refine AW.aload_n (pn := 69) F dX8_isIdle_68 rfl rfl rfl ?_
    refine AW.getR (r := 74) (pn := 72) F dX8_isIdle_69 rfl gl_X8_22 so_69 rfl ?_
    refine AW.iload_n (pn := 73) F dX8_isIdle_72 rfl rfl rfl ?_
    refine AW.iald (pn := 74) F dX8_isIdle_73 rfl so_74 hb (fun v5 hb => ?_)
    refine AW.iadd (pn := 75) F dX8_isIdle_74 rfl ?_
    refine AW.iald (pn := 76) F dX8_isIdle_75 rfl so_71 hb (fun v6 hb => ?_)
    refine AW.if_ne (pn := 79) (tg := 83) F dX8_isIdle_76 rfl (by decide) hb (fun hb => ?_) (fun hb => ?_)
    · refine AW.iconst (pn := 84) F dX8_isIdle_83 rfl ?_
      exact AW.zret F G dX8_isIdle_84 (by decide) ⟨rfl, _, rfl, hb⟩
    · refine AW.iconst (pn := 80) F dX8_isIdle_79 rfl ?_
      refine AW.goto (tg := 84) F dX8_isIdle_80 (by decide) ?_
      exact AW.zret F G dX8_isIdle_84 (by decide) ⟨rfl, _, rfl, hb⟩

theorem p8_weekNow_L34_ok_69 {X : Cx} {x1 x2 : Int} {E77 : HP → Prop} {Q : Int → HP → Prop} (F : Fx X cX8_weekNow RX8 5 4) (G : Rx X (some .int) (QI Q)) (hE77 : ∀ (h : HP), E77 h → AW X 5 77 [some (vR 69), some (vI x1), some (vI x2), none, none] [] h) : ∀ (n : Nat) (h : HP) (x4 : Int), p8_weekNow_L34 x1 x2 E77 n h x4 → AW X 5 34 [some (vR 69), some (vI x1), some (vI x2), none, some (vI x4)] [] h := by
  intro n
  induction n with
  | zero => intro _ _ hb; exact hb.elim
  | succ n ih =>
    intro h x4 hb
    unfold p8_weekNow_L34 at hb
    refine AW.iload (pn := 36) F dX8_weekNow_34 rfl rfl ?_
    refine AW.aload_n (pn := 37) F dX8_weekNow_36 rfl rfl rfl ?_
    refine AW.getI (pn := 40) F dX8_weekNow_37 rfl gl_X8_106 so_69 rfl ?_
    refine AW.icmp_ge (pn := 43) (tg := 77) F dX8_weekNow_40 rfl (by decide) hb (fun hb => ?_) (fun hb => ?_)
    · refine AW.drop [true, true, true, true, false] rfl ?_
      exact hE77 _ hb
    · refine AW.aload_n (pn := 44) F dX8_weekNow_43 rfl rfl rfl ?_
      refine AW.getR (r := 75) (pn := 47) F dX8_weekNow_44 rfl gl_X8_25 so_69 rfl ?_
      refine AW.iload (pn := 49) F dX8_weekNow_47 rfl rfl ?_
      refine AW.iald (pn := 50) F dX8_weekNow_49 rfl so_75 hb (fun v8 hb => ?_)
      refine AW.iload_n (pn := 51) F dX8_weekNow_50 rfl rfl rfl ?_
      refine AW.icmp_ne (pn := 54) (tg := 71) F dX8_weekNow_51 rfl (by decide) hb (fun hb => ?_) (fun hb => ?_)
      · refine AW.iinc (ls2 := [some (vR 69), some (vI x1), some (vI x2), none, some (vI (x4 + 1))]) (pn := 74) F dX8_weekNow_71 rfl rfl (by decide) rfl rfl ?_
        refine AW.goto (tg := 34) F dX8_weekNow_74 (by decide) ?_
        exact ih _ _ hb
      · refine AW.aload_n (pn := 55) F dX8_weekNow_54 rfl rfl rfl ?_
        refine AW.iload_n (pn := 56) F dX8_weekNow_55 rfl rfl rfl ?_
        refine AW.iload (pn := 58) F dX8_weekNow_56 rfl rfl ?_
        refine AW.cVP (pn := 61) (st := []) F dX8_weekNow_58 rfl cl_X8_258 so_69 (p8_isIdle_69 x2 x4 hb) rfl rfl (Nat.le_of_ble_eq_true rfl) (by decide) (fun r9 hb => ?_)
        refine AW.if_eq (pn := 64) (tg := 71) F dX8_weekNow_61 rfl (by decide) hb (fun hb => ?_) (fun hb => ?_)
        · refine AW.iinc (ls2 := [some (vR 69), some (vI x1), some (vI x2), none, some (vI (x4 + 1))]) (pn := 74) F dX8_weekNow_71 rfl rfl (by decide) rfl rfl ?_
          refine AW.goto (tg := 34) F dX8_weekNow_74 (by decide) ?_
          exact ih _ _ hb
        · refine AW.aload_n (pn := 65) F dX8_weekNow_64 rfl rfl rfl ?_
          refine AW.iload_n (pn := 66) F dX8_weekNow_65 rfl rfl rfl ?_
          refine AW.iload (pn := 68) F dX8_weekNow_66 rfl rfl ?_
          refine AW.cVV (pn := 71) (st := []) F dX8_weekNow_68 rfl cl_X8_236 so_69 (p8_tossNow_69 x2 x4 hb) rfl rfl (Nat.le_of_ble_eq_true rfl) (by decide) (fun h10 hb => ?_)
          refine AW.iinc (ls2 := [some (vR 69), some (vI x1), some (vI x2), none, some (vI (x4 + 1))]) (pn := 74) F dX8_weekNow_71 rfl rfl (by decide) rfl rfl ?_
          refine AW.goto (tg := 34) F dX8_weekNow_74 (by decide) ?_
          exact ih _ _ hb

theorem p8_weekNow_L4_ok_69 {X : Cx} {E83 : HP → Int → Prop} {Q : Int → HP → Prop} (F : Fx X cX8_weekNow RX8 5 4) (G : Rx X (some .int) (QI Q)) (hE83 : ∀ (h : HP) (x1 : Int), E83 h x1 → AW X 5 83 [some (vR 69), some (vI x1), none, none, none] [] h) : ∀ (n : Nat) (h : HP) (x1 : Int) (x2 : Int), p8_weekNow_L4 E83 n h x1 x2 → AW X 5 4 [some (vR 69), some (vI x1), some (vI x2), none, none] [] h := by
  intro n
  induction n with
  | zero => intro _ _ _ hb; exact hb.elim
  | succ n ih =>
    intro h x1 x2 hb
    unfold p8_weekNow_L4 at hb
    refine AW.iload_n (pn := 5) F dX8_weekNow_4 rfl rfl rfl ?_
    refine AW.aload_n (pn := 6) F dX8_weekNow_5 rfl rfl rfl ?_
    refine AW.getI (pn := 9) F dX8_weekNow_6 rfl gl_X8_99 so_69 rfl ?_
    refine AW.icmp_ge (pn := 12) (tg := 83) F dX8_weekNow_9 rfl (by decide) hb (fun hb => ?_) (fun hb => ?_)
    · refine AW.drop [true, true, false, true, true] rfl ?_
      exact hE83 _ _ hb
    · refine AW.aload_n (pn := 13) F dX8_weekNow_12 rfl rfl rfl ?_
      refine AW.iload_n (pn := 14) F dX8_weekNow_13 rfl rfl rfl ?_
      refine AW.cVP (pn := 17) (st := []) F dX8_weekNow_14 rfl cl_X8_255 so_69 (p8_bestTake_69 x2 hb) rfl rfl (Nat.le_of_ble_eq_true rfl) (by decide) (fun r1 hb => ?_)
      refine AW.istore_n (ls2 := [some (vR 69), some (vI x1), some (vI x2), some (vI r1), none]) (pn := 18) F dX8_weekNow_17 rfl rfl (by decide) rfl rfl ?_
      refine AW.iload_n (pn := 19) F dX8_weekNow_18 rfl rfl rfl ?_
      refine jn_2 hb (fun (y5 : Int) (h6 : HP) => AW X 5 31 [some (vR 69), some (vI y5), some (vI x2), none, none] [] h6) (fun y5 h6 hb => ?_) (fun K7 hK7 hb => ?_)
      · refine AW.iconst (pn := 32) F dX8_weekNow_31 rfl ?_
        refine AW.istore (ls2 := [some (vR 69), some (vI y5), some (vI x2), none, some (vI 0)]) (pn := 34) F dX8_weekNow_32 rfl (by decide) rfl rfl ?_
        refine p8_weekNow_L34_ok_69 F G (fun h11 hb => ?_) _ _ _ hb
        refine AW.iinc (ls2 := [some (vR 69), some (vI y5), some (vI (x2 + 1)), none, none]) (pn := 80) F dX8_weekNow_77 rfl rfl (by decide) rfl rfl ?_
        refine AW.goto (tg := 4) F dX8_weekNow_80 (by decide) ?_
        exact ih _ _ _ hb
      refine AW.if_lt (pn := 22) (tg := 31) F dX8_weekNow_19 rfl (by decide) hb (fun hb => ?_) (fun hb => ?_)
      · refine AW.drop [true, true, true, false, true] rfl ?_
        exact hK7 _ _ hb
      · refine AW.aload_n (pn := 23) F dX8_weekNow_22 rfl rfl rfl ?_
        refine AW.iload_n (pn := 24) F dX8_weekNow_23 rfl rfl rfl ?_
        refine AW.iload_n (pn := 25) F dX8_weekNow_24 rfl rfl rfl ?_
        refine AW.cVV (pn := 28) (st := []) F dX8_weekNow_25 rfl cl_X8_243 so_69 (p8_takeNow_69 x2 r1 hb) rfl rfl (Nat.le_of_ble_eq_true rfl) (by decide) (fun h12 hb => ?_)
        refine AW.iinc (ls2 := [some (vR 69), some (vI (x1 + 1)), some (vI x2), some (vI r1), none]) (pn := 31) F dX8_weekNow_28 rfl rfl (by decide) rfl rfl ?_
        refine AW.drop [true, true, true, false, true] rfl ?_
        exact hK7 _ _ hb

theorem p8_weekNow_69  {h : HP} {Q : Int → HP → Prop} (hb : p8_weekNow  h Q) : MT yX8_weekNow cX8_weekNow 5 (some .int) 4 [vR 69] h (QI Q) := by
  refine MT.of (own := RX8) (by decide) rfl (Nat.le_of_ble_eq_true rfl) rfl (fun X F G => ?_)
  unfold p8_weekNow at hb
  refine AW.iconst (pn := 1) F dX8_weekNow_0 rfl ?_
  refine AW.istore_n (ls2 := [some (vR 69), some (vI 0), none, none, none]) (pn := 2) F dX8_weekNow_1 rfl rfl (by decide) rfl rfl ?_
  refine AW.iconst (pn := 3) F dX8_weekNow_2 rfl ?_
  refine AW.istore_n (ls2 := [some (vR 69), some (vI 0), some (vI 0), none, none]) (pn := 4) F dX8_weekNow_3 rfl rfl (by decide) rfl rfl ?_
  refine p8_weekNow_L4_ok_69 F G (fun h13 y14 hb => ?_) _ _ _ _ hb
  refine AW.aload_n (pn := 84) F dX8_weekNow_83 rfl rfl rfl ?_
  refine AW.dupR (pn := 85) F dX8_weekNow_84 rfl ?_
  refine AW.getI (pn := 88) F dX8_weekNow_85 rfl gl_X8_109 so_69 rfl ?_
  refine AW.iconst (pn := 89) F dX8_weekNow_88 rfl ?_
  refine AW.iadd (pn := 90) F dX8_weekNow_89 rfl ?_
  refine AW.putI (pn := 93) F dX8_weekNow_90 rfl pl_X8_109 so_69 rfl hb (fun h15 hb => ?_)
  refine AW.iload_n (pn := 94) F dX8_weekNow_93 rfl rfl rfl ?_
  exact AW.iret F G dX8_weekNow_94 ⟨_, rfl, hb⟩

theorem p8_week_L19_ok_69 {X : Cx} {x1 : Int} {Q : Int → HP → Prop} (F : Fx X cX8_week RX8 5 5) (G : Rx X (some .int) (QI Q))  : ∀ (n : Nat) (h : HP) (x2 : Int) (x3 : Int), p8_week_L19 x1 Q n h x2 x3 → AW X 5 19 [some (vR 69), some (vI x1), some (vI x2), some (vI x3), none] [] h := by
  intro n
  induction n with
  | zero => intro _ _ _ hb; exact hb.elim
  | succ n ih =>
    intro h x2 x3 hb
    unfold p8_week_L19 at hb
    refine AW.iload_n (pn := 20) F dX8_week_19 rfl rfl rfl ?_
    refine AW.iload_n (pn := 21) F dX8_week_20 rfl rfl rfl ?_
    refine AW.icmp_ge (pn := 24) (tg := 41) F dX8_week_21 rfl (by decide) hb (fun hb => ?_) (fun hb => ?_)
    · refine AW.iload_n (pn := 42) F dX8_week_41 rfl rfl rfl ?_
      exact AW.iret F G dX8_week_42 ⟨_, rfl, hb⟩
    · refine AW.aload_n (pn := 25) F dX8_week_24 rfl rfl rfl ?_
      refine AW.cVI (pn := 28) (st := []) F dX8_week_25 rfl cl_X8_263 so_69 (p8_weekNow_69  hb) rfl rfl (Nat.le_of_ble_eq_true rfl) (by decide) (fun r2 h3 hb => ?_)
      refine AW.istore (ls2 := [some (vR 69), some (vI x1), some (vI x2), some (vI x3), some (vI r2)]) (pn := 30) F dX8_week_28 rfl (by decide) rfl rfl ?_
      refine AW.iload_n (pn := 31) F dX8_week_30 rfl rfl rfl ?_
      refine AW.iload (pn := 33) F dX8_week_31 rfl rfl ?_
      refine AW.iadd (pn := 34) F dX8_week_33 rfl ?_
      refine AW.istore_n (ls2 := [some (vR 69), some (vI x1), some (vI (x2 + r2)), some (vI x3), some (vI r2)]) (pn := 35) F dX8_week_34 rfl rfl (by decide) rfl rfl ?_
      refine AW.iinc (ls2 := [some (vR 69), some (vI x1), some (vI (x2 + r2)), some (vI (x3 + 1)), some (vI r2)]) (pn := 38) F dX8_week_35 rfl rfl (by decide) rfl rfl ?_
      refine AW.goto (tg := 19) F dX8_week_38 (by decide) ?_
      refine AW.drop [true, true, true, true, false] rfl ?_
      exact ih _ _ _ hb

theorem p8_week_69 (x1 : Int) {h : HP} {Q : Int → HP → Prop} (hb : p8_week x1 h Q) : MT yX8_week cX8_week 5 (some .int) 5 [vR 69, vI x1] h (QI Q) := by
  refine MT.of (own := RX8) (by decide) rfl (Nat.le_of_ble_eq_true rfl) rfl (fun X F G => ?_)
  unfold p8_week at hb
  refine AW.iload_n (pn := 1) F dX8_week_0 rfl rfl rfl ?_
  refine AW.i2l (pn := 2) F dX8_week_1 rfl ?_
  refine AW.lconst (x := 1) (pn := 3) F dX8_week_2 rfl (by decide) ?_
  refine AW.ldc2 (x := 99) (pn := 6) F dX8_week_3 rfl tw_1093 (by decide) ?_
  refine AW.cSP (pn := 9) (st := []) F dX8_week_6 rfl cl_X8_102 (p8_in_s (w32 x1) 1 99 hb) rfl rfl (Nat.le_of_ble_eq_true rfl) (by decide) (fun r1 hb => ?_)
  refine AW.if_ne (pn := 12) (tg := 15) F dX8_week_9 rfl (by decide) hb (fun hb => ?_) (fun hb => ?_)
  · refine AW.iconst (pn := 16) F dX8_week_15 rfl ?_
    refine AW.istore_n (ls2 := [some (vR 69), some (vI x1), some (vI 0), none, none]) (pn := 17) F dX8_week_16 rfl rfl (by decide) rfl rfl ?_
    refine AW.iconst (pn := 18) F dX8_week_17 rfl ?_
    refine AW.istore_n (ls2 := [some (vR 69), some (vI x1), some (vI 0), some (vI 0), none]) (pn := 19) F dX8_week_18 rfl rfl (by decide) rfl rfl ?_
    refine p8_week_L19_ok_69 F G  _ _ _ _ hb
  · refine AW.ldc (x := (-1000000002)) (pn := 14) F dX8_week_12 rfl tw_938 (by decide) ?_
    exact AW.iret F G dX8_week_14 ⟨_, rfl, hb⟩

theorem p8_draw_69 (x1 : Int) {h : HP} {Q : Int → HP → Prop} (hb : p8_draw x1 h Q) : MT yX8_draw cX8_draw 2 (some .int) 1 [vR 69, vI x1] h (QI Q) := by
  refine MT.of (own := RX8) (by decide) rfl (Nat.le_of_ble_eq_true rfl) rfl (fun X F G => ?_)
  unfold p8_draw at hb
  refine AW.aload_n (pn := 1) F dX8_draw_0 rfl rfl rfl ?_
  refine AW.aload_n (pn := 2) F dX8_draw_1 rfl rfl rfl ?_
  refine AW.getI (pn := 5) F dX8_draw_2 rfl gl_X8_266 so_69 rfl ?_
  refine AW.i2l (pn := 6) F dX8_draw_5 rfl ?_
  refine AW.ldc2 (x := 1103515245) (pn := 9) F dX8_draw_6 rfl tw_1114 (by decide) ?_
  refine AW.lmul (pn := 10) F dX8_draw_9 rfl ?_
  refine AW.ldc2 (x := 12345) (pn := 13) F dX8_draw_10 rfl tw_1115 (by decide) ?_
  refine AW.ladd (pn := 14) F dX8_draw_13 rfl ?_
  refine AW.ldc2 (x := 2147483648) (pn := 17) F dX8_draw_14 rfl tw_1116 (by decide) ?_
  refine AW.lrem (pn := 18) F dX8_draw_17 rfl (by decide) ?_
  refine AW.l2i (pn := 19) F dX8_draw_18 rfl ?_
  refine AW.putI (pn := 22) F dX8_draw_19 rfl pl_X8_266 so_69 rfl hb (fun h1 hb => ?_)
  refine AW.aload_n (pn := 23) F dX8_draw_22 rfl rfl rfl ?_
  refine AW.getI (pn := 26) F dX8_draw_23 rfl gl_X8_266 so_69 rfl ?_
  refine AW.ldcw (x := 65536) (pn := 29) F dX8_draw_26 rfl tw_1117 (by decide) ?_
  refine AW.idiv (pn := 30) F dX8_draw_29 rfl (by decide) ?_
  refine AW.iload_n (pn := 31) F dX8_draw_30 rfl rfl rfl ?_
  refine AW.irem (pn := 32) F dX8_draw_31 rfl hb.1 ?_
  replace hb := hb.2
  exact AW.iret F G dX8_draw_32 ⟨_, rfl, hb⟩

theorem p8_drift_L29_ok_69 {X : Cx} {x1 : Int} {Q : Int → HP → Prop} (F : Fx X cX8_drift RX8 5 5) (G : Rx X (some .int) (QI Q))  : ∀ (n : Nat) (h : HP) (x2 : Int) (x3 : Int), p8_drift_L29 x1 Q n h x2 x3 → AW X 5 29 [some (vR 69), some (vI x1), some (vI x2), some (vI x3), none] [] h := by
  intro n
  induction n with
  | zero => intro _ _ _ hb; exact hb.elim
  | succ n ih =>
    intro h x2 x3 hb
    unfold p8_drift_L29 at hb
    refine AW.iload_n (pn := 30) F dX8_drift_29 rfl rfl rfl ?_
    refine AW.iload_n (pn := 31) F dX8_drift_30 rfl rfl rfl ?_
    refine AW.icmp_ge (pn := 34) (tg := 74) F dX8_drift_31 rfl (by decide) hb (fun hb => ?_) (fun hb => ?_)
    · refine AW.iload_n (pn := 75) F dX8_drift_74 rfl rfl rfl ?_
      exact AW.iret F G dX8_drift_75 ⟨_, rfl, hb⟩
    · refine AW.aload_n (pn := 35) F dX8_drift_34 rfl rfl rfl ?_
      refine AW.getI (pn := 38) F dX8_drift_35 rfl gl_X8_106 so_69 rfl ?_
      refine AW.bipush (pn := 40) F dX8_drift_38 rfl (by decide) ?_
      refine jn_1 hb (fun (h7 : HP) => AW X 5 57 [some (vR 69), some (vI x1), some (vI x2), some (vI x3), none] [] h7) (fun h7 hb => ?_) (fun K8 hK8 hb => ?_)
      · refine AW.aload_n (pn := 58) F dX8_drift_57 rfl rfl rfl ?_
        refine AW.cVI (pn := 61) (st := []) F dX8_drift_58 rfl cl_X8_263 so_69 (p8_weekNow_69  hb) rfl rfl (Nat.le_of_ble_eq_true rfl) (by decide) (fun r9 h10 hb => ?_)
        refine AW.istore (ls2 := [some (vR 69), some (vI x1), some (vI x2), some (vI x3), some (vI r9)]) (pn := 63) F dX8_drift_61 rfl (by decide) rfl rfl ?_
        refine AW.iload_n (pn := 64) F dX8_drift_63 rfl rfl rfl ?_
        refine AW.iload (pn := 66) F dX8_drift_64 rfl rfl ?_
        refine AW.iadd (pn := 67) F dX8_drift_66 rfl ?_
        refine AW.istore_n (ls2 := [some (vR 69), some (vI x1), some (vI (x2 + r9)), some (vI x3), some (vI r9)]) (pn := 68) F dX8_drift_67 rfl rfl (by decide) rfl rfl ?_
        refine AW.iinc (ls2 := [some (vR 69), some (vI x1), some (vI (x2 + r9)), some (vI (x3 + 1)), some (vI r9)]) (pn := 71) F dX8_drift_68 rfl rfl (by decide) rfl rfl ?_
        refine AW.goto (tg := 29) F dX8_drift_71 (by decide) ?_
        refine AW.drop [true, true, true, true, false] rfl ?_
        exact ih _ _ _ hb
      refine AW.icmp_ge (pn := 43) (tg := 57) F dX8_drift_40 rfl (by decide) hb (fun hb => ?_) (fun hb => ?_)
      · exact hK8 _ hb
      · refine AW.aload_n (pn := 44) F dX8_drift_43 rfl rfl rfl ?_
        refine AW.aload_n (pn := 45) F dX8_drift_44 rfl rfl rfl ?_
        refine AW.aload_n (pn := 46) F dX8_drift_45 rfl rfl rfl ?_
        refine AW.getI (pn := 49) F dX8_drift_46 rfl gl_X8_96 so_69 rfl ?_
        refine AW.cVI (pn := 52) (st := [vR 69]) F dX8_drift_49 rfl cl_X8_276 so_69 (p8_draw_69 (h 69 0) hb) rfl rfl (Nat.le_of_ble_eq_true rfl) (by decide) (fun r11 h12 hb => ?_)
        refine AW.cVI (pn := 55) (st := []) F dX8_drift_52 rfl cl_X8_246 so_69 (p8_ashoreNow_69 r11 hb) rfl rfl (Nat.le_of_ble_eq_true rfl) (by decide) (fun r13 h14 hb => ?_)
        refine AW.istore (ls2 := [some (vR 69), some (vI x1), some (vI x2), some (vI x3), some (vI r13)]) (pn := 57) F dX8_drift_55 rfl (by decide) rfl rfl ?_
        refine AW.drop [true, true, true, true, false] rfl ?_
        exact hK8 _ hb

theorem p8_drift_69 (x1 : Int) {h : HP} {Q : Int → HP → Prop} (hb : p8_drift x1 h Q) : MT yX8_drift cX8_drift 5 (some .int) 5 [vR 69, vI x1] h (QI Q) := by
  refine MT.of (own := RX8) (by decide) rfl (Nat.le_of_ble_eq_true rfl) rfl (fun X F G => ?_)
  unfold p8_drift at hb
  refine AW.iload_n (pn := 1) F dX8_drift_0 rfl rfl rfl ?_
  refine AW.i2l (pn := 2) F dX8_drift_1 rfl ?_
  refine AW.lconst (x := 1) (pn := 3) F dX8_drift_2 rfl (by decide) ?_
  refine AW.ldc2 (x := 99) (pn := 6) F dX8_drift_3 rfl tw_1093 (by decide) ?_
  refine AW.cSP (pn := 9) (st := []) F dX8_drift_6 rfl cl_X8_102 (p8_in_s (w32 x1) 1 99 hb) rfl rfl (Nat.le_of_ble_eq_true rfl) (by decide) (fun r1 hb => ?_)
  refine AW.if_ne (pn := 12) (tg := 15) F dX8_drift_9 rfl (by decide) hb (fun hb => ?_) (fun hb => ?_)
  · refine AW.aload_n (pn := 16) F dX8_drift_15 rfl rfl rfl ?_
    refine AW.getI (pn := 19) F dX8_drift_16 rfl gl_X8_96 so_69 rfl ?_
    refine AW.if_ne (pn := 22) (tg := 25) F dX8_drift_19 rfl (by decide) hb (fun hb => ?_) (fun hb => ?_)
    · refine AW.iconst (pn := 26) F dX8_drift_25 rfl ?_
      refine AW.istore_n (ls2 := [some (vR 69), some (vI x1), some (vI 0), none, none]) (pn := 27) F dX8_drift_26 rfl rfl (by decide) rfl rfl ?_
      refine AW.iconst (pn := 28) F dX8_drift_27 rfl ?_
      refine AW.istore_n (ls2 := [some (vR 69), some (vI x1), some (vI 0), some (vI 0), none]) (pn := 29) F dX8_drift_28 rfl rfl (by decide) rfl rfl ?_
      refine p8_drift_L29_ok_69 F G  _ _ _ _ hb
    · refine AW.ldc (x := (-1000000003)) (pn := 24) F dX8_drift_22 rfl tw_1053 (by decide) ?_
      exact AW.iret F G dX8_drift_24 ⟨_, rfl, hb⟩
  · refine AW.ldc (x := (-1000000002)) (pn := 14) F dX8_drift_12 rfl tw_938 (by decide) ?_
    exact AW.iret F G dX8_drift_14 ⟨_, rfl, hb⟩

theorem p8_gain_69 (x1 x2 : Int) {h : HP} {Q : Int → Prop} (hb : p8_gain x1 x2 h Q) : MT yX8_gain cX8_gain 3 (some .int) 3 [vR 69, vI x1, vI x2] h (QP h Q) := by
  refine MT.of (own := RX8) (by decide) rfl (Nat.le_of_ble_eq_true rfl) rfl (fun X F G => ?_)
  unfold p8_gain at hb
  refine AW.aload_n (pn := 1) F dX8_gain_0 rfl rfl rfl ?_
  refine AW.iload_n (pn := 2) F dX8_gain_1 rfl rfl rfl ?_
  refine AW.cVP (pn := 5) (st := []) F dX8_gain_2 rfl cl_X8_218 so_69 (p8_isHouse_69 x1 hb) rfl rfl (Nat.le_of_ble_eq_true rfl) (by decide) (fun r1 hb => ?_)
  refine AW.if_eq (pn := 8) (tg := 25) F dX8_gain_5 rfl (by decide) hb (fun hb => ?_) (fun hb => ?_)
  · refine AW.ldc (x := (-1000000001)) (pn := 27) F dX8_gain_25 rfl tw_1009 (by decide) ?_
    exact AW.iret F G dX8_gain_27 ⟨rfl, _, rfl, hb⟩
  · refine AW.aload_n (pn := 9) F dX8_gain_8 rfl rfl rfl ?_
    refine AW.iload_n (pn := 10) F dX8_gain_9 rfl rfl rfl ?_
    refine AW.cVP (pn := 13) (st := []) F dX8_gain_10 rfl cl_X8_232 so_69 (p8_isPart_69 x2 hb) rfl rfl (Nat.le_of_ble_eq_true rfl) (by decide) (fun r2 hb => ?_)
    refine AW.if_eq (pn := 16) (tg := 25) F dX8_gain_13 rfl (by decide) hb (fun hb => ?_) (fun hb => ?_)
    · refine AW.ldc (x := (-1000000001)) (pn := 27) F dX8_gain_25 rfl tw_1009 (by decide) ?_
      exact AW.iret F G dX8_gain_27 ⟨rfl, _, rfl, hb⟩
    · refine AW.aload_n (pn := 17) F dX8_gain_16 rfl rfl rfl ?_
      refine AW.iload_n (pn := 18) F dX8_gain_17 rfl rfl rfl ?_
      refine AW.iload_n (pn := 19) F dX8_gain_18 rfl rfl rfl ?_
      refine AW.cVP (pn := 22) (st := []) F dX8_gain_19 rfl cl_X8_249 so_69 (p8_gainOf_69 x1 x2 hb) rfl rfl (Nat.le_of_ble_eq_true rfl) (by decide) (fun r3 hb => ?_)
      refine AW.goto (tg := 27) F dX8_gain_22 (by decide) ?_
      exact AW.iret F G dX8_gain_27 ⟨rfl, _, rfl, hb⟩

theorem p8_save_L8_ok_69 {X : Cx} {x2 : Int} {E85 : HP → Prop} {Q : HP → Prop} (F : Fx X cX8_save RX8 4 1) (G : Rx X none (QV Q)) (hE85 : ∀ (h : HP), E85 h → AW X 4 85 [some (vR 69), none, some (vI x2), none] [] h) : ∀ (n : Nat) (h : HP) (x3 : Int), p8_save_L8 x2 E85 n h x3 → AW X 4 8 [some (vR 69), none, some (vI x2), some (vI x3)] [] h := by
  intro n
  induction n with
  | zero => intro _ _ hb; exact hb.elim
  | succ n ih =>
    intro h x3 hb
    unfold p8_save_L8 at hb
    refine AW.iload_n (pn := 9) F dX8_save_8 rfl rfl rfl ?_
    refine AW.bipush (pn := 11) F dX8_save_9 rfl (by decide) ?_
    refine AW.icmp_ge (pn := 14) (tg := 85) F dX8_save_11 rfl (by decide) hb (fun hb => ?_) (fun hb => ?_)
    · refine AW.drop [true, true, true, false] rfl ?_
      exact hE85 _ hb
    · refine AW.aload_n (pn := 15) F dX8_save_14 rfl rfl rfl ?_
      refine AW.getR (r := 95) (pn := 18) F dX8_save_15 rfl gl_X8_90 so_69 rfl ?_
      refine AW.iload_n (pn := 19) F dX8_save_18 rfl rfl rfl ?_
      refine AW.iload_n (pn := 20) F dX8_save_19 rfl rfl rfl ?_
      refine AW.iadd (pn := 21) F dX8_save_20 rfl ?_
      refine AW.aload_n (pn := 22) F dX8_save_21 rfl rfl rfl ?_
      refine AW.getR (r := 74) (pn := 25) F dX8_save_22 rfl gl_X8_22 so_69 rfl ?_
      refine AW.iload_n (pn := 26) F dX8_save_25 rfl rfl rfl ?_
      refine AW.iald (pn := 27) F dX8_save_26 rfl so_74 hb (fun v1 hb => ?_)
      refine AW.iast (pn := 28) F dX8_save_27 rfl so_95 hb (fun h2 hb => ?_)
      refine AW.aload_n (pn := 29) F dX8_save_28 rfl rfl rfl ?_
      refine AW.getR (r := 95) (pn := 32) F dX8_save_29 rfl gl_X8_90 so_69 rfl ?_
      refine AW.iload_n (pn := 33) F dX8_save_32 rfl rfl rfl ?_
      refine AW.bipush (pn := 35) F dX8_save_33 rfl (by decide) ?_
      refine AW.iadd (pn := 36) F dX8_save_35 rfl ?_
      refine AW.iload_n (pn := 37) F dX8_save_36 rfl rfl rfl ?_
      refine AW.iadd (pn := 38) F dX8_save_37 rfl ?_
      refine AW.aload_n (pn := 39) F dX8_save_38 rfl rfl rfl ?_
      refine AW.getR (r := 75) (pn := 42) F dX8_save_39 rfl gl_X8_25 so_69 rfl ?_
      refine AW.iload_n (pn := 43) F dX8_save_42 rfl rfl rfl ?_
      refine AW.iald (pn := 44) F dX8_save_43 rfl so_75 hb (fun v3 hb => ?_)
      refine AW.iast (pn := 45) F dX8_save_44 rfl so_95 hb (fun h4 hb => ?_)
      refine AW.aload_n (pn := 46) F dX8_save_45 rfl rfl rfl ?_
      refine AW.getR (r := 95) (pn := 49) F dX8_save_46 rfl gl_X8_90 so_69 rfl ?_
      refine AW.iload_n (pn := 50) F dX8_save_49 rfl rfl rfl ?_
      refine AW.bipush (pn := 52) F dX8_save_50 rfl (by decide) ?_
      refine AW.iadd (pn := 53) F dX8_save_52 rfl ?_
      refine AW.iload_n (pn := 54) F dX8_save_53 rfl rfl rfl ?_
      refine AW.iadd (pn := 55) F dX8_save_54 rfl ?_
      refine AW.aload_n (pn := 56) F dX8_save_55 rfl rfl rfl ?_
      refine AW.getR (r := 76) (pn := 59) F dX8_save_56 rfl gl_X8_28 so_69 rfl ?_
      refine AW.iload_n (pn := 60) F dX8_save_59 rfl rfl rfl ?_
      refine AW.iald (pn := 61) F dX8_save_60 rfl so_76 hb (fun v5 hb => ?_)
      refine AW.iast (pn := 62) F dX8_save_61 rfl so_95 hb (fun h6 hb => ?_)
      refine AW.aload_n (pn := 63) F dX8_save_62 rfl rfl rfl ?_
      refine AW.getR (r := 95) (pn := 66) F dX8_save_63 rfl gl_X8_90 so_69 rfl ?_
      refine AW.iload_n (pn := 67) F dX8_save_66 rfl rfl rfl ?_
      refine AW.bipush (pn := 69) F dX8_save_67 rfl (by decide) ?_
      refine AW.iadd (pn := 70) F dX8_save_69 rfl ?_
      refine AW.iload_n (pn := 71) F dX8_save_70 rfl rfl rfl ?_
      refine AW.iadd (pn := 72) F dX8_save_71 rfl ?_
      refine AW.aload_n (pn := 73) F dX8_save_72 rfl rfl rfl ?_
      refine AW.getR (r := 77) (pn := 76) F dX8_save_73 rfl gl_X8_31 so_69 rfl ?_
      refine AW.iload_n (pn := 77) F dX8_save_76 rfl rfl rfl ?_
      refine AW.iald (pn := 78) F dX8_save_77 rfl so_77 hb (fun v7 hb => ?_)
      refine AW.iast (pn := 79) F dX8_save_78 rfl so_95 hb (fun h8 hb => ?_)
      refine AW.iinc (ls2 := [some (vR 69), none, some (vI x2), some (vI (x3 + 1))]) (pn := 82) F dX8_save_79 rfl rfl (by decide) rfl rfl ?_
      refine AW.goto (tg := 8) F dX8_save_82 (by decide) ?_
      exact ih _ _ hb

theorem p8_save_L87_ok_69 {X : Cx} {x2 : Int} {E118 : HP → Prop} {Q : HP → Prop} (F : Fx X cX8_save RX8 4 1) (G : Rx X none (QV Q)) (hE118 : ∀ (h : HP), E118 h → AW X 4 118 [some (vR 69), none, some (vI x2), none] [] h) : ∀ (n : Nat) (h : HP) (x3 : Int), p8_save_L87 x2 E118 n h x3 → AW X 4 87 [some (vR 69), none, some (vI x2), some (vI x3)] [] h := by
  intro n
  induction n with
  | zero => intro _ _ hb; exact hb.elim
  | succ n ih =>
    intro h x3 hb
    unfold p8_save_L87 at hb
    refine AW.iload_n (pn := 88) F dX8_save_87 rfl rfl rfl ?_
    refine AW.sipush (pn := 91) F dX8_save_88 rfl (by decide) ?_
    refine AW.icmp_ge (pn := 94) (tg := 118) F dX8_save_91 rfl (by decide) hb (fun hb => ?_) (fun hb => ?_)
    · refine AW.drop [true, true, true, false] rfl ?_
      exact hE118 _ hb
    · refine AW.aload_n (pn := 95) F dX8_save_94 rfl rfl rfl ?_
      refine AW.getR (r := 95) (pn := 98) F dX8_save_95 rfl gl_X8_90 so_69 rfl ?_
      refine AW.iload_n (pn := 99) F dX8_save_98 rfl rfl rfl ?_
      refine AW.sipush (pn := 102) F dX8_save_99 rfl (by decide) ?_
      refine AW.iadd (pn := 103) F dX8_save_102 rfl ?_
      refine AW.iload_n (pn := 104) F dX8_save_103 rfl rfl rfl ?_
      refine AW.iadd (pn := 105) F dX8_save_104 rfl ?_
      refine AW.aload_n (pn := 106) F dX8_save_105 rfl rfl rfl ?_
      refine AW.getR (r := 78) (pn := 109) F dX8_save_106 rfl gl_X8_34 so_69 rfl ?_
      refine AW.iload_n (pn := 110) F dX8_save_109 rfl rfl rfl ?_
      refine AW.iald (pn := 111) F dX8_save_110 rfl so_78 hb (fun v10 hb => ?_)
      refine AW.iast (pn := 112) F dX8_save_111 rfl so_95 hb (fun h11 hb => ?_)
      refine AW.iinc (ls2 := [some (vR 69), none, some (vI x2), some (vI (x3 + 1))]) (pn := 115) F dX8_save_112 rfl rfl (by decide) rfl rfl ?_
      refine AW.goto (tg := 87) F dX8_save_115 (by decide) ?_
      exact ih _ _ hb

theorem p8_save_69 (x1 : Int) {h : HP} {Q : HP → Prop} (hb : p8_save x1 h Q) : MT yX8_save cX8_save 4 none 1 [vR 69, vI x1] h (QV Q) := by
  refine MT.of (own := RX8) (by decide) rfl (Nat.le_of_ble_eq_true rfl) rfl (fun X F G => ?_)
  unfold p8_save at hb
  refine AW.sipush (pn := 3) F dX8_save_0 rfl (by decide) ?_
  refine AW.iload_n (pn := 4) F dX8_save_3 rfl rfl rfl ?_
  refine AW.imul (pn := 5) F dX8_save_4 rfl ?_
  refine AW.istore_n (ls2 := [some (vR 69), some (vI x1), some (vI (800 * x1)), none]) (pn := 6) F dX8_save_5 rfl rfl (by decide) rfl rfl ?_
  refine AW.iconst (pn := 7) F dX8_save_6 rfl ?_
  refine AW.istore_n (ls2 := [some (vR 69), some (vI x1), some (vI (800 * x1)), some (vI 0)]) (pn := 8) F dX8_save_7 rfl rfl (by decide) rfl rfl ?_
  refine AW.drop [true, false, true, true] rfl ?_
  refine p8_save_L8_ok_69 F G (fun h9 hb => ?_) _ _ _ hb
  refine AW.iconst (pn := 86) F dX8_save_85 rfl ?_
  refine AW.istore_n (ls2 := [some (vR 69), none, some (vI (800 * x1)), some (vI 0)]) (pn := 87) F dX8_save_86 rfl rfl (by decide) rfl rfl ?_
  refine p8_save_L87_ok_69 F G (fun h12 hb => ?_) _ _ _ hb
  refine AW.aload_n (pn := 119) F dX8_save_118 rfl rfl rfl ?_
  refine AW.getR (r := 95) (pn := 122) F dX8_save_119 rfl gl_X8_90 so_69 rfl ?_
  refine AW.iload_n (pn := 123) F dX8_save_122 rfl rfl rfl ?_
  refine AW.sipush (pn := 126) F dX8_save_123 rfl (by decide) ?_
  refine AW.iadd (pn := 127) F dX8_save_126 rfl ?_
  refine AW.aload_n (pn := 128) F dX8_save_127 rfl rfl rfl ?_
  refine AW.getI (pn := 131) F dX8_save_128 rfl gl_X8_106 so_69 rfl ?_
  refine AW.iast (pn := 132) F dX8_save_131 rfl so_95 hb (fun h13 hb => ?_)
  refine AW.aload_n (pn := 133) F dX8_save_132 rfl rfl rfl ?_
  refine AW.getR (r := 95) (pn := 136) F dX8_save_133 rfl gl_X8_90 so_69 rfl ?_
  refine AW.iload_n (pn := 137) F dX8_save_136 rfl rfl rfl ?_
  refine AW.sipush (pn := 140) F dX8_save_137 rfl (by decide) ?_
  refine AW.iadd (pn := 141) F dX8_save_140 rfl ?_
  refine AW.aload_n (pn := 142) F dX8_save_141 rfl rfl rfl ?_
  refine AW.getI (pn := 145) F dX8_save_142 rfl gl_X8_109 so_69 rfl ?_
  refine AW.iast (pn := 146) F dX8_save_145 rfl so_95 hb (fun h14 hb => ?_)
  refine AW.aload_n (pn := 147) F dX8_save_146 rfl rfl rfl ?_
  refine AW.getR (r := 95) (pn := 150) F dX8_save_147 rfl gl_X8_90 so_69 rfl ?_
  refine AW.iload_n (pn := 151) F dX8_save_150 rfl rfl rfl ?_
  refine AW.sipush (pn := 154) F dX8_save_151 rfl (by decide) ?_
  refine AW.iadd (pn := 155) F dX8_save_154 rfl ?_
  refine AW.aload_n (pn := 156) F dX8_save_155 rfl rfl rfl ?_
  refine AW.getI (pn := 159) F dX8_save_156 rfl gl_X8_266 so_69 rfl ?_
  refine AW.iast (pn := 160) F dX8_save_159 rfl so_95 hb (fun h15 hb => ?_)
  exact AW.vret F G dX8_save_160 ⟨rfl, hb⟩

theorem p8_load_L8_ok_69 {X : Cx} {x2 : Int} {E85 : HP → Prop} {Q : HP → Prop} (F : Fx X cX8_load RX8 4 1) (G : Rx X none (QV Q)) (hE85 : ∀ (h : HP), E85 h → AW X 4 85 [some (vR 69), none, some (vI x2), none] [] h) : ∀ (n : Nat) (h : HP) (x3 : Int), p8_load_L8 x2 E85 n h x3 → AW X 4 8 [some (vR 69), none, some (vI x2), some (vI x3)] [] h := by
  intro n
  induction n with
  | zero => intro _ _ hb; exact hb.elim
  | succ n ih =>
    intro h x3 hb
    unfold p8_load_L8 at hb
    refine AW.iload_n (pn := 9) F dX8_load_8 rfl rfl rfl ?_
    refine AW.bipush (pn := 11) F dX8_load_9 rfl (by decide) ?_
    refine AW.icmp_ge (pn := 14) (tg := 85) F dX8_load_11 rfl (by decide) hb (fun hb => ?_) (fun hb => ?_)
    · refine AW.drop [true, true, true, false] rfl ?_
      exact hE85 _ hb
    · refine AW.aload_n (pn := 15) F dX8_load_14 rfl rfl rfl ?_
      refine AW.getR (r := 74) (pn := 18) F dX8_load_15 rfl gl_X8_22 so_69 rfl ?_
      refine AW.iload_n (pn := 19) F dX8_load_18 rfl rfl rfl ?_
      refine AW.aload_n (pn := 20) F dX8_load_19 rfl rfl rfl ?_
      refine AW.getR (r := 95) (pn := 23) F dX8_load_20 rfl gl_X8_90 so_69 rfl ?_
      refine AW.iload_n (pn := 24) F dX8_load_23 rfl rfl rfl ?_
      refine AW.iload_n (pn := 25) F dX8_load_24 rfl rfl rfl ?_
      refine AW.iadd (pn := 26) F dX8_load_25 rfl ?_
      refine AW.iald (pn := 27) F dX8_load_26 rfl so_95 hb (fun v1 hb => ?_)
      refine AW.iast (pn := 28) F dX8_load_27 rfl so_74 hb (fun h2 hb => ?_)
      refine AW.aload_n (pn := 29) F dX8_load_28 rfl rfl rfl ?_
      refine AW.getR (r := 75) (pn := 32) F dX8_load_29 rfl gl_X8_25 so_69 rfl ?_
      refine AW.iload_n (pn := 33) F dX8_load_32 rfl rfl rfl ?_
      refine AW.aload_n (pn := 34) F dX8_load_33 rfl rfl rfl ?_
      refine AW.getR (r := 95) (pn := 37) F dX8_load_34 rfl gl_X8_90 so_69 rfl ?_
      refine AW.iload_n (pn := 38) F dX8_load_37 rfl rfl rfl ?_
      refine AW.bipush (pn := 40) F dX8_load_38 rfl (by decide) ?_
      refine AW.iadd (pn := 41) F dX8_load_40 rfl ?_
      refine AW.iload_n (pn := 42) F dX8_load_41 rfl rfl rfl ?_
      refine AW.iadd (pn := 43) F dX8_load_42 rfl ?_
      refine AW.iald (pn := 44) F dX8_load_43 rfl so_95 hb (fun v3 hb => ?_)
      refine AW.iast (pn := 45) F dX8_load_44 rfl so_75 hb (fun h4 hb => ?_)
      refine AW.aload_n (pn := 46) F dX8_load_45 rfl rfl rfl ?_
      refine AW.getR (r := 76) (pn := 49) F dX8_load_46 rfl gl_X8_28 so_69 rfl ?_
      refine AW.iload_n (pn := 50) F dX8_load_49 rfl rfl rfl ?_
      refine AW.aload_n (pn := 51) F dX8_load_50 rfl rfl rfl ?_
      refine AW.getR (r := 95) (pn := 54) F dX8_load_51 rfl gl_X8_90 so_69 rfl ?_
      refine AW.iload_n (pn := 55) F dX8_load_54 rfl rfl rfl ?_
      refine AW.bipush (pn := 57) F dX8_load_55 rfl (by decide) ?_
      refine AW.iadd (pn := 58) F dX8_load_57 rfl ?_
      refine AW.iload_n (pn := 59) F dX8_load_58 rfl rfl rfl ?_
      refine AW.iadd (pn := 60) F dX8_load_59 rfl ?_
      refine AW.iald (pn := 61) F dX8_load_60 rfl so_95 hb (fun v5 hb => ?_)
      refine AW.iast (pn := 62) F dX8_load_61 rfl so_76 hb (fun h6 hb => ?_)
      refine AW.aload_n (pn := 63) F dX8_load_62 rfl rfl rfl ?_
      refine AW.getR (r := 77) (pn := 66) F dX8_load_63 rfl gl_X8_31 so_69 rfl ?_
      refine AW.iload_n (pn := 67) F dX8_load_66 rfl rfl rfl ?_
      refine AW.aload_n (pn := 68) F dX8_load_67 rfl rfl rfl ?_
      refine AW.getR (r := 95) (pn := 71) F dX8_load_68 rfl gl_X8_90 so_69 rfl ?_
      refine AW.iload_n (pn := 72) F dX8_load_71 rfl rfl rfl ?_
      refine AW.bipush (pn := 74) F dX8_load_72 rfl (by decide) ?_
      refine AW.iadd (pn := 75) F dX8_load_74 rfl ?_
      refine AW.iload_n (pn := 76) F dX8_load_75 rfl rfl rfl ?_
      refine AW.iadd (pn := 77) F dX8_load_76 rfl ?_
      refine AW.iald (pn := 78) F dX8_load_77 rfl so_95 hb (fun v7 hb => ?_)
      refine AW.iast (pn := 79) F dX8_load_78 rfl so_77 hb (fun h8 hb => ?_)
      refine AW.iinc (ls2 := [some (vR 69), none, some (vI x2), some (vI (x3 + 1))]) (pn := 82) F dX8_load_79 rfl rfl (by decide) rfl rfl ?_
      refine AW.goto (tg := 8) F dX8_load_82 (by decide) ?_
      exact ih _ _ hb

