theorem p8_load_L87_ok_69 {X : Cx} {x2 : Int} {E118 : HP → Prop} {Q : HP → Prop} (F : Fx X cX8_load RX8 4 1) (G : Rx X none (QV Q)) (hE118 : ∀ (h : HP), E118 h → AW X 4 118 [some (vR 69), none, some (vI x2), none] [] h) : ∀ (n : Nat) (h : HP) (x3 : Int), p8_load_L87 x2 E118 n h x3 → AW X 4 87 [some (vR 69), none, some (vI x2), some (vI x3)] [] h := by
  intro n
  induction n with
  | zero => intro _ _ hb; exact hb.elim
  | succ n ih =>
    intro h x3 hb
    unfold p8_load_L87 at hb
    refine AW.iload_n (pn := 88) F dX8_load_87 rfl rfl rfl ?_
    refine AW.sipush (pn := 91) F dX8_load_88 rfl (by decide) ?_
    refine AW.icmp_ge (pn := 94) (tg := 118) F dX8_load_91 rfl (by decide) hb (fun hb => ?_) (fun hb => ?_)
    · refine AW.drop [true, true, true, false] rfl ?_
      exact hE118 _ hb
    · refine AW.aload_n (pn := 95) F dX8_load_94 rfl rfl rfl ?_
      refine AW.getR (r := 78) (pn := 98) F dX8_load_95 rfl gl_X8_34 so_69 rfl ?_
      refine AW.iload_n (pn := 99) F dX8_load_98 rfl rfl rfl ?_
      refine AW.aload_n (pn := 100) F dX8_load_99 rfl rfl rfl ?_
      refine AW.getR (r := 95) (pn := 103) F dX8_load_100 rfl gl_X8_90 so_69 rfl ?_
      refine AW.iload_n (pn := 104) F dX8_load_103 rfl rfl rfl ?_
      refine AW.sipush (pn := 107) F dX8_load_104 rfl (by decide) ?_
      refine AW.iadd (pn := 108) F dX8_load_107 rfl ?_
      refine AW.iload_n (pn := 109) F dX8_load_108 rfl rfl rfl ?_
      refine AW.iadd (pn := 110) F dX8_load_109 rfl ?_
      refine AW.iald (pn := 111) F dX8_load_110 rfl so_95 hb (fun v10 hb => ?_)
      refine AW.iast (pn := 112) F dX8_load_111 rfl so_78 hb (fun h11 hb => ?_)
      refine AW.iinc (ls2 := [some (vR 69), none, some (vI x2), some (vI (x3 + 1))]) (pn := 115) F dX8_load_112 rfl rfl (by decide) rfl rfl ?_
      refine AW.goto (tg := 87) F dX8_load_115 (by decide) ?_
      exact ih _ _ hb

theorem p8_load_69 (x1 : Int) {h : HP} {Q : HP → Prop} (hb : p8_load x1 h Q) : MT yX8_load cX8_load 4 none 1 [vR 69, vI x1] h (QV Q) := by
  refine MT.of (own := RX8) (by decide) rfl (Nat.le_of_ble_eq_true rfl) rfl (fun X F G => ?_)
  unfold p8_load at hb
  refine AW.sipush (pn := 3) F dX8_load_0 rfl (by decide) ?_
  refine AW.iload_n (pn := 4) F dX8_load_3 rfl rfl rfl ?_
  refine AW.imul (pn := 5) F dX8_load_4 rfl ?_
  refine AW.istore_n (ls2 := [some (vR 69), some (vI x1), some (vI (800 * x1)), none]) (pn := 6) F dX8_load_5 rfl rfl (by decide) rfl rfl ?_
  refine AW.iconst (pn := 7) F dX8_load_6 rfl ?_
  refine AW.istore_n (ls2 := [some (vR 69), some (vI x1), some (vI (800 * x1)), some (vI 0)]) (pn := 8) F dX8_load_7 rfl rfl (by decide) rfl rfl ?_
  refine AW.drop [true, false, true, true] rfl ?_
  refine p8_load_L8_ok_69 F G (fun h9 hb => ?_) _ _ _ hb
  refine AW.iconst (pn := 86) F dX8_load_85 rfl ?_
  refine AW.istore_n (ls2 := [some (vR 69), none, some (vI (800 * x1)), some (vI 0)]) (pn := 87) F dX8_load_86 rfl rfl (by decide) rfl rfl ?_
  refine p8_load_L87_ok_69 F G (fun h12 hb => ?_) _ _ _ hb
  refine AW.aload_n (pn := 119) F dX8_load_118 rfl rfl rfl ?_
  refine AW.aload_n (pn := 120) F dX8_load_119 rfl rfl rfl ?_
  refine AW.getR (r := 95) (pn := 123) F dX8_load_120 rfl gl_X8_90 so_69 rfl ?_
  refine AW.iload_n (pn := 124) F dX8_load_123 rfl rfl rfl ?_
  refine AW.sipush (pn := 127) F dX8_load_124 rfl (by decide) ?_
  refine AW.iadd (pn := 128) F dX8_load_127 rfl ?_
  refine AW.iald (pn := 129) F dX8_load_128 rfl so_95 hb (fun v13 hb => ?_)
  refine AW.putI (pn := 132) F dX8_load_129 rfl pl_X8_106 so_69 rfl hb (fun h14 hb => ?_)
  refine AW.aload_n (pn := 133) F dX8_load_132 rfl rfl rfl ?_
  refine AW.aload_n (pn := 134) F dX8_load_133 rfl rfl rfl ?_
  refine AW.getR (r := 95) (pn := 137) F dX8_load_134 rfl gl_X8_90 so_69 rfl ?_
  refine AW.iload_n (pn := 138) F dX8_load_137 rfl rfl rfl ?_
  refine AW.sipush (pn := 141) F dX8_load_138 rfl (by decide) ?_
  refine AW.iadd (pn := 142) F dX8_load_141 rfl ?_
  refine AW.iald (pn := 143) F dX8_load_142 rfl so_95 hb (fun v15 hb => ?_)
  refine AW.putI (pn := 146) F dX8_load_143 rfl pl_X8_109 so_69 rfl hb (fun h16 hb => ?_)
  refine AW.aload_n (pn := 147) F dX8_load_146 rfl rfl rfl ?_
  refine AW.aload_n (pn := 148) F dX8_load_147 rfl rfl rfl ?_
  refine AW.getR (r := 95) (pn := 151) F dX8_load_148 rfl gl_X8_90 so_69 rfl ?_
  refine AW.iload_n (pn := 152) F dX8_load_151 rfl rfl rfl ?_
  refine AW.sipush (pn := 155) F dX8_load_152 rfl (by decide) ?_
  refine AW.iadd (pn := 156) F dX8_load_155 rfl ?_
  refine AW.iald (pn := 157) F dX8_load_156 rfl so_95 hb (fun v17 hb => ?_)
  refine AW.putI (pn := 160) F dX8_load_157 rfl pl_X8_266 so_69 rfl hb (fun h18 hb => ?_)
  exact AW.vret F G dX8_load_160 ⟨rfl, hb⟩

theorem p8_down_L59_ok_69 {X : Cx} {x1 x2 x3 : Int} {E77 : HP → Prop} {Q : Int → HP → Prop} (F : Fx X cX8_down RX8 7 5) (G : Rx X (some .int) (QI Q)) (hE77 : ∀ (h : HP), E77 h → AW X 7 77 [some (vR 69), some (vI x1), some (vI x2), some (vI x3), none, none, none] [] h) : ∀ (n : Nat) (h : HP) (x4 : Int), p8_down_L59 x1 x2 x3 E77 n h x4 → AW X 7 59 [some (vR 69), some (vI x1), some (vI x2), some (vI x3), some (vI x4), none, none] [] h := by
  intro n
  induction n with
  | zero => intro _ _ hb; exact hb.elim
  | succ n ih =>
    intro h x4 hb
    unfold p8_down_L59 at hb
    refine AW.iload (pn := 61) F dX8_down_59 rfl rfl ?_
    refine AW.iload_n (pn := 62) F dX8_down_61 rfl rfl rfl ?_
    refine AW.icmp_ge (pn := 65) (tg := 77) F dX8_down_62 rfl (by decide) hb (fun hb => ?_) (fun hb => ?_)
    · refine AW.drop [true, true, true, true, false, true, true] rfl ?_
      exact hE77 _ hb
    · refine AW.aload_n (pn := 66) F dX8_down_65 rfl rfl rfl ?_
      refine AW.cVI (pn := 69) (st := []) F dX8_down_66 rfl cl_X8_263 so_69 (p8_weekNow_69  hb) rfl rfl (Nat.le_of_ble_eq_true rfl) (by decide) (fun r6 h7 hb => ?_)
      refine AW.istore (ls2 := [some (vR 69), some (vI x1), some (vI x2), some (vI x3), some (vI x4), some (vI r6), none]) (pn := 71) F dX8_down_69 rfl (by decide) rfl rfl ?_
      refine AW.iinc (ls2 := [some (vR 69), some (vI x1), some (vI x2), some (vI x3), some (vI (x4 + 1)), some (vI r6), none]) (pn := 74) F dX8_down_71 rfl rfl (by decide) rfl rfl ?_
      refine AW.goto (tg := 59) F dX8_down_74 (by decide) ?_
      refine AW.drop [true, true, true, true, true, false, true] rfl ?_
      exact ih _ _ hb

theorem p8_down_L80_ok_69 {X : Cx} {x1 x2 x3 : Int} {E108 : HP → Prop} {Q : Int → HP → Prop} (F : Fx X cX8_down RX8 7 5) (G : Rx X (some .int) (QI Q)) (hE108 : ∀ (h : HP), E108 h → AW X 7 108 [some (vR 69), some (vI x1), some (vI x2), some (vI x3), none, none, none] [] h) : ∀ (n : Nat) (h : HP) (x4 : Int), p8_down_L80 x1 x2 x3 E108 n h x4 → AW X 7 80 [some (vR 69), some (vI x1), some (vI x2), some (vI x3), some (vI x4), none, none] [] h := by
  intro n
  induction n with
  | zero => intro _ _ hb; exact hb.elim
  | succ n ih =>
    intro h x4 hb
    unfold p8_down_L80 at hb
    refine AW.iload (pn := 82) F dX8_down_80 rfl rfl ?_
    refine AW.aload_n (pn := 83) F dX8_down_82 rfl rfl rfl ?_
    refine AW.getI (pn := 86) F dX8_down_83 rfl gl_X8_99 so_69 rfl ?_
    refine AW.icmp_ge (pn := 89) (tg := 108) F dX8_down_86 rfl (by decide) hb (fun hb => ?_) (fun hb => ?_)
    · refine AW.drop [true, true, true, true, false, true, true] rfl ?_
      exact hE108 _ hb
    · refine AW.aload_n (pn := 90) F dX8_down_89 rfl rfl rfl ?_
      refine AW.getR (r := 84) (pn := 93) F dX8_down_90 rfl gl_X8_56 so_69 rfl ?_
      refine AW.iload (pn := 95) F dX8_down_93 rfl rfl ?_
      refine AW.aload_n (pn := 96) F dX8_down_95 rfl rfl rfl ?_
      refine AW.iload (pn := 98) F dX8_down_96 rfl rfl ?_
      refine AW.cVP (pn := 101) (st := [vI x4, vR 84]) F dX8_down_98 rfl cl_X8_223 so_69 (p8_wealthOf_69 x4 hb) rfl rfl (Nat.le_of_ble_eq_true rfl) (by decide) (fun r9 hb => ?_)
      refine AW.iast (pn := 102) F dX8_down_101 rfl so_84 hb (fun h10 hb => ?_)
      refine AW.iinc (ls2 := [some (vR 69), some (vI x1), some (vI x2), some (vI x3), some (vI (x4 + 1)), none, none]) (pn := 105) F dX8_down_102 rfl rfl (by decide) rfl rfl ?_
      refine AW.goto (tg := 80) F dX8_down_105 (by decide) ?_
      exact ih _ _ hb

theorem p8_down_L123_ok_69 {X : Cx} {x2 x3 : Int} {E141 : HP → Prop} {Q : Int → HP → Prop} (F : Fx X cX8_down RX8 7 5) (G : Rx X (some .int) (QI Q)) (hE141 : ∀ (h : HP), E141 h → AW X 7 141 [some (vR 69), none, none, some (vI x3), none, none, none] [] h) : ∀ (n : Nat) (h : HP) (x5 : Int), p8_down_L123 x2 x3 E141 n h x5 → AW X 7 123 [some (vR 69), none, some (vI x2), some (vI x3), none, some (vI x5), none] [] h := by
  intro n
  induction n with
  | zero => intro _ _ hb; exact hb.elim
  | succ n ih =>
    intro h x5 hb
    unfold p8_down_L123 at hb
    refine AW.iload (pn := 125) F dX8_down_123 rfl rfl ?_
    refine AW.iload_n (pn := 126) F dX8_down_125 rfl rfl rfl ?_
    refine AW.icmp_ge (pn := 129) (tg := 141) F dX8_down_126 rfl (by decide) hb (fun hb => ?_) (fun hb => ?_)
    · refine AW.drop [true, true, false, true, true, false, true] rfl ?_
      exact hE141 _ hb
    · refine AW.aload_n (pn := 130) F dX8_down_129 rfl rfl rfl ?_
      refine AW.cVI (pn := 133) (st := []) F dX8_down_130 rfl cl_X8_263 so_69 (p8_weekNow_69  hb) rfl rfl (Nat.le_of_ble_eq_true rfl) (by decide) (fun r15 h16 hb => ?_)
      refine AW.istore (ls2 := [some (vR 69), none, some (vI x2), some (vI x3), none, some (vI x5), some (vI r15)]) (pn := 135) F dX8_down_133 rfl (by decide) rfl rfl ?_
      refine AW.iinc (ls2 := [some (vR 69), none, some (vI x2), some (vI x3), none, some (vI (x5 + 1)), some (vI r15)]) (pn := 138) F dX8_down_135 rfl rfl (by decide) rfl rfl ?_
      refine AW.goto (tg := 123) F dX8_down_138 (by decide) ?_
      refine AW.drop [true, true, true, true, true, true, false] rfl ?_
      exact ih _ _ hb

theorem p8_down_L147_ok_69 {X : Cx} {x3 : Int} {h : HP} {E196 : Int → Prop} {Q : Int → HP → Prop} (F : Fx X cX8_down RX8 7 5) (G : Rx X (some .int) (QI Q)) (hE196 : ∀ (x5 : Int), E196 x5 → AW X 7 196 [some (vR 69), none, none, none, none, some (vI x5), none] [] h) : ∀ (n : Nat) (x5 : Int) (x6 : Int), p8_down_L147 x3 h E196 n x5 x6 → AW X 7 147 [some (vR 69), none, none, some (vI x3), none, some (vI x5), some (vI x6)] [] h := by
  intro n
  induction n with
  | zero => intro _ _ hb; exact hb.elim
  | succ n ih =>
    intro x5 x6 hb
    unfold p8_down_L147 at hb
    refine AW.iload (pn := 149) F dX8_down_147 rfl rfl ?_
    refine AW.aload_n (pn := 150) F dX8_down_149 rfl rfl rfl ?_
    refine AW.getI (pn := 153) F dX8_down_150 rfl gl_X8_99 so_69 rfl ?_
    refine AW.icmp_ge (pn := 156) (tg := 196) F dX8_down_153 rfl (by decide) hb (fun hb => ?_) (fun hb => ?_)
    · refine AW.drop [true, true, true, false, true, true, false] rfl ?_
      exact hE196 _ hb
    · refine AW.iload (pn := 158) F dX8_down_156 rfl rfl ?_
      refine AW.iload_n (pn := 159) F dX8_down_158 rfl rfl rfl ?_
      refine AW.iconst (pn := 160) F dX8_down_159 rfl ?_
      refine jn_0 hb (AW X 7 169 [some (vR 69), none, none, some (vI x3), none, none, some (vI x6)] [vI x5] h) (fun  hb => ?_) (fun K18 hK18 hb => ?_)
      · refine AW.aload_n (pn := 170) F dX8_down_169 rfl rfl rfl ?_
        refine AW.iload (pn := 172) F dX8_down_170 rfl rfl ?_
        refine AW.cVP (pn := 175) (st := [vI x5]) F dX8_down_172 rfl cl_X8_223 so_69 (p8_wealthOf_69 x6 hb) rfl rfl (Nat.le_of_ble_eq_true rfl) (by decide) (fun r19 hb => ?_)
        refine AW.aload_n (pn := 176) F dX8_down_175 rfl rfl rfl ?_
        refine AW.getR (r := 84) (pn := 179) F dX8_down_176 rfl gl_X8_56 so_69 rfl ?_
        refine AW.iload (pn := 181) F dX8_down_179 rfl rfl ?_
        refine AW.iald (pn := 182) F dX8_down_181 rfl so_84 hb (fun v20 hb => ?_)
        refine AW.isub (pn := 183) F dX8_down_182 rfl ?_
        refine AW.goto (tg := 187) F dX8_down_183 (by decide) ?_
        refine AW.iadd (pn := 188) F dX8_down_187 rfl ?_
        refine AW.istore (ls2 := [some (vR 69), none, none, some (vI x3), none, some (vI (x5 + (r19 - v20))), some (vI x6)]) (pn := 190) F dX8_down_188 rfl (by decide) rfl rfl ?_
        refine AW.iinc (ls2 := [some (vR 69), none, none, some (vI x3), none, some (vI (x5 + (r19 - v20))), some (vI (x6 + 1))]) (pn := 193) F dX8_down_190 rfl rfl (by decide) rfl rfl ?_
        refine AW.goto (tg := 147) F dX8_down_193 (by decide) ?_
        exact ih _ _ hb
      refine AW.icmp_eq (pn := 163) (tg := 169) F dX8_down_160 rfl (by decide) hb (fun hb => ?_) (fun hb => ?_)
      · refine AW.drop [true, true, true, true, true, false, true] rfl ?_
        exact hK18 hb
      · refine AW.iload (pn := 165) F dX8_down_163 rfl rfl ?_
        refine AW.iload_n (pn := 166) F dX8_down_165 rfl rfl rfl ?_
        refine AW.icmp_ne (pn := 169) (tg := 186) F dX8_down_166 rfl (by decide) hb (fun hb => ?_) (fun hb => ?_)
        · refine AW.iconst (pn := 187) F dX8_down_186 rfl ?_
          refine AW.iadd (pn := 188) F dX8_down_187 rfl ?_
          refine AW.istore (ls2 := [some (vR 69), none, none, some (vI x3), none, some (vI (x5 + 0)), some (vI x6)]) (pn := 190) F dX8_down_188 rfl (by decide) rfl rfl ?_
          refine AW.iinc (ls2 := [some (vR 69), none, none, some (vI x3), none, some (vI (x5 + 0)), some (vI (x6 + 1))]) (pn := 193) F dX8_down_190 rfl rfl (by decide) rfl rfl ?_
          refine AW.goto (tg := 147) F dX8_down_193 (by decide) ?_
          exact ih _ _ hb
        · refine AW.drop [true, true, true, true, true, false, true] rfl ?_
          exact hK18 hb

theorem p8_down_69 (x1 x2 x3 : Int) {h : HP} {Q : Int → HP → Prop} (hb : p8_down x1 x2 x3 h Q) : MT yX8_down cX8_down 7 (some .int) 5 [vR 69, vI x1, vI x2, vI x3] h (QI Q) := by
  refine MT.of (own := RX8) (by decide) rfl (Nat.le_of_ble_eq_true rfl) rfl (fun X F G => ?_)
  unfold p8_down at hb
  refine AW.aload_n (pn := 1) F dX8_down_0 rfl rfl rfl ?_
  refine AW.iload_n (pn := 2) F dX8_down_1 rfl rfl rfl ?_
  refine AW.cVP (pn := 5) (st := []) F dX8_down_2 rfl cl_X8_229 so_69 (p8_isSort_69 x1 hb) rfl rfl (Nat.le_of_ble_eq_true rfl) (by decide) (fun r1 hb => ?_)
  refine AW.if_eq (pn := 8) (tg := 21) F dX8_down_5 rfl (by decide) hb (fun hb => ?_) (fun hb => ?_)
  · refine AW.ldc (x := (-1000000001)) (pn := 23) F dX8_down_21 rfl tw_1009 (by decide) ?_
    exact AW.iret F G dX8_down_23 ⟨_, rfl, hb⟩
  · refine AW.iload_n (pn := 9) F dX8_down_8 rfl rfl rfl ?_
    refine AW.iconst (pn := 10) F dX8_down_9 rfl ?_
    refine jn_0 hb (AW X 7 24 [some (vR 69), some (vI x1), some (vI x2), some (vI x3), none, none, none] [] h) (fun  hb => ?_) (fun K3 hK3 hb => ?_)
    · refine AW.iload_n (pn := 25) F dX8_down_24 rfl rfl rfl ?_
      refine AW.i2l (pn := 26) F dX8_down_25 rfl ?_
      refine AW.lconst (x := 1) (pn := 27) F dX8_down_26 rfl (by decide) ?_
      refine AW.ldc2 (x := 20) (pn := 30) F dX8_down_27 rfl tw_1126 (by decide) ?_
      refine AW.cSP (pn := 33) (st := []) F dX8_down_30 rfl cl_X8_102 (p8_in_s (w32 x2) 1 20 hb) rfl rfl (Nat.le_of_ble_eq_true rfl) (by decide) (fun r4 hb => ?_)
      refine AW.if_ne (pn := 36) (tg := 39) F dX8_down_33 rfl (by decide) hb (fun hb => ?_) (fun hb => ?_)
      · refine AW.aload_n (pn := 40) F dX8_down_39 rfl rfl rfl ?_
        refine AW.getI (pn := 43) F dX8_down_40 rfl gl_X8_106 so_69 rfl ?_
        refine AW.bipush (pn := 45) F dX8_down_43 rfl (by decide) ?_
        refine AW.icmp_ne (pn := 48) (tg := 51) F dX8_down_45 rfl (by decide) hb (fun hb => ?_) (fun hb => ?_)
        · refine AW.aload_n (pn := 52) F dX8_down_51 rfl rfl rfl ?_
          refine AW.iconst (pn := 53) F dX8_down_52 rfl ?_
          refine AW.cVV (pn := 56) (st := []) F dX8_down_53 rfl cl_X8_281 so_69 (p8_save_69 2 hb) rfl rfl (Nat.le_of_ble_eq_true rfl) (by decide) (fun h5 hb => ?_)
          refine AW.iconst (pn := 57) F dX8_down_56 rfl ?_
          refine AW.istore (ls2 := [some (vR 69), some (vI x1), some (vI x2), some (vI x3), some (vI 0), none, none]) (pn := 59) F dX8_down_57 rfl (by decide) rfl rfl ?_
          refine p8_down_L59_ok_69 F G (fun h8 hb => ?_) _ _ _ hb
          refine AW.iconst (pn := 78) F dX8_down_77 rfl ?_
          refine AW.istore (ls2 := [some (vR 69), some (vI x1), some (vI x2), some (vI x3), some (vI 0), none, none]) (pn := 80) F dX8_down_78 rfl (by decide) rfl rfl ?_
          refine p8_down_L80_ok_69 F G (fun h11 hb => ?_) _ _ _ hb
          refine AW.aload_n (pn := 109) F dX8_down_108 rfl rfl rfl ?_
          refine AW.iconst (pn := 110) F dX8_down_109 rfl ?_
          refine AW.cVV (pn := 113) (st := []) F dX8_down_110 rfl cl_X8_285 so_69 (p8_load_69 2 hb) rfl rfl (Nat.le_of_ble_eq_true rfl) (by decide) (fun h12 hb => ?_)
          refine AW.aload_n (pn := 114) F dX8_down_113 rfl rfl rfl ?_
          refine AW.iload_n (pn := 115) F dX8_down_114 rfl rfl rfl ?_
          refine AW.cVI (pn := 118) (st := []) F dX8_down_115 rfl cl_X8_246 so_69 (p8_ashoreNow_69 x1 hb) rfl rfl (Nat.le_of_ble_eq_true rfl) (by decide) (fun r13 h14 hb => ?_)
          refine AW.istore (ls2 := [some (vR 69), some (vI x1), some (vI x2), some (vI x3), some (vI r13), none, none]) (pn := 120) F dX8_down_118 rfl (by decide) rfl rfl ?_
          refine AW.iconst (pn := 121) F dX8_down_120 rfl ?_
          refine AW.istore (ls2 := [some (vR 69), some (vI x1), some (vI x2), some (vI x3), some (vI r13), some (vI 0), none]) (pn := 123) F dX8_down_121 rfl (by decide) rfl rfl ?_
          refine AW.drop [true, false, true, true, false, true, true] rfl ?_
          refine p8_down_L123_ok_69 F G (fun h17 hb => ?_) _ _ _ hb
          refine AW.iconst (pn := 142) F dX8_down_141 rfl ?_
          refine AW.istore (ls2 := [some (vR 69), none, none, some (vI x3), none, some (vI 0), none]) (pn := 144) F dX8_down_142 rfl (by decide) rfl rfl ?_
          refine AW.iconst (pn := 145) F dX8_down_144 rfl ?_
          refine AW.istore (ls2 := [some (vR 69), none, none, some (vI x3), none, some (vI 0), some (vI 0)]) (pn := 147) F dX8_down_145 rfl (by decide) rfl rfl ?_
          refine p8_down_L147_ok_69 F G (fun y21 hb => ?_) _ _ _ hb
          refine AW.aload_n (pn := 197) F dX8_down_196 rfl rfl rfl ?_
          refine AW.iconst (pn := 198) F dX8_down_197 rfl ?_
          refine AW.cVV (pn := 201) (st := []) F dX8_down_198 rfl cl_X8_285 so_69 (p8_load_69 2 hb) rfl rfl (Nat.le_of_ble_eq_true rfl) (by decide) (fun h22 hb => ?_)
          refine AW.iload (pn := 203) F dX8_down_201 rfl rfl ?_
          exact AW.iret F G dX8_down_203 ⟨_, rfl, hb⟩
        · refine AW.ldc (x := (-1000000004)) (pn := 50) F dX8_down_48 rfl tw_939 (by decide) ?_
          exact AW.iret F G dX8_down_50 ⟨_, rfl, hb⟩
      · refine AW.ldc (x := (-1000000002)) (pn := 38) F dX8_down_36 rfl tw_938 (by decide) ?_
        exact AW.iret F G dX8_down_38 ⟨_, rfl, hb⟩
    refine AW.icmp_eq (pn := 13) (tg := 24) F dX8_down_10 rfl (by decide) hb (fun hb => ?_) (fun hb => ?_)
    · exact hK3 hb
    · refine AW.aload_n (pn := 14) F dX8_down_13 rfl rfl rfl ?_
      refine AW.iload_n (pn := 15) F dX8_down_14 rfl rfl rfl ?_
      refine AW.cVP (pn := 18) (st := []) F dX8_down_15 rfl cl_X8_218 so_69 (p8_isHouse_69 x3 hb) rfl rfl (Nat.le_of_ble_eq_true rfl) (by decide) (fun r23 hb => ?_)
      refine AW.if_ne (pn := 21) (tg := 24) F dX8_down_18 rfl (by decide) hb (fun hb => ?_) (fun hb => ?_)
      · exact hK3 hb
      · refine AW.ldc (x := (-1000000001)) (pn := 23) F dX8_down_21 rfl tw_1009 (by decide) ?_
        exact AW.iret F G dX8_down_23 ⟨_, rfl, hb⟩

theorem p8_fromOf_69 (x1 : Int) {h : HP} {Q : Int → Prop} (hb : p8_fromOf x1 h Q) : MT yX8_fromOf cX8_fromOf 2 (some .int) 1 [vR 69, vI x1] h (QP h Q) := by
  refine MT.of (own := RX8) (by decide) rfl (Nat.le_of_ble_eq_true rfl) rfl (fun X F G => ?_)
  unfold p8_fromOf at hb
  refine AW.aload_n (pn := 1) F dX8_fromOf_0 rfl rfl rfl ?_
  refine AW.getR (r := 75) (pn := 4) F dX8_fromOf_1 rfl gl_X8_25 so_69 rfl ?_
  refine AW.iload_n (pn := 5) F dX8_fromOf_4 rfl rfl rfl ?_
  refine AW.iald (pn := 6) F dX8_fromOf_5 rfl so_75 hb (fun v1 hb => ?_)
  refine AW.if_ge (pn := 9) (tg := 18) F dX8_fromOf_6 rfl (by decide) hb (fun hb => ?_) (fun hb => ?_)
  · refine AW.aload_n (pn := 19) F dX8_fromOf_18 rfl rfl rfl ?_
    refine AW.getR (r := 75) (pn := 22) F dX8_fromOf_19 rfl gl_X8_25 so_69 rfl ?_
    refine AW.iload_n (pn := 23) F dX8_fromOf_22 rfl rfl rfl ?_
    refine AW.iald (pn := 24) F dX8_fromOf_23 rfl so_75 hb (fun v2 hb => ?_)
    exact AW.iret F G dX8_fromOf_24 ⟨rfl, _, rfl, hb⟩
  · refine AW.aload_n (pn := 10) F dX8_fromOf_9 rfl rfl rfl ?_
    refine AW.getR (r := 76) (pn := 13) F dX8_fromOf_10 rfl gl_X8_28 so_69 rfl ?_
    refine AW.iload_n (pn := 14) F dX8_fromOf_13 rfl rfl rfl ?_
    refine AW.iald (pn := 15) F dX8_fromOf_14 rfl so_76 hb (fun v3 hb => ?_)
    refine AW.goto (tg := 24) F dX8_fromOf_15 (by decide) ?_
    exact AW.iret F G dX8_fromOf_24 ⟨rfl, _, rfl, hb⟩

theorem p8_betterBy_L13_ok_69 {X : Cx} {x1 x3 : Int} {h : HP} {E63 : Int → Prop} {Q : Int → Prop} (F : Fx X cX8_betterBy RX8 6 4) (G : Rx X (some .int) (QP h Q)) (hE63 : ∀ (x4 : Int), E63 x4 → AW X 6 63 [some (vR 69), some (vI x1), none, none, some (vI x4), none] [] h) : ∀ (n : Nat) (x4 : Int) (x5 : Int), p8_betterBy_L13 x1 x3 h E63 n x4 x5 → AW X 6 13 [some (vR 69), some (vI x1), none, some (vI x3), some (vI x4), some (vI x5)] [] h := by
  intro n
  induction n with
  | zero => intro _ _ hb; exact hb.elim
  | succ n ih =>
    intro x4 x5 hb
    unfold p8_betterBy_L13 at hb
    refine AW.iload (pn := 15) F dX8_betterBy_13 rfl rfl ?_
    refine AW.aload_n (pn := 16) F dX8_betterBy_15 rfl rfl rfl ?_
    refine AW.getI (pn := 19) F dX8_betterBy_16 rfl gl_X8_106 so_69 rfl ?_
    refine AW.icmp_ge (pn := 22) (tg := 63) F dX8_betterBy_19 rfl (by decide) hb (fun hb => ?_) (fun hb => ?_)
    · refine AW.drop [true, true, true, false, true, false] rfl ?_
      exact hE63 _ hb
    · refine AW.iload (pn := 24) F dX8_betterBy_22 rfl rfl ?_
      refine AW.aload_n (pn := 25) F dX8_betterBy_24 rfl rfl rfl ?_
      refine AW.getR (r := 75) (pn := 28) F dX8_betterBy_25 rfl gl_X8_25 so_69 rfl ?_
      refine AW.iload (pn := 30) F dX8_betterBy_28 rfl rfl ?_
      refine AW.iald (pn := 31) F dX8_betterBy_30 rfl so_75 hb (fun v2 hb => ?_)
      refine AW.iload_n (pn := 32) F dX8_betterBy_31 rfl rfl rfl ?_
      refine AW.icmp_ne (pn := 35) (tg := 53) F dX8_betterBy_32 rfl (by decide) hb (fun hb => ?_) (fun hb => ?_)
      · refine AW.iconst (pn := 54) F dX8_betterBy_53 rfl ?_
        refine AW.ior (pn := 55) F dX8_betterBy_54 rfl ?_
        refine AW.istore (ls2 := [some (vR 69), some (vI x1), none, some (vI x3), some (vI (io x4 0)), some (vI x5)]) (pn := 57) F dX8_betterBy_55 rfl (by decide) rfl rfl ?_
        refine AW.iinc (ls2 := [some (vR 69), some (vI x1), none, some (vI x3), some (vI (io x4 0)), some (vI (x5 + 1))]) (pn := 60) F dX8_betterBy_57 rfl rfl (by decide) rfl rfl ?_
        refine AW.goto (tg := 13) F dX8_betterBy_60 (by decide) ?_
        exact ih _ _ hb
      · refine AW.iload (pn := 37) F dX8_betterBy_35 rfl rfl ?_
        refine AW.iload_n (pn := 38) F dX8_betterBy_37 rfl rfl rfl ?_
        refine AW.icmp_eq (pn := 41) (tg := 53) F dX8_betterBy_38 rfl (by decide) hb (fun hb => ?_) (fun hb => ?_)
        · refine AW.iconst (pn := 54) F dX8_betterBy_53 rfl ?_
          refine AW.ior (pn := 55) F dX8_betterBy_54 rfl ?_
          refine AW.istore (ls2 := [some (vR 69), some (vI x1), none, some (vI x3), some (vI (io x4 0)), some (vI x5)]) (pn := 57) F dX8_betterBy_55 rfl (by decide) rfl rfl ?_
          refine AW.iinc (ls2 := [some (vR 69), some (vI x1), none, some (vI x3), some (vI (io x4 0)), some (vI (x5 + 1))]) (pn := 60) F dX8_betterBy_57 rfl rfl (by decide) rfl rfl ?_
          refine AW.goto (tg := 13) F dX8_betterBy_60 (by decide) ?_
          exact ih _ _ hb
        · refine AW.iconst (pn := 42) F dX8_betterBy_41 rfl ?_
          refine AW.aload_n (pn := 43) F dX8_betterBy_42 rfl rfl rfl ?_
          refine AW.getR (r := 74) (pn := 46) F dX8_betterBy_43 rfl gl_X8_22 so_69 rfl ?_
          refine AW.iload (pn := 48) F dX8_betterBy_46 rfl rfl ?_
          refine AW.iald (pn := 49) F dX8_betterBy_48 rfl so_74 hb (fun v3 hb => ?_)
          refine AW.ishl (pn := 50) F dX8_betterBy_49 rfl ?_
          refine AW.goto (tg := 54) F dX8_betterBy_50 (by decide) ?_
          refine AW.ior (pn := 55) F dX8_betterBy_54 rfl ?_
          refine AW.istore (ls2 := [some (vR 69), some (vI x1), none, some (vI x3), some (vI (io x4 (sl 1 v3))), some (vI x5)]) (pn := 57) F dX8_betterBy_55 rfl (by decide) rfl rfl ?_
          refine AW.iinc (ls2 := [some (vR 69), some (vI x1), none, some (vI x3), some (vI (io x4 (sl 1 v3))), some (vI (x5 + 1))]) (pn := 60) F dX8_betterBy_57 rfl rfl (by decide) rfl rfl ?_
          refine AW.goto (tg := 13) F dX8_betterBy_60 (by decide) ?_
          exact ih _ _ hb

theorem p8_betterBy_69 (x1 x2 x3 : Int) {h : HP} {Q : Int → Prop} (hb : p8_betterBy x1 x2 x3 h Q) : MT yX8_betterBy cX8_betterBy 6 (some .int) 4 [vR 69, vI x1, vI x2, vI x3] h (QP h Q) := by
  refine MT.of (own := RX8) (by decide) rfl (Nat.le_of_ble_eq_true rfl) rfl (fun X F G => ?_)
  unfold p8_betterBy at hb
  refine AW.iconst (pn := 1) F dX8_betterBy_0 rfl ?_
  refine AW.aload_n (pn := 2) F dX8_betterBy_1 rfl rfl rfl ?_
  refine AW.getR (r := 74) (pn := 5) F dX8_betterBy_2 rfl gl_X8_22 so_69 rfl ?_
  refine AW.iload_n (pn := 6) F dX8_betterBy_5 rfl rfl rfl ?_
  refine AW.iald (pn := 7) F dX8_betterBy_6 rfl so_74 hb (fun v1 hb => ?_)
  refine AW.ishl (pn := 8) F dX8_betterBy_7 rfl ?_
  refine AW.istore (ls2 := [some (vR 69), some (vI x1), some (vI x2), some (vI x3), some (vI (sl 1 v1)), none]) (pn := 10) F dX8_betterBy_8 rfl (by decide) rfl rfl ?_
  refine AW.iconst (pn := 11) F dX8_betterBy_10 rfl ?_
  refine AW.istore (ls2 := [some (vR 69), some (vI x1), some (vI x2), some (vI x3), some (vI (sl 1 v1)), some (vI 0)]) (pn := 13) F dX8_betterBy_11 rfl (by decide) rfl rfl ?_
  refine AW.drop [true, true, false, true, true, true] rfl ?_
  refine p8_betterBy_L13_ok_69 F G (fun y4 hb => ?_) _ _ _ hb
  refine AW.aload_n (pn := 64) F dX8_betterBy_63 rfl rfl rfl ?_
  refine AW.iload_n (pn := 65) F dX8_betterBy_64 rfl rfl rfl ?_
  refine AW.iload (pn := 67) F dX8_betterBy_65 rfl rfl ?_
  refine AW.cVP (pn := 70) (st := []) F dX8_betterBy_67 rfl cl_X8_209 so_69 (p8_worthOf_69 x1 y4 hb) rfl rfl (Nat.le_of_ble_eq_true rfl) (by decide) (fun r5 hb => ?_)
  refine AW.aload_n (pn := 71) F dX8_betterBy_70 rfl rfl rfl ?_
  refine AW.iload_n (pn := 72) F dX8_betterBy_71 rfl rfl rfl ?_
  refine AW.cVP (pn := 75) (st := [vI r5]) F dX8_betterBy_72 rfl cl_X8_223 so_69 (p8_wealthOf_69 x1 hb) rfl rfl (Nat.le_of_ble_eq_true rfl) (by decide) (fun r6 hb => ?_)
  refine AW.isub (pn := 76) F dX8_betterBy_75 rfl ?_
  exact AW.iret F G dX8_betterBy_76 ⟨rfl, _, rfl, hb⟩

theorem p8_chain_L21_ok_69 {X : Cx} {x1 x2 : Int} {E55 : HP → Prop} {Q : Int → HP → Prop} (F : Fx X cX8_chain RX8 7 5) (G : Rx X (some .int) (QI Q)) (hE55 : ∀ (h : HP), E55 h → AW X 7 55 [some (vR 69), some (vI x1), some (vI x2), none, none, none, none] [] h) : ∀ (n : Nat) (h : HP) (x3 : Int), p8_chain_L21 x1 x2 E55 n h x3 → AW X 7 21 [some (vR 69), some (vI x1), some (vI x2), some (vI x3), none, none, none] [] h := by
  intro n
  induction n with
  | zero => intro _ _ hb; exact hb.elim
  | succ n ih =>
    intro h x3 hb
    unfold p8_chain_L21 at hb
    refine AW.iload_n (pn := 22) F dX8_chain_21 rfl rfl rfl ?_
    refine AW.aload_n (pn := 23) F dX8_chain_22 rfl rfl rfl ?_
    refine AW.getI (pn := 26) F dX8_chain_23 rfl gl_X8_106 so_69 rfl ?_
    refine AW.icmp_ge (pn := 29) (tg := 55) F dX8_chain_26 rfl (by decide) hb (fun hb => ?_) (fun hb => ?_)
    · refine AW.drop [true, true, true, false, true, true, true] rfl ?_
      exact hE55 _ hb
    · refine AW.aload_n (pn := 30) F dX8_chain_29 rfl rfl rfl ?_
      refine AW.getR (r := 85) (pn := 33) F dX8_chain_30 rfl gl_X8_59 so_69 rfl ?_
      refine AW.iload_n (pn := 34) F dX8_chain_33 rfl rfl rfl ?_
      refine AW.aload_n (pn := 35) F dX8_chain_34 rfl rfl rfl ?_
      refine AW.getR (r := 75) (pn := 38) F dX8_chain_35 rfl gl_X8_25 so_69 rfl ?_
      refine AW.iload_n (pn := 39) F dX8_chain_38 rfl rfl rfl ?_
      refine AW.iald (pn := 40) F dX8_chain_39 rfl so_75 hb (fun v3 hb => ?_)
      refine jn_1 hb (fun (y5 : Int) => AW X 7 48 [some (vR 69), some (vI x1), some (vI x2), some (vI x3), none, none, none] [vI y5, vI x3, vR 85] h) (fun y5 hb => ?_) (fun K6 hK6 hb => ?_)
      · refine AW.iast (pn := 49) F dX8_chain_48 rfl so_85 hb (fun h7 hb => ?_)
        refine AW.iinc (ls2 := [some (vR 69), some (vI x1), some (vI x2), some (vI (x3 + 1)), none, none, none]) (pn := 52) F dX8_chain_49 rfl rfl (by decide) rfl rfl ?_
        refine AW.goto (tg := 21) F dX8_chain_52 (by decide) ?_
        exact ih _ _ hb
      refine AW.if_ge (pn := 43) (tg := 47) F dX8_chain_40 rfl (by decide) hb (fun hb => ?_) (fun hb => ?_)
      · refine AW.iconst (pn := 48) F dX8_chain_47 rfl ?_
        exact hK6 _ hb
      · refine AW.iconst (pn := 44) F dX8_chain_43 rfl ?_
        refine AW.goto (tg := 48) F dX8_chain_44 (by decide) ?_
        exact hK6 _ hb

theorem p8_chain_L68_ok_69 {X : Cx} {x1 x2 x3 : Int} {h : HP} {E117 : Prop} {Q : Int → HP → Prop} (F : Fx X cX8_chain RX8 7 5) (G : Rx X (some .int) (QI Q)) (hE117 : E117 → AW X 7 117 [some (vR 69), some (vI x1), some (vI x2), some (vI x3), none, none, none] [] h) : ∀ (n : Nat) (x4 : Int), p8_chain_L68 x1 x2 x3 h E117 Q n x4 → AW X 7 68 [some (vR 69), some (vI x1), some (vI x2), some (vI x3), some (vI x4), none, none] [] h := by
  intro n
  induction n with
  | zero => intro _ hb; exact hb.elim
  | succ n ih =>
    intro x4 hb
    unfold p8_chain_L68 at hb
    refine AW.iload (pn := 70) F dX8_chain_68 rfl rfl ?_
    refine AW.aload_n (pn := 71) F dX8_chain_70 rfl rfl rfl ?_
    refine AW.getI (pn := 74) F dX8_chain_71 rfl gl_X8_106 so_69 rfl ?_
    refine AW.icmp_ge (pn := 77) (tg := 117) F dX8_chain_74 rfl (by decide) hb (fun hb => ?_) (fun hb => ?_)
    · refine AW.drop [true, true, true, true, false, true, true] rfl ?_
      exact hE117 hb
    · refine AW.aload_n (pn := 78) F dX8_chain_77 rfl rfl rfl ?_
      refine AW.getR (r := 85) (pn := 81) F dX8_chain_78 rfl gl_X8_59 so_69 rfl ?_
      refine AW.iload (pn := 83) F dX8_chain_81 rfl rfl ?_
      refine AW.iald (pn := 84) F dX8_chain_83 rfl so_85 hb (fun v9 hb => ?_)
      refine AW.iload_n (pn := 85) F dX8_chain_84 rfl rfl rfl ?_
      refine AW.icmp_ne (pn := 88) (tg := 111) F dX8_chain_85 rfl (by decide) hb (fun hb => ?_) (fun hb => ?_)
      · refine AW.iinc (ls2 := [some (vR 69), some (vI x1), some (vI x2), some (vI x3), some (vI (x4 + 1)), none, none]) (pn := 114) F dX8_chain_111 rfl rfl (by decide) rfl rfl ?_
        refine AW.goto (tg := 68) F dX8_chain_114 (by decide) ?_
        exact ih _ hb
      · refine AW.aload_n (pn := 89) F dX8_chain_88 rfl rfl rfl ?_
        refine AW.getR (r := 74) (pn := 92) F dX8_chain_89 rfl gl_X8_22 so_69 rfl ?_
        refine AW.iload (pn := 94) F dX8_chain_92 rfl rfl ?_
        refine AW.iald (pn := 95) F dX8_chain_94 rfl so_74 hb (fun v10 hb => ?_)
        refine AW.iload_n (pn := 96) F dX8_chain_95 rfl rfl rfl ?_
        refine AW.icmp_ne (pn := 99) (tg := 111) F dX8_chain_96 rfl (by decide) hb (fun hb => ?_) (fun hb => ?_)
        · refine AW.iinc (ls2 := [some (vR 69), some (vI x1), some (vI x2), some (vI x3), some (vI (x4 + 1)), none, none]) (pn := 114) F dX8_chain_111 rfl rfl (by decide) rfl rfl ?_
          refine AW.goto (tg := 68) F dX8_chain_114 (by decide) ?_
          exact ih _ hb
        · refine AW.aload_n (pn := 100) F dX8_chain_99 rfl rfl rfl ?_
          refine AW.iload (pn := 102) F dX8_chain_100 rfl rfl ?_
          refine AW.cVP (pn := 105) (st := []) F dX8_chain_102 rfl cl_X8_288 so_69 (p8_fromOf_69 x4 hb) rfl rfl (Nat.le_of_ble_eq_true rfl) (by decide) (fun r11 hb => ?_)
          refine AW.iload_n (pn := 106) F dX8_chain_105 rfl rfl rfl ?_
          refine AW.icmp_eq (pn := 109) (tg := 111) F dX8_chain_106 rfl (by decide) hb (fun hb => ?_) (fun hb => ?_)
          · refine AW.iinc (ls2 := [some (vR 69), some (vI x1), some (vI x2), some (vI x3), some (vI (x4 + 1)), none, none]) (pn := 114) F dX8_chain_111 rfl rfl (by decide) rfl rfl ?_
            refine AW.goto (tg := 68) F dX8_chain_114 (by decide) ?_
            exact ih _ hb
          · refine AW.iload_n (pn := 110) F dX8_chain_109 rfl rfl rfl ?_
            exact AW.iret F G dX8_chain_110 ⟨_, rfl, hb⟩

theorem p8_chain_L132_ok_69 {X : Cx} {x1 x2 x3 x4 : Int} {E245 : HP → Prop} {Q : Int → HP → Prop} (F : Fx X cX8_chain RX8 7 5) (G : Rx X (some .int) (QI Q)) (hE245 : ∀ (h : HP), E245 h → AW X 7 245 [some (vR 69), some (vI x1), some (vI x2), some (vI x3), some (vI x4), none, none] [] h) : ∀ (n : Nat) (h : HP) (x5 : Int), p8_chain_L132 x1 x2 x3 x4 E245 n h x5 → AW X 7 132 [some (vR 69), some (vI x1), some (vI x2), some (vI x3), some (vI x4), some (vI x5), none] [] h := by
  intro n
  induction n with
  | zero => intro _ _ hb; exact hb.elim
  | succ n ih =>
    intro h x5 hb
    unfold p8_chain_L132 at hb
    refine AW.iload (pn := 134) F dX8_chain_132 rfl rfl ?_
    refine AW.aload_n (pn := 135) F dX8_chain_134 rfl rfl rfl ?_
    refine AW.getI (pn := 138) F dX8_chain_135 rfl gl_X8_106 so_69 rfl ?_
    refine AW.icmp_ge (pn := 141) (tg := 245) F dX8_chain_138 rfl (by decide) hb (fun hb => ?_) (fun hb => ?_)
    · refine AW.drop [true, true, true, true, true, false, true] rfl ?_
      exact hE245 _ hb
    · refine AW.aload_n (pn := 142) F dX8_chain_141 rfl rfl rfl ?_
      refine AW.getR (r := 85) (pn := 145) F dX8_chain_142 rfl gl_X8_59 so_69 rfl ?_
      refine AW.iload (pn := 147) F dX8_chain_145 rfl rfl ?_
      refine AW.iald (pn := 148) F dX8_chain_147 rfl so_85 hb (fun v12 hb => ?_)
      refine AW.iload_n (pn := 149) F dX8_chain_148 rfl rfl rfl ?_
      refine AW.icmp_ne (pn := 152) (tg := 245) F dX8_chain_149 rfl (by decide) hb (fun hb => ?_) (fun hb => ?_)
      · refine AW.drop [true, true, true, true, true, false, true] rfl ?_
        exact hE245 _ hb
      · refine AW.aload_n (pn := 153) F dX8_chain_152 rfl rfl rfl ?_
        refine AW.getR (r := 85) (pn := 156) F dX8_chain_153 rfl gl_X8_59 so_69 rfl ?_
        refine AW.iload (pn := 158) F dX8_chain_156 rfl rfl ?_
        refine AW.iald (pn := 159) F dX8_chain_158 rfl so_85 hb (fun v13 hb => ?_)
        refine jn_1 hb (fun (y20 : Int) => AW X 7 212 [some (vR 69), some (vI x1), some (vI x2), some (vI x3), some (vI x4), some (vI x5), none] [vI y20] h) (fun y20 hb => ?_) (fun K21 hK21 hb => ?_)
        · refine AW.istore (ls2 := [some (vR 69), some (vI x1), some (vI x2), some (vI x3), some (vI x4), some (vI x5), some (vI y20)]) (pn := 214) F dX8_chain_212 rfl (by decide) rfl rfl ?_
          refine AW.aload_n (pn := 215) F dX8_chain_214 rfl rfl rfl ?_
          refine AW.getR (r := 85) (pn := 218) F dX8_chain_215 rfl gl_X8_59 so_69 rfl ?_
          refine AW.iload (pn := 220) F dX8_chain_218 rfl rfl ?_
          refine AW.iload (pn := 222) F dX8_chain_220 rfl rfl ?_
          refine jn_1 hb (fun (y24 : Int) => AW X 7 238 [some (vR 69), some (vI x1), some (vI x2), some (vI x3), some (vI x4), some (vI x5), none] [vI y24, vI x5, vR 85] h) (fun y24 hb => ?_) (fun K25 hK25 hb => ?_)
          · refine AW.iast (pn := 239) F dX8_chain_238 rfl so_85 hb (fun h26 hb => ?_)
            refine AW.iinc (ls2 := [some (vR 69), some (vI x1), some (vI x2), some (vI x3), some (vI x4), some (vI (x5 + 1)), none]) (pn := 242) F dX8_chain_239 rfl rfl (by decide) rfl rfl ?_
            refine AW.goto (tg := 132) F dX8_chain_242 (by decide) ?_
            exact ih _ _ hb
          refine AW.if_eq (pn := 225) (tg := 231) F dX8_chain_222 rfl (by decide) hb (fun hb => ?_) (fun hb => ?_)
          · refine AW.aload_n (pn := 232) F dX8_chain_231 rfl rfl rfl ?_
            refine AW.getR (r := 85) (pn := 235) F dX8_chain_232 rfl gl_X8_59 so_69 rfl ?_
            refine AW.iload (pn := 237) F dX8_chain_235 rfl rfl ?_
            refine AW.iald (pn := 238) F dX8_chain_237 rfl so_85 hb (fun v27 hb => ?_)
            refine AW.drop [true, true, true, true, true, true, false] rfl ?_
            exact hK25 _ hb
          · refine AW.iload_n (pn := 226) F dX8_chain_225 rfl rfl rfl ?_
            refine AW.iconst (pn := 227) F dX8_chain_226 rfl ?_
            refine AW.iadd (pn := 228) F dX8_chain_227 rfl ?_
            refine AW.goto (tg := 238) F dX8_chain_228 (by decide) ?_
            refine AW.drop [true, true, true, true, true, true, false] rfl ?_
            exact hK25 _ hb
        refine jn_0 hb (AW X 7 211 [some (vR 69), some (vI x1), some (vI x2), some (vI x3), some (vI x4), some (vI x5), none] [] h) (fun  hb => ?_) (fun K28 hK28 hb => ?_)
        · refine AW.iconst (pn := 212) F dX8_chain_211 rfl ?_
          exact hK21 _ hb
        refine AW.if_ge (pn := 162) (tg := 211) F dX8_chain_159 rfl (by decide) hb (fun hb => ?_) (fun hb => ?_)
        · exact hK28 hb
        · refine AW.aload_n (pn := 163) F dX8_chain_162 rfl rfl rfl ?_
          refine AW.getR (r := 75) (pn := 166) F dX8_chain_163 rfl gl_X8_25 so_69 rfl ?_
          refine AW.iload (pn := 168) F dX8_chain_166 rfl rfl ?_
          refine AW.iald (pn := 169) F dX8_chain_168 rfl so_75 hb (fun v29 hb => ?_)
          refine AW.iload_n (pn := 170) F dX8_chain_169 rfl rfl rfl ?_
          refine AW.icmp_eq (pn := 173) (tg := 211) F dX8_chain_170 rfl (by decide) hb (fun hb => ?_) (fun hb => ?_)
          · exact hK28 hb
          · refine AW.aload_n (pn := 174) F dX8_chain_173 rfl rfl rfl ?_
            refine AW.getR (r := 75) (pn := 177) F dX8_chain_174 rfl gl_X8_25 so_69 rfl ?_
            refine AW.iload (pn := 179) F dX8_chain_177 rfl rfl ?_
            refine AW.iald (pn := 180) F dX8_chain_179 rfl so_75 hb (fun v30 hb => ?_)
            refine AW.aload_n (pn := 181) F dX8_chain_180 rfl rfl rfl ?_
            refine AW.iload (pn := 183) F dX8_chain_181 rfl rfl ?_
            refine AW.cVP (pn := 186) (st := [vI v30]) F dX8_chain_183 rfl cl_X8_288 so_69 (p8_fromOf_69 x4 hb) rfl rfl (Nat.le_of_ble_eq_true rfl) (by decide) (fun r31 hb => ?_)
            refine AW.icmp_eq (pn := 189) (tg := 211) F dX8_chain_186 rfl (by decide) hb (fun hb => ?_) (fun hb => ?_)
            · exact hK28 hb
            · refine AW.aload_n (pn := 190) F dX8_chain_189 rfl rfl rfl ?_
              refine AW.aload_n (pn := 191) F dX8_chain_190 rfl rfl rfl ?_
              refine AW.getR (r := 75) (pn := 194) F dX8_chain_191 rfl gl_X8_25 so_69 rfl ?_
              refine AW.iload (pn := 196) F dX8_chain_194 rfl rfl ?_
              refine AW.iald (pn := 197) F dX8_chain_196 rfl so_75 hb (fun v32 hb => ?_)
              refine AW.iload (pn := 199) F dX8_chain_197 rfl rfl ?_
              refine AW.iload (pn := 201) F dX8_chain_199 rfl rfl ?_
              refine AW.cVP (pn := 204) (st := []) F dX8_chain_201 rfl cl_X8_291 so_69 (p8_betterBy_69 v32 x4 x5 hb) rfl rfl (Nat.le_of_ble_eq_true rfl) (by decide) (fun r33 hb => ?_)
              refine AW.if_le (pn := 207) (tg := 211) F dX8_chain_204 rfl (by decide) hb (fun hb => ?_) (fun hb => ?_)
              · exact hK28 hb
              · refine AW.iconst (pn := 208) F dX8_chain_207 rfl ?_
                refine AW.goto (tg := 212) F dX8_chain_208 (by decide) ?_
                exact hK21 _ hb

theorem p8_chain_L120_ok_69 {X : Cx} {x1 x2 x3 : Int} {E251 : HP → Prop} {Q : Int → HP → Prop} (F : Fx X cX8_chain RX8 7 5) (G : Rx X (some .int) (QI Q)) (hE251 : ∀ (h : HP), E251 h → AW X 7 251 [some (vR 69), some (vI x1), some (vI x2), some (vI x3), none, none, none] [] h) : ∀ (n : Nat) (h : HP) (x4 : Int), p8_chain_L120 x1 x2 x3 E251 n h x4 → AW X 7 120 [some (vR 69), some (vI x1), some (vI x2), some (vI x3), some (vI x4), none, none] [] h := by
  intro n
  induction n with
  | zero => intro _ _ hb; exact hb.elim
  | succ n ih =>
    intro h x4 hb
    unfold p8_chain_L120 at hb
    refine AW.iload (pn := 122) F dX8_chain_120 rfl rfl ?_
    refine AW.aload_n (pn := 123) F dX8_chain_122 rfl rfl rfl ?_
    refine AW.getI (pn := 126) F dX8_chain_123 rfl gl_X8_106 so_69 rfl ?_
    refine AW.icmp_ge (pn := 129) (tg := 251) F dX8_chain_126 rfl (by decide) hb (fun hb => ?_) (fun hb => ?_)
    · refine AW.drop [true, true, true, true, false, true, true] rfl ?_
      exact hE251 _ hb
    · refine AW.iconst (pn := 130) F dX8_chain_129 rfl ?_
      refine AW.istore (ls2 := [some (vR 69), some (vI x1), some (vI x2), some (vI x3), some (vI x4), some (vI 0), none]) (pn := 132) F dX8_chain_130 rfl (by decide) rfl rfl ?_
      refine p8_chain_L132_ok_69 F G (fun h34 hb => ?_) _ _ _ hb
      refine AW.iinc (ls2 := [some (vR 69), some (vI x1), some (vI x2), some (vI x3), some (vI (x4 + 1)), none, none]) (pn := 248) F dX8_chain_245 rfl rfl (by decide) rfl rfl ?_
      refine AW.goto (tg := 120) F dX8_chain_248 (by decide) ?_
      exact ih _ _ hb

theorem p8_chain_L57_ok_69 {X : Cx} {x1 x2 : Int} {Q : Int → HP → Prop} (F : Fx X cX8_chain RX8 7 5) (G : Rx X (some .int) (QI Q))  : ∀ (n : Nat) (h : HP) (x3 : Int), p8_chain_L57 x1 x2 Q n h x3 → AW X 7 57 [some (vR 69), some (vI x1), some (vI x2), some (vI x3), none, none, none] [] h := by
  intro n
  induction n with
  | zero => intro _ _ hb; exact hb.elim
  | succ n ih =>
    intro h x3 hb
    unfold p8_chain_L57 at hb
    refine AW.iload_n (pn := 58) F dX8_chain_57 rfl rfl rfl ?_
    refine AW.aload_n (pn := 59) F dX8_chain_58 rfl rfl rfl ?_
    refine AW.getI (pn := 62) F dX8_chain_59 rfl gl_X8_106 so_69 rfl ?_
    refine AW.icmp_gt (pn := 65) (tg := 257) F dX8_chain_62 rfl (by decide) hb (fun hb => ?_) (fun hb => ?_)
    · refine AW.iconst (pn := 258) F dX8_chain_257 rfl ?_
      exact AW.iret F G dX8_chain_258 ⟨_, rfl, hb⟩
    · refine AW.iconst (pn := 66) F dX8_chain_65 rfl ?_
      refine AW.istore (ls2 := [some (vR 69), some (vI x1), some (vI x2), some (vI x3), some (vI 0), none, none]) (pn := 68) F dX8_chain_66 rfl (by decide) rfl rfl ?_
      refine p8_chain_L68_ok_69 F G (fun hb => ?_) _ _ hb
      refine AW.iconst (pn := 118) F dX8_chain_117 rfl ?_
      refine AW.istore (ls2 := [some (vR 69), some (vI x1), some (vI x2), some (vI x3), some (vI 0), none, none]) (pn := 120) F dX8_chain_118 rfl (by decide) rfl rfl ?_
      refine p8_chain_L120_ok_69 F G (fun h35 hb => ?_) _ _ _ hb
      refine AW.iinc (ls2 := [some (vR 69), some (vI x1), some (vI x2), some (vI (x3 + 1)), none, none, none]) (pn := 254) F dX8_chain_251 rfl rfl (by decide) rfl rfl ?_
      refine AW.goto (tg := 57) F dX8_chain_254 (by decide) ?_
      exact ih _ _ hb

theorem p8_chain_69 (x1 x2 : Int) {h : HP} {Q : Int → HP → Prop} (hb : p8_chain x1 x2 h Q) : MT yX8_chain cX8_chain 7 (some .int) 5 [vR 69, vI x1, vI x2] h (QI Q) := by
  refine MT.of (own := RX8) (by decide) rfl (Nat.le_of_ble_eq_true rfl) rfl (fun X F G => ?_)
  unfold p8_chain at hb
  refine AW.aload_n (pn := 1) F dX8_chain_0 rfl rfl rfl ?_
  refine AW.iload_n (pn := 2) F dX8_chain_1 rfl rfl rfl ?_
  refine AW.cVP (pn := 5) (st := []) F dX8_chain_2 rfl cl_X8_218 so_69 (p8_isHouse_69 x1 hb) rfl rfl (Nat.le_of_ble_eq_true rfl) (by decide) (fun r1 hb => ?_)
  refine AW.if_eq (pn := 8) (tg := 16) F dX8_chain_5 rfl (by decide) hb (fun hb => ?_) (fun hb => ?_)
  · refine AW.ldc (x := (-1000000001)) (pn := 18) F dX8_chain_16 rfl tw_1009 (by decide) ?_
    exact AW.iret F G dX8_chain_18 ⟨_, rfl, hb⟩
  · refine AW.aload_n (pn := 9) F dX8_chain_8 rfl rfl rfl ?_
    refine AW.iload_n (pn := 10) F dX8_chain_9 rfl rfl rfl ?_
    refine AW.cVP (pn := 13) (st := []) F dX8_chain_10 rfl cl_X8_229 so_69 (p8_isSort_69 x2 hb) rfl rfl (Nat.le_of_ble_eq_true rfl) (by decide) (fun r2 hb => ?_)
    refine AW.if_ne (pn := 16) (tg := 19) F dX8_chain_13 rfl (by decide) hb (fun hb => ?_) (fun hb => ?_)
    · refine AW.iconst (pn := 20) F dX8_chain_19 rfl ?_
      refine AW.istore_n (ls2 := [some (vR 69), some (vI x1), some (vI x2), some (vI 0), none, none, none]) (pn := 21) F dX8_chain_20 rfl rfl (by decide) rfl rfl ?_
      refine p8_chain_L21_ok_69 F G (fun h8 hb => ?_) _ _ _ hb
      refine AW.iconst (pn := 56) F dX8_chain_55 rfl ?_
      refine AW.istore_n (ls2 := [some (vR 69), some (vI x1), some (vI x2), some (vI 0), none, none, none]) (pn := 57) F dX8_chain_56 rfl rfl (by decide) rfl rfl ?_
      refine p8_chain_L57_ok_69 F G  _ _ _ hb
    · refine AW.ldc (x := (-1000000001)) (pn := 18) F dX8_chain_16 rfl tw_1009 (by decide) ?_
      exact AW.iret F G dX8_chain_18 ⟨_, rfl, hb⟩

theorem p8_areRings_L18_ok_69 {X : Cx} {E152 : HP → Int → Int → Int → Prop} {Q : Int → HP → Prop} (F : Fx X cX8_areRings RX8 7 2) (G : Rx X (some .boolean) (QI Q)) (hE152 : ∀ (h : HP) (x3 : Int) (x4 : Int) (x5 : Int), E152 h x3 x4 x5 → AW X 7 152 [none, none, none, some (vI x3), some (vI x4), some (vI x5), none] [] h) : ∀ (n : Nat) (h : HP) (x2 : Int) (x3 : Int) (x4 : Int) (x5 : Int) (x6 : Int), p8_areRings_L18 E152 n h x2 x3 x4 x5 x6 → AW X 7 18 [some (vR 69), none, some (vI x2), some (vI x3), some (vI x4), some (vI x5), some (vI x6)] [] h := by
  intro n
  induction n with
  | zero => intro _ _ _ _ _ _ hb; exact hb.elim
  | succ n ih =>
    intro h x2 x3 x4 x5 x6 hb
    unfold p8_areRings_L18 at hb
    refine AW.iload (pn := 20) F dX8_areRings_18 rfl rfl ?_
    refine AW.if_lt (pn := 23) (tg := 152) F dX8_areRings_20 rfl (by decide) hb (fun hb => ?_) (fun hb => ?_)
    · refine AW.drop [false, true, false, true, true, true, false] rfl ?_
      exact hE152 _ _ _ _ hb
    · refine AW.aload_n (pn := 24) F dX8_areRings_23 rfl rfl rfl ?_
      refine AW.getR (r := 86) (pn := 27) F dX8_areRings_24 rfl gl_X8_62 so_69 rfl ?_
      refine AW.iload (pn := 29) F dX8_areRings_27 rfl rfl ?_
      refine AW.iload_n (pn := 30) F dX8_areRings_29 rfl rfl rfl ?_
      refine AW.aload_n (pn := 31) F dX8_areRings_30 rfl rfl rfl ?_
      refine AW.getI (pn := 34) F dX8_areRings_31 rfl gl_X8_99 so_69 rfl ?_
      refine AW.iconst (pn := 35) F dX8_areRings_34 rfl ?_
      refine AW.iadd (pn := 36) F dX8_areRings_35 rfl ?_
      refine AW.irem (pn := 37) F dX8_areRings_36 rfl hb.1 ?_
      replace hb := hb.2
      refine AW.iconst (pn := 38) F dX8_areRings_37 rfl ?_
      refine AW.isub (pn := 39) F dX8_areRings_38 rfl ?_
      refine AW.iast (pn := 40) F dX8_areRings_39 rfl so_86 hb (fun h1 hb => ?_)
      refine AW.iload_n (pn := 41) F dX8_areRings_40 rfl rfl rfl ?_
      refine AW.aload_n (pn := 42) F dX8_areRings_41 rfl rfl rfl ?_
      refine AW.getI (pn := 45) F dX8_areRings_42 rfl gl_X8_99 so_69 rfl ?_
      refine AW.iconst (pn := 46) F dX8_areRings_45 rfl ?_
      refine AW.iadd (pn := 47) F dX8_areRings_46 rfl ?_
      refine AW.idiv (pn := 48) F dX8_areRings_47 rfl hb.1 ?_
      replace hb := hb.2
      refine AW.istore_n (ls2 := [some (vR 69), none, some (vI (qd x2 ((h1 69 1) + 1))), some (vI x3), some (vI x4), some (vI x5), some (vI x6)]) (pn := 49) F dX8_areRings_48 rfl rfl (by decide) rfl rfl ?_
      refine AW.iload (pn := 51) F dX8_areRings_49 rfl rfl ?_
      refine jn_1 hb (fun (y10 : Int) => AW X 7 95 [some (vR 69), none, some (vI (qd x2 ((h1 69 1) + 1))), some (vI x3), some (vI x4), none, some (vI x6)] [vI y10] h1) (fun y10 hb => ?_) (fun K11 hK11 hb => ?_)
      · refine AW.istore (ls2 := [some (vR 69), none, some (vI (qd x2 ((h1 69 1) + 1))), some (vI x3), some (vI x4), some (vI y10), some (vI x6)]) (pn := 97) F dX8_areRings_95 rfl (by decide) rfl rfl ?_
        refine AW.iload_n (pn := 98) F dX8_areRings_97 rfl rfl rfl ?_
        refine AW.aload_n (pn := 99) F dX8_areRings_98 rfl rfl rfl ?_
        refine AW.getR (r := 86) (pn := 102) F dX8_areRings_99 rfl gl_X8_62 so_69 rfl ?_
        refine AW.iload (pn := 104) F dX8_areRings_102 rfl rfl ?_
        refine AW.iald (pn := 105) F dX8_areRings_104 rfl so_86 hb (fun v12 hb => ?_)
        refine jn_1 hb (fun (y15 : Int) => AW X 7 121 [some (vR 69), none, some (vI (qd x2 ((h1 69 1) + 1))), none, some (vI x4), some (vI y10), some (vI x6)] [vI y15, vI x3] h1) (fun y15 hb => ?_) (fun K16 hK16 hb => ?_)
        · refine AW.ior (pn := 122) F dX8_areRings_121 rfl ?_
          refine AW.istore_n (ls2 := [some (vR 69), none, some (vI (qd x2 ((h1 69 1) + 1))), some (vI (io x3 y15)), some (vI x4), some (vI y10), some (vI x6)]) (pn := 123) F dX8_areRings_122 rfl rfl (by decide) rfl rfl ?_
          refine AW.iload (pn := 125) F dX8_areRings_123 rfl rfl ?_
          refine AW.aload_n (pn := 126) F dX8_areRings_125 rfl rfl rfl ?_
          refine AW.getR (r := 86) (pn := 129) F dX8_areRings_126 rfl gl_X8_62 so_69 rfl ?_
          refine AW.iload (pn := 131) F dX8_areRings_129 rfl rfl ?_
          refine AW.iald (pn := 132) F dX8_areRings_131 rfl so_86 hb (fun v17 hb => ?_)
          refine AW.if_ge (pn := 135) (tg := 139) F dX8_areRings_132 rfl (by decide) hb (fun hb => ?_) (fun hb => ?_)
          · refine AW.iconst (pn := 140) F dX8_areRings_139 rfl ?_
            refine AW.iload (pn := 142) F dX8_areRings_140 rfl rfl ?_
            refine AW.ishl (pn := 143) F dX8_areRings_142 rfl ?_
            refine AW.ior (pn := 144) F dX8_areRings_143 rfl ?_
            refine AW.istore (ls2 := [some (vR 69), none, some (vI (qd x2 ((h1 69 1) + 1))), some (vI (io x3 y15)), some (vI (io x4 (sl 1 x6))), some (vI y10), some (vI x6)]) (pn := 146) F dX8_areRings_144 rfl (by decide) rfl rfl ?_
            refine AW.iinc (ls2 := [some (vR 69), none, some (vI (qd x2 ((h1 69 1) + 1))), some (vI (io x3 y15)), some (vI (io x4 (sl 1 x6))), some (vI y10), some (vI (x6 + (-1)))]) (pn := 149) F dX8_areRings_146 rfl rfl (by decide) rfl rfl ?_
            refine AW.goto (tg := 18) F dX8_areRings_149 (by decide) ?_
            exact ih _ _ _ _ _ _ hb
          · refine AW.iconst (pn := 136) F dX8_areRings_135 rfl ?_
            refine AW.goto (tg := 143) F dX8_areRings_136 (by decide) ?_
            refine AW.ior (pn := 144) F dX8_areRings_143 rfl ?_
            refine AW.istore (ls2 := [some (vR 69), none, some (vI (qd x2 ((h1 69 1) + 1))), some (vI (io x3 y15)), some (vI (io x4 0)), some (vI y10), some (vI x6)]) (pn := 146) F dX8_areRings_144 rfl (by decide) rfl rfl ?_
            refine AW.iinc (ls2 := [some (vR 69), none, some (vI (qd x2 ((h1 69 1) + 1))), some (vI (io x3 y15)), some (vI (io x4 0)), some (vI y10), some (vI (x6 + (-1)))]) (pn := 149) F dX8_areRings_146 rfl rfl (by decide) rfl rfl ?_
            refine AW.goto (tg := 18) F dX8_areRings_149 (by decide) ?_
            exact ih _ _ _ _ _ _ hb
        refine AW.if_ge (pn := 108) (tg := 112) F dX8_areRings_105 rfl (by decide) hb (fun hb => ?_) (fun hb => ?_)
        · refine AW.iconst (pn := 113) F dX8_areRings_112 rfl ?_
          refine AW.aload_n (pn := 114) F dX8_areRings_113 rfl rfl rfl ?_
          refine AW.getR (r := 86) (pn := 117) F dX8_areRings_114 rfl gl_X8_62 so_69 rfl ?_
          refine AW.iload (pn := 119) F dX8_areRings_117 rfl rfl ?_
          refine AW.iald (pn := 120) F dX8_areRings_119 rfl so_86 hb (fun v18 hb => ?_)
          refine AW.ishl (pn := 121) F dX8_areRings_120 rfl ?_
          refine AW.drop [true, true, true, false, true, true, true] rfl ?_
          exact hK16 _ hb
        · refine AW.iconst (pn := 109) F dX8_areRings_108 rfl ?_
          refine AW.goto (tg := 121) F dX8_areRings_109 (by decide) ?_
          refine AW.drop [true, true, true, false, true, true, true] rfl ?_
          exact hK16 _ hb
      refine jn_0 hb (AW X 7 94 [some (vR 69), none, some (vI (qd x2 ((h1 69 1) + 1))), some (vI x3), some (vI x4), none, some (vI x6)] [] h1) (fun  hb => ?_) (fun K19 hK19 hb => ?_)
      · refine AW.iconst (pn := 95) F dX8_areRings_94 rfl ?_
        exact hK11 _ hb
      refine AW.if_eq (pn := 54) (tg := 94) F dX8_areRings_51 rfl (by decide) hb (fun hb => ?_) (fun hb => ?_)
      · refine AW.drop [true, true, true, true, true, false, true] rfl ?_
        exact hK19 hb
      · refine AW.aload_n (pn := 55) F dX8_areRings_54 rfl rfl rfl ?_
        refine AW.getR (r := 86) (pn := 58) F dX8_areRings_55 rfl gl_X8_62 so_69 rfl ?_
        refine AW.iload (pn := 60) F dX8_areRings_58 rfl rfl ?_
        refine AW.iald (pn := 61) F dX8_areRings_60 rfl so_86 hb (fun v20 hb => ?_)
        refine AW.iload (pn := 63) F dX8_areRings_61 rfl rfl ?_
        refine AW.icmp_eq (pn := 66) (tg := 94) F dX8_areRings_63 rfl (by decide) hb (fun hb => ?_) (fun hb => ?_)
        · refine AW.drop [true, true, true, true, true, false, true] rfl ?_
          exact hK19 hb
        · refine AW.aload_n (pn := 67) F dX8_areRings_66 rfl rfl rfl ?_
          refine AW.getR (r := 86) (pn := 70) F dX8_areRings_67 rfl gl_X8_62 so_69 rfl ?_
          refine AW.iload (pn := 72) F dX8_areRings_70 rfl rfl ?_
          refine AW.iald (pn := 73) F dX8_areRings_72 rfl so_86 hb (fun v21 hb => ?_)
          refine jn_0 hb (AW X 7 90 [some (vR 69), none, some (vI (qd x2 ((h1 69 1) + 1))), some (vI x3), some (vI x4), none, some (vI x6)] [] h1) (fun  hb => ?_) (fun K24 hK24 hb => ?_)
          · refine AW.iconst (pn := 91) F dX8_areRings_90 rfl ?_
            refine AW.goto (tg := 95) F dX8_areRings_91 (by decide) ?_
            exact hK11 _ hb
          refine AW.if_lt (pn := 76) (tg := 90) F dX8_areRings_73 rfl (by decide) hb (fun hb => ?_) (fun hb => ?_)
          · refine AW.drop [true, true, true, true, true, false, true] rfl ?_
            exact hK24 hb
          · refine AW.iload_n (pn := 77) F dX8_areRings_76 rfl rfl rfl ?_
            refine AW.aload_n (pn := 78) F dX8_areRings_77 rfl rfl rfl ?_
            refine AW.getR (r := 86) (pn := 81) F dX8_areRings_78 rfl gl_X8_62 so_69 rfl ?_
            refine AW.iload (pn := 83) F dX8_areRings_81 rfl rfl ?_
            refine AW.iald (pn := 84) F dX8_areRings_83 rfl so_86 hb (fun v25 hb => ?_)
            refine AW.cSP (pn := 87) (st := []) F dX8_areRings_84 rfl cl_X8_201 (p8_has_s x3 v25 hb) rfl rfl (Nat.le_of_ble_eq_true rfl) (by decide) (fun r26 hb => ?_)
            refine AW.if_ne (pn := 90) (tg := 94) F dX8_areRings_87 rfl (by decide) hb (fun hb => ?_) (fun hb => ?_)
            · refine AW.drop [true, true, true, true, true, false, true] rfl ?_
              exact hK19 hb
            · refine AW.drop [true, true, true, true, true, false, true] rfl ?_
              exact hK24 hb

theorem p8_areRings_69 (x1 : Int) {h : HP} {Q : Int → HP → Prop} (hb : p8_areRings x1 h Q) : MT yX8_areRings cX8_areRings 7 (some .boolean) 2 [vR 69, vI x1] h (QI Q) := by
  refine MT.of (own := RX8) (by decide) rfl (Nat.le_of_ble_eq_true rfl) rfl (fun X F G => ?_)
  unfold p8_areRings at hb
  refine AW.iload_n (pn := 1) F dX8_areRings_0 rfl rfl rfl ?_
  refine AW.istore_n (ls2 := [some (vR 69), some (vI x1), some (vI x1), none, none, none, none]) (pn := 2) F dX8_areRings_1 rfl rfl (by decide) rfl rfl ?_
  refine AW.iconst (pn := 3) F dX8_areRings_2 rfl ?_
  refine AW.istore_n (ls2 := [some (vR 69), some (vI x1), some (vI x1), some (vI 0), none, none, none]) (pn := 4) F dX8_areRings_3 rfl rfl (by decide) rfl rfl ?_
  refine AW.iconst (pn := 5) F dX8_areRings_4 rfl ?_
  refine AW.istore (ls2 := [some (vR 69), some (vI x1), some (vI x1), some (vI 0), some (vI 0), none, none]) (pn := 7) F dX8_areRings_5 rfl (by decide) rfl rfl ?_
  refine AW.iconst (pn := 8) F dX8_areRings_7 rfl ?_
  refine AW.istore (ls2 := [some (vR 69), some (vI x1), some (vI x1), some (vI 0), some (vI 0), some (vI 1), none]) (pn := 10) F dX8_areRings_8 rfl (by decide) rfl rfl ?_
  refine AW.aload_n (pn := 11) F dX8_areRings_10 rfl rfl rfl ?_
  refine AW.getI (pn := 14) F dX8_areRings_11 rfl gl_X8_99 so_69 rfl ?_
  refine AW.iconst (pn := 15) F dX8_areRings_14 rfl ?_
  refine AW.isub (pn := 16) F dX8_areRings_15 rfl ?_
  refine AW.istore (ls2 := [some (vR 69), some (vI x1), some (vI x1), some (vI 0), some (vI 0), some (vI 1), some (vI ((h 69 1) - 1))]) (pn := 18) F dX8_areRings_16 rfl (by decide) rfl rfl ?_
  refine AW.drop [true, false, true, true, true, true, true] rfl ?_
  refine p8_areRings_L18_ok_69 F G (fun h27 y28 y29 y30 hb => ?_) _ _ _ _ _ _ _ hb
  refine AW.iload (pn := 154) F dX8_areRings_152 rfl rfl ?_
  refine AW.if_eq (pn := 157) (tg := 167) F dX8_areRings_154 rfl (by decide) hb (fun hb => ?_) (fun hb => ?_)
  · refine AW.iconst (pn := 168) F dX8_areRings_167 rfl ?_
    exact AW.zret F G dX8_areRings_168 (by decide) ⟨_, rfl, hb⟩
  · refine AW.iload_n (pn := 158) F dX8_areRings_157 rfl rfl rfl ?_
    refine AW.iload (pn := 160) F dX8_areRings_158 rfl rfl ?_
    refine AW.icmp_ne (pn := 163) (tg := 167) F dX8_areRings_160 rfl (by decide) hb (fun hb => ?_) (fun hb => ?_)
    · refine AW.iconst (pn := 168) F dX8_areRings_167 rfl ?_
      exact AW.zret F G dX8_areRings_168 (by decide) ⟨_, rfl, hb⟩
    · refine AW.iconst (pn := 164) F dX8_areRings_163 rfl ?_
      refine AW.goto (tg := 168) F dX8_areRings_164 (by decide) ?_
      exact AW.zret F G dX8_areRings_168 (by decide) ⟨_, rfl, hb⟩

theorem p8_partOf_L5_ok_69 {X : Cx} {x1 x2 : Int} {h : HP} {Q : Int → Prop} (F : Fx X cX8_partOf RX8 5 1) (G : Rx X (some .int) (QP h Q))  : ∀ (n : Nat) (x3 : Int) (x4 : Int), p8_partOf_L5 x1 x2 h Q n x3 x4 → AW X 5 5 [some (vR 69), some (vI x1), some (vI x2), some (vI x3), some (vI x4)] [] h := by
  intro n
  induction n with
  | zero => intro _ _ hb; exact hb.elim
  | succ n ih =>
    intro x3 x4 hb
    unfold p8_partOf_L5 at hb
    refine AW.iload (pn := 7) F dX8_partOf_5 rfl rfl ?_
    refine AW.aload_n (pn := 8) F dX8_partOf_7 rfl rfl rfl ?_
    refine AW.getI (pn := 11) F dX8_partOf_8 rfl gl_X8_106 so_69 rfl ?_
    refine AW.icmp_ge (pn := 14) (tg := 42) F dX8_partOf_11 rfl (by decide) hb (fun hb => ?_) (fun hb => ?_)
    · refine AW.iconst (pn := 43) F dX8_partOf_42 rfl ?_
      exact AW.iret F G dX8_partOf_43 ⟨rfl, _, rfl, hb⟩
    · refine AW.aload_n (pn := 15) F dX8_partOf_14 rfl rfl rfl ?_
      refine AW.getR (r := 75) (pn := 18) F dX8_partOf_15 rfl gl_X8_25 so_69 rfl ?_
      refine AW.iload (pn := 20) F dX8_partOf_18 rfl rfl ?_
      refine AW.iald (pn := 21) F dX8_partOf_20 rfl so_75 hb (fun v1 hb => ?_)
      refine AW.iload_n (pn := 22) F dX8_partOf_21 rfl rfl rfl ?_
      refine AW.icmp_ne (pn := 25) (tg := 36) F dX8_partOf_22 rfl (by decide) hb (fun hb => ?_) (fun hb => ?_)
      · refine AW.iinc (ls2 := [some (vR 69), some (vI x1), some (vI x2), some (vI x3), some (vI (x4 + 1))]) (pn := 39) F dX8_partOf_36 rfl rfl (by decide) rfl rfl ?_
        refine AW.goto (tg := 5) F dX8_partOf_39 (by decide) ?_
        exact ih _ _ hb
      · refine AW.iload_n (pn := 26) F dX8_partOf_25 rfl rfl rfl ?_
        refine AW.iload_n (pn := 27) F dX8_partOf_26 rfl rfl rfl ?_
        refine AW.icmp_ne (pn := 30) (tg := 33) F dX8_partOf_27 rfl (by decide) hb (fun hb => ?_) (fun hb => ?_)
        · refine AW.iinc (ls2 := [some (vR 69), some (vI x1), some (vI x2), some (vI (x3 + 1)), some (vI x4)]) (pn := 36) F dX8_partOf_33 rfl rfl (by decide) rfl rfl ?_
          refine AW.iinc (ls2 := [some (vR 69), some (vI x1), some (vI x2), some (vI (x3 + 1)), some (vI (x4 + 1))]) (pn := 39) F dX8_partOf_36 rfl rfl (by decide) rfl rfl ?_
          refine AW.goto (tg := 5) F dX8_partOf_39 (by decide) ?_
          exact ih _ _ hb
        · refine AW.iload (pn := 32) F dX8_partOf_30 rfl rfl ?_
          exact AW.iret F G dX8_partOf_32 ⟨rfl, _, rfl, hb⟩

theorem p8_partOf_69 (x1 x2 : Int) {h : HP} {Q : Int → Prop} (hb : p8_partOf x1 x2 h Q) : MT yX8_partOf cX8_partOf 5 (some .int) 1 [vR 69, vI x1, vI x2] h (QP h Q) := by
  refine MT.of (own := RX8) (by decide) rfl (Nat.le_of_ble_eq_true rfl) rfl (fun X F G => ?_)
  unfold p8_partOf at hb
  refine AW.iconst (pn := 1) F dX8_partOf_0 rfl ?_
  refine AW.istore_n (ls2 := [some (vR 69), some (vI x1), some (vI x2), some (vI 0), none]) (pn := 2) F dX8_partOf_1 rfl rfl (by decide) rfl rfl ?_
  refine AW.iconst (pn := 3) F dX8_partOf_2 rfl ?_
  refine AW.istore (ls2 := [some (vR 69), some (vI x1), some (vI x2), some (vI 0), some (vI 0)]) (pn := 5) F dX8_partOf_3 rfl (by decide) rfl rfl ?_
  refine p8_partOf_L5_ok_69 F G  _ _ _ hb

theorem p8_areThrown_L12_ok_69 {X : Cx} {Q : Int → HP → Prop} (F : Fx X cX8_areThrown RX8 5 2) (G : Rx X (some .boolean) (QI Q))  : ∀ (n : Nat) (h : HP) (x2 : Int) (x3 : Int) (x4 : Int), p8_areThrown_L12 Q n h x2 x3 x4 → AW X 5 12 [some (vR 69), none, some (vI x2), some (vI x3), some (vI x4)] [] h := by
  intro n
  induction n with
  | zero => intro _ _ _ _ hb; exact hb.elim
  | succ n ih =>
    intro h x2 x3 x4 hb
    unfold p8_areThrown_L12 at hb
    refine AW.iload (pn := 14) F dX8_areThrown_12 rfl rfl ?_
    refine AW.if_lt (pn := 17) (tg := 81) F dX8_areThrown_14 rfl (by decide) hb (fun hb => ?_) (fun hb => ?_)
    · refine AW.iload_n (pn := 82) F dX8_areThrown_81 rfl rfl rfl ?_
      exact AW.zret F G dX8_areThrown_82 hb.1 ⟨_, rfl, hb.2⟩
    · refine AW.aload_n (pn := 18) F dX8_areThrown_17 rfl rfl rfl ?_
      refine AW.getR (r := 87) (pn := 21) F dX8_areThrown_18 rfl gl_X8_65 so_69 rfl ?_
      refine AW.iload (pn := 23) F dX8_areThrown_21 rfl rfl ?_
      refine AW.iconst (pn := 24) F dX8_areThrown_23 rfl ?_
      refine AW.iast (pn := 25) F dX8_areThrown_24 rfl so_87 hb (fun h1 hb => ?_)
      refine AW.aload_n (pn := 26) F dX8_areThrown_25 rfl rfl rfl ?_
      refine AW.getR (r := 86) (pn := 29) F dX8_areThrown_26 rfl gl_X8_62 so_69 rfl ?_
      refine AW.iload (pn := 31) F dX8_areThrown_29 rfl rfl ?_
      refine AW.iald (pn := 32) F dX8_areThrown_31 rfl so_86 hb (fun v2 hb => ?_)
      refine AW.if_lt (pn := 35) (tg := 75) F dX8_areThrown_32 rfl (by decide) hb (fun hb => ?_) (fun hb => ?_)
      · refine AW.iinc (ls2 := [some (vR 69), none, some (vI x2), some (vI x3), some (vI (x4 + (-1)))]) (pn := 78) F dX8_areThrown_75 rfl rfl (by decide) rfl rfl ?_
        refine AW.goto (tg := 12) F dX8_areThrown_78 (by decide) ?_
        exact ih _ _ _ _ hb
      · refine AW.aload_n (pn := 36) F dX8_areThrown_35 rfl rfl rfl ?_
        refine AW.getR (r := 87) (pn := 39) F dX8_areThrown_36 rfl gl_X8_65 so_69 rfl ?_
        refine AW.iload (pn := 41) F dX8_areThrown_39 rfl rfl ?_
        refine AW.aload_n (pn := 42) F dX8_areThrown_41 rfl rfl rfl ?_
        refine AW.iload (pn := 44) F dX8_areThrown_42 rfl rfl ?_
        refine AW.iload_n (pn := 45) F dX8_areThrown_44 rfl rfl rfl ?_
        refine AW.iconst (pn := 46) F dX8_areThrown_45 rfl ?_
        refine AW.irem (pn := 47) F dX8_areThrown_46 rfl (by decide) ?_
        refine AW.cVP (pn := 50) (st := [vI x4, vR 87]) F dX8_areThrown_47 rfl cl_X8_295 so_69 (p8_partOf_69 x4 (qm x2 4) hb) rfl rfl (Nat.le_of_ble_eq_true rfl) (by decide) (fun r3 hb => ?_)
        refine AW.iast (pn := 51) F dX8_areThrown_50 rfl so_87 hb (fun h4 hb => ?_)
        refine AW.iload_n (pn := 52) F dX8_areThrown_51 rfl rfl rfl ?_
        refine AW.iconst (pn := 53) F dX8_areThrown_52 rfl ?_
        refine AW.idiv (pn := 54) F dX8_areThrown_53 rfl (by decide) ?_
        refine AW.istore_n (ls2 := [some (vR 69), none, some (vI (qd x2 4)), some (vI x3), some (vI x4)]) (pn := 55) F dX8_areThrown_54 rfl rfl (by decide) rfl rfl ?_
        refine AW.iload_n (pn := 56) F dX8_areThrown_55 rfl rfl rfl ?_
        refine AW.if_eq (pn := 59) (tg := 73) F dX8_areThrown_56 rfl (by decide) hb (fun hb => ?_) (fun hb => ?_)
        · refine AW.iconst (pn := 74) F dX8_areThrown_73 rfl ?_
          refine AW.istore_n (ls2 := [some (vR 69), none, some (vI (qd x2 4)), some (vI 0), some (vI x4)]) (pn := 75) F dX8_areThrown_74 rfl rfl (by decide) rfl rfl ?_
          refine AW.iinc (ls2 := [some (vR 69), none, some (vI (qd x2 4)), some (vI 0), some (vI (x4 + (-1)))]) (pn := 78) F dX8_areThrown_75 rfl rfl (by decide) rfl rfl ?_
          refine AW.goto (tg := 12) F dX8_areThrown_78 (by decide) ?_
          exact ih _ _ _ _ hb
        · refine AW.aload_n (pn := 60) F dX8_areThrown_59 rfl rfl rfl ?_
          refine AW.getR (r := 87) (pn := 63) F dX8_areThrown_60 rfl gl_X8_65 so_69 rfl ?_
          refine AW.iload (pn := 65) F dX8_areThrown_63 rfl rfl ?_
          refine AW.iald (pn := 66) F dX8_areThrown_65 rfl so_87 hb (fun v5 hb => ?_)
          refine AW.if_lt (pn := 69) (tg := 73) F dX8_areThrown_66 rfl (by decide) hb (fun hb => ?_) (fun hb => ?_)
          · refine AW.iconst (pn := 74) F dX8_areThrown_73 rfl ?_
            refine AW.istore_n (ls2 := [some (vR 69), none, some (vI (qd x2 4)), some (vI 0), some (vI x4)]) (pn := 75) F dX8_areThrown_74 rfl rfl (by decide) rfl rfl ?_
            refine AW.iinc (ls2 := [some (vR 69), none, some (vI (qd x2 4)), some (vI 0), some (vI (x4 + (-1)))]) (pn := 78) F dX8_areThrown_75 rfl rfl (by decide) rfl rfl ?_
            refine AW.goto (tg := 12) F dX8_areThrown_78 (by decide) ?_
            exact ih _ _ _ _ hb
          · refine AW.iconst (pn := 70) F dX8_areThrown_69 rfl ?_
            refine AW.goto (tg := 74) F dX8_areThrown_70 (by decide) ?_
            refine AW.istore_n (ls2 := [some (vR 69), none, some (vI (qd x2 4)), some (vI 1), some (vI x4)]) (pn := 75) F dX8_areThrown_74 rfl rfl (by decide) rfl rfl ?_
            refine AW.iinc (ls2 := [some (vR 69), none, some (vI (qd x2 4)), some (vI 1), some (vI (x4 + (-1)))]) (pn := 78) F dX8_areThrown_75 rfl rfl (by decide) rfl rfl ?_
            refine AW.goto (tg := 12) F dX8_areThrown_78 (by decide) ?_
            exact ih _ _ _ _ hb

theorem p8_areThrown_69 (x1 : Int) {h : HP} {Q : Int → HP → Prop} (hb : p8_areThrown x1 h Q) : MT yX8_areThrown cX8_areThrown 5 (some .boolean) 2 [vR 69, vI x1] h (QI Q) := by
  refine MT.of (own := RX8) (by decide) rfl (Nat.le_of_ble_eq_true rfl) rfl (fun X F G => ?_)
  unfold p8_areThrown at hb
  refine AW.iload_n (pn := 1) F dX8_areThrown_0 rfl rfl rfl ?_
  refine AW.istore_n (ls2 := [some (vR 69), some (vI x1), some (vI x1), none, none]) (pn := 2) F dX8_areThrown_1 rfl rfl (by decide) rfl rfl ?_
  refine AW.iconst (pn := 3) F dX8_areThrown_2 rfl ?_
  refine AW.istore_n (ls2 := [some (vR 69), some (vI x1), some (vI x1), some (vI 1), none]) (pn := 4) F dX8_areThrown_3 rfl rfl (by decide) rfl rfl ?_
  refine AW.aload_n (pn := 5) F dX8_areThrown_4 rfl rfl rfl ?_
  refine AW.getI (pn := 8) F dX8_areThrown_5 rfl gl_X8_99 so_69 rfl ?_
  refine AW.iconst (pn := 9) F dX8_areThrown_8 rfl ?_
  refine AW.isub (pn := 10) F dX8_areThrown_9 rfl ?_
  refine AW.istore (ls2 := [some (vR 69), some (vI x1), some (vI x1), some (vI 1), some (vI ((h 69 1) - 1))]) (pn := 12) F dX8_areThrown_10 rfl (by decide) rfl rfl ?_
  refine AW.drop [true, false, true, true, true] rfl ?_
  refine p8_areThrown_L12_ok_69 F G  _ _ _ _ _ hb

theorem p8_ringsSum_L4_ok_69 {X : Cx} {h : HP} {Q : Int → Prop} (F : Fx X cX8_ringsSum RX8 4 5) (G : Rx X (some .int) (QP h Q))  : ∀ (n : Nat) (x1 : Int) (x2 : Int), p8_ringsSum_L4 h Q n x1 x2 → AW X 4 4 [some (vR 69), some (vI x1), some (vI x2), none] [] h := by
  intro n
  induction n with
  | zero => intro _ _ hb; exact hb.elim
  | succ n ih =>
    intro x1 x2 hb
    unfold p8_ringsSum_L4 at hb
    refine AW.iload_n (pn := 5) F dX8_ringsSum_4 rfl rfl rfl ?_
    refine AW.aload_n (pn := 6) F dX8_ringsSum_5 rfl rfl rfl ?_
    refine AW.getI (pn := 9) F dX8_ringsSum_6 rfl gl_X8_99 so_69 rfl ?_
    refine AW.icmp_ge (pn := 12) (tg := 60) F dX8_ringsSum_9 rfl (by decide) hb (fun hb => ?_) (fun hb => ?_)
    · refine AW.iload_n (pn := 61) F dX8_ringsSum_60 rfl rfl rfl ?_
      exact AW.iret F G dX8_ringsSum_61 ⟨rfl, _, rfl, hb⟩
    · refine AW.aload_n (pn := 13) F dX8_ringsSum_12 rfl rfl rfl ?_
      refine AW.getR (r := 86) (pn := 16) F dX8_ringsSum_13 rfl gl_X8_62 so_69 rfl ?_
      refine AW.iload_n (pn := 17) F dX8_ringsSum_16 rfl rfl rfl ?_
      refine AW.iald (pn := 18) F dX8_ringsSum_17 rfl so_86 hb (fun v1 hb => ?_)
      refine AW.if_lt (pn := 21) (tg := 54) F dX8_ringsSum_18 rfl (by decide) hb (fun hb => ?_) (fun hb => ?_)
      · refine AW.iinc (ls2 := [some (vR 69), some (vI x1), some (vI (x2 + 1)), none]) (pn := 57) F dX8_ringsSum_54 rfl rfl (by decide) rfl rfl ?_
        refine AW.goto (tg := 4) F dX8_ringsSum_57 (by decide) ?_
        exact ih _ _ hb
      · refine AW.aload_n (pn := 22) F dX8_ringsSum_21 rfl rfl rfl ?_
        refine AW.iload_n (pn := 23) F dX8_ringsSum_22 rfl rfl rfl ?_
        refine AW.aload_n (pn := 24) F dX8_ringsSum_23 rfl rfl rfl ?_
        refine AW.getR (r := 87) (pn := 27) F dX8_ringsSum_24 rfl gl_X8_65 so_69 rfl ?_
        refine AW.aload_n (pn := 28) F dX8_ringsSum_27 rfl rfl rfl ?_
        refine AW.getR (r := 86) (pn := 31) F dX8_ringsSum_28 rfl gl_X8_62 so_69 rfl ?_
        refine AW.iload_n (pn := 32) F dX8_ringsSum_31 rfl rfl rfl ?_
        refine AW.iald (pn := 33) F dX8_ringsSum_32 rfl so_86 hb (fun v2 hb => ?_)
        refine AW.iald (pn := 34) F dX8_ringsSum_33 rfl so_87 hb (fun v3 hb => ?_)
        refine AW.aload_n (pn := 35) F dX8_ringsSum_34 rfl rfl rfl ?_
        refine AW.getR (r := 87) (pn := 38) F dX8_ringsSum_35 rfl gl_X8_65 so_69 rfl ?_
        refine AW.iload_n (pn := 39) F dX8_ringsSum_38 rfl rfl rfl ?_
        refine AW.iald (pn := 40) F dX8_ringsSum_39 rfl so_87 hb (fun v4 hb => ?_)
        refine AW.cVP (pn := 43) (st := []) F dX8_ringsSum_40 rfl cl_X8_291 so_69 (p8_betterBy_69 x2 v3 v4 hb) rfl rfl (Nat.le_of_ble_eq_true rfl) (by decide) (fun r5 hb => ?_)
        refine AW.istore_n (ls2 := [some (vR 69), some (vI x1), some (vI x2), some (vI r5)]) (pn := 44) F dX8_ringsSum_43 rfl rfl (by decide) rfl rfl ?_
        refine AW.iload_n (pn := 45) F dX8_ringsSum_44 rfl rfl rfl ?_
        refine AW.if_gt (pn := 48) (tg := 50) F dX8_ringsSum_45 rfl (by decide) hb (fun hb => ?_) (fun hb => ?_)
        · refine AW.iload_n (pn := 51) F dX8_ringsSum_50 rfl rfl rfl ?_
          refine AW.iload_n (pn := 52) F dX8_ringsSum_51 rfl rfl rfl ?_
          refine AW.iadd (pn := 53) F dX8_ringsSum_52 rfl ?_
          refine AW.istore_n (ls2 := [some (vR 69), some (vI (x1 + r5)), some (vI x2), some (vI r5)]) (pn := 54) F dX8_ringsSum_53 rfl rfl (by decide) rfl rfl ?_
          refine AW.iinc (ls2 := [some (vR 69), some (vI (x1 + r5)), some (vI (x2 + 1)), some (vI r5)]) (pn := 57) F dX8_ringsSum_54 rfl rfl (by decide) rfl rfl ?_
          refine AW.goto (tg := 4) F dX8_ringsSum_57 (by decide) ?_
          refine AW.drop [true, true, true, false] rfl ?_
          exact ih _ _ hb
        · refine AW.iconst (pn := 49) F dX8_ringsSum_48 rfl ?_
          exact AW.iret F G dX8_ringsSum_49 ⟨rfl, _, rfl, hb⟩

theorem p8_ringsSum_69  {h : HP} {Q : Int → Prop} (hb : p8_ringsSum  h Q) : MT yX8_ringsSum cX8_ringsSum 4 (some .int) 5 [vR 69] h (QP h Q) := by
  refine MT.of (own := RX8) (by decide) rfl (Nat.le_of_ble_eq_true rfl) rfl (fun X F G => ?_)
  unfold p8_ringsSum at hb
  refine AW.iconst (pn := 1) F dX8_ringsSum_0 rfl ?_
  refine AW.istore_n (ls2 := [some (vR 69), some (vI 0), none, none]) (pn := 2) F dX8_ringsSum_1 rfl rfl (by decide) rfl rfl ?_
  refine AW.iconst (pn := 3) F dX8_ringsSum_2 rfl ?_
  refine AW.istore_n (ls2 := [some (vR 69), some (vI 0), some (vI 0), none]) (pn := 4) F dX8_ringsSum_3 rfl rfl (by decide) rfl rfl ?_
  refine p8_ringsSum_L4_ok_69 F G  _ _ _ hb

theorem p8_findRings_L4_ok_69 {X : Cx} {x1 : Int} {E29 : HP → Prop} {Q : Int → HP → Prop} (F : Fx X cX8_findRings RX8 8 6) (G : Rx X (some .int) (QI Q)) (hE29 : ∀ (h : HP), E29 h → AW X 8 29 [some (vR 69), some (vI x1), none, none, none, none, none, none] [] h) : ∀ (n : Nat) (h : HP) (x2 : Int), p8_findRings_L4 x1 E29 n h x2 → AW X 8 4 [some (vR 69), some (vI x1), some (vI x2), none, none, none, none, none] [] h := by
  intro n
  induction n with
  | zero => intro _ _ hb; exact hb.elim
  | succ n ih =>
    intro h x2 hb
    unfold p8_findRings_L4 at hb
    refine AW.iload_n (pn := 5) F dX8_findRings_4 rfl rfl rfl ?_
    refine AW.iconst (pn := 6) F dX8_findRings_5 rfl ?_
    refine AW.icmp_ge (pn := 9) (tg := 29) F dX8_findRings_6 rfl (by decide) hb (fun hb => ?_) (fun hb => ?_)
    · refine AW.drop [true, true, false, true, true, true, true, true] rfl ?_
      exact hE29 _ hb
    · refine AW.aload_n (pn := 10) F dX8_findRings_9 rfl rfl rfl ?_
      refine AW.getR (r := 88) (pn := 13) F dX8_findRings_10 rfl gl_X8_68 so_69 rfl ?_
      refine AW.iload_n (pn := 14) F dX8_findRings_13 rfl rfl rfl ?_
      refine AW.iconst (pn := 15) F dX8_findRings_14 rfl ?_
      refine AW.iast (pn := 16) F dX8_findRings_15 rfl so_88 hb (fun h1 hb => ?_)
      refine AW.aload_n (pn := 17) F dX8_findRings_16 rfl rfl rfl ?_
      refine AW.getR (r := 89) (pn := 20) F dX8_findRings_17 rfl gl_X8_71 so_69 rfl ?_
      refine AW.iload_n (pn := 21) F dX8_findRings_20 rfl rfl rfl ?_
      refine AW.iconst (pn := 22) F dX8_findRings_21 rfl ?_
      refine AW.iast (pn := 23) F dX8_findRings_22 rfl so_89 hb (fun h2 hb => ?_)
      refine AW.iinc (ls2 := [some (vR 69), some (vI x1), some (vI (x2 + 1)), none, none, none, none, none]) (pn := 26) F dX8_findRings_23 rfl rfl (by decide) rfl rfl ?_
      refine AW.goto (tg := 4) F dX8_findRings_26 (by decide) ?_
      exact ih _ _ hb

theorem p8_findRings_L33_ok_69 {X : Cx} {x1 : Int} {h : HP} {E56 : Int → Prop} {Q : Int → HP → Prop} (F : Fx X cX8_findRings RX8 8 6) (G : Rx X (some .int) (QI Q)) (hE56 : ∀ (x2 : Int), E56 x2 → AW X 8 56 [some (vR 69), some (vI x1), some (vI x2), none, none, none, none, none] [] h) : ∀ (n : Nat) (x2 : Int) (x3 : Int), p8_findRings_L33 x1 h E56 n x2 x3 → AW X 8 33 [some (vR 69), some (vI x1), some (vI x2), some (vI x3), none, none, none, none] [] h := by
  intro n
  induction n with
  | zero => intro _ _ hb; exact hb.elim
  | succ n ih =>
    intro x2 x3 hb
    unfold p8_findRings_L33 at hb
    refine AW.iload_n (pn := 34) F dX8_findRings_33 rfl rfl rfl ?_
    refine AW.aload_n (pn := 35) F dX8_findRings_34 rfl rfl rfl ?_
    refine AW.getI (pn := 38) F dX8_findRings_35 rfl gl_X8_99 so_69 rfl ?_
    refine AW.icmp_ge (pn := 41) (tg := 56) F dX8_findRings_38 rfl (by decide) hb (fun hb => ?_) (fun hb => ?_)
    · refine AW.drop [true, true, true, false, true, true, true, true] rfl ?_
      exact hE56 _ hb
    · refine AW.iload_n (pn := 42) F dX8_findRings_41 rfl rfl rfl ?_
      refine AW.aload_n (pn := 43) F dX8_findRings_42 rfl rfl rfl ?_
      refine AW.getI (pn := 46) F dX8_findRings_43 rfl gl_X8_99 so_69 rfl ?_
      refine AW.iconst (pn := 47) F dX8_findRings_46 rfl ?_
      refine AW.iadd (pn := 48) F dX8_findRings_47 rfl ?_
      refine AW.imul (pn := 49) F dX8_findRings_48 rfl ?_
      refine AW.istore_n (ls2 := [some (vR 69), some (vI x1), some (vI (x2 * ((h 69 1) + 1))), some (vI x3), none, none, none, none]) (pn := 50) F dX8_findRings_49 rfl rfl (by decide) rfl rfl ?_
      refine AW.iinc (ls2 := [some (vR 69), some (vI x1), some (vI (x2 * ((h 69 1) + 1))), some (vI (x3 + 1)), none, none, none, none]) (pn := 53) F dX8_findRings_50 rfl rfl (by decide) rfl rfl ?_
      refine AW.goto (tg := 33) F dX8_findRings_53 (by decide) ?_
      exact ih _ _ hb

theorem p8_findRings_L77_ok_69 {X : Cx} {x1 x2 x3 : Int} {h : HP} {E112 : Int → Prop} {Q : Int → HP → Prop} (F : Fx X cX8_findRings RX8 8 6) (G : Rx X (some .int) (QI Q)) (hE112 : ∀ (x4 : Int), E112 x4 → AW X 8 112 [some (vR 69), some (vI x1), some (vI x2), some (vI x3), some (vI x4), none, none, none] [] h) : ∀ (n : Nat) (x4 : Int) (x5 : Int), p8_findRings_L77 x1 x2 x3 h E112 n x4 x5 → AW X 8 77 [some (vR 69), some (vI x1), some (vI x2), some (vI x3), some (vI x4), some (vI x5), none, none] [] h := by
  intro n
  induction n with
  | zero => intro _ _ hb; exact hb.elim
  | succ n ih =>
    intro x4 x5 hb
    unfold p8_findRings_L77 at hb
    refine AW.iload (pn := 79) F dX8_findRings_77 rfl rfl ?_
    refine AW.aload_n (pn := 80) F dX8_findRings_79 rfl rfl rfl ?_
    refine AW.getI (pn := 83) F dX8_findRings_80 rfl gl_X8_99 so_69 rfl ?_
    refine AW.icmp_ge (pn := 86) (tg := 112) F dX8_findRings_83 rfl (by decide) hb (fun hb => ?_) (fun hb => ?_)
    · refine AW.drop [true, true, true, true, true, false, true, true] rfl ?_
      exact hE112 _ hb
    · refine AW.iload (pn := 88) F dX8_findRings_86 rfl rfl ?_
      refine AW.aload_n (pn := 89) F dX8_findRings_88 rfl rfl rfl ?_
      refine AW.getR (r := 86) (pn := 92) F dX8_findRings_89 rfl gl_X8_62 so_69 rfl ?_
      refine AW.iload (pn := 94) F dX8_findRings_92 rfl rfl ?_
      refine AW.iald (pn := 95) F dX8_findRings_94 rfl so_86 hb (fun v7 hb => ?_)
      refine AW.if_ge (pn := 98) (tg := 102) F dX8_findRings_95 rfl (by decide) hb (fun hb => ?_) (fun hb => ?_)
      · refine AW.iconst (pn := 103) F dX8_findRings_102 rfl ?_
        refine AW.imul (pn := 104) F dX8_findRings_103 rfl ?_
        refine AW.istore (ls2 := [some (vR 69), some (vI x1), some (vI x2), some (vI x3), some (vI (x4 * 4)), some (vI x5), none, none]) (pn := 106) F dX8_findRings_104 rfl (by decide) rfl rfl ?_
        refine AW.iinc (ls2 := [some (vR 69), some (vI x1), some (vI x2), some (vI x3), some (vI (x4 * 4)), some (vI (x5 + 1)), none, none]) (pn := 109) F dX8_findRings_106 rfl rfl (by decide) rfl rfl ?_
        refine AW.goto (tg := 77) F dX8_findRings_109 (by decide) ?_
        exact ih _ _ hb
      · refine AW.iconst (pn := 99) F dX8_findRings_98 rfl ?_
        refine AW.goto (tg := 103) F dX8_findRings_99 (by decide) ?_
        refine AW.imul (pn := 104) F dX8_findRings_103 rfl ?_
        refine AW.istore (ls2 := [some (vR 69), some (vI x1), some (vI x2), some (vI x3), some (vI (x4 * 1)), some (vI x5), none, none]) (pn := 106) F dX8_findRings_104 rfl (by decide) rfl rfl ?_
        refine AW.iinc (ls2 := [some (vR 69), some (vI x1), some (vI x2), some (vI x3), some (vI (x4 * 1)), some (vI (x5 + 1)), none, none]) (pn := 109) F dX8_findRings_106 rfl rfl (by decide) rfl rfl ?_
        refine AW.goto (tg := 77) F dX8_findRings_109 (by decide) ?_
        exact ih _ _ hb

theorem p8_findRings_L153_ok_69 {X : Cx} {x1 x2 x3 x4 x5 : Int} {E215 : HP → Prop} {Q : Int → HP → Prop} (F : Fx X cX8_findRings RX8 8 6) (G : Rx X (some .int) (QI Q)) (hE215 : ∀ (h : HP), E215 h → AW X 8 215 [some (vR 69), some (vI x1), some (vI x2), some (vI x3), some (vI x4), some (vI x5), none, none] [] h) : ∀ (n : Nat) (h : HP) (x7 : Int), p8_findRings_L153 x1 x2 x3 x4 x5 E215 n h x7 → AW X 8 153 [some (vR 69), some (vI x1), some (vI x2), some (vI x3), some (vI x4), some (vI x5), none, some (vI x7)] [] h := by
  intro n
  induction n with
  | zero => intro _ _ hb; exact hb.elim
  | succ n ih =>
    intro h x7 hb
    unfold p8_findRings_L153 at hb
    refine AW.iload (pn := 155) F dX8_findRings_153 rfl rfl ?_
    refine AW.aload_n (pn := 156) F dX8_findRings_155 rfl rfl rfl ?_
    refine AW.getI (pn := 159) F dX8_findRings_156 rfl gl_X8_99 so_69 rfl ?_
    refine AW.icmp_ge (pn := 162) (tg := 215) F dX8_findRings_159 rfl (by decide) hb (fun hb => ?_) (fun hb => ?_)
    · refine AW.drop [true, true, true, true, true, true, true, false] rfl ?_
      exact hE215 _ hb
    · refine AW.aload_n (pn := 163) F dX8_findRings_162 rfl rfl rfl ?_
      refine AW.getR (r := 88) (pn := 166) F dX8_findRings_163 rfl gl_X8_68 so_69 rfl ?_
      refine AW.iload (pn := 168) F dX8_findRings_166 rfl rfl ?_
      refine AW.aload_n (pn := 169) F dX8_findRings_168 rfl rfl rfl ?_
      refine AW.getR (r := 86) (pn := 172) F dX8_findRings_169 rfl gl_X8_62 so_69 rfl ?_
      refine AW.iload (pn := 174) F dX8_findRings_172 rfl rfl ?_
      refine AW.iald (pn := 175) F dX8_findRings_174 rfl so_86 hb (fun v15 hb => ?_)
      refine jn_1 hb (fun (y19 : Int) => AW X 8 194 [some (vR 69), some (vI x1), some (vI x2), some (vI x3), some (vI x4), some (vI x5), none, some (vI x7)] [vI y19, vI x7, vR 88] h) (fun y19 hb => ?_) (fun K20 hK20 hb => ?_)
      · refine AW.iast (pn := 195) F dX8_findRings_194 rfl so_88 hb (fun h21 hb => ?_)
        refine AW.aload_n (pn := 196) F dX8_findRings_195 rfl rfl rfl ?_
        refine AW.getR (r := 89) (pn := 199) F dX8_findRings_196 rfl gl_X8_71 so_69 rfl ?_
        refine AW.iload (pn := 201) F dX8_findRings_199 rfl rfl ?_
        refine AW.aload_n (pn := 202) F dX8_findRings_201 rfl rfl rfl ?_
        refine AW.getR (r := 87) (pn := 205) F dX8_findRings_202 rfl gl_X8_65 so_69 rfl ?_
        refine AW.iload (pn := 207) F dX8_findRings_205 rfl rfl ?_
        refine AW.iald (pn := 208) F dX8_findRings_207 rfl so_87 hb (fun v22 hb => ?_)
        refine AW.iast (pn := 209) F dX8_findRings_208 rfl so_89 hb (fun h23 hb => ?_)
        refine AW.iinc (ls2 := [some (vR 69), some (vI x1), some (vI x2), some (vI x3), some (vI x4), some (vI x5), none, some (vI (x7 + 1))]) (pn := 212) F dX8_findRings_209 rfl rfl (by decide) rfl rfl ?_
        refine AW.goto (tg := 153) F dX8_findRings_212 (by decide) ?_
        exact ih _ _ hb
      refine AW.if_ge (pn := 178) (tg := 182) F dX8_findRings_175 rfl (by decide) hb (fun hb => ?_) (fun hb => ?_)
      · refine AW.aload_n (pn := 183) F dX8_findRings_182 rfl rfl rfl ?_
        refine AW.getR (r := 87) (pn := 186) F dX8_findRings_183 rfl gl_X8_65 so_69 rfl ?_
        refine AW.aload_n (pn := 187) F dX8_findRings_186 rfl rfl rfl ?_
        refine AW.getR (r := 86) (pn := 190) F dX8_findRings_187 rfl gl_X8_62 so_69 rfl ?_
        refine AW.iload (pn := 192) F dX8_findRings_190 rfl rfl ?_
        refine AW.iald (pn := 193) F dX8_findRings_192 rfl so_86 hb (fun v24 hb => ?_)
        refine AW.iald (pn := 194) F dX8_findRings_193 rfl so_87 hb (fun v25 hb => ?_)
        exact hK20 _ hb
      · refine AW.iconst (pn := 179) F dX8_findRings_178 rfl ?_
        refine AW.goto (tg := 194) F dX8_findRings_179 (by decide) ?_
        exact hK20 _ hb

theorem p8_findRings_L115_ok_69 {X : Cx} {x2 x3 x4 : Int} {E221 : HP → Int → Prop} {Q : Int → HP → Prop} (F : Fx X cX8_findRings RX8 8 6) (G : Rx X (some .int) (QI Q)) (hE221 : ∀ (h : HP) (x1 : Int), E221 h x1 → AW X 8 221 [some (vR 69), some (vI x1), some (vI x2), some (vI x3), none, none, none, none] [] h) : ∀ (n : Nat) (h : HP) (x1 : Int) (x5 : Int), p8_findRings_L115 x2 x3 x4 E221 n h x1 x5 → AW X 8 115 [some (vR 69), some (vI x1), some (vI x2), some (vI x3), some (vI x4), some (vI x5), none, none] [] h := by
  intro n
  induction n with
  | zero => intro _ _ _ hb; exact hb.elim
  | succ n ih =>
    intro h x1 x5 hb
    unfold p8_findRings_L115 at hb
    refine AW.iload (pn := 117) F dX8_findRings_115 rfl rfl ?_
    refine AW.iload (pn := 119) F dX8_findRings_117 rfl rfl ?_
    refine AW.icmp_ge (pn := 122) (tg := 221) F dX8_findRings_119 rfl (by decide) hb (fun hb => ?_) (fun hb => ?_)
    · refine AW.drop [true, true, true, true, false, false, true, true] rfl ?_
      exact hE221 _ _ hb
    · refine AW.aload_n (pn := 123) F dX8_findRings_122 rfl rfl rfl ?_
      refine AW.iload (pn := 125) F dX8_findRings_123 rfl rfl ?_
      refine AW.cVI (pn := 128) (st := []) F dX8_findRings_125 rfl cl_X8_301 so_69 (p8_areThrown_69 x5 hb) rfl rfl (Nat.le_of_ble_eq_true rfl) (by decide) (fun r9 h10 hb => ?_)
      refine jn_1 hb (fun (y13 : Int) => AW X 8 139 [some (vR 69), some (vI x1), some (vI x2), some (vI x3), some (vI x4), some (vI x5), none, none] [vI y13] h10) (fun y13 hb => ?_) (fun K14 hK14 hb => ?_)
      · refine AW.istore (ls2 := [some (vR 69), some (vI x1), some (vI x2), some (vI x3), some (vI x4), some (vI x5), some (vI y13), none]) (pn := 141) F dX8_findRings_139 rfl (by decide) rfl rfl ?_
        refine AW.iload (pn := 143) F dX8_findRings_141 rfl rfl ?_
        refine AW.iload_n (pn := 144) F dX8_findRings_143 rfl rfl rfl ?_
        refine AW.icmp_le (pn := 147) (tg := 215) F dX8_findRings_144 rfl (by decide) hb (fun hb => ?_) (fun hb => ?_)
        · refine AW.iinc (ls2 := [some (vR 69), some (vI x1), some (vI x2), some (vI x3), some (vI x4), some (vI (x5 + 1)), some (vI y13), none]) (pn := 218) F dX8_findRings_215 rfl rfl (by decide) rfl rfl ?_
          refine AW.goto (tg := 115) F dX8_findRings_218 (by decide) ?_
          refine AW.drop [true, true, true, true, true, true, false, true] rfl ?_
          exact ih _ _ _ hb
        · refine AW.iload (pn := 149) F dX8_findRings_147 rfl rfl ?_
          refine AW.istore_n (ls2 := [some (vR 69), some (vI y13), some (vI x2), some (vI x3), some (vI x4), some (vI x5), some (vI y13), none]) (pn := 150) F dX8_findRings_149 rfl rfl (by decide) rfl rfl ?_
          refine AW.iconst (pn := 151) F dX8_findRings_150 rfl ?_
          refine AW.istore (ls2 := [some (vR 69), some (vI y13), some (vI x2), some (vI x3), some (vI x4), some (vI x5), some (vI y13), some (vI 0)]) (pn := 153) F dX8_findRings_151 rfl (by decide) rfl rfl ?_
          refine AW.drop [true, true, true, true, true, true, false, true] rfl ?_
          refine p8_findRings_L153_ok_69 F G (fun h26 hb => ?_) _ _ _ hb
          refine AW.iinc (ls2 := [some (vR 69), some (vI y13), some (vI x2), some (vI x3), some (vI x4), some (vI (x5 + 1)), none, none]) (pn := 218) F dX8_findRings_215 rfl rfl (by decide) rfl rfl ?_
          refine AW.goto (tg := 115) F dX8_findRings_218 (by decide) ?_
          exact ih _ _ _ hb
      refine AW.if_eq (pn := 131) (tg := 138) F dX8_findRings_128 rfl (by decide) hb (fun hb => ?_) (fun hb => ?_)
      · refine AW.iconst (pn := 139) F dX8_findRings_138 rfl ?_
        exact hK14 _ hb
      · refine AW.aload_n (pn := 132) F dX8_findRings_131 rfl rfl rfl ?_
        refine AW.cVP (pn := 135) (st := []) F dX8_findRings_132 rfl cl_X8_304 so_69 (p8_ringsSum_69  hb) rfl rfl (Nat.le_of_ble_eq_true rfl) (by decide) (fun r27 hb => ?_)
        refine AW.goto (tg := 139) F dX8_findRings_135 (by decide) ?_
        exact hK14 _ hb

theorem p8_findRings_L58_ok_69 {X : Cx} {x2 : Int} {Q : Int → HP → Prop} (F : Fx X cX8_findRings RX8 8 6) (G : Rx X (some .int) (QI Q))  : ∀ (n : Nat) (h : HP) (x1 : Int) (x3 : Int), p8_findRings_L58 x2 Q n h x1 x3 → AW X 8 58 [some (vR 69), some (vI x1), some (vI x2), some (vI x3), none, none, none, none] [] h := by
  intro n
  induction n with
  | zero => intro _ _ _ hb; exact hb.elim
  | succ n ih =>
    intro h x1 x3 hb
    unfold p8_findRings_L58 at hb
    refine AW.iload_n (pn := 59) F dX8_findRings_58 rfl rfl rfl ?_
    refine AW.iload_n (pn := 60) F dX8_findRings_59 rfl rfl rfl ?_
    refine AW.icmp_ge (pn := 63) (tg := 227) F dX8_findRings_60 rfl (by decide) hb (fun hb => ?_) (fun hb => ?_)
    · refine AW.iload_n (pn := 228) F dX8_findRings_227 rfl rfl rfl ?_
      exact AW.iret F G dX8_findRings_228 ⟨_, rfl, hb⟩
    · refine AW.aload_n (pn := 64) F dX8_findRings_63 rfl rfl rfl ?_
      refine AW.iload_n (pn := 65) F dX8_findRings_64 rfl rfl rfl ?_
      refine AW.cVI (pn := 68) (st := []) F dX8_findRings_65 rfl cl_X8_298 so_69 (p8_areRings_69 x3 hb) rfl rfl (Nat.le_of_ble_eq_true rfl) (by decide) (fun r5 h6 hb => ?_)
      refine AW.if_eq (pn := 71) (tg := 221) F dX8_findRings_68 rfl (by decide) hb (fun hb => ?_) (fun hb => ?_)
      · refine AW.iinc (ls2 := [some (vR 69), some (vI x1), some (vI x2), some (vI (x3 + 1)), none, none, none, none]) (pn := 224) F dX8_findRings_221 rfl rfl (by decide) rfl rfl ?_
        refine AW.goto (tg := 58) F dX8_findRings_224 (by decide) ?_
        exact ih _ _ _ hb
      · refine AW.iconst (pn := 72) F dX8_findRings_71 rfl ?_
        refine AW.istore (ls2 := [some (vR 69), some (vI x1), some (vI x2), some (vI x3), some (vI 1), none, none, none]) (pn := 74) F dX8_findRings_72 rfl (by decide) rfl rfl ?_
        refine AW.iconst (pn := 75) F dX8_findRings_74 rfl ?_
        refine AW.istore (ls2 := [some (vR 69), some (vI x1), some (vI x2), some (vI x3), some (vI 1), some (vI 0), none, none]) (pn := 77) F dX8_findRings_75 rfl (by decide) rfl rfl ?_
        refine p8_findRings_L77_ok_69 F G (fun y8 hb => ?_) _ _ _ hb
        refine AW.iconst (pn := 113) F dX8_findRings_112 rfl ?_
        refine AW.istore (ls2 := [some (vR 69), some (vI x1), some (vI x2), some (vI x3), some (vI y8), some (vI 0), none, none]) (pn := 115) F dX8_findRings_113 rfl (by decide) rfl rfl ?_
        refine p8_findRings_L115_ok_69 F G (fun h28 y29 hb => ?_) _ _ _ _ hb
        refine AW.iinc (ls2 := [some (vR 69), some (vI y29), some (vI x2), some (vI (x3 + 1)), none, none, none, none]) (pn := 224) F dX8_findRings_221 rfl rfl (by decide) rfl rfl ?_
        refine AW.goto (tg := 58) F dX8_findRings_224 (by decide) ?_
        exact ih _ _ _ hb

theorem p8_findRings_69  {h : HP} {Q : Int → HP → Prop} (hb : p8_findRings  h Q) : MT yX8_findRings cX8_findRings 8 (some .int) 6 [vR 69] h (QI Q) := by
  refine MT.of (own := RX8) (by decide) rfl (Nat.le_of_ble_eq_true rfl) rfl (fun X F G => ?_)
  unfold p8_findRings at hb
  refine AW.iconst (pn := 1) F dX8_findRings_0 rfl ?_
  refine AW.istore_n (ls2 := [some (vR 69), some (vI 0), none, none, none, none, none, none]) (pn := 2) F dX8_findRings_1 rfl rfl (by decide) rfl rfl ?_
  refine AW.iconst (pn := 3) F dX8_findRings_2 rfl ?_
  refine AW.istore_n (ls2 := [some (vR 69), some (vI 0), some (vI 0), none, none, none, none, none]) (pn := 4) F dX8_findRings_3 rfl rfl (by decide) rfl rfl ?_
  refine p8_findRings_L4_ok_69 F G (fun h3 hb => ?_) _ _ _ hb
  refine AW.iconst (pn := 30) F dX8_findRings_29 rfl ?_
  refine AW.istore_n (ls2 := [some (vR 69), some (vI 0), some (vI 1), none, none, none, none, none]) (pn := 31) F dX8_findRings_30 rfl rfl (by decide) rfl rfl ?_
  refine AW.iconst (pn := 32) F dX8_findRings_31 rfl ?_
  refine AW.istore_n (ls2 := [some (vR 69), some (vI 0), some (vI 1), some (vI 0), none, none, none, none]) (pn := 33) F dX8_findRings_32 rfl rfl (by decide) rfl rfl ?_
  refine p8_findRings_L33_ok_69 F G (fun y4 hb => ?_) _ _ _ hb
  refine AW.iconst (pn := 57) F dX8_findRings_56 rfl ?_
  refine AW.istore_n (ls2 := [some (vR 69), some (vI 0), some (vI y4), some (vI 0), none, none, none, none]) (pn := 58) F dX8_findRings_57 rfl rfl (by decide) rfl rfl ?_
  refine p8_findRings_L58_ok_69 F G  _ _ _ _ hb

theorem p8_rings_69 (x1 x2 : Int) {h : HP} {Q : Int → HP → Prop} (hb : p8_rings x1 x2 h Q) : MT yX8_rings cX8_rings 4 (some .int) 7 [vR 69, vI x1, vI x2] h (QI Q) := by
  refine MT.of (own := RX8) (by decide) rfl (Nat.le_of_ble_eq_true rfl) rfl (fun X F G => ?_)
  unfold p8_rings at hb
  refine AW.iload_n (pn := 1) F dX8_rings_0 rfl rfl rfl ?_
  refine AW.iconst (pn := 2) F dX8_rings_1 rfl ?_
  refine jn_0 hb (AW X 4 16 [some (vR 69), some (vI x1), some (vI x2), none] [] h) (fun  hb => ?_) (fun K2 hK2 hb => ?_)
  · refine AW.iload_n (pn := 17) F dX8_rings_16 rfl rfl rfl ?_
    refine AW.i2l (pn := 18) F dX8_rings_17 rfl ?_
    refine AW.lconst (x := 0) (pn := 19) F dX8_rings_18 rfl (by decide) ?_
    refine AW.lconst (x := 1) (pn := 20) F dX8_rings_19 rfl (by decide) ?_
    refine AW.cSP (pn := 23) (st := []) F dX8_rings_20 rfl cl_X8_102 (p8_in_s (w32 x2) 0 1 hb) rfl rfl (Nat.le_of_ble_eq_true rfl) (by decide) (fun r3 hb => ?_)
    refine AW.if_ne (pn := 26) (tg := 29) F dX8_rings_23 rfl (by decide) hb (fun hb => ?_) (fun hb => ?_)
    · refine AW.aload_n (pn := 30) F dX8_rings_29 rfl rfl rfl ?_
      refine AW.cVI (pn := 33) (st := []) F dX8_rings_30 rfl cl_X8_307 so_69 (p8_findRings_69  hb) rfl rfl (Nat.le_of_ble_eq_true rfl) (by decide) (fun r4 h5 hb => ?_)
      refine AW.istore_n (ls2 := [some (vR 69), some (vI x1), some (vI x2), some (vI r4)]) (pn := 34) F dX8_rings_33 rfl rfl (by decide) rfl rfl ?_
      refine AW.iload_n (pn := 35) F dX8_rings_34 rfl rfl rfl ?_
      refine AW.iconst (pn := 36) F dX8_rings_35 rfl ?_
      refine AW.icmp_ne (pn := 39) (tg := 43) F dX8_rings_36 rfl (by decide) hb (fun hb => ?_) (fun hb => ?_)
      · refine AW.iload_n (pn := 44) F dX8_rings_43 rfl rfl rfl ?_
        refine AW.if_ne (pn := 47) (tg := 56) F dX8_rings_44 rfl (by decide) hb (fun hb => ?_) (fun hb => ?_)
        · refine AW.aload_n (pn := 57) F dX8_rings_56 rfl rfl rfl ?_
          refine AW.getR (r := 88) (pn := 60) F dX8_rings_57 rfl gl_X8_68 so_69 rfl ?_
          refine AW.iload_n (pn := 61) F dX8_rings_60 rfl rfl rfl ?_
          refine AW.iald (pn := 62) F dX8_rings_61 rfl so_88 hb (fun v6 hb => ?_)
          exact AW.iret F G dX8_rings_62 ⟨_, rfl, hb⟩
        · refine AW.aload_n (pn := 48) F dX8_rings_47 rfl rfl rfl ?_
          refine AW.getR (r := 89) (pn := 51) F dX8_rings_48 rfl gl_X8_71 so_69 rfl ?_
          refine AW.iload_n (pn := 52) F dX8_rings_51 rfl rfl rfl ?_
          refine AW.iald (pn := 53) F dX8_rings_52 rfl so_89 hb (fun v7 hb => ?_)
          refine AW.goto (tg := 62) F dX8_rings_53 (by decide) ?_
          exact AW.iret F G dX8_rings_62 ⟨_, rfl, hb⟩
      · refine AW.iload_n (pn := 40) F dX8_rings_39 rfl rfl rfl ?_
        refine AW.goto (tg := 62) F dX8_rings_40 (by decide) ?_
        exact AW.iret F G dX8_rings_62 ⟨_, rfl, hb⟩
    · refine AW.ldc (x := (-1000000002)) (pn := 28) F dX8_rings_26 rfl tw_938 (by decide) ?_
      exact AW.iret F G dX8_rings_28 ⟨_, rfl, hb⟩
  refine AW.icmp_eq (pn := 5) (tg := 16) F dX8_rings_2 rfl (by decide) hb (fun hb => ?_) (fun hb => ?_)
  · exact hK2 hb
  · refine AW.aload_n (pn := 6) F dX8_rings_5 rfl rfl rfl ?_
    refine AW.iload_n (pn := 7) F dX8_rings_6 rfl rfl rfl ?_
    refine AW.cVP (pn := 10) (st := []) F dX8_rings_7 rfl cl_X8_218 so_69 (p8_isHouse_69 x1 hb) rfl rfl (Nat.le_of_ble_eq_true rfl) (by decide) (fun r8 hb => ?_)
    refine AW.if_ne (pn := 13) (tg := 16) F dX8_rings_10 rfl (by decide) hb (fun hb => ?_) (fun hb => ?_)
    · exact hK2 hb
    · refine AW.ldc (x := (-1000000001)) (pn := 15) F dX8_rings_13 rfl tw_1009 (by decide) ?_
      exact AW.iret F G dX8_rings_15 ⟨_, rfl, hb⟩

theorem p8_oddsBy_L7_ok_69 {X : Cx} {x1 : Int} {h : HP} {Q : Int → Prop} (F : Fx X cX8_oddsBy RX8 5 1) (G : Rx X (some .long) (QLP h Q))  : ∀ (n : Nat) (x2 : Int) (x4 : Int), p8_oddsBy_L7 x1 h Q n x2 x4 → AW X 5 7 [some (vR 69), some (vI x1), some (vL x2), none, some (vI x4)] [] h := by
  intro n
  induction n with
  | zero => intro _ _ hb; exact hb.elim
  | succ n ih =>
    intro x2 x4 hb
    unfold p8_oddsBy_L7 at hb
    refine AW.iload (pn := 9) F dX8_oddsBy_7 rfl rfl ?_
    refine AW.iload_n (pn := 10) F dX8_oddsBy_9 rfl rfl rfl ?_
    refine AW.icmp_ge (pn := 13) (tg := 35) F dX8_oddsBy_10 rfl (by decide) hb (fun hb => ?_) (fun hb => ?_)
    · refine AW.ldc2 (x := 1000000000) (pn := 38) F dX8_oddsBy_35 rfl tw_1180 (by decide) ?_
      refine AW.lload_n (pn := 39) F dX8_oddsBy_38 rfl rfl rfl ?_
      refine AW.lsub (pn := 40) F dX8_oddsBy_39 rfl ?_
      exact AW.lret F G dX8_oddsBy_40 ⟨rfl, _, rfl, hb⟩
    · refine AW.lload_n (pn := 14) F dX8_oddsBy_13 rfl rfl rfl ?_
      refine AW.aload_n (pn := 15) F dX8_oddsBy_14 rfl rfl rfl ?_
      refine AW.getI (pn := 18) F dX8_oddsBy_15 rfl gl_X8_96 so_69 rfl ?_
      refine AW.iconst (pn := 19) F dX8_oddsBy_18 rfl ?_
      refine AW.isub (pn := 20) F dX8_oddsBy_19 rfl ?_
      refine AW.i2l (pn := 21) F dX8_oddsBy_20 rfl ?_
      refine AW.lmul (pn := 22) F dX8_oddsBy_21 rfl ?_
      refine AW.aload_n (pn := 23) F dX8_oddsBy_22 rfl rfl rfl ?_
      refine AW.getI (pn := 26) F dX8_oddsBy_23 rfl gl_X8_96 so_69 rfl ?_
      refine AW.i2l (pn := 27) F dX8_oddsBy_26 rfl ?_
      refine AW.ldiv (pn := 28) F dX8_oddsBy_27 rfl hb.1 ?_
      replace hb := hb.2
      refine AW.lstore_n (ls2 := [some (vR 69), some (vI x1), some (vL (ld (x2 * (w32 ((h 69 0) - 1))) (w32 (h 69 0)))), none, some (vI x4)]) (pn := 29) F dX8_oddsBy_28 rfl rfl (by decide) rfl rfl ?_
      refine AW.iinc (ls2 := [some (vR 69), some (vI x1), some (vL (ld (x2 * (w32 ((h 69 0) - 1))) (w32 (h 69 0)))), none, some (vI (x4 + 1))]) (pn := 32) F dX8_oddsBy_29 rfl rfl (by decide) rfl rfl ?_
      refine AW.goto (tg := 7) F dX8_oddsBy_32 (by decide) ?_
      exact ih _ _ hb

