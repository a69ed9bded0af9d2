theorem pJ_fill_ok {c n : Nat} {rs : List Nat} (sa : SHL[c]? = some (.inr (0, n, rs))) (x1 : Int) {h : HP} {Q : HP → Prop} (hb : pJ_fill c n x1 h Q) : MT yJ7_fill_53178 cJ7_fill_53178 4 none 1 [vR c, vI x1] h (QV Q) := by
  refine MT.of (own := RJ7) (by decide) rfl (Nat.le_of_ble_eq_true rfl) rfl (fun X F G => ?_)
  unfold pJ_fill at hb
  have L : ∀ (k : Nat) (h : HP) (x2 : Int), pJ_fill_L5 c n x1 Q k h x2 → AW X 4 5 [some (vR c), some (vI x1), some (vI x2), some (vI (n : Int))] [] h := by
    intro k
    induction k with
    | zero => intro _ _ hb; exact hb.elim
    | succ k ih =>
      intro h x2 hb
      unfold pJ_fill_L5 at hb
      refine AW.iload_n (pn := 6) F dJ7_fill_53178_5 rfl rfl rfl ?_
      refine AW.iload_n (pn := 7) F dJ7_fill_53178_6 rfl rfl rfl ?_
      refine AW.icmp_ge (pn := 10) (tg := 20) F dJ7_fill_53178_7 rfl (by decide) hb (fun hb => ?_) (fun hb => ?_)
      · exact AW.vret F G dJ7_fill_53178_20 ⟨rfl, hb⟩
      · refine AW.aload_n (pn := 11) F dJ7_fill_53178_10 rfl rfl rfl ?_
        refine AW.iload_n (pn := 12) F dJ7_fill_53178_11 rfl rfl rfl ?_
        refine AW.iload_n (pn := 13) F dJ7_fill_53178_12 rfl rfl rfl ?_
        refine AW.iast (pn := 14) F dJ7_fill_53178_13 rfl sa hb (fun h1 hb => ?_)
        refine AW.iinc (ls2 := [some (vR c), some (vI x1), some (vI (x2 + 1)), some (vI (n : Int))]) (pn := 17) F dJ7_fill_53178_14 rfl rfl (by decide) rfl rfl ?_
        refine AW.goto (tg := 5) F dJ7_fill_53178_17 (by decide) ?_
        exact ih _ _ hb
  refine AW.iconst (pn := 1) F dJ7_fill_53178_0 rfl ?_
  refine AW.istore_n (ls2 := [some (vR c), some (vI x1), some (vI 0), none]) (pn := 2) F dJ7_fill_53178_1 rfl rfl (by decide) rfl rfl ?_
  refine AW.aload_n (pn := 3) F dJ7_fill_53178_2 rfl rfl rfl ?_
  refine AW.alen (pn := 4) F dJ7_fill_53178_3 rfl sa (by decide) ?_
  refine AW.istore_n (ls2 := [some (vR c), some (vI x1), some (vI 0), some (vI (n : Int))]) (pn := 5) F dJ7_fill_53178_4 rfl rfl (by decide) rfl rfl ?_
  exact L _ _ _ hb
theorem pJ_fill_11 (x1 : Int) {h : HP} {Q : HP → Prop} (hb : pJ_fill 11 30 x1 h Q) : MT yJ7_fill_53178 cJ7_fill_53178 4 none 1 [vR 11, vI x1] h (QV Q) := pJ_fill_ok so_11 x1 hb
theorem pJ_fill_19 (x1 : Int) {h : HP} {Q : HP → Prop} (hb : pJ_fill 19 5 x1 h Q) : MT yJ7_fill_53178 cJ7_fill_53178 4 none 1 [vR 19, vI x1] h (QV Q) := pJ_fill_ok so_19 x1 hb
theorem pJ_fill_20 (x1 : Int) {h : HP} {Q : HP → Prop} (hb : pJ_fill 20 30 x1 h Q) : MT yJ7_fill_53178 cJ7_fill_53178 4 none 1 [vR 20, vI x1] h (QV Q) := pJ_fill_ok so_20 x1 hb
theorem pJ_fill_66 (x1 : Int) {h : HP} {Q : HP → Prop} (hb : pJ_fill 66 6 x1 h Q) : MT yJ7_fill_53178 cJ7_fill_53178 4 none 1 [vR 66, vI x1] h (QV Q) := pJ_fill_ok so_66 x1 hb
theorem pJ_fill_27 (x1 : Int) {h : HP} {Q : HP → Prop} (hb : pJ_fill 27 5 x1 h Q) : MT yJ7_fill_53178 cJ7_fill_53178 4 none 1 [vR 27, vI x1] h (QV Q) := pJ_fill_ok so_27 x1 hb
theorem pJ_fill_28 (x1 : Int) {h : HP} {Q : HP → Prop} (hb : pJ_fill 28 30 x1 h Q) : MT yJ7_fill_53178 cJ7_fill_53178 4 none 1 [vR 28, vI x1] h (QV Q) := pJ_fill_ok so_28 x1 hb
