def sc_nil : List BC := []
theorem law_make {X : Bx} (F : Fb X cL_law RL 4 60 600000 7302250) (N0 : X.2.2.2.2.2.2.2.2.2.2.2.2.2.2.1 ≤ 0) (k : BW X sc_202 97 14665 4 16 [some (vR 3000), some (vR 0), some (vR 69), none] []) : BW X [] 0 0 4 0 [some (vR 3000), none, none, none] [] := by
  refine BW.newo (ci := 7) (L := 0) (kc2 := 1) (ks2 := 15) (S2 := sc_0) (fs := [none, some (vI 0), some (vI 0), none, none, none, none, none, none, none, none, none, none, none, none]) (pn := 3) F dL_law_0 rfl (Nat.le_trans N0 (by decide)) rfl iX7 tyX7 tyX7_ok tw_17 tw_18 tw_1 (by decide +kernel) rfl rfl (by decide) rfl rfl rfl rfl (by decide) (by decide) ?_
  refine BW.dup (pn := 4) F dL_law_3 rfl ?_
  refine BW.invI (c := 0) (as := []) (st := [vR 0]) (S2 := sc_146) (kc2 := 69) (ks2 := 4153) (pn := 7) F dL_law_4 rfl (Nat.le_trans N0 (by decide)) ci_L_9 mb_1 rfl rfl (Nat.le_of_ble_eq_true rfl) (by decide) rfl rfl (by decide) (by decide) rfl ?_
  refine BW.astore_n (ls2 := [some (vR 3000), some (vR 0), none, none]) (pn := 8) F dL_law_7 rfl rfl (by decide) rfl rfl ?_
  refine BW.newo (ci := 8) (L := 69) (kc2 := 70) (ks2 := 4199) (S2 := sc_147) (fs := [some (vI 0), some (vI 0), none, none, some (vI 0), none, none, some (vI 0), none, none, none, none, none, some (vI 0), some (vI 0), none, some (vI 0), some (vI 0), some (vI 0), some (vL 0), some (vI 0), some (vI 0), some (vI 0), some (vI 0), some (vI 0), none, some (vI 0), none, none, some (vI 0), none, none, none, none, none, none, none, none, some (vI 0), none, some (vI 0), none, none, none, none, none]) (pn := 11) F dL_law_8 rfl (Nat.le_trans N0 (by decide)) rfl iX8 tyX8 tyX8_ok tw_781 tw_782 tw_9 (by decide +kernel) rfl rfl (by decide) rfl rfl rfl rfl (by decide) (by decide) ?_
  refine BW.dup (pn := 12) F dL_law_11 rfl ?_
  refine BW.invI (c := 69) (as := []) (st := [vR 69]) (S2 := sc_202) (kc2 := 97) (ks2 := 14665) (pn := 15) F dL_law_12 rfl (Nat.le_trans N0 (by decide)) ci_L_12 mb_13 rfl rfl (Nat.le_of_ble_eq_true rfl) (by decide) rfl rfl (by decide) (by decide) rfl ?_
  refine BW.astore_n (ls2 := [some (vR 3000), some (vR 0), some (vR 69), none]) (pn := 16) F dL_law_15 rfl rfl (by decide) rfl rfl ?_
  exact k
