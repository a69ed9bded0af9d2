def h00 : HP := fun c j => if c = 0 ∧ j = 2 then -1 else if c = 69 ∧ j = 17 then -1 else 0
section WW
variable (ad : Nat → Nat) (cA : Nat → ClassId)
def okc (k : Nat) : Nat → List (Option AV) → List Nat → Bool
  | _, [], [] => true
  | j, some (.inl x) :: fs, 0 :: cs => decide (x = h00 k j) && okc k (j + 1) fs cs
  | j, some (.inr (.inl x)) :: fs, 1 :: cs => decide (x = h00 k j) && okc k (j + 1) fs cs
  | j, some (.inr (.inr r)) :: fs, (q + 2) :: cs => decide (r = q) && okc k (j + 1) fs cs
  | _, _, _ => false
theorem okc_ok (ad : Nat → Nat) (k : Nat) : ∀ (fs : List (Option AV)) (cs : List Nat) (j : Nat), okc k j fs cs = true → fs.map (bfv ad) = cs.mapIdx (fun i c => fv ad h00 k (j + i) c) := by
  intro fs
  induction fs with
  | nil =>
    intro cs j h
    cases cs with
    | nil => rfl
    | cons c cs => simp [okc] at h
  | cons f fs ih =>
    intro cs j h
    have step : ∀ (c : Nat) (cs : List Nat), bfv ad f = fv ad h00 k j c → okc k (j + 1) fs cs = true → (f :: fs).map (bfv ad) = (c :: cs).mapIdx (fun i c => fv ad h00 k (j + i) c) := by
      intro c cs h1 h2
      rw [List.map_cons, List.mapIdx_cons, ih cs (j + 1) h2, h1]
      congr 1
      apply congrArg (fun g => List.mapIdx g cs)
      funext i c
      rw [show j + 1 + i = j + (i + 1) from by omega]
    rcases f with _ | x | x | r
    · cases cs <;> simp [okc] at h
    · match cs, h with
      | [], h => simp [okc] at h
      | 0 :: cs, h =>
        simp only [okc, Bool.and_eq_true, decide_eq_true_eq] at h
        refine step 0 cs ?_ h.2
        show Value.int (Int32.ofInt x) = Value.int (Int32.ofInt (h00 k j))
        rw [h.1]
      | (n + 1) :: cs, h => simp [okc] at h
    · match cs, h with
      | [], h => simp [okc] at h
      | 0 :: cs, h => simp [okc] at h
      | 1 :: cs, h =>
        simp only [okc, Bool.and_eq_true, decide_eq_true_eq] at h
        refine step 1 cs ?_ h.2
        show Value.long (Int64.ofInt x) = Value.long (Int64.ofInt (h00 k j))
        rw [h.1]
      | (n + 2) :: cs, h => simp [okc] at h
    · match cs, h with
      | [], h => simp [okc] at h
      | 0 :: cs, h => simp [okc] at h
      | 1 :: cs, h => simp [okc] at h
      | (q + 2) :: cs, h =>
        simp only [okc, Bool.and_eq_true, decide_eq_true_eq] at h
        refine step (q + 2) cs ?_ h.2
        show Value.ref (ad r) = Value.ref (ad q)
        rw [h.1]
theorem ww_o {k ci : Nat} {fs : List (Option AV)} {cs : List Nat} (h1 : sc_202[k]? = some (.inl (ci, fs))) (h2 : SHL[k]? = some (.inl (ci, cs))) (h3 : okc k 0 fs cs = true) : (sc_202[k]?).map (bE ad cA) = some (cellE ad cA h00 k) := by
  rw [h1, cellE_o h2]
  show some (Sum.inr (ci, fs.map (bfv ad))) = _
  rw [okc_ok ad k fs cs 0 h3]
  congr 4
  funext i c
  rw [Nat.zero_add]
theorem ww_a {k t n : Nat} (h1 : sc_202[k]? = some (.inr (t, n, []))) (h2 : SHL[k]? = some (.inr (t, n, []))) (ht : ¬ t = 3) (hk : k ≠ 0 ∧ k ≠ 69) : (sc_202[k]?).map (bE ad cA) = some (cellE ad cA h00 k) := by
  rw [h1, cellE_a h2 ht]
  show some (Sum.inl (cA t, n, if t = 3 then _ else _)) = _
  rw [if_neg ht]
  congr 4
  congr 1
  funext j
  unfold h00
  rw [if_neg (fun q => hk.1 q.1), if_neg (fun q => hk.2 q.1)]
theorem ww_29 : (sc_202[29]?).map (bE ad cA) = some (cellE ad cA h00 29) := by
  rw [cellE_r so_29, show sc_202[29]? = some (.inr (3, 2, [some 30, some 38])) from rfl]
  show (some (Sum.inl (cA 3, 2, .inr (.inr (.inr (.inr (fun j => ((([some 30, some 38] : List (Option Nat))[j]?).getD none).map ad)))))) : Option va_E) = _
  congr 8
  funext j
  match j with
  | 0 => rfl
  | 1 => rfl
  | n + 2 => rfl
theorem ww_0 : (sc_202[0]?).map (bE ad cA) = some (cellE ad cA h00 0) := ww_o ad cA rfl so_0 (by decide +kernel)
theorem ww_1 : (sc_202[1]?).map (bE ad cA) = some (cellE ad cA h00 1) := ww_a ad cA rfl so_1 (by decide) (by decide)
theorem ww_2 : (sc_202[2]?).map (bE ad cA) = some (cellE ad cA h00 2) := ww_o ad cA rfl so_2 (by decide +kernel)
theorem ww_3 : (sc_202[3]?).map (bE ad cA) = some (cellE ad cA h00 3) := ww_a ad cA rfl so_3 (by decide) (by decide)
theorem ww_4 : (sc_202[4]?).map (bE ad cA) = some (cellE ad cA h00 4) := ww_a ad cA rfl so_4 (by decide) (by decide)
theorem ww_5 : (sc_202[5]?).map (bE ad cA) = some (cellE ad cA h00 5) := ww_a ad cA rfl so_5 (by decide) (by decide)
theorem ww_6 : (sc_202[6]?).map (bE ad cA) = some (cellE ad cA h00 6) := ww_a ad cA rfl so_6 (by decide) (by decide)
theorem ww_7 : (sc_202[7]?).map (bE ad cA) = some (cellE ad cA h00 7) := ww_o ad cA rfl so_7 (by decide +kernel)
theorem ww_8 : (sc_202[8]?).map (bE ad cA) = some (cellE ad cA h00 8) := ww_a ad cA rfl so_8 (by decide) (by decide)
theorem ww_9 : (sc_202[9]?).map (bE ad cA) = some (cellE ad cA h00 9) := ww_a ad cA rfl so_9 (by decide) (by decide)
theorem ww_10 : (sc_202[10]?).map (bE ad cA) = some (cellE ad cA h00 10) := ww_a ad cA rfl so_10 (by decide) (by decide)
theorem ww_11 : (sc_202[11]?).map (bE ad cA) = some (cellE ad cA h00 11) := ww_a ad cA rfl so_11 (by decide) (by decide)
theorem ww_12 : (sc_202[12]?).map (bE ad cA) = some (cellE ad cA h00 12) := ww_o ad cA rfl so_12 (by decide +kernel)
theorem ww_13 : (sc_202[13]?).map (bE ad cA) = some (cellE ad cA h00 13) := ww_o ad cA rfl so_13 (by decide +kernel)
theorem ww_14 : (sc_202[14]?).map (bE ad cA) = some (cellE ad cA h00 14) := ww_a ad cA rfl so_14 (by decide) (by decide)
theorem ww_15 : (sc_202[15]?).map (bE ad cA) = some (cellE ad cA h00 15) := ww_a ad cA rfl so_15 (by decide) (by decide)
theorem ww_16 : (sc_202[16]?).map (bE ad cA) = some (cellE ad cA h00 16) := ww_a ad cA rfl so_16 (by decide) (by decide)
theorem ww_17 : (sc_202[17]?).map (bE ad cA) = some (cellE ad cA h00 17) := ww_a ad cA rfl so_17 (by decide) (by decide)
theorem ww_18 : (sc_202[18]?).map (bE ad cA) = some (cellE ad cA h00 18) := ww_a ad cA rfl so_18 (by decide) (by decide)
theorem ww_19 : (sc_202[19]?).map (bE ad cA) = some (cellE ad cA h00 19) := ww_a ad cA rfl so_19 (by decide) (by decide)
theorem ww_20 : (sc_202[20]?).map (bE ad cA) = some (cellE ad cA h00 20) := ww_a ad cA rfl so_20 (by decide) (by decide)
theorem ww_21 : (sc_202[21]?).map (bE ad cA) = some (cellE ad cA h00 21) := ww_o ad cA rfl so_21 (by decide +kernel)
theorem ww_22 : (sc_202[22]?).map (bE ad cA) = some (cellE ad cA h00 22) := ww_a ad cA rfl so_22 (by decide) (by decide)
theorem ww_23 : (sc_202[23]?).map (bE ad cA) = some (cellE ad cA h00 23) := ww_a ad cA rfl so_23 (by decide) (by decide)
theorem ww_24 : (sc_202[24]?).map (bE ad cA) = some (cellE ad cA h00 24) := ww_a ad cA rfl so_24 (by decide) (by decide)
theorem ww_25 : (sc_202[25]?).map (bE ad cA) = some (cellE ad cA h00 25) := ww_a ad cA rfl so_25 (by decide) (by decide)
theorem ww_26 : (sc_202[26]?).map (bE ad cA) = some (cellE ad cA h00 26) := ww_a ad cA rfl so_26 (by decide) (by decide)
theorem ww_27 : (sc_202[27]?).map (bE ad cA) = some (cellE ad cA h00 27) := ww_a ad cA rfl so_27 (by decide) (by decide)
theorem ww_28 : (sc_202[28]?).map (bE ad cA) = some (cellE ad cA h00 28) := ww_a ad cA rfl so_28 (by decide) (by decide)
theorem ww_30 : (sc_202[30]?).map (bE ad cA) = some (cellE ad cA h00 30) := ww_o ad cA rfl so_30 (by decide +kernel)
theorem ww_31 : (sc_202[31]?).map (bE ad cA) = some (cellE ad cA h00 31) := ww_a ad cA rfl so_31 (by decide) (by decide)
theorem ww_32 : (sc_202[32]?).map (bE ad cA) = some (cellE ad cA h00 32) := ww_a ad cA rfl so_32 (by decide) (by decide)
theorem ww_33 : (sc_202[33]?).map (bE ad cA) = some (cellE ad cA h00 33) := ww_a ad cA rfl so_33 (by decide) (by decide)
theorem ww_34 : (sc_202[34]?).map (bE ad cA) = some (cellE ad cA h00 34) := ww_a ad cA rfl so_34 (by decide) (by decide)
theorem ww_35 : (sc_202[35]?).map (bE ad cA) = some (cellE ad cA h00 35) := ww_a ad cA rfl so_35 (by decide) (by decide)
theorem ww_36 : (sc_202[36]?).map (bE ad cA) = some (cellE ad cA h00 36) := ww_a ad cA rfl so_36 (by decide) (by decide)
theorem ww_37 : (sc_202[37]?).map (bE ad cA) = some (cellE ad cA h00 37) := ww_a ad cA rfl so_37 (by decide) (by decide)
theorem ww_38 : (sc_202[38]?).map (bE ad cA) = some (cellE ad cA h00 38) := ww_o ad cA rfl so_38 (by decide +kernel)
theorem ww_39 : (sc_202[39]?).map (bE ad cA) = some (cellE ad cA h00 39) := ww_a ad cA rfl so_39 (by decide) (by decide)
theorem ww_40 : (sc_202[40]?).map (bE ad cA) = some (cellE ad cA h00 40) := ww_a ad cA rfl so_40 (by decide) (by decide)
theorem ww_41 : (sc_202[41]?).map (bE ad cA) = some (cellE ad cA h00 41) := ww_a ad cA rfl so_41 (by decide) (by decide)
theorem ww_42 : (sc_202[42]?).map (bE ad cA) = some (cellE ad cA h00 42) := ww_a ad cA rfl so_42 (by decide) (by decide)
theorem ww_43 : (sc_202[43]?).map (bE ad cA) = some (cellE ad cA h00 43) := ww_a ad cA rfl so_43 (by decide) (by decide)
theorem ww_44 : (sc_202[44]?).map (bE ad cA) = some (cellE ad cA h00 44) := ww_a ad cA rfl so_44 (by decide) (by decide)
theorem ww_45 : (sc_202[45]?).map (bE ad cA) = some (cellE ad cA h00 45) := ww_a ad cA rfl so_45 (by decide) (by decide)
theorem ww_46 : (sc_202[46]?).map (bE ad cA) = some (cellE ad cA h00 46) := ww_a ad cA rfl so_46 (by decide) (by decide)
theorem ww_47 : (sc_202[47]?).map (bE ad cA) = some (cellE ad cA h00 47) := ww_o ad cA rfl so_47 (by decide +kernel)
theorem ww_48 : (sc_202[48]?).map (bE ad cA) = some (cellE ad cA h00 48) := ww_a ad cA rfl so_48 (by decide) (by decide)
theorem ww_49 : (sc_202[49]?).map (bE ad cA) = some (cellE ad cA h00 49) := ww_a ad cA rfl so_49 (by decide) (by decide)
theorem ww_50 : (sc_202[50]?).map (bE ad cA) = some (cellE ad cA h00 50) := ww_a ad cA rfl so_50 (by decide) (by decide)
theorem ww_51 : (sc_202[51]?).map (bE ad cA) = some (cellE ad cA h00 51) := ww_o ad cA rfl so_51 (by decide +kernel)
theorem ww_52 : (sc_202[52]?).map (bE ad cA) = some (cellE ad cA h00 52) := ww_a ad cA rfl so_52 (by decide) (by decide)
theorem ww_53 : (sc_202[53]?).map (bE ad cA) = some (cellE ad cA h00 53) := ww_a ad cA rfl so_53 (by decide) (by decide)
theorem ww_54 : (sc_202[54]?).map (bE ad cA) = some (cellE ad cA h00 54) := ww_o ad cA rfl so_54 (by decide +kernel)
theorem ww_55 : (sc_202[55]?).map (bE ad cA) = some (cellE ad cA h00 55) := ww_a ad cA rfl so_55 (by decide) (by decide)
theorem ww_56 : (sc_202[56]?).map (bE ad cA) = some (cellE ad cA h00 56) := ww_a ad cA rfl so_56 (by decide) (by decide)
theorem ww_57 : (sc_202[57]?).map (bE ad cA) = some (cellE ad cA h00 57) := ww_a ad cA rfl so_57 (by decide) (by decide)
theorem ww_58 : (sc_202[58]?).map (bE ad cA) = some (cellE ad cA h00 58) := ww_a ad cA rfl so_58 (by decide) (by decide)
theorem ww_59 : (sc_202[59]?).map (bE ad cA) = some (cellE ad cA h00 59) := ww_a ad cA rfl so_59 (by decide) (by decide)
theorem ww_60 : (sc_202[60]?).map (bE ad cA) = some (cellE ad cA h00 60) := ww_a ad cA rfl so_60 (by decide) (by decide)
theorem ww_61 : (sc_202[61]?).map (bE ad cA) = some (cellE ad cA h00 61) := ww_a ad cA rfl so_61 (by decide) (by decide)
theorem ww_62 : (sc_202[62]?).map (bE ad cA) = some (cellE ad cA h00 62) := ww_o ad cA rfl so_62 (by decide +kernel)
theorem ww_63 : (sc_202[63]?).map (bE ad cA) = some (cellE ad cA h00 63) := ww_a ad cA rfl so_63 (by decide) (by decide)
theorem ww_64 : (sc_202[64]?).map (bE ad cA) = some (cellE ad cA h00 64) := ww_a ad cA rfl so_64 (by decide) (by decide)
theorem ww_65 : (sc_202[65]?).map (bE ad cA) = some (cellE ad cA h00 65) := ww_a ad cA rfl so_65 (by decide) (by decide)
theorem ww_66 : (sc_202[66]?).map (bE ad cA) = some (cellE ad cA h00 66) := ww_a ad cA rfl so_66 (by decide) (by decide)
theorem ww_67 : (sc_202[67]?).map (bE ad cA) = some (cellE ad cA h00 67) := ww_a ad cA rfl so_67 (by decide) (by decide)
theorem ww_68 : (sc_202[68]?).map (bE ad cA) = some (cellE ad cA h00 68) := ww_a ad cA rfl so_68 (by decide) (by decide)
theorem ww_69 : (sc_202[69]?).map (bE ad cA) = some (cellE ad cA h00 69) := ww_o ad cA rfl so_69 (by decide +kernel)
theorem ww_70 : (sc_202[70]?).map (bE ad cA) = some (cellE ad cA h00 70) := ww_a ad cA rfl so_70 (by decide) (by decide)
theorem ww_71 : (sc_202[71]?).map (bE ad cA) = some (cellE ad cA h00 71) := ww_a ad cA rfl so_71 (by decide) (by decide)
theorem ww_72 : (sc_202[72]?).map (bE ad cA) = some (cellE ad cA h00 72) := ww_a ad cA rfl so_72 (by decide) (by decide)
theorem ww_73 : (sc_202[73]?).map (bE ad cA) = some (cellE ad cA h00 73) := ww_a ad cA rfl so_73 (by decide) (by decide)
theorem ww_74 : (sc_202[74]?).map (bE ad cA) = some (cellE ad cA h00 74) := ww_a ad cA rfl so_74 (by decide) (by decide)
theorem ww_75 : (sc_202[75]?).map (bE ad cA) = some (cellE ad cA h00 75) := ww_a ad cA rfl so_75 (by decide) (by decide)
theorem ww_76 : (sc_202[76]?).map (bE ad cA) = some (cellE ad cA h00 76) := ww_a ad cA rfl so_76 (by decide) (by decide)
theorem ww_77 : (sc_202[77]?).map (bE ad cA) = some (cellE ad cA h00 77) := ww_a ad cA rfl so_77 (by decide) (by decide)
theorem ww_78 : (sc_202[78]?).map (bE ad cA) = some (cellE ad cA h00 78) := ww_a ad cA rfl so_78 (by decide) (by decide)
theorem ww_79 : (sc_202[79]?).map (bE ad cA) = some (cellE ad cA h00 79) := ww_a ad cA rfl so_79 (by decide) (by decide)
theorem ww_80 : (sc_202[80]?).map (bE ad cA) = some (cellE ad cA h00 80) := ww_a ad cA rfl so_80 (by decide) (by decide)
theorem ww_81 : (sc_202[81]?).map (bE ad cA) = some (cellE ad cA h00 81) := ww_a ad cA rfl so_81 (by decide) (by decide)
theorem ww_82 : (sc_202[82]?).map (bE ad cA) = some (cellE ad cA h00 82) := ww_a ad cA rfl so_82 (by decide) (by decide)
theorem ww_83 : (sc_202[83]?).map (bE ad cA) = some (cellE ad cA h00 83) := ww_a ad cA rfl so_83 (by decide) (by decide)
theorem ww_84 : (sc_202[84]?).map (bE ad cA) = some (cellE ad cA h00 84) := ww_a ad cA rfl so_84 (by decide) (by decide)
theorem ww_85 : (sc_202[85]?).map (bE ad cA) = some (cellE ad cA h00 85) := ww_a ad cA rfl so_85 (by decide) (by decide)
theorem ww_86 : (sc_202[86]?).map (bE ad cA) = some (cellE ad cA h00 86) := ww_a ad cA rfl so_86 (by decide) (by decide)
theorem ww_87 : (sc_202[87]?).map (bE ad cA) = some (cellE ad cA h00 87) := ww_a ad cA rfl so_87 (by decide) (by decide)
theorem ww_88 : (sc_202[88]?).map (bE ad cA) = some (cellE ad cA h00 88) := ww_a ad cA rfl so_88 (by decide) (by decide)
theorem ww_89 : (sc_202[89]?).map (bE ad cA) = some (cellE ad cA h00 89) := ww_a ad cA rfl so_89 (by decide) (by decide)
theorem ww_90 : (sc_202[90]?).map (bE ad cA) = some (cellE ad cA h00 90) := ww_a ad cA rfl so_90 (by decide) (by decide)
theorem ww_91 : (sc_202[91]?).map (bE ad cA) = some (cellE ad cA h00 91) := ww_a ad cA rfl so_91 (by decide) (by decide)
theorem ww_92 : (sc_202[92]?).map (bE ad cA) = some (cellE ad cA h00 92) := ww_a ad cA rfl so_92 (by decide) (by decide)
theorem ww_93 : (sc_202[93]?).map (bE ad cA) = some (cellE ad cA h00 93) := ww_a ad cA rfl so_93 (by decide) (by decide)
theorem ww_94 : (sc_202[94]?).map (bE ad cA) = some (cellE ad cA h00 94) := ww_a ad cA rfl so_94 (by decide) (by decide)
theorem ww_95 : (sc_202[95]?).map (bE ad cA) = some (cellE ad cA h00 95) := ww_a ad cA rfl so_95 (by decide) (by decide)
theorem ww_96 : (sc_202[96]?).map (bE ad cA) = some (cellE ad cA h00 96) := ww_a ad cA rfl so_96 (by decide) (by decide)
theorem ww (k : Nat) (hk : k < 97) : (sc_202[k]?).map (bE ad cA) = some (cellE ad cA h00 k) := by
  match k, hk with
  | 0, _ => exact ww_0 ad cA
  | 1, _ => exact ww_1 ad cA
  | 2, _ => exact ww_2 ad cA
  | 3, _ => exact ww_3 ad cA
  | 4, _ => exact ww_4 ad cA
  | 5, _ => exact ww_5 ad cA
  | 6, _ => exact ww_6 ad cA
  | 7, _ => exact ww_7 ad cA
  | 8, _ => exact ww_8 ad cA
  | 9, _ => exact ww_9 ad cA
  | 10, _ => exact ww_10 ad cA
  | 11, _ => exact ww_11 ad cA
  | 12, _ => exact ww_12 ad cA
  | 13, _ => exact ww_13 ad cA
  | 14, _ => exact ww_14 ad cA
  | 15, _ => exact ww_15 ad cA
  | 16, _ => exact ww_16 ad cA
  | 17, _ => exact ww_17 ad cA
  | 18, _ => exact ww_18 ad cA
  | 19, _ => exact ww_19 ad cA
  | 20, _ => exact ww_20 ad cA
  | 21, _ => exact ww_21 ad cA
  | 22, _ => exact ww_22 ad cA
  | 23, _ => exact ww_23 ad cA
  | 24, _ => exact ww_24 ad cA
  | 25, _ => exact ww_25 ad cA
  | 26, _ => exact ww_26 ad cA
  | 27, _ => exact ww_27 ad cA
  | 28, _ => exact ww_28 ad cA
  | 29, _ => exact ww_29 ad cA
  | 30, _ => exact ww_30 ad cA
  | 31, _ => exact ww_31 ad cA
  | 32, _ => exact ww_32 ad cA
  | 33, _ => exact ww_33 ad cA
  | 34, _ => exact ww_34 ad cA
  | 35, _ => exact ww_35 ad cA
  | 36, _ => exact ww_36 ad cA
  | 37, _ => exact ww_37 ad cA
  | 38, _ => exact ww_38 ad cA
  | 39, _ => exact ww_39 ad cA
  | 40, _ => exact ww_40 ad cA
  | 41, _ => exact ww_41 ad cA
  | 42, _ => exact ww_42 ad cA
  | 43, _ => exact ww_43 ad cA
  | 44, _ => exact ww_44 ad cA
  | 45, _ => exact ww_45 ad cA
  | 46, _ => exact ww_46 ad cA
  | 47, _ => exact ww_47 ad cA
  | 48, _ => exact ww_48 ad cA
  | 49, _ => exact ww_49 ad cA
  | 50, _ => exact ww_50 ad cA
  | 51, _ => exact ww_51 ad cA
  | 52, _ => exact ww_52 ad cA
  | 53, _ => exact ww_53 ad cA
  | 54, _ => exact ww_54 ad cA
  | 55, _ => exact ww_55 ad cA
  | 56, _ => exact ww_56 ad cA
  | 57, _ => exact ww_57 ad cA
  | 58, _ => exact ww_58 ad cA
  | 59, _ => exact ww_59 ad cA
  | 60, _ => exact ww_60 ad cA
  | 61, _ => exact ww_61 ad cA
  | 62, _ => exact ww_62 ad cA
  | 63, _ => exact ww_63 ad cA
  | 64, _ => exact ww_64 ad cA
  | 65, _ => exact ww_65 ad cA
  | 66, _ => exact ww_66 ad cA
  | 67, _ => exact ww_67 ad cA
  | 68, _ => exact ww_68 ad cA
  | 69, _ => exact ww_69 ad cA
  | 70, _ => exact ww_70 ad cA
  | 71, _ => exact ww_71 ad cA
  | 72, _ => exact ww_72 ad cA
  | 73, _ => exact ww_73 ad cA
  | 74, _ => exact ww_74 ad cA
  | 75, _ => exact ww_75 ad cA
  | 76, _ => exact ww_76 ad cA
  | 77, _ => exact ww_77 ad cA
  | 78, _ => exact ww_78 ad cA
  | 79, _ => exact ww_79 ad cA
  | 80, _ => exact ww_80 ad cA
  | 81, _ => exact ww_81 ad cA
  | 82, _ => exact ww_82 ad cA
  | 83, _ => exact ww_83 ad cA
  | 84, _ => exact ww_84 ad cA
  | 85, _ => exact ww_85 ad cA
  | 86, _ => exact ww_86 ad cA
  | 87, _ => exact ww_87 ad cA
  | 88, _ => exact ww_88 ad cA
  | 89, _ => exact ww_89 ad cA
  | 90, _ => exact ww_90 ad cA
  | 91, _ => exact ww_91 ad cA
  | 92, _ => exact ww_92 ad cA
  | 93, _ => exact ww_93 ad cA
  | 94, _ => exact ww_94 ad cA
  | 95, _ => exact ww_95 ad cA
  | 96, _ => exact ww_96 ad cA
  | n + 97, h => exact absurd h (by omega)
theorem bl_wl : bl ad cA sc_202 = wl ad cA h00 := by
  apply List.ext_getElem?
  intro i
  by_cases hi : i < 97
  · rw [bl_at, wl_at (show i < SHL.length from hi)]
    have := ww ad cA i hi
    cases hs : sc_202[i]? with
    | none => rw [hs] at this; cases this
    | some c =>
      rw [hs] at this
      simp only [Option.map_some] at this ⊢
      rw [Option.some.inj this]
  · have h1 : (bl ad cA sc_202).length ≤ i := by
      unfold bl
      rw [List.length_mapIdx]
      exact Nat.not_lt.mp hi
    have h2 : (wl ad cA h00).length ≤ i := by
      unfold wl
      rw [List.length_map, List.length_range]
      exact Nat.not_lt.mp hi
    rw [List.getElem?_eq_none h1, List.getElem?_eq_none h2]
end WW
