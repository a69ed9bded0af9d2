/-! ===== PURE: spit, both ===== -/
section SPO
variable {h : HP}
theorem C_copySpit {Q : HP → Prop} (hq : ∀ v, (∀ c, c < 2 ∨ 6 < c → v c = h c) → v 2 0 = h 7 0 → v 2 1 = h 7 1 → v 2 2 = h 7 2 → (∀ j, j < 5 → v 3 j = h 8 j) → (∀ j, j < 20 → v 4 j = h 9 j ∧ v 5 j = h 10 j) → (∀ j, j < 30 → v 6 j = h 11 j) → Q v) : p4_copyFrom h Q := by
  unfold p4_copyFrom
  refine pf_i (pf_i (pf_i (cp_i (cp_i (cp_i (cp_i (hq _ (fun c hc => ?_) ?_ ?_ ?_ (fun j hj => ?_) (fun j hj => ⟨?_, ?_⟩) (fun j hj => ?_))))))))
  · rw [hcpy_c (by omega), hcpy_c (by omega), hcpy_c (by omega), hcpy_c (by omega), hset_c (by omega), hset_c (by omega), hset_c (by omega)]
  · rw [hcpy_c (by decide), hcpy_c (by decide), hcpy_c (by decide), hcpy_c (by decide), hset_rn (by decide), hset_rn (by decide), hset_rs]
  · rw [hcpy_c (by decide), hcpy_c (by decide), hcpy_c (by decide), hcpy_c (by decide), hset_rn (by decide), hset_rs, hset_c (by decide)]
  · rw [hcpy_c (by decide), hcpy_c (by decide), hcpy_c (by decide), hcpy_c (by decide), hset_rs, hset_c (by decide), hset_c (by decide)]
  · rw [hcpy_c (by decide), hcpy_c (by decide), hcpy_c (by decide), hcpy_i hj, hset_c (by decide), hset_c (by decide), hset_c (by decide)]
  · rw [hcpy_c (by decide), hcpy_c (by decide), hcpy_i hj, hcpy_c (by decide), hset_c (by decide), hset_c (by decide), hset_c (by decide)]
  · rw [hcpy_c (by decide), hcpy_i hj, hcpy_c (by decide), hcpy_c (by decide), hset_c (by decide), hset_c (by decide), hset_c (by decide)]
  · rw [hcpy_i hj, hcpy_c (by decide), hcpy_c (by decide), hcpy_c (by decide), hset_c (by decide), hset_c (by decide), hset_c (by decide)]
theorem C_sp76 {Q : Int → HP → Prop} (hq : ∀ v, (∀ c, c ≠ 46 → v c = h c) → v 46 0 = 0 → v 46 1 = 0 → Q (v 13 1) v) : p7_spit_L76 Q FUEL h 0 := by
  have e0 : (bb 0 : Int) = 0 := by decide
  have L : ∀ (m f i : Nat) (g : HP), m < f → i + m = 2 → (∀ c, c ≠ 46 → g c = h c) → (∀ j, j < i → g 46 j = 0) → p7_spit_L76 Q f g i := by
    intro m
    induction m with
    | zero =>
      intro f i g hf hi g1 g2
      obtain ⟨f, rfl⟩ : ∃ n', f = n' + 1 := ⟨f - 1, by omega⟩
      unfold p7_spit_L76
      exact brY ((wle ⟨by omega, by omega⟩ ⟨by omega, by omega⟩).mpr (by omega)) (hq g g1 (g2 0 (by omega)) (g2 1 (by omega)))
    | succ m ih =>
      intro f i g hf hi g1 g2
      obtain ⟨f, rfl⟩ : ∃ n', f = n' + 1 := ⟨f - 1, by omega⟩
      unfold p7_spit_L76
      refine brN (fun z => by have := (wle ⟨by omega, by omega⟩ ⟨by omega, by omega⟩).mp z; omega) ?_
      rw [e0]
      refine wr_n (by omega) (by decide) ?_
      refine ih f (i + 1) _ (by omega) (by omega) (fun c hc => by rw [hset_c hc]; exact g1 c hc) (fun j hj => ?_)
      by_cases q : j = i
      · subst q; rw [hset_rs]
      · rw [hset_rn q]; exact g2 j (by omega)
  exact L 2 FUEL 0 h (by decide) rfl (fun _ _ => rfl) (fun j hj => by omega)
theorem op_spit (hI : INV h) : p7_spit h (fun r1 h1 => p8_spit h1 (fun r2 h2 => OK2 r1 r2 h2)) := by
  obtain ⟨t1, t2, t3, t4, t5⟩ := hI.2.2.2.2.1
  obtain ⟨n, hn⟩ := Int.eq_ofNat_of_zero_le t2
  have n4 : n ≤ 400 := by omega
  have hsd : h 13 3 = h 69 14 := hI.2.2.1.1 2 (by decide)
  have a5 : 0 ≤ h 13 3 := hI.1.2.1.2.2.2.2.1
  have a6 : h 13 3 < 2147483648 := hI.1.2.1.2.2.2.2.2
  unfold p7_spit
  rw [t1, hn]
  refine C_readText (T := h 79) n4 (fun j hj => t4 j (by omega)) (fun g og => pf_i ?_)
  obtain ⟨gf, k0, k4, e6, oD, o7⟩ := og
  by_cases z : (psF (h 79) n 401 D0 0).1 = 0
  · rw [if_pos z]
    refine brN (by decide) (pf_i ?_)
    obtain ⟨dc, o⟩ := oD z
    generalize hP : psF (h 79) n 401 D0 0 = P at *
    obtain ⟨d1, d2, d3, d4, d5, d6, d7, d8⟩ := dc
    obtain ⟨⟨s1, s2, s3, s4⟩, o2, o3, o4, o5, o6, o7', o8, o9, o10⟩ := id o
    obtain ⟨c, hc⟩ := Int.eq_ofNat_of_zero_le o2
    refine C_copySpit (fun v v0 v20 v21 v22 v3 v45 v6 => ?_)
    rw [hset_c (by decide), hset_c (by decide)] at v20 v21 v22
    have g03 : ∀ c, 6 < c → v c = g c := fun c hc => by rw [v0 c (by omega), hset_c (by omega), hset_c (by omega)]
    have v00 : v 0 1 = 0 ∧ v 0 2 = -1 := by
      rw [v0 0 (by decide)]
      exact ⟨by rw [hset_rn (by decide), hset_rs], hset_rs⟩
    have w20 : v 2 0 = P.2.2 0 0 := by rw [v20, d1]
    have w21 : v 2 1 = P.2.2 0 1 := by rw [v21, d2]
    have w22 : v 2 2 = (c : Int) := by rw [v22, d3, hc]
    have w4 : ∀ j, j < c → v 4 j = P.2.2 2 j := fun j hj => by rw [(v45 j (by omega)).1, hset_c (by decide), hset_c (by decide)]; exact (d6 j (by omega)).1
    have w5 : ∀ j, j < c → v 5 j = P.2.2 3 j := fun j hj => by rw [(v45 j (by omega)).2, hset_c (by decide), hset_c (by decide)]; exact (d6 j (by omega)).2
    have v133 : v 13 3 = h 13 3 := by rw [g03 13 (by decide), gf 13 (by decide)]
    have cn : ∀ x : Int, 0 ≤ x → x < P.2.2 0 1 → fs (fun q => if P.2.2 3 q = x then 1 else 0) 0 c ≤ 4 := fun x x1 x2 => by
      have := o8 x x1 x2
      unfold cnD at this
      rw [hc] at this
      exact this
    have hT : TOLD (v 2 0) (v 2 1) c (v 4) (v 5) := by
      rw [w20, w21]
      refine ⟨⟨s1, s2, s3, s4⟩, by omega, fun p hp => ?_, fun x x1 x2 => ?_⟩
      · rw [w4 p hp, w5 p hp]
        have := o7' p (by omega)
        omega
      · rw [fs_congr (g := fun q => if P.2.2 3 q = x then 1 else 0) c 0 (fun q _ hq => by rw [w5 q (by omega)])]
        exact cn x x1 x2
    refine C_layOut (b := 13) (by decide) hT w22 rfl rfl (by rw [v133]; exact ⟨a5, a6⟩) (fun u u1 u2 u3 => pf_i ?_)
    rw [v133] at u2
    refine C_sp76 (fun w w1 w2 w3 => ?_)
    have wu : ∀ c, c ≠ 46 → c ≠ 47 → w c = u c := fun c h1 h2 => by rw [w1 c h1, hset_c h2]
    have w47 : w 47 0 = 0 := by rw [w1 47 (by decide), hset_rs]
    have w131 : w 13 1 = (c : Int) := by rw [wu 13 (by decide) (by decide)]; exact u2.1
    have wh : ∀ c, 69 ≤ c → w c = h c := fun c hc => by rw [wu c (by omega) (by omega), u3 c (by omega), g03 c (by omega), gf c (by omega)]
    have w79 : w 79 = h 79 := wh 79 (by decide)
    have e1 : psF (w 79) n 401 D0 0 = P := by rw [w79, hP]
    refine M_spit (h := w) (n := n) n4 (by rw [wh 69 (by decide), hn]) (fun j hj => by rw [w79]; exact (t4 j (by omega)).2) (fun _ _ y c' hc' sp => ?_) (fun q => absurd (by rw [e1]; exact z) q) (by rw [e1]; exact ⟨k0, k4⟩)
    rw [e1] at hc' sp
    obtain rfl : c' = c := by omega
    obtain ⟨y1, y2, y3, y4, y5, y6, y7, y8, y9, y10, y11, y12, y13⟩ := sp
    have yu : ∀ k, k < 69 → k ≠ 46 → k ≠ 47 → y k = u k := fun k h1 h2 h3 => by rw [y1 k (Or.inl h1), wu k h2 h3]
    have yv : ∀ k, k < 13 → y k = v k := fun k hk => by rw [yu k (by omega) (by omega) (by omega), u3 k (by omega)]
    have hSI : SI 13 y := SI_eq (yu 2 (by decide) (by decide) (by decide)) (fun i hi => yu _ (by omega) (by omega) (by omega)) u1
    have hVC : VC 13 y = VC 13 u := VC_eq (fun j _ => by rw [yu 13 (by decide) (by decide) (by decide)]) (fun i _ _ => yu _ (by omega) (by omega) (by omega))
    rw [wh 69 (by decide), ← hsd] at y13
    have ee : eqv (VC 13 y) (VM y) := by
      rw [hVC]
      exact u2.eq y13 (fun p hp => by rw [(y12 p hp).1, w4 p hp]) (fun p hp => by rw [(y12 p hp).2, w5 p hp])
    have hMI : MI y := by
      unfold MI
      rw [y2, y3]
      refine ⟨⟨s1, s2, s3, s4⟩, ?_⟩
      have := wf_eqv hSI.2.1 ee
      rw [yv 2 (by decide), w20, w21] at this
      exact this
    refine ⟨by rw [w131], hSI, hMI, ee, ?_, ?_, ?_, ?_⟩
    · refine ⟨by rw [yv 2 (by decide), w20, y2], by rw [yv 2 (by decide), w21, y3], by rw [yv 2 (by decide), w22, y4], fun j hj => ?_, fun j hj => ?_, by rw [y4]; omega, by rw [y4]; omega, fun p hp => ?_, fun x x1 x2 => ?_⟩
      · rw [y3] at hj
        rw [yv 3 (by decide), v3 j (by omega), y10 j hj, hset_c (by decide), hset_c (by decide), d5 j hj]
        exact ⟨rfl, o6 j hj⟩
      · rw [yv 6 (by decide), v6 j hj, y11 j hj, hset_c (by decide), hset_c (by decide), d7 j hj]
        have := o10 j hj
        refine ⟨rfl, ?_, ?_⟩ <;> split <;> omega
      · rw [y4] at hp
        have hp' : p < c' := by omega
        rw [yv 4 (by decide), yv 5 (by decide), w4 p hp', w5 p hp', (y12 p hp').1, (y12 p hp').2, y2, y3]
        have := o7' p (by omega)
        exact ⟨rfl, rfl, by omega, by omega, by omega, by omega⟩
      · rw [y3] at x2
        rw [y4, show ((c' : Nat) : Int).toNat = c' from by omega]
        rw [fs_congr (g := fun q => if P.2.2 3 q = x then 1 else 0) c' 0 (fun q _ hq => by rw [(y12 q (by omega)).2])]
        exact cn x x1 x2
    · refine ⟨by rw [yv 0 (by decide), v00.1, y5], by rw [y5]; decide, by rw [y5]; decide, fun j hj => by rw [y5] at hj; omega, by rw [yv 0 (by decide), v00.2, y6]⟩
    · refine ⟨by rw [y1 47 (by decide), w47, y7], by rw [y7]; decide, by rw [y7]; decide, fun j hj => by rw [y7] at hj; omega⟩
    · intro i hi
      rw [y1 46 (by decide)]
      match i, hi with
      | 0, _ => exact ⟨by rw [w2, y8], Or.inl y8⟩
      | 1, _ => exact ⟨by rw [w3, y9], Or.inl y9⟩
  · rw [if_neg z]
    refine brY (by decide) (pf_i ?_)
    generalize hP : psF (h 79) n 401 D0 0 = P at *
    have q7 := o7 z
    rw [show hset (hset g 0 1 0) 0 2 (hset g 0 1 0 12 7) 12 6 = P.1 from by rw [hset_c (by decide), hset_c (by decide)]; exact e6]
    rw [show hset g 0 1 0 12 7 = ((P.2.1 : Nat) : Int) from by rw [hset_c (by decide)]; exact q7]
    generalize hw : hset (hset g 0 1 0) 0 2 ((P.2.1 : Nat) : Int) = w
    have wh : ∀ c, c ≠ 0 → (c < 7 ∨ 12 < c) → w c = h c := fun c h1 h2 => by rw [← hw, hset_c h1, hset_c h1, gf c h2]
    have w01 : w 0 1 = 0 := by rw [← hw, hset_rn (by decide), hset_rs]
    have w02 : w 0 2 = ((P.2.1 : Nat) : Int) := by rw [← hw, hset_rs]
    clear hw
    have w79 : w 79 = h 79 := wh 79 (by decide) (by decide)
    have e1 : psF (w 79) n 401 D0 0 = P := by rw [w79, hP]
    refine M_spit (h := w) (n := n) n4 (by rw [wh 69 (by decide) (by decide), hn]) (fun j hj => by rw [w79]; exact (t4 j (by omega)).2) (fun q => absurd (by rw [← e1]; exact q) z) (fun _ y yf y16 y17 => ?_) (by rw [e1]; exact ⟨k0, k4⟩)
    rw [e1] at y17 ⊢
    have yc : ∀ c, c < 69 ∨ (69 < c ∧ c < 80) ∨ 83 < c → y c = w c := fun c hc => by have := yf.1 c hc; rw [hset_c (by omega)] at this; exact this
    have yj : ∀ j, j < 16 ∨ 30 ≤ j → y 69 j = h 69 j := fun j hj => by
      have := yf.2 j (by omega)
      rw [hset_rn (by omega), wh 69 (by decide) (by decide)] at this
      exact this
    have yh : ∀ c, c ≠ 0 → (c < 7 ∨ (12 < c ∧ c < 69) ∨ (69 < c ∧ c < 80) ∨ 83 < c) → y c = h c := fun c h1 h2 => by rw [yc c (by omega), wh c h1 (by omega)]
    obtain ⟨a', b', c'⟩ := CORE.i (h := h) (h' := y) ⟨fun c hc => yh c (by omega) (by omega), fun j hj => yj j (by omega)⟩ hI
    refine ⟨rfl, a', b', c', STAT_eq (fun c hc => yh c (by omega) (by omega)) (fun j hj => yj j (by omega)) hI.2.2.2.1, ?_, BOOK_eq (fun c hc => yh c (by omega) (by omega)) (fun j hj => yj j (by omega)) hI.2.2.2.2.2.1, IMG_eq (fun c hc => yh c (by omega) (by omega)) (fun j _ => by rw [yh 95 (by decide) (by decide)]) hI.2.2.2.2.2.2⟩
    unfold TXT
    rw [yc 0 (by decide), w01, w02, y16, y17]
    exact ⟨rfl, by decide, by decide, fun j hj => by omega, rfl⟩
end SPO
