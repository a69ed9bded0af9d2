/-! ===== PURE: spit ===== -/
section SPT
variable {h : HP}
theorem M_sp112 {E : HP → Prop} (hE : ∀ g, (∀ c, c ≠ 70 → g c = h c) → (∀ j, j < 5 → g 70 j = h 80 j) → E g) : p8_spit_L112 E FUEL h 0 := by
  have L : ∀ (m f i : Nat) (g : HP), m < f → i + m = 5 → (∀ c, c ≠ 70 → g c = h c) → (∀ j, j < i → g 70 j = h 80 j) → p8_spit_L112 E f g i := by
    intro m
    induction m with
    | zero =>
      intro f i g hf hi g1 g2
      obtain ⟨f, rfl⟩ : ∃ n', f = n' + 1 := ⟨f - 1, by omega⟩
      unfold p8_spit_L112
      exact brY ((wle ⟨by omega, by omega⟩ ⟨by omega, by omega⟩).mpr (by omega)) (hE g g1 (fun j hj => g2 j (by omega)))
    | succ m ih =>
      intro f i g hf hi g1 g2
      obtain ⟨f, rfl⟩ : ∃ n', f = n' + 1 := ⟨f - 1, by omega⟩
      unfold p8_spit_L112
      refine brN (fun z => by have := (wle ⟨by omega, by omega⟩ ⟨by omega, by omega⟩).mp z; omega) ?_
      refine rd_n (by omega) (by decide) (wr_n (by omega) (by decide) ?_)
      refine ih f (i + 1) _ (by omega) (by omega) (fun c hc => by rw [hset_c hc]; exact g1 c hc) (fun j hj => ?_)
      by_cases q : j = i
      · subst q; rw [hset_rs, g1 80 (by decide)]
      · rw [hset_rn q]; exact g2 j (by omega)
  exact L 5 FUEL 0 h (by decide) rfl (fun _ _ => rfl) (fun j hj => by omega)
theorem M_sp137 {E : HP → Prop} (hb : ∀ j, j < 30 → -1 ≤ h 83 j ∧ h 83 j ≤ 99) (hE : ∀ g, (∀ c, c ≠ 71 → g c = h c) → (∀ j, j < 30 → g 71 j = if h 83 j < 0 then 0 else h 83 j) → E g) : p8_spit_L137 E FUEL h 0 := by
  have L : ∀ (m f i : Nat) (g : HP), m < f → i + m = 30 → (∀ c, c ≠ 71 → g c = h c) → (∀ j, j < i → g 71 j = if h 83 j < 0 then 0 else h 83 j) → p8_spit_L137 E f g i := by
    intro m
    induction m with
    | zero =>
      intro f i g hf hi g1 g2
      obtain ⟨f, rfl⟩ : ∃ n', f = n' + 1 := ⟨f - 1, by omega⟩
      unfold p8_spit_L137
      exact brY ((wle ⟨by omega, by omega⟩ ⟨by omega, by omega⟩).mpr (by omega)) (hE g g1 (fun j hj => g2 j (by omega)))
    | succ m ih =>
      intro f i g hf hi g1 g2
      obtain ⟨f, rfl⟩ : ∃ n', f = n' + 1 := ⟨f - 1, by omega⟩
      have e83 : g 83 = h 83 := g1 83 (by decide)
      have b := hb i (by omega)
      unfold p8_spit_L137
      refine brN (fun z => by have := (wle ⟨by omega, by omega⟩ ⟨by omega, by omega⟩).mp z; omega) ?_
      refine rd_n (by omega) (by decide) ?_
      rw [e83]
      have step : ∀ v, v = (if h 83 i < 0 then 0 else h 83 i) → wr g 71 30 (i : Int) v fun h27 => p8_spit_L137 E f h27 ((i : Int) + 1) := by
        intro v hv
        refine wr_n (by omega) (by decide) ?_
        refine ih f (i + 1) _ (by omega) (by omega) (fun c hc => by rw [hset_c hc]; exact g1 c hc) (fun j hj => ?_)
        by_cases q : j = i
        · subst q; rw [hset_rs]; exact hv
        · rw [hset_rn q]; exact g2 j (by omega)
      refine jn_i (brQ (w0le ⟨by omega, by omega⟩) (fun z => rd_n (by omega) (by decide) ?_) (fun z => step 0 (by rw [if_pos (by omega)])))
      rw [e83]
      exact step _ (by rw [if_neg (by omega)])
  exact L 30 FUEL 0 h (by decide) rfl (fun _ _ => rfl) (fun j hj => by omega)
theorem M_sp176 {E : HP → Prop} (hE : ∀ g, (∀ c, c ≠ 72 → c ≠ 73 → g c = h c) → (∀ j, j < 20 → g 72 j = h 81 j ∧ g 73 j = h 82 j) → E g) : p8_spit_L176 E FUEL h 0 := by
  have L : ∀ (m f i : Nat) (g : HP), m < f → i + m = 20 → (∀ c, c ≠ 72 → c ≠ 73 → g c = h c) → (∀ j, j < i → g 72 j = h 81 j ∧ g 73 j = h 82 j) → p8_spit_L176 E f g i := by
    intro m
    induction m with
    | zero =>
      intro f i g hf hi g1 g2
      obtain ⟨f, rfl⟩ : ∃ n', f = n' + 1 := ⟨f - 1, by omega⟩
      unfold p8_spit_L176
      exact brY ((wle ⟨by omega, by omega⟩ ⟨by omega, by omega⟩).mpr (by omega)) (hE g g1 (fun j hj => g2 j (by omega)))
    | succ m ih =>
      intro f i g hf hi g1 g2
      obtain ⟨f, rfl⟩ : ∃ n', f = n' + 1 := ⟨f - 1, by omega⟩
      unfold p8_spit_L176
      refine brN (fun z => by have := (wle ⟨by omega, by omega⟩ ⟨by omega, by omega⟩).mp z; omega) ?_
      refine rd_n (by omega) (by decide) (wr_n (by omega) (by decide) (rd_n (by omega) (by decide) (wr_n (by omega) (by decide) ?_)))
      refine ih f (i + 1) _ (by omega) (by omega) (fun c h1 h2 => by rw [hset_c h2, hset_c h1]; exact g1 c h1 h2) (fun j hj => ?_)
      rw [hset_c (show (72 : Nat) ≠ 73 by decide)]
      by_cases q : j = i
      · subst q; rw [hset_rs, hset_rs, hset_c (by decide), g1 81 (by decide) (by decide), g1 82 (by decide) (by decide)]; exact ⟨rfl, rfl⟩
      · rw [hset_rn q, hset_rn q, hset_c (by decide)]; exact g2 j (by omega)
  exact L 20 FUEL 0 h (by decide) rfl (fun _ _ _ => rfl) (fun j hj => by omega)
theorem M_sp32 {E : HP → Prop} (hE : ∀ g, (∀ c, c ≠ 83 → g c = h c) → (∀ j, j < 30 → g 83 j = -1) → E g) : p8_spit_L32 E FUEL h 0 := by
  have L : ∀ (m f i : Nat) (g : HP), m < f → i + m = 30 → (∀ c, c ≠ 83 → g c = h c) → (∀ j, j < i → g 83 j = -1) → p8_spit_L32 E f g i := by
    intro m
    induction m with
    | zero =>
      intro f i g hf hi g1 g2
      obtain ⟨f, rfl⟩ : ∃ n', f = n' + 1 := ⟨f - 1, by omega⟩
      unfold p8_spit_L32
      exact brY ((wle ⟨by omega, by omega⟩ ⟨by omega, by omega⟩).mpr (by omega)) (hE g g1 (fun j hj => g2 j (by omega)))
    | succ m ih =>
      intro f i g hf hi g1 g2
      obtain ⟨f, rfl⟩ : ∃ n', f = n' + 1 := ⟨f - 1, by omega⟩
      unfold p8_spit_L32
      refine brN (fun z => by have := (wle ⟨by omega, by omega⟩ ⟨by omega, by omega⟩).mp z; omega) ?_
      refine wr_n (by omega) (by decide) ?_
      refine ih f (i + 1) _ (by omega) (by omega) (fun c hc => by rw [hset_c hc]; exact g1 c hc) (fun j hj => ?_)
      by_cases q : j = i
      · subst q; rw [hset_rs]
      · rw [hset_rn q]; exact g2 j (by omega)
  exact L 30 FUEL 0 h (by decide) rfl (fun _ _ => rfl) (fun j hj => by omega)
/-- what the model has after a text that is sound -/
def SPM (h0 D g : HP) (c : Nat) : Prop := (∀ c, c < 69 ∨ c = 79 ∨ (84 ≤ c ∧ c ≤ 95) → g c = h0 c) ∧ g 69 0 = D 0 0 ∧ g 69 1 = D 0 1 ∧ g 69 4 = (c : Int) ∧ g 69 16 = 0 ∧ g 69 17 = -1 ∧ g 69 40 = 0 ∧ g 96 0 = 0 ∧ g 96 1 = 0 ∧ (∀ j : Nat, (j : Int) < D 0 1 → g 70 j = D 1 j) ∧ (∀ j, j < 30 → g 71 j = if D 4 j < 0 then 0 else D 4 j) ∧ (∀ j : Nat, j < c → g 72 j = D 2 j ∧ g 73 j = D 3 j) ∧ LY (g 72) (g 73) (h0 69 14) (VM g) c
theorem M_spit {Q : Int → HP → Prop} {n : Nat} (hn : n ≤ 400) (h16 : h 69 16 = n) (hT : ∀ j, j < n → 0 ≤ h 79 j ∧ h 79 j ≤ 255) (ok : (psF (h 79) n 401 D0 0).1 = 0 → okE (psF (h 79) n 401 D0 0).2.2 0 → ∀ g c, (psF (h 79) n 401 D0 0).2.2 0 2 = ((c : Nat) : Int) → SPM h (psF (h 79) n 401 D0 0).2.2 g c → Q c g) (bad : (psF (h 79) n 401 D0 0).1 ≠ 0 → ∀ g, MF h (hset g 69 16 n) → g 69 16 = 0 → g 69 17 = (((psF (h 79) n 401 D0 0).2.1 : Nat) : Int) → Q (-10 - (psF (h 79) n 401 D0 0).1) g) (hk : 0 ≤ (psF (h 79) n 401 D0 0).1 ∧ (psF (h 79) n 401 D0 0).1 ≤ 4) : p8_spit h Q := by
  generalize hP : psF (h 79) n 401 D0 0 = P at *
  unfold p8_spit
  refine pf_i (pf_i (pf_i (pf_i (pf_i (pf_i ?_)))))
  generalize hg : hset (hset (hset (hset (hset (hset h 69 17 (-1)) 69 18 0) 69 23 0) 69 24 0) 69 26 0) 69 29 0 = g
  have gc : ∀ c, c ≠ 69 → g c = h c := fun c hc => by rw [← hg, hset_c hc, hset_c hc, hset_c hc, hset_c hc, hset_c hc, hset_c hc]
  have gj : ∀ j, j ≠ 17 → j ≠ 18 → j ≠ 23 → j ≠ 24 → j ≠ 26 → j ≠ 29 → g 69 j = h 69 j := fun j a1 a2 a3 a4 a5 a6 => by rw [← hg, hset_rn a6, hset_rn a5, hset_rn a4, hset_rn a3, hset_rn a2, hset_rn a1]
  have g17 : g 69 17 = -1 := by rw [← hg, hset_rn (by decide), hset_rn (by decide), hset_rn (by decide), hset_rn (by decide), hset_rn (by decide), hset_rs]
  have g18 : g 69 18 = 0 := by rw [← hg, hset_rn (by decide), hset_rn (by decide), hset_rn (by decide), hset_rn (by decide), hset_rs]
  have g23 : g 69 23 = 0 := by rw [← hg, hset_rn (by decide), hset_rn (by decide), hset_rn (by decide), hset_rs]
  have g24 : g 69 24 = 0 := by rw [← hg, hset_rn (by decide), hset_rn (by decide), hset_rs]
  have g26 : g 69 26 = 0 := by rw [← hg, hset_rn (by decide), hset_rs]
  have g29 : g 69 29 = 0 := by rw [← hg, hset_rs]
  clear hg
  refine M_sp32 (fun k k1 k2 => ?_)
  have k69 : k 69 = g 69 := k1 69 (by decide)
  have fr : MF h k := ⟨fun c hc => by rw [k1 c (by omega), gc c (by omega)], fun j hj => by rw [k69]; exact gj j (by omega) (by omega) (by omega) (by omega) (by omega) (by omega)⟩
  have R : MS (h 79) n 0 k := ⟨by rw [fr.2 16 (by decide)]; exact h16, by rw [k69]; exact g18, by omega, hn, fun j hj => ⟨by rw [fr.1 79 (by decide)], hT j hj⟩⟩
  have d : DX D0 (D0 0 1) k := by
    refine ⟨by rw [k69]; exact g23, by rw [k69]; exact g24, by rw [k69]; exact g26, by rw [k69]; exact g29, fun j hj => ?_, fun j hj => ?_, fun j hj => by rw [k2 j hj]; rfl⟩
    · have : (j : Int) < 0 := hj
      omega
    · have : (j : Int) < 0 := hj
      omega
  refine M_psL (T := h 79) (n := n) (h0 := h) 401 FUEL 0 D0 k (by omega) (by decide) (by omega) fr R d D0_ok (by rw [k69]; exact g17) (fun u ou => pf_i ?_)
  rw [hP] at ou ⊢
  refine brQ (wle0 ⟨by omega, by omega⟩) (fun z => ?_) (fun z => ?_)
  · have z0 : P.1 = 0 := by omega
    obtain ⟨dx, u17, o⟩ := ou.2.1 z0
    obtain ⟨x1, x2, x3, x4, x5, x6, x7⟩ := dx
    obtain ⟨⟨s1, s2, s3, s4⟩, o2, o3, o4, o5, o6, o7, o8, o9, o10⟩ := id o
    obtain ⟨c, hc⟩ := Int.eq_ofNat_of_zero_le o2
    refine pf_i (pf_i (pf_i ?_))
    rw [show hset u 69 16 0 69 23 = P.2.2 0 0 from by rw [hset_rn (by decide)]; exact x1]
    rw [show hset (hset u 69 16 0) 69 0 (P.2.2 0 0) 69 24 = P.2.2 0 1 from by rw [hset_rn (by decide), hset_rn (by decide)]; exact x2]
    rw [show hset (hset (hset u 69 16 0) 69 0 (P.2.2 0 0)) 69 1 (P.2.2 0 1) 69 26 = P.2.2 0 2 from by rw [hset_rn (by decide), hset_rn (by decide), hset_rn (by decide)]; exact x3]
    generalize hv : hset (hset (hset (hset u 69 16 0) 69 0 (P.2.2 0 0)) 69 1 (P.2.2 0 1)) 69 4 (P.2.2 0 2) = v
    have vc : ∀ c, c ≠ 69 → v c = u c := fun c hc => by rw [← hv, hset_c hc, hset_c hc, hset_c hc, hset_c hc]
    have vj : ∀ j, j ≠ 16 → j ≠ 0 → j ≠ 1 → j ≠ 4 → v 69 j = u 69 j := fun j a1 a2 a3 a4 => by rw [← hv, hset_rn a4, hset_rn a3, hset_rn a2, hset_rn a1]
    have v0 : v 69 0 = P.2.2 0 0 := by rw [← hv, hset_rn (by decide), hset_rn (by decide), hset_rs]
    have v1 : v 69 1 = P.2.2 0 1 := by rw [← hv, hset_rn (by decide), hset_rs]
    have v4 : v 69 4 = P.2.2 0 2 := by rw [← hv, hset_rs]
    have v16 : v 69 16 = 0 := by rw [← hv, hset_rn (by decide), hset_rn (by decide), hset_rn (by decide), hset_rs]
    clear hv
    refine M_sp112 (fun a1 a2 a3 => ?_)
    refine M_sp137 (fun j hj => by rw [a2 83 (by decide), vc 83 (by decide), x7 j hj]; exact o10 j hj) (fun b1 b2 b3 => ?_)
    refine M_sp176 (fun c1 c2 c3 => pf_i ?_)
    have e0 : (bb 0 : Int) = 0 := by decide
    rw [e0]
    refine wr_i (by decide) (by decide) (by decide) (wr_i (by decide) (by decide) (by decide) ?_)
    generalize hw : hset (hset (hset c1 69 40 0) 96 (0 : Int).toNat 0) 96 (1 : Int).toNat 0 = w
    have wc : ∀ c, c ≠ 69 → c ≠ 96 → w c = c1 c := fun c h1 h2 => by rw [← hw, hset_c h2, hset_c h2, hset_c h1]
    have wj : ∀ j, j ≠ 40 → w 69 j = c1 69 j := fun j hj => by rw [← hw, hset_c (by decide), hset_c (by decide), hset_rn hj]
    have w40 : w 69 40 = 0 := by rw [← hw, hset_c (by decide), hset_c (by decide), hset_rs]
    have w96 : w 96 0 = 0 ∧ w 96 1 = 0 := by
      rw [← hw]
      exact ⟨by rw [hset_rn (by decide)]; exact hset_rs, hset_rs⟩
    clear hw
    have q69 : c1 69 = v 69 := by rw [c2 69 (by decide) (by decide), b2 69 (by decide), a2 69 (by decide)]
    have qc : ∀ c, c ≠ 69 → c ≠ 70 → c ≠ 71 → c ≠ 72 → c ≠ 73 → c1 c = u c := fun c h1 h2 h3 h4 h5 => by rw [c2 c h4 h5, b2 c h3, a2 c h2, vc c h1]
    refine M_begin (c := c) (by rw [wj 4 (by decide), q69, v4]; exact hc) (by omega) rfl rfl (fun y ly fy => ?_)
    have y69 : ∀ j, j ≠ 7 → j ≠ 13 → j ≠ 14 → y 69 j = w 69 j := fy.2
    have y7 : y 69 7 = (c : Int) := ly.1
    rw [y7]
    refine ok z0 o y c hc ⟨fun cc hcc => ?_, ?_, ?_, ?_, ?_, ?_, ?_, ?_, ?_, fun j hj => ?_, fun j hj => ?_, fun j hj => ?_, ?_⟩
    · rw [fy.1 cc (by omega), wc cc (by omega) (by omega), qc cc (by omega) (by omega) (by omega) (by omega) (by omega)]
      exact ou.1.1 cc (by omega)
    · rw [y69 0 (by decide) (by decide) (by decide), wj 0 (by decide), q69, v0]
    · rw [y69 1 (by decide) (by decide) (by decide), wj 1 (by decide), q69, v1]
    · rw [y69 4 (by decide) (by decide) (by decide), wj 4 (by decide), q69, v4]; exact hc
    · rw [y69 16 (by decide) (by decide) (by decide), wj 16 (by decide), q69, v16]
    · rw [y69 17 (by decide) (by decide) (by decide), wj 17 (by decide), q69, vj 17 (by decide) (by decide) (by decide) (by decide)]; exact u17
    · rw [y69 40 (by decide) (by decide) (by decide), w40]
    · rw [fy.1 96 (by decide)]; exact w96.1
    · rw [fy.1 96 (by decide)]; exact w96.2
    · rw [fy.1 70 (by decide), wc 70 (by decide) (by decide), c2 70 (by decide) (by decide), b2 70 (by decide), a3 j (by omega), vc 80 (by decide)]
      exact x5 j hj
    · rw [fy.1 71 (by decide), wc 71 (by decide) (by decide), c2 71 (by decide) (by decide), b3 j hj, a2 83 (by decide), vc 83 (by decide), x7 j hj]
    · rw [fy.1 72 (by decide), fy.1 73 (by decide), wc 72 (by decide) (by decide), wc 73 (by decide) (by decide), (c3 j (by omega)).1, (c3 j (by omega)).2, b2 81 (by decide), b2 82 (by decide), a2 81 (by decide), a2 82 (by decide), vc 81 (by decide), vc 82 (by decide)]
      exact x6 j (by omega)
    · rw [fy.1 72 (by decide), fy.1 73 (by decide)]
      have e14 : w 69 14 = h 69 14 := by rw [wj 14 (by decide), q69, vj 14 (by decide) (by decide) (by decide) (by decide), ou.1.2 14 (by decide)]
      rw [e14] at ly
      exact ly
  · have z0 : P.1 ≠ 0 := by omega
    refine bad z0 _ ?_ hset_rs (by rw [hset_rn (by decide)]; exact ou.2.2 z0)
    rw [hset_ov]
    have e : hset u 69 16 (n : Int) = u := by rw [← h16, ← ou.1.2 16 (by decide), hset_sf]
    rw [e]
    exact ou.1
end SPT
