/-! ===== PURE: copies and images ===== -/
theorem hcpy_c {h : HP} {c1 p1 c2 p2 n c : Nat} (hc : c ≠ c2) : hcpy h c1 p1 c2 p2 n c = h c := by
  funext j
  unfold hcpy
  rw [if_neg (fun z => hc z.1)]
theorem hcpy_i {h : HP} {c1 c2 n j : Nat} (hj : j < n) : hcpy h c1 0 c2 0 n c2 j = h c1 j := by
  unfold hcpy
  rw [if_pos ⟨rfl, by omega, by omega⟩, show 0 + (j - 0) = j from by omega]
section CPY
variable {b q : Nat} {h : HP}
theorem C_copyFrom {Q : HP → Prop} (hb : 13 ≤ b) (hq : 13 ≤ q) (hd : b + 8 ≤ q ∨ q + 8 ≤ b) (hI : SI q h) (h1 : ∀ h', SI b h' → eqv (VC q h) (VC b h') → FR b h h' → Q h') : p5_copyFrom b q h Q := by
  obtain ⟨s1, s2, s3, s4⟩ := id hI.1
  unfold p5_copyFrom
  refine pf_i (pf_i (pf_i (cp_i (cp_i (cp_i (cp_i (cp_i (cp_i (cp_i ?_)))))))))
  rw [show hset h b 1 (h q 1) q 2 = h q 2 from by rw [hset_c (by omega)]]
  rw [show hset (hset h b 1 (h q 1)) b 2 (h q 2) q 3 = h q 3 from by rw [hset_c (by omega), hset_c (by omega)]]
  generalize hg : hset (hset (hset h b 1 (h q 1)) b 2 (h q 2)) b 3 (h q 3) = g
  have gF : ∀ c, c ≠ b → g c = h c := fun c hc => by rw [← hg, hset_c hc, hset_c hc, hset_c hc]
  have gb : ∀ j, j < 3 → g b (j + 1) = h q (j + 1) := fun j hj => by
    rw [← hg]
    match j, hj with
    | 0, _ => rw [hset_rn (by decide), hset_rn (by decide), hset_rs]
    | 1, _ => rw [hset_rn (by decide), hset_rs]
    | 2, _ => rw [hset_rs]
  generalize hk : hcpy (hcpy (hcpy (hcpy (hcpy (hcpy (hcpy g (q + 1) 0 (b + 1) 0 32) (q + 2) 0 (b + 2) 0 32) (q + 3) 0 (b + 3) 0 32) (q + 4) 0 (b + 4) 0 32) (q + 5) 0 (b + 5) 0 640) (q + 6) 0 (b + 6) 0 5) (q + 7) 0 (b + 7) 0 30 = k
  have kF : ∀ c, c ≤ b ∨ b + 7 < c → k c = g c := fun c hc => by
    rw [← hk, hcpy_c (by omega), hcpy_c (by omega), hcpy_c (by omega), hcpy_c (by omega), hcpy_c (by omega), hcpy_c (by omega), hcpy_c (by omega)]
  have k1 : ∀ j, j < 32 → k (b + 1) j = h (q + 1) j := fun j hj => by
    rw [← hk, hcpy_c (by omega), hcpy_c (by omega), hcpy_c (by omega), hcpy_c (by omega), hcpy_c (by omega), hcpy_c (by omega), hcpy_i hj, gF _ (by omega)]
  have k2 : ∀ j, j < 32 → k (b + 2) j = h (q + 2) j := fun j hj => by
    rw [← hk, hcpy_c (by omega), hcpy_c (by omega), hcpy_c (by omega), hcpy_c (by omega), hcpy_c (by omega), hcpy_i hj, hcpy_c (by omega), gF _ (by omega)]
  have k3 : ∀ j, j < 32 → k (b + 3) j = h (q + 3) j := fun j hj => by
    rw [← hk, hcpy_c (by omega), hcpy_c (by omega), hcpy_c (by omega), hcpy_c (by omega), hcpy_i hj, hcpy_c (by omega), hcpy_c (by omega), gF _ (by omega)]
  have k4 : ∀ j, j < 32 → k (b + 4) j = h (q + 4) j := fun j hj => by
    rw [← hk, hcpy_c (by omega), hcpy_c (by omega), hcpy_c (by omega), hcpy_i hj, hcpy_c (by omega), hcpy_c (by omega), hcpy_c (by omega), gF _ (by omega)]
  have k5 : ∀ j, j < 640 → k (b + 5) j = h (q + 5) j := fun j hj => by
    rw [← hk, hcpy_c (by omega), hcpy_c (by omega), hcpy_i hj, hcpy_c (by omega), hcpy_c (by omega), hcpy_c (by omega), hcpy_c (by omega), gF _ (by omega)]
  have k6 : ∀ j, j < 5 → k (b + 6) j = h (q + 6) j := fun j hj => by
    rw [← hk, hcpy_c (by omega), hcpy_i hj, hcpy_c (by omega), hcpy_c (by omega), hcpy_c (by omega), hcpy_c (by omega), hcpy_c (by omega), gF _ (by omega)]
  have k7 : ∀ j, j < 30 → k (b + 7) j = h (q + 7) j := fun j hj => by
    rw [← hk, hcpy_i hj, hcpy_c (by omega), hcpy_c (by omega), hcpy_c (by omega), hcpy_c (by omega), hcpy_c (by omega), hcpy_c (by omega), gF _ (by omega)]
  have kb : ∀ j, j < 3 → k b (j + 1) = h q (j + 1) := fun j hj => by rw [kF b (by omega)]; exact gb j hj
  have e : eqv (VC q h) (VC b k) := by
    have hc : VC q h 0 0 ≤ 32 := hI.2.1.2.1
    refine ⟨fun j hj => ?_, fun i p a1 a2 hp => ?_, fun p j hp hj => ?_⟩
    · show (if (0 : Nat) = 0 then (if j < 3 then h q (j + 1) else 0) else _) = (if (0 : Nat) = 0 then (if j < 3 then k b (j + 1) else 0) else _)
      rw [if_pos rfl, if_pos rfl, if_pos hj, if_pos hj, kb j hj]
    · match i, a1, a2 with
      | 1, _, _ => exact (k1 p (by omega)).symm
      | 2, _, _ => exact (k2 p (by omega)).symm
      | 3, _, _ => exact (k3 p (by omega)).symm
      | 4, _, _ => exact (k4 p (by omega)).symm
    · have h20 := hI.2.1.2.2.1 p hp
      unfold okP at h20
      exact (k5 (20 * p + j) (by omega)).symm
  have f2 : k 2 = h 2 := by rw [kF 2 (by omega), gF 2 (by omega)]
  refine h1 k ⟨by rw [f2]; exact hI.1, by rw [f2]; exact wf_eqv hI.2.1 e, fun x hx => ?_, fun x y hx hy => ?_⟩ e (fun c hc => by rw [kF c (by omega), gF c (by omega)])
  · rw [f2] at hx
    rw [k6 x (by omega), hI.2.2.1 x hx, e.co]
  · rw [f2] at hx hy
    rw [k7 _ (by omega), hI.2.2.2 x y hx hy, e.cs]
end CPY
section SAV
variable {h : HP}
theorem M_save {Q : HP → Prop} {i : Nat} (hi : i ≤ 2) (hq : ∀ h', (∀ c, c ≠ 95 → h' c = h c) → (∀ j, j < 800 * i ∨ 800 * i + 771 ≤ j → h' 95 j = h 95 j) → (∀ j, j < 3 → VI i h' 0 j = VM h 0 j) → (∀ r p, 1 ≤ r → r ≤ 4 → p < 32 → VI i h' r p = VM h r p) → (∀ j, j < 640 → VI i h' 5 j = VM h 5 j) → Q h') : p8_save i h Q := by
  unfold p8_save
  have L2 : ∀ (E : HP → Prop) (g0 : HP), (∀ c, c ≠ 95 → g0 c = h c) → (∀ g, (∀ c, c ≠ 95 → g c = h c) → (∀ j, j < 800 * i + 128 ∨ 800 * i + 768 ≤ j → g 95 j = g0 95 j) → (∀ j, j < 640 → g 95 (800 * i + 128 + j) = h 78 j) → E g) → ∀ (m f p : Nat) (g : HP), m < f → p + m = 640 → (∀ c, c ≠ 95 → g c = h c) → (∀ j, j < 800 * i + 128 ∨ 800 * i + 768 ≤ j → g 95 j = g0 95 j) → (∀ j, j < p → g 95 (800 * i + 128 + j) = h 78 j) → p8_save_L87 (800 * (i : Int)) E f g p := by
    intro E g0 hg0 hE m
    induction m with
    | zero =>
      intro f p g hf hp g1 g2 g3
      obtain ⟨f, rfl⟩ : ∃ n', f = n' + 1 := ⟨f - 1, by omega⟩
      unfold p8_save_L87
      refine brY ((wle ⟨by omega, by omega⟩ ⟨by omega, by omega⟩).mpr (by omega)) ?_
      exact hE g g1 g2 (fun j hj => g3 j (by omega))
    | succ m ih =>
      intro f p g hf hp g1 g2 g3
      obtain ⟨f, rfl⟩ : ∃ n', f = n' + 1 := ⟨f - 1, by omega⟩
      unfold p8_save_L87
      refine brN (fun z => by have := (wle ⟨by omega, by omega⟩ ⟨by omega, by omega⟩).mp z; omega) ?_
      refine rd_n (by omega) (by decide) ?_
      refine wr_i (by omega) (by omega) (by decide) ?_
      rw [show (800 * (i : Int) + 128 + p).toNat = 800 * i + 128 + p from by omega]
      refine ih f (p + 1) _ (by omega) (by omega) (fun c hc => by rw [hset_c hc]; exact g1 c hc) (fun j hj => by rw [hset_rn (by omega)]; exact g2 j hj) (fun j hj => ?_)
      by_cases c : j = p
      · subst c; rw [hset_rs, g1 78 (by decide)]
      · rw [hset_rn (by omega)]; exact g3 j (by omega)
  have L1 : ∀ (E : HP → Prop), (∀ g, (∀ c, c ≠ 95 → g c = h c) → (∀ j, j < 800 * i ∨ 800 * i + 128 ≤ j → g 95 j = h 95 j) → (∀ r q, 1 ≤ r → r ≤ 4 → q < 32 → g 95 (800 * i + 32 * (r - 1) + q) = h (73 + r) q) → E g) → ∀ (m f p : Nat) (g : HP), m < f → p + m = 32 → (∀ c, c ≠ 95 → g c = h c) → (∀ j, j < 800 * i ∨ 800 * i + 128 ≤ j → g 95 j = h 95 j) → (∀ r q, 1 ≤ r → r ≤ 4 → q < p → g 95 (800 * i + 32 * (r - 1) + q) = h (73 + r) q) → p8_save_L8 (800 * (i : Int)) E f g p := by
    intro E hE m
    induction m with
    | zero =>
      intro f p g hf hp g1 g2 g3
      obtain ⟨f, rfl⟩ : ∃ n', f = n' + 1 := ⟨f - 1, by omega⟩
      unfold p8_save_L8
      refine brY ((wle ⟨by omega, by omega⟩ ⟨by omega, by omega⟩).mpr (by omega)) ?_
      exact hE g g1 g2 (fun r q h1 h2 hj => g3 r q h1 h2 (by omega))
    | succ m ih =>
      intro f p g hf hp g1 g2 g3
      obtain ⟨f, rfl⟩ : ∃ n', f = n' + 1 := ⟨f - 1, by omega⟩
      unfold p8_save_L8
      refine brN (fun z => by have := (wle ⟨by omega, by omega⟩ ⟨by omega, by omega⟩).mp z; omega) ?_
      refine rd_n (by omega) (by decide) (wr_i (by omega) (by omega) (by decide) (rd_n (by omega) (by decide) (wr_i (by omega) (by omega) (by decide) (rd_n (by omega) (by decide) (wr_i (by omega) (by omega) (by decide) (rd_n (by omega) (by decide) (wr_i (by omega) (by omega) (by decide) ?_)))))))
      rw [show (800 * (i : Int) + p).toNat = 800 * i + p from by omega, show (800 * (i : Int) + 32 + p).toNat = 800 * i + 32 + p from by omega, show (800 * (i : Int) + 64 + p).toNat = 800 * i + 64 + p from by omega, show (800 * (i : Int) + 96 + p).toNat = 800 * i + 96 + p from by omega]
      rw [hset_c (show (77 : Nat) ≠ 95 by decide), hset_c (show (77 : Nat) ≠ 95 by decide), hset_c (show (77 : Nat) ≠ 95 by decide), hset_c (show (76 : Nat) ≠ 95 by decide), hset_c (show (76 : Nat) ≠ 95 by decide), hset_c (show (75 : Nat) ≠ 95 by decide), g1 74 (by decide), g1 75 (by decide), g1 76 (by decide), g1 77 (by decide)]
      refine ih f (p + 1) _ (by omega) (by omega) (fun c hc => by rw [hset_c hc, hset_c hc, hset_c hc, hset_c hc]; exact g1 c hc) (fun j hj => by rw [hset_rn (by omega), hset_rn (by omega), hset_rn (by omega), hset_rn (by omega)]; exact g2 j hj) (fun r q h1 h2 hj => ?_)
      by_cases c : q = p
      · subst c
        match r, h1, h2 with
        | 1, _, _ => rw [hset_rn (by omega), hset_rn (by omega), hset_rn (by omega), show 800 * i + 32 * (1 - 1) + q = 800 * i + q from by omega, hset_rs]
        | 2, _, _ => rw [hset_rn (by omega), hset_rn (by omega), show 800 * i + 32 * (2 - 1) + q = 800 * i + 32 + q from by omega, hset_rs]
        | 3, _, _ => rw [hset_rn (by omega), show 800 * i + 32 * (3 - 1) + q = 800 * i + 64 + q from by omega, hset_rs]
        | 4, _, _ => rw [show 800 * i + 32 * (4 - 1) + q = 800 * i + 96 + q from by omega, hset_rs]
      · rw [hset_rn (by omega), hset_rn (by omega), hset_rn (by omega), hset_rn (by omega)]; exact g3 r q h1 h2 (by omega)
  refine L1 _ (fun g a1 a2 a3 => ?_) 32 FUEL 0 h (by unfold FUEL; omega) (by omega) (fun _ _ => rfl) (fun _ _ => rfl) (fun r q _ _ hq => by omega)
  refine L2 _ g a1 (fun k b1 b2 b3 => ?_) 640 FUEL 0 g (by unfold FUEL; omega) (by omega) a1 (fun _ _ => rfl) (fun j hj => by omega)
  refine wr_i (by omega) (by omega) (by decide) (wr_i (by omega) (by omega) (by decide) (wr_i (by omega) (by omega) (by decide) ?_))
  rw [show (800 * (i : Int) + 768).toNat = 800 * i + 768 from by omega, show (800 * (i : Int) + 769).toNat = 800 * i + 769 from by omega, show (800 * (i : Int) + 770).toNat = 800 * i + 770 from by omega]
  rw [hset_c (show (69 : Nat) ≠ 95 by decide), hset_c (show (69 : Nat) ≠ 95 by decide), hset_c (show (69 : Nat) ≠ 95 by decide), b1 69 (by decide)]
  refine hq _ (fun c hc => by rw [hset_c hc, hset_c hc, hset_c hc]; exact b1 c hc) (fun j hj => ?_) (fun j hj => ?_) (fun r p h1 h2 hp => ?_) (fun j hj => ?_)
  · rw [hset_rn (by omega), hset_rn (by omega), hset_rn (by omega), b2 j (by omega), a2 j (by omega)]
  · rw [VI_0 hj]
    match j, hj with
    | 0, _ => rw [hset_rn (by omega), hset_rn (by omega), hset_rs]; rfl
    | 1, _ => rw [hset_rn (by omega), hset_rs]; rfl
    | 2, _ => rw [hset_rs]; rfl
  · rw [VI_r h1 h2, hset_rn (by omega), hset_rn (by omega), hset_rn (by omega), b2 _ (by omega), a3 r p h1 h2 hp]
    unfold VM
    rw [if_neg (by omega), if_pos (by omega)]
  · rw [VI_5, hset_rn (by omega), hset_rn (by omega), hset_rn (by omega), b3 j hj]; rfl
theorem M_load {Q : HP → Prop} {i : Nat} (hi : i ≤ 2) (hq : ∀ h', FM h h' → (∀ j, j < 3 → VM h' 0 j = VI i h 0 j) → (∀ r p, 1 ≤ r → r ≤ 4 → p < 32 → VM h' r p = VI i h r p) → (∀ j, j < 640 → VM h' 5 j = VI i h 5 j) → Q h') : p8_load i h Q := by
  unfold p8_load
  have L2 : ∀ (E : HP → Prop) (g0 : HP), (g0 95 = h 95) → (∀ g, (∀ c, c ≠ 78 → g c = g0 c) → (∀ j, j < 640 → g 78 j = h 95 (800 * i + 128 + j)) → E g) → ∀ (m f p : Nat) (g : HP), m < f → p + m = 640 → (∀ c, c ≠ 78 → g c = g0 c) → (∀ j, j < p → g 78 j = h 95 (800 * i + 128 + j)) → p8_load_L87 (800 * (i : Int)) E f g p := by
    intro E g0 hg0 hE m
    induction m with
    | zero =>
      intro f p g hf hp g1 g3
      obtain ⟨f, rfl⟩ : ∃ n', f = n' + 1 := ⟨f - 1, by omega⟩
      unfold p8_load_L87
      refine brY ((wle ⟨by omega, by omega⟩ ⟨by omega, by omega⟩).mpr (by omega)) ?_
      exact hE g g1 (fun j hj => g3 j (by omega))
    | succ m ih =>
      intro f p g hf hp g1 g3
      obtain ⟨f, rfl⟩ : ∃ n', f = n' + 1 := ⟨f - 1, by omega⟩
      unfold p8_load_L87
      refine brN (fun z => by have := (wle ⟨by omega, by omega⟩ ⟨by omega, by omega⟩).mp z; omega) ?_
      refine rd_i (by omega) (by omega) (by decide) ?_
      refine wr_n (by omega) (by decide) ?_
      rw [show (800 * (i : Int) + 128 + p).toNat = 800 * i + 128 + p from by omega]
      refine ih f (p + 1) _ (by omega) (by omega) (fun c hc => by rw [hset_c hc]; exact g1 c hc) (fun j hj => ?_)
      by_cases c : j = p
      · subst c; rw [hset_rs, g1 95 (by decide), hg0]
      · rw [hset_rn c]; exact g3 j (by omega)
  have L1 : ∀ (E : HP → Prop), (∀ g, (∀ c, c < 74 ∨ 77 < c → g c = h c) → (∀ r q, 1 ≤ r → r ≤ 4 → q < 32 → g (73 + r) q = h 95 (800 * i + 32 * (r - 1) + q)) → E g) → ∀ (m f p : Nat) (g : HP), m < f → p + m = 32 → (∀ c, c < 74 ∨ 77 < c → g c = h c) → (∀ r q, 1 ≤ r → r ≤ 4 → q < p → g (73 + r) q = h 95 (800 * i + 32 * (r - 1) + q)) → p8_load_L8 (800 * (i : Int)) E f g p := by
    intro E hE m
    induction m with
    | zero =>
      intro f p g hf hp g1 g3
      obtain ⟨f, rfl⟩ : ∃ n', f = n' + 1 := ⟨f - 1, by omega⟩
      unfold p8_load_L8
      refine brY ((wle ⟨by omega, by omega⟩ ⟨by omega, by omega⟩).mpr (by omega)) ?_
      exact hE g g1 (fun r q h1 h2 hj => g3 r q h1 h2 (by omega))
    | succ m ih =>
      intro f p g hf hp g1 g3
      obtain ⟨f, rfl⟩ : ∃ n', f = n' + 1 := ⟨f - 1, by omega⟩
      unfold p8_load_L8
      refine brN (fun z => by have := (wle ⟨by omega, by omega⟩ ⟨by omega, by omega⟩).mp z; omega) ?_
      refine rd_i (by omega) (by omega) (by decide) (wr_n (by omega) (by decide) (rd_i (by omega) (by omega) (by decide) (wr_n (by omega) (by decide) (rd_i (by omega) (by omega) (by decide) (wr_n (by omega) (by decide) (rd_i (by omega) (by omega) (by decide) (wr_n (by omega) (by decide) ?_)))))))
      rw [show (800 * (i : Int) + p).toNat = 800 * i + p from by omega, show (800 * (i : Int) + 32 + p).toNat = 800 * i + 32 + p from by omega, show (800 * (i : Int) + 64 + p).toNat = 800 * i + 64 + p from by omega, show (800 * (i : Int) + 96 + p).toNat = 800 * i + 96 + p from by omega]
      rw [hset_c (show (95 : Nat) ≠ 76 by decide), hset_c (show (95 : Nat) ≠ 75 by decide), hset_c (show (95 : Nat) ≠ 74 by decide), g1 95 (by decide)]
      refine ih f (p + 1) _ (by omega) (by omega) (fun c hc => by rw [hset_c (by omega), hset_c (by omega), hset_c (by omega), hset_c (by omega)]; exact g1 c hc) (fun r q h1 h2 hj => ?_)
      by_cases c : q = p
      · subst c
        match r, h1, h2 with
        | 1, _, _ => rw [show 73 + 1 = 74 from rfl, hset_c (by decide), hset_c (by decide), hset_c (by decide), hset_rs]; congr 1
        | 2, _, _ => rw [show 73 + 2 = 75 from rfl, hset_c (by decide), hset_c (by decide), hset_rs]
        | 3, _, _ => rw [show 73 + 3 = 76 from rfl, hset_c (by decide), hset_rs]
        | 4, _, _ => rw [show 73 + 4 = 77 from rfl, hset_rs]
      · rw [hset_ne (by omega), hset_ne (by omega), hset_ne (by omega), hset_ne (by omega)]; exact g3 r q h1 h2 (by omega)
  refine L1 _ (fun g a1 a3 => ?_) 32 FUEL 0 h (by unfold FUEL; omega) (by omega) (fun _ _ => rfl) (fun r q _ _ hq => by omega)
  refine L2 _ g (a1 95 (by decide)) (fun k b1 b3 => ?_) 640 FUEL 0 g (by unfold FUEL; omega) (by omega) (fun _ _ => rfl) (fun j hj => by omega)
  have k95 : k 95 = h 95 := by rw [b1 95 (by decide), a1 95 (by decide)]
  refine rd_i (by omega) (by omega) (by decide) (pf_i (rd_i (by omega) (by omega) (by decide) (pf_i (rd_i (by omega) (by omega) (by decide) (pf_i ?_)))))
  rw [show (800 * (i : Int) + 768).toNat = 800 * i + 768 from by omega, show (800 * (i : Int) + 769).toNat = 800 * i + 769 from by omega, show (800 * (i : Int) + 770).toNat = 800 * i + 770 from by omega]
  rw [hset_c (show (95 : Nat) ≠ 69 by decide), hset_c (show (95 : Nat) ≠ 69 by decide), hset_c (show (95 : Nat) ≠ 69 by decide), k95]
  have hv : VM (hset (hset (hset k 69 7 (h 95 (800 * i + 768))) 69 13 (h 95 (800 * i + 769))) 69 14 (h 95 (800 * i + 770))) = hset (hset (hset (VM k) 0 0 (h 95 (800 * i + 768))) 0 1 (h 95 (800 * i + 769))) 0 2 (h 95 (800 * i + 770)) := by
    rw [VM_f2, VM_f1, VM_f0]
  refine hq _ ⟨fun c hc => by rw [hset_c (by omega), hset_c (by omega), hset_c (by omega), b1 c (by omega), a1 c (by omega)], fun j h1 h2 h3 => by rw [hset_rn h3, hset_rn h2, hset_rn h1, b1 69 (by decide), a1 69 (by decide)]⟩ (fun j hj => ?_) (fun r p h1 h2 hp => ?_) (fun j hj => ?_)
  · rw [hv, VI_0 hj]
    match j, hj with
    | 0, _ => rw [hset_rn (by decide), hset_rn (by decide), hset_rs]
    | 1, _ => rw [hset_rn (by decide), hset_rs]
    | 2, _ => rw [hset_rs]
  · rw [hv, VI_r h1 h2, hset_c (by omega), hset_c (by omega), hset_c (by omega), ← a3 r p h1 h2 hp]
    unfold VM
    rw [if_neg (by omega), if_pos (by omega), b1 _ (by omega)]
  · rw [hv, VI_5, hset_c (by decide), hset_c (by decide), hset_c (by decide), ← b3 j hj]; rfl
end SAV
