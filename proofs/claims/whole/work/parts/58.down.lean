/-! ===== PURE: down ===== -/
section DOWN
theorem jn_r {α : Sort _} {K : α} {B : α → Prop} (P : α → Prop) (hB : ∀ K', P K' → B K') (hK : P K) : jn K B := hB K hK
variable {W : Nat → Int}
def dnF (A B : Nat → Int) (x : Int) (N : Nat) : Int := fs (fun g => if x = -1 ∨ x = g then A g - B g else 0) 0 N
theorem M_down1 {E : HP → Prop} {M : Nat} {y z : Int} (hW : okW W) (hM : M ≤ 99) : ∀ (m f i : Nat) (h : HP), m < f → i + m = M → MI h → h 71 = W → (∀ h', MI h' → VM h' = wsH 0 (h 69 0) W (h 69 1).toNat m (VM h) → FM h h' → E h') → p8_down_L59 y M z E f h i := by
  intro m
  induction m with
  | zero =>
    intro f i h hf hi hI hw hq
    obtain ⟨f, rfl⟩ : ∃ n', f = n' + 1 := ⟨f - 1, by omega⟩
    unfold p8_down_L59
    exact brY ((wle ⟨by omega, by omega⟩ ⟨by omega, by omega⟩).mpr (by omega)) (hq h hI rfl FM.rf)
  | succ m ih =>
    intro f i h hf hi hI hw hq
    obtain ⟨f, rfl⟩ : ∃ n', f = n' + 1 := ⟨f - 1, by omega⟩
    unfold p8_down_L59
    refine brN (fun z => by have := (wle ⟨by omega, by omega⟩ ⟨by omega, by omega⟩).mp z; omega) ?_
    refine M_weekNow hW hI hw (fun h1 i1 i2 i3 => ?_)
    obtain ⟨f0, f1, f71⟩ := fm_MI i3
    refine ih f (i + 1) h1 (by omega) (by omega) i1 (by rw [f71]; exact hw) (fun h2 j1 j2 j3 => ?_)
    rw [f0, f1, i2] at j2
    have hc : ∀ V, cvV 0 (h 69 0) V = V := fun V => by unfold cvV; rw [if_neg (by omega)]
    exact hq h2 j1 (by
      show _ = wsH 0 (h 69 0) W (h 69 1).toNat m (wkV W (h 69 1).toNat (cvV 0 (h 69 0) (VM h)))
      rw [hc]; exact j2) (i3.tr j3)
theorem M_down2 {E : HP → Prop} {M : Nat} {z : Int} (hW : okW W) (hM : M ≤ 99) : ∀ (m f i : Nat) (h : HP), m < f → i + m = M → MI h → h 71 = W → (∀ h', MI h' → VM h' = wsH 0 (h 69 0) W (h 69 1).toNat m (VM h) → FM h h' → E h') → p8_down_L123 M z E f h i := by
  intro m
  induction m with
  | zero =>
    intro f i h hf hi hI hw hq
    obtain ⟨f, rfl⟩ : ∃ n', f = n' + 1 := ⟨f - 1, by omega⟩
    unfold p8_down_L123
    exact brY ((wle ⟨by omega, by omega⟩ ⟨by omega, by omega⟩).mpr (by omega)) (hq h hI rfl FM.rf)
  | succ m ih =>
    intro f i h hf hi hI hw hq
    obtain ⟨f, rfl⟩ : ∃ n', f = n' + 1 := ⟨f - 1, by omega⟩
    unfold p8_down_L123
    refine brN (fun z => by have := (wle ⟨by omega, by omega⟩ ⟨by omega, by omega⟩).mp z; omega) ?_
    refine M_weekNow hW hI hw (fun h1 i1 i2 i3 => ?_)
    obtain ⟨f0, f1, f71⟩ := fm_MI i3
    refine ih f (i + 1) h1 (by omega) (by omega) i1 (by rw [f71]; exact hw) (fun h2 j1 j2 j3 => ?_)
    rw [f0, f1, i2] at j2
    have hc : ∀ V, cvV 0 (h 69 0) V = V := fun V => by unfold cvV; rw [if_neg (by omega)]
    exact hq h2 j1 (by
      show _ = wsH 0 (h 69 0) W (h 69 1).toNat m (wkV W (h 69 1).toNat (cvV 0 (h 69 0) (VM h)))
      rw [hc]; exact j2) (i3.tr j3)
theorem M_down3 {E : HP → Prop} {x y z : Int} {h : HP} (hI : MI h) (hE : ∀ g, (∀ c, c ≠ 84 → g c = h c) → (∀ j : Nat, (j : Int) < h 69 1 → g 84 j = weV (VM h) (h 71) (h 69 0).toNat j) → E g) : p8_down_L80 x y z E FUEL h 0 := by
  obtain ⟨s1, s2, s3, s4⟩ := id hI.1
  have L : ∀ (m f i : Nat) (g : HP), m < f → (i : Int) + m = h 69 1 → (∀ c, c ≠ 84 → g c = h c) → (∀ j : Nat, j < i → g 84 j = weV (VM h) (h 71) (h 69 0).toNat j) → p8_down_L80 x y z E f g i := by
    intro m
    induction m with
    | zero =>
      intro f i g hf hi g1 g2
      obtain ⟨f, rfl⟩ : ∃ n', f = n' + 1 := ⟨f - 1, by omega⟩
      unfold p8_down_L80
      rw [g1 69 (by decide)]
      exact brY ((wle ⟨by omega, by omega⟩ ⟨by omega, by omega⟩).mpr (by omega)) (hE g g1 (fun j hj => g2 j (by omega)))
    | succ m ih =>
      intro f i g hf hi g1 g2
      obtain ⟨f, rfl⟩ : ∃ n', f = n' + 1 := ⟨f - 1, by omega⟩
      have eV : VM g = VM h := VM_eq (by rw [g1 69 (by decide)]) (by rw [g1 69 (by decide)]) (by rw [g1 69 (by decide)]) (fun i _ _ => g1 _ (by omega))
      have hG : MI g := by unfold MI; rw [eV, g1 69 (by decide)]; exact hI
      unfold p8_down_L80
      rw [g1 69 (by decide)]
      refine brN (fun z => by have := (wle ⟨by omega, by omega⟩ ⟨by omega, by omega⟩).mp z; omega) ?_
      refine M_wealthOf hG (by rw [g1 69 (by decide)]; omega) ?_
      refine wr_n (by omega) (by decide) ?_
      refine ih f (i + 1) _ (by omega) (by omega) (fun c hc => by rw [hset_c hc]; exact g1 c hc) (fun j hj => ?_)
      by_cases c : j = i
      · subst c; rw [hset_rs, eV, g1 71 (by decide), g1 69 (by decide)]
      · rw [hset_rn c]; exact g2 j (by omega)
  exact L (h 69 1).toNat FUEL 0 h (by unfold FUEL; omega) (by omega) (fun _ _ => rfl) (fun j hj => by omega)
theorem M_down4 {E : Int → Prop} {x : Int} (hx : can x) {h : HP} {B : Nat → Int} (hI : MI h) (hB : ∀ j : Nat, (j : Int) < h 69 1 → h 84 j = B j) (hE : E (dnF (fun g => weV (VM h) (h 71) (h 69 0).toNat g) B x (h 69 1).toNat)) : p8_down_L147 x h E FUEL 0 0 := by
  obtain ⟨s1, s2, s3, s4⟩ := id hI.1
  have L : ∀ (m f i : Nat) (acc : Int), m < f → (i : Int) + m = h 69 1 → E (acc + fs (fun g => if x = -1 ∨ x = g then weV (VM h) (h 71) (h 69 0).toNat g - B g else 0) i m) → p8_down_L147 x h E f acc i := by
    intro m
    induction m with
    | zero =>
      intro f i acc hf hi hq
      obtain ⟨f, rfl⟩ : ∃ n', f = n' + 1 := ⟨f - 1, by omega⟩
      unfold p8_down_L147
      refine brY ((wle ⟨by omega, by omega⟩ ⟨by omega, by omega⟩).mpr (by omega)) ?_
      rw [show acc + fs _ i 0 = acc from by show acc + 0 = acc; omega] at hq
      exact hq
    | succ m ih =>
      intro f i acc hf hi hq
      obtain ⟨f, rfl⟩ : ∃ n', f = n' + 1 := ⟨f - 1, by omega⟩
      unfold p8_down_L147
      refine brN (fun z => by have := (wle ⟨by omega, by omega⟩ ⟨by omega, by omega⟩).mp z; omega) ?_
      rw [show fs (fun g => if x = -1 ∨ x = (g : Int) then weV (VM h) (h 71) (h 69 0).toNat g - B g else 0) i (m + 1) = (if x = -1 ∨ x = (i : Int) then weV (VM h) (h 71) (h 69 0).toNat i - B i else 0) + fs (fun g => if x = -1 ∨ x = (g : Int) then weV (VM h) (h 71) (h 69 0).toNat g - B g else 0) (i + 1) m from rfl, ← Int.add_assoc] at hq
      refine jn_h (fun K => (x = -1 ∨ x = i) → K) (fun c => ?_) (fun K hK => ?_)
      · refine M_wealthOf hI (by omega) (rd_n (by omega) (by decide) ?_)
        rw [hB i (by omega)]
        rw [if_pos c] at hq
        exact ih f (i + 1) _ (by omega) (by omega) hq
      · refine brQ (weq hx ⟨by omega, by omega⟩) (fun c => hK (Or.inl c)) (fun c => ?_)
        refine brQ (weq ⟨by omega, by omega⟩ hx) (fun d => hK (Or.inr d.symm)) (fun d => ?_)
        rw [if_neg (by omega)] at hq
        exact ih f (i + 1) _ (by omega) (by omega) hq
  refine L (h 69 1).toNat FUEL 0 0 (by unfold FUEL; omega) (by omega) ?_
  rw [Int.zero_add]; exact hE
theorem C_down3 {E : HP → Prop} {h : HP} (hI : SI 21 h) (hE : ∀ g, (∀ c, c ≠ 68 → g c = h c) → (∀ j : Nat, (j : Int) < h 2 1 → g 68 j = weV (VC 21 h) (h 6) (h 2 0).toNat j) → E g) : p7_tryWithout_L23 E FUEL h 0 := by
  obtain ⟨s1, s2, s3, s4⟩ := id hI.1
  have L : ∀ (m f i : Nat) (g : HP), m < f → (i : Int) + m = h 2 1 → (∀ c, c ≠ 68 → g c = h c) → (∀ j : Nat, j < i → g 68 j = weV (VC 21 h) (h 6) (h 2 0).toNat j) → p7_tryWithout_L23 E f g i := by
    intro m
    induction m with
    | zero =>
      intro f i g hf hi g1 g2
      obtain ⟨f, rfl⟩ : ∃ n', f = n' + 1 := ⟨f - 1, by omega⟩
      unfold p7_tryWithout_L23
      rw [g1 2 (by decide)]
      exact brY ((wle ⟨by omega, by omega⟩ ⟨by omega, by omega⟩).mpr (by omega)) (hE g g1 (fun j hj => g2 j (by omega)))
    | succ m ih =>
      intro f i g hf hi g1 g2
      obtain ⟨f, rfl⟩ : ∃ n', f = n' + 1 := ⟨f - 1, by omega⟩
      have eV : VC 21 g = VC 21 h := VC_eq (fun j _ => by rw [g1 21 (by decide)]) (fun i _ _ => g1 _ (by omega))
      have hG : SI 21 g := SI_eq (g1 2 (by decide)) (fun i hi => g1 _ (by omega)) hI
      unfold p7_tryWithout_L23
      rw [g1 2 (by decide)]
      refine brN (fun z => by have := (wle ⟨by omega, by omega⟩ ⟨by omega, by omega⟩).mp z; omega) ?_
      refine C_wealthOf hG (by rw [g1 2 (by decide)]; omega) ?_
      refine wr_n (by omega) (by decide) ?_
      refine ih f (i + 1) _ (by omega) (by omega) (fun c hc => by rw [hset_c hc]; exact g1 c hc) (fun j hj => ?_)
      by_cases c : j = i
      · subst c; rw [hset_rs, eV, g1 6 (by decide), g1 2 (by decide)]
      · rw [hset_rn c]; exact g2 j (by omega)
  exact L (h 2 1).toNat FUEL 0 h (by unfold FUEL; omega) (by omega) (fun _ _ => rfl) (fun j hj => by omega)
theorem C_down4 {Q : Int → HP → Prop} {x : Int} (hx : can x) {h : HP} {B : Nat → Int} (hI : SI 21 h) (hB : ∀ j : Nat, (j : Int) < h 2 1 → h 68 j = B j) (hE : Q (dnF (fun g => weV (VC 21 h) (h 6) (h 2 0).toNat g) B x (h 2 1).toNat) h) : p7_down_L101 x h Q FUEL 0 0 := by
  obtain ⟨s1, s2, s3, s4⟩ := id hI.1
  have L : ∀ (m f i : Nat) (acc : Int), m < f → (i : Int) + m = h 2 1 → Q (acc + fs (fun g => if x = -1 ∨ x = g then weV (VC 21 h) (h 6) (h 2 0).toNat g - B g else 0) i m) h → p7_down_L101 x h Q f acc i := by
    intro m
    induction m with
    | zero =>
      intro f i acc hf hi hq
      obtain ⟨f, rfl⟩ : ∃ n', f = n' + 1 := ⟨f - 1, by omega⟩
      unfold p7_down_L101
      refine brY ((wle ⟨by omega, by omega⟩ ⟨by omega, by omega⟩).mpr (by omega)) ?_
      rw [show acc + fs _ i 0 = acc from by show acc + 0 = acc; omega] at hq
      exact hq
    | succ m ih =>
      intro f i acc hf hi hq
      obtain ⟨f, rfl⟩ : ∃ n', f = n' + 1 := ⟨f - 1, by omega⟩
      unfold p7_down_L101
      refine brN (fun z => by have := (wle ⟨by omega, by omega⟩ ⟨by omega, by omega⟩).mp z; omega) ?_
      rw [show fs (fun g => if x = -1 ∨ x = (g : Int) then weV (VC 21 h) (h 6) (h 2 0).toNat g - B g else 0) i (m + 1) = (if x = -1 ∨ x = (i : Int) then weV (VC 21 h) (h 6) (h 2 0).toNat i - B i else 0) + fs (fun g => if x = -1 ∨ x = (g : Int) then weV (VC 21 h) (h 6) (h 2 0).toNat g - B g else 0) (i + 1) m from rfl, ← Int.add_assoc] at hq
      refine jn_h (fun K => (x = -1 ∨ x = i) → K) (fun c => ?_) (fun K hK => ?_)
      · refine C_wealthOf hI (by omega) (rd_n (by omega) (by decide) ?_)
        rw [hB i (by omega)]
        rw [if_pos c] at hq
        exact ih f (i + 1) _ (by omega) (by omega) hq
      · refine brQ (weq hx ⟨by omega, by omega⟩) (fun c => hK (Or.inl c)) (fun c => ?_)
        refine brQ (weq hx ⟨by omega, by omega⟩) (fun d => hK (Or.inr d)) (fun d => ?_)
        rw [if_neg (by omega), Int.add_zero] at hq
        exact ih f (i + 1) _ (by omega) (by omega) hq
  refine L (h 2 1).toNat FUEL 0 0 (by unfold FUEL; omega) (by omega) ?_
  rw [Int.zero_add]; exact hE
theorem dnF_eq {A B A' B' : Nat → Int} {x : Int} {N : Nat} (hA : ∀ g, g < N → A' g = A g) (hB : ∀ g, g < N → B' g = B g) : dnF A' B' x N = dnF A B x N := by
  unfold dnF
  exact fs_congr N 0 (fun g _ hg => by rw [hA g (by omega), hB g (by omega)])
theorem op_down {h : HP} (hI : INV h) {x y z : Int} (hx : can x) (hy : can y) (hz : can z) : p7_down x y z h (fun r1 h1 => p8_down x y z h1 (fun r2 h2 => OK2 r1 r2 h2)) := by
  have := hy.1; have := hy.2
  have e := hI.2.2.1
  have cn := hI.cnt
  have s0 := hI.s0
  have s1 := hI.s1
  have hst := hI.st
  have hst' := hI.1.1
  unfold okSt at hst
  have c2 : h 13 1 ≤ 32 := hI.1.2.1.2.1
  have c1 : 0 ≤ h 13 1 := hI.1.2.1.1
  unfold p7_down
  refine C_isSort hx hI.1.1 (fun z1 z2 => brN (by decide) ?_) (fun w => brY (by decide) (by unfold p8_down; exact M_isSortN hI hx w (brY (by decide) ⟨rfl, hI⟩)))
  obtain ⟨k, rfl⟩ := Int.eq_ofNat_of_zero_le z1
  -- the model, where the house is one
  have mk : (z = -1 ∨ (0 ≤ z ∧ z < h 69 1)) → ∀ {P : Int → HP → Prop} {h1 : HP}, MI h1 → h1 69 = h 69 → (¬ (1 ≤ y ∧ y ≤ 20) → P (-1000000002) h1) → ((1 ≤ y ∧ y ≤ 20) → (brc (w32 (h1 69 7) = w32 32) (P (-1000000004) h1) (p8_save 2 h1 fun h5 => p8_down_L59 k y z (fun (h8 : HP) => p8_down_L80 k y z (fun (h11 : HP) => p8_load 2 h11 fun h12 => p8_ashoreNow k h12 fun r13 h14 => p8_down_L123 y z (fun (h17 : HP) => p8_down_L147 z h17 (fun (y21 : Int) => p8_load 2 h17 fun h22 => P y21 h22) FUEL 0 0) FUEL h14 0) FUEL h8 0) FUEL h5 0))) → p8_down k y z h1 P := by
    intro hzz P h1 hM f69 g1 g2
    unfold p8_down
    refine M_sY hM (by rw [f69]; omega) (brN (by decide) ?_)
    refine jn_h (fun K => K) ?_ (fun K hK => ?_)
    · rw [w_id hy.1 hy.2]
      exact in_i ⟨by omega, by omega⟩ ⟨by omega, by omega⟩ ⟨by omega, by omega⟩ (fun a b => brN (by decide) (g2 ⟨a, b⟩)) (fun a => brY (by decide) (g1 a))
    · refine brQ (weq hz ⟨by omega, by omega⟩) (fun _ => hK) (fun c => ?_)
      refine M_isHouse hz hM.1 (fun _ _ => brN (by decide) hK) (fun q => absurd ?_ q)
      rw [f69]; rcases hzz with c' | c'
      · exact absurd c' c
      · exact c'
  refine jn_r (fun K => (z = -1 ∨ (0 ≤ z ∧ z < h 69 1)) → K) (fun K hK => ?_) (fun hzz => ?_)
  · refine brQ (weq hz ⟨by omega, by omega⟩) (fun c => hK (Or.inl c)) (fun c => ?_)
    refine C_isHouse hz hI.1.1 (fun a b => brN (by decide) (hK (Or.inr ⟨a, by omega⟩))) (fun w => brY (by decide) ?_)
    unfold p8_down
    refine M_isSortY hI z2 (brN (by decide) (jn_i (brN (by rw [weq hz ⟨by omega, by omega⟩]; exact c) (M_isHouseN hI hz w (brY (by decide) ⟨rfl, hI⟩)))))
  refine brQ (wlt hy ⟨by omega, by omega⟩) (fun w => mk hzz hI.2.1 rfl (fun _ => ⟨rfl, hI⟩) (fun q => by omega)) (fun w => ?_)
  refine brQ (wle hy ⟨by omega, by omega⟩) (fun w2 => ?_) (fun w2 => mk hzz hI.2.1 rfl (fun _ => ⟨rfl, hI⟩) (fun q => by omega))
  refine brQ (wlt ⟨by omega, by omega⟩ ⟨by omega, by omega⟩) (fun w3 => ?_) (fun w3 => mk hzz hI.2.1 rfl (fun q => by omega) (fun _ => brY (by rw [← cn, show h 13 1 = 32 from by omega]) ⟨rfl, hI⟩))
  obtain ⟨n, rfl⟩ := Int.eq_ofNat_of_zero_le (show 0 ≤ y by omega)
  generalize hN : (h 2 1).toNat = N
  have hNi : (N : Int) = h 2 1 := by omega
  have hV := hI.1.2.1
  -- the class
  unfold p7_tryWithout
  refine C_copyFrom (by decide) (by decide) (by decide) hI.1 (fun h1 i1 i2 i3 => ?_)
  refine C_liveWeeks (W := h 6) (by decide) hI.w6 (Or.inl rfl) (by omega) i1 (i3 6 (by decide)) (fun q => by omega) (fun h2 j1 j2 j3 => ?_)
  refine C_down3 j1 (fun h3 k1 k2 => ?_)
  have F3 : ∀ c, c < 21 ∨ 28 < c → c ≠ 68 → h3 c = h c := fun c a b => by rw [k1 c b, j3 c (by omega), i3 c (by omega)]
  have hI3 : SI 13 h3 := SI_eq (F3 2 (by decide) (by decide)) (fun i hi => F3 _ (by omega) (by omega)) hI.1
  have eV3 : VC 13 h3 = VC 13 h := VC_eq (fun j _ => by rw [F3 13 (by decide) (by decide)]) (fun i _ _ => F3 _ (by omega) (by omega))
  refine C_copyFrom (by decide) (by decide) (by decide) hI3 (fun h4 l1 l2 l3 => ?_)
  have f42 : h4 2 = h 2 := by rw [l3 2 (by decide), F3 2 (by decide) (by decide)]
  have c4 : h4 21 1 = h 13 1 := by
    have := l2.1 0 (by decide)
    rw [eV3] at this
    exact this.symm
  refine C_addPart (by decide) l1 (by rw [f42]; exact z2) (fun _ h5 m1 m2 m3 m4 => ?_) (fun q => by omega)
  have f56 : h5 6 = h 6 := by rw [m3 6 (by decide), l3 6 (by decide), F3 6 (by decide) (by decide)]
  have f52 : h5 2 = h 2 := by rw [m3 2 (by decide), f42]
  refine C_liveWeeks (W := h 6) (by decide) hI.w6 (Or.inl rfl) (by omega) m1 f56 (fun q => by omega) (fun h6 n1 n2 n3 => ?_)
  have F6 : ∀ c, c < 21 ∨ 28 < c → c ≠ 68 → h6 c = h c := fun c a b => by rw [n3 c (by omega), m3 c (by omega), l3 c (by omega), F3 c a b]
  have f68 : h6 68 = h3 68 := by rw [n3 68 (by decide), m3 68 (by decide), l3 68 (by decide)]
  have f12 : h1 2 = h 2 := i3 2 (by decide)
  have f22 : h2 2 = h 2 := by rw [j3 2 (by decide), f12]
  have f26 : h2 6 = h 6 := by rw [j3 6 (by decide), i3 6 (by decide)]
  rw [f12, hN] at j2
  rw [f52, hN] at n2
  -- the weeks without and with it
  have wsB := eqv.ws (d := 0) hst' (fun q => by omega) (W := h 6) (W' := h 6) (fun _ _ => rfl) hNi n _ _ i2 hV
  have eA4 : eqv (addV (VC 13 h) k) (addV (VC 21 h4) k) := by
    have := l2
    rw [eV3] at this
    exact this.add k c1
  have hVA : wfV (h 2 0) (h 2 1) (addV (VC 13 h) k) := wf_add hV (by omega) (by omega) z2 w3
  have wsA := eqv.ws (d := 0) hst' (fun q => by omega) (W := h 6) (W' := h 6) (fun _ _ => rfl) hNi n _ _ eA4 hVA
  have SPEC : dnF (fun g => weV (VC 21 h6) (h6 6) (h6 2 0).toNat g) (fun g => weV (VC 21 h2) (h2 6) (h2 2 0).toNat g) z (h6 2 1).toNat = dnF (fun g => weV (wsH 0 (h 2 0) (h 6) N n (addV (VC 13 h) k)) (h 6) (h 2 0).toNat g) (fun g => weV (wsH 0 (h 2 0) (h 6) N n (VC 13 h)) (h 6) (h 2 0).toNat g) z N := by
    rw [F6 2 (by decide) (by decide), F6 6 (by decide) (by decide), f22, f26, hN]
    refine dnF_eq (fun g hg => ?_) (fun g hg => ?_)
    · rw [n2, m2]; exact wsA.1.we g (fun _ _ => rfl)
    · rw [j2]; exact wsB.1.we g (fun _ _ => rfl)
  refine C_down4 (B := fun g => weV (VC 21 h2) (h2 6) (h2 2 0).toNat g) hz n1 (fun j hj => by rw [f68]; exact k2 j (by rw [f22]; rw [F6 2 (by decide) (by decide)] at hj; exact hj)) ?_
  rw [SPEC]
  -- the model
  have hm : ∀ c, 69 ≤ c → h6 c = h c := fun c hc => F6 c (by omega) (by omega)
  have g69 := hm 69 (by decide)
  have g71 := hm 71 (by decide)
  have eVM : VM h6 = VM h := VM_eq (by rw [g69]) (by rw [g69]) (by rw [g69]) (fun i _ _ => hm _ (by omega))
  have hM6 : MI h6 := by unfold MI; rw [eVM, g69]; exact hI.2.1
  refine mk hzz hM6 g69 (fun q => by omega) (fun _ => ?_)
  refine brN (by rw [g69, weq ⟨by omega, by omega⟩ ⟨by omega, by omega⟩]; omega) ?_
  refine M_save (i := 2) (by decide) (fun q1 a1 a2 a3 a4 a5 => ?_)
  have b69 : q1 69 = h 69 := by rw [a1 69 (by decide), g69]
  have b71 : q1 71 = h 71 := by rw [a1 71 (by decide), g71]
  have eV1 : VM q1 = VM h := by rw [← eVM]; exact VM_eq (by rw [a1 69 (by decide)]) (by rw [a1 69 (by decide)]) (by rw [a1 69 (by decide)]) (fun i _ _ => a1 _ (by omega))
  have hM1 : MI q1 := by unfold MI; rw [eV1, b69]; exact hI.2.1
  refine M_down1 hI.w71 (by omega) n FUEL 0 q1 (by unfold FUEL; omega) (by omega) hM1 b71 (fun q2 d1 d2 d3 => ?_)
  rw [b69, eV1, ← s0, ← s1, hN] at d2
  obtain ⟨e20, e21, e271⟩ := fm_MI d3
  rw [b69] at e20 e21
  refine M_down3 d1 (fun q3 o1 o2 => ?_)
  have e395 : q3 95 = q1 95 := by rw [o1 95 (by decide), d3.1 95 (by decide)]
  have eVI3 : VI 2 q3 = VI 2 q1 := by unfold VI; rw [e395]
  refine M_load (i := 2) (by decide) (fun q4 r1 r2 r3 r4 => ?_)
  rw [eVI3] at r2 r3 r4
  have e4 : eqv (VC 13 h) (VM q4) := e.r hV (fun j hj => by rw [r2 j hj, a3 j hj, eVM]) (fun r p u v w => by rw [r3 r p u v w, a4 r p u v w, eVM]) (fun j hj => by rw [r4 j hj, a5 j hj, eVM])
  obtain ⟨u0, u1, u71⟩ := fm_MI r1
  have v0 : q4 69 0 = h 69 0 := by rw [u0, o1 69 (by decide), e20]
  have v1 : q4 69 1 = h 69 1 := by rw [u1, o1 69 (by decide), e21]
  have v71 : q4 71 = h 71 := by rw [u71, o1 71 (by decide), e271, b71]
  have hM4 : MI q4 := by
    unfold MI
    rw [v0, v1]
    refine ⟨hI.st, ?_⟩
    have := wf_eqv hV e4
    rw [s0, s1] at this
    exact this
  have c74 : q4 69 7 = h 13 1 := (e4.1 0 (by decide)).symm
  refine M_ashoreNow hM4 (by rw [v0]; omega) (by rw [c74]; exact w3) (fun q5 t1 t2 t3 => ?_)
  obtain ⟨x0, x1, x71⟩ := fm_MI t3
  refine M_down2 hI.w71 (by omega) n FUEL 0 q5 (by unfold FUEL; omega) (by omega) t1 (by rw [x71, v71]) (fun q6 y1 y2 y3 => ?_)
  obtain ⟨p0, p1, p71⟩ := fm_MI y3
  have w0 : q6 69 0 = h 69 0 := by rw [p0, x0, v0]
  have w1 : q6 69 1 = h 69 1 := by rw [p1, x1, v1]
  have w71 : q6 71 = h 71 := by rw [p71, x71, v71]
  have w84 : q6 84 = q3 84 := by rw [y3.1 84 (by decide), t3.1 84 (by decide), r1.1 84 (by decide)]
  rw [x0, x1, v0, v1, ← s0, ← s1, hN, t2] at y2
  refine M_down4 (B := fun g => weV (VM q2) (h 71) (h 69 0).toNat g) hz y1 (fun j hj => by
    rw [w84, o2 j (by rw [e21]; rw [w1] at hj; exact hj), e20, e271, b71]) ?_
  refine M_load (i := 2) (by decide) (fun q7 f1 f2 f3 f4 => ?_)
  refine ⟨?_, back hI (Or.inr ?_) hm a1 (fun j hj => a2 j (by omega)) a3 a4 a5 (h2 := q6) (fun c hc => ?_) (fun j hj => ?_) f1 f2 f3 f4⟩
  · rw [w0, w1, w71, ← s1, hN]
    congr 1
    have mB := eqv.ws (d := 0) hst' (fun q => by omega) (W := h 6) (W' := h 71) hI.ww hNi n _ _ e hV
    have mA := eqv.ws (d := 0) hst' (fun q => by omega) (W := h 6) (W' := h 71) hI.ww hNi n _ _ (e4.add k c1) hVA
    symm
    refine dnF_eq (fun g hg => ?_) (fun g hg => ?_)
    · show weV (VM q6) (h 71) (h 69 0).toNat g = weV _ (h 6) (h 2 0).toNat g
      rw [y2, s0] at *
      exact mA.1.we g (fun j hj => hI.ww _ (by omega))
    · show weV (VM q2) (h 71) (h 69 0).toNat g = weV _ (h 6) (h 2 0).toNat g
      rw [d2, s0] at *
      exact mB.1.we g (fun j hj => hI.ww _ (by omega))
  · exact ⟨fun c hc => F6 c (by omega) (by omega), fun j _ => by rw [F6 95 (by decide) (by decide)], fun j _ => by rw [g69]⟩
  · rw [y3.1 c (by omega), t3.1 c (by omega), r1.1 c (by omega), o1 c (by omega), d3.1 c (by omega)]
  · rw [y3.2 j (by omega) (by omega) (by omega), t3.2 j (by omega) (by omega) (by omega), r1.2 j (by omega) (by omega) (by omega), o1 69 (by omega), d3.2 j (by omega) (by omega) (by omega)]
end DOWN
