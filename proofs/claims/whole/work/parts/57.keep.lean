/-! ===== PURE: keep, goBack, judge ===== -/
section KEEP
variable {h : HP}
theorem op_keep (hI : INV h) {x : Int} (hx : can x) : p7_keep x h (fun r1 h1 => p8_keep x h1 (fun r2 h2 => OK2 r1 r2 h2)) := by
  have := hx.1; have := hx.2
  have e := hI.2.2.1
  have mk : ∀ {P : Int → HP → Prop} {h1 : HP}, (¬ (0 ≤ x ∧ x ≤ 1) → P (-1000000001) h1) → ((0 ≤ x ∧ x ≤ 1) → p8_save x h1 fun h2 => wr h2 96 2 x (bb 1) fun h3 => P 1 h3) → p8_keep x h1 P := by
    intro P h1 g1 g2
    unfold p8_keep
    rw [w_id hx.1 hx.2]
    exact in_i ⟨by omega, by omega⟩ ⟨by omega, by omega⟩ ⟨by omega, by omega⟩ (fun a b => brN (by decide) (g2 ⟨a, b⟩)) (fun a => brY (by decide) (g1 a))
  have FIN : ∀ (i : Nat) (B : Nat), i < 2 → B = 30 + 8 * i → x = i → ∀ h1, SI B h1 → eqv (VC 13 h) (VC B h1) → FR B h h1 → wr h1 46 2 x (bb 1) fun h2 => p8_keep x h2 (fun r2 h2 => OK2 1 r2 h2) := by
    intro i B hi hB hxi h1 i1 i2 i3
    have hbb : bb 1 = 1 := by decide
    rw [hbb]
    rw [hxi]
    refine wr_n (by omega) (by decide) ?_
    rw [← hxi]
    refine mk (fun q => by omega) (fun _ => ?_)
    rw [hbb]
    rw [hxi]
    refine M_save (by omega) (fun h3 j1 j2 j3 j4 j5 => ?_)
    refine wr_n (by omega) (by decide) ?_
    refine ⟨rfl, ?_⟩
    generalize hh4 : hset h3 96 i 1 = h4
    have f : ∀ c, c ≠ 96 → c ≠ 95 → c ≠ 46 → (c < B ∨ B + 7 < c) → h4 c = h c := fun c a1 a2 a3 a4 => by
      rw [← hh4, hset_c a1, j1 c a2, hset_c a3, i3 c a4]
    have f4 : ∀ c, c ≠ 96 → h4 c = h3 c := fun c a => by rw [← hh4, hset_c a]
    have fB : ∀ c, B ≤ c → c ≤ B + 7 → h4 c = h1 c := fun c a1 a2 => by
      rw [f4 c (by omega), j1 c (by omega), hset_c (by omega)]
    obtain ⟨a', b', c'⟩ := CORE.i (h := h) (h' := h4) ⟨fun c hc => f c (by omega) (by omega) (by omega) (by omega), fun j hj => by rw [f 69 (by omega) (by omega) (by omega) (by omega)]⟩ hI
    refine ⟨a', b', c', STAT_eq (fun c hc => f c (by omega) (by omega) (by omega) (by omega)) (fun j hj => by rw [f 69 (by omega) (by omega) (by omega) (by omega)]) hI.2.2.2.1, TXT_eq (fun c hc => f c (by omega) (by omega) (by omega) (by omega)) (fun j hj => by rw [f 69 (by omega) (by omega) (by omega) (by omega)]) hI.2.2.2.2.1, BOOK_eq (fun c hc => f c (by omega) (by omega) (by omega) (by omega)) (fun j hj => by rw [f 69 (by omega) (by omega) (by omega) (by omega)]) hI.2.2.2.2.2.1, ?_⟩
    intro k hk
    have v46 : h4 46 k = if k = i then 1 else h 46 k := by
      rw [f4 46 (by decide), j1 46 (by decide)]
      by_cases c : k = i
      · subst c; rw [if_pos rfl, hset_rs]
      · rw [if_neg c, hset_rn c, i3 46 (by omega)]
    have v96 : h4 96 k = if k = i then 1 else h 96 k := by
      rw [← hh4]
      by_cases c : k = i
      · subst c; rw [if_pos rfl, hset_rs]
      · rw [if_neg c, hset_rn c, j1 96 (by decide), hset_c (by decide), i3 96 (by omega)]
    rw [v46, v96]
    have f2 : h4 2 = h 2 := f 2 (by decide) (by decide) (by decide) (by omega)
    by_cases c : k = i
    · subst c
      rw [if_pos rfl, if_pos rfl]
      refine ⟨rfl, Or.inr ⟨rfl, ?_, ?_⟩⟩
      · rw [← hB]
        exact SI_eq (by rw [f2, i3 2 (by omega)]) (fun k hk => fB _ (by omega) (by omega)) i1
      · rw [← hB, VC_eq (h := h1) (h' := h4) (b := B) (fun j _ => by rw [fB B (by omega) (by omega)]) (fun k h1 h2 => fB _ (by omega) (by omega))]
        have hM : VM (hset h1 46 k 1) = VM h := by
          rw [VM_oth (by decide)]
          exact VM_eq (by rw [i3 69 (by omega)]) (by rw [i3 69 (by omega)]) (by rw [i3 69 (by omega)]) (fun r _ _ => i3 _ (by omega))
        have f95 : h4 95 = h3 95 := f4 95 (by decide)
        have eVI : VI k h4 = VI k h3 := by unfold VI; rw [f95]
        rw [eVI]
        refine (i2.sy.tr e).r i1.2.1 (fun j hj => by rw [j3 j hj, hM]) (fun r p h1 h2 hp => by rw [j4 r p h1 h2 hp, hM]) (fun j hj => by rw [j5 j hj, hM])
    · rw [if_neg c, if_neg c]
      refine ⟨(hI.2.2.2.2.2.2 k hk).1, ?_⟩
      rcases (hI.2.2.2.2.2.2 k hk).2 with z | ⟨z1, z2, z3⟩
      · exact Or.inl z
      · refine Or.inr ⟨z1, SI_eq f2 (fun r hr => f _ (by omega) (by omega) (by omega) (by omega)) z2, ?_⟩
        rw [VC_eq (h := h) (h' := h4) (b := 30 + 8 * k) (fun j _ => by rw [f (30 + 8 * k) (by omega) (by omega) (by omega) (by omega)]) (fun r h1 h2 => f _ (by omega) (by omega) (by omega) (by omega))]
        have g95 : ∀ j, j < 800 * i ∨ 800 * i + 771 ≤ j → h4 95 j = h 95 j := fun j hj => by
          rw [f4 95 (by decide), j2 j hj, hset_c (by decide), i3 95 (by omega)]
        refine z3.r z2.2.1 (fun j hj => ?_) (fun r p h1 h2 h3 => ?_) (fun j hj => ?_)
        · rw [VI_0 hj, VI_0 hj, g95 _ (by omega)]
        · rw [VI_r h1 h2, VI_r h1 h2, g95 _ (by omega)]
        · rw [VI_5, VI_5, g95 _ (by omega)]
  unfold p7_keep
  refine brQ (wlt0 hx) (fun z => mk (fun _ => ⟨rfl, hI⟩) (fun q => by omega)) (fun z => ?_)
  refine brQ (wlt hx ⟨by omega, by omega⟩) (fun w => ?_) (fun w => mk (fun _ => ⟨rfl, hI⟩) (fun q => by omega))
  rw [w_id hx.1 hx.2]
  refine ⟨by omega, fun q => ?_, fun q => ?_⟩
  · exact C_copyFrom (by decide) (by decide) (by decide) hI.1 (fun h1 i1 i2 i3 => FIN 0 30 (by decide) rfl q h1 i1 i2 i3)
  · exact C_copyFrom (by decide) (by decide) (by decide) hI.1 (fun h1 i1 i2 i3 => FIN 1 38 (by decide) rfl q h1 i1 i2 i3)
theorem op_goBack (hI : INV h) {x : Int} (hx : can x) : p7_goBack x h (fun r1 h1 => p8_goBack x h1 (fun r2 h2 => OK2 r1 r2 h2)) := by
  have := hx.1; have := hx.2
  have mk : ∀ {P : Int → HP → Prop} {h1 : HP}, (¬ (0 ≤ x ∧ x ≤ 1) → P (-1000000001) h1) → ((0 ≤ x ∧ x ≤ 1) → rd h1 96 2 x fun v2 => brc (w32 v2 = 0) (P (-1000000003) h1) (p8_load x h1 fun h3 => P 1 h3)) → p8_goBack x h1 P := by
    intro P h1 g1 g2
    unfold p8_goBack
    rw [w_id hx.1 hx.2]
    exact in_i ⟨by omega, by omega⟩ ⟨by omega, by omega⟩ ⟨by omega, by omega⟩ (fun a b => brN (by decide) (g2 ⟨a, b⟩)) (fun a => brY (by decide) (g1 a))
  unfold p7_goBack
  refine brQ (wlt0 hx) (fun z => mk (fun _ => ⟨rfl, hI⟩) (fun q => by omega)) (fun z => ?_)
  refine brQ (wlt hx ⟨by omega, by omega⟩) (fun w => ?_) (fun w => mk (fun _ => ⟨rfl, hI⟩) (fun q => by omega))
  obtain ⟨i, rfl⟩ := Int.eq_ofNat_of_zero_le (show 0 ≤ x by omega)
  refine rd_n (by omega) (by decide) ?_
  have hG := hI.2.2.2.2.2.2 i (by omega)
  have hc : can (h 46 i) := by
    rw [hG.1]
    rcases hG.2 with q | q
    · rw [q]; exact ⟨by decide, by decide⟩
    · rw [q.1]; exact ⟨by decide, by decide⟩
  refine brQ (weq0 hc) (fun v => mk (fun q => by omega) (fun _ => rd_n (by omega) (by decide) (brY ((weq0 (by rw [← hG.1]; exact hc)).mpr (by rw [← hG.1]; exact v)) ⟨rfl, hI⟩))) (fun v => ?_)
  rcases hG.2 with q | ⟨q1, q2, q3⟩
  · rw [hG.1] at v; exact absurd q v
  have FIN : ∀ h1, SI 13 h1 → eqv (VC (30 + 8 * i) h) (VC 13 h1) → FR 13 h h1 → p8_goBack i h1 (fun r2 h2 => OK2 1 r2 h2) := by
    intro h1 i1 i2 i3
    refine mk (fun q => by omega) (fun _ => rd_n (by omega) (by decide) (brN ?_ ?_))
    · rw [i3 96 (by decide), q1]; decide
    · refine M_load (by omega) (fun h2 j1 j2 j3 j4 => ?_)
      have eVI : VI i h1 = VI i h := by unfold VI; rw [i3 95 (by decide)]
      rw [eVI] at j2 j3 j4
      have ee : eqv (VC 13 h1) (VM h2) := (i2.sy.tr q3).r i1.2.1 j2 j3 j4
      refine ⟨rfl, INV_step hI i1 i3 ?_ j1 ee⟩
      obtain ⟨g0, g1, _⟩ := fm_MI j1
      unfold MI
      rw [g0, g1, i3 69 (by decide)]
      refine ⟨hI.st, ?_⟩
      have := wf_eqv i1.2.1 ee
      rw [i3 2 (by decide), hI.s0, hI.s1] at this
      exact this
  rw [w_id hx.1 hx.2]
  refine ⟨by omega, fun q => ?_, fun q => ?_⟩
  · obtain rfl : i = 0 := by omega
    exact C_copyFrom (by decide) (by decide) (by decide) q2 (fun h1 i1 i2 i3 => FIN h1 i1 i2 i3)
  · obtain rfl : i = 1 := by omega
    exact C_copyFrom (by decide) (by decide) (by decide) q2 (fun h1 i1 i2 i3 => FIN h1 i1 i2 i3)
/-- the parts are back -/
theorem INV_back {h' : HP} (hI : INV h) (fc : ∀ c, c ≤ 6 ∨ (13 ≤ c ∧ c ≤ 20) ∨ (30 ≤ c ∧ c ≤ 50) ∨ (70 ≤ c ∧ c ≤ 73) ∨ c = 79 ∨ (92 ≤ c ∧ c ≤ 94) ∨ c = 96 → h' c = h c) (f95 : ∀ j, j < 1600 → h' 95 j = h 95 j) (ff : ∀ j, j = 0 ∨ j = 1 ∨ j = 4 ∨ j = 16 ∨ j = 17 ∨ j = 40 → h' 69 j = h 69 j) (v0 : ∀ j, j < 3 → VM h' 0 j = VM h 0 j) (v1 : ∀ r p, 1 ≤ r → r ≤ 4 → p < 32 → VM h' r p = VM h r p) (v5 : ∀ j, j < 640 → VM h' 5 j = VM h 5 j) : INV h' := by
  have hc : VC 13 h' = VC 13 h := VC_eq (fun j _ => by rw [fc 13 (by decide)]) (fun i _ _ => fc _ (by omega))
  have ee : eqv (VC 13 h') (VM h') := by rw [hc]; exact hI.2.2.1.r hI.1.2.1 v0 v1 v5
  have i1 : SI 13 h' := SI_eq (fc 2 (by decide)) (fun i hi => fc _ (by omega)) hI.1
  refine ⟨i1, ?_, ee, STAT_eq (fun c hc => fc c (by omega)) (fun j hj => ff j (by omega)) hI.2.2.2.1, TXT_eq (fun c hc => fc c (by omega)) (fun j hj => ff j (by omega)) hI.2.2.2.2.1, BOOK_eq (fun c hc => fc c (by omega)) (fun j hj => ff j (by omega)) hI.2.2.2.2.2.1, IMG_eq (fun c hc => fc c (by omega)) f95 hI.2.2.2.2.2.2⟩
  unfold MI
  rw [ff 0 (by decide), ff 1 (by decide)]
  refine ⟨hI.st, ?_⟩
  have := wf_eqv i1.2.1 ee
  rw [fc 2 (by decide), hI.s0, hI.s1] at this
  exact this
def jgF (B P T : Nat → Int) : Nat → HP → Nat → Int
  | 0, _, _ => -1
  | m + 1, V, i => if P i < V 0 0 then (if T i = 0 then (if V 2 (P i).toNat = B i then jgF B P T m (tossV V (B i) (P i).toNat) (i + 1) else i) else (if mayT V (B i) (P i).toNat then jgF B P T m (takeV V (B i) (P i).toNat) (i + 1) else i)) else i
def okBk (n : Int) (c : Nat) (B P T : Nat → Int) : Prop := ∀ i, i < c → 0 ≤ B i ∧ B i < n ∧ 0 ≤ P i ∧ P i < 32 ∧ (T i = 0 ∨ T i = 1)
theorem eqv.jg {s n : Int} {c : Nat} {B P T B' P' T' : Nat → Int} (hB : okBk n c B P T) (eB : ∀ i, i < c → B' i = B i ∧ P' i = P i ∧ T' i = T i) : ∀ (m i : Nat) (V V' : HP), i + m = c → eqv V V' → wfV s n V → jgF B' P' T' m V' i = jgF B P T m V i := by
  intro m
  induction m with
  | zero => intro i V V' _ _ _; rfl
  | succ m ih =>
    intro i V V' hi e hV
    obtain ⟨b1, b2, b3, b4, b5⟩ := hB i (by omega)
    obtain ⟨e1, e2, e3⟩ := eB i (by omega)
    unfold jgF
    rw [e1, e2, e3, ← e.1 0 (by decide)]
    by_cases c1 : P i < V 0 0
    · have hp : (((P i).toNat : Nat) : Int) < V 0 0 := by omega
      have hpn : (P i).toNat < nP V := by unfold nP; omega
      rw [if_pos c1, if_pos c1]
      by_cases c2 : T i = 0
      · rw [if_pos c2, if_pos c2, ← e.2.1 2 _ (by decide) (by decide) hp]
        by_cases c3 : V 2 (P i).toNat = B i
        · rw [if_pos c3, if_pos c3]
          exact ih (i + 1) _ _ (by omega) (e.toss _ _) (wf_toss hV hpn c3 b1 b2)
        · rw [if_neg c3, if_neg c3]
      · rw [if_neg c2, if_neg c2]
        have h4 := ok4 hV _ hp
        by_cases c3 : mayT V (B i) (P i).toNat
        · rw [if_pos c3, if_pos ((e.may hp).mpr c3)]
          exact ih (i + 1) _ _ (by omega) (e.take _ hp h4.1 h4.2 (ok4 hV)) (wf_take hV hpn c3 b1 b2)
        · rw [if_neg c3, if_neg (fun z => c3 ((e.may hp).mp z))]
    · rw [if_neg c1, if_neg c1]
theorem C_firstWrong {Q : Int → HP → Prop} {c : Nat} (hc : h 47 0 = c) (hc2 : c ≤ 40) (hB : okBk (h 2 1) c (h 48) (h 49) (h 50)) : ∀ (m f i : Nat) (g : HP), m < f → i + m = c → SI 21 g → FR 21 h g → (∀ g', FR 21 h g' → Q (jgF (h 48) (h 49) (h 50) m (VC 21 g) i) g') → p0_firstWrong_L2 Q f g i := by
  intro m
  induction m with
  | zero =>
    intro f i g hf hi hI hF hq
    obtain ⟨f, rfl⟩ : ∃ n', f = n' + 1 := ⟨f - 1, by omega⟩
    unfold p0_firstWrong_L2
    rw [hF 47 (by decide), hc]
    exact brY ((wle ⟨by omega, by omega⟩ ⟨by omega, by omega⟩).mpr (by omega)) (hq g hF)
  | succ m ih =>
    intro f i g hf hi hI hF hq
    obtain ⟨f, rfl⟩ : ∃ n', f = n' + 1 := ⟨f - 1, by omega⟩
    obtain ⟨b1, b2, b3, b4, b5⟩ := hB i (by omega)
    have a2 : g 21 1 ≤ 32 := hI.2.1.2.1
    have f2 := hF 2 (by decide)
    unfold p0_firstWrong_L2
    rw [hF 47 (by decide), hc]
    refine brN (fun z => by have := (wle ⟨by omega, by omega⟩ ⟨by omega, by omega⟩).mp z; omega) ?_
    refine rd_n (by omega) (by decide) ?_
    rw [hF 49 (by decide)]
    have ej : jgF (h 48) (h 49) (h 50) (m + 1) (VC 21 g) i = (if h 49 i < g 21 1 then (if h 50 i = 0 then (if VC 21 g 2 (h 49 i).toNat = h 48 i then jgF (h 48) (h 49) (h 50) m (tossV (VC 21 g) (h 48 i) (h 49 i).toNat) (i + 1) else i) else (if mayT (VC 21 g) (h 48 i) (h 49 i).toNat then jgF (h 48) (h 49) (h 50) m (takeV (VC 21 g) (h 48 i) (h 49 i).toNat) (i + 1) else i)) else i) := rfl
    refine C_isPart ⟨by omega, by omega⟩ hI (fun z1 z2 => brN (by decide) ?_) (fun z => brY (by decide) (by
      have := hq g hF
      rw [ej, if_neg (by omega)] at this
      exact this))
    rw [ej, if_pos z2] at hq
    refine rd_n (by omega) (by decide) ?_
    rw [hF 50 (by decide)]
    obtain ⟨p, ep⟩ := Int.eq_ofNat_of_zero_le b3
    obtain ⟨x, ex⟩ := Int.eq_ofNat_of_zero_le b1
    rw [ep, ex, show ((p : Int)).toNat = p from rfl] at hq
    refine jn_i (brQ (weq0 (by rcases b5 with q | q <;> rw [q] <;> exact ⟨by decide, by decide⟩)) (fun w => ?_) (fun w => ?_))
    · rw [if_pos w] at hq
      refine rd_n (by omega) (by decide) (rd_n (by omega) (by decide) ?_)
      rw [hF 48 (by decide), hF 49 (by decide), ep, ex]
      refine C_throwOut (by decide) hI (by rw [f2]; omega) (by omega) (fun ho h1 i1 i2 i3 i4 => brN (by decide) ?_) (fun ho => brY (by decide) ?_)
      · rw [if_pos (show VC 21 g 2 p = x from ho)] at hq
        exact ih f (i + 1) h1 (by omega) (by omega) i1 (hF.tr i3) (by rw [i2]; exact hq)
      · rw [if_neg (show ¬ VC 21 g 2 p = x from ho)] at hq
        exact hq g hF
    · rw [if_neg w] at hq
      refine rd_n (by omega) (by decide) (rd_n (by omega) (by decide) ?_)
      rw [hF 48 (by decide), hF 49 (by decide), ep, ex]
      refine C_carryHome (by decide) hI (by rw [f2]; omega) (by omega) (fun ho h1 i1 i2 i3 i4 => brN (by decide) ?_) (fun ho => brY (by decide) ?_)
      · rw [if_pos ho] at hq
        exact ih f (i + 1) h1 (by omega) (by omega) i1 (hF.tr i3) (by rw [i2]; exact hq)
      · rw [if_neg ho] at hq
        exact hq g hF
theorem M_judge_L {E : HP → Int → Prop} {c : Nat} (hc : h 69 40 = c) (hc2 : c ≤ 40) (hB : okBk (h 69 1) c (h 92) (h 93) (h 94)) : ∀ (m f i : Nat) (g : HP), m + 1 < f → i + m = c → MI g → FM h g → (∀ g', FM h g' → E g' (jgF (h 92) (h 93) (h 94) m (VM g) i)) → p8_judge_L9 E f g (-1) i := by
  intro m
  induction m with
  | zero =>
    intro f i g hf hi hI hF hq
    obtain ⟨f, rfl⟩ : ∃ n', f = n' + 1 := ⟨f - 1, by omega⟩
    unfold p8_judge_L9
    rw [hF.2 40 (by decide) (by decide) (by decide), hc]
    exact brY ((wle ⟨by omega, by omega⟩ ⟨by omega, by omega⟩).mpr (by omega)) (hq g hF)
  | succ m ih =>
    intro f i g hf hi hI hF hq
    obtain ⟨f, rfl⟩ : ∃ n', f = n' + 1 := ⟨f - 1, by omega⟩
    obtain ⟨b1, b2, b3, b4, b5⟩ := hB i (by omega)
    have a2 : g 69 7 ≤ 32 := hI.2.2.1
    have a1 : 0 ≤ g 69 7 := hI.2.1
    have f1 := hF.2 1 (by decide) (by decide) (by decide)
    have f40 := hF.2 40 (by decide) (by decide) (by decide)
    -- a wrong one is found
    have WR : (∀ g', FM h g' → E g' i) → p8_judge_L9 E f g i (i + 1) := fun hw => by
      obtain ⟨f, rfl⟩ : ∃ n', f = n' + 1 := ⟨f - 1, by omega⟩
      unfold p8_judge_L9
      exact brS (fun _ => hw g hF) (fun _ => brY ((w0le ⟨by omega, by omega⟩).mpr (by omega)) (hw g hF))
    unfold p8_judge_L9
    rw [f40, hc]
    refine brN (fun z => by have := (wle ⟨by omega, by omega⟩ ⟨by omega, by omega⟩).mp z; omega) ?_
    refine brN (by decide) ?_
    refine rd_n (by omega) (by decide) (rd_n (by omega) (by decide) (jn_i ?_))
    rw [hF.1 92 (by decide), hF.1 93 (by decide)]
    have ej : jgF (h 92) (h 93) (h 94) (m + 1) (VM g) i = (if h 93 i < g 69 7 then (if h 94 i = 0 then (if VM g 2 (h 93 i).toNat = h 92 i then jgF (h 92) (h 93) (h 94) m (tossV (VM g) (h 92 i) (h 93 i).toNat) (i + 1) else i) else (if mayT (VM g) (h 92 i) (h 93 i).toNat then jgF (h 92) (h 93) (h 94) m (takeV (VM g) (h 92 i) (h 93 i).toNat) (i + 1) else i)) else i) := rfl
    rw [ej] at hq
    obtain ⟨p, ep⟩ := Int.eq_ofNat_of_zero_le b3
    obtain ⟨x, ex⟩ := Int.eq_ofNat_of_zero_le b1
    rw [ep, ex, show ((p : Int)).toNat = p from rfl] at hq
    rw [ep, ex]
    have hbT : can (h 94 i) := by rcases b5 with q | q <;> rw [q] <;> exact ⟨by decide, by decide⟩
    refine brQ (wle ⟨by omega, by omega⟩ ⟨by omega, by omega⟩) (fun z => ?_) (fun z => ?_)
    · rw [if_neg (by omega)] at hq
      exact jn_i (brY (by decide) (brY (by decide) (WR hq)))
    · rw [if_pos (by omega)] at hq
      obtain ⟨q1, q2, q3, q4, q5, _⟩ := hI.part (p := p) (by omega)
      obtain ⟨s1, s2, s3, s4⟩ := id hI.1
      refine jn_i (brN (by decide) (rd_n (by omega) (by decide) ?_))
      rw [hF.1 94 (by decide)]
      refine brQ (weq0 hbT) (fun w => ?_) (fun w => ?_)
      · rw [if_pos w] at hq
        refine brN (by decide) (rd_n (by omega) (by decide) ?_)
        rw [hF.1 94 (by decide)]
        refine brY ((weq0 hbT).mpr w) (rd_n q1 (by decide) ?_)
        refine brQ (weq ⟨by omega, by omega⟩ ⟨by omega, by omega⟩) (fun ho => ?_) (fun ho => ?_)
        · rw [if_pos (show VM g 2 p = x from ho)] at hq
          refine M_tossNow hI (by omega) (by omega) ho (fun h1 i1 i2 i3 => ?_)
          exact ih f (i + 1) h1 (by omega) (by omega) i1 (hF.tr i3) (by rw [i2]; exact hq)
        · rw [if_neg (show ¬ VM g 2 p = x from ho)] at hq
          exact WR hq
      · rw [if_neg w] at hq
        refine M_mayTake hI (by omega) (by omega) (fun ho => brN (by decide) ?_) (fun ho => brY (by decide) ?_)
        · rw [if_pos ho] at hq
          refine M_takeNow hI (by omega) (by omega) ho (fun h1 i1 i2 i3 => ?_)
          exact ih f (i + 1) h1 (by omega) (by omega) i1 (hF.tr i3) (by rw [i2]; exact hq)
        · rw [if_neg ho] at hq
          refine brN (by decide) (rd_n (by omega) (by decide) ?_)
          rw [hF.1 94 (by decide)]
          exact brN (by rw [weq0 hbT]; exact w) (WR hq)
/-- saved, changed, loaded: all is back -/
theorem back {h0 h1 h2 h3 : HP} (hI : INV h) (f0 : FR 21 h h0 ∨ SCR h h0) (hm : ∀ c, 69 ≤ c → h0 c = h c) (j1 : ∀ c, c ≠ 95 → h1 c = h0 c) (j2 : ∀ j, j < 1600 → h1 95 j = h0 95 j) (j3 : ∀ j, j < 3 → VI 2 h1 0 j = VM h0 0 j) (j4 : ∀ r p, 1 ≤ r → r ≤ 4 → p < 32 → VI 2 h1 r p = VM h0 r p) (j5 : ∀ j, j < 640 → VI 2 h1 5 j = VM h0 5 j) (kc : ∀ c, c < 69 ∨ (69 < c ∧ c < 74) ∨ c = 79 ∨ (92 ≤ c) → h2 c = h1 c) (kf : ∀ j, j = 0 ∨ j = 1 ∨ j = 4 ∨ j = 16 ∨ j = 17 ∨ j = 40 → h2 69 j = h1 69 j) (l1 : FM h2 h3) (l2 : ∀ j, j < 3 → VM h3 0 j = VI 2 h2 0 j) (l3 : ∀ r p, 1 ≤ r → r ≤ 4 → p < 32 → VM h3 r p = VI 2 h2 r p) (l4 : ∀ j, j < 640 → VM h3 5 j = VI 2 h2 5 j) : INV h3 := by
  have eVI : VI 2 h2 = VI 2 h1 := by unfold VI; rw [kc 95 (by decide)]
  rw [eVI] at l2 l3 l4
  have eVM : VM h0 = VM h := VM_eq (by rw [hm 69 (by decide)]) (by rw [hm 69 (by decide)]) (by rw [hm 69 (by decide)]) (fun i _ _ => hm _ (by omega))
  have q : ∀ c, c ≤ 6 ∨ (13 ≤ c ∧ c ≤ 20) ∨ (30 ≤ c ∧ c ≤ 50) ∨ (70 ≤ c ∧ c ≤ 73) ∨ c = 79 ∨ (92 ≤ c ∧ c ≤ 94) ∨ c = 96 → h0 c = h c := fun c hc => by
    rcases f0 with f0 | f0
    · exact f0 c (by omega)
    · exact f0.1 c (by omega)
  refine INV_back hI (fun c hc => ?_) (fun j hj => ?_) (fun j hj => ?_) (fun j hj => ?_) (fun r p a b c => ?_) (fun j hj => ?_)
  · rw [l1.1 c (by omega), kc c (by omega), j1 c (by omega), q c hc]
  · rw [l1.1 95 (by omega), kc 95 (by omega), j2 j hj, hm 95 (by decide)]
  · rw [l1.2 j (by omega) (by omega) (by omega), kf j hj, j1 69 (by decide), hm 69 (by decide)]
  · rw [l2 j hj, j3 j hj, eVM]
  · rw [l3 r p a b c, j4 r p a b c, eVM]
  · rw [l4 j hj, j5 j hj, eVM]
theorem op_judge (hI : INV h) : p7_judge h (fun r1 h1 => p8_judge h1 (fun r2 h2 => OK2 r1 r2 h2)) := by
  obtain ⟨b1, b2, b3, b4⟩ := hI.2.2.2.2.2.1
  have s1 := hI.s1
  have e := hI.2.2.1
  obtain ⟨c, hc⟩ := Int.eq_ofNat_of_zero_le b2
  have hB : okBk (h 2 1) c (h 48) (h 49) (h 50) := fun i hi => by
    have := b4 i (by omega)
    rw [this.1, this.2.1, this.2.2.1, s1]
    exact this.2.2.2
  have hB' : okBk (h 69 1) c (h 92) (h 93) (h 94) := fun i hi => (b4 i (by omega)).2.2.2
  unfold p7_judge
  refine C_copyFrom (by decide) (by decide) (by decide) hI.1 (fun h1 i1 i2 i3 => ?_)
  unfold p0_firstWrong
  have r1 : h1 47 0 = c := by rw [i3 47 (by decide), b1, hc]
  have rB : okBk (h1 2 1) c (h1 48) (h1 49) (h1 50) := by rw [i3 2 (by decide), i3 48 (by decide), i3 49 (by decide), i3 50 (by decide)]; exact hB
  refine C_firstWrong r1 (by omega) rB c FUEL 0 h1 (by unfold FUEL; omega) (by omega) i1 FR.rf (fun h0 k1 => ?_)
  rw [i3 48 (by decide), i3 49 (by decide), i3 50 (by decide)]
  have hF := i3.tr k1
  have hm : ∀ c, 69 ≤ c → h0 c = h c := fun c hc => hF c (by omega)
  have hM : MI h0 := by
    unfold MI
    rw [VM_eq (h := h) (h' := h0) (by rw [hm 69 (by decide)]) (by rw [hm 69 (by decide)]) (by rw [hm 69 (by decide)]) (fun i _ _ => hm _ (by omega)), hm 69 (by decide)]
    exact hI.2.1
  have eVM : VM h0 = VM h := VM_eq (by rw [hm 69 (by decide)]) (by rw [hm 69 (by decide)]) (by rw [hm 69 (by decide)]) (fun i _ _ => hm _ (by omega))
  unfold p8_judge
  refine M_save (i := 2) (by decide) (fun h2 j1 j2 j3 j4 j5 => ?_)
  have eM2 : VM h2 = VM h0 := VM_eq (by rw [j1 69 (by decide)]) (by rw [j1 69 (by decide)]) (by rw [j1 69 (by decide)]) (fun i _ _ => j1 _ (by omega))
  have hM2 : MI h2 := by
    unfold MI; rw [eM2, j1 69 (by decide)]; exact hM
  have g69 : h2 69 = h 69 := by rw [j1 69 (by decide), hm 69 (by decide)]
  have g92 : h2 92 = h 92 := by rw [j1 92 (by decide), hm 92 (by decide)]
  have g93 : h2 93 = h 93 := by rw [j1 93 (by decide), hm 93 (by decide)]
  have g94 : h2 94 = h 94 := by rw [j1 94 (by decide), hm 94 (by decide)]
  refine M_judge_L (h := h2) (c := c) (by rw [g69, hc]) (by omega) (by rw [g69, g92, g93, g94]; exact hB') c FUEL 0 h2 (by unfold FUEL; omega) (by omega) hM2 FM.rf (fun h3 m1 => ?_)
  refine M_load (i := 2) (by decide) (fun h4 l1 l2 l3 l4 => ?_)
  refine ⟨?_, back hI (Or.inl hF) hm j1 (fun j hj => j2 j (by omega)) j3 j4 j5 (fun c hc => m1.1 c (by omega)) (fun j hj => m1.2 j (by omega) (by omega) (by omega)) l1 l2 l3 l4⟩
  rw [eM2, eVM, g92, g93, g94]
  have E1 := eqv.jg (s := h 69 0) hB (fun i hi => ⟨(b4 i (by omega)).1.symm, (b4 i (by omega)).2.1.symm, (b4 i (by omega)).2.2.1.symm⟩) c 0 (VC 13 h) (VM h) (by omega) e (by have := hI.1.2.1; rw [hI.s0] at this; exact this)
  have E2 := eqv.jg (s := h 69 0) hB (fun i hi => ⟨rfl, rfl, rfl⟩) c 0 (VC 13 h) (VC 21 h1) (by omega) i2 (by have := hI.1.2.1; rw [hI.s0] at this; exact this)
  rw [E1, E2]
end KEEP
