/-! ===== PURE: calls that change the parts ===== -/
section OP2
variable {h : HP}
theorem M_hY (hI : MI h) {x : Nat} (hp : (x : Int) < h 69 1) {Q : Int → Prop} (hq : Q 1) : p8_isHouse x h Q := by
  obtain ⟨a1, a2, a3, a4⟩ := hI.1
  exact M_isHouse ⟨by omega, by omega⟩ hI.1 (fun _ _ => hq) (fun q => absurd ⟨by omega, by omega⟩ q)
theorem M_sY (hI : MI h) {x : Nat} (hp : (x : Int) < h 69 0) {Q : Int → Prop} (hq : Q 1) : p8_isSort x h Q := by
  obtain ⟨a1, a2, a3, a4⟩ := hI.1
  exact M_isSort ⟨by omega, by omega⟩ hI.1 (fun _ _ => hq) (fun q => absurd ⟨by omega, by omega⟩ q)
theorem M_pY (hI : MI h) {x : Nat} (hp : (x : Int) < h 69 7) {Q : Int → Prop} (hq : Q 1) : p8_isPart x h Q := by
  have a2 : h 69 7 ≤ 32 := hI.2.2.1
  exact M_isPart ⟨by omega, by omega⟩ hI (fun _ _ => hq) (fun q => absurd ⟨by omega, by omega⟩ q)
theorem INV.okh (hI : INV h) : ∀ q : Nat, (q : Int) < VC 13 h 0 0 → 0 ≤ VC 13 h 4 q ∧ VC 13 h 4 q ≤ 20 := fun q hq => by
  have := hI.1.2.1.2.2.1 q hq
  unfold okP at this
  exact ⟨this.2.2.2.2.2.2.2.1, this.2.2.2.2.2.2.2.2⟩
theorem op_toss (hI : INV h) {x y : Int} (hx : can x) (hy : can y) : p7_toss x y h (fun r1 h1 => p8_toss x y h1 (fun r2 h2 => OK2 r1 r2 h2)) := by
  have e := hI.2.2.1
  have cn := hI.cnt
  have s1 := hI.s1
  have hst := hI.st
  unfold okSt at hst
  unfold p7_toss p8_toss
  refine C_isHouse hx hI.1.1 (fun z1 z2 => brN (by decide) ?_) (fun z => brY (by decide) (M_isHouseN hI hx z (brY (by decide) ⟨rfl, hI⟩)))
  obtain ⟨n, rfl⟩ := Int.eq_ofNat_of_zero_le z1
  refine C_isPart hy hI.1 (fun y1 y2 => brN (by decide) ?_) (fun z => brY (by decide) (M_isHouseY hI z2 (brN (by decide) (M_isPartN hI hy z (brY (by decide) ⟨rfl, hI⟩)))))
  obtain ⟨p, rfl⟩ := Int.eq_ofNat_of_zero_le y1
  obtain ⟨q1, q2, q3, q4, q5, q6⟩ := hI.1.part y2
  have r2 : h 15 p = h 75 p := e.2.1 2 p (by decide) (by decide) y2
  have q4' : -1 ≤ h 15 p := q4
  have q5' : h 15 p < h 2 1 := q5
  refine C_throwOut (by decide) hI.1 z2 y2 (fun ho h1 i1 i2 i3 i4 => brN (by decide) ?_) (fun ho => brY (by decide) (M_isHouseY hI z2 (brN (by decide) (M_isPartY hI y2 (brN (by decide) (rd_n q1 (by decide) (brN ?_ ⟨rfl, hI⟩)))))))
  · refine rd_n (by omega) (by decide) ?_
    have hM := MI_fr i3 hI.2.1
    have f69 : h1 69 = h 69 := i3 69 (by decide)
    have f75 : h1 75 = h 75 := i3 75 (by decide)
    have f2 : h1 2 = h 2 := i3 2 (by decide)
    have ho' : h 75 p = n := by rw [← r2]; exact ho
    refine M_hY hM (by rw [f69]; omega) (brN (by decide) (M_pY hM (by rw [f69]; omega) (brN (by decide) (rd_n q1 (by decide) ?_))))
    rw [f75]
    refine brY (by rw [ho']) ?_
    refine M_tossNow hM (by rw [f69]; omega) (by rw [f69]; omega) (by rw [f75]; exact ho') (fun h2 j1 j2 j3 => ?_)
    have ee : eqv (VC 13 h1) (VM h2) := by rw [i2, j2, VM_fr i3]; exact e.toss n p
    refine M_countOf j1 hx ⟨?_, INV_step hI i1 i3 j1 j3 ee⟩
    rw [ee.co, show h1 19 n = cO (VC 13 h1) n from i1.2.2.1 n (by rw [f2]; exact z2)]
  · rw [weq ⟨by omega, by omega⟩ hx, ← r2]; exact ho
theorem op_take (hI : INV h) {x y : Int} (hx : can x) (hy : can y) : p7_take x y h (fun r1 h1 => p8_take x y h1 (fun r2 h2 => OK2 r1 r2 h2)) := by
  have e := hI.2.2.1
  have cn := hI.cnt
  have s1 := hI.s1
  have hst := hI.st
  unfold okSt at hst
  unfold p7_take p8_take
  refine C_isHouse hx hI.1.1 (fun z1 z2 => brN (by decide) ?_) (fun z => brY (by decide) (M_isHouseN hI hx z (brY (by decide) ⟨rfl, hI⟩)))
  obtain ⟨n, rfl⟩ := Int.eq_ofNat_of_zero_le z1
  refine C_isPart hy hI.1 (fun y1 y2 => brN (by decide) ?_) (fun z => brY (by decide) (M_isHouseY hI z2 (brN (by decide) (M_isPartN hI hy z (brY (by decide) ⟨rfl, hI⟩)))))
  obtain ⟨p, rfl⟩ := Int.eq_ofNat_of_zero_le y1
  refine C_carryHome (by decide) hI.1 z2 y2 (fun ho h1 i1 i2 i3 i4 => brN (by decide) ?_) (fun ho => brY (by decide) (M_isHouseY hI z2 (brN (by decide) (M_isPartY hI y2 (brN (by decide) (M_mayTake hI.2.1 (by omega) (by omega) (fun w => absurd ((e.may y2).mp w) ho) (fun _ => brY (by decide) ⟨rfl, hI⟩)))))))
  refine rd_n (by omega) (by decide) ?_
  have hM := MI_fr i3 hI.2.1
  have f69 : h1 69 = h 69 := i3 69 (by decide)
  have f2 : h1 2 = h 2 := i3 2 (by decide)
  have ho' : mayT (VM h1) n p := by rw [VM_fr i3]; exact (e.may y2).mpr ho
  refine M_hY hM (by rw [f69]; omega) (brN (by decide) (M_pY hM (by rw [f69]; omega) (brN (by decide) (M_mayTake hM (by rw [f69]; omega) (by rw [f69]; omega) (fun _ => brN (by decide) ?_) (fun w => absurd ho' w)))))
  refine M_takeNow hM (by rw [f69]; omega) (by rw [f69]; omega) ho' (fun h2 j1 j2 j3 => ?_)
  have ee : eqv (VC 13 h1) (VM h2) := by rw [i2, j2, VM_fr i3]; exact e.take n y2 (hI.okh p y2).1 (hI.okh p y2).2 hI.okh
  refine M_countOf j1 hx ⟨?_, INV_step hI i1 i3 j1 j3 ee⟩
  rw [ee.co, show h1 19 n = cO (VC 13 h1) n from i1.2.2.1 n (by rw [f2]; exact z2)]
theorem op_ashore (hI : INV h) {x : Int} (hx : can x) : p7_ashore x h (fun r1 h1 => p8_ashore x h1 (fun r2 h2 => OK2 r1 r2 h2)) := by
  have e := hI.2.2.1
  have cn := hI.cnt
  have s0 := hI.s0
  have hst := hI.st
  unfold okSt at hst
  have c1 : 0 ≤ h 13 1 := hI.1.2.1.1
  unfold p7_ashore p8_ashore
  refine C_isSort hx hI.1.1 (fun z1 z2 => brN (by decide) ?_) (fun z => brY (by decide) (M_isSortN hI hx z (brY (by decide) ⟨rfl, hI⟩)))
  obtain ⟨k, rfl⟩ := Int.eq_ofNat_of_zero_le z1
  refine C_addPart (by decide) hI.1 z2 (fun hc h1 i1 i2 i3 i4 => brN (by decide) ?_) (fun hc => brY (by decide) (M_isSortY hI z2 (brN (by decide) (brY (by rw [← cn, hc]) ⟨rfl, hI⟩))))
  have hM := MI_fr i3 hI.2.1
  have f69 : h1 69 = h 69 := i3 69 (by decide)
  refine M_sY hM (by rw [f69]; omega) (brN (by decide) (brN (by rw [f69, weq ⟨by omega, by omega⟩ ⟨by omega, by omega⟩]; omega) ?_))
  refine M_ashoreNow hM (by rw [f69]; omega) (by rw [f69]; omega) (fun h2 j1 j2 j3 => ?_)
  have ee : eqv (VC 13 h1) (VM h2) := by rw [i2, j2, VM_fr i3]; exact e.add k c1
  refine ⟨?_, INV_step hI i1 i3 j1 j3 ee⟩
  have : h1 13 1 = h 13 1 + 1 := by
    show VC 13 h1 0 0 = VC 13 h 0 0 + 1
    rw [i2, add_0, if_pos rfl]
  rw [this, f69, ← cn, show h 13 1 + 1 - 1 = h 13 1 from by omega]
/-- the parts are as they were -/
def CORE (h h' : HP) : Prop := (∀ c, c = 2 ∨ (13 ≤ c ∧ c ≤ 20) ∨ (74 ≤ c ∧ c ≤ 78) → h' c = h c) ∧ ∀ j, j = 0 ∨ j = 1 ∨ j = 7 ∨ j = 13 ∨ j = 14 → h' 69 j = h 69 j
theorem CORE.i {h' : HP} (f : CORE h h') (hI : INV h) : SI 13 h' ∧ MI h' ∧ eqv (VC 13 h') (VM h') := by
  have hv : VM h' = VM h := VM_eq (f.2 7 (by decide)) (f.2 13 (by decide)) (f.2 14 (by decide)) (fun i _ _ => f.1 _ (by omega))
  have hc : VC 13 h' = VC 13 h := VC_eq (fun j _ => by rw [f.1 13 (by decide)]) (fun i _ _ => f.1 _ (by omega))
  refine ⟨SI_eq (f.1 2 (by decide)) (fun i hi => f.1 _ (by omega)) hI.1, ?_, by rw [hv, hc]; exact hI.2.2.1⟩
  unfold MI
  rw [hv, f.2 0 (by decide), f.2 1 (by decide)]
  exact hI.2.1
theorem STAT_eq {h' : HP} (hc : ∀ c, (2 ≤ c ∧ c ≤ 6) ∨ (70 ≤ c ∧ c ≤ 73) → h' c = h c) (hf : ∀ j, j = 0 ∨ j = 1 ∨ j = 4 → h' 69 j = h 69 j) (hR : STAT h) : STAT h' := by
  unfold STAT
  rw [hc 2 (by decide), hc 3 (by decide), hc 4 (by decide), hc 5 (by decide), hc 6 (by decide), hc 70 (by decide), hc 71 (by decide), hc 72 (by decide), hc 73 (by decide), hf 0 (by decide), hf 1 (by decide), hf 4 (by decide)]
  exact hR
theorem TXT_eq {h' : HP} (hc : ∀ c, c = 0 ∨ c = 1 ∨ c = 79 → h' c = h c) (hf : ∀ j, j = 16 ∨ j = 17 → h' 69 j = h 69 j) (hR : TXT h) : TXT h' := by
  unfold TXT
  rw [hc 0 (by decide), hc 1 (by decide), hc 79 (by decide), hf 16 (by decide), hf 17 (by decide)]
  exact hR
theorem BOOK_eq {h' : HP} (hc : ∀ c, (47 ≤ c ∧ c ≤ 50) ∨ (92 ≤ c ∧ c ≤ 94) → h' c = h c) (hf : ∀ j, j = 1 ∨ j = 40 → h' 69 j = h 69 j) (hR : BOOK h) : BOOK h' := by
  unfold BOOK
  rw [hc 47 (by decide), hc 48 (by decide), hc 49 (by decide), hc 50 (by decide), hc 92 (by decide), hc 93 (by decide), hc 94 (by decide), hf 1 (by decide), hf 40 (by decide)]
  exact hR
theorem eqv.r {V V' V'' : HP} (e : eqv V V') {s n : Int} (hV : wfV s n V) (h0 : ∀ j, j < 3 → V'' 0 j = V' 0 j) (h1 : ∀ i p, 1 ≤ i → i ≤ 4 → p < 32 → V'' i p = V' i p) (h5 : ∀ j, j < 640 → V'' 5 j = V' 5 j) : eqv V V'' := by
  refine ⟨fun j hj => by rw [h0 j hj]; exact e.1 j hj, fun i p a b hp => ?_, fun p j hp hj => ?_⟩
  · have := hV.2.1
    rw [h1 i p a b (by omega)]; exact e.2.1 i p a b hp
  · have := hV.2.1
    have h20 := hV.2.2.1 p hp
    unfold okP at h20
    rw [h5 _ (by omega)]; exact e.2.2 p j hp hj
theorem VI_0 {i j : Nat} (hj : j < 3) : VI i h 0 j = h 95 (800 * i + 768 + j) := by unfold VI; rw [if_pos rfl, if_pos hj]
theorem VI_r {i r j : Nat} (h1 : 1 ≤ r) (h2 : r ≤ 4) : VI i h r j = h 95 (800 * i + 32 * (r - 1) + j) := by unfold VI; rw [if_neg (show ¬ r = 0 by omega), if_pos (show r < 5 by omega)]
theorem VI_5 {i j : Nat} : VI i h 5 j = h 95 (800 * i + 128 + j) := rfl
theorem IMG_eq {h' : HP} (hc : ∀ c, c = 2 ∨ (30 ≤ c ∧ c ≤ 46) ∨ c = 96 → h' c = h c) (h95 : ∀ j, j < 1600 → h' 95 j = h 95 j) (hR : IMG h) : IMG h' := by
  intro i hi
  rw [hc 46 (by decide), hc 96 (by decide)]
  refine ⟨(hR i hi).1, ?_⟩
  rcases (hR i hi).2 with z | ⟨z1, z2, z3⟩
  · exact Or.inl z
  · refine Or.inr ⟨z1, SI_eq (hc 2 (by decide)) (fun k hk => hc _ (by omega)) z2, ?_⟩
    rw [VC_eq (h := h) (h' := h') (b := 30 + 8 * i) (fun j _ => by rw [hc (30 + 8 * i) (by omega)]) (fun k h1 h2 => hc _ (by omega))]
    refine z3.r z2.2.1 (fun j hj => ?_) (fun r p h1 h2 h3 => ?_) (fun j hj => ?_)
    · rw [VI_0 hj, VI_0 hj, h95 _ (by omega)]
    · rw [VI_r h1 h2, VI_r h1 h2, h95 _ (by omega)]
    · rw [VI_5, VI_5, h95 _ (by omega)]
/-- only what nothing hangs on has changed -/
def SCR (h h' : HP) : Prop := (∀ c, c ≤ 6 ∨ (13 ≤ c ∧ c ≤ 20) ∨ (30 ≤ c ∧ c ≤ 50) ∨ (70 ≤ c ∧ c ≤ 79) ∨ (92 ≤ c ∧ c ≤ 94) ∨ c = 96 → h' c = h c) ∧ (∀ j, j < 1600 → h' 95 j = h 95 j) ∧ ∀ j, j = 0 ∨ j = 1 ∨ j = 4 ∨ j = 7 ∨ j = 13 ∨ j = 14 ∨ j = 16 ∨ j = 17 ∨ j = 40 → h' 69 j = h 69 j
theorem SCR.rf : SCR h h := ⟨fun _ _ => rfl, fun _ _ => rfl, fun _ _ => rfl⟩
theorem SCR.tr {h1 h2 : HP} (a : SCR h h1) (b : SCR h1 h2) : SCR h h2 := ⟨fun c hc => (b.1 c hc).trans (a.1 c hc), fun j hj => (b.2.1 j hj).trans (a.2.1 j hj), fun j hj => (b.2.2 j hj).trans (a.2.2 j hj)⟩
theorem SCR.set {h1 : HP} {c j : Nat} {v : Int} (a : SCR h h1) (hc : (21 ≤ c ∧ c ≤ 28) ∨ (51 ≤ c ∧ c ≤ 68) ∨ (84 ≤ c ∧ c ≤ 91) ∨ (c = 95 ∧ 1600 ≤ j)) : SCR h (hset h1 c j v) :=
  ⟨fun k hk => by rw [hset_c (by omega)]; exact a.1 k hk, fun k hk => by rw [hset_ne (by omega)]; exact a.2.1 k hk, fun k hk => by rw [hset_ne (by omega)]; exact a.2.2 k hk⟩
theorem SCR.core {h' : HP} (f : SCR h h') : CORE h h' := ⟨fun c hc => f.1 c (by omega), fun j hj => f.2.2 j (by omega)⟩
theorem SCR.i {h' : HP} (f : SCR h h') (hI : INV h) : INV h' := by
  obtain ⟨a, b, c⟩ := f.core.i hI
  refine ⟨a, b, c, STAT_eq (fun c hc => f.1 c (by omega)) (fun j hj => f.2.2 j (by omega)) hI.2.2.2.1, TXT_eq (fun c hc => f.1 c (by omega)) (fun j hj => f.2.2 j (by omega)) hI.2.2.2.2.1, BOOK_eq (fun c hc => f.1 c (by omega)) (fun j hj => f.2.2 j (by omega)) hI.2.2.2.2.2.1, IMG_eq (fun c hc => f.1 c (by omega)) f.2.1 hI.2.2.2.2.2.2⟩
theorem op_seed (hI : INV h) {x : Int} (hx : can x) : p7_seed x h (fun r1 h1 => p8_seed x h1 (fun r2 h2 => OK2 r1 r2 h2)) := by
  have e := hI.2.2.1
  unfold p7_seed p8_seed
  refine brQ (w0le hx) (fun z => ?_) (fun z => brN (by rw [w0le hx]; exact z) ⟨rfl, hI⟩)
  show brc _ _ _
  refine brY ((w0le hx).mpr z) ?_
  show OK2 (h 13 3) (hset h 13 3 x 69 14) (hset (hset h 13 3 x) 69 14 x)
  have hx2 := hx.2
  have wfx : ∀ {s n : Int} {V : HP}, wfV s n V → wfV s n (hset V 0 2 x) := by
    intro s n V hV
    obtain ⟨a1, a2, a3, a4, a5, a6⟩ := hV
    have e0 : hset V 0 2 x 0 0 = V 0 0 := hset_rn (by decide)
    refine ⟨by rw [e0]; exact a1, by rw [e0]; exact a2, fun p hp => ?_, fun y h1 h2 => ?_, by rw [hset_rs]; exact z, by rw [hset_rs]; exact hx2⟩
    · rw [e0] at hp
      unfold okP
      rw [hset_c (by decide), hset_c (by decide), hset_c (by decide), hset_c (by decide)]
      exact a3 p hp
    · rw [cO_eq e0 (fun q _ => by rw [hset_c (by decide)]) y]; exact a4 y h1 h2
  have hv1 : VC 13 (hset h 13 3 x) = hset (VC 13 h) 0 2 x := VC_fld (k := 2) (by decide)
  have f1 : FR 13 h (hset h 13 3 x) := FR.rf.set (by decide)
  have f2 : FM (hset h 13 3 x) (hset (hset h 13 3 x) 69 14 x) := FM.rf.fld (by decide)
  have hM := MI_fr f1 hI.2.1
  have hv2 : VM (hset (hset h 13 3 x) 69 14 x) = hset (VM h) 0 2 x := by rw [VM_f2, VM_fr f1]
  have e2 : (hset h 13 3 x) 2 = h 2 := hset_c (by decide)
  refine ⟨?_, INV_step hI ?_ f1 ?_ f2 ?_⟩
  · rw [hset_c (by decide)]
    rw [show h 13 3 = h 69 14 from e.1 2 (by decide)]
  · refine ⟨by rw [e2]; exact hI.1.1, by rw [e2, hv1]; exact wfx hI.1.2.1, fun y hy => ?_, fun y k hy hk => ?_⟩
    · rw [e2] at hy
      rw [hv1, cO_eq (V := VC 13 h) (hset_rn (by decide)) (fun q _ => by rw [hset_c (by decide)]) y, hset_c (by decide)]
      exact hI.1.2.2.1 y hy
    · rw [e2] at hy hk
      rw [hv1, cS_eq (V := VC 13 h) (hset_rn (by decide)) (fun q _ => by rw [hset_c (by decide)]) (fun q _ => by rw [hset_c (by decide)]) y k, hset_c (by decide)]
      exact hI.1.2.2.2 y k hy hk
  · exact hM.of f2 (by rw [hv2, show hset h 13 3 x 69 = h 69 from hset_c (by decide)]; exact wfx hI.2.1.2)
  · rw [hv1, hv2]
    refine ⟨fun j hj => ?_, fun i p h1 h2 hp => ?_, fun p j hp hj => ?_⟩
    · by_cases c : j = 2
      · subst c; rw [hset_rs, hset_rs]
      · rw [hset_rn c, hset_rn c]; exact e.1 j hj
    · rw [hset_rn (by decide)] at hp
      rw [hset_c (by omega), hset_c (by omega)]; exact e.2.1 i p h1 h2 hp
    · rw [hset_rn (by decide)] at hp
      rw [hset_c (by decide)] at hj
      rw [hset_c (by decide), hset_c (by decide)]; exact e.2.2 p j hp hj
theorem op_tear (hI : INV h) : p7_tear h (fun r1 h1 => p8_tear h1 (fun r2 h2 => OK2 r1 r2 h2)) := by
  show OK2 (h 47 0) (hset h 47 0 0 69 40) (hset (hset h 47 0 0) 69 40 0)
  have hB := hI.2.2.2.2.2.1
  refine ⟨by rw [hset_c (by decide), hB.1], ?_⟩
  have f : ∀ c, c ≠ 47 → c ≠ 69 → (hset (hset h 47 0 0) 69 40 0) c = h c := fun c a b => by rw [hset_c b, hset_c a]
  have g : ∀ j, j ≠ 40 → (hset (hset h 47 0 0) 69 40 0) 69 j = h 69 j := fun j a => by rw [hset_rn a, hset_c (by decide)]
  obtain ⟨a, b, c⟩ := CORE.i (h := h) (h' := hset (hset h 47 0 0) 69 40 0) ⟨fun c hc => f c (by omega) (by omega), fun j hj => g j (by omega)⟩ hI
  refine ⟨a, b, c, STAT_eq (fun c hc => f c (by omega) (by omega)) (fun j hj => g j (by omega)) hI.2.2.2.1, TXT_eq (fun c hc => f c (by omega) (by omega)) (fun j hj => g j (by omega)) hI.2.2.2.2.1, ?_, IMG_eq (fun c hc => f c (by omega) (by omega)) (fun j _ => by rw [f 95 (by decide) (by decide)]) hI.2.2.2.2.2.2⟩
  have z : (hset (hset h 47 0 0) 69 40 0) 69 40 = 0 := hset_rs
  refine ⟨by rw [z, hset_c (by decide), hset_rs], by rw [z]; decide, by rw [z]; decide, fun j hj => ?_⟩
  rw [z] at hj; omega
end OP2
