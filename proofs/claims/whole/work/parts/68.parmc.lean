/-! ===== PURE: the model reads clauses ===== -/
def DX (D : HP) (hh : Int) (h : HP) : Prop := h 69 23 = D 0 0 ∧ h 69 24 = hh ∧ h 69 26 = D 0 2 ∧ h 69 29 = D 0 3 ∧ (∀ j : Nat, (j : Int) < D 0 1 → h 80 j = D 1 j) ∧ (∀ j : Nat, (j : Int) < D 0 2 → h 81 j = D 2 j ∧ h 82 j = D 3 j) ∧ ∀ j, j < 30 → h 83 j = D 4 j
theorem DX.eq {D h h' : HP} {hh : Int} (d : DX D hh h) (e : ∀ c, 80 ≤ c → c ≤ 83 → h' c = h c) (ef : ∀ j, j = 23 ∨ j = 24 ∨ j = 26 ∨ j = 29 → h' 69 j = h 69 j) : DX D hh h' := by
  unfold DX
  rw [ef 23 (by decide), ef 24 (by decide), ef 26 (by decide), ef 29 (by decide), e 80 (by decide) (by decide), e 81 (by decide) (by decide), e 82 (by decide) (by decide), e 83 (by decide) (by decide)]
  exact d
theorem DX.tn {D h g : HP} {hh : Int} (d : DX D hh h) (t : TN h g) : DX D hh g := d.eq (fun c h1 h2 => t.1 c (by omega)) (fun j hj => t.2 j (by omega) (by omega) (by omega) (by omega))
theorem DX.fld {D h : HP} {hh : Int} {j : Nat} {v : Int} (d : DX D hh h) (hj : j < 23) : DX D hh (hset h 69 j v) := d.eq (fun c h1 h2 => hset_c (by omega)) (fun k hk => hset_rn (by omega))
section PMC
variable {T : Nat → Int} {n : Nat}
theorem M_hpL {Q : Int → HP → Prop} {h0 : HP} {x : Nat} {v0 : Int} : ∀ (m f c i : Nat) (D h : HP), 6 ≤ m + c → 6 ≤ f + c → c ≤ 4 → MF h0 h → MS T n i h → DX D ((x : Int) + 1) h → D 0 1 = x → h 80 x = v0 → okE D c → D 0 1 < 5 → h 69 17 = -1 → (∀ g, (hpF T n m D i c).1 = 0 → MF h0 g → MS T n (nA T n (hpF T n m D i c).2.2.2) g → DX (hpF T n m D i c).2.2.1 ((x : Int) + 1) g → g 80 x = v0 → g 69 17 = -1 → Q 0 g) → (∀ g, (hpF T n m D i c).1 ≠ 0 → MF h0 g → g 69 17 = (((hpF T n m D i c).2.1 : Nat) : Int) → Q (hpF T n m D i c).1 g) → p8_takeHouse_L35 x Q f h 0 c := by
  intro m
  induction m with
  | zero => intro f c i D h hm hf hc; omega
  | succ m ih =>
    intro f c i D h hm hf hc fr R d hx hv o h5 h17 ok bad
    obtain ⟨f, rfl⟩ : ∃ n', f = n' + 1 + 1 := ⟨f - 2, by omega⟩
    obtain ⟨d1, d2, d3, d4, d5, d6, d7⟩ := id d
    obtain ⟨⟨s1, s2, s3, s4⟩, o2, o3, o4, o5, o6, o7, o8, o9, o10⟩ := id o
    have R' := R.at (nA_le (T := T) R.2.2.1)
    have fr' : MF h0 (hset h 69 18 ((nA T n i : Nat) : Int)) := fr.fld (by decide) (by decide)
    have d' : DX D ((x : Int) + 1) (hset h 69 18 ((nA T n i : Nat) : Int)) := d.fld (by decide)
    have v' : hset h 69 18 ((nA T n i : Nat) : Int) 80 x = v0 := by rw [hset_c (by decide)]; exact hv
    have g17 : hset h 69 18 ((nA T n i : Nat) : Int) 69 17 = -1 := by rw [hset_rn (by decide)]; exact h17
    have r5 := R.2.2.2.2
    unfold hpF at ok bad
    have no : ¬ (nA T n i < n ∧ isDg (T (nA T n i)) = true) → Q 0 (hset h 69 18 ((nA T n i : Nat) : Int)) := fun z => by
      rw [if_neg z] at ok
      exact ok _ rfl fr' R' d' v' g17
    have bad2 : ∀ (k : Int) (g : HP), 0 < k → k ≤ 4 → Q k g → ∀ y : Int, p8_takeHouse_L35 x Q (f + 1) g k y := by
      intro k g k0 k4 hq y
      unfold p8_takeHouse_L35
      exact brN (fun q => by have := (weq0 ⟨by omega, by omega⟩).mp q; omega) hq
    unfold p8_takeHouse_L35
    refine brY (by decide) ?_
    refine M_here R (fun z1 => ?_) (fun z => M_dg (by decide) (by decide) (fun q => absurd q (by decide)) (fun q => brY (by decide) (no (fun w => z w.1))))
    have t := r5 (nA T n i) z1
    refine M_dg (by omega) t.2.2 (fun z2 => brN (by decide) ?_) (fun z2 => brY (by decide) (no (fun w => z2 w.2)))
    rw [if_pos (⟨z1, z2⟩ : nA T n i < n ∧ isDg (T (nA T n i)) = true)] at ok bad
    rw [show hset h 69 18 ((nA T n i : Nat) : Int) 69 23 = D 0 0 from d'.1]
    refine M_num ⟨by decide, by decide⟩ ⟨by omega, by omega⟩ R' (fun k g tn Rg e17 e21 e22 => ?_) (fun k g tn e17 => ?_)
    · rw [rnK_nA] at k
      rw [nV_nA] at e21
      rw [nJ_nA] at Rg
      rw [nA_nA] at e22
      rw [if_pos k] at ok bad
      refine jn_i (jn_i (brY (by decide) ?_))
      refine brQ (weq ⟨by omega, by omega⟩ ⟨by omega, by omega⟩) (fun z => ?_) (fun z => ?_)
      · have c4 : c = 4 := by omega
        rw [if_pos c4] at bad
        rw [e22]
        refine pf_i (brN (by decide) (bad2 4 _ (by decide) (by decide) ?_ _))
        exact bad _ (show ¬ (4 : Int) = 0 by decide) ((fr'.tr tn.mf).fld (by decide) (by decide)) hset_rs
      · have c4 : ¬ c = 4 := by omega
        rw [if_neg c4] at ok bad
        obtain ⟨_, _, r3, r4⟩ := rnK_0 k
        obtain ⟨p, hp⟩ := Int.eq_ofNat_of_zero_le o2
        have dg := d'.tn tn
        have e26 : g 69 26 = p := by rw [dg.2.2.1]; exact hp
        refine brY (by decide) ?_
        rw [e26, e21]
        refine wr_n (by omega) (by decide) ?_
        rw [show hset g 81 p (nV T n i) 69 26 = (p : Int) from by rw [hset_c (by decide)]; exact e26]
        refine wr_n (by omega) (by decide) (pf_i ?_)
        rw [show hset (hset g 81 p (nV T n i)) 82 p (x : Int) 69 26 = (p : Int) from by rw [hset_c (by decide), hset_c (by decide)]; exact e26]
        rw [show (c : Int) + 1 = ((c + 1 : Nat) : Int) from by omega]
        obtain ⟨g1, g2, g3, g4, g5, g6, g7⟩ := id dg
        have e : (D 0 2).toNat = p := by omega
        refine ih (f + 1) (c + 1) (nJ T n i) (addD D (nV T n i)) _ (by omega) (by omega) (by omega) ((((fr'.tr tn.mf).set (by decide) (by decide)).set (by decide) (by decide)).fld (by decide) (by decide)) (Rg.eq ?_ ?_ ?_) ?_ (by rw [addD_0 (by decide)]; exact hx) ?_ (okE_add o r3 (by omega)) (by rw [addD_0 (by decide)]; exact h5) ?_ ok bad
        · rw [hset_rn (by decide), hset_c (by decide), hset_c (by decide)]
        · rw [hset_rn (by decide), hset_c (by decide), hset_c (by decide)]
        · rw [hset_c (by decide), hset_c (by decide), hset_c (by decide)]
        · unfold DX
          rw [addD_0 (j := 0) (by decide), addD_0 (j := 1) (by decide), addD_0 (j := 3) (by decide), addD_02, addD_c (i := 1) (by decide), addD_c (i := 4) (by decide)]
          refine ⟨?_, ?_, ?_, ?_, fun j hj => ?_, fun j hj => ?_, fun j hj => ?_⟩
          · rw [hset_rn (by decide), hset_c (by decide), hset_c (by decide)]; exact g1
          · rw [hset_rn (by decide), hset_c (by decide), hset_c (by decide)]; exact g2
          · rw [hset_rs, hp]
          · rw [hset_rn (by decide), hset_c (by decide), hset_c (by decide)]; exact g4
          · rw [hset_c (by decide), hset_c (by decide), hset_c (by decide)]; exact g5 j hj
          · rw [hset_c (show (81 : Nat) ≠ 69 by decide), hset_c (show (81 : Nat) ≠ 82 by decide), hset_c (show (82 : Nat) ≠ 69 by decide), addD_2, addD_3, e]
            by_cases q : j = p
            · subst q; rw [hset_rs, hset_rs, if_pos rfl, if_pos rfl]; exact ⟨rfl, hx.symm⟩
            · rw [hset_rn q, hset_rn q, if_neg q, if_neg q, hset_c (by decide)]
              exact g6 j (by omega)
          · rw [hset_c (by decide), hset_c (by decide), hset_c (by decide)]; exact g7 j hj
        · rw [hset_c (by decide), hset_c (by decide), hset_c (by decide), tn.1 80 (by decide)]; exact v'
        · rw [hset_rn (by decide), hset_c (by decide), hset_c (by decide), e17]; exact g17
    · rw [rnK_nA] at k ⊢
      rw [nA_nA] at e17
      rw [if_neg k] at bad
      have rv := rnK_v (T := T) (n := n) 0 (D 0 0 - 1) i
      refine jn_i (jn_i (brN (fun q => by have := (weq0 ⟨by omega, by omega⟩).mp q; omega) ?_))
      refine brN (fun q => by have := (weq0 ⟨by omega, by omega⟩).mp q; omega) (bad2 _ g (by omega) (by omega) ?_ _)
      exact bad g k (fr'.tr tn.mf) e17
/-- what a clause comes to, but for its end -/
def OP (T : Nat → Int) (n : Nat) (h : HP) (R : Int × Nat × HP × Nat) (Q : Int → HP → Prop) : Prop := (∀ D i g, R = finF T n D i → MF h g → MS T n i g → DX D (D 0 1) g → g 69 17 = -1 → Q 0 g) ∧ ∀ k w D p g, R = (k, w, D, p) → 0 < k → k ≤ 4 → MF h g → g 69 17 = ((w : Nat) : Int) → Q k g
theorem M_takeHouse {Q : Int → HP → Prop} {h D : HP} {a e : Nat} (R : MS T n e h) (d : DX D (D 0 1) h) (o : okE D 0) (h5 : D 0 1 < 5) (h17 : h 69 17 = -1) (hq : OP T n h (clH T n D a e) Q) : p8_takeHouse h Q := by
  obtain ⟨d1, d2, d3, d4, d5, d6, d7⟩ := id d
  obtain ⟨⟨s1, s2, s3, s4⟩, o2, o3, o4, o5, o6, o7, o8, o9, o10⟩ := id o
  obtain ⟨x, hx⟩ := Int.eq_ofNat_of_zero_le s3
  have jl := nJ_le (T := T) R.2.2.1
  have z' : ¬ 5 ≤ D 0 1 := by omega
  unfold clH at hq
  rw [if_neg z'] at hq
  unfold p8_takeHouse
  rw [d2, hx]
  refine pf_i ?_
  have R1 : MS T n e (hset h 69 24 ((x : Int) + 1)) := R.eq (hset_rn (by decide)) (hset_rn (by decide)) (hset_c (by decide))
  have f1 : MF h (hset h 69 24 ((x : Int) + 1)) := MF.rf.fld (by decide) (by decide)
  have dx1 : DX D ((x : Int) + 1) (hset h 69 24 ((x : Int) + 1)) := by
    unfold DX
    rw [hset_rs, hset_rn (by decide), hset_rn (by decide), hset_rn (by decide), hset_c (by decide), hset_c (by decide), hset_c (by decide), hset_c (by decide)]
    exact ⟨d1, rfl, d3, d4, d5, d6, d7⟩
  have h171 : hset h 69 24 ((x : Int) + 1) 69 17 = -1 := by rw [hset_rn (by decide)]; exact h17
  refine M_num ⟨by decide, by decide⟩ ⟨by decide, by decide⟩ R1 (fun k g tn Rg e17 e21 e22 => ?_) (fun k g tn e17 => ?_)
  · rw [if_pos k] at hq
    obtain ⟨_, _, r3, r4⟩ := rnK_0 k
    refine wr_n (by omega) (by decide) ?_
    rw [e21]
    obtain ⟨p1, p2, p3, p4, p5, p6, p7⟩ := hp_sp (T := T) (n := n) 6 D (nJ T n e) 0 o (by decide) jl
    have dg := dx1.tn tn
    refine M_hpL (h0 := h) (x := x) (v0 := nV T n e) 6 FUEL 0 (nJ T n e) D _ (by decide) (by decide) (by decide) ((f1.tr tn.mf).set (by decide) (by decide)) (Rg.eq (by rw [hset_c (by decide)]) (by rw [hset_c (by decide)]) (by rw [hset_c (by decide)])) ?_ hx (by rw [hset_rs]) o h5 (by rw [hset_c (by decide), e17]; exact h171) (fun g2 q fg Rg2 dg2 v2 g17 => ?_) (fun g2 q fg g17 => ?_)
    · obtain ⟨g1, g2, g3, g4, g5, g6, g7⟩ := dg
      unfold DX
      rw [hset_c (show (69 : Nat) ≠ 80 by decide), hset_c (show (81 : Nat) ≠ 80 by decide), hset_c (show (82 : Nat) ≠ 80 by decide), hset_c (show (83 : Nat) ≠ 80 by decide)]
      exact ⟨g1, g2, g3, g4, fun j hj => by rw [hset_rn (by omega)]; exact g5 j hj, g6, g7⟩
    · rw [if_pos q] at hq
      refine hq.1 _ _ g2 (finF_nA _ _).symm fg Rg2 ?_ g17
      obtain ⟨g1, g2', g3, g4, g5, g6, g7⟩ := dg2
      have hx' : (D 0 1).toNat = x := by omega
      rw [hx', hx]
      unfold DX
      rw [hset_rn (show (0 : Nat) ≠ 1 by decide), hset_rs, hset_rn (show (2 : Nat) ≠ 1 by decide), hset_rn (show (3 : Nat) ≠ 1 by decide), hset_c (show (0 : Nat) ≠ 1 by decide), hset_c (show (1 : Nat) ≠ 0 by decide), hset_c (show (2 : Nat) ≠ 0 by decide), hset_c (show (2 : Nat) ≠ 1 by decide), hset_c (show (3 : Nat) ≠ 0 by decide), hset_c (show (3 : Nat) ≠ 1 by decide), hset_c (show (4 : Nat) ≠ 0 by decide), hset_c (show (4 : Nat) ≠ 1 by decide)]
      refine ⟨g1, g2', g3, g4, fun j hj => ?_, g6, g7⟩
      by_cases c : j = x
      · subst c; rw [hset_rs]; exact v2
      · rw [hset_rn c]; exact g5 j (by omega)
    · rw [if_neg q] at hq
      exact hq.2 _ _ _ _ g2 rfl (by omega) p7 fg g17
  · rw [if_neg k] at hq
    have rv := rnK_v (T := T) (n := n) 0 99 e
    refine wr_n (by omega) (by decide) ?_
    unfold FUEL p8_takeHouse_L35
    refine brN (fun q => by have := (weq0 ⟨by omega, by omega⟩).mp q; omega) ?_
    exact hq.2 _ _ _ _ _ rfl (by omega) (by omega) ((f1.tr tn.mf).set (by decide) (by decide)) (by rw [hset_c (by decide)]; exact e17)
theorem M_takeWorth {Q : Int → HP → Prop} {h D : HP} {a e : Nat} (R : MS T n e h) (d : DX D (D 0 1) h) (o : okE D 0) (h30 : D 0 3 < 30) (h17 : h 69 17 = -1) (hq : OP T n h (clW T n D a e) Q) : p8_takeWorth h Q := by
  obtain ⟨d1, d2, d3, d4, d5, d6, d7⟩ := id d
  obtain ⟨⟨s1, s2, s3, s4⟩, o2, o3, o4, o5, o6, o7, o8, o9, o10⟩ := id o
  have z' : ¬ 30 ≤ D 0 3 := by omega
  unfold clW at hq
  rw [if_neg z'] at hq
  unfold p8_takeWorth
  rw [d2]
  refine M_num ⟨by decide, by decide⟩ ⟨by omega, by omega⟩ R (fun k g tn Rg e17 e21 e22 => jn_i ?_) (fun k g tn e17 => jn_i ?_)
  · rw [if_pos k] at hq
    obtain ⟨_, _, r3, r4⟩ := rnK_0 k
    have dg := d.tn tn
    refine brY (by decide) ?_
    rw [dg.1]
    refine M_num ⟨by decide, by decide⟩ ⟨by omega, by omega⟩ Rg (fun k2 g2 tn2 Rg2 f17 f21 f22 => ?_) (fun k2 g2 tn2 f17 => ?_)
    · rw [if_pos k2] at hq
      obtain ⟨_, _, v3, v4⟩ := rnK_0 k2
      obtain ⟨pr, hpr⟩ := Int.eq_ofNat_of_zero_le (show 0 ≤ nV T n e * 6 + nV T n (nJ T n e) by omega)
      have hpi : prI T n e = pr := by unfold prI; omega
      have pr30 : pr < 30 := by omega
      have d2g := dg.tn tn2
      obtain ⟨q1, q2, q3, q4, q5, q6, q7⟩ := id d2g
      rw [hpi] at hq
      refine brY (by decide) ?_
      rw [e21, f21, show 6 * nV T n e + nV T n (nJ T n e) = (pr : Int) from by omega]
      refine rd_n pr30 (by decide) ?_
      rw [q7 pr pr30]
      have o10p := o10 pr pr30
      refine brQ (wlt0 ⟨by omega, by omega⟩) (fun c => ?_) (fun c => ?_)
      · rw [if_pos c] at hq
        refine pf_i ?_
        have R3 : MS T n (nJ T n (nJ T n e)) (hset g2 69 29 (g2 69 29 + 1)) := Rg2.eq (hset_rn (by decide)) (hset_rn (by decide)) (hset_c (by decide))
        refine M_num ⟨by decide, by decide⟩ ⟨by decide, by decide⟩ R3 (fun k3 g3 tn3 Rg3 w17 w21 w22 => ?_) (fun k3 g3 tn3 w17 => ?_)
        · rw [if_pos k3] at hq
          obtain ⟨_, _, w3, w4⟩ := rnK_0 k3
          refine wr_n pr30 (by decide) ?_
          rw [w21]
          refine hq.1 _ _ _ rfl ((((tn.mf.tr tn2.mf).fld (by decide) (by decide)).tr tn3.mf).set (by decide) (by decide)) (Rg3.eq (by rw [hset_c (by decide)]) (by rw [hset_c (by decide)]) (by rw [hset_c (by decide)])) ?_ ?_
          · unfold DX
            have t : ∀ c, c ≠ 69 → g3 c = g2 c := fun c hc => by rw [tn3.1 c hc, hset_c hc]
            have tf : ∀ j, j = 23 ∨ j = 24 ∨ j = 26 → g3 69 j = g2 69 j := fun j hj => by rw [tn3.2 j (by omega) (by omega) (by omega) (by omega), hset_rn (by omega)]
            have t29 : g3 69 29 = g2 69 29 + 1 := by rw [tn3.2 29 (by decide) (by decide) (by decide) (by decide), hset_rs]
            rw [hset_c (show (69 : Nat) ≠ 83 by decide), hset_c (show (80 : Nat) ≠ 83 by decide), hset_c (show (81 : Nat) ≠ 83 by decide), hset_c (show (82 : Nat) ≠ 83 by decide), tf 23 (by decide), tf 24 (by decide), tf 26 (by decide), t29, t 80 (by decide), t 81 (by decide), t 82 (by decide)]
            rw [hset_rn (show (0 : Nat) ≠ 3 by decide), hset_rn (show (1 : Nat) ≠ 3 by decide), hset_rn (show (2 : Nat) ≠ 3 by decide), hset_rs, hset_c (show (0 : Nat) ≠ 4 by decide), hset_c (show (1 : Nat) ≠ 0 by decide), hset_c (show (1 : Nat) ≠ 4 by decide), hset_c (show (2 : Nat) ≠ 0 by decide), hset_c (show (2 : Nat) ≠ 4 by decide), hset_c (show (3 : Nat) ≠ 0 by decide), hset_c (show (3 : Nat) ≠ 4 by decide), hset_c (show (4 : Nat) ≠ 0 by decide)]
            refine ⟨q1, q2, q3, by rw [q4], q5, q6, fun j hj => ?_⟩
            by_cases q : j = pr
            · subst q; rw [hset_rs, hset_rs]
            · rw [hset_rn q, hset_rn q, t 83 (by decide)]; exact q7 j hj
          · rw [hset_c (by decide), w17, hset_rn (by decide), f17, e17]; exact h17
        · rw [if_neg k3] at hq
          have rv := rnK_v (T := T) (n := n) 0 99 (nJ T n (nJ T n e))
          refine wr_n pr30 (by decide) ?_
          exact hq.2 _ _ _ _ _ rfl (by omega) (by omega) ((((tn.mf.tr tn2.mf).fld (by decide) (by decide)).tr tn3.mf).set (by decide) (by decide)) (by rw [hset_c (by decide)]; exact w17)
      · rw [if_neg c] at hq
        refine pf_i ?_
        exact hq.2 _ _ _ _ _ rfl (by decide) (by decide) ((tn.mf.tr tn2.mf).fld (by decide) (by decide)) (by rw [hset_rs, f22])
    · rw [if_neg k2] at hq
      have rv := rnK_v (T := T) (n := n) 0 (D 0 0 - 1) (nJ T n e)
      refine brN (fun q => by have := (wle0 ⟨by omega, by omega⟩).mp q; omega) ?_
      exact hq.2 _ _ _ _ _ rfl (by omega) (by omega) (tn.mf.tr tn2.mf) f17
  · rw [if_neg k] at hq
    have rv := rnK_v (T := T) (n := n) 0 (D 0 1 - 1) e
    refine brN (fun q => by have := (wle0 ⟨by omega, by omega⟩).mp q; omega) ?_
    refine brN (fun q => by have := (wle0 ⟨by omega, by omega⟩).mp q; omega) ?_
    exact hq.2 _ _ _ _ _ rfl (by omega) (by omega) tn.mf e17
def OM (T : Nat → Int) (n : Nat) (h0 : HP) (R : Int × Nat × HP × Nat) (g : HP) : Prop := MF h0 g ∧ (R.1 = 0 → MS T n R.2.2.2 g ∧ DX R.2.2.1 (R.2.2.1 0 1) g ∧ g 69 17 = -1) ∧ (R.1 ≠ 0 → g 69 17 = ((R.2.1 : Nat) : Int))
/-- the clause's end -/
def kxM (Q : Int → HP → Prop) (y : Int) (h : HP) : Prop := jn (fun (h99 : HP) => pf h99 69 18 ((h99 69 18) + 1) fun h101 => Q y h101) fun K100 => brc (w32 y = 0) (p8_here h fun r102 h103 => brc (w32 r102 = w32 59) (K100 h103) (p8_fails 1 (h103 69 18) h103 fun r104 h105 => Q r104 h105)) (K100 h)
theorem M_end {Q : Int → HP → Prop} {h0 h : HP} {R : Int × Nat × HP × Nat} (f : MF h0 h) (hq : ∀ g, OM T n h0 R g → Q R.1 g) : OP T n h R (kxM Q) := by
  refine ⟨fun D i g e fg Rg d g17 => ?_, fun k w D p g e k0 k4 fg g17 => ?_⟩
  · subst e
    have n4 := Rg.2.2.2.1
    have r5 := Rg.2.2.2.2
    have nl := nA_le (T := T) Rg.2.2.1
    have e18 : hset g 69 18 ((nA T n i : Nat) : Int) 69 18 = ((nA T n i : Nat) : Int) := hset_rs
    have bad : ¬ (nA T n i < n ∧ T (nA T n i) = 59) → p8_fails 1 ((nA T n i : Nat) : Int) (hset g 69 18 ((nA T n i : Nat) : Int)) fun r104 h105 => Q r104 h105 := fun z => by
      have ef : finF T n D i = (1, nA T n i, D, 0) := if_neg z
      rw [ef] at hq
      exact pf_i (hq _ ⟨((f.tr fg).fld (by decide) (by decide)).fld (by decide) (by decide), fun q => absurd q (show ¬ (1 : Int) = 0 by decide), fun _ => hset_rs⟩)
    unfold kxM
    refine jn_i (brY (by decide) ?_)
    refine M_here Rg (fun z1 => ?_) (fun z => by rw [e18]; exact brN (by decide) (bad (fun q => z q.1)))
    rw [e18]
    have t := r5 _ z1
    refine brQ (weq ⟨by omega, by omega⟩ ⟨by omega, by omega⟩) (fun z2 => ?_) (fun z2 => bad (fun q => z2 q.2))
    have ef : finF T n D i = (0, 0, D, nA T n i + 1) := if_pos ⟨z1, z2⟩
    rw [ef] at hq
    refine pf_i ?_
    rw [e18, hset_ov, show ((nA T n i : Nat) : Int) + 1 = ((nA T n i + 1 : Nat) : Int) from by omega]
    exact hq _ ⟨(f.tr fg).fld (by decide) (by decide), fun _ => ⟨Rg.at (by show nA T n i + 1 ≤ n; omega), d.fld (by decide), by rw [hset_rn (by decide)]; exact g17⟩, fun q => absurd rfl q⟩
  · subst e
    unfold kxM
    refine jn_i (brN (fun q => by have := (weq0 ⟨by omega, by omega⟩).mp q; omega) (pf_i ?_))
    exact hq _ ⟨(f.tr fg).fld (by decide) (by decide), fun q => absurd (show k = 0 from q) (by omega), fun _ => by rw [hset_rn (by decide)]; exact g17⟩
end PMC
