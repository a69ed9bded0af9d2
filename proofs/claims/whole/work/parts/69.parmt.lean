/-! ===== PURE: the model reads a text ===== -/
section OKE
variable {D : HP} {v : Int}
theorem okE_s (o : okE D 0) (h0 : D 0 0 = 0) (v1 : 1 ≤ v) (v6 : v ≤ 6) : okE (hset D 0 0 v) 0 := by
  obtain ⟨⟨s1, s2, s3, s4⟩, o2, o3, o4, o5, o6, o7, o8, o9, o10⟩ := o
  unfold okE cnD
  rw [hset_rs, hset_rn (show (1 : Nat) ≠ 0 by decide), hset_rn (show (2 : Nat) ≠ 0 by decide), hset_rn (show (3 : Nat) ≠ 0 by decide), hset_c (show (1 : Nat) ≠ 0 by decide), hset_c (show (2 : Nat) ≠ 0 by decide), hset_c (show (3 : Nat) ≠ 0 by decide), hset_c (show (4 : Nat) ≠ 0 by decide)]
  exact ⟨⟨by omega, by omega, s3, s4⟩, o2, o3, o4, o5, o6, fun p hp => by have := o7 p hp; omega, o8, o9, o10⟩
theorem okE_h {c x : Nat} (o : okE D c) (hc : c ≤ 4) (hx : D 0 1 = x) (h5 : D 0 1 < 5) (v1 : 0 ≤ v) (v2 : v ≤ 99) : okE (hset (hset D 1 x v) 0 1 ((x : Int) + 1)) 0 := by
  obtain ⟨⟨t1, t2, t3, t4⟩, u2, u3, u4, u5, u6, u7, u8, u9, u10⟩ := o
  unfold okE cnD
  rw [hset_rn (show (0 : Nat) ≠ 1 by decide), hset_rs, hset_rn (show (2 : Nat) ≠ 1 by decide), hset_rn (show (3 : Nat) ≠ 1 by decide), hset_c (show (0 : Nat) ≠ 1 by decide), hset_c (show (1 : Nat) ≠ 0 by decide), hset_c (show (2 : Nat) ≠ 0 by decide), hset_c (show (2 : Nat) ≠ 1 by decide), hset_c (show (3 : Nat) ≠ 0 by decide), hset_c (show (3 : Nat) ≠ 1 by decide), hset_c (show (4 : Nat) ≠ 0 by decide), hset_c (show (4 : Nat) ≠ 1 by decide)]
  refine ⟨⟨t1, t2, by omega, by omega⟩, u2, by omega, u4, u5, fun p hp => ?_, fun p hp => ?_, fun y y1 y2 => ?_, ?_, u10⟩
  · by_cases c : p = x
    · subst c; rw [hset_rs]; exact ⟨v1, v2⟩
    · rw [hset_rn c]; exact u6 p (by omega)
  · have := u7 p hp; omega
  · by_cases c : y = x
    · subst c
      have := u9
      rw [hx] at this
      unfold cnD at this
      omega
    · exact u8 y y1 (by omega)
  · have := fs_zero (f := fun q => if D 3 q = (x : Int) + 1 then (1 : Int) else 0) 0 (D 0 2).toNat (fun q _ hq' => if_neg (fun w => by have := u7 q (by omega); omega))
    rw [this]; decide
theorem okE_w {pr : Nat} (o : okE D 0) (h3 : D 0 3 < 30) (v1 : 0 ≤ v) (v2 : v ≤ 99) : okE (hset (hset D 4 pr v) 0 3 (D 0 3 + 1)) 0 := by
  obtain ⟨⟨s1, s2, s3, s4⟩, o2, o3, o4, o5, o6, o7, o8, o9, o10⟩ := o
  unfold okE cnD
  rw [hset_rn (show (0 : Nat) ≠ 3 by decide), hset_rn (show (1 : Nat) ≠ 3 by decide), hset_rn (show (2 : Nat) ≠ 3 by decide), hset_rs, hset_c (show (0 : Nat) ≠ 4 by decide), hset_c (show (1 : Nat) ≠ 0 by decide), hset_c (show (1 : Nat) ≠ 4 by decide), hset_c (show (2 : Nat) ≠ 0 by decide), hset_c (show (2 : Nat) ≠ 4 by decide), hset_c (show (3 : Nat) ≠ 0 by decide), hset_c (show (3 : Nat) ≠ 4 by decide), hset_c (show (4 : Nat) ≠ 0 by decide)]
  refine ⟨⟨s1, s2, s3, s4⟩, o2, o3, by omega, by omega, o6, o7, o8, o9, fun j hj => ?_⟩
  by_cases q : j = pr
  · subst q; rw [hset_rs]; exact ⟨by omega, v2⟩
  · rw [hset_rn q]; exact o10 j hj
end OKE
section PMT
variable {T : Nat → Int} {n : Nat}
theorem fin_ok {D : HP} {i : Nat} (o : okE D 0) (hi : i ≤ n) : 0 ≤ (finF T n D i).1 ∧ (finF T n D i).1 ≤ 4 ∧ ((finF T n D i).1 = 0 → okE (finF T n D i).2.2.1 0 ∧ (finF T n D i).2.2.2 ≤ n) := by
  rcases fin_sp (T := T) (n := n) D i with ⟨_, a, _, e⟩ | ⟨_, _, e⟩
  · rw [e]; exact ⟨by show (0 : Int) ≤ 0; decide, by show (0 : Int) ≤ 4; decide, fun _ => ⟨o, by show nA T n i + 1 ≤ n; omega⟩⟩
  · rw [e]; exact ⟨by show (0 : Int) ≤ 1; decide, by show (1 : Int) ≤ 4; decide, fun z => absurd z (show ¬ (1 : Int) = 0 by decide)⟩
theorem bad_ok {D : HP} {k : Int} {w p : Nat} (h0 : 0 < k) (h4 : k ≤ 4) : 0 ≤ ((k, w, D, p) : Int × Nat × HP × Nat).1 ∧ ((k, w, D, p) : Int × Nat × HP × Nat).1 ≤ 4 ∧ (((k, w, D, p) : Int × Nat × HP × Nat).1 = 0 → okE ((k, w, D, p) : Int × Nat × HP × Nat).2.2.1 0 ∧ ((k, w, D, p) : Int × Nat × HP × Nat).2.2.2 ≤ n) :=
  ⟨Int.le_of_lt h0, h4, fun z => absurd (show k = 0 from z) (by omega)⟩
theorem cl_ok {D : HP} {a : Nat} (o : okE D 0) (ha : a ≤ n) : 0 ≤ (clF T n D a).1 ∧ (clF T n D a).1 ≤ 4 ∧ ((clF T n D a).1 = 0 → okE (clF T n D a).2.2.1 0 ∧ (clF T n D a).2.2.2 ≤ n) := by
  have el : spN isLt T n a ≤ n := sp_le ha
  obtain ⟨⟨s1, s2, s3, s4⟩, o2, o3, o4, o5, o6, o7, o8, o9, o10⟩ := id o
  unfold clF
  generalize spN isLt T n a = e at *
  have jl : nJ T n e ≤ n := nJ_le el
  by_cases c1 : wdK T 0 a e
  · rw [if_pos c1]
    unfold clS
    by_cases c : 0 < D 0 0
    · rw [if_pos c]; exact bad_ok (by decide) (by decide)
    · rw [if_neg c]
      have rv := rnK_v (T := T) (n := n) 1 6 e
      by_cases k : rnK T n 1 6 e = 0
      · rw [if_pos k]
        obtain ⟨_, _, r3, r4⟩ := rnK_0 k
        exact fin_ok (okE_s o (by omega) r3 r4) jl
      · rw [if_neg k]; exact bad_ok (by omega) (by omega)
  · rw [if_neg c1]
    by_cases c2 : 0 < D 0 0 ∧ wdK T 1 a e
    · rw [if_pos c2]
      unfold clH
      by_cases c : 5 ≤ D 0 1
      · rw [if_pos c]; exact bad_ok (by decide) (by decide)
      · rw [if_neg c]
        have rv := rnK_v (T := T) (n := n) 0 99 e
        by_cases k : rnK T n 0 99 e = 0
        · rw [if_pos k]
          obtain ⟨_, _, r3, r4⟩ := rnK_0 k
          obtain ⟨p1, p2, p3, p4, p5, p6, p7⟩ := hp_sp (T := T) (n := n) 6 D (nJ T n e) 0 o (by decide) jl
          by_cases k2 : (hpF T n 6 D (nJ T n e) 0).1 = 0
          · rw [if_pos k2]
            obtain ⟨c', hc', oc⟩ := p4 k2
            obtain ⟨x, hx⟩ := Int.eq_ofNat_of_zero_le s3
            rw [show (D 0 1).toNat = x from by omega, hx]
            exact fin_ok (okE_h oc hc' (by omega) (by omega) r3 r4) (p5 k2).2
          · rw [if_neg k2]; exact bad_ok (by omega) p7
        · rw [if_neg k]; exact bad_ok (by omega) (by omega)
    · rw [if_neg c2]
      by_cases c3 : 0 < D 0 0 ∧ wdK T 2 a e
      · rw [if_pos c3]
        unfold clW
        by_cases c : 30 ≤ D 0 3
        · rw [if_pos c]; exact bad_ok (by decide) (by decide)
        · rw [if_neg c]
          have rv := rnK_v (T := T) (n := n) 0 (D 0 1 - 1) e
          by_cases k : rnK T n 0 (D 0 1 - 1) e = 0
          · rw [if_pos k]
            have rv2 := rnK_v (T := T) (n := n) 0 (D 0 0 - 1) (nJ T n e)
            by_cases k2 : rnK T n 0 (D 0 0 - 1) (nJ T n e) = 0
            · rw [if_pos k2]
              by_cases k3 : D 4 (prI T n e) < 0
              · rw [if_pos k3]
                have rv3 := rnK_v (T := T) (n := n) 0 99 (nJ T n (nJ T n e))
                by_cases k4 : rnK T n 0 99 (nJ T n (nJ T n e)) = 0
                · rw [if_pos k4]
                  obtain ⟨_, _, r3, r4⟩ := rnK_0 k4
                  exact fin_ok (okE_w o (by omega) r3 r4) (nJ_le (nJ_le jl))
                · rw [if_neg k4]; exact bad_ok (by omega) (by omega)
              · rw [if_neg k3]; exact bad_ok (by decide) (by decide)
            · rw [if_neg k2]; exact bad_ok (by omega) (by omega)
          · rw [if_neg k]; exact bad_ok (by omega) (by omega)
      · rw [if_neg c3]; exact bad_ok (by decide) (by decide)
theorem M_code0 {Q : Int → Prop} {h : HP} (hq : Q 10406305) : p8_code 115 111 114 116 115 h Q := by
  have e : (((27 * (((27 * (((27 * (((27 * ((w32 115) - 96)) + (w32 111)) - 96)) + (w32 114)) - 96)) + (w32 116)) - 96)) + (w32 115)) - 96) = 10406305 := by decide
  unfold p8_code; rw [e]; exact hq
theorem M_code1 {Q : Int → Prop} {h : HP} (hq : Q 4562600) : p8_code 104 111 117 115 101 h Q := by
  have e : (((27 * (((27 * (((27 * (((27 * ((w32 104) - 96)) + (w32 111)) - 96)) + (w32 117)) - 96)) + (w32 115)) - 96)) + (w32 101)) - 96) = 4562600 := by decide
  unfold p8_code; rw [e]; exact hq
theorem M_code2 {Q : Int → Prop} {h : HP} (hq : Q 12532058) : p8_code 119 111 114 116 104 h Q := by
  have e : (((27 * (((27 * (((27 * (((27 * ((w32 119) - 96)) + (w32 111)) - 96)) + (w32 114)) - 96)) + (w32 116)) - 96)) + (w32 104)) - 96) = 12532058 := by decide
  unfold p8_code; rw [e]; exact hq
theorem M_readWord {Q : HP → Prop} {h : HP} {a : Nat} (R : MS T n a h) (ha : nA T n a = a) (hq : ∀ g s, (∀ c, c ≠ 69 → g c = h c) → (∀ k, k ≠ 19 → k ≠ 20 → g 69 k = h 69 k) → g 69 20 = ((spN isLt T n a : Nat) : Int) → g 69 19 = s → 0 ≤ s → s ≤ 30000000000000 → ((s = 10406305 ↔ wdK T 0 a (spN isLt T n a)) ∧ (s = 4562600 ↔ wdK T 1 a (spN isLt T n a)) ∧ (s = 12532058 ↔ wdK T 2 a (spN isLt T n a))) → Q g) : p8_readWord h Q := by
  obtain ⟨r1, r2, r3, r4, r5⟩ := id R
  have main : pf h 69 19 0 fun h3 => pf h3 69 20 (h3 69 18) fun h4 => p8_readWord_L18 Q FUEL h4 := by
    refine pf_i (pf_i ?_)
    rw [show hset h 69 19 0 69 18 = (a : Int) from by rw [hset_rn (by decide)]; exact r2]
    refine M_wdL (T := T) (n := n) (a := a) (n - a) FUEL a _ 0 rfl (by unfold FUEL; omega) (by rw [hset_rn (by decide), hset_rn (by decide)]; exact r1) hset_rs r3 r4 (fun k hk => by rw [hset_c (by decide), hset_c (by decide)]; exact r5 k hk) (by rw [hset_rn (by decide), hset_rs]) (Nat.le_refl _) (by decide) (by decide) (fun _ => by rw [Nat.sub_self]; rfl) (fun _ => rfl) (fun z => by omega) (fun z => by omega) (fun z => by omega) (fun z => by omega) (fun z => by omega) (fun z => by omega) (fun g s u1 u2 u3 u4 u5 u6 u7 u8 u9 => ?_)
    refine hq g s (fun c hc => by rw [u1 c hc, hset_c hc, hset_c hc]) (fun k k1 k2 => by rw [u2 k k1 k2, hset_rn k2, hset_rn k1]) u3 u4 u5 u6 ?_
    exact wv_cd (fun j h1 h2 => (isLt_c _).mp (sp_in (n := n) a j h1 h2)) (sp_ge a) u7 u8 u9
  unfold p8_readWord
  refine M_here R (fun _ => ?_) (fun _ => ?_) <;> rw [ha, R.self] <;> exact main
theorem M_takeClause {Q : Int → HP → Prop} {h0 h D : HP} {a : Nat} (f : MF h0 h) (R : MS T n a h) (ha : nA T n a = a) (d : DX D (D 0 1) h) (o : okE D 0) (h17 : h 69 17 = -1) (hq : ∀ g, OM T n h0 (clF T n D a) g → Q (clF T n D a).1 g) : p8_takeClause h Q := by
  have el : spN isLt T n a ≤ n := sp_le R.2.2.1
  obtain ⟨⟨s1, s2, s3, s4⟩, o2, o3, o4, o5, o6, o7, o8, o9, o10⟩ := id o
  unfold p8_takeClause
  refine M_readWord R ha (fun g s g1 g2 g20 g19 sa sb cd => ?_)
  unfold clF at hq
  generalize spN isLt T n a = e at *
  have fg : MF h g := ⟨fun c hc => g1 c (by omega), fun j hj => g2 j (by omega) (by omega)⟩
  have dg : DX D (D 0 1) g := d.eq (fun c h1 h2 => g1 c (by omega)) (fun j hj => g2 j (by omega) (by omega))
  have g18 : g 69 18 = a := by rw [g2 18 (by decide) (by decide)]; exact R.2.1
  have g17 : g 69 17 = -1 := by rw [g2 17 (by decide) (by decide)]; exact h17
  have Rg : MS T n a g := R.eq (g2 16 (by decide) (by decide)) (g2 18 (by decide) (by decide)) (g1 79 (by decide))
  obtain ⟨d1, d2, d3, d4, d5, d6, d7⟩ := id dg
  have f72 : MF h0 (hset g 69 18 (e : Int)) := (f.tr fg).fld (by decide) (by decide)
  have R72 : MS T n e (hset g 69 18 (e : Int)) := Rg.at el
  have d72 : DX D (D 0 1) (hset g 69 18 (e : Int)) := dg.fld (by decide)
  have h72 : hset g 69 18 (e : Int) 69 17 = -1 := by rw [hset_rn (by decide)]; exact g17
  have bad : ∀ (k : Int) (w : Nat) (D' : HP) (p : Nat), (if wdK T 0 a e then clS T n D a e else if 0 < D 0 0 ∧ wdK T 1 a e then clH T n D a e else if 0 < D 0 0 ∧ wdK T 2 a e then clW T n D a e else (1, a, D, 0)) = (k, w, D', p) → 0 < k → p8_fails k (w : Int) g fun r h => Q r h := by
    intro k w D' p e k0
    rw [e] at hq
    exact pf_i (hq _ ⟨(f.tr fg).fld (by decide) (by decide), fun z => absurd (show k = 0 from z) (by omega), fun _ => hset_rs⟩)
  rw [g18, g20, d1, d2, d4]
  refine M_code0 ?_
  refine jn_h (fun K => (wdK T 0 a e → K 0) ∧ (¬ wdK T 0 a e → wdK T 1 a e → K 1) ∧ (¬ wdK T 0 a e → ¬ wdK T 1 a e → wdK T 2 a e → K 2) ∧ (¬ wdK T 0 a e → ¬ wdK T 1 a e → ¬ wdK T 2 a e → K (-1))) ⟨fun w => ?_, fun w w1 => ?_, fun w w1 w2 => ?_, fun w w1 w2 => ?_⟩ (fun K k => ?_)
  · have ec : (if wdK T 0 a e then clS T n D a e else if 0 < D 0 0 ∧ wdK T 1 a e then clH T n D a e else if 0 < D 0 0 ∧ wdK T 2 a e then clW T n D a e else (1, a, D, 0)) = clS T n D a e := if_pos w
    rw [ec] at hq bad
    refine jn_i (brN (by decide) (jn_i (brY (by decide) (jn_i (jn_i (brY (by decide) ?_))))))
    refine brQ (wle0 ⟨by omega, by omega⟩) (fun z => ?_) (fun z => ?_)
    · refine pf_i (jn_i (brY (by decide) ?_))
      have hop := M_end f72 hq
      unfold clS at hop
      rw [if_neg (by omega)] at hop
      refine M_num ⟨by decide, by decide⟩ ⟨by decide, by decide⟩ R72 (fun k g' tn Rg' e17 e21 e22 => pf_i ?_) (fun k g' tn e17 => pf_i ?_)
      · rw [if_pos k] at hop
        rw [e21]
        refine hop.1 _ _ _ rfl (tn.mf.fld (by decide) (by decide)) (Rg'.eq (hset_rn (by decide)) (hset_rn (by decide)) (hset_c (by decide))) ?_ (by rw [hset_rn (by decide), e17]; exact h72)
        obtain ⟨q1, q2, q3, q4, q5, q6, q7⟩ := d72.tn tn
        unfold DX
        rw [hset_rs, hset_rn (show (1 : Nat) ≠ 0 by decide), hset_rn (show (2 : Nat) ≠ 0 by decide), hset_rn (show (3 : Nat) ≠ 0 by decide), hset_c (show (1 : Nat) ≠ 0 by decide), hset_c (show (2 : Nat) ≠ 0 by decide), hset_c (show (3 : Nat) ≠ 0 by decide), hset_c (show (4 : Nat) ≠ 0 by decide)]
        rw [hset_rs, hset_rn (show (24 : Nat) ≠ 23 by decide), hset_rn (show (26 : Nat) ≠ 23 by decide), hset_rn (show (29 : Nat) ≠ 23 by decide), hset_c (show (80 : Nat) ≠ 69 by decide), hset_c (show (81 : Nat) ≠ 69 by decide), hset_c (show (82 : Nat) ≠ 69 by decide), hset_c (show (83 : Nat) ≠ 69 by decide)]
        exact ⟨rfl, q2, q3, q4, q5, q6, q7⟩
      · rw [if_neg k] at hop
        have rv := rnK_v (T := T) (n := n) 1 6 e
        exact hop.2 _ _ _ _ _ rfl (by omega) (by omega) (tn.mf.fld (by decide) (by decide)) (by rw [hset_rn (by decide)]; exact e17)
    · exact bad 3 a D 0 (by unfold clS; rw [if_pos (by omega)]) (by decide)
  · rw [if_neg w] at hq bad
    refine jn_i (brN (by decide) (jn_i (brN (by decide) ?_)))
    refine brQ (weq0 ⟨by omega, by omega⟩) (fun z => ?_) (fun z => jn_i (jn_i (brN (by decide) (brY (by decide) ?_))))
    · exact bad 1 a D 0 (by rw [if_neg (fun q => by have := q.1; omega), if_neg (fun q => by have := q.1; omega)]) (by decide)
    · have w' : 0 < D 0 0 ∧ wdK T 1 a e := ⟨by omega, w1⟩
      rw [if_pos w'] at hq bad
      refine brQ (weq ⟨by omega, by omega⟩ ⟨by omega, by omega⟩) (fun z5 => ?_) (fun z5 => pf_i (jn_i (brN (by decide) (jn_i (brY (by decide) ?_)))))
      · exact bad 3 a D 0 (by unfold clH; rw [if_pos (by omega)]) (by decide)
      · exact M_takeHouse R72 d72 o (by omega) h72 (M_end f72 hq)
  · rw [if_neg w, if_neg (fun q => w1 q.2)] at hq bad
    refine jn_i (brN (by decide) (jn_i (brN (by decide) ?_)))
    refine brQ (weq0 ⟨by omega, by omega⟩) (fun z => ?_) (fun z => jn_i (jn_i (brN (by decide) (brN (by decide) ?_))))
    · exact bad 1 a D 0 (by rw [if_neg (fun q => by have := q.1; omega)]) (by decide)
    · have w' : 0 < D 0 0 ∧ wdK T 2 a e := ⟨by omega, w2⟩
      rw [if_pos w'] at hq bad
      refine brQ (weq ⟨by omega, by omega⟩ ⟨by omega, by omega⟩) (fun z5 => ?_) (fun z5 => pf_i (jn_i (brN (by decide) (jn_i (brN (by decide) ?_)))))
      · exact bad 3 a D 0 (by unfold clW; rw [if_pos (by omega)]) (by decide)
      · exact M_takeWorth R72 d72 o (by omega) h72 (M_end f72 hq)
  · refine jn_i (brY (by decide) ?_)
    exact bad 1 a D 0 (by rw [if_neg w, if_neg (fun q => w1 q.2), if_neg (fun q => w2 q.2)]) (by decide)
  · rw [g19]
    refine brQ ((lc0 sa sb (by decide) (by decide)).trans cd.1) (fun w => k.1 w) (fun w => M_code1 ?_)
    refine brQ ((lc0 sa sb (by decide) (by decide)).trans cd.2.1) (fun w1 => k.2.1 w w1) (fun w1 => M_code2 ?_)
    exact brQ ((lc0 sa sb (by decide) (by decide)).trans cd.2.2) (fun w2 => k.2.2.1 w w1 w2) (fun w2 => k.2.2.2 w w1 w2)
def OX (h0 : HP) (R : Int × Nat × HP) (g : HP) : Prop := MF h0 g ∧ (R.1 = 0 → DX R.2.2 (R.2.2 0 1) g ∧ g 69 17 = -1 ∧ okE R.2.2 0) ∧ (R.1 ≠ 0 → g 69 17 = ((R.2.1 : Nat) : Int))
theorem M_psL {E : HP → Int → Prop} {h0 : HP} : ∀ (m f i : Nat) (D h : HP), n - i < m → m < f → i ≤ n → MF h0 h → MS T n i h → DX D (D 0 1) h → okE D 0 → h 69 17 = -1 → (∀ g, OX h0 (psF T n m D i) g → E g (psF T n m D i).1) → p8_spit_L53 E f h 0 := by
  intro m
  induction m with
  | zero => intro f i D h hm; omega
  | succ m ih =>
    intro f i D h hm hf hi fr R d o h17 hq
    obtain ⟨f, rfl⟩ : ∃ n', f = n' + 1 + 1 := ⟨f - 2, by omega⟩
    have r5 := R.2.2.2.2
    have ag := nA_ge (T := T) (n := n) i
    have al : nA T n i ≤ n := nA_le hi
    unfold psF at hq
    unfold p8_spit_L53
    refine brY (by decide) ?_
    refine M_here R (fun z => ?_) (fun z => brY (by decide) ?_)
    · have t := r5 _ z
      rw [if_pos z] at hq
      refine brN (fun q => by have := (wlt0 ⟨by omega, by omega⟩).mp q; omega) ?_
      obtain ⟨k0, k4, k5⟩ := cl_ok (T := T) (n := n) o al
      refine M_takeClause (fr.fld (by decide) (by decide)) (R.at al) (nA_nA i) (d.fld (by decide)) o (by rw [hset_rn (by decide)]; exact h17) (fun g og => ?_)
      by_cases k : (clF T n D (nA T n i)).1 = 0
      · obtain ⟨R2, d2, g17⟩ := og.2.1 k
        have gt := cl_gt o al k
        rw [if_pos k] at hq
        rw [k]
        exact ih (f + 1) _ _ g (by omega) (by omega) (k5 k).2 og.1 R2 d2 (k5 k).1 g17 hq
      · rw [if_neg k] at hq
        unfold p8_spit_L53
        refine brN (fun q => by have := (weq0 ⟨by omega, by omega⟩).mp q; omega) ?_
        exact hq g ⟨og.1, fun q => absurd q k, fun _ => og.2.2 k⟩
    · rw [if_neg z] at hq
      exact hq _ ⟨fr.fld (by decide) (by decide), fun _ => ⟨d.fld (by decide), by rw [hset_rn (by decide)]; exact h17, o⟩, fun q => absurd rfl q⟩
end PMT
