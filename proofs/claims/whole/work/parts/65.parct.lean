/-! ===== PURE: the class reads a text ===== -/
theorem strB_can (k j : Nat) : can ((strB k).getD j 0) := by
  have : ∀ j, -1 ≤ (strB k).getD j 0 ∧ (strB k).getD j 0 ≤ 200 := by
    intro j
    match k with
    | 0 => match j with
      | 0 => decide
      | 1 => decide
      | 2 => decide
      | 3 => decide
      | 4 => decide
      | _ + 5 => exact ⟨by show (-1 : Int) ≤ 0; decide, by show (0 : Int) ≤ 200; decide⟩
    | 1 => match j with
      | 0 => decide
      | 1 => decide
      | 2 => decide
      | 3 => decide
      | 4 => decide
      | _ + 5 => exact ⟨by show (-1 : Int) ≤ 0; decide, by show (0 : Int) ≤ 200; decide⟩
    | _ + 2 => match j with
      | 0 => exact ⟨by show (-1 : Int) ≤ 119; decide, by show (119 : Int) ≤ 200; decide⟩
      | 1 => exact ⟨by show (-1 : Int) ≤ 111; decide, by show (111 : Int) ≤ 200; decide⟩
      | 2 => exact ⟨by show (-1 : Int) ≤ 114; decide, by show (114 : Int) ≤ 200; decide⟩
      | 3 => exact ⟨by show (-1 : Int) ≤ 116; decide, by show (116 : Int) ≤ 200; decide⟩
      | 4 => exact ⟨by show (-1 : Int) ≤ 104; decide, by show (104 : Int) ≤ 200; decide⟩
      | _ + 5 => exact ⟨by show (-1 : Int) ≤ 0; decide, by show (0 : Int) ≤ 200; decide⟩
  have := this j
  exact ⟨by omega, by omega⟩
section PCT
variable {T : Nat → Int} {n : Nat}
theorem C_isWord {Q : Int → Prop} {k a e : Nat} {h : HP} (R : RS T n e h) (ha : a ≤ e) (h1 : wdK T k a e → Q 1) (h0 : ¬ wdK T k a e → Q 0) : p2_isWord k a h Q := by
  obtain ⟨r1, r2, r3, r4, r5⟩ := id R
  unfold p2_isWord
  rw [r2]
  refine brQ (weq ⟨by omega, by omega⟩ ⟨by omega, by omega⟩) (fun z => ?_) (fun z => h0 (fun q => by have := q.1; omega))
  have L : ∀ (m f x : Nat), x + m = 5 → m < f → (∀ j, j < x → T (a + j) = (strB k).getD j 0) → p2_isWord_L17 k a h Q f x := by
    intro m
    induction m with
    | zero =>
      intro f x hx hf hj
      obtain ⟨f, rfl⟩ : ∃ n', f = n' + 1 := ⟨f - 1, by omega⟩
      unfold p2_isWord_L17
      refine brY ((wle ⟨by omega, by omega⟩ ⟨by omega, by omega⟩).mpr (by omega)) (h1 ⟨by omega, ?_, ?_, ?_, ?_, ?_⟩)
      · exact hj 0 (by omega)
      · exact hj 1 (by omega)
      · exact hj 2 (by omega)
      · exact hj 3 (by omega)
      · exact hj 4 (by omega)
    | succ m ih =>
      intro f x hx hf hj
      obtain ⟨f, rfl⟩ : ∃ n', f = n' + 1 := ⟨f - 1, by omega⟩
      have t := r5 (a + x) (by omega)
      unfold p2_isWord_L17
      refine brN (fun q => by have := (wle ⟨by omega, by omega⟩ ⟨by omega, by omega⟩).mp q; omega) ?_
      rw [show (a : Int) + (x : Int) = ((a + x : Nat) : Int) from by omega]
      refine rd_n (by omega) (by decide) ?_
      rw [t.1]
      refine ⟨inb_i (by omega) (by omega) (by decide), ?_⟩
      rw [ix_n x (by omega)]
      refine brQ (weq ⟨by omega, by omega⟩ (strB_can k x)) (fun q => ?_) (fun q => h0 (fun w => ?_))
      · rw [show (x : Int) + 1 = ((x + 1 : Nat) : Int) from by omega]
        refine ih f (x + 1) (by omega) (by omega) (fun j hj' => ?_)
        by_cases c : j = x
        · subst c; exact q
        · exact hj j (by omega)
      · obtain ⟨_, w0, w1, w2, w3, w4⟩ := w
        have : x = 0 ∨ x = 1 ∨ x = 2 ∨ x = 3 ∨ x = 4 := by omega
        rcases this with c | c | c | c | c <;> subst c
        · exact q w0
        · exact q w1
        · exact q w2
        · exact q w3
        · exact q w4
  exact L 5 FUEL 0 rfl (by unfold FUEL; omega) (fun j hj => by omega)
theorem C_readHouse {Q : HP → Prop} {h0 h D : HP} {a e : Nat} (f : ∀ c, c < 7 ∨ 12 < c → h c = h0 c) (R : RS T n e h) (d : DC D h) (o : okE D 0) (h6 : h 12 6 = 0) (hq : ∀ g, OC T n h0 (clH T n D a e) g → Q g) : p2_readHouse a h Q := by
  obtain ⟨d1, d2, d3, d4, d5, d6, d7, d8⟩ := id d
  obtain ⟨⟨s1, s2, s3, s4⟩, o2, o3, o4, o5, o6, o7, o8, o9, o10⟩ := id o
  have jl := nJ_le (T := T) R.2.2.1
  unfold p2_readHouse
  rw [d2]
  refine brQ (wlt ⟨by omega, by omega⟩ ⟨by omega, by omega⟩) (fun z => ?_) (fun z => ?_)
  · have z' : ¬ 5 ≤ D 0 1 := by omega
    unfold clH at hq
    rw [if_neg z'] at hq
    refine C_num ⟨by decide, by decide⟩ ⟨by decide, by decide⟩ f R h6 (fun k => ?_) (fun k g F => ?_)
    · rw [if_pos k] at hq
      obtain ⟨_, _, r3, r4⟩ := rnK_0 k
      obtain ⟨p1, p2, p3, p4, p5, p6, p7⟩ := hp_sp (T := T) (n := n) 6 D (nJ T n e) 0 o (by decide) jl
      refine C_hpL (h0 := h0) 6 FUEL 0 (nJ T n e) D _ (by decide) (by decide) (by decide) (R.at jl) (d.at (by decide) (by decide)) o (by omega) (by rw [hset_rn (by decide)]; exact h6) (fun c hc => by rw [hset_c (by omega)]; exact f c hc) (fun g q R' d' g6 fr => ?_) (fun g q F => ?_)
      · rw [if_pos q] at hq
        obtain ⟨c', hc', oc⟩ := p4 q
        obtain ⟨q1, q2⟩ := p5 q
        generalize hR : hpF T n 6 D (nJ T n e) 0 = RR' at *
        obtain ⟨e1, e2, e3, e4, e5, e6, e7, e8⟩ := id d'
        obtain ⟨⟨t1, t2, t3, t4⟩, u2, u3, u4, u5, u6, u7, u8, u9, u10⟩ := id oc
        rw [← finF_nA] at hq
        refine C_fin fr R' g6 (fun z1 z2 => ?_) hq
        obtain ⟨x, hx⟩ := Int.eq_ofNat_of_zero_le s3
        rw [show hset g 12 3 ((nA T n (nA T n RR'.2.2.2) + 1 : Nat) : Int) 7 1 = (x : Int) from by rw [hset_c (by decide)]; omega]
        refine wr_n (by omega) (by decide) (pf_i (hq _ ?_))
        have nl : nA T n (nA T n RR'.2.2.2) ≤ n := nA_le (nA_le q2)
        rw [show (hset (hset g 12 3 ((nA T n (nA T n RR'.2.2.2) + 1 : Nat) : Int)) 8 x (nV T n e)) 7 1 = (x : Int) from by rw [hset_c (by decide), hset_c (by decide)]; omega]
        have hx' : (D 0 1).toNat = x := by omega
        rw [hx', hx]
        refine OC.okf z1 z2 (fun c hc => ?_) ((R'.at (show nA T n (nA T n RR'.2.2.2) + 1 ≤ n from by omega)).eq ?_ ?_ ?_) ?_ ?_ ?_
        · rw [hset_c (by omega), hset_c (by omega), hset_c (by omega)]; exact fr c hc
        · rw [hset_c (by decide), hset_c (by decide)]
        · rw [hset_c (by decide), hset_c (by decide)]
        · rw [hset_c (by decide), hset_c (by decide)]
        · unfold DC
          rw [hset_rn (show (0 : Nat) ≠ 1 by decide), hset_rs, hset_rn (show (2 : Nat) ≠ 1 by decide), hset_rn (show (0 : Nat) ≠ 1 by decide), hset_rs, hset_rn (show (2 : Nat) ≠ 1 by decide), hset_rn (show (3 : Nat) ≠ 1 by decide)]
          rw [hset_c (show (0 : Nat) ≠ 1 by decide), hset_c (show (7 : Nat) ≠ 8 by decide), hset_c (show (7 : Nat) ≠ 12 by decide)]
          refine ⟨e1, rfl, e3, ?_, fun j hj => ?_, fun j hj => ?_, fun j hj => ?_, ?_⟩
          · rw [hset_c (show (12 : Nat) ≠ 7 by decide), hset_c (show (12 : Nat) ≠ 8 by decide), hset_rn (by decide)]; exact e4
          · rw [hset_c (show (8 : Nat) ≠ 7 by decide), hset_c (show (1 : Nat) ≠ 0 by decide)]
            by_cases c : j = x
            · subst c; rw [hset_rs, hset_rs]
            · rw [hset_rn c, hset_rn c, hset_c (show (8 : Nat) ≠ 12 by decide)]; exact e5 j (by omega)
          · rw [hset_c (show (9 : Nat) ≠ 7 by decide), hset_c (show (9 : Nat) ≠ 8 by decide), hset_c (show (9 : Nat) ≠ 12 by decide), hset_c (show (10 : Nat) ≠ 7 by decide), hset_c (show (10 : Nat) ≠ 8 by decide), hset_c (show (10 : Nat) ≠ 12 by decide), hset_c (show (2 : Nat) ≠ 0 by decide), hset_c (show (2 : Nat) ≠ 1 by decide), hset_c (show (3 : Nat) ≠ 0 by decide), hset_c (show (3 : Nat) ≠ 1 by decide)]
            exact e6 j hj
          · rw [hset_c (show (11 : Nat) ≠ 7 by decide), hset_c (show (11 : Nat) ≠ 8 by decide), hset_c (show (11 : Nat) ≠ 12 by decide), hset_c (show (4 : Nat) ≠ 0 by decide), hset_c (show (4 : Nat) ≠ 1 by decide)]
            exact e7 j hj
          · rw [hset_c (show (12 : Nat) ≠ 7 by decide), hset_c (show (12 : Nat) ≠ 8 by decide), hset_rn (by decide), hset_c (show (4 : Nat) ≠ 0 by decide), hset_c (show (4 : Nat) ≠ 1 by decide)]
            exact e8
        · rw [hset_c (by decide), hset_c (by decide), hset_rn (by decide)]; exact g6
        · unfold okE cnD
          rw [hset_rn (show (0 : Nat) ≠ 1 by decide), hset_rs, hset_rn (show (2 : Nat) ≠ 1 by decide), hset_rn (show (3 : Nat) ≠ 1 by decide), hset_c (show (0 : Nat) ≠ 1 by decide), hset_c (show (1 : Nat) ≠ 0 by decide), hset_c (show (2 : Nat) ≠ 0 by decide), hset_c (show (2 : Nat) ≠ 1 by decide), hset_c (show (3 : Nat) ≠ 0 by decide), hset_c (show (3 : Nat) ≠ 1 by decide), hset_c (show (4 : Nat) ≠ 0 by decide), hset_c (show (4 : Nat) ≠ 1 by decide)]
          refine ⟨⟨t1, t2, by omega, by omega⟩, u2, by omega, u4, u5, fun p hp => ?_, fun p hp => ?_, fun y y1 y2 => ?_, ?_, u10⟩
          · by_cases c : p = x
            · subst c; rw [hset_rs]; exact ⟨r3, r4⟩
            · rw [hset_rn c]; exact u6 p (by omega)
          · have := u7 p hp; omega
          · by_cases c : y = x
            · subst c
              have := u9
              rw [p2, hx] at this
              unfold cnD at this
              omega
            · exact u8 y y1 (by omega)
          · have := fs_zero (f := fun q => if RR'.2.2.1 3 q = (x : Int) + 1 then (1 : Int) else 0) 0 (RR'.2.2.1 0 2).toNat (fun q _ hq' => if_neg (fun w => by have := u7 q (by omega); omega))
            rw [this]; decide
      · rw [if_neg q] at hq
        exact F_readEnd (by omega) p7 F (fun g' F' => brY (by decide) (hq g' (OC.bad (by omega) p7 F')))
    · rw [if_neg k] at hq
      have rv := rnK_v (T := T) (n := n) 0 99 e
      unfold FUEL
      refine F_hp (by omega) (by omega) F ?_
      exact F_readEnd (by omega) (by omega) F (fun g' F' => brY (by decide) (hq g' (OC.bad (by omega) (by omega) F')))
  · have es : clH T n D a e = (3, a, D, 0) := by unfold clH; rw [if_pos (by omega)]
    rw [es] at hq
    have := R.self
    rw [← this]
    exact C_fail ⟨by omega, by omega⟩ (hq _ (OC.bad (by decide) (by decide) (FB.new f R R.2.2.1 h6)))
theorem C_readWorth {Q : HP → Prop} {h0 h D : HP} {a e : Nat} (f : ∀ c, c < 7 ∨ 12 < c → h c = h0 c) (R : RS T n e h) (d : DC D h) (o : okE D 0) (h6 : h 12 6 = 0) (hq : ∀ g, OC T n h0 (clW T n D a e) g → Q g) : p2_readWorth a h Q := by
  obtain ⟨d1, d2, d3, d4, d5, d6, d7, d8⟩ := id d
  obtain ⟨⟨s1, s2, s3, s4⟩, o2, o3, o4, o5, o6, o7, o8, o9, o10⟩ := id o
  have jl := nJ_le (T := T) R.2.2.1
  have jl2 : nJ T n (nJ T n e) ≤ n := nJ_le jl
  have jl3 : nJ T n (nJ T n (nJ T n e)) ≤ n := nJ_le jl2
  have al2 : nA T n (nJ T n e) ≤ n := nA_le jl
  have fat : ∀ (j : Nat) c, c < 7 ∨ 12 < c → hset h 12 3 (j : Int) c = h0 c := fun j c hc => by rw [hset_c (by omega)]; exact f c hc
  have h6at : ∀ j : Nat, hset h 12 3 (j : Int) 12 6 = 0 := fun j => by rw [hset_rn (by decide)]; exact h6
  unfold p2_readWorth
  rw [d4, d2]
  refine brQ (wlt ⟨by omega, by omega⟩ ⟨by omega, by omega⟩) (fun z => ?_) (fun z => ?_)
  · have z' : ¬ 30 ≤ D 0 3 := by omega
    unfold clW at hq
    rw [if_neg z'] at hq
    -- from a fault on
    have bad3 : ∀ (g : HP) (k : Int) (w : Nat), 0 < k → k ≤ 4 → FB T n h0 k w g → (∀ g', FB T n h0 k w g' → Q g') → ∀ (r1 r4 : Int), p2_readNumber 0 99 g fun r10 h11 => p2_readEnd h11 fun r12 h13 => brc (w32 r12 = 0) (Q h13) (wr h13 11 30 ((r1 * 6) + r4) r10 fun h14 => pf h14 12 5 (io (h14 12 5) (sl 1 ((r1 * 6) + r4))) fun h15 => pf h15 12 4 ((h15 12 4) + 1) fun h16 => Q h16) := by
      intro g k w k0 k4 F hF r1 r4
      exact F_readNumber ⟨by decide, by decide⟩ ⟨by decide, by decide⟩ k0 k4 F (fun _ g' F' => F_readEnd k0 k4 F' (fun g2 F2 => brY (by decide) (hF g2 F2)))
    have sk : ∀ (g : HP) (k : Int) (w : Nat), 0 < k → k ≤ 4 → FB T n h0 k w g → ¬ w32 (g 12 6) = 0 := fun g k w k0 k4 F q => by
      have e := F.2.2.1; have := (weq0 ⟨by omega, by omega⟩).mp q; omega
    refine C_num7 ⟨by decide, by decide⟩ ⟨by omega, by omega⟩ f R h6 (fun k => ?_) (fun k g e7 F => ?_)
    · rw [if_pos k] at hq
      obtain ⟨_, _, r3, r4⟩ := rnK_0 k
      refine C_blanks (R.at jl) ?_
      rw [hset_ov, show hset h 12 3 ((nA T n (nJ T n e) : Nat) : Int) 7 0 = D 0 0 from by rw [hset_c (by decide)]; exact d1]
      rw [show hset h 12 3 ((nA T n (nJ T n e) : Nat) : Int) 12 3 = ((nA T n (nJ T n e) : Nat) : Int) from hset_rs]
      refine C_num ⟨by decide, by decide⟩ ⟨by omega, by omega⟩ (fat _) (R.at al2) (h6at _) (fun k2 => ?_) (fun k2 g F => ?_)
      · rw [rnK_nA] at k2
        rw [if_pos k2] at hq
        rw [nV_nA, nJ_nA, hset_ov]
        obtain ⟨_, _, v3, v4⟩ := rnK_0 k2
        obtain ⟨pr, hpr⟩ := Int.eq_ofNat_of_zero_le (show 0 ≤ nV T n e * 6 + nV T n (nJ T n e) by omega)
        have hpi : prI T n e = pr := by unfold prI; omega
        have pr30 : pr < 30 := by omega
        rw [hpi] at hq
        rw [hpr]
        rw [show hset h 12 3 ((nJ T n (nJ T n e) : Nat) : Int) 12 6 = 0 from h6at _, show hset h 12 3 ((nJ T n (nJ T n e) : Nat) : Int) 12 5 = ((bs (fun j => decide (0 ≤ D 4 j)) 30 : Nat) : Int) from by rw [hset_rn (by decide)]; exact d8]
        have b30 : bs (fun j => decide (0 ≤ D 4 j)) 30 < 2147483648 := Nat.lt_of_lt_of_le (bs_lt _ 30) (by decide)
        rw [bit_n _ pr b30 (by omega), bs_test]
        refine jn_i (brY (by decide) ?_)
        by_cases c : D 4 pr < 0
        · rw [if_pos c] at hq
          rw [show (decide (pr < 30) && decide (0 ≤ D 4 pr)) = false from by simp; omega, if_neg (by decide)]
          refine brN (by decide) ?_
          refine C_num ⟨by decide, by decide⟩ ⟨by decide, by decide⟩ (fat _) (R.at jl2) (h6at _) (fun k3 => ?_) (fun k3 g F => ?_)
          · rw [if_pos k3] at hq
            rw [hset_ov]
            obtain ⟨_, _, w3, w4⟩ := rnK_0 k3
            refine C_fin (fat _) (R.at jl3) (h6at _) (fun z1 z2 => ?_) hq
            refine wr_n pr30 (by decide) (pf_i ?_)
            rw [hset_ov]
            generalize hp0 : nA T n (nJ T n (nJ T n (nJ T n e))) = a0 at z1 z2 ⊢
            generalize hv0 : nV T n (nJ T n (nJ T n e)) = v0 at hq w3 w4 ⊢
            rw [show hset (hset h 12 3 ((a0 + 1 : Nat) : Int)) 11 pr v0 12 5 = ((bs (fun j => decide (0 ≤ D 4 j)) 30 : Nat) : Int) from by rw [hset_c (by decide), hset_rn (by decide)]; exact d8]
            rw [sl_n pr (by omega), io_bs (fun j => decide (0 ≤ D 4 j)) (fun j => decide (0 ≤ hset D 4 pr v0 4 j)) 30 pr pr30 (by decide) (fun j => by
              by_cases q : j = pr
              · subst q; rw [hset_rs]; simp; omega
              · rw [hset_rn q]; simp [Ne.symm q])]
            refine pf_i (hq _ ?_)
            rw [show (hset (hset (hset h 12 3 ((a0 + 1 : Nat) : Int)) 11 pr v0) 12 5 ((bs (fun j => decide (0 ≤ hset D 4 pr v0 4 j)) 30 : Nat) : Int)) 12 4 = D 0 3 from by rw [hset_rn (by decide), hset_c (by decide), hset_rn (by decide)]; exact d4]
            refine OC.okf (by rw [hp0]; exact z1) (by rw [hp0]; exact z2) (fun c hc => ?_) ?_ ?_ ?_ ?_
            · rw [hset_c (by omega), hset_c (by omega), hset_c (by omega), hset_c (by omega)]; exact f c hc
            · rw [hp0]
              refine (R.at (show a0 + 1 ≤ n from by omega)).eq ?_ ?_ ?_
              · rw [hset_rn (by decide), hset_rn (by decide), hset_c (by decide)]
              · rw [hset_rn (by decide), hset_rn (by decide), hset_c (by decide)]
              · rw [hset_c (by decide), hset_c (by decide), hset_c (by decide)]
            · unfold DC
              rw [hset_c (show (7 : Nat) ≠ 12 by decide), hset_c (show (7 : Nat) ≠ 12 by decide), hset_c (show (7 : Nat) ≠ 11 by decide), hset_c (show (7 : Nat) ≠ 12 by decide)]
              rw [hset_rn (show (0 : Nat) ≠ 3 by decide), hset_rn (show (1 : Nat) ≠ 3 by decide), hset_rn (show (2 : Nat) ≠ 3 by decide), hset_c (show (0 : Nat) ≠ 4 by decide)]
              refine ⟨d1, d2, d3, ?_, fun j hj => ?_, fun j hj => ?_, fun j hj => ?_, ?_⟩
              · rw [hset_rs, hset_rs]
              · rw [hset_c (show (8 : Nat) ≠ 12 by decide), hset_c (show (8 : Nat) ≠ 12 by decide), hset_c (show (8 : Nat) ≠ 11 by decide), hset_c (show (8 : Nat) ≠ 12 by decide), hset_c (show (1 : Nat) ≠ 0 by decide), hset_c (show (1 : Nat) ≠ 4 by decide)]
                exact d5 j hj
              · rw [hset_c (show (9 : Nat) ≠ 12 by decide), hset_c (show (9 : Nat) ≠ 12 by decide), hset_c (show (9 : Nat) ≠ 11 by decide), hset_c (show (9 : Nat) ≠ 12 by decide), hset_c (show (10 : Nat) ≠ 12 by decide), hset_c (show (10 : Nat) ≠ 12 by decide), hset_c (show (10 : Nat) ≠ 11 by decide), hset_c (show (10 : Nat) ≠ 12 by decide), hset_c (show (2 : Nat) ≠ 0 by decide), hset_c (show (2 : Nat) ≠ 4 by decide), hset_c (show (3 : Nat) ≠ 0 by decide), hset_c (show (3 : Nat) ≠ 4 by decide)]
                exact d6 j hj
              · rw [hset_c (show (11 : Nat) ≠ 12 by decide), hset_c (show (11 : Nat) ≠ 12 by decide), hset_c (show (4 : Nat) ≠ 0 by decide)]
                by_cases q : j = pr
                · subst q; rw [hset_rs, hset_rs, if_neg (by omega)]
                · rw [hset_rn q, hset_rn q, hset_c (show (11 : Nat) ≠ 12 by decide)]; exact d7 j hj
              · rw [hset_rn (by decide), hset_rs, hset_c (show (4 : Nat) ≠ 0 by decide)]
            · rw [hset_rn (by decide), hset_rn (by decide), hset_c (by decide), hset_rn (by decide)]; exact h6
            · unfold okE cnD
              rw [hset_rn (show (0 : Nat) ≠ 3 by decide), hset_rn (show (1 : Nat) ≠ 3 by decide), hset_rn (show (2 : Nat) ≠ 3 by decide), hset_rs, hset_c (show (0 : Nat) ≠ 4 by decide), hset_c (show (1 : Nat) ≠ 0 by decide), hset_c (show (1 : Nat) ≠ 4 by decide), hset_c (show (2 : Nat) ≠ 0 by decide), hset_c (show (2 : Nat) ≠ 4 by decide), hset_c (show (3 : Nat) ≠ 0 by decide), hset_c (show (3 : Nat) ≠ 4 by decide), hset_c (show (4 : Nat) ≠ 0 by decide)]
              refine ⟨⟨s1, s2, s3, s4⟩, o2, o3, by omega, by omega, o6, o7, o8, o9, fun j hj => ?_⟩
              by_cases q : j = pr
              · subst q; rw [hset_rs]; exact ⟨by omega, w4⟩
              · rw [hset_rn q]; exact o10 j hj
          · rw [if_neg k3] at hq
            have rv := rnK_v (T := T) (n := n) 0 99 (nJ T n (nJ T n e))
            exact F_readEnd (by omega) (by omega) F (fun g' F' => brY (by decide) (hq g' (OC.bad (by omega) (by omega) F')))
        · rw [if_neg c] at hq
          rw [show (decide (pr < 30) && decide (0 ≤ D 4 pr)) = true from by simp; omega, if_pos rfl]
          refine brY rfl (C_fail ⟨by omega, by omega⟩ ?_)
          have F := FB.new (k := 4) (w := ((nA T n (nJ T n e) : Nat) : Int)) f R jl2 h6
          have := bad3 _ 4 _ (by decide) (by decide) F (fun g' F' => hq g' (OC.bad (by decide) (by decide) F')) (nV T n e) (nV T n (nJ T n e))
          rw [hpr] at this
          exact this
      · rw [rnK_nA] at k2 F
        rw [nA_nA] at F
        rw [if_neg k2] at hq
        have rv := rnK_v (T := T) (n := n) 0 (D 0 0 - 1) (nJ T n e)
        refine jn_i (brN (sk g _ _ (by omega) (by omega) F) ?_)
        exact bad3 g _ _ (by omega) (by omega) F (fun g' F' => hq g' (OC.bad (by omega) (by omega) F')) _ _
    · rw [if_neg k] at hq
      have rv := rnK_v (T := T) (n := n) 0 (D 0 1 - 1) e
      obtain ⟨i1, R1⟩ := F.2.1
      refine C_blanks R1 ?_
      rw [show hset g 12 3 ((nA T n i1 : Nat) : Int) 7 0 = D 0 0 from by rw [hset_c (by decide), e7]; exact d1]
      have F1 := F.at (nA_le (T := T) R1.2.2.1)
      refine F_readNumber ⟨by decide, by decide⟩ ⟨by omega, by omega⟩ (by omega) (by omega) F1 (fun r4 g2 F2 => ?_)
      refine jn_i (brN (sk g2 _ _ (by omega) (by omega) F2) ?_)
      exact bad3 g2 _ _ (by omega) (by omega) F2 (fun g' F' => hq g' (OC.bad (by omega) (by omega) F')) _ _
  · have es : clW T n D a e = (3, a, D, 0) := by unfold clW; rw [if_pos (by omega)]
    rw [es] at hq
    have := R.self
    rw [← this]
    exact C_fail ⟨by omega, by omega⟩ (hq _ (OC.bad (by decide) (by decide) (FB.new f R R.2.2.1 h6)))
end PCT
