/-! ===== PURE: the class reads all ===== -/
section PCX
variable {T : Nat → Int} {n : Nat}
theorem C_letL {E : HP → Prop} {x : Int} : ∀ (m f i : Nat) (h : HP), n - i = m → m < f → RS T n i h → E (hset h 12 3 (spN isLt T n i : Nat)) → p2_readClause_L5 x E f h := by
  intro m
  induction m with
  | zero =>
    intro f i h hm hf R hq
    obtain ⟨f, rfl⟩ : ∃ n', f = n' + 1 := ⟨f - 1, by omega⟩
    obtain ⟨r1, r2, r3, r4, r5⟩ := id R
    unfold p2_readClause_L5
    rw [r1, r2]
    refine brY ((wle ⟨by omega, by omega⟩ ⟨by omega, by omega⟩).mpr (by omega)) ?_
    rw [show spN isLt T n i = i from sp_N (fun z => absurd z.1 (by omega)), R.self] at hq
    exact hq
  | succ m ih =>
    intro f i h hm hf R hq
    obtain ⟨f, rfl⟩ : ∃ n', f = n' + 1 := ⟨f - 1, by omega⟩
    obtain ⟨r1, r2, r3, r4, r5⟩ := id R
    have t := r5 i (by omega)
    have no : ¬ isLt (T i) = true → E h := fun z => by
      rw [show spN isLt T n i = i from sp_N (fun q => z q.2), R.self] at hq
      exact hq
    unfold p2_readClause_L5
    rw [r1, r2]
    refine brN (fun z => by have := (wle ⟨by omega, by omega⟩ ⟨by omega, by omega⟩).mp z; omega) ?_
    refine rd_n (by omega) (by decide) ?_
    rw [t.1]
    refine brQ (wlt ⟨by omega, by omega⟩ ⟨by omega, by omega⟩) (fun z => no (fun q => by have := (isLt_c _).mp q; omega)) (fun z => ?_)
    refine rd_n (by omega) (by decide) ?_
    rw [t.1]
    refine brQ (wlt ⟨by omega, by omega⟩ ⟨by omega, by omega⟩) (fun z => no (fun q => by have := (isLt_c _).mp q; omega)) (fun z2 => pf_i ?_)
    have c : isLt (T i) = true := (isLt_c _).mpr ⟨by omega, by omega⟩
    rw [show (i : Int) + 1 = ((i + 1 : Nat) : Int) from by omega]
    refine ih f (i + 1) _ (by omega) (by omega) (R.at (by omega)) ?_
    rw [hset_ov, ← show spN isLt T n i = spN isLt T n (i + 1) from sp_Y (by omega) c]
    exact hq
theorem C_readClause {Q : HP → Prop} {h0 h D : HP} {a : Nat} (f : ∀ c, c < 7 ∨ 12 < c → h c = h0 c) (R : RS T n a h) (d : DC D h) (o : okE D 0) (h6 : h 12 6 = 0) (hq : ∀ g, OC T n h0 (clF T n D a) g → Q g) : p2_readClause h Q := by
  have n4 := R.2.2.2.1
  have el : spN isLt T n a ≤ n := sp_le R.2.2.1
  have eg : a ≤ spN isLt T n a := sp_ge a
  obtain ⟨⟨s1, s2, s3, s4⟩, _⟩ := id o
  have d1 := d.1
  unfold p2_readClause
  rw [R.2.1]
  refine C_letL (n - a) FUEL a h rfl (by unfold FUEL; omega) R ?_
  unfold clF at hq
  generalize hE : spN isLt T n a = e at *
  have R' := R.at el
  have f' : ∀ c, c < 7 ∨ 12 < c → hset h 12 3 (e : Int) c = h0 c := fun c hc => by rw [hset_c (by omega)]; exact f c hc
  have h6' : hset h 12 3 (e : Int) 12 6 = 0 := by rw [hset_rn (by decide)]; exact h6
  have d' : DC D (hset h 12 3 (e : Int)) := d.at (by decide) (by decide)
  rw [show hset h 12 3 (e : Int) 7 0 = D 0 0 from by rw [hset_c (by decide)]; exact d1]
  refine C_isWord R' eg (fun w => brN (by decide) ?_) (fun w => brY (by decide) ?_)
  · rw [if_pos w] at hq
    exact C_readSorts f' R' d' o h6' hq
  · rw [if_neg w] at hq
    refine jn_i (jn_i ?_)
    have K : ¬ (0 < D 0 0 ∧ wdK T 1 a e) → ¬ (0 < D 0 0 ∧ wdK T 2 a e) → p2_fail 1 (a : Int) (hset h 12 3 (e : Int)) fun h12 => Q h12 := by
      intro k1 k2
      rw [if_neg k1, if_neg k2] at hq
      exact C_fail ⟨by omega, by omega⟩ (hq _ (OC.bad (by decide) (by decide) (FB.new f R el h6)))
    have K2 : ¬ (0 < D 0 0 ∧ wdK T 1 a e) → brc (w32 (D 0 0) ≤ 0) (p2_fail 1 (a : Int) (hset h 12 3 (e : Int)) fun h12 => Q h12) (p2_isWord 2 (a : Int) (hset h 12 3 (e : Int)) fun r13 => brc (w32 r13 = 0) (p2_fail 1 (a : Int) (hset h 12 3 (e : Int)) fun h12 => Q h12) (p2_readWorth (a : Int) (hset h 12 3 (e : Int)) fun h14 => Q h14)) := by
      intro k1
      refine brQ (wle0 ⟨by omega, by omega⟩) (fun z => K k1 (fun q => by have := q.1; omega)) (fun z => ?_)
      refine C_isWord R' eg (fun w2 => brN (by decide) ?_) (fun w2 => brY (by decide) (K k1 (fun q => w2 q.2)))
      rw [if_neg k1, if_pos ⟨by omega, w2⟩] at hq
      exact C_readWorth f' R' d' o h6' hq
    refine brQ (wle0 ⟨by omega, by omega⟩) (fun z => K2 (fun q => by have := q.1; omega)) (fun z => ?_)
    refine C_isWord R' eg (fun w1 => brN (by decide) ?_) (fun w1 => brY (by decide) (K2 (fun q => w1 q.2)))
    rw [if_pos ⟨by omega, w1⟩] at hq
    exact C_readHouse f' R' d' o h6' hq
theorem fin_gt {D : HP} {i a : Nat} (hi : a ≤ i) (h : (finF T n D i).1 = 0) : a < (finF T n D i).2.2.2 := by
  rcases fin_sp (T := T) (n := n) D i with ⟨_, _, _, e⟩ | ⟨e, _⟩
  · rw [e]; show a < nA T n i + 1
    have := nA_ge (T := T) (n := n) i
    omega
  · omega
theorem cl_gt {D : HP} {a : Nat} (o : okE D 0) (ha : a ≤ n) (h : (clF T n D a).1 = 0) : a < (clF T n D a).2.2.2 := by
  have eg : a ≤ spN isLt T n a := sp_ge a
  have el : spN isLt T n a ≤ n := sp_le ha
  have g : ∀ i, i ≤ nJ T n i := fun i => Nat.le_trans (nA_ge i) (nJ_ge i)
  unfold clF at h ⊢
  generalize spN isLt T n a = e at *
  have g1 := g e
  by_cases c1 : wdK T 0 a e
  · rw [if_pos c1] at h ⊢
    unfold clS at h ⊢
    by_cases c : 0 < D 0 0
    · rw [if_pos c] at h; exact absurd h (show ¬ (3 : Int) = 0 by decide)
    · rw [if_neg c] at h ⊢
      by_cases k : rnK T n 1 6 e = 0
      · rw [if_pos k] at h ⊢; exact fin_gt (by omega) h
      · rw [if_neg k] at h; exact absurd h k
  · rw [if_neg c1] at h ⊢
    by_cases c2 : 0 < D 0 0 ∧ wdK T 1 a e
    · rw [if_pos c2] at h ⊢
      unfold clH at h ⊢
      by_cases c : 5 ≤ D 0 1
      · rw [if_pos c] at h; exact absurd h (show ¬ (3 : Int) = 0 by decide)
      · rw [if_neg c] at h ⊢
        by_cases k : rnK T n 0 99 e = 0
        · rw [if_pos k] at h ⊢
          by_cases k2 : (hpF T n 6 D (nJ T n e) 0).1 = 0
          · rw [if_pos k2] at h ⊢
            have := (hp_sp (T := T) (n := n) 6 D (nJ T n e) 0 o (by decide) (nJ_le el)).2.2.2.2.1 k2
            exact fin_gt (by omega) h
          · rw [if_neg k2] at h; exact absurd h k2
        · rw [if_neg k] at h; exact absurd h k
    · rw [if_neg c2] at h ⊢
      by_cases c3 : 0 < D 0 0 ∧ wdK T 2 a e
      · rw [if_pos c3] at h ⊢
        unfold clW at h ⊢
        by_cases c : 30 ≤ D 0 3
        · rw [if_pos c] at h; exact absurd h (show ¬ (3 : Int) = 0 by decide)
        · rw [if_neg c] at h ⊢
          by_cases k : rnK T n 0 (D 0 1 - 1) e = 0
          · rw [if_pos k] at h ⊢
            by_cases k2 : rnK T n 0 (D 0 0 - 1) (nJ T n e) = 0
            · rw [if_pos k2] at h ⊢
              by_cases k3 : D 4 (prI T n e) < 0
              · rw [if_pos k3] at h ⊢
                by_cases k4 : rnK T n 0 99 (nJ T n (nJ T n e)) = 0
                · rw [if_pos k4] at h ⊢
                  have g2 := g (nJ T n e)
                  have g3 := g (nJ T n (nJ T n e))
                  exact fin_gt (by omega) h
                · rw [if_neg k4] at h; exact absurd h k4
              · rw [if_neg k3] at h; exact absurd h (show ¬ (4 : Int) = 0 by decide)
            · rw [if_neg k2] at h; exact absurd h k2
          · rw [if_neg k] at h; exact absurd h k
      · rw [if_neg c3] at h; exact absurd h (show ¬ (1 : Int) = 0 by decide)
def OT (h0 : HP) (R : Int × Nat × HP) (h : HP) : Prop := (∀ c, c < 7 ∨ 12 < c → h c = h0 c) ∧ 0 ≤ R.1 ∧ R.1 ≤ 4 ∧ h 12 6 = R.1 ∧ (R.1 = 0 → DC R.2.2 h ∧ okE R.2.2 0) ∧ (R.1 ≠ 0 → h 12 7 = (R.2.1 : Nat))
theorem C_rtL {E : HP → Prop} {h0 : HP} : ∀ (m f i c : Nat) (D h : HP), n - i < m → m < f → c ≤ i → i ≤ n → RS T n (nA T n i) h → DC D h → okE D 0 → h 12 6 = 0 → (∀ c, c < 7 ∨ 12 < c → h c = h0 c) → (∀ g, OT h0 (psF T n m D i) g → E g) → p2_readText_L51 E f h c := by
  intro m
  induction m with
  | zero => intro f i c D h hm; omega
  | succ m ih =>
    intro f i c D h hm hf hc hi R d o h6 fr hq
    obtain ⟨f, rfl⟩ : ∃ n', f = n' + 1 + 1 := ⟨f - 2, by omega⟩
    obtain ⟨r1, r2, r3, r4, r5⟩ := id R
    have ag := nA_ge (T := T) (n := n) i
    unfold psF at hq
    have fin : ¬ nA T n i < n → E h := fun z => by
      rw [if_neg z] at hq
      exact hq h ⟨fr, by show (0 : Int) ≤ 0; decide, by show (0 : Int) ≤ 4; decide, h6, fun _ => ⟨d, o⟩, fun q => absurd rfl q⟩
    unfold p2_readText_L51
    refine brQ (wle ⟨by omega, by omega⟩ ⟨by omega, by omega⟩) (fun z => fin (by omega)) (fun z => ?_)
    rw [r1, r2]
    refine brQ (wle ⟨by omega, by omega⟩ ⟨by omega, by omega⟩) (fun z2 => fin (by omega)) (fun z2 => ?_)
    have c1 : nA T n i < n := by omega
    rw [if_pos c1] at hq
    refine brY ((weq0 ⟨by omega, by omega⟩).mpr h6) ?_
    refine C_readClause fr R d o h6 (fun g og => ?_)
    by_cases k : (clF T n D (nA T n i)).1 = 0
    · obtain ⟨R2, d2, g6, o2⟩ := og.2.1 k
      have gt := cl_gt o r3 k
      rw [if_pos k] at hq
      refine C_blanks R2 ?_
      have l2 := R2.2.2.1
      rw [show (c : Int) + 1 = ((c + 1 : Nat) : Int) from by omega]
      exact ih (f + 1) _ (c + 1) _ _ (by omega) (by omega) (by omega) l2 (R2.at (nA_le l2)) (d2.at (by decide) (by decide)) o2 (by rw [hset_rn (by decide)]; exact g6) (fun c hc => by rw [hset_c (by omega)]; exact og.1 c hc) hq
    · obtain ⟨k0, k4, F⟩ := og.2.2 k
      rw [if_neg k] at hq
      refine F_blanks F (fun g2 F2 => ?_)
      have e6 := F2.2.2.1
      have fin2 : E g2 := hq g2 ⟨F2.1, Int.le_of_lt k0, k4, e6, fun q => absurd q k, fun _ => F2.2.2.2⟩
      unfold p2_readText_L51
      exact brS (fun _ => fin2) (fun _ => brS (fun _ => fin2) (fun _ => brN (fun q => by have := (weq0 ⟨by omega, by omega⟩).mp q; omega) fin2))
def D0 : HP := fun i j => if i = 4 then -1 else 0
theorem D0_ok : okE D0 0 := by
  refine ⟨⟨by decide, by decide, by decide, by decide⟩, by decide, by decide, by decide, by decide, fun p hp => ?_, fun p hp => ?_, fun x _ _ => by show (0 : Int) ≤ 4; decide, by show (0 : Int) ≤ 0; decide, fun j _ => ⟨by show (-1 : Int) ≤ -1; decide, by show (-1 : Int) ≤ 99; decide⟩⟩
  · have : (p : Int) < 0 := hp
    omega
  · have : (p : Int) < 0 := hp
    omega
theorem bs_none (m : Nat) : bs (fun j => decide (0 ≤ D0 4 j)) m = 0 := by
  induction m with
  | zero => rfl
  | succ m ih =>
    show bs _ m + (if decide (0 ≤ D0 4 m) = true then 2 ^ m else 0) = 0
    rw [ih]; rfl
theorem C_readText {Q : Int → HP → Prop} {h : HP} (hn : n ≤ 400) (hT : ∀ j, j < n → h 1 j = T j ∧ 0 ≤ T j ∧ T j ≤ 255) (hq : ∀ g, OT h (psF T n 401 D0 0) g → Q (if (psF T n 401 D0 0).1 = 0 then 1 else 0) g) : p2_readText (n : Int) h Q := by
  unfold p2_readText
  have em : mn (n : Int) 400 = n := by unfold mn; rw [w_id (by omega) (by omega), w_id (by omega) (by omega)]; split <;> omega
  rw [em]
  refine pf_i (pf_i (pf_i (pf_i (pf_i (pf_i ?_)))))
  generalize hg : hset (hset (hset (hset (hset (hset h 12 2 (n : Int)) 12 3 0) 12 4 0) 12 5 0) 12 6 0) 12 7 (-1) = g
  have gc : ∀ c, c ≠ 12 → g c = h c := fun c hc => by rw [← hg, hset_c hc, hset_c hc, hset_c hc, hset_c hc, hset_c hc, hset_c hc]
  have g2 : g 12 2 = n := by rw [← hg, hset_rn (by decide), hset_rn (by decide), hset_rn (by decide), hset_rn (by decide), hset_rn (by decide), hset_rs]
  have g3 : g 12 3 = 0 := by rw [← hg, hset_rn (by decide), hset_rn (by decide), hset_rn (by decide), hset_rn (by decide), hset_rs]
  have g4 : g 12 4 = 0 := by rw [← hg, hset_rn (by decide), hset_rn (by decide), hset_rn (by decide), hset_rs]
  have g5 : g 12 5 = 0 := by rw [← hg, hset_rn (by decide), hset_rn (by decide), hset_rs]
  have g6 : g 12 6 = 0 := by rw [← hg, hset_rn (by decide), hset_rs]
  clear hg
  unfold p4_clear
  refine pf_i (pf_i (pf_i ?_))
  refine J_fill (by decide) (fun k f1 f2 => ?_)
  have kc : ∀ c, c ≠ 7 → c ≠ 11 → k c = g c := fun c h1 h2 => by rw [f1 c h2, hset_c h1, hset_c h1, hset_c h1]
  have k7 : k 7 0 = 0 ∧ k 7 1 = 0 ∧ k 7 2 = 0 := by
    rw [f1 7 (by decide)]
    exact ⟨by rw [hset_rn (by decide), hset_rn (by decide), hset_rs], by rw [hset_rn (by decide), hset_rs], by rw [hset_rs]⟩
  have R : RS T n 0 k := ⟨by rw [kc 12 (by decide) (by decide)]; exact g2, by rw [kc 12 (by decide) (by decide)]; exact g3, by omega, hn, fun j hj => by rw [kc 1 (by decide) (by decide), gc 1 (by decide)]; exact hT j hj⟩
  have d : DC D0 k := by
    refine ⟨k7.1, k7.2.1, k7.2.2, by rw [kc 12 (by decide) (by decide)]; exact g4, fun j hj => ?_, fun j hj => ?_, fun j hj => by rw [f2 j hj]; rfl, by rw [kc 12 (by decide) (by decide), g5, bs_none]; rfl⟩
    · have : (j : Int) < 0 := hj
      omega
    · have : (j : Int) < 0 := hj
      omega
  refine C_blanks R ?_
  refine C_rtL (h0 := h) 401 FUEL 0 0 D0 _ (by omega) (by decide) (by omega) (by omega) (R.at (nA_le (by omega))) (d.at (by decide) (by decide)) D0_ok (by rw [hset_rn (by decide), kc 12 (by decide) (by decide)]; exact g6) (fun c hc => by rw [hset_c (by omega), kc c (by omega) (by omega), gc c (by omega)]) (fun g' o => ?_)
  have e6 := o.2.2.2.1
  have := o.2.1
  have := o.2.2.1
  have q := hq g' o
  refine brQ (weq0 ⟨by omega, by omega⟩) (fun z => ?_) (fun z => ?_)
  · rw [if_pos (by omega)] at q; exact q
  · rw [if_neg (by omega)] at q; exact q
end PCX
