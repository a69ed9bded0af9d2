/-! ===== PURE: the model reads ===== -/
def MS (T : Nat → Int) (n i : Nat) (h : HP) : Prop := h 69 16 = n ∧ h 69 18 = i ∧ i ≤ n ∧ n ≤ 400 ∧ ∀ j, j < n → h 79 j = T j ∧ 0 ≤ T j ∧ T j ≤ 255
def MF (h0 h : HP) : Prop := (∀ c, c < 69 ∨ (69 < c ∧ c < 80) ∨ 83 < c → h c = h0 c) ∧ ∀ j, j ≤ 16 ∨ 30 ≤ j → h 69 j = h0 69 j
theorem MF.rf {h : HP} : MF h h := ⟨fun _ _ => rfl, fun _ _ => rfl⟩
theorem MF.tr {h h1 h2 : HP} (a : MF h h1) (b : MF h1 h2) : MF h h2 := ⟨fun c hc => (b.1 c hc).trans (a.1 c hc), fun j hj => (b.2 j hj).trans (a.2 j hj)⟩
theorem MF.fld {h h1 : HP} {j : Nat} {v : Int} (a : MF h h1) (hj : 16 < j) (hj2 : j < 30) : MF h (hset h1 69 j v) := ⟨fun c hc => by rw [hset_c (by omega)]; exact a.1 c hc, fun k hk => by rw [hset_rn (by omega)]; exact a.2 k hk⟩
theorem MF.set {h h1 : HP} {c j : Nat} {v : Int} (a : MF h h1) (hc : 80 ≤ c) (hc2 : c ≤ 83) : MF h (hset h1 c j v) := ⟨fun k hk => by rw [hset_c (by omega)]; exact a.1 k hk, fun k hk => by rw [hset_c (by omega)]; exact a.2 k hk⟩
def TN (h g : HP) : Prop := (∀ c, c ≠ 69 → g c = h c) ∧ ∀ j, j ≠ 17 → j ≠ 18 → j ≠ 21 → j ≠ 22 → g 69 j = h 69 j
theorem TN.mf {h g : HP} (t : TN h g) : MF h g := ⟨fun c hc => t.1 c (by omega), fun j hj => t.2 j (by omega) (by omega) (by omega) (by omega)⟩
section PM
variable {T : Nat → Int} {n : Nat}
theorem MS.at {i j : Nat} {h : HP} (R : MS T n i h) (hj : j ≤ n) : MS T n j (hset h 69 18 j) :=
  ⟨by rw [hset_rn (by decide)]; exact R.1, hset_rs, hj, R.2.2.2.1, fun k hk => by rw [hset_c (by decide)]; exact R.2.2.2.2 k hk⟩
theorem MS.self {i : Nat} {h : HP} (R : MS T n i h) : hset h 69 18 (i : Int) = h := by rw [← R.2.1, hset_sf]
theorem MS.eq {i : Nat} {h h' : HP} (R : MS T n i h) (e2 : h' 69 16 = h 69 16) (e3 : h' 69 18 = h 69 18) (e1 : h' 79 = h 79) : MS T n i h' := by
  unfold MS; rw [e2, e3, e1]; exact R
theorem M_heL {E : HP → Prop} : ∀ (m f i : Nat) (h : HP), n - i = m → m < f → MS T n i h → E (hset h 69 18 (nA T n i : Nat)) → p8_here_L0 E f h := by
  intro m
  induction m with
  | zero =>
    intro f i h hm hf R hq
    obtain ⟨f, rfl⟩ : ∃ n', f = n' + 1 := ⟨f - 1, by omega⟩
    obtain ⟨r1, r2, r3, r4, r5⟩ := id R
    unfold p8_here_L0
    rw [r1, r2]
    refine brY ((wle ⟨by omega, by omega⟩ ⟨by omega, by omega⟩).mpr (by omega)) ?_
    rw [show nA T n i = i from sp_N (fun z => absurd z.1 (by omega)), R.self] at hq
    exact hq
  | succ m ih =>
    intro f i h hm hf R hq
    obtain ⟨f, rfl⟩ : ∃ n', f = n' + 1 := ⟨f - 1, by omega⟩
    obtain ⟨r1, r2, r3, r4, r5⟩ := id R
    have t := r5 i (by omega)
    unfold p8_here_L0
    rw [r1, r2]
    refine brN (fun z => by have := (wle ⟨by omega, by omega⟩ ⟨by omega, by omega⟩).mp z; omega) ?_
    refine rd_n (by omega) (by decide) ?_
    rw [t.1]
    refine brQ (weq ⟨by omega, by omega⟩ ⟨by omega, by omega⟩) (fun z => pf_i ?_) (fun z => ?_)
    · have c : isBl (T i) = true := (isBl_c _).mpr z
      rw [show (i : Int) + 1 = ((i + 1 : Nat) : Int) from by omega]
      refine ih f (i + 1) _ (by omega) (by omega) (R.at (by omega)) ?_
      rw [hset_ov, ← show nA T n i = nA T n (i + 1) from sp_Y (by omega) c]
      exact hq
    · rw [show nA T n i = i from sp_N (fun q => z ((isBl_c _).mp q.2)), R.self] at hq
      exact hq
theorem M_here {Q : Int → HP → Prop} {i : Nat} {h : HP} (R : MS T n i h) (hy : nA T n i < n → Q (T (nA T n i)) (hset h 69 18 (nA T n i : Nat))) (hn : ¬ nA T n i < n → Q (-1) (hset h 69 18 (nA T n i : Nat))) : p8_here h Q := by
  have h1 := R.2.2.2.1
  obtain ⟨r1, r2, r3, r4, r5⟩ := R.at (nA_le (T := T) R.2.2.1)
  unfold p8_here
  refine jn_i ?_
  have := M_heL (E := fun (h5 : HP) => brc (w32 (h5 69 16) ≤ w32 (h5 69 18)) (Q (-1) h5) (rd h5 79 400 (h5 69 18) fun v7 => Q v7 h5)) (n - i) (FUEL + 1) i h rfl (by unfold FUEL; omega) R (by
    show brc (w32 (hset h 69 18 ((nA T n i : Nat) : Int) 69 16) ≤ w32 (hset h 69 18 ((nA T n i : Nat) : Int) 69 18)) _ _
    rw [r1, r2]
    refine brQ (wle ⟨by omega, by omega⟩ ⟨by omega, by omega⟩) (fun z => hn (by omega)) (fun z => ?_)
    refine rd_n (by omega) (by decide) ?_
    rw [(r5 (nA T n i) (by omega)).1]
    exact hy (by omega))
  unfold p8_here_L0 at this
  exact this
theorem M_dg {x : Int} {h : HP} {Q : Int → Prop} (hx : -1 ≤ x) (hx2 : x ≤ 255) (h1 : isDg x = true → Q 1) (h0 : ¬ isDg x = true → Q 0) : p8_in (w32 x) 48 57 h Q := by
  rw [w_id (by omega) (by omega)]
  exact in_i ⟨by omega, by omega⟩ ⟨by omega, by omega⟩ ⟨by omega, by omega⟩ (fun a b => h1 ((isDg_c x).mpr ⟨a, b⟩)) (fun a => h0 (fun q => a ((isDg_c x).mp q)))
theorem M_lt {x : Int} {h : HP} {Q : Int → Prop} (hx : -1 ≤ x) (hx2 : x ≤ 255) (h1 : isLt x = true → Q 1) (h0 : ¬ isLt x = true → Q 0) : p8_in (w32 x) 97 122 h Q := by
  rw [w_id (by omega) (by omega)]
  exact in_i ⟨by omega, by omega⟩ ⟨by omega, by omega⟩ ⟨by omega, by omega⟩ (fun a b => h1 ((isLt_c x).mpr ⟨a, b⟩)) (fun a => h0 (fun q => a ((isLt_c x).mp q)))
theorem M_rnL {E : HP → Prop} {lo2 hi2 : Int} {a : Nat} : ∀ (m f j : Nat) (h : HP) (v : Int), n - j = m → m < f → MS T n j h → h 69 21 = v → a ≤ j → 0 ≤ v → v ≤ 100009 → (j - a ≤ 3 → v = nvF T (j - a) a 0 ∧ v ≤ 999) → (j - a = 0 → v = 0) → (j - a ≤ 1 → v ≤ 9) → (j - a ≤ 2 → v ≤ 99) → (∀ g v', (∀ c, c ≠ 69 → g c = h c) → (∀ j, j ≠ 18 → j ≠ 21 → g 69 j = h 69 j) → g 69 18 = ((spN isDg T n j : Nat) : Int) → g 69 21 = v' → 0 ≤ v' → v' ≤ 100009 → (spN isDg T n j - a ≤ 3 → v' = nvF T (spN isDg T n j - a) a 0) → E g) → p8_takeNumber_L42 lo2 hi2 E f h := by
  intro m
  induction m with
  | zero =>
    intro f j h v hm hf R hv ha v1 v2 v3 v4 v5 v6 hq
    obtain ⟨f, rfl⟩ : ∃ n', f = n' + 1 := ⟨f - 1, by omega⟩
    obtain ⟨r1, r2, r3, r4, r5⟩ := id R
    unfold p8_takeNumber_L42
    rw [r1, r2]
    refine brY ((wle ⟨by omega, by omega⟩ ⟨by omega, by omega⟩).mpr (by omega)) ?_
    have e : spN isDg T n j = j := sp_N (fun z => absurd z.1 (by omega))
    rw [e] at hq
    exact hq h v (fun _ _ => rfl) (fun _ _ _ => rfl) r2 hv v1 v2 (fun z => (v3 z).1)
  | succ m ih =>
    intro f j h v hm hf R hv ha v1 v2 v3 v4 v5 v6 hq
    obtain ⟨f, rfl⟩ : ∃ n', f = n' + 1 := ⟨f - 1, by omega⟩
    obtain ⟨r1, r2, r3, r4, r5⟩ := id R
    have t := r5 j (by omega)
    unfold p8_takeNumber_L42
    rw [r1, r2, hv]
    refine brN (fun z => by have := (wle ⟨by omega, by omega⟩ ⟨by omega, by omega⟩).mp z; omega) ?_
    refine rd_n (by omega) (by decide) ?_
    rw [t.1]
    refine M_dg (by omega) t.2.2 (fun q => brN (by decide) (jn_i ?_)) (fun q => brY (by decide) ?_)
    · have d := (isDg_c _).mp q
      have es : spN isDg T n j = spN isDg T n (j + 1) := sp_Y (by omega) q
      have step : ∀ v', 0 ≤ v' → v' ≤ 100009 → (j + 1 - a ≤ 3 → v' = nvF T (j + 1 - a) a 0 ∧ v' ≤ 999) → (j + 1 - a ≤ 1 → v' ≤ 9) → (j + 1 - a ≤ 2 → v' ≤ 99) → pf h 69 21 v' fun h12 => pf h12 69 18 ((h12 69 18) + 1) fun h13 => p8_takeNumber_L42 lo2 hi2 E f h13 := by
        intro v' w1 w2 w3 w4 w5
        refine pf_i (pf_i ?_)
        rw [show hset h 69 21 v' 69 18 + 1 = ((j + 1 : Nat) : Int) from by rw [hset_rn (by decide), r2]; omega]
        refine ih f (j + 1) _ v' (by omega) (by omega) ((R.eq (h' := hset h 69 21 v') (hset_rn (by decide)) (hset_rn (by decide)) (hset_c (by decide))).at (by omega)) (by rw [hset_rn (by decide), hset_rs]) (by omega) w1 w2 w3 (fun z => by omega) w4 w5 (fun g v'' u1 u2 u3 u4 u5 u6 u7 => ?_)
        rw [← es] at u3 u7
        exact hq g v'' (fun c hc => by rw [u1 c hc, hset_c hc, hset_c hc]) (fun j hj1 hj2 => by rw [u2 j hj1 hj2, hset_rn hj1, hset_rn hj2]) u3 u4 u5 u6 u7
      refine brQ (wle ⟨by omega, by omega⟩ ⟨by omega, by omega⟩) (fun z => ?_) (fun z => step v v1 v2 (fun w => by have := (v3 (by omega)).2; omega) (fun w => by have := (v3 (by omega)).2; omega) (fun w => by have := (v3 (by omega)).2; omega))
      refine rd_n (by omega) (by decide) ?_
      rw [t.1]
      refine step _ ?_ ?_ (fun w => ⟨?_, ?_⟩) (fun w => ?_) (fun w => ?_)
      · omega
      · omega
      · rw [show j + 1 - a = (j - a) + 1 from by omega, nvF_s, ← (v3 (by omega)).1, show a + (j - a) = j from by omega]; omega
      · have := v6 (by omega); omega
      · have := v4 (by omega); omega
      · have := v5 (by omega); omega
    · have e : spN isDg T n j = j := sp_N (fun z => q z.2)
      rw [e] at hq
      exact hq h v (fun _ _ => rfl) (fun _ _ _ => rfl) r2 hv v1 v2 (fun z => (v3 z).1)
theorem M_num {Q : Int → HP → Prop} {lo2 hi2 : Int} (hl : can lo2) (hh : can hi2) {i : Nat} {h : HP} (R : MS T n i h) (ok : rnK T n lo2 hi2 i = 0 → ∀ g, TN h g → MS T n (nJ T n i) g → g 69 17 = h 69 17 → g 69 21 = nV T n i → g 69 22 = ((nA T n i : Nat) : Int) → Q 0 g) (bad : rnK T n lo2 hi2 i ≠ 0 → ∀ g, TN h g → g 69 17 = ((nA T n i : Nat) : Int) → Q (rnK T n lo2 hi2 i) g) : p8_takeNumber lo2 hi2 h Q := by
  have n4 := R.2.2.2.1
  have R' := R.at (nA_le (T := T) R.2.2.1)
  have jl : nJ T n i ≤ n := nJ_le R.2.2.1
  have jg := nJ_ge (T := T) (n := n) i
  have r5 := R.2.2.2.2
  have e18 : hset h 69 18 ((nA T n i : Nat) : Int) 69 18 = ((nA T n i : Nat) : Int) := hset_rs
  have b1 : ¬ (nA T n i < n ∧ isDg (T (nA T n i)) = true) → p8_fails 1 ((nA T n i : Nat) : Int) (hset h 69 18 ((nA T n i : Nat) : Int)) fun r21 h22 => Q r21 h22 := fun z => by
    have e : rnK T n lo2 hi2 i = 1 := by unfold rnK; rw [if_neg z]
    have := bad (by omega)
    rw [e] at this
    exact pf_i (this _ ⟨fun c hc => by rw [hset_c hc, hset_c hc], fun j h1 h2 _ _ => by rw [hset_rn h1, hset_rn h2]⟩ hset_rs)
  unfold p8_takeNumber
  refine M_here R (fun z1 => ?_) (fun z => ?_)
  · rw [e18]
    have t := r5 (nA T n i) z1
    refine M_dg (by omega) t.2.2 (fun z2 => brN (by decide) ?_) (fun z2 => brY (by decide) (b1 (fun q => z2 q.2)))
    have hd : nA T n i < n ∧ isDg (T (nA T n i)) = true := ⟨z1, z2⟩
    refine pf_i (pf_i ?_)
    have R2 : MS T n (nA T n i) (hset (hset (hset h 69 18 ((nA T n i : Nat) : Int)) 69 22 ((nA T n i : Nat) : Int)) 69 21 0) := R'.eq (by rw [hset_rn (by decide), hset_rn (by decide)]) (by rw [hset_rn (by decide), hset_rn (by decide)]) (by rw [hset_c (by decide), hset_c (by decide)])
    refine M_rnL (a := nA T n i) (n - nA T n i) FUEL (nA T n i) _ 0 rfl (by unfold FUEL; omega) R2 hset_rs (Nat.le_refl _) (by decide) (by decide) (fun _ => by rw [Nat.sub_self]; exact ⟨rfl, by decide⟩) (fun _ => rfl) (fun _ => by decide) (fun _ => by decide) (fun g v g1 g2 g3 g4 v1 v2 v3 => ?_)
    rw [show spN isDg T n (nA T n i) = nJ T n i from rfl] at g3 v3
    have g22 : g 69 22 = ((nA T n i : Nat) : Int) := by rw [g2 22 (by decide) (by decide), hset_rn (by decide), hset_rs]
    have tn : TN h g := ⟨fun c hc => by rw [g1 c hc, hset_c hc, hset_c hc, hset_c hc], fun j h1 h2 h3 h4 => by rw [g2 j h2 h3, hset_rn h3, hset_rn h4, hset_rn h2]⟩
    have g17 : g 69 17 = h 69 17 := by rw [g2 17 (by decide) (by decide), hset_rn (by decide), hset_rn (by decide), hset_rn (by decide)]
    rw [g22, g3, g4]
    have rk : ∀ c : 3 < nJ T n i - nA T n i ∨ nV T n i < lo2 ∨ hi2 < nV T n i, rnK T n lo2 hi2 i = 2 := fun c => by unfold rnK; rw [if_pos hd, if_pos c]
    have K : rnK T n lo2 hi2 i = 2 → p8_fails 2 ((nA T n i : Nat) : Int) g fun r18 h19 => Q r18 h19 := fun e => by
      have := bad (by omega)
      rw [e] at this
      exact pf_i (this _ ⟨fun c hc => by rw [hset_c hc]; exact tn.1 c hc, fun j h1 h2 h3 h4 => by rw [hset_rn h1]; exact tn.2 j h1 h2 h3 h4⟩ hset_rs)
    refine jn_i ?_
    refine brQ (wlt ⟨by omega, by omega⟩ ⟨by omega, by omega⟩) (fun y => K (rk (Or.inl (by omega)))) (fun y => ?_)
    have ev : v = nV T n i := v3 (by omega)
    rw [w_id (x := v) (by omega) (by omega), w_id hl.1 hl.2, w_id hh.1 hh.2]
    have hl1 := hl.1; have hl2 := hl.2; have hh1 := hh.1; have hh2 := hh.2
    refine in_i ⟨by omega, by omega⟩ ⟨by omega, by omega⟩ ⟨by omega, by omega⟩ (fun y1 y2 => brN (by decide) ?_) (fun y1 => brY (by decide) (K (rk (by omega))))
    exact ok (by unfold rnK; rw [if_pos hd, if_neg (by omega)]) g tn ⟨by rw [g2 16 (by decide) (by decide)]; exact R2.1, g3, jl, n4, fun j hj => by rw [g1 79 (by decide)]; exact R2.2.2.2.2 j hj⟩ g17 (by rw [g4, ev]) g22
  · rw [e18]
    refine M_dg (by decide) (by decide) (fun q => absurd q (by decide)) (fun q => brY (by decide) (b1 (fun w => z w.1)))
/-! the word -/
def wv (T : Nat → Int) (a : Nat) : Nat → Int
  | 0 => 0
  | m + 1 => 27 * wv T a m + T (a + m) - 96
theorem M_wdL {Q : HP → Prop} {a : Nat} : ∀ (m f j : Nat) (h : HP) (s : Int), n - j = m → m < f → h 69 16 = n → h 69 20 = (j : Int) → j ≤ n → n ≤ 400 → (∀ k, k < n → h 79 k = T k ∧ 0 ≤ T k ∧ T k ≤ 255) → h 69 19 = s → a ≤ j → 0 ≤ s → s ≤ 30000000000000 → (j - a ≤ 5 → s = wv T a (j - a)) → (j - a = 0 → s = 0) → (j - a = 1 → 1 ≤ s ∧ s ≤ 26) → (j - a = 2 → 27 ≤ s ∧ s ≤ 728) → (j - a = 3 → 729 ≤ s ∧ s ≤ 19682) → (j - a = 4 → 19683 ≤ s ∧ s ≤ 531440) → (j - a = 5 → 531441 ≤ s ∧ s ≤ 14348906) → (5 < j - a → 14348907 ≤ s) → (∀ g s', (∀ c, c ≠ 69 → g c = h c) → (∀ k, k ≠ 19 → k ≠ 20 → g 69 k = h 69 k) → g 69 20 = ((spN isLt T n j : Nat) : Int) → g 69 19 = s' → 0 ≤ s' → s' ≤ 30000000000000 → (spN isLt T n j - a ≤ 5 → s' = wv T a (spN isLt T n j - a)) → (spN isLt T n j - a ≤ 4 → s' ≤ 531440) → (5 < spN isLt T n j - a → 14348907 ≤ s') → Q g) → p8_readWord_L18 Q f h := by
  intro m
  induction m with
  | zero =>
    intro f j h s hm hf r1 r2 r3 r4 r5 hs ha s1 s2 s3 c0 c1 c2 c3 c4 c5 c6 hq
    obtain ⟨f, rfl⟩ : ∃ n', f = n' + 1 := ⟨f - 1, by omega⟩
    unfold p8_readWord_L18
    rw [r1, r2]
    refine brY ((wle ⟨by omega, by omega⟩ ⟨by omega, by omega⟩).mpr (by omega)) ?_
    have e : spN isLt T n j = j := sp_N (fun z => absurd z.1 (by omega))
    rw [e] at hq
    refine hq h s (fun _ _ => rfl) (fun _ _ _ => rfl) r2 hs s1 s2 s3 (fun z => ?_) c6
    have : j - a = 0 ∨ j - a = 1 ∨ j - a = 2 ∨ j - a = 3 ∨ j - a = 4 := by omega
    omega
  | succ m ih =>
    intro f j h s hm hf r1 r2 r3 r4 r5 hs ha s1 s2 s3 c0 c1 c2 c3 c4 c5 c6 hq
    obtain ⟨f, rfl⟩ : ∃ n', f = n' + 1 := ⟨f - 1, by omega⟩
    have t := r5 j (by omega)
    unfold p8_readWord_L18
    rw [r1, r2, hs]
    refine brN (fun z => by have := (wle ⟨by omega, by omega⟩ ⟨by omega, by omega⟩).mp z; omega) ?_
    refine rd_n (by omega) (by decide) ?_
    rw [t.1]
    refine M_lt (by omega) t.2.2 (fun q => brN (by decide) (jn_i ?_)) (fun q => brY (by decide) ?_)
    · have d := (isLt_c _).mp q
      have es : spN isLt T n j = spN isLt T n (j + 1) := sp_Y (by omega) q
      have step : ∀ s', 0 ≤ s' → s' ≤ 30000000000000 → (j + 1 - a ≤ 5 → s' = wv T a (j + 1 - a)) → (j + 1 - a = 1 → 1 ≤ s' ∧ s' ≤ 26) → (j + 1 - a = 2 → 27 ≤ s' ∧ s' ≤ 728) → (j + 1 - a = 3 → 729 ≤ s' ∧ s' ≤ 19682) → (j + 1 - a = 4 → 19683 ≤ s' ∧ s' ≤ 531440) → (j + 1 - a = 5 → 531441 ≤ s' ∧ s' ≤ 14348906) → (5 < j + 1 - a → 14348907 ≤ s') → pf h 69 19 s' fun h11 => pf h11 69 20 ((h11 69 20) + 1) fun h12 => p8_readWord_L18 Q f h12 := by
        intro s' w1 w2 w3 w4 w5 w6 w7 w8 w9
        refine pf_i (pf_i ?_)
        rw [show hset h 69 19 s' 69 20 + 1 = ((j + 1 : Nat) : Int) from by rw [hset_rn (by decide), r2]; omega]
        refine ih f (j + 1) _ s' (by omega) (by omega) (by rw [hset_rn (by decide), hset_rn (by decide)]; exact r1) hset_rs (by omega) r4 (fun k hk => by rw [hset_c (by decide), hset_c (by decide)]; exact r5 k hk) (by rw [hset_rn (by decide), hset_rs]) (by omega) w1 w2 w3 (fun z => by omega) w4 w5 w6 w7 w8 w9 (fun g s'' u1 u2 u3 u4 u5 u6 u7 u8 u9 => ?_)
        rw [← es] at u3 u7 u8 u9
        exact hq g s'' (fun c hc => by rw [u1 c hc, hset_c hc, hset_c hc]) (fun k k1 k2 => by rw [u2 k k1 k2, hset_rn k2, hset_rn k1]) u3 u4 u5 u6 u7 u8 u9
      have el : (w32 (lc s 1000000000000) ≤ 0) ↔ s ≤ 1000000000000 := by
        unfold lc
        rw [wq_id (x := s) (by omega) (by omega), wq_id (x := 1000000000000) (by decide) (by decide)]
        by_cases q1 : (1000000000000 : Int) < s
        · rw [if_pos q1]; exact ⟨fun z => absurd z (by decide), fun z => by omega⟩
        · rw [if_neg q1]; split
          · exact ⟨fun _ => by omega, fun _ => by decide⟩
          · exact ⟨fun _ => by omega, fun _ => by decide⟩
      refine brQ el (fun z => ?_) (fun z => step 2000000000000 (by decide) (by decide) (fun w => ?_) (fun w => ?_) (fun w => ?_) (fun w => ?_) (fun w => ?_) (fun w => ?_) (fun w => by decide))
      · refine rd_n (by omega) (by decide) ?_
        rw [t.1, w_id (x := T j) (by omega) (by omega)]
        refine step _ (by omega) (by omega) (fun w => ?_) (fun w => ?_) (fun w => ?_) (fun w => ?_) (fun w => ?_) (fun w => ?_) (fun w => ?_)
        · rw [show j + 1 - a = (j - a) + 1 from by omega]
          show _ = 27 * wv T a (j - a) + T (a + (j - a)) - 96
          rw [← s3 (by omega), show a + (j - a) = j from by omega]
        · have := c0 (by omega); omega
        · have := c1 (by omega); omega
        · have := c2 (by omega); omega
        · have := c3 (by omega); omega
        · have := c4 (by omega); omega
        · by_cases w' : j - a = 5
          · have := c5 w'; omega
          · have := c6 (by omega); omega
      all_goals
        have : j - a = 0 ∨ j - a = 1 ∨ j - a = 2 ∨ j - a = 3 ∨ j - a = 4 := by omega
        omega
    · have e : spN isLt T n j = j := sp_N (fun z => q z.2)
      rw [e] at hq
      refine hq h s (fun _ _ => rfl) (fun _ _ _ => rfl) r2 hs s1 s2 s3 (fun z => ?_) c6
      have : j - a = 0 ∨ j - a = 1 ∨ j - a = 2 ∨ j - a = 3 ∨ j - a = 4 := by omega
      omega
def cdK : Nat → Int
  | 0 => 10406305
  | 1 => 4562600
  | _ => 12532058
theorem lc0 {x y : Int} (h1 : 0 ≤ x) (h2 : x ≤ 30000000000000) (h3 : 0 ≤ y) (h4 : y ≤ 30000000000000) : (w32 (lc x y) = 0) ↔ x = y := by
  unfold lc
  rw [wq_id (x := x) (by omega) (by omega), wq_id (x := y) (by omega) (by omega)]
  by_cases q1 : y < x
  · rw [if_pos q1]; exact ⟨fun z => absurd z (by decide), fun z => by omega⟩
  · rw [if_neg q1]
    by_cases q2 : x = y
    · rw [if_pos q2]; exact ⟨fun _ => q2, fun _ => by decide⟩
    · rw [if_neg q2]; exact ⟨fun z => absurd z (by decide), fun z => absurd z q2⟩
theorem wv_cd {a e : Nat} {s : Int} (hk : ∀ j, a ≤ j → j < e → 97 ≤ T j ∧ T j ≤ 122) (ha : a ≤ e) (s3 : e - a ≤ 5 → s = wv T a (e - a)) (s4 : e - a ≤ 4 → s ≤ 531440) (s5 : 5 < e - a → 14348907 ≤ s) : (s = 10406305 ↔ wdK T 0 a e) ∧ (s = 4562600 ↔ wdK T 1 a e) ∧ (s = 12532058 ↔ wdK T 2 a e) := by
  by_cases c : e = a + 5
  · have e5 : s = wv T a 5 := by rw [s3 (by omega), show e - a = 5 from by omega]
    have e6 : wv T a 5 = 27 * (27 * (27 * (27 * (27 * 0 + T a - 96) + T (a + 1) - 96) + T (a + 2) - 96) + T (a + 3) - 96) + T (a + 4) - 96 := rfl
    have b0 := hk a (by omega) (by omega)
    have b1 := hk (a + 1) (by omega) (by omega)
    have b2 := hk (a + 2) (by omega) (by omega)
    have b3 := hk (a + 3) (by omega) (by omega)
    have b4 := hk (a + 4) (by omega) (by omega)
    rw [e6] at e5
    refine ⟨⟨fun z => ⟨c, ?_⟩, fun z => ?_⟩, ⟨fun z => ⟨c, ?_⟩, fun z => ?_⟩, ⟨fun z => ⟨c, ?_⟩, fun z => ?_⟩⟩
    · show T a = 115 ∧ T (a + 1) = 111 ∧ T (a + 2) = 114 ∧ T (a + 3) = 116 ∧ T (a + 4) = 115
      omega
    · obtain ⟨_, z0, z1, z2, z3, z4⟩ := z
      have z0 : T a = 115 := z0
      have z1 : T (a + 1) = 111 := z1
      have z2 : T (a + 2) = 114 := z2
      have z3 : T (a + 3) = 116 := z3
      have z4 : T (a + 4) = 115 := z4
      omega
    · show T a = 104 ∧ T (a + 1) = 111 ∧ T (a + 2) = 117 ∧ T (a + 3) = 115 ∧ T (a + 4) = 101
      omega
    · obtain ⟨_, z0, z1, z2, z3, z4⟩ := z
      have z0 : T a = 104 := z0
      have z1 : T (a + 1) = 111 := z1
      have z2 : T (a + 2) = 117 := z2
      have z3 : T (a + 3) = 115 := z3
      have z4 : T (a + 4) = 101 := z4
      omega
    · show T a = 119 ∧ T (a + 1) = 111 ∧ T (a + 2) = 114 ∧ T (a + 3) = 116 ∧ T (a + 4) = 104
      omega
    · obtain ⟨_, z0, z1, z2, z3, z4⟩ := z
      have z0 : T a = 119 := z0
      have z1 : T (a + 1) = 111 := z1
      have z2 : T (a + 2) = 114 := z2
      have z3 : T (a + 3) = 116 := z3
      have z4 : T (a + 4) = 104 := z4
      omega
  · refine ⟨⟨fun z => ?_, fun z => absurd z.1 c⟩, ⟨fun z => ?_, fun z => absurd z.1 c⟩, ⟨fun z => ?_, fun z => absurd z.1 c⟩⟩ <;> exfalso
    all_goals
      by_cases k : e - a ≤ 4
      · have := s4 k; omega
      · have := s5 (by omega); omega
end PM
