/-! ===== PURE: entries, odds, feeding ===== -/
section OP3
variable {h : HP}
theorem op_write (hI : INV h) {x y w : Int} (hx : can x) (hy : can y) (hw : w = 0 ∨ w = 1) : p7_write x y w h (fun r1 h1 => p8_write x y w h1 (fun r2 h2 => OK2 r1 r2 h2)) := by
  have hB := hI.2.2.2.2.2.1
  have cn := hI.cnt
  have s1 := hI.s1
  have hst := hI.st
  unfold okSt at hst
  obtain ⟨b1, b2, b3, b4⟩ := hB
  have c2 : h 13 1 ≤ 32 := hI.1.2.1.2.1
  unfold p7_write p8_write
  refine C_isHouse hx hI.1.1 (fun z1 z2 => brN (by decide) ?_) (fun z => brY (by decide) (M_isHouseN hI hx z (brY (by decide) ⟨rfl, hI⟩)))
  obtain ⟨n, rfl⟩ := Int.eq_ofNat_of_zero_le z1
  refine C_isPart hy hI.1 (fun y1 y2 => brN (by decide) ?_) (fun z => brY (by decide) (M_isHouseY hI z2 (brN (by decide) (M_isPartN hI hy z (brY (by decide) ⟨rfl, hI⟩)))))
  obtain ⟨p, rfl⟩ := Int.eq_ofNat_of_zero_le y1
  unfold p0_enter
  refine brQ (wlt ⟨by omega, by omega⟩ ⟨by omega, by omega⟩) (fun z => ?_) (fun z => brY (by decide) (M_isHouseY hI z2 (brN (by decide) (M_isPartY hI y2 (brN (by decide) (brY (by rw [show h 69 40 = 40 from by omega]) ⟨rfl, hI⟩))))))
  obtain ⟨t, ht⟩ := Int.eq_ofNat_of_zero_le (show 0 ≤ h 47 0 by omega)
  rw [ht]
  refine wr_n (by omega) (by decide) ?_
  rw [hset_c (show (47 : Nat) ≠ 48 by decide), ht]
  refine wr_n (by omega) (by decide) ?_
  rw [hset_c (show (47 : Nat) ≠ 49 by decide), hset_c (show (47 : Nat) ≠ 48 by decide), ht]
  refine wr_n (by omega) (by decide) ?_
  refine pf_i ?_
  rw [hset_c (show (47 : Nat) ≠ 50 by decide), hset_c (show (47 : Nat) ≠ 49 by decide), hset_c (show (47 : Nat) ≠ 48 by decide), ht]
  refine brN (by decide) ?_
  rw [hset_rs]
  generalize hh : hset (hset (hset (hset h 48 t n) 49 t p) 50 t (bb w)) 47 0 (t + 1) = h1
  have f : ∀ c, c < 47 ∨ 50 < c → h1 c = h c := fun c hc => by rw [← hh, hset_c (by omega), hset_c (by omega), hset_c (by omega), hset_c (by omega)]
  obtain ⟨a, b, c⟩ := CORE.i (h := h) (h' := h1) ⟨fun c hc => f c (by omega), fun j hj => by rw [f 69 (by omega)]⟩ hI
  have f69 := f 69 (by omega)
  have ht2 : h1 69 40 = t := by rw [f69]; omega
  refine M_hY b (by rw [f69]; omega) (brN (by decide) (M_pY b (by rw [f69]; omega) (brN (by decide) (brN (by rw [ht2, weq ⟨by omega, by omega⟩ ⟨by omega, by omega⟩]; omega) ?_))))
  rw [ht2]
  refine wr_n (by omega) (by decide) ?_
  rw [hset_c (show (69 : Nat) ≠ 92 by decide), ht2]
  refine wr_n (by omega) (by decide) ?_
  rw [hset_c (show (69 : Nat) ≠ 93 by decide), hset_c (show (69 : Nat) ≠ 92 by decide), ht2]
  refine wr_n (by omega) (by decide) ?_
  refine pf_i ?_
  rw [hset_c (show (69 : Nat) ≠ 94 by decide), hset_c (show (69 : Nat) ≠ 93 by decide), hset_c (show (69 : Nat) ≠ 92 by decide), ht2, hset_rs]
  generalize hh2 : hset (hset (hset (hset h1 92 t n) 93 t p) 94 t (bb w)) 69 40 (t + 1) = h2
  refine ⟨rfl, ?_⟩
  have g : ∀ c, c < 47 ∨ (50 < c ∧ c < 69) ∨ (69 < c ∧ c < 92) ∨ 94 < c → h2 c = h c := fun c hc => by rw [← hh2, hset_c (by omega), hset_c (by omega), hset_c (by omega), hset_c (by omega)]; exact f c (by omega)
  have gf : ∀ j, j ≠ 40 → h2 69 j = h 69 j := fun j hj => by rw [← hh2, hset_rn hj, hset_c (by decide), hset_c (by decide), hset_c (by decide), f69]
  have gb : ∀ c, 47 ≤ c → c ≤ 50 → h2 c = h1 c := fun c h1 h2 => by rw [← hh2, hset_c (by omega), hset_c (by omega), hset_c (by omega), hset_c (by omega)]
  obtain ⟨a', b', c'⟩ := CORE.i (h := h) (h' := h2) ⟨fun c hc => g c (by omega), fun j hj => gf j (by omega)⟩ hI
  refine ⟨a', b', c', STAT_eq (fun c hc => g c (by omega)) (fun j hj => gf j (by omega)) hI.2.2.2.1, TXT_eq (fun c hc => g c (by omega)) (fun j hj => gf j (by omega)) hI.2.2.2.2.1, ?_, IMG_eq (fun c hc => g c (by omega)) (fun j _ => by rw [g 95 (by decide)]) hI.2.2.2.2.2.2⟩
  have e40 : h2 69 40 = t + 1 := by rw [← hh2, hset_rs]
  have e1 := gf 1 (by decide)
  unfold BOOK
  rw [e40, e1]
  refine ⟨by rw [gb 47 (by decide) (by decide), ← hh, hset_rs], by omega, by omega, fun j hj => ?_⟩
  have k48 : h2 48 j = if j = t then (n : Int) else h 48 j := by
    rw [gb 48 (by decide) (by decide), ← hh, hset_c (by decide), hset_c (by decide), hset_c (by decide)]
    by_cases q : j = t
    · subst q; rw [if_pos rfl, hset_rs]
    · rw [if_neg q, hset_rn q]
  have k49 : h2 49 j = if j = t then (p : Int) else h 49 j := by
    rw [gb 49 (by decide) (by decide), ← hh, hset_c (by decide), hset_c (by decide)]
    by_cases q : j = t
    · subst q; rw [if_pos rfl, hset_rs]
    · rw [if_neg q, hset_rn q, hset_c (by decide)]
  have k50 : h2 50 j = if j = t then bb w else h 50 j := by
    rw [gb 50 (by decide) (by decide), ← hh, hset_c (by decide)]
    by_cases q : j = t
    · subst q; rw [if_pos rfl, hset_rs]
    · rw [if_neg q, hset_rn q, hset_c (by decide), hset_c (by decide)]
  have k92 : h2 92 j = if j = t then (n : Int) else h 92 j := by
    rw [← hh2, hset_c (by decide), hset_c (by decide), hset_c (by decide)]
    by_cases q : j = t
    · subst q; rw [if_pos rfl, hset_rs]
    · rw [if_neg q, hset_rn q, f 92 (by decide)]
  have k93 : h2 93 j = if j = t then (p : Int) else h 93 j := by
    rw [← hh2, hset_c (by decide), hset_c (by decide)]
    by_cases q : j = t
    · subst q; rw [if_pos rfl, hset_rs]
    · rw [if_neg q, hset_rn q, hset_c (by decide), f 93 (by decide)]
  have k94 : h2 94 j = if j = t then bb w else h 94 j := by
    rw [← hh2, hset_c (by decide)]
    by_cases q : j = t
    · subst q; rw [if_pos rfl, hset_rs]
    · rw [if_neg q, hset_rn q, hset_c (by decide), hset_c (by decide), f 94 (by decide)]
  rw [k48, k49, k50, k92, k93, k94]
  by_cases q : j = t
  · simp only [if_pos q]
    refine ⟨trivial, trivial, trivial, by omega, by omega, by omega, by omega, ?_⟩
    rcases hw with rfl | rfl
    · exact Or.inl (by decide)
    · exact Or.inr (by decide)
  · simp only [if_neg q]
    exact b4 j (by omega)
/-- what is still missing -/
def om (s : Int) : Nat → Int
  | 0 => 1000000000
  | n + 1 => ld (om s n * w32 (s - 1)) (w32 s)
theorem op_odds (hI : INV h) {x y : Int} (hx : can x) (hy : can y) : p7_odds x y h (fun r1 => p8_odds x y h (fun r2 => w32 r1 = w32 r2)) := by
  have s0 := hI.s0
  have hst := hI.st
  unfold okSt at hst
  have := hy.1; have := hy.2
  unfold p7_odds
  refine C_isSort hx hI.1.1 (fun z1 z2 => brN (by decide) ?_) (fun z => brY (by decide) (by unfold p8_odds; exact M_isSortN hI hx z (brY (by decide) rfl)))
  obtain ⟨k, rfl⟩ := Int.eq_ofNat_of_zero_le z1
  have mk : ∀ {P : Int → Prop}, (¬ (0 ≤ y ∧ y ≤ 60) → P (-1000000002)) → ((0 ≤ y ∧ y ≤ 60) → p8_oddsBy y h P) → p8_odds k y h P := by
    intro P g1 g2
    unfold p8_odds
    refine M_isSortY hI z2 (brN (by decide) ?_)
    rw [w_id hy.1 hy.2]
    exact in_i ⟨by omega, by omega⟩ ⟨by omega, by omega⟩ ⟨by omega, by omega⟩ (fun a b => brN (by decide) (g2 ⟨a, b⟩)) (fun a => brY (by decide) (g1 a))
  refine brQ (wlt0 hy) (fun z => mk (fun _ => rfl) (fun q => by omega)) (fun z => ?_)
  refine brQ (wle hy ⟨by omega, by omega⟩) (fun w => ?_) (fun w => mk (fun _ => rfl) (fun q => by omega))
  obtain ⟨n, rfl⟩ := Int.eq_ofNat_of_zero_le (show 0 ≤ y by omega)
  have LC : ∀ (Q : Int → Prop), Q (1000000000 - om (h 69 0) n) → ∀ (m f i : Nat), m < f → i + m = n → p7_odds_L34 n h Q f (om (h 69 0) i) i := by
    intro Q hq m
    induction m with
    | zero =>
      intro f i hf hi
      obtain ⟨f, rfl⟩ : ∃ n', f = n' + 1 := ⟨f - 1, by omega⟩
      unfold p7_odds_L34
      refine brY ((wle ⟨by omega, by omega⟩ ⟨by omega, by omega⟩).mpr (by omega)) ?_
      rw [show i = n from by omega]; exact hq
    | succ m ih =>
      intro f i hf hi
      obtain ⟨f, rfl⟩ : ∃ n', f = n' + 1 := ⟨f - 1, by omega⟩
      unfold p7_odds_L34
      refine brN (fun z => by have := (wle ⟨by omega, by omega⟩ ⟨by omega, by omega⟩).mp z; omega) ?_
      unfold p4_stillMissing
      rw [s0]
      refine brN (fun z => by have := (wle0 ⟨by omega, by omega⟩).mp z; omega) ⟨?_, ?_⟩
      · rw [w_id (by omega) (by omega), wq_id (by omega) (by omega)]; omega
      · exact ih f (i + 1) (by omega) (by omega)
  have LM : ∀ (Q : Int → Prop), Q (1000000000 - om (h 69 0) n) → ∀ (m f i : Nat), m < f → i + m = n → p8_oddsBy_L7 n h Q f (om (h 69 0) i) i := by
    intro Q hq m
    induction m with
    | zero =>
      intro f i hf hi
      obtain ⟨f, rfl⟩ : ∃ n', f = n' + 1 := ⟨f - 1, by omega⟩
      unfold p8_oddsBy_L7
      refine brY ((wle ⟨by omega, by omega⟩ ⟨by omega, by omega⟩).mpr (by omega)) ?_
      rw [show i = n from by omega]; exact hq
    | succ m ih =>
      intro f i hf hi
      obtain ⟨f, rfl⟩ : ∃ n', f = n' + 1 := ⟨f - 1, by omega⟩
      unfold p8_oddsBy_L7
      refine brN (fun z => by have := (wle ⟨by omega, by omega⟩ ⟨by omega, by omega⟩).mp z; omega) ⟨?_, ?_⟩
      · rw [w_id (by omega) (by omega), wq_id (by omega) (by omega)]; omega
      · exact ih f (i + 1) (by omega) (by omega)
  refine LC _ ?_ n FUEL 0 (by unfold FUEL; omega) (by omega)
  refine mk (fun q => by omega) (fun _ => ?_)
  exact LM (fun r2 => w32 (1000000000 - om (h 69 0) n) = w32 r2) rfl n FUEL 0 (by unfold FUEL; omega) (by omega)
theorem M_oddsBy {n : Nat} (hn : n ≤ 60) (hs : 0 < h 69 0) (hs2 : h 69 0 ≤ 6) {Q : Int → Prop} (hq : Q (1000000000 - om (h 69 0) n)) : p8_oddsBy n h Q := by
  have LM : ∀ (m f i : Nat), m < f → i + m = n → p8_oddsBy_L7 n h Q f (om (h 69 0) i) i := by
    intro m
    induction m with
    | zero =>
      intro f i hf hi
      obtain ⟨f, rfl⟩ : ∃ n', f = n' + 1 := ⟨f - 1, by omega⟩
      unfold p8_oddsBy_L7
      refine brY ((wle ⟨by omega, by omega⟩ ⟨by omega, by omega⟩).mpr (by omega)) ?_
      rw [show i = n from by omega]; exact hq
    | succ m ih =>
      intro f i hf hi
      obtain ⟨f, rfl⟩ : ∃ n', f = n' + 1 := ⟨f - 1, by omega⟩
      unfold p8_oddsBy_L7
      refine brN (fun z => by have := (wle ⟨by omega, by omega⟩ ⟨by omega, by omega⟩).mp z; omega) ⟨?_, ?_⟩
      · rw [w_id (by omega) (by omega), wq_id (by omega) (by omega)]; omega
      · exact ih f (i + 1) (by omega) (by omega)
  exact LM n FUEL 0 (by unfold FUEL; omega) (by omega)
theorem la_255 (x : Int) : 0 ≤ la x 255 ∧ la x 255 ≤ 255 := by
  unfold la
  have h1 : (Int64.ofInt x &&& Int64.ofInt 255).toBitVec.toNat ≤ 255 := by
    rw [Int64.toBitVec_and, BitVec.toNat_and]
    exact Nat.le_trans Nat.and_le_right (by decide)
  have h2 : (Int64.ofInt x &&& Int64.ofInt 255).toInt = ((Int64.ofInt x &&& Int64.ofInt 255).toBitVec.toNat : Int) := by
    show (Int64.ofInt x &&& Int64.ofInt 255).toBitVec.toInt = _
    exact BitVec.toInt_eq_toNat_of_lt (by omega)
  rw [h2]; omega
/-- m bytes more from t on -/
def fdT (g : Nat → Int) (t m : Nat) (T : Nat → Int) : Nat → Int := fun j => if t ≤ j ∧ j < t + m then g (m - 1 - (j - t)) else T j
theorem op_feed (hI : INV h) {x y : Int} (hx : can x) : p7_feed x y h (fun r1 h1 => p8_feed x y h1 (fun r2 h2 => OK2 r1 r2 h2)) := by
  have hx1 := hx.1; have hx2 := hx.2
  obtain ⟨t1, t2, t3, t4, t5⟩ := hI.2.2.2.2.1
  have mk : ∀ {P : Int → HP → Prop} {h1 : HP}, (¬ (1 ≤ x ∧ x ≤ 8) → P (-1000000002) h1) → ((1 ≤ x ∧ x ≤ 8) → brc (w32 ((h1 69 16) + x) ≤ w32 400) (p8_feed_L35 y P FUEL h1 (x - 1)) (P (-1000000004) h1)) → p8_feed x y h1 P := by
    intro P h1 g1 g2
    unfold p8_feed
    rw [w_id hx.1 hx.2]
    exact in_i ⟨by omega, by omega⟩ ⟨by omega, by omega⟩ ⟨by omega, by omega⟩ (fun a b => brN (by decide) (g2 ⟨a, b⟩)) (fun a => brY (by decide) (g1 a))
  unfold p7_feed
  refine brQ (wlt hx ⟨by omega, by omega⟩) (fun z => mk (fun _ => ⟨rfl, hI⟩) (fun q => by omega)) (fun z => ?_)
  refine brQ (wle hx ⟨by omega, by omega⟩) (fun w => ?_) (fun w => mk (fun _ => ⟨rfl, hI⟩) (fun q => by omega))
  obtain ⟨n, rfl⟩ := Int.eq_ofNat_of_zero_le (show 0 ≤ x by omega)
  refine brQ (wle ⟨by omega, by omega⟩ ⟨by omega, by omega⟩) (fun v => ?_) (fun v => mk (fun q => by omega) (fun _ => brN (fun u => by have := (wle ⟨by omega, by omega⟩ ⟨by omega, by omega⟩).mp u; omega) ⟨rfl, hI⟩))
  have LC : ∀ (Q : Int → HP → Prop) (m f t : Nat) (h : HP), m < f → h 0 1 = t → t + m ≤ 400 → m ≤ 8 → (∀ h', h' 0 1 = ((t + m : Nat) : Int) → (∀ c, 1 < c → h' c = h c) → (∀ j, j ≠ 1 → h' 0 j = h 0 j) → (h' 1 = fdT (fun i => la (lr y (8 * i)) 255) t m (h 1)) → Q (h' 0 1) h') → p7_feed_L34 y Q f h ((m : Int) - 1) := by
    intro Q m
    induction m with
    | zero =>
      intro f t h hf ht hm h8 hq
      obtain ⟨f, rfl⟩ : ∃ n', f = n' + 1 := ⟨f - 1, by omega⟩
      unfold p7_feed_L34
      refine brY ((wlt0 ⟨by omega, by omega⟩).mpr (by omega)) ?_
      refine hq h (by rw [ht]; rfl) (fun _ _ => rfl) (fun _ _ => rfl) ?_
      funext j
      unfold fdT
      rw [if_neg (by omega)]
    | succ m ih =>
      intro f t h hf ht hm h8 hq
      obtain ⟨f, rfl⟩ : ∃ n', f = n' + 1 := ⟨f - 1, by omega⟩
      unfold p7_feed_L34
      refine brN (fun z => by have := (wlt0 ⟨by omega, by omega⟩).mp z; omega) ?_
      have hl := la_255 (lr y (8 * (m : Int)))
      rw [ht, show ((m + 1 : Nat) : Int) - 1 = (m : Int) from by omega]
      refine wr_n (by omega) (by decide) (pf_i ?_)
      rw [show (m : Int) + (-1) = (m : Int) - 1 from by omega]
      have e1 : ch (ch (la (lr y (8 * (m : Int))) 255)) = la (lr y (8 * (m : Int))) 255 := by
        unfold ch
        generalize la (lr y (8 * (m : Int))) 255 = v at hl
        rw [w_id (x := v) (by omega) (by omega), w_id (by omega) (by omega)]
        omega
      rw [e1]
      refine ih f (t + 1) _ (by omega) (by rw [hset_rs, hset_c (by decide), ht]; omega) (by omega) (by omega) (fun h' i1 i2 i3 i4 => ?_)
      refine hq h' (by rw [i1]; omega) (fun c hc => by rw [i2 c hc, hset_c (by omega), hset_c (by omega)]) (fun j hj => by rw [i3 j hj, hset_rn hj, hset_c (by decide)]) ?_
      rw [i4, hset_c (by decide)]
      funext j
      unfold fdT
      by_cases c1 : t + 1 ≤ j ∧ j < t + 1 + m
      · rw [if_pos c1, if_pos (by omega), show m - 1 - (j - (t + 1)) = m + 1 - 1 - (j - t) from by omega]
      · rw [if_neg c1]
        by_cases c2 : j = t
        · subst c2; rw [if_pos (by omega), hset_rs, show m + 1 - 1 - (j - j) = m from by omega]
        · rw [if_neg (by omega), hset_rn c2]
  have LM : ∀ (Q : Int → HP → Prop) (m f t : Nat) (h : HP), m < f → h 69 16 = t → t + m ≤ 400 → m ≤ 8 → (∀ h', h' 69 16 = ((t + m : Nat) : Int) → (∀ c, c ≠ 69 → c ≠ 79 → h' c = h c) → (∀ j, j ≠ 16 → h' 69 j = h 69 j) → (h' 79 = fdT (fun i => la (lr y (8 * i)) 255) t m (h 79)) → Q (h' 69 16) h') → p8_feed_L35 y Q f h ((m : Int) - 1) := by
    intro Q m
    induction m with
    | zero =>
      intro f t h hf ht hm h8 hq
      obtain ⟨f, rfl⟩ : ∃ n', f = n' + 1 := ⟨f - 1, by omega⟩
      unfold p8_feed_L35
      refine brY ((wlt0 ⟨by omega, by omega⟩).mpr (by omega)) ?_
      refine hq h (by rw [ht]; rfl) (fun _ _ _ => rfl) (fun _ _ => rfl) ?_
      funext j
      unfold fdT
      rw [if_neg (by omega)]
    | succ m ih =>
      intro f t h hf ht hm h8 hq
      obtain ⟨f, rfl⟩ : ∃ n', f = n' + 1 := ⟨f - 1, by omega⟩
      unfold p8_feed_L35
      refine brN (fun z => by have := (wlt0 ⟨by omega, by omega⟩).mp z; omega) ?_
      rw [ht, show ((m + 1 : Nat) : Int) - 1 = (m : Int) from by omega]
      refine wr_n (by omega) (by decide) (pf_i ?_)
      rw [show (m : Int) + (-1) = (m : Int) - 1 from by omega]
      refine ih f (t + 1) _ (by omega) (by rw [hset_rs, hset_c (by decide), ht]; omega) (by omega) (by omega) (fun h' i1 i2 i3 i4 => ?_)
      refine hq h' (by rw [i1]; omega) (fun c hc hc2 => by rw [i2 c hc hc2, hset_c (by omega), hset_c (by omega)]) (fun j hj => by rw [i3 j hj, hset_rn hj, hset_c (by decide)]) ?_
      rw [i4, hset_c (by decide)]
      funext j
      unfold fdT
      by_cases c1 : t + 1 ≤ j ∧ j < t + 1 + m
      · rw [if_pos c1, if_pos (by omega), show m - 1 - (j - (t + 1)) = m + 1 - 1 - (j - t) from by omega]
      · rw [if_neg c1]
        by_cases c2 : j = t
        · subst c2; rw [if_pos (by omega), hset_rs, show m + 1 - 1 - (j - j) = m from by omega]
        · rw [if_neg (by omega), hset_rn c2]
  obtain ⟨t, ht⟩ := Int.eq_ofNat_of_zero_le (show 0 ≤ h 0 1 by omega)
  refine LC _ n FUEL t h (by unfold FUEL; omega) ht (by omega) (by omega) (fun h1 i1 i2 i3 i4 => ?_)
  refine mk (fun q => by omega) (fun _ => ?_)
  have f69 : h1 69 = h 69 := i2 69 (by decide)
  refine brY ((wle ⟨by rw [f69]; omega, by rw [f69]; omega⟩ ⟨by omega, by omega⟩).mpr (by rw [f69]; omega)) ?_
  refine LM _ n FUEL t h1 (by unfold FUEL; omega) (by rw [f69]; omega) (by omega) (by omega) (fun h2 j1 j2 j3 j4 => ?_)
  have g : ∀ c, 1 < c → c ≠ 69 → c ≠ 79 → h2 c = h c := fun c a b d => by rw [j2 c b d, i2 c a]
  have gf : ∀ j, j ≠ 16 → h2 69 j = h 69 j := fun j hj => by rw [j3 j hj, f69]
  obtain ⟨a', b', c'⟩ := CORE.i (h := h) (h' := h2) ⟨fun c hc => g c (by omega) (by omega) (by omega), fun j hj => gf j (by omega)⟩ hI
  refine ⟨by rw [i1, j1], a', b', c', STAT_eq (fun c hc => g c (by omega) (by omega) (by omega)) (fun j hj => gf j (by omega)) hI.2.2.2.1, ?_, BOOK_eq (fun c hc => g c (by omega) (by omega) (by omega)) (fun j hj => gf j (by omega)) hI.2.2.2.2.2.1, IMG_eq (fun c hc => g c (by omega) (by omega) (by omega)) (fun j _ => by rw [g 95 (by decide) (by decide) (by decide)]) hI.2.2.2.2.2.2⟩
  have k0 : h2 0 = h1 0 := j2 0 (by decide) (by decide)
  have k1 : h2 1 = h1 1 := j2 1 (by decide) (by decide)
  unfold TXT
  rw [k0, k1, i1, j1, i4, j4, i2 79 (by decide), i3 2 (by decide), gf 17 (by decide)]
  refine ⟨rfl, by omega, by omega, fun j hj => ?_, t5⟩
  unfold fdT
  by_cases c1 : t ≤ j ∧ j < t + n
  · rw [if_pos c1, if_pos c1]
    exact ⟨rfl, la_255 _⟩
  · rw [if_neg c1, if_neg c1]
    exact t4 j (by omega)
end OP3
