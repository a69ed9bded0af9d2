/-! ===== PURE: rings, the model: all codes ===== -/
def gdT (n : Nat) (t : Nat → Int) (k : Nat) : Prop := ∀ i : Nat, k ≤ i → i < n → t i ≠ i ∧ (0 ≤ t i → ∀ j, i < j → j < n → t j ≠ t i)
def rgN (n : Nat) (g : HP) (S : rgS) : Prop := 0 ≤ S.1 ∧ S.1 ≤ 1000 ∧ ∀ i, i < n → g 89 i = S.2.1 i ∧ g 88 i = S.2.2 i
section RN0
variable {n : Nat} {t : Nat → Int}
theorem dcT_bd {code i : Nat} (hi : i < n) : -1 ≤ dcT n code i ∧ dcT n code i < n := by
  unfold dcT
  rw [if_pos hi]
  have := Nat.mod_lt (code / (n + 1) ^ (n - (i + 1))) (show n + 1 > 0 by omega)
  omega
theorem go_iff (hb : ∀ i, i < n → -1 ≤ t i ∧ t i < n) {A B : Nat} (hA : ∀ b : Nat, A.testBit b = true ↔ ∃ i, 0 ≤ i ∧ i < n ∧ t i = b) (hB : ∀ b : Nat, B.testBit b = true ↔ 0 ≤ b ∧ b < n ∧ 0 ≤ t b) : goT n t ↔ gdT n t 0 ∧ A = B := by
  constructor
  · intro g
    refine ⟨fun i _ hi => ⟨(g.1 i hi).2.2, fun h0 j h1 h2 e => ?_⟩, Nat.eq_of_testBit_eq (fun b => ?_)⟩
    · have := g.2.1 i j hi h2 h0 e.symm; omega
    · have a := hA b
      have c := hB b
      cases ha : A.testBit b <;> cases hc : B.testBit b
      · rfl
      · rw [hc] at c
        obtain ⟨_, c2, c3⟩ := c.mp rfl
        obtain ⟨j, j1, j2⟩ := (g.2.2 b c2).mp c3
        rw [ha] at a
        exact absurd (a.mpr ⟨j, by omega, j1, j2⟩) (by decide)
      · rw [ha] at a
        obtain ⟨i, _, i2, i3⟩ := a.mp rfl
        have := hb i i2
        rw [hc] at c
        exact absurd (c.mpr ⟨by omega, by omega, (g.2.2 b (by omega)).mpr ⟨i, i2, i3⟩⟩) (by decide)
      · rfl
  · rintro ⟨gd, rfl⟩
    refine ⟨fun i hi => ⟨(hb i hi).1, (hb i hi).2, (gd i (by omega) hi).1⟩, fun i j hi hj h0 e => ?_, fun i hi => ⟨fun h0 => ?_, fun ⟨j, j1, j2⟩ => ?_⟩⟩
    · rcases Nat.lt_trichotomy i j with l | l | l
      · exact absurd e.symm ((gd i (by omega) hi).2 h0 j l hj)
      · exact l
      · exact absurd e ((gd j (by omega) hj).2 (by omega) i l hi)
    · obtain ⟨j, _, j1, j2⟩ := (hA i).mp ((hB i).mpr ⟨by omega, hi, h0⟩)
      exact ⟨j, j1, j2⟩
    · exact ((hB i).mp ((hA i).mpr ⟨j, by omega, j1, j2⟩)).2.2
end RN0
section RN1
variable {h : HP} {n N : Nat}
theorem M_areRings {Q : Int → HP → Prop} {g : HP} {code : Nat} (hI : INV h) (f : SCR h g) (hn : h 2 1 = n) (hN : h 13 1 = N) (hc : code < 10000) (hy : ∀ g' : HP, (∀ c, c ≠ 86 → g' c = g c) → (∀ i, i < n → g' 86 i = dcT n code i) → goT n (dcT n code) → Q 1 g') (hno : ∀ g' : HP, (∀ c, c ≠ 86 → g' c = g c) → (∀ i, i < n → g' 86 i = dcT n code i) → ¬ goT n (dcT n code) → Q 0 g') : p8_areRings code g Q := by
  obtain ⟨m1, m2, m3, m4, m5, m6⟩ := rgm hI f hn hN
  have tb : ∀ i, i < n → -1 ≤ dcT n code i ∧ dcT n code i < n := fun i hi => dcT_bd hi
  have td : ∀ k, k < n → dcT n code k = ((code / (n + 1) ^ (n - (k + 1)) % (n + 1) : Nat) : Int) - 1 := fun k hk => by unfold dcT; exact if_pos hk
  generalize ht : dcT n code = t at *
  have L : ∀ (k fu A B : Nat) (gd z : Int) (g1 : HP), k < fu → k ≤ n → z = (k : Int) - 1 → (∀ c, c ≠ 86 → g1 c = g c) → (∀ i, k ≤ i → i < n → g1 86 i = t i) → A < 32 → B < 32 → (∀ b : Nat, A.testBit b = true ↔ ∃ i, k ≤ i ∧ i < n ∧ t i = b) → (∀ b : Nat, B.testBit b = true ↔ k ≤ b ∧ b < n ∧ 0 ≤ t b) → (gd = 1 ∧ gdT n t k ∨ gd = 0 ∧ ¬ gdT n t k) → p8_areRings_L18 (fun (h27 : HP) (y28 : Int) (y29 : Int) (y30 : Int) => brc (w32 y30 = 0) (Q 0 h27) (brc (w32 y28 = w32 y29) (Q 1 h27) (Q 0 h27))) fu g1 ((code / (n + 1) ^ (n - k) : Nat) : Int) A B gd z := by
    intro k
    induction k with
    | zero =>
      intro fu A B gd z g1 hfu hk hz f1 f2 a1 b1 hA hB hg
      obtain ⟨fu, rfl⟩ : ∃ n', fu = n' + 1 := ⟨fu - 1, by omega⟩
      subst hz
      unfold p8_areRings_L18
      refine brY (by decide) ?_
      have gi := go_iff tb hA hB
      have f2' : ∀ i, i < n → g1 86 i = t i := fun i hi => f2 i (by omega) hi
      rcases hg with ⟨rfl, q⟩ | ⟨rfl, q⟩
      · refine brN (by decide) (brQ (weq ⟨by omega, by omega⟩ ⟨by omega, by omega⟩) (fun e => hy g1 f1 f2' (gi.mpr ⟨q, by omega⟩)) (fun e => hno g1 f1 f2' (fun w => e (by rw [(gi.mp w).2]))))
      · exact brY (by decide) (hno g1 f1 f2' (fun w => q (gi.mp w).1))
    | succ k ih =>
      intro fu A B gd z g1 hfu hk hz f1 f2 a1 b1 hA hB hg
      obtain ⟨fu, rfl⟩ : ∃ n', fu = n' + 1 := ⟨fu - 1, by omega⟩
      obtain rfl : z = (k : Int) := by omega
      have tk := tb k (by omega)
      have ll : code / (n + 1) ^ (n - (k + 1)) < 10000 := Nat.lt_of_le_of_lt (Nat.div_le_self _ _) hc
      have ed : code / (n + 1) ^ (n - (k + 1)) / (n + 1) = code / (n + 1) ^ (n - k) := by
        rw [Nat.div_div_eq_div_mul, ← Nat.pow_succ, show (n - (k + 1)).succ = n - k from by omega]
      unfold p8_areRings_L18
      refine brN (fun z => by have := (wlt0 ⟨by omega, by omega⟩).mp z; omega) ?_
      have e69 : g1 69 1 = n := by rw [f1 69 (by decide)]; exact m2
      have ne0 : w32 ((n : Int) + 1) ≠ 0 := by rw [w_id (by omega) (by omega)]; omega
      rw [e69]
      refine ⟨ne0, wr_n (by omega) (by decide) ?_⟩
      rw [show ((n : Int) + 1) = ((n + 1 : Nat) : Int) from rfl, qm_nn _ _ (by omega) (by omega), ← td k (by omega)]
      generalize hg2 : hset g1 86 k (t k) = g2
      have k86 : g2 86 k = t k := by rw [← hg2, hset_rs]
      have k1 : ∀ c, c ≠ 86 → g2 c = g c := fun c hc => by rw [← hg2, hset_c hc]; exact f1 c hc
      have k2 : ∀ i, k ≤ i → i < n → g2 86 i = t i := fun i h1 h2 => by
        by_cases d : i = k
        · subst d; exact k86
        · rw [← hg2, hset_rn d]; exact f2 i (by omega) h2
      clear hg2
      have k69 : g2 69 1 = n := by rw [k1 69 (by decide)]; exact m2
      rw [k69]
      refine ⟨ne0, jn_r (fun K => ∀ y : Int, (y = 1 ∧ gdT n t k ∨ y = 0 ∧ ¬ gdT n t k) → K y) (fun K hK => jn_i ?_) (fun y hy' => ?_)⟩
      · have down : gdT n t k → gdT n t (k + 1) := fun q i h1 h2 => q i (by omega) h2
        rcases hg with ⟨rfl, q⟩ | ⟨rfl, q⟩
        · refine brN (by decide) (rd_n (by omega) (by decide) ?_)
          rw [k86]
          refine brQ (weq ⟨by omega, by omega⟩ ⟨by omega, by omega⟩) (fun e => hK 0 (Or.inr ⟨rfl, fun w => (w k (by omega) (by omega)).1 e⟩)) (fun e => rd_n (by omega) (by decide) ?_)
          rw [k86]
          have up : (0 ≤ t k → ∀ j, k < j → j < n → t j ≠ t k) → gdT n t k := fun w i h1 h2 => by
            by_cases d : i = k
            · subst d; exact ⟨e, w⟩
            · exact q i (by omega) h2
          refine jn_i (brQ (wlt0 ⟨by omega, by omega⟩) (fun c => hK 1 (Or.inl ⟨rfl, up (fun c2 => by omega)⟩)) (fun c => rd_n (by omega) (by decide) ?_))
          rw [k86]
          obtain ⟨b, hb⟩ := Int.eq_ofNat_of_zero_le (show 0 ≤ t k by omega)
          rw [hb]
          refine M_has (by omega) (by omega) (fun w => brN (by decide) (hK 0 (Or.inr ⟨rfl, fun y => ?_⟩))) (fun w => brY (by decide) (hK 1 (Or.inl ⟨rfl, up (fun _ j h1 h2 e2 => ?_)⟩)))
          · obtain ⟨j, j1, j2, j3⟩ := (hA b).mp w
            exact (y k (by omega) (by omega)).2 (by omega) j (by omega) j2 (by rw [j3, hb])
          · have := (hA b).mpr ⟨j, by omega, h2, by rw [e2, hb]⟩
            rw [w] at this
            cases this
        · exact brY (by decide) (hK 0 (Or.inr ⟨rfl, fun w => q (down w)⟩))
      · refine rd_n (by omega) (by decide) ?_
        rw [k86]
        by_cases c : 0 ≤ t k
        · obtain ⟨b, hb⟩ := Int.eq_ofNat_of_zero_le c
          refine jn_i (brY ((w0le ⟨by omega, by omega⟩).mpr c) (rd_n (by omega) (by decide) (rd_n (by omega) (by decide) ?_)))
          rw [k86]
          refine brY ((w0le ⟨by omega, by omega⟩).mpr c) ?_
          rw [hb, sl_n b (by omega), sl_n k (by omega), io_n _ _ (by omega) (two_le (by omega)), io_n _ _ (by omega) (two_le (by omega)), show ((n : Int) + 1) = ((n + 1 : Nat) : Int) from rfl, qd_nn _ _ (by omega) (by omega), ed]
          refine ih fu (A ||| 2 ^ b) (B ||| 2 ^ k) y ((k : Int) + (-1)) g2 (by omega) (by omega) (by omega) k1 k2 (Nat.or_lt_two_pow (n := 5) a1 (Nat.pow_lt_pow_right (by decide) (by omega))) (Nat.or_lt_two_pow (n := 5) b1 (Nat.pow_lt_pow_right (by decide) (by omega))) (fun b' => ?_) (fun b' => ?_) hy'
          · rw [Nat.testBit_or, Bool.or_eq_true, hA b', Nat.testBit_two_pow]
            constructor
            · rintro (⟨i, i1, i2, i3⟩ | e)
              · exact ⟨i, by omega, i2, i3⟩
              · have e' : b = b' := by simpa using e
                exact ⟨k, by omega, by omega, by rw [hb, e']⟩
            · rintro ⟨i, i1, i2, i3⟩
              by_cases d : i = k
              · subst d; right; rw [hb] at i3; simp; omega
              · exact Or.inl ⟨i, by omega, i2, i3⟩
          · rw [Nat.testBit_or, Bool.or_eq_true, hB b', Nat.testBit_two_pow]
            constructor
            · rintro (⟨i1, i2, i3⟩ | e)
              · exact ⟨by omega, i2, i3⟩
              · have e' : k = b' := by simpa using e
                subst e'
                exact ⟨by omega, by omega, c⟩
            · rintro ⟨i1, i2, i3⟩
              by_cases d : b' = k
              · right; simp; omega
              · exact Or.inl ⟨by omega, i2, i3⟩
        · refine jn_i (brN (fun z => c ((w0le ⟨by omega, by omega⟩).mp z)) (rd_n (by omega) (by decide) ?_))
          rw [k86]
          refine brN (fun z => c ((w0le ⟨by omega, by omega⟩).mp z)) ?_
          have ioz : ∀ a : Nat, a < 32 → io (a : Int) 0 = a := fun a ha => by
            have e := io_n a 0 (by omega) (by omega)
            rw [Nat.or_zero] at e; exact e
          rw [ioz A a1, ioz B b1, show ((n : Int) + 1) = ((n + 1 : Nat) : Int) from rfl, qd_nn _ _ (by omega) (by omega), ed]
          refine ih fu A B y ((k : Int) + (-1)) g2 (by omega) (by omega) (by omega) k1 k2 a1 b1 (fun b' => ?_) (fun b' => ?_) hy'
          · rw [hA b']
            constructor
            · rintro ⟨i, i1, i2, i3⟩; exact ⟨i, by omega, i2, i3⟩
            · rintro ⟨i, i1, i2, i3⟩
              by_cases d : i = k
              · subst d; omega
              · exact ⟨i, by omega, i2, i3⟩
          · rw [hB b']
            constructor
            · rintro ⟨i1, i2, i3⟩; exact ⟨by omega, i2, i3⟩
            · rintro ⟨i1, i2, i3⟩
              by_cases d : b' = k
              · subst d; omega
              · exact ⟨by omega, i2, i3⟩
  unfold p8_areRings
  rw [m2]
  have := L n FUEL 0 0 1 ((n : Int) - 1) g (by unfold FUEL; omega) (by omega) rfl (fun _ _ => rfl) (fun i h1 h2 => by omega) (by decide) (by decide) (fun b => ⟨fun z => by simp at z, fun ⟨i, i1, i2, _⟩ => by omega⟩) (fun b => ⟨fun z => by simp at z, fun ⟨i1, i2, _⟩ => by omega⟩) (Or.inl ⟨rfl, fun i h1 h2 => by omega⟩)
  rw [Nat.sub_self, Nat.pow_zero, Nat.div_one] at this
  exact this
theorem sm_bd (hI : INV h) (hn : h 2 1 = n) (hN : h 13 1 = N) {t th : Nat → Int} (hg : goT n t) (hv : vaT (VC 13 h) N t n th) : 0 ≤ smT (VC 13 h) (h 6) n t th ∧ smT (VC 13 h) (h 6) n t th ≤ 500 := by
  obtain ⟨m1, m2, m3, m4, m5, m6⟩ := rgm hI SCR.rf hn hN
  by_cases c : okT (VC 13 h) (h 6) n t th
  · unfold smT
    rw [itc_y c]
    have := fs_bd (f := fun i => if 0 ≤ t i then byT (VC 13 h) (h 6) t th i else 0) (a := 0) (b := 99) n 0 (fun i _ hi => by
      by_cases d : 0 ≤ t i
      · rw [if_pos d]
        obtain ⟨g1, g2, g3⟩ := hg.gv (show i < n by omega) d
        have c1 := c i (by omega) d
        have c2 := c _ g1 g3
        rcases hv.1 i (by omega) d with r | ⟨p, p1, p2, p3⟩
        · omega
        · rcases hv.1 _ g1 g3 with r | ⟨q, q1, q2, q3⟩
          · omega
          · have bd := rg_bd hI hn hN (show i < n by omega) p1 q1
            have eb : byT (VC 13 h) (h 6) t th i = bV (VC 13 h) (h 6) i p q := by unfold byT; rw [p2, q2]; rfl
            omega
      · rw [if_neg d]; omega)
    omega
  · rw [sm_no c]; omega
theorem M_fr153 {E : HP → Prop} {g : HP} {t th : Nat → Int} {a b c d e : Int} (hI : INV h) (f : SCR h g) (hn : h 2 1 = n) (hN : h 13 1 = N) (ht : ∀ i, i < n → g 86 i = t i ∧ -1 ≤ t i ∧ t i < n) (hth : ∀ i, i < n → g 87 i = th i) (hE : ∀ g' : HP, (∀ c, c ≠ 88 → c ≠ 89 → g' c = g c) → (∀ i, i < n → g' 89 i = th i ∧ g' 88 i = if 0 ≤ t i then th (t i).toNat else -1) → E g') : p8_findRings_L153 a b c d e E FUEL g 0 := by
  obtain ⟨m1, m2, m3, m4, m5, m6⟩ := rgm hI f hn hN
  have L : ∀ (m fu x : Nat) (g1 : HP), m < fu → x + m = n → (∀ c, c ≠ 88 → c ≠ 89 → g1 c = g c) → (∀ i, i < x → g1 89 i = th i ∧ g1 88 i = if 0 ≤ t i then th (t i).toNat else -1) → p8_findRings_L153 a b c d e E fu g1 x := by
    intro m
    induction m with
    | zero =>
      intro fu x g1 hfu hx f1 f2
      obtain ⟨fu, rfl⟩ : ∃ n', fu = n' + 1 := ⟨fu - 1, by omega⟩
      obtain rfl : x = n := by omega
      unfold p8_findRings_L153
      rw [f1 69 (by decide) (by decide), m2]
      exact brY (Int.le_refl _) (hE g1 f1 f2)
    | succ m ih =>
      intro fu x g1 hfu hx f1 f2
      obtain ⟨fu, rfl⟩ : ∃ n', fu = n' + 1 := ⟨fu - 1, by omega⟩
      obtain ⟨t1, t2, t3⟩ := ht x (by omega)
      unfold p8_findRings_L153
      rw [f1 69 (by decide) (by decide), m2]
      refine brN (fun z => by have := (wle ⟨by omega, by omega⟩ ⟨by omega, by omega⟩).mp z; omega) ?_
      refine rd_n (by omega) (by decide) ?_
      rw [f1 86 (by decide) (by decide), t1]
      refine jn_r (fun K => K (if 0 ≤ t x then th (t x).toNat else -1)) (fun K hK => ?_) ?_
      · refine brQ (w0le ⟨by omega, by omega⟩) (fun z => rd_n (by omega) (by decide) ?_) (fun z => ?_)
        · rw [f1 86 (by decide) (by decide), t1]
          refine rd_i z (by omega) (by decide) ?_
          rw [f1 87 (by decide) (by decide), hth _ (by omega)]
          rw [if_pos z] at hK
          exact hK
        · rw [if_neg z] at hK
          exact hK
      · refine wr_n (by omega) (by decide) (rd_n (by omega) (by decide) ?_)
        rw [hset_c (show (87 : Nat) ≠ 88 by decide), f1 87 (by decide) (by decide), hth x (by omega)]
        refine wr_n (by omega) (by decide) ?_
        refine ih fu (x + 1) _ (by omega) (by omega) (fun c h1 h2 => by rw [hset_c h2, hset_c h1]; exact f1 c h1 h2) (fun i hi => ?_)
        rw [hset_c (show (88 : Nat) ≠ 89 by decide)]
        by_cases q : i = x
        · subst q; rw [hset_rs, hset_rs]; exact ⟨rfl, rfl⟩
        · rw [hset_rn q, hset_rn q, hset_c (by decide)]; exact f2 i (by omega)
  exact L n FUEL 0 g (by unfold FUEL; omega) (by omega) (fun _ _ _ => rfl) (fun i hi => by omega)
theorem M_fr115 {E : HP → Int → Prop} {t : Nat → Int} {a b : Int} {ways : Nat} (hI : INV h) (hn : h 2 1 = n) (hN : h 13 1 = N) (hg : goT n t) (hw : ways ≤ 1024) : ∀ (m fu way : Nat) (S : rgS) (g : HP), m < fu → way + m = ways → SCR h g → (∀ i, i < n → g 86 i = t i) → rgN n g S → (∀ g' : HP, SCR h g' → rgN n g' (fr (fun way S => upT (smT (VC 13 h) (h 6) n t (dcW (VC 13 h) N n t way)) t (dcW (VC 13 h) N n t way) S) way m S) → E g' (fr (fun way S => upT (smT (VC 13 h) (h 6) n t (dcW (VC 13 h) N n t way)) t (dcW (VC 13 h) N n t way) S) way m S).1) → p8_findRings_L115 a b ways E fu g S.1 way := by
  intro m
  induction m with
  | zero =>
    intro fu way S g hfu hx f1 f2 f3 hE
    obtain ⟨fu, rfl⟩ : ∃ n', fu = n' + 1 := ⟨fu - 1, by omega⟩
    unfold p8_findRings_L115
    exact brY ((wle ⟨by omega, by omega⟩ ⟨by omega, by omega⟩).mpr (by omega)) (hE g f1 f3)
  | succ m ih =>
    intro fu way S g hfu hx f1 f2 f3 hE
    obtain ⟨fu, rfl⟩ : ∃ n', fu = n' + 1 := ⟨fu - 1, by omega⟩
    obtain ⟨m1, m2, m3, m4, m5, m6⟩ := rgm hI f1 hn hN
    have hE' : ∀ g' : HP, SCR h g' → rgN n g' (fr (fun way S => upT (smT (VC 13 h) (h 6) n t (dcW (VC 13 h) N n t way)) t (dcW (VC 13 h) N n t way) S) (way + 1) m (upT (smT (VC 13 h) (h 6) n t (dcW (VC 13 h) N n t way)) t (dcW (VC 13 h) N n t way) S)) → E g' (fr (fun way S => upT (smT (VC 13 h) (h 6) n t (dcW (VC 13 h) N n t way)) t (dcW (VC 13 h) N n t way) S) (way + 1) m (upT (smT (VC 13 h) (h 6) n t (dcW (VC 13 h) N n t way)) t (dcW (VC 13 h) N n t way) S)).1 := hE
    have hv : vaT (VC 13 h) N t n (dcW (VC 13 h) N n t way) := dc_va way
    have sb := sm_bd hI hn hN hg hv
    generalize hth : dcW (VC 13 h) N n t way = th at *
    obtain ⟨s1, s2, s3⟩ := f3
    unfold p8_findRings_L115
    refine brN (fun z => by have := (wle ⟨by omega, by omega⟩ ⟨by omega, by omega⟩).mp z; omega) ?_
    have main : ∀ g' : HP, (∀ c, c ≠ 87 → g' c = g c) → (∀ i, i < n → g' 87 i = th i) → brc (w32 (smT (VC 13 h) (h 6) n t th) ≤ w32 S.1) (p8_findRings_L115 a b ways E fu g' S.1 ((way : Int) + 1)) (p8_findRings_L153 (smT (VC 13 h) (h 6) n t th) a b ways way (fun (h26 : HP) => p8_findRings_L115 a b ways E fu h26 (smT (VC 13 h) (h 6) n t th) ((way : Int) + 1)) FUEL g' 0) := fun g' e1 e2 => by
      have F2 : SCR h g' := ⟨fun c hc => by rw [e1 c (by omega)]; exact f1.1 c hc, fun j hj => by rw [e1 95 (by decide)]; exact f1.2.1 j hj, fun j hj => by rw [e1 69 (by decide)]; exact f1.2.2 j hj⟩
      have T2 : ∀ i, i < n → g' 86 i = t i := fun i hi => by rw [e1 86 (by decide)]; exact f2 i hi
      refine brQ (wle ⟨by omega, by omega⟩ ⟨by omega, by omega⟩) (fun z => ?_) (fun z => ?_)
      · rw [upT_id z] at hE'
        exact ih fu (way + 1) S g' (by omega) (by omega) F2 T2 ⟨s1, s2, fun i hi => by rw [e1 89 (by decide), e1 88 (by decide)]; exact s3 i hi⟩ hE'
      · have eu : upT (smT (VC 13 h) (h 6) n t th) t th S = (smT (VC 13 h) (h 6) n t th, th, fun i => if 0 ≤ t i then th (t i).toNat else -1) := by unfold upT; rw [if_pos (by omega)]
        rw [eu] at hE'
        refine M_fr153 hI F2 hn hN (fun i hi => ⟨T2 i hi, (hg.1 i hi).1, (hg.1 i hi).2.1⟩) e2 (fun g2 k1 k2 => ?_)
        refine ih fu (way + 1) (smT (VC 13 h) (h 6) n t th, th, fun i => if 0 ≤ t i then th (t i).toNat else -1) g2 (by omega) (by omega) ?_ (fun i hi => by rw [k1 86 (by decide) (by decide)]; exact T2 i hi) ⟨by show 0 ≤ smT _ _ _ _ _; omega, by show smT _ _ _ _ _ ≤ 1000; omega, k2⟩ hE'
        exact ⟨fun c hc => by rw [k1 c (by omega) (by omega)]; exact F2.1 c hc, fun j hj => by rw [k1 95 (by decide) (by decide)]; exact F2.2.1 j hj, fun j hj => by rw [k1 69 (by decide) (by decide)]; exact F2.2.2 j hj⟩
    refine M_areThrown (t := t) hI f1 hn hN (fun i hi => ⟨f2 i hi, (hg.1 i hi).1, (hg.1 i hi).2.1⟩) (by omega) (fun g' e1 e2 e3 => ?_) (fun g' e1 e2 e3 => ?_)
    · rw [hth] at e2 e3
      have F2 : SCR h g' := ⟨fun c hc => by rw [e1 c (by omega)]; exact f1.1 c hc, fun j hj => by rw [e1 95 (by decide)]; exact f1.2.1 j hj, fun j hj => by rw [e1 69 (by decide)]; exact f1.2.2 j hj⟩
      refine jn_i (brN (by decide) (M_ringsSum (t := t) (th := th) hI F2 hn hN hg (fun i hi => by rw [e1 86 (by decide)]; exact f2 i hi) e2 (fun i hi h0 => ?_) (main g' e1 e2)))
      rcases hv.1 i hi h0 with r | r
      · have := e3 i hi h0; omega
      · exact r
    · rw [hth] at e2 e3
      have e0 : smT (VC 13 h) (h 6) n t th = 0 := sm_no (fun z => e3 (fun i hi h0 => (z i hi h0).1))
      have mm := main g' e1 e2
      rw [e0] at mm
      exact jn_i (brY (by decide) mm)
theorem M_fr77 {E : Int → Prop} {g : HP} {t : Nat → Int} {a b c : Int} (hI : INV h) (f : SCR h g) (hn : h 2 1 = n) (hN : h 13 1 = N) (ht : ∀ i, i < n → g 86 i = t i ∧ -1 ≤ t i ∧ t i < n) : ∀ (m fu x v : Nat), m < fu → x + m = n → E ((v * 4 ^ ct t x m : Nat) : Int) → p8_findRings_L77 a b c g E fu v x := by
  obtain ⟨m1, m2, m3, m4, m5, m6⟩ := rgm hI f hn hN
  intro m
  induction m with
  | zero =>
    intro fu x v hfu hx hE
    obtain ⟨fu, rfl⟩ : ∃ n', fu = n' + 1 := ⟨fu - 1, by omega⟩
    obtain rfl : x = n := by omega
    unfold p8_findRings_L77
    rw [m2]
    rw [show ct t x 0 = 0 from rfl, Nat.pow_zero, Nat.mul_one] at hE
    exact brY (Int.le_refl _) hE
  | succ m ih =>
    intro fu x v hfu hx hE
    obtain ⟨fu, rfl⟩ : ∃ n', fu = n' + 1 := ⟨fu - 1, by omega⟩
    obtain ⟨t1, t2, t3⟩ := ht x (by omega)
    unfold p8_findRings_L77
    rw [m2]
    refine brN (fun z => by have := (wle ⟨by omega, by omega⟩ ⟨by omega, by omega⟩).mp z; omega) ?_
    refine rd_n (by omega) (by decide) ?_
    rw [t1]
    refine brQ (w0le ⟨by omega, by omega⟩) (fun z => ?_) (fun z => ?_)
    · rw [show (v : Int) * 4 = ((v * 4 : Nat) : Int) from by omega]
      refine ih fu (x + 1) (v * 4) (by omega) (by omega) ?_
      rw [ct_y z, Nat.pow_succ, Nat.mul_comm (4 ^ ct t (x + 1) m) 4, ← Nat.mul_assoc] at hE
      exact hE
    · rw [Int.mul_one]
      refine ih fu (x + 1) v (by omega) (by omega) ?_
      rw [ct_n (by omega)] at hE
      exact hE
theorem M_findRings {Q : Int → HP → Prop} {g : HP} (hI : INV h) (f : SCR h g) (hn : h 2 1 = n) (hN : h 13 1 = N) (hq : ∀ g' : HP, SCR h g' → rgN n g' (rgAns (VC 13 h) (h 6) n N) → Q (rgAns (VC 13 h) (h 6) n N).1 g') : p8_findRings g Q := by
  obtain ⟨m1, m2, m3, m4, m5, m6⟩ := rgm hI f hn hN
  have hpow : ∀ n : Nat, n ≤ 5 → (n + 1) ^ n ≤ 7776 := by decide
  have hcod := hpow n m5
  have L0 : ∀ (E : HP → Prop), (∀ g' : HP, SCR h g' → (∀ i, i < 5 → g' 88 i = -1 ∧ g' 89 i = -1) → E g') → ∀ (m fu x : Nat) (g1 : HP), m < fu → x + m = 5 → SCR h g1 → (∀ i, i < x → g1 88 i = -1 ∧ g1 89 i = -1) → p8_findRings_L4 0 E fu g1 x := by
    intro E hE m
    induction m with
    | zero =>
      intro fu x g1 hfu hx f1 f2
      obtain ⟨fu, rfl⟩ : ∃ n', fu = n' + 1 := ⟨fu - 1, by omega⟩
      obtain rfl : x = 5 := by omega
      unfold p8_findRings_L4
      exact brY (Int.le_refl _) (hE g1 f1 f2)
    | succ m ih =>
      intro fu x g1 hfu hx f1 f2
      obtain ⟨fu, rfl⟩ : ∃ n', fu = n' + 1 := ⟨fu - 1, by omega⟩
      unfold p8_findRings_L4
      refine brN (fun z => by have := (wle ⟨by omega, by omega⟩ ⟨by omega, by omega⟩).mp z; omega) ?_
      refine wr_n (by omega) (by decide) (wr_n (by omega) (by decide) ?_)
      refine ih fu (x + 1) _ (by omega) (by omega) ((f1.set (by omega)).set (by omega)) (fun i hi => ?_)
      rw [hset_c (show (88 : Nat) ≠ 89 by decide)]
      by_cases q : i = x
      · subst q; rw [hset_rs, hset_rs]; exact ⟨rfl, rfl⟩
      · rw [hset_rn q, hset_rn q, hset_c (by decide)]; exact f2 i (by omega)
  have L1 : ∀ (E : Int → Prop) (g1 : HP), g1 69 1 = n → E (((n + 1) ^ n : Nat) : Int) → ∀ (m fu x : Nat), m < fu → x + m = n → p8_findRings_L33 0 g1 E fu (((n + 1) ^ x : Nat) : Int) x := by
    intro E g1 e69 hE m
    induction m with
    | zero =>
      intro fu x hfu hx
      obtain ⟨fu, rfl⟩ : ∃ n', fu = n' + 1 := ⟨fu - 1, by omega⟩
      obtain rfl : x = n := by omega
      unfold p8_findRings_L33
      rw [e69]
      exact brY (Int.le_refl _) hE
    | succ m ih =>
      intro fu x hfu hx
      obtain ⟨fu, rfl⟩ : ∃ n', fu = n' + 1 := ⟨fu - 1, by omega⟩
      unfold p8_findRings_L33
      rw [e69]
      refine brN (fun z => by have := (wle ⟨by omega, by omega⟩ ⟨by omega, by omega⟩).mp z; omega) ?_
      have := ih fu (x + 1) (by omega) (by omega)
      rw [Nat.pow_succ] at this
      exact this
  have L2 : ∀ (m fu code : Nat) (S : rgS) (g1 : HP), m < fu → code + m = (n + 1) ^ n → SCR h g1 → rgN n g1 S → (∀ g' : HP, SCR h g' → rgN n g' (fr (fun code S => itc (goT n (dcT n code)) (rgT (VC 13 h) (h 6) n N (dcT n code) n 0 (fun _ => -1) S) S) code m S) → Q (fr (fun code S => itc (goT n (dcT n code)) (rgT (VC 13 h) (h 6) n N (dcT n code) n 0 (fun _ => -1) S) S) code m S).1 g') → p8_findRings_L58 (((n + 1) ^ n : Nat) : Int) Q fu g1 S.1 code := by
    intro m
    induction m with
    | zero =>
      intro fu code S g1 hfu hx f1 f2 hE
      obtain ⟨fu, rfl⟩ : ∃ n', fu = n' + 1 := ⟨fu - 1, by omega⟩
      unfold p8_findRings_L58
      exact brY ((wle ⟨by omega, by omega⟩ ⟨by omega, by omega⟩).mpr (by omega)) (hE g1 f1 f2)
    | succ m ih =>
      intro fu code S g1 hfu hx f1 f2 hE
      obtain ⟨fu, rfl⟩ : ∃ n', fu = n' + 1 := ⟨fu - 1, by omega⟩
      have hE' : ∀ g' : HP, SCR h g' → rgN n g' (fr (fun code S => itc (goT n (dcT n code)) (rgT (VC 13 h) (h 6) n N (dcT n code) n 0 (fun _ => -1) S) S) (code + 1) m (itc (goT n (dcT n code)) (rgT (VC 13 h) (h 6) n N (dcT n code) n 0 (fun _ => -1) S) S)) → Q (fr (fun code S => itc (goT n (dcT n code)) (rgT (VC 13 h) (h 6) n N (dcT n code) n 0 (fun _ => -1) S) S) (code + 1) m (itc (goT n (dcT n code)) (rgT (VC 13 h) (h 6) n N (dcT n code) n 0 (fun _ => -1) S) S)).1 g' := hE
      unfold p8_findRings_L58
      refine brN (fun z => by have := (wle ⟨by omega, by omega⟩ ⟨by omega, by omega⟩).mp z; omega) ?_
      have fr2 : ∀ g' : HP, (∀ c, c ≠ 86 → g' c = g1 c) → SCR h g' ∧ rgN n g' S := fun g' e1 => ⟨⟨fun c hc => by rw [e1 c (by omega)]; exact f1.1 c hc, fun j hj => by rw [e1 95 (by decide)]; exact f1.2.1 j hj, fun j hj => by rw [e1 69 (by decide)]; exact f1.2.2 j hj⟩, f2.1, f2.2.1, fun i hi => by rw [e1 89 (by decide), e1 88 (by decide)]; exact f2.2.2 i hi⟩
      refine M_areRings hI f1 hn hN (by omega) (fun g' e1 e2 e3 => brN (by decide) ?_) (fun g' e1 e2 e3 => brY (by decide) ?_)
      · obtain ⟨F2, N2⟩ := fr2 g' e1
        have cl : ct (dcT n code) 0 n ≤ 5 := Nat.le_trans (ct_le n 0) m5
        have wl : 4 ^ ct (dcT n code) 0 n ≤ 1024 := Nat.pow_le_pow_right (show 4 > 0 by decide) cl
        rw [itc_y e3] at hE'
        refine M_fr77 hI F2 hn hN (fun i hi => ⟨e2 i hi, (e3.1 i hi).1, (e3.1 i hi).2.1⟩) n FUEL 0 1 (by unfold FUEL; omega) (by omega) ?_
        rw [Nat.one_mul]
        have bl := blkT (V := VC 13 h) (W := h 6) (n := n) (N := N) (t := dcT n code) n 0 0 (fun _ => -1) S (by omega) (fun _ _ => rfl) (fun _ _ i hi => by omega)
        rw [Nat.zero_mul] at bl
        refine M_fr115 hI hn hN e3 wl (4 ^ ct (dcT n code) 0 n) FUEL 0 S g' (by unfold FUEL; omega) (by omega) F2 e2 N2 (fun g2 k1 k2 => ?_)
        rw [bl] at k2 ⊢
        exact ih fu (code + 1) _ g2 (by omega) (by omega) k1 k2 hE'
      · obtain ⟨F2, N2⟩ := fr2 g' e1
        rw [itc_n e3] at hE'
        exact ih fu (code + 1) S g' (by omega) (by omega) F2 N2 hE'
  unfold p8_findRings
  refine L0 _ (fun g1 f1 f2 => ?_) 5 FUEL 0 g (by decide) (by decide) f (fun i hi => by omega)
  obtain ⟨_, e69, _⟩ := rgm hI f1 hn hN
  have l1 := L1 (fun (y4 : Int) => p8_findRings_L58 y4 Q FUEL g1 0 0) g1 e69 ?_ n FUEL 0 (by unfold FUEL; omega) (by omega)
  · rw [Nat.pow_zero] at l1
    exact l1
  · have bl := blkO (V := VC 13 h) (W := h 6) (n := n) (N := N) n 0 0 (fun _ => -1) (0, (fun _ => -1), (fun _ => -1)) (by omega) (fun _ _ => rfl) (fun _ _ i hi => by omega)
    rw [Nat.zero_mul] at bl
    refine L2 ((n + 1) ^ n) FUEL 0 (0, (fun _ => -1), (fun _ => -1)) g1 (by unfold FUEL; omega) (by omega) f1 ⟨by decide, by decide, fun i hi => ⟨(f2 i (by omega)).2, (f2 i (by omega)).1⟩⟩ (fun g' k1 k2 => ?_)
    rw [bl] at k2 ⊢
    exact hq g' k1 k2
theorem op_rings (hI : INV h) {x y : Int} (hx : can x) (hy : can y) : p7_rings x y h (fun r1 h1 => p8_rings x y h1 (fun r2 h2 => OK2 r1 r2 h2)) := by
  have s1 := hI.s1
  have hst := hI.st
  unfold okSt at hst
  have a1 : 0 ≤ h 13 1 := hI.1.2.1.1
  have hy1 := hy.1
  have hy2 := hy.2
  obtain ⟨N, hN⟩ := Int.eq_ofNat_of_zero_le a1
  obtain ⟨n, hn⟩ := Int.eq_ofNat_of_zero_le (show 0 ≤ h 2 1 by omega)
  have cm1 : can (-1) := ⟨by decide, by decide⟩
  unfold p7_rings
  have MB : ∀ (h1 : HP) (r1 : Int), SCR h h1 → (x = -1 ∨ (0 ≤ x ∧ x < n)) → (¬ (0 ≤ y ∧ y ≤ 1) → w32 r1 = w32 (-1000000002)) → ((0 ≤ y ∧ y ≤ 1) → (x = -1 → r1 = (rgAns (VC 13 h) (h 6) n N).1) ∧ (0 ≤ x → y = 0 → r1 = (rgAns (VC 13 h) (h 6) n N).2.1 x.toNat) ∧ (0 ≤ x → y = 1 → r1 = (rgAns (VC 13 h) (h 6) n N).2.2 x.toNat)) → (p8_in (w32 y) 0 1 h1 fun r3 => brc (w32 r3 = 0) (OK2 r1 (-1000000002) h1) (p8_findRings h1 fun r4 h5 => brc (w32 x = w32 (-1)) (OK2 r1 r4 h5) (brc (w32 y = 0) (rd h5 89 5 x fun v7 => OK2 r1 v7 h5) (rd h5 88 5 x fun v6 => OK2 r1 v6 h5)))) := by
    intro h1 r1 F hx' c1 c2
    rw [w_id hy.1 hy.2]
    refine in_i ⟨by omega, by omega⟩ ⟨by decide, by decide⟩ ⟨by decide, by decide⟩ (fun q1 q2 => brN (by decide) ?_) (fun q => brY (by decide) ⟨c1 q, F.i hI⟩)
    obtain ⟨d1, d2, d3⟩ := c2 ⟨q1, q2⟩
    refine M_findRings hI F hn hN (fun g' F' N' => ?_)
    obtain ⟨n1, n2, n3⟩ := N'
    refine brQ (weq hx cm1) (fun z => ⟨by rw [d1 z], F'.i hI⟩) (fun z => ?_)
    have x0 : 0 ≤ x := by omega
    refine brQ Iff.rfl (fun w => rd_i x0 (by omega) (by decide) ⟨?_, F'.i hI⟩) (fun w => rd_i x0 (by omega) (by decide) ⟨?_, F'.i hI⟩)
    · rw [(n3 x.toNat (by omega)).1, d2 x0 w]
    · rw [(n3 x.toNat (by omega)).2, d3 x0 (by omega)]
  have CB : (x = -1 ∨ (0 ≤ x ∧ x < n)) → ∀ (P : Int → HP → Prop), (∀ r1 h1, SCR h h1 → (¬ (0 ≤ y ∧ y ≤ 1) → w32 r1 = w32 (-1000000002)) → ((0 ≤ y ∧ y ≤ 1) → (x = -1 → r1 = (rgAns (VC 13 h) (h 6) n N).1) ∧ (0 ≤ x → y = 0 → r1 = (rgAns (VC 13 h) (h 6) n N).2.1 x.toNat) ∧ (0 ≤ x → y = 1 → r1 = (rgAns (VC 13 h) (h 6) n N).2.2 x.toNat)) → P r1 h1) → brc (w32 y < 0) (P (-1000000002) h) (brc (w32 y ≤ w32 1) (p3_findBest h fun h3 => brc (w32 x = w32 (-1)) (P (h3 54 2) h3) (brc (w32 y = 0) (rd h3 58 5 x fun v5 => P v5 h3) (p3_partTakenBy x h3 fun r4 => P r4 h3))) (P (-1000000002) h)) := by
    intro hx' P hP
    refine brQ (wlt0 hy) (fun z => hP _ _ SCR.rf (fun _ => rfl) (fun q => by omega)) (fun z => ?_)
    refine brQ (wle hy ⟨by decide, by decide⟩) (fun z2 => ?_) (fun z2 => hP _ _ SCR.rf (fun _ => rfl) (fun q => by omega))
    refine C_findBest hI.1 hI.w6 hn hN (fun g F L => ?_)
    obtain ⟨l1, l2, l3, l4, l5⟩ := L
    refine brQ (weq hx cm1) (fun w => hP _ _ F (fun q => by omega) (fun _ => ⟨fun _ => l1, fun q => by omega, fun q => by omega⟩)) (fun w => ?_)
    have x0 : 0 ≤ x := by omega
    refine brQ (weq0 hy) (fun v => rd_i x0 (by omega) (by decide) (hP _ _ F (fun q => by omega) (fun _ => ⟨fun q => by omega, fun _ _ => l4 _ (by omega), fun _ q => by omega⟩))) (fun v => ?_)
    unfold p3_partTakenBy
    refine rd_i x0 (by omega) (by decide) ?_
    obtain ⟨k, k1, k2, k3⟩ := l5 x.toNat (by omega)
    rw [k2]
    exact rd_n (by omega) (by decide) (hP _ _ F (fun q => by omega) (fun _ => ⟨fun q => by omega, fun _ q => by omega, fun _ _ => k3⟩))
  refine jn_i (brQ (weq hx cm1) (fun z => ?_) (fun z => ?_))
  · refine CB (Or.inl z) (fun r1 h1 => p8_rings x y h1 (fun r2 h2 => OK2 r1 r2 h2)) (fun r1 h1 F c1 c2 => ?_)
    unfold p8_rings
    exact jn_i (brY ((weq hx cm1).mpr z) (MB h1 r1 F (Or.inl z) c1 c2))
  · refine C_isHouse hx hI.1.1 (fun z1 z2 => brN (by decide) ?_) (fun z3 => brY (by decide) (by
      unfold p8_rings
      exact jn_i (brN (fun q => z ((weq hx cm1).mp q)) (M_isHouseN hI hx z3 (brY (by decide) ⟨rfl, hI⟩)))))
    refine CB (Or.inr ⟨z1, by omega⟩) (fun r1 h1 => p8_rings x y h1 (fun r2 h2 => OK2 r1 r2 h2)) (fun r1 h1 F c1 c2 => ?_)
    unfold p8_rings
    refine jn_i (brN (fun q => z ((weq hx cm1).mp q)) ?_)
    obtain ⟨k, rfl⟩ := Int.eq_ofNat_of_zero_le z1
    exact M_isHouseY (F.i hI) (by rw [F.1 2 (by decide)]; exact z2) (brN (by decide) (MB h1 r1 F (Or.inr ⟨z1, by omega⟩) c1 c2))
end RN1
