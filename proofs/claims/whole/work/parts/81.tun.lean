/-! ===== PURE: turns, the model ===== -/
theorem SCR.f38 {h g : HP} {v : Int} (f : SCR h g) : SCR h (hset g 69 38 v) := ⟨fun c hc => by rw [hset_c (by omega)]; exact f.1 c hc, fun j hj => by rw [hset_c (by decide)]; exact f.2.1 j hj, fun j hj => by rw [hset_rn (by omega)]; exact f.2.2 j hj⟩
def tuG (h : HP) (c : Nat) (li : Nat → Nat) (g : HP) : Prop := SCR h g ∧ g 69 38 = c ∧ ∀ i, i < c → g 90 i = ((li i : Nat) : Int)
theorem p9_le {k : Nat} (h : k ≤ 4) : 9 ^ k ≤ 6561 := Nat.pow_le_pow_right (show 9 > 0 by decide) h
section TN1
variable {h : HP} {N c a b : Nat} {w : Int} {li : Nat → Nat}
theorem M_power {Q : Int → Prop} {g : HP} {k : Nat} (hk : k ≤ 4) (hq : Q ((9 ^ k : Nat) : Int)) : p8_power k g Q := by
  have L : ∀ (m fu i : Nat), m < fu → i + m = k → p8_power_L4 k g Q fu ((9 ^ i : Nat) : Int) i := by
    intro m
    induction m with
    | zero =>
      intro fu i hfu hi
      obtain ⟨fu, rfl⟩ : ∃ n', fu = n' + 1 := ⟨fu - 1, by omega⟩
      obtain rfl : i = k := by omega
      unfold p8_power_L4
      exact brY (Int.le_refl _) hq
    | succ m ih =>
      intro fu i hfu hi
      obtain ⟨fu, rfl⟩ : ∃ n', fu = n' + 1 := ⟨fu - 1, by omega⟩
      unfold p8_power_L4
      refine brN (fun z => by have := (wle ⟨by omega, by omega⟩ ⟨by omega, by omega⟩).mp z; omega) ?_
      have := ih fu (i + 1) (by omega) (by omega)
      rw [Nat.pow_succ] at this
      exact this
  unfold p8_power
  have := L k FUEL 0 (by unfold FUEL; omega) (by omega)
  exact this
theorem M_findLie {Q : HP → Prop} {g : HP} (hI : INV h) (f : SCR h g) (hN : h 13 1 = N) (hw : can w) (l : LI (VC 13 h) w N c li) (hq : ∀ g', tuG h c li g' → Q g') : p8_findLie w g Q := by
  have cn := hI.cnt
  have a2 : h 13 1 ≤ 32 := hI.1.2.1.2.1
  have hst := hI.st
  unfold okSt at hst
  have s1 := hI.s1
  have L : ∀ (m fu p : Nat) (g : HP), m < fu → p + m = N → SCR h g → g 69 38 = ((lk (VC 13 h) w p : Nat) : Int) → lk (VC 13 h) w p ≤ 8 → (∀ i, i < lk (VC 13 h) w p → g 90 i = ((li i : Nat) : Int)) → p8_findLie_L7 w Q fu g p := by
    have done : ∀ (p : Nat) (g : HP), lk (VC 13 h) w p = c → SCR h g → g 69 38 = ((lk (VC 13 h) w p : Nat) : Int) → (∀ i, i < lk (VC 13 h) w p → g 90 i = ((li i : Nat) : Int)) → Q g := by
      intro p g e F K1 K2
      rw [e] at K1 K2
      exact hq g ⟨F, K1, K2⟩
    intro m
    induction m with
    | zero =>
      intro fu p g hfu hp F K1 l8 K2
      obtain ⟨fu, rfl⟩ : ∃ n', fu = n' + 1 := ⟨fu - 1, by omega⟩
      obtain rfl : p = N := by omega
      unfold p8_findLie_L7
      rw [F.2.2 7 (by decide)]
      refine brY ((wle ⟨by omega, by omega⟩ ⟨by omega, by omega⟩).mpr (by omega)) (done p g ?_ F K1 K2)
      have := l.1; have := l.2.1; have := l.2.2.1
      omega
    | succ m ih =>
      intro fu p g hfu hp F K1 l8 K2
      obtain ⟨fu, rfl⟩ : ∃ n', fu = n' + 1 := ⟨fu - 1, by omega⟩
      have lm := lk_le (V := VC 13 h) (w := w) (show p + 1 ≤ N by omega)
      have k1 := l.1
      have k2 := l.2.1
      have k3 := l.2.2.1
      have hpv : (p : Int) < VC 13 h 0 0 := by show (p : Int) < h 13 1; omega
      obtain ⟨q1, q2, q3, q4, q5, q6, q7, _⟩ := hI.1.part (p := p) (by omega)
      have r2 : g 75 p = VC 13 h 2 p := by rw [F.1 75 (by decide)]; exact (hI.2.2.1.2.1 2 p (by decide) (by decide) hpv).symm
      have r3 : g 76 p = VC 13 h 3 p := by rw [F.1 76 (by decide)]; exact (hI.2.2.1.2.1 3 p (by decide) (by decide) hpv).symm
      have b4 : -1 ≤ VC 13 h 2 p := q4
      have b5 : VC 13 h 2 p < h 2 1 := q5
      have b6 : -1 ≤ VC 13 h 3 p := q6
      have b7 : VC 13 h 3 p < h 2 1 := q7
      unfold p8_findLie_L7
      rw [F.2.2 7 (by decide)]
      refine brN (fun z => by have := (wle ⟨by omega, by omega⟩ ⟨by omega, by omega⟩).mp z; omega) ?_
      rw [K1]
      have lp := lk_le (V := VC 13 h) (w := w) (show p ≤ p + 1 by omega)
      refine brQ (wle ⟨by omega, by omega⟩ ⟨by omega, by omega⟩) (fun z => done p g (by omega) F K1 K2) (fun z => ?_)
      refine rd_n q1 (by decide) ?_
      rw [r2]
      have skip : ¬ (VC 13 h 2 p = -1 ∧ VC 13 h 3 p = w) → p8_findLie_L7 w Q fu g ((p : Int) + 1) := fun d => by
        have e := lk_n d
        exact ih fu (p + 1) g (by omega) (by omega) F (by rw [e]; exact K1) (by rw [e]; exact l8) (by rw [e]; exact K2)
      refine brQ (w0le ⟨by omega, by omega⟩) (fun y => skip (fun d => by omega)) (fun y => rd_n q1 (by decide) ?_)
      rw [r3]
      refine brQ (weq ⟨by omega, by omega⟩ hw) (fun x => ?_) (fun x => skip (fun d => x d.2))
      have d : VC 13 h 2 p = -1 ∧ VC 13 h 3 p = w := ⟨by omega, x⟩
      have e := lk_y d
      have ep : li (lk (VC 13 h) w p) = p := l.at d (by omega)
      refine wr_n (by omega) (by decide) (pf_i ?_)
      rw [hset_c (show (69 : Nat) ≠ 90 by decide), K1]
      refine ih fu (p + 1) _ (by omega) (by omega) (F.set (by omega)).f38 (by rw [hset_rs, e]; rfl) (by rw [e]; omega) (fun i hi => ?_)
      rw [hset_c (show (90 : Nat) ≠ 69 by decide)]
      by_cases di : i = lk (VC 13 h) w p
      · subst di; rw [hset_rs, ep]
      · rw [hset_rn di]; exact K2 i (by omega)
  unfold p8_findLie
  refine pf_i ?_
  exact L N FUEL 0 _ (by unfold FUEL; omega) (by omega) f.f38 (by rw [hset_rs]; rfl) (by show 0 ≤ 8; omega) (fun i hi => absurd hi (Nat.not_lt_zero i))
theorem dg_q {code k : Nat} (hc : code < 9 ^ 4) (hk : k ≤ 4) : qm (qd (code : Int) ((9 ^ k : Nat) : Int)) 9 = ((dg code k : Nat) : Int) := by
  have h9 := p9_le hk
  have e4 : (9 : Nat) ^ 4 = 6561 := by decide
  have hd : code / 9 ^ k ≤ code := Nat.div_le_self _ _
  rw [qd_nn _ _ (by omega) (by omega), show (9 : Int) = ((9 : Nat) : Int) from rfl, qm_nn _ _ (by omega) (by decide)]
  rfl
theorem mk_lt {V : HP} {S0 : Nat → Nat} {code : Nat} (hS : ∀ v, v < 2 → S0 v < 64) (hs : ∀ i, i < c → 0 ≤ V 1 (li i) ∧ V 1 (li i) < 6) : ∀ k v, v < 2 → mkA V c li S0 code k v < 64
  | 0, v, hv => hS v hv
  | k + 1, v, hv => by
    have := mk_lt (code := code) hS hs k v hv
    show (if k % 2 = v then mkA V c li S0 code k v ||| biT V c li (dg code k) else mkA V c li S0 code k v) < 64
    have hb : biT V c li (dg code k) < 64 := by
      unfold biT
      by_cases d : dg code k = 0 ∨ c < dg code k
      · rw [if_pos d]; decide
      · rw [if_neg d]
        have := hs (dg code k - 1) (by omega)
        exact Nat.pow_lt_pow_right (n := 6) (by decide) (by omega)
    by_cases e : k % 2 = v
    · rw [if_pos e]; exact Nat.or_lt_two_pow (n := 6) this hb
    · rw [if_neg e]; exact this
theorem li_s (hI : INV h) (hN : h 13 1 = N) (l : LI (VC 13 h) w N c li) : ∀ i, i < c → 0 ≤ VC 13 h 1 (li i) ∧ VC 13 h 1 (li i) < (h 2 0).toNat := fun i hi => by
  have := hI.1.2.1.2.2.1 (li i) (by show ((li i : Nat) : Int) < h 13 1; have := (l.2.2.2 i hi).1; omega)
  have h1 := this.1
  have h2 := this.2.1
  exact ⟨h1, by omega⟩
theorem M_wM {Q : Int → Prop} {g : HP} (hI : INV h) (f : SCR h g) {x mask : Nat} (hx : (x : Int) < h 2 1) (hm : mask < 64) (hq : Q (wM (h 6) (h 2 0).toNat x mask)) : p8_worthOf x mask g Q := by
  obtain ⟨m1, m2, m3, m4⟩ := scr_M hI f
  have s0 := hI.s0
  have s1 := hI.s1
  have hst := hI.st
  unfold okSt at hst
  refine M_worthOf m1.1 (by rw [m4 1 (by decide)]; omega) (by omega) ?_
  rw [m3, m4 0 (by decide), ← s0]
  unfold wM at hq
  rw [fs_congr (f := fun k => if mask.testBit k = true then h 71 ((x : Int) * 6 + k).toNat else 0) (g := fun k => if mask.testBit k = true then h 6 (x * 6 + k) else 0) (h 2 0).toNat 0 (fun k _ hk => by
    rw [show ((x : Int) * 6 + k).toNat = x * 6 + k from by omega, (hI.2.2.2.1.2.2.2.2.1 (x * 6 + k) (by omega)).1])]
  exact hq
theorem M_sO {Q : Int → Prop} {g : HP} (hI : INV h) (f : SCR h g) {v : Nat} (hv : ((plF a b v : Nat) : Int) < h 2 1) (hq : Q ((hS0 (VC 13 h) (h 2 0).toNat a b v : Nat) : Int)) : p8_sortsOf ((plF a b v : Nat) : Int) g Q := by
  obtain ⟨m1, m2, m3, m4⟩ := scr_M hI f
  have s0 := hI.s0
  have hst := hI.st
  unfold okSt at hst
  have s1 := hI.s1
  refine M_sortsOf m1 ⟨by omega, by omega⟩ ?_
  rw [m2, m4 0 (by decide), ← s0]
  unfold hS0 at hq
  simp only [hI.2.2.1.cs]
  exact hq
theorem M_endOf {Q : Int → Prop} {g : HP} {n code : Nat} (hI : INV h) (G : tuG h c li g) (hN : h 13 1 = N) (l : LI (VC 13 h) w N c li) (ha : (a : Int) < h 2 1) (hb : (b : Int) < h 2 1) (n4 : n ≤ 4) (hc : code < 9 ^ 4) (hq : Q (dfM (h 6) (h 2 0).toNat a b (mkA (VC 13 h) c li (hS0 (VC 13 h) (h 2 0).toNat a b) code n))) : p8_endOf a b n code g Q := by
  obtain ⟨F, G2, G3⟩ := G
  have ls := li_s hI hN l
  have hst := hI.st
  unfold okSt at hst
  have s0 := hI.s0
  have c8 := l.1
  have a2 : h 13 1 ≤ 32 := hI.1.2.1.2.1
  have hS : ∀ v, v < 2 → hS0 (VC 13 h) (h 2 0).toNat a b v < 64 := fun v _ => bs_lt6 hI.1.1 _
  have ml := mk_lt (code := code) (c := c) (li := li) hS (fun i hi => ⟨(ls i hi).1, by have := (ls i hi).2; omega⟩)
  have L : ∀ (m fu k : Nat), m < fu → k + m = n → p8_endOf_L17 a b n code g (fun (y15 : Int) (y16 : Int) => p8_worthOf a y15 g fun r17 => p8_worthOf b y16 g fun r18 => Q (r17 - r18)) fu ((mkA (VC 13 h) c li (hS0 (VC 13 h) (h 2 0).toNat a b) code k 0 : Nat) : Int) ((mkA (VC 13 h) c li (hS0 (VC 13 h) (h 2 0).toNat a b) code k 1 : Nat) : Int) k := by
    intro m
    induction m with
    | zero =>
      intro fu k hfu hk
      obtain ⟨fu, rfl⟩ : ∃ n', fu = n' + 1 := ⟨fu - 1, by omega⟩
      obtain rfl : k = n := by omega
      unfold p8_endOf_L17
      refine brY (Int.le_refl _) ?_
      exact M_wM hI F ha (ml k 0 (by decide)) (M_wM hI F hb (ml k 1 (by decide)) hq)
    | succ m ih =>
      intro fu k hfu hk
      obtain ⟨fu, rfl⟩ : ∃ n', fu = n' + 1 := ⟨fu - 1, by omega⟩
      have h9 := p9_le (show k ≤ 4 by omega)
      have h9' := p9 k
      have m0 := ml k 0 (by decide)
      have m1 := ml k 1 (by decide)
      have nx := ih fu (k + 1) (by omega) (by omega)
      have e0 : mkA (VC 13 h) c li (hS0 (VC 13 h) (h 2 0).toNat a b) code (k + 1) 0 = if k % 2 = 0 then mkA (VC 13 h) c li (hS0 (VC 13 h) (h 2 0).toNat a b) code k 0 ||| biT (VC 13 h) c li (dg code k) else mkA (VC 13 h) c li (hS0 (VC 13 h) (h 2 0).toNat a b) code k 0 := rfl
      have e1 : mkA (VC 13 h) c li (hS0 (VC 13 h) (h 2 0).toNat a b) code (k + 1) 1 = if k % 2 = 1 then mkA (VC 13 h) c li (hS0 (VC 13 h) (h 2 0).toNat a b) code k 1 ||| biT (VC 13 h) c li (dg code k) else mkA (VC 13 h) c li (hS0 (VC 13 h) (h 2 0).toNat a b) code k 1 := rfl
      rw [e0, e1] at nx
      generalize mkA (VC 13 h) c li (hS0 (VC 13 h) (h 2 0).toNat a b) code k 0 = A at *
      generalize mkA (VC 13 h) c li (hS0 (VC 13 h) (h 2 0).toNat a b) code k 1 = B at *
      have ioz : ∀ x : Nat, x < 64 → io (x : Int) 0 = x := fun x hx => by
        have e := io_n x 0 (by omega) (by omega)
        rw [Nat.or_zero] at e; exact e
      have hbi : biT (VC 13 h) c li (dg code k) < 64 := by
        unfold biT
        by_cases d : dg code k = 0 ∨ c < dg code k
        · rw [if_pos d]; decide
        · rw [if_neg d]
          have := ls (dg code k - 1) (by omega)
          exact Nat.pow_lt_pow_right (n := 6) (by decide) (by omega)
      unfold p8_endOf_L17
      refine brN (fun z => by have := (wle ⟨by omega, by omega⟩ ⟨by omega, by omega⟩).mp z; omega) ?_
      refine M_power (by omega) ⟨by rw [w_id (by omega) (by omega)]; omega, ?_⟩
      rw [dg_q hc (by omega), show (2 : Int) = ((2 : Nat) : Int) from rfl, qm_nn k 2 (by omega) (by decide)]
      have dl := dg_lt code k
      refine jn_r (fun K => K ((biT (VC 13 h) c li (dg code k) : Nat) : Int)) (fun K hK => jn_i ?_) ?_
      · unfold biT at hK
        rw [G2]
        refine brQ (weq0 ⟨by omega, by omega⟩) (fun z => ?_) (fun z => brQ (wle ⟨by omega, by omega⟩ ⟨by omega, by omega⟩) (fun z2 => ?_) (fun z2 => ?_))
        · rw [if_pos (Or.inl (by omega))] at hK; exact hK
        · rw [if_neg (by omega)] at hK
          obtain ⟨t1, t2⟩ := ls (dg code k - 1) (by omega)
          have t3 := (l.2.2.2 (dg code k - 1) (by omega)).1
          have hpv : ((li (dg code k - 1) : Nat) : Int) < VC 13 h 0 0 := by show ((li (dg code k - 1) : Nat) : Int) < h 13 1; omega
          rw [show (((dg code k : Nat) : Int) - 1) = ((dg code k - 1 : Nat) : Int) from by omega]
          refine rd_n (by omega) (by decide) ?_
          rw [G3 _ (by omega)]
          refine rd_n (by omega) (by decide) ?_
          rw [F.1 74 (by decide), show h 74 (li (dg code k - 1)) = VC 13 h 1 (li (dg code k - 1)) from (hI.2.2.1.2.1 1 _ (by decide) (by decide) hpv).symm]
          obtain ⟨q, hq'⟩ := Int.eq_ofNat_of_zero_le t1
          rw [hq'] at hK ⊢
          rw [sl_n q (by omega)]
          exact hK
        · rw [if_pos (Or.inr (by omega))] at hK; exact hK
      · have k2 : k % 2 < 2 := Nat.mod_lt _ (by decide)
        by_cases e : k % 2 = 0
        · rw [if_pos e, if_neg (by omega)] at nx
          refine jn_i (brY ((weq0 ⟨by omega, by omega⟩).mpr (by omega)) (brY ((weq0 ⟨by omega, by omega⟩).mpr (by omega)) ?_))
          rw [io_n _ _ (by omega) (by omega), ioz B m1]
          exact nx
        · rw [if_neg e, if_pos (by omega)] at nx
          refine jn_i (brN (fun z => by have := (weq0 ⟨by omega, by omega⟩).mp z; omega) (brN (fun z => by have := (weq0 ⟨by omega, by omega⟩).mp z; omega) ?_))
          rw [io_n _ _ (by omega) (by omega), ioz A m0]
          exact nx
  unfold p8_endOf
  refine M_sO (a := a) (b := b) (v := 0) hI F ha (M_sO (a := a) (b := b) (v := 1) hI F hb ?_)
  exact L n FUEL 0 (by unfold FUEL; omega) (by omega)
theorem M_mayBe {Q : Int → Prop} {g : HP} {R0 : Nat → Int} {k code d : Nat} {hs : Int} (G : tuG h c li g) (c8 : c ≤ 8) (k3 : k ≤ 3) (hc : code < 9 ^ k) (d1 : 1 ≤ d) (d9 : d < 9) (hh : hs = 4 - R0 (k % 2)) (hb : 0 ≤ hs ∧ hs ≤ 4) (hy : alw c R0 code k d → Q 1) (hn : ¬ alw c R0 code k d → Q 0) : p8_mayBe ((code + d * 9 ^ k : Nat) : Int) ((k + 1 : Nat) : Int) hs g Q := by
  obtain ⟨F, G2, G3⟩ := G
  have h9 := p9_le (show k ≤ 4 by omega)
  have h9' := p9 k
  have hcd : code + d * 9 ^ k < 9 ^ 4 := by
    have e1 : d * 9 ^ k ≤ 8 * 9 ^ k := Nat.mul_le_mul_right _ (by omega)
    have e2 : 9 ^ (k + 1) ≤ 9 ^ 4 := Nat.pow_le_pow_right (show 9 > 0 by decide) (by omega)
    rw [Nat.pow_succ] at e2
    omega
  have lo : ∀ j, j < k → dg (code + d * 9 ^ k) j = dg code j := fun j hj => dg_lo hj
  have hi := dg_hi hc d9
  generalize code + d * 9 ^ k = cd at *
  unfold p8_mayBe
  rw [show (((k + 1 : Nat) : Int) - 1) = (k : Int) from by omega]
  refine M_power (by omega) ⟨by rw [w_id (by omega) (by omega)]; omega, ?_⟩
  rw [dg_q hcd (by omega), hi, G2]
  refine brN (fun z => by have := (weq0 ⟨by omega, by omega⟩).mp z; omega) ?_
  have cnb : ∀ j, j ≤ 3 → 0 ≤ cnR code (k % 2) j ∧ cnR code (k % 2) j ≤ j := by
    intro j
    induction j with
    | zero => intro _; show (0 : Int) ≤ 0 ∧ (0 : Int) ≤ ((0 : Nat) : Int); omega
    | succ j ih =>
      intro hj
      have := ih (by omega)
      show 0 ≤ cnR code (k % 2) j + (if j % 2 = k % 2 ∧ 0 < dg code j then 1 else 0) ∧ cnR code (k % 2) j + (if j % 2 = k % 2 ∧ 0 < dg code j then 1 else 0) ≤ ((j + 1 : Nat) : Int)
      split <;> omega
  have L : ∀ (m fu j : Nat) (my : Int), m < fu → j + m = k → (my = 1 ∧ d ≤ c ∧ usD code j d = false ∨ my = 0 ∧ ¬ (d ≤ c ∧ usD code j d = false)) → p8_mayBe_L42 cd ((k + 1 : Nat) : Int) ((d : Nat) : Int) g (fun (y10 : Int) (y11 : Int) => brc (w32 y11 = 0) (Q 0) (brc (w32 4 ≤ w32 y10) (Q 0) (Q 1))) fu (hs + cnR code (k % 2) j) my j := by
    intro m
    induction m with
    | zero =>
      intro fu j my hfu hj hm
      obtain ⟨fu, rfl⟩ : ∃ n', fu = n' + 1 := ⟨fu - 1, by omega⟩
      obtain rfl : j = k := by omega
      have cb := cnb j k3
      unfold p8_mayBe_L42
      rw [show (((j + 1 : Nat) : Int) - 1) = (j : Int) from by omega]
      refine brY (Int.le_refl _) ?_
      have er : rsD R0 code j (j % 2) = R0 (j % 2) - cnR code (j % 2) j := rfl
      rcases hm with ⟨rfl, m1, m2⟩ | ⟨rfl, m1⟩
      · refine brN (by decide) (brQ (wle ⟨by omega, by omega⟩ ⟨by omega, by omega⟩) (fun z => hn (fun A => ?_)) (fun z => hy ⟨d1, m1, m2, by omega⟩))
        have := A.2.2.2
        omega
      · exact brY (by decide) (hn (fun A => m1 ⟨A.2.1, A.2.2.1⟩))
    | succ m ih =>
      intro fu j my hfu hj hm
      obtain ⟨fu, rfl⟩ : ∃ n', fu = n' + 1 := ⟨fu - 1, by omega⟩
      have j9 := p9_le (show j ≤ 4 by omega)
      have j9' := p9 j
      have dl := dg_lt code j
      have u1 : usD code (j + 1) d = (usD code j d || decide (dg code j = d)) := rfl
      have c1 : cnR code (k % 2) (j + 1) = cnR code (k % 2) j + (if j % 2 = k % 2 ∧ 0 < dg code j then 1 else 0) := rfl
      have nx := fun my' => ih fu (j + 1) my' (by omega) (by omega)
      rw [u1, c1] at nx
      unfold p8_mayBe_L42
      rw [show (((k + 1 : Nat) : Int) - 1) = (k : Int) from by omega]
      refine brN (fun z => by have := (wle ⟨by omega, by omega⟩ ⟨by omega, by omega⟩).mp z; omega) ?_
      refine M_power (by omega) ⟨by rw [w_id (by omega) (by omega)]; omega, ?_⟩
      rw [dg_q hcd (by omega), lo j (by omega), show (2 : Int) = ((2 : Nat) : Int) from rfl, qm_nn j 2 (by omega) (by decide), qm_nn k 2 (by omega) (by decide)]
      have j2 : j % 2 < 2 := Nat.mod_lt _ (by decide)
      have k2 : k % 2 < 2 := Nat.mod_lt _ (by decide)
      refine jn_r (fun K => ∀ my' : Int, (my' = 1 ∧ d ≤ c ∧ (usD code j d || decide (dg code j = d)) = false ∨ my' = 0 ∧ ¬ (d ≤ c ∧ (usD code j d || decide (dg code j = d)) = false)) → K my') (fun K hK => jn_i ?_) (fun my' hm' => ?_)
      · rcases hm with ⟨rfl, m1, m2⟩ | ⟨rfl, m1⟩
        · refine brN (by decide) (brQ (weq ⟨by omega, by omega⟩ ⟨by omega, by omega⟩) (fun z => hK 0 (Or.inr ⟨rfl, fun y => ?_⟩)) (fun z => hK 1 (Or.inl ⟨rfl, m1, ?_⟩)))
          · have := y.2
            rw [show decide (dg code j = d) = true from decide_eq_true (by omega), Bool.or_true] at this
            cases this
          · rw [m2, show decide (dg code j = d) = false from decide_eq_false (by omega)]; rfl
        · refine brY (by decide) (hK 0 (Or.inr ⟨rfl, fun y => m1 ⟨y.1, ?_⟩⟩))
          have := y.2
          cases hu : usD code j d with
          | false => rfl
          | true => rw [hu, Bool.true_or] at this; cases this
      · have n2 := nx my' hm'
        refine brQ (weq ⟨by omega, by omega⟩ ⟨by omega, by omega⟩) (fun z => brQ (wle0 ⟨by omega, by omega⟩) (fun z2 => ?_) (fun z2 => ?_)) (fun z => ?_)
        · rw [if_neg (by omega)] at n2
          rw [← Int.add_assoc] at n2
          exact n2
        · rw [if_pos (by omega)] at n2
          rw [← Int.add_assoc] at n2
          exact n2
        · rw [if_neg (by omega)] at n2
          rw [← Int.add_assoc] at n2
          exact n2
  refine jn_r (fun K => ∀ my : Int, (my = 1 ∧ d ≤ c ∨ my = 0 ∧ ¬ d ≤ c) → K my) (fun K hK => brQ (wlt ⟨by omega, by omega⟩ ⟨by omega, by omega⟩) (fun z => hK 0 (Or.inr ⟨rfl, by omega⟩)) (fun z => hK 1 (Or.inl ⟨rfl, by omega⟩))) (fun my hm => ?_)
  have := L k FUEL 0 my (by unfold FUEL; omega) (by omega) (by
    rcases hm with ⟨rfl, m1⟩ | ⟨rfl, m1⟩
    · exact Or.inl ⟨rfl, m1, rfl⟩
    · exact Or.inr ⟨rfl, fun y => m1 y.1⟩)
  rw [show cnR code (k % 2) 0 = 0 from rfl, Int.add_zero] at this
  exact this
end TN1
