/-! ===== PURE: the best taking, who is first, waiting ===== -/
def btF (V : HP) (W : Nat → Int) (x : Int) : Nat → Int → Int → Nat → Int
  | 0, b, _, _ => b
  | m + 1, b, g, p => if mayT V x p ∧ g < gV V W x (V 1 p) then btF V W x m p (gV V W x (V 1 p)) (p + 1) else btF V W x m b g (p + 1)
/-- the part that a house gains most by -/
def btV (V : HP) (W : Nat → Int) (x : Int) : Int := btF V W x (nP V) (-1) 0 0
theorem btF_Y {V : HP} {W : Nat → Int} {x : Int} {m p : Nat} {b g : Int} (c : mayT V x p ∧ g < gV V W x (V 1 p)) : btF V W x (m + 1) b g p = btF V W x m p (gV V W x (V 1 p)) (p + 1) := if_pos c
theorem btF_N {V : HP} {W : Nat → Int} {x : Int} {m p : Nat} {b g : Int} (c : ¬ (mayT V x p ∧ g < gV V W x (V 1 p))) : btF V W x (m + 1) b g p = btF V W x m b g (p + 1) := if_neg c
theorem bt_sp (V : HP) (W : Nat → Int) (x : Int) : ∀ (m p : Nat) (b g : Int), 0 ≤ g → (btF V W x m b g p = b) ∨ ∃ q : Nat, q < p + m ∧ btF V W x m b g p = q ∧ mayT V x q ∧ 0 < gV V W x (V 1 q)
  | 0, p, b, g, _ => Or.inl rfl
  | m + 1, p, b, g, hg => by
    by_cases c : mayT V x p ∧ g < gV V W x (V 1 p)
    · rw [btF_Y c]
      rcases bt_sp V W x m (p + 1) p (gV V W x (V 1 p)) (by omega) with e | ⟨q, h1, h2⟩
      · exact Or.inr ⟨p, by omega, e, c.1, by omega⟩
      · exact Or.inr ⟨q, by omega, h2⟩
    · rw [btF_N c]
      rcases bt_sp V W x m (p + 1) b g hg with e | ⟨q, h1, h2⟩
      · exact Or.inl e
      · exact Or.inr ⟨q, by omega, h2⟩
theorem btV_sp (V : HP) (W : Nat → Int) (x : Int) : (btV V W x = -1) ∨ ∃ q : Nat, q < nP V ∧ btV V W x = q ∧ mayT V x q ∧ 0 < gV V W x (V 1 q) := by
  rcases bt_sp V W x (nP V) 0 (-1) 0 (by omega) with e | ⟨q, h1, h2⟩
  · exact Or.inl e
  · exact Or.inr ⟨q, by omega, h2⟩
theorem gV_bd {V : HP} {W : Nat → Int} (hW : okW W) {s n x k : Int} (hs : okSt s n) (hx : 0 ≤ x) (hx2 : x < n) (hk : 0 ≤ k) (hk2 : k < s) : 0 ≤ gV V W x k ∧ gV V W x k ≤ 99 := by
  unfold okSt at hs
  have := hW (x * 6 + k).toNat (by omega)
  unfold gV
  split <;> omega
theorem lV_bd {V : HP} {W : Nat → Int} (hW : okW W) {s n x k : Int} (hs : okSt s n) (hx : 0 ≤ x) (hx2 : x < n) (hk : 0 ≤ k) (hk2 : k < s) : 0 ≤ lV V W x k ∧ lV V W x k ≤ 99 := by
  unfold okSt at hs
  have := hW (x * 6 + k).toNat (by omega)
  unfold lV
  split <;> omega
section BT
variable {h : HP} {Q : Int → Prop}
theorem eqv.bt {V V' : HP} {W W' : Nat → Int} (e : eqv V V') {s n : Int} (hV : wfV s n V) {x : Int} (hw : ∀ k : Int, 0 ≤ k → k < s → W' (x * 6 + k).toNat = W (x * 6 + k).toNat) : btV V' W' x = btV V W x := by
  have L : ∀ (m p : Nat) (b g : Int), p + m ≤ nP V → btF V' W' x m b g p = btF V W x m b g p := by
    intro m
    induction m with
    | zero => intro p b g _; rfl
    | succ m ih =>
      intro p b g hp
      have hpv : (p : Int) < V 0 0 := lt_nP (by omega)
      have hk := hV.2.2.1 p hpv
      unfold okP at hk
      have ek := e.2.1 1 p (by decide) (by decide) hpv
      have eg := e.ga x (V 1 p) (hw (V 1 p) hk.1 hk.2.1)
      by_cases c : mayT V x p ∧ g < gV V W x (V 1 p)
      · rw [btF_Y c, btF_Y ⟨(e.may hpv).mpr c.1, by rw [← ek, eg]; exact c.2⟩, ← ek, eg]
        exact ih (p + 1) _ _ (by omega)
      · rw [btF_N c, btF_N (fun z => c ⟨(e.may hpv).mp z.1, by have := z.2; rw [← ek, eg] at this; exact this⟩)]
        exact ih (p + 1) _ _ (by omega)
  unfold btV
  rw [← e.nn]
  exact L (nP V) 0 _ _ (by omega)
theorem C_partToTake {b : Nat} (hI : SI b h) (hW : okW (h 6)) {x : Nat} (hx : (x : Int) < h 2 1) (hq : Q (btV (VC b h) (h 6) x)) : p5_partToTake b x h Q := by
  have a1 : 0 ≤ h b 1 := hI.2.1.1
  have a2 : h b 1 ≤ 32 := hI.2.1.2.1
  have L : ∀ (m f p : Nat) (bt g : Int), m < f → (p : Int) + m = h b 1 → 0 ≤ g → g ≤ 99 → Q (btF (VC b h) (h 6) x m bt g p) → p5_partToTake_L7 b x h Q f bt g p := by
    intro m
    induction m with
    | zero =>
      intro f p bt g hf hk _ _ hq
      obtain ⟨f, rfl⟩ : ∃ n', f = n' + 1 := ⟨f - 1, by omega⟩
      unfold p5_partToTake_L7
      exact brY ((wle ⟨by omega, by omega⟩ ⟨by omega, by omega⟩).mpr (by omega)) hq
    | succ m ih =>
      intro f p bt g hf hk hg0 hg hq
      obtain ⟨f, rfl⟩ : ∃ n', f = n' + 1 := ⟨f - 1, by omega⟩
      unfold p5_partToTake_L7
      refine brN (fun z => by have := (wle ⟨by omega, by omega⟩ ⟨by omega, by omega⟩).mp z; omega) ?_
      obtain ⟨q1, q2, q3, _⟩ := hI.part (p := p) (by omega)
      refine C_mayTake hI hx (by omega) (fun z => brN (by decide) ?_) (fun z => brY (by decide) ?_)
      · refine rd_n q1 (by decide) ?_
        obtain ⟨k, ek⟩ := Int.eq_ofNat_of_zero_le q2
        have ek' : VC b h 1 p = k := ek
        have gb := gV_bd (V := VC b h) hW hI.1 (show (0 : Int) ≤ x by omega) hx q2 q3
        rw [ek] at gb
        rw [ek]
        refine C_gainOf hI hx (by omega) ?_
        refine brQ (wle ⟨by omega, by omega⟩ ⟨by omega, by omega⟩) (fun w => ?_) (fun w => ?_)
        · refine ih f (p + 1) bt g (by omega) (by omega) hg0 hg ?_
          rw [btF_N (by rw [ek']; omega)] at hq
          exact hq
        · refine rd_n q1 (by decide) ?_
          rw [ek]
          refine C_gainOf hI hx (by omega) ?_
          refine ih f (p + 1) _ _ (by omega) (by omega) gb.1 gb.2 ?_
          rw [btF_Y ⟨z, by rw [ek']; omega⟩, ek'] at hq
          exact hq
      · refine ih f (p + 1) bt g (by omega) (by omega) hg0 hg ?_
        rw [btF_N (fun w => z w.1)] at hq
        exact hq
  unfold p5_partToTake
  refine L (h b 1).toNat FUEL 0 (-1) 0 (by unfold FUEL; omega) (by omega) (by omega) (by omega) hq
theorem M_bestTake (hI : MI h) (hW : okW (h 71)) {x : Nat} (hx : (x : Int) < h 69 1) (hq : Q (btV (VM h) (h 71) x)) : p8_bestTake x h Q := by
  have a1 : 0 ≤ h 69 7 := hI.2.1
  have a2 : h 69 7 ≤ 32 := hI.2.2.1
  have L : ∀ (m f p : Nat) (bt g : Int), m < f → (p : Int) + m = h 69 7 → 0 ≤ g → g ≤ 99 → Q (btF (VM h) (h 71) x m bt g p) → p8_bestTake_L7 x h Q f bt g p := by
    intro m
    induction m with
    | zero =>
      intro f p bt g hf hk _ _ hq
      obtain ⟨f, rfl⟩ : ∃ n', f = n' + 1 := ⟨f - 1, by omega⟩
      unfold p8_bestTake_L7
      exact brY ((wle ⟨by omega, by omega⟩ ⟨by omega, by omega⟩).mpr (by omega)) hq
    | succ m ih =>
      intro f p bt g hf hk hg0 hg hq
      obtain ⟨f, rfl⟩ : ∃ n', f = n' + 1 := ⟨f - 1, by omega⟩
      unfold p8_bestTake_L7
      refine brN (fun z => by have := (wle ⟨by omega, by omega⟩ ⟨by omega, by omega⟩).mp z; omega) ?_
      obtain ⟨q1, q2, q3, _⟩ := hI.part (p := p) (by omega)
      have gb := gV_bd (V := VM h) hW hI.1 (show (0 : Int) ≤ x by omega) hx q2 q3
      have ek : VM h 1 p = h 74 p := rfl
      refine M_mayTake hI hx (by omega) (fun z => jn_i (brN (by decide) ?_)) (fun z => jn_i (brY (by decide) ?_))
      · refine M_gainOf hI hx (by omega) (jn_i ?_)
        refine brQ (wle ⟨by omega, by omega⟩ ⟨by omega, by omega⟩) (fun w => ?_) (fun w => ?_)
        · refine brY ((wle ⟨by omega, by omega⟩ ⟨by omega, by omega⟩).mpr w) ?_
          refine ih f (p + 1) bt g (by omega) (by omega) hg0 hg ?_
          rw [btF_N (by rw [ek]; omega)] at hq
          exact hq
        · refine brN (fun z => w ((wle ⟨by omega, by omega⟩ ⟨by omega, by omega⟩).mp z)) ?_
          refine ih f (p + 1) _ _ (by omega) (by omega) gb.1 gb.2 ?_
          rw [btF_Y ⟨z, by rw [ek]; omega⟩] at hq
          exact hq
      · refine jn_i ?_
        refine brY ((wle ⟨by omega, by omega⟩ ⟨by omega, by omega⟩).mpr (by omega)) ?_
        refine brY ((wle ⟨by omega, by omega⟩ ⟨by omega, by omega⟩).mpr (by omega)) ?_
        refine ih f (p + 1) bt g (by omega) (by omega) hg0 hg ?_
        rw [btF_N (fun w => z w.1)] at hq
        exact hq
  unfold p8_bestTake
  refine L (h 69 7).toNat FUEL 0 (-1) 0 (by unfold FUEL; omega) (by omega) (by omega) (by omega) hq
theorem INV.w6 (hI : INV h) : okW (h 6) := fun j hj => by
  have := hI.2.2.2.1.2.2.2.2.1 j hj
  rw [this.1]; exact this.2
theorem INV.w71 (hI : INV h) : okW (h 71) := fun j hj => (hI.2.2.2.1.2.2.2.2.1 j hj).2
theorem INV.bt (hI : INV h) {x : Int} (hx : 0 ≤ x) (hx2 : x < h 69 1) : btV (VM h) (h 71) x = btV (VC 13 h) (h 6) x :=
  hI.2.2.1.bt hI.1.2.1 (fun k hk hk2 => hI.wo hx hx2 hk (by have := hI.s0; omega))
/-- how long to wait -/
def wtF (s c g : Int) : Nat → Int → Int → Nat → Int
  | 0, _, f, _ => f
  | m + 1, most, f, i => if w32 (lc (ld (g * (1000000000 - om s i)) 1000000000 - w32 i * w32 c) most) ≤ 0 then wtF s c g m most f (i + 1) else wtF s c g m (ld (g * (1000000000 - om s i)) 1000000000 - w32 i * w32 c) i (i + 1)
theorem op_waits (hI : INV h) {x y c : Int} (hx : can x) (hy : can y) (hc : can c) : p7_waits x y c h (fun r1 => p8_waits x y c h (fun r2 => w32 r1 = w32 r2)) := by
  have s0 := hI.s0
  have s1 := hI.s1
  have cn := hI.cnt
  have hst := hI.st
  unfold okSt at hst
  have := hc.1; have := hc.2
  have e := hI.2.2.1
  unfold p7_waits
  refine C_isHouse hx hI.1.1 (fun z1 z2 => brN (by decide) ?_) (fun z => brY (by decide) (by unfold p8_waits; exact M_isHouseN hI hx z (brY (by decide) rfl)))
  obtain ⟨n, rfl⟩ := Int.eq_ofNat_of_zero_le z1
  refine C_isSort hy hI.1.1 (fun y1 y2 => brN (by decide) ?_) (fun z => brY (by decide) (by unfold p8_waits; exact M_isHouseY hI z2 (brN (by decide) (M_isSortN hI hy z (brY (by decide) rfl)))))
  obtain ⟨k, rfl⟩ := Int.eq_ofNat_of_zero_le y1
  have mk : ∀ {P : Int → Prop}, (¬ (0 ≤ c ∧ c ≤ 99) → P (-1000000002)) → ((0 ≤ c ∧ c ≤ 99) → p8_bestTake n h fun r4 => jn (fun (y7 : Int) => p8_sortsOf n h fun r9 => p8_has r9 k h fun r10 => jn (fun (y13 : Int) => p8_waits_L96 c y13 h P FUEL y7 (-1) 0) fun K14 => brc (w32 r10 = 0) (rd h 71 30 ((6 * (n : Int)) + k) fun v19 => K14 (w32 v19)) (K14 0)) fun K8 => brc (0 ≤ w32 r4) (p8_gainOf n r4 h fun r20 => K8 (w32 r20)) (K8 0)) → p8_waits n k c h P := by
    intro P g1 g2
    unfold p8_waits
    refine M_isHouseY hI z2 (brN (by decide) (M_isSortY hI y2 (brN (by decide) ?_)))
    rw [w_id hc.1 hc.2]
    exact in_i ⟨by omega, by omega⟩ ⟨by omega, by omega⟩ ⟨by omega, by omega⟩ (fun a b => brN (by decide) (g2 ⟨a, b⟩)) (fun a => brY (by decide) (g1 a))
  refine brQ (wlt0 hc) (fun z => mk (fun _ => rfl) (fun q => by omega)) (fun z => ?_)
  refine brQ (wle hc ⟨by omega, by omega⟩) (fun w => ?_) (fun w => mk (fun _ => rfl) (fun q => by omega))
  refine C_gainOf hI.1 z2 y2 ?_
  have gb := gV_bd (V := VC 13 h) hI.w6 hI.1.1 z1 z2 y1 y2
  generalize hG : gV (VC 13 h) (h 6) n k = G at gb
  rw [w_id (x := G) (by omega) (by omega)]
  have LC : ∀ (Q : Int → Prop) (m f i : Nat) (mo fo : Int), m < f → i + m = 61 → Q (wtF (h 69 0) c G m mo fo i) → p7_waits_L72 c G h Q f mo (om (h 69 0) i) fo i := by
    intro Q m
    induction m with
    | zero =>
      intro f i mo fo hf hi hq
      obtain ⟨f, rfl⟩ : ∃ n', f = n' + 1 := ⟨f - 1, by omega⟩
      unfold p7_waits_L72
      exact brY ((wlt ⟨by omega, by omega⟩ ⟨by omega, by omega⟩).mpr (by omega)) hq
    | succ m ih =>
      intro f i mo fo hf hi hq
      obtain ⟨f, rfl⟩ : ∃ n', f = n' + 1 := ⟨f - 1, by omega⟩
      unfold p7_waits_L72
      refine brN (fun z => by have := (wlt ⟨by omega, by omega⟩ ⟨by omega, by omega⟩).mp z; omega) (jn_i ?_)
      have st : ∀ {P : Int → Prop}, P (om (h 69 0) (i + 1)) → p4_stillMissing (om (h 69 0) i) h P := by
        intro P hp
        unfold p4_stillMissing
        rw [s0]
        refine brN (fun z => by have := (wle0 ⟨by omega, by omega⟩).mp z; omega) ⟨?_, hp⟩
        rw [w_id (by omega) (by omega), wq_id (by omega) (by omega)]; omega
      refine brS (fun d => ?_) (fun d => ?_)
      · refine st (ih f (i + 1) _ _ (by omega) (by omega) ?_)
        rw [show wtF (h 69 0) c G (m + 1) mo fo i = wtF (h 69 0) c G m mo fo (i + 1) from if_pos d] at hq
        exact hq
      · refine st (ih f (i + 1) _ _ (by omega) (by omega) ?_)
        rw [show wtF (h 69 0) c G (m + 1) mo fo i = _ from if_neg d] at hq
        exact hq
  have LM : ∀ (Q : Int → Prop) (m f i : Nat) (mo fo : Int), m < f → i + m = 61 → Q (wtF (h 69 0) c G m mo fo i) → p8_waits_L96 c G h Q f mo fo i := by
    intro Q m
    induction m with
    | zero =>
      intro f i mo fo hf hi hq
      obtain ⟨f, rfl⟩ : ∃ n', f = n' + 1 := ⟨f - 1, by omega⟩
      unfold p8_waits_L96
      exact brY ((wlt ⟨by omega, by omega⟩ ⟨by omega, by omega⟩).mpr (by omega)) hq
    | succ m ih =>
      intro f i mo fo hf hi hq
      obtain ⟨f, rfl⟩ : ∃ n', f = n' + 1 := ⟨f - 1, by omega⟩
      unfold p8_waits_L96
      refine brN (fun z => by have := (wlt ⟨by omega, by omega⟩ ⟨by omega, by omega⟩).mp z; omega) ?_
      refine M_oddsBy (by omega) (by omega) (by omega) (jn_i ?_)
      refine brS (fun d => ?_) (fun d => ?_)
      · refine brY d (ih f (i + 1) _ _ (by omega) (by omega) ?_)
        rw [show wtF (h 69 0) c G (m + 1) mo fo i = wtF (h 69 0) c G m mo fo (i + 1) from if_pos d] at hq
        exact hq
      · refine brN d (ih f (i + 1) _ _ (by omega) (by omega) ?_)
        rw [show wtF (h 69 0) c G (m + 1) mo fo i = _ from if_neg d] at hq
        exact hq
  -- the model's part, for the greatest gain M
  have MM : ∀ (M : Int), (btV (VC 13 h) (h 6) n = -1 → M = 0) → (∀ q : Nat, q < nP (VC 13 h) → btV (VC 13 h) (h 6) n = q → M = gV (VC 13 h) (h 6) n (VC 13 h 1 q)) → p7_waits_L72 c G h (fun r1 => p8_waits n k c h (fun r2 => w32 r1 = w32 r2)) FUEL M 1000000000 (-1) 0 := by
    intro M m1 m2
    refine LC _ 61 FUEL 0 M (-1) (by unfold FUEL; omega) (by omega) ?_
    refine mk (fun q => by omega) (fun _ => ?_)
    refine M_bestTake hI.2.1 hI.w71 (by omega) (jn_i ?_)
    rw [hI.bt z1 (by omega)]
    have fin : p8_sortsOf n h fun r9 => p8_has r9 k h fun r10 => jn (fun (y13 : Int) => p8_waits_L96 c y13 h (fun r2 => w32 (wtF (h 69 0) c G 61 M (-1) 0) = w32 r2) FUEL M (-1) 0) fun K14 => brc (w32 r10 = 0) (rd h 71 30 ((6 * (n : Int)) + k) fun v19 => K14 (w32 v19)) (K14 0) := by
      refine M_sortsOf hI.2.1 hx ?_
      have hl := bs_lt6 hI.2.1.1 (fun k => decide (0 < cS (VM h) n k))
      have hG' : gV (VM h) (h 71) n k = G := by rw [hI.ga z1 (by omega) y1 (by omega)]; exact hG
      unfold gV at hG'
      have hcn := cS_nn (VM h) n k
      refine M_has (by omega) (by omega) (fun z => jn_i (brN (by decide) ?_)) (fun z => jn_i (brY (by decide) ?_))
      · rw [bs_test] at z
        simp only [Bool.and_eq_true, decide_eq_true_eq] at z
        rw [if_neg (by omega)] at hG'
        subst hG'
        exact LM (fun r2 => w32 (wtF (h 69 0) c 0 61 M (-1) 0) = w32 r2) 61 FUEL 0 M (-1) (by unfold FUEL; omega) (by omega) rfl
      · rw [bs_test] at z
        have : ¬ 0 < cS (VM h) n k := by
          intro c
          simp [c] at z
          omega
        rw [if_pos (by omega)] at hG'
        refine rd_i (by omega) (by omega) (by decide) ?_
        rw [show (6 * (n : Int) + k).toNat = ((n : Int) * 6 + k).toNat from by omega, hG', w_id (x := G) (by omega) (by omega)]
        exact LM (fun r2 => w32 (wtF (h 69 0) c G 61 M (-1) 0) = w32 r2) 61 FUEL 0 M (-1) (by unfold FUEL; omega) (by omega) rfl
    rcases btV_sp (VC 13 h) (h 6) n with q | ⟨q, q1, q2, q3, q4⟩
    · rw [q]
      refine brN (by decide) ?_
      rw [m1 q] at fin ⊢
      exact fin
    · have hq1 := lt_nP q1
      have hq2 : (q : Int) < h 13 1 := hq1
      have c2 : h 13 1 ≤ 32 := hI.1.2.1.2.1
      rw [q2]
      refine brY ((w0le ⟨by omega, by omega⟩).mpr (by omega)) ?_
      refine M_gainOf hI.2.1 (by omega) (by omega) ?_
      obtain ⟨p1, p2, p3, _⟩ := hI.1.part hq2
      have r1 : h 14 q = h 74 q := e.2.1 1 q (by decide) (by decide) hq1
      have p2' : 0 ≤ h 14 q := p2
      have p3' : h 14 q < h 2 0 := p3
      rw [← r1, hI.ga z1 (by omega) p2' (by omega), show h 14 q = VC 13 h 1 q from rfl, ← m2 q q1 q2]
      have gb2 := gV_bd (V := VC 13 h) hI.w6 hI.1.1 z1 z2 p2' p3'
      have em := m2 q q1 q2
      rw [w_id (x := M) (by rw [em]; have := gb2.1; show -2147483648 ≤ gV (VC 13 h) (h 6) n (h 14 q); omega) (by rw [em]; have := gb2.2; show gV (VC 13 h) (h 6) n (h 14 q) < _; omega)]
      exact fin
  unfold p5_greatestGain
  refine C_partToTake hI.1 hI.w6 z2 ?_
  rcases btV_sp (VC 13 h) (h 6) n with q | ⟨q, q1, q2, q3, q4⟩
  · rw [q]
    refine brY (by decide) ?_
    exact MM 0 (fun _ => rfl) (fun q' _ h2 => by rw [q] at h2; omega)
  · have hq1 := lt_nP q1
    have hq2 : (q : Int) < h 13 1 := hq1
    have c2 : h 13 1 ≤ 32 := hI.1.2.1.2.1
    rw [q2]
    refine brN (by rw [weq ⟨by omega, by omega⟩ ⟨by omega, by omega⟩]; omega) ?_
    obtain ⟨p1, p2, p3, _⟩ := hI.1.part hq2
    refine rd_n p1 (by decide) ?_
    obtain ⟨j, ej⟩ := Int.eq_ofNat_of_zero_le p2
    have gb2 := gV_bd (V := VC 13 h) hI.w6 hI.1.1 z1 z2 p2 p3
    rw [ej] at gb2 p3 ⊢
    refine C_gainOf hI.1 z2 p3 ?_
    show p7_waits_L72 c G h _ FUEL (w32 (gV (VC 13 h) (h 6) n j)) 1000000000 (-1) 0
    rw [w_id (by omega) (by omega)]
    refine MM _ (fun h1 => by rw [q2] at h1; omega) (fun q' _ h2 => ?_)
    have : q' = q := by rw [q2] at h2; omega
    subst this
    rw [show VC 13 h 1 q' = (j : Int) from ej]
end BT
