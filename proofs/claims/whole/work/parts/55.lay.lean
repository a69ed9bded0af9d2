/-! ===== PURE: laid out anew ===== -/
theorem eqv.rf {V : HP} : eqv V V := ⟨fun _ _ => rfl, fun _ _ _ _ _ => rfl, fun _ _ _ _ => rfl⟩
theorem eqv.sy {V V' : HP} (e : eqv V V') : eqv V' V := by
  have e0 := e.1 0 (by decide)
  refine ⟨fun j hj => (e.1 j hj).symm, fun i p h1 h2 hp => (e.2.1 i p h1 h2 (by rw [e0]; exact hp)).symm, fun p j hp hj => ?_⟩
  have hp' : (p : Int) < V 0 0 := by rw [e0]; exact hp
  exact (e.2.2 p j hp' (by rw [e.2.1 4 p (by decide) (by decide) hp']; exact hj)).symm
theorem eqv.tr {V V' V'' : HP} (e : eqv V V') (d : eqv V' V'') : eqv V V'' := by
  have e0 := e.1 0 (by decide)
  refine ⟨fun j hj => (e.1 j hj).trans (d.1 j hj), fun i p h1 h2 hp => (e.2.1 i p h1 h2 hp).trans (d.2.1 i p h1 h2 (by rw [← e0]; exact hp)), fun p j hp hj => ?_⟩
  exact (e.2.2 p j hp hj).trans (d.2.2 p j (by rw [← e0]; exact hp) (by rw [← e.2.1 4 p (by decide) (by decide) hp]; exact hj))
theorem wf_eqv {s n : Int} {V V' : HP} (hV : wfV s n V) (e : eqv V V') : wfV s n V' := by
  obtain ⟨a1, a2, a3, a4, a5, a6⟩ := hV
  have e0 := e.1 0 (by decide)
  have e2 := e.1 2 (by decide)
  refine ⟨by rw [← e0]; exact a1, by rw [← e0]; exact a2, fun p hp => ?_, fun x h1 h2 => by rw [e.co]; exact a4 x h1 h2, by rw [← e2]; exact a5, by rw [← e2]; exact a6⟩
  have hp' : (p : Int) < V 0 0 := by rw [e0]; exact hp
  have := a3 p hp'
  unfold okP at this ⊢
  rw [← e.2.1 1 p (by decide) (by decide) hp', ← e.2.1 2 p (by decide) (by decide) hp', ← e.2.1 3 p (by decide) (by decide) hp', ← e.2.1 4 p (by decide) (by decide) hp']
  exact this
theorem J_fill {c n : Nat} {v : Int} {Q : HP → Prop} (hn : n ≤ 1000) {h : HP} (hq : ∀ h', (∀ c', c' ≠ c → h' c' = h c') → (∀ j, j < n → h' c j = v) → Q h') : pJ_fill c n v h Q := by
  have L : ∀ (m f i : Nat) (g : HP), m < f → i + m = n → (∀ c', c' ≠ c → g c' = h c') → (∀ j, j < i → g c j = v) → pJ_fill_L5 c n v Q f g i := by
    intro m
    induction m with
    | zero =>
      intro f i g hf hi g1 g2
      obtain ⟨f, rfl⟩ : ∃ n', f = n' + 1 := ⟨f - 1, by omega⟩
      unfold pJ_fill_L5
      exact brY ((wle ⟨by omega, by omega⟩ ⟨by omega, by omega⟩).mpr (by omega)) (hq g g1 (fun j hj => g2 j (by omega)))
    | succ m ih =>
      intro f i g hf hi g1 g2
      obtain ⟨f, rfl⟩ : ∃ n', f = n' + 1 := ⟨f - 1, by omega⟩
      unfold pJ_fill_L5
      refine brN (fun z => by have := (wle ⟨by omega, by omega⟩ ⟨by omega, by omega⟩).mp z; omega) ?_
      refine wr_n (by omega) (by omega) ?_
      refine ih f (i + 1) _ (by omega) (by omega) (fun c' hc => by rw [hset_c hc]; exact g1 c' hc) (fun j hj => ?_)
      by_cases q : j = i
      · subst q; rw [hset_rs]
      · rw [hset_rn q]; exact g2 j (by omega)
  exact L n FUEL 0 h (by unfold FUEL; omega) (by omega) (fun _ _ => rfl) (fun j hj => by omega)
/-- the first i of what was told -/
def LY (S H : Nat → Int) (sd : Int) (V : HP) (i : Nat) : Prop := V 0 0 = i ∧ V 0 1 = 0 ∧ V 0 2 = sd ∧ ∀ p : Nat, p < i → V 1 p = S p ∧ V 2 p = H p ∧ V 3 p = -1 ∧ V 4 p = 1 ∧ V 5 (20 * p) = H p
theorem LY.eq {S H S' H' : Nat → Int} {sd : Int} {V V' : HP} {i : Nat} (a : LY S H sd V i) (b : LY S' H' sd V' i) (hS : ∀ p, p < i → S' p = S p) (hH : ∀ p, p < i → H' p = H p) : eqv V V' := by
  obtain ⟨a1, a2, a3, a4⟩ := a
  obtain ⟨b1, b2, b3, b4⟩ := b
  refine ⟨fun j hj => ?_, fun r p h1 h2 hp => ?_, fun p j hp hj => ?_⟩
  · match j, hj with
    | 0, _ => rw [a1, b1]
    | 1, _ => rw [a2, b2]
    | 2, _ => rw [a3, b3]
  · have := a4 p (by omega)
    have := b4 p (by omega)
    have := hS p (by omega)
    have := hH p (by omega)
    match r, h1, h2 with
    | 1, _, _ => omega
    | 2, _, _ => omega
    | 3, _, _ => omega
    | 4, _, _ => omega
  · have x1 := a4 p (by omega)
    have x2 := b4 p (by omega)
    have x3 := hH p (by omega)
    obtain rfl : j = 0 := by omega
    rw [Nat.add_zero, x1.2.2.2.2, x2.2.2.2.2, x3]
section LAY
variable {b : Nat}
theorem C_addPartH {Q : Int → HP → Prop} {h : HP} (hb : 13 ≤ b) (hI : SI b h) {k x : Nat} (hk : (k : Int) < h 2 0) (hx : (x : Int) < h 2 1) (hc : h b 1 < 32) (h4 : cO (VC b h) x < 4) (h1 : ∀ h', SI b h' → VC b h' = takeV (addV (VC b h) k) x (nP (VC b h)) → FR b h h' → Q 1 h') : p5_addPart b k x h Q := by
  have c1 : 0 ≤ h b 1 := hI.2.1.1
  obtain ⟨a1, a2, a3, a4⟩ := id hI.1
  have t := C_addPart (Q := fun r h' => SI b h' ∧ VC b h' = addV (VC b h) k ∧ FR b h h') hb hI hk (fun _ h' a b c _ => ⟨a, b, c⟩) (fun q => by omega)
  unfold p5_addPart at t ⊢
  have hcw : w32 (h b 1) < w32 32 := (wlt ⟨by omega, by omega⟩ ⟨by omega, by omega⟩).mpr hc
  refine brY hcw ?_
  obtain ⟨w1, w2, w3, w4, w5⟩ := t.1 hcw
  obtain ⟨i1, i2, i3⟩ := w5.1 rfl
  refine pf_i (And.intro w1 (And.intro w2 (And.intro w3 (And.intro w4 ?_))))
  refine brN (by rw [weq ⟨by omega, by omega⟩ ⟨by omega, by omega⟩]; omega) ?_
  have en : nP (VC b h) = (h b 1).toNat := rfl
  have ei : h b 1 = (((h b 1).toNat : Nat) : Int) := by omega
  generalize hh5 : hset _ (b + 4) _ 0 = h5 at i1 i2 i3 ⊢
  obtain ⟨f2, _, _⟩ := fr_SI hb i3
  have e1 : h5 b 1 = h b 1 + 1 := by
    show VC b h5 0 0 = VC b h 0 0 + 1
    rw [i2, add_0, if_pos rfl]
  rw [ei]
  refine C_handOver hb i1 (by rw [f2]; exact hx) (by rw [e1]; omega) ?_ (fun h' j1 j2 j3 j4 => ?_)
  · rw [i2]
    refine ⟨by rw [cO_add c1 x (by omega)]; exact h4, ?_, ?_⟩
    · rw [← en]; exact add_2
    · rw [← en, add_3]; omega
  · refine h1 h' j1 (by rw [j2, i2, en]) (i3.tr j3)
theorem LY.co {S H : Nat → Int} {sd : Int} {V : HP} {i : Nat} (a : LY S H sd V i) (x : Int) : cO V x = fs (fun q => if H q = x then 1 else 0) 0 i := by
  unfold cO
  rw [show nP V = i from by unfold nP; rw [a.1]; rfl]
  exact fs_congr _ 0 (fun q _ hq => by rw [(a.2.2.2 q (by omega)).2.1])
theorem LY.step {S H : Nat → Int} {sd : Int} {V : HP} {i : Nat} (a : LY S H sd V i) : LY S H sd (takeV (addV V (S i)) (H i) (nP V)) (i + 1) := by
  obtain ⟨a1, a2, a3, a4⟩ := a
  have en : nP V = i := by unfold nP; rw [a1]; rfl
  have h4 : addV V (S i) 4 i = 0 := by rw [← en]; exact add_4
  rw [en]
  have e0 : takeV (addV V (S i)) (H i) i 0 = addV V (S i) 0 := take_c (by decide)
  refine ⟨by rw [e0, add_0, if_pos rfl, a1]; rfl, by rw [e0, add_0, if_neg (by decide)]; exact a2, by rw [e0, add_0, if_neg (by decide)]; exact a3, fun p hp => ?_⟩
  rw [take_c (show (1 : Nat) < 2 ∨ 5 < 1 by decide), take_2, take_3, take_4, take_5, h4]
  by_cases q : p = i
  · subst q
    rw [if_pos rfl, if_pos rfl, if_pos ⟨rfl, by decide⟩, if_pos ⟨rfl, by decide⟩]
    refine ⟨?_, rfl, rfl, rfl, rfl⟩
    have := add_1 (V := V) (k := S p)
    rw [en] at this; exact this
  · rw [if_neg q, if_neg q, if_neg (fun z => q z.1), if_neg (fun z => by have := z.1; omega)]
    rw [add_c (by decide) (by rw [en]; exact q), add_c (by decide) (by rw [en]; exact q), add_c (by decide) (by rw [en]; exact q), add_c (by decide) (by rw [en]; exact q)]
    have g : ∀ j : Nat, addV V (S i) 5 j = V 5 j := fun j => by
      unfold addV
      rw [hset_c (by decide), hset_c (by decide), hset_c (by decide), hset_c (by decide), hset_c (by decide)]
    rw [g]
    exact a4 p (by omega)
/-- what is told may be laid out -/
def TOLD (s n : Int) (c : Nat) (S H : Nat → Int) : Prop := okSt s n ∧ c ≤ 20 ∧ (∀ p, p < c → 0 ≤ S p ∧ S p < s ∧ 0 ≤ H p ∧ H p < n) ∧ ∀ x : Int, 0 ≤ x → x < n → fs (fun q => if H q = x then 1 else 0) 0 c ≤ 4
theorem C_layOut {Q : HP → Prop} {h : HP} {S H : Nat → Int} {c : Nat} (hb : 13 ≤ b) (hT : TOLD (h 2 0) (h 2 1) c S H) (hc : h 2 2 = c) (hS : h 4 = S) (hH : h 5 = H) (hsd : 0 ≤ h b 3 ∧ h b 3 < 2147483648) (hq : ∀ h', SI b h' → LY S H (h b 3) (VC b h') c → FR b h h' → Q h') : p5_layOut b h Q := by
  obtain ⟨⟨s1, s2, s3, s4⟩, t2, t3, t4⟩ := id hT
  unfold p5_layOut
  refine pf_i (pf_i ?_)
  refine J_fill (by decide) (fun g1 f1 f2 => ?_)
  refine J_fill (by decide) (fun g2 f3 f4 => ?_)
  have gc : ∀ c, c < b ∨ b + 7 < c → g2 c = h c := fun c hc => by rw [f3 c (by omega), f1 c (by omega), hset_c (by omega), hset_c (by omega)]
  have gb : g2 b = hset (hset h b 1 0) b 2 0 b := by rw [f3 b (by omega), f1 b (by omega)]
  have gb1 : g2 b 1 = 0 := by rw [gb, hset_rn (by decide), hset_rs]
  have gb2 : g2 b 2 = 0 := by rw [gb, hset_rs]
  have gb3 : g2 b 3 = h b 3 := by rw [gb, hset_rn (by decide), hset_rn (by decide)]
  have g22 : g2 2 = h 2 := gc 2 (by omega)
  have v00 : VC b g2 0 0 = 0 := gb1
  have np0 : nP (VC b g2) = 0 := by unfold nP; rw [v00]; rfl
  have hI : SI b g2 := by
    have c0 : ∀ x, cO (VC b g2) x = 0 := fun x => by unfold cO; rw [np0]; rfl
    have c1 : ∀ x k, cS (VC b g2) x k = 0 := fun x k => by unfold cS; rw [np0]; rfl
    refine ⟨by rw [g22]; exact hT.1, ⟨by rw [v00]; decide, by rw [v00]; decide, fun p hp => by rw [v00] at hp; omega, fun x _ _ => by rw [c0]; decide, by show 0 ≤ g2 b 3; rw [gb3]; exact hsd.1, by show g2 b 3 < _; rw [gb3]; exact hsd.2⟩, fun x hx => ?_, fun x k hx hk => ?_⟩
    · rw [g22] at hx
      rw [c0, f3 (b + 6) (by omega)]; exact f2 x (by omega)
    · rw [g22] at hx hk
      rw [c1]; exact f4 _ (by omega)
  have L : ∀ (m f i : Nat) (g : HP), m < f → i + m = c → SI b g → LY S H (h b 3) (VC b g) i → FR b h g → p5_layOut_L28 b Q f g i := by
    intro m
    induction m with
    | zero =>
      intro f i g hf hi hI hL hF
      obtain ⟨f, rfl⟩ : ∃ n', f = n' + 1 := ⟨f - 1, by omega⟩
      have e2 : g 2 = h 2 := hF 2 (by omega)
      unfold p5_layOut_L28
      rw [e2, hc]
      refine brY ((wle ⟨by omega, by omega⟩ ⟨by omega, by omega⟩).mpr (by omega)) ?_
      obtain rfl : i = c := by omega
      exact hq g hI hL hF
    | succ m ih =>
      intro f i g hf hi hI hL hF
      obtain ⟨f, rfl⟩ : ∃ n', f = n' + 1 := ⟨f - 1, by omega⟩
      have e2 : g 2 = h 2 := hF 2 (by omega)
      have e4 : g 4 = S := by rw [hF 4 (by omega), hS]
      have e5 : g 5 = H := by rw [hF 5 (by omega), hH]
      have ti := t3 i (by omega)
      unfold p5_layOut_L28
      rw [e2, hc]
      refine brN (fun z => by have := (wle ⟨by omega, by omega⟩ ⟨by omega, by omega⟩).mp z; omega) ?_
      refine rd_n (by omega) (by decide) (rd_n (by omega) (by decide) ?_)
      rw [e4, e5]
      obtain ⟨k, ek⟩ := Int.eq_ofNat_of_zero_le ti.1
      obtain ⟨x, ex⟩ := Int.eq_ofNat_of_zero_le ti.2.2.1
      have hL1 := hL.1
      have hL1' : g b 1 = i := hL1
      have st := hL.step
      rw [ek, ex] at st ⊢
      have h4 := t4 x (by omega) (by omega)
      rw [show c = i + (m + 1) from by omega, fs_add, Nat.zero_add] at h4
      have hpos : fs (fun q => if H q = (x : Int) then (1 : Int) else 0) i (m + 1) = (if H i = (x : Int) then (1 : Int) else 0) + fs (fun q => if H q = (x : Int) then (1 : Int) else 0) (i + 1) m := rfl
      rw [if_pos ex] at hpos
      have hnn := fs_nn (f := fun q => if H q = (x : Int) then (1 : Int) else 0) (i + 1) m (fun q _ _ => by by_cases z : H q = (x : Int) <;> simp [z])
      refine C_addPartH hb hI (by rw [e2]; omega) (by rw [e2]; omega) (by omega) (by rw [hL.co]; omega) (fun g' i1 i2 i3 => ?_)
      refine ih f (i + 1) g' (by omega) (by omega) i1 (by rw [i2]; exact st) (hF.tr i3)
  refine L c FUEL 0 g2 (by unfold FUEL; omega) (by omega) hI ⟨gb1, gb2, gb3, fun p hp => by omega⟩ (fun c hc => gc c hc)
theorem M_begin {Q : Int → HP → Prop} {h : HP} {S H : Nat → Int} {c : Nat} (hc : h 69 4 = c) (hc2 : c ≤ 20) (hS : h 72 = S) (hH : h 73 = H) (hq : ∀ h', LY S H (h 69 14) (VM h') c → FM h h' → Q (h 69 13) h') : p8_begin h Q := by
  unfold p8_begin
  refine pf_i (pf_i ?_)
  rw [show hset h 69 13 0 69 4 = c from by rw [hset_rn (by decide), hc]]
  have L : ∀ (m f i : Nat) (g : HP), m < f → i + m = c → FM h g → VM g 0 0 = c → VM g 0 1 = 0 → VM g 0 2 = h 69 14 → (∀ p : Nat, p < i → VM g 1 p = S p ∧ VM g 2 p = H p ∧ VM g 3 p = -1 ∧ VM g 4 p = 1 ∧ VM g 5 (20 * p) = H p) → p8_begin_L20 (h 69 13) Q f g i := by
    intro m
    induction m with
    | zero =>
      intro f i g hf hi hF v0 v1 v2 v3
      obtain ⟨f, rfl⟩ : ∃ n', f = n' + 1 := ⟨f - 1, by omega⟩
      have v0' : g 69 7 = c := v0
      unfold p8_begin_L20
      refine brY ((wle ⟨by omega, by omega⟩ ⟨by omega, by omega⟩).mpr (by omega)) ?_
      obtain rfl : i = c := by omega
      exact hq g ⟨v0, v1, v2, v3⟩ hF
    | succ m ih =>
      intro f i g hf hi hF v0 v1 v2 v3
      obtain ⟨f, rfl⟩ : ∃ n', f = n' + 1 := ⟨f - 1, by omega⟩
      have v0' : g 69 7 = c := v0
      have e72 : g 72 = S := by rw [hF.1 72 (by decide), hS]
      have e73 : g 73 = H := by rw [hF.1 73 (by decide), hH]
      unfold p8_begin_L20
      refine brN (fun z => by have := (wle ⟨by omega, by omega⟩ ⟨by omega, by omega⟩).mp z; omega) ?_
      refine rd_n (by omega) (by decide) (wr_n (by omega) (by decide) (rd_n (by omega) (by decide) (wr_n (by omega) (by decide) (wr_n (by omega) (by decide) (wr_n (by omega) (by decide) (rd_n (by omega) (by decide) (wr_i (by omega) (by omega) (by decide) ?_)))))))
      rw [show (20 * (i : Int)).toNat = 20 * i from by omega]
      rw [hset_c (show (73 : Nat) ≠ 77 by decide), hset_c (show (73 : Nat) ≠ 76 by decide), hset_c (show (73 : Nat) ≠ 75 by decide), hset_c (show (73 : Nat) ≠ 74 by decide), e72, e73]
      have hv : VM (hset (hset (hset (hset (hset g 74 i (S i)) 75 i (H i)) 76 i (-1)) 77 i 1) 78 (20 * i) (H i)) = hset (hset (hset (hset (hset (VM g) 1 i (S i)) 2 i (H i)) 3 i (-1)) 4 i 1) 5 (20 * i) (H i) := by
        rw [show (78 : Nat) = 73 + 5 from rfl, VM_arr (by decide) (by decide), show (77 : Nat) = 73 + 4 from rfl, VM_arr (by decide) (by decide), show (76 : Nat) = 73 + 3 from rfl, VM_arr (by decide) (by decide), show (75 : Nat) = 73 + 2 from rfl, VM_arr (by decide) (by decide), show (74 : Nat) = 73 + 1 from rfl, VM_arr (by decide) (by decide)]
      have r0 : ∀ j, VM (hset (hset (hset (hset (hset g 74 i (S i)) 75 i (H i)) 76 i (-1)) 77 i 1) 78 (20 * i) (H i)) 0 j = VM g 0 j := fun j => by
        rw [hv, hset_c (by decide), hset_c (by decide), hset_c (by decide), hset_c (by decide), hset_c (by decide)]
      refine ih f (i + 1) _ (by omega) (by omega) (((((hF.set (by decide)).set (by decide)).set (by decide)).set (by decide)).set (by decide)) (by rw [r0]; exact v0) (by rw [r0]; exact v1) (by rw [r0]; exact v2) (fun p hp => ?_)
      rw [hv]
      rw [hset_c (show (1 : Nat) ≠ 5 by decide), hset_c (show (1 : Nat) ≠ 4 by decide), hset_c (show (1 : Nat) ≠ 3 by decide), hset_c (show (1 : Nat) ≠ 2 by decide)]
      rw [hset_c (show (2 : Nat) ≠ 5 by decide), hset_c (show (2 : Nat) ≠ 4 by decide), hset_c (show (2 : Nat) ≠ 3 by decide)]
      rw [hset_c (show (3 : Nat) ≠ 5 by decide), hset_c (show (3 : Nat) ≠ 4 by decide), hset_c (show (4 : Nat) ≠ 5 by decide)]
      by_cases q : p = i
      · subst q
        rw [hset_rs, hset_rs, hset_rs, hset_rs, hset_rs]
        exact ⟨rfl, rfl, rfl, rfl, rfl⟩
      · rw [hset_rn q, hset_rn q, hset_rn q, hset_rn q, hset_rn (show 20 * p ≠ 20 * i by omega)]
        rw [hset_c (show (2 : Nat) ≠ 1 by decide), hset_c (show (3 : Nat) ≠ 2 by decide), hset_c (show (3 : Nat) ≠ 1 by decide), hset_c (show (4 : Nat) ≠ 3 by decide), hset_c (show (4 : Nat) ≠ 2 by decide), hset_c (show (4 : Nat) ≠ 1 by decide), hset_c (show (5 : Nat) ≠ 4 by decide), hset_c (show (5 : Nat) ≠ 3 by decide), hset_c (show (5 : Nat) ≠ 2 by decide), hset_c (show (5 : Nat) ≠ 1 by decide)]
        exact v3 p (by omega)
  refine L c FUEL 0 _ (by unfold FUEL; omega) (by omega) ((FM.rf.fld (by decide)).fld (by decide)) ?_ ?_ ?_ (fun p hp => by omega)
  · rw [VM_f0, hset_rs]
  · rw [VM_f0, VM_f1, hset_rn (by decide), hset_rs]
  · rw [VM_f0, VM_f1, hset_rn (by decide), hset_rn (by decide)]; rfl
theorem op_begin {h : HP} (hI : INV h) : p7_begin h (fun r1 h1 => p8_begin h1 (fun r2 h2 => OK2 r1 r2 h2)) := by
  obtain ⟨t1, t2, t3, t4, t5, t6, t7, t8, t9⟩ := hI.2.2.2.1
  have e := hI.2.2.1
  obtain ⟨c, hc⟩ := Int.eq_ofNat_of_zero_le t6
  have a5 : 0 ≤ h 13 3 := hI.1.2.1.2.2.2.2.1
  have a6 : h 13 3 < 2147483648 := hI.1.2.1.2.2.2.2.2
  have hsd : h 13 3 = h 69 14 := e.1 2 (by decide)
  have hT : TOLD (h 2 0) (h 2 1) c (h 4) (h 5) := by
    refine ⟨hI.1.1, by omega, fun p hp => ?_, fun x h1 h2 => ?_⟩
    · have := t8 p (by omega)
      omega
    · have := t9 x h1 (by omega)
      rw [hc] at this
      rw [fs_congr (g := fun q => if h 73 q = x then 1 else 0) c 0 (fun q _ hq => by rw [(t8 q (by omega)).2.1])]
      exact this
  unfold p7_begin
  refine C_layOut (by decide) hT (by rw [t3, hc]) rfl rfl ⟨a5, a6⟩ (fun h1 i1 i2 i3 => ?_)
  have f69 : h1 69 = h 69 := i3 69 (by decide)
  refine M_begin (h := h1) (c := c) (by rw [f69, hc]) (by omega) rfl rfl (fun h2 j1 j2 => ?_)
  rw [f69, ← hsd] at j1
  have ee : eqv (VC 13 h1) (VM h2) := i2.eq j1 (fun p hp => by rw [i3 72 (by decide), (t8 p (by omega)).1]) (fun p hp => by rw [i3 73 (by decide), (t8 p (by omega)).2.1])
  refine ⟨by rw [f69, show h 13 2 = h 69 13 from e.1 1 (by decide)], ?_⟩
  have f2 : h1 2 = h 2 := i3 2 (by decide)
  have hM : MI h2 := by
    have e0 := j2.2 0 (by decide) (by decide) (by decide)
    have e1 := j2.2 1 (by decide) (by decide) (by decide)
    unfold MI
    rw [e0, e1, f69]
    refine ⟨hI.st, ?_⟩
    have := wf_eqv i1.2.1 ee
    rw [f2, t1, t2] at this
    exact this
  exact INV_step hI i1 i3 hM j2 ee
end LAY
