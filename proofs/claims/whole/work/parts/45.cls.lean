/-! ===== PURE: what the class does to a stock ===== -/
theorem pf_i {h : HP} {c k : Nat} {v : Int} {K : HP → Prop} (hk : K (hset h c k v)) : pf h c k v K := hk
theorem cp_i {h : HP} {c1 c2 n : Nat} {K : HP → Prop} (hk : K (hcpy h c1 0 c2 0 n)) : cpw h c1 c2 n K := hk
theorem jn_i {α : Sort _} {K : α} {B : α → Prop} (h : B K) : jn K B := h
def FR (b : Nat) (h h' : HP) : Prop := ∀ c, (c < b ∨ b + 7 < c) → h' c = h c
theorem FR.rf {b : Nat} {h : HP} : FR b h h := fun _ _ => rfl
theorem FR.tr {b : Nat} {h h1 h2 : HP} (a : FR b h h1) (c : FR b h1 h2) : FR b h h2 := fun k hk => (c k hk).trans (a k hk)
theorem FR.set {b : Nat} {h h1 : HP} {c j : Nat} {v : Int} (a : FR b h h1) (hc : b ≤ c ∧ c ≤ b + 7) : FR b h (hset h1 c j v) := fun k hk => by rw [hset_c (by omega)]; exact a k hk
section CD
variable {b : Nat} {h : HP}
theorem C_throwOut {Q : Int → HP → Prop} (hb : 13 ≤ b) (hI : SI b h) {x p : Nat} (hx : (x : Int) < h 2 1) (hp : (p : Int) < h b 1) (h1 : h (b + 2) p = x → ∀ h', SI b h' → VC b h' = tossV (VC b h) x p → FR b h h' → h' b 4 = h b 4 + 1 → Q 1 h') (h0 : ¬ h (b + 2) p = x → Q 0 h) : p5_throwOut b x p h Q := by
  obtain ⟨q1, q2, q3, q4, q5, q6, q7, q8, q9, q10⟩ := hI.part hp
  obtain ⟨a1, a2, a3, a4⟩ := id hI.1
  have hpn : p < nP (VC b h) := by have := nP_c hI.2.1.1; show p < nP (VC b h); have e : VC b h 0 0 = h b 1 := rfl; omega
  unfold p5_throwOut
  refine rd_n q1 (by decide) ?_
  refine brQ (weq ⟨by omega, by omega⟩ ⟨by omega, by omega⟩) (fun z => ?_) (fun z => h0 z)
  refine wr_n q1 (by decide) ?_
  refine wr_n q1 (by decide) ?_
  refine rd_n (show x < 5 by omega) (by decide) ?_
  refine wr_n (show x < 5 by omega) (by decide) ?_
  refine rd_n q1 (by decide) ?_
  rw [hset_c (show b + 6 ≠ b + 3 by omega), hset_c (show b + 6 ≠ b + 2 by omega), hset_c (show b + 1 ≠ b + 6 by omega), hset_c (show b + 1 ≠ b + 3 by omega), hset_c (show b + 1 ≠ b + 2 by omega)]
  have ek : h (b + 1) p = (((h (b + 1) p).toNat : Nat) : Int) := by omega
  refine rd_i (by omega) (by omega) (by decide) ?_
  refine wr_i (by omega) (by omega) (by decide) ?_
  rw [hset_c (show b + 7 ≠ b + 6 by omega), hset_c (show b + 7 ≠ b + 3 by omega), hset_c (show b + 7 ≠ b + 2 by omega)]
  rw [show ((x : Int) * 6 + h (b + 1) p).toNat = x * 6 + (h (b + 1) p).toNat from by omega]
  show Q 1 _
  refine h1 z _ ?_ ?_ ?_ ?_
  · have hv : VC b (hset (hset (hset (hset (hset h (b + 2) p (-1)) (b + 3) p x) (b + 6) x (h (b + 6) x - 1)) (b + 7) (x * 6 + (h (b + 1) p).toNat) (h (b + 7) (x * 6 + (h (b + 1) p).toNat) - 1)) b 4 (hset (hset (hset (hset h (b + 2) p (-1)) (b + 3) p x) (b + 6) x (h (b + 6) x - 1)) (b + 7) (x * 6 + (h (b + 1) p).toNat) (h (b + 7) (x * 6 + (h (b + 1) p).toNat) - 1) b 4 + 1)) = tossV (VC b h) x p := by
      rw [VC_mv, VC_oth (by omega), VC_oth (by omega), VC_arr (by decide) (by decide), VC_arr (by decide) (by decide)]; rfl
    have e2 : (hset (hset (hset (hset (hset h (b + 2) p (-1)) (b + 3) p x) (b + 6) x (h (b + 6) x - 1)) (b + 7) (x * 6 + (h (b + 1) p).toNat) (h (b + 7) (x * 6 + (h (b + 1) p).toNat) - 1)) b 4 (hset (hset (hset (hset h (b + 2) p (-1)) (b + 3) p x) (b + 6) x (h (b + 6) x - 1)) (b + 7) (x * 6 + (h (b + 1) p).toNat) (h (b + 7) (x * 6 + (h (b + 1) p).toNat) - 1) b 4 + 1)) 2 = h 2 := by
      rw [hset_c (by omega), hset_c (by omega), hset_c (by omega), hset_c (by omega), hset_c (by omega)]
    refine ⟨by rw [e2]; exact hI.1, by rw [e2, hv]; exact wf_toss hI.2.1 hpn z (by omega) hx, fun y hy => ?_, fun y k hy hk => ?_⟩
    · rw [e2] at hy
      rw [hv, cO_toss hpn z (by omega) y (by omega)]
      rw [hset_c (by omega), hset_c (by omega)]
      by_cases c : y = x
      · subst c; rw [hset_rs, hI.2.2.1 y hy, if_pos rfl]
      · rw [hset_rn c, hset_c (by omega), hset_c (by omega), hI.2.2.1 y hy, if_neg (by omega)]; omega
    · rw [e2] at hy hk
      rw [hv, cS_toss hpn z (by omega) y k (by omega)]
      rw [hset_c (by omega)]
      by_cases c : y = x ∧ k = (h (b + 1) p).toNat
      · obtain ⟨rfl, rfl⟩ := c
        rw [hset_rs, hI.2.2.2 y _ hy hk, if_pos ⟨rfl, ek⟩]
      · rw [hset_rn (by omega), hset_c (by omega), hset_c (by omega), hset_c (by omega), hI.2.2.2 y k hy hk, if_neg (fun w => c ⟨by omega, by have : h (b + 1) p = (k : Int) := w.2; omega⟩)]; omega
  · rw [VC_mv, VC_oth (by omega), VC_oth (by omega), VC_arr (by decide) (by decide), VC_arr (by decide) (by decide)]; rfl
  · exact ((((FR.rf.set (by omega)).set (by omega)).set (by omega)).set (by omega)).set (by omega)
  · rw [hset_rs, hset_c (by omega), hset_c (by omega), hset_c (by omega), hset_c (by omega)]
/-- a house gets a part that lies (mayT), or one that is new -/
theorem C_handOver {Q : HP → Prop} (hb : 13 ≤ b) (hI : SI b h) {x p : Nat} (hx : (x : Int) < h 2 1) (hp : (p : Int) < h b 1) (hm : mayT (VC b h) x p) (h1 : ∀ h', SI b h' → VC b h' = takeV (VC b h) x p → FR b h h' → h' b = h b → Q h') : p5_handOver b x p h Q := by
  obtain ⟨q1, q2, q3, q4, q5, q6, q7, q8, q9, q10⟩ := hI.part hp
  obtain ⟨a1, a2, a3, a4⟩ := id hI.1
  have hpn : p < nP (VC b h) := by have := nP_c hI.2.1.1; have e : VC b h 0 0 = h b 1 := rfl; omega
  have hwf := wf_take hI.2.1 hpn hm (show (0 : Int) ≤ x by omega) hx
  have ek : h (b + 1) p = (((h (b + 1) p).toNat : Nat) : Int) := by omega
  have hcO : ∀ y : Nat, (y : Int) < h 2 1 → hset h (b + 6) x (h (b + 6) x + 1) (b + 6) y = cO (takeV (VC b h) x p) y := by
    intro y hy
    rw [cO_take hpn hm.2.1 y (by omega)]
    by_cases c : y = x
    · subst c; rw [hset_rs, hI.2.2.1 y hy, if_pos rfl]
    · rw [hset_rn c, hI.2.2.1 y hy, if_neg (by omega)]; omega
  have hcS : ∀ y k : Nat, (y : Int) < h 2 1 → (k : Int) < h 2 0 → hset h (b + 7) (x * 6 + (h (b + 1) p).toNat) (h (b + 7) (x * 6 + (h (b + 1) p).toNat) + 1) (b + 7) (y * 6 + k) = cS (takeV (VC b h) x p) y k := by
    intro y k hy hk
    rw [cS_take hpn hm.2.1 y k (by omega)]
    by_cases c : y = x ∧ k = (h (b + 1) p).toNat
    · obtain ⟨rfl, rfl⟩ := c
      rw [hset_rs, hI.2.2.2 y _ hy hk, if_pos ⟨rfl, ek⟩]
    · rw [hset_rn (by omega), hI.2.2.2 y k hy hk, if_neg (fun w => c ⟨by omega, by have : h (b + 1) p = (k : Int) := w.2; omega⟩)]; omega
  unfold p5_handOver
  refine wr_n q1 (by decide) ?_
  refine wr_n q1 (by decide) ?_
  refine rd_n (show x < 5 by omega) (by decide) ?_
  refine wr_n (show x < 5 by omega) (by decide) ?_
  refine rd_n q1 (by decide) ?_
  rw [hset_c (show b + 6 ≠ b + 3 by omega), hset_c (show b + 6 ≠ b + 2 by omega), hset_c (show b + 1 ≠ b + 6 by omega), hset_c (show b + 1 ≠ b + 3 by omega), hset_c (show b + 1 ≠ b + 2 by omega)]
  refine rd_i (by omega) (by omega) (by decide) ?_
  refine wr_i (by omega) (by omega) (by decide) ?_
  rw [hset_c (show b + 7 ≠ b + 6 by omega), hset_c (show b + 7 ≠ b + 3 by omega), hset_c (show b + 7 ≠ b + 2 by omega)]
  rw [show ((x : Int) * 6 + h (b + 1) p).toNat = x * 6 + (h (b + 1) p).toNat from by omega]
  refine rd_n q1 (by decide) ?_
  rw [hset_c (show b + 4 ≠ b + 7 by omega), hset_c (show b + 4 ≠ b + 6 by omega), hset_c (show b + 4 ≠ b + 3 by omega), hset_c (show b + 4 ≠ b + 2 by omega)]
  generalize hh7 : hset (hset (hset (hset h (b + 2) p x) (b + 3) p (-1)) (b + 6) x (h (b + 6) x + 1)) (b + 7) (x * 6 + (h (b + 1) p).toNat) (h (b + 7) (x * 6 + (h (b + 1) p).toNat) + 1) = h7
  have f6 : ∀ j, h7 (b + 6) j = hset h (b + 6) x (h (b + 6) x + 1) (b + 6) j := by
    intro j
    rw [← hh7, hset_c (by omega)]
    by_cases c : j = x
    · subst c; rw [hset_rs, hset_rs]
    · rw [hset_rn c, hset_rn c, hset_c (by omega), hset_c (by omega)]
  have f7 : ∀ j, h7 (b + 7) j = hset h (b + 7) (x * 6 + (h (b + 1) p).toNat) (h (b + 7) (x * 6 + (h (b + 1) p).toNat) + 1) (b + 7) j := by
    intro j
    rw [← hh7]
    by_cases c : j = x * 6 + (h (b + 1) p).toNat
    · subst c; rw [hset_rs, hset_rs]
    · rw [hset_rn c, hset_rn c, hset_c (by omega), hset_c (by omega), hset_c (by omega)]
  have f4 : h7 (b + 4) p = h (b + 4) p := by
    rw [← hh7, hset_c (by omega), hset_c (by omega), hset_c (by omega), hset_c (by omega)]
  have fb : ∀ c, c < b + 2 → h7 c = h c := by
    intro c hc
    rw [← hh7, hset_c (by omega), hset_c (by omega), hset_c (by omega), hset_c (by omega)]
  have fF : FR b h h7 := by
    rw [← hh7]
    exact (((FR.rf.set (by omega)).set (by omega)).set (by omega)).set (by omega)
  have fV : VC b h7 = hset (hset (VC b h) 2 p x) 3 p (-1) := by
    rw [← hh7, VC_oth (by omega), VC_oth (by omega), VC_arr (by decide) (by decide), VC_arr (by decide) (by decide)]
  have v4 : VC b h 4 p = h (b + 4) p := rfl
  refine brQ (wle ⟨by omega, by omega⟩ ⟨by omega, by omega⟩) (fun z => ?_) (fun z => ?_)
  · have hv : VC b h7 = takeV (VC b h) x p := by
      rw [fV]; unfold takeV; rw [if_neg (by rw [v4]; omega)]
    refine h1 h7 ⟨by rw [fb 2 (by omega)]; exact hI.1, by rw [fb 2 (by omega), hv]; exact hwf, fun y hy => ?_, fun y k hy hk => ?_⟩ hv fF (fb b (by omega))
    · rw [fb 2 (by omega)] at hy; rw [f6, hv]; exact hcO y hy
    · rw [fb 2 (by omega)] at hy hk; rw [f7, hv]; exact hcS y k hy hk
  · refine rd_n q1 (by decide) ?_
    rw [f4]
    refine wr_i (by omega) (by omega) (by decide) ?_
    refine rd_n q1 (by decide) ?_
    rw [hset_c (show b + 4 ≠ b + 5 by omega), f4]
    refine wr_n q1 (by decide) ?_
    rw [show ((p : Int) * 20 + h (b + 4) p).toNat = 20 * p + (h (b + 4) p).toNat from by omega]
    have hv : VC b (hset (hset h7 (b + 5) (20 * p + (h (b + 4) p).toNat) x) (b + 4) p (h (b + 4) p + 1)) = takeV (VC b h) x p := by
      rw [VC_arr (by decide) (by decide), VC_arr (by decide) (by decide), fV]; unfold takeV; rw [if_pos (by rw [v4]; omega)]; rfl
    have g2 : (hset (hset h7 (b + 5) (20 * p + (h (b + 4) p).toNat) x) (b + 4) p (h (b + 4) p + 1)) 2 = h 2 := by
      rw [hset_c (by omega), hset_c (by omega), fb 2 (by omega)]
    refine h1 _ ⟨by rw [g2]; exact hI.1, by rw [g2, hv]; exact hwf, fun y hy => ?_, fun y k hy hk => ?_⟩ hv ((fF.set (by omega)).set (by omega)) (by rw [hset_c (by omega), hset_c (by omega)]; exact fb b (by omega))
    · rw [g2] at hy; rw [hset_c (by omega), hset_c (by omega), f6, hv]; exact hcO y hy
    · rw [g2] at hy hk; rw [hset_c (by omega), hset_c (by omega), f7, hv]; exact hcS y k hy hk
theorem SI.mv {v : Int} (hb : 13 ≤ b) (hI : SI b h) : SI b (hset h b 4 v) := by
  have e2 : hset h b 4 v 2 = h 2 := hset_c (by omega)
  refine ⟨by rw [e2]; exact hI.1, by rw [e2, VC_mv]; exact hI.2.1, fun y hy => ?_, fun y k hy hk => ?_⟩
  · rw [e2] at hy; rw [VC_mv, hset_c (by omega)]; exact hI.2.2.1 y hy
  · rw [e2] at hy hk; rw [VC_mv, hset_c (by omega)]; exact hI.2.2.2 y k hy hk
theorem C_carryHome {Q : Int → HP → Prop} (hb : 13 ≤ b) (hI : SI b h) {x p : Nat} (hx : (x : Int) < h 2 1) (hp : (p : Int) < h b 1) (h1 : mayT (VC b h) x p → ∀ h', SI b h' → VC b h' = takeV (VC b h) x p → FR b h h' → h' b 4 = h b 4 + 1 → Q 1 h') (h0 : ¬ mayT (VC b h) x p → Q 0 h) : p5_carryHome b x p h Q := by
  unfold p5_carryHome
  refine C_mayTake hI hx hp (fun z => brN (by decide) ?_) (fun z => brY (by decide) (h0 z))
  refine C_handOver hb hI hx hp z (fun h' i1 i2 i3 i4 => ?_)
  refine h1 z _ (i1.mv hb) (by rw [VC_mv]; exact i2) (i3.set (by omega)) ?_
  rw [hset_rs, i4]
theorem C_addPart {Q : Int → HP → Prop} (hb : 13 ≤ b) (hI : SI b h) {k : Nat} (hk : (k : Int) < h 2 0) (h1 : h b 1 < 32 → ∀ h', SI b h' → VC b h' = addV (VC b h) k → FR b h h' → h' b 4 = h b 4 → Q 1 h') (h0 : h b 1 = 32 → Q 0 h) : p5_addPart b k (-1) h Q := by
  have c1 : 0 ≤ h b 1 := hI.2.1.1
  have c2 : h b 1 ≤ 32 := hI.2.1.2.1
  obtain ⟨a1, a2, a3, a4⟩ := id hI.1
  have en : nP (VC b h) = (h b 1).toNat := rfl
  unfold p5_addPart
  refine brQ (wlt ⟨by omega, by omega⟩ ⟨by omega, by omega⟩) (fun z => ?_) (fun z => h0 (by omega))
  refine pf_i ?_
  refine wr_i (by omega) (by omega) (by decide) ?_
  refine wr_i (by omega) (by omega) (by decide) ?_
  refine wr_i (by omega) (by omega) (by decide) ?_
  refine wr_i (by omega) (by omega) (by decide) ?_
  refine brY rfl ?_
  generalize hh' : hset (hset (hset (hset (hset h b 1 (h b 1 + 1)) (b + 1) (h b 1).toNat k) (b + 2) (h b 1).toNat (-1)) (b + 3) (h b 1).toNat (-1)) (b + 4) (h b 1).toNat 0 = h'
  have hv : VC b h' = addV (VC b h) k := by
    rw [← hh', VC_arr (by decide) (by decide), VC_arr (by decide) (by decide), VC_arr (by decide) (by decide), VC_arr (by decide) (by decide), show (1 : Nat) = 0 + 1 from rfl, VC_fld (by decide)]
    funext i j
    unfold addV
    rw [en]
    simp only [hset_at]
    by_cases q : i = 0
    · subst q; simp; rfl
    · simp [q]
  have e2 : h' 2 = h 2 := by rw [← hh', hset_c (by omega), hset_c (by omega), hset_c (by omega), hset_c (by omega), hset_c (by omega)]
  have eF : FR b h h' := by rw [← hh']; exact ((((FR.rf.set (by omega)).set (by omega)).set (by omega)).set (by omega)).set (by omega)
  refine h1 z h' ⟨by rw [e2]; exact hI.1, by rw [e2, hv]; exact wf_add hI.2.1 a3 (by omega) hk z, fun y hy => ?_, fun y j hy hj => ?_⟩ hv eF ?_
  · rw [e2] at hy
    rw [hv, cO_add c1 y (by omega), ← hI.2.2.1 y hy, ← hh', hset_c (by omega), hset_c (by omega), hset_c (by omega), hset_c (by omega), hset_c (by omega)]
  · rw [e2] at hy hj
    rw [hv, cS_add c1 y j (by omega), ← hI.2.2.2 y j hy hj, ← hh', hset_c (by omega), hset_c (by omega), hset_c (by omega), hset_c (by omega), hset_c (by omega)]
  · rw [← hh', hset_c (by omega), hset_c (by omega), hset_c (by omega), hset_c (by omega), hset_rn (by decide)]
end CD
/-! ===== PURE: what the model does ===== -/
def FM (h h' : HP) : Prop := (∀ c, c < 69 ∨ (69 < c ∧ c < 74) ∨ 78 < c → h' c = h c) ∧ ∀ j, j ≠ 7 → j ≠ 13 → j ≠ 14 → h' 69 j = h 69 j
theorem FM.rf {h : HP} : FM h h := ⟨fun _ _ => rfl, fun _ _ _ _ => rfl⟩
theorem FM.tr {h h1 h2 : HP} (a : FM h h1) (c : FM h1 h2) : FM h h2 := ⟨fun k hk => (c.1 k hk).trans (a.1 k hk), fun j x y z => (c.2 j x y z).trans (a.2 j x y z)⟩
theorem FM.set {h h1 : HP} {c j : Nat} {v : Int} (a : FM h h1) (hc : 74 ≤ c ∧ c ≤ 78) : FM h (hset h1 c j v) :=
  ⟨fun k hk => by rw [hset_c (by omega)]; exact a.1 k hk, fun k x y z => by rw [hset_c (by omega)]; exact a.2 k x y z⟩
theorem FM.fld {h h1 : HP} {j : Nat} {v : Int} (a : FM h h1) (hj : j = 7 ∨ j = 13 ∨ j = 14) : FM h (hset h1 69 j v) :=
  ⟨fun k hk => by rw [hset_c (by omega)]; exact a.1 k hk, fun k x y z => by rw [hset_rn (by omega)]; exact a.2 k x y z⟩
section MD
variable {h : HP}
theorem MI.of {h' : HP} (hI : MI h) (f : FM h h') (hv : wfV (h 69 0) (h 69 1) (VM h')) : MI h' := by
  have e0 := f.2 0 (by decide) (by decide) (by decide)
  have e1 := f.2 1 (by decide) (by decide) (by decide)
  unfold MI
  rw [e0, e1]
  exact ⟨hI.1, hv⟩
theorem M_tossNow {Q : HP → Prop} (hI : MI h) {x p : Nat} (hx : (x : Int) < h 69 1) (hp : (p : Int) < h 69 7) (ho : h 75 p = x) (h1 : ∀ h', MI h' → VM h' = tossV (VM h) x p → FM h h' → Q h') : p8_tossNow x p h Q := by
  obtain ⟨q1, q2⟩ := hI.part hp
  have hpn : p < nP (VM h) := by have := nP_c hI.2.1; have e : VM h 0 0 = h 69 7 := rfl; omega
  unfold p8_tossNow
  refine wr_n q1 (by decide) ?_
  refine wr_n q1 (by decide) ?_
  have hv : VM (hset (hset h 75 p (-1)) 76 p x) = tossV (VM h) x p := by
    rw [show (76 : Nat) = 73 + 3 from rfl, VM_arr (by decide) (by decide), show (75 : Nat) = 73 + 2 from rfl, VM_arr (by decide) (by decide)]; rfl
  have hf : FM h (hset (hset h 75 p (-1)) 76 p x) := (FM.rf.set (by decide)).set (by decide)
  exact h1 _ (hI.of hf (by rw [hv]; exact wf_toss hI.2 hpn ho (by omega) hx)) hv hf
theorem M_takeNow {Q : HP → Prop} (hI : MI h) {x p : Nat} (hx : (x : Int) < h 69 1) (hp : (p : Int) < h 69 7) (hm : mayT (VM h) x p) (h1 : ∀ h', MI h' → VM h' = takeV (VM h) x p → FM h h' → Q h') : p8_takeNow x p h Q := by
  obtain ⟨q1, q2, q3, q4, q5, q6, q7, q8, q9, q10⟩ := hI.part hp
  have hpn : p < nP (VM h) := by have := nP_c hI.2.1; have e : VM h 0 0 = h 69 7 := rfl; omega
  have hwf := wf_take hI.2 hpn hm (show (0 : Int) ≤ x by omega) hx
  have v4 : VM h 4 p = h 77 p := rfl
  unfold p8_takeNow
  refine wr_n q1 (by decide) ?_
  refine wr_n q1 (by decide) ?_
  refine rd_n q1 (by decide) ?_
  rw [hset_c (show (77 : Nat) ≠ 76 by decide), hset_c (show (77 : Nat) ≠ 75 by decide)]
  have fV : VM (hset (hset h 75 p x) 76 p (-1)) = hset (hset (VM h) 2 p x) 3 p (-1) := by
    rw [show (76 : Nat) = 73 + 3 from rfl, VM_arr (by decide) (by decide), show (75 : Nat) = 73 + 2 from rfl, VM_arr (by decide) (by decide)]
  have hf : FM h (hset (hset h 75 p x) 76 p (-1)) := (FM.rf.set (by decide)).set (by decide)
  refine brQ (wle ⟨by omega, by omega⟩ ⟨by omega, by omega⟩) (fun z => ?_) (fun z => ?_)
  · have hv : VM (hset (hset h 75 p x) 76 p (-1)) = takeV (VM h) x p := by
      rw [fV]; unfold takeV; rw [if_neg (by rw [v4]; omega)]
    exact h1 _ (hI.of hf (by rw [hv]; exact hwf)) hv hf
  · refine rd_n q1 (by decide) ?_
    rw [hset_c (show (77 : Nat) ≠ 76 by decide), hset_c (show (77 : Nat) ≠ 75 by decide)]
    refine wr_i (by omega) (by omega) (by decide) ?_
    refine rd_n q1 (by decide) ?_
    rw [hset_c (show (77 : Nat) ≠ 78 by decide), hset_c (show (77 : Nat) ≠ 76 by decide), hset_c (show (77 : Nat) ≠ 75 by decide)]
    refine wr_n q1 (by decide) ?_
    rw [show (20 * (p : Int) + h 77 p).toNat = 20 * p + (h 77 p).toNat from by omega]
    have hv : VM (hset (hset (hset (hset h 75 p x) 76 p (-1)) 78 (20 * p + (h 77 p).toNat) x) 77 p (h 77 p + 1)) = takeV (VM h) x p := by
      rw [show (77 : Nat) = 73 + 4 from rfl, VM_arr (by decide) (by decide), show (78 : Nat) = 73 + 5 from rfl, VM_arr (by decide) (by decide), fV]
      unfold takeV; rw [if_pos (by rw [v4]; omega)]; rfl
    have hf2 := ((hf.set (c := 78) (j := 20 * p + (h 77 p).toNat) (v := x) (by decide)).set (c := 77) (j := p) (v := h 77 p + 1) (by decide))
    exact h1 _ (hI.of hf2 (by rw [hv]; exact hwf)) hv hf2
theorem M_ashoreNow {Q : Int → HP → Prop} (hI : MI h) {k : Nat} (hk : (k : Int) < h 69 0) (hc : h 69 7 < 32) (h1 : ∀ h', MI h' → VM h' = addV (VM h) k → FM h h' → Q (h 69 7) h') : p8_ashoreNow k h Q := by
  have c1 : 0 ≤ h 69 7 := hI.2.1
  have en : nP (VM h) = (h 69 7).toNat := rfl
  unfold p8_ashoreNow
  refine wr_i (by omega) (by omega) (by decide) ?_
  rw [hset_c (show (69 : Nat) ≠ 74 by decide)]
  refine wr_i (by omega) (by omega) (by decide) ?_
  rw [hset_c (show (69 : Nat) ≠ 75 by decide), hset_c (show (69 : Nat) ≠ 74 by decide)]
  refine wr_i (by omega) (by omega) (by decide) ?_
  rw [hset_c (show (69 : Nat) ≠ 76 by decide), hset_c (show (69 : Nat) ≠ 75 by decide), hset_c (show (69 : Nat) ≠ 74 by decide)]
  refine wr_i (by omega) (by omega) (by decide) ?_
  show Q ((hset _ 69 7 _) 69 7 - 1) _
  rw [hset_rs, hset_c (show (69 : Nat) ≠ 77 by decide), hset_c (show (69 : Nat) ≠ 76 by decide), hset_c (show (69 : Nat) ≠ 75 by decide), hset_c (show (69 : Nat) ≠ 74 by decide)]
  rw [show h 69 7 + 1 - 1 = h 69 7 from by omega]
  have hv : VM (hset (hset (hset (hset (hset h 74 (h 69 7).toNat k) 75 (h 69 7).toNat (-1)) 76 (h 69 7).toNat (-1)) 77 (h 69 7).toNat 0) 69 7 (h 69 7 + 1)) = addV (VM h) k := by
    rw [VM_f0, show (77 : Nat) = 73 + 4 from rfl, VM_arr (by decide) (by decide), show (76 : Nat) = 73 + 3 from rfl, VM_arr (by decide) (by decide), show (75 : Nat) = 73 + 2 from rfl, VM_arr (by decide) (by decide), show (74 : Nat) = 73 + 1 from rfl, VM_arr (by decide) (by decide)]
    rfl
  have hf : FM h (hset (hset (hset (hset (hset h 74 (h 69 7).toNat k) 75 (h 69 7).toNat (-1)) 76 (h 69 7).toNat (-1)) 77 (h 69 7).toNat 0) 69 7 (h 69 7 + 1)) := ((((FM.rf.set (by decide)).set (by decide)).set (by decide)).set (by decide)).fld (by decide)
  exact h1 _ (hI.of hf (by rw [hv]; exact wf_add hI.2 hI.1.2.2.1 (by omega) hk hc)) hv hf
end MD
