/-! ===== PURE: a week in the model; the calls week and drift ===== -/
section MWK
variable {W : Nat → Int}
theorem fm_MI {h h' : HP} (f : FM h h') : h' 69 0 = h 69 0 ∧ h' 69 1 = h 69 1 ∧ h' 71 = h 71 := ⟨f.2 0 (by decide) (by decide) (by decide), f.2 1 (by decide) (by decide) (by decide), f.1 71 (by decide)⟩
theorem M_isIdle {Q : Int → Prop} {h : HP} (hI : MI h) (hW : okW (h 71)) {x p : Nat} (hx : (x : Int) < h 69 1) (hp : (p : Int) < h 69 7) (ho : h 75 p = x) (h1 : lV (VM h) (h 71) x (h 74 p) = 0 → Q 1) (h0 : ¬ lV (VM h) (h 71) x (h 74 p) = 0 → Q 0) : p8_isIdle x p h Q := by
  have a1 : 0 ≤ h 69 7 := hI.2.1
  have a2 : h 69 7 ≤ 32 := hI.2.2.1
  obtain ⟨s1, s2, s3, s4⟩ := id hI.1
  obtain ⟨p1, p2, p3, _⟩ := hI.part hp
  have L : ∀ (E : Int → Prop) (m f q : Nat) (acc : Int), m < f → (q : Int) + m = h 69 7 → E (acc + fs (fun q => if h 75 q = x ∧ h 74 q = h 74 p then 1 else 0) q m) → p8_isIdle_L5 x p h E f acc q := by
    intro E m
    induction m with
    | zero =>
      intro f q acc hf hk hq
      obtain ⟨f, rfl⟩ : ∃ n', f = n' + 1 := ⟨f - 1, by omega⟩
      unfold p8_isIdle_L5
      refine brY ((wle ⟨by omega, by omega⟩ ⟨by omega, by omega⟩).mpr (by omega)) ?_
      rw [show acc + fs _ q 0 = acc from by show acc + 0 = acc; omega] at hq
      exact hq
    | succ m ih =>
      intro f q acc hf hk hq
      obtain ⟨f, rfl⟩ : ∃ n', f = n' + 1 := ⟨f - 1, by omega⟩
      unfold p8_isIdle_L5
      refine brN (fun z => by have := (wle ⟨by omega, by omega⟩ ⟨by omega, by omega⟩).mp z; omega) ?_
      obtain ⟨q1, q2, q3, q4, q5, _⟩ := hI.part (p := q) (by omega)
      have e : fs (fun q => if h 75 q = x ∧ h 74 q = h 74 p then (1 : Int) else 0) q (m + 1) = (if h 75 q = x ∧ h 74 q = h 74 p then (1 : Int) else 0) + fs (fun q => if h 75 q = x ∧ h 74 q = h 74 p then (1 : Int) else 0) (q + 1) m := rfl
      rw [e, ← Int.add_assoc] at hq
      refine rd_n q1 (by decide) ?_
      refine brQ (weq ⟨by omega, by omega⟩ ⟨by omega, by omega⟩) (fun z => ?_) (fun z => ?_)
      · refine rd_n q1 (by decide) (rd_n p1 (by decide) ?_)
        refine brQ (weq ⟨by omega, by omega⟩ ⟨by omega, by omega⟩) (fun w => ?_) (fun w => ?_)
        · rw [if_pos ⟨z, w⟩] at hq
          exact ih f (q + 1) _ (by omega) (by omega) hq
        · rw [if_neg (fun u => w u.2)] at hq
          exact ih f (q + 1) _ (by omega) (by omega) hq
      · rw [if_neg (fun u => z u.1)] at hq
        exact ih f (q + 1) _ (by omega) (by omega) hq
  have en : nP (VM h) = (h 69 7).toNat := rfl
  have hc : 0 < cS (VM h) x (h 74 p) := cS_pos (V := VM h) (p := p) (by omega) ho rfl
  have hc2 := cS_le (VM h) x (h 74 p)
  have hc3 := hI.2.2.2.2.1 x (by omega) hx
  unfold p8_isIdle
  refine L _ (h 69 7).toNat FUEL 0 0 (by unfold FUEL; omega) (by omega) ?_
  rw [Int.zero_add]
  have ec : fs (fun q => if h 75 q = (x : Int) ∧ h 74 q = h 74 p then 1 else 0) 0 (h 69 7).toNat = cS (VM h) x (h 74 p) := rfl
  rw [ec]
  unfold lV at h1 h0
  refine brQ (wlt ⟨by omega, by omega⟩ ⟨by omega, by omega⟩) (fun z => h1 (by rw [if_neg (by omega)])) (fun z => ?_)
  refine rd_n p1 (by decide) (rd_i (by omega) (by omega) (by decide) ?_)
  rw [show (6 * (x : Int) + h 74 p).toNat = ((x : Int) * 6 + h 74 p).toNat from by omega]
  rw [if_pos (by omega)] at h1 h0
  have hb := hW ((x : Int) * 6 + h 74 p).toNat (by omega)
  exact brQ (weq0 ⟨by omega, by omega⟩) h1 h0
theorem M_spare {E : HP → Prop} {x : Nat} {y : Int} (hW : okW W) : ∀ (m f p : Nat) (h : HP), m < f → MI h → h 71 = W → (x : Int) < h 69 1 → (p : Int) + m = h 69 7 → (∀ h', MI h' → VM h' = tsF W x m (VM h) p → FM h h' → E h') → p8_weekNow_L34 y x E f h p := by
  intro m
  induction m with
  | zero =>
    intro f p h hf hI hw hx hp hq
    obtain ⟨f, rfl⟩ : ∃ n', f = n' + 1 := ⟨f - 1, by omega⟩
    have a2 : h 69 7 ≤ 32 := hI.2.2.1
    unfold p8_weekNow_L34
    exact brY ((wle ⟨by omega, by omega⟩ ⟨by omega, by omega⟩).mpr (by omega)) (hq h hI rfl FM.rf)
  | succ m ih =>
    intro f p h hf hI hw hx hp hq
    obtain ⟨f, rfl⟩ : ∃ n', f = n' + 1 := ⟨f - 1, by omega⟩
    have a2 : h 69 7 ≤ 32 := hI.2.2.1
    obtain ⟨s1, s2, s3, s4⟩ := id hI.1
    obtain ⟨q1, q2, q3, q4, q5, _⟩ := hI.part (p := p) (by omega)
    have skip : ¬ (VM h 2 p = x ∧ lV (VM h) W x (VM h 1 p) = 0) → p8_weekNow_L34 y x E f h (p + 1) := fun c =>
      ih f (p + 1) h (by omega) hI hw hx (by omega) (fun h' i1 i2 i3 => hq h' i1 (by rw [tsF_N c]; exact i2) i3)
    unfold p8_weekNow_L34
    refine brN (fun z => by have := (wle ⟨by omega, by omega⟩ ⟨by omega, by omega⟩).mp z; omega) ?_
    refine rd_n q1 (by decide) ?_
    refine brQ (weq ⟨by omega, by omega⟩ ⟨by omega, by omega⟩) (fun z => ?_) (fun z => skip (fun c => z c.1))
    refine M_isIdle hI (hw ▸ hW) hx (by omega) z (fun w => brN (by decide) ?_) (fun w => brY (by decide) (skip (fun c => w (by rw [hw]; exact c.2))))
    refine M_tossNow hI hx (by omega) z (fun h1 i1 i2 i3 => ?_)
    obtain ⟨f0, f1, f71⟩ := fm_MI i3
    have fb : h1 69 7 = h 69 7 := by
      show VM h1 0 0 = VM h 0 0
      rw [i2, toss_c (by decide) (by decide)]
    refine ih f (p + 1) h1 (by omega) i1 (by rw [f71]; exact hw) (by rw [f1]; exact hx) (by rw [fb]; omega) (fun h' j1 j2 j3 => ?_)
    refine hq h' j1 ?_ (i3.tr j3)
    rw [tsF_Y ⟨z, by rw [← hw]; exact w⟩, ← i2]
    exact j2
theorem M_weekNow_L {E : HP → Int → Prop} (hW : okW W) : ∀ (m f x : Nat) (acc : Int) (h : HP), m < f → MI h → h 71 = W → (x : Int) + m = h 69 1 → (∀ h', MI h' → VM h' = wkH W m (VM h) x → FM h h' → E h' (acc + wkT W m (VM h) x)) → p8_weekNow_L4 E f h acc x := by
  intro m
  induction m with
  | zero =>
    intro f x acc h hf hI hw hx hq
    obtain ⟨f, rfl⟩ : ∃ n', f = n' + 1 := ⟨f - 1, by omega⟩
    obtain ⟨a3, a4, a5, a6⟩ := id hI.1
    unfold p8_weekNow_L4
    refine brY ((wle ⟨by omega, by omega⟩ ⟨by omega, by omega⟩).mpr (by omega)) ?_
    have := hq h hI rfl FM.rf
    rw [show acc + wkT W 0 (VM h) x = acc from by show acc + 0 = acc; omega] at this
    exact this
  | succ m ih =>
    intro f x acc h hf hI hw hx hq
    obtain ⟨f, rfl⟩ : ∃ n', f = n' + 1 := ⟨f - 1, by omega⟩
    obtain ⟨a3, a4, a5, a6⟩ := id hI.1
    have a2 : h 69 7 ≤ 32 := hI.2.2.1
    have a1 : 0 ≤ h 69 7 := hI.2.1
    unfold p8_weekNow_L4
    refine brN (fun z => by have := (wle ⟨by omega, by omega⟩ ⟨by omega, by omega⟩).mp z; omega) ?_
    refine M_bestTake hI (hw ▸ hW) (by omega) ?_
    rw [hw]
    have eT : wkT W (m + 1) (VM h) x = (if btV (VM h) W x = -1 then 0 else 1) + wkT W m (hwV W x (VM h)) (x + 1) := rfl
    have eH : wkH W (m + 1) (VM h) x = wkH W m (hwV W x (VM h)) (x + 1) := rfl
    have NEXT : ∀ (h1 : HP) (t : Int), t = (if btV (VM h) W x = -1 then 0 else 1) → MI h1 → VM h1 = tkV W x (VM h) → FM h h1 → p8_weekNow_L34 (acc + t) x (fun (h11 : HP) => p8_weekNow_L4 E f h11 (acc + t) (x + 1)) FUEL h1 0 := by
      intro h1 t ht i1 i2 i3
      obtain ⟨f0, f1, f71⟩ := fm_MI i3
      have t0 := (tk_wf (W := W) (x := x) (by omega) (show (x : Int) < h 69 1 by omega) hI.2).2
      have fb : h1 69 7 = h 69 7 := by
        show VM h1 0 0 = VM h 0 0
        rw [i2, t0]
      refine M_spare hW (h 69 7).toNat FUEL 0 h1 (by unfold FUEL; omega) i1 (by rw [f71]; exact hw) (by rw [f1]; omega) (by rw [fb]; omega) (fun h2 j1 j2 j3 => ?_)
      obtain ⟨g0, g1, g71⟩ := fm_MI j3
      have ev : VM h2 = hwV W x (VM h) := by rw [j2, i2]; rfl
      refine ih f (x + 1) (acc + t) h2 (by omega) j1 (by rw [g71, f71]; exact hw) (by rw [g1, f1]; omega) (fun h3 k1 k2 k3 => ?_)
      rw [ev] at k2 ⊢
      have := hq h3 k1 (by rw [eH]; exact k2) ((i3.tr j3).tr k3)
      rw [eT, ← ht, ← Int.add_assoc] at this; exact this
    refine jn_i ?_
    rcases btV_sp (VM h) W x with q | ⟨q, p1, p2, p3, p4⟩
    · rw [q]
      refine brY (by decide) ?_
      have := NEXT h 0 (by rw [if_pos q]) hI (by unfold tkV; rw [if_pos q]) FM.rf
      rw [show acc + 0 = acc from by omega] at this
      exact this
    · have hq1 : (q : Int) < h 69 7 := lt_nP p1
      rw [p2]
      refine brN (by rw [wlt0 ⟨by omega, by omega⟩]; omega) ?_
      refine M_takeNow hI (by omega) hq1 p3 (fun h1 i1 i2 i3 => ?_)
      exact NEXT h1 1 (by rw [if_neg (by rw [p2]; omega)]) i1 (by unfold tkV; rw [if_neg (by rw [p2]; omega), p2]; exact i2) i3
theorem M_weekNow {Q : Int → HP → Prop} {h : HP} (hW : okW W) (hI : MI h) (hw : h 71 = W) (hq : ∀ h', MI h' → VM h' = wkV W (h 69 1).toNat (VM h) → FM h h' → Q (wkT W (h 69 1).toNat (VM h) 0) h') : p8_weekNow h Q := by
  obtain ⟨a3, a4, a5, a6⟩ := id hI.1
  unfold p8_weekNow
  refine M_weekNow_L hW (h 69 1).toNat FUEL 0 0 h (by unfold FUEL; omega) hI hw (by omega) (fun h1 i1 i2 i3 => ?_)
  rw [Int.zero_add]
  refine pf_i ?_
  have t := wkH_wf (W := W) (h 69 1).toNat 0 (VM h) hI.2 (by omega)
  have hv : VM (hset h1 69 13 (h1 69 13 + 1)) = wkV W (h 69 1).toNat (VM h) := by
    rw [VM_f1, i2]
    unfold wkV
    congr 1
    show VM h1 0 1 + 1 = _
    rw [i2, t.2]
  have hf : FM h (hset h1 69 13 (h1 69 13 + 1)) := i3.fld (by decide)
  exact hq _ (hI.of hf (by rw [hv]; exact (wk_wf (by omega) hI.2).1)) hv hf
theorem M_comeNow {Q : HP → Prop} {h : HP} (hI : MI h) (hs0 : 0 < h 69 0) (hc : h 69 7 < 32) (hq : ∀ h', MI h' → VM h' = comeV (h 69 0) (VM h) → FM h h' → Q h') : p8_draw (h 69 0) h fun r11 h12 => p8_ashoreNow r11 h12 fun r13 h14 => Q h14 := by
  have a1 : 0 ≤ h 69 7 := hI.2.1
  have a5 : 0 ≤ h 69 14 := hI.2.2.2.2.2.1
  have a6 : h 69 14 < 2147483648 := hI.2.2.2.2.2.2
  obtain ⟨s1, s2, s3, s4⟩ := id hI.1
  unfold p8_draw
  rw [nsd_m a5 a6]
  refine pf_i ⟨by rw [w_id (by omega) (by omega)]; omega, ?_⟩
  have nb := nsd_bd (h 69 14)
  rw [hset_rs, dk_e nb.1 nb.2 hs0 s2]
  have k1 := Int.emod_nonneg (nsd (h 69 14) / 65536) (show h 69 0 ≠ 0 by omega)
  have k2 := Int.emod_lt_of_pos (nsd (h 69 14) / 65536) hs0
  have hf : FM h (hset h 69 14 (nsd (h 69 14))) := FM.rf.fld (by decide)
  have hv : VM (hset h 69 14 (nsd (h 69 14))) = hset (VM h) 0 2 (nsd (h 69 14)) := VM_f2
  have i1 : MI (hset h 69 14 (nsd (h 69 14))) := hI.of hf (by rw [hv]; exact wf_f0 hI.2 (Or.inr ⟨rfl, nb⟩))
  have hbv : nsd (VM h 0 2) = nsd (h 69 14) := rfl
  generalize hk : nsd (h 69 14) / 65536 % h 69 0 = kk at k1 k2
  obtain ⟨k, rfl⟩ := Int.eq_ofNat_of_zero_le k1
  refine M_ashoreNow i1 (by rw [hset_rn (by decide)]; exact k2) (by rw [hset_rn (by decide)]; exact hc) (fun h' j1 j2 j3 => ?_)
  refine hq h' j1 ?_ (hf.tr j3)
  rw [j2, hv]
  unfold comeV
  rw [hbv, hk]
theorem M_week_L {Q : Int → HP → Prop} {M : Nat} (hW : okW W) (hM : M ≤ 99) : ∀ (m f i : Nat) (acc : Int) (h : HP), m < f → i + m = M → MI h → h 71 = W → (∀ h', MI h' → VM h' = wsH 0 (h 69 0) W (h 69 1).toNat m (VM h) → FM h h' → Q (acc + wsT 0 (h 69 0) W (h 69 1).toNat m (VM h)) h') → p8_week_L19 M Q f h acc i := by
  intro m
  induction m with
  | zero =>
    intro f i acc h hf hi hI hw hq
    obtain ⟨f, rfl⟩ : ∃ n', f = n' + 1 := ⟨f - 1, by omega⟩
    unfold p8_week_L19
    refine brY ((wle ⟨by omega, by omega⟩ ⟨by omega, by omega⟩).mpr (by omega)) ?_
    have := hq h hI rfl FM.rf
    rw [show acc + wsT 0 (h 69 0) W (h 69 1).toNat 0 (VM h) = acc from by show acc + 0 = acc; omega] at this
    exact this
  | succ m ih =>
    intro f i acc h hf hi hI hw hq
    obtain ⟨f, rfl⟩ : ∃ n', f = n' + 1 := ⟨f - 1, by omega⟩
    unfold p8_week_L19
    refine brN (fun z => by have := (wle ⟨by omega, by omega⟩ ⟨by omega, by omega⟩).mp z; omega) ?_
    refine M_weekNow hW hI hw (fun h1 i1 i2 i3 => ?_)
    obtain ⟨f0, f1, f71⟩ := fm_MI i3
    refine ih f (i + 1) _ h1 (by omega) (by omega) i1 (by rw [f71]; exact hw) (fun h2 j1 j2 j3 => ?_)
    rw [f0, f1, i2] at j2
    rw [f0, f1, i2]
    have hc : ∀ V, cvV 0 (h 69 0) V = V := fun V => by unfold cvV; rw [if_neg (by omega)]
    have := hq h2 j1 (by
      show _ = wsH 0 (h 69 0) W (h 69 1).toNat m (wkV W (h 69 1).toNat (cvV 0 (h 69 0) (VM h)))
      rw [hc]; exact j2) (i3.tr j3)
    rw [show wsT 0 (h 69 0) W (h 69 1).toNat (m + 1) (VM h) = wkT W (h 69 1).toNat (cvV 0 (h 69 0) (VM h)) 0 + wsT 0 (h 69 0) W (h 69 1).toNat m (wkV W (h 69 1).toNat (cvV 0 (h 69 0) (VM h))) from rfl, hc, ← Int.add_assoc] at this
    exact this
theorem M_drift_L {Q : Int → HP → Prop} {M : Nat} (hW : okW W) (hM : M ≤ 99) : ∀ (m f i : Nat) (acc : Int) (h : HP), m < f → i + m = M → MI h → h 71 = W → 0 < h 69 0 → (∀ h', MI h' → VM h' = wsH 1 (h 69 0) W (h 69 1).toNat m (VM h) → FM h h' → Q (acc + wsT 1 (h 69 0) W (h 69 1).toNat m (VM h)) h') → p8_drift_L29 M Q f h acc i := by
  intro m
  induction m with
  | zero =>
    intro f i acc h hf hi hI hw hs hq
    obtain ⟨f, rfl⟩ : ∃ n', f = n' + 1 := ⟨f - 1, by omega⟩
    unfold p8_drift_L29
    refine brY ((wle ⟨by omega, by omega⟩ ⟨by omega, by omega⟩).mpr (by omega)) ?_
    have := hq h hI rfl FM.rf
    rw [show acc + wsT 1 (h 69 0) W (h 69 1).toNat 0 (VM h) = acc from by show acc + 0 = acc; omega] at this
    exact this
  | succ m ih =>
    intro f i acc h hf hi hI hw hs hq
    obtain ⟨f, rfl⟩ : ∃ n', f = n' + 1 := ⟨f - 1, by omega⟩
    have a1 : 0 ≤ h 69 7 := hI.2.1
    have a2 : h 69 7 ≤ 32 := hI.2.2.1
    unfold p8_drift_L29
    refine brN (fun z => by have := (wle ⟨by omega, by omega⟩ ⟨by omega, by omega⟩).mp z; omega) ?_
    refine jn_h (fun K => ∀ (h1 : HP), MI h1 → VM h1 = cvV 1 (h 69 0) (VM h) → FM h h1 → K h1) (fun h1 k1 k2 k3 => ?_) (fun K hK => ?_)
    · obtain ⟨g0, g1, g71⟩ := fm_MI k3
      refine M_weekNow hW k1 (by rw [g71]; exact hw) (fun h2 i1 i2 i3 => ?_)
      obtain ⟨f0, f1, f71⟩ := fm_MI i3
      rw [g1, k2] at i2
      refine ih f (i + 1) _ h2 (by omega) (by omega) i1 (by rw [f71, g71]; exact hw) (by rw [f0, g0]; exact hs) (fun h3 j1 j2 j3 => ?_)
      rw [f0, f1, g0, g1, i2] at j2
      rw [f0, f1, g0, g1, i2, k2]
      have := hq h3 j1 j2 ((k3.tr i3).tr j3)
      rw [show wsT 1 (h 69 0) W (h 69 1).toNat (m + 1) (VM h) = wkT W (h 69 1).toNat (cvV 1 (h 69 0) (VM h)) 0 + wsT 1 (h 69 0) W (h 69 1).toNat m (wkV W (h 69 1).toNat (cvV 1 (h 69 0) (VM h))) from rfl, ← Int.add_assoc] at this
      exact this
    · refine brQ (wle ⟨by omega, by omega⟩ ⟨by omega, by omega⟩) (fun z => hK h hI ?_ FM.rf) (fun z => ?_)
      · unfold cvV; rw [if_neg (fun c => by have : h 69 7 < 32 := c.2; omega)]
      · refine M_comeNow hI hs (by omega) (fun h1 i1 i2 i3 => hK h1 i1 ?_ i3)
        unfold cvV; rw [if_pos ⟨rfl, show h 69 7 < 32 by omega⟩]; exact i2
end MWK
section OP4
variable {h : HP}
theorem INV.ww (hI : INV h) : ∀ j, j < 30 → h 71 j = h 6 j := fun j hj => (hI.2.2.2.1.2.2.2.2.1 j hj).1.symm
theorem op_week (hI : INV h) {x : Int} (hx : can x) : p7_week x h (fun r1 h1 => p8_week x h1 (fun r2 h2 => OK2 r1 r2 h2)) := by
  have := hx.1; have := hx.2
  have s0 := hI.s0
  have s1 := hI.s1
  have mk : ∀ {P : Int → HP → Prop} {h1 : HP}, (¬ (1 ≤ x ∧ x ≤ 99) → P (-1000000002) h1) → ((1 ≤ x ∧ x ≤ 99) → p8_week_L19 x P FUEL h1 0 0) → p8_week x h1 P := by
    intro P h1 g1 g2
    unfold p8_week
    rw [w_id hx.1 hx.2]
    exact in_i ⟨by omega, by omega⟩ ⟨by omega, by omega⟩ ⟨by omega, by omega⟩ (fun a b => brN (by decide) (g2 ⟨a, b⟩)) (fun a => brY (by decide) (g1 a))
  unfold p7_week
  refine brQ (wlt hx ⟨by omega, by omega⟩) (fun z => mk (fun _ => ⟨rfl, hI⟩) (fun q => by omega)) (fun z => ?_)
  refine brQ (wle hx ⟨by omega, by omega⟩) (fun w => ?_) (fun w => mk (fun _ => ⟨rfl, hI⟩) (fun q => by omega))
  obtain ⟨n, rfl⟩ := Int.eq_ofNat_of_zero_le (show 0 ≤ x by omega)
  refine C_liveWeeks (by decide) hI.w6 (Or.inl rfl) (by omega) hI.1 rfl (fun q => by omega) (fun h1 i1 i2 i3 => ?_)
  refine mk (fun q => by omega) (fun _ => ?_)
  have f69 : h1 69 = h 69 := i3 69 (by decide)
  have f71 : h1 71 = h 71 := i3 71 (by decide)
  have hM := MI_fr i3 hI.2.1
  refine M_week_L hI.w71 (by omega) n FUEL 0 0 h1 (by unfold FUEL; omega) (by omega) hM f71 (fun h2 j1 j2 j3 => ?_)
  rw [Int.zero_add]
  have hst := hI.1.1
  have ww := eqv.ws (d := 0) hst (fun q => by omega) hI.ww (N := (h 2 1).toNat) (by unfold okSt at hst; omega) n _ _ hI.2.2.1 hI.1.2.1
  rw [f69, VM_fr i3, ← s0, ← s1] at j2
  rw [f69, VM_fr i3, ← s0, ← s1]
  refine ⟨by rw [ww.2], INV_step hI i1 i3 j1 j3 ?_⟩
  rw [i2, j2]; exact ww.1
theorem op_drift (hI : INV h) {x : Int} (hx : can x) : p7_drift x h (fun r1 h1 => p8_drift x h1 (fun r2 h2 => OK2 r1 r2 h2)) := by
  have := hx.1; have := hx.2
  have s0 := hI.s0
  have s1 := hI.s1
  have hst := hI.st
  unfold okSt at hst
  have mk : ∀ {P : Int → HP → Prop} {h1 : HP}, (¬ (1 ≤ x ∧ x ≤ 99) → P (-1000000002) h1) → ((1 ≤ x ∧ x ≤ 99) → brc (w32 (h1 69 0) = 0) (P (-1000000003) h1) (p8_drift_L29 x P FUEL h1 0 0)) → p8_drift x h1 P := by
    intro P h1 g1 g2
    unfold p8_drift
    rw [w_id hx.1 hx.2]
    exact in_i ⟨by omega, by omega⟩ ⟨by omega, by omega⟩ ⟨by omega, by omega⟩ (fun a b => brN (by decide) (g2 ⟨a, b⟩)) (fun a => brY (by decide) (g1 a))
  unfold p7_drift
  refine brQ (wlt hx ⟨by omega, by omega⟩) (fun z => mk (fun _ => ⟨rfl, hI⟩) (fun q => by omega)) (fun z => ?_)
  refine brQ (wle hx ⟨by omega, by omega⟩) (fun w => ?_) (fun w => mk (fun _ => ⟨rfl, hI⟩) (fun q => by omega))
  refine brQ (weq0 ⟨by omega, by omega⟩) (fun v => mk (fun q => by omega) (fun _ => brY (by rw [← s0, v]; decide) ⟨rfl, hI⟩)) (fun v => ?_)
  obtain ⟨n, rfl⟩ := Int.eq_ofNat_of_zero_le (show 0 ≤ x by omega)
  refine C_liveWeeks (by decide) hI.w6 (Or.inr rfl) (by omega) hI.1 rfl (fun q => by omega) (fun h1 i1 i2 i3 => ?_)
  refine mk (fun q => by omega) (fun _ => ?_)
  have f69 : h1 69 = h 69 := i3 69 (by decide)
  have f71 : h1 71 = h 71 := i3 71 (by decide)
  have hM := MI_fr i3 hI.2.1
  refine brN (by rw [f69, weq0 ⟨by omega, by omega⟩]; omega) ?_
  refine M_drift_L hI.w71 (by omega) n FUEL 0 0 h1 (by unfold FUEL; omega) (by omega) hM f71 (by rw [f69]; omega) (fun h2 j1 j2 j3 => ?_)
  rw [Int.zero_add]
  have hst := hI.1.1
  have ww := eqv.ws (d := 1) hst (fun q => by omega) hI.ww (N := (h 2 1).toNat) (by omega) n _ _ hI.2.2.1 hI.1.2.1
  rw [f69, VM_fr i3, ← s0, ← s1] at j2
  rw [f69, VM_fr i3, ← s0, ← s1]
  refine ⟨by rw [ww.2], INV_step hI i1 i3 j1 j3 ?_⟩
  rw [i2, j2]; exact ww.1
end OP4
