/-! ===== PURE: a week in the class and in the model ===== -/
theorem fr_SI {b : Nat} {h h' : HP} (hb : 13 ≤ b) (f : FR b h h') : h' 2 = h 2 ∧ h' 6 = h 6 ∧ h' 3 = h 3 := ⟨f 2 (by omega), f 6 (by omega), f 3 (by omega)⟩
section CWK
variable {b : Nat} {W : Nat → Int}
theorem C_throwSpare {Q : HP → Prop} {x : Nat} (hb : 13 ≤ b) (hW : okW W) : ∀ (m f p : Nat) (h : HP), m < f → SI b h → h 6 = W → (x : Int) < h 2 1 → (p : Int) + m = h b 1 → (∀ h', SI b h' → VC b h' = tsF W x m (VC b h) p → FR b h h' → h b 4 ≤ h' b 4 → h' b 4 ≤ h b 4 + m → (h' b 4 = h b 4 → VC b h' = VC b h) → Q h') → p5_throwSpare_L2 b x Q f h p := by
  intro m
  induction m with
  | zero =>
    intro f p h hf hI hw hx hp hq
    obtain ⟨f, rfl⟩ : ∃ n', f = n' + 1 := ⟨f - 1, by omega⟩
    have a2 : h b 1 ≤ 32 := hI.2.1.2.1
    unfold p5_throwSpare_L2
    exact brY ((wle ⟨by omega, by omega⟩ ⟨by omega, by omega⟩).mpr (by omega)) (hq h hI rfl FR.rf (by omega) (by omega) (fun _ => rfl))
  | succ m ih =>
    intro f p h hf hI hw hx hp hq
    obtain ⟨f, rfl⟩ : ∃ n', f = n' + 1 := ⟨f - 1, by omega⟩
    have a2 : h b 1 ≤ 32 := hI.2.1.2.1
    obtain ⟨a3, a4, a5, a6⟩ := id hI.1
    obtain ⟨q1, q2, q3, q4, q5, _⟩ := hI.part (p := p) (by omega)
    obtain ⟨k, ek⟩ := Int.eq_ofNat_of_zero_le q2
    have ek' : VC b h 1 p = k := ek
    have lb := lV_bd (V := VC b h) (hw ▸ hW) hI.1 (show (0 : Int) ≤ x by omega) hx q2 q3
    rw [ek] at lb q3
    have skip : ¬ (VC b h 2 p = x ∧ lV (VC b h) W x (VC b h 1 p) = 0) → p5_throwSpare_L2 b x Q f h (p + 1) := fun c =>
      ih f (p + 1) h (by omega) hI hw hx (by omega) (fun h' i1 i2 i3 i4 i5 i6 => hq h' i1 (by rw [tsF_N c]; exact i2) i3 i4 (by omega) i6)
    unfold p5_throwSpare_L2
    refine brN (fun z => by have := (wle ⟨by omega, by omega⟩ ⟨by omega, by omega⟩).mp z; omega) ?_
    refine rd_n q1 (by decide) ?_
    refine brQ (weq ⟨by omega, by omega⟩ ⟨by omega, by omega⟩) (fun z => ?_) (fun z => skip (fun c => z c.1))
    refine rd_n q1 (by decide) ?_
    rw [ek]
    refine C_lossOf hI hx q3 ?_
    refine brQ (weq0 ⟨by omega, by omega⟩) (fun w => ?_) (fun w => skip (fun c => w (by have := c.2; rw [ek', ← hw] at this; exact this)))
    refine C_throwOut hb hI hx (by omega) (fun ho h1 i1 i2 i3 i4 => ?_) (fun ho => absurd z ho)
    obtain ⟨f2, f6, _⟩ := fr_SI hb i3
    have fb : h1 b 1 = h b 1 := by
      show VC b h1 0 0 = VC b h 0 0
      rw [i2, toss_c (by decide) (by decide)]
    refine ih f (p + 1) h1 (by omega) i1 (by rw [f6]; exact hw) (by rw [f2]; exact hx) (by rw [fb]; omega) (fun h' j1 j2 j3 j4 j5 j6 => ?_)
    refine hq h' j1 ?_ (i3.tr j3) (by omega) (by omega) (fun q => by omega)
    rw [tsF_Y ⟨z, by rw [ek', ← hw]; exact w⟩, ← i2]
    exact j2
theorem C_liveWeek_L {E : HP → Int → Prop} (hb : 13 ≤ b) (hW : okW W) : ∀ (m f x : Nat) (acc : Int) (h : HP), m < f → SI b h → h 6 = W → (x : Int) + m = h 2 1 → 0 ≤ h b 4 → h b 4 + 33 * m ≤ 1000 → (∀ h', SI b h' → VC b h' = wkH W m (VC b h) x → FR b h h' → h b 4 ≤ h' b 4 → h' b 4 ≤ h b 4 + 33 * m → (h' b 4 = h b 4 → VC b h' = VC b h ∧ wkT W m (VC b h) x = 0) → E h' (acc + wkT W m (VC b h) x)) → p5_liveWeek_L9 b E f h acc x := by
  intro m
  induction m with
  | zero =>
    intro f x acc h hf hI hw hx hm0 hm1 hq
    obtain ⟨f, rfl⟩ : ∃ n', f = n' + 1 := ⟨f - 1, by omega⟩
    obtain ⟨a3, a4, a5, a6⟩ := id hI.1
    unfold p5_liveWeek_L9
    refine brY ((wle ⟨by omega, by omega⟩ ⟨by omega, by omega⟩).mpr (by omega)) ?_
    have := hq h hI rfl FR.rf (by omega) (by omega) (fun _ => ⟨rfl, rfl⟩)
    rw [show acc + wkT W 0 (VC b h) x = acc from by show acc + 0 = acc; omega] at this
    exact this
  | succ m ih =>
    intro f x acc h hf hI hw hx hm0 hm1 hq
    obtain ⟨f, rfl⟩ : ∃ n', f = n' + 1 := ⟨f - 1, by omega⟩
    obtain ⟨a3, a4, a5, a6⟩ := id hI.1
    have a2 : h b 1 ≤ 32 := hI.2.1.2.1
    have a1 : 0 ≤ h b 1 := hI.2.1.1
    unfold p5_liveWeek_L9
    refine brN (fun z => by have := (wle ⟨by omega, by omega⟩ ⟨by omega, by omega⟩).mp z; omega) ?_
    refine C_partToTake hI (hw ▸ hW) (by omega) ?_
    rw [hw]
    have eT : wkT W (m + 1) (VC b h) x = (if btV (VC b h) W x = -1 then 0 else 1) + wkT W m (hwV W x (VC b h)) (x + 1) := rfl
    have eH : wkH W (m + 1) (VC b h) x = wkH W m (hwV W x (VC b h)) (x + 1) := rfl
    -- behind the taking
    have NEXT : ∀ (h1 : HP) (t : Int), t = (if btV (VC b h) W x = -1 then 0 else 1) → SI b h1 → VC b h1 = tkV W x (VC b h) → FR b h h1 → h1 b 4 = h b 4 + t → p5_throwSpare b x h1 fun h10 => p5_liveWeek_L9 b E f h10 (acc + t) (x + 1) := by
      intro h1 t ht i1 i2 i3 i4
      obtain ⟨f2, f6, _⟩ := fr_SI hb i3
      have ht' : t = 0 ∨ t = 1 := by rw [ht]; split <;> simp
      have t0 := (tk_wf (W := W) (x := x) (by omega) (show (x : Int) < h 2 1 by omega) hI.2.1).2
      have fb : h1 b 1 = h b 1 := by
        show VC b h1 0 0 = VC b h 0 0
        rw [i2, t0]
      unfold p5_throwSpare
      refine C_throwSpare hb hW (h b 1).toNat FUEL 0 h1 (by unfold FUEL; omega) i1 (by rw [f6]; exact hw) (by rw [f2]; omega) (by rw [fb]; omega) (fun h2 j1 j2 j3 j4 j5 j6 => ?_)
      obtain ⟨g2, g6, _⟩ := fr_SI hb j3
      have ev : VC b h2 = hwV W x (VC b h) := by rw [j2, i2]; rfl
      refine ih f (x + 1) (acc + t) h2 (by omega) j1 (by rw [g6, f6]; exact hw) (by rw [g2, f2]; omega) (by omega) (by omega) (fun h3 k1 k2 k3 k4 k5 k6 => ?_)
      rw [ev] at k2 k6 ⊢
      have := hq h3 k1 (by rw [eH]; exact k2) ((i3.tr j3).tr k3) (by omega) (by omega) (fun q => ?_)
      · rw [eT, ← ht, ← Int.add_assoc] at this; exact this
      · have e1 : h3 b 4 = h2 b 4 := by omega
        have e2 : h2 b 4 = h1 b 4 := by omega
        have e3 : t = 0 := by omega
        have v1 := k6 e1
        have v2 := j6 e2
        have c : btV (VC b h) W x = -1 := by
          by_cases c : btV (VC b h) W x = -1
          · exact c
          · rw [if_neg c] at ht; omega
        have v3 : VC b h1 = VC b h := by rw [i2]; unfold tkV; rw [if_pos c]
        refine ⟨?_, by rw [eT, ← ht, v1.2, e3]; rfl⟩
        rw [v1.1, ← ev, v2, v3]
    refine jn_i ?_
    rcases btV_sp (VC b h) W x with q | ⟨q, p1, p2, p3, p4⟩
    · rw [q]
      refine brY (by decide) ?_
      have := NEXT h 0 (by rw [if_pos q]) hI (by unfold tkV; rw [if_pos q]) FR.rf (by omega)
      rw [show acc + 0 = acc from by omega] at this
      exact this
    · have hq1 : (q : Int) < h b 1 := lt_nP p1
      rw [p2]
      refine brN (by rw [weq ⟨by omega, by omega⟩ ⟨by omega, by omega⟩]; omega) ?_
      refine C_carryHome hb hI (by omega) hq1 (fun ho h1 i1 i2 i3 i4 => brN (by decide) ?_) (fun ho => absurd p3 ho)
      exact NEXT h1 1 (by rw [if_neg (by rw [p2]; omega)]) i1 (by unfold tkV; rw [if_neg (by rw [p2]; omega), p2]; exact i2) i3 i4
theorem C_liveWeek {Q : Int → HP → Prop} {h : HP} (hb : 13 ≤ b) (hW : okW W) (hI : SI b h) (hw : h 6 = W) (hq : ∀ h', SI b h' → VC b h' = wkV W (h 2 1).toNat (VC b h) → FR b h h' → 0 ≤ h' b 4 → h' b 4 ≤ 1000 → (h' b 4 = 0 → wkH W (h 2 1).toNat (VC b h) 0 = VC b h ∧ wkT W (h 2 1).toNat (VC b h) 0 = 0) → Q (wkT W (h 2 1).toNat (VC b h) 0) h') : p5_liveWeek b h Q := by
  obtain ⟨a3, a4, a5, a6⟩ := id hI.1
  unfold p5_liveWeek
  refine pf_i ?_
  have e2 : hset h b 4 0 2 = h 2 := hset_c (by omega)
  have e6 : hset h b 4 0 6 = h 6 := hset_c (by omega)
  have e4 : hset h b 4 0 b 4 = 0 := hset_rs
  refine C_liveWeek_L hb hW (h 2 1).toNat FUEL 0 0 _ (by unfold FUEL; omega) (hI.mv hb) (by rw [e6]; exact hw) (by rw [e2]; omega) (by rw [e4]; decide) (by rw [e4]; omega) (fun h1 i1 i2 i3 i4 i5 i6 => ?_)
  rw [VC_mv] at i2 i6 ⊢
  rw [e4] at i4 i5 i6
  rw [Int.zero_add]
  refine pf_i ?_
  have t := wkH_wf (W := W) (h 2 1).toNat 0 (VC b h) hI.2.1 (by omega)
  have hv : VC b (hset h1 b 2 (h1 b 2 + 1)) = wkV W (h 2 1).toNat (VC b h) := by
    rw [show (2 : Nat) = 1 + 1 from rfl, VC_fld (by decide), i2]
    unfold wkV
    congr 1
    show VC b h1 0 1 + 1 = _
    rw [i2, t.2]
  refine hq _ (i1.f0 (j := 1) hb (Or.inl rfl)) hv (((FR.rf.set (by omega)).tr i3).set (by omega)) (by rw [hset_rn (by decide)]; exact i4) (by rw [hset_rn (by decide)]; omega) (fun z => ?_)
  rw [hset_rn (by decide)] at z
  have := i6 z
  exact ⟨by rw [← i2]; exact this.1, this.2⟩
theorem la_mask (n : Nat) (hn : n < 9223372036854775808) : la (n : Int) 2147483647 = ((n % 2147483648 : Nat) : Int) := by
  unfold la
  have hb : (Int64.ofInt (n : Int) &&& Int64.ofInt 2147483647).toBitVec.toNat = n % 2147483648 := by
    rw [Int64.toBitVec_and, BitVec.toNat_and]
    have e1 : (Int64.ofInt (n : Int)).toBitVec.toNat = n := by
      show (BitVec.ofInt 64 (n : Int)).toNat = n
      rw [BitVec.toNat_ofInt]
      omega
    have e2 : (Int64.ofInt 2147483647).toBitVec.toNat = 2 ^ 31 - 1 := by decide
    rw [e1, e2, Nat.and_two_pow_sub_one_eq_mod]
  have h2 : (Int64.ofInt (n : Int) &&& Int64.ofInt 2147483647).toInt = ((Int64.ofInt (n : Int) &&& Int64.ofInt 2147483647).toBitVec.toNat : Int) := by
    show (Int64.ofInt (n : Int) &&& Int64.ofInt 2147483647).toBitVec.toInt = _
    exact BitVec.toInt_eq_toNat_of_lt (by omega)
  rw [h2, hb]
theorem nsd_c {v : Int} (h1 : 0 ≤ v) (h2 : v < 2147483648) : la (w32 v * 1103515245 + 12345) 2147483647 = nsd v := by
  obtain ⟨n, rfl⟩ := Int.eq_ofNat_of_zero_le h1
  rw [w_id (by omega) (by omega), show (n : Int) * 1103515245 + 12345 = ((n * 1103515245 + 12345 : Nat) : Int) from by omega, la_mask _ (by omega)]
  unfold nsd
  omega
theorem nsd_m {v : Int} (h1 : 0 ≤ v) (h2 : v < 2147483648) : lm (w32 v * 1103515245 + 12345) 2147483648 = nsd v := by
  unfold lm
  rw [w_id (by omega) (by omega), wq_id (by omega) (by omega), wq_id (by omega) (by omega), Int.tmod_eq_emod_of_nonneg (by omega)]
  rfl
theorem dk_e {v s : Int} (h1 : 0 ≤ v) (h2 : v < 2147483648) (hs : 0 < s) (hs2 : s ≤ 6) : qm (qd v 65536) s = v / 65536 % s := by
  unfold qm qd
  rw [w_id (x := v) (by omega) (by omega), w_id (x := 65536) (by omega) (by omega), Int.tdiv_eq_ediv_of_nonneg h1, w_id (x := s) (by omega) (by omega), w_id (by omega) (by omega), Int.tmod_eq_emod_of_nonneg (by omega)]
theorem C_comeByDraw {Q : Int → HP → Prop} {h : HP} (hb : 13 ≤ b) (hI : SI b h) (hs0 : 0 < h 2 0) (h0 : ¬ h b 1 < 32 → Q 0 h) (h1 : h b 1 < 32 → ∀ h', SI b h' → VC b h' = comeV (h 2 0) (VC b h) → FR b h h' → Q 1 h') : p5_comeByDraw b h Q := by
  have a2 : h b 1 ≤ 32 := hI.2.1.2.1
  have a1 : 0 ≤ h b 1 := hI.2.1.1
  have a5 : 0 ≤ h b 3 := hI.2.1.2.2.2.2.1
  have a6 : h b 3 < 2147483648 := hI.2.1.2.2.2.2.2
  obtain ⟨s1, s2, s3, s4⟩ := id hI.1
  unfold p5_comeByDraw
  refine brQ (wle ⟨by omega, by omega⟩ ⟨by omega, by omega⟩) (fun z => h0 (by omega)) (fun z => ?_)
  unfold p5_draw
  rw [nsd_c a5 a6]
  refine pf_i ?_
  have nb := nsd_bd (h b 3)
  refine brN (fun z => by have := (wle0 ⟨by omega, by omega⟩).mp z; omega) ⟨by rw [w_id (by omega) (by omega)]; omega, ?_⟩
  rw [hset_rs, dk_e nb.1 nb.2 hs0 s2]
  have k1 := Int.emod_nonneg (nsd (h b 3) / 65536) (show h 2 0 ≠ 0 by omega)
  have k2 := Int.emod_lt_of_pos (nsd (h b 3) / 65536) hs0
  have i1 := hI.f0 (j := 2) (v := nsd (h b 3)) hb (Or.inr ⟨rfl, nb⟩)
  have hv : VC b (hset h b 3 (nsd (h b 3))) = hset (VC b h) 0 2 (nsd (h b 3)) := VC_fld (k := 2) (by decide)
  have e2 : hset h b 3 (nsd (h b 3)) 2 = h 2 := hset_c (by omega)
  have eb : hset h b 3 (nsd (h b 3)) b 1 = h b 1 := hset_rn (by decide)
  have hbv : nsd (VC b h 0 2) = nsd (h b 3) := rfl
  generalize hk : nsd (h b 3) / 65536 % h 2 0 = kk at k1 k2
  obtain ⟨k, rfl⟩ := Int.eq_ofNat_of_zero_le k1
  refine C_addPart hb i1 (by rw [e2]; exact k2) (fun _ h' j1 j2 j3 j4 => brN (by decide) ?_) (fun c => by rw [eb] at c; omega)
  refine h1 (by omega) h' j1 ?_ ((FR.rf.set (by omega)).tr j3)
  rw [j2, hv]
  unfold comeV
  rw [hbv, hk]
theorem C_liveWeeks_L {d : Int} {E : HP → Int → Int → Prop} {Q : Int → HP → Prop} {M : Nat} (hb : 13 ≤ b) (hW : okW W) (hd : d = 0 ∨ d = 1) (hM : M ≤ 99) : ∀ (m f i : Nat) (acc : Int) (h : HP), m < f → i + m = M → SI b h → h 6 = W → (d = 1 → 0 < h 2 0) → (∀ h', SI b h' → VC b h' = wsH d (h 2 0) W (h 2 1).toNat m (VC b h) → FR b h h' → Q (acc + wsT d (h 2 0) W (h 2 1).toNat m (VC b h)) h') → (∀ h' (t j : Int), t = acc + wsT d (h 2 0) W (h 2 1).toNat m (VC b h) → 0 ≤ M - 1 - j → SI b h' → hset (VC b h') 0 1 (VC b h' 0 1 + (M - 1 - j)) = wsH d (h 2 0) W (h 2 1).toNat m (VC b h) → FR b h h' → E h' t j) → p5_liveWeeks_L5 b M d E Q f h acc i := by
  intro m
  induction m with
  | zero =>
    intro f i acc h hf hi hI hw hs hq hE
    obtain ⟨f, rfl⟩ : ∃ n', f = n' + 1 := ⟨f - 1, by omega⟩
    unfold p5_liveWeeks_L5
    refine brY ((wle ⟨by omega, by omega⟩ ⟨by omega, by omega⟩).mpr (by omega)) ?_
    have := hq h hI rfl FR.rf
    rw [show acc + wsT d (h 2 0) W (h 2 1).toNat 0 (VC b h) = acc from by show acc + 0 = acc; omega] at this
    exact this
  | succ m ih =>
    intro f i acc h hf hi hI hw hs hq hE
    obtain ⟨f, rfl⟩ : ∃ n', f = n' + 1 := ⟨f - 1, by omega⟩
    unfold p5_liveWeeks_L5
    refine brN (fun z => by have := (wle ⟨by omega, by omega⟩ ⟨by omega, by omega⟩).mp z; omega) ?_
    have eH : ∀ V, wsH d (h 2 0) W (h 2 1).toNat (m + 1) V = wsH d (h 2 0) W (h 2 1).toNat m (wkV W (h 2 1).toNat (cvV d (h 2 0) V)) := fun _ => rfl
    have eT : ∀ V, wsT d (h 2 0) W (h 2 1).toNat (m + 1) V = wkT W (h 2 1).toNat (cvV d (h 2 0) V) 0 + wsT d (h 2 0) W (h 2 1).toNat m (wkV W (h 2 1).toNat (cvV d (h 2 0) V)) := fun _ => rfl
    refine jn_h (fun K => ∀ (y : Int) (h1 : HP), SI b h1 → VC b h1 = cvV d (h 2 0) (VC b h) → FR b h h1 → (y = 1 ∨ (y = 0 ∧ ¬ (d = 1 ∧ VC b h 0 0 < 32))) → K y h1) (fun y h1 i1 i2 i3 hy => ?_) (fun K hK => jn_i ?_)
    · obtain ⟨f2, f6, _⟩ := fr_SI hb i3
      refine C_liveWeek hb hW i1 (by rw [f6]; exact hw) (fun h2 j1 j2 j3 j4 j5 j6 => ?_)
      obtain ⟨g2, g6, _⟩ := fr_SI hb j3
      rw [f2, i2] at j2 j6
      have GO : p5_liveWeeks_L5 b M d E Q f h2 (acc + wkT W (h1 2 1).toNat (VC b h1) 0) (i + 1) := by
        refine ih f (i + 1) _ h2 (by omega) (by omega) j1 (by rw [g6, f6]; exact hw) (by rw [g2, f2]; exact hs) (fun h3 k1 k2 k3 => ?_) (fun h3 t j kt kj k1 k2 k3 => ?_)
        · rw [g2, f2, j2] at k2
          have := hq h3 k1 (by rw [eH]; exact k2) ((i3.tr j3).tr k3)
          rw [eT] at this
          rw [g2, f2, j2, i2, Int.add_assoc]
          exact this
        · rw [g2, f2, j2] at k2 kt
          rw [i2] at kt
          refine hE h3 t j (by rw [eT, kt, Int.add_assoc]) kj k1 (by rw [eH]; exact k2) ((i3.tr j3).tr k3)
      refine brQ (weq0 ⟨by omega, by omega⟩) (fun z => ?_) (fun z => GO)
      rcases hy with rfl | ⟨rfl, hn⟩
      · exact brN (by decide) GO
      · refine brY (by decide) ?_
        have hc : cvV d (h 2 0) (VC b h) = VC b h := by unfold cvV; rw [if_neg hn]
        rw [hc] at j2 j6
        have jz := j6 z
        have ev : wkV W (h 2 1).toNat (VC b h) = hset (VC b h) 0 1 (VC b h 0 1 + 1) := by unfold wkV; rw [jz.1]
        have st := still (d := d) (s := h 2 0) jz.1 jz.2 hn m (VC b h 0 1 + 1)
        refine hE h2 _ i ?_ (by omega) j1 ?_ (i3.tr j3)
        · rw [eT, hc, ev, st.2, f2, i2, hc, jz.2]; rfl
        · rw [eH, hc, ev, st.1, j2, ev, hset_rs, hset_ov]
          congr 1
          omega
    · rcases hd with rfl | rfl
      · exact brY (by decide) (hK 0 h hI (by unfold cvV; rw [if_neg (by omega)]) FR.rf (Or.inr ⟨rfl, by omega⟩))
      · refine brN (by decide) ?_
        refine C_comeByDraw hb hI (hs rfl) (fun hc => brY (by decide) (hK 0 h hI ?_ FR.rf (Or.inr ⟨rfl, fun z => hc z.2⟩))) (fun hc h1 i1 i2 i3 => brN (by decide) (hK 1 h1 i1 ?_ i3 (Or.inl rfl)))
        · unfold cvV; rw [if_neg (fun z => hc z.2)]
        · unfold cvV; rw [if_pos ⟨rfl, hc⟩]; exact i2
theorem C_liveWeeks {d : Int} {Q : Int → HP → Prop} {M : Nat} {h : HP} (hb : 13 ≤ b) (hW : okW W) (hd : d = 0 ∨ d = 1) (hM : M ≤ 99) (hI : SI b h) (hw : h 6 = W) (hs : d = 1 → 0 < h 2 0) (hq : ∀ h', SI b h' → VC b h' = wsH d (h 2 0) W (h 2 1).toNat M (VC b h) → FR b h h' → Q (wsT d (h 2 0) W (h 2 1).toNat M (VC b h)) h') : p5_liveWeeks b M d h Q := by
  unfold p5_liveWeeks
  refine C_liveWeeks_L hb hW hd hM M FUEL 0 0 h (by unfold FUEL; omega) (by omega) hI hw hs (fun h' i1 i2 i3 => ?_) (fun h' t j it ij i1 i2 i3 => pf_i ?_)
  · rw [Int.zero_add]; exact hq h' i1 i2 i3
  · rw [Int.zero_add] at it
    rw [it]
    refine hq _ (i1.f0 (j := 1) hb (Or.inl rfl)) ?_ (i3.set (by omega))
    rw [show (2 : Nat) = 1 + 1 from rfl, VC_fld (by decide)]
    exact i2
end CWK
