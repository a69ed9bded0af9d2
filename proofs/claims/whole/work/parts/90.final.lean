theorem can_i32 (x : Int32) : can x.toInt := by
  have e : (Int32.ofInt x.toInt).toInt = w32 x.toInt := i32T _
  rw [Int32.ofInt_toInt] at e
  rw [e]
  exact w_bd _
theorem whole_start {p : Program} {e : Env} {s : State} {m : MethodId} {below : List Frame} {meth : Method} {c : Code} (l : Launch) {b L : Nat} {xs : Nat → Int32} (hL : L ≤ 3072) (C0 : lw_At p s m meth c b L xs) : W p l e room_1 s m #[Value.ref b] below meth c s.heap [] 0 0 (lw_Z below #[Value.ref b] s) (entryFrame m ([Value.ref b] : List Value).toArray 4) := by
  obtain ⟨hx, hb, hr, hml, hown, hts, hX, hbl, hlocks, hgv⟩ := C0
  have hts0 : ∀ (i : Nat) {w : Cond}, tables_1[i]? = some w → w.before #[Value.ref b] s = true := fun i w h => hts w (List.mem_append_right _ (List.mem_of_getElem? h))
  have htg : ∀ w ∈ cs_TG, w.before #[Value.ref b] s = true := fun w h => hts w (List.mem_filter.mp h).1
  have hnw : ∀ w ∈ cs_NW, va_Nw w s := by
    intro w hw
    have h1 := hts w (List.mem_filter.mp hw).1
    have h2 := (List.mem_filter.mp hw).2
    cases w <;> first | exact va_Nw.of rfl h1 | (exact absurd h2 (by simp [isNest]))
  have hA : ∀ q : Nat, s.heap.size ≤ q → (fun q : Nat => s.heap.size ≤ q) q := fun _ h => h
  obtain ⟨ad0, had, hE⟩ := ex_of (A := fun q : Nat => s.heap.size ≤ q) hts0 hgv (fun a h => Nat.not_le.mpr h) b
  have hcl : ∀ k : Nat, ∃ z : ClassId × (Nat → Nat), ∀ q : vw_C, vwCl[k]? = some q → u_Kn s q.1 q.2.1 q.2.2 z.1 z.2 := by
    intro k
    have this : ∀ (j : Nat) (C : String) (T : u_T) (N : Nat), vwCl[j]? = some (C, T, N) → (∃ (cC : ClassId) (iS : Nat → Nat), u_Kn s C T N cC iS) → ∃ z : ClassId × (Nat → Nat), ∀ q : vw_C, vwCl[j]? = some q → u_Kn s q.1 q.2.1 q.2.2 z.1 z.2 := by
      rintro j C T N h ⟨cC, iS, h2⟩
      refine ⟨(cC, iS), fun q hq => ?_⟩
      have := Option.some.inj (hq.symm.trans h)
      subst this
      exact h2
    by_cases hk : k < 9
    · match k, hk with
      | 0, _ => exact this 0 RX0 TX0 4 rfl (u_known (C := RX0) (T := TX0) (N := 4) (n := 4) htg iX0 (hts0 172 (by decide +kernel)))
      | 1, _ => exact this 1 RX1 TX1 4 rfl (u_known (C := RX1) (T := TX1) (N := 4) (n := 4) htg iX1 (hts0 193 (by decide +kernel)))
      | 2, _ => exact this 2 RX2 TX2 8 rfl (u_known (C := RX2) (T := TX2) (N := 8) (n := 8) htg iX2 (hts0 73 (by decide +kernel)))
      | 3, _ => exact this 3 RX3 TX3 10 rfl (u_known (C := RX3) (T := TX3) (N := 10) (n := 10) htg iX3 (hts0 212 (by decide +kernel)))
      | 4, _ => exact this 4 RX4 TX4 7 rfl (u_known (C := RX4) (T := TX4) (N := 7) (n := 7) htg iX4 (hts0 26 (by decide +kernel)))
      | 5, _ => exact this 5 RX5 TX5 12 rfl (u_known (C := RX5) (T := TX5) (N := 12) (n := 12) htg iX5 (hts0 106 (by decide +kernel)))
      | 6, _ => exact this 6 RX6 TX6 7 rfl (u_known (C := RX6) (T := TX6) (N := 7) (n := 7) htg iX6 (hts0 251 (by decide +kernel)))
      | 7, _ => exact this 7 RX7 TX7 15 rfl (u_known (C := RX7) (T := TX7) (N := 15) (n := 15) htg iX7 (hts0 18 (by decide +kernel)))
      | 8, _ => exact this 8 RX8 TX8 46 rfl (u_known (C := RX8) (T := TX8) (N := 46) (n := 46) htg iX8 (hts0 782 (by decide +kernel)))
    · refine ⟨(0, fun _ => 0), fun q hq => ?_⟩
      rw [List.getElem?_eq_none (show vwCl.length ≤ k from Nat.not_lt.mp hk)] at hq
      cases hq
  obtain ⟨fz, hfz⟩ := Classical.axiomOfChoice hcl
  obtain ⟨c0, k0, m0, a1, a2, a3⟩ := Cond.arrayClass_spec (hts0 71 (w := Cond.arrayClass .int) (by decide +kernel))
  obtain ⟨c1, k1, m1, b1, b2, b3⟩ := Cond.arrayClass_spec (hts0 70 (w := Cond.arrayClass .char) (by decide +kernel))
  obtain ⟨c2, k2, m2, d1, d2, d3⟩ := Cond.arrayClass_spec (hts0 191 (w := Cond.arrayClass .boolean) (by decide +kernel))
  have hAO : va_AO "CastOffs$Stock" s := va_AO.of (hts0 170 (by decide +kernel))
  obtain ⟨comp, c3, k3, e1, e2, e3, e4, e5⟩ := Cond.arrayOver_spec hAO
  obtain ⟨cA, h0, h1, h2, h3⟩ : ∃ cA : Nat → ClassId, cA 0 = c0 ∧ cA 1 = c1 ∧ cA 2 = c2 ∧ cA 3 = c3 := ⟨fun k => if k = 0 then c0 else if k = 1 then c1 else if k = 2 then c2 else c3, rfl, rfl, rfl, rfl⟩
  have hK : va_K (fun k => (fz k).1, fun k => (fz k).2) vwCl (tysA cA) s := by
    refine ⟨fun k q hq => hfz k q hq, fun k q hq => ?_⟩
    match k, hq with
    | 0, hq => cases hq; rw [h0]; exact ⟨fun n z => ⟨fun k h => (by cases h), k0, a2, m0, a3⟩, a1⟩
    | 1, hq => cases hq; rw [h1]; exact ⟨fun n z => ⟨fun k h => (by cases h), k1, b2, m1, b3⟩, b1⟩
    | 2, hq => cases hq; rw [h2]; exact ⟨fun n z => ⟨fun k h => (by cases h), k2, d2, m2, d3⟩, d1⟩
    | 3, hq => cases hq; rw [h3]; exact ⟨fun n z => ⟨fun k h => (by cases h), k3, e3, comp, e4⟩, k3, comp, e3, e4, e1, e5⟩
    | n + 4, hq => cases hq
  have hl := lv_entry ([.ref b]) (n := 4) (Nat.le_of_ble_eq_true rfl)
  rw [lg_entry_eq]
  have hLS : cs_LS ad0 [some (vR 3000), none, none, none] ((lg_sl ([.ref b]) ++ List.replicate (4 - (lg_sl ([.ref b])).length) Slot.unset).toArray) 4 := by
    refine ⟨hl.1, hl.2.1, fun i v hi => ?_⟩
    match i, hi with
    | 0, hi =>
      cases hi
      show _ = some (Slot.val (.ref (ad0 3000)))
      rw [had]
      exact hl.2.2 (0, .ref b) List.mem_cons_self
    | 1, hi => cases hi
    | 2, hi => cases hi
    | 3, hi => cases hi
    | n + 4, hi => cases hi
  refine law_make (X := (p, l, e, room_1, s, m, #[Value.ref b], below, meth, c, lw_Z below #[Value.ref b] s, (fun k => (fz k).1, fun k => (fz k).2), cA, ad0, 0, fun q : Nat => s.heap.size ≤ q)) ⟨hx, hb, hml, hown, htg, hnw, hK, hA, by decide, by decide, Nat.le_refl _, Nat.le_refl _, Nat.zero_le _, hAO⟩ (Nat.le_refl _) ?_ ad0 s.heap [] _ (fun k _ => rfl) (fun k q h => (by cases h)) ⟨fun i j p q h => (by cases h), fun k q h => (by cases h)⟩ va_S.rf hLS
  intro ad H locs arr hag hP hD hS hl2
  have hag2 : ∀ k, 1000 ≤ k → ad k = ad0 k := fun k hk => hag k (Or.inr hk)
  rw [bl_wl] at hP hD
  have hE2 : cs_EX ad (fun q : Nat => s.heap.size ≤ q) s s.heap := by
    have f1 : (fun i : Nat => ad (1000 + i)) = (fun i : Nat => ad0 (1000 + i)) := funext fun i => hag2 _ (by omega)
    have f2 : (fun i : Nat => ad (1010 + i)) = (fun i : Nat => ad0 (1010 + i)) := funext fun i => hag2 _ (by omega)
    unfold cs_EX
    rw [f1, f2, hag2 1000 (by omega), hag2 1001 (by omega), hag2 1002 (by omega)]
    exact hE
  have hb3 : ad 3000 = b := (hag2 3000 (by omega)).trans had
  refine W.widen (k := 600000) (n := 7302250) (by decide) (by decide) ?_
  refine law_walk (X := (p, l, e, room_1, s, m, #[Value.ref b], below, meth, c, lw_Z below #[Value.ref b] s, (fun k => (fz k).1, fun k => (fz k).2), cA, ad, fun q : Nat => s.heap.size ≤ q, 600000, 7302250)) (L := L) (xs := fun j => (xs j).toInt) (h := h00) ?_ ?_ ?_ (law_pure L hL _ (fun j => can_i32 (xs j))) H locs arr hP hD hS hl2
  · exact ⟨hx, hb, hml, hown, htg, hnw, hK, hA, hE2, by decide, by decide, Nat.le_refl _, Nat.le_refl _⟩
  · refine ⟨?_, by rw [hb3]; exact hbl, by rw [hb3]; exact Nat.not_le.mpr hbl⟩
    rw [hb3]
    have : (fun j => Int32.ofInt ((xs j).toInt)) = xs := funext fun j => Int32.ofInt_toInt (xs j)
    show va_X b L (fun j => Int32.ofInt ((xs j).toInt)) s s.heap
    rw [this]
    exact hX
  · exact ⟨rfl, by rw [hb3], by rw [hb3], rfl, rfl, hr, hlocks, fun q hq => hq⟩
set_option maxHeartbeats 4000000 in
theorem lw_walk (l : Launch) (b : Addr) (xs : List Int32) : MetFree l x (headSpec (Jvm.Cond.code x code maxLocals ret :: tables_1) room_1) (lw_P b xs) (fun _ _ _ _ _ => True) lw_Q := by
  refine MetFree.of_bodyS (code := code) (maxLocals := maxLocals) (ret := ret) (by decide) ?_ ?_
  · intro args s m h hn
    obtain ⟨meth, c, h1, h2, h3, h4, h5, h6, -, -⟩ := Cond.code_spec hn (atoms_spec (ws := Jvm.Cond.code x code maxLocals ret :: tables_1) h _ List.mem_cons_self)
    exact ⟨meth, c, h1, h2, h3, h4, h5, h6⟩
  · intro p e s m args below meth c s₁ B hml0 hP _
    obtain ⟨rfl, hx, hbd, hgv⟩ := hP
    obtain ⟨scr, harrAt, hlist, hof, hsmall⟩ := hx
    obtain ⟨hcb, hkn, -, -⟩ := State.arrayAt?_spec harrAt
    have hown : s.vm.findClass R_law = some m.cls := findClass_of_methodNamed B.named
    have hts0 : ∀ c ∈ (Jvm.Cond.code x code maxLocals ret :: tables_1), c.before #[Value.ref b] s = true := atoms_spec (ws := Jvm.Cond.code x code maxLocals ret :: tables_1) B.pre
    have hts : ∀ w ∈ lw_tbl, w.before #[Value.ref b] s = true := k2_hts_sels lw_privs (fun w hw => hts0 w (List.mem_cons_of_mem _ hw)) lw_privs_ok
    have hml : c.maxLocals = 4 := B.maxLocals_eq (hts0 _ List.mem_cons_self)
    have X₀ : Stand p l e room_1 s m #[Value.ref b] below meth c s₁ [] 0 0 := Stand.of_body B
    have hh0 : s₁.heap = s.heap := by rw [B.state]; rfl
    have hsz : scr.slots.size = xs.length := by rw [← Array.length_toList, hlist, List.length_map]
    have hval : ∀ j : Nat, j < xs.length → scr.slots[j]? = some (.int (xs.getD j 0)) := fun j hj => by
      rw [← Array.getElem?_toList, hlist]
      simp [hj]
    have hbl : b < s.heap.size := (Array.getElem?_eq_some_iff.mp hcb).1
    have hX : va_X b xs.length (fun j => xs.getD j 0) s s.heap := ⟨scr, hcb, hof, hkn, hsz, hval⟩
    have K : W p l e room_1 s m #[Value.ref b] below meth c s₁.heap [] 0 0 (lw_Z below #[Value.ref b] s) (entryFrame m ([Value.ref b] : List Value).toArray 4) := by
      rw [hh0]
      exact whole_start l hbd ⟨B.exec, B.bytes, B.returns, hml, hown, hts, hX, hbl, B.notSynchronized, hgv⟩
    obtain ⟨t, a1, o, b1, b2, b3⟩ := K s₁ rfl X₀
    exact ⟨t, o, a1, b1, b2, b3⟩
theorem lw_pre_spec {args : Array Value} {s : State} (h : (Jvm.Cond.and given_1 narrow_1).before args s = true) (hr : rest_1_c.before args s = true) : ∃ (b : Addr) (xs : List Int32), lw_P b xs args s := by
  have hs := flat_of_before _ h
  have hq := flat_of_before _ hr
  have hc : (Cond.count 1).before args s = true := hs _ (by decide +kernel)
  have harr : (Cond.arrayOf (.arg 0) .int).before args s = true := hs _ (by decide +kernel)
  have hle : (Cond.le (.length (.arg 0)) (.int 3072)).before args s = true := hs _ (by decide +kernel)
  have hlen : (Cond.isInt (.length (.arg 0))).before args s = true := hq _ (by decide +kernel)
  have hall : (Cond.all (.arg 0) (.isInt (.elem (.arg 0) (.index 0)))).before args s = true := hq _ (by decide +kernel)
  obtain ⟨b, xs, hb, hx⟩ := State.ints_of_pre rfl harr hlen hall
  have hsm : xs.length < 2 ^ 31 := hx.choose_spec.2.2.2
  have hev : (Term.length (.arg 0)).eval args s none [] s = some (.int xs.length.toInt32) := hx.length_eval hb
  have hv := Cond.le_ints hev (show (Term.int 3072).eval args s none [] s = some (.int 3072) from rfl)
  have hd : xs.length.toInt32 ≤ 3072 := by
    simpa [Cond.before, Cond.holds, hv] using hle
  have hN : xs.length ≤ 3072 := (Int32.ofNat_le_ofNat hsm (by decide)).mp (show Int32.ofNat xs.length ≤ Int32.ofNat 3072 from hd)
  exact ⟨b, xs, Cond.one_arg hc (show args[0]? = some (.ref b) from hb), hx, hN, h⟩
theorem lw_comes (l : Launch) : Comes l x (Jvm.Cond.code x code maxLocals ret :: tables_1) room_1 (fun tb e args s => Calls_1 tb e args s ∧ rest_1 tb e args s ∧ Pre_1 tb e args s)
    (fun _ _ args s o t => lw_Q args s o t) := by
  intro p e ha hc hk s m args below hf hfit hheap happ hpre
  obtain ⟨b, xs, hP⟩ := lw_pre_spec hpre.2.2 hpre.2.1
  obtain ⟨k, o, h1, h2, h3, hQ⟩ := lw_walk l b xs p e ha hc hk s m args below hf ((Spec.applies_iff_loose hf).mp happ).1 hP trivial
  exact ⟨k, o, h1, h2, h3, hQ⟩
theorem lw_frame {s t : State} {o : Outcome} {args : Array Value} (h : Framed s o t [] 600000 7302250) :
    Framed s o t (fieldLocs frame_1_writes args s ++ arrayLocs frame_1_arrays args s ++ staticLocs frame_1_statics s) 600000 7302250 := h
theorem lw_limb (L : Cond) (hL : ∀ (args : Array Value) (s t : State), L.after args s (.returned (some (.int 1))) t = true) :
    ArmFor flags0 classFile x code maxLocals ret World_1 tables_1 room_1 Calls_1 rest_1 Pre_1
      (fun tb e a s o t => postC L tb e a s o t ∧ Framed s o t (fieldLocs frame_1_writes a s ++ arrayLocs frame_1_arrays a s ++ staticLocs frame_1_statics s) 600000 7302250) := by
  intro l _ _ _ p e ha hc hk s m args below hf hfit hheap happ hpre
  obtain ⟨k, o, h1, h2, h3, rfl, hF⟩ := lw_comes l p e ha hc hk s m args below hf hfit hheap happ hpre
  exact ⟨k, _, h1, h2, h3, hL args s _, lw_frame hF⟩
theorem i_vc : Claimed_1_1 ∧ Claimed_1_2 := ⟨lw_limb limb_1_1 (fun args s t => by simp [limb_1_1, Cond.after, Cond.holds, Cond.value]), lw_limb limb_1_2 (fun args s t => Cond.after_iff.mpr (by
  first | (rw [show limb_1_2 = Cond.eq .result (.int 1) from rfl, Cond.eq_ints (x := 1) (y := 1) rfl rfl]; simp; done) | (simp [limb_1_2, Cond.value, Term.eval]; done)))⟩
