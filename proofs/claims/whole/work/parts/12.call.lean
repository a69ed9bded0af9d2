/-! ===== contracts and calls ===== -/
def rmD (d : Nat) : Room := { frames := d, cells := 0, slots := 0, locals := 40 * d }
def WU (D : va_G) (cA : Nat → ClassId) (ad : Nat → Nat) (h : HP) (sz : Nat) (U : State) : Prop := U.heap.size = sz ∧ va_P D vwCl (wl ad cA h) U.heap ∧ va_K D vwCl (tysA cA) U ∧ va_D (fun _ => True) (wl ad cA h) ∧ (∀ w ∈ cs_NW, va_Nw w U) ∧ cs_EX ad (va_A (wl ad cA h) sz) U U.heap
def Qm (D : va_G) (cA : Nat → ClassId) (ad : Nat → Nat) (h : HP) (sz : Nat) (Q : Option AV → HP → Prop) : Array Value → State → Outcome → State → Prop := fun _ st oc t => (∃ (r : Option AV) (h' : HP), oc = .returned (r.map (cv ad)) ∧ Q r h' ∧ va_P D vwCl (wl ad cA h') t.heap) ∧ va_F (va_A (wl ad cA h) sz) st t
/-- the contract of a method, with these arguments at this heap: it returns, with Q -/
def MT (y : MethodName) (cc : ByteArray) (maxL : Nat) (ret : Option FieldType) (d : Nat) (as : List AV) (h : HP) (Q : Option AV → HP → Prop) : Prop :=
  ∀ (l : Launch) (D : va_G) (cA : Nat → ClassId) (ad : Nat → Nat) (sz : Nat), Met l y (.code y cc maxL ret :: cs_TG) (rmD d) (va_Pc (as.map (cv ad)) (WU D cA ad h sz)) (Qm D cA ad h sz Q) 0 0 (va_A (wl ad cA h) sz)
def padL (n : Nat) (ls : List (Option AV)) : List (Option AV) := ls ++ List.replicate (n - ls.length) none
theorem MT.of {y : MethodName} {cc : ByteArray} {maxL d : Nat} {ret : Option FieldType} {as : List AV} {h : HP} {Q : Option AV → HP → Prop} {own : String} {ls : List (Option AV)} (hy : plainName y.cls = true) (ho : y.cls = own) (hlen : (entL as).length ≤ maxL) (hls : padL maxL (entL as) = ls)
    (body : ∀ X : Cx, Fx X cc own maxL d → Rx X ret Q → AW X maxL 0 ls [] h) : MT y cc maxL ret d as h Q := by
  intro l D cA ad sz
  subst ho; subst hls
  refine Met.ofW (cc := cc) (maxL := maxL) (ret := ret) hy rfl ?_
  intro p e s m args below meth c s₁ B hml hv
  obtain ⟨rfl, hsz, hP, hK, hD0, hnw, hE⟩ := hv
  have hts := atoms_spec (ws := .code y cc maxL ret :: cs_TG) B.pre
  subst hsz
  have hA : ∀ q : Nat, s.heap.size ≤ q → va_A (wl ad cA h) s.heap.size q := fun q hq => Or.inr hq
  have hD : va_D (va_A (wl ad cA h) s.heap.size) (wl ad cA h) := hD0.self
  have hl := lv_entry (as.map (cv ad)) (n := maxL) (by rw [entL_len]; exact hlen)
  rw [lg_entry_eq]
  have hLS : cs_LS ad (padL maxL (entL as)) ((lg_sl (as.map (cv ad)) ++ List.replicate (maxL - (lg_sl (as.map (cv ad))).length) Slot.unset).toArray) maxL := by
    refine ⟨hl.1, hl.2.1, fun i v hi => ?_⟩
    unfold padL at hi
    by_cases hil : i < (entL as).length
    · rw [List.getElem?_append_left hil] at hi
      have := entL_args ad as 0 i v hi
      rw [Nat.zero_add] at this
      exact hl.2.2 (i, cv ad v) this
    · rw [List.getElem?_append_right (Nat.not_lt.mp hil)] at hi
      rw [List.getElem?_replicate] at hi
      split at hi <;> cases hi
  refine body (p, l, e, rmD d, s, m, (as.map (cv ad)).toArray, below, meth, c, MQ below (Qm D cA ad h s.heap.size Q) (as.map (cv ad)).toArray s 0 0 (va_A (wl ad cA h) s.heap.size), D, cA, ad, va_A (wl ad cA h) s.heap.size, 0, 0) ?_ ?_ s.heap [] _ hP hD va_S.rf hLS
  · exact ⟨B.exec, B.bytes, hml, findClass_of_methodNamed B.named, fun w hw => hts w (List.mem_cons_of_mem _ hw), hnw, hK, hA, hE, Nat.le_refl _, Nat.le_refl _, Nat.le_refl _, Nat.le_refl _⟩
  · refine ⟨B.returns, B.notSynchronized, _, _, rfl, fun q hq => hq, fun t H locs r h' ht hW hP1 hS1 hq => ⟨⟨r, h', rfl, hq, by rw [ht]; exact hP1⟩, hS1.F ht⟩⟩
def catA : List AV → Nat
  | [] => 0
  | v :: r => (if isL (some v) = true then 2 else 1) + catA r
theorem catA_ok (ad : Nat → Nat) : ∀ st : List AV, ((st.map (cv ad)).map fun v => v.category).sum = catA st
  | [] => rfl
  | .inl x :: r => by
    have := catA_ok ad r
    simp only [List.map_cons, List.sum_cons, catA] at this ⊢
    rw [this]; rfl
  | .inr (.inl x) :: r => by
    have := catA_ok ad r
    simp only [List.map_cons, List.sum_cons, catA] at this ⊢
    rw [this]; rfl
  | .inr (.inr x) :: r => by
    have := catA_ok ad r
    simp only [List.map_cons, List.sum_cons, catA] at this ⊢
    rw [this]; rfl
theorem tg_good {w : Cond} (h : w ∈ cs_TG) : (w.onTables && w.keeps) = true ∨ ∃ ty, w = .arrayClass ty := good_of_word (List.mem_filter.mp h).2
theorem tg_goodIn {w : Cond} (h : w ∈ cs_TG) : GoodIn cs_TG (w :: cs_TG) := by
  intro v hv
  rcases List.mem_cons.mp hv with rfl | hv
  · exact ⟨h, tg_good h⟩
  · exact ⟨hv, tg_good hv⟩
def CLV (own : String) (idx ci : Nat) (y : MethodName) (bytes : ByteArray) (maxL : Nat) (ret : Option FieldType) (n : Nat) : Prop := ∃ q : vw_C, vwCl[ci]? = some q ∧ y.cls = q.1 ∧ (Cond.methodLink own idx y ∈ cs_TG ∨ ∃ host, Cond.methodLinkNest own idx y host ∈ cs_NW) ∧ Cond.instanceMethod y ∈ cs_TG ∧ Cond.selects y.cls y y ∈ cs_TG ∧ Cond.initialized y.cls ∈ cs_TG ∧ Cond.code y bytes maxL ret ∈ cs_TG ∧ (y.cls ≠ "java/lang/invoke/MethodHandle" ∧ y.cls ≠ "java/lang/invoke/VarHandle" ∧ (parseMethodDescriptor y.desc).map (fun d => d.parameters.length) = some n) ∧ maxL ≤ 21
def CLS (own : String) (idx : Nat) (y : MethodName) (bytes : ByteArray) (maxL : Nat) (ret : Option FieldType) (n : Nat) : Prop := Cond.methodLink own idx y ∈ cs_TG ∧ Cond.static y ∈ cs_TG ∧ Cond.initialized y.cls ∈ cs_TG ∧ Cond.code y bytes maxL ret ∈ cs_TG ∧ (y.cls ≠ "java/lang/invoke/MethodHandle" ∧ y.cls ≠ "java/lang/invoke/VarHandle" ∧ (parseMethodDescriptor y.desc).map (fun d => d.parameters.length) = some n) ∧ maxL ≤ 21
theorem WU.blind {D : va_G} {cA : Nat → ClassId} {ad : Nat → Nat} {h : HP} {sz : Nat} {vs : List Value} : FrameBlind (va_Pc vs (WU D cA ad h sz)) := by
  rintro a U g mk ⟨q0, q1, qP, qK, qD, qN, qE⟩
  exact ⟨q0, q1, qP, va_K.moved (u := U) (U := U.calling g mk a) (Vm.Alike.refl U.vm) qK, qD, nw_same (s := U) (U := U.calling g mk a) rfl qN, qE.blind (U := U.calling g mk a) rfl (Vm.Alike.refl U.vm)⟩
section CROWS
variable {X : Cx} {cc : ByteArray} {own : String} {nL d pc pn : Nat} {ls : List (Option AV)} {st stk : List AV} {h : HP}
variable {y : MethodName} {bytes : ByteArray} {maxL d2 n idx ci c : Nat} {ret : Option FieldType} {as : List AV} {Q : Option AV → HP → Prop} {fs : List Nat}
theorem cs_WU {D : va_G} {cA : Nat → ClassId} {ad : Nat → Nat} {A : Nat → Prop} {s U : State} {H : Heap} {locs : List Loc} (hP : va_P D vwCl (wl ad cA h) H) (hD : va_D A (wl ad cA h)) (hS : va_S A s.heap H locs) (hK : va_K D vwCl (tysA cA) s) (hnw : ∀ w ∈ cs_NW, va_Nw w s) (hE : cs_EX ad A s s.heap) (hA : ∀ q, s.heap.size ≤ q → A q) (hU : U.heap = H) (hW : s.WarmedH U.vm) : WU D cA ad h H.size U := by
  refine ⟨by rw [hU], by rw [hU]; exact hP, va_K.moved hW.alike hK, hD.weaken (fun _ _ _ _ => trivial), nw_warm hW hnw, ?_⟩
  rw [hU]
  refine cs_EX.to hE hW hS.2.1 (fun q hq => ?_)
  rcases hq with ⟨k, e, hk⟩ | hq
  · exact hD.2 k _ hk
  · exact hA q (Nat.le_trans hS.1 hq)
theorem cs_after {p : Program} {l : Launch} {e : Env} {R : Room} {s : State} {m : MethodId} {args : Array Value} {below : List Frame} {meth : Method} {c0 : Code} {Z : State → Prop} {D : va_G} {cA : Nat → ClassId} {ad : Nat → Nat} {A : Nat → Prop} {kc ks : Nat} {H : Heap} {locs : List Loc} {arr : Array Slot} {a : Array Value} {st0 : List Value}
    (hr : va_Run p l e R s m args below meth c0 H locs kc ks 0 0 (F0 m pc arr st0) (st.map (cv ad)) (Qm D cA ad h H.size Q a) (va_A (wl ad cA h) H.size)) (hD : va_D A (wl ad cA h)) (hS : va_S A s.heap H locs) (hA : ∀ q, s.heap.size ≤ q → A q) (hl : cs_LS ad ls arr nL)
    (kk : ∀ r h', Q r h' → AW (p, l, e, R, s, m, args, below, meth, c0, Z, D, cA, ad, A, kc, ks) nL (pc + 3) ls (r.toList ++ st) h') : W p l e R s m args below meth c0 H locs kc ks Z (F0 m pc arr st0) := by
  have hF : ∀ q, va_A (wl ad cA h) H.size q → A q := by
    rintro q (⟨k, e, hk⟩ | hq)
    · exact hD.2 k _ hk
    · exact hA q (Nat.le_trans hS.1 hq)
  intro T hT X
  obtain ⟨v, st₀, t, T', L, h0, X', hL, e1, e2, ⟨⟨r, h', hv, hq, hP1⟩, hz, hk⟩, stp⟩ := hr T hT X
  have hv' : v = r.map (cv ad) := by
    injection hv
  subst hv'
  rw [h0] at hz hk
  have hS' : va_S A s.heap T'.heap (locs ++ L) := ⟨Nat.le_trans hS.1 (by rw [e1]; exact hz), fun q h1 h2 => by rw [e1, hk q (Nat.lt_of_lt_of_le h1 hS.1) (fun z => h2 (hF q z))]; exact hS.2.1 q h1 h2, fun q hq => by
      rcases List.mem_append.mp hq with h | h
      · exact hS.2.2 q h
      · exact hF _ (hL q h)⟩
  have K := kk r h' hq T'.heap (locs ++ L) arr (by rw [e1]; exact hP1) (wl_D hD) hS' hl
  have hst : (r.toList ++ st).map (cv ad) = (r.map (cv ad)).toList ++ st.map (cv ad) := by
    cases r <;> simp
  rw [hst] at K
  obtain ⟨t2, a1, b1⟩ := K T' rfl X'
  exact ⟨t2, stp t2 a1, b1⟩
theorem AW.invV (F : Fx X cc own nL d) (hd : decode cc pc = .ok (.invokevirtual idx, 3)) (hp : pc + 3 = pn) (cl : CLV own idx ci y bytes maxL ret n) (so : SHL[c]? = some (.inl (ci, fs))) (hm : MT y bytes maxL ret d2 (vR c :: as) h Q) (hn : as.length = n) (hst : stk = as.reverse ++ vR c :: st) (hcat : catA st ≤ 8) (hdd : d2 + 1 ≤ d)
    (kk : ∀ r h', Q r h' → AW X nL pn ls (r.toList ++ st) h') : AW X nL pc ls stk h := by
  obtain ⟨p, l, e, R, s, m, args, below, meth, c0, Z, D, cA, ad, A, kc, ks⟩ := X
  obtain ⟨hx, hb, hml, hown, hts, hnw, hK, hA, hE, hfr, hlo, hc, hs⟩ := F
  subst hp
  intro H locs arr hP hD hS hl
  obtain ⟨q, c1, c2, c3, c4, c5, c6, c7, c8, c9⟩ := cl
  have hR : (rmD d2).frames + 1 ≤ R.frames ∧ 8 + (maxL + 11) + (rmD d2).locals ≤ R.locals := ⟨Nat.le_trans hdd hfr, by show 8 + (maxL + 11) + 40 * d2 ≤ R.locals; omega⟩
  have hrecv : ∃ cell : Cell, H[ad c]? = some cell ∧ cell.vm.isStatics = false ∧ s.vm.findClass y.cls = some cell.cls := by
    rw [c2]; exact va_recv hK hP c1 (wl_o so)
  have hpre : PreV s H y.cls (ad c) (va_Pc ((vR c :: as).map (cv ad)) (WU D cA ad h H.size)) (as.map (cv ad)) :=
    ⟨WU.blind, hrecv, fun U hU hW => ⟨rfl, cs_WU hP hD hS hK hnw hE hA hU hW⟩⟩
  have hstk : stk.map (cv ad) = (as.map (cv ad)).reverse ++ .ref (ad c) :: st.map (cv ad) := by
    rw [hst, List.map_append, List.map_reverse]; rfl
  refine cs_after (a := ((vR c :: as).map (cv ad)).toArray) (h := h) (Q := Q) (st := st) (ls := ls) (nL := nL) ?_ hD hS hA hl kk
  rcases c3 with c3 | ⟨host, c3⟩
  · exact va_runV (C := y.cls) (nL := nL) (Ts := cs_TG) ⟨hx, hb, hml, hown, hts⟩ (hm l D cA ad H.size) (cwV (C := y.cls) n hts (by
        intro w hw
        rcases List.mem_append.mp hw with hw | hw
        · rcases List.mem_cons.mp hw with rfl | hw
          · exact ⟨c3, tg_good c3⟩
          rcases List.mem_cons.mp hw with rfl | hw
          · exact ⟨c4, tg_good c4⟩
          rcases List.mem_cons.mp hw with rfl | hw
          · exact ⟨c5, tg_good c5⟩
          rcases List.mem_cons.mp hw with rfl | hw
          · exact ⟨c6, tg_good c6⟩
          cases hw
        · exact tg_goodIn c7 w hw) rfl rfl rfl ⟨rfl, c8⟩ hR) hpre rfl (by rw [List.length_map]; exact hn) hl.1 hstk (lv_room (by rw [catA_ok]; exact hcat)) hd ⟨hc, hs⟩
  · exact va_runVN (C := y.cls) (nL := nL) (Ts := cs_TG) ⟨hx, hb, hml, hown, hts⟩ (hm l D cA ad H.size) ⟨va_cnB (Ts := cs_TG) n hts (tg_goodIn c7) rfl rfl rfl (hnw _ c3) (hts _ c6) c8 hR, hts _ c4, hts _ c5⟩ hpre rfl (by rw [List.length_map]; exact hn) hl.1 hstk (lv_room (by rw [catA_ok]; exact hcat)) hd ⟨hc, hs⟩
theorem AW.invS (F : Fx X cc own nL d) (hd : decode cc pc = .ok (.invokestatic idx, 3)) (hp : pc + 3 = pn) (cl : CLS own idx y bytes maxL ret n) (hm : MT y bytes maxL ret d2 as h Q) (hn : as.length = n) (hst : stk = as.reverse ++ st) (hcat : catA st ≤ 8) (hdd : d2 + 1 ≤ d)
    (kk : ∀ r h', Q r h' → AW X nL pn ls (r.toList ++ st) h') : AW X nL pc ls stk h := by
  obtain ⟨p, l, e, R, s, m, args, below, meth, c0, Z, D, cA, ad, A, kc, ks⟩ := X
  obtain ⟨hx, hb, hml, hown, hts, hnw, hK, hA, hE, hfr, hlo, hc, hs⟩ := F
  subst hp
  intro H locs arr hP hD hS hl
  obtain ⟨c3, c4, c6, c7, c8, c9⟩ := cl
  have hR : (rmD d2).frames + 1 ≤ R.frames ∧ 8 + (maxL + 11) + (rmD d2).locals ≤ R.locals := ⟨Nat.le_trans hdd hfr, by show 8 + (maxL + 11) + 40 * d2 ≤ R.locals; omega⟩
  have hpre : PreS s H (va_Pc (as.map (cv ad)) (WU D cA ad h H.size)) (as.map (cv ad)) :=
    ⟨WU.blind, fun U hU hW => ⟨rfl, cs_WU hP hD hS hK hnw hE hA hU hW⟩⟩
  have hstk : stk.map (cv ad) = (as.map (cv ad)).reverse ++ st.map (cv ad) := by
    rw [hst, List.map_append, List.map_reverse]
  refine cs_after (a := (as.map (cv ad)).toArray) (h := h) (Q := Q) (st := st) (ls := ls) (nL := nL) ?_ hD hS hA hl kk
  exact va_runS (nL := nL) (Ts := cs_TG) ⟨hx, hb, hml, hown, hts⟩ (hm l D cA ad H.size) ⟨callB_of n hts (tg_goodIn c7) rfl rfl rfl (hts _ c6) (hts _ c3) c8 hR, hts _ c4⟩ hpre rfl (by rw [List.length_map]; exact hn) hl.1 hstk (lv_room (by rw [catA_ok]; exact hcat)) hd ⟨hc, hs⟩
end CROWS
