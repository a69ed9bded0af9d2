abbrev Cx : Type := Program × Launch × Env × Room × State × MethodId × Array Value × List Frame × Method × Code × (State → Prop) × va_G × (Nat → ClassId) × (Nat → Nat) × (Nat → Prop) × Nat × Nat
/-- the machine at pc, with these locals, this stack, this heap, comes to its end -/
def AW (X : Cx) (nL pc : Nat) (ls : List (Option AV)) (st : List AV) (h : HP) : Prop := match X with
  | (p, l, e, R, s, m, args, below, meth, c, Z, D, cA, ad, A, kc, ks) => ∀ (H : Heap) (locs : List Loc) (arr : Array Slot), va_P D vwCl (wl ad cA h) H → va_D A (wl ad cA h) → va_S A s.heap H locs → cs_LS ad ls arr nL → W p l e R s m args below meth c H locs kc ks Z (F0 m pc arr (st.map (cv ad)))
/-- what stays within a method -/
def Fx (X : Cx) (cc : ByteArray) (own : String) (nL d : Nat) : Prop := match X with
  | (p, l, e, R, s, m, args, below, meth, c, Z, D, cA, ad, A, kc, ks) => p.tables.exec = Jvm.exec ∧ c.code = cc ∧ c.maxLocals = nL ∧ s.vm.findClass own = some m.cls ∧ (∀ w ∈ cs_TG, w.before args s = true) ∧ (∀ w ∈ cs_NW, va_Nw w s) ∧ va_K D vwCl (tysA cA) s ∧ (∀ q, s.heap.size ≤ q → A q) ∧ cs_EX ad A s s.heap ∧ d ≤ R.frames ∧ 40 * d ≤ R.locals ∧ kc ≤ R.cells ∧ ks ≤ R.slots
/-- how a method ends -/
def Rx (X : Cx) (ret : Option FieldType) (Q : Option AV → HP → Prop) : Prop := match X with
  | (p, l, e, R, s, m, args, below, meth, c, Z, D, cA, ad, A, kc, ks) => meth.sig.returnType = ret ∧ meth.locks = false ∧ ∃ (Qc : Array Value → State → Outcome → State → Prop) (free : Addr → Prop), Z = MQ below Qc args s kc ks free ∧ (∀ q, A q → free q) ∧ ∀ (t : State) (H : Heap) (locs : List Loc) (r : Option AV) (h : HP), t.heap = H → s.WarmedH t.vm → va_P D vwCl (wl ad cA h) H → va_S A s.heap H locs → Q r h → Qc args s (.returned (r.map (cv ad))) t
section AROWS
variable {X : Cx} {cc : ByteArray} {own : String} {nL d pc pn : Nat} {ls : List (Option AV)} {st : List AV} {h : HP}
theorem AW.iconst {n : Int} (F : Fx X cc own nL d) (hd : decode cc pc = .ok (.iconst n, 1)) (hp : pc + 1 = pn) (k : AW X nL pn ls (vI n :: st) h) : AW X nL pc ls (st) h := by
  obtain ⟨p, l, e, R, s, m, args, below, meth, c, Z, D, cA, ad, A, kc, ks⟩ := X
  obtain ⟨hx, hb, hml, hown, hts, hnw, hK, hA, hE, hf, hlo, hc, hs⟩ := F
  subst hp
  intro H locs arr hP hD hS hl
  refine lv_iconst hx hb hd rfl ?_
  exact k H locs arr hP hD hS hl
theorem AW.bipush {n : Int} (F : Fx X cc own nL d) (hd : decode cc pc = .ok (.bipush n, 2)) (hp : pc + 2 = pn) (hv : (Int8.ofInt n).toInt32 = Int32.ofInt n) (k : AW X nL pn ls (vI n :: st) h) : AW X nL pc ls (st) h := by
  obtain ⟨p, l, e, R, s, m, args, below, meth, c, Z, D, cA, ad, A, kc, ks⟩ := X
  obtain ⟨hx, hb, hml, hown, hts, hnw, hK, hA, hE, hf, hlo, hc, hs⟩ := F
  subst hp
  intro H locs arr hP hD hS hl
  refine lv_bipush hx hb hd hv ?_
  exact k H locs arr hP hD hS hl
theorem AW.sipush {n : Int} (F : Fx X cc own nL d) (hd : decode cc pc = .ok (.sipush n, 3)) (hp : pc + 3 = pn) (hv : (Int16.ofInt n).toInt32 = Int32.ofInt n) (k : AW X nL pn ls (vI n :: st) h) : AW X nL pc ls (st) h := by
  obtain ⟨p, l, e, R, s, m, args, below, meth, c, Z, D, cA, ad, A, kc, ks⟩ := X
  obtain ⟨hx, hb, hml, hown, hts, hnw, hK, hA, hE, hf, hlo, hc, hs⟩ := F
  subst hp
  intro H locs arr hP hD hS hl
  refine lv_sipush hx hb hd hv ?_
  exact k H locs arr hP hD hS hl
theorem AW.lconst {n : Fin 2} {x : Int} (F : Fx X cc own nL d) (hd : decode cc pc = .ok (.lconst n, 1)) (hp : pc + 1 = pn) (hv : Int64.ofNat (n : Nat) = Int64.ofInt x) (k : AW X nL pn ls (vL x :: st) h) : AW X nL pc ls (st) h := by
  obtain ⟨p, l, e, R, s, m, args, below, meth, c, Z, D, cA, ad, A, kc, ks⟩ := X
  obtain ⟨hx, hb, hml, hown, hts, hnw, hK, hA, hE, hf, hlo, hc, hs⟩ := F
  subst hp
  intro H locs arr hP hD hS hl
  refine lv_lconst hx hb hd hv ?_
  exact k H locs arr hP hD hS hl
theorem AW.ldc {idx : Nat} {v : Int32} {x : Int} (F : Fx X cc own nL d) (hd : decode cc pc = .ok (.ldc idx, 2)) (hp : pc + 2 = pn) (hw : Cond.constant own idx v ∈ cs_TG) (hv : v = Int32.ofInt x) (k : AW X nL pn ls (vI x :: st) h) : AW X nL pc ls (st) h := by
  obtain ⟨p, l, e, R, s, m, args, below, meth, c, Z, D, cA, ad, A, kc, ks⟩ := X
  obtain ⟨hx, hb, hml, hown, hts, hnw, hK, hA, hE, hf, hlo, hc, hs⟩ := F
  subst hp
  intro H locs arr hP hD hS hl
  refine lv_ldc hx hb hown (hts _ hw) hd ?_
  subst hv
  exact k H locs arr hP hD hS hl
theorem AW.ldcw {idx : Nat} {v : Int32} {x : Int} (F : Fx X cc own nL d) (hd : decode cc pc = .ok (.ldc_w idx, 3)) (hp : pc + 3 = pn) (hw : Cond.constant own idx v ∈ cs_TG) (hv : v = Int32.ofInt x) (k : AW X nL pn ls (vI x :: st) h) : AW X nL pc ls (st) h := by
  obtain ⟨p, l, e, R, s, m, args, below, meth, c, Z, D, cA, ad, A, kc, ks⟩ := X
  obtain ⟨hx, hb, hml, hown, hts, hnw, hK, hA, hE, hf, hlo, hc, hs⟩ := F
  subst hp
  intro H locs arr hP hD hS hl
  refine lv_ldcw hx hb hown (hts _ hw) hd ?_
  subst hv
  exact k H locs arr hP hD hS hl
theorem AW.ldc2 {idx : Nat} {v : Int64} {x : Int} (F : Fx X cc own nL d) (hd : decode cc pc = .ok (.ldc2_w idx, 3)) (hp : pc + 3 = pn) (hw : Cond.constantLong own idx v ∈ cs_TG) (hv : v = Int64.ofInt x) (k : AW X nL pn ls (vL x :: st) h) : AW X nL pc ls (st) h := by
  obtain ⟨p, l, e, R, s, m, args, below, meth, c, Z, D, cA, ad, A, kc, ks⟩ := X
  obtain ⟨hx, hb, hml, hown, hts, hnw, hK, hA, hE, hf, hlo, hc, hs⟩ := F
  subst hp
  intro H locs arr hP hD hS hl
  refine lv_ldc2 hx hb hown (hts _ hw) hd ?_
  subst hv
  exact k H locs arr hP hD hS hl
theorem AW.iload_n {k : Fin 4} {i : Nat} {x : Int} (F : Fx X cc own nL d) (hd : decode cc pc = .ok (.iload_n k, 1)) (hp : pc + 1 = pn) (hi : (k : Nat) = i) (hv : ls[i]? = some (some (vI x))) (k : AW X nL pn ls (vI x :: st) h) : AW X nL pc ls (st) h := by
  obtain ⟨p, l, e, R, s, m, args, below, meth, c, Z, D, cA, ad, A, kc, ks⟩ := X
  obtain ⟨hx, hb, hml, hown, hts, hnw, hK, hA, hE, hf, hlo, hc, hs⟩ := F
  subst hp
  intro H locs arr hP hD hS hl
  refine lv_iload_n hx hb hd hi (hl.2.2 i _ hv) ?_
  exact k H locs arr hP hD hS hl
theorem AW.iload {i : Nat} {x : Int} (F : Fx X cc own nL d) (hd : decode cc pc = .ok (.iload i, 2)) (hp : pc + 2 = pn) (hv : ls[i]? = some (some (vI x))) (k : AW X nL pn ls (vI x :: st) h) : AW X nL pc ls (st) h := by
  obtain ⟨p, l, e, R, s, m, args, below, meth, c, Z, D, cA, ad, A, kc, ks⟩ := X
  obtain ⟨hx, hb, hml, hown, hts, hnw, hK, hA, hE, hf, hlo, hc, hs⟩ := F
  subst hp
  intro H locs arr hP hD hS hl
  refine lv_iload hx hb hd (hl.2.2 i _ hv) ?_
  exact k H locs arr hP hD hS hl
theorem AW.lload_n {k : Fin 4} {i : Nat} {x : Int} (F : Fx X cc own nL d) (hd : decode cc pc = .ok (.lload_n k, 1)) (hp : pc + 1 = pn) (hi : (k : Nat) = i) (hv : ls[i]? = some (some (vL x))) (k : AW X nL pn ls (vL x :: st) h) : AW X nL pc ls (st) h := by
  obtain ⟨p, l, e, R, s, m, args, below, meth, c, Z, D, cA, ad, A, kc, ks⟩ := X
  obtain ⟨hx, hb, hml, hown, hts, hnw, hK, hA, hE, hf, hlo, hc, hs⟩ := F
  subst hp
  intro H locs arr hP hD hS hl
  refine lv_lload_n hx hb hd hi (hl.2.2 i _ hv) ?_
  exact k H locs arr hP hD hS hl
theorem AW.lload {i : Nat} {x : Int} (F : Fx X cc own nL d) (hd : decode cc pc = .ok (.lload i, 2)) (hp : pc + 2 = pn) (hv : ls[i]? = some (some (vL x))) (k : AW X nL pn ls (vL x :: st) h) : AW X nL pc ls (st) h := by
  obtain ⟨p, l, e, R, s, m, args, below, meth, c, Z, D, cA, ad, A, kc, ks⟩ := X
  obtain ⟨hx, hb, hml, hown, hts, hnw, hK, hA, hE, hf, hlo, hc, hs⟩ := F
  subst hp
  intro H locs arr hP hD hS hl
  refine lv_lload hx hb hd (hl.2.2 i _ hv) ?_
  exact k H locs arr hP hD hS hl
theorem AW.aload_n {k : Fin 4} {i : Nat} {x : Nat} (F : Fx X cc own nL d) (hd : decode cc pc = .ok (.aload_n k, 1)) (hp : pc + 1 = pn) (hi : (k : Nat) = i) (hv : ls[i]? = some (some (vR x))) (k : AW X nL pn ls (vR x :: st) h) : AW X nL pc ls (st) h := by
  obtain ⟨p, l, e, R, s, m, args, below, meth, c, Z, D, cA, ad, A, kc, ks⟩ := X
  obtain ⟨hx, hb, hml, hown, hts, hnw, hK, hA, hE, hf, hlo, hc, hs⟩ := F
  subst hp
  intro H locs arr hP hD hS hl
  refine lv_aload_n hx hb hd hi (hl.2.2 i _ hv) ?_
  exact k H locs arr hP hD hS hl
theorem AW.aload {i : Nat} {x : Nat} (F : Fx X cc own nL d) (hd : decode cc pc = .ok (.aload i, 2)) (hp : pc + 2 = pn) (hv : ls[i]? = some (some (vR x))) (k : AW X nL pn ls (vR x :: st) h) : AW X nL pc ls (st) h := by
  obtain ⟨p, l, e, R, s, m, args, below, meth, c, Z, D, cA, ad, A, kc, ks⟩ := X
  obtain ⟨hx, hb, hml, hown, hts, hnw, hK, hA, hE, hf, hlo, hc, hs⟩ := F
  subst hp
  intro H locs arr hP hD hS hl
  refine lv_aload hx hb hd (hl.2.2 i _ hv) ?_
  exact k H locs arr hP hD hS hl
theorem AW.istore_n {k : Fin 4} {i : Nat} {x : Int} {ls2 : List (Option AV)} (F : Fx X cc own nL d) (hd : decode cc pc = .ok (.istore_n k, 1)) (hp : pc + 1 = pn) (hi : (k : Nat) = i) (hn : i < nL) (hnl : isL ((ls[i - 1]?).getD none) = false) (hls : ls.set i (some (vI x)) = ls2) (k : AW X nL pn ls2 st h) : AW X nL pc ls (vI x :: st) h := by
  obtain ⟨p, l, e, R, s, m, args, below, meth, c, Z, D, cA, ad, A, kc, ks⟩ := X
  obtain ⟨hx, hb, hml, hown, hts, hnw, hK, hA, hE, hf, hlo, hc, hs⟩ := F
  subst hp
  intro H locs arr hP hD hS hl
  subst hls
  refine lv_istore_n hx hb hd hi hl.has hn rfl (fun arr2 hl2 => ?_)
  exact k H locs arr2 hP hD hS (cs_LS.st1 (fun j hj => by rw [show j = i - 1 from by omega]; exact hnl) hl2)
theorem AW.istore {i : Nat} {x : Int} {ls2 : List (Option AV)} (F : Fx X cc own nL d) (hd : decode cc pc = .ok (.istore i, 2)) (hp : pc + 2 = pn) (hn : i < nL) (hnl : isL ((ls[i - 1]?).getD none) = false) (hls : ls.set i (some (vI x)) = ls2) (k : AW X nL pn ls2 st h) : AW X nL pc ls (vI x :: st) h := by
  obtain ⟨p, l, e, R, s, m, args, below, meth, c, Z, D, cA, ad, A, kc, ks⟩ := X
  obtain ⟨hx, hb, hml, hown, hts, hnw, hK, hA, hE, hf, hlo, hc, hs⟩ := F
  subst hp
  intro H locs arr hP hD hS hl
  subst hls
  refine lv_istore hx hb hd hl.has hn rfl (fun arr2 hl2 => ?_)
  exact k H locs arr2 hP hD hS (cs_LS.st1 (fun j hj => by rw [show j = i - 1 from by omega]; exact hnl) hl2)
theorem AW.lstore_n {k : Fin 4} {i : Nat} {x : Int} {ls2 : List (Option AV)} (F : Fx X cc own nL d) (hd : decode cc pc = .ok (.lstore_n k, 1)) (hp : pc + 1 = pn) (hi : (k : Nat) = i) (hn : i + 1 < nL) (hnl : isL ((ls[i - 1]?).getD none) = false) (hls : (ls.set i (some (vL x))).set (i + 1) none = ls2) (k : AW X nL pn ls2 st h) : AW X nL pc ls (vL x :: st) h := by
  obtain ⟨p, l, e, R, s, m, args, below, meth, c, Z, D, cA, ad, A, kc, ks⟩ := X
  obtain ⟨hx, hb, hml, hown, hts, hnw, hK, hA, hE, hf, hlo, hc, hs⟩ := F
  subst hp
  intro H locs arr hP hD hS hl
  subst hls
  refine lv_lstore_n hx hb hd hi hl.has hn rfl (fun arr2 hl2 => ?_)
  exact k H locs arr2 hP hD hS (cs_LS.st2 (fun j hj => by rw [show j = i - 1 from by omega]; exact hnl) hl2)
theorem AW.lstore {i : Nat} {x : Int} {ls2 : List (Option AV)} (F : Fx X cc own nL d) (hd : decode cc pc = .ok (.lstore i, 2)) (hp : pc + 2 = pn) (hn : i + 1 < nL) (hnl : isL ((ls[i - 1]?).getD none) = false) (hls : (ls.set i (some (vL x))).set (i + 1) none = ls2) (k : AW X nL pn ls2 st h) : AW X nL pc ls (vL x :: st) h := by
  obtain ⟨p, l, e, R, s, m, args, below, meth, c, Z, D, cA, ad, A, kc, ks⟩ := X
  obtain ⟨hx, hb, hml, hown, hts, hnw, hK, hA, hE, hf, hlo, hc, hs⟩ := F
  subst hp
  intro H locs arr hP hD hS hl
  subst hls
  refine lv_lstore hx hb hd hl.has hn rfl (fun arr2 hl2 => ?_)
  exact k H locs arr2 hP hD hS (cs_LS.st2 (fun j hj => by rw [show j = i - 1 from by omega]; exact hnl) hl2)
theorem AW.astore_n {k : Fin 4} {i : Nat} {x : Nat} {ls2 : List (Option AV)} (F : Fx X cc own nL d) (hd : decode cc pc = .ok (.astore_n k, 1)) (hp : pc + 1 = pn) (hi : (k : Nat) = i) (hn : i < nL) (hnl : isL ((ls[i - 1]?).getD none) = false) (hls : ls.set i (some (vR x)) = ls2) (k : AW X nL pn ls2 st h) : AW X nL pc ls (vR x :: st) h := by
  obtain ⟨p, l, e, R, s, m, args, below, meth, c, Z, D, cA, ad, A, kc, ks⟩ := X
  obtain ⟨hx, hb, hml, hown, hts, hnw, hK, hA, hE, hf, hlo, hc, hs⟩ := F
  subst hp
  intro H locs arr hP hD hS hl
  subst hls
  refine lv_astore_n hx hb hd hi hl.has hn rfl (fun arr2 hl2 => ?_)
  exact k H locs arr2 hP hD hS (cs_LS.st1 (fun j hj => by rw [show j = i - 1 from by omega]; exact hnl) hl2)
theorem AW.astore {i : Nat} {x : Nat} {ls2 : List (Option AV)} (F : Fx X cc own nL d) (hd : decode cc pc = .ok (.astore i, 2)) (hp : pc + 2 = pn) (hn : i < nL) (hnl : isL ((ls[i - 1]?).getD none) = false) (hls : ls.set i (some (vR x)) = ls2) (k : AW X nL pn ls2 st h) : AW X nL pc ls (vR x :: st) h := by
  obtain ⟨p, l, e, R, s, m, args, below, meth, c, Z, D, cA, ad, A, kc, ks⟩ := X
  obtain ⟨hx, hb, hml, hown, hts, hnw, hK, hA, hE, hf, hlo, hc, hs⟩ := F
  subst hp
  intro H locs arr hP hD hS hl
  subst hls
  refine lv_astore hx hb hd hl.has hn rfl (fun arr2 hl2 => ?_)
  exact k H locs arr2 hP hD hS (cs_LS.st1 (fun j hj => by rw [show j = i - 1 from by omega]; exact hnl) hl2)
theorem AW.iinc {i : Nat} {n x : Int} {ls2 : List (Option AV)} (F : Fx X cc own nL d) (hd : decode cc pc = .ok (.iinc i n, 3)) (hp : pc + 3 = pn) (hv : ls[i]? = some (some (vI x))) (hn : i < nL) (hnl : isL ((ls[i - 1]?).getD none) = false) (hls : ls.set i (some (vI (x + n))) = ls2) (k : AW X nL pn ls2 st h) : AW X nL pc ls st h := by
  obtain ⟨p, l, e, R, s, m, args, below, meth, c, Z, D, cA, ad, A, kc, ks⟩ := X
  obtain ⟨hx, hb, hml, hown, hts, hnw, hK, hA, hE, hf, hlo, hc, hs⟩ := F
  subst hp
  intro H locs arr hP hD hS hl
  subst hls
  obtain ⟨q, hq⟩ := List.getElem?_of_mem (lvl_mem.mpr ⟨vI x, hv, rfl⟩ : (i, cv ad (vI x)) ∈ lvl ad ls)
  refine lv_iinc (v := Int32.ofInt (x + n)) hx hb hd hl.has hq (by rw [Int32.ofInt_add]) hn rfl (fun arr2 hl2 => ?_)
  exact k H locs arr2 hP hD hS (cs_LS.st1 (v := vI (x + n)) (fun j hj => by rw [show j = i - 1 from by omega]; exact hnl) hl2)
theorem AW.iadd {x y : Int} (F : Fx X cc own nL d) (hd : decode cc pc = .ok (.iadd, 1)) (hp : pc + 1 = pn) (k : AW X nL pn ls (vI (x + y) :: st) h) : AW X nL pc ls (vI y :: vI x :: st) h := by
  obtain ⟨p, l, e, R, s, m, args, below, meth, c, Z, D, cA, ad, A, kc, ks⟩ := X
  obtain ⟨hx, hb, hml, hown, hts, hnw, hK, hA, hE, hf, hlo, hc, hs⟩ := F
  subst hp
  intro H locs arr hP hD hS hl
  refine lv_iadd hx hb hd ?_
  rw [← Int32.ofInt_add]
  exact k H locs arr hP hD hS hl
theorem AW.isub {x y : Int} (F : Fx X cc own nL d) (hd : decode cc pc = .ok (.isub, 1)) (hp : pc + 1 = pn) (k : AW X nL pn ls (vI (x - y) :: st) h) : AW X nL pc ls (vI y :: vI x :: st) h := by
  obtain ⟨p, l, e, R, s, m, args, below, meth, c, Z, D, cA, ad, A, kc, ks⟩ := X
  obtain ⟨hx, hb, hml, hown, hts, hnw, hK, hA, hE, hf, hlo, hc, hs⟩ := F
  subst hp
  intro H locs arr hP hD hS hl
  refine lv_isub hx hb hd ?_
  rw [← Int32.ofInt_sub]
  exact k H locs arr hP hD hS hl
theorem AW.imul {x y : Int} (F : Fx X cc own nL d) (hd : decode cc pc = .ok (.imul, 1)) (hp : pc + 1 = pn) (k : AW X nL pn ls (vI (x * y) :: st) h) : AW X nL pc ls (vI y :: vI x :: st) h := by
  obtain ⟨p, l, e, R, s, m, args, below, meth, c, Z, D, cA, ad, A, kc, ks⟩ := X
  obtain ⟨hx, hb, hml, hown, hts, hnw, hK, hA, hE, hf, hlo, hc, hs⟩ := F
  subst hp
  intro H locs arr hP hD hS hl
  refine lv_imul hx hb hd ?_
  rw [← Int32.ofInt_mul]
  exact k H locs arr hP hD hS hl
theorem AW.iand {x y : Int} (F : Fx X cc own nL d) (hd : decode cc pc = .ok (.iand, 1)) (hp : pc + 1 = pn) (k : AW X nL pn ls (vI (ia x y) :: st) h) : AW X nL pc ls (vI y :: vI x :: st) h := by
  obtain ⟨p, l, e, R, s, m, args, below, meth, c, Z, D, cA, ad, A, kc, ks⟩ := X
  obtain ⟨hx, hb, hml, hown, hts, hnw, hK, hA, hE, hf, hlo, hc, hs⟩ := F
  subst hp
  intro H locs arr hP hD hS hl
  refine lv_iand hx hb hd ?_
  rw [show Int32.ofInt x &&& Int32.ofInt y = Int32.ofInt (ia x y) from (Int32.ofInt_toInt _).symm]
  exact k H locs arr hP hD hS hl
theorem AW.ior {x y : Int} (F : Fx X cc own nL d) (hd : decode cc pc = .ok (.ior, 1)) (hp : pc + 1 = pn) (k : AW X nL pn ls (vI (io x y) :: st) h) : AW X nL pc ls (vI y :: vI x :: st) h := by
  obtain ⟨p, l, e, R, s, m, args, below, meth, c, Z, D, cA, ad, A, kc, ks⟩ := X
  obtain ⟨hx, hb, hml, hown, hts, hnw, hK, hA, hE, hf, hlo, hc, hs⟩ := F
  subst hp
  intro H locs arr hP hD hS hl
  refine lv_ior hx hb hd ?_
  rw [show Int32.ofInt x ||| Int32.ofInt y = Int32.ofInt (io x y) from (Int32.ofInt_toInt _).symm]
  exact k H locs arr hP hD hS hl
theorem AW.ishl {x y : Int} (F : Fx X cc own nL d) (hd : decode cc pc = .ok (.ishl, 1)) (hp : pc + 1 = pn) (k : AW X nL pn ls (vI (sl x y) :: st) h) : AW X nL pc ls (vI y :: vI x :: st) h := by
  obtain ⟨p, l, e, R, s, m, args, below, meth, c, Z, D, cA, ad, A, kc, ks⟩ := X
  obtain ⟨hx, hb, hml, hown, hts, hnw, hK, hA, hE, hf, hlo, hc, hs⟩ := F
  subst hp
  intro H locs arr hP hD hS hl
  refine lv_ishl hx hb hd ?_
  rw [show Int32.ofInt x <<< (Int32.ofInt y &&& 31) = Int32.ofInt (sl x y) from (Int32.ofInt_toInt _).symm]
  exact k H locs arr hP hD hS hl
theorem AW.ishr {x y : Int} (F : Fx X cc own nL d) (hd : decode cc pc = .ok (.ishr, 1)) (hp : pc + 1 = pn) (k : AW X nL pn ls (vI (sr x y) :: st) h) : AW X nL pc ls (vI y :: vI x :: st) h := by
  obtain ⟨p, l, e, R, s, m, args, below, meth, c, Z, D, cA, ad, A, kc, ks⟩ := X
  obtain ⟨hx, hb, hml, hown, hts, hnw, hK, hA, hE, hf, hlo, hc, hs⟩ := F
  subst hp
  intro H locs arr hP hD hS hl
  refine lv_ishr hx hb hd ?_
  rw [show Int32.ofInt x >>> (Int32.ofInt y &&& 31) = Int32.ofInt (sr x y) from (Int32.ofInt_toInt _).symm]
  exact k H locs arr hP hD hS hl
theorem AW.idiv {x y : Int} (F : Fx X cc own nL d) (hd : decode cc pc = .ok (.idiv, 1)) (hp : pc + 1 = pn) (hz : w32 y ≠ 0) (k : AW X nL pn ls (vI (qd x y) :: st) h) : AW X nL pc ls (vI y :: vI x :: st) h := by
  obtain ⟨p, l, e, R, s, m, args, below, meth, c, Z, D, cA, ad, A, kc, ks⟩ := X
  obtain ⟨hx, hb, hml, hown, hts, hnw, hK, hA, hE, hf, hlo, hc, hs⟩ := F
  subst hp
  intro H locs arr hP hD hS hl
  refine lv_idiv hx hb hd (i32ne y hz) ?_
  rw [qd_ok]
  exact k H locs arr hP hD hS hl
theorem AW.irem {x y : Int} (F : Fx X cc own nL d) (hd : decode cc pc = .ok (.irem, 1)) (hp : pc + 1 = pn) (hz : w32 y ≠ 0) (k : AW X nL pn ls (vI (qm x y) :: st) h) : AW X nL pc ls (vI y :: vI x :: st) h := by
  obtain ⟨p, l, e, R, s, m, args, below, meth, c, Z, D, cA, ad, A, kc, ks⟩ := X
  obtain ⟨hx, hb, hml, hown, hts, hnw, hK, hA, hE, hf, hlo, hc, hs⟩ := F
  subst hp
  intro H locs arr hP hD hS hl
  refine lv_irem hx hb hd (i32ne y hz) ?_
  rw [qm_ok]
  exact k H locs arr hP hD hS hl
theorem AW.ladd {x y : Int} (F : Fx X cc own nL d) (hd : decode cc pc = .ok (.ladd, 1)) (hp : pc + 1 = pn) (k : AW X nL pn ls (vL (x + y) :: st) h) : AW X nL pc ls (vL y :: vL x :: st) h := by
  obtain ⟨p, l, e, R, s, m, args, below, meth, c, Z, D, cA, ad, A, kc, ks⟩ := X
  obtain ⟨hx, hb, hml, hown, hts, hnw, hK, hA, hE, hf, hlo, hc, hs⟩ := F
  subst hp
  intro H locs arr hP hD hS hl
  refine lv_ladd hx hb hd ?_
  rw [← Int64.ofInt_add]
  exact k H locs arr hP hD hS hl
theorem AW.lsub {x y : Int} (F : Fx X cc own nL d) (hd : decode cc pc = .ok (.lsub, 1)) (hp : pc + 1 = pn) (k : AW X nL pn ls (vL (x - y) :: st) h) : AW X nL pc ls (vL y :: vL x :: st) h := by
  obtain ⟨p, l, e, R, s, m, args, below, meth, c, Z, D, cA, ad, A, kc, ks⟩ := X
  obtain ⟨hx, hb, hml, hown, hts, hnw, hK, hA, hE, hf, hlo, hc, hs⟩ := F
  subst hp
  intro H locs arr hP hD hS hl
  refine lv_lsub hx hb hd ?_
  rw [← Int64.ofInt_sub]
  exact k H locs arr hP hD hS hl
theorem AW.lmul {x y : Int} (F : Fx X cc own nL d) (hd : decode cc pc = .ok (.lmul, 1)) (hp : pc + 1 = pn) (k : AW X nL pn ls (vL (x * y) :: st) h) : AW X nL pc ls (vL y :: vL x :: st) h := by
  obtain ⟨p, l, e, R, s, m, args, below, meth, c, Z, D, cA, ad, A, kc, ks⟩ := X
  obtain ⟨hx, hb, hml, hown, hts, hnw, hK, hA, hE, hf, hlo, hc, hs⟩ := F
  subst hp
  intro H locs arr hP hD hS hl
  refine lv_lmul hx hb hd ?_
  rw [← Int64.ofInt_mul]
  exact k H locs arr hP hD hS hl
theorem AW.land {x y : Int} (F : Fx X cc own nL d) (hd : decode cc pc = .ok (.land, 1)) (hp : pc + 1 = pn) (k : AW X nL pn ls (vL (la x y) :: st) h) : AW X nL pc ls (vL y :: vL x :: st) h := by
  obtain ⟨p, l, e, R, s, m, args, below, meth, c, Z, D, cA, ad, A, kc, ks⟩ := X
  obtain ⟨hx, hb, hml, hown, hts, hnw, hK, hA, hE, hf, hlo, hc, hs⟩ := F
  subst hp
  intro H locs arr hP hD hS hl
  refine lv_land hx hb hd ?_
  rw [show Int64.ofInt x &&& Int64.ofInt y = Int64.ofInt (la x y) from (Int64.ofInt_toInt _).symm]
  exact k H locs arr hP hD hS hl
theorem AW.lor {x y : Int} (F : Fx X cc own nL d) (hd : decode cc pc = .ok (.lor, 1)) (hp : pc + 1 = pn) (k : AW X nL pn ls (vL (lo x y) :: st) h) : AW X nL pc ls (vL y :: vL x :: st) h := by
  obtain ⟨p, l, e, R, s, m, args, below, meth, c, Z, D, cA, ad, A, kc, ks⟩ := X
  obtain ⟨hx, hb, hml, hown, hts, hnw, hK, hA, hE, hf, hlo, hc, hs⟩ := F
  subst hp
  intro H locs arr hP hD hS hl
  refine lv_lor hx hb hd ?_
  rw [show Int64.ofInt x ||| Int64.ofInt y = Int64.ofInt (lo x y) from (Int64.ofInt_toInt _).symm]
  exact k H locs arr hP hD hS hl
theorem AW.ldiv {x y : Int} (F : Fx X cc own nL d) (hd : decode cc pc = .ok (.ldiv, 1)) (hp : pc + 1 = pn) (hz : w64 y ≠ 0) (k : AW X nL pn ls (vL (ld x y) :: st) h) : AW X nL pc ls (vL y :: vL x :: st) h := by
  obtain ⟨p, l, e, R, s, m, args, below, meth, c, Z, D, cA, ad, A, kc, ks⟩ := X
  obtain ⟨hx, hb, hml, hown, hts, hnw, hK, hA, hE, hf, hlo, hc, hs⟩ := F
  subst hp
  intro H locs arr hP hD hS hl
  refine lv_ldiv hx hb hd (i64ne y hz) ?_
  rw [ld_ok]
  exact k H locs arr hP hD hS hl
theorem AW.lrem {x y : Int} (F : Fx X cc own nL d) (hd : decode cc pc = .ok (.lrem, 1)) (hp : pc + 1 = pn) (hz : w64 y ≠ 0) (k : AW X nL pn ls (vL (lm x y) :: st) h) : AW X nL pc ls (vL y :: vL x :: st) h := by
  obtain ⟨p, l, e, R, s, m, args, below, meth, c, Z, D, cA, ad, A, kc, ks⟩ := X
  obtain ⟨hx, hb, hml, hown, hts, hnw, hK, hA, hE, hf, hlo, hc, hs⟩ := F
  subst hp
  intro H locs arr hP hD hS hl
  refine lv_lrem hx hb hd (i64ne y hz) ?_
  rw [lm_ok]
  exact k H locs arr hP hD hS hl
theorem AW.lshl {x y : Int} (F : Fx X cc own nL d) (hd : decode cc pc = .ok (.lshl, 1)) (hp : pc + 1 = pn) (k : AW X nL pn ls (vL (ll x y) :: st) h) : AW X nL pc ls (vI y :: vL x :: st) h := by
  obtain ⟨p, l, e, R, s, m, args, below, meth, c, Z, D, cA, ad, A, kc, ks⟩ := X
  obtain ⟨hx, hb, hml, hown, hts, hnw, hK, hA, hE, hf, hlo, hc, hs⟩ := F
  subst hp
  intro H locs arr hP hD hS hl
  refine lv_lshl (v := Int64.ofInt (ll x y)) hx hb hd (Int64.ofInt_toInt _).symm ?_
  exact k H locs arr hP hD hS hl
theorem AW.lshr {x y : Int} (F : Fx X cc own nL d) (hd : decode cc pc = .ok (.lshr, 1)) (hp : pc + 1 = pn) (k : AW X nL pn ls (vL (lr x y) :: st) h) : AW X nL pc ls (vI y :: vL x :: st) h := by
  obtain ⟨p, l, e, R, s, m, args, below, meth, c, Z, D, cA, ad, A, kc, ks⟩ := X
  obtain ⟨hx, hb, hml, hown, hts, hnw, hK, hA, hE, hf, hlo, hc, hs⟩ := F
  subst hp
  intro H locs arr hP hD hS hl
  refine lv_lshr (v := Int64.ofInt (lr x y)) hx hb hd (Int64.ofInt_toInt _).symm ?_
  exact k H locs arr hP hD hS hl
theorem AW.lcmp {x y : Int} (F : Fx X cc own nL d) (hd : decode cc pc = .ok (.lcmp, 1)) (hp : pc + 1 = pn) (k : AW X nL pn ls (vI (lc x y) :: st) h) : AW X nL pc ls (vL y :: vL x :: st) h := by
  obtain ⟨p, l, e, R, s, m, args, below, meth, c, Z, D, cA, ad, A, kc, ks⟩ := X
  obtain ⟨hx, hb, hml, hown, hts, hnw, hK, hA, hE, hf, hlo, hc, hs⟩ := F
  subst hp
  intro H locs arr hP hD hS hl
  refine W.lcmp hx hb hd ?_
  rw [lc_ok]
  exact k H locs arr hP hD hS hl
theorem AW.ineg {x : Int} (F : Fx X cc own nL d) (hd : decode cc pc = .ok (.ineg, 1)) (hp : pc + 1 = pn) (k : AW X nL pn ls (vI (-x) :: st) h) : AW X nL pc ls (vI x :: st) h := by
  obtain ⟨p, l, e, R, s, m, args, below, meth, c, Z, D, cA, ad, A, kc, ks⟩ := X
  obtain ⟨hx, hb, hml, hown, hts, hnw, hK, hA, hE, hf, hlo, hc, hs⟩ := F
  subst hp
  intro H locs arr hP hD hS hl
  refine lv_ineg hx hb hd ?_
  rw [← Int32.ofInt_neg]
  exact k H locs arr hP hD hS hl
theorem AW.i2l {x : Int} (F : Fx X cc own nL d) (hd : decode cc pc = .ok (.i2l, 1)) (hp : pc + 1 = pn) (k : AW X nL pn ls (vL (w32 x) :: st) h) : AW X nL pc ls (vI x :: st) h := by
  obtain ⟨p, l, e, R, s, m, args, below, meth, c, Z, D, cA, ad, A, kc, ks⟩ := X
  obtain ⟨hx, hb, hml, hown, hts, hnw, hK, hA, hE, hf, hlo, hc, hs⟩ := F
  subst hp
  intro H locs arr hP hD hS hl
  refine lv_i2l hx hb hd (i2l_ok x) ?_
  exact k H locs arr hP hD hS hl
theorem AW.l2i {x : Int} (F : Fx X cc own nL d) (hd : decode cc pc = .ok (.l2i, 1)) (hp : pc + 1 = pn) (k : AW X nL pn ls (vI x :: st) h) : AW X nL pc ls (vL x :: st) h := by
  obtain ⟨p, l, e, R, s, m, args, below, meth, c, Z, D, cA, ad, A, kc, ks⟩ := X
  obtain ⟨hx, hb, hml, hown, hts, hnw, hK, hA, hE, hf, hlo, hc, hs⟩ := F
  subst hp
  intro H locs arr hP hD hS hl
  refine lv_l2i hx hb hd (l2i_ok x) ?_
  exact k H locs arr hP hD hS hl
theorem AW.i2c {x : Int} (F : Fx X cc own nL d) (hd : decode cc pc = .ok (.i2c, 1)) (hp : pc + 1 = pn) (k : AW X nL pn ls (vI (ch x) :: st) h) : AW X nL pc ls (vI x :: st) h := by
  obtain ⟨p, l, e, R, s, m, args, below, meth, c, Z, D, cA, ad, A, kc, ks⟩ := X
  obtain ⟨hx, hb, hml, hown, hts, hnw, hK, hA, hE, hf, hlo, hc, hs⟩ := F
  subst hp
  intro H locs arr hP hD hS hl
  refine lv_i2c hx hb hd (ch_ok x) ?_
  exact k H locs arr hP hD hS hl
theorem AW.dupI {x : Int} (F : Fx X cc own nL d) (hd : decode cc pc = .ok (.dup, 1)) (hp : pc + 1 = pn) (k : AW X nL pn ls (vI x :: vI x :: st) h) : AW X nL pc ls (vI x :: st) h := by
  obtain ⟨p, l, e, R, s, m, args, below, meth, c, Z, D, cA, ad, A, kc, ks⟩ := X
  obtain ⟨hx, hb, hml, hown, hts, hnw, hK, hA, hE, hf, hlo, hc, hs⟩ := F
  subst hp
  intro H locs arr hP hD hS hl
  refine lv_dup hx hb hd rfl ?_
  exact k H locs arr hP hD hS hl
theorem AW.dupR {x : Nat} (F : Fx X cc own nL d) (hd : decode cc pc = .ok (.dup, 1)) (hp : pc + 1 = pn) (k : AW X nL pn ls (vR x :: vR x :: st) h) : AW X nL pc ls (vR x :: st) h := by
  obtain ⟨p, l, e, R, s, m, args, below, meth, c, Z, D, cA, ad, A, kc, ks⟩ := X
  obtain ⟨hx, hb, hml, hown, hts, hnw, hK, hA, hE, hf, hlo, hc, hs⟩ := F
  subst hp
  intro H locs arr hP hD hS hl
  refine lv_dup hx hb hd rfl ?_
  exact k H locs arr hP hD hS hl
theorem AW.popI {x : Int} (F : Fx X cc own nL d) (hd : decode cc pc = .ok (.pop, 1)) (hp : pc + 1 = pn) (k : AW X nL pn ls (st) h) : AW X nL pc ls (vI x :: st) h := by
  obtain ⟨p, l, e, R, s, m, args, below, meth, c, Z, D, cA, ad, A, kc, ks⟩ := X
  obtain ⟨hx, hb, hml, hown, hts, hnw, hK, hA, hE, hf, hlo, hc, hs⟩ := F
  subst hp
  intro H locs arr hP hD hS hl
  refine lv_pop hx hb hd rfl ?_
  exact k H locs arr hP hD hS hl
theorem AW.dup2IR {x : Int} {r : Nat} (F : Fx X cc own nL d) (hd : decode cc pc = .ok (.dup2, 1)) (hp : pc + 1 = pn) (k : AW X nL pn ls (vI x :: vR r :: vI x :: vR r :: st) h) : AW X nL pc ls (vI x :: vR r :: st) h := by
  obtain ⟨p, l, e, R, s, m, args, below, meth, c, Z, D, cA, ad, A, kc, ks⟩ := X
  obtain ⟨hx, hb, hml, hown, hts, hnw, hK, hA, hE, hf, hlo, hc, hs⟩ := F
  subst hp
  intro H locs arr hP hD hS hl
  refine lv_dup2_11 hx hb hd rfl rfl ?_
  exact k H locs arr hP hD hS hl
theorem AW.icmp_lt {x y : Int} {off : Int} {tg : Nat} {a b : Prop} (F : Fx X cc own nL d) (hd : decode cc pc = .ok (.if_icmp .lt off, 3)) (hp : pc + 3 = pn) (ht : (pc : Int) + off = (tg : Int)) (hb : (w32 x < w32 y → a) ∧ (¬ (w32 x < w32 y) → b)) (kt : a → AW X nL tg ls st h) (kf : b → AW X nL pn ls st h) : AW X nL pc ls (vI y :: vI x :: st) h := by
  obtain ⟨p, l, e, R, s, m, args, below, meth, c, Z, D, cA, ad, A, kc, ks⟩ := X
  obtain ⟨hx, hbc, hml, hown, hts, hnw, hK, hA, hE, hf, hlo, hc, hs⟩ := F
  subst hp
  intro H locs arr hP hD hS hl
  refine lv_icmp_lt hx hbc hd ht (fun q => kt (hb.1 ((i32lt x y).mp q)) H locs arr hP hD hS hl) (fun q => kf (hb.2 (fun z => q ((i32lt x y).mpr z))) H locs arr hP hD hS hl)
theorem AW.icmp_ge {x y : Int} {off : Int} {tg : Nat} {a b : Prop} (F : Fx X cc own nL d) (hd : decode cc pc = .ok (.if_icmp .ge off, 3)) (hp : pc + 3 = pn) (ht : (pc : Int) + off = (tg : Int)) (hb : (w32 y ≤ w32 x → a) ∧ (¬ (w32 y ≤ w32 x) → b)) (kt : a → AW X nL tg ls st h) (kf : b → AW X nL pn ls st h) : AW X nL pc ls (vI y :: vI x :: st) h := by
  obtain ⟨p, l, e, R, s, m, args, below, meth, c, Z, D, cA, ad, A, kc, ks⟩ := X
  obtain ⟨hx, hbc, hml, hown, hts, hnw, hK, hA, hE, hf, hlo, hc, hs⟩ := F
  subst hp
  intro H locs arr hP hD hS hl
  refine lv_icmp_ge hx hbc hd ht (fun q => kt (hb.1 ((i32le y x).mp q)) H locs arr hP hD hS hl) (fun q => kf (hb.2 (fun z => q ((i32le y x).mpr z))) H locs arr hP hD hS hl)
theorem AW.icmp_gt {x y : Int} {off : Int} {tg : Nat} {a b : Prop} (F : Fx X cc own nL d) (hd : decode cc pc = .ok (.if_icmp .gt off, 3)) (hp : pc + 3 = pn) (ht : (pc : Int) + off = (tg : Int)) (hb : (w32 y < w32 x → a) ∧ (¬ (w32 y < w32 x) → b)) (kt : a → AW X nL tg ls st h) (kf : b → AW X nL pn ls st h) : AW X nL pc ls (vI y :: vI x :: st) h := by
  obtain ⟨p, l, e, R, s, m, args, below, meth, c, Z, D, cA, ad, A, kc, ks⟩ := X
  obtain ⟨hx, hbc, hml, hown, hts, hnw, hK, hA, hE, hf, hlo, hc, hs⟩ := F
  subst hp
  intro H locs arr hP hD hS hl
  refine lv_icmp_gt hx hbc hd ht (fun q => kt (hb.1 ((i32lt y x).mp q)) H locs arr hP hD hS hl) (fun q => kf (hb.2 (fun z => q ((i32lt y x).mpr z))) H locs arr hP hD hS hl)
theorem AW.icmp_le {x y : Int} {off : Int} {tg : Nat} {a b : Prop} (F : Fx X cc own nL d) (hd : decode cc pc = .ok (.if_icmp .le off, 3)) (hp : pc + 3 = pn) (ht : (pc : Int) + off = (tg : Int)) (hb : (w32 x ≤ w32 y → a) ∧ (¬ (w32 x ≤ w32 y) → b)) (kt : a → AW X nL tg ls st h) (kf : b → AW X nL pn ls st h) : AW X nL pc ls (vI y :: vI x :: st) h := by
  obtain ⟨p, l, e, R, s, m, args, below, meth, c, Z, D, cA, ad, A, kc, ks⟩ := X
  obtain ⟨hx, hbc, hml, hown, hts, hnw, hK, hA, hE, hf, hlo, hc, hs⟩ := F
  subst hp
  intro H locs arr hP hD hS hl
  refine lv_icmp_le hx hbc hd ht (fun q => kt (hb.1 ((i32le x y).mp q)) H locs arr hP hD hS hl) (fun q => kf (hb.2 (fun z => q ((i32le x y).mpr z))) H locs arr hP hD hS hl)
theorem AW.icmp_eq {x y : Int} {off : Int} {tg : Nat} {a b : Prop} (F : Fx X cc own nL d) (hd : decode cc pc = .ok (.if_icmp .eq off, 3)) (hp : pc + 3 = pn) (ht : (pc : Int) + off = (tg : Int)) (hb : (w32 x = w32 y → a) ∧ (¬ (w32 x = w32 y) → b)) (kt : a → AW X nL tg ls st h) (kf : b → AW X nL pn ls st h) : AW X nL pc ls (vI y :: vI x :: st) h := by
  obtain ⟨p, l, e, R, s, m, args, below, meth, c, Z, D, cA, ad, A, kc, ks⟩ := X
  obtain ⟨hx, hbc, hml, hown, hts, hnw, hK, hA, hE, hf, hlo, hc, hs⟩ := F
  subst hp
  intro H locs arr hP hD hS hl
  refine lv_icmp_eq hx hbc hd ht (fun q => kt (hb.1 ((i32eq x y).mp q)) H locs arr hP hD hS hl) (fun q => kf (hb.2 (fun z => q ((i32eq x y).mpr z))) H locs arr hP hD hS hl)
theorem AW.icmp_ne {x y : Int} {off : Int} {tg : Nat} {a b : Prop} (F : Fx X cc own nL d) (hd : decode cc pc = .ok (.if_icmp .ne off, 3)) (hp : pc + 3 = pn) (ht : (pc : Int) + off = (tg : Int)) (hb : (w32 x = w32 y → a) ∧ (¬ (w32 x = w32 y) → b)) (kt : b → AW X nL tg ls st h) (kf : a → AW X nL pn ls st h) : AW X nL pc ls (vI y :: vI x :: st) h := by
  obtain ⟨p, l, e, R, s, m, args, below, meth, c, Z, D, cA, ad, A, kc, ks⟩ := X
  obtain ⟨hx, hbc, hml, hown, hts, hnw, hK, hA, hE, hf, hlo, hc, hs⟩ := F
  subst hp
  intro H locs arr hP hD hS hl
  refine lv_icmp_ne hx hbc hd ht (fun q => kt (hb.2 (fun z => q ((i32eq x y).mpr z))) H locs arr hP hD hS hl) (fun q => kf (hb.1 ((i32eq x y).mp q)) H locs arr hP hD hS hl)
theorem i32lt0 (x : Int) : (Int32.ofInt x < 0) ↔ w32 x < 0 := by rw [i32z, i32lt, w32_0]
theorem i32gt0 (x : Int) : (0 < Int32.ofInt x) ↔ 0 < w32 x := by rw [i32z, i32lt, w32_0]
theorem i32le0 (x : Int) : (Int32.ofInt x ≤ 0) ↔ w32 x ≤ 0 := by rw [i32z, i32le, w32_0]
theorem i32ge0 (x : Int) : (0 ≤ Int32.ofInt x) ↔ 0 ≤ w32 x := by rw [i32z, i32le, w32_0]
theorem i32eq0 (x : Int) : (Int32.ofInt x = 0) ↔ w32 x = 0 := by rw [i32z, i32eq, w32_0]
theorem AW.if_lt {x : Int} {off : Int} {tg : Nat} {a b : Prop} (F : Fx X cc own nL d) (hd : decode cc pc = .ok (.ifCond .lt off, 3)) (hp : pc + 3 = pn) (ht : (pc : Int) + off = (tg : Int)) (hb : (w32 x < 0 → a) ∧ (¬ (w32 x < 0) → b)) (kt : a → AW X nL tg ls st h) (kf : b → AW X nL pn ls st h) : AW X nL pc ls (vI x :: st) h := by
  obtain ⟨p, l, e, R, s, m, args, below, meth, c, Z, D, cA, ad, A, kc, ks⟩ := X
  obtain ⟨hx, hbc, hml, hown, hts, hnw, hK, hA, hE, hf, hlo, hc, hs⟩ := F
  subst hp
  intro H locs arr hP hD hS hl
  refine lv_if_lt hx hbc hd ht (fun q => kt (hb.1 ((i32lt0 x).mp q)) H locs arr hP hD hS hl) (fun q => kf (hb.2 (fun z => q ((i32lt0 x).mpr z))) H locs arr hP hD hS hl)
theorem AW.if_ge {x : Int} {off : Int} {tg : Nat} {a b : Prop} (F : Fx X cc own nL d) (hd : decode cc pc = .ok (.ifCond .ge off, 3)) (hp : pc + 3 = pn) (ht : (pc : Int) + off = (tg : Int)) (hb : (0 ≤ w32 x → a) ∧ (¬ (0 ≤ w32 x) → b)) (kt : a → AW X nL tg ls st h) (kf : b → AW X nL pn ls st h) : AW X nL pc ls (vI x :: st) h := by
  obtain ⟨p, l, e, R, s, m, args, below, meth, c, Z, D, cA, ad, A, kc, ks⟩ := X
  obtain ⟨hx, hbc, hml, hown, hts, hnw, hK, hA, hE, hf, hlo, hc, hs⟩ := F
  subst hp
  intro H locs arr hP hD hS hl
  refine lv_if_ge hx hbc hd ht (fun q => kt (hb.1 ((i32ge0 x).mp q)) H locs arr hP hD hS hl) (fun q => kf (hb.2 (fun z => q ((i32ge0 x).mpr z))) H locs arr hP hD hS hl)
theorem AW.if_gt {x : Int} {off : Int} {tg : Nat} {a b : Prop} (F : Fx X cc own nL d) (hd : decode cc pc = .ok (.ifCond .gt off, 3)) (hp : pc + 3 = pn) (ht : (pc : Int) + off = (tg : Int)) (hb : (0 < w32 x → a) ∧ (¬ (0 < w32 x) → b)) (kt : a → AW X nL tg ls st h) (kf : b → AW X nL pn ls st h) : AW X nL pc ls (vI x :: st) h := by
  obtain ⟨p, l, e, R, s, m, args, below, meth, c, Z, D, cA, ad, A, kc, ks⟩ := X
  obtain ⟨hx, hbc, hml, hown, hts, hnw, hK, hA, hE, hf, hlo, hc, hs⟩ := F
  subst hp
  intro H locs arr hP hD hS hl
  refine lv_if_gt hx hbc hd ht (fun q => kt (hb.1 ((i32gt0 x).mp q)) H locs arr hP hD hS hl) (fun q => kf (hb.2 (fun z => q ((i32gt0 x).mpr z))) H locs arr hP hD hS hl)
theorem AW.if_le {x : Int} {off : Int} {tg : Nat} {a b : Prop} (F : Fx X cc own nL d) (hd : decode cc pc = .ok (.ifCond .le off, 3)) (hp : pc + 3 = pn) (ht : (pc : Int) + off = (tg : Int)) (hb : (w32 x ≤ 0 → a) ∧ (¬ (w32 x ≤ 0) → b)) (kt : a → AW X nL tg ls st h) (kf : b → AW X nL pn ls st h) : AW X nL pc ls (vI x :: st) h := by
  obtain ⟨p, l, e, R, s, m, args, below, meth, c, Z, D, cA, ad, A, kc, ks⟩ := X
  obtain ⟨hx, hbc, hml, hown, hts, hnw, hK, hA, hE, hf, hlo, hc, hs⟩ := F
  subst hp
  intro H locs arr hP hD hS hl
  refine lv_if_le hx hbc hd ht (fun q => kt (hb.1 ((i32le0 x).mp q)) H locs arr hP hD hS hl) (fun q => kf (hb.2 (fun z => q ((i32le0 x).mpr z))) H locs arr hP hD hS hl)
theorem AW.if_eq {x : Int} {off : Int} {tg : Nat} {a b : Prop} (F : Fx X cc own nL d) (hd : decode cc pc = .ok (.ifCond .eq off, 3)) (hp : pc + 3 = pn) (ht : (pc : Int) + off = (tg : Int)) (hb : (w32 x = 0 → a) ∧ (¬ (w32 x = 0) → b)) (kt : a → AW X nL tg ls st h) (kf : b → AW X nL pn ls st h) : AW X nL pc ls (vI x :: st) h := by
  obtain ⟨p, l, e, R, s, m, args, below, meth, c, Z, D, cA, ad, A, kc, ks⟩ := X
  obtain ⟨hx, hbc, hml, hown, hts, hnw, hK, hA, hE, hf, hlo, hc, hs⟩ := F
  subst hp
  intro H locs arr hP hD hS hl
  refine lv_if_eq hx hbc hd ht (fun q => kt (hb.1 ((i32eq0 x).mp q)) H locs arr hP hD hS hl) (fun q => kf (hb.2 (fun z => q ((i32eq0 x).mpr z))) H locs arr hP hD hS hl)
theorem AW.if_ne {x : Int} {off : Int} {tg : Nat} {a b : Prop} (F : Fx X cc own nL d) (hd : decode cc pc = .ok (.ifCond .ne off, 3)) (hp : pc + 3 = pn) (ht : (pc : Int) + off = (tg : Int)) (hb : (w32 x = 0 → a) ∧ (¬ (w32 x = 0) → b)) (kt : b → AW X nL tg ls st h) (kf : a → AW X nL pn ls st h) : AW X nL pc ls (vI x :: st) h := by
  obtain ⟨p, l, e, R, s, m, args, below, meth, c, Z, D, cA, ad, A, kc, ks⟩ := X
  obtain ⟨hx, hbc, hml, hown, hts, hnw, hK, hA, hE, hf, hlo, hc, hs⟩ := F
  subst hp
  intro H locs arr hP hD hS hl
  refine lv_if_ne hx hbc hd ht (fun q => kt (hb.2 (fun z => q ((i32eq0 x).mpr z))) H locs arr hP hD hS hl) (fun q => kf (hb.1 ((i32eq0 x).mp q)) H locs arr hP hD hS hl)
theorem AW.goto {off : Int} {tg : Nat} (F : Fx X cc own nL d) (hd : decode cc pc = .ok (.goto off, 3)) (ht : (pc : Int) + off = (tg : Int)) (k : AW X nL tg ls st h) : AW X nL pc ls st h := by
  obtain ⟨p, l, e, R, s, m, args, below, meth, c, Z, D, cA, ad, A, kc, ks⟩ := X
  obtain ⟨hx, hb, hml, hown, hts, hnw, hK, hA, hE, hf, hlo, hc, hs⟩ := F
  intro H locs arr hP hD hS hl
  exact lv_goto hx hb hd ht (k H locs arr hP hD hS hl)
theorem AW.tabIn {x : Int} {dflt lo2 hi2 off : Int} {offs : Array Int} {len tg : Nat} (v : Int) (F : Fx X cc own nL d) (hd : decode cc pc = .ok (.tableswitch dflt lo2 hi2 offs, len)) (hv : w32 x = v) (h1 : ¬ v < lo2) (h2 : ¬ hi2 < v) (ho : offs[(v - lo2).toNat]? = some off) (ht : (pc : Int) + off = (tg : Int)) (k : AW X nL tg ls st h) : AW X nL pc ls (vI x :: st) h := by
  obtain ⟨p, l, e, R, s, m, args, below, meth, c, Z, D, cA, ad, A, kc, ks⟩ := X
  obtain ⟨hx, hb, hml, hown, hts, hnw, hK, hA, hE, hf, hlo, hc, hs⟩ := F
  intro H locs arr hP hD hS hl
  subst hv
  exact lv_tableIn hx hb hd (by rw [i32T]; exact h1) (by rw [i32T]; exact h2) (by rw [i32T]; exact ho) ht (k H locs arr hP hD hS hl)
theorem AW.tabOut {x : Int} {dflt lo2 hi2 : Int} {offs : Array Int} {len tg : Nat} (F : Fx X cc own nL d) (hd : decode cc pc = .ok (.tableswitch dflt lo2 hi2 offs, len)) (hv : w32 x < lo2 ∨ hi2 < w32 x) (ht : (pc : Int) + dflt = (tg : Int)) (k : AW X nL tg ls st h) : AW X nL pc ls (vI x :: st) h := by
  obtain ⟨p, l, e, R, s, m, args, below, meth, c, Z, D, cA, ad, A, kc, ks⟩ := X
  obtain ⟨hx, hb, hml, hown, hts, hnw, hK, hA, hE, hf, hlo, hc, hs⟩ := F
  intro H locs arr hP hD hS hl
  exact lv_tableOut hx hb hd (by rw [i32T]; exact hv) ht (k H locs arr hP hD hS hl)
theorem AW.drop {ls2 : List (Option AV)} (bs : List Bool) (hls : msk bs ls = ls2) (k : AW X nL pc ls2 st h) : AW X nL pc ls st h := by
  obtain ⟨p, l, e, R, s, m, args, below, meth, c, Z, D, cA, ad, A, kc, ks⟩ := X
  subst hls
  intro H locs arr hP hD hS hl
  exact k H locs arr hP hD hS ⟨hl.1, hl.2.1, fun i v q => hl.2.2 i v (msk_at bs ls i v q)⟩
theorem AW.iret {x : Int} {Q : Option AV → HP → Prop} (F : Fx X cc own nL d) (G : Rx X (some .int) Q) (hd : decode cc pc = .ok (.ireturn, 1)) (hq : Q (some (vI x)) h) : AW X nL pc ls [vI x] h := by
  obtain ⟨p, l, e, R, s, m, args, below, meth, c, Z, D, cA, ad, A, kc, ks⟩ := X
  obtain ⟨hx, hb, hml, hown, hts, hnw, hK, hA, hE, hf, hlo, hc, hs⟩ := F
  intro H locs arr hP hD hS hl
  obtain ⟨hr, hlk, Qc, free, rfl, hfr, hQ⟩ := G
  exact W.iret hx hb hr (fun t ht hW => hQ t H locs (some (vI x)) h ht hW hP hS hq) (fun q hq2 => hfr _ (hS.2.2 q hq2)) hd
theorem AW.zret {x : Int} {Q : Option AV → HP → Prop} (F : Fx X cc own nL d) (G : Rx X (some .boolean) Q) (hd : decode cc pc = .ok (.ireturn, 1)) (h01 : x = 0 ∨ x = 1) (hq : Q (some (vI x)) h) : AW X nL pc ls [vI x] h := by
  obtain ⟨p, l, e, R, s, m, args, below, meth, c, Z, D, cA, ad, A, kc, ks⟩ := X
  obtain ⟨hx, hb, hml, hown, hts, hnw, hK, hA, hE, hf, hlo, hc, hs⟩ := F
  intro H locs arr hP hD hS hl
  obtain ⟨hr, hlk, Qc, free, rfl, hfr, hQ⟩ := G
  exact W.zret hx hb hr (nar_bool1 h01) (fun t ht hW => hQ t H locs (some (vI x)) h ht hW hP hS hq) (fun q hq2 => hfr _ (hS.2.2 q hq2)) hd
theorem AW.lret {x : Int} {Q : Option AV → HP → Prop} (F : Fx X cc own nL d) (G : Rx X (some .long) Q) (hd : decode cc pc = .ok (.lreturn, 1)) (hq : Q (some (vL x)) h) : AW X nL pc ls [vL x] h := by
  obtain ⟨p, l, e, R, s, m, args, below, meth, c, Z, D, cA, ad, A, kc, ks⟩ := X
  obtain ⟨hx, hb, hml, hown, hts, hnw, hK, hA, hE, hf, hlo, hc, hs⟩ := F
  intro H locs arr hP hD hS hl
  obtain ⟨hr, hlk, Qc, free, rfl, hfr, hQ⟩ := G
  exact W.lret hx hb hr (fun t ht hW => hQ t H locs (some (vL x)) h ht hW hP hS hq) (fun q hq2 => hfr _ (hS.2.2 q hq2)) hd
theorem AW.vret {Q : Option AV → HP → Prop} (F : Fx X cc own nL d) (G : Rx X none Q) (hd : decode cc pc = .ok (.return_, 1)) (hq : Q none h) : AW X nL pc ls [] h := by
  obtain ⟨p, l, e, R, s, m, args, below, meth, c, Z, D, cA, ad, A, kc, ks⟩ := X
  obtain ⟨hx, hb, hml, hown, hts, hnw, hK, hA, hE, hf, hlo, hc, hs⟩ := F
  intro H locs arr hP hD hS hl
  obtain ⟨hr, hlk, Qc, free, rfl, hfr, hQ⟩ := G
  exact W.vret hx hb hr (fun t ht hW => hQ t H locs none h ht hW hP hS hq) (fun q hq2 => hfr _ (hS.2.2 q hq2)) hd
end AROWS
