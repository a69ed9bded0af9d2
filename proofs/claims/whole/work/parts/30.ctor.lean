/-! ===== THE MAKING: the cells come one behind the other; what they hold is known ===== -/
abbrev BC : Type := (Nat × List (Option AV)) ⊕ (Nat × Nat × List (Option Nat))
def bfv (ad : Nat → Nat) (o : Option AV) : Value := match o with
  | none => .null
  | some v => cv ad v
def bE (ad : Nat → Nat) (cA : Nat → ClassId) (c : BC) : va_E := match c with
  | .inl (ci, fs) => .inr (ci, fs.map (bfv ad))
  | .inr (t, n, rs) => .inl (cA t, n, if t = 3 then .inr (.inr (.inr (.inr (fun j => ((rs[j]?).getD none).map ad)))) else .inl (fun _ => Int32.ofInt 0))
def bl (ad : Nat → Nat) (cA : Nat → ClassId) (S : List BC) : va_W := S.mapIdx (fun k c => (ad k, bE ad cA c))
def okA (n : Nat) : Option AV → Bool
  | some (.inr (.inr k)) => decide (k < n)
  | _ => true
def okR (n : Nat) : Option Nat → Bool
  | some k => decide (k < n)
  | none => true
def okB (n : Nat) (c : BC) : Bool := match c with
  | .inl (_, fs) => fs.all (okA n)
  | .inr (_, _, rs) => rs.all (okR n)
/-- a reference among the locals and on the stack: a cell that is there, or one of those that were there before -/
def okV (n : Nat) : Option AV → Bool
  | some (.inr (.inr k)) => decide (k < n) || decide (1000 ≤ k)
  | _ => true
theorem bl_at (ad : Nat → Nat) (cA : Nat → ClassId) (S : List BC) (k : Nat) : (bl ad cA S)[k]? = (S[k]?).map (fun c => (ad k, bE ad cA c)) := by
  unfold bl
  rw [List.getElem?_mapIdx]
theorem bl_push (ad : Nat → Nat) (cA : Nat → ClassId) (S : List BC) (c : BC) : bl ad cA (S ++ [c]) = bl ad cA S ++ [(ad S.length, bE ad cA c)] := by
  unfold bl
  rw [List.mapIdx_append]
  simp
theorem bl_set (ad : Nat → Nat) (cA : Nat → ClassId) (S : List BC) (k : Nat) (c : BC) : bl ad cA (S.set k c) = (bl ad cA S).set k (ad k, bE ad cA c) := by
  apply List.ext_getElem?
  intro i
  rw [bl_at, List.getElem?_set, List.getElem?_set, bl_at]
  by_cases hi : k = i
  · subst hi
    rw [if_pos rfl, if_pos rfl]
    unfold bl
    rw [List.length_mapIdx]
    split <;> rfl
  · rw [if_neg hi, if_neg hi]
theorem cv_okV {ad ad' : Nat → Nat} {n : Nat} {v : AV} (hv : okV n (some v) = true) (h : ∀ k, k < n ∨ 1000 ≤ k → ad' k = ad k) : cv ad' v = cv ad v := by
  rcases v with x | x | k
  · rfl
  · rfl
  · simp only [okV, Bool.or_eq_true, decide_eq_true_eq] at hv
    show Value.ref (ad' k) = Value.ref (ad k)
    rw [h k hv]
theorem bfv_ok {ad ad' : Nat → Nat} {n : Nat} {o : Option AV} (hv : okA n o = true) (h : ∀ k, k < n → ad' k = ad k) : bfv ad' o = bfv ad o := by
  rcases o with _ | x | x | k
  · rfl
  · rfl
  · rfl
  · simp only [okA, decide_eq_true_eq] at hv
    show Value.ref (ad' k) = Value.ref (ad k)
    rw [h k hv]
theorem bE_ok {ad ad' : Nat → Nat} {cA : Nat → ClassId} {n : Nat} {c : BC} (hv : okB n c = true) (h : ∀ k, k < n → ad' k = ad k) : bE ad' cA c = bE ad cA c := by
  rcases c with ⟨ci, fs⟩ | ⟨t, m, rs⟩
  · show Sum.inr (ci, fs.map (bfv ad')) = Sum.inr (ci, fs.map (bfv ad))
    congr 2
    apply List.map_congr_left
    intro o ho
    exact bfv_ok (List.all_eq_true.mp hv o ho) h
  · have e : (fun j : Nat => ((rs[j]?).getD none).map ad') = (fun j : Nat => ((rs[j]?).getD none).map ad) := by
      funext j
      cases hj : rs[j]? with
      | none => rfl
      | some o =>
        cases o with
        | none => rfl
        | some k =>
          have := List.all_eq_true.mp hv (some k) (List.mem_of_getElem? hj)
          simp only [okR, decide_eq_true_eq] at this
          simp only [Option.getD_some, Option.map_some]
          rw [h k this]
    show Sum.inl (cA t, m, _) = Sum.inl (cA t, m, _)
    rw [e]
theorem bl_ok {ad ad' : Nat → Nat} {cA : Nat → ClassId} {S : List BC} (hv : S.all (okB S.length) = true) (h : ∀ k, k < S.length → ad' k = ad k) : bl ad' cA S = bl ad cA S := by
  apply List.ext_getElem?
  intro i
  rw [bl_at, bl_at]
  cases hi : S[i]? with
  | none => rfl
  | some c =>
    simp only [Option.map_some]
    rw [h i (List.getElem?_eq_some_iff.mp hi).1, bE_ok (List.all_eq_true.mp hv c (List.mem_of_getElem? hi)) h]
abbrev Bx : Type := Program × Launch × Env × Room × State × MethodId × Array Value × List Frame × Method × Code × (State → Prop) × va_G × (Nat → ClassId) × (Nat → Nat) × Nat × (Nat → Prop)
def BW (X : Bx) (S : List BC) (kc ks nL pc : Nat) (ls : List (Option AV)) (st : List AV) : Prop := match X with
  | (p, l, e, R, s, m, args, below, meth, c, Z, D, cA, ad0, n0, A) => ∀ (ad : Nat → Nat) (H : Heap) (locs : List Loc) (arr : Array Slot), (∀ k, k < n0 ∨ 1000 ≤ k → ad k = ad0 k) → va_P D vwCl (bl ad cA S) H → va_D A (bl ad cA S) → va_S A s.heap H locs → cs_LS ad ls arr nL → W p l e R s m args below meth c H locs kc ks Z (F0 m pc arr (st.map (cv ad)))
def Fb (X : Bx) (cc : ByteArray) (own : String) (nL d mc ms : Nat) : Prop := match X with
  | (p, l, e, R, s, m, args, below, meth, c, Z, D, cA, ad0, n0, A) => p.tables.exec = Jvm.exec ∧ c.code = cc ∧ c.maxLocals = nL ∧ s.vm.findClass own = some m.cls ∧ (∀ w ∈ cs_TG, w.before args s = true) ∧ (∀ w ∈ cs_NW, va_Nw w s) ∧ va_K D vwCl (tysA cA) s ∧ (∀ q, s.heap.size ≤ q → A q) ∧ d ≤ R.frames ∧ 40 * d ≤ R.locals ∧ mc ≤ R.cells ∧ ms ≤ R.slots ∧ n0 ≤ 1000 ∧ va_AO "CastOffs$Stock" s
section BROWS
variable {X : Bx} {cc : ByteArray} {own : String} {nL d mc ms pc pn kc ks : Nat} {ls : List (Option AV)} {st : List AV} {S S2 : List BC}
theorem BW.iconst {n : Int} (F : Fb X cc own nL d mc ms) (hd : decode cc pc = .ok (.iconst n, 1)) (hp : pc + 1 = pn) (k : BW X S kc ks nL pn ls (vI n :: st)) : BW X S kc ks nL pc ls st := by
  obtain ⟨p, l, e, R, s, m, args, below, meth, c, Z, D, cA, ad0, n0, A⟩ := X
  obtain ⟨hx, hb, hml, hown, hts, hnw, hK, hA, hf, hlo, hc, hs, hn0⟩ := F
  subst hp
  intro ad H locs arr h0 hP hD hS hl
  exact lv_iconst hx hb hd rfl (k ad H locs arr h0 hP hD hS hl)
theorem BW.bipush {n : Int} (F : Fb X cc own nL d mc ms) (hd : decode cc pc = .ok (.bipush n, 2)) (hp : pc + 2 = pn) (hv : (Int8.ofInt n).toInt32 = Int32.ofInt n) (k : BW X S kc ks nL pn ls (vI n :: st)) : BW X S kc ks nL pc ls st := by
  obtain ⟨p, l, e, R, s, m, args, below, meth, c, Z, D, cA, ad0, n0, A⟩ := X
  obtain ⟨hx, hb, hml, hown, hts, hnw, hK, hA, hf, hlo, hc, hs, hn0⟩ := F
  subst hp
  intro ad H locs arr h0 hP hD hS hl
  exact lv_bipush hx hb hd hv (k ad H locs arr h0 hP hD hS hl)
theorem BW.sipush {n : Int} (F : Fb X cc own nL d mc ms) (hd : decode cc pc = .ok (.sipush n, 3)) (hp : pc + 3 = pn) (hv : (Int16.ofInt n).toInt32 = Int32.ofInt n) (k : BW X S kc ks nL pn ls (vI n :: st)) : BW X S kc ks nL pc ls st := by
  obtain ⟨p, l, e, R, s, m, args, below, meth, c, Z, D, cA, ad0, n0, A⟩ := X
  obtain ⟨hx, hb, hml, hown, hts, hnw, hK, hA, hf, hlo, hc, hs, hn0⟩ := F
  subst hp
  intro ad H locs arr h0 hP hD hS hl
  exact lv_sipush hx hb hd hv (k ad H locs arr h0 hP hD hS hl)
theorem BW.aload_n {k4 : Fin 4} {i x : Nat} (F : Fb X cc own nL d mc ms) (hd : decode cc pc = .ok (.aload_n k4, 1)) (hp : pc + 1 = pn) (hi : (k4 : Nat) = i) (hv : ls[i]? = some (some (vR x))) (k : BW X S kc ks nL pn ls (vR x :: st)) : BW X S kc ks nL pc ls st := by
  obtain ⟨p, l, e, R, s, m, args, below, meth, c, Z, D, cA, ad0, n0, A⟩ := X
  obtain ⟨hx, hb, hml, hown, hts, hnw, hK, hA, hf, hlo, hc, hs, hn0⟩ := F
  subst hp
  intro ad H locs arr h0 hP hD hS hl
  exact lv_aload_n hx hb hd hi (hl.2.2 i _ hv) (k ad H locs arr h0 hP hD hS hl)
theorem BW.astore_n {k4 : Fin 4} {i x : Nat} {ls2 : List (Option AV)} (F : Fb X cc own nL d mc ms) (hd : decode cc pc = .ok (.astore_n k4, 1)) (hp : pc + 1 = pn) (hi : (k4 : Nat) = i) (hn : i < nL) (hnl : isL ((ls[i - 1]?).getD none) = false) (hls : ls.set i (some (vR x)) = ls2) (k : BW X S kc ks nL pn ls2 st) : BW X S kc ks nL pc ls (vR x :: st) := by
  obtain ⟨p, l, e, R, s, m, args, below, meth, c, Z, D, cA, ad0, n0, A⟩ := X
  obtain ⟨hx, hb, hml, hown, hts, hnw, hK, hA, hf, hlo, hc, hs, hn0⟩ := F
  subst hp; subst hls
  intro ad H locs arr h0 hP hD hS hl
  refine lv_astore_n hx hb hd hi hl.has hn rfl (fun arr2 hl2 => ?_)
  exact k ad H locs arr2 h0 hP hD hS (cs_LS.st1 (v := vR x) (fun j hj => by rw [show j = i - 1 from by omega]; exact hnl) hl2)
theorem BW.dup {x : Nat} (F : Fb X cc own nL d mc ms) (hd : decode cc pc = .ok (.dup, 1)) (hp : pc + 1 = pn) (k : BW X S kc ks nL pn ls (vR x :: vR x :: st)) : BW X S kc ks nL pc ls (vR x :: st) := by
  obtain ⟨p, l, e, R, s, m, args, below, meth, c, Z, D, cA, ad0, n0, A⟩ := X
  obtain ⟨hx, hb, hml, hown, hts, hnw, hK, hA, hf, hlo, hc, hs, hn0⟩ := F
  subst hp
  intro ad H locs arr h0 hP hD hS hl
  exact lv_dup hx hb hd rfl (k ad H locs arr h0 hP hD hS hl)
/-- the addresses with one more -/
def adN (ad : Nat → Nat) (n q : Nat) : Nat → Nat := fun k => if k = n then q else ad k
theorem adN_lt {ad : Nat → Nat} {n q k : Nat} (h : k < n ∨ 1000 ≤ k) (hn : n < 1000) : adN ad n q k = ad k := if_neg (by omega)
theorem LS_ok {ad ad' : Nat → Nat} {n nL : Nat} {arr : Array Slot} (h : ∀ k, k < n ∨ 1000 ≤ k → ad' k = ad k) (hv : ls.all (okV n) = true) (hl : cs_LS ad ls arr nL) : cs_LS ad' ls arr nL := by
  refine ⟨hl.1, hl.2.1, fun i v hi => ?_⟩
  rw [cv_okV (List.all_eq_true.mp hv _ (List.mem_of_getElem? hi)) h]
  exact hl.2.2 i v hi
theorem st_ok {ad ad' : Nat → Nat} {n : Nat} (h : ∀ k, k < n ∨ 1000 ≤ k → ad' k = ad k) (hv : (st.map some).all (okV n) = true) : st.map (cv ad') = st.map (cv ad) := by
  apply List.map_congr_left
  intro v hm
  exact cv_okV (List.all_eq_true.mp hv _ (List.mem_map.mpr ⟨v, hm, rfl⟩)) h
/-- what a new cell needs of the state: its references are to cells that are there -/
def okS (S : List BC) (ls : List (Option AV)) (st : List AV) : Bool := S.all (okB S.length) && (ls.all (okV S.length) && (st.map some).all (okV S.length))
theorem BW.push {p : Program} {l : Launch} {e : Env} {R : Room} {s : State} {m : MethodId} {args : Array Value} {below : List Frame} {meth : Method} {c : Code} {Z : State → Prop} {D : va_G} {cA : Nat → ClassId} {ad0 ad : Nat → Nat} {n0 q : Nat} {A : Nat → Prop} {H1 : Heap} {locs : List Loc} {arr : Array Slot} {b : BC}
    (hok : okS S ls st = true) (hbk : okB S.length b = true) (hs2 : S ++ [b] = S2) (hn : S.length < 1000) (hn0 : n0 ≤ S.length) (h0 : ∀ k, k < n0 ∨ 1000 ≤ k → ad k = ad0 k) (hl : cs_LS ad ls arr nL) (hP : va_P D vwCl (bl ad cA S ++ [(q, bE ad cA b)]) H1) (hD : va_D A (bl ad cA S ++ [(q, bE ad cA b)])) (hS : va_S A s.heap H1 locs)
    (k : BW (p, l, e, R, s, m, args, below, meth, c, Z, D, cA, ad0, n0, A) S2 kc ks nL pn ls (vR S.length :: st)) : W p l e R s m args below meth c H1 locs kc ks Z (F0 m pn arr (.ref q :: st.map (cv ad))) := by
  simp only [okS, Bool.and_eq_true] at hok
  obtain ⟨o1, o2, o3⟩ := hok
  have hag : ∀ k, k < S.length ∨ 1000 ≤ k → adN ad S.length q k = ad k := fun k hk => adN_lt hk hn
  have hq : adN ad S.length q S.length = q := if_pos rfl
  have e1 : bl ad cA S ++ [(q, bE ad cA b)] = bl (adN ad S.length q) cA S2 := by
    rw [← hs2, bl_push, hq, bl_ok o1 (fun k hk => hag k (Or.inl hk)), bE_ok hbk (fun k hk => hag k (Or.inl hk))]
  rw [e1] at hP hD
  have := k (adN ad S.length q) H1 locs arr (fun k hk => (hag k (by omega)).trans (h0 k hk)) hP hD hS (LS_ok hag o2 hl)
  rw [List.map_cons, st_ok hag o3] at this
  show W p l e R s m args below meth c H1 locs kc ks Z (F0 m pn arr (.ref q :: st.map (cv ad)))
  have hq2 : cv (adN ad S.length q) (vR S.length) = .ref q := by show Value.ref _ = _; rw [hq]
  rw [hq2] at this
  exact this
theorem BW.newa {t n : Nat} {x : Int} {aty : ArrayType} {ty : FieldType} {L kc2 ks2 : Nat} (F : Fb X cc own nL d mc ms) (hd : decode cc pc = .ok (.newarray aty, 2)) (hp : pc + 2 = pn) (hn0 : X.2.2.2.2.2.2.2.2.2.2.2.2.2.2.1 ≤ S.length) (hty : newarray.typeOf aty = ty) (ht : ∀ cA, (tysA cA)[t]? = some (cA t, ty)) (ht3 : t < 3) (hwd : Cond.arrayClass ty ∈ cs_TG) (hdef : defaultValue ty = .int (Int32.ofInt 0)) (hx' : x = (n : Int)) (hnn : n < 100000) (hcb : componentBytes ty ≤ 4) (hlen : S.length = L) (hL : L < 1000) (hok : okS S ls st = true) (hs2 : S ++ [.inr (t, n, [])] = S2) (hkc : kc + 1 = kc2) (hks : ks + n = ks2) (hmc : kc2 ≤ mc) (hms : ks2 ≤ ms) (k : BW X S2 kc2 ks2 nL pn ls (vR L :: st)) : BW X S kc ks nL pc ls (vI x :: st) := by
  obtain ⟨p, l, e, R, s, m, args, below, meth, c, Z, D, cA, ad0, n0, A⟩ := X
  obtain ⟨hx, hb, hml, hown, hts, hnw, hK, hA, hf, hlo, hc, hs, hn00⟩ := F
  subst hp; subst hx'; subst hlen; subst hkc; subst hks
  have hn0 : n0 ≤ S.length := hn0
  intro ad H locs arr h0 hP hD hS hl
  have hzn : (Int32.ofInt (n : Int)).toNatClampNeg = n := by rw [Int32.ofInt_eq_ofNat]; exact nI_clamp (by omega)
  have hng : ¬ Int32.ofInt (n : Int) < 0 := by rw [Int32.ofInt_eq_ofNat]; exact nI_pos (by omega)
  refine va_newa (a0 := (n, .inl (fun _ => Int32.ofInt 0))) hx hb (hty ▸ hts _ hwd) hty hK hP hD hS hA (fun cA => by rw [vp_cell_i, hdef]) hng hzn (by have := Nat.mul_le_mul (Nat.le_of_lt hnn) hcb; omega) (by omega) (by omega) hd (fun q cB H1 hK1 hP1 hD1 hS1 => ?_)
  have e1 : (cB : ClassId) = cA t := by
    have k1 := (hK1.2 (tysA cA).length (cB, ty) (by rw [List.getElem?_append_right (Nat.le_refl _)]; simp)).2
    have k2 := (hK.2 t _ (ht cA)).2
    match ty, hdef, k1, k2 with
    | .int, _, k1, k2 => exact Option.some.inj (k1.symm.trans k2)
    | .char, _, k1, k2 => exact Option.some.inj (k1.symm.trans k2)
    | .boolean, _, k1, k2 => exact Option.some.inj (k1.symm.trans k2)
    | .byte, _, k1, k2 => exact Option.some.inj (k1.symm.trans k2)
    | .short, _, k1, k2 => exact Option.some.inj (k1.symm.trans k2)
  subst e1
  have e2 : (Sum.inl (cA t, n, .inl (fun _ => Int32.ofInt 0)) : va_E) = bE ad cA (.inr (t, n, [])) := by
    show _ = Sum.inl (cA t, n, if t = 3 then _ else _)
    rw [if_neg (by omega)]
  rw [e2] at hP1 hD1
  exact BW.push (b := .inr (t, n, [])) hok rfl hs2 hL hn0 h0 hl hP1 hD1 hS1 k
end BROWS
