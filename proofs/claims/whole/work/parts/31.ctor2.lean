section BROWS2
variable {X : Bx} {cc : ByteArray} {own : String} {nL d mc ms pc pn kc ks : Nat} {ls : List (Option AV)} {st : List AV} {S S2 : List BC}
theorem BW.newo {ci N idx L kc2 ks2 : Nat} {C : String} {T : u_T} {fs : List (Option AV)} (F : Fb X cc own nL d mc ms) (hd : decode cc pc = .ok (.new idx, 3)) (hp : pc + 3 = pn) (hn0 : X.2.2.2.2.2.2.2.2.2.2.2.2.2.2.1 ≤ S.length) (hcl : vwCl[ci]? = some (C, T, N)) (hin : ∀ w ∈ u_ws C T N, w ∈ cs_TG) (ty : Nat → FieldType) (hty : ∀ k, k < N → parseFieldDescriptor (T k).2.2.1 = some (ty k)) (w1 : Cond.classLink own idx C ∈ cs_TG) (w2 : Cond.instantiable C N ∈ cs_TG) (w3 : Cond.initialized C ∈ cs_TG) (hfs : ∀ j, j < N → defaultValue (ty j) = vp_V (fs.map (bfv (fun _ => 0))) j) (hnr : fs.all (okA 0) = true) (hlen : S.length = L) (hL : L < 1000) (hok : okS S ls st = true) (hs2 : S ++ [.inl (ci, fs)] = S2) (hkc : kc + 1 = kc2) (hks : ks + N = ks2) (hmc : kc2 ≤ mc) (hms : ks2 ≤ ms) (k : BW X S2 kc2 ks2 nL pn ls (vR L :: st)) : BW X S kc ks nL pc ls st := by
  obtain ⟨p, l, e, R, s, m, args, below, meth, c, Z, D, cA, ad0, n0, A⟩ := X
  obtain ⟨hx, hb, hml, hown, hts, hnw, hK, hA, hf, hlo, hc, hs, hn00⟩ := F
  subst hp; subst hlen; subst hkc; subst hks
  have hn0 : n0 ≤ S.length := hn0
  intro ad H locs arr h0 hP hD hS hl
  have hmap : fs.map (bfv ad) = fs.map (bfv (fun _ => 0)) := by
    apply List.map_congr_left
    intro o ho
    exact bfv_ok (List.all_eq_true.mp hnr o ho) (fun k hk => absurd hk (Nat.not_lt_zero k))
  refine va_new (ci := ci) (fs := fs.map (bfv ad)) hx hb hts hin ty hty hown (hts _ w1) (hts _ w2) (hts _ w3) hK hP hD hS hA hcl (fun j hj => by rw [hmap]; exact hfs j hj) (by omega) (by omega) hd (fun q H1 hP1 hD1 hS1 => ?_)
  refine BW.push (b := .inl (ci, fs)) hok ?_ hs2 hL hn0 h0 hl hP1 hD1 hS1 k
  show fs.all (okA S.length) = true
  refine List.all_eq_true.mpr (fun o ho => ?_)
  have := List.all_eq_true.mp hnr o ho
  rcases o with _ | x | x | k
  · rfl
  · rfl
  · rfl
  · simp [okA] at this
theorem BW.newq {n : Nat} {x : Int} {idx L kc2 ks2 : Nat} (F : Fb X cc own nL d mc ms) (hd : decode cc pc = .ok (.anewarray idx, 3)) (hp : pc + 3 = pn) (hn0 : X.2.2.2.2.2.2.2.2.2.2.2.2.2.2.1 ≤ S.length) (w1 : Cond.classLink own idx "CastOffs$Stock" ∈ cs_TG) (hx' : x = (n : Int)) (hnn : n < 100000) (hlen : S.length = L) (hL : L < 1000) (hok : okS S ls st = true) (hs2 : S ++ [.inr (3, n, [])] = S2) (hkc : kc + 1 = kc2) (hks : ks + n = ks2) (hmc : kc2 ≤ mc) (hms : ks2 ≤ ms) (k : BW X S2 kc2 ks2 nL pn ls (vR L :: st)) : BW X S kc ks nL pc ls (vI x :: st) := by
  obtain ⟨p, l, e, R, s, m, args, below, meth, c, Z, D, cA, ad0, n0, A⟩ := X
  obtain ⟨hx, hb, hml, hown, hts, hnw, hK, hA, hf, hlo, hc, hs, hn00⟩ := F
  subst hp; subst hx'; subst hlen; subst hkc; subst hks
  have hn0 : n0 ≤ S.length := hn0
  intro ad H locs arr h0 hP hD hS hl
  have hzn : (Int32.ofInt (n : Int)).toNatClampNeg = n := by rw [Int32.ofInt_eq_ofNat]; exact nI_clamp (by omega)
  have hng : ¬ Int32.ofInt (n : Int) < 0 := by rw [Int32.ofInt_eq_ofNat]; exact nI_pos (by omega)
  refine va_newq (C := "CastOffs$Stock") hx hb hown (hts _ w1) hn00.2 hK hP hD hS hA hng hzn (by omega) (by omega) (by omega) hd (fun q cB H1 hK1 hP1 hD1 hS1 => ?_)
  have e1 : (cB : ClassId) = cA 3 := by
    obtain ⟨_, _, _, _, _, k1⟩ := (hK1.2 (tysA cA).length (cB, .object "CastOffs$Stock") (by rw [List.getElem?_append_right (Nat.le_refl _)]; simp)).2
    obtain ⟨_, _, _, _, _, k2⟩ := (hK.2 3 _ rfl).2
    exact Option.some.inj (k1.symm.trans k2)
  subst e1
  have e2 : (Sum.inl (cA 3, n, .inr (.inr (.inr (.inr (fun _ => none))))) : va_E) = bE ad cA (.inr (3, n, [])) := rfl
  rw [e2] at hP1 hD1
  exact BW.push (b := .inr (3, n, [])) hok rfl hs2 hL hn0 h0 hl hP1 hD1 hS1 k
def PF (own : String) (idx ci k : Nat) (fin : Bool) (ty : FieldType) : Prop := ∃ (C : String) (T : u_T) (N : Nat) (ty0 : Nat → FieldType), vwCl[ci]? = some (C, T, N) ∧ k < N ∧ (∀ w ∈ u_ws C T N, w ∈ cs_TG) ∧ Cond.fieldLink own idx (T k).1 (T k).2.1 (T k).2.2.1 ∈ cs_TG ∧ (∀ k, k < N → parseFieldDescriptor (T k).2.2.1 = some (ty0 k)) ∧ (∀ a, a < N → ∀ b, b < N → a ≠ b → (T a).2.1 ≠ (T b).2.1) ∧ (T k).2.2.2 = fin ∧ parseFieldDescriptor (T k).2.2.1 = some ty ∧ (T k).1 = own
theorem BW.put {idx ci c k : Nat} {fin : Bool} {ty : FieldType} {fs : List (Option AV)} {v : AV} (F : Fb X cc own nL d mc ms) (hnm : X.2.2.2.2.2.2.2.2.1.name = "<init>") (hd : decode cc pc = .ok (.putfield idx, 3)) (hp : pc + 3 = pn) (g : PF own idx ci k fin ty) (so : S[c]? = some (.inl (ci, fs))) (hk : k < fs.length) (hn : ∀ ad, narrow ty (cv ad v) = cv ad v) (hfit : ∀ ad, fits ty (cv ad v) = true) (hs2 : S.set c (.inl (ci, fs.set k (some v))) = S2) (kk : BW X S2 kc ks nL pn ls st) : BW X S kc ks nL pc ls (v :: vR c :: st) := by
  obtain ⟨p, l, e, R, s, m, args, below, meth, c0, Z, D, cA, ad0, n0, A⟩ := X
  obtain ⟨hx, hb, hml, hown, hts, hnw, hK, hA, hf, hlo, hc, hs, hn00⟩ := F
  subst hp
  intro ad H locs arr h0 hP hD hS hl
  obtain ⟨C, T, N, ty0, g1, g2, g3, g4, g5, g6, g7, g8, g9⟩ := g
  have he : (bl ad cA S)[c]? = some (ad c, .inr (ci, fs.map (bfv ad))) := by rw [bl_at, so]; rfl
  have hlen : k < (fs.map (bfv ad)).length := by rw [List.length_map]; exact hk
  have fin2 : ∀ (H1 : Heap) (locs1 : List Loc), va_P D vwCl ((bl ad cA S).set c (ad c, .inr (ci, (fs.map (bfv ad)).set k (cv ad v)))) H1 → va_D A ((bl ad cA S).set c (ad c, .inr (ci, (fs.map (bfv ad)).set k (cv ad v)))) → va_S A s.heap H1 locs1 → W p l e R s m args below meth c0 H1 locs1 kc ks Z (F0 m (pc + 3) arr (st.map (cv ad))) := by
    intro H1 locs1 hP1 hD1 hS1
    have e1 : (bl ad cA S).set c (ad c, .inr (ci, (fs.map (bfv ad)).set k (cv ad v))) = bl ad cA S2 := by
      rw [← hs2, bl_set]
      congr 2
      show Sum.inr _ = Sum.inr (ci, (fs.set k (some v)).map (bfv ad))
      rw [List.map_set]
      rfl
    rw [e1] at hP1 hD1
    exact kk ad H1 locs1 arr h0 hP1 hD1 hS1 hl
  cases fin with
  | true => exact va_putF hx hb hts g3 ty0 g5 g6 hown hK hP hD hS c he g1 k g2 (hts _ g4) (fun _ q => q) g7 hnm g9 g8 (hn ad) (hfit ad) hlen hd fin2
  | false => exact va_put hx hb hts g3 ty0 g5 g6 hown hK hP hD hS c he g1 k g2 (hts _ g4) (fun _ q => q) g7 g8 (hn ad) (hfit ad) hlen hd fin2
theorem BW.get {idx ci c k r : Nat} {fin : Bool} {ty : FieldType} {fs : List (Option AV)} (F : Fb X cc own nL d mc ms) (hd : decode cc pc = .ok (.getfield idx, 3)) (hp : pc + 3 = pn) (g : PF own idx ci k fin ty) (so : S[c]? = some (.inl (ci, fs))) (hf2 : fs[k]? = some (some (vR r))) (kk : BW X S kc ks nL pn ls (vR r :: st)) : BW X S kc ks nL pc ls (vR c :: st) := by
  obtain ⟨p, l, e, R, s, m, args, below, meth, c0, Z, D, cA, ad0, n0, A⟩ := X
  obtain ⟨hx, hb, hml, hown, hts, hnw, hK, hA, hf, hlo, hc, hs, hn00⟩ := F
  subst hp
  intro ad H locs arr h0 hP hD hS hl
  obtain ⟨C, T, N, ty0, g1, g2, g3, g4, g5, g6, g7, g8, g9⟩ := g
  have he : (bl ad cA S)[c]? = some (ad c, .inr (ci, fs.map (bfv ad))) := by rw [bl_at, so]; rfl
  exact va_get hx hb hts g3 hown hK hP c he g1 k g2 (hts _ g4) (fun _ q => q) (v := .ref (ad r)) (by rw [List.getElem?_map, hf2]; rfl) hd (kk ad H locs arr h0 hP hD hS hl)
theorem BW.aast {c v j n : Nat} {i : Int} {rs : List (Option Nat)} {fs : List (Option AV)} (F : Fb X cc own nL d mc ms) (hd : decode cc pc = .ok (.aastore, 1)) (hp : pc + 1 = pn) (so : S[c]? = some (.inr (3, n, rs))) (sv : S[v]? = some (.inl (5, fs))) (hi : i = (j : Int)) (hj : j < n) (hn1 : n < 100000) (hjr : rs.length = j) (hs2 : S.set c (.inr (3, n, rs ++ [some v])) = S2) (kk : BW X S2 kc ks nL pn ls st) : BW X S kc ks nL pc ls (vR v :: vI i :: vR c :: st) := by
  obtain ⟨p, l, e, R, s, m, args, below, meth, c0, Z, D, cA, ad0, n0, A⟩ := X
  obtain ⟨hx, hb, hml, hown, hts, hnw, hK, hA, hf, hlo, hc, hs, hn00⟩ := F
  subst hp; subst hi
  intro ad H locs arr h0 hP hD hS hl
  have hzn : (Int32.ofInt (j : Int)).toNatClampNeg = j := by rw [Int32.ofInt_eq_ofNat]; exact nI_clamp (by omega)
  have hin : vp_in (Int32.ofInt (j : Int)) n := by rw [Int32.ofInt_eq_ofNat]; exact vp_in_nI hj (by omega)
  refine va_astq (r := (RX5, TX5, 12)) hx hb hK hP hD hS c 3 v 5 (f := fun j => ((rs[j]?).getD none).map ad) (by rw [bl_at, so]; rfl) rfl (by rw [bl_at, sv]; rfl) rfl hin hd (fun H1 locs1 hP1 hD1 hS1 => ?_)
  have e1 : (bl ad cA S).set c (ad c, .inl (cA 3, n, .inr (.inr (.inr (.inr (va_up (fun j => ((rs[j]?).getD none).map ad) (Int32.ofInt (j : Int)).toNatClampNeg (some (ad v)))))))) = bl ad cA S2 := by
    rw [← hs2, bl_set]
    congr 2
    show (Sum.inl (cA 3, n, .inr (.inr (.inr (.inr (va_up (fun j => ((rs[j]?).getD none).map ad) (Int32.ofInt (j : Int)).toNatClampNeg (some (ad v))))))) : va_E) = Sum.inl (cA 3, n, .inr (.inr (.inr (.inr (fun j => (((rs ++ [some v])[j]?).getD none).map ad)))))
    congr 7
    funext q
    unfold va_up
    rw [hzn]
    by_cases hq : q = j
    · subst hq
      rw [if_pos rfl, ← hjr, List.getElem?_append_right (Nat.le_refl _)]
      simp
    · rw [if_neg hq]
      by_cases hq2 : q < rs.length
      · rw [List.getElem?_append_left hq2]
      · have z1 : rs[q]? = none := List.getElem?_eq_none (by omega)
        have z2 : (rs ++ [some v])[q]? = none := List.getElem?_eq_none (by rw [List.length_append]; show rs.length + 1 ≤ q; omega)
        show Option.map ad ((rs[q]?).getD none) = Option.map ad (((rs ++ [some v])[q]?).getD none)
        rw [z1, z2]
  rw [e1] at hP1 hD1
  exact kk ad H1 locs1 arr h0 hP1 hD1 hS1 hl
theorem BW.objInit {idx c : Nat} (F : Fb X cc own nL d mc ms) (hd : decode cc pc = .ok (.invokespecial idx, 3)) (hp : pc + 3 = pn) (w1 : Cond.methodLink own idx objectInit ∈ cs_TG) (w2 : Cond.instanceMethod objectInit ∈ cs_TG) (w3 : Cond.code objectInit ⟨#[0xb1]⟩ 1 none ∈ cs_TG) (h1 : 1 ≤ d) (hcat : catA st ≤ 8) (kk : BW X S kc ks nL pn ls st) : BW X S kc ks nL pc ls (vR c :: st) := by
  obtain ⟨p, l, e, R, s, m, args, below, meth, c0, Z, D, cA, ad0, n0, A⟩ := X
  obtain ⟨hx, hb, hml, hown, hts, hnw, hK, hA, hf, hlo, hc, hs, hn00⟩ := F
  subst hp
  intro ad H locs arr h0 hP hD hS hl
  refine W.objInit hx hb hown (hts _ w1) (hts _ w2) (hts _ w3) rfl (hl.1.trans hml.symm) (a := ad c) (rest := st.map (cv ad)) rfl hd (by omega) ?_ (kk ad H locs arr h0 hP hD hS hl)
  rw [catA_ok]
  show 2 * 0 + catA st + 12 ≤ R.locals
  omega
/-- the contract of a constructor: the cells S become S2 -/
def WB (D : va_G) (cA : Nat → ClassId) (ad : Nat → Nat) (S : List BC) (sz : Nat) (U : State) : Prop := U.heap.size = sz ∧ va_P D vwCl (bl ad cA S) U.heap ∧ va_K D vwCl (tysA cA) U ∧ va_D (fun _ => True) (bl ad cA S) ∧ (∀ w ∈ cs_NW, va_Nw w U) ∧ va_AO "CastOffs$Stock" U
def Qb (D : va_G) (cA : Nat → ClassId) (ad : Nat → Nat) (S S2 : List BC) (sz : Nat) : Array Value → State → Outcome → State → Prop := fun _ st oc t => (∃ ad2 : Nat → Nat, (∀ k, k < S.length ∨ 1000 ≤ k → ad2 k = ad k) ∧ oc = .returned none ∧ va_P D vwCl (bl ad2 cA S2) t.heap ∧ va_D (va_A (bl ad cA S) sz) (bl ad2 cA S2)) ∧ va_F (va_A (bl ad cA S) sz) st t
def rmB (d mc ms : Nat) : Room := { frames := d, cells := mc, slots := ms, locals := 40 * d }
def MB (y : MethodName) (cc : ByteArray) (maxL d mc ms : Nat) (as : List AV) (S S2 : List BC) : Prop :=
  ∀ (l : Launch) (D : va_G) (cA : Nat → ClassId) (ad : Nat → Nat) (sz : Nat), Met l y (.code y cc maxL none :: cs_TG) (rmB d mc ms) (va_Pc (as.map (cv ad)) (WB D cA ad S sz)) (Qb D cA ad S S2 sz) mc ms (va_A (bl ad cA S) sz)
/-- the end of a constructor -/
def Rb (X : Bx) (mc ms : Nat) (S S2 : List BC) : Prop := match X with
  | (p, l, e, R, s, m, args, below, meth, c, Z, D, cA, ad0, n0, A) => meth.sig.returnType = none ∧ meth.locks = false ∧ n0 = S.length ∧ A = va_A (bl ad0 cA S) s.heap.size ∧ Z = MQ below (Qb D cA ad0 S S2 s.heap.size) args s mc ms A
theorem BW.vret {S0 : List BC} (F : Fb X cc own nL d mc ms) (G : Rb X kc ks S0 S) (hd : decode cc pc = .ok (.return_, 1)) : BW X S kc ks nL pc ls [] := by
  obtain ⟨p, l, e, R, s, m, args, below, meth, c0, Z, D, cA, ad0, n0, A⟩ := X
  obtain ⟨hx, hb, hml, hown, hts, hnw, hK, hA, hf, hlo, hc, hs, hn00⟩ := F
  obtain ⟨hr, hlk, hn0, hAe, rfl⟩ := G
  intro ad H locs arr h0 hP hD hS hl
  subst hn0
  subst hAe
  exact W.vret hx hb hr (fun t ht hW => ⟨⟨ad, h0, rfl, by rw [ht]; exact hP, hD⟩, hS.F ht⟩) hS.2.2 hd
theorem MB.of {y : MethodName} {maxL : Nat} {as : List AV} (hy : plainName y.cls = true) (ho : y.cls = own) (hy2 : y.name = "<init>") (hlen : (entL as).length ≤ maxL) (hls : padL maxL (entL as) = ls) (hn : S.length ≤ 1000)
    (body : ∀ X : Bx, Fb X cc own maxL d mc ms → X.2.2.2.2.2.2.2.2.1.name = "<init>" → X.2.2.2.2.2.2.2.2.2.2.2.2.2.2.1 ≤ S.length → Rb X mc ms S S2 → BW X S 0 0 maxL 0 ls []) : MB y cc maxL d mc ms as S S2 := by
  intro l D cA ad sz
  subst ho; subst hls
  refine Met.ofW (cc := cc) (maxL := maxL) (ret := none) hy rfl ?_
  intro p e s m args below meth c s₁ B hml hv
  obtain ⟨rfl, hsz, hP, hK, hD0, hnw, hAO⟩ := hv
  have hts := atoms_spec (ws := .code y cc maxL none :: cs_TG) B.pre
  subst hsz
  have hA : ∀ q : Nat, s.heap.size ≤ q → va_A (bl ad cA S) s.heap.size q := fun q hq => Or.inr hq
  have hD : va_D (va_A (bl ad cA S) s.heap.size) (bl ad cA S) := hD0.self
  have hl := lv_entry (as.map (cv ad)) (n := maxL) (by rw [entL_len]; exact hlen)
  rw [lg_entry_eq]
  have hLS : cs_LS ad (padL maxL (entL as)) ((lg_sl (as.map (cv ad)) ++ List.replicate (maxL - (lg_sl (as.map (cv ad))).length) Slot.unset).toArray) maxL := by
    refine ⟨hl.1, hl.2.1, fun i v hi => ?_⟩
    unfold padL at hi
    by_cases hil : i < (entL as).length
    · rw [List.getElem?_append_left hil] at hi
      have := entL_args ad as 0 i v hi
      rw [Nat.zero_add] at this
      exact hl.2.2 (i, cv ad v) this
    · rw [List.getElem?_append_right (Nat.not_lt.mp hil)] at hi
      rw [List.getElem?_replicate] at hi
      split at hi <;> cases hi
  have hnm : meth.name = "<init>" := by rw [(name_of_methodNamed B.named B.method).1]; exact hy2
  refine body (p, l, e, rmB d mc ms, s, m, (as.map (cv ad)).toArray, below, meth, c, MQ below (Qb D cA ad S S2 s.heap.size) (as.map (cv ad)).toArray s mc ms (va_A (bl ad cA S) s.heap.size), D, cA, ad, S.length, va_A (bl ad cA S) s.heap.size) ?_ hnm (Nat.le_refl _) ?_ ad s.heap [] _ (fun k _ => rfl) hP hD va_S.rf hLS
  · exact ⟨B.exec, B.bytes, hml, findClass_of_methodNamed B.named, fun w hw => hts w (List.mem_cons_of_mem _ hw), hnw, hK, hA, Nat.le_refl _, Nat.le_refl _, Nat.le_refl _, Nat.le_refl _, hn, hAO⟩
  · exact ⟨B.returns, B.notSynchronized, rfl, rfl, rfl⟩
def CLI (own : String) (idx : Nat) (y : MethodName) (bytes : ByteArray) (maxL n : Nat) : Prop := (Cond.methodLink own idx y ∈ cs_TG ∨ ∃ host, Cond.methodLinkNest own idx y host ∈ cs_NW) ∧ Cond.instanceMethod y ∈ cs_TG ∧ Cond.initialized y.cls ∈ cs_TG ∧ Cond.code y bytes maxL none ∈ cs_TG ∧ y.name = "<init>" ∧ (y.cls ≠ "java/lang/invoke/MethodHandle" ∧ y.cls ≠ "java/lang/invoke/VarHandle" ∧ (parseMethodDescriptor y.desc).map (fun d => d.parameters.length) = some n) ∧ maxL ≤ 21
theorem WB.blind {D : va_G} {cA : Nat → ClassId} {ad : Nat → Nat} {sz : Nat} {vs : List Value} : FrameBlind (va_Pc vs (WB D cA ad S sz)) := by
  rintro a U g mk ⟨q0, q1, qP, qK, qD, qN, qE⟩
  exact ⟨q0, q1, qP, va_K.moved (u := U) (U := U.calling g mk a) (Vm.Alike.refl U.vm) qK, qD, nw_same (s := U) (U := U.calling g mk a) rfl qN, va_AO.moved (u := U) (U := U.calling g mk a) (Vm.Alike.refl U.vm) qE⟩
theorem BW.invI {y : MethodName} {bytes : ByteArray} {maxL d2 mc2 ms2 idx n c kc2 ks2 : Nat} {as : List AV} {stk : List AV} (F : Fb X cc own nL d mc ms) (hd : decode cc pc = .ok (.invokespecial idx, 3)) (hp : pc + 3 = pn) (hn0 : X.2.2.2.2.2.2.2.2.2.2.2.2.2.2.1 ≤ S.length) (cl : CLI own idx y bytes maxL n) (hm : MB y bytes maxL d2 mc2 ms2 (vR c :: as) S S2) (hn : as.length = n) (hst : stk = as.reverse ++ vR c :: st) (hcat : catA st ≤ 8) (hdd : d2 + 1 ≤ d) (hkc : kc + mc2 = kc2) (hks : ks + ms2 = ks2) (hmc : kc2 ≤ mc) (hms : ks2 ≤ ms) (hok : okS S ls st = true)
    (kk : BW X S2 kc2 ks2 nL pn ls st) : BW X S kc ks nL pc ls stk := by
  obtain ⟨p, l, e, R, s, m, args, below, meth, c0, Z, D, cA, ad0, n0, A⟩ := X
  obtain ⟨hx, hb, hml, hown, hts, hnw, hK, hA, hfr, hlo, hc, hs, hn00, hAO⟩ := F
  subst hp; subst hkc; subst hks
  have hn0 : n0 ≤ S.length := hn0
  intro ad H locs arr h0 hP hD hS hl
  obtain ⟨c3, c4, c6, c7, c5, c8, c9⟩ := cl
  simp only [okS, Bool.and_eq_true] at hok
  obtain ⟨o1, o2, o3⟩ := hok
  have hR : (rmB d2 mc2 ms2).frames + 1 ≤ R.frames ∧ 8 + (maxL + 11) + (rmB d2 mc2 ms2).locals ≤ R.locals := ⟨Nat.le_trans hdd hfr, by show 8 + (maxL + 11) + 40 * d2 ≤ R.locals; omega⟩
  have hpre : PreS s H (va_Pc ((vR c :: as).map (cv ad)) (WB D cA ad S H.size)) (.ref (ad c) :: as.map (cv ad)) :=
    ⟨WB.blind, fun U hU hW => ⟨rfl, by rw [hU], by rw [hU]; exact hP, va_K.moved hW.alike hK, hD.weaken (fun _ _ _ _ => trivial), nw_warm hW hnw, hAO.moved hW.alike⟩⟩
  have hstk : stk.map (cv ad) = (as.map (cv ad)).reverse ++ .ref (ad c) :: st.map (cv ad) := by
    rw [hst, List.map_append, List.map_reverse]; rfl
  have hF : ∀ q, va_A (bl ad cA S) H.size q → A q := by
    rintro q (⟨k, e, hk⟩ | hq)
    · exact hD.2 k _ hk
    · exact hA q (Nat.le_trans hS.1 hq)
  have hr : va_Run p l e R s m args below meth c0 H locs kc ks mc2 ms2 (F0 m pc arr (stk.map (cv ad))) (st.map (cv ad)) (Qb D cA ad S S2 H.size ((vR c :: as).map (cv ad)).toArray) (va_A (bl ad cA S) H.size) := by
    rcases c3 with c3 | ⟨host, c3⟩
    · exact va_runI (nL := nL) (Ts := cs_TG) ⟨hx, hb, hml, hown, hts⟩ (hm l D cA ad H.size) ⟨callB_of n hts (tg_goodIn c7) rfl rfl rfl (hts _ c6) (hts _ c3) c8 hR, c5, hts _ c4⟩ hpre rfl (by rw [List.length_map]; exact hn) hl.1 hstk (lv_room (by rw [catA_ok]; exact hcat)) hd ⟨by omega, by omega⟩
    · exact va_runIN (nL := nL) (Ts := cs_TG) ⟨hx, hb, hml, hown, hts⟩ (hm l D cA ad H.size) ⟨va_cnB (Ts := cs_TG) n hts (tg_goodIn c7) rfl rfl rfl (hnw _ c3) (hts _ c6) c8 hR, c5, hts _ c4⟩ hpre rfl (by rw [List.length_map]; exact hn) hl.1 hstk (lv_room (by rw [catA_ok]; exact hcat)) hd ⟨by omega, by omega⟩
  intro T hT X
  obtain ⟨v, st₀, t, T', L, h0', X', hL, e1, e2, ⟨⟨ad2, hag, hv, hP1, hD1⟩, hz, hk⟩, stp⟩ := hr T hT X
  have hv' : v = none := by injection hv
  subst hv'
  rw [h0'] at hz hk
  have hS' : va_S A s.heap T'.heap (locs ++ L) := ⟨Nat.le_trans hS.1 (by rw [e1]; exact hz), fun q h1 h2 => by rw [e1, hk q (Nat.lt_of_lt_of_le h1 hS.1) (fun z => h2 (hF q z))]; exact hS.2.1 q h1 h2, fun q hq => by
      rcases List.mem_append.mp hq with h | h
      · exact hS.2.2 q h
      · exact hF _ (hL q h)⟩
  have K := kk ad2 T'.heap (locs ++ L) arr (fun k hk => (hag k (by omega)).trans (h0 k hk)) (by rw [e1]; exact hP1) (hD1.weaken (fun k q _ hq => hF _ hq)) hS' (LS_ok hag o2 hl)
  rw [st_ok hag o3] at K
  obtain ⟨t2, a1, b1⟩ := K T' rfl X'
  exact ⟨t2, stp t2 a1, b1⟩
end BROWS2
