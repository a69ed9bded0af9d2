/-! ===== fields, arrays, calls ===== -/
def GL (own : String) (idx ci k : Nat) : Prop := ∃ (C : String) (T : u_T) (N : Nat), vwCl[ci]? = some (C, T, N) ∧ k < N ∧ (∀ w ∈ u_ws C T N, w ∈ cs_TG) ∧ (Cond.fieldLink own idx (T k).1 (T k).2.1 (T k).2.2.1 ∈ cs_TG ∨ ∃ host, Cond.fieldLinkNest own idx (T k).1 (T k).2.1 (T k).2.2.1 host ∈ cs_NW)
def PL (own : String) (idx ci k : Nat) (ty : FieldType) : Prop := ∃ (C : String) (T : u_T) (N : Nat) (ty0 : Nat → FieldType), vwCl[ci]? = some (C, T, N) ∧ k < N ∧ (∀ w ∈ u_ws C T N, w ∈ cs_TG) ∧ (Cond.fieldLink own idx (T k).1 (T k).2.1 (T k).2.2.1 ∈ cs_TG ∨ ∃ host, Cond.fieldLinkNest own idx (T k).1 (T k).2.1 (T k).2.2.1 host ∈ cs_NW) ∧ (∀ k, k < N → parseFieldDescriptor (T k).2.2.1 = some (ty0 k)) ∧ (∀ a, a < N → ∀ b, b < N → a ≠ b → (T a).2.1 ≠ (T b).2.1) ∧ (T k).2.2.2 = false ∧ parseFieldDescriptor (T k).2.2.1 = some ty
theorem cellE_o {ad : Nat → Nat} {cA : Nat → ClassId} {h : HP} {k ci : Nat} {fs : List Nat} (so : SHL[k]? = some (.inl (ci, fs))) : cellE ad cA h k = .inr (ci, fs.mapIdx (fun j r => fv ad h k j r)) := by
  unfold cellE; rw [so]
theorem cellE_a {ad : Nat → Nat} {cA : Nat → ClassId} {h : HP} {k t n : Nat} {rs : List Nat} (sa : SHL[k]? = some (.inr (t, n, rs))) (ht : ¬ t = 3) : cellE ad cA h k = .inl (cA t, n, .inl (fun j => Int32.ofInt (h k j))) := by
  unfold cellE; rw [sa]; simp only [if_neg ht]
theorem cellE_r {ad : Nat → Nat} {cA : Nat → ClassId} {h : HP} {k n : Nat} {rs : List Nat} (sa : SHL[k]? = some (.inr (3, n, rs))) : cellE ad cA h k = .inl (cA 3, n, .inr (.inr (.inr (.inr (fun j => (rs[j]?).map ad))))) := by
  unfold cellE; rw [sa]; rfl
theorem wl_o {ad : Nat → Nat} {cA : Nat → ClassId} {h : HP} {k ci : Nat} {fs : List Nat} (so : SHL[k]? = some (.inl (ci, fs))) : (wl ad cA h)[k]? = some (ad k, .inr (ci, fs.mapIdx (fun j r => fv ad h k j r))) := by
  rw [wl_at (wl_lt so), cellE_o so]
theorem wl_a {ad : Nat → Nat} {cA : Nat → ClassId} {h : HP} {k t n : Nat} {rs : List Nat} (sa : SHL[k]? = some (.inr (t, n, rs))) (ht : ¬ t = 3) : (wl ad cA h)[k]? = some (ad k, .inl (cA t, n, .inl (fun j => Int32.ofInt (h k j)))) := by
  rw [wl_at (wl_lt sa), cellE_a sa ht]
theorem hset_ne {h : HP} {c j : Nat} {v : Int} {c' j' : Nat} (hn : ¬ (c' = c ∧ j' = j)) : hset h c j v c' j' = h c' j' := if_neg hn
theorem hset_eq {h : HP} {c j : Nat} {v : Int} : hset h c j v c j = v := if_pos ⟨rfl, rfl⟩
theorem wl_put {ad : Nat → Nat} {cA : Nat → ClassId} {h : HP} {c ci k r : Nat} {fs : List Nat} {v : Int} (so : SHL[c]? = some (.inl (ci, fs))) (hf : fs[k]? = some r) :
    (wl ad cA h).set c (ad c, .inr (ci, (fs.mapIdx (fun j r => fv ad h c j r)).set k (fv ad (hset h c k v) c k r))) = wl ad cA (hset h c k v) := by
  refine wl_set ?_ (fun c' j hc => hset_ne (fun q => hc q.1))
  rw [cellE_o so]
  congr 2
  apply List.ext_getElem?
  intro i
  rw [List.getElem?_mapIdx, List.getElem?_set]
  by_cases hi : k = i
  · subst hi
    rw [if_pos rfl, hf, if_pos (by rw [List.length_mapIdx]; exact (List.getElem?_eq_some_iff.mp hf).1)]
    rfl
  · rw [if_neg hi, List.getElem?_mapIdx]
    cases fs[i]? with
    | none => rfl
    | some r =>
      simp only [Option.map_some, fv]
      rw [hset_ne (fun q => hi q.2.symm)]
theorem wl_sto {ad : Nat → Nat} {cA : Nat → ClassId} {h : HP} {c t n i : Nat} {rs : List Nat} {v : Int} (sa : SHL[c]? = some (.inr (t, n, rs))) (ht : ¬ t = 3) :
    (wl ad cA h).set c (ad c, .inl (cA t, n, .inl (upd (fun j => Int32.ofInt (h c j)) i (Int32.ofInt v)))) = wl ad cA (hset h c i v) := by
  refine wl_set ?_ (fun c' j hc => hset_ne (fun q => hc q.1))
  rw [cellE_a sa ht]
  congr 3
  congr 1
  funext j
  unfold upd
  by_cases hj : j = i
  · subst hj; rw [if_pos rfl, hset_eq]
  · rw [if_neg hj, hset_ne (fun q => hj q.2)]
def rd (h : HP) (c n : Nat) (i : Int) (K : Int → Prop) : Prop := inb i n ∧ K (h c (ix i))
def wr (h : HP) (c n : Nat) (i v : Int) (K : HP → Prop) : Prop := inb i n ∧ K (hset h c (ix i) v)
def pf (h : HP) (c k : Nat) (v : Int) (K : HP → Prop) : Prop := K (hset h c k v)
def cpw (h : HP) (c1 c2 n : Nat) (K : HP → Prop) : Prop := K (hcpy h c1 0 c2 0 n)
def brc (c a b : Prop) : Prop := (c → a) ∧ (¬ c → b)
section HROWS
variable {X : Cx} {cc : ByteArray} {own : String} {nL d pc pn : Nat} {ls : List (Option AV)} {st : List AV} {h : HP}
theorem AW.getV {idx ci c k r : Nat} {fs : List Nat} {v : AV} (F : Fx X cc own nL d) (hd : decode cc pc = .ok (.getfield idx, 3)) (hp : pc + 3 = pn) (g : GL own idx ci k) (so : SHL[c]? = some (.inl (ci, fs))) (hf : fs[k]? = some r) (hv : ∀ ad, fv ad h c k r = cv ad v) (kk : AW X nL pn ls (v :: st) h) : AW X nL pc ls (vR c :: st) h := by
  obtain ⟨p, l, e, R, s, m, args, below, meth, c0, Z, D, cA, ad, A, kc, ks⟩ := X
  obtain ⟨hx, hb, hml, hown, hts, hnw, hK, hA, hE, hfr, hlo, hc, hs⟩ := F
  subst hp
  intro H locs arr hP hD hS hl
  obtain ⟨C, T, N, g1, g2, g3, g4⟩ := g
  have hv2 : (fs.mapIdx (fun j r => fv ad h c j r))[k]? = some (cv ad v) := by
    rw [List.getElem?_mapIdx, hf, ← hv ad]; rfl
  rcases g4 with g4 | ⟨host, g4⟩
  · exact va_get hx hb hts g3 hown hK hP c (wl_o so) g1 k g2 (hts _ g4) (fun _ q => q) hv2 hd (kk H locs arr hP hD hS hl)
  · exact va_getN hx hb hts g3 hown hK hP c (wl_o so) g1 k g2 (va_Nw.use rfl (hnw _ g4)) (fun _ q => q) hv2 hd (kk H locs arr hP hD hS hl)
theorem AW.getI {idx ci c k : Nat} {fs : List Nat} (F : Fx X cc own nL d) (hd : decode cc pc = .ok (.getfield idx, 3)) (hp : pc + 3 = pn) (g : GL own idx ci k) (so : SHL[c]? = some (.inl (ci, fs))) (hf : fs[k]? = some 0) (kk : AW X nL pn ls (vI (h c k) :: st) h) : AW X nL pc ls (vR c :: st) h :=
  AW.getV F hd hp g so hf (fun _ => rfl) kk
theorem AW.getL {idx ci c k : Nat} {fs : List Nat} (F : Fx X cc own nL d) (hd : decode cc pc = .ok (.getfield idx, 3)) (hp : pc + 3 = pn) (g : GL own idx ci k) (so : SHL[c]? = some (.inl (ci, fs))) (hf : fs[k]? = some 1) (kk : AW X nL pn ls (vL (h c k) :: st) h) : AW X nL pc ls (vR c :: st) h :=
  AW.getV F hd hp g so hf (fun _ => rfl) kk
theorem AW.getR {idx ci c k : Nat} (r : Nat) {fs : List Nat} (F : Fx X cc own nL d) (hd : decode cc pc = .ok (.getfield idx, 3)) (hp : pc + 3 = pn) (g : GL own idx ci k) (so : SHL[c]? = some (.inl (ci, fs))) (hf : fs[k]? = some (r + 2)) (kk : AW X nL pn ls (vR r :: st) h) : AW X nL pc ls (vR c :: st) h :=
  AW.getV F hd hp g so hf (fun _ => rfl) kk
theorem AW.putV {idx ci c k r : Nat} {fs : List Nat} {ty : FieldType} {v : AV} {y : Int} {K : HP → Prop} (F : Fx X cc own nL d) (hd : decode cc pc = .ok (.putfield idx, 3)) (hp : pc + 3 = pn) (g : PL own idx ci k ty) (so : SHL[c]? = some (.inl (ci, fs))) (hf : fs[k]? = some r) (hv : ∀ ad, fv ad (hset h c k y) c k r = cv ad v) (hn : ∀ ad, narrow ty (cv ad v) = cv ad v) (hfit : ∀ ad, fits ty (cv ad v) = true) (hk : pf h c k y K) (kk : ∀ h', K h' → AW X nL pn ls st h') : AW X nL pc ls (v :: vR c :: st) h := by
  obtain ⟨p, l, e, R, s, m, args, below, meth, c0, Z, D, cA, ad, A, kc, ks⟩ := X
  obtain ⟨hx, hb, hml, hown, hts, hnw, hK, hA, hE, hfr, hlo, hc, hs⟩ := F
  subst hp
  intro H locs arr hP hD hS hl
  obtain ⟨C, T, N, ty0, g1, g2, g3, g4, g5, g6, g7, g8⟩ := g
  have hlen : k < (fs.mapIdx (fun j r => fv ad h c j r)).length := by
    rw [List.length_mapIdx]; exact (List.getElem?_eq_some_iff.mp hf).1
  have fin : ∀ (H1 : Heap) (locs1 : List Loc), va_P D vwCl ((wl ad cA h).set c (ad c, .inr (ci, (fs.mapIdx (fun j r => fv ad h c j r)).set k (cv ad v)))) H1 → va_D A ((wl ad cA h).set c (ad c, .inr (ci, (fs.mapIdx (fun j r => fv ad h c j r)).set k (cv ad v)))) → va_S A s.heap H1 locs1 → W p l e R s m args below meth c0 H1 locs1 kc ks Z (F0 m (pc + 3) arr (st.map (cv ad))) := by
    intro H1 locs1 hP1 hD1 hS1
    rw [← hv ad, wl_put so hf] at hP1 hD1
    exact kk _ hk H1 locs1 arr hP1 hD1 hS1 hl
  rcases g4 with g4 | ⟨host, g4⟩
  · exact va_put hx hb hts g3 ty0 g5 g6 hown hK hP hD hS c (wl_o so) g1 k g2 (hts _ g4) (fun _ q => q) g7 g8 (hn ad) (hfit ad) hlen hd fin
  · exact va_putN hx hb hts g3 ty0 g5 g6 hown hK hP hD hS c (wl_o so) g1 k g2 (va_Nw.use rfl (hnw _ g4)) (fun _ q => q) g7 g8 (hn ad) (hfit ad) hlen hd fin
theorem AW.putI {idx ci c k : Nat} {fs : List Nat} {y : Int} {K : HP → Prop} (F : Fx X cc own nL d) (hd : decode cc pc = .ok (.putfield idx, 3)) (hp : pc + 3 = pn) (g : PL own idx ci k .int) (so : SHL[c]? = some (.inl (ci, fs))) (hf : fs[k]? = some 0) (hk : pf h c k y K) (kk : ∀ h', K h' → AW X nL pn ls st h') : AW X nL pc ls (vI y :: vR c :: st) h :=
  AW.putV F hd hp g so hf (fun _ => by show Value.int (Int32.ofInt (hset h c k y c k)) = _; rw [hset_eq]; rfl) (fun _ => rfl) (fun _ => rfl) hk kk
theorem AW.putL {idx ci c k : Nat} {fs : List Nat} {y : Int} {K : HP → Prop} (F : Fx X cc own nL d) (hd : decode cc pc = .ok (.putfield idx, 3)) (hp : pc + 3 = pn) (g : PL own idx ci k .long) (so : SHL[c]? = some (.inl (ci, fs))) (hf : fs[k]? = some 1) (hk : pf h c k y K) (kk : ∀ h', K h' → AW X nL pn ls st h') : AW X nL pc ls (vL y :: vR c :: st) h :=
  AW.putV F hd hp g so hf (fun _ => by show Value.long (Int64.ofInt (hset h c k y c k)) = _; rw [hset_eq]; rfl) (fun _ => rfl) (fun _ => rfl) hk kk
theorem AW.iald {c n : Nat} {rs : List Nat} {i : Int} {K : Int → Prop} (F : Fx X cc own nL d) (hd : decode cc pc = .ok (.iaload, 1)) (hp : pc + 1 = pn) (sa : SHL[c]? = some (.inr (0, n, rs))) (hr : rd h c n i K) (kk : ∀ v, K v → AW X nL pn ls (vI v :: st) h) : AW X nL pc ls (vI i :: vR c :: st) h := by
  obtain ⟨p, l, e, R, s, m, args, below, meth, c0, Z, D, cA, ad, A, kc, ks⟩ := X
  obtain ⟨hx, hb, hml, hown, hts, hnw, hK, hA, hE, hfr, hlo, hc, hs⟩ := F
  subst hp
  intro H locs arr hP hD hS hl
  refine va_iald hx hb hK hP c 0 (wl_a sa (by decide)) rfl (inb_in hr.1) hd ?_
  rw [ix_cl hr.1]
  exact kk _ hr.2 H locs arr hP hD hS hl
theorem AW.cald {c n : Nat} {rs : List Nat} {i : Int} {K : Int → Prop} (F : Fx X cc own nL d) (hd : decode cc pc = .ok (.caload, 1)) (hp : pc + 1 = pn) (sa : SHL[c]? = some (.inr (1, n, rs))) (hr : rd h c n i K) (kk : ∀ v, K v → AW X nL pn ls (vI v :: st) h) : AW X nL pc ls (vI i :: vR c :: st) h := by
  obtain ⟨p, l, e, R, s, m, args, below, meth, c0, Z, D, cA, ad, A, kc, ks⟩ := X
  obtain ⟨hx, hb, hml, hown, hts, hnw, hK, hA, hE, hfr, hlo, hc, hs⟩ := F
  subst hp
  intro H locs arr hP hD hS hl
  refine va_cald hx hb hK hP c 1 (wl_a sa (by decide)) rfl (inb_in hr.1) hd ?_
  rw [ix_cl hr.1]
  exact kk _ hr.2 H locs arr hP hD hS hl
theorem AW.zald {c n : Nat} {rs : List Nat} {i : Int} {K : Int → Prop} (F : Fx X cc own nL d) (hd : decode cc pc = .ok (.baload, 1)) (hp : pc + 1 = pn) (sa : SHL[c]? = some (.inr (2, n, rs))) (hr : rd h c n i K) (kk : ∀ v, K v → AW X nL pn ls (vI v :: st) h) : AW X nL pc ls (vI i :: vR c :: st) h := by
  obtain ⟨p, l, e, R, s, m, args, below, meth, c0, Z, D, cA, ad, A, kc, ks⟩ := X
  obtain ⟨hx, hb, hml, hown, hts, hnw, hK, hA, hE, hfr, hlo, hc, hs⟩ := F
  subst hp
  intro H locs arr hP hD hS hl
  refine va_zald hx hb hK hP c 2 (wl_a sa (by decide)) rfl (inb_in hr.1) hd ?_
  rw [ix_cl hr.1]
  exact kk _ hr.2 H locs arr hP hD hS hl
theorem AW.iast {c n : Nat} {rs : List Nat} {i v : Int} {K : HP → Prop} (F : Fx X cc own nL d) (hd : decode cc pc = .ok (.iastore, 1)) (hp : pc + 1 = pn) (sa : SHL[c]? = some (.inr (0, n, rs))) (hr : wr h c n i v K) (kk : ∀ h', K h' → AW X nL pn ls st h') : AW X nL pc ls (vI v :: vI i :: vR c :: st) h := by
  obtain ⟨p, l, e, R, s, m, args, below, meth, c0, Z, D, cA, ad, A, kc, ks⟩ := X
  obtain ⟨hx, hb, hml, hown, hts, hnw, hK, hA, hE, hfr, hlo, hc, hs⟩ := F
  subst hp
  intro H locs arr hP hD hS hl
  refine va_iast hx hb hK hP hD hS c 0 (wl_a sa (by decide)) rfl (inb_in hr.1) hd (fun H1 locs1 hP1 hD1 hS1 => ?_)
  rw [ix_cl hr.1, wl_sto sa (by decide)] at hP1 hD1
  exact kk _ hr.2 H1 locs1 arr hP1 hD1 hS1 hl
theorem AW.cast {c n : Nat} {rs : List Nat} {i v : Int} {K : HP → Prop} (F : Fx X cc own nL d) (hd : decode cc pc = .ok (.castore, 1)) (hp : pc + 1 = pn) (sa : SHL[c]? = some (.inr (1, n, rs))) (hr : wr h c n i (ch v) K) (kk : ∀ h', K h' → AW X nL pn ls st h') : AW X nL pc ls (vI v :: vI i :: vR c :: st) h := by
  obtain ⟨p, l, e, R, s, m, args, below, meth, c0, Z, D, cA, ad, A, kc, ks⟩ := X
  obtain ⟨hx, hb, hml, hown, hts, hnw, hK, hA, hE, hfr, hlo, hc, hs⟩ := F
  subst hp
  intro H locs arr hP hD hS hl
  refine va_cast hx hb hK hP hD hS c 1 (wl_a sa (by decide)) rfl (inb_in hr.1) hd (fun H1 locs1 hP1 hD1 hS1 => ?_)
  rw [ix_cl hr.1, nar_char, wl_sto sa (by decide)] at hP1 hD1
  exact kk _ hr.2 H1 locs1 arr hP1 hD1 hS1 hl
theorem AW.zast {c n : Nat} {rs : List Nat} {i v : Int} {K : HP → Prop} (F : Fx X cc own nL d) (hd : decode cc pc = .ok (.bastore, 1)) (hp : pc + 1 = pn) (sa : SHL[c]? = some (.inr (2, n, rs))) (hr : wr h c n i (bb v) K) (kk : ∀ h', K h' → AW X nL pn ls st h') : AW X nL pc ls (vI v :: vI i :: vR c :: st) h := by
  obtain ⟨p, l, e, R, s, m, args, below, meth, c0, Z, D, cA, ad, A, kc, ks⟩ := X
  obtain ⟨hx, hb, hml, hown, hts, hnw, hK, hA, hE, hfr, hlo, hc, hs⟩ := F
  subst hp
  intro H locs arr hP hD hS hl
  refine va_zast hx hb hK hP hD hS c 2 (wl_a sa (by decide)) rfl (inb_in hr.1) hd (fun H1 locs1 hP1 hD1 hS1 => ?_)
  rw [ix_cl hr.1, nar_bool, wl_sto sa (by decide)] at hP1 hD1
  exact kk _ hr.2 H1 locs1 arr hP1 hD1 hS1 hl
theorem AW.aald {c n r j : Nat} {rs : List Nat} {i : Int} (F : Fx X cc own nL d) (hd : decode cc pc = .ok (.aaload, 1)) (hp : pc + 1 = pn) (sa : SHL[c]? = some (.inr (3, n, rs))) (hj : w32 i = (j : Int)) (hjn : j < n) (hr : rs[j]? = some r) (kk : AW X nL pn ls (vR r :: st) h) : AW X nL pc ls (vI i :: vR c :: st) h := by
  obtain ⟨p, l, e, R, s, m, args, below, meth, c0, Z, D, cA, ad, A, kc, ks⟩ := X
  obtain ⟨hx, hb, hml, hown, hts, hnw, hK, hA, hE, hfr, hlo, hc, hs⟩ := F
  subst hp
  intro H locs arr hP hD hS hl
  have hin : inb i n := ⟨by omega, by omega⟩
  have hix : ix i = j := by unfold ix; omega
  refine va_aldq (C := "CastOffs$Stock") hx hb hK hP c 3 (by rw [wl_at (wl_lt sa), cellE_r sa]) rfl (inb_in hin) hd ?_
  rw [ix_cl hin, hix, hr]
  exact kk H locs arr hP hD hS hl
theorem AW.alen {c t n : Nat} {rs : List Nat} (F : Fx X cc own nL d) (hd : decode cc pc = .ok (.arraylength, 1)) (hp : pc + 1 = pn) (sa : SHL[c]? = some (.inr (t, n, rs))) (ht : t < 3) (kk : AW X nL pn ls (vI (n : Int) :: st) h) : AW X nL pc ls (vR c :: st) h := by
  obtain ⟨p, l, e, R, s, m, args, below, meth, c0, Z, D, cA, ad, A, kc, ks⟩ := X
  obtain ⟨hx, hb, hml, hown, hts, hnw, hK, hA, hE, hfr, hlo, hc, hs⟩ := F
  subst hp
  intro H locs arr hP hD hS hl
  have hq : ∃ ty, (tysA cA)[t]? = some (cA t, ty) := by
    match t, ht with
    | 0, _ => exact ⟨_, rfl⟩
    | 1, _ => exact ⟨_, rfl⟩
    | 2, _ => exact ⟨_, rfl⟩
  obtain ⟨ty, hq⟩ := hq
  exact va_alen (v := Int32.ofInt (n : Int)) hx hb hK hP c t (wl_a sa (by omega)) hq (by rw [Int32.ofInt_eq_ofNat]) hd (kk H locs arr hP hD hS hl)
end HROWS
