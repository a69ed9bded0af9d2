/-! ===== PURE: the two hold the same ===== -/
def eqv (V V' : HP) : Prop := (∀ j, j < 3 → V 0 j = V' 0 j) ∧ (∀ i p : Nat, 1 ≤ i → i ≤ 4 → (p : Int) < V 0 0 → V i p = V' i p) ∧ ∀ p j : Nat, (p : Int) < V 0 0 → (j : Int) < V 4 p → V 5 (20 * p + j) = V' 5 (20 * p + j)
section EQ
variable {V V' : HP}
theorem eqv.nn (e : eqv V V') : nP V = nP V' := by unfold nP; rw [e.1 0 (by decide)]
theorem lt_nP {q : Nat} (h : q < nP V) : (q : Int) < V 0 0 := by unfold nP at h; omega
theorem eqv.co (e : eqv V V') (x : Int) : cO V' x = cO V x := cO_eq (e.1 0 (by decide)).symm (fun q hq => (e.2.1 2 q (by decide) (by decide) (lt_nP hq)).symm) x
theorem eqv.cs (e : eqv V V') (x k : Int) : cS V' x k = cS V x k := cS_eq (e.1 0 (by decide)).symm (fun q hq => (e.2.1 1 q (by decide) (by decide) (lt_nP hq)).symm) (fun q hq => (e.2.1 2 q (by decide) (by decide) (lt_nP hq)).symm) x k
theorem eqv.cy (e : eqv V V') (x : Int) : cY V' x = cY V x := cY_eq (e.1 0 (by decide)).symm (fun q hq => (e.2.1 3 q (by decide) (by decide) (lt_nP hq)).symm) x
theorem eqv.may (e : eqv V V') {x : Int} {p : Nat} (hp : (p : Int) < V 0 0) : mayT V' x p ↔ mayT V x p := by
  have e2 := e.2.1 2 p (by decide) (by decide) hp
  have e3 := e.2.1 3 p (by decide) (by decide) hp
  unfold mayT
  rw [e.co x, ← e2, ← e3]
theorem eqv.ga (e : eqv V V') {W W' : Nat → Int} (x k : Int) (hw : W' (x * 6 + k).toNat = W (x * 6 + k).toNat) : gV V' W' x k = gV V W x k := by
  unfold gV; rw [e.cs x k, hw]
theorem eqv.lo (e : eqv V V') {W W' : Nat → Int} (x k : Int) (hw : W' (x * 6 + k).toNat = W (x * 6 + k).toNat) : lV V' W' x k = lV V W x k := by
  unfold lV; rw [e.cs x k, hw]
theorem eqv.we (e : eqv V V') {W W' : Nat → Int} {s : Nat} (x : Int) (hw : ∀ k : Nat, k < s → W' (x * 6 + k).toNat = W (x * 6 + k).toNat) : weV V' W' s x = weV V W s x := by
  unfold weV
  refine fs_congr s 0 (fun k _ hk => ?_)
  rw [e.cs x k, hw k (by omega)]
theorem eqv.toss (e : eqv V V') (x : Int) (p : Nat) : eqv (tossV V x p) (tossV V' x p) := by
  have e0 : ∀ U : HP, tossV U x p 0 = U 0 := fun U => toss_c (by decide) (by decide)
  refine ⟨fun j hj => by rw [e0, e0]; exact e.1 j hj, fun i q h1 h2 hq => ?_, fun q j hq hj => ?_⟩
  · rw [e0] at hq
    have r := e.2.1 i q h1 h2 hq
    match i, h1, h2, r with
    | 1, _, _, r => rw [toss_c (by decide) (by decide), toss_c (by decide) (by decide)]; exact r
    | 2, _, _, r => rw [toss_2, toss_2, r]
    | 3, _, _, r => rw [toss_3, toss_3, r]
    | 4, _, _, r => rw [toss_c (by decide) (by decide), toss_c (by decide) (by decide)]; exact r
  · rw [e0] at hq
    rw [toss_c (show (4 : Nat) ≠ 2 by decide) (by decide)] at hj
    rw [toss_c (by decide) (by decide), toss_c (by decide) (by decide)]
    exact e.2.2 q j hq hj
theorem eqv.take (e : eqv V V') (x : Int) {p : Nat} (hp : (p : Int) < V 0 0) (h4 : 0 ≤ V 4 p) (h20 : V 4 p ≤ 20) (hall : ∀ q : Nat, (q : Int) < V 0 0 → 0 ≤ V 4 q ∧ V 4 q ≤ 20) : eqv (takeV V x p) (takeV V' x p) := by
  have e0 : ∀ U : HP, takeV U x p 0 = U 0 := fun U => take_c (by decide)
  have e4 := e.2.1 4 p (by decide) (by decide) hp
  refine ⟨fun j hj => by rw [e0, e0]; exact e.1 j hj, fun i q h1 h2 hq => ?_, fun q j hq hj => ?_⟩
  · rw [e0] at hq
    have r := e.2.1 i q h1 h2 hq
    match i, h1, h2, r with
    | 1, _, _, r => rw [take_c (by decide), take_c (by decide)]; exact r
    | 2, _, _, r => rw [take_2, take_2, r]
    | 3, _, _, r => rw [take_3, take_3, r]
    | 4, _, _, r => rw [take_4, take_4, r, e4]
  · rw [e0] at hq
    rw [take_4] at hj
    rw [take_5, take_5, ← e4]
    by_cases c : 20 * q + j = 20 * p + (V 4 p).toNat ∧ V 4 p < 20
    · rw [if_pos c, if_pos c]
    · rw [if_neg c, if_neg c]
      refine e.2.2 q j hq ?_
      by_cases d : q = p ∧ V 4 p < 20
      · rw [if_pos d] at hj
        obtain ⟨rfl, d2⟩ := d
        omega
      · rw [if_neg d] at hj; exact hj
theorem eqv.add (e : eqv V V') (k : Int) (h0 : 0 ≤ V 0 0) : eqv (addV V k) (addV V' k) := by
  have en := e.nn
  have e00 := e.1 0 (by decide)
  have hn := nP_c h0
  refine ⟨fun j hj => ?_, fun i q h1 h2 hq => ?_, fun q j hq hj => ?_⟩
  · rw [add_0, add_0]
    by_cases c : j = 0
    · rw [if_pos c, if_pos c, e00]
    · rw [if_neg c, if_neg c]; exact e.1 j hj
  · rw [add_0, if_pos rfl] at hq
    by_cases c : q = nP V
    · subst c
      match i, h1, h2 with
      | 1, _, _ => rw [add_1, en, add_1]
      | 2, _, _ => rw [add_2, en, add_2]
      | 3, _, _ => rw [add_3, en, add_3]
      | 4, _, _ => rw [add_4, en, add_4]
    · rw [add_c h1 c, add_c h1 (by rw [← en]; exact c)]
      exact e.2.1 i q h1 h2 (by omega)
  · rw [add_0, if_pos rfl] at hq
    by_cases c : q = nP V
    · subst c; rw [add_4] at hj; omega
    · rw [add_c (by decide) c] at hj
      have g : ∀ (U : HP) (j : Nat), addV U k 5 j = U 5 j := fun U j => by
        unfold addV
        rw [hset_c (by decide), hset_c (by decide), hset_c (by decide), hset_c (by decide), hset_c (by decide)]
      rw [g, g]
      exact e.2.2 q j (by omega) hj
end EQ
/-- the model's image i -/
def VI (i : Nat) (h : HP) : HP := fun r j => if r = 0 then (if j < 3 then h 95 (800 * i + 768 + j) else 0) else if r < 5 then h 95 (800 * i + 32 * (r - 1) + j) else if r = 5 then h 95 (800 * i + 128 + j) else 0
def STAT (h : HP) : Prop := h 2 0 = h 69 0 ∧ h 2 1 = h 69 1 ∧ h 2 2 = h 69 4 ∧ (∀ j : Nat, (j : Int) < h 69 1 → h 3 j = h 70 j ∧ 0 ≤ h 70 j ∧ h 70 j ≤ 99) ∧ (∀ j : Nat, j < 30 → h 6 j = h 71 j ∧ 0 ≤ h 71 j ∧ h 71 j ≤ 99) ∧ 0 ≤ h 69 4 ∧ h 69 4 ≤ 20 ∧ (∀ p : Nat, (p : Int) < h 69 4 → h 4 p = h 72 p ∧ h 5 p = h 73 p ∧ 0 ≤ h 72 p ∧ h 72 p < h 69 0 ∧ 0 ≤ h 73 p ∧ h 73 p < h 69 1) ∧ ∀ x : Int, 0 ≤ x → x < h 69 1 → fs (fun q => if h 73 q = x then 1 else 0) 0 (h 69 4).toNat ≤ 4
def TXT (h : HP) : Prop := h 0 1 = h 69 16 ∧ 0 ≤ h 69 16 ∧ h 69 16 ≤ 400 ∧ (∀ j : Nat, (j : Int) < h 69 16 → h 1 j = h 79 j ∧ 0 ≤ h 79 j ∧ h 79 j ≤ 255) ∧ h 0 2 = h 69 17
def BOOK (h : HP) : Prop := h 47 0 = h 69 40 ∧ 0 ≤ h 69 40 ∧ h 69 40 ≤ 40 ∧ ∀ j : Nat, (j : Int) < h 69 40 → h 48 j = h 92 j ∧ h 49 j = h 93 j ∧ h 50 j = h 94 j ∧ 0 ≤ h 92 j ∧ h 92 j < h 69 1 ∧ 0 ≤ h 93 j ∧ h 93 j < 32 ∧ (h 94 j = 0 ∨ h 94 j = 1)
def IMG (h : HP) : Prop := ∀ i : Nat, i < 2 → h 46 i = h 96 i ∧ ((h 96 i = 0) ∨ (h 96 i = 1 ∧ SI (30 + 8 * i) h ∧ eqv (VC (30 + 8 * i) h) (VI i h)))
def REST (h : HP) : Prop := STAT h ∧ TXT h ∧ BOOK h ∧ IMG h
def INV (h : HP) : Prop := SI 13 h ∧ MI h ∧ eqv (VC 13 h) (VM h) ∧ REST h
theorem SI_eq {b : Nat} {h h' : HP} (e2 : h' 2 = h 2) (e : ∀ i, i ≤ 7 → h' (b + i) = h (b + i)) (hI : SI b h) : SI b h' := by
  have hv : VC b h' = VC b h := VC_eq (fun j _ => by have := e 0 (by decide); rw [Nat.add_zero] at this; rw [this]) (fun i _ _ => e i (by omega))
  unfold SI
  rw [hv, e2, e 6 (by decide), e 7 (by decide)]
  exact hI
theorem REST_eq {h h' : HP} (hc : ∀ c, c ≤ 6 ∨ (30 ≤ c ∧ c ≤ 50) ∨ (70 ≤ c ∧ c ≤ 73) ∨ c = 79 ∨ (92 ≤ c ∧ c ≤ 96) → h' c = h c) (hf : ∀ j, j = 0 ∨ j = 1 ∨ j = 4 ∨ j = 16 ∨ j = 17 ∨ j = 40 → h' 69 j = h 69 j) (hR : REST h) : REST h' := by
  obtain ⟨r1, r2, r3, r4⟩ := hR
  refine ⟨?_, ?_, ?_, ?_⟩
  · unfold STAT
    rw [hc 2 (by decide), hc 3 (by decide), hc 4 (by decide), hc 5 (by decide), hc 6 (by decide), hc 70 (by decide), hc 71 (by decide), hc 72 (by decide), hc 73 (by decide), hf 0 (by decide), hf 1 (by decide), hf 4 (by decide)]
    exact r1
  · unfold TXT
    rw [hc 0 (by decide), hc 1 (by decide), hc 79 (by decide), hf 16 (by decide), hf 17 (by decide)]
    exact r2
  · unfold BOOK
    rw [hc 47 (by decide), hc 48 (by decide), hc 49 (by decide), hc 50 (by decide), hc 92 (by decide), hc 93 (by decide), hc 94 (by decide), hf 1 (by decide), hf 40 (by decide)]
    exact r3
  · intro i hi
    rw [hc 46 (by decide), hc 96 (by decide)]
    refine ⟨(r4 i hi).1, ?_⟩
    rcases (r4 i hi).2 with z | ⟨z1, z2, z3⟩
    · exact Or.inl z
    · refine Or.inr ⟨z1, SI_eq (hc 2 (by decide)) (fun k hk => hc _ (by omega)) z2, ?_⟩
      rw [VC_eq (h := h) (h' := h') (b := 30 + 8 * i) (fun j _ => by rw [hc (30 + 8 * i) (by omega)]) (fun k h1 h2 => hc _ (by omega))]
      have : VI i h' = VI i h := by unfold VI; rw [hc 95 (by decide)]
      rw [this]
      exact z3
theorem REST.cls {h h' : HP} (hR : REST h) (f : FR 13 h h') : REST h' := REST_eq (fun c hc => f c (by omega)) (fun j _ => by rw [f 69 (by omega)]) hR
theorem REST.mod {h h' : HP} (hR : REST h) (f : FM h h') : REST h' := REST_eq (fun c hc => f.1 c (by omega)) (fun j hj => f.2 j (by omega) (by omega) (by omega)) hR
theorem VM_fr {h h' : HP} (f : FR 13 h h') : VM h' = VM h := VM_eq (by rw [f 69 (by omega)]) (by rw [f 69 (by omega)]) (by rw [f 69 (by omega)]) (fun i _ _ => f _ (by omega))
theorem MI_fr {h h' : HP} (f : FR 13 h h') (hI : MI h) : MI h' := by
  unfold MI
  rw [VM_fr f, f 69 (by omega)]
  exact hI
theorem VC_fm {h h' : HP} (f : FM h h') : VC 13 h' = VC 13 h := VC_eq (fun j _ => by rw [f.1 13 (by omega)]) (fun i _ _ => f.1 _ (by omega))
theorem SI_fm {h h' : HP} (f : FM h h') (hI : SI 13 h) : SI 13 h' := SI_eq (f.1 2 (by omega)) (fun i hi => f.1 _ (by omega)) hI
/-- both have done the same -/
theorem INV_step {h h1 h2 : HP} (hI : INV h) (a1 : SI 13 h1) (a2 : FR 13 h h1) (b1 : MI h2) (b2 : FM h1 h2) (e : eqv (VC 13 h1) (VM h2)) : INV h2 :=
  ⟨SI_fm b2 a1, b1, by rw [VC_fm b2]; exact e, (hI.2.2.2.cls a2).mod b2⟩
/-- what a call must come to, in the class first, then in the model -/
def OK2 (r1 : Int) (r2 : Int) (h : HP) : Prop := w32 r1 = w32 r2 ∧ INV h
