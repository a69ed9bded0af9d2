/-! ===== PURE: the class reads clauses ===== -/
abbrev cnD (D : HP) (x : Int) : Int := fs (fun q => if D 3 q = x then 1 else 0) 0 (D 0 2).toNat
def okE (D : HP) (c : Nat) : Prop := okSt (D 0 0) (D 0 1) ∧ 0 ≤ D 0 2 ∧ D 0 2 ≤ 4 * D 0 1 + c ∧ 0 ≤ D 0 3 ∧ D 0 3 ≤ 30 ∧ (∀ p : Nat, (p : Int) < D 0 1 → 0 ≤ D 1 p ∧ D 1 p ≤ 99) ∧ (∀ p : Nat, (p : Int) < D 0 2 → 0 ≤ D 2 p ∧ D 2 p < D 0 0 ∧ 0 ≤ D 3 p ∧ (D 3 p < D 0 1 ∨ (D 3 p = D 0 1 ∧ 0 < c))) ∧ (∀ x : Int, 0 ≤ x → x < D 0 1 → cnD D x ≤ 4) ∧ cnD D (D 0 1) ≤ c ∧ ∀ j, j < 30 → -1 ≤ D 4 j ∧ D 4 j ≤ 99
def DC (D h : HP) : Prop := h 7 0 = D 0 0 ∧ h 7 1 = D 0 1 ∧ h 7 2 = D 0 2 ∧ h 12 4 = D 0 3 ∧ (∀ j : Nat, (j : Int) < D 0 1 → h 8 j = D 1 j) ∧ (∀ j : Nat, (j : Int) < D 0 2 → h 9 j = D 2 j ∧ h 10 j = D 3 j) ∧ (∀ j, j < 30 → h 11 j = if D 4 j < 0 then 0 else D 4 j) ∧ h 12 5 = ((bs (fun j => decide (0 ≤ D 4 j)) 30 : Nat) : Int)
theorem DC.eq {D h h' : HP} (d : DC D h) (e7 : h' 7 = h 7) (e8 : h' 8 = h 8) (e9 : h' 9 = h 9) (e10 : h' 10 = h 10) (e11 : h' 11 = h 11) (e4 : h' 12 4 = h 12 4) (e5 : h' 12 5 = h 12 5) : DC D h' := by
  unfold DC; rw [e7, e8, e9, e10, e11, e4, e5]; exact d
theorem DC.at {D h : HP} {j : Nat} {v : Int} (d : DC D h) (hj : j ≠ 4) (hj2 : j ≠ 5) : DC D (hset h 12 j v) :=
  d.eq (hset_c (by decide)) (hset_c (by decide)) (hset_c (by decide)) (hset_c (by decide)) (hset_c (by decide)) (hset_rn (Ne.symm hj)) (hset_rn (Ne.symm hj2))
section AD
variable {D : HP} {k : Int}
theorem addD_0 {j : Nat} (h : j ≠ 2) : addD D k 0 j = D 0 j := by unfold addD; rw [hset_rn h, hset_c (by decide), hset_c (by decide)]
theorem addD_02 : addD D k 0 2 = D 0 2 + 1 := by unfold addD; rw [hset_rs]
theorem addD_2 {p : Nat} : addD D k 2 p = if p = (D 0 2).toNat then k else D 2 p := by
  unfold addD; rw [hset_c (by decide), hset_c (by decide), hset_at]; simp
theorem addD_3 {p : Nat} : addD D k 3 p = if p = (D 0 2).toNat then D 0 1 else D 3 p := by
  unfold addD; rw [hset_c (by decide), hset_at, hset_c (by decide)]; simp
theorem addD_c {i : Nat} (h : i = 1 ∨ i = 4) : addD D k i = D i := by
  unfold addD; rw [hset_c (by omega), hset_c (by omega), hset_c (by omega)]
theorem okE_add {c : Nat} (o : okE D c) (hk : 0 ≤ k) (hk2 : k < D 0 0) : okE (addD D k) (c + 1) := by
  obtain ⟨o1, o2, o3, o4, o5, o6, o7, o8, o9, o10⟩ := o
  have cn : ∀ x : Int, cnD (addD D k) x = cnD D x + (if D 0 1 = x then 1 else 0) := by
    intro x
    show fs _ 0 (addD D k 0 2).toNat = _
    rw [addD_02, show (D 0 2 + 1).toNat = (D 0 2).toNat + 1 from by omega, fs_succ, Nat.zero_add, addD_3, if_pos rfl]
    rw [fs_congr (g := fun q => if D 3 q = x then 1 else 0) (D 0 2).toNat 0 (fun q _ hq => by rw [addD_3, if_neg (show ¬ q = (D 0 2).toNat by omega)])]
  unfold okE
  rw [addD_0 (j := 0) (by decide), addD_0 (j := 1) (by decide), addD_0 (j := 3) (by decide), addD_02, addD_c (i := 1) (by decide), addD_c (i := 4) (by decide)]
  refine ⟨o1, by omega, by omega, o4, o5, o6, fun p hp => ?_, fun x x1 x2 => ?_, ?_, o10⟩
  · rw [addD_2, addD_3]
    by_cases q : p = (D 0 2).toNat
    · rw [if_pos q, if_pos q]
      have := o1.2.2.1
      exact ⟨hk, hk2, by omega, Or.inr ⟨rfl, by omega⟩⟩
    · rw [if_neg q, if_neg q]
      obtain ⟨q1, q2, q3, q4⟩ := o7 p (by omega)
      exact ⟨q1, q2, q3, by omega⟩
  · rw [cn, if_neg (by omega)]
    have := o8 x x1 x2
    omega
  · rw [cn, if_pos rfl]; omega
theorem DC_add {h : HP} {p : Nat} (d : DC D h) (hp : D 0 2 = p) : DC (addD D k) (hset (hset (hset h 9 p k) 10 p (D 0 1)) 7 2 ((p : Int) + 1)) := by
  obtain ⟨d1, d2, d3, d4, d5, d6, d7, d8⟩ := d
  have e : (D 0 2).toNat = p := by omega
  unfold DC
  rw [addD_0 (j := 0) (by decide), addD_0 (j := 1) (by decide), addD_0 (j := 3) (by decide), addD_02, addD_c (i := 1) (by decide), addD_c (i := 4) (by decide)]
  refine ⟨?_, ?_, ?_, ?_, fun j hj => ?_, fun j hj => ?_, fun j hj => ?_, ?_⟩
  · rw [hset_rn (by decide), hset_c (by decide), hset_c (by decide)]; exact d1
  · rw [hset_rn (by decide), hset_c (by decide), hset_c (by decide)]; exact d2
  · rw [hset_rs, hp]
  · rw [hset_c (by decide), hset_c (by decide), hset_c (by decide)]; exact d4
  · rw [hset_c (by decide), hset_c (by decide), hset_c (by decide)]; exact d5 j hj
  · rw [hset_c (by decide), hset_c (by decide), hset_c (show (10 : Nat) ≠ 7 by decide), addD_2, addD_3, e]
    by_cases q : j = p
    · subst q; rw [hset_rs, hset_rs, if_pos rfl, if_pos rfl]; exact ⟨rfl, rfl⟩
    · rw [hset_rn q, hset_rn q, if_neg q, if_neg q, hset_c (by decide)]
      exact d6 j (by omega)
  · rw [hset_c (by decide), hset_c (by decide), hset_c (by decide)]; exact d7 j hj
  · rw [hset_c (by decide), hset_c (by decide), hset_c (by decide)]; exact d8
end AD
section PCL
variable {T : Nat → Int} {n : Nat}
theorem hp_sp : ∀ (m : Nat) (D : HP) (i c : Nat), okE D c → c ≤ 4 → i ≤ n → (hpF T n m D i c).2.2.1 0 0 = D 0 0 ∧ (hpF T n m D i c).2.2.1 0 1 = D 0 1 ∧ (hpF T n m D i c).2.2.1 0 3 = D 0 3 ∧ ((hpF T n m D i c).1 = 0 → ∃ c', c' ≤ 4 ∧ okE (hpF T n m D i c).2.2.1 c') ∧ ((hpF T n m D i c).1 = 0 → i ≤ (hpF T n m D i c).2.2.2 ∧ (hpF T n m D i c).2.2.2 ≤ n) ∧ 0 ≤ (hpF T n m D i c).1 ∧ (hpF T n m D i c).1 ≤ 4
  | 0, D, i, c, o, hc, hi => ⟨rfl, rfl, rfl, fun _ => ⟨c, hc, o⟩, fun _ => ⟨Nat.le_refl _, hi⟩, by show (0 : Int) ≤ 0; decide, by show (0 : Int) ≤ 4; decide⟩
  | m + 1, D, i, c, o, hc, hi => by
    unfold hpF
    by_cases c1 : nA T n i < n ∧ isDg (T (nA T n i)) = true
    · rw [if_pos c1]
      by_cases c2 : rnK T n 0 (D 0 0 - 1) i = 0
      · rw [if_pos c2]
        by_cases c3 : c = 4
        · rw [if_pos c3]
          exact ⟨rfl, rfl, rfl, fun z => absurd z (show ¬ (4 : Int) = 0 by decide), fun z => absurd z (show ¬ (4 : Int) = 0 by decide), by show (0 : Int) ≤ 4; decide, by show (4 : Int) ≤ 4; decide⟩
        · rw [if_neg c3]
          obtain ⟨_, _, r3, r4⟩ := rnK_0 c2
          have g1 := nA_ge (T := T) (n := n) i
          have g2 := nJ_ge (T := T) (n := n) i
          obtain ⟨a1, a2, a3, a4, a5, a6, a7⟩ := hp_sp m (addD D (nV T n i)) (nJ T n i) (c + 1) (okE_add o r3 (by omega)) (by omega) (nJ_le hi)
          rw [addD_0 (by decide)] at a1 a2 a3
          refine ⟨a1, a2, a3, a4, fun z => ?_, a6, a7⟩
          have := a5 z
          omega
      · rw [if_neg c2]
        have := rnK_v (T := T) (n := n) 0 (D 0 0 - 1) i
        exact ⟨rfl, rfl, rfl, fun z => absurd z c2, fun z => absurd z c2, by show 0 ≤ rnK T n 0 (D 0 0 - 1) i; omega, by show rnK T n 0 (D 0 0 - 1) i ≤ 4; omega⟩
    · rw [if_neg c1]
      exact ⟨rfl, rfl, rfl, fun _ => ⟨c, hc, o⟩, fun _ => ⟨Nat.le_refl _, hi⟩, by show (0 : Int) ≤ 0; decide, by show (0 : Int) ≤ 4; decide⟩
theorem F_fail {Q : HP → Prop} {k' w' k w : Int} {h0 g : HP} (hk : 0 < k) (hk2 : k ≤ 4) (F : FB T n h0 k w g) (hq : Q g) : p2_fail k' w' g Q := by
  have f6 := F.2.2.1
  unfold p2_fail
  exact brN (fun q => by have := (weq0 ⟨by omega, by omega⟩).mp q; omega) hq
theorem F_hp {E : HP → Prop} {x y k w : Int} {f : Nat} {h0 g : HP} (hk : 0 < k) (hk2 : k ≤ 4) (F : FB T n h0 k w g) (hq : E g) : p2_readHouse_L28 x E (f + 1) g y := by
  have f6 := F.2.2.1
  unfold p2_readHouse_L28
  exact brS (fun _ => hq) (fun _ => brN (fun q => by have := (weq0 ⟨by omega, by omega⟩).mp q; omega) hq)
theorem C_hpL {E : HP → Prop} {x : Int} {h0 : HP} : ∀ (m f c i : Nat) (D h : HP), 6 ≤ m + c → 6 ≤ f + c → c ≤ 4 → RS T n i h → DC D h → okE D c → D 0 1 < 5 → h 12 6 = 0 → (∀ c, c < 7 ∨ 12 < c → h c = h0 c) → (∀ g, (hpF T n m D i c).1 = 0 → RS T n (nA T n (hpF T n m D i c).2.2.2) g → DC (hpF T n m D i c).2.2.1 g → g 12 6 = 0 → (∀ c, c < 7 ∨ 12 < c → g c = h0 c) → E g) → (∀ g, (hpF T n m D i c).1 ≠ 0 → FB T n h0 (hpF T n m D i c).1 ((hpF T n m D i c).2.1 : Nat) g → E g) → p2_readHouse_L28 x E f h c := by
  intro m
  induction m with
  | zero => intro f c i D h hm hf hc; omega
  | succ m ih =>
    intro f c i D h hm hf hc R d o h5 h6 fr ok bad
    obtain ⟨f, rfl⟩ : ∃ n', f = n' + 1 + 1 := ⟨f - 2, by omega⟩
    obtain ⟨d1, d2, d3, d4, d5, d6, d7, d8⟩ := id d
    obtain ⟨⟨s1, s2, s3, s4⟩, o2, o3, o4, o5, o6, o7, o8, o9, o10⟩ := id o
    have R' := R.at (nA_le (T := T) R.2.2.1)
    unfold p2_readHouse_L28
    refine brN (fun z => by have := (wlt ⟨by omega, by omega⟩ ⟨by omega, by omega⟩).mp z; omega) ?_
    refine brY ((weq0 ⟨by omega, by omega⟩).mpr h6) ?_
    unfold hpF at ok bad
    refine C_numF R (fun z1 z2 => brN (by decide) ?_) (fun z => brY (by decide) ?_)
    · rw [if_pos (⟨z1, z2⟩ : nA T n i < n ∧ isDg (T (nA T n i)) = true)] at ok bad
      have fr' : ∀ c, c < 7 ∨ 12 < c → hset h 12 3 ((nA T n i : Nat) : Int) c = h0 c := fun c hc => by rw [hset_c (by omega)]; exact fr c hc
      have h6' : hset h 12 3 ((nA T n i : Nat) : Int) 12 6 = 0 := by rw [hset_rn (by decide)]; exact h6
      rw [show hset h 12 3 ((nA T n i : Nat) : Int) 7 0 = D 0 0 from by rw [hset_c (by decide)]; exact d1]
      rw [show hset h 12 3 ((nA T n i : Nat) : Int) 12 3 = ((nA T n i : Nat) : Int) from hset_rs]
      refine C_num ⟨by decide, by decide⟩ ⟨by omega, by omega⟩ fr' R' h6' (fun k => ?_) (fun k g F => ?_)
      · rw [rnK_nA] at k
        rw [nV_nA, nJ_nA, hset_ov]
        rw [if_pos k] at ok bad
        refine jn_i ?_
        refine brQ (weq ⟨by omega, by omega⟩ ⟨by omega, by omega⟩) (fun z => C_fail ⟨by omega, by omega⟩ ?_) (fun z => ?_)
        · have c4 : c = 4 := by omega
          rw [if_pos c4] at bad
          have F := FB.new (k := 4) (w := ((nA T n i : Nat) : Int)) fr R (nJ_le (T := T) R.2.2.1) h6
          refine brN (fun q => by have e := F.2.2.1; have := (weq0 ⟨by omega, by omega⟩).mp q; omega) ?_
          exact F_hp (by decide) (by decide) F (bad _ (show ¬ (4 : Int) = 0 by decide) F)
        · have c4 : ¬ c = 4 := by omega
          rw [if_neg c4] at ok bad
          obtain ⟨_, _, r3, r4⟩ := rnK_0 k
          obtain ⟨p, hp⟩ := Int.eq_ofNat_of_zero_le o2
          show brc (w32 (hset h 12 3 ((nJ T n i : Nat) : Int) 12 6) = 0) _ _
          rw [show hset h 12 3 ((nJ T n i : Nat) : Int) 12 6 = 0 from by rw [hset_rn (by decide)]; exact h6]
          rw [show hset h 12 3 ((nJ T n i : Nat) : Int) 7 2 = (p : Int) from by rw [hset_c (by decide)]; omega]
          refine brY (by decide) (brN (fun q => by have := (wle ⟨by omega, by omega⟩ ⟨by omega, by omega⟩).mp q; omega) ?_)
          refine wr_n (by omega) (by decide) ?_
          rw [show hset (hset h 12 3 ((nJ T n i : Nat) : Int)) 9 p (nV T n i) 7 2 = (p : Int) from by rw [hset_c (by decide), hset_c (by decide)]; omega]
          rw [show hset (hset h 12 3 ((nJ T n i : Nat) : Int)) 9 p (nV T n i) 7 1 = D 0 1 from by rw [hset_c (by decide), hset_c (by decide)]; exact d2]
          refine wr_n (by omega) (by decide) ?_
          rw [show hset (hset (hset h 12 3 ((nJ T n i : Nat) : Int)) 9 p (nV T n i)) 10 p (D 0 1) 7 2 = (p : Int) from by rw [hset_c (by decide), hset_c (by decide), hset_c (by decide)]; omega]
          refine pf_i ?_
          refine ih (f + 1) (c + 1) (nJ T n i) (addD D (nV T n i)) _ (by omega) (by omega) (by omega) ((R.at (nJ_le (T := T) R.2.2.1)).eq ?_ ?_ ?_) (DC_add (d.at (by decide) (by decide)) hp) (okE_add o r3 (by omega)) (by rw [addD_0 (by decide)]; exact h5) ?_ (fun c hc => ?_) ok bad
          · rw [hset_c (by decide), hset_c (by decide), hset_c (by decide)]
          · rw [hset_c (by decide), hset_c (by decide), hset_c (by decide)]
          · rw [hset_c (by decide), hset_c (by decide), hset_c (by decide)]
          · rw [hset_c (by decide), hset_c (by decide), hset_c (by decide), hset_rn (by decide)]; exact h6
          · rw [hset_c (by omega), hset_c (by omega), hset_c (by omega), hset_c (by omega)]; exact fr c hc
      · rw [rnK_nA] at k F
        rw [nA_nA] at F
        rw [if_neg k] at bad
        have rv := rnK_v (T := T) (n := n) 0 (D 0 0 - 1) i
        have k0 : 0 < rnK T n 0 (D 0 0 - 1) i := by omega
        have k4 : rnK T n 0 (D 0 0 - 1) i ≤ 4 := by omega
        have fin : E g := bad g k F
        have e := F.2.2.1
        refine jn_i (brS (fun _ => F_fail k0 k4 F ?_) (fun _ => ?_)) <;> exact brN (fun q => by have := (weq0 ⟨by omega, by omega⟩).mp q; omega) (F_hp k0 k4 F fin)
    · rw [if_neg z] at ok
      exact ok _ rfl R' (d.at (by decide) (by decide)) (by rw [hset_rn (by decide)]; exact h6) (fun c hc => by rw [hset_c (by omega)]; exact fr c hc)
def OC (T : Nat → Int) (n : Nat) (h0 : HP) (R : Int × Nat × HP × Nat) (h : HP) : Prop := (∀ c, c < 7 ∨ 12 < c → h c = h0 c) ∧ (R.1 = 0 → RS T n R.2.2.2 h ∧ DC R.2.2.1 h ∧ h 12 6 = 0 ∧ okE R.2.2.1 0) ∧ (R.1 ≠ 0 → 0 < R.1 ∧ R.1 ≤ 4 ∧ FB T n h0 R.1 (R.2.1 : Nat) h)
theorem OC.bad {h0 g D : HP} {k : Int} {w p : Nat} (h1 : 0 < k) (h2 : k ≤ 4) (F : FB T n h0 k (w : Nat) g) : OC T n h0 (k, w, D, p) g := ⟨F.1, fun z => absurd (show k = 0 from z) (by omega), fun _ => ⟨h1, h2, F⟩⟩
theorem OC.okf {h0 g D : HP} {i : Nat} (z1 : nA T n i < n) (z2 : T (nA T n i) = 59) (f : ∀ c, c < 7 ∨ 12 < c → g c = h0 c) (R : RS T n (nA T n i + 1) g) (d : DC D g) (g6 : g 12 6 = 0) (o : okE D 0) : OC T n h0 (finF T n D i) g := by
  have e : finF T n D i = (0, 0, D, nA T n i + 1) := if_pos ⟨z1, z2⟩
  rw [e]
  exact ⟨f, fun _ => ⟨R, d, g6, o⟩, fun z => absurd rfl z⟩
theorem C_fin {Q X : HP → Prop} {h0 h D : HP} {i : Nat} (f : ∀ c, c < 7 ∨ 12 < c → h c = h0 c) (R : RS T n i h) (h6 : h 12 6 = 0) (hX : nA T n i < n → T (nA T n i) = 59 → X (hset h 12 3 (nA T n i + 1 : Nat))) (hq : ∀ g, OC T n h0 (finF T n D i) g → Q g) : p2_readEnd h fun r h4 => brc (w32 r = 0) (Q h4) (X h4) := by
  refine C_end f R h6 (fun z1 z2 => brN (by decide) (hX z1 z2)) (fun z g F => brY (by decide) (hq g ?_))
  have e : finF T n D i = (1, nA T n i, D, 0) := if_neg z
  rw [e]
  exact OC.bad (by decide) (by decide) F
theorem C_readSorts {Q : HP → Prop} {h0 h D : HP} {a e : Nat} (f : ∀ c, c < 7 ∨ 12 < c → h c = h0 c) (R : RS T n e h) (d : DC D h) (o : okE D 0) (h6 : h 12 6 = 0) (hq : ∀ g, OC T n h0 (clS T n D a e) g → Q g) : p2_readSorts a h Q := by
  obtain ⟨d1, d2, d3, d4, d5, d6, d7, d8⟩ := id d
  obtain ⟨⟨s1, s2, s3, s4⟩, o2, o3, o4, o5, o6, o7, o8, o9, o10⟩ := id o
  have jl := nJ_le (T := T) R.2.2.1
  unfold p2_readSorts
  rw [d1]
  refine brQ (wle0 ⟨by omega, by omega⟩) (fun z => ?_) (fun z => ?_)
  · have z' : ¬ 0 < D 0 0 := by omega
    have z0 : D 0 0 = 0 := by omega
    refine C_num ⟨by decide, by decide⟩ ⟨by decide, by decide⟩ f R h6 (fun k => ?_) (fun k g F => ?_)
    · have es : clS T n D a e = finF T n (hset D 0 0 (nV T n e)) (nJ T n e) := by unfold clS; rw [if_neg z', if_pos k]
      rw [es] at hq
      obtain ⟨_, _, r3, r4⟩ := rnK_0 k
      refine C_fin (fun c hc => by rw [hset_c (by omega)]; exact f c hc) (R.at jl) (by rw [hset_rn (by decide)]; exact h6) (fun z1 z2 => pf_i (hq _ ?_)) hq
      have nl : nA T n (nJ T n e) ≤ n := nA_le jl
      refine OC.okf z1 z2 (fun c hc => ?_) ((R.at (show nA T n (nJ T n e) + 1 ≤ n from by omega)).eq ?_ ?_ ?_) ?_ ?_ ?_
      · rw [hset_c (by omega), hset_c (by omega), hset_c (by omega)]; exact f c hc
      · rw [hset_ov, hset_c (by decide)]
      · rw [hset_ov, hset_c (by decide)]
      · rw [hset_ov, hset_c (by decide)]
      · unfold DC
        rw [hset_rs, hset_rn (show (1 : Nat) ≠ 0 by decide), hset_rn (show (2 : Nat) ≠ 0 by decide), hset_rs, hset_rn (show (1 : Nat) ≠ 0 by decide), hset_rn (show (2 : Nat) ≠ 0 by decide), hset_rn (show (3 : Nat) ≠ 0 by decide)]
        rw [hset_ov]
        refine ⟨rfl, ?_, ?_, ?_, fun j hj => ?_, fun j hj => ?_, fun j hj => ?_, ?_⟩
        · rw [hset_c (by decide)]; exact d2
        · rw [hset_c (by decide)]; exact d3
        · rw [hset_c (by decide), hset_rn (by decide)]; exact d4
        · rw [hset_c (by decide), hset_c (by decide), hset_c (by decide)]; exact d5 j hj
        · rw [hset_c (by decide), hset_c (by decide), hset_c (show (10 : Nat) ≠ 7 by decide), hset_c (show (10 : Nat) ≠ 12 by decide), hset_c (show (2 : Nat) ≠ 0 by decide), hset_c (show (3 : Nat) ≠ 0 by decide)]; exact d6 j hj
        · rw [hset_c (by decide), hset_c (by decide), hset_c (show (4 : Nat) ≠ 0 by decide)]; exact d7 j hj
        · rw [hset_c (show (12 : Nat) ≠ 7 by decide), hset_rn (by decide), hset_c (show (4 : Nat) ≠ 0 by decide)]; exact d8
      · rw [hset_c (by decide), hset_rn (by decide), hset_rn (by decide)]; exact h6
      · unfold okE cnD
        rw [hset_rs, hset_rn (show (1 : Nat) ≠ 0 by decide), hset_rn (show (2 : Nat) ≠ 0 by decide), hset_rn (show (3 : Nat) ≠ 0 by decide), hset_c (show (1 : Nat) ≠ 0 by decide), hset_c (show (2 : Nat) ≠ 0 by decide), hset_c (show (3 : Nat) ≠ 0 by decide), hset_c (show (4 : Nat) ≠ 0 by decide)]
        exact ⟨⟨by omega, by omega, s3, s4⟩, o2, o3, o4, o5, o6, fun p hp => by have := o7 p hp; omega, o8, o9, o10⟩
    · have es : clS T n D a e = (rnK T n 1 6 e, nA T n e, D, 0) := by unfold clS; rw [if_neg z', if_neg k]
      rw [es] at hq
      have rv := rnK_v (T := T) (n := n) 1 6 e
      exact F_readEnd (by omega) (by omega) F (fun g' F' => brY (by decide) (hq g' (OC.bad (by omega) (by omega) F')))
  · have es : clS T n D a e = (3, a, D, 0) := by unfold clS; rw [if_pos (by omega)]
    rw [es] at hq
    have := R.self
    rw [← this]
    exact C_fail ⟨by omega, by omega⟩ (hq _ (OC.bad (by decide) (by decide) (FB.new f R R.2.2.1 h6)))
end PCL
