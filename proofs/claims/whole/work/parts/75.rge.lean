/-! ===== PURE: rings, the class: what it searches in ===== -/
def rgA (V : HP) (W : Nat → Int) (n N : Nat) (g : HP) : Prop := SI 13 g ∧ VC 13 g = V ∧ g 6 = W ∧ g 2 1 = n ∧ g 13 1 = N ∧ g 54 1 = n
theorem bV_srt {V : HP} {W : Nat → Int} {x : Int} {p p' q q' : Nat} (h1 : V 1 p = V 1 p') (h2 : V 1 q = V 1 q') : bV V W x p q = bV V W x p' q' := by
  unfold bV; rw [h1, h2]
theorem mx_i {a b : Int} (ha : can a) (hb : can b) : mx a b = if a < b then b else a := by
  unfold mx
  by_cases c : a < b
  · rw [if_pos c, if_pos ((wlt ha hb).mpr c)]
  · rw [if_neg c, if_neg (fun z => c ((wlt ha hb).mp z))]
theorem ia_bit (a k : Nat) (ha : a < 2147483648) (hk : k < 31) : w32 (ia (a : Int) (sl 1 (k : Int))) = 0 ↔ a.testBit k = false := by
  have h2 := two_le hk
  rw [sl_n k hk, ia_n a _ ha h2]
  have hl : a &&& 2 ^ k ≤ 2 ^ k := Nat.and_le_right
  rw [w_id (by omega) (by omega)]
  constructor
  · intro z
    have z' : a &&& 2 ^ k = 0 := by omega
    have tt : (a &&& 2 ^ k).testBit k = a.testBit k := by rw [Nat.testBit_and, Nat.testBit_two_pow_self, Bool.and_true]
    rw [z', Nat.zero_testBit] at tt
    exact tt.symm
  · intro z
    have : a &&& 2 ^ k = 0 := Nat.eq_of_testBit_eq (fun i => by
      rw [Nat.testBit_and, Nat.testBit_two_pow, Nat.zero_testBit]
      by_cases c : k = i
      · subst c; rw [z]; rfl
      · simp [c])
    rw [this]; rfl
section RE1
variable {V : HP} {W : Nat → Int} {n N : Nat}
theorem rgA.fr {g g' : HP} (A : rgA V W n N g) (f : ∀ c, c < 54 ∨ 61 < c → g' c = g c) (f1 : g' 54 1 = g 54 1) : rgA V W n N g' := by
  obtain ⟨b1, b2, b3, b4, b5, b6⟩ := A
  refine ⟨SI_eq (f 2 (by decide)) (fun i hi => f _ (by omega)) b1, ?_, by rw [f 6 (by decide)]; exact b3, by rw [f 2 (by decide)]; exact b4, by rw [f 13 (by decide)]; exact b5, by rw [f1]; exact b6⟩
  rw [← b2]
  exact VC_eq (fun j _ => by rw [f 13 (by decide)]) (fun i _ _ => f _ (by omega))
theorem C_listChoices {Q : HP → Prop} {g : HP} {x : Nat} (A : rgA V W n N g) (n5 : n ≤ 5) (hN : N ≤ 32) (h4 : rk V x N ≤ 4) (hx : x < n) (hq : ∀ g' : HP, (∀ c, c ≠ 59 → c ≠ 60 → g' c = g c) → (∀ j, j < x * 4 ∨ x * 4 + 4 ≤ j → g' 59 j = g 59 j) → (∀ y, y ≠ x → g' 60 y = g 60 y) → g' 60 x = ((rc V x N : Nat) : Int) → (∀ p : Nat, p < N → isC V x p → g' 59 (x * 4 + rc V x p) = p) → Q g') : p3_listChoices x g Q := by
  obtain ⟨b1, b2, b3, b4, b5, b6⟩ := id A
  have hst := b1.1
  unfold okSt at hst
  have L : ∀ (m fu p sm : Nat) (g1 : HP), m < fu → p + m = N → (∀ c, c ≠ 59 → g1 c = g c) → (∀ j, j < x * 4 ∨ x * 4 + 4 ≤ j → g1 59 j = g 59 j) → sm < 64 → (∀ k : Nat, sm.testBit k = true ↔ ∃ q, q < p ∧ V 2 q = x ∧ V 1 q = k) → (∀ q : Nat, q < p → isC V x q → g1 59 (x * 4 + rc V x q) = q) → p3_listChoices_L7 x (fun (h4 : HP) (y5 : Int) => wr h4 60 5 x y5 fun h6 => Q h6) fu g1 ((rc V x p : Nat) : Int) (sm : Int) p := by
    intro m
    induction m with
    | zero =>
      intro fu p sm g1 hfu hp f1 f2 s1 s2 hC
      obtain ⟨fu, rfl⟩ : ∃ n', fu = n' + 1 := ⟨fu - 1, by omega⟩
      obtain rfl : p = N := by omega
      unfold p3_listChoices_L7
      rw [f1 13 (by decide), b5]
      refine brY (Int.le_refl _) ?_
      refine wr_n (by omega) (by decide) ?_
      refine hq _ (fun c h1 h2 => by rw [hset_c h2]; exact f1 c h1) (fun j hj => by rw [hset_c (by decide)]; exact f2 j hj) (fun y hy => by rw [hset_rn hy, f1 60 (by decide)]) hset_rs (fun q h1 h2 => by rw [hset_c (by decide)]; exact hC q h1 h2)
    | succ m ih =>
      intro fu p sm g1 hfu hp f1 f2 s1 s2 hC
      obtain ⟨fu, rfl⟩ : ∃ n', fu = n' + 1 := ⟨fu - 1, by omega⟩
      obtain ⟨q1, q2, q3, q4, q5, _⟩ := b1.part (p := p) (by omega)
      have v1 : g 14 p = V 1 p := by rw [← b2]; rfl
      have v2 : g 15 p = V 2 p := by rw [← b2]; rfl
      have q2' : 0 ≤ V 1 p := by rw [← v1]; exact q2
      have q3' : V 1 p < 6 := by rw [← v1]; have : g 14 p < g 2 0 := q3; omega
      have q4' : -1 ≤ V 2 p := by rw [← v2]; exact q4
      have q5' : V 2 p < 5 := by rw [← v2]; have : g 15 p < g 2 1 := q5; omega
      obtain ⟨k, hk⟩ := Int.eq_ofNat_of_zero_le q2'
      have hk6 : k < 6 := by omega
      unfold p3_listChoices_L7
      rw [f1 13 (by decide), b5]
      refine brN (fun z => by have := (wle ⟨by omega, by omega⟩ ⟨by omega, by omega⟩).mp z; omega) ?_
      refine rd_n (by omega) (by decide) (rd_n (by omega) (by decide) ?_)
      rw [f1 14 (by decide), f1 15 (by decide), v1, v2, hk]
      have bit : isC V x p ↔ V 2 p = x ∧ sm.testBit k = false := by
        constructor
        · intro c
          refine ⟨c.1, ?_⟩
          cases hb : sm.testBit k with
          | false => rfl
          | true =>
            obtain ⟨q, a1, a2, a3⟩ := (s2 k).mp hb
            exact absurd (a3.trans hk.symm) (c.2 q a1 a2)
        · rintro ⟨c1, c2⟩
          refine ⟨c1, fun q a1 a2 a3 => ?_⟩
          have := (s2 k).mpr ⟨q, a1, a2, a3.trans hk⟩
          rw [c2] at this
          cases this
      refine brQ (weq ⟨by omega, by omega⟩ ⟨by omega, by omega⟩) (fun z => ?_) (fun z => ?_)
      · refine brQ (ia_bit sm k (by omega) (by omega)) (fun w => ?_) (fun w => ?_)
        · have ci : isC V x p := bit.mpr ⟨z, w⟩
          have r1 := rc_lt (V := V) (x := (x : Int)) (N := N) ci (by omega)
          have r2 := rc_rk (V := V) (x := (x : Int)) N
          refine brN (fun z => by have := (wle ⟨by omega, by omega⟩ ⟨by omega, by omega⟩).mp z; omega) ?_
          refine wr_i (by omega) (by omega) (by decide) ?_
          rw [show ((x : Int) * 4 + ((rc V x p : Nat) : Int)).toNat = x * 4 + rc V x p from by omega, sl_n k (by omega), io_n _ _ (by omega) (two_le (by omega))]
          have nx := ih fu (p + 1) (sm ||| 2 ^ k) (hset g1 59 (x * 4 + rc V x p) p) (by omega) (by omega) (fun c hc => by rw [hset_c hc]; exact f1 c hc) (fun j hj => by rw [hset_rn (by omega)]; exact f2 j hj) (Nat.or_lt_two_pow (n := 6) s1 (Nat.pow_lt_pow_right (by decide) hk6)) (fun k' => ?_) (fun q hq' hc => ?_)
          · rw [rc_y ci] at nx
            exact nx
          · rw [Nat.testBit_or, Bool.or_eq_true, s2 k', Nat.testBit_two_pow]
            constructor
            · rintro (⟨q, a1, a2, a3⟩ | e)
              · exact ⟨q, by omega, a2, a3⟩
              · have e' : k = k' := by simpa using e
                exact ⟨p, by omega, z, by rw [hk, e']⟩
            · rintro ⟨q, a1, a2, a3⟩
              by_cases d : q = p
              · subst d; right; rw [hk] at a3; simp; omega
              · exact Or.inl ⟨q, by omega, a2, a3⟩
          · by_cases d : q = p
            · subst d; rw [hset_rs]
            · have := rc_le (V := V) (x := (x : Int)) (show q + 1 ≤ p by omega)
              rw [rc_y hc] at this
              rw [hset_rn (by omega)]
              exact hC q (by omega) hc
        · have cn : ¬ isC V x p := fun c => w (bit.mp c).2
          have wt : sm.testBit k = true := by simpa using w
          have nx := ih fu (p + 1) sm g1 (by omega) (by omega) f1 f2 s1 (fun k' => ?_) (fun q hq' hc => ?_)
          · rw [rc_n cn] at nx
            exact nx
          · rw [s2 k']
            constructor
            · rintro ⟨q, a1, a2, a3⟩; exact ⟨q, by omega, a2, a3⟩
            · rintro ⟨q, a1, a2, a3⟩
              by_cases d : q = p
              · subst d
                rw [hk] at a3
                have : k = k' := by omega
                subst this
                exact (s2 k).mp wt
              · exact ⟨q, by omega, a2, a3⟩
          · by_cases d : q = p
            · subst d; exact absurd hc cn
            · exact hC q (by omega) hc
      · have cn : ¬ isC V x p := fun c => z c.1
        have nx := ih fu (p + 1) sm g1 (by omega) (by omega) f1 f2 s1 (fun k' => ?_) (fun q hq' hc => ?_)
        · rw [rc_n cn] at nx
          exact nx
        · rw [s2 k']
          constructor
          · rintro ⟨q, a1, a2, a3⟩; exact ⟨q, by omega, a2, a3⟩
          · rintro ⟨q, a1, a2, a3⟩
            by_cases d : q = p
            · subst d; exact absurd a2 z
            · exact ⟨q, by omega, a2, a3⟩
        · by_cases d : q = p
          · subst d; exact absurd hc cn
          · exact hC q (by omega) hc
  unfold p3_listChoices
  exact L N FUEL 0 0 g (by unfold FUEL; omega) (by omega) (fun _ _ => rfl) (fun _ _ => rfl) (by decide) (fun k => ⟨fun z => by simp at z, fun ⟨q, a1, _⟩ => by omega⟩) (fun q hq => by omega)
def chD (V : HP) (N : Nat) (x : Nat) (g : HP) : Prop := g 60 x = ((rc V x N : Nat) : Int) ∧ ∀ p : Nat, p < N → isC V x p → g 59 (x * 4 + rc V x p) = p
theorem C_mostBetter {Q : Int → Prop} {g : HP} {x y : Nat} (A : rgA V W n N g) (hW : okW W) (n5 : n ≤ 5) (hN : N ≤ 32) (h4 : ∀ y : Nat, y < n → rk V y N ≤ 4) (hx : x < n) (hy : y < n) (dx : chD V N x g) (dy : chD V N y g) (hq : ∀ r, 0 ≤ r → r ≤ 99 → (∀ p q : Nat, p < N → q < N → V 2 p = x → V 2 q = y → bV V W x p q ≤ r) → Q r) : p3_mostBetter x y g Q := by
  obtain ⟨b1, b2, b3, b4, b5, b6⟩ := id A
  have rx := Nat.le_trans (rc_rk (V := V) (x := (x : Int)) N) (h4 x hx)
  have ry := Nat.le_trans (rc_rk (V := V) (x := (y : Int)) N) (h4 y hy)
  have hn : nP V = N := by
    rw [← b2]
    show (g 13 1).toNat = N
    rw [b5]; rfl
  have hV := b1.2.1
  rw [b2] at hV
  have bd : ∀ p q : Nat, p < N → q < N → -99 ≤ bV V W x p q ∧ bV V W x p q ≤ 99 := fun p q hp hq => bV_bd hW b1.1 hV (by omega) (by omega) (by omega) (by omega)
  have L2 : ∀ (E : Int → Prop) (p i : Nat), p < N → isC V x p → rc V x p = i → ∀ (m fu j : Nat) (acc : Int), m < fu → j + m = rc V y N → 0 ≤ acc → acc ≤ 99 → (∀ q, q < N → isC V y q → rc V y q < j → bV V W x p q ≤ acc) → (∀ r, acc ≤ r → r ≤ 99 → (∀ q, q < N → isC V y q → bV V W x p q ≤ r) → E r) → p3_mostBetter_L19 x y i g E fu acc j := by
    intro E p i hp ci ei m
    induction m with
    | zero =>
      intro fu j acc hfu hj a0 a9 hA hE
      obtain ⟨fu, rfl⟩ : ∃ n', fu = n' + 1 := ⟨fu - 1, by omega⟩
      unfold p3_mostBetter_L19
      refine rd_n (by omega) (by decide) ?_
      rw [dy.1]
      refine brY ((wle ⟨by omega, by omega⟩ ⟨by omega, by omega⟩).mpr (by omega)) ?_
      exact hE acc (Int.le_refl _) a9 (fun q h1 h2 => hA q h1 h2 (by have := rc_lt h2 h1; omega))
    | succ m ih =>
      intro fu j acc hfu hj a0 a9 hA hE
      obtain ⟨fu, rfl⟩ : ∃ n', fu = n' + 1 := ⟨fu - 1, by omega⟩
      obtain ⟨q, c1, c2, c3⟩ := rc_ex (V := V) (x := (y : Int)) N j (by omega)
      have ri := rc_lt (V := V) (x := (x : Int)) (N := N) ci hp
      unfold p3_mostBetter_L19
      refine rd_n (by omega) (by decide) ?_
      rw [dy.1]
      refine brN (fun z => by have := (wle ⟨by omega, by omega⟩ ⟨by omega, by omega⟩).mp z; omega) ?_
      refine rd_i (by omega) (by omega) (by decide) (rd_i (by omega) (by omega) (by decide) ?_)
      rw [show ((x : Int) * 4 + (i : Int)).toNat = x * 4 + rc V x p from by omega, show ((y : Int) * 4 + (j : Int)).toNat = y * 4 + rc V y q from by omega, dx.2 p hp ci, dy.2 q c1 c2]
      refine C_betterBy b1 (by omega) (by omega) (by omega) ?_
      rw [b2, b3]
      have bq := bd p q hp c1
      rw [mx_i ⟨by omega, by omega⟩ ⟨by omega, by omega⟩]
      refine ih fu (j + 1) _ (by omega) (by omega) (by split <;> omega) (by split <;> omega) (fun q' h1 h2 h3 => ?_) (fun r h1 h2 h3 => hE r (by split at h1 <;> omega) h2 h3)
      by_cases d : rc V y q' < j
      · have := hA q' h1 h2 d
        split <;> omega
      · have e : q' = q := by
          rcases Nat.lt_trichotomy q' q with l | l | l
          · have := rc_le (V := V) (x := (y : Int)) (show q' + 1 ≤ q by omega)
            rw [rc_y h2] at this; omega
          · exact l
          · have := rc_le (V := V) (x := (y : Int)) (show q + 1 ≤ q' by omega)
            rw [rc_y c2] at this; omega
        rw [e]
        split <;> omega
  have L1 : ∀ (m fu i : Nat) (acc : Int), m < fu → i + m = rc V x N → 0 ≤ acc → acc ≤ 99 → (∀ p q, p < N → q < N → isC V x p → isC V y q → rc V x p < i → bV V W x p q ≤ acc) → p3_mostBetter_L5 x y g Q fu acc i := by
    intro m
    induction m with
    | zero =>
      intro fu i acc hfu hi a0 a9 hA
      obtain ⟨fu, rfl⟩ : ∃ n', fu = n' + 1 := ⟨fu - 1, by omega⟩
      unfold p3_mostBetter_L5
      refine rd_n (by omega) (by decide) ?_
      rw [dx.1]
      refine brY ((wle ⟨by omega, by omega⟩ ⟨by omega, by omega⟩).mpr (by omega)) ?_
      refine hq acc a0 a9 (fun p q h1 h2 h3 h5 => ?_)
      obtain ⟨p', p1, p2, p3⟩ := isC_ex (V := V) (x := (x : Int)) (p + 1) p (by omega) h3
      obtain ⟨q', q1, q2, q3⟩ := isC_ex (V := V) (x := (y : Int)) (q + 1) q (by omega) h5
      rw [bV_srt (W := W) (x := (x : Int)) p3.symm q3.symm]
      exact hA p' q' (by omega) (by omega) p2 q2 (by have := rc_lt (N := N) p2 (by omega); omega)
    | succ m ih =>
      intro fu i acc hfu hi a0 a9 hA
      obtain ⟨fu, rfl⟩ : ∃ n', fu = n' + 1 := ⟨fu - 1, by omega⟩
      obtain ⟨p, c1, c2, c3⟩ := rc_ex (V := V) (x := (x : Int)) N i (by omega)
      unfold p3_mostBetter_L5
      refine rd_n (by omega) (by decide) ?_
      rw [dx.1]
      refine brN (fun z => by have := (wle ⟨by omega, by omega⟩ ⟨by omega, by omega⟩).mp z; omega) ?_
      refine L2 _ p i c1 c2 c3 (rc V y N) FUEL 0 acc (by unfold FUEL; omega) (by omega) a0 a9 (fun q _ _ h => by omega) (fun r h1 h2 h3 => ?_)
      refine ih fu (i + 1) r (by omega) (by omega) (by omega) h2 (fun p' q' k1 k2 k3 k4 k5 => ?_)
      by_cases d : rc V x p' < i
      · have := hA p' q' k1 k2 k3 k4 d
        omega
      · have e : p' = p := by
          rcases Nat.lt_trichotomy p' p with l | l | l
          · have := rc_le (V := V) (x := (x : Int)) (show p' + 1 ≤ p by omega)
            rw [rc_y k3] at this; omega
          · exact l
          · have := rc_le (V := V) (x := (x : Int)) (show p + 1 ≤ p' by omega)
            rw [rc_y c2] at this; omega
        rw [e]
        exact h3 q' k2 k4
  unfold p3_mostBetter
  exact L1 (rc V x N) FUEL 0 0 (by unfold FUEL; omega) (by omega) (by decide) (by decide) (fun _ _ _ _ _ _ h => by omega)
noncomputable def rgAns (V : HP) (W : Nat → Int) (n N : Nat) : rgS := rgO V W n N n 0 (fun _ => -1) (0, (fun _ => -1), (fun _ => -1))
theorem C_findBest {Q : HP → Prop} {h : HP} (hI : SI 13 h) (hW : okW (h 6)) (hn : h 2 1 = n) (hN : h 13 1 = N) (hq : ∀ g, SCR h g → rgL n g (rgAns (VC 13 h) (h 6) n N) → Q g) : p3_findBest h Q := by
  have hst := hI.1
  unfold okSt at hst
  have n5 : n ≤ 5 := by omega
  have N32 : N ≤ 32 := by have : h 13 1 ≤ 32 := hI.2.1.2.1; omega
  have h4 : ∀ y : Nat, y < n → rk (VC 13 h) y N ≤ 4 := fun y hy => by
    have h1 := hI.2.1.2.2.2.1 y (by omega) (by omega)
    have h2 := rk_fs (V := VC 13 h) (x := (y : Int)) N
    have h3 : nP (VC 13 h) = N := by show (h 13 1).toNat = N; rw [hN]; rfl
    unfold cO at h1
    rw [h3, ← h2] at h1
    omega
  unfold p3_findBest
  refine pf_i (pf_i ?_)
  generalize hg0 : hset (hset h 54 1 (h 2 1)) 54 2 0 = g0
  have z1 : ∀ c, c ≠ 54 → g0 c = h c := fun c hc => by rw [← hg0, hset_c hc, hset_c hc]
  have z2 : g0 54 1 = n := by rw [← hg0, hset_rn (by decide), hset_rs, hn]
  have z3 : g0 54 2 = 0 := by rw [← hg0, hset_rs]
  have A0 : rgA (VC 13 h) (h 6) n N g0 := by
    refine ⟨SI_eq (z1 2 (by decide)) (fun i hi => z1 _ (by omega)) hI, VC_eq (fun j _ => by rw [z1 13 (by decide)]) (fun i _ _ => z1 _ (by omega)), z1 6 (by decide), by rw [z1 2 (by decide)]; exact hn, by rw [z1 13 (by decide)]; exact hN, z2⟩
  clear hg0
  have fin : ∀ g : HP, (∀ c, c < 54 ∨ 61 < c → g c = h c) → SCR h g := fun g f => ⟨fun c hc => f c (by omega), fun j _ => by rw [f 95 (by omega)], fun j _ => by rw [f 69 (by omega)]⟩
  have L1 : ∀ (E : HP → Prop), (∀ g : HP, (∀ c, c < 54 ∨ 61 < c → g c = h c) → g 54 1 = n → g 54 2 = 0 → (∀ x : Nat, x < n → chD (VC 13 h) N x g ∧ g 57 x = x ∧ g 58 x = -1) → E g) → ∀ (m fu x : Nat) (g : HP), m < fu → x + m = n → (∀ c, c < 54 ∨ 61 < c → g c = h c) → g 54 1 = n → g 54 2 = 0 → (∀ y : Nat, y < x → chD (VC 13 h) N y g ∧ g 57 y = y ∧ g 58 y = -1) → p3_findBest_L21 E fu g x := by
    intro E hE m
    induction m with
    | zero =>
      intro fu x g hfu hx f1 f2 f3 f4
      obtain ⟨fu, rfl⟩ : ∃ n', fu = n' + 1 := ⟨fu - 1, by omega⟩
      obtain rfl : x = n := by omega
      unfold p3_findBest_L21
      rw [f2]
      exact brY (Int.le_refl _) (hE g f1 f2 f3 f4)
    | succ m ih =>
      intro fu x g hfu hx f1 f2 f3 f4
      obtain ⟨fu, rfl⟩ : ∃ n', fu = n' + 1 := ⟨fu - 1, by omega⟩
      unfold p3_findBest_L21
      rw [f2]
      refine brN (fun z => by have := (wle ⟨by omega, by omega⟩ ⟨by omega, by omega⟩).mp z; omega) ?_
      refine wr_n (by omega) (by decide) (wr_n (by omega) (by decide) ?_)
      have A1 : rgA (VC 13 h) (h 6) n N (hset (hset g 57 x x) 58 x (-1)) := A0.fr (fun c hc => by rw [hset_c (by omega), hset_c (by omega), f1 c hc, z1 c (by omega)]) (by rw [hset_c (by decide), hset_c (by decide), f2, z2])
      refine C_listChoices A1 n5 N32 (h4 x (by omega)) (by omega) (fun g' e1 e2 e3 e4 e5 => ?_)
      refine ih fu (x + 1) g' (by omega) (by omega) (fun c hc => by rw [e1 c (by omega) (by omega), hset_c (by omega), hset_c (by omega), f1 c hc]) (by rw [e1 54 (by decide) (by decide), hset_c (by decide), hset_c (by decide), f2]) (by rw [e1 54 (by decide) (by decide), hset_c (by decide), hset_c (by decide), f3]) (fun y hy => ?_)
      rw [e1 57 (by decide) (by decide), e1 58 (by decide) (by decide), hset_c (show (57 : Nat) ≠ 58 by decide)]
      by_cases d : y = x
      · subst d
        exact ⟨⟨e4, e5⟩, hset_rs, hset_rs⟩
      · obtain ⟨k1, k2, k3⟩ := f4 y (by omega)
        refine ⟨⟨?_, fun p hp hc => ?_⟩, by rw [hset_rn d]; exact k2, by rw [hset_rn d, hset_c (by decide)]; exact k3⟩
        · rw [e3 y d, hset_c (by decide), hset_c (by decide)]; exact k1.1
        · have := rc_lt (N := N) hc hp
          have := Nat.le_trans (rc_rk (V := VC 13 h) (x := (y : Int)) N) (h4 y (by omega))
          rw [e2 _ (by omega), hset_c (by decide), hset_c (by decide)]; exact k1.2 p hp hc
  refine L1 _ (fun g1 f1 f2 f3 f4 => ?_) n FUEL 0 g0 (by unfold FUEL; omega) (by omega) (fun c hc => z1 c (by omega)) z2 z3 (fun y hy => by omega)
  have A1 : rgA (VC 13 h) (h 6) n N g1 := A0.fr (fun c hc => by rw [f1 c hc, z1 c (by omega)]) (by rw [f2, z2])
  have K : ∀ (x y : Nat), ∀ mo : Nat → Nat → Int, True := fun _ _ _ => trivial
  have L3 : ∀ (E : HP → Prop) (x : Nat), x < n → ∀ (m fu y : Nat) (g : HP), m < fu → y + m = n → (∀ c, c ≠ 61 → g c = g1 c) → (∀ (g' : HP) (mo : Nat → Int), (∀ c, c ≠ 61 → g' c = g1 c) → (∀ j, j < x * 5 ∨ x * 5 + 5 ≤ j → g' 61 j = g 61 j) → (∀ k, k < y → g' 61 (x * 5 + k) = g 61 (x * 5 + k)) → (∀ k, y ≤ k → k < n → g' 61 (x * 5 + k) = mo k ∧ 0 ≤ mo k ∧ mo k ≤ 99 ∧ ∀ p q : Nat, p < N → q < N → VC 13 h 2 p = x → VC 13 h 2 q = k → bV (VC 13 h) (h 6) x p q ≤ mo k) → E g') → p3_findBest_L66 x E fu g y := by
    intro E x hx m
    induction m with
    | zero =>
      intro fu y g hfu hy e1 hE
      obtain ⟨fu, rfl⟩ : ∃ n', fu = n' + 1 := ⟨fu - 1, by omega⟩
      unfold p3_findBest_L66
      rw [e1 54 (by decide), f2]
      refine brY ((wle ⟨by omega, by omega⟩ ⟨by omega, by omega⟩).mpr (by omega)) ?_
      exact hE g (fun _ => 0) e1 (fun _ _ => rfl) (fun _ _ => rfl) (fun k h1 h2 => by omega)
    | succ m ih =>
      intro fu y g hfu hy e1 hE
      obtain ⟨fu, rfl⟩ : ∃ n', fu = n' + 1 := ⟨fu - 1, by omega⟩
      unfold p3_findBest_L66
      rw [e1 54 (by decide), f2]
      refine brN (fun z => by have := (wle ⟨by omega, by omega⟩ ⟨by omega, by omega⟩).mp z; omega) ?_
      have A2 : rgA (VC 13 h) (h 6) n N g := A1.fr (fun c hc => e1 c (by omega)) (by rw [e1 54 (by decide)])
      have D2 : ∀ z : Nat, z < n → chD (VC 13 h) N z g := fun z hz => by
        have := (f4 z hz).1
        unfold chD
        rw [e1 59 (by decide), e1 60 (by decide)]
        exact this
      refine C_mostBetter A2 hW n5 N32 h4 hx (by omega) (D2 x hx) (D2 y (by omega)) (fun r r1 r2 r3 => ?_)
      refine wr_i (by omega) (by omega) (by decide) ?_
      rw [show ((x : Int) * 5 + (y : Int)).toNat = x * 5 + y from by omega]
      refine ih fu (y + 1) _ (by omega) (by omega) (fun c hc => by rw [hset_c hc]; exact e1 c hc) (fun g' mo k1 k2 k3 k4 => hE g' (fun k => if k = y then r else mo k) k1 (fun j hj => by rw [k2 j hj, hset_rn (by omega)]) (fun k hk => by rw [k3 k (by omega), hset_rn (by omega)]) (fun k h1 h2 => ?_))
      by_cases d : k = y
      · subst d
        rw [if_pos rfl, k3 k (by omega), hset_rs]
        exact ⟨rfl, r1, r2, r3⟩
      · rw [if_neg d]
        exact k4 k (by omega) h2
  have L2 : ∀ (E : HP → Prop), (∀ (g : HP) (mo : Nat → Nat → Int), (∀ c, c ≠ 61 → g c = g1 c) → rgM (VC 13 h) (h 6) n N mo → (∀ x y : Nat, x < n → y < n → g 61 (x * 5 + y) = mo x y) → E g) → ∀ (m fu x : Nat) (g : HP) (mo : Nat → Nat → Int), m < fu → x + m = n → (∀ c, c ≠ 61 → g c = g1 c) → (∀ a b : Nat, a < x → b < n → g 61 (a * 5 + b) = mo a b ∧ 0 ≤ mo a b ∧ mo a b ≤ 99 ∧ ∀ p q : Nat, p < N → q < N → VC 13 h 2 p = a → VC 13 h 2 q = b → bV (VC 13 h) (h 6) a p q ≤ mo a b) → p3_findBest_L56 E fu g x := by
    intro E hE m
    induction m with
    | zero =>
      intro fu x g mo hfu hx e1 e2
      obtain ⟨fu, rfl⟩ : ∃ n', fu = n' + 1 := ⟨fu - 1, by omega⟩
      obtain rfl : x = n := by omega
      unfold p3_findBest_L56
      rw [e1 54 (by decide), f2]
      exact brY (Int.le_refl _) (hE g mo e1 (fun a b h1 h2 => (e2 a b h1 h2).2) (fun a b h1 h2 => (e2 a b h1 h2).1))
    | succ m ih =>
      intro fu x g mo hfu hx e1 e2
      obtain ⟨fu, rfl⟩ : ∃ n', fu = n' + 1 := ⟨fu - 1, by omega⟩
      unfold p3_findBest_L56
      rw [e1 54 (by decide), f2]
      refine brN (fun z => by have := (wle ⟨by omega, by omega⟩ ⟨by omega, by omega⟩).mp z; omega) ?_
      refine L3 _ x (by omega) n FUEL 0 g (by unfold FUEL; omega) (by omega) e1 (fun g' m1 k1 k2 k3 k4 => ?_)
      refine ih fu (x + 1) g' (fun a b => if a = x then m1 b else mo a b) (by omega) (by omega) k1 (fun a b h1 h2 => ?_)
      by_cases d : a = x
      · subst d
        rw [if_pos rfl]
        exact k4 b (by omega) h2
      · rw [if_neg d, k2 _ (by omega)]
        exact e2 a b (by omega) h2
  refine L2 _ (fun g2 mo e1 hM e2 => ?_) n FUEL 0 g1 (fun _ _ => 0) (by unfold FUEL; omega) (by omega) (fun _ _ => rfl) (fun a b h1 _ => by omega)
  have A2 : rgA (VC 13 h) (h 6) n N g2 := A1.fr (fun c hc => e1 c (by omega)) (by rw [e1 54 (by decide)])
  obtain ⟨b1, b2, b3, b4, b5, b6⟩ := A2
  have B2 : rgB (VC 13 h) (h 6) n N mo g2 := ⟨b1, b2, b3, b4, b5, b6, fun x hx => by rw [e1 60 (by decide)]; exact (f4 x hx).1.1, fun x p hx hp hc => by rw [e1 59 (by decide)]; exact (f4 x hx).1.2 p hp hc, e2⟩
  refine C_giver hM hW n5 N32 h4 n 8 0 0 (fun _ => -1) (0, (fun _ => -1), (fun _ => -1)) g2 _ (by omega) (by omega) B2 (fun i hi => by omega) ⟨fun i hi => by omega, fun _ _ => rfl, fun i k hi => by omega, by decide, fun k => ⟨fun z => by simp at z, fun ⟨i, hi, _⟩ => by omega⟩⟩ ⟨by rw [e1 54 (by decide)]; exact f3, by decide, by decide, fun i hi => by rw [e1 58 (by decide)]; exact (f4 i hi).2.2, fun i hi => ⟨i, hi, by rw [e1 57 (by decide)]; exact (f4 i hi).2.1, by rw [e1 58 (by decide)]; exact (f4 i hi).2.2⟩⟩ (fun g' k1 _ k3 => hq g' (fin g' (fun c hc => ?_)) k3)
  rw [k1.1 c (by omega), e1 c (by omega), f1 c hc]
end RE1
