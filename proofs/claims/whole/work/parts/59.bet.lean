/-! ===== PURE: better by a swap ===== -/
def bV (V : HP) (W : Nat → Int) (x : Int) (own oth : Nat) : Int := if V 1 own = V 1 oth then 0 else gV V W x (V 1 oth) - lV V W x (V 1 own)
/-- the sorts of a house without one part, and with one more -/
def sB (V : HP) (x : Int) (out k : Nat) : Nat → Nat
  | 0 => 2 ^ k
  | p + 1 => sB V x out k p ||| (if V 2 p = x ∧ p ≠ out then 2 ^ (V 1 p).toNat else 0)
theorem sB_test (V : HP) (x : Int) (out k j : Nat) : ∀ p, (sB V x out k p).testBit j = true ↔ j = k ∨ ∃ q, q < p ∧ q ≠ out ∧ V 2 q = x ∧ (V 1 q).toNat = j
  | 0 => by
    show (2 ^ k).testBit j = true ↔ _
    rw [Nat.testBit_two_pow]
    constructor
    · intro h; exact Or.inl (by have : k = j := by simpa using h
                                exact this.symm)
    · rintro (h | ⟨q, h1, _⟩)
      · simp [h]
      · omega
  | p + 1 => by
    show (sB V x out k p ||| (if V 2 p = x ∧ p ≠ out then 2 ^ (V 1 p).toNat else 0)).testBit j = true ↔ _
    rw [Nat.testBit_or, Bool.or_eq_true, sB_test V x out k j p]
    constructor
    · rintro ((h | ⟨q, h1, h2⟩) | hq)
      · exact Or.inl h
      · exact Or.inr ⟨q, by omega, h2⟩
      · by_cases c : V 2 p = x ∧ p ≠ out
        · rw [if_pos c, Nat.testBit_two_pow] at hq
          exact Or.inr ⟨p, by omega, c.2, c.1, by simpa using hq⟩
        · rw [if_neg c] at hq; simp at hq
    · rintro (h | ⟨q, h1, h2, h3, h4⟩)
      · exact Or.inl (Or.inl h)
      · by_cases c : q = p
        · subst c
          right
          rw [if_pos ⟨h3, h2⟩, Nat.testBit_two_pow]; simpa using h4
        · exact Or.inl (Or.inr ⟨q, by omega, h2, h3, h4⟩)
theorem cS_less {V : HP} {x : Int} {out : Nat} (ho : out < nP V) (hx : V 2 out = x) (k : Int) : (∃ q, q < nP V ∧ q ≠ out ∧ V 2 q = x ∧ V 1 q = k) ↔ (if V 1 out = k then 1 else 0) < cS V x k := by
  have h1 := fs_one (f := fun q => if V 2 q = x ∧ V 1 q = k then (1 : Int) else 0) (g := fun q => if q ≠ out ∧ V 2 q = x ∧ V 1 q = k then (1 : Int) else 0) 0 (nP V) out (by omega) (by omega) (fun q hq => by simp [hq])
  have h2 := fs_pos (f := fun q => if q ≠ out ∧ V 2 q = x ∧ V 1 q = k then (1 : Int) else 0) 0 (nP V) (fun q _ _ => by by_cases c : q ≠ out ∧ V 2 q = x ∧ V 1 q = k <;> simp [c])
  have e : cS V x k = fs (fun q => if q ≠ out ∧ V 2 q = x ∧ V 1 q = k then (1 : Int) else 0) 0 (nP V) + (if V 1 out = k then 1 else 0) := by
    show fs (fun q => if V 2 q = x ∧ V 1 q = k then (1 : Int) else 0) 0 (nP V) = _
    rw [h1]
    simp [hx]
  rw [e]
  constructor
  · rintro ⟨q, a, b, c, d⟩
    have := h2.mpr ⟨q, by omega, by omega, by simp [b, c, d]⟩
    omega
  · intro h
    obtain ⟨q, a, b, c⟩ := h2.mp (by omega)
    by_cases d : q ≠ out ∧ V 2 q = x ∧ V 1 q = k
    · exact ⟨q, by omega, d⟩
    · rw [if_neg d] at c; omega
theorem bet_sum {V : HP} {W : Nat → Int} {s : Nat} {x : Int} {out inp : Nat} (ho : out < nP V) (hx : V 2 out = x) (k1 : 0 ≤ V 1 inp) (k1' : V 1 inp < s) (k2 : 0 ≤ V 1 out) (k2' : V 1 out < s) (hall : ∀ q, q < nP V → 0 ≤ V 1 q) : fs (fun k => if (sB V x out (V 1 inp).toNat (nP V)).testBit k = true then W (x * 6 + k).toNat else 0) 0 s - weV V W s x = bV V W x out inp := by
  obtain ⟨a, ea⟩ := Int.eq_ofNat_of_zero_le k1
  obtain ⟨b, eb⟩ := Int.eq_ofNat_of_zero_le k2
  have tb : ∀ k : Nat, (sB V x out (V 1 inp).toNat (nP V)).testBit k = true ↔ k = a ∨ (if b = k then 1 else 0) < cS V x k := by
    intro k
    rw [sB_test, ea, show ((a : Int)).toNat = a from rfl]
    have := cS_less ho hx (k : Int)
    rw [eb] at this
    rw [show (if b = k then (1 : Int) else 0) = (if (b : Int) = (k : Int) then 1 else 0) from by
      by_cases c : b = k
      · rw [if_pos c, if_pos (by omega)]
      · rw [if_neg c, if_neg (by omega)], ← this]
    constructor
    · rintro (h | ⟨q, h1, h2, h3, h4⟩)
      · exact Or.inl h
      · exact Or.inr ⟨q, h1, h2, h3, by have := hall q h1; omega⟩
    · rintro (h | ⟨q, h1, h2, h3, h4⟩)
      · exact Or.inl h
      · exact Or.inr ⟨q, h1, h2, h3, by rw [h4]; rfl⟩
  have cb : 0 < cS V x b := cS_pos ho hx eb
  have F : ∀ k : Nat, (if (sB V x out (V 1 inp).toNat (nP V)).testBit k = true then W (x * 6 + k).toNat else 0) = (if k = a ∨ (if b = k then (1 : Int) else 0) < cS V x k then W (x * 6 + k).toNat else 0) := by
    intro k
    by_cases c : k = a ∨ (if b = k then (1 : Int) else 0) < cS V x k
    · rw [if_pos c, if_pos ((tb k).mpr c)]
    · rw [if_neg c, if_neg (fun z => c ((tb k).mp z))]
  rw [fs_congr (g := fun k => if k = a ∨ (if b = k then (1 : Int) else 0) < cS V x k then W (x * 6 + k).toNat else 0) s 0 (fun k _ _ => F k)]
  have na := cS_nn V x a
  unfold bV weV
  rw [ea, eb]
  by_cases c : b = a
  · subst c
    rw [if_pos rfl]
    rw [fs_congr (g := fun k => if 0 < cS V x k then W (x * 6 + k).toNat else 0) s 0 (fun k _ _ => ?_)]
    · omega
    · by_cases d : k = b
      · subst d; rw [if_pos (Or.inl rfl), if_pos cb]
      · by_cases d2 : 0 < cS V x k
        · rw [if_pos (Or.inr (by rw [if_neg (fun z => d z.symm)]; exact d2)), if_pos d2]
        · rw [if_neg (by rw [if_neg (fun z => d z.symm)]; omega), if_neg d2]
  · rw [if_neg (by omega)]
    have s1 := fs_one (f := fun k : Nat => if k = a ∨ (if b = k then (1 : Int) else 0) < cS V x k then W (x * 6 + k).toNat else 0) (g := fun k : Nat => if k = b then (if 0 < cS V x k then W (x * 6 + k).toNat else 0) else if k = a ∨ (if b = k then (1 : Int) else 0) < cS V x k then W (x * 6 + k).toNat else 0) 0 s b (by omega) (by omega) (fun q hq => by simp [hq])
    have s2 := fs_one (f := fun k : Nat => if k = b then (if 0 < cS V x k then W (x * 6 + k).toNat else 0) else if k = a ∨ (if b = k then (1 : Int) else 0) < cS V x k then W (x * 6 + k).toNat else 0) (g := fun k : Nat => if 0 < cS V x k then W (x * 6 + k).toNat else 0) 0 s a (by omega) (by omega) (fun q hq => by
      by_cases d : q = b
      · rw [if_pos d]
      · rw [if_neg d]
        by_cases d2 : 0 < cS V x q
        · rw [if_pos (Or.inr (by rw [if_neg (fun z => d z.symm)]; exact d2)), if_pos d2]
        · rw [if_neg (by rw [if_neg (fun z => d z.symm)]; omega), if_neg d2])
    rw [s1, s2]
    simp only [if_pos rfl, if_true]
    rw [if_neg (show ¬ a = b by omega)]
    unfold gV lV
    have v1 : (if b = a ∨ (1 : Int) < cS V x b then W (x * 6 + b).toNat else 0) = (if (1 : Int) < cS V x b then W (x * 6 + b).toNat else 0) := by
      by_cases d : (1 : Int) < cS V x b
      · rw [if_pos d, if_pos (Or.inr d)]
      · rw [if_neg d, if_neg (by omega)]
    have v2 : (if a = a ∨ (if b = a then (1 : Int) else 0) < cS V x a then W (x * 6 + a).toNat else 0) = W (x * 6 + a).toNat := if_pos (Or.inl rfl)
    by_cases d : cS V x b = 1 <;> by_cases d2 : cS V x a = 0
    · simp [d, d2, show ¬ b = a from c]; omega
    · have : 0 < cS V x a := by omega
      simp [d, d2, this, show ¬ b = a from c]; try omega
    · have : 1 < cS V x b := by omega
      simp [d, d2, this, cb, show ¬ b = a from c]; try omega
    · have : 1 < cS V x b := by omega
      have : 0 < cS V x a := by omega
      simp [*, show ¬ b = a from c]
theorem bV_bd {V : HP} {W : Nat → Int} (hW : okW W) {s n x : Int} {own oth : Nat} (hs : okSt s n) (hV : wfV s n V) (hx : 0 ≤ x) (hx2 : x < n) (h1 : own < nP V) (h2 : oth < nP V) : -99 ≤ bV V W x own oth ∧ bV V W x own oth ≤ 99 := by
  have p1 := hV.2.2.1 own (lt_nP h1)
  have p2 := hV.2.2.1 oth (lt_nP h2)
  unfold okP at p1 p2
  have g := gV_bd (V := V) hW hs hx hx2 p2.1 p2.2.1
  have l := lV_bd (V := V) hW hs hx hx2 p1.1 p1.2.1
  unfold bV
  split <;> omega
theorem eqv.be {V V' : HP} {W W' : Nat → Int} (e : eqv V V') {s n : Int} (hs : okSt s n) (hV : wfV s n V) (hw : ∀ j, j < 30 → W' j = W j) {x : Int} (hx : 0 ≤ x) (hx2 : x < n) {own oth : Nat} (h1 : own < nP V) (h2 : oth < nP V) : bV V' W' x own oth = bV V W x own oth := by
  have p1 := hV.2.2.1 own (lt_nP h1)
  have p2 := hV.2.2.1 oth (lt_nP h2)
  unfold okP at p1 p2
  unfold okSt at hs
  unfold bV
  rw [← e.2.1 1 own (by decide) (by decide) (lt_nP h1), ← e.2.1 1 oth (by decide) (by decide) (lt_nP h2), e.ga x _ (hw _ (by omega)), e.lo x _ (hw _ (by omega))]
section BET
variable {h : HP} {Q : Int → Prop}
theorem C_betterBy {b : Nat} (hI : SI b h) {x own oth : Nat} (hx : (x : Int) < h 2 1) (h1 : (own : Int) < h b 1) (h2 : (oth : Int) < h b 1) (hq : Q (bV (VC b h) (h 6) x own oth)) : p5_betterBy b x own oth h Q := by
  obtain ⟨a1, a2, a3, a4⟩ := id hI.1
  obtain ⟨q1, q2, q3, _⟩ := hI.part h1
  obtain ⟨r1, r2, r3, _⟩ := hI.part h2
  obtain ⟨k, ek⟩ := Int.eq_ofNat_of_zero_le q2
  obtain ⟨j, ej⟩ := Int.eq_ofNat_of_zero_le r2
  have ek' : VC b h 1 own = k := ek
  have ej' : VC b h 1 oth = j := ej
  unfold bV at hq
  rw [ek', ej'] at hq
  unfold p5_betterBy
  refine rd_n q1 (by decide) (rd_n r1 (by decide) ?_)
  rw [ek, ej]
  refine brQ (weq ⟨by omega, by omega⟩ ⟨by omega, by omega⟩) (fun z => by rw [if_pos z] at hq; exact hq) (fun z => ?_)
  rw [if_neg z] at hq
  refine rd_n r1 (by decide) ?_
  rw [ej]
  refine C_gainOf hI hx (by omega) (rd_n q1 (by decide) ?_)
  rw [ek]
  exact C_lossOf hI hx (by omega) hq
theorem M_betterBy (hI : MI h) {x inp out : Nat} (hx : (x : Int) < h 69 1) (h1 : (inp : Int) < h 69 7) (h2 : (out : Int) < h 69 7) (ho : h 75 out = x) (hq : Q (bV (VM h) (h 71) x out inp)) : p8_betterBy x inp out h Q := by
  have a1 : 0 ≤ h 69 7 := hI.2.1
  have a2 : h 69 7 ≤ 32 := hI.2.2.1
  obtain ⟨s1, s2, s3, s4⟩ := id hI.1
  obtain ⟨q1, q2, q3, _⟩ := hI.part h1
  obtain ⟨r1, r2, r3, _⟩ := hI.part h2
  have hnp : nP (VM h) = (h 69 7).toNat := rfl
  have hlt : ∀ p, p ≤ nP (VM h) → sB (VM h) x out (h 74 inp).toNat p < 2 ^ 6 := by
    intro p hp
    induction p with
    | zero => exact Nat.pow_lt_pow_right (by decide) (by omega)
    | succ p ih =>
      refine Nat.or_lt_two_pow (ih (by omega)) ?_
      have hn := nP_c hI.2.1
      have := hI.2.2.2.1 p (by omega)
      unfold okP at this
      split
      · exact Nat.pow_lt_pow_right (by decide) (by omega)
      · decide
  have e64 : (2 : Nat) ^ 6 = 64 := by decide
  have L : ∀ (E : Int → Prop), E ((sB (VM h) x out (h 74 inp).toNat (nP (VM h)) : Nat) : Int) → ∀ (m f p : Nat), m < f → (p : Int) + m = h 69 7 → p8_betterBy_L13 x out h E f ((sB (VM h) x out (h 74 inp).toNat p : Nat) : Int) p := by
    intro E hE m
    induction m with
    | zero =>
      intro f p hf hk
      obtain ⟨f, rfl⟩ : ∃ n', f = n' + 1 := ⟨f - 1, by omega⟩
      unfold p8_betterBy_L13
      refine brY ((wle ⟨by omega, by omega⟩ ⟨by omega, by omega⟩).mpr (by omega)) ?_
      rw [show p = nP (VM h) from by omega]
      exact hE
    | succ m ih =>
      intro f p hf hk
      obtain ⟨f, rfl⟩ : ∃ n', f = n' + 1 := ⟨f - 1, by omega⟩
      unfold p8_betterBy_L13
      refine brN (fun z => by have := (wle ⟨by omega, by omega⟩ ⟨by omega, by omega⟩).mp z; omega) ?_
      obtain ⟨t1, t2, t3, t4, t5, t6⟩ := hI.part (p := p) (by omega)
      have hl := hlt p (by omega)
      rw [e64] at hl
      have nx := ih f (p + 1) (by omega) (by omega)
      have zero : ¬ (h 75 p = x ∧ p ≠ out) → p8_betterBy_L13 x out h E f (io ((sB (VM h) x out (h 74 inp).toNat p : Nat) : Int) 0) (p + 1) := fun c => by
        rw [show sB (VM h) x out (h 74 inp).toNat (p + 1) = sB (VM h) x out (h 74 inp).toNat p ||| 0 from by
          show sB (VM h) x out (h 74 inp).toNat p ||| (if h 75 p = x ∧ p ≠ out then 2 ^ (h 74 p).toNat else 0) = _
          rw [if_neg c]] at nx
        rw [show (0 : Int) = ((0 : Nat) : Int) from rfl, io_n _ _ (by omega) (by omega)]
        exact nx
      refine rd_n t1 (by decide) ?_
      refine brQ (weq ⟨by omega, by omega⟩ ⟨by omega, by omega⟩) (fun z => ?_) (fun z => zero (fun c => z c.1))
      refine brQ (weq ⟨by omega, by omega⟩ ⟨by omega, by omega⟩) (fun w => zero (fun c => c.2 (by omega))) (fun w => ?_)
      refine rd_n t1 (by decide) ?_
      have e1 : h 74 p = (((h 74 p).toNat : Nat) : Int) := by omega
      have h2k := two_le (k := (h 74 p).toNat) (by omega)
      rw [show sB (VM h) x out (h 74 inp).toNat (p + 1) = sB (VM h) x out (h 74 inp).toNat p ||| 2 ^ (h 74 p).toNat from by
        show sB (VM h) x out (h 74 inp).toNat p ||| (if h 75 p = x ∧ p ≠ out then 2 ^ (h 74 p).toNat else 0) = _
        rw [if_pos ⟨z, by omega⟩]] at nx
      rw [e1, sl_n _ (by omega), io_n _ _ (by omega) h2k]
      exact nx
  unfold p8_betterBy
  refine rd_n q1 (by decide) ?_
  have e1 : h 74 inp = (((h 74 inp).toNat : Nat) : Int) := by omega
  rw [e1, sl_n _ (by omega)]
  refine L _ ?_ (h 69 7).toNat FUEL 0 (by unfold FUEL; omega) (by omega)
  have hl := hlt (nP (VM h)) (by omega)
  refine M_worthOf hI.1 hx (by omega) (M_wealthOf hI hx ?_)
  have bs := bet_sum (V := VM h) (W := h 71) (s := (h 69 0).toNat) (x := x) (out := out) (inp := inp) (by omega) ho q2 (by show h 74 inp < _; omega) r2 (by show h 74 out < _; omega) (fun q hq => by
    have := hI.2.2.2.1 q (lt_nP hq)
    unfold okP at this
    exact this.1)
  have bs' : fs (fun k => if (sB (VM h) x out (h 74 inp).toNat (nP (VM h))).testBit k = true then h 71 ((x : Int) * 6 + k).toNat else 0) 0 (h 69 0).toNat - weV (VM h) (h 71) (h 69 0).toNat x = bV (VM h) (h 71) x out inp := bs
  rw [bs']
  exact hq
end BET
