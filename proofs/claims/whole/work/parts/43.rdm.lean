/-! ===== PURE: what the model reads ===== -/
def MI (h : HP) : Prop := okSt (h 69 0) (h 69 1) ∧ wfV (h 69 0) (h 69 1) (VM h)
/-- the sorts among the first p parts of a house -/
def sO (V : HP) (x : Int) : Nat → Nat
  | 0 => 0
  | p + 1 => sO V x p ||| (if V 2 p = x then 2 ^ (V 1 p).toNat else 0)
theorem sO_test (V : HP) (x : Int) (k : Nat) : ∀ p, (sO V x p).testBit k = true ↔ ∃ q, q < p ∧ V 2 q = x ∧ (V 1 q).toNat = k
  | 0 => by simp [sO]
  | p + 1 => by
    show (sO V x p ||| (if V 2 p = x then 2 ^ (V 1 p).toNat else 0)).testBit k = true ↔ _
    rw [Nat.testBit_or, Bool.or_eq_true, sO_test V x k p]
    constructor
    · rintro (⟨q, h1, h2, h3⟩ | hq)
      · exact ⟨q, by omega, h2, h3⟩
      · by_cases c : V 2 p = x
        · rw [if_pos c, Nat.testBit_two_pow] at hq
          exact ⟨p, by omega, c, by simpa using hq⟩
        · rw [if_neg c] at hq; simp at hq
    · rintro ⟨q, h1, h2, h3⟩
      by_cases c : q = p
      · subst c
        right
        rw [if_pos h2, Nat.testBit_two_pow]; simpa using h3
      · exact Or.inl ⟨q, by omega, h2, h3⟩
theorem sO_bs {s n : Int} {V : HP} (hs : okSt s n) (hV : wfV s n V) (x : Int) : sO V x (nP V) = bs (fun k => decide (0 < cS V x k)) s.toNat := by
  apply Nat.eq_of_testBit_eq
  intro k
  rw [bs_test]
  have hn := nP_c hV.1
  have key : (sO V x (nP V)).testBit k = true ↔ (k < s.toNat ∧ 0 < cS V x k) := by
    rw [sO_test]
    constructor
    · rintro ⟨q, h1, h2, h3⟩
      have := hV.2.2.1 q (by omega)
      unfold okP at this
      refine ⟨by omega, cS_pos h1 h2 (by omega)⟩
    · rintro ⟨h1, h2⟩
      obtain ⟨q, a, b, c⟩ := cS_ex h2
      exact ⟨q, a, b, by omega⟩
  cases hb : (sO V x (nP V)).testBit k with
  | true =>
    have := key.mp hb
    simp [this.1, this.2]
  | false =>
    have : ¬ (k < s.toNat ∧ 0 < cS V x k) := fun z => by rw [key.mpr z] at hb; cases hb
    by_cases c : k < s.toNat
    · have : ¬ 0 < cS V x k := fun z => this ⟨c, z⟩
      simp [this]
    · simp [c]
section MR
variable {h : HP} {Q : Int → Prop}
theorem MI.part (hI : MI h) {p : Nat} (hp : (p : Int) < h 69 7) : p < 32 ∧ 0 ≤ h 74 p ∧ h 74 p < h 69 0 ∧ -1 ≤ h 75 p ∧ h 75 p < h 69 1 ∧ -1 ≤ h 76 p ∧ h 76 p < h 69 1 ∧ (0 ≤ h 75 p → h 76 p = -1) ∧ 0 ≤ h 77 p ∧ h 77 p ≤ 20 := by
  have a2 : h 69 7 ≤ 32 := hI.2.2.1
  have := hI.2.2.2.1 p hp
  exact ⟨by omega, this⟩
theorem M_isHouse {x : Int} (hx : can x) (hs : okSt (h 69 0) (h 69 1)) (h1 : 0 ≤ x → x < h 69 1 → Q 1) (h0 : ¬ (0 ≤ x ∧ x < h 69 1) → Q 0) : p8_isHouse x h Q := by
  obtain ⟨a1, a2, a3, a4⟩ := hs
  have := hx.1; have := hx.2
  unfold p8_isHouse
  rw [w_id hx.1 hx.2, w_id (show -2147483648 ≤ h 69 1 - 1 by omega) (by omega)]
  refine in_i ⟨by omega, by omega⟩ ⟨by omega, by omega⟩ ⟨by omega, by omega⟩ (fun q1 q2 => ⟨Or.inr rfl, h1 q1 (by omega)⟩) (fun q => ⟨Or.inl rfl, h0 (by omega)⟩)
theorem M_isSort {x : Int} (hx : can x) (hs : okSt (h 69 0) (h 69 1)) (h1 : 0 ≤ x → x < h 69 0 → Q 1) (h0 : ¬ (0 ≤ x ∧ x < h 69 0) → Q 0) : p8_isSort x h Q := by
  obtain ⟨a1, a2, a3, a4⟩ := hs
  have := hx.1; have := hx.2
  unfold p8_isSort
  rw [w_id hx.1 hx.2, w_id (show -2147483648 ≤ h 69 0 - 1 by omega) (by omega)]
  refine in_i ⟨by omega, by omega⟩ ⟨by omega, by omega⟩ ⟨by omega, by omega⟩ (fun q1 q2 => ⟨Or.inr rfl, h1 q1 (by omega)⟩) (fun q => ⟨Or.inl rfl, h0 (by omega)⟩)
theorem M_isPart {x : Int} (hx : can x) (hI : MI h) (h1 : 0 ≤ x → x < h 69 7 → Q 1) (h0 : ¬ (0 ≤ x ∧ x < h 69 7) → Q 0) : p8_isPart x h Q := by
  have a1 : 0 ≤ h 69 7 := hI.2.1
  have a2 : h 69 7 ≤ 32 := hI.2.2.1
  have := hx.1; have := hx.2
  unfold p8_isPart
  rw [w_id hx.1 hx.2, w_id (show -2147483648 ≤ h 69 7 - 1 by omega) (by omega)]
  refine in_i ⟨by omega, by omega⟩ ⟨by omega, by omega⟩ ⟨by omega, by omega⟩ (fun q1 q2 => ⟨Or.inr rfl, h1 q1 (by omega)⟩) (fun q => ⟨Or.inl rfl, h0 (by omega)⟩)
theorem M_countOf (hI : MI h) {x : Int} (hx : can x) (hq : Q (cO (VM h) x)) : p8_countOf x h Q := by
  have a1 : 0 ≤ h 69 7 := hI.2.1
  have a2 : h 69 7 ≤ 32 := hI.2.2.1
  obtain ⟨s1, s2, s3, s4⟩ := hI.1
  have L : ∀ (m n p : Nat) (acc : Int), m < n → (p : Int) + m = h 69 7 → Q (acc + fs (fun q => if h 75 q = x then 1 else 0) p m) → p8_countOf_L4 x h Q n acc p := by
    intro m
    induction m with
    | zero =>
      intro n p acc hn hk hq
      obtain ⟨n, rfl⟩ : ∃ n', n = n' + 1 := ⟨n - 1, by omega⟩
      unfold p8_countOf_L4
      refine brY ((wle ⟨by omega, by omega⟩ ⟨by omega, by omega⟩).mpr (by omega)) ?_
      rw [show acc + fs _ p 0 = acc from by show acc + 0 = acc; omega] at hq
      exact hq
    | succ m ih =>
      intro n p acc hn hk hq
      obtain ⟨n, rfl⟩ : ∃ n', n = n' + 1 := ⟨n - 1, by omega⟩
      unfold p8_countOf_L4
      refine brN (fun z => by have := (wle ⟨by omega, by omega⟩ ⟨by omega, by omega⟩).mp z; omega) ?_
      have e : fs (fun q => if h 75 q = x then (1 : Int) else 0) p (m + 1) = (if h 75 p = x then (1 : Int) else 0) + fs (fun q => if h 75 q = x then (1 : Int) else 0) (p + 1) m := rfl
      rw [e] at hq
      obtain ⟨q1, q2, q3, q4, q5, q6, q7, q8⟩ := hI.part (p := p) (by omega)
      refine rd_n q1 (by decide) ?_
      refine brQ (weq ⟨by omega, by omega⟩ hx) (fun z => ?_) (fun z => ?_)
      · refine ih n (p + 1) _ (by omega) (by omega) ?_
        rw [if_pos z] at hq
        rw [Int.add_assoc]; exact hq
      · refine ih n (p + 1) _ (by omega) (by omega) ?_
        rw [if_neg z] at hq
        rw [Int.add_assoc]; exact hq
  unfold p8_countOf
  refine L (h 69 7).toNat FUEL 0 0 (by unfold FUEL; omega) (by omega) ?_
  rw [Int.zero_add]
  exact hq
theorem M_sortsOf (hI : MI h) {x : Int} (hx : can x) (hq : Q ((bs (fun k => decide (0 < cS (VM h) x k)) (h 69 0).toNat : Nat) : Int)) : p8_sortsOf x h Q := by
  have a1 : 0 ≤ h 69 7 := hI.2.1
  have a2 : h 69 7 ≤ 32 := hI.2.2.1
  obtain ⟨s1, s2, s3, s4⟩ := hI.1
  have hlt : ∀ p, p ≤ nP (VM h) → sO (VM h) x p < 2 ^ 6 := by
    intro p hp
    induction p with
    | zero => exact (by decide : 0 < 2 ^ 6)
    | succ p ih =>
      refine Nat.or_lt_two_pow (ih (by omega)) ?_
      have hn := nP_c hI.2.1
      have := hI.2.2.2.1 p (by omega)
      unfold okP at this
      split
      · exact Nat.pow_lt_pow_right (by decide) (by omega)
      · decide
  rw [← sO_bs hI.1 hI.2] at hq
  have hnp : nP (VM h) = (h 69 7).toNat := rfl
  have L : ∀ (m n p : Nat), m < n → (p : Int) + m = h 69 7 → p8_sortsOf_L4 x h Q n ((sO (VM h) x p : Nat) : Int) p := by
    intro m
    induction m with
    | zero =>
      intro n p hn hk
      obtain ⟨n, rfl⟩ : ∃ n', n = n' + 1 := ⟨n - 1, by omega⟩
      unfold p8_sortsOf_L4
      refine brY ((wle ⟨by omega, by omega⟩ ⟨by omega, by omega⟩).mpr (by omega)) ?_
      rw [show p = nP (VM h) from by omega]
      exact hq
    | succ m ih =>
      intro n p hn hk
      obtain ⟨n, rfl⟩ : ∃ n', n = n' + 1 := ⟨n - 1, by omega⟩
      unfold p8_sortsOf_L4
      refine brN (fun z => by have := (wle ⟨by omega, by omega⟩ ⟨by omega, by omega⟩).mp z; omega) ?_
      obtain ⟨q1, q2, q3, q4, q5, q6, q7, q8⟩ := hI.part (p := p) (by omega)
      have hl := hlt p (by omega)
      rw [show (2 : Nat) ^ 6 = 64 from by decide] at hl
      have := ih n (p + 1) (by omega) (by omega)
      refine rd_n q1 (by decide) ?_
      refine brQ (weq ⟨by omega, by omega⟩ hx) (fun z => ?_) (fun z => ?_)
      · refine rd_n q1 (by decide) ?_
        have e1 : h 74 p = (((h 74 p).toNat : Nat) : Int) := by omega
        have h2k := two_le (k := (h 74 p).toNat) (by omega)
        rw [show sO (VM h) x (p + 1) = sO (VM h) x p ||| 2 ^ (h 74 p).toNat from by
          show sO (VM h) x p ||| (if h 75 p = x then 2 ^ (h 74 p).toNat else 0) = _
          rw [if_pos z]] at this
        rw [e1, sl_n _ (by omega), io_n _ _ (by omega) h2k]
        exact this
      · rw [show sO (VM h) x (p + 1) = sO (VM h) x p ||| 0 from by
          show sO (VM h) x p ||| (if h 75 p = x then 2 ^ (h 74 p).toNat else 0) = _
          rw [if_neg z]] at this
        rw [show (0 : Int) = ((0 : Nat) : Int) from rfl, io_n _ _ (by omega) (by omega)]
        exact this
  unfold p8_sortsOf
  exact L (h 69 7).toNat FUEL 0 (by unfold FUEL; omega) (by omega)
theorem M_has {set k : Nat} (h1 : set < 2147483648) (h2 : k < 31) (hy : set.testBit k = true → Q 1) (hn : set.testBit k = false → Q 0) : p8_has set k h Q := by
  unfold p8_has
  rw [bit_n set k h1 h2]
  cases hb : set.testBit k with
  | true => exact brY (by simp) (hy hb)
  | false => exact brN (by simp; decide) (hn hb)
theorem M_worthOf (hs : okSt (h 69 0) (h 69 1)) {x set : Nat} (hx : (x : Int) < h 69 1) (h1 : set < 2147483648) (hq : Q (fs (fun k => if set.testBit k = true then h 71 ((x : Int) * 6 + k).toNat else 0) 0 (h 69 0).toNat)) : p8_worthOf x set h Q := by
  obtain ⟨a1, a2, a3, a4⟩ := hs
  have L : ∀ (m n k : Nat) (acc : Int), m < n → (k : Int) + m = h 69 0 → Q (acc + fs (fun k => if set.testBit k = true then h 71 ((x : Int) * 6 + k).toNat else 0) k m) → p8_worthOf_L5 x set h Q n acc k := by
    intro m
    induction m with
    | zero =>
      intro n k acc hn hk hq
      obtain ⟨n, rfl⟩ : ∃ n', n = n' + 1 := ⟨n - 1, by omega⟩
      unfold p8_worthOf_L5
      refine brY ((wle ⟨by omega, by omega⟩ ⟨by omega, by omega⟩).mpr (by omega)) ?_
      rw [show acc + fs _ k 0 = acc from by show acc + 0 = acc; omega] at hq
      exact hq
    | succ m ih =>
      intro n k acc hn hk hq
      obtain ⟨n, rfl⟩ : ∃ n', n = n' + 1 := ⟨n - 1, by omega⟩
      unfold p8_worthOf_L5
      refine brN (fun z => by have := (wle ⟨by omega, by omega⟩ ⟨by omega, by omega⟩).mp z; omega) ?_
      have e : fs (fun k => if set.testBit k = true then h 71 ((x : Int) * 6 + k).toNat else 0) k (m + 1) = (if set.testBit k = true then h 71 ((x : Int) * 6 + k).toNat else 0) + fs (fun k => if set.testBit k = true then h 71 ((x : Int) * 6 + k).toNat else 0) (k + 1) m := rfl
      rw [e] at hq
      refine M_has h1 (by omega) (fun z => brN (by decide) ?_) (fun z => brY (by decide) ?_)
      · refine rd_i (by omega) (by omega) (by decide) ?_
        refine ih n (k + 1) _ (by omega) (by omega) ?_
        rw [if_pos z] at hq
        rw [Int.add_assoc, show (6 * (x : Int) + k).toNat = ((x : Int) * 6 + k).toNat from by omega]; exact hq
      · refine ih n (k + 1) _ (by omega) (by omega) ?_
        rw [if_neg (by rw [z]; decide)] at hq
        rw [Int.add_assoc]; exact hq
  unfold p8_worthOf
  refine L (h 69 0).toNat FUEL 0 0 (by unfold FUEL; omega) (by omega) ?_
  rw [Int.zero_add]
  exact hq
theorem bs_lt6 {s n : Int} (hs : okSt s n) (P : Nat → Bool) : bs P s.toNat < 64 := by
  have := bs_lt P s.toNat
  have h2 : 2 ^ s.toNat ≤ 2 ^ 6 := Nat.pow_le_pow_right (by decide) (by have := hs.2.1; omega)
  have e : (2 : Nat) ^ 6 = 64 := by decide
  omega
theorem we_bs {s : Nat} (V : HP) (W : Nat → Int) (x : Int) : fs (fun k => if (bs (fun k => decide (0 < cS V x k)) s).testBit k = true then W (x * 6 + k).toNat else 0) 0 s = weV V W s x := by
  unfold weV
  refine fs_congr s 0 (fun k _ hk => ?_)
  rw [bs_test]
  by_cases c : 0 < cS V x k
  · rw [if_pos c, if_pos (by simp [c]; omega)]
  · rw [if_neg c, if_neg (by simp [c])]
theorem M_wealthOf (hI : MI h) {x : Nat} (hx : (x : Int) < h 69 1) (hq : Q (weV (VM h) (h 71) (h 69 0).toNat x)) : p8_wealthOf x h Q := by
  obtain ⟨s1, s2, s3, s4⟩ := hI.1
  unfold p8_wealthOf
  refine M_sortsOf hI ⟨by omega, by omega⟩ ?_
  have := bs_lt6 hI.1 (fun k => decide (0 < cS (VM h) x k))
  refine M_worthOf hI.1 hx (by omega) ?_
  rw [we_bs]
  exact hq
theorem M_gainOf (hI : MI h) {x p : Nat} (hx : (x : Int) < h 69 1) (hp : (p : Int) < h 69 7) (hq : Q (gV (VM h) (h 71) x (h 74 p))) : p8_gainOf x p h Q := by
  obtain ⟨s1, s2, s3, s4⟩ := hI.1
  obtain ⟨q1, q2, q3, q4, q5, q6, q7, q8⟩ := hI.part hp
  have e1 : h 74 p = (((h 74 p).toNat : Nat) : Int) := by omega
  unfold p8_gainOf
  refine M_sortsOf hI ⟨by omega, by omega⟩ ?_
  have hl := bs_lt6 hI.1 (fun k => decide (0 < cS (VM h) x k))
  refine rd_n q1 (by decide) ?_
  have hc := cS_nn (VM h) x (h 74 p)
  unfold gV at hq
  rw [e1]
  refine M_has (by omega) (by omega) (fun z => brN (by decide) ?_) (fun z => brY (by decide) ?_)
  · rw [bs_test] at z
    simp only [Bool.and_eq_true, decide_eq_true_eq] at z
    rw [← e1] at z
    rw [if_neg (by omega)] at hq
    exact hq
  · rw [bs_test] at z
    refine rd_n q1 (by decide) ?_
    refine rd_i (by omega) (by omega) (by decide) ?_
    have : ¬ 0 < cS (VM h) x (h 74 p) := by
      intro c
      rw [← e1] at z
      simp [c] at z
      omega
    rw [if_pos (by omega)] at hq
    rw [show (6 * (x : Int) + h 74 p).toNat = ((x : Int) * 6 + h 74 p).toNat from by omega]
    exact hq
theorem M_mayTake {x p : Nat} (hI : MI h) (hx : (x : Int) < h 69 1) (hp : (p : Int) < h 69 7) (h1 : mayT (VM h) x p → Q 1) (h0 : ¬ mayT (VM h) x p → Q 0) : p8_mayTake x p h Q := by
  obtain ⟨q1, q2, q3, q4, q5, q6, q7, q8, q9, q10⟩ := hI.part hp
  obtain ⟨a1, a2, a3, a4⟩ := hI.1
  have c1 := cO_nn (VM h) x
  have c2 := hI.2.2.2.2.1 x (by omega) hx
  unfold p8_mayTake
  refine rd_n q1 (by decide) ?_
  refine brQ (w0le ⟨by omega, by omega⟩) (fun z => h0 (fun y => by have : h 75 p = -1 := y.2.1; omega)) (fun z => ?_)
  refine rd_n q1 (by decide) ?_
  refine brQ (weq ⟨by omega, by omega⟩ ⟨by omega, by omega⟩) (fun z2 => h0 (fun y => y.2.2 z2)) (fun z2 => ?_)
  refine M_countOf hI ⟨by omega, by omega⟩ ?_
  exact brQ (wle ⟨by omega, by omega⟩ ⟨by omega, by omega⟩) (fun z3 => h0 (fun y => by have := y.1; omega)) (fun z3 => h1 ⟨by omega, by show h 75 p = -1; omega, z2⟩)
theorem M_inYard (hI : MI h) {x : Nat} (hx : (x : Int) < h 69 1) (hq : Q (cY (VM h) x)) : p8_inYard x h Q := by
  have a1 : 0 ≤ h 69 7 := hI.2.1
  have a2 : h 69 7 ≤ 32 := hI.2.2.1
  obtain ⟨s1, s2, s3, s4⟩ := hI.1
  have L : ∀ (m n p : Nat) (acc : Int), m < n → (p : Int) + m = h 69 7 → Q (acc + fs (fun q => if h 76 q = x then 1 else 0) p m) → p8_inYard_L4 x h Q n acc p := by
    intro m
    induction m with
    | zero =>
      intro n p acc hn hk hq
      obtain ⟨n, rfl⟩ : ∃ n', n = n' + 1 := ⟨n - 1, by omega⟩
      unfold p8_inYard_L4
      refine brY ((wle ⟨by omega, by omega⟩ ⟨by omega, by omega⟩).mpr (by omega)) ?_
      rw [show acc + fs _ p 0 = acc from by show acc + 0 = acc; omega] at hq
      exact hq
    | succ m ih =>
      intro n p acc hn hk hq
      obtain ⟨n, rfl⟩ : ∃ n', n = n' + 1 := ⟨n - 1, by omega⟩
      unfold p8_inYard_L4
      refine brN (fun z => by have := (wle ⟨by omega, by omega⟩ ⟨by omega, by omega⟩).mp z; omega) ?_
      have e : fs (fun q => if h 76 q = x then (1 : Int) else 0) p (m + 1) = (if h 76 p = x then (1 : Int) else 0) + fs (fun q => if h 76 q = x then (1 : Int) else 0) (p + 1) m := rfl
      rw [e] at hq
      obtain ⟨q1, q2, q3, q4, q5, q6, q7, q8, q9⟩ := hI.part (p := p) (by omega)
      refine rd_n q1 (by decide) ?_
      refine brQ (w0le ⟨by omega, by omega⟩) (fun y => ?_) (fun y => ?_)
      · refine ih n (p + 1) _ (by omega) (by omega) ?_
        rw [if_neg (by have := q8 y; omega)] at hq
        rw [Int.add_assoc]; exact hq
      · refine rd_n q1 (by decide) ?_
        refine brQ (weq ⟨by omega, by omega⟩ ⟨by omega, by omega⟩) (fun z => ?_) (fun z => ?_)
        · refine ih n (p + 1) _ (by omega) (by omega) ?_
          rw [if_pos z] at hq
          rw [Int.add_assoc]; exact hq
        · refine ih n (p + 1) _ (by omega) (by omega) ?_
          rw [if_neg z] at hq
          rw [Int.add_assoc]; exact hq
  unfold p8_inYard
  refine L (h 69 7).toNat FUEL 0 0 (by unfold FUEL; omega) (by omega) ?_
  rw [Int.zero_add]
  exact hq
theorem M_poor (hI : MI h) (hq : Q ((bs (fun x => decide (cO (VM h) x = 0)) (h 69 1).toNat : Nat) : Int)) : p8_poor h Q := by
  obtain ⟨a1, a2, a3, a4⟩ := hI.1
  have L : ∀ (m n k : Nat), m < n → (k : Int) + m = h 69 1 → p8_poor_L4 h Q n ((bs (fun x => decide (cO (VM h) x = 0)) k : Nat) : Int) k := by
    intro m
    induction m with
    | zero =>
      intro n k hn hk
      obtain ⟨n, rfl⟩ : ∃ n', n = n' + 1 := ⟨n - 1, by omega⟩
      unfold p8_poor_L4
      refine brY ((wle ⟨by omega, by omega⟩ ⟨by omega, by omega⟩).mpr (by omega)) ?_
      rw [show k = (h 69 1).toNat from by omega]
      exact hq
    | succ m ih =>
      intro n k hn hk
      obtain ⟨n, rfl⟩ : ∃ n', n = n' + 1 := ⟨n - 1, by omega⟩
      unfold p8_poor_L4
      refine brN (fun z => by have := (wle ⟨by omega, by omega⟩ ⟨by omega, by omega⟩).mp z; omega) ?_
      refine M_countOf hI ⟨by omega, by omega⟩ ?_
      have hlt := bs_lt (fun x => decide (cO (VM h) x = 0)) k
      have h2k := two_le (k := k) (by omega)
      have c1 := cO_nn (VM h) k
      have c2 := hI.2.2.2.2.1 k (by omega) (by omega)
      have := ih n (k + 1) (by omega) (by omega)
      refine brQ (weq0 ⟨by omega, by omega⟩) (fun q => ?_) (fun q => ?_)
      · rw [sl_n k (by omega), io_n _ _ (by omega) h2k, bs_or _ k (by simp; omega)]
        exact this
      · rw [show bs (fun x => decide (cO (VM h) x = 0)) (k + 1) = bs (fun x => decide (cO (VM h) x = 0)) k from by
          show _ + (if decide (cO (VM h) k = 0) = true then 2 ^ k else 0) = _
          rw [if_neg (by simp; omega)]; rfl] at this
        rw [show io ((bs (fun x => decide (cO (VM h) x = 0)) k : Nat) : Int) 0 = ((bs (fun x => decide (cO (VM h) x = 0)) k : Nat) : Int) from by
          have e := io_n (bs (fun x => decide (cO (VM h) x = 0)) k) 0 (by omega) (by omega)
          rw [Nat.or_zero] at e; exact e]
        exact this
  unfold p8_poor
  exact L (h 69 1).toNat FUEL 0 (by unfold FUEL; omega) (by omega)
end MR
