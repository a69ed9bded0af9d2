/-! ===== PURE: what the class reads ===== -/
theorem weq {a b : Int} (ha : can a) (hb : can b) : (w32 a = w32 b) ↔ a = b := by rw [w_id ha.1 ha.2, w_id hb.1 hb.2]
theorem wlt {a b : Int} (ha : can a) (hb : can b) : (w32 a < w32 b) ↔ a < b := by rw [w_id ha.1 ha.2, w_id hb.1 hb.2]
theorem wle {a b : Int} (ha : can a) (hb : can b) : (w32 a ≤ w32 b) ↔ a ≤ b := by rw [w_id ha.1 ha.2, w_id hb.1 hb.2]
theorem weq0 {a : Int} (ha : can a) : (w32 a = 0) ↔ a = 0 := by rw [w_id ha.1 ha.2]
theorem wle0 {a : Int} (ha : can a) : (w32 a ≤ 0) ↔ a ≤ 0 := by rw [w_id ha.1 ha.2]
theorem wlt0 {a : Int} (ha : can a) : (w32 a < 0) ↔ a < 0 := by rw [w_id ha.1 ha.2]
theorem w0le {a : Int} (ha : can a) : (0 ≤ w32 a) ↔ 0 ≤ a := by rw [w_id ha.1 ha.2]
theorem w0lt {a : Int} (ha : can a) : (0 < w32 a) ↔ 0 < a := by rw [w_id ha.1 ha.2]
/-- the set of those below n of which P holds -/
def bs (P : Nat → Bool) : Nat → Nat
  | 0 => 0
  | m + 1 => bs P m + (if P m = true then 2 ^ m else 0)
theorem bs_lt (P : Nat → Bool) : ∀ m, bs P m < 2 ^ m
  | 0 => by show 0 < 1; omega
  | m + 1 => by
    have := bs_lt P m
    show bs P m + (if P m = true then 2 ^ m else 0) < 2 ^ (m + 1)
    rw [Nat.pow_succ]
    split <;> omega
theorem bs_or (P : Nat → Bool) (m : Nat) (h : P m = true) : bs P m ||| 2 ^ m = bs P (m + 1) := by
  have h1 := Nat.two_pow_add_eq_or_of_lt (bs_lt P m) 1
  show _ = bs P m + (if P m = true then 2 ^ m else 0)
  rw [if_pos h, Nat.or_comm]
  rw [Nat.mul_one] at h1
  rw [← h1]; omega
theorem bs_test (P : Nat → Bool) : ∀ m k, (bs P m).testBit k = (decide (k < m) && P k)
  | 0, k => by simp [bs]
  | m + 1, k => by
    by_cases hm : P m = true
    · rw [← bs_or P m hm, Nat.testBit_or, bs_test P m k, Nat.testBit_two_pow]
      by_cases e : m = k
      · subst e; simp [hm]
      · by_cases e2 : k < m
        · simp [e2, e, show k < m + 1 from by omega]
        · simp [e2, e, show ¬ k < m + 1 from by omega]
    · show (bs P m + (if P m = true then 2 ^ m else 0)).testBit k = _
      rw [if_neg hm, Nat.add_zero, bs_test P m k]
      by_cases e : m = k
      · subst e; simp [hm]
      · by_cases e2 : k < m
        · simp [e2, show k < m + 1 from by omega]
        · simp [e2, show ¬ k < m + 1 from by omega]
theorem two_le {k : Nat} (h : k < 31) : 2 ^ k < 2147483648 := by
  have : 2 ^ k ≤ 2 ^ 30 := Nat.pow_le_pow_right (by decide) (by omega)
  have e : (2 : Nat) ^ 30 = 1073741824 := by decide
  omega
def SI (b : Nat) (h : HP) : Prop := okSt (h 2 0) (h 2 1) ∧ wfV (h 2 0) (h 2 1) (VC b h) ∧ (∀ x : Nat, (x : Int) < h 2 1 → h (b + 6) x = cO (VC b h) x) ∧ (∀ x k : Nat, (x : Int) < h 2 1 → (k : Int) < h 2 0 → h (b + 7) (x * 6 + k) = cS (VC b h) x k)
section CR
variable {b : Nat} {h : HP} {Q : Int → Prop}
theorem C_isHouse {x : Int} (hx : can x) (hs : okSt (h 2 0) (h 2 1)) (h1 : 0 ≤ x → x < h 2 1 → Q 1) (h0 : ¬ (0 ≤ x ∧ x < h 2 1) → Q 0) : p4_isHouse x h Q := by
  obtain ⟨a1, a2, a3, a4⟩ := hs
  unfold p4_isHouse
  refine brQ (wlt0 hx) (fun q => h0 (by omega)) (fun q => ?_)
  exact brQ (wle ⟨by omega, by omega⟩ hx) (fun q2 => h0 (by omega)) (fun q2 => h1 (by omega) (by omega))
theorem C_isSort {x : Int} (hx : can x) (hs : okSt (h 2 0) (h 2 1)) (h1 : 0 ≤ x → x < h 2 0 → Q 1) (h0 : ¬ (0 ≤ x ∧ x < h 2 0) → Q 0) : p4_isSort x h Q := by
  obtain ⟨a1, a2, a3, a4⟩ := hs
  unfold p4_isSort
  refine brQ (wlt0 hx) (fun q => h0 (by omega)) (fun q => ?_)
  exact brQ (wle ⟨by omega, by omega⟩ hx) (fun q2 => h0 (by omega)) (fun q2 => h1 (by omega) (by omega))
theorem C_isPart {x : Int} (hx : can x) (hI : SI b h) (h1 : 0 ≤ x → x < h b 1 → Q 1) (h0 : ¬ (0 ≤ x ∧ x < h b 1) → Q 0) : p5_isPart b x h Q := by
  have a1 : 0 ≤ h b 1 := hI.2.1.1
  have a2 : h b 1 ≤ 32 := hI.2.1.2.1
  unfold p5_isPart
  refine brQ (wlt0 hx) (fun q => h0 (by omega)) (fun q => ?_)
  exact brQ (wle ⟨by omega, by omega⟩ hx) (fun q2 => h0 (by omega)) (fun q2 => h1 (by omega) (by omega))
/-- what is known of a part -/
theorem SI.part (hI : SI b h) {p : Nat} (hp : (p : Int) < h b 1) : p < 32 ∧ 0 ≤ h (b + 1) p ∧ h (b + 1) p < h 2 0 ∧ -1 ≤ h (b + 2) p ∧ h (b + 2) p < h 2 1 ∧ -1 ≤ h (b + 3) p ∧ h (b + 3) p < h 2 1 ∧ (0 ≤ h (b + 2) p → h (b + 3) p = -1) ∧ 0 ≤ h (b + 4) p ∧ h (b + 4) p ≤ 20 := by
  have a2 : h b 1 ≤ 32 := hI.2.1.2.1
  have := hI.2.1.2.2.1 p hp
  exact ⟨by omega, this⟩
theorem C_lies {p : Nat} (hI : SI b h) (hp : (p : Int) < h b 1) (h1 : h (b + 2) p = -1 → Q 1) (h0 : ¬ h (b + 2) p = -1 → Q 0) : p5_lies b p h Q := by
  obtain ⟨q1, q2, q3, q4, q5, q6⟩ := hI.part hp
  obtain ⟨a1, a2, a3, a4⟩ := hI.1
  unfold p5_lies
  refine rd_n q1 (by decide) ?_
  exact brQ (weq ⟨by omega, by omega⟩ ⟨by omega, by omega⟩) h1 h0
theorem C_mayTake {x p : Nat} (hI : SI b h) (hx : (x : Int) < h 2 1) (hp : (p : Int) < h b 1) (h1 : mayT (VC b h) x p → Q 1) (h0 : ¬ mayT (VC b h) x p → Q 0) : p5_mayTake b x p h Q := by
  obtain ⟨q1, q2, q3, q4, q5, q6, q7, q8, q9, q10⟩ := hI.part hp
  obtain ⟨a1, a2, a3, a4⟩ := hI.1
  unfold p5_mayTake
  refine rd_n (by omega) (by decide) ?_
  rw [hI.2.2.1 x hx]
  have c1 := cO_nn (VC b h) x
  have c2 := hI.2.1.2.2.2.1 x (by omega) hx
  refine brQ (wle ⟨by omega, by omega⟩ ⟨by omega, by omega⟩) (fun q => h0 (fun z => by have := z.1; omega)) (fun q => ?_)
  refine C_lies hI hp (fun z1 => ?_) (fun z1 => brY (by decide) (h0 (fun z => z1 z.2.1)))
  refine brN (by decide) ?_
  refine rd_n q1 (by decide) ?_
  exact brQ (weq ⟨by omega, by omega⟩ ⟨by omega, by omega⟩) (fun z2 => h0 (fun z => z.2.2 z2)) (fun z2 => h1 ⟨by omega, z1, z2⟩)
theorem C_cS (hI : SI b h) {x k : Nat} (hx : (x : Int) < h 2 1) (hk : (k : Int) < h 2 0) {K : Int → Prop} (hq : K (cS (VC b h) x k)) : rd h (b + 7) 30 ((x : Int) * 6 + k) K := by
  obtain ⟨a1, a2, a3, a4⟩ := hI.1
  refine rd_i (by omega) (by omega) (by decide) ?_
  rw [show ((x : Int) * 6 + k).toNat = x * 6 + k from by omega, hI.2.2.2 x k hx hk]
  exact hq
theorem cS_can (hI : SI b h) {x : Nat} (hx : (x : Int) < h 2 1) (k : Int) : can (cS (VC b h) x k) := by
  have c1 := cS_nn (VC b h) x k
  have c2 := cS_le (VC b h) x k
  have c3 := hI.2.1.2.2.2.1 x (by omega) hx
  exact ⟨by omega, by omega⟩
theorem C_worthOf (hs : okSt (h 2 0) (h 2 1)) {x k : Nat} (hx : (x : Int) < h 2 1) (hk : (k : Int) < h 2 0) (hq : Q (h 6 ((x : Int) * 6 + k).toNat)) : p4_worthOf x k h Q := by
  obtain ⟨a1, a2, a3, a4⟩ := hs
  exact rd_i (by omega) (by omega) (by decide) hq
theorem C_gainOf (hI : SI b h) {x k : Nat} (hx : (x : Int) < h 2 1) (hk : (k : Int) < h 2 0) (hq : Q (gV (VC b h) (h 6) x k)) : p5_gainOf b x k h Q := by
  unfold p5_gainOf
  refine C_cS hI hx hk ?_
  unfold gV at hq
  refine brQ (weq0 (cS_can hI hx k)) (fun q => C_worthOf hI.1 hx hk ?_) (fun q => ?_)
  · rw [if_pos q] at hq; exact hq
  · rw [if_neg q] at hq; exact hq
theorem C_lossOf (hI : SI b h) {x k : Nat} (hx : (x : Int) < h 2 1) (hk : (k : Int) < h 2 0) (hq : Q (lV (VC b h) (h 6) x k)) : p5_lossOf b x k h Q := by
  unfold p5_lossOf
  refine C_cS hI hx hk ?_
  unfold lV at hq
  refine brQ (weq (cS_can hI hx k) ⟨by omega, by omega⟩) (fun q => C_worthOf hI.1 hx hk ?_) (fun q => ?_)
  · rw [if_pos q] at hq; exact hq
  · rw [if_neg q] at hq; exact hq
theorem C_wealthOf (hI : SI b h) {x : Nat} (hx : (x : Int) < h 2 1) (hq : Q (weV (VC b h) (h 6) (h 2 0).toNat x)) : p5_wealthOf b x h Q := by
  obtain ⟨a1, a2, a3, a4⟩ := hI.1
  have L : ∀ (m n k : Nat) (acc : Int), m < n → (k : Int) + m = h 2 0 → Q (acc + fs (fun k => if 0 < cS (VC b h) x k then h 6 ((x : Int) * 6 + k).toNat else 0) k m) → p5_wealthOf_L4 b x h Q n acc k := by
    intro m
    induction m with
    | zero =>
      intro n k acc hn hk hq
      obtain ⟨n, rfl⟩ : ∃ n', n = n' + 1 := ⟨n - 1, by omega⟩
      unfold p5_wealthOf_L4
      refine brY ((wle ⟨by omega, by omega⟩ ⟨by omega, by omega⟩).mpr (by omega)) ?_
      rw [show acc + fs _ k 0 = acc from by show acc + 0 = acc; omega] at hq
      exact hq
    | succ m ih =>
      intro n k acc hn hk hq
      obtain ⟨n, rfl⟩ : ∃ n', n = n' + 1 := ⟨n - 1, by omega⟩
      unfold p5_wealthOf_L4
      refine brN (fun z => by have := (wle ⟨by omega, by omega⟩ ⟨by omega, by omega⟩).mp z; omega) ?_
      refine C_cS hI hx (by omega) ?_
      refine brQ (wle0 (cS_can hI hx k)) (fun q => ?_) (fun q => ?_)
      · refine ih n (k + 1) acc (by omega) (by omega) ?_
        rw [show fs (fun k => if 0 < cS (VC b h) x k then h 6 ((x : Int) * 6 + k).toNat else 0) k (m + 1) = 0 + fs (fun k => if 0 < cS (VC b h) x k then h 6 ((x : Int) * 6 + k).toNat else 0) (k + 1) m from by
          show (if 0 < cS (VC b h) x k then h 6 ((x : Int) * 6 + k).toNat else 0) + _ = _
          rw [if_neg (by omega)]] at hq
        rw [Int.zero_add] at hq
        exact hq
      · refine C_worthOf hI.1 hx (by omega) ?_
        refine ih n (k + 1) _ (by omega) (by omega) ?_
        rw [show fs (fun k => if 0 < cS (VC b h) x k then h 6 ((x : Int) * 6 + k).toNat else 0) k (m + 1) = h 6 ((x : Int) * 6 + k).toNat + fs (fun k => if 0 < cS (VC b h) x k then h 6 ((x : Int) * 6 + k).toNat else 0) (k + 1) m from by
          show (if 0 < cS (VC b h) x k then h 6 ((x : Int) * 6 + k).toNat else 0) + _ = _
          rw [if_pos (by omega)]] at hq
        rw [Int.add_assoc]
        exact hq
  unfold p5_wealthOf
  refine L (h 2 0).toNat FUEL 0 0 (by unfold FUEL; omega) (by omega) ?_
  rw [Int.zero_add]
  exact hq
theorem C_sortsHad (hI : SI b h) {x : Nat} (hx : (x : Int) < h 2 1) (hq : Q ((bs (fun k => decide (0 < cS (VC b h) x k)) (h 2 0).toNat : Nat) : Int)) : p5_sortsHad b x h Q := by
  obtain ⟨a1, a2, a3, a4⟩ := hI.1
  have L : ∀ (m n k : Nat), m < n → (k : Int) + m = h 2 0 → p5_sortsHad_L4 b x h Q n ((bs (fun k => decide (0 < cS (VC b h) x k)) k : Nat) : Int) k := by
    intro m
    induction m with
    | zero =>
      intro n k hn hk
      obtain ⟨n, rfl⟩ : ∃ n', n = n' + 1 := ⟨n - 1, by omega⟩
      unfold p5_sortsHad_L4
      refine brY ((wle ⟨by omega, by omega⟩ ⟨by omega, by omega⟩).mpr (by omega)) ?_
      rw [show k = (h 2 0).toNat from by omega]
      exact hq
    | succ m ih =>
      intro n k hn hk
      obtain ⟨n, rfl⟩ : ∃ n', n = n' + 1 := ⟨n - 1, by omega⟩
      unfold p5_sortsHad_L4
      refine brN (fun z => by have := (wle ⟨by omega, by omega⟩ ⟨by omega, by omega⟩).mp z; omega) ?_
      refine C_cS hI hx (by omega) ?_
      have hlt := bs_lt (fun k => decide (0 < cS (VC b h) x k)) k
      have h2k := two_le (k := k) (by omega)
      have := ih n (k + 1) (by omega) (by omega)
      refine brQ (wle0 (cS_can hI hx k)) (fun q => ?_) (fun q => ?_)
      · rw [show bs (fun k => decide (0 < cS (VC b h) x k)) (k + 1) = bs (fun k => decide (0 < cS (VC b h) x k)) k from by
          show _ + (if decide (0 < cS (VC b h) x k) = true then 2 ^ k else 0) = _
          rw [if_neg (by simp; omega)]; rfl] at this
        exact this
      · rw [sl_n k (by omega), io_n _ _ (by omega) h2k, bs_or _ k (by simp; omega)]
        exact this
  unfold p5_sortsHad
  exact L (h 2 0).toNat FUEL 0 (by unfold FUEL; omega) (by omega)
theorem C_poorHouses (hI : SI b h) (hq : Q ((bs (fun x => decide (cO (VC b h) x = 0)) (h 2 1).toNat : Nat) : Int)) : p5_poorHouses b h Q := by
  obtain ⟨a1, a2, a3, a4⟩ := hI.1
  have L : ∀ (m n k : Nat), m < n → (k : Int) + m = h 2 1 → p5_poorHouses_L4 b h Q n ((bs (fun x => decide (cO (VC b h) x = 0)) k : Nat) : Int) k := by
    intro m
    induction m with
    | zero =>
      intro n k hn hk
      obtain ⟨n, rfl⟩ : ∃ n', n = n' + 1 := ⟨n - 1, by omega⟩
      unfold p5_poorHouses_L4
      refine brY ((wle ⟨by omega, by omega⟩ ⟨by omega, by omega⟩).mpr (by omega)) ?_
      rw [show k = (h 2 1).toNat from by omega]
      exact hq
    | succ m ih =>
      intro n k hn hk
      obtain ⟨n, rfl⟩ : ∃ n', n = n' + 1 := ⟨n - 1, by omega⟩
      unfold p5_poorHouses_L4
      refine brN (fun z => by have := (wle ⟨by omega, by omega⟩ ⟨by omega, by omega⟩).mp z; omega) ?_
      refine rd_n (by omega) (by decide) ?_
      rw [hI.2.2.1 k (by omega)]
      have hlt := bs_lt (fun x => decide (cO (VC b h) x = 0)) k
      have h2k := two_le (k := k) (by omega)
      have c1 := cO_nn (VC b h) k
      have c2 := hI.2.1.2.2.2.1 k (by omega) (by omega)
      have := ih n (k + 1) (by omega) (by omega)
      refine brQ (weq0 ⟨by omega, by omega⟩) (fun q => ?_) (fun q => ?_)
      · rw [sl_n k (by omega), io_n _ _ (by omega) h2k, bs_or _ k (by simp; omega)]
        exact this
      · rw [show bs (fun x => decide (cO (VC b h) x = 0)) (k + 1) = bs (fun x => decide (cO (VC b h) x = 0)) k from by
          show _ + (if decide (cO (VC b h) k = 0) = true then 2 ^ k else 0) = _
          rw [if_neg (by simp; omega)]; rfl] at this
        exact this
  unfold p5_poorHouses
  exact L (h 2 1).toNat FUEL 0 (by unfold FUEL; omega) (by omega)
theorem C_countLying (hI : SI b h) (hq : Q (cO (VC b h) (-1))) : p5_countLying b h Q := by
  have a1 : 0 ≤ h b 1 := hI.2.1.1
  have a2 : h b 1 ≤ 32 := hI.2.1.2.1
  have L : ∀ (m n p : Nat) (acc : Int), m < n → (p : Int) + m = h b 1 → Q (acc + fs (fun q => if h (b + 2) q = -1 then 1 else 0) p m) → p5_countLying_L4 b h Q n acc p := by
    intro m
    induction m with
    | zero =>
      intro n p acc hn hk hq
      obtain ⟨n, rfl⟩ : ∃ n', n = n' + 1 := ⟨n - 1, by omega⟩
      unfold p5_countLying_L4
      refine brY ((wle ⟨by omega, by omega⟩ ⟨by omega, by omega⟩).mpr (by omega)) ?_
      rw [show acc + fs _ p 0 = acc from by show acc + 0 = acc; omega] at hq
      exact hq
    | succ m ih =>
      intro n p acc hn hk hq
      obtain ⟨n, rfl⟩ : ∃ n', n = n' + 1 := ⟨n - 1, by omega⟩
      unfold p5_countLying_L4
      refine brN (fun z => by have := (wle ⟨by omega, by omega⟩ ⟨by omega, by omega⟩).mp z; omega) ?_
      have e : fs (fun q => if h (b + 2) q = -1 then (1 : Int) else 0) p (m + 1) = (if h (b + 2) p = -1 then (1 : Int) else 0) + fs (fun q => if h (b + 2) q = -1 then (1 : Int) else 0) (p + 1) m := rfl
      rw [e] at hq
      refine C_lies hI (by omega) (fun z => brN (by decide) ?_) (fun z => brY (by decide) ?_)
      · refine ih n (p + 1) _ (by omega) (by omega) ?_
        rw [if_pos z] at hq
        rw [Int.add_assoc]; exact hq
      · refine ih n (p + 1) _ (by omega) (by omega) ?_
        rw [if_neg z, Int.zero_add] at hq
        exact hq
  unfold p5_countLying
  refine L (h b 1).toNat FUEL 0 0 (by unfold FUEL; omega) (by omega) ?_
  rw [Int.zero_add]
  exact hq
theorem C_countInYard (hI : SI b h) {x : Nat} (hx : (x : Int) < h 2 1) (hq : Q (cY (VC b h) x)) : p5_countInYard b x h Q := by
  have a1 : 0 ≤ h b 1 := hI.2.1.1
  have a2 : h b 1 ≤ 32 := hI.2.1.2.1
  obtain ⟨s1, s2, s3, s4⟩ := hI.1
  have L : ∀ (m n p : Nat) (acc : Int), m < n → (p : Int) + m = h b 1 → Q (acc + fs (fun q => if h (b + 3) q = x then 1 else 0) p m) → p5_countInYard_L4 b x h Q n acc p := by
    intro m
    induction m with
    | zero =>
      intro n p acc hn hk hq
      obtain ⟨n, rfl⟩ : ∃ n', n = n' + 1 := ⟨n - 1, by omega⟩
      unfold p5_countInYard_L4
      refine brY ((wle ⟨by omega, by omega⟩ ⟨by omega, by omega⟩).mpr (by omega)) ?_
      rw [show acc + fs _ p 0 = acc from by show acc + 0 = acc; omega] at hq
      exact hq
    | succ m ih =>
      intro n p acc hn hk hq
      obtain ⟨n, rfl⟩ : ∃ n', n = n' + 1 := ⟨n - 1, by omega⟩
      unfold p5_countInYard_L4
      refine brN (fun z => by have := (wle ⟨by omega, by omega⟩ ⟨by omega, by omega⟩).mp z; omega) ?_
      have e : fs (fun q => if h (b + 3) q = x then (1 : Int) else 0) p (m + 1) = (if h (b + 3) p = x then (1 : Int) else 0) + fs (fun q => if h (b + 3) q = x then (1 : Int) else 0) (p + 1) m := rfl
      rw [e] at hq
      obtain ⟨q1, q2, q3, q4, q5, q6, q7, q8⟩ := hI.part (p := p) (by omega)
      refine rd_n q1 (by decide) ?_
      refine brQ (weq ⟨by omega, by omega⟩ ⟨by omega, by omega⟩) (fun z => ?_) (fun z => ?_)
      · refine ih n (p + 1) _ (by omega) (by omega) ?_
        rw [if_pos z] at hq
        rw [Int.add_assoc]; exact hq
      · refine ih n (p + 1) _ (by omega) (by omega) ?_
        rw [if_neg z, Int.zero_add] at hq
        exact hq
  unfold p5_countInYard
  refine L (h b 1).toNat FUEL 0 0 (by unfold FUEL; omega) (by omega) ?_
  rw [Int.zero_add]
  exact hq
end CR
