/-! ===== PURE: rings, the model ===== -/
theorem qd_nn (a b : Nat) (ha : a < 2147483648) (hb : b < 2147483648) : qd (a : Int) (b : Int) = ((a / b : Nat) : Int) := by
  unfold qd
  rw [w_id (by omega) (by omega), w_id (by omega) (by omega)]
  rfl
theorem qm_nn (a b : Nat) (ha : a < 2147483648) (hb : b < 2147483648) : qm (a : Int) (b : Int) = ((a % b : Nat) : Int) := by
  unfold qm
  rw [w_id (by omega) (by omega), w_id (by omega) (by omega)]
  rfl
/-- takers among x, x + 1 .. (m of them) -/
def ct (t : Nat → Int) : Nat → Nat → Nat
  | _, 0 => 0
  | x, m + 1 => (if t x < 0 then 0 else 1) + ct t (x + 1) m
def dcW (V : HP) (N n : Nat) (t : Nat → Int) (way : Nat) (i : Nat) : Int := if i < n ∧ 0 ≤ t i then pO V N i (way / 4 ^ (ct t (i + 1) (n - (i + 1))) % 4) else -1
def dcT (n : Nat) (code : Nat) (i : Nat) : Int := if i < n then ((code / (n + 1) ^ (n - (i + 1)) % (n + 1) : Nat) : Int) - 1 else -1
section RM0
variable {V : HP} {W : Nat → Int} {n N : Nat} {t : Nat → Int}
theorem ct_y {x m : Nat} (h : 0 ≤ t x) : ct t x (m + 1) = ct t (x + 1) m + 1 := by
  show (if t x < 0 then 0 else 1) + ct t (x + 1) m = _
  rw [if_neg (by omega)]; omega
theorem ct_n {x m : Nat} (h : t x < 0) : ct t x (m + 1) = ct t (x + 1) m := by
  show (if t x < 0 then 0 else 1) + ct t (x + 1) m = _
  rw [if_pos h]; omega
theorem ct_le : ∀ (m x : Nat), ct t x m ≤ m
  | 0, _ => Nat.le_refl _
  | m + 1, x => by
    have := ct_le m (x + 1)
    by_cases c : t x < 0
    · rw [ct_n c]; omega
    · rw [ct_y (by omega)]; omega
theorem dc_va (way : Nat) : vaT V N t n (dcW V N n t way) := by
  refine ⟨fun i hi h0 => ?_, fun i hi => ?_⟩
  · unfold dcW
    rw [if_pos ⟨hi, h0⟩]
    exact pO_or
  · unfold dcW
    rw [if_neg (fun z => by have := hi z.1; omega)]
theorem blkT : ∀ (j x w : Nat) (th : Nat → Int) (S : rgS), x + j = n → (∀ i, x ≤ i → th i = -1) → (∀ way, way / 4 ^ ct t x j = w → ∀ i, i < x → dcW V N n t way i = th i) → fr (fun way S => upT (smT V W n t (dcW V N n t way)) t (dcW V N n t way) S) (w * 4 ^ ct t x j) (4 ^ ct t x j) S = rgT V W n N t j x th S
  | 0, x, w, th, S, hx, h1, h2 => by
    obtain rfl : x = n := by omega
    have e0 : ct t x 0 = 0 := rfl
    rw [e0] at h2 ⊢
    rw [Nat.pow_zero, Nat.mul_one]
    have : dcW V N x t w = th := funext fun i => by
      by_cases c : i < x
      · exact h2 w (by rw [Nat.pow_zero, Nat.div_one]) i c
      · rw [h1 i (by omega)]
        unfold dcW
        exact if_neg (fun z => c z.1)
    show upT (smT V W x t (dcW V N x t w)) t (dcW V N x t w) S = upT (smT V W x t th) t th S
    rw [this]
  | j + 1, x, w, th, S, hx, h1, h2 => by
    show _ = (if t x < 0 then rgT V W n N t j (x + 1) th S else fr (fun i S => rgT V W n N t j (x + 1) (updI th x (pO V N x i)) S) 0 4 S)
    by_cases c : t x < 0
    · rw [if_pos c]
      rw [ct_n c] at h2 ⊢
      refine blkT j (x + 1) w th S (by omega) (fun i hi => h1 i (by omega)) (fun way hw i hi => ?_)
      by_cases d : i = x
      · subst d
        rw [h1 i (by omega)]
        unfold dcW
        exact if_neg (fun z => by omega)
      · exact h2 way hw i (by omega)
    · rw [if_neg c]
      rw [ct_y (by omega)] at h2 ⊢
      rw [show (4 : Nat) ^ (ct t (x + 1) j + 1) = 4 * 4 ^ ct t (x + 1) j from by rw [Nat.pow_succ, Nat.mul_comm]] at h2 ⊢
      rw [fr_blk]
      refine fr_congr 4 0 S (fun i S _ hi => ?_)
      refine blkT j (x + 1) (w * 4 + i) (updI th x (pO V N x i)) S (by omega) (fun k hk => by rw [updI_n (by omega)]; exact h1 k (by omega)) (fun way hw k hk => ?_)
      by_cases d : k = x
      · subst d
        rw [updI_s]
        unfold dcW
        rw [if_pos ⟨by omega, by omega⟩, show n - (k + 1) = j from by omega, hw, show (w * 4 + i) % 4 = i from by omega]
      · rw [updI_n d]
        refine h2 way ?_ k (by omega)
        rw [Nat.mul_comm, ← Nat.div_div_eq_div_mul, hw]; omega
theorem blkO : ∀ (j x w : Nat) (t : Nat → Int) (S : rgS), x + j = n → (∀ i, x ≤ i → t i = -1) → (∀ code, code / (n + 1) ^ j = w → ∀ i, i < x → dcT n code i = t i) → fr (fun code S => itc (goT n (dcT n code)) (rgT V W n N (dcT n code) n 0 (fun _ => -1) S) S) (w * (n + 1) ^ j) ((n + 1) ^ j) S = rgO V W n N j x t S
  | 0, x, w, t, S, hx, h1, h2 => by
    obtain rfl : x = n := by omega
    rw [Nat.pow_zero, Nat.mul_one]
    have : dcT x w = t := funext fun i => by
      by_cases c : i < x
      · exact h2 w (by rw [Nat.pow_zero, Nat.div_one]) i c
      · rw [h1 i (by omega)]
        unfold dcT
        exact if_neg c
    show itc (goT x (dcT x w)) (rgT V W x N (dcT x w) x 0 (fun _ => -1) S) S = itc (goT x t) (rgT V W x N t x 0 (fun _ => -1) S) S
    rw [this]
  | j + 1, x, w, t, S, hx, h1, h2 => by
    show _ = fr (fun d S => rgO V W n N j (x + 1) (updI t x ((d : Int) - 1)) S) 0 (n + 1) S
    rw [show (n + 1) ^ (j + 1) = (n + 1) * (n + 1) ^ j from by rw [Nat.pow_succ, Nat.mul_comm]] at h2 ⊢
    rw [fr_blk]
    refine fr_congr (n + 1) 0 S (fun i S _ hi => ?_)
    have hmod : (w * (n + 1) + i) % (n + 1) = i := by rw [Nat.mul_comm, Nat.mul_add_mod]; exact Nat.mod_eq_of_lt (by omega)
    have hdiv : (w * (n + 1) + i) / (n + 1) = w := by rw [Nat.mul_comm, Nat.mul_add_div (by omega), Nat.div_eq_of_lt (by omega)]; omega
    refine blkO j (x + 1) (w * (n + 1) + i) (updI t x ((i : Int) - 1)) S (by omega) (fun k hk => by rw [updI_n (by omega)]; exact h1 k (by omega)) (fun code hw k hk => ?_)
    by_cases d : k = x
    · subst d
      rw [updI_s]
      unfold dcT
      rw [if_pos (by omega), show n - (k + 1) = j from by omega, hw, hmod]
    · rw [updI_n d]
      refine h2 code ?_ k (by omega)
      rw [Nat.mul_comm, ← Nat.div_div_eq_div_mul, hw, hdiv]
end RM0
section RM1
variable {h : HP} {n N : Nat}
theorem rgm {g : HP} (hI : INV h) (f : SCR h g) (hn : h 2 1 = n) (hN : h 13 1 = N) : MI g ∧ g 69 1 = n ∧ g 69 7 = N ∧ (∀ p, p < N → g 75 p = VC 13 h 2 p ∧ -1 ≤ VC 13 h 2 p ∧ VC 13 h 2 p < n) ∧ n ≤ 5 ∧ N ≤ 32 := by
  obtain ⟨m1, m2, m3, m4⟩ := scr_M hI f
  have s1 := hI.s1
  have cn := hI.cnt
  have hst := hI.st
  unfold okSt at hst
  have a2 : h 13 1 ≤ 32 := hI.1.2.1.2.1
  refine ⟨m1, by rw [m4 1 (by decide)]; omega, by rw [m4 7 (by decide)]; omega, fun p hp => ?_, by omega, by omega⟩
  have hpv : (p : Int) < VC 13 h 0 0 := by show (p : Int) < h 13 1; omega
  obtain ⟨q1, q2, q3, q4, q5, _⟩ := hI.1.part (p := p) (by omega)
  have q4' : -1 ≤ VC 13 h 2 p := q4
  have q5' : VC 13 h 2 p < h 2 1 := q5
  exact ⟨by rw [f.1 75 (by decide)]; exact (hI.2.2.1.2.1 2 p (by decide) (by decide) hpv).symm, q4', by omega⟩
theorem M_bet {Q : Int → Prop} {g : HP} (hI : INV h) (f : SCR h g) (hn : h 2 1 = n) (hN : h 13 1 = N) {x inp out : Nat} (hx : x < n) (h1 : inp < N) (h2 : out < N) (ho : VC 13 h 2 out = x) (hq : Q (bV (VC 13 h) (h 6) x out inp)) : p8_betterBy x inp out g Q := by
  obtain ⟨m1, m2, m3, m4, m5, m6⟩ := rgm hI f hn hN
  have hnp : nP (VC 13 h) = N := by show (h 13 1).toNat = N; rw [hN]; rfl
  refine M_betterBy m1 (by omega) (by omega) (by omega) (by rw [(m4 out h2).1]; exact ho) ?_
  obtain ⟨_, v2, v3, _⟩ := scr_M hI f
  rw [v2, v3, hI.2.2.1.be hI.1.1 hI.1.2.1 (fun j hj => (hI.2.2.2.1.2.2.2.2.1 j hj).1.symm) (by omega) (by omega) (by omega) (by omega)]
  exact hq
theorem rg_bd (hI : INV h) (hn : h 2 1 = n) (hN : h 13 1 = N) {x p q : Nat} (hx : x < n) (hp : p < N) (hq : q < N) : -99 ≤ bV (VC 13 h) (h 6) x p q ∧ bV (VC 13 h) (h 6) x p q ≤ 99 := by
  have hnp : nP (VC 13 h) = N := by show (h 13 1).toNat = N; rw [hN]; rfl
  exact bV_bd hI.w6 hI.1.1 hI.1.2.1 (by omega) (by omega) (by omega) (by omega)
theorem M_partOf {Q : Int → Prop} {g : HP} (hI : INV h) (f : SCR h g) (hn : h 2 1 = n) (hN : h 13 1 = N) {x i : Nat} (hx : x < n) (hi : i < 4) (hq : Q (pO (VC 13 h) N x i)) : p8_partOf x i g Q := by
  obtain ⟨m1, m2, m3, m4, m5, m6⟩ := rgm hI f hn hN
  have L : ∀ (m fu p c : Nat), m < fu → p + m = N → c ≤ p → Q (pOf (VC 13 h) x i m p c) → p8_partOf_L5 x i g Q fu c p := by
    intro m
    induction m with
    | zero =>
      intro fu p c hfu hp hc hq
      obtain ⟨fu, rfl⟩ : ∃ n', fu = n' + 1 := ⟨fu - 1, by omega⟩
      unfold p8_partOf_L5
      rw [m3]
      exact brY ((wle ⟨by omega, by omega⟩ ⟨by omega, by omega⟩).mpr (by omega)) hq
    | succ m ih =>
      intro fu p c hfu hp hc hq
      obtain ⟨fu, rfl⟩ : ∃ n', fu = n' + 1 := ⟨fu - 1, by omega⟩
      obtain ⟨a1, a2, a3⟩ := m4 p (by omega)
      have hq' : Q (if VC 13 h 2 p = x then (if c = i then (p : Int) else pOf (VC 13 h) x i m (p + 1) (c + 1)) else pOf (VC 13 h) x i m (p + 1) c) := hq
      unfold p8_partOf_L5
      rw [m3]
      refine brN (fun z => by have := (wle ⟨by omega, by omega⟩ ⟨by omega, by omega⟩).mp z; omega) ?_
      refine rd_n (by omega) (by decide) ?_
      rw [a1]
      refine brQ (weq ⟨by omega, by omega⟩ ⟨by omega, by omega⟩) (fun z => ?_) (fun z => ?_)
      · rw [if_pos z] at hq'
        refine brQ (weq ⟨by omega, by omega⟩ ⟨by omega, by omega⟩) (fun w => ?_) (fun w => ?_)
        · rw [if_pos (by omega)] at hq'; exact hq'
        · rw [if_neg (by omega)] at hq'
          exact ih fu (p + 1) (c + 1) (by omega) (by omega) (by omega) hq'
      · rw [if_neg z] at hq'
        exact ih fu (p + 1) c (by omega) (by omega) (by omega) hq'
  unfold p8_partOf
  exact L N FUEL 0 0 (by unfold FUEL; omega) (by omega) (by omega) hq
theorem M_areThrown {Q : Int → HP → Prop} {g : HP} {t : Nat → Int} {way : Nat} (hI : INV h) (f : SCR h g) (hn : h 2 1 = n) (hN : h 13 1 = N) (ht : ∀ i, i < n → g 86 i = t i ∧ -1 ≤ t i ∧ t i < n) (hw : way < 1024) (hy : ∀ g' : HP, (∀ c, c ≠ 87 → g' c = g c) → (∀ i, i < n → g' 87 i = dcW (VC 13 h) N n t way i) → (∀ i, i < n → 0 ≤ t i → 0 ≤ dcW (VC 13 h) N n t way i) → Q 1 g') (hno : ∀ g' : HP, (∀ c, c ≠ 87 → g' c = g c) → (∀ i, i < n → g' 87 i = dcW (VC 13 h) N n t way i) → ¬ (∀ i, i < n → 0 ≤ t i → 0 ≤ dcW (VC 13 h) N n t way i) → Q 0 g') : p8_areThrown way g Q := by
  obtain ⟨m1, m2, m3, m4, m5, m6⟩ := rgm hI f hn hN
  have L : ∀ (k fu : Nat) (gd z : Int) (g1 : HP), k < fu → k ≤ n → z = (k : Int) - 1 → (∀ c, c ≠ 87 → g1 c = g c) → (∀ i, k ≤ i → i < n → g1 87 i = dcW (VC 13 h) N n t way i) → (gd = 1 ∧ (∀ i, k ≤ i → i < n → 0 ≤ t i → 0 ≤ dcW (VC 13 h) N n t way i) ∨ gd = 0 ∧ ¬ (∀ i, k ≤ i → i < n → 0 ≤ t i → 0 ≤ dcW (VC 13 h) N n t way i)) → p8_areThrown_L12 Q fu g1 ((way / 4 ^ ct t k (n - k) : Nat) : Int) gd z := by
    intro k
    induction k with
    | zero =>
      intro fu gd z g1 hfu hk hz f1 f2 f3
      obtain ⟨fu, rfl⟩ : ∃ n', fu = n' + 1 := ⟨fu - 1, by omega⟩
      subst hz
      unfold p8_areThrown_L12
      refine brY (by decide) ?_
      rcases f3 with ⟨rfl, q⟩ | ⟨rfl, q⟩
      · exact ⟨Or.inr rfl, hy g1 f1 (fun i hi => f2 i (by omega) hi) (fun i hi => q i (by omega) hi)⟩
      · exact ⟨Or.inl rfl, hno g1 f1 (fun i hi => f2 i (by omega) hi) (fun w => q (fun i _ hi => w i hi))⟩
    | succ k ih =>
      intro fu gd z g1 hfu hk hz f1 f2 f3
      obtain ⟨fu, rfl⟩ : ∃ n', fu = n' + 1 := ⟨fu - 1, by omega⟩
      obtain rfl : z = (k : Int) := by omega
      obtain ⟨t1, t2, t3⟩ := ht k (by omega)
      have ec : ct t k (n - k) = ct t k (n - (k + 1) + 1) := by rw [show n - k = n - (k + 1) + 1 from by omega]
      have wl : way / 4 ^ ct t (k + 1) (n - (k + 1)) < 1024 := Nat.lt_of_le_of_lt (Nat.div_le_self _ _) hw
      unfold p8_areThrown_L12
      refine brN (fun z => by have := (wlt0 ⟨by omega, by omega⟩).mp z; omega) ?_
      refine wr_n (by omega) (by decide) (rd_n (by omega) (by decide) ?_)
      rw [hset_c (show (86 : Nat) ≠ 87 by decide), f1 86 (by decide), t1]
      refine brQ (wlt0 ⟨by omega, by omega⟩) (fun c => ?_) (fun c => ?_)
      · have dk : dcW (VC 13 h) N n t way k = -1 := by unfold dcW; exact if_neg (fun z => by omega)
        have := ih fu gd ((k : Int) + (-1)) (hset g1 87 k (-1)) (by omega) (by omega) (by omega) (fun c hc => by rw [hset_c hc]; exact f1 c hc) (fun i h1 h2 => ?_) ?_
        · rw [ec, ct_n c] at this
          exact this
        · by_cases d : i = k
          · subst d; rw [hset_rs, dk]
          · rw [hset_rn d]; exact f2 i (by omega) h2
        · have e : (∀ i, k ≤ i → i < n → 0 ≤ t i → 0 ≤ dcW (VC 13 h) N n t way i) ↔ (∀ i, k + 1 ≤ i → i < n → 0 ≤ t i → 0 ≤ dcW (VC 13 h) N n t way i) := by
            constructor
            · intro q i h1 h2 h3; exact q i (by omega) h2 h3
            · intro q i h1 h2 h3
              by_cases d : i = k
              · subst d; omega
              · exact q i (by omega) h2 h3
          rw [e]
          exact f3
      · have dk : dcW (VC 13 h) N n t way k = pO (VC 13 h) N k (way / 4 ^ ct t (k + 1) (n - (k + 1)) % 4) := by unfold dcW; exact if_pos ⟨by omega, by omega⟩
        have F2 : SCR h (hset g1 87 k (-1)) := by
          refine SCR.set ?_ (by omega)
          exact ⟨fun c hc => by rw [f1 c (by omega)]; exact f.1 c hc, fun j hj => by rw [f1 95 (by decide)]; exact f.2.1 j hj, fun j hj => by rw [f1 69 (by decide)]; exact f.2.2 j hj⟩
        rw [show (4 : Int) = ((4 : Nat) : Int) from rfl, qm_nn _ _ (by omega) (by decide), qd_nn _ _ (by omega) (by decide)]
        refine M_partOf hI F2 hn hN (by omega) (Nat.mod_lt _ (by decide)) ?_
        rw [← dk]
        refine wr_n (by omega) (by decide) ?_
        have nx : ∀ gd', (gd' = 1 ∧ (∀ i, k ≤ i → i < n → 0 ≤ t i → 0 ≤ dcW (VC 13 h) N n t way i) ∨ gd' = 0 ∧ ¬ (∀ i, k ≤ i → i < n → 0 ≤ t i → 0 ≤ dcW (VC 13 h) N n t way i)) → p8_areThrown_L12 Q fu (hset (hset g1 87 k (-1)) 87 k (dcW (VC 13 h) N n t way k)) ((way / 4 ^ ct t (k + 1) (n - (k + 1)) / 4 : Nat) : Int) gd' ((k : Int) + (-1)) := fun gd' hgd => by
          have := ih fu gd' ((k : Int) + (-1)) (hset (hset g1 87 k (-1)) 87 k (dcW (VC 13 h) N n t way k)) (by omega) (by omega) (by omega) (fun c hc => by rw [hset_c hc, hset_c hc]; exact f1 c hc) (fun i h1 h2 => ?_) hgd
          · rw [ec, ct_y (by omega), Nat.pow_succ, ← Nat.div_div_eq_div_mul] at this
            exact this
          · by_cases d : i = k
            · subst d; rw [hset_rs]
            · rw [hset_rn d, hset_rn d]; exact f2 i (by omega) h2
        have pb : -1 ≤ dcW (VC 13 h) N n t way k ∧ dcW (VC 13 h) N n t way k < 32 := by
          rw [dk]
          rcases pO_or (V := VC 13 h) (x := (k : Int)) (N := N) (i := way / 4 ^ ct t (k + 1) (n - (k + 1)) % 4) with r | ⟨q, a1, a2, _⟩ <;> omega
        rcases f3 with ⟨rfl, q⟩ | ⟨rfl, q⟩
        · refine brN (by decide) (rd_n (by omega) (by decide) ?_)
          rw [hset_rs]
          refine brQ (wlt0 ⟨by omega, by omega⟩) (fun w => nx 0 (Or.inr ⟨rfl, fun y => ?_⟩)) (fun w => nx 1 (Or.inl ⟨rfl, fun i h1 h2 h3 => ?_⟩))
          · have := y k (by omega) (by omega) (by omega); omega
          · by_cases d : i = k
            · subst d; omega
            · exact q i (by omega) h2 h3
        · exact brY (by decide) (nx 0 (Or.inr ⟨rfl, fun y => q (fun i h1 h2 h3 => y i (by omega) h2 h3)⟩))
  unfold p8_areThrown
  rw [m2]
  have := L n FUEL 1 ((n : Int) - 1) g (by unfold FUEL; omega) (by omega) rfl (fun _ _ => rfl) (fun i h1 h2 => by omega) (Or.inl ⟨rfl, fun i h1 h2 => by omega⟩)
  rw [Nat.sub_self, show ct t n 0 = 0 from rfl, Nat.pow_zero, Nat.div_one] at this
  exact this
theorem M_ringsSum {Q : Int → Prop} {g : HP} {t th : Nat → Int} (hI : INV h) (f : SCR h g) (hn : h 2 1 = n) (hN : h 13 1 = N) (hg : goT n t) (ht : ∀ i, i < n → g 86 i = t i) (hth : ∀ i, i < n → g 87 i = th i) (hv : ∀ i, i < n → 0 ≤ t i → ∃ p : Nat, p < N ∧ th i = p ∧ VC 13 h 2 p = i) (hq : Q (smT (VC 13 h) (h 6) n t th)) : p8_ringsSum g Q := by
  obtain ⟨m1, m2, m3, m4, m5, m6⟩ := rgm hI f hn hN
  have L : ∀ (m fu x : Nat), m < fu → x + m = n → (∀ i, i < x → 0 ≤ t i → 0 < byT (VC 13 h) (h 6) t th i) → p8_ringsSum_L4 g Q fu (fs (fun i => if 0 ≤ t i then byT (VC 13 h) (h 6) t th i else 0) 0 x) x := by
    intro m
    induction m with
    | zero =>
      intro fu x hfu hx ha
      obtain ⟨fu, rfl⟩ : ∃ n', fu = n' + 1 := ⟨fu - 1, by omega⟩
      obtain rfl : x = n := by omega
      unfold p8_ringsSum_L4
      rw [m2]
      refine brY (Int.le_refl _) ?_
      unfold smT at hq
      have ok : okT (VC 13 h) (h 6) x t th := fun i hi h0 => ⟨by obtain ⟨p, _, p2, _⟩ := hv i hi h0; omega, ha i hi h0⟩
      rw [itc_y ok] at hq
      exact hq
    | succ m ih =>
      intro fu x hfu hx ha
      obtain ⟨fu, rfl⟩ : ∃ n', fu = n' + 1 := ⟨fu - 1, by omega⟩
      have tx := hg.1 x (by omega)
      unfold p8_ringsSum_L4
      rw [m2]
      refine brN (fun z => by have := (wle ⟨by omega, by omega⟩ ⟨by omega, by omega⟩).mp z; omega) ?_
      refine rd_n (by omega) (by decide) ?_
      rw [ht x (by omega)]
      refine brQ (wlt0 ⟨by omega, by omega⟩) (fun c => ?_) (fun c => ?_)
      · have := ih fu (x + 1) (by omega) (by omega) (fun i hi h0 => ?_)
        · rw [fs_succ, Nat.zero_add, if_neg (by omega), Int.add_zero] at this
          exact this
        · by_cases d : i = x
          · subst d; omega
          · exact ha i (by omega) h0
      · obtain ⟨g1, g2, g3⟩ := hg.gv (show x < n by omega) (by omega)
        obtain ⟨p, p1, p2, p3⟩ := hv x (by omega) (by omega)
        obtain ⟨q, q1, q2, q3⟩ := hv _ g1 g3
        refine rd_n (by omega) (by decide) ?_
        rw [ht x (by omega), ← g2]
        refine rd_n (by omega) (by decide) (rd_n (by omega) (by decide) ?_)
        rw [hth _ g1, hth x (by omega), p2, q2]
        have bd := rg_bd hI hn hN (show x < n by omega) p1 q1
        have eb : byT (VC 13 h) (h 6) t th x = bV (VC 13 h) (h 6) x p q := by unfold byT; rw [p2, q2]; rfl
        refine M_bet hI f hn hN (by omega) q1 p1 p3 ?_
        refine brQ (w0lt ⟨by omega, by omega⟩) (fun z => ?_) (fun z => ?_)
        · have := ih fu (x + 1) (by omega) (by omega) (fun i hi h0 => ?_)
          · rw [fs_succ, Nat.zero_add, if_pos (by omega), eb] at this
            exact this
          · by_cases d : i = x
            · subst d; rw [eb]; exact z
            · exact ha i (by omega) h0
        · rw [sm_no (fun y => by have := (y x (by omega) (by omega)).2; omega)] at hq
          exact hq
  unfold p8_ringsSum
  exact L n FUEL 0 (by unfold FUEL; omega) (by omega) (fun i hi => by omega)
end RM1
