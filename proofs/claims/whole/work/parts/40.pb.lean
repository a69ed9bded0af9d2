/-! ===== PURE: numbers, reads, branches ===== -/
theorem w_id {x : Int} (h1 : -2147483648 ≤ x) (h2 : x < 2147483648) : w32 x = x := by unfold w32; omega
theorem wq_id {x : Int} (h1 : -9223372036854775808 ≤ x) (h2 : x < 9223372036854775808) : w64 x = x := by unfold w64; omega
theorem w_bd (x : Int) : -2147483648 ≤ w32 x ∧ w32 x < 2147483648 := by unfold w32; omega
theorem inb_i {x : Int} {n : Nat} (h1 : 0 ≤ x) (h2 : x < n) (h3 : (n : Int) ≤ 2147483648) : inb x n := by
  unfold inb; rw [w_id (by omega) (by omega)]; exact ⟨h1, h2⟩
theorem ix_i {x : Int} (h1 : 0 ≤ x) (h2 : x < 2147483648) : ix x = x.toNat := by
  unfold ix; rw [w_id (by omega) h2]
theorem ix_n (k : Nat) (h : (k : Int) < 2147483648) : ix (k : Int) = k := by rw [ix_i (by omega) h]; rfl
theorem rd_i {h : HP} {c n : Nat} {i : Int} {K : Int → Prop} (h1 : 0 ≤ i) (h2 : i < n) (h3 : (n : Int) ≤ 2147483648) (hk : K (h c i.toNat)) : rd h c n i K :=
  ⟨inb_i h1 h2 h3, by rw [ix_i h1 (by omega)]; exact hk⟩
theorem rd_n {h : HP} {c n : Nat} {i : Nat} {K : Int → Prop} (h2 : i < n) (h3 : (n : Int) ≤ 2147483648) (hk : K (h c i)) : rd h c n (i : Int) K :=
  rd_i (by omega) (by omega) h3 hk
theorem wr_i {h : HP} {c n : Nat} {i v : Int} {K : HP → Prop} (h1 : 0 ≤ i) (h2 : i < n) (h3 : (n : Int) ≤ 2147483648) (hk : K (hset h c i.toNat v)) : wr h c n i v K :=
  ⟨inb_i h1 h2 h3, by rw [ix_i h1 (by omega)]; exact hk⟩
theorem wr_n {h : HP} {c n : Nat} {i : Nat} {v : Int} {K : HP → Prop} (h2 : i < n) (h3 : (n : Int) ≤ 2147483648) (hk : K (hset h c i v)) : wr h c n (i : Int) v K :=
  wr_i (by omega) (by omega) h3 hk
theorem brY {c a b : Prop} (h : c) (ha : a) : brc c a b := ⟨fun _ => ha, fun q => absurd h q⟩
theorem brN {c a b : Prop} (h : ¬ c) (hb : b) : brc c a b := ⟨fun q => absurd q h, fun _ => hb⟩
theorem brS {c a b : Prop} (h1 : c → a) (h2 : ¬ c → b) : brc c a b := ⟨h1, h2⟩
/-- a branch upon a known question -/
theorem brQ {c d a b : Prop} (e : c ↔ d) (h1 : d → a) (h2 : ¬ d → b) : brc c a b := ⟨fun q => h1 (e.mp q), fun q => h2 (fun z => q (e.mpr z))⟩
theorem in_i {x lo2 hi2 : Int} {h : HP} {Q : Int → Prop} (hx : -9223372036854775808 ≤ x ∧ x < 9223372036854775808) (hl : -9223372036854775808 ≤ lo2 ∧ lo2 < 9223372036854775808) (hh : -9223372036854775808 ≤ hi2 ∧ hi2 < 9223372036854775808) (h1 : lo2 ≤ x → x ≤ hi2 → Q 1) (h0 : ¬ (lo2 ≤ x ∧ x ≤ hi2) → Q 0) : p8_in x lo2 hi2 h Q := by
  have e : ∀ a b : Int, -9223372036854775808 ≤ a ∧ a < 9223372036854775808 → -9223372036854775808 ≤ b ∧ b < 9223372036854775808 → (w32 (lc a b) < 0 ↔ a < b) ∧ (0 < w32 (lc a b) ↔ b < a) := by
    intro a b ha hb
    unfold lc
    rw [wq_id ha.1 ha.2, wq_id hb.1 hb.2]
    by_cases q1 : b < a
    · rw [if_pos q1]; exact ⟨⟨fun z => absurd z (by decide), fun z => by omega⟩, ⟨fun _ => q1, fun _ => by decide⟩⟩
    · rw [if_neg q1]
      by_cases q2 : a = b
      · rw [if_pos q2]; exact ⟨⟨fun z => absurd z (by decide), fun z => by omega⟩, ⟨fun z => absurd z (by decide), fun z => by omega⟩⟩
      · rw [if_neg q2]; exact ⟨⟨fun _ => by omega, fun _ => by decide⟩, ⟨fun z => absurd z (by decide), fun z => by omega⟩⟩
  unfold p8_in
  refine brQ (e x lo2 hx hl).1 (fun q => h0 (by omega)) (fun q => ?_)
  exact brQ (e x hi2 hx hh).2 (fun q2 => h0 (by omega)) (fun q2 => h1 (by omega) (by omega))
/-- the sum of f over p, p + 1 .. (m of them) -/
def fs (f : Nat → Int) : Nat → Nat → Int
  | _, 0 => 0
  | p, m + 1 => f p + fs f (p + 1) m
theorem fs_congr {f g : Nat → Int} : ∀ (m p : Nat), (∀ q, p ≤ q → q < p + m → f q = g q) → fs f p m = fs g p m
  | 0, _, _ => rfl
  | m + 1, p, h => by
    show f p + fs f (p + 1) m = g p + fs g (p + 1) m
    rw [h p (by omega) (by omega), fs_congr m (p + 1) (fun q h1 h2 => h q (by omega) (by omega))]
theorem fs_add (f : Nat → Int) : ∀ (m n p : Nat), fs f p (m + n) = fs f p m + fs f (p + m) n
  | 0, n, p => by rw [Nat.zero_add]; show _ = 0 + fs f p n; omega
  | m + 1, n, p => by
    rw [show m + 1 + n = (m + n) + 1 from by omega]
    show f p + fs f (p + 1) (m + n) = (f p + fs f (p + 1) m) + fs f (p + (m + 1)) n
    rw [fs_add f m n (p + 1), show p + 1 + m = p + (m + 1) from by omega]; omega
theorem fs_succ (f : Nat → Int) (m p : Nat) : fs f p (m + 1) = fs f p m + f (p + m) := by
  rw [fs_add f m 1 p]; show _ = _ + f (p + m); show _ + (f (p + m) + 0) = _; omega
theorem fs_zero (p m : Nat) {f : Nat → Int} (h : ∀ q, p ≤ q → q < p + m → f q = 0) : fs f p m = 0 := by
  induction m generalizing p with
  | zero => rfl
  | succ m ih =>
    show f p + fs f (p + 1) m = 0
    rw [h p (by omega) (by omega), ih (p + 1) (fun q h1 h2 => h q (by omega) (by omega))]; omega
/-- a change at one place -/
theorem fs_one {f g : Nat → Int} (p m k : Nat) (hk : p ≤ k) (hk2 : k < p + m) (h : ∀ q, q ≠ k → f q = g q) : fs f p m = fs g p m + (f k - g k) := by
  induction m generalizing p with
  | zero => omega
  | succ m ih =>
    show f p + fs f (p + 1) m = g p + fs g (p + 1) m + (f k - g k)
    by_cases hp : p = k
    · subst hp
      rw [fs_congr (f := f) (g := g) m (p + 1) (fun q h1 _ => h q (by omega))]; omega
    · rw [ih (p + 1) (by omega) (by omega), h p hp]; omega
theorem fs_nn {f : Nat → Int} (p m : Nat) (h : ∀ q, p ≤ q → q < p + m → 0 ≤ f q) : 0 ≤ fs f p m := by
  induction m generalizing p with
  | zero => exact Int.le_refl 0
  | succ m ih =>
    show 0 ≤ f p + fs f (p + 1) m
    have := h p (by omega) (by omega)
    have := ih (p + 1) (fun q h1 h2 => h q (by omega) (by omega))
    omega
theorem fs_le {f g : Nat → Int} (p m : Nat) (h : ∀ q, p ≤ q → q < p + m → f q ≤ g q) : fs f p m ≤ fs g p m := by
  induction m generalizing p with
  | zero => exact Int.le_refl 0
  | succ m ih =>
    show f p + fs f (p + 1) m ≤ g p + fs g (p + 1) m
    have := h p (by omega) (by omega)
    have := ih (p + 1) (fun q h1 h2 => h q (by omega) (by omega))
    omega
theorem fs_pos {f : Nat → Int} (p m : Nat) (hn : ∀ q, p ≤ q → q < p + m → 0 ≤ f q) : fs f p m > 0 ↔ ∃ q, p ≤ q ∧ q < p + m ∧ 0 < f q := by
  induction m generalizing p with
  | zero => exact ⟨fun h => absurd h (by show ¬ (0 : Int) > 0; omega), fun ⟨q, h1, h2, _⟩ => by omega⟩
  | succ m ih =>
    show f p + fs f (p + 1) m > 0 ↔ _
    have h0 := hn p (by omega) (by omega)
    have h1 := fs_nn (f := f) (p + 1) m (fun q a b => hn q (by omega) (by omega))
    have h2 := ih (p + 1) (fun q a b => hn q (by omega) (by omega))
    constructor
    · intro h
      by_cases hp : 0 < f p
      · exact ⟨p, by omega, by omega, hp⟩
      · obtain ⟨q, a, b, c⟩ := h2.mp (by omega)
        exact ⟨q, by omega, by omega, c⟩
    · rintro ⟨q, a, b, c⟩
      by_cases hp : q = p
      · subst hp; omega
      · have := h2.mpr ⟨q, by omega, by omega, c⟩; omega
/-! sets of bits -/
theorem nI_i (n : Nat) : Int32.ofInt (n : Int) = nI n := Int32.ofInt_eq_ofNat
theorem io_n (a b : Nat) (ha : a < 2147483648) (hb : b < 2147483648) : io (a : Int) (b : Int) = ((a ||| b : Nat) : Int) := by
  unfold io
  rw [nI_i, nI_i]
  have hor : a ||| b < 2 ^ 31 := Nat.or_lt_two_pow (by omega) (by omega)
  have e : nI a ||| nI b = nI (a ||| b) := by
    apply Int32.toBitVec_inj.mp
    rw [Int32.toBitVec_or]
    apply BitVec.eq_of_toNat_eq
    rw [BitVec.toNat_or, pk_tn (by omega), pk_tn (by omega), pk_tn (by omega)]
  rw [e, nI_toInt hor]
theorem ia_n (a b : Nat) (ha : a < 2147483648) (hb : b < 2147483648) : ia (a : Int) (b : Int) = ((a &&& b : Nat) : Int) := by
  unfold ia
  rw [nI_i, nI_i]
  have hand : a &&& b < 2 ^ 31 := Nat.and_lt_two_pow a (by omega)
  have e : nI a &&& nI b = nI (a &&& b) := by
    apply Int32.toBitVec_inj.mp
    rw [Int32.toBitVec_and]
    apply BitVec.eq_of_toNat_eq
    rw [BitVec.toNat_and, pk_tn (by omega), pk_tn (by omega), pk_tn (by omega)]
  rw [e, nI_toInt hand]
theorem sl_tab : ∀ k, k < 31 → sl 1 ((k : Nat) : Int) = ((2 ^ k : Nat) : Int) := by decide +kernel
theorem sl_n (k : Nat) (hk : k < 31) : sl 1 (k : Int) = ((2 ^ k : Nat) : Int) := sl_tab k hk
theorem s_l' : ∀ n, n < 31 → ((nI n &&& 31).toBitVec.smod 32).toNat = n := by decide +kernel
theorem sr_n (a k : Nat) (ha : a < 2147483648) (hk : k < 31) : sr (a : Int) (k : Int) = ((a / 2 ^ k : Nat) : Int) := by
  unfold sr
  rw [nI_i, nI_i, pk_shrN (by omega) _ k (s_l' k hk), nI_toInt (Nat.lt_of_le_of_lt (Nat.div_le_self _ _) (by omega))]
theorem bit_n (a k : Nat) (ha : a < 2147483648) (hk : k < 31) : ia (sr (a : Int) (k : Int)) 1 = if a.testBit k then 1 else 0 := by
  rw [sr_n a k ha hk, show (1 : Int) = ((1 : Nat) : Int) from rfl, ia_n _ _ (Nat.lt_of_le_of_lt (Nat.div_le_self _ _) ha) (by omega)]
  rw [Nat.and_one_is_mod, Nat.testBit_eq_decide_div_mod_eq]
  have := Nat.mod_lt (a / 2 ^ k) (show 2 > 0 by omega)
  by_cases q : a / 2 ^ k % 2 = 1
  · simp [q]
  · have q0 : a / 2 ^ k % 2 = 0 := by omega
    simp [q0]
