/-! ===== PURE: turns: what lies, and the game ===== -/
def lk (V : HP) (w : Int) : Nat → Nat
  | 0 => 0
  | p + 1 => lk V w p + (if V 2 p = -1 ∧ V 3 p = w then 1 else 0)
def LI (V : HP) (w : Int) (N c : Nat) (li : Nat → Nat) : Prop := c ≤ 8 ∧ (c = 8 ∨ c = lk V w N) ∧ c ≤ lk V w N ∧ ∀ i, i < c → li i < N ∧ (V 2 (li i) = -1 ∧ V 3 (li i) = w) ∧ lk V w (li i) = i
section TU0
variable {V : HP} {w : Int} {N c : Nat} {li : Nat → Nat}
theorem lk_y {p : Nat} (h : V 2 p = -1 ∧ V 3 p = w) : lk V w (p + 1) = lk V w p + 1 := by show lk V w p + (if V 2 p = -1 ∧ V 3 p = w then 1 else 0) = _; rw [if_pos h]
theorem lk_n {p : Nat} (h : ¬ (V 2 p = -1 ∧ V 3 p = w)) : lk V w (p + 1) = lk V w p := by show lk V w p + (if V 2 p = -1 ∧ V 3 p = w then 1 else 0) = _; rw [if_neg h]; rfl
theorem lk_le {p q : Nat} (h : p ≤ q) : lk V w p ≤ lk V w q := by
  induction q with
  | zero => obtain rfl : p = 0 := by omega
            exact Nat.le_refl _
  | succ q ih =>
    by_cases d : p = q + 1
    · subst d; exact Nat.le_refl _
    · exact Nat.le_trans (ih (by omega)) (Nat.le_add_right _ _)
theorem lk_ex : ∀ (N j : Nat), j < lk V w N → ∃ p, p < N ∧ (V 2 p = -1 ∧ V 3 p = w) ∧ lk V w p = j
  | 0, j, h => absurd h (Nat.not_lt_zero j)
  | N + 1, j, h => by
    by_cases d : V 2 N = -1 ∧ V 3 N = w
    · rw [lk_y d] at h
      by_cases e : j = lk V w N
      · exact ⟨N, by omega, d, e.symm⟩
      · obtain ⟨p, a1, a2, a3⟩ := lk_ex N j (by omega)
        exact ⟨p, by omega, a2, a3⟩
    · rw [lk_n d] at h
      obtain ⟨p, a1, a2, a3⟩ := lk_ex N j h
      exact ⟨p, by omega, a2, a3⟩
theorem LI_ex (V : HP) (w : Int) (N : Nat) : ∃ c li, LI V w N c li := by
  have : ∀ i : Nat, ∃ p : Nat, i < lk V w N → p < N ∧ (V 2 p = -1 ∧ V 3 p = w) ∧ lk V w p = i := fun i => by
    by_cases d : i < lk V w N
    · obtain ⟨p, a⟩ := lk_ex N i d
      exact ⟨p, fun _ => a⟩
    · exact ⟨0, fun z => absurd z d⟩
  obtain ⟨li, hl⟩ := Classical.axiomOfChoice this
  by_cases d : lk V w N ≤ 8
  · exact ⟨lk V w N, li, d, Or.inr rfl, Nat.le_refl _, fun i hi => hl i hi⟩
  · exact ⟨8, li, Nat.le_refl _, Or.inl rfl, by omega, fun i hi => hl i (by omega)⟩
theorem LI.at (l : LI V w N c li) {p : Nat} (hp : V 2 p = -1 ∧ V 3 p = w) (hc : lk V w p < c) : li (lk V w p) = p := by
  obtain ⟨a1, a2, a3⟩ := l.2.2.2 _ hc
  rcases Nat.lt_trichotomy (li (lk V w p)) p with d | d | d
  · have := lk_le (V := V) (w := w) (show li (lk V w p) + 1 ≤ p by omega)
    rw [lk_y a2] at this; omega
  · exact d
  · have := lk_le (V := V) (w := w) (show p + 1 ≤ li (lk V w p) by omega)
    rw [lk_y hp] at this; omega
theorem LI.mono (l : LI V w N c li) {i j : Nat} (h : i ≤ j) (hj : j < c) : li i ≤ li j := by
  refine Classical.byContradiction (fun z => ?_)
  obtain ⟨a1, a2, a3⟩ := l.2.2.2 i (by omega)
  obtain ⟨b1, b2, b3⟩ := l.2.2.2 j hj
  have := lk_le (V := V) (w := w) (show li j + 1 ≤ li i by omega)
  rw [lk_y b2] at this
  omega
end TU0
def mxF (P : Nat → Bool) (f : Nat → Int) : Nat → Int → Int
  | 0, acc => acc
  | i + 1, acc => if P i = true ∧ mxF P f i acc < f i then f i else mxF P f i acc
section TU1
variable {P : Nat → Bool} {f : Nat → Int}
theorem mxF_ge : ∀ (i : Nat) (acc : Int), acc ≤ mxF P f i acc
  | 0, acc => Int.le_refl _
  | i + 1, acc => by
    have := mxF_ge i acc
    show acc ≤ (if P i = true ∧ mxF P f i acc < f i then f i else mxF P f i acc)
    split <;> omega
theorem mxF_all : ∀ (i : Nat) (acc : Int) (j : Nat), j < i → P j = true → f j ≤ mxF P f i acc
  | 0, _, j, h, _ => by omega
  | i + 1, acc, j, h, hp => by
    show f j ≤ (if P i = true ∧ mxF P f i acc < f i then f i else mxF P f i acc)
    by_cases d : j = i
    · subst d
      by_cases e : mxF P f j acc < f j
      · rw [if_pos ⟨hp, e⟩]; exact Int.le_refl _
      · rw [if_neg (fun z => e z.2)]; omega
    · have := mxF_all i acc j (by omega) hp
      by_cases e : P i = true ∧ mxF P f i acc < f i
      · rw [if_pos e]; omega
      · rw [if_neg e]; exact this
theorem mxF_at : ∀ (i : Nat) (acc : Int), mxF P f i acc = acc ∨ ∃ j, j < i ∧ P j = true ∧ mxF P f i acc = f j
  | 0, acc => Or.inl rfl
  | i + 1, acc => by
    show (if P i = true ∧ mxF P f i acc < f i then f i else mxF P f i acc) = acc ∨ ∃ j, j < i + 1 ∧ P j = true ∧ (if P i = true ∧ mxF P f i acc < f i then f i else mxF P f i acc) = f j
    by_cases e : P i = true ∧ mxF P f i acc < f i
    · rw [if_pos e]; exact Or.inr ⟨i, by omega, e.1, rfl⟩
    · rw [if_neg e]
      rcases mxF_at i acc with r | ⟨j, a, b, d⟩
      · exact Or.inl r
      · exact Or.inr ⟨j, by omega, b, d⟩
theorem mxF_bd {i : Nat} {acc a b : Int} (h : a ≤ acc ∧ acc ≤ b) (hf : ∀ j, j < i → a ≤ f j ∧ f j ≤ b) : a ≤ mxF P f i acc ∧ mxF P f i acc ≤ b := by
  rcases mxF_at (P := P) (f := f) i acc with r | ⟨j, j1, _, r⟩
  · rw [r]; exact h
  · rw [r]; exact hf j j1
end TU1
def updN (f : Nat → Nat) (a v : Nat) : Nat → Nat := fun j => if j = a then v else f j
def tkG (W : Nat → Int) (pl H : Nat → Nat) (v q : Nat) : Int := if (H v).testBit q = true then 0 else W (pl v * 6 + q)
def BO (W : Nat → Int) (pl : Nat → Nat) : Nat → Nat → (Nat → Nat) → (Nat → Int) → (Nat → Int) → Int
  | 0, _, _, _, _ => 0
  | m + 1, v, H, R, L => mxF (fun q => decide (0 < L q ∧ 0 < R v)) (fun q => tkG W pl H v q - BO W pl m (1 - v) (updN H v (H v ||| 2 ^ q)) (updI R v (R v - 1)) (updI L q (L q - 1))) 6 (- BO W pl m (1 - v) H R L)
def vlT (W : Nat → Int) (pl : Nat → Nat) (m v : Nat) (H : Nat → Nat) (R L : Nat → Int) (q : Nat) : Int := tkG W pl H v q - BO W pl m (1 - v) (updN H v (H v ||| 2 ^ q)) (updI R v (R v - 1)) (updI L q (L q - 1))
theorem BO_s {W : Nat → Int} {pl : Nat → Nat} {m v : Nat} {H : Nat → Nat} {R L : Nat → Int} : BO W pl (m + 1) v H R L = mxF (fun q => decide (0 < L q ∧ 0 < R v)) (vlT W pl m v H R L) 6 (- BO W pl m (1 - v) H R L) := rfl
section TU2
variable {W : Nat → Int} {pl : Nat → Nat}
theorem BO_bd (hW : ∀ v q : Nat, v < 2 → q < 6 → 0 ≤ W (pl v * 6 + q) ∧ W (pl v * 6 + q) ≤ 99) : ∀ (m v : Nat) (H : Nat → Nat) (R L : Nat → Int), v < 2 → -(99 * (m : Int)) ≤ BO W pl m v H R L ∧ BO W pl m v H R L ≤ 99 * (m : Int)
  | 0, _, _, _, _, _ => by show -(99 * ((0 : Nat) : Int)) ≤ 0 ∧ (0 : Int) ≤ 99 * ((0 : Nat) : Int); omega
  | m + 1, v, H, R, L, hv => by
    rw [BO_s]
    have b0 := BO_bd hW m (1 - v) H R L (by omega)
    refine mxF_bd ⟨by omega, by omega⟩ (fun q hq => ?_)
    have b1 := BO_bd hW m (1 - v) (updN H v (H v ||| 2 ^ q)) (updI R v (R v - 1)) (updI L q (L q - 1)) (by omega)
    have b2 := hW v q hv hq
    unfold vlT tkG
    split <;> omega
theorem vl_bd (hW : ∀ v q : Nat, v < 2 → q < 6 → 0 ≤ W (pl v * 6 + q) ∧ W (pl v * 6 + q) ≤ 99) {m v q : Nat} {H : Nat → Nat} {R L : Nat → Int} (hv : v < 2) (hq : q < 6) : -(99 * (m : Int)) ≤ vlT W pl m v H R L q ∧ vlT W pl m v H R L q ≤ 99 * (m : Int) + 99 := by
  have b1 := BO_bd hW m (1 - v) (updN H v (H v ||| 2 ^ q)) (updI R v (R v - 1)) (updI L q (L q - 1)) (by omega)
  have b2 := hW v q hv hq
  unfold vlT tkG
  split <;> omega
end TU2
def tsC (W : Nat → Int) (s : Nat) (pl H : Nat → Nat) (R L : Nat → Int) (g : HP) : Prop := okSt (g 2 0) (g 2 1) ∧ g 6 = W ∧ g 2 0 = s ∧ (∀ v, v < 2 → g 63 v = ((pl v : Nat) : Int) ∧ ((pl v : Nat) : Int) < g 2 1 ∧ g 64 v = R v ∧ 0 ≤ R v ∧ R v ≤ 4 ∧ g 65 v = ((H v : Nat) : Int) ∧ H v < 64) ∧ ∀ q : Nat, q < 6 → g 66 q = L q ∧ 0 ≤ L q ∧ L q ≤ 8 ∧ (0 < L q → q < s)
theorem hs6 {g : HP} {v q : Nat} {a b c : Int} : hset (hset (hset (hset (hset (hset g 65 v a) 64 v b) 66 q c) 66 q (g 66 q)) 64 v (g 64 v)) 65 v (g 65 v) = g := by
  funext c' j'
  simp only [hset_at]
  by_cases h1 : c' = 65 ∧ j' = v
  · rw [if_pos h1, h1.1, h1.2]
  · rw [if_neg h1]
    by_cases h2 : c' = 64 ∧ j' = v
    · rw [if_pos h2, h2.1, h2.2]
    · rw [if_neg h2]
      by_cases h3 : c' = 66 ∧ j' = q
      · rw [if_pos h3, h3.1, h3.2]
      · rw [if_neg h3, if_neg h3, if_neg h2, if_neg h1]
section TU3
variable {W : Nat → Int} {pl : Nat → Nat} {s : Nat}
theorem C_value {Rc : Int → Int → HP → (Int → HP → Prop) → Prop} {m v q : Nat} {H : Nat → Nat} {R L : Nat → Int} {g : HP} {Q : Int → HP → Prop} (hR : ∀ (H : Nat → Nat) (R L : Nat → Int) (g : HP) (Q : Int → HP → Prop), tsC W s pl H R L g → Q (BO W pl m (1 - v) H R L) g → Rc (m : Int) ((1 - v : Nat) : Int) g Q) (T : tsC W s pl H R L g) (hv : v < 2) (hq : q < 6) (h1 : 0 < L q) (h2 : 0 < R v) (hQ : Q (vlT W pl m v H R L q) g) : p6_valueOfTaking Rc q ((m + 1 : Nat) : Int) v g Q := by
  obtain ⟨t1, t2, t3, t4, t5⟩ := id T
  obtain ⟨p1, p2, p3, p4, p5, p6, p7⟩ := t4 v hv
  obtain ⟨l1, l2, l3, l4⟩ := t5 q hq
  have hst := t1
  unfold okSt at hst
  unfold p6_valueOfTaking
  refine rd_n hv (by decide) ?_
  rw [p6]
  refine jn_r (fun K => K (tkG W pl H v q)) (fun K hK => ?_) ?_
  · rw [bit_n (H v) q (by omega) (by omega)]
    unfold tkG at hK
    by_cases c : (H v).testBit q = true
    · rw [if_pos c] at hK ⊢
      exact brN (by decide) hK
    · rw [if_neg c] at hK ⊢
      refine brY (by decide) (rd_n hv (by decide) ?_)
      rw [p1]
      refine C_worthOf t1 p2 (by rw [t3]; have := l4 h1; omega) ?_
      rw [t2, show (((pl v : Nat) : Int) * 6 + (q : Int)).toNat = pl v * 6 + q from by omega]
      exact hK
  · rw [sl_n q (by omega), io_n _ _ (by omega) (two_le (by omega))]
    refine wr_n hv (by decide) (rd_n hv (by decide) ?_)
    rw [hset_c (show (64 : Nat) ≠ 65 by decide), p3]
    refine wr_n hv (by decide) (rd_n hq (by decide) ?_)
    rw [hset_c (show (66 : Nat) ≠ 64 by decide), hset_c (show (66 : Nat) ≠ 65 by decide), l1]
    refine wr_n hq (by decide) ?_
    rw [show (((m + 1 : Nat) : Int) - 1) = (m : Int) from by omega, show (1 - (v : Int)) = ((1 - v : Nat) : Int) from by omega]
    refine hR (updN H v (H v ||| 2 ^ q)) (updI R v (R v - 1)) (updI L q (L q - 1)) _ _ ⟨?_, ?_, ?_, fun u hu => ?_, fun k hk => ?_⟩ ?_
    · rw [hset_c (by decide), hset_c (by decide), hset_c (by decide)]; exact t1
    · rw [hset_c (by decide), hset_c (by decide), hset_c (by decide)]; exact t2
    · rw [hset_c (by decide), hset_c (by decide), hset_c (by decide)]; exact t3
    · obtain ⟨a1, a2, a3, a4, a5, a6, a7⟩ := t4 u hu
      rw [hset_c (show (63 : Nat) ≠ 66 by decide), hset_c (show (63 : Nat) ≠ 64 by decide), hset_c (show (63 : Nat) ≠ 65 by decide), hset_c (show (2 : Nat) ≠ 66 by decide), hset_c (show (2 : Nat) ≠ 64 by decide), hset_c (show (2 : Nat) ≠ 65 by decide), hset_c (show (64 : Nat) ≠ 66 by decide), hset_c (show (65 : Nat) ≠ 66 by decide), hset_c (show (65 : Nat) ≠ 64 by decide)]
      by_cases c : u = v
      · subst c
        rw [hset_rs, hset_rs, updI_s, show updN H u (H u ||| 2 ^ q) u = H u ||| 2 ^ q from if_pos rfl]
        exact ⟨a1, a2, rfl, by omega, by omega, rfl, Nat.or_lt_two_pow (n := 6) a7 (Nat.pow_lt_pow_right (by decide) (by omega))⟩
      · rw [hset_rn c, hset_rn c, updI_n c, show updN H v (H v ||| 2 ^ q) u = H u from if_neg c, hset_c (by decide)]
        exact ⟨a1, a2, a3, a4, a5, a6, a7⟩
    · obtain ⟨b1, b2, b3, b4⟩ := t5 k hk
      by_cases c : k = q
      · subst c
        rw [hset_rs, updI_s]
        exact ⟨rfl, by omega, by omega, fun _ => l4 h1⟩
      · rw [hset_rn c, updI_n c, hset_c (by decide), hset_c (by decide)]
        exact ⟨b1, b2, b3, b4⟩
    · refine rd_n hq (by decide) ?_
      rw [hset_rs]
      refine wr_n hq (by decide) (rd_n hv (by decide) ?_)
      rw [hset_c (show (64 : Nat) ≠ 66 by decide), hset_c (show (64 : Nat) ≠ 66 by decide), hset_rs]
      refine wr_n hv (by decide) (wr_n hv (by decide) ?_)
      rw [show L q - 1 + 1 = g 66 q from by omega, show R v - 1 + 1 = g 64 v from by omega, ← p6, hs6]
      exact hQ
theorem C_bestOf (hW : ∀ v q : Nat, v < 2 → q < 6 → 0 ≤ W (pl v * 6 + q) ∧ W (pl v * 6 + q) ≤ 99) : ∀ (m f v : Nat) (H : Nat → Nat) (R L : Nat → Int) (g : HP) (Q : Int → HP → Prop), m ≤ 4 → m < f → v < 2 → tsC W s pl H R L g → Q (BO W pl m v H R L) g → p6_bestOf f m v g Q := by
  intro m
  induction m with
  | zero =>
    intro f v H R L g Q m4 hf hv T hQ
    obtain ⟨f, rfl⟩ : ∃ n', f = n' + 1 := ⟨f - 1, by omega⟩
    show p6_bestOf_B (p6_bestOf f) _ v g Q
    unfold p6_bestOf_B
    exact brN (by decide) hQ
  | succ m ih =>
    intro f v H R L g Q m4 hf hv T hQ
    obtain ⟨f, rfl⟩ : ∃ n', f = n' + 1 := ⟨f - 1, by omega⟩
    obtain ⟨t1, t2, t3, t4, t5⟩ := id T
    obtain ⟨p1, p2, p3, p4, p5, p6, p7⟩ := t4 v hv
    have b0 := BO_bd hW m (1 - v) H R L (by omega)
    show p6_bestOf_B (p6_bestOf f) _ v g Q
    unfold p6_bestOf_B
    refine brY (by rw [w_id (by omega) (by omega)]; omega) ?_
    rw [show (((m + 1 : Nat) : Int) - 1) = (m : Int) from by omega, show (1 - (v : Int)) = ((1 - v : Nat) : Int) from by omega]
    refine ih f (1 - v) H R L g _ (by omega) (by omega) (by omega) T ?_
    rw [BO_s] at hQ
    have Lp : ∀ (k fu i : Nat), k < fu → i + k = 6 → p6_bestOf_L21 (p6_bestOf f) ((m + 1 : Nat) : Int) v Q fu g (mxF (fun q => decide (0 < L q ∧ 0 < R v)) (vlT W pl m v H R L) i (- BO W pl m (1 - v) H R L)) i := by
      intro k
      induction k with
      | zero =>
        intro fu i hfu hi
        obtain ⟨fu, rfl⟩ : ∃ n', fu = n' + 1 := ⟨fu - 1, by omega⟩
        obtain rfl : i = 6 := by omega
        unfold p6_bestOf_L21
        exact brY (Int.le_refl _) hQ
      | succ k ihk =>
        intro fu i hfu hi
        obtain ⟨fu, rfl⟩ : ∃ n', fu = n' + 1 := ⟨fu - 1, by omega⟩
        obtain ⟨l1, l2, l3, l4⟩ := t5 i (by omega)
        have nx := ihk fu (i + 1) (by omega) (by omega)
        have es : mxF (fun q => decide (0 < L q ∧ 0 < R v)) (vlT W pl m v H R L) (i + 1) (- BO W pl m (1 - v) H R L) = if decide (0 < L i ∧ 0 < R v) = true ∧ mxF (fun q => decide (0 < L q ∧ 0 < R v)) (vlT W pl m v H R L) i (- BO W pl m (1 - v) H R L) < vlT W pl m v H R L i then vlT W pl m v H R L i else mxF (fun q => decide (0 < L q ∧ 0 < R v)) (vlT W pl m v H R L) i (- BO W pl m (1 - v) H R L) := rfl
        rw [es] at nx
        have mb := mxF_bd (P := fun q => decide (0 < L q ∧ 0 < R v)) (f := vlT W pl m v H R L) (i := i) (acc := - BO W pl m (1 - v) H R L) (a := -500) (b := 500) ⟨by omega, by omega⟩ (fun j hj => by have := vl_bd hW (m := m) (v := v) (q := j) (H := H) (R := R) (L := L) hv (by omega); omega)
        have vb := vl_bd hW (m := m) (v := v) (q := i) (H := H) (R := R) (L := L) hv (by omega)
        unfold p6_bestOf_L21
        refine brN (fun z => by have := (wle ⟨by omega, by omega⟩ ⟨by omega, by omega⟩).mp z; omega) ?_
        refine rd_n (by omega) (by decide) ?_
        rw [l1]
        refine brQ (wle0 ⟨by omega, by omega⟩) (fun z => ?_) (fun z => rd_n hv (by decide) ?_)
        · rw [if_neg (fun y => by have := of_decide_eq_true y.1; omega)] at nx
          exact nx
        · rw [p3]
          refine brQ (wle0 ⟨by omega, by omega⟩) (fun z2 => ?_) (fun z2 => ?_)
          · rw [if_neg (fun y => by have := of_decide_eq_true y.1; omega)] at nx
            exact nx
          · refine C_value (fun H R L g Q T hQ => ih f (1 - v) H R L g Q (by omega) (by omega) (by omega) T hQ) T hv (by omega) (by omega) (by omega) ?_
            rw [mx_i ⟨by omega, by omega⟩ ⟨by omega, by omega⟩]
            have ed : decide (0 < L i ∧ 0 < R v) = true := decide_eq_true ⟨by omega, by omega⟩
            by_cases c : mxF (fun q => decide (0 < L q ∧ 0 < R v)) (vlT W pl m v H R L) i (- BO W pl m (1 - v) H R L) < vlT W pl m v H R L i
            · rw [if_pos c]
              rw [if_pos ⟨ed, c⟩] at nx
              exact nx
            · rw [if_neg c]
              rw [if_neg (fun y => c y.2)] at nx
              exact nx
    exact Lp 6 FUEL 0 (by decide) (by decide)
end TU3
def ptT (P : Nat → Bool) (f lst : Nat → Int) (base best pt : Int) (i : Nat) : Prop := (pt = -1 ∧ best = base ∧ ∀ q, q < i → P q = true → f q ≤ base) ∨ (∃ q, q < i ∧ P q = true ∧ f q = best ∧ base < best ∧ pt = lst q ∧ ∀ q', q' < i → P q' = true → f q' < best ∨ (f q' = best ∧ lst q ≤ lst q'))
section TU4
variable {W : Nat → Int} {pl : Nat → Nat} {s : Nat}
theorem tsC.pt {H : Nat → Nat} {R L : Nat → Int} {g : HP} {a : Int} (T : tsC W s pl H R L g) : tsC W s pl H R L (hset g 62 6 a) := by
  unfold tsC
  rw [hset_c (show (2 : Nat) ≠ 62 by decide), hset_c (show (6 : Nat) ≠ 62 by decide), hset_c (show (63 : Nat) ≠ 62 by decide), hset_c (show (64 : Nat) ≠ 62 by decide), hset_c (show (65 : Nat) ≠ 62 by decide), hset_c (show (66 : Nat) ≠ 62 by decide)]
  exact T
theorem C_playL (hW : ∀ v q : Nat, v < 2 → q < 6 → 0 ≤ W (pl v * 6 + q) ∧ W (pl v * 6 + q) ≤ 99) {m : Nat} {H : Nat → Nat} {R L lst : Nat → Int} {g : HP} {Q : Int → HP → Prop} {st : Int} (m4 : m ≤ 3) (T : tsC W s pl H R L g) (hl : ∀ q, q < 6 → 0 < L q → g 67 q = lst q ∧ 0 ≤ lst q ∧ lst q < 32) (hQ : ∀ pt, ptT (fun q => decide (0 < L q ∧ 0 < R 0)) (vlT W pl m 0 H R L) lst (- BO W pl m 1 H R L) (BO W pl (m + 1) 0 H R L) pt 6 → Q (st + BO W pl (m + 1) 0 H R L) (hset g 62 6 pt)) : p6_playOut_L52 ((m + 1 : Nat) : Int) st Q FUEL (hset g 62 6 (-1)) (- BO W pl m 1 H R L) 0 := by
  obtain ⟨t1, t2, t3, t4, t5⟩ := id T
  obtain ⟨p1, p2, p3, p4, p5, p6, p7⟩ := t4 0 (by decide)
  have b0 := BO_bd hW m 1 H R L (by decide)
  have Lp : ∀ (k fu i : Nat) (pt : Int), k < fu → i + k = 6 → ptT (fun q => decide (0 < L q ∧ 0 < R 0)) (vlT W pl m 0 H R L) lst (- BO W pl m 1 H R L) (mxF (fun q => decide (0 < L q ∧ 0 < R 0)) (vlT W pl m 0 H R L) i (- BO W pl m 1 H R L)) pt i → p6_playOut_L52 ((m + 1 : Nat) : Int) st Q fu (hset g 62 6 pt) (mxF (fun q => decide (0 < L q ∧ 0 < R 0)) (vlT W pl m 0 H R L) i (- BO W pl m 1 H R L)) i := by
    intro k
    induction k with
    | zero =>
      intro fu i pt hfu hi hp
      obtain ⟨fu, rfl⟩ : ∃ n', fu = n' + 1 := ⟨fu - 1, by omega⟩
      obtain rfl : i = 6 := by omega
      unfold p6_playOut_L52
      exact brY (Int.le_refl _) (hQ pt hp)
    | succ k ihk =>
      intro fu i pt hfu hi hp
      obtain ⟨fu, rfl⟩ : ∃ n', fu = n' + 1 := ⟨fu - 1, by omega⟩
      obtain ⟨l1, l2, l3, l4⟩ := t5 i (by omega)
      have nx := fun pt' => ihk fu (i + 1) pt' (by omega) (by omega)
      have es : mxF (fun q => decide (0 < L q ∧ 0 < R 0)) (vlT W pl m 0 H R L) (i + 1) (- BO W pl m 1 H R L) = if decide (0 < L i ∧ 0 < R 0) = true ∧ mxF (fun q => decide (0 < L q ∧ 0 < R 0)) (vlT W pl m 0 H R L) i (- BO W pl m 1 H R L) < vlT W pl m 0 H R L i then vlT W pl m 0 H R L i else mxF (fun q => decide (0 < L q ∧ 0 < R 0)) (vlT W pl m 0 H R L) i (- BO W pl m 1 H R L) := rfl
      rw [es] at nx
      have mb := mxF_bd (P := fun q => decide (0 < L q ∧ 0 < R 0)) (f := vlT W pl m 0 H R L) (i := i) (acc := - BO W pl m 1 H R L) (a := -500) (b := 500) ⟨by omega, by omega⟩ (fun j hj => by have := vl_bd hW (m := m) (v := 0) (q := j) (H := H) (R := R) (L := L) (by decide) (by omega); omega)
      have vb := vl_bd hW (m := m) (v := 0) (q := i) (H := H) (R := R) (L := L) (by decide) (by omega)
      have ma := fun j hj hpj => mxF_all (P := fun q => decide (0 < L q ∧ 0 < R 0)) (f := vlT W pl m 0 H R L) i (- BO W pl m 1 H R L) j hj hpj
      have mg := mxF_ge (P := fun q => decide (0 < L q ∧ 0 < R 0)) (f := vlT W pl m 0 H R L) i (- BO W pl m 1 H R L)
      generalize hbe : mxF (fun q => decide (0 < L q ∧ 0 < R 0)) (vlT W pl m 0 H R L) i (- BO W pl m 1 H R L) = be at *
      have keep : ¬ (0 < L i ∧ 0 < R 0) → p6_playOut_L52 ((m + 1 : Nat) : Int) st Q fu (hset g 62 6 pt) be ((i : Int) + 1) := fun c => by
        have ed : ¬ decide (0 < L i ∧ 0 < R 0) = true := fun z => c (of_decide_eq_true z)
        have := nx pt
        rw [if_neg (fun y => ed y.1)] at this
        refine this ?_
        rcases hp with ⟨a, b, d⟩ | ⟨q, q1, q2, q3, q4, q5, q6⟩
        · refine Or.inl ⟨a, b, fun q hq hp => ?_⟩
          by_cases e : q = i
          · subst e; exact absurd hp ed
          · exact d q (by omega) hp
        · refine Or.inr ⟨q, by omega, q2, q3, q4, q5, fun q' hq hp => ?_⟩
          by_cases e : q' = i
          · subst e; exact absurd hp ed
          · exact q6 q' (by omega) hp
      unfold p6_playOut_L52
      refine brN (fun z => by have := (wle ⟨by omega, by omega⟩ ⟨by omega, by omega⟩).mp z; omega) ?_
      refine rd_n (by omega) (by decide) ?_
      rw [hset_c (show (66 : Nat) ≠ 62 by decide), l1]
      refine brQ (wle0 ⟨by omega, by omega⟩) (fun z => keep (by omega)) (fun z => rd_i (by decide) (by decide) (by decide) ?_)
      rw [hset_c (show (64 : Nat) ≠ 62 by decide), show ((0 : Int)).toNat = 0 from rfl, p3]
      refine brQ (wle0 ⟨by omega, by omega⟩) (fun z2 => keep (by omega)) (fun z2 => ?_)
      have ed : decide (0 < L i ∧ 0 < R 0) = true := decide_eq_true ⟨by omega, by omega⟩
      obtain ⟨y1, y2, y3⟩ := hl i (by omega) (by omega)
      have val := C_value (Rc := p6_bestOf 8) (m := m) (v := 0) (q := i) (H := H) (R := R) (L := L) (g := hset g 62 6 pt) (s := s) (W := W) (pl := pl) (Q := fun r10 h11 => jn (fun (y14 : Int) => jn (rd h11 67 6 (i : Int) fun v17 => pf h11 62 6 v17 fun h18 => p6_playOut_L52 ((m + 1 : Nat) : Int) st Q fu h18 r10 ((i : Int) + 1)) fun K16 => brc (w32 be < w32 r10) (K16) (brc (w32 r10 = w32 be) (brc (w32 y14 = 0) (p6_playOut_L52 ((m + 1 : Nat) : Int) st Q fu h11 be ((i : Int) + 1)) (K16)) (p6_playOut_L52 ((m + 1 : Nat) : Int) st Q fu h11 be ((i : Int) + 1)))) fun K15 => jn (K15 0) fun K19 => brc (w32 (h11 62 6) = w32 (-1)) (K19) (rd h11 67 6 (i : Int) fun v20 => brc (w32 (h11 62 6) ≤ w32 v20) (K19) (K15 1))) (fun H R L g Q T hQ => C_bestOf hW m 8 1 H R L g Q (by omega) (by omega) (by decide) T hQ) T.pt (by decide) (by omega) (by omega) (by omega) ?_
      · exact val
      · generalize hfv : vlT W pl m 0 H R L i = fv at *
        have pb : -1 ≤ pt ∧ pt < 32 := by
          rcases hp with ⟨a, _, _⟩ | ⟨q, q1, q2, q3, q4, q5, q6⟩
          · omega
          · have := hl q (by omega) (by have := of_decide_eq_true q2; omega)
            omega
        have go : (be < fv ∨ (fv = be ∧ pt ≠ -1 ∧ lst i < pt)) → rd (hset g 62 6 pt) 67 6 (i : Int) fun v17 => pf (hset g 62 6 pt) 62 6 v17 fun h18 => p6_playOut_L52 ((m + 1 : Nat) : Int) st Q fu h18 fv ((i : Int) + 1) := fun c => by
          refine rd_n (by omega) (by decide) (pf_i ?_)
          rw [hset_c (show (67 : Nat) ≠ 62 by decide), y1, hset_ov]
          have := nx (lst i)
          have ee : (if decide (0 < L i ∧ 0 < R 0) = true ∧ be < fv then fv else be) = fv := by
            by_cases d : be < fv
            · rw [if_pos ⟨ed, d⟩]
            · rw [if_neg (fun y => d y.2)]; omega
          rw [ee] at this
          refine this (Or.inr ⟨i, by omega, ed, hfv, ?_, rfl, fun q' hq' hp' => ?_⟩)
          · rcases c with c | ⟨c1, c2, c3⟩
            · omega
            · rcases hp with ⟨a, _, _⟩ | ⟨q, q1, q2, q3, q4, q5, q6⟩
              · omega
              · omega
          · by_cases e : q' = i
            · subst e; exact Or.inr ⟨hfv, Int.le_refl _⟩
            · rcases c with c | ⟨c1, c2, c3⟩
              · have := ma q' (by omega) hp'
                exact Or.inl (by omega)
              · rcases hp with ⟨a, _, _⟩ | ⟨q, q1, q2, q3, q4, q5, q6⟩
                · omega
                · rcases q6 q' (by omega) hp' with r | ⟨r1, r2⟩
                  · exact Or.inl (by omega)
                  · exact Or.inr ⟨by omega, by omega⟩
        have stay : fv ≤ be → ¬ (fv = be ∧ pt ≠ -1 ∧ lst i < pt) → p6_playOut_L52 ((m + 1 : Nat) : Int) st Q fu (hset g 62 6 pt) be ((i : Int) + 1) := fun c1 c2 => by
          have := nx pt
          rw [if_neg (fun y => by omega)] at this
          refine this ?_
          rcases hp with ⟨a, b, d⟩ | ⟨q, q1, q2, q3, q4, q5, q6⟩
          · refine Or.inl ⟨a, b, fun q hq hp => ?_⟩
            by_cases e : q = i
            · subst e; rw [hfv]; omega
            · exact d q (by omega) hp
          · refine Or.inr ⟨q, by omega, q2, q3, q4, q5, fun q' hq hp => ?_⟩
            by_cases e : q' = i
            · subst e
              rw [hfv]
              by_cases e2 : fv < be
              · exact Or.inl e2
              · have := hl q (by omega) (by have := of_decide_eq_true q2; omega)
                exact Or.inr ⟨by omega, by omega⟩
            · exact q6 q' (by omega) hp
        have fin : ∀ y14 : Int, (y14 = 1 ∧ pt ≠ -1 ∧ lst i < pt ∨ y14 = 0 ∧ ¬ (pt ≠ -1 ∧ lst i < pt)) → jn (rd (hset g 62 6 pt) 67 6 (i : Int) fun v17 => pf (hset g 62 6 pt) 62 6 v17 fun h18 => p6_playOut_L52 ((m + 1 : Nat) : Int) st Q fu h18 fv ((i : Int) + 1)) fun K16 => brc (w32 be < w32 fv) (K16) (brc (w32 fv = w32 be) (brc (w32 y14 = 0) (p6_playOut_L52 ((m + 1 : Nat) : Int) st Q fu (hset g 62 6 pt) be ((i : Int) + 1)) (K16)) (p6_playOut_L52 ((m + 1 : Nat) : Int) st Q fu (hset g 62 6 pt) be ((i : Int) + 1))) := fun y14 hy => by
          refine jn_i (brQ (wlt ⟨by omega, by omega⟩ ⟨by omega, by omega⟩) (fun z => go (Or.inl z)) (fun z => brQ (weq ⟨by omega, by omega⟩ ⟨by omega, by omega⟩) (fun z2 => ?_) (fun z2 => stay (by omega) (fun y => z2 y.1))))
          rcases hy with ⟨rfl, y⟩ | ⟨rfl, y⟩
          · exact brN (by decide) (go (Or.inr ⟨z2, y⟩))
          · exact brY (by decide) (stay (by omega) (fun w => y w.2))
        refine jn_r (fun K => ∀ y14 : Int, (y14 = 1 ∧ pt ≠ -1 ∧ lst i < pt ∨ y14 = 0 ∧ ¬ (pt ≠ -1 ∧ lst i < pt)) → K y14) (fun K hK => jn_i ?_) fin
        rw [hset_rs]
        refine brQ (weq ⟨by omega, by omega⟩ ⟨by decide, by decide⟩) (fun z => hK 0 (Or.inr ⟨rfl, fun w => w.1 z⟩)) (fun z => rd_n (by omega) (by decide) ?_)
        rw [hset_c (show (67 : Nat) ≠ 62 by decide), y1]
        exact brQ (wle ⟨by omega, by omega⟩ ⟨by omega, by omega⟩) (fun z2 => hK 0 (Or.inr ⟨rfl, fun w => by omega⟩)) (fun z2 => hK 1 (Or.inl ⟨rfl, z, by omega⟩))
  exact Lp 6 FUEL 0 (-1) (by decide) (by decide) (Or.inl ⟨rfl, rfl, fun q hq => by omega⟩)
end TU4
