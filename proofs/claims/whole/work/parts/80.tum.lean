/-! ===== PURE: turns, the model's codes ===== -/
def dg (code j : Nat) : Nat := code / 9 ^ j % 9
theorem p9 (k : Nat) : 0 < 9 ^ k := Nat.pow_pos (by decide)
theorem dg_lo {code d k j : Nat} (hj : j < k) : dg (code + d * 9 ^ k) j = dg code j := by
  unfold dg
  have e : d * 9 ^ k = 9 ^ j * ((d * 9 ^ (k - j - 1)) * 9) := by
    rw [show k = j + ((k - j - 1) + 1) from by omega, Nat.pow_add, Nat.pow_succ, show j + ((k - j - 1) + 1) - j - 1 = k - j - 1 from by omega]
    rw [Nat.mul_left_comm, Nat.mul_assoc d]
  rw [e, Nat.add_mul_div_left _ _ (p9 j), Nat.add_mul_mod_self_right]
theorem dg_hi {code d k : Nat} (h : code < 9 ^ k) (hd : d < 9) : dg (code + d * 9 ^ k) k = d := by
  unfold dg
  rw [Nat.add_mul_div_right _ _ (p9 k), Nat.div_eq_of_lt h, Nat.zero_add]
  exact Nat.mod_eq_of_lt hd
theorem dg_z {code k : Nat} (h : code < 9 ^ k) : dg code k = 0 := by
  unfold dg
  rw [Nat.div_eq_of_lt h]
theorem dg_lt (code k : Nat) : dg code k < 9 := Nat.mod_lt _ (by decide)
def biT (V : HP) (c : Nat) (li : Nat → Nat) (d : Nat) : Nat := if d = 0 ∨ c < d then 0 else 2 ^ (V 1 (li (d - 1))).toNat
def mkA (V : HP) (c : Nat) (li : Nat → Nat) (S0 : Nat → Nat) (code : Nat) : Nat → Nat → Nat
  | 0, v => S0 v
  | k + 1, v => if k % 2 = v then mkA V c li S0 code k v ||| biT V c li (dg code k) else mkA V c li S0 code k v
def cnR (code v : Nat) : Nat → Int
  | 0 => 0
  | k + 1 => cnR code v k + (if k % 2 = v ∧ 0 < dg code k then 1 else 0)
def usD (code : Nat) : Nat → Nat → Bool
  | 0, _ => false
  | k + 1, d => usD code k d || decide (dg code k = d)
def lsD (V : HP) (c : Nat) (li : Nat → Nat) (code k q : Nat) : Int := fs (fun i => if V 1 (li i) = q ∧ usD code k (i + 1) = false then 1 else 0) 0 c
def wM (W : Nat → Int) (s x mask : Nat) : Int := fs (fun k => if mask.testBit k = true then W (x * 6 + k) else 0) 0 s
def dfM (W : Nat → Int) (s a b : Nat) (H : Nat → Nat) : Int := wM W s a (H 0) - wM W s b (H 1)
def ub (k : Nat) (x : Int) : Int := if k % 2 = 0 then x else -x
def rsD (R0 : Nat → Int) (code k : Nat) (v : Nat) : Int := R0 v - cnR code v k
def FF (V : HP) (W : Nat → Int) (s a b c : Nat) (li S0 : Nat → Nat) (R0 : Nat → Int) (k m code : Nat) : Int := dfM W s a b (mkA V c li S0 code k) + ub k (BO W (plF a b) m (k % 2) (mkA V c li S0 code k) (rsD R0 code k) (lsD V c li code k))
def alw (c : Nat) (R0 : Nat → Int) (code k d : Nat) : Prop := 1 ≤ d ∧ d ≤ c ∧ usD code k d = false ∧ 0 < rsD R0 code k (k % 2)
section TM0
variable {V : HP} {W : Nat → Int} {s a b c : Nat} {li S0 : Nat → Nat} {R0 : Nat → Int}
theorem mkA_c {x y : Nat} : ∀ k, (∀ j, j < k → dg x j = dg y j) → mkA V c li S0 x k = mkA V c li S0 y k
  | 0, _ => rfl
  | k + 1, h => by
    have e := mkA_c k (fun j hj => h j (by omega))
    funext v
    show (if k % 2 = v then mkA V c li S0 x k v ||| biT V c li (dg x k) else mkA V c li S0 x k v) = (if k % 2 = v then mkA V c li S0 y k v ||| biT V c li (dg y k) else mkA V c li S0 y k v)
    rw [e, h k (by omega)]
theorem cnR_c {x y v : Nat} : ∀ k, (∀ j, j < k → dg x j = dg y j) → cnR x v k = cnR y v k
  | 0, _ => rfl
  | k + 1, h => by
    show cnR x v k + (if k % 2 = v ∧ 0 < dg x k then 1 else 0) = cnR y v k + (if k % 2 = v ∧ 0 < dg y k then 1 else 0)
    rw [cnR_c k (fun j hj => h j (by omega)), h k (by omega)]
theorem usD_c {x y d : Nat} : ∀ k, (∀ j, j < k → dg x j = dg y j) → usD x k d = usD y k d
  | 0, _ => rfl
  | k + 1, h => by
    show (usD x k d || decide (dg x k = d)) = (usD y k d || decide (dg y k = d))
    rw [usD_c k (fun j hj => h j (by omega)), h k (by omega)]
theorem mkA_z {x k : Nat} (h : dg x k = 0) : mkA V c li S0 x (k + 1) = mkA V c li S0 x k := by
  funext v
  show (if k % 2 = v then mkA V c li S0 x k v ||| biT V c li (dg x k) else mkA V c li S0 x k v) = _
  rw [h, show biT V c li 0 = 0 from if_pos (Or.inl rfl), Nat.or_zero]
  split <;> rfl
theorem rsD_z {x k : Nat} (h : dg x k = 0) : rsD R0 x (k + 1) = rsD R0 x k := by
  funext v
  unfold rsD
  show R0 v - (cnR x v k + (if k % 2 = v ∧ 0 < dg x k then 1 else 0)) = _
  rw [if_neg (by omega), Int.add_zero]
theorem lsD_z {x k : Nat} (h : dg x k = 0) : lsD V c li x (k + 1) = lsD V c li x k := by
  funext q
  unfold lsD
  refine fs_congr c 0 (fun i _ _ => ?_)
  rw [show usD x (k + 1) (i + 1) = usD x k (i + 1) from by
    show (usD x k (i + 1) || decide (dg x k = i + 1)) = _
    rw [h, show decide (0 = i + 1) = false from decide_eq_false (by omega), Bool.or_false]]
theorem wM_or {x M q : Nat} (hq : q < s) : wM W s x (M ||| 2 ^ q) = wM W s x M + (if M.testBit q = true then 0 else W (x * 6 + q)) := by
  unfold wM
  have h1 := fs_one (f := fun k => if (M ||| 2 ^ q).testBit k = true then W (x * 6 + k) else 0) (g := fun k => if M.testBit k = true then W (x * 6 + k) else 0) 0 s q (by omega) (by omega) (fun k hk => by
    rw [Nat.testBit_or, Nat.testBit_two_pow_of_ne (fun z => hk z.symm), Bool.or_false])
  rw [h1, Nat.testBit_or, Nat.testBit_two_pow_self, Bool.or_true, if_pos rfl]
  by_cases d : M.testBit q = true
  · rw [if_pos d, if_pos d]; omega
  · rw [if_neg d, if_neg d]; omega
theorem ub_s {k : Nat} {x : Int} : ub k (ub (k + 1) x) = -x := by
  unfold ub
  by_cases d : k % 2 = 0
  · rw [if_pos d, if_neg (by omega)]
  · rw [if_neg d, if_pos (by omega)]
theorem ub_ub {k : Nat} {x : Int} : ub k (ub k x) = x := by
  unfold ub
  by_cases d : k % 2 = 0
  · rw [if_pos d, if_pos d]
  · rw [if_neg d, if_neg d]; omega
theorem ub_add {k : Nat} {x y : Int} : ub k (x + y) = ub k x + ub k y := by
  unfold ub
  by_cases d : k % 2 = 0
  · rw [if_pos d, if_pos d, if_pos d]
  · rw [if_neg d, if_neg d, if_neg d]; omega
theorem FF_0 {k m code : Nat} (h : code < 9 ^ k) : ub k (FF V W s a b c li S0 R0 (k + 1) m code) = ub k (dfM W s a b (mkA V c li S0 code k)) - BO W (plF a b) m (1 - k % 2) (mkA V c li S0 code k) (rsD R0 code k) (lsD V c li code k) := by
  have z := dg_z h
  unfold FF
  rw [ub_add, ub_s, mkA_z z, rsD_z z, lsD_z z, show (k + 1) % 2 = 1 - k % 2 from by omega]; omega
theorem FF_d {k m code d : Nat} (h : code < 9 ^ k) (hd : d < 9) (hA : alw c R0 code k d) (hs : 0 ≤ V 1 (li (d - 1)) ∧ V 1 (li (d - 1)) < s) : ub k (FF V W s a b c li S0 R0 (k + 1) m (code + d * 9 ^ k)) = ub k (dfM W s a b (mkA V c li S0 code k)) + vlT W (plF a b) m (k % 2) (mkA V c li S0 code k) (rsD R0 code k) (lsD V c li code k) (V 1 (li (d - 1))).toNat := by
  obtain ⟨d1, d2, d3, d4⟩ := hA
  have lo : ∀ j, j < k → dg (code + d * 9 ^ k) j = dg code j := fun j hj => dg_lo hj
  have hi := dg_hi h hd
  generalize code + d * 9 ^ k = cd at *
  obtain ⟨q, hq⟩ := Int.eq_ofNat_of_zero_le hs.1
  have eq : (V 1 (li (d - 1))).toNat = q := by omega
  have eb : biT V c li d = 2 ^ q := by unfold biT; rw [if_neg (by omega), eq]
  have e1 : mkA V c li S0 cd (k + 1) = updN (mkA V c li S0 code k) (k % 2) (mkA V c li S0 code k (k % 2) ||| 2 ^ q) := by
    funext v
    show (if k % 2 = v then mkA V c li S0 cd k v ||| biT V c li (dg cd k) else mkA V c li S0 cd k v) = (if v = k % 2 then _ else _)
    rw [mkA_c k lo, hi, eb]
    by_cases e : k % 2 = v
    · rw [if_pos e, if_pos e.symm, e]
    · rw [if_neg e, if_neg (fun z => e z.symm)]
  have e2 : rsD R0 cd (k + 1) = updI (rsD R0 code k) (k % 2) (rsD R0 code k (k % 2) - 1) := by
    funext v
    show R0 v - (cnR cd v k + (if k % 2 = v ∧ 0 < dg cd k then 1 else 0)) = (if v = k % 2 then rsD R0 code k (k % 2) - 1 else rsD R0 code k v)
    rw [cnR_c k lo, hi]
    by_cases e : k % 2 = v
    · rw [if_pos ⟨e, by omega⟩, if_pos e.symm, e]; unfold rsD; omega
    · rw [if_neg (fun z => e z.1), if_neg (fun z => e z.symm)]; unfold rsD; omega
  have e3 : lsD V c li cd (k + 1) = updI (lsD V c li code k) q (lsD V c li code k q - 1) := by
    have us : ∀ i, usD cd (k + 1) (i + 1) = (usD code k (i + 1) || decide (d = i + 1)) := fun i => by
      show (usD cd k (i + 1) || decide (dg cd k = i + 1)) = _
      rw [usD_c k lo, hi]
    funext q'
    have h1 := fs_one (f := fun i => if V 1 (li i) = (q' : Int) ∧ usD cd (k + 1) (i + 1) = false then (1 : Int) else 0) (g := fun i => if V 1 (li i) = (q' : Int) ∧ usD code k (i + 1) = false then (1 : Int) else 0) 0 c (d - 1) (by omega) (by omega) (fun i hi => by
      rw [us i, show decide (d = i + 1) = false from decide_eq_false (by omega), Bool.or_false])
    have f0 : (if V 1 (li (d - 1)) = (q' : Int) ∧ usD cd (k + 1) (d - 1 + 1) = false then (1 : Int) else 0) = 0 := if_neg (fun z => by
      have := z.2
      rw [us, show decide (d = d - 1 + 1) = true from decide_eq_true (by omega), Bool.or_true] at this
      cases this)
    have g0 : (if V 1 (li (d - 1)) = (q' : Int) ∧ usD code k (d - 1 + 1) = false then (1 : Int) else 0) = if q' = q then 1 else 0 := by
      rw [show d - 1 + 1 = d from by omega, d3, hq]
      by_cases e : q' = q
      · rw [if_pos e, if_pos ⟨by omega, rfl⟩]
      · rw [if_neg e, if_neg (fun z => by omega)]
    show fs (fun i => if V 1 (li i) = (q' : Int) ∧ usD cd (k + 1) (i + 1) = false then (1 : Int) else 0) 0 c = (if q' = q then lsD V c li code k q - 1 else lsD V c li code k q')
    rw [h1, f0, g0]
    by_cases e : q' = q
    · rw [if_pos e, if_pos e, e]; unfold lsD; omega
    · rw [if_neg e, if_neg e]; unfold lsD; omega
  unfold FF
  rw [ub_add, ub_s, e1, e2, e3, show (k + 1) % 2 = 1 - k % 2 from by omega, eq]
  have hqs : q < s := by omega
  have ed : ub k (dfM W s a b (updN (mkA V c li S0 code k) (k % 2) (mkA V c li S0 code k (k % 2) ||| 2 ^ q))) = ub k (dfM W s a b (mkA V c li S0 code k)) + tkG W (plF a b) (mkA V c li S0 code k) (k % 2) q := by
    unfold dfM tkG ub
    by_cases e : k % 2 = 0
    · rw [if_pos e, if_pos e, e, show updN (mkA V c li S0 code k) 0 (mkA V c li S0 code k 0 ||| 2 ^ q) 0 = mkA V c li S0 code k 0 ||| 2 ^ q from if_pos rfl, show updN (mkA V c li S0 code k) 0 (mkA V c li S0 code k 0 ||| 2 ^ q) 1 = mkA V c li S0 code k 1 from if_neg (by decide), wM_or hqs]
      show _ = _ + (if (mkA V c li S0 code k 0).testBit q = true then 0 else W (a * 6 + q))
      omega
    · have e' : k % 2 = 1 := by omega
      rw [if_neg e, if_neg e, e', show updN (mkA V c li S0 code k) 1 (mkA V c li S0 code k 1 ||| 2 ^ q) 1 = mkA V c li S0 code k 1 ||| 2 ^ q from if_pos rfl, show updN (mkA V c li S0 code k) 1 (mkA V c li S0 code k 1 ||| 2 ^ q) 0 = mkA V c li S0 code k 0 from if_neg (by decide), wM_or hqs]
      show _ = _ + (if (mkA V c li S0 code k 1).testBit q = true then 0 else W (b * 6 + q))
      omega
  rw [ed]
  unfold vlT
  omega
end TM0
def opP (A : Nat → Prop) (f : Nat → Int) (base best : Int) (first i : Nat) : Prop := (first = 0 ∧ best = base ∧ ∀ d, 1 ≤ d → d < i → A d → f d ≤ base) ∨ (1 ≤ first ∧ first < i ∧ A first ∧ f first = best ∧ base < best ∧ (∀ d, 1 ≤ d → d < first → A d → f d < best) ∧ ∀ d, 1 ≤ d → d < i → A d → f d ≤ best)
theorem opP_mx {A : Nat → Prop} {f : Nat → Int} {best C B0 : Int} {first : Nat} {P : Nat → Bool} {vl : Nat → Int} {qf : Nat → Nat} (o : opP A f (C - B0) best first 9) (h1 : ∀ d, 1 ≤ d → d < 9 → A d → qf d < 6 ∧ P (qf d) = true ∧ f d = C + vl (qf d)) (h2 : ∀ q, q < 6 → P q = true → ∃ d, 1 ≤ d ∧ d < 9 ∧ A d ∧ qf d = q) : best = C + mxF P vl 6 (-B0) := by
  have ge := mxF_ge (P := P) (f := vl) 6 (-B0)
  have le : best ≤ C + mxF P vl 6 (-B0) := by
    rcases o with ⟨_, o2, _⟩ | ⟨o1, o2, o3, o4, o5, o6, o7⟩
    · omega
    · obtain ⟨a1, a2, a3⟩ := h1 first o1 o2 o3
      have := mxF_all (P := P) (f := vl) 6 (-B0) _ a1 a2
      omega
  have ge2 : C + mxF P vl 6 (-B0) ≤ best := by
    rcases mxF_at (P := P) (f := vl) 6 (-B0) with r | ⟨q, q1, q2, q3⟩
    · rcases o with ⟨_, o2, _⟩ | ⟨o1, o2, o3, o4, o5, o6, o7⟩ <;> omega
    · obtain ⟨d, d1, d2, d3, d4⟩ := h2 q q1 q2
      obtain ⟨a1, a2, a3⟩ := h1 d d1 d2 d3
      rw [d4] at a3
      rcases o with ⟨_, o2, o3⟩ | ⟨o1, o2, o3, o4, o5, o6, o7⟩
      · have := o3 d d1 d2 d3; omega
      · have := o7 d d1 d2 d3; omega
  omega
section TM1
variable {V : HP} {W : Nat → Int} {s a b c : Nat} {li S0 : Nat → Nat} {R0 : Nat → Int}
/-- what the class may take, and what the model may -/
theorem alw_q {code k d : Nat} (c8 : c ≤ 8) (s6 : s ≤ 6) (hs : ∀ i, i < c → 0 ≤ V 1 (li i) ∧ V 1 (li i) < s) (hA : alw c R0 code k d) : (V 1 (li (d - 1))).toNat < 6 ∧ decide (0 < lsD V c li code k (V 1 (li (d - 1))).toNat ∧ 0 < rsD R0 code k (k % 2)) = true := by
  obtain ⟨d1, d2, d3, d4⟩ := hA
  have := hs (d - 1) (by omega)
  refine ⟨by omega, decide_eq_true ⟨?_, d4⟩⟩
  exact (fs_pos (f := fun i => if V 1 (li i) = (((V 1 (li (d - 1))).toNat : Nat) : Int) ∧ usD code k (i + 1) = false then (1 : Int) else 0) 0 c (fun i _ _ => by
    by_cases e : V 1 (li i) = (((V 1 (li (d - 1))).toNat : Nat) : Int) ∧ usD code k (i + 1) = false
    · rw [if_pos e]; decide
    · rw [if_neg e]; decide)).mpr ⟨d - 1, by omega, by omega, by rw [if_pos ⟨by omega, by rw [show d - 1 + 1 = d from by omega]; exact d3⟩]; decide⟩
theorem q_alw {code k q : Nat} (hP : decide (0 < lsD V c li code k q ∧ 0 < rsD R0 code k (k % 2)) = true) : ∃ d, 1 ≤ d ∧ d ≤ c ∧ alw c R0 code k d ∧ V 1 (li (d - 1)) = q := by
  obtain ⟨h1, h2⟩ := of_decide_eq_true hP
  obtain ⟨i, _, i2, i3⟩ := (fs_pos (f := fun i => if V 1 (li i) = (q : Int) ∧ usD code k (i + 1) = false then (1 : Int) else 0) 0 c (fun i _ _ => by
    by_cases e : V 1 (li i) = (q : Int) ∧ usD code k (i + 1) = false
    · rw [if_pos e]; decide
    · rw [if_neg e]; decide)).mp h1
  by_cases e : V 1 (li i) = (q : Int) ∧ usD code k (i + 1) = false
  · exact ⟨i + 1, by omega, by omega, ⟨by omega, by omega, e.2, h2⟩, e.1⟩
  · rw [if_neg e] at i3; omega
theorem FF_step {k m code first : Nat} {best : Int} (c8 : c ≤ 8) (s6 : s ≤ 6) (hs : ∀ i, i < c → 0 ≤ V 1 (li i) ∧ V 1 (li i) < s) (h : code < 9 ^ k) (o : opP (alw c R0 code k) (fun d => ub k (FF V W s a b c li S0 R0 (k + 1) m (code + d * 9 ^ k))) (ub k (FF V W s a b c li S0 R0 (k + 1) m code)) (ub k best) first 9) : best = FF V W s a b c li S0 R0 k (m + 1) code := by
  rw [FF_0 h] at o
  have := opP_mx (P := fun q => decide (0 < lsD V c li code k q ∧ 0 < rsD R0 code k (k % 2))) (vl := vlT W (plF a b) m (k % 2) (mkA V c li S0 code k) (rsD R0 code k) (lsD V c li code k)) (qf := fun d => (V 1 (li (d - 1))).toNat) o (fun d d1 d9 hA => ?_) (fun q q6 hP => ?_)
  · rw [← BO_s] at this
    have e := congrArg (ub k) this
    rw [ub_ub, ub_add, ub_ub] at e
    exact e
  · obtain ⟨a1, a2⟩ := alw_q c8 s6 hs hA
    exact ⟨a1, a2, FF_d h d9 hA (hs (d - 1) (by have := hA.2.1; omega))⟩
  · obtain ⟨d, e1, e2, e3, e4⟩ := q_alw hP
    exact ⟨d, e1, by omega, e3, by show (V 1 (li (d - 1))).toNat = q; rw [e4]; rfl⟩
end TM1
