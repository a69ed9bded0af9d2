/-! ===== PURE: turns, both ===== -/
def FH (h : HP) (a b c : Nat) (li : Nat → Nat) (k m code : Nat) : Int := FF (VC 13 h) (h 6) (h 2 0).toNat a b c li (hS0 (VC 13 h) (h 2 0).toNat a b) (rS0 (VC 13 h) a b) k m code
def fpT (h : HP) (a b c : Nat) (li : Nat → Nat) (k m first cd : Nat) : Prop := opP (alw c (rS0 (VC 13 h) a b) cd k) (fun d => ub k (FH h a b c li (k + 1) m (cd + d * 9 ^ k))) (ub k (FH h a b c li (k + 1) m cd)) (ub k (FH h a b c li k (m + 1) cd)) first 9
section TO1
variable {h : HP} {N c a b : Nat} {w : Int} {li : Nat → Nat}
theorem tuG.set {g : HP} {j : Nat} {v : Int} (G : tuG h c li g) : tuG h c li (hset g 91 j v) := ⟨G.1.set (by omega), by rw [hset_c (by decide)]; exact G.2.1, fun i hi => by rw [hset_c (by decide)]; exact G.2.2 i hi⟩
theorem FH_bd (hI : INV h) (ha : (a : Int) < h 2 1) (hb : (b : Int) < h 2 1) {k m code : Nat} (m4 : m ≤ 4) : -1000 ≤ FH h a b c li k m code ∧ FH h a b c li k m code ≤ 1000 := by
  have hst := hI.1.1
  unfold okSt at hst
  have hW := hI.w6
  have wb : ∀ x mask : Nat, (x : Int) < h 2 1 → 0 ≤ wM (h 6) (h 2 0).toNat x mask ∧ wM (h 6) (h 2 0).toNat x mask ≤ 594 := fun x mask hx => by
    have := fs_bd (f := fun k => if mask.testBit k = true then h 6 (x * 6 + k) else 0) (a := 0) (b := 99) (h 2 0).toNat 0 (fun q _ hq => by
      have := hW (x * 6 + q) (by omega)
      by_cases d : mask.testBit q = true
      · rw [if_pos d]; exact this
      · rw [if_neg d]; omega)
    unfold wM
    omega
  have bb := BO_bd (w_pl hI.1 hW ha hb) m (k % 2) (mkA (VC 13 h) c li (hS0 (VC 13 h) (h 2 0).toNat a b) code k) (rsD (rS0 (VC 13 h) a b) code k) (lsD (VC 13 h) c li code k) (Nat.mod_lt _ (by decide))
  have w1 := wb a (mkA (VC 13 h) c li (hS0 (VC 13 h) (h 2 0).toNat a b) code k 0) ha
  have w2 := wb b (mkA (VC 13 h) c li (hS0 (VC 13 h) (h 2 0).toNat a b) code k 1) hb
  unfold FH FF dfM ub
  split <;> omega
theorem M_best {E : Int → Int → Prop} {g : HP} {R0 f : Nat → Int} {k code : Nat} {x1 x2 x5 hs base : Int} (G : tuG h c li g) (c8 : c ≤ 8) (k3 : k ≤ 3) (hc : code < 9 ^ k) (hh : hs = 4 - R0 (k % 2)) (hb : 0 ≤ hs ∧ hs ≤ 4) (hf : ∀ d, 1 ≤ d → d < 9 → g 91 (code + d * 9 ^ k) = f d ∧ -1000 ≤ f d ∧ f d ≤ 1000) (hB : -1000 ≤ base ∧ base ≤ 1000) (hE : ∀ (first : Nat) (best : Int), opP (alw c R0 code k) (fun d => ub k (f d)) (ub k base) (ub k best) first 9 → E first best) : p8_turnsAt_L176 x1 x2 x5 ((k + 1 : Nat) : Int) hs code g E FUEL 0 base 1 := by
  have h9 := p9_le (show k ≤ 4 by omega)
  have h9' := p9 k
  have k2 : k % 2 < 2 := Nat.mod_lt _ (by decide)
  have L : ∀ (m fu i first : Nat) (best : Int), m < fu → i + m = 9 → 1 ≤ i → first < 9 → -1000 ≤ best ∧ best ≤ 1000 → opP (alw c R0 code k) (fun d => ub k (f d)) (ub k base) (ub k best) first i → p8_turnsAt_L176 x1 x2 x5 ((k + 1 : Nat) : Int) hs code g E fu first best i := by
    intro m
    induction m with
    | zero =>
      intro fu i first best hfu hi i1 fl bb o
      obtain ⟨fu, rfl⟩ : ∃ n', fu = n' + 1 := ⟨fu - 1, by omega⟩
      obtain rfl : i = 9 := by omega
      unfold p8_turnsAt_L176
      exact brY (Int.le_refl _) (hE first best o)
    | succ m ih =>
      intro fu i first best hfu hi i1 fl bb o
      obtain ⟨fu, rfl⟩ : ∃ n', fu = n' + 1 := ⟨fu - 1, by omega⟩
      obtain ⟨f1, f2, f3⟩ := hf i i1 (by omega)
      have hcd : code + i * 9 ^ k < 6561 := by
        have e1 : i * 9 ^ k ≤ 8 * 9 ^ k := Nat.mul_le_mul_right _ (by omega)
        have e2 : 9 ^ (k + 1) ≤ 9 ^ 4 := Nat.pow_le_pow_right (show 9 > 0 by decide) (by omega)
        rw [Nat.pow_succ, show (9 : Nat) ^ 4 = 6561 from by decide] at e2
        omega
      have ec : ((code : Int) + (i : Int) * ((9 ^ k : Nat) : Int)) = ((code + i * 9 ^ k : Nat) : Int) := rfl
      unfold p8_turnsAt_L176
      refine brN (fun z => by have := (wle ⟨by omega, by omega⟩ ⟨by omega, by omega⟩).mp z; omega) ?_
      rw [show (((k + 1 : Nat) : Int) - 1) = (k : Int) from by omega]
      refine M_power (by omega) ?_
      rw [ec, show (2 : Int) = ((2 : Nat) : Int) from rfl, qm_nn (k + 1) 2 (by omega) (by decide)]
      have body : ∀ y : Int, (y = 1 ∧ alw c R0 code k i ∧ ub k best < ub k (f i) ∨ y = 0 ∧ ¬ (alw c R0 code k i ∧ ub k best < ub k (f i))) → jn (fun (y30 : Int) => brc (w32 y = 0) (p8_turnsAt_L176 x1 x2 x5 ((k + 1 : Nat) : Int) hs code g E fu first y30 ((i : Int) + 1)) (p8_turnsAt_L176 x1 x2 x5 ((k + 1 : Nat) : Int) hs code g E fu i y30 ((i : Int) + 1))) fun K31 => brc (w32 y = 0) (K31 best) (rd g 91 6561 ((code + i * 9 ^ k : Nat) : Int) fun v32 => K31 v32) := fun y hy => by
        rcases hy with ⟨rfl, y1, y2⟩ | ⟨rfl, y1⟩
        · refine jn_i (brN (by decide) (rd_n hcd (by decide) (brN (by decide) ?_)))
          rw [f1]
          refine ih fu (i + 1) i (f i) (by omega) (by omega) (by omega) (by omega) ⟨f2, f3⟩ (Or.inr ⟨i1, by omega, y1, rfl, ?_, fun d d1 d2 hA => ?_, fun d d1 d2 hA => ?_⟩)
          · rcases o with ⟨_, o2, _⟩ | ⟨_, _, _, _, o5, _, _⟩ <;> omega
          · have : ub k (f d) ≤ ub k best := by
              rcases o with ⟨_, o2, o3⟩ | ⟨_, _, _, _, _, _, o7⟩
              · have := o3 d d1 d2 hA; have this' : ub k (f d) ≤ ub k base := this; omega
              · exact o7 d d1 d2 hA
            show ub k (f d) < ub k (f i)
            omega
          · by_cases e : d = i
            · subst e; exact Int.le_refl _
            · have : ub k (f d) ≤ ub k best := by
                rcases o with ⟨_, o2, o3⟩ | ⟨_, _, _, _, _, _, o7⟩
                · have := o3 d d1 (by omega) hA; have this' : ub k (f d) ≤ ub k base := this; omega
                · exact o7 d d1 (by omega) hA
              show ub k (f d) ≤ ub k (f i)
              omega
        · refine jn_i (brY (by decide) (brY (by decide) ?_))
          refine ih fu (i + 1) first best (by omega) (by omega) (by omega) fl bb ?_
          rcases o with ⟨o1, o2, o3⟩ | ⟨o1, o2, o3, o4, o5, o6, o7⟩
          · refine Or.inl ⟨o1, o2, fun d d1 d2 hA => ?_⟩
            by_cases e : d = i
            · subst e
              have : ¬ ub k best < ub k (f d) := fun z => y1 ⟨hA, z⟩
              show ub k (f d) ≤ ub k base
              omega
            · exact o3 d d1 (by omega) hA
          · refine Or.inr ⟨o1, by omega, o3, o4, o5, o6, fun d d1 d2 hA => ?_⟩
            by_cases e : d = i
            · subst e
              have : ¬ ub k best < ub k (f d) := fun z => y1 ⟨hA, z⟩
              show ub k (f d) ≤ ub k best
              omega
            · exact o7 d d1 (by omega) hA
      refine M_mayBe (R0 := R0) G c8 k3 hc i1 (by omega) hh hb (fun A => ?_) (fun A => ?_)
      · refine jn_r (fun K => ∀ y : Int, (y = 1 ∧ alw c R0 code k i ∧ ub k best < ub k (f i) ∨ y = 0 ∧ ¬ (alw c R0 code k i ∧ ub k best < ub k (f i))) → K y) (fun K hK => jn_i (brN (by decide) (jn_i ?_))) body
        refine brQ (weq ⟨by omega, by omega⟩ ⟨by decide, by decide⟩) (fun z => rd_n hcd (by decide) ?_) (fun z => rd_n hcd (by decide) ?_)
        · rw [f1]
          have e : k % 2 = 0 := by omega
          have u1 : ub k best = best := if_pos e
          have u2 : ub k (f i) = f i := if_pos e
          exact brQ (wle ⟨by omega, by omega⟩ ⟨by omega, by omega⟩) (fun z2 => hK 0 (Or.inr ⟨rfl, fun y => by have := y.2; omega⟩)) (fun z2 => hK 1 (Or.inl ⟨rfl, A, by omega⟩))
        · rw [f1]
          have e : ¬ k % 2 = 0 := by omega
          have u1 : ub k best = -best := if_neg e
          have u2 : ub k (f i) = -(f i) := if_neg e
          exact brQ (wle ⟨by omega, by omega⟩ ⟨by omega, by omega⟩) (fun z2 => hK 0 (Or.inr ⟨rfl, fun y => by have := y.2; omega⟩)) (fun z2 => hK 1 (Or.inl ⟨rfl, A, by omega⟩))
      · exact jn_r (fun K => ∀ y : Int, (y = 1 ∧ alw c R0 code k i ∧ ub k best < ub k (f i) ∨ y = 0 ∧ ¬ (alw c R0 code k i ∧ ub k best < ub k (f i))) → K y) (fun K hK => jn_i (brY (by decide) (hK 0 (Or.inr ⟨rfl, fun y => A y.1⟩)))) body
  exact L 8 FUEL 1 0 base (by decide) (by decide) (by decide) (by decide) hB (Or.inl ⟨rfl, rfl, fun d d1 d2 => by omega⟩)
theorem M_149 {E : HP → Int → Prop} {k m : Nat} {x1 x2 x5 hs : Int} (hI : INV h) (hN : h 13 1 = N) (l : LI (VC 13 h) w N c li) (ha : (a : Int) < h 2 1) (hb : (b : Int) < h 2 1) (k3 : k ≤ 3) (m3 : m ≤ 3) (hh : hs = 4 - rS0 (VC 13 h) a b (k % 2)) (hhb : 0 ≤ hs ∧ hs ≤ 4) (hE : ∀ (g : HP) (first : Nat), tuG h c li g → (∀ x, x < 9 ^ k → g 91 x = FH h a b c li k (m + 1) x) → fpT h a b c li k m first (9 ^ k - 1) → first < 9 → E g first) : ∀ (q fu code first : Nat) (g : HP), q < fu → code + q = 9 ^ k → tuG h c li g → (∀ x, x < code → g 91 x = FH h a b c li k (m + 1) x) → (∀ x, code ≤ x → x < 9 ^ (k + 1) → g 91 x = FH h a b c li (k + 1) m x) → (code = 0 ∨ (fpT h a b c li k m first (code - 1) ∧ first < 9)) → p8_turnsAt_L149 x1 x2 x5 ((k + 1 : Nat) : Int) hs E fu g first code := by
  have h9 := p9_le (show k ≤ 4 by omega)
  have h9' := p9 k
  have hst := hI.1.1
  unfold okSt at hst
  intro q
  induction q with
  | zero =>
    intro fu code first g hfu hq G f1 f2 fp
    obtain ⟨fu, rfl⟩ : ∃ n', fu = n' + 1 := ⟨fu - 1, by omega⟩
    unfold p8_turnsAt_L149
    rw [show (((k + 1 : Nat) : Int) - 1) = (k : Int) from by omega]
    refine M_power (by omega) ?_
    refine brY ((wle ⟨by omega, by omega⟩ ⟨by omega, by omega⟩).mpr (by omega)) ?_
    obtain rfl : code = 9 ^ k := by omega
    rcases fp with z | ⟨fp, fl⟩
    · omega
    · exact hE g first G f1 fp fl
  | succ q ih =>
    intro fu code first g hfu hq G f1 f2 fp
    obtain ⟨fu, rfl⟩ : ∃ n', fu = n' + 1 := ⟨fu - 1, by omega⟩
    have hlt : code < 9 ^ k := by omega
    have e9 : 9 ^ (k + 1) = 9 ^ k * 9 := Nat.pow_succ ..
    unfold p8_turnsAt_L149
    rw [show (((k + 1 : Nat) : Int) - 1) = (k : Int) from by omega]
    refine M_power (by omega) ?_
    refine brN (fun z => by have := (wle ⟨by omega, by omega⟩ ⟨by omega, by omega⟩).mp z; omega) ?_
    refine rd_n (by omega) (by decide) ?_
    rw [f2 code (by omega) (by omega)]
    have c8 := l.1
    refine M_best (R0 := rS0 (VC 13 h) a b) (f := fun d => FH h a b c li (k + 1) m (code + d * 9 ^ k)) G c8 k3 hlt hh hhb (fun d d1 d9 => ⟨f2 _ (by omega) ?_, FH_bd hI ha hb (by omega)⟩) (FH_bd hI ha hb (by omega)) (fun fi be o => ?_)
    · have e1 : d * 9 ^ k ≤ 8 * 9 ^ k := Nat.mul_le_mul_right _ (by omega)
      omega
    · have eb : be = FH h a b c li k (m + 1) code := FF_step c8 (by omega) (li_s hI hN l) hlt o
      subst eb
      refine wr_n (by omega) (by decide) ?_
      refine ih fu (code + 1) fi _ (by omega) (by omega) G.set (fun x hx => ?_) (fun x x1 x2 => ?_) (Or.inr ⟨o, ?_⟩)
      · by_cases e : x = code
        · subst e; rw [hset_rs]
        · rw [hset_rn e]; exact f1 x (by omega)
      · rw [hset_rn (by omega)]; exact f2 x (by omega) x2
      · rcases o with ⟨o1, _, _⟩ | ⟨_, o2, _⟩ <;> omega
theorem M_122 {E : HP → Int → Prop} {n : Nat} {x5 : Int} (hI : INV h) (hN : h 13 1 = N) (l : LI (VC 13 h) w N c li) (ha : (a : Int) < h 2 1) (hb : (b : Int) < h 2 1) (n4 : n ≤ 4) (hE : ∀ (g : HP) (first : Nat), tuG h c li g → g 91 0 = FH h a b c li 0 n 0 → (n = 0 → first = 0) → (∀ m, n = m + 1 → fpT h a b c li 0 m first 0) → first < 9 → E g first) : ∀ (k m fu first : Nat) (g : HP), k < fu → k + m = n → tuG h c li g → (∀ x, x < 9 ^ k → g 91 x = FH h a b c li k m x) → (k = 0 → (n = 0 → first = 0) ∧ ∀ m', n = m' + 1 → fpT h a b c li 0 m' first 0) → first < 9 → p8_turnsAt_L122 a b x5 E fu g first k := by
  have hst := hI.1.1
  unfold okSt at hst
  intro k
  induction k with
  | zero =>
    intro m fu first g hfu hk G f1 fp fl
    obtain ⟨fu, rfl⟩ : ∃ n', fu = n' + 1 := ⟨fu - 1, by omega⟩
    unfold p8_turnsAt_L122
    obtain rfl : m = n := by omega
    exact brY (by decide) (hE g first G (f1 0 (by decide)) (fp rfl).1 (fp rfl).2 fl)
  | succ k ih =>
    intro m fu first g hfu hk G f1 fp fl
    obtain ⟨fu, rfl⟩ : ∃ n', fu = n' + 1 := ⟨fu - 1, by omega⟩
    have k2 : k % 2 < 2 := Nat.mod_lt _ (by decide)
    obtain ⟨m1, m2, _, _⟩ := scr_M hI G.1
    unfold p8_turnsAt_L122
    refine brN (fun z => by have := (wle0 ⟨by omega, by omega⟩).mp z; omega) ?_
    rw [show (2 : Int) = ((2 : Nat) : Int) from rfl, qm_nn (k + 1) 2 (by omega) (by decide)]
    have pb : ((plF a b (k % 2) : Nat) : Int) < h 2 1 := by unfold plF; split <;> omega
    refine jn_r (fun K => K ((plF a b (k % 2) : Nat) : Int)) (fun K hK => ?_) ?_
    · refine brQ (weq ⟨by omega, by omega⟩ ⟨by decide, by decide⟩) (fun z => ?_) (fun z => ?_)
      · rw [show plF a b (k % 2) = a from if_pos (by omega)] at hK; exact hK
      · rw [show plF a b (k % 2) = b from if_neg (by omega)] at hK; exact hK
    · refine M_countOf m1 ⟨by omega, by omega⟩ ?_
      rw [m2, hI.2.2.1.co]
      have c1 := cO_nn (VC 13 h) (plF a b (k % 2))
      have c2 := hI.1.2.1.2.2.2.1 (plF a b (k % 2)) (by omega) pb
      refine M_149 (k := k) (m := m) hI hN l ha hb (by omega) (by omega) (by unfold rS0; omega) ⟨c1, c2⟩ (fun g' fi G' q1 q2 q3 => ?_) (9 ^ k) FUEL 0 first g (by have := p9_le (show k ≤ 4 by omega); unfold FUEL; omega) (by omega) G (fun x hx => by omega) (fun x _ hx => f1 x hx) (Or.inl rfl)
      rw [show (((k + 1 : Nat) : Int) + (-1)) = (k : Int) from by omega]
      refine ih (m + 1) fu fi g' (by omega) (by omega) G' q1 (fun k0 => ⟨fun n0 => by omega, fun m' hm' => ?_⟩) q3
      subst k0
      obtain rfl : m' = m := by omega
      exact q2
theorem M_turns {Q : Int → HP → Prop} {g : HP} {n : Nat} {x5 : Int} (n4 : n ≤ 4) (hI : INV h) (f : SCR h g) (hN : h 13 1 = N) (ha : (a : Int) < h 2 1) (hb : (b : Int) < h 2 1) (hw : can w) (l : LI (VC 13 h) w N c li) (h5 : can x5) (hq : ∀ (g : HP) (first : Nat), SCR h g → (n = 0 → first = 0) → (∀ m, n = m + 1 → fpT h a b c li 0 m first 0) → (x5 = 0 → Q (FH h a b c li 0 n 0) g) ∧ (x5 ≠ 0 → first = 0 → Q (-1) g) ∧ (x5 ≠ 0 → 1 ≤ first → first ≤ c → Q ((li (first - 1) : Nat) : Int) g)) : p8_findLie w g fun h7 => p8_turnsAt_L82 a b n x5 (fun (h11 : HP) => p8_turnsAt_L122 a b x5 (fun (h44 : HP) (y45 : Int) => brc (w32 x5 = 0) (rd h44 91 6561 0 fun v47 => Q v47 h44) (brc (w32 y45 = 0) (Q (-1) h44) (rd h44 90 8 (y45 - 1) fun v46 => Q v46 h44))) FUEL h11 0 n) FUEL h7 0 := by
  have h9 := p9_le n4
  have h9' := p9 n
  have hst := hI.1.1
  unfold okSt at hst
  have c8 := l.1
  refine M_findLie hI f hN hw l (fun g1 G1 => ?_)
  have L : ∀ (m fu code : Nat) (g : HP), m < fu → code + m = 9 ^ n → tuG h c li g → (∀ x, x < code → g 91 x = FH h a b c li n 0 x) → p8_turnsAt_L82 a b n x5 (fun (h11 : HP) => p8_turnsAt_L122 a b x5 (fun (h44 : HP) (y45 : Int) => brc (w32 x5 = 0) (rd h44 91 6561 0 fun v47 => Q v47 h44) (brc (w32 y45 = 0) (Q (-1) h44) (rd h44 90 8 (y45 - 1) fun v46 => Q v46 h44))) FUEL h11 0 n) fu g code := by
    intro m
    induction m with
    | zero =>
      intro fu code g hfu hc G f1
      obtain ⟨fu, rfl⟩ : ∃ n', fu = n' + 1 := ⟨fu - 1, by omega⟩
      obtain rfl : code = 9 ^ n := by omega
      unfold p8_turnsAt_L82
      refine M_power n4 (brY (Int.le_refl _) ?_)
      refine M_122 (n := n) hI hN l ha hb n4 (fun g' first G' q1 q2 q3 q4 => ?_) n 0 FUEL 0 g (by unfold FUEL; omega) (by omega) G f1 (fun n0 => ⟨fun _ => rfl, fun m' hm' => by omega⟩) (by decide)
      obtain ⟨r1, r2, r3⟩ := hq g' first G'.1 q2 q3
      refine brQ (weq0 h5) (fun z => rd_n (i := 0) (by decide) (by decide) ?_) (fun z => brQ (weq0 ⟨by omega, by omega⟩) (fun z2 => r2 z (by omega)) (fun z2 => ?_))
      · rw [q1]; exact r1 z
      · have fc : first ≤ c := by
          have : ∃ m, n = m + 1 := ⟨n - 1, by
            have : n ≠ 0 := fun z0 => by have := q2 z0; omega
            omega⟩
          obtain ⟨m, hm⟩ := this
          rcases q3 m hm with ⟨o1, _, _⟩ | ⟨_, _, o3, _⟩
          · omega
          · exact o3.2.1
        rw [show (((first : Nat) : Int) - 1) = ((first - 1 : Nat) : Int) from by omega]
        refine rd_n (by omega) (by decide) ?_
        rw [G'.2.2 _ (by omega)]
        exact r3 z (by omega) fc
    | succ m ih =>
      intro fu code g hfu hc G f1
      obtain ⟨fu, rfl⟩ : ∃ n', fu = n' + 1 := ⟨fu - 1, by omega⟩
      have e4 : (9 : Nat) ^ 4 = 6561 := by decide
      unfold p8_turnsAt_L82
      refine M_power n4 (brN (fun z => by have := (wle ⟨by omega, by omega⟩ ⟨by omega, by omega⟩).mp z; omega) ?_)
      refine M_endOf hI G hN l ha hb n4 (by omega) (wr_n (by omega) (by decide) ?_)
      refine ih fu (code + 1) _ (by omega) (by omega) G.set (fun x hx => ?_)
      by_cases e : x = code
      · subst e
        rw [hset_rs]
        unfold FH FF
        have : ub n (BO (h 6) (plF a b) 0 (n % 2) (mkA (VC 13 h) c li (hS0 (VC 13 h) (h 2 0).toNat a b) x n) (rsD (rS0 (VC 13 h) a b) x n) (lsD (VC 13 h) c li x n)) = 0 := by
          show ub n 0 = 0
          unfold ub
          split <;> rfl
        rw [this, Int.add_zero]
      · rw [hset_rn e]; exact f1 x (by omega)
  exact L (9 ^ n) FUEL 0 g1 (by unfold FUEL; omega) (by omega) G1 (fun x hx => by omega)
theorem tu_rs {R0 : Nat → Int} : rsD R0 0 0 = R0 := by
  funext v
  show R0 v - 0 = R0 v
  omega
theorem tu_ls {V : HP} : lsD V c li 0 0 = lS0 V c li := by
  funext q
  unfold lsD lS0
  refine fs_congr c 0 (fun i _ _ => ?_)
  have e : usD 0 0 (i + 1) = false := rfl
  by_cases d : V 1 (li i) = q
  · rw [if_pos d, if_pos ⟨d, e⟩]
  · rw [if_neg d, if_neg (fun z => d z.1)]
theorem FH_00 (n : Nat) : FH h a b c li 0 n 0 = weV (VC 13 h) (h 6) (h 2 0).toNat a - weV (VC 13 h) (h 6) (h 2 0).toNat b + BO (h 6) (plF a b) n 0 (hS0 (VC 13 h) (h 2 0).toNat a b) (rS0 (VC 13 h) a b) (lS0 (VC 13 h) c li) := by
  unfold FH FF
  rw [tu_rs, tu_ls]
  show dfM (h 6) (h 2 0).toNat a b (hS0 (VC 13 h) (h 2 0).toNat a b) + BO (h 6) (plF a b) n 0 (hS0 (VC 13 h) (h 2 0).toNat a b) (rS0 (VC 13 h) a b) (lS0 (VC 13 h) c li) = _
  have e : ∀ v x, plF a b v = x → wM (h 6) (h 2 0).toNat x (hS0 (VC 13 h) (h 2 0).toNat a b v) = weV (VC 13 h) (h 6) (h 2 0).toNat x := fun v x hx => by
    rw [← we_bs]
    unfold wM hS0
    rw [hx]
    exact fs_congr _ 0 (fun k _ _ => by rw [show ((x : Int) * 6 + k).toNat = x * 6 + k from by omega])
  unfold dfM
  rw [e 0 a rfl, e 1 b rfl]
theorem pt_eq (hI : INV h) (hN : h 13 1 = N) (l : LI (VC 13 h) w N c li) {m first : Nat} {pt : Int} {lst : Nat → Int} (K : ∀ q : Nat, q < 6 → 0 < lS0 (VC 13 h) c li q → ∃ i, i < c ∧ VC 13 h 1 (li i) = q ∧ lst q = ((li i : Nat) : Int) ∧ ∀ j, j < i → VC 13 h 1 (li j) ≠ q) (hp : ptT (fun q => decide (0 < lS0 (VC 13 h) c li q ∧ 0 < rS0 (VC 13 h) a b 0)) (vlT (h 6) (plF a b) m 0 (hS0 (VC 13 h) (h 2 0).toNat a b) (rS0 (VC 13 h) a b) (lS0 (VC 13 h) c li)) lst (- BO (h 6) (plF a b) m 1 (hS0 (VC 13 h) (h 2 0).toNat a b) (rS0 (VC 13 h) a b) (lS0 (VC 13 h) c li)) (BO (h 6) (plF a b) (m + 1) 0 (hS0 (VC 13 h) (h 2 0).toNat a b) (rS0 (VC 13 h) a b) (lS0 (VC 13 h) c li)) pt 6) (o : fpT h a b c li 0 m first 0) : (first = 0 → pt = -1) ∧ (1 ≤ first → pt = ((li (first - 1) : Nat) : Int)) := by
  have hst := hI.1.1
  unfold okSt at hst
  have c8 := l.1
  have ls := li_s hI hN l
  have f0 := FF_0 (V := VC 13 h) (W := h 6) (s := (h 2 0).toNat) (a := a) (b := b) (c := c) (li := li) (S0 := hS0 (VC 13 h) (h 2 0).toNat a b) (R0 := rS0 (VC 13 h) a b) (k := 0) (m := m) (code := 0) (by decide)
  have fd := fun d (hd : d < 9) hA => FF_d (V := VC 13 h) (W := h 6) (s := (h 2 0).toNat) (a := a) (b := b) (c := c) (li := li) (S0 := hS0 (VC 13 h) (h 2 0).toNat a b) (R0 := rS0 (VC 13 h) a b) (k := 0) (m := m) (code := 0) (d := d) (by decide) hd hA (ls (d - 1) (by have := hA.2.1; have := hA.1; omega))
  have aq := fun d hA => alw_q (V := VC 13 h) (s := (h 2 0).toNat) (c := c) (li := li) (R0 := rS0 (VC 13 h) a b) (code := 0) (k := 0) (d := d) c8 (by omega) ls hA
  have eB : FH h a b c li 0 (m + 1) 0 = dfM (h 6) (h 2 0).toNat a b (hS0 (VC 13 h) (h 2 0).toNat a b) + BO (h 6) (plF a b) (m + 1) 0 (hS0 (VC 13 h) (h 2 0).toNat a b) (rS0 (VC 13 h) a b) (lS0 (VC 13 h) c li) := by
    unfold FH FF
    rw [tu_rs, tu_ls]
    rfl
  rw [tu_rs, tu_ls] at f0 fd
  simp only [tu_rs, tu_ls] at aq
  unfold fpT at o
  rw [eB] at o
  have f0' : ub 0 (FH h a b c li (0 + 1) m 0) = dfM (h 6) (h 2 0).toNat a b (hS0 (VC 13 h) (h 2 0).toNat a b) - BO (h 6) (plF a b) m 1 (hS0 (VC 13 h) (h 2 0).toNat a b) (rS0 (VC 13 h) a b) (lS0 (VC 13 h) c li) := f0
  rw [f0'] at o
  have fd' : ∀ d, d < 9 → alw c (rS0 (VC 13 h) a b) 0 0 d → ub 0 (FH h a b c li (0 + 1) m (0 + d * 9 ^ 0)) = dfM (h 6) (h 2 0).toNat a b (hS0 (VC 13 h) (h 2 0).toNat a b) + vlT (h 6) (plF a b) m 0 (hS0 (VC 13 h) (h 2 0).toNat a b) (rS0 (VC 13 h) a b) (lS0 (VC 13 h) c li) (VC 13 h 1 (li (d - 1))).toNat := fd
  have aq' : ∀ d, alw c (rS0 (VC 13 h) a b) 0 0 d → (VC 13 h 1 (li (d - 1))).toNat < 6 ∧ decide (0 < lS0 (VC 13 h) c li (VC 13 h 1 (li (d - 1))).toNat ∧ 0 < rS0 (VC 13 h) a b 0) = true := aq
  have eu : ∀ x : Int, ub 0 x = x := fun x => rfl
  rw [eu] at o
  generalize BO (h 6) (plF a b) (m + 1) 0 (hS0 (VC 13 h) (h 2 0).toNat a b) (rS0 (VC 13 h) a b) (lS0 (VC 13 h) c li) = Bst at *
  generalize BO (h 6) (plF a b) m 1 (hS0 (VC 13 h) (h 2 0).toNat a b) (rS0 (VC 13 h) a b) (lS0 (VC 13 h) c li) = B0 at *
  generalize dfM (h 6) (h 2 0).toNat a b (hS0 (VC 13 h) (h 2 0).toNat a b) = C at *
  generalize vlT (h 6) (plF a b) m 0 (hS0 (VC 13 h) (h 2 0).toNat a b) (rS0 (VC 13 h) a b) (lS0 (VC 13 h) c li) = vl at *
  rcases hp with ⟨p1, p2, p3⟩ | ⟨q, q1, q2, q3, q4, q5, q6⟩
  · rcases o with ⟨o1, o2, o3⟩ | ⟨o1, o2, o3, o4, o5, o6, o7⟩
    · exact ⟨fun _ => p1, fun z => by omega⟩
    · omega
  · rcases o with ⟨o1, o2, o3⟩ | ⟨o1, o2, o3, o4, o5, o6, o7⟩
    · omega
    · refine ⟨fun z => by omega, fun _ => ?_⟩
      obtain ⟨z1, z2⟩ := of_decide_eq_true q2
      obtain ⟨i0, i1, i2, i3, i4⟩ := K q q1 z1
      have A0 : alw c (rS0 (VC 13 h) a b) 0 0 (i0 + 1) := ⟨by omega, by omega, rfl, by rw [tu_rs]; exact z2⟩
      have v0 := fd' (i0 + 1) (by omega) A0
      rw [show i0 + 1 - 1 = i0 from by omega, i2, show ((q : Int)).toNat = q from rfl, q3] at v0
      have le1 : first - 1 ≤ i0 := by
        refine Classical.byContradiction (fun z => ?_)
        have := o6 (i0 + 1) (by omega) (by omega) A0
        have this' : ub 0 (FH h a b c li (0 + 1) m (0 + (i0 + 1) * 9 ^ 0)) < C + Bst := this
        omega
      obtain ⟨w1, w2⟩ := aq' first o3
      have v1 := fd' first o2 o3
      have o4' : ub 0 (FH h a b c li (0 + 1) m (0 + first * 9 ^ 0)) = C + Bst := o4
      obtain ⟨y1, y2⟩ := of_decide_eq_true w2
      obtain ⟨j0, j1, j2, j3, j4⟩ := K _ w1 y1
      have fc := o3.2.1
      have tt := ls (first - 1) (by omega)
      have le2 : j0 ≤ first - 1 := by
        refine Classical.byContradiction (fun z => ?_)
        exact j4 (first - 1) (by omega) (by omega)
      have m1 := l.mono le1 i1
      have m2 := l.mono le2 (by omega)
      rcases q6 _ w1 w2 with r | ⟨_, r⟩
      · omega
      · omega
end TO1
