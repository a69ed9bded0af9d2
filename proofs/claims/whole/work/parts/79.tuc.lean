/-! ===== PURE: turns, the class ===== -/
def plF (a b v : Nat) : Nat := if v = 0 then a else b
def hS0 (V : HP) (s a b v : Nat) : Nat := bs (fun k => decide (0 < cS V (plF a b v) k)) s
def rS0 (V : HP) (a b v : Nat) : Int := 4 - cO V (plF a b v)
def lS0 (V : HP) (c : Nat) (li : Nat → Nat) (q : Nat) : Int := fs (fun i => if V 1 (li i) = q then 1 else 0) 0 c
section TC1
variable {h : HP} {N c a b : Nat} {w : Int} {li : Nat → Nat}
theorem lS0_bd {V : HP} {m : Nat} {q : Nat} : 0 ≤ lS0 V m li q ∧ lS0 V m li q ≤ m := by
  have := fs_bd (f := fun i => if V 1 (li i) = q then (1 : Int) else 0) (a := 0) (b := 1) m 0 (fun i _ _ => by
    by_cases d : V 1 (li i) = q
    · rw [if_pos d]; omega
    · rw [if_neg d]; omega)
  unfold lS0
  omega
theorem lS0_pos {V : HP} {m : Nat} {q : Nat} (h0 : 0 < lS0 V m li q) : ∃ i, i < m ∧ V 1 (li i) = q := by
  obtain ⟨i, _, i2, i3⟩ := (fs_pos (f := fun i => if V 1 (li i) = q then (1 : Int) else 0) 0 m (fun i _ _ => by
    by_cases d : V 1 (li i) = q
    · rw [if_pos d]; omega
    · rw [if_neg d]; omega)).mp h0
  by_cases d : V 1 (li i) = q
  · exact ⟨i, by omega, d⟩
  · rw [if_neg d] at i3; omega
theorem lS0_s {V : HP} {m : Nat} {q : Nat} : lS0 V (m + 1) li q = lS0 V m li q + (if V 1 (li m) = q then 1 else 0) := by
  unfold lS0
  rw [fs_succ, Nat.zero_add]
def lsT (V : HP) (li : Nat → Nat) (m : Nat) (g : HP) : Prop := ∀ q : Nat, q < 6 → 0 < lS0 V m li q → ∃ i, i < m ∧ V 1 (li i) = q ∧ g 67 q = ((li i : Nat) : Int) ∧ ∀ j, j < i → V 1 (li j) ≠ q
def puT (V : HP) (s a b : Nat) (k : Nat) (g : HP) : Prop := (∀ v, v < 2 → g 63 v = ((plF a b v : Nat) : Int)) ∧ ∀ v, v < k → g 64 v = rS0 V a b v ∧ g 65 v = ((hS0 V s a b v : Nat) : Int)
theorem C_setUp {Q : HP → Prop} (hI : SI 13 h) (hN : h 13 1 = N) (ha : (a : Int) < h 2 1) (hb : (b : Int) < h 2 1) (hw : can w) (l : LI (VC 13 h) w N c li) (hq : ∀ g : HP, SCR h g → tsC (h 6) (h 2 0).toNat (plF a b) (hS0 (VC 13 h) (h 2 0).toNat a b) (rS0 (VC 13 h) a b) (lS0 (VC 13 h) c li) g → lsT (VC 13 h) li c g → Q g) : p6_setUp a b w h Q := by
  have hst := hI.1
  unfold okSt at hst
  have a2 : h 13 1 ≤ 32 := hI.2.1.2.1
  have pb : ∀ v, ((plF a b v : Nat) : Int) < h 2 1 := fun v => by unfold plF; split <;> omega
  have part : ∀ p : Nat, p < N → 0 ≤ VC 13 h 1 p ∧ VC 13 h 1 p < h 2 0 := fun p hp => by
    have := hI.2.1.2.2.1 p (by show (p : Int) < h 13 1; omega)
    exact ⟨this.1, this.2.1⟩
  have L2 : ∀ (m fu p : Nat) (g : HP), m < fu → p + m = N → SCR h g → puT (VC 13 h) (h 2 0).toNat a b 2 g → lk (VC 13 h) w p ≤ 8 → (∀ q : Nat, q < 6 → g 66 q = lS0 (VC 13 h) (lk (VC 13 h) w p) li q) → lsT (VC 13 h) li (lk (VC 13 h) w p) g → p6_setUp_L88 w Q fu g ((lk (VC 13 h) w p : Nat) : Int) p := by
    have done : ∀ (p : Nat) (g : HP), lk (VC 13 h) w p = c → SCR h g → puT (VC 13 h) (h 2 0).toNat a b 2 g → (∀ q : Nat, q < 6 → g 66 q = lS0 (VC 13 h) (lk (VC 13 h) w p) li q) → lsT (VC 13 h) li (lk (VC 13 h) w p) g → Q g := by
      intro p g e F P K1 K2
      rw [e] at K1 K2
      obtain ⟨_, _, f6, f2, _⟩ := scr_C F hI
      refine hq g F ⟨by rw [f2]; exact hI.1, f6, by rw [f2]; omega, fun v hv => ?_, fun q hq => ?_⟩ K2
      · have c1 := cO_nn (VC 13 h) (plF a b v)
        have c2 := hI.2.1.2.2.2.1 (plF a b v) (by omega) (pb v)
        refine ⟨P.1 v hv, by rw [f2]; exact pb v, (P.2 v hv).1, by unfold rS0; omega, by unfold rS0; omega, (P.2 v hv).2, ?_⟩
        exact bs_lt6 hI.1 _
      · have := lS0_bd (V := VC 13 h) (li := li) (m := c) (q := q)
        have := l.1
        refine ⟨K1 q hq, by omega, by omega, fun h0 => ?_⟩
        obtain ⟨i, i1, i2⟩ := lS0_pos h0
        have := part (li i) (l.2.2.2 i i1).1
        omega
    intro m
    induction m with
    | zero =>
      intro fu p g hfu hp F P l8 K1 K2
      obtain ⟨fu, rfl⟩ : ∃ n', fu = n' + 1 := ⟨fu - 1, by omega⟩
      obtain rfl : p = N := by omega
      obtain ⟨_, _, _, _, f13⟩ := scr_C F hI
      unfold p6_setUp_L88
      rw [f13, hN]
      refine brY (Int.le_refl _) (done p g ?_ F P K1 K2)
      have := l.1; have := l.2.1; have := l.2.2.1
      omega
    | succ m ih =>
      intro fu p g hfu hp F P l8 K1 K2
      obtain ⟨fu, rfl⟩ : ∃ n', fu = n' + 1 := ⟨fu - 1, by omega⟩
      obtain ⟨i1, i2, f6, f2, f13⟩ := scr_C F hI
      have lm := lk_le (V := VC 13 h) (w := w) (show p + 1 ≤ N by omega)
      have lp := lk_le (V := VC 13 h) (w := w) (show p ≤ N by omega)
      have k1 := l.1
      have k2 := l.2.1
      have k3 := l.2.2.1
      unfold p6_setUp_L88
      rw [f13, hN]
      refine brN (fun z => by have := (wle ⟨by omega, by omega⟩ ⟨by omega, by omega⟩).mp z; omega) ?_
      refine brQ (wle ⟨by omega, by omega⟩ ⟨by omega, by omega⟩) (fun z => done p g (by omega) F P K1 K2) (fun z => ?_)
      have v2 : VC 13 h 2 p = g (13 + 2) p := by rw [← i2]; rfl
      have v3 : VC 13 h 3 p = g 16 p := by rw [← i2]; rfl
      have v1 : VC 13 h 1 p = g 14 p := by rw [← i2]; rfl
      obtain ⟨q1, q2, q3, q4, q5, q6, q7, _⟩ := i1.part (p := p) (by rw [f13]; omega)
      have q7' : g 16 p < g 2 1 := q7
      have q6' : -1 ≤ g 16 p := q6
      rw [f2] at q7'
      have skip : ¬ (VC 13 h 2 p = -1 ∧ VC 13 h 3 p = w) → p6_setUp_L88 w Q fu g ((lk (VC 13 h) w p : Nat) : Int) ((p : Int) + 1) := fun d => by
        have e := lk_n d
        have := ih fu (p + 1) g (by omega) (by omega) F P (by rw [e]; exact l8) (by rw [e]; exact K1) (by rw [e]; exact K2)
        rw [e] at this
        exact this
      refine C_lies i1 (by rw [f13]; omega) (fun y => brN (by decide) (rd_n q1 (by decide) ?_)) (fun y => brY (by decide) (skip (fun d => y (by rw [← v2]; exact d.1))))
      refine brQ (weq ⟨by omega, by omega⟩ hw) (fun x => ?_) (fun x => skip (fun d => x (by rw [← v3]; exact d.2)))
      have d : VC 13 h 2 p = -1 ∧ VC 13 h 3 p = w := ⟨by rw [v2]; exact y, by rw [v3]; exact x⟩
      have e := lk_y d
      have ep : li (lk (VC 13 h) w p) = p := l.at d (by omega)
      obtain ⟨p1, p2⟩ := part p (by omega)
      obtain ⟨k, hk⟩ := Int.eq_ofNat_of_zero_le p1
      have k6 : k < 6 := by omega
      refine rd_n q1 (by decide) ?_
      rw [← v1, hk]
      refine rd_n k6 (by decide) ?_
      rw [K1 k k6]
      have lb := lS0_bd (V := VC 13 h) (li := li) (m := lk (VC 13 h) w p) (q := k)
      have main : ∀ y17 : Int, ((lS0 (VC 13 h) (lk (VC 13 h) w p) li k = 0 → y17 = p) ∧ (0 < lS0 (VC 13 h) (lk (VC 13 h) w p) li k → y17 = g 67 k)) → wr g 67 6 (k : Int) y17 fun h19 => rd h19 66 6 (k : Int) fun v20 => wr h19 66 6 (k : Int) (v20 + 1) fun h21 => p6_setUp_L88 w Q fu h21 (((lk (VC 13 h) w p : Nat) : Int) + 1) ((p : Int) + 1) := fun y17 hy => by
        refine wr_n k6 (by decide) (rd_n k6 (by decide) ?_)
        rw [hset_c (show (66 : Nat) ≠ 67 by decide), K1 k k6]
        refine wr_n k6 (by decide) ?_
        have := ih fu (p + 1) (hset (hset g 67 k y17) 66 k (lS0 (VC 13 h) (lk (VC 13 h) w p) li k + 1)) (by omega) (by omega) ((F.set (by omega)).set (by omega)) ?_ (by rw [e]; omega) (fun q hq => ?_) (fun q hq h0 => ?_)
        · rw [e] at this
          exact this
        · unfold puT
          rw [hset_c (show (63 : Nat) ≠ 66 by decide), hset_c (show (63 : Nat) ≠ 67 by decide), hset_c (show (64 : Nat) ≠ 66 by decide), hset_c (show (64 : Nat) ≠ 67 by decide), hset_c (show (65 : Nat) ≠ 66 by decide), hset_c (show (65 : Nat) ≠ 67 by decide)]
          exact P
        · rw [e, lS0_s, ep, hk]
          by_cases dq : q = k
          · subst dq; rw [hset_rs, if_pos rfl]
          · rw [hset_rn dq, if_neg (by omega), hset_c (by decide), Int.add_zero]; exact K1 q hq
        · rw [e] at h0 ⊢
          rw [hset_c (show (67 : Nat) ≠ 66 by decide)]
          rw [lS0_s, ep, hk] at h0
          by_cases dq : q = k
          · subst dq
            rw [hset_rs]
            by_cases z0 : 0 < lS0 (VC 13 h) (lk (VC 13 h) w p) li q
            · obtain ⟨i, a1, a2, a3, a4⟩ := K2 q hq z0
              exact ⟨i, by omega, a2, by rw [hy.2 z0]; exact a3, a4⟩
            · refine ⟨lk (VC 13 h) w p, by omega, by rw [ep, hk], by rw [hy.1 (by omega), ep], fun j hj e2 => ?_⟩
              have : 0 < lS0 (VC 13 h) (lk (VC 13 h) w p) li q := (fs_pos (f := fun i => if VC 13 h 1 (li i) = q then (1 : Int) else 0) 0 _ (fun i _ _ => by
                by_cases d : VC 13 h 1 (li i) = q
                · rw [if_pos d]; omega
                · rw [if_neg d]; omega)).mpr ⟨j, by omega, by omega, by rw [if_pos e2]; decide⟩
              exact z0 this
          · rw [if_neg (by omega), Int.add_zero] at h0
            obtain ⟨i, a1, a2, a3, a4⟩ := K2 q hq h0
            exact ⟨i, by omega, a2, by rw [hset_rn dq]; exact a3, a4⟩
      refine jn_r (fun K => ∀ y17 : Int, ((lS0 (VC 13 h) (lk (VC 13 h) w p) li k = 0 → y17 = p) ∧ (0 < lS0 (VC 13 h) (lk (VC 13 h) w p) li k → y17 = g 67 k)) → K y17) (fun K hK => ?_) main
      refine brQ (weq0 ⟨by omega, by omega⟩) (fun z0 => hK p ⟨fun _ => rfl, fun z1 => by omega⟩) (fun z0 => rd_n k6 (by decide) (hK _ ⟨fun z1 => absurd z1 z0, fun _ => rfl⟩))
  have L1 : ∀ (E : HP → Prop), (∀ g : HP, SCR h g → puT (VC 13 h) (h 2 0).toNat a b 2 g → E g) → ∀ (m fu v : Nat) (g : HP), m < fu → v + m = 2 → SCR h g → puT (VC 13 h) (h 2 0).toNat a b v g → p6_setUp_L17 w E fu g v := by
    intro E hE m
    induction m with
    | zero =>
      intro fu v g hfu hv F P
      obtain ⟨fu, rfl⟩ : ∃ n', fu = n' + 1 := ⟨fu - 1, by omega⟩
      obtain rfl : v = 2 := by omega
      unfold p6_setUp_L17
      exact brY (Int.le_refl _) (hE g F P)
    | succ m ih =>
      intro fu v g hfu hv F P
      obtain ⟨fu, rfl⟩ : ∃ n', fu = n' + 1 := ⟨fu - 1, by omega⟩
      have pv := pb v
      unfold p6_setUp_L17
      refine brN (fun z => by have := (wle ⟨by omega, by omega⟩ ⟨by omega, by omega⟩).mp z; omega) ?_
      refine rd_n (by omega) (by decide) ?_
      rw [P.1 v (by omega)]
      refine rd_n (by omega) (by decide) ?_
      have e19 : g 19 (plF a b v) = cO (VC 13 h) (plF a b v) := by rw [F.1 19 (by decide)]; exact hI.2.2.1 _ pv
      rw [e19]
      refine wr_n (by omega) (by decide) (rd_n (by omega) (by decide) ?_)
      have F2 : SCR h (hset g 64 v (4 - cO (VC 13 h) (plF a b v))) := F.set (by omega)
      obtain ⟨i1, i2, f6, f2, f13⟩ := scr_C F2 hI
      rw [hset_c (show (63 : Nat) ≠ 64 by decide), P.1 v (by omega)]
      refine C_sortsHad i1 (by rw [f2]; exact pv) ?_
      rw [i2, f2]
      refine wr_n (by omega) (by decide) ?_
      refine ih fu (v + 1) _ (by omega) (by omega) (F2.set (by omega)) ⟨fun u hu => ?_, fun u hu => ?_⟩
      · rw [hset_c (by decide), hset_c (by decide)]; exact P.1 u hu
      · rw [hset_c (show (64 : Nat) ≠ 65 by decide)]
        by_cases d : u = v
        · subst d; rw [hset_rs, hset_rs]; exact ⟨rfl, rfl⟩
        · rw [hset_rn d, hset_rn d, hset_c (by decide)]; exact P.2 u (by omega)
  unfold p6_setUp
  refine wr_n (i := 0) (by decide) (by decide) (wr_n (i := 1) (by decide) (by decide) ?_)
  refine L1 _ (fun g F P => ?_) 2 FUEL 0 (hset (hset h 63 0 a) 63 1 b) (by decide) (by decide) ((SCR.rf.set (by omega)).set (by omega)) ⟨fun v hv => ?_, fun v hv => by omega⟩
  · refine J_fill (by decide) (fun g2 k1 k2 => ?_)
    have F2 : SCR h g2 := ⟨fun c hc => by rw [k1 c (by omega)]; exact F.1 c hc, fun j hj => by rw [k1 95 (by decide)]; exact F.2.1 j hj, fun j hj => by rw [k1 69 (by decide)]; exact F.2.2 j hj⟩
    refine L2 N FUEL 0 g2 (by unfold FUEL; omega) (by omega) F2 ?_ (by show 0 ≤ 8; omega) (fun q hq => k2 q hq) (fun q hq h0 => ?_)
    · unfold puT
      rw [k1 63 (by decide), k1 64 (by decide), k1 65 (by decide)]
      exact P
    · have : (0 : Int) < 0 := h0
      omega
  · match v, hv with
    | 0, _ => rw [hset_rn (by decide), hset_rs]; rfl
    | 1, _ => rw [hset_rs]; rfl
theorem w_pl (hI : SI 13 h) (hW : okW (h 6)) (ha : (a : Int) < h 2 1) (hb : (b : Int) < h 2 1) : ∀ v q : Nat, v < 2 → q < 6 → 0 ≤ h 6 (plF a b v * 6 + q) ∧ h 6 (plF a b v * 6 + q) ≤ 99 := fun v q hv hq => by
  have hst := hI.1
  unfold okSt at hst
  refine hW _ ?_
  unfold plF
  split <;> omega
theorem C_turns {Q : Int → HP → Prop} {n : Nat} (n4 : n ≤ 4) (hI : SI 13 h) (hW : okW (h 6)) (hN : h 13 1 = N) (ha : (a : Int) < h 2 1) (hb : (b : Int) < h 2 1) (hw : can w) (l : LI (VC 13 h) w N c li) (hq : ∀ (g : HP) (pt : Int), SCR h g → g 62 6 = pt → (n = 0 → pt = -1) → (∀ m, n = m + 1 → ∃ lst : Nat → Int, (∀ q : Nat, q < 6 → 0 < lS0 (VC 13 h) c li q → ∃ i, i < c ∧ VC 13 h 1 (li i) = q ∧ lst q = ((li i : Nat) : Int) ∧ ∀ j, j < i → VC 13 h 1 (li j) ≠ q) ∧ ptT (fun q => decide (0 < lS0 (VC 13 h) c li q ∧ 0 < rS0 (VC 13 h) a b 0)) (vlT (h 6) (plF a b) m 0 (hS0 (VC 13 h) (h 2 0).toNat a b) (rS0 (VC 13 h) a b) (lS0 (VC 13 h) c li)) lst (- BO (h 6) (plF a b) m 1 (hS0 (VC 13 h) (h 2 0).toNat a b) (rS0 (VC 13 h) a b) (lS0 (VC 13 h) c li)) (BO (h 6) (plF a b) (m + 1) 0 (hS0 (VC 13 h) (h 2 0).toNat a b) (rS0 (VC 13 h) a b) (lS0 (VC 13 h) c li)) pt 6) → Q (weV (VC 13 h) (h 6) (h 2 0).toNat a - weV (VC 13 h) (h 6) (h 2 0).toNat b + BO (h 6) (plF a b) n 0 (hS0 (VC 13 h) (h 2 0).toNat a b) (rS0 (VC 13 h) a b) (lS0 (VC 13 h) c li)) g) : p6_setUp a b w h fun h5 => p6_playOut n h5 Q := by
  refine C_setUp hI hN ha hb hw l (fun g F T K => ?_)
  obtain ⟨i1, i2, f6, f2, f13⟩ := scr_C F hI
  have hWp := w_pl hI hW ha hb
  unfold p6_playOut
  refine rd_n (i := 0) (by decide) (by decide) ?_
  rw [(T.2.2.2.1 0 (by decide)).1, show plF a b 0 = a from rfl]
  refine C_wealthOf i1 (by rw [f2]; exact ha) (rd_n (i := 1) (by decide) (by decide) ?_)
  rw [(T.2.2.2.1 1 (by decide)).1, show plF a b 1 = b from rfl]
  refine C_wealthOf i1 (by rw [f2]; exact hb) (pf_i ?_)
  rw [i2, f6, f2]
  cases n with
  | zero =>
    refine brN (by decide) ?_
    have := hq (hset g 62 6 (-1)) (-1) (F.set (by omega)) hset_rs (fun _ => rfl) (fun m hm => by omega)
    rw [show BO (h 6) (plF a b) 0 0 (hS0 (VC 13 h) (h 2 0).toNat a b) (rS0 (VC 13 h) a b) (lS0 (VC 13 h) c li) = 0 from rfl, Int.add_zero] at this
    exact this
  | succ m =>
    refine brY (by rw [w_id (by omega) (by omega)]; omega) ?_
    rw [show (((m + 1 : Nat) : Int) - 1) = (m : Int) from by omega]
    refine C_bestOf (s := (h 2 0).toNat) hWp m 8 1 (hS0 (VC 13 h) (h 2 0).toNat a b) (rS0 (VC 13 h) a b) (lS0 (VC 13 h) c li) _ _ (by omega) (by omega) (by decide) T.pt ?_
    refine C_playL (s := (h 2 0).toNat) (lst := g 67) hWp (by omega) T (fun q hq h0 => ?_) (fun pt hp => ?_)
    · obtain ⟨i, a1, a2, a3, a4⟩ := K q hq h0
      have := (l.2.2.2 i a1).1
      have a2' : h 13 1 ≤ 32 := hI.2.1.2.1
      exact ⟨rfl, by omega, by omega⟩
    · exact hq (hset g 62 6 pt) pt (F.set (by omega)) hset_rs (fun z => by omega) (fun m' hm => by
        obtain rfl : m' = m := by omega
        exact ⟨g 67, K, hp⟩)
end TC1
