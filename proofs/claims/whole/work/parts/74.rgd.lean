/-! ===== PURE: rings, the class: the search ===== -/
def gi (t : Nat → Int) (i : Nat) : Int := if t i < 0 then (i : Int) else t i
def pgT (n : Nat) (t : Nat → Int) (x gm : Nat) : Prop := (∀ i : Nat, i < x → -1 ≤ t i ∧ t i < n ∧ t i ≠ i) ∧ (∀ i, x ≤ i → t i = -1) ∧ (∀ i k, i < x → k < x → gi t i = gi t k → i = k) ∧ gm < 32 ∧ ∀ k : Nat, gm.testBit k = true ↔ ∃ i, i < x ∧ gi t i = k
section RD1
variable {V : HP} {W : Nat → Int} {n N : Nat} {t : Nat → Int} {mo : Nat → Nat → Int}
theorem ho_bd {g : HP} (B : rgB V W n N mo g) (hM : rgM V W n N mo) (hW : okW W) (n5 : n ≤ 5) (hg : goT n t) {x : Nat} {th : Nat → Int} (hv : vaP V N t x th) : -500 ≤ hoT V W n mo t th x ∧ hoT V W n mo t th x ≤ 500 := by
  have := fs_bd (f := fun i => if 0 ≤ t i then (if i < x ∧ t i < x then byT V W t th i else mo i (t i).toNat) else 0) (a := -99) (b := 99) n 0 (fun i _ hi => by
    by_cases d : 0 ≤ t i
    · rw [if_pos d]
      obtain ⟨g1, g2, g3⟩ := hg.gv (show i < n by omega) d
      by_cases e : i < x ∧ t i < x
      · rw [if_pos e]
        obtain ⟨p, p1, p2, p3⟩ := hv.1 i e.1 d
        obtain ⟨q, q1, q2, q3⟩ := hv.1 (t i).toNat (by omega) g3
        unfold byT
        rw [p2, q2]
        exact B.bd hW (by omega) p1 q1
      · rw [if_neg e]
        have := hM i _ (show i < n by omega) g1
        omega
    · rw [if_neg d]; omega)
  unfold hoT
  omega
theorem C_thrown (hM : rgM V W n N mo) (hW : okW W) (n5 : n ≤ 5) (hN : N ≤ 32) (hg : goT n t) (h4 : ∀ y : Nat, y < n → rk V y N ≤ 4) : ∀ (j f x : Nat) (th : Nat → Int) (S : rgS) (g : HP) (Q : HP → Prop), x + j = n → j < f → rgB V W n N mo g → gvT n t g → vaP V N t x th → (∀ i, i < x → g 56 i = th i) → rgL n g S → (∀ i, i < x → 0 ≤ t i → t i < x → 0 < byT V W t th i) → (∀ g', rgF g g' → g' 55 = g 55 → (∀ i, i < x → g' 56 i = g 56 i) → rgL n g' (rgT V W n N t j x th S) → Q g') → p3_chooseThrown f x (hoT V W n mo t th x) g Q := by
  intro j
  induction j with
  | zero =>
    intro f x th S g Q hx hf B hG hv hth hL hs hQ
    obtain ⟨f, rfl⟩ : ∃ n', f = n' + 1 := ⟨f - 1, by omega⟩
    obtain rfl : x = n := by omega
    obtain ⟨l1, l2, l3, l4, l5⟩ := id hL
    have hb := ho_bd B hM hW n5 hg hv
    have b6 : g 54 1 = x := B.2.2.2.2.2.1
    show p3_chooseThrown_B (p3_chooseThrown f) x _ g Q
    unfold p3_chooseThrown_B
    rw [l1, b6]
    have ok : okT V W x t th := fun i hi h0 => by
      obtain ⟨p, p1, p2, p3⟩ := hv.1 i hi h0
      have := hg.1 i hi
      exact ⟨by omega, hs i hi h0 (by omega)⟩
    have es : smT V W x t th = hoT V W x mo t th x := by
      unfold smT hoT
      rw [itc_y ok]
      refine fs_congr x 0 (fun i _ hi => ?_)
      by_cases d : 0 ≤ t i
      · have := hg.1 i (by omega)
        rw [if_pos d, if_pos d, if_pos (by omega)]
      · rw [if_neg d, if_neg d]
    refine brQ (wlt ⟨by omega, by omega⟩ ⟨by omega, by omega⟩) (fun z => ?_) (fun z => ?_)
    · refine brN (fun z => by have := (wlt ⟨by omega, by omega⟩ ⟨by omega, by omega⟩).mp z; omega) ?_
      unfold p3_remember
      refine pf_i (cp_i (cp_i (hQ _ ⟨fun c hc => ?_, ?_⟩ ?_ (fun i hi => ?_) ?_)))
      · rw [hcpy_c (by omega), hcpy_c (by omega), hset_c (by omega)]
      · rw [hcpy_c (by decide), hcpy_c (by decide), hset_rn (by decide)]
      · rw [hcpy_c (by decide), hcpy_c (by decide), hset_c (by decide)]
      · rw [hcpy_c (by decide), hcpy_c (by decide), hset_c (by decide)]
      · have eu : rgT V W x N t 0 x th S = (hoT V W x mo t th x, th, fun i => if 0 ≤ t i then th (t i).toNat else -1) := by
          show upT (smT V W x t th) t th S = _
          unfold upT
          rw [es, if_pos z]
        rw [eu]
        refine ⟨?_, by show 0 ≤ hoT V W x mo t th x; omega, by show hoT V W x mo t th x ≤ 1000; omega, fun i hi => ?_, fun i hi => ?_⟩
        · rw [hcpy_c (by decide), hcpy_c (by decide), hset_rs]
        · rw [hcpy_i (by omega), hcpy_c (by decide), hset_c (by decide)]
          exact hth i hi
        · have e57 : hcpy (hcpy (hset g 54 2 (hoT V W x mo t th x)) 55 0 57 0 5) 56 0 58 0 5 57 i = g 55 i := by
            rw [hcpy_c (by decide), hcpy_i (by omega), hset_c (by decide)]
          have e58 : ∀ k, k < x → hcpy (hcpy (hset g 54 2 (hoT V W x mo t th x)) 55 0 57 0 5) 56 0 58 0 5 58 k = th k := fun k hk => by
            rw [hcpy_i (by omega), hcpy_c (by decide), hset_c (by decide)]
            exact hth k hk
          rw [e57, hG i hi]
          by_cases d : 0 ≤ t i
          · obtain ⟨g1, g2, g3⟩ := hg.gv hi d
            rw [if_neg (by omega)]
            exact ⟨(t i).toNat, g1, g2.symm, by rw [e58 _ g1]; show _ = (if 0 ≤ t i then th (t i).toNat else -1); rw [if_pos d]⟩
          · rw [if_pos (by omega)]
            exact ⟨i, hi, rfl, by rw [e58 _ hi]; show _ = (if 0 ≤ t i then th (t i).toNat else -1); rw [if_neg d]; exact hv.2 i (fun _ => by omega)⟩
    · refine hQ g rgF.rf rfl (fun _ _ => rfl) ?_
      have eu : rgT V W x N t 0 x th S = S := upT_id (by rw [es]; omega)
      rw [eu]
      exact hL
  | succ j ih =>
    intro f x th S g Q hx hf B hG hv hth hL hs hQ
    obtain ⟨f, rfl⟩ : ∃ n', f = n' + 1 := ⟨f - 1, by omega⟩
    obtain ⟨l1, l2, l3, l4, l5⟩ := id hL
    have hb := ho_bd B hM hW n5 hg hv
    have b6 : g 54 1 = n := B.2.2.2.2.2.1
    show p3_chooseThrown_B (p3_chooseThrown f) x _ g Q
    unfold p3_chooseThrown_B
    rw [l1, b6]
    refine brQ (wlt ⟨by omega, by omega⟩ ⟨by omega, by omega⟩) (fun z => ?_) (fun z => ?_)
    · refine brY ((wlt ⟨by omega, by omega⟩ ⟨by omega, by omega⟩).mpr (by omega)) ?_
      refine rd_n (by omega) (by decide) ?_
      have tx := hg.1 x (by omega)
      rw [hG x (by omega)]
      by_cases c : t x < 0
      · rw [if_pos c]
        refine brY rfl ?_
        refine wr_n (by omega) (by decide) ?_
        have F1 : rgF g (hset g 56 x (-1)) := rgF.rf.set (by decide) (by decide)
        rw [← ho_skip (V := V) (W := W) (mo := mo) (th := th) hg (by omega) c]
        refine ih f (x + 1) th S (hset g 56 x (-1)) Q (by omega) (by omega) (F1.B B) (fun i hi => by rw [hset_c (by decide)]; exact hG i hi) (hv.up c) (fun i hi => ?_) ?_ (fun i hi h0 h1 => ?_) (fun g' f1 f2 f3 f4 => ?_)
        · by_cases d : i = x
          · subst d; rw [hset_rs]; exact (hv.2 i (fun z => by omega)).symm
          · rw [hset_rn d]; exact hth i (by omega)
        · refine ⟨by rw [hset_c (by decide)]; exact l1, l2, l3, fun i hi => by rw [hset_c (by decide)]; exact l4 i hi, fun i hi => ?_⟩
          rw [hset_c (by decide), hset_c (by decide)]; exact l5 i hi
        · obtain ⟨g1, g2, g3⟩ := hg.gv (show i < n by omega) h0
          have n1 : i ≠ x := fun z => by subst z; omega
          have n2 : t i ≠ x := fun z => by rw [show (t i).toNat = x from by omega] at g3; omega
          exact hs i (by omega) h0 (by omega)
        · refine hQ g' (F1.tr f1) (by rw [f2, hset_c (by decide)]) (fun i hi => by rw [f3 i (by omega), hset_rn (by omega)]) ?_
          have eu : rgT V W n N t (j + 1) x th S = rgT V W n N t j (x + 1) th S := by
            show (if t x < 0 then rgT V W n N t j (x + 1) th S else fr (fun i S => rgT V W n N t j (x + 1) (updI th x (pO V N x i)) S) 0 4 S) = _
            rw [if_pos c]
          rw [eu]
          exact f4
      · rw [if_neg c]
        refine brN (fun z => by have := (weq ⟨by omega, by omega⟩ ⟨by omega, by omega⟩).mp z; omega) ?_
        rw [rgT_ch hg h4 hx (by omega) hv.va l2] at hQ
        have L : ∀ (m fu p : Nat) (S : rgS) (g : HP), m < fu → p + m = N → rgB V W n N mo g → gvT n t g → (∀ i, i < x → g 56 i = th i) → rgL n g S → (∀ g', rgF g g' → g' 55 = g 55 → (∀ i, i < x → g' 56 i = g 56 i) → rgL n g' (fr (fun (p : Nat) S => itc (isC V x p) (rgT V W n N t j (x + 1) (updI th x p) S) S) p m S) → Q g') → p3_chooseThrown_L51 (p3_chooseThrown f) x (hoT V W n mo t th x) Q fu g ((rc V x p : Nat) : Int) := by
          intro m
          induction m with
          | zero =>
            intro fu p S g hfu hp B hG hth hL hQ
            obtain ⟨fu, rfl⟩ : ∃ n', fu = n' + 1 := ⟨fu - 1, by omega⟩
            obtain rfl : p = N := by omega
            unfold p3_chooseThrown_L51
            refine rd_n (by omega) (by decide) ?_
            rw [B.2.2.2.2.2.2.1 x (by omega)]
            exact brY (Int.le_refl _) (hQ g rgF.rf rfl (fun _ _ => rfl) hL)
          | succ m ihm =>
            intro fu p S g hfu hp B hG hth hL hQ
            obtain ⟨l1, l2, l3, l4, l5⟩ := id hL
            by_cases ci : isC V x p
            · obtain ⟨fu, rfl⟩ : ∃ n', fu = n' + 1 := ⟨fu - 1, by omega⟩
              have r1 := rc_lt (V := V) (x := (x : Int)) (N := N) ci (by omega)
              have r2 := rc_rk (V := V) (x := (x : Int)) N
              have r3 := h4 x (by omega)
              unfold p3_chooseThrown_L51
              refine rd_n (by omega) (by decide) ?_
              rw [B.2.2.2.2.2.2.1 x (by omega)]
              refine brN (fun z => by have := (wle ⟨by omega, by omega⟩ ⟨by omega, by omega⟩).mp z; omega) ?_
              refine rd_i (by omega) (by omega) (by decide) ?_
              rw [show ((x : Int) * 4 + ((rc V x p : Nat) : Int)).toNat = x * 4 + rc V x p from by omega, B.2.2.2.2.2.2.2.1 x p (by omega) (by omega) ci]
              refine wr_n (by omega) (by decide) ?_
              have F1 : rgF g (hset g 56 x p) := rgF.rf.set (by decide) (by decide)
              have B1 := F1.B B
              have G1 : gvT n t (hset g 56 x p) := fun i hi => by rw [hset_c (by decide)]; exact hG i hi
              have hv1 := hv.set (p := p) (by omega) (by omega) ci.1
              have T1 : ∀ i, i < x + 1 → hset g 56 x p 56 i = updI th x p i := fun i hi => by
                by_cases d : i = x
                · subst d; rw [hset_rs, updI_s]
                · rw [hset_rn d, updI_n d]; exact hth i (by omega)
              have L1 : rgL n (hset g 56 x p) S := by
                refine ⟨by rw [hset_c (by decide)]; exact l1, l2, l3, fun i hi => by rw [hset_c (by decide)]; exact l4 i hi, fun i hi => ?_⟩
                rw [hset_c (by decide), hset_c (by decide)]; exact l5 i hi
              have er : rc V x (p + 1) = rc V x p + 1 := rc_y ci
              have ef : fr (fun (p : Nat) S => itc (isC V x p) (rgT V W n N t j (x + 1) (updI th x p) S) S) p (m + 1) S = fr (fun (p : Nat) S => itc (isC V x p) (rgT V W n N t j (x + 1) (updI th x p) S) S) (p + 1) m (rgT V W n N t j (x + 1) (updI th x p) S) := by
                show fr _ (p + 1) m (itc (isC V x p) (rgT V W n N t j (x + 1) (updI th x p) S) S) = _
                rw [itc_y ci]
              refine C_hopeLost B1 n5 hW hg (by omega) G1 T1 hv1.1 (fun good => ?_) (fun bad => ?_)
              · have nb : 0 ≤ fs (nwT V W mo t (updI th x p) x) 0 (x + 1) ∧ fs (nwT V W mo t (updI th x p) x) 0 (x + 1) ≤ 1000 := by
                  have := fs_bd (f := nwT V W mo t (updI th x p) x) (a := 0) (b := 99) (x + 1) 0 (fun i _ hi => by
                    unfold nwT
                    by_cases d : 0 ≤ t i ∧ t i ≤ x ∧ (i = x ∨ t i = x)
                    · rw [if_pos d]
                      obtain ⟨g1, g2, g3⟩ := hg.gv (show i < n by omega) d.1
                      have k0 := good i (by omega) d.1 d.2.1 d.2.2
                      obtain ⟨p', p1, p2, p3⟩ := hv1.1 i (by omega) d.1
                      obtain ⟨q', q1, q2, q3⟩ := hv1.1 (t i).toNat (by omega) g3
                      have k1 := hM i _ (show i < n by omega) g1
                      have k2 := k1.2.2 p' q' p1 q1 p3 q3
                      have k3 : byT V W t (updI th x p) i = bV V W i p' q' := by unfold byT; rw [p2, q2]; rfl
                      omega
                    · rw [if_neg d]; omega)
                  omega
                refine brN (fun z => by have := (weq ⟨by omega, by omega⟩ ⟨by omega, by omega⟩).mp z; omega) ?_
                rw [← ho_step hg (by omega)]
                refine ih f (x + 1) (updI th x p) S (hset g 56 x p) _ (by omega) (by omega) B1 G1 hv1 T1 L1 (fun i hi h0 h1 => ?_) (fun g' f1 f2 f3 f4 => ?_)
                · by_cases d : i = x ∨ t i = x
                  · exact good i hi h0 (by omega) d
                  · have := hs i (by omega) h0 (by omega)
                    unfold byT at this ⊢
                    rw [updI_n (by omega), updI_n (by omega)]
                    exact this
                · have := ihm fu (p + 1) (rgT V W n N t j (x + 1) (updI th x p) S) g' (by omega) (by omega) (f1.B B1) (fun i hi => by rw [f2]; exact G1 i hi) (fun i hi => by rw [f3 i (by omega), hset_rn (by omega)]; exact hth i hi) f4 (fun g2 e1 e2 e3 e4 => hQ g2 ((F1.tr f1).tr e1) (by rw [e2, f2, hset_c (by decide)]) (fun i hi => by rw [e3 i hi, f3 i (by omega), hset_rn (by omega)]) (by rw [ef]; exact e4))
                  rw [er] at this
                  exact this
              · refine brY rfl ?_
                have ei : rgT V W n N t j (x + 1) (updI th x p) S = S := by
                  obtain ⟨i, i1, i2, i3, i4⟩ := bad
                  refine rgT_id j (x + 1) _ S (by omega) hv1.va (fun th' _ h2 => ?_)
                  rw [sm_no (fun z => ?_)]
                  · exact l2
                  · have := (z i (by omega) i2).2
                    unfold byT at this i4
                    rw [h2 i i1, h2 (t i).toNat (by omega)] at this
                    omega
                have := ihm fu (p + 1) S (hset g 56 x p) (by omega) (by omega) B1 G1 (fun i hi => by rw [hset_rn (by omega)]; exact hth i hi) L1 (fun g2 e1 e2 e3 e4 => hQ g2 (F1.tr e1) (by rw [e2, hset_c (by decide)]) (fun i hi => by rw [e3 i hi, hset_rn (by omega)]) (by rw [ef, ei]; exact e4))
                rw [er] at this
                exact this
            · have ef : fr (fun (p : Nat) S => itc (isC V x p) (rgT V W n N t j (x + 1) (updI th x p) S) S) p (m + 1) S = fr (fun (p : Nat) S => itc (isC V x p) (rgT V W n N t j (x + 1) (updI th x p) S) S) (p + 1) m S := by
                show fr _ (p + 1) m (itc (isC V x p) (rgT V W n N t j (x + 1) (updI th x p) S) S) = _
                rw [itc_n ci]
              rw [ef] at hQ
              have := ihm fu (p + 1) S g (by omega) (by omega) B hG hth hL hQ
              rw [rc_n ci] at this
              exact this
        exact L N FUEL 0 S g (by unfold FUEL; omega) (by omega) B hG hth hL hQ
    · refine hQ g rgF.rf rfl (fun _ _ => rfl) ?_
      rw [rgT_id (j + 1) x th S hx hv.va (fun th' h1 h2 => ?_)]
      · exact hL
      · rcases sm_ho hM hg h1 h2 with r | r
        · omega
        · omega
theorem pgT.set {x gm z : Nat} {a : Int} (P : pgT n t x gm) (hx : x < n) (n5 : n ≤ 5) (a1 : -1 ≤ a) (a2 : a < n) (a3 : a ≠ x) (hz : (z : Int) = if a < 0 then (x : Int) else a) (hb : gm.testBit z = false) : pgT n (updI t x a) (x + 1) (gm ||| 2 ^ z) := by
  obtain ⟨p1, p2, p3, p4, p5⟩ := P
  have zn : z < n := by by_cases c : a < 0 <;> simp [c] at hz <;> omega
  have e1 : gi (updI t x a) x = z := by unfold gi; rw [updI_s, hz]
  have e2 : ∀ i, i < x → gi (updI t x a) i = gi t i := fun i hi => by unfold gi; rw [updI_n (by omega)]
  have nz : ∀ i, i < x → gi t i ≠ z := fun i hi c => by
    have := (p5 z).mpr ⟨i, hi, c⟩
    rw [hb] at this
    exact absurd this (by decide)
  refine ⟨fun i hi => ?_, fun i hi => ?_, fun i k hi hk e => ?_, ?_, fun k => ?_⟩
  · by_cases c : i = x
    · subst c; rw [updI_s]; exact ⟨a1, a2, a3⟩
    · rw [updI_n c]; exact p1 i (by omega)
  · rw [updI_n (by omega)]; exact p2 i (by omega)
  · by_cases c : i = x <;> by_cases d : k = x
    · omega
    · subst c; rw [e1, e2 k (by omega)] at e; exact absurd e.symm (nz k (by omega))
    · subst d; rw [e1, e2 i (by omega)] at e; exact absurd e (nz i (by omega))
    · rw [e2 i (by omega), e2 k (by omega)] at e; exact p3 i k (by omega) (by omega) e
  · exact Nat.or_lt_two_pow (n := 5) p4 (Nat.pow_lt_pow_right (by decide) (by omega))
  · rw [Nat.testBit_or, Bool.or_eq_true, p5 k, Nat.testBit_two_pow]
    constructor
    · rintro (⟨i, h1, h2⟩ | h)
      · exact ⟨i, by omega, by rw [e2 i h1]; exact h2⟩
      · have : z = k := by simpa using h
        exact ⟨x, by omega, by rw [e1, this]⟩
    · rintro ⟨i, h1, h2⟩
      by_cases c : i = x
      · subst c; rw [e1] at h2; right; simp; omega
      · rw [e2 i (by omega)] at h2; exact Or.inl ⟨i, by omega, h2⟩
theorem pgT.go {gm : Nat} (P : pgT n t n gm) : goT n t := by
  obtain ⟨p1, p2, p3, p4, p5⟩ := P
  refine ⟨p1, fun i k hi hk h0 e => p3 i k hi hk (by unfold gi; rw [if_neg (by omega), if_neg (by omega)]; exact e), fun i hi => ⟨fun h0 => ?_, ?_⟩⟩
  · have S := pigeon n (fun i => (gi t i).toNat) (fun i hi => by
      show (gi t i).toNat < n
      have := p1 i hi
      unfold gi; split <;> omega) (fun i k hi hk e => p3 i k hi hk (by
      have e' : (gi t i).toNat = (gi t k).toNat := e
      have a := p1 i hi
      have b := p1 k hk
      unfold gi at e' ⊢
      split at e' <;> split at e' <;> omega)) i hi
    obtain ⟨k, k1, k2⟩ := S
    have k2' : (gi t k).toNat = i := k2
    have a := p1 k k1
    refine ⟨k, k1, ?_⟩
    unfold gi at k2'
    by_cases c : t k < 0
    · rw [if_pos c] at k2'
      have : k = i := by omega
      subst this
      omega
    · rw [if_neg c] at k2'; omega
  · rintro ⟨k, k1, k2⟩
    refine Classical.byContradiction (fun c => ?_)
    have a := p1 k k1
    have : k = i := p3 k i k1 hi (by unfold gi; rw [if_neg (by omega), if_pos (by omega), k2])
    subst this
    omega
theorem C_giver (hM : rgM V W n N mo) (hW : okW W) (n5 : n ≤ 5) (hN : N ≤ 32) (h4 : ∀ y : Nat, y < n → rk V y N ≤ 4) : ∀ (j f x gm : Nat) (t : Nat → Int) (S : rgS) (g : HP) (Q : HP → Prop), x + j = n → j < f → rgB V W n N mo g → (∀ i, i < x → g 55 i = gi t i) → pgT n t x gm → rgL n g S → (∀ g', rgF g g' → (∀ i, i < x → g' 55 i = g 55 i) → rgL n g' (rgO V W n N j x t S) → Q g') → p3_chooseGiver f x gm (fs (fun i => if 0 ≤ t i then mo i (t i).toNat else 0) 0 x) g Q := by
  intro j
  induction j with
  | zero =>
    intro f x gm t S g Q hx hf B hG hP hL hQ
    obtain ⟨f, rfl⟩ : ∃ n', f = n' + 1 := ⟨f - 1, by omega⟩
    obtain rfl : x = n := by omega
    have b6 : g 54 1 = x := B.2.2.2.2.2.1
    show p3_chooseGiver_B (p3_chooseGiver f) x gm _ g Q
    unfold p3_chooseGiver_B
    rw [b6]
    refine brN (Int.lt_irrefl _) ?_
    have hg := hP.go
    have eh : fs (fun i => if 0 ≤ t i then mo i (t i).toNat else 0) 0 x = hoT V W x mo t (fun _ => -1) 0 := by
      unfold hoT
      refine fs_congr x 0 (fun i _ _ => ?_)
      by_cases d : 0 ≤ t i
      · rw [if_pos d, if_pos d, if_neg (by omega)]
      · rw [if_neg d, if_neg d]
    rw [eh]
    refine C_thrown hM hW n5 hN hg h4 x 8 0 (fun _ => -1) S g _ (by omega) (by omega) B hG ⟨fun i hi => by omega, fun _ _ => rfl⟩ (fun i hi => by omega) hL (fun i hi => by omega) (fun g' f1 f2 f3 f4 => hQ g' f1 (fun i _ => by rw [f2]) ?_)
    show rgL x g' (itc (goT x t) (rgT V W x N t x 0 (fun _ => -1) S) S)
    rw [itc_y hg]
    exact f4
  | succ j ih =>
    intro f x gm t S g Q hx hf B hG hP hL hQ
    obtain ⟨f, rfl⟩ : ∃ n', f = n' + 1 := ⟨f - 1, by omega⟩
    have b6 : g 54 1 = n := B.2.2.2.2.2.1
    obtain ⟨p1, p2, p3, p4, p5⟩ := id hP
    show p3_chooseGiver_B (p3_chooseGiver f) x gm _ g Q
    unfold p3_chooseGiver_B
    rw [b6]
    refine brY ((wlt ⟨by omega, by omega⟩ ⟨by omega, by omega⟩).mpr (by omega)) (jn_i ?_)
    have L : ∀ (m fu y : Nat) (S : rgS) (g1 : HP), m < fu → y + m = n → rgF g g1 → (∀ i, i < x → g1 55 i = g 55 i) → rgL n g1 S → (∀ g', rgF g g' → (∀ i, i < x → g' 55 i = g 55 i) → rgL n g' (fr (fun (d : Nat) S => rgO V W n N j (x + 1) (updI t x ((d : Int) - 1)) S) (y + 1) m S) → Q g') → p3_chooseGiver_L46 (p3_chooseGiver f) x gm (fs (fun i => if 0 ≤ t i then mo i (t i).toNat else 0) 0 x) Q fu g1 y := by
      intro m
      induction m with
      | zero =>
        intro fu y S g1 hfu hy F1 G1 hL hQ
        obtain ⟨fu, rfl⟩ : ∃ n', fu = n' + 1 := ⟨fu - 1, by omega⟩
        unfold p3_chooseGiver_L46
        rw [F1.2, b6]
        refine brY ((wle ⟨by omega, by omega⟩ ⟨by omega, by omega⟩).mpr (by omega)) ?_
        exact hQ g1 F1 G1 hL
      | succ m ihm =>
        intro fu y S g1 hfu hy F1 G1 hL hQ
        obtain ⟨fu, rfl⟩ : ∃ n', fu = n' + 1 := ⟨fu - 1, by omega⟩
        obtain ⟨l1, l2, l3, l4, l5⟩ := id hL
        have B1 := F1.B B
        unfold p3_chooseGiver_L46
        rw [F1.2, b6]
        refine brN (fun z => by have := (wle ⟨by omega, by omega⟩ ⟨by omega, by omega⟩).mp z; omega) ?_
        refine rd_i (by omega) (by omega) (by decide) ?_
        rw [show ((x : Int) * 5 + (y : Int)).toNat = x * 5 + y from by omega, B1.2.2.2.2.2.2.2.2 x y (by omega) (by omega)]
        have mb := hM x y (by omega) (by omega)
        have ey : (((y + 1 : Nat) : Int) - 1) = y := by omega
        have skip : rgO V W n N j (x + 1) (updI t x (y : Int)) S = S → p3_chooseGiver_L46 (p3_chooseGiver f) x gm (fs (fun i => if 0 ≤ t i then mo i (t i).toNat else 0) 0 x) Q fu g1 ((y : Int) + 1) := fun e => by
          have := ihm fu (y + 1) S g1 (by omega) (by omega) F1 G1 hL (fun g' e1 e2 e3 => hQ g' e1 e2 ?_)
          · exact this
          · show rgL n g' (fr _ (y + 1 + 1) m (rgO V W n N j (x + 1) (updI t x (((y + 1 : Nat) : Int) - 1)) S))
            rw [ey, e]
            exact e3
        refine brQ (weq ⟨by omega, by omega⟩ ⟨by omega, by omega⟩) (fun z => skip ?_) (fun z => ?_)
        · refine rgO_id j (x + 1) _ S (by omega) (fun t' h1 h2 => ?_)
          have := (h2.1 x (by omega)).2.2
          rw [h1 x (by omega), updI_s] at this
          omega
        · rw [bit_n gm y (by omega) (by omega)]
          by_cases c : gm.testBit y = true
          · rw [if_pos c]
            refine brN (by decide) (skip ?_)
            refine rgO_id j (x + 1) _ S (by omega) (fun t' h1 h2 => ?_)
            obtain ⟨i, i1, i2⟩ := (p5 y).mp c
            have tx : t' x = y := by rw [h1 x (by omega), updI_s]
            have ti : t' i = t i := by rw [h1 i (by omega), updI_n (by omega)]
            unfold gi at i2
            by_cases d : t i < 0
            · rw [if_pos d] at i2
              have : i = y := by omega
              subst this
              have := (h2.2.2 i (by omega)).mpr ⟨x, by omega, tx⟩
              omega
            · rw [if_neg d] at i2
              have := h2.2.1 i x (by omega) (by omega) (by omega) (by omega)
              omega
          · rw [if_neg c]
            refine brY (by decide) ?_
            have c' : gm.testBit y = false := by simpa using c
            refine brQ (wle0 ⟨by omega, by omega⟩) (fun w => skip ?_) (fun w => ?_)
            · refine rgO_id j (x + 1) _ S (by omega) (fun t' h1 h2 => ?_)
              have tx : t' x = y := by rw [h1 x (by omega), updI_s]
              refine rgT_id n 0 _ S (by omega) vaT0 (fun th' a1 _ => ?_)
              rw [sm_no (fun z => ?_)]
              · exact l2
              · obtain ⟨g1', g2', g3'⟩ := h2.gv (show x < n by omega) (by omega)
                have k := by_le hM h2 a1 (show x < n by omega) (by omega) (z x (by omega) (by omega)).1 (z _ g1' g3').1
                have k2 := (z x (by omega) (by omega)).2
                rw [tx] at k
                have k' : byT V W t' th' x ≤ mo x y := k
                omega
            · refine wr_n (by omega) (by decide) ?_
              have F2 : rgF g1 (hset g1 55 x y) := rgF.rf.set (by decide) (by decide)
              have P2 := hP.set (a := (y : Int)) (z := y) (by omega) n5 (by omega) (by omega) (by omega) (by rw [if_neg (by omega)]) c'
              have L2 : rgL n (hset g1 55 x y) S := by
                refine ⟨by rw [hset_c (by decide)]; exact l1, l2, l3, fun i hi => by rw [hset_c (by decide)]; exact l4 i hi, fun i hi => ?_⟩
                rw [hset_c (by decide), hset_c (by decide)]; exact l5 i hi
              have eh : fs (fun i => if 0 ≤ t i then mo i (t i).toNat else 0) 0 x + mo x y = fs (fun i => if 0 ≤ updI t x (y : Int) i then mo i (updI t x (y : Int) i).toNat else 0) 0 (x + 1) := by
                rw [fs_succ, Nat.zero_add, updI_s, if_pos (by omega)]
                rw [fs_congr (f := fun i => if 0 ≤ updI t x (y : Int) i then mo i (updI t x (y : Int) i).toNat else 0) (g := fun i => if 0 ≤ t i then mo i (t i).toNat else 0) x 0 (fun i _ hi => by rw [updI_n (by omega)])]
                rfl
              rw [sl_n y (by omega), io_n _ _ (by omega) (two_le (by omega)), eh]
              refine ih f (x + 1) (gm ||| 2 ^ y) (updI t x (y : Int)) S _ _ (by omega) (by omega) (F2.B B1) (fun i hi => ?_) P2 L2 (fun g' e1 e2 e3 => ?_)
              · unfold gi
                by_cases d : i = x
                · subst d; rw [hset_rs, updI_s, if_neg (by omega)]
                · rw [hset_rn d, updI_n d, G1 i (by omega)]; exact hG i (by omega)
              · have := ihm fu (y + 1) _ g' (by omega) (by omega) ((F1.tr F2).tr e1) (fun i hi => by rw [e2 i (by omega), hset_rn (by omega)]; exact G1 i hi) e3 (fun g2 q1 q2 q3 => hQ g2 q1 q2 ?_)
                · exact this
                · show rgL n g2 (fr _ (y + 1 + 1) m (rgO V W n N j (x + 1) (updI t x (((y + 1 : Nat) : Int) - 1)) S))
                  rw [ey]
                  exact q3
    have tail : ∀ (S' : rgS) (g1 : HP), rgO V W n N j (x + 1) (updI t x (-1)) S = S' → rgF g g1 → (∀ i, i < x → g1 55 i = g 55 i) → rgL n g1 S' → p3_chooseGiver_L46 (p3_chooseGiver f) x gm (fs (fun i => if 0 ≤ t i then mo i (t i).toNat else 0) 0 x) Q FUEL g1 0 := fun S' g1 e F1 G1 hL1 => by
      refine L n FUEL 0 S' g1 (by unfold FUEL; omega) (by omega) F1 G1 hL1 (fun g' q1 q2 q3 => hQ g' q1 q2 ?_)
      show rgL n g' (fr _ 1 n (rgO V W n N j (x + 1) (updI t x (((0 : Nat) : Int) - 1)) S))
      rw [show (((0 : Nat) : Int) - 1) = -1 from by decide, e]
      exact q3
    rw [bit_n gm x (by omega) (by omega)]
    by_cases c : gm.testBit x = true
    · rw [if_pos c]
      refine brN (by decide) (tail S g ?_ rgF.rf (fun _ _ => rfl) hL)
      refine rgO_id j (x + 1) _ S (by omega) (fun t' h1 h2 => ?_)
      obtain ⟨i, i1, i2⟩ := (p5 x).mp c
      have tx : t' x = -1 := by rw [h1 x (by omega), updI_s]
      have ti : t' i = t i := by rw [h1 i (by omega), updI_n (by omega)]
      unfold gi at i2
      by_cases d : t i < 0
      · rw [if_pos d] at i2; omega
      · rw [if_neg d] at i2
        have := (h2.2.2 x (by omega)).mpr ⟨i, by omega, by omega⟩
        omega
    · rw [if_neg c]
      refine brY (by decide) ?_
      obtain ⟨l1, l2, l3, l4, l5⟩ := id hL
      have c' : gm.testBit x = false := by simpa using c
      refine wr_n (by omega) (by decide) ?_
      have F2 : rgF g (hset g 55 x x) := rgF.rf.set (by decide) (by decide)
      have P2 := hP.set (a := -1) (z := x) (by omega) n5 (by omega) (by omega) (by omega) (by rw [if_pos (by decide)]) c'
      have L2 : rgL n (hset g 55 x x) S := by
        refine ⟨by rw [hset_c (by decide)]; exact l1, l2, l3, fun i hi => by rw [hset_c (by decide)]; exact l4 i hi, fun i hi => ?_⟩
        rw [hset_c (by decide), hset_c (by decide)]; exact l5 i hi
      have eh : fs (fun i => if 0 ≤ t i then mo i (t i).toNat else 0) 0 x = fs (fun i => if 0 ≤ updI t x (-1) i then mo i (updI t x (-1) i).toNat else 0) 0 (x + 1) := by
        rw [fs_succ, Nat.zero_add, updI_s, if_neg (by decide), Int.add_zero]
        rw [fs_congr (f := fun i => if 0 ≤ updI t x (-1) i then mo i (updI t x (-1) i).toNat else 0) (g := fun i => if 0 ≤ t i then mo i (t i).toNat else 0) x 0 (fun i _ hi => by rw [updI_n (by omega)])]
      have tl := tail (rgO V W n N j (x + 1) (updI t x (-1)) S)
      rw [sl_n x (by omega), io_n _ _ (by omega) (two_le (by omega))]
      refine Eq.mpr (congrArg (fun z => p3_chooseGiver f ((x : Int) + 1) ((gm ||| 2 ^ x : Nat) : Int) z (hset g 55 x x) _) eh) ?_
      refine ih f (x + 1) (gm ||| 2 ^ x) (updI t x (-1)) S _ _ (by omega) (by omega) (F2.B B) (fun i hi => ?_) P2 L2 (fun g' e1 e2 e3 => tl g' rfl (F2.tr e1) (fun i hi => by rw [e2 i (by omega), hset_rn (by omega)]) e3)
      unfold gi
      by_cases d : i = x
      · subst d; rw [hset_rs, updI_s, if_pos (by decide)]
      · rw [hset_rn d, updI_n d]; exact hG i (by omega)
end RD1
