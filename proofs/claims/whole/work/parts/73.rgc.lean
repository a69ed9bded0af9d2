/-! ===== PURE: rings, the class: parts thrown ===== -/
theorem fs_lin (f g : Nat → Int) : ∀ (m p : Nat), fs (fun i => f i - g i) p m = fs f p m - fs g p m
  | 0, _ => by show (0 : Int) = 0 - 0; omega
  | m + 1, p => by
    show (f p - g p) + fs (fun i => f i - g i) (p + 1) m = (f p + fs f (p + 1) m) - (g p + fs g (p + 1) m)
    rw [fs_lin f g m (p + 1)]; omega
theorem fs_bd {f : Nat → Int} {a b : Int} : ∀ (m p : Nat), (∀ q, p ≤ q → q < p + m → a ≤ f q ∧ f q ≤ b) → m * a ≤ fs f p m ∧ fs f p m ≤ m * b
  | 0, _, _ => by show ((0 : Nat) : Int) * a ≤ 0 ∧ (0 : Int) ≤ ((0 : Nat) : Int) * b; simp
  | m + 1, p, h => by
    have h1 := h p (by omega) (by omega)
    have h2 := fs_bd m (p + 1) (fun q x1 x2 => h q (by omega) (by omega))
    show ((m + 1 : Nat) : Int) * a ≤ f p + fs f (p + 1) m ∧ f p + fs f (p + 1) m ≤ ((m + 1 : Nat) : Int) * b
    rw [show ((m + 1 : Nat) : Int) = (m : Int) + 1 from rfl, Int.add_mul, Int.add_mul, Int.one_mul, Int.one_mul]
    omega
noncomputable def rc (V : HP) (x : Int) : Nat → Nat
  | 0 => 0
  | p + 1 => rc V x p + itc (isC V x p) 1 0
section RC0
variable {V : HP} {x : Int}
theorem rc_y {p : Nat} (h : isC V x p) : rc V x (p + 1) = rc V x p + 1 := by show rc V x p + itc (isC V x p) 1 0 = _; rw [itc_y h]
theorem rc_n {p : Nat} (h : ¬ isC V x p) : rc V x (p + 1) = rc V x p := by show rc V x p + itc (isC V x p) 1 0 = _; rw [itc_n h]; rfl
theorem rc_le {p q : Nat} (h : p ≤ q) : rc V x p ≤ rc V x q := by
  induction q with
  | zero => obtain rfl : p = 0 := by omega
            exact Nat.le_refl _
  | succ q ih =>
    by_cases c : p = q + 1
    · subst c; exact Nat.le_refl _
    · exact Nat.le_trans (ih (by omega)) (Nat.le_add_right _ _)
theorem rc_rk : ∀ p, rc V x p ≤ rk V x p
  | 0 => Nat.le_refl _
  | p + 1 => by
    have := rc_rk p
    by_cases c : isC V x p
    · rw [rc_y c, rk_y c.1]; omega
    · rw [rc_n c]
      exact Nat.le_trans this (rk_le (by omega))
theorem rc_lt {N p : Nat} (h : isC V x p) (hp : p < N) : rc V x p < rc V x N := by
  have := rc_le (V := V) (x := x) (show p + 1 ≤ N by omega)
  rw [rc_y h] at this
  omega
theorem rc_ex : ∀ (N j : Nat), j < rc V x N → ∃ p, p < N ∧ isC V x p ∧ rc V x p = j
  | 0, j, h => absurd h (Nat.not_lt_zero j)
  | N + 1, j, h => by
    by_cases c : isC V x N
    · rw [rc_y c] at h
      by_cases d : j = rc V x N
      · exact ⟨N, by omega, c, d.symm⟩
      · obtain ⟨p, a1, a2, a3⟩ := rc_ex N j (by omega)
        exact ⟨p, by omega, a2, a3⟩
    · rw [rc_n c] at h
      obtain ⟨p, a1, a2, a3⟩ := rc_ex N j h
      exact ⟨p, by omega, a2, a3⟩
theorem isC_ex : ∀ (k p : Nat), p < k → V 2 p = x → ∃ q, q ≤ p ∧ isC V x q ∧ V 1 q = V 1 p
  | 0, p, h, _ => by omega
  | k + 1, p, h, hx => by
    by_cases c : isC V x p
    · exact ⟨p, by omega, c, rfl⟩
    · have : ∃ q, q < p ∧ V 2 q = x ∧ V 1 q = V 1 p := Classical.byContradiction (fun z => c ⟨hx, fun q a1 a2 a3 => z ⟨q, a1, a2, a3⟩⟩)
      obtain ⟨q, a1, a2, a3⟩ := this
      obtain ⟨r, b1, b2, b3⟩ := isC_ex k q (by omega) a2
      exact ⟨r, by omega, b2, b3.trans a3⟩
end RC0
def rgB (V : HP) (W : Nat → Int) (n N : Nat) (mo : Nat → Nat → Int) (g : HP) : Prop := SI 13 g ∧ VC 13 g = V ∧ g 6 = W ∧ g 2 1 = n ∧ g 13 1 = N ∧ g 54 1 = n ∧ (∀ x : Nat, x < n → g 60 x = ((rc V x N : Nat) : Int)) ∧ (∀ x p : Nat, x < n → p < N → isC V x p → g 59 (x * 4 + rc V x p) = p) ∧ ∀ x y : Nat, x < n → y < n → g 61 (x * 5 + y) = mo x y
def rgM (V : HP) (W : Nat → Int) (n N : Nat) (mo : Nat → Nat → Int) : Prop := ∀ x y : Nat, x < n → y < n → 0 ≤ mo x y ∧ mo x y ≤ 99 ∧ ∀ p q : Nat, p < N → q < N → V 2 p = x → V 2 q = y → bV V W x p q ≤ mo x y
def rgF (g g' : HP) : Prop := (∀ c, c < 54 ∨ 58 < c → g' c = g c) ∧ g' 54 1 = g 54 1
def rgL (n : Nat) (g : HP) (S : rgS) : Prop := g 54 2 = S.1 ∧ 0 ≤ S.1 ∧ S.1 ≤ 1000 ∧ (∀ i, i < n → g 58 i = S.2.1 i) ∧ ∀ i, i < n → ∃ k : Nat, k < n ∧ g 57 i = k ∧ g 58 k = S.2.2 i
def gvT (n : Nat) (t : Nat → Int) (g : HP) : Prop := ∀ i : Nat, i < n → g 55 i = if t i < 0 then (i : Int) else t i
def vaP (V : HP) (N : Nat) (t : Nat → Int) (k : Nat) (th : Nat → Int) : Prop := (∀ i, i < k → 0 ≤ t i → ∃ p : Nat, p < N ∧ th i = p ∧ V 2 p = i) ∧ ∀ i, (i < k → t i < 0) → th i = -1
def hoT (V : HP) (W : Nat → Int) (n : Nat) (mo : Nat → Nat → Int) (t th : Nat → Int) (x : Nat) : Int := fs (fun i => if 0 ≤ t i then (if i < x ∧ t i < x then byT V W t th i else mo i (t i).toNat) else 0) 0 n
def nwT (V : HP) (W : Nat → Int) (mo : Nat → Nat → Int) (t th : Nat → Int) (x : Nat) (i : Nat) : Int := if 0 ≤ t i ∧ t i ≤ x ∧ (i = x ∨ t i = x) then mo i (t i).toNat - byT V W t th i else 0
section RC1
variable {V : HP} {W : Nat → Int} {n N : Nat} {t : Nat → Int} {mo : Nat → Nat → Int}
theorem rgF.rf {g : HP} : rgF g g := ⟨fun _ _ => rfl, rfl⟩
theorem rgF.tr {g1 g2 g3 : HP} (a : rgF g1 g2) (b : rgF g2 g3) : rgF g1 g3 := ⟨fun c hc => (b.1 c hc).trans (a.1 c hc), b.2.trans a.2⟩
theorem rgF.set {g g1 : HP} {c j : Nat} {v : Int} (a : rgF g g1) (hc : 54 < c) (hc2 : c < 59) : rgF g (hset g1 c j v) := ⟨fun k hk => by rw [hset_c (by omega)]; exact a.1 k hk, by rw [hset_c (by omega)]; exact a.2⟩
theorem rgF.B {g g' : HP} (f : rgF g g') (B : rgB V W n N mo g) : rgB V W n N mo g' := by
  obtain ⟨b1, b2, b3, b4, b5, b6, b7, b8, b9⟩ := B
  refine ⟨SI_eq (f.1 2 (by decide)) (fun i hi => f.1 _ (by omega)) b1, ?_, by rw [f.1 6 (by decide)]; exact b3, by rw [f.1 2 (by decide)]; exact b4, by rw [f.1 13 (by decide)]; exact b5, by rw [f.2]; exact b6, fun x hx => by rw [f.1 60 (by decide)]; exact b7 x hx, fun x p a1 a2 a3 => by rw [f.1 59 (by decide)]; exact b8 x p a1 a2 a3, fun x y a1 a2 => by rw [f.1 61 (by decide)]; exact b9 x y a1 a2⟩
  rw [← b2]
  exact VC_eq (fun j _ => by rw [f.1 13 (by decide)]) (fun i _ _ => f.1 _ (by omega))
theorem vaP.va {x : Nat} {th : Nat → Int} (v : vaP V N t x th) : vaT V N t x th := ⟨fun i hi h0 => Or.inr (v.1 i hi h0), v.2⟩
theorem vaP.up {x : Nat} {th : Nat → Int} (v : vaP V N t x th) (hx : t x < 0) : vaP V N t (x + 1) th := by
  refine ⟨fun i hi h0 => ?_, fun i hi => v.2 i (fun h => hi (by omega))⟩
  by_cases c : i = x
  · subst c; omega
  · exact v.1 i (by omega) h0
theorem vaP.set {x p : Nat} {th : Nat → Int} (v : vaP V N t x th) (hx : 0 ≤ t x) (hp : p < N) (ho : V 2 p = x) : vaP V N t (x + 1) (updI th x p) := by
  refine ⟨fun i hi h0 => ?_, fun i hi => ?_⟩
  · by_cases c : i = x
    · subst c; rw [updI_s]; exact ⟨p, hp, rfl, ho⟩
    · rw [updI_n c]; exact v.1 i (by omega) h0
  · by_cases c : i = x
    · subst c; have := hi (by omega); omega
    · rw [updI_n c]; exact v.2 i (fun h => hi (by omega))
/-- a taker's giver is a taker -/
theorem goT.gv (hg : goT n t) {i : Nat} (hi : i < n) (h0 : 0 ≤ t i) : (t i).toNat < n ∧ ((t i).toNat : Int) = t i ∧ 0 ≤ t (t i).toNat := by
  have h1 := hg.1 i hi
  refine ⟨by omega, by omega, ?_⟩
  exact (hg.2.2 (t i).toNat (by omega)).mpr ⟨i, hi, by omega⟩
theorem by_le (hM : rgM V W n N mo) (hg : goT n t) {th : Nat → Int} (hv : vaT V N t n th) {i : Nat} (hi : i < n) (h0 : 0 ≤ t i) (k1 : 0 ≤ th i) (k2 : 0 ≤ th (t i).toNat) : byT V W t th i ≤ mo i (t i).toNat := by
  obtain ⟨g1, g2, g3⟩ := hg.gv hi h0
  rcases hv.1 i hi h0 with r | ⟨p, a1, a2, a3⟩
  · omega
  · rcases hv.1 _ g1 g3 with r | ⟨q, b1, b2, b3⟩
    · omega
    · unfold byT
      rw [a2, b2]
      exact (hM i _ hi g1).2.2 p q a1 b1 a3 b3
theorem sm_ho (hM : rgM V W n N mo) (hg : goT n t) {x : Nat} {th th' : Nat → Int} (hv : vaT V N t n th') (ha : ∀ i, i < x → th' i = th i) : smT V W n t th' ≤ hoT V W n mo t th x ∨ smT V W n t th' = 0 := by
  by_cases c : okT V W n t th'
  · left
    unfold smT hoT
    rw [itc_y c]
    refine fs_le 0 n (fun i _ hi => ?_)
    by_cases d : 0 ≤ t i
    · rw [if_pos d, if_pos d]
      obtain ⟨g1, g2, g3⟩ := hg.gv (by omega) d
      by_cases e : i < x ∧ t i < x
      · rw [if_pos e]
        unfold byT
        rw [ha i e.1, ha (t i).toNat (by omega)]
        exact Int.le_refl _
      · rw [if_neg e]
        exact by_le hM hg hv (by omega) d (c i (by omega) d).1 (c _ g1 g3).1
    · rw [if_neg d, if_neg d]; exact Int.le_refl _
  · right; exact sm_no c
theorem ho_skip (hg : goT n t) {x : Nat} {th : Nat → Int} (hx : x < n) (h0 : t x < 0) : hoT V W n mo t th (x + 1) = hoT V W n mo t th x := by
  unfold hoT
  refine fs_congr n 0 (fun i _ hi => ?_)
  by_cases d : 0 ≤ t i
  · rw [if_pos d, if_pos d]
    obtain ⟨g1, g2, g3⟩ := hg.gv (by omega) d
    have n1 : i ≠ x := fun z => by subst z; omega
    have n2 : t i ≠ x := fun z => by rw [show (t i).toNat = x from by omega] at g3; omega
    by_cases e : i < x ∧ t i < x
    · rw [if_pos e, if_pos (by omega)]
    · rw [if_neg e, if_neg (by omega)]
  · rw [if_neg d, if_neg d]
theorem ho_step (hg : goT n t) {x p : Nat} {th : Nat → Int} (hx : x < n) : hoT V W n mo t (updI th x p) (x + 1) = hoT V W n mo t th x - fs (nwT V W mo t (updI th x p) x) 0 (x + 1) := by
  have e1 : fs (nwT V W mo t (updI th x p) x) 0 (x + 1) = fs (fun i => if i < x + 1 then nwT V W mo t (updI th x p) x i else 0) 0 n := by
    have ea := fs_add (fun i => if i < x + 1 then nwT V W mo t (updI th x p) x i else 0) (x + 1) (n - (x + 1)) 0
    rw [show (x + 1) + (n - (x + 1)) = n from by omega] at ea
    rw [ea]
    rw [fs_congr (f := fun i => if i < x + 1 then nwT V W mo t (updI th x p) x i else 0) (g := nwT V W mo t (updI th x p) x) (x + 1) 0 (fun q _ hq => if_pos (by omega))]
    rw [fs_zero (0 + (x + 1)) (n - (x + 1)) (f := fun i => if i < x + 1 then nwT V W mo t (updI th x p) x i else 0) (fun q hq _ => if_neg (by omega))]
    omega
  rw [e1]
  unfold hoT
  rw [← fs_lin]
  refine fs_congr n 0 (fun i _ hi => ?_)
  by_cases d : 0 ≤ t i
  · rw [if_pos d, if_pos d]
    obtain ⟨g1, g2, g3⟩ := hg.gv (by omega) d
    by_cases e : i < x ∧ t i < x
    · rw [if_pos e, if_pos (by omega), if_pos (by omega)]
      unfold nwT
      rw [if_neg (by omega)]
      unfold byT
      rw [updI_n (by omega), updI_n (by omega)]; omega
    · rw [if_neg e]
      by_cases e2 : i < x + 1 ∧ t i < ((x + 1 : Nat) : Int)
      · rw [if_pos e2, if_pos e2.1]
        unfold nwT
        rw [if_pos (by omega)]; omega
      · rw [if_neg e2]
        by_cases e3 : i < x + 1
        · rw [if_pos e3]
          unfold nwT
          rw [if_neg (by omega)]; omega
        · rw [if_neg e3]; omega
  · rw [if_neg d, if_neg d]
    by_cases e3 : i < x + 1
    · rw [if_pos e3]
      unfold nwT
      rw [if_neg (by omega)]; omega
    · rw [if_neg e3]; omega
theorem rgB.bd {g : HP} (B : rgB V W n N mo g) (hW : okW W) {x p q : Nat} (hx : x < n) (hp : p < N) (hq : q < N) : -99 ≤ bV V W x p q ∧ bV V W x p q ≤ 99 := by
  obtain ⟨b1, b2, b3, b4, b5, _⟩ := B
  have hn : nP V = N := by
    rw [← b2]
    show (g 13 1).toNat = N
    rw [b5]; rfl
  have hV := b1.2.1
  rw [b2] at hV
  exact bV_bd hW b1.1 hV (by omega) (by omega) (by omega) (by omega)
theorem C_hopeLost {Q : Int → Prop} {g : HP} {x : Nat} {th : Nat → Int} (B : rgB V W n N mo g) (n5 : n ≤ 5) (hW : okW W) (hg : goT n t) (hx : x < n) (hG : gvT n t g) (hth : ∀ i, i < x + 1 → g 56 i = th i) (hv : ∀ i, i < x + 1 → 0 ≤ t i → ∃ p : Nat, p < N ∧ th i = p ∧ V 2 p = i) (hy : (∀ i, i < x + 1 → 0 ≤ t i → t i ≤ x → (i = x ∨ t i = x) → 0 < byT V W t th i) → Q (fs (nwT V W mo t th x) 0 (x + 1))) (hn : (∃ i, i < x + 1 ∧ 0 ≤ t i ∧ t i ≤ x ∧ byT V W t th i ≤ 0) → Q (-1)) : p3_hopeLostBy x g Q := by
  obtain ⟨b1, b2, b3, b4, b5, b6, b7, b8, b9⟩ := id B
  have L : ∀ (m f i : Nat), m < f → i + m = x + 1 → (∀ k, k < i → 0 ≤ t k → t k ≤ x → (k = x ∨ t k = x) → 0 < byT V W t th k) → p3_hopeLostBy_L4 x g Q f (fs (nwT V W mo t th x) 0 i) i := by
    intro m
    induction m with
    | zero =>
      intro f i hf hi ha
      obtain ⟨f, rfl⟩ : ∃ n', f = n' + 1 := ⟨f - 1, by omega⟩
      unfold p3_hopeLostBy_L4
      refine brY ((wlt ⟨by omega, by omega⟩ ⟨by omega, by omega⟩).mpr (by omega)) ?_
      obtain rfl : i = x + 1 := by omega
      exact hy ha
    | succ m ih =>
      intro f i hf hi ha
      obtain ⟨f, rfl⟩ : ∃ n', f = n' + 1 := ⟨f - 1, by omega⟩
      have gi := hG i (by omega)
      have ti := hg.1 i (by omega)
      unfold p3_hopeLostBy_L4
      refine brN (fun z => by have := (wlt ⟨by omega, by omega⟩ ⟨by omega, by omega⟩).mp z; omega) ?_
      refine rd_n (by omega) (by decide) ?_
      have gb : 0 ≤ g 55 i ∧ g 55 i < 5 := by rw [gi]; split <;> omega
      have skip : ¬ (0 ≤ t i ∧ t i ≤ x ∧ (i = x ∨ t i = x)) → p3_hopeLostBy_L4 x g Q f (fs (nwT V W mo t th x) 0 i) ((i : Int) + 1) := fun c => by
        have r := ih f (i + 1) (by omega) (by omega) (fun k hk h0 h1 h2 => by
          by_cases d : k = i
          · subst d; exact absurd ⟨h0, h1, h2⟩ c
          · exact ha k (by omega) h0 h1 h2)
        rw [fs_succ, Nat.zero_add, show nwT V W mo t th x i = 0 from by unfold nwT; exact if_neg c, Int.add_zero] at r
        exact r
      have take : (0 ≤ t i ∧ t i ≤ x ∧ (i = x ∨ t i = x)) → rd g 56 5 (i : Int) fun v6 => rd g 56 5 (g 55 i) fun v7 => p5_betterBy 13 (i : Int) v6 v7 g fun r8 => brc (0 < w32 r8) (rd g 61 25 (((i : Int) * 5) + (g 55 i)) fun v9 => p3_hopeLostBy_L4 x g Q f ((fs (nwT V W mo t th x) 0 i) + (v9 - r8)) ((i : Int) + 1)) (Q (-1)) := fun c => by
        obtain ⟨g1, g2, g3⟩ := hg.gv (show i < n by omega) c.1
        have e55 : g 55 i = (((t i).toNat : Nat) : Int) := by rw [gi, if_neg (by omega)]; omega
        rw [e55]
        obtain ⟨p, p1, p2, p3⟩ := hv i (by omega) c.1
        obtain ⟨q, q1, q2, q3⟩ := hv (t i).toNat (by omega) g3
        refine rd_n (by omega) (by decide) (rd_n (by omega) (by decide) ?_)
        rw [hth i (by omega), hth (t i).toNat (by omega), p2, q2]
        have bd := B.bd hW (show i < n by omega) p1 q1
        have eb : byT V W t th i = bV V W i p q := by unfold byT; rw [p2, q2]; rfl
        refine C_betterBy b1 (by omega) (by omega) (by omega) ?_
        rw [b2, b3]
        refine brQ (w0lt ⟨by omega, by omega⟩) (fun z => ?_) (fun z => hn ⟨i, by omega, c.1, c.2.1, by rw [eb]; omega⟩)
        refine rd_i (by omega) (by omega) (by decide) ?_
        rw [show ((i : Int) * 5 + ((t i).toNat : Nat)).toNat = i * 5 + (t i).toNat from by omega, b9 i _ (by omega) g1]
        have r := ih f (i + 1) (by omega) (by omega) (fun k hk h0 h1 h2 => by
          by_cases d : k = i
          · subst d; rw [eb]; exact z
          · exact ha k (by omega) h0 h1 h2)
        rw [fs_succ, Nat.zero_add, show nwT V W mo t th x i = mo i (t i).toNat - bV V W i p q from by unfold nwT; rw [if_pos c, eb]] at r
        exact r
      refine jn_i (jn_i (brQ (weq ⟨by omega, by omega⟩ ⟨by omega, by omega⟩) (fun z => brY (by decide) (skip ?_)) (fun z => brQ (wlt ⟨by omega, by omega⟩ ⟨by omega, by omega⟩) (fun z2 => brY (by decide) (skip ?_)) (fun z2 => jn_i (brQ (weq ⟨by omega, by omega⟩ ⟨by omega, by omega⟩) (fun z3 => brN (by decide) (take ?_)) (fun z3 => brQ (weq ⟨by omega, by omega⟩ ⟨by omega, by omega⟩) (fun z4 => brN (by decide) (take ?_)) (fun z4 => brY (by decide) (skip ?_))))))))
      · intro c
        rw [gi, if_neg (by omega)] at z
        omega
      · intro c
        rw [gi, if_neg (by omega)] at z2
        omega
      · by_cases c : t i < 0
        · rw [gi, if_pos c] at z; omega
        · rw [gi, if_neg c] at z2; omega
      · by_cases c : t i < 0
        · rw [gi, if_pos c] at z; omega
        · rw [gi, if_neg c] at z2 z4; omega
      · intro c
        rw [gi, if_neg (by omega)] at z4
        omega
  unfold p3_hopeLostBy
  have := L (x + 1) FUEL 0 (by unfold FUEL; omega) (by omega) (fun k hk => by omega)
  exact this
end RC1
