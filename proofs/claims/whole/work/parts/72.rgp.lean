/-! ===== PURE: rings, all of them in their order ===== -/
abbrev rgS : Type := Int × (Nat → Int) × (Nat → Int)
noncomputable def itc {α : Type} (P : Prop) (a b : α) : α := @ite α P (Classical.propDecidable P) a b
theorem itc_y {α : Type} {P : Prop} {a b : α} (h : P) : itc P a b = a := by unfold itc; exact if_pos h
theorem itc_n {α : Type} {P : Prop} {a b : α} (h : ¬ P) : itc P a b = b := by unfold itc; exact if_neg h
/-- one behind the other: f p, f (p + 1) .. (m of them) -/
def fr (f : Nat → rgS → rgS) : Nat → Nat → rgS → rgS
  | _, 0, S => S
  | p, m + 1, S => fr f (p + 1) m (f p S)
theorem fr_add (f : Nat → rgS → rgS) : ∀ (m k p : Nat) (S : rgS), fr f p (m + k) S = fr f (p + m) k (fr f p m S)
  | 0, k, p, S => by rw [Nat.zero_add]; rfl
  | m + 1, k, p, S => by
    rw [show m + 1 + k = (m + k) + 1 from by omega]
    show fr f (p + 1) (m + k) (f p S) = fr f (p + (m + 1)) k (fr f (p + 1) m (f p S))
    rw [fr_add f m k (p + 1), show p + 1 + m = p + (m + 1) from by omega]
theorem fr_congr {f g : Nat → rgS → rgS} : ∀ (m p : Nat) (S : rgS), (∀ q S, p ≤ q → q < p + m → f q S = g q S) → fr f p m S = fr g p m S
  | 0, _, _, _ => rfl
  | m + 1, p, S, h => by
    show fr f (p + 1) m (f p S) = fr g (p + 1) m (g p S)
    rw [h p S (by omega) (by omega), fr_congr m (p + 1) _ (fun q S h1 h2 => h q S (by omega) (by omega))]
theorem fr_id {f : Nat → rgS → rgS} : ∀ (m p : Nat) (S : rgS), (∀ q, p ≤ q → q < p + m → f q S = S) → fr f p m S = S
  | 0, _, _, _ => rfl
  | m + 1, p, S, h => by
    show fr f (p + 1) m (f p S) = S
    rw [h p (by omega) (by omega)]
    exact fr_id m (p + 1) S (fun q h1 h2 => h q (by omega) (by omega))
theorem fr_mono {f : Nat → rgS → rgS} (hf : ∀ q S, S.1 ≤ (f q S).1) : ∀ (m p : Nat) (S : rgS), S.1 ≤ (fr f p m S).1
  | 0, _, _ => Int.le_refl _
  | m + 1, p, S => Int.le_trans (hf p S) (fr_mono hf m (p + 1) (f p S))
theorem fr_ge {f : Nat → rgS → rgS} {v : Int} {k : Nat} (hf : ∀ q S, S.1 ≤ (f q S).1) (hk : ∀ S, 0 ≤ S.1 → v ≤ (f k S).1) : ∀ (m p : Nat) (S : rgS), p ≤ k → k < p + m → 0 ≤ S.1 → v ≤ (fr f p m S).1
  | 0, p, S, h1, h2, _ => by omega
  | m + 1, p, S, h1, h2, h3 => by
    show v ≤ (fr f (p + 1) m (f p S)).1
    by_cases c : p = k
    · subst c; exact Int.le_trans (hk S h3) (fr_mono hf m (p + 1) _)
    · exact fr_ge hf hk m (p + 1) _ (by omega) (by omega) (Int.le_trans h3 (hf p S))
theorem fr_blk (f : Nat → rgS → rgS) (B C w : Nat) (S : rgS) : fr f (w * (B * C)) (B * C) S = fr (fun i S => fr f ((w * B + i) * C) C S) 0 B S := by
  have L : ∀ (m i : Nat) (S : rgS), fr f ((w * B + i) * C) (m * C) S = fr (fun i S => fr f ((w * B + i) * C) C S) i m S := by
    intro m
    induction m with
    | zero => intro i S; rw [Nat.zero_mul]; rfl
    | succ m ih =>
      intro i S
      rw [show (m + 1) * C = C + m * C from by rw [Nat.add_mul, Nat.one_mul, Nat.add_comm], fr_add]
      show fr f ((w * B + i) * C + C) (m * C) _ = fr (fun i S => fr f ((w * B + i) * C) C S) (i + 1) m (fr f ((w * B + i) * C) C S)
      rw [← ih (i + 1), show (w * B + (i + 1)) * C = (w * B + i) * C + C from by rw [← Nat.add_assoc, Nat.add_mul (w * B + i), Nat.one_mul]]
  have := L B 0 S
  rw [Nat.add_zero, Nat.mul_assoc] at this
  exact this
def upT (v : Int) (t th : Nat → Int) (S : rgS) : rgS := if S.1 < v then (v, th, fun i => if 0 ≤ t i then th (t i).toNat else -1) else S
theorem upT_mono (v : Int) (t th : Nat → Int) (S : rgS) : S.1 ≤ (upT v t th S).1 := by
  unfold upT
  split
  · show S.1 ≤ v; omega
  · exact Int.le_refl _
theorem upT_ge (v : Int) (t th : Nat → Int) (S : rgS) : v ≤ (upT v t th S).1 := by
  unfold upT
  split
  · exact Int.le_refl v
  · omega
theorem upT_id {v : Int} {t th : Nat → Int} {S : rgS} (h : v ≤ S.1) : upT v t th S = S := by
  unfold upT; rw [if_neg (by omega)]
/-- the i-th part of a house -/
def pOf (V : HP) (x : Int) (i : Nat) : Nat → Nat → Nat → Int
  | 0, _, _ => -1
  | m + 1, p, c => if V 2 p = x then (if c = i then (p : Int) else pOf V x i m (p + 1) (c + 1)) else pOf V x i m (p + 1) c
def pO (V : HP) (N : Nat) (x : Int) (i : Nat) : Int := pOf V x i N 0 0
def rk (V : HP) (x : Int) : Nat → Nat
  | 0 => 0
  | p + 1 => rk V x p + (if V 2 p = x then 1 else 0)
section RG0
variable {V : HP} {x : Int}
theorem rk_le {p q : Nat} (h : p ≤ q) : rk V x p ≤ rk V x q := by
  induction q with
  | zero => obtain rfl : p = 0 := by omega
            exact Nat.le_refl _
  | succ q ih =>
    by_cases c : p = q + 1
    · subst c; exact Nat.le_refl _
    · exact Nat.le_trans (ih (by omega)) (Nat.le_add_right _ _)
theorem rk_y {p : Nat} (h : V 2 p = x) : rk V x (p + 1) = rk V x p + 1 := by show rk V x p + (if V 2 p = x then 1 else 0) = _; rw [if_pos h]
theorem rk_n {p : Nat} (h : ¬ V 2 p = x) : rk V x (p + 1) = rk V x p := by show rk V x p + (if V 2 p = x then 1 else 0) = _; rw [if_neg h]; rfl
theorem rk_fs : ∀ p, ((rk V x p : Nat) : Int) = fs (fun q => if V 2 q = x then 1 else 0) 0 p
  | 0 => rfl
  | p + 1 => by
    rw [fs_succ, ← rk_fs p, Nat.zero_add]
    by_cases c : V 2 p = x
    · rw [rk_y c, if_pos c]; rfl
    · rw [rk_n c, if_neg c]; omega
theorem pOf_at {q : Nat} (hq : V 2 q = x) : ∀ (m p : Nat), p ≤ q → q < p + m → pOf V x (rk V x q) m p (rk V x p) = q
  | 0, p, h1, h2 => by omega
  | m + 1, p, h1, h2 => by
    show (if V 2 p = x then (if rk V x p = rk V x q then (p : Int) else pOf V x (rk V x q) m (p + 1) (rk V x p + 1)) else pOf V x (rk V x q) m (p + 1) (rk V x p)) = q
    by_cases c : p = q
    · subst c; rw [if_pos hq, if_pos rfl]
    · have l := rk_le (V := V) (x := x) (show p + 1 ≤ q by omega)
      have r := pOf_at hq m (p + 1) (by omega) (by omega)
      by_cases d : V 2 p = x
      · rw [rk_y d] at l r
        rw [if_pos d, if_neg (by omega)]; exact r
      · rw [rk_n d] at r
        rw [if_neg d]; exact r
theorem pOf_no {i : Nat} : ∀ (m p : Nat), rk V x (p + m) ≤ i → pOf V x i m p (rk V x p) = -1
  | 0, _, _ => rfl
  | m + 1, p, h => by
    show (if V 2 p = x then (if rk V x p = i then (p : Int) else pOf V x i m (p + 1) (rk V x p + 1)) else pOf V x i m (p + 1) (rk V x p)) = -1
    have l := rk_le (V := V) (x := x) (show p + 1 ≤ p + (m + 1) by omega)
    have r := pOf_no (i := i) m (p + 1) (by rw [show p + 1 + m = p + (m + 1) from by omega]; exact h)
    by_cases d : V 2 p = x
    · rw [rk_y d] at l r
      rw [if_pos d, if_neg (by omega)]; exact r
    · rw [rk_n d] at r
      rw [if_neg d]; exact r
theorem pOf_or {i : Nat} : ∀ (m p c : Nat), pOf V x i m p c = -1 ∨ ∃ q : Nat, p ≤ q ∧ q < p + m ∧ pOf V x i m p c = q ∧ V 2 q = x
  | 0, _, _ => Or.inl rfl
  | m + 1, p, c => by
    show (if V 2 p = x then (if c = i then (p : Int) else pOf V x i m (p + 1) (c + 1)) else pOf V x i m (p + 1) c) = -1 ∨ ∃ q : Nat, p ≤ q ∧ q < p + (m + 1) ∧ (if V 2 p = x then (if c = i then (p : Int) else pOf V x i m (p + 1) (c + 1)) else pOf V x i m (p + 1) c) = q ∧ V 2 q = x
    have go : ∀ c, pOf V x i m (p + 1) c = -1 ∨ ∃ q : Nat, p ≤ q ∧ q < p + (m + 1) ∧ pOf V x i m (p + 1) c = q ∧ V 2 q = x := fun c => by
      rcases pOf_or (i := i) m (p + 1) c with r | ⟨q, a1, a2, a3, a4⟩
      · exact Or.inl r
      · exact Or.inr ⟨q, by omega, by omega, a3, a4⟩
    by_cases d : V 2 p = x
    · rw [if_pos d]
      by_cases e : c = i
      · rw [if_pos e]; exact Or.inr ⟨p, by omega, by omega, rfl, d⟩
      · rw [if_neg e]; exact go (c + 1)
    · rw [if_neg d]; exact go c
theorem pO_at {N q : Nat} (hq : q < N) (hx : V 2 q = x) : pO V N x (rk V x q) = q := pOf_at hx N 0 (by omega) (by omega)
theorem pO_no {N i : Nat} (h : rk V x N ≤ i) : pO V N x i = -1 := pOf_no N 0 (by rw [Nat.zero_add]; exact h)
theorem pO_or {N i : Nat} : pO V N x i = -1 ∨ ∃ q : Nat, q < N ∧ pO V N x i = q ∧ V 2 q = x := by
  rcases pOf_or (V := V) (x := x) (i := i) N 0 0 with r | ⟨q, _, a2, a3, a4⟩
  · exact Or.inl r
  · exact Or.inr ⟨q, by omega, a3, a4⟩
theorem fr_parts {N : Nat} {G : Int → rgS → rgS} (hm : ∀ p S, S.1 ≤ (G p S).1) (hG : ∀ S, 0 ≤ S.1 → G (-1) S = S) (h4 : rk V x N ≤ 4) {S : rgS} (hS : 0 ≤ S.1) : fr (fun i S => G (pO V N x i) S) 0 4 S = fr (fun (p : Nat) S => if V 2 p = x then G p S else S) 0 N S := by
  have L : ∀ (m p : Nat) (S : rgS), p + m = N → 0 ≤ S.1 → fr (fun i S => G (pO V N x i) S) (rk V x p) (4 - rk V x p) S = fr (fun (p : Nat) S => if V 2 p = x then G p S else S) p m S := by
    intro m
    induction m with
    | zero =>
      intro p S hp hS
      obtain rfl : p = N := by omega
      show _ = S
      exact fr_id _ _ S (fun q h1 h2 => by rw [pO_no h1]; exact hG S hS)
    | succ m ih =>
      intro p S hp hS
      have l := rk_le (V := V) (x := x) (show p + 1 ≤ N by omega)
      show _ = fr (fun (p : Nat) S => if V 2 p = x then G p S else S) (p + 1) m (if V 2 p = x then G p S else S)
      by_cases d : V 2 p = x
      · rw [if_pos d, ← ih (p + 1) (G p S) (by omega) (Int.le_trans hS (hm p S))]
        rw [rk_y d] at l ⊢
        rw [show 4 - rk V x p = (4 - (rk V x p + 1)) + 1 from by omega]
        show fr (fun i S => G (pO V N x i) S) (rk V x p + 1) (4 - (rk V x p + 1)) (G (pO V N x (rk V x p)) S) = _
        rw [pO_at (by omega) d]
      · rw [if_neg d, ← ih (p + 1) S (by omega) hS, rk_n d]
  have := L N 0 S (by omega) hS
  exact this
/-- the least part of its sort that a house has -/
def isC (V : HP) (x : Int) (p : Nat) : Prop := V 2 p = x ∧ ∀ q, q < p → V 2 q = x → V 1 q ≠ V 1 p
theorem fr_choice {N : Nat} {G : Nat → rgS → rgS} {LB : Nat → Int → Prop} (hm : ∀ p S, S.1 ≤ (G p S).1) (h1 : ∀ p S, p < N → V 2 p = x → 0 ≤ S.1 → LB p (G p S).1) (h2 : ∀ p v v', LB p v → v ≤ v' → LB p v') (h3 : ∀ p q v, p < N → q < N → V 2 p = x → V 2 q = x → V 1 p = V 1 q → LB p v → LB q v) (h4 : ∀ p S, p < N → V 2 p = x → 0 ≤ S.1 → LB p S.1 → G p S = S) : ∀ (m p : Nat) (S : rgS), p + m = N → 0 ≤ S.1 → (∀ q, q < p → V 2 q = x → LB q S.1) → fr (fun p S => if V 2 p = x then G p S else S) p m S = fr (fun p S => itc (isC V x p) (G p S) S) p m S := by
  intro m
  induction m with
  | zero => intro p S _ _ _; rfl
  | succ m ih =>
    intro p S hp hS hL
    show fr (fun p S => if V 2 p = x then G p S else S) (p + 1) m (if V 2 p = x then G p S else S) = fr (fun p S => itc (isC V x p) (G p S) S) (p + 1) m (itc (isC V x p) (G p S) S)
    by_cases d : V 2 p = x
    · have e : itc (isC V x p) (G p S) S = G p S := by
        by_cases c : isC V x p
        · exact itc_y c
        · rw [itc_n c]
          have : ∃ q, q < p ∧ V 2 q = x ∧ V 1 q = V 1 p := Classical.byContradiction (fun z => c ⟨d, fun q a1 a2 a3 => z ⟨q, a1, a2, a3⟩⟩)
          obtain ⟨q, a1, a2, a3⟩ := this
          exact (h4 p S (by omega) d hS (h3 q p _ (by omega) (by omega) a2 d a3 (hL q a1 a2))).symm
      rw [if_pos d, e]
      refine ih (p + 1) _ (by omega) (Int.le_trans hS (hm p S)) (fun q hq hx => ?_)
      by_cases c : q = p
      · subst c; exact h1 q S (by omega) hx hS
      · exact h2 q _ _ (hL q (by omega) hx) (hm p S)
    · rw [if_neg d, itc_n (fun z => d z.1)]
      refine ih (p + 1) S (by omega) hS (fun q hq hx => ?_)
      by_cases c : q = p
      · subst c; exact absurd hx d
      · exact hL q (by omega) hx
end RG0
def byT (V : HP) (W : Nat → Int) (t th : Nat → Int) (i : Nat) : Int := bV V W i (th i).toNat (th (t i).toNat).toNat
def okT (V : HP) (W : Nat → Int) (n : Nat) (t th : Nat → Int) : Prop := ∀ i, i < n → 0 ≤ t i → 0 ≤ th i ∧ 0 < byT V W t th i
noncomputable def smT (V : HP) (W : Nat → Int) (n : Nat) (t th : Nat → Int) : Int := itc (okT V W n t th) (fs (fun i => if 0 ≤ t i then byT V W t th i else 0) 0 n) 0
def goT (n : Nat) (t : Nat → Int) : Prop := (∀ i : Nat, i < n → -1 ≤ t i ∧ t i < n ∧ t i ≠ i) ∧ (∀ i j : Nat, i < n → j < n → 0 ≤ t i → t i = t j → i = j) ∧ ∀ i : Nat, i < n → (0 ≤ t i ↔ ∃ j, j < n ∧ t j = i)
noncomputable def rgT (V : HP) (W : Nat → Int) (n N : Nat) (t : Nat → Int) : Nat → Nat → (Nat → Int) → rgS → rgS
  | 0, _, th, S => upT (smT V W n t th) t th S
  | j + 1, x, th, S => if t x < 0 then rgT V W n N t j (x + 1) th S else fr (fun i S => rgT V W n N t j (x + 1) (updI th x (pO V N x i)) S) 0 4 S
noncomputable def rgO (V : HP) (W : Nat → Int) (n N : Nat) : Nat → Nat → (Nat → Int) → rgS → rgS
  | 0, _, t, S => itc (goT n t) (rgT V W n N t n 0 (fun _ => -1) S) S
  | j + 1, x, t, S => fr (fun d S => rgO V W n N j (x + 1) (updI t x ((d : Int) - 1)) S) 0 (n + 1) S
def vaT (V : HP) (N : Nat) (t : Nat → Int) (k : Nat) (th : Nat → Int) : Prop := (∀ i, i < k → 0 ≤ t i → th i = -1 ∨ ∃ p : Nat, p < N ∧ th i = p ∧ V 2 p = i) ∧ ∀ i, (i < k → t i < 0) → th i = -1
section RG1
variable {V : HP} {W : Nat → Int} {n N : Nat} {t : Nat → Int}
theorem vaT0 : vaT V N t 0 (fun _ => -1) := ⟨fun i hi => by omega, fun _ _ => rfl⟩
theorem vaT.up {x : Nat} {th : Nat → Int} (v : vaT V N t x th) (hx : t x < 0) : vaT V N t (x + 1) th := by
  refine ⟨fun i hi h0 => ?_, fun i hi => v.2 i (fun h => hi (by omega))⟩
  by_cases c : i = x
  · subst c; omega
  · exact v.1 i (by omega) h0
theorem vaT.set {x : Nat} {th : Nat → Int} {a : Int} (v : vaT V N t x th) (hx : 0 ≤ t x) (ha : a = -1 ∨ ∃ p : Nat, p < N ∧ a = p ∧ V 2 p = x) : vaT V N t (x + 1) (updI th x a) := by
  refine ⟨fun i hi h0 => ?_, fun i hi => ?_⟩
  · by_cases c : i = x
    · subst c; rw [updI_s]; exact ha
    · rw [updI_n c]; exact v.1 i (by omega) h0
  · by_cases c : i = x
    · subst c; have := hi (by omega); omega
    · rw [updI_n c]; exact v.2 i (fun h => hi (by omega))
theorem sm_no {th : Nat → Int} (h : ¬ okT V W n t th) : smT V W n t th = 0 := by unfold smT; exact itc_n h
theorem sm_eq {th th' : Nat → Int} (h : ∀ i, i < n → 0 ≤ t i → byT V W t th i = byT V W t th' i ∧ (0 ≤ th i ↔ 0 ≤ th' i)) : smT V W n t th = smT V W n t th' := by
  unfold smT
  by_cases c : okT V W n t th
  · have c' : okT V W n t th' := fun i hi h0 => by
      have := c i hi h0
      rw [← (h i hi h0).1]
      exact ⟨(h i hi h0).2.mp this.1, this.2⟩
    rw [itc_y c, itc_y c']
    refine fs_congr n 0 (fun i _ hi => ?_)
    by_cases d : 0 ≤ t i
    · rw [if_pos d, if_pos d, (h i (by omega) d).1]
    · rw [if_neg d, if_neg d]
  · have c' : ¬ okT V W n t th' := fun z => c (fun i hi h0 => by
      have := z i hi h0
      rw [(h i hi h0).1]
      exact ⟨(h i hi h0).2.mpr this.1, this.2⟩)
    rw [itc_n c, itc_n c']
theorem rgT_mono : ∀ (j x : Nat) (th : Nat → Int) (S : rgS), S.1 ≤ (rgT V W n N t j x th S).1
  | 0, _, th, S => upT_mono _ _ _ _
  | j + 1, x, th, S => by
    show S.1 ≤ (if t x < 0 then rgT V W n N t j (x + 1) th S else fr (fun i S => rgT V W n N t j (x + 1) (updI th x (pO V N x i)) S) 0 4 S).1
    split
    · exact rgT_mono j (x + 1) th S
    · exact fr_mono (fun q S => rgT_mono j (x + 1) _ S) 4 0 S
theorem rgT_id : ∀ (j x : Nat) (th : Nat → Int) (S : rgS), x + j = n → vaT V N t x th → (∀ th', vaT V N t n th' → (∀ i, i < x → th' i = th i) → smT V W n t th' ≤ S.1) → rgT V W n N t j x th S = S
  | 0, x, th, S, hx, hv, h => by
    obtain rfl : x = n := by omega
    exact upT_id (h th hv (fun _ _ => rfl))
  | j + 1, x, th, S, hx, hv, h => by
    show (if t x < 0 then rgT V W n N t j (x + 1) th S else fr (fun i S => rgT V W n N t j (x + 1) (updI th x (pO V N x i)) S) 0 4 S) = S
    by_cases c : t x < 0
    · rw [if_pos c]
      exact rgT_id j (x + 1) th S (by omega) (hv.up c) (fun th' h1 h2 => h th' h1 (fun i hi => h2 i (by omega)))
    · rw [if_neg c]
      refine fr_id 4 0 S (fun q _ _ => ?_)
      refine rgT_id j (x + 1) _ S (by omega) (hv.set (by omega) pO_or) (fun th' h1 h2 => h th' h1 (fun i hi => ?_))
      rw [h2 i (by omega), updI_n (by omega)]
theorem rgT_ge {th' : Nat → Int} (h4 : ∀ y : Nat, y < n → rk V y N ≤ 4) (hv' : vaT V N t n th') : ∀ (j x : Nat) (th : Nat → Int) (S : rgS), x + j = n → vaT V N t x th → 0 ≤ S.1 → (∀ i, i < x → th' i = th i) → smT V W n t th' ≤ (rgT V W n N t j x th S).1
  | 0, x, th, S, hx, hv, hS, h => by
    obtain rfl : x = n := by omega
    have : th' = th := funext fun i => by
      by_cases c : i < x
      · exact h i c
      · rw [hv.2 i (fun z => absurd z c), hv'.2 i (fun z => absurd z c)]
    rw [this]
    exact upT_ge _ _ _ _
  | j + 1, x, th, S, hx, hv, hS, h => by
    show _ ≤ (if t x < 0 then rgT V W n N t j (x + 1) th S else fr (fun i S => rgT V W n N t j (x + 1) (updI th x (pO V N x i)) S) 0 4 S).1
    by_cases c : t x < 0
    · rw [if_pos c]
      refine rgT_ge h4 hv' j (x + 1) th S (by omega) (hv.up c) hS (fun i hi => ?_)
      by_cases d : i = x
      · subst d; rw [hv'.2 i (fun _ => c), hv.2 i (fun z => by omega)]
      · exact h i (by omega)
    · rw [if_neg c]
      rcases hv'.1 x (by omega) (by omega) with r | ⟨p, a1, a2, a3⟩
      · rw [sm_no (fun z => by have := (z x (by omega) (by omega)).1; omega)]
        exact Int.le_trans hS (fr_mono (fun q S => rgT_mono j (x + 1) _ S) 4 0 S)
      · have l := rk_le (V := V) (x := (x : Int)) (show p + 1 ≤ N by omega)
        rw [rk_y a3] at l
        have := h4 x (by omega)
        refine fr_ge (k := rk V x p) (fun q S => rgT_mono j (x + 1) _ S) (fun S hS => ?_) 4 0 S (by omega) (by omega) hS
        rw [pO_at a1 a3]
        refine rgT_ge h4 hv' j (x + 1) _ S (by omega) (hv.set (by omega) (Or.inr ⟨p, a1, rfl, a3⟩)) hS (fun i hi => ?_)
        by_cases d : i = x
        · subst d; rw [updI_s, a2]
        · rw [updI_n d]; exact h i (by omega)
theorem rgT_no {j x : Nat} {th : Nat → Int} {S : rgS} (hx : x + j = n) (hv : vaT V N t x th) (hS : 0 ≤ S.1) {i : Nat} (hi : i < x) (h0 : 0 ≤ t i) (hm : th i = -1) : rgT V W n N t j x th S = S :=
  rgT_id j x th S hx hv (fun th' _ h2 => by
    rw [sm_no (fun z => by have := (z i (by omega) h0).1; rw [h2 i hi, hm] at this; omega)]; exact hS)
/-- parts of one sort are alike -/
theorem sm_dup {th : Nat → Int} {x p q : Nat} (hg : goT n t) (hx : x < n) (hs : V 1 p = V 1 q) (hp : th x = p) : smT V W n t th = smT V W n t (updI th x q) := by
  have k1 : ∀ i, V 1 (th i).toNat = V 1 (updI th x q i).toNat := fun i => by
    by_cases c : i = x
    · subst c; rw [updI_s, hp]; exact hs
    · rw [updI_n c]
  refine sm_eq (fun i hi h0 => ⟨?_, ?_⟩)
  · unfold byT bV
    rw [k1 i, k1 (t i).toNat]
  · by_cases c : i = x
    · subst c; rw [updI_s, hp]; omega
    · rw [updI_n c]
theorem rgT_ch {j x : Nat} {th : Nat → Int} {S : rgS} (hg : goT n t) (h4 : ∀ y : Nat, y < n → rk V y N ≤ 4) (hx : x + (j + 1) = n) (h0 : 0 ≤ t x) (hv : vaT V N t x th) (hS : 0 ≤ S.1) : rgT V W n N t (j + 1) x th S = fr (fun (p : Nat) S => itc (isC V x p) (rgT V W n N t j (x + 1) (updI th x p) S) S) 0 N S := by
  show (if t x < 0 then rgT V W n N t j (x + 1) th S else fr (fun i S => rgT V W n N t j (x + 1) (updI th x (pO V N x i)) S) 0 4 S) = _
  rw [if_neg (by omega)]
  rw [fr_parts (V := V) (x := (x : Int)) (N := N) (G := fun a S => rgT V W n N t j (x + 1) (updI th x a) S) (fun p S => rgT_mono j (x + 1) _ S) (fun S hS => rgT_no (i := x) (by omega) (hv.set h0 (Or.inl rfl)) hS (by omega) h0 updI_s) (h4 x (by omega)) hS]
  refine fr_choice (V := V) (x := (x : Int)) (N := N) (G := fun (p : Nat) S => rgT V W n N t j (x + 1) (updI th x p) S) (LB := fun p v => ∀ th', vaT V N t n th' → (∀ i, i < x + 1 → th' i = updI th x (p : Int) i) → smT V W n t th' ≤ v) (fun p S => rgT_mono j (x + 1) _ S) (fun p S hp ho hS th' h1 h2 => ?_) (fun p v v' h1 h2 th' a b => Int.le_trans (h1 th' a b) h2) (fun p q v hp hq op oq hs h1 th' a b => ?_) (fun p S hp ho hS h1 => ?_) N 0 S (by omega) hS (fun q hq => by omega)
  · exact rgT_ge h4 h1 j (x + 1) _ S (by omega) (hv.set h0 (Or.inr ⟨p, hp, rfl, ho⟩)) hS h2
  · have bx : th' x = q := by rw [b x (by omega), updI_s]
    rw [sm_dup (p := q) (q := p) hg (by omega) hs.symm bx]
    refine h1 _ ⟨fun i hi hti => ?_, fun i hi => ?_⟩ (fun i hi => ?_)
    · by_cases c : i = x
      · subst c; rw [updI_s]; exact Or.inr ⟨p, hp, rfl, op⟩
      · rw [updI_n c]; exact a.1 i hi hti
    · have c : i ≠ x := fun c => by subst c; have := hi (by omega); omega
      rw [updI_n c]; exact a.2 i hi
    · by_cases c : i = x
      · subst c; rw [updI_s, updI_s]
      · rw [updI_n c, b i hi, updI_n c, updI_n c]
  · exact rgT_id j (x + 1) _ S (by omega) (hv.set h0 (Or.inr ⟨p, hp, rfl, ho⟩)) h1
theorem rgO_mono : ∀ (j x : Nat) (t : Nat → Int) (S : rgS), S.1 ≤ (rgO V W n N j x t S).1
  | 0, _, t, S => by
    show S.1 ≤ (itc (goT n t) (rgT V W n N t n 0 (fun _ => -1) S) S).1
    by_cases c : goT n t
    · rw [itc_y c]; exact rgT_mono _ _ _ _
    · rw [itc_n c]; exact Int.le_refl _
  | j + 1, x, t, S => fr_mono (fun q S => rgO_mono j (x + 1) _ S) (n + 1) 0 S
theorem rgO_id : ∀ (j x : Nat) (t : Nat → Int) (S : rgS), x + j = n → (∀ t', (∀ i, i < x → t' i = t i) → goT n t' → rgT V W n N t' n 0 (fun _ => -1) S = S) → rgO V W n N j x t S = S
  | 0, x, t, S, hx, h => by
    show itc (goT n t) (rgT V W n N t n 0 (fun _ => -1) S) S = S
    by_cases c : goT n t
    · rw [itc_y c]; exact h t (fun _ _ => rfl) c
    · exact itc_n c
  | j + 1, x, t, S, hx, h => by
    refine fr_id (n + 1) 0 S (fun q _ _ => ?_)
    refine rgO_id j (x + 1) _ S (by omega) (fun t' h1 h2 => h t' (fun i hi => ?_) h2)
    rw [h1 i (by omega), updI_n (by omega)]
end RG1
/-- as many holes as pigeons -/
theorem pigeon : ∀ (n : Nat) (f : Nat → Nat), (∀ i, i < n → f i < n) → (∀ i j, i < n → j < n → f i = f j → i = j) → ∀ k, k < n → ∃ i, i < n ∧ f i = k
  | 0, _, _, _, k, hk => by omega
  | n + 1, f, hf, hi, k, hk => by
    by_cases c : f n = n
    · by_cases d : k = n
      · exact ⟨n, by omega, by rw [d]; exact c⟩
      · have l : ∀ i, i < n → f i < n := fun i h => by
          have h1 := hf i (by omega)
          have : f i ≠ n := fun z => by have := hi i n (by omega) (by omega) (by rw [z, c]); omega
          omega
        obtain ⟨i, a, b⟩ := pigeon n f l (fun i j h1 h2 => hi i j (by omega) (by omega)) k (by omega)
        exact ⟨i, by omega, b⟩
    · have fn := hf n (by omega)
      have S := pigeon n (fun i => if f i = n then f n else f i) (fun i h => by
        show (if f i = n then f n else f i) < n
        have := hf i (by omega)
        split <;> omega) (fun i j h1 h2 h3 => by
        have h3' : (if f i = n then f n else f i) = (if f j = n then f n else f j) := h3
        by_cases ci : f i = n <;> by_cases cj : f j = n
        · exact hi i j (by omega) (by omega) (by omega)
        · rw [if_pos ci, if_neg cj] at h3'
          have := hi n j (by omega) (by omega) h3'; omega
        · rw [if_neg ci, if_pos cj] at h3'
          have := hi i n (by omega) (by omega) h3'; omega
        · rw [if_neg ci, if_neg cj] at h3'
          exact hi i j (by omega) (by omega) h3')
      by_cases d : k = n
      · subst d
        refine Classical.byContradiction (fun z => ?_)
        have l : ∀ i, i < k → f i < k := fun i h => by
          have h1 := hf i (by omega)
          have : f i ≠ k := fun y => z ⟨i, by omega, y⟩
          omega
        obtain ⟨i, a, b⟩ := pigeon k f l (fun i j h1 h2 => hi i j (by omega) (by omega)) (f k) (by omega)
        have := hi i k (by omega) (by omega) b
        omega
      · obtain ⟨i, a, b⟩ := S k (by omega)
        have b' : (if f i = n then f n else f i) = k := b
        by_cases ci : f i = n
        · rw [if_pos ci] at b'; exact ⟨n, by omega, b'⟩
        · rw [if_neg ci] at b'; exact ⟨i, by omega, b'⟩
