/-! ===== PURE: chains ===== -/
def frV (V : HP) (p : Nat) : Int := if V 2 p = -1 then V 3 p else V 2 p
def edV (V : HP) (W : Nat → Int) (x : Int) (p q : Nat) : Prop := V 2 q ≠ -1 ∧ V 2 q ≠ x ∧ V 2 q ≠ frV V p ∧ 0 < bV V W (V 2 q) q p
def RR (V : HP) (W : Nat → Int) (x : Int) (N : Nat) : Nat → Nat → Prop
  | 0, q => q < N ∧ V 2 q = -1
  | d + 1, q => RR V W x N d q ∨ (q < N ∧ ∃ p, p < N ∧ RR V W x N d p ∧ edV V W x p q)
def goV (V : HP) (x k : Int) (N : Nat) (g : Nat) : Prop := g < N ∧ V 1 g = k ∧ frV V g ≠ x
def CHP (V : HP) (W : Nat → Int) (x k : Int) (N : Nat) (r : Int) : Prop := (∃ m : Nat, r = m ∧ (∃ g, goV V x k N g ∧ RR V W x N m g) ∧ ∀ d, d < m → ∀ g, goV V x k N g → ¬ RR V W x N d g) ∨ (r = -1 ∧ ∀ d g, goV V x k N g → ¬ RR V W x N d g)
section CH0
variable {V : HP} {W : Nat → Int} {x k : Int} {N : Nat}
theorem CHP_u {r r' : Int} (a : CHP V W x k N r) (b : CHP V W x k N r') : r = r' := by
  rcases a with ⟨m, rfl, ⟨g, g1, g2⟩, a2⟩ | ⟨rfl, a2⟩ <;> rcases b with ⟨m', rfl, ⟨g', g1', g2'⟩, b2⟩ | ⟨rfl, b2⟩
  · by_cases c : m < m'
    · exact absurd g2 (b2 m c g g1)
    · by_cases c' : m' < m
      · exact absurd g2' (a2 m' c' g' g1')
      · omega
  · exact absurd g2 (b2 m g g1)
  · exact absurd g2' (a2 m' g' g1')
  · rfl
theorem RR_N : ∀ (d q : Nat), RR V W x N d q → q < N
  | 0, _, h => h.1
  | d + 1, q, h => by
    rcases h with h | h
    · exact RR_N d q h
    · exact h.1
theorem RR_m : ∀ (d e q : Nat), d ≤ e → RR V W x N d q → RR V W x N e q := by
  intro d e q hd h
  induction e with
  | zero => obtain rfl : d = 0 := by omega
            exact h
  | succ e ih =>
    by_cases c : d = e + 1
    · subst c; exact h
    · exact Or.inl (ih (by omega))
theorem RR_x : ∀ (d q : Nat), RR V W x N d q → V 2 q ≠ -1 → V 2 q ≠ x
  | 0, q, h, hn => absurd h.2 hn
  | d + 1, q, h, hn => by
    rcases h with h | ⟨_, p, _, _, h⟩
    · exact RR_x d q h hn
    · exact h.2.1
end CH0
def updI (f : Nat → Int) (a : Nat) (v : Int) : Nat → Int := fun j => if j = a then v else f j
theorem updI_s {f : Nat → Int} {a : Nat} {v : Int} : updI f a v a = v := if_pos rfl
theorem updI_n {f : Nat → Int} {a j : Nat} {v : Int} (h : j ≠ a) : updI f a v j = f j := if_neg h
theorem hset_updI {h : HP} {c j : Nat} {v : Int} : hset h c j v c = updI (h c) j v := by
  funext y
  unfold updI
  rw [hset_at]
  by_cases q : y = j
  · rw [if_pos ⟨rfl, q⟩, if_pos q]
  · rw [if_neg (fun z => q z.2), if_neg q]
def BfQ (V : HP) (W : Nat → Int) (x : Int) (N : Nat) (sw qu : Nat → Int) (n : Nat) : Prop := (fs (fun q => if 0 ≤ sw q then 1 else 0) 0 N = n) ∧ (∀ j, j < n → ∃ q : Nat, q < N ∧ qu j = q ∧ 0 ≤ sw q) ∧ (∀ q : Nat, q < N → sw q = -1 ∨ (0 ≤ sw q ∧ ∃ j, j < n ∧ qu j = q)) ∧ (∀ j j' q q' : Nat, j ≤ j' → j' < n → qu j = q → qu j' = q' → sw q ≤ sw q') ∧ (∀ q, q < N → 0 ≤ sw q → RR V W x N (sw q).toNat q ∧ ∀ d, d < (sw q).toNat → ¬ RR V W x N d q) ∧ (∀ q, q < N → V 2 q = -1 → 0 ≤ sw q) ∧ (∀ j q : Nat, j < n → qu j = q → sw q ≤ j)
section CH1
variable {V : HP} {W : Nat → Int} {x k : Int} {N : Nat} {sw qu : Nat → Int} {n : Nat}
theorem BfQ.a1 (Q : BfQ V W x N sw qu n) : fs (fun q => if 0 ≤ sw q then 1 else 0) 0 N = n := Q.1
theorem BfQ.a2 (Q : BfQ V W x N sw qu n) : ∀ j, j < n → ∃ q : Nat, q < N ∧ qu j = q ∧ 0 ≤ sw q := Q.2.1
theorem BfQ.a3 (Q : BfQ V W x N sw qu n) : ∀ q : Nat, q < N → sw q = -1 ∨ (0 ≤ sw q ∧ ∃ j, j < n ∧ qu j = q) := Q.2.2.1
theorem BfQ.a4 (Q : BfQ V W x N sw qu n) : ∀ j j' q q' : Nat, j ≤ j' → j' < n → qu j = q → qu j' = q' → sw q ≤ sw q' := Q.2.2.2.1
theorem BfQ.a5 (Q : BfQ V W x N sw qu n) : ∀ q, q < N → 0 ≤ sw q → RR V W x N (sw q).toNat q ∧ ∀ d, d < (sw q).toNat → ¬ RR V W x N d q := Q.2.2.2.2.1
theorem BfQ.a6 (Q : BfQ V W x N sw qu n) : ∀ q, q < N → V 2 q = -1 → 0 ≤ sw q := Q.2.2.2.2.2.1
theorem BfQ.a7 (Q : BfQ V W x N sw qu n) : ∀ j q : Nat, j < n → qu j = q → sw q ≤ j := Q.2.2.2.2.2.2
/-- all edges from the first i are done -/
def BfC (V : HP) (W : Nat → Int) (x : Int) (N : Nat) (sw qu : Nat → Int) (i : Nat) : Prop := ∀ j p q : Nat, j < i → qu j = p → q < N → edV V W x p q → 0 ≤ sw q ∧ sw q ≤ sw p + 1
theorem BfQ.claim (Q : BfQ V W x N sw qu n) {i p0 : Nat} (hi : i < n) (h0 : qu i = p0) (hC : BfC V W x N sw qu i) : ∀ (d r : Nat), RR V W x N d r → (d : Int) < sw p0 → ∃ j, j < i ∧ qu j = r := by
  have pos : ∀ r, r < N → 0 ≤ sw r → sw r < sw p0 → ∃ j, j < i ∧ qu j = r := by
    intro r hr h1 h2
    rcases Q.a3 r hr with q | ⟨_, j, hj, ej⟩
    · omega
    · refine ⟨j, ?_, ej⟩
      apply Classical.byContradiction
      intro c
      have := Q.a4 i j p0 r (by omega) hj h0 ej
      omega
  intro d
  induction d with
  | zero =>
    intro r h hd
    have h0' := Q.a6 r h.1 h.2
    have h5 := (Q.a5 r h.1 h0').2
    refine pos r h.1 h0' ?_
    by_cases c : (sw r).toNat = 0
    · omega
    · exact absurd h (h5 0 (by omega))
  | succ d ih =>
    intro r h hd
    rcases h with h | ⟨hr, p, hp, h1, h2⟩
    · exact ih r h (by omega)
    · obtain ⟨j, hj, ej⟩ := ih p h1 (by omega)
      have c := hC j p r hj ej hr h2
      refine pos r hr c.1 ?_
      have h5 := (Q.a5 r hr c.1).2
      apply Classical.byContradiction
      intro c'
      exact h5 (d + 1) (by omega) (Or.inr ⟨hr, p, hp, h1, h2⟩)
theorem BfQ.push (Q : BfQ V W x N sw qu n) {i p0 q0 : Nat} (hi : i < n) (h0 : qu i = p0) (hC : BfC V W x N sw qu i) (hq : q0 < N) (hs : sw q0 = -1) (he : edV V W x p0 q0) (hp0 : p0 < N) (hl : ∀ q, q < N → sw q ≤ sw p0 + 1) : BfQ V W x N (updI sw q0 (sw p0 + 1)) (updI qu n q0) (n + 1) := by
  obtain ⟨p0', hp0', e0', sp0⟩ := Q.a2 i hi
  obtain rfl : p0' = p0 := by omega
  have ne : q0 ≠ p0' := fun z => by subst z; omega
  have a7 := Q.a7 i p0' hi h0
  have nq : ∀ j q : Nat, j < n → qu j = q → q ≠ q0 := by
    intro j q hj e z
    subst z
    obtain ⟨q', h1, h2, h3⟩ := Q.a2 j hj
    obtain rfl : q' = q := by omega
    omega
  refine ⟨?_, fun j hj => ?_, fun q hq' => ?_, fun j j' q q' hj hj' e e' => ?_, fun q hq' hsq => ?_, fun q hq' hl' => ?_, fun j q hj e => ?_⟩
  · have := fs_one (f := fun q => if 0 ≤ updI sw q0 (sw p0' + 1) q then (1 : Int) else 0) (g := fun q => if 0 ≤ sw q then (1 : Int) else 0) 0 N q0 (by omega) (by omega) (fun q hq => by rw [updI_n hq])
    rw [this, Q.a1, updI_s, if_pos (by omega), if_neg (by omega)]
    omega
  · by_cases c : j = n
    · subst c; exact ⟨q0, hq, updI_s, by rw [updI_s]; omega⟩
    · obtain ⟨q, h1, h2, h3⟩ := Q.a2 j (by omega)
      refine ⟨q, h1, by rw [updI_n c]; exact h2, ?_⟩
      rw [updI_n (nq j q (by omega) h2)]; exact h3
  · by_cases c : q = q0
    · subst c; rw [updI_s]; exact Or.inr ⟨by omega, n, by omega, updI_s⟩
    · rw [updI_n c]
      rcases Q.a3 q hq' with h | ⟨h1, j, hj, ej⟩
      · exact Or.inl h
      · exact Or.inr ⟨h1, j, by omega, by rw [updI_n (by omega)]; exact ej⟩
  · by_cases c' : j' = n
    · subst c'
      rw [updI_s] at e'
      obtain rfl : q' = q0 := by omega
      rw [updI_s]
      by_cases c : j = j'
      · subst c; rw [updI_s] at e; obtain rfl : q = q' := by omega
        rw [updI_s]; exact Int.le_refl _
      · rw [updI_n c] at e
        have := nq j q (by omega) e
        rw [updI_n this]
        obtain ⟨q2, h1, h2, h3⟩ := Q.a2 j (by omega)
        exact hl q (by omega)
    · have c : j ≠ n := by omega
      rw [updI_n c] at e
      rw [updI_n c'] at e'
      rw [updI_n (nq j q (by omega) e), updI_n (nq j' q' (by omega) e')]
      exact Q.a4 j j' q q' hj (by omega) e e'
  · by_cases c : q = q0
    · subst c
      rw [updI_s]
      have h5 := (Q.a5 p0' hp0 sp0).1
      have et : (sw p0' + 1).toNat = (sw p0').toNat + 1 := by omega
      rw [et]
      refine ⟨Or.inr ⟨hq, p0', hp0, h5, he⟩, fun d hd hr => ?_⟩
      have key : ∀ d, d ≤ (sw p0').toNat → ¬ RR V W x N d q := by
        intro d
        induction d with
        | zero => intro _ hr; have := Q.a6 q hr.1 hr.2; omega
        | succ d ih =>
          intro hd hr
          rcases hr with hr | ⟨_, p, hp, h1, h2⟩
          · exact ih (by omega) hr
          · obtain ⟨j, hj, ej⟩ := Q.claim hi h0 hC d p h1 (by omega)
            have := hC j p q hj ej hq h2
            omega
      exact key d (by omega) hr
    · rw [updI_n c] at hsq ⊢
      exact Q.a5 q hq' hsq
  · by_cases c : q = q0
    · subst c; rw [updI_s]; omega
    · rw [updI_n c]; exact Q.a6 q hq' hl'
  · by_cases c : j = n
    · subst c; rw [updI_s] at e; obtain rfl : q = q0 := by omega
      rw [updI_s]; omega
    · rw [updI_n c] at e
      rw [updI_n (nq j q (by omega) e)]
      exact Q.a7 j q (by omega) e
theorem BfQ.lt (Q : BfQ V W x N sw qu n) {q0 : Nat} (hq : q0 < N) (hs : sw q0 = -1) : n < N := by
  have h1 := fs_one (f := fun q => if 0 ≤ sw q then (1 : Int) else 0) (g := fun q => if q = q0 then 1 else if 0 ≤ sw q then (1 : Int) else 0) 0 N q0 (by omega) (by omega) (fun q hq => by rw [if_neg hq])
  have h2 : fs (fun q => if q = q0 then 1 else if 0 ≤ sw q then (1 : Int) else 0) 0 N ≤ fs (fun _ => 1) 0 N := fs_le 0 N (fun q _ _ => by split <;> (try split) <;> omega)
  have e : ∀ m p, fs (fun _ => (1 : Int)) p m = m := by
    intro m
    induction m with
    | zero => intro p; rfl
    | succ m ih => intro p; show 1 + fs (fun _ => (1 : Int)) (p + 1) m = _; rw [ih]; omega
  rw [Q.a1, if_neg (by omega), if_pos rfl] at h1
  rw [e] at h2
  omega
theorem BfQ.le (Q : BfQ V W x N sw qu n) : n ≤ N := by
  have h2 : fs (fun q => if 0 ≤ sw q then (1 : Int) else 0) 0 N ≤ fs (fun _ => 1) 0 N := fs_le 0 N (fun q _ _ => by split <;> omega)
  have e : ∀ m p, fs (fun _ => (1 : Int)) p m = m := by
    intro m
    induction m with
    | zero => intro p; rfl
    | succ m ih => intro p; show 1 + fs (fun _ => (1 : Int)) (p + 1) m = _; rw [ih]; omega
  rw [Q.a1, e] at h2
  omega
end CH1
section CH2
variable {h : HP}
theorem C_enq {Q : HP → Prop} {g : HP} {n p : Nat} {s : Int} (hn : g 51 3 = n) (hn2 : n < 32) (hp : p < 32) (hq : Q (hset (hset (hset g 52 p s) 53 n p) 51 3 (n + 1))) : p1_enqueue p s g Q := by
  unfold p1_enqueue
  rw [hn]
  refine brN (fun z => by have := (wle ⟨by omega, by omega⟩ ⟨by omega, by omega⟩).mp z; omega) ?_
  refine wr_n hp (by decide) ?_
  rw [hset_c (show (51 : Nat) ≠ 52 by decide), hn]
  refine wr_n hn2 (by decide) (pf_i ?_)
  rw [hset_c (show (51 : Nat) ≠ 53 by decide), hset_c (show (51 : Nat) ≠ 52 by decide), hn]
  exact hq
theorem scr_C {g : HP} (f : SCR h g) (hI : SI 13 h) : SI 13 g ∧ VC 13 g = VC 13 h ∧ g 6 = h 6 ∧ g 2 = h 2 ∧ g 13 = h 13 := ⟨SI_eq (f.1 2 (by decide)) (fun i hi => f.1 _ (by omega)) hI, VC_eq (fun j _ => by rw [f.1 13 (by decide)]) (fun i _ _ => f.1 _ (by omega)), f.1 6 (by decide), f.1 2 (by decide), f.1 13 (by decide)⟩
theorem C_queueLying {Q : HP → Prop} {W : Nat → Int} {x : Int} {N : Nat} (hI : SI 13 h) (hN : h 13 1 = N) (hq : ∀ g n, SCR h g → g 51 3 = ((n : Nat) : Int) → BfQ (VC 13 h) W x N (g 52) (g 53) n → (∀ q, q < N → g 52 q ≤ 0) → Q g) : p1_queueLying h Q := by
  have a2 : h 13 1 ≤ 32 := hI.2.1.2.1
  unfold p1_queueLying
  refine pf_i ?_
  have L : ∀ (m f p n : Nat) (g : HP), m < f → p + m = N → SCR h g → g 51 3 = n → (∀ q, q < p → g 52 q = if VC 13 h 2 q = -1 then 0 else -1) → fs (fun q => if VC 13 h 2 q = -1 then (1 : Int) else 0) 0 p = n → (∀ j, j < n → ∃ q : Nat, q < p ∧ g 53 j = q ∧ VC 13 h 2 q = -1) → (∀ q : Nat, q < p → VC 13 h 2 q = -1 → ∃ j, j < n ∧ g 53 j = q) → n ≤ p → p1_queueLying_L7 Q f g p := by
    intro m
    induction m with
    | zero =>
      intro f p n g hf hp hS h51 h52 hc hj hq' hnp
      obtain ⟨f, rfl⟩ : ∃ n', f = n' + 1 := ⟨f - 1, by omega⟩
      obtain rfl : p = N := by omega
      obtain ⟨_, _, _, _, f13⟩ := scr_C hS hI
      unfold p1_queueLying_L7
      rw [f13]
      refine brY ((wle ⟨by omega, by omega⟩ ⟨by omega, by omega⟩).mpr (by omega)) ?_
      refine hq g n hS h51 ⟨?_, fun j hjn => ?_, fun q hq => ?_, fun j j' q q' e1 e2 e3 e4 => ?_, fun q hq hs => ?_, fun q hq hl => ?_, fun j q hjn e => ?_⟩ (fun q hq => ?_)
      · rw [← hc]
        refine fs_congr p 0 (fun q _ hq => ?_)
        rw [h52 q (by omega)]
        by_cases c : VC 13 h 2 q = -1
        · rw [if_pos c, if_pos c, if_pos (by decide)]
        · rw [if_neg c, if_neg c, if_neg (by decide)]
      · obtain ⟨q, h1, h2, h3⟩ := hj j hjn
        exact ⟨q, h1, h2, by rw [h52 q h1, if_pos h3]; decide⟩
      · rw [h52 q hq]
        by_cases c : VC 13 h 2 q = -1
        · rw [if_pos c]; exact Or.inr ⟨by decide, hq' q hq c⟩
        · rw [if_neg c]; exact Or.inl rfl
      · obtain ⟨q1, b1, b2, b3⟩ := hj j (by omega)
        obtain ⟨q2, d1, d2, d3⟩ := hj j' (by omega)
        obtain rfl : q1 = q := by omega
        obtain rfl : q2 = q' := by omega
        rw [h52 q1 b1, h52 q2 d1, if_pos b3, if_pos d3]; decide
      · rw [h52 q hq] at hs ⊢
        by_cases c : VC 13 h 2 q = -1
        · rw [if_pos c]
          exact ⟨⟨hq, c⟩, fun d hd => by omega⟩
        · rw [if_neg c] at hs; omega
      · rw [h52 q hq, if_pos hl]; decide
      · obtain ⟨q1, b1, b2, b3⟩ := hj j (by omega)
        obtain rfl : q1 = q := by omega
        rw [h52 q1 b1, if_pos b3]; omega
      · rw [h52 q hq]; split <;> omega
    | succ m ih =>
      intro f p n g hf hp hS h51 h52 hc hj hq' hnp
      obtain ⟨f, rfl⟩ : ∃ n', f = n' + 1 := ⟨f - 1, by omega⟩
      obtain ⟨_, _, _, _, f13⟩ := scr_C hS hI
      unfold p1_queueLying_L7
      rw [f13]
      refine brN (fun z => by have := (wle ⟨by omega, by omega⟩ ⟨by omega, by omega⟩).mp z; omega) ?_
      refine wr_n (by omega) (by decide) ?_
      have hS1 : SCR h (hset g 52 p (-1)) := hS.set (by omega)
      obtain ⟨i1, i2, _, _, i5⟩ := scr_C hS1 hI
      have hv : VC 13 h 2 p = hset g 52 p (-1) (13 + 2) p := by rw [← i2]; rfl
      refine C_lies i1 (by rw [i5]; omega) (fun z => brN (by decide) ?_) (fun z => brY (by decide) ?_)
      · rw [← hv] at z
        refine C_enq (n := n) (by rw [hset_c (by decide), h51]) (by omega) (by omega) ?_
        refine ih f (p + 1) (n + 1) _ (by omega) (by omega) (((hS1.set (by omega)).set (by omega)).set (by omega)) (by rw [hset_rs]; rfl) (fun q hq => ?_) ?_ (fun j hjn => ?_) (fun q hq hl => ?_) (by omega)
        · rw [hset_c (by decide), hset_c (by decide)]
          by_cases c : q = p
          · subst c; rw [hset_rs, if_pos z]
          · rw [hset_rn c, hset_rn c]; exact h52 q (by omega)
        · rw [fs_succ, hc, Nat.zero_add, if_pos z]; rfl
        · rw [hset_c (show (53 : Nat) ≠ 51 by decide)]
          by_cases c : j = n
          · subst c; exact ⟨p, by omega, by rw [hset_rs], z⟩
          · obtain ⟨q, h1, h2, h3⟩ := hj j (by omega)
            exact ⟨q, by omega, by rw [hset_rn c, hset_c (by decide), hset_c (by decide)]; exact h2, h3⟩
        · rw [hset_c (show (53 : Nat) ≠ 51 by decide)]
          by_cases c : q = p
          · subst c; exact ⟨n, by omega, by rw [hset_rs]⟩
          · obtain ⟨j, h1, h2⟩ := hq' q (by omega) hl
            exact ⟨j, by omega, by rw [hset_rn (by omega), hset_c (by decide), hset_c (by decide)]; exact h2⟩
      · rw [← hv] at z
        refine ih f (p + 1) n _ (by omega) (by omega) hS1 (by rw [hset_c (by decide)]; exact h51) (fun q hq => ?_) ?_ (fun j hjn => ?_) (fun q hq hl => ?_) (by omega)
        · by_cases c : q = p
          · subst c; rw [hset_rs, if_neg z]
          · rw [hset_rn c]; exact h52 q (by omega)
        · rw [fs_succ, hc, Nat.zero_add, if_neg z]; omega
        · obtain ⟨q, h1, h2, h3⟩ := hj j (by omega)
          exact ⟨q, by omega, by rw [hset_c (by decide)]; exact h2, h3⟩
        · have c : q ≠ p := fun c => by subst c; exact z hl
          obtain ⟨j, h1, h2⟩ := hq' q (by omega) hl
          exact ⟨j, by omega, by rw [hset_c (by decide)]; exact h2⟩
  refine L N FUEL 0 0 _ (by unfold FUEL; omega) (by omega) (SCR.rf.set (by omega)) (by rw [hset_rs]; rfl) (fun q hq => by omega) rfl (fun j hj => by omega) (fun q hq => by omega) (by omega)
theorem C_swapAgainst {Q : HP → Prop} {N : Nat} {x : Nat} {p0 i : Nat} {qu0 : Nat → Int} (hI : SI 13 h) (hW : okW (h 6)) (hN : h 13 1 = N) (hx : (x : Int) < h 2 1) (hp0 : p0 < N) (hQ : ∀ g n, SCR h g → g 51 3 = ((n : Nat) : Int) → BfQ (VC 13 h) (h 6) x N (g 52) (g 53) n → i < n → g 53 i = p0 → BfC (VC 13 h) (h 6) x N (g 52) (g 53) i → (∀ q, q < N → g 52 q ≤ g 52 p0 + 1) → (∀ q, q < N → edV (VC 13 h) (h 6) x p0 q → 0 ≤ g 52 q) → (∀ j, j ≤ i → g 53 j = qu0 j) → Q g) : ∀ (m f q n : Nat) (g : HP), m < f → q + m = N → SCR h g → g 51 3 = ((n : Nat) : Int) → BfQ (VC 13 h) (h 6) x N (g 52) (g 53) n → i < n → g 53 i = p0 → BfC (VC 13 h) (h 6) x N (g 52) (g 53) i → (∀ q, q < N → g 52 q ≤ g 52 p0 + 1) → (∀ q', q' < q → edV (VC 13 h) (h 6) x p0 q' → 0 ≤ g 52 q') → (∀ j, j ≤ i → g 53 j = qu0 j) → p1_swapAgainst_L36 p0 x (frV (VC 13 h) p0) Q f g q := by
  have a2 : h 13 1 ≤ 32 := hI.2.1.2.1
  obtain ⟨s1, s2, s3, s4⟩ := id hI.1
  have enp : nP (VC 13 h) = N := by show (h 13 1).toNat = N; omega
  intro m
  induction m with
  | zero =>
    intro f q n g hf hq hS h51 hQI hi h0 hC hl hd hj
    obtain ⟨f, rfl⟩ : ∃ n', f = n' + 1 := ⟨f - 1, by omega⟩
    obtain ⟨_, _, _, _, f13⟩ := scr_C hS hI
    unfold p1_swapAgainst_L36
    rw [f13]
    refine brY ((wle ⟨by omega, by omega⟩ ⟨by omega, by omega⟩).mpr (by omega)) ?_
    exact hQ g n hS h51 hQI hi h0 hC hl (fun q' h1 h2 => hd q' (by omega) h2) hj
  | succ m ih =>
    intro f q n g hf hq hS h51 hQI hi h0 hC hl hd hj
    obtain ⟨f, rfl⟩ : ∃ n', f = n' + 1 := ⟨f - 1, by omega⟩
    obtain ⟨i1, i2, f6, f2, f13⟩ := scr_C hS hI
    obtain ⟨q1, q2, q3, q4, q5, q6⟩ := hI.part (p := q) (by omega)
    have v2 : g 15 q = VC 13 h 2 q := by rw [← i2]; rfl
    have hb4 : -1 ≤ VC 13 h 2 q := q4
    have hb5 : VC 13 h 2 q < h 2 1 := q5
    have bq : -1 ≤ g 52 q ∧ g 52 q ≤ 40 := by
      rcases hQI.a3 q (by omega) with c | ⟨c, j, hj', ej⟩
      · omega
      · have := hQI.a7 j q hj' ej; have := hQI.le; omega
    have fb : -1 ≤ frV (VC 13 h) p0 ∧ frV (VC 13 h) p0 < 5 := by
      obtain ⟨_, _, _, r4, r5, r6, r7, _⟩ := hI.part (p := p0) (by omega)
      have r4' : -1 ≤ VC 13 h 2 p0 := r4
      have r5' : VC 13 h 2 p0 < h 2 1 := r5
      have r6' : -1 ≤ VC 13 h 3 p0 := r6
      have r7' : VC 13 h 3 p0 < h 2 1 := r7
      unfold frV
      split <;> omega
    unfold p1_swapAgainst_L36
    rw [f13]
    refine brN (fun z => by have := (wle ⟨by omega, by omega⟩ ⟨by omega, by omega⟩).mp z; omega) ?_
    refine rd_n q1 (by decide) ?_
    rw [v2]
    -- nothing to be done with q
    have skip : (edV (VC 13 h) (h 6) x p0 q → 0 ≤ g 52 q) → p1_swapAgainst_L36 p0 x (frV (VC 13 h) p0) Q f g (q + 1) := fun c =>
      ih f (q + 1) n g (by omega) (by omega) hS h51 hQI hi h0 hC hl (fun q' h1 h2 => by
        by_cases e : q' = q
        · subst e; exact c h2
        · exact hd q' (by omega) h2) hj
    refine jn_h (fun K => ∀ y : Int, (y = 1 ∧ VC 13 h 2 q ≠ -1 ∧ VC 13 h 2 q ≠ x ∧ VC 13 h 2 q ≠ frV (VC 13 h) p0 ∧ g 52 q = -1) ∨ (y = 0 ∧ (edV (VC 13 h) (h 6) x p0 q → 0 ≤ g 52 q)) → K y) (fun y hy => ?_) (fun K hK => jn_i ?_)
    · rcases hy with ⟨rfl, c1, c2, c3, c4⟩ | ⟨rfl, c⟩
      · refine brN (by decide) ?_
        obtain ⟨o, eo⟩ := Int.eq_ofNat_of_zero_le (show 0 ≤ VC 13 h 2 q by omega)
        have hb := bV_bd (V := VC 13 h) (own := q) (oth := p0) hW hI.1 hI.2.1 (show (0 : Int) ≤ o by omega) (by omega) (by omega) (by omega)
        rw [eo]
        refine C_betterBy i1 (by rw [f2]; omega) (by rw [f13]; omega) (by rw [f13]; omega) ?_
        rw [i2, f6]
        refine brQ (wle0 ⟨by omega, by omega⟩) (fun z => skip (fun c => by have := c.2.2.2; rw [eo] at this; omega)) (fun z => ?_)
        have he : edV (VC 13 h) (h 6) x p0 q := ⟨c1, c2, c3, by rw [eo]; omega⟩
        refine rd_n (by omega) (by decide) ?_
        have hn := hQI.lt (by omega) c4
        refine C_enq (n := n) h51 (by omega) (by omega) ?_
        have ne : q ≠ p0 := by
          obtain ⟨p0', b1, b2, b3⟩ := hQI.a2 i hi
          intro z; subst z
          obtain rfl : p0' = q := by omega
          omega
        generalize hg' : hset (hset (hset g 52 q (g 52 p0 + 1)) 53 n q) 51 3 (n + 1) = g'
        have k52 : g' 52 = updI (g 52) q (g 52 p0 + 1) := by rw [← hg', hset_c (by decide), hset_c (by decide), hset_updI]
        have k53 : g' 53 = updI (g 53) n q := by rw [← hg', hset_c (by decide), hset_updI, hset_c (by decide)]
        have k51 : g' 51 3 = ((n + 1 : Nat) : Int) := by rw [← hg', hset_rs]; rfl
        have sp0 : 0 ≤ g 52 p0 := by
          obtain ⟨p0', b1, b2, b3⟩ := hQI.a2 i hi
          obtain rfl : p0' = p0 := by omega
          exact b3
        refine ih f (q + 1) (n + 1) g' (by omega) (by omega) (by rw [← hg']; exact ((hS.set (by omega)).set (by omega)).set (by omega)) k51 ?_ (by omega) ?_ ?_ (fun q' hq' => ?_) (fun q' h1 h2 => ?_) (fun j hj' => ?_)
        · rw [k52, k53]; exact hQI.push hi h0 hC (by omega) c4 he hp0 hl
        · rw [k53, updI_n (by omega)]; exact h0
        · intro j p r hj' ej hr h2
          rw [k53, updI_n (by omega)] at ej
          have := hC j p r hj' ej hr h2
          rw [k52]
          have n1 : r ≠ q := fun z => by subst z; omega
          have n2 : p ≠ q := fun z => by
            subst z
            obtain ⟨p', b1, b2, b3⟩ := hQI.a2 j (by omega)
            obtain rfl : p' = p := by omega
            omega
          rw [updI_n n1, updI_n n2]; exact this
        · rw [k52, updI_n (Ne.symm ne)]
          by_cases c : q' = q
          · subst c; rw [updI_s]; exact Int.le_refl _
          · rw [updI_n c]; exact hl q' hq'
        · rw [k52]
          by_cases c : q' = q
          · subst c; rw [updI_s]; omega
          · rw [updI_n c]; exact hd q' (by omega) h2
        · rw [k53, updI_n (by omega)]; exact hj j hj'
      · exact brY (by decide) (skip c)
    · refine brQ (weq ⟨by omega, by omega⟩ ⟨by omega, by omega⟩) (fun z => hK 0 (Or.inr ⟨rfl, fun c => absurd z c.1⟩)) (fun z => ?_)
      refine brQ (weq ⟨by omega, by omega⟩ ⟨by omega, by omega⟩) (fun w => hK 0 (Or.inr ⟨rfl, fun c => absurd w c.2.1⟩)) (fun w => ?_)
      refine brQ (weq ⟨by omega, by omega⟩ ⟨by omega, by omega⟩) (fun v => hK 0 (Or.inr ⟨rfl, fun c => absurd v c.2.2.1⟩)) (fun v => ?_)
      refine rd_n (by omega) (by decide) ?_
      exact brQ (weq ⟨by omega, by omega⟩ ⟨by omega, by omega⟩) (fun u => hK 1 (Or.inl ⟨rfl, z, w, v, u⟩)) (fun u => hK 0 (Or.inr ⟨rfl, fun _ => by omega⟩))
end CH2
