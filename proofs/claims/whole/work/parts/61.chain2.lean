/-! ===== PURE: chains, the walks ===== -/
section CH3
variable {h : HP}
theorem C_fewestFor {Q : Int → HP → Prop} {N x k : Nat} (hI : SI 13 h) (hW : okW (h 6)) (hN : h 13 1 = N) (hx : (x : Int) < h 2 1) (hk : (k : Int) < h 2 0) (hQ : ∀ r g, CHP (VC 13 h) (h 6) x k N r → SCR h g → Q r g) : p1_fewestFor x k h Q := by
  have a2 : h 13 1 ≤ 32 := hI.2.1.2.1
  obtain ⟨s1, s2, s3, s4⟩ := id hI.1
  have enp : nP (VC 13 h) = N := by show (h 13 1).toNat = N; omega
  unfold p1_fewestFor
  refine C_queueLying (W := h 6) (x := x) hI hN (fun g0 n0 hS0 h510 hQ0 hz0 => ?_)
  have L : ∀ (m f i n : Nat) (g : HP), m < f → i + m = N → SCR h g → g 51 3 = ((n : Nat) : Int) → BfQ (VC 13 h) (h 6) x N (g 52) (g 53) n → i ≤ n → BfC (VC 13 h) (h 6) x N (g 52) (g 53) i → (∀ p : Nat, i < n → g 53 i = p → ∀ q, q < N → g 52 q ≤ g 52 p + 1) → (∀ j p : Nat, j < i → g 53 j = p → ¬ goV (VC 13 h) x k N p) → p1_fewestFor_L6 x k (fun (h8 : HP) (y9 : Int) => rd h8 52 32 y9 fun v10 => Q v10 h8) Q f g i := by
    intro m
    induction m with
    | zero =>
      intro f i n g hf hi hS h51 hQI hin hC hl hG
      obtain ⟨f, rfl⟩ : ∃ n', f = n' + 1 := ⟨f - 1, by omega⟩
      have hle := hQI.le
      unfold p1_fewestFor_L6
      rw [h51]
      refine brY ((wle ⟨by omega, by omega⟩ ⟨by omega, by omega⟩).mpr (by omega)) ?_
      obtain rfl : i = n := by omega
      refine hQ _ g (Or.inr ⟨rfl, fun d r hr hR => ?_⟩) hS
      have key : ∀ d r, RR (VC 13 h) (h 6) x N d r → 0 ≤ g 52 r := by
        intro d
        induction d with
        | zero => intro r hr; exact hQI.a6 r hr.1 hr.2
        | succ d ih =>
          intro r hr
          rcases hr with hr | ⟨hrN, p, hp, h1, h2⟩
          · exact ih r hr
          · have := ih p h1
            rcases hQI.a3 p hp with c | ⟨_, j, hj, ej⟩
            · omega
            · exact (hC j p r hj ej hrN h2).1
      rcases hQI.a3 r hr.1 with c | ⟨_, j, hj, ej⟩
      · have := key d r hR; omega
      · exact hG j r hj ej hr
    | succ m ih =>
      intro f i n g hf hi hS h51 hQI hin hC hl hG
      obtain ⟨f, rfl⟩ : ∃ n', f = n' + 1 := ⟨f - 1, by omega⟩
      have hle := hQI.le
      unfold p1_fewestFor_L6
      rw [h51]
      by_cases hend : i = n
      · refine brY ((wle ⟨by omega, by omega⟩ ⟨by omega, by omega⟩).mpr (by omega)) ?_
        obtain rfl : i = n := by omega
        refine hQ _ g (Or.inr ⟨rfl, fun d r hr hR => ?_⟩) hS
        have key : ∀ d r, RR (VC 13 h) (h 6) x N d r → 0 ≤ g 52 r := by
          intro d
          induction d with
          | zero => intro r hr; exact hQI.a6 r hr.1 hr.2
          | succ d ih =>
            intro r hr
            rcases hr with hr | ⟨hrN, p, hp, h1, h2⟩
            · exact ih r hr
            · have := ih p h1
              rcases hQI.a3 p hp with c | ⟨_, j, hj, ej⟩
              · omega
              · exact (hC j p r hj ej hrN h2).1
        rcases hQI.a3 r hr.1 with c | ⟨_, j, hj, ej⟩
        · have := key d r hR; omega
        · exact hG j r hj ej hr
      refine brN (fun z => by have := (wle ⟨by omega, by omega⟩ ⟨by omega, by omega⟩).mp z; omega) ?_
      refine brN (fun z => by have := (wle ⟨by omega, by omega⟩ ⟨by omega, by omega⟩).mp z; omega) ?_
      refine rd_n (by omega) (by decide) ?_
      obtain ⟨p0, hp0, e0, sp0⟩ := hQI.a2 i (by omega)
      rw [e0]
      obtain ⟨i1, i2, f6, f2, f13⟩ := scr_C hS hI
      obtain ⟨q1, q2, q3, q4, q5, q6, q7, q8, _⟩ := hI.part (p := p0) (by omega)
      have v1 : g 14 p0 = VC 13 h 1 p0 := by rw [← i2]; rfl
      have v2 : g 15 p0 = VC 13 h 2 p0 := by rw [← i2]; rfl
      have v3 : g 16 p0 = VC 13 h 3 p0 := by rw [← i2]; rfl
      have b2 : 0 ≤ VC 13 h 1 p0 := q2
      have b3 : VC 13 h 1 p0 < h 2 0 := q3
      have b4 : -1 ≤ VC 13 h 2 p0 := q4
      have b5 : VC 13 h 2 p0 < h 2 1 := q5
      have b6 : -1 ≤ VC 13 h 3 p0 := q6
      have b7 : VC 13 h 3 p0 < h 2 1 := q7
      have b8 : 0 ≤ VC 13 h 2 p0 → VC 13 h 3 p0 = -1 := q8
      refine rd_n q1 (by decide) ?_
      rw [v1]
      refine jn_r (fun K => ¬ goV (VC 13 h) x k N p0 → K) (fun K hK => ?_) (fun hng => ?_)
      · refine brQ (weq ⟨by omega, by omega⟩ ⟨by omega, by omega⟩) (fun z => ?_) (fun z => hK (fun c => z c.2.1))
        refine rd_n q1 (by decide) ?_
        rw [v3]
        refine brQ (weq ⟨by omega, by omega⟩ ⟨by omega, by omega⟩) (fun w => hK (fun c => c.2.2 ?_)) (fun w => ?_)
        · unfold frV
          rw [if_pos (by omega)]; exact w
        · refine rd_n q1 (by decide) ?_
          obtain ⟨t1, t2⟩ := hQI.a5 p0 hp0 sp0
          have hgo : goV (VC 13 h) x k N p0 := by
            refine ⟨hp0, z, ?_⟩
            unfold frV
            by_cases c : VC 13 h 2 p0 = -1
            · rw [if_pos c]; exact w
            · rw [if_neg c]; exact RR_x _ p0 t1 c
          refine hQ _ g (Or.inl ⟨(g 52 p0).toNat, by omega, ⟨p0, hgo, t1⟩, fun d hd r hr hR => ?_⟩) hS
          obtain ⟨j, hj, ej⟩ := hQI.claim (by omega) e0 hC d r hR (by omega)
          exact hG j r hj ej hr
      · unfold p1_swapAgainst
        have GO : p1_swapAgainst_L36 p0 x (frV (VC 13 h) p0) (fun h6 => p1_fewestFor_L6 x k (fun (h8 : HP) (y9 : Int) => rd h8 52 32 y9 fun v10 => Q v10 h8) Q f h6 (i + 1)) FUEL g 0 := by
          refine C_swapAgainst (i := i) (qu0 := g 53) hI hW hN hx hp0 (fun g' n' k1 k2 k3 k4 k5 k6 k7 k8 k9 => ?_) N FUEL 0 n g (by unfold FUEL; omega) (by omega) hS h51 hQI (by omega) e0 hC (hl p0 (by omega) e0) (fun q' hq' => by omega) (fun _ _ => rfl)
          refine ih f (i + 1) n' g' (by omega) (by omega) k1 k2 k3 (by omega) ?_ (fun p1 hp1 e1 q hq => ?_) (fun j p hj ej => ?_)
          · intro j p q hj ej hq he
            by_cases c : j = i
            · subst c
              obtain rfl : p = p0 := by omega
              exact ⟨k8 q hq he, k7 q hq⟩
            · exact k6 j p q (by omega) ej hq he
          · have := k3.a4 i (i + 1) p0 p1 (by omega) hp1 k5 e1
            have := k7 q hq
            omega
          · rw [k9 j (by omega)] at ej
            by_cases c : j = i
            · subst c
              obtain rfl : p = p0 := by omega
              exact hng
            · exact hG j p (by omega) ej
        refine C_lies i1 (by rw [f13]; omega) (fun z => jn_i (brN (by decide) (rd_n q1 (by decide) ?_))) (fun z => jn_i (brY (by decide) (rd_n q1 (by decide) ?_)))
        · have z' : VC 13 h 2 p0 = -1 := by rw [← v2]; exact z
          rw [v3]
          unfold frV at GO
          rw [if_pos z'] at GO
          exact GO
        · have z' : ¬ VC 13 h 2 p0 = -1 := by rw [← v2]; exact z
          rw [v2]
          unfold frV at GO
          rw [if_neg z'] at GO
          exact GO
  refine L N FUEL 0 n0 g0 (by unfold FUEL; omega) (by omega) hS0 h510 hQ0 (by omega) (fun j p q hj => by omega) (fun p hp e q hq => ?_) (fun j p hj => by omega)
  obtain ⟨p', h1, h2, h3⟩ := hQ0.a2 0 hp
  obtain rfl : p' = p := by omega
  have := hz0 q hq
  omega
end CH3
/-! the model's layers -/
def LvS (V : HP) (W : Nat → Int) (x : Int) (N n : Nat) (S : Nat → Int) : Prop := ∀ q, q < N → (S q = -1 ∧ ¬ RR V W x N n q) ∨ (∃ d : Nat, d ≤ n ∧ S q = d ∧ RR V W x N d q ∧ ∀ d', d' < d → ¬ RR V W x N d' q)
def MdS (V : HP) (W : Nat → Int) (x : Int) (N n : Nat) (S S' : Nat → Int) (A : Nat → Nat → Prop) : Prop := ∀ q, q < N → (0 ≤ S q → S' q = S q) ∧ (S q = -1 → (S' q = n + 1 ∧ ∃ p, p < N ∧ S p = n ∧ edV V W x p q) ∨ (S' q = -1 ∧ ∀ p, p < N → A p q → S p = n → ¬ edV V W x p q))
def StB (V : HP) (W : Nat → Int) (x : Int) (N n : Nat) : Prop := ∀ d q, RR V W x N d q → RR V W x N n q
def cntS (N : Nat) (S : Nat → Int) : Int := fs (fun q => if 0 ≤ S q then 1 else 0) 0 N
section CH4
variable {V : HP} {W : Nat → Int} {x k : Int} {N n : Nat} {S S' : Nat → Int}
theorem lv_next (hL : LvS V W x N n S) (hM : MdS V W x N n S S' (fun p q => p < N)) : LvS V W x N (n + 1) S' := by
  intro q hq
  obtain ⟨m1, m2⟩ := hM q hq
  rcases hL q hq with ⟨h1, h2⟩ | ⟨d, h1, h2, h3, h4⟩
  · rcases m2 h1 with ⟨e, p, hp, sp, ed⟩ | ⟨e, hn⟩
    · have rp : RR V W x N n p := by
        rcases hL p hp with ⟨c, _⟩ | ⟨d, c1, c2, c3, _⟩
        · omega
        · obtain rfl : d = n := by omega
          exact c3
      exact Or.inr ⟨n + 1, by omega, by rw [e]; rfl, Or.inr ⟨hq, p, hp, rp, ed⟩, fun d' hd' hr => h2 (RR_m d' n q (by omega) hr)⟩
    · refine Or.inl ⟨e, fun hr => ?_⟩
      rcases hr with hr | ⟨_, p, hp, rp, ed⟩
      · exact h2 hr
      · rcases hL p hp with ⟨_, c⟩ | ⟨d, c1, c2, c3, _⟩
        · exact c rp
        · by_cases c : d = n
          · subst c; exact hn p hp hp c2 ed
          · exact h2 (RR_m (d + 1) n q (by omega) (Or.inr ⟨hq, p, hp, c3, ed⟩))
  · exact Or.inr ⟨d, by omega, by rw [m1 (by omega)]; exact h2, h3, h4⟩
theorem st_next (hL : LvS V W x N n S) (hL' : LvS V W x N (n + 1) S') (hM : MdS V W x N n S S' (fun p q => p < N)) (hc : (n : Int) ≤ cntS N S ∨ StB V W x N n) : ((n + 1 : Nat) : Int) ≤ cntS N S' ∨ StB V W x N (n + 1) := by
  have up : StB V W x N n → StB V W x N (n + 1) := fun h d q hr => Or.inl (h d q hr)
  rcases hc with hc | hc
  · by_cases c : ∃ q, q < N ∧ S q = -1 ∧ 0 ≤ S' q
    · obtain ⟨q, hq, e1, e2⟩ := c
      left
      have h1 := fs_one (f := fun r => if r = q then (1 : Int) else if 0 ≤ S r then 1 else 0) (g := fun r => if 0 ≤ S r then (1 : Int) else 0) 0 N q (by omega) (by omega) (fun r hr => by rw [if_neg hr])
      rw [if_pos rfl, if_neg (by omega)] at h1
      have h2 : fs (fun r => if r = q then (1 : Int) else if 0 ≤ S r then 1 else 0) 0 N ≤ fs (fun r => if 0 ≤ S' r then (1 : Int) else 0) 0 N := by
        refine fs_le 0 N (fun r _ hr => ?_)
        by_cases e : r = q
        · subst e; rw [if_pos rfl, if_pos e2]; omega
        · rw [if_neg e]
          by_cases e' : 0 ≤ S r
          · rw [if_pos e', if_pos (by rw [(hM r (by omega)).1 e']; exact e')]; omega
          · rw [if_neg e']; split <;> omega
      unfold cntS at hc ⊢
      omega
    · right
      apply up
      have one : ∀ q, RR V W x N (n + 1) q → RR V W x N n q := by
        intro q hr
        have hq := RR_N _ _ hr
        rcases hL q hq with ⟨h1, h2⟩ | ⟨d, h1, h2, h3, h4⟩
        · rcases hL' q hq with ⟨h1', h2'⟩ | ⟨d', h1', h2', _⟩
          · exact absurd hr h2'
          · exact absurd ⟨q, hq, h1, by omega⟩ c
        · exact RR_m d n q h1 h3
      intro d
      induction d with
      | zero => intro q hr; exact RR_m 0 n q (by omega) hr
      | succ d ih =>
        intro q hr
        rcases hr with hr | ⟨hq, p, hp, rp, ed⟩
        · exact ih q hr
        · exact one q (Or.inr ⟨hq, p, hp, ih p rp, ed⟩)
  · exact Or.inr (up hc)
theorem st_all (hL : LvS V W x N N S) (hc : (N : Int) ≤ cntS N S ∨ StB V W x N N) : StB V W x N N := by
  rcases hc with hc | hc
  · intro d q hr
    have hq := RR_N _ _ hr
    rcases hL q hq with ⟨h1, h2⟩ | ⟨d, h1, h2, h3, h4⟩
    · exfalso
      have o1 := fs_one (f := fun r => if 0 ≤ S r then (1 : Int) else 0) (g := fun r => if r = q then (1 : Int) else if 0 ≤ S r then 1 else 0) 0 N q (by omega) (by omega) (fun r hr => by rw [if_neg hr])
      rw [if_pos rfl, if_neg (by omega)] at o1
      have o2 : fs (fun r => if r = q then (1 : Int) else if 0 ≤ S r then 1 else 0) 0 N ≤ fs (fun _ => 1) 0 N := fs_le 0 N (fun r _ _ => by split <;> (try split) <;> omega)
      have e : ∀ m p, fs (fun _ => (1 : Int)) p m = m := by
        intro m
        induction m with
        | zero => intro p; rfl
        | succ m ih => intro p; show 1 + fs (fun _ => (1 : Int)) (p + 1) m = _; rw [ih]; omega
      rw [e] at o2
      unfold cntS at hc
      omega
    · exact RR_m d N q h1 h3
  · exact hc
end CH4
section CH5
variable {h : HP}
/-- what the model sees, in the class's words -/
theorem scr_M {g : HP} (hI : INV h) (f : SCR h g) : MI g ∧ VM g = VM h ∧ g 71 = h 71 ∧ (∀ j, j = 0 ∨ j = 1 ∨ j = 7 → g 69 j = h 69 j) := by
  have hv : VM g = VM h := VM_eq (f.2.2 7 (by decide)) (f.2.2 13 (by decide)) (f.2.2 14 (by decide)) (fun i _ _ => f.1 _ (by omega))
  refine ⟨?_, hv, f.1 71 (by decide), fun j hj => f.2.2 j (by omega)⟩
  unfold MI
  rw [hv, f.2.2 0 (by decide), f.2.2 1 (by decide)]
  exact hI.2.1
theorem M_fromOf {Q : Int → Prop} {g : HP} {N : Nat} (hI : INV h) (f : SCR h g) (hN : h 13 1 = N) {p : Nat} (hp : p < N) (hq : Q (frV (VC 13 h) p)) : p8_fromOf p g Q := by
  have e := hI.2.2.1
  have hst := hI.st
  unfold okSt at hst
  have hpv : (p : Int) < VC 13 h 0 0 := by show (p : Int) < h 13 1; omega
  have s1 := hI.s1
  obtain ⟨q1, q2, q3, q4, q5, q6, q7, q8, _⟩ := hI.1.part (p := p) (by omega)
  have b4 : -1 ≤ VC 13 h 2 p := q4
  have b5 : VC 13 h 2 p < h 2 1 := q5
  have r2 : g 75 p = VC 13 h 2 p := by rw [f.1 75 (by decide)]; exact (e.2.1 2 p (by decide) (by decide) hpv).symm
  have r3 : g 76 p = VC 13 h 3 p := by rw [f.1 76 (by decide)]; exact (e.2.1 3 p (by decide) (by decide) hpv).symm
  unfold p8_fromOf
  refine rd_n q1 (by decide) ?_
  rw [r2]
  unfold frV at hq
  refine brQ (w0le ⟨by omega, by omega⟩) (fun z => rd_n q1 (by decide) ?_) (fun z => rd_n q1 (by decide) ?_)
  · rw [r2]; rw [if_neg (by omega)] at hq; exact hq
  · rw [r3]; rw [if_pos (by omega)] at hq; exact hq
theorem M_ch68 {Q : Int → HP → Prop} {E : Prop} {g : HP} {N x k n : Nat} (hI : INV h) (f : SCR h g) (hN : h 13 1 = N) (hx : (x : Int) < h 2 1) (hk : (k : Int) < h 2 0) (hn : n ≤ 32) (hS : ∀ q, q < N → -1 ≤ g 85 q ∧ g 85 q ≤ 40) (hE : (∀ p, p < N → ¬ (g 85 p = n ∧ goV (VC 13 h) x k N p)) → E) (hQ : ∀ p, p < N → g 85 p = n → goV (VC 13 h) x k N p → Q n g) : p8_chain_L68 x k n g E Q FUEL 0 := by
  have e := hI.2.2.1
  have a2 : h 13 1 ≤ 32 := hI.1.2.1.2.1
  have hst := hI.1.1
  unfold okSt at hst
  obtain ⟨_, _, _, fj⟩ := scr_M hI f
  have f7 : g 69 7 = N := by rw [fj 7 (by decide), ← hI.cnt, hN]
  have L : ∀ (m f' p : Nat), m < f' → p + m = N → (∀ p', p' < p → ¬ (g 85 p' = n ∧ goV (VC 13 h) x k N p')) → p8_chain_L68 x k n g E Q f' p := by
    intro m
    induction m with
    | zero =>
      intro f' p hf hp hd
      obtain ⟨f', rfl⟩ : ∃ n', f' = n' + 1 := ⟨f' - 1, by omega⟩
      unfold p8_chain_L68
      rw [f7]
      exact brY ((wle ⟨by omega, by omega⟩ ⟨by omega, by omega⟩).mpr (by omega)) (hE (fun p' hp' => hd p' (by omega)))
    | succ m ih =>
      intro f' p hf hp hd
      obtain ⟨f', rfl⟩ : ∃ n', f' = n' + 1 := ⟨f' - 1, by omega⟩
      have hpv : (p : Int) < VC 13 h 0 0 := by show (p : Int) < h 13 1; omega
      obtain ⟨q1, q2, q3, q4, q5, q6, q7, q8, _⟩ := hI.1.part (p := p) (by omega)
      have b2 : 0 ≤ VC 13 h 1 p := q2
      have b3 : VC 13 h 1 p < h 2 0 := q3
      have b4 : -1 ≤ VC 13 h 2 p := q4
      have b5 : VC 13 h 2 p < h 2 1 := q5
      have b6 : -1 ≤ VC 13 h 3 p := q6
      have b7 : VC 13 h 3 p < h 2 1 := q7
      have fb : -1 ≤ frV (VC 13 h) p ∧ frV (VC 13 h) p < 5 := by unfold frV; split <;> omega
      have r1 : g 74 p = VC 13 h 1 p := by rw [f.1 74 (by decide)]; exact (e.2.1 1 p (by decide) (by decide) hpv).symm
      have sp := hS p (by omega)
      have skip : ¬ (g 85 p = n ∧ goV (VC 13 h) x k N p) → p8_chain_L68 x k n g E Q f' (p + 1) := fun c => ih f' (p + 1) (by omega) (by omega) (fun p' hp' => by
        by_cases z : p' = p
        · subst z; exact c
        · exact hd p' (by omega))
      unfold p8_chain_L68
      rw [f7]
      refine brN (fun z => by have := (wle ⟨by omega, by omega⟩ ⟨by omega, by omega⟩).mp z; omega) ?_
      refine rd_n q1 (by decide) ?_
      refine brQ (weq ⟨by omega, by omega⟩ ⟨by omega, by omega⟩) (fun z => ?_) (fun z => skip (fun c => z c.1))
      refine rd_n q1 (by decide) ?_
      rw [r1]
      refine brQ (weq ⟨by omega, by omega⟩ ⟨by omega, by omega⟩) (fun w => ?_) (fun w => skip (fun c => w c.2.2.1))
      refine M_fromOf hI f hN (by omega) ?_
      exact brQ (weq ⟨by omega, by omega⟩ ⟨by omega, by omega⟩) (fun v => skip (fun c => c.2.2.2 v)) (fun v => hQ p (by omega) z ⟨by omega, w, v⟩)
  exact L N FUEL 0 (by unfold FUEL; omega) (by omega) (fun p' hp' => by omega)
theorem M_ch132 {E : HP → Prop} {N x n p : Nat} {kk : Int} {S : Nat → Int} (hI : INV h) (hN : h 13 1 = N) (hx : (x : Int) < h 2 1) (hn : n ≤ 32) (hp : p < N) (hL : LvS (VC 13 h) (h 6) x N n S) (hE : ∀ g, SCR h g → MdS (VC 13 h) (h 6) x N n S (g 85) (fun p' _ => p' < p + 1) → E g) : ∀ (m f q : Nat) (g : HP), m < f → q + m = N → SCR h g → MdS (VC 13 h) (h 6) x N n S (g 85) (fun p' q' => p' < p ∨ (p' = p ∧ q' < q)) → p8_chain_L132 x kk n p E f g q := by
  have e := hI.2.2.1
  have a2 : h 13 1 ≤ 32 := hI.1.2.1.2.1
  have hst := hI.1.1
  unfold okSt at hst
  have s1 := hI.s1
  have enp : nP (VC 13 h) = N := by show (h 13 1).toNat = N; omega
  intro m
  induction m with
  | zero =>
    intro f q g hf hq hF hM
    obtain ⟨f, rfl⟩ : ∃ n', f = n' + 1 := ⟨f - 1, by omega⟩
    obtain ⟨_, _, _, fj⟩ := scr_M hI hF
    have f7 : g 69 7 = N := by rw [fj 7 (by decide), ← hI.cnt, hN]
    unfold p8_chain_L132
    rw [f7]
    refine brY ((wle ⟨by omega, by omega⟩ ⟨by omega, by omega⟩).mpr (by omega)) (hE g hF (fun q' hq' => ⟨(hM q' hq').1, fun hs => ?_⟩))
    rcases (hM q' hq').2 hs with c | ⟨c1, c2⟩
    · exact Or.inl c
    · exact Or.inr ⟨c1, fun p' h1 h2 => c2 p' h1 (by omega)⟩
  | succ m ih =>
    intro f q g hf hq hF hM
    obtain ⟨f, rfl⟩ : ∃ n', f = n' + 1 := ⟨f - 1, by omega⟩
    obtain ⟨hMI, hVM, f71, fj⟩ := scr_M hI hF
    have f7 : g 69 7 = N := by rw [fj 7 (by decide), ← hI.cnt, hN]
    have sB : ∀ r, r < N → -1 ≤ g 85 r ∧ g 85 r ≤ 40 ∧ (g 85 r = n ↔ S r = n) := by
      intro r hr
      rcases hL r hr with ⟨h1, _⟩ | ⟨d, h1, h2, _⟩
      · rcases (hM r hr).2 h1 with c | c
        · have := c.1; omega
        · have := c.1; omega
      · have := (hM r hr).1 (by omega); omega
    obtain ⟨q1, q2, q3, q4, q5, q6, q7, q8, _⟩ := hI.1.part (p := q) (by omega)
    have b4 : -1 ≤ VC 13 h 2 q := q4
    have b5 : VC 13 h 2 q < h 2 1 := q5
    have hqv : (q : Int) < VC 13 h 0 0 := by show (q : Int) < h 13 1; omega
    have r2 : g 75 q = VC 13 h 2 q := by rw [hF.1 75 (by decide)]; exact (e.2.1 2 q (by decide) (by decide) hqv).symm
    have fb : -1 ≤ frV (VC 13 h) p ∧ frV (VC 13 h) p < 5 := by
      obtain ⟨_, _, _, t4, t5, t6, t7, _⟩ := hI.1.part (p := p) (by omega)
      have t4' : -1 ≤ VC 13 h 2 p := t4
      have t5' : VC 13 h 2 p < h 2 1 := t5
      have t6' : -1 ≤ VC 13 h 3 p := t6
      have t7' : VC 13 h 3 p < h 2 1 := t7
      unfold frV; split <;> omega
    unfold p8_chain_L132
    rw [f7]
    refine brN (fun z => by have := (wle ⟨by omega, by omega⟩ ⟨by omega, by omega⟩).mp z; omega) ?_
    have sp := sB p hp
    have sq := sB q (by omega)
    refine rd_n (by omega) (by decide) ?_
    refine brQ (weq ⟨by omega, by omega⟩ ⟨by omega, by omega⟩) (fun z => ?_) (fun z => ?_)
    · refine rd_n q1 (by decide) ?_
      -- q keeps its number
      have keep : (S q = -1 → g 85 q = -1 → ¬ edV (VC 13 h) (h 6) x p q) → p8_chain_L132 x kk n p E f (hset g 85 q (g 85 q)) (q + 1) := fun c => by
        rw [hset_sf]
        refine ih f (q + 1) g (by omega) (by omega) hF (fun q' hq' => ⟨(hM q' hq').1, fun hs => ?_⟩)
        rcases (hM q' hq').2 hs with c' | ⟨c1, c2⟩
        · exact Or.inl c'
        · refine Or.inr ⟨c1, fun p' h1 h2 h3 => ?_⟩
          by_cases d : p' = p ∧ q' = q
          · obtain ⟨rfl, rfl⟩ := d; exact c hs c1
          · exact c2 p' h1 (by omega) h3
      refine jn_h (fun K => ∀ y : Int, (y = 0 ∧ (S q = -1 → g 85 q = -1 → ¬ edV (VC 13 h) (h 6) x p q)) ∨ (y = 1 ∧ g 85 q = -1 ∧ edV (VC 13 h) (h 6) x p q) → K y) (fun y hy => ?_) (fun K hK => jn_i ?_)
      · rcases hy with ⟨rfl, c⟩ | ⟨rfl, c1, c2⟩
        · exact jn_i (brY (by decide) (rd_n q1 (by decide) (wr_n q1 (by decide) (keep c))))
        · refine jn_i (brN (by decide) (wr_n q1 (by decide) ?_))
          refine ih f (q + 1) _ (by omega) (by omega) (hF.set (by omega)) ?_
          rw [hset_updI]
          have sq1 : S q = -1 := by
            rcases hL q (by omega) with ⟨h1, _⟩ | ⟨d, h1, h2, _⟩
            · exact h1
            · have := (hM q (by omega)).1 (by omega); omega
          intro q' hq'
          by_cases d : q' = q
          · subst d
            rw [updI_s]
            exact ⟨fun c => by omega, fun _ => Or.inl ⟨rfl, p, hp, sp.2.2.mp z, c2⟩⟩
          · rw [updI_n d]
            refine ⟨(hM q' hq').1, fun hs => ?_⟩
            rcases (hM q' hq').2 hs with c' | ⟨c3, c4⟩
            · exact Or.inl c'
            · exact Or.inr ⟨c3, fun p' h1 h2 h3 => c4 p' h1 (by omega) h3⟩
      · refine brQ (w0le ⟨by omega, by omega⟩) (fun w => hK 0 (Or.inl ⟨rfl, fun _ c => by omega⟩)) (fun w => ?_)
        have own : VC 13 h 2 q ≠ -1 := by
          intro c
          rcases hL q (by omega) with ⟨h1, h2⟩ | ⟨d, h1, h2, _⟩
          · exact h2 (RR_m 0 n q (by omega) ⟨by omega, c⟩)
          · have := (hM q (by omega)).1 (by omega); omega
        refine rd_n q1 (by decide) ?_
        rw [r2]
        refine brQ (weq ⟨by omega, by omega⟩ ⟨by omega, by omega⟩) (fun v => hK 0 (Or.inl ⟨rfl, fun _ _ c => c.2.1 v⟩)) (fun v => ?_)
        refine rd_n q1 (by decide) ?_
        rw [r2]
        refine M_fromOf hI hF hN hp ?_
        refine brQ (weq ⟨by omega, by omega⟩ ⟨by omega, by omega⟩) (fun u => hK 0 (Or.inl ⟨rfl, fun _ _ c => c.2.2.1 u⟩)) (fun u => ?_)
        refine rd_n q1 (by decide) ?_
        rw [r2]
        obtain ⟨o, eo⟩ := Int.eq_ofNat_of_zero_le (show 0 ≤ VC 13 h 2 q by omega)
        rw [eo]
        refine M_betterBy hMI (by rw [fj 1 (by decide), ← s1]; omega) (by rw [f7]; omega) (by rw [f7]; omega) (by rw [r2]; exact eo) ?_
        have eb := e.be (W := h 6) (W' := h 71) hI.1.1 hI.1.2.1 hI.ww (x := (o : Int)) (by omega) (by omega) (own := q) (oth := p) (by omega) (by omega)
        rw [hVM, f71, eb]
        have hb := bV_bd (V := VC 13 h) (own := q) (oth := p) hI.w6 hI.1.1 hI.1.2.1 (show (0 : Int) ≤ o by omega) (by omega) (by omega) (by omega)
        exact brQ (wle0 ⟨by omega, by omega⟩) (fun t => hK 0 (Or.inl ⟨rfl, fun _ _ c => by have := c.2.2.2; rw [eo] at this; omega⟩)) (fun t => hK 1 (Or.inr ⟨rfl, by omega, own, v, u, by rw [eo]; omega⟩))
    · refine hE g hF (fun q' hq' => ⟨(hM q' hq').1, fun hs => ?_⟩)
      rcases (hM q' hq').2 hs with c | ⟨c1, c2⟩
      · exact Or.inl c
      · refine Or.inr ⟨c1, fun p' h1 h2 h3 => ?_⟩
        by_cases d : p' = p
        · subst d; exact absurd (sp.2.2.mpr h3) z
        · exact c2 p' h1 (by omega) h3
theorem M_ch120 {E : HP → Prop} {N x n : Nat} {kk : Int} {S : Nat → Int} (hI : INV h) (hN : h 13 1 = N) (hx : (x : Int) < h 2 1) (hn : n ≤ 32) (hL : LvS (VC 13 h) (h 6) x N n S) (hE : ∀ g, SCR h g → MdS (VC 13 h) (h 6) x N n S (g 85) (fun p' _ => p' < N) → E g) : ∀ (m f p : Nat) (g : HP), m < f → p + m = N → SCR h g → MdS (VC 13 h) (h 6) x N n S (g 85) (fun p' _ => p' < p) → p8_chain_L120 x kk n E f g p := by
  have a2 : h 13 1 ≤ 32 := hI.1.2.1.2.1
  intro m
  induction m with
  | zero =>
    intro f p g hf hp hF hM
    obtain ⟨f, rfl⟩ : ∃ n', f = n' + 1 := ⟨f - 1, by omega⟩
    obtain ⟨_, _, _, fj⟩ := scr_M hI hF
    have f7 : g 69 7 = N := by rw [fj 7 (by decide), ← hI.cnt, hN]
    unfold p8_chain_L120
    rw [f7]
    obtain rfl : p = N := by omega
    exact brY ((wle ⟨by omega, by omega⟩ ⟨by omega, by omega⟩).mpr (by omega)) (hE g hF hM)
  | succ m ih =>
    intro f p g hf hp hF hM
    obtain ⟨f, rfl⟩ : ∃ n', f = n' + 1 := ⟨f - 1, by omega⟩
    obtain ⟨_, _, _, fj⟩ := scr_M hI hF
    have f7 : g 69 7 = N := by rw [fj 7 (by decide), ← hI.cnt, hN]
    unfold p8_chain_L120
    rw [f7]
    refine brN (fun z => by have := (wle ⟨by omega, by omega⟩ ⟨by omega, by omega⟩).mp z; omega) ?_
    refine M_ch132 hI hN hx hn (by omega) hL (fun g' k1 k2 => ih f (p + 1) g' (by omega) (by omega) k1 k2) N FUEL 0 g (by unfold FUEL; omega) (by omega) hF (fun q' hq' => ⟨(hM q' hq').1, fun hs => ?_⟩)
    rcases (hM q' hq').2 hs with c | ⟨c1, c2⟩
    · exact Or.inl c
    · exact Or.inr ⟨c1, fun p' h1 h2 h3 => c2 p' h1 (by omega) h3⟩
theorem M_ch57 {Q : Int → HP → Prop} {N x k : Nat} (hI : INV h) (hN : h 13 1 = N) (hx : (x : Int) < h 2 1) (hk : (k : Int) < h 2 0) (hQ : ∀ r g, CHP (VC 13 h) (h 6) x k N r → SCR h g → Q r g) : ∀ (m f n : Nat) (g : HP), m < f → n + m = N + 1 → SCR h g → LvS (VC 13 h) (h 6) x N n (g 85) → (∀ d, d < n → ∀ r, goV (VC 13 h) x k N r → ¬ RR (VC 13 h) (h 6) x N d r) → (n ≤ N → (n : Int) ≤ cntS N (g 85) ∨ StB (VC 13 h) (h 6) x N n) → (N < n → StB (VC 13 h) (h 6) x N N) → p8_chain_L57 x k Q f g n := by
  have a2 : h 13 1 ≤ 32 := hI.1.2.1.2.1
  intro m
  induction m with
  | zero =>
    intro f n g hf hn hF hL hG hC hB
    obtain ⟨f, rfl⟩ : ∃ n', f = n' + 1 := ⟨f - 1, by omega⟩
    obtain ⟨_, _, _, fj⟩ := scr_M hI hF
    have f7 : g 69 7 = N := by rw [fj 7 (by decide), ← hI.cnt, hN]
    unfold p8_chain_L57
    rw [f7]
    refine brY ((wlt ⟨by omega, by omega⟩ ⟨by omega, by omega⟩).mpr (by omega)) ?_
    exact hQ _ g (Or.inr ⟨rfl, fun d r hr hR => hG N (by omega) r hr (hB (by omega) d r hR)⟩) hF
  | succ m ih =>
    intro f n g hf hn hF hL hG hC hB
    obtain ⟨f, rfl⟩ : ∃ n', f = n' + 1 := ⟨f - 1, by omega⟩
    obtain ⟨_, _, _, fj⟩ := scr_M hI hF
    have f7 : g 69 7 = N := by rw [fj 7 (by decide), ← hI.cnt, hN]
    unfold p8_chain_L57
    rw [f7]
    refine brN (fun z => by have := (wlt ⟨by omega, by omega⟩ ⟨by omega, by omega⟩).mp z; omega) ?_
    have hS : ∀ q, q < N → -1 ≤ g 85 q ∧ g 85 q ≤ 40 := fun q hq => by
      rcases hL q hq with ⟨h1, _⟩ | ⟨d, h1, h2, _⟩ <;> omega
    refine M_ch68 hI hF hN hx hk (by omega) hS (fun hnone => ?_) (fun p hp sp hgo => ?_)
    · have hG' : ∀ d, d < n + 1 → ∀ r, goV (VC 13 h) x k N r → ¬ RR (VC 13 h) (h 6) x N d r := by
        intro d hd r hr hR
        by_cases c : d < n
        · exact hG d c r hr hR
        · obtain rfl : d = n := by omega
          rcases hL r hr.1 with ⟨h1, h2⟩ | ⟨d', h1, h2, h3, h4⟩
          · exact h2 hR
          · by_cases c' : d' = d
            · subst c'; exact hnone r hr.1 ⟨h2, hr⟩
            · exact hG d' (by omega) r hr h3
      refine M_ch120 hI hN hx (by omega) hL (fun g' k1 k2 => ?_) N FUEL 0 g (by unfold FUEL; omega) (by omega) hF (fun q hq => ⟨fun _ => rfl, fun hs => Or.inr ⟨hs, fun p hp hA => by omega⟩⟩)
      have hL' := lv_next hL k2
      have hst := st_next hL hL' k2 (hC (by omega))
      refine ih f (n + 1) g' (by omega) (by omega) k1 hL' hG' (fun _ => hst) (fun hlt => ?_)
      obtain rfl : n = N := by omega
      exact st_all hL (hC (by omega))
    · have rn : RR (VC 13 h) (h 6) x N n p := by
        rcases hL p hp with ⟨h1, h2⟩ | ⟨d', h1, h2, h3, h4⟩
        · omega
        · obtain rfl : d' = n := by omega
          exact h3
      exact hQ _ g (Or.inl ⟨n, rfl, ⟨p, hgo, rn⟩, hG⟩) hF
theorem op_chain (hI : INV h) {x y : Int} (hx : can x) (hy : can y) : p7_chain x y h (fun r1 h1 => p8_chain x y h1 (fun r2 h2 => OK2 r1 r2 h2)) := by
  have e := hI.2.2.1
  have s0 := hI.s0
  have s1 := hI.s1
  have cn := hI.cnt
  have a2 : h 13 1 ≤ 32 := hI.1.2.1.2.1
  have a1 : 0 ≤ h 13 1 := hI.1.2.1.1
  have hst := hI.st
  unfold okSt at hst
  unfold p7_chain
  refine C_isHouse hx hI.1.1 (fun z1 z2 => brN (by decide) ?_) (fun z => brY (by decide) (by unfold p8_chain; exact M_isHouseN hI hx z (brY (by decide) ⟨rfl, hI⟩)))
  obtain ⟨n, rfl⟩ := Int.eq_ofNat_of_zero_le z1
  refine C_isSort hy hI.1.1 (fun y1 y2 => brN (by decide) ?_) (fun z => brY (by decide) (by unfold p8_chain; exact M_isHouseY hI z2 (brN (by decide) (M_isSortN hI hy z (brY (by decide) ⟨rfl, hI⟩)))))
  obtain ⟨k, rfl⟩ := Int.eq_ofNat_of_zero_le y1
  obtain ⟨N, hN⟩ := Int.eq_ofNat_of_zero_le a1
  refine C_fewestFor hI.1 hI.w6 hN z2 y2 (fun r1 h1 c1 f1 => ?_)
  have hI1 := f1.i hI
  unfold p8_chain
  obtain ⟨hM1, hV1, g71, gj⟩ := scr_M hI f1
  refine M_hY hM1 (by rw [gj 1 (by decide)]; omega) (brN (by decide) (M_sY hM1 (by rw [gj 0 (by decide)]; omega) (brN (by decide) ?_)))
  have L : ∀ (m f p : Nat) (g : HP), m < f → p + m = N → SCR h g → (∀ q, q < p → g 85 q = if VC 13 h 2 q = -1 then 0 else -1) → p8_chain_L21 n k (fun (h8 : HP) => p8_chain_L57 n k (fun r2 h2 => OK2 r1 r2 h2) FUEL h8 0) f g p := by
    intro m
    induction m with
    | zero =>
      intro f p g hf hp hF hS
      obtain ⟨f, rfl⟩ : ∃ n', f = n' + 1 := ⟨f - 1, by omega⟩
      obtain ⟨_, _, _, fj⟩ := scr_M hI hF
      have f7 : g 69 7 = N := by rw [fj 7 (by decide), ← hI.cnt, hN]
      obtain rfl : p = N := by omega
      unfold p8_chain_L21
      rw [f7]
      refine brY ((wle ⟨by omega, by omega⟩ ⟨by omega, by omega⟩).mpr (by omega)) ?_
      refine M_ch57 hI hN z2 y2 (fun r2 h2 c2 f2 => ⟨by rw [CHP_u c1 c2], f2.i hI⟩) (p + 1) FUEL 0 g (by unfold FUEL; omega) (by omega) hF (fun q hq => ?_) (fun d hd => by omega) (fun _ => Or.inl ?_) (fun hlt => by omega)
      · rw [hS q hq]
        by_cases c : VC 13 h 2 q = -1
        · rw [if_pos c]; exact Or.inr ⟨0, by omega, rfl, ⟨hq, c⟩, fun d' hd' => by omega⟩
        · rw [if_neg c]; exact Or.inl ⟨rfl, fun hr => c hr.2⟩
      · exact fs_nn 0 p (fun q _ _ => by split <;> omega)
    | succ m ih =>
      intro f p g hf hp hF hS
      obtain ⟨f, rfl⟩ : ∃ n', f = n' + 1 := ⟨f - 1, by omega⟩
      obtain ⟨_, _, _, fj⟩ := scr_M hI hF
      have f7 : g 69 7 = N := by rw [fj 7 (by decide), ← hI.cnt, hN]
      have hpv : (p : Int) < VC 13 h 0 0 := by show (p : Int) < h 13 1; omega
      obtain ⟨q1, q2, q3, q4, q5, _⟩ := hI.1.part (p := p) (by omega)
      have b4 : -1 ≤ VC 13 h 2 p := q4
      have b5 : VC 13 h 2 p < h 2 1 := q5
      have r2 : g 75 p = VC 13 h 2 p := by rw [hF.1 75 (by decide)]; exact (e.2.1 2 p (by decide) (by decide) hpv).symm
      unfold p8_chain_L21
      rw [f7]
      refine brN (fun z => by have := (wle ⟨by omega, by omega⟩ ⟨by omega, by omega⟩).mp z; omega) ?_
      refine rd_n q1 (by decide) ?_
      rw [r2]
      have go : ∀ v : Int, (v = if VC 13 h 2 p = -1 then 0 else -1) → wr g 85 32 p v fun h7 => p8_chain_L21 n k (fun (h8 : HP) => p8_chain_L57 n k (fun r2 h2 => OK2 r1 r2 h2) FUEL h8 0) f h7 (p + 1) := fun v hv => by
        refine wr_n q1 (by decide) ?_
        refine ih f (p + 1) _ (by omega) (by omega) (hF.set (by omega)) (fun q hq => ?_)
        by_cases c : q = p
        · subst c; rw [hset_rs]; exact hv
        · rw [hset_rn c]; exact hS q (by omega)
      exact jn_i (brQ (w0le ⟨by omega, by omega⟩) (fun z => go (-1) (by rw [if_neg (by omega)])) (fun z => go 0 (by rw [if_pos (by omega)])))
  exact L N FUEL 0 h1 (by unfold FUEL; omega) (by omega) f1 (fun q hq => by omega)
end CH5
