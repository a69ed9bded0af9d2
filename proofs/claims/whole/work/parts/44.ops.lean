/-! ===== PURE: throwing, taking, a part more ===== -/
theorem cO_eq {V V' : HP} (e0 : V' 0 0 = V 0 0) (e : ∀ q, q < nP V → V' 2 q = V 2 q) (x : Int) : cO V' x = cO V x := by
  unfold cO
  rw [show nP V' = nP V from by unfold nP; rw [e0]]
  exact fs_congr _ 0 (fun q _ hq => by rw [e q (by omega)])
theorem cS_eq {V V' : HP} (e0 : V' 0 0 = V 0 0) (e1 : ∀ q, q < nP V → V' 1 q = V 1 q) (e : ∀ q, q < nP V → V' 2 q = V 2 q) (x k : Int) : cS V' x k = cS V x k := by
  unfold cS
  rw [show nP V' = nP V from by unfold nP; rw [e0]]
  exact fs_congr _ 0 (fun q _ hq => by rw [e q (by omega), e1 q (by omega)])
theorem cY_eq {V V' : HP} (e0 : V' 0 0 = V 0 0) (e : ∀ q, q < nP V → V' 3 q = V 3 q) (x : Int) : cY V' x = cY V x := by
  unfold cY
  rw [show nP V' = nP V from by unfold nP; rw [e0]]
  exact fs_congr _ 0 (fun q _ hq => by rw [e q (by omega)])
theorem cO_set {V V' : HP} {p : Nat} {v : Int} (hp : p < nP V) (e0 : V' 0 0 = V 0 0) (ep : V' 2 p = v) (e : ∀ q, q ≠ p → V' 2 q = V 2 q) (x : Int) : cO V' x = cO V x + ((if v = x then 1 else 0) - (if V 2 p = x then 1 else 0)) := by
  unfold cO
  rw [show nP V' = nP V from by unfold nP; rw [e0]]
  rw [fs_one (f := fun q => if V' 2 q = x then 1 else 0) (g := fun q => if V 2 q = x then 1 else 0) 0 (nP V) p (by omega) (by omega) (fun q hq => by rw [e q hq])]
  rw [ep]
theorem cS_set {V V' : HP} {p : Nat} {v : Int} (hp : p < nP V) (e0 : V' 0 0 = V 0 0) (e1 : V' 1 = V 1) (ep : V' 2 p = v) (e : ∀ q, q ≠ p → V' 2 q = V 2 q) (x k : Int) : cS V' x k = cS V x k + ((if v = x ∧ V 1 p = k then 1 else 0) - (if V 2 p = x ∧ V 1 p = k then 1 else 0)) := by
  unfold cS
  rw [show nP V' = nP V from by unfold nP; rw [e0]]
  rw [fs_one (f := fun q => if V' 2 q = x ∧ V' 1 q = k then 1 else 0) (g := fun q => if V 2 q = x ∧ V 1 q = k then 1 else 0) 0 (nP V) p (by omega) (by omega) (fun q hq => by rw [e q hq, e1])]
  rw [ep, e1]
/-! the rows behind a change -/
theorem hset_rs {V : HP} {c j : Nat} {v : Int} : hset V c j v c j = v := hset_eq
theorem hset_rn {V : HP} {c j : Nat} {v : Int} {j' : Nat} (hn : j' ≠ j) : hset V c j v c j' = V c j' := hset_ne (fun q => hn q.2)
theorem toss_c {V : HP} {x : Int} {p i : Nat} (h2 : i ≠ 2) (h3 : i ≠ 3) : tossV V x p i = V i := by
  unfold tossV; rw [hset_c h3, hset_c h2]
theorem toss_2 {V : HP} {x : Int} {p q : Nat} : tossV V x p 2 q = if q = p then -1 else V 2 q := by
  unfold tossV; rw [hset_c (by decide)]; simp [hset_at]
theorem toss_3 {V : HP} {x : Int} {p q : Nat} : tossV V x p 3 q = if q = p then x else V 3 q := by
  unfold tossV; rw [hset_at]; simp [hset_at]
theorem take_c {V : HP} {x : Int} {p i : Nat} (h2 : i < 2 ∨ 5 < i) : takeV V x p i = V i := by
  unfold takeV
  split
  · rw [hset_c (by omega), hset_c (by omega), hset_c (by omega), hset_c (by omega)]
  · rw [hset_c (by omega), hset_c (by omega)]
theorem take_2 {V : HP} {x : Int} {p q : Nat} : takeV V x p 2 q = if q = p then x else V 2 q := by
  unfold takeV
  split
  · rw [hset_c (by decide), hset_c (by decide), hset_c (by decide)]; simp [hset_at]
  · rw [hset_c (by decide)]; simp [hset_at]
theorem take_3 {V : HP} {x : Int} {p q : Nat} : takeV V x p 3 q = if q = p then -1 else V 3 q := by
  unfold takeV
  split
  · rw [hset_c (by decide), hset_c (by decide)]; simp [hset_at]
  · simp [hset_at]
theorem take_4 {V : HP} {x : Int} {p q : Nat} : takeV V x p 4 q = if q = p ∧ V 4 p < 20 then V 4 p + 1 else V 4 q := by
  unfold takeV
  by_cases c : V 4 p < 20
  · rw [if_pos c]
    by_cases d : q = p
    · subst d; rw [hset_rs, if_pos ⟨rfl, c⟩]
    · rw [hset_rn d, if_neg (fun z => d z.1), hset_c (by decide), hset_c (by decide), hset_c (by decide)]
  · rw [if_neg c, if_neg (fun z => c z.2), hset_c (by decide), hset_c (by decide)]
theorem take_5 {V : HP} {x : Int} {p j : Nat} : takeV V x p 5 j = if j = 20 * p + (V 4 p).toNat ∧ V 4 p < 20 then x else V 5 j := by
  unfold takeV
  by_cases c : V 4 p < 20
  · rw [if_pos c, hset_c (by decide)]
    by_cases d : j = 20 * p + (V 4 p).toNat
    · subst d; rw [hset_rs, if_pos ⟨rfl, c⟩]
    · rw [hset_rn d, if_neg (fun z => d z.1), hset_c (by decide), hset_c (by decide)]
  · rw [if_neg c, if_neg (fun z => c z.2), hset_c (by decide), hset_c (by decide)]
theorem cO_toss {V : HP} {x : Int} {p : Nat} (hp : p < nP V) (ho : V 2 p = x) (hx : 0 ≤ x) (y : Int) (hy : 0 ≤ y) : cO (tossV V x p) y = cO V y - (if y = x then 1 else 0) := by
  rw [cO_set (V := V) (V' := tossV V x p) (p := p) (v := -1) hp (by rw [toss_c (by decide) (by decide)]) (by rw [toss_2, if_pos rfl]) (fun q hq => by rw [toss_2, if_neg hq]) y, ho, if_neg (by omega)]
  by_cases c : y = x
  · rw [if_pos c, if_pos c.symm]; omega
  · rw [if_neg c, if_neg (fun z => c z.symm)]; omega
theorem cS_toss {V : HP} {x : Int} {p : Nat} (hp : p < nP V) (ho : V 2 p = x) (hx : 0 ≤ x) (y k : Int) (hy : 0 ≤ y) : cS (tossV V x p) y k = cS V y k - (if y = x ∧ V 1 p = k then 1 else 0) := by
  rw [cS_set (V := V) (V' := tossV V x p) (p := p) (v := -1) hp (by rw [toss_c (by decide) (by decide)]) (by rw [toss_c (by decide) (by decide)]) (by rw [toss_2, if_pos rfl]) (fun q hq => by rw [toss_2, if_neg hq]) y k, ho, if_neg (by omega)]
  by_cases c : y = x ∧ V 1 p = k
  · rw [if_pos c, if_pos ⟨c.1.symm, c.2⟩]; omega
  · rw [if_neg c, if_neg (fun z => c ⟨z.1.symm, z.2⟩)]; omega
theorem cO_take {V : HP} {x : Int} {p : Nat} (hp : p < nP V) (ho : V 2 p = -1) (y : Int) (hy : 0 ≤ y) : cO (takeV V x p) y = cO V y + (if y = x then 1 else 0) := by
  rw [cO_set (V := V) (V' := takeV V x p) (p := p) (v := x) hp (by rw [take_c (by decide)]) (by rw [take_2, if_pos rfl]) (fun q hq => by rw [take_2, if_neg hq]) y, ho, if_neg (show ¬ (-1 : Int) = y by omega)]
  by_cases c : y = x
  · rw [if_pos c, if_pos c.symm]; omega
  · rw [if_neg c, if_neg (fun z => c z.symm)]; omega
theorem cS_take {V : HP} {x : Int} {p : Nat} (hp : p < nP V) (ho : V 2 p = -1) (y k : Int) (hy : 0 ≤ y) : cS (takeV V x p) y k = cS V y k + (if y = x ∧ V 1 p = k then 1 else 0) := by
  rw [cS_set (V := V) (V' := takeV V x p) (p := p) (v := x) hp (by rw [take_c (by decide)]) (by rw [take_c (by decide)]) (by rw [take_2, if_pos rfl]) (fun q hq => by rw [take_2, if_neg hq]) y k, ho, if_neg (show ¬ ((-1 : Int) = y ∧ V 1 p = k) by omega)]
  by_cases c : y = x ∧ V 1 p = k
  · rw [if_pos c, if_pos ⟨c.1.symm, c.2⟩]; omega
  · rw [if_neg c, if_neg (fun z => c ⟨z.1.symm, z.2⟩)]; omega
theorem wf_toss {s n : Int} {V : HP} {x : Int} {p : Nat} (hV : wfV s n V) (hp : p < nP V) (ho : V 2 p = x) (hx : 0 ≤ x) (hx2 : x < n) : wfV s n (tossV V x p) := by
  obtain ⟨a1, a2, a3, a4, a5, a6⟩ := hV
  have hn := nP_c a1
  have e0 : tossV V x p 0 = V 0 := toss_c (by decide) (by decide)
  refine ⟨by rw [e0]; exact a1, by rw [e0]; exact a2, fun q hq => ?_, fun y h1 h2 => ?_, by rw [e0]; exact a5, by rw [e0]; exact a6⟩
  · rw [e0] at hq
    have := a3 q hq
    unfold okP at this ⊢
    rw [toss_c (show (1 : Nat) ≠ 2 by decide) (by decide), toss_c (show (4 : Nat) ≠ 2 by decide) (by decide), toss_2, toss_3]
    by_cases c : q = p
    · rw [if_pos c, if_pos c]; omega
    · rw [if_neg c, if_neg c]; exact this
  · rw [cO_toss hp ho hx y h1]
    have := a4 y h1 h2
    split <;> omega
theorem wf_take {s n : Int} {V : HP} {x : Int} {p : Nat} (hV : wfV s n V) (hp : p < nP V) (hm : mayT V x p) (hx : 0 ≤ x) (hx2 : x < n) : wfV s n (takeV V x p) := by
  obtain ⟨a1, a2, a3, a4, a5, a6⟩ := hV
  have hn := nP_c a1
  have e0 : takeV V x p 0 = V 0 := take_c (by decide)
  refine ⟨by rw [e0]; exact a1, by rw [e0]; exact a2, fun q hq => ?_, fun y h1 h2 => ?_, by rw [e0]; exact a5, by rw [e0]; exact a6⟩
  · rw [e0] at hq
    have := a3 q hq
    unfold okP at this ⊢
    rw [take_c (show (1 : Nat) < 2 ∨ 5 < 1 by decide), take_2, take_3, take_4]
    by_cases c : q = p
    · subst c
      rw [if_pos rfl, if_pos rfl]
      by_cases d : V 4 q < 20
      · rw [if_pos ⟨rfl, d⟩]; omega
      · rw [if_neg (fun z => d z.2)]; omega
    · rw [if_neg c, if_neg c, if_neg (fun z => c z.1)]; exact this
  · rw [cO_take hp hm.2.1 y h1]
    have := a4 y h1 h2
    have := hm.1
    by_cases c : y = x
    · subst c; rw [if_pos rfl]; omega
    · rw [if_neg c]; omega
/-! a part more -/
theorem add_n {V : HP} {k : Int} (h : 0 ≤ V 0 0) : nP (addV V k) = nP V + 1 := by
  unfold nP addV; rw [hset_rs]; omega
theorem add_c {V : HP} {k : Int} {i q : Nat} (hi : 1 ≤ i) (hq : q ≠ nP V) : addV V k i q = V i q := by
  unfold addV
  rw [hset_ne (by omega), hset_ne (by omega), hset_ne (by omega), hset_ne (by omega), hset_ne (by omega)]
theorem add_0 {V : HP} {k : Int} {j : Nat} : addV V k 0 j = if j = 0 then V 0 0 + 1 else V 0 j := by
  unfold addV
  by_cases c : j = 0
  · subst c; rw [hset_rs, if_pos rfl]
  · rw [hset_rn c, if_neg c, hset_c (by decide), hset_c (by decide), hset_c (by decide), hset_c (by decide)]
theorem add_1 {V : HP} {k : Int} : addV V k 1 (nP V) = k := by
  unfold addV; rw [hset_c (by decide), hset_c (by decide), hset_c (by decide), hset_c (by decide), hset_rs]
theorem add_2 {V : HP} {k : Int} : addV V k 2 (nP V) = -1 := by
  unfold addV; rw [hset_c (by decide), hset_c (by decide), hset_c (by decide), hset_rs]
theorem add_3 {V : HP} {k : Int} : addV V k 3 (nP V) = -1 := by
  unfold addV; rw [hset_c (by decide), hset_c (by decide), hset_rs]
theorem add_4 {V : HP} {k : Int} : addV V k 4 (nP V) = 0 := by
  unfold addV; rw [hset_c (by decide), hset_rs]
theorem cO_add {V : HP} {k : Int} (h : 0 ≤ V 0 0) (x : Int) (hx : 0 ≤ x) : cO (addV V k) x = cO V x := by
  unfold cO
  rw [add_n h, fs_succ, Nat.zero_add, add_2, if_neg (by omega)]
  rw [fs_congr (g := fun q => if V 2 q = x then 1 else 0) (nP V) 0 (fun q _ hq => by rw [add_c (by decide) (by omega)])]
  omega
theorem cS_add {V : HP} {k : Int} (h : 0 ≤ V 0 0) (x j : Int) (hx : 0 ≤ x) : cS (addV V k) x j = cS V x j := by
  unfold cS
  rw [add_n h, fs_succ, Nat.zero_add, add_2, if_neg (by omega)]
  rw [fs_congr (g := fun q => if V 2 q = x ∧ V 1 q = j then 1 else 0) (nP V) 0 (fun q _ hq => by rw [add_c (by decide) (by omega), add_c (by decide) (by omega)])]
  omega
theorem wf_add {s n : Int} {V : HP} {k : Int} (hV : wfV s n V) (hn0 : 0 ≤ n) (hk : 0 ≤ k) (hk2 : k < s) (hc : V 0 0 < 32) : wfV s n (addV V k) := by
  obtain ⟨a1, a2, a3, a4, a5, a6⟩ := hV
  have hn := nP_c a1
  refine ⟨by rw [add_0, if_pos rfl]; omega, by rw [add_0, if_pos rfl]; omega, fun q hq => ?_, fun y h1 h2 => by rw [cO_add a1 y h1]; exact a4 y h1 h2, by rw [add_0, if_neg (by decide)]; exact a5, by rw [add_0, if_neg (by decide)]; exact a6⟩
  rw [add_0, if_pos rfl] at hq
  unfold okP
  by_cases c : q = nP V
  · subst c
    rw [add_1, add_2, add_3, add_4]; omega
  · rw [add_c (by decide) c, add_c (by decide) c, add_c (by decide) c, add_c (by decide) c]
    exact a3 q (by omega)
