/-! ===== PURE: the parts as both hold them: row 0 how many, the week, the seed; 1 sort; 2 owner; 3 yard; 4 hands; 5 hand ===== -/
def VC (b : Nat) (h : HP) : HP := fun i j => if i = 0 then (if j < 3 then h b (j + 1) else 0) else if i < 6 then h (b + i) j else 0
def VM (h : HP) : HP := fun i j => if i = 0 then (if j = 0 then h 69 7 else if j = 1 then h 69 13 else if j = 2 then h 69 14 else 0) else if i < 6 then h (73 + i) j else 0
def nP (V : HP) : Nat := (V 0 0).toNat
def cO (V : HP) (x : Int) : Int := fs (fun q => if V 2 q = x then 1 else 0) 0 (nP V)
def cS (V : HP) (x k : Int) : Int := fs (fun q => if V 2 q = x ∧ V 1 q = k then 1 else 0) 0 (nP V)
def cY (V : HP) (x : Int) : Int := fs (fun q => if V 3 q = x then 1 else 0) 0 (nP V)
abbrev mayT (V : HP) (x : Int) (p : Nat) : Prop := cO V x < 4 ∧ V 2 p = -1 ∧ ¬ V 3 p = x
def gV (V : HP) (W : Nat → Int) (x k : Int) : Int := if cS V x k = 0 then W (x * 6 + k).toNat else 0
def lV (V : HP) (W : Nat → Int) (x k : Int) : Int := if cS V x k = 1 then W (x * 6 + k).toNat else 0
def weV (V : HP) (W : Nat → Int) (s : Nat) (x : Int) : Int := fs (fun k => if 0 < cS V x k then W (x * 6 + k).toNat else 0) 0 s
def can (x : Int) : Prop := -2147483648 ≤ x ∧ x < 2147483648
def okP (s n : Int) (V : HP) (p : Nat) : Prop := 0 ≤ V 1 p ∧ V 1 p < s ∧ -1 ≤ V 2 p ∧ V 2 p < n ∧ -1 ≤ V 3 p ∧ V 3 p < n ∧ (0 ≤ V 2 p → V 3 p = -1) ∧ 0 ≤ V 4 p ∧ V 4 p ≤ 20
def wfV (s n : Int) (V : HP) : Prop := 0 ≤ V 0 0 ∧ V 0 0 ≤ 32 ∧ (∀ p : Nat, (p : Int) < V 0 0 → okP s n V p) ∧ (∀ x : Int, 0 ≤ x → x < n → cO V x ≤ 4) ∧ 0 ≤ V 0 2 ∧ V 0 2 < 2147483648
def okW (W : Nat → Int) : Prop := ∀ j : Nat, j < 30 → 0 ≤ W j ∧ W j ≤ 99
/-- what is told -/
def okSt (s n : Int) : Prop := 0 ≤ s ∧ s ≤ 6 ∧ 0 ≤ n ∧ n ≤ 5
theorem nP_c {V : HP} (h : 0 ≤ V 0 0) : ((nP V : Nat) : Int) = V 0 0 := by unfold nP; omega
theorem cO_nn (V : HP) (x : Int) : 0 ≤ cO V x := fs_nn 0 _ (fun q _ _ => by by_cases c : V 2 q = x <;> simp [c])
theorem cS_nn (V : HP) (x k : Int) : 0 ≤ cS V x k := fs_nn 0 _ (fun q _ _ => by by_cases c : V 2 q = x ∧ V 1 q = k <;> simp [c])
theorem cS_le (V : HP) (x k : Int) : cS V x k ≤ cO V x := fs_le 0 _ (fun q _ _ => by
  by_cases c : V 2 q = x
  · by_cases d : V 1 q = k <;> simp [c, d]
  · simp [c])
theorem cO_le (V : HP) (x : Int) : cO V x ≤ nP V := by
  have : cO V x ≤ fs (fun _ => 1) 0 (nP V) := fs_le 0 _ (fun q _ _ => by by_cases c : V 2 q = x <;> simp [c])
  have e : ∀ m p, fs (fun _ => (1 : Int)) p m = m := by
    intro m
    induction m with
    | zero => intro p; rfl
    | succ m ih => intro p; show 1 + fs (fun _ => (1 : Int)) (p + 1) m = _; rw [ih]; omega
  rw [e] at this
  exact this
theorem cS_pos {V : HP} {x k : Int} {p : Nat} (hp : p < nP V) (h1 : V 2 p = x) (h2 : V 1 p = k) : 0 < cS V x k :=
  (fs_pos 0 _ (fun q _ _ => by by_cases c : V 2 q = x ∧ V 1 q = k <;> simp [c])).mpr ⟨p, by omega, by omega, by simp [h1, h2]⟩
theorem cS_ex {V : HP} {x k : Int} (h : 0 < cS V x k) : ∃ p, p < nP V ∧ V 2 p = x ∧ V 1 p = k := by
  obtain ⟨q, _, h2, h3⟩ := (fs_pos 0 _ (fun q _ _ => by by_cases c : V 2 q = x ∧ V 1 q = k <;> simp [c])).mp h
  by_cases c : V 2 q = x ∧ V 1 q = k
  · exact ⟨q, by omega, c.1, c.2⟩
  · rw [if_neg c] at h3; omega
/-! the changes -/
def tossV (V : HP) (x : Int) (p : Nat) : HP := hset (hset V 2 p (-1)) 3 p x
def takeV (V : HP) (x : Int) (p : Nat) : HP := if V 4 p < 20 then hset (hset (hset (hset V 2 p x) 3 p (-1)) 5 (20 * p + (V 4 p).toNat) x) 4 p (V 4 p + 1) else hset (hset V 2 p x) 3 p (-1)
def addV (V : HP) (k : Int) : HP := hset (hset (hset (hset (hset V 1 (nP V) k) 2 (nP V) (-1)) 3 (nP V) (-1)) 4 (nP V) 0) 0 0 (V 0 0 + 1)
theorem hset_at (h : HP) (c j : Nat) (v : Int) (c' j' : Nat) : hset h c j v c' j' = if c' = c ∧ j' = j then v else h c' j' := rfl
theorem hset_c {h : HP} {c j : Nat} {v : Int} {c' : Nat} (hn : c' ≠ c) : hset h c j v c' = h c' := by
  funext j'
  exact hset_ne (fun q => hn q.1)
theorem VC_arr {b i j : Nat} {h : HP} {v : Int} (h1 : 1 ≤ i) (h2 : i ≤ 5) : VC b (hset h (b + i) j v) = hset (VC b h) i j v := by
  funext i' j'
  unfold VC
  simp only [hset_at]
  by_cases q0 : i' = 0
  · subst q0
    rw [if_pos rfl, if_neg (show ¬ (0 = i ∧ j' = j) by omega), if_pos rfl]
    by_cases q1 : j' < 3
    · rw [if_pos q1, if_pos q1, if_neg (by omega)]
    · rw [if_neg q1, if_neg q1]
  · rw [if_neg q0]
    by_cases q1 : i' < 6
    · rw [if_pos q1]
      by_cases q2 : i' = i ∧ j' = j
      · rw [if_pos (by omega), if_pos q2]
      · rw [if_neg (by omega), if_neg q2, if_neg q0, if_pos q1]
    · rw [if_neg q1, if_neg (by omega), if_neg q0, if_neg q1]
theorem VC_fld {b k : Nat} {h : HP} {v : Int} (h1 : k < 3) : VC b (hset h b (k + 1) v) = hset (VC b h) 0 k v := by
  funext i' j'
  unfold VC
  simp only [hset_at]
  by_cases q0 : i' = 0
  · subst q0
    rw [if_pos rfl]
    by_cases q1 : j' < 3
    · rw [if_pos q1]
      by_cases q2 : j' = k
      · rw [if_pos ⟨trivial, by omega⟩, if_pos ⟨rfl, q2⟩]
      · rw [if_neg (show ¬ (True ∧ j' + 1 = k + 1) by omega), if_neg (show ¬ (0 = 0 ∧ j' = k) by omega), if_pos rfl, if_pos q1]
    · rw [if_neg q1, if_neg (show ¬ (0 = 0 ∧ j' = k) by omega), if_pos rfl, if_neg q1]
  · rw [if_neg q0, if_neg (show ¬ (i' = 0 ∧ j' = k) by omega), if_neg q0]
    by_cases q1 : i' < 6
    · rw [if_pos q1, if_pos q1, if_neg (by omega)]
    · rw [if_neg q1, if_neg q1]
theorem VC_eq {b : Nat} {h h' : HP} (e0 : ∀ j, j < 3 → h' b (j + 1) = h b (j + 1)) (e : ∀ i, 1 ≤ i → i ≤ 5 → h' (b + i) = h (b + i)) : VC b h' = VC b h := by
  funext i j
  unfold VC
  by_cases q0 : i = 0
  · rw [if_pos q0, if_pos q0]
    by_cases q1 : j < 3
    · rw [if_pos q1, if_pos q1, e0 j q1]
    · rw [if_neg q1, if_neg q1]
  · rw [if_neg q0, if_neg q0]
    by_cases q1 : i < 6
    · rw [if_pos q1, if_pos q1, e i (by omega) (by omega)]
    · rw [if_neg q1, if_neg q1]
theorem VC_oth {b c j : Nat} {h : HP} {v : Int} (hc : c < b ∨ b + 5 < c) : VC b (hset h c j v) = VC b h :=
  VC_eq (fun j' _ => hset_ne (fun q => by omega)) (fun i _ _ => hset_c (by omega))
theorem VC_mv {b : Nat} {h : HP} {v : Int} : VC b (hset h b 4 v) = VC b h :=
  VC_eq (fun j' _ => hset_ne (fun q => by omega)) (fun i _ _ => hset_c (by omega))
theorem VM_arr {i j : Nat} {h : HP} {v : Int} (h1 : 1 ≤ i) (h2 : i ≤ 5) : VM (hset h (73 + i) j v) = hset (VM h) i j v := by
  funext i' j'
  unfold VM
  simp only [hset_at]
  by_cases q0 : i' = 0
  · subst q0
    rw [if_pos rfl, if_neg (show ¬ (0 = i ∧ j' = j) by omega), if_pos rfl, if_neg (show ¬ (69 = 73 + i ∧ 7 = j) by omega), if_neg (show ¬ (69 = 73 + i ∧ 13 = j) by omega), if_neg (show ¬ (69 = 73 + i ∧ 14 = j) by omega)]
  · rw [if_neg q0]
    by_cases q1 : i' < 6
    · rw [if_pos q1]
      by_cases q2 : i' = i ∧ j' = j
      · rw [if_pos (by omega), if_pos q2]
      · rw [if_neg (by omega), if_neg q2, if_neg q0, if_pos q1]
    · rw [if_neg q1, if_neg (by omega), if_neg q0, if_neg q1]
theorem VM_eq {h h' : HP} (e0 : h' 69 7 = h 69 7) (e1 : h' 69 13 = h 69 13) (e2 : h' 69 14 = h 69 14) (e : ∀ i, 1 ≤ i → i ≤ 5 → h' (73 + i) = h (73 + i)) : VM h' = VM h := by
  funext i j
  unfold VM
  rw [e0, e1, e2]
  by_cases q0 : i = 0
  · rw [if_pos q0, if_pos q0]
  · rw [if_neg q0, if_neg q0]
    by_cases q1 : i < 6
    · rw [if_pos q1, if_pos q1, e i (by omega) (by omega)]
    · rw [if_neg q1, if_neg q1]
theorem VM_oth {c j : Nat} {h : HP} {v : Int} (hc : c < 69 ∨ (69 < c ∧ c < 74) ∨ 78 < c) : VM (hset h c j v) = VM h :=
  VM_eq (hset_ne (by omega)) (hset_ne (by omega)) (hset_ne (by omega)) (fun i _ _ => hset_c (by omega))
theorem VM_f0 {h : HP} {v : Int} : VM (hset h 69 7 v) = hset (VM h) 0 0 v := by
  funext i' j'
  unfold VM
  simp only [hset_at]
  by_cases q0 : i' = 0
  · subst q0
    by_cases q1 : j' = 0
    · simp [q1]
    · simp [q1]
  · rw [if_neg (show ¬ (73 + i' = 69 ∧ j' = 7) by omega)]
    simp [q0]
theorem VM_f1 {h : HP} {v : Int} : VM (hset h 69 13 v) = hset (VM h) 0 1 v := by
  funext i' j'
  unfold VM
  simp only [hset_at]
  by_cases q0 : i' = 0
  · subst q0
    by_cases q1 : j' = 1
    · simp [q1]
    · simp [q1]
  · rw [if_neg (show ¬ (73 + i' = 69 ∧ j' = 13) by omega)]
    simp [q0]
theorem VM_f2 {h : HP} {v : Int} : VM (hset h 69 14 v) = hset (VM h) 0 2 v := by
  funext i' j'
  unfold VM
  simp only [hset_at]
  by_cases q0 : i' = 0
  · subst q0
    by_cases q1 : j' = 2
    · simp [q1]
    · simp [q1]
  · rw [if_neg (show ¬ (73 + i' = 69 ∧ j' = 14) by omega)]
    simp [q0]
