/-! ===== PURE: what a text says ===== -/
def isBl (x : Int) : Bool := decide (x = 32)
def isDg (x : Int) : Bool := decide (48 ≤ x) && decide (x ≤ 57)
def isLt (x : Int) : Bool := decide (97 ≤ x) && decide (x ≤ 122)
def spF (P : Int → Bool) (T : Nat → Int) (n : Nat) : Nat → Nat → Nat
  | 0, i => i
  | m + 1, i => if i < n ∧ P (T i) = true then spF P T n m (i + 1) else i
def spN (P : Int → Bool) (T : Nat → Int) (n i : Nat) : Nat := spF P T n (n - i) i
section SP
variable {P : Int → Bool} {T : Nat → Int} {n i : Nat}
theorem sp_Y (h1 : i < n) (h2 : P (T i) = true) : spN P T n i = spN P T n (i + 1) := by
  unfold spN
  rw [show n - i = (n - (i + 1)) + 1 from by omega]
  exact if_pos ⟨h1, h2⟩
theorem sp_N (h : ¬ (i < n ∧ P (T i) = true)) : spN P T n i = i := by
  unfold spN
  cases hm : n - i with
  | zero => rfl
  | succ m => exact if_neg h
theorem sp_i (R : Nat → Nat → Prop) (h0 : ∀ i, ¬ (i < n ∧ P (T i) = true) → R i i) (h1 : ∀ i, i < n → P (T i) = true → R (i + 1) (spN P T n (i + 1)) → R i (spN P T n (i + 1))) : ∀ i, R i (spN P T n i) := by
  have L : ∀ m i, n - i = m → R i (spN P T n i) := by
    intro m
    induction m with
    | zero => intro i hi; rw [sp_N (by omega)]; exact h0 i (by omega)
    | succ m ih =>
      intro i hi
      by_cases c : i < n ∧ P (T i) = true
      · rw [sp_Y c.1 c.2]; exact h1 i c.1 c.2 (ih (i + 1) (by omega))
      · rw [sp_N c]; exact h0 i c
  exact fun i => L _ i rfl
theorem sp_ge (i : Nat) : i ≤ spN P T n i := sp_i (fun i j => i ≤ j) (fun i _ => Nat.le_refl i) (fun i _ _ h => by omega) i
theorem sp_le (h : i ≤ n) : spN P T n i ≤ n := sp_i (fun i j => i ≤ n → j ≤ n) (fun i _ h => h) (fun i hi _ h _ => h (by omega)) i h
theorem sp_st (i : Nat) : ¬ (spN P T n i < n ∧ P (T (spN P T n i)) = true) := sp_i (fun _ j => ¬ (j < n ∧ P (T j) = true)) (fun i h => h) (fun i _ _ h => h) i
theorem sp_in (i : Nat) : ∀ j, i ≤ j → j < spN P T n i → P (T j) = true := sp_i (fun i k => ∀ j, i ≤ j → j < k → P (T j) = true) (fun i _ j h1 h2 => by omega) (fun i _ h2 h j h3 h4 => by
  by_cases c : j = i
  · subst c; exact h2
  · exact h j (by omega) h4) i
theorem sp_sp (i : Nat) : spN P T n (spN P T n i) = spN P T n i := sp_N (sp_st i)
end SP
def nvF (T : Nat → Int) : Nat → Nat → Int → Int
  | 0, _, v => v
  | m + 1, i, v => nvF T m (i + 1) (v * 10 + T i - 48)
section PARS
variable (T : Nat → Int) (n : Nat)
def nA (i : Nat) : Nat := spN isBl T n i
def nJ (i : Nat) : Nat := spN isDg T n (nA T n i)
def nV (i : Nat) : Int := nvF T (nJ T n i - nA T n i) (nA T n i) 0
def rnK (lo2 hi2 : Int) (i : Nat) : Int := if nA T n i < n ∧ isDg (T (nA T n i)) = true then (if 3 < nJ T n i - nA T n i ∨ nV T n i < lo2 ∨ hi2 < nV T n i then 2 else 0) else 1
def finF (D : HP) (i : Nat) : Int × Nat × HP × Nat := if nA T n i < n ∧ T (nA T n i) = 59 then (0, 0, D, nA T n i + 1) else (1, nA T n i, D, 0)
def clS (D : HP) (a e : Nat) : Int × Nat × HP × Nat := if 0 < D 0 0 then (3, a, D, 0) else if rnK T n 1 6 e = 0 then finF T n (hset D 0 0 (nV T n e)) (nJ T n e) else (rnK T n 1 6 e, nA T n e, D, 0)
def addD (D : HP) (k : Int) : HP := hset (hset (hset D 2 (D 0 2).toNat k) 3 (D 0 2).toNat (D 0 1)) 0 2 (D 0 2 + 1)
def hpF : Nat → HP → Nat → Nat → Int × Nat × HP × Nat
  | 0, D, i, _ => (0, 0, D, i)
  | m + 1, D, i, c => if nA T n i < n ∧ isDg (T (nA T n i)) = true then (if rnK T n 0 (D 0 0 - 1) i = 0 then (if c = 4 then (4, nA T n i, D, i) else hpF m (addD D (nV T n i)) (nJ T n i) (c + 1)) else (rnK T n 0 (D 0 0 - 1) i, nA T n i, D, i)) else (0, 0, D, i)
def clH (D : HP) (a e : Nat) : Int × Nat × HP × Nat := if 5 ≤ D 0 1 then (3, a, D, 0) else if rnK T n 0 99 e = 0 then (if (hpF T n 6 D (nJ T n e) 0).1 = 0 then finF T n (hset (hset (hpF T n 6 D (nJ T n e) 0).2.2.1 1 (D 0 1).toNat (nV T n e)) 0 1 (D 0 1 + 1)) (hpF T n 6 D (nJ T n e) 0).2.2.2 else ((hpF T n 6 D (nJ T n e) 0).1, (hpF T n 6 D (nJ T n e) 0).2.1, D, 0)) else (rnK T n 0 99 e, nA T n e, D, 0)
def prI (e : Nat) : Nat := (nV T n e * 6 + nV T n (nJ T n e)).toNat
def clW (D : HP) (a e : Nat) : Int × Nat × HP × Nat := if 30 ≤ D 0 3 then (3, a, D, 0) else if rnK T n 0 (D 0 1 - 1) e = 0 then (if rnK T n 0 (D 0 0 - 1) (nJ T n e) = 0 then (if D 4 (prI T n e) < 0 then (if rnK T n 0 99 (nJ T n (nJ T n e)) = 0 then finF T n (hset (hset D 4 (prI T n e) (nV T n (nJ T n (nJ T n e)))) 0 3 (D 0 3 + 1)) (nJ T n (nJ T n (nJ T n e))) else (rnK T n 0 99 (nJ T n (nJ T n e)), nA T n (nJ T n (nJ T n e)), D, 0)) else (4, nA T n (nJ T n e), D, 0)) else (rnK T n 0 (D 0 0 - 1) (nJ T n e), nA T n (nJ T n e), D, 0)) else (rnK T n 0 (D 0 1 - 1) e, nA T n e, D, 0)
abbrev wdK (k a e : Nat) : Prop := e = a + 5 ∧ T a = (strB k).getD 0 0 ∧ T (a + 1) = (strB k).getD 1 0 ∧ T (a + 2) = (strB k).getD 2 0 ∧ T (a + 3) = (strB k).getD 3 0 ∧ T (a + 4) = (strB k).getD 4 0
def clF (D : HP) (a : Nat) : Int × Nat × HP × Nat := if wdK T 0 a (spN isLt T n a) then clS T n D a (spN isLt T n a) else if 0 < D 0 0 ∧ wdK T 1 a (spN isLt T n a) then clH T n D a (spN isLt T n a) else if 0 < D 0 0 ∧ wdK T 2 a (spN isLt T n a) then clW T n D a (spN isLt T n a) else (1, a, D, 0)
def psF : Nat → HP → Nat → Int × Nat × HP
  | 0, D, _ => (0, 0, D)
  | m + 1, D, i => if nA T n i < n then (if (clF T n D (nA T n i)).1 = 0 then psF m (clF T n D (nA T n i)).2.2.1 (clF T n D (nA T n i)).2.2.2 else ((clF T n D (nA T n i)).1, (clF T n D (nA T n i)).2.1, D)) else (0, 0, D)
end PARS
/-- a draft -/
def okD (D : HP) : Prop := okSt (D 0 0) (D 0 1) ∧ 0 ≤ D 0 2 ∧ D 0 2 ≤ 4 * D 0 1 ∧ 0 ≤ D 0 3 ∧ (∀ p : Nat, (p : Int) < D 0 1 → 0 ≤ D 1 p ∧ D 1 p ≤ 99) ∧ (∀ p : Nat, (p : Int) < D 0 2 → 0 ≤ D 2 p ∧ D 2 p < D 0 0 ∧ 0 ≤ D 3 p ∧ D 3 p < D 0 1) ∧ (∀ x : Int, 0 ≤ x → x < D 0 1 → fs (fun q => if D 3 q = x then 1 else 0) 0 (D 0 2).toNat ≤ 4) ∧ (∀ j, j < 30 → -1 ≤ D 4 j ∧ D 4 j ≤ 99) ∧ (0 < D 0 1 → 0 < D 0 0) ∧ D 0 3 ≤ 30
section PR2
variable {T : Nat → Int} {n : Nat}
theorem nA_ge (i : Nat) : i ≤ nA T n i := sp_ge i
theorem nA_le {i : Nat} (h : i ≤ n) : nA T n i ≤ n := sp_le h
theorem nJ_ge (i : Nat) : nA T n i ≤ nJ T n i := sp_ge _
theorem nJ_le {i : Nat} (h : i ≤ n) : nJ T n i ≤ n := sp_le (sp_le h)
theorem nA_nA (i : Nat) : nA T n (nA T n i) = nA T n i := sp_sp i
theorem nJ_nA (i : Nat) : nJ T n (nA T n i) = nJ T n i := by unfold nJ; rw [nA_nA]
theorem nV_nA (i : Nat) : nV T n (nA T n i) = nV T n i := by unfold nV; rw [nA_nA, nJ_nA]
theorem rnK_nA (lo2 hi2 : Int) (i : Nat) : rnK T n lo2 hi2 (nA T n i) = rnK T n lo2 hi2 i := by unfold rnK; rw [nA_nA, nJ_nA, nV_nA]
theorem finF_nA (D : HP) (i : Nat) : finF T n D (nA T n i) = finF T n D i := by unfold finF; rw [nA_nA]
theorem rnK_0 {lo2 hi2 : Int} {i : Nat} (h : rnK T n lo2 hi2 i = 0) : (nA T n i < n ∧ isDg (T (nA T n i)) = true) ∧ nJ T n i - nA T n i ≤ 3 ∧ lo2 ≤ nV T n i ∧ nV T n i ≤ hi2 := by
  unfold rnK at h
  by_cases c : nA T n i < n ∧ isDg (T (nA T n i)) = true
  · rw [if_pos c] at h
    by_cases d : 3 < nJ T n i - nA T n i ∨ nV T n i < lo2 ∨ hi2 < nV T n i
    · rw [if_pos d] at h; omega
    · exact ⟨c, by omega, by omega, by omega⟩
  · rw [if_neg c] at h; omega
theorem rnK_v (lo2 hi2 : Int) (i : Nat) : rnK T n lo2 hi2 i = 0 ∨ rnK T n lo2 hi2 i = 1 ∨ rnK T n lo2 hi2 i = 2 := by
  unfold rnK
  split
  · split <;> simp
  · simp
theorem fin_sp (D : HP) (i : Nat) : ((finF T n D i).1 = 0 ∧ nA T n i < n ∧ T (nA T n i) = 59 ∧ finF T n D i = (0, 0, D, nA T n i + 1)) ∨ ((finF T n D i).1 = 1 ∧ ¬ (nA T n i < n ∧ T (nA T n i) = 59) ∧ finF T n D i = (1, nA T n i, D, 0)) := by
  by_cases c : nA T n i < n ∧ T (nA T n i) = 59
  · have e : finF T n D i = (0, 0, D, nA T n i + 1) := if_pos c
    exact Or.inl ⟨by rw [e], c.1, c.2, e⟩
  · have e : finF T n D i = (1, nA T n i, D, 0) := if_neg c
    exact Or.inr ⟨by rw [e], c, e⟩
theorem isDg_c (x : Int) : isDg x = true ↔ 48 ≤ x ∧ x ≤ 57 := by unfold isDg; simp
theorem isLt_c (x : Int) : isLt x = true ↔ 97 ≤ x ∧ x ≤ 122 := by unfold isLt; simp
theorem isBl_c (x : Int) : isBl x = true ↔ x = 32 := by unfold isBl; simp
theorem nvF_bd (hT : ∀ j, 48 ≤ T j → T j ≤ 57 → True) : ∀ (m i : Nat) (v : Int), (∀ j, i ≤ j → j < i + m → isDg (T j) = true) → 0 ≤ v → 0 ≤ nvF T m i v
  | 0, _, v, _, h => h
  | m + 1, i, v, hd, h => by
    have := (isDg_c (T i)).mp (hd i (by omega) (by omega))
    exact nvF_bd hT m (i + 1) _ (fun j h1 h2 => hd j (by omega) (by omega)) (by omega)
theorem nV_nn (i : Nat) : 0 ≤ nV T n i := nvF_bd (fun _ _ _ => trivial) _ _ _ (fun j h1 h2 => sp_in (n := n) (nA T n i) j h1 (by unfold nJ at h2; omega)) (by decide)
end PR2
