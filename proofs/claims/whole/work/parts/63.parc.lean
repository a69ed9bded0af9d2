/-! ===== PURE: the class reads numbers ===== -/
def RS (T : Nat → Int) (n i : Nat) (h : HP) : Prop := h 12 2 = n ∧ h 12 3 = i ∧ i ≤ n ∧ n ≤ 400 ∧ ∀ j, j < n → h 1 j = T j ∧ 0 ≤ T j ∧ T j ≤ 255
theorem nvF_s (T : Nat → Int) : ∀ (m i : Nat) (v : Int), nvF T (m + 1) i v = nvF T m i v * 10 + T (i + m) - 48
  | 0, i, v => rfl
  | m + 1, i, v => by
    have := nvF_s T m (i + 1) (v * 10 + T i - 48)
    rw [show i + 1 + m = i + (m + 1) from by omega] at this
    exact this
theorem io_bs (P P' : Nat → Bool) (m k : Nat) (hk : k < m) (hm : m ≤ 31) (e : ∀ j, P' j = (P j || decide (k = j))) : io ((bs P m : Nat) : Int) ((2 ^ k : Nat) : Int) = ((bs P' m : Nat) : Int) := by
  have b1 := bs_lt P m
  have b2 : 2 ^ m ≤ 2 ^ 31 := Nat.pow_le_pow_right (by decide) hm
  rw [io_n _ _ (by omega) (two_le (by omega))]
  have : bs P m ||| 2 ^ k = bs P' m := by
    apply Nat.eq_of_testBit_eq
    intro j
    rw [Nat.testBit_or, bs_test, bs_test, Nat.testBit_two_pow, e]
    by_cases c : k = j
    · subst c; simp [hk]
    · simp [c]
  rw [this]
section PC
variable {T : Nat → Int} {n : Nat}
theorem RS.eq {i : Nat} {h h' : HP} (R : RS T n i h) (e2 : h' 12 2 = h 12 2) (e3 : h' 12 3 = h 12 3) (e1 : h' 1 = h 1) : RS T n i h' := by
  unfold RS; rw [e2, e3, e1]; exact R
theorem RS.at {i j : Nat} {h : HP} (R : RS T n i h) (hj : j ≤ n) : RS T n j (hset h 12 3 j) :=
  ⟨by rw [hset_rn (by decide)]; exact R.1, hset_rs, hj, R.2.2.2.1, fun k hk => by rw [hset_c (by decide)]; exact R.2.2.2.2 k hk⟩
theorem RS.self {i : Nat} {h : HP} (R : RS T n i h) : hset h 12 3 (i : Int) = h := by rw [← R.2.1, hset_sf]
theorem C_blL {Q : HP → Prop} : ∀ (m f i : Nat) (h : HP), n - i = m → m < f → RS T n i h → Q (hset h 12 3 (nA T n i : Nat)) → p2_skipBlanks_L0 Q f h := by
  intro m
  induction m with
  | zero =>
    intro f i h hm hf R hq
    obtain ⟨f, rfl⟩ : ∃ n', f = n' + 1 := ⟨f - 1, by omega⟩
    obtain ⟨r1, r2, r3, r4, r5⟩ := id R
    unfold p2_skipBlanks_L0
    rw [r1, r2]
    refine brY ((wle ⟨by omega, by omega⟩ ⟨by omega, by omega⟩).mpr (by omega)) ?_
    rw [show nA T n i = i from sp_N (fun z => absurd z.1 (by omega)), R.self] at hq
    exact hq
  | succ m ih =>
    intro f i h hm hf R hq
    obtain ⟨f, rfl⟩ : ∃ n', f = n' + 1 := ⟨f - 1, by omega⟩
    obtain ⟨r1, r2, r3, r4, r5⟩ := id R
    have t := r5 i (by omega)
    unfold p2_skipBlanks_L0
    rw [r1, r2]
    refine brN (fun z => by have := (wle ⟨by omega, by omega⟩ ⟨by omega, by omega⟩).mp z; omega) ?_
    refine rd_n (by omega) (by decide) ?_
    rw [t.1]
    refine brQ (weq ⟨by omega, by omega⟩ ⟨by omega, by omega⟩) (fun z => pf_i ?_) (fun z => ?_)
    · have c : isBl (T i) = true := (isBl_c _).mpr z
      rw [show (i : Int) + 1 = ((i + 1 : Nat) : Int) from by omega]
      refine ih f (i + 1) _ (by omega) (by omega) (R.at (by omega)) ?_
      rw [hset_ov, ← show nA T n i = nA T n (i + 1) from sp_Y (by omega) c]
      exact hq
    · rw [show nA T n i = i from sp_N (fun q => z ((isBl_c _).mp q.2)), R.self] at hq
      exact hq
theorem C_blanks {Q : HP → Prop} {i : Nat} {h : HP} (R : RS T n i h) (hq : Q (hset h 12 3 (nA T n i : Nat))) : p2_skipBlanks h Q := by
  have h1 := R.2.2.2.1
  have := C_blL (Q := Q) (n - i) (FUEL + 1) i h rfl (by unfold FUEL; omega) R hq
  unfold p2_skipBlanks_L0 at this
  exact this
theorem C_isFig {x : Int} {h : HP} {Q : Int → Prop} (hx : 0 ≤ x) (hx2 : x ≤ 255) (h1 : isDg x = true → Q 1) (h0 : ¬ isDg x = true → Q 0) : p2_isFigure x h Q := by
  unfold p2_isFigure
  refine brQ (wlt ⟨by omega, by omega⟩ ⟨by omega, by omega⟩) (fun z => h0 (fun q => by have := (isDg_c x).mp q; omega)) (fun z => ?_)
  exact brQ (wlt ⟨by omega, by omega⟩ ⟨by omega, by omega⟩) (fun z' => h0 (fun q => by have := (isDg_c x).mp q; omega)) (fun z' => h1 ((isDg_c x).mpr ⟨by omega, by omega⟩))
theorem C_numF {Q : Int → HP → Prop} {i : Nat} {h : HP} (R : RS T n i h) (hy : nA T n i < n → isDg (T (nA T n i)) = true → Q 1 (hset h 12 3 (nA T n i : Nat))) (hn : ¬ (nA T n i < n ∧ isDg (T (nA T n i)) = true) → Q 0 (hset h 12 3 (nA T n i : Nat))) : p2_numberFollows h Q := by
  have R' := R.at (nA_le (T := T) R.2.2.1)
  obtain ⟨r1, r2, r3, r4, r5⟩ := id R'
  unfold p2_numberFollows
  refine C_blanks R ?_
  rw [r1, r2]
  refine brQ (wle ⟨by omega, by omega⟩ ⟨by omega, by omega⟩) (fun z => hn (fun q => by have := q.1; omega)) (fun z => ?_)
  have t := r5 (nA T n i) (by omega)
  refine rd_n (by omega) (by decide) ?_
  rw [t.1]
  exact C_isFig t.2.1 t.2.2 (fun q => brN (by decide) (hy (by omega) q)) (fun q => brY (by decide) (hn (fun z => q z.2)))
theorem C_rnL {E : HP → Int → Prop} {lo2 hi2 : Int} {a : Nat} : ∀ (m f j : Nat) (h : HP) (v : Int), n - j = m → m < f → RS T n j h → a ≤ j → 0 ≤ v → v ≤ 999 → (j - a ≤ 3 → v = nvF T (j - a) a 0) → (j - a = 0 → v = 0) → (j - a ≤ 1 → v ≤ 9) → (j - a ≤ 2 → v ≤ 99) → (∀ v', 0 ≤ v' → v' ≤ 999 → (spN isDg T n j - a ≤ 3 → v' = nvF T (spN isDg T n j - a) a 0) → E (hset h 12 3 (spN isDg T n j : Nat)) v') → p2_readNumber_L26 lo2 hi2 (a : Int) E f h v := by
  intro m
  induction m with
  | zero =>
    intro f j h v hm hf R ha v1 v2 v3 v4 v5 v6 hq
    obtain ⟨f, rfl⟩ : ∃ n', f = n' + 1 := ⟨f - 1, by omega⟩
    obtain ⟨r1, r2, r3, r4, r5⟩ := id R
    unfold p2_readNumber_L26
    rw [r1, r2]
    refine brY ((wle ⟨by omega, by omega⟩ ⟨by omega, by omega⟩).mpr (by omega)) ?_
    have := hq v v1 v2
    rw [show spN isDg T n j = j from sp_N (fun z => absurd z.1 (by omega)), R.self] at this
    exact this v3
  | succ m ih =>
    intro f j h v hm hf R ha v1 v2 v3 v4 v5 v6 hq
    obtain ⟨f, rfl⟩ : ∃ n', f = n' + 1 := ⟨f - 1, by omega⟩
    obtain ⟨r1, r2, r3, r4, r5⟩ := id R
    have t := r5 j (by omega)
    unfold p2_readNumber_L26
    rw [r1, r2]
    refine brN (fun z => by have := (wle ⟨by omega, by omega⟩ ⟨by omega, by omega⟩).mp z; omega) ?_
    refine rd_n (by omega) (by decide) ?_
    rw [t.1]
    refine C_isFig t.2.1 t.2.2 (fun q => brN (by decide) (jn_i ?_)) (fun q => brY (by decide) ?_)
    · have d := (isDg_c _).mp q
      have es : spN isDg T n j = spN isDg T n (j + 1) := sp_Y (by omega) q
      have step : ∀ v', 0 ≤ v' → v' ≤ 999 → (j + 1 - a ≤ 3 → v' = nvF T (j + 1 - a) a 0) → (j + 1 - a ≤ 1 → v' ≤ 9) → (j + 1 - a ≤ 2 → v' ≤ 99) → p2_readNumber_L26 lo2 hi2 (a : Int) E f (hset h 12 3 ((j : Int) + 1)) v' := by
        intro v' w1 w2 w3 w4 w5
        rw [show (j : Int) + 1 = ((j + 1 : Nat) : Int) from by omega]
        refine ih f (j + 1) _ v' (by omega) (by omega) (R.at (by omega)) (by omega) w1 w2 w3 (fun z => by omega) w4 w5 (fun v'' u1 u2 u3 => ?_)
        rw [hset_ov, ← es]
        rw [← es] at u3
        exact hq v'' u1 u2 u3
      refine brQ (wle ⟨by omega, by omega⟩ ⟨by omega, by omega⟩) (fun z => pf_i (step v v1 v2 (fun w => by omega) (fun w => by omega) (fun w => by omega))) (fun z => ?_)
      refine rd_n (by omega) (by decide) ?_
      rw [t.1]
      refine pf_i (step _ ?_ ?_ (fun w => ?_) (fun w => ?_) (fun w => ?_))
      · omega
      · have := v6 (by omega); omega
      · rw [show j + 1 - a = (j - a) + 1 from by omega, nvF_s, ← v3 (by omega), show a + (j - a) = j from by omega]
      · have := v4 (by omega); omega
      · have := v5 (by omega); omega
    · have := hq v v1 v2
      rw [show spN isDg T n j = j from sp_N (fun z => q z.2), R.self] at this
      exact this v3
def fltH (h : HP) (k w : Int) (j : Nat) : HP := if h 12 6 = 0 then hset (hset (hset h 12 3 j) 12 6 k) 12 7 w else hset h 12 3 j
theorem C_fail {Q : HP → Prop} {h : HP} {k w : Int} {j : Nat} (hk : can (h 12 6)) (hq : Q (fltH h k w j)) : p2_fail k w (hset h 12 3 j) Q := by
  unfold p2_fail
  rw [show hset h 12 3 (j : Int) 12 6 = h 12 6 from hset_rn (by decide)]
  unfold fltH at hq
  refine brQ (weq0 hk) (fun z => ?_) (fun z => ?_)
  · rw [if_pos z] at hq; exact hq
  · rw [if_neg z] at hq; exact hq
theorem C_readNumber {Q : Int → HP → Prop} {lo2 hi2 : Int} (hl : can lo2) (hh : can hi2) {i : Nat} {h : HP} (R : RS T n i h) (hk : can (h 12 6)) (ok : rnK T n lo2 hi2 i = 0 → Q (nV T n i) (hset h 12 3 (nJ T n i : Nat))) (bad : rnK T n lo2 hi2 i ≠ 0 → ∀ j, j ≤ n → Q (-1) (fltH h (rnK T n lo2 hi2 i) (nA T n i : Nat) j)) : p2_readNumber lo2 hi2 h Q := by
  have n4 := R.2.2.2.1
  have R' := R.at (nA_le (T := T) R.2.2.1)
  have jl : nJ T n i ≤ n := nJ_le R.2.2.1
  have jg := nJ_ge (T := T) (n := n) i
  unfold p2_readNumber
  refine C_numF R (fun z1 z2 => brN (by decide) ?_) (fun z => brY (by decide) ?_)
  · rw [show hset h 12 3 ((nA T n i : Nat) : Int) 12 3 = ((nA T n i : Nat) : Int) from hset_rs]
    refine C_rnL (a := nA T n i) (n - nA T n i) FUEL (nA T n i) _ 0 rfl (by unfold FUEL; omega) R' (Nat.le_refl _) (by decide) (by decide) (fun _ => by rw [Nat.sub_self]; rfl) (fun _ => rfl) (fun _ => by decide) (fun _ => by decide) (fun v v1 v2 v3 => ?_)
    rw [hset_ov, show spN isDg T n (nA T n i) = nJ T n i from rfl]
    rw [show spN isDg T n (nA T n i) = nJ T n i from rfl] at v3
    have hd : nA T n i < n ∧ isDg (T (nA T n i)) = true := ⟨z1, z2⟩
    have K : rnK T n lo2 hi2 i = 2 → p2_fail 2 (nA T n i : Nat) (hset h 12 3 (nJ T n i : Nat)) fun h14 => Q (-1) h14 := fun e => C_fail hk (by have := bad (by omega) (nJ T n i) jl; rw [e] at this; exact this)
    rw [show hset h 12 3 ((nJ T n i : Nat) : Int) 12 3 = ((nJ T n i : Nat) : Int) from hset_rs]
    have rk : ∀ c : 3 < nJ T n i - nA T n i ∨ nV T n i < lo2 ∨ hi2 < nV T n i, rnK T n lo2 hi2 i = 2 := fun c => by unfold rnK; rw [if_pos hd, if_pos c]
    refine jn_i ?_
    refine brQ (wlt ⟨by omega, by omega⟩ ⟨by omega, by omega⟩) (fun y => K (rk (Or.inl (by omega)))) (fun y => ?_)
    have ev : v = nV T n i := v3 (by omega)
    refine brQ (wlt ⟨by omega, by omega⟩ hl) (fun y2 => K (rk (Or.inr (Or.inl (by omega))))) (fun y2 => ?_)
    refine brQ (wle ⟨by omega, by omega⟩ hh) (fun y3 => ?_) (fun y3 => K (rk (Or.inr (Or.inr (by omega)))))
    rw [ev]
    exact ok (by unfold rnK; rw [if_pos hd, if_neg (by omega)])
  · rw [show hset h 12 3 ((nA T n i : Nat) : Int) 12 3 = ((nA T n i : Nat) : Int) from hset_rs]
    have e : rnK T n lo2 hi2 i = 1 := by unfold rnK; rw [if_neg z]
    refine C_fail hk ?_
    have := bad (by omega) (nA T n i) (nA_le R.2.2.1)
    rw [e] at this
    exact this
theorem C_readEnd {Q : Int → HP → Prop} {i : Nat} {h : HP} (R : RS T n i h) (hk : can (h 12 6)) (ok : nA T n i < n → T (nA T n i) = 59 → brc (w32 (h 12 6) = 0) (Q 1 (hset h 12 3 (nA T n i + 1 : Nat))) (Q 0 (hset h 12 3 (nA T n i + 1 : Nat)))) (bad : ¬ (nA T n i < n ∧ T (nA T n i) = 59) → brc (w32 (fltH h 1 (nA T n i : Nat) (nA T n i) 12 6) = 0) (Q 1 (fltH h 1 (nA T n i : Nat) (nA T n i))) (Q 0 (fltH h 1 (nA T n i : Nat) (nA T n i)))) : p2_readEnd h Q := by
  have R' := R.at (nA_le (T := T) R.2.2.1)
  obtain ⟨r1, r2, r3, r4, r5⟩ := id R'
  unfold p2_readEnd
  refine C_blanks R ?_
  rw [r1, r2]
  refine jn_i (jn_i ?_)
  refine brQ (wle ⟨by omega, by omega⟩ ⟨by omega, by omega⟩) (fun z => C_fail hk (bad (fun q => by have := q.1; omega))) (fun z => ?_)
  have t := r5 (nA T n i) (by omega)
  refine rd_n (by omega) (by decide) ?_
  rw [t.1]
  refine brQ (weq ⟨by omega, by omega⟩ ⟨by omega, by omega⟩) (fun q => pf_i ?_) (fun q => C_fail hk (bad (fun z => q z.2)))
  rw [hset_ov, show ((nA T n i : Nat) : Int) + 1 = ((nA T n i + 1 : Nat) : Int) from by omega]
  rw [show hset h 12 3 ((nA T n i + 1 : Nat) : Int) 12 6 = h 12 6 from hset_rn (by decide)]
  exact ok (by omega) q
/-- a fault is there -/
def FB (T : Nat → Int) (n : Nat) (h0 : HP) (k w : Int) (g : HP) : Prop := (∀ c, c < 7 ∨ 12 < c → g c = h0 c) ∧ (∃ i, RS T n i g) ∧ g 12 6 = k ∧ g 12 7 = w
theorem FB.at {h0 g : HP} {k w : Int} {j : Nat} (F : FB T n h0 k w g) (hj : j ≤ n) : FB T n h0 k w (hset g 12 3 j) := by
  obtain ⟨f1, ⟨i, f2⟩, f3, f4⟩ := F
  exact ⟨fun c hc => by rw [hset_c (by omega)]; exact f1 c hc, ⟨j, f2.at hj⟩, by rw [hset_rn (by decide)]; exact f3, by rw [hset_rn (by decide)]; exact f4⟩
theorem FB.new {h0 h : HP} {k w : Int} {i j : Nat} (f : ∀ c, c < 7 ∨ 12 < c → h c = h0 c) (R : RS T n i h) (hj : j ≤ n) (h6 : h 12 6 = 0) : FB T n h0 k w (fltH h k w j) := by
  unfold fltH
  rw [if_pos h6]
  refine ⟨fun c hc => by rw [hset_c (by omega), hset_c (by omega), hset_c (by omega)]; exact f c hc, ⟨j, (R.at hj).eq ?_ ?_ ?_⟩, ?_, ?_⟩
  · rw [hset_rn (by decide), hset_rn (by decide)]
  · rw [hset_rn (by decide), hset_rn (by decide)]
  · rw [hset_c (by decide), hset_c (by decide)]
  · rw [hset_rn (by decide), hset_rs]
  · rw [hset_rs]
theorem F_blanks {Q : HP → Prop} {h0 g : HP} {k w : Int} (F : FB T n h0 k w g) (hq : ∀ g', FB T n h0 k w g' → Q g') : p2_skipBlanks g Q := by
  obtain ⟨i, R⟩ := F.2.1
  exact C_blanks R (hq _ (F.at (nA_le R.2.2.1)))
theorem F_readNumber {Q : Int → HP → Prop} {lo2 hi2 : Int} (hl : can lo2) (hh : can hi2) {h0 g : HP} {k w : Int} (hk : 0 < k) (hk2 : k ≤ 4) (F : FB T n h0 k w g) (hq : ∀ r g', FB T n h0 k w g' → Q r g') : p2_readNumber lo2 hi2 g Q := by
  obtain ⟨i, R⟩ := F.2.1
  have f6 := F.2.2.1
  refine C_readNumber hl hh R ⟨by omega, by omega⟩ (fun _ => hq _ _ (F.at (nJ_le R.2.2.1))) (fun _ j hj => ?_)
  unfold fltH
  rw [if_neg (by omega)]
  exact hq _ _ (F.at hj)
theorem F_readEnd {Q : Int → HP → Prop} {h0 g : HP} {k w : Int} (hk : 0 < k) (hk2 : k ≤ 4) (F : FB T n h0 k w g) (hq : ∀ g', FB T n h0 k w g' → Q 0 g') : p2_readEnd g Q := by
  obtain ⟨i, R⟩ := F.2.1
  have f6 := F.2.2.1
  have nl : nA T n i ≤ n := nA_le R.2.2.1
  refine C_readEnd R ⟨by omega, by omega⟩ (fun z _ => brN (fun q => by have := (weq0 ⟨by omega, by omega⟩).mp q; omega) (hq _ (F.at (by omega)))) (fun z => ?_)
  have e : fltH g 1 ((nA T n i : Nat) : Int) (nA T n i) = hset g 12 3 (nA T n i : Nat) := by unfold fltH; rw [if_neg (by omega)]
  rw [e, show hset g 12 3 ((nA T n i : Nat) : Int) 12 6 = g 12 6 from hset_rn (by decide)]
  exact brN (fun q => by have := (weq0 ⟨by omega, by omega⟩).mp q; omega) (hq _ (F.at nl))
theorem C_end {Q : Int → HP → Prop} {h0 h : HP} {i : Nat} (f : ∀ c, c < 7 ∨ 12 < c → h c = h0 c) (R : RS T n i h) (h6 : h 12 6 = 0) (ok : nA T n i < n → T (nA T n i) = 59 → Q 1 (hset h 12 3 (nA T n i + 1 : Nat))) (bad : ¬ (nA T n i < n ∧ T (nA T n i) = 59) → ∀ g, FB T n h0 1 (nA T n i : Nat) g → Q 0 g) : p2_readEnd h Q := by
  refine C_readEnd R ⟨by omega, by omega⟩ (fun z1 z2 => brY ((weq0 ⟨by omega, by omega⟩).mpr h6) (ok z1 z2)) (fun z => ?_)
  have F := FB.new (k := 1) (w := ((nA T n i : Nat) : Int)) f R (nA_le (T := T) R.2.2.1) h6
  exact brN (fun q => by have e := F.2.2.1; have := (weq0 ⟨by omega, by omega⟩).mp q; omega) (bad z _ F)
theorem C_num {Q : Int → HP → Prop} {lo2 hi2 : Int} (hl : can lo2) (hh : can hi2) {h0 h : HP} {i : Nat} (f : ∀ c, c < 7 ∨ 12 < c → h c = h0 c) (R : RS T n i h) (h6 : h 12 6 = 0) (ok : rnK T n lo2 hi2 i = 0 → Q (nV T n i) (hset h 12 3 (nJ T n i : Nat))) (bad : rnK T n lo2 hi2 i ≠ 0 → ∀ g, FB T n h0 (rnK T n lo2 hi2 i) (nA T n i : Nat) g → Q (-1) g) : p2_readNumber lo2 hi2 h Q :=
  C_readNumber hl hh R ⟨by omega, by omega⟩ ok (fun z j hj => bad z _ (FB.new f R hj h6))
theorem C_num7 {Q : Int → HP → Prop} {lo2 hi2 : Int} (hl : can lo2) (hh : can hi2) {h0 h : HP} {i : Nat} (f : ∀ c, c < 7 ∨ 12 < c → h c = h0 c) (R : RS T n i h) (h6 : h 12 6 = 0) (ok : rnK T n lo2 hi2 i = 0 → Q (nV T n i) (hset h 12 3 (nJ T n i : Nat))) (bad : rnK T n lo2 hi2 i ≠ 0 → ∀ g, g 7 = h 7 → FB T n h0 (rnK T n lo2 hi2 i) (nA T n i : Nat) g → Q (-1) g) : p2_readNumber lo2 hi2 h Q :=
  C_readNumber hl hh R ⟨by omega, by omega⟩ ok (fun z j hj => bad z _ (by unfold fltH; rw [if_pos h6, hset_c (by decide), hset_c (by decide), hset_c (by decide)]) (FB.new f R hj h6))
end PC
