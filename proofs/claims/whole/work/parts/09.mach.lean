/-! ===== the world that a heap of whole numbers stands for ===== -/
def fv (ad : Nat → Nat) (h : HP) (k j r : Nat) : Value := match r with
  | 0 => .int (Int32.ofInt (h k j))
  | 1 => .long (Int64.ofInt (h k j))
  | r + 2 => .ref (ad r)
def cellE (ad : Nat → Nat) (cA : Nat → ClassId) (h : HP) (k : Nat) : va_E := match SHL[k]? with
  | some (.inl (ci, fs)) => .inr (ci, fs.mapIdx (fun j r => fv ad h k j r))
  | some (.inr (t, n, rs)) => .inl (cA t, n, if t = 3 then .inr (.inr (.inr (.inr (fun j => (rs[j]?).map ad)))) else .inl (fun j => Int32.ofInt (h k j)))
  | none => .inr (0, [])
def wl (ad : Nat → Nat) (cA : Nat → ClassId) (h : HP) : va_W := (List.range SHL.length).map (fun k => (ad k, cellE ad cA h k))
theorem wl_at {ad : Nat → Nat} {cA : Nat → ClassId} {h : HP} {k : Nat} (hk : k < SHL.length) : (wl ad cA h)[k]? = some (ad k, cellE ad cA h k) := by
  unfold wl
  rw [List.getElem?_map, List.getElem?_range hk]
  rfl
theorem wl_lt {k : Nat} {x : (Nat × List Nat) ⊕ (Nat × Nat × List Nat)} (hs : SHL[k]? = some x) : k < SHL.length := (List.getElem?_eq_some_iff.mp hs).1
theorem cellE_congr {ad : Nat → Nat} {cA : Nat → ClassId} {h h' : HP} {k : Nat} (e : ∀ j, h k j = h' k j) : cellE ad cA h k = cellE ad cA h' k := by
  unfold cellE fv
  simp only [e]
theorem wl_set {ad : Nat → Nat} {cA : Nat → ClassId} {h h' : HP} {k : Nat} {e : va_E} (he : cellE ad cA h' k = e) (ho : ∀ c j, c ≠ k → h' c j = h c j) : (wl ad cA h).set k (ad k, e) = wl ad cA h' := by
  apply List.ext_getElem?
  intro i
  by_cases hl : i < SHL.length
  · rw [wl_at hl, List.getElem?_set]
    by_cases hi : k = i
    · subst hi
      rw [if_pos rfl, if_pos (by unfold wl; simpa using hl), he]
    · rw [if_neg hi, wl_at hl, cellE_congr (h := h') (h' := h) (fun j => ho i j (fun q => hi q.symm))]
  · have h1 : ¬ i < (wl ad cA h').length := by unfold wl; simpa using hl
    have h2 : ¬ i < ((wl ad cA h).set k (ad k, e)).length := by unfold wl; simpa using hl
    rw [List.getElem?_eq_none (Nat.not_lt.mp h1), List.getElem?_eq_none (Nat.not_lt.mp h2)]
theorem wl_D {A : Nat → Prop} {ad : Nat → Nat} {cA : Nat → ClassId} {h h' : HP} (hD : va_D A (wl ad cA h)) : va_D A (wl ad cA h') := by
  have key : ∀ (k : Nat) (q : Nat × va_E), (wl ad cA h')[k]? = some q → ∃ q0, (wl ad cA h)[k]? = some q0 ∧ q0.1 = q.1 := by
    intro k q hk
    have hl : k < SHL.length := by
      have := (List.getElem?_eq_some_iff.mp hk).1
      unfold wl at this
      simpa using this
    rw [wl_at hl] at hk
    cases hk
    exact ⟨_, wl_at hl, rfl⟩
  refine ⟨fun i j x y hi hj hxy => ?_, fun k q hk => ?_⟩
  · obtain ⟨x0, h1, h2⟩ := key i x hi
    obtain ⟨y0, h3, h4⟩ := key j y hj
    exact hD.1 i j x0 y0 h1 h3 (by rw [h2, h4]; exact hxy)
  · obtain ⟨q0, h1, h2⟩ := key k q hk
    rw [← h2]
    exact hD.2 k q0 h1
theorem wl_A {ad : Nat → Nat} {cA : Nat → ClassId} {h h' : HP} {sz q : Nat} (hq : va_A (wl ad cA h) sz q) : va_A (wl ad cA h') sz q := by
  rcases hq with ⟨k, e, hk⟩ | hq
  · have hl : k < SHL.length := by
      have := (List.getElem?_eq_some_iff.mp hk).1
      unfold wl at this
      simpa using this
    rw [wl_at hl] at hk
    cases hk
    exact Or.inl ⟨k, _, wl_at hl⟩
  · exact Or.inr hq
def tysA (cA : Nat → ClassId) : List (ClassId × FieldType) := [(cA 0, .int), (cA 1, .char), (cA 2, .boolean), (cA 3, .object "CastOffs$Stock")]
def isNest : Cond → Bool
  | .fieldLinkNest _ _ _ _ _ _ => true
  | .methodLinkNest _ _ _ _ => true
  | _ => false
def cs_TG : List Cond := lw_tbl.filter goodWord
def cs_NW : List Cond := lw_tbl.filter isNest
theorem nw_warm {s U : State} (hW : s.WarmedH U.vm) (h : ∀ w ∈ cs_NW, va_Nw w s) : ∀ w ∈ cs_NW, va_Nw w U := by
  intro w hw
  have h1 := h w hw
  have h2 := (List.mem_filter.mp hw).2
  cases w <;> first | exact va_Nw.warmF hW h1 | exact va_Nw.warmM hW h1 | (exact absurd h2 (by simp [isNest]))
theorem nw_same {s U : State} (hv : s.vm = U.vm) (h : ∀ w ∈ cs_NW, va_Nw w s) : ∀ w ∈ cs_NW, va_Nw w U := by
  intro w hw
  have h1 := h w hw
  have h2 := (List.mem_filter.mp hw).2
  cases w <;> first | exact va_Nw.same rfl hv h1 | (exact absurd h2 (by simp [isNest]))
/-- the String constants, two statics of the JDK -/
def cs_EX (ad : Nat → Nat) (A : Nat → Prop) (U : State) (H : Heap) : Prop :=
  (vk_R "CastOffs$Reader" 55 "sorts" (ad 1000) U ∧ vk_R "CastOffs$Reader" 67 "house" (ad 1001) U ∧ vk_R "CastOffs$Reader" 72 "worth" (ad 1002) U) ∧
  vk_S 3 [5, 5, 5] [[115, 111, 114, 116, 115], [104, 111, 117, 115, 101], [119, 111, 114, 116, 104]] (fun i => ad (1000 + i)) (fun i => ad (1010 + i)) A U H ∧
  va_Z "java/lang/String" "COMPACT_STRINGS" "Z" (.int 1) A U H ∧ va_Zq "jdk/internal/util/Preconditions" "SIOOBE_FORMATTER" "Ljava/util/function/BiFunction;" A U H
theorem cs_EX.to {ad : Nat → Nat} {A B : Nat → Prop} {s U : State} {H H1 : Heap} (h : cs_EX ad A s H) (hW : s.WarmedH U.vm) (hq : ∀ a : Nat, a < H.size → ¬ A a → H1[a]? = H[a]?) (hAB : ∀ q, B q → A q) : cs_EX ad B U H1 := by
  obtain ⟨⟨a1, a2, a3⟩, b, c, d⟩ := h
  exact ⟨⟨a1.warm hW, a2.warm hW, a3.warm hW⟩, ((b.kept hq).narrow hAB).moved hW.alike, ((c.kept hq).narrow hAB).moved hW.alike, ((d.kept hq).narrow hAB).moved hW.alike⟩
theorem cs_EX.blind {ad : Nat → Nat} {A : Nat → Prop} {s U : State} {H : Heap} (h : cs_EX ad A s H) (hv : U.vm = s.vm) (ha : s.vm.Alike U.vm) : cs_EX ad A U H := by
  obtain ⟨⟨a1, a2, a3⟩, b, c, d⟩ := h
  exact ⟨⟨a1.same hv, a2.same hv, a3.same hv⟩, b.moved ha, c.moved ha, d.moved ha⟩
/-! ===== the locals: a list of places ===== -/
def cs_LS (ad : Nat → Nat) (ls : List (Option AV)) (arr : Array Slot) (nL : Nat) : Prop := arr.size = nL ∧ lv_wf arr ∧ ∀ (i : Nat) (v : AV), ls[i]? = some (some v) → arr[i]? = some (.val (cv ad v))
def lvl (ad : Nat → Nat) (ls : List (Option AV)) : List (Nat × Value) := (List.range ls.length).filterMap (fun i => match ls[i]? with
  | some (some v) => some (i, cv ad v)
  | _ => none)
theorem lvl_mem {ad : Nat → Nat} {ls : List (Option AV)} {q : Nat × Value} : q ∈ lvl ad ls ↔ ∃ v, ls[q.1]? = some (some v) ∧ q.2 = cv ad v := by
  unfold lvl
  rw [List.mem_filterMap]
  constructor
  · rintro ⟨i, -, h⟩
    split at h
    next v hv => cases h; exact ⟨v, hv, rfl⟩
    next => cases h
  · rintro ⟨v, h1, h2⟩
    refine ⟨q.1, List.mem_range.mpr (List.getElem?_eq_some_iff.mp h1).1, ?_⟩
    rw [h1]
    show some (q.1, cv ad v) = some q
    rw [← h2]
theorem cs_LS.has {ad : Nat → Nat} {ls : List (Option AV)} {arr : Array Slot} {nL : Nat} (h : cs_LS ad ls arr nL) : lv_has arr nL (lvl ad ls) := by
  refine ⟨h.1, h.2.1, fun q hq => ?_⟩
  obtain ⟨v, h1, h2⟩ := lvl_mem.mp hq
  rw [h2]
  exact h.2.2 q.1 v h1
def isL : Option AV → Bool
  | some (.inr (.inl _)) => true
  | _ => false
theorem cv_cat {ad : Nat → Nat} {v : AV} (h : (cv ad v).category = 2) : isL (some v) = true := by
  rcases v with x | x | x
  · cases h
  · rfl
  · cases h
/-- what a store of one slot leaves -/
theorem cs_LS.st1 {ad : Nat → Nat} {ls : List (Option AV)} {arr' : Array Slot} {nL i : Nat} {v : AV} (hn : ∀ j, j + 1 = i → isL ((ls[j]?).getD none) = false)
    (h : lv_has arr' nL ((i, cv ad v) :: (lvl ad ls).filter (fun q => !(q.1 == i) && !(q.1 + 1 == i && q.2.category == 2)))) : cs_LS ad (ls.set i (some v)) arr' nL := by
  refine ⟨h.1, h.2.1, fun j u hj => ?_⟩
  rw [List.getElem?_set] at hj
  by_cases hij : i = j
  · subst hij
    rw [if_pos rfl] at hj
    split at hj
    · cases hj; exact h.2.2 (i, cv ad v) List.mem_cons_self
    · cases hj
  · rw [if_neg hij] at hj
    refine h.2.2 (j, cv ad u) (List.mem_cons_of_mem _ (List.mem_filter.mpr ⟨lvl_mem.mpr ⟨u, hj, rfl⟩, ?_⟩))
    simp only [Bool.and_eq_true, Bool.not_eq_true', beq_eq_false_iff_ne, ne_eq, Bool.and_eq_false_iff]
    refine ⟨fun q => hij q.symm, ?_⟩
    by_cases hc : (cv ad u).category = 2
    · left
      intro hji
      have := hn j hji
      rw [hj] at this
      have h2 := cv_cat hc
      simp only [Option.getD_some] at this
      rw [this] at h2
      cases h2
    · right; exact hc
theorem cs_LS.st2 {ad : Nat → Nat} {ls : List (Option AV)} {arr' : Array Slot} {nL i : Nat} {v : AV} (hn : ∀ j, j + 1 = i → isL ((ls[j]?).getD none) = false)
    (h : lv_has arr' nL ((i, cv ad v) :: (lvl ad ls).filter (fun q => !(q.1 == i) && (!(q.1 == i + 1) && !(q.1 + 1 == i && q.2.category == 2))))) : cs_LS ad ((ls.set i (some v)).set (i + 1) none) arr' nL := by
  refine ⟨h.1, h.2.1, fun j u hj => ?_⟩
  rw [List.getElem?_set] at hj
  by_cases hij1 : i + 1 = j
  · subst hij1
    rw [if_pos rfl] at hj
    split at hj
    · cases hj
    · cases hj
  rw [if_neg hij1, List.getElem?_set] at hj
  by_cases hij : i = j
  · subst hij
    rw [if_pos rfl] at hj
    split at hj
    · cases hj; exact h.2.2 (i, cv ad v) List.mem_cons_self
    · cases hj
  · rw [if_neg hij] at hj
    refine h.2.2 (j, cv ad u) (List.mem_cons_of_mem _ (List.mem_filter.mpr ⟨lvl_mem.mpr ⟨u, hj, rfl⟩, ?_⟩))
    simp only [Bool.and_eq_true, Bool.not_eq_true', beq_eq_false_iff_ne, ne_eq, Bool.and_eq_false_iff]
    refine ⟨fun q => hij q.symm, fun q => hij1 q.symm, ?_⟩
    by_cases hc : (cv ad u).category = 2
    · left
      intro hji
      have := hn j hji
      rw [hj] at this
      have h2 := cv_cat hc
      simp only [Option.getD_some] at this
      rw [this] at h2
      cases h2
    · right; exact hc
/-- fewer locals: those that are marked -/
def msk : List Bool → List (Option AV) → List (Option AV)
  | true :: bs, x :: ls => x :: msk bs ls
  | false :: bs, _ :: ls => none :: msk bs ls
  | [], ls => ls
  | _, [] => []
theorem msk_at : ∀ (bs : List Bool) (ls : List (Option AV)) (i : Nat) (v : AV), (msk bs ls)[i]? = some (some v) → ls[i]? = some (some v)
  | [], ls, i, v, h => by simpa [msk] using h
  | _ :: _, [], i, v, h => by cases ‹Bool› <;> simp [msk] at h
  | true :: bs, x :: ls, 0, v, h => by simpa [msk] using h
  | false :: bs, x :: ls, 0, v, h => by simp [msk] at h
  | true :: bs, x :: ls, i + 1, v, h => by
    simp only [msk, List.getElem?_cons_succ] at h ⊢
    exact msk_at bs ls i v h
  | false :: bs, x :: ls, i + 1, v, h => by
    simp only [msk, List.getElem?_cons_succ] at h ⊢
    exact msk_at bs ls i v h
/-- the places with which a method begins -/
def entL : List AV → List (Option AV)
  | [] => []
  | .inr (.inl x) :: r => some (vL x) :: none :: entL r
  | v :: r => some v :: entL r
theorem entL_args (ad : Nat → Nat) : ∀ (as : List AV) (b i : Nat) (v : AV), (entL as)[i]? = some (some v) → (b + i, cv ad v) ∈ lv_args b (as.map (cv ad))
  | [], b, i, v, h => by simp [entL] at h
  | .inl x :: r, b, i, v, h => by
    simp only [List.map_cons, lv_args]
    cases i with
    | zero =>
      simp only [entL, List.getElem?_cons_zero] at h
      cases h
      exact List.mem_cons_self
    | succ i =>
      simp only [entL, List.getElem?_cons_succ] at h
      have := entL_args ad r (b + 1) i v h
      refine List.mem_cons_of_mem _ ?_
      rw [if_neg (by intro q; cases q)]
      rw [show b + (i + 1) = b + 1 + i from by omega]
      exact this
  | .inr (.inr x) :: r, b, i, v, h => by
    simp only [List.map_cons, lv_args]
    cases i with
    | zero =>
      simp only [entL, List.getElem?_cons_zero] at h
      cases h
      exact List.mem_cons_self
    | succ i =>
      simp only [entL, List.getElem?_cons_succ] at h
      have := entL_args ad r (b + 1) i v h
      refine List.mem_cons_of_mem _ ?_
      rw [if_neg (by intro q; cases q)]
      rw [show b + (i + 1) = b + 1 + i from by omega]
      exact this
  | .inr (.inl x) :: r, b, i, v, h => by
    simp only [List.map_cons, lv_args]
    match i, h with
    | 0, h =>
      simp only [entL, List.getElem?_cons_zero] at h
      cases h
      exact List.mem_cons_self
    | 1, h =>
      simp [entL] at h
    | i + 2, h =>
      simp only [entL, List.getElem?_cons_succ] at h
      have := entL_args ad r (b + 2) i v h
      refine List.mem_cons_of_mem _ ?_
      rw [if_pos (by rfl)]
      rw [show b + (i + 2) = b + 2 + i from by omega]
      exact this
theorem entL_len (ad : Nat → Nat) : ∀ as : List AV, (lg_sl (as.map (cv ad))).length = (entL as).length
  | [] => rfl
  | .inl x :: r => by
    have := entL_len ad r
    simp only [lg_sl, List.map_cons, List.flatMap_cons, entL, List.length_append, List.length_cons] at this ⊢
    rw [this, if_neg (by intro q; cases q)]
    simp; omega
  | .inr (.inr x) :: r => by
    have := entL_len ad r
    simp only [lg_sl, List.map_cons, List.flatMap_cons, entL, List.length_append, List.length_cons] at this ⊢
    rw [this, if_neg (by intro q; cases q)]
    simp; omega
  | .inr (.inl x) :: r => by
    have := entL_len ad r
    simp only [lg_sl, List.map_cons, List.flatMap_cons, entL, List.length_append, List.length_cons] at this ⊢
    rw [this, if_pos (by rfl)]
    simp; omega
