/-! ===== PURE: who is first ===== -/
theorem jn_h {α : Sort _} {K : α} {B : α → Prop} (P : α → Prop) (hK : P K) (hB : ∀ K', P K' → B K') : jn K B := hB K hK
abbrev betV (V : HP) (W P : Nat → Int) (a : Int) (p : Nat) (b x : Nat) : Prop := ab (P x - a) < ab (P b - a) ∨ (ab (P x - a) = ab (P b - a) ∧ gV V W b (V 1 p) < gV V W x (V 1 p))
def ftF (V : HP) (W P : Nat → Int) (a : Int) (p : Nat) : Nat → Int → Nat → Int
  | 0, b, _ => b
  | m + 1, b, x => if (mayT V x p ∧ 0 < gV V W x (V 1 p)) ∧ (b < 0 ∨ betV V W P a p b.toNat x) then ftF V W P a p m x (x + 1) else ftF V W P a p m b (x + 1)
section FT
theorem ftF_Y {V : HP} {W P : Nat → Int} {a : Int} {p m x : Nat} {b : Int} (c : (mayT V x p ∧ 0 < gV V W x (V 1 p)) ∧ (b < 0 ∨ betV V W P a p b.toNat x)) : ftF V W P a p (m + 1) b x = ftF V W P a p m x (x + 1) := if_pos c
theorem ftF_N {V : HP} {W P : Nat → Int} {a : Int} {p m x : Nat} {b : Int} (c : ¬ ((mayT V x p ∧ 0 < gV V W x (V 1 p)) ∧ (b < 0 ∨ betV V W P a p b.toNat x))) : ftF V W P a p (m + 1) b x = ftF V W P a p m b (x + 1) := if_neg c
theorem ab_bd {x : Int} (h1 : -100 ≤ x) (h2 : x ≤ 100) : 0 ≤ ab x ∧ ab x ≤ 100 := by
  unfold ab
  rw [w_id (by omega) (by omega)]
  split <;> omega
variable {h : HP} {Q : Int → Prop}
theorem C_firstAt {b : Nat} (hI : SI b h) (hW : okW (h 6)) {p : Nat} (hp : (p : Int) < h b 1) {a : Int} (ha : 0 ≤ a ∧ a ≤ 99) (hP : ∀ x : Nat, (x : Int) < h 2 1 → 0 ≤ h 3 x ∧ h 3 x ≤ 99) : ∀ (m f x : Nat) (o ne gr : Int), m < f → (x : Int) + m = h 2 1 → (o = -1 ∨ ∃ y : Nat, y < x ∧ o = y ∧ ne = ab (h 3 y - a) ∧ gr = gV (VC b h) (h 6) y (VC b h 1 p)) → Q (ftF (VC b h) (h 6) (h 3) a p m o x) → p5_firstAt_L41 b p a h Q f o ne gr x := by
  obtain ⟨a1, a2, a3, a4⟩ := id hI.1
  obtain ⟨q1, q2, q3, _⟩ := hI.part hp
  obtain ⟨k, ek⟩ := Int.eq_ofNat_of_zero_le q2
  have ek' : VC b h 1 p = k := ek
  intro m
  induction m with
  | zero =>
    intro f x o ne gr hf hk _ hq
    obtain ⟨f, rfl⟩ : ∃ n', f = n' + 1 := ⟨f - 1, by omega⟩
    unfold p5_firstAt_L41
    exact brY ((wle ⟨by omega, by omega⟩ ⟨by omega, by omega⟩).mpr (by omega)) hq
  | succ m ih =>
    intro f x o ne gr hf hk ho hq
    obtain ⟨f, rfl⟩ : ∃ n', f = n' + 1 := ⟨f - 1, by omega⟩
    unfold p5_firstAt_L41
    refine brN (fun z => by have := (wle ⟨by omega, by omega⟩ ⟨by omega, by omega⟩).mp z; omega) ?_
    refine rd_n q1 (by decide) ?_
    have gb := gV_bd (V := VC b h) hW hI.1 (show (0 : Int) ≤ x by omega) (show (x : Int) < h 2 1 by omega) q2 q3
    have px := hP x (by omega)
    have ax := ab_bd (x := h 3 x - a) (by omega) (by omega)
    rw [ek] at gb q3
    rw [ek]
    refine C_gainOf hI (by omega) (by omega) ?_
    refine rd_n (by omega) (by decide) ?_
    have skip : ¬ ((mayT (VC b h) x p ∧ 0 < gV (VC b h) (h 6) x (VC b h 1 p)) ∧ (o < 0 ∨ betV (VC b h) (h 6) (h 3) a p o.toNat x)) → p5_firstAt_L41 b p a h Q f o ne gr (x + 1) := fun c => by
      refine ih f (x + 1) o ne gr (by omega) (by omega) ?_ (by rw [ftF_N c] at hq; exact hq)
      rcases ho with q | ⟨y, h1, h2⟩
      · exact Or.inl q
      · exact Or.inr ⟨y, by omega, h2⟩
    refine jn_h (fun K => ∀ y : Int, (y = 1 ∧ (o < 0 ∨ betV (VC b h) (h 6) (h 3) a p o.toNat x)) ∨ (y = 0 ∧ ¬ (o < 0 ∨ betV (VC b h) (h 6) (h 3) a p o.toNat x)) → K y) (fun y hy => ?_) (fun K hK => jn_i ?_)
    · refine brQ (wle0 ⟨by omega, by omega⟩) (fun z => skip (fun w => by have := w.1.2; rw [ek'] at this; omega)) (fun z => ?_)
      refine C_mayTake hI (by omega) hp (fun w => brN (by decide) ?_) (fun w => brY (by decide) (skip (fun u => w u.1.1)))
      rcases hy with ⟨rfl, hb⟩ | ⟨rfl, hb⟩
      · refine brN (by decide) ?_
        refine ih f (x + 1) x _ _ (by omega) (by omega) (Or.inr ⟨x, by omega, rfl, rfl, by rw [ek']⟩) ?_
        rw [ftF_Y ⟨⟨w, by rw [ek']; omega⟩, hb⟩] at hq
        exact hq
      · exact brY (by decide) (skip (fun u => hb u.2))
    · rcases ho with rfl | ⟨y, h1, rfl, rfl, rfl⟩
      · exact brY (by decide) (hK 1 (Or.inl ⟨rfl, Or.inl (by decide)⟩))
      · have py := hP y (by omega)
        have ay := ab_bd (x := h 3 y - a) (by omega) (by omega)
        have gb2 := gV_bd (V := VC b h) hW hI.1 (show (0 : Int) ≤ y by omega) (show (y : Int) < h 2 1 by omega) q2 (by rw [ek]; exact q3)
        have gb3 : 0 ≤ gV (VC b h) (h 6) y (VC b h 1 p) ∧ gV (VC b h) (h 6) y (VC b h 1 p) ≤ 99 := gb2
        refine brN (by rw [weq ⟨by omega, by omega⟩ ⟨by omega, by omega⟩]; omega) ?_
        have tn : ((y : Int)).toNat = y := rfl
        refine brQ (wlt ⟨by omega, by omega⟩ ⟨by omega, by omega⟩) (fun z => hK 1 (Or.inl ⟨rfl, Or.inr (Or.inl z)⟩)) (fun z => jn_i ?_)
        refine brQ (weq ⟨by omega, by omega⟩ ⟨by omega, by omega⟩) (fun w => ?_) (fun w => hK 0 (Or.inr ⟨rfl, fun u => ?_⟩))
        · refine brQ (wle ⟨by omega, by omega⟩ ⟨by omega, by omega⟩) (fun v => hK 0 (Or.inr ⟨rfl, fun u => ?_⟩)) (fun v => hK 1 (Or.inl ⟨rfl, Or.inr (Or.inr ⟨w, ?_⟩)⟩))
          · rcases u with u | u | u
            · omega
            · exact z u
            · have := u.2; rw [tn] at this; rw [ek'] at this v; omega
          · rw [tn]; rw [ek'] at v ⊢; omega
        · rcases u with u | u | u
          · omega
          · exact z u
          · exact w u.1
theorem M_size {x : Int} (hq : Q (ab x)) : p8_size x h Q := by
  unfold p8_size
  unfold ab at hq
  refine brS (fun z => by rw [if_pos z] at hq; exact hq) (fun z => by rw [if_neg z] at hq; exact hq)
theorem M_firstAt (hI : MI h) (hW : okW (h 71)) {p : Nat} (hp : (p : Int) < h 69 7) {a : Int} (ha : 0 ≤ a ∧ a ≤ 99) (hP : ∀ x : Nat, (x : Int) < h 69 1 → 0 ≤ h 70 x ∧ h 70 x ≤ 99) : ∀ (m f x : Nat) (o : Int), m < f → (x : Int) + m = h 69 1 → (o = -1 ∨ ∃ y : Nat, y < x ∧ o = y) → Q (ftF (VM h) (h 71) (h 70) a p m o x) → p8_first_L54 p a h Q f o x := by
  obtain ⟨a1, a2, a3, a4⟩ := id hI.1
  obtain ⟨q1, q2, q3, _⟩ := hI.part hp
  have ek' : VM h 1 p = h 74 p := rfl
  intro m
  induction m with
  | zero =>
    intro f x o hf hk _ hq
    obtain ⟨f, rfl⟩ : ∃ n', f = n' + 1 := ⟨f - 1, by omega⟩
    unfold p8_first_L54
    exact brY ((wle ⟨by omega, by omega⟩ ⟨by omega, by omega⟩).mpr (by omega)) hq
  | succ m ih =>
    intro f x o hf hk ho hq
    obtain ⟨f, rfl⟩ : ∃ n', f = n' + 1 := ⟨f - 1, by omega⟩
    unfold p8_first_L54
    refine brN (fun z => by have := (wle ⟨by omega, by omega⟩ ⟨by omega, by omega⟩).mp z; omega) ?_
    have gb := gV_bd (V := VM h) hW hI.1 (show (0 : Int) ≤ x by omega) (show (x : Int) < h 69 1 by omega) q2 q3
    have px := hP x (by omega)
    have ax := ab_bd (x := h 70 x - a) (by omega) (by omega)
    have skip : ¬ ((mayT (VM h) x p ∧ 0 < gV (VM h) (h 71) x (VM h 1 p)) ∧ (o < 0 ∨ betV (VM h) (h 71) (h 70) a p o.toNat x)) → p8_first_L54 p a h Q f o (x + 1) := fun c => by
      refine ih f (x + 1) o (by omega) (by omega) ?_ (by rw [ftF_N c] at hq; exact hq)
      rcases ho with q | ⟨y, h1, h2⟩
      · exact Or.inl q
      · exact Or.inr ⟨y, by omega, h2⟩
    refine M_mayTake hI (by omega) hp (fun w => brN (by decide) ?_) (fun w => brY (by decide) (skip (fun u => w u.1.1)))
    refine M_gainOf hI (by omega) hp ?_
    refine brQ (wle0 ⟨by omega, by omega⟩) (fun z => skip (fun w => by have := w.1.2; rw [ek'] at this; omega)) (fun z => ?_)
    have go : (o < 0 ∨ betV (VM h) (h 71) (h 70) a p o.toNat x) → p8_first_L54 p a h Q f x (x + 1) := fun hb => by
      refine ih f (x + 1) x (by omega) (by omega) (Or.inr ⟨x, by omega, rfl⟩) ?_
      rw [ftF_Y ⟨⟨w, by rw [ek']; omega⟩, hb⟩] at hq
      exact hq
    rcases ho with rfl | ⟨y, h1, rfl⟩
    · refine jn_i (brN (by decide) (brY (by decide) (go (Or.inl (by decide)))))
    · have py := hP y (by omega)
      have ay := ab_bd (x := h 70 y - a) (by omega) (by omega)
      have gb2 := gV_bd (V := VM h) hW hI.1 (show (0 : Int) ≤ y by omega) (show (y : Int) < h 69 1 by omega) q2 q3
      have tn : ((y : Int)).toNat = y := rfl
      refine jn_i (brY ((w0le ⟨by omega, by omega⟩).mpr (by omega)) (rd_n (by omega) (by decide) (M_size (rd_n (by omega) (by decide) (M_size ?_)))))
      refine brN (fun z => by have := (wlt0 ⟨by omega, by omega⟩).mp z; omega) ?_
      refine brQ (wlt0 ⟨by omega, by omega⟩) (fun v => go (Or.inr (Or.inl (by rw [tn]; omega)))) (fun v => ?_)
      refine brQ (weq0 ⟨by omega, by omega⟩) (fun v2 => ?_) (fun v2 => skip (fun u => ?_))
      · refine M_gainOf hI (by omega) hp (M_gainOf hI (by omega) hp ?_)
        refine brQ (wle ⟨by omega, by omega⟩ ⟨by omega, by omega⟩) (fun t => skip (fun u => ?_)) (fun t => go (Or.inr (Or.inr ⟨by rw [tn]; omega, by rw [tn, ek']; omega⟩)))
        rcases u.2 with u | u | u
        · omega
        · rw [tn] at u; omega
        · have := u.2; rw [tn, ek'] at this; omega
      · rcases u.2 with u | u | u
        · omega
        · rw [tn] at u; omega
        · have := u.1; rw [tn] at this; omega
theorem op_first (hI : INV h) {x : Int} (hx : can x) : p7_first x h (fun r1 => p8_first x h (fun r2 => w32 r1 = w32 r2)) := by
  have e := hI.2.2.1
  have cn := hI.cnt
  have s0 := hI.s0
  have s1 := hI.s1
  have hst := hI.st
  unfold okSt at hst
  have hS := hI.2.2.2.1
  unfold p7_first p8_first
  refine C_isPart hx hI.1 (fun z1 z2 => brN (by decide) ?_) (fun z => brY (by decide) (M_isPartN hI hx z (brY (by decide) rfl)))
  obtain ⟨p, rfl⟩ := Int.eq_ofNat_of_zero_le z1
  obtain ⟨q1, q2, q3, q4, q5, q6, q7, q8, q9, q10⟩ := hI.1.part z2
  have r1 : h 14 p = h 74 p := e.2.1 1 p (by decide) (by decide) z2
  have r2 : h 15 p = h 75 p := e.2.1 2 p (by decide) (by decide) z2
  have r3 : h 16 p = h 76 p := e.2.1 3 p (by decide) (by decide) z2
  have q4' : -1 ≤ h 15 p := q4
  have q5' : h 15 p < h 2 1 := q5
  have q6' : -1 ≤ h 16 p := q6
  have q7' : h 16 p < h 2 1 := q7
  refine C_lies hI.1 z2 (fun z => brN (by decide) ?_) (fun z => brY (by decide) (M_isPartY hI z2 (brN (by decide) (rd_n q1 (by decide) (brN ?_ rfl)))))
  · have z' : h 15 p = -1 := z
    have hP3 : ∀ x : Nat, (x : Int) < h 2 1 → 0 ≤ h 3 x ∧ h 3 x ≤ 99 := fun x hx => by
      have := hS.2.2.2.1 x (by omega); rw [this.1]; exact this.2
    have hP70 : ∀ x : Nat, (x : Int) < h 69 1 → 0 ≤ h 70 x ∧ h 70 x ≤ 99 := fun x hx => (hS.2.2.2.1 x (by omega)).2
    have EQ : ∀ (a : Int) (m x : Nat) (o : Int), (x : Int) + m = h 69 1 → (o = -1 ∨ ∃ y : Nat, y < x ∧ o = y) → ftF (VM h) (h 71) (h 70) a p m o x = ftF (VC 13 h) (h 6) (h 3) a p m o x := by
      intro a m
      induction m with
      | zero => intro x o _ _; rfl
      | succ m ih =>
        intro x o hx ho
        have ek : VM h 1 p = VC 13 h 1 p := r1.symm
        have q2' : 0 ≤ VC 13 h 1 p := q2
        have q3' : VC 13 h 1 p < h 2 0 := q3
        have eg : ∀ y : Nat, y ≤ x → gV (VM h) (h 71) y (VM h 1 p) = gV (VC 13 h) (h 6) y (VC 13 h 1 p) := fun y hy => by
          rw [ek]; exact hI.ga (by omega) (by omega) q2' (by omega)
        have epl : ∀ y : Nat, y ≤ x → h 70 y = h 3 y := fun y hy => (hS.2.2.2.1 y (by omega)).1.symm
        have cc : ((mayT (VM h) x p ∧ 0 < gV (VM h) (h 71) x (VM h 1 p)) ∧ (o < 0 ∨ betV (VM h) (h 71) (h 70) a p o.toNat x)) ↔ ((mayT (VC 13 h) x p ∧ 0 < gV (VC 13 h) (h 6) x (VC 13 h 1 p)) ∧ (o < 0 ∨ betV (VC 13 h) (h 6) (h 3) a p o.toNat x)) := by
          rw [e.may z2, eg x (by omega)]
          rcases ho with rfl | ⟨y, h1, rfl⟩
          · constructor
            · exact fun u => ⟨u.1, Or.inl (by decide)⟩
            · exact fun u => ⟨u.1, Or.inl (by decide)⟩
          · have tn : ((y : Int)).toNat = y := rfl
            unfold betV
            rw [tn, eg y (by omega), eg x (by omega), epl y (by omega), epl x (by omega)]
        by_cases c : ((mayT (VC 13 h) x p ∧ 0 < gV (VC 13 h) (h 6) x (VC 13 h 1 p)) ∧ (o < 0 ∨ betV (VC 13 h) (h 6) (h 3) a p o.toNat x))
        · rw [ftF_Y c, ftF_Y (cc.mpr c)]
          exact ih (x + 1) x (by omega) (Or.inr ⟨x, by omega, rfl⟩)
        · rw [ftF_N c, ftF_N (fun u => c (cc.mp u))]
          refine ih (x + 1) o (by omega) ?_
          rcases ho with q | ⟨y, h1, h2⟩
          · exact Or.inl q
          · exact Or.inr ⟨y, by omega, h2⟩
    have FIN : ∀ a : Int, 0 ≤ a ∧ a ≤ 99 → (∀ {P : Int → Prop}, p8_first_L54 p a h P FUEL (-1) 0 → p8_isPart p h fun r1 => brc (w32 r1 = 0) (P (-1000000001)) (rd h 75 32 p fun v2 => brc (w32 v2 < 0) (rd h 76 32 p fun v3 => jn (fun (y7 : Int) => p8_first_L54 p y7 h P FUEL (-1) 0) fun K8 => brc (0 ≤ w32 v3) (rd h 76 32 p fun v24 => rd h 70 5 v24 fun v25 => K8 v25) (K8 50)) (P (-1000000003)))) → p5_firstAt_L41 13 p a h (fun r1 => p8_isPart p h fun r4 => brc (w32 r4 = 0) (w32 r1 = w32 (-1000000001)) (rd h 75 32 p fun v2 => brc (w32 v2 < 0) (rd h 76 32 p fun v3 => jn (fun (y7 : Int) => p8_first_L54 p y7 h (fun r2 => w32 r1 = w32 r2) FUEL (-1) 0) fun K8 => brc (0 ≤ w32 v3) (rd h 76 32 p fun v24 => rd h 70 5 v24 fun v25 => K8 v25) (K8 50)) (w32 r1 = w32 (-1000000003)))) FUEL (-1) 0 0 0 := by
      intro a ha hm
      refine C_firstAt hI.1 hI.w6 z2 ha hP3 (h 2 1).toNat FUEL 0 (-1) 0 0 (by unfold FUEL; omega) (by omega) (Or.inl rfl) ?_
      refine hm (P := fun r2 => w32 (ftF (VC 13 h) (h 6) (h 3) a p (h 2 1).toNat (-1) 0) = w32 r2) ?_
      refine M_firstAt hI.2.1 hI.w71 (by omega) ha hP70 (h 2 1).toNat FUEL 0 (-1) (by unfold FUEL; omega) (by omega) (Or.inl rfl) ?_
      rw [EQ a (h 2 1).toNat 0 (-1) (by omega) (Or.inl rfl)]
    unfold p5_firstAt
    refine rd_n q1 (by decide) (jn_i ?_)
    refine brQ (weq ⟨by omega, by omega⟩ ⟨by omega, by omega⟩) (fun w => ?_) (fun w => ?_)
    · refine FIN 50 (by decide) (fun {P} hp => ?_)
      refine M_isPartY hI z2 (brN (by decide) (rd_n q1 (by decide) ?_))
      refine brY ((wlt0 ⟨by omega, by omega⟩).mpr (by omega)) (rd_n q1 (by decide) (jn_i (brN (fun u => ?_) hp)))
      have := (w0le ⟨by omega, by omega⟩).mp u
      have w' : h 16 p = -1 := w
      omega
    · refine rd_n q1 (by decide) ?_
      have w' : ¬ h 16 p = -1 := w
      obtain ⟨y, ey⟩ := Int.eq_ofNat_of_zero_le (show 0 ≤ h 16 p by omega)
      rw [show h (13 + 3) p = (y : Int) from ey]
      refine rd_n (by omega) (by decide) ?_
      refine FIN (h 3 y) (hP3 y (by omega)) (fun {P} hp => ?_)
      refine M_isPartY hI z2 (brN (by decide) (rd_n q1 (by decide) ?_))
      refine brY ((wlt0 ⟨by omega, by omega⟩).mpr (by omega)) (rd_n q1 (by decide) (jn_i (brY ?_ (rd_n q1 (by decide) ?_))))
      · exact (w0le ⟨by omega, by omega⟩).mpr (by omega)
      · rw [← r3, ey]
        refine rd_n (by omega) (by decide) ?_
        rw [← (hS.2.2.2.1 y (by omega)).1]
        exact hp
  · rw [wlt0 ⟨by omega, by omega⟩]
    have z' : ¬ h 15 p = -1 := z
    omega
end FT
