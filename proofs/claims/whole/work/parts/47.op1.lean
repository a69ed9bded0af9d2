/-! ===== PURE: calls that only read ===== -/
section OP1
variable {h : HP}
theorem INV.st (hI : INV h) : okSt (h 69 0) (h 69 1) := hI.2.1.1
theorem INV.s0 (hI : INV h) : h 2 0 = h 69 0 := hI.2.2.2.1.1
theorem INV.s1 (hI : INV h) : h 2 1 = h 69 1 := hI.2.2.2.1.2.1
theorem INV.cnt (hI : INV h) : h 13 1 = h 69 7 := hI.2.2.1.1 0 (by decide)
theorem INV.wo (hI : INV h) {x k : Int} (hx : 0 ≤ x) (hx2 : x < h 69 1) (hk : 0 ≤ k) (hk2 : k < h 69 0) : h 71 (x * 6 + k).toNat = h 6 (x * 6 + k).toNat := by
  obtain ⟨a1, a2, a3, a4⟩ := hI.st
  exact (hI.2.2.2.1.2.2.2.2.1 _ (by omega)).1.symm
theorem INV.ga (hI : INV h) {x k : Int} (hx : 0 ≤ x) (hx2 : x < h 69 1) (hk : 0 ≤ k) (hk2 : k < h 69 0) : gV (VM h) (h 71) x k = gV (VC 13 h) (h 6) x k := hI.2.2.1.ga x k (hI.wo hx hx2 hk hk2)
theorem INV.lo (hI : INV h) {x k : Int} (hx : 0 ≤ x) (hx2 : x < h 69 1) (hk : 0 ≤ k) (hk2 : k < h 69 0) : lV (VM h) (h 71) x k = lV (VC 13 h) (h 6) x k := hI.2.2.1.lo x k (hI.wo hx hx2 hk hk2)
theorem INV.we (hI : INV h) {x : Int} (hx : 0 ≤ x) (hx2 : x < h 69 1) : weV (VM h) (h 71) (h 69 0).toNat x = weV (VC 13 h) (h 6) (h 69 0).toNat x := hI.2.2.1.we x (fun k hk => hI.wo hx hx2 (by omega) (by omega))
theorem op_fault (hI : INV h) : p7_fault h (fun r1 => p8_fault h (fun r2 => w32 r1 = w32 r2)) := by
  show w32 (h 0 2) = w32 (h 69 17)
  rw [hI.2.2.2.2.1.2.2.2.2]
theorem op_told (hI : INV h) {x : Int} (hx : can x) : p7_told x h (fun r1 => p8_told x h (fun r2 => w32 r1 = w32 r2)) := by
  have hr := hI.2.2.2
  have e := hI.2.2.1
  unfold p7_told p8_told
  rw [w_id hx.1 hx.2]
  refine ⟨fun z => ⟨fun _ => rfl, fun q => by omega, fun q => by omega, fun q => by omega, fun q => by omega, fun q => by omega, fun q => by omega, fun q => by omega, fun q => by omega⟩, fun z => ?_, fun z => ?_, fun z => ?_, fun z => ?_, fun z => ?_, fun z => ?_, fun z => ?_, fun z => ?_⟩ <;> subst z
  · exact ⟨fun q => by omega, fun _ => by rw [hI.s0], fun q => by omega, fun q => by omega, fun q => by omega, fun q => by omega, fun q => by omega, fun q => by omega, fun q => by omega⟩
  · exact ⟨fun q => by omega, fun q => by omega, fun _ => by rw [hI.s1], fun q => by omega, fun q => by omega, fun q => by omega, fun q => by omega, fun q => by omega, fun q => by omega⟩
  · exact ⟨fun q => by omega, fun q => by omega, fun q => by omega, fun _ => by rw [hI.cnt], fun q => by omega, fun q => by omega, fun q => by omega, fun q => by omega, fun q => by omega⟩
  · exact ⟨fun q => by omega, fun q => by omega, fun q => by omega, fun q => by omega, fun _ => by rw [hr.2.1.1], fun q => by omega, fun q => by omega, fun q => by omega, fun q => by omega⟩
  · exact ⟨fun q => by omega, fun q => by omega, fun q => by omega, fun q => by omega, fun q => by omega, fun _ => by rw [show h 13 2 = h 69 13 from e.1 1 (by decide)], fun q => by omega, fun q => by omega, fun q => by omega⟩
  · exact ⟨fun q => by omega, fun q => by omega, fun q => by omega, fun q => by omega, fun q => by omega, fun q => by omega, fun _ => by rw [hr.2.2.1.1], fun q => by omega, fun q => by omega⟩
  · refine C_poorHouses hI.1 ⟨fun q => by omega, fun q => by omega, fun q => by omega, fun q => by omega, fun q => by omega, fun q => by omega, fun q => by omega, fun _ => ?_, fun q => by omega⟩
    refine M_poor hI.2.1 ?_
    rw [hI.s1]
    simp only [e.co]
  · refine C_countLying hI.1 ⟨fun q => by omega, fun q => by omega, fun q => by omega, fun q => by omega, fun q => by omega, fun q => by omega, fun q => by omega, fun q => by omega, fun _ => ?_⟩
    refine M_countOf hI.2.1 ⟨by decide, by decide⟩ ?_
    rw [e.co]
theorem op_house (hI : INV h) {x y : Int} (hx : can x) (hy : can y) : p7_house x y h (fun r1 => p8_house x y h (fun r2 => w32 r1 = w32 r2)) := by
  have hr := hI.2.2.2
  have e := hI.2.2.1
  obtain ⟨a1, a2, a3, a4⟩ := hI.st
  have s0 := hI.s0
  have s1 := hI.s1
  unfold p7_house p8_house
  refine C_isHouse hx hI.1.1 (fun z1 z2 => brN (by decide) ?_) (fun z => brY (by decide) (M_isHouse hx hI.st (fun q1 q2 => absurd ⟨q1, by omega⟩ z) (fun _ => brY (by decide) rfl)))
  have M : ∀ P : Prop, P → p8_isHouse x h (fun r1 => brc (w32 r1 = 0) (w32 (-1000000001) = w32 (-1000000001)) P) → True := fun _ _ _ => trivial
  obtain ⟨n, rfl⟩ := Int.eq_ofNat_of_zero_le z1
  have key : ∀ {P : Int → Prop} {R : Prop}, R → p8_isHouse (n : Int) h (fun r1 => brc (w32 r1 = 0) (P (-1000000001)) R) := fun r => M_isHouse hx hI.st (fun _ _ => brN (by decide) r) (fun q => absurd ⟨z1, by omega⟩ q)
  rw [w_id hy.1 hy.2]
  refine ⟨fun z => key (P := fun r => w32 (-1000000002) = w32 r) ⟨fun _ => rfl, fun q => by omega, fun q => by omega, fun q => by omega, fun q => by omega, fun q => by omega⟩, fun z => ?_, fun z => ?_, fun z => ?_, fun z => ?_, fun z => ?_⟩ <;> subst z
  · refine rd_n (by omega) (by decide) ?_
    refine key (P := fun r => w32 (h 3 n) = w32 r) ⟨fun q => by omega, fun _ => rd_n (by omega) (by decide) ?_, fun q => by omega, fun q => by omega, fun q => by omega, fun q => by omega⟩
    rw [(hr.1.2.2.2.1 n (by omega)).1]
  · refine rd_n (by omega) (by decide) ?_
    refine key (P := fun r => w32 (h 19 n) = w32 r) ⟨fun q => by omega, fun q => by omega, fun _ => M_countOf hI.2.1 hx ?_, fun q => by omega, fun q => by omega, fun q => by omega⟩
    rw [e.co, show h 19 n = cO (VC 13 h) n from hI.1.2.2.1 n z2]
  · refine C_wealthOf hI.1 z2 ?_
    refine key (P := fun r => w32 (weV (VC 13 h) (h 6) (h 2 0).toNat n) = w32 r) ⟨fun q => by omega, fun q => by omega, fun q => by omega, fun _ => M_wealthOf hI.2.1 (by omega) ?_, fun q => by omega, fun q => by omega⟩
    rw [hI.we z1 (by omega), s0]
  · refine C_sortsHad hI.1 z2 ?_
    refine key (P := fun r => w32 ((bs (fun k => decide (0 < cS (VC 13 h) n k)) (h 2 0).toNat : Nat) : Int) = w32 r) ⟨fun q => by omega, fun q => by omega, fun q => by omega, fun q => by omega, fun _ => M_sortsOf hI.2.1 hx ?_, fun q => by omega⟩
    rw [s0]
    simp only [e.cs]
  · refine C_countInYard hI.1 z2 ?_
    refine key (P := fun r => w32 (cY (VC 13 h) n) = w32 r) ⟨fun q => by omega, fun q => by omega, fun q => by omega, fun q => by omega, fun q => by omega, fun _ => M_inYard hI.2.1 (by omega) ?_⟩
    rw [e.cy]
theorem op_worth (hI : INV h) {x y : Int} (hx : can x) (hy : can y) : p7_worth x y h (fun r1 => p8_worth x y h (fun r2 => w32 r1 = w32 r2)) := by
  obtain ⟨a1, a2, a3, a4⟩ := hI.st
  have s0 := hI.s0
  have s1 := hI.s1
  unfold p7_worth p8_worth
  refine C_isHouse hx hI.1.1 (fun z1 z2 => brN (by decide) ?_) (fun z => brY (by decide) (M_isHouse hx hI.st (fun q1 q2 => absurd ⟨q1, by omega⟩ z) (fun _ => brY (by decide) rfl)))
  refine C_isSort hy hI.1.1 (fun y1 y2 => brN (by decide) ?_) (fun z => brY (by decide) (M_isHouse hx hI.st (fun _ _ => brN (by decide) (M_isSort hy hI.st (fun q1 q2 => absurd ⟨q1, by omega⟩ z) (fun _ => brY (by decide) rfl))) (fun q => absurd ⟨z1, by omega⟩ q)))
  obtain ⟨n, rfl⟩ := Int.eq_ofNat_of_zero_le z1
  obtain ⟨k, rfl⟩ := Int.eq_ofNat_of_zero_le y1
  refine C_worthOf hI.1.1 z2 y2 ?_
  refine M_isHouse hx hI.st (fun _ _ => brN (by decide) (M_isSort hy hI.st (fun _ _ => brN (by decide) ?_) (fun q => absurd ⟨y1, by omega⟩ q))) (fun q => absurd ⟨z1, by omega⟩ q)
  refine rd_i (by omega) (by omega) (by decide) ?_
  rw [show (6 * (n : Int) + k).toNat = ((n : Int) * 6 + k).toNat from by omega, hI.wo z1 (by omega) y1 (by omega)]
/-- the model's answer where the class knows a part -/
theorem M_isPartY (hI : INV h) {p : Nat} (hp : (p : Int) < h 13 1) {Q : Int → Prop} (hq : Q 1) : p8_isPart p h Q := by
  have a2 : h 13 1 ≤ 32 := hI.1.2.1.2.1
  have := hI.cnt
  exact M_isPart ⟨by omega, by omega⟩ hI.2.1 (fun _ _ => hq) (fun q => absurd ⟨by omega, by omega⟩ q)
theorem M_isPartN (hI : INV h) {x : Int} (hx : can x) (hp : ¬ (0 ≤ x ∧ x < h 13 1)) {Q : Int → Prop} (hq : Q 0) : p8_isPart x h Q := by
  have := hI.cnt
  exact M_isPart hx hI.2.1 (fun q1 q2 => absurd ⟨q1, by omega⟩ hp) (fun _ => hq)
theorem M_isHouseY (hI : INV h) {x : Nat} (hp : (x : Int) < h 2 1) {Q : Int → Prop} (hq : Q 1) : p8_isHouse x h Q := by
  obtain ⟨a1, a2, a3, a4⟩ := hI.st
  have := hI.s1
  exact M_isHouse ⟨by omega, by omega⟩ hI.st (fun _ _ => hq) (fun q => absurd ⟨by omega, by omega⟩ q)
theorem M_isHouseN (hI : INV h) {x : Int} (hx : can x) (hp : ¬ (0 ≤ x ∧ x < h 2 1)) {Q : Int → Prop} (hq : Q 0) : p8_isHouse x h Q := by
  have := hI.s1
  exact M_isHouse hx hI.st (fun q1 q2 => absurd ⟨q1, by omega⟩ hp) (fun _ => hq)
theorem M_isSortY (hI : INV h) {x : Nat} (hp : (x : Int) < h 2 0) {Q : Int → Prop} (hq : Q 1) : p8_isSort x h Q := by
  obtain ⟨a1, a2, a3, a4⟩ := hI.st
  have := hI.s0
  exact M_isSort ⟨by omega, by omega⟩ hI.st (fun _ _ => hq) (fun q => absurd ⟨by omega, by omega⟩ q)
theorem M_isSortN (hI : INV h) {x : Int} (hx : can x) (hp : ¬ (0 ≤ x ∧ x < h 2 0)) {Q : Int → Prop} (hq : Q 0) : p8_isSort x h Q := by
  have := hI.s0
  exact M_isSort hx hI.st (fun q1 q2 => absurd ⟨q1, by omega⟩ hp) (fun _ => hq)
theorem op_part (hI : INV h) {x y : Int} (hx : can x) (hy : can y) : p7_part x y h (fun r1 => p8_part x y h (fun r2 => w32 r1 = w32 r2)) := by
  have e := hI.2.2.1
  have cn := hI.cnt
  unfold p7_part p8_part
  refine C_isPart hx hI.1 (fun z1 z2 => brN (by decide) ?_) (fun z => brY (by decide) (M_isPartN hI hx z (brY (by decide) rfl)))
  obtain ⟨p, rfl⟩ := Int.eq_ofNat_of_zero_le z1
  obtain ⟨q1, q2, q3, q4, q5, q6, q7, q8, q9, q10⟩ := hI.1.part z2
  have hst := hI.st
  unfold okSt at hst
  have s1 := hI.s1
  have r1 : h 14 p = h 74 p := e.2.1 1 p (by decide) (by decide) z2
  have r2 : h 15 p = h 75 p := e.2.1 2 p (by decide) (by decide) z2
  have r3 : h 16 p = h 76 p := e.2.1 3 p (by decide) (by decide) z2
  have r4 : h 17 p = h 77 p := e.2.1 4 p (by decide) (by decide) z2
  rw [w_id hy.1 hy.2, w_id (show -2147483648 ≤ (1 : Int) by decide) (by decide), w_id (show -2147483648 ≤ (2 : Int) by decide) (by decide), w_id (show -2147483648 ≤ (3 : Int) by decide) (by decide)]
  refine ⟨fun z => M_isPartY hI z2 (brN (by decide) (brN (by omega) (brN (by omega) (brN (by omega) (brN (by omega) rfl))))), fun z => ?_, fun z => ?_, fun z => ?_, fun z => ?_⟩ <;> subst z <;> refine rd_n q1 (by decide) ?_ <;> refine M_isPartY hI z2 (brN (by decide) ?_)
  · exact brY rfl (rd_n q1 (by decide) (by rw [r1]))
  · exact brN (by decide) (brY rfl (rd_n q1 (by decide) (by rw [r2])))
  · refine brN (by decide) (brN (by decide) (brY rfl (rd_n q1 (by decide) ?_)))
    rw [← r2]
    refine brQ (w0le ⟨by show -2147483648 ≤ h (13 + 2) p; omega, by show h (13 + 2) p < _; omega⟩) (fun z => ?_) (fun z => rd_n q1 (by decide) (by rw [r3]))
    rw [show h 16 p = -1 from q8 z]
  · exact brN (by decide) (brN (by decide) (brN (by decide) (brY rfl (rd_n q1 (by decide) (by rw [r4])))))
theorem op_hand (hI : INV h) {x y : Int} (hx : can x) (hy : can y) : p7_hand x y h (fun r1 => p8_hand x y h (fun r2 => w32 r1 = w32 r2)) := by
  have e := hI.2.2.1
  have := hy.1; have := hy.2
  unfold p7_hand p8_hand
  refine C_isPart hx hI.1 (fun z1 z2 => brN (by decide) ?_) (fun z => brY (by decide) (M_isPartN hI hx z (brY (by decide) rfl)))
  obtain ⟨p, rfl⟩ := Int.eq_ofNat_of_zero_le z1
  obtain ⟨q1, q2, q3, q4, q5, q6, q7, q8, q9, q10⟩ := hI.1.part z2
  have r4 : h 17 p = h 77 p := e.2.1 4 p (by decide) (by decide) z2
  have q9' : 0 ≤ h 17 p := q9
  have q10' : h 17 p ≤ 20 := q10
  have mk : ∀ {P : Prop} {c : Int}, (¬ (0 ≤ y ∧ y ≤ h 77 p - 1) → w32 c = w32 (-1)) → ((0 ≤ y ∧ y ≤ h 77 p - 1) → rd h 78 640 (20 * (p : Int) + y) fun v4 => w32 c = w32 v4) → p8_isPart p h (fun r1 => brc (w32 r1 = 0) (w32 c = w32 (-1000000001)) (rd h 77 32 p fun v2 => p8_in (w32 y) 0 (w32 (v2 - 1)) h fun r3 => brc (w32 r3 = 0) (w32 c = w32 (-1)) (rd h 78 640 (20 * (p : Int) + y) fun v4 => w32 c = w32 v4))) := by
    intro _ c g1 g2
    refine M_isPartY hI z2 (brN (by decide) (rd_n q1 (by decide) ?_))
    rw [w_id hy.1 hy.2, w_id (show -2147483648 ≤ h 77 p - 1 by omega) (by omega)]
    exact in_i ⟨by omega, by omega⟩ ⟨by omega, by omega⟩ ⟨by omega, by omega⟩ (fun a b => brN (by decide) (g2 ⟨a, b⟩)) (fun a => brY (by decide) (g1 a))
  refine brQ (wlt0 hy) (fun z => ?_) (fun z => ?_)
  · exact mk (P := True) (c := -1) (fun _ => rfl) (fun q => by omega)
  · refine rd_n q1 (by decide) ?_
    refine brQ (wlt hy ⟨by omega, by omega⟩) (fun w => ?_) (fun w => ?_)
    · obtain ⟨j, rfl⟩ := Int.eq_ofNat_of_zero_le (show 0 ≤ y by omega)
      refine rd_i (by omega) (by omega) (by decide) ?_
      refine mk (P := True) (fun q => by omega) (fun q => rd_i (by omega) (by omega) (by decide) ?_)
      have := e.2.2 p j z2 w
      rw [show ((p : Int) * 20 + j).toNat = 20 * p + j from by omega, show (20 * (p : Int) + j).toNat = 20 * p + j from by omega]
      rw [show h 18 (20 * p + j) = h 78 (20 * p + j) from this]
    · exact mk (P := True) (c := -1) (fun _ => rfl) (fun q => by omega)
theorem op_gain (hI : INV h) {x y : Int} (hx : can x) (hy : can y) : p7_gain x y h (fun r1 => p8_gain x y h (fun r2 => w32 r1 = w32 r2)) := by
  have e := hI.2.2.1
  have s0 := hI.s0
  have s1 := hI.s1
  have cn := hI.cnt
  unfold p7_gain p8_gain
  refine C_isHouse hx hI.1.1 (fun z1 z2 => brN (by decide) ?_) (fun z => brY (by decide) (M_isHouseN hI hx z (brY (by decide) rfl)))
  obtain ⟨n, rfl⟩ := Int.eq_ofNat_of_zero_le z1
  refine C_isPart hy hI.1 (fun y1 y2 => brN (by decide) ?_) (fun z => brY (by decide) (M_isHouseY hI z2 (brN (by decide) (M_isPartN hI hy z (brY (by decide) rfl)))))
  obtain ⟨p, rfl⟩ := Int.eq_ofNat_of_zero_le y1
  obtain ⟨q1, q2, q3, q4⟩ := hI.1.part y2
  refine rd_n q1 (by decide) ?_
  have ek : h 14 p = (((h 14 p).toNat : Nat) : Int) := by have : 0 ≤ h 14 p := q2; omega
  have q3' : h 14 p < h 2 0 := q3
  have q2' : 0 ≤ h 14 p := q2
  rw [ek]
  refine C_gainOf hI.1 z2 (by omega) ?_
  refine M_isHouseY hI z2 (brN (by decide) (M_isPartY hI y2 (brN (by decide) (M_gainOf hI.2.1 (by omega) (by omega) ?_))))
  have r1 : h 14 p = h 74 p := e.2.1 1 p (by decide) (by decide) y2
  rw [← ek, ← r1, hI.ga z1 (by omega) q2' (by omega)]
end OP1
