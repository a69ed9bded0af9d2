/-! ===== PURE: turnsAt ===== -/
def tuA (n x1 x2 x3 : Int) : Prop := 0 ≤ x1 ∧ x1 < n ∧ 0 ≤ x2 ∧ x2 < n ∧ (x3 = -1 ∨ 0 ≤ x3 ∧ x3 < n) ∧ x1 ≠ x2 ∧ x1 ≠ x3 ∧ x2 ≠ x3
section TT1
variable {h : HP}
theorem C_turnsAt {Q : Int → HP → Prop} {x1 x2 x3 x4 x5 : Int} (hI : INV h) (c1 : can x1) (c2 : can x2) (c3 : can x3) (c4 : can x4) (c5 : can x5) (hU : ¬ tuA (h 2 1) x1 x2 x3 → Q (-1000000001) h) (hO : tuA (h 2 1) x1 x2 x3 → ¬ (0 ≤ x4 ∧ x4 ≤ 4 ∧ 0 ≤ x5 ∧ x5 ≤ 1) → Q (-1000000002) h) (hR : tuA (h 2 1) x1 x2 x3 → 0 ≤ x4 ∧ x4 ≤ 4 ∧ 0 ≤ x5 ∧ x5 ≤ 1 → p6_setUp x1 x2 x3 h fun h5 => p6_playOut x4 h5 fun r6 h7 => brc (w32 x5 = 0) (Q r6 h7) (Q (h7 62 6) h7)) : p7_turnsAt x1 x2 x3 x4 x5 h Q := by
  have cm1 : can (-1) := ⟨by decide, by decide⟩
  have main : 0 ≤ x1 → x1 < h 2 1 → 0 ≤ x2 → x2 < h 2 1 → (x3 = -1 ∨ 0 ≤ x3 ∧ x3 < h 2 1) → brc (w32 x1 = w32 x2) (Q (-1000000001) h) (brc (w32 x1 = w32 x3) (Q (-1000000001) h) (brc (w32 x2 = w32 x3) (Q (-1000000001) h) (brc (w32 x4 < 0) (Q (-1000000002) h) (brc (w32 4 < w32 x4) (Q (-1000000002) h) (brc (w32 x5 < 0) (Q (-1000000002) h) (brc (w32 x5 ≤ w32 1) (p6_setUp x1 x2 x3 h fun h5 => p6_playOut x4 h5 fun r6 h7 => brc (w32 x5 = 0) (Q r6 h7) (Q (h7 62 6) h7)) (Q (-1000000002) h))))))) := by
    intro a1 a2 b1 b2 y
    refine brQ (weq c1 c2) (fun z => hU (fun t => t.2.2.2.2.2.1 z)) (fun z1 => ?_)
    refine brQ (weq c1 c3) (fun z => hU (fun t => t.2.2.2.2.2.2.1 z)) (fun z2 => ?_)
    refine brQ (weq c2 c3) (fun z => hU (fun t => t.2.2.2.2.2.2.2 z)) (fun z3 => ?_)
    have t : tuA (h 2 1) x1 x2 x3 := ⟨a1, a2, b1, b2, y, z1, z2, z3⟩
    refine brQ (wlt0 c4) (fun z => hO t (by omega)) (fun z4 => ?_)
    refine brQ (wlt ⟨by decide, by decide⟩ c4) (fun z => hO t (by omega)) (fun z5 => ?_)
    refine brQ (wlt0 c5) (fun z => hO t (by omega)) (fun z6 => ?_)
    exact brQ (wle c5 ⟨by decide, by decide⟩) (fun z => hR t (by omega)) (fun z => hO t (by omega))
  unfold p7_turnsAt
  refine C_isHouse c1 hI.1.1 (fun a1 a2 => brN (by decide) ?_) (fun z => brY (by decide) (hU (fun t => z ⟨t.1, t.2.1⟩)))
  refine C_isHouse c2 hI.1.1 (fun b1 b2 => brN (by decide) ?_) (fun z => brY (by decide) (hU (fun t => z ⟨t.2.2.1, t.2.2.2.1⟩)))
  refine jn_i (brQ (weq c3 cm1) (fun z => main a1 a2 b1 b2 (Or.inl z)) (fun z => ?_))
  exact C_isHouse c3 hI.1.1 (fun d1 d2 => brN (by decide) (main a1 a2 b1 b2 (Or.inr ⟨d1, d2⟩))) (fun y => brY (by decide) (hU (fun t => by
    rcases t.2.2.2.2.1 with q | q
    · exact z q
    · exact y q)))
theorem M_turnsAt {Q : Int → HP → Prop} {x1 x2 x3 x4 x5 : Int} (hI : INV h) (c1 : can x1) (c2 : can x2) (c3 : can x3) (c4 : can x4) (c5 : can x5) (hU : ¬ tuA (h 2 1) x1 x2 x3 → Q (-1000000001) h) (hO : tuA (h 2 1) x1 x2 x3 → ¬ (0 ≤ x4 ∧ x4 ≤ 4 ∧ 0 ≤ x5 ∧ x5 ≤ 1) → Q (-1000000002) h) (hR : tuA (h 2 1) x1 x2 x3 → 0 ≤ x4 ∧ x4 ≤ 4 ∧ 0 ≤ x5 ∧ x5 ≤ 1 → p8_findLie x3 h fun h7 => p8_turnsAt_L82 x1 x2 x4 x5 (fun (h11 : HP) => p8_turnsAt_L122 x1 x2 x5 (fun (h44 : HP) (y45 : Int) => brc (w32 x5 = 0) (rd h44 91 6561 0 fun v47 => Q v47 h44) (brc (w32 y45 = 0) (Q (-1) h44) (rd h44 90 8 (y45 - 1) fun v46 => Q v46 h44))) FUEL h11 0 x4) FUEL h7 0) : p8_turnsAt x1 x2 x3 x4 x5 h Q := by
  have cm1 : can (-1) := ⟨by decide, by decide⟩
  have s1 := hI.s1
  have q4 := c4.1; have q4' := c4.2; have q5 := c5.1; have q5' := c5.2
  have main : tuA (h 2 1) x1 x2 x3 → p8_in (w32 x4) 0 4 h fun r5 => brc (w32 r5 = 0) (Q (-1000000002) h) (p8_in (w32 x5) 0 1 h fun r6 => brc (w32 r6 = 0) (Q (-1000000002) h) (p8_findLie x3 h fun h7 => p8_turnsAt_L82 x1 x2 x4 x5 (fun (h11 : HP) => p8_turnsAt_L122 x1 x2 x5 (fun (h44 : HP) (y45 : Int) => brc (w32 x5 = 0) (rd h44 91 6561 0 fun v47 => Q v47 h44) (brc (w32 y45 = 0) (Q (-1) h44) (rd h44 90 8 (y45 - 1) fun v46 => Q v46 h44))) FUEL h11 0 x4) FUEL h7 0)) := by
    intro t
    rw [w_id c4.1 c4.2, w_id (x := x5) c5.1 c5.2]
    refine in_i ⟨by omega, by omega⟩ ⟨by decide, by decide⟩ ⟨by decide, by decide⟩ (fun y1 y2 => brN (by decide) ?_) (fun y => brY (by decide) (hO t (fun z => y ⟨z.1, z.2.1⟩)))
    refine in_i ⟨by omega, by omega⟩ ⟨by decide, by decide⟩ ⟨by decide, by decide⟩ (fun y3 y4 => brN (by decide) ?_) (fun y => brY (by decide) (hO t (fun z => y z.2.2)))
    have r := hR t ⟨y1, y2, y3, y4⟩
    rw [w_id (x := x5) c5.1 c5.2] at r
    exact r
  unfold p8_turnsAt
  refine M_isHouse c1 hI.st (fun a1 a2 => brN (by decide) ?_) (fun z => brY (by decide) (hU (fun t => z ⟨t.1, by have := t.2.1; omega⟩)))
  refine M_isHouse c2 hI.st (fun b1 b2 => brN (by decide) ?_) (fun z => brY (by decide) (hU (fun t => z ⟨t.2.2.1, by have := t.2.2.2.1; omega⟩)))
  refine brQ (weq c1 c2) (fun z => hU (fun t => t.2.2.2.2.2.1 z)) (fun z1 => ?_)
  refine jn_i (brQ (weq c3 cm1) (fun z => main ⟨a1, by omega, b1, by omega, Or.inl z, z1, by omega, by omega⟩) (fun z => ?_))
  refine M_isHouse c3 hI.st (fun d1 d2 => brN (by decide) ?_) (fun y => brY (by decide) (hU (fun t => by
    rcases t.2.2.2.2.1 with q | q
    · exact z q
    · exact y ⟨q.1, by omega⟩)))
  refine brQ (weq c3 c1) (fun y => hU (fun t => t.2.2.2.2.2.2.1 y.symm)) (fun z2 => ?_)
  exact brQ (weq c3 c2) (fun y => hU (fun t => t.2.2.2.2.2.2.2 y.symm)) (fun z3 => main ⟨a1, by omega, b1, by omega, Or.inr ⟨d1, by omega⟩, z1, fun y => z2 y.symm, fun y => z3 y.symm⟩)
theorem op_turnsAt (hI : INV h) {x1 x2 x3 x4 x5 : Int} (c1 : can x1) (c2 : can x2) (c3 : can x3) (c4 : can x4) (c5 : can x5) : p7_turnsAt x1 x2 x3 x4 x5 h (fun r1 h1 => p8_turnsAt x1 x2 x3 x4 x5 h1 (fun r2 h2 => OK2 r1 r2 h2)) := by
  refine C_turnsAt hI c1 c2 c3 c4 c5 (fun u => M_turnsAt hI c1 c2 c3 c4 c5 (fun _ => ⟨rfl, hI⟩) (fun t => absurd t u) (fun t => absurd t u)) (fun t o => M_turnsAt hI c1 c2 c3 c4 c5 (fun u => absurd t u) (fun _ _ => ⟨rfl, hI⟩) (fun _ i => absurd i o)) (fun t i => ?_)
  obtain ⟨a1, a2, b1, b2, y, z1, z2, z3⟩ := id t
  obtain ⟨i1, i2, i3, i4⟩ := id i
  obtain ⟨a, rfl⟩ := Int.eq_ofNat_of_zero_le a1
  obtain ⟨b, rfl⟩ := Int.eq_ofNat_of_zero_le b1
  obtain ⟨n, rfl⟩ := Int.eq_ofNat_of_zero_le i1
  obtain ⟨N, hN⟩ := Int.eq_ofNat_of_zero_le (show 0 ≤ h 13 1 from hI.1.2.1.1)
  obtain ⟨c, li, l⟩ := LI_ex (VC 13 h) x3 N
  refine C_turns (by omega) hI.1 hI.w6 hN a2 b2 c3 l (fun g pt F e62 p0 p1 => ?_)
  have K : ∀ r1 : Int, (x5 = 0 → r1 = FH h a b c li 0 n 0) → (x5 ≠ 0 → r1 = pt) → p8_turnsAt a b x3 n x5 g (fun r2 h2 => OK2 r1 r2 h2) := by
    intro r1 k1 k2
    have t' : tuA (g 2 1) a b x3 := by rw [F.1 2 (by decide)]; exact t
    refine M_turnsAt (F.i hI) c1 c2 c3 c4 c5 (fun u => absurd t' u) (fun _ o => absurd i o) (fun _ _ => ?_)
    refine M_turns (by omega) hI F hN a2 b2 c3 l c5 (fun g' first F' q0 q1 => ⟨fun z => ⟨by rw [k1 z], F'.i hI⟩, fun z f0 => ⟨?_, F'.i hI⟩, fun z f1 fc => ⟨?_, F'.i hI⟩⟩)
    · rw [k2 z]
      by_cases n0 : n = 0
      · rw [p0 n0]
      · obtain ⟨m, hm⟩ : ∃ m, n = m + 1 := ⟨n - 1, by omega⟩
        obtain ⟨lst, s1, s2⟩ := p1 m hm
        rw [(pt_eq hI hN l s1 s2 (q1 m hm)).1 f0]
    · rw [k2 z]
      obtain ⟨m, hm⟩ : ∃ m, n = m + 1 := ⟨n - 1, by
        have : n ≠ 0 := fun n0 => by have := q0 n0; omega
        omega⟩
      obtain ⟨lst, s1, s2⟩ := p1 m hm
      rw [(pt_eq hI hN l s1 s2 (q1 m hm)).2 f1]
  refine brQ (weq0 c5) (fun z => K _ (fun _ => (FH_00 n).symm) (fun y => absurd z y)) (fun z => K _ (fun y => absurd y z) (fun _ => e62))
end TT1
