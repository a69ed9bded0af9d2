/-! ===== PURE: the law ===== -/
theorem h00_z {c j : Nat} (h0 : c ≠ 0) (h9 : c ≠ 69) : h00 c j = 0 := by
  unfold h00
  rw [if_neg (fun z => h0 z.1), if_neg (fun z => h9 z.1)]
theorem INV_00 : INV h00 := by
  have z9 : ∀ j, j ≠ 17 → h00 69 j = 0 := fun j hj => by
    unfold h00
    rw [if_neg (fun z => by omega), if_neg (fun z => hj z.2)]
  have vc : ∀ i j, VC 13 h00 i j = 0 := fun i j => by
    unfold VC
    by_cases c : i = 0
    · rw [if_pos c]
      by_cases d : j < 3
      · rw [if_pos d]; exact h00_z (by decide) (by decide)
      · rw [if_neg d]
    · rw [if_neg c]
      by_cases d : i < 6
      · rw [if_pos d]; exact h00_z (by omega) (by omega)
      · rw [if_neg d]
  have vm : ∀ i j, VM h00 i j = 0 := fun i j => by
    unfold VM
    by_cases c : i = 0
    · rw [if_pos c]
      by_cases d0 : j = 0
      · rw [if_pos d0]; exact z9 7 (by decide)
      · rw [if_neg d0]
        by_cases d1 : j = 1
        · rw [if_pos d1]; exact z9 13 (by decide)
        · rw [if_neg d1]
          by_cases d2 : j = 2
          · rw [if_pos d2]; exact z9 14 (by decide)
          · rw [if_neg d2]
    · rw [if_neg c]
      by_cases d : i < 6
      · rw [if_pos d]; exact h00_z (by omega) (by omega)
      · rw [if_neg d]
  have e20 : h00 2 0 = 0 := h00_z (by decide) (by decide)
  have e21 : h00 2 1 = 0 := h00_z (by decide) (by decide)
  have e690 : h00 69 0 = 0 := z9 0 (by decide)
  have e691 : h00 69 1 = 0 := z9 1 (by decide)
  have e694 : h00 69 4 = 0 := z9 4 (by decide)
  have wf : ∀ V : HP, (∀ i j, V i j = 0) → wfV 0 0 V := fun V hV => ⟨by rw [hV]; decide, by rw [hV]; decide, fun p hp => by rw [hV] at hp; omega, fun x x1 x2 => by omega, by rw [hV]; decide, by rw [hV]; decide⟩
  have ok0 : okSt 0 0 := ⟨by decide, by decide, by decide, by decide⟩
  refine ⟨⟨by rw [e20, e21]; exact ok0, by rw [e20, e21]; exact wf _ vc, fun x hx => by rw [e21] at hx; omega, fun x k hx => by rw [e21] at hx; omega⟩, ⟨by rw [e690, e691]; exact ok0, by rw [e690, e691]; exact wf _ vm⟩, ⟨fun j _ => by rw [vc, vm], fun i p _ _ hp => by rw [vc] at hp; omega, fun p j hp => by rw [vc] at hp; omega⟩, ?_, ?_, ?_, ?_⟩
  · refine ⟨by rw [e20, e690], by rw [e21, e691], by rw [e694]; exact h00_z (by decide) (by decide), fun j hj => by rw [e691] at hj; omega, fun j _ => ?_, by rw [e694]; decide, by rw [e694]; decide, fun p hp => by rw [e694] at hp; omega, fun x x1 x2 => by rw [e691] at x2; omega⟩
    rw [h00_z (c := 6) (by decide) (by decide), h00_z (c := 71) (by decide) (by decide)]
    exact ⟨rfl, by decide, by decide⟩
  · have e16 : h00 69 16 = 0 := z9 16 (by decide)
    refine ⟨by rw [e16]; rfl, by rw [e16]; decide, by rw [e16]; decide, fun j hj => by rw [e16] at hj; omega, rfl⟩
  · have e40 : h00 69 40 = 0 := z9 40 (by decide)
    exact ⟨by rw [e40]; exact h00_z (by decide) (by decide), by rw [e40]; decide, by rw [e40]; decide, fun j hj => by rw [e40] at hj; omega⟩
  · intro i _
    rw [h00_z (c := 46) (by decide) (by decide), h00_z (c := 96) (by decide) (by decide)]
    exact ⟨rfl, Or.inl rfl⟩
theorem rdX_i {L : Nat} {xs : Nat → Int} {j : Nat} {i : Int} {K : Int → Prop} (e : i = (j : Int)) (hj : j < L) (hL : L ≤ 3072) (hk : K (xs j)) : rdX L xs i K := by
  subst e
  refine ⟨inb_i (by omega) (by omega) (by omega), ?_⟩
  rw [ix_n j (by omega)]
  exact hk
theorem law_pure (L : Nat) (hL : L ≤ 3072) (xs : Nat → Int) (cx : ∀ j, can (xs j)) : pL_law_L18 L xs FUEL h00 0 := by
  have G : ∀ (m fu i : Nat) (h : HP), m < fu → L ≤ i + 6 * m → i ≤ 6000 → INV h → pL_law_L18 L xs fu h i := by
    intro m
    induction m with
    | zero =>
      intro fu i h hfu hm hi hI
      obtain ⟨fu, rfl⟩ : ∃ n', fu = n' + 1 := ⟨fu - 1, by omega⟩
      unfold pL_law_L18
      exact brY ((wlt ⟨by omega, by omega⟩ ⟨by omega, by omega⟩).mpr (by omega)) rfl
    | succ m ih =>
      intro fu i h hfu hm hi hI
      obtain ⟨fu, rfl⟩ : ∃ n', fu = n' + 1 := ⟨fu - 1, by omega⟩
      unfold pL_law_L18
      refine brQ (wlt ⟨by omega, by omega⟩ ⟨by omega, by omega⟩) (fun _ => rfl) (fun z => ?_)
      have nx : ∀ g : HP, INV g → pL_law_L18 L xs fu g ((i : Int) + 6) := fun g hg => ih fu (i + 6) g (by omega) (by omega) (by omega) hg
      have r1 : ∀ {K : Int → Prop}, K (xs (i + 1)) → rdX L xs ((i : Int) + 1) K := fun hk => rdX_i (j := i + 1) (by omega) (by omega) hL hk
      have r2 : ∀ {K : Int → Prop}, K (xs (i + 2)) → rdX L xs ((i : Int) + 2) K := fun hk => rdX_i (j := i + 2) (by omega) (by omega) hL hk
      have r3 : ∀ {K : Int → Prop}, K (xs (i + 3)) → rdX L xs ((i : Int) + 3) K := fun hk => rdX_i (j := i + 3) (by omega) (by omega) hL hk
      have r4 : ∀ {K : Int → Prop}, K (xs (i + 4)) → rdX L xs ((i : Int) + 4) K := fun hk => rdX_i (j := i + 4) (by omega) (by omega) hL hk
      have r5 : ∀ {K : Int → Prop}, K (xs (i + 5)) → rdX L xs ((i : Int) + 5) K := fun hk => rdX_i (j := i + 5) (by omega) (by omega) hL hk
      refine rdX_i (j := i) rfl (by omega) hL ?_
      refine ⟨fun _ => nx h hI, fun _ => ?_, fun _ => ?_, fun _ => ?_, fun _ => ?_, fun _ => ?_, fun _ => ?_, fun _ => ?_, fun _ => ?_, fun _ => ?_, fun _ => ?_, fun _ => ?_, fun _ => ?_, fun _ => ?_, fun _ => ?_, fun _ => ?_, fun _ => ?_, fun _ => ?_, fun _ => ?_, fun _ => ?_, fun _ => ?_, fun _ => ?_, fun _ => ?_, fun _ => ?_, fun _ => ?_, fun _ => ?_, fun _ => ?_, fun _ => ?_, fun _ => ?_⟩
      · exact r1 (r2 (r3 (m_p7_feed (fun _ _ H => r1 (r2 (r3 (m_p8_feed (fun _ g ok => brY ok.1 (nx g ok.2)) H)))) (op_feed hI (cx _)))))
      · exact m_p7_spit (fun _ _ H => m_p8_spit (fun _ g ok => brY ok.1 (nx g ok.2)) H) (op_spit hI)
      · exact m_p7_fault (fun _ H => m_p8_fault (fun _ e => brY e (nx h hI)) H) (op_fault hI)
      · exact r1 (m_p7_told (fun _ H => r1 (m_p8_told (fun _ e => brY e (nx h hI)) H)) (op_told hI (cx _)))
      · exact r1 (r2 (m_p7_house (fun _ H => r1 (r2 (m_p8_house (fun _ e => brY e (nx h hI)) H))) (op_house hI (cx _) (cx _))))
      · exact r1 (r2 (m_p7_worth (fun _ H => r1 (r2 (m_p8_worth (fun _ e => brY e (nx h hI)) H))) (op_worth hI (cx _) (cx _))))
      · exact r1 (r2 (m_p7_part (fun _ H => r1 (r2 (m_p8_part (fun _ e => brY e (nx h hI)) H))) (op_part hI (cx _) (cx _))))
      · exact r1 (r2 (m_p7_hand (fun _ H => r1 (r2 (m_p8_hand (fun _ e => brY e (nx h hI)) H))) (op_hand hI (cx _) (cx _))))
      · exact r1 (r2 (m_p7_toss (fun _ _ H => r1 (r2 (m_p8_toss (fun _ g ok => brY ok.1 (nx g ok.2)) H))) (op_toss hI (cx _) (cx _))))
      · exact r1 (r2 (m_p7_take (fun _ _ H => r1 (r2 (m_p8_take (fun _ g ok => brY ok.1 (nx g ok.2)) H))) (op_take hI (cx _) (cx _))))
      · exact r1 (m_p7_ashore (fun _ _ H => r1 (m_p8_ashore (fun _ g ok => brY ok.1 (nx g ok.2)) H)) (op_ashore hI (cx _)))
      · exact r1 (m_p7_first (fun _ H => r1 (m_p8_first (fun _ e => brY e (nx h hI)) H)) (op_first hI (cx _)))
      · exact r1 (m_p7_week (fun _ _ H => r1 (m_p8_week (fun _ g ok => brY ok.1 (nx g ok.2)) H)) (op_week hI (cx _)))
      · exact r1 (m_p7_drift (fun _ _ H => r1 (m_p8_drift (fun _ g ok => brY ok.1 (nx g ok.2)) H)) (op_drift hI (cx _)))
      · exact m_p7_begin (fun _ _ H => m_p8_begin (fun _ g ok => brY ok.1 (nx g ok.2)) H) (op_begin hI)
      · exact r1 (r2 (m_p7_gain (fun _ H => r1 (r2 (m_p8_gain (fun _ e => brY e (nx h hI)) H))) (op_gain hI (cx _) (cx _))))
      · exact r1 (r2 (r3 (m_p7_down (fun _ _ H => r1 (r2 (r3 (m_p8_down (fun _ g ok => brY ok.1 (nx g ok.2)) H)))) (op_down hI (cx _) (cx _) (cx _)))))
      · exact r1 (r2 (m_p7_chain (fun _ _ H => r1 (r2 (m_p8_chain (fun _ g ok => brY ok.1 (nx g ok.2)) H))) (op_chain hI (cx _) (cx _))))
      · exact r1 (r2 (m_p7_rings (fun _ _ H => r1 (r2 (m_p8_rings (fun _ g ok => brY ok.1 (nx g ok.2)) H))) (op_rings hI (cx _) (cx _))))
      · exact r1 (r2 (m_p7_odds (fun _ H => r1 (r2 (m_p8_odds (fun _ e => brY e (nx h hI)) H))) (op_odds hI (cx _) (cx _))))
      · exact r1 (r2 (r3 (m_p7_waits (fun _ H => r1 (r2 (r3 (m_p8_waits (fun _ e => brY e (nx h hI)) H)))) (op_waits hI (cx _) (cx _) (cx _)))))
      · exact r1 (r2 (r3 (r4 (r5 (m_p7_turnsAt (fun _ _ H => r1 (r2 (r3 (r4 (r5 (m_p8_turnsAt (fun _ g ok => brY ok.1 (nx g ok.2)) H)))))) (op_turnsAt hI (cx _) (cx _) (cx _) (cx _) (cx _)))))))
      · refine r1 (r2 (r3 (jn_i (brS (fun y => ?_) (fun y => ?_)))))
        · exact m_p7_write (fun _ _ H => r1 (r2 (r3 (jn_i (brY y (m_p8_write (fun _ g ok => brY ok.1 (nx g ok.2)) H)))))) (op_write hI (cx _) (cx _) (Or.inl rfl))
        · exact m_p7_write (fun _ _ H => r1 (r2 (r3 (jn_i (brN y (m_p8_write (fun _ g ok => brY ok.1 (nx g ok.2)) H)))))) (op_write hI (cx _) (cx _) (Or.inr rfl))
      · exact m_p7_tear (fun _ _ H => m_p8_tear (fun _ g ok => brY ok.1 (nx g ok.2)) H) (op_tear hI)
      · exact m_p7_judge (fun _ _ H => m_p8_judge (fun _ g ok => brY ok.1 (nx g ok.2)) H) (op_judge hI)
      · exact r1 (m_p7_seed (fun _ _ H => r1 (m_p8_seed (fun _ g ok => brY ok.1 (nx g ok.2)) H)) (op_seed hI (cx _)))
      · exact r1 (m_p7_keep (fun _ _ H => r1 (m_p8_keep (fun _ g ok => brY ok.1 (nx g ok.2)) H)) (op_keep hI (cx _)))
      · exact r1 (m_p7_goBack (fun _ _ H => r1 (m_p8_goBack (fun _ g ok => brY ok.1 (nx g ok.2)) H)) (op_goBack hI (cx _)))
  exact G 512 FUEL 0 h00 (by decide) (by omega) (by omega) INV_00
