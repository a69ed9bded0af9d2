set_option maxHeartbeats 4000000 in
theorem h_eval {args : Array Value} {s : State} {own : String} {k : Nat} {v : Value} (h : (Term.string own k).eval args s none [] s = some v) : (Term.string own k).eval #[] s none [] s = some v := h
set_option maxHeartbeats 4000000 in
theorem ex_of {s : State} {args : Array Value} {A : Nat → Prop} (hts0 : ∀ (i : Nat) {w : Cond}, tables_1[i]? = some w → w.before args s = true) (hgv : (Jvm.Cond.and given_1 narrow_1).before args s = true) (hA : ∀ a : Nat, a < s.heap.size → ¬ A a) (b : Nat) : ∃ ad0 : Nat → Nat, ad0 3000 = b ∧ cs_EX ad0 A s s.heap := by
  have hs := flat_of_before _ hgv
  obtain ⟨adK, adV, hS, hR⟩ := vk_Sof (args := args) (s := s) (N := 3) (tm := fun i => Term.string "CastOffs$Reader" (if i = 0 then 55 else if i = 1 then 67 else 72)) (len := [5, 5, 5]) (byt := [[115, 111, 114, 116, 115], [104, 111, 117, 115, 101], [119, 111, 114, 116, 104]]) (A := A)
    (fun i hi => by
      match i, hi with
      | 0, _ => decide
      | 1, _ => decide
      | 2, _ => decide)
    (fun i hi => by
      match i, hi with
      | 0, _ => exact hs _ (by decide +kernel)
      | 1, _ => exact hs _ (by decide +kernel)
      | 2, _ => exact hs _ (by decide +kernel))
    (fun i hi => by
      match i, hi with
      | 0, _ => exact hs _ (by decide +kernel)
      | 1, _ => exact hs _ (by decide +kernel)
      | 2, _ => exact hs _ (by decide +kernel))
    (fun i hi => by
      match i, hi with
      | 0, _ => exact hs _ (by decide +kernel)
      | 1, _ => exact hs _ (by decide +kernel)
      | 2, _ => exact hs _ (by decide +kernel))
    (fun i hi => by
      match i, hi with
      | 0, _ => exact hs _ (by decide +kernel)
      | 1, _ => exact hs _ (by decide +kernel)
      | 2, _ => exact hs _ (by decide +kernel))
    (fun i hi j hj => by
      match i, hi with
      | 0, _ => match j, hj with
        | 0, _ => exact hs _ (by decide +kernel)
        | 1, _ => exact hs _ (by decide +kernel)
        | 2, _ => exact hs _ (by decide +kernel)
        | 3, _ => exact hs _ (by decide +kernel)
        | 4, _ => exact hs _ (by decide +kernel)
      | 1, _ => match j, hj with
        | 0, _ => exact hs _ (by decide +kernel)
        | 1, _ => exact hs _ (by decide +kernel)
        | 2, _ => exact hs _ (by decide +kernel)
        | 3, _ => exact hs _ (by decide +kernel)
        | 4, _ => exact hs _ (by decide +kernel)
      | 2, _ => match j, hj with
        | 0, _ => exact hs _ (by decide +kernel)
        | 1, _ => exact hs _ (by decide +kernel)
        | 2, _ => exact hs _ (by decide +kernel)
        | 3, _ => exact hs _ (by decide +kernel)
        | 4, _ => exact hs _ (by decide +kernel))
    (fun i j hi hj hij => by
      match i, hi, j, hj, hij with
      | 0, _, 0, _, h => exact absurd rfl h
      | 0, _, 1, _, _ => exact Or.inl (hs _ (by decide +kernel))
      | 0, _, 2, _, _ => exact Or.inl (hs _ (by decide +kernel))
      | 1, _, 0, _, _ => exact Or.inr (hs _ (by decide +kernel))
      | 1, _, 1, _, h => exact absurd rfl h
      | 1, _, 2, _, _ => exact Or.inl (hs _ (by decide +kernel))
      | 2, _, 0, _, _ => exact Or.inr (hs _ (by decide +kernel))
      | 2, _, 1, _, _ => exact Or.inr (hs _ (by decide +kernel))
      | 2, _, 2, _, h => exact absurd rfl h) hA
  obtain ⟨ad0, k0, k1, k2⟩ : ∃ ad0 : Nat → Nat, ad0 3000 = b ∧ (∀ i, i < 3 → ad0 (1000 + i) = adK i) ∧ (∀ i, i < 3 → ad0 (1010 + i) = adV i) := by
    refine ⟨fun k => if k = 3000 then b else if k < 1010 then adK (k - 1000) else adV (k - 1010), rfl, fun i hi => ?_, fun i hi => ?_⟩
    · show (if 1000 + i = 3000 then b else if 1000 + i < 1010 then adK (1000 + i - 1000) else adV (1000 + i - 1010)) = adK i
      rw [if_neg (by omega), if_pos (by omega), show 1000 + i - 1000 = i from by omega]
    · show (if 1010 + i = 3000 then b else if 1010 + i < 1010 then adK (1010 + i - 1000) else adV (1010 + i - 1010)) = adV i
      rw [if_neg (by omega), if_neg (by omega), show 1010 + i - 1010 = i from by omega]
  refine ⟨ad0, k0, ⟨?_, ?_, ?_⟩, ?_, ?_, ?_⟩
  · rw [k1 0 (by decide)]; exact vk_R.of (hts0 358 (by decide +kernel)) (hR 0 (by decide))
  · rw [k1 1 (by decide)]; exact vk_R.of (hts0 434 (by decide +kernel)) (hR 1 (by decide))
  · rw [k1 2 (by decide)]; exact vk_R.of (hts0 439 (by decide +kernel)) (hR 2 (by decide))
  · refine ⟨fun i hi => ?_, fun i j hi hj h => ?_⟩
    · have := hS.1 i hi
      simp only [k1 i hi, k2 i hi]
      exact this
    · refine hS.2 i j hi hj ?_
      simp only [k1 i hi, k1 j hj] at h
      exact h
  · exact va_Zof (hts0 372 (by decide +kernel)) (hts0 12 (by decide +kernel)) (va_eqt (hs _ (by decide +kernel))) hA
  · exact va_Zqof (hts0 388 (by decide +kernel)) (hts0 14 (by decide +kernel)) (hs _ (by decide +kernel)) hA
