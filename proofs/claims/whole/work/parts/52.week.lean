/-! ===== PURE: a week ===== -/
def tsF (W : Nat → Int) (x : Int) : Nat → HP → Nat → HP
  | 0, V, _ => V
  | m + 1, V, p => if V 2 p = x ∧ lV V W x (V 1 p) = 0 then tsF W x m (tossV V x p) (p + 1) else tsF W x m V (p + 1)
def tkV (W : Nat → Int) (x : Int) (V : HP) : HP := if btV V W x = -1 then V else takeV V x (btV V W x).toNat
def hwV (W : Nat → Int) (x : Int) (V : HP) : HP := tsF W x (nP V) (tkV W x V) 0
def wkH (W : Nat → Int) : Nat → HP → Nat → HP
  | 0, V, _ => V
  | m + 1, V, x => wkH W m (hwV W x V) (x + 1)
def wkT (W : Nat → Int) : Nat → HP → Nat → Int
  | 0, _, _ => 0
  | m + 1, V, x => (if btV V W x = -1 then 0 else 1) + wkT W m (hwV W x V) (x + 1)
def wkV (W : Nat → Int) (n : Nat) (V : HP) : HP := hset (wkH W n V 0) 0 1 (V 0 1 + 1)
def nsd (v : Int) : Int := (v * 1103515245 + 12345) % 2147483648
def comeV (s : Int) (V : HP) : HP := addV (hset V 0 2 (nsd (V 0 2))) (nsd (V 0 2) / 65536 % s)
def cvV (d s : Int) (V : HP) : HP := if d = 1 ∧ V 0 0 < 32 then comeV s V else V
def wsH (d s : Int) (W : Nat → Int) (n : Nat) : Nat → HP → HP
  | 0, V => V
  | m + 1, V => wsH d s W n m (wkV W n (cvV d s V))
def wsT (d s : Int) (W : Nat → Int) (n : Nat) : Nat → HP → Int
  | 0, _ => 0
  | m + 1, V => wkT W n (cvV d s V) 0 + wsT d s W n m (wkV W n (cvV d s V))
theorem tsF_Y {W : Nat → Int} {x : Int} {m p : Nat} {V : HP} (c : V 2 p = x ∧ lV V W x (V 1 p) = 0) : tsF W x (m + 1) V p = tsF W x m (tossV V x p) (p + 1) := if_pos c
theorem tsF_N {W : Nat → Int} {x : Int} {m p : Nat} {V : HP} (c : ¬ (V 2 p = x ∧ lV V W x (V 1 p) = 0)) : tsF W x (m + 1) V p = tsF W x m V (p + 1) := if_neg c
/-! row 0 -/
theorem nP_f0 {V : HP} {j : Nat} {v : Int} (hj : j ≠ 0) : nP (hset V 0 j v) = nP V := by unfold nP; rw [hset_rn (Ne.symm hj)]
theorem cO_f0 {V : HP} {j : Nat} {v : Int} (hj : j ≠ 0) (x : Int) : cO (hset V 0 j v) x = cO V x := cO_eq (hset_rn (Ne.symm hj)) (fun q _ => by rw [hset_c (by decide)]) x
theorem cS_f0 {V : HP} {j : Nat} {v : Int} (hj : j ≠ 0) (x k : Int) : cS (hset V 0 j v) x k = cS V x k := cS_eq (hset_rn (Ne.symm hj)) (fun q _ => by rw [hset_c (by decide)]) (fun q _ => by rw [hset_c (by decide)]) x k
theorem wf_f0 {s n : Int} {V : HP} {j : Nat} {v : Int} (hV : wfV s n V) (hj : j = 1 ∨ (j = 2 ∧ 0 ≤ v ∧ v < 2147483648)) : wfV s n (hset V 0 j v) := by
  obtain ⟨a1, a2, a3, a4, a5, a6⟩ := hV
  have e0 : hset V 0 j v 0 0 = V 0 0 := hset_rn (by omega)
  have e2 : 0 ≤ hset V 0 j v 0 2 ∧ hset V 0 j v 0 2 < 2147483648 := by
    rcases hj with rfl | ⟨rfl, h1, h2⟩
    · rw [hset_rn (by decide)]; exact ⟨a5, a6⟩
    · rw [hset_rs]; exact ⟨h1, h2⟩
  refine ⟨by rw [e0]; exact a1, by rw [e0]; exact a2, fun p hp => ?_, fun y h1 h2 => by rw [cO_f0 (by omega)]; exact a4 y h1 h2, e2.1, e2.2⟩
  rw [e0] at hp
  unfold okP
  rw [hset_c (by decide), hset_c (by decide), hset_c (by decide), hset_c (by decide)]
  exact a3 p hp
theorem SI.f0 {b j : Nat} {h : HP} {v : Int} (hb : 13 ≤ b) (hI : SI b h) (hj : j = 1 ∨ (j = 2 ∧ 0 ≤ v ∧ v < 2147483648)) : SI b (hset h b (j + 1) v) := by
  have e2 : hset h b (j + 1) v 2 = h 2 := hset_c (by omega)
  have hv : VC b (hset h b (j + 1) v) = hset (VC b h) 0 j v := VC_fld (by omega)
  refine ⟨by rw [e2]; exact hI.1, by rw [e2, hv]; exact wf_f0 hI.2.1 hj, fun y hy => ?_, fun y k hy hk => ?_⟩
  · rw [e2] at hy
    rw [hv, cO_f0 (by omega), hset_c (by omega)]; exact hI.2.2.1 y hy
  · rw [e2] at hy hk
    rw [hv, cS_f0 (by omega), hset_c (by omega)]; exact hI.2.2.2 y k hy hk
/-! all is kept well -/
section WF
variable {s n : Int} {W : Nat → Int}
theorem ts_wf {x : Int} (hx : 0 ≤ x) (hx2 : x < n) : ∀ (m p : Nat) (V : HP), wfV s n V → p + m ≤ nP V → wfV s n (tsF W x m V p) ∧ (tsF W x m V p) 0 = V 0
  | 0, p, V, hV, _ => ⟨hV, rfl⟩
  | m + 1, p, V, hV, hp => by
    by_cases c : V 2 p = x ∧ lV V W x (V 1 p) = 0
    · rw [tsF_Y c]
      have e0 : tossV V x p 0 = V 0 := toss_c (by decide) (by decide)
      have := ts_wf hx hx2 m (p + 1) (tossV V x p) (wf_toss hV (by omega) c.1 hx hx2) (by unfold nP; rw [e0]; show p + 1 + m ≤ nP V; omega)
      rw [e0] at this
      exact this
    · rw [tsF_N c]
      exact ts_wf hx hx2 m (p + 1) V hV (by omega)
theorem tk_wf {x : Int} (hx : 0 ≤ x) (hx2 : x < n) {V : HP} (hV : wfV s n V) : wfV s n (tkV W x V) ∧ (tkV W x V) 0 = V 0 := by
  unfold tkV
  rcases btV_sp V W x with q | ⟨q, q1, q2, q3, q4⟩
  · rw [if_pos q]; exact ⟨hV, rfl⟩
  · rw [if_neg (by rw [q2]; omega), q2]
    exact ⟨wf_take hV q1 q3 hx hx2, take_c (by decide)⟩
theorem hw_wf {x : Int} (hx : 0 ≤ x) (hx2 : x < n) {V : HP} (hV : wfV s n V) : wfV s n (hwV W x V) ∧ (hwV W x V) 0 = V 0 := by
  have t := tk_wf (W := W) hx hx2 hV
  have := ts_wf (W := W) hx hx2 (nP V) 0 (tkV W x V) t.1 (by unfold nP; rw [t.2]; omega)
  exact ⟨this.1, this.2.trans t.2⟩
theorem wkH_wf : ∀ (m x : Nat) (V : HP), wfV s n V → (x : Int) + m ≤ n → wfV s n (wkH W m V x) ∧ (wkH W m V x) 0 = V 0
  | 0, _, V, hV, _ => ⟨hV, rfl⟩
  | m + 1, x, V, hV, hx => by
    have t := hw_wf (W := W) (x := x) (by omega) (by omega) hV
    have := wkH_wf m (x + 1) (hwV W x V) t.1 (by omega)
    exact ⟨this.1, this.2.trans t.2⟩
theorem wk_wf {N : Nat} (hN : (N : Int) = n) {V : HP} (hV : wfV s n V) : wfV s n (wkV W N V) ∧ (wkV W N V) 0 0 = V 0 0 ∧ (wkV W N V) 0 2 = V 0 2 := by
  have t := wkH_wf (W := W) N 0 V hV (by omega)
  exact ⟨wf_f0 t.1 (Or.inl rfl), by unfold wkV; rw [hset_rn (by decide), t.2], by unfold wkV; rw [hset_rn (by decide), t.2]⟩
theorem nsd_bd (v : Int) : 0 ≤ nsd v ∧ nsd v < 2147483648 := by unfold nsd; omega
theorem come_wf (hs : okSt s n) (hs0 : 0 < s) {V : HP} (hV : wfV s n V) (hc : V 0 0 < 32) : wfV s n (comeV s V) := by
  have b := nsd_bd (V 0 2)
  refine wf_add (wf_f0 hV (Or.inr ⟨rfl, b⟩)) hs.2.2.1 (Int.emod_nonneg _ (by omega)) (Int.emod_lt_of_pos _ hs0) ?_
  rw [hset_rn (by decide)]; exact hc
theorem cv_wf {d : Int} (hs : okSt s n) (hs0 : d = 1 → 0 < s) {V : HP} (hV : wfV s n V) : wfV s n (cvV d s V) := by
  unfold cvV
  by_cases c : d = 1 ∧ V 0 0 < 32
  · rw [if_pos c]; exact come_wf hs (hs0 c.1) hV c.2
  · rw [if_neg c]; exact hV
theorem ws_wf {d : Int} {N : Nat} (hs : okSt s n) (hs0 : d = 1 → 0 < s) (hN : (N : Int) = n) : ∀ (m : Nat) (V : HP), wfV s n V → wfV s n (wsH d s W N m V)
  | 0, V, hV => hV
  | m + 1, V, hV => ws_wf hs hs0 hN m _ (wk_wf hN (cv_wf hs hs0 hV)).1
/-! the same of the same -/
variable {W' : Nat → Int}
theorem eqv.r0 {V V' : HP} (e : eqv V V') : nP V' = nP V := e.nn.symm
theorem ok4 {V : HP} (hV : wfV s n V) : ∀ q : Nat, (q : Int) < V 0 0 → 0 ≤ V 4 q ∧ V 4 q ≤ 20 := fun q hq => by
  have := hV.2.2.1 q hq
  unfold okP at this
  exact ⟨this.2.2.2.2.2.2.2.1, this.2.2.2.2.2.2.2.2⟩
theorem eqv.ts (hs : okSt s n) (hw : ∀ j, j < 30 → W' j = W j) {x : Int} (hx : 0 ≤ x) (hx2 : x < n) : ∀ (m p : Nat) (V V' : HP), eqv V V' → wfV s n V → p + m ≤ nP V → eqv (tsF W x m V p) (tsF W' x m V' p)
  | 0, p, V, V', e, _, _ => e
  | m + 1, p, V, V', e, hV, hp => by
    have hpv : (p : Int) < V 0 0 := lt_nP (by omega)
    have hk := hV.2.2.1 p hpv
    unfold okP at hk
    unfold okSt at hs
    have e1 := e.2.1 1 p (by decide) (by decide) hpv
    have e2 := e.2.1 2 p (by decide) (by decide) hpv
    have el := e.lo (W := W) (W' := W') x (V 1 p) (hw _ (by omega))
    by_cases c : V 2 p = x ∧ lV V W x (V 1 p) = 0
    · rw [tsF_Y c, tsF_Y ⟨by rw [← e2]; exact c.1, by rw [← e1, el]; exact c.2⟩]
      have e0 : tossV V x p 0 = V 0 := toss_c (by decide) (by decide)
      exact eqv.ts hs hw hx hx2 m (p + 1) _ _ (e.toss x p) (wf_toss hV (by omega) c.1 hx hx2) (by unfold nP; rw [e0]; show p + 1 + m ≤ nP V; omega)
    · rw [tsF_N c, tsF_N (fun z => c ⟨by rw [e2]; exact z.1, by have := z.2; rw [← e1, el] at this; exact this⟩)]
      exact eqv.ts hs hw hx hx2 m (p + 1) _ _ e hV (by omega)
theorem eqv.bt' (hs : okSt s n) (hw : ∀ j, j < 30 → W' j = W j) {x : Int} (hx : 0 ≤ x) (hx2 : x < n) {V V' : HP} (e : eqv V V') (hV : wfV s n V) : btV V' W' x = btV V W x :=
  e.bt hV (fun k h1 h2 => hw _ (by unfold okSt at hs; omega))
theorem eqv.hw (hs : okSt s n) (hw : ∀ j, j < 30 → W' j = W j) {x : Int} (hx : 0 ≤ x) (hx2 : x < n) {V V' : HP} (e : eqv V V') (hV : wfV s n V) : eqv (hwV W x V) (hwV W' x V') := by
  have eb := e.bt' hs hw hx hx2 hV
  have t := tk_wf (W := W) hx hx2 hV
  have ek : eqv (tkV W x V) (tkV W' x V') := by
    unfold tkV
    rw [eb]
    rcases btV_sp V W x with q | ⟨q, q1, q2, q3, q4⟩
    · rw [if_pos q, if_pos q]; exact e
    · rw [if_neg (by rw [q2]; omega), if_neg (by rw [q2]; omega), q2]
      have hq := ok4 hV q (lt_nP q1)
      exact e.take x (lt_nP q1) hq.1 hq.2 (ok4 hV)
  unfold hwV
  rw [e.r0]
  exact eqv.ts hs hw hx hx2 (nP V) 0 _ _ ek t.1 (by unfold nP; rw [t.2]; omega)
theorem eqv.wkH (hs : okSt s n) (hw : ∀ j, j < 30 → W' j = W j) : ∀ (m x : Nat) (V V' : HP), eqv V V' → wfV s n V → (x : Int) + m ≤ n → eqv (wkH W m V x) (wkH W' m V' x) ∧ wkT W' m V' x = wkT W m V x
  | 0, _, V, V', e, _, _ => ⟨e, rfl⟩
  | m + 1, x, V, V', e, hV, hx => by
    have t := hw_wf (W := W) (x := x) (by omega) (by omega) hV
    have := eqv.wkH hs hw m (x + 1) _ _ (e.hw hs hw (x := x) (by omega) (by omega) hV) t.1 (by omega)
    refine ⟨this.1, ?_⟩
    show (if btV V' W' x = -1 then 0 else 1) + wkT W' m (hwV W' x V') (x + 1) = (if btV V W x = -1 then 0 else 1) + wkT W m (hwV W x V) (x + 1)
    rw [e.bt' hs hw (by omega) (by omega) hV, this.2]
theorem eqv.f0 {V V' : HP} (e : eqv V V') {j : Nat} (hj : j ≠ 0) (v : Int) : eqv (hset V 0 j v) (hset V' 0 j v) := by
  refine ⟨fun i hi => ?_, fun i p h1 h2 hp => ?_, fun p i hp hi => ?_⟩
  · by_cases c : i = j
    · subst c; rw [hset_rs, hset_rs]
    · rw [hset_rn c, hset_rn c]; exact e.1 i hi
  · rw [hset_rn (Ne.symm hj)] at hp
    rw [hset_c (by omega), hset_c (by omega)]; exact e.2.1 i p h1 h2 hp
  · rw [hset_rn (Ne.symm hj)] at hp
    rw [hset_c (by decide)] at hi
    rw [hset_c (by decide), hset_c (by decide)]; exact e.2.2 p i hp hi
theorem eqv.wk (hs : okSt s n) (hw : ∀ j, j < 30 → W' j = W j) {N : Nat} (hN : (N : Int) = n) {V V' : HP} (e : eqv V V') (hV : wfV s n V) : eqv (wkV W N V) (wkV W' N V') ∧ wkT W' N V' 0 = wkT W N V 0 := by
  have := eqv.wkH hs hw N 0 V V' e hV (by omega)
  refine ⟨?_, this.2⟩
  unfold wkV
  rw [← e.1 1 (by decide)]
  exact this.1.f0 (by decide) _
theorem eqv.cv {d : Int} {V V' : HP} (e : eqv V V') (hV : wfV s n V) : eqv (cvV d s V) (cvV d s V') := by
  unfold cvV
  rw [← e.1 0 (by decide)]
  by_cases c : d = 1 ∧ V 0 0 < 32
  · rw [if_pos c, if_pos c]
    unfold comeV
    rw [← e.1 2 (by decide)]
    refine (e.f0 (by decide) _).add _ ?_
    rw [hset_rn (by decide)]; exact hV.1
  · rw [if_neg c, if_neg c]; exact e
theorem eqv.ws {d : Int} (hs : okSt s n) (hs0 : d = 1 → 0 < s) (hw : ∀ j, j < 30 → W' j = W j) {N : Nat} (hN : (N : Int) = n) : ∀ (m : Nat) (V V' : HP), eqv V V' → wfV s n V → eqv (wsH d s W N m V) (wsH d s W' N m V') ∧ wsT d s W' N m V' = wsT d s W N m V
  | 0, V, V', e, _ => ⟨e, rfl⟩
  | m + 1, V, V', e, hV => by
    have hc := cv_wf (d := d) hs hs0 hV
    have t := (e.cv (d := d) hV).wk hs hw hN hc
    have := eqv.ws (d := d) hs hs0 hw hN m _ _ t.1 (wk_wf hN hc).1
    refine ⟨this.1, ?_⟩
    show wkT W' N (cvV d s V') 0 + wsT d s W' N m (wkV W' N (cvV d s V')) = wkT W N (cvV d s V) 0 + wsT d s W N m (wkV W N (cvV d s V))
    rw [t.2, this.2]
end WF
/-! the week's number does nothing -/
section STILL
variable {W : Nat → Int} {v : Int}
theorem hset_cm {V : HP} {c j c' j' : Nat} {a b : Int} (hn : c ≠ c' ∨ j ≠ j') : hset (hset V c j a) c' j' b = hset (hset V c' j' b) c j a := by
  funext x y
  simp only [hset_at]
  by_cases q1 : x = c' ∧ y = j'
  · rw [if_pos q1, if_neg (by omega)]
    rw [if_pos q1]
  · rw [if_neg q1]
    by_cases q2 : x = c ∧ y = j
    · rw [if_pos q2, if_pos q2]
    · rw [if_neg q2, if_neg q2, if_neg q1]
theorem hset_ov {V : HP} {c j : Nat} {a b : Int} : hset (hset V c j a) c j b = hset V c j b := by
  funext x y
  simp only [hset_at]
  by_cases q1 : x = c ∧ y = j
  · rw [if_pos q1, if_pos q1]
  · rw [if_neg q1, if_neg q1, if_neg q1]
theorem hset_sf {V : HP} {c j : Nat} : hset V c j (V c j) = V := by
  funext x y
  rw [hset_at]
  by_cases q1 : x = c ∧ y = j
  · rw [if_pos q1, q1.1, q1.2]
  · rw [if_neg q1]
theorem ga_f0 {V : HP} (x k : Int) : gV (hset V 0 1 v) W x k = gV V W x k := by unfold gV; rw [cS_f0 (by decide)]
theorem lo_f0 {V : HP} (x k : Int) : lV (hset V 0 1 v) W x k = lV V W x k := by unfold lV; rw [cS_f0 (by decide)]
theorem may_f0 {V : HP} (x : Int) (p : Nat) : mayT (hset V 0 1 v) x p ↔ mayT V x p := by
  unfold mayT
  rw [cO_f0 (by decide), hset_c (by decide), hset_c (by decide)]
theorem bt_f0 {V : HP} (x : Int) : btV (hset V 0 1 v) W x = btV V W x := by
  have L : ∀ (m p : Nat) (b g : Int), btF (hset V 0 1 v) W x m b g p = btF V W x m b g p := by
    intro m
    induction m with
    | zero => intro p b g; rfl
    | succ m ih =>
      intro p b g
      have e1 : hset V 0 1 v 1 = V 1 := hset_c (by decide)
      by_cases c : mayT V x p ∧ g < gV V W x (V 1 p)
      · rw [btF_Y c, btF_Y ⟨(may_f0 x p).mpr c.1, by rw [e1, ga_f0]; exact c.2⟩, e1, ga_f0, ih]
      · rw [btF_N c, btF_N (fun z => c ⟨(may_f0 x p).mp z.1, by have := z.2; rw [e1, ga_f0] at this; exact this⟩), ih]
  unfold btV
  rw [nP_f0 (by decide), L]
theorem toss_f0 {V : HP} (x : Int) (p : Nat) : tossV (hset V 0 1 v) x p = hset (tossV V x p) 0 1 v := by
  unfold tossV
  rw [hset_cm (c := 0) (c' := 2) (Or.inl (by decide)), hset_cm (c := 0) (c' := 3) (Or.inl (by decide))]
theorem take_f0 {V : HP} (x : Int) (p : Nat) : takeV (hset V 0 1 v) x p = hset (takeV V x p) 0 1 v := by
  unfold takeV
  rw [show hset V 0 1 v 4 = V 4 from hset_c (by decide)]
  by_cases c : V 4 p < 20
  · rw [if_pos c, if_pos c, hset_cm (c := 0) (c' := 2) (Or.inl (by decide)), hset_cm (c := 0) (c' := 3) (Or.inl (by decide)), hset_cm (c := 0) (c' := 5) (Or.inl (by decide)), hset_cm (c := 0) (c' := 4) (Or.inl (by decide))]
  · rw [if_neg c, if_neg c, hset_cm (c := 0) (c' := 2) (Or.inl (by decide)), hset_cm (c := 0) (c' := 3) (Or.inl (by decide))]
theorem ts_f0 (x : Int) : ∀ (m p : Nat) (V : HP), tsF W x m (hset V 0 1 v) p = hset (tsF W x m V p) 0 1 v
  | 0, _, _ => rfl
  | m + 1, p, V => by
    have e1 : hset V 0 1 v 1 = V 1 := hset_c (by decide)
    have e2 : hset V 0 1 v 2 = V 2 := hset_c (by decide)
    by_cases c : V 2 p = x ∧ lV V W x (V 1 p) = 0
    · rw [tsF_Y c, tsF_Y ⟨by rw [e2]; exact c.1, by rw [e1, lo_f0]; exact c.2⟩, toss_f0, ts_f0]
    · rw [tsF_N c, tsF_N (fun z => c ⟨by rw [← e2]; exact z.1, by have := z.2; rw [e1, lo_f0] at this; exact this⟩), ts_f0]
theorem hw_f0 (x : Int) (V : HP) : hwV W x (hset V 0 1 v) = hset (hwV W x V) 0 1 v := by
  unfold hwV
  rw [nP_f0 (by decide), ← ts_f0]
  congr 1
  unfold tkV
  rw [bt_f0]
  by_cases c : btV V W x = -1
  · rw [if_pos c, if_pos c]
  · rw [if_neg c, if_neg c, take_f0]
theorem wkH_f0 : ∀ (m x : Nat) (V : HP), wkH W m (hset V 0 1 v) x = hset (wkH W m V x) 0 1 v ∧ wkT W m (hset V 0 1 v) x = wkT W m V x
  | 0, _, _ => ⟨rfl, rfl⟩
  | m + 1, x, V => by
    have := wkH_f0 m (x + 1) (hwV W x V)
    constructor
    · show wkH W m (hwV W x (hset V 0 1 v)) (x + 1) = hset (wkH W m (hwV W x V) (x + 1)) 0 1 v
      rw [hw_f0]; exact this.1
    · show (if btV (hset V 0 1 v) W x = -1 then 0 else 1) + wkT W m (hwV W x (hset V 0 1 v)) (x + 1) = (if btV V W x = -1 then 0 else 1) + wkT W m (hwV W x V) (x + 1)
      rw [hw_f0, bt_f0, this.2]
theorem still {d s : Int} {N : Nat} {V : HP} (h1 : wkH W N V 0 = V) (h2 : wkT W N V 0 = 0) (h3 : ¬ (d = 1 ∧ V 0 0 < 32)) : ∀ (m : Nat) (w : Int), wsH d s W N m (hset V 0 1 w) = hset V 0 1 (w + m) ∧ wsT d s W N m (hset V 0 1 w) = 0
  | 0, w => ⟨by rw [show w + ((0 : Nat) : Int) = w from by omega]; rfl, rfl⟩
  | m + 1, w => by
    have hc : cvV d s (hset V 0 1 w) = hset V 0 1 w := by
      unfold cvV
      rw [if_neg (by rw [hset_rn (by decide)]; exact h3)]
    have hk : wkV W N (hset V 0 1 w) = hset V 0 1 (w + 1) := by
      unfold wkV
      rw [(wkH_f0 N 0 V).1, h1, hset_rs, hset_ov]
    have := still (d := d) (s := s) h1 h2 h3 m (w + 1)
    constructor
    · show wsH d s W N m (wkV W N (cvV d s (hset V 0 1 w))) = _
      rw [hc, hk, this.1]
      congr 1
      omega
    · show wkT W N (cvV d s (hset V 0 1 w)) 0 + wsT d s W N m (wkV W N (cvV d s (hset V 0 1 w))) = 0
      rw [hc, hk, this.2, (wkH_f0 N 0 V).2, h2]; rfl
end STILL
