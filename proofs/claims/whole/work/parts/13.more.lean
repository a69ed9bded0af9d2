/-! ===== calls by what they give back; joins; the JDK's three of Math; arraycopy ===== -/
def QI (K : Int → HP → Prop) : Option AV → HP → Prop := fun r h => ∃ x, r = some (vI x) ∧ K x h
def QP (h0 : HP) (K : Int → Prop) : Option AV → HP → Prop := fun r h => h = h0 ∧ ∃ x, r = some (vI x) ∧ K x
def QLP (h0 : HP) (K : Int → Prop) : Option AV → HP → Prop := fun r h => h = h0 ∧ ∃ x, r = some (vL x) ∧ K x
def QV (K : HP → Prop) : Option AV → HP → Prop := fun r h => r = none ∧ K h
def FUEL : Nat := 10000
def jn {α : Sort _} (K : α) (B : α → Prop) : Prop := B K
theorem jn_0 {K G : Prop} {B : Prop → Prop} (hb : jn K B) (P : Prop) (h1 : K → P) (h2 : ∀ K', (K' → P) → B K' → G) : G := h2 K h1 hb
theorem jn_1 {α0 : Type} {K : α0 → Prop} {G : Prop} {B : (α0 → Prop) → Prop} (hb : jn K B) (P : α0 → Prop) (h1 : ∀ a0, K a0 → P a0) (h2 : ∀ K' : α0 → Prop, (∀ a0, K' a0 → P a0) → B K' → G) : G := h2 K h1 hb
theorem jn_2 {α0 α1 : Type} {K : α0 → α1 → Prop} {G : Prop} {B : (α0 → α1 → Prop) → Prop} (hb : jn K B) (P : α0 → α1 → Prop) (h1 : ∀ a0 a1, K a0 a1 → P a0 a1) (h2 : ∀ K' : α0 → α1 → Prop, (∀ a0 a1, K' a0 a1 → P a0 a1) → B K' → G) : G := h2 K h1 hb
theorem jn_3 {α0 α1 α2 : Type} {K : α0 → α1 → α2 → Prop} {G : Prop} {B : (α0 → α1 → α2 → Prop) → Prop} (hb : jn K B) (P : α0 → α1 → α2 → Prop) (h1 : ∀ a0 a1 a2, K a0 a1 a2 → P a0 a1 a2) (h2 : ∀ K' : α0 → α1 → α2 → Prop, (∀ a0 a1 a2, K' a0 a1 a2 → P a0 a1 a2) → B K' → G) : G := h2 K h1 hb
theorem jn_4 {α0 α1 α2 α3 : Type} {K : α0 → α1 → α2 → α3 → Prop} {G : Prop} {B : (α0 → α1 → α2 → α3 → Prop) → Prop} (hb : jn K B) (P : α0 → α1 → α2 → α3 → Prop) (h1 : ∀ a0 a1 a2 a3, K a0 a1 a2 a3 → P a0 a1 a2 a3) (h2 : ∀ K' : α0 → α1 → α2 → α3 → Prop, (∀ a0 a1 a2 a3, K' a0 a1 a2 a3 → P a0 a1 a2 a3) → B K' → G) : G := h2 K h1 hb
theorem jn_5 {α0 α1 α2 α3 α4 : Type} {K : α0 → α1 → α2 → α3 → α4 → Prop} {G : Prop} {B : (α0 → α1 → α2 → α3 → α4 → Prop) → Prop} (hb : jn K B) (P : α0 → α1 → α2 → α3 → α4 → Prop) (h1 : ∀ a0 a1 a2 a3 a4, K a0 a1 a2 a3 a4 → P a0 a1 a2 a3 a4) (h2 : ∀ K' : α0 → α1 → α2 → α3 → α4 → Prop, (∀ a0 a1 a2 a3 a4, K' a0 a1 a2 a3 a4 → P a0 a1 a2 a3 a4) → B K' → G) : G := h2 K h1 hb
theorem jn_6 {α0 α1 α2 α3 α4 α5 : Type} {K : α0 → α1 → α2 → α3 → α4 → α5 → Prop} {G : Prop} {B : (α0 → α1 → α2 → α3 → α4 → α5 → Prop) → Prop} (hb : jn K B) (P : α0 → α1 → α2 → α3 → α4 → α5 → Prop) (h1 : ∀ a0 a1 a2 a3 a4 a5, K a0 a1 a2 a3 a4 a5 → P a0 a1 a2 a3 a4 a5) (h2 : ∀ K' : α0 → α1 → α2 → α3 → α4 → α5 → Prop, (∀ a0 a1 a2 a3 a4 a5, K' a0 a1 a2 a3 a4 a5 → P a0 a1 a2 a3 a4 a5) → B K' → G) : G := h2 K h1 hb
theorem jn_7 {α0 α1 α2 α3 α4 α5 α6 : Type} {K : α0 → α1 → α2 → α3 → α4 → α5 → α6 → Prop} {G : Prop} {B : (α0 → α1 → α2 → α3 → α4 → α5 → α6 → Prop) → Prop} (hb : jn K B) (P : α0 → α1 → α2 → α3 → α4 → α5 → α6 → Prop) (h1 : ∀ a0 a1 a2 a3 a4 a5 a6, K a0 a1 a2 a3 a4 a5 a6 → P a0 a1 a2 a3 a4 a5 a6) (h2 : ∀ K' : α0 → α1 → α2 → α3 → α4 → α5 → α6 → Prop, (∀ a0 a1 a2 a3 a4 a5 a6, K' a0 a1 a2 a3 a4 a5 a6 → P a0 a1 a2 a3 a4 a5 a6) → B K' → G) : G := h2 K h1 hb
def mx (x y : Int) : Int := if w32 x < w32 y then y else x
def mn (x y : Int) : Int := if w32 y < w32 x then y else x
def ab (x : Int) : Int := if 0 ≤ w32 x then x else -x
theorem mx_ok (x y : Int) : (if Int32.ofInt x < Int32.ofInt y then Int32.ofInt y else Int32.ofInt x) = Int32.ofInt (mx x y) := by
  unfold mx
  by_cases q : w32 x < w32 y
  · rw [if_pos q, if_pos ((i32lt x y).mpr q)]
  · rw [if_neg q, if_neg (fun z => q ((i32lt x y).mp z))]
theorem mn_ok (x y : Int) : (if Int32.ofInt y < Int32.ofInt x then Int32.ofInt y else Int32.ofInt x) = Int32.ofInt (mn x y) := by
  unfold mn
  by_cases q : w32 y < w32 x
  · rw [if_pos q, if_pos ((i32lt y x).mpr q)]
  · rw [if_neg q, if_neg (fun z => q ((i32lt y x).mp z))]
theorem ab_ok (x : Int) : (if 0 ≤ Int32.ofInt x then Int32.ofInt x else 0 - Int32.ofInt x) = Int32.ofInt (ab x) := by
  unfold ab
  by_cases q : 0 ≤ w32 x
  · rw [if_pos q, if_pos ((i32ge0 x).mpr q)]
  · rw [if_neg q, if_neg (fun z => q ((i32ge0 x).mp z)), i32z, ← Int32.ofInt_sub]
    congr 1
    omega
theorem wl_cpy {ad : Nat → Nat} {cA : Nat → ClassId} {h : HP} {c1 c2 n n2 : Nat} {rs : List Nat} (sa : SHL[c2]? = some (.inr (0, n2, rs))) :
    (wl ad cA h).set c2 (ad c2, .inl (cA 0, n2, .inl (va_cpy (fun j => Int32.ofInt (h c1 j)) (fun j => Int32.ofInt (h c2 j)) 0 0 n))) = wl ad cA (hcpy h c1 0 c2 0 n) := by
  refine wl_set ?_ (fun c' j hc => if_neg (fun q => hc q.1))
  rw [cellE_a sa (by decide)]
  congr 3
  congr 1
  funext j
  unfold va_cpy hcpy
  by_cases hj : j < n
  · rw [if_pos ⟨rfl, Nat.zero_le _, by omega⟩, if_pos ⟨Nat.zero_le _, by omega⟩]
  · rw [if_neg (fun q => hj (by omega)), if_neg (fun q => hj (by omega))]
section DROWS
variable {X : Cx} {cc : ByteArray} {own : String} {nL d pc pn : Nat} {ls : List (Option AV)} {st stk : List AV} {h : HP}
variable {y : MethodName} {bytes : ByteArray} {maxL d2 n idx ci c : Nat} {ret : Option FieldType} {as : List AV} {fs : List Nat}
theorem AW.cVI {K : Int → HP → Prop} (F : Fx X cc own nL d) (hd : decode cc pc = .ok (.invokevirtual idx, 3)) (hp : pc + 3 = pn) (cl : CLV own idx ci y bytes maxL ret n) (so : SHL[c]? = some (.inl (ci, fs))) (hm : MT y bytes maxL ret d2 (vR c :: as) h (QI K)) (hn : as.length = n) (hst : stk = as.reverse ++ vR c :: st) (hcat : catA st ≤ 8) (hdd : d2 + 1 ≤ d) (kk : ∀ x h', K x h' → AW X nL pn ls (vI x :: st) h') : AW X nL pc ls stk h :=
  AW.invV F hd hp cl so hm hn hst hcat hdd (by rintro _ h' ⟨x, rfl, q⟩; exact kk x h' q)
theorem AW.cSI {K : Int → HP → Prop} (F : Fx X cc own nL d) (hd : decode cc pc = .ok (.invokestatic idx, 3)) (hp : pc + 3 = pn) (cl : CLS own idx y bytes maxL ret n) (hm : MT y bytes maxL ret d2 as h (QI K)) (hn : as.length = n) (hst : stk = as.reverse ++ st) (hcat : catA st ≤ 8) (hdd : d2 + 1 ≤ d) (kk : ∀ x h', K x h' → AW X nL pn ls (vI x :: st) h') : AW X nL pc ls stk h :=
  AW.invS F hd hp cl hm hn hst hcat hdd (by rintro _ h' ⟨x, rfl, q⟩; exact kk x h' q)
theorem AW.cVP {K : Int → Prop} (F : Fx X cc own nL d) (hd : decode cc pc = .ok (.invokevirtual idx, 3)) (hp : pc + 3 = pn) (cl : CLV own idx ci y bytes maxL ret n) (so : SHL[c]? = some (.inl (ci, fs))) (hm : MT y bytes maxL ret d2 (vR c :: as) h (QP h K)) (hn : as.length = n) (hst : stk = as.reverse ++ vR c :: st) (hcat : catA st ≤ 8) (hdd : d2 + 1 ≤ d) (kk : ∀ x, K x → AW X nL pn ls (vI x :: st) h) : AW X nL pc ls stk h :=
  AW.invV F hd hp cl so hm hn hst hcat hdd (by rintro _ h' ⟨rfl, x, rfl, q⟩; exact kk x q)
theorem AW.cSP {K : Int → Prop} (F : Fx X cc own nL d) (hd : decode cc pc = .ok (.invokestatic idx, 3)) (hp : pc + 3 = pn) (cl : CLS own idx y bytes maxL ret n) (hm : MT y bytes maxL ret d2 as h (QP h K)) (hn : as.length = n) (hst : stk = as.reverse ++ st) (hcat : catA st ≤ 8) (hdd : d2 + 1 ≤ d) (kk : ∀ x, K x → AW X nL pn ls (vI x :: st) h) : AW X nL pc ls stk h :=
  AW.invS F hd hp cl hm hn hst hcat hdd (by rintro _ h' ⟨rfl, x, rfl, q⟩; exact kk x q)
theorem AW.cVLP {K : Int → Prop} (F : Fx X cc own nL d) (hd : decode cc pc = .ok (.invokevirtual idx, 3)) (hp : pc + 3 = pn) (cl : CLV own idx ci y bytes maxL ret n) (so : SHL[c]? = some (.inl (ci, fs))) (hm : MT y bytes maxL ret d2 (vR c :: as) h (QLP h K)) (hn : as.length = n) (hst : stk = as.reverse ++ vR c :: st) (hcat : catA st ≤ 8) (hdd : d2 + 1 ≤ d) (kk : ∀ x, K x → AW X nL pn ls (vL x :: st) h) : AW X nL pc ls stk h :=
  AW.invV F hd hp cl so hm hn hst hcat hdd (by rintro _ h' ⟨rfl, x, rfl, q⟩; exact kk x q)
theorem AW.cSLP {K : Int → Prop} (F : Fx X cc own nL d) (hd : decode cc pc = .ok (.invokestatic idx, 3)) (hp : pc + 3 = pn) (cl : CLS own idx y bytes maxL ret n) (hm : MT y bytes maxL ret d2 as h (QLP h K)) (hn : as.length = n) (hst : stk = as.reverse ++ st) (hcat : catA st ≤ 8) (hdd : d2 + 1 ≤ d) (kk : ∀ x, K x → AW X nL pn ls (vL x :: st) h) : AW X nL pc ls stk h :=
  AW.invS F hd hp cl hm hn hst hcat hdd (by rintro _ h' ⟨rfl, x, rfl, q⟩; exact kk x q)
theorem AW.cVV {K : HP → Prop} (F : Fx X cc own nL d) (hd : decode cc pc = .ok (.invokevirtual idx, 3)) (hp : pc + 3 = pn) (cl : CLV own idx ci y bytes maxL ret n) (so : SHL[c]? = some (.inl (ci, fs))) (hm : MT y bytes maxL ret d2 (vR c :: as) h (QV K)) (hn : as.length = n) (hst : stk = as.reverse ++ vR c :: st) (hcat : catA st ≤ 8) (hdd : d2 + 1 ≤ d) (kk : ∀ h', K h' → AW X nL pn ls st h') : AW X nL pc ls stk h :=
  AW.invV F hd hp cl so hm hn hst hcat hdd (by rintro _ h' ⟨rfl, q⟩; exact kk h' q)
theorem AW.cSV {K : HP → Prop} (F : Fx X cc own nL d) (hd : decode cc pc = .ok (.invokestatic idx, 3)) (hp : pc + 3 = pn) (cl : CLS own idx y bytes maxL ret n) (hm : MT y bytes maxL ret d2 as h (QV K)) (hn : as.length = n) (hst : stk = as.reverse ++ st) (hcat : catA st ≤ 8) (hdd : d2 + 1 ≤ d) (kk : ∀ h', K h' → AW X nL pn ls st h') : AW X nL pc ls stk h :=
  AW.invS F hd hp cl hm hn hst hcat hdd (by rintro _ h' ⟨rfl, q⟩; exact kk h' q)
theorem AW.mmax {x y : Int} (F : Fx X cc own nL d) (hd : decode cc pc = .ok (.invokestatic idx, 3)) (hp : pc + 3 = pn) (w1 : Cond.methodLink own idx Lib.Math.max.name ∈ cs_TG) (w2 : Cond.static Lib.Math.max.name ∈ cs_TG) (w3 : Cond.initialized "java/lang/Math" ∈ cs_TG) (w4 : Cond.code Lib.Math.max.name Lib.Math.max.code 2 (some .int) ∈ cs_TG) (h1 : 1 ≤ d) (hcat : catA st ≤ 8) (k : AW X nL pn ls (vI (mx x y) :: st) h) : AW X nL pc ls (vI y :: vI x :: st) h := by
  obtain ⟨p, l, e, R, s, m, args, below, meth, c0, Z, D, cA, ad, A, kc, ks⟩ := X
  obtain ⟨hx, hb, hml, hown, hts, hnw, hK, hA, hE, hfr, hlo, hc, hs⟩ := F
  subst hp
  intro H locs arr hP hD hS hl
  refine va_mmax hx hb (hml.trans hl.1.symm) hown (hts _ w1) (hts _ w2) (hts _ w3) (hts _ w4) (by omega) (by rw [catA_ok]; omega) hc hs hd ?_
  rw [mx_ok]
  exact k H locs arr hP hD hS hl
theorem AW.mmin {x y : Int} (F : Fx X cc own nL d) (hd : decode cc pc = .ok (.invokestatic idx, 3)) (hp : pc + 3 = pn) (w1 : Cond.methodLink own idx Lib.Math.min.name ∈ cs_TG) (w2 : Cond.static Lib.Math.min.name ∈ cs_TG) (w3 : Cond.initialized "java/lang/Math" ∈ cs_TG) (w4 : Cond.code Lib.Math.min.name Lib.Math.min.code 2 (some .int) ∈ cs_TG) (h1 : 1 ≤ d) (hcat : catA st ≤ 8) (k : AW X nL pn ls (vI (mn x y) :: st) h) : AW X nL pc ls (vI y :: vI x :: st) h := by
  obtain ⟨p, l, e, R, s, m, args, below, meth, c0, Z, D, cA, ad, A, kc, ks⟩ := X
  obtain ⟨hx, hb, hml, hown, hts, hnw, hK, hA, hE, hfr, hlo, hc, hs⟩ := F
  subst hp
  intro H locs arr hP hD hS hl
  refine va_mmin hx hb (hml.trans hl.1.symm) hown (hts _ w1) (hts _ w2) (hts _ w3) (hts _ w4) (by omega) (by rw [catA_ok]; omega) hc hs hd ?_
  rw [mn_ok]
  exact k H locs arr hP hD hS hl
theorem AW.mabs {x : Int} (F : Fx X cc own nL d) (hd : decode cc pc = .ok (.invokestatic idx, 3)) (hp : pc + 3 = pn) (w1 : Cond.methodLink own idx Lib.Math.abs.name ∈ cs_TG) (w2 : Cond.static Lib.Math.abs.name ∈ cs_TG) (w3 : Cond.initialized "java/lang/Math" ∈ cs_TG) (w4 : Cond.code Lib.Math.abs.name Lib.Math.abs.code 1 (some .int) ∈ cs_TG) (h1 : 1 ≤ d) (hcat : catA st ≤ 8) (k : AW X nL pn ls (vI (ab x) :: st) h) : AW X nL pc ls (vI x :: st) h := by
  obtain ⟨p, l, e, R, s, m, args, below, meth, c0, Z, D, cA, ad, A, kc, ks⟩ := X
  obtain ⟨hx, hb, hml, hown, hts, hnw, hK, hA, hE, hfr, hlo, hc, hs⟩ := F
  subst hp
  intro H locs arr hP hD hS hl
  refine va_mabs hx hb (hml.trans hl.1.symm) hown (hts _ w1) (hts _ w2) (hts _ w3) (hts _ w4) (by omega) (by rw [catA_ok]; omega) hc hs hd ?_
  rw [ab_ok]
  exact k H locs arr hP hD hS hl
theorem AW.acpy {c1 c2 n1 n2 : Nat} (n : Nat) {rs1 rs2 : List Nat} {z : Int} {K : HP → Prop} (F : Fx X cc own nL d) (hd : decode cc pc = .ok (.invokestatic idx, 3)) (hp : pc + 3 = pn) (w1 : Cond.methodLink own idx arraycopyName ∈ cs_TG) (w2 : Cond.native arraycopyName ∈ cs_TG) (w3 : Cond.static arraycopyName ∈ cs_TG) (w4 : Cond.initialized "java/lang/System" ∈ cs_TG) (s1 : SHL[c1]? = some (.inr (0, n1, rs1))) (s2 : SHL[c2]? = some (.inr (0, n2, rs2))) (hz : z = (n : Int)) (hn1 : n ≤ n1) (hn2 : n ≤ n2) (hnn : n < 2 ^ 31) (h1 : 1 ≤ d) (hcat : catA st ≤ 8) (hk : cpw h c1 c2 n K) (kk : ∀ h', K h' → AW X nL pn ls st h') : AW X nL pc ls (vI z :: vI 0 :: vR c2 :: vI 0 :: vR c1 :: st) h := by
  obtain ⟨p, l, e, R, s, m, args, below, meth, c0, Z, D, cA, ad, A, kc, ks⟩ := X
  obtain ⟨hx, hb, hml, hown, hts, hnw, hK, hA, hE, hfr, hlo, hc, hs⟩ := F
  subst hp; subst hz
  intro H locs arr hP hD hS hl
  have hz0 : (Int32.ofInt 0).toNatClampNeg = 0 := by decide
  have hzn : (Int32.ofInt (n : Int)).toNatClampNeg = n := by rw [Int32.ofInt_eq_ofNat]; exact nI_clamp hnn
  have hn0 : ¬ Int32.ofInt (n : Int) < 0 := by rw [Int32.ofInt_eq_ofNat]; exact nI_pos hnn
  refine va_copyi (ty := .int) hx hb (hml.trans hl.1.symm) hown (hts _ w1) (hts _ w2) (hts _ w3) (hts _ w4) hK hP hD hS c1 c2 0 0 (wl_a s1 (by decide)) (wl_a s2 (by decide)) rfl rfl rfl (by decide) (by decide) hn0 (by rw [hz0, hzn]; omega) (by rw [hz0, hzn]; omega) (fun i _ => rfl) (by omega) ?_ hd (fun H1 locs1 hP1 hD1 hS1 => ?_)
  · rw [catA_ok]
    show catA st + (7 + 11) ≤ R.locals
    omega
  · rw [hz0, hzn, wl_cpy s2] at hP1 hD1
    exact kk _ hk H1 locs1 arr hP1 hD1 hS1 hl
end DROWS
