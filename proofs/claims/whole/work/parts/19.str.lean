section SROWS
variable {X : Cx} {cc : ByteArray} {nL d pc pn : Nat} {ls : List (Option AV)} {st : List AV} {h : HP}
theorem AW.ldcS0 (F : Fx X cc RX2 nL d) (hd : decode cc pc = .ok (.ldc 55, 2)) (hp : pc + 2 = pn) (k : AW X nL pn ls (vR 1000 :: st) h) : AW X nL pc ls st h := by
  obtain ⟨p, l, e, R, s, m, args, below, meth, c, Z, D, cA, ad, A, kc, ks⟩ := X
  obtain ⟨hx, hb, hml, hown, hts, hnw, hK, hA, hE, hf, hlo, hc, hs⟩ := F
  subst hp
  intro H locs arr hP hD hS hl
  exact va_ldcS hx hb hown hE.1.1 hd (k H locs arr hP hD hS hl)
theorem AW.slen0 (F : Fx X cc RX2 nL d) (hd : decode cc pc = .ok (.invokevirtual 114, 3)) (hp : pc + 3 = pn) (h1 : 8 ≤ d) (hcat : catA st ≤ 8) (k : AW X nL pn ls (vI 5 :: st) h) : AW X nL pc ls (vR 1000 :: st) h := sorry
theorem AW.schr0 {i : Int} {K : Int → Prop} (F : Fx X cc RX2 nL d) (hd : decode cc pc = .ok (.invokevirtual 119, 3)) (hp : pc + 3 = pn) (h1 : 8 ≤ d) (hcat : catA st ≤ 8) (hb : rdS 0 i K) (kk : ∀ v, K v → AW X nL pn ls (vI v :: st) h) : AW X nL pc ls (vI i :: vR 1000 :: st) h := sorry
theorem AW.ldcS1 (F : Fx X cc RX2 nL d) (hd : decode cc pc = .ok (.ldc 67, 2)) (hp : pc + 2 = pn) (k : AW X nL pn ls (vR 1001 :: st) h) : AW X nL pc ls st h := by
  obtain ⟨p, l, e, R, s, m, args, below, meth, c, Z, D, cA, ad, A, kc, ks⟩ := X
  obtain ⟨hx, hb, hml, hown, hts, hnw, hK, hA, hE, hf, hlo, hc, hs⟩ := F
  subst hp
  intro H locs arr hP hD hS hl
  exact va_ldcS hx hb hown hE.1.2.1 hd (k H locs arr hP hD hS hl)
theorem AW.slen1 (F : Fx X cc RX2 nL d) (hd : decode cc pc = .ok (.invokevirtual 114, 3)) (hp : pc + 3 = pn) (h1 : 8 ≤ d) (hcat : catA st ≤ 8) (k : AW X nL pn ls (vI 5 :: st) h) : AW X nL pc ls (vR 1001 :: st) h := sorry
theorem AW.schr1 {i : Int} {K : Int → Prop} (F : Fx X cc RX2 nL d) (hd : decode cc pc = .ok (.invokevirtual 119, 3)) (hp : pc + 3 = pn) (h1 : 8 ≤ d) (hcat : catA st ≤ 8) (hb : rdS 1 i K) (kk : ∀ v, K v → AW X nL pn ls (vI v :: st) h) : AW X nL pc ls (vI i :: vR 1001 :: st) h := sorry
theorem AW.ldcS2 (F : Fx X cc RX2 nL d) (hd : decode cc pc = .ok (.ldc 72, 2)) (hp : pc + 2 = pn) (k : AW X nL pn ls (vR 1002 :: st) h) : AW X nL pc ls st h := by
  obtain ⟨p, l, e, R, s, m, args, below, meth, c, Z, D, cA, ad, A, kc, ks⟩ := X
  obtain ⟨hx, hb, hml, hown, hts, hnw, hK, hA, hE, hf, hlo, hc, hs⟩ := F
  subst hp
  intro H locs arr hP hD hS hl
  exact va_ldcS hx hb hown hE.1.2.2 hd (k H locs arr hP hD hS hl)
theorem AW.slen2 (F : Fx X cc RX2 nL d) (hd : decode cc pc = .ok (.invokevirtual 114, 3)) (hp : pc + 3 = pn) (h1 : 8 ≤ d) (hcat : catA st ≤ 8) (k : AW X nL pn ls (vI 5 :: st) h) : AW X nL pc ls (vR 1002 :: st) h := sorry
theorem AW.schr2 {i : Int} {K : Int → Prop} (F : Fx X cc RX2 nL d) (hd : decode cc pc = .ok (.invokevirtual 119, 3)) (hp : pc + 3 = pn) (h1 : 8 ≤ d) (hcat : catA st ≤ 8) (hb : rdS 2 i K) (kk : ∀ v, K v → AW X nL pn ls (vI v :: st) h) : AW X nL pc ls (vI i :: vR 1002 :: st) h := sorry
end SROWS
