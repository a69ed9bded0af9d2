theorem tv_363 : (Cond.methodLink "CastOffs$Reader" (114 : Nat) ({ cls := "java/lang/String", name := "length", desc := "()I" } : MethodName)) ∈ cs_TG := cs_tgm 363 (by decide +kernel) rfl
theorem tv_364 : (Cond.instanceMethod ({ cls := "java/lang/String", name := "length", desc := "()I" } : MethodName)) ∈ cs_TG := cs_tgm 364 (by decide +kernel) rfl
theorem tv_365 : (Cond.selects "java/lang/String" ({ cls := "java/lang/String", name := "length", desc := "()I" } : MethodName) ({ cls := "java/lang/String", name := "length", desc := "()I" } : MethodName)) ∈ cs_TG := cs_tgm 365 (by decide +kernel) rfl
theorem tv_366 : (Cond.code ({ cls := "java/lang/String", name := "length", desc := "()I" } : MethodName) prog_12_method_54_code (1 : Nat) (Option.some FieldType.int)) ∈ cs_TG := cs_tgm 366 (by decide +kernel) rfl
theorem tv_373 : (Cond.methodLink "CastOffs$Reader" (119 : Nat) ({ cls := "java/lang/String", name := "charAt", desc := "(I)C" } : MethodName)) ∈ cs_TG := cs_tgm 373 (by decide +kernel) rfl
theorem tv_374 : (Cond.instanceMethod ({ cls := "java/lang/String", name := "charAt", desc := "(I)C" } : MethodName)) ∈ cs_TG := cs_tgm 374 (by decide +kernel) rfl
theorem tv_375 : (Cond.selects "java/lang/String" ({ cls := "java/lang/String", name := "charAt", desc := "(I)C" } : MethodName) ({ cls := "java/lang/String", name := "charAt", desc := "(I)C" } : MethodName)) ∈ cs_TG := cs_tgm 375 (by decide +kernel) rfl
theorem tv_376 : (Cond.code ({ cls := "java/lang/String", name := "charAt", desc := "(I)C" } : MethodName) prog_12_method_56_code (2 : Nat) (Option.some FieldType.char)) ∈ cs_TG := cs_tgm 376 (by decide +kernel) rfl
theorem tv_367 : (Cond.methodLink "java/lang/String" (335 : Nat) ({ cls := "java/lang/String", name := "coder", desc := "()B" } : MethodName)) ∈ cs_TG := cs_tgm 367 (by decide +kernel) rfl
theorem tv_368 : (Cond.instanceMethod ({ cls := "java/lang/String", name := "coder", desc := "()B" } : MethodName)) ∈ cs_TG := cs_tgm 368 (by decide +kernel) rfl
theorem tv_369 : (Cond.selects "java/lang/String" ({ cls := "java/lang/String", name := "coder", desc := "()B" } : MethodName) ({ cls := "java/lang/String", name := "coder", desc := "()B" } : MethodName)) ∈ cs_TG := cs_tgm 369 (by decide +kernel) rfl
theorem tv_370 : (Cond.code ({ cls := "java/lang/String", name := "coder", desc := "()B" } : MethodName) prog_12_method_152_code (1 : Nat) (Option.some FieldType.byte)) ∈ cs_TG := cs_tgm 370 (by decide +kernel) rfl
theorem tv_377 : (Cond.methodLink "java/lang/String" (492 : Nat) ({ cls := "java/lang/String", name := "isLatin1", desc := "()Z" } : MethodName)) ∈ cs_TG := cs_tgm 377 (by decide +kernel) rfl
theorem tv_378 : (Cond.instanceMethod ({ cls := "java/lang/String", name := "isLatin1", desc := "()Z" } : MethodName)) ∈ cs_TG := cs_tgm 378 (by decide +kernel) rfl
theorem tv_379 : (Cond.selects "java/lang/String" ({ cls := "java/lang/String", name := "isLatin1", desc := "()Z" } : MethodName) ({ cls := "java/lang/String", name := "isLatin1", desc := "()Z" } : MethodName)) ∈ cs_TG := cs_tgm 379 (by decide +kernel) rfl
theorem tv_380 : (Cond.code ({ cls := "java/lang/String", name := "isLatin1", desc := "()Z" } : MethodName) prog_12_method_154_code (1 : Nat) (Option.some FieldType.boolean)) ∈ cs_TG := cs_tgm 380 (by decide +kernel) rfl
theorem tv_381 : (Cond.methodLink "java/lang/String" (495 : Nat) ({ cls := "java/lang/StringLatin1", name := "charAt", desc := "([BI)C" } : MethodName)) ∈ cs_TG := cs_tgm 381 (by decide +kernel) rfl
theorem tv_382 : (Cond.static ({ cls := "java/lang/StringLatin1", name := "charAt", desc := "([BI)C" } : MethodName)) ∈ cs_TG := cs_tgm 382 (by decide +kernel) rfl
theorem tv_13 : (Cond.initialized "java/lang/StringLatin1") ∈ cs_TG := cs_tgm 13 (by decide +kernel) rfl
theorem tv_383 : (Cond.code ({ cls := "java/lang/StringLatin1", name := "charAt", desc := "([BI)C" } : MethodName) prog_13_method_2_code (2 : Nat) (Option.some FieldType.char)) ∈ cs_TG := cs_tgm 383 (by decide +kernel) rfl
theorem tv_384 : (Cond.methodLink "java/lang/StringLatin1" (9 : Nat) ({ cls := "java/lang/String", name := "checkIndex", desc := "(II)V" } : MethodName)) ∈ cs_TG := cs_tgm 384 (by decide +kernel) rfl
theorem tv_385 : (Cond.static ({ cls := "java/lang/String", name := "checkIndex", desc := "(II)V" } : MethodName)) ∈ cs_TG := cs_tgm 385 (by decide +kernel) rfl
theorem tv_12 : (Cond.initialized "java/lang/String") ∈ cs_TG := cs_tgm 12 (by decide +kernel) rfl
theorem tv_386 : (Cond.code ({ cls := "java/lang/String", name := "checkIndex", desc := "(II)V" } : MethodName) prog_12_method_155_code (2 : Nat) (Option.none : Option FieldType)) ∈ cs_TG := cs_tgm 386 (by decide +kernel) rfl
theorem tv_389 : (Cond.methodLink "java/lang/String" (1059 : Nat) ({ cls := "jdk/internal/util/Preconditions", name := "checkIndex", desc := "(IILjava/util/function/BiFunction;)I" } : MethodName)) ∈ cs_TG := cs_tgm 389 (by decide +kernel) rfl
theorem tv_390 : (Cond.static ({ cls := "jdk/internal/util/Preconditions", name := "checkIndex", desc := "(IILjava/util/function/BiFunction;)I" } : MethodName)) ∈ cs_TG := cs_tgm 390 (by decide +kernel) rfl
theorem tv_14 : (Cond.initialized "jdk/internal/util/Preconditions") ∈ cs_TG := cs_tgm 14 (by decide +kernel) rfl
theorem tv_391 : (Cond.code ({ cls := "jdk/internal/util/Preconditions", name := "checkIndex", desc := "(IILjava/util/function/BiFunction;)I" } : MethodName) prog_17_method_11_code (3 : Nat) (Option.some FieldType.int)) ∈ cs_TG := cs_tgm 391 (by decide +kernel) rfl
theorem tv_1230 : (Cond.fieldLink "java/lang/String" (9 : Nat) "java/lang/String" "value" "[B") ∈ cs_TG := cs_tgm 1230 (by decide +kernel) rfl
theorem tv_1231 : (Cond.fieldLink "java/lang/String" (15 : Nat) "java/lang/String" "coder" "B") ∈ cs_TG := cs_tgm 1231 (by decide +kernel) rfl
theorem tv_371 : (Cond.fieldLink "java/lang/String" (38 : Nat) "java/lang/String" "COMPACT_STRINGS" "Z") ∈ cs_TG := cs_tgm 371 (by decide +kernel) rfl
theorem tv_387 : (Cond.fieldLink "java/lang/String" (1053 : Nat) "jdk/internal/util/Preconditions" "SIOOBE_FORMATTER" "Ljava/util/function/BiFunction;") ∈ cs_TG := cs_tgm 387 (by decide +kernel) rfl
section SROWS
variable {X : Cx} {cc : ByteArray} {own : String} {nL d pc pn : Nat} {ls : List (Option AV)} {st stk : List AV} {h : HP}
theorem AW.nret {x : Int} {ty : FieldType} {Q : Option AV → HP → Prop} (F : Fx X cc own nL d) (G : Rx X (some ty) Q) (hd : decode cc pc = .ok (.ireturn, 1)) (hn : narrow ty (.int (Int32.ofInt x)) = .int (Int32.ofInt x)) (hq : Q (some (vI x)) h) : AW X nL pc ls [vI x] h := by
  obtain ⟨p, l, e, R, s, m, args, below, meth, c, Z, D, cA, ad, A, kc, ks⟩ := X
  obtain ⟨hx, hb, hml, hown, hts, hnw, hK, hA, hE, hf, hlo, hc, hs⟩ := F
  intro H locs arr hP hD hS hl
  obtain ⟨hr, hlk, Qc, free, rfl, hfr, hQ⟩ := G
  exact W.zret hx hb hr hn (fun t ht hW => hQ t H locs (some (vI x)) h ht hW hP hS hq) (fun q hq2 => hfr _ (hS.2.2 q hq2)) hd
/-- a call upon a String constant -/
theorem AW.invVS {y : MethodName} {bytes : ByteArray} {maxL d2 n idx k : Nat} {ret : Option FieldType} {as : List AV} {Q : Option AV → HP → Prop} (hk : k < 3) (F : Fx X cc own nL d) (hd : decode cc pc = .ok (.invokevirtual idx, 3)) (hp : pc + 3 = pn) (hy : y.cls = "java/lang/String") (c3 : Cond.methodLink own idx y ∈ cs_TG) (c4 : Cond.instanceMethod y ∈ cs_TG) (c5 : Cond.selects y.cls y y ∈ cs_TG) (c6 : Cond.initialized y.cls ∈ cs_TG) (c7 : Cond.code y bytes maxL ret ∈ cs_TG) (c8 : y.cls ≠ "java/lang/invoke/MethodHandle" ∧ y.cls ≠ "java/lang/invoke/VarHandle" ∧ (parseMethodDescriptor y.desc).map (fun d => d.parameters.length) = some n) (c9 : maxL ≤ 21) (hm : MT y bytes maxL ret d2 (vR (1000 + k) :: as) h Q) (hn : as.length = n) (hst : stk = as.reverse ++ vR (1000 + k) :: st) (hcat : catA st ≤ 8) (hdd : d2 + 1 ≤ d)
    (kk : ∀ r h', Q r h' → AW X nL pn ls (r.toList ++ st) h') : AW X nL pc ls stk h := by
  obtain ⟨p, l, e, R, s, m, args, below, meth, c0, Z, D, cA, ad, A, kc, ks⟩ := X
  obtain ⟨hx, hb, hml, hown, hts, hnw, hK, hA, hE, hfr, hlo, hc, hs⟩ := F
  subst hp
  intro H locs arr hP hD hS hl
  have hR : (rmD d2).frames + 1 ≤ R.frames ∧ 8 + (maxL + 11) + (rmD d2).locals ≤ R.locals := ⟨Nat.le_trans hdd hfr, by show 8 + (maxL + 11) + 40 * d2 ≤ R.locals; omega⟩
  have hrecv : ∃ cell : Cell, H[ad (1000 + k)]? = some cell ∧ cell.vm.isStatics = false ∧ s.vm.findClass y.cls = some cell.cls := by
    rw [hy]; exact vk_recv (adK := fun i => ad (1000 + i)) hE.2.1 hk hS
  have hpre : PreV s H y.cls (ad (1000 + k)) (va_Pc ((vR (1000 + k) :: as).map (cv ad)) (WU D cA ad h H.size)) (as.map (cv ad)) :=
    ⟨WU.blind, hrecv, fun U hU hW => ⟨rfl, cs_WU hP hD hS hK hnw hE hA hU hW⟩⟩
  have hstk : stk.map (cv ad) = (as.map (cv ad)).reverse ++ .ref (ad (1000 + k)) :: st.map (cv ad) := by
    rw [hst, List.map_append, List.map_reverse]; rfl
  refine cs_after (a := ((vR (1000 + k) :: as).map (cv ad)).toArray) (h := h) (Q := Q) (st := st) (ls := ls) (nL := nL) ?_ hD hS hA hl kk
  exact va_runV (C := y.cls) (nL := nL) (Ts := cs_TG) ⟨hx, hb, hml, hown, hts⟩ (hm l D cA ad H.size) (cwV (C := y.cls) n hts (by
        intro w hw
        rcases List.mem_append.mp hw with hw | hw
        · rcases List.mem_cons.mp hw with rfl | hw
          · exact ⟨c3, tg_good c3⟩
          rcases List.mem_cons.mp hw with rfl | hw
          · exact ⟨c4, tg_good c4⟩
          rcases List.mem_cons.mp hw with rfl | hw
          · exact ⟨c5, tg_good c5⟩
          rcases List.mem_cons.mp hw with rfl | hw
          · exact ⟨c6, tg_good c6⟩
          cases hw
        · exact tg_goodIn c7 w hw) rfl rfl rfl ⟨rfl, c8⟩ hR) hpre rfl (by rw [List.length_map]; exact hn) hl.1 hstk (lv_room (by rw [catA_ok]; exact hcat)) hd ⟨hc, hs⟩
theorem AW.gsV {k : Nat} (hk : k < 3) (F : Fx X cc RJ0 nL d) (hd : decode cc pc = .ok (.getfield 9, 3)) (hp : pc + 3 = pn) (kk : AW X nL pn ls (vR (1010 + k) :: st) h) : AW X nL pc ls (vR (1000 + k) :: st) h := by
  obtain ⟨p, l, e, R, s, m, args, below, meth, c, Z, D, cA, ad, A, kc, ks⟩ := X
  obtain ⟨hx, hb, hml, hown, hts, hnw, hK, hA, hE, hf, hlo, hc, hs⟩ := F
  subst hp
  intro H locs arr hP hD hS hl
  exact vk_getf hx hb (hE.2.1.1 k hk).2.2.1 hS hown (hts _ tv_1230) (fun _ q => q) hd (kk H locs arr hP hD hS hl)
theorem AW.gsC {k : Nat} (hk : k < 3) (F : Fx X cc RJ0 nL d) (hd : decode cc pc = .ok (.getfield 15, 3)) (hp : pc + 3 = pn) (kk : AW X nL pn ls (vI 0 :: st) h) : AW X nL pc ls (vR (1000 + k) :: st) h := by
  obtain ⟨p, l, e, R, s, m, args, below, meth, c, Z, D, cA, ad, A, kc, ks⟩ := X
  obtain ⟨hx, hb, hml, hown, hts, hnw, hK, hA, hE, hf, hlo, hc, hs⟩ := F
  subst hp
  intro H locs arr hP hD hS hl
  exact vk_getf hx hb (hE.2.1.1 k hk).2.1 hS hown (hts _ tv_1231) (fun _ q => q) hd (kk H locs arr hP hD hS hl)
theorem AW.gsS (F : Fx X cc RJ0 nL d) (hd : decode cc pc = .ok (.getstatic 38, 3)) (hp : pc + 3 = pn) (kk : AW X nL pn ls (vI 1 :: st) h) : AW X nL pc ls st h := by
  obtain ⟨p, l, e, R, s, m, args, below, meth, c, Z, D, cA, ad, A, kc, ks⟩ := X
  obtain ⟨hx, hb, hml, hown, hts, hnw, hK, hA, hE, hf, hlo, hc, hs⟩ := F
  subst hp
  intro H locs arr hP hD hS hl
  exact va_gets hx hb hE.2.2.1 hS hown (hts _ tv_371) (fun _ q => q) hd (kk H locs arr hP hD hS hl)
theorem AW.gsL {k : Nat} (hk : k < 3) (F : Fx X cc own nL d) (hd : decode cc pc = .ok (.arraylength, 1)) (hp : pc + 1 = pn) (kk : AW X nL pn ls (vI 5 :: st) h) : AW X nL pc ls (vR (1010 + k) :: st) h := by
  obtain ⟨p, l, e, R, s, m, args, below, meth, c, Z, D, cA, ad, A, kc, ks⟩ := X
  obtain ⟨hx, hb, hml, hown, hts, hnw, hK, hA, hE, hf, hlo, hc, hs⟩ := F
  subst hp
  intro H locs arr hP hD hS hl
  refine va_tlen hx hb (hE.2.1.1 k hk).2.2.2 hS (v := Int32.ofInt 5) ?_ hd (kk H locs arr hP hD hS hl)
  match k, hk with
  | 0, _ => rfl
  | 1, _ => rfl
  | 2, _ => rfl
theorem AW.gsB {k : Nat} {i : Int} {K : Int → Prop} (hk : k < 3) (F : Fx X cc own nL d) (hd : decode cc pc = .ok (.baload, 1)) (hp : pc + 1 = pn) (hr : rdS k i K) (kk : ∀ v, K v → AW X nL pn ls (vI v :: st) h) : AW X nL pc ls (vI i :: vR (1010 + k) :: st) h := by
  obtain ⟨p, l, e, R, s, m, args, below, meth, c, Z, D, cA, ad, A, kc, ks⟩ := X
  obtain ⟨hx, hb, hml, hown, hts, hnw, hK, hA, hE, hf, hlo, hc, hs⟩ := F
  subst hp
  intro H locs arr hP hD hS hl
  have hlen : ([5, 5, 5] : List Nat).getD k 0 = 5 := by
    match k, hk with
    | 0, _ => rfl
    | 1, _ => rfl
    | 2, _ => rfl
  have hlt : ix i < 5 := by have := hr.1; unfold inb at this; unfold ix; omega
  refine va_tb hx hb (hE.2.1.1 k hk).2.2.2 hS (by rw [hlen]; exact inb_in hr.1) (v := .int (Int32.ofInt ((strB k).getD (ix i) 0))) ?_ hd (kk _ hr.2 H locs arr hP hD hS hl)
  rw [ix_cl hr.1]
  generalize ix i = j at hlt
  match k, hk, j, hlt with
  | 0, _, 0, _ => rfl
  | 0, _, 1, _ => rfl
  | 0, _, 2, _ => rfl
  | 0, _, 3, _ => rfl
  | 0, _, 4, _ => rfl
  | 1, _, 0, _ => rfl
  | 1, _, 1, _ => rfl
  | 1, _, 2, _ => rfl
  | 1, _, 3, _ => rfl
  | 1, _, 4, _ => rfl
  | 2, _, 0, _ => rfl
  | 2, _, 1, _ => rfl
  | 2, _, 2, _ => rfl
  | 2, _, 3, _ => rfl
  | 2, _, 4, _ => rfl
theorem cs_chk (l : Launch) (i n : Int) (v : Value) (hv : v.category = 1) (h1 : 0 ≤ w32 i) (h2 : w32 i < w32 n) : Met l yJ3_checkIndex_8e157 (.code yJ3_checkIndex_8e157 cJ3_checkIndex_8e157 3 (some .int) :: cs_TG) (rmD 1) (fun a _ => a = ([.int (Int32.ofInt i), .int (Int32.ofInt n), v] : List Value).toArray) (fun _ st oc t => oc = .returned (some (.int (Int32.ofInt i))) ∧ t.heap = st.heap) 0 0 (fun _ => False) := by
  refine Met.ofW (cc := cJ3_checkIndex_8e157) (maxL := 3) (ret := some .int) (by decide) rfl ?_
  intro p e s m args below meth c s₁ B hml hv2
  subst hv2
  have hx := B.exec
  have hb := B.bytes
  have hr := B.returns
  have hlocks := B.notSynchronized
  have hl := lv_entry ([.int (Int32.ofInt i), .int (Int32.ofInt n), v]) (n := 3) (by cases v <;> first | (exact Nat.le_of_ble_eq_true rfl) | (cases hv))
  rw [lg_entry_eq]
  generalize (lg_sl ([.int (Int32.ofInt i), .int (Int32.ofInt n), v]) ++ List.replicate (3 - (lg_sl ([.int (Int32.ofInt i), .int (Int32.ofInt n), v])).length) Slot.unset).toArray = ls at hl ⊢
  have h0' : ls[0]? = some (.val (.int (Int32.ofInt i))) := lv_at hl 0 rfl
  have h1' : ls[1]? = some (.val (.int (Int32.ofInt n))) := lv_at hl 1 rfl
  refine lv_iload_n hx hb dJ3_checkIndex_8e157_0 rfl h0' ?_
  refine lv_if_lt (tgt := 9) hx hb dJ3_checkIndex_8e157_1 (by decide) (fun q => absurd ((i32lt0 i).mp q) (by omega)) (fun _ => ?_)
  refine lv_iload_n hx hb dJ3_checkIndex_8e157_4 rfl h0' ?_
  refine lv_iload_n hx hb dJ3_checkIndex_8e157_5 rfl h1' ?_
  refine lv_icmp_lt (tgt := 16) hx hb dJ3_checkIndex_8e157_6 (by decide) (fun _ => ?_) (fun q => absurd ((i32lt i n).mpr h2) q)
  refine lv_iload_n hx hb dJ3_checkIndex_8e157_16 rfl h0' ?_
  exact W.iret hx hb hr (fun t ht hW => ⟨rfl, ht⟩) (fun q hq => by cases hq) dJ3_checkIndex_8e157_17
theorem AW.chk {i n : Int} (F : Fx X cJ0_checkIndex_df160 RJ0 nL d) (h1 : 0 ≤ w32 i) (h2 : w32 i < w32 n) (hd3 : 3 ≤ d) (kk : AW X nL 8 ls [vI i] h) : AW X nL 2 ls [vI n, vI i] h := by
  obtain ⟨p, l, e, R, s, m, args, below, meth, c, Z, D, cA, ad, A, kc, ks⟩ := X
  obtain ⟨hx, hb, hml, hown, hts, hnw, hK, hA, hE, hf, hlo, hc, hs⟩ := F
  intro H locs arr hP hD hS hl
  have fin : ∀ v : Value, v.category = 1 → W p l e R s m args below meth c H locs kc ks Z (F0 m 5 arr (v :: .int (Int32.ofInt n) :: .int (Int32.ofInt i) :: [])) := by
    intro v hv
    have hR : (rmD 1).frames + 1 ≤ R.frames ∧ 8 + (3 + 11) + (rmD 1).locals ≤ R.locals := ⟨by show 1 + 1 ≤ R.frames; omega, by show 8 + (3 + 11) + 40 * 1 ≤ R.locals; omega⟩
    have hr := va_runS (nL := nL) (Ts := cs_TG) (As := [.int (Int32.ofInt i), .int (Int32.ofInt n), v]) (rest := []) (g := F0 m 5 arr (v :: .int (Int32.ofInt n) :: .int (Int32.ofInt i) :: [])) (e := e) (below := below) (meth := meth) (locs := locs) (cells := kc) (slots := ks) (H := H) ⟨hx, hb, hml, hown, hts⟩ (cs_chk l i n v hv h1 h2) ⟨callB_of 3 hts (tg_goodIn tv_391) rfl rfl rfl (hts _ tv_14) (hts _ tv_389) ⟨by decide +kernel, by decide +kernel, by decide +kernel⟩ hR, hts _ tv_390⟩ ⟨fun _ _ _ _ q => q, fun _ _ _ => rfl⟩ rfl rfl hl.1 rfl (lv_room (by decide)) dJ0_checkIndex_df160_5 ⟨hc, hs⟩
    intro T hT X
    obtain ⟨v', st₀, t, T', L, h0', X', hL, e1, e2, ⟨hv', hh⟩, stp⟩ := hr T hT X
    cases hv'
    have hhe : T'.heap = H := by rw [e1, hh, h0']
    have hS' : va_S A s.heap T'.heap (locs ++ L) := by
      rw [hhe]
      exact ⟨hS.1, hS.2.1, fun q hq => by
        rcases List.mem_append.mp hq with z | z
        · exact hS.2.2 q z
        · exact (hL q z).elim⟩
    obtain ⟨t2, a1, b1⟩ := kk T'.heap (locs ++ L) arr (by rw [hhe]; exact hP) hD hS' hl T' rfl X'
    exact ⟨t2, stp t2 a1, b1⟩
  rcases hE.2.2.2 with hz | ⟨t, hz⟩
  · exact va_gets hx hb hz hS hown (hts _ tv_387) (fun _ q => q) dJ0_checkIndex_df160_2 (fin .null rfl)
  · exact va_gets hx hb hz hS hown (hts _ tv_387) (fun _ q => q) dJ0_checkIndex_df160_2 (fin (.ref t) rfl)
end SROWS
theorem mt_check (i n : Int) (h1 : 0 ≤ w32 i) (h2 : w32 i < w32 n) {h : HP} {K : HP → Prop} (hk : K h) : MT yJ0_checkIndex_df160 cJ0_checkIndex_df160 2 none 3 [vI i, vI n] h (QV K) := by
  refine MT.of (own := RJ0) (by decide) rfl (Nat.le_of_ble_eq_true rfl) rfl (fun X F G => ?_)
  refine AW.iload_n (pn := 1) F dJ0_checkIndex_df160_0 rfl rfl rfl ?_
  refine AW.iload_n (pn := 2) F dJ0_checkIndex_df160_1 rfl rfl rfl ?_
  refine AW.chk F h1 h2 (by decide) ?_
  refine AW.popI (pn := 9) F dJ0_checkIndex_df160_8 rfl ?_
  exact AW.vret F G dJ0_checkIndex_df160_9 ⟨rfl, hk⟩
theorem cl_l1_9 : CLS RJ1 9 yJ0_checkIndex_df160 cJ0_checkIndex_df160 2 none 2 := ⟨tv_384, tv_385, tv_12, tv_386, ⟨by decide +kernel, by decide +kernel, by decide +kernel⟩, by decide⟩
theorem cl_s_495 : CLS RJ0 495 yJ1_charAt_3b067 cJ1_charAt_3b067 2 (some .char) 2 := ⟨tv_381, tv_382, tv_13, tv_383, ⟨by decide +kernel, by decide +kernel, by decide +kernel⟩, by decide⟩
theorem strB_ch (k j : Nat) (hk : k < 3) (hj : j < 5) : ch (ia ((strB k).getD j 0) 255) = (strB k).getD j 0 := by
  match k, hk, j, hj with
  | 0, _, 0, _ => decide
  | 0, _, 1, _ => decide
  | 0, _, 2, _ => decide
  | 0, _, 3, _ => decide
  | 0, _, 4, _ => decide
  | 1, _, 0, _ => decide
  | 1, _, 1, _ => decide
  | 1, _, 2, _ => decide
  | 1, _, 3, _ => decide
  | 1, _, 4, _ => decide
  | 2, _, 0, _ => decide
  | 2, _, 1, _ => decide
  | 2, _, 2, _ => decide
  | 2, _, 3, _ => decide
  | 2, _, 4, _ => decide
theorem mt_l1 (k : Nat) (hk : k < 3) (i : Int) {h : HP} {K : Int → Prop} (hb : rdS k i K) : MT yJ1_charAt_3b067 cJ1_charAt_3b067 2 (some .char) 4 [vR (1010 + k), vI i] h (QP h K) := by
  refine MT.of (own := RJ1) (by decide) rfl (Nat.le_of_ble_eq_true rfl) rfl (fun X F G => ?_)
  have hin := hb.1
  have hlt : ix i < 5 := by unfold inb at hin; unfold ix; omega
  refine AW.iload_n (pn := 1) F dJ1_charAt_3b067_0 rfl rfl rfl ?_
  refine AW.aload_n (pn := 2) F dJ1_charAt_3b067_1 rfl rfl rfl ?_
  refine AW.gsL (pn := 3) hk F dJ1_charAt_3b067_2 rfl ?_
  refine AW.cSV (pn := 6) (st := []) (K := fun h' => h' = h) F dJ1_charAt_3b067_3 rfl cl_l1_9 (mt_check i 5 (by unfold inb at hin; omega) (by unfold inb at hin; rw [show w32 5 = 5 from by decide]; omega) rfl) rfl rfl (by decide) (by decide) (fun h' hh => ?_)
  subst hh
  refine AW.aload_n (pn := 7) F dJ1_charAt_3b067_6 rfl rfl rfl ?_
  refine AW.iload_n (pn := 8) F dJ1_charAt_3b067_7 rfl rfl rfl ?_
  refine AW.gsB (pn := 9) (K := fun v => v = (strB k).getD (ix i) 0) hk F dJ1_charAt_3b067_8 rfl ⟨hin, rfl⟩ (fun v hv => ?_)
  refine AW.sipush (pn := 12) F dJ1_charAt_3b067_9 rfl (by decide) ?_
  refine AW.iand (pn := 13) F dJ1_charAt_3b067_12 rfl ?_
  refine AW.i2c (pn := 14) F dJ1_charAt_3b067_13 rfl ?_
  have e : ch (ia v 255) = (strB k).getD (ix i) 0 := by rw [hv]; exact strB_ch k _ hk hlt
  refine AW.nret F G dJ1_charAt_3b067_14 ?_ ⟨rfl, _, rfl, by rw [e]; exact hb.2⟩
  show Value.int _ = Value.int _
  rw [← vp_nar_char, nar_char]
  congr 2
  unfold ch
  unfold w32
  omega
theorem mt_lat (k : Nat) (hk : k < 3) {h : HP} {K : Int → Prop} (hb : K 1) : MT yJ0_isLatin1_aae02 cJ0_isLatin1_aae02 1 (some .boolean) 1 [vR (1000 + k)] h (QP h K) := by
  refine MT.of (own := RJ0) (by decide) rfl (Nat.le_of_ble_eq_true rfl) rfl (fun X F G => ?_)
  refine AW.gsS (pn := 3) F dJ0_isLatin1_aae02_0 rfl ?_
  refine AW.if_eq (pn := 6) (tg := 17) (a := False) (b := True) F dJ0_isLatin1_aae02_3 rfl (by decide) ⟨fun q => absurd q (by decide), fun _ => trivial⟩ (fun q => q.elim) (fun _ => ?_)
  refine AW.aload_n (pn := 7) F dJ0_isLatin1_aae02_6 rfl rfl rfl ?_
  refine AW.gsC (pn := 10) hk F dJ0_isLatin1_aae02_7 rfl ?_
  refine AW.if_ne (pn := 13) (tg := 17) (a := True) (b := False) F dJ0_isLatin1_aae02_10 rfl (by decide) ⟨fun _ => trivial, fun q => absurd (by decide) q⟩ (fun q => q.elim) (fun _ => ?_)
  refine AW.iconst (pn := 14) F dJ0_isLatin1_aae02_13 rfl ?_
  refine AW.goto (tg := 18) F dJ0_isLatin1_aae02_14 (by decide) ?_
  exact AW.zret F G dJ0_isLatin1_aae02_18 (by decide) ⟨rfl, _, rfl, hb⟩
theorem mt_coder (k : Nat) (hk : k < 3) {h : HP} {K : Int → Prop} (hb : K 0) : MT yJ0_coder_7d493 cJ0_coder_7d493 1 (some .byte) 1 [vR (1000 + k)] h (QP h K) := by
  refine MT.of (own := RJ0) (by decide) rfl (Nat.le_of_ble_eq_true rfl) rfl (fun X F G => ?_)
  refine AW.gsS (pn := 3) F dJ0_coder_7d493_0 rfl ?_
  refine AW.if_eq (pn := 6) (tg := 13) (a := False) (b := True) F dJ0_coder_7d493_3 rfl (by decide) ⟨fun q => absurd q (by decide), fun _ => trivial⟩ (fun q => q.elim) (fun _ => ?_)
  refine AW.aload_n (pn := 7) F dJ0_coder_7d493_6 rfl rfl rfl ?_
  refine AW.gsC (pn := 10) hk F dJ0_coder_7d493_7 rfl ?_
  refine AW.goto (tg := 14) F dJ0_coder_7d493_10 (by decide) ?_
  exact AW.nret F G dJ0_coder_7d493_14 (by decide) ⟨rfl, _, rfl, hb⟩
theorem mt_len (k : Nat) (hk : k < 3) {h : HP} {K : Int → Prop} (hb : K 5) : MT yJ0_length_8abf5 cJ0_length_8abf5 1 (some .int) 2 [vR (1000 + k)] h (QP h K) := by
  refine MT.of (own := RJ0) (by decide) rfl (Nat.le_of_ble_eq_true rfl) rfl (fun X F G => ?_)
  refine AW.aload_n (pn := 1) F dJ0_length_8abf5_0 rfl rfl rfl ?_
  refine AW.gsV (pn := 4) hk F dJ0_length_8abf5_1 rfl ?_
  refine AW.gsL (pn := 5) hk F dJ0_length_8abf5_4 rfl ?_
  refine AW.aload_n (pn := 6) F dJ0_length_8abf5_5 rfl rfl rfl ?_
  refine AW.invVS (pn := 9) (as := []) (st := [vI 5]) hk F dJ0_length_8abf5_6 rfl rfl tv_367 tv_368 tv_369 tv_12 tv_370 ⟨by decide +kernel, by decide +kernel, by decide +kernel⟩ (by decide) (mt_coder k hk (K := fun x => x = 0) rfl) rfl rfl (by decide) (by decide) ?_
  rintro _ h' ⟨rfl, x, rfl, rfl⟩
  refine AW.ishr (pn := 10) F dJ0_length_8abf5_9 rfl ?_
  rw [show sr 5 0 = 5 from by decide]
  exact AW.iret F G dJ0_length_8abf5_10 ⟨rfl, _, rfl, hb⟩
theorem mt_chr (k : Nat) (hk : k < 3) (i : Int) {h : HP} {K : Int → Prop} (hb : rdS k i K) : MT yJ0_charAt_5068e cJ0_charAt_5068e 2 (some .char) 5 [vR (1000 + k), vI i] h (QP h K) := by
  refine MT.of (own := RJ0) (by decide) rfl (Nat.le_of_ble_eq_true rfl) rfl (fun X F G => ?_)
  have hin := hb.1
  have hlt : ix i < 5 := by unfold inb at hin; unfold ix; omega
  refine AW.aload_n (pn := 1) F dJ0_charAt_5068e_0 rfl rfl rfl ?_
  refine AW.invVS (pn := 4) (as := []) (st := []) hk F dJ0_charAt_5068e_1 rfl rfl tv_377 tv_378 tv_379 tv_12 tv_380 ⟨by decide +kernel, by decide +kernel, by decide +kernel⟩ (by decide) (mt_lat k hk (K := fun x => x = 1) rfl) rfl rfl (by decide) (by decide) ?_
  rintro _ h' ⟨rfl, x, rfl, rfl⟩
  refine AW.if_eq (pn := 7) (tg := 16) (a := False) (b := True) F dJ0_charAt_5068e_4 rfl (by decide) ⟨fun q => absurd q (by decide), fun _ => trivial⟩ (fun q => q.elim) (fun _ => ?_)
  refine AW.aload_n (pn := 8) F dJ0_charAt_5068e_7 rfl rfl rfl ?_
  refine AW.gsV (pn := 11) hk F dJ0_charAt_5068e_8 rfl ?_
  refine AW.iload_n (pn := 12) F dJ0_charAt_5068e_11 rfl rfl rfl ?_
  refine AW.cSP (pn := 15) (st := []) (K := fun v => v = (strB k).getD (ix i) 0) F dJ0_charAt_5068e_12 rfl cl_s_495 (mt_l1 k hk i ⟨hin, rfl⟩) rfl rfl (by decide) (by decide) (fun v hv => ?_)
  refine AW.nret F G dJ0_charAt_5068e_15 ?_ ⟨rfl, _, rfl, by rw [hv]; exact hb.2⟩
  rw [hv, ← strB_ch k _ hk hlt]
  show Value.int _ = Value.int _
  rw [← vp_nar_char, nar_char]
  congr 2
  unfold ch
  unfold w32
  omega
section SROWS2
variable {X : Cx} {cc : ByteArray} {nL d pc pn : Nat} {ls : List (Option AV)} {st : List AV} {h : HP}
theorem AW.ldcS0 (F : Fx X cc RX2 nL d) (hd : decode cc pc = .ok (.ldc 55, 2)) (hp : pc + 2 = pn) (k : AW X nL pn ls (vR 1000 :: st) h) : AW X nL pc ls st h := by
  obtain ⟨p, l, e, R, s, m, args, below, meth, c, Z, D, cA, ad, A, kc, ks⟩ := X
  obtain ⟨hx, hb, hml, hown, hts, hnw, hK, hA, hE, hf, hlo, hc, hs⟩ := F
  subst hp
  intro H locs arr hP hD hS hl
  exact va_ldcS hx hb hown hE.1.1 hd (k H locs arr hP hD hS hl)
theorem AW.slen0 (F : Fx X cc RX2 nL d) (hd : decode cc pc = .ok (.invokevirtual 114, 3)) (hp : pc + 3 = pn) (h1 : 8 ≤ d) (hcat : catA st ≤ 8) (k : AW X nL pn ls (vI 5 :: st) h) : AW X nL pc ls (vR 1000 :: st) h := by
  refine AW.invVS (k := 0) (as := []) (st := st) (by decide) F hd hp rfl tv_363 tv_364 tv_365 tv_12 tv_366 ⟨by decide +kernel, by decide +kernel, by decide +kernel⟩ (by decide) (mt_len 0 (by decide) (K := fun x => x = 5) rfl) rfl rfl hcat (by omega) ?_
  rintro _ h' ⟨rfl, x, rfl, rfl⟩
  exact k
theorem AW.schr0 {i : Int} {K : Int → Prop} (F : Fx X cc RX2 nL d) (hd : decode cc pc = .ok (.invokevirtual 119, 3)) (hp : pc + 3 = pn) (h1 : 8 ≤ d) (hcat : catA st ≤ 8) (hb : rdS 0 i K) (kk : ∀ v, K v → AW X nL pn ls (vI v :: st) h) : AW X nL pc ls (vI i :: vR 1000 :: st) h := by
  refine AW.invVS (k := 0) (n := 1) (as := [vI i]) (st := st) (by decide) F hd hp rfl tv_373 tv_374 tv_375 tv_12 tv_376 ⟨by decide +kernel, by decide +kernel, by decide +kernel⟩ (by decide) (mt_chr 0 (by decide) i hb) rfl rfl hcat (by omega) ?_
  rintro _ h' ⟨rfl, x, rfl, q⟩
  exact kk x q
theorem AW.ldcS1 (F : Fx X cc RX2 nL d) (hd : decode cc pc = .ok (.ldc 67, 2)) (hp : pc + 2 = pn) (k : AW X nL pn ls (vR 1001 :: st) h) : AW X nL pc ls st h := by
  obtain ⟨p, l, e, R, s, m, args, below, meth, c, Z, D, cA, ad, A, kc, ks⟩ := X
  obtain ⟨hx, hb, hml, hown, hts, hnw, hK, hA, hE, hf, hlo, hc, hs⟩ := F
  subst hp
  intro H locs arr hP hD hS hl
  exact va_ldcS hx hb hown hE.1.2.1 hd (k H locs arr hP hD hS hl)
theorem AW.slen1 (F : Fx X cc RX2 nL d) (hd : decode cc pc = .ok (.invokevirtual 114, 3)) (hp : pc + 3 = pn) (h1 : 8 ≤ d) (hcat : catA st ≤ 8) (k : AW X nL pn ls (vI 5 :: st) h) : AW X nL pc ls (vR 1001 :: st) h := by
  refine AW.invVS (k := 1) (as := []) (st := st) (by decide) F hd hp rfl tv_363 tv_364 tv_365 tv_12 tv_366 ⟨by decide +kernel, by decide +kernel, by decide +kernel⟩ (by decide) (mt_len 1 (by decide) (K := fun x => x = 5) rfl) rfl rfl hcat (by omega) ?_
  rintro _ h' ⟨rfl, x, rfl, rfl⟩
  exact k
theorem AW.schr1 {i : Int} {K : Int → Prop} (F : Fx X cc RX2 nL d) (hd : decode cc pc = .ok (.invokevirtual 119, 3)) (hp : pc + 3 = pn) (h1 : 8 ≤ d) (hcat : catA st ≤ 8) (hb : rdS 1 i K) (kk : ∀ v, K v → AW X nL pn ls (vI v :: st) h) : AW X nL pc ls (vI i :: vR 1001 :: st) h := by
  refine AW.invVS (k := 1) (n := 1) (as := [vI i]) (st := st) (by decide) F hd hp rfl tv_373 tv_374 tv_375 tv_12 tv_376 ⟨by decide +kernel, by decide +kernel, by decide +kernel⟩ (by decide) (mt_chr 1 (by decide) i hb) rfl rfl hcat (by omega) ?_
  rintro _ h' ⟨rfl, x, rfl, q⟩
  exact kk x q
theorem AW.ldcS2 (F : Fx X cc RX2 nL d) (hd : decode cc pc = .ok (.ldc 72, 2)) (hp : pc + 2 = pn) (k : AW X nL pn ls (vR 1002 :: st) h) : AW X nL pc ls st h := by
  obtain ⟨p, l, e, R, s, m, args, below, meth, c, Z, D, cA, ad, A, kc, ks⟩ := X
  obtain ⟨hx, hb, hml, hown, hts, hnw, hK, hA, hE, hf, hlo, hc, hs⟩ := F
  subst hp
  intro H locs arr hP hD hS hl
  exact va_ldcS hx hb hown hE.1.2.2 hd (k H locs arr hP hD hS hl)
theorem AW.slen2 (F : Fx X cc RX2 nL d) (hd : decode cc pc = .ok (.invokevirtual 114, 3)) (hp : pc + 3 = pn) (h1 : 8 ≤ d) (hcat : catA st ≤ 8) (k : AW X nL pn ls (vI 5 :: st) h) : AW X nL pc ls (vR 1002 :: st) h := by
  refine AW.invVS (k := 2) (as := []) (st := st) (by decide) F hd hp rfl tv_363 tv_364 tv_365 tv_12 tv_366 ⟨by decide +kernel, by decide +kernel, by decide +kernel⟩ (by decide) (mt_len 2 (by decide) (K := fun x => x = 5) rfl) rfl rfl hcat (by omega) ?_
  rintro _ h' ⟨rfl, x, rfl, rfl⟩
  exact k
theorem AW.schr2 {i : Int} {K : Int → Prop} (F : Fx X cc RX2 nL d) (hd : decode cc pc = .ok (.invokevirtual 119, 3)) (hp : pc + 3 = pn) (h1 : 8 ≤ d) (hcat : catA st ≤ 8) (hb : rdS 2 i K) (kk : ∀ v, K v → AW X nL pn ls (vI v :: st) h) : AW X nL pc ls (vI i :: vR 1002 :: st) h := by
  refine AW.invVS (k := 2) (n := 1) (as := [vI i]) (st := st) (by decide) F hd hp rfl tv_373 tv_374 tv_375 tv_12 tv_376 ⟨by decide +kernel, by decide +kernel, by decide +kernel⟩ (by decide) (mt_chr 2 (by decide) i hb) rfl rfl hcat (by omega) ?_
  rintro _ h' ⟨rfl, x, rfl, q⟩
  exact kk x q
end SROWS2
