theorem pL_law_L18_ok_l {X : Cx} {L : Nat} {xs : Nat → Int} (F : Fx X cL_law RL 4 60) (E : Sx X L xs) (G : Lx X)  : ∀ (n : Nat) (h : HP) (x3 : Int), pL_law_L18 L xs n h x3 → AW X 4 18 [some (vR 3000), some (vR 0), some (vR 69), some (vI x3)] [] h := by
  intro n
  induction n with
  | zero => intro _ _ hb; exact hb.elim
  | succ n ih =>
    intro h x3 hb
    unfold pL_law_L18 at hb
    refine AW.iload_n (pn := 19) F dL_law_18 rfl rfl rfl ?_
    refine AW.aload_n (pn := 20) F dL_law_19 rfl rfl rfl ?_
    refine AW.slenX (pn := 21) F E dL_law_20 rfl ?_
    refine AW.bipush (pn := 23) F dL_law_21 rfl (by decide) ?_
    refine AW.isub (pn := 24) F dL_law_23 rfl ?_
    refine AW.icmp_gt (pn := 27) (tg := 1016) F dL_law_24 rfl (by decide) hb (fun hb => ?_) (fun hb => ?_)
    · refine AW.iconst (pn := 1017) F dL_law_1016 rfl ?_
      exact AW.lret1 F G dL_law_1017 hb
    · refine AW.aload_n (pn := 28) F dL_law_27 rfl rfl rfl ?_
      refine AW.iload_n (pn := 29) F dL_law_28 rfl rfl rfl ?_
      refine AW.sld (pn := 30) F E dL_law_29 rfl hb (fun v1 hb => ?_)
      refine AW.bipush (pn := 32) F dL_law_30 rfl (by decide) ?_
      refine AW.iand (pn := 33) F dL_law_32 rfl ?_
      by_cases hq0 : w32 (ia v1 31) < 0 ∨ 27 < w32 (ia v1 31)
      · refine AW.tabOut (tg := 1010) F dL_law_33 hq0 (by decide) ?_
        replace hb := hb.1 hq0
        refine AW.iinc (ls2 := [some (vR 3000), some (vR 0), some (vR 69), some (vI (x3 + 6))]) (pn := 1013) F dL_law_1010 rfl rfl (by decide) rfl rfl ?_
        refine AW.goto (tg := 18) F dL_law_1013 (by decide) ?_
        exact ih _ _ hb
      · have hq1 : w32 (ia v1 31) = 0 ∨ w32 (ia v1 31) = 1 ∨ w32 (ia v1 31) = 2 ∨ w32 (ia v1 31) = 3 ∨ w32 (ia v1 31) = 4 ∨ w32 (ia v1 31) = 5 ∨ w32 (ia v1 31) = 6 ∨ w32 (ia v1 31) = 7 ∨ w32 (ia v1 31) = 8 ∨ w32 (ia v1 31) = 9 ∨ w32 (ia v1 31) = 10 ∨ w32 (ia v1 31) = 11 ∨ w32 (ia v1 31) = 12 ∨ w32 (ia v1 31) = 13 ∨ w32 (ia v1 31) = 14 ∨ w32 (ia v1 31) = 15 ∨ w32 (ia v1 31) = 16 ∨ w32 (ia v1 31) = 17 ∨ w32 (ia v1 31) = 18 ∨ w32 (ia v1 31) = 19 ∨ w32 (ia v1 31) = 20 ∨ w32 (ia v1 31) = 21 ∨ w32 (ia v1 31) = 22 ∨ w32 (ia v1 31) = 23 ∨ w32 (ia v1 31) = 24 ∨ w32 (ia v1 31) = 25 ∨ w32 (ia v1 31) = 26 ∨ w32 (ia v1 31) = 27 := by omega
        rcases hq1 with hq | hq | hq | hq | hq | hq | hq | hq | hq | hq | hq | hq | hq | hq | hq | hq | hq | hq | hq | hq | hq | hq | hq | hq | hq | hq | hq | hq
        · refine AW.tabIn (tg := 160) 0 F dL_law_33 hq (by decide) (by decide) rfl (by decide) ?_
          replace hb := hb.2.1 hq
          refine AW.aload_n (pn := 161) F dL_law_160 rfl rfl rfl ?_
          refine AW.aload_n (pn := 162) F dL_law_161 rfl rfl rfl ?_
          refine AW.iload_n (pn := 163) F dL_law_162 rfl rfl rfl ?_
          refine AW.iconst (pn := 164) F dL_law_163 rfl ?_
          refine AW.iadd (pn := 165) F dL_law_164 rfl ?_
          refine AW.sld (pn := 166) F E dL_law_165 rfl hb (fun v2 hb => ?_)
          refine AW.aload_n (pn := 167) F dL_law_166 rfl rfl rfl ?_
          refine AW.iload_n (pn := 168) F dL_law_167 rfl rfl rfl ?_
          refine AW.iconst (pn := 169) F dL_law_168 rfl ?_
          refine AW.iadd (pn := 170) F dL_law_169 rfl ?_
          refine AW.sld (pn := 171) F E dL_law_170 rfl hb (fun v3 hb => ?_)
          refine AW.i2l (pn := 172) F dL_law_171 rfl ?_
          refine AW.bipush (pn := 174) F dL_law_172 rfl (by decide) ?_
          refine AW.lshl (pn := 175) F dL_law_174 rfl ?_
          refine AW.aload_n (pn := 176) F dL_law_175 rfl rfl rfl ?_
          refine AW.iload_n (pn := 177) F dL_law_176 rfl rfl rfl ?_
          refine AW.iconst (pn := 178) F dL_law_177 rfl ?_
          refine AW.iadd (pn := 179) F dL_law_178 rfl ?_
          refine AW.sld (pn := 180) F E dL_law_179 rfl hb (fun v4 hb => ?_)
          refine AW.i2l (pn := 181) F dL_law_180 rfl ?_
          refine AW.ldc2 (x := 4294967295) (pn := 184) F dL_law_181 rfl tw_1229 (by decide) ?_
          refine AW.land (pn := 185) F dL_law_184 rfl ?_
          refine AW.lor (pn := 186) F dL_law_185 rfl ?_
          refine AW.cVI (pn := 189) (st := []) F dL_law_186 rfl cl_L_15 so_0 (p7_feed_0 v2 (lo (ll (w32 v3) 32) (la (w32 v4) 4294967295)) hb) rfl rfl (Nat.le_of_ble_eq_true rfl) (by decide) (fun r5 h6 hb => ?_)
          refine AW.aload_n (pn := 190) F dL_law_189 rfl rfl rfl ?_
          refine AW.aload_n (pn := 191) F dL_law_190 rfl rfl rfl ?_
          refine AW.iload_n (pn := 192) F dL_law_191 rfl rfl rfl ?_
          refine AW.iconst (pn := 193) F dL_law_192 rfl ?_
          refine AW.iadd (pn := 194) F dL_law_193 rfl ?_
          refine AW.sld (pn := 195) F E dL_law_194 rfl hb (fun v7 hb => ?_)
          refine AW.aload_n (pn := 196) F dL_law_195 rfl rfl rfl ?_
          refine AW.iload_n (pn := 197) F dL_law_196 rfl rfl rfl ?_
          refine AW.iconst (pn := 198) F dL_law_197 rfl ?_
          refine AW.iadd (pn := 199) F dL_law_198 rfl ?_
          refine AW.sld (pn := 200) F E dL_law_199 rfl hb (fun v8 hb => ?_)
          refine AW.i2l (pn := 201) F dL_law_200 rfl ?_
          refine AW.bipush (pn := 203) F dL_law_201 rfl (by decide) ?_
          refine AW.lshl (pn := 204) F dL_law_203 rfl ?_
          refine AW.aload_n (pn := 205) F dL_law_204 rfl rfl rfl ?_
          refine AW.iload_n (pn := 206) F dL_law_205 rfl rfl rfl ?_
          refine AW.iconst (pn := 207) F dL_law_206 rfl ?_
          refine AW.iadd (pn := 208) F dL_law_207 rfl ?_
          refine AW.sld (pn := 209) F E dL_law_208 rfl hb (fun v9 hb => ?_)
          refine AW.i2l (pn := 210) F dL_law_209 rfl ?_
          refine AW.ldc2 (x := 4294967295) (pn := 213) F dL_law_210 rfl tw_1229 (by decide) ?_
          refine AW.land (pn := 214) F dL_law_213 rfl ?_
          refine AW.lor (pn := 215) F dL_law_214 rfl ?_
          refine AW.cVI (pn := 218) (st := [vI r5]) F dL_law_215 rfl cl_L_19 so_69 (p8_feed_69 v7 (lo (ll (w32 v8) 32) (la (w32 v9) 4294967295)) hb) rfl rfl (Nat.le_of_ble_eq_true rfl) (by decide) (fun r10 h11 hb => ?_)
          refine AW.icmp_eq (pn := 221) (tg := 1010) F dL_law_218 rfl (by decide) hb (fun hb => ?_) (fun hb => ?_)
          · refine AW.iinc (ls2 := [some (vR 3000), some (vR 0), some (vR 69), some (vI (x3 + 6))]) (pn := 1013) F dL_law_1010 rfl rfl (by decide) rfl rfl ?_
            refine AW.goto (tg := 18) F dL_law_1013 (by decide) ?_
            exact ih _ _ hb
          · refine AW.iconst (pn := 222) F dL_law_221 rfl ?_
            exact AW.lret1 F G dL_law_222 hb
        · refine AW.tabIn (tg := 223) 1 F dL_law_33 hq (by decide) (by decide) rfl (by decide) ?_
          replace hb := hb.2.2.1 hq
          refine AW.aload_n (pn := 224) F dL_law_223 rfl rfl rfl ?_
          refine AW.cVI (pn := 227) (st := []) F dL_law_224 rfl cl_L_20 so_0 (p7_spit_0  hb) rfl rfl (Nat.le_of_ble_eq_true rfl) (by decide) (fun r12 h13 hb => ?_)
          refine AW.aload_n (pn := 228) F dL_law_227 rfl rfl rfl ?_
          refine AW.cVI (pn := 231) (st := [vI r12]) F dL_law_228 rfl cl_L_24 so_69 (p8_spit_69  hb) rfl rfl (Nat.le_of_ble_eq_true rfl) (by decide) (fun r14 h15 hb => ?_)
          refine AW.icmp_eq (pn := 234) (tg := 1010) F dL_law_231 rfl (by decide) hb (fun hb => ?_) (fun hb => ?_)
          · refine AW.iinc (ls2 := [some (vR 3000), some (vR 0), some (vR 69), some (vI (x3 + 6))]) (pn := 1013) F dL_law_1010 rfl rfl (by decide) rfl rfl ?_
            refine AW.goto (tg := 18) F dL_law_1013 (by decide) ?_
            exact ih _ _ hb
          · refine AW.iconst (pn := 235) F dL_law_234 rfl ?_
            exact AW.lret1 F G dL_law_235 hb
        · refine AW.tabIn (tg := 236) 2 F dL_law_33 hq (by decide) (by decide) rfl (by decide) ?_
          replace hb := hb.2.2.2.1 hq
          refine AW.aload_n (pn := 237) F dL_law_236 rfl rfl rfl ?_
          refine AW.cVP (pn := 240) (st := []) F dL_law_237 rfl cl_L_25 so_0 (p7_fault_0  hb) rfl rfl (Nat.le_of_ble_eq_true rfl) (by decide) (fun r16 hb => ?_)
          refine AW.aload_n (pn := 241) F dL_law_240 rfl rfl rfl ?_
          refine AW.cVP (pn := 244) (st := [vI r16]) F dL_law_241 rfl cl_L_28 so_69 (p8_fault_69  hb) rfl rfl (Nat.le_of_ble_eq_true rfl) (by decide) (fun r17 hb => ?_)
          refine AW.icmp_eq (pn := 247) (tg := 1010) F dL_law_244 rfl (by decide) hb (fun hb => ?_) (fun hb => ?_)
          · refine AW.iinc (ls2 := [some (vR 3000), some (vR 0), some (vR 69), some (vI (x3 + 6))]) (pn := 1013) F dL_law_1010 rfl rfl (by decide) rfl rfl ?_
            refine AW.goto (tg := 18) F dL_law_1013 (by decide) ?_
            exact ih _ _ hb
          · refine AW.iconst (pn := 248) F dL_law_247 rfl ?_
            exact AW.lret1 F G dL_law_248 hb
        · refine AW.tabIn (tg := 249) 3 F dL_law_33 hq (by decide) (by decide) rfl (by decide) ?_
          replace hb := hb.2.2.2.2.1 hq
          refine AW.aload_n (pn := 250) F dL_law_249 rfl rfl rfl ?_
          refine AW.aload_n (pn := 251) F dL_law_250 rfl rfl rfl ?_
          refine AW.iload_n (pn := 252) F dL_law_251 rfl rfl rfl ?_
          refine AW.iconst (pn := 253) F dL_law_252 rfl ?_
          refine AW.iadd (pn := 254) F dL_law_253 rfl ?_
          refine AW.sld (pn := 255) F E dL_law_254 rfl hb (fun v18 hb => ?_)
          refine AW.cVP (pn := 258) (st := []) F dL_law_255 rfl cl_L_29 so_0 (p7_told_0 v18 hb) rfl rfl (Nat.le_of_ble_eq_true rfl) (by decide) (fun r19 hb => ?_)
          refine AW.aload_n (pn := 259) F dL_law_258 rfl rfl rfl ?_
          refine AW.aload_n (pn := 260) F dL_law_259 rfl rfl rfl ?_
          refine AW.iload_n (pn := 261) F dL_law_260 rfl rfl rfl ?_
          refine AW.iconst (pn := 262) F dL_law_261 rfl ?_
          refine AW.iadd (pn := 263) F dL_law_262 rfl ?_
          refine AW.sld (pn := 264) F E dL_law_263 rfl hb (fun v20 hb => ?_)
          refine AW.cVP (pn := 267) (st := [vI r19]) F dL_law_264 rfl cl_L_33 so_69 (p8_told_69 v20 hb) rfl rfl (Nat.le_of_ble_eq_true rfl) (by decide) (fun r21 hb => ?_)
          refine AW.icmp_eq (pn := 270) (tg := 1010) F dL_law_267 rfl (by decide) hb (fun hb => ?_) (fun hb => ?_)
          · refine AW.iinc (ls2 := [some (vR 3000), some (vR 0), some (vR 69), some (vI (x3 + 6))]) (pn := 1013) F dL_law_1010 rfl rfl (by decide) rfl rfl ?_
            refine AW.goto (tg := 18) F dL_law_1013 (by decide) ?_
            exact ih _ _ hb
          · refine AW.iconst (pn := 271) F dL_law_270 rfl ?_
            exact AW.lret1 F G dL_law_271 hb
        · refine AW.tabIn (tg := 272) 4 F dL_law_33 hq (by decide) (by decide) rfl (by decide) ?_
          replace hb := hb.2.2.2.2.2.1 hq
          refine AW.aload_n (pn := 273) F dL_law_272 rfl rfl rfl ?_
          refine AW.aload_n (pn := 274) F dL_law_273 rfl rfl rfl ?_
          refine AW.iload_n (pn := 275) F dL_law_274 rfl rfl rfl ?_
          refine AW.iconst (pn := 276) F dL_law_275 rfl ?_
          refine AW.iadd (pn := 277) F dL_law_276 rfl ?_
          refine AW.sld (pn := 278) F E dL_law_277 rfl hb (fun v22 hb => ?_)
          refine AW.aload_n (pn := 279) F dL_law_278 rfl rfl rfl ?_
          refine AW.iload_n (pn := 280) F dL_law_279 rfl rfl rfl ?_
          refine AW.iconst (pn := 281) F dL_law_280 rfl ?_
          refine AW.iadd (pn := 282) F dL_law_281 rfl ?_
          refine AW.sld (pn := 283) F E dL_law_282 rfl hb (fun v23 hb => ?_)
          refine AW.cVP (pn := 286) (st := []) F dL_law_283 rfl cl_L_34 so_0 (p7_house_0 v22 v23 hb) rfl rfl (Nat.le_of_ble_eq_true rfl) (by decide) (fun r24 hb => ?_)
          refine AW.aload_n (pn := 287) F dL_law_286 rfl rfl rfl ?_
          refine AW.aload_n (pn := 288) F dL_law_287 rfl rfl rfl ?_
          refine AW.iload_n (pn := 289) F dL_law_288 rfl rfl rfl ?_
          refine AW.iconst (pn := 290) F dL_law_289 rfl ?_
          refine AW.iadd (pn := 291) F dL_law_290 rfl ?_
          refine AW.sld (pn := 292) F E dL_law_291 rfl hb (fun v25 hb => ?_)
          refine AW.aload_n (pn := 293) F dL_law_292 rfl rfl rfl ?_
          refine AW.iload_n (pn := 294) F dL_law_293 rfl rfl rfl ?_
          refine AW.iconst (pn := 295) F dL_law_294 rfl ?_
          refine AW.iadd (pn := 296) F dL_law_295 rfl ?_
          refine AW.sld (pn := 297) F E dL_law_296 rfl hb (fun v26 hb => ?_)
          refine AW.cVP (pn := 300) (st := [vI r24]) F dL_law_297 rfl cl_L_38 so_69 (p8_house_69 v25 v26 hb) rfl rfl (Nat.le_of_ble_eq_true rfl) (by decide) (fun r27 hb => ?_)
          refine AW.icmp_eq (pn := 303) (tg := 1010) F dL_law_300 rfl (by decide) hb (fun hb => ?_) (fun hb => ?_)
          · refine AW.iinc (ls2 := [some (vR 3000), some (vR 0), some (vR 69), some (vI (x3 + 6))]) (pn := 1013) F dL_law_1010 rfl rfl (by decide) rfl rfl ?_
            refine AW.goto (tg := 18) F dL_law_1013 (by decide) ?_
            exact ih _ _ hb
          · refine AW.iconst (pn := 304) F dL_law_303 rfl ?_
            exact AW.lret1 F G dL_law_304 hb
        · refine AW.tabIn (tg := 305) 5 F dL_law_33 hq (by decide) (by decide) rfl (by decide) ?_
          replace hb := hb.2.2.2.2.2.2.1 hq
          refine AW.aload_n (pn := 306) F dL_law_305 rfl rfl rfl ?_
          refine AW.aload_n (pn := 307) F dL_law_306 rfl rfl rfl ?_
          refine AW.iload_n (pn := 308) F dL_law_307 rfl rfl rfl ?_
          refine AW.iconst (pn := 309) F dL_law_308 rfl ?_
          refine AW.iadd (pn := 310) F dL_law_309 rfl ?_
          refine AW.sld (pn := 311) F E dL_law_310 rfl hb (fun v28 hb => ?_)
          refine AW.aload_n (pn := 312) F dL_law_311 rfl rfl rfl ?_
          refine AW.iload_n (pn := 313) F dL_law_312 rfl rfl rfl ?_
          refine AW.iconst (pn := 314) F dL_law_313 rfl ?_
          refine AW.iadd (pn := 315) F dL_law_314 rfl ?_
          refine AW.sld (pn := 316) F E dL_law_315 rfl hb (fun v29 hb => ?_)
          refine AW.cVP (pn := 319) (st := []) F dL_law_316 rfl cl_L_39 so_0 (p7_worth_0 v28 v29 hb) rfl rfl (Nat.le_of_ble_eq_true rfl) (by decide) (fun r30 hb => ?_)
          refine AW.aload_n (pn := 320) F dL_law_319 rfl rfl rfl ?_
          refine AW.aload_n (pn := 321) F dL_law_320 rfl rfl rfl ?_
          refine AW.iload_n (pn := 322) F dL_law_321 rfl rfl rfl ?_
          refine AW.iconst (pn := 323) F dL_law_322 rfl ?_
          refine AW.iadd (pn := 324) F dL_law_323 rfl ?_
          refine AW.sld (pn := 325) F E dL_law_324 rfl hb (fun v31 hb => ?_)
          refine AW.aload_n (pn := 326) F dL_law_325 rfl rfl rfl ?_
          refine AW.iload_n (pn := 327) F dL_law_326 rfl rfl rfl ?_
          refine AW.iconst (pn := 328) F dL_law_327 rfl ?_
          refine AW.iadd (pn := 329) F dL_law_328 rfl ?_
          refine AW.sld (pn := 330) F E dL_law_329 rfl hb (fun v32 hb => ?_)
          refine AW.cVP (pn := 333) (st := [vI r30]) F dL_law_330 rfl cl_L_42 so_69 (p8_worth_69 v31 v32 hb) rfl rfl (Nat.le_of_ble_eq_true rfl) (by decide) (fun r33 hb => ?_)
          refine AW.icmp_eq (pn := 336) (tg := 1010) F dL_law_333 rfl (by decide) hb (fun hb => ?_) (fun hb => ?_)
          · refine AW.iinc (ls2 := [some (vR 3000), some (vR 0), some (vR 69), some (vI (x3 + 6))]) (pn := 1013) F dL_law_1010 rfl rfl (by decide) rfl rfl ?_
            refine AW.goto (tg := 18) F dL_law_1013 (by decide) ?_
            exact ih _ _ hb
          · refine AW.iconst (pn := 337) F dL_law_336 rfl ?_
            exact AW.lret1 F G dL_law_337 hb
        · refine AW.tabIn (tg := 338) 6 F dL_law_33 hq (by decide) (by decide) rfl (by decide) ?_
          replace hb := hb.2.2.2.2.2.2.2.1 hq
          refine AW.aload_n (pn := 339) F dL_law_338 rfl rfl rfl ?_
          refine AW.aload_n (pn := 340) F dL_law_339 rfl rfl rfl ?_
          refine AW.iload_n (pn := 341) F dL_law_340 rfl rfl rfl ?_
          refine AW.iconst (pn := 342) F dL_law_341 rfl ?_
          refine AW.iadd (pn := 343) F dL_law_342 rfl ?_
          refine AW.sld (pn := 344) F E dL_law_343 rfl hb (fun v34 hb => ?_)
          refine AW.aload_n (pn := 345) F dL_law_344 rfl rfl rfl ?_
          refine AW.iload_n (pn := 346) F dL_law_345 rfl rfl rfl ?_
          refine AW.iconst (pn := 347) F dL_law_346 rfl ?_
          refine AW.iadd (pn := 348) F dL_law_347 rfl ?_
          refine AW.sld (pn := 349) F E dL_law_348 rfl hb (fun v35 hb => ?_)
          refine AW.cVP (pn := 352) (st := []) F dL_law_349 rfl cl_L_43 so_0 (p7_part_0 v34 v35 hb) rfl rfl (Nat.le_of_ble_eq_true rfl) (by decide) (fun r36 hb => ?_)
          refine AW.aload_n (pn := 353) F dL_law_352 rfl rfl rfl ?_
          refine AW.aload_n (pn := 354) F dL_law_353 rfl rfl rfl ?_
          refine AW.iload_n (pn := 355) F dL_law_354 rfl rfl rfl ?_
          refine AW.iconst (pn := 356) F dL_law_355 rfl ?_
          refine AW.iadd (pn := 357) F dL_law_356 rfl ?_
          refine AW.sld (pn := 358) F E dL_law_357 rfl hb (fun v37 hb => ?_)
          refine AW.aload_n (pn := 359) F dL_law_358 rfl rfl rfl ?_
          refine AW.iload_n (pn := 360) F dL_law_359 rfl rfl rfl ?_
          refine AW.iconst (pn := 361) F dL_law_360 rfl ?_
          refine AW.iadd (pn := 362) F dL_law_361 rfl ?_
          refine AW.sld (pn := 363) F E dL_law_362 rfl hb (fun v38 hb => ?_)
          refine AW.cVP (pn := 366) (st := [vI r36]) F dL_law_363 rfl cl_L_46 so_69 (p8_part_69 v37 v38 hb) rfl rfl (Nat.le_of_ble_eq_true rfl) (by decide) (fun r39 hb => ?_)
          refine AW.icmp_eq (pn := 369) (tg := 1010) F dL_law_366 rfl (by decide) hb (fun hb => ?_) (fun hb => ?_)
          · refine AW.iinc (ls2 := [some (vR 3000), some (vR 0), some (vR 69), some (vI (x3 + 6))]) (pn := 1013) F dL_law_1010 rfl rfl (by decide) rfl rfl ?_
            refine AW.goto (tg := 18) F dL_law_1013 (by decide) ?_
            exact ih _ _ hb
          · refine AW.iconst (pn := 370) F dL_law_369 rfl ?_
            exact AW.lret1 F G dL_law_370 hb
        · refine AW.tabIn (tg := 371) 7 F dL_law_33 hq (by decide) (by decide) rfl (by decide) ?_
          replace hb := hb.2.2.2.2.2.2.2.2.1 hq
          refine AW.aload_n (pn := 372) F dL_law_371 rfl rfl rfl ?_
          refine AW.aload_n (pn := 373) F dL_law_372 rfl rfl rfl ?_
          refine AW.iload_n (pn := 374) F dL_law_373 rfl rfl rfl ?_
          refine AW.iconst (pn := 375) F dL_law_374 rfl ?_
          refine AW.iadd (pn := 376) F dL_law_375 rfl ?_
          refine AW.sld (pn := 377) F E dL_law_376 rfl hb (fun v40 hb => ?_)
          refine AW.aload_n (pn := 378) F dL_law_377 rfl rfl rfl ?_
          refine AW.iload_n (pn := 379) F dL_law_378 rfl rfl rfl ?_
          refine AW.iconst (pn := 380) F dL_law_379 rfl ?_
          refine AW.iadd (pn := 381) F dL_law_380 rfl ?_
          refine AW.sld (pn := 382) F E dL_law_381 rfl hb (fun v41 hb => ?_)
          refine AW.cVP (pn := 385) (st := []) F dL_law_382 rfl cl_L_47 so_0 (p7_hand_0 v40 v41 hb) rfl rfl (Nat.le_of_ble_eq_true rfl) (by decide) (fun r42 hb => ?_)
          refine AW.aload_n (pn := 386) F dL_law_385 rfl rfl rfl ?_
          refine AW.aload_n (pn := 387) F dL_law_386 rfl rfl rfl ?_
          refine AW.iload_n (pn := 388) F dL_law_387 rfl rfl rfl ?_
          refine AW.iconst (pn := 389) F dL_law_388 rfl ?_
          refine AW.iadd (pn := 390) F dL_law_389 rfl ?_
          refine AW.sld (pn := 391) F E dL_law_390 rfl hb (fun v43 hb => ?_)
          refine AW.aload_n (pn := 392) F dL_law_391 rfl rfl rfl ?_
          refine AW.iload_n (pn := 393) F dL_law_392 rfl rfl rfl ?_
          refine AW.iconst (pn := 394) F dL_law_393 rfl ?_
          refine AW.iadd (pn := 395) F dL_law_394 rfl ?_
          refine AW.sld (pn := 396) F E dL_law_395 rfl hb (fun v44 hb => ?_)
          refine AW.cVP (pn := 399) (st := [vI r42]) F dL_law_396 rfl cl_L_50 so_69 (p8_hand_69 v43 v44 hb) rfl rfl (Nat.le_of_ble_eq_true rfl) (by decide) (fun r45 hb => ?_)
          refine AW.icmp_eq (pn := 402) (tg := 1010) F dL_law_399 rfl (by decide) hb (fun hb => ?_) (fun hb => ?_)
          · refine AW.iinc (ls2 := [some (vR 3000), some (vR 0), some (vR 69), some (vI (x3 + 6))]) (pn := 1013) F dL_law_1010 rfl rfl (by decide) rfl rfl ?_
            refine AW.goto (tg := 18) F dL_law_1013 (by decide) ?_
            exact ih _ _ hb
          · refine AW.iconst (pn := 403) F dL_law_402 rfl ?_
            exact AW.lret1 F G dL_law_403 hb
        · refine AW.tabIn (tg := 404) 8 F dL_law_33 hq (by decide) (by decide) rfl (by decide) ?_
          replace hb := hb.2.2.2.2.2.2.2.2.2.1 hq
          refine AW.aload_n (pn := 405) F dL_law_404 rfl rfl rfl ?_
          refine AW.aload_n (pn := 406) F dL_law_405 rfl rfl rfl ?_
          refine AW.iload_n (pn := 407) F dL_law_406 rfl rfl rfl ?_
          refine AW.iconst (pn := 408) F dL_law_407 rfl ?_
          refine AW.iadd (pn := 409) F dL_law_408 rfl ?_
          refine AW.sld (pn := 410) F E dL_law_409 rfl hb (fun v46 hb => ?_)
          refine AW.aload_n (pn := 411) F dL_law_410 rfl rfl rfl ?_
          refine AW.iload_n (pn := 412) F dL_law_411 rfl rfl rfl ?_
          refine AW.iconst (pn := 413) F dL_law_412 rfl ?_
          refine AW.iadd (pn := 414) F dL_law_413 rfl ?_
          refine AW.sld (pn := 415) F E dL_law_414 rfl hb (fun v47 hb => ?_)
          refine AW.cVI (pn := 418) (st := []) F dL_law_415 rfl cl_L_51 so_0 (p7_toss_0 v46 v47 hb) rfl rfl (Nat.le_of_ble_eq_true rfl) (by decide) (fun r48 h49 hb => ?_)
          refine AW.aload_n (pn := 419) F dL_law_418 rfl rfl rfl ?_
          refine AW.aload_n (pn := 420) F dL_law_419 rfl rfl rfl ?_
          refine AW.iload_n (pn := 421) F dL_law_420 rfl rfl rfl ?_
          refine AW.iconst (pn := 422) F dL_law_421 rfl ?_
          refine AW.iadd (pn := 423) F dL_law_422 rfl ?_
          refine AW.sld (pn := 424) F E dL_law_423 rfl hb (fun v50 hb => ?_)
          refine AW.aload_n (pn := 425) F dL_law_424 rfl rfl rfl ?_
          refine AW.iload_n (pn := 426) F dL_law_425 rfl rfl rfl ?_
          refine AW.iconst (pn := 427) F dL_law_426 rfl ?_
          refine AW.iadd (pn := 428) F dL_law_427 rfl ?_
          refine AW.sld (pn := 429) F E dL_law_428 rfl hb (fun v51 hb => ?_)
          refine AW.cVI (pn := 432) (st := [vI r48]) F dL_law_429 rfl cl_L_54 so_69 (p8_toss_69 v50 v51 hb) rfl rfl (Nat.le_of_ble_eq_true rfl) (by decide) (fun r52 h53 hb => ?_)
          refine AW.icmp_eq (pn := 435) (tg := 1010) F dL_law_432 rfl (by decide) hb (fun hb => ?_) (fun hb => ?_)
          · refine AW.iinc (ls2 := [some (vR 3000), some (vR 0), some (vR 69), some (vI (x3 + 6))]) (pn := 1013) F dL_law_1010 rfl rfl (by decide) rfl rfl ?_
            refine AW.goto (tg := 18) F dL_law_1013 (by decide) ?_
            exact ih _ _ hb
          · refine AW.iconst (pn := 436) F dL_law_435 rfl ?_
            exact AW.lret1 F G dL_law_436 hb
        · refine AW.tabIn (tg := 437) 9 F dL_law_33 hq (by decide) (by decide) rfl (by decide) ?_
          replace hb := hb.2.2.2.2.2.2.2.2.2.2.1 hq
          refine AW.aload_n (pn := 438) F dL_law_437 rfl rfl rfl ?_
          refine AW.aload_n (pn := 439) F dL_law_438 rfl rfl rfl ?_
          refine AW.iload_n (pn := 440) F dL_law_439 rfl rfl rfl ?_
          refine AW.iconst (pn := 441) F dL_law_440 rfl ?_
          refine AW.iadd (pn := 442) F dL_law_441 rfl ?_
          refine AW.sld (pn := 443) F E dL_law_442 rfl hb (fun v54 hb => ?_)
          refine AW.aload_n (pn := 444) F dL_law_443 rfl rfl rfl ?_
          refine AW.iload_n (pn := 445) F dL_law_444 rfl rfl rfl ?_
          refine AW.iconst (pn := 446) F dL_law_445 rfl ?_
          refine AW.iadd (pn := 447) F dL_law_446 rfl ?_
          refine AW.sld (pn := 448) F E dL_law_447 rfl hb (fun v55 hb => ?_)
          refine AW.cVI (pn := 451) (st := []) F dL_law_448 rfl cl_L_55 so_0 (p7_take_0 v54 v55 hb) rfl rfl (Nat.le_of_ble_eq_true rfl) (by decide) (fun r56 h57 hb => ?_)
          refine AW.aload_n (pn := 452) F dL_law_451 rfl rfl rfl ?_
          refine AW.aload_n (pn := 453) F dL_law_452 rfl rfl rfl ?_
          refine AW.iload_n (pn := 454) F dL_law_453 rfl rfl rfl ?_
          refine AW.iconst (pn := 455) F dL_law_454 rfl ?_
          refine AW.iadd (pn := 456) F dL_law_455 rfl ?_
          refine AW.sld (pn := 457) F E dL_law_456 rfl hb (fun v58 hb => ?_)
          refine AW.aload_n (pn := 458) F dL_law_457 rfl rfl rfl ?_
          refine AW.iload_n (pn := 459) F dL_law_458 rfl rfl rfl ?_
          refine AW.iconst (pn := 460) F dL_law_459 rfl ?_
          refine AW.iadd (pn := 461) F dL_law_460 rfl ?_
          refine AW.sld (pn := 462) F E dL_law_461 rfl hb (fun v59 hb => ?_)
          refine AW.cVI (pn := 465) (st := [vI r56]) F dL_law_462 rfl cl_L_58 so_69 (p8_take_69 v58 v59 hb) rfl rfl (Nat.le_of_ble_eq_true rfl) (by decide) (fun r60 h61 hb => ?_)
          refine AW.icmp_eq (pn := 468) (tg := 1010) F dL_law_465 rfl (by decide) hb (fun hb => ?_) (fun hb => ?_)
          · refine AW.iinc (ls2 := [some (vR 3000), some (vR 0), some (vR 69), some (vI (x3 + 6))]) (pn := 1013) F dL_law_1010 rfl rfl (by decide) rfl rfl ?_
            refine AW.goto (tg := 18) F dL_law_1013 (by decide) ?_
            exact ih _ _ hb
          · refine AW.iconst (pn := 469) F dL_law_468 rfl ?_
            exact AW.lret1 F G dL_law_469 hb
        · refine AW.tabIn (tg := 470) 10 F dL_law_33 hq (by decide) (by decide) rfl (by decide) ?_
          replace hb := hb.2.2.2.2.2.2.2.2.2.2.2.1 hq
          refine AW.aload_n (pn := 471) F dL_law_470 rfl rfl rfl ?_
          refine AW.aload_n (pn := 472) F dL_law_471 rfl rfl rfl ?_
          refine AW.iload_n (pn := 473) F dL_law_472 rfl rfl rfl ?_
          refine AW.iconst (pn := 474) F dL_law_473 rfl ?_
          refine AW.iadd (pn := 475) F dL_law_474 rfl ?_
          refine AW.sld (pn := 476) F E dL_law_475 rfl hb (fun v62 hb => ?_)
          refine AW.cVI (pn := 479) (st := []) F dL_law_476 rfl cl_L_59 so_0 (p7_ashore_0 v62 hb) rfl rfl (Nat.le_of_ble_eq_true rfl) (by decide) (fun r63 h64 hb => ?_)
          refine AW.aload_n (pn := 480) F dL_law_479 rfl rfl rfl ?_
          refine AW.aload_n (pn := 481) F dL_law_480 rfl rfl rfl ?_
          refine AW.iload_n (pn := 482) F dL_law_481 rfl rfl rfl ?_
          refine AW.iconst (pn := 483) F dL_law_482 rfl ?_
          refine AW.iadd (pn := 484) F dL_law_483 rfl ?_
          refine AW.sld (pn := 485) F E dL_law_484 rfl hb (fun v65 hb => ?_)
          refine AW.cVI (pn := 488) (st := [vI r63]) F dL_law_485 rfl cl_L_62 so_69 (p8_ashore_69 v65 hb) rfl rfl (Nat.le_of_ble_eq_true rfl) (by decide) (fun r66 h67 hb => ?_)
          refine AW.icmp_eq (pn := 491) (tg := 1010) F dL_law_488 rfl (by decide) hb (fun hb => ?_) (fun hb => ?_)
          · refine AW.iinc (ls2 := [some (vR 3000), some (vR 0), some (vR 69), some (vI (x3 + 6))]) (pn := 1013) F dL_law_1010 rfl rfl (by decide) rfl rfl ?_
            refine AW.goto (tg := 18) F dL_law_1013 (by decide) ?_
            exact ih _ _ hb
          · refine AW.iconst (pn := 492) F dL_law_491 rfl ?_
            exact AW.lret1 F G dL_law_492 hb
        · refine AW.tabIn (tg := 493) 11 F dL_law_33 hq (by decide) (by decide) rfl (by decide) ?_
          replace hb := hb.2.2.2.2.2.2.2.2.2.2.2.2.1 hq
          refine AW.aload_n (pn := 494) F dL_law_493 rfl rfl rfl ?_
          refine AW.aload_n (pn := 495) F dL_law_494 rfl rfl rfl ?_
          refine AW.iload_n (pn := 496) F dL_law_495 rfl rfl rfl ?_
          refine AW.iconst (pn := 497) F dL_law_496 rfl ?_
          refine AW.iadd (pn := 498) F dL_law_497 rfl ?_
          refine AW.sld (pn := 499) F E dL_law_498 rfl hb (fun v68 hb => ?_)
          refine AW.cVP (pn := 502) (st := []) F dL_law_499 rfl cl_L_63 so_0 (p7_first_0 v68 hb) rfl rfl (Nat.le_of_ble_eq_true rfl) (by decide) (fun r69 hb => ?_)
          refine AW.aload_n (pn := 503) F dL_law_502 rfl rfl rfl ?_
          refine AW.aload_n (pn := 504) F dL_law_503 rfl rfl rfl ?_
          refine AW.iload_n (pn := 505) F dL_law_504 rfl rfl rfl ?_
          refine AW.iconst (pn := 506) F dL_law_505 rfl ?_
          refine AW.iadd (pn := 507) F dL_law_506 rfl ?_
          refine AW.sld (pn := 508) F E dL_law_507 rfl hb (fun v70 hb => ?_)
          refine AW.cVP (pn := 511) (st := [vI r69]) F dL_law_508 rfl cl_L_66 so_69 (p8_first_69 v70 hb) rfl rfl (Nat.le_of_ble_eq_true rfl) (by decide) (fun r71 hb => ?_)
          refine AW.icmp_eq (pn := 514) (tg := 1010) F dL_law_511 rfl (by decide) hb (fun hb => ?_) (fun hb => ?_)
          · refine AW.iinc (ls2 := [some (vR 3000), some (vR 0), some (vR 69), some (vI (x3 + 6))]) (pn := 1013) F dL_law_1010 rfl rfl (by decide) rfl rfl ?_
            refine AW.goto (tg := 18) F dL_law_1013 (by decide) ?_
            exact ih _ _ hb
          · refine AW.iconst (pn := 515) F dL_law_514 rfl ?_
            exact AW.lret1 F G dL_law_515 hb
        · refine AW.tabIn (tg := 516) 12 F dL_law_33 hq (by decide) (by decide) rfl (by decide) ?_
          replace hb := hb.2.2.2.2.2.2.2.2.2.2.2.2.2.1 hq
          refine AW.aload_n (pn := 517) F dL_law_516 rfl rfl rfl ?_
          refine AW.aload_n (pn := 518) F dL_law_517 rfl rfl rfl ?_
          refine AW.iload_n (pn := 519) F dL_law_518 rfl rfl rfl ?_
          refine AW.iconst (pn := 520) F dL_law_519 rfl ?_
          refine AW.iadd (pn := 521) F dL_law_520 rfl ?_
          refine AW.sld (pn := 522) F E dL_law_521 rfl hb (fun v72 hb => ?_)
          refine AW.cVI (pn := 525) (st := []) F dL_law_522 rfl cl_L_67 so_0 (p7_week_0 v72 hb) rfl rfl (Nat.le_of_ble_eq_true rfl) (by decide) (fun r73 h74 hb => ?_)
          refine AW.aload_n (pn := 526) F dL_law_525 rfl rfl rfl ?_
          refine AW.aload_n (pn := 527) F dL_law_526 rfl rfl rfl ?_
          refine AW.iload_n (pn := 528) F dL_law_527 rfl rfl rfl ?_
          refine AW.iconst (pn := 529) F dL_law_528 rfl ?_
          refine AW.iadd (pn := 530) F dL_law_529 rfl ?_
          refine AW.sld (pn := 531) F E dL_law_530 rfl hb (fun v75 hb => ?_)
          refine AW.cVI (pn := 534) (st := [vI r73]) F dL_law_531 rfl cl_L_70 so_69 (p8_week_69 v75 hb) rfl rfl (Nat.le_of_ble_eq_true rfl) (by decide) (fun r76 h77 hb => ?_)
          refine AW.icmp_eq (pn := 537) (tg := 1010) F dL_law_534 rfl (by decide) hb (fun hb => ?_) (fun hb => ?_)
          · refine AW.iinc (ls2 := [some (vR 3000), some (vR 0), some (vR 69), some (vI (x3 + 6))]) (pn := 1013) F dL_law_1010 rfl rfl (by decide) rfl rfl ?_
            refine AW.goto (tg := 18) F dL_law_1013 (by decide) ?_
            exact ih _ _ hb
          · refine AW.iconst (pn := 538) F dL_law_537 rfl ?_
            exact AW.lret1 F G dL_law_538 hb
        · refine AW.tabIn (tg := 539) 13 F dL_law_33 hq (by decide) (by decide) rfl (by decide) ?_
          replace hb := hb.2.2.2.2.2.2.2.2.2.2.2.2.2.2.1 hq
          refine AW.aload_n (pn := 540) F dL_law_539 rfl rfl rfl ?_
          refine AW.aload_n (pn := 541) F dL_law_540 rfl rfl rfl ?_
          refine AW.iload_n (pn := 542) F dL_law_541 rfl rfl rfl ?_
          refine AW.iconst (pn := 543) F dL_law_542 rfl ?_
          refine AW.iadd (pn := 544) F dL_law_543 rfl ?_
          refine AW.sld (pn := 545) F E dL_law_544 rfl hb (fun v78 hb => ?_)
          refine AW.cVI (pn := 548) (st := []) F dL_law_545 rfl cl_L_71 so_0 (p7_drift_0 v78 hb) rfl rfl (Nat.le_of_ble_eq_true rfl) (by decide) (fun r79 h80 hb => ?_)
          refine AW.aload_n (pn := 549) F dL_law_548 rfl rfl rfl ?_
          refine AW.aload_n (pn := 550) F dL_law_549 rfl rfl rfl ?_
          refine AW.iload_n (pn := 551) F dL_law_550 rfl rfl rfl ?_
          refine AW.iconst (pn := 552) F dL_law_551 rfl ?_
          refine AW.iadd (pn := 553) F dL_law_552 rfl ?_
          refine AW.sld (pn := 554) F E dL_law_553 rfl hb (fun v81 hb => ?_)
          refine AW.cVI (pn := 557) (st := [vI r79]) F dL_law_554 rfl cl_L_74 so_69 (p8_drift_69 v81 hb) rfl rfl (Nat.le_of_ble_eq_true rfl) (by decide) (fun r82 h83 hb => ?_)
          refine AW.icmp_eq (pn := 560) (tg := 1010) F dL_law_557 rfl (by decide) hb (fun hb => ?_) (fun hb => ?_)
          · refine AW.iinc (ls2 := [some (vR 3000), some (vR 0), some (vR 69), some (vI (x3 + 6))]) (pn := 1013) F dL_law_1010 rfl rfl (by decide) rfl rfl ?_
            refine AW.goto (tg := 18) F dL_law_1013 (by decide) ?_
            exact ih _ _ hb
          · refine AW.iconst (pn := 561) F dL_law_560 rfl ?_
            exact AW.lret1 F G dL_law_561 hb
        · refine AW.tabIn (tg := 562) 14 F dL_law_33 hq (by decide) (by decide) rfl (by decide) ?_
          replace hb := hb.2.2.2.2.2.2.2.2.2.2.2.2.2.2.2.1 hq
          refine AW.aload_n (pn := 563) F dL_law_562 rfl rfl rfl ?_
          refine AW.cVI (pn := 566) (st := []) F dL_law_563 rfl cl_L_75 so_0 (p7_begin_0  hb) rfl rfl (Nat.le_of_ble_eq_true rfl) (by decide) (fun r84 h85 hb => ?_)
          refine AW.aload_n (pn := 567) F dL_law_566 rfl rfl rfl ?_
          refine AW.cVI (pn := 570) (st := [vI r84]) F dL_law_567 rfl cl_L_78 so_69 (p8_begin_69  hb) rfl rfl (Nat.le_of_ble_eq_true rfl) (by decide) (fun r86 h87 hb => ?_)
          refine AW.icmp_eq (pn := 573) (tg := 1010) F dL_law_570 rfl (by decide) hb (fun hb => ?_) (fun hb => ?_)
          · refine AW.iinc (ls2 := [some (vR 3000), some (vR 0), some (vR 69), some (vI (x3 + 6))]) (pn := 1013) F dL_law_1010 rfl rfl (by decide) rfl rfl ?_
            refine AW.goto (tg := 18) F dL_law_1013 (by decide) ?_
            exact ih _ _ hb
          · refine AW.iconst (pn := 574) F dL_law_573 rfl ?_
            exact AW.lret1 F G dL_law_574 hb
        · refine AW.tabIn (tg := 575) 15 F dL_law_33 hq (by decide) (by decide) rfl (by decide) ?_
          replace hb := hb.2.2.2.2.2.2.2.2.2.2.2.2.2.2.2.2.1 hq
          refine AW.aload_n (pn := 576) F dL_law_575 rfl rfl rfl ?_
          refine AW.aload_n (pn := 577) F dL_law_576 rfl rfl rfl ?_
          refine AW.iload_n (pn := 578) F dL_law_577 rfl rfl rfl ?_
          refine AW.iconst (pn := 579) F dL_law_578 rfl ?_
          refine AW.iadd (pn := 580) F dL_law_579 rfl ?_
          refine AW.sld (pn := 581) F E dL_law_580 rfl hb (fun v88 hb => ?_)
          refine AW.aload_n (pn := 582) F dL_law_581 rfl rfl rfl ?_
          refine AW.iload_n (pn := 583) F dL_law_582 rfl rfl rfl ?_
          refine AW.iconst (pn := 584) F dL_law_583 rfl ?_
          refine AW.iadd (pn := 585) F dL_law_584 rfl ?_
          refine AW.sld (pn := 586) F E dL_law_585 rfl hb (fun v89 hb => ?_)
          refine AW.cVP (pn := 589) (st := []) F dL_law_586 rfl cl_L_79 so_0 (p7_gain_0 v88 v89 hb) rfl rfl (Nat.le_of_ble_eq_true rfl) (by decide) (fun r90 hb => ?_)
          refine AW.aload_n (pn := 590) F dL_law_589 rfl rfl rfl ?_
          refine AW.aload_n (pn := 591) F dL_law_590 rfl rfl rfl ?_
          refine AW.iload_n (pn := 592) F dL_law_591 rfl rfl rfl ?_
          refine AW.iconst (pn := 593) F dL_law_592 rfl ?_
          refine AW.iadd (pn := 594) F dL_law_593 rfl ?_
          refine AW.sld (pn := 595) F E dL_law_594 rfl hb (fun v91 hb => ?_)
          refine AW.aload_n (pn := 596) F dL_law_595 rfl rfl rfl ?_
          refine AW.iload_n (pn := 597) F dL_law_596 rfl rfl rfl ?_
          refine AW.iconst (pn := 598) F dL_law_597 rfl ?_
          refine AW.iadd (pn := 599) F dL_law_598 rfl ?_
          refine AW.sld (pn := 600) F E dL_law_599 rfl hb (fun v92 hb => ?_)
          refine AW.cVP (pn := 603) (st := [vI r90]) F dL_law_600 rfl cl_L_82 so_69 (p8_gain_69 v91 v92 hb) rfl rfl (Nat.le_of_ble_eq_true rfl) (by decide) (fun r93 hb => ?_)
          refine AW.icmp_eq (pn := 606) (tg := 1010) F dL_law_603 rfl (by decide) hb (fun hb => ?_) (fun hb => ?_)
          · refine AW.iinc (ls2 := [some (vR 3000), some (vR 0), some (vR 69), some (vI (x3 + 6))]) (pn := 1013) F dL_law_1010 rfl rfl (by decide) rfl rfl ?_
            refine AW.goto (tg := 18) F dL_law_1013 (by decide) ?_
            exact ih _ _ hb
          · refine AW.iconst (pn := 607) F dL_law_606 rfl ?_
            exact AW.lret1 F G dL_law_607 hb
        · refine AW.tabIn (tg := 608) 16 F dL_law_33 hq (by decide) (by decide) rfl (by decide) ?_
          replace hb := hb.2.2.2.2.2.2.2.2.2.2.2.2.2.2.2.2.2.1 hq
          refine AW.aload_n (pn := 609) F dL_law_608 rfl rfl rfl ?_
          refine AW.aload_n (pn := 610) F dL_law_609 rfl rfl rfl ?_
          refine AW.iload_n (pn := 611) F dL_law_610 rfl rfl rfl ?_
          refine AW.iconst (pn := 612) F dL_law_611 rfl ?_
          refine AW.iadd (pn := 613) F dL_law_612 rfl ?_
          refine AW.sld (pn := 614) F E dL_law_613 rfl hb (fun v94 hb => ?_)
          refine AW.aload_n (pn := 615) F dL_law_614 rfl rfl rfl ?_
          refine AW.iload_n (pn := 616) F dL_law_615 rfl rfl rfl ?_
          refine AW.iconst (pn := 617) F dL_law_616 rfl ?_
          refine AW.iadd (pn := 618) F dL_law_617 rfl ?_
          refine AW.sld (pn := 619) F E dL_law_618 rfl hb (fun v95 hb => ?_)
          refine AW.aload_n (pn := 620) F dL_law_619 rfl rfl rfl ?_
          refine AW.iload_n (pn := 621) F dL_law_620 rfl rfl rfl ?_
          refine AW.iconst (pn := 622) F dL_law_621 rfl ?_
          refine AW.iadd (pn := 623) F dL_law_622 rfl ?_
          refine AW.sld (pn := 624) F E dL_law_623 rfl hb (fun v96 hb => ?_)
          refine AW.cVI (pn := 627) (st := []) F dL_law_624 rfl cl_L_83 so_0 (p7_down_0 v94 v95 v96 hb) rfl rfl (Nat.le_of_ble_eq_true rfl) (by decide) (fun r97 h98 hb => ?_)
          refine AW.aload_n (pn := 628) F dL_law_627 rfl rfl rfl ?_
          refine AW.aload_n (pn := 629) F dL_law_628 rfl rfl rfl ?_
          refine AW.iload_n (pn := 630) F dL_law_629 rfl rfl rfl ?_
          refine AW.iconst (pn := 631) F dL_law_630 rfl ?_
          refine AW.iadd (pn := 632) F dL_law_631 rfl ?_
          refine AW.sld (pn := 633) F E dL_law_632 rfl hb (fun v99 hb => ?_)
          refine AW.aload_n (pn := 634) F dL_law_633 rfl rfl rfl ?_
          refine AW.iload_n (pn := 635) F dL_law_634 rfl rfl rfl ?_
          refine AW.iconst (pn := 636) F dL_law_635 rfl ?_
          refine AW.iadd (pn := 637) F dL_law_636 rfl ?_
          refine AW.sld (pn := 638) F E dL_law_637 rfl hb (fun v100 hb => ?_)
          refine AW.aload_n (pn := 639) F dL_law_638 rfl rfl rfl ?_
          refine AW.iload_n (pn := 640) F dL_law_639 rfl rfl rfl ?_
          refine AW.iconst (pn := 641) F dL_law_640 rfl ?_
          refine AW.iadd (pn := 642) F dL_law_641 rfl ?_
          refine AW.sld (pn := 643) F E dL_law_642 rfl hb (fun v101 hb => ?_)
          refine AW.cVI (pn := 646) (st := [vI r97]) F dL_law_643 rfl cl_L_87 so_69 (p8_down_69 v99 v100 v101 hb) rfl rfl (Nat.le_of_ble_eq_true rfl) (by decide) (fun r102 h103 hb => ?_)
          refine AW.icmp_eq (pn := 649) (tg := 1010) F dL_law_646 rfl (by decide) hb (fun hb => ?_) (fun hb => ?_)
          · refine AW.iinc (ls2 := [some (vR 3000), some (vR 0), some (vR 69), some (vI (x3 + 6))]) (pn := 1013) F dL_law_1010 rfl rfl (by decide) rfl rfl ?_
            refine AW.goto (tg := 18) F dL_law_1013 (by decide) ?_
            exact ih _ _ hb
          · refine AW.iconst (pn := 650) F dL_law_649 rfl ?_
            exact AW.lret1 F G dL_law_650 hb
        · refine AW.tabIn (tg := 651) 17 F dL_law_33 hq (by decide) (by decide) rfl (by decide) ?_
          replace hb := hb.2.2.2.2.2.2.2.2.2.2.2.2.2.2.2.2.2.2.1 hq
          refine AW.aload_n (pn := 652) F dL_law_651 rfl rfl rfl ?_
          refine AW.aload_n (pn := 653) F dL_law_652 rfl rfl rfl ?_
          refine AW.iload_n (pn := 654) F dL_law_653 rfl rfl rfl ?_
          refine AW.iconst (pn := 655) F dL_law_654 rfl ?_
          refine AW.iadd (pn := 656) F dL_law_655 rfl ?_
          refine AW.sld (pn := 657) F E dL_law_656 rfl hb (fun v104 hb => ?_)
          refine AW.aload_n (pn := 658) F dL_law_657 rfl rfl rfl ?_
          refine AW.iload_n (pn := 659) F dL_law_658 rfl rfl rfl ?_
          refine AW.iconst (pn := 660) F dL_law_659 rfl ?_
          refine AW.iadd (pn := 661) F dL_law_660 rfl ?_
          refine AW.sld (pn := 662) F E dL_law_661 rfl hb (fun v105 hb => ?_)
          refine AW.cVI (pn := 665) (st := []) F dL_law_662 rfl cl_L_88 so_0 (p7_chain_0 v104 v105 hb) rfl rfl (Nat.le_of_ble_eq_true rfl) (by decide) (fun r106 h107 hb => ?_)
          refine AW.aload_n (pn := 666) F dL_law_665 rfl rfl rfl ?_
          refine AW.aload_n (pn := 667) F dL_law_666 rfl rfl rfl ?_
          refine AW.iload_n (pn := 668) F dL_law_667 rfl rfl rfl ?_
          refine AW.iconst (pn := 669) F dL_law_668 rfl ?_
          refine AW.iadd (pn := 670) F dL_law_669 rfl ?_
          refine AW.sld (pn := 671) F E dL_law_670 rfl hb (fun v108 hb => ?_)
          refine AW.aload_n (pn := 672) F dL_law_671 rfl rfl rfl ?_
          refine AW.iload_n (pn := 673) F dL_law_672 rfl rfl rfl ?_
          refine AW.iconst (pn := 674) F dL_law_673 rfl ?_
          refine AW.iadd (pn := 675) F dL_law_674 rfl ?_
          refine AW.sld (pn := 676) F E dL_law_675 rfl hb (fun v109 hb => ?_)
          refine AW.cVI (pn := 679) (st := [vI r106]) F dL_law_676 rfl cl_L_91 so_69 (p8_chain_69 v108 v109 hb) rfl rfl (Nat.le_of_ble_eq_true rfl) (by decide) (fun r110 h111 hb => ?_)
          refine AW.icmp_eq (pn := 682) (tg := 1010) F dL_law_679 rfl (by decide) hb (fun hb => ?_) (fun hb => ?_)
          · refine AW.iinc (ls2 := [some (vR 3000), some (vR 0), some (vR 69), some (vI (x3 + 6))]) (pn := 1013) F dL_law_1010 rfl rfl (by decide) rfl rfl ?_
            refine AW.goto (tg := 18) F dL_law_1013 (by decide) ?_
            exact ih _ _ hb
          · refine AW.iconst (pn := 683) F dL_law_682 rfl ?_
            exact AW.lret1 F G dL_law_683 hb
        · refine AW.tabIn (tg := 684) 18 F dL_law_33 hq (by decide) (by decide) rfl (by decide) ?_
          replace hb := hb.2.2.2.2.2.2.2.2.2.2.2.2.2.2.2.2.2.2.2.1 hq
          refine AW.aload_n (pn := 685) F dL_law_684 rfl rfl rfl ?_
          refine AW.aload_n (pn := 686) F dL_law_685 rfl rfl rfl ?_
          refine AW.iload_n (pn := 687) F dL_law_686 rfl rfl rfl ?_
          refine AW.iconst (pn := 688) F dL_law_687 rfl ?_
          refine AW.iadd (pn := 689) F dL_law_688 rfl ?_
          refine AW.sld (pn := 690) F E dL_law_689 rfl hb (fun v112 hb => ?_)
          refine AW.aload_n (pn := 691) F dL_law_690 rfl rfl rfl ?_
          refine AW.iload_n (pn := 692) F dL_law_691 rfl rfl rfl ?_
          refine AW.iconst (pn := 693) F dL_law_692 rfl ?_
          refine AW.iadd (pn := 694) F dL_law_693 rfl ?_
          refine AW.sld (pn := 695) F E dL_law_694 rfl hb (fun v113 hb => ?_)
          refine AW.cVI (pn := 698) (st := []) F dL_law_695 rfl cl_L_92 so_0 (p7_rings_0 v112 v113 hb) rfl rfl (Nat.le_of_ble_eq_true rfl) (by decide) (fun r114 h115 hb => ?_)
          refine AW.aload_n (pn := 699) F dL_law_698 rfl rfl rfl ?_
          refine AW.aload_n (pn := 700) F dL_law_699 rfl rfl rfl ?_
          refine AW.iload_n (pn := 701) F dL_law_700 rfl rfl rfl ?_
          refine AW.iconst (pn := 702) F dL_law_701 rfl ?_
          refine AW.iadd (pn := 703) F dL_law_702 rfl ?_
          refine AW.sld (pn := 704) F E dL_law_703 rfl hb (fun v116 hb => ?_)
          refine AW.aload_n (pn := 705) F dL_law_704 rfl rfl rfl ?_
          refine AW.iload_n (pn := 706) F dL_law_705 rfl rfl rfl ?_
          refine AW.iconst (pn := 707) F dL_law_706 rfl ?_
          refine AW.iadd (pn := 708) F dL_law_707 rfl ?_
          refine AW.sld (pn := 709) F E dL_law_708 rfl hb (fun v117 hb => ?_)
          refine AW.cVI (pn := 712) (st := [vI r114]) F dL_law_709 rfl cl_L_95 so_69 (p8_rings_69 v116 v117 hb) rfl rfl (Nat.le_of_ble_eq_true rfl) (by decide) (fun r118 h119 hb => ?_)
          refine AW.icmp_eq (pn := 715) (tg := 1010) F dL_law_712 rfl (by decide) hb (fun hb => ?_) (fun hb => ?_)
          · refine AW.iinc (ls2 := [some (vR 3000), some (vR 0), some (vR 69), some (vI (x3 + 6))]) (pn := 1013) F dL_law_1010 rfl rfl (by decide) rfl rfl ?_
            refine AW.goto (tg := 18) F dL_law_1013 (by decide) ?_
            exact ih _ _ hb
          · refine AW.iconst (pn := 716) F dL_law_715 rfl ?_
            exact AW.lret1 F G dL_law_716 hb
        · refine AW.tabIn (tg := 717) 19 F dL_law_33 hq (by decide) (by decide) rfl (by decide) ?_
          replace hb := hb.2.2.2.2.2.2.2.2.2.2.2.2.2.2.2.2.2.2.2.2.1 hq
          refine AW.aload_n (pn := 718) F dL_law_717 rfl rfl rfl ?_
          refine AW.aload_n (pn := 719) F dL_law_718 rfl rfl rfl ?_
          refine AW.iload_n (pn := 720) F dL_law_719 rfl rfl rfl ?_
          refine AW.iconst (pn := 721) F dL_law_720 rfl ?_
          refine AW.iadd (pn := 722) F dL_law_721 rfl ?_
          refine AW.sld (pn := 723) F E dL_law_722 rfl hb (fun v120 hb => ?_)
          refine AW.aload_n (pn := 724) F dL_law_723 rfl rfl rfl ?_
          refine AW.iload_n (pn := 725) F dL_law_724 rfl rfl rfl ?_
          refine AW.iconst (pn := 726) F dL_law_725 rfl ?_
          refine AW.iadd (pn := 727) F dL_law_726 rfl ?_
          refine AW.sld (pn := 728) F E dL_law_727 rfl hb (fun v121 hb => ?_)
          refine AW.cVP (pn := 731) (st := []) F dL_law_728 rfl cl_L_96 so_0 (p7_odds_0 v120 v121 hb) rfl rfl (Nat.le_of_ble_eq_true rfl) (by decide) (fun r122 hb => ?_)
          refine AW.aload_n (pn := 732) F dL_law_731 rfl rfl rfl ?_
          refine AW.aload_n (pn := 733) F dL_law_732 rfl rfl rfl ?_
          refine AW.iload_n (pn := 734) F dL_law_733 rfl rfl rfl ?_
          refine AW.iconst (pn := 735) F dL_law_734 rfl ?_
          refine AW.iadd (pn := 736) F dL_law_735 rfl ?_
          refine AW.sld (pn := 737) F E dL_law_736 rfl hb (fun v123 hb => ?_)
          refine AW.aload_n (pn := 738) F dL_law_737 rfl rfl rfl ?_
          refine AW.iload_n (pn := 739) F dL_law_738 rfl rfl rfl ?_
          refine AW.iconst (pn := 740) F dL_law_739 rfl ?_
          refine AW.iadd (pn := 741) F dL_law_740 rfl ?_
          refine AW.sld (pn := 742) F E dL_law_741 rfl hb (fun v124 hb => ?_)
          refine AW.cVP (pn := 745) (st := [vI r122]) F dL_law_742 rfl cl_L_99 so_69 (p8_odds_69 v123 v124 hb) rfl rfl (Nat.le_of_ble_eq_true rfl) (by decide) (fun r125 hb => ?_)
          refine AW.icmp_eq (pn := 748) (tg := 1010) F dL_law_745 rfl (by decide) hb (fun hb => ?_) (fun hb => ?_)
          · refine AW.iinc (ls2 := [some (vR 3000), some (vR 0), some (vR 69), some (vI (x3 + 6))]) (pn := 1013) F dL_law_1010 rfl rfl (by decide) rfl rfl ?_
            refine AW.goto (tg := 18) F dL_law_1013 (by decide) ?_
            exact ih _ _ hb
          · refine AW.iconst (pn := 749) F dL_law_748 rfl ?_
            exact AW.lret1 F G dL_law_749 hb
        · refine AW.tabIn (tg := 750) 20 F dL_law_33 hq (by decide) (by decide) rfl (by decide) ?_
          replace hb := hb.2.2.2.2.2.2.2.2.2.2.2.2.2.2.2.2.2.2.2.2.2.1 hq
          refine AW.aload_n (pn := 751) F dL_law_750 rfl rfl rfl ?_
          refine AW.aload_n (pn := 752) F dL_law_751 rfl rfl rfl ?_
          refine AW.iload_n (pn := 753) F dL_law_752 rfl rfl rfl ?_
          refine AW.iconst (pn := 754) F dL_law_753 rfl ?_
          refine AW.iadd (pn := 755) F dL_law_754 rfl ?_
          refine AW.sld (pn := 756) F E dL_law_755 rfl hb (fun v126 hb => ?_)
          refine AW.aload_n (pn := 757) F dL_law_756 rfl rfl rfl ?_
          refine AW.iload_n (pn := 758) F dL_law_757 rfl rfl rfl ?_
          refine AW.iconst (pn := 759) F dL_law_758 rfl ?_
          refine AW.iadd (pn := 760) F dL_law_759 rfl ?_
          refine AW.sld (pn := 761) F E dL_law_760 rfl hb (fun v127 hb => ?_)
          refine AW.aload_n (pn := 762) F dL_law_761 rfl rfl rfl ?_
          refine AW.iload_n (pn := 763) F dL_law_762 rfl rfl rfl ?_
          refine AW.iconst (pn := 764) F dL_law_763 rfl ?_
          refine AW.iadd (pn := 765) F dL_law_764 rfl ?_
          refine AW.sld (pn := 766) F E dL_law_765 rfl hb (fun v128 hb => ?_)
          refine AW.cVP (pn := 769) (st := []) F dL_law_766 rfl cl_L_100 so_0 (p7_waits_0 v126 v127 v128 hb) rfl rfl (Nat.le_of_ble_eq_true rfl) (by decide) (fun r129 hb => ?_)
          refine AW.aload_n (pn := 770) F dL_law_769 rfl rfl rfl ?_
          refine AW.aload_n (pn := 771) F dL_law_770 rfl rfl rfl ?_
          refine AW.iload_n (pn := 772) F dL_law_771 rfl rfl rfl ?_
          refine AW.iconst (pn := 773) F dL_law_772 rfl ?_
          refine AW.iadd (pn := 774) F dL_law_773 rfl ?_
          refine AW.sld (pn := 775) F E dL_law_774 rfl hb (fun v130 hb => ?_)
          refine AW.aload_n (pn := 776) F dL_law_775 rfl rfl rfl ?_
          refine AW.iload_n (pn := 777) F dL_law_776 rfl rfl rfl ?_
          refine AW.iconst (pn := 778) F dL_law_777 rfl ?_
          refine AW.iadd (pn := 779) F dL_law_778 rfl ?_
          refine AW.sld (pn := 780) F E dL_law_779 rfl hb (fun v131 hb => ?_)
          refine AW.aload_n (pn := 781) F dL_law_780 rfl rfl rfl ?_
          refine AW.iload_n (pn := 782) F dL_law_781 rfl rfl rfl ?_
          refine AW.iconst (pn := 783) F dL_law_782 rfl ?_
          refine AW.iadd (pn := 784) F dL_law_783 rfl ?_
          refine AW.sld (pn := 785) F E dL_law_784 rfl hb (fun v132 hb => ?_)
          refine AW.cVP (pn := 788) (st := [vI r129]) F dL_law_785 rfl cl_L_103 so_69 (p8_waits_69 v130 v131 v132 hb) rfl rfl (Nat.le_of_ble_eq_true rfl) (by decide) (fun r133 hb => ?_)
          refine AW.icmp_eq (pn := 791) (tg := 1010) F dL_law_788 rfl (by decide) hb (fun hb => ?_) (fun hb => ?_)
          · refine AW.iinc (ls2 := [some (vR 3000), some (vR 0), some (vR 69), some (vI (x3 + 6))]) (pn := 1013) F dL_law_1010 rfl rfl (by decide) rfl rfl ?_
            refine AW.goto (tg := 18) F dL_law_1013 (by decide) ?_
            exact ih _ _ hb
          · refine AW.iconst (pn := 792) F dL_law_791 rfl ?_
            exact AW.lret1 F G dL_law_792 hb
        · refine AW.tabIn (tg := 793) 21 F dL_law_33 hq (by decide) (by decide) rfl (by decide) ?_
          replace hb := hb.2.2.2.2.2.2.2.2.2.2.2.2.2.2.2.2.2.2.2.2.2.2.1 hq
          refine AW.aload_n (pn := 794) F dL_law_793 rfl rfl rfl ?_
          refine AW.aload_n (pn := 795) F dL_law_794 rfl rfl rfl ?_
          refine AW.iload_n (pn := 796) F dL_law_795 rfl rfl rfl ?_
          refine AW.iconst (pn := 797) F dL_law_796 rfl ?_
          refine AW.iadd (pn := 798) F dL_law_797 rfl ?_
          refine AW.sld (pn := 799) F E dL_law_798 rfl hb (fun v134 hb => ?_)
          refine AW.aload_n (pn := 800) F dL_law_799 rfl rfl rfl ?_
          refine AW.iload_n (pn := 801) F dL_law_800 rfl rfl rfl ?_
          refine AW.iconst (pn := 802) F dL_law_801 rfl ?_
          refine AW.iadd (pn := 803) F dL_law_802 rfl ?_
          refine AW.sld (pn := 804) F E dL_law_803 rfl hb (fun v135 hb => ?_)
          refine AW.aload_n (pn := 805) F dL_law_804 rfl rfl rfl ?_
          refine AW.iload_n (pn := 806) F dL_law_805 rfl rfl rfl ?_
          refine AW.iconst (pn := 807) F dL_law_806 rfl ?_
          refine AW.iadd (pn := 808) F dL_law_807 rfl ?_
          refine AW.sld (pn := 809) F E dL_law_808 rfl hb (fun v136 hb => ?_)
          refine AW.aload_n (pn := 810) F dL_law_809 rfl rfl rfl ?_
          refine AW.iload_n (pn := 811) F dL_law_810 rfl rfl rfl ?_
          refine AW.iconst (pn := 812) F dL_law_811 rfl ?_
          refine AW.iadd (pn := 813) F dL_law_812 rfl ?_
          refine AW.sld (pn := 814) F E dL_law_813 rfl hb (fun v137 hb => ?_)
          refine AW.aload_n (pn := 815) F dL_law_814 rfl rfl rfl ?_
          refine AW.iload_n (pn := 816) F dL_law_815 rfl rfl rfl ?_
          refine AW.iconst (pn := 817) F dL_law_816 rfl ?_
          refine AW.iadd (pn := 818) F dL_law_817 rfl ?_
          refine AW.sld (pn := 819) F E dL_law_818 rfl hb (fun v138 hb => ?_)
          refine AW.cVI (pn := 822) (st := []) F dL_law_819 rfl cl_L_104 so_0 (p7_turnsAt_0 v134 v135 v136 v137 v138 hb) rfl rfl (Nat.le_of_ble_eq_true rfl) (by decide) (fun r139 h140 hb => ?_)
          refine AW.aload_n (pn := 823) F dL_law_822 rfl rfl rfl ?_
          refine AW.aload_n (pn := 824) F dL_law_823 rfl rfl rfl ?_
          refine AW.iload_n (pn := 825) F dL_law_824 rfl rfl rfl ?_
          refine AW.iconst (pn := 826) F dL_law_825 rfl ?_
          refine AW.iadd (pn := 827) F dL_law_826 rfl ?_
          refine AW.sld (pn := 828) F E dL_law_827 rfl hb (fun v141 hb => ?_)
          refine AW.aload_n (pn := 829) F dL_law_828 rfl rfl rfl ?_
          refine AW.iload_n (pn := 830) F dL_law_829 rfl rfl rfl ?_
          refine AW.iconst (pn := 831) F dL_law_830 rfl ?_
          refine AW.iadd (pn := 832) F dL_law_831 rfl ?_
          refine AW.sld (pn := 833) F E dL_law_832 rfl hb (fun v142 hb => ?_)
          refine AW.aload_n (pn := 834) F dL_law_833 rfl rfl rfl ?_
          refine AW.iload_n (pn := 835) F dL_law_834 rfl rfl rfl ?_
          refine AW.iconst (pn := 836) F dL_law_835 rfl ?_
          refine AW.iadd (pn := 837) F dL_law_836 rfl ?_
          refine AW.sld (pn := 838) F E dL_law_837 rfl hb (fun v143 hb => ?_)
          refine AW.aload_n (pn := 839) F dL_law_838 rfl rfl rfl ?_
          refine AW.iload_n (pn := 840) F dL_law_839 rfl rfl rfl ?_
          refine AW.iconst (pn := 841) F dL_law_840 rfl ?_
          refine AW.iadd (pn := 842) F dL_law_841 rfl ?_
          refine AW.sld (pn := 843) F E dL_law_842 rfl hb (fun v144 hb => ?_)
          refine AW.aload_n (pn := 844) F dL_law_843 rfl rfl rfl ?_
          refine AW.iload_n (pn := 845) F dL_law_844 rfl rfl rfl ?_
          refine AW.iconst (pn := 846) F dL_law_845 rfl ?_
          refine AW.iadd (pn := 847) F dL_law_846 rfl ?_
          refine AW.sld (pn := 848) F E dL_law_847 rfl hb (fun v145 hb => ?_)
          refine AW.cVI (pn := 851) (st := [vI r139]) F dL_law_848 rfl cl_L_108 so_69 (p8_turnsAt_69 v141 v142 v143 v144 v145 hb) rfl rfl (Nat.le_of_ble_eq_true rfl) (by decide) (fun r146 h147 hb => ?_)
          refine AW.icmp_eq (pn := 854) (tg := 1010) F dL_law_851 rfl (by decide) hb (fun hb => ?_) (fun hb => ?_)
          · refine AW.iinc (ls2 := [some (vR 3000), some (vR 0), some (vR 69), some (vI (x3 + 6))]) (pn := 1013) F dL_law_1010 rfl rfl (by decide) rfl rfl ?_
            refine AW.goto (tg := 18) F dL_law_1013 (by decide) ?_
            exact ih _ _ hb
          · refine AW.iconst (pn := 855) F dL_law_854 rfl ?_
            exact AW.lret1 F G dL_law_855 hb
        · refine AW.tabIn (tg := 856) 22 F dL_law_33 hq (by decide) (by decide) rfl (by decide) ?_
          replace hb := hb.2.2.2.2.2.2.2.2.2.2.2.2.2.2.2.2.2.2.2.2.2.2.2.1 hq
          refine AW.aload_n (pn := 857) F dL_law_856 rfl rfl rfl ?_
          refine AW.aload_n (pn := 858) F dL_law_857 rfl rfl rfl ?_
          refine AW.iload_n (pn := 859) F dL_law_858 rfl rfl rfl ?_
          refine AW.iconst (pn := 860) F dL_law_859 rfl ?_
          refine AW.iadd (pn := 861) F dL_law_860 rfl ?_
          refine AW.sld (pn := 862) F E dL_law_861 rfl hb (fun v148 hb => ?_)
          refine AW.aload_n (pn := 863) F dL_law_862 rfl rfl rfl ?_
          refine AW.iload_n (pn := 864) F dL_law_863 rfl rfl rfl ?_
          refine AW.iconst (pn := 865) F dL_law_864 rfl ?_
          refine AW.iadd (pn := 866) F dL_law_865 rfl ?_
          refine AW.sld (pn := 867) F E dL_law_866 rfl hb (fun v149 hb => ?_)
          refine AW.aload_n (pn := 868) F dL_law_867 rfl rfl rfl ?_
          refine AW.iload_n (pn := 869) F dL_law_868 rfl rfl rfl ?_
          refine AW.iconst (pn := 870) F dL_law_869 rfl ?_
          refine AW.iadd (pn := 871) F dL_law_870 rfl ?_
          refine AW.sld (pn := 872) F E dL_law_871 rfl hb (fun v150 hb => ?_)
          refine jn_1 hb (fun (y152 : Int) => AW X 4 880 [some (vR 3000), some (vR 0), some (vR 69), some (vI x3)] [vI y152, vI v149, vI v148, vR 0] h) (fun y152 hb => ?_) (fun K153 hK153 hb => ?_)
          · refine AW.cVI (pn := 883) (st := []) F dL_law_880 rfl cl_L_109 so_0 (p7_write_0 v148 v149 y152 hb) rfl rfl (Nat.le_of_ble_eq_true rfl) (by decide) (fun r154 h155 hb => ?_)
            refine AW.aload_n (pn := 884) F dL_law_883 rfl rfl rfl ?_
            refine AW.aload_n (pn := 885) F dL_law_884 rfl rfl rfl ?_
            refine AW.iload_n (pn := 886) F dL_law_885 rfl rfl rfl ?_
            refine AW.iconst (pn := 887) F dL_law_886 rfl ?_
            refine AW.iadd (pn := 888) F dL_law_887 rfl ?_
            refine AW.sld (pn := 889) F E dL_law_888 rfl hb (fun v156 hb => ?_)
            refine AW.aload_n (pn := 890) F dL_law_889 rfl rfl rfl ?_
            refine AW.iload_n (pn := 891) F dL_law_890 rfl rfl rfl ?_
            refine AW.iconst (pn := 892) F dL_law_891 rfl ?_
            refine AW.iadd (pn := 893) F dL_law_892 rfl ?_
            refine AW.sld (pn := 894) F E dL_law_893 rfl hb (fun v157 hb => ?_)
            refine AW.aload_n (pn := 895) F dL_law_894 rfl rfl rfl ?_
            refine AW.iload_n (pn := 896) F dL_law_895 rfl rfl rfl ?_
            refine AW.iconst (pn := 897) F dL_law_896 rfl ?_
            refine AW.iadd (pn := 898) F dL_law_897 rfl ?_
            refine AW.sld (pn := 899) F E dL_law_898 rfl hb (fun v158 hb => ?_)
            refine jn_1 hb (fun (y160 : Int) => AW X 4 907 [some (vR 3000), some (vR 0), some (vR 69), some (vI x3)] [vI y160, vI v157, vI v156, vR 69, vI r154] h155) (fun y160 hb => ?_) (fun K161 hK161 hb => ?_)
            · refine AW.cVI (pn := 910) (st := [vI r154]) F dL_law_907 rfl cl_L_113 so_69 (p8_write_69 v156 v157 y160 hb) rfl rfl (Nat.le_of_ble_eq_true rfl) (by decide) (fun r162 h163 hb => ?_)
              refine AW.icmp_eq (pn := 913) (tg := 1010) F dL_law_910 rfl (by decide) hb (fun hb => ?_) (fun hb => ?_)
              · refine AW.iinc (ls2 := [some (vR 3000), some (vR 0), some (vR 69), some (vI (x3 + 6))]) (pn := 1013) F dL_law_1010 rfl rfl (by decide) rfl rfl ?_
                refine AW.goto (tg := 18) F dL_law_1013 (by decide) ?_
                exact ih _ _ hb
              · refine AW.iconst (pn := 914) F dL_law_913 rfl ?_
                exact AW.lret1 F G dL_law_914 hb
            refine AW.if_eq (pn := 902) (tg := 906) F dL_law_899 rfl (by decide) hb (fun hb => ?_) (fun hb => ?_)
            · refine AW.iconst (pn := 907) F dL_law_906 rfl ?_
              exact hK161 _ hb
            · refine AW.iconst (pn := 903) F dL_law_902 rfl ?_
              refine AW.goto (tg := 907) F dL_law_903 (by decide) ?_
              exact hK161 _ hb
          refine AW.if_eq (pn := 875) (tg := 879) F dL_law_872 rfl (by decide) hb (fun hb => ?_) (fun hb => ?_)
          · refine AW.iconst (pn := 880) F dL_law_879 rfl ?_
            exact hK153 _ hb
          · refine AW.iconst (pn := 876) F dL_law_875 rfl ?_
            refine AW.goto (tg := 880) F dL_law_876 (by decide) ?_
            exact hK153 _ hb
        · refine AW.tabIn (tg := 915) 23 F dL_law_33 hq (by decide) (by decide) rfl (by decide) ?_
          replace hb := hb.2.2.2.2.2.2.2.2.2.2.2.2.2.2.2.2.2.2.2.2.2.2.2.2.1 hq
          refine AW.aload_n (pn := 916) F dL_law_915 rfl rfl rfl ?_
          refine AW.cVI (pn := 919) (st := []) F dL_law_916 rfl cl_L_114 so_0 (p7_tear_0  hb) rfl rfl (Nat.le_of_ble_eq_true rfl) (by decide) (fun r164 h165 hb => ?_)
          refine AW.aload_n (pn := 920) F dL_law_919 rfl rfl rfl ?_
          refine AW.cVI (pn := 923) (st := [vI r164]) F dL_law_920 rfl cl_L_117 so_69 (p8_tear_69  hb) rfl rfl (Nat.le_of_ble_eq_true rfl) (by decide) (fun r166 h167 hb => ?_)
          refine AW.icmp_eq (pn := 926) (tg := 1010) F dL_law_923 rfl (by decide) hb (fun hb => ?_) (fun hb => ?_)
          · refine AW.iinc (ls2 := [some (vR 3000), some (vR 0), some (vR 69), some (vI (x3 + 6))]) (pn := 1013) F dL_law_1010 rfl rfl (by decide) rfl rfl ?_
            refine AW.goto (tg := 18) F dL_law_1013 (by decide) ?_
            exact ih _ _ hb
          · refine AW.iconst (pn := 927) F dL_law_926 rfl ?_
            exact AW.lret1 F G dL_law_927 hb
        · refine AW.tabIn (tg := 928) 24 F dL_law_33 hq (by decide) (by decide) rfl (by decide) ?_
          replace hb := hb.2.2.2.2.2.2.2.2.2.2.2.2.2.2.2.2.2.2.2.2.2.2.2.2.2.1 hq
          refine AW.aload_n (pn := 929) F dL_law_928 rfl rfl rfl ?_
          refine AW.cVI (pn := 932) (st := []) F dL_law_929 rfl cl_L_118 so_0 (p7_judge_0  hb) rfl rfl (Nat.le_of_ble_eq_true rfl) (by decide) (fun r168 h169 hb => ?_)
          refine AW.aload_n (pn := 933) F dL_law_932 rfl rfl rfl ?_
          refine AW.cVI (pn := 936) (st := [vI r168]) F dL_law_933 rfl cl_L_121 so_69 (p8_judge_69  hb) rfl rfl (Nat.le_of_ble_eq_true rfl) (by decide) (fun r170 h171 hb => ?_)
          refine AW.icmp_eq (pn := 939) (tg := 1010) F dL_law_936 rfl (by decide) hb (fun hb => ?_) (fun hb => ?_)
          · refine AW.iinc (ls2 := [some (vR 3000), some (vR 0), some (vR 69), some (vI (x3 + 6))]) (pn := 1013) F dL_law_1010 rfl rfl (by decide) rfl rfl ?_
            refine AW.goto (tg := 18) F dL_law_1013 (by decide) ?_
            exact ih _ _ hb
          · refine AW.iconst (pn := 940) F dL_law_939 rfl ?_
            exact AW.lret1 F G dL_law_940 hb
        · refine AW.tabIn (tg := 941) 25 F dL_law_33 hq (by decide) (by decide) rfl (by decide) ?_
          replace hb := hb.2.2.2.2.2.2.2.2.2.2.2.2.2.2.2.2.2.2.2.2.2.2.2.2.2.2.1 hq
          refine AW.aload_n (pn := 942) F dL_law_941 rfl rfl rfl ?_
          refine AW.aload_n (pn := 943) F dL_law_942 rfl rfl rfl ?_
          refine AW.iload_n (pn := 944) F dL_law_943 rfl rfl rfl ?_
          refine AW.iconst (pn := 945) F dL_law_944 rfl ?_
          refine AW.iadd (pn := 946) F dL_law_945 rfl ?_
          refine AW.sld (pn := 947) F E dL_law_946 rfl hb (fun v172 hb => ?_)
          refine AW.cVI (pn := 950) (st := []) F dL_law_947 rfl cl_L_122 so_0 (p7_seed_0 v172 hb) rfl rfl (Nat.le_of_ble_eq_true rfl) (by decide) (fun r173 h174 hb => ?_)
          refine AW.aload_n (pn := 951) F dL_law_950 rfl rfl rfl ?_
          refine AW.aload_n (pn := 952) F dL_law_951 rfl rfl rfl ?_
          refine AW.iload_n (pn := 953) F dL_law_952 rfl rfl rfl ?_
          refine AW.iconst (pn := 954) F dL_law_953 rfl ?_
          refine AW.iadd (pn := 955) F dL_law_954 rfl ?_
          refine AW.sld (pn := 956) F E dL_law_955 rfl hb (fun v175 hb => ?_)
          refine AW.cVI (pn := 959) (st := [vI r173]) F dL_law_956 rfl cl_L_125 so_69 (p8_seed_69 v175 hb) rfl rfl (Nat.le_of_ble_eq_true rfl) (by decide) (fun r176 h177 hb => ?_)
          refine AW.icmp_eq (pn := 962) (tg := 1010) F dL_law_959 rfl (by decide) hb (fun hb => ?_) (fun hb => ?_)
          · refine AW.iinc (ls2 := [some (vR 3000), some (vR 0), some (vR 69), some (vI (x3 + 6))]) (pn := 1013) F dL_law_1010 rfl rfl (by decide) rfl rfl ?_
            refine AW.goto (tg := 18) F dL_law_1013 (by decide) ?_
            exact ih _ _ hb
          · refine AW.iconst (pn := 963) F dL_law_962 rfl ?_
            exact AW.lret1 F G dL_law_963 hb
        · refine AW.tabIn (tg := 964) 26 F dL_law_33 hq (by decide) (by decide) rfl (by decide) ?_
          replace hb := hb.2.2.2.2.2.2.2.2.2.2.2.2.2.2.2.2.2.2.2.2.2.2.2.2.2.2.2.1 hq
          refine AW.aload_n (pn := 965) F dL_law_964 rfl rfl rfl ?_
          refine AW.aload_n (pn := 966) F dL_law_965 rfl rfl rfl ?_
          refine AW.iload_n (pn := 967) F dL_law_966 rfl rfl rfl ?_
          refine AW.iconst (pn := 968) F dL_law_967 rfl ?_
          refine AW.iadd (pn := 969) F dL_law_968 rfl ?_
          refine AW.sld (pn := 970) F E dL_law_969 rfl hb (fun v178 hb => ?_)
          refine AW.cVI (pn := 973) (st := []) F dL_law_970 rfl cl_L_126 so_0 (p7_keep_0 v178 hb) rfl rfl (Nat.le_of_ble_eq_true rfl) (by decide) (fun r179 h180 hb => ?_)
          refine AW.aload_n (pn := 974) F dL_law_973 rfl rfl rfl ?_
          refine AW.aload_n (pn := 975) F dL_law_974 rfl rfl rfl ?_
          refine AW.iload_n (pn := 976) F dL_law_975 rfl rfl rfl ?_
          refine AW.iconst (pn := 977) F dL_law_976 rfl ?_
          refine AW.iadd (pn := 978) F dL_law_977 rfl ?_
          refine AW.sld (pn := 979) F E dL_law_978 rfl hb (fun v181 hb => ?_)
          refine AW.cVI (pn := 982) (st := [vI r179]) F dL_law_979 rfl cl_L_129 so_69 (p8_keep_69 v181 hb) rfl rfl (Nat.le_of_ble_eq_true rfl) (by decide) (fun r182 h183 hb => ?_)
          refine AW.icmp_eq (pn := 985) (tg := 1010) F dL_law_982 rfl (by decide) hb (fun hb => ?_) (fun hb => ?_)
          · refine AW.iinc (ls2 := [some (vR 3000), some (vR 0), some (vR 69), some (vI (x3 + 6))]) (pn := 1013) F dL_law_1010 rfl rfl (by decide) rfl rfl ?_
            refine AW.goto (tg := 18) F dL_law_1013 (by decide) ?_
            exact ih _ _ hb
          · refine AW.iconst (pn := 986) F dL_law_985 rfl ?_
            exact AW.lret1 F G dL_law_986 hb
        · refine AW.tabIn (tg := 987) 27 F dL_law_33 hq (by decide) (by decide) rfl (by decide) ?_
          replace hb := hb.2.2.2.2.2.2.2.2.2.2.2.2.2.2.2.2.2.2.2.2.2.2.2.2.2.2.2.2 hq
          refine AW.aload_n (pn := 988) F dL_law_987 rfl rfl rfl ?_
          refine AW.aload_n (pn := 989) F dL_law_988 rfl rfl rfl ?_
          refine AW.iload_n (pn := 990) F dL_law_989 rfl rfl rfl ?_
          refine AW.iconst (pn := 991) F dL_law_990 rfl ?_
          refine AW.iadd (pn := 992) F dL_law_991 rfl ?_
          refine AW.sld (pn := 993) F E dL_law_992 rfl hb (fun v184 hb => ?_)
          refine AW.cVI (pn := 996) (st := []) F dL_law_993 rfl cl_L_130 so_0 (p7_goBack_0 v184 hb) rfl rfl (Nat.le_of_ble_eq_true rfl) (by decide) (fun r185 h186 hb => ?_)
          refine AW.aload_n (pn := 997) F dL_law_996 rfl rfl rfl ?_
          refine AW.aload_n (pn := 998) F dL_law_997 rfl rfl rfl ?_
          refine AW.iload_n (pn := 999) F dL_law_998 rfl rfl rfl ?_
          refine AW.iconst (pn := 1000) F dL_law_999 rfl ?_
          refine AW.iadd (pn := 1001) F dL_law_1000 rfl ?_
          refine AW.sld (pn := 1002) F E dL_law_1001 rfl hb (fun v187 hb => ?_)
          refine AW.cVI (pn := 1005) (st := [vI r185]) F dL_law_1002 rfl cl_L_133 so_69 (p8_goBack_69 v187 hb) rfl rfl (Nat.le_of_ble_eq_true rfl) (by decide) (fun r188 h189 hb => ?_)
          refine AW.icmp_eq (pn := 1008) (tg := 1010) F dL_law_1005 rfl (by decide) hb (fun hb => ?_) (fun hb => ?_)
          · refine AW.iinc (ls2 := [some (vR 3000), some (vR 0), some (vR 69), some (vI (x3 + 6))]) (pn := 1013) F dL_law_1010 rfl rfl (by decide) rfl rfl ?_
            refine AW.goto (tg := 18) F dL_law_1013 (by decide) ?_
            exact ih _ _ hb
          · refine AW.iconst (pn := 1009) F dL_law_1008 rfl ?_
            exact AW.lret1 F G dL_law_1009 hb

theorem law_walk {X : Cx} {L : Nat} {xs : Nat → Int} {h : HP} (F : Fx X cL_law RL 4 60) (E : Sx X L xs) (G : Lx X) (hb : pL_law_L18 L xs FUEL h 0) : AW X 4 16 [some (vR 3000), some (vR 0), some (vR 69), none] [] h := by
  refine AW.iconst (pn := 17) F dL_law_16 rfl ?_
  refine AW.istore_n (ls2 := [some (vR 3000), some (vR 0), some (vR 69), some (vI 0)]) (pn := 18) F dL_law_17 rfl rfl (by decide) rfl rfl ?_
  refine pL_law_L18_ok_l F E G  _ _ _ hb
