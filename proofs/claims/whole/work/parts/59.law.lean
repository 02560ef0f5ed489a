/-! printed by wip/whole/law.py: the cases of the law, class and model called with the same arguments -/
/-- the law's method, by whatever name it is called -/
abbrev mL (nm : String) : sh_M := (⟨RL, nm, "([I)Z"⟩, code, 4, ret, (10, 376), (600000, 7302250))
section LAW
variable {g : sh_G} {M N : sh_M} {cells slots pc : Nat} {ls : List (Nat × sh_v)} {st : List sh_v} {S : sh_S} {sz b c : Nat} {Q : sh_T} {nm : String}
theorem sh_cig {ix n ci : Nat} {b : sh_O} {As st0 : List sh_v} {fs : List sh_v} {q : vw_C} {R : Int32 → sh_S → Prop} (d : decode (sh_cc M) pc = .ok (.invokevirtual ix, 3)) (hl0 : Cond.methodLink M.1.cls ix N.1 ∈ shW) (hM : sh_Ci g N (sh_R b :: As) S sz R) (hN : sh_MF N n) (hI : sh_IV N) (hf : sh_fitsIn N M) (hst : st0 = As.reverse ++ sh_R b :: st) (hn : As.length = n) (h8 : (st.map (fun v => if sh_c2 v then 2 else 1)).sum ≤ 8) (hb0 : sh_ok b) (hb1 : sh_ct b (S b) = .inl (ci, fs)) (hq : vwCl[ci]? = some q) (hqc : q.1 = N.1.cls) (hr : cells ≤ sh_mc M ∧ slots ≤ sh_ms M)
    (kk : ∀ x S1, R x S1 → sh_V g M cells slots (pc + 3) ls (sh_I x :: st) (sh_St S1) sz Q) : sh_V g M cells slots pc ls st0 (sh_St S) sz Q := by
  refine sh_vcall d hl0 hN.1 hI hf hst hn h8 (sh_has hb0 hb1) hq hqc (by rw [hN.2.1, hN.2.2]; exact hr) hM ?_
  rintro r φ1 sz1 ⟨rfl, S1, x, rfl, rfl, hR⟩
  rw [hN.2.1, hN.2.2]
  exact kk x S1 hR
theorem law_in {L : Nat} (hL : L ≤ 2560) (hi : 5 * c + 5 ≤ L) (k : Nat) (hk : k < 5) : vp_in (nI (5 * c) + nI k) L := by
  rw [nI_add]
  exact vp_in_nI (by omega) (by omega)
abbrev law_ls (c : Nat) : List (Nat × sh_v) := [(0, sh_R (99, 0, 0)), (1, sh_R (8, 0, 0)), (2, sh_R (9, 0, 0)), (3, sh_I (nI (5 * c)))]
set_option maxRecDepth 100000 in
theorem law_0 (G : sh_GR b S) (hb : b + 2000000 ≤ sh_LIM) (hL : sh_L g ≤ 2560) (hi : 5 * c + 5 ≤ sh_L g) (ih : ∀ S2, sh_GR (b + 2000000) S2 → sh_V g (mL nm) 894 9877 1247 (law_ls c) [] (sh_St S2) sz Q) : sh_V g (mL nm) 894 9877 196 (law_ls c) [] (sh_St S) sz Q := by
  refine sh_aload_n (pc := 196) dL_law_196 rfl ?_
  refine sh_aload_n (pc := 197) dL_law_197 rfl ?_
  refine sh_iload_n (pc := 198) dL_law_198 rfl ?_
  refine sh_iconst (v := 1) (pc := 199) dL_law_199 rfl ?_
  refine sh_iadd (pc := 200) dL_law_200 ?_
  refine sh_sald (pc := 201) dL_law_201 (law_in hL hi 1 (by decide)) ?_
  refine sh_aload_n (pc := 202) dL_law_202 rfl ?_
  refine sh_iload_n (pc := 203) dL_law_203 rfl ?_
  refine sh_iconst (v := 2) (pc := 204) dL_law_204 rfl ?_
  refine sh_iadd (pc := 205) dL_law_205 ?_
  refine sh_sald (pc := 206) dL_law_206 (law_in hL hi 2 (by decide)) ?_
  refine sh_cig (pc := 207) (N := mX8_set) dL_law_207 ml_L_13 (L_set G hb) mf_X8_set iv_X8_set ⟨Nat.le_of_ble_eq_true rfl, Nat.le_of_ble_eq_true rfl⟩ rfl rfl (Nat.le_of_ble_eq_true rfl) ok_8_0 rfl rfl rfl ⟨Nat.le_of_ble_eq_true rfl, Nat.le_of_ble_eq_true rfl⟩ (fun r1 S1 h1 => ?_)
  refine sh_aload_n (pc := 210) dL_law_210 rfl ?_
  refine sh_aload_n (pc := 211) dL_law_211 rfl ?_
  refine sh_iload_n (pc := 212) dL_law_212 rfl ?_
  refine sh_iconst (v := 1) (pc := 213) dL_law_213 rfl ?_
  refine sh_iadd (pc := 214) dL_law_214 ?_
  refine sh_sald (pc := 215) dL_law_215 (law_in hL hi 1 (by decide)) ?_
  refine sh_aload_n (pc := 216) dL_law_216 rfl ?_
  refine sh_iload_n (pc := 217) dL_law_217 rfl ?_
  refine sh_iconst (v := 2) (pc := 218) dL_law_218 rfl ?_
  refine sh_iadd (pc := 219) dL_law_219 ?_
  refine sh_sald (pc := 220) dL_law_220 (law_in hL hi 2 (by decide)) ?_
  refine sh_cig (pc := 221) (N := mX9_set) dL_law_221 ml_L_17 h1 mf_X9_set iv_X9_set ⟨Nat.le_of_ble_eq_true rfl, Nat.le_of_ble_eq_true rfl⟩ rfl rfl (Nat.le_of_ble_eq_true rfl) ok_9_0 rfl rfl rfl ⟨Nat.le_of_ble_eq_true rfl, Nat.le_of_ble_eq_true rfl⟩ (fun r2 S2 h2 => ?_)
  exact sh_icmp_eq (tgt := 1247) (pc := 224) dL_law_224 (by decide) (fun _ => ih S2 h2.2) (fun z => absurd h2.1 z)
set_option maxRecDepth 100000 in
theorem law_1 (G : sh_GR b S) (hb : b + 2000000 ≤ sh_LIM) (hL : sh_L g ≤ 2560) (hi : 5 * c + 5 ≤ sh_L g) (ih : ∀ S2, sh_GR (b + 2000000) S2 → sh_V g (mL nm) 894 9877 1247 (law_ls c) [] (sh_St S2) sz Q) : sh_V g (mL nm) 894 9877 229 (law_ls c) [] (sh_St S) sz Q := by
  refine sh_aload_n (pc := 229) dL_law_229 rfl ?_
  refine sh_cig (pc := 230) (N := mX8_member) dL_law_230 ml_L_18 (L_member G hb) mf_X8_member iv_X8_member ⟨Nat.le_of_ble_eq_true rfl, Nat.le_of_ble_eq_true rfl⟩ rfl rfl (Nat.le_of_ble_eq_true rfl) ok_8_0 rfl rfl rfl ⟨Nat.le_of_ble_eq_true rfl, Nat.le_of_ble_eq_true rfl⟩ (fun r1 S1 h1 => ?_)
  refine sh_aload_n (pc := 233) dL_law_233 rfl ?_
  refine sh_cig (pc := 234) (N := mX9_member) dL_law_234 ml_L_22 h1 mf_X9_member iv_X9_member ⟨Nat.le_of_ble_eq_true rfl, Nat.le_of_ble_eq_true rfl⟩ rfl rfl (Nat.le_of_ble_eq_true rfl) ok_9_0 rfl rfl rfl ⟨Nat.le_of_ble_eq_true rfl, Nat.le_of_ble_eq_true rfl⟩ (fun r2 S2 h2 => ?_)
  exact sh_icmp_eq (tgt := 1247) (pc := 237) dL_law_237 (by decide) (fun _ => ih S2 h2.2) (fun z => absurd h2.1 z)
set_option maxRecDepth 100000 in
theorem law_2 (G : sh_GR b S) (hb : b + 2000000 ≤ sh_LIM) (hL : sh_L g ≤ 2560) (hi : 5 * c + 5 ≤ sh_L g) (ih : ∀ S2, sh_GR (b + 2000000) S2 → sh_V g (mL nm) 894 9877 1247 (law_ls c) [] (sh_St S2) sz Q) : sh_V g (mL nm) 894 9877 242 (law_ls c) [] (sh_St S) sz Q := by
  refine sh_aload_n (pc := 242) dL_law_242 rfl ?_
  refine sh_aload_n (pc := 243) dL_law_243 rfl ?_
  refine sh_iload_n (pc := 244) dL_law_244 rfl ?_
  refine sh_iconst (v := 1) (pc := 245) dL_law_245 rfl ?_
  refine sh_iadd (pc := 246) dL_law_246 ?_
  refine sh_sald (pc := 247) dL_law_247 (law_in hL hi 1 (by decide)) ?_
  refine sh_aload_n (pc := 248) dL_law_248 rfl ?_
  refine sh_iload_n (pc := 249) dL_law_249 rfl ?_
  refine sh_iconst (v := 2) (pc := 250) dL_law_250 rfl ?_
  refine sh_iadd (pc := 251) dL_law_251 ?_
  refine sh_sald (pc := 252) dL_law_252 (law_in hL hi 2 (by decide)) ?_
  refine sh_cig (pc := 253) (N := mX8_away) dL_law_253 ml_L_23 (L_away G hb) mf_X8_away iv_X8_away ⟨Nat.le_of_ble_eq_true rfl, Nat.le_of_ble_eq_true rfl⟩ rfl rfl (Nat.le_of_ble_eq_true rfl) ok_8_0 rfl rfl rfl ⟨Nat.le_of_ble_eq_true rfl, Nat.le_of_ble_eq_true rfl⟩ (fun r1 S1 h1 => ?_)
  refine sh_aload_n (pc := 256) dL_law_256 rfl ?_
  refine sh_aload_n (pc := 257) dL_law_257 rfl ?_
  refine sh_iload_n (pc := 258) dL_law_258 rfl ?_
  refine sh_iconst (v := 1) (pc := 259) dL_law_259 rfl ?_
  refine sh_iadd (pc := 260) dL_law_260 ?_
  refine sh_sald (pc := 261) dL_law_261 (law_in hL hi 1 (by decide)) ?_
  refine sh_aload_n (pc := 262) dL_law_262 rfl ?_
  refine sh_iload_n (pc := 263) dL_law_263 rfl ?_
  refine sh_iconst (v := 2) (pc := 264) dL_law_264 rfl ?_
  refine sh_iadd (pc := 265) dL_law_265 ?_
  refine sh_sald (pc := 266) dL_law_266 (law_in hL hi 2 (by decide)) ?_
  refine sh_cig (pc := 267) (N := mX9_away) dL_law_267 ml_L_26 h1 mf_X9_away iv_X9_away ⟨Nat.le_of_ble_eq_true rfl, Nat.le_of_ble_eq_true rfl⟩ rfl rfl (Nat.le_of_ble_eq_true rfl) ok_9_0 rfl rfl rfl ⟨Nat.le_of_ble_eq_true rfl, Nat.le_of_ble_eq_true rfl⟩ (fun r2 S2 h2 => ?_)
  exact sh_icmp_eq (tgt := 1247) (pc := 270) dL_law_270 (by decide) (fun _ => ih S2 h2.2) (fun z => absurd h2.1 z)
set_option maxRecDepth 100000 in
theorem law_3 (G : sh_GR b S) (hb : b + 2000000 ≤ sh_LIM) (hL : sh_L g ≤ 2560) (hi : 5 * c + 5 ≤ sh_L g) (ih : ∀ S2, sh_GR (b + 2000000) S2 → sh_V g (mL nm) 894 9877 1247 (law_ls c) [] (sh_St S2) sz Q) : sh_V g (mL nm) 894 9877 275 (law_ls c) [] (sh_St S) sz Q := by
  refine sh_aload_n (pc := 275) dL_law_275 rfl ?_
  refine sh_aload_n (pc := 276) dL_law_276 rfl ?_
  refine sh_iload_n (pc := 277) dL_law_277 rfl ?_
  refine sh_iconst (v := 1) (pc := 278) dL_law_278 rfl ?_
  refine sh_iadd (pc := 279) dL_law_279 ?_
  refine sh_sald (pc := 280) dL_law_280 (law_in hL hi 1 (by decide)) ?_
  refine sh_cig (pc := 281) (N := mX8_leave) dL_law_281 ml_L_27 (L_leave G hb) mf_X8_leave iv_X8_leave ⟨Nat.le_of_ble_eq_true rfl, Nat.le_of_ble_eq_true rfl⟩ rfl rfl (Nat.le_of_ble_eq_true rfl) ok_8_0 rfl rfl rfl ⟨Nat.le_of_ble_eq_true rfl, Nat.le_of_ble_eq_true rfl⟩ (fun r1 S1 h1 => ?_)
  refine sh_aload_n (pc := 284) dL_law_284 rfl ?_
  refine sh_aload_n (pc := 285) dL_law_285 rfl ?_
  refine sh_iload_n (pc := 286) dL_law_286 rfl ?_
  refine sh_iconst (v := 1) (pc := 287) dL_law_287 rfl ?_
  refine sh_iadd (pc := 288) dL_law_288 ?_
  refine sh_sald (pc := 289) dL_law_289 (law_in hL hi 1 (by decide)) ?_
  refine sh_cig (pc := 290) (N := mX9_leave) dL_law_290 ml_L_31 h1 mf_X9_leave iv_X9_leave ⟨Nat.le_of_ble_eq_true rfl, Nat.le_of_ble_eq_true rfl⟩ rfl rfl (Nat.le_of_ble_eq_true rfl) ok_9_0 rfl rfl rfl ⟨Nat.le_of_ble_eq_true rfl, Nat.le_of_ble_eq_true rfl⟩ (fun r2 S2 h2 => ?_)
  exact sh_icmp_eq (tgt := 1247) (pc := 293) dL_law_293 (by decide) (fun _ => ih S2 h2.2) (fun z => absurd h2.1 z)
set_option maxRecDepth 100000 in
theorem law_4 (G : sh_GR b S) (hb : b + 2000000 ≤ sh_LIM) (hL : sh_L g ≤ 2560) (hi : 5 * c + 5 ≤ sh_L g) (ih : ∀ S2, sh_GR (b + 2000000) S2 → sh_V g (mL nm) 894 9877 1247 (law_ls c) [] (sh_St S2) sz Q) : sh_V g (mL nm) 894 9877 298 (law_ls c) [] (sh_St S) sz Q := by
  refine sh_aload_n (pc := 298) dL_law_298 rfl ?_
  refine sh_aload_n (pc := 299) dL_law_299 rfl ?_
  refine sh_iload_n (pc := 300) dL_law_300 rfl ?_
  refine sh_iconst (v := 1) (pc := 301) dL_law_301 rfl ?_
  refine sh_iadd (pc := 302) dL_law_302 ?_
  refine sh_sald (pc := 303) dL_law_303 (law_in hL hi 1 (by decide)) ?_
  refine sh_aload_n (pc := 304) dL_law_304 rfl ?_
  refine sh_iload_n (pc := 305) dL_law_305 rfl ?_
  refine sh_iconst (v := 2) (pc := 306) dL_law_306 rfl ?_
  refine sh_iadd (pc := 307) dL_law_307 ?_
  refine sh_sald (pc := 308) dL_law_308 (law_in hL hi 2 (by decide)) ?_
  refine sh_cig (pc := 309) (N := mX8_give) dL_law_309 ml_L_32 (L_give G hb) mf_X8_give iv_X8_give ⟨Nat.le_of_ble_eq_true rfl, Nat.le_of_ble_eq_true rfl⟩ rfl rfl (Nat.le_of_ble_eq_true rfl) ok_8_0 rfl rfl rfl ⟨Nat.le_of_ble_eq_true rfl, Nat.le_of_ble_eq_true rfl⟩ (fun r1 S1 h1 => ?_)
  refine sh_aload_n (pc := 312) dL_law_312 rfl ?_
  refine sh_aload_n (pc := 313) dL_law_313 rfl ?_
  refine sh_iload_n (pc := 314) dL_law_314 rfl ?_
  refine sh_iconst (v := 1) (pc := 315) dL_law_315 rfl ?_
  refine sh_iadd (pc := 316) dL_law_316 ?_
  refine sh_sald (pc := 317) dL_law_317 (law_in hL hi 1 (by decide)) ?_
  refine sh_aload_n (pc := 318) dL_law_318 rfl ?_
  refine sh_iload_n (pc := 319) dL_law_319 rfl ?_
  refine sh_iconst (v := 2) (pc := 320) dL_law_320 rfl ?_
  refine sh_iadd (pc := 321) dL_law_321 ?_
  refine sh_sald (pc := 322) dL_law_322 (law_in hL hi 2 (by decide)) ?_
  refine sh_cig (pc := 323) (N := mX9_give) dL_law_323 ml_L_35 h1 mf_X9_give iv_X9_give ⟨Nat.le_of_ble_eq_true rfl, Nat.le_of_ble_eq_true rfl⟩ rfl rfl (Nat.le_of_ble_eq_true rfl) ok_9_0 rfl rfl rfl ⟨Nat.le_of_ble_eq_true rfl, Nat.le_of_ble_eq_true rfl⟩ (fun r2 S2 h2 => ?_)
  exact sh_icmp_eq (tgt := 1247) (pc := 326) dL_law_326 (by decide) (fun _ => ih S2 h2.2) (fun z => absurd h2.1 z)
set_option maxRecDepth 100000 in
theorem law_5 (G : sh_GR b S) (hb : b + 2000000 ≤ sh_LIM) (hL : sh_L g ≤ 2560) (hi : 5 * c + 5 ≤ sh_L g) (ih : ∀ S2, sh_GR (b + 2000000) S2 → sh_V g (mL nm) 894 9877 1247 (law_ls c) [] (sh_St S2) sz Q) : sh_V g (mL nm) 894 9877 331 (law_ls c) [] (sh_St S) sz Q := by
  refine sh_aload_n (pc := 331) dL_law_331 rfl ?_
  refine sh_aload_n (pc := 332) dL_law_332 rfl ?_
  refine sh_iload_n (pc := 333) dL_law_333 rfl ?_
  refine sh_iconst (v := 1) (pc := 334) dL_law_334 rfl ?_
  refine sh_iadd (pc := 335) dL_law_335 ?_
  refine sh_sald (pc := 336) dL_law_336 (law_in hL hi 1 (by decide)) ?_
  refine sh_aload_n (pc := 337) dL_law_337 rfl ?_
  refine sh_iload_n (pc := 338) dL_law_338 rfl ?_
  refine sh_iconst (v := 2) (pc := 339) dL_law_339 rfl ?_
  refine sh_iadd (pc := 340) dL_law_340 ?_
  refine sh_sald (pc := 341) dL_law_341 (law_in hL hi 2 (by decide)) ?_
  refine sh_cig (pc := 342) (N := mX8_memberOf) dL_law_342 ml_L_36 (L_memberOf G) mf_X8_memberOf iv_X8_memberOf ⟨Nat.le_of_ble_eq_true rfl, Nat.le_of_ble_eq_true rfl⟩ rfl rfl (Nat.le_of_ble_eq_true rfl) ok_8_0 rfl rfl rfl ⟨Nat.le_of_ble_eq_true rfl, Nat.le_of_ble_eq_true rfl⟩ (fun r1 S1 h1 => ?_)
  refine sh_aload_n (pc := 345) dL_law_345 rfl ?_
  refine sh_aload_n (pc := 346) dL_law_346 rfl ?_
  refine sh_iload_n (pc := 347) dL_law_347 rfl ?_
  refine sh_iconst (v := 1) (pc := 348) dL_law_348 rfl ?_
  refine sh_iadd (pc := 349) dL_law_349 ?_
  refine sh_sald (pc := 350) dL_law_350 (law_in hL hi 1 (by decide)) ?_
  refine sh_aload_n (pc := 351) dL_law_351 rfl ?_
  refine sh_iload_n (pc := 352) dL_law_352 rfl ?_
  refine sh_iconst (v := 2) (pc := 353) dL_law_353 rfl ?_
  refine sh_iadd (pc := 354) dL_law_354 ?_
  refine sh_sald (pc := 355) dL_law_355 (law_in hL hi 2 (by decide)) ?_
  refine sh_cig (pc := 356) (N := mX9_memberOf) dL_law_356 ml_L_39 h1 mf_X9_memberOf iv_X9_memberOf ⟨Nat.le_of_ble_eq_true rfl, Nat.le_of_ble_eq_true rfl⟩ rfl rfl (Nat.le_of_ble_eq_true rfl) ok_9_0 rfl rfl rfl ⟨Nat.le_of_ble_eq_true rfl, Nat.le_of_ble_eq_true rfl⟩ (fun r2 S2 h2 => ?_)
  exact sh_icmp_eq (tgt := 1247) (pc := 359) dL_law_359 (by decide) (fun _ => ih S2 h2.2) (fun z => absurd h2.1 z)
set_option maxRecDepth 100000 in
theorem law_6 (G : sh_GR b S) (hb : b + 2000000 ≤ sh_LIM) (hL : sh_L g ≤ 2560) (hi : 5 * c + 5 ≤ sh_L g) (ih : ∀ S2, sh_GR (b + 2000000) S2 → sh_V g (mL nm) 894 9877 1247 (law_ls c) [] (sh_St S2) sz Q) : sh_V g (mL nm) 894 9877 364 (law_ls c) [] (sh_St S) sz Q := by
  refine sh_aload_n (pc := 364) dL_law_364 rfl ?_
  refine sh_aload_n (pc := 365) dL_law_365 rfl ?_
  refine sh_iload_n (pc := 366) dL_law_366 rfl ?_
  refine sh_iconst (v := 1) (pc := 367) dL_law_367 rfl ?_
  refine sh_iadd (pc := 368) dL_law_368 ?_
  refine sh_sald (pc := 369) dL_law_369 (law_in hL hi 1 (by decide)) ?_
  refine sh_cig (pc := 370) (N := mX8_account) dL_law_370 ml_L_40 (L_account G) mf_X8_account iv_X8_account ⟨Nat.le_of_ble_eq_true rfl, Nat.le_of_ble_eq_true rfl⟩ rfl rfl (Nat.le_of_ble_eq_true rfl) ok_8_0 rfl rfl rfl ⟨Nat.le_of_ble_eq_true rfl, Nat.le_of_ble_eq_true rfl⟩ (fun r1 S1 h1 => ?_)
  refine sh_aload_n (pc := 373) dL_law_373 rfl ?_
  refine sh_aload_n (pc := 374) dL_law_374 rfl ?_
  refine sh_iload_n (pc := 375) dL_law_375 rfl ?_
  refine sh_iconst (v := 1) (pc := 376) dL_law_376 rfl ?_
  refine sh_iadd (pc := 377) dL_law_377 ?_
  refine sh_sald (pc := 378) dL_law_378 (law_in hL hi 1 (by decide)) ?_
  refine sh_cig (pc := 379) (N := mX9_account) dL_law_379 ml_L_43 h1 mf_X9_account iv_X9_account ⟨Nat.le_of_ble_eq_true rfl, Nat.le_of_ble_eq_true rfl⟩ rfl rfl (Nat.le_of_ble_eq_true rfl) ok_9_0 rfl rfl rfl ⟨Nat.le_of_ble_eq_true rfl, Nat.le_of_ble_eq_true rfl⟩ (fun r2 S2 h2 => ?_)
  exact sh_icmp_eq (tgt := 1247) (pc := 382) dL_law_382 (by decide) (fun _ => ih S2 h2.2) (fun z => absurd h2.1 z)
set_option maxRecDepth 100000 in
theorem law_7 (G : sh_GR b S) (hb : b + 2000000 ≤ sh_LIM) (hL : sh_L g ≤ 2560) (hi : 5 * c + 5 ≤ sh_L g) (ih : ∀ S2, sh_GR (b + 2000000) S2 → sh_V g (mL nm) 894 9877 1247 (law_ls c) [] (sh_St S2) sz Q) : sh_V g (mL nm) 894 9877 387 (law_ls c) [] (sh_St S) sz Q := by
  refine sh_aload_n (pc := 387) dL_law_387 rfl ?_
  refine sh_aload_n (pc := 388) dL_law_388 rfl ?_
  refine sh_iload_n (pc := 389) dL_law_389 rfl ?_
  refine sh_iconst (v := 1) (pc := 390) dL_law_390 rfl ?_
  refine sh_iadd (pc := 391) dL_law_391 ?_
  refine sh_sald (pc := 392) dL_law_392 (law_in hL hi 1 (by decide)) ?_
  refine sh_cig (pc := 393) (N := mX8_debtorAt) dL_law_393 ml_L_44 (L_debtorAt G) mf_X8_debtorAt iv_X8_debtorAt ⟨Nat.le_of_ble_eq_true rfl, Nat.le_of_ble_eq_true rfl⟩ rfl rfl (Nat.le_of_ble_eq_true rfl) ok_8_0 rfl rfl rfl ⟨Nat.le_of_ble_eq_true rfl, Nat.le_of_ble_eq_true rfl⟩ (fun r1 S1 h1 => ?_)
  refine sh_aload_n (pc := 396) dL_law_396 rfl ?_
  refine sh_aload_n (pc := 397) dL_law_397 rfl ?_
  refine sh_iload_n (pc := 398) dL_law_398 rfl ?_
  refine sh_iconst (v := 1) (pc := 399) dL_law_399 rfl ?_
  refine sh_iadd (pc := 400) dL_law_400 ?_
  refine sh_sald (pc := 401) dL_law_401 (law_in hL hi 1 (by decide)) ?_
  refine sh_cig (pc := 402) (N := mX9_debtorAt) dL_law_402 ml_L_47 h1 mf_X9_debtorAt iv_X9_debtorAt ⟨Nat.le_of_ble_eq_true rfl, Nat.le_of_ble_eq_true rfl⟩ rfl rfl (Nat.le_of_ble_eq_true rfl) ok_9_0 rfl rfl rfl ⟨Nat.le_of_ble_eq_true rfl, Nat.le_of_ble_eq_true rfl⟩ (fun r2 S2 h2 => ?_)
  exact sh_icmp_eq (tgt := 1247) (pc := 405) dL_law_405 (by decide) (fun _ => ih S2 h2.2) (fun z => absurd h2.1 z)
set_option maxRecDepth 100000 in
theorem law_8 (G : sh_GR b S) (hb : b + 2000000 ≤ sh_LIM) (hL : sh_L g ≤ 2560) (hi : 5 * c + 5 ≤ sh_L g) (ih : ∀ S2, sh_GR (b + 2000000) S2 → sh_V g (mL nm) 894 9877 1247 (law_ls c) [] (sh_St S2) sz Q) : sh_V g (mL nm) 894 9877 410 (law_ls c) [] (sh_St S) sz Q := by
  refine sh_aload_n (pc := 410) dL_law_410 rfl ?_
  refine sh_aload_n (pc := 411) dL_law_411 rfl ?_
  refine sh_iload_n (pc := 412) dL_law_412 rfl ?_
  refine sh_iconst (v := 1) (pc := 413) dL_law_413 rfl ?_
  refine sh_iadd (pc := 414) dL_law_414 ?_
  refine sh_sald (pc := 415) dL_law_415 (law_in hL hi 1 (by decide)) ?_
  refine sh_aload_n (pc := 416) dL_law_416 rfl ?_
  refine sh_iload_n (pc := 417) dL_law_417 rfl ?_
  refine sh_iconst (v := 2) (pc := 418) dL_law_418 rfl ?_
  refine sh_iadd (pc := 419) dL_law_419 ?_
  refine sh_sald (pc := 420) dL_law_420 (law_in hL hi 2 (by decide)) ?_
  refine sh_aload_n (pc := 421) dL_law_421 rfl ?_
  refine sh_iload_n (pc := 422) dL_law_422 rfl ?_
  refine sh_iconst (v := 3) (pc := 423) dL_law_423 rfl ?_
  refine sh_iadd (pc := 424) dL_law_424 ?_
  refine sh_sald (pc := 425) dL_law_425 (law_in hL hi 3 (by decide)) ?_
  refine sh_cig (pc := 426) (N := mX8_tool) dL_law_426 ml_L_48 (L_tool G hb) mf_X8_tool iv_X8_tool ⟨Nat.le_of_ble_eq_true rfl, Nat.le_of_ble_eq_true rfl⟩ rfl rfl (Nat.le_of_ble_eq_true rfl) ok_8_0 rfl rfl rfl ⟨Nat.le_of_ble_eq_true rfl, Nat.le_of_ble_eq_true rfl⟩ (fun r1 S1 h1 => ?_)
  refine sh_aload_n (pc := 429) dL_law_429 rfl ?_
  refine sh_aload_n (pc := 430) dL_law_430 rfl ?_
  refine sh_iload_n (pc := 431) dL_law_431 rfl ?_
  refine sh_iconst (v := 1) (pc := 432) dL_law_432 rfl ?_
  refine sh_iadd (pc := 433) dL_law_433 ?_
  refine sh_sald (pc := 434) dL_law_434 (law_in hL hi 1 (by decide)) ?_
  refine sh_aload_n (pc := 435) dL_law_435 rfl ?_
  refine sh_iload_n (pc := 436) dL_law_436 rfl ?_
  refine sh_iconst (v := 2) (pc := 437) dL_law_437 rfl ?_
  refine sh_iadd (pc := 438) dL_law_438 ?_
  refine sh_sald (pc := 439) dL_law_439 (law_in hL hi 2 (by decide)) ?_
  refine sh_aload_n (pc := 440) dL_law_440 rfl ?_
  refine sh_iload_n (pc := 441) dL_law_441 rfl ?_
  refine sh_iconst (v := 3) (pc := 442) dL_law_442 rfl ?_
  refine sh_iadd (pc := 443) dL_law_443 ?_
  refine sh_sald (pc := 444) dL_law_444 (law_in hL hi 3 (by decide)) ?_
  refine sh_cig (pc := 445) (N := mX9_tool) dL_law_445 ml_L_52 h1 mf_X9_tool iv_X9_tool ⟨Nat.le_of_ble_eq_true rfl, Nat.le_of_ble_eq_true rfl⟩ rfl rfl (Nat.le_of_ble_eq_true rfl) ok_9_0 rfl rfl rfl ⟨Nat.le_of_ble_eq_true rfl, Nat.le_of_ble_eq_true rfl⟩ (fun r2 S2 h2 => ?_)
  exact sh_icmp_eq (tgt := 1247) (pc := 448) dL_law_448 (by decide) (fun _ => ih S2 h2.2) (fun z => absurd h2.1 z)
set_option maxRecDepth 100000 in
theorem law_9 (G : sh_GR b S) (hb : b + 2000000 ≤ sh_LIM) (hL : sh_L g ≤ 2560) (hi : 5 * c + 5 ≤ sh_L g) (ih : ∀ S2, sh_GR (b + 2000000) S2 → sh_V g (mL nm) 894 9877 1247 (law_ls c) [] (sh_St S2) sz Q) : sh_V g (mL nm) 894 9877 453 (law_ls c) [] (sh_St S) sz Q := by
  refine sh_aload_n (pc := 453) dL_law_453 rfl ?_
  refine sh_aload_n (pc := 454) dL_law_454 rfl ?_
  refine sh_iload_n (pc := 455) dL_law_455 rfl ?_
  refine sh_iconst (v := 1) (pc := 456) dL_law_456 rfl ?_
  refine sh_iadd (pc := 457) dL_law_457 ?_
  refine sh_sald (pc := 458) dL_law_458 (law_in hL hi 1 (by decide)) ?_
  refine sh_aload_n (pc := 459) dL_law_459 rfl ?_
  refine sh_iload_n (pc := 460) dL_law_460 rfl ?_
  refine sh_iconst (v := 2) (pc := 461) dL_law_461 rfl ?_
  refine sh_iadd (pc := 462) dL_law_462 ?_
  refine sh_sald (pc := 463) dL_law_463 (law_in hL hi 2 (by decide)) ?_
  refine sh_aload_n (pc := 464) dL_law_464 rfl ?_
  refine sh_iload_n (pc := 465) dL_law_465 rfl ?_
  refine sh_iconst (v := 3) (pc := 466) dL_law_466 rfl ?_
  refine sh_iadd (pc := 467) dL_law_467 ?_
  refine sh_sald (pc := 468) dL_law_468 (law_in hL hi 3 (by decide)) ?_
  refine sh_cig (pc := 469) (N := mX8_hang) dL_law_469 ml_L_53 (L_hang G hb) mf_X8_hang iv_X8_hang ⟨Nat.le_of_ble_eq_true rfl, Nat.le_of_ble_eq_true rfl⟩ rfl rfl (Nat.le_of_ble_eq_true rfl) ok_8_0 rfl rfl rfl ⟨Nat.le_of_ble_eq_true rfl, Nat.le_of_ble_eq_true rfl⟩ (fun r1 S1 h1 => ?_)
  refine sh_aload_n (pc := 472) dL_law_472 rfl ?_
  refine sh_aload_n (pc := 473) dL_law_473 rfl ?_
  refine sh_iload_n (pc := 474) dL_law_474 rfl ?_
  refine sh_iconst (v := 1) (pc := 475) dL_law_475 rfl ?_
  refine sh_iadd (pc := 476) dL_law_476 ?_
  refine sh_sald (pc := 477) dL_law_477 (law_in hL hi 1 (by decide)) ?_
  refine sh_aload_n (pc := 478) dL_law_478 rfl ?_
  refine sh_iload_n (pc := 479) dL_law_479 rfl ?_
  refine sh_iconst (v := 2) (pc := 480) dL_law_480 rfl ?_
  refine sh_iadd (pc := 481) dL_law_481 ?_
  refine sh_sald (pc := 482) dL_law_482 (law_in hL hi 2 (by decide)) ?_
  refine sh_aload_n (pc := 483) dL_law_483 rfl ?_
  refine sh_iload_n (pc := 484) dL_law_484 rfl ?_
  refine sh_iconst (v := 3) (pc := 485) dL_law_485 rfl ?_
  refine sh_iadd (pc := 486) dL_law_486 ?_
  refine sh_sald (pc := 487) dL_law_487 (law_in hL hi 3 (by decide)) ?_
  refine sh_cig (pc := 488) (N := mX9_hang) dL_law_488 ml_L_56 h1 mf_X9_hang iv_X9_hang ⟨Nat.le_of_ble_eq_true rfl, Nat.le_of_ble_eq_true rfl⟩ rfl rfl (Nat.le_of_ble_eq_true rfl) ok_9_0 rfl rfl rfl ⟨Nat.le_of_ble_eq_true rfl, Nat.le_of_ble_eq_true rfl⟩ (fun r2 S2 h2 => ?_)
  exact sh_icmp_eq (tgt := 1247) (pc := 491) dL_law_491 (by decide) (fun _ => ih S2 h2.2) (fun z => absurd h2.1 z)
set_option maxRecDepth 100000 in
theorem law_10 (G : sh_GR b S) (hb : b + 2000000 ≤ sh_LIM) (hL : sh_L g ≤ 2560) (hi : 5 * c + 5 ≤ sh_L g) (ih : ∀ S2, sh_GR (b + 2000000) S2 → sh_V g (mL nm) 894 9877 1247 (law_ls c) [] (sh_St S2) sz Q) : sh_V g (mL nm) 894 9877 496 (law_ls c) [] (sh_St S) sz Q := by
  refine sh_aload_n (pc := 496) dL_law_496 rfl ?_
  refine sh_aload_n (pc := 497) dL_law_497 rfl ?_
  refine sh_iload_n (pc := 498) dL_law_498 rfl ?_
  refine sh_iconst (v := 1) (pc := 499) dL_law_499 rfl ?_
  refine sh_iadd (pc := 500) dL_law_500 ?_
  refine sh_sald (pc := 501) dL_law_501 (law_in hL hi 1 (by decide)) ?_
  refine sh_aload_n (pc := 502) dL_law_502 rfl ?_
  refine sh_iload_n (pc := 503) dL_law_503 rfl ?_
  refine sh_iconst (v := 2) (pc := 504) dL_law_504 rfl ?_
  refine sh_iadd (pc := 505) dL_law_505 ?_
  refine sh_sald (pc := 506) dL_law_506 (law_in hL hi 2 (by decide)) ?_
  refine sh_cig (pc := 507) (N := mX8_borrow) dL_law_507 ml_L_57 (L_borrow G hb) mf_X8_borrow iv_X8_borrow ⟨Nat.le_of_ble_eq_true rfl, Nat.le_of_ble_eq_true rfl⟩ rfl rfl (Nat.le_of_ble_eq_true rfl) ok_8_0 rfl rfl rfl ⟨Nat.le_of_ble_eq_true rfl, Nat.le_of_ble_eq_true rfl⟩ (fun r1 S1 h1 => ?_)
  refine sh_aload_n (pc := 510) dL_law_510 rfl ?_
  refine sh_aload_n (pc := 511) dL_law_511 rfl ?_
  refine sh_iload_n (pc := 512) dL_law_512 rfl ?_
  refine sh_iconst (v := 1) (pc := 513) dL_law_513 rfl ?_
  refine sh_iadd (pc := 514) dL_law_514 ?_
  refine sh_sald (pc := 515) dL_law_515 (law_in hL hi 1 (by decide)) ?_
  refine sh_aload_n (pc := 516) dL_law_516 rfl ?_
  refine sh_iload_n (pc := 517) dL_law_517 rfl ?_
  refine sh_iconst (v := 2) (pc := 518) dL_law_518 rfl ?_
  refine sh_iadd (pc := 519) dL_law_519 ?_
  refine sh_sald (pc := 520) dL_law_520 (law_in hL hi 2 (by decide)) ?_
  refine sh_cig (pc := 521) (N := mX9_borrow) dL_law_521 ml_L_60 h1 mf_X9_borrow iv_X9_borrow ⟨Nat.le_of_ble_eq_true rfl, Nat.le_of_ble_eq_true rfl⟩ rfl rfl (Nat.le_of_ble_eq_true rfl) ok_9_0 rfl rfl rfl ⟨Nat.le_of_ble_eq_true rfl, Nat.le_of_ble_eq_true rfl⟩ (fun r2 S2 h2 => ?_)
  exact sh_icmp_eq (tgt := 1247) (pc := 524) dL_law_524 (by decide) (fun _ => ih S2 h2.2) (fun z => absurd h2.1 z)
set_option maxRecDepth 100000 in
theorem law_11 (G : sh_GR b S) (hb : b + 2000000 ≤ sh_LIM) (hL : sh_L g ≤ 2560) (hi : 5 * c + 5 ≤ sh_L g) (ih : ∀ S2, sh_GR (b + 2000000) S2 → sh_V g (mL nm) 894 9877 1247 (law_ls c) [] (sh_St S2) sz Q) : sh_V g (mL nm) 894 9877 529 (law_ls c) [] (sh_St S) sz Q := by
  refine sh_aload_n (pc := 529) dL_law_529 rfl ?_
  refine sh_aload_n (pc := 530) dL_law_530 rfl ?_
  refine sh_iload_n (pc := 531) dL_law_531 rfl ?_
  refine sh_iconst (v := 1) (pc := 532) dL_law_532 rfl ?_
  refine sh_iadd (pc := 533) dL_law_533 ?_
  refine sh_sald (pc := 534) dL_law_534 (law_in hL hi 1 (by decide)) ?_
  refine sh_cig (pc := 535) (N := mX8_giveBack) dL_law_535 ml_L_61 (L_giveBack G hb) mf_X8_giveBack iv_X8_giveBack ⟨Nat.le_of_ble_eq_true rfl, Nat.le_of_ble_eq_true rfl⟩ rfl rfl (Nat.le_of_ble_eq_true rfl) ok_8_0 rfl rfl rfl ⟨Nat.le_of_ble_eq_true rfl, Nat.le_of_ble_eq_true rfl⟩ (fun r1 S1 h1 => ?_)
  refine sh_aload_n (pc := 538) dL_law_538 rfl ?_
  refine sh_aload_n (pc := 539) dL_law_539 rfl ?_
  refine sh_iload_n (pc := 540) dL_law_540 rfl ?_
  refine sh_iconst (v := 1) (pc := 541) dL_law_541 rfl ?_
  refine sh_iadd (pc := 542) dL_law_542 ?_
  refine sh_sald (pc := 543) dL_law_543 (law_in hL hi 1 (by decide)) ?_
  refine sh_cig (pc := 544) (N := mX9_giveBack) dL_law_544 ml_L_64 h1 mf_X9_giveBack iv_X9_giveBack ⟨Nat.le_of_ble_eq_true rfl, Nat.le_of_ble_eq_true rfl⟩ rfl rfl (Nat.le_of_ble_eq_true rfl) ok_9_0 rfl rfl rfl ⟨Nat.le_of_ble_eq_true rfl, Nat.le_of_ble_eq_true rfl⟩ (fun r2 S2 h2 => ?_)
  exact sh_icmp_eq (tgt := 1247) (pc := 547) dL_law_547 (by decide) (fun _ => ih S2 h2.2) (fun z => absurd h2.1 z)
set_option maxRecDepth 100000 in
theorem law_12 (G : sh_GR b S) (hb : b + 2000000 ≤ sh_LIM) (hL : sh_L g ≤ 2560) (hi : 5 * c + 5 ≤ sh_L g) (ih : ∀ S2, sh_GR (b + 2000000) S2 → sh_V g (mL nm) 894 9877 1247 (law_ls c) [] (sh_St S2) sz Q) : sh_V g (mL nm) 894 9877 552 (law_ls c) [] (sh_St S) sz Q := by
  refine sh_aload_n (pc := 552) dL_law_552 rfl ?_
  refine sh_aload_n (pc := 553) dL_law_553 rfl ?_
  refine sh_iload_n (pc := 554) dL_law_554 rfl ?_
  refine sh_iconst (v := 1) (pc := 555) dL_law_555 rfl ?_
  refine sh_iadd (pc := 556) dL_law_556 ?_
  refine sh_sald (pc := 557) dL_law_557 (law_in hL hi 1 (by decide)) ?_
  refine sh_aload_n (pc := 558) dL_law_558 rfl ?_
  refine sh_iload_n (pc := 559) dL_law_559 rfl ?_
  refine sh_iconst (v := 2) (pc := 560) dL_law_560 rfl ?_
  refine sh_iadd (pc := 561) dL_law_561 ?_
  refine sh_sald (pc := 562) dL_law_562 (law_in hL hi 2 (by decide)) ?_
  refine sh_cig (pc := 563) (N := mX8_toolOf) dL_law_563 ml_L_65 (L_toolOf G) mf_X8_toolOf iv_X8_toolOf ⟨Nat.le_of_ble_eq_true rfl, Nat.le_of_ble_eq_true rfl⟩ rfl rfl (Nat.le_of_ble_eq_true rfl) ok_8_0 rfl rfl rfl ⟨Nat.le_of_ble_eq_true rfl, Nat.le_of_ble_eq_true rfl⟩ (fun r1 S1 h1 => ?_)
  refine sh_aload_n (pc := 566) dL_law_566 rfl ?_
  refine sh_aload_n (pc := 567) dL_law_567 rfl ?_
  refine sh_iload_n (pc := 568) dL_law_568 rfl ?_
  refine sh_iconst (v := 1) (pc := 569) dL_law_569 rfl ?_
  refine sh_iadd (pc := 570) dL_law_570 ?_
  refine sh_sald (pc := 571) dL_law_571 (law_in hL hi 1 (by decide)) ?_
  refine sh_aload_n (pc := 572) dL_law_572 rfl ?_
  refine sh_iload_n (pc := 573) dL_law_573 rfl ?_
  refine sh_iconst (v := 2) (pc := 574) dL_law_574 rfl ?_
  refine sh_iadd (pc := 575) dL_law_575 ?_
  refine sh_sald (pc := 576) dL_law_576 (law_in hL hi 2 (by decide)) ?_
  refine sh_cig (pc := 577) (N := mX9_toolOf) dL_law_577 ml_L_68 h1 mf_X9_toolOf iv_X9_toolOf ⟨Nat.le_of_ble_eq_true rfl, Nat.le_of_ble_eq_true rfl⟩ rfl rfl (Nat.le_of_ble_eq_true rfl) ok_9_0 rfl rfl rfl ⟨Nat.le_of_ble_eq_true rfl, Nat.le_of_ble_eq_true rfl⟩ (fun r2 S2 h2 => ?_)
  exact sh_icmp_eq (tgt := 1247) (pc := 580) dL_law_580 (by decide) (fun _ => ih S2 h2.2) (fun z => absurd h2.1 z)
set_option maxRecDepth 100000 in
theorem law_13 (G : sh_GR b S) (hb : b + 2000000 ≤ sh_LIM) (hL : sh_L g ≤ 2560) (hi : 5 * c + 5 ≤ sh_L g) (ih : ∀ S2, sh_GR (b + 2000000) S2 → sh_V g (mL nm) 894 9877 1247 (law_ls c) [] (sh_St S2) sz Q) : sh_V g (mL nm) 894 9877 585 (law_ls c) [] (sh_St S) sz Q := by
  refine sh_aload_n (pc := 585) dL_law_585 rfl ?_
  refine sh_aload_n (pc := 586) dL_law_586 rfl ?_
  refine sh_iload_n (pc := 587) dL_law_587 rfl ?_
  refine sh_iconst (v := 1) (pc := 588) dL_law_588 rfl ?_
  refine sh_iadd (pc := 589) dL_law_589 ?_
  refine sh_sald (pc := 590) dL_law_590 (law_in hL hi 1 (by decide)) ?_
  refine sh_cig (pc := 591) (N := mX8_bits) dL_law_591 ml_L_69 (L_bits G) mf_X8_bits iv_X8_bits ⟨Nat.le_of_ble_eq_true rfl, Nat.le_of_ble_eq_true rfl⟩ rfl rfl (Nat.le_of_ble_eq_true rfl) ok_8_0 rfl rfl rfl ⟨Nat.le_of_ble_eq_true rfl, Nat.le_of_ble_eq_true rfl⟩ (fun r1 S1 h1 => ?_)
  refine sh_aload_n (pc := 594) dL_law_594 rfl ?_
  refine sh_aload_n (pc := 595) dL_law_595 rfl ?_
  refine sh_iload_n (pc := 596) dL_law_596 rfl ?_
  refine sh_iconst (v := 1) (pc := 597) dL_law_597 rfl ?_
  refine sh_iadd (pc := 598) dL_law_598 ?_
  refine sh_sald (pc := 599) dL_law_599 (law_in hL hi 1 (by decide)) ?_
  refine sh_cig (pc := 600) (N := mX9_bits) dL_law_600 ml_L_72 h1 mf_X9_bits iv_X9_bits ⟨Nat.le_of_ble_eq_true rfl, Nat.le_of_ble_eq_true rfl⟩ rfl rfl (Nat.le_of_ble_eq_true rfl) ok_9_0 rfl rfl rfl ⟨Nat.le_of_ble_eq_true rfl, Nat.le_of_ble_eq_true rfl⟩ (fun r2 S2 h2 => ?_)
  exact sh_icmp_eq (tgt := 1247) (pc := 603) dL_law_603 (by decide) (fun _ => ih S2 h2.2) (fun z => absurd h2.1 z)
set_option maxRecDepth 100000 in
theorem law_14 (G : sh_GR b S) (hb : b + 2000000 ≤ sh_LIM) (hL : sh_L g ≤ 2560) (hi : 5 * c + 5 ≤ sh_L g) (ih : ∀ S2, sh_GR (b + 2000000) S2 → sh_V g (mL nm) 894 9877 1247 (law_ls c) [] (sh_St S2) sz Q) : sh_V g (mL nm) 894 9877 608 (law_ls c) [] (sh_St S) sz Q := by
  refine sh_aload_n (pc := 608) dL_law_608 rfl ?_
  refine sh_aload_n (pc := 609) dL_law_609 rfl ?_
  refine sh_iload_n (pc := 610) dL_law_610 rfl ?_
  refine sh_iconst (v := 1) (pc := 611) dL_law_611 rfl ?_
  refine sh_iadd (pc := 612) dL_law_612 ?_
  refine sh_sald (pc := 613) dL_law_613 (law_in hL hi 1 (by decide)) ?_
  refine sh_aload_n (pc := 614) dL_law_614 rfl ?_
  refine sh_iload_n (pc := 615) dL_law_615 rfl ?_
  refine sh_iconst (v := 2) (pc := 616) dL_law_616 rfl ?_
  refine sh_iadd (pc := 617) dL_law_617 ?_
  refine sh_sald (pc := 618) dL_law_618 (law_in hL hi 2 (by decide)) ?_
  refine sh_cig (pc := 619) (N := mX8_dullBehind) dL_law_619 ml_L_73 (L_dullBehind G) mf_X8_dullBehind iv_X8_dullBehind ⟨Nat.le_of_ble_eq_true rfl, Nat.le_of_ble_eq_true rfl⟩ rfl rfl (Nat.le_of_ble_eq_true rfl) ok_8_0 rfl rfl rfl ⟨Nat.le_of_ble_eq_true rfl, Nat.le_of_ble_eq_true rfl⟩ (fun r1 S1 h1 => ?_)
  refine sh_aload_n (pc := 622) dL_law_622 rfl ?_
  refine sh_aload_n (pc := 623) dL_law_623 rfl ?_
  refine sh_iload_n (pc := 624) dL_law_624 rfl ?_
  refine sh_iconst (v := 1) (pc := 625) dL_law_625 rfl ?_
  refine sh_iadd (pc := 626) dL_law_626 ?_
  refine sh_sald (pc := 627) dL_law_627 (law_in hL hi 1 (by decide)) ?_
  refine sh_aload_n (pc := 628) dL_law_628 rfl ?_
  refine sh_iload_n (pc := 629) dL_law_629 rfl ?_
  refine sh_iconst (v := 2) (pc := 630) dL_law_630 rfl ?_
  refine sh_iadd (pc := 631) dL_law_631 ?_
  refine sh_sald (pc := 632) dL_law_632 (law_in hL hi 2 (by decide)) ?_
  refine sh_cig (pc := 633) (N := mX9_dullBehind) dL_law_633 ml_L_76 h1 mf_X9_dullBehind iv_X9_dullBehind ⟨Nat.le_of_ble_eq_true rfl, Nat.le_of_ble_eq_true rfl⟩ rfl rfl (Nat.le_of_ble_eq_true rfl) ok_9_0 rfl rfl rfl ⟨Nat.le_of_ble_eq_true rfl, Nat.le_of_ble_eq_true rfl⟩ (fun r2 S2 h2 => ?_)
  exact sh_icmp_eq (tgt := 1247) (pc := 636) dL_law_636 (by decide) (fun _ => ih S2 h2.2) (fun z => absurd h2.1 z)
set_option maxRecDepth 100000 in
theorem law_15 (G : sh_GR b S) (hb : b + 2000000 ≤ sh_LIM) (hL : sh_L g ≤ 2560) (hi : 5 * c + 5 ≤ sh_L g) (ih : ∀ S2, sh_GR (b + 2000000) S2 → sh_V g (mL nm) 894 9877 1247 (law_ls c) [] (sh_St S2) sz Q) : sh_V g (mL nm) 894 9877 641 (law_ls c) [] (sh_St S) sz Q := by
  refine sh_aload_n (pc := 641) dL_law_641 rfl ?_
  refine sh_aload_n (pc := 642) dL_law_642 rfl ?_
  refine sh_iload_n (pc := 643) dL_law_643 rfl ?_
  refine sh_iconst (v := 1) (pc := 644) dL_law_644 rfl ?_
  refine sh_iadd (pc := 645) dL_law_645 ?_
  refine sh_sald (pc := 646) dL_law_646 (law_in hL hi 1 (by decide)) ?_
  refine sh_cig (pc := 647) (N := mX8_mean) dL_law_647 ml_L_77 (L_mean G) mf_X8_mean iv_X8_mean ⟨Nat.le_of_ble_eq_true rfl, Nat.le_of_ble_eq_true rfl⟩ rfl rfl (Nat.le_of_ble_eq_true rfl) ok_8_0 rfl rfl rfl ⟨Nat.le_of_ble_eq_true rfl, Nat.le_of_ble_eq_true rfl⟩ (fun r1 S1 h1 => ?_)
  refine sh_aload_n (pc := 650) dL_law_650 rfl ?_
  refine sh_aload_n (pc := 651) dL_law_651 rfl ?_
  refine sh_iload_n (pc := 652) dL_law_652 rfl ?_
  refine sh_iconst (v := 1) (pc := 653) dL_law_653 rfl ?_
  refine sh_iadd (pc := 654) dL_law_654 ?_
  refine sh_sald (pc := 655) dL_law_655 (law_in hL hi 1 (by decide)) ?_
  refine sh_cig (pc := 656) (N := mX9_mean) dL_law_656 ml_L_80 h1 mf_X9_mean iv_X9_mean ⟨Nat.le_of_ble_eq_true rfl, Nat.le_of_ble_eq_true rfl⟩ rfl rfl (Nat.le_of_ble_eq_true rfl) ok_9_0 rfl rfl rfl ⟨Nat.le_of_ble_eq_true rfl, Nat.le_of_ble_eq_true rfl⟩ (fun r2 S2 h2 => ?_)
  exact sh_icmp_eq (tgt := 1247) (pc := 659) dL_law_659 (by decide) (fun _ => ih S2 h2.2) (fun z => absurd h2.1 z)
set_option maxRecDepth 100000 in
theorem law_16 (G : sh_GR b S) (hb : b + 2000000 ≤ sh_LIM) (hL : sh_L g ≤ 2560) (hi : 5 * c + 5 ≤ sh_L g) (ih : ∀ S2, sh_GR (b + 2000000) S2 → sh_V g (mL nm) 894 9877 1247 (law_ls c) [] (sh_St S2) sz Q) : sh_V g (mL nm) 894 9877 664 (law_ls c) [] (sh_St S) sz Q := by
  refine sh_aload_n (pc := 664) dL_law_664 rfl ?_
  refine sh_aload_n (pc := 665) dL_law_665 rfl ?_
  refine sh_iload_n (pc := 666) dL_law_666 rfl ?_
  refine sh_iconst (v := 1) (pc := 667) dL_law_667 rfl ?_
  refine sh_iadd (pc := 668) dL_law_668 ?_
  refine sh_sald (pc := 669) dL_law_669 (law_in hL hi 1 (by decide)) ?_
  refine sh_aload_n (pc := 670) dL_law_670 rfl ?_
  refine sh_iload_n (pc := 671) dL_law_671 rfl ?_
  refine sh_iconst (v := 2) (pc := 672) dL_law_672 rfl ?_
  refine sh_iadd (pc := 673) dL_law_673 ?_
  refine sh_sald (pc := 674) dL_law_674 (law_in hL hi 2 (by decide)) ?_
  refine sh_cig (pc := 675) (N := mX8_hookAt) dL_law_675 ml_L_81 (L_hookAt G) mf_X8_hookAt iv_X8_hookAt ⟨Nat.le_of_ble_eq_true rfl, Nat.le_of_ble_eq_true rfl⟩ rfl rfl (Nat.le_of_ble_eq_true rfl) ok_8_0 rfl rfl rfl ⟨Nat.le_of_ble_eq_true rfl, Nat.le_of_ble_eq_true rfl⟩ (fun r1 S1 h1 => ?_)
  refine sh_aload_n (pc := 678) dL_law_678 rfl ?_
  refine sh_aload_n (pc := 679) dL_law_679 rfl ?_
  refine sh_iload_n (pc := 680) dL_law_680 rfl ?_
  refine sh_iconst (v := 1) (pc := 681) dL_law_681 rfl ?_
  refine sh_iadd (pc := 682) dL_law_682 ?_
  refine sh_sald (pc := 683) dL_law_683 (law_in hL hi 1 (by decide)) ?_
  refine sh_aload_n (pc := 684) dL_law_684 rfl ?_
  refine sh_iload_n (pc := 685) dL_law_685 rfl ?_
  refine sh_iconst (v := 2) (pc := 686) dL_law_686 rfl ?_
  refine sh_iadd (pc := 687) dL_law_687 ?_
  refine sh_sald (pc := 688) dL_law_688 (law_in hL hi 2 (by decide)) ?_
  refine sh_cig (pc := 689) (N := mX9_hookAt) dL_law_689 ml_L_84 h1 mf_X9_hookAt iv_X9_hookAt ⟨Nat.le_of_ble_eq_true rfl, Nat.le_of_ble_eq_true rfl⟩ rfl rfl (Nat.le_of_ble_eq_true rfl) ok_9_0 rfl rfl rfl ⟨Nat.le_of_ble_eq_true rfl, Nat.le_of_ble_eq_true rfl⟩ (fun r2 S2 h2 => ?_)
  exact sh_icmp_eq (tgt := 1247) (pc := 692) dL_law_692 (by decide) (fun _ => ih S2 h2.2) (fun z => absurd h2.1 z)
set_option maxRecDepth 100000 in
theorem law_17 (G : sh_GR b S) (hb : b + 2000000 ≤ sh_LIM) (hL : sh_L g ≤ 2560) (hi : 5 * c + 5 ≤ sh_L g) (ih : ∀ S2, sh_GR (b + 2000000) S2 → sh_V g (mL nm) 894 9877 1247 (law_ls c) [] (sh_St S2) sz Q) : sh_V g (mL nm) 894 9877 697 (law_ls c) [] (sh_St S) sz Q := by
  refine sh_aload_n (pc := 697) dL_law_697 rfl ?_
  refine sh_cig (pc := 698) (N := mX8_sharpen) dL_law_698 ml_L_85 (L_sharpen G hb) mf_X8_sharpen iv_X8_sharpen ⟨Nat.le_of_ble_eq_true rfl, Nat.le_of_ble_eq_true rfl⟩ rfl rfl (Nat.le_of_ble_eq_true rfl) ok_8_0 rfl rfl rfl ⟨Nat.le_of_ble_eq_true rfl, Nat.le_of_ble_eq_true rfl⟩ (fun r1 S1 h1 => ?_)
  refine sh_aload_n (pc := 701) dL_law_701 rfl ?_
  refine sh_cig (pc := 702) (N := mX9_sharpen) dL_law_702 ml_L_88 h1 mf_X9_sharpen iv_X9_sharpen ⟨Nat.le_of_ble_eq_true rfl, Nat.le_of_ble_eq_true rfl⟩ rfl rfl (Nat.le_of_ble_eq_true rfl) ok_9_0 rfl rfl rfl ⟨Nat.le_of_ble_eq_true rfl, Nat.le_of_ble_eq_true rfl⟩ (fun r2 S2 h2 => ?_)
  exact sh_icmp_eq (tgt := 1247) (pc := 705) dL_law_705 (by decide) (fun _ => ih S2 h2.2) (fun z => absurd h2.1 z)
set_option maxRecDepth 100000 in
theorem law_18 (G : sh_GR b S) (hb : b + 2000000 ≤ sh_LIM) (hL : sh_L g ≤ 2560) (hi : 5 * c + 5 ≤ sh_L g) (ih : ∀ S2, sh_GR (b + 2000000) S2 → sh_V g (mL nm) 894 9877 1247 (law_ls c) [] (sh_St S2) sz Q) : sh_V g (mL nm) 894 9877 710 (law_ls c) [] (sh_St S) sz Q := by
  refine sh_aload_n (pc := 710) dL_law_710 rfl ?_
  refine sh_aload_n (pc := 711) dL_law_711 rfl ?_
  refine sh_iload_n (pc := 712) dL_law_712 rfl ?_
  refine sh_iconst (v := 1) (pc := 713) dL_law_713 rfl ?_
  refine sh_iadd (pc := 714) dL_law_714 ?_
  refine sh_sald (pc := 715) dL_law_715 (law_in hL hi 1 (by decide)) ?_
  refine sh_aload_n (pc := 716) dL_law_716 rfl ?_
  refine sh_iload_n (pc := 717) dL_law_717 rfl ?_
  refine sh_iconst (v := 2) (pc := 718) dL_law_718 rfl ?_
  refine sh_iadd (pc := 719) dL_law_719 ?_
  refine sh_sald (pc := 720) dL_law_720 (law_in hL hi 2 (by decide)) ?_
  refine sh_cig (pc := 721) (N := mX8_swap) dL_law_721 ml_L_89 (L_swap G hb) mf_X8_swap iv_X8_swap ⟨Nat.le_of_ble_eq_true rfl, Nat.le_of_ble_eq_true rfl⟩ rfl rfl (Nat.le_of_ble_eq_true rfl) ok_8_0 rfl rfl rfl ⟨Nat.le_of_ble_eq_true rfl, Nat.le_of_ble_eq_true rfl⟩ (fun r1 S1 h1 => ?_)
  refine sh_aload_n (pc := 724) dL_law_724 rfl ?_
  refine sh_aload_n (pc := 725) dL_law_725 rfl ?_
  refine sh_iload_n (pc := 726) dL_law_726 rfl ?_
  refine sh_iconst (v := 1) (pc := 727) dL_law_727 rfl ?_
  refine sh_iadd (pc := 728) dL_law_728 ?_
  refine sh_sald (pc := 729) dL_law_729 (law_in hL hi 1 (by decide)) ?_
  refine sh_aload_n (pc := 730) dL_law_730 rfl ?_
  refine sh_iload_n (pc := 731) dL_law_731 rfl ?_
  refine sh_iconst (v := 2) (pc := 732) dL_law_732 rfl ?_
  refine sh_iadd (pc := 733) dL_law_733 ?_
  refine sh_sald (pc := 734) dL_law_734 (law_in hL hi 2 (by decide)) ?_
  refine sh_cig (pc := 735) (N := mX9_swap) dL_law_735 ml_L_92 h1 mf_X9_swap iv_X9_swap ⟨Nat.le_of_ble_eq_true rfl, Nat.le_of_ble_eq_true rfl⟩ rfl rfl (Nat.le_of_ble_eq_true rfl) ok_9_0 rfl rfl rfl ⟨Nat.le_of_ble_eq_true rfl, Nat.le_of_ble_eq_true rfl⟩ (fun r2 S2 h2 => ?_)
  exact sh_icmp_eq (tgt := 1247) (pc := 738) dL_law_738 (by decide) (fun _ => ih S2 h2.2) (fun z => absurd h2.1 z)
set_option maxRecDepth 100000 in
theorem law_19 (G : sh_GR b S) (hb : b + 2000000 ≤ sh_LIM) (hL : sh_L g ≤ 2560) (hi : 5 * c + 5 ≤ sh_L g) (ih : ∀ S2, sh_GR (b + 2000000) S2 → sh_V g (mL nm) 894 9877 1247 (law_ls c) [] (sh_St S2) sz Q) : sh_V g (mL nm) 894 9877 743 (law_ls c) [] (sh_St S) sz Q := by
  refine sh_aload_n (pc := 743) dL_law_743 rfl ?_
  refine sh_aload_n (pc := 744) dL_law_744 rfl ?_
  refine sh_iload_n (pc := 745) dL_law_745 rfl ?_
  refine sh_iconst (v := 1) (pc := 746) dL_law_746 rfl ?_
  refine sh_iadd (pc := 747) dL_law_747 ?_
  refine sh_sald (pc := 748) dL_law_748 (law_in hL hi 1 (by decide)) ?_
  refine sh_cig (pc := 749) (N := mX8_turnAt) dL_law_749 ml_L_93 (L_turnAt G) mf_X8_turnAt iv_X8_turnAt ⟨Nat.le_of_ble_eq_true rfl, Nat.le_of_ble_eq_true rfl⟩ rfl rfl (Nat.le_of_ble_eq_true rfl) ok_8_0 rfl rfl rfl ⟨Nat.le_of_ble_eq_true rfl, Nat.le_of_ble_eq_true rfl⟩ (fun r1 S1 h1 => ?_)
  refine sh_aload_n (pc := 752) dL_law_752 rfl ?_
  refine sh_aload_n (pc := 753) dL_law_753 rfl ?_
  refine sh_iload_n (pc := 754) dL_law_754 rfl ?_
  refine sh_iconst (v := 1) (pc := 755) dL_law_755 rfl ?_
  refine sh_iadd (pc := 756) dL_law_756 ?_
  refine sh_sald (pc := 757) dL_law_757 (law_in hL hi 1 (by decide)) ?_
  refine sh_cig (pc := 758) (N := mX9_turnAt) dL_law_758 ml_L_96 h1 mf_X9_turnAt iv_X9_turnAt ⟨Nat.le_of_ble_eq_true rfl, Nat.le_of_ble_eq_true rfl⟩ rfl rfl (Nat.le_of_ble_eq_true rfl) ok_9_0 rfl rfl rfl ⟨Nat.le_of_ble_eq_true rfl, Nat.le_of_ble_eq_true rfl⟩ (fun r2 S2 h2 => ?_)
  exact sh_icmp_eq (tgt := 1247) (pc := 761) dL_law_761 (by decide) (fun _ => ih S2 h2.2) (fun z => absurd h2.1 z)
set_option maxRecDepth 100000 in
theorem law_20 (G : sh_GR b S) (hb : b + 2000000 ≤ sh_LIM) (hL : sh_L g ≤ 2560) (hi : 5 * c + 5 ≤ sh_L g) (ih : ∀ S2, sh_GR (b + 2000000) S2 → sh_V g (mL nm) 894 9877 1247 (law_ls c) [] (sh_St S2) sz Q) : sh_V g (mL nm) 894 9877 766 (law_ls c) [] (sh_St S) sz Q := by
  refine sh_aload_n (pc := 766) dL_law_766 rfl ?_
  refine sh_aload_n (pc := 767) dL_law_767 rfl ?_
  refine sh_iload_n (pc := 768) dL_law_768 rfl ?_
  refine sh_iconst (v := 1) (pc := 769) dL_law_769 rfl ?_
  refine sh_iadd (pc := 770) dL_law_770 ?_
  refine sh_sald (pc := 771) dL_law_771 (law_in hL hi 1 (by decide)) ?_
  refine sh_cig (pc := 772) (N := mX8_dullAt) dL_law_772 ml_L_97 (L_dullAt G) mf_X8_dullAt iv_X8_dullAt ⟨Nat.le_of_ble_eq_true rfl, Nat.le_of_ble_eq_true rfl⟩ rfl rfl (Nat.le_of_ble_eq_true rfl) ok_8_0 rfl rfl rfl ⟨Nat.le_of_ble_eq_true rfl, Nat.le_of_ble_eq_true rfl⟩ (fun r1 S1 h1 => ?_)
  refine sh_aload_n (pc := 775) dL_law_775 rfl ?_
  refine sh_aload_n (pc := 776) dL_law_776 rfl ?_
  refine sh_iload_n (pc := 777) dL_law_777 rfl ?_
  refine sh_iconst (v := 1) (pc := 778) dL_law_778 rfl ?_
  refine sh_iadd (pc := 779) dL_law_779 ?_
  refine sh_sald (pc := 780) dL_law_780 (law_in hL hi 1 (by decide)) ?_
  refine sh_cig (pc := 781) (N := mX9_dullAt) dL_law_781 ml_L_100 h1 mf_X9_dullAt iv_X9_dullAt ⟨Nat.le_of_ble_eq_true rfl, Nat.le_of_ble_eq_true rfl⟩ rfl rfl (Nat.le_of_ble_eq_true rfl) ok_9_0 rfl rfl rfl ⟨Nat.le_of_ble_eq_true rfl, Nat.le_of_ble_eq_true rfl⟩ (fun r2 S2 h2 => ?_)
  exact sh_icmp_eq (tgt := 1247) (pc := 784) dL_law_784 (by decide) (fun _ => ih S2 h2.2) (fun z => absurd h2.1 z)
set_option maxRecDepth 100000 in
theorem law_21 (G : sh_GR b S) (hb : b + 2000000 ≤ sh_LIM) (hL : sh_L g ≤ 2560) (hi : 5 * c + 5 ≤ sh_L g) (ih : ∀ S2, sh_GR (b + 2000000) S2 → sh_V g (mL nm) 894 9877 1247 (law_ls c) [] (sh_St S2) sz Q) : sh_V g (mL nm) 894 9877 789 (law_ls c) [] (sh_St S) sz Q := by
  refine sh_aload_n (pc := 789) dL_law_789 rfl ?_
  refine sh_aload_n (pc := 790) dL_law_790 rfl ?_
  refine sh_iload_n (pc := 791) dL_law_791 rfl ?_
  refine sh_iconst (v := 1) (pc := 792) dL_law_792 rfl ?_
  refine sh_iadd (pc := 793) dL_law_793 ?_
  refine sh_sald (pc := 794) dL_law_794 (law_in hL hi 1 (by decide)) ?_
  refine sh_cig (pc := 795) (N := mX8_lose) dL_law_795 ml_L_101 (L_lose G hb) mf_X8_lose iv_X8_lose ⟨Nat.le_of_ble_eq_true rfl, Nat.le_of_ble_eq_true rfl⟩ rfl rfl (Nat.le_of_ble_eq_true rfl) ok_8_0 rfl rfl rfl ⟨Nat.le_of_ble_eq_true rfl, Nat.le_of_ble_eq_true rfl⟩ (fun r1 S1 h1 => ?_)
  refine sh_aload_n (pc := 798) dL_law_798 rfl ?_
  refine sh_aload_n (pc := 799) dL_law_799 rfl ?_
  refine sh_iload_n (pc := 800) dL_law_800 rfl ?_
  refine sh_iconst (v := 1) (pc := 801) dL_law_801 rfl ?_
  refine sh_iadd (pc := 802) dL_law_802 ?_
  refine sh_sald (pc := 803) dL_law_803 (law_in hL hi 1 (by decide)) ?_
  refine sh_cig (pc := 804) (N := mX9_lose) dL_law_804 ml_L_104 h1 mf_X9_lose iv_X9_lose ⟨Nat.le_of_ble_eq_true rfl, Nat.le_of_ble_eq_true rfl⟩ rfl rfl (Nat.le_of_ble_eq_true rfl) ok_9_0 rfl rfl rfl ⟨Nat.le_of_ble_eq_true rfl, Nat.le_of_ble_eq_true rfl⟩ (fun r2 S2 h2 => ?_)
  exact sh_icmp_eq (tgt := 1247) (pc := 807) dL_law_807 (by decide) (fun _ => ih S2 h2.2) (fun z => absurd h2.1 z)
set_option maxRecDepth 100000 in
theorem law_22 (G : sh_GR b S) (hb : b + 2000000 ≤ sh_LIM) (hL : sh_L g ≤ 2560) (hi : 5 * c + 5 ≤ sh_L g) (ih : ∀ S2, sh_GR (b + 2000000) S2 → sh_V g (mL nm) 894 9877 1247 (law_ls c) [] (sh_St S2) sz Q) : sh_V g (mL nm) 894 9877 812 (law_ls c) [] (sh_St S) sz Q := by
  refine sh_aload_n (pc := 812) dL_law_812 rfl ?_
  refine sh_aload_n (pc := 813) dL_law_813 rfl ?_
  refine sh_iload_n (pc := 814) dL_law_814 rfl ?_
  refine sh_iconst (v := 1) (pc := 815) dL_law_815 rfl ?_
  refine sh_iadd (pc := 816) dL_law_816 ?_
  refine sh_sald (pc := 817) dL_law_817 (law_in hL hi 1 (by decide)) ?_
  refine sh_aload_n (pc := 818) dL_law_818 rfl ?_
  refine sh_iload_n (pc := 819) dL_law_819 rfl ?_
  refine sh_iconst (v := 2) (pc := 820) dL_law_820 rfl ?_
  refine sh_iadd (pc := 821) dL_law_821 ?_
  refine sh_sald (pc := 822) dL_law_822 (law_in hL hi 2 (by decide)) ?_
  refine sh_aload_n (pc := 823) dL_law_823 rfl ?_
  refine sh_iload_n (pc := 824) dL_law_824 rfl ?_
  refine sh_iconst (v := 3) (pc := 825) dL_law_825 rfl ?_
  refine sh_iadd (pc := 826) dL_law_826 ?_
  refine sh_sald (pc := 827) dL_law_827 (law_in hL hi 3 (by decide)) ?_
  refine sh_cig (pc := 828) (N := mX8_say) dL_law_828 ml_L_105 (L_say G hb) mf_X8_say iv_X8_say ⟨Nat.le_of_ble_eq_true rfl, Nat.le_of_ble_eq_true rfl⟩ rfl rfl (Nat.le_of_ble_eq_true rfl) ok_8_0 rfl rfl rfl ⟨Nat.le_of_ble_eq_true rfl, Nat.le_of_ble_eq_true rfl⟩ (fun r1 S1 h1 => ?_)
  refine sh_aload_n (pc := 831) dL_law_831 rfl ?_
  refine sh_aload_n (pc := 832) dL_law_832 rfl ?_
  refine sh_iload_n (pc := 833) dL_law_833 rfl ?_
  refine sh_iconst (v := 1) (pc := 834) dL_law_834 rfl ?_
  refine sh_iadd (pc := 835) dL_law_835 ?_
  refine sh_sald (pc := 836) dL_law_836 (law_in hL hi 1 (by decide)) ?_
  refine sh_aload_n (pc := 837) dL_law_837 rfl ?_
  refine sh_iload_n (pc := 838) dL_law_838 rfl ?_
  refine sh_iconst (v := 2) (pc := 839) dL_law_839 rfl ?_
  refine sh_iadd (pc := 840) dL_law_840 ?_
  refine sh_sald (pc := 841) dL_law_841 (law_in hL hi 2 (by decide)) ?_
  refine sh_aload_n (pc := 842) dL_law_842 rfl ?_
  refine sh_iload_n (pc := 843) dL_law_843 rfl ?_
  refine sh_iconst (v := 3) (pc := 844) dL_law_844 rfl ?_
  refine sh_iadd (pc := 845) dL_law_845 ?_
  refine sh_sald (pc := 846) dL_law_846 (law_in hL hi 3 (by decide)) ?_
  refine sh_cig (pc := 847) (N := mX9_say) dL_law_847 ml_L_108 h1 mf_X9_say iv_X9_say ⟨Nat.le_of_ble_eq_true rfl, Nat.le_of_ble_eq_true rfl⟩ rfl rfl (Nat.le_of_ble_eq_true rfl) ok_9_0 rfl rfl rfl ⟨Nat.le_of_ble_eq_true rfl, Nat.le_of_ble_eq_true rfl⟩ (fun r2 S2 h2 => ?_)
  exact sh_icmp_eq (tgt := 1247) (pc := 850) dL_law_850 (by decide) (fun _ => ih S2 h2.2) (fun z => absurd h2.1 z)
set_option maxRecDepth 100000 in
theorem law_23 (G : sh_GR b S) (hb : b + 2000000 ≤ sh_LIM) (hL : sh_L g ≤ 2560) (hi : 5 * c + 5 ≤ sh_L g) (ih : ∀ S2, sh_GR (b + 2000000) S2 → sh_V g (mL nm) 894 9877 1247 (law_ls c) [] (sh_St S2) sz Q) : sh_V g (mL nm) 894 9877 855 (law_ls c) [] (sh_St S) sz Q := by
  refine sh_aload_n (pc := 855) dL_law_855 rfl ?_
  refine sh_aload_n (pc := 856) dL_law_856 rfl ?_
  refine sh_iload_n (pc := 857) dL_law_857 rfl ?_
  refine sh_iconst (v := 1) (pc := 858) dL_law_858 rfl ?_
  refine sh_iadd (pc := 859) dL_law_859 ?_
  refine sh_sald (pc := 860) dL_law_860 (law_in hL hi 1 (by decide)) ?_
  refine sh_cig (pc := 861) (N := mX8_find) dL_law_861 ml_L_109 (L_find G hb) mf_X8_find iv_X8_find ⟨Nat.le_of_ble_eq_true rfl, Nat.le_of_ble_eq_true rfl⟩ rfl rfl (Nat.le_of_ble_eq_true rfl) ok_8_0 rfl rfl rfl ⟨Nat.le_of_ble_eq_true rfl, Nat.le_of_ble_eq_true rfl⟩ (fun r1 S1 h1 => ?_)
  refine sh_aload_n (pc := 864) dL_law_864 rfl ?_
  refine sh_aload_n (pc := 865) dL_law_865 rfl ?_
  refine sh_iload_n (pc := 866) dL_law_866 rfl ?_
  refine sh_iconst (v := 1) (pc := 867) dL_law_867 rfl ?_
  refine sh_iadd (pc := 868) dL_law_868 ?_
  refine sh_sald (pc := 869) dL_law_869 (law_in hL hi 1 (by decide)) ?_
  refine sh_cig (pc := 870) (N := mX9_find) dL_law_870 ml_L_112 h1 mf_X9_find iv_X9_find ⟨Nat.le_of_ble_eq_true rfl, Nat.le_of_ble_eq_true rfl⟩ rfl rfl (Nat.le_of_ble_eq_true rfl) ok_9_0 rfl rfl rfl ⟨Nat.le_of_ble_eq_true rfl, Nat.le_of_ble_eq_true rfl⟩ (fun r2 S2 h2 => ?_)
  exact sh_icmp_eq (tgt := 1247) (pc := 873) dL_law_873 (by decide) (fun _ => ih S2 h2.2) (fun z => absurd h2.1 z)
set_option maxRecDepth 100000 in
theorem law_24 (G : sh_GR b S) (hb : b + 2000000 ≤ sh_LIM) (hL : sh_L g ≤ 2560) (hi : 5 * c + 5 ≤ sh_L g) (ih : ∀ S2, sh_GR (b + 2000000) S2 → sh_V g (mL nm) 894 9877 1247 (law_ls c) [] (sh_St S2) sz Q) : sh_V g (mL nm) 894 9877 878 (law_ls c) [] (sh_St S) sz Q := by
  refine sh_aload_n (pc := 878) dL_law_878 rfl ?_
  refine sh_aload_n (pc := 879) dL_law_879 rfl ?_
  refine sh_iload_n (pc := 880) dL_law_880 rfl ?_
  refine sh_iconst (v := 1) (pc := 881) dL_law_881 rfl ?_
  refine sh_iadd (pc := 882) dL_law_882 ?_
  refine sh_sald (pc := 883) dL_law_883 (law_in hL hi 1 (by decide)) ?_
  refine sh_aload_n (pc := 884) dL_law_884 rfl ?_
  refine sh_iload_n (pc := 885) dL_law_885 rfl ?_
  refine sh_iconst (v := 2) (pc := 886) dL_law_886 rfl ?_
  refine sh_iadd (pc := 887) dL_law_887 ?_
  refine sh_sald (pc := 888) dL_law_888 (law_in hL hi 2 (by decide)) ?_
  refine sh_aload_n (pc := 889) dL_law_889 rfl ?_
  refine sh_iload_n (pc := 890) dL_law_890 rfl ?_
  refine sh_iconst (v := 3) (pc := 891) dL_law_891 rfl ?_
  refine sh_iadd (pc := 892) dL_law_892 ?_
  refine sh_sald (pc := 893) dL_law_893 (law_in hL hi 3 (by decide)) ?_
  refine sh_cig (pc := 894) (N := mX8_panelAt) dL_law_894 ml_L_113 (L_panelAt G) mf_X8_panelAt iv_X8_panelAt ⟨Nat.le_of_ble_eq_true rfl, Nat.le_of_ble_eq_true rfl⟩ rfl rfl (Nat.le_of_ble_eq_true rfl) ok_8_0 rfl rfl rfl ⟨Nat.le_of_ble_eq_true rfl, Nat.le_of_ble_eq_true rfl⟩ (fun r1 S1 h1 => ?_)
  refine sh_aload_n (pc := 897) dL_law_897 rfl ?_
  refine sh_aload_n (pc := 898) dL_law_898 rfl ?_
  refine sh_iload_n (pc := 899) dL_law_899 rfl ?_
  refine sh_iconst (v := 1) (pc := 900) dL_law_900 rfl ?_
  refine sh_iadd (pc := 901) dL_law_901 ?_
  refine sh_sald (pc := 902) dL_law_902 (law_in hL hi 1 (by decide)) ?_
  refine sh_aload_n (pc := 903) dL_law_903 rfl ?_
  refine sh_iload_n (pc := 904) dL_law_904 rfl ?_
  refine sh_iconst (v := 2) (pc := 905) dL_law_905 rfl ?_
  refine sh_iadd (pc := 906) dL_law_906 ?_
  refine sh_sald (pc := 907) dL_law_907 (law_in hL hi 2 (by decide)) ?_
  refine sh_aload_n (pc := 908) dL_law_908 rfl ?_
  refine sh_iload_n (pc := 909) dL_law_909 rfl ?_
  refine sh_iconst (v := 3) (pc := 910) dL_law_910 rfl ?_
  refine sh_iadd (pc := 911) dL_law_911 ?_
  refine sh_sald (pc := 912) dL_law_912 (law_in hL hi 3 (by decide)) ?_
  refine sh_cig (pc := 913) (N := mX9_panelAt) dL_law_913 ml_L_116 h1 mf_X9_panelAt iv_X9_panelAt ⟨Nat.le_of_ble_eq_true rfl, Nat.le_of_ble_eq_true rfl⟩ rfl rfl (Nat.le_of_ble_eq_true rfl) ok_9_0 rfl rfl rfl ⟨Nat.le_of_ble_eq_true rfl, Nat.le_of_ble_eq_true rfl⟩ (fun r2 S2 h2 => ?_)
  exact sh_icmp_eq (tgt := 1247) (pc := 916) dL_law_916 (by decide) (fun _ => ih S2 h2.2) (fun z => absurd h2.1 z)
set_option maxRecDepth 100000 in
theorem law_25 (G : sh_GR b S) (hb : b + 2000000 ≤ sh_LIM) (hL : sh_L g ≤ 2560) (hi : 5 * c + 5 ≤ sh_L g) (ih : ∀ S2, sh_GR (b + 2000000) S2 → sh_V g (mL nm) 894 9877 1247 (law_ls c) [] (sh_St S2) sz Q) : sh_V g (mL nm) 894 9877 921 (law_ls c) [] (sh_St S) sz Q := by
  refine sh_aload_n (pc := 921) dL_law_921 rfl ?_
  refine sh_aload_n (pc := 922) dL_law_922 rfl ?_
  refine sh_iload_n (pc := 923) dL_law_923 rfl ?_
  refine sh_iconst (v := 1) (pc := 924) dL_law_924 rfl ?_
  refine sh_iadd (pc := 925) dL_law_925 ?_
  refine sh_sald (pc := 926) dL_law_926 (law_in hL hi 1 (by decide)) ?_
  refine sh_aload_n (pc := 927) dL_law_927 rfl ?_
  refine sh_iload_n (pc := 928) dL_law_928 rfl ?_
  refine sh_iconst (v := 2) (pc := 929) dL_law_929 rfl ?_
  refine sh_iadd (pc := 930) dL_law_930 ?_
  refine sh_sald (pc := 931) dL_law_931 (law_in hL hi 2 (by decide)) ?_
  refine sh_aload_n (pc := 932) dL_law_932 rfl ?_
  refine sh_iload_n (pc := 933) dL_law_933 rfl ?_
  refine sh_iconst (v := 3) (pc := 934) dL_law_934 rfl ?_
  refine sh_iadd (pc := 935) dL_law_935 ?_
  refine sh_sald (pc := 936) dL_law_936 (law_in hL hi 3 (by decide)) ?_
  refine sh_cig (pc := 937) (N := mX8_propose) dL_law_937 ml_L_117 (L_propose G hb) mf_X8_propose iv_X8_propose ⟨Nat.le_of_ble_eq_true rfl, Nat.le_of_ble_eq_true rfl⟩ rfl rfl (Nat.le_of_ble_eq_true rfl) ok_8_0 rfl rfl rfl ⟨Nat.le_of_ble_eq_true rfl, Nat.le_of_ble_eq_true rfl⟩ (fun r1 S1 h1 => ?_)
  refine sh_aload_n (pc := 940) dL_law_940 rfl ?_
  refine sh_aload_n (pc := 941) dL_law_941 rfl ?_
  refine sh_iload_n (pc := 942) dL_law_942 rfl ?_
  refine sh_iconst (v := 1) (pc := 943) dL_law_943 rfl ?_
  refine sh_iadd (pc := 944) dL_law_944 ?_
  refine sh_sald (pc := 945) dL_law_945 (law_in hL hi 1 (by decide)) ?_
  refine sh_aload_n (pc := 946) dL_law_946 rfl ?_
  refine sh_iload_n (pc := 947) dL_law_947 rfl ?_
  refine sh_iconst (v := 2) (pc := 948) dL_law_948 rfl ?_
  refine sh_iadd (pc := 949) dL_law_949 ?_
  refine sh_sald (pc := 950) dL_law_950 (law_in hL hi 2 (by decide)) ?_
  refine sh_aload_n (pc := 951) dL_law_951 rfl ?_
  refine sh_iload_n (pc := 952) dL_law_952 rfl ?_
  refine sh_iconst (v := 3) (pc := 953) dL_law_953 rfl ?_
  refine sh_iadd (pc := 954) dL_law_954 ?_
  refine sh_sald (pc := 955) dL_law_955 (law_in hL hi 3 (by decide)) ?_
  refine sh_cig (pc := 956) (N := mX9_propose) dL_law_956 ml_L_120 h1 mf_X9_propose iv_X9_propose ⟨Nat.le_of_ble_eq_true rfl, Nat.le_of_ble_eq_true rfl⟩ rfl rfl (Nat.le_of_ble_eq_true rfl) ok_9_0 rfl rfl rfl ⟨Nat.le_of_ble_eq_true rfl, Nat.le_of_ble_eq_true rfl⟩ (fun r2 S2 h2 => ?_)
  exact sh_icmp_eq (tgt := 1247) (pc := 959) dL_law_959 (by decide) (fun _ => ih S2 h2.2) (fun z => absurd h2.1 z)
set_option maxRecDepth 100000 in
theorem law_26 (G : sh_GR b S) (hb : b + 2000000 ≤ sh_LIM) (hL : sh_L g ≤ 2560) (hi : 5 * c + 5 ≤ sh_L g) (ih : ∀ S2, sh_GR (b + 2000000) S2 → sh_V g (mL nm) 894 9877 1247 (law_ls c) [] (sh_St S2) sz Q) : sh_V g (mL nm) 894 9877 964 (law_ls c) [] (sh_St S) sz Q := by
  refine sh_aload_n (pc := 964) dL_law_964 rfl ?_
  refine sh_aload_n (pc := 965) dL_law_965 rfl ?_
  refine sh_iload_n (pc := 966) dL_law_966 rfl ?_
  refine sh_iconst (v := 1) (pc := 967) dL_law_967 rfl ?_
  refine sh_iadd (pc := 968) dL_law_968 ?_
  refine sh_sald (pc := 969) dL_law_969 (law_in hL hi 1 (by decide)) ?_
  refine sh_aload_n (pc := 970) dL_law_970 rfl ?_
  refine sh_iload_n (pc := 971) dL_law_971 rfl ?_
  refine sh_iconst (v := 2) (pc := 972) dL_law_972 rfl ?_
  refine sh_iadd (pc := 973) dL_law_973 ?_
  refine sh_sald (pc := 974) dL_law_974 (law_in hL hi 2 (by decide)) ?_
  refine sh_aload_n (pc := 975) dL_law_975 rfl ?_
  refine sh_iload_n (pc := 976) dL_law_976 rfl ?_
  refine sh_iconst (v := 3) (pc := 977) dL_law_977 rfl ?_
  refine sh_iadd (pc := 978) dL_law_978 ?_
  refine sh_sald (pc := 979) dL_law_979 (law_in hL hi 3 (by decide)) ?_
  refine sh_cig (pc := 980) (N := mX8_vote) dL_law_980 ml_L_121 (L_vote G hb) mf_X8_vote iv_X8_vote ⟨Nat.le_of_ble_eq_true rfl, Nat.le_of_ble_eq_true rfl⟩ rfl rfl (Nat.le_of_ble_eq_true rfl) ok_8_0 rfl rfl rfl ⟨Nat.le_of_ble_eq_true rfl, Nat.le_of_ble_eq_true rfl⟩ (fun r1 S1 h1 => ?_)
  refine sh_aload_n (pc := 983) dL_law_983 rfl ?_
  refine sh_aload_n (pc := 984) dL_law_984 rfl ?_
  refine sh_iload_n (pc := 985) dL_law_985 rfl ?_
  refine sh_iconst (v := 1) (pc := 986) dL_law_986 rfl ?_
  refine sh_iadd (pc := 987) dL_law_987 ?_
  refine sh_sald (pc := 988) dL_law_988 (law_in hL hi 1 (by decide)) ?_
  refine sh_aload_n (pc := 989) dL_law_989 rfl ?_
  refine sh_iload_n (pc := 990) dL_law_990 rfl ?_
  refine sh_iconst (v := 2) (pc := 991) dL_law_991 rfl ?_
  refine sh_iadd (pc := 992) dL_law_992 ?_
  refine sh_sald (pc := 993) dL_law_993 (law_in hL hi 2 (by decide)) ?_
  refine sh_aload_n (pc := 994) dL_law_994 rfl ?_
  refine sh_iload_n (pc := 995) dL_law_995 rfl ?_
  refine sh_iconst (v := 3) (pc := 996) dL_law_996 rfl ?_
  refine sh_iadd (pc := 997) dL_law_997 ?_
  refine sh_sald (pc := 998) dL_law_998 (law_in hL hi 3 (by decide)) ?_
  refine sh_cig (pc := 999) (N := mX9_vote) dL_law_999 ml_L_124 h1 mf_X9_vote iv_X9_vote ⟨Nat.le_of_ble_eq_true rfl, Nat.le_of_ble_eq_true rfl⟩ rfl rfl (Nat.le_of_ble_eq_true rfl) ok_9_0 rfl rfl rfl ⟨Nat.le_of_ble_eq_true rfl, Nat.le_of_ble_eq_true rfl⟩ (fun r2 S2 h2 => ?_)
  exact sh_icmp_eq (tgt := 1247) (pc := 1002) dL_law_1002 (by decide) (fun _ => ih S2 h2.2) (fun z => absurd h2.1 z)
set_option maxRecDepth 100000 in
theorem law_27 (G : sh_GR b S) (hb : b + 2000000 ≤ sh_LIM) (hL : sh_L g ≤ 2560) (hi : 5 * c + 5 ≤ sh_L g) (ih : ∀ S2, sh_GR (b + 2000000) S2 → sh_V g (mL nm) 894 9877 1247 (law_ls c) [] (sh_St S2) sz Q) : sh_V g (mL nm) 894 9877 1007 (law_ls c) [] (sh_St S) sz Q := by
  refine sh_aload_n (pc := 1007) dL_law_1007 rfl ?_
  refine sh_aload_n (pc := 1008) dL_law_1008 rfl ?_
  refine sh_iload_n (pc := 1009) dL_law_1009 rfl ?_
  refine sh_iconst (v := 1) (pc := 1010) dL_law_1010 rfl ?_
  refine sh_iadd (pc := 1011) dL_law_1011 ?_
  refine sh_sald (pc := 1012) dL_law_1012 (law_in hL hi 1 (by decide)) ?_
  refine sh_aload_n (pc := 1013) dL_law_1013 rfl ?_
  refine sh_iload_n (pc := 1014) dL_law_1014 rfl ?_
  refine sh_iconst (v := 2) (pc := 1015) dL_law_1015 rfl ?_
  refine sh_iadd (pc := 1016) dL_law_1016 ?_
  refine sh_sald (pc := 1017) dL_law_1017 (law_in hL hi 2 (by decide)) ?_
  refine sh_cig (pc := 1018) (N := mX8_proposalOf) dL_law_1018 ml_L_125 (L_proposalOf G) mf_X8_proposalOf iv_X8_proposalOf ⟨Nat.le_of_ble_eq_true rfl, Nat.le_of_ble_eq_true rfl⟩ rfl rfl (Nat.le_of_ble_eq_true rfl) ok_8_0 rfl rfl rfl ⟨Nat.le_of_ble_eq_true rfl, Nat.le_of_ble_eq_true rfl⟩ (fun r1 S1 h1 => ?_)
  refine sh_aload_n (pc := 1021) dL_law_1021 rfl ?_
  refine sh_aload_n (pc := 1022) dL_law_1022 rfl ?_
  refine sh_iload_n (pc := 1023) dL_law_1023 rfl ?_
  refine sh_iconst (v := 1) (pc := 1024) dL_law_1024 rfl ?_
  refine sh_iadd (pc := 1025) dL_law_1025 ?_
  refine sh_sald (pc := 1026) dL_law_1026 (law_in hL hi 1 (by decide)) ?_
  refine sh_aload_n (pc := 1027) dL_law_1027 rfl ?_
  refine sh_iload_n (pc := 1028) dL_law_1028 rfl ?_
  refine sh_iconst (v := 2) (pc := 1029) dL_law_1029 rfl ?_
  refine sh_iadd (pc := 1030) dL_law_1030 ?_
  refine sh_sald (pc := 1031) dL_law_1031 (law_in hL hi 2 (by decide)) ?_
  refine sh_cig (pc := 1032) (N := mX9_proposalOf) dL_law_1032 ml_L_128 h1 mf_X9_proposalOf iv_X9_proposalOf ⟨Nat.le_of_ble_eq_true rfl, Nat.le_of_ble_eq_true rfl⟩ rfl rfl (Nat.le_of_ble_eq_true rfl) ok_9_0 rfl rfl rfl ⟨Nat.le_of_ble_eq_true rfl, Nat.le_of_ble_eq_true rfl⟩ (fun r2 S2 h2 => ?_)
  exact sh_icmp_eq (tgt := 1247) (pc := 1035) dL_law_1035 (by decide) (fun _ => ih S2 h2.2) (fun z => absurd h2.1 z)
set_option maxRecDepth 100000 in
theorem law_28 (G : sh_GR b S) (hb : b + 2000000 ≤ sh_LIM) (hL : sh_L g ≤ 2560) (hi : 5 * c + 5 ≤ sh_L g) (ih : ∀ S2, sh_GR (b + 2000000) S2 → sh_V g (mL nm) 894 9877 1247 (law_ls c) [] (sh_St S2) sz Q) : sh_V g (mL nm) 894 9877 1040 (law_ls c) [] (sh_St S) sz Q := by
  refine sh_aload_n (pc := 1040) dL_law_1040 rfl ?_
  refine sh_aload_n (pc := 1041) dL_law_1041 rfl ?_
  refine sh_iload_n (pc := 1042) dL_law_1042 rfl ?_
  refine sh_iconst (v := 1) (pc := 1043) dL_law_1043 rfl ?_
  refine sh_iadd (pc := 1044) dL_law_1044 ?_
  refine sh_sald (pc := 1045) dL_law_1045 (law_in hL hi 1 (by decide)) ?_
  refine sh_aload_n (pc := 1046) dL_law_1046 rfl ?_
  refine sh_iload_n (pc := 1047) dL_law_1047 rfl ?_
  refine sh_iconst (v := 2) (pc := 1048) dL_law_1048 rfl ?_
  refine sh_iadd (pc := 1049) dL_law_1049 ?_
  refine sh_sald (pc := 1050) dL_law_1050 (law_in hL hi 2 (by decide)) ?_
  refine sh_aload_n (pc := 1051) dL_law_1051 rfl ?_
  refine sh_iload_n (pc := 1052) dL_law_1052 rfl ?_
  refine sh_iconst (v := 3) (pc := 1053) dL_law_1053 rfl ?_
  refine sh_iadd (pc := 1054) dL_law_1054 ?_
  refine sh_sald (pc := 1055) dL_law_1055 (law_in hL hi 3 (by decide)) ?_
  refine sh_aload_n (pc := 1056) dL_law_1056 rfl ?_
  refine sh_iload_n (pc := 1057) dL_law_1057 rfl ?_
  refine sh_iconst (v := 4) (pc := 1058) dL_law_1058 rfl ?_
  refine sh_iadd (pc := 1059) dL_law_1059 ?_
  refine sh_sald (pc := 1060) dL_law_1060 (law_in hL hi 4 (by decide)) ?_
  refine sh_cig (pc := 1061) (N := mX8_lendOut) dL_law_1061 ml_L_129 (L_lendOut G hb) mf_X8_lendOut iv_X8_lendOut ⟨Nat.le_of_ble_eq_true rfl, Nat.le_of_ble_eq_true rfl⟩ rfl rfl (Nat.le_of_ble_eq_true rfl) ok_8_0 rfl rfl rfl ⟨Nat.le_of_ble_eq_true rfl, Nat.le_of_ble_eq_true rfl⟩ (fun r1 S1 h1 => ?_)
  refine sh_aload_n (pc := 1064) dL_law_1064 rfl ?_
  refine sh_aload_n (pc := 1065) dL_law_1065 rfl ?_
  refine sh_iload_n (pc := 1066) dL_law_1066 rfl ?_
  refine sh_iconst (v := 1) (pc := 1067) dL_law_1067 rfl ?_
  refine sh_iadd (pc := 1068) dL_law_1068 ?_
  refine sh_sald (pc := 1069) dL_law_1069 (law_in hL hi 1 (by decide)) ?_
  refine sh_aload_n (pc := 1070) dL_law_1070 rfl ?_
  refine sh_iload_n (pc := 1071) dL_law_1071 rfl ?_
  refine sh_iconst (v := 2) (pc := 1072) dL_law_1072 rfl ?_
  refine sh_iadd (pc := 1073) dL_law_1073 ?_
  refine sh_sald (pc := 1074) dL_law_1074 (law_in hL hi 2 (by decide)) ?_
  refine sh_aload_n (pc := 1075) dL_law_1075 rfl ?_
  refine sh_iload_n (pc := 1076) dL_law_1076 rfl ?_
  refine sh_iconst (v := 3) (pc := 1077) dL_law_1077 rfl ?_
  refine sh_iadd (pc := 1078) dL_law_1078 ?_
  refine sh_sald (pc := 1079) dL_law_1079 (law_in hL hi 3 (by decide)) ?_
  refine sh_aload_n (pc := 1080) dL_law_1080 rfl ?_
  refine sh_iload_n (pc := 1081) dL_law_1081 rfl ?_
  refine sh_iconst (v := 4) (pc := 1082) dL_law_1082 rfl ?_
  refine sh_iadd (pc := 1083) dL_law_1083 ?_
  refine sh_sald (pc := 1084) dL_law_1084 (law_in hL hi 4 (by decide)) ?_
  refine sh_cig (pc := 1085) (N := mX9_lendOut) dL_law_1085 ml_L_133 h1 mf_X9_lendOut iv_X9_lendOut ⟨Nat.le_of_ble_eq_true rfl, Nat.le_of_ble_eq_true rfl⟩ rfl rfl (Nat.le_of_ble_eq_true rfl) ok_9_0 rfl rfl rfl ⟨Nat.le_of_ble_eq_true rfl, Nat.le_of_ble_eq_true rfl⟩ (fun r2 S2 h2 => ?_)
  exact sh_icmp_eq (tgt := 1247) (pc := 1088) dL_law_1088 (by decide) (fun _ => ih S2 h2.2) (fun z => absurd h2.1 z)
set_option maxRecDepth 100000 in
theorem law_29 (G : sh_GR b S) (hb : b + 2000000 ≤ sh_LIM) (hL : sh_L g ≤ 2560) (hi : 5 * c + 5 ≤ sh_L g) (ih : ∀ S2, sh_GR (b + 2000000) S2 → sh_V g (mL nm) 894 9877 1247 (law_ls c) [] (sh_St S2) sz Q) : sh_V g (mL nm) 894 9877 1093 (law_ls c) [] (sh_St S) sz Q := by
  refine sh_aload_n (pc := 1093) dL_law_1093 rfl ?_
  refine sh_aload_n (pc := 1094) dL_law_1094 rfl ?_
  refine sh_iload_n (pc := 1095) dL_law_1095 rfl ?_
  refine sh_iconst (v := 1) (pc := 1096) dL_law_1096 rfl ?_
  refine sh_iadd (pc := 1097) dL_law_1097 ?_
  refine sh_sald (pc := 1098) dL_law_1098 (law_in hL hi 1 (by decide)) ?_
  refine sh_cig (pc := 1099) (N := mX8_comeBack) dL_law_1099 ml_L_134 (L_comeBack G hb) mf_X8_comeBack iv_X8_comeBack ⟨Nat.le_of_ble_eq_true rfl, Nat.le_of_ble_eq_true rfl⟩ rfl rfl (Nat.le_of_ble_eq_true rfl) ok_8_0 rfl rfl rfl ⟨Nat.le_of_ble_eq_true rfl, Nat.le_of_ble_eq_true rfl⟩ (fun r1 S1 h1 => ?_)
  refine sh_aload_n (pc := 1102) dL_law_1102 rfl ?_
  refine sh_aload_n (pc := 1103) dL_law_1103 rfl ?_
  refine sh_iload_n (pc := 1104) dL_law_1104 rfl ?_
  refine sh_iconst (v := 1) (pc := 1105) dL_law_1105 rfl ?_
  refine sh_iadd (pc := 1106) dL_law_1106 ?_
  refine sh_sald (pc := 1107) dL_law_1107 (law_in hL hi 1 (by decide)) ?_
  refine sh_cig (pc := 1108) (N := mX9_comeBack) dL_law_1108 ml_L_137 h1 mf_X9_comeBack iv_X9_comeBack ⟨Nat.le_of_ble_eq_true rfl, Nat.le_of_ble_eq_true rfl⟩ rfl rfl (Nat.le_of_ble_eq_true rfl) ok_9_0 rfl rfl rfl ⟨Nat.le_of_ble_eq_true rfl, Nat.le_of_ble_eq_true rfl⟩ (fun r2 S2 h2 => ?_)
  exact sh_icmp_eq (tgt := 1247) (pc := 1111) dL_law_1111 (by decide) (fun _ => ih S2 h2.2) (fun z => absurd h2.1 z)
set_option maxRecDepth 100000 in
theorem law_30 (G : sh_GR b S) (hb : b + 2000000 ≤ sh_LIM) (hL : sh_L g ≤ 2560) (hi : 5 * c + 5 ≤ sh_L g) (ih : ∀ S2, sh_GR (b + 2000000) S2 → sh_V g (mL nm) 894 9877 1247 (law_ls c) [] (sh_St S2) sz Q) : sh_V g (mL nm) 894 9877 1116 (law_ls c) [] (sh_St S) sz Q := by
  refine sh_aload_n (pc := 1116) dL_law_1116 rfl ?_
  refine sh_aload_n (pc := 1117) dL_law_1117 rfl ?_
  refine sh_iload_n (pc := 1118) dL_law_1118 rfl ?_
  refine sh_iconst (v := 1) (pc := 1119) dL_law_1119 rfl ?_
  refine sh_iadd (pc := 1120) dL_law_1120 ?_
  refine sh_sald (pc := 1121) dL_law_1121 (law_in hL hi 1 (by decide)) ?_
  refine sh_cig (pc := 1122) (N := mX8_pass) dL_law_1122 ml_L_138 (L_pass G hb) mf_X8_pass iv_X8_pass ⟨Nat.le_of_ble_eq_true rfl, Nat.le_of_ble_eq_true rfl⟩ rfl rfl (Nat.le_of_ble_eq_true rfl) ok_8_0 rfl rfl rfl ⟨Nat.le_of_ble_eq_true rfl, Nat.le_of_ble_eq_true rfl⟩ (fun r1 S1 h1 => ?_)
  refine sh_aload_n (pc := 1125) dL_law_1125 rfl ?_
  refine sh_aload_n (pc := 1126) dL_law_1126 rfl ?_
  refine sh_iload_n (pc := 1127) dL_law_1127 rfl ?_
  refine sh_iconst (v := 1) (pc := 1128) dL_law_1128 rfl ?_
  refine sh_iadd (pc := 1129) dL_law_1129 ?_
  refine sh_sald (pc := 1130) dL_law_1130 (law_in hL hi 1 (by decide)) ?_
  refine sh_cig (pc := 1131) (N := mX9_pass) dL_law_1131 ml_L_141 h1 mf_X9_pass iv_X9_pass ⟨Nat.le_of_ble_eq_true rfl, Nat.le_of_ble_eq_true rfl⟩ rfl rfl (Nat.le_of_ble_eq_true rfl) ok_9_0 rfl rfl rfl ⟨Nat.le_of_ble_eq_true rfl, Nat.le_of_ble_eq_true rfl⟩ (fun r2 S2 h2 => ?_)
  exact sh_icmp_eq (tgt := 1247) (pc := 1134) dL_law_1134 (by decide) (fun _ => ih S2 h2.2) (fun z => absurd h2.1 z)
set_option maxRecDepth 100000 in
theorem law_31 (G : sh_GR b S) (hb : b + 2000000 ≤ sh_LIM) (hL : sh_L g ≤ 2560) (hi : 5 * c + 5 ≤ sh_L g) (ih : ∀ S2, sh_GR (b + 2000000) S2 → sh_V g (mL nm) 894 9877 1247 (law_ls c) [] (sh_St S2) sz Q) : sh_V g (mL nm) 894 9877 1139 (law_ls c) [] (sh_St S) sz Q := by
  refine sh_aload_n (pc := 1139) dL_law_1139 rfl ?_
  refine sh_aload_n (pc := 1140) dL_law_1140 rfl ?_
  refine sh_iload_n (pc := 1141) dL_law_1141 rfl ?_
  refine sh_iconst (v := 1) (pc := 1142) dL_law_1142 rfl ?_
  refine sh_iadd (pc := 1143) dL_law_1143 ?_
  refine sh_sald (pc := 1144) dL_law_1144 (law_in hL hi 1 (by decide)) ?_
  refine sh_cig (pc := 1145) (N := mX8_count) dL_law_1145 ml_L_142 (L_count G) mf_X8_count iv_X8_count ⟨Nat.le_of_ble_eq_true rfl, Nat.le_of_ble_eq_true rfl⟩ rfl rfl (Nat.le_of_ble_eq_true rfl) ok_8_0 rfl rfl rfl ⟨Nat.le_of_ble_eq_true rfl, Nat.le_of_ble_eq_true rfl⟩ (fun r1 S1 h1 => ?_)
  refine sh_aload_n (pc := 1148) dL_law_1148 rfl ?_
  refine sh_aload_n (pc := 1149) dL_law_1149 rfl ?_
  refine sh_iload_n (pc := 1150) dL_law_1150 rfl ?_
  refine sh_iconst (v := 1) (pc := 1151) dL_law_1151 rfl ?_
  refine sh_iadd (pc := 1152) dL_law_1152 ?_
  refine sh_sald (pc := 1153) dL_law_1153 (law_in hL hi 1 (by decide)) ?_
  refine sh_cig (pc := 1154) (N := mX9_count) dL_law_1154 ml_L_145 h1 mf_X9_count iv_X9_count ⟨Nat.le_of_ble_eq_true rfl, Nat.le_of_ble_eq_true rfl⟩ rfl rfl (Nat.le_of_ble_eq_true rfl) ok_9_0 rfl rfl rfl ⟨Nat.le_of_ble_eq_true rfl, Nat.le_of_ble_eq_true rfl⟩ (fun r2 S2 h2 => ?_)
  exact sh_icmp_eq (tgt := 1247) (pc := 1157) dL_law_1157 (by decide) (fun _ => ih S2 h2.2) (fun z => absurd h2.1 z)
set_option maxRecDepth 100000 in
theorem law_32 (G : sh_GR b S) (hb : b + 2000000 ≤ sh_LIM) (hL : sh_L g ≤ 2560) (hi : 5 * c + 5 ≤ sh_L g) (ih : ∀ S2, sh_GR (b + 2000000) S2 → sh_V g (mL nm) 894 9877 1247 (law_ls c) [] (sh_St S2) sz Q) : sh_V g (mL nm) 894 9877 1162 (law_ls c) [] (sh_St S) sz Q := by
  refine sh_aload_n (pc := 1162) dL_law_1162 rfl ?_
  refine sh_cig (pc := 1163) (N := mX8_undo) dL_law_1163 ml_L_146 (L_undo G) mf_X8_undo iv_X8_undo ⟨Nat.le_of_ble_eq_true rfl, Nat.le_of_ble_eq_true rfl⟩ rfl rfl (Nat.le_of_ble_eq_true rfl) ok_8_0 rfl rfl rfl ⟨Nat.le_of_ble_eq_true rfl, Nat.le_of_ble_eq_true rfl⟩ (fun r1 S1 h1 => ?_)
  refine sh_aload_n (pc := 1166) dL_law_1166 rfl ?_
  refine sh_cig (pc := 1167) (N := mX9_undo) dL_law_1167 ml_L_149 h1 mf_X9_undo iv_X9_undo ⟨Nat.le_of_ble_eq_true rfl, Nat.le_of_ble_eq_true rfl⟩ rfl rfl (Nat.le_of_ble_eq_true rfl) ok_9_0 rfl rfl rfl ⟨Nat.le_of_ble_eq_true rfl, Nat.le_of_ble_eq_true rfl⟩ (fun r2 S2 h2 => ?_)
  exact sh_icmp_eq (tgt := 1247) (pc := 1170) dL_law_1170 (by decide) (fun _ => ih S2 h2.2) (fun z => absurd h2.1 z)
set_option maxRecDepth 100000 in
theorem law_33 (G : sh_GR b S) (hb : b + 2000000 ≤ sh_LIM) (hL : sh_L g ≤ 2560) (hi : 5 * c + 5 ≤ sh_L g) (ih : ∀ S2, sh_GR (b + 2000000) S2 → sh_V g (mL nm) 894 9877 1247 (law_ls c) [] (sh_St S2) sz Q) : sh_V g (mL nm) 894 9877 1175 (law_ls c) [] (sh_St S) sz Q := by
  refine sh_aload_n (pc := 1175) dL_law_1175 rfl ?_
  refine sh_aload_n (pc := 1176) dL_law_1176 rfl ?_
  refine sh_iload_n (pc := 1177) dL_law_1177 rfl ?_
  refine sh_iconst (v := 1) (pc := 1178) dL_law_1178 rfl ?_
  refine sh_iadd (pc := 1179) dL_law_1179 ?_
  refine sh_sald (pc := 1180) dL_law_1180 (law_in hL hi 1 (by decide)) ?_
  refine sh_cig (pc := 1181) (N := mX8_type) dL_law_1181 ml_L_150 (L_type G) mf_X8_type iv_X8_type ⟨Nat.le_of_ble_eq_true rfl, Nat.le_of_ble_eq_true rfl⟩ rfl rfl (Nat.le_of_ble_eq_true rfl) ok_8_0 rfl rfl rfl ⟨Nat.le_of_ble_eq_true rfl, Nat.le_of_ble_eq_true rfl⟩ (fun r1 S1 h1 => ?_)
  refine sh_aload_n (pc := 1184) dL_law_1184 rfl ?_
  refine sh_aload_n (pc := 1185) dL_law_1185 rfl ?_
  refine sh_iload_n (pc := 1186) dL_law_1186 rfl ?_
  refine sh_iconst (v := 1) (pc := 1187) dL_law_1187 rfl ?_
  refine sh_iadd (pc := 1188) dL_law_1188 ?_
  refine sh_sald (pc := 1189) dL_law_1189 (law_in hL hi 1 (by decide)) ?_
  refine sh_cig (pc := 1190) (N := mX9_type) dL_law_1190 ml_L_153 h1 mf_X9_type iv_X9_type ⟨Nat.le_of_ble_eq_true rfl, Nat.le_of_ble_eq_true rfl⟩ rfl rfl (Nat.le_of_ble_eq_true rfl) ok_9_0 rfl rfl rfl ⟨Nat.le_of_ble_eq_true rfl, Nat.le_of_ble_eq_true rfl⟩ (fun r2 S2 h2 => ?_)
  exact sh_icmp_eq (tgt := 1247) (pc := 1193) dL_law_1193 (by decide) (fun _ => ih S2 h2.2) (fun z => absurd h2.1 z)
set_option maxRecDepth 100000 in
theorem law_34 (G : sh_GR b S) (hb : b + 2000000 ≤ sh_LIM) (hL : sh_L g ≤ 2560) (hi : 5 * c + 5 ≤ sh_L g) (ih : ∀ S2, sh_GR (b + 2000000) S2 → sh_V g (mL nm) 894 9877 1247 (law_ls c) [] (sh_St S2) sz Q) : sh_V g (mL nm) 894 9877 1198 (law_ls c) [] (sh_St S) sz Q := by
  refine sh_aload_n (pc := 1198) dL_law_1198 rfl ?_
  refine sh_cig (pc := 1199) (N := mX8_clearText) dL_law_1199 ml_L_154 (L_clearText G) mf_X8_clearText iv_X8_clearText ⟨Nat.le_of_ble_eq_true rfl, Nat.le_of_ble_eq_true rfl⟩ rfl rfl (Nat.le_of_ble_eq_true rfl) ok_8_0 rfl rfl rfl ⟨Nat.le_of_ble_eq_true rfl, Nat.le_of_ble_eq_true rfl⟩ (fun r1 S1 h1 => ?_)
  refine sh_aload_n (pc := 1202) dL_law_1202 rfl ?_
  refine sh_cig (pc := 1203) (N := mX9_clearText) dL_law_1203 ml_L_157 h1 mf_X9_clearText iv_X9_clearText ⟨Nat.le_of_ble_eq_true rfl, Nat.le_of_ble_eq_true rfl⟩ rfl rfl (Nat.le_of_ble_eq_true rfl) ok_9_0 rfl rfl rfl ⟨Nat.le_of_ble_eq_true rfl, Nat.le_of_ble_eq_true rfl⟩ (fun r2 S2 h2 => ?_)
  exact sh_icmp_eq (tgt := 1247) (pc := 1206) dL_law_1206 (by decide) (fun _ => ih S2 h2.2) (fun z => absurd h2.1 z)
set_option maxRecDepth 100000 in
theorem law_35 (G : sh_GR b S) (hb : b + 2000000 ≤ sh_LIM) (hL : sh_L g ≤ 2560) (hi : 5 * c + 5 ≤ sh_L g) (ih : ∀ S2, sh_GR (b + 2000000) S2 → sh_V g (mL nm) 894 9877 1247 (law_ls c) [] (sh_St S2) sz Q) : sh_V g (mL nm) 894 9877 1211 (law_ls c) [] (sh_St S) sz Q := by
  refine sh_aload_n (pc := 1211) dL_law_1211 rfl ?_
  refine sh_aload_n (pc := 1212) dL_law_1212 rfl ?_
  refine sh_iload_n (pc := 1213) dL_law_1213 rfl ?_
  refine sh_iconst (v := 1) (pc := 1214) dL_law_1214 rfl ?_
  refine sh_iadd (pc := 1215) dL_law_1215 ?_
  refine sh_sald (pc := 1216) dL_law_1216 (law_in hL hi 1 (by decide)) ?_
  refine sh_cig (pc := 1217) (N := mX8_fault) dL_law_1217 ml_L_158 (L_fault G hb) mf_X8_fault iv_X8_fault ⟨Nat.le_of_ble_eq_true rfl, Nat.le_of_ble_eq_true rfl⟩ rfl rfl (Nat.le_of_ble_eq_true rfl) ok_8_0 rfl rfl rfl ⟨Nat.le_of_ble_eq_true rfl, Nat.le_of_ble_eq_true rfl⟩ (fun r1 S1 h1 => ?_)
  refine sh_aload_n (pc := 1220) dL_law_1220 rfl ?_
  refine sh_aload_n (pc := 1221) dL_law_1221 rfl ?_
  refine sh_iload_n (pc := 1222) dL_law_1222 rfl ?_
  refine sh_iconst (v := 1) (pc := 1223) dL_law_1223 rfl ?_
  refine sh_iadd (pc := 1224) dL_law_1224 ?_
  refine sh_sald (pc := 1225) dL_law_1225 (law_in hL hi 1 (by decide)) ?_
  refine sh_cig (pc := 1226) (N := mX9_fault) dL_law_1226 ml_L_161 h1 mf_X9_fault iv_X9_fault ⟨Nat.le_of_ble_eq_true rfl, Nat.le_of_ble_eq_true rfl⟩ rfl rfl (Nat.le_of_ble_eq_true rfl) ok_9_0 rfl rfl rfl ⟨Nat.le_of_ble_eq_true rfl, Nat.le_of_ble_eq_true rfl⟩ (fun r2 S2 h2 => ?_)
  exact sh_icmp_eq (tgt := 1247) (pc := 1229) dL_law_1229 (by decide) (fun _ => ih S2 h2.2) (fun z => absurd h2.1 z)
set_option maxRecDepth 100000 in
theorem law_36 (G : sh_GR b S) (hb : b + 2000000 ≤ sh_LIM) (hL : sh_L g ≤ 2560) (hi : 5 * c + 5 ≤ sh_L g) (ih : ∀ S2, sh_GR (b + 2000000) S2 → sh_V g (mL nm) 894 9877 1247 (law_ls c) [] (sh_St S2) sz Q) : sh_V g (mL nm) 894 9877 1234 (law_ls c) [] (sh_St S) sz Q := by
  refine sh_aload_n (pc := 1234) dL_law_1234 rfl ?_
  refine sh_cig (pc := 1235) (N := mX8_play) dL_law_1235 ml_L_162 (L_play G hb) mf_X8_play iv_X8_play ⟨Nat.le_of_ble_eq_true rfl, Nat.le_of_ble_eq_true rfl⟩ rfl rfl (Nat.le_of_ble_eq_true rfl) ok_8_0 rfl rfl rfl ⟨Nat.le_of_ble_eq_true rfl, Nat.le_of_ble_eq_true rfl⟩ (fun r1 S1 h1 => ?_)
  refine sh_aload_n (pc := 1238) dL_law_1238 rfl ?_
  refine sh_cig (pc := 1239) (N := mX9_play) dL_law_1239 ml_L_165 h1 mf_X9_play iv_X9_play ⟨Nat.le_of_ble_eq_true rfl, Nat.le_of_ble_eq_true rfl⟩ rfl rfl (Nat.le_of_ble_eq_true rfl) ok_9_0 rfl rfl rfl ⟨Nat.le_of_ble_eq_true rfl, Nat.le_of_ble_eq_true rfl⟩ (fun r2 S2 h2 => ?_)
  exact sh_icmp_eq (tgt := 1247) (pc := 1242) dL_law_1242 (by decide) (fun _ => ih S2 h2.2) (fun z => absurd h2.1 z)
end LAW
