/-! ===== the law's ops: from the switch to the end of the loop's body, where both sides answer alike ===== -/
section LO
variable {l : Launch} {Γ : Gm} {R : Room} {Q : QT} {cells slots pc : Nat} {ls : List (Option Value)} {st : List Value} {L : Sc} {T S : Sm}
theorem l_iald {j : Int32} {M : Mt} (hd : decode M.2.1 pc = .ok (.iaload, 1)) (hin : inb j L.1) (kk : G M l Γ R Q cells slots (pc + 1) ls (.int (L.2 (ix j)) :: st) (cw L T S)) : G M l Γ R Q cells slots pc ls (.int j :: .ref 6 :: st) (cw L T S) :=
  gw_iald hd (show cwK L.1 (S.1 31) 6 = some (.inr (.int, L.1)) from rfl) hin kk
theorem l_ne0 {M : Mt} {w : Wd} {x : Int32} {p1 p2 p3 p4 : Nat} (h1 : decode M.2.1 pc = .ok (.ifCond .eq 7, 3)) (h2 : decode M.2.1 p1 = .ok (.iconst 1, 1)) (h3 : decode M.2.1 p2 = .ok (.goto 4, 3)) (h4 : decode M.2.1 p3 = .ok (.iconst 0, 1)) (e : p1 = pc + 3 ∧ p2 = p1 + 1 ∧ p3 = pc + 7 ∧ p4 = pc + 8) (kk : G M l Γ R Q cells slots p4 ls (.int (if x = 0 then 0 else 1) :: st) w) : G M l Γ R Q cells slots pc ls (.int x :: st) w := by
  obtain ⟨e1, e2, e3, e4⟩ := e
  subst e1 e2 e3 e4
  refine g_if_eq (tgt := pc + 7) h1 (by omega) (fun c => ?_) (fun c => ?_)
  · rw [if_pos c] at kk
    exact g_iconst (v := 0) h4 (by decide) kk
  · rw [if_neg c] at kk
    refine g_iconst (v := 1) h2 (by decide) ?_
    exact g_goto (tgt := pc + 8) h3 (by omega) kk
end LO
set_option maxRecDepth 4000 in
theorem lo_0 {l : Launch} {Γ : Gm} {R : Room} {Q : QT} {cells slots : Nat} {L : Sc} {T S : Sm} {i : Int32} (hR : RmL R) (hb1 : inb (i + 1) L.1) (hb2 : inb (i + 2) L.1) (hb3 : inb (i + 3) L.1) (hb4 : inb (i + 4) L.1) (hb5 : inb (i + 5) L.1) {q : Int32 × Sm} (h1 : Dk_feed (L.2 (ix (i + 1))) (L.2 (ix (i + 2))) (L.2 (ix (i + 3))) (L.2 (ix (i + 4))) (L.2 (ix (i + 5))) S = some q) {p : Int32 × Sm} (h2 : Md_feed (L.2 (ix (i + 1))) (L.2 (ix (i + 2))) (L.2 (ix (i + 3))) (L.2 (ix (i + 4))) (L.2 (ix (i + 5))) T = some p) (he : q.1 = p.1) (hc : cells ≤ R.cells ∧ slots ≤ R.slots) (kk : G mL_law l Γ R Q (cells) (slots) 1819 [some (.ref 6), some (.ref 7), some (.ref 53), some (.ref 90), some (.int i), none, none] [] (cw L p.2 (f31 (S.1 31) q.2))) : G mL_law l Γ R Q cells slots 232 [some (.ref 6), some (.ref 7), some (.ref 53), some (.ref 90), some (.int i), none, none] [] (cw L T S) := by
  obtain ⟨r1, r2, r3, r4⟩ := hR
  refine g_aload_n (pc := 232) dL_law_232 rfl ?_
  refine g_aload_n (pc := 233) dL_law_233 rfl ?_
  refine g_iload (pc := 234) dL_law_234 rfl ?_
  refine g_iconst (v := 1) (pc := 236) dL_law_236 (by decide) ?_
  refine g_iadd (pc := 237) dL_law_237 ?_
  refine l_iald (pc := 238) dL_law_238 hb1 ?_
  refine g_aload_n (pc := 239) dL_law_239 rfl ?_
  refine g_iload (pc := 240) dL_law_240 rfl ?_
  refine g_iconst (v := 2) (pc := 242) dL_law_242 (by decide) ?_
  refine g_iadd (pc := 243) dL_law_243 ?_
  refine l_iald (pc := 244) dL_law_244 hb2 ?_
  refine g_aload_n (pc := 245) dL_law_245 rfl ?_
  refine g_iload (pc := 246) dL_law_246 rfl ?_
  refine g_iconst (v := 3) (pc := 248) dL_law_248 (by decide) ?_
  refine g_iadd (pc := 249) dL_law_249 ?_
  refine l_iald (pc := 250) dL_law_250 hb3 ?_
  refine g_aload_n (pc := 251) dL_law_251 rfl ?_
  refine g_iload (pc := 252) dL_law_252 rfl ?_
  refine g_iconst (v := 4) (pc := 254) dL_law_254 (by decide) ?_
  refine g_iadd (pc := 255) dL_law_255 ?_
  refine l_iald (pc := 256) dL_law_256 hb4 ?_
  refine g_aload_n (pc := 257) dL_law_257 rfl ?_
  refine g_iload (pc := 258) dL_law_258 rfl ?_
  refine g_iconst (v := 5) (pc := 260) dL_law_260 (by decide) ?_
  refine g_iadd (pc := 261) dL_law_261 ?_
  refine l_iald (pc := 262) dL_law_262 hb5 ?_
  rw [← cwf_self L T S]
  refine k_callVi (cwf_ok L T (S.1 31)) (S := S) (Mc := mX11_feed) (v := q.1) (S1 := q.2) (As := [.int (L.2 (ix (i + 1))), .int (L.2 (ix (i + 2))), .int (L.2 (ix (i + 3))), .int (L.2 (ix (i + 4))), .int (L.2 (ix (i + 5)))]) (rest := []) (q := (RX11, TX11, 12)) (pc := 263) dL_law_263 mK_L_19 mf_X11_feed rfl k0_7 rfl rfl rfl (Nat.le_of_ble_eq_true rfl) ⟨by omega, by show 8 + (6 + 11) + 64 * 3 ≤ R.locals; omega⟩ (r_Dk_feed (cwf_ok L T (S.1 31)) h1) ?_ hc
  show G _ _ _ _ _ _ _ _ _ [.int q.1] (cw L T (f31 (S.1 31) q.2))
  refine g_aload_n (pc := 266) dL_law_266 rfl ?_
  refine g_aload_n (pc := 267) dL_law_267 rfl ?_
  refine g_iload (pc := 268) dL_law_268 rfl ?_
  refine g_iconst (v := 1) (pc := 270) dL_law_270 (by decide) ?_
  refine g_iadd (pc := 271) dL_law_271 ?_
  refine l_iald (pc := 272) dL_law_272 hb1 ?_
  refine g_aload_n (pc := 273) dL_law_273 rfl ?_
  refine g_iload (pc := 274) dL_law_274 rfl ?_
  refine g_iconst (v := 2) (pc := 276) dL_law_276 (by decide) ?_
  refine g_iadd (pc := 277) dL_law_277 ?_
  refine l_iald (pc := 278) dL_law_278 hb2 ?_
  refine g_aload_n (pc := 279) dL_law_279 rfl ?_
  refine g_iload (pc := 280) dL_law_280 rfl ?_
  refine g_iconst (v := 3) (pc := 282) dL_law_282 (by decide) ?_
  refine g_iadd (pc := 283) dL_law_283 ?_
  refine l_iald (pc := 284) dL_law_284 hb3 ?_
  refine g_aload_n (pc := 285) dL_law_285 rfl ?_
  refine g_iload (pc := 286) dL_law_286 rfl ?_
  refine g_iconst (v := 4) (pc := 288) dL_law_288 (by decide) ?_
  refine g_iadd (pc := 289) dL_law_289 ?_
  refine l_iald (pc := 290) dL_law_290 hb4 ?_
  refine g_aload_n (pc := 291) dL_law_291 rfl ?_
  refine g_iload (pc := 292) dL_law_292 rfl ?_
  refine g_iconst (v := 5) (pc := 294) dL_law_294 (by decide) ?_
  refine g_iadd (pc := 295) dL_law_295 ?_
  refine l_iald (pc := 296) dL_law_296 hb5 ?_
  refine k_callVi (V := fun T => cw L T (f31 (S.1 31) q.2)) (cw_okT L (f31 (S.1 31) q.2)) (S := T) (Mc := mX12_feed) (v := p.1) (S1 := p.2) (As := [.int (L.2 (ix (i + 1))), .int (L.2 (ix (i + 2))), .int (L.2 (ix (i + 3))), .int (L.2 (ix (i + 4))), .int (L.2 (ix (i + 5)))]) (rest := [.int q.1]) (q := (RX12, TX12, 58)) (pc := 297) dL_law_297 mK_L_23 mf_X12_feed rfl k0_53 rfl rfl rfl (Nat.le_of_ble_eq_true rfl) ⟨by omega, by show 8 + (9 + 11) + 64 * 1 ≤ R.locals; omega⟩ (r_Md_feed (V := fun T => cw L T (f31 (S.1 31) q.2)) (cw_okT L (f31 (S.1 31) q.2)) h2) ?_ hc
  show G _ _ _ _ _ _ _ _ _ [.int p.1, .int q.1] (cw L p.2 (f31 (S.1 31) q.2))
  refine g_icmp_eq (tgt := 1819) (pc := 300) dL_law_300 (by decide) (fun _ => ?_) (fun c => absurd he c)
  exact kk
set_option maxRecDepth 4000 in
theorem lo_1 {l : Launch} {Γ : Gm} {R : Room} {Q : QT} {cells slots : Nat} {L : Sc} {T S : Sm} {i : Int32} (hR : RmL R) (hb1 : inb (i + 1) L.1) {q : Int32 × Sm} (h1 : Dk_end (L.2 (ix (i + 1))) S = q) {p : Int32 × Sm} (h2 : Md_end (L.2 (ix (i + 1))) T = p) (he : q.1 = p.1) (hc : cells ≤ R.cells ∧ slots ≤ R.slots) (kk : G mL_law l Γ R Q (cells) (slots) 1819 [some (.ref 6), some (.ref 7), some (.ref 53), some (.ref 90), some (.int i), none, none] [] (cw L p.2 (f31 (S.1 31) q.2))) : G mL_law l Γ R Q cells slots 305 [some (.ref 6), some (.ref 7), some (.ref 53), some (.ref 90), some (.int i), none, none] [] (cw L T S) := by
  obtain ⟨r1, r2, r3, r4⟩ := hR
  refine g_aload_n (pc := 305) dL_law_305 rfl ?_
  refine g_aload_n (pc := 306) dL_law_306 rfl ?_
  refine g_iload (pc := 307) dL_law_307 rfl ?_
  refine g_iconst (v := 1) (pc := 309) dL_law_309 (by decide) ?_
  refine g_iadd (pc := 310) dL_law_310 ?_
  refine l_iald (pc := 311) dL_law_311 hb1 ?_
  rw [← cwf_self L T S]
  refine k_callVi (cwf_ok L T (S.1 31)) (S := S) (Mc := mX11_end) (v := q.1) (S1 := q.2) (As := [.int (L.2 (ix (i + 1)))]) (rest := []) (q := (RX11, TX11, 12)) (pc := 312) dL_law_312 mK_L_24 mf_X11_end rfl k0_7 rfl rfl rfl (Nat.le_of_ble_eq_true rfl) ⟨by omega, by show 8 + (2 + 11) + 64 * 1 ≤ R.locals; omega⟩ (r_Dk_end (cwf_ok L T (S.1 31)) h1) ?_ hc
  show G _ _ _ _ _ _ _ _ _ [.int q.1] (cw L T (f31 (S.1 31) q.2))
  refine g_aload_n (pc := 315) dL_law_315 rfl ?_
  refine g_aload_n (pc := 316) dL_law_316 rfl ?_
  refine g_iload (pc := 317) dL_law_317 rfl ?_
  refine g_iconst (v := 1) (pc := 319) dL_law_319 (by decide) ?_
  refine g_iadd (pc := 320) dL_law_320 ?_
  refine l_iald (pc := 321) dL_law_321 hb1 ?_
  refine k_callVi (V := fun T => cw L T (f31 (S.1 31) q.2)) (cw_okT L (f31 (S.1 31) q.2)) (S := T) (Mc := mX12_end) (v := p.1) (S1 := p.2) (As := [.int (L.2 (ix (i + 1)))]) (rest := [.int q.1]) (q := (RX12, TX12, 58)) (pc := 322) dL_law_322 mK_L_28 mf_X12_end rfl k0_53 rfl rfl rfl (Nat.le_of_ble_eq_true rfl) ⟨by omega, by show 8 + (2 + 11) + 64 * 0 ≤ R.locals; omega⟩ (r_Md_end (V := fun T => cw L T (f31 (S.1 31) q.2)) (cw_okT L (f31 (S.1 31) q.2)) h2) ?_ hc
  show G _ _ _ _ _ _ _ _ _ [.int p.1, .int q.1] (cw L p.2 (f31 (S.1 31) q.2))
  refine g_icmp_eq (tgt := 1819) (pc := 325) dL_law_325 (by decide) (fun _ => ?_) (fun c => absurd he c)
  exact kk
set_option maxRecDepth 4000 in
theorem lo_2 {l : Launch} {Γ : Gm} {R : Room} {Q : QT} {cells slots : Nat} {L : Sc} {T S : Sm} {i : Int32} (hR : RmL R) (hb1 : inb (i + 1) L.1) {q : Int32 × Sm} (h1 : Dk_fault (L.2 (ix (i + 1))) S = some q) {p : Int32 × Sm} (h2 : Md_fault (L.2 (ix (i + 1))) T = some p) (he : q.1 = p.1) (hc : cells ≤ R.cells ∧ slots ≤ R.slots) (kk : G mL_law l Γ R Q (cells) (slots) 1819 [some (.ref 6), some (.ref 7), some (.ref 53), some (.ref 90), some (.int i), none, none] [] (cw L p.2 (f31 (S.1 31) q.2))) : G mL_law l Γ R Q cells slots 330 [some (.ref 6), some (.ref 7), some (.ref 53), some (.ref 90), some (.int i), none, none] [] (cw L T S) := by
  obtain ⟨r1, r2, r3, r4⟩ := hR
  refine g_aload_n (pc := 330) dL_law_330 rfl ?_
  refine g_aload_n (pc := 331) dL_law_331 rfl ?_
  refine g_iload (pc := 332) dL_law_332 rfl ?_
  refine g_iconst (v := 1) (pc := 334) dL_law_334 (by decide) ?_
  refine g_iadd (pc := 335) dL_law_335 ?_
  refine l_iald (pc := 336) dL_law_336 hb1 ?_
  rw [← cwf_self L T S]
  refine k_callVi (cwf_ok L T (S.1 31)) (S := S) (Mc := mX11_fault) (v := q.1) (S1 := q.2) (As := [.int (L.2 (ix (i + 1)))]) (rest := []) (q := (RX11, TX11, 12)) (pc := 337) dL_law_337 mK_L_29 mf_X11_fault rfl k0_7 rfl rfl rfl (Nat.le_of_ble_eq_true rfl) ⟨by omega, by show 8 + (2 + 11) + 64 * 87 ≤ R.locals; omega⟩ (r_Dk_fault (cwf_ok L T (S.1 31)) h1) ?_ hc
  show G _ _ _ _ _ _ _ _ _ [.int q.1] (cw L T (f31 (S.1 31) q.2))
  refine g_aload_n (pc := 340) dL_law_340 rfl ?_
  refine g_aload_n (pc := 341) dL_law_341 rfl ?_
  refine g_iload (pc := 342) dL_law_342 rfl ?_
  refine g_iconst (v := 1) (pc := 344) dL_law_344 (by decide) ?_
  refine g_iadd (pc := 345) dL_law_345 ?_
  refine l_iald (pc := 346) dL_law_346 hb1 ?_
  refine k_callVi (V := fun T => cw L T (f31 (S.1 31) q.2)) (cw_okT L (f31 (S.1 31) q.2)) (S := T) (Mc := mX12_fault) (v := p.1) (S1 := p.2) (As := [.int (L.2 (ix (i + 1)))]) (rest := [.int q.1]) (q := (RX12, TX12, 58)) (pc := 347) dL_law_347 mK_L_33 mf_X12_fault rfl k0_53 rfl rfl rfl (Nat.le_of_ble_eq_true rfl) ⟨by omega, by show 8 + (2 + 11) + 64 * 86 ≤ R.locals; omega⟩ (r_Md_fault (V := fun T => cw L T (f31 (S.1 31) q.2)) (cw_okT L (f31 (S.1 31) q.2)) h2) ?_ hc
  show G _ _ _ _ _ _ _ _ _ [.int p.1, .int q.1] (cw L p.2 (f31 (S.1 31) q.2))
  refine g_icmp_eq (tgt := 1819) (pc := 350) dL_law_350 (by decide) (fun _ => ?_) (fun c => absurd he c)
  exact kk
set_option maxRecDepth 4000 in
theorem lo_3 {l : Launch} {Γ : Gm} {R : Room} {Q : QT} {cells slots : Nat} {L : Sc} {T S : Sm} {i : Int32} (hR : RmL R) (hb1 : inb (i + 1) L.1) {q : Int32 × Sm} (h1 : Dk_text (L.2 (ix (i + 1))) S = some q) {p : Int32 × Sm} (h2 : Md_text (L.2 (ix (i + 1))) T = some p) (he : q.1 = p.1) (hc : cells ≤ R.cells ∧ slots ≤ R.slots) (kk : G mL_law l Γ R Q (cells) (slots) 1819 [some (.ref 6), some (.ref 7), some (.ref 53), some (.ref 90), some (.int i), none, none] [] (cw L p.2 (f31 (S.1 31) q.2))) : G mL_law l Γ R Q cells slots 355 [some (.ref 6), some (.ref 7), some (.ref 53), some (.ref 90), some (.int i), none, none] [] (cw L T S) := by
  obtain ⟨r1, r2, r3, r4⟩ := hR
  refine g_aload_n (pc := 355) dL_law_355 rfl ?_
  refine g_aload_n (pc := 356) dL_law_356 rfl ?_
  refine g_iload (pc := 357) dL_law_357 rfl ?_
  refine g_iconst (v := 1) (pc := 359) dL_law_359 (by decide) ?_
  refine g_iadd (pc := 360) dL_law_360 ?_
  refine l_iald (pc := 361) dL_law_361 hb1 ?_
  rw [← cwf_self L T S]
  refine k_callVi (cwf_ok L T (S.1 31)) (S := S) (Mc := mX11_text) (v := q.1) (S1 := q.2) (As := [.int (L.2 (ix (i + 1)))]) (rest := []) (q := (RX11, TX11, 12)) (pc := 362) dL_law_362 mK_L_34 mf_X11_text rfl k0_7 rfl rfl rfl (Nat.le_of_ble_eq_true rfl) ⟨by omega, by show 8 + (2 + 11) + 64 * 87 ≤ R.locals; omega⟩ (r_Dk_text (cwf_ok L T (S.1 31)) h1) ?_ hc
  show G _ _ _ _ _ _ _ _ _ [.int q.1] (cw L T (f31 (S.1 31) q.2))
  refine g_aload_n (pc := 365) dL_law_365 rfl ?_
  refine g_aload_n (pc := 366) dL_law_366 rfl ?_
  refine g_iload (pc := 367) dL_law_367 rfl ?_
  refine g_iconst (v := 1) (pc := 369) dL_law_369 (by decide) ?_
  refine g_iadd (pc := 370) dL_law_370 ?_
  refine l_iald (pc := 371) dL_law_371 hb1 ?_
  refine k_callVi (V := fun T => cw L T (f31 (S.1 31) q.2)) (cw_okT L (f31 (S.1 31) q.2)) (S := T) (Mc := mX12_text) (v := p.1) (S1 := p.2) (As := [.int (L.2 (ix (i + 1)))]) (rest := [.int q.1]) (q := (RX12, TX12, 58)) (pc := 372) dL_law_372 mK_L_37 mf_X12_text rfl k0_53 rfl rfl rfl (Nat.le_of_ble_eq_true rfl) ⟨by omega, by show 8 + (2 + 11) + 64 * 86 ≤ R.locals; omega⟩ (r_Md_text (V := fun T => cw L T (f31 (S.1 31) q.2)) (cw_okT L (f31 (S.1 31) q.2)) h2) ?_ hc
  show G _ _ _ _ _ _ _ _ _ [.int p.1, .int q.1] (cw L p.2 (f31 (S.1 31) q.2))
  refine g_icmp_eq (tgt := 1819) (pc := 375) dL_law_375 (by decide) (fun _ => ?_) (fun c => absurd he c)
  exact kk
set_option maxRecDepth 4000 in
theorem lo_4 {l : Launch} {Γ : Gm} {R : Room} {Q : QT} {cells slots : Nat} {L : Sc} {T S : Sm} {i : Int32} (hR : RmL R) (hb1 : inb (i + 1) L.1) (hb2 : inb (i + 2) L.1) (hb3 : inb (i + 3) L.1) {q : Int32 × Sm} (h1 : Dk_dark (L.2 (ix (i + 1))) (L.2 (ix (i + 2))) (L.2 (ix (i + 3))) S = some q) {p : Int32 × Sm} (h2 : Md_dark (L.2 (ix (i + 1))) (L.2 (ix (i + 2))) (L.2 (ix (i + 3))) T = some p) (he : q.1 = p.1) (hc : cells ≤ R.cells ∧ slots ≤ R.slots) (kk : G mL_law l Γ R Q (cells) (slots) 1819 [some (.ref 6), some (.ref 7), some (.ref 53), some (.ref 90), some (.int i), none, none] [] (cw L p.2 (f31 (S.1 31) q.2))) : G mL_law l Γ R Q cells slots 380 [some (.ref 6), some (.ref 7), some (.ref 53), some (.ref 90), some (.int i), none, none] [] (cw L T S) := by
  obtain ⟨r1, r2, r3, r4⟩ := hR
  refine g_aload_n (pc := 380) dL_law_380 rfl ?_
  refine g_aload_n (pc := 381) dL_law_381 rfl ?_
  refine g_iload (pc := 382) dL_law_382 rfl ?_
  refine g_iconst (v := 1) (pc := 384) dL_law_384 (by decide) ?_
  refine g_iadd (pc := 385) dL_law_385 ?_
  refine l_iald (pc := 386) dL_law_386 hb1 ?_
  refine g_aload_n (pc := 387) dL_law_387 rfl ?_
  refine g_iload (pc := 388) dL_law_388 rfl ?_
  refine g_iconst (v := 2) (pc := 390) dL_law_390 (by decide) ?_
  refine g_iadd (pc := 391) dL_law_391 ?_
  refine l_iald (pc := 392) dL_law_392 hb2 ?_
  refine g_aload_n (pc := 393) dL_law_393 rfl ?_
  refine g_iload (pc := 394) dL_law_394 rfl ?_
  refine g_iconst (v := 3) (pc := 396) dL_law_396 (by decide) ?_
  refine g_iadd (pc := 397) dL_law_397 ?_
  refine l_iald (pc := 398) dL_law_398 hb3 ?_
  rw [← cwf_self L T S]
  refine k_callVi (cwf_ok L T (S.1 31)) (S := S) (Mc := mX11_dark) (v := q.1) (S1 := q.2) (As := [.int (L.2 (ix (i + 1))), .int (L.2 (ix (i + 2))), .int (L.2 (ix (i + 3)))]) (rest := []) (q := (RX11, TX11, 12)) (pc := 399) dL_law_399 mK_L_38 mf_X11_dark rfl k0_7 rfl rfl rfl (Nat.le_of_ble_eq_true rfl) ⟨by omega, by show 8 + (4 + 11) + 64 * 5 ≤ R.locals; omega⟩ (r_Dk_dark (cwf_ok L T (S.1 31)) h1) ?_ hc
  show G _ _ _ _ _ _ _ _ _ [.int q.1] (cw L T (f31 (S.1 31) q.2))
  refine g_aload_n (pc := 402) dL_law_402 rfl ?_
  refine g_aload_n (pc := 403) dL_law_403 rfl ?_
  refine g_iload (pc := 404) dL_law_404 rfl ?_
  refine g_iconst (v := 1) (pc := 406) dL_law_406 (by decide) ?_
  refine g_iadd (pc := 407) dL_law_407 ?_
  refine l_iald (pc := 408) dL_law_408 hb1 ?_
  refine g_aload_n (pc := 409) dL_law_409 rfl ?_
  refine g_iload (pc := 410) dL_law_410 rfl ?_
  refine g_iconst (v := 2) (pc := 412) dL_law_412 (by decide) ?_
  refine g_iadd (pc := 413) dL_law_413 ?_
  refine l_iald (pc := 414) dL_law_414 hb2 ?_
  refine g_aload_n (pc := 415) dL_law_415 rfl ?_
  refine g_iload (pc := 416) dL_law_416 rfl ?_
  refine g_iconst (v := 3) (pc := 418) dL_law_418 (by decide) ?_
  refine g_iadd (pc := 419) dL_law_419 ?_
  refine l_iald (pc := 420) dL_law_420 hb3 ?_
  refine k_callVi (V := fun T => cw L T (f31 (S.1 31) q.2)) (cw_okT L (f31 (S.1 31) q.2)) (S := T) (Mc := mX12_dark) (v := p.1) (S1 := p.2) (As := [.int (L.2 (ix (i + 1))), .int (L.2 (ix (i + 2))), .int (L.2 (ix (i + 3)))]) (rest := [.int q.1]) (q := (RX12, TX12, 58)) (pc := 421) dL_law_421 mK_L_42 mf_X12_dark rfl k0_53 rfl rfl rfl (Nat.le_of_ble_eq_true rfl) ⟨by omega, by show 8 + (5 + 11) + 64 * 6 ≤ R.locals; omega⟩ (r_Md_dark (V := fun T => cw L T (f31 (S.1 31) q.2)) (cw_okT L (f31 (S.1 31) q.2)) h2) ?_ hc
  show G _ _ _ _ _ _ _ _ _ [.int p.1, .int q.1] (cw L p.2 (f31 (S.1 31) q.2))
  refine g_icmp_eq (tgt := 1819) (pc := 424) dL_law_424 (by decide) (fun _ => ?_) (fun c => absurd he c)
  exact kk
set_option maxRecDepth 4000 in
theorem lo_6 {l : Launch} {Γ : Gm} {R : Room} {Q : QT} {cells slots : Nat} {L : Sc} {T S : Sm} {i : Int32} (hR : RmL R) (hb1 : inb (i + 1) L.1) {q : Int32} (h1 : Dk_guards (L.2 (ix (i + 1))) S = q) {p : Int32} (h2 : Md_guards (L.2 (ix (i + 1))) T = some p) (he : q = p) (hc : cells ≤ R.cells ∧ slots ≤ R.slots) (kk : G mL_law l Γ R Q (cells) (slots) 1819 [some (.ref 6), some (.ref 7), some (.ref 53), some (.ref 90), some (.int i), none, none] [] (cw L T S)) : G mL_law l Γ R Q cells slots 497 [some (.ref 6), some (.ref 7), some (.ref 53), some (.ref 90), some (.int i), none, none] [] (cw L T S) := by
  obtain ⟨r1, r2, r3, r4⟩ := hR
  refine g_aload_n (pc := 497) dL_law_497 rfl ?_
  refine g_aload_n (pc := 498) dL_law_498 rfl ?_
  refine g_iload (pc := 499) dL_law_499 rfl ?_
  refine g_iconst (v := 1) (pc := 501) dL_law_501 (by decide) ?_
  refine g_iadd (pc := 502) dL_law_502 ?_
  refine l_iald (pc := 503) dL_law_503 hb1 ?_
  refine k_callVi (cw_ok L T) (S := S) (Mc := mX11_guards) (v := q) (S1 := S) (As := [.int (L.2 (ix (i + 1)))]) (rest := []) (q := (RX11, TX11, 12)) (pc := 504) dL_law_504 mK_L_53 mf_X11_guards rfl k0_7 rfl rfl rfl (Nat.le_of_ble_eq_true rfl) ⟨by omega, by show 8 + (2 + 11) + 64 * 3 ≤ R.locals; omega⟩ (r_Dk_guards (cw_ok L T) h1) ?_ hc
  refine g_aload_n (pc := 507) dL_law_507 rfl ?_
  refine g_aload_n (pc := 508) dL_law_508 rfl ?_
  refine g_iload (pc := 509) dL_law_509 rfl ?_
  refine g_iconst (v := 1) (pc := 511) dL_law_511 (by decide) ?_
  refine g_iadd (pc := 512) dL_law_512 ?_
  refine l_iald (pc := 513) dL_law_513 hb1 ?_
  refine k_callVi (V := fun T => cw L T S) (cw_okT L S) (S := T) (Mc := mX12_guards) (v := p) (S1 := T) (As := [.int (L.2 (ix (i + 1)))]) (rest := [.int q]) (q := (RX12, TX12, 58)) (pc := 514) dL_law_514 mK_L_56 mf_X12_guards rfl k0_53 rfl rfl rfl (Nat.le_of_ble_eq_true rfl) ⟨by omega, by show 8 + (2 + 11) + 64 * 2 ≤ R.locals; omega⟩ (r_Md_guards (V := fun T => cw L T S) (cw_okT L S) h2) ?_ hc
  show G _ _ _ _ _ _ _ _ _ [.int p, .int q] (cw L T S)
  refine g_icmp_eq (tgt := 1819) (pc := 517) dL_law_517 (by decide) (fun _ => ?_) (fun c => absurd he c)
  exact kk
set_option maxRecDepth 4000 in
theorem lo_7 {l : Launch} {Γ : Gm} {R : Room} {Q : QT} {cells slots : Nat} {L : Sc} {T S : Sm} {i : Int32} (hR : RmL R) (hb1 : inb (i + 1) L.1) {q : Int32 × Sm} (h1 : Dk_law (L.2 (ix (i + 1))) S = q) {p : Int32 × Sm} (h2 : Md_law (L.2 (ix (i + 1))) T = p) (he : q.1 = p.1) (hc : cells ≤ R.cells ∧ slots ≤ R.slots) (kk : G mL_law l Γ R Q (cells) (slots) 1819 [some (.ref 6), some (.ref 7), some (.ref 53), some (.ref 90), some (.int i), none, none] [] (cw L p.2 (f31 (S.1 31) q.2))) : G mL_law l Γ R Q cells slots 522 [some (.ref 6), some (.ref 7), some (.ref 53), some (.ref 90), some (.int i), none, none] [] (cw L T S) := by
  obtain ⟨r1, r2, r3, r4⟩ := hR
  refine g_aload_n (pc := 522) dL_law_522 rfl ?_
  refine g_aload_n (pc := 523) dL_law_523 rfl ?_
  refine g_iload (pc := 524) dL_law_524 rfl ?_
  refine g_iconst (v := 1) (pc := 526) dL_law_526 (by decide) ?_
  refine g_iadd (pc := 527) dL_law_527 ?_
  refine l_iald (pc := 528) dL_law_528 hb1 ?_
  rw [← cwf_self L T S]
  refine k_callVi (cwf_ok L T (S.1 31)) (S := S) (Mc := mX11_law) (v := q.1) (S1 := q.2) (As := [.int (L.2 (ix (i + 1)))]) (rest := []) (q := (RX11, TX11, 12)) (pc := 529) dL_law_529 mK_L_57 mf_X11_law rfl k0_7 rfl rfl rfl (Nat.le_of_ble_eq_true rfl) ⟨by omega, by show 8 + (2 + 11) + 64 * 1 ≤ R.locals; omega⟩ (r_Dk_law (cwf_ok L T (S.1 31)) h1) ?_ hc
  show G _ _ _ _ _ _ _ _ _ [.int q.1] (cw L T (f31 (S.1 31) q.2))
  refine g_aload_n (pc := 532) dL_law_532 rfl ?_
  refine g_aload_n (pc := 533) dL_law_533 rfl ?_
  refine g_iload (pc := 534) dL_law_534 rfl ?_
  refine g_iconst (v := 1) (pc := 536) dL_law_536 (by decide) ?_
  refine g_iadd (pc := 537) dL_law_537 ?_
  refine l_iald (pc := 538) dL_law_538 hb1 ?_
  refine k_callVi (V := fun T => cw L T (f31 (S.1 31) q.2)) (cw_okT L (f31 (S.1 31) q.2)) (S := T) (Mc := mX12_law) (v := p.1) (S1 := p.2) (As := [.int (L.2 (ix (i + 1)))]) (rest := [.int q.1]) (q := (RX12, TX12, 58)) (pc := 539) dL_law_539 mK_L_60 mf_X12_law rfl k0_53 rfl rfl rfl (Nat.le_of_ble_eq_true rfl) ⟨by omega, by show 8 + (2 + 11) + 64 * 1 ≤ R.locals; omega⟩ (r_Md_law (V := fun T => cw L T (f31 (S.1 31) q.2)) (cw_okT L (f31 (S.1 31) q.2)) h2) ?_ hc
  show G _ _ _ _ _ _ _ _ _ [.int p.1, .int q.1] (cw L p.2 (f31 (S.1 31) q.2))
  refine g_icmp_eq (tgt := 1819) (pc := 542) dL_law_542 (by decide) (fun _ => ?_) (fun c => absurd he c)
  exact kk
set_option maxRecDepth 4000 in
theorem lo_8 {l : Launch} {Γ : Gm} {R : Room} {Q : QT} {cells slots : Nat} {L : Sc} {T S : Sm} {i : Int32} (hR : RmL R) (hb1 : inb (i + 1) L.1) (hb2 : inb (i + 2) L.1) (hb3 : inb (i + 3) L.1) {q : Int32 × Sm} (h1 : Dk_sent (L.2 (ix (i + 1))) (L.2 (ix (i + 2))) (L.2 (ix (i + 3))) S = some q) {p : Int32 × Sm} (h2 : Md_sent (L.2 (ix (i + 1))) (L.2 (ix (i + 2))) (L.2 (ix (i + 3))) T = some p) (he : q.1 = p.1) (hc : cells + (kcS S) ≤ R.cells ∧ slots + (ksS S) ≤ R.slots) (kk : G mL_law l Γ R Q (cells + (kcS S)) (slots + (ksS S)) 1819 [some (.ref 6), some (.ref 7), some (.ref 53), some (.ref 90), some (.int i), none, none] [] (cw L p.2 q.2)) : G mL_law l Γ R Q cells slots 547 [some (.ref 6), some (.ref 7), some (.ref 53), some (.ref 90), some (.int i), none, none] [] (cw L T S) := by
  obtain ⟨r1, r2, r3, r4⟩ := hR
  refine g_aload_n (pc := 547) dL_law_547 rfl ?_
  refine g_aload_n (pc := 548) dL_law_548 rfl ?_
  refine g_iload (pc := 549) dL_law_549 rfl ?_
  refine g_iconst (v := 1) (pc := 551) dL_law_551 (by decide) ?_
  refine g_iadd (pc := 552) dL_law_552 ?_
  refine l_iald (pc := 553) dL_law_553 hb1 ?_
  refine g_aload_n (pc := 554) dL_law_554 rfl ?_
  refine g_iload (pc := 555) dL_law_555 rfl ?_
  refine g_iconst (v := 2) (pc := 557) dL_law_557 (by decide) ?_
  refine g_iadd (pc := 558) dL_law_558 ?_
  refine l_iald (pc := 559) dL_law_559 hb2 ?_
  refine g_aload_n (pc := 560) dL_law_560 rfl ?_
  refine g_iload (pc := 561) dL_law_561 rfl ?_
  refine g_iconst (v := 3) (pc := 563) dL_law_563 (by decide) ?_
  refine g_iadd (pc := 564) dL_law_564 ?_
  refine l_iald (pc := 565) dL_law_565 hb3 ?_
  refine g_callV (Mc := mX11_sent) (As := [.int (L.2 (ix (i + 1))), .int (L.2 (ix (i + 2))), .int (L.2 (ix (i + 3)))]) (rest := []) (b := 7) (q := (RX11, TX11, 12)) (pc := 566) dL_law_566 mK_L_61 mf_X11_sent.1 mf_X11_sent.2.1 mf_X11_sent.2.2 rfl rfl rfl rfl rfl (Nat.le_of_ble_eq_true rfl) ⟨by omega, by show 8 + (4 + 11) + 64 * 4 ≤ R.locals; omega⟩ hc (r_Dk_sent h1) ?_
  show G _ _ _ _ _ _ _ _ _ [.int q.1] _
  refine g_aload_n (pc := 569) dL_law_569 rfl ?_
  refine g_aload_n (pc := 570) dL_law_570 rfl ?_
  refine g_iload (pc := 571) dL_law_571 rfl ?_
  refine g_iconst (v := 1) (pc := 573) dL_law_573 (by decide) ?_
  refine g_iadd (pc := 574) dL_law_574 ?_
  refine l_iald (pc := 575) dL_law_575 hb1 ?_
  refine g_aload_n (pc := 576) dL_law_576 rfl ?_
  refine g_iload (pc := 577) dL_law_577 rfl ?_
  refine g_iconst (v := 2) (pc := 579) dL_law_579 (by decide) ?_
  refine g_iadd (pc := 580) dL_law_580 ?_
  refine l_iald (pc := 581) dL_law_581 hb2 ?_
  refine g_aload_n (pc := 582) dL_law_582 rfl ?_
  refine g_iload (pc := 583) dL_law_583 rfl ?_
  refine g_iconst (v := 3) (pc := 585) dL_law_585 (by decide) ?_
  refine g_iadd (pc := 586) dL_law_586 ?_
  refine l_iald (pc := 587) dL_law_587 hb3 ?_
  refine k_callVi (V := fun T => cw L T q.2) (cw_okT L q.2) (S := T) (Mc := mX12_sent) (v := p.1) (S1 := p.2) (As := [.int (L.2 (ix (i + 1))), .int (L.2 (ix (i + 2))), .int (L.2 (ix (i + 3)))]) (rest := [.int q.1]) (q := (RX12, TX12, 58)) (pc := 588) dL_law_588 mK_L_64 mf_X12_sent rfl k0_53 rfl rfl rfl (Nat.le_of_ble_eq_true rfl) ⟨by omega, by show 8 + (4 + 11) + 64 * 3 ≤ R.locals; omega⟩ (r_Md_sent (V := fun T => cw L T q.2) (cw_okT L q.2) h2) ?_ hc
  show G _ _ _ _ _ _ _ _ _ [.int p.1, .int q.1] (cw L p.2 q.2)
  refine g_icmp_eq (tgt := 1819) (pc := 591) dL_law_591 (by decide) (fun _ => ?_) (fun c => absurd he c)
  exact kk
set_option maxRecDepth 4000 in
theorem lo_9 {l : Launch} {Γ : Gm} {R : Room} {Q : QT} {cells slots : Nat} {L : Sc} {T S : Sm} {i : Int32} (hR : RmL R) (hb1 : inb (i + 1) L.1) (hb2 : inb (i + 2) L.1) {q : Int32 × Sm} (h1 : Dk_lamp (L.2 (ix (i + 1))) (L.2 (ix (i + 2))) S = some q) {p : Int32 × Sm} (h2 : Md_lamp (L.2 (ix (i + 1))) (L.2 (ix (i + 2))) T = some p) (he : q.1 = p.1) (hc : cells + (kcS S) ≤ R.cells ∧ slots + (ksS S) ≤ R.slots) (kk : G mL_law l Γ R Q (cells + (kcS S)) (slots + (ksS S)) 1819 [some (.ref 6), some (.ref 7), some (.ref 53), some (.ref 90), some (.int i), none, none] [] (cw L p.2 q.2)) : G mL_law l Γ R Q cells slots 596 [some (.ref 6), some (.ref 7), some (.ref 53), some (.ref 90), some (.int i), none, none] [] (cw L T S) := by
  obtain ⟨r1, r2, r3, r4⟩ := hR
  refine g_aload_n (pc := 596) dL_law_596 rfl ?_
  refine g_aload_n (pc := 597) dL_law_597 rfl ?_
  refine g_iload (pc := 598) dL_law_598 rfl ?_
  refine g_iconst (v := 1) (pc := 600) dL_law_600 (by decide) ?_
  refine g_iadd (pc := 601) dL_law_601 ?_
  refine l_iald (pc := 602) dL_law_602 hb1 ?_
  refine g_aload_n (pc := 603) dL_law_603 rfl ?_
  refine g_iload (pc := 604) dL_law_604 rfl ?_
  refine g_iconst (v := 2) (pc := 606) dL_law_606 (by decide) ?_
  refine g_iadd (pc := 607) dL_law_607 ?_
  refine l_iald (pc := 608) dL_law_608 hb2 ?_
  refine g_callV (Mc := mX11_lamp) (As := [.int (L.2 (ix (i + 1))), .int (L.2 (ix (i + 2)))]) (rest := []) (b := 7) (q := (RX11, TX11, 12)) (pc := 609) dL_law_609 mK_L_65 mf_X11_lamp.1 mf_X11_lamp.2.1 mf_X11_lamp.2.2 rfl rfl rfl rfl rfl (Nat.le_of_ble_eq_true rfl) ⟨by omega, by show 8 + (4 + 11) + 64 * 4 ≤ R.locals; omega⟩ hc (r_Dk_lamp h1) ?_
  show G _ _ _ _ _ _ _ _ _ [.int q.1] _
  refine g_aload_n (pc := 612) dL_law_612 rfl ?_
  refine g_aload_n (pc := 613) dL_law_613 rfl ?_
  refine g_iload (pc := 614) dL_law_614 rfl ?_
  refine g_iconst (v := 1) (pc := 616) dL_law_616 (by decide) ?_
  refine g_iadd (pc := 617) dL_law_617 ?_
  refine l_iald (pc := 618) dL_law_618 hb1 ?_
  refine g_aload_n (pc := 619) dL_law_619 rfl ?_
  refine g_iload (pc := 620) dL_law_620 rfl ?_
  refine g_iconst (v := 2) (pc := 622) dL_law_622 (by decide) ?_
  refine g_iadd (pc := 623) dL_law_623 ?_
  refine l_iald (pc := 624) dL_law_624 hb2 ?_
  refine k_callVi (V := fun T => cw L T q.2) (cw_okT L q.2) (S := T) (Mc := mX12_lamp) (v := p.1) (S1 := p.2) (As := [.int (L.2 (ix (i + 1))), .int (L.2 (ix (i + 2)))]) (rest := [.int q.1]) (q := (RX12, TX12, 58)) (pc := 625) dL_law_625 mK_L_68 mf_X12_lamp rfl k0_53 rfl rfl rfl (Nat.le_of_ble_eq_true rfl) ⟨by omega, by show 8 + (4 + 11) + 64 * 3 ≤ R.locals; omega⟩ (r_Md_lamp (V := fun T => cw L T q.2) (cw_okT L q.2) h2) ?_ hc
  show G _ _ _ _ _ _ _ _ _ [.int p.1, .int q.1] (cw L p.2 q.2)
  refine g_icmp_eq (tgt := 1819) (pc := 628) dL_law_628 (by decide) (fun _ => ?_) (fun c => absurd he c)
  exact kk
set_option maxRecDepth 4000 in
theorem lo_10 {l : Launch} {Γ : Gm} {R : Room} {Q : QT} {cells slots : Nat} {L : Sc} {T S : Sm} {i : Int32} (hR : RmL R) (hb1 : inb (i + 1) L.1) (hb2 : inb (i + 2) L.1) (hb3 : inb (i + 3) L.1) {q : Int32 × Sm} (h1 : Dk_show (L.2 (ix (i + 1))) (L.2 (ix (i + 2))) (L.2 (ix (i + 3))) S = some q) {p : Int32 × Sm} (h2 : Md_show (L.2 (ix (i + 1))) (L.2 (ix (i + 2))) (L.2 (ix (i + 3))) T = some p) (he : q.1 = p.1) (hc : cells + (kcS S) ≤ R.cells ∧ slots + (ksS S) ≤ R.slots) (kk : G mL_law l Γ R Q (cells + (kcS S)) (slots + (ksS S)) 1819 [some (.ref 6), some (.ref 7), some (.ref 53), some (.ref 90), some (.int i), none, none] [] (cw L p.2 q.2)) : G mL_law l Γ R Q cells slots 633 [some (.ref 6), some (.ref 7), some (.ref 53), some (.ref 90), some (.int i), none, none] [] (cw L T S) := by
  obtain ⟨r1, r2, r3, r4⟩ := hR
  refine g_aload_n (pc := 633) dL_law_633 rfl ?_
  refine g_aload_n (pc := 634) dL_law_634 rfl ?_
  refine g_iload (pc := 635) dL_law_635 rfl ?_
  refine g_iconst (v := 1) (pc := 637) dL_law_637 (by decide) ?_
  refine g_iadd (pc := 638) dL_law_638 ?_
  refine l_iald (pc := 639) dL_law_639 hb1 ?_
  refine g_aload_n (pc := 640) dL_law_640 rfl ?_
  refine g_iload (pc := 641) dL_law_641 rfl ?_
  refine g_iconst (v := 2) (pc := 643) dL_law_643 (by decide) ?_
  refine g_iadd (pc := 644) dL_law_644 ?_
  refine l_iald (pc := 645) dL_law_645 hb2 ?_
  refine g_aload_n (pc := 646) dL_law_646 rfl ?_
  refine g_iload (pc := 647) dL_law_647 rfl ?_
  refine g_iconst (v := 3) (pc := 649) dL_law_649 (by decide) ?_
  refine g_iadd (pc := 650) dL_law_650 ?_
  refine l_iald (pc := 651) dL_law_651 hb3 ?_
  refine g_callV (Mc := mX11_show) (As := [.int (L.2 (ix (i + 1))), .int (L.2 (ix (i + 2))), .int (L.2 (ix (i + 3)))]) (rest := []) (b := 7) (q := (RX11, TX11, 12)) (pc := 652) dL_law_652 mK_L_69 mf_X11_show.1 mf_X11_show.2.1 mf_X11_show.2.2 rfl rfl rfl rfl rfl (Nat.le_of_ble_eq_true rfl) ⟨by omega, by show 8 + (5 + 11) + 64 * 4 ≤ R.locals; omega⟩ hc (r_Dk_show h1) ?_
  show G _ _ _ _ _ _ _ _ _ [.int q.1] _
  refine g_aload_n (pc := 655) dL_law_655 rfl ?_
  refine g_aload_n (pc := 656) dL_law_656 rfl ?_
  refine g_iload (pc := 657) dL_law_657 rfl ?_
  refine g_iconst (v := 1) (pc := 659) dL_law_659 (by decide) ?_
  refine g_iadd (pc := 660) dL_law_660 ?_
  refine l_iald (pc := 661) dL_law_661 hb1 ?_
  refine g_aload_n (pc := 662) dL_law_662 rfl ?_
  refine g_iload (pc := 663) dL_law_663 rfl ?_
  refine g_iconst (v := 2) (pc := 665) dL_law_665 (by decide) ?_
  refine g_iadd (pc := 666) dL_law_666 ?_
  refine l_iald (pc := 667) dL_law_667 hb2 ?_
  refine g_aload_n (pc := 668) dL_law_668 rfl ?_
  refine g_iload (pc := 669) dL_law_669 rfl ?_
  refine g_iconst (v := 3) (pc := 671) dL_law_671 (by decide) ?_
  refine g_iadd (pc := 672) dL_law_672 ?_
  refine l_iald (pc := 673) dL_law_673 hb3 ?_
  refine k_callVi (V := fun T => cw L T q.2) (cw_okT L q.2) (S := T) (Mc := mX12_show) (v := p.1) (S1 := p.2) (As := [.int (L.2 (ix (i + 1))), .int (L.2 (ix (i + 2))), .int (L.2 (ix (i + 3)))]) (rest := [.int q.1]) (q := (RX12, TX12, 58)) (pc := 674) dL_law_674 mK_L_72 mf_X12_show rfl k0_53 rfl rfl rfl (Nat.le_of_ble_eq_true rfl) ⟨by omega, by show 8 + (7 + 11) + 64 * 2 ≤ R.locals; omega⟩ (r_Md_show (V := fun T => cw L T q.2) (cw_okT L q.2) h2) ?_ hc
  show G _ _ _ _ _ _ _ _ _ [.int p.1, .int q.1] (cw L p.2 q.2)
  refine g_icmp_eq (tgt := 1819) (pc := 677) dL_law_677 (by decide) (fun _ => ?_) (fun c => absurd he c)
  exact kk
set_option maxRecDepth 4000 in
theorem lo_11 {l : Launch} {Γ : Gm} {R : Room} {Q : QT} {cells slots : Nat} {L : Sc} {T S : Sm} {i : Int32} (hR : RmL R) (hb1 : inb (i + 1) L.1) (hb2 : inb (i + 2) L.1) {q : Int32 × Sm} (h1 : Dk_guard (L.2 (ix (i + 1))) (if L.2 (ix (i + 2)) = 0 then 0 else 1) S = some q) {p : Int32 × Sm} (h2 : Md_guard (L.2 (ix (i + 1))) (if L.2 (ix (i + 2)) = 0 then 0 else 1) T = some p) (he : q.1 = p.1) (hc : cells + (kcS S) ≤ R.cells ∧ slots + (ksS S) ≤ R.slots) (kk : G mL_law l Γ R Q (cells + (kcS S)) (slots + (ksS S)) 1819 [some (.ref 6), some (.ref 7), some (.ref 53), some (.ref 90), some (.int i), none, none] [] (cw L p.2 q.2)) : G mL_law l Γ R Q cells slots 682 [some (.ref 6), some (.ref 7), some (.ref 53), some (.ref 90), some (.int i), none, none] [] (cw L T S) := by
  obtain ⟨r1, r2, r3, r4⟩ := hR
  refine g_aload_n (pc := 682) dL_law_682 rfl ?_
  refine g_aload_n (pc := 683) dL_law_683 rfl ?_
  refine g_iload (pc := 684) dL_law_684 rfl ?_
  refine g_iconst (v := 1) (pc := 686) dL_law_686 (by decide) ?_
  refine g_iadd (pc := 687) dL_law_687 ?_
  refine l_iald (pc := 688) dL_law_688 hb1 ?_
  refine g_aload_n (pc := 689) dL_law_689 rfl ?_
  refine g_iload (pc := 690) dL_law_690 rfl ?_
  refine g_iconst (v := 2) (pc := 692) dL_law_692 (by decide) ?_
  refine g_iadd (pc := 693) dL_law_693 ?_
  refine l_iald (pc := 694) dL_law_694 hb2 ?_
  refine l_ne0 (p4 := 703) (pc := 695) dL_law_695 dL_law_698 dL_law_699 dL_law_702 ⟨rfl, rfl, rfl, rfl⟩ ?_
  refine g_callV (Mc := mX11_guard) (As := [.int (L.2 (ix (i + 1))), .int (if L.2 (ix (i + 2)) = 0 then 0 else 1)]) (rest := []) (b := 7) (q := (RX11, TX11, 12)) (pc := 703) dL_law_703 mK_L_73 mf_X11_guard.1 mf_X11_guard.2.1 mf_X11_guard.2.2 rfl rfl rfl rfl rfl (Nat.le_of_ble_eq_true rfl) ⟨by omega, by show 8 + (4 + 11) + 64 * 4 ≤ R.locals; omega⟩ hc (r_Dk_guard h1) ?_
  show G _ _ _ _ _ _ _ _ _ [.int q.1] _
  refine g_aload_n (pc := 706) dL_law_706 rfl ?_
  refine g_aload_n (pc := 707) dL_law_707 rfl ?_
  refine g_iload (pc := 708) dL_law_708 rfl ?_
  refine g_iconst (v := 1) (pc := 710) dL_law_710 (by decide) ?_
  refine g_iadd (pc := 711) dL_law_711 ?_
  refine l_iald (pc := 712) dL_law_712 hb1 ?_
  refine g_aload_n (pc := 713) dL_law_713 rfl ?_
  refine g_iload (pc := 714) dL_law_714 rfl ?_
  refine g_iconst (v := 2) (pc := 716) dL_law_716 (by decide) ?_
  refine g_iadd (pc := 717) dL_law_717 ?_
  refine l_iald (pc := 718) dL_law_718 hb2 ?_
  refine l_ne0 (p4 := 727) (pc := 719) dL_law_719 dL_law_722 dL_law_723 dL_law_726 ⟨rfl, rfl, rfl, rfl⟩ ?_
  refine k_callVi (V := fun T => cw L T q.2) (cw_okT L q.2) (S := T) (Mc := mX12_guard) (v := p.1) (S1 := p.2) (As := [.int (L.2 (ix (i + 1))), .int (if L.2 (ix (i + 2)) = 0 then 0 else 1)]) (rest := [.int q.1]) (q := (RX12, TX12, 58)) (pc := 727) dL_law_727 mK_L_77 mf_X12_guard rfl k0_53 rfl rfl rfl (Nat.le_of_ble_eq_true rfl) ⟨by omega, by show 8 + (3 + 11) + 64 * 2 ≤ R.locals; omega⟩ (r_Md_guard (V := fun T => cw L T q.2) (cw_okT L q.2) h2) ?_ hc
  show G _ _ _ _ _ _ _ _ _ [.int p.1, .int q.1] (cw L p.2 q.2)
  refine g_icmp_eq (tgt := 1819) (pc := 730) dL_law_730 (by decide) (fun _ => ?_) (fun c => absurd he c)
  exact kk
set_option maxRecDepth 4000 in
theorem lo_12 {l : Launch} {Γ : Gm} {R : Room} {Q : QT} {cells slots : Nat} {L : Sc} {T S : Sm} {i : Int32} (hR : RmL R) (hb1 : inb (i + 1) L.1) {q : Int32 × Sm} (h1 : Dk_go (L.2 (ix (i + 1))) S = some q) {p : Int32 × Sm} (h2 : Md_go (L.2 (ix (i + 1))) T = some p) (he : q.1 = p.1) (hc : cells + (mcS S q.2) ≤ R.cells ∧ slots + (msS S q.2) ≤ R.slots) (kk : G mL_law l Γ R Q (cells + (mcS S q.2)) (slots + (msS S q.2)) 1819 [some (.ref 6), some (.ref 7), some (.ref 53), some (.ref 90), some (.int i), none, none] [] (cw L p.2 q.2)) : G mL_law l Γ R Q cells slots 735 [some (.ref 6), some (.ref 7), some (.ref 53), some (.ref 90), some (.int i), none, none] [] (cw L T S) := by
  obtain ⟨r1, r2, r3, r4⟩ := hR
  refine g_aload_n (pc := 735) dL_law_735 rfl ?_
  refine g_aload_n (pc := 736) dL_law_736 rfl ?_
  refine g_iload (pc := 737) dL_law_737 rfl ?_
  refine g_iconst (v := 1) (pc := 739) dL_law_739 (by decide) ?_
  refine g_iadd (pc := 740) dL_law_740 ?_
  refine l_iald (pc := 741) dL_law_741 hb1 ?_
  refine g_callV (Mc := mX11_go) (As := [.int (L.2 (ix (i + 1)))]) (rest := []) (b := 7) (q := (RX11, TX11, 12)) (pc := 742) dL_law_742 mK_L_78 mf_X11_go.1 mf_X11_go.2.1 mf_X11_go.2.2 rfl rfl rfl rfl rfl (Nat.le_of_ble_eq_true rfl) ⟨by omega, by show 8 + (2 + 11) + 64 * 7 ≤ R.locals; omega⟩ hc (r_Dk_go h1) ?_
  show G _ _ _ _ _ _ _ _ _ [.int q.1] _
  refine g_aload_n (pc := 745) dL_law_745 rfl ?_
  refine g_aload_n (pc := 746) dL_law_746 rfl ?_
  refine g_iload (pc := 747) dL_law_747 rfl ?_
  refine g_iconst (v := 1) (pc := 749) dL_law_749 (by decide) ?_
  refine g_iadd (pc := 750) dL_law_750 ?_
  refine l_iald (pc := 751) dL_law_751 hb1 ?_
  refine k_callVi (V := fun T => cw L T q.2) (cw_okT L q.2) (S := T) (Mc := mX12_go) (v := p.1) (S1 := p.2) (As := [.int (L.2 (ix (i + 1)))]) (rest := [.int q.1]) (q := (RX12, TX12, 58)) (pc := 752) dL_law_752 mK_L_81 mf_X12_go rfl k0_53 rfl rfl rfl (Nat.le_of_ble_eq_true rfl) ⟨by omega, by show 8 + (3 + 11) + 64 * 3 ≤ R.locals; omega⟩ (r_Md_go (V := fun T => cw L T q.2) (cw_okT L q.2) h2) ?_ hc
  show G _ _ _ _ _ _ _ _ _ [.int p.1, .int q.1] (cw L p.2 q.2)
  refine g_icmp_eq (tgt := 1819) (pc := 755) dL_law_755 (by decide) (fun _ => ?_) (fun c => absurd he c)
  exact kk
set_option maxRecDepth 4000 in
theorem lo_13 {l : Launch} {Γ : Gm} {R : Room} {Q : QT} {cells slots : Nat} {L : Sc} {T S : Sm} {i : Int32} (hR : RmL R) (hb1 : inb (i + 1) L.1) {q : Int32 × Sm} (h1 : Dk_fogs (L.2 (ix (i + 1))) S = q) {p : Int32 × Sm} (h2 : Md_fogs (L.2 (ix (i + 1))) T = p) (he : q.1 = p.1) (hc : cells ≤ R.cells ∧ slots ≤ R.slots) (kk : G mL_law l Γ R Q (cells) (slots) 1819 [some (.ref 6), some (.ref 7), some (.ref 53), some (.ref 90), some (.int i), none, none] [] (cw L p.2 (f31 (S.1 31) q.2))) : G mL_law l Γ R Q cells slots 760 [some (.ref 6), some (.ref 7), some (.ref 53), some (.ref 90), some (.int i), none, none] [] (cw L T S) := by
  obtain ⟨r1, r2, r3, r4⟩ := hR
  refine g_aload_n (pc := 760) dL_law_760 rfl ?_
  refine g_aload_n (pc := 761) dL_law_761 rfl ?_
  refine g_iload (pc := 762) dL_law_762 rfl ?_
  refine g_iconst (v := 1) (pc := 764) dL_law_764 (by decide) ?_
  refine g_iadd (pc := 765) dL_law_765 ?_
  refine l_iald (pc := 766) dL_law_766 hb1 ?_
  rw [← cwf_self L T S]
  refine k_callVi (cwf_ok L T (S.1 31)) (S := S) (Mc := mX11_fogs) (v := q.1) (S1 := q.2) (As := [.int (L.2 (ix (i + 1)))]) (rest := []) (q := (RX11, TX11, 12)) (pc := 767) dL_law_767 mK_L_82 mf_X11_fogs rfl k0_7 rfl rfl rfl (Nat.le_of_ble_eq_true rfl) ⟨by omega, by show 8 + (2 + 11) + 64 * 1 ≤ R.locals; omega⟩ (r_Dk_fogs (cwf_ok L T (S.1 31)) h1) ?_ hc
  show G _ _ _ _ _ _ _ _ _ [.int q.1] (cw L T (f31 (S.1 31) q.2))
  refine g_aload_n (pc := 770) dL_law_770 rfl ?_
  refine g_aload_n (pc := 771) dL_law_771 rfl ?_
  refine g_iload (pc := 772) dL_law_772 rfl ?_
  refine g_iconst (v := 1) (pc := 774) dL_law_774 (by decide) ?_
  refine g_iadd (pc := 775) dL_law_775 ?_
  refine l_iald (pc := 776) dL_law_776 hb1 ?_
  refine k_callVi (V := fun T => cw L T (f31 (S.1 31) q.2)) (cw_okT L (f31 (S.1 31) q.2)) (S := T) (Mc := mX12_fogs) (v := p.1) (S1 := p.2) (As := [.int (L.2 (ix (i + 1)))]) (rest := [.int q.1]) (q := (RX12, TX12, 58)) (pc := 777) dL_law_777 mK_L_85 mf_X12_fogs rfl k0_53 rfl rfl rfl (Nat.le_of_ble_eq_true rfl) ⟨by omega, by show 8 + (2 + 11) + 64 * 1 ≤ R.locals; omega⟩ (r_Md_fogs (V := fun T => cw L T (f31 (S.1 31) q.2)) (cw_okT L (f31 (S.1 31) q.2)) h2) ?_ hc
  show G _ _ _ _ _ _ _ _ _ [.int p.1, .int q.1] (cw L p.2 (f31 (S.1 31) q.2))
  refine g_icmp_eq (tgt := 1819) (pc := 780) dL_law_780 (by decide) (fun _ => ?_) (fun c => absurd he c)
  exact kk
set_option maxRecDepth 4000 in
theorem lo_14 {l : Launch} {Γ : Gm} {R : Room} {Q : QT} {cells slots : Nat} {L : Sc} {T S : Sm} {i : Int32} (hR : RmL R) (hb1 : inb (i + 1) L.1) (hb2 : inb (i + 2) L.1) (hb3 : inb (i + 3) L.1) {q : Int32 × Sm} (h1 : Dk_years (L.2 (ix (i + 1))) ((lShl (Int32.toInt64 (L.2 (ix (i + 2)))) 32) ||| ((Int32.toInt64 (L.2 (ix (i + 3)))) &&& 4294967295)) S = some q) {p : Int32 × Sm} (h2 : Md_years (L.2 (ix (i + 1))) ((lShl (Int32.toInt64 (L.2 (ix (i + 2)))) 32) ||| ((Int32.toInt64 (L.2 (ix (i + 3)))) &&& 4294967295)) T = some p) (he : q.1 = p.1) (hc : cells + (mcS S q.2) ≤ R.cells ∧ slots + (msS S q.2) ≤ R.slots) (kk : G mL_law l Γ R Q (cells + (mcS S q.2)) (slots + (msS S q.2)) 1819 [some (.ref 6), some (.ref 7), some (.ref 53), some (.ref 90), some (.int i), none, none] [] (cw L p.2 q.2)) : G mL_law l Γ R Q cells slots 785 [some (.ref 6), some (.ref 7), some (.ref 53), some (.ref 90), some (.int i), none, none] [] (cw L T S) := by
  obtain ⟨r1, r2, r3, r4⟩ := hR
  refine g_aload_n (pc := 785) dL_law_785 rfl ?_
  refine g_aload_n (pc := 786) dL_law_786 rfl ?_
  refine g_iload (pc := 787) dL_law_787 rfl ?_
  refine g_iconst (v := 1) (pc := 789) dL_law_789 (by decide) ?_
  refine g_iadd (pc := 790) dL_law_790 ?_
  refine l_iald (pc := 791) dL_law_791 hb1 ?_
  refine g_aload_n (pc := 792) dL_law_792 rfl ?_
  refine g_iload (pc := 793) dL_law_793 rfl ?_
  refine g_iconst (v := 2) (pc := 795) dL_law_795 (by decide) ?_
  refine g_iadd (pc := 796) dL_law_796 ?_
  refine l_iald (pc := 797) dL_law_797 hb2 ?_
  refine g_i2l (pc := 798) dL_law_798 ?_
  refine g_bipush (v := 32) (pc := 799) dL_law_799 (by decide) ?_
  refine g_lshl (pc := 801) dL_law_801 ?_
  refine g_aload_n (pc := 802) dL_law_802 rfl ?_
  refine g_iload (pc := 803) dL_law_803 rfl ?_
  refine g_iconst (v := 3) (pc := 805) dL_law_805 (by decide) ?_
  refine g_iadd (pc := 806) dL_law_806 ?_
  refine l_iald (pc := 807) dL_law_807 hb3 ?_
  refine g_i2l (pc := 808) dL_law_808 ?_
  refine g_ldc2 (v := 4294967295) (pc := 809) dL_law_809 kL_L_86 ?_
  refine g_land (pc := 812) dL_law_812 ?_
  refine g_lor (pc := 813) dL_law_813 ?_
  refine g_callV (Mc := mX11_years) (As := [.int (L.2 (ix (i + 1))), .long ((lShl (Int32.toInt64 (L.2 (ix (i + 2)))) 32) ||| ((Int32.toInt64 (L.2 (ix (i + 3)))) &&& 4294967295))]) (rest := []) (b := 7) (q := (RX11, TX11, 12)) (pc := 814) dL_law_814 mK_L_88 mf_X11_years.1 mf_X11_years.2.1 mf_X11_years.2.2 rfl rfl rfl rfl rfl (Nat.le_of_ble_eq_true rfl) ⟨by omega, by show 8 + (4 + 11) + 64 * 7 ≤ R.locals; omega⟩ hc (r_Dk_years h1) ?_
  show G _ _ _ _ _ _ _ _ _ [.int q.1] _
  refine g_aload_n (pc := 817) dL_law_817 rfl ?_
  refine g_aload_n (pc := 818) dL_law_818 rfl ?_
  refine g_iload (pc := 819) dL_law_819 rfl ?_
  refine g_iconst (v := 1) (pc := 821) dL_law_821 (by decide) ?_
  refine g_iadd (pc := 822) dL_law_822 ?_
  refine l_iald (pc := 823) dL_law_823 hb1 ?_
  refine g_aload_n (pc := 824) dL_law_824 rfl ?_
  refine g_iload (pc := 825) dL_law_825 rfl ?_
  refine g_iconst (v := 2) (pc := 827) dL_law_827 (by decide) ?_
  refine g_iadd (pc := 828) dL_law_828 ?_
  refine l_iald (pc := 829) dL_law_829 hb2 ?_
  refine g_i2l (pc := 830) dL_law_830 ?_
  refine g_bipush (v := 32) (pc := 831) dL_law_831 (by decide) ?_
  refine g_lshl (pc := 833) dL_law_833 ?_
  refine g_aload_n (pc := 834) dL_law_834 rfl ?_
  refine g_iload (pc := 835) dL_law_835 rfl ?_
  refine g_iconst (v := 3) (pc := 837) dL_law_837 (by decide) ?_
  refine g_iadd (pc := 838) dL_law_838 ?_
  refine l_iald (pc := 839) dL_law_839 hb3 ?_
  refine g_i2l (pc := 840) dL_law_840 ?_
  refine g_ldc2 (v := 4294967295) (pc := 841) dL_law_841 kL_L_86 ?_
  refine g_land (pc := 844) dL_law_844 ?_
  refine g_lor (pc := 845) dL_law_845 ?_
  refine k_callVi (V := fun T => cw L T q.2) (cw_okT L q.2) (S := T) (Mc := mX12_years) (v := p.1) (S1 := p.2) (As := [.int (L.2 (ix (i + 1))), .long ((lShl (Int32.toInt64 (L.2 (ix (i + 2)))) 32) ||| ((Int32.toInt64 (L.2 (ix (i + 3)))) &&& 4294967295))]) (rest := [.int q.1]) (q := (RX12, TX12, 58)) (pc := 846) dL_law_846 mK_L_92 mf_X12_years rfl k0_53 rfl rfl rfl (Nat.le_of_ble_eq_true rfl) ⟨by omega, by show 8 + (6 + 11) + 64 * 3 ≤ R.locals; omega⟩ (r_Md_years (V := fun T => cw L T q.2) (cw_okT L q.2) h2) ?_ hc
  show G _ _ _ _ _ _ _ _ _ [.int p.1, .int q.1] (cw L p.2 q.2)
  refine g_icmp_eq (tgt := 1819) (pc := 849) dL_law_849 (by decide) (fun _ => ?_) (fun c => absurd he c)
  exact kk
set_option maxRecDepth 4000 in
theorem lo_15 {l : Launch} {Γ : Gm} {R : Room} {Q : QT} {cells slots : Nat} {L : Sc} {T S : Sm} {i : Int32} (hR : RmL R)  {q : Int32 × Sm} (h1 : Dk_undo S = some q) {p : Int32 × Sm} (h2 : Md_undo T = some p) (he : q.1 = p.1) (hc : cells ≤ R.cells ∧ slots ≤ R.slots) (kk : G mL_law l Γ R Q (cells) (slots) 1819 [some (.ref 6), some (.ref 7), some (.ref 53), some (.ref 90), some (.int i), none, none] [] (cw L p.2 q.2)) : G mL_law l Γ R Q cells slots 854 [some (.ref 6), some (.ref 7), some (.ref 53), some (.ref 90), some (.int i), none, none] [] (cw L T S) := by
  obtain ⟨r1, r2, r3, r4⟩ := hR
  refine g_aload_n (pc := 854) dL_law_854 rfl ?_
  refine k_callVi (cw_ok L T) (S := S) (Mc := mX11_undo) (v := q.1) (S1 := q.2) (As := []) (rest := []) (q := (RX11, TX11, 12)) (pc := 855) dL_law_855 mK_L_93 mf_X11_undo rfl k0_7 rfl rfl rfl (Nat.le_of_ble_eq_true rfl) ⟨by omega, by show 8 + (1 + 11) + 64 * 4 ≤ R.locals; omega⟩ (r_Dk_undo h1) ?_ hc
  refine g_aload_n (pc := 858) dL_law_858 rfl ?_
  refine k_callVi (V := fun T => cw L T q.2) (cw_okT L q.2) (S := T) (Mc := mX12_undo) (v := p.1) (S1 := p.2) (As := []) (rest := [.int q.1]) (q := (RX12, TX12, 58)) (pc := 859) dL_law_859 mK_L_96 mf_X12_undo rfl k0_53 rfl rfl rfl (Nat.le_of_ble_eq_true rfl) ⟨by omega, by show 8 + (2 + 11) + 64 * 0 ≤ R.locals; omega⟩ (r_Md_undo (V := fun T => cw L T q.2) (cw_okT L q.2) h2) ?_ hc
  show G _ _ _ _ _ _ _ _ _ [.int p.1, .int q.1] (cw L p.2 q.2)
  refine g_icmp_eq (tgt := 1819) (pc := 862) dL_law_862 (by decide) (fun _ => ?_) (fun c => absurd he c)
  exact kk
set_option maxRecDepth 4000 in
theorem lo_16 {l : Launch} {Γ : Gm} {R : Room} {Q : QT} {cells slots : Nat} {L : Sc} {T S : Sm} {i : Int32} (hR : RmL R) (hb1 : inb (i + 1) L.1) (hb2 : inb (i + 2) L.1) {q : Int32} (h1 : Dk_log (L.2 (ix (i + 1))) (L.2 (ix (i + 2))) S = q) {p : Int32} (h2 : Md_log (L.2 (ix (i + 1))) (L.2 (ix (i + 2))) T = some p) (he : q = p) (hc : cells ≤ R.cells ∧ slots ≤ R.slots) (kk : G mL_law l Γ R Q (cells) (slots) 1819 [some (.ref 6), some (.ref 7), some (.ref 53), some (.ref 90), some (.int i), none, none] [] (cw L T S)) : G mL_law l Γ R Q cells slots 867 [some (.ref 6), some (.ref 7), some (.ref 53), some (.ref 90), some (.int i), none, none] [] (cw L T S) := by
  obtain ⟨r1, r2, r3, r4⟩ := hR
  refine g_aload_n (pc := 867) dL_law_867 rfl ?_
  refine g_aload_n (pc := 868) dL_law_868 rfl ?_
  refine g_iload (pc := 869) dL_law_869 rfl ?_
  refine g_iconst (v := 1) (pc := 871) dL_law_871 (by decide) ?_
  refine g_iadd (pc := 872) dL_law_872 ?_
  refine l_iald (pc := 873) dL_law_873 hb1 ?_
  refine g_aload_n (pc := 874) dL_law_874 rfl ?_
  refine g_iload (pc := 875) dL_law_875 rfl ?_
  refine g_iconst (v := 2) (pc := 877) dL_law_877 (by decide) ?_
  refine g_iadd (pc := 878) dL_law_878 ?_
  refine l_iald (pc := 879) dL_law_879 hb2 ?_
  refine k_callVi (cw_ok L T) (S := S) (Mc := mX11_log) (v := q) (S1 := S) (As := [.int (L.2 (ix (i + 1))), .int (L.2 (ix (i + 2)))]) (rest := []) (q := (RX11, TX11, 12)) (pc := 880) dL_law_880 mK_L_97 mf_X11_log rfl k0_7 rfl rfl rfl (Nat.le_of_ble_eq_true rfl) ⟨by omega, by show 8 + (3 + 11) + 64 * 3 ≤ R.locals; omega⟩ (r_Dk_log (cw_ok L T) h1) ?_ hc
  refine g_aload_n (pc := 883) dL_law_883 rfl ?_
  refine g_aload_n (pc := 884) dL_law_884 rfl ?_
  refine g_iload (pc := 885) dL_law_885 rfl ?_
  refine g_iconst (v := 1) (pc := 887) dL_law_887 (by decide) ?_
  refine g_iadd (pc := 888) dL_law_888 ?_
  refine l_iald (pc := 889) dL_law_889 hb1 ?_
  refine g_aload_n (pc := 890) dL_law_890 rfl ?_
  refine g_iload (pc := 891) dL_law_891 rfl ?_
  refine g_iconst (v := 2) (pc := 893) dL_law_893 (by decide) ?_
  refine g_iadd (pc := 894) dL_law_894 ?_
  refine l_iald (pc := 895) dL_law_895 hb2 ?_
  refine k_callVi (V := fun T => cw L T S) (cw_okT L S) (S := T) (Mc := mX12_log) (v := p) (S1 := T) (As := [.int (L.2 (ix (i + 1))), .int (L.2 (ix (i + 2)))]) (rest := [.int q]) (q := (RX12, TX12, 58)) (pc := 896) dL_law_896 mK_L_100 mf_X12_log rfl k0_53 rfl rfl rfl (Nat.le_of_ble_eq_true rfl) ⟨by omega, by show 8 + (3 + 11) + 64 * 1 ≤ R.locals; omega⟩ (r_Md_log (V := fun T => cw L T S) (cw_okT L S) h2) ?_ hc
  show G _ _ _ _ _ _ _ _ _ [.int p, .int q] (cw L T S)
  refine g_icmp_eq (tgt := 1819) (pc := 899) dL_law_899 (by decide) (fun _ => ?_) (fun c => absurd he c)
  exact kk
set_option maxRecDepth 4000 in
theorem lo_17 {l : Launch} {Γ : Gm} {R : Room} {Q : QT} {cells slots : Nat} {L : Sc} {T S : Sm} {i : Int32} (hR : RmL R) (hb1 : inb (i + 1) L.1) (hb2 : inb (i + 2) L.1) (hb3 : inb (i + 3) L.1) {q : Int32} (h1 : Dk_comes (L.2 (ix (i + 1))) (L.2 (ix (i + 2))) (L.2 (ix (i + 3))) S = some q) {p : Int32} (h2 : Md_comes (L.2 (ix (i + 1))) (L.2 (ix (i + 2))) (L.2 (ix (i + 3))) T = some p) (he : q = p) (hc : cells ≤ R.cells ∧ slots ≤ R.slots) (kk : G mL_law l Γ R Q (cells) (slots) 1819 [some (.ref 6), some (.ref 7), some (.ref 53), some (.ref 90), some (.int i), none, none] [] (cw L T S)) : G mL_law l Γ R Q cells slots 904 [some (.ref 6), some (.ref 7), some (.ref 53), some (.ref 90), some (.int i), none, none] [] (cw L T S) := by
  obtain ⟨r1, r2, r3, r4⟩ := hR
  refine g_aload_n (pc := 904) dL_law_904 rfl ?_
  refine g_aload_n (pc := 905) dL_law_905 rfl ?_
  refine g_iload (pc := 906) dL_law_906 rfl ?_
  refine g_iconst (v := 1) (pc := 908) dL_law_908 (by decide) ?_
  refine g_iadd (pc := 909) dL_law_909 ?_
  refine l_iald (pc := 910) dL_law_910 hb1 ?_
  refine g_aload_n (pc := 911) dL_law_911 rfl ?_
  refine g_iload (pc := 912) dL_law_912 rfl ?_
  refine g_iconst (v := 2) (pc := 914) dL_law_914 (by decide) ?_
  refine g_iadd (pc := 915) dL_law_915 ?_
  refine l_iald (pc := 916) dL_law_916 hb2 ?_
  refine g_aload_n (pc := 917) dL_law_917 rfl ?_
  refine g_iload (pc := 918) dL_law_918 rfl ?_
  refine g_iconst (v := 3) (pc := 920) dL_law_920 (by decide) ?_
  refine g_iadd (pc := 921) dL_law_921 ?_
  refine l_iald (pc := 922) dL_law_922 hb3 ?_
  refine k_callVi (cw_ok L T) (S := S) (Mc := mX11_comes) (v := q) (S1 := S) (As := [.int (L.2 (ix (i + 1))), .int (L.2 (ix (i + 2))), .int (L.2 (ix (i + 3)))]) (rest := []) (q := (RX11, TX11, 12)) (pc := 923) dL_law_923 mK_L_101 mf_X11_comes rfl k0_7 rfl rfl rfl (Nat.le_of_ble_eq_true rfl) ⟨by omega, by show 8 + (4 + 11) + 64 * 4 ≤ R.locals; omega⟩ (r_Dk_comes (cw_ok L T) h1) ?_ hc
  refine g_aload_n (pc := 926) dL_law_926 rfl ?_
  refine g_aload_n (pc := 927) dL_law_927 rfl ?_
  refine g_iload (pc := 928) dL_law_928 rfl ?_
  refine g_iconst (v := 1) (pc := 930) dL_law_930 (by decide) ?_
  refine g_iadd (pc := 931) dL_law_931 ?_
  refine l_iald (pc := 932) dL_law_932 hb1 ?_
  refine g_aload_n (pc := 933) dL_law_933 rfl ?_
  refine g_iload (pc := 934) dL_law_934 rfl ?_
  refine g_iconst (v := 2) (pc := 936) dL_law_936 (by decide) ?_
  refine g_iadd (pc := 937) dL_law_937 ?_
  refine l_iald (pc := 938) dL_law_938 hb2 ?_
  refine g_aload_n (pc := 939) dL_law_939 rfl ?_
  refine g_iload (pc := 940) dL_law_940 rfl ?_
  refine g_iconst (v := 3) (pc := 942) dL_law_942 (by decide) ?_
  refine g_iadd (pc := 943) dL_law_943 ?_
  refine l_iald (pc := 944) dL_law_944 hb3 ?_
  refine k_callVi (V := fun T => cw L T S) (cw_okT L S) (S := T) (Mc := mX12_comes) (v := p) (S1 := T) (As := [.int (L.2 (ix (i + 1))), .int (L.2 (ix (i + 2))), .int (L.2 (ix (i + 3)))]) (rest := [.int q]) (q := (RX12, TX12, 58)) (pc := 945) dL_law_945 mK_L_104 mf_X12_comes rfl k0_53 rfl rfl rfl (Nat.le_of_ble_eq_true rfl) ⟨by omega, by show 8 + (4 + 11) + 64 * 3 ≤ R.locals; omega⟩ (r_Md_comes (V := fun T => cw L T S) (cw_okT L S) h2) ?_ hc
  show G _ _ _ _ _ _ _ _ _ [.int p, .int q] (cw L T S)
  refine g_icmp_eq (tgt := 1819) (pc := 948) dL_law_948 (by decide) (fun _ => ?_) (fun c => absurd he c)
  exact kk
set_option maxRecDepth 4000 in
theorem lo_18 {l : Launch} {Γ : Gm} {R : Room} {Q : QT} {cells slots : Nat} {L : Sc} {T S : Sm} {i : Int32} (hR : RmL R) (hb1 : inb (i + 1) L.1) (hb2 : inb (i + 2) L.1) (hb3 : inb (i + 3) L.1) {q : Int32} (h1 : Dk_round (L.2 (ix (i + 1))) (L.2 (ix (i + 2))) (L.2 (ix (i + 3))) S = some q) {p : Int32} (h2 : Md_round (L.2 (ix (i + 1))) (L.2 (ix (i + 2))) (L.2 (ix (i + 3))) T = some p) (he : q = p) (hc : cells ≤ R.cells ∧ slots ≤ R.slots) (kk : G mL_law l Γ R Q (cells) (slots) 1819 [some (.ref 6), some (.ref 7), some (.ref 53), some (.ref 90), some (.int i), none, none] [] (cw L T S)) : G mL_law l Γ R Q cells slots 953 [some (.ref 6), some (.ref 7), some (.ref 53), some (.ref 90), some (.int i), none, none] [] (cw L T S) := by
  obtain ⟨r1, r2, r3, r4⟩ := hR
  refine g_aload_n (pc := 953) dL_law_953 rfl ?_
  refine g_aload_n (pc := 954) dL_law_954 rfl ?_
  refine g_iload (pc := 955) dL_law_955 rfl ?_
  refine g_iconst (v := 1) (pc := 957) dL_law_957 (by decide) ?_
  refine g_iadd (pc := 958) dL_law_958 ?_
  refine l_iald (pc := 959) dL_law_959 hb1 ?_
  refine g_aload_n (pc := 960) dL_law_960 rfl ?_
  refine g_iload (pc := 961) dL_law_961 rfl ?_
  refine g_iconst (v := 2) (pc := 963) dL_law_963 (by decide) ?_
  refine g_iadd (pc := 964) dL_law_964 ?_
  refine l_iald (pc := 965) dL_law_965 hb2 ?_
  refine g_aload_n (pc := 966) dL_law_966 rfl ?_
  refine g_iload (pc := 967) dL_law_967 rfl ?_
  refine g_iconst (v := 3) (pc := 969) dL_law_969 (by decide) ?_
  refine g_iadd (pc := 970) dL_law_970 ?_
  refine l_iald (pc := 971) dL_law_971 hb3 ?_
  refine k_callVi (cw_ok L T) (S := S) (Mc := mX11_round) (v := q) (S1 := S) (As := [.int (L.2 (ix (i + 1))), .int (L.2 (ix (i + 2))), .int (L.2 (ix (i + 3)))]) (rest := []) (q := (RX11, TX11, 12)) (pc := 972) dL_law_972 mK_L_105 mf_X11_round rfl k0_7 rfl rfl rfl (Nat.le_of_ble_eq_true rfl) ⟨by omega, by show 8 + (5 + 11) + 64 * 5 ≤ R.locals; omega⟩ (r_Dk_round (cw_ok L T) h1) ?_ hc
  refine g_aload_n (pc := 975) dL_law_975 rfl ?_
  refine g_aload_n (pc := 976) dL_law_976 rfl ?_
  refine g_iload (pc := 977) dL_law_977 rfl ?_
  refine g_iconst (v := 1) (pc := 979) dL_law_979 (by decide) ?_
  refine g_iadd (pc := 980) dL_law_980 ?_
  refine l_iald (pc := 981) dL_law_981 hb1 ?_
  refine g_aload_n (pc := 982) dL_law_982 rfl ?_
  refine g_iload (pc := 983) dL_law_983 rfl ?_
  refine g_iconst (v := 2) (pc := 985) dL_law_985 (by decide) ?_
  refine g_iadd (pc := 986) dL_law_986 ?_
  refine l_iald (pc := 987) dL_law_987 hb2 ?_
  refine g_aload_n (pc := 988) dL_law_988 rfl ?_
  refine g_iload (pc := 989) dL_law_989 rfl ?_
  refine g_iconst (v := 3) (pc := 991) dL_law_991 (by decide) ?_
  refine g_iadd (pc := 992) dL_law_992 ?_
  refine l_iald (pc := 993) dL_law_993 hb3 ?_
  refine k_callVi (V := fun T => cw L T S) (cw_okT L S) (S := T) (Mc := mX12_round) (v := p) (S1 := T) (As := [.int (L.2 (ix (i + 1))), .int (L.2 (ix (i + 2))), .int (L.2 (ix (i + 3)))]) (rest := [.int q]) (q := (RX12, TX12, 58)) (pc := 994) dL_law_994 mK_L_108 mf_X12_round rfl k0_53 rfl rfl rfl (Nat.le_of_ble_eq_true rfl) ⟨by omega, by show 8 + (8 + 11) + 64 * 3 ≤ R.locals; omega⟩ (r_Md_round (V := fun T => cw L T S) (cw_okT L S) h2) ?_ hc
  show G _ _ _ _ _ _ _ _ _ [.int p, .int q] (cw L T S)
  refine g_icmp_eq (tgt := 1819) (pc := 997) dL_law_997 (by decide) (fun _ => ?_) (fun c => absurd he c)
  exact kk
set_option maxRecDepth 4000 in
theorem lo_19 {l : Launch} {Γ : Gm} {R : Room} {Q : QT} {cells slots : Nat} {L : Sc} {T S : Sm} {i : Int32} (hR : RmL R) (hb1 : inb (i + 1) L.1) (hb2 : inb (i + 2) L.1) (hb3 : inb (i + 3) L.1) {q : Int32} (h1 : Dk_changes (L.2 (ix (i + 1))) (L.2 (ix (i + 2))) (L.2 (ix (i + 3))) S = some q) {p : Int32 × Sm} (h2 : Md_changes (L.2 (ix (i + 1))) (L.2 (ix (i + 2))) (L.2 (ix (i + 3))) T = some p) (he : q = p.1) (hc : cells ≤ R.cells ∧ slots ≤ R.slots) (kk : G mL_law l Γ R Q (cells) (slots) 1819 [some (.ref 6), some (.ref 7), some (.ref 53), some (.ref 90), some (.int i), none, none] [] (cw L p.2 S)) : G mL_law l Γ R Q cells slots 1002 [some (.ref 6), some (.ref 7), some (.ref 53), some (.ref 90), some (.int i), none, none] [] (cw L T S) := by
  obtain ⟨r1, r2, r3, r4⟩ := hR
  refine g_aload_n (pc := 1002) dL_law_1002 rfl ?_
  refine g_aload_n (pc := 1003) dL_law_1003 rfl ?_
  refine g_iload (pc := 1004) dL_law_1004 rfl ?_
  refine g_iconst (v := 1) (pc := 1006) dL_law_1006 (by decide) ?_
  refine g_iadd (pc := 1007) dL_law_1007 ?_
  refine l_iald (pc := 1008) dL_law_1008 hb1 ?_
  refine g_aload_n (pc := 1009) dL_law_1009 rfl ?_
  refine g_iload (pc := 1010) dL_law_1010 rfl ?_
  refine g_iconst (v := 2) (pc := 1012) dL_law_1012 (by decide) ?_
  refine g_iadd (pc := 1013) dL_law_1013 ?_
  refine l_iald (pc := 1014) dL_law_1014 hb2 ?_
  refine g_aload_n (pc := 1015) dL_law_1015 rfl ?_
  refine g_iload (pc := 1016) dL_law_1016 rfl ?_
  refine g_iconst (v := 3) (pc := 1018) dL_law_1018 (by decide) ?_
  refine g_iadd (pc := 1019) dL_law_1019 ?_
  refine l_iald (pc := 1020) dL_law_1020 hb3 ?_
  refine k_callVi (cw_ok L T) (S := S) (Mc := mX11_changes) (v := q) (S1 := S) (As := [.int (L.2 (ix (i + 1))), .int (L.2 (ix (i + 2))), .int (L.2 (ix (i + 3)))]) (rest := []) (q := (RX11, TX11, 12)) (pc := 1021) dL_law_1021 mK_L_109 mf_X11_changes rfl k0_7 rfl rfl rfl (Nat.le_of_ble_eq_true rfl) ⟨by omega, by show 8 + (4 + 11) + 64 * 7 ≤ R.locals; omega⟩ (r_Dk_changes (cw_ok L T) h1) ?_ hc
  refine g_aload_n (pc := 1024) dL_law_1024 rfl ?_
  refine g_aload_n (pc := 1025) dL_law_1025 rfl ?_
  refine g_iload (pc := 1026) dL_law_1026 rfl ?_
  refine g_iconst (v := 1) (pc := 1028) dL_law_1028 (by decide) ?_
  refine g_iadd (pc := 1029) dL_law_1029 ?_
  refine l_iald (pc := 1030) dL_law_1030 hb1 ?_
  refine g_aload_n (pc := 1031) dL_law_1031 rfl ?_
  refine g_iload (pc := 1032) dL_law_1032 rfl ?_
  refine g_iconst (v := 2) (pc := 1034) dL_law_1034 (by decide) ?_
  refine g_iadd (pc := 1035) dL_law_1035 ?_
  refine l_iald (pc := 1036) dL_law_1036 hb2 ?_
  refine g_aload_n (pc := 1037) dL_law_1037 rfl ?_
  refine g_iload (pc := 1038) dL_law_1038 rfl ?_
  refine g_iconst (v := 3) (pc := 1040) dL_law_1040 (by decide) ?_
  refine g_iadd (pc := 1041) dL_law_1041 ?_
  refine l_iald (pc := 1042) dL_law_1042 hb3 ?_
  refine k_callVi (V := fun T => cw L T S) (cw_okT L S) (S := T) (Mc := mX12_changes) (v := p.1) (S1 := p.2) (As := [.int (L.2 (ix (i + 1))), .int (L.2 (ix (i + 2))), .int (L.2 (ix (i + 3)))]) (rest := [.int q]) (q := (RX12, TX12, 58)) (pc := 1043) dL_law_1043 mK_L_112 mf_X12_changes rfl k0_53 rfl rfl rfl (Nat.le_of_ble_eq_true rfl) ⟨by omega, by show 8 + (6 + 11) + 64 * 3 ≤ R.locals; omega⟩ (r_Md_changes (V := fun T => cw L T S) (cw_okT L S) h2) ?_ hc
  show G _ _ _ _ _ _ _ _ _ [.int p.1, .int q] (cw L p.2 S)
  refine g_icmp_eq (tgt := 1819) (pc := 1046) dL_law_1046 (by decide) (fun _ => ?_) (fun c => absurd he c)
  exact kk
set_option maxRecDepth 4000 in
theorem lo_20 {l : Launch} {Γ : Gm} {R : Room} {Q : QT} {cells slots : Nat} {L : Sc} {T S : Sm} {i : Int32} (hR : RmL R) (hb1 : inb (i + 1) L.1) (hb2 : inb (i + 2) L.1) (hb3 : inb (i + 3) L.1) (hb4 : inb (i + 4) L.1) {q : Int32 × Sm} (h1 : Dk_soonest (L.2 (ix (i + 1))) (L.2 (ix (i + 2))) (L.2 (ix (i + 3))) (L.2 (ix (i + 4))) S = some q) {p : Int32 × Sm} (h2 : Md_soonest (L.2 (ix (i + 1))) (L.2 (ix (i + 2))) (L.2 (ix (i + 3))) (L.2 (ix (i + 4))) T = some p) (he : q.1 = p.1) (hc : cells ≤ R.cells ∧ slots ≤ R.slots) (kk : G mL_law l Γ R Q (cells) (slots) 1819 [some (.ref 6), some (.ref 7), some (.ref 53), some (.ref 90), some (.int i), none, none] [] (cw L p.2 (f31 (S.1 31) q.2))) : G mL_law l Γ R Q cells slots 1051 [some (.ref 6), some (.ref 7), some (.ref 53), some (.ref 90), some (.int i), none, none] [] (cw L T S) := by
  obtain ⟨r1, r2, r3, r4⟩ := hR
  refine g_aload_n (pc := 1051) dL_law_1051 rfl ?_
  refine g_aload_n (pc := 1052) dL_law_1052 rfl ?_
  refine g_iload (pc := 1053) dL_law_1053 rfl ?_
  refine g_iconst (v := 1) (pc := 1055) dL_law_1055 (by decide) ?_
  refine g_iadd (pc := 1056) dL_law_1056 ?_
  refine l_iald (pc := 1057) dL_law_1057 hb1 ?_
  refine g_aload_n (pc := 1058) dL_law_1058 rfl ?_
  refine g_iload (pc := 1059) dL_law_1059 rfl ?_
  refine g_iconst (v := 2) (pc := 1061) dL_law_1061 (by decide) ?_
  refine g_iadd (pc := 1062) dL_law_1062 ?_
  refine l_iald (pc := 1063) dL_law_1063 hb2 ?_
  refine g_aload_n (pc := 1064) dL_law_1064 rfl ?_
  refine g_iload (pc := 1065) dL_law_1065 rfl ?_
  refine g_iconst (v := 3) (pc := 1067) dL_law_1067 (by decide) ?_
  refine g_iadd (pc := 1068) dL_law_1068 ?_
  refine l_iald (pc := 1069) dL_law_1069 hb3 ?_
  refine g_aload_n (pc := 1070) dL_law_1070 rfl ?_
  refine g_iload (pc := 1071) dL_law_1071 rfl ?_
  refine g_iconst (v := 4) (pc := 1073) dL_law_1073 (by decide) ?_
  refine g_iadd (pc := 1074) dL_law_1074 ?_
  refine l_iald (pc := 1075) dL_law_1075 hb4 ?_
  rw [← cwf_self L T S]
  refine k_callVi (cwf_ok L T (S.1 31)) (S := S) (Mc := mX11_soonest) (v := q.1) (S1 := q.2) (As := [.int (L.2 (ix (i + 1))), .int (L.2 (ix (i + 2))), .int (L.2 (ix (i + 3))), .int (L.2 (ix (i + 4)))]) (rest := []) (q := (RX11, TX11, 12)) (pc := 1076) dL_law_1076 mK_L_113 mf_X11_soonest rfl k0_7 rfl rfl rfl (Nat.le_of_ble_eq_true rfl) ⟨by omega, by show 8 + (5 + 11) + 64 * 8 ≤ R.locals; omega⟩ (r_Dk_soonest (cwf_ok L T (S.1 31)) h1) ?_ hc
  show G _ _ _ _ _ _ _ _ _ [.int q.1] (cw L T (f31 (S.1 31) q.2))
  refine g_aload_n (pc := 1079) dL_law_1079 rfl ?_
  refine g_aload_n (pc := 1080) dL_law_1080 rfl ?_
  refine g_iload (pc := 1081) dL_law_1081 rfl ?_
  refine g_iconst (v := 1) (pc := 1083) dL_law_1083 (by decide) ?_
  refine g_iadd (pc := 1084) dL_law_1084 ?_
  refine l_iald (pc := 1085) dL_law_1085 hb1 ?_
  refine g_aload_n (pc := 1086) dL_law_1086 rfl ?_
  refine g_iload (pc := 1087) dL_law_1087 rfl ?_
  refine g_iconst (v := 2) (pc := 1089) dL_law_1089 (by decide) ?_
  refine g_iadd (pc := 1090) dL_law_1090 ?_
  refine l_iald (pc := 1091) dL_law_1091 hb2 ?_
  refine g_aload_n (pc := 1092) dL_law_1092 rfl ?_
  refine g_iload (pc := 1093) dL_law_1093 rfl ?_
  refine g_iconst (v := 3) (pc := 1095) dL_law_1095 (by decide) ?_
  refine g_iadd (pc := 1096) dL_law_1096 ?_
  refine l_iald (pc := 1097) dL_law_1097 hb3 ?_
  refine g_aload_n (pc := 1098) dL_law_1098 rfl ?_
  refine g_iload (pc := 1099) dL_law_1099 rfl ?_
  refine g_iconst (v := 4) (pc := 1101) dL_law_1101 (by decide) ?_
  refine g_iadd (pc := 1102) dL_law_1102 ?_
  refine l_iald (pc := 1103) dL_law_1103 hb4 ?_
  refine k_callVi (V := fun T => cw L T (f31 (S.1 31) q.2)) (cw_okT L (f31 (S.1 31) q.2)) (S := T) (Mc := mX12_soonest) (v := p.1) (S1 := p.2) (As := [.int (L.2 (ix (i + 1))), .int (L.2 (ix (i + 2))), .int (L.2 (ix (i + 3))), .int (L.2 (ix (i + 4)))]) (rest := [.int q.1]) (q := (RX12, TX12, 58)) (pc := 1104) dL_law_1104 mK_L_117 mf_X12_soonest rfl k0_53 rfl rfl rfl (Nat.le_of_ble_eq_true rfl) ⟨by omega, by show 8 + (6 + 11) + 64 * 8 ≤ R.locals; omega⟩ (r_Md_soonest (V := fun T => cw L T (f31 (S.1 31) q.2)) (cw_okT L (f31 (S.1 31) q.2)) h2) ?_ hc
  show G _ _ _ _ _ _ _ _ _ [.int p.1, .int q.1] (cw L p.2 (f31 (S.1 31) q.2))
  refine g_icmp_eq (tgt := 1819) (pc := 1107) dL_law_1107 (by decide) (fun _ => ?_) (fun c => absurd he c)
  exact kk
set_option maxRecDepth 4000 in
theorem lo_21 {l : Launch} {Γ : Gm} {R : Room} {Q : QT} {cells slots : Nat} {L : Sc} {T S : Sm} {i : Int32} (hR : RmL R) (hb1 : inb (i + 1) L.1) (hb2 : inb (i + 2) L.1) (hb3 : inb (i + 3) L.1) {q : Int32 × Sm} (h1 : Dk_cheapest (L.2 (ix (i + 1))) (L.2 (ix (i + 2))) (L.2 (ix (i + 3))) S = some q) {p : Int32 × Sm} (h2 : Md_cheapest (L.2 (ix (i + 1))) (L.2 (ix (i + 2))) (L.2 (ix (i + 3))) T = some p) (he : q.1 = p.1) (hc : cells ≤ R.cells ∧ slots ≤ R.slots) (kk : G mL_law l Γ R Q (cells) (slots) 1819 [some (.ref 6), some (.ref 7), some (.ref 53), some (.ref 90), some (.int i), none, none] [] (cw L p.2 (f31 (S.1 31) q.2))) : G mL_law l Γ R Q cells slots 1112 [some (.ref 6), some (.ref 7), some (.ref 53), some (.ref 90), some (.int i), none, none] [] (cw L T S) := by
  obtain ⟨r1, r2, r3, r4⟩ := hR
  refine g_aload_n (pc := 1112) dL_law_1112 rfl ?_
  refine g_aload_n (pc := 1113) dL_law_1113 rfl ?_
  refine g_iload (pc := 1114) dL_law_1114 rfl ?_
  refine g_iconst (v := 1) (pc := 1116) dL_law_1116 (by decide) ?_
  refine g_iadd (pc := 1117) dL_law_1117 ?_
  refine l_iald (pc := 1118) dL_law_1118 hb1 ?_
  refine g_aload_n (pc := 1119) dL_law_1119 rfl ?_
  refine g_iload (pc := 1120) dL_law_1120 rfl ?_
  refine g_iconst (v := 2) (pc := 1122) dL_law_1122 (by decide) ?_
  refine g_iadd (pc := 1123) dL_law_1123 ?_
  refine l_iald (pc := 1124) dL_law_1124 hb2 ?_
  refine g_aload_n (pc := 1125) dL_law_1125 rfl ?_
  refine g_iload (pc := 1126) dL_law_1126 rfl ?_
  refine g_iconst (v := 3) (pc := 1128) dL_law_1128 (by decide) ?_
  refine g_iadd (pc := 1129) dL_law_1129 ?_
  refine l_iald (pc := 1130) dL_law_1130 hb3 ?_
  rw [← cwf_self L T S]
  refine k_callVi (cwf_ok L T (S.1 31)) (S := S) (Mc := mX11_cheapest) (v := q.1) (S1 := q.2) (As := [.int (L.2 (ix (i + 1))), .int (L.2 (ix (i + 2))), .int (L.2 (ix (i + 3)))]) (rest := []) (q := (RX11, TX11, 12)) (pc := 1131) dL_law_1131 mK_L_118 mf_X11_cheapest rfl k0_7 rfl rfl rfl (Nat.le_of_ble_eq_true rfl) ⟨by omega, by show 8 + (4 + 11) + 64 * 8 ≤ R.locals; omega⟩ (r_Dk_cheapest (cwf_ok L T (S.1 31)) h1) ?_ hc
  show G _ _ _ _ _ _ _ _ _ [.int q.1] (cw L T (f31 (S.1 31) q.2))
  refine g_aload_n (pc := 1134) dL_law_1134 rfl ?_
  refine g_aload_n (pc := 1135) dL_law_1135 rfl ?_
  refine g_iload (pc := 1136) dL_law_1136 rfl ?_
  refine g_iconst (v := 1) (pc := 1138) dL_law_1138 (by decide) ?_
  refine g_iadd (pc := 1139) dL_law_1139 ?_
  refine l_iald (pc := 1140) dL_law_1140 hb1 ?_
  refine g_aload_n (pc := 1141) dL_law_1141 rfl ?_
  refine g_iload (pc := 1142) dL_law_1142 rfl ?_
  refine g_iconst (v := 2) (pc := 1144) dL_law_1144 (by decide) ?_
  refine g_iadd (pc := 1145) dL_law_1145 ?_
  refine l_iald (pc := 1146) dL_law_1146 hb2 ?_
  refine g_aload_n (pc := 1147) dL_law_1147 rfl ?_
  refine g_iload (pc := 1148) dL_law_1148 rfl ?_
  refine g_iconst (v := 3) (pc := 1150) dL_law_1150 (by decide) ?_
  refine g_iadd (pc := 1151) dL_law_1151 ?_
  refine l_iald (pc := 1152) dL_law_1152 hb3 ?_
  refine k_callVi (V := fun T => cw L T (f31 (S.1 31) q.2)) (cw_okT L (f31 (S.1 31) q.2)) (S := T) (Mc := mX12_cheapest) (v := p.1) (S1 := p.2) (As := [.int (L.2 (ix (i + 1))), .int (L.2 (ix (i + 2))), .int (L.2 (ix (i + 3)))]) (rest := [.int q.1]) (q := (RX12, TX12, 58)) (pc := 1153) dL_law_1153 mK_L_121 mf_X12_cheapest rfl k0_53 rfl rfl rfl (Nat.le_of_ble_eq_true rfl) ⟨by omega, by show 8 + (4 + 11) + 64 * 8 ≤ R.locals; omega⟩ (r_Md_cheapest (V := fun T => cw L T (f31 (S.1 31) q.2)) (cw_okT L (f31 (S.1 31) q.2)) h2) ?_ hc
  show G _ _ _ _ _ _ _ _ _ [.int p.1, .int q.1] (cw L p.2 (f31 (S.1 31) q.2))
  refine g_icmp_eq (tgt := 1819) (pc := 1156) dL_law_1156 (by decide) (fun _ => ?_) (fun c => absurd he c)
  exact kk
set_option maxRecDepth 4000 in
theorem lo_22 {l : Launch} {Γ : Gm} {R : Room} {Q : QT} {cells slots : Nat} {L : Sc} {T S : Sm} {i : Int32} (hR : RmL R) (hb1 : inb (i + 1) L.1) (hb2 : inb (i + 2) L.1) {q : Int32} (h1 : Dk_reached (L.2 (ix (i + 1))) (L.2 (ix (i + 2))) S = some q) {p : Int32} (h2 : Md_reached (L.2 (ix (i + 1))) (L.2 (ix (i + 2))) T = some p) (he : q = p) (hc : cells ≤ R.cells ∧ slots ≤ R.slots) (kk : G mL_law l Γ R Q (cells) (slots) 1819 [some (.ref 6), some (.ref 7), some (.ref 53), some (.ref 90), some (.int i), none, none] [] (cw L T S)) : G mL_law l Γ R Q cells slots 1161 [some (.ref 6), some (.ref 7), some (.ref 53), some (.ref 90), some (.int i), none, none] [] (cw L T S) := by
  obtain ⟨r1, r2, r3, r4⟩ := hR
  refine g_aload_n (pc := 1161) dL_law_1161 rfl ?_
  refine g_aload_n (pc := 1162) dL_law_1162 rfl ?_
  refine g_iload (pc := 1163) dL_law_1163 rfl ?_
  refine g_iconst (v := 1) (pc := 1165) dL_law_1165 (by decide) ?_
  refine g_iadd (pc := 1166) dL_law_1166 ?_
  refine l_iald (pc := 1167) dL_law_1167 hb1 ?_
  refine g_aload_n (pc := 1168) dL_law_1168 rfl ?_
  refine g_iload (pc := 1169) dL_law_1169 rfl ?_
  refine g_iconst (v := 2) (pc := 1171) dL_law_1171 (by decide) ?_
  refine g_iadd (pc := 1172) dL_law_1172 ?_
  refine l_iald (pc := 1173) dL_law_1173 hb2 ?_
  refine k_callVi (cw_ok L T) (S := S) (Mc := mX11_reached) (v := q) (S1 := S) (As := [.int (L.2 (ix (i + 1))), .int (L.2 (ix (i + 2)))]) (rest := []) (q := (RX11, TX11, 12)) (pc := 1174) dL_law_1174 mK_L_122 mf_X11_reached rfl k0_7 rfl rfl rfl (Nat.le_of_ble_eq_true rfl) ⟨by omega, by show 8 + (3 + 11) + 64 * 5 ≤ R.locals; omega⟩ (r_Dk_reached (cw_ok L T) h1) ?_ hc
  refine g_aload_n (pc := 1177) dL_law_1177 rfl ?_
  refine g_aload_n (pc := 1178) dL_law_1178 rfl ?_
  refine g_iload (pc := 1179) dL_law_1179 rfl ?_
  refine g_iconst (v := 1) (pc := 1181) dL_law_1181 (by decide) ?_
  refine g_iadd (pc := 1182) dL_law_1182 ?_
  refine l_iald (pc := 1183) dL_law_1183 hb1 ?_
  refine g_aload_n (pc := 1184) dL_law_1184 rfl ?_
  refine g_iload (pc := 1185) dL_law_1185 rfl ?_
  refine g_iconst (v := 2) (pc := 1187) dL_law_1187 (by decide) ?_
  refine g_iadd (pc := 1188) dL_law_1188 ?_
  refine l_iald (pc := 1189) dL_law_1189 hb2 ?_
  refine k_callVi (V := fun T => cw L T S) (cw_okT L S) (S := T) (Mc := mX12_reached) (v := p) (S1 := T) (As := [.int (L.2 (ix (i + 1))), .int (L.2 (ix (i + 2)))]) (rest := [.int q]) (q := (RX12, TX12, 58)) (pc := 1190) dL_law_1190 mK_L_125 mf_X12_reached rfl k0_53 rfl rfl rfl (Nat.le_of_ble_eq_true rfl) ⟨by omega, by show 8 + (3 + 11) + 64 * 2 ≤ R.locals; omega⟩ (r_Md_reached (V := fun T => cw L T S) (cw_okT L S) h2) ?_ hc
  show G _ _ _ _ _ _ _ _ _ [.int p, .int q] (cw L T S)
  refine g_icmp_eq (tgt := 1819) (pc := 1193) dL_law_1193 (by decide) (fun _ => ?_) (fun c => absurd he c)
  exact kk
set_option maxRecDepth 4000 in
theorem lo_23 {l : Launch} {Γ : Gm} {R : Room} {Q : QT} {cells slots : Nat} {L : Sc} {T S : Sm} {i : Int32} (hR : RmL R)  {q : Int32} (h1 : Dk_lamps S = some q) {p : Int32} (h2 : Md_lamps T = some p) (he : q = p) (hc : cells ≤ R.cells ∧ slots ≤ R.slots) (kk : G mL_law l Γ R Q (cells) (slots) 1819 [some (.ref 6), some (.ref 7), some (.ref 53), some (.ref 90), some (.int i), none, none] [] (cw L T S)) : G mL_law l Γ R Q cells slots 1198 [some (.ref 6), some (.ref 7), some (.ref 53), some (.ref 90), some (.int i), none, none] [] (cw L T S) := by
  obtain ⟨r1, r2, r3, r4⟩ := hR
  refine g_aload_n (pc := 1198) dL_law_1198 rfl ?_
  refine k_callVi (cw_ok L T) (S := S) (Mc := mX11_lamps) (v := q) (S1 := S) (As := []) (rest := []) (q := (RX11, TX11, 12)) (pc := 1199) dL_law_1199 mK_L_126 mf_X11_lamps rfl k0_7 rfl rfl rfl (Nat.le_of_ble_eq_true rfl) ⟨by omega, by show 8 + (1 + 11) + 64 * 7 ≤ R.locals; omega⟩ (r_Dk_lamps (cw_ok L T) h1) ?_ hc
  refine g_aload_n (pc := 1202) dL_law_1202 rfl ?_
  refine k_callVi (V := fun T => cw L T S) (cw_okT L S) (S := T) (Mc := mX12_lamps) (v := p) (S1 := T) (As := []) (rest := [.int q]) (q := (RX12, TX12, 58)) (pc := 1203) dL_law_1203 mK_L_129 mf_X12_lamps rfl k0_53 rfl rfl rfl (Nat.le_of_ble_eq_true rfl) ⟨by omega, by show 8 + (5 + 11) + 64 * 2 ≤ R.locals; omega⟩ (r_Md_lamps (V := fun T => cw L T S) (cw_okT L S) h2) ?_ hc
  show G _ _ _ _ _ _ _ _ _ [.int p, .int q] (cw L T S)
  refine g_icmp_eq (tgt := 1819) (pc := 1206) dL_law_1206 (by decide) (fun _ => ?_) (fun c => absurd he c)
  exact kk
set_option maxRecDepth 4000 in
theorem lo_24 {l : Launch} {Γ : Gm} {R : Room} {Q : QT} {cells slots : Nat} {L : Sc} {T S : Sm} {i : Int32} (hR : RmL R) (hb1 : inb (i + 1) L.1) {q : Int32 × Sm} (h1 : Dk_timetable (L.2 (ix (i + 1))) S = some q) {p : Int32 × Sm} (h2 : Md_timetable (L.2 (ix (i + 1))) T = some p) (he : q.1 = p.1) (hc : cells ≤ R.cells ∧ slots ≤ R.slots) (kk : G mL_law l Γ R Q (cells) (slots) 1819 [some (.ref 6), some (.ref 7), some (.ref 53), some (.ref 90), some (.int i), none, none] [] (cw L p.2 (f31 (S.1 31) q.2))) : G mL_law l Γ R Q cells slots 1211 [some (.ref 6), some (.ref 7), some (.ref 53), some (.ref 90), some (.int i), none, none] [] (cw L T S) := by
  obtain ⟨r1, r2, r3, r4⟩ := hR
  refine g_aload_n (pc := 1211) dL_law_1211 rfl ?_
  refine g_aload_n (pc := 1212) dL_law_1212 rfl ?_
  refine g_iload (pc := 1213) dL_law_1213 rfl ?_
  refine g_iconst (v := 1) (pc := 1215) dL_law_1215 (by decide) ?_
  refine g_iadd (pc := 1216) dL_law_1216 ?_
  refine l_iald (pc := 1217) dL_law_1217 hb1 ?_
  rw [← cwf_self L T S]
  refine k_callVi (cwf_ok L T (S.1 31)) (S := S) (Mc := mX11_timetable) (v := q.1) (S1 := q.2) (As := [.int (L.2 (ix (i + 1)))]) (rest := []) (q := (RX11, TX11, 12)) (pc := 1218) dL_law_1218 mK_L_130 mf_X11_timetable rfl k0_7 rfl rfl rfl (Nat.le_of_ble_eq_true rfl) ⟨by omega, by show 8 + (2 + 11) + 64 * 15 ≤ R.locals; omega⟩ (r_Dk_timetable (cwf_ok L T (S.1 31)) h1) ?_ hc
  show G _ _ _ _ _ _ _ _ _ [.int q.1] (cw L T (f31 (S.1 31) q.2))
  refine g_aload_n (pc := 1221) dL_law_1221 rfl ?_
  refine g_aload_n (pc := 1222) dL_law_1222 rfl ?_
  refine g_iload (pc := 1223) dL_law_1223 rfl ?_
  refine g_iconst (v := 1) (pc := 1225) dL_law_1225 (by decide) ?_
  refine g_iadd (pc := 1226) dL_law_1226 ?_
  refine l_iald (pc := 1227) dL_law_1227 hb1 ?_
  refine k_callVi (V := fun T => cw L T (f31 (S.1 31) q.2)) (cw_okT L (f31 (S.1 31) q.2)) (S := T) (Mc := mX12_timetable) (v := p.1) (S1 := p.2) (As := [.int (L.2 (ix (i + 1)))]) (rest := [.int q.1]) (q := (RX12, TX12, 58)) (pc := 1228) dL_law_1228 mK_L_133 mf_X12_timetable rfl k0_53 rfl rfl rfl (Nat.le_of_ble_eq_true rfl) ⟨by omega, by show 8 + (2 + 11) + 64 * 11 ≤ R.locals; omega⟩ (r_Md_timetable (V := fun T => cw L T (f31 (S.1 31) q.2)) (cw_okT L (f31 (S.1 31) q.2)) h2) ?_ hc
  show G _ _ _ _ _ _ _ _ _ [.int p.1, .int q.1] (cw L p.2 (f31 (S.1 31) q.2))
  refine g_icmp_eq (tgt := 1819) (pc := 1231) dL_law_1231 (by decide) (fun _ => ?_) (fun c => absurd he c)
  exact kk
set_option maxRecDepth 4000 in
theorem lo_25 {l : Launch} {Γ : Gm} {R : Room} {Q : QT} {cells slots : Nat} {L : Sc} {T S : Sm} {i : Int32} (hR : RmL R)  {q : Int32 × Sm} (h1 : Dk_clashes S = some q) {p : Int32 × Sm} (h2 : Md_clashes T = some p) (he : q.1 = p.1) (hc : cells ≤ R.cells ∧ slots ≤ R.slots) (kk : G mL_law l Γ R Q (cells) (slots) 1819 [some (.ref 6), some (.ref 7), some (.ref 53), some (.ref 90), some (.int i), none, none] [] (cw L p.2 (f31 (S.1 31) q.2))) : G mL_law l Γ R Q cells slots 1236 [some (.ref 6), some (.ref 7), some (.ref 53), some (.ref 90), some (.int i), none, none] [] (cw L T S) := by
  obtain ⟨r1, r2, r3, r4⟩ := hR
  refine g_aload_n (pc := 1236) dL_law_1236 rfl ?_
  rw [← cwf_self L T S]
  refine k_callVi (cwf_ok L T (S.1 31)) (S := S) (Mc := mX11_clashes) (v := q.1) (S1 := q.2) (As := []) (rest := []) (q := (RX11, TX11, 12)) (pc := 1237) dL_law_1237 mK_L_134 mf_X11_clashes rfl k0_7 rfl rfl rfl (Nat.le_of_ble_eq_true rfl) ⟨by omega, by show 8 + (1 + 11) + 64 * 6 ≤ R.locals; omega⟩ (r_Dk_clashes (cwf_ok L T (S.1 31)) h1) ?_ hc
  show G _ _ _ _ _ _ _ _ _ [.int q.1] (cw L T (f31 (S.1 31) q.2))
  refine g_aload_n (pc := 1240) dL_law_1240 rfl ?_
  refine k_callVi (V := fun T => cw L T (f31 (S.1 31) q.2)) (cw_okT L (f31 (S.1 31) q.2)) (S := T) (Mc := mX12_clashes) (v := p.1) (S1 := p.2) (As := []) (rest := [.int q.1]) (q := (RX12, TX12, 58)) (pc := 1241) dL_law_1241 mK_L_137 mf_X12_clashes rfl k0_53 rfl rfl rfl (Nat.le_of_ble_eq_true rfl) ⟨by omega, by show 8 + (4 + 11) + 64 * 3 ≤ R.locals; omega⟩ (r_Md_clashes (V := fun T => cw L T (f31 (S.1 31) q.2)) (cw_okT L (f31 (S.1 31) q.2)) h2) ?_ hc
  show G _ _ _ _ _ _ _ _ _ [.int p.1, .int q.1] (cw L p.2 (f31 (S.1 31) q.2))
  refine g_icmp_eq (tgt := 1819) (pc := 1244) dL_law_1244 (by decide) (fun _ => ?_) (fun c => absurd he c)
  exact kk
set_option maxRecDepth 4000 in
theorem lo_26 {l : Launch} {Γ : Gm} {R : Room} {Q : QT} {cells slots : Nat} {L : Sc} {T S : Sm} {i : Int32} (hR : RmL R) (hb1 : inb (i + 1) L.1) (hb2 : inb (i + 2) L.1) (hb3 : inb (i + 3) L.1) (hb4 : inb (i + 4) L.1) {q : Int32 × Sm} (h1 : Dk_lay (L.2 (ix (i + 1))) (L.2 (ix (i + 2))) (L.2 (ix (i + 3))) (L.2 (ix (i + 4))) S = q) {p : Int32 × Sm} (h2 : Md_lay (L.2 (ix (i + 1))) (L.2 (ix (i + 2))) (L.2 (ix (i + 3))) (L.2 (ix (i + 4))) T = some p) (he : q.1 = p.1) (hc : cells ≤ R.cells ∧ slots ≤ R.slots) (kk : G mL_law l Γ R Q (cells) (slots) 1819 [some (.ref 6), some (.ref 7), some (.ref 53), some (.ref 90), some (.int i), none, none] [] (cw L p.2 (f31 (S.1 31) q.2))) : G mL_law l Γ R Q cells slots 1249 [some (.ref 6), some (.ref 7), some (.ref 53), some (.ref 90), some (.int i), none, none] [] (cw L T S) := by
  obtain ⟨r1, r2, r3, r4⟩ := hR
  refine g_aload_n (pc := 1249) dL_law_1249 rfl ?_
  refine g_aload_n (pc := 1250) dL_law_1250 rfl ?_
  refine g_iload (pc := 1251) dL_law_1251 rfl ?_
  refine g_iconst (v := 1) (pc := 1253) dL_law_1253 (by decide) ?_
  refine g_iadd (pc := 1254) dL_law_1254 ?_
  refine l_iald (pc := 1255) dL_law_1255 hb1 ?_
  refine g_aload_n (pc := 1256) dL_law_1256 rfl ?_
  refine g_iload (pc := 1257) dL_law_1257 rfl ?_
  refine g_iconst (v := 2) (pc := 1259) dL_law_1259 (by decide) ?_
  refine g_iadd (pc := 1260) dL_law_1260 ?_
  refine l_iald (pc := 1261) dL_law_1261 hb2 ?_
  refine g_aload_n (pc := 1262) dL_law_1262 rfl ?_
  refine g_iload (pc := 1263) dL_law_1263 rfl ?_
  refine g_iconst (v := 3) (pc := 1265) dL_law_1265 (by decide) ?_
  refine g_iadd (pc := 1266) dL_law_1266 ?_
  refine l_iald (pc := 1267) dL_law_1267 hb3 ?_
  refine g_aload_n (pc := 1268) dL_law_1268 rfl ?_
  refine g_iload (pc := 1269) dL_law_1269 rfl ?_
  refine g_iconst (v := 4) (pc := 1271) dL_law_1271 (by decide) ?_
  refine g_iadd (pc := 1272) dL_law_1272 ?_
  refine l_iald (pc := 1273) dL_law_1273 hb4 ?_
  rw [← cwf_self L T S]
  refine k_callVi (cwf_ok L T (S.1 31)) (S := S) (Mc := mX11_lay) (v := q.1) (S1 := q.2) (As := [.int (L.2 (ix (i + 1))), .int (L.2 (ix (i + 2))), .int (L.2 (ix (i + 3))), .int (L.2 (ix (i + 4)))]) (rest := []) (q := (RX11, TX11, 12)) (pc := 1274) dL_law_1274 mK_L_138 mf_X11_lay rfl k0_7 rfl rfl rfl (Nat.le_of_ble_eq_true rfl) ⟨by omega, by show 8 + (5 + 11) + 64 * 3 ≤ R.locals; omega⟩ (r_Dk_lay (cwf_ok L T (S.1 31)) h1) ?_ hc
  show G _ _ _ _ _ _ _ _ _ [.int q.1] (cw L T (f31 (S.1 31) q.2))
  refine g_aload_n (pc := 1277) dL_law_1277 rfl ?_
  refine g_aload_n (pc := 1278) dL_law_1278 rfl ?_
  refine g_iload (pc := 1279) dL_law_1279 rfl ?_
  refine g_iconst (v := 1) (pc := 1281) dL_law_1281 (by decide) ?_
  refine g_iadd (pc := 1282) dL_law_1282 ?_
  refine l_iald (pc := 1283) dL_law_1283 hb1 ?_
  refine g_aload_n (pc := 1284) dL_law_1284 rfl ?_
  refine g_iload (pc := 1285) dL_law_1285 rfl ?_
  refine g_iconst (v := 2) (pc := 1287) dL_law_1287 (by decide) ?_
  refine g_iadd (pc := 1288) dL_law_1288 ?_
  refine l_iald (pc := 1289) dL_law_1289 hb2 ?_
  refine g_aload_n (pc := 1290) dL_law_1290 rfl ?_
  refine g_iload (pc := 1291) dL_law_1291 rfl ?_
  refine g_iconst (v := 3) (pc := 1293) dL_law_1293 (by decide) ?_
  refine g_iadd (pc := 1294) dL_law_1294 ?_
  refine l_iald (pc := 1295) dL_law_1295 hb3 ?_
  refine g_aload_n (pc := 1296) dL_law_1296 rfl ?_
  refine g_iload (pc := 1297) dL_law_1297 rfl ?_
  refine g_iconst (v := 4) (pc := 1299) dL_law_1299 (by decide) ?_
  refine g_iadd (pc := 1300) dL_law_1300 ?_
  refine l_iald (pc := 1301) dL_law_1301 hb4 ?_
  refine k_callVi (V := fun T => cw L T (f31 (S.1 31) q.2)) (cw_okT L (f31 (S.1 31) q.2)) (S := T) (Mc := mX12_lay) (v := p.1) (S1 := p.2) (As := [.int (L.2 (ix (i + 1))), .int (L.2 (ix (i + 2))), .int (L.2 (ix (i + 3))), .int (L.2 (ix (i + 4)))]) (rest := [.int q.1]) (q := (RX12, TX12, 58)) (pc := 1302) dL_law_1302 mK_L_141 mf_X12_lay rfl k0_53 rfl rfl rfl (Nat.le_of_ble_eq_true rfl) ⟨by omega, by show 8 + (5 + 11) + 64 * 3 ≤ R.locals; omega⟩ (r_Md_lay (V := fun T => cw L T (f31 (S.1 31) q.2)) (cw_okT L (f31 (S.1 31) q.2)) h2) ?_ hc
  show G _ _ _ _ _ _ _ _ _ [.int p.1, .int q.1] (cw L p.2 (f31 (S.1 31) q.2))
  refine g_icmp_eq (tgt := 1819) (pc := 1305) dL_law_1305 (by decide) (fun _ => ?_) (fun c => absurd he c)
  exact kk
set_option maxRecDepth 4000 in
theorem lo_27 {l : Launch} {Γ : Gm} {R : Room} {Q : QT} {cells slots : Nat} {L : Sc} {T S : Sm} {i : Int32} (hR : RmL R) (hb1 : inb (i + 1) L.1) {q : Int32 × Sm} (h1 : Dk_nets (L.2 (ix (i + 1))) S = some q) {p : Int32 × Sm} (h2 : Md_nets (L.2 (ix (i + 1))) T = some p) (he : q.1 = p.1) (hc : cells ≤ R.cells ∧ slots ≤ R.slots) (kk : G mL_law l Γ R Q (cells) (slots) 1819 [some (.ref 6), some (.ref 7), some (.ref 53), some (.ref 90), some (.int i), none, none] [] (cw L p.2 (f31 (S.1 31) q.2))) : G mL_law l Γ R Q cells slots 1310 [some (.ref 6), some (.ref 7), some (.ref 53), some (.ref 90), some (.int i), none, none] [] (cw L T S) := by
  obtain ⟨r1, r2, r3, r4⟩ := hR
  refine g_aload_n (pc := 1310) dL_law_1310 rfl ?_
  refine g_aload_n (pc := 1311) dL_law_1311 rfl ?_
  refine g_iload (pc := 1312) dL_law_1312 rfl ?_
  refine g_iconst (v := 1) (pc := 1314) dL_law_1314 (by decide) ?_
  refine g_iadd (pc := 1315) dL_law_1315 ?_
  refine l_iald (pc := 1316) dL_law_1316 hb1 ?_
  rw [← cwf_self L T S]
  refine k_callVi (cwf_ok L T (S.1 31)) (S := S) (Mc := mX11_nets) (v := q.1) (S1 := q.2) (As := [.int (L.2 (ix (i + 1)))]) (rest := []) (q := (RX11, TX11, 12)) (pc := 1317) dL_law_1317 mK_L_142 mf_X11_nets rfl k0_7 rfl rfl rfl (Nat.le_of_ble_eq_true rfl) ⟨by omega, by show 8 + (2 + 11) + 64 * 6 ≤ R.locals; omega⟩ (r_Dk_nets (cwf_ok L T (S.1 31)) h1) ?_ hc
  show G _ _ _ _ _ _ _ _ _ [.int q.1] (cw L T (f31 (S.1 31) q.2))
  refine g_aload_n (pc := 1320) dL_law_1320 rfl ?_
  refine g_aload_n (pc := 1321) dL_law_1321 rfl ?_
  refine g_iload (pc := 1322) dL_law_1322 rfl ?_
  refine g_iconst (v := 1) (pc := 1324) dL_law_1324 (by decide) ?_
  refine g_iadd (pc := 1325) dL_law_1325 ?_
  refine l_iald (pc := 1326) dL_law_1326 hb1 ?_
  refine k_callVi (V := fun T => cw L T (f31 (S.1 31) q.2)) (cw_okT L (f31 (S.1 31) q.2)) (S := T) (Mc := mX12_nets) (v := p.1) (S1 := p.2) (As := [.int (L.2 (ix (i + 1)))]) (rest := [.int q.1]) (q := (RX12, TX12, 58)) (pc := 1327) dL_law_1327 mK_L_145 mf_X12_nets rfl k0_53 rfl rfl rfl (Nat.le_of_ble_eq_true rfl) ⟨by omega, by show 8 + (2 + 11) + 64 * 12 ≤ R.locals; omega⟩ (r_Md_nets (V := fun T => cw L T (f31 (S.1 31) q.2)) (cw_okT L (f31 (S.1 31) q.2)) h2) ?_ hc
  show G _ _ _ _ _ _ _ _ _ [.int p.1, .int q.1] (cw L p.2 (f31 (S.1 31) q.2))
  refine g_icmp_eq (tgt := 1819) (pc := 1330) dL_law_1330 (by decide) (fun _ => ?_) (fun c => absurd he c)
  exact kk
set_option maxRecDepth 4000 in
theorem lo_28 {l : Launch} {Γ : Gm} {R : Room} {Q : QT} {cells slots : Nat} {L : Sc} {T S : Sm} {i : Int32} (hR : RmL R) (hb1 : inb (i + 1) L.1) {q : Int32 × Sm} (h1 : Dk_could (L.2 (ix (i + 1))) S = some q) {p : Int32 × Sm} (h2 : Md_could (L.2 (ix (i + 1))) T = some p) (he : q.1 = p.1) (hc : cells ≤ R.cells ∧ slots ≤ R.slots) (kk : G mL_law l Γ R Q (cells) (slots) 1819 [some (.ref 6), some (.ref 7), some (.ref 53), some (.ref 90), some (.int i), none, none] [] (cw L p.2 (f31 (S.1 31) q.2))) : G mL_law l Γ R Q cells slots 1335 [some (.ref 6), some (.ref 7), some (.ref 53), some (.ref 90), some (.int i), none, none] [] (cw L T S) := by
  obtain ⟨r1, r2, r3, r4⟩ := hR
  refine g_aload_n (pc := 1335) dL_law_1335 rfl ?_
  refine g_aload_n (pc := 1336) dL_law_1336 rfl ?_
  refine g_iload (pc := 1337) dL_law_1337 rfl ?_
  refine g_iconst (v := 1) (pc := 1339) dL_law_1339 (by decide) ?_
  refine g_iadd (pc := 1340) dL_law_1340 ?_
  refine l_iald (pc := 1341) dL_law_1341 hb1 ?_
  rw [← cwf_self L T S]
  refine k_callVi (cwf_ok L T (S.1 31)) (S := S) (Mc := mX11_could) (v := q.1) (S1 := q.2) (As := [.int (L.2 (ix (i + 1)))]) (rest := []) (q := (RX11, TX11, 12)) (pc := 1342) dL_law_1342 mK_L_146 mf_X11_could rfl k0_7 rfl rfl rfl (Nat.le_of_ble_eq_true rfl) ⟨by omega, by show 8 + (2 + 11) + 64 * 6 ≤ R.locals; omega⟩ (r_Dk_could (cwf_ok L T (S.1 31)) h1) ?_ hc
  show G _ _ _ _ _ _ _ _ _ [.int q.1] (cw L T (f31 (S.1 31) q.2))
  refine g_aload_n (pc := 1345) dL_law_1345 rfl ?_
  refine g_aload_n (pc := 1346) dL_law_1346 rfl ?_
  refine g_iload (pc := 1347) dL_law_1347 rfl ?_
  refine g_iconst (v := 1) (pc := 1349) dL_law_1349 (by decide) ?_
  refine g_iadd (pc := 1350) dL_law_1350 ?_
  refine l_iald (pc := 1351) dL_law_1351 hb1 ?_
  refine k_callVi (V := fun T => cw L T (f31 (S.1 31) q.2)) (cw_okT L (f31 (S.1 31) q.2)) (S := T) (Mc := mX12_could) (v := p.1) (S1 := p.2) (As := [.int (L.2 (ix (i + 1)))]) (rest := [.int q.1]) (q := (RX12, TX12, 58)) (pc := 1352) dL_law_1352 mK_L_149 mf_X12_could rfl k0_53 rfl rfl rfl (Nat.le_of_ble_eq_true rfl) ⟨by omega, by show 8 + (5 + 11) + 64 * 12 ≤ R.locals; omega⟩ (r_Md_could (V := fun T => cw L T (f31 (S.1 31) q.2)) (cw_okT L (f31 (S.1 31) q.2)) h2) ?_ hc
  show G _ _ _ _ _ _ _ _ _ [.int p.1, .int q.1] (cw L p.2 (f31 (S.1 31) q.2))
  refine g_icmp_eq (tgt := 1819) (pc := 1355) dL_law_1355 (by decide) (fun _ => ?_) (fun c => absurd he c)
  exact kk
set_option maxRecDepth 4000 in
theorem lo_29 {l : Launch} {Γ : Gm} {R : Room} {Q : QT} {cells slots : Nat} {L : Sc} {T S : Sm} {i : Int32} (hR : RmL R) (hb1 : inb (i + 1) L.1) {q : Int32 × Sm} (h1 : Dk_tells (L.2 (ix (i + 1))) S = some q) {p : Int32 × Sm} (h2 : Md_tells (L.2 (ix (i + 1))) T = some p) (he : q.1 = p.1) (hc : cells ≤ R.cells ∧ slots ≤ R.slots) (kk : G mL_law l Γ R Q (cells) (slots) 1819 [some (.ref 6), some (.ref 7), some (.ref 53), some (.ref 90), some (.int i), none, none] [] (cw L p.2 (f31 (S.1 31) q.2))) : G mL_law l Γ R Q cells slots 1360 [some (.ref 6), some (.ref 7), some (.ref 53), some (.ref 90), some (.int i), none, none] [] (cw L T S) := by
  obtain ⟨r1, r2, r3, r4⟩ := hR
  refine g_aload_n (pc := 1360) dL_law_1360 rfl ?_
  refine g_aload_n (pc := 1361) dL_law_1361 rfl ?_
  refine g_iload (pc := 1362) dL_law_1362 rfl ?_
  refine g_iconst (v := 1) (pc := 1364) dL_law_1364 (by decide) ?_
  refine g_iadd (pc := 1365) dL_law_1365 ?_
  refine l_iald (pc := 1366) dL_law_1366 hb1 ?_
  rw [← cwf_self L T S]
  refine k_callVi (cwf_ok L T (S.1 31)) (S := S) (Mc := mX11_tells) (v := q.1) (S1 := q.2) (As := [.int (L.2 (ix (i + 1)))]) (rest := []) (q := (RX11, TX11, 12)) (pc := 1367) dL_law_1367 mK_L_150 mf_X11_tells rfl k0_7 rfl rfl rfl (Nat.le_of_ble_eq_true rfl) ⟨by omega, by show 8 + (3 + 11) + 64 * 7 ≤ R.locals; omega⟩ (r_Dk_tells (cwf_ok L T (S.1 31)) h1) ?_ hc
  show G _ _ _ _ _ _ _ _ _ [.int q.1] (cw L T (f31 (S.1 31) q.2))
  refine g_aload_n (pc := 1370) dL_law_1370 rfl ?_
  refine g_aload_n (pc := 1371) dL_law_1371 rfl ?_
  refine g_iload (pc := 1372) dL_law_1372 rfl ?_
  refine g_iconst (v := 1) (pc := 1374) dL_law_1374 (by decide) ?_
  refine g_iadd (pc := 1375) dL_law_1375 ?_
  refine l_iald (pc := 1376) dL_law_1376 hb1 ?_
  refine k_callVi (V := fun T => cw L T (f31 (S.1 31) q.2)) (cw_okT L (f31 (S.1 31) q.2)) (S := T) (Mc := mX12_tells) (v := p.1) (S1 := p.2) (As := [.int (L.2 (ix (i + 1)))]) (rest := [.int q.1]) (q := (RX12, TX12, 58)) (pc := 1377) dL_law_1377 mK_L_153 mf_X12_tells rfl k0_53 rfl rfl rfl (Nat.le_of_ble_eq_true rfl) ⟨by omega, by show 8 + (8 + 11) + 64 * 12 ≤ R.locals; omega⟩ (r_Md_tells (V := fun T => cw L T (f31 (S.1 31) q.2)) (cw_okT L (f31 (S.1 31) q.2)) h2) ?_ hc
  show G _ _ _ _ _ _ _ _ _ [.int p.1, .int q.1] (cw L p.2 (f31 (S.1 31) q.2))
  refine g_icmp_eq (tgt := 1819) (pc := 1380) dL_law_1380 (by decide) (fun _ => ?_) (fun c => absurd he c)
  exact kk
set_option maxRecDepth 4000 in
theorem lo_30 {l : Launch} {Γ : Gm} {R : Room} {Q : QT} {cells slots : Nat} {L : Sc} {T S : Sm} {i : Int32} (hR : RmL R) (hb1 : inb (i + 1) L.1) (hb2 : inb (i + 2) L.1) (hb3 : inb (i + 3) L.1) {q : Int32} (h1 : Dk_yards (L.2 (ix (i + 1))) (L.2 (ix (i + 2))) (L.2 (ix (i + 3))) S = some q) {p : Int32} (h2 : Md_yards (L.2 (ix (i + 1))) (L.2 (ix (i + 2))) (L.2 (ix (i + 3))) T = some p) (he : q = p) (hc : cells ≤ R.cells ∧ slots ≤ R.slots) (kk : G mL_law l Γ R Q (cells) (slots) 1819 [some (.ref 6), some (.ref 7), some (.ref 53), some (.ref 90), some (.int i), none, none] [] (cw L T S)) : G mL_law l Γ R Q cells slots 1385 [some (.ref 6), some (.ref 7), some (.ref 53), some (.ref 90), some (.int i), none, none] [] (cw L T S) := by
  obtain ⟨r1, r2, r3, r4⟩ := hR
  refine g_aload_n (pc := 1385) dL_law_1385 rfl ?_
  refine g_aload_n (pc := 1386) dL_law_1386 rfl ?_
  refine g_iload (pc := 1387) dL_law_1387 rfl ?_
  refine g_iconst (v := 1) (pc := 1389) dL_law_1389 (by decide) ?_
  refine g_iadd (pc := 1390) dL_law_1390 ?_
  refine l_iald (pc := 1391) dL_law_1391 hb1 ?_
  refine g_aload_n (pc := 1392) dL_law_1392 rfl ?_
  refine g_iload (pc := 1393) dL_law_1393 rfl ?_
  refine g_iconst (v := 2) (pc := 1395) dL_law_1395 (by decide) ?_
  refine g_iadd (pc := 1396) dL_law_1396 ?_
  refine l_iald (pc := 1397) dL_law_1397 hb2 ?_
  refine g_aload_n (pc := 1398) dL_law_1398 rfl ?_
  refine g_iload (pc := 1399) dL_law_1399 rfl ?_
  refine g_iconst (v := 3) (pc := 1401) dL_law_1401 (by decide) ?_
  refine g_iadd (pc := 1402) dL_law_1402 ?_
  refine l_iald (pc := 1403) dL_law_1403 hb3 ?_
  refine k_callVi (cw_ok L T) (S := S) (Mc := mX11_yards) (v := q) (S1 := S) (As := [.int (L.2 (ix (i + 1))), .int (L.2 (ix (i + 2))), .int (L.2 (ix (i + 3)))]) (rest := []) (q := (RX11, TX11, 12)) (pc := 1404) dL_law_1404 mK_L_154 mf_X11_yards rfl k0_7 rfl rfl rfl (Nat.le_of_ble_eq_true rfl) ⟨by omega, by show 8 + (4 + 11) + 64 * 5 ≤ R.locals; omega⟩ (r_Dk_yards (cw_ok L T) h1) ?_ hc
  refine g_aload_n (pc := 1407) dL_law_1407 rfl ?_
  refine g_aload_n (pc := 1408) dL_law_1408 rfl ?_
  refine g_iload (pc := 1409) dL_law_1409 rfl ?_
  refine g_iconst (v := 1) (pc := 1411) dL_law_1411 (by decide) ?_
  refine g_iadd (pc := 1412) dL_law_1412 ?_
  refine l_iald (pc := 1413) dL_law_1413 hb1 ?_
  refine g_aload_n (pc := 1414) dL_law_1414 rfl ?_
  refine g_iload (pc := 1415) dL_law_1415 rfl ?_
  refine g_iconst (v := 2) (pc := 1417) dL_law_1417 (by decide) ?_
  refine g_iadd (pc := 1418) dL_law_1418 ?_
  refine l_iald (pc := 1419) dL_law_1419 hb2 ?_
  refine g_aload_n (pc := 1420) dL_law_1420 rfl ?_
  refine g_iload (pc := 1421) dL_law_1421 rfl ?_
  refine g_iconst (v := 3) (pc := 1423) dL_law_1423 (by decide) ?_
  refine g_iadd (pc := 1424) dL_law_1424 ?_
  refine l_iald (pc := 1425) dL_law_1425 hb3 ?_
  refine k_callVi (V := fun T => cw L T S) (cw_okT L S) (S := T) (Mc := mX12_yards) (v := p) (S1 := T) (As := [.int (L.2 (ix (i + 1))), .int (L.2 (ix (i + 2))), .int (L.2 (ix (i + 3)))]) (rest := [.int q]) (q := (RX12, TX12, 58)) (pc := 1426) dL_law_1426 mK_L_157 mf_X12_yards rfl k0_53 rfl rfl rfl (Nat.le_of_ble_eq_true rfl) ⟨by omega, by show 8 + (6 + 11) + 64 * 3 ≤ R.locals; omega⟩ (r_Md_yards (V := fun T => cw L T S) (cw_okT L S) h2) ?_ hc
  show G _ _ _ _ _ _ _ _ _ [.int p, .int q] (cw L T S)
  refine g_icmp_eq (tgt := 1819) (pc := 1429) dL_law_1429 (by decide) (fun _ => ?_) (fun c => absurd he c)
  exact kk
set_option maxRecDepth 4000 in
theorem lo_31 {l : Launch} {Γ : Gm} {R : Room} {Q : QT} {cells slots : Nat} {L : Sc} {T S : Sm} {i : Int32} (hR : RmL R) (hb1 : inb (i + 1) L.1) (hb2 : inb (i + 2) L.1) {q : Int32 × Sm} (h1 : Dk_unseen (L.2 (ix (i + 1))) (L.2 (ix (i + 2))) S = some q) {p : Int32 × Sm} (h2 : Md_unseen (L.2 (ix (i + 1))) (L.2 (ix (i + 2))) T = some p) (he : q.1 = p.1) (hc : cells ≤ R.cells ∧ slots ≤ R.slots) (kk : G mL_law l Γ R Q (cells) (slots) 1819 [some (.ref 6), some (.ref 7), some (.ref 53), some (.ref 90), some (.int i), none, none] [] (cw L p.2 (f31 (S.1 31) q.2))) : G mL_law l Γ R Q cells slots 1434 [some (.ref 6), some (.ref 7), some (.ref 53), some (.ref 90), some (.int i), none, none] [] (cw L T S) := by
  obtain ⟨r1, r2, r3, r4⟩ := hR
  refine g_aload_n (pc := 1434) dL_law_1434 rfl ?_
  refine g_aload_n (pc := 1435) dL_law_1435 rfl ?_
  refine g_iload (pc := 1436) dL_law_1436 rfl ?_
  refine g_iconst (v := 1) (pc := 1438) dL_law_1438 (by decide) ?_
  refine g_iadd (pc := 1439) dL_law_1439 ?_
  refine l_iald (pc := 1440) dL_law_1440 hb1 ?_
  refine g_aload_n (pc := 1441) dL_law_1441 rfl ?_
  refine g_iload (pc := 1442) dL_law_1442 rfl ?_
  refine g_iconst (v := 2) (pc := 1444) dL_law_1444 (by decide) ?_
  refine g_iadd (pc := 1445) dL_law_1445 ?_
  refine l_iald (pc := 1446) dL_law_1446 hb2 ?_
  rw [← cwf_self L T S]
  refine k_callVi (cwf_ok L T (S.1 31)) (S := S) (Mc := mX11_unseen) (v := q.1) (S1 := q.2) (As := [.int (L.2 (ix (i + 1))), .int (L.2 (ix (i + 2)))]) (rest := []) (q := (RX11, TX11, 12)) (pc := 1447) dL_law_1447 mK_L_158 mf_X11_unseen rfl k0_7 rfl rfl rfl (Nat.le_of_ble_eq_true rfl) ⟨by omega, by show 8 + (3 + 11) + 64 * 8 ≤ R.locals; omega⟩ (r_Dk_unseen (cwf_ok L T (S.1 31)) h1) ?_ hc
  show G _ _ _ _ _ _ _ _ _ [.int q.1] (cw L T (f31 (S.1 31) q.2))
  refine g_aload_n (pc := 1450) dL_law_1450 rfl ?_
  refine g_aload_n (pc := 1451) dL_law_1451 rfl ?_
  refine g_iload (pc := 1452) dL_law_1452 rfl ?_
  refine g_iconst (v := 1) (pc := 1454) dL_law_1454 (by decide) ?_
  refine g_iadd (pc := 1455) dL_law_1455 ?_
  refine l_iald (pc := 1456) dL_law_1456 hb1 ?_
  refine g_aload_n (pc := 1457) dL_law_1457 rfl ?_
  refine g_iload (pc := 1458) dL_law_1458 rfl ?_
  refine g_iconst (v := 2) (pc := 1460) dL_law_1460 (by decide) ?_
  refine g_iadd (pc := 1461) dL_law_1461 ?_
  refine l_iald (pc := 1462) dL_law_1462 hb2 ?_
  refine k_callVi (V := fun T => cw L T (f31 (S.1 31) q.2)) (cw_okT L (f31 (S.1 31) q.2)) (S := T) (Mc := mX12_unseen) (v := p.1) (S1 := p.2) (As := [.int (L.2 (ix (i + 1))), .int (L.2 (ix (i + 2)))]) (rest := [.int q.1]) (q := (RX12, TX12, 58)) (pc := 1463) dL_law_1463 mK_L_161 mf_X12_unseen rfl k0_53 rfl rfl rfl (Nat.le_of_ble_eq_true rfl) ⟨by omega, by show 8 + (3 + 11) + 64 * 8 ≤ R.locals; omega⟩ (r_Md_unseen (V := fun T => cw L T (f31 (S.1 31) q.2)) (cw_okT L (f31 (S.1 31) q.2)) h2) ?_ hc
  show G _ _ _ _ _ _ _ _ _ [.int p.1, .int q.1] (cw L p.2 (f31 (S.1 31) q.2))
  refine g_icmp_eq (tgt := 1819) (pc := 1466) dL_law_1466 (by decide) (fun _ => ?_) (fun c => absurd he c)
  exact kk
set_option maxRecDepth 4000 in
theorem lo_32 {l : Launch} {Γ : Gm} {R : Room} {Q : QT} {cells slots : Nat} {L : Sc} {T S : Sm} {i : Int32} (hR : RmL R) (hb1 : inb (i + 1) L.1) (hb2 : inb (i + 2) L.1) {q : Int32 × Sm} (h1 : Dk_posts (L.2 (ix (i + 1))) (L.2 (ix (i + 2))) S = some q) {p : Int32 × Sm} (h2 : Md_posts (L.2 (ix (i + 1))) (L.2 (ix (i + 2))) T = some p) (he : q.1 = p.1) (hc : cells ≤ R.cells ∧ slots ≤ R.slots) (kk : G mL_law l Γ R Q (cells) (slots) 1819 [some (.ref 6), some (.ref 7), some (.ref 53), some (.ref 90), some (.int i), none, none] [] (cw L p.2 (f31 (S.1 31) q.2))) : G mL_law l Γ R Q cells slots 1471 [some (.ref 6), some (.ref 7), some (.ref 53), some (.ref 90), some (.int i), none, none] [] (cw L T S) := by
  obtain ⟨r1, r2, r3, r4⟩ := hR
  refine g_aload_n (pc := 1471) dL_law_1471 rfl ?_
  refine g_aload_n (pc := 1472) dL_law_1472 rfl ?_
  refine g_iload (pc := 1473) dL_law_1473 rfl ?_
  refine g_iconst (v := 1) (pc := 1475) dL_law_1475 (by decide) ?_
  refine g_iadd (pc := 1476) dL_law_1476 ?_
  refine l_iald (pc := 1477) dL_law_1477 hb1 ?_
  refine g_aload_n (pc := 1478) dL_law_1478 rfl ?_
  refine g_iload (pc := 1479) dL_law_1479 rfl ?_
  refine g_iconst (v := 2) (pc := 1481) dL_law_1481 (by decide) ?_
  refine g_iadd (pc := 1482) dL_law_1482 ?_
  refine l_iald (pc := 1483) dL_law_1483 hb2 ?_
  rw [← cwf_self L T S]
  refine k_callVi (cwf_ok L T (S.1 31)) (S := S) (Mc := mX11_posts) (v := q.1) (S1 := q.2) (As := [.int (L.2 (ix (i + 1))), .int (L.2 (ix (i + 2)))]) (rest := []) (q := (RX11, TX11, 12)) (pc := 1484) dL_law_1484 mK_L_162 mf_X11_posts rfl k0_7 rfl rfl rfl (Nat.le_of_ble_eq_true rfl) ⟨by omega, by show 8 + (3 + 11) + 64 * 6 ≤ R.locals; omega⟩ (r_Dk_posts (cwf_ok L T (S.1 31)) h1) ?_ hc
  show G _ _ _ _ _ _ _ _ _ [.int q.1] (cw L T (f31 (S.1 31) q.2))
  refine g_aload_n (pc := 1487) dL_law_1487 rfl ?_
  refine g_aload_n (pc := 1488) dL_law_1488 rfl ?_
  refine g_iload (pc := 1489) dL_law_1489 rfl ?_
  refine g_iconst (v := 1) (pc := 1491) dL_law_1491 (by decide) ?_
  refine g_iadd (pc := 1492) dL_law_1492 ?_
  refine l_iald (pc := 1493) dL_law_1493 hb1 ?_
  refine g_aload_n (pc := 1494) dL_law_1494 rfl ?_
  refine g_iload (pc := 1495) dL_law_1495 rfl ?_
  refine g_iconst (v := 2) (pc := 1497) dL_law_1497 (by decide) ?_
  refine g_iadd (pc := 1498) dL_law_1498 ?_
  refine l_iald (pc := 1499) dL_law_1499 hb2 ?_
  refine k_callVi (V := fun T => cw L T (f31 (S.1 31) q.2)) (cw_okT L (f31 (S.1 31) q.2)) (S := T) (Mc := mX12_posts) (v := p.1) (S1 := p.2) (As := [.int (L.2 (ix (i + 1))), .int (L.2 (ix (i + 2)))]) (rest := [.int q.1]) (q := (RX12, TX12, 58)) (pc := 1500) dL_law_1500 mK_L_165 mf_X12_posts rfl k0_53 rfl rfl rfl (Nat.le_of_ble_eq_true rfl) ⟨by omega, by show 8 + (5 + 11) + 64 * 8 ≤ R.locals; omega⟩ (r_Md_posts (V := fun T => cw L T (f31 (S.1 31) q.2)) (cw_okT L (f31 (S.1 31) q.2)) h2) ?_ hc
  show G _ _ _ _ _ _ _ _ _ [.int p.1, .int q.1] (cw L p.2 (f31 (S.1 31) q.2))
  refine g_icmp_eq (tgt := 1819) (pc := 1503) dL_law_1503 (by decide) (fun _ => ?_) (fun c => absurd he c)
  exact kk
set_option maxRecDepth 4000 in
theorem lo_33 {l : Launch} {Γ : Gm} {R : Room} {Q : QT} {cells slots : Nat} {L : Sc} {T S : Sm} {i : Int32} (hR : RmL R) (hb1 : inb (i + 1) L.1) (hb2 : inb (i + 2) L.1) (hb3 : inb (i + 3) L.1) {q : Int32} (h1 : Dk_halves (L.2 (ix (i + 1))) (L.2 (ix (i + 2))) (L.2 (ix (i + 3))) S = some q) {p : Int32 × Sm} (h2 : Md_halves (L.2 (ix (i + 1))) (L.2 (ix (i + 2))) (L.2 (ix (i + 3))) T = some p) (he : q = p.1) (hc : cells ≤ R.cells ∧ slots ≤ R.slots) (kk : G mL_law l Γ R Q (cells) (slots) 1819 [some (.ref 6), some (.ref 7), some (.ref 53), some (.ref 90), some (.int i), none, none] [] (cw L p.2 S)) : G mL_law l Γ R Q cells slots 1508 [some (.ref 6), some (.ref 7), some (.ref 53), some (.ref 90), some (.int i), none, none] [] (cw L T S) := by
  obtain ⟨r1, r2, r3, r4⟩ := hR
  refine g_aload_n (pc := 1508) dL_law_1508 rfl ?_
  refine g_aload_n (pc := 1509) dL_law_1509 rfl ?_
  refine g_iload (pc := 1510) dL_law_1510 rfl ?_
  refine g_iconst (v := 1) (pc := 1512) dL_law_1512 (by decide) ?_
  refine g_iadd (pc := 1513) dL_law_1513 ?_
  refine l_iald (pc := 1514) dL_law_1514 hb1 ?_
  refine g_aload_n (pc := 1515) dL_law_1515 rfl ?_
  refine g_iload (pc := 1516) dL_law_1516 rfl ?_
  refine g_iconst (v := 2) (pc := 1518) dL_law_1518 (by decide) ?_
  refine g_iadd (pc := 1519) dL_law_1519 ?_
  refine l_iald (pc := 1520) dL_law_1520 hb2 ?_
  refine g_aload_n (pc := 1521) dL_law_1521 rfl ?_
  refine g_iload (pc := 1522) dL_law_1522 rfl ?_
  refine g_iconst (v := 3) (pc := 1524) dL_law_1524 (by decide) ?_
  refine g_iadd (pc := 1525) dL_law_1525 ?_
  refine l_iald (pc := 1526) dL_law_1526 hb3 ?_
  refine k_callVi (cw_ok L T) (S := S) (Mc := mX11_halves) (v := q) (S1 := S) (As := [.int (L.2 (ix (i + 1))), .int (L.2 (ix (i + 2))), .int (L.2 (ix (i + 3)))]) (rest := []) (q := (RX11, TX11, 12)) (pc := 1527) dL_law_1527 mK_L_166 mf_X11_halves rfl k0_7 rfl rfl rfl (Nat.le_of_ble_eq_true rfl) ⟨by omega, by show 8 + (4 + 11) + 64 * 5 ≤ R.locals; omega⟩ (r_Dk_halves (cw_ok L T) h1) ?_ hc
  refine g_aload_n (pc := 1530) dL_law_1530 rfl ?_
  refine g_aload_n (pc := 1531) dL_law_1531 rfl ?_
  refine g_iload (pc := 1532) dL_law_1532 rfl ?_
  refine g_iconst (v := 1) (pc := 1534) dL_law_1534 (by decide) ?_
  refine g_iadd (pc := 1535) dL_law_1535 ?_
  refine l_iald (pc := 1536) dL_law_1536 hb1 ?_
  refine g_aload_n (pc := 1537) dL_law_1537 rfl ?_
  refine g_iload (pc := 1538) dL_law_1538 rfl ?_
  refine g_iconst (v := 2) (pc := 1540) dL_law_1540 (by decide) ?_
  refine g_iadd (pc := 1541) dL_law_1541 ?_
  refine l_iald (pc := 1542) dL_law_1542 hb2 ?_
  refine g_aload_n (pc := 1543) dL_law_1543 rfl ?_
  refine g_iload (pc := 1544) dL_law_1544 rfl ?_
  refine g_iconst (v := 3) (pc := 1546) dL_law_1546 (by decide) ?_
  refine g_iadd (pc := 1547) dL_law_1547 ?_
  refine l_iald (pc := 1548) dL_law_1548 hb3 ?_
  refine k_callVi (V := fun T => cw L T S) (cw_okT L S) (S := T) (Mc := mX12_halves) (v := p.1) (S1 := p.2) (As := [.int (L.2 (ix (i + 1))), .int (L.2 (ix (i + 2))), .int (L.2 (ix (i + 3)))]) (rest := [.int q]) (q := (RX12, TX12, 58)) (pc := 1549) dL_law_1549 mK_L_169 mf_X12_halves rfl k0_53 rfl rfl rfl (Nat.le_of_ble_eq_true rfl) ⟨by omega, by show 8 + (5 + 11) + 64 * 3 ≤ R.locals; omega⟩ (r_Md_halves (V := fun T => cw L T S) (cw_okT L S) h2) ?_ hc
  show G _ _ _ _ _ _ _ _ _ [.int p.1, .int q] (cw L p.2 S)
  refine g_icmp_eq (tgt := 1819) (pc := 1552) dL_law_1552 (by decide) (fun _ => ?_) (fun c => absurd he c)
  exact kk
set_option maxRecDepth 4000 in
theorem lo_34 {l : Launch} {Γ : Gm} {R : Room} {Q : QT} {cells slots : Nat} {L : Sc} {T S : Sm} {i : Int32} (hR : RmL R) (hb1 : inb (i + 1) L.1) (hb2 : inb (i + 2) L.1) (hb3 : inb (i + 3) L.1) (hb4 : inb (i + 4) L.1) {q : Int32} (h1 : Dk_smuggles (L.2 (ix (i + 1))) (L.2 (ix (i + 2))) (L.2 (ix (i + 3))) (L.2 (ix (i + 4))) S = some q) {p : Int32} (h2 : Md_smuggles (L.2 (ix (i + 1))) (L.2 (ix (i + 2))) (L.2 (ix (i + 3))) (L.2 (ix (i + 4))) T = some p) (he : q = p) (hc : cells ≤ R.cells ∧ slots ≤ R.slots) (kk : G mL_law l Γ R Q (cells) (slots) 1819 [some (.ref 6), some (.ref 7), some (.ref 53), some (.ref 90), some (.int i), none, none] [] (cw L T S)) : G mL_law l Γ R Q cells slots 1557 [some (.ref 6), some (.ref 7), some (.ref 53), some (.ref 90), some (.int i), none, none] [] (cw L T S) := by
  obtain ⟨r1, r2, r3, r4⟩ := hR
  refine g_aload_n (pc := 1557) dL_law_1557 rfl ?_
  refine g_aload_n (pc := 1558) dL_law_1558 rfl ?_
  refine g_iload (pc := 1559) dL_law_1559 rfl ?_
  refine g_iconst (v := 1) (pc := 1561) dL_law_1561 (by decide) ?_
  refine g_iadd (pc := 1562) dL_law_1562 ?_
  refine l_iald (pc := 1563) dL_law_1563 hb1 ?_
  refine g_aload_n (pc := 1564) dL_law_1564 rfl ?_
  refine g_iload (pc := 1565) dL_law_1565 rfl ?_
  refine g_iconst (v := 2) (pc := 1567) dL_law_1567 (by decide) ?_
  refine g_iadd (pc := 1568) dL_law_1568 ?_
  refine l_iald (pc := 1569) dL_law_1569 hb2 ?_
  refine g_aload_n (pc := 1570) dL_law_1570 rfl ?_
  refine g_iload (pc := 1571) dL_law_1571 rfl ?_
  refine g_iconst (v := 3) (pc := 1573) dL_law_1573 (by decide) ?_
  refine g_iadd (pc := 1574) dL_law_1574 ?_
  refine l_iald (pc := 1575) dL_law_1575 hb3 ?_
  refine g_aload_n (pc := 1576) dL_law_1576 rfl ?_
  refine g_iload (pc := 1577) dL_law_1577 rfl ?_
  refine g_iconst (v := 4) (pc := 1579) dL_law_1579 (by decide) ?_
  refine g_iadd (pc := 1580) dL_law_1580 ?_
  refine l_iald (pc := 1581) dL_law_1581 hb4 ?_
  refine k_callVi (cw_ok L T) (S := S) (Mc := mX11_smuggles) (v := q) (S1 := S) (As := [.int (L.2 (ix (i + 1))), .int (L.2 (ix (i + 2))), .int (L.2 (ix (i + 3))), .int (L.2 (ix (i + 4)))]) (rest := []) (q := (RX11, TX11, 12)) (pc := 1582) dL_law_1582 mK_L_170 mf_X11_smuggles rfl k0_7 rfl rfl rfl (Nat.le_of_ble_eq_true rfl) ⟨by omega, by show 8 + (5 + 11) + 64 * 4 ≤ R.locals; omega⟩ (r_Dk_smuggles (cw_ok L T) h1) ?_ hc
  refine g_aload_n (pc := 1585) dL_law_1585 rfl ?_
  refine g_aload_n (pc := 1586) dL_law_1586 rfl ?_
  refine g_iload (pc := 1587) dL_law_1587 rfl ?_
  refine g_iconst (v := 1) (pc := 1589) dL_law_1589 (by decide) ?_
  refine g_iadd (pc := 1590) dL_law_1590 ?_
  refine l_iald (pc := 1591) dL_law_1591 hb1 ?_
  refine g_aload_n (pc := 1592) dL_law_1592 rfl ?_
  refine g_iload (pc := 1593) dL_law_1593 rfl ?_
  refine g_iconst (v := 2) (pc := 1595) dL_law_1595 (by decide) ?_
  refine g_iadd (pc := 1596) dL_law_1596 ?_
  refine l_iald (pc := 1597) dL_law_1597 hb2 ?_
  refine g_aload_n (pc := 1598) dL_law_1598 rfl ?_
  refine g_iload (pc := 1599) dL_law_1599 rfl ?_
  refine g_iconst (v := 3) (pc := 1601) dL_law_1601 (by decide) ?_
  refine g_iadd (pc := 1602) dL_law_1602 ?_
  refine l_iald (pc := 1603) dL_law_1603 hb3 ?_
  refine g_aload_n (pc := 1604) dL_law_1604 rfl ?_
  refine g_iload (pc := 1605) dL_law_1605 rfl ?_
  refine g_iconst (v := 4) (pc := 1607) dL_law_1607 (by decide) ?_
  refine g_iadd (pc := 1608) dL_law_1608 ?_
  refine l_iald (pc := 1609) dL_law_1609 hb4 ?_
  refine k_callVi (V := fun T => cw L T S) (cw_okT L S) (S := T) (Mc := mX12_smuggles) (v := p) (S1 := T) (As := [.int (L.2 (ix (i + 1))), .int (L.2 (ix (i + 2))), .int (L.2 (ix (i + 3))), .int (L.2 (ix (i + 4)))]) (rest := [.int q]) (q := (RX12, TX12, 58)) (pc := 1610) dL_law_1610 mK_L_173 mf_X12_smuggles rfl k0_53 rfl rfl rfl (Nat.le_of_ble_eq_true rfl) ⟨by omega, by show 8 + (5 + 11) + 64 * 3 ≤ R.locals; omega⟩ (r_Md_smuggles (V := fun T => cw L T S) (cw_okT L S) h2) ?_ hc
  show G _ _ _ _ _ _ _ _ _ [.int p, .int q] (cw L T S)
  refine g_icmp_eq (tgt := 1819) (pc := 1613) dL_law_1613 (by decide) (fun _ => ?_) (fun c => absurd he c)
  exact kk
set_option maxRecDepth 4000 in
theorem lo_35 {l : Launch} {Γ : Gm} {R : Room} {Q : QT} {cells slots : Nat} {L : Sc} {T S : Sm} {i : Int32} (hR : RmL R) (hb1 : inb (i + 1) L.1) (hb2 : inb (i + 2) L.1) (hb3 : inb (i + 3) L.1) {q : Int32} (h1 : Dk_rests (L.2 (ix (i + 1))) (L.2 (ix (i + 2))) (L.2 (ix (i + 3))) S = some q) {p : Int32} (h2 : Md_rests (L.2 (ix (i + 1))) (L.2 (ix (i + 2))) (L.2 (ix (i + 3))) T = some p) (he : q = p) (hc : cells ≤ R.cells ∧ slots ≤ R.slots) (kk : G mL_law l Γ R Q (cells) (slots) 1819 [some (.ref 6), some (.ref 7), some (.ref 53), some (.ref 90), some (.int i), none, none] [] (cw L T S)) : G mL_law l Γ R Q cells slots 1618 [some (.ref 6), some (.ref 7), some (.ref 53), some (.ref 90), some (.int i), none, none] [] (cw L T S) := by
  obtain ⟨r1, r2, r3, r4⟩ := hR
  refine g_aload_n (pc := 1618) dL_law_1618 rfl ?_
  refine g_aload_n (pc := 1619) dL_law_1619 rfl ?_
  refine g_iload (pc := 1620) dL_law_1620 rfl ?_
  refine g_iconst (v := 1) (pc := 1622) dL_law_1622 (by decide) ?_
  refine g_iadd (pc := 1623) dL_law_1623 ?_
  refine l_iald (pc := 1624) dL_law_1624 hb1 ?_
  refine g_aload_n (pc := 1625) dL_law_1625 rfl ?_
  refine g_iload (pc := 1626) dL_law_1626 rfl ?_
  refine g_iconst (v := 2) (pc := 1628) dL_law_1628 (by decide) ?_
  refine g_iadd (pc := 1629) dL_law_1629 ?_
  refine l_iald (pc := 1630) dL_law_1630 hb2 ?_
  refine g_aload_n (pc := 1631) dL_law_1631 rfl ?_
  refine g_iload (pc := 1632) dL_law_1632 rfl ?_
  refine g_iconst (v := 3) (pc := 1634) dL_law_1634 (by decide) ?_
  refine g_iadd (pc := 1635) dL_law_1635 ?_
  refine l_iald (pc := 1636) dL_law_1636 hb3 ?_
  refine k_callVi (cw_ok L T) (S := S) (Mc := mX11_rests) (v := q) (S1 := S) (As := [.int (L.2 (ix (i + 1))), .int (L.2 (ix (i + 2))), .int (L.2 (ix (i + 3)))]) (rest := []) (q := (RX11, TX11, 12)) (pc := 1637) dL_law_1637 mK_L_174 mf_X11_rests rfl k0_7 rfl rfl rfl (Nat.le_of_ble_eq_true rfl) ⟨by omega, by show 8 + (4 + 11) + 64 * 6 ≤ R.locals; omega⟩ (r_Dk_rests (cw_ok L T) h1) ?_ hc
  refine g_aload_n (pc := 1640) dL_law_1640 rfl ?_
  refine g_aload_n (pc := 1641) dL_law_1641 rfl ?_
  refine g_iload (pc := 1642) dL_law_1642 rfl ?_
  refine g_iconst (v := 1) (pc := 1644) dL_law_1644 (by decide) ?_
  refine g_iadd (pc := 1645) dL_law_1645 ?_
  refine l_iald (pc := 1646) dL_law_1646 hb1 ?_
  refine g_aload_n (pc := 1647) dL_law_1647 rfl ?_
  refine g_iload (pc := 1648) dL_law_1648 rfl ?_
  refine g_iconst (v := 2) (pc := 1650) dL_law_1650 (by decide) ?_
  refine g_iadd (pc := 1651) dL_law_1651 ?_
  refine l_iald (pc := 1652) dL_law_1652 hb2 ?_
  refine g_aload_n (pc := 1653) dL_law_1653 rfl ?_
  refine g_iload (pc := 1654) dL_law_1654 rfl ?_
  refine g_iconst (v := 3) (pc := 1656) dL_law_1656 (by decide) ?_
  refine g_iadd (pc := 1657) dL_law_1657 ?_
  refine l_iald (pc := 1658) dL_law_1658 hb3 ?_
  refine k_callVi (V := fun T => cw L T S) (cw_okT L S) (S := T) (Mc := mX12_rests) (v := p) (S1 := T) (As := [.int (L.2 (ix (i + 1))), .int (L.2 (ix (i + 2))), .int (L.2 (ix (i + 3)))]) (rest := [.int q]) (q := (RX12, TX12, 58)) (pc := 1659) dL_law_1659 mK_L_177 mf_X12_rests rfl k0_53 rfl rfl rfl (Nat.le_of_ble_eq_true rfl) ⟨by omega, by show 8 + (7 + 11) + 64 * 4 ≤ R.locals; omega⟩ (r_Md_rests (V := fun T => cw L T S) (cw_okT L S) h2) ?_ hc
  show G _ _ _ _ _ _ _ _ _ [.int p, .int q] (cw L T S)
  refine g_icmp_eq (tgt := 1819) (pc := 1662) dL_law_1662 (by decide) (fun _ => ?_) (fun c => absurd he c)
  exact kk
set_option maxRecDepth 4000 in
theorem lo_36 {l : Launch} {Γ : Gm} {R : Room} {Q : QT} {cells slots : Nat} {L : Sc} {T S : Sm} {i : Int32} (hR : RmL R)  {q : Int32} (h1 : Dk_astray S = some q) {p : Int32} (h2 : Md_astray T = some p) (he : q = p) (hc : cells ≤ R.cells ∧ slots ≤ R.slots) (kk : G mL_law l Γ R Q (cells) (slots) 1819 [some (.ref 6), some (.ref 7), some (.ref 53), some (.ref 90), some (.int i), none, none] [] (cw L T S)) : G mL_law l Γ R Q cells slots 1667 [some (.ref 6), some (.ref 7), some (.ref 53), some (.ref 90), some (.int i), none, none] [] (cw L T S) := by
  obtain ⟨r1, r2, r3, r4⟩ := hR
  refine g_aload_n (pc := 1667) dL_law_1667 rfl ?_
  refine k_callVi (cw_ok L T) (S := S) (Mc := mX11_astray) (v := q) (S1 := S) (As := []) (rest := []) (q := (RX11, TX11, 12)) (pc := 1668) dL_law_1668 mK_L_178 mf_X11_astray rfl k0_7 rfl rfl rfl (Nat.le_of_ble_eq_true rfl) ⟨by omega, by show 8 + (1 + 11) + 64 * 3 ≤ R.locals; omega⟩ (r_Dk_astray (cw_ok L T) h1) ?_ hc
  refine g_aload_n (pc := 1671) dL_law_1671 rfl ?_
  refine k_callVi (V := fun T => cw L T S) (cw_okT L S) (S := T) (Mc := mX12_astray) (v := p) (S1 := T) (As := []) (rest := [.int q]) (q := (RX12, TX12, 58)) (pc := 1672) dL_law_1672 mK_L_181 mf_X12_astray rfl k0_53 rfl rfl rfl (Nat.le_of_ble_eq_true rfl) ⟨by omega, by show 8 + (3 + 11) + 64 * 1 ≤ R.locals; omega⟩ (r_Md_astray (V := fun T => cw L T S) (cw_okT L S) h2) ?_ hc
  show G _ _ _ _ _ _ _ _ _ [.int p, .int q] (cw L T S)
  refine g_icmp_eq (tgt := 1819) (pc := 1675) dL_law_1675 (by decide) (fun _ => ?_) (fun c => absurd he c)
  exact kk
set_option maxRecDepth 4000 in
theorem lo_37 {l : Launch} {Γ : Gm} {R : Room} {Q : QT} {cells slots : Nat} {L : Sc} {T S : Sm} {i : Int32} (hR : RmL R) (hb1 : inb (i + 1) L.1) {q : Int32} (h1 : Dk_due (L.2 (ix (i + 1))) S = q) {p : Int32} (h2 : Md_due (L.2 (ix (i + 1))) T = some p) (he : q = p) (hc : cells ≤ R.cells ∧ slots ≤ R.slots) (kk : G mL_law l Γ R Q (cells) (slots) 1819 [some (.ref 6), some (.ref 7), some (.ref 53), some (.ref 90), some (.int i), none, none] [] (cw L T S)) : G mL_law l Γ R Q cells slots 1680 [some (.ref 6), some (.ref 7), some (.ref 53), some (.ref 90), some (.int i), none, none] [] (cw L T S) := by
  obtain ⟨r1, r2, r3, r4⟩ := hR
  refine g_aload_n (pc := 1680) dL_law_1680 rfl ?_
  refine g_aload_n (pc := 1681) dL_law_1681 rfl ?_
  refine g_iload (pc := 1682) dL_law_1682 rfl ?_
  refine g_iconst (v := 1) (pc := 1684) dL_law_1684 (by decide) ?_
  refine g_iadd (pc := 1685) dL_law_1685 ?_
  refine l_iald (pc := 1686) dL_law_1686 hb1 ?_
  refine k_callVi (cw_ok L T) (S := S) (Mc := mX11_due) (v := q) (S1 := S) (As := [.int (L.2 (ix (i + 1)))]) (rest := []) (q := (RX11, TX11, 12)) (pc := 1687) dL_law_1687 mK_L_182 mf_X11_due rfl k0_7 rfl rfl rfl (Nat.le_of_ble_eq_true rfl) ⟨by omega, by show 8 + (2 + 11) + 64 * 3 ≤ R.locals; omega⟩ (r_Dk_due (cw_ok L T) h1) ?_ hc
  refine g_aload_n (pc := 1690) dL_law_1690 rfl ?_
  refine g_aload_n (pc := 1691) dL_law_1691 rfl ?_
  refine g_iload (pc := 1692) dL_law_1692 rfl ?_
  refine g_iconst (v := 1) (pc := 1694) dL_law_1694 (by decide) ?_
  refine g_iadd (pc := 1695) dL_law_1695 ?_
  refine l_iald (pc := 1696) dL_law_1696 hb1 ?_
  refine k_callVi (V := fun T => cw L T S) (cw_okT L S) (S := T) (Mc := mX12_due) (v := p) (S1 := T) (As := [.int (L.2 (ix (i + 1)))]) (rest := [.int q]) (q := (RX12, TX12, 58)) (pc := 1697) dL_law_1697 mK_L_185 mf_X12_due rfl k0_53 rfl rfl rfl (Nat.le_of_ble_eq_true rfl) ⟨by omega, by show 8 + (2 + 11) + 64 * 2 ≤ R.locals; omega⟩ (r_Md_due (V := fun T => cw L T S) (cw_okT L S) h2) ?_ hc
  show G _ _ _ _ _ _ _ _ _ [.int p, .int q] (cw L T S)
  refine g_icmp_eq (tgt := 1819) (pc := 1700) dL_law_1700 (by decide) (fun _ => ?_) (fun c => absurd he c)
  exact kk
set_option maxRecDepth 4000 in
theorem lo_38 {l : Launch} {Γ : Gm} {R : Room} {Q : QT} {cells slots : Nat} {L : Sc} {T S : Sm} {i : Int32} (hR : RmL R) (hb1 : inb (i + 1) L.1) {q : Int32} (h1 : Dk_loops (L.2 (ix (i + 1))) S = some q) {p : Int32} (h2 : Md_loops (L.2 (ix (i + 1))) T = some p) (he : q = p) (hc : cells ≤ R.cells ∧ slots ≤ R.slots) (kk : G mL_law l Γ R Q (cells) (slots) 1819 [some (.ref 6), some (.ref 7), some (.ref 53), some (.ref 90), some (.int i), none, none] [] (cw L T S)) : G mL_law l Γ R Q cells slots 1705 [some (.ref 6), some (.ref 7), some (.ref 53), some (.ref 90), some (.int i), none, none] [] (cw L T S) := by
  obtain ⟨r1, r2, r3, r4⟩ := hR
  refine g_aload_n (pc := 1705) dL_law_1705 rfl ?_
  refine g_aload_n (pc := 1706) dL_law_1706 rfl ?_
  refine g_iload (pc := 1707) dL_law_1707 rfl ?_
  refine g_iconst (v := 1) (pc := 1709) dL_law_1709 (by decide) ?_
  refine g_iadd (pc := 1710) dL_law_1710 ?_
  refine l_iald (pc := 1711) dL_law_1711 hb1 ?_
  refine k_callVi (cw_ok L T) (S := S) (Mc := mX11_loops) (v := q) (S1 := S) (As := [.int (L.2 (ix (i + 1)))]) (rest := []) (q := (RX11, TX11, 12)) (pc := 1712) dL_law_1712 mK_L_186 mf_X11_loops rfl k0_7 rfl rfl rfl (Nat.le_of_ble_eq_true rfl) ⟨by omega, by show 8 + (2 + 11) + 64 * 4 ≤ R.locals; omega⟩ (r_Dk_loops (cw_ok L T) h1) ?_ hc
  refine g_aload_n (pc := 1715) dL_law_1715 rfl ?_
  refine g_aload_n (pc := 1716) dL_law_1716 rfl ?_
  refine g_iload (pc := 1717) dL_law_1717 rfl ?_
  refine g_iconst (v := 1) (pc := 1719) dL_law_1719 (by decide) ?_
  refine g_iadd (pc := 1720) dL_law_1720 ?_
  refine l_iald (pc := 1721) dL_law_1721 hb1 ?_
  refine k_callVi (V := fun T => cw L T S) (cw_okT L S) (S := T) (Mc := mX12_loops) (v := p) (S1 := T) (As := [.int (L.2 (ix (i + 1)))]) (rest := [.int q]) (q := (RX12, TX12, 58)) (pc := 1722) dL_law_1722 mK_L_189 mf_X12_loops rfl k0_53 rfl rfl rfl (Nat.le_of_ble_eq_true rfl) ⟨by omega, by show 8 + (4 + 11) + 64 * 2 ≤ R.locals; omega⟩ (r_Md_loops (V := fun T => cw L T S) (cw_okT L S) h2) ?_ hc
  show G _ _ _ _ _ _ _ _ _ [.int p, .int q] (cw L T S)
  refine g_icmp_eq (tgt := 1819) (pc := 1725) dL_law_1725 (by decide) (fun _ => ?_) (fun c => absurd he c)
  exact kk
set_option maxRecDepth 4000 in
theorem lo_39 {l : Launch} {Γ : Gm} {R : Room} {Q : QT} {cells slots : Nat} {L : Sc} {T S : Sm} {i : Int32} (hR : RmL R)  {q : Int32} (h1 : Dk_safe S = some q) {p : Int32} (h2 : Md_safe T = some p) (he : q = p) (hc : cells ≤ R.cells ∧ slots ≤ R.slots) (kk : G mL_law l Γ R Q (cells) (slots) 1819 [some (.ref 6), some (.ref 7), some (.ref 53), some (.ref 90), some (.int i), none, none] [] (cw L T S)) : G mL_law l Γ R Q cells slots 1730 [some (.ref 6), some (.ref 7), some (.ref 53), some (.ref 90), some (.int i), none, none] [] (cw L T S) := by
  obtain ⟨r1, r2, r3, r4⟩ := hR
  refine g_aload_n (pc := 1730) dL_law_1730 rfl ?_
  refine k_callVi (cw_ok L T) (S := S) (Mc := mX11_safe) (v := q) (S1 := S) (As := []) (rest := []) (q := (RX11, TX11, 12)) (pc := 1731) dL_law_1731 mK_L_190 mf_X11_safe rfl k0_7 rfl rfl rfl (Nat.le_of_ble_eq_true rfl) ⟨by omega, by show 8 + (1 + 11) + 64 * 5 ≤ R.locals; omega⟩ (r_Dk_safe (cw_ok L T) h1) ?_ hc
  refine g_aload_n (pc := 1734) dL_law_1734 rfl ?_
  refine k_callVi (V := fun T => cw L T S) (cw_okT L S) (S := T) (Mc := mX12_safe) (v := p) (S1 := T) (As := []) (rest := [.int q]) (q := (RX12, TX12, 58)) (pc := 1735) dL_law_1735 mK_L_193 mf_X12_safe rfl k0_53 rfl rfl rfl (Nat.le_of_ble_eq_true rfl) ⟨by omega, by show 8 + (5 + 11) + 64 * 1 ≤ R.locals; omega⟩ (r_Md_safe (V := fun T => cw L T S) (cw_okT L S) h2) ?_ hc
  show G _ _ _ _ _ _ _ _ _ [.int p, .int q] (cw L T S)
  refine g_icmp_eq (tgt := 1819) (pc := 1738) dL_law_1738 (by decide) (fun _ => ?_) (fun c => absurd he c)
  exact kk
set_option maxRecDepth 4000 in
theorem lo_40 {l : Launch} {Γ : Gm} {R : Room} {Q : QT} {cells slots : Nat} {L : Sc} {T S : Sm} {i : Int32} (hR : RmL R) (hb1 : inb (i + 1) L.1) {q : Int32} (h1 : Dk_visits (L.2 (ix (i + 1))) S = some q) {p : Int32} (h2 : Md_visits (L.2 (ix (i + 1))) T = some p) (he : q = p) (hc : cells ≤ R.cells ∧ slots ≤ R.slots) (kk : G mL_law l Γ R Q (cells) (slots) 1819 [some (.ref 6), some (.ref 7), some (.ref 53), some (.ref 90), some (.int i), none, none] [] (cw L T S)) : G mL_law l Γ R Q cells slots 1743 [some (.ref 6), some (.ref 7), some (.ref 53), some (.ref 90), some (.int i), none, none] [] (cw L T S) := by
  obtain ⟨r1, r2, r3, r4⟩ := hR
  refine g_aload_n (pc := 1743) dL_law_1743 rfl ?_
  refine g_aload_n (pc := 1744) dL_law_1744 rfl ?_
  refine g_iload (pc := 1745) dL_law_1745 rfl ?_
  refine g_iconst (v := 1) (pc := 1747) dL_law_1747 (by decide) ?_
  refine g_iadd (pc := 1748) dL_law_1748 ?_
  refine l_iald (pc := 1749) dL_law_1749 hb1 ?_
  refine k_callVi (cw_ok L T) (S := S) (Mc := mX11_visits) (v := q) (S1 := S) (As := [.int (L.2 (ix (i + 1)))]) (rest := []) (q := (RX11, TX11, 12)) (pc := 1750) dL_law_1750 mK_L_194 mf_X11_visits rfl k0_7 rfl rfl rfl (Nat.le_of_ble_eq_true rfl) ⟨by omega, by show 8 + (2 + 11) + 64 * 4 ≤ R.locals; omega⟩ (r_Dk_visits (cw_ok L T) h1) ?_ hc
  refine g_aload_n (pc := 1753) dL_law_1753 rfl ?_
  refine g_aload_n (pc := 1754) dL_law_1754 rfl ?_
  refine g_iload (pc := 1755) dL_law_1755 rfl ?_
  refine g_iconst (v := 1) (pc := 1757) dL_law_1757 (by decide) ?_
  refine g_iadd (pc := 1758) dL_law_1758 ?_
  refine l_iald (pc := 1759) dL_law_1759 hb1 ?_
  refine k_callVi (V := fun T => cw L T S) (cw_okT L S) (S := T) (Mc := mX12_visits) (v := p) (S1 := T) (As := [.int (L.2 (ix (i + 1)))]) (rest := [.int q]) (q := (RX12, TX12, 58)) (pc := 1760) dL_law_1760 mK_L_197 mf_X12_visits rfl k0_53 rfl rfl rfl (Nat.le_of_ble_eq_true rfl) ⟨by omega, by show 8 + (4 + 11) + 64 * 2 ≤ R.locals; omega⟩ (r_Md_visits (V := fun T => cw L T S) (cw_okT L S) h2) ?_ hc
  show G _ _ _ _ _ _ _ _ _ [.int p, .int q] (cw L T S)
  refine g_icmp_eq (tgt := 1819) (pc := 1763) dL_law_1763 (by decide) (fun _ => ?_) (fun c => absurd he c)
  exact kk
set_option maxRecDepth 4000 in
theorem lo_41 {l : Launch} {Γ : Gm} {R : Room} {Q : QT} {cells slots : Nat} {L : Sc} {T S : Sm} {i : Int32} (hR : RmL R)  {q : Int32 × Sm} (h1 : Dk_image S = q) {p : Int32 × Sm} (h2 : Md_image T = some p) (he : q.1 = p.1) (hc : cells ≤ R.cells ∧ slots ≤ R.slots) (kk : G mL_law l Γ R Q (cells) (slots) 1819 [some (.ref 6), some (.ref 7), some (.ref 53), some (.ref 90), some (.int i), none, none] [] (cw L p.2 (f31 (S.1 31) q.2))) : G mL_law l Γ R Q cells slots 1768 [some (.ref 6), some (.ref 7), some (.ref 53), some (.ref 90), some (.int i), none, none] [] (cw L T S) := by
  obtain ⟨r1, r2, r3, r4⟩ := hR
  refine g_aload_n (pc := 1768) dL_law_1768 rfl ?_
  rw [← cwf_self L T S]
  refine k_callVi (cwf_ok L T (S.1 31)) (S := S) (Mc := mX11_image) (v := q.1) (S1 := q.2) (As := []) (rest := []) (q := (RX11, TX11, 12)) (pc := 1769) dL_law_1769 mK_L_198 mf_X11_image rfl k0_7 rfl rfl rfl (Nat.le_of_ble_eq_true rfl) ⟨by omega, by show 8 + (1 + 11) + 64 * 4 ≤ R.locals; omega⟩ (r_Dk_image (cwf_ok L T (S.1 31)) h1) ?_ hc
  show G _ _ _ _ _ _ _ _ _ [.int q.1] (cw L T (f31 (S.1 31) q.2))
  refine g_aload_n (pc := 1772) dL_law_1772 rfl ?_
  refine k_callVi (V := fun T => cw L T (f31 (S.1 31) q.2)) (cw_okT L (f31 (S.1 31) q.2)) (S := T) (Mc := mX12_image) (v := p.1) (S1 := p.2) (As := []) (rest := [.int q.1]) (q := (RX12, TX12, 58)) (pc := 1773) dL_law_1773 mK_L_201 mf_X12_image rfl k0_53 rfl rfl rfl (Nat.le_of_ble_eq_true rfl) ⟨by omega, by show 8 + (2 + 11) + 64 * 0 ≤ R.locals; omega⟩ (r_Md_image (V := fun T => cw L T (f31 (S.1 31) q.2)) (cw_okT L (f31 (S.1 31) q.2)) h2) ?_ hc
  show G _ _ _ _ _ _ _ _ _ [.int p.1, .int q.1] (cw L p.2 (f31 (S.1 31) q.2))
  refine g_icmp_eq (tgt := 1819) (pc := 1776) dL_law_1776 (by decide) (fun _ => ?_) (fun c => absurd he c)
  exact kk
set_option maxRecDepth 4000 in
theorem lo_42 {l : Launch} {Γ : Gm} {R : Room} {Q : QT} {cells slots : Nat} {L : Sc} {T S : Sm} {i : Int32} (hR : RmL R)  {q : Int32 × Sm} (h1 : Dk_back S = q) {p : Int32 × Sm} (h2 : Md_back T = some p) (he : q.1 = p.1) (hc : cells ≤ R.cells ∧ slots ≤ R.slots) (kk : G mL_law l Γ R Q (cells) (slots) 1819 [some (.ref 6), some (.ref 7), some (.ref 53), some (.ref 90), some (.int i), none, none] [] (cw L p.2 (f31 (S.1 31) q.2))) : G mL_law l Γ R Q cells slots 1781 [some (.ref 6), some (.ref 7), some (.ref 53), some (.ref 90), some (.int i), none, none] [] (cw L T S) := by
  obtain ⟨r1, r2, r3, r4⟩ := hR
  refine g_aload_n (pc := 1781) dL_law_1781 rfl ?_
  rw [← cwf_self L T S]
  refine k_callVi (cwf_ok L T (S.1 31)) (S := S) (Mc := mX11_back) (v := q.1) (S1 := q.2) (As := []) (rest := []) (q := (RX11, TX11, 12)) (pc := 1782) dL_law_1782 mK_L_202 mf_X11_back rfl k0_7 rfl rfl rfl (Nat.le_of_ble_eq_true rfl) ⟨by omega, by show 8 + (1 + 11) + 64 * 4 ≤ R.locals; omega⟩ (r_Dk_back (cwf_ok L T (S.1 31)) h1) ?_ hc
  show G _ _ _ _ _ _ _ _ _ [.int q.1] (cw L T (f31 (S.1 31) q.2))
  refine g_aload_n (pc := 1785) dL_law_1785 rfl ?_
  refine k_callVi (V := fun T => cw L T (f31 (S.1 31) q.2)) (cw_okT L (f31 (S.1 31) q.2)) (S := T) (Mc := mX12_back) (v := p.1) (S1 := p.2) (As := []) (rest := [.int q.1]) (q := (RX12, TX12, 58)) (pc := 1786) dL_law_1786 mK_L_205 mf_X12_back rfl k0_53 rfl rfl rfl (Nat.le_of_ble_eq_true rfl) ⟨by omega, by show 8 + (2 + 11) + 64 * 0 ≤ R.locals; omega⟩ (r_Md_back (V := fun T => cw L T (f31 (S.1 31) q.2)) (cw_okT L (f31 (S.1 31) q.2)) h2) ?_ hc
  show G _ _ _ _ _ _ _ _ _ [.int p.1, .int q.1] (cw L p.2 (f31 (S.1 31) q.2))
  refine g_icmp_eq (tgt := 1819) (pc := 1789) dL_law_1789 (by decide) (fun _ => ?_) (fun c => absurd he c)
  exact kk
set_option maxRecDepth 4000 in
theorem lo_43 {l : Launch} {Γ : Gm} {R : Room} {Q : QT} {cells slots : Nat} {L : Sc} {T S : Sm} {i : Int32} (hR : RmL R) (hb1 : inb (i + 1) L.1) {q : Int32 × Sm} (h1 : Dk_count (L.2 (ix (i + 1))) S = some q) {p : Int32} (h2 : Md_count (L.2 (ix (i + 1))) T = some p) (he : q.1 = p) (hc : cells ≤ R.cells ∧ slots ≤ R.slots) (kk : G mL_law l Γ R Q (cells) (slots) 1819 [some (.ref 6), some (.ref 7), some (.ref 53), some (.ref 90), some (.int i), none, none] [] (cw L T (f31 (S.1 31) q.2))) : G mL_law l Γ R Q cells slots 1794 [some (.ref 6), some (.ref 7), some (.ref 53), some (.ref 90), some (.int i), none, none] [] (cw L T S) := by
  obtain ⟨r1, r2, r3, r4⟩ := hR
  refine g_aload_n (pc := 1794) dL_law_1794 rfl ?_
  refine g_aload_n (pc := 1795) dL_law_1795 rfl ?_
  refine g_iload (pc := 1796) dL_law_1796 rfl ?_
  refine g_iconst (v := 1) (pc := 1798) dL_law_1798 (by decide) ?_
  refine g_iadd (pc := 1799) dL_law_1799 ?_
  refine l_iald (pc := 1800) dL_law_1800 hb1 ?_
  rw [← cwf_self L T S]
  refine k_callVi (cwf_ok L T (S.1 31)) (S := S) (Mc := mX11_count) (v := q.1) (S1 := q.2) (As := [.int (L.2 (ix (i + 1)))]) (rest := []) (q := (RX11, TX11, 12)) (pc := 1801) dL_law_1801 mK_L_206 mf_X11_count rfl k0_7 rfl rfl rfl (Nat.le_of_ble_eq_true rfl) ⟨by omega, by show 8 + (2 + 11) + 64 * 5 ≤ R.locals; omega⟩ (r_Dk_count (cwf_ok L T (S.1 31)) h1) ?_ hc
  show G _ _ _ _ _ _ _ _ _ [.int q.1] (cw L T (f31 (S.1 31) q.2))
  refine g_aload_n (pc := 1804) dL_law_1804 rfl ?_
  refine g_aload_n (pc := 1805) dL_law_1805 rfl ?_
  refine g_iload (pc := 1806) dL_law_1806 rfl ?_
  refine g_iconst (v := 1) (pc := 1808) dL_law_1808 (by decide) ?_
  refine g_iadd (pc := 1809) dL_law_1809 ?_
  refine l_iald (pc := 1810) dL_law_1810 hb1 ?_
  refine k_callVi (V := fun T => cw L T (f31 (S.1 31) q.2)) (cw_okT L (f31 (S.1 31) q.2)) (S := T) (Mc := mX12_count) (v := p) (S1 := T) (As := [.int (L.2 (ix (i + 1)))]) (rest := [.int q.1]) (q := (RX12, TX12, 58)) (pc := 1811) dL_law_1811 mK_L_209 mf_X12_count rfl k0_53 rfl rfl rfl (Nat.le_of_ble_eq_true rfl) ⟨by omega, by show 8 + (2 + 11) + 64 * 2 ≤ R.locals; omega⟩ (r_Md_count (V := fun T => cw L T (f31 (S.1 31) q.2)) (cw_okT L (f31 (S.1 31) q.2)) h2) ?_ hc
  show G _ _ _ _ _ _ _ _ _ [.int p, .int q.1] (cw L T (f31 (S.1 31) q.2))
  refine g_icmp_eq (tgt := 1819) (pc := 1814) dL_law_1814 (by decide) (fun _ => ?_) (fun c => absurd he c)
  exact kk
/-- one call of the law that both sides answer alike -/
def ls_0 (x : Nat → Int32) (T S T' S' : Sm) : Prop := ∃ q : Int32 × Sm, ∃ p : Int32 × Sm, Dk_feed (x 1) (x 2) (x 3) (x 4) (x 5) S = some q ∧ Md_feed (x 1) (x 2) (x 3) (x 4) (x 5) T = some p ∧ q.1 = p.1 ∧ T' = p.2 ∧ S' = (f31 (S.1 31) q.2)
def ls_1 (x : Nat → Int32) (T S T' S' : Sm) : Prop := ∃ q : Int32 × Sm, ∃ p : Int32 × Sm, Dk_end (x 1) S = q ∧ Md_end (x 1) T = p ∧ q.1 = p.1 ∧ T' = p.2 ∧ S' = (f31 (S.1 31) q.2)
def ls_2 (x : Nat → Int32) (T S T' S' : Sm) : Prop := ∃ q : Int32 × Sm, ∃ p : Int32 × Sm, Dk_fault (x 1) S = some q ∧ Md_fault (x 1) T = some p ∧ q.1 = p.1 ∧ T' = p.2 ∧ S' = (f31 (S.1 31) q.2)
def ls_3 (x : Nat → Int32) (T S T' S' : Sm) : Prop := ∃ q : Int32 × Sm, ∃ p : Int32 × Sm, Dk_text (x 1) S = some q ∧ Md_text (x 1) T = some p ∧ q.1 = p.1 ∧ T' = p.2 ∧ S' = (f31 (S.1 31) q.2)
def ls_4 (x : Nat → Int32) (T S T' S' : Sm) : Prop := ∃ q : Int32 × Sm, ∃ p : Int32 × Sm, Dk_dark (x 1) (x 2) (x 3) S = some q ∧ Md_dark (x 1) (x 2) (x 3) T = some p ∧ q.1 = p.1 ∧ T' = p.2 ∧ S' = (f31 (S.1 31) q.2)
def ls_6 (x : Nat → Int32) (T S T' S' : Sm) : Prop := ∃ q : Int32, ∃ p : Int32, Dk_guards (x 1) S = q ∧ Md_guards (x 1) T = some p ∧ q = p ∧ T' = T ∧ S' = S
def ls_7 (x : Nat → Int32) (T S T' S' : Sm) : Prop := ∃ q : Int32 × Sm, ∃ p : Int32 × Sm, Dk_law (x 1) S = q ∧ Md_law (x 1) T = p ∧ q.1 = p.1 ∧ T' = p.2 ∧ S' = (f31 (S.1 31) q.2)
def ls_8 (x : Nat → Int32) (T S T' S' : Sm) : Prop := ∃ q : Int32 × Sm, ∃ p : Int32 × Sm, Dk_sent (x 1) (x 2) (x 3) S = some q ∧ Md_sent (x 1) (x 2) (x 3) T = some p ∧ q.1 = p.1 ∧ T' = p.2 ∧ S' = q.2
def ls_9 (x : Nat → Int32) (T S T' S' : Sm) : Prop := ∃ q : Int32 × Sm, ∃ p : Int32 × Sm, Dk_lamp (x 1) (x 2) S = some q ∧ Md_lamp (x 1) (x 2) T = some p ∧ q.1 = p.1 ∧ T' = p.2 ∧ S' = q.2
def ls_10 (x : Nat → Int32) (T S T' S' : Sm) : Prop := ∃ q : Int32 × Sm, ∃ p : Int32 × Sm, Dk_show (x 1) (x 2) (x 3) S = some q ∧ Md_show (x 1) (x 2) (x 3) T = some p ∧ q.1 = p.1 ∧ T' = p.2 ∧ S' = q.2
def ls_11 (x : Nat → Int32) (T S T' S' : Sm) : Prop := ∃ q : Int32 × Sm, ∃ p : Int32 × Sm, Dk_guard (x 1) (if x 2 = 0 then 0 else 1) S = some q ∧ Md_guard (x 1) (if x 2 = 0 then 0 else 1) T = some p ∧ q.1 = p.1 ∧ T' = p.2 ∧ S' = q.2
def ls_12 (x : Nat → Int32) (T S T' S' : Sm) : Prop := ∃ q : Int32 × Sm, ∃ p : Int32 × Sm, Dk_go (x 1) S = some q ∧ Md_go (x 1) T = some p ∧ q.1 = p.1 ∧ T' = p.2 ∧ S' = q.2
def ls_13 (x : Nat → Int32) (T S T' S' : Sm) : Prop := ∃ q : Int32 × Sm, ∃ p : Int32 × Sm, Dk_fogs (x 1) S = q ∧ Md_fogs (x 1) T = p ∧ q.1 = p.1 ∧ T' = p.2 ∧ S' = (f31 (S.1 31) q.2)
def ls_14 (x : Nat → Int32) (T S T' S' : Sm) : Prop := ∃ q : Int32 × Sm, ∃ p : Int32 × Sm, Dk_years (x 1) ((lShl (Int32.toInt64 (x 2)) 32) ||| ((Int32.toInt64 (x 3)) &&& 4294967295)) S = some q ∧ Md_years (x 1) ((lShl (Int32.toInt64 (x 2)) 32) ||| ((Int32.toInt64 (x 3)) &&& 4294967295)) T = some p ∧ q.1 = p.1 ∧ T' = p.2 ∧ S' = q.2
def ls_15 (x : Nat → Int32) (T S T' S' : Sm) : Prop := ∃ q : Int32 × Sm, ∃ p : Int32 × Sm, Dk_undo S = some q ∧ Md_undo T = some p ∧ q.1 = p.1 ∧ T' = p.2 ∧ S' = q.2
def ls_16 (x : Nat → Int32) (T S T' S' : Sm) : Prop := ∃ q : Int32, ∃ p : Int32, Dk_log (x 1) (x 2) S = q ∧ Md_log (x 1) (x 2) T = some p ∧ q = p ∧ T' = T ∧ S' = S
def ls_17 (x : Nat → Int32) (T S T' S' : Sm) : Prop := ∃ q : Int32, ∃ p : Int32, Dk_comes (x 1) (x 2) (x 3) S = some q ∧ Md_comes (x 1) (x 2) (x 3) T = some p ∧ q = p ∧ T' = T ∧ S' = S
def ls_18 (x : Nat → Int32) (T S T' S' : Sm) : Prop := ∃ q : Int32, ∃ p : Int32, Dk_round (x 1) (x 2) (x 3) S = some q ∧ Md_round (x 1) (x 2) (x 3) T = some p ∧ q = p ∧ T' = T ∧ S' = S
def ls_19 (x : Nat → Int32) (T S T' S' : Sm) : Prop := ∃ q : Int32, ∃ p : Int32 × Sm, Dk_changes (x 1) (x 2) (x 3) S = some q ∧ Md_changes (x 1) (x 2) (x 3) T = some p ∧ q = p.1 ∧ T' = p.2 ∧ S' = S
def ls_20 (x : Nat → Int32) (T S T' S' : Sm) : Prop := ∃ q : Int32 × Sm, ∃ p : Int32 × Sm, Dk_soonest (x 1) (x 2) (x 3) (x 4) S = some q ∧ Md_soonest (x 1) (x 2) (x 3) (x 4) T = some p ∧ q.1 = p.1 ∧ T' = p.2 ∧ S' = (f31 (S.1 31) q.2)
def ls_21 (x : Nat → Int32) (T S T' S' : Sm) : Prop := ∃ q : Int32 × Sm, ∃ p : Int32 × Sm, Dk_cheapest (x 1) (x 2) (x 3) S = some q ∧ Md_cheapest (x 1) (x 2) (x 3) T = some p ∧ q.1 = p.1 ∧ T' = p.2 ∧ S' = (f31 (S.1 31) q.2)
def ls_22 (x : Nat → Int32) (T S T' S' : Sm) : Prop := ∃ q : Int32, ∃ p : Int32, Dk_reached (x 1) (x 2) S = some q ∧ Md_reached (x 1) (x 2) T = some p ∧ q = p ∧ T' = T ∧ S' = S
def ls_23 (x : Nat → Int32) (T S T' S' : Sm) : Prop := ∃ q : Int32, ∃ p : Int32, Dk_lamps S = some q ∧ Md_lamps T = some p ∧ q = p ∧ T' = T ∧ S' = S
def ls_24 (x : Nat → Int32) (T S T' S' : Sm) : Prop := ∃ q : Int32 × Sm, ∃ p : Int32 × Sm, Dk_timetable (x 1) S = some q ∧ Md_timetable (x 1) T = some p ∧ q.1 = p.1 ∧ T' = p.2 ∧ S' = (f31 (S.1 31) q.2)
def ls_25 (x : Nat → Int32) (T S T' S' : Sm) : Prop := ∃ q : Int32 × Sm, ∃ p : Int32 × Sm, Dk_clashes S = some q ∧ Md_clashes T = some p ∧ q.1 = p.1 ∧ T' = p.2 ∧ S' = (f31 (S.1 31) q.2)
def ls_26 (x : Nat → Int32) (T S T' S' : Sm) : Prop := ∃ q : Int32 × Sm, ∃ p : Int32 × Sm, Dk_lay (x 1) (x 2) (x 3) (x 4) S = q ∧ Md_lay (x 1) (x 2) (x 3) (x 4) T = some p ∧ q.1 = p.1 ∧ T' = p.2 ∧ S' = (f31 (S.1 31) q.2)
def ls_27 (x : Nat → Int32) (T S T' S' : Sm) : Prop := ∃ q : Int32 × Sm, ∃ p : Int32 × Sm, Dk_nets (x 1) S = some q ∧ Md_nets (x 1) T = some p ∧ q.1 = p.1 ∧ T' = p.2 ∧ S' = (f31 (S.1 31) q.2)
def ls_28 (x : Nat → Int32) (T S T' S' : Sm) : Prop := ∃ q : Int32 × Sm, ∃ p : Int32 × Sm, Dk_could (x 1) S = some q ∧ Md_could (x 1) T = some p ∧ q.1 = p.1 ∧ T' = p.2 ∧ S' = (f31 (S.1 31) q.2)
def ls_29 (x : Nat → Int32) (T S T' S' : Sm) : Prop := ∃ q : Int32 × Sm, ∃ p : Int32 × Sm, Dk_tells (x 1) S = some q ∧ Md_tells (x 1) T = some p ∧ q.1 = p.1 ∧ T' = p.2 ∧ S' = (f31 (S.1 31) q.2)
def ls_30 (x : Nat → Int32) (T S T' S' : Sm) : Prop := ∃ q : Int32, ∃ p : Int32, Dk_yards (x 1) (x 2) (x 3) S = some q ∧ Md_yards (x 1) (x 2) (x 3) T = some p ∧ q = p ∧ T' = T ∧ S' = S
def ls_31 (x : Nat → Int32) (T S T' S' : Sm) : Prop := ∃ q : Int32 × Sm, ∃ p : Int32 × Sm, Dk_unseen (x 1) (x 2) S = some q ∧ Md_unseen (x 1) (x 2) T = some p ∧ q.1 = p.1 ∧ T' = p.2 ∧ S' = (f31 (S.1 31) q.2)
def ls_32 (x : Nat → Int32) (T S T' S' : Sm) : Prop := ∃ q : Int32 × Sm, ∃ p : Int32 × Sm, Dk_posts (x 1) (x 2) S = some q ∧ Md_posts (x 1) (x 2) T = some p ∧ q.1 = p.1 ∧ T' = p.2 ∧ S' = (f31 (S.1 31) q.2)
def ls_33 (x : Nat → Int32) (T S T' S' : Sm) : Prop := ∃ q : Int32, ∃ p : Int32 × Sm, Dk_halves (x 1) (x 2) (x 3) S = some q ∧ Md_halves (x 1) (x 2) (x 3) T = some p ∧ q = p.1 ∧ T' = p.2 ∧ S' = S
def ls_34 (x : Nat → Int32) (T S T' S' : Sm) : Prop := ∃ q : Int32, ∃ p : Int32, Dk_smuggles (x 1) (x 2) (x 3) (x 4) S = some q ∧ Md_smuggles (x 1) (x 2) (x 3) (x 4) T = some p ∧ q = p ∧ T' = T ∧ S' = S
def ls_35 (x : Nat → Int32) (T S T' S' : Sm) : Prop := ∃ q : Int32, ∃ p : Int32, Dk_rests (x 1) (x 2) (x 3) S = some q ∧ Md_rests (x 1) (x 2) (x 3) T = some p ∧ q = p ∧ T' = T ∧ S' = S
def ls_36 (x : Nat → Int32) (T S T' S' : Sm) : Prop := ∃ q : Int32, ∃ p : Int32, Dk_astray S = some q ∧ Md_astray T = some p ∧ q = p ∧ T' = T ∧ S' = S
def ls_37 (x : Nat → Int32) (T S T' S' : Sm) : Prop := ∃ q : Int32, ∃ p : Int32, Dk_due (x 1) S = q ∧ Md_due (x 1) T = some p ∧ q = p ∧ T' = T ∧ S' = S
def ls_38 (x : Nat → Int32) (T S T' S' : Sm) : Prop := ∃ q : Int32, ∃ p : Int32, Dk_loops (x 1) S = some q ∧ Md_loops (x 1) T = some p ∧ q = p ∧ T' = T ∧ S' = S
def ls_39 (x : Nat → Int32) (T S T' S' : Sm) : Prop := ∃ q : Int32, ∃ p : Int32, Dk_safe S = some q ∧ Md_safe T = some p ∧ q = p ∧ T' = T ∧ S' = S
def ls_40 (x : Nat → Int32) (T S T' S' : Sm) : Prop := ∃ q : Int32, ∃ p : Int32, Dk_visits (x 1) S = some q ∧ Md_visits (x 1) T = some p ∧ q = p ∧ T' = T ∧ S' = S
def ls_41 (x : Nat → Int32) (T S T' S' : Sm) : Prop := ∃ q : Int32 × Sm, ∃ p : Int32 × Sm, Dk_image S = q ∧ Md_image T = some p ∧ q.1 = p.1 ∧ T' = p.2 ∧ S' = (f31 (S.1 31) q.2)
def ls_42 (x : Nat → Int32) (T S T' S' : Sm) : Prop := ∃ q : Int32 × Sm, ∃ p : Int32 × Sm, Dk_back S = q ∧ Md_back T = some p ∧ q.1 = p.1 ∧ T' = p.2 ∧ S' = (f31 (S.1 31) q.2)
def ls_43 (x : Nat → Int32) (T S T' S' : Sm) : Prop := ∃ q : Int32 × Sm, ∃ p : Int32, Dk_count (x 1) S = some q ∧ Md_count (x 1) T = some p ∧ q.1 = p ∧ T' = T ∧ S' = (f31 (S.1 31) q.2)
theorem lw_0 {l : Launch} {Γ : Gm} {R : Room} {Q : QT} {cells slots : Nat} {L : Sc} {T S T' S' : Sm} {i : Int32} (hR : RmL R) (hb1 : inb (i + 1) L.1) (hb2 : inb (i + 2) L.1) (hb3 : inb (i + 3) L.1) (hb4 : inb (i + 4) L.1) (hb5 : inb (i + 5) L.1) (h : ls_0 (fun k => L.2 (ix (i + nI k))) T S T' S') (hc : cells + 0 ≤ R.cells ∧ slots + 0 ≤ R.slots) (kk : G mL_law l Γ R Q (cells + 0) (slots + 0) 1819 [some (.ref 6), some (.ref 7), some (.ref 53), some (.ref 90), some (.int i), none, none] [] (cw L T' S')) : G mL_law l Γ R Q cells slots 232 [some (.ref 6), some (.ref 7), some (.ref 53), some (.ref 90), some (.int i), none, none] [] (cw L T S) := by
  obtain ⟨q, p, h1, h2, he, rfl, rfl⟩ := h
  exact lo_0 hR hb1 hb2 hb3 hb4 hb5 h1 h2 he hc kk
theorem lw_1 {l : Launch} {Γ : Gm} {R : Room} {Q : QT} {cells slots : Nat} {L : Sc} {T S T' S' : Sm} {i : Int32} (hR : RmL R) (hb1 : inb (i + 1) L.1) (h : ls_1 (fun k => L.2 (ix (i + nI k))) T S T' S') (hc : cells + 0 ≤ R.cells ∧ slots + 0 ≤ R.slots) (kk : G mL_law l Γ R Q (cells + 0) (slots + 0) 1819 [some (.ref 6), some (.ref 7), some (.ref 53), some (.ref 90), some (.int i), none, none] [] (cw L T' S')) : G mL_law l Γ R Q cells slots 305 [some (.ref 6), some (.ref 7), some (.ref 53), some (.ref 90), some (.int i), none, none] [] (cw L T S) := by
  obtain ⟨q, p, h1, h2, he, rfl, rfl⟩ := h
  exact lo_1 hR hb1 h1 h2 he hc kk
theorem lw_2 {l : Launch} {Γ : Gm} {R : Room} {Q : QT} {cells slots : Nat} {L : Sc} {T S T' S' : Sm} {i : Int32} (hR : RmL R) (hb1 : inb (i + 1) L.1) (h : ls_2 (fun k => L.2 (ix (i + nI k))) T S T' S') (hc : cells + 0 ≤ R.cells ∧ slots + 0 ≤ R.slots) (kk : G mL_law l Γ R Q (cells + 0) (slots + 0) 1819 [some (.ref 6), some (.ref 7), some (.ref 53), some (.ref 90), some (.int i), none, none] [] (cw L T' S')) : G mL_law l Γ R Q cells slots 330 [some (.ref 6), some (.ref 7), some (.ref 53), some (.ref 90), some (.int i), none, none] [] (cw L T S) := by
  obtain ⟨q, p, h1, h2, he, rfl, rfl⟩ := h
  exact lo_2 hR hb1 h1 h2 he hc kk
theorem lw_3 {l : Launch} {Γ : Gm} {R : Room} {Q : QT} {cells slots : Nat} {L : Sc} {T S T' S' : Sm} {i : Int32} (hR : RmL R) (hb1 : inb (i + 1) L.1) (h : ls_3 (fun k => L.2 (ix (i + nI k))) T S T' S') (hc : cells + 0 ≤ R.cells ∧ slots + 0 ≤ R.slots) (kk : G mL_law l Γ R Q (cells + 0) (slots + 0) 1819 [some (.ref 6), some (.ref 7), some (.ref 53), some (.ref 90), some (.int i), none, none] [] (cw L T' S')) : G mL_law l Γ R Q cells slots 355 [some (.ref 6), some (.ref 7), some (.ref 53), some (.ref 90), some (.int i), none, none] [] (cw L T S) := by
  obtain ⟨q, p, h1, h2, he, rfl, rfl⟩ := h
  exact lo_3 hR hb1 h1 h2 he hc kk
theorem lw_4 {l : Launch} {Γ : Gm} {R : Room} {Q : QT} {cells slots : Nat} {L : Sc} {T S T' S' : Sm} {i : Int32} (hR : RmL R) (hb1 : inb (i + 1) L.1) (hb2 : inb (i + 2) L.1) (hb3 : inb (i + 3) L.1) (h : ls_4 (fun k => L.2 (ix (i + nI k))) T S T' S') (hc : cells + 0 ≤ R.cells ∧ slots + 0 ≤ R.slots) (kk : G mL_law l Γ R Q (cells + 0) (slots + 0) 1819 [some (.ref 6), some (.ref 7), some (.ref 53), some (.ref 90), some (.int i), none, none] [] (cw L T' S')) : G mL_law l Γ R Q cells slots 380 [some (.ref 6), some (.ref 7), some (.ref 53), some (.ref 90), some (.int i), none, none] [] (cw L T S) := by
  obtain ⟨q, p, h1, h2, he, rfl, rfl⟩ := h
  exact lo_4 hR hb1 hb2 hb3 h1 h2 he hc kk
theorem lw_6 {l : Launch} {Γ : Gm} {R : Room} {Q : QT} {cells slots : Nat} {L : Sc} {T S T' S' : Sm} {i : Int32} (hR : RmL R) (hb1 : inb (i + 1) L.1) (h : ls_6 (fun k => L.2 (ix (i + nI k))) T S T' S') (hc : cells + 0 ≤ R.cells ∧ slots + 0 ≤ R.slots) (kk : G mL_law l Γ R Q (cells + 0) (slots + 0) 1819 [some (.ref 6), some (.ref 7), some (.ref 53), some (.ref 90), some (.int i), none, none] [] (cw L T' S')) : G mL_law l Γ R Q cells slots 497 [some (.ref 6), some (.ref 7), some (.ref 53), some (.ref 90), some (.int i), none, none] [] (cw L T S) := by
  obtain ⟨q, p, h1, h2, he, rfl, rfl⟩ := h
  exact lo_6 hR hb1 h1 h2 he hc kk
theorem lw_7 {l : Launch} {Γ : Gm} {R : Room} {Q : QT} {cells slots : Nat} {L : Sc} {T S T' S' : Sm} {i : Int32} (hR : RmL R) (hb1 : inb (i + 1) L.1) (h : ls_7 (fun k => L.2 (ix (i + nI k))) T S T' S') (hc : cells + 0 ≤ R.cells ∧ slots + 0 ≤ R.slots) (kk : G mL_law l Γ R Q (cells + 0) (slots + 0) 1819 [some (.ref 6), some (.ref 7), some (.ref 53), some (.ref 90), some (.int i), none, none] [] (cw L T' S')) : G mL_law l Γ R Q cells slots 522 [some (.ref 6), some (.ref 7), some (.ref 53), some (.ref 90), some (.int i), none, none] [] (cw L T S) := by
  obtain ⟨q, p, h1, h2, he, rfl, rfl⟩ := h
  exact lo_7 hR hb1 h1 h2 he hc kk
theorem lw_8 {l : Launch} {Γ : Gm} {R : Room} {Q : QT} {cells slots : Nat} {L : Sc} {T S T' S' : Sm} {i : Int32} (hR : RmL R) (hb1 : inb (i + 1) L.1) (hb2 : inb (i + 2) L.1) (hb3 : inb (i + 3) L.1) (h : ls_8 (fun k => L.2 (ix (i + nI k))) T S T' S') (hc : cells + kcS S ≤ R.cells ∧ slots + ksS S ≤ R.slots) (kk : G mL_law l Γ R Q (cells + kcS S) (slots + ksS S) 1819 [some (.ref 6), some (.ref 7), some (.ref 53), some (.ref 90), some (.int i), none, none] [] (cw L T' S')) : G mL_law l Γ R Q cells slots 547 [some (.ref 6), some (.ref 7), some (.ref 53), some (.ref 90), some (.int i), none, none] [] (cw L T S) := by
  obtain ⟨q, p, h1, h2, he, rfl, rfl⟩ := h
  exact lo_8 hR hb1 hb2 hb3 h1 h2 he hc kk
theorem lw_9 {l : Launch} {Γ : Gm} {R : Room} {Q : QT} {cells slots : Nat} {L : Sc} {T S T' S' : Sm} {i : Int32} (hR : RmL R) (hb1 : inb (i + 1) L.1) (hb2 : inb (i + 2) L.1) (h : ls_9 (fun k => L.2 (ix (i + nI k))) T S T' S') (hc : cells + kcS S ≤ R.cells ∧ slots + ksS S ≤ R.slots) (kk : G mL_law l Γ R Q (cells + kcS S) (slots + ksS S) 1819 [some (.ref 6), some (.ref 7), some (.ref 53), some (.ref 90), some (.int i), none, none] [] (cw L T' S')) : G mL_law l Γ R Q cells slots 596 [some (.ref 6), some (.ref 7), some (.ref 53), some (.ref 90), some (.int i), none, none] [] (cw L T S) := by
  obtain ⟨q, p, h1, h2, he, rfl, rfl⟩ := h
  exact lo_9 hR hb1 hb2 h1 h2 he hc kk
theorem lw_10 {l : Launch} {Γ : Gm} {R : Room} {Q : QT} {cells slots : Nat} {L : Sc} {T S T' S' : Sm} {i : Int32} (hR : RmL R) (hb1 : inb (i + 1) L.1) (hb2 : inb (i + 2) L.1) (hb3 : inb (i + 3) L.1) (h : ls_10 (fun k => L.2 (ix (i + nI k))) T S T' S') (hc : cells + kcS S ≤ R.cells ∧ slots + ksS S ≤ R.slots) (kk : G mL_law l Γ R Q (cells + kcS S) (slots + ksS S) 1819 [some (.ref 6), some (.ref 7), some (.ref 53), some (.ref 90), some (.int i), none, none] [] (cw L T' S')) : G mL_law l Γ R Q cells slots 633 [some (.ref 6), some (.ref 7), some (.ref 53), some (.ref 90), some (.int i), none, none] [] (cw L T S) := by
  obtain ⟨q, p, h1, h2, he, rfl, rfl⟩ := h
  exact lo_10 hR hb1 hb2 hb3 h1 h2 he hc kk
theorem lw_11 {l : Launch} {Γ : Gm} {R : Room} {Q : QT} {cells slots : Nat} {L : Sc} {T S T' S' : Sm} {i : Int32} (hR : RmL R) (hb1 : inb (i + 1) L.1) (hb2 : inb (i + 2) L.1) (h : ls_11 (fun k => L.2 (ix (i + nI k))) T S T' S') (hc : cells + kcS S ≤ R.cells ∧ slots + ksS S ≤ R.slots) (kk : G mL_law l Γ R Q (cells + kcS S) (slots + ksS S) 1819 [some (.ref 6), some (.ref 7), some (.ref 53), some (.ref 90), some (.int i), none, none] [] (cw L T' S')) : G mL_law l Γ R Q cells slots 682 [some (.ref 6), some (.ref 7), some (.ref 53), some (.ref 90), some (.int i), none, none] [] (cw L T S) := by
  obtain ⟨q, p, h1, h2, he, rfl, rfl⟩ := h
  exact lo_11 hR hb1 hb2 h1 h2 he hc kk
theorem lw_12 {l : Launch} {Γ : Gm} {R : Room} {Q : QT} {cells slots : Nat} {L : Sc} {T S T' S' : Sm} {i : Int32} (hR : RmL R) (hb1 : inb (i + 1) L.1) (h : ls_12 (fun k => L.2 (ix (i + nI k))) T S T' S') (hc : cells + mcS S S' ≤ R.cells ∧ slots + msS S S' ≤ R.slots) (kk : G mL_law l Γ R Q (cells + mcS S S') (slots + msS S S') 1819 [some (.ref 6), some (.ref 7), some (.ref 53), some (.ref 90), some (.int i), none, none] [] (cw L T' S')) : G mL_law l Γ R Q cells slots 735 [some (.ref 6), some (.ref 7), some (.ref 53), some (.ref 90), some (.int i), none, none] [] (cw L T S) := by
  obtain ⟨q, p, h1, h2, he, rfl, rfl⟩ := h
  exact lo_12 hR hb1 h1 h2 he hc kk
theorem lw_13 {l : Launch} {Γ : Gm} {R : Room} {Q : QT} {cells slots : Nat} {L : Sc} {T S T' S' : Sm} {i : Int32} (hR : RmL R) (hb1 : inb (i + 1) L.1) (h : ls_13 (fun k => L.2 (ix (i + nI k))) T S T' S') (hc : cells + 0 ≤ R.cells ∧ slots + 0 ≤ R.slots) (kk : G mL_law l Γ R Q (cells + 0) (slots + 0) 1819 [some (.ref 6), some (.ref 7), some (.ref 53), some (.ref 90), some (.int i), none, none] [] (cw L T' S')) : G mL_law l Γ R Q cells slots 760 [some (.ref 6), some (.ref 7), some (.ref 53), some (.ref 90), some (.int i), none, none] [] (cw L T S) := by
  obtain ⟨q, p, h1, h2, he, rfl, rfl⟩ := h
  exact lo_13 hR hb1 h1 h2 he hc kk
theorem lw_14 {l : Launch} {Γ : Gm} {R : Room} {Q : QT} {cells slots : Nat} {L : Sc} {T S T' S' : Sm} {i : Int32} (hR : RmL R) (hb1 : inb (i + 1) L.1) (hb2 : inb (i + 2) L.1) (hb3 : inb (i + 3) L.1) (h : ls_14 (fun k => L.2 (ix (i + nI k))) T S T' S') (hc : cells + mcS S S' ≤ R.cells ∧ slots + msS S S' ≤ R.slots) (kk : G mL_law l Γ R Q (cells + mcS S S') (slots + msS S S') 1819 [some (.ref 6), some (.ref 7), some (.ref 53), some (.ref 90), some (.int i), none, none] [] (cw L T' S')) : G mL_law l Γ R Q cells slots 785 [some (.ref 6), some (.ref 7), some (.ref 53), some (.ref 90), some (.int i), none, none] [] (cw L T S) := by
  obtain ⟨q, p, h1, h2, he, rfl, rfl⟩ := h
  exact lo_14 hR hb1 hb2 hb3 h1 h2 he hc kk
theorem lw_15 {l : Launch} {Γ : Gm} {R : Room} {Q : QT} {cells slots : Nat} {L : Sc} {T S T' S' : Sm} {i : Int32} (hR : RmL R)  (h : ls_15 (fun k => L.2 (ix (i + nI k))) T S T' S') (hc : cells + 0 ≤ R.cells ∧ slots + 0 ≤ R.slots) (kk : G mL_law l Γ R Q (cells + 0) (slots + 0) 1819 [some (.ref 6), some (.ref 7), some (.ref 53), some (.ref 90), some (.int i), none, none] [] (cw L T' S')) : G mL_law l Γ R Q cells slots 854 [some (.ref 6), some (.ref 7), some (.ref 53), some (.ref 90), some (.int i), none, none] [] (cw L T S) := by
  obtain ⟨q, p, h1, h2, he, rfl, rfl⟩ := h
  exact lo_15 hR  h1 h2 he hc kk
theorem lw_16 {l : Launch} {Γ : Gm} {R : Room} {Q : QT} {cells slots : Nat} {L : Sc} {T S T' S' : Sm} {i : Int32} (hR : RmL R) (hb1 : inb (i + 1) L.1) (hb2 : inb (i + 2) L.1) (h : ls_16 (fun k => L.2 (ix (i + nI k))) T S T' S') (hc : cells + 0 ≤ R.cells ∧ slots + 0 ≤ R.slots) (kk : G mL_law l Γ R Q (cells + 0) (slots + 0) 1819 [some (.ref 6), some (.ref 7), some (.ref 53), some (.ref 90), some (.int i), none, none] [] (cw L T' S')) : G mL_law l Γ R Q cells slots 867 [some (.ref 6), some (.ref 7), some (.ref 53), some (.ref 90), some (.int i), none, none] [] (cw L T S) := by
  obtain ⟨q, p, h1, h2, he, rfl, rfl⟩ := h
  exact lo_16 hR hb1 hb2 h1 h2 he hc kk
theorem lw_17 {l : Launch} {Γ : Gm} {R : Room} {Q : QT} {cells slots : Nat} {L : Sc} {T S T' S' : Sm} {i : Int32} (hR : RmL R) (hb1 : inb (i + 1) L.1) (hb2 : inb (i + 2) L.1) (hb3 : inb (i + 3) L.1) (h : ls_17 (fun k => L.2 (ix (i + nI k))) T S T' S') (hc : cells + 0 ≤ R.cells ∧ slots + 0 ≤ R.slots) (kk : G mL_law l Γ R Q (cells + 0) (slots + 0) 1819 [some (.ref 6), some (.ref 7), some (.ref 53), some (.ref 90), some (.int i), none, none] [] (cw L T' S')) : G mL_law l Γ R Q cells slots 904 [some (.ref 6), some (.ref 7), some (.ref 53), some (.ref 90), some (.int i), none, none] [] (cw L T S) := by
  obtain ⟨q, p, h1, h2, he, rfl, rfl⟩ := h
  exact lo_17 hR hb1 hb2 hb3 h1 h2 he hc kk
theorem lw_18 {l : Launch} {Γ : Gm} {R : Room} {Q : QT} {cells slots : Nat} {L : Sc} {T S T' S' : Sm} {i : Int32} (hR : RmL R) (hb1 : inb (i + 1) L.1) (hb2 : inb (i + 2) L.1) (hb3 : inb (i + 3) L.1) (h : ls_18 (fun k => L.2 (ix (i + nI k))) T S T' S') (hc : cells + 0 ≤ R.cells ∧ slots + 0 ≤ R.slots) (kk : G mL_law l Γ R Q (cells + 0) (slots + 0) 1819 [some (.ref 6), some (.ref 7), some (.ref 53), some (.ref 90), some (.int i), none, none] [] (cw L T' S')) : G mL_law l Γ R Q cells slots 953 [some (.ref 6), some (.ref 7), some (.ref 53), some (.ref 90), some (.int i), none, none] [] (cw L T S) := by
  obtain ⟨q, p, h1, h2, he, rfl, rfl⟩ := h
  exact lo_18 hR hb1 hb2 hb3 h1 h2 he hc kk
theorem lw_19 {l : Launch} {Γ : Gm} {R : Room} {Q : QT} {cells slots : Nat} {L : Sc} {T S T' S' : Sm} {i : Int32} (hR : RmL R) (hb1 : inb (i + 1) L.1) (hb2 : inb (i + 2) L.1) (hb3 : inb (i + 3) L.1) (h : ls_19 (fun k => L.2 (ix (i + nI k))) T S T' S') (hc : cells + 0 ≤ R.cells ∧ slots + 0 ≤ R.slots) (kk : G mL_law l Γ R Q (cells + 0) (slots + 0) 1819 [some (.ref 6), some (.ref 7), some (.ref 53), some (.ref 90), some (.int i), none, none] [] (cw L T' S')) : G mL_law l Γ R Q cells slots 1002 [some (.ref 6), some (.ref 7), some (.ref 53), some (.ref 90), some (.int i), none, none] [] (cw L T S) := by
  obtain ⟨q, p, h1, h2, he, rfl, rfl⟩ := h
  exact lo_19 hR hb1 hb2 hb3 h1 h2 he hc kk
theorem lw_20 {l : Launch} {Γ : Gm} {R : Room} {Q : QT} {cells slots : Nat} {L : Sc} {T S T' S' : Sm} {i : Int32} (hR : RmL R) (hb1 : inb (i + 1) L.1) (hb2 : inb (i + 2) L.1) (hb3 : inb (i + 3) L.1) (hb4 : inb (i + 4) L.1) (h : ls_20 (fun k => L.2 (ix (i + nI k))) T S T' S') (hc : cells + 0 ≤ R.cells ∧ slots + 0 ≤ R.slots) (kk : G mL_law l Γ R Q (cells + 0) (slots + 0) 1819 [some (.ref 6), some (.ref 7), some (.ref 53), some (.ref 90), some (.int i), none, none] [] (cw L T' S')) : G mL_law l Γ R Q cells slots 1051 [some (.ref 6), some (.ref 7), some (.ref 53), some (.ref 90), some (.int i), none, none] [] (cw L T S) := by
  obtain ⟨q, p, h1, h2, he, rfl, rfl⟩ := h
  exact lo_20 hR hb1 hb2 hb3 hb4 h1 h2 he hc kk
theorem lw_21 {l : Launch} {Γ : Gm} {R : Room} {Q : QT} {cells slots : Nat} {L : Sc} {T S T' S' : Sm} {i : Int32} (hR : RmL R) (hb1 : inb (i + 1) L.1) (hb2 : inb (i + 2) L.1) (hb3 : inb (i + 3) L.1) (h : ls_21 (fun k => L.2 (ix (i + nI k))) T S T' S') (hc : cells + 0 ≤ R.cells ∧ slots + 0 ≤ R.slots) (kk : G mL_law l Γ R Q (cells + 0) (slots + 0) 1819 [some (.ref 6), some (.ref 7), some (.ref 53), some (.ref 90), some (.int i), none, none] [] (cw L T' S')) : G mL_law l Γ R Q cells slots 1112 [some (.ref 6), some (.ref 7), some (.ref 53), some (.ref 90), some (.int i), none, none] [] (cw L T S) := by
  obtain ⟨q, p, h1, h2, he, rfl, rfl⟩ := h
  exact lo_21 hR hb1 hb2 hb3 h1 h2 he hc kk
theorem lw_22 {l : Launch} {Γ : Gm} {R : Room} {Q : QT} {cells slots : Nat} {L : Sc} {T S T' S' : Sm} {i : Int32} (hR : RmL R) (hb1 : inb (i + 1) L.1) (hb2 : inb (i + 2) L.1) (h : ls_22 (fun k => L.2 (ix (i + nI k))) T S T' S') (hc : cells + 0 ≤ R.cells ∧ slots + 0 ≤ R.slots) (kk : G mL_law l Γ R Q (cells + 0) (slots + 0) 1819 [some (.ref 6), some (.ref 7), some (.ref 53), some (.ref 90), some (.int i), none, none] [] (cw L T' S')) : G mL_law l Γ R Q cells slots 1161 [some (.ref 6), some (.ref 7), some (.ref 53), some (.ref 90), some (.int i), none, none] [] (cw L T S) := by
  obtain ⟨q, p, h1, h2, he, rfl, rfl⟩ := h
  exact lo_22 hR hb1 hb2 h1 h2 he hc kk
theorem lw_23 {l : Launch} {Γ : Gm} {R : Room} {Q : QT} {cells slots : Nat} {L : Sc} {T S T' S' : Sm} {i : Int32} (hR : RmL R)  (h : ls_23 (fun k => L.2 (ix (i + nI k))) T S T' S') (hc : cells + 0 ≤ R.cells ∧ slots + 0 ≤ R.slots) (kk : G mL_law l Γ R Q (cells + 0) (slots + 0) 1819 [some (.ref 6), some (.ref 7), some (.ref 53), some (.ref 90), some (.int i), none, none] [] (cw L T' S')) : G mL_law l Γ R Q cells slots 1198 [some (.ref 6), some (.ref 7), some (.ref 53), some (.ref 90), some (.int i), none, none] [] (cw L T S) := by
  obtain ⟨q, p, h1, h2, he, rfl, rfl⟩ := h
  exact lo_23 hR  h1 h2 he hc kk
theorem lw_24 {l : Launch} {Γ : Gm} {R : Room} {Q : QT} {cells slots : Nat} {L : Sc} {T S T' S' : Sm} {i : Int32} (hR : RmL R) (hb1 : inb (i + 1) L.1) (h : ls_24 (fun k => L.2 (ix (i + nI k))) T S T' S') (hc : cells + 0 ≤ R.cells ∧ slots + 0 ≤ R.slots) (kk : G mL_law l Γ R Q (cells + 0) (slots + 0) 1819 [some (.ref 6), some (.ref 7), some (.ref 53), some (.ref 90), some (.int i), none, none] [] (cw L T' S')) : G mL_law l Γ R Q cells slots 1211 [some (.ref 6), some (.ref 7), some (.ref 53), some (.ref 90), some (.int i), none, none] [] (cw L T S) := by
  obtain ⟨q, p, h1, h2, he, rfl, rfl⟩ := h
  exact lo_24 hR hb1 h1 h2 he hc kk
theorem lw_25 {l : Launch} {Γ : Gm} {R : Room} {Q : QT} {cells slots : Nat} {L : Sc} {T S T' S' : Sm} {i : Int32} (hR : RmL R)  (h : ls_25 (fun k => L.2 (ix (i + nI k))) T S T' S') (hc : cells + 0 ≤ R.cells ∧ slots + 0 ≤ R.slots) (kk : G mL_law l Γ R Q (cells + 0) (slots + 0) 1819 [some (.ref 6), some (.ref 7), some (.ref 53), some (.ref 90), some (.int i), none, none] [] (cw L T' S')) : G mL_law l Γ R Q cells slots 1236 [some (.ref 6), some (.ref 7), some (.ref 53), some (.ref 90), some (.int i), none, none] [] (cw L T S) := by
  obtain ⟨q, p, h1, h2, he, rfl, rfl⟩ := h
  exact lo_25 hR  h1 h2 he hc kk
theorem lw_26 {l : Launch} {Γ : Gm} {R : Room} {Q : QT} {cells slots : Nat} {L : Sc} {T S T' S' : Sm} {i : Int32} (hR : RmL R) (hb1 : inb (i + 1) L.1) (hb2 : inb (i + 2) L.1) (hb3 : inb (i + 3) L.1) (hb4 : inb (i + 4) L.1) (h : ls_26 (fun k => L.2 (ix (i + nI k))) T S T' S') (hc : cells + 0 ≤ R.cells ∧ slots + 0 ≤ R.slots) (kk : G mL_law l Γ R Q (cells + 0) (slots + 0) 1819 [some (.ref 6), some (.ref 7), some (.ref 53), some (.ref 90), some (.int i), none, none] [] (cw L T' S')) : G mL_law l Γ R Q cells slots 1249 [some (.ref 6), some (.ref 7), some (.ref 53), some (.ref 90), some (.int i), none, none] [] (cw L T S) := by
  obtain ⟨q, p, h1, h2, he, rfl, rfl⟩ := h
  exact lo_26 hR hb1 hb2 hb3 hb4 h1 h2 he hc kk
theorem lw_27 {l : Launch} {Γ : Gm} {R : Room} {Q : QT} {cells slots : Nat} {L : Sc} {T S T' S' : Sm} {i : Int32} (hR : RmL R) (hb1 : inb (i + 1) L.1) (h : ls_27 (fun k => L.2 (ix (i + nI k))) T S T' S') (hc : cells + 0 ≤ R.cells ∧ slots + 0 ≤ R.slots) (kk : G mL_law l Γ R Q (cells + 0) (slots + 0) 1819 [some (.ref 6), some (.ref 7), some (.ref 53), some (.ref 90), some (.int i), none, none] [] (cw L T' S')) : G mL_law l Γ R Q cells slots 1310 [some (.ref 6), some (.ref 7), some (.ref 53), some (.ref 90), some (.int i), none, none] [] (cw L T S) := by
  obtain ⟨q, p, h1, h2, he, rfl, rfl⟩ := h
  exact lo_27 hR hb1 h1 h2 he hc kk
theorem lw_28 {l : Launch} {Γ : Gm} {R : Room} {Q : QT} {cells slots : Nat} {L : Sc} {T S T' S' : Sm} {i : Int32} (hR : RmL R) (hb1 : inb (i + 1) L.1) (h : ls_28 (fun k => L.2 (ix (i + nI k))) T S T' S') (hc : cells + 0 ≤ R.cells ∧ slots + 0 ≤ R.slots) (kk : G mL_law l Γ R Q (cells + 0) (slots + 0) 1819 [some (.ref 6), some (.ref 7), some (.ref 53), some (.ref 90), some (.int i), none, none] [] (cw L T' S')) : G mL_law l Γ R Q cells slots 1335 [some (.ref 6), some (.ref 7), some (.ref 53), some (.ref 90), some (.int i), none, none] [] (cw L T S) := by
  obtain ⟨q, p, h1, h2, he, rfl, rfl⟩ := h
  exact lo_28 hR hb1 h1 h2 he hc kk
theorem lw_29 {l : Launch} {Γ : Gm} {R : Room} {Q : QT} {cells slots : Nat} {L : Sc} {T S T' S' : Sm} {i : Int32} (hR : RmL R) (hb1 : inb (i + 1) L.1) (h : ls_29 (fun k => L.2 (ix (i + nI k))) T S T' S') (hc : cells + 0 ≤ R.cells ∧ slots + 0 ≤ R.slots) (kk : G mL_law l Γ R Q (cells + 0) (slots + 0) 1819 [some (.ref 6), some (.ref 7), some (.ref 53), some (.ref 90), some (.int i), none, none] [] (cw L T' S')) : G mL_law l Γ R Q cells slots 1360 [some (.ref 6), some (.ref 7), some (.ref 53), some (.ref 90), some (.int i), none, none] [] (cw L T S) := by
  obtain ⟨q, p, h1, h2, he, rfl, rfl⟩ := h
  exact lo_29 hR hb1 h1 h2 he hc kk
theorem lw_30 {l : Launch} {Γ : Gm} {R : Room} {Q : QT} {cells slots : Nat} {L : Sc} {T S T' S' : Sm} {i : Int32} (hR : RmL R) (hb1 : inb (i + 1) L.1) (hb2 : inb (i + 2) L.1) (hb3 : inb (i + 3) L.1) (h : ls_30 (fun k => L.2 (ix (i + nI k))) T S T' S') (hc : cells + 0 ≤ R.cells ∧ slots + 0 ≤ R.slots) (kk : G mL_law l Γ R Q (cells + 0) (slots + 0) 1819 [some (.ref 6), some (.ref 7), some (.ref 53), some (.ref 90), some (.int i), none, none] [] (cw L T' S')) : G mL_law l Γ R Q cells slots 1385 [some (.ref 6), some (.ref 7), some (.ref 53), some (.ref 90), some (.int i), none, none] [] (cw L T S) := by
  obtain ⟨q, p, h1, h2, he, rfl, rfl⟩ := h
  exact lo_30 hR hb1 hb2 hb3 h1 h2 he hc kk
theorem lw_31 {l : Launch} {Γ : Gm} {R : Room} {Q : QT} {cells slots : Nat} {L : Sc} {T S T' S' : Sm} {i : Int32} (hR : RmL R) (hb1 : inb (i + 1) L.1) (hb2 : inb (i + 2) L.1) (h : ls_31 (fun k => L.2 (ix (i + nI k))) T S T' S') (hc : cells + 0 ≤ R.cells ∧ slots + 0 ≤ R.slots) (kk : G mL_law l Γ R Q (cells + 0) (slots + 0) 1819 [some (.ref 6), some (.ref 7), some (.ref 53), some (.ref 90), some (.int i), none, none] [] (cw L T' S')) : G mL_law l Γ R Q cells slots 1434 [some (.ref 6), some (.ref 7), some (.ref 53), some (.ref 90), some (.int i), none, none] [] (cw L T S) := by
  obtain ⟨q, p, h1, h2, he, rfl, rfl⟩ := h
  exact lo_31 hR hb1 hb2 h1 h2 he hc kk
theorem lw_32 {l : Launch} {Γ : Gm} {R : Room} {Q : QT} {cells slots : Nat} {L : Sc} {T S T' S' : Sm} {i : Int32} (hR : RmL R) (hb1 : inb (i + 1) L.1) (hb2 : inb (i + 2) L.1) (h : ls_32 (fun k => L.2 (ix (i + nI k))) T S T' S') (hc : cells + 0 ≤ R.cells ∧ slots + 0 ≤ R.slots) (kk : G mL_law l Γ R Q (cells + 0) (slots + 0) 1819 [some (.ref 6), some (.ref 7), some (.ref 53), some (.ref 90), some (.int i), none, none] [] (cw L T' S')) : G mL_law l Γ R Q cells slots 1471 [some (.ref 6), some (.ref 7), some (.ref 53), some (.ref 90), some (.int i), none, none] [] (cw L T S) := by
  obtain ⟨q, p, h1, h2, he, rfl, rfl⟩ := h
  exact lo_32 hR hb1 hb2 h1 h2 he hc kk
theorem lw_33 {l : Launch} {Γ : Gm} {R : Room} {Q : QT} {cells slots : Nat} {L : Sc} {T S T' S' : Sm} {i : Int32} (hR : RmL R) (hb1 : inb (i + 1) L.1) (hb2 : inb (i + 2) L.1) (hb3 : inb (i + 3) L.1) (h : ls_33 (fun k => L.2 (ix (i + nI k))) T S T' S') (hc : cells + 0 ≤ R.cells ∧ slots + 0 ≤ R.slots) (kk : G mL_law l Γ R Q (cells + 0) (slots + 0) 1819 [some (.ref 6), some (.ref 7), some (.ref 53), some (.ref 90), some (.int i), none, none] [] (cw L T' S')) : G mL_law l Γ R Q cells slots 1508 [some (.ref 6), some (.ref 7), some (.ref 53), some (.ref 90), some (.int i), none, none] [] (cw L T S) := by
  obtain ⟨q, p, h1, h2, he, rfl, rfl⟩ := h
  exact lo_33 hR hb1 hb2 hb3 h1 h2 he hc kk
theorem lw_34 {l : Launch} {Γ : Gm} {R : Room} {Q : QT} {cells slots : Nat} {L : Sc} {T S T' S' : Sm} {i : Int32} (hR : RmL R) (hb1 : inb (i + 1) L.1) (hb2 : inb (i + 2) L.1) (hb3 : inb (i + 3) L.1) (hb4 : inb (i + 4) L.1) (h : ls_34 (fun k => L.2 (ix (i + nI k))) T S T' S') (hc : cells + 0 ≤ R.cells ∧ slots + 0 ≤ R.slots) (kk : G mL_law l Γ R Q (cells + 0) (slots + 0) 1819 [some (.ref 6), some (.ref 7), some (.ref 53), some (.ref 90), some (.int i), none, none] [] (cw L T' S')) : G mL_law l Γ R Q cells slots 1557 [some (.ref 6), some (.ref 7), some (.ref 53), some (.ref 90), some (.int i), none, none] [] (cw L T S) := by
  obtain ⟨q, p, h1, h2, he, rfl, rfl⟩ := h
  exact lo_34 hR hb1 hb2 hb3 hb4 h1 h2 he hc kk
theorem lw_35 {l : Launch} {Γ : Gm} {R : Room} {Q : QT} {cells slots : Nat} {L : Sc} {T S T' S' : Sm} {i : Int32} (hR : RmL R) (hb1 : inb (i + 1) L.1) (hb2 : inb (i + 2) L.1) (hb3 : inb (i + 3) L.1) (h : ls_35 (fun k => L.2 (ix (i + nI k))) T S T' S') (hc : cells + 0 ≤ R.cells ∧ slots + 0 ≤ R.slots) (kk : G mL_law l Γ R Q (cells + 0) (slots + 0) 1819 [some (.ref 6), some (.ref 7), some (.ref 53), some (.ref 90), some (.int i), none, none] [] (cw L T' S')) : G mL_law l Γ R Q cells slots 1618 [some (.ref 6), some (.ref 7), some (.ref 53), some (.ref 90), some (.int i), none, none] [] (cw L T S) := by
  obtain ⟨q, p, h1, h2, he, rfl, rfl⟩ := h
  exact lo_35 hR hb1 hb2 hb3 h1 h2 he hc kk
theorem lw_36 {l : Launch} {Γ : Gm} {R : Room} {Q : QT} {cells slots : Nat} {L : Sc} {T S T' S' : Sm} {i : Int32} (hR : RmL R)  (h : ls_36 (fun k => L.2 (ix (i + nI k))) T S T' S') (hc : cells + 0 ≤ R.cells ∧ slots + 0 ≤ R.slots) (kk : G mL_law l Γ R Q (cells + 0) (slots + 0) 1819 [some (.ref 6), some (.ref 7), some (.ref 53), some (.ref 90), some (.int i), none, none] [] (cw L T' S')) : G mL_law l Γ R Q cells slots 1667 [some (.ref 6), some (.ref 7), some (.ref 53), some (.ref 90), some (.int i), none, none] [] (cw L T S) := by
  obtain ⟨q, p, h1, h2, he, rfl, rfl⟩ := h
  exact lo_36 hR  h1 h2 he hc kk
theorem lw_37 {l : Launch} {Γ : Gm} {R : Room} {Q : QT} {cells slots : Nat} {L : Sc} {T S T' S' : Sm} {i : Int32} (hR : RmL R) (hb1 : inb (i + 1) L.1) (h : ls_37 (fun k => L.2 (ix (i + nI k))) T S T' S') (hc : cells + 0 ≤ R.cells ∧ slots + 0 ≤ R.slots) (kk : G mL_law l Γ R Q (cells + 0) (slots + 0) 1819 [some (.ref 6), some (.ref 7), some (.ref 53), some (.ref 90), some (.int i), none, none] [] (cw L T' S')) : G mL_law l Γ R Q cells slots 1680 [some (.ref 6), some (.ref 7), some (.ref 53), some (.ref 90), some (.int i), none, none] [] (cw L T S) := by
  obtain ⟨q, p, h1, h2, he, rfl, rfl⟩ := h
  exact lo_37 hR hb1 h1 h2 he hc kk
theorem lw_38 {l : Launch} {Γ : Gm} {R : Room} {Q : QT} {cells slots : Nat} {L : Sc} {T S T' S' : Sm} {i : Int32} (hR : RmL R) (hb1 : inb (i + 1) L.1) (h : ls_38 (fun k => L.2 (ix (i + nI k))) T S T' S') (hc : cells + 0 ≤ R.cells ∧ slots + 0 ≤ R.slots) (kk : G mL_law l Γ R Q (cells + 0) (slots + 0) 1819 [some (.ref 6), some (.ref 7), some (.ref 53), some (.ref 90), some (.int i), none, none] [] (cw L T' S')) : G mL_law l Γ R Q cells slots 1705 [some (.ref 6), some (.ref 7), some (.ref 53), some (.ref 90), some (.int i), none, none] [] (cw L T S) := by
  obtain ⟨q, p, h1, h2, he, rfl, rfl⟩ := h
  exact lo_38 hR hb1 h1 h2 he hc kk
theorem lw_39 {l : Launch} {Γ : Gm} {R : Room} {Q : QT} {cells slots : Nat} {L : Sc} {T S T' S' : Sm} {i : Int32} (hR : RmL R)  (h : ls_39 (fun k => L.2 (ix (i + nI k))) T S T' S') (hc : cells + 0 ≤ R.cells ∧ slots + 0 ≤ R.slots) (kk : G mL_law l Γ R Q (cells + 0) (slots + 0) 1819 [some (.ref 6), some (.ref 7), some (.ref 53), some (.ref 90), some (.int i), none, none] [] (cw L T' S')) : G mL_law l Γ R Q cells slots 1730 [some (.ref 6), some (.ref 7), some (.ref 53), some (.ref 90), some (.int i), none, none] [] (cw L T S) := by
  obtain ⟨q, p, h1, h2, he, rfl, rfl⟩ := h
  exact lo_39 hR  h1 h2 he hc kk
theorem lw_40 {l : Launch} {Γ : Gm} {R : Room} {Q : QT} {cells slots : Nat} {L : Sc} {T S T' S' : Sm} {i : Int32} (hR : RmL R) (hb1 : inb (i + 1) L.1) (h : ls_40 (fun k => L.2 (ix (i + nI k))) T S T' S') (hc : cells + 0 ≤ R.cells ∧ slots + 0 ≤ R.slots) (kk : G mL_law l Γ R Q (cells + 0) (slots + 0) 1819 [some (.ref 6), some (.ref 7), some (.ref 53), some (.ref 90), some (.int i), none, none] [] (cw L T' S')) : G mL_law l Γ R Q cells slots 1743 [some (.ref 6), some (.ref 7), some (.ref 53), some (.ref 90), some (.int i), none, none] [] (cw L T S) := by
  obtain ⟨q, p, h1, h2, he, rfl, rfl⟩ := h
  exact lo_40 hR hb1 h1 h2 he hc kk
theorem lw_41 {l : Launch} {Γ : Gm} {R : Room} {Q : QT} {cells slots : Nat} {L : Sc} {T S T' S' : Sm} {i : Int32} (hR : RmL R)  (h : ls_41 (fun k => L.2 (ix (i + nI k))) T S T' S') (hc : cells + 0 ≤ R.cells ∧ slots + 0 ≤ R.slots) (kk : G mL_law l Γ R Q (cells + 0) (slots + 0) 1819 [some (.ref 6), some (.ref 7), some (.ref 53), some (.ref 90), some (.int i), none, none] [] (cw L T' S')) : G mL_law l Γ R Q cells slots 1768 [some (.ref 6), some (.ref 7), some (.ref 53), some (.ref 90), some (.int i), none, none] [] (cw L T S) := by
  obtain ⟨q, p, h1, h2, he, rfl, rfl⟩ := h
  exact lo_41 hR  h1 h2 he hc kk
theorem lw_42 {l : Launch} {Γ : Gm} {R : Room} {Q : QT} {cells slots : Nat} {L : Sc} {T S T' S' : Sm} {i : Int32} (hR : RmL R)  (h : ls_42 (fun k => L.2 (ix (i + nI k))) T S T' S') (hc : cells + 0 ≤ R.cells ∧ slots + 0 ≤ R.slots) (kk : G mL_law l Γ R Q (cells + 0) (slots + 0) 1819 [some (.ref 6), some (.ref 7), some (.ref 53), some (.ref 90), some (.int i), none, none] [] (cw L T' S')) : G mL_law l Γ R Q cells slots 1781 [some (.ref 6), some (.ref 7), some (.ref 53), some (.ref 90), some (.int i), none, none] [] (cw L T S) := by
  obtain ⟨q, p, h1, h2, he, rfl, rfl⟩ := h
  exact lo_42 hR  h1 h2 he hc kk
theorem lw_43 {l : Launch} {Γ : Gm} {R : Room} {Q : QT} {cells slots : Nat} {L : Sc} {T S T' S' : Sm} {i : Int32} (hR : RmL R) (hb1 : inb (i + 1) L.1) (h : ls_43 (fun k => L.2 (ix (i + nI k))) T S T' S') (hc : cells + 0 ≤ R.cells ∧ slots + 0 ≤ R.slots) (kk : G mL_law l Γ R Q (cells + 0) (slots + 0) 1819 [some (.ref 6), some (.ref 7), some (.ref 53), some (.ref 90), some (.int i), none, none] [] (cw L T' S')) : G mL_law l Γ R Q cells slots 1794 [some (.ref 6), some (.ref 7), some (.ref 53), some (.ref 90), some (.int i), none, none] [] (cw L T S) := by
  obtain ⟨q, p, h1, h2, he, rfl, rfl⟩ := h
  exact lo_43 hR hb1 h1 h2 he hc kk
