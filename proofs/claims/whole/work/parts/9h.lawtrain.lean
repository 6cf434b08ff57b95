/-! ===== the law's op 5 ===== -/
theorem lt_good : GoodIn WS (va_wsS RL 43 yL_train (LtW :: WS)) := fun w hw => by
  have hi : Cond.initialized RL ∈ WS := by decide +kernel
  have : w ∈ WS := by
    rcases List.mem_append.mp hw with h | h
    · rcases List.mem_cons.mp h with rfl | h
      · exact mK_L_43
      · rcases List.mem_cons.mp h with rfl | h
        · exact sT_L_train
        · rw [List.mem_singleton.mp h]; exact hi
    · rcases List.mem_cons.mp h with rfl | h
      · exact lt_in
      · exact h
  exact ⟨this, good_of_word (WS_good _ this)⟩
theorem g_lt {l : Launch} {Γ : Gm} {R : Room} {Q : QT} {cells slots : Nat} {ls : List (Option Value)} {L : Sc} {T S : Sm} {a b r : Int32} {w' : Wd} (hr : vx_Met l yL_train (LtW :: WS) (rmD 10 1 6) (Pc0 Γ (cw L T S) [.ref 7, .int a, .int b, .ref 90]) (Qc0 Γ (some (.int r)) w') (fun _ _ _ => False) 1 6 (fun q => Γ.2.2.2 ≤ q)) (hR : RmL R) (hcs : cells + 1 ≤ R.cells ∧ slots + 6 ≤ R.slots) (kk : G mL_law l Γ R Q (cells + 1) (slots + 6) 446 ls [.int r] w') : G mL_law l Γ R Q cells slots 443 ls [.ref 90, .int b, .int a, .ref 7] (cw L T S) := by
  obtain ⟨r1, r2, r3, r4⟩ := hR
  intro p e s m args below meth c H locs la X hS hl'
  have hts := X.2.2.2.2.1
  refine W_callkx (mc := 1) (ms := 6) (rest := []) (vx_runSX (nL := 7) (Ts := WS) (own := RL) (index := 43) (bytes := cL_train) (maxL := 5) (ret := some .int) (hh := [(0, 10, 13, 13)]) (As := [.ref (ad Γ 7), .int a, .int b, .ref (ad Γ 90)]) (n := 4) ⟨X.1, X.2.1, X.2.2.1, X.2.2.2.1, hts⟩ hr (vx_cwSW (ws' := WS) 4 hts lt_good rfl rfl rfl ⟨by decide, by decide, by decide +kernel⟩ ⟨by show 10 + 1 ≤ R.frames; omega, by show 8 + (5 + 11) + 64 * 10 ≤ R.locals; omega⟩) ⟨Pc0_blind Γ _ _, pre_call X hS [.ref 7, .int a, .int b, .ref 90]⟩ rfl rfl hl'.1 rfl (Nat.le_of_ble_eq_true rfl) dL_law_443 hcs) hS fun H1 locs1 hS1 => ?_
  exact kk p e s m args below meth c H1 locs1 la X hS1 hl'
theorem lcmp_self (v : Int64) : lg_cmp v v = 0 := by
  unfold lg_cmp
  simp
theorem lw5 : Lw5 := by
  intro l Γ R Q cells slots L T S T' S' i hsT hR hb1 hb2 h hN hc kk
  obtain ⟨p, h2, rfl, h⟩ := h
  have hR' := hR
  obtain ⟨r1, r2, r3, r4⟩ := hR
  have rest : ∀ (r : Int32) (S1 : Sm), gi p.2 53 0 = r → (r = 0 → gl S1 90 0 = Int32.toInt64 p.1) → S' = S1 → G mL_law l Γ R Q (cells + 1) (slots + 6) 446 [some (.ref 6), some (.ref 7), some (.ref 53), some (.ref 90), some (.int i), none, none] [.int r] (cw L T S1) := fun r S1 hr hv he => by
    subst he
    refine g_istore (ls1 := [some (.ref 6), some (.ref 7), some (.ref 53), some (.ref 90), some (.int i), some (.int r), none]) (pc := 446) dL_law_446 (by decide) rfl ?_
    refine g_aload_n (pc := 448) dL_law_448 rfl ?_
    refine g_aload_n (pc := 449) dL_law_449 rfl ?_
    refine g_iload (pc := 450) dL_law_450 rfl ?_
    refine g_iconst (v := 1) (pc := 452) dL_law_452 (by decide) ?_
    refine g_iadd (pc := 453) dL_law_453 ?_
    refine l_iald (pc := 454) dL_law_454 hb1 ?_
    refine g_aload_n (pc := 455) dL_law_455 rfl ?_
    refine g_iload (pc := 456) dL_law_456 rfl ?_
    refine g_iconst (v := 2) (pc := 458) dL_law_458 (by decide) ?_
    refine g_iadd (pc := 459) dL_law_459 ?_
    refine l_iald (pc := 460) dL_law_460 hb2 ?_
    refine k_callVi (V := fun T => cw L T S') (cw_okT L S') (S := T) (Mc := mX12_train) (v := p.1) (S1 := p.2) (As := [.int (L.2 (ix (i + 1))), .int (L.2 (ix (i + 2)))]) (rest := []) (q := (RX12, TX12, 58)) (pc := 461) dL_law_461 mK_L_48 mf_X12_train rfl k0_53 rfl rfl rfl (Nat.le_of_ble_eq_true rfl) ⟨by omega, Nat.le_trans (Nat.le_of_ble_eq_true (m := 84000) rfl) r4⟩ (r_Md_train (V := fun T => cw L T S') (cw_okT L S') h2) ?_ hc
    refine g_istore (ls1 := [some (.ref 6), some (.ref 7), some (.ref 53), some (.ref 90), some (.int i), some (.int r), some (.int p.1)]) (pc := 464) dL_law_464 (by decide) rfl ?_
    refine g_aload_n (pc := 466) dL_law_466 rfl ?_
    refine k_callVi (V := fun T => cw L T S') (cw_okT L S') (S := p.2) (Mc := mX12_thrown) (v := Md_thrown p.2) (S1 := p.2) (As := []) (rest := []) (q := (RX12, TX12, 58)) (pc := 467) dL_law_467 mK_L_49 mf_X12_thrown rfl k0_53 rfl rfl rfl (Nat.le_of_ble_eq_true rfl) ⟨by omega, Nat.le_trans (Nat.le_of_ble_eq_true (m := 84000) rfl) r4⟩ (r_Md_thrown (V := fun T => cw L T S') (cw_okT L S') rfl) ?_ hc
    have e0 : Md_thrown p.2 = r := hr
    refine g_iload (pc := 470) dL_law_470 rfl ?_
    refine g_icmp_eq (tgt := 477) (pc := 472) dL_law_472 (by decide) (fun _ => ?_) (fun c => absurd e0 c)
    refine g_iload (pc := 477) dL_law_477 rfl ?_
    have fin : G mL_law l Γ R Q (cells + 1) (slots + 6) 494 [some (.ref 6), some (.ref 7), some (.ref 53), some (.ref 90), some (.int i), some (.int r), some (.int p.1)] [] (cw L p.2 S') := by
      refine g_goto (tgt := 1819) (pc := 494) dL_law_494 (by decide) ?_
      exact g_wk [true, true, true, true, true, false, false] rfl kk
    refine g_if_ne (tgt := 494) (pc := 479) dL_law_479 (by decide) (fun _ => fin) (fun c0 => ?_)
    refine g_aload_n (pc := 482) dL_law_482 rfl ?_
    refine g_iconst (v := 0) (pc := 483) dL_law_483 (by decide) ?_
    refine gw_lald (n := 1) (pc := 484) dL_law_484 (show gK (cw L p.2 S') 90 = some (.inr (.long, 1)) from rfl) (by unfold vp_in; decide) ?_
    refine g_iload (pc := 485) dL_law_485 rfl ?_
    refine g_i2l (pc := 487) dL_law_487 ?_
    refine g_lcmp (pc := 488) dL_law_488 ?_
    have ev : gL (cw L p.2 S') 90 (0 : Int32).toNatClampNeg = Int32.toInt64 p.1 := hv c0
    rw [ev, lcmp_self]
    refine g_if_eq (tgt := 494) (pc := 489) dL_law_489 (by decide) (fun _ => fin) (fun c => absurd rfl c)
  refine g_aload_n (pc := 429) dL_law_429 rfl ?_
  refine g_aload_n (pc := 430) dL_law_430 rfl ?_
  refine g_iload (pc := 431) dL_law_431 rfl ?_
  refine g_iconst (v := 1) (pc := 433) dL_law_433 (by decide) ?_
  refine g_iadd (pc := 434) dL_law_434 ?_
  refine l_iald (pc := 435) dL_law_435 hb1 ?_
  refine g_aload_n (pc := 436) dL_law_436 rfl ?_
  refine g_iload (pc := 437) dL_law_437 rfl ?_
  refine g_iconst (v := 2) (pc := 439) dL_law_439 (by decide) ?_
  refine g_iadd (pc := 440) dL_law_440 ?_
  refine l_iald (pc := 441) dL_law_441 hb2 ?_
  refine g_aload_n (pc := 442) dL_law_442 rfl ?_
  rcases h with ⟨hok, v, hv, h0, hvp, he⟩ | ⟨hno, h1, he⟩
  · exact g_lt (lt_norm hok hv l Γ) hR' hc (rest 0 _ h0 (fun _ => by
      rw [← hvp]
      show (if 90 = 90 ∧ 0 = 0 then Int32.toInt64 v else S.2 90 0) = Int32.toInt64 v
      exact if_pos (And.intro rfl rfl)) he)
  · exact g_lt (lt_x hno hN l hsT Γ) hR' hc (rest 1 _ h1 (fun c => absurd c (by decide)) he)
