/-! ===== the law's way to its loop ===== -/
abbrev mL_law : Mt := (yL_law, cL_law, 7, some .boolean)
def RmL (R : Room) : Prop := 2000 ≤ R.frames ∧ 601024 ≤ R.cells ∧ 7293034 ≤ R.slots ∧ 84000 ≤ R.locals
set_option maxRecDepth 20000 in
theorem law_head {l : Launch} {Γ : Gm} {R : Room} {Q : QT} {L : Nat} {xs : Nat → Int32} (hR : RmL R)
    (kk : G mL_law l Γ R Q 84 24319 23 [some (.ref 6), some (.ref 7), some (.ref 53), some (.ref 90), some (.int 0), none, none] [] (cw (L, xs) (T0 L xs) (S0 L xs))) :
    G mL_law l Γ R Q 0 0 0 [some (.ref 6), none, none, none, none, none, none] [] (w0 L xs) := by
  obtain ⟨r1, r2, r3, r4⟩ := hR
  refine i_new (x := 7) (ci := 11) (q := (RX11, TX11, 12)) (pc := 0) dL_law_0 rfl rfl inX11 tyX11_ok (by decide) cK_L_8 iS_X11 iN_X11 (by omega) (by show 0 + 12 ≤ R.slots; omega) ?_
  show G _ _ _ _ _ 1 12 _ _ _ _
  refine g_dup (pc := 3) dL_law_3 rfl ?_
  refine g_callI (mc1 := 45) (ms1 := 2497) (D := 3) (Mc := mX11_init) (As := []) (rest := [.ref 7]) (b := 7) (pc := 4) dL_law_4 mK_L_15 mf_X11_init iM_X11_init rfl rfl rfl rfl (Nat.le_of_ble_eq_true rfl) ⟨by omega, by show 8 + (1 + 11) + 64 * 3 ≤ R.locals; omega⟩ ⟨by omega, by omega⟩ (ri_7 (L := L) (xs := xs)) ?_
  show G _ _ _ _ _ 46 2509 _ _ _ _
  refine g_astore_n (ls1 := [some (.ref 6), some (.ref 7), none, none, none, none, none]) (pc := 7) dL_law_7 (by decide) rfl ?_
  refine i_new (x := 53) (ci := 12) (q := (RX12, TX12, 58)) (pc := 8) dL_law_8 rfl rfl inX12 tyX12_ok (by decide) cK_L_16 iS_X12 iN_X12 (by omega) (by show 2509 + 58 ≤ R.slots; omega) ?_
  show G _ _ _ _ _ 47 2567 _ _ _ _
  refine g_dup (pc := 11) dL_law_11 rfl ?_
  refine g_callI (mc1 := 36) (ms1 := 21751) (D := 1) (Mc := mX12_init) (As := []) (rest := [.ref 53]) (b := 53) (pc := 12) dL_law_12 mK_L_18 mf_X12_init iM_X12_init rfl rfl rfl rfl (Nat.le_of_ble_eq_true rfl) ⟨by omega, by show 8 + (1 + 11) + 64 * 1 ≤ R.locals; omega⟩ ⟨by omega, by omega⟩ (ri_53 (L := L) (xs := xs)) ?_
  show G _ _ _ _ _ 83 24318 _ _ _ _
  refine g_astore_n (ls1 := [some (.ref 6), some (.ref 7), some (.ref 53), none, none, none, none]) (pc := 15) dL_law_15 (by decide) rfl ?_
  refine g_iconst (v := 1) (pc := 16) dL_law_16 (by decide) ?_
  refine i_newa (x := 90) (N := 1) (pc := 17) dL_law_17 rfl rfl 3 (fun _ => rfl) (Or.inr (Or.inr rfl)) (fun _ _ h => h) aC_long (by decide) (by decide) (by decide) (by omega) (by omega) ?_
  refine g_astore_n (ls1 := [some (.ref 6), some (.ref 7), some (.ref 53), some (.ref 90), none, none, none]) (pc := 19) dL_law_19 (by decide) rfl ?_
  refine g_iconst (v := 0) (pc := 20) dL_law_20 (by decide) ?_
  refine g_istore (ls1 := [some (.ref 6), some (.ref 7), some (.ref 53), some (.ref 90), some (.int 0), none, none]) (pc := 21) dL_law_21 (by decide) rfl ?_
  rw [← start_cw] at kk
  exact kk
