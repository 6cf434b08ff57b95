/-! ===== moments that are made: the constructor, aheadAt, become; keep, takeBack ===== -/
theorem iM_objI : Cond.instanceMethod objectInit ∈ WS := ws_of (tb_1 27 (by decide +kernel)) (by decide +kernel)
theorem cO_objI : Cond.code objectInit ⟨#[0xb1]⟩ 1 none ∈ WS := ws_of (tb_1 28 (by decide +kernel)) (by decide +kernel)
section NL
variable {M : Mt} {l : Launch} {Γ : Gm} {R : Room} {Q : QT} {cells slots pc : Nat} {ls : List (Option Value)} {st : List Value} {w : Wd}
theorem g_aload_null {k : Fin 4} (hd : decode M.2.1 pc = .ok (.aload_n k, 1)) (hx : ls[(k : Nat)]? = some (some .null)) (kk : G M l Γ R Q cells slots (pc + 1) ls (.null :: st) w) : G M l Γ R Q cells slots pc ls st w := by
  intro p e s m args below meth c H locs la X hS hl
  exact lv_aload_nN X.1 X.2.1 hd rfl (hl.2.2 _ _ hx) (kk p e s m args below meth c H locs la X hS hl)
theorem g_astore_null {k : Fin 4} {ls1 : List (Option Value)} (hd : decode M.2.1 pc = .ok (.astore_n k, 1)) (hi : (k : Nat) < M.2.2.1) (hs : st1 ls (k : Nat) .null = ls1) (kk : G M l Γ R Q cells slots (pc + 1) ls1 st w) : G M l Γ R Q cells slots pc ls (.null :: st) w := by
  intro p e s m args below meth c H locs la X hS hl
  subst hs
  obtain ⟨la', e', h'⟩ := hl.put1 (v := .null) hi rfl
  intro T hT Xs
  obtain ⟨t, a, b⟩ := kk p e s m args below meth c H locs la' X hS h' T hT Xs
  refine ⟨t, ?_, b⟩
  have hx1 := X.1
  have hb1 := X.2.1
  have e2 : storeLocals la (k : Nat) .null = some la' := e'
  show Steps p.tables e below (T.setTop (F0 m pc la (.null :: st.map (rv Γ)))) t
  jvm_step Xs.here [Xs.here.top, ↓top_set Xs.here.top, hx1, hb1, hd, e2, Value.isRef]
  exact a
end NL
def miW (w : Wd) (x : Nat) : Wd :=
  sI (sI (sI (sI (sR (sN (sR (sN (sR (sN (sR (sN w (.inr (.int, 56))) x 0 (some (gN w))) (.inr (.int, 40))) x 1 (some (gN w + 1))) (.inr (.int, 8))) x 2 (some (gN w + 2))) (.inr (.int, 60))) x 3 (some (gN w + 3))) x 4 0) x 5 0) x 6 0) x 7 0
theorem gK_sN {w : Wd} {k : Kd} {i : Nat} (h : i ≠ gN w) : gK (sN w k) i = gK w i := if_neg h
set_option maxRecDepth 4000 in
theorem r_Mo_init {w : Wd} {x : Nat} (hk : gK w x = some (.inl 4)) (h7 : 7 ≤ x) (hx : x < gN w) : Runs 1 mX4_init [.ref x] w none (miW w x) 4 164 := by
  refine Runs.of2 [some (.ref x)] 0 rfl rfl (Nat.le_of_ble_eq_true rfl) (fun l Γ => ?_)
  have n1 : x ≠ gN w := by omega
  have n2 : x ≠ gN w + 1 := by omega
  have n3 : x ≠ gN w + 2 := by omega
  have n4 : x ≠ gN w + 3 := by omega
  refine g_aload_n (pc := 0) dX4_init_0 rfl ?_
  refine g_objI (pc := 1) dX4_init_1 mK_X4_3 iM_objI cO_objI ⟨Nat.le_of_ble_eq_true rfl, Nat.le_of_ble_eq_true rfl⟩ ?_
  refine g_aload_n (pc := 4) dX4_init_4 rfl ?_
  refine g_bipush (v := 56) (pc := 5) dX4_init_5 (by decide) ?_
  refine gw_newa (N := 56) (pc := 7) dX4_init_7 rfl 0 (fun _ => rfl) (Or.inl rfl) (fun _ _ h => h) aC_int (by decide) (by decide) (by decide) (Nat.le_of_ble_eq_true rfl) (Nat.le_of_ble_eq_true rfl) ?_
  refine gw_putR (pc := 9) dX4_init_9 fo_4_0 rfl ((gK_sN n1).trans hk) h7 (Or.inr rfl) ?_
  refine g_aload_n (pc := 12) dX4_init_12 rfl ?_
  refine g_bipush (v := 40) (pc := 13) dX4_init_13 (by decide) ?_
  refine gw_newa (N := 40) (pc := 15) dX4_init_15 rfl 0 (fun _ => rfl) (Or.inl rfl) (fun _ _ h => h) aC_int (by decide) (by decide) (by decide) (Nat.le_of_ble_eq_true rfl) (Nat.le_of_ble_eq_true rfl) ?_
  refine gw_putR (pc := 17) dX4_init_17 fo_4_1 rfl ((gK_sN n2).trans ((gK_sN n1).trans hk)) h7 (Or.inr rfl) ?_
  refine g_aload_n (pc := 20) dX4_init_20 rfl ?_
  refine g_bipush (v := 8) (pc := 21) dX4_init_21 (by decide) ?_
  refine gw_newa (N := 8) (pc := 23) dX4_init_23 rfl 0 (fun _ => rfl) (Or.inl rfl) (fun _ _ h => h) aC_int (by decide) (by decide) (by decide) (Nat.le_of_ble_eq_true rfl) (Nat.le_of_ble_eq_true rfl) ?_
  refine gw_putR (pc := 25) dX4_init_25 fo_4_2 rfl ((gK_sN n3).trans ((gK_sN n2).trans ((gK_sN n1).trans hk))) h7 (Or.inr rfl) ?_
  refine g_aload_n (pc := 28) dX4_init_28 rfl ?_
  refine g_bipush (v := 60) (pc := 29) dX4_init_29 (by decide) ?_
  refine gw_newa (N := 60) (pc := 31) dX4_init_31 rfl 0 (fun _ => rfl) (Or.inl rfl) (fun _ _ h => h) aC_int (by decide) (by decide) (by decide) (Nat.le_of_ble_eq_true rfl) (Nat.le_of_ble_eq_true rfl) ?_
  have hk4 : gK (sN (sR (sN (sR (sN (sR (sN w (.inr (.int, 56))) x 0 (some (gN w))) (.inr (.int, 40))) x 1 (some (gN w + 1))) (.inr (.int, 8))) x 2 (some (gN w + 2))) (.inr (.int, 60))) x = some (.inl 4) := (gK_sN n4).trans ((gK_sN n3).trans ((gK_sN n2).trans ((gK_sN n1).trans hk)))
  refine gw_putR (pc := 33) dX4_init_33 fo_4_3 rfl hk4 h7 (Or.inr rfl) ?_
  refine g_aload_n (pc := 36) dX4_init_36 rfl ?_
  refine g_iconst (v := 0) (pc := 37) dX4_init_37 (by decide) ?_
  refine gw_putI (pc := 38) dX4_init_38 fo_4_4 rfl hk4 h7 (Or.inr rfl) rfl rfl ?_
  refine g_aload_n (pc := 41) dX4_init_41 rfl ?_
  refine g_iconst (v := 0) (pc := 42) dX4_init_42 (by decide) ?_
  refine gw_putI (pc := 43) dX4_init_43 fo_4_5 rfl hk4 h7 (Or.inr rfl) rfl rfl ?_
  refine g_aload_n (pc := 46) dX4_init_46 rfl ?_
  refine g_iconst (v := 0) (pc := 47) dX4_init_47 (by decide) ?_
  refine gw_putI (pc := 48) dX4_init_48 fo_4_6 rfl hk4 h7 (Or.inr rfl) rfl rfl ?_
  refine g_aload_n (pc := 51) dX4_init_51 rfl ?_
  refine g_iconst (v := 0) (pc := 52) dX4_init_52 (by decide) ?_
  refine gw_putI (pc := 53) dX4_init_53 fo_4_7 rfl hk4 h7 (Or.inr rfl) rfl rfl ?_
  exact g_vret (pc := 56) dX4_init_56 rfl (Nat.le_of_ble_eq_true rfl) (Nat.le_of_ble_eq_true rfl)
/-- a moment's cells in a world -/
def MoAt (w : Wd) (a a0 a1 a2 a3 : Nat) : Prop := gK w a = some (.inl 4) ∧ gR w a 0 = some a0 ∧ gR w a 1 = some a1 ∧ gR w a 2 = some a2 ∧ gR w a 3 = some a3 ∧ gK w a0 = some (.inr (.int, 56)) ∧ gK w a1 = some (.inr (.int, 40)) ∧ gK w a2 = some (.inr (.int, 8)) ∧ gK w a3 = some (.inr (.int, 60)) ∧ 7 ≤ a ∧ 7 ≤ a0 ∧ 7 ≤ a1 ∧ 7 ≤ a2 ∧ 7 ≤ a3
def bcW (w : Wd) (a a0 a1 a2 a3 b b0 b1 b2 b3 : Nat) : Wd :=
  let w1 := sC (sC (sC (sC w b0 a0 56) b1 a1 40) b2 a2 8) b3 a3 60
  let w2 := sI w1 a 4 (gI w1 b 4)
  let w3 := sI w2 a 5 (gI w2 b 5)
  let w4 := sI w3 a 6 (gI w3 b 6)
  sI w4 a 7 (gI w4 b 7)
set_option maxRecDepth 4000 in
theorem r_Mo_become {w : Wd} {a a0 a1 a2 a3 b b0 b1 b2 b3 : Nat} (ha : MoAt w a a0 a1 a2 a3) (hb : MoAt w b b0 b1 b2 b3) : Runs 2 mX4_become [.ref a, .ref b] w none (bcW w a a0 a1 a2 a3 b b0 b1 b2 b3) 0 0 := by
  obtain ⟨ka, ra0, ra1, ra2, ra3, ka0, ka1, ka2, ka3, sa, sa0, sa1, sa2, sa3⟩ := ha
  obtain ⟨kb, rb0, rb1, rb2, rb3, kb0, kb1, kb2, kb3, -, tb0, tb1, tb2, tb3⟩ := hb
  refine Runs.of2 [some (.ref a), some (.ref b)] 0 rfl rfl (Nat.le_of_ble_eq_true rfl) (fun l Γ => ?_)
  refine g_aload_n (pc := 0) dX4_become_0 rfl ?_
  refine gw_getR (pc := 1) dX4_become_1 fo_4_0 rfl kb rb0 ?_
  refine g_aload_n (pc := 4) dX4_become_4 rfl ?_
  refine gw_getR (pc := 5) dX4_become_5 fo_4_0 rfl ka ra0 ?_
  refine g_callSN (Mc := mX11_copy) (As := [.ref b0, .ref a0]) (rest := []) (pc := 8) dX4_become_8 nl_X4_37 mf_X11_copy.1 mf_X11_copy.2 rfl rfl (Nat.le_of_ble_eq_true rfl) ⟨Nat.le_of_ble_eq_true rfl, Nat.le_of_ble_eq_true rfl⟩ ⟨Nat.le_refl _, Nat.le_refl _⟩ (r_copy_w kb0 ka0 tb0 sa0 (by decide)) ?_
  show G _ _ _ _ _ 0 0 _ _ [] (sC w b0 a0 56)
  refine g_aload_n (pc := 11) dX4_become_11 rfl ?_
  refine gw_getR (pc := 12) dX4_become_12 fo_4_1 rfl kb rb1 ?_
  refine g_aload_n (pc := 15) dX4_become_15 rfl ?_
  refine gw_getR (pc := 16) dX4_become_16 fo_4_1 rfl ka ra1 ?_
  refine g_callSN (Mc := mX11_copy) (As := [.ref b1, .ref a1]) (rest := []) (pc := 19) dX4_become_19 nl_X4_37 mf_X11_copy.1 mf_X11_copy.2 rfl rfl (Nat.le_of_ble_eq_true rfl) ⟨Nat.le_of_ble_eq_true rfl, Nat.le_of_ble_eq_true rfl⟩ ⟨Nat.le_refl _, Nat.le_refl _⟩ (r_copy_w kb1 ka1 tb1 sa1 (by decide)) ?_
  show G _ _ _ _ _ 0 0 _ _ [] (sC (sC w b0 a0 56) b1 a1 40)
  refine g_aload_n (pc := 22) dX4_become_22 rfl ?_
  refine gw_getR (pc := 23) dX4_become_23 fo_4_2 rfl kb rb2 ?_
  refine g_aload_n (pc := 26) dX4_become_26 rfl ?_
  refine gw_getR (pc := 27) dX4_become_27 fo_4_2 rfl ka ra2 ?_
  refine g_callSN (Mc := mX11_copy) (As := [.ref b2, .ref a2]) (rest := []) (pc := 30) dX4_become_30 nl_X4_37 mf_X11_copy.1 mf_X11_copy.2 rfl rfl (Nat.le_of_ble_eq_true rfl) ⟨Nat.le_of_ble_eq_true rfl, Nat.le_of_ble_eq_true rfl⟩ ⟨Nat.le_refl _, Nat.le_refl _⟩ (r_copy_w kb2 ka2 tb2 sa2 (by decide)) ?_
  show G _ _ _ _ _ 0 0 _ _ [] (sC (sC (sC w b0 a0 56) b1 a1 40) b2 a2 8)
  refine g_aload_n (pc := 33) dX4_become_33 rfl ?_
  refine gw_getR (pc := 34) dX4_become_34 fo_4_3 rfl kb rb3 ?_
  refine g_aload_n (pc := 37) dX4_become_37 rfl ?_
  refine gw_getR (pc := 38) dX4_become_38 fo_4_3 rfl ka ra3 ?_
  refine g_callSN (Mc := mX11_copy) (As := [.ref b3, .ref a3]) (rest := []) (pc := 41) dX4_become_41 nl_X4_37 mf_X11_copy.1 mf_X11_copy.2 rfl rfl (Nat.le_of_ble_eq_true rfl) ⟨Nat.le_of_ble_eq_true rfl, Nat.le_of_ble_eq_true rfl⟩ ⟨Nat.le_refl _, Nat.le_refl _⟩ (r_copy_w kb3 ka3 tb3 sa3 (by decide)) ?_
  show G _ _ _ _ _ 0 0 _ _ [] (sC (sC (sC (sC w b0 a0 56) b1 a1 40) b2 a2 8) b3 a3 60)
  unfold bcW
  generalize hw1 : sC (sC (sC (sC w b0 a0 56) b1 a1 40) b2 a2 8) b3 a3 60 = w1
  have ka' : gK w1 a = some (.inl 4) := by rw [← hw1]; exact ka
  have kb' : gK w1 b = some (.inl 4) := by rw [← hw1]; exact kb
  dsimp only
  refine g_aload_n (pc := 44) dX4_become_44 rfl ?_
  refine g_aload_n (pc := 45) dX4_become_45 rfl ?_
  refine gw_getI (pc := 46) dX4_become_46 fo_4_4 rfl kb' ?_
  refine gw_putI (pc := 49) dX4_become_49 fo_4_4 rfl ka' sa (Or.inl rfl) rfl rfl ?_
  refine g_aload_n (pc := 52) dX4_become_52 rfl ?_
  refine g_aload_n (pc := 53) dX4_become_53 rfl ?_
  refine gw_getI (pc := 54) dX4_become_54 fo_4_5 rfl kb' ?_
  refine gw_putI (pc := 57) dX4_become_57 fo_4_5 rfl ka' sa (Or.inl rfl) rfl rfl ?_
  refine g_aload_n (pc := 60) dX4_become_60 rfl ?_
  refine g_aload_n (pc := 61) dX4_become_61 rfl ?_
  refine gw_getI (pc := 62) dX4_become_62 fo_4_6 rfl kb' ?_
  refine gw_putI (pc := 65) dX4_become_65 fo_4_6 rfl ka' sa (Or.inl rfl) rfl rfl ?_
  refine g_aload_n (pc := 68) dX4_become_68 rfl ?_
  refine g_aload_n (pc := 69) dX4_become_69 rfl ?_
  refine gw_getI (pc := 70) dX4_become_70 fo_4_7 rfl kb' ?_
  refine gw_putI (pc := 73) dX4_become_73 fo_4_7 rfl ka' sa (Or.inl rfl) rfl rfl ?_
  exact g_vret (pc := 76) dX4_become_76 rfl (Nat.le_refl _) (Nat.le_refl _)
set_option maxRecDepth 4000 in
theorem r_Ac_aheadAt {w : Wd} {j : Int32} (hk : gK w 30 = some (.inl 0)) (hr : gR w 30 1 = some 31) (hk1 : gK w 31 = some (.inr (.object "DarkLamps$Moment", 40))) (hN : 31 < gN w) (hin : inb j 40) {x : Nat} {w' : Wd} {mc ms : Nat}
    (h : (gR w 31 (ix j) = some x ∧ w' = w ∧ mc = 0 ∧ ms = 0) ∨ (gR w 31 (ix j) = none ∧ x = gN w ∧ w' = sR (miW (sN w (.inl 4)) (gN w)) 31 (ix j) (some (gN w)) ∧ mc = 5 ∧ ms = 172)) : Runs 2 mX0_aheadAt [.ref 30, .int j] w (some (.ref x)) w' mc ms := by
  refine Runs.of2 [some (.ref 30), some (.int j), none, none] 2 rfl rfl (Nat.le_of_ble_eq_true rfl) (fun l Γ => ?_)
  have hj0 : ¬ j < 0 := fun q => hin (Or.inl q)
  refine g_iload_n (pc := 0) dX0_aheadAt_0 rfl ?_
  refine g_if_lt (tgt := 17) (pc := 1) dX0_aheadAt_1 (by decide) (fun c => absurd c hj0) (fun c => ?_)
  refine g_iload_n (pc := 4) dX0_aheadAt_4 rfl ?_
  refine g_aload_n (pc := 5) dX0_aheadAt_5 rfl ?_
  refine gw_getR (pc := 6) dX0_aheadAt_6 fo_0_1 rfl hk hr ?_
  refine gw_alen (v := 40) (pc := 9) dX0_aheadAt_9 hk1 4 (fun _ => rfl) (by decide) ?_
  have hj1 : ¬ (40 : Int32) ≤ j := by
    intro q
    refine hin (Or.inr ?_)
    obtain ⟨i, hi, rfl⟩ := nI_of hj0
    rw [nI_clamp hi]
    exact (nI_leI (a := 40) (by decide) hi).mp q
  refine g_icmp_ge (tgt := 17) (pc := 10) dX0_aheadAt_10 (by decide) (fun c => absurd c hj1) (fun c => ?_)
  refine g_iconst (v := 1) (pc := 13) dX0_aheadAt_13 (by decide) ?_
  refine g_goto (tgt := 18) (pc := 14) dX0_aheadAt_14 (by decide) ?_
  refine g_istore_n (ls1 := [some (.ref 30), some (.int j), some (.int 1), none]) (pc := 18) dX0_aheadAt_18 (by decide) rfl ?_
  refine g_iload_n (pc := 19) dX0_aheadAt_19 rfl ?_
  refine g_if_eq (tgt := 32) (pc := 20) dX0_aheadAt_20 (by decide) (fun c => absurd c (by decide)) (fun c => ?_)
  refine g_aload_n (pc := 23) dX0_aheadAt_23 rfl ?_
  refine gw_getR (pc := 24) dX0_aheadAt_24 fo_0_1 rfl hk hr ?_
  refine g_iload_n (pc := 27) dX0_aheadAt_27 rfl ?_
  refine gw_aald (pc := 28) dX0_aheadAt_28 hk1 hin ?_
  rcases h with ⟨h1, rfl, rfl, rfl⟩ | ⟨h1, rfl, rfl, rfl, rfl⟩
  · rw [show gR w' 31 (Int32.toNatClampNeg j) = some x from h1]
    show G _ _ _ _ _ _ _ _ _ [.ref x] _
    refine g_goto (tgt := 33) (pc := 29) dX0_aheadAt_29 (by decide) ?_
    refine g_astore_n (ls1 := [some (.ref 30), some (.int j), some (.int 1), some (.ref x)]) (pc := 33) dX0_aheadAt_33 (by decide) rfl ?_
    refine g_aload_n (pc := 34) dX0_aheadAt_34 rfl ?_
    refine g_ifnonnull (x := some x) (tgt := 57) (pc := 35) dX0_aheadAt_35 (by decide) (fun y hy => ?_) (fun hy => by cases hy)
    refine g_aload_n (pc := 57) dX0_aheadAt_57 rfl ?_
    exact g_aret (pc := 58) dX0_aheadAt_58 rfl (Nat.le_refl _) (Nat.le_refl _)
  · rw [show gR w 31 (Int32.toNatClampNeg j) = none from h1]
    show G _ _ _ _ _ _ _ _ _ [.null] _
    refine g_goto (tgt := 33) (pc := 29) dX0_aheadAt_29 (by decide) ?_
    refine g_astore_null (ls1 := [some (.ref 30), some (.int j), some (.int 1), some .null]) (pc := 33) dX0_aheadAt_33 (by decide) rfl ?_
    refine g_aload_null (pc := 34) dX0_aheadAt_34 rfl ?_
    refine g_ifnonnull (x := none) (tgt := 57) (pc := 35) dX0_aheadAt_35 (by decide) (fun y hy => by cases hy) (fun hy => ?_)
    refine gw_new (ci := 4) (q := (RX4, TX4, 8)) (pc := 38) dX0_aheadAt_38 rfl inX4 tyX4_ok (by decide) cK_X0_11 iS_X4 iN_X4 (Nat.le_of_ble_eq_true rfl) (Nat.le_of_ble_eq_true rfl) ?_
    refine g_dup (pc := 41) dX0_aheadAt_41 rfl ?_
    refine g_callIN (Mc := mX4_init) (As := []) (rest := [.ref (gN w)]) (b := gN w) (pc := 42) dX0_aheadAt_42 nl_X0_17 mf_X4_init iM_X4_init rfl rfl rfl rfl (Nat.le_of_ble_eq_true rfl) ⟨Nat.le_of_ble_eq_true rfl, Nat.le_of_ble_eq_true rfl⟩ ⟨Nat.le_of_ble_eq_true rfl, Nat.le_of_ble_eq_true rfl⟩ (r_Mo_init gK_new (by omega) (Nat.lt_succ_self _)) ?_
    refine g_astore_n (ls1 := [some (.ref 30), some (.int j), some (.int 1), some (.ref (gN w))]) (pc := 45) dX0_aheadAt_45 (by decide) rfl ?_
    refine g_iload_n (pc := 46) dX0_aheadAt_46 rfl ?_
    refine g_if_eq (tgt := 57) (pc := 47) dX0_aheadAt_47 (by decide) (fun c => absurd c (by decide)) (fun c => ?_)
    have old : ∀ i, i < gN w → gK (miW (sN w (.inl 4)) (gN w)) i = gK w i := fun i hi => by
      refine (gK_sN (i := i) ?_).trans ((gK_sN (i := i) ?_).trans ((gK_sN (i := i) ?_).trans ((gK_sN (i := i) ?_).trans (gK_sN (by omega)))))
      · show i ≠ gN w + 1 + 1 + 1 + 1; omega
      · show i ≠ gN w + 1 + 1 + 1; omega
      · show i ≠ gN w + 1 + 1; omega
      · show i ≠ gN w + 1; omega
    have hkn : gK (miW (sN w (.inl 4)) (gN w)) (gN w) = some (.inl 4) := by
      refine (gK_sN (i := gN w) ?_).trans ((gK_sN (i := gN w) ?_).trans ((gK_sN (i := gN w) ?_).trans ((gK_sN (i := gN w) ?_).trans gK_new)))
      · show gN w ≠ gN w + 1 + 1 + 1 + 1; omega
      · show gN w ≠ gN w + 1 + 1 + 1; omega
      · show gN w ≠ gN w + 1 + 1; omega
      · show gN w ≠ gN w + 1; omega
    have hr30 : gR (miW (sN w (.inl 4)) (gN w)) 30 1 = some 31 := by
      have n30 : (30 : Nat) ≠ gN w := by omega
      have a1 : ∀ (u : Wd) (k : Kd), 30 < gN u → gR (sN u k) 30 1 = gR u 30 1 := fun u k hu => if_neg (by show ¬ (30 : Nat) = gN u; omega)
      have a2 : ∀ (u : Wd) (k : Nat) (v : Option Nat), gR (sR u (gN w) k v) 30 1 = gR u 30 1 := fun u k v => if_neg fun q => n30 q.1
      refine (a2 _ _ _).trans ((a1 _ _ ?_).trans ((a2 _ _ _).trans ((a1 _ _ ?_).trans ((a2 _ _ _).trans ((a1 _ _ ?_).trans ((a2 _ _ _).trans ((a1 _ _ ?_).trans ((a1 w _ (by omega)).trans hr))))))))
      · show 30 < gN w + 1 + 1 + 1 + 1; omega
      · show 30 < gN w + 1 + 1 + 1; omega
      · show 30 < gN w + 1 + 1; omega
      · show 30 < gN w + 1; omega
    refine g_aload_n (pc := 50) dX0_aheadAt_50 rfl ?_
    refine gw_getR (pc := 51) dX0_aheadAt_51 fo_0_1 rfl ((old 30 (by omega)).trans hk) hr30 ?_
    refine g_iload_n (pc := 54) dX0_aheadAt_54 rfl ?_
    refine g_aload_n (pc := 55) dX0_aheadAt_55 rfl ?_
    refine gw_aast (pc := 56) dX0_aheadAt_56 ((old 31 hN).trans hk1) hkn (by decide) hin ?_
    refine g_aload_n (pc := 57) dX0_aheadAt_57 rfl ?_
    exact g_aret (pc := 58) dX0_aheadAt_58 rfl (Nat.le_of_ble_eq_true rfl) (Nat.le_of_ble_eq_true rfl)
