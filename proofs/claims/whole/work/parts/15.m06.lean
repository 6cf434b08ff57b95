/-! ===== printed by program: methods as functions over a state, and their walks ===== -/
def Mo_passHour (S : Sm) : Sm := (si S 25 5 ((gi S 25 5) + 1))
set_option maxRecDepth 4000 in
theorem r_Mo_passHour {V : Sm → Wd} (hV : VwC V)  {S : Sm} {q : Sm} (h : Mo_passHour S = q) : Runs 0 mX4_passHour [.ref 25] (V S) none (V q) 0 0 := by
  unfold Mo_passHour at h
  refine Runs.of2 [some (.ref 25)] 0 rfl rfl (Nat.le_of_ble_eq_true rfl) (fun l Γ => ?_)
  refine g_aload_n (pc := 0) dX4_passHour_0 rfl ?_
  refine g_dup (pc := 1) dX4_passHour_1 rfl ?_
  refine v_getI hV (pc := 2) dX4_passHour_2 fo_4_5 rfl k0_25 own_25 ?_
  refine g_iconst (v := 1) (pc := 5) dX4_passHour_5 (by decide) ?_
  refine g_iadd (pc := 6) dX4_passHour_6 ?_
  refine v_putI hV (pc := 7) dX4_passHour_7 fo_4_5 rfl k0_25 own_25 rfl ?_
  subst h
  exact g_vret (pc := 10) dX4_passHour_10 rfl (Nat.le_refl _) (Nat.le_refl _)
def Mo_relight (v1 : Int32) (v2 : Int32) (S : Sm) : Sm := (app (Mo_setTrain v1 1 v2 S) fun q1 => (app (Mo_setTrain v1 3 (gi q1 25 5) q1) fun q2 => q2))
set_option maxRecDepth 4000 in
theorem r_Mo_relight {V : Sm → Wd} (hV : VwC V) {v1 : Int32} {v2 : Int32} {S : Sm} {q : Sm} (h : Mo_relight v1 v2 S = q) : Runs 2 mX4_relight [.ref 25, .int v1, .int v2] (V S) none (V q) 0 0 := by
  unfold Mo_relight at h
  refine Runs.of2 [some (.ref 25), some (.int v1), some (.int v2)] 0 rfl rfl (Nat.le_of_ble_eq_true rfl) (fun l Γ => ?_)
  refine g_aload_n (pc := 0) dX4_relight_0 rfl ?_
  refine g_iload_n (pc := 1) dX4_relight_1 rfl ?_
  refine g_iconst (v := 1) (pc := 2) dX4_relight_2 (by decide) ?_
  refine g_iload_n (pc := 3) dX4_relight_3 rfl ?_
  obtain ⟨q1, hq1, h⟩ := app_of h
  refine v_callVv hV (Mc := mX4_setTrain) (S1 := q1) (As := [.int v1, .int 1, .int v2]) (rest := []) (q := (RX4, TX4, 8)) (pc := 4) dX4_relight_4 mK_X4_80 mf_X4_setTrain rfl k0_25 rfl rfl rfl (Nat.le_of_ble_eq_true rfl) ⟨Nat.le_of_ble_eq_true rfl, Nat.le_of_ble_eq_true rfl⟩ (r_Mo_setTrain hV hq1) ?_
  refine g_aload_n (pc := 7) dX4_relight_7 rfl ?_
  refine g_iload_n (pc := 8) dX4_relight_8 rfl ?_
  refine g_iconst (v := 3) (pc := 9) dX4_relight_9 (by decide) ?_
  refine g_aload_n (pc := 10) dX4_relight_10 rfl ?_
  refine v_getI hV (pc := 11) dX4_relight_11 fo_4_5 rfl k0_25 own_25 ?_
  obtain ⟨q2, hq2, h⟩ := app_of h
  refine v_callVv hV (Mc := mX4_setTrain) (S1 := q2) (As := [.int v1, .int 3, .int (gi q1 25 5)]) (rest := []) (q := (RX4, TX4, 8)) (pc := 14) dX4_relight_14 mK_X4_80 mf_X4_setTrain rfl k0_25 rfl rfl rfl (Nat.le_of_ble_eq_true rfl) ⟨Nat.le_of_ble_eq_true rfl, Nat.le_of_ble_eq_true rfl⟩ (r_Mo_setTrain hV hq2) ?_
  subst h
  exact g_vret (pc := 17) dX4_relight_17 rfl (Nat.le_refl _) (Nat.le_refl _)
def Mo_setGuards (v1 : Int32) (v2 : Int32) (S : Sm) : Sm := (app (puF S 28 8 v1 v2) fun S1 => S1)
set_option maxRecDepth 4000 in
theorem r_Mo_setGuards {V : Sm → Wd} (hV : VwC V) {v1 : Int32} {v2 : Int32} {S : Sm} {q : Sm} (h : Mo_setGuards v1 v2 S = q) : Runs 1 mX4_setGuards [.ref 25, .int v1, .int v2] (V S) none (V q) 0 0 := by
  unfold Mo_setGuards at h
  refine Runs.of2 [some (.ref 25), some (.int v1), some (.int v2)] 0 rfl rfl (Nat.le_of_ble_eq_true rfl) (fun l Γ => ?_)
  refine g_aload_n (pc := 0) dX4_setGuards_0 rfl ?_
  refine v_getR hV (pc := 1) dX4_setGuards_1 fo_4_2 rfl k0_25 r0_25_2 ?_
  refine g_iload_n (pc := 4) dX4_setGuards_4 rfl ?_
  refine g_iload_n (pc := 5) dX4_setGuards_5 rfl ?_
  obtain ⟨S1, hS1, h⟩ := app_of h
  refine v_callNv (Mc := mX11_put) (S1 := S1) (As := [.ref 28, .int v1, .int v2]) (rest := []) (pc := 6) dX4_setGuards_6 nl_X4_62 mf_X11_put rfl rfl (Nat.le_of_ble_eq_true rfl) ⟨Nat.le_of_ble_eq_true rfl, Nat.le_of_ble_eq_true rfl⟩ (r_put hV k0_28 own_28 (by decide) hS1) ?_
  subst h
  exact g_vret (pc := 9) dX4_setGuards_9 rfl (Nat.le_refl _) (Nat.le_refl _)
