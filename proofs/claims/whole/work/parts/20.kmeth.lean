/-! ===== printed by program: the methods that call keep ===== -/
noncomputable section KM
def Dk_sent_42 (S : Sm) : Option (Int32 × Sm) := (some (((-1), S)))
set_option maxRecDepth 4000 in
theorem t_Dk_sent_42 {L : Sc} {T : Sm} {l : Launch} {Γ : Gm}  {S : Sm} {q : Int32 × Sm} (h : Dk_sent_42 S = some q) : G mX11_sent l Γ (rmD 4 (kcS S) (ksS S)) (mQ Γ (some (.int q.1)) (cw L T q.2) (kcS S) (ksS S)) 0 0 42 [none, none, none, none] [] (cw L T S) := by
  have hV := cw_ok L T
  unfold Dk_sent_42 at h
  refine g_iconst (v := (-1)) (pc := 42) dX11_sent_42 (by decide) ?_
  cases h
  exact g_iret (pc := 43) dX11_sent_43 rfl rfl (Nat.zero_le _) (Nat.zero_le _)
def Dk_sent_51 (v1 : Int32) (v2 : Int32) (v3 : Int32) (S : Sm) : Option (Int32 × Sm) := (app (Mo_addTrain v1 v2 0 v3 S) fun q1 => (some ((q1.1, q1.2))))
set_option maxRecDepth 4000 in
theorem t_Dk_sent_51 {V : Sm → Wd} (hV : VwC V) {kc ks : Nat} {l : Launch} {Γ : Gm} {v1 : Int32} {v2 : Int32} {v3 : Int32} {S : Sm} {q : Int32 × Sm} (h : Dk_sent_51 v1 v2 v3 S = some q) : G mX11_sent l Γ (rmD 4 kc ks) (mQ Γ (some (.int q.1)) (V q.2) kc ks) kc ks 51 [some (.ref 7), some (.int v1), some (.int v2), some (.int v3)] [] (V S) := by
  unfold Dk_sent_51 at h
  refine g_aload_n (pc := 51) dX11_sent_51 rfl ?_
  refine v_getR hV (pc := 52) dX11_sent_52 fo_11_6 rfl k0_7 r0_7_6 ?_
  refine g_iload_n (pc := 55) dX11_sent_55 rfl ?_
  refine g_iload_n (pc := 56) dX11_sent_56 rfl ?_
  refine g_iconst (v := 0) (pc := 57) dX11_sent_57 (by decide) ?_
  refine g_iload_n (pc := 58) dX11_sent_58 rfl ?_
  obtain ⟨q1, hq1, h⟩ := app_of h
  refine k_callVi hV (Mc := mX4_addTrain) (v := q1.1) (S1 := q1.2) (As := [.int v1, .int v2, .int 0, .int v3]) (rest := []) (q := (RX4, TX4, 8)) (pc := 59) dX11_sent_59 mK_X11_186 mf_X4_addTrain rfl k0_25 rfl rfl rfl (Nat.le_of_ble_eq_true rfl) ⟨Nat.le_of_ble_eq_true rfl, Nat.le_of_ble_eq_true rfl⟩ (r_Mo_addTrain hV hq1) ?_
  cases h
  exact g_iret (pc := 62) dX11_sent_62 rfl rfl (Nat.le_refl _) (Nat.le_refl _)
def Dk_sent (v1 : Int32) (v2 : Int32) (v3 : Int32) (S : Sm) : Option (Int32 × Sm) := (if (Nt_hasMouth v1 S) = 0 then (Dk_sent_42 S) else (if (Nt_hasLamp v2 S) = 0 then (Dk_sent_42 S) else (if v3 < 0 then (Dk_sent_42 S) else (if (9 : Int32) < v3 then (Dk_sent_42 S) else (if (Mo_isFull S) = 0 then ((Ac_keep S).bind fun k1 => (Dk_sent_51 v1 v2 v3 k1).map (f31r (k1.1 31))) else (Dk_sent_42 S))))))
set_option maxRecDepth 4000 in
theorem r_Dk_sent {L : Sc} {T : Sm} {v1 : Int32} {v2 : Int32} {v3 : Int32} {S : Sm} {q : Int32 × Sm} (h : Dk_sent v1 v2 v3 S = some q) : Runs 4 mX11_sent [.ref 7, .int v1, .int v2, .int v3] (cw L T S) (some (.int q.1)) (cw L T q.2) (kcS S) (ksS S) := by
  have hV := cw_ok L T
  unfold Dk_sent at h
  refine Runs.of2 [some (.ref 7), some (.int v1), some (.int v2), some (.int v3)] 0 rfl rfl (Nat.le_of_ble_eq_true rfl) (fun l Γ => ?_)
  refine g_aload_n (pc := 0) dX11_sent_0 rfl ?_
  refine v_getR hV (pc := 1) dX11_sent_1 fo_11_1 rfl k0_7 r0_7_1 ?_
  refine g_iload_n (pc := 4) dX11_sent_4 rfl ?_
  refine v_callVi hV (Mc := mX5_hasMouth) (v := Nt_hasMouth v1 S) (S1 := S) (As := [.int v1]) (rest := []) (q := (RX5, TX5, 3)) (pc := 5) dX11_sent_5 mK_X11_140 mf_X5_hasMouth rfl k0_10 rfl rfl rfl (Nat.le_of_ble_eq_true rfl) ⟨Nat.le_of_ble_eq_true rfl, Nat.le_of_ble_eq_true rfl⟩ (r_Nt_hasMouth hV rfl) ?_
  refine g_if_eq (tgt := 42) (pc := 8) dX11_sent_8 (by decide) (fun c6 => ?_) (fun c6 => ?_)
  · rw [if_pos c6] at h
    refine g_wk [false, false, false, false] rfl ?_
    exact t_Dk_sent_42 h
  · rw [if_neg c6] at h
    refine g_aload_n (pc := 11) dX11_sent_11 rfl ?_
    refine v_getR hV (pc := 12) dX11_sent_12 fo_11_1 rfl k0_7 r0_7_1 ?_
    refine g_iload_n (pc := 15) dX11_sent_15 rfl ?_
    refine v_callVi hV (Mc := mX5_hasLamp) (v := Nt_hasLamp v2 S) (S1 := S) (As := [.int v2]) (rest := []) (q := (RX5, TX5, 3)) (pc := 16) dX11_sent_16 mK_X11_143 mf_X5_hasLamp rfl k0_10 rfl rfl rfl (Nat.le_of_ble_eq_true rfl) ⟨Nat.le_of_ble_eq_true rfl, Nat.le_of_ble_eq_true rfl⟩ (r_Nt_hasLamp hV rfl) ?_
    refine g_if_eq (tgt := 42) (pc := 19) dX11_sent_19 (by decide) (fun c5 => ?_) (fun c5 => ?_)
    · rw [if_pos c5] at h
      refine g_wk [false, false, false, false] rfl ?_
      exact t_Dk_sent_42 h
    · rw [if_neg c5] at h
      refine g_iload_n (pc := 22) dX11_sent_22 rfl ?_
      refine g_if_lt (tgt := 42) (pc := 23) dX11_sent_23 (by decide) (fun c4 => ?_) (fun c4 => ?_)
      · rw [if_pos c4] at h
        refine g_wk [false, false, false, false] rfl ?_
        exact t_Dk_sent_42 h
      · rw [if_neg c4] at h
        refine g_iload_n (pc := 26) dX11_sent_26 rfl ?_
        refine g_bipush (v := 9) (pc := 27) dX11_sent_27 (by decide) ?_
        refine g_icmp_gt (tgt := 42) (pc := 29) dX11_sent_29 (by decide) (fun c3 => ?_) (fun c3 => ?_)
        · rw [if_pos c3] at h
          refine g_wk [false, false, false, false] rfl ?_
          exact t_Dk_sent_42 h
        · rw [if_neg c3] at h
          refine g_aload_n (pc := 32) dX11_sent_32 rfl ?_
          refine v_getR hV (pc := 33) dX11_sent_33 fo_11_6 rfl k0_7 r0_7_6 ?_
          refine v_callVi hV (Mc := mX4_isFull) (v := Mo_isFull S) (S1 := S) (As := []) (rest := []) (q := (RX4, TX4, 8)) (pc := 36) dX11_sent_36 mK_X11_180 mf_X4_isFull rfl k0_25 rfl rfl rfl (Nat.le_of_ble_eq_true rfl) ⟨Nat.le_of_ble_eq_true rfl, Nat.le_of_ble_eq_true rfl⟩ (r_Mo_isFull hV rfl) ?_
          refine g_if_eq (tgt := 44) (pc := 39) dX11_sent_39 (by decide) (fun c2 => ?_) (fun c2 => ?_)
          · rw [if_pos c2] at h
            refine g_aload_n (pc := 44) dX11_sent_44 rfl ?_
            refine v_getR hV (pc := 45) dX11_sent_45 fo_11_7 rfl k0_7 r0_7_7 ?_
            obtain ⟨k1, hk1, h⟩ := bnd h
            obtain ⟨k2, h2, hq2⟩ := map_of h
            subst hq2
            refine g_callV (Mc := mX0_keep) (As := []) (rest := []) (b := 30) (q := (RX0, TX0, 6)) (pc := 48) dX11_sent_48 mK_X11_183 mf_X0_keep.1 mf_X0_keep.2.1 mf_X0_keep.2.2 rfl rfl rfl rfl rfl (Nat.le_of_ble_eq_true rfl) ⟨Nat.le_of_ble_eq_true rfl, Nat.le_of_ble_eq_true rfl⟩ ⟨by rw [Nat.zero_add]; exact Nat.le_refl _, by rw [Nat.zero_add]; exact Nat.le_refl _⟩ (r_Ac_keep hk1) ?_
            rw [Nat.zero_add, Nat.zero_add, ← cwf_self L T k1]
            exact t_Dk_sent_51 (cwf_ok L T _) h2
          · rw [if_neg c2] at h
            refine g_wk [false, false, false, false] rfl ?_
            exact t_Dk_sent_42 h
def Dk_lamp_35 (S : Sm) : Option (Int32 × Sm) := (some (((-1), S)))
set_option maxRecDepth 4000 in
theorem t_Dk_lamp_35 {L : Sc} {T : Sm} {l : Launch} {Γ : Gm}  {S : Sm} {q : Int32 × Sm} (h : Dk_lamp_35 S = some q) : G mX11_lamp l Γ (rmD 4 (kcS S) (ksS S)) (mQ Γ (some (.int q.1)) (cw L T q.2) (kcS S) (ksS S)) 0 0 35 [none, none, none, none] [] (cw L T S) := by
  have hV := cw_ok L T
  unfold Dk_lamp_35 at h
  refine g_iconst (v := (-1)) (pc := 35) dX11_lamp_35 (by decide) ?_
  cases h
  exact g_iret (pc := 36) dX11_lamp_36 rfl rfl (Nat.zero_le _) (Nat.zero_le _)
def Dk_lamp_53 (v1 : Int32) (v2 : Int32) (v3 : Int32) (S : Sm) : Option (Int32 × Sm) := (app (Mo_relight v1 v2 S) fun q2 => (some ((v3, q2))))
set_option maxRecDepth 4000 in
theorem t_Dk_lamp_53 {V : Sm → Wd} (hV : VwC V) {kc ks : Nat} {l : Launch} {Γ : Gm} {v1 : Int32} {v2 : Int32} {v3 : Int32} {S : Sm} {q : Int32 × Sm} (h : Dk_lamp_53 v1 v2 v3 S = some q) : G mX11_lamp l Γ (rmD 4 kc ks) (mQ Γ (some (.int q.1)) (V q.2) kc ks) kc ks 53 [some (.ref 7), some (.int v1), some (.int v2), some (.int v3)] [] (V S) := by
  unfold Dk_lamp_53 at h
  refine g_aload_n (pc := 53) dX11_lamp_53 rfl ?_
  refine v_getR hV (pc := 54) dX11_lamp_54 fo_11_6 rfl k0_7 r0_7_6 ?_
  refine g_iload_n (pc := 57) dX11_lamp_57 rfl ?_
  refine g_iload_n (pc := 58) dX11_lamp_58 rfl ?_
  obtain ⟨q2, hq2, h⟩ := app_of h
  refine k_callVv hV (Mc := mX4_relight) (S1 := q2) (As := [.int v1, .int v2]) (rest := []) (q := (RX4, TX4, 8)) (pc := 59) dX11_lamp_59 mK_X11_190 mf_X4_relight rfl k0_25 rfl rfl rfl (Nat.le_of_ble_eq_true rfl) ⟨Nat.le_of_ble_eq_true rfl, Nat.le_of_ble_eq_true rfl⟩ (r_Mo_relight hV hq2) ?_
  refine g_iload_n (pc := 62) dX11_lamp_62 rfl ?_
  cases h
  exact g_iret (pc := 63) dX11_lamp_63 rfl rfl (Nat.le_refl _) (Nat.le_refl _)
def Dk_lamp (v1 : Int32) (v2 : Int32) (S : Sm) : Option (Int32 × Sm) := (if (Mo_hasTrain v1 S) = 0 then (Dk_lamp_35 S) else (if (Nt_hasLamp v2 S) = 0 then (Dk_lamp_35 S) else (if (Mo_ofTrain v1 5 S) = 1 then (Dk_lamp_35 S) else ((Hr_lampOf v1 S).bind fun q1 => ((Ac_keep S).bind fun k1 => (Dk_lamp_53 v1 v2 q1 k1).map (f31r (k1.1 31)))))))
set_option maxRecDepth 4000 in
theorem r_Dk_lamp {L : Sc} {T : Sm} {v1 : Int32} {v2 : Int32} {S : Sm} {q : Int32 × Sm} (h : Dk_lamp v1 v2 S = some q) : Runs 4 mX11_lamp [.ref 7, .int v1, .int v2] (cw L T S) (some (.int q.1)) (cw L T q.2) (kcS S) (ksS S) := by
  have hV := cw_ok L T
  unfold Dk_lamp at h
  refine Runs.of2 [some (.ref 7), some (.int v1), some (.int v2), none] 1 rfl rfl (Nat.le_of_ble_eq_true rfl) (fun l Γ => ?_)
  refine g_aload_n (pc := 0) dX11_lamp_0 rfl ?_
  refine v_getR hV (pc := 1) dX11_lamp_1 fo_11_6 rfl k0_7 r0_7_6 ?_
  refine g_iload_n (pc := 4) dX11_lamp_4 rfl ?_
  refine v_callVi hV (Mc := mX4_hasTrain) (v := Mo_hasTrain v1 S) (S1 := S) (As := [.int v1]) (rest := []) (q := (RX4, TX4, 8)) (pc := 5) dX11_lamp_5 mK_X11_161 mf_X4_hasTrain rfl k0_25 rfl rfl rfl (Nat.le_of_ble_eq_true rfl) ⟨Nat.le_of_ble_eq_true rfl, Nat.le_of_ble_eq_true rfl⟩ (r_Mo_hasTrain hV rfl) ?_
  refine g_if_eq (tgt := 35) (pc := 8) dX11_lamp_8 (by decide) (fun c5 => ?_) (fun c5 => ?_)
  · rw [if_pos c5] at h
    refine g_wk [false, false, false, false] rfl ?_
    exact t_Dk_lamp_35 h
  · rw [if_neg c5] at h
    refine g_aload_n (pc := 11) dX11_lamp_11 rfl ?_
    refine v_getR hV (pc := 12) dX11_lamp_12 fo_11_1 rfl k0_7 r0_7_1 ?_
    refine g_iload_n (pc := 15) dX11_lamp_15 rfl ?_
    refine v_callVi hV (Mc := mX5_hasLamp) (v := Nt_hasLamp v2 S) (S1 := S) (As := [.int v2]) (rest := []) (q := (RX5, TX5, 3)) (pc := 16) dX11_lamp_16 mK_X11_143 mf_X5_hasLamp rfl k0_10 rfl rfl rfl (Nat.le_of_ble_eq_true rfl) ⟨Nat.le_of_ble_eq_true rfl, Nat.le_of_ble_eq_true rfl⟩ (r_Nt_hasLamp hV rfl) ?_
    refine g_if_eq (tgt := 35) (pc := 19) dX11_lamp_19 (by decide) (fun c4 => ?_) (fun c4 => ?_)
    · rw [if_pos c4] at h
      refine g_wk [false, false, false, false] rfl ?_
      exact t_Dk_lamp_35 h
    · rw [if_neg c4] at h
      refine g_aload_n (pc := 22) dX11_lamp_22 rfl ?_
      refine v_getR hV (pc := 23) dX11_lamp_23 fo_11_6 rfl k0_7 r0_7_6 ?_
      refine g_iload_n (pc := 26) dX11_lamp_26 rfl ?_
      refine g_iconst (v := 5) (pc := 27) dX11_lamp_27 (by decide) ?_
      refine v_callVi hV (Mc := mX4_ofTrain) (v := Mo_ofTrain v1 5 S) (S1 := S) (As := [.int v1, .int 5]) (rest := []) (q := (RX4, TX4, 8)) (pc := 28) dX11_lamp_28 mK_X11_167 mf_X4_ofTrain rfl k0_25 rfl rfl rfl (Nat.le_of_ble_eq_true rfl) ⟨Nat.le_of_ble_eq_true rfl, Nat.le_of_ble_eq_true rfl⟩ (r_Mo_ofTrain hV rfl) ?_
      refine g_iconst (v := 1) (pc := 31) dX11_lamp_31 (by decide) ?_
      refine g_icmp_ne (tgt := 37) (pc := 32) dX11_lamp_32 (by decide) (fun c3 => ?_) (fun c3 => ?_)
      · rw [if_neg c3] at h
        refine g_aload_n (pc := 37) dX11_lamp_37 rfl ?_
        refine v_getR hV (pc := 38) dX11_lamp_38 fo_11_9 rfl k0_7 r0_7_9 ?_
        refine g_iload_n (pc := 41) dX11_lamp_41 rfl ?_
        obtain ⟨q1, hq1, h⟩ := bnd h
        refine v_callVi hV (Mc := mX1_lampOf) (v := q1) (S1 := S) (As := [.int v1]) (rest := []) (q := (RX1, TX1, 7)) (pc := 42) dX11_lamp_42 mK_X11_170 mf_X1_lampOf rfl k0_40 rfl rfl rfl (Nat.le_of_ble_eq_true rfl) ⟨Nat.le_of_ble_eq_true rfl, Nat.le_of_ble_eq_true rfl⟩ (r_Hr_lampOf hV hq1) ?_
        refine g_istore_n (ls1 := [some (.ref 7), some (.int v1), some (.int v2), some (.int q1)]) (pc := 45) dX11_lamp_45 (by decide) rfl ?_
        refine g_aload_n (pc := 46) dX11_lamp_46 rfl ?_
        refine v_getR hV (pc := 47) dX11_lamp_47 fo_11_7 rfl k0_7 r0_7_7 ?_
        obtain ⟨k1, hk1, h⟩ := bnd h
        obtain ⟨k2, h2, hq2⟩ := map_of h
        subst hq2
        refine g_callV (Mc := mX0_keep) (As := []) (rest := []) (b := 30) (q := (RX0, TX0, 6)) (pc := 50) dX11_lamp_50 mK_X11_183 mf_X0_keep.1 mf_X0_keep.2.1 mf_X0_keep.2.2 rfl rfl rfl rfl rfl (Nat.le_of_ble_eq_true rfl) ⟨Nat.le_of_ble_eq_true rfl, Nat.le_of_ble_eq_true rfl⟩ ⟨by rw [Nat.zero_add]; exact Nat.le_refl _, by rw [Nat.zero_add]; exact Nat.le_refl _⟩ (r_Ac_keep hk1) ?_
        rw [Nat.zero_add, Nat.zero_add, ← cwf_self L T k1]
        exact t_Dk_lamp_53 (cwf_ok L T _) h2
      · rw [if_pos c3] at h
        refine g_wk [false, false, false, false] rfl ?_
        exact t_Dk_lamp_35 h
def Dk_show_33 (S : Sm) : Option (Int32 × Sm) := (some (((-1), S)))
set_option maxRecDepth 4000 in
theorem t_Dk_show_33 {L : Sc} {T : Sm} {l : Launch} {Γ : Gm}  {S : Sm} {q : Int32 × Sm} (h : Dk_show_33 S = some q) : G mX11_show l Γ (rmD 4 (kcS S) (ksS S)) (mQ Γ (some (.int q.1)) (cw L T q.2) (kcS S) (ksS S)) 0 0 33 [none, none, none, none, none] [] (cw L T S) := by
  have hV := cw_ok L T
  unfold Dk_show_33 at h
  refine g_iconst (v := (-1)) (pc := 33) dX11_show_33 (by decide) ?_
  cases h
  exact g_iret (pc := 34) dX11_show_34 rfl rfl (Nat.zero_le _) (Nat.zero_le _)
def Dk_show_84 (s0 : Int32) (S : Sm) : Option (Int32 × Sm) := (some ((s0, S)))
set_option maxRecDepth 4000 in
theorem t_Dk_show_84 {V : Sm → Wd} (hV : VwC V) {kc ks : Nat} {l : Launch} {Γ : Gm} {s0 : Int32} {S : Sm} {q : Int32 × Sm} (h : Dk_show_84 s0 S = some q) : G mX11_show l Γ (rmD 4 kc ks) (mQ Γ (some (.int q.1)) (V q.2) kc ks) kc ks 84 [none, none, none, none, none] [.int s0] (V S) := by
  unfold Dk_show_84 at h
  cases h
  exact g_iret (pc := 84) dX11_show_84 rfl rfl (Nat.le_refl _) (Nat.le_refl _)
def Dk_show_61 (v1 : Int32) (v2 : Int32) (v3 : Int32) (v4 : Int32) (S : Sm) : Option (Int32 × Sm) := (app (Mo_lead v1 v2 v3 S) fun q1 => (if v4 = ((-1)) then (Dk_show_84 ((-1000000)) q1) else (Dk_show_84 v4 q1)))
set_option maxRecDepth 4000 in
theorem t_Dk_show_61 {V : Sm → Wd} (hV : VwC V) {kc ks : Nat} {l : Launch} {Γ : Gm} {v1 : Int32} {v2 : Int32} {v3 : Int32} {v4 : Int32} {S : Sm} {q : Int32 × Sm} (h : Dk_show_61 v1 v2 v3 v4 S = some q) : G mX11_show l Γ (rmD 4 kc ks) (mQ Γ (some (.int q.1)) (V q.2) kc ks) kc ks 61 [some (.ref 7), some (.int v1), some (.int v2), some (.int v3), some (.int v4)] [] (V S) := by
  unfold Dk_show_61 at h
  refine g_aload_n (pc := 61) dX11_show_61 rfl ?_
  refine v_getR hV (pc := 62) dX11_show_62 fo_11_6 rfl k0_7 r0_7_6 ?_
  refine g_iload_n (pc := 65) dX11_show_65 rfl ?_
  refine g_iload_n (pc := 66) dX11_show_66 rfl ?_
  refine g_iload_n (pc := 67) dX11_show_67 rfl ?_
  obtain ⟨q1, hq1, h⟩ := app_of h
  refine k_callVv hV (Mc := mX4_lead) (S1 := q1) (As := [.int v1, .int v2, .int v3]) (rest := []) (q := (RX4, TX4, 8)) (pc := 68) dX11_show_68 mK_X11_200 mf_X4_lead rfl k0_25 rfl rfl rfl (Nat.le_of_ble_eq_true rfl) ⟨Nat.le_of_ble_eq_true rfl, Nat.le_of_ble_eq_true rfl⟩ (r_Mo_lead hV hq1) ?_
  refine g_iload (pc := 71) dX11_show_71 rfl ?_
  refine g_iconst (v := (-1)) (pc := 73) dX11_show_73 (by decide) ?_
  refine g_icmp_ne (tgt := 82) (pc := 74) dX11_show_74 (by decide) (fun c2 => ?_) (fun c2 => ?_)
  · rw [if_neg c2] at h
    refine g_iload (pc := 82) dX11_show_82 rfl ?_
    refine g_wk [false, false, false, false, false] rfl ?_
    exact t_Dk_show_84 hV h
  · rw [if_pos c2] at h
    refine g_ldc (v := (-1000000)) (pc := 77) dX11_show_77 kI_X11_150 ?_
    refine g_goto (tgt := 84) (pc := 79) dX11_show_79 (by decide) ?_
    refine g_wk [false, false, false, false, false] rfl ?_
    exact t_Dk_show_84 hV h
def Dk_show (v1 : Int32) (v2 : Int32) (v3 : Int32) (S : Sm) : Option (Int32 × Sm) := (if (Nt_hasMouth v1 S) = 0 then (Dk_show_33 S) else (if (Nt_hasColour v2 S) = 0 then (Dk_show_33 S) else (if (Nt_hasMouth v3 S) = 0 then (Dk_show_33 S) else (if (Mo_leads v1 v2 S) = v3 then (some (((-1), S))) else ((Ac_keep S).bind fun k1 => (Dk_show_61 v1 v2 v3 (Mo_leads v1 v2 S) k1).map (f31r (k1.1 31)))))))
set_option maxRecDepth 4000 in
theorem r_Dk_show {L : Sc} {T : Sm} {v1 : Int32} {v2 : Int32} {v3 : Int32} {S : Sm} {q : Int32 × Sm} (h : Dk_show v1 v2 v3 S = some q) : Runs 4 mX11_show [.ref 7, .int v1, .int v2, .int v3] (cw L T S) (some (.int q.1)) (cw L T q.2) (kcS S) (ksS S) := by
  have hV := cw_ok L T
  unfold Dk_show at h
  refine Runs.of2 [some (.ref 7), some (.int v1), some (.int v2), some (.int v3), none] 1 rfl rfl (Nat.le_of_ble_eq_true rfl) (fun l Γ => ?_)
  refine g_aload_n (pc := 0) dX11_show_0 rfl ?_
  refine v_getR hV (pc := 1) dX11_show_1 fo_11_1 rfl k0_7 r0_7_1 ?_
  refine g_iload_n (pc := 4) dX11_show_4 rfl ?_
  refine v_callVi hV (Mc := mX5_hasMouth) (v := Nt_hasMouth v1 S) (S1 := S) (As := [.int v1]) (rest := []) (q := (RX5, TX5, 3)) (pc := 5) dX11_show_5 mK_X11_140 mf_X5_hasMouth rfl k0_10 rfl rfl rfl (Nat.le_of_ble_eq_true rfl) ⟨Nat.le_of_ble_eq_true rfl, Nat.le_of_ble_eq_true rfl⟩ (r_Nt_hasMouth hV rfl) ?_
  refine g_if_eq (tgt := 33) (pc := 8) dX11_show_8 (by decide) (fun c6 => ?_) (fun c6 => ?_)
  · rw [if_pos c6] at h
    refine g_wk [false, false, false, false, false] rfl ?_
    exact t_Dk_show_33 h
  · rw [if_neg c6] at h
    refine g_aload_n (pc := 11) dX11_show_11 rfl ?_
    refine v_getR hV (pc := 12) dX11_show_12 fo_11_1 rfl k0_7 r0_7_1 ?_
    refine g_iload_n (pc := 15) dX11_show_15 rfl ?_
    refine v_callVi hV (Mc := mX5_hasColour) (v := Nt_hasColour v2 S) (S1 := S) (As := [.int v2]) (rest := []) (q := (RX5, TX5, 3)) (pc := 16) dX11_show_16 mK_X11_194 mf_X5_hasColour rfl k0_10 rfl rfl rfl (Nat.le_of_ble_eq_true rfl) ⟨Nat.le_of_ble_eq_true rfl, Nat.le_of_ble_eq_true rfl⟩ (r_Nt_hasColour hV rfl) ?_
    refine g_if_eq (tgt := 33) (pc := 19) dX11_show_19 (by decide) (fun c5 => ?_) (fun c5 => ?_)
    · rw [if_pos c5] at h
      refine g_wk [false, false, false, false, false] rfl ?_
      exact t_Dk_show_33 h
    · rw [if_neg c5] at h
      refine g_aload_n (pc := 22) dX11_show_22 rfl ?_
      refine v_getR hV (pc := 23) dX11_show_23 fo_11_1 rfl k0_7 r0_7_1 ?_
      refine g_iload_n (pc := 26) dX11_show_26 rfl ?_
      refine v_callVi hV (Mc := mX5_hasMouth) (v := Nt_hasMouth v3 S) (S1 := S) (As := [.int v3]) (rest := []) (q := (RX5, TX5, 3)) (pc := 27) dX11_show_27 mK_X11_140 mf_X5_hasMouth rfl k0_10 rfl rfl rfl (Nat.le_of_ble_eq_true rfl) ⟨Nat.le_of_ble_eq_true rfl, Nat.le_of_ble_eq_true rfl⟩ (r_Nt_hasMouth hV rfl) ?_
      refine g_if_ne (tgt := 35) (pc := 30) dX11_show_30 (by decide) (fun c4 => ?_) (fun c4 => ?_)
      · rw [if_neg c4] at h
        refine g_aload_n (pc := 35) dX11_show_35 rfl ?_
        refine v_getR hV (pc := 36) dX11_show_36 fo_11_6 rfl k0_7 r0_7_6 ?_
        refine g_iload_n (pc := 39) dX11_show_39 rfl ?_
        refine g_iload_n (pc := 40) dX11_show_40 rfl ?_
        refine v_callVi hV (Mc := mX4_leads) (v := Mo_leads v1 v2 S) (S1 := S) (As := [.int v1, .int v2]) (rest := []) (q := (RX4, TX4, 8)) (pc := 41) dX11_show_41 mK_X11_197 mf_X4_leads rfl k0_25 rfl rfl rfl (Nat.le_of_ble_eq_true rfl) ⟨Nat.le_of_ble_eq_true rfl, Nat.le_of_ble_eq_true rfl⟩ (r_Mo_leads hV rfl) ?_
        refine g_istore (ls1 := [some (.ref 7), some (.int v1), some (.int v2), some (.int v3), some (.int (Mo_leads v1 v2 S))]) (pc := 44) dX11_show_44 (by decide) rfl ?_
        refine g_iload (pc := 46) dX11_show_46 rfl ?_
        refine g_iload_n (pc := 48) dX11_show_48 rfl ?_
        refine g_icmp_ne (tgt := 54) (pc := 49) dX11_show_49 (by decide) (fun c3 => ?_) (fun c3 => ?_)
        · rw [if_neg c3] at h
          refine g_aload_n (pc := 54) dX11_show_54 rfl ?_
          refine v_getR hV (pc := 55) dX11_show_55 fo_11_7 rfl k0_7 r0_7_7 ?_
          obtain ⟨k1, hk1, h⟩ := bnd h
          obtain ⟨k2, h2, hq2⟩ := map_of h
          subst hq2
          refine g_callV (Mc := mX0_keep) (As := []) (rest := []) (b := 30) (q := (RX0, TX0, 6)) (pc := 58) dX11_show_58 mK_X11_183 mf_X0_keep.1 mf_X0_keep.2.1 mf_X0_keep.2.2 rfl rfl rfl rfl rfl (Nat.le_of_ble_eq_true rfl) ⟨Nat.le_of_ble_eq_true rfl, Nat.le_of_ble_eq_true rfl⟩ ⟨by rw [Nat.zero_add]; exact Nat.le_refl _, by rw [Nat.zero_add]; exact Nat.le_refl _⟩ (r_Ac_keep hk1) ?_
          rw [Nat.zero_add, Nat.zero_add, ← cwf_self L T k1]
          exact t_Dk_show_61 (cwf_ok L T _) h2
        · rw [if_pos c3] at h
          refine g_iconst (v := (-1)) (pc := 52) dX11_show_52 (by decide) ?_
          cases h
          exact g_iret (pc := 53) dX11_show_53 rfl rfl (Nat.zero_le _) (Nat.zero_le _)
      · rw [if_pos c4] at h
        refine g_wk [false, false, false, false, false] rfl ?_
        exact t_Dk_show_33 h
def Dk_guard_42 (S : Sm) : Option (Int32 × Sm) := (some (((-1), S)))
set_option maxRecDepth 4000 in
theorem t_Dk_guard_42 {L : Sc} {T : Sm} {l : Launch} {Γ : Gm}  {S : Sm} {q : Int32 × Sm} (h : Dk_guard_42 S = some q) : G mX11_guard l Γ (rmD 4 (kcS S) (ksS S)) (mQ Γ (some (.int q.1)) (cw L T q.2) (kcS S) (ksS S)) 0 0 42 [none, none, none, none] [] (cw L T S) := by
  have hV := cw_ok L T
  unfold Dk_guard_42 at h
  refine g_iconst (v := (-1)) (pc := 42) dX11_guard_42 (by decide) ?_
  cases h
  exact g_iret (pc := 43) dX11_guard_43 rfl rfl (Nat.zero_le _) (Nat.zero_le _)
def Dk_guard_51 (v1 : Int32) (v3 : Int32) (S : Sm) : Option (Int32 × Sm) := (app (Mo_setGuards v1 v3 S) fun q1 => (some ((v3, q1))))
set_option maxRecDepth 4000 in
theorem t_Dk_guard_51 {V : Sm → Wd} (hV : VwC V) {kc ks : Nat} {l : Launch} {Γ : Gm} {v1 : Int32} {v3 : Int32} {S : Sm} {q : Int32 × Sm} (h : Dk_guard_51 v1 v3 S = some q) : G mX11_guard l Γ (rmD 4 kc ks) (mQ Γ (some (.int q.1)) (V q.2) kc ks) kc ks 51 [some (.ref 7), some (.int v1), none, some (.int v3)] [] (V S) := by
  unfold Dk_guard_51 at h
  refine g_aload_n (pc := 51) dX11_guard_51 rfl ?_
  refine v_getR hV (pc := 52) dX11_guard_52 fo_11_6 rfl k0_7 r0_7_6 ?_
  refine g_iload_n (pc := 55) dX11_guard_55 rfl ?_
  refine g_iload_n (pc := 56) dX11_guard_56 rfl ?_
  obtain ⟨q1, hq1, h⟩ := app_of h
  refine k_callVv hV (Mc := mX4_setGuards) (S1 := q1) (As := [.int v1, .int v3]) (rest := []) (q := (RX4, TX4, 8)) (pc := 57) dX11_guard_57 mK_X11_204 mf_X4_setGuards rfl k0_25 rfl rfl rfl (Nat.le_of_ble_eq_true rfl) ⟨Nat.le_of_ble_eq_true rfl, Nat.le_of_ble_eq_true rfl⟩ (r_Mo_setGuards hV hq1) ?_
  refine g_iload_n (pc := 60) dX11_guard_60 rfl ?_
  cases h
  exact g_iret (pc := 61) dX11_guard_61 rfl rfl (Nat.le_refl _) (Nat.le_refl _)
def Dk_guard_30 (v1 : Int32) (s0 : Int32) (s1 : Int32) (S : Sm) : Option (Int32 × Sm) := (if (s0 + s1) < 0 then (Dk_guard_42 S) else (if (s0 + s1) ≤ 9 then ((Ac_keep S).bind fun k1 => (Dk_guard_51 v1 (s0 + s1) k1).map (f31r (k1.1 31))) else (Dk_guard_42 S)))
set_option maxRecDepth 4000 in
theorem t_Dk_guard_30 {L : Sc} {T : Sm} {l : Launch} {Γ : Gm} {v1 : Int32} {s0 : Int32} {s1 : Int32} {S : Sm} {q : Int32 × Sm} (h : Dk_guard_30 v1 s0 s1 S = some q) : G mX11_guard l Γ (rmD 4 (kcS S) (ksS S)) (mQ Γ (some (.int q.1)) (cw L T q.2) (kcS S) (ksS S)) 0 0 30 [some (.ref 7), some (.int v1), none, none] [.int s1, .int s0] (cw L T S) := by
  have hV := cw_ok L T
  unfold Dk_guard_30 at h
  refine g_iadd (pc := 30) dX11_guard_30 ?_
  refine g_istore_n (ls1 := [some (.ref 7), some (.int v1), none, some (.int (s0 + s1))]) (pc := 31) dX11_guard_31 (by decide) rfl ?_
  refine g_iload_n (pc := 32) dX11_guard_32 rfl ?_
  refine g_if_lt (tgt := 42) (pc := 33) dX11_guard_33 (by decide) (fun c3 => ?_) (fun c3 => ?_)
  · rw [if_pos c3] at h
    refine g_wk [false, false, false, false] rfl ?_
    exact t_Dk_guard_42 h
  · rw [if_neg c3] at h
    refine g_iload_n (pc := 36) dX11_guard_36 rfl ?_
    refine g_bipush (v := 9) (pc := 37) dX11_guard_37 (by decide) ?_
    refine g_icmp_le (tgt := 44) (pc := 39) dX11_guard_39 (by decide) (fun c2 => ?_) (fun c2 => ?_)
    · rw [if_pos c2] at h
      refine g_aload_n (pc := 44) dX11_guard_44 rfl ?_
      refine v_getR hV (pc := 45) dX11_guard_45 fo_11_7 rfl k0_7 r0_7_7 ?_
      obtain ⟨k1, hk1, h⟩ := bnd h
      obtain ⟨k2, h2, hq2⟩ := map_of h
      subst hq2
      refine g_callV (Mc := mX0_keep) (As := []) (rest := []) (b := 30) (q := (RX0, TX0, 6)) (pc := 48) dX11_guard_48 mK_X11_183 mf_X0_keep.1 mf_X0_keep.2.1 mf_X0_keep.2.2 rfl rfl rfl rfl rfl (Nat.le_of_ble_eq_true rfl) ⟨Nat.le_of_ble_eq_true rfl, Nat.le_of_ble_eq_true rfl⟩ ⟨by rw [Nat.zero_add]; exact Nat.le_refl _, by rw [Nat.zero_add]; exact Nat.le_refl _⟩ (r_Ac_keep hk1) ?_
      rw [Nat.zero_add, Nat.zero_add, ← cwf_self L T k1]
      exact t_Dk_guard_51 (cwf_ok L T _) h2
    · rw [if_neg c2] at h
      refine g_wk [false, false, false, false] rfl ?_
      exact t_Dk_guard_42 h
def Dk_guard (v1 : Int32) (v2 : Int32) (S : Sm) : Option (Int32 × Sm) := (if (Nt_hasMouth v1 S) = 0 then (some (((-1), S))) else (if v2 = 0 then (Dk_guard_30 v1 (Mo_guardsAt v1 S) ((-1)) S) else (Dk_guard_30 v1 (Mo_guardsAt v1 S) 1 S)))
set_option maxRecDepth 4000 in
theorem r_Dk_guard {L : Sc} {T : Sm} {v1 : Int32} {v2 : Int32} {S : Sm} {q : Int32 × Sm} (h : Dk_guard v1 v2 S = some q) : Runs 4 mX11_guard [.ref 7, .int v1, .int v2] (cw L T S) (some (.int q.1)) (cw L T q.2) (kcS S) (ksS S) := by
  have hV := cw_ok L T
  unfold Dk_guard at h
  refine Runs.of2 [some (.ref 7), some (.int v1), some (.int v2), none] 1 rfl rfl (Nat.le_of_ble_eq_true rfl) (fun l Γ => ?_)
  refine g_aload_n (pc := 0) dX11_guard_0 rfl ?_
  refine v_getR hV (pc := 1) dX11_guard_1 fo_11_1 rfl k0_7 r0_7_1 ?_
  refine g_iload_n (pc := 4) dX11_guard_4 rfl ?_
  refine v_callVi hV (Mc := mX5_hasMouth) (v := Nt_hasMouth v1 S) (S1 := S) (As := [.int v1]) (rest := []) (q := (RX5, TX5, 3)) (pc := 5) dX11_guard_5 mK_X11_140 mf_X5_hasMouth rfl k0_10 rfl rfl rfl (Nat.le_of_ble_eq_true rfl) ⟨Nat.le_of_ble_eq_true rfl, Nat.le_of_ble_eq_true rfl⟩ (r_Nt_hasMouth hV rfl) ?_
  refine g_if_ne (tgt := 13) (pc := 8) dX11_guard_8 (by decide) (fun c5 => ?_) (fun c5 => ?_)
  · rw [if_neg c5] at h
    refine g_aload_n (pc := 13) dX11_guard_13 rfl ?_
    refine v_getR hV (pc := 14) dX11_guard_14 fo_11_6 rfl k0_7 r0_7_6 ?_
    refine g_iload_n (pc := 17) dX11_guard_17 rfl ?_
    refine v_callVi hV (Mc := mX4_guardsAt) (v := Mo_guardsAt v1 S) (S1 := S) (As := [.int v1]) (rest := []) (q := (RX4, TX4, 8)) (pc := 18) dX11_guard_18 mK_X11_174 mf_X4_guardsAt rfl k0_25 rfl rfl rfl (Nat.le_of_ble_eq_true rfl) ⟨Nat.le_of_ble_eq_true rfl, Nat.le_of_ble_eq_true rfl⟩ (r_Mo_guardsAt hV rfl) ?_
    refine g_iload_n (pc := 21) dX11_guard_21 rfl ?_
    refine g_if_eq (tgt := 29) (pc := 22) dX11_guard_22 (by decide) (fun c4 => ?_) (fun c4 => ?_)
    · rw [if_pos c4] at h
      refine g_iconst (v := (-1)) (pc := 29) dX11_guard_29 (by decide) ?_
      refine g_wk [true, true, false, false] rfl ?_
      exact t_Dk_guard_30 h
    · rw [if_neg c4] at h
      refine g_iconst (v := 1) (pc := 25) dX11_guard_25 (by decide) ?_
      refine g_goto (tgt := 30) (pc := 26) dX11_guard_26 (by decide) ?_
      refine g_wk [true, true, false, false] rfl ?_
      exact t_Dk_guard_30 h
  · rw [if_pos c5] at h
    refine g_iconst (v := (-1)) (pc := 11) dX11_guard_11 (by decide) ?_
    cases h
    exact g_iret (pc := 12) dX11_guard_12 rfl rfl (Nat.zero_le _) (Nat.zero_le _)
def Hr_passHour_20 (S : Sm) : Option (Sm) := ((Hr_meet S).bind fun q2 => (app (Mo_passHour q2) fun q3 => (some q3)))
set_option maxRecDepth 4000 in
theorem t_Hr_passHour_20 {V : Sm → Wd} (hV : VwC V) {kc ks : Nat} {l : Launch} {Γ : Gm}  {S : Sm} {q : Sm} (h : Hr_passHour_20 S = some q) : G mX1_passHour l Γ (rmD 4 kc ks) (mQ Γ none (V q) kc ks) kc ks 20 [some (.ref 40), none, none] [] (V S) := by
  unfold Hr_passHour_20 at h
  refine g_aload_n (pc := 20) dX1_passHour_20 rfl ?_
  obtain ⟨q2, hq2, h⟩ := bnd h
  refine k_callVv hV (Mc := mX1_meet) (S1 := q2) (As := []) (rest := []) (q := (RX1, TX1, 7)) (pc := 21) dX1_passHour_21 mK_X1_86 mf_X1_meet rfl k0_40 rfl rfl rfl (Nat.le_of_ble_eq_true rfl) ⟨Nat.le_of_ble_eq_true rfl, Nat.le_of_ble_eq_true rfl⟩ (r_Hr_meet hV hq2) ?_
  refine g_aload_n (pc := 24) dX1_passHour_24 rfl ?_
  refine v_getR hV (pc := 25) dX1_passHour_25 fo_1_1 rfl k0_40 r0_40_1 ?_
  obtain ⟨q3, hq3, h⟩ := app_of h
  refine k_callVv hV (Mc := mX4_passHour) (S1 := q3) (As := []) (rest := []) (q := (RX4, TX4, 8)) (pc := 28) dX1_passHour_28 mK_X1_89 mf_X4_passHour rfl k0_25 rfl rfl rfl (Nat.le_of_ble_eq_true rfl) ⟨Nat.le_of_ble_eq_true rfl, Nat.le_of_ble_eq_true rfl⟩ (r_Mo_passHour hV hq3) ?_
  cases h
  exact g_vret (pc := 31) dX1_passHour_31 rfl (Nat.le_refl _) (Nat.le_refl _)
def Hr_passHour_7 (v1 : Int32) (v2 : Int32) (S : Sm) : Option (Sm) := ((Hr_comeOut v2 S).bind fun q1 => (if v1 = 0 then ((Hr_goIn q1).bind fun q4 => (Hr_passHour_20 q4)) else (Hr_passHour_20 q1)))
set_option maxRecDepth 4000 in
theorem t_Hr_passHour_7 {V : Sm → Wd} (hV : VwC V) {kc ks : Nat} {l : Launch} {Γ : Gm} {v1 : Int32} {v2 : Int32} {S : Sm} {q : Sm} (h : Hr_passHour_7 v1 v2 S = some q) : G mX1_passHour l Γ (rmD 4 kc ks) (mQ Γ none (V q) kc ks) kc ks 7 [some (.ref 40), some (.int v1), some (.int v2)] [] (V S) := by
  unfold Hr_passHour_7 at h
  refine g_aload_n (pc := 7) dX1_passHour_7 rfl ?_
  refine g_iload_n (pc := 8) dX1_passHour_8 rfl ?_
  obtain ⟨q1, hq1, h⟩ := bnd h
  refine k_callVv hV (Mc := mX1_comeOut) (S1 := q1) (As := [.int v2]) (rest := []) (q := (RX1, TX1, 7)) (pc := 9) dX1_passHour_9 mK_X1_79 mf_X1_comeOut rfl k0_40 rfl rfl rfl (Nat.le_of_ble_eq_true rfl) ⟨Nat.le_of_ble_eq_true rfl, Nat.le_of_ble_eq_true rfl⟩ (r_Hr_comeOut hV hq1) ?_
  refine g_iload_n (pc := 12) dX1_passHour_12 rfl ?_
  refine g_if_ne (tgt := 20) (pc := 13) dX1_passHour_13 (by decide) (fun c5 => ?_) (fun c5 => ?_)
  · rw [if_neg c5] at h
    refine g_wk [true, false, false] rfl ?_
    exact t_Hr_passHour_20 hV h
  · rw [if_pos c5] at h
    refine g_aload_n (pc := 16) dX1_passHour_16 rfl ?_
    obtain ⟨q4, hq4, h⟩ := bnd h
    refine k_callVv hV (Mc := mX1_goIn) (S1 := q4) (As := []) (rest := []) (q := (RX1, TX1, 7)) (pc := 17) dX1_passHour_17 mK_X1_83 mf_X1_goIn rfl k0_40 rfl rfl rfl (Nat.le_of_ble_eq_true rfl) ⟨Nat.le_of_ble_eq_true rfl, Nat.le_of_ble_eq_true rfl⟩ (r_Hr_goIn hV hq4) ?_
    refine g_wk [true, false, false] rfl ?_
    exact t_Hr_passHour_20 hV h
def Hr_passHour (v1 : Int32) (v2 : Int32) (S : Sm) : Option (Sm) := ((Ac_keep S).bind fun k1 => (Hr_passHour_7 v1 v2 k1).map (f31 (k1.1 31)))
set_option maxRecDepth 4000 in
theorem r_Hr_passHour {L : Sc} {T : Sm} {v1 : Int32} {v2 : Int32} {S : Sm} {q : Sm} (h : Hr_passHour v1 v2 S = some q) : Runs 4 mX1_passHour [.ref 40, .int v1, .int v2] (cw L T S) none (cw L T q) (kcS S) (ksS S) := by
  have hV := cw_ok L T
  unfold Hr_passHour at h
  refine Runs.of2 [some (.ref 40), some (.int v1), some (.int v2)] 0 rfl rfl (Nat.le_of_ble_eq_true rfl) (fun l Γ => ?_)
  refine g_aload_n (pc := 0) dX1_passHour_0 rfl ?_
  refine v_getR hV (pc := 1) dX1_passHour_1 fo_1_2 rfl k0_40 r0_40_2 ?_
  obtain ⟨k1, hk1, h⟩ := bnd h
  obtain ⟨k2, h2, hq2⟩ := map_of h
  subst hq2
  refine g_callV (Mc := mX0_keep) (As := []) (rest := []) (b := 30) (q := (RX0, TX0, 6)) (pc := 4) dX1_passHour_4 mK_X1_74 mf_X0_keep.1 mf_X0_keep.2.1 mf_X0_keep.2.2 rfl rfl rfl rfl rfl (Nat.le_of_ble_eq_true rfl) ⟨Nat.le_of_ble_eq_true rfl, Nat.le_of_ble_eq_true rfl⟩ ⟨by rw [Nat.zero_add]; exact Nat.le_refl _, by rw [Nat.zero_add]; exact Nat.le_refl _⟩ (r_Ac_keep hk1) ?_
  rw [Nat.zero_add, Nat.zero_add, ← cwf_self L T k1]
  exact t_Hr_passHour_7 (cwf_ok L T _) h2
end KM
