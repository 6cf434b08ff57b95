/-! ===== printed by program: methods as functions over a state, and their walks ===== -/
def Dk_fault_29 (s0 : Int32) (S : Sm) : Option (Int32 × Sm) := (some ((s0, S)))
set_option maxRecDepth 4000 in
theorem t_Dk_fault_29 {V : Sm → Wd} (hV : VwC V) {l : Launch} {Γ : Gm} {s0 : Int32} {S : Sm} {q : Int32 × Sm} (h : Dk_fault_29 s0 S = some q) : G mX11_fault l Γ (rmD 87 0 0) (mQ Γ (some (.int q.1)) (V q.2) 0 0) 0 0 29 [none, none] [.int s0] (V S) := by
  unfold Dk_fault_29 at h
  cases h
  exact g_iret (pc := 29) dX11_fault_29 rfl rfl (Nat.le_refl _) (Nat.le_refl _)
def Dk_fault (v1 : Int32) (S : Sm) : Option (Int32 × Sm) := (if v1 = 0 then ((Nr_firstFault S).bind fun q3 => (some ((q3.1, q3.2)))) else (if v1 = 1 then ((Lr_firstFault S).bind fun q1 => (Dk_fault_29 q1.1 q1.2)) else (Dk_fault_29 ((-2)) S)))
set_option maxRecDepth 4000 in
theorem r_Dk_fault {V : Sm → Wd} (hV : VwC V) {v1 : Int32} {S : Sm} {q : Int32 × Sm} (h : Dk_fault v1 S = some q) : Runs 87 mX11_fault [.ref 7, .int v1] (V S) (some (.int q.1)) (V q.2) 0 0 := by
  unfold Dk_fault at h
  refine Runs.of2 [some (.ref 7), some (.int v1)] 0 rfl rfl (Nat.le_of_ble_eq_true rfl) (fun l Γ => ?_)
  refine g_iload_n (pc := 0) dX11_fault_0 rfl ?_
  refine g_if_ne (tgt := 12) (pc := 1) dX11_fault_1 (by decide) (fun c4 => ?_) (fun c4 => ?_)
  · rw [if_neg c4] at h
    refine g_iload_n (pc := 12) dX11_fault_12 rfl ?_
    refine g_iconst (v := 1) (pc := 13) dX11_fault_13 (by decide) ?_
    refine g_icmp_ne (tgt := 27) (pc := 14) dX11_fault_14 (by decide) (fun c2 => ?_) (fun c2 => ?_)
    · rw [if_neg c2] at h
      refine g_bipush (v := (-2)) (pc := 27) dX11_fault_27 (by decide) ?_
      refine g_wk [false, false] rfl ?_
      exact t_Dk_fault_29 hV h
    · rw [if_pos c2] at h
      refine g_aload_n (pc := 17) dX11_fault_17 rfl ?_
      refine v_getR hV (pc := 18) dX11_fault_18 fo_11_5 rfl k0_7 r0_7_5 ?_
      obtain ⟨q1, hq1, h⟩ := bnd h
      refine v_callVi hV (Mc := mX2_firstFault) (v := q1.1) (S1 := q1.2) (As := []) (rest := []) (q := (RX2, TX2, 2)) (pc := 21) dX11_fault_21 mK_X11_118 mf_X2_firstFault rfl k0_24 rfl rfl rfl (Nat.le_of_ble_eq_true rfl) ⟨Nat.le_of_ble_eq_true rfl, Nat.le_of_ble_eq_true rfl⟩ (r_Lr_firstFault hV hq1) ?_
      refine g_goto (tgt := 29) (pc := 24) dX11_fault_24 (by decide) ?_
      refine g_wk [false, false] rfl ?_
      exact t_Dk_fault_29 hV h
  · rw [if_pos c4] at h
    refine g_aload_n (pc := 4) dX11_fault_4 rfl ?_
    refine v_getR hV (pc := 5) dX11_fault_5 fo_11_3 rfl k0_7 r0_7_3 ?_
    obtain ⟨q3, hq3, h⟩ := bnd h
    refine v_callVi hV (Mc := mX6_firstFault) (v := q3.1) (S1 := q3.2) (As := []) (rest := []) (q := (RX6, TX6, 3)) (pc := 8) dX11_fault_8 mK_X11_115 mf_X6_firstFault rfl k0_18 rfl rfl rfl (Nat.le_of_ble_eq_true rfl) ⟨Nat.le_of_ble_eq_true rfl, Nat.le_of_ble_eq_true rfl⟩ (r_Nr_firstFault hV hq3) ?_
    cases h
    exact g_iret (pc := 11) dX11_fault_11 rfl rfl (Nat.le_refl _) (Nat.le_refl _)
def La_areFull_13 (s0 : Int32) (S : Sm) : Int32 := (s0 &&& 1)
set_option maxRecDepth 4000 in
theorem t_La_areFull_13 {V : Sm → Wd} (hV : VwC V) {l : Launch} {Γ : Gm} {s0 : Int32} {S : Sm} {q : Int32} (h : La_areFull_13 s0 S = q) : G mX3_areFull l Γ (rmD 0 0 0) (mQ Γ (some (.int q)) (V S) 0 0) 0 0 13 [none] [.int s0] (V S) := by
  unfold La_areFull_13 at h
  subst h
  exact g_iret (pc := 13) dX3_areFull_13 rfl rfl (Nat.le_refl _) (Nat.le_refl _)
def La_areFull (S : Sm) : Int32 := (if (gi S 20 4) < 4 then (La_areFull_13 0 S) else (La_areFull_13 1 S))
set_option maxRecDepth 4000 in
theorem r_La_areFull {V : Sm → Wd} (hV : VwC V)  {S : Sm} {q : Int32} (h : La_areFull S = q) : Runs 0 mX3_areFull [.ref 20] (V S) (some (.int q)) (V S) 0 0 := by
  unfold La_areFull at h
  refine Runs.of2 [some (.ref 20)] 0 rfl rfl (Nat.le_of_ble_eq_true rfl) (fun l Γ => ?_)
  refine g_aload_n (pc := 0) dX3_areFull_0 rfl ?_
  refine v_getI hV (pc := 1) dX3_areFull_1 fo_3_4 rfl k0_20 own_20 ?_
  refine g_iconst (v := 4) (pc := 4) dX3_areFull_4 (by decide) ?_
  refine g_icmp_lt (tgt := 12) (pc := 5) dX3_areFull_5 (by decide) (fun c1 => ?_) (fun c1 => ?_)
  · rw [if_pos c1] at h
    refine g_iconst (v := 0) (pc := 12) dX3_areFull_12 (by decide) ?_
    refine g_wk [false] rfl ?_
    exact t_La_areFull_13 hV h
  · rw [if_neg c1] at h
    refine g_iconst (v := 1) (pc := 8) dX3_areFull_8 (by decide) ?_
    refine g_goto (tgt := 13) (pc := 9) dX3_areFull_9 (by decide) ?_
    refine g_wk [false] rfl ?_
    exact t_La_areFull_13 hV h
def La_keepDraft (S : Sm) : Int32 × Sm := (((gi (si S 20 4 ((gi S 20 4) + 1)) 20 4) - 1, si S 20 4 ((gi S 20 4) + 1)))
set_option maxRecDepth 4000 in
theorem r_La_keepDraft {V : Sm → Wd} (hV : VwC V)  {S : Sm} {q : Int32 × Sm} (h : La_keepDraft S = q) : Runs 0 mX3_keepDraft [.ref 20] (V S) (some (.int q.1)) (V q.2) 0 0 := by
  unfold La_keepDraft at h
  refine Runs.of2 [some (.ref 20)] 0 rfl rfl (Nat.le_of_ble_eq_true rfl) (fun l Γ => ?_)
  refine g_aload_n (pc := 0) dX3_keepDraft_0 rfl ?_
  refine g_dup (pc := 1) dX3_keepDraft_1 rfl ?_
  refine v_getI hV (pc := 2) dX3_keepDraft_2 fo_3_4 rfl k0_20 own_20 ?_
  refine g_iconst (v := 1) (pc := 5) dX3_keepDraft_5 (by decide) ?_
  refine g_iadd (pc := 6) dX3_keepDraft_6 ?_
  refine v_putI hV (pc := 7) dX3_keepDraft_7 fo_3_4 rfl k0_20 own_20 rfl ?_
  refine g_aload_n (pc := 10) dX3_keepDraft_10 rfl ?_
  refine v_getI hV (pc := 11) dX3_keepDraft_11 fo_3_4 rfl k0_20 own_20 ?_
  refine g_iconst (v := 1) (pc := 14) dX3_keepDraft_14 (by decide) ?_
  refine g_isub (pc := 15) dX3_keepDraft_15 ?_
  subst h
  exact g_iret (pc := 16) dX3_keepDraft_16 rfl rfl (Nat.le_refl _) (Nat.le_refl _)
def Nt_many (v1 : Int32) (S : Sm) : Int32 := (atF (gi S 12) 4 v1)
set_option maxRecDepth 4000 in
theorem r_Nt_many {V : Sm → Wd} (hV : VwC V) {v1 : Int32} {S : Sm} {q : Int32} (h : Nt_many v1 S = q) : Runs 1 mX5_many [.ref 10, .int v1] (V S) (some (.int q)) (V S) 0 0 := by
  unfold Nt_many at h
  refine Runs.of2 [some (.ref 10), some (.int v1)] 0 rfl rfl (Nat.le_of_ble_eq_true rfl) (fun l Γ => ?_)
  refine g_aload_n (pc := 0) dX5_many_0 rfl ?_
  refine v_getR hV (pc := 1) dX5_many_1 fo_5_1 rfl k0_10 r0_10_1 ?_
  refine g_iload_n (pc := 4) dX5_many_4 rfl ?_
  refine v_callNi (Mc := mX11_at) (v := atF (gi S 12) 4 v1) (S1 := S) (As := [.ref 12, .int v1]) (rest := []) (pc := 5) dX5_many_5 nl_X5_24 mf_X11_at rfl rfl (Nat.le_of_ble_eq_true rfl) ⟨Nat.le_of_ble_eq_true rfl, Nat.le_of_ble_eq_true rfl⟩ (r_at hV k0_12 own_12 (by decide)) ?_
  subst h
  exact g_iret (pc := 8) dX5_many_8 rfl rfl (Nat.le_refl _) (Nat.le_refl _)
def Nt_item (v1 : Int32) (v2 : Int32) (v3 : Int32) (S : Sm) : Int32 := (atF (gi S 11) 116 ((((atF (cst 1) 5 v1) + v2) * 4) + v3))
set_option maxRecDepth 4000 in
theorem r_Nt_item {V : Sm → Wd} (hV : VwC V) {v1 : Int32} {v2 : Int32} {v3 : Int32} {S : Sm} {q : Int32} (h : Nt_item v1 v2 v3 S = q) : Runs 1 mX5_item [.ref 10, .int v1, .int v2, .int v3] (V S) (some (.int q)) (V S) 0 0 := by
  unfold Nt_item at h
  refine Runs.of2 [some (.ref 10), some (.int v1), some (.int v2), some (.int v3)] 0 rfl rfl (Nat.le_of_ble_eq_true rfl) (fun l Γ => ?_)
  refine g_aload_n (pc := 0) dX5_item_0 rfl ?_
  refine v_getR hV (pc := 1) dX5_item_1 fo_5_0 rfl k0_10 r0_10_0 ?_
  refine gs_get (i := 1) (pc := 4) dX5_item_4 (List.mem_of_getElem? (i := 1) rfl) rfl fK_X5_21 ?_
  refine g_iload_n (pc := 7) dX5_item_7 rfl ?_
  refine v_callNi (Mc := mX11_at) (v := atF (cst 1) 5 v1) (S1 := S) (As := [.ref 1, .int v1]) (rest := [.ref 11]) (pc := 8) dX5_item_8 nl_X5_24 mf_X11_at rfl rfl (Nat.le_of_ble_eq_true rfl) ⟨Nat.le_of_ble_eq_true rfl, Nat.le_of_ble_eq_true rfl⟩ (r_at_c hV k0_1 (by decide) (by decide)) ?_
  refine g_iload_n (pc := 11) dX5_item_11 rfl ?_
  refine g_iadd (pc := 12) dX5_item_12 ?_
  refine g_iconst (v := 4) (pc := 13) dX5_item_13 (by decide) ?_
  refine g_imul (pc := 14) dX5_item_14 ?_
  refine g_iload_n (pc := 15) dX5_item_15 rfl ?_
  refine g_iadd (pc := 16) dX5_item_16 ?_
  refine v_callNi (Mc := mX11_at) (v := atF (gi S 11) 116 ((((atF (cst 1) 5 v1) + v2) * 4) + v3)) (S1 := S) (As := [.ref 11, .int ((((atF (cst 1) 5 v1) + v2) * 4) + v3)]) (rest := []) (pc := 17) dX5_item_17 nl_X5_24 mf_X11_at rfl rfl (Nat.le_of_ble_eq_true rfl) ⟨Nat.le_of_ble_eq_true rfl, Nat.le_of_ble_eq_true rfl⟩ (r_at hV k0_11 own_11 (by decide)) ?_
  subst h
  exact g_iret (pc := 20) dX5_item_20 rfl rfl (Nat.le_refl _) (Nat.le_refl _)
def Nt_darkOfTunnel (v1 : Int32) (S : Sm) : Int32 := (Dk_darkOf (Nt_item 1 v1 0 S) (Nt_item 1 v1 1 S))
set_option maxRecDepth 4000 in
theorem r_Nt_darkOfTunnel {V : Sm → Wd} (hV : VwC V) {v1 : Int32} {S : Sm} {q : Int32} (h : Nt_darkOfTunnel v1 S = q) : Runs 2 mX5_darkOfTunnel [.ref 10, .int v1] (V S) (some (.int q)) (V S) 0 0 := by
  unfold Nt_darkOfTunnel at h
  refine Runs.of2 [some (.ref 10), some (.int v1)] 0 rfl rfl (Nat.le_of_ble_eq_true rfl) (fun l Γ => ?_)
  refine g_aload_n (pc := 0) dX5_darkOfTunnel_0 rfl ?_
  refine g_iconst (v := 1) (pc := 1) dX5_darkOfTunnel_1 (by decide) ?_
  refine g_iload_n (pc := 2) dX5_darkOfTunnel_2 rfl ?_
  refine g_iconst (v := 0) (pc := 3) dX5_darkOfTunnel_3 (by decide) ?_
  refine v_callVi hV (Mc := mX5_item) (v := Nt_item 1 v1 0 S) (S1 := S) (As := [.int 1, .int v1, .int 0]) (rest := []) (q := (RX5, TX5, 3)) (pc := 4) dX5_darkOfTunnel_4 mK_X5_42 mf_X5_item rfl k0_10 rfl rfl rfl (Nat.le_of_ble_eq_true rfl) ⟨Nat.le_of_ble_eq_true rfl, Nat.le_of_ble_eq_true rfl⟩ (r_Nt_item hV rfl) ?_
  refine g_aload_n (pc := 7) dX5_darkOfTunnel_7 rfl ?_
  refine g_iconst (v := 1) (pc := 8) dX5_darkOfTunnel_8 (by decide) ?_
  refine g_iload_n (pc := 9) dX5_darkOfTunnel_9 rfl ?_
  refine g_iconst (v := 1) (pc := 10) dX5_darkOfTunnel_10 (by decide) ?_
  refine v_callVi hV (Mc := mX5_item) (v := Nt_item 1 v1 1 S) (S1 := S) (As := [.int 1, .int v1, .int 1]) (rest := [.int (Nt_item 1 v1 0 S)]) (q := (RX5, TX5, 3)) (pc := 11) dX5_darkOfTunnel_11 mK_X5_42 mf_X5_item rfl k0_10 rfl rfl rfl (Nat.le_of_ble_eq_true rfl) ⟨Nat.le_of_ble_eq_true rfl, Nat.le_of_ble_eq_true rfl⟩ (r_Nt_item hV rfl) ?_
  refine v_callNi (Mc := mX11_darkOf) (v := Dk_darkOf (Nt_item 1 v1 0 S) (Nt_item 1 v1 1 S)) (S1 := S) (As := [.int (Nt_item 1 v1 0 S), .int (Nt_item 1 v1 1 S)]) (rest := []) (pc := 14) dX5_darkOfTunnel_14 nl_X5_60 mf_X11_darkOf rfl rfl (Nat.le_of_ble_eq_true rfl) ⟨Nat.le_of_ble_eq_true rfl, Nat.le_of_ble_eq_true rfl⟩ (r_Dk_darkOf hV rfl) ?_
  subst h
  exact g_iret (pc := 17) dX5_darkOfTunnel_17 rfl rfl (Nat.le_refl _) (Nat.le_refl _)
def hd_Nt_become_14_L24 (V : Sm → Wd) (l : Launch) (Γ : Gm) (rF : Option Value) (wF : Wd)  (q : Int32 × Sm) : Prop := G mX5_become l Γ (rmD 3 0 0) (mQ Γ rF wF 0 0) 0 0 24 [some (.ref 10), none, some (.int q.1)] [] (V q.2)
def ps_Nt_become_14_L24 (V : Sm → Wd) (l : Launch) (Γ : Gm) (rF : Option Value) (wF : Wd)  (x : Sm) : Prop := (fun (a : Sm) => G mX5_become l Γ (rmD 3 0 0) (mQ Γ rF wF 0 0) 0 0 45 [some (.ref 10), none, none] [] (V a)) x
def Nt_become_14_L24 (q : Int32 × Sm) : Option ((Int32 × Sm) ⊕ (Sm)) := (if (40 : Int32) ≤ q.1 then (some (.inr q.2)) else (app (puF q.2 13 40 q.1 1) fun S3 => (some (.inl (q.1 + 1, S3)))))
set_option maxRecDepth 4000 in
theorem t_Nt_become_14_L24 {V : Sm → Wd} (hV : VwC V) {l : Launch} {Γ : Gm} {rF : Option Value} {wF : Wd}  {q : Int32 × Sm} {o : (Int32 × Sm) ⊕ (Sm)} (h : Nt_become_14_L24 q = some o) (hK : Sum.elim (hd_Nt_become_14_L24 V l Γ rF wF) (ps_Nt_become_14_L24 V l Γ rF wF) o) : hd_Nt_become_14_L24 V l Γ rF wF q := by
  unfold Nt_become_14_L24 at h
  unfold hd_Nt_become_14_L24
  refine g_iload_n (pc := 24) dX5_become_24 rfl ?_
  refine g_bipush (v := 40) (pc := 25) dX5_become_25 (by decide) ?_
  refine g_icmp_ge (tgt := 45) (pc := 27) dX5_become_27 (by decide) (fun c4 => ?_) (fun c4 => ?_)
  · rw [if_pos c4] at h
    refine g_wk [true, false, false] rfl ?_
    cases h
    exact hK
  · rw [if_neg c4] at h
    refine g_aload_n (pc := 30) dX5_become_30 rfl ?_
    refine v_getR hV (pc := 31) dX5_become_31 fo_5_2 rfl k0_10 r0_10_2 ?_
    refine g_iload_n (pc := 34) dX5_become_34 rfl ?_
    refine g_iconst (v := 1) (pc := 35) dX5_become_35 (by decide) ?_
    obtain ⟨S3, hS3, h⟩ := app_of h
    refine v_callNv (Mc := mX11_put) (S1 := S3) (As := [.ref 13, .int q.1, .int 1]) (rest := []) (pc := 36) dX5_become_36 nl_X5_31 mf_X11_put rfl rfl (Nat.le_of_ble_eq_true rfl) ⟨Nat.le_of_ble_eq_true rfl, Nat.le_of_ble_eq_true rfl⟩ (r_put hV k0_13 own_13 (by decide) hS3) ?_
    refine g_iinc (v := q.1 + 1) (ls1 := [some (.ref 10), none, some (.int (q.1 + 1))]) (pc := 39) dX5_become_39 rfl rfl (by decide) rfl ?_
    refine g_goto (tgt := 24) (pc := 42) dX5_become_42 (by decide) ?_
    cases h
    exact hK
set_option maxRecDepth 4000 in
theorem w_Nt_become_14_L24 {V : Sm → Wd} (hV : VwC V) {l : Launch} {Γ : Gm} {rF : Option Value} {wF : Wd}  {k : Nat} {q : Int32 × Sm} {o : Sm} (h : lpN (Nt_become_14_L24) k q = some o) (hP : ps_Nt_become_14_L24 V l Γ rF wF o) : hd_Nt_become_14_L24 V l Γ rF wF q := lpN_ind2 (hd_Nt_become_14_L24 V l Γ rF wF) (ps_Nt_become_14_L24 V l Γ rF wF) (fun s o h hK => t_Nt_become_14_L24 hV h hK) k q o h hP
def hd_Nt_become_14_L47 (V : Sm → Wd) (l : Launch) (Γ : Gm) (rF : Option Value) (wF : Wd)  (q : Int32 × Sm) : Prop := G mX5_become l Γ (rmD 3 0 0) (mQ Γ rF wF 0 0) 0 0 47 [some (.ref 10), none, some (.int q.1)] [] (V q.2)
def ps_Nt_become_14_L47 (V : Sm → Wd) (l : Launch) (Γ : Gm) (rF : Option Value) (wF : Wd)  (x : Sm) : Prop := (fun (a : Sm) => G mX5_become l Γ (rmD 3 0 0) (mQ Γ rF wF 0 0) 0 0 81 [none, none, none] [] (V a)) x
def Nt_become_14_L47 (q : Int32 × Sm) : Option ((Int32 × Sm) ⊕ (Sm)) := (if (Nt_many 1 q.2) ≤ q.1 then (some (.inr q.2)) else (app (puF q.2 13 40 (Nt_darkOfTunnel q.1 q.2) (Nt_item 1 q.1 3 q.2)) fun S6 => (some (.inl (q.1 + 1, S6)))))
set_option maxRecDepth 4000 in
theorem t_Nt_become_14_L47 {V : Sm → Wd} (hV : VwC V) {l : Launch} {Γ : Gm} {rF : Option Value} {wF : Wd}  {q : Int32 × Sm} {o : (Int32 × Sm) ⊕ (Sm)} (h : Nt_become_14_L47 q = some o) (hK : Sum.elim (hd_Nt_become_14_L47 V l Γ rF wF) (ps_Nt_become_14_L47 V l Γ rF wF) o) : hd_Nt_become_14_L47 V l Γ rF wF q := by
  unfold Nt_become_14_L47 at h
  unfold hd_Nt_become_14_L47
  refine g_iload_n (pc := 47) dX5_become_47 rfl ?_
  refine g_aload_n (pc := 48) dX5_become_48 rfl ?_
  refine g_iconst (v := 1) (pc := 49) dX5_become_49 (by decide) ?_
  refine v_callVi hV (Mc := mX5_many) (v := Nt_many 1 q.2) (S1 := q.2) (As := [.int 1]) (rest := [.int q.1]) (q := (RX5, TX5, 3)) (pc := 50) dX5_become_50 mK_X5_28 mf_X5_many rfl k0_10 rfl rfl rfl (Nat.le_of_ble_eq_true rfl) ⟨Nat.le_of_ble_eq_true rfl, Nat.le_of_ble_eq_true rfl⟩ (r_Nt_many hV rfl) ?_
  refine g_icmp_ge (tgt := 81) (pc := 53) dX5_become_53 (by decide) (fun c7 => ?_) (fun c7 => ?_)
  · rw [if_pos c7] at h
    refine g_wk [false, false, false] rfl ?_
    cases h
    exact hK
  · rw [if_neg c7] at h
    refine g_aload_n (pc := 56) dX5_become_56 rfl ?_
    refine v_getR hV (pc := 57) dX5_become_57 fo_5_2 rfl k0_10 r0_10_2 ?_
    refine g_aload_n (pc := 60) dX5_become_60 rfl ?_
    refine g_iload_n (pc := 61) dX5_become_61 rfl ?_
    refine v_callVi hV (Mc := mX5_darkOfTunnel) (v := Nt_darkOfTunnel q.1 q.2) (S1 := q.2) (As := [.int q.1]) (rest := [.ref 13]) (q := (RX5, TX5, 3)) (pc := 62) dX5_become_62 mK_X5_39 mf_X5_darkOfTunnel rfl k0_10 rfl rfl rfl (Nat.le_of_ble_eq_true rfl) ⟨Nat.le_of_ble_eq_true rfl, Nat.le_of_ble_eq_true rfl⟩ (r_Nt_darkOfTunnel hV rfl) ?_
    refine g_aload_n (pc := 65) dX5_become_65 rfl ?_
    refine g_iconst (v := 1) (pc := 66) dX5_become_66 (by decide) ?_
    refine g_iload_n (pc := 67) dX5_become_67 rfl ?_
    refine g_iconst (v := 3) (pc := 68) dX5_become_68 (by decide) ?_
    refine v_callVi hV (Mc := mX5_item) (v := Nt_item 1 q.1 3 q.2) (S1 := q.2) (As := [.int 1, .int q.1, .int 3]) (rest := [.int (Nt_darkOfTunnel q.1 q.2), .ref 13]) (q := (RX5, TX5, 3)) (pc := 69) dX5_become_69 mK_X5_42 mf_X5_item rfl k0_10 rfl rfl rfl (Nat.le_of_ble_eq_true rfl) ⟨Nat.le_of_ble_eq_true rfl, Nat.le_of_ble_eq_true rfl⟩ (r_Nt_item hV rfl) ?_
    obtain ⟨S6, hS6, h⟩ := app_of h
    refine v_callNv (Mc := mX11_put) (S1 := S6) (As := [.ref 13, .int (Nt_darkOfTunnel q.1 q.2), .int (Nt_item 1 q.1 3 q.2)]) (rest := []) (pc := 72) dX5_become_72 nl_X5_31 mf_X11_put rfl rfl (Nat.le_of_ble_eq_true rfl) ⟨Nat.le_of_ble_eq_true rfl, Nat.le_of_ble_eq_true rfl⟩ (r_put hV k0_13 own_13 (by decide) hS6) ?_
    refine g_iinc (v := q.1 + 1) (ls1 := [some (.ref 10), none, some (.int (q.1 + 1))]) (pc := 75) dX5_become_75 rfl rfl (by decide) rfl ?_
    refine g_goto (tgt := 47) (pc := 78) dX5_become_78 (by decide) ?_
    cases h
    exact hK
set_option maxRecDepth 4000 in
theorem w_Nt_become_14_L47 {V : Sm → Wd} (hV : VwC V) {l : Launch} {Γ : Gm} {rF : Option Value} {wF : Wd}  {k : Nat} {q : Int32 × Sm} {o : Sm} (h : lpN (Nt_become_14_L47) k q = some o) (hP : ps_Nt_become_14_L47 V l Γ rF wF o) : hd_Nt_become_14_L47 V l Γ rF wF q := lpN_ind2 (hd_Nt_become_14_L47 V l Γ rF wF) (ps_Nt_become_14_L47 V l Γ rF wF) (fun s o h hK => t_Nt_become_14_L47 hV h hK) k q o h hP
def Nt_become_14 (S : Sm) : Option (Sm) := (app (sc S 15 11 116) fun S1 => (app (sc S1 16 12 4) fun S2 => ((lpN (Nt_become_14_L24) FU (0, S2)).bind fun q5 => ((lpN (Nt_become_14_L47) FU (0, q5)).bind fun q8 => (some q8)))))
set_option maxRecDepth 4000 in
theorem r_Nt_become_14 {V : Sm → Wd} (hV : VwC V)  {S : Sm} {q : Sm} (h : Nt_become_14 S = some q) : Runs 3 mX5_become [.ref 10, .ref 14] (V S) none (V q) 0 0 := by
  unfold Nt_become_14 at h
  refine Runs.of2 [some (.ref 10), some (.ref 14), none] 1 rfl rfl (Nat.le_of_ble_eq_true rfl) (fun l Γ => ?_)
  refine g_aload_n (pc := 0) dX5_become_0 rfl ?_
  refine v_getR hV (pc := 1) dX5_become_1 fo_5_0 rfl k0_14 r0_14_0 ?_
  refine g_aload_n (pc := 4) dX5_become_4 rfl ?_
  refine v_getR hV (pc := 5) dX5_become_5 fo_5_0 rfl k0_10 r0_10_0 ?_
  obtain ⟨S1, hS1, h⟩ := app_of h
  refine v_callNv (Mc := mX11_copy) (S1 := S1) (As := [.ref 15, .ref 11]) (rest := []) (pc := 8) dX5_become_8 nl_X5_35 mf_X11_copy rfl rfl (Nat.le_of_ble_eq_true rfl) ⟨Nat.le_of_ble_eq_true rfl, Nat.le_of_ble_eq_true rfl⟩ (r_copy hV k0_15 own_15 k0_11 own_11 (by decide) hS1) ?_
  refine g_aload_n (pc := 11) dX5_become_11 rfl ?_
  refine v_getR hV (pc := 12) dX5_become_12 fo_5_1 rfl k0_14 r0_14_1 ?_
  refine g_aload_n (pc := 15) dX5_become_15 rfl ?_
  refine v_getR hV (pc := 16) dX5_become_16 fo_5_1 rfl k0_10 r0_10_1 ?_
  obtain ⟨S2, hS2, h⟩ := app_of h
  refine v_callNv (Mc := mX11_copy) (S1 := S2) (As := [.ref 16, .ref 12]) (rest := []) (pc := 19) dX5_become_19 nl_X5_35 mf_X11_copy rfl rfl (Nat.le_of_ble_eq_true rfl) ⟨Nat.le_of_ble_eq_true rfl, Nat.le_of_ble_eq_true rfl⟩ (r_copy hV k0_16 own_16 k0_12 own_12 (by decide) hS2) ?_
  refine g_iconst (v := 0) (pc := 22) dX5_become_22 (by decide) ?_
  refine g_istore_n (ls1 := [some (.ref 10), some (.ref 14), some (.int 0)]) (pc := 23) dX5_become_23 (by decide) rfl ?_
  refine g_wk [true, false, true] rfl ?_
  obtain ⟨q5, hqq5, h⟩ := bnd h
  refine w_Nt_become_14_L24 hV hqq5 ?_
  unfold ps_Nt_become_14_L24
  show G _ _ _ _ _ _ _ _ _ _ _
  refine g_iconst (v := 0) (pc := 45) dX5_become_45 (by decide) ?_
  refine g_istore_n (ls1 := [some (.ref 10), none, some (.int 0)]) (pc := 46) dX5_become_46 (by decide) rfl ?_
  obtain ⟨q8, hqq8, h⟩ := bnd h
  refine w_Nt_become_14_L47 hV hqq8 ?_
  unfold ps_Nt_become_14_L47
  show G _ _ _ _ _ _ _ _ _ _ _
  cases h
  exact g_vret (pc := 81) dX5_become_81 rfl (Nat.le_refl _) (Nat.le_refl _)
def Nt_hour (S : Sm) : Int32 := (atF (gi S 11) 116 2)
set_option maxRecDepth 4000 in
theorem r_Nt_hour {V : Sm → Wd} (hV : VwC V)  {S : Sm} {q : Int32} (h : Nt_hour S = q) : Runs 1 mX5_hour [.ref 10] (V S) (some (.int q)) (V S) 0 0 := by
  unfold Nt_hour at h
  refine Runs.of2 [some (.ref 10)] 0 rfl rfl (Nat.le_of_ble_eq_true rfl) (fun l Γ => ?_)
  refine g_aload_n (pc := 0) dX5_hour_0 rfl ?_
  refine v_getR hV (pc := 1) dX5_hour_1 fo_5_0 rfl k0_10 r0_10_0 ?_
  refine g_iconst (v := 2) (pc := 4) dX5_hour_4 (by decide) ?_
  refine v_callNi (Mc := mX11_at) (v := atF (gi S 11) 116 2) (S1 := S) (As := [.ref 11, .int 2]) (rest := []) (pc := 5) dX5_hour_5 nl_X5_24 mf_X11_at rfl rfl (Nat.le_of_ble_eq_true rfl) ⟨Nat.le_of_ble_eq_true rfl, Nat.le_of_ble_eq_true rfl⟩ (r_at hV k0_11 own_11 (by decide)) ?_
  subst h
  exact g_iret (pc := 8) dX5_hour_8 rfl rfl (Nat.le_refl _) (Nat.le_refl _)
def Mo_lead (v1 : Int32) (v2 : Int32) (v3 : Int32) (S : Sm) : Sm := (app (puF S 27 40 (Dk_darkOf v1 v2) v3) fun S1 => S1)
set_option maxRecDepth 4000 in
theorem r_Mo_lead {V : Sm → Wd} (hV : VwC V) {v1 : Int32} {v2 : Int32} {v3 : Int32} {S : Sm} {q : Sm} (h : Mo_lead v1 v2 v3 S = q) : Runs 1 mX4_lead [.ref 25, .int v1, .int v2, .int v3] (V S) none (V q) 0 0 := by
  unfold Mo_lead at h
  refine Runs.of2 [some (.ref 25), some (.int v1), some (.int v2), some (.int v3)] 0 rfl rfl (Nat.le_of_ble_eq_true rfl) (fun l Γ => ?_)
  refine g_aload_n (pc := 0) dX4_lead_0 rfl ?_
  refine v_getR hV (pc := 1) dX4_lead_1 fo_4_1 rfl k0_25 r0_25_1 ?_
  refine g_iload_n (pc := 4) dX4_lead_4 rfl ?_
  refine g_iload_n (pc := 5) dX4_lead_5 rfl ?_
  refine v_callNi (Mc := mX11_darkOf) (v := Dk_darkOf v1 v2) (S1 := S) (As := [.int v1, .int v2]) (rest := [.ref 27]) (pc := 6) dX4_lead_6 nl_X4_87 mf_X11_darkOf rfl rfl (Nat.le_of_ble_eq_true rfl) ⟨Nat.le_of_ble_eq_true rfl, Nat.le_of_ble_eq_true rfl⟩ (r_Dk_darkOf hV rfl) ?_
  refine g_iload_n (pc := 9) dX4_lead_9 rfl ?_
  obtain ⟨S1, hS1, h⟩ := app_of h
  refine v_callNv (Mc := mX11_put) (S1 := S1) (As := [.ref 27, .int (Dk_darkOf v1 v2), .int v3]) (rest := []) (pc := 10) dX4_lead_10 nl_X4_62 mf_X11_put rfl rfl (Nat.le_of_ble_eq_true rfl) ⟨Nat.le_of_ble_eq_true rfl, Nat.le_of_ble_eq_true rfl⟩ (r_put hV k0_27 own_27 (by decide) hS1) ?_
  subst h
  exact g_vret (pc := 13) dX4_lead_13 rfl (Nat.le_refl _) (Nat.le_refl _)
def hd_Mo_beginDarks_10_L2 (V : Sm → Wd) (l : Launch) (Γ : Gm) (rF : Option Value) (wF : Wd)  (q : Int32 × Sm) : Prop := G mX4_beginDarks l Γ (rmD 3 0 0) (mQ Γ rF wF 0 0) 0 0 2 [some (.ref 25), some (.ref 10), some (.int q.1), none] [] (V q.2)
def ps_Mo_beginDarks_10_L2 (V : Sm → Wd) (l : Launch) (Γ : Gm) (rF : Option Value) (wF : Wd)  (x : Sm) : Prop := (fun (a : Sm) => G mX4_beginDarks l Γ (rmD 3 0 0) (mQ Γ rF wF 0 0) 0 0 34 [some (.ref 25), some (.ref 10), none, none] [] (V a)) x
def hd_Mo_beginDarks_10_L10 (V : Sm → Wd) (l : Launch) (Γ : Gm) (rF : Option Value) (wF : Wd) (v2 : Int32) (q : Int32 × Sm) : Prop := G mX4_beginDarks l Γ (rmD 3 0 0) (mQ Γ rF wF 0 0) 0 0 10 [some (.ref 25), some (.ref 10), some (.int v2), some (.int q.1)] [] (V q.2)
def ps_Mo_beginDarks_10_L10 (V : Sm → Wd) (l : Launch) (Γ : Gm) (rF : Option Value) (wF : Wd) (v2 : Int32) (x : Sm) : Prop := (fun (a : Sm) => G mX4_beginDarks l Γ (rmD 3 0 0) (mQ Γ rF wF 0 0) 0 0 28 [some (.ref 25), some (.ref 10), some (.int v2), none] [] (V a)) x
def Mo_beginDarks_10_L10 (v2 : Int32) (q : Int32 × Sm) : Option ((Int32 × Sm) ⊕ (Sm)) := (if (5 : Int32) ≤ q.1 then (some (.inr q.2)) else (app (Mo_lead v2 q.1 v2 q.2) fun q1 => (some (.inl (q.1 + 1, q1)))))
set_option maxRecDepth 4000 in
theorem t_Mo_beginDarks_10_L10 {V : Sm → Wd} (hV : VwC V) {l : Launch} {Γ : Gm} {rF : Option Value} {wF : Wd} {v2 : Int32} {q : Int32 × Sm} {o : (Int32 × Sm) ⊕ (Sm)} (h : Mo_beginDarks_10_L10 v2 q = some o) (hK : Sum.elim (hd_Mo_beginDarks_10_L10 V l Γ rF wF v2) (ps_Mo_beginDarks_10_L10 V l Γ rF wF v2) o) : hd_Mo_beginDarks_10_L10 V l Γ rF wF v2 q := by
  unfold Mo_beginDarks_10_L10 at h
  unfold hd_Mo_beginDarks_10_L10
  refine g_iload_n (pc := 10) dX4_beginDarks_10 rfl ?_
  refine g_iconst (v := 5) (pc := 11) dX4_beginDarks_11 (by decide) ?_
  refine g_icmp_ge (tgt := 28) (pc := 12) dX4_beginDarks_12 (by decide) (fun c2 => ?_) (fun c2 => ?_)
  · rw [if_pos c2] at h
    refine g_wk [true, true, true, false] rfl ?_
    cases h
    exact hK
  · rw [if_neg c2] at h
    refine g_aload_n (pc := 15) dX4_beginDarks_15 rfl ?_
    refine g_iload_n (pc := 16) dX4_beginDarks_16 rfl ?_
    refine g_iload_n (pc := 17) dX4_beginDarks_17 rfl ?_
    refine g_iload_n (pc := 18) dX4_beginDarks_18 rfl ?_
    obtain ⟨q1, hq1, h⟩ := app_of h
    refine v_callVv hV (Mc := mX4_lead) (S1 := q1) (As := [.int v2, .int q.1, .int v2]) (rest := []) (q := (RX4, TX4, 8)) (pc := 19) dX4_beginDarks_19 mK_X4_69 mf_X4_lead rfl k0_25 rfl rfl rfl (Nat.le_of_ble_eq_true rfl) ⟨Nat.le_of_ble_eq_true rfl, Nat.le_of_ble_eq_true rfl⟩ (r_Mo_lead hV hq1) ?_
    refine g_iinc (v := q.1 + 1) (ls1 := [some (.ref 25), some (.ref 10), some (.int v2), some (.int (q.1 + 1))]) (pc := 22) dX4_beginDarks_22 rfl rfl (by decide) rfl ?_
    refine g_goto (tgt := 10) (pc := 25) dX4_beginDarks_25 (by decide) ?_
    cases h
    exact hK
set_option maxRecDepth 4000 in
theorem w_Mo_beginDarks_10_L10 {V : Sm → Wd} (hV : VwC V) {l : Launch} {Γ : Gm} {rF : Option Value} {wF : Wd} {v2 : Int32} {k : Nat} {q : Int32 × Sm} {o : Sm} (h : lpN (Mo_beginDarks_10_L10 v2) k q = some o) (hP : ps_Mo_beginDarks_10_L10 V l Γ rF wF v2 o) : hd_Mo_beginDarks_10_L10 V l Γ rF wF v2 q := lpN_ind2 (hd_Mo_beginDarks_10_L10 V l Γ rF wF v2) (ps_Mo_beginDarks_10_L10 V l Γ rF wF v2) (fun s o h hK => t_Mo_beginDarks_10_L10 hV h hK) k q o h hP
def Mo_beginDarks_10_L2 (q : Int32 × Sm) : Option ((Int32 × Sm) ⊕ (Sm)) := (if (8 : Int32) ≤ q.1 then (some (.inr q.2)) else ((lpN (Mo_beginDarks_10_L10 q.1) FU (0, q.2)).bind fun q3 => (some (.inl (q.1 + 1, q3)))))
set_option maxRecDepth 4000 in
theorem t_Mo_beginDarks_10_L2 {V : Sm → Wd} (hV : VwC V) {l : Launch} {Γ : Gm} {rF : Option Value} {wF : Wd}  {q : Int32 × Sm} {o : (Int32 × Sm) ⊕ (Sm)} (h : Mo_beginDarks_10_L2 q = some o) (hK : Sum.elim (hd_Mo_beginDarks_10_L2 V l Γ rF wF) (ps_Mo_beginDarks_10_L2 V l Γ rF wF) o) : hd_Mo_beginDarks_10_L2 V l Γ rF wF q := by
  unfold Mo_beginDarks_10_L2 at h
  unfold hd_Mo_beginDarks_10_L2
  refine g_iload_n (pc := 2) dX4_beginDarks_2 rfl ?_
  refine g_bipush (v := 8) (pc := 3) dX4_beginDarks_3 (by decide) ?_
  refine g_icmp_ge (tgt := 34) (pc := 5) dX4_beginDarks_5 (by decide) (fun c4 => ?_) (fun c4 => ?_)
  · rw [if_pos c4] at h
    refine g_wk [true, true, false, false] rfl ?_
    cases h
    exact hK
  · rw [if_neg c4] at h
    refine g_iconst (v := 0) (pc := 8) dX4_beginDarks_8 (by decide) ?_
    refine g_istore_n (ls1 := [some (.ref 25), some (.ref 10), some (.int q.1), some (.int 0)]) (pc := 9) dX4_beginDarks_9 (by decide) rfl ?_
    obtain ⟨q3, hqq3, h⟩ := bnd h
    refine w_Mo_beginDarks_10_L10 hV hqq3 ?_
    unfold ps_Mo_beginDarks_10_L10
    show G _ _ _ _ _ _ _ _ _ _ _
    refine g_iinc (v := q.1 + 1) (ls1 := [some (.ref 25), some (.ref 10), some (.int (q.1 + 1)), none]) (pc := 28) dX4_beginDarks_28 rfl rfl (by decide) rfl ?_
    refine g_goto (tgt := 2) (pc := 31) dX4_beginDarks_31 (by decide) ?_
    cases h
    exact hK
set_option maxRecDepth 4000 in
theorem w_Mo_beginDarks_10_L2 {V : Sm → Wd} (hV : VwC V) {l : Launch} {Γ : Gm} {rF : Option Value} {wF : Wd}  {k : Nat} {q : Int32 × Sm} {o : Sm} (h : lpN (Mo_beginDarks_10_L2) k q = some o) (hP : ps_Mo_beginDarks_10_L2 V l Γ rF wF o) : hd_Mo_beginDarks_10_L2 V l Γ rF wF q := lpN_ind2 (hd_Mo_beginDarks_10_L2 V l Γ rF wF) (ps_Mo_beginDarks_10_L2 V l Γ rF wF) (fun s o h hK => t_Mo_beginDarks_10_L2 hV h hK) k q o h hP
def hd_Mo_beginDarks_10_L36 (V : Sm → Wd) (l : Launch) (Γ : Gm) (rF : Option Value) (wF : Wd)  (q : Int32 × Sm) : Prop := G mX4_beginDarks l Γ (rmD 3 0 0) (mQ Γ rF wF 0 0) 0 0 36 [some (.ref 25), some (.ref 10), some (.int q.1), none] [] (V q.2)
def ps_Mo_beginDarks_10_L36 (V : Sm → Wd) (l : Launch) (Γ : Gm) (rF : Option Value) (wF : Wd)  (x : Sm) : Prop := (fun (a : Sm) => G mX4_beginDarks l Γ (rmD 3 0 0) (mQ Γ rF wF 0 0) 0 0 82 [none, none, none, none] [] (V a)) x
def Mo_beginDarks_10_73_L36 (v2 : Int32) (s1 : Int32) (s2 : Int32) (S : Sm) : Option ((Int32 × Sm) ⊕ (Sm)) := (app (puF S 27 40 s1 s2) fun S6 => (some (.inl (v2 + 1, S6))))
set_option maxRecDepth 4000 in
theorem t_Mo_beginDarks_10_73_L36 {V : Sm → Wd} (hV : VwC V) {l : Launch} {Γ : Gm} {v2 : Int32} {s1 : Int32} {s2 : Int32} {rF : Option Value} {wF : Wd} {S : Sm} {o : (Int32 × Sm) ⊕ (Sm)} (h : Mo_beginDarks_10_73_L36 v2 s1 s2 S = some o) (hK : Sum.elim (hd_Mo_beginDarks_10_L36 V l Γ rF wF) (ps_Mo_beginDarks_10_L36 V l Γ rF wF) o) : G mX4_beginDarks l Γ (rmD 3 0 0) (mQ Γ rF wF 0 0) 0 0 73 [some (.ref 25), some (.ref 10), some (.int v2), none] [.int s2, .int s1, .ref 27] (V S) := by
  unfold Mo_beginDarks_10_73_L36 at h
  obtain ⟨S6, hS6, h⟩ := app_of h
  refine v_callNv (Mc := mX11_put) (S1 := S6) (As := [.ref 27, .int s1, .int s2]) (rest := []) (pc := 73) dX4_beginDarks_73 nl_X4_62 mf_X11_put rfl rfl (Nat.le_of_ble_eq_true rfl) ⟨Nat.le_of_ble_eq_true rfl, Nat.le_of_ble_eq_true rfl⟩ (r_put hV k0_27 own_27 (by decide) hS6) ?_
  refine g_iinc (v := v2 + 1) (ls1 := [some (.ref 25), some (.ref 10), some (.int (v2 + 1)), none]) (pc := 76) dX4_beginDarks_76 rfl rfl (by decide) rfl ?_
  refine g_goto (tgt := 36) (pc := 79) dX4_beginDarks_79 (by decide) ?_
  cases h
  exact hK
def Mo_beginDarks_10_L36 (q : Int32 × Sm) : Option ((Int32 × Sm) ⊕ (Sm)) := (if (Nt_many 1 q.2) ≤ q.1 then (some (.inr q.2)) else (if (Nt_item 1 q.1 2 q.2) = 8 then (Mo_beginDarks_10_73_L36 q.1 (Nt_darkOfTunnel q.1 q.2) ((-1)) q.2) else (Mo_beginDarks_10_73_L36 q.1 (Nt_darkOfTunnel q.1 q.2) (Nt_item 1 q.1 2 q.2) q.2)))
set_option maxRecDepth 4000 in
theorem t_Mo_beginDarks_10_L36 {V : Sm → Wd} (hV : VwC V) {l : Launch} {Γ : Gm} {rF : Option Value} {wF : Wd}  {q : Int32 × Sm} {o : (Int32 × Sm) ⊕ (Sm)} (h : Mo_beginDarks_10_L36 q = some o) (hK : Sum.elim (hd_Mo_beginDarks_10_L36 V l Γ rF wF) (ps_Mo_beginDarks_10_L36 V l Γ rF wF) o) : hd_Mo_beginDarks_10_L36 V l Γ rF wF q := by
  unfold Mo_beginDarks_10_L36 at h
  unfold hd_Mo_beginDarks_10_L36
  refine g_iload_n (pc := 36) dX4_beginDarks_36 rfl ?_
  refine g_aload_n (pc := 37) dX4_beginDarks_37 rfl ?_
  refine g_iconst (v := 1) (pc := 38) dX4_beginDarks_38 (by decide) ?_
  refine v_callVi hV (Mc := mX5_many) (v := Nt_many 1 q.2) (S1 := q.2) (As := [.int 1]) (rest := [.int q.1]) (q := (RX5, TX5, 3)) (pc := 39) dX4_beginDarks_39 mK_X4_50 mf_X5_many rfl k0_10 rfl rfl rfl (Nat.le_of_ble_eq_true rfl) ⟨Nat.le_of_ble_eq_true rfl, Nat.le_of_ble_eq_true rfl⟩ (r_Nt_many hV rfl) ?_
  refine g_icmp_ge (tgt := 82) (pc := 42) dX4_beginDarks_42 (by decide) (fun c8 => ?_) (fun c8 => ?_)
  · rw [if_pos c8] at h
    refine g_wk [false, false, false, false] rfl ?_
    cases h
    exact hK
  · rw [if_neg c8] at h
    refine g_aload_n (pc := 45) dX4_beginDarks_45 rfl ?_
    refine g_iconst (v := 1) (pc := 46) dX4_beginDarks_46 (by decide) ?_
    refine g_iload_n (pc := 47) dX4_beginDarks_47 rfl ?_
    refine g_iconst (v := 2) (pc := 48) dX4_beginDarks_48 (by decide) ?_
    refine v_callVi hV (Mc := mX5_item) (v := Nt_item 1 q.1 2 q.2) (S1 := q.2) (As := [.int 1, .int q.1, .int 2]) (rest := []) (q := (RX5, TX5, 3)) (pc := 49) dX4_beginDarks_49 mK_X4_54 mf_X5_item rfl k0_10 rfl rfl rfl (Nat.le_of_ble_eq_true rfl) ⟨Nat.le_of_ble_eq_true rfl, Nat.le_of_ble_eq_true rfl⟩ (r_Nt_item hV rfl) ?_
    refine g_istore_n (ls1 := [some (.ref 25), some (.ref 10), some (.int q.1), some (.int (Nt_item 1 q.1 2 q.2))]) (pc := 52) dX4_beginDarks_52 (by decide) rfl ?_
    refine g_aload_n (pc := 53) dX4_beginDarks_53 rfl ?_
    refine v_getR hV (pc := 54) dX4_beginDarks_54 fo_4_1 rfl k0_25 r0_25_1 ?_
    refine g_aload_n (pc := 57) dX4_beginDarks_57 rfl ?_
    refine g_iload_n (pc := 58) dX4_beginDarks_58 rfl ?_
    refine v_callVi hV (Mc := mX5_darkOfTunnel) (v := Nt_darkOfTunnel q.1 q.2) (S1 := q.2) (As := [.int q.1]) (rest := [.ref 27]) (q := (RX5, TX5, 3)) (pc := 59) dX4_beginDarks_59 mK_X4_73 mf_X5_darkOfTunnel rfl k0_10 rfl rfl rfl (Nat.le_of_ble_eq_true rfl) ⟨Nat.le_of_ble_eq_true rfl, Nat.le_of_ble_eq_true rfl⟩ (r_Nt_darkOfTunnel hV rfl) ?_
    refine g_iload_n (pc := 62) dX4_beginDarks_62 rfl ?_
    refine g_bipush (v := 8) (pc := 63) dX4_beginDarks_63 (by decide) ?_
    refine g_icmp_ne (tgt := 72) (pc := 65) dX4_beginDarks_65 (by decide) (fun c7 => ?_) (fun c7 => ?_)
    · rw [if_neg c7] at h
      refine g_iload_n (pc := 72) dX4_beginDarks_72 rfl ?_
      refine g_wk [true, true, true, false] rfl ?_
      exact t_Mo_beginDarks_10_73_L36 hV h hK
    · rw [if_pos c7] at h
      refine g_iconst (v := (-1)) (pc := 68) dX4_beginDarks_68 (by decide) ?_
      refine g_goto (tgt := 73) (pc := 69) dX4_beginDarks_69 (by decide) ?_
      refine g_wk [true, true, true, false] rfl ?_
      exact t_Mo_beginDarks_10_73_L36 hV h hK
set_option maxRecDepth 4000 in
theorem w_Mo_beginDarks_10_L36 {V : Sm → Wd} (hV : VwC V) {l : Launch} {Γ : Gm} {rF : Option Value} {wF : Wd}  {k : Nat} {q : Int32 × Sm} {o : Sm} (h : lpN (Mo_beginDarks_10_L36) k q = some o) (hP : ps_Mo_beginDarks_10_L36 V l Γ rF wF o) : hd_Mo_beginDarks_10_L36 V l Γ rF wF q := lpN_ind2 (hd_Mo_beginDarks_10_L36 V l Γ rF wF) (ps_Mo_beginDarks_10_L36 V l Γ rF wF) (fun s o h hK => t_Mo_beginDarks_10_L36 hV h hK) k q o h hP
def Mo_beginDarks_10 (S : Sm) : Option (Sm) := ((lpN (Mo_beginDarks_10_L2) FU (0, S)).bind fun q5 => ((lpN (Mo_beginDarks_10_L36) FU (0, q5)).bind fun q9 => (some q9)))
set_option maxRecDepth 4000 in
theorem r_Mo_beginDarks_10 {V : Sm → Wd} (hV : VwC V)  {S : Sm} {q : Sm} (h : Mo_beginDarks_10 S = some q) : Runs 3 mX4_beginDarks [.ref 25, .ref 10] (V S) none (V q) 0 0 := by
  unfold Mo_beginDarks_10 at h
  refine Runs.of2 [some (.ref 25), some (.ref 10), none, none] 2 rfl rfl (Nat.le_of_ble_eq_true rfl) (fun l Γ => ?_)
  refine g_iconst (v := 0) (pc := 0) dX4_beginDarks_0 (by decide) ?_
  refine g_istore_n (ls1 := [some (.ref 25), some (.ref 10), some (.int 0), none]) (pc := 1) dX4_beginDarks_1 (by decide) rfl ?_
  obtain ⟨q5, hqq5, h⟩ := bnd h
  refine w_Mo_beginDarks_10_L2 hV hqq5 ?_
  unfold ps_Mo_beginDarks_10_L2
  show G _ _ _ _ _ _ _ _ _ _ _
  refine g_iconst (v := 0) (pc := 34) dX4_beginDarks_34 (by decide) ?_
  refine g_istore_n (ls1 := [some (.ref 25), some (.ref 10), some (.int 0), none]) (pc := 35) dX4_beginDarks_35 (by decide) rfl ?_
  obtain ⟨q9, hqq9, h⟩ := bnd h
  refine w_Mo_beginDarks_10_L36 hV hqq9 ?_
  unfold ps_Mo_beginDarks_10_L36
  show G _ _ _ _ _ _ _ _ _ _ _
  cases h
  exact g_vret (pc := 82) dX4_beginDarks_82 rfl (Nat.le_refl _) (Nat.le_refl _)
def Mo_setTrain (v1 : Int32) (v2 : Int32) (v3 : Int32) (S : Sm) : Sm := (app (puF S 26 56 ((v1 * 7) + v2) v3) fun S1 => S1)
set_option maxRecDepth 4000 in
theorem r_Mo_setTrain {V : Sm → Wd} (hV : VwC V) {v1 : Int32} {v2 : Int32} {v3 : Int32} {S : Sm} {q : Sm} (h : Mo_setTrain v1 v2 v3 S = q) : Runs 1 mX4_setTrain [.ref 25, .int v1, .int v2, .int v3] (V S) none (V q) 0 0 := by
  unfold Mo_setTrain at h
  refine Runs.of2 [some (.ref 25), some (.int v1), some (.int v2), some (.int v3)] 0 rfl rfl (Nat.le_of_ble_eq_true rfl) (fun l Γ => ?_)
  refine g_aload_n (pc := 0) dX4_setTrain_0 rfl ?_
  refine v_getR hV (pc := 1) dX4_setTrain_1 fo_4_0 rfl k0_25 r0_25_0 ?_
  refine g_iload_n (pc := 4) dX4_setTrain_4 rfl ?_
  refine g_bipush (v := 7) (pc := 5) dX4_setTrain_5 (by decide) ?_
  refine g_imul (pc := 7) dX4_setTrain_7 ?_
  refine g_iload_n (pc := 8) dX4_setTrain_8 rfl ?_
  refine g_iadd (pc := 9) dX4_setTrain_9 ?_
  refine g_iload_n (pc := 10) dX4_setTrain_10 rfl ?_
  obtain ⟨S1, hS1, h⟩ := app_of h
  refine v_callNv (Mc := mX11_put) (S1 := S1) (As := [.ref 26, .int ((v1 * 7) + v2), .int v3]) (rest := []) (pc := 11) dX4_setTrain_11 nl_X4_62 mf_X11_put rfl rfl (Nat.le_of_ble_eq_true rfl) ⟨Nat.le_of_ble_eq_true rfl, Nat.le_of_ble_eq_true rfl⟩ (r_put hV k0_26 own_26 (by decide) hS1) ?_
  subst h
  exact g_vret (pc := 14) dX4_setTrain_14 rfl (Nat.le_refl _) (Nat.le_refl _)
def Mo_addTrain (v1 : Int32) (v2 : Int32) (v3 : Int32) (v4 : Int32) (S : Sm) : Int32 × Sm := (app (Mo_setTrain (gi S 25 4) 0 v1 (si S 25 4 ((gi S 25 4) + 1))) fun q1 => (app (Mo_setTrain (gi S 25 4) 1 v2 q1) fun q2 => (app (Mo_setTrain (gi S 25 4) 2 ((gi q2 25 5) + v3) q2) fun q3 => (app (Mo_setTrain (gi S 25 4) 3 ((gi q3 25 5) + v3) q3) fun q4 => (app (Mo_setTrain (gi S 25 4) 4 v4 q4) fun q5 => (app (Mo_setTrain (gi S 25 4) 5 0 q5) fun q6 => (app (Mo_setTrain (gi S 25 4) 6 0 q6) fun q7 => ((gi S 25 4, q7)))))))))
set_option maxRecDepth 4000 in
theorem r_Mo_addTrain {V : Sm → Wd} (hV : VwC V) {v1 : Int32} {v2 : Int32} {v3 : Int32} {v4 : Int32} {S : Sm} {q : Int32 × Sm} (h : Mo_addTrain v1 v2 v3 v4 S = q) : Runs 2 mX4_addTrain [.ref 25, .int v1, .int v2, .int v3, .int v4] (V S) (some (.int q.1)) (V q.2) 0 0 := by
  unfold Mo_addTrain at h
  refine Runs.of2 [some (.ref 25), some (.int v1), some (.int v2), some (.int v3), some (.int v4), none] 1 rfl rfl (Nat.le_of_ble_eq_true rfl) (fun l Γ => ?_)
  refine g_aload_n (pc := 0) dX4_addTrain_0 rfl ?_
  refine v_getI hV (pc := 1) dX4_addTrain_1 fo_4_4 rfl k0_25 own_25 ?_
  refine g_istore (ls1 := [some (.ref 25), some (.int v1), some (.int v2), some (.int v3), some (.int v4), some (.int (gi S 25 4))]) (pc := 4) dX4_addTrain_4 (by decide) rfl ?_
  refine g_aload_n (pc := 6) dX4_addTrain_6 rfl ?_
  refine g_dup (pc := 7) dX4_addTrain_7 rfl ?_
  refine v_getI hV (pc := 8) dX4_addTrain_8 fo_4_4 rfl k0_25 own_25 ?_
  refine g_iconst (v := 1) (pc := 11) dX4_addTrain_11 (by decide) ?_
  refine g_iadd (pc := 12) dX4_addTrain_12 ?_
  refine v_putI hV (pc := 13) dX4_addTrain_13 fo_4_4 rfl k0_25 own_25 rfl ?_
  refine g_aload_n (pc := 16) dX4_addTrain_16 rfl ?_
  refine g_iload (pc := 17) dX4_addTrain_17 rfl ?_
  refine g_iconst (v := 0) (pc := 19) dX4_addTrain_19 (by decide) ?_
  refine g_iload_n (pc := 20) dX4_addTrain_20 rfl ?_
  obtain ⟨q1, hq1, h⟩ := app_of h
  refine v_callVv hV (Mc := mX4_setTrain) (S1 := q1) (As := [.int (gi S 25 4), .int 0, .int v1]) (rest := []) (q := (RX4, TX4, 8)) (pc := 21) dX4_addTrain_21 mK_X4_80 mf_X4_setTrain rfl k0_25 rfl rfl rfl (Nat.le_of_ble_eq_true rfl) ⟨Nat.le_of_ble_eq_true rfl, Nat.le_of_ble_eq_true rfl⟩ (r_Mo_setTrain hV hq1) ?_
  refine g_aload_n (pc := 24) dX4_addTrain_24 rfl ?_
  refine g_iload (pc := 25) dX4_addTrain_25 rfl ?_
  refine g_iconst (v := 1) (pc := 27) dX4_addTrain_27 (by decide) ?_
  refine g_iload_n (pc := 28) dX4_addTrain_28 rfl ?_
  obtain ⟨q2, hq2, h⟩ := app_of h
  refine v_callVv hV (Mc := mX4_setTrain) (S1 := q2) (As := [.int (gi S 25 4), .int 1, .int v2]) (rest := []) (q := (RX4, TX4, 8)) (pc := 29) dX4_addTrain_29 mK_X4_80 mf_X4_setTrain rfl k0_25 rfl rfl rfl (Nat.le_of_ble_eq_true rfl) ⟨Nat.le_of_ble_eq_true rfl, Nat.le_of_ble_eq_true rfl⟩ (r_Mo_setTrain hV hq2) ?_
  refine g_aload_n (pc := 32) dX4_addTrain_32 rfl ?_
  refine g_iload (pc := 33) dX4_addTrain_33 rfl ?_
  refine g_iconst (v := 2) (pc := 35) dX4_addTrain_35 (by decide) ?_
  refine g_aload_n (pc := 36) dX4_addTrain_36 rfl ?_
  refine v_getI hV (pc := 37) dX4_addTrain_37 fo_4_5 rfl k0_25 own_25 ?_
  refine g_iload_n (pc := 40) dX4_addTrain_40 rfl ?_
  refine g_iadd (pc := 41) dX4_addTrain_41 ?_
  obtain ⟨q3, hq3, h⟩ := app_of h
  refine v_callVv hV (Mc := mX4_setTrain) (S1 := q3) (As := [.int (gi S 25 4), .int 2, .int ((gi q2 25 5) + v3)]) (rest := []) (q := (RX4, TX4, 8)) (pc := 42) dX4_addTrain_42 mK_X4_80 mf_X4_setTrain rfl k0_25 rfl rfl rfl (Nat.le_of_ble_eq_true rfl) ⟨Nat.le_of_ble_eq_true rfl, Nat.le_of_ble_eq_true rfl⟩ (r_Mo_setTrain hV hq3) ?_
  refine g_aload_n (pc := 45) dX4_addTrain_45 rfl ?_
  refine g_iload (pc := 46) dX4_addTrain_46 rfl ?_
  refine g_iconst (v := 3) (pc := 48) dX4_addTrain_48 (by decide) ?_
  refine g_aload_n (pc := 49) dX4_addTrain_49 rfl ?_
  refine v_getI hV (pc := 50) dX4_addTrain_50 fo_4_5 rfl k0_25 own_25 ?_
  refine g_iload_n (pc := 53) dX4_addTrain_53 rfl ?_
  refine g_iadd (pc := 54) dX4_addTrain_54 ?_
  obtain ⟨q4, hq4, h⟩ := app_of h
  refine v_callVv hV (Mc := mX4_setTrain) (S1 := q4) (As := [.int (gi S 25 4), .int 3, .int ((gi q3 25 5) + v3)]) (rest := []) (q := (RX4, TX4, 8)) (pc := 55) dX4_addTrain_55 mK_X4_80 mf_X4_setTrain rfl k0_25 rfl rfl rfl (Nat.le_of_ble_eq_true rfl) ⟨Nat.le_of_ble_eq_true rfl, Nat.le_of_ble_eq_true rfl⟩ (r_Mo_setTrain hV hq4) ?_
  refine g_aload_n (pc := 58) dX4_addTrain_58 rfl ?_
  refine g_iload (pc := 59) dX4_addTrain_59 rfl ?_
  refine g_iconst (v := 4) (pc := 61) dX4_addTrain_61 (by decide) ?_
  refine g_iload (pc := 62) dX4_addTrain_62 rfl ?_
  obtain ⟨q5, hq5, h⟩ := app_of h
  refine v_callVv hV (Mc := mX4_setTrain) (S1 := q5) (As := [.int (gi S 25 4), .int 4, .int v4]) (rest := []) (q := (RX4, TX4, 8)) (pc := 64) dX4_addTrain_64 mK_X4_80 mf_X4_setTrain rfl k0_25 rfl rfl rfl (Nat.le_of_ble_eq_true rfl) ⟨Nat.le_of_ble_eq_true rfl, Nat.le_of_ble_eq_true rfl⟩ (r_Mo_setTrain hV hq5) ?_
  refine g_aload_n (pc := 67) dX4_addTrain_67 rfl ?_
  refine g_iload (pc := 68) dX4_addTrain_68 rfl ?_
  refine g_iconst (v := 5) (pc := 70) dX4_addTrain_70 (by decide) ?_
  refine g_iconst (v := 0) (pc := 71) dX4_addTrain_71 (by decide) ?_
  obtain ⟨q6, hq6, h⟩ := app_of h
  refine v_callVv hV (Mc := mX4_setTrain) (S1 := q6) (As := [.int (gi S 25 4), .int 5, .int 0]) (rest := []) (q := (RX4, TX4, 8)) (pc := 72) dX4_addTrain_72 mK_X4_80 mf_X4_setTrain rfl k0_25 rfl rfl rfl (Nat.le_of_ble_eq_true rfl) ⟨Nat.le_of_ble_eq_true rfl, Nat.le_of_ble_eq_true rfl⟩ (r_Mo_setTrain hV hq6) ?_
  refine g_aload_n (pc := 75) dX4_addTrain_75 rfl ?_
  refine g_iload (pc := 76) dX4_addTrain_76 rfl ?_
  refine g_bipush (v := 6) (pc := 78) dX4_addTrain_78 (by decide) ?_
  refine g_iconst (v := 0) (pc := 80) dX4_addTrain_80 (by decide) ?_
  obtain ⟨q7, hq7, h⟩ := app_of h
  refine v_callVv hV (Mc := mX4_setTrain) (S1 := q7) (As := [.int (gi S 25 4), .int 6, .int 0]) (rest := []) (q := (RX4, TX4, 8)) (pc := 81) dX4_addTrain_81 mK_X4_80 mf_X4_setTrain rfl k0_25 rfl rfl rfl (Nat.le_of_ble_eq_true rfl) ⟨Nat.le_of_ble_eq_true rfl, Nat.le_of_ble_eq_true rfl⟩ (r_Mo_setTrain hV hq7) ?_
  refine g_iload (pc := 84) dX4_addTrain_84 rfl ?_
  subst h
  exact g_iret (pc := 86) dX4_addTrain_86 rfl rfl (Nat.le_refl _) (Nat.le_refl _)
def Mo_guardsAt (v1 : Int32) (S : Sm) : Int32 := (atF (gi S 28) 8 v1)
set_option maxRecDepth 4000 in
theorem r_Mo_guardsAt {V : Sm → Wd} (hV : VwC V) {v1 : Int32} {S : Sm} {q : Int32} (h : Mo_guardsAt v1 S = q) : Runs 1 mX4_guardsAt [.ref 25, .int v1] (V S) (some (.int q)) (V S) 0 0 := by
  unfold Mo_guardsAt at h
  refine Runs.of2 [some (.ref 25), some (.int v1)] 0 rfl rfl (Nat.le_of_ble_eq_true rfl) (fun l Γ => ?_)
  refine g_aload_n (pc := 0) dX4_guardsAt_0 rfl ?_
  refine v_getR hV (pc := 1) dX4_guardsAt_1 fo_4_2 rfl k0_25 r0_25_2 ?_
  refine g_iload_n (pc := 4) dX4_guardsAt_4 rfl ?_
  refine v_callNi (Mc := mX11_at) (v := atF (gi S 28) 8 v1) (S1 := S) (As := [.ref 28, .int v1]) (rest := []) (pc := 5) dX4_guardsAt_5 nl_X4_76 mf_X11_at rfl rfl (Nat.le_of_ble_eq_true rfl) ⟨Nat.le_of_ble_eq_true rfl, Nat.le_of_ble_eq_true rfl⟩ (r_at hV k0_28 own_28 (by decide)) ?_
  subst h
  exact g_iret (pc := 8) dX4_guardsAt_8 rfl rfl (Nat.le_refl _) (Nat.le_refl _)
def hd_Mo_begin_10_L30 (V : Sm → Wd) (l : Launch) (Γ : Gm) (rF : Option Value) (wF : Wd)  (q : Int32 × Sm) : Prop := G mX4_begin l Γ (rmD 4 0 0) (mQ Γ rF wF 0 0) 0 0 30 [some (.ref 25), some (.ref 10), some (.int q.1), none] [] (V q.2)
def ps_Mo_begin_10_L30 (V : Sm → Wd) (l : Launch) (Γ : Gm) (rF : Option Value) (wF : Wd)  (x : Sm) : Prop := (fun (a : Sm) => G mX4_begin l Γ (rmD 4 0 0) (mQ Γ rF wF 0 0) 0 0 78 [some (.ref 25), some (.ref 10), none, none] [] (V a)) x
def Mo_begin_10_L30 (q : Int32 × Sm) : Option ((Int32 × Sm) ⊕ (Sm)) := (if (Nt_many 2 q.2) ≤ q.1 then (some (.inr q.2)) else (app (Mo_addTrain (Nt_item 2 q.1 0 q.2) (Nt_item 2 q.1 1 q.2) (Nt_item 2 q.1 2 q.2) (Nt_item 2 q.1 3 q.2) q.2) fun q2 => (some (.inl (q.1 + 1, q2.2)))))
set_option maxRecDepth 4000 in
theorem t_Mo_begin_10_L30 {V : Sm → Wd} (hV : VwC V) {l : Launch} {Γ : Gm} {rF : Option Value} {wF : Wd}  {q : Int32 × Sm} {o : (Int32 × Sm) ⊕ (Sm)} (h : Mo_begin_10_L30 q = some o) (hK : Sum.elim (hd_Mo_begin_10_L30 V l Γ rF wF) (ps_Mo_begin_10_L30 V l Γ rF wF) o) : hd_Mo_begin_10_L30 V l Γ rF wF q := by
  unfold Mo_begin_10_L30 at h
  unfold hd_Mo_begin_10_L30
  refine g_iload_n (pc := 30) dX4_begin_30 rfl ?_
  refine g_aload_n (pc := 31) dX4_begin_31 rfl ?_
  refine g_iconst (v := 2) (pc := 32) dX4_begin_32 (by decide) ?_
  refine v_callVi hV (Mc := mX5_many) (v := Nt_many 2 q.2) (S1 := q.2) (As := [.int 2]) (rest := [.int q.1]) (q := (RX5, TX5, 3)) (pc := 33) dX4_begin_33 mK_X4_50 mf_X5_many rfl k0_10 rfl rfl rfl (Nat.le_of_ble_eq_true rfl) ⟨Nat.le_of_ble_eq_true rfl, Nat.le_of_ble_eq_true rfl⟩ (r_Nt_many hV rfl) ?_
  refine g_icmp_ge (tgt := 78) (pc := 36) dX4_begin_36 (by decide) (fun c3 => ?_) (fun c3 => ?_)
  · rw [if_pos c3] at h
    refine g_wk [true, true, false, false] rfl ?_
    cases h
    exact hK
  · rw [if_neg c3] at h
    refine g_aload_n (pc := 39) dX4_begin_39 rfl ?_
    refine g_aload_n (pc := 40) dX4_begin_40 rfl ?_
    refine g_iconst (v := 2) (pc := 41) dX4_begin_41 (by decide) ?_
    refine g_iload_n (pc := 42) dX4_begin_42 rfl ?_
    refine g_iconst (v := 0) (pc := 43) dX4_begin_43 (by decide) ?_
    refine v_callVi hV (Mc := mX5_item) (v := Nt_item 2 q.1 0 q.2) (S1 := q.2) (As := [.int 2, .int q.1, .int 0]) (rest := [.ref 25]) (q := (RX5, TX5, 3)) (pc := 44) dX4_begin_44 mK_X4_54 mf_X5_item rfl k0_10 rfl rfl rfl (Nat.le_of_ble_eq_true rfl) ⟨Nat.le_of_ble_eq_true rfl, Nat.le_of_ble_eq_true rfl⟩ (r_Nt_item hV rfl) ?_
    refine g_aload_n (pc := 47) dX4_begin_47 rfl ?_
    refine g_iconst (v := 2) (pc := 48) dX4_begin_48 (by decide) ?_
    refine g_iload_n (pc := 49) dX4_begin_49 rfl ?_
    refine g_iconst (v := 1) (pc := 50) dX4_begin_50 (by decide) ?_
    refine v_callVi hV (Mc := mX5_item) (v := Nt_item 2 q.1 1 q.2) (S1 := q.2) (As := [.int 2, .int q.1, .int 1]) (rest := [.int (Nt_item 2 q.1 0 q.2), .ref 25]) (q := (RX5, TX5, 3)) (pc := 51) dX4_begin_51 mK_X4_54 mf_X5_item rfl k0_10 rfl rfl rfl (Nat.le_of_ble_eq_true rfl) ⟨Nat.le_of_ble_eq_true rfl, Nat.le_of_ble_eq_true rfl⟩ (r_Nt_item hV rfl) ?_
    refine g_aload_n (pc := 54) dX4_begin_54 rfl ?_
    refine g_iconst (v := 2) (pc := 55) dX4_begin_55 (by decide) ?_
    refine g_iload_n (pc := 56) dX4_begin_56 rfl ?_
    refine g_iconst (v := 2) (pc := 57) dX4_begin_57 (by decide) ?_
    refine v_callVi hV (Mc := mX5_item) (v := Nt_item 2 q.1 2 q.2) (S1 := q.2) (As := [.int 2, .int q.1, .int 2]) (rest := [.int (Nt_item 2 q.1 1 q.2), .int (Nt_item 2 q.1 0 q.2), .ref 25]) (q := (RX5, TX5, 3)) (pc := 58) dX4_begin_58 mK_X4_54 mf_X5_item rfl k0_10 rfl rfl rfl (Nat.le_of_ble_eq_true rfl) ⟨Nat.le_of_ble_eq_true rfl, Nat.le_of_ble_eq_true rfl⟩ (r_Nt_item hV rfl) ?_
    refine g_aload_n (pc := 61) dX4_begin_61 rfl ?_
    refine g_iconst (v := 2) (pc := 62) dX4_begin_62 (by decide) ?_
    refine g_iload_n (pc := 63) dX4_begin_63 rfl ?_
    refine g_iconst (v := 3) (pc := 64) dX4_begin_64 (by decide) ?_
    refine v_callVi hV (Mc := mX5_item) (v := Nt_item 2 q.1 3 q.2) (S1 := q.2) (As := [.int 2, .int q.1, .int 3]) (rest := [.int (Nt_item 2 q.1 2 q.2), .int (Nt_item 2 q.1 1 q.2), .int (Nt_item 2 q.1 0 q.2), .ref 25]) (q := (RX5, TX5, 3)) (pc := 65) dX4_begin_65 mK_X4_54 mf_X5_item rfl k0_10 rfl rfl rfl (Nat.le_of_ble_eq_true rfl) ⟨Nat.le_of_ble_eq_true rfl, Nat.le_of_ble_eq_true rfl⟩ (r_Nt_item hV rfl) ?_
    obtain ⟨q2, hq2, h⟩ := app_of h
    refine v_callVi hV (Mc := mX4_addTrain) (v := q2.1) (S1 := q2.2) (As := [.int (Nt_item 2 q.1 0 q.2), .int (Nt_item 2 q.1 1 q.2), .int (Nt_item 2 q.1 2 q.2), .int (Nt_item 2 q.1 3 q.2)]) (rest := []) (q := (RX4, TX4, 8)) (pc := 68) dX4_begin_68 mK_X4_58 mf_X4_addTrain rfl k0_25 rfl rfl rfl (Nat.le_of_ble_eq_true rfl) ⟨Nat.le_of_ble_eq_true rfl, Nat.le_of_ble_eq_true rfl⟩ (r_Mo_addTrain hV hq2) ?_
    refine g_pop (pc := 71) dX4_begin_71 rfl ?_
    refine g_iinc (v := q.1 + 1) (ls1 := [some (.ref 25), some (.ref 10), some (.int (q.1 + 1)), none]) (pc := 72) dX4_begin_72 rfl rfl (by decide) rfl ?_
    refine g_goto (tgt := 30) (pc := 75) dX4_begin_75 (by decide) ?_
    cases h
    exact hK
set_option maxRecDepth 4000 in
theorem w_Mo_begin_10_L30 {V : Sm → Wd} (hV : VwC V) {l : Launch} {Γ : Gm} {rF : Option Value} {wF : Wd}  {k : Nat} {q : Int32 × Sm} {o : Sm} (h : lpN (Mo_begin_10_L30) k q = some o) (hP : ps_Mo_begin_10_L30 V l Γ rF wF o) : hd_Mo_begin_10_L30 V l Γ rF wF q := lpN_ind2 (hd_Mo_begin_10_L30 V l Γ rF wF) (ps_Mo_begin_10_L30 V l Γ rF wF) (fun s o h hK => t_Mo_begin_10_L30 hV h hK) k q o h hP
def hd_Mo_begin_10_L80 (V : Sm → Wd) (l : Launch) (Γ : Gm) (rF : Option Value) (wF : Wd)  (q : Int32 × Sm) : Prop := G mX4_begin l Γ (rmD 4 0 0) (mQ Γ rF wF 0 0) 0 0 80 [some (.ref 25), some (.ref 10), some (.int q.1), none] [] (V q.2)
def ps_Mo_begin_10_L80 (V : Sm → Wd) (l : Launch) (Γ : Gm) (rF : Option Value) (wF : Wd)  (x : Sm) : Prop := (fun (a : Sm) => G mX4_begin l Γ (rmD 4 0 0) (mQ Γ rF wF 0 0) 0 0 101 [some (.ref 25), some (.ref 10), none, none] [] (V a)) x
def Mo_begin_10_L80 (q : Int32 × Sm) : Option ((Int32 × Sm) ⊕ (Sm)) := (if (8 : Int32) ≤ q.1 then (some (.inr q.2)) else (app (puF q.2 28 8 q.1 0) fun S5 => (some (.inl (q.1 + 1, S5)))))
set_option maxRecDepth 4000 in
theorem t_Mo_begin_10_L80 {V : Sm → Wd} (hV : VwC V) {l : Launch} {Γ : Gm} {rF : Option Value} {wF : Wd}  {q : Int32 × Sm} {o : (Int32 × Sm) ⊕ (Sm)} (h : Mo_begin_10_L80 q = some o) (hK : Sum.elim (hd_Mo_begin_10_L80 V l Γ rF wF) (ps_Mo_begin_10_L80 V l Γ rF wF) o) : hd_Mo_begin_10_L80 V l Γ rF wF q := by
  unfold Mo_begin_10_L80 at h
  unfold hd_Mo_begin_10_L80
  refine g_iload_n (pc := 80) dX4_begin_80 rfl ?_
  refine g_bipush (v := 8) (pc := 81) dX4_begin_81 (by decide) ?_
  refine g_icmp_ge (tgt := 101) (pc := 83) dX4_begin_83 (by decide) (fun c6 => ?_) (fun c6 => ?_)
  · rw [if_pos c6] at h
    refine g_wk [true, true, false, false] rfl ?_
    cases h
    exact hK
  · rw [if_neg c6] at h
    refine g_aload_n (pc := 86) dX4_begin_86 rfl ?_
    refine v_getR hV (pc := 87) dX4_begin_87 fo_4_2 rfl k0_25 r0_25_2 ?_
    refine g_iload_n (pc := 90) dX4_begin_90 rfl ?_
    refine g_iconst (v := 0) (pc := 91) dX4_begin_91 (by decide) ?_
    obtain ⟨S5, hS5, h⟩ := app_of h
    refine v_callNv (Mc := mX11_put) (S1 := S5) (As := [.ref 28, .int q.1, .int 0]) (rest := []) (pc := 92) dX4_begin_92 nl_X4_62 mf_X11_put rfl rfl (Nat.le_of_ble_eq_true rfl) ⟨Nat.le_of_ble_eq_true rfl, Nat.le_of_ble_eq_true rfl⟩ (r_put hV k0_28 own_28 (by decide) hS5) ?_
    refine g_iinc (v := q.1 + 1) (ls1 := [some (.ref 25), some (.ref 10), some (.int (q.1 + 1)), none]) (pc := 95) dX4_begin_95 rfl rfl (by decide) rfl ?_
    refine g_goto (tgt := 80) (pc := 98) dX4_begin_98 (by decide) ?_
    cases h
    exact hK
set_option maxRecDepth 4000 in
theorem w_Mo_begin_10_L80 {V : Sm → Wd} (hV : VwC V) {l : Launch} {Γ : Gm} {rF : Option Value} {wF : Wd}  {k : Nat} {q : Int32 × Sm} {o : Sm} (h : lpN (Mo_begin_10_L80) k q = some o) (hP : ps_Mo_begin_10_L80 V l Γ rF wF o) : hd_Mo_begin_10_L80 V l Γ rF wF q := lpN_ind2 (hd_Mo_begin_10_L80 V l Γ rF wF) (ps_Mo_begin_10_L80 V l Γ rF wF) (fun s o h hK => t_Mo_begin_10_L80 hV h hK) k q o h hP
def hd_Mo_begin_10_L103 (V : Sm → Wd) (l : Launch) (Γ : Gm) (rF : Option Value) (wF : Wd)  (q : Int32 × Sm) : Prop := G mX4_begin l Γ (rmD 4 0 0) (mQ Γ rF wF 0 0) 0 0 103 [some (.ref 25), some (.ref 10), some (.int q.1), none] [] (V q.2)
def ps_Mo_begin_10_L103 (V : Sm → Wd) (l : Launch) (Γ : Gm) (rF : Option Value) (wF : Wd)  (x : Sm) : Prop := (fun (a : Sm) => G mX4_begin l Γ (rmD 4 0 0) (mQ Γ rF wF 0 0) 0 0 141 [none, none, none, none] [] (V a)) x
def Mo_begin_10_L103 (q : Int32 × Sm) : Option ((Int32 × Sm) ⊕ (Sm)) := (if (Nt_many 3 q.2) ≤ q.1 then (some (.inr q.2)) else (app (puF q.2 28 8 (Nt_item 3 q.1 0 q.2) ((Mo_guardsAt (Nt_item 3 q.1 0 q.2) q.2) + 1)) fun S8 => (some (.inl (q.1 + 1, S8)))))
set_option maxRecDepth 4000 in
theorem t_Mo_begin_10_L103 {V : Sm → Wd} (hV : VwC V) {l : Launch} {Γ : Gm} {rF : Option Value} {wF : Wd}  {q : Int32 × Sm} {o : (Int32 × Sm) ⊕ (Sm)} (h : Mo_begin_10_L103 q = some o) (hK : Sum.elim (hd_Mo_begin_10_L103 V l Γ rF wF) (ps_Mo_begin_10_L103 V l Γ rF wF) o) : hd_Mo_begin_10_L103 V l Γ rF wF q := by
  unfold Mo_begin_10_L103 at h
  unfold hd_Mo_begin_10_L103
  refine g_iload_n (pc := 103) dX4_begin_103 rfl ?_
  refine g_aload_n (pc := 104) dX4_begin_104 rfl ?_
  refine g_iconst (v := 3) (pc := 105) dX4_begin_105 (by decide) ?_
  refine v_callVi hV (Mc := mX5_many) (v := Nt_many 3 q.2) (S1 := q.2) (As := [.int 3]) (rest := [.int q.1]) (q := (RX5, TX5, 3)) (pc := 106) dX4_begin_106 mK_X4_50 mf_X5_many rfl k0_10 rfl rfl rfl (Nat.le_of_ble_eq_true rfl) ⟨Nat.le_of_ble_eq_true rfl, Nat.le_of_ble_eq_true rfl⟩ (r_Nt_many hV rfl) ?_
  refine g_icmp_ge (tgt := 141) (pc := 109) dX4_begin_109 (by decide) (fun c9 => ?_) (fun c9 => ?_)
  · rw [if_pos c9] at h
    refine g_wk [false, false, false, false] rfl ?_
    cases h
    exact hK
  · rw [if_neg c9] at h
    refine g_aload_n (pc := 112) dX4_begin_112 rfl ?_
    refine g_iconst (v := 3) (pc := 113) dX4_begin_113 (by decide) ?_
    refine g_iload_n (pc := 114) dX4_begin_114 rfl ?_
    refine g_iconst (v := 0) (pc := 115) dX4_begin_115 (by decide) ?_
    refine v_callVi hV (Mc := mX5_item) (v := Nt_item 3 q.1 0 q.2) (S1 := q.2) (As := [.int 3, .int q.1, .int 0]) (rest := []) (q := (RX5, TX5, 3)) (pc := 116) dX4_begin_116 mK_X4_54 mf_X5_item rfl k0_10 rfl rfl rfl (Nat.le_of_ble_eq_true rfl) ⟨Nat.le_of_ble_eq_true rfl, Nat.le_of_ble_eq_true rfl⟩ (r_Nt_item hV rfl) ?_
    refine g_istore_n (ls1 := [some (.ref 25), some (.ref 10), some (.int q.1), some (.int (Nt_item 3 q.1 0 q.2))]) (pc := 119) dX4_begin_119 (by decide) rfl ?_
    refine g_aload_n (pc := 120) dX4_begin_120 rfl ?_
    refine v_getR hV (pc := 121) dX4_begin_121 fo_4_2 rfl k0_25 r0_25_2 ?_
    refine g_iload_n (pc := 124) dX4_begin_124 rfl ?_
    refine g_aload_n (pc := 125) dX4_begin_125 rfl ?_
    refine g_iload_n (pc := 126) dX4_begin_126 rfl ?_
    refine v_callVi hV (Mc := mX4_guardsAt) (v := Mo_guardsAt (Nt_item 3 q.1 0 q.2) q.2) (S1 := q.2) (As := [.int (Nt_item 3 q.1 0 q.2)]) (rest := [.int (Nt_item 3 q.1 0 q.2), .ref 28]) (q := (RX4, TX4, 8)) (pc := 127) dX4_begin_127 mK_X4_66 mf_X4_guardsAt rfl k0_25 rfl rfl rfl (Nat.le_of_ble_eq_true rfl) ⟨Nat.le_of_ble_eq_true rfl, Nat.le_of_ble_eq_true rfl⟩ (r_Mo_guardsAt hV rfl) ?_
    refine g_iconst (v := 1) (pc := 130) dX4_begin_130 (by decide) ?_
    refine g_iadd (pc := 131) dX4_begin_131 ?_
    obtain ⟨S8, hS8, h⟩ := app_of h
    refine v_callNv (Mc := mX11_put) (S1 := S8) (As := [.ref 28, .int (Nt_item 3 q.1 0 q.2), .int ((Mo_guardsAt (Nt_item 3 q.1 0 q.2) q.2) + 1)]) (rest := []) (pc := 132) dX4_begin_132 nl_X4_62 mf_X11_put rfl rfl (Nat.le_of_ble_eq_true rfl) ⟨Nat.le_of_ble_eq_true rfl, Nat.le_of_ble_eq_true rfl⟩ (r_put hV k0_28 own_28 (by decide) hS8) ?_
    refine g_iinc (v := q.1 + 1) (ls1 := [some (.ref 25), some (.ref 10), some (.int (q.1 + 1)), some (.int (Nt_item 3 q.1 0 q.2))]) (pc := 135) dX4_begin_135 rfl rfl (by decide) rfl ?_
    refine g_goto (tgt := 103) (pc := 138) dX4_begin_138 (by decide) ?_
    refine g_wk [true, true, true, false] rfl ?_
    cases h
    exact hK
set_option maxRecDepth 4000 in
theorem w_Mo_begin_10_L103 {V : Sm → Wd} (hV : VwC V) {l : Launch} {Γ : Gm} {rF : Option Value} {wF : Wd}  {k : Nat} {q : Int32 × Sm} {o : Sm} (h : lpN (Mo_begin_10_L103) k q = some o) (hP : ps_Mo_begin_10_L103 V l Γ rF wF o) : hd_Mo_begin_10_L103 V l Γ rF wF q := lpN_ind2 (hd_Mo_begin_10_L103 V l Γ rF wF) (ps_Mo_begin_10_L103 V l Γ rF wF) (fun s o h hK => t_Mo_begin_10_L103 hV h hK) k q o h hP
def Mo_begin_10 (S : Sm) : Option (Sm) := ((Mo_beginDarks_10 (si (si (si (si S 25 4 0) 25 5 (Nt_hour (si S 25 4 0))) 25 6 0) 25 7 0)).bind fun q1 => ((lpN (Mo_begin_10_L30) FU (0, q1)).bind fun q4 => ((lpN (Mo_begin_10_L80) FU (0, q4)).bind fun q7 => ((lpN (Mo_begin_10_L103) FU (0, q7)).bind fun q10 => (some q10)))))
set_option maxRecDepth 4000 in
theorem r_Mo_begin_10 {V : Sm → Wd} (hV : VwC V)  {S : Sm} {q : Sm} (h : Mo_begin_10 S = some q) : Runs 4 mX4_begin [.ref 25, .ref 10] (V S) none (V q) 0 0 := by
  unfold Mo_begin_10 at h
  refine Runs.of2 [some (.ref 25), some (.ref 10), none, none] 2 rfl rfl (Nat.le_of_ble_eq_true rfl) (fun l Γ => ?_)
  refine g_aload_n (pc := 0) dX4_begin_0 rfl ?_
  refine g_iconst (v := 0) (pc := 1) dX4_begin_1 (by decide) ?_
  refine v_putI hV (pc := 2) dX4_begin_2 fo_4_4 rfl k0_25 own_25 rfl ?_
  refine g_aload_n (pc := 5) dX4_begin_5 rfl ?_
  refine g_aload_n (pc := 6) dX4_begin_6 rfl ?_
  refine v_callVi hV (Mc := mX5_hour) (v := Nt_hour (si S 25 4 0)) (S1 := si S 25 4 0) (As := []) (rest := [.ref 25]) (q := (RX5, TX5, 3)) (pc := 7) dX4_begin_7 mK_X4_41 mf_X5_hour rfl k0_10 rfl rfl rfl (Nat.le_of_ble_eq_true rfl) ⟨Nat.le_of_ble_eq_true rfl, Nat.le_of_ble_eq_true rfl⟩ (r_Nt_hour hV rfl) ?_
  refine v_putI hV (pc := 10) dX4_begin_10 fo_4_5 rfl k0_25 own_25 rfl ?_
  refine g_aload_n (pc := 13) dX4_begin_13 rfl ?_
  refine g_iconst (v := 0) (pc := 14) dX4_begin_14 (by decide) ?_
  refine v_putI hV (pc := 15) dX4_begin_15 fo_4_6 rfl k0_25 own_25 rfl ?_
  refine g_aload_n (pc := 18) dX4_begin_18 rfl ?_
  refine g_iconst (v := 0) (pc := 19) dX4_begin_19 (by decide) ?_
  refine v_putI hV (pc := 20) dX4_begin_20 fo_4_7 rfl k0_25 own_25 rfl ?_
  refine g_aload_n (pc := 23) dX4_begin_23 rfl ?_
  refine g_aload_n (pc := 24) dX4_begin_24 rfl ?_
  obtain ⟨q1, hq1, h⟩ := bnd h
  refine v_callVv hV (Mc := mX4_beginDarks) (S1 := q1) (As := [.ref 10]) (rest := []) (q := (RX4, TX4, 8)) (pc := 25) dX4_begin_25 mK_X4_46 mf_X4_beginDarks rfl k0_25 rfl rfl rfl (Nat.le_of_ble_eq_true rfl) ⟨Nat.le_of_ble_eq_true rfl, Nat.le_of_ble_eq_true rfl⟩ (r_Mo_beginDarks_10 hV hq1) ?_
  refine g_iconst (v := 0) (pc := 28) dX4_begin_28 (by decide) ?_
  refine g_istore_n (ls1 := [some (.ref 25), some (.ref 10), some (.int 0), none]) (pc := 29) dX4_begin_29 (by decide) rfl ?_
  obtain ⟨q4, hqq4, h⟩ := bnd h
  refine w_Mo_begin_10_L30 hV hqq4 ?_
  unfold ps_Mo_begin_10_L30
  show G _ _ _ _ _ _ _ _ _ _ _
  refine g_iconst (v := 0) (pc := 78) dX4_begin_78 (by decide) ?_
  refine g_istore_n (ls1 := [some (.ref 25), some (.ref 10), some (.int 0), none]) (pc := 79) dX4_begin_79 (by decide) rfl ?_
  obtain ⟨q7, hqq7, h⟩ := bnd h
  refine w_Mo_begin_10_L80 hV hqq7 ?_
  unfold ps_Mo_begin_10_L80
  show G _ _ _ _ _ _ _ _ _ _ _
  refine g_iconst (v := 0) (pc := 101) dX4_begin_101 (by decide) ?_
  refine g_istore_n (ls1 := [some (.ref 25), some (.ref 10), some (.int 0), none]) (pc := 102) dX4_begin_102 (by decide) rfl ?_
  obtain ⟨q10, hqq10, h⟩ := bnd h
  refine w_Mo_begin_10_L103 hV hqq10 ?_
  unfold ps_Mo_begin_10_L103
  show G _ _ _ _ _ _ _ _ _ _ _
  cases h
  exact g_vret (pc := 141) dX4_begin_141 rfl (Nat.le_refl _) (Nat.le_refl _)
def Ac_forget (S : Sm) : Sm := (si (si S 30 4 0) 30 3 0)
set_option maxRecDepth 4000 in
theorem r_Ac_forget {V : Sm → Wd} (hV : VwC V)  {S : Sm} {q : Sm} (h : Ac_forget S = q) : Runs 0 mX0_forget [.ref 30] (V S) none (V q) 0 0 := by
  unfold Ac_forget at h
  refine Runs.of2 [some (.ref 30)] 0 rfl rfl (Nat.le_of_ble_eq_true rfl) (fun l Γ => ?_)
  refine g_aload_n (pc := 0) dX0_forget_0 rfl ?_
  refine g_iconst (v := 0) (pc := 1) dX0_forget_1 (by decide) ?_
  refine v_putI hV (pc := 2) dX0_forget_2 fo_0_4 rfl k0_30 own_30 rfl ?_
  refine g_aload_n (pc := 5) dX0_forget_5 rfl ?_
  refine g_iconst (v := 0) (pc := 6) dX0_forget_6 (by decide) ?_
  refine v_putZ hV (pc := 7) dX0_forget_7 fo_0_3 rfl (by decide) k0_30 own_30 rfl ?_
  subst h
  exact g_vret (pc := 10) dX0_forget_10 rfl (Nat.le_refl _) (Nat.le_refl _)
def Sg_forget (S : Sm) : Sm := (si S 42 6 0)
set_option maxRecDepth 4000 in
theorem r_Sg_forget {V : Sm → Wd} (hV : VwC V)  {S : Sm} {q : Sm} (h : Sg_forget S = q) : Runs 0 mX8_forget [.ref 42] (V S) none (V q) 0 0 := by
  unfold Sg_forget at h
  refine Runs.of2 [some (.ref 42)] 0 rfl rfl (Nat.le_of_ble_eq_true rfl) (fun l Γ => ?_)
  refine g_aload_n (pc := 0) dX8_forget_0 rfl ?_
  refine g_iconst (v := 0) (pc := 1) dX8_forget_1 (by decide) ?_
  refine v_putI hV (pc := 2) dX8_forget_2 fo_8_6 rfl k0_42 own_42 rfl ?_
  subst h
  exact g_vret (pc := 5) dX8_forget_5 rfl (Nat.le_refl _) (Nat.le_refl _)
def Nt_mouths (S : Sm) : Int32 := (atF (gi S 11) 116 0)
set_option maxRecDepth 4000 in
theorem r_Nt_mouths {V : Sm → Wd} (hV : VwC V)  {S : Sm} {q : Int32} (h : Nt_mouths S = q) : Runs 1 mX5_mouths [.ref 10] (V S) (some (.int q)) (V S) 0 0 := by
  unfold Nt_mouths at h
  refine Runs.of2 [some (.ref 10)] 0 rfl rfl (Nat.le_of_ble_eq_true rfl) (fun l Γ => ?_)
  refine g_aload_n (pc := 0) dX5_mouths_0 rfl ?_
  refine v_getR hV (pc := 1) dX5_mouths_1 fo_5_0 rfl k0_10 r0_10_0 ?_
  refine g_iconst (v := 0) (pc := 4) dX5_mouths_4 (by decide) ?_
  refine v_callNi (Mc := mX11_at) (v := atF (gi S 11) 116 0) (S1 := S) (As := [.ref 11, .int 0]) (rest := []) (pc := 5) dX5_mouths_5 nl_X5_24 mf_X11_at rfl rfl (Nat.le_of_ble_eq_true rfl) ⟨Nat.le_of_ble_eq_true rfl, Nat.le_of_ble_eq_true rfl⟩ (r_at hV k0_11 own_11 (by decide)) ?_
  subst h
  exact g_iret (pc := 8) dX5_mouths_8 rfl rfl (Nat.le_refl _) (Nat.le_refl _)
def Dk_text_111 (S : Sm) : Option (Int32 × Sm) := (some (((-1), S)))
set_option maxRecDepth 4000 in
theorem t_Dk_text_111 {V : Sm → Wd} (hV : VwC V) {l : Launch} {Γ : Gm}  {S : Sm} {q : Int32 × Sm} (h : Dk_text_111 S = some q) : G mX11_text l Γ (rmD 87 0 0) (mQ Γ (some (.int q.1)) (V q.2) 0 0) 0 0 111 [none, none] [] (V S) := by
  unfold Dk_text_111 at h
  refine g_iconst (v := (-1)) (pc := 111) dX11_text_111 (by decide) ?_
  cases h
  exact g_iret (pc := 112) dX11_text_112 rfl rfl (Nat.le_refl _) (Nat.le_refl _)
def Dk_text_68 (v1 : Int32) (S : Sm) : Option (Int32 × Sm) := (if v1 = 1 then (if (La_areFull S) = 0 then ((Lr_firstFault S).bind fun q1 => (if q1.1 = ((-1)) then (app (Tp_cut 0 q1.2) fun q2 => (app (La_keepDraft q2.2) fun q3 => (some ((q3.1, q3.2))))) else (Dk_text_111 q1.2))) else (Dk_text_111 S)) else (Dk_text_111 S))
set_option maxRecDepth 4000 in
theorem t_Dk_text_68 {V : Sm → Wd} (hV : VwC V) {l : Launch} {Γ : Gm} {v1 : Int32} {S : Sm} {q : Int32 × Sm} (h : Dk_text_68 v1 S = some q) : G mX11_text l Γ (rmD 87 0 0) (mQ Γ (some (.int q.1)) (V q.2) 0 0) 0 0 68 [some (.ref 7), some (.int v1)] [] (V S) := by
  unfold Dk_text_68 at h
  refine g_iload_n (pc := 68) dX11_text_68 rfl ?_
  refine g_iconst (v := 1) (pc := 69) dX11_text_69 (by decide) ?_
  refine g_icmp_ne (tgt := 111) (pc := 70) dX11_text_70 (by decide) (fun c6 => ?_) (fun c6 => ?_)
  · rw [if_neg c6] at h
    refine g_wk [false, false] rfl ?_
    exact t_Dk_text_111 hV h
  · rw [if_pos c6] at h
    refine g_aload_n (pc := 73) dX11_text_73 rfl ?_
    refine v_getR hV (pc := 74) dX11_text_74 fo_11_4 rfl k0_7 r0_7_4 ?_
    refine v_callVi hV (Mc := mX3_areFull) (v := La_areFull S) (S1 := S) (As := []) (rest := []) (q := (RX3, TX3, 6)) (pc := 77) dX11_text_77 mK_X11_133 mf_X3_areFull rfl k0_20 rfl rfl rfl (Nat.le_of_ble_eq_true rfl) ⟨Nat.le_of_ble_eq_true rfl, Nat.le_of_ble_eq_true rfl⟩ (r_La_areFull hV rfl) ?_
    refine g_if_ne (tgt := 111) (pc := 80) dX11_text_80 (by decide) (fun c5 => ?_) (fun c5 => ?_)
    · rw [if_neg c5] at h
      refine g_wk [false, false] rfl ?_
      exact t_Dk_text_111 hV h
    · rw [if_pos c5] at h
      refine g_aload_n (pc := 83) dX11_text_83 rfl ?_
      refine v_getR hV (pc := 84) dX11_text_84 fo_11_5 rfl k0_7 r0_7_5 ?_
      obtain ⟨q1, hq1, h⟩ := bnd h
      refine v_callVi hV (Mc := mX2_firstFault) (v := q1.1) (S1 := q1.2) (As := []) (rest := []) (q := (RX2, TX2, 2)) (pc := 87) dX11_text_87 mK_X11_118 mf_X2_firstFault rfl k0_24 rfl rfl rfl (Nat.le_of_ble_eq_true rfl) ⟨Nat.le_of_ble_eq_true rfl, Nat.le_of_ble_eq_true rfl⟩ (r_Lr_firstFault hV hq1) ?_
      refine g_iconst (v := (-1)) (pc := 90) dX11_text_90 (by decide) ?_
      refine g_icmp_ne (tgt := 111) (pc := 91) dX11_text_91 (by decide) (fun c4 => ?_) (fun c4 => ?_)
      · rw [if_neg c4] at h
        refine g_wk [false, false] rfl ?_
        exact t_Dk_text_111 hV h
      · rw [if_pos c4] at h
        refine g_aload_n (pc := 94) dX11_text_94 rfl ?_
        refine v_getR hV (pc := 95) dX11_text_95 fo_11_0 rfl k0_7 r0_7_0 ?_
        refine g_iconst (v := 0) (pc := 98) dX11_text_98 (by decide) ?_
        obtain ⟨q2, hq2, h⟩ := app_of h
        refine v_callVi hV (Mc := mX9_cut) (v := q2.1) (S1 := q2.2) (As := [.int 0]) (rest := []) (q := (RX9, TX9, 4)) (pc := 99) dX11_text_99 mK_X11_111 mf_X9_cut rfl k0_8 rfl rfl rfl (Nat.le_of_ble_eq_true rfl) ⟨Nat.le_of_ble_eq_true rfl, Nat.le_of_ble_eq_true rfl⟩ (r_Tp_cut hV hq2) ?_
        refine g_pop (pc := 102) dX11_text_102 rfl ?_
        refine g_aload_n (pc := 103) dX11_text_103 rfl ?_
        refine v_getR hV (pc := 104) dX11_text_104 fo_11_4 rfl k0_7 r0_7_4 ?_
        obtain ⟨q3, hq3, h⟩ := app_of h
        refine v_callVi hV (Mc := mX3_keepDraft) (v := q3.1) (S1 := q3.2) (As := []) (rest := []) (q := (RX3, TX3, 6)) (pc := 107) dX11_text_107 mK_X11_137 mf_X3_keepDraft rfl k0_20 rfl rfl rfl (Nat.le_of_ble_eq_true rfl) ⟨Nat.le_of_ble_eq_true rfl, Nat.le_of_ble_eq_true rfl⟩ (r_La_keepDraft hV hq3) ?_
        cases h
        exact g_iret (pc := 110) dX11_text_110 rfl rfl (Nat.le_refl _) (Nat.le_refl _)
def Dk_text (v1 : Int32) (S : Sm) : Option (Int32 × Sm) := (if v1 = 0 then ((Nr_firstFault S).bind fun q7 => (if q7.1 = ((-1)) then (app (Tp_cut 0 q7.2) fun q8 => ((Nt_become_14 q8.2).bind fun q9 => ((Mo_begin_10 q9).bind fun q10 => (app (Ac_forget q10) fun q11 => (app (Sg_forget q11) fun q12 => (some ((Nt_mouths q12, q12)))))))) else (Dk_text_68 v1 q7.2))) else (Dk_text_68 v1 S))
set_option maxRecDepth 4000 in
theorem r_Dk_text {V : Sm → Wd} (hV : VwC V) {v1 : Int32} {S : Sm} {q : Int32 × Sm} (h : Dk_text v1 S = some q) : Runs 87 mX11_text [.ref 7, .int v1] (V S) (some (.int q.1)) (V q.2) 0 0 := by
  unfold Dk_text at h
  refine Runs.of2 [some (.ref 7), some (.int v1)] 0 rfl rfl (Nat.le_of_ble_eq_true rfl) (fun l Γ => ?_)
  refine g_iload_n (pc := 0) dX11_text_0 rfl ?_
  refine g_if_ne (tgt := 68) (pc := 1) dX11_text_1 (by decide) (fun c14 => ?_) (fun c14 => ?_)
  · rw [if_neg c14] at h
    exact t_Dk_text_68 hV h
  · rw [if_pos c14] at h
    refine g_aload_n (pc := 4) dX11_text_4 rfl ?_
    refine v_getR hV (pc := 5) dX11_text_5 fo_11_3 rfl k0_7 r0_7_3 ?_
    obtain ⟨q7, hq7, h⟩ := bnd h
    refine v_callVi hV (Mc := mX6_firstFault) (v := q7.1) (S1 := q7.2) (As := []) (rest := []) (q := (RX6, TX6, 3)) (pc := 8) dX11_text_8 mK_X11_115 mf_X6_firstFault rfl k0_18 rfl rfl rfl (Nat.le_of_ble_eq_true rfl) ⟨Nat.le_of_ble_eq_true rfl, Nat.le_of_ble_eq_true rfl⟩ (r_Nr_firstFault hV hq7) ?_
    refine g_iconst (v := (-1)) (pc := 11) dX11_text_11 (by decide) ?_
    refine g_icmp_ne (tgt := 68) (pc := 12) dX11_text_12 (by decide) (fun c13 => ?_) (fun c13 => ?_)
    · rw [if_neg c13] at h
      exact t_Dk_text_68 hV h
    · rw [if_pos c13] at h
      refine g_aload_n (pc := 15) dX11_text_15 rfl ?_
      refine v_getR hV (pc := 16) dX11_text_16 fo_11_0 rfl k0_7 r0_7_0 ?_
      refine g_iconst (v := 0) (pc := 19) dX11_text_19 (by decide) ?_
      obtain ⟨q8, hq8, h⟩ := app_of h
      refine v_callVi hV (Mc := mX9_cut) (v := q8.1) (S1 := q8.2) (As := [.int 0]) (rest := []) (q := (RX9, TX9, 4)) (pc := 20) dX11_text_20 mK_X11_111 mf_X9_cut rfl k0_8 rfl rfl rfl (Nat.le_of_ble_eq_true rfl) ⟨Nat.le_of_ble_eq_true rfl, Nat.le_of_ble_eq_true rfl⟩ (r_Tp_cut hV hq8) ?_
      refine g_pop (pc := 23) dX11_text_23 rfl ?_
      refine g_aload_n (pc := 24) dX11_text_24 rfl ?_
      refine v_getR hV (pc := 25) dX11_text_25 fo_11_1 rfl k0_7 r0_7_1 ?_
      refine g_aload_n (pc := 28) dX11_text_28 rfl ?_
      refine v_getR hV (pc := 29) dX11_text_29 fo_11_2 rfl k0_7 r0_7_2 ?_
      obtain ⟨q9, hq9, h⟩ := bnd h
      refine v_callVv hV (Mc := mX5_become) (S1 := q9) (As := [.ref 14]) (rest := []) (q := (RX5, TX5, 3)) (pc := 32) dX11_text_32 mK_X11_119 mf_X5_become rfl k0_10 rfl rfl rfl (Nat.le_of_ble_eq_true rfl) ⟨Nat.le_of_ble_eq_true rfl, Nat.le_of_ble_eq_true rfl⟩ (r_Nt_become_14 hV hq9) ?_
      refine g_aload_n (pc := 35) dX11_text_35 rfl ?_
      refine v_getR hV (pc := 36) dX11_text_36 fo_11_6 rfl k0_7 r0_7_6 ?_
      refine g_aload_n (pc := 39) dX11_text_39 rfl ?_
      refine v_getR hV (pc := 40) dX11_text_40 fo_11_1 rfl k0_7 r0_7_1 ?_
      obtain ⟨q10, hq10, h⟩ := bnd h
      refine v_callVv hV (Mc := mX4_begin) (S1 := q10) (As := [.ref 10]) (rest := []) (q := (RX4, TX4, 8)) (pc := 43) dX11_text_43 mK_X11_123 mf_X4_begin rfl k0_25 rfl rfl rfl (Nat.le_of_ble_eq_true rfl) ⟨Nat.le_of_ble_eq_true rfl, Nat.le_of_ble_eq_true rfl⟩ (r_Mo_begin_10 hV hq10) ?_
      refine g_aload_n (pc := 46) dX11_text_46 rfl ?_
      refine v_getR hV (pc := 47) dX11_text_47 fo_11_7 rfl k0_7 r0_7_7 ?_
      obtain ⟨q11, hq11, h⟩ := app_of h
      refine v_callVv hV (Mc := mX0_forget) (S1 := q11) (As := []) (rest := []) (q := (RX0, TX0, 6)) (pc := 50) dX11_text_50 mK_X11_126 mf_X0_forget rfl k0_30 rfl rfl rfl (Nat.le_of_ble_eq_true rfl) ⟨Nat.le_of_ble_eq_true rfl, Nat.le_of_ble_eq_true rfl⟩ (r_Ac_forget hV hq11) ?_
      refine g_aload_n (pc := 53) dX11_text_53 rfl ?_
      refine v_getR hV (pc := 54) dX11_text_54 fo_11_10 rfl k0_7 r0_7_10 ?_
      obtain ⟨q12, hq12, h⟩ := app_of h
      refine v_callVv hV (Mc := mX8_forget) (S1 := q12) (As := []) (rest := []) (q := (RX8, TX8, 8)) (pc := 57) dX11_text_57 mK_X11_129 mf_X8_forget rfl k0_42 rfl rfl rfl (Nat.le_of_ble_eq_true rfl) ⟨Nat.le_of_ble_eq_true rfl, Nat.le_of_ble_eq_true rfl⟩ (r_Sg_forget hV hq12) ?_
      refine g_aload_n (pc := 60) dX11_text_60 rfl ?_
      refine v_getR hV (pc := 61) dX11_text_61 fo_11_1 rfl k0_7 r0_7_1 ?_
      refine v_callVi hV (Mc := mX5_mouths) (v := Nt_mouths q12) (S1 := q12) (As := []) (rest := []) (q := (RX5, TX5, 3)) (pc := 64) dX11_text_64 mK_X11_130 mf_X5_mouths rfl k0_10 rfl rfl rfl (Nat.le_of_ble_eq_true rfl) ⟨Nat.le_of_ble_eq_true rfl, Nat.le_of_ble_eq_true rfl⟩ (r_Nt_mouths hV rfl) ?_
      cases h
      exact g_iret (pc := 67) dX11_text_67 rfl rfl (Nat.le_refl _) (Nat.le_refl _)
def Nt_hasMouth_17 (s0 : Int32) (S : Sm) : Int32 := (s0 &&& 1)
set_option maxRecDepth 4000 in
theorem t_Nt_hasMouth_17 {V : Sm → Wd} (hV : VwC V) {l : Launch} {Γ : Gm} {s0 : Int32} {S : Sm} {q : Int32} (h : Nt_hasMouth_17 s0 S = q) : G mX5_hasMouth l Γ (rmD 2 0 0) (mQ Γ (some (.int q)) (V S) 0 0) 0 0 17 [none, none] [.int s0] (V S) := by
  unfold Nt_hasMouth_17 at h
  subst h
  exact g_iret (pc := 17) dX5_hasMouth_17 rfl rfl (Nat.le_refl _) (Nat.le_refl _)
def Nt_hasMouth_16 (S : Sm) : Int32 := (Nt_hasMouth_17 0 S)
set_option maxRecDepth 4000 in
theorem t_Nt_hasMouth_16 {V : Sm → Wd} (hV : VwC V) {l : Launch} {Γ : Gm}  {S : Sm} {q : Int32} (h : Nt_hasMouth_16 S = q) : G mX5_hasMouth l Γ (rmD 2 0 0) (mQ Γ (some (.int q)) (V S) 0 0) 0 0 16 [none, none] [] (V S) := by
  unfold Nt_hasMouth_16 at h
  refine g_iconst (v := 0) (pc := 16) dX5_hasMouth_16 (by decide) ?_
  exact t_Nt_hasMouth_17 hV h
def Nt_hasMouth (v1 : Int32) (S : Sm) : Int32 := (if v1 < 0 then (Nt_hasMouth_16 S) else (if (Nt_mouths S) ≤ v1 then (Nt_hasMouth_16 S) else (Nt_hasMouth_17 1 S)))
set_option maxRecDepth 4000 in
theorem r_Nt_hasMouth {V : Sm → Wd} (hV : VwC V) {v1 : Int32} {S : Sm} {q : Int32} (h : Nt_hasMouth v1 S = q) : Runs 2 mX5_hasMouth [.ref 10, .int v1] (V S) (some (.int q)) (V S) 0 0 := by
  unfold Nt_hasMouth at h
  refine Runs.of2 [some (.ref 10), some (.int v1)] 0 rfl rfl (Nat.le_of_ble_eq_true rfl) (fun l Γ => ?_)
  refine g_iload_n (pc := 0) dX5_hasMouth_0 rfl ?_
  refine g_if_lt (tgt := 16) (pc := 1) dX5_hasMouth_1 (by decide) (fun c2 => ?_) (fun c2 => ?_)
  · rw [if_pos c2] at h
    refine g_wk [false, false] rfl ?_
    exact t_Nt_hasMouth_16 hV h
  · rw [if_neg c2] at h
    refine g_iload_n (pc := 4) dX5_hasMouth_4 rfl ?_
    refine g_aload_n (pc := 5) dX5_hasMouth_5 rfl ?_
    refine v_callVi hV (Mc := mX5_mouths) (v := Nt_mouths S) (S1 := S) (As := []) (rest := [.int v1]) (q := (RX5, TX5, 3)) (pc := 6) dX5_hasMouth_6 mK_X5_46 mf_X5_mouths rfl k0_10 rfl rfl rfl (Nat.le_of_ble_eq_true rfl) ⟨Nat.le_of_ble_eq_true rfl, Nat.le_of_ble_eq_true rfl⟩ (r_Nt_mouths hV rfl) ?_
    refine g_icmp_ge (tgt := 16) (pc := 9) dX5_hasMouth_9 (by decide) (fun c1 => ?_) (fun c1 => ?_)
    · rw [if_pos c1] at h
      refine g_wk [false, false] rfl ?_
      exact t_Nt_hasMouth_16 hV h
    · rw [if_neg c1] at h
      refine g_iconst (v := 1) (pc := 12) dX5_hasMouth_12 (by decide) ?_
      refine g_goto (tgt := 17) (pc := 13) dX5_hasMouth_13 (by decide) ?_
      refine g_wk [false, false] rfl ?_
      exact t_Nt_hasMouth_17 hV h
def Nt_colours (S : Sm) : Int32 := (atF (gi S 11) 116 1)
set_option maxRecDepth 4000 in
theorem r_Nt_colours {V : Sm → Wd} (hV : VwC V)  {S : Sm} {q : Int32} (h : Nt_colours S = q) : Runs 1 mX5_colours [.ref 10] (V S) (some (.int q)) (V S) 0 0 := by
  unfold Nt_colours at h
  refine Runs.of2 [some (.ref 10)] 0 rfl rfl (Nat.le_of_ble_eq_true rfl) (fun l Γ => ?_)
  refine g_aload_n (pc := 0) dX5_colours_0 rfl ?_
  refine v_getR hV (pc := 1) dX5_colours_1 fo_5_0 rfl k0_10 r0_10_0 ?_
  refine g_iconst (v := 1) (pc := 4) dX5_colours_4 (by decide) ?_
  refine v_callNi (Mc := mX11_at) (v := atF (gi S 11) 116 1) (S1 := S) (As := [.ref 11, .int 1]) (rest := []) (pc := 5) dX5_colours_5 nl_X5_24 mf_X11_at rfl rfl (Nat.le_of_ble_eq_true rfl) ⟨Nat.le_of_ble_eq_true rfl, Nat.le_of_ble_eq_true rfl⟩ (r_at hV k0_11 own_11 (by decide)) ?_
  subst h
  exact g_iret (pc := 8) dX5_colours_8 rfl rfl (Nat.le_refl _) (Nat.le_refl _)
def Nt_hasColour_17 (s0 : Int32) (S : Sm) : Int32 := (s0 &&& 1)
set_option maxRecDepth 4000 in
theorem t_Nt_hasColour_17 {V : Sm → Wd} (hV : VwC V) {l : Launch} {Γ : Gm} {s0 : Int32} {S : Sm} {q : Int32} (h : Nt_hasColour_17 s0 S = q) : G mX5_hasColour l Γ (rmD 2 0 0) (mQ Γ (some (.int q)) (V S) 0 0) 0 0 17 [none, none] [.int s0] (V S) := by
  unfold Nt_hasColour_17 at h
  subst h
  exact g_iret (pc := 17) dX5_hasColour_17 rfl rfl (Nat.le_refl _) (Nat.le_refl _)
def Nt_hasColour_16 (S : Sm) : Int32 := (Nt_hasColour_17 0 S)
set_option maxRecDepth 4000 in
theorem t_Nt_hasColour_16 {V : Sm → Wd} (hV : VwC V) {l : Launch} {Γ : Gm}  {S : Sm} {q : Int32} (h : Nt_hasColour_16 S = q) : G mX5_hasColour l Γ (rmD 2 0 0) (mQ Γ (some (.int q)) (V S) 0 0) 0 0 16 [none, none] [] (V S) := by
  unfold Nt_hasColour_16 at h
  refine g_iconst (v := 0) (pc := 16) dX5_hasColour_16 (by decide) ?_
  exact t_Nt_hasColour_17 hV h
def Nt_hasColour (v1 : Int32) (S : Sm) : Int32 := (if v1 < 0 then (Nt_hasColour_16 S) else (if (Nt_colours S) ≤ v1 then (Nt_hasColour_16 S) else (Nt_hasColour_17 1 S)))
set_option maxRecDepth 4000 in
theorem r_Nt_hasColour {V : Sm → Wd} (hV : VwC V) {v1 : Int32} {S : Sm} {q : Int32} (h : Nt_hasColour v1 S = q) : Runs 2 mX5_hasColour [.ref 10, .int v1] (V S) (some (.int q)) (V S) 0 0 := by
  unfold Nt_hasColour at h
  refine Runs.of2 [some (.ref 10), some (.int v1)] 0 rfl rfl (Nat.le_of_ble_eq_true rfl) (fun l Γ => ?_)
  refine g_iload_n (pc := 0) dX5_hasColour_0 rfl ?_
  refine g_if_lt (tgt := 16) (pc := 1) dX5_hasColour_1 (by decide) (fun c2 => ?_) (fun c2 => ?_)
  · rw [if_pos c2] at h
    refine g_wk [false, false] rfl ?_
    exact t_Nt_hasColour_16 hV h
  · rw [if_neg c2] at h
    refine g_iload_n (pc := 4) dX5_hasColour_4 rfl ?_
    refine g_aload_n (pc := 5) dX5_hasColour_5 rfl ?_
    refine v_callVi hV (Mc := mX5_colours) (v := Nt_colours S) (S1 := S) (As := []) (rest := [.int v1]) (q := (RX5, TX5, 3)) (pc := 6) dX5_hasColour_6 mK_X5_50 mf_X5_colours rfl k0_10 rfl rfl rfl (Nat.le_of_ble_eq_true rfl) ⟨Nat.le_of_ble_eq_true rfl, Nat.le_of_ble_eq_true rfl⟩ (r_Nt_colours hV rfl) ?_
    refine g_icmp_ge (tgt := 16) (pc := 9) dX5_hasColour_9 (by decide) (fun c1 => ?_) (fun c1 => ?_)
    · rw [if_pos c1] at h
      refine g_wk [false, false] rfl ?_
      exact t_Nt_hasColour_16 hV h
    · rw [if_neg c1] at h
      refine g_iconst (v := 1) (pc := 12) dX5_hasColour_12 (by decide) ?_
      refine g_goto (tgt := 17) (pc := 13) dX5_hasColour_13 (by decide) ?_
      refine g_wk [false, false] rfl ?_
      exact t_Nt_hasColour_17 hV h
def Nt_hasLamp_18 (s0 : Int32) (S : Sm) : Int32 := (s0 &&& 1)
set_option maxRecDepth 4000 in
theorem t_Nt_hasLamp_18 {V : Sm → Wd} (hV : VwC V) {l : Launch} {Γ : Gm} {s0 : Int32} {S : Sm} {q : Int32} (h : Nt_hasLamp_18 s0 S = q) : G mX5_hasLamp l Γ (rmD 3 0 0) (mQ Γ (some (.int q)) (V S) 0 0) 0 0 18 [none, none] [.int s0] (V S) := by
  unfold Nt_hasLamp_18 at h
  subst h
  exact g_iret (pc := 18) dX5_hasLamp_18 rfl rfl (Nat.le_refl _) (Nat.le_refl _)
def Nt_hasLamp_13 (S : Sm) : Int32 := (Nt_hasLamp_18 1 S)
set_option maxRecDepth 4000 in
theorem t_Nt_hasLamp_13 {V : Sm → Wd} (hV : VwC V) {l : Launch} {Γ : Gm}  {S : Sm} {q : Int32} (h : Nt_hasLamp_13 S = q) : G mX5_hasLamp l Γ (rmD 3 0 0) (mQ Γ (some (.int q)) (V S) 0 0) 0 0 13 [none, none] [] (V S) := by
  unfold Nt_hasLamp_13 at h
  refine g_iconst (v := 1) (pc := 13) dX5_hasLamp_13 (by decide) ?_
  refine g_goto (tgt := 18) (pc := 14) dX5_hasLamp_14 (by decide) ?_
  exact t_Nt_hasLamp_18 hV h
def Nt_hasLamp (v1 : Int32) (S : Sm) : Int32 := (if v1 = 5 then (Nt_hasLamp_13 S) else (if (Nt_hasColour v1 S) = 0 then (Nt_hasLamp_18 0 S) else (Nt_hasLamp_13 S)))
set_option maxRecDepth 4000 in
theorem r_Nt_hasLamp {V : Sm → Wd} (hV : VwC V) {v1 : Int32} {S : Sm} {q : Int32} (h : Nt_hasLamp v1 S = q) : Runs 3 mX5_hasLamp [.ref 10, .int v1] (V S) (some (.int q)) (V S) 0 0 := by
  unfold Nt_hasLamp at h
  refine Runs.of2 [some (.ref 10), some (.int v1)] 0 rfl rfl (Nat.le_of_ble_eq_true rfl) (fun l Γ => ?_)
  refine g_iload_n (pc := 0) dX5_hasLamp_0 rfl ?_
  refine g_iconst (v := 5) (pc := 1) dX5_hasLamp_1 (by decide) ?_
  refine g_icmp_eq (tgt := 13) (pc := 2) dX5_hasLamp_2 (by decide) (fun c2 => ?_) (fun c2 => ?_)
  · rw [if_pos c2] at h
    refine g_wk [false, false] rfl ?_
    exact t_Nt_hasLamp_13 hV h
  · rw [if_neg c2] at h
    refine g_aload_n (pc := 5) dX5_hasLamp_5 rfl ?_
    refine g_iload_n (pc := 6) dX5_hasLamp_6 rfl ?_
    refine v_callVi hV (Mc := mX5_hasColour) (v := Nt_hasColour v1 S) (S1 := S) (As := [.int v1]) (rest := []) (q := (RX5, TX5, 3)) (pc := 7) dX5_hasLamp_7 mK_X5_53 mf_X5_hasColour rfl k0_10 rfl rfl rfl (Nat.le_of_ble_eq_true rfl) ⟨Nat.le_of_ble_eq_true rfl, Nat.le_of_ble_eq_true rfl⟩ (r_Nt_hasColour hV rfl) ?_
    refine g_if_eq (tgt := 17) (pc := 10) dX5_hasLamp_10 (by decide) (fun c1 => ?_) (fun c1 => ?_)
    · rw [if_pos c1] at h
      refine g_iconst (v := 0) (pc := 17) dX5_hasLamp_17 (by decide) ?_
      refine g_wk [false, false] rfl ?_
      exact t_Nt_hasLamp_18 hV h
    · rw [if_neg c1] at h
      refine g_wk [false, false] rfl ?_
      exact t_Nt_hasLamp_13 hV h
def Mo_leads (v1 : Int32) (v2 : Int32) (S : Sm) : Int32 := (atF (gi S 27) 40 (Dk_darkOf v1 v2))
set_option maxRecDepth 4000 in
theorem r_Mo_leads {V : Sm → Wd} (hV : VwC V) {v1 : Int32} {v2 : Int32} {S : Sm} {q : Int32} (h : Mo_leads v1 v2 S = q) : Runs 1 mX4_leads [.ref 25, .int v1, .int v2] (V S) (some (.int q)) (V S) 0 0 := by
  unfold Mo_leads at h
  refine Runs.of2 [some (.ref 25), some (.int v1), some (.int v2)] 0 rfl rfl (Nat.le_of_ble_eq_true rfl) (fun l Γ => ?_)
  refine g_aload_n (pc := 0) dX4_leads_0 rfl ?_
  refine v_getR hV (pc := 1) dX4_leads_1 fo_4_1 rfl k0_25 r0_25_1 ?_
  refine g_iload_n (pc := 4) dX4_leads_4 rfl ?_
  refine g_iload_n (pc := 5) dX4_leads_5 rfl ?_
  refine v_callNi (Mc := mX11_darkOf) (v := Dk_darkOf v1 v2) (S1 := S) (As := [.int v1, .int v2]) (rest := [.ref 27]) (pc := 6) dX4_leads_6 nl_X4_87 mf_X11_darkOf rfl rfl (Nat.le_of_ble_eq_true rfl) ⟨Nat.le_of_ble_eq_true rfl, Nat.le_of_ble_eq_true rfl⟩ (r_Dk_darkOf hV rfl) ?_
  refine v_callNi (Mc := mX11_at) (v := atF (gi S 27) 40 (Dk_darkOf v1 v2)) (S1 := S) (As := [.ref 27, .int (Dk_darkOf v1 v2)]) (rest := []) (pc := 9) dX4_leads_9 nl_X4_76 mf_X11_at rfl rfl (Nat.le_of_ble_eq_true rfl) ⟨Nat.le_of_ble_eq_true rfl, Nat.le_of_ble_eq_true rfl⟩ (r_at hV k0_27 own_27 (by decide)) ?_
  subst h
  exact g_iret (pc := 12) dX4_leads_12 rfl rfl (Nat.le_refl _) (Nat.le_refl _)
def Wy_isUnknown_23 (s0 : Int32) (S : Sm) : Int32 := (s0 &&& 1)
set_option maxRecDepth 4000 in
theorem t_Wy_isUnknown_23 {V : Sm → Wd} (hV : VwC V) {l : Launch} {Γ : Gm} {s0 : Int32} {S : Sm} {q : Int32} (h : Wy_isUnknown_23 s0 S = q) : G mX10_isUnknown l Γ (rmD 2 0 0) (mQ Γ (some (.int q)) (V S) 0 0) 0 0 23 [none, none, none] [.int s0] (V S) := by
  unfold Wy_isUnknown_23 at h
  subst h
  exact g_iret (pc := 23) dX10_isUnknown_23 rfl rfl (Nat.le_refl _) (Nat.le_refl _)
def Wy_isUnknown_22 (S : Sm) : Int32 := (Wy_isUnknown_23 0 S)
set_option maxRecDepth 4000 in
theorem t_Wy_isUnknown_22 {V : Sm → Wd} (hV : VwC V) {l : Launch} {Γ : Gm}  {S : Sm} {q : Int32} (h : Wy_isUnknown_22 S = q) : G mX10_isUnknown l Γ (rmD 2 0 0) (mQ Γ (some (.int q)) (V S) 0 0) 0 0 22 [none, none, none] [] (V S) := by
  unfold Wy_isUnknown_22 at h
  refine g_iconst (v := 0) (pc := 22) dX10_isUnknown_22 (by decide) ?_
  exact t_Wy_isUnknown_23 hV h
def Wy_isUnknown (v1 : Int32) (v2 : Int32) (S : Sm) : Int32 := (if v2 = 5 then (Wy_isUnknown_22 S) else (if (Mo_leads v1 v2 S) = ((-1)) then (Wy_isUnknown_23 1 S) else (Wy_isUnknown_22 S)))
set_option maxRecDepth 4000 in
theorem r_Wy_isUnknown {V : Sm → Wd} (hV : VwC V) {v1 : Int32} {v2 : Int32} {S : Sm} {q : Int32} (h : Wy_isUnknown v1 v2 S = q) : Runs 2 mX10_isUnknown [.ref 37, .int v1, .int v2] (V S) (some (.int q)) (V S) 0 0 := by
  unfold Wy_isUnknown at h
  refine Runs.of2 [some (.ref 37), some (.int v1), some (.int v2)] 0 rfl rfl (Nat.le_of_ble_eq_true rfl) (fun l Γ => ?_)
  refine g_iload_n (pc := 0) dX10_isUnknown_0 rfl ?_
  refine g_iconst (v := 5) (pc := 1) dX10_isUnknown_1 (by decide) ?_
  refine g_icmp_eq (tgt := 22) (pc := 2) dX10_isUnknown_2 (by decide) (fun c2 => ?_) (fun c2 => ?_)
  · rw [if_pos c2] at h
    refine g_wk [false, false, false] rfl ?_
    exact t_Wy_isUnknown_22 hV h
  · rw [if_neg c2] at h
    refine g_aload_n (pc := 5) dX10_isUnknown_5 rfl ?_
    refine v_getR hV (pc := 6) dX10_isUnknown_6 fo_10_2 rfl k0_37 r0_37_2 ?_
    refine g_iload_n (pc := 9) dX10_isUnknown_9 rfl ?_
    refine g_iload_n (pc := 10) dX10_isUnknown_10 rfl ?_
    refine v_callVi hV (Mc := mX4_leads) (v := Mo_leads v1 v2 S) (S1 := S) (As := [.int v1, .int v2]) (rest := []) (q := (RX4, TX4, 8)) (pc := 11) dX10_isUnknown_11 mK_X10_30 mf_X4_leads rfl k0_25 rfl rfl rfl (Nat.le_of_ble_eq_true rfl) ⟨Nat.le_of_ble_eq_true rfl, Nat.le_of_ble_eq_true rfl⟩ (r_Mo_leads hV rfl) ?_
    refine g_iconst (v := (-1)) (pc := 14) dX10_isUnknown_14 (by decide) ?_
    refine g_icmp_ne (tgt := 22) (pc := 15) dX10_isUnknown_15 (by decide) (fun c1 => ?_) (fun c1 => ?_)
    · rw [if_neg c1] at h
      refine g_wk [false, false, false] rfl ?_
      exact t_Wy_isUnknown_22 hV h
    · rw [if_pos c1] at h
      refine g_iconst (v := 1) (pc := 18) dX10_isUnknown_18 (by decide) ?_
      refine g_goto (tgt := 23) (pc := 19) dX10_isUnknown_19 (by decide) ?_
      refine g_wk [false, false, false] rfl ?_
      exact t_Wy_isUnknown_23 hV h
def Wy_leadsTo_29 (s0 : Int32) (S : Sm) : Int32 := s0
set_option maxRecDepth 4000 in
theorem t_Wy_leadsTo_29 {V : Sm → Wd} (hV : VwC V) {l : Launch} {Γ : Gm} {s0 : Int32} {S : Sm} {q : Int32} (h : Wy_leadsTo_29 s0 S = q) : G mX10_leadsTo l Γ (rmD 2 0 0) (mQ Γ (some (.int q)) (V S) 0 0) 0 0 29 [none, none, none, none] [.int s0] (V S) := by
  unfold Wy_leadsTo_29 at h
  subst h
  exact g_iret (pc := 29) dX10_leadsTo_29 rfl rfl (Nat.le_refl _) (Nat.le_refl _)
def Wy_leadsTo_18 (v1 : Int32) (s0 : Int32) (S : Sm) : Int32 := (if s0 = ((-1)) then (Wy_leadsTo_29 v1 S) else (Wy_leadsTo_29 s0 S))
set_option maxRecDepth 4000 in
theorem t_Wy_leadsTo_18 {V : Sm → Wd} (hV : VwC V) {l : Launch} {Γ : Gm} {v1 : Int32} {s0 : Int32} {S : Sm} {q : Int32} (h : Wy_leadsTo_18 v1 s0 S = q) : G mX10_leadsTo l Γ (rmD 2 0 0) (mQ Γ (some (.int q)) (V S) 0 0) 0 0 18 [none, some (.int v1), none, none] [.int s0] (V S) := by
  unfold Wy_leadsTo_18 at h
  refine g_istore_n (ls1 := [none, some (.int v1), none, some (.int s0)]) (pc := 18) dX10_leadsTo_18 (by decide) rfl ?_
  refine g_iload_n (pc := 19) dX10_leadsTo_19 rfl ?_
  refine g_iconst (v := (-1)) (pc := 20) dX10_leadsTo_20 (by decide) ?_
  refine g_icmp_ne (tgt := 28) (pc := 21) dX10_leadsTo_21 (by decide) (fun c1 => ?_) (fun c1 => ?_)
  · rw [if_neg c1] at h
    refine g_iload_n (pc := 28) dX10_leadsTo_28 rfl ?_
    refine g_wk [false, false, false, false] rfl ?_
    exact t_Wy_leadsTo_29 hV h
  · rw [if_pos c1] at h
    refine g_iload_n (pc := 24) dX10_leadsTo_24 rfl ?_
    refine g_goto (tgt := 29) (pc := 25) dX10_leadsTo_25 (by decide) ?_
    refine g_wk [false, false, false, false] rfl ?_
    exact t_Wy_leadsTo_29 hV h
def Wy_leadsTo (v1 : Int32) (v2 : Int32) (S : Sm) : Int32 := (if v2 = 5 then (Wy_leadsTo_18 v1 ((-1)) S) else (Wy_leadsTo_18 v1 (Mo_leads v1 v2 S) S))
set_option maxRecDepth 4000 in
theorem r_Wy_leadsTo {V : Sm → Wd} (hV : VwC V) {v1 : Int32} {v2 : Int32} {S : Sm} {q : Int32} (h : Wy_leadsTo v1 v2 S = q) : Runs 2 mX10_leadsTo [.ref 37, .int v1, .int v2] (V S) (some (.int q)) (V S) 0 0 := by
  unfold Wy_leadsTo at h
  refine Runs.of2 [some (.ref 37), some (.int v1), some (.int v2), none] 1 rfl rfl (Nat.le_of_ble_eq_true rfl) (fun l Γ => ?_)
  refine g_iload_n (pc := 0) dX10_leadsTo_0 rfl ?_
  refine g_iconst (v := 5) (pc := 1) dX10_leadsTo_1 (by decide) ?_
  refine g_icmp_ne (tgt := 9) (pc := 2) dX10_leadsTo_2 (by decide) (fun c2 => ?_) (fun c2 => ?_)
  · rw [if_neg c2] at h
    refine g_aload_n (pc := 9) dX10_leadsTo_9 rfl ?_
    refine v_getR hV (pc := 10) dX10_leadsTo_10 fo_10_2 rfl k0_37 r0_37_2 ?_
    refine g_iload_n (pc := 13) dX10_leadsTo_13 rfl ?_
    refine g_iload_n (pc := 14) dX10_leadsTo_14 rfl ?_
    refine v_callVi hV (Mc := mX4_leads) (v := Mo_leads v1 v2 S) (S1 := S) (As := [.int v1, .int v2]) (rest := []) (q := (RX4, TX4, 8)) (pc := 15) dX10_leadsTo_15 mK_X10_30 mf_X4_leads rfl k0_25 rfl rfl rfl (Nat.le_of_ble_eq_true rfl) ⟨Nat.le_of_ble_eq_true rfl, Nat.le_of_ble_eq_true rfl⟩ (r_Mo_leads hV rfl) ?_
    refine g_wk [false, true, false, false] rfl ?_
    exact t_Wy_leadsTo_18 hV h
  · rw [if_pos c2] at h
    refine g_iconst (v := (-1)) (pc := 5) dX10_leadsTo_5 (by decide) ?_
    refine g_goto (tgt := 18) (pc := 6) dX10_leadsTo_6 (by decide) ?_
    refine g_wk [false, true, false, false] rfl ?_
    exact t_Wy_leadsTo_18 hV h
def Nt_lengthOf (v1 : Int32) (v2 : Int32) (S : Sm) : Int32 := (atF (gi S 13) 40 (Dk_darkOf v1 v2))
set_option maxRecDepth 4000 in
theorem r_Nt_lengthOf {V : Sm → Wd} (hV : VwC V) {v1 : Int32} {v2 : Int32} {S : Sm} {q : Int32} (h : Nt_lengthOf v1 v2 S = q) : Runs 1 mX5_lengthOf [.ref 10, .int v1, .int v2] (V S) (some (.int q)) (V S) 0 0 := by
  unfold Nt_lengthOf at h
  refine Runs.of2 [some (.ref 10), some (.int v1), some (.int v2)] 0 rfl rfl (Nat.le_of_ble_eq_true rfl) (fun l Γ => ?_)
  refine g_aload_n (pc := 0) dX5_lengthOf_0 rfl ?_
  refine v_getR hV (pc := 1) dX5_lengthOf_1 fo_5_2 rfl k0_10 r0_10_2 ?_
  refine g_iload_n (pc := 4) dX5_lengthOf_4 rfl ?_
  refine g_iload_n (pc := 5) dX5_lengthOf_5 rfl ?_
  refine v_callNi (Mc := mX11_darkOf) (v := Dk_darkOf v1 v2) (S1 := S) (As := [.int v1, .int v2]) (rest := [.ref 13]) (pc := 6) dX5_lengthOf_6 nl_X5_60 mf_X11_darkOf rfl rfl (Nat.le_of_ble_eq_true rfl) ⟨Nat.le_of_ble_eq_true rfl, Nat.le_of_ble_eq_true rfl⟩ (r_Dk_darkOf hV rfl) ?_
  refine v_callNi (Mc := mX11_at) (v := atF (gi S 13) 40 (Dk_darkOf v1 v2)) (S1 := S) (As := [.ref 13, .int (Dk_darkOf v1 v2)]) (rest := []) (pc := 9) dX5_lengthOf_9 nl_X5_24 mf_X11_at rfl rfl (Nat.le_of_ble_eq_true rfl) ⟨Nat.le_of_ble_eq_true rfl, Nat.le_of_ble_eq_true rfl⟩ (r_at hV k0_13 own_13 (by decide)) ?_
  subst h
  exact g_iret (pc := 12) dX5_lengthOf_12 rfl rfl (Nat.le_refl _) (Nat.le_refl _)
def Wy_takes_37 (s0 : Int32) (S : Sm) : Int32 := s0
set_option maxRecDepth 4000 in
theorem t_Wy_takes_37 {V : Sm → Wd} (hV : VwC V) {l : Launch} {Γ : Gm} {s0 : Int32} {S : Sm} {q : Int32} (h : Wy_takes_37 s0 S = q) : G mX10_takes l Γ (rmD 2 0 0) (mQ Γ (some (.int q)) (V S) 0 0) 0 0 37 [none, none, none, none] [.int s0] (V S) := by
  unfold Wy_takes_37 at h
  subst h
  exact g_iret (pc := 37) dX10_takes_37 rfl rfl (Nat.le_refl _) (Nat.le_refl _)
def Wy_takes_18 (v1 : Int32) (v2 : Int32) (s0 : Int32) (S : Sm) : Int32 := (if s0 = ((-1)) then (Wy_takes_37 1 S) else (Wy_takes_37 (Nt_lengthOf v1 v2 S) S))
set_option maxRecDepth 4000 in
theorem t_Wy_takes_18 {V : Sm → Wd} (hV : VwC V) {l : Launch} {Γ : Gm} {v1 : Int32} {v2 : Int32} {s0 : Int32} {S : Sm} {q : Int32} (h : Wy_takes_18 v1 v2 s0 S = q) : G mX10_takes l Γ (rmD 2 0 0) (mQ Γ (some (.int q)) (V S) 0 0) 0 0 18 [some (.ref 37), some (.int v1), some (.int v2), none] [.int s0] (V S) := by
  unfold Wy_takes_18 at h
  refine g_istore_n (ls1 := [some (.ref 37), some (.int v1), some (.int v2), some (.int s0)]) (pc := 18) dX10_takes_18 (by decide) rfl ?_
  refine g_iload_n (pc := 19) dX10_takes_19 rfl ?_
  refine g_iconst (v := (-1)) (pc := 20) dX10_takes_20 (by decide) ?_
  refine g_icmp_ne (tgt := 28) (pc := 21) dX10_takes_21 (by decide) (fun c1 => ?_) (fun c1 => ?_)
  · rw [if_neg c1] at h
    refine g_aload_n (pc := 28) dX10_takes_28 rfl ?_
    refine v_getR hV (pc := 29) dX10_takes_29 fo_10_0 rfl k0_37 r0_37_0 ?_
    refine g_iload_n (pc := 32) dX10_takes_32 rfl ?_
    refine g_iload_n (pc := 33) dX10_takes_33 rfl ?_
    refine v_callVi hV (Mc := mX5_lengthOf) (v := Nt_lengthOf v1 v2 S) (S1 := S) (As := [.int v1, .int v2]) (rest := []) (q := (RX5, TX5, 3)) (pc := 34) dX10_takes_34 mK_X10_36 mf_X5_lengthOf rfl k0_10 rfl rfl rfl (Nat.le_of_ble_eq_true rfl) ⟨Nat.le_of_ble_eq_true rfl, Nat.le_of_ble_eq_true rfl⟩ (r_Nt_lengthOf hV rfl) ?_
    refine g_wk [false, false, false, false] rfl ?_
    exact t_Wy_takes_37 hV h
  · rw [if_pos c1] at h
    refine g_iconst (v := 1) (pc := 24) dX10_takes_24 (by decide) ?_
    refine g_goto (tgt := 37) (pc := 25) dX10_takes_25 (by decide) ?_
    refine g_wk [false, false, false, false] rfl ?_
    exact t_Wy_takes_37 hV h
def Wy_takes (v1 : Int32) (v2 : Int32) (S : Sm) : Int32 := (if v2 = 5 then (Wy_takes_18 v1 v2 ((-1)) S) else (Wy_takes_18 v1 v2 (Mo_leads v1 v2 S) S))
set_option maxRecDepth 4000 in
theorem r_Wy_takes {V : Sm → Wd} (hV : VwC V) {v1 : Int32} {v2 : Int32} {S : Sm} {q : Int32} (h : Wy_takes v1 v2 S = q) : Runs 2 mX10_takes [.ref 37, .int v1, .int v2] (V S) (some (.int q)) (V S) 0 0 := by
  unfold Wy_takes at h
  refine Runs.of2 [some (.ref 37), some (.int v1), some (.int v2), none] 1 rfl rfl (Nat.le_of_ble_eq_true rfl) (fun l Γ => ?_)
  refine g_iload_n (pc := 0) dX10_takes_0 rfl ?_
  refine g_iconst (v := 5) (pc := 1) dX10_takes_1 (by decide) ?_
  refine g_icmp_ne (tgt := 9) (pc := 2) dX10_takes_2 (by decide) (fun c2 => ?_) (fun c2 => ?_)
  · rw [if_neg c2] at h
    refine g_aload_n (pc := 9) dX10_takes_9 rfl ?_
    refine v_getR hV (pc := 10) dX10_takes_10 fo_10_2 rfl k0_37 r0_37_2 ?_
    refine g_iload_n (pc := 13) dX10_takes_13 rfl ?_
    refine g_iload_n (pc := 14) dX10_takes_14 rfl ?_
    refine v_callVi hV (Mc := mX4_leads) (v := Mo_leads v1 v2 S) (S1 := S) (As := [.int v1, .int v2]) (rest := []) (q := (RX4, TX4, 8)) (pc := 15) dX10_takes_15 mK_X10_30 mf_X4_leads rfl k0_25 rfl rfl rfl (Nat.le_of_ble_eq_true rfl) ⟨Nat.le_of_ble_eq_true rfl, Nat.le_of_ble_eq_true rfl⟩ (r_Mo_leads hV rfl) ?_
    exact t_Wy_takes_18 hV h
  · rw [if_pos c2] at h
    refine g_iconst (v := (-1)) (pc := 5) dX10_takes_5 (by decide) ?_
    refine g_goto (tgt := 18) (pc := 6) dX10_takes_6 (by decide) ?_
    exact t_Wy_takes_18 hV h
def La_holding (S : Sm) : Int32 := (gi S 20 5)
set_option maxRecDepth 4000 in
theorem r_La_holding {V : Sm → Wd} (hV : VwC V)  {S : Sm} {q : Int32} (h : La_holding S = q) : Runs 0 mX3_holding [.ref 20] (V S) (some (.int q)) (V S) 0 0 := by
  unfold La_holding at h
  refine Runs.of2 [some (.ref 20)] 0 rfl rfl (Nat.le_of_ble_eq_true rfl) (fun l Γ => ?_)
  refine g_aload_n (pc := 0) dX3_holding_0 rfl ?_
  refine v_getI hV (pc := 1) dX3_holding_1 fo_3_5 rfl k0_20 own_20 ?_
  subst h
  exact g_iret (pc := 4) dX3_holding_4 rfl rfl (Nat.le_refl _) (Nat.le_refl _)
def La_push (v1 : Int32) (S : Sm) : Sm := (app (puF S 23 64 (gi S 20 3) v1) fun S1 => (si S1 20 3 ((gi S1 20 3) + 1)))
set_option maxRecDepth 4000 in
theorem r_La_push {V : Sm → Wd} (hV : VwC V) {v1 : Int32} {S : Sm} {q : Sm} (h : La_push v1 S = q) : Runs 1 mX3_push [.ref 20, .int v1] (V S) none (V q) 0 0 := by
  unfold La_push at h
  refine Runs.of2 [some (.ref 20), some (.int v1)] 0 rfl rfl (Nat.le_of_ble_eq_true rfl) (fun l Γ => ?_)
  refine g_aload_n (pc := 0) dX3_push_0 rfl ?_
  refine v_getR hV (pc := 1) dX3_push_1 fo_3_2 rfl k0_20 r0_20_2 ?_
  refine g_aload_n (pc := 4) dX3_push_4 rfl ?_
  refine v_getI hV (pc := 5) dX3_push_5 fo_3_3 rfl k0_20 own_20 ?_
  refine g_iload_n (pc := 8) dX3_push_8 rfl ?_
  obtain ⟨S1, hS1, h⟩ := app_of h
  refine v_callNv (Mc := mX11_put) (S1 := S1) (As := [.ref 23, .int (gi S 20 3), .int v1]) (rest := []) (pc := 9) dX3_push_9 nl_X3_33 mf_X11_put rfl rfl (Nat.le_of_ble_eq_true rfl) ⟨Nat.le_of_ble_eq_true rfl, Nat.le_of_ble_eq_true rfl⟩ (r_put hV k0_23 own_23 (by decide) hS1) ?_
  refine g_aload_n (pc := 12) dX3_push_12 rfl ?_
  refine g_dup (pc := 13) dX3_push_13 rfl ?_
  refine v_getI hV (pc := 14) dX3_push_14 fo_3_3 rfl k0_20 own_20 ?_
  refine g_iconst (v := 1) (pc := 17) dX3_push_17 (by decide) ?_
  refine g_iadd (pc := 18) dX3_push_18 ?_
  refine v_putI hV (pc := 19) dX3_push_19 fo_3_3 rfl k0_20 own_20 rfl ?_
  subst h
  exact g_vret (pc := 22) dX3_push_22 rfl (Nat.le_refl _) (Nat.le_refl _)
def La_pop_17 (S : Sm) : Int32 × Sm := ((atF (gi S 23) 64 (gi S 20 3), S))
set_option maxRecDepth 4000 in
theorem t_La_pop_17 {V : Sm → Wd} (hV : VwC V) {l : Launch} {Γ : Gm}  {S : Sm} {q : Int32 × Sm} (h : La_pop_17 S = q) : G mX3_pop l Γ (rmD 1 0 0) (mQ Γ (some (.int q.1)) (V q.2) 0 0) 0 0 17 [some (.ref 20)] [] (V S) := by
  unfold La_pop_17 at h
  refine g_aload_n (pc := 17) dX3_pop_17 rfl ?_
  refine v_getR hV (pc := 18) dX3_pop_18 fo_3_2 rfl k0_20 r0_20_2 ?_
  refine g_aload_n (pc := 21) dX3_pop_21 rfl ?_
  refine v_getI hV (pc := 22) dX3_pop_22 fo_3_3 rfl k0_20 own_20 ?_
  refine v_callNi (Mc := mX11_at) (v := atF (gi S 23) 64 (gi S 20 3)) (S1 := S) (As := [.ref 23, .int (gi S 20 3)]) (rest := []) (pc := 25) dX3_pop_25 nl_X3_37 mf_X11_at rfl rfl (Nat.le_of_ble_eq_true rfl) ⟨Nat.le_of_ble_eq_true rfl, Nat.le_of_ble_eq_true rfl⟩ (r_at hV k0_23 own_23 (by decide)) ?_
  subst h
  exact g_iret (pc := 28) dX3_pop_28 rfl rfl (Nat.le_refl _) (Nat.le_refl _)
def La_pop (S : Sm) : Int32 × Sm := (if (gi S 20 3) ≤ 0 then (La_pop_17 S) else (La_pop_17 (si S 20 3 ((gi S 20 3) - 1))))
set_option maxRecDepth 4000 in
theorem r_La_pop {V : Sm → Wd} (hV : VwC V)  {S : Sm} {q : Int32 × Sm} (h : La_pop S = q) : Runs 1 mX3_pop [.ref 20] (V S) (some (.int q.1)) (V q.2) 0 0 := by
  unfold La_pop at h
  refine Runs.of2 [some (.ref 20)] 0 rfl rfl (Nat.le_of_ble_eq_true rfl) (fun l Γ => ?_)
  refine g_aload_n (pc := 0) dX3_pop_0 rfl ?_
  refine v_getI hV (pc := 1) dX3_pop_1 fo_3_3 rfl k0_20 own_20 ?_
  refine g_if_le (tgt := 17) (pc := 4) dX3_pop_4 (by decide) (fun c1 => ?_) (fun c1 => ?_)
  · rw [if_pos c1] at h
    exact t_La_pop_17 hV h
  · rw [if_neg c1] at h
    refine g_aload_n (pc := 7) dX3_pop_7 rfl ?_
    refine g_dup (pc := 8) dX3_pop_8 rfl ?_
    refine v_getI hV (pc := 9) dX3_pop_9 fo_3_3 rfl k0_20 own_20 ?_
    refine g_iconst (v := 1) (pc := 12) dX3_pop_12 (by decide) ?_
    refine g_isub (pc := 13) dX3_pop_13 ?_
    refine v_putI hV (pc := 14) dX3_pop_14 fo_3_3 rfl k0_20 own_20 rfl ?_
    exact t_La_pop_17 hV h
def La_bounded (v0 : Int64) : Int32 := (Int64.toInt32 (lMax ((-1000000)) (lMin 1000000 v0)))
set_option maxRecDepth 4000 in
theorem r_La_bounded {V : Sm → Wd} (hV : VwC V) {v0 : Int64} {S : Sm} {q : Int32} (h : La_bounded v0 = q) : Runs 1 mX3_bounded [.long v0] (V S) (some (.int q)) (V S) 0 0 := by
  unfold La_bounded at h
  refine Runs.of2 [some (.long v0), none] 0 rfl rfl (Nat.le_of_ble_eq_true rfl) (fun l Γ => ?_)
  refine g_ldc2 (v := (-1000000)) (pc := 0) dX3_bounded_0 kL_X3_57 ?_
  refine g_ldc2 (v := 1000000) (pc := 3) dX3_bounded_3 kL_X3_59 ?_
  refine g_lload_n (pc := 6) dX3_bounded_6 rfl ?_
  refine g_lMin (pc := 7) dX3_bounded_7 mK_X3_61 ⟨Nat.le_of_ble_eq_true rfl, Nat.le_of_ble_eq_true rfl⟩ (Nat.zero_le _) (Nat.zero_le _) ?_
  refine g_lMax (pc := 10) dX3_bounded_10 mK_X3_67 ⟨Nat.le_of_ble_eq_true rfl, Nat.le_of_ble_eq_true rfl⟩ (Nat.zero_le _) (Nat.zero_le _) ?_
  refine g_l2i (pc := 13) dX3_bounded_13 ?_
  subst h
  exact g_iret (pc := 14) dX3_bounded_14 rfl rfl (Nat.le_refl _) (Nat.le_refl _)
def La_joined_159 (s0 : Int32) : Option (Int32) := (some s0)
set_option maxRecDepth 4000 in
theorem t_La_joined_159 {V : Sm → Wd} (hV : VwC V) {l : Launch} {Γ : Gm} {s0 : Int32} {S : Sm} {q : Int32} (h : La_joined_159 s0 = some q) : G mX3_joined l Γ (rmD 2 0 0) (mQ Γ (some (.int q)) (V S) 0 0) 0 0 159 [none, none, none] [.int s0] (V S) := by
  unfold La_joined_159 at h
  cases h
  exact g_iret (pc := 159) dX3_joined_159 rfl rfl (Nat.le_refl _) (Nat.le_refl _)
def La_joined_181 (s0 : Int32) : Option (Int32) := (some s0)
set_option maxRecDepth 4000 in
theorem t_La_joined_181 {V : Sm → Wd} (hV : VwC V) {l : Launch} {Γ : Gm} {s0 : Int32} {S : Sm} {q : Int32} (h : La_joined_181 s0 = some q) : G mX3_joined l Γ (rmD 2 0 0) (mQ Γ (some (.int q)) (V S) 0 0) 0 0 181 [none, none, none] [.int s0] (V S) := by
  unfold La_joined_181 at h
  cases h
  exact g_iret (pc := 181) dX3_joined_181 rfl rfl (Nat.le_refl _) (Nat.le_refl _)
def La_joined_170 (s0 : Int32) : Option (Int32) := (some s0)
set_option maxRecDepth 4000 in
theorem t_La_joined_170 {V : Sm → Wd} (hV : VwC V) {l : Launch} {Γ : Gm} {s0 : Int32} {S : Sm} {q : Int32} (h : La_joined_170 s0 = some q) : G mX3_joined l Γ (rmD 2 0 0) (mQ Γ (some (.int q)) (V S) 0 0) 0 0 170 [none, none, none] [.int s0] (V S) := by
  unfold La_joined_170 at h
  cases h
  exact g_iret (pc := 170) dX3_joined_170 rfl rfl (Nat.le_refl _) (Nat.le_refl _)
def La_joined_192 (s0 : Int32) : Option (Int32) := (some s0)
set_option maxRecDepth 4000 in
theorem t_La_joined_192 {V : Sm → Wd} (hV : VwC V) {l : Launch} {Γ : Gm} {s0 : Int32} {S : Sm} {q : Int32} (h : La_joined_192 s0 = some q) : G mX3_joined l Γ (rmD 2 0 0) (mQ Γ (some (.int q)) (V S) 0 0) 0 0 192 [none, none, none] [.int s0] (V S) := by
  unfold La_joined_192 at h
  cases h
  exact g_iret (pc := 192) dX3_joined_192 rfl rfl (Nat.le_refl _) (Nat.le_refl _)
def La_joined (v0 : Int32) (v1 : Int32) (v2 : Int32) : Option (Int32) := (if v0 = (38 : Int32) then (some (v2 &&& v1)) else (if v0 = (42 : Int32) then (some (La_bounded ((Int32.toInt64 v2) * (Int32.toInt64 v1)))) else (if v0 = (43 : Int32) then (some (La_bounded ((Int32.toInt64 v2) + (Int32.toInt64 v1)))) else (if v0 = (45 : Int32) then (some (La_bounded ((Int32.toInt64 v2) - (Int32.toInt64 v1)))) else (if v0 = (47 : Int32) then (if v1 = 0 then (La_joined_159 0) else (if (Int32.toInt64 v1) = (0 : Int64) then none else (La_joined_159 (La_bounded ((Int32.toInt64 v2) / (Int32.toInt64 v1)))))) else (if v0 = (60 : Int32) then (if v1 ≤ v2 then (La_joined_181 0) else (La_joined_181 1)) else (if v0 = (61 : Int32) then (if v2 = v1 then (La_joined_170 1) else (La_joined_170 0)) else (if v0 = (62 : Int32) then (if v2 ≤ v1 then (La_joined_192 0) else (La_joined_192 1)) else (some (v2 ||| v1))))))))))
set_option maxRecDepth 4000 in
theorem r_La_joined {V : Sm → Wd} (hV : VwC V) {v0 : Int32} {v1 : Int32} {v2 : Int32} {S : Sm} {q : Int32} (h : La_joined v0 v1 v2 = some q) : Runs 2 mX3_joined [.int v0, .int v1, .int v2] (V S) (some (.int q)) (V S) 0 0 := by
  unfold La_joined at h
  refine Runs.of2 [some (.int v0), some (.int v1), some (.int v2)] 0 rfl rfl (Nat.le_of_ble_eq_true rfl) (fun l Γ => ?_)
  refine g_iload_n (pc := 0) dX3_joined_0 rfl ?_
  by_cases c1 : v0 = (38 : Int32)
  · rw [if_pos c1] at h
    refine g_tab (off := 192) (tgt := 193) (pc := 1) dX3_joined_1 (by rw [c1]; decide +kernel) (by decide) (by decide +kernel) ?_
    refine g_iload_n (pc := 193) dX3_joined_193 rfl ?_
    refine g_iload_n (pc := 194) dX3_joined_194 rfl ?_
    refine g_iand (pc := 195) dX3_joined_195 ?_
    cases h
    exact g_iret (pc := 196) dX3_joined_196 rfl rfl (Nat.le_refl _) (Nat.le_refl _)
  · rw [if_neg c1] at h
    by_cases c2 : v0 = (42 : Int32)
    · rw [if_pos c2] at h
      refine g_tab (off := 133) (tgt := 134) (pc := 1) dX3_joined_1 (by rw [c2]; decide +kernel) (by decide) (by decide +kernel) ?_
      refine g_iload_n (pc := 134) dX3_joined_134 rfl ?_
      refine g_i2l (pc := 135) dX3_joined_135 ?_
      refine g_iload_n (pc := 136) dX3_joined_136 rfl ?_
      refine g_i2l (pc := 137) dX3_joined_137 ?_
      refine g_lmul (pc := 138) dX3_joined_138 ?_
      refine v_callSi (Mc := mX3_bounded) (v := La_bounded ((Int32.toInt64 v2) * (Int32.toInt64 v1))) (S1 := S) (As := [.long ((Int32.toInt64 v2) * (Int32.toInt64 v1))]) (rest := []) (pc := 139) dX3_joined_139 mK_X3_53 mf_X3_bounded rfl rfl (Nat.le_of_ble_eq_true rfl) ⟨Nat.le_of_ble_eq_true rfl, Nat.le_of_ble_eq_true rfl⟩ (r_La_bounded hV rfl) ?_
      cases h
      exact g_iret (pc := 142) dX3_joined_142 rfl rfl (Nat.le_refl _) (Nat.le_refl _)
    · rw [if_neg c2] at h
      by_cases c3 : v0 = (43 : Int32)
      · rw [if_pos c3] at h
        refine g_tab (off := 115) (tgt := 116) (pc := 1) dX3_joined_1 (by rw [c3]; decide +kernel) (by decide) (by decide +kernel) ?_
        refine g_iload_n (pc := 116) dX3_joined_116 rfl ?_
        refine g_i2l (pc := 117) dX3_joined_117 ?_
        refine g_iload_n (pc := 118) dX3_joined_118 rfl ?_
        refine g_i2l (pc := 119) dX3_joined_119 ?_
        refine g_ladd (pc := 120) dX3_joined_120 ?_
        refine v_callSi (Mc := mX3_bounded) (v := La_bounded ((Int32.toInt64 v2) + (Int32.toInt64 v1))) (S1 := S) (As := [.long ((Int32.toInt64 v2) + (Int32.toInt64 v1))]) (rest := []) (pc := 121) dX3_joined_121 mK_X3_53 mf_X3_bounded rfl rfl (Nat.le_of_ble_eq_true rfl) ⟨Nat.le_of_ble_eq_true rfl, Nat.le_of_ble_eq_true rfl⟩ (r_La_bounded hV rfl) ?_
        cases h
        exact g_iret (pc := 124) dX3_joined_124 rfl rfl (Nat.le_refl _) (Nat.le_refl _)
      · rw [if_neg c3] at h
        by_cases c4 : v0 = (45 : Int32)
        · rw [if_pos c4] at h
          refine g_tab (off := 124) (tgt := 125) (pc := 1) dX3_joined_1 (by rw [c4]; decide +kernel) (by decide) (by decide +kernel) ?_
          refine g_iload_n (pc := 125) dX3_joined_125 rfl ?_
          refine g_i2l (pc := 126) dX3_joined_126 ?_
          refine g_iload_n (pc := 127) dX3_joined_127 rfl ?_
          refine g_i2l (pc := 128) dX3_joined_128 ?_
          refine g_lsub (pc := 129) dX3_joined_129 ?_
          refine v_callSi (Mc := mX3_bounded) (v := La_bounded ((Int32.toInt64 v2) - (Int32.toInt64 v1))) (S1 := S) (As := [.long ((Int32.toInt64 v2) - (Int32.toInt64 v1))]) (rest := []) (pc := 130) dX3_joined_130 mK_X3_53 mf_X3_bounded rfl rfl (Nat.le_of_ble_eq_true rfl) ⟨Nat.le_of_ble_eq_true rfl, Nat.le_of_ble_eq_true rfl⟩ (r_La_bounded hV rfl) ?_
          cases h
          exact g_iret (pc := 133) dX3_joined_133 rfl rfl (Nat.le_refl _) (Nat.le_refl _)
        · rw [if_neg c4] at h
          by_cases c5 : v0 = (47 : Int32)
          · rw [if_pos c5] at h
            refine g_tab (off := 142) (tgt := 143) (pc := 1) dX3_joined_1 (by rw [c5]; decide +kernel) (by decide) (by decide +kernel) ?_
            refine g_iload_n (pc := 143) dX3_joined_143 rfl ?_
            refine g_if_ne (tgt := 151) (pc := 144) dX3_joined_144 (by decide) (fun c7 => ?_) (fun c7 => ?_)
            · rw [if_neg c7] at h
              refine g_iload_n (pc := 151) dX3_joined_151 rfl ?_
              refine g_i2l (pc := 152) dX3_joined_152 ?_
              refine g_iload_n (pc := 153) dX3_joined_153 rfl ?_
              refine g_i2l (pc := 154) dX3_joined_154 ?_
              by_cases c6 : (Int32.toInt64 v1) = (0 : Int64)
              · rw [if_pos c6] at h; cases h
              · rw [if_neg c6] at h
                refine g_ldiv (pc := 155) dX3_joined_155 c6 ?_
                refine v_callSi (Mc := mX3_bounded) (v := La_bounded ((Int32.toInt64 v2) / (Int32.toInt64 v1))) (S1 := S) (As := [.long ((Int32.toInt64 v2) / (Int32.toInt64 v1))]) (rest := []) (pc := 156) dX3_joined_156 mK_X3_53 mf_X3_bounded rfl rfl (Nat.le_of_ble_eq_true rfl) ⟨Nat.le_of_ble_eq_true rfl, Nat.le_of_ble_eq_true rfl⟩ (r_La_bounded hV rfl) ?_
                refine g_wk [false, false, false] rfl ?_
                exact t_La_joined_159 hV h
            · rw [if_pos c7] at h
              refine g_iconst (v := 0) (pc := 147) dX3_joined_147 (by decide) ?_
              refine g_goto (tgt := 159) (pc := 148) dX3_joined_148 (by decide) ?_
              refine g_wk [false, false, false] rfl ?_
              exact t_La_joined_159 hV h
          · rw [if_neg c5] at h
            by_cases c8 : v0 = (60 : Int32)
            · rw [if_pos c8] at h
              refine g_tab (off := 170) (tgt := 171) (pc := 1) dX3_joined_1 (by rw [c8]; decide +kernel) (by decide) (by decide +kernel) ?_
              refine g_iload_n (pc := 171) dX3_joined_171 rfl ?_
              refine g_iload_n (pc := 172) dX3_joined_172 rfl ?_
              refine g_icmp_ge (tgt := 180) (pc := 173) dX3_joined_173 (by decide) (fun c9 => ?_) (fun c9 => ?_)
              · rw [if_pos c9] at h
                refine g_iconst (v := 0) (pc := 180) dX3_joined_180 (by decide) ?_
                refine g_wk [false, false, false] rfl ?_
                exact t_La_joined_181 hV h
              · rw [if_neg c9] at h
                refine g_iconst (v := 1) (pc := 176) dX3_joined_176 (by decide) ?_
                refine g_goto (tgt := 181) (pc := 177) dX3_joined_177 (by decide) ?_
                refine g_wk [false, false, false] rfl ?_
                exact t_La_joined_181 hV h
            · rw [if_neg c8] at h
              by_cases c10 : v0 = (61 : Int32)
              · rw [if_pos c10] at h
                refine g_tab (off := 159) (tgt := 160) (pc := 1) dX3_joined_1 (by rw [c10]; decide +kernel) (by decide) (by decide +kernel) ?_
                refine g_iload_n (pc := 160) dX3_joined_160 rfl ?_
                refine g_iload_n (pc := 161) dX3_joined_161 rfl ?_
                refine g_icmp_ne (tgt := 169) (pc := 162) dX3_joined_162 (by decide) (fun c11 => ?_) (fun c11 => ?_)
                · rw [if_neg c11] at h
                  refine g_iconst (v := 0) (pc := 169) dX3_joined_169 (by decide) ?_
                  refine g_wk [false, false, false] rfl ?_
                  exact t_La_joined_170 hV h
                · rw [if_pos c11] at h
                  refine g_iconst (v := 1) (pc := 165) dX3_joined_165 (by decide) ?_
                  refine g_goto (tgt := 170) (pc := 166) dX3_joined_166 (by decide) ?_
                  refine g_wk [false, false, false] rfl ?_
                  exact t_La_joined_170 hV h
              · rw [if_neg c10] at h
                by_cases c12 : v0 = (62 : Int32)
                · rw [if_pos c12] at h
                  refine g_tab (off := 181) (tgt := 182) (pc := 1) dX3_joined_1 (by rw [c12]; decide +kernel) (by decide) (by decide +kernel) ?_
                  refine g_iload_n (pc := 182) dX3_joined_182 rfl ?_
                  refine g_iload_n (pc := 183) dX3_joined_183 rfl ?_
                  refine g_icmp_le (tgt := 191) (pc := 184) dX3_joined_184 (by decide) (fun c13 => ?_) (fun c13 => ?_)
                  · rw [if_pos c13] at h
                    refine g_iconst (v := 0) (pc := 191) dX3_joined_191 (by decide) ?_
                    refine g_wk [false, false, false] rfl ?_
                    exact t_La_joined_192 hV h
                  · rw [if_neg c13] at h
                    refine g_iconst (v := 1) (pc := 187) dX3_joined_187 (by decide) ?_
                    refine g_goto (tgt := 192) (pc := 188) dX3_joined_188 (by decide) ?_
                    refine g_wk [false, false, false] rfl ?_
                    exact t_La_joined_192 hV h
                · rw [if_neg c12] at h
                  refine g_tab (off := 196) (tgt := 197) (pc := 1) dX3_joined_1 ?_ (by decide) (by decide +kernel) ?_
                  ·
                    refine tab_dflt (ok := [0, 4, 5, 7, 9, 22, 23, 24]) (fun k hk => ?_) (by decide +kernel)
                    have e0 := lv_neT c1 (a := 38) rfl
                    have e1 := lv_neT c2 (a := 42) rfl
                    have e2 := lv_neT c3 (a := 43) rfl
                    have e3 := lv_neT c4 (a := 45) rfl
                    have e4 := lv_neT c5 (a := 47) rfl
                    have e5 := lv_neT c8 (a := 60) rfl
                    have e6 := lv_neT c10 (a := 61) rfl
                    have e7 := lv_neT c12 (a := 62) rfl
                    simp only [List.mem_cons, List.not_mem_nil, or_false] at hk
                    omega
                  ·
                    refine g_iload_n (pc := 197) dX3_joined_197 rfl ?_
                    refine g_iload_n (pc := 198) dX3_joined_198 rfl ?_
                    refine g_ior (pc := 199) dX3_joined_199 ?_
                    cases h
                    exact g_iret (pc := 200) dX3_joined_200 rfl rfl (Nat.le_refl _) (Nat.le_refl _)
def hd_La_worth_L38 (V : Sm → Wd) (l : Launch) (Γ : Gm) (rF : Option Value) (wF : Wd) (v1 : Int32) (v2 : Int32) (v3 : Int32) (v4 : Int32) (v5 : Int32) (v7 : Int32) (q : Int32 × Int32 × Sm) : Prop := G mX3_worth l Γ (rmD 3 0 0) (mQ Γ rF wF 0 0) 0 0 38 [some (.ref 20), some (.int v1), some (.int v2), some (.int v3), some (.int v4), some (.int v5), none, some (.int v7), some (.int q.1), some (.int q.2.1), none] [] (V q.2.2)
def ps_La_worth_L38 (V : Sm → Wd) (l : Launch) (Γ : Gm) (rF : Option Value) (wF : Wd) (v1 : Int32) (v2 : Int32) (v3 : Int32) (v4 : Int32) (v5 : Int32) (v7 : Int32) (x : (Sm) ⊕ (Sm)) : Prop := (Sum.elim (fun (a : Sm) => G mX3_worth l Γ (rmD 3 0 0) (mQ Γ rF wF 0 0) 0 0 228 [some (.ref 20), none, none, none, none, none, none, none, none, none, none] [] (V a)) (fun (a : Sm) => G mX3_worth l Γ (rmD 3 0 0) (mQ Γ rF wF 0 0) 0 0 267 [none, none, none, none, none, none, none, none, none, none, none] [] (V a))) x
def La_worth_261_L38 (v1 : Int32) (v2 : Int32) (v3 : Int32) (v4 : Int32) (v5 : Int32) (v7 : Int32) (v8 : Int32) (v9 : Int32) (S : Sm) : Option ((Int32 × Int32 × Sm) ⊕ ((Sm) ⊕ (Sm))) := (some (.inl (v8, v9 + 1, S)))
set_option maxRecDepth 4000 in
theorem t_La_worth_261_L38 {V : Sm → Wd} (hV : VwC V) {l : Launch} {Γ : Gm} {v1 : Int32} {v2 : Int32} {v3 : Int32} {v4 : Int32} {v5 : Int32} {v7 : Int32} {v8 : Int32} {v9 : Int32} {rF : Option Value} {wF : Wd} {S : Sm} {o : (Int32 × Int32 × Sm) ⊕ ((Sm) ⊕ (Sm))} (h : La_worth_261_L38 v1 v2 v3 v4 v5 v7 v8 v9 S = some o) (hK : Sum.elim (hd_La_worth_L38 V l Γ rF wF v1 v2 v3 v4 v5 v7) (ps_La_worth_L38 V l Γ rF wF v1 v2 v3 v4 v5 v7) o) : G mX3_worth l Γ (rmD 3 0 0) (mQ Γ rF wF 0 0) 0 0 261 [some (.ref 20), some (.int v1), some (.int v2), some (.int v3), some (.int v4), some (.int v5), none, some (.int v7), some (.int v8), some (.int v9), none] [] (V S) := by
  unfold La_worth_261_L38 at h
  refine g_iinc (v := v9 + 1) (ls1 := [some (.ref 20), some (.int v1), some (.int v2), some (.int v3), some (.int v4), some (.int v5), none, some (.int v7), some (.int v8), some (.int (v9 + 1)), none]) (pc := 261) dX3_worth_261 rfl rfl (by decide) rfl ?_
  refine g_goto (tgt := 38) (pc := 264) dX3_worth_264 (by decide) ?_
  cases h
  exact hK
def La_worth_223_L38 (v1 : Int32) (v2 : Int32) (v3 : Int32) (v4 : Int32) (v5 : Int32) (v7 : Int32) (v9 : Int32) (s0 : Int32) (S : Sm) : Option ((Int32 × Int32 × Sm) ⊕ ((Sm) ⊕ (Sm))) := (La_worth_261_L38 v1 v2 v3 v4 v5 v7 s0 v9 S)
set_option maxRecDepth 4000 in
theorem t_La_worth_223_L38 {V : Sm → Wd} (hV : VwC V) {l : Launch} {Γ : Gm} {v1 : Int32} {v2 : Int32} {v3 : Int32} {v4 : Int32} {v5 : Int32} {v7 : Int32} {v9 : Int32} {s0 : Int32} {rF : Option Value} {wF : Wd} {S : Sm} {o : (Int32 × Int32 × Sm) ⊕ ((Sm) ⊕ (Sm))} (h : La_worth_223_L38 v1 v2 v3 v4 v5 v7 v9 s0 S = some o) (hK : Sum.elim (hd_La_worth_L38 V l Γ rF wF v1 v2 v3 v4 v5 v7) (ps_La_worth_L38 V l Γ rF wF v1 v2 v3 v4 v5 v7) o) : G mX3_worth l Γ (rmD 3 0 0) (mQ Γ rF wF 0 0) 0 0 223 [some (.ref 20), some (.int v1), some (.int v2), some (.int v3), some (.int v4), some (.int v5), none, some (.int v7), none, some (.int v9), none] [.int s0] (V S) := by
  unfold La_worth_223_L38 at h
  refine g_istore (ls1 := [some (.ref 20), some (.int v1), some (.int v2), some (.int v3), some (.int v4), some (.int v5), none, some (.int v7), some (.int s0), some (.int v9), none]) (pc := 223) dX3_worth_223 (by decide) rfl ?_
  refine g_goto (tgt := 261) (pc := 225) dX3_worth_225 (by decide) ?_
  exact t_La_worth_261_L38 hV h hK
def La_worth_258_L38 (v1 : Int32) (v2 : Int32) (v3 : Int32) (v4 : Int32) (v5 : Int32) (v7 : Int32) (v8 : Int32) (v9 : Int32) (s1 : Int32) (S : Sm) : Option ((Int32 × Int32 × Sm) ⊕ ((Sm) ⊕ (Sm))) := (app (La_push s1 S) fun q21 => (La_worth_261_L38 v1 v2 v3 v4 v5 v7 v8 v9 q21))
set_option maxRecDepth 4000 in
theorem t_La_worth_258_L38 {V : Sm → Wd} (hV : VwC V) {l : Launch} {Γ : Gm} {v1 : Int32} {v2 : Int32} {v3 : Int32} {v4 : Int32} {v5 : Int32} {v7 : Int32} {v8 : Int32} {v9 : Int32} {s1 : Int32} {rF : Option Value} {wF : Wd} {S : Sm} {o : (Int32 × Int32 × Sm) ⊕ ((Sm) ⊕ (Sm))} (h : La_worth_258_L38 v1 v2 v3 v4 v5 v7 v8 v9 s1 S = some o) (hK : Sum.elim (hd_La_worth_L38 V l Γ rF wF v1 v2 v3 v4 v5 v7) (ps_La_worth_L38 V l Γ rF wF v1 v2 v3 v4 v5 v7) o) : G mX3_worth l Γ (rmD 3 0 0) (mQ Γ rF wF 0 0) 0 0 258 [some (.ref 20), some (.int v1), some (.int v2), some (.int v3), some (.int v4), some (.int v5), none, some (.int v7), some (.int v8), some (.int v9), none] [.int s1, .ref 20] (V S) := by
  unfold La_worth_258_L38 at h
  obtain ⟨q21, hq21, h⟩ := app_of h
  refine v_callVv hV (Mc := mX3_push) (S1 := q21) (As := [.int s1]) (rest := []) (q := (RX3, TX3, 6)) (pc := 258) dX3_worth_258 mK_X3_41 mf_X3_push rfl k0_20 rfl rfl rfl (Nat.le_of_ble_eq_true rfl) ⟨Nat.le_of_ble_eq_true rfl, Nat.le_of_ble_eq_true rfl⟩ (r_La_push hV hq21) ?_
  exact t_La_worth_261_L38 hV h hK
def La_worth_73_L38 (v1 : Int32) (v2 : Int32) (v3 : Int32) (v4 : Int32) (v5 : Int32) (v7 : Int32) (v9 : Int32) (s0 : Int32) (S : Sm) : Option ((Int32 × Int32 × Sm) ⊕ ((Sm) ⊕ (Sm))) := (La_worth_261_L38 v1 v2 v3 v4 v5 v7 s0 v9 S)
set_option maxRecDepth 4000 in
theorem t_La_worth_73_L38 {V : Sm → Wd} (hV : VwC V) {l : Launch} {Γ : Gm} {v1 : Int32} {v2 : Int32} {v3 : Int32} {v4 : Int32} {v5 : Int32} {v7 : Int32} {v9 : Int32} {s0 : Int32} {rF : Option Value} {wF : Wd} {S : Sm} {o : (Int32 × Int32 × Sm) ⊕ ((Sm) ⊕ (Sm))} (h : La_worth_73_L38 v1 v2 v3 v4 v5 v7 v9 s0 S = some o) (hK : Sum.elim (hd_La_worth_L38 V l Γ rF wF v1 v2 v3 v4 v5 v7) (ps_La_worth_L38 V l Γ rF wF v1 v2 v3 v4 v5 v7) o) : G mX3_worth l Γ (rmD 3 0 0) (mQ Γ rF wF 0 0) 0 0 73 [some (.ref 20), some (.int v1), some (.int v2), some (.int v3), some (.int v4), some (.int v5), none, some (.int v7), none, some (.int v9), none] [.int s0] (V S) := by
  unfold La_worth_73_L38 at h
  refine g_istore (ls1 := [some (.ref 20), some (.int v1), some (.int v2), some (.int v3), some (.int v4), some (.int v5), none, some (.int v7), some (.int s0), some (.int v9), none]) (pc := 73) dX3_worth_73 (by decide) rfl ?_
  refine g_goto (tgt := 261) (pc := 75) dX3_worth_75 (by decide) ?_
  exact t_La_worth_261_L38 hV h hK
def La_worth_L38 (v1 : Int32) (v2 : Int32) (v3 : Int32) (v4 : Int32) (v5 : Int32) (v7 : Int32) (q : Int32 × Int32 × Sm) : Option ((Int32 × Int32 × Sm) ⊕ ((Sm) ⊕ (Sm))) := (if v7 ≤ q.2.1 then (some (.inr (.inr q.2.2))) else (if q.1 = 0 then (if (atF (gi q.2.2 21) 1200 q.2.1) = (-108 : Int32) then (app (La_push v2 q.2.2) fun q2 => (La_worth_261_L38 v1 v2 v3 v4 v5 v7 q.1 q.2.1 q2)) else (if (atF (gi q.2.2 21) 1200 q.2.1) = (-103 : Int32) then (app (La_push v5 q.2.2) fun q4 => (La_worth_261_L38 v1 v2 v3 v4 v5 v7 q.1 q.2.1 q4)) else (if (atF (gi q.2.2 21) 1200 q.2.1) = (-99 : Int32) then (app (La_push v1 q.2.2) fun q6 => (La_worth_261_L38 v1 v2 v3 v4 v5 v7 q.1 q.2.1 q6)) else (if (atF (gi q.2.2 21) 1200 q.2.1) = (-98 : Int32) then (app (La_push v4 q.2.2) fun q8 => (La_worth_261_L38 v1 v2 v3 v4 v5 v7 q.1 q.2.1 q8)) else (if (atF (gi q.2.2 21) 1200 q.2.1) = (-97 : Int32) then (app (La_push v3 q.2.2) fun q10 => (La_worth_261_L38 v1 v2 v3 v4 v5 v7 q.1 q.2.1 q10)) else (if (atF (gi q.2.2 21) 1200 q.2.1) = (-63 : Int32) then (app (La_pop q.2.2) fun q12 => (if q12.1 = 0 then (La_worth_223_L38 v1 v2 v3 v4 v5 v7 q.2.1 1 q12.2) else (La_worth_223_L38 v1 v2 v3 v4 v5 v7 q.2.1 0 q12.2))) else (if (atF (gi q.2.2 21) 1200 q.2.1) = (-59 : Int32) then (some (.inr (.inl q.2.2))) else (if (atF (gi q.2.2 21) 1200 q.2.1) = (-33 : Int32) then (app (La_pop q.2.2) fun q16 => (app (La_push (1 - q16.1) q16.2) fun q17 => (La_worth_261_L38 v1 v2 v3 v4 v5 v7 q.1 q.2.1 q17))) else (if (atF (gi q.2.2 21) 1200 q.2.1) < 0 then (app (La_pop q.2.2) fun q18 => (app (La_pop q18.2) fun q19 => ((La_joined (-(atF (gi q.2.2 21) 1200 q.2.1)) q18.1 q19.1).bind fun q20 => (La_worth_258_L38 v1 v2 v3 v4 v5 v7 q.1 q.2.1 q20 q19.2)))) else (La_worth_258_L38 v1 v2 v3 v4 v5 v7 q.1 q.2.1 (atF (gi q.2.2 21) 1200 q.2.1) q.2.2)))))))))) else (if (atF (gi q.2.2 21) 1200 q.2.1) = ((-59)) then (La_worth_73_L38 v1 v2 v3 v4 v5 v7 q.2.1 0 q.2.2) else (La_worth_73_L38 v1 v2 v3 v4 v5 v7 q.2.1 1 q.2.2))))
set_option maxRecDepth 4000 in
theorem t_La_worth_L38 {V : Sm → Wd} (hV : VwC V) {l : Launch} {Γ : Gm} {rF : Option Value} {wF : Wd} {v1 : Int32} {v2 : Int32} {v3 : Int32} {v4 : Int32} {v5 : Int32} {v7 : Int32} {q : Int32 × Int32 × Sm} {o : (Int32 × Int32 × Sm) ⊕ ((Sm) ⊕ (Sm))} (h : La_worth_L38 v1 v2 v3 v4 v5 v7 q = some o) (hK : Sum.elim (hd_La_worth_L38 V l Γ rF wF v1 v2 v3 v4 v5 v7) (ps_La_worth_L38 V l Γ rF wF v1 v2 v3 v4 v5 v7) o) : hd_La_worth_L38 V l Γ rF wF v1 v2 v3 v4 v5 v7 q := by
  unfold La_worth_L38 at h
  unfold hd_La_worth_L38
  refine g_iload (pc := 38) dX3_worth_38 rfl ?_
  refine g_iload (pc := 40) dX3_worth_40 rfl ?_
  refine g_icmp_ge (tgt := 267) (pc := 42) dX3_worth_42 (by decide) (fun c25 => ?_) (fun c25 => ?_)
  · rw [if_pos c25] at h
    refine g_wk [false, false, false, false, false, false, false, false, false, false, false] rfl ?_
    cases h
    exact hK
  · rw [if_neg c25] at h
    refine g_aload_n (pc := 45) dX3_worth_45 rfl ?_
    refine v_getR hV (pc := 46) dX3_worth_46 fo_3_0 rfl k0_20 r0_20_0 ?_
    refine g_iload (pc := 49) dX3_worth_49 rfl ?_
    refine v_callNi (Mc := mX11_at) (v := atF (gi q.2.2 21) 1200 q.2.1) (S1 := q.2.2) (As := [.ref 21, .int q.2.1]) (rest := []) (pc := 51) dX3_worth_51 nl_X3_37 mf_X11_at rfl rfl (Nat.le_of_ble_eq_true rfl) ⟨Nat.le_of_ble_eq_true rfl, Nat.le_of_ble_eq_true rfl⟩ (r_at hV k0_21 own_21 (by decide)) ?_
    refine g_istore (ls1 := [some (.ref 20), some (.int v1), some (.int v2), some (.int v3), some (.int v4), some (.int v5), none, some (.int v7), some (.int q.1), some (.int q.2.1), some (.int (atF (gi q.2.2 21) 1200 q.2.1))]) (pc := 54) dX3_worth_54 (by decide) rfl ?_
    refine g_iload (pc := 56) dX3_worth_56 rfl ?_
    refine g_if_eq (tgt := 78) (pc := 58) dX3_worth_58 (by decide) (fun c24 => ?_) (fun c24 => ?_)
    · rw [if_pos c24] at h
      refine g_iload (pc := 78) dX3_worth_78 rfl ?_
      by_cases c1 : (atF (gi q.2.2 21) 1200 q.2.1) = (-108 : Int32)
      · rw [if_pos c1] at h
        refine g_lookup (off := 84) (tgt := 164) (pc := 80) dX3_worth_80 (by decide) (by rw [c1]; rfl) (by decide) ?_
        refine g_aload_n (pc := 164) dX3_worth_164 rfl ?_
        refine g_iload_n (pc := 165) dX3_worth_165 rfl ?_
        obtain ⟨q2, hq2, h⟩ := app_of h
        refine v_callVv hV (Mc := mX3_push) (S1 := q2) (As := [.int v2]) (rest := []) (q := (RX3, TX3, 6)) (pc := 166) dX3_worth_166 mK_X3_41 mf_X3_push rfl k0_20 rfl rfl rfl (Nat.le_of_ble_eq_true rfl) ⟨Nat.le_of_ble_eq_true rfl, Nat.le_of_ble_eq_true rfl⟩ (r_La_push hV hq2) ?_
        refine g_goto (tgt := 261) (pc := 169) dX3_worth_169 (by decide) ?_
        refine g_wk [true, true, true, true, true, true, false, true, true, true, false] rfl ?_
        exact t_La_worth_261_L38 hV h hK
      · rw [if_neg c1] at h
        by_cases c3 : (atF (gi q.2.2 21) 1200 q.2.1) = (-103 : Int32)
        · rw [if_pos c3] at h
          refine g_lookup (off := 109) (tgt := 189) (pc := 80) dX3_worth_80 (by decide) ((lv_osw c1 rfl).trans (by rw [c3]; rfl)) (by decide) ?_
          refine g_aload_n (pc := 189) dX3_worth_189 rfl ?_
          refine g_iload (pc := 190) dX3_worth_190 rfl ?_
          obtain ⟨q4, hq4, h⟩ := app_of h
          refine v_callVv hV (Mc := mX3_push) (S1 := q4) (As := [.int v5]) (rest := []) (q := (RX3, TX3, 6)) (pc := 192) dX3_worth_192 mK_X3_41 mf_X3_push rfl k0_20 rfl rfl rfl (Nat.le_of_ble_eq_true rfl) ⟨Nat.le_of_ble_eq_true rfl, Nat.le_of_ble_eq_true rfl⟩ (r_La_push hV hq4) ?_
          refine g_goto (tgt := 261) (pc := 195) dX3_worth_195 (by decide) ?_
          refine g_wk [true, true, true, true, true, true, false, true, true, true, false] rfl ?_
          exact t_La_worth_261_L38 hV h hK
        · rw [if_neg c3] at h
          by_cases c5 : (atF (gi q.2.2 21) 1200 q.2.1) = (-99 : Int32)
          · rw [if_pos c5] at h
            refine g_lookup (off := 76) (tgt := 156) (pc := 80) dX3_worth_80 (by decide) ((lv_osw c1 rfl).trans ((lv_osw c3 rfl).trans (by rw [c5]; rfl))) (by decide) ?_
            refine g_aload_n (pc := 156) dX3_worth_156 rfl ?_
            refine g_iload_n (pc := 157) dX3_worth_157 rfl ?_
            obtain ⟨q6, hq6, h⟩ := app_of h
            refine v_callVv hV (Mc := mX3_push) (S1 := q6) (As := [.int v1]) (rest := []) (q := (RX3, TX3, 6)) (pc := 158) dX3_worth_158 mK_X3_41 mf_X3_push rfl k0_20 rfl rfl rfl (Nat.le_of_ble_eq_true rfl) ⟨Nat.le_of_ble_eq_true rfl, Nat.le_of_ble_eq_true rfl⟩ (r_La_push hV hq6) ?_
            refine g_goto (tgt := 261) (pc := 161) dX3_worth_161 (by decide) ?_
            refine g_wk [true, true, true, true, true, true, false, true, true, true, false] rfl ?_
            exact t_La_worth_261_L38 hV h hK
          · rw [if_neg c5] at h
            by_cases c7 : (atF (gi q.2.2 21) 1200 q.2.1) = (-98 : Int32)
            · rw [if_pos c7] at h
              refine g_lookup (off := 100) (tgt := 180) (pc := 80) dX3_worth_80 (by decide) ((lv_osw c1 rfl).trans ((lv_osw c3 rfl).trans ((lv_osw c5 rfl).trans (by rw [c7]; rfl)))) (by decide) ?_
              refine g_aload_n (pc := 180) dX3_worth_180 rfl ?_
              refine g_iload (pc := 181) dX3_worth_181 rfl ?_
              obtain ⟨q8, hq8, h⟩ := app_of h
              refine v_callVv hV (Mc := mX3_push) (S1 := q8) (As := [.int v4]) (rest := []) (q := (RX3, TX3, 6)) (pc := 183) dX3_worth_183 mK_X3_41 mf_X3_push rfl k0_20 rfl rfl rfl (Nat.le_of_ble_eq_true rfl) ⟨Nat.le_of_ble_eq_true rfl, Nat.le_of_ble_eq_true rfl⟩ (r_La_push hV hq8) ?_
              refine g_goto (tgt := 261) (pc := 186) dX3_worth_186 (by decide) ?_
              refine g_wk [true, true, true, true, true, true, false, true, true, true, false] rfl ?_
              exact t_La_worth_261_L38 hV h hK
            · rw [if_neg c7] at h
              by_cases c9 : (atF (gi q.2.2 21) 1200 q.2.1) = (-97 : Int32)
              · rw [if_pos c9] at h
                refine g_lookup (off := 92) (tgt := 172) (pc := 80) dX3_worth_80 (by decide) ((lv_osw c1 rfl).trans ((lv_osw c3 rfl).trans ((lv_osw c5 rfl).trans ((lv_osw c7 rfl).trans (by rw [c9]; rfl))))) (by decide) ?_
                refine g_aload_n (pc := 172) dX3_worth_172 rfl ?_
                refine g_iload_n (pc := 173) dX3_worth_173 rfl ?_
                obtain ⟨q10, hq10, h⟩ := app_of h
                refine v_callVv hV (Mc := mX3_push) (S1 := q10) (As := [.int v3]) (rest := []) (q := (RX3, TX3, 6)) (pc := 174) dX3_worth_174 mK_X3_41 mf_X3_push rfl k0_20 rfl rfl rfl (Nat.le_of_ble_eq_true rfl) ⟨Nat.le_of_ble_eq_true rfl, Nat.le_of_ble_eq_true rfl⟩ (r_La_push hV hq10) ?_
                refine g_goto (tgt := 261) (pc := 177) dX3_worth_177 (by decide) ?_
                refine g_wk [true, true, true, true, true, true, false, true, true, true, false] rfl ?_
                exact t_La_worth_261_L38 hV h hK
              · rw [if_neg c9] at h
                by_cases c11 : (atF (gi q.2.2 21) 1200 q.2.1) = (-63 : Int32)
                · rw [if_pos c11] at h
                  refine g_lookup (off := 131) (tgt := 211) (pc := 80) dX3_worth_80 (by decide) ((lv_osw c1 rfl).trans ((lv_osw c3 rfl).trans ((lv_osw c5 rfl).trans ((lv_osw c7 rfl).trans ((lv_osw c9 rfl).trans (by rw [c11]; rfl)))))) (by decide) ?_
                  refine g_aload_n (pc := 211) dX3_worth_211 rfl ?_
                  obtain ⟨q12, hq12, h⟩ := app_of h
                  refine v_callVi hV (Mc := mX3_pop) (v := q12.1) (S1 := q12.2) (As := []) (rest := []) (q := (RX3, TX3, 6)) (pc := 212) dX3_worth_212 mK_X3_45 mf_X3_pop rfl k0_20 rfl rfl rfl (Nat.le_of_ble_eq_true rfl) ⟨Nat.le_of_ble_eq_true rfl, Nat.le_of_ble_eq_true rfl⟩ (r_La_pop hV hq12) ?_
                  refine g_if_ne (tgt := 222) (pc := 215) dX3_worth_215 (by decide) (fun c13 => ?_) (fun c13 => ?_)
                  · rw [if_neg c13] at h
                    refine g_iconst (v := 0) (pc := 222) dX3_worth_222 (by decide) ?_
                    refine g_wk [true, true, true, true, true, true, false, true, false, true, false] rfl ?_
                    exact t_La_worth_223_L38 hV h hK
                  · rw [if_pos c13] at h
                    refine g_iconst (v := 1) (pc := 218) dX3_worth_218 (by decide) ?_
                    refine g_goto (tgt := 223) (pc := 219) dX3_worth_219 (by decide) ?_
                    refine g_wk [true, true, true, true, true, true, false, true, false, true, false] rfl ?_
                    exact t_La_worth_223_L38 hV h hK
                · rw [if_neg c11] at h
                  by_cases c14 : (atF (gi q.2.2 21) 1200 q.2.1) = (-59 : Int32)
                  · rw [if_pos c14] at h
                    refine g_lookup (off := 148) (tgt := 228) (pc := 80) dX3_worth_80 (by decide) ((lv_osw c1 rfl).trans ((lv_osw c3 rfl).trans ((lv_osw c5 rfl).trans ((lv_osw c7 rfl).trans ((lv_osw c9 rfl).trans ((lv_osw c11 rfl).trans (by rw [c14]; rfl))))))) (by decide) ?_
                    refine g_wk [true, false, false, false, false, false, false, false, false, false, false] rfl ?_
                    cases h
                    exact hK
                  · rw [if_neg c14] at h
                    by_cases c15 : (atF (gi q.2.2 21) 1200 q.2.1) = (-33 : Int32)
                    · rw [if_pos c15] at h
                      refine g_lookup (off := 118) (tgt := 198) (pc := 80) dX3_worth_80 (by decide) ((lv_osw c1 rfl).trans ((lv_osw c3 rfl).trans ((lv_osw c5 rfl).trans ((lv_osw c7 rfl).trans ((lv_osw c9 rfl).trans ((lv_osw c11 rfl).trans ((lv_osw c14 rfl).trans (by rw [c15]; rfl)))))))) (by decide) ?_
                      refine g_aload_n (pc := 198) dX3_worth_198 rfl ?_
                      refine g_iconst (v := 1) (pc := 199) dX3_worth_199 (by decide) ?_
                      refine g_aload_n (pc := 200) dX3_worth_200 rfl ?_
                      obtain ⟨q16, hq16, h⟩ := app_of h
                      refine v_callVi hV (Mc := mX3_pop) (v := q16.1) (S1 := q16.2) (As := []) (rest := [.int 1, .ref 20]) (q := (RX3, TX3, 6)) (pc := 201) dX3_worth_201 mK_X3_45 mf_X3_pop rfl k0_20 rfl rfl rfl (Nat.le_of_ble_eq_true rfl) ⟨Nat.le_of_ble_eq_true rfl, Nat.le_of_ble_eq_true rfl⟩ (r_La_pop hV hq16) ?_
                      refine g_isub (pc := 204) dX3_worth_204 ?_
                      obtain ⟨q17, hq17, h⟩ := app_of h
                      refine v_callVv hV (Mc := mX3_push) (S1 := q17) (As := [.int (1 - q16.1)]) (rest := []) (q := (RX3, TX3, 6)) (pc := 205) dX3_worth_205 mK_X3_41 mf_X3_push rfl k0_20 rfl rfl rfl (Nat.le_of_ble_eq_true rfl) ⟨Nat.le_of_ble_eq_true rfl, Nat.le_of_ble_eq_true rfl⟩ (r_La_push hV hq17) ?_
                      refine g_goto (tgt := 261) (pc := 208) dX3_worth_208 (by decide) ?_
                      refine g_wk [true, true, true, true, true, true, false, true, true, true, false] rfl ?_
                      exact t_La_worth_261_L38 hV h hK
                    · rw [if_neg c15] at h
                      refine g_lookup (off := 153) (tgt := 233) (pc := 80) dX3_worth_80 (by decide) ((lv_osw c1 rfl).trans ((lv_osw c3 rfl).trans ((lv_osw c5 rfl).trans ((lv_osw c7 rfl).trans ((lv_osw c9 rfl).trans ((lv_osw c11 rfl).trans ((lv_osw c14 rfl).trans ((lv_osw c15 rfl).trans (rfl))))))))) (by decide) ?_
                      refine g_aload_n (pc := 233) dX3_worth_233 rfl ?_
                      refine g_iload (pc := 234) dX3_worth_234 rfl ?_
                      refine g_if_lt (tgt := 244) (pc := 236) dX3_worth_236 (by decide) (fun c22 => ?_) (fun c22 => ?_)
                      · rw [if_pos c22] at h
                        refine g_iload (pc := 244) dX3_worth_244 rfl ?_
                        refine g_ineg (pc := 246) dX3_worth_246 ?_
                        refine g_aload_n (pc := 247) dX3_worth_247 rfl ?_
                        obtain ⟨q18, hq18, h⟩ := app_of h
                        refine v_callVi hV (Mc := mX3_pop) (v := q18.1) (S1 := q18.2) (As := []) (rest := [.int (-(atF (gi q.2.2 21) 1200 q.2.1)), .ref 20]) (q := (RX3, TX3, 6)) (pc := 248) dX3_worth_248 mK_X3_45 mf_X3_pop rfl k0_20 rfl rfl rfl (Nat.le_of_ble_eq_true rfl) ⟨Nat.le_of_ble_eq_true rfl, Nat.le_of_ble_eq_true rfl⟩ (r_La_pop hV hq18) ?_
                        refine g_aload_n (pc := 251) dX3_worth_251 rfl ?_
                        obtain ⟨q19, hq19, h⟩ := app_of h
                        refine v_callVi hV (Mc := mX3_pop) (v := q19.1) (S1 := q19.2) (As := []) (rest := [.int q18.1, .int (-(atF (gi q.2.2 21) 1200 q.2.1)), .ref 20]) (q := (RX3, TX3, 6)) (pc := 252) dX3_worth_252 mK_X3_45 mf_X3_pop rfl k0_20 rfl rfl rfl (Nat.le_of_ble_eq_true rfl) ⟨Nat.le_of_ble_eq_true rfl, Nat.le_of_ble_eq_true rfl⟩ (r_La_pop hV hq19) ?_
                        obtain ⟨q20, hq20, h⟩ := bnd h
                        refine v_callSi (Mc := mX3_joined) (v := q20) (S1 := q19.2) (As := [.int (-(atF (gi q.2.2 21) 1200 q.2.1)), .int q18.1, .int q19.1]) (rest := [.ref 20]) (pc := 255) dX3_worth_255 mK_X3_49 mf_X3_joined rfl rfl (Nat.le_of_ble_eq_true rfl) ⟨Nat.le_of_ble_eq_true rfl, Nat.le_of_ble_eq_true rfl⟩ (r_La_joined hV hq20) ?_
                        refine g_wk [true, true, true, true, true, true, false, true, true, true, false] rfl ?_
                        exact t_La_worth_258_L38 hV h hK
                      · rw [if_neg c22] at h
                        refine g_iload (pc := 239) dX3_worth_239 rfl ?_
                        refine g_goto (tgt := 258) (pc := 241) dX3_worth_241 (by decide) ?_
                        refine g_wk [true, true, true, true, true, true, false, true, true, true, false] rfl ?_
                        exact t_La_worth_258_L38 hV h hK
    · rw [if_neg c24] at h
      refine g_iload (pc := 61) dX3_worth_61 rfl ?_
      refine g_bipush (v := (-59)) (pc := 63) dX3_worth_63 (by decide) ?_
      refine g_icmp_eq (tgt := 72) (pc := 65) dX3_worth_65 (by decide) (fun c23 => ?_) (fun c23 => ?_)
      · rw [if_pos c23] at h
        refine g_iconst (v := 0) (pc := 72) dX3_worth_72 (by decide) ?_
        refine g_wk [true, true, true, true, true, true, false, true, false, true, false] rfl ?_
        exact t_La_worth_73_L38 hV h hK
      · rw [if_neg c23] at h
        refine g_iconst (v := 1) (pc := 68) dX3_worth_68 (by decide) ?_
        refine g_goto (tgt := 73) (pc := 69) dX3_worth_69 (by decide) ?_
        refine g_wk [true, true, true, true, true, true, false, true, false, true, false] rfl ?_
        exact t_La_worth_73_L38 hV h hK
set_option maxRecDepth 4000 in
theorem w_La_worth_L38 {V : Sm → Wd} (hV : VwC V) {l : Launch} {Γ : Gm} {rF : Option Value} {wF : Wd} {v1 : Int32} {v2 : Int32} {v3 : Int32} {v4 : Int32} {v5 : Int32} {v7 : Int32} {k : Nat} {q : Int32 × Int32 × Sm} {o : (Sm) ⊕ (Sm)} (h : lpN (La_worth_L38 v1 v2 v3 v4 v5 v7) k q = some o) (hP : ps_La_worth_L38 V l Γ rF wF v1 v2 v3 v4 v5 v7 o) : hd_La_worth_L38 V l Γ rF wF v1 v2 v3 v4 v5 v7 q := lpN_ind2 (hd_La_worth_L38 V l Γ rF wF v1 v2 v3 v4 v5 v7) (ps_La_worth_L38 V l Γ rF wF v1 v2 v3 v4 v5 v7) (fun s o h hK => t_La_worth_L38 hV h hK) k q o h hP
def La_worth (v1 : Int32) (v2 : Int32) (v3 : Int32) (v4 : Int32) (v5 : Int32) (S : Sm) : Option (Int32 × Sm) := ((lpN (La_worth_L38 v1 v2 v3 v4 v5 (((gi S 20 5) * 240) + (atF (gi S 22) 5 (gi S 20 5)))) FU (0, (gi S 20 5) * 240, si S 20 3 0)).bind fun q26 => (Sum.elim (fun a27 => (app (La_pop a27) fun q29 => (some ((q29.1, q29.2))))) (fun a28 => (some ((0, a28)))) q26))
set_option maxRecDepth 4000 in
theorem r_La_worth {V : Sm → Wd} (hV : VwC V) {v1 : Int32} {v2 : Int32} {v3 : Int32} {v4 : Int32} {v5 : Int32} {S : Sm} {q : Int32 × Sm} (h : La_worth v1 v2 v3 v4 v5 S = some q) : Runs 3 mX3_worth [.ref 20, .int v1, .int v2, .int v3, .int v4, .int v5] (V S) (some (.int q.1)) (V q.2) 0 0 := by
  unfold La_worth at h
  refine Runs.of2 [some (.ref 20), some (.int v1), some (.int v2), some (.int v3), some (.int v4), some (.int v5), none, none, none, none, none] 5 rfl rfl (Nat.le_of_ble_eq_true rfl) (fun l Γ => ?_)
  refine g_aload_n (pc := 0) dX3_worth_0 rfl ?_
  refine v_getI hV (pc := 1) dX3_worth_1 fo_3_5 rfl k0_20 own_20 ?_
  refine g_sipush (v := 240) (pc := 4) dX3_worth_4 (by decide) ?_
  refine g_imul (pc := 7) dX3_worth_7 ?_
  refine g_istore (ls1 := [some (.ref 20), some (.int v1), some (.int v2), some (.int v3), some (.int v4), some (.int v5), some (.int ((gi S 20 5) * 240)), none, none, none, none]) (pc := 8) dX3_worth_8 (by decide) rfl ?_
  refine g_iload (pc := 10) dX3_worth_10 rfl ?_
  refine g_aload_n (pc := 12) dX3_worth_12 rfl ?_
  refine v_getR hV (pc := 13) dX3_worth_13 fo_3_1 rfl k0_20 r0_20_1 ?_
  refine g_aload_n (pc := 16) dX3_worth_16 rfl ?_
  refine v_getI hV (pc := 17) dX3_worth_17 fo_3_5 rfl k0_20 own_20 ?_
  refine v_callNi (Mc := mX11_at) (v := atF (gi S 22) 5 (gi S 20 5)) (S1 := S) (As := [.ref 22, .int (gi S 20 5)]) (rest := [.int ((gi S 20 5) * 240)]) (pc := 20) dX3_worth_20 nl_X3_37 mf_X11_at rfl rfl (Nat.le_of_ble_eq_true rfl) ⟨Nat.le_of_ble_eq_true rfl, Nat.le_of_ble_eq_true rfl⟩ (r_at hV k0_22 own_22 (by decide)) ?_
  refine g_iadd (pc := 23) dX3_worth_23 ?_
  refine g_istore (ls1 := [some (.ref 20), some (.int v1), some (.int v2), some (.int v3), some (.int v4), some (.int v5), some (.int ((gi S 20 5) * 240)), some (.int (((gi S 20 5) * 240) + (atF (gi S 22) 5 (gi S 20 5)))), none, none, none]) (pc := 24) dX3_worth_24 (by decide) rfl ?_
  refine g_iconst (v := 0) (pc := 26) dX3_worth_26 (by decide) ?_
  refine g_istore (ls1 := [some (.ref 20), some (.int v1), some (.int v2), some (.int v3), some (.int v4), some (.int v5), some (.int ((gi S 20 5) * 240)), some (.int (((gi S 20 5) * 240) + (atF (gi S 22) 5 (gi S 20 5)))), some (.int 0), none, none]) (pc := 27) dX3_worth_27 (by decide) rfl ?_
  refine g_aload_n (pc := 29) dX3_worth_29 rfl ?_
  refine g_iconst (v := 0) (pc := 30) dX3_worth_30 (by decide) ?_
  refine v_putI hV (pc := 31) dX3_worth_31 fo_3_3 rfl k0_20 own_20 rfl ?_
  refine g_iload (pc := 34) dX3_worth_34 rfl ?_
  refine g_istore (ls1 := [some (.ref 20), some (.int v1), some (.int v2), some (.int v3), some (.int v4), some (.int v5), some (.int ((gi S 20 5) * 240)), some (.int (((gi S 20 5) * 240) + (atF (gi S 22) 5 (gi S 20 5)))), some (.int 0), some (.int ((gi S 20 5) * 240)), none]) (pc := 36) dX3_worth_36 (by decide) rfl ?_
  refine g_wk [true, true, true, true, true, true, false, true, true, true, false] rfl ?_
  obtain ⟨q26, hqq26, h⟩ := bnd h
  refine w_La_worth_L38 hV hqq26 ?_
  unfold ps_La_worth_L38
  cases q26 with
  | inl a27 =>
    simp only [Sum.elim_inl] at h
    show G _ _ _ _ _ _ _ _ _ _ _
    refine g_aload_n (pc := 228) dX3_worth_228 rfl ?_
    obtain ⟨q29, hq29, h⟩ := app_of h
    refine v_callVi hV (Mc := mX3_pop) (v := q29.1) (S1 := q29.2) (As := []) (rest := []) (q := (RX3, TX3, 6)) (pc := 229) dX3_worth_229 mK_X3_45 mf_X3_pop rfl k0_20 rfl rfl rfl (Nat.le_of_ble_eq_true rfl) ⟨Nat.le_of_ble_eq_true rfl, Nat.le_of_ble_eq_true rfl⟩ (r_La_pop hV hq29) ?_
    cases h
    exact g_iret (pc := 232) dX3_worth_232 rfl rfl (Nat.le_refl _) (Nat.le_refl _)
  | inr a28 =>
    simp only [Sum.elim_inr] at h
    show G _ _ _ _ _ _ _ _ _ _ _
    refine g_iconst (v := 0) (pc := 267) dX3_worth_267 (by decide) ?_
    cases h
    exact g_iret (pc := 268) dX3_worth_268 rfl rfl (Nat.le_refl _) (Nat.le_refl _)
def Wy_priceOf (v1 : Int32) (v2 : Int32) (S : Sm) : Option (Int32 × Sm) := (if (La_holding S) = ((-1)) then (some ((Wy_takes v1 v2 S, S))) else ((La_worth v2 (Wy_takes v1 v2 S) v1 (Wy_leadsTo v1 v2 S) (Mo_guardsAt (Wy_leadsTo v1 v2 S) S) S).bind fun q1 => (some ((iMax 0 (iMin 99 q1.1), q1.2)))))
set_option maxRecDepth 4000 in
theorem r_Wy_priceOf {V : Sm → Wd} (hV : VwC V) {v1 : Int32} {v2 : Int32} {S : Sm} {q : Int32 × Sm} (h : Wy_priceOf v1 v2 S = some q) : Runs 4 mX10_priceOf [.ref 37, .int v1, .int v2] (V S) (some (.int q.1)) (V q.2) 0 0 := by
  unfold Wy_priceOf at h
  refine Runs.of2 [some (.ref 37), some (.int v1), some (.int v2), none, none, none] 3 rfl rfl (Nat.le_of_ble_eq_true rfl) (fun l Γ => ?_)
  refine g_aload_n (pc := 0) dX10_priceOf_0 rfl ?_
  refine g_iload_n (pc := 1) dX10_priceOf_1 rfl ?_
  refine g_iload_n (pc := 2) dX10_priceOf_2 rfl ?_
  refine v_callVi hV (Mc := mX10_takes) (v := Wy_takes v1 v2 S) (S1 := S) (As := [.int v1, .int v2]) (rest := []) (q := (RX10, TX10, 5)) (pc := 3) dX10_priceOf_3 mK_X10_41 mf_X10_takes rfl k0_37 rfl rfl rfl (Nat.le_of_ble_eq_true rfl) ⟨Nat.le_of_ble_eq_true rfl, Nat.le_of_ble_eq_true rfl⟩ (r_Wy_takes hV rfl) ?_
  refine g_istore_n (ls1 := [some (.ref 37), some (.int v1), some (.int v2), some (.int (Wy_takes v1 v2 S)), none, none]) (pc := 6) dX10_priceOf_6 (by decide) rfl ?_
  refine g_aload_n (pc := 7) dX10_priceOf_7 rfl ?_
  refine v_getR hV (pc := 8) dX10_priceOf_8 fo_10_1 rfl k0_37 r0_37_1 ?_
  refine v_callVi hV (Mc := mX3_holding) (v := La_holding S) (S1 := S) (As := []) (rest := []) (q := (RX3, TX3, 6)) (pc := 11) dX10_priceOf_11 mK_X10_44 mf_X3_holding rfl k0_20 rfl rfl rfl (Nat.le_of_ble_eq_true rfl) ⟨Nat.le_of_ble_eq_true rfl, Nat.le_of_ble_eq_true rfl⟩ (r_La_holding hV rfl) ?_
  refine g_iconst (v := (-1)) (pc := 14) dX10_priceOf_14 (by decide) ?_
  refine g_icmp_ne (tgt := 20) (pc := 15) dX10_priceOf_15 (by decide) (fun c2 => ?_) (fun c2 => ?_)
  · rw [if_neg c2] at h
    refine g_aload_n (pc := 20) dX10_priceOf_20 rfl ?_
    refine g_iload_n (pc := 21) dX10_priceOf_21 rfl ?_
    refine g_iload_n (pc := 22) dX10_priceOf_22 rfl ?_
    refine v_callVi hV (Mc := mX10_leadsTo) (v := Wy_leadsTo v1 v2 S) (S1 := S) (As := [.int v1, .int v2]) (rest := []) (q := (RX10, TX10, 5)) (pc := 23) dX10_priceOf_23 mK_X10_50 mf_X10_leadsTo rfl k0_37 rfl rfl rfl (Nat.le_of_ble_eq_true rfl) ⟨Nat.le_of_ble_eq_true rfl, Nat.le_of_ble_eq_true rfl⟩ (r_Wy_leadsTo hV rfl) ?_
    refine g_istore (ls1 := [some (.ref 37), some (.int v1), some (.int v2), some (.int (Wy_takes v1 v2 S)), some (.int (Wy_leadsTo v1 v2 S)), none]) (pc := 26) dX10_priceOf_26 (by decide) rfl ?_
    refine g_aload_n (pc := 28) dX10_priceOf_28 rfl ?_
    refine v_getR hV (pc := 29) dX10_priceOf_29 fo_10_1 rfl k0_37 r0_37_1 ?_
    refine g_iload_n (pc := 32) dX10_priceOf_32 rfl ?_
    refine g_iload_n (pc := 33) dX10_priceOf_33 rfl ?_
    refine g_iload_n (pc := 34) dX10_priceOf_34 rfl ?_
    refine g_iload (pc := 35) dX10_priceOf_35 rfl ?_
    refine g_aload_n (pc := 37) dX10_priceOf_37 rfl ?_
    refine v_getR hV (pc := 38) dX10_priceOf_38 fo_10_2 rfl k0_37 r0_37_2 ?_
    refine g_iload (pc := 41) dX10_priceOf_41 rfl ?_
    refine v_callVi hV (Mc := mX4_guardsAt) (v := Mo_guardsAt (Wy_leadsTo v1 v2 S) S) (S1 := S) (As := [.int (Wy_leadsTo v1 v2 S)]) (rest := [.int (Wy_leadsTo v1 v2 S), .int v1, .int (Wy_takes v1 v2 S), .int v2, .ref 20]) (q := (RX4, TX4, 8)) (pc := 43) dX10_priceOf_43 mK_X10_53 mf_X4_guardsAt rfl k0_25 rfl rfl rfl (Nat.le_of_ble_eq_true rfl) ⟨Nat.le_of_ble_eq_true rfl, Nat.le_of_ble_eq_true rfl⟩ (r_Mo_guardsAt hV rfl) ?_
    obtain ⟨q1, hq1, h⟩ := bnd h
    refine v_callVi hV (Mc := mX3_worth) (v := q1.1) (S1 := q1.2) (As := [.int v2, .int (Wy_takes v1 v2 S), .int v1, .int (Wy_leadsTo v1 v2 S), .int (Mo_guardsAt (Wy_leadsTo v1 v2 S) S)]) (rest := []) (q := (RX3, TX3, 6)) (pc := 46) dX10_priceOf_46 mK_X10_57 mf_X3_worth rfl k0_20 rfl rfl rfl (Nat.le_of_ble_eq_true rfl) ⟨Nat.le_of_ble_eq_true rfl, Nat.le_of_ble_eq_true rfl⟩ (r_La_worth hV hq1) ?_
    refine g_istore (ls1 := [some (.ref 37), some (.int v1), some (.int v2), some (.int (Wy_takes v1 v2 S)), some (.int (Wy_leadsTo v1 v2 S)), some (.int q1.1)]) (pc := 49) dX10_priceOf_49 (by decide) rfl ?_
    refine g_iconst (v := 0) (pc := 51) dX10_priceOf_51 (by decide) ?_
    refine g_bipush (v := 99) (pc := 52) dX10_priceOf_52 (by decide) ?_
    refine g_iload (pc := 54) dX10_priceOf_54 rfl ?_
    refine g_iMin (pc := 56) dX10_priceOf_56 mK_X10_61 ⟨Nat.le_of_ble_eq_true rfl, Nat.le_of_ble_eq_true rfl⟩ (Nat.zero_le _) (Nat.zero_le _) ?_
    refine g_iMax (pc := 59) dX10_priceOf_59 mK_X10_66 ⟨Nat.le_of_ble_eq_true rfl, Nat.le_of_ble_eq_true rfl⟩ (Nat.zero_le _) (Nat.zero_le _) ?_
    cases h
    exact g_iret (pc := 62) dX10_priceOf_62 rfl rfl (Nat.le_refl _) (Nat.le_refl _)
  · rw [if_pos c2] at h
    refine g_iload_n (pc := 18) dX10_priceOf_18 rfl ?_
    cases h
    exact g_iret (pc := 19) dX10_priceOf_19 rfl rfl (Nat.le_refl _) (Nat.le_refl _)
def Dk_dark_22 (S : Sm) : Option (Int32 × Sm) := (some (((-1), S)))
set_option maxRecDepth 4000 in
theorem t_Dk_dark_22 {V : Sm → Wd} (hV : VwC V) {l : Launch} {Γ : Gm}  {S : Sm} {q : Int32 × Sm} (h : Dk_dark_22 S = some q) : G mX11_dark l Γ (rmD 5 0 0) (mQ Γ (some (.int q.1)) (V q.2) 0 0) 0 0 22 [none, none, none, none] [] (V S) := by
  unfold Dk_dark_22 at h
  refine g_iconst (v := (-1)) (pc := 22) dX11_dark_22 (by decide) ?_
  cases h
  exact g_iret (pc := 23) dX11_dark_23 rfl rfl (Nat.le_refl _) (Nat.le_refl _)
def Dk_dark_78 (s0 : Int32) (S : Sm) : Option (Int32 × Sm) := (some ((s0, S)))
set_option maxRecDepth 4000 in
theorem t_Dk_dark_78 {V : Sm → Wd} (hV : VwC V) {l : Launch} {Γ : Gm} {s0 : Int32} {S : Sm} {q : Int32 × Sm} (h : Dk_dark_78 s0 S = some q) : G mX11_dark l Γ (rmD 5 0 0) (mQ Γ (some (.int q.1)) (V q.2) 0 0) 0 0 78 [none, none, none, none] [.int s0] (V S) := by
  unfold Dk_dark_78 at h
  cases h
  exact g_iret (pc := 78) dX11_dark_78 rfl rfl (Nat.le_refl _) (Nat.le_refl _)
def Dk_dark (v1 : Int32) (v2 : Int32) (v3 : Int32) (S : Sm) : Option (Int32 × Sm) := (if (Nt_hasMouth v1 S) = 0 then (Dk_dark_22 S) else (if (Nt_hasLamp v2 S) = 0 then (Dk_dark_22 S) else (if v3 = (0 : Int32) then (if (Wy_isUnknown v1 v2 S) = 0 then (Dk_dark_78 (Wy_leadsTo v1 v2 S) S) else (Dk_dark_78 ((-1000000)) S)) else (if v3 = (1 : Int32) then (some ((Wy_takes v1 v2 S, S))) else (if v3 = (2 : Int32) then ((Wy_priceOf v1 v2 S).bind fun q5 => (some ((q5.1, q5.2)))) else (some (((-1), S))))))))
set_option maxRecDepth 4000 in
theorem r_Dk_dark {V : Sm → Wd} (hV : VwC V) {v1 : Int32} {v2 : Int32} {v3 : Int32} {S : Sm} {q : Int32 × Sm} (h : Dk_dark v1 v2 v3 S = some q) : Runs 5 mX11_dark [.ref 7, .int v1, .int v2, .int v3] (V S) (some (.int q.1)) (V q.2) 0 0 := by
  unfold Dk_dark at h
  refine Runs.of2 [some (.ref 7), some (.int v1), some (.int v2), some (.int v3)] 0 rfl rfl (Nat.le_of_ble_eq_true rfl) (fun l Γ => ?_)
  refine g_aload_n (pc := 0) dX11_dark_0 rfl ?_
  refine v_getR hV (pc := 1) dX11_dark_1 fo_11_1 rfl k0_7 r0_7_1 ?_
  refine g_iload_n (pc := 4) dX11_dark_4 rfl ?_
  refine v_callVi hV (Mc := mX5_hasMouth) (v := Nt_hasMouth v1 S) (S1 := S) (As := [.int v1]) (rest := []) (q := (RX5, TX5, 3)) (pc := 5) dX11_dark_5 mK_X11_140 mf_X5_hasMouth rfl k0_10 rfl rfl rfl (Nat.le_of_ble_eq_true rfl) ⟨Nat.le_of_ble_eq_true rfl, Nat.le_of_ble_eq_true rfl⟩ (r_Nt_hasMouth hV rfl) ?_
  refine g_if_eq (tgt := 22) (pc := 8) dX11_dark_8 (by decide) (fun c7 => ?_) (fun c7 => ?_)
  · rw [if_pos c7] at h
    refine g_wk [false, false, false, false] rfl ?_
    exact t_Dk_dark_22 hV h
  · rw [if_neg c7] at h
    refine g_aload_n (pc := 11) dX11_dark_11 rfl ?_
    refine v_getR hV (pc := 12) dX11_dark_12 fo_11_1 rfl k0_7 r0_7_1 ?_
    refine g_iload_n (pc := 15) dX11_dark_15 rfl ?_
    refine v_callVi hV (Mc := mX5_hasLamp) (v := Nt_hasLamp v2 S) (S1 := S) (As := [.int v2]) (rest := []) (q := (RX5, TX5, 3)) (pc := 16) dX11_dark_16 mK_X11_143 mf_X5_hasLamp rfl k0_10 rfl rfl rfl (Nat.le_of_ble_eq_true rfl) ⟨Nat.le_of_ble_eq_true rfl, Nat.le_of_ble_eq_true rfl⟩ (r_Nt_hasLamp hV rfl) ?_
    refine g_if_ne (tgt := 24) (pc := 19) dX11_dark_19 (by decide) (fun c6 => ?_) (fun c6 => ?_)
    · rw [if_neg c6] at h
      refine g_iload_n (pc := 24) dX11_dark_24 rfl ?_
      by_cases c1 : v3 = (0 : Int32)
      · rw [if_pos c1] at h
        refine g_tab (off := 27) (tgt := 52) (pc := 25) dX11_dark_25 (by rw [c1]; decide +kernel) (by decide) (by decide +kernel) ?_
        refine g_aload_n (pc := 52) dX11_dark_52 rfl ?_
        refine v_getR hV (pc := 53) dX11_dark_53 fo_11_8 rfl k0_7 r0_7_8 ?_
        refine g_iload_n (pc := 56) dX11_dark_56 rfl ?_
        refine g_iload_n (pc := 57) dX11_dark_57 rfl ?_
        refine v_callVi hV (Mc := mX10_isUnknown) (v := Wy_isUnknown v1 v2 S) (S1 := S) (As := [.int v1, .int v2]) (rest := []) (q := (RX10, TX10, 5)) (pc := 58) dX11_dark_58 mK_X11_146 mf_X10_isUnknown rfl k0_37 rfl rfl rfl (Nat.le_of_ble_eq_true rfl) ⟨Nat.le_of_ble_eq_true rfl, Nat.le_of_ble_eq_true rfl⟩ (r_Wy_isUnknown hV rfl) ?_
        refine g_if_eq (tgt := 69) (pc := 61) dX11_dark_61 (by decide) (fun c2 => ?_) (fun c2 => ?_)
        · rw [if_pos c2] at h
          refine g_aload_n (pc := 69) dX11_dark_69 rfl ?_
          refine v_getR hV (pc := 70) dX11_dark_70 fo_11_8 rfl k0_7 r0_7_8 ?_
          refine g_iload_n (pc := 73) dX11_dark_73 rfl ?_
          refine g_iload_n (pc := 74) dX11_dark_74 rfl ?_
          refine v_callVi hV (Mc := mX10_leadsTo) (v := Wy_leadsTo v1 v2 S) (S1 := S) (As := [.int v1, .int v2]) (rest := []) (q := (RX10, TX10, 5)) (pc := 75) dX11_dark_75 mK_X11_151 mf_X10_leadsTo rfl k0_37 rfl rfl rfl (Nat.le_of_ble_eq_true rfl) ⟨Nat.le_of_ble_eq_true rfl, Nat.le_of_ble_eq_true rfl⟩ (r_Wy_leadsTo hV rfl) ?_
          refine g_wk [false, false, false, false] rfl ?_
          exact t_Dk_dark_78 hV h
        · rw [if_neg c2] at h
          refine g_ldc (v := (-1000000)) (pc := 64) dX11_dark_64 kI_X11_150 ?_
          refine g_goto (tgt := 78) (pc := 66) dX11_dark_66 (by decide) ?_
          refine g_wk [false, false, false, false] rfl ?_
          exact t_Dk_dark_78 hV h
      · rw [if_neg c1] at h
        by_cases c3 : v3 = (1 : Int32)
        · rw [if_pos c3] at h
          refine g_tab (off := 54) (tgt := 79) (pc := 25) dX11_dark_25 (by rw [c3]; decide +kernel) (by decide) (by decide +kernel) ?_
          refine g_aload_n (pc := 79) dX11_dark_79 rfl ?_
          refine v_getR hV (pc := 80) dX11_dark_80 fo_11_8 rfl k0_7 r0_7_8 ?_
          refine g_iload_n (pc := 83) dX11_dark_83 rfl ?_
          refine g_iload_n (pc := 84) dX11_dark_84 rfl ?_
          refine v_callVi hV (Mc := mX10_takes) (v := Wy_takes v1 v2 S) (S1 := S) (As := [.int v1, .int v2]) (rest := []) (q := (RX10, TX10, 5)) (pc := 85) dX11_dark_85 mK_X11_155 mf_X10_takes rfl k0_37 rfl rfl rfl (Nat.le_of_ble_eq_true rfl) ⟨Nat.le_of_ble_eq_true rfl, Nat.le_of_ble_eq_true rfl⟩ (r_Wy_takes hV rfl) ?_
          cases h
          exact g_iret (pc := 88) dX11_dark_88 rfl rfl (Nat.le_refl _) (Nat.le_refl _)
        · rw [if_neg c3] at h
          by_cases c4 : v3 = (2 : Int32)
          · rw [if_pos c4] at h
            refine g_tab (off := 64) (tgt := 89) (pc := 25) dX11_dark_25 (by rw [c4]; decide +kernel) (by decide) (by decide +kernel) ?_
            refine g_aload_n (pc := 89) dX11_dark_89 rfl ?_
            refine v_getR hV (pc := 90) dX11_dark_90 fo_11_8 rfl k0_7 r0_7_8 ?_
            refine g_iload_n (pc := 93) dX11_dark_93 rfl ?_
            refine g_iload_n (pc := 94) dX11_dark_94 rfl ?_
            obtain ⟨q5, hq5, h⟩ := bnd h
            refine v_callVi hV (Mc := mX10_priceOf) (v := q5.1) (S1 := q5.2) (As := [.int v1, .int v2]) (rest := []) (q := (RX10, TX10, 5)) (pc := 95) dX11_dark_95 mK_X11_158 mf_X10_priceOf rfl k0_37 rfl rfl rfl (Nat.le_of_ble_eq_true rfl) ⟨Nat.le_of_ble_eq_true rfl, Nat.le_of_ble_eq_true rfl⟩ (r_Wy_priceOf hV hq5) ?_
            cases h
            exact g_iret (pc := 98) dX11_dark_98 rfl rfl (Nat.le_refl _) (Nat.le_refl _)
          · rw [if_neg c4] at h
            refine g_tab (off := 74) (tgt := 99) (pc := 25) dX11_dark_25 ?_ (by decide) (by decide +kernel) ?_
            ·
              refine tab_dflt (ok := [0, 1, 2]) (fun k hk => ?_) (by decide +kernel)
              have e0 := lv_neT c1 (a := 0) rfl
              have e1 := lv_neT c3 (a := 1) rfl
              have e2 := lv_neT c4 (a := 2) rfl
              simp only [List.mem_cons, List.not_mem_nil, or_false] at hk
              omega
            ·
              refine g_iconst (v := (-1)) (pc := 99) dX11_dark_99 (by decide) ?_
              cases h
              exact g_iret (pc := 100) dX11_dark_100 rfl rfl (Nat.le_refl _) (Nat.le_refl _)
    · rw [if_pos c6] at h
      refine g_wk [false, false, false, false] rfl ?_
      exact t_Dk_dark_22 hV h
def Mo_hasTrain_17 (s0 : Int32) (S : Sm) : Int32 := (s0 &&& 1)
set_option maxRecDepth 4000 in
theorem t_Mo_hasTrain_17 {V : Sm → Wd} (hV : VwC V) {l : Launch} {Γ : Gm} {s0 : Int32} {S : Sm} {q : Int32} (h : Mo_hasTrain_17 s0 S = q) : G mX4_hasTrain l Γ (rmD 0 0 0) (mQ Γ (some (.int q)) (V S) 0 0) 0 0 17 [none, none] [.int s0] (V S) := by
  unfold Mo_hasTrain_17 at h
  subst h
  exact g_iret (pc := 17) dX4_hasTrain_17 rfl rfl (Nat.le_refl _) (Nat.le_refl _)
def Mo_hasTrain_16 (S : Sm) : Int32 := (Mo_hasTrain_17 0 S)
set_option maxRecDepth 4000 in
theorem t_Mo_hasTrain_16 {V : Sm → Wd} (hV : VwC V) {l : Launch} {Γ : Gm}  {S : Sm} {q : Int32} (h : Mo_hasTrain_16 S = q) : G mX4_hasTrain l Γ (rmD 0 0 0) (mQ Γ (some (.int q)) (V S) 0 0) 0 0 16 [none, none] [] (V S) := by
  unfold Mo_hasTrain_16 at h
  refine g_iconst (v := 0) (pc := 16) dX4_hasTrain_16 (by decide) ?_
  exact t_Mo_hasTrain_17 hV h
def Mo_hasTrain (v1 : Int32) (S : Sm) : Int32 := (if v1 < 0 then (Mo_hasTrain_16 S) else (if (gi S 25 4) ≤ v1 then (Mo_hasTrain_16 S) else (Mo_hasTrain_17 1 S)))
set_option maxRecDepth 4000 in
theorem r_Mo_hasTrain {V : Sm → Wd} (hV : VwC V) {v1 : Int32} {S : Sm} {q : Int32} (h : Mo_hasTrain v1 S = q) : Runs 0 mX4_hasTrain [.ref 25, .int v1] (V S) (some (.int q)) (V S) 0 0 := by
  unfold Mo_hasTrain at h
  refine Runs.of2 [some (.ref 25), some (.int v1)] 0 rfl rfl (Nat.le_of_ble_eq_true rfl) (fun l Γ => ?_)
  refine g_iload_n (pc := 0) dX4_hasTrain_0 rfl ?_
  refine g_if_lt (tgt := 16) (pc := 1) dX4_hasTrain_1 (by decide) (fun c2 => ?_) (fun c2 => ?_)
  · rw [if_pos c2] at h
    refine g_wk [false, false] rfl ?_
    exact t_Mo_hasTrain_16 hV h
  · rw [if_neg c2] at h
    refine g_iload_n (pc := 4) dX4_hasTrain_4 rfl ?_
    refine g_aload_n (pc := 5) dX4_hasTrain_5 rfl ?_
    refine v_getI hV (pc := 6) dX4_hasTrain_6 fo_4_4 rfl k0_25 own_25 ?_
    refine g_icmp_ge (tgt := 16) (pc := 9) dX4_hasTrain_9 (by decide) (fun c1 => ?_) (fun c1 => ?_)
    · rw [if_pos c1] at h
      refine g_wk [false, false] rfl ?_
      exact t_Mo_hasTrain_16 hV h
    · rw [if_neg c1] at h
      refine g_iconst (v := 1) (pc := 12) dX4_hasTrain_12 (by decide) ?_
      refine g_goto (tgt := 17) (pc := 13) dX4_hasTrain_13 (by decide) ?_
      refine g_wk [false, false] rfl ?_
      exact t_Mo_hasTrain_17 hV h
def Dk_guards_23 (s0 : Int32) (S : Sm) : Int32 := s0
set_option maxRecDepth 4000 in
theorem t_Dk_guards_23 {V : Sm → Wd} (hV : VwC V) {l : Launch} {Γ : Gm} {s0 : Int32} {S : Sm} {q : Int32} (h : Dk_guards_23 s0 S = q) : G mX11_guards l Γ (rmD 3 0 0) (mQ Γ (some (.int q)) (V S) 0 0) 0 0 23 [none, none] [.int s0] (V S) := by
  unfold Dk_guards_23 at h
  subst h
  exact g_iret (pc := 23) dX11_guards_23 rfl rfl (Nat.le_refl _) (Nat.le_refl _)
def Dk_guards (v1 : Int32) (S : Sm) : Int32 := (if (Nt_hasMouth v1 S) = 0 then (Dk_guards_23 ((-1)) S) else (Dk_guards_23 (Mo_guardsAt v1 S) S))
set_option maxRecDepth 4000 in
theorem r_Dk_guards {V : Sm → Wd} (hV : VwC V) {v1 : Int32} {S : Sm} {q : Int32} (h : Dk_guards v1 S = q) : Runs 3 mX11_guards [.ref 7, .int v1] (V S) (some (.int q)) (V S) 0 0 := by
  unfold Dk_guards at h
  refine Runs.of2 [some (.ref 7), some (.int v1)] 0 rfl rfl (Nat.le_of_ble_eq_true rfl) (fun l Γ => ?_)
  refine g_aload_n (pc := 0) dX11_guards_0 rfl ?_
  refine v_getR hV (pc := 1) dX11_guards_1 fo_11_1 rfl k0_7 r0_7_1 ?_
  refine g_iload_n (pc := 4) dX11_guards_4 rfl ?_
  refine v_callVi hV (Mc := mX5_hasMouth) (v := Nt_hasMouth v1 S) (S1 := S) (As := [.int v1]) (rest := []) (q := (RX5, TX5, 3)) (pc := 5) dX11_guards_5 mK_X11_140 mf_X5_hasMouth rfl k0_10 rfl rfl rfl (Nat.le_of_ble_eq_true rfl) ⟨Nat.le_of_ble_eq_true rfl, Nat.le_of_ble_eq_true rfl⟩ (r_Nt_hasMouth hV rfl) ?_
  refine g_if_eq (tgt := 22) (pc := 8) dX11_guards_8 (by decide) (fun c1 => ?_) (fun c1 => ?_)
  · rw [if_pos c1] at h
    refine g_iconst (v := (-1)) (pc := 22) dX11_guards_22 (by decide) ?_
    refine g_wk [false, false] rfl ?_
    exact t_Dk_guards_23 hV h
  · rw [if_neg c1] at h
    refine g_aload_n (pc := 11) dX11_guards_11 rfl ?_
    refine v_getR hV (pc := 12) dX11_guards_12 fo_11_6 rfl k0_7 r0_7_6 ?_
    refine g_iload_n (pc := 15) dX11_guards_15 rfl ?_
    refine v_callVi hV (Mc := mX4_guardsAt) (v := Mo_guardsAt v1 S) (S1 := S) (As := [.int v1]) (rest := []) (q := (RX4, TX4, 8)) (pc := 16) dX11_guards_16 mK_X11_174 mf_X4_guardsAt rfl k0_25 rfl rfl rfl (Nat.le_of_ble_eq_true rfl) ⟨Nat.le_of_ble_eq_true rfl, Nat.le_of_ble_eq_true rfl⟩ (r_Mo_guardsAt hV rfl) ?_
    refine g_goto (tgt := 23) (pc := 19) dX11_guards_19 (by decide) ?_
    refine g_wk [false, false] rfl ?_
    exact t_Dk_guards_23 hV h
def La_choose_13 (S : Sm) : Int32 × Sm := ((0, S))
set_option maxRecDepth 4000 in
theorem t_La_choose_13 {V : Sm → Wd} (hV : VwC V) {l : Launch} {Γ : Gm}  {S : Sm} {q : Int32 × Sm} (h : La_choose_13 S = q) : G mX3_choose l Γ (rmD 0 0 0) (mQ Γ (some (.int q.1)) (V q.2) 0 0) 0 0 13 [none, none] [] (V S) := by
  unfold La_choose_13 at h
  refine g_iconst (v := 0) (pc := 13) dX3_choose_13 (by decide) ?_
  subst h
  exact g_iret (u := 0) (pc := 14) dX3_choose_14 rfl (by decide) (Nat.le_refl _) (Nat.le_refl _)
def La_choose (v1 : Int32) (S : Sm) : Int32 × Sm := (if v1 < ((-1)) then (La_choose_13 S) else (if v1 < (gi S 20 4) then ((1, si S 20 5 v1)) else (La_choose_13 S)))
set_option maxRecDepth 4000 in
theorem r_La_choose {V : Sm → Wd} (hV : VwC V) {v1 : Int32} {S : Sm} {q : Int32 × Sm} (h : La_choose v1 S = q) : Runs 0 mX3_choose [.ref 20, .int v1] (V S) (some (.int q.1)) (V q.2) 0 0 := by
  unfold La_choose at h
  refine Runs.of2 [some (.ref 20), some (.int v1)] 0 rfl rfl (Nat.le_of_ble_eq_true rfl) (fun l Γ => ?_)
  refine g_iload_n (pc := 0) dX3_choose_0 rfl ?_
  refine g_iconst (v := (-1)) (pc := 1) dX3_choose_1 (by decide) ?_
  refine g_icmp_lt (tgt := 13) (pc := 2) dX3_choose_2 (by decide) (fun c2 => ?_) (fun c2 => ?_)
  · rw [if_pos c2] at h
    refine g_wk [false, false] rfl ?_
    exact t_La_choose_13 hV h
  · rw [if_neg c2] at h
    refine g_iload_n (pc := 5) dX3_choose_5 rfl ?_
    refine g_aload_n (pc := 6) dX3_choose_6 rfl ?_
    refine v_getI hV (pc := 7) dX3_choose_7 fo_3_4 rfl k0_20 own_20 ?_
    refine g_icmp_lt (tgt := 15) (pc := 10) dX3_choose_10 (by decide) (fun c1 => ?_) (fun c1 => ?_)
    · rw [if_pos c1] at h
      refine g_aload_n (pc := 15) dX3_choose_15 rfl ?_
      refine g_iload_n (pc := 16) dX3_choose_16 rfl ?_
      refine v_putI hV (pc := 17) dX3_choose_17 fo_3_5 rfl k0_20 own_20 rfl ?_
      refine g_iconst (v := 1) (pc := 20) dX3_choose_20 (by decide) ?_
      subst h
      exact g_iret (u := 1) (pc := 21) dX3_choose_21 rfl (by decide) (Nat.le_refl _) (Nat.le_refl _)
    · rw [if_neg c1] at h
      refine g_wk [false, false] rfl ?_
      exact t_La_choose_13 hV h
def Dk_law (v1 : Int32) (S : Sm) : Int32 × Sm := (app (La_choose v1 S) fun q1 => ((q1.1 &&& 1, q1.2)))
set_option maxRecDepth 4000 in
theorem r_Dk_law {V : Sm → Wd} (hV : VwC V) {v1 : Int32} {S : Sm} {q : Int32 × Sm} (h : Dk_law v1 S = q) : Runs 1 mX11_law [.ref 7, .int v1] (V S) (some (.int q.1)) (V q.2) 0 0 := by
  unfold Dk_law at h
  refine Runs.of2 [some (.ref 7), some (.int v1)] 0 rfl rfl (Nat.le_of_ble_eq_true rfl) (fun l Γ => ?_)
  refine g_aload_n (pc := 0) dX11_law_0 rfl ?_
  refine v_getR hV (pc := 1) dX11_law_1 fo_11_4 rfl k0_7 r0_7_4 ?_
  refine g_iload_n (pc := 4) dX11_law_4 rfl ?_
  obtain ⟨q1, hq1, h⟩ := app_of h
  refine v_callVi hV (Mc := mX3_choose) (v := q1.1) (S1 := q1.2) (As := [.int v1]) (rest := []) (q := (RX3, TX3, 6)) (pc := 5) dX11_law_5 mK_X11_177 mf_X3_choose rfl k0_20 rfl rfl rfl (Nat.le_of_ble_eq_true rfl) ⟨Nat.le_of_ble_eq_true rfl, Nat.le_of_ble_eq_true rfl⟩ (r_La_choose hV hq1) ?_
  subst h
  exact g_iret (pc := 8) dX11_law_8 rfl rfl (Nat.le_refl _) (Nat.le_refl _)
def Mo_isFull_14 (s0 : Int32) (S : Sm) : Int32 := (s0 &&& 1)
set_option maxRecDepth 4000 in
theorem t_Mo_isFull_14 {V : Sm → Wd} (hV : VwC V) {l : Launch} {Γ : Gm} {s0 : Int32} {S : Sm} {q : Int32} (h : Mo_isFull_14 s0 S = q) : G mX4_isFull l Γ (rmD 0 0 0) (mQ Γ (some (.int q)) (V S) 0 0) 0 0 14 [none] [.int s0] (V S) := by
  unfold Mo_isFull_14 at h
  subst h
  exact g_iret (pc := 14) dX4_isFull_14 rfl rfl (Nat.le_refl _) (Nat.le_refl _)
def Mo_isFull (S : Sm) : Int32 := (if (gi S 25 4) < 8 then (Mo_isFull_14 0 S) else (Mo_isFull_14 1 S))
set_option maxRecDepth 4000 in
theorem r_Mo_isFull {V : Sm → Wd} (hV : VwC V)  {S : Sm} {q : Int32} (h : Mo_isFull S = q) : Runs 0 mX4_isFull [.ref 25] (V S) (some (.int q)) (V S) 0 0 := by
  unfold Mo_isFull at h
  refine Runs.of2 [some (.ref 25)] 0 rfl rfl (Nat.le_of_ble_eq_true rfl) (fun l Γ => ?_)
  refine g_aload_n (pc := 0) dX4_isFull_0 rfl ?_
  refine v_getI hV (pc := 1) dX4_isFull_1 fo_4_4 rfl k0_25 own_25 ?_
  refine g_bipush (v := 8) (pc := 4) dX4_isFull_4 (by decide) ?_
  refine g_icmp_lt (tgt := 13) (pc := 6) dX4_isFull_6 (by decide) (fun c1 => ?_) (fun c1 => ?_)
  · rw [if_pos c1] at h
    refine g_iconst (v := 0) (pc := 13) dX4_isFull_13 (by decide) ?_
    refine g_wk [false] rfl ?_
    exact t_Mo_isFull_14 hV h
  · rw [if_neg c1] at h
    refine g_iconst (v := 1) (pc := 9) dX4_isFull_9 (by decide) ?_
    refine g_goto (tgt := 14) (pc := 10) dX4_isFull_10 (by decide) ?_
    refine g_wk [false] rfl ?_
    exact t_Mo_isFull_14 hV h
def Mo_ofTrain (v1 : Int32) (v2 : Int32) (S : Sm) : Int32 := (atF (gi S 26) 56 ((v1 * 7) + v2))
set_option maxRecDepth 4000 in
theorem r_Mo_ofTrain {V : Sm → Wd} (hV : VwC V) {v1 : Int32} {v2 : Int32} {S : Sm} {q : Int32} (h : Mo_ofTrain v1 v2 S = q) : Runs 1 mX4_ofTrain [.ref 25, .int v1, .int v2] (V S) (some (.int q)) (V S) 0 0 := by
  unfold Mo_ofTrain at h
  refine Runs.of2 [some (.ref 25), some (.int v1), some (.int v2)] 0 rfl rfl (Nat.le_of_ble_eq_true rfl) (fun l Γ => ?_)
  refine g_aload_n (pc := 0) dX4_ofTrain_0 rfl ?_
  refine v_getR hV (pc := 1) dX4_ofTrain_1 fo_4_0 rfl k0_25 r0_25_0 ?_
  refine g_iload_n (pc := 4) dX4_ofTrain_4 rfl ?_
  refine g_bipush (v := 7) (pc := 5) dX4_ofTrain_5 (by decide) ?_
  refine g_imul (pc := 7) dX4_ofTrain_7 ?_
  refine g_iload_n (pc := 8) dX4_ofTrain_8 rfl ?_
  refine g_iadd (pc := 9) dX4_ofTrain_9 ?_
  refine v_callNi (Mc := mX11_at) (v := atF (gi S 26) 56 ((v1 * 7) + v2)) (S1 := S) (As := [.ref 26, .int ((v1 * 7) + v2)]) (rest := []) (pc := 10) dX4_ofTrain_10 nl_X4_76 mf_X11_at rfl rfl (Nat.le_of_ble_eq_true rfl) ⟨Nat.le_of_ble_eq_true rfl, Nat.le_of_ble_eq_true rfl⟩ (r_at hV k0_26 own_26 (by decide)) ?_
  subst h
  exact g_iret (pc := 13) dX4_ofTrain_13 rfl rfl (Nat.le_refl _) (Nat.le_refl _)
def Mo_hour (S : Sm) : Int32 := (gi S 25 5)
set_option maxRecDepth 4000 in
theorem r_Mo_hour {V : Sm → Wd} (hV : VwC V)  {S : Sm} {q : Int32} (h : Mo_hour S = q) : Runs 0 mX4_hour [.ref 25] (V S) (some (.int q)) (V S) 0 0 := by
  unfold Mo_hour at h
  refine Runs.of2 [some (.ref 25)] 0 rfl rfl (Nat.le_of_ble_eq_true rfl) (fun l Γ => ?_)
  refine g_aload_n (pc := 0) dX4_hour_0 rfl ?_
  refine v_getI hV (pc := 1) dX4_hour_1 fo_4_5 rfl k0_25 own_25 ?_
  subst h
  exact g_iret (pc := 4) dX4_hour_4 rfl rfl (Nat.le_refl _) (Nat.le_refl _)
def Nt_fade (S : Sm) : Int32 := (atF (gi S 11) 116 3)
set_option maxRecDepth 4000 in
theorem r_Nt_fade {V : Sm → Wd} (hV : VwC V)  {S : Sm} {q : Int32} (h : Nt_fade S = q) : Runs 1 mX5_fade [.ref 10] (V S) (some (.int q)) (V S) 0 0 := by
  unfold Nt_fade at h
  refine Runs.of2 [some (.ref 10)] 0 rfl rfl (Nat.le_of_ble_eq_true rfl) (fun l Γ => ?_)
  refine g_aload_n (pc := 0) dX5_fade_0 rfl ?_
  refine v_getR hV (pc := 1) dX5_fade_1 fo_5_0 rfl k0_10 r0_10_0 ?_
  refine g_iconst (v := 3) (pc := 4) dX5_fade_4 (by decide) ?_
  refine v_callNi (Mc := mX11_at) (v := atF (gi S 11) 116 3) (S1 := S) (As := [.ref 11, .int 3]) (rest := []) (pc := 5) dX5_fade_5 nl_X5_24 mf_X11_at rfl rfl (Nat.le_of_ble_eq_true rfl) ⟨Nat.le_of_ble_eq_true rfl, Nat.le_of_ble_eq_true rfl⟩ (r_at hV k0_11 own_11 (by decide)) ?_
  subst h
  exact g_iret (pc := 8) dX5_fade_8 rfl rfl (Nat.le_refl _) (Nat.le_refl _)
def Dk_faded_13 (v0 : Int32) : Option (Int32) := (some v0)
set_option maxRecDepth 4000 in
theorem t_Dk_faded_13 {V : Sm → Wd} (hV : VwC V) {l : Launch} {Γ : Gm} {v0 : Int32} {S : Sm} {q : Int32} (h : Dk_faded_13 v0 = some q) : G mX11_faded l Γ (rmD 0 0 0) (mQ Γ (some (.int q)) (V S) 0 0) 0 0 13 [some (.int v0), none, none, none] [] (V S) := by
  unfold Dk_faded_13 at h
  refine g_iload_n (pc := 13) dX11_faded_13 rfl ?_
  cases h
  exact g_iret (pc := 14) dX11_faded_14 rfl rfl (Nat.le_refl _) (Nat.le_refl _)
def Dk_faded_30 (s0 : Int32) : Option (Int32) := (some s0)
set_option maxRecDepth 4000 in
theorem t_Dk_faded_30 {V : Sm → Wd} (hV : VwC V) {l : Launch} {Γ : Gm} {s0 : Int32} {S : Sm} {q : Int32} (h : Dk_faded_30 s0 = some q) : G mX11_faded l Γ (rmD 0 0 0) (mQ Γ (some (.int q)) (V S) 0 0) 0 0 30 [none, none, none, none] [.int s0] (V S) := by
  unfold Dk_faded_30 at h
  cases h
  exact g_iret (pc := 30) dX11_faded_30 rfl rfl (Nat.le_refl _) (Nat.le_refl _)
def Dk_faded (v0 : Int32) (v1 : Int32) (v2 : Int32) : Option (Int32) := (if v0 = 5 then (Dk_faded_13 v0) else (if v2 ≤ 0 then (Dk_faded_13 v0) else (if (0 : Int32) ≤ v1 then (if v2 = (0 : Int32) then none else (if (0 : Int32) ≤ (v0 - (v1 / v2)) then (Dk_faded_30 (v0 - (v1 / v2))) else (Dk_faded_30 5))) else (Dk_faded_13 v0))))
set_option maxRecDepth 4000 in
theorem r_Dk_faded {V : Sm → Wd} (hV : VwC V) {v0 : Int32} {v1 : Int32} {v2 : Int32} {S : Sm} {q : Int32} (h : Dk_faded v0 v1 v2 = some q) : Runs 0 mX11_faded [.int v0, .int v1, .int v2] (V S) (some (.int q)) (V S) 0 0 := by
  unfold Dk_faded at h
  refine Runs.of2 [some (.int v0), some (.int v1), some (.int v2), none] 1 rfl rfl (Nat.le_of_ble_eq_true rfl) (fun l Γ => ?_)
  refine g_iload_n (pc := 0) dX11_faded_0 rfl ?_
  refine g_iconst (v := 5) (pc := 1) dX11_faded_1 (by decide) ?_
  refine g_icmp_eq (tgt := 13) (pc := 2) dX11_faded_2 (by decide) (fun c5 => ?_) (fun c5 => ?_)
  · rw [if_pos c5] at h
    refine g_wk [true, false, false, false] rfl ?_
    exact t_Dk_faded_13 hV h
  · rw [if_neg c5] at h
    refine g_iload_n (pc := 5) dX11_faded_5 rfl ?_
    refine g_if_le (tgt := 13) (pc := 6) dX11_faded_6 (by decide) (fun c4 => ?_) (fun c4 => ?_)
    · rw [if_pos c4] at h
      refine g_wk [true, false, false, false] rfl ?_
      exact t_Dk_faded_13 hV h
    · rw [if_neg c4] at h
      refine g_iload_n (pc := 9) dX11_faded_9 rfl ?_
      refine g_if_ge (tgt := 15) (pc := 10) dX11_faded_10 (by decide) (fun c3 => ?_) (fun c3 => ?_)
      · rw [if_pos c3] at h
        refine g_iload_n (pc := 15) dX11_faded_15 rfl ?_
        refine g_iload_n (pc := 16) dX11_faded_16 rfl ?_
        refine g_iload_n (pc := 17) dX11_faded_17 rfl ?_
        by_cases c2 : v2 = (0 : Int32)
        · rw [if_pos c2] at h; cases h
        · rw [if_neg c2] at h
          refine g_idiv (pc := 18) dX11_faded_18 c2 ?_
          refine g_isub (pc := 19) dX11_faded_19 ?_
          refine g_istore_n (ls1 := [some (.int v0), some (.int v1), some (.int v2), some (.int (v0 - (v1 / v2)))]) (pc := 20) dX11_faded_20 (by decide) rfl ?_
          refine g_iload_n (pc := 21) dX11_faded_21 rfl ?_
          refine g_if_ge (tgt := 29) (pc := 22) dX11_faded_22 (by decide) (fun c1 => ?_) (fun c1 => ?_)
          · rw [if_pos c1] at h
            refine g_iload_n (pc := 29) dX11_faded_29 rfl ?_
            refine g_wk [false, false, false, false] rfl ?_
            exact t_Dk_faded_30 hV h
          · rw [if_neg c1] at h
            refine g_iconst (v := 5) (pc := 25) dX11_faded_25 (by decide) ?_
            refine g_goto (tgt := 30) (pc := 26) dX11_faded_26 (by decide) ?_
            refine g_wk [false, false, false, false] rfl ?_
            exact t_Dk_faded_30 hV h
      · rw [if_neg c3] at h
        refine g_wk [true, false, false, false] rfl ?_
        exact t_Dk_faded_13 hV h
def Hr_lampOf (v1 : Int32) (S : Sm) : Option (Int32) := ((Dk_faded (Mo_ofTrain v1 1 S) ((Mo_hour S) - (Mo_ofTrain v1 3 S)) (Nt_fade S)).bind fun q1 => (some q1))
set_option maxRecDepth 4000 in
theorem r_Hr_lampOf {V : Sm → Wd} (hV : VwC V) {v1 : Int32} {S : Sm} {q : Int32} (h : Hr_lampOf v1 S = some q) : Runs 2 mX1_lampOf [.ref 40, .int v1] (V S) (some (.int q)) (V S) 0 0 := by
  unfold Hr_lampOf at h
  refine Runs.of2 [some (.ref 40), some (.int v1), none] 1 rfl rfl (Nat.le_of_ble_eq_true rfl) (fun l Γ => ?_)
  refine g_aload_n (pc := 0) dX1_lampOf_0 rfl ?_
  refine v_getR hV (pc := 1) dX1_lampOf_1 fo_1_1 rfl k0_40 r0_40_1 ?_
  refine v_callVi hV (Mc := mX4_hour) (v := Mo_hour S) (S1 := S) (As := []) (rest := []) (q := (RX4, TX4, 8)) (pc := 4) dX1_lampOf_4 mK_X1_39 mf_X4_hour rfl k0_25 rfl rfl rfl (Nat.le_of_ble_eq_true rfl) ⟨Nat.le_of_ble_eq_true rfl, Nat.le_of_ble_eq_true rfl⟩ (r_Mo_hour hV rfl) ?_
  refine g_aload_n (pc := 7) dX1_lampOf_7 rfl ?_
  refine v_getR hV (pc := 8) dX1_lampOf_8 fo_1_1 rfl k0_40 r0_40_1 ?_
  refine g_iload_n (pc := 11) dX1_lampOf_11 rfl ?_
  refine g_iconst (v := 3) (pc := 12) dX1_lampOf_12 (by decide) ?_
  refine v_callVi hV (Mc := mX4_ofTrain) (v := Mo_ofTrain v1 3 S) (S1 := S) (As := [.int v1, .int 3]) (rest := [.int (Mo_hour S)]) (q := (RX4, TX4, 8)) (pc := 13) dX1_lampOf_13 mK_X1_45 mf_X4_ofTrain rfl k0_25 rfl rfl rfl (Nat.le_of_ble_eq_true rfl) ⟨Nat.le_of_ble_eq_true rfl, Nat.le_of_ble_eq_true rfl⟩ (r_Mo_ofTrain hV rfl) ?_
  refine g_isub (pc := 16) dX1_lampOf_16 ?_
  refine g_istore_n (ls1 := [some (.ref 40), some (.int v1), some (.int ((Mo_hour S) - (Mo_ofTrain v1 3 S)))]) (pc := 17) dX1_lampOf_17 (by decide) rfl ?_
  refine g_aload_n (pc := 18) dX1_lampOf_18 rfl ?_
  refine v_getR hV (pc := 19) dX1_lampOf_19 fo_1_1 rfl k0_40 r0_40_1 ?_
  refine g_iload_n (pc := 22) dX1_lampOf_22 rfl ?_
  refine g_iconst (v := 1) (pc := 23) dX1_lampOf_23 (by decide) ?_
  refine v_callVi hV (Mc := mX4_ofTrain) (v := Mo_ofTrain v1 1 S) (S1 := S) (As := [.int v1, .int 1]) (rest := []) (q := (RX4, TX4, 8)) (pc := 24) dX1_lampOf_24 mK_X1_45 mf_X4_ofTrain rfl k0_25 rfl rfl rfl (Nat.le_of_ble_eq_true rfl) ⟨Nat.le_of_ble_eq_true rfl, Nat.le_of_ble_eq_true rfl⟩ (r_Mo_ofTrain hV rfl) ?_
  refine g_iload_n (pc := 27) dX1_lampOf_27 rfl ?_
  refine g_aload_n (pc := 28) dX1_lampOf_28 rfl ?_
  refine v_getR hV (pc := 29) dX1_lampOf_29 fo_1_0 rfl k0_40 r0_40_0 ?_
  refine v_callVi hV (Mc := mX5_fade) (v := Nt_fade S) (S1 := S) (As := []) (rest := [.int ((Mo_hour S) - (Mo_ofTrain v1 3 S)), .int (Mo_ofTrain v1 1 S)]) (q := (RX5, TX5, 3)) (pc := 32) dX1_lampOf_32 mK_X1_49 mf_X5_fade rfl k0_10 rfl rfl rfl (Nat.le_of_ble_eq_true rfl) ⟨Nat.le_of_ble_eq_true rfl, Nat.le_of_ble_eq_true rfl⟩ (r_Nt_fade hV rfl) ?_
  obtain ⟨q1, hq1, h⟩ := bnd h
  refine v_callNi (Mc := mX11_faded) (v := q1) (S1 := S) (As := [.int (Mo_ofTrain v1 1 S), .int ((Mo_hour S) - (Mo_ofTrain v1 3 S)), .int (Nt_fade S)]) (rest := []) (pc := 35) dX1_lampOf_35 nl_X1_54 mf_X11_faded rfl rfl (Nat.le_of_ble_eq_true rfl) ⟨Nat.le_of_ble_eq_true rfl, Nat.le_of_ble_eq_true rfl⟩ (r_Dk_faded hV hq1) ?_
  cases h
  exact g_iret (pc := 38) dX1_lampOf_38 rfl rfl (Nat.le_refl _) (Nat.le_refl _)
def Nt_isTold_12 (s0 : Int32) (S : Sm) : Int32 := (s0 &&& 1)
set_option maxRecDepth 4000 in
theorem t_Nt_isTold_12 {V : Sm → Wd} (hV : VwC V) {l : Launch} {Γ : Gm} {s0 : Int32} {S : Sm} {q : Int32} (h : Nt_isTold_12 s0 S = q) : G mX5_isTold l Γ (rmD 2 0 0) (mQ Γ (some (.int q)) (V S) 0 0) 0 0 12 [none] [.int s0] (V S) := by
  unfold Nt_isTold_12 at h
  subst h
  exact g_iret (pc := 12) dX5_isTold_12 rfl rfl (Nat.le_refl _) (Nat.le_refl _)
def Nt_isTold (S : Sm) : Int32 := (if (Nt_mouths S) ≤ 0 then (Nt_isTold_12 0 S) else (Nt_isTold_12 1 S))
set_option maxRecDepth 4000 in
theorem r_Nt_isTold {V : Sm → Wd} (hV : VwC V)  {S : Sm} {q : Int32} (h : Nt_isTold S = q) : Runs 2 mX5_isTold [.ref 10] (V S) (some (.int q)) (V S) 0 0 := by
  unfold Nt_isTold at h
  refine Runs.of2 [some (.ref 10)] 0 rfl rfl (Nat.le_of_ble_eq_true rfl) (fun l Γ => ?_)
  refine g_aload_n (pc := 0) dX5_isTold_0 rfl ?_
  refine v_callVi hV (Mc := mX5_mouths) (v := Nt_mouths S) (S1 := S) (As := []) (rest := []) (q := (RX5, TX5, 3)) (pc := 1) dX5_isTold_1 mK_X5_46 mf_X5_mouths rfl k0_10 rfl rfl rfl (Nat.le_of_ble_eq_true rfl) ⟨Nat.le_of_ble_eq_true rfl, Nat.le_of_ble_eq_true rfl⟩ (r_Nt_mouths hV rfl) ?_
  refine g_if_le (tgt := 11) (pc := 4) dX5_isTold_4 (by decide) (fun c1 => ?_) (fun c1 => ?_)
  · rw [if_pos c1] at h
    refine g_iconst (v := 0) (pc := 11) dX5_isTold_11 (by decide) ?_
    refine g_wk [false] rfl ?_
    exact t_Nt_isTold_12 hV h
  · rw [if_neg c1] at h
    refine g_iconst (v := 1) (pc := 7) dX5_isTold_7 (by decide) ?_
    refine g_goto (tgt := 12) (pc := 8) dX5_isTold_8 (by decide) ?_
    refine g_wk [false] rfl ?_
    exact t_Nt_isTold_12 hV h
def Hr_canPass_42 (s0 : Int32) (S : Sm) : Int32 := (s0 &&& 1)
set_option maxRecDepth 4000 in
theorem t_Hr_canPass_42 {V : Sm → Wd} (hV : VwC V) {l : Launch} {Γ : Gm} {s0 : Int32} {S : Sm} {q : Int32} (h : Hr_canPass_42 s0 S = q) : G mX1_canPass l Γ (rmD 3 0 0) (mQ Γ (some (.int q)) (V S) 0 0) 0 0 42 [none, none] [.int s0] (V S) := by
  unfold Hr_canPass_42 at h
  subst h
  exact g_iret (pc := 42) dX1_canPass_42 rfl rfl (Nat.le_refl _) (Nat.le_refl _)
def Hr_canPass_41 (S : Sm) : Int32 := (Hr_canPass_42 0 S)
set_option maxRecDepth 4000 in
theorem t_Hr_canPass_41 {V : Sm → Wd} (hV : VwC V) {l : Launch} {Γ : Gm}  {S : Sm} {q : Int32} (h : Hr_canPass_41 S = q) : G mX1_canPass l Γ (rmD 3 0 0) (mQ Γ (some (.int q)) (V S) 0 0) 0 0 41 [none, none] [] (V S) := by
  unfold Hr_canPass_41 at h
  refine g_iconst (v := 0) (pc := 41) dX1_canPass_41 (by decide) ?_
  exact t_Hr_canPass_42 hV h
def Hr_canPass (v1 : Int32) (S : Sm) : Int32 := (if (Nt_isTold S) = 0 then (Hr_canPass_41 S) else (if v1 < 1 then (Hr_canPass_41 S) else (if (200 : Int32) < v1 then (Hr_canPass_41 S) else (if (9999 : Int32) < ((Mo_hour S) + v1) then (Hr_canPass_41 S) else (Hr_canPass_42 1 S)))))
set_option maxRecDepth 4000 in
theorem r_Hr_canPass {V : Sm → Wd} (hV : VwC V) {v1 : Int32} {S : Sm} {q : Int32} (h : Hr_canPass v1 S = q) : Runs 3 mX1_canPass [.ref 40, .int v1] (V S) (some (.int q)) (V S) 0 0 := by
  unfold Hr_canPass at h
  refine Runs.of2 [some (.ref 40), some (.int v1)] 0 rfl rfl (Nat.le_of_ble_eq_true rfl) (fun l Γ => ?_)
  refine g_aload_n (pc := 0) dX1_canPass_0 rfl ?_
  refine v_getR hV (pc := 1) dX1_canPass_1 fo_1_0 rfl k0_40 r0_40_0 ?_
  refine v_callVi hV (Mc := mX5_isTold) (v := Nt_isTold S) (S1 := S) (As := []) (rest := []) (q := (RX5, TX5, 3)) (pc := 4) dX1_canPass_4 mK_X1_58 mf_X5_isTold rfl k0_10 rfl rfl rfl (Nat.le_of_ble_eq_true rfl) ⟨Nat.le_of_ble_eq_true rfl, Nat.le_of_ble_eq_true rfl⟩ (r_Nt_isTold hV rfl) ?_
  refine g_if_eq (tgt := 41) (pc := 7) dX1_canPass_7 (by decide) (fun c4 => ?_) (fun c4 => ?_)
  · rw [if_pos c4] at h
    refine g_wk [false, false] rfl ?_
    exact t_Hr_canPass_41 hV h
  · rw [if_neg c4] at h
    refine g_iload_n (pc := 10) dX1_canPass_10 rfl ?_
    refine g_iconst (v := 1) (pc := 11) dX1_canPass_11 (by decide) ?_
    refine g_icmp_lt (tgt := 41) (pc := 12) dX1_canPass_12 (by decide) (fun c3 => ?_) (fun c3 => ?_)
    · rw [if_pos c3] at h
      refine g_wk [false, false] rfl ?_
      exact t_Hr_canPass_41 hV h
    · rw [if_neg c3] at h
      refine g_iload_n (pc := 15) dX1_canPass_15 rfl ?_
      refine g_sipush (v := 200) (pc := 16) dX1_canPass_16 (by decide) ?_
      refine g_icmp_gt (tgt := 41) (pc := 19) dX1_canPass_19 (by decide) (fun c2 => ?_) (fun c2 => ?_)
      · rw [if_pos c2] at h
        refine g_wk [false, false] rfl ?_
        exact t_Hr_canPass_41 hV h
      · rw [if_neg c2] at h
        refine g_aload_n (pc := 22) dX1_canPass_22 rfl ?_
        refine v_getR hV (pc := 23) dX1_canPass_23 fo_1_1 rfl k0_40 r0_40_1 ?_
        refine v_callVi hV (Mc := mX4_hour) (v := Mo_hour S) (S1 := S) (As := []) (rest := []) (q := (RX4, TX4, 8)) (pc := 26) dX1_canPass_26 mK_X1_39 mf_X4_hour rfl k0_25 rfl rfl rfl (Nat.le_of_ble_eq_true rfl) ⟨Nat.le_of_ble_eq_true rfl, Nat.le_of_ble_eq_true rfl⟩ (r_Mo_hour hV rfl) ?_
        refine g_iload_n (pc := 29) dX1_canPass_29 rfl ?_
        refine g_iadd (pc := 30) dX1_canPass_30 ?_
        refine g_sipush (v := 9999) (pc := 31) dX1_canPass_31 (by decide) ?_
        refine g_icmp_gt (tgt := 41) (pc := 34) dX1_canPass_34 (by decide) (fun c1 => ?_) (fun c1 => ?_)
        · rw [if_pos c1] at h
          refine g_wk [false, false] rfl ?_
          exact t_Hr_canPass_41 hV h
        · rw [if_neg c1] at h
          refine g_iconst (v := 1) (pc := 37) dX1_canPass_37 (by decide) ?_
          refine g_goto (tgt := 42) (pc := 38) dX1_canPass_38 (by decide) ?_
          refine g_wk [false, false] rfl ?_
          exact t_Hr_canPass_42 hV h
def Hr_setFogs_18 (S : Sm) : Int32 × Sm := ((0, S))
set_option maxRecDepth 4000 in
theorem t_Hr_setFogs_18 {V : Sm → Wd} (hV : VwC V) {l : Launch} {Γ : Gm}  {S : Sm} {q : Int32 × Sm} (h : Hr_setFogs_18 S = q) : G mX1_setFogs l Γ (rmD 0 0 0) (mQ Γ (some (.int q.1)) (V q.2) 0 0) 0 0 18 [none, none] [] (V S) := by
  unfold Hr_setFogs_18 at h
  refine g_iconst (v := 0) (pc := 18) dX1_setFogs_18 (by decide) ?_
  subst h
  exact g_iret (u := 0) (pc := 19) dX1_setFogs_19 rfl (by decide) (Nat.le_refl _) (Nat.le_refl _)
def Hr_setFogs (v1 : Int32) (S : Sm) : Int32 × Sm := (if v1 < 0 then (Hr_setFogs_18 S) else (if (99 : Int32) < v1 then (Hr_setFogs_18 S) else (if v1 = (gi S 40 5) then (Hr_setFogs_18 S) else ((1, si S 40 5 v1)))))
set_option maxRecDepth 4000 in
theorem r_Hr_setFogs {V : Sm → Wd} (hV : VwC V) {v1 : Int32} {S : Sm} {q : Int32 × Sm} (h : Hr_setFogs v1 S = q) : Runs 0 mX1_setFogs [.ref 40, .int v1] (V S) (some (.int q.1)) (V q.2) 0 0 := by
  unfold Hr_setFogs at h
  refine Runs.of2 [some (.ref 40), some (.int v1)] 0 rfl rfl (Nat.le_of_ble_eq_true rfl) (fun l Γ => ?_)
  refine g_iload_n (pc := 0) dX1_setFogs_0 rfl ?_
  refine g_if_lt (tgt := 18) (pc := 1) dX1_setFogs_1 (by decide) (fun c3 => ?_) (fun c3 => ?_)
  · rw [if_pos c3] at h
    refine g_wk [false, false] rfl ?_
    exact t_Hr_setFogs_18 hV h
  · rw [if_neg c3] at h
    refine g_iload_n (pc := 4) dX1_setFogs_4 rfl ?_
    refine g_bipush (v := 99) (pc := 5) dX1_setFogs_5 (by decide) ?_
    refine g_icmp_gt (tgt := 18) (pc := 7) dX1_setFogs_7 (by decide) (fun c2 => ?_) (fun c2 => ?_)
    · rw [if_pos c2] at h
      refine g_wk [false, false] rfl ?_
      exact t_Hr_setFogs_18 hV h
    · rw [if_neg c2] at h
      refine g_iload_n (pc := 10) dX1_setFogs_10 rfl ?_
      refine g_aload_n (pc := 11) dX1_setFogs_11 rfl ?_
      refine v_getI hV (pc := 12) dX1_setFogs_12 fo_1_5 rfl k0_40 own_40 ?_
      refine g_icmp_ne (tgt := 20) (pc := 15) dX1_setFogs_15 (by decide) (fun c1 => ?_) (fun c1 => ?_)
      · rw [if_neg c1] at h
        refine g_aload_n (pc := 20) dX1_setFogs_20 rfl ?_
        refine g_iload_n (pc := 21) dX1_setFogs_21 rfl ?_
        refine v_putI hV (pc := 22) dX1_setFogs_22 fo_1_5 rfl k0_40 own_40 rfl ?_
        refine g_iconst (v := 1) (pc := 25) dX1_setFogs_25 (by decide) ?_
        subst h
        exact g_iret (u := 1) (pc := 26) dX1_setFogs_26 rfl (by decide) (Nat.le_refl _) (Nat.le_refl _)
      · rw [if_pos c1] at h
        refine g_wk [false, false] rfl ?_
        exact t_Hr_setFogs_18 hV h
def Dk_fogs (v1 : Int32) (S : Sm) : Int32 × Sm := (app (Hr_setFogs v1 S) fun q1 => ((q1.1 &&& 1, q1.2)))
set_option maxRecDepth 4000 in
theorem r_Dk_fogs {V : Sm → Wd} (hV : VwC V) {v1 : Int32} {S : Sm} {q : Int32 × Sm} (h : Dk_fogs v1 S = q) : Runs 1 mX11_fogs [.ref 7, .int v1] (V S) (some (.int q.1)) (V q.2) 0 0 := by
  unfold Dk_fogs at h
  refine Runs.of2 [some (.ref 7), some (.int v1)] 0 rfl rfl (Nat.le_of_ble_eq_true rfl) (fun l Γ => ?_)
  refine g_aload_n (pc := 0) dX11_fogs_0 rfl ?_
  refine v_getR hV (pc := 1) dX11_fogs_1 fo_11_9 rfl k0_7 r0_7_9 ?_
  refine g_iload_n (pc := 4) dX11_fogs_4 rfl ?_
  obtain ⟨q1, hq1, h⟩ := app_of h
  refine v_callVi hV (Mc := mX1_setFogs) (v := q1.1) (S1 := q1.2) (As := [.int v1]) (rest := []) (q := (RX1, TX1, 7)) (pc := 5) dX11_fogs_5 mK_X11_213 mf_X1_setFogs rfl k0_40 rfl rfl rfl (Nat.le_of_ble_eq_true rfl) ⟨Nat.le_of_ble_eq_true rfl, Nat.le_of_ble_eq_true rfl⟩ (r_Hr_setFogs hV hq1) ?_
  subst h
  exact g_iret (pc := 8) dX11_fogs_8 rfl rfl (Nat.le_refl _) (Nat.le_refl _)
def Hr_draw_35 (s0 : Int32) (S : Sm) : Option (Int32 × Sm) := (some ((s0, S)))
set_option maxRecDepth 4000 in
theorem t_Hr_draw_35 {V : Sm → Wd} (hV : VwC V) {l : Launch} {Γ : Gm} {s0 : Int32} {S : Sm} {q : Int32 × Sm} (h : Hr_draw_35 s0 S = some q) : G mX1_draw l Γ (rmD 0 0 0) (mQ Γ (some (.int q.1)) (V q.2) 0 0) 0 0 35 [none, none] [.int s0] (V S) := by
  unfold Hr_draw_35 at h
  cases h
  exact g_iret (pc := 35) dX1_draw_35 rfl rfl (Nat.le_refl _) (Nat.le_refl _)
def Hr_draw (v1 : Int32) (S : Sm) : Option (Int32 × Sm) := (if v1 ≤ 0 then (Hr_draw_35 0 (sl S 40 6 (((gl S 40 6) * 6364136223846793005) + 1442695040888963407))) else (if (Int32.toInt64 v1) = (0 : Int64) then none else (Hr_draw_35 (Int64.toInt32 (lRem (lUsh (gl (sl S 40 6 (((gl S 40 6) * 6364136223846793005) + 1442695040888963407)) 40 6) 33) (Int32.toInt64 v1))) (sl S 40 6 (((gl S 40 6) * 6364136223846793005) + 1442695040888963407)))))
set_option maxRecDepth 4000 in
theorem r_Hr_draw {V : Sm → Wd} (hV : VwC V) {v1 : Int32} {S : Sm} {q : Int32 × Sm} (h : Hr_draw v1 S = some q) : Runs 0 mX1_draw [.ref 40, .int v1] (V S) (some (.int q.1)) (V q.2) 0 0 := by
  unfold Hr_draw at h
  refine Runs.of2 [some (.ref 40), some (.int v1)] 0 rfl rfl (Nat.le_of_ble_eq_true rfl) (fun l Γ => ?_)
  refine g_aload_n (pc := 0) dX1_draw_0 rfl ?_
  refine g_aload_n (pc := 1) dX1_draw_1 rfl ?_
  refine v_getL hV (pc := 2) dX1_draw_2 fo_1_6 rfl k0_40 own_40 ?_
  refine g_ldc2 (v := 6364136223846793005) (pc := 5) dX1_draw_5 kL_X1_70 ?_
  refine g_lmul (pc := 8) dX1_draw_8 ?_
  refine g_ldc2 (v := 1442695040888963407) (pc := 9) dX1_draw_9 kL_X1_72 ?_
  refine g_ladd (pc := 12) dX1_draw_12 ?_
  refine v_putL hV (pc := 13) dX1_draw_13 fo_1_6 rfl k0_40 own_40 rfl ?_
  refine g_iload_n (pc := 16) dX1_draw_16 rfl ?_
  refine g_if_le (tgt := 34) (pc := 17) dX1_draw_17 (by decide) (fun c2 => ?_) (fun c2 => ?_)
  · rw [if_pos c2] at h
    refine g_iconst (v := 0) (pc := 34) dX1_draw_34 (by decide) ?_
    refine g_wk [false, false] rfl ?_
    exact t_Hr_draw_35 hV h
  · rw [if_neg c2] at h
    refine g_aload_n (pc := 20) dX1_draw_20 rfl ?_
    refine v_getL hV (pc := 21) dX1_draw_21 fo_1_6 rfl k0_40 own_40 ?_
    refine g_bipush (v := 33) (pc := 24) dX1_draw_24 (by decide) ?_
    refine g_lushr (pc := 26) dX1_draw_26 ?_
    refine g_iload_n (pc := 27) dX1_draw_27 rfl ?_
    refine g_i2l (pc := 28) dX1_draw_28 ?_
    by_cases c1 : (Int32.toInt64 v1) = (0 : Int64)
    · rw [if_pos c1] at h; cases h
    · rw [if_neg c1] at h
      refine g_lrem (pc := 29) dX1_draw_29 c1 ?_
      refine g_l2i (pc := 30) dX1_draw_30 ?_
      refine g_goto (tgt := 35) (pc := 31) dX1_draw_31 (by decide) ?_
      refine g_wk [false, false] rfl ?_
      exact t_Hr_draw_35 hV h
def Mo_logLength (S : Sm) : Int32 := (iMin (gi S 25 7) 60)
set_option maxRecDepth 4000 in
theorem r_Mo_logLength {V : Sm → Wd} (hV : VwC V)  {S : Sm} {q : Int32} (h : Mo_logLength S = q) : Runs 1 mX4_logLength [.ref 25] (V S) (some (.int q)) (V S) 0 0 := by
  unfold Mo_logLength at h
  refine Runs.of2 [some (.ref 25)] 0 rfl rfl (Nat.le_of_ble_eq_true rfl) (fun l Γ => ?_)
  refine g_aload_n (pc := 0) dX4_logLength_0 rfl ?_
  refine v_getI hV (pc := 1) dX4_logLength_1 fo_4_7 rfl k0_25 own_25 ?_
  refine g_bipush (v := 60) (pc := 4) dX4_logLength_4 (by decide) ?_
  refine g_iMin (pc := 6) dX4_logLength_6 mK_X4_90 ⟨Nat.le_of_ble_eq_true rfl, Nat.le_of_ble_eq_true rfl⟩ (Nat.zero_le _) (Nat.zero_le _) ?_
  subst h
  exact g_iret (pc := 9) dX4_logLength_9 rfl rfl (Nat.le_refl _) (Nat.le_refl _)
def Mo_logged_21 (S : Sm) : Int32 := (-1)
set_option maxRecDepth 4000 in
theorem t_Mo_logged_21 {V : Sm → Wd} (hV : VwC V) {l : Launch} {Γ : Gm}  {S : Sm} {q : Int32} (h : Mo_logged_21 S = q) : G mX4_logged l Γ (rmD 2 0 0) (mQ Γ (some (.int q)) (V S) 0 0) 0 0 21 [none, none, none, none, none] [] (V S) := by
  unfold Mo_logged_21 at h
  refine g_iconst (v := (-1)) (pc := 21) dX4_logged_21 (by decide) ?_
  subst h
  exact g_iret (pc := 22) dX4_logged_22 rfl rfl (Nat.le_refl _) (Nat.le_refl _)
def Mo_logged_75 (s0 : Int32) (S : Sm) : Int32 := s0
set_option maxRecDepth 4000 in
theorem t_Mo_logged_75 {V : Sm → Wd} (hV : VwC V) {l : Launch} {Γ : Gm} {s0 : Int32} {S : Sm} {q : Int32} (h : Mo_logged_75 s0 S = q) : G mX4_logged l Γ (rmD 2 0 0) (mQ Γ (some (.int q)) (V S) 0 0) 0 0 75 [none, none, none, none, none] [.int s0] (V S) := by
  unfold Mo_logged_75 at h
  subst h
  exact g_iret (pc := 75) dX4_logged_75 rfl rfl (Nat.le_refl _) (Nat.le_refl _)
def Mo_logged (v1 : Int32) (v2 : Int32) (S : Sm) : Int32 := (if v1 < 0 then (Mo_logged_21 S) else (if (Mo_logLength S) ≤ v1 then (Mo_logged_21 S) else (if v2 < 0 then (Mo_logged_21 S) else (if v2 ≤ 2 then (if v2 = 0 then (iRem (atF (gi S 29) 60 (iRem (((gi S 25 7) - 1) - v1) 60)) 8) else (if v2 = 1 then (Mo_logged_75 (iRem ((atF (gi S 29) 60 (iRem (((gi S 25 7) - 1) - v1) 60)) / 8) 8) S) else (Mo_logged_75 (((atF (gi S 29) 60 (iRem (((gi S 25 7) - 1) - v1) 60)) / 8) / 8) S))) else (Mo_logged_21 S)))))
set_option maxRecDepth 4000 in
theorem r_Mo_logged {V : Sm → Wd} (hV : VwC V) {v1 : Int32} {v2 : Int32} {S : Sm} {q : Int32} (h : Mo_logged v1 v2 S = q) : Runs 2 mX4_logged [.ref 25, .int v1, .int v2] (V S) (some (.int q)) (V S) 0 0 := by
  unfold Mo_logged at h
  refine Runs.of2 [some (.ref 25), some (.int v1), some (.int v2), none, none] 2 rfl rfl (Nat.le_of_ble_eq_true rfl) (fun l Γ => ?_)
  refine g_iload_n (pc := 0) dX4_logged_0 rfl ?_
  refine g_if_lt (tgt := 21) (pc := 1) dX4_logged_1 (by decide) (fun c6 => ?_) (fun c6 => ?_)
  · rw [if_pos c6] at h
    refine g_wk [false, false, false, false, false] rfl ?_
    exact t_Mo_logged_21 hV h
  · rw [if_neg c6] at h
    refine g_iload_n (pc := 4) dX4_logged_4 rfl ?_
    refine g_aload_n (pc := 5) dX4_logged_5 rfl ?_
    refine v_callVi hV (Mc := mX4_logLength) (v := Mo_logLength S) (S1 := S) (As := []) (rest := [.int v1]) (q := (RX4, TX4, 8)) (pc := 6) dX4_logged_6 mK_X4_95 mf_X4_logLength rfl k0_25 rfl rfl rfl (Nat.le_of_ble_eq_true rfl) ⟨Nat.le_of_ble_eq_true rfl, Nat.le_of_ble_eq_true rfl⟩ (r_Mo_logLength hV rfl) ?_
    refine g_icmp_ge (tgt := 21) (pc := 9) dX4_logged_9 (by decide) (fun c5 => ?_) (fun c5 => ?_)
    · rw [if_pos c5] at h
      refine g_wk [false, false, false, false, false] rfl ?_
      exact t_Mo_logged_21 hV h
    · rw [if_neg c5] at h
      refine g_iload_n (pc := 12) dX4_logged_12 rfl ?_
      refine g_if_lt (tgt := 21) (pc := 13) dX4_logged_13 (by decide) (fun c4 => ?_) (fun c4 => ?_)
      · rw [if_pos c4] at h
        refine g_wk [false, false, false, false, false] rfl ?_
        exact t_Mo_logged_21 hV h
      · rw [if_neg c4] at h
        refine g_iload_n (pc := 16) dX4_logged_16 rfl ?_
        refine g_iconst (v := 2) (pc := 17) dX4_logged_17 (by decide) ?_
        refine g_icmp_le (tgt := 23) (pc := 18) dX4_logged_18 (by decide) (fun c3 => ?_) (fun c3 => ?_)
        · rw [if_pos c3] at h
          refine g_aload_n (pc := 23) dX4_logged_23 rfl ?_
          refine v_getR hV (pc := 24) dX4_logged_24 fo_4_3 rfl k0_25 r0_25_3 ?_
          refine g_aload_n (pc := 27) dX4_logged_27 rfl ?_
          refine v_getI hV (pc := 28) dX4_logged_28 fo_4_7 rfl k0_25 own_25 ?_
          refine g_iconst (v := 1) (pc := 31) dX4_logged_31 (by decide) ?_
          refine g_isub (pc := 32) dX4_logged_32 ?_
          refine g_iload_n (pc := 33) dX4_logged_33 rfl ?_
          refine g_isub (pc := 34) dX4_logged_34 ?_
          refine g_bipush (v := 60) (pc := 35) dX4_logged_35 (by decide) ?_
          refine g_irem (pc := 37) dX4_logged_37 (by decide) ?_
          refine v_callNi (Mc := mX11_at) (v := atF (gi S 29) 60 (iRem (((gi S 25 7) - 1) - v1) 60)) (S1 := S) (As := [.ref 29, .int (iRem (((gi S 25 7) - 1) - v1) 60)]) (rest := []) (pc := 38) dX4_logged_38 nl_X4_76 mf_X11_at rfl rfl (Nat.le_of_ble_eq_true rfl) ⟨Nat.le_of_ble_eq_true rfl, Nat.le_of_ble_eq_true rfl⟩ (r_at hV k0_29 own_29 (by decide)) ?_
          refine g_istore_n (ls1 := [some (.ref 25), some (.int v1), some (.int v2), some (.int (atF (gi S 29) 60 (iRem (((gi S 25 7) - 1) - v1) 60))), none]) (pc := 41) dX4_logged_41 (by decide) rfl ?_
          refine g_iload_n (pc := 42) dX4_logged_42 rfl ?_
          refine g_if_ne (tgt := 51) (pc := 43) dX4_logged_43 (by decide) (fun c2 => ?_) (fun c2 => ?_)
          · rw [if_neg c2] at h
            refine g_iload_n (pc := 51) dX4_logged_51 rfl ?_
            refine g_bipush (v := 8) (pc := 52) dX4_logged_52 (by decide) ?_
            refine g_idiv (pc := 54) dX4_logged_54 (by decide) ?_
            refine g_istore (ls1 := [some (.ref 25), some (.int v1), some (.int v2), some (.int (atF (gi S 29) 60 (iRem (((gi S 25 7) - 1) - v1) 60))), some (.int ((atF (gi S 29) 60 (iRem (((gi S 25 7) - 1) - v1) 60)) / 8))]) (pc := 55) dX4_logged_55 (by decide) rfl ?_
            refine g_iload_n (pc := 57) dX4_logged_57 rfl ?_
            refine g_iconst (v := 1) (pc := 58) dX4_logged_58 (by decide) ?_
            refine g_icmp_ne (tgt := 70) (pc := 59) dX4_logged_59 (by decide) (fun c1 => ?_) (fun c1 => ?_)
            · rw [if_neg c1] at h
              refine g_iload (pc := 70) dX4_logged_70 rfl ?_
              refine g_bipush (v := 8) (pc := 72) dX4_logged_72 (by decide) ?_
              refine g_idiv (pc := 74) dX4_logged_74 (by decide) ?_
              refine g_wk [false, false, false, false, false] rfl ?_
              exact t_Mo_logged_75 hV h
            · rw [if_pos c1] at h
              refine g_iload (pc := 62) dX4_logged_62 rfl ?_
              refine g_bipush (v := 8) (pc := 64) dX4_logged_64 (by decide) ?_
              refine g_irem (pc := 66) dX4_logged_66 (by decide) ?_
              refine g_goto (tgt := 75) (pc := 67) dX4_logged_67 (by decide) ?_
              refine g_wk [false, false, false, false, false] rfl ?_
              exact t_Mo_logged_75 hV h
          · rw [if_pos c2] at h
            refine g_iload_n (pc := 46) dX4_logged_46 rfl ?_
            refine g_bipush (v := 8) (pc := 47) dX4_logged_47 (by decide) ?_
            refine g_irem (pc := 49) dX4_logged_49 (by decide) ?_
            subst h
            exact g_iret (pc := 50) dX4_logged_50 rfl rfl (Nat.le_refl _) (Nat.le_refl _)
        · rw [if_neg c3] at h
          refine g_wk [false, false, false, false, false] rfl ?_
          exact t_Mo_logged_21 hV h
def Dk_log (v1 : Int32) (v2 : Int32) (S : Sm) : Int32 := (Mo_logged v1 v2 S)
set_option maxRecDepth 4000 in
theorem r_Dk_log {V : Sm → Wd} (hV : VwC V) {v1 : Int32} {v2 : Int32} {S : Sm} {q : Int32} (h : Dk_log v1 v2 S = q) : Runs 3 mX11_log [.ref 7, .int v1, .int v2] (V S) (some (.int q)) (V S) 0 0 := by
  unfold Dk_log at h
  refine Runs.of2 [some (.ref 7), some (.int v1), some (.int v2)] 0 rfl rfl (Nat.le_of_ble_eq_true rfl) (fun l Γ => ?_)
  refine g_aload_n (pc := 0) dX11_log_0 rfl ?_
  refine v_getR hV (pc := 1) dX11_log_1 fo_11_6 rfl k0_7 r0_7_6 ?_
  refine g_iload_n (pc := 4) dX11_log_4 rfl ?_
  refine g_iload_n (pc := 5) dX11_log_5 rfl ?_
  refine v_callVi hV (Mc := mX4_logged) (v := Mo_logged v1 v2 S) (S1 := S) (As := [.int v1, .int v2]) (rest := []) (q := (RX4, TX4, 8)) (pc := 6) dX11_log_6 mK_X11_223 mf_X4_logged rfl k0_25 rfl rfl rfl (Nat.le_of_ble_eq_true rfl) ⟨Nat.le_of_ble_eq_true rfl, Nat.le_of_ble_eq_true rfl⟩ (r_Mo_logged hV rfl) ?_
  subst h
  exact g_iret (pc := 9) dX11_log_9 rfl rfl (Nat.le_refl _) (Nat.le_refl _)
def hd_Wy_behind_L6 (V : Sm → Wd) (l : Launch) (Γ : Gm) (rF : Option Value) (wF : Wd) (v2 : Int32) (v3 : Int32) (S : Sm) (q : Int32 × Int32) : Prop := G mX10_behind l Γ (rmD 3 0 0) (mQ Γ rF wF 0 0) 0 0 6 [some (.ref 37), none, some (.int v2), some (.int v3), some (.int q.1), some (.int q.2)] [] (V S)
def ps_Wy_behind_L6 (V : Sm → Wd) (l : Launch) (Γ : Gm) (rF : Option Value) (wF : Wd) (v2 : Int32) (v3 : Int32) (S : Sm) (x : Int32) : Prop := (fun (a : Int32) => G mX10_behind l Γ (rmD 3 0 0) (mQ Γ rF wF 0 0) 0 0 27 [none, none, none, none, some (.int a), none] [] (V S)) x
def Wy_behind_L6 (v2 : Int32) (v3 : Int32) (S : Sm) (q : Int32 × Int32) : Option ((Int32 × Int32) ⊕ (Int32)) := (if v3 ≤ q.2 then (some (.inr q.1)) else (some (.inl (Wy_leadsTo q.1 v2 S, q.2 + 1))))
set_option maxRecDepth 4000 in
theorem t_Wy_behind_L6 {V : Sm → Wd} (hV : VwC V) {l : Launch} {Γ : Gm} {rF : Option Value} {wF : Wd} {v2 : Int32} {v3 : Int32} {S : Sm} {q : Int32 × Int32} {o : (Int32 × Int32) ⊕ (Int32)} (h : Wy_behind_L6 v2 v3 S q = some o) (hK : Sum.elim (hd_Wy_behind_L6 V l Γ rF wF v2 v3 S) (ps_Wy_behind_L6 V l Γ rF wF v2 v3 S) o) : hd_Wy_behind_L6 V l Γ rF wF v2 v3 S q := by
  unfold Wy_behind_L6 at h
  unfold hd_Wy_behind_L6
  refine g_iload (pc := 6) dX10_behind_6 rfl ?_
  refine g_iload_n (pc := 8) dX10_behind_8 rfl ?_
  refine g_icmp_ge (tgt := 27) (pc := 9) dX10_behind_9 (by decide) (fun c1 => ?_) (fun c1 => ?_)
  · rw [if_pos c1] at h
    refine g_wk [false, false, false, false, true, false] rfl ?_
    cases h
    exact hK
  · rw [if_neg c1] at h
    refine g_aload_n (pc := 12) dX10_behind_12 rfl ?_
    refine g_iload (pc := 13) dX10_behind_13 rfl ?_
    refine g_iload_n (pc := 15) dX10_behind_15 rfl ?_
    refine v_callVi hV (Mc := mX10_leadsTo) (v := Wy_leadsTo q.1 v2 S) (S1 := S) (As := [.int q.1, .int v2]) (rest := []) (q := (RX10, TX10, 5)) (pc := 16) dX10_behind_16 mK_X10_50 mf_X10_leadsTo rfl k0_37 rfl rfl rfl (Nat.le_of_ble_eq_true rfl) ⟨Nat.le_of_ble_eq_true rfl, Nat.le_of_ble_eq_true rfl⟩ (r_Wy_leadsTo hV rfl) ?_
    refine g_istore (ls1 := [some (.ref 37), none, some (.int v2), some (.int v3), some (.int (Wy_leadsTo q.1 v2 S)), some (.int q.2)]) (pc := 19) dX10_behind_19 (by decide) rfl ?_
    refine g_iinc (v := q.2 + 1) (ls1 := [some (.ref 37), none, some (.int v2), some (.int v3), some (.int (Wy_leadsTo q.1 v2 S)), some (.int (q.2 + 1))]) (pc := 21) dX10_behind_21 rfl rfl (by decide) rfl ?_
    refine g_goto (tgt := 6) (pc := 24) dX10_behind_24 (by decide) ?_
    cases h
    exact hK
set_option maxRecDepth 4000 in
theorem w_Wy_behind_L6 {V : Sm → Wd} (hV : VwC V) {l : Launch} {Γ : Gm} {rF : Option Value} {wF : Wd} {v2 : Int32} {v3 : Int32} {S : Sm} {k : Nat} {q : Int32 × Int32} {o : Int32} (h : lpN (Wy_behind_L6 v2 v3 S) k q = some o) (hP : ps_Wy_behind_L6 V l Γ rF wF v2 v3 S o) : hd_Wy_behind_L6 V l Γ rF wF v2 v3 S q := lpN_ind2 (hd_Wy_behind_L6 V l Γ rF wF v2 v3 S) (ps_Wy_behind_L6 V l Γ rF wF v2 v3 S) (fun s o h hK => t_Wy_behind_L6 hV h hK) k q o h hP
def Wy_behind (v1 : Int32) (v2 : Int32) (v3 : Int32) (S : Sm) : Option (Int32) := ((lpN (Wy_behind_L6 v2 v3 S) FU (v1, 0)).bind fun q2 => (some q2))
set_option maxRecDepth 4000 in
theorem r_Wy_behind {V : Sm → Wd} (hV : VwC V) {v1 : Int32} {v2 : Int32} {v3 : Int32} {S : Sm} {q : Int32} (h : Wy_behind v1 v2 v3 S = some q) : Runs 3 mX10_behind [.ref 37, .int v1, .int v2, .int v3] (V S) (some (.int q)) (V S) 0 0 := by
  unfold Wy_behind at h
  refine Runs.of2 [some (.ref 37), some (.int v1), some (.int v2), some (.int v3), none, none] 2 rfl rfl (Nat.le_of_ble_eq_true rfl) (fun l Γ => ?_)
  refine g_iload_n (pc := 0) dX10_behind_0 rfl ?_
  refine g_istore (ls1 := [some (.ref 37), some (.int v1), some (.int v2), some (.int v3), some (.int v1), none]) (pc := 1) dX10_behind_1 (by decide) rfl ?_
  refine g_iconst (v := 0) (pc := 3) dX10_behind_3 (by decide) ?_
  refine g_istore (ls1 := [some (.ref 37), some (.int v1), some (.int v2), some (.int v3), some (.int v1), some (.int 0)]) (pc := 4) dX10_behind_4 (by decide) rfl ?_
  refine g_wk [true, false, true, true, true, true] rfl ?_
  obtain ⟨q2, hqq2, h⟩ := bnd h
  refine w_Wy_behind_L6 hV hqq2 ?_
  unfold ps_Wy_behind_L6
  show G _ _ _ _ _ _ _ _ _ _ _
  refine g_iload (pc := 27) dX10_behind_27 rfl ?_
  cases h
  exact g_iret (pc := 29) dX10_behind_29 rfl rfl (Nat.le_refl _) (Nat.le_refl _)
def Dk_comes_32 (S : Sm) : Option (Int32) := (some ((-1)))
set_option maxRecDepth 4000 in
theorem t_Dk_comes_32 {V : Sm → Wd} (hV : VwC V) {l : Launch} {Γ : Gm}  {S : Sm} {q : Int32} (h : Dk_comes_32 S = some q) : G mX11_comes l Γ (rmD 4 0 0) (mQ Γ (some (.int q)) (V S) 0 0) 0 0 32 [none, none, none, none] [] (V S) := by
  unfold Dk_comes_32 at h
  refine g_iconst (v := (-1)) (pc := 32) dX11_comes_32 (by decide) ?_
  cases h
  exact g_iret (pc := 33) dX11_comes_33 rfl rfl (Nat.le_refl _) (Nat.le_refl _)
def Dk_comes (v1 : Int32) (v2 : Int32) (v3 : Int32) (S : Sm) : Option (Int32) := (if (Nt_hasMouth v1 S) = 0 then (Dk_comes_32 S) else (if (Nt_hasLamp v2 S) = 0 then (Dk_comes_32 S) else (if v3 < 0 then (Dk_comes_32 S) else (if v3 ≤ 99 then ((Wy_behind v1 v2 v3 S).bind fun q1 => (some q1)) else (Dk_comes_32 S)))))
set_option maxRecDepth 4000 in
theorem r_Dk_comes {V : Sm → Wd} (hV : VwC V) {v1 : Int32} {v2 : Int32} {v3 : Int32} {S : Sm} {q : Int32} (h : Dk_comes v1 v2 v3 S = some q) : Runs 4 mX11_comes [.ref 7, .int v1, .int v2, .int v3] (V S) (some (.int q)) (V S) 0 0 := by
  unfold Dk_comes at h
  refine Runs.of2 [some (.ref 7), some (.int v1), some (.int v2), some (.int v3)] 0 rfl rfl (Nat.le_of_ble_eq_true rfl) (fun l Γ => ?_)
  refine g_aload_n (pc := 0) dX11_comes_0 rfl ?_
  refine v_getR hV (pc := 1) dX11_comes_1 fo_11_1 rfl k0_7 r0_7_1 ?_
  refine g_iload_n (pc := 4) dX11_comes_4 rfl ?_
  refine v_callVi hV (Mc := mX5_hasMouth) (v := Nt_hasMouth v1 S) (S1 := S) (As := [.int v1]) (rest := []) (q := (RX5, TX5, 3)) (pc := 5) dX11_comes_5 mK_X11_140 mf_X5_hasMouth rfl k0_10 rfl rfl rfl (Nat.le_of_ble_eq_true rfl) ⟨Nat.le_of_ble_eq_true rfl, Nat.le_of_ble_eq_true rfl⟩ (r_Nt_hasMouth hV rfl) ?_
  refine g_if_eq (tgt := 32) (pc := 8) dX11_comes_8 (by decide) (fun c5 => ?_) (fun c5 => ?_)
  · rw [if_pos c5] at h
    refine g_wk [false, false, false, false] rfl ?_
    exact t_Dk_comes_32 hV h
  · rw [if_neg c5] at h
    refine g_aload_n (pc := 11) dX11_comes_11 rfl ?_
    refine v_getR hV (pc := 12) dX11_comes_12 fo_11_1 rfl k0_7 r0_7_1 ?_
    refine g_iload_n (pc := 15) dX11_comes_15 rfl ?_
    refine v_callVi hV (Mc := mX5_hasLamp) (v := Nt_hasLamp v2 S) (S1 := S) (As := [.int v2]) (rest := []) (q := (RX5, TX5, 3)) (pc := 16) dX11_comes_16 mK_X11_143 mf_X5_hasLamp rfl k0_10 rfl rfl rfl (Nat.le_of_ble_eq_true rfl) ⟨Nat.le_of_ble_eq_true rfl, Nat.le_of_ble_eq_true rfl⟩ (r_Nt_hasLamp hV rfl) ?_
    refine g_if_eq (tgt := 32) (pc := 19) dX11_comes_19 (by decide) (fun c4 => ?_) (fun c4 => ?_)
    · rw [if_pos c4] at h
      refine g_wk [false, false, false, false] rfl ?_
      exact t_Dk_comes_32 hV h
    · rw [if_neg c4] at h
      refine g_iload_n (pc := 22) dX11_comes_22 rfl ?_
      refine g_if_lt (tgt := 32) (pc := 23) dX11_comes_23 (by decide) (fun c3 => ?_) (fun c3 => ?_)
      · rw [if_pos c3] at h
        refine g_wk [false, false, false, false] rfl ?_
        exact t_Dk_comes_32 hV h
      · rw [if_neg c3] at h
        refine g_iload_n (pc := 26) dX11_comes_26 rfl ?_
        refine g_bipush (v := 99) (pc := 27) dX11_comes_27 (by decide) ?_
        refine g_icmp_le (tgt := 34) (pc := 29) dX11_comes_29 (by decide) (fun c2 => ?_) (fun c2 => ?_)
        · rw [if_pos c2] at h
          refine g_aload_n (pc := 34) dX11_comes_34 rfl ?_
          refine v_getR hV (pc := 35) dX11_comes_35 fo_11_8 rfl k0_7 r0_7_8 ?_
          refine g_iload_n (pc := 38) dX11_comes_38 rfl ?_
          refine g_iload_n (pc := 39) dX11_comes_39 rfl ?_
          refine g_iload_n (pc := 40) dX11_comes_40 rfl ?_
          obtain ⟨q1, hq1, h⟩ := bnd h
          refine v_callVi hV (Mc := mX10_behind) (v := q1) (S1 := S) (As := [.int v1, .int v2, .int v3]) (rest := []) (q := (RX10, TX10, 5)) (pc := 41) dX11_comes_41 mK_X11_226 mf_X10_behind rfl k0_37 rfl rfl rfl (Nat.le_of_ble_eq_true rfl) ⟨Nat.le_of_ble_eq_true rfl, Nat.le_of_ble_eq_true rfl⟩ (r_Wy_behind hV hq1) ?_
          cases h
          exact g_iret (pc := 44) dX11_comes_44 rfl rfl (Nat.le_refl _) (Nat.le_refl _)
        · rw [if_neg c2] at h
          refine g_wk [false, false, false, false] rfl ?_
          exact t_Dk_comes_32 hV h
def hd_Wy_circleLength_L20 (V : Sm → Wd) (l : Launch) (Γ : Gm) (rF : Option Value) (wF : Wd) (v2 : Int32) (v3 : Int32) (S : Sm) (q : Int32 × Int32) : Prop := G mX10_circleLength l Γ (rmD 4 0 0) (mQ Γ rF wF 0 0) 0 0 20 [some (.ref 37), none, some (.int v2), some (.int v3), some (.int q.1), some (.int q.2)] [] (V S)
def ps_Wy_circleLength_L20 (V : Sm → Wd) (l : Launch) (Γ : Gm) (rF : Option Value) (wF : Wd) (v2 : Int32) (v3 : Int32) (S : Sm) (x : Int32) : Prop := (fun (a : Int32) => G mX10_circleLength l Γ (rmD 4 0 0) (mQ Γ rF wF 0 0) 0 0 48 [none, none, none, none, none, some (.int a)] [] (V S)) x
def Wy_circleLength_L20 (v2 : Int32) (v3 : Int32) (S : Sm) (q : Int32 × Int32) : Option ((Int32 × Int32) ⊕ (Int32)) := (if (8 : Int32) ≤ q.2 then (some (.inr q.2)) else (if q.1 = v3 then (some (.inr q.2)) else (some (.inl (Wy_leadsTo q.1 v2 S, q.2 + 1)))))
set_option maxRecDepth 4000 in
theorem t_Wy_circleLength_L20 {V : Sm → Wd} (hV : VwC V) {l : Launch} {Γ : Gm} {rF : Option Value} {wF : Wd} {v2 : Int32} {v3 : Int32} {S : Sm} {q : Int32 × Int32} {o : (Int32 × Int32) ⊕ (Int32)} (h : Wy_circleLength_L20 v2 v3 S q = some o) (hK : Sum.elim (hd_Wy_circleLength_L20 V l Γ rF wF v2 v3 S) (ps_Wy_circleLength_L20 V l Γ rF wF v2 v3 S) o) : hd_Wy_circleLength_L20 V l Γ rF wF v2 v3 S q := by
  unfold Wy_circleLength_L20 at h
  unfold hd_Wy_circleLength_L20
  refine g_iload (pc := 20) dX10_circleLength_20 rfl ?_
  refine g_bipush (v := 8) (pc := 22) dX10_circleLength_22 (by decide) ?_
  refine g_icmp_ge (tgt := 48) (pc := 24) dX10_circleLength_24 (by decide) (fun c3 => ?_) (fun c3 => ?_)
  · rw [if_pos c3] at h
    refine g_wk [false, false, false, false, false, true] rfl ?_
    cases h
    exact hK
  · rw [if_neg c3] at h
    refine g_iload (pc := 27) dX10_circleLength_27 rfl ?_
    refine g_iload_n (pc := 29) dX10_circleLength_29 rfl ?_
    refine g_icmp_eq (tgt := 48) (pc := 30) dX10_circleLength_30 (by decide) (fun c2 => ?_) (fun c2 => ?_)
    · rw [if_pos c2] at h
      refine g_wk [false, false, false, false, false, true] rfl ?_
      cases h
      exact hK
    · rw [if_neg c2] at h
      refine g_aload_n (pc := 33) dX10_circleLength_33 rfl ?_
      refine g_iload (pc := 34) dX10_circleLength_34 rfl ?_
      refine g_iload_n (pc := 36) dX10_circleLength_36 rfl ?_
      refine v_callVi hV (Mc := mX10_leadsTo) (v := Wy_leadsTo q.1 v2 S) (S1 := S) (As := [.int q.1, .int v2]) (rest := []) (q := (RX10, TX10, 5)) (pc := 37) dX10_circleLength_37 mK_X10_50 mf_X10_leadsTo rfl k0_37 rfl rfl rfl (Nat.le_of_ble_eq_true rfl) ⟨Nat.le_of_ble_eq_true rfl, Nat.le_of_ble_eq_true rfl⟩ (r_Wy_leadsTo hV rfl) ?_
      refine g_istore (ls1 := [some (.ref 37), none, some (.int v2), some (.int v3), some (.int (Wy_leadsTo q.1 v2 S)), some (.int q.2)]) (pc := 40) dX10_circleLength_40 (by decide) rfl ?_
      refine g_iinc (v := q.2 + 1) (ls1 := [some (.ref 37), none, some (.int v2), some (.int v3), some (.int (Wy_leadsTo q.1 v2 S)), some (.int (q.2 + 1))]) (pc := 42) dX10_circleLength_42 rfl rfl (by decide) rfl ?_
      refine g_goto (tgt := 20) (pc := 45) dX10_circleLength_45 (by decide) ?_
      cases h
      exact hK
set_option maxRecDepth 4000 in
theorem w_Wy_circleLength_L20 {V : Sm → Wd} (hV : VwC V) {l : Launch} {Γ : Gm} {rF : Option Value} {wF : Wd} {v2 : Int32} {v3 : Int32} {S : Sm} {k : Nat} {q : Int32 × Int32} {o : Int32} (h : lpN (Wy_circleLength_L20 v2 v3 S) k q = some o) (hP : ps_Wy_circleLength_L20 V l Γ rF wF v2 v3 S o) : hd_Wy_circleLength_L20 V l Γ rF wF v2 v3 S q := lpN_ind2 (hd_Wy_circleLength_L20 V l Γ rF wF v2 v3 S) (ps_Wy_circleLength_L20 V l Γ rF wF v2 v3 S) (fun s o h hK => t_Wy_circleLength_L20 hV h hK) k q o h hP
def Wy_circleLength (v1 : Int32) (v2 : Int32) (S : Sm) : Option (Int32) := ((Wy_behind v1 v2 8 S).bind fun q1 => ((lpN (Wy_circleLength_L20 v2 q1 S) FU (Wy_leadsTo q1 v2 S, 1)).bind fun q4 => (some q4)))
set_option maxRecDepth 4000 in
theorem r_Wy_circleLength {V : Sm → Wd} (hV : VwC V) {v1 : Int32} {v2 : Int32} {S : Sm} {q : Int32} (h : Wy_circleLength v1 v2 S = some q) : Runs 4 mX10_circleLength [.ref 37, .int v1, .int v2] (V S) (some (.int q)) (V S) 0 0 := by
  unfold Wy_circleLength at h
  refine Runs.of2 [some (.ref 37), some (.int v1), some (.int v2), none, none, none] 3 rfl rfl (Nat.le_of_ble_eq_true rfl) (fun l Γ => ?_)
  refine g_aload_n (pc := 0) dX10_circleLength_0 rfl ?_
  refine g_iload_n (pc := 1) dX10_circleLength_1 rfl ?_
  refine g_iload_n (pc := 2) dX10_circleLength_2 rfl ?_
  refine g_bipush (v := 8) (pc := 3) dX10_circleLength_3 (by decide) ?_
  obtain ⟨q1, hq1, h⟩ := bnd h
  refine v_callVi hV (Mc := mX10_behind) (v := q1) (S1 := S) (As := [.int v1, .int v2, .int 8]) (rest := []) (q := (RX10, TX10, 5)) (pc := 5) dX10_circleLength_5 mK_X10_69 mf_X10_behind rfl k0_37 rfl rfl rfl (Nat.le_of_ble_eq_true rfl) ⟨Nat.le_of_ble_eq_true rfl, Nat.le_of_ble_eq_true rfl⟩ (r_Wy_behind hV hq1) ?_
  refine g_istore_n (ls1 := [some (.ref 37), some (.int v1), some (.int v2), some (.int q1), none, none]) (pc := 8) dX10_circleLength_8 (by decide) rfl ?_
  refine g_aload_n (pc := 9) dX10_circleLength_9 rfl ?_
  refine g_iload_n (pc := 10) dX10_circleLength_10 rfl ?_
  refine g_iload_n (pc := 11) dX10_circleLength_11 rfl ?_
  refine v_callVi hV (Mc := mX10_leadsTo) (v := Wy_leadsTo q1 v2 S) (S1 := S) (As := [.int q1, .int v2]) (rest := []) (q := (RX10, TX10, 5)) (pc := 12) dX10_circleLength_12 mK_X10_50 mf_X10_leadsTo rfl k0_37 rfl rfl rfl (Nat.le_of_ble_eq_true rfl) ⟨Nat.le_of_ble_eq_true rfl, Nat.le_of_ble_eq_true rfl⟩ (r_Wy_leadsTo hV rfl) ?_
  refine g_istore (ls1 := [some (.ref 37), some (.int v1), some (.int v2), some (.int q1), some (.int (Wy_leadsTo q1 v2 S)), none]) (pc := 15) dX10_circleLength_15 (by decide) rfl ?_
  refine g_iconst (v := 1) (pc := 17) dX10_circleLength_17 (by decide) ?_
  refine g_istore (ls1 := [some (.ref 37), some (.int v1), some (.int v2), some (.int q1), some (.int (Wy_leadsTo q1 v2 S)), some (.int 1)]) (pc := 18) dX10_circleLength_18 (by decide) rfl ?_
  refine g_wk [true, false, true, true, true, true] rfl ?_
  obtain ⟨q4, hqq4, h⟩ := bnd h
  refine w_Wy_circleLength_L20 hV hqq4 ?_
  unfold ps_Wy_circleLength_L20
  show G _ _ _ _ _ _ _ _ _ _ _
  refine g_iload (pc := 48) dX10_circleLength_48 rfl ?_
  cases h
  exact g_iret (pc := 50) dX10_circleLength_50 rfl rfl (Nat.le_refl _) (Nat.le_refl _)
def hd_Wy_stepsToCircle_L15 (V : Sm → Wd) (l : Launch) (Γ : Gm) (rF : Option Value) (wF : Wd) (v2 : Int32) (S : Sm) (q : Int32 × Int32 × Int32) : Prop := G mX10_stepsToCircle l Γ (rmD 4 0 0) (mQ Γ rF wF 0 0) 0 0 15 [some (.ref 37), none, some (.int v2), none, some (.int q.1), some (.int q.2.1), some (.int q.2.2)] [] (V S)
def ps_Wy_stepsToCircle_L15 (V : Sm → Wd) (l : Launch) (Γ : Gm) (rF : Option Value) (wF : Wd) (v2 : Int32) (S : Sm) (x : Int32) : Prop := (fun (a : Int32) => G mX10_stepsToCircle l Γ (rmD 4 0 0) (mQ Γ rF wF 0 0) 0 0 53 [none, none, none, none, none, none, some (.int a)] [] (V S)) x
def Wy_stepsToCircle_L15 (v2 : Int32) (S : Sm) (q : Int32 × Int32 × Int32) : Option ((Int32 × Int32 × Int32) ⊕ (Int32)) := (if (8 : Int32) ≤ q.2.2 then (some (.inr q.2.2)) else (if q.1 = q.2.1 then (some (.inr q.2.2)) else (some (.inl (Wy_leadsTo q.1 v2 S, Wy_leadsTo q.2.1 v2 S, q.2.2 + 1)))))
set_option maxRecDepth 4000 in
theorem t_Wy_stepsToCircle_L15 {V : Sm → Wd} (hV : VwC V) {l : Launch} {Γ : Gm} {rF : Option Value} {wF : Wd} {v2 : Int32} {S : Sm} {q : Int32 × Int32 × Int32} {o : (Int32 × Int32 × Int32) ⊕ (Int32)} (h : Wy_stepsToCircle_L15 v2 S q = some o) (hK : Sum.elim (hd_Wy_stepsToCircle_L15 V l Γ rF wF v2 S) (ps_Wy_stepsToCircle_L15 V l Γ rF wF v2 S) o) : hd_Wy_stepsToCircle_L15 V l Γ rF wF v2 S q := by
  unfold Wy_stepsToCircle_L15 at h
  unfold hd_Wy_stepsToCircle_L15
  refine g_iload (pc := 15) dX10_stepsToCircle_15 rfl ?_
  refine g_bipush (v := 8) (pc := 17) dX10_stepsToCircle_17 (by decide) ?_
  refine g_icmp_ge (tgt := 53) (pc := 19) dX10_stepsToCircle_19 (by decide) (fun c3 => ?_) (fun c3 => ?_)
  · rw [if_pos c3] at h
    refine g_wk [false, false, false, false, false, false, true] rfl ?_
    cases h
    exact hK
  · rw [if_neg c3] at h
    refine g_iload (pc := 22) dX10_stepsToCircle_22 rfl ?_
    refine g_iload (pc := 24) dX10_stepsToCircle_24 rfl ?_
    refine g_icmp_eq (tgt := 53) (pc := 26) dX10_stepsToCircle_26 (by decide) (fun c2 => ?_) (fun c2 => ?_)
    · rw [if_pos c2] at h
      refine g_wk [false, false, false, false, false, false, true] rfl ?_
      cases h
      exact hK
    · rw [if_neg c2] at h
      refine g_aload_n (pc := 29) dX10_stepsToCircle_29 rfl ?_
      refine g_iload (pc := 30) dX10_stepsToCircle_30 rfl ?_
      refine g_iload_n (pc := 32) dX10_stepsToCircle_32 rfl ?_
      refine v_callVi hV (Mc := mX10_leadsTo) (v := Wy_leadsTo q.1 v2 S) (S1 := S) (As := [.int q.1, .int v2]) (rest := []) (q := (RX10, TX10, 5)) (pc := 33) dX10_stepsToCircle_33 mK_X10_50 mf_X10_leadsTo rfl k0_37 rfl rfl rfl (Nat.le_of_ble_eq_true rfl) ⟨Nat.le_of_ble_eq_true rfl, Nat.le_of_ble_eq_true rfl⟩ (r_Wy_leadsTo hV rfl) ?_
      refine g_istore (ls1 := [some (.ref 37), none, some (.int v2), none, some (.int (Wy_leadsTo q.1 v2 S)), some (.int q.2.1), some (.int q.2.2)]) (pc := 36) dX10_stepsToCircle_36 (by decide) rfl ?_
      refine g_aload_n (pc := 38) dX10_stepsToCircle_38 rfl ?_
      refine g_iload (pc := 39) dX10_stepsToCircle_39 rfl ?_
      refine g_iload_n (pc := 41) dX10_stepsToCircle_41 rfl ?_
      refine v_callVi hV (Mc := mX10_leadsTo) (v := Wy_leadsTo q.2.1 v2 S) (S1 := S) (As := [.int q.2.1, .int v2]) (rest := []) (q := (RX10, TX10, 5)) (pc := 42) dX10_stepsToCircle_42 mK_X10_50 mf_X10_leadsTo rfl k0_37 rfl rfl rfl (Nat.le_of_ble_eq_true rfl) ⟨Nat.le_of_ble_eq_true rfl, Nat.le_of_ble_eq_true rfl⟩ (r_Wy_leadsTo hV rfl) ?_
      refine g_istore (ls1 := [some (.ref 37), none, some (.int v2), none, some (.int (Wy_leadsTo q.1 v2 S)), some (.int (Wy_leadsTo q.2.1 v2 S)), some (.int q.2.2)]) (pc := 45) dX10_stepsToCircle_45 (by decide) rfl ?_
      refine g_iinc (v := q.2.2 + 1) (ls1 := [some (.ref 37), none, some (.int v2), none, some (.int (Wy_leadsTo q.1 v2 S)), some (.int (Wy_leadsTo q.2.1 v2 S)), some (.int (q.2.2 + 1))]) (pc := 47) dX10_stepsToCircle_47 rfl rfl (by decide) rfl ?_
      refine g_goto (tgt := 15) (pc := 50) dX10_stepsToCircle_50 (by decide) ?_
      cases h
      exact hK
set_option maxRecDepth 4000 in
theorem w_Wy_stepsToCircle_L15 {V : Sm → Wd} (hV : VwC V) {l : Launch} {Γ : Gm} {rF : Option Value} {wF : Wd} {v2 : Int32} {S : Sm} {k : Nat} {q : Int32 × Int32 × Int32} {o : Int32} (h : lpN (Wy_stepsToCircle_L15 v2 S) k q = some o) (hP : ps_Wy_stepsToCircle_L15 V l Γ rF wF v2 S o) : hd_Wy_stepsToCircle_L15 V l Γ rF wF v2 S q := lpN_ind2 (hd_Wy_stepsToCircle_L15 V l Γ rF wF v2 S) (ps_Wy_stepsToCircle_L15 V l Γ rF wF v2 S) (fun s o h hK => t_Wy_stepsToCircle_L15 hV h hK) k q o h hP
def Wy_stepsToCircle (v1 : Int32) (v2 : Int32) (v3 : Int32) (S : Sm) : Option (Int32) := ((Wy_behind v1 v2 v3 S).bind fun q1 => ((lpN (Wy_stepsToCircle_L15 v2 S) FU (v1, q1, 0)).bind fun q4 => (some q4)))
set_option maxRecDepth 4000 in
theorem r_Wy_stepsToCircle {V : Sm → Wd} (hV : VwC V) {v1 : Int32} {v2 : Int32} {v3 : Int32} {S : Sm} {q : Int32} (h : Wy_stepsToCircle v1 v2 v3 S = some q) : Runs 4 mX10_stepsToCircle [.ref 37, .int v1, .int v2, .int v3] (V S) (some (.int q)) (V S) 0 0 := by
  unfold Wy_stepsToCircle at h
  refine Runs.of2 [some (.ref 37), some (.int v1), some (.int v2), some (.int v3), none, none, none] 3 rfl rfl (Nat.le_of_ble_eq_true rfl) (fun l Γ => ?_)
  refine g_iload_n (pc := 0) dX10_stepsToCircle_0 rfl ?_
  refine g_istore (ls1 := [some (.ref 37), some (.int v1), some (.int v2), some (.int v3), some (.int v1), none, none]) (pc := 1) dX10_stepsToCircle_1 (by decide) rfl ?_
  refine g_aload_n (pc := 3) dX10_stepsToCircle_3 rfl ?_
  refine g_iload_n (pc := 4) dX10_stepsToCircle_4 rfl ?_
  refine g_iload_n (pc := 5) dX10_stepsToCircle_5 rfl ?_
  refine g_iload_n (pc := 6) dX10_stepsToCircle_6 rfl ?_
  obtain ⟨q1, hq1, h⟩ := bnd h
  refine v_callVi hV (Mc := mX10_behind) (v := q1) (S1 := S) (As := [.int v1, .int v2, .int v3]) (rest := []) (q := (RX10, TX10, 5)) (pc := 7) dX10_stepsToCircle_7 mK_X10_69 mf_X10_behind rfl k0_37 rfl rfl rfl (Nat.le_of_ble_eq_true rfl) ⟨Nat.le_of_ble_eq_true rfl, Nat.le_of_ble_eq_true rfl⟩ (r_Wy_behind hV hq1) ?_
  refine g_istore (ls1 := [some (.ref 37), some (.int v1), some (.int v2), some (.int v3), some (.int v1), some (.int q1), none]) (pc := 10) dX10_stepsToCircle_10 (by decide) rfl ?_
  refine g_iconst (v := 0) (pc := 12) dX10_stepsToCircle_12 (by decide) ?_
  refine g_istore (ls1 := [some (.ref 37), some (.int v1), some (.int v2), some (.int v3), some (.int v1), some (.int q1), some (.int 0)]) (pc := 13) dX10_stepsToCircle_13 (by decide) rfl ?_
  refine g_wk [true, false, true, false, true, true, true] rfl ?_
  obtain ⟨q4, hqq4, h⟩ := bnd h
  refine w_Wy_stepsToCircle_L15 hV hqq4 ?_
  unfold ps_Wy_stepsToCircle_L15
  show G _ _ _ _ _ _ _ _ _ _ _
  refine g_iload (pc := 53) dX10_stepsToCircle_53 rfl ?_
  cases h
  exact g_iret (pc := 55) dX10_stepsToCircle_55 rfl rfl (Nat.le_refl _) (Nat.le_refl _)
def Dk_round_31 (S : Sm) : Option (Int32) := (some ((-1)))
set_option maxRecDepth 4000 in
theorem t_Dk_round_31 {V : Sm → Wd} (hV : VwC V) {l : Launch} {Γ : Gm}  {S : Sm} {q : Int32} (h : Dk_round_31 S = some q) : G mX11_round l Γ (rmD 5 0 0) (mQ Γ (some (.int q)) (V S) 0 0) 0 0 31 [none, none, none, none, none] [] (V S) := by
  unfold Dk_round_31 at h
  refine g_iconst (v := (-1)) (pc := 31) dX11_round_31 (by decide) ?_
  cases h
  exact g_iret (pc := 32) dX11_round_32 rfl rfl (Nat.le_refl _) (Nat.le_refl _)
def Dk_round_65 (s0 : Int32) (S : Sm) : Option (Int32) := (some s0)
set_option maxRecDepth 4000 in
theorem t_Dk_round_65 {V : Sm → Wd} (hV : VwC V) {l : Launch} {Γ : Gm} {s0 : Int32} {S : Sm} {q : Int32} (h : Dk_round_65 s0 S = some q) : G mX11_round l Γ (rmD 5 0 0) (mQ Γ (some (.int q)) (V S) 0 0) 0 0 65 [none, none, none, none, none] [.int s0] (V S) := by
  unfold Dk_round_65 at h
  cases h
  exact g_iret (pc := 65) dX11_round_65 rfl rfl (Nat.le_refl _) (Nat.le_refl _)
def Dk_round (v1 : Int32) (v2 : Int32) (v3 : Int32) (S : Sm) : Option (Int32) := (if (Nt_hasMouth v1 S) = 0 then (Dk_round_31 S) else (if (Nt_hasLamp v2 S) = 0 then (Dk_round_31 S) else (if v3 < 0 then (Dk_round_31 S) else (if v3 ≤ 1 then ((Wy_circleLength v1 v2 S).bind fun q1 => (if v3 = 1 then (Dk_round_65 q1 S) else ((Wy_stepsToCircle v1 v2 q1 S).bind fun q2 => (Dk_round_65 q2 S)))) else (Dk_round_31 S)))))
set_option maxRecDepth 4000 in
theorem r_Dk_round {V : Sm → Wd} (hV : VwC V) {v1 : Int32} {v2 : Int32} {v3 : Int32} {S : Sm} {q : Int32} (h : Dk_round v1 v2 v3 S = some q) : Runs 5 mX11_round [.ref 7, .int v1, .int v2, .int v3] (V S) (some (.int q)) (V S) 0 0 := by
  unfold Dk_round at h
  refine Runs.of2 [some (.ref 7), some (.int v1), some (.int v2), some (.int v3), none] 1 rfl rfl (Nat.le_of_ble_eq_true rfl) (fun l Γ => ?_)
  refine g_aload_n (pc := 0) dX11_round_0 rfl ?_
  refine v_getR hV (pc := 1) dX11_round_1 fo_11_1 rfl k0_7 r0_7_1 ?_
  refine g_iload_n (pc := 4) dX11_round_4 rfl ?_
  refine v_callVi hV (Mc := mX5_hasMouth) (v := Nt_hasMouth v1 S) (S1 := S) (As := [.int v1]) (rest := []) (q := (RX5, TX5, 3)) (pc := 5) dX11_round_5 mK_X11_140 mf_X5_hasMouth rfl k0_10 rfl rfl rfl (Nat.le_of_ble_eq_true rfl) ⟨Nat.le_of_ble_eq_true rfl, Nat.le_of_ble_eq_true rfl⟩ (r_Nt_hasMouth hV rfl) ?_
  refine g_if_eq (tgt := 31) (pc := 8) dX11_round_8 (by decide) (fun c7 => ?_) (fun c7 => ?_)
  · rw [if_pos c7] at h
    refine g_wk [false, false, false, false, false] rfl ?_
    exact t_Dk_round_31 hV h
  · rw [if_neg c7] at h
    refine g_aload_n (pc := 11) dX11_round_11 rfl ?_
    refine v_getR hV (pc := 12) dX11_round_12 fo_11_1 rfl k0_7 r0_7_1 ?_
    refine g_iload_n (pc := 15) dX11_round_15 rfl ?_
    refine v_callVi hV (Mc := mX5_hasLamp) (v := Nt_hasLamp v2 S) (S1 := S) (As := [.int v2]) (rest := []) (q := (RX5, TX5, 3)) (pc := 16) dX11_round_16 mK_X11_143 mf_X5_hasLamp rfl k0_10 rfl rfl rfl (Nat.le_of_ble_eq_true rfl) ⟨Nat.le_of_ble_eq_true rfl, Nat.le_of_ble_eq_true rfl⟩ (r_Nt_hasLamp hV rfl) ?_
    refine g_if_eq (tgt := 31) (pc := 19) dX11_round_19 (by decide) (fun c6 => ?_) (fun c6 => ?_)
    · rw [if_pos c6] at h
      refine g_wk [false, false, false, false, false] rfl ?_
      exact t_Dk_round_31 hV h
    · rw [if_neg c6] at h
      refine g_iload_n (pc := 22) dX11_round_22 rfl ?_
      refine g_if_lt (tgt := 31) (pc := 23) dX11_round_23 (by decide) (fun c5 => ?_) (fun c5 => ?_)
      · rw [if_pos c5] at h
        refine g_wk [false, false, false, false, false] rfl ?_
        exact t_Dk_round_31 hV h
      · rw [if_neg c5] at h
        refine g_iload_n (pc := 26) dX11_round_26 rfl ?_
        refine g_iconst (v := 1) (pc := 27) dX11_round_27 (by decide) ?_
        refine g_icmp_le (tgt := 33) (pc := 28) dX11_round_28 (by decide) (fun c4 => ?_) (fun c4 => ?_)
        · rw [if_pos c4] at h
          refine g_aload_n (pc := 33) dX11_round_33 rfl ?_
          refine v_getR hV (pc := 34) dX11_round_34 fo_11_8 rfl k0_7 r0_7_8 ?_
          refine g_iload_n (pc := 37) dX11_round_37 rfl ?_
          refine g_iload_n (pc := 38) dX11_round_38 rfl ?_
          obtain ⟨q1, hq1, h⟩ := bnd h
          refine v_callVi hV (Mc := mX10_circleLength) (v := q1) (S1 := S) (As := [.int v1, .int v2]) (rest := []) (q := (RX10, TX10, 5)) (pc := 39) dX11_round_39 mK_X11_230 mf_X10_circleLength rfl k0_37 rfl rfl rfl (Nat.le_of_ble_eq_true rfl) ⟨Nat.le_of_ble_eq_true rfl, Nat.le_of_ble_eq_true rfl⟩ (r_Wy_circleLength hV hq1) ?_
          refine g_istore (ls1 := [some (.ref 7), some (.int v1), some (.int v2), some (.int v3), some (.int q1)]) (pc := 42) dX11_round_42 (by decide) rfl ?_
          refine g_iload_n (pc := 44) dX11_round_44 rfl ?_
          refine g_iconst (v := 1) (pc := 45) dX11_round_45 (by decide) ?_
          refine g_icmp_ne (tgt := 54) (pc := 46) dX11_round_46 (by decide) (fun c3 => ?_) (fun c3 => ?_)
          · rw [if_neg c3] at h
            refine g_aload_n (pc := 54) dX11_round_54 rfl ?_
            refine v_getR hV (pc := 55) dX11_round_55 fo_11_8 rfl k0_7 r0_7_8 ?_
            refine g_iload_n (pc := 58) dX11_round_58 rfl ?_
            refine g_iload_n (pc := 59) dX11_round_59 rfl ?_
            refine g_iload (pc := 60) dX11_round_60 rfl ?_
            obtain ⟨q2, hq2, h⟩ := bnd h
            refine v_callVi hV (Mc := mX10_stepsToCircle) (v := q2) (S1 := S) (As := [.int v1, .int v2, .int q1]) (rest := []) (q := (RX10, TX10, 5)) (pc := 62) dX11_round_62 mK_X11_233 mf_X10_stepsToCircle rfl k0_37 rfl rfl rfl (Nat.le_of_ble_eq_true rfl) ⟨Nat.le_of_ble_eq_true rfl, Nat.le_of_ble_eq_true rfl⟩ (r_Wy_stepsToCircle hV hq2) ?_
            refine g_wk [false, false, false, false, false] rfl ?_
            exact t_Dk_round_65 hV h
          · rw [if_pos c3] at h
            refine g_iload (pc := 49) dX11_round_49 rfl ?_
            refine g_goto (tgt := 65) (pc := 51) dX11_round_51 (by decide) ?_
            refine g_wk [false, false, false, false, false] rfl ?_
            exact t_Dk_round_65 hV h
        · rw [if_neg c4] at h
          refine g_wk [false, false, false, false, false] rfl ?_
          exact t_Dk_round_31 hV h
def Nt_allColours (S : Sm) : Int32 := ((iShl 1 (Nt_colours S)) - 1)
set_option maxRecDepth 4000 in
theorem r_Nt_allColours {V : Sm → Wd} (hV : VwC V)  {S : Sm} {q : Int32} (h : Nt_allColours S = q) : Runs 2 mX5_allColours [.ref 10] (V S) (some (.int q)) (V S) 0 0 := by
  unfold Nt_allColours at h
  refine Runs.of2 [some (.ref 10)] 0 rfl rfl (Nat.le_of_ble_eq_true rfl) (fun l Γ => ?_)
  refine g_iconst (v := 1) (pc := 0) dX5_allColours_0 (by decide) ?_
  refine g_aload_n (pc := 1) dX5_allColours_1 rfl ?_
  refine v_callVi hV (Mc := mX5_colours) (v := Nt_colours S) (S1 := S) (As := []) (rest := [.int 1]) (q := (RX5, TX5, 3)) (pc := 2) dX5_allColours_2 mK_X5_50 mf_X5_colours rfl k0_10 rfl rfl rfl (Nat.le_of_ble_eq_true rfl) ⟨Nat.le_of_ble_eq_true rfl, Nat.le_of_ble_eq_true rfl⟩ (r_Nt_colours hV rfl) ?_
  refine g_ishl (pc := 5) dX5_allColours_5 ?_
  refine g_iconst (v := 1) (pc := 6) dX5_allColours_6 (by decide) ?_
  refine g_isub (pc := 7) dX5_allColours_7 ?_
  subst h
  exact g_iret (pc := 8) dX5_allColours_8 rfl rfl (Nat.le_refl _) (Nat.le_refl _)
def Nt_hasSet_17 (s0 : Int32) (S : Sm) : Int32 := (s0 &&& 1)
set_option maxRecDepth 4000 in
theorem t_Nt_hasSet_17 {V : Sm → Wd} (hV : VwC V) {l : Launch} {Γ : Gm} {s0 : Int32} {S : Sm} {q : Int32} (h : Nt_hasSet_17 s0 S = q) : G mX5_hasSet l Γ (rmD 3 0 0) (mQ Γ (some (.int q)) (V S) 0 0) 0 0 17 [none, none] [.int s0] (V S) := by
  unfold Nt_hasSet_17 at h
  subst h
  exact g_iret (pc := 17) dX5_hasSet_17 rfl rfl (Nat.le_refl _) (Nat.le_refl _)
def Nt_hasSet_16 (S : Sm) : Int32 := (Nt_hasSet_17 0 S)
set_option maxRecDepth 4000 in
theorem t_Nt_hasSet_16 {V : Sm → Wd} (hV : VwC V) {l : Launch} {Γ : Gm}  {S : Sm} {q : Int32} (h : Nt_hasSet_16 S = q) : G mX5_hasSet l Γ (rmD 3 0 0) (mQ Γ (some (.int q)) (V S) 0 0) 0 0 16 [none, none] [] (V S) := by
  unfold Nt_hasSet_16 at h
  refine g_iconst (v := 0) (pc := 16) dX5_hasSet_16 (by decide) ?_
  exact t_Nt_hasSet_17 hV h
def Nt_hasSet (v1 : Int32) (S : Sm) : Int32 := (if v1 ≤ 0 then (Nt_hasSet_16 S) else (if (Nt_allColours S) < v1 then (Nt_hasSet_16 S) else (Nt_hasSet_17 1 S)))
set_option maxRecDepth 4000 in
theorem r_Nt_hasSet {V : Sm → Wd} (hV : VwC V) {v1 : Int32} {S : Sm} {q : Int32} (h : Nt_hasSet v1 S = q) : Runs 3 mX5_hasSet [.ref 10, .int v1] (V S) (some (.int q)) (V S) 0 0 := by
  unfold Nt_hasSet at h
  refine Runs.of2 [some (.ref 10), some (.int v1)] 0 rfl rfl (Nat.le_of_ble_eq_true rfl) (fun l Γ => ?_)
  refine g_iload_n (pc := 0) dX5_hasSet_0 rfl ?_
  refine g_if_le (tgt := 16) (pc := 1) dX5_hasSet_1 (by decide) (fun c2 => ?_) (fun c2 => ?_)
  · rw [if_pos c2] at h
    refine g_wk [false, false] rfl ?_
    exact t_Nt_hasSet_16 hV h
  · rw [if_neg c2] at h
    refine g_iload_n (pc := 4) dX5_hasSet_4 rfl ?_
    refine g_aload_n (pc := 5) dX5_hasSet_5 rfl ?_
    refine v_callVi hV (Mc := mX5_allColours) (v := Nt_allColours S) (S1 := S) (As := []) (rest := [.int v1]) (q := (RX5, TX5, 3)) (pc := 6) dX5_hasSet_6 mK_X5_57 mf_X5_allColours rfl k0_10 rfl rfl rfl (Nat.le_of_ble_eq_true rfl) ⟨Nat.le_of_ble_eq_true rfl, Nat.le_of_ble_eq_true rfl⟩ (r_Nt_allColours hV rfl) ?_
    refine g_icmp_gt (tgt := 16) (pc := 9) dX5_hasSet_9 (by decide) (fun c1 => ?_) (fun c1 => ?_)
    · rw [if_pos c1] at h
      refine g_wk [false, false] rfl ?_
      exact t_Nt_hasSet_16 hV h
    · rw [if_neg c1] at h
      refine g_iconst (v := 1) (pc := 12) dX5_hasSet_12 (by decide) ?_
      refine g_goto (tgt := 17) (pc := 13) dX5_hasSet_13 (by decide) ?_
      refine g_wk [false, false] rfl ?_
      exact t_Nt_hasSet_17 hV h
