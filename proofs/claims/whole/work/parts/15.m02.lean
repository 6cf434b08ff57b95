/-! ===== printed by program: methods as functions over a state, and their walks ===== -/
def Dk_areAsked_38 (s0 : Int32) (S : Sm) : Int32 := (s0 &&& 1)
set_option maxRecDepth 4000 in
theorem t_Dk_areAsked_38 {V : Sm → Wd} (hV : VwC V) {l : Launch} {Γ : Gm} {s0 : Int32} {S : Sm} {q : Int32} (h : Dk_areAsked_38 s0 S = q) : G mX11_areAsked l Γ (rmD 4 0 0) (mQ Γ (some (.int q)) (V S) 0 0) 0 0 38 [none, none, none, none] [.int s0] (V S) := by
  unfold Dk_areAsked_38 at h
  subst h
  exact g_iret (pc := 38) dX11_areAsked_38 rfl rfl (Nat.le_refl _) (Nat.le_refl _)
def Dk_areAsked_37 (S : Sm) : Int32 := (Dk_areAsked_38 0 S)
set_option maxRecDepth 4000 in
theorem t_Dk_areAsked_37 {V : Sm → Wd} (hV : VwC V) {l : Launch} {Γ : Gm}  {S : Sm} {q : Int32} (h : Dk_areAsked_37 S = q) : G mX11_areAsked l Γ (rmD 4 0 0) (mQ Γ (some (.int q)) (V S) 0 0) 0 0 37 [none, none, none, none] [] (V S) := by
  unfold Dk_areAsked_37 at h
  refine g_iconst (v := 0) (pc := 37) dX11_areAsked_37 (by decide) ?_
  exact t_Dk_areAsked_38 hV h
def Dk_areAsked (v1 : Int32) (v2 : Int32) (v3 : Int32) (S : Sm) : Int32 := (if (Nt_hasMouth v1 S) = 0 then (Dk_areAsked_37 S) else (if (Nt_hasMouth v2 S) = 0 then (Dk_areAsked_37 S) else (if (Nt_hasSet v3 S) = 0 then (Dk_areAsked_37 S) else (Dk_areAsked_38 1 S))))
set_option maxRecDepth 4000 in
theorem r_Dk_areAsked {V : Sm → Wd} (hV : VwC V) {v1 : Int32} {v2 : Int32} {v3 : Int32} {S : Sm} {q : Int32} (h : Dk_areAsked v1 v2 v3 S = q) : Runs 4 mX11_areAsked [.ref 7, .int v1, .int v2, .int v3] (V S) (some (.int q)) (V S) 0 0 := by
  unfold Dk_areAsked at h
  refine Runs.of2 [some (.ref 7), some (.int v1), some (.int v2), some (.int v3)] 0 rfl rfl (Nat.le_of_ble_eq_true rfl) (fun l Γ => ?_)
  refine g_aload_n (pc := 0) dX11_areAsked_0 rfl ?_
  refine v_getR hV (pc := 1) dX11_areAsked_1 fo_11_1 rfl k0_7 r0_7_1 ?_
  refine g_iload_n (pc := 4) dX11_areAsked_4 rfl ?_
  refine v_callVi hV (Mc := mX5_hasMouth) (v := Nt_hasMouth v1 S) (S1 := S) (As := [.int v1]) (rest := []) (q := (RX5, TX5, 3)) (pc := 5) dX11_areAsked_5 mK_X11_140 mf_X5_hasMouth rfl k0_10 rfl rfl rfl (Nat.le_of_ble_eq_true rfl) ⟨Nat.le_of_ble_eq_true rfl, Nat.le_of_ble_eq_true rfl⟩ (r_Nt_hasMouth hV rfl) ?_
  refine g_if_eq (tgt := 37) (pc := 8) dX11_areAsked_8 (by decide) (fun c3 => ?_) (fun c3 => ?_)
  · rw [if_pos c3] at h
    refine g_wk [false, false, false, false] rfl ?_
    exact t_Dk_areAsked_37 hV h
  · rw [if_neg c3] at h
    refine g_aload_n (pc := 11) dX11_areAsked_11 rfl ?_
    refine v_getR hV (pc := 12) dX11_areAsked_12 fo_11_1 rfl k0_7 r0_7_1 ?_
    refine g_iload_n (pc := 15) dX11_areAsked_15 rfl ?_
    refine v_callVi hV (Mc := mX5_hasMouth) (v := Nt_hasMouth v2 S) (S1 := S) (As := [.int v2]) (rest := []) (q := (RX5, TX5, 3)) (pc := 16) dX11_areAsked_16 mK_X11_140 mf_X5_hasMouth rfl k0_10 rfl rfl rfl (Nat.le_of_ble_eq_true rfl) ⟨Nat.le_of_ble_eq_true rfl, Nat.le_of_ble_eq_true rfl⟩ (r_Nt_hasMouth hV rfl) ?_
    refine g_if_eq (tgt := 37) (pc := 19) dX11_areAsked_19 (by decide) (fun c2 => ?_) (fun c2 => ?_)
    · rw [if_pos c2] at h
      refine g_wk [false, false, false, false] rfl ?_
      exact t_Dk_areAsked_37 hV h
    · rw [if_neg c2] at h
      refine g_aload_n (pc := 22) dX11_areAsked_22 rfl ?_
      refine v_getR hV (pc := 23) dX11_areAsked_23 fo_11_1 rfl k0_7 r0_7_1 ?_
      refine g_iload_n (pc := 26) dX11_areAsked_26 rfl ?_
      refine v_callVi hV (Mc := mX5_hasSet) (v := Nt_hasSet v3 S) (S1 := S) (As := [.int v3]) (rest := []) (q := (RX5, TX5, 3)) (pc := 27) dX11_areAsked_27 mK_X11_236 mf_X5_hasSet rfl k0_10 rfl rfl rfl (Nat.le_of_ble_eq_true rfl) ⟨Nat.le_of_ble_eq_true rfl, Nat.le_of_ble_eq_true rfl⟩ (r_Nt_hasSet hV rfl) ?_
      refine g_if_eq (tgt := 37) (pc := 30) dX11_areAsked_30 (by decide) (fun c1 => ?_) (fun c1 => ?_)
      · rw [if_pos c1] at h
        refine g_wk [false, false, false, false] rfl ?_
        exact t_Dk_areAsked_37 hV h
      · rw [if_neg c1] at h
        refine g_iconst (v := 1) (pc := 33) dX11_areAsked_33 (by decide) ?_
        refine g_goto (tgt := 38) (pc := 34) dX11_areAsked_34 (by decide) ?_
        refine g_wk [false, false, false, false] rfl ?_
        exact t_Dk_areAsked_38 hV h
def hd_Wy_behindOne_L5 (V : Sm → Wd) (l : Launch) (Γ : Gm) (rF : Option Value) (wF : Wd) (v1 : Int32) (v2 : Int32) (S : Sm) (q : Int32 × Int32) : Prop := G mX10_behindOne l Γ (rmD 3 0 0) (mQ Γ rF wF 0 0) 0 0 5 [some (.ref 37), some (.int v1), some (.int v2), some (.int q.1), some (.int q.2), none] [] (V S)
def ps_Wy_behindOne_L5 (V : Sm → Wd) (l : Launch) (Γ : Gm) (rF : Option Value) (wF : Wd) (v1 : Int32) (v2 : Int32) (S : Sm) (x : Int32) : Prop := (fun (a : Int32) => G mX10_behindOne l Γ (rmD 3 0 0) (mQ Γ rF wF 0 0) 0 0 75 [none, none, none, some (.int a), none, none] [] (V S)) x
def hd_Wy_behindOne_L20 (V : Sm → Wd) (l : Launch) (Γ : Gm) (rF : Option Value) (wF : Wd) (v1 : Int32) (v2 : Int32) (v4 : Int32) (S : Sm) (q : Int32 × Int32) : Prop := G mX10_behindOne l Γ (rmD 3 0 0) (mQ Γ rF wF 0 0) 0 0 20 [some (.ref 37), some (.int v1), some (.int v2), some (.int q.1), some (.int v4), some (.int q.2)] [] (V S)
def ps_Wy_behindOne_L20 (V : Sm → Wd) (l : Launch) (Γ : Gm) (rF : Option Value) (wF : Wd) (v1 : Int32) (v2 : Int32) (v4 : Int32) (S : Sm) (x : Int32) : Prop := (fun (a : Int32) => G mX10_behindOne l Γ (rmD 3 0 0) (mQ Γ rF wF 0 0) 0 0 69 [some (.ref 37), some (.int v1), some (.int v2), some (.int a), some (.int v4), none] [] (V S)) x
def Wy_behindOne_63_L20 (v1 : Int32) (v2 : Int32) (v3 : Int32) (v4 : Int32) (v5 : Int32) (S : Sm) : Option ((Int32 × Int32) ⊕ (Int32)) := (some (.inl (v3, v5 + 1)))
set_option maxRecDepth 4000 in
theorem t_Wy_behindOne_63_L20 {V : Sm → Wd} (hV : VwC V) {l : Launch} {Γ : Gm} {v1 : Int32} {v2 : Int32} {v3 : Int32} {v4 : Int32} {v5 : Int32} {rF : Option Value} {wF : Wd} {S : Sm} {o : (Int32 × Int32) ⊕ (Int32)} (h : Wy_behindOne_63_L20 v1 v2 v3 v4 v5 S = some o) (hK : Sum.elim (hd_Wy_behindOne_L20 V l Γ rF wF v1 v2 v4 S) (ps_Wy_behindOne_L20 V l Γ rF wF v1 v2 v4 S) o) : G mX10_behindOne l Γ (rmD 3 0 0) (mQ Γ rF wF 0 0) 0 0 63 [some (.ref 37), some (.int v1), some (.int v2), some (.int v3), some (.int v4), some (.int v5)] [] (V S) := by
  unfold Wy_behindOne_63_L20 at h
  refine g_iinc (v := v5 + 1) (ls1 := [some (.ref 37), some (.int v1), some (.int v2), some (.int v3), some (.int v4), some (.int (v5 + 1))]) (pc := 63) dX10_behindOne_63 rfl rfl (by decide) rfl ?_
  refine g_goto (tgt := 20) (pc := 66) dX10_behindOne_66 (by decide) ?_
  cases h
  exact hK
def Wy_behindOne_L20 (v1 : Int32) (v2 : Int32) (v4 : Int32) (S : Sm) (q : Int32 × Int32) : Option ((Int32 × Int32) ⊕ (Int32)) := (if (Nt_colours S) ≤ q.2 then (some (.inr q.1)) else (if (Dk_holds v1 v4) = 0 then (some (.inr q.1)) else (if (Dk_holds v2 q.2) = 0 then (Wy_behindOne_63_L20 v1 v2 q.1 v4 q.2 S) else (Wy_behindOne_63_L20 v1 v2 (q.1 ||| (iShl 1 (Wy_leadsTo v4 q.2 S))) v4 q.2 S))))
set_option maxRecDepth 4000 in
theorem t_Wy_behindOne_L20 {V : Sm → Wd} (hV : VwC V) {l : Launch} {Γ : Gm} {rF : Option Value} {wF : Wd} {v1 : Int32} {v2 : Int32} {v4 : Int32} {S : Sm} {q : Int32 × Int32} {o : (Int32 × Int32) ⊕ (Int32)} (h : Wy_behindOne_L20 v1 v2 v4 S q = some o) (hK : Sum.elim (hd_Wy_behindOne_L20 V l Γ rF wF v1 v2 v4 S) (ps_Wy_behindOne_L20 V l Γ rF wF v1 v2 v4 S) o) : hd_Wy_behindOne_L20 V l Γ rF wF v1 v2 v4 S q := by
  unfold Wy_behindOne_L20 at h
  unfold hd_Wy_behindOne_L20
  refine g_iload (pc := 20) dX10_behindOne_20 rfl ?_
  refine g_aload_n (pc := 22) dX10_behindOne_22 rfl ?_
  refine v_getR hV (pc := 23) dX10_behindOne_23 fo_10_0 rfl k0_37 r0_37_0 ?_
  refine v_callVi hV (Mc := mX5_colours) (v := Nt_colours S) (S1 := S) (As := []) (rest := [.int q.2]) (q := (RX5, TX5, 3)) (pc := 26) dX10_behindOne_26 mK_X10_80 mf_X5_colours rfl k0_10 rfl rfl rfl (Nat.le_of_ble_eq_true rfl) ⟨Nat.le_of_ble_eq_true rfl, Nat.le_of_ble_eq_true rfl⟩ (r_Nt_colours hV rfl) ?_
  refine g_icmp_ge (tgt := 69) (pc := 29) dX10_behindOne_29 (by decide) (fun c3 => ?_) (fun c3 => ?_)
  · rw [if_pos c3] at h
    refine g_wk [true, true, true, true, true, false] rfl ?_
    cases h
    exact hK
  · rw [if_neg c3] at h
    refine g_iload_n (pc := 32) dX10_behindOne_32 rfl ?_
    refine g_iload (pc := 33) dX10_behindOne_33 rfl ?_
    refine v_callNi (Mc := mX11_holds) (v := Dk_holds v1 v4) (S1 := S) (As := [.int v1, .int v4]) (rest := []) (pc := 35) dX10_behindOne_35 nl_X10_76 mf_X11_holds rfl rfl (Nat.le_of_ble_eq_true rfl) ⟨Nat.le_of_ble_eq_true rfl, Nat.le_of_ble_eq_true rfl⟩ (r_Dk_holds hV rfl) ?_
    refine g_if_eq (tgt := 69) (pc := 38) dX10_behindOne_38 (by decide) (fun c2 => ?_) (fun c2 => ?_)
    · rw [if_pos c2] at h
      refine g_wk [true, true, true, true, true, false] rfl ?_
      cases h
      exact hK
    · rw [if_neg c2] at h
      refine g_iload_n (pc := 41) dX10_behindOne_41 rfl ?_
      refine g_iload (pc := 42) dX10_behindOne_42 rfl ?_
      refine v_callNi (Mc := mX11_holds) (v := Dk_holds v2 q.2) (S1 := S) (As := [.int v2, .int q.2]) (rest := []) (pc := 44) dX10_behindOne_44 nl_X10_76 mf_X11_holds rfl rfl (Nat.le_of_ble_eq_true rfl) ⟨Nat.le_of_ble_eq_true rfl, Nat.le_of_ble_eq_true rfl⟩ (r_Dk_holds hV rfl) ?_
      refine g_if_eq (tgt := 63) (pc := 47) dX10_behindOne_47 (by decide) (fun c1 => ?_) (fun c1 => ?_)
      · rw [if_pos c1] at h
        exact t_Wy_behindOne_63_L20 hV h hK
      · rw [if_neg c1] at h
        refine g_iload_n (pc := 50) dX10_behindOne_50 rfl ?_
        refine g_iconst (v := 1) (pc := 51) dX10_behindOne_51 (by decide) ?_
        refine g_aload_n (pc := 52) dX10_behindOne_52 rfl ?_
        refine g_iload (pc := 53) dX10_behindOne_53 rfl ?_
        refine g_iload (pc := 55) dX10_behindOne_55 rfl ?_
        refine v_callVi hV (Mc := mX10_leadsTo) (v := Wy_leadsTo v4 q.2 S) (S1 := S) (As := [.int v4, .int q.2]) (rest := [.int 1, .int q.1]) (q := (RX10, TX10, 5)) (pc := 57) dX10_behindOne_57 mK_X10_50 mf_X10_leadsTo rfl k0_37 rfl rfl rfl (Nat.le_of_ble_eq_true rfl) ⟨Nat.le_of_ble_eq_true rfl, Nat.le_of_ble_eq_true rfl⟩ (r_Wy_leadsTo hV rfl) ?_
        refine g_ishl (pc := 60) dX10_behindOne_60 ?_
        refine g_ior (pc := 61) dX10_behindOne_61 ?_
        refine g_istore_n (ls1 := [some (.ref 37), some (.int v1), some (.int v2), some (.int (q.1 ||| (iShl 1 (Wy_leadsTo v4 q.2 S)))), some (.int v4), some (.int q.2)]) (pc := 62) dX10_behindOne_62 (by decide) rfl ?_
        exact t_Wy_behindOne_63_L20 hV h hK
set_option maxRecDepth 4000 in
theorem w_Wy_behindOne_L20 {V : Sm → Wd} (hV : VwC V) {l : Launch} {Γ : Gm} {rF : Option Value} {wF : Wd} {v1 : Int32} {v2 : Int32} {v4 : Int32} {S : Sm} {k : Nat} {q : Int32 × Int32} {o : Int32} (h : lpN (Wy_behindOne_L20 v1 v2 v4 S) k q = some o) (hP : ps_Wy_behindOne_L20 V l Γ rF wF v1 v2 v4 S o) : hd_Wy_behindOne_L20 V l Γ rF wF v1 v2 v4 S q := lpN_ind2 (hd_Wy_behindOne_L20 V l Γ rF wF v1 v2 v4 S) (ps_Wy_behindOne_L20 V l Γ rF wF v1 v2 v4 S) (fun s o h hK => t_Wy_behindOne_L20 hV h hK) k q o h hP
def Wy_behindOne_L5 (v1 : Int32) (v2 : Int32) (S : Sm) (q : Int32 × Int32) : Option ((Int32 × Int32) ⊕ (Int32)) := (if (Nt_mouths S) ≤ q.2 then (some (.inr q.1)) else ((lpN (Wy_behindOne_L20 v1 v2 q.2 S) FU (q.1, 0)).bind fun q4 => (some (.inl (q4, q.2 + 1)))))
set_option maxRecDepth 4000 in
theorem t_Wy_behindOne_L5 {V : Sm → Wd} (hV : VwC V) {l : Launch} {Γ : Gm} {rF : Option Value} {wF : Wd} {v1 : Int32} {v2 : Int32} {S : Sm} {q : Int32 × Int32} {o : (Int32 × Int32) ⊕ (Int32)} (h : Wy_behindOne_L5 v1 v2 S q = some o) (hK : Sum.elim (hd_Wy_behindOne_L5 V l Γ rF wF v1 v2 S) (ps_Wy_behindOne_L5 V l Γ rF wF v1 v2 S) o) : hd_Wy_behindOne_L5 V l Γ rF wF v1 v2 S q := by
  unfold Wy_behindOne_L5 at h
  unfold hd_Wy_behindOne_L5
  refine g_iload (pc := 5) dX10_behindOne_5 rfl ?_
  refine g_aload_n (pc := 7) dX10_behindOne_7 rfl ?_
  refine v_getR hV (pc := 8) dX10_behindOne_8 fo_10_0 rfl k0_37 r0_37_0 ?_
  refine v_callVi hV (Mc := mX5_mouths) (v := Nt_mouths S) (S1 := S) (As := []) (rest := [.int q.2]) (q := (RX5, TX5, 3)) (pc := 11) dX10_behindOne_11 mK_X10_89 mf_X5_mouths rfl k0_10 rfl rfl rfl (Nat.le_of_ble_eq_true rfl) ⟨Nat.le_of_ble_eq_true rfl, Nat.le_of_ble_eq_true rfl⟩ (r_Nt_mouths hV rfl) ?_
  refine g_icmp_ge (tgt := 75) (pc := 14) dX10_behindOne_14 (by decide) (fun c5 => ?_) (fun c5 => ?_)
  · rw [if_pos c5] at h
    refine g_wk [false, false, false, true, false, false] rfl ?_
    cases h
    exact hK
  · rw [if_neg c5] at h
    refine g_iconst (v := 0) (pc := 17) dX10_behindOne_17 (by decide) ?_
    refine g_istore (ls1 := [some (.ref 37), some (.int v1), some (.int v2), some (.int q.1), some (.int q.2), some (.int 0)]) (pc := 18) dX10_behindOne_18 (by decide) rfl ?_
    obtain ⟨q4, hqq4, h⟩ := bnd h
    refine w_Wy_behindOne_L20 hV hqq4 ?_
    unfold ps_Wy_behindOne_L20
    show G _ _ _ _ _ _ _ _ _ _ _
    refine g_iinc (v := q.2 + 1) (ls1 := [some (.ref 37), some (.int v1), some (.int v2), some (.int q4), some (.int (q.2 + 1)), none]) (pc := 69) dX10_behindOne_69 rfl rfl (by decide) rfl ?_
    refine g_goto (tgt := 5) (pc := 72) dX10_behindOne_72 (by decide) ?_
    cases h
    exact hK
set_option maxRecDepth 4000 in
theorem w_Wy_behindOne_L5 {V : Sm → Wd} (hV : VwC V) {l : Launch} {Γ : Gm} {rF : Option Value} {wF : Wd} {v1 : Int32} {v2 : Int32} {S : Sm} {k : Nat} {q : Int32 × Int32} {o : Int32} (h : lpN (Wy_behindOne_L5 v1 v2 S) k q = some o) (hP : ps_Wy_behindOne_L5 V l Γ rF wF v1 v2 S o) : hd_Wy_behindOne_L5 V l Γ rF wF v1 v2 S q := lpN_ind2 (hd_Wy_behindOne_L5 V l Γ rF wF v1 v2 S) (ps_Wy_behindOne_L5 V l Γ rF wF v1 v2 S) (fun s o h hK => t_Wy_behindOne_L5 hV h hK) k q o h hP
def Wy_behindOne (v1 : Int32) (v2 : Int32) (S : Sm) : Option (Int32) := ((lpN (Wy_behindOne_L5 v1 v2 S) FU (0, 0)).bind fun q6 => (some q6))
set_option maxRecDepth 4000 in
theorem r_Wy_behindOne {V : Sm → Wd} (hV : VwC V) {v1 : Int32} {v2 : Int32} {S : Sm} {q : Int32} (h : Wy_behindOne v1 v2 S = some q) : Runs 3 mX10_behindOne [.ref 37, .int v1, .int v2] (V S) (some (.int q)) (V S) 0 0 := by
  unfold Wy_behindOne at h
  refine Runs.of2 [some (.ref 37), some (.int v1), some (.int v2), none, none, none] 3 rfl rfl (Nat.le_of_ble_eq_true rfl) (fun l Γ => ?_)
  refine g_iconst (v := 0) (pc := 0) dX10_behindOne_0 (by decide) ?_
  refine g_istore_n (ls1 := [some (.ref 37), some (.int v1), some (.int v2), some (.int 0), none, none]) (pc := 1) dX10_behindOne_1 (by decide) rfl ?_
  refine g_iconst (v := 0) (pc := 2) dX10_behindOne_2 (by decide) ?_
  refine g_istore (ls1 := [some (.ref 37), some (.int v1), some (.int v2), some (.int 0), some (.int 0), none]) (pc := 3) dX10_behindOne_3 (by decide) rfl ?_
  obtain ⟨q6, hqq6, h⟩ := bnd h
  refine w_Wy_behindOne_L5 hV hqq6 ?_
  unfold ps_Wy_behindOne_L5
  show G _ _ _ _ _ _ _ _ _ _ _
  refine g_iload_n (pc := 75) dX10_behindOne_75 rfl ?_
  cases h
  exact g_iret (pc := 76) dX10_behindOne_76 rfl rfl (Nat.le_refl _) (Nat.le_refl _)
def hd_Wy_trailOf_L5 (V : Sm → Wd) (l : Launch) (Γ : Gm) (rF : Option Value) (wF : Wd) (v2 : Int32) (S : Sm) (q : Int32 × Int32) : Prop := G mX10_trailOf l Γ (rmD 4 0 0) (mQ Γ rF wF 0 0) 0 0 5 [some (.ref 37), none, some (.int v2), some (.int q.1), some (.int q.2)] [] (V S)
def ps_Wy_trailOf_L5 (V : Sm → Wd) (l : Launch) (Γ : Gm) (rF : Option Value) (wF : Wd) (v2 : Int32) (S : Sm) (x : Int32) : Prop := (fun (a : Int32) => G mX10_trailOf l Γ (rmD 4 0 0) (mQ Γ rF wF 0 0) 0 0 29 [none, none, none, some (.int a), none] [] (V S)) x
def Wy_trailOf_L5 (v2 : Int32) (S : Sm) (q : Int32 × Int32) : Option ((Int32 × Int32) ⊕ (Int32)) := (if (8 : Int32) ≤ q.2 then (some (.inr q.1)) else ((Wy_behindOne q.1 (iShl 1 v2) S).bind fun q1 => (some (.inl (q.1 ||| q1, q.2 + 1)))))
set_option maxRecDepth 4000 in
theorem t_Wy_trailOf_L5 {V : Sm → Wd} (hV : VwC V) {l : Launch} {Γ : Gm} {rF : Option Value} {wF : Wd} {v2 : Int32} {S : Sm} {q : Int32 × Int32} {o : (Int32 × Int32) ⊕ (Int32)} (h : Wy_trailOf_L5 v2 S q = some o) (hK : Sum.elim (hd_Wy_trailOf_L5 V l Γ rF wF v2 S) (ps_Wy_trailOf_L5 V l Γ rF wF v2 S) o) : hd_Wy_trailOf_L5 V l Γ rF wF v2 S q := by
  unfold Wy_trailOf_L5 at h
  unfold hd_Wy_trailOf_L5
  refine g_iload (pc := 5) dX10_trailOf_5 rfl ?_
  refine g_bipush (v := 8) (pc := 7) dX10_trailOf_7 (by decide) ?_
  refine g_icmp_ge (tgt := 29) (pc := 9) dX10_trailOf_9 (by decide) (fun c2 => ?_) (fun c2 => ?_)
  · rw [if_pos c2] at h
    refine g_wk [false, false, false, true, false] rfl ?_
    cases h
    exact hK
  · rw [if_neg c2] at h
    refine g_iload_n (pc := 12) dX10_trailOf_12 rfl ?_
    refine g_aload_n (pc := 13) dX10_trailOf_13 rfl ?_
    refine g_iload_n (pc := 14) dX10_trailOf_14 rfl ?_
    refine g_iconst (v := 1) (pc := 15) dX10_trailOf_15 (by decide) ?_
    refine g_iload_n (pc := 16) dX10_trailOf_16 rfl ?_
    refine g_ishl (pc := 17) dX10_trailOf_17 ?_
    obtain ⟨q1, hq1, h⟩ := bnd h
    refine v_callVi hV (Mc := mX10_behindOne) (v := q1) (S1 := S) (As := [.int q.1, .int (iShl 1 v2)]) (rest := [.int q.1]) (q := (RX10, TX10, 5)) (pc := 18) dX10_trailOf_18 mK_X10_86 mf_X10_behindOne rfl k0_37 rfl rfl rfl (Nat.le_of_ble_eq_true rfl) ⟨Nat.le_of_ble_eq_true rfl, Nat.le_of_ble_eq_true rfl⟩ (r_Wy_behindOne hV hq1) ?_
    refine g_ior (pc := 21) dX10_trailOf_21 ?_
    refine g_istore_n (ls1 := [some (.ref 37), none, some (.int v2), some (.int (q.1 ||| q1)), some (.int q.2)]) (pc := 22) dX10_trailOf_22 (by decide) rfl ?_
    refine g_iinc (v := q.2 + 1) (ls1 := [some (.ref 37), none, some (.int v2), some (.int (q.1 ||| q1)), some (.int (q.2 + 1))]) (pc := 23) dX10_trailOf_23 rfl rfl (by decide) rfl ?_
    refine g_goto (tgt := 5) (pc := 26) dX10_trailOf_26 (by decide) ?_
    cases h
    exact hK
set_option maxRecDepth 4000 in
theorem w_Wy_trailOf_L5 {V : Sm → Wd} (hV : VwC V) {l : Launch} {Γ : Gm} {rF : Option Value} {wF : Wd} {v2 : Int32} {S : Sm} {k : Nat} {q : Int32 × Int32} {o : Int32} (h : lpN (Wy_trailOf_L5 v2 S) k q = some o) (hP : ps_Wy_trailOf_L5 V l Γ rF wF v2 S o) : hd_Wy_trailOf_L5 V l Γ rF wF v2 S q := lpN_ind2 (hd_Wy_trailOf_L5 V l Γ rF wF v2 S) (ps_Wy_trailOf_L5 V l Γ rF wF v2 S) (fun s o h hK => t_Wy_trailOf_L5 hV h hK) k q o h hP
def Wy_trailOf (v1 : Int32) (v2 : Int32) (S : Sm) : Option (Int32) := ((lpN (Wy_trailOf_L5 v2 S) FU (v1, 0)).bind fun q3 => (some q3))
set_option maxRecDepth 4000 in
theorem r_Wy_trailOf {V : Sm → Wd} (hV : VwC V) {v1 : Int32} {v2 : Int32} {S : Sm} {q : Int32} (h : Wy_trailOf v1 v2 S = some q) : Runs 4 mX10_trailOf [.ref 37, .int v1, .int v2] (V S) (some (.int q)) (V S) 0 0 := by
  unfold Wy_trailOf at h
  refine Runs.of2 [some (.ref 37), some (.int v1), some (.int v2), none, none] 2 rfl rfl (Nat.le_of_ble_eq_true rfl) (fun l Γ => ?_)
  refine g_iload_n (pc := 0) dX10_trailOf_0 rfl ?_
  refine g_istore_n (ls1 := [some (.ref 37), some (.int v1), some (.int v2), some (.int v1), none]) (pc := 1) dX10_trailOf_1 (by decide) rfl ?_
  refine g_iconst (v := 0) (pc := 2) dX10_trailOf_2 (by decide) ?_
  refine g_istore (ls1 := [some (.ref 37), some (.int v1), some (.int v2), some (.int v1), some (.int 0)]) (pc := 3) dX10_trailOf_3 (by decide) rfl ?_
  refine g_wk [true, false, true, true, true] rfl ?_
  obtain ⟨q3, hqq3, h⟩ := bnd h
  refine w_Wy_trailOf_L5 hV hqq3 ?_
  unfold ps_Wy_trailOf_L5
  show G _ _ _ _ _ _ _ _ _ _ _
  refine g_iload_n (pc := 29) dX10_trailOf_29 rfl ?_
  cases h
  exact g_iret (pc := 30) dX10_trailOf_30 rfl rfl (Nat.le_refl _) (Nat.le_refl _)
def hd_Wy_reachedByOneLamp_L5 (V : Sm → Wd) (l : Launch) (Γ : Gm) (rF : Option Value) (wF : Wd) (v1 : Int32) (v2 : Int32) (S : Sm) (q : Int32 × Int32) : Prop := G mX10_reachedByOneLamp l Γ (rmD 5 0 0) (mQ Γ rF wF 0 0) 0 0 5 [some (.ref 37), some (.int v1), some (.int v2), some (.int q.1), some (.int q.2)] [] (V S)
def ps_Wy_reachedByOneLamp_L5 (V : Sm → Wd) (l : Launch) (Γ : Gm) (rF : Option Value) (wF : Wd) (v1 : Int32) (v2 : Int32) (S : Sm) (x : Int32) : Prop := (fun (a : Int32) => G mX10_reachedByOneLamp l Γ (rmD 5 0 0) (mQ Γ rF wF 0 0) 0 0 42 [none, none, none, some (.int a), none] [] (V S)) x
def Wy_reachedByOneLamp_36_L5 (v1 : Int32) (v2 : Int32) (v3 : Int32) (v4 : Int32) (S : Sm) : Option ((Int32 × Int32) ⊕ (Int32)) := (some (.inl (v3, v4 + 1)))
set_option maxRecDepth 4000 in
theorem t_Wy_reachedByOneLamp_36_L5 {V : Sm → Wd} (hV : VwC V) {l : Launch} {Γ : Gm} {v1 : Int32} {v2 : Int32} {v3 : Int32} {v4 : Int32} {rF : Option Value} {wF : Wd} {S : Sm} {o : (Int32 × Int32) ⊕ (Int32)} (h : Wy_reachedByOneLamp_36_L5 v1 v2 v3 v4 S = some o) (hK : Sum.elim (hd_Wy_reachedByOneLamp_L5 V l Γ rF wF v1 v2 S) (ps_Wy_reachedByOneLamp_L5 V l Γ rF wF v1 v2 S) o) : G mX10_reachedByOneLamp l Γ (rmD 5 0 0) (mQ Γ rF wF 0 0) 0 0 36 [some (.ref 37), some (.int v1), some (.int v2), some (.int v3), some (.int v4)] [] (V S) := by
  unfold Wy_reachedByOneLamp_36_L5 at h
  refine g_iinc (v := v4 + 1) (ls1 := [some (.ref 37), some (.int v1), some (.int v2), some (.int v3), some (.int (v4 + 1))]) (pc := 36) dX10_reachedByOneLamp_36 rfl rfl (by decide) rfl ?_
  refine g_goto (tgt := 5) (pc := 39) dX10_reachedByOneLamp_39 (by decide) ?_
  cases h
  exact hK
def Wy_reachedByOneLamp_L5 (v1 : Int32) (v2 : Int32) (S : Sm) (q : Int32 × Int32) : Option ((Int32 × Int32) ⊕ (Int32)) := (if (Nt_colours S) ≤ q.2 then (some (.inr q.1)) else (if (Dk_holds v2 q.2) = 0 then (Wy_reachedByOneLamp_36_L5 v1 v2 q.1 q.2 S) else ((Wy_trailOf v1 q.2 S).bind fun q1 => (Wy_reachedByOneLamp_36_L5 v1 v2 (q.1 ||| q1) q.2 S))))
set_option maxRecDepth 4000 in
theorem t_Wy_reachedByOneLamp_L5 {V : Sm → Wd} (hV : VwC V) {l : Launch} {Γ : Gm} {rF : Option Value} {wF : Wd} {v1 : Int32} {v2 : Int32} {S : Sm} {q : Int32 × Int32} {o : (Int32 × Int32) ⊕ (Int32)} (h : Wy_reachedByOneLamp_L5 v1 v2 S q = some o) (hK : Sum.elim (hd_Wy_reachedByOneLamp_L5 V l Γ rF wF v1 v2 S) (ps_Wy_reachedByOneLamp_L5 V l Γ rF wF v1 v2 S) o) : hd_Wy_reachedByOneLamp_L5 V l Γ rF wF v1 v2 S q := by
  unfold Wy_reachedByOneLamp_L5 at h
  unfold hd_Wy_reachedByOneLamp_L5
  refine g_iload (pc := 5) dX10_reachedByOneLamp_5 rfl ?_
  refine g_aload_n (pc := 7) dX10_reachedByOneLamp_7 rfl ?_
  refine v_getR hV (pc := 8) dX10_reachedByOneLamp_8 fo_10_0 rfl k0_37 r0_37_0 ?_
  refine v_callVi hV (Mc := mX5_colours) (v := Nt_colours S) (S1 := S) (As := []) (rest := [.int q.2]) (q := (RX5, TX5, 3)) (pc := 11) dX10_reachedByOneLamp_11 mK_X10_80 mf_X5_colours rfl k0_10 rfl rfl rfl (Nat.le_of_ble_eq_true rfl) ⟨Nat.le_of_ble_eq_true rfl, Nat.le_of_ble_eq_true rfl⟩ (r_Nt_colours hV rfl) ?_
  refine g_icmp_ge (tgt := 42) (pc := 14) dX10_reachedByOneLamp_14 (by decide) (fun c3 => ?_) (fun c3 => ?_)
  · rw [if_pos c3] at h
    refine g_wk [false, false, false, true, false] rfl ?_
    cases h
    exact hK
  · rw [if_neg c3] at h
    refine g_iload_n (pc := 17) dX10_reachedByOneLamp_17 rfl ?_
    refine g_iload (pc := 18) dX10_reachedByOneLamp_18 rfl ?_
    refine v_callNi (Mc := mX11_holds) (v := Dk_holds v2 q.2) (S1 := S) (As := [.int v2, .int q.2]) (rest := []) (pc := 20) dX10_reachedByOneLamp_20 nl_X10_76 mf_X11_holds rfl rfl (Nat.le_of_ble_eq_true rfl) ⟨Nat.le_of_ble_eq_true rfl, Nat.le_of_ble_eq_true rfl⟩ (r_Dk_holds hV rfl) ?_
    refine g_if_eq (tgt := 36) (pc := 23) dX10_reachedByOneLamp_23 (by decide) (fun c2 => ?_) (fun c2 => ?_)
    · rw [if_pos c2] at h
      exact t_Wy_reachedByOneLamp_36_L5 hV h hK
    · rw [if_neg c2] at h
      refine g_iload_n (pc := 26) dX10_reachedByOneLamp_26 rfl ?_
      refine g_aload_n (pc := 27) dX10_reachedByOneLamp_27 rfl ?_
      refine g_iload_n (pc := 28) dX10_reachedByOneLamp_28 rfl ?_
      refine g_iload (pc := 29) dX10_reachedByOneLamp_29 rfl ?_
      obtain ⟨q1, hq1, h⟩ := bnd h
      refine v_callVi hV (Mc := mX10_trailOf) (v := q1) (S1 := S) (As := [.int v1, .int q.2]) (rest := [.int q.1]) (q := (RX10, TX10, 5)) (pc := 31) dX10_reachedByOneLamp_31 mK_X10_83 mf_X10_trailOf rfl k0_37 rfl rfl rfl (Nat.le_of_ble_eq_true rfl) ⟨Nat.le_of_ble_eq_true rfl, Nat.le_of_ble_eq_true rfl⟩ (r_Wy_trailOf hV hq1) ?_
      refine g_ior (pc := 34) dX10_reachedByOneLamp_34 ?_
      refine g_istore_n (ls1 := [some (.ref 37), some (.int v1), some (.int v2), some (.int (q.1 ||| q1)), some (.int q.2)]) (pc := 35) dX10_reachedByOneLamp_35 (by decide) rfl ?_
      exact t_Wy_reachedByOneLamp_36_L5 hV h hK
set_option maxRecDepth 4000 in
theorem w_Wy_reachedByOneLamp_L5 {V : Sm → Wd} (hV : VwC V) {l : Launch} {Γ : Gm} {rF : Option Value} {wF : Wd} {v1 : Int32} {v2 : Int32} {S : Sm} {k : Nat} {q : Int32 × Int32} {o : Int32} (h : lpN (Wy_reachedByOneLamp_L5 v1 v2 S) k q = some o) (hP : ps_Wy_reachedByOneLamp_L5 V l Γ rF wF v1 v2 S o) : hd_Wy_reachedByOneLamp_L5 V l Γ rF wF v1 v2 S q := lpN_ind2 (hd_Wy_reachedByOneLamp_L5 V l Γ rF wF v1 v2 S) (ps_Wy_reachedByOneLamp_L5 V l Γ rF wF v1 v2 S) (fun s o h hK => t_Wy_reachedByOneLamp_L5 hV h hK) k q o h hP
def Wy_reachedByOneLamp (v1 : Int32) (v2 : Int32) (S : Sm) : Option (Int32) := ((lpN (Wy_reachedByOneLamp_L5 v1 v2 S) FU (v1, 0)).bind fun q4 => (some q4))
set_option maxRecDepth 4000 in
theorem r_Wy_reachedByOneLamp {V : Sm → Wd} (hV : VwC V) {v1 : Int32} {v2 : Int32} {S : Sm} {q : Int32} (h : Wy_reachedByOneLamp v1 v2 S = some q) : Runs 5 mX10_reachedByOneLamp [.ref 37, .int v1, .int v2] (V S) (some (.int q)) (V S) 0 0 := by
  unfold Wy_reachedByOneLamp at h
  refine Runs.of2 [some (.ref 37), some (.int v1), some (.int v2), none, none] 2 rfl rfl (Nat.le_of_ble_eq_true rfl) (fun l Γ => ?_)
  refine g_iload_n (pc := 0) dX10_reachedByOneLamp_0 rfl ?_
  refine g_istore_n (ls1 := [some (.ref 37), some (.int v1), some (.int v2), some (.int v1), none]) (pc := 1) dX10_reachedByOneLamp_1 (by decide) rfl ?_
  refine g_iconst (v := 0) (pc := 2) dX10_reachedByOneLamp_2 (by decide) ?_
  refine g_istore (ls1 := [some (.ref 37), some (.int v1), some (.int v2), some (.int v1), some (.int 0)]) (pc := 3) dX10_reachedByOneLamp_3 (by decide) rfl ?_
  obtain ⟨q4, hqq4, h⟩ := bnd h
  refine w_Wy_reachedByOneLamp_L5 hV hqq4 ?_
  unfold ps_Wy_reachedByOneLamp_L5
  show G _ _ _ _ _ _ _ _ _ _ _
  refine g_iload_n (pc := 42) dX10_reachedByOneLamp_42 rfl ?_
  cases h
  exact g_iret (pc := 43) dX10_reachedByOneLamp_43 rfl rfl (Nat.le_refl _) (Nat.le_refl _)
def hd_Wy_fewestChanges_L15 (V : Sm → Wd) (l : Launch) (Γ : Gm) (rF : Option Value) (wF : Wd) (v2 : Int32) (v3 : Int32) (S : Sm) (q : Int32 × Int32) : Prop := G mX10_fewestChanges l Γ (rmD 6 0 0) (mQ Γ rF wF 0 0) 0 0 15 [some (.ref 37), none, some (.int v2), some (.int v3), some (.int q.1), some (.int q.2), none] [] (V S)
def ps_Wy_fewestChanges_L15 (V : Sm → Wd) (l : Launch) (Γ : Gm) (rF : Option Value) (wF : Wd) (v2 : Int32) (v3 : Int32) (S : Sm) (x : (Int32) ⊕ ((Unit) ⊕ (Unit))) : Prop := (Sum.elim (fun (a : Int32) => G mX10_fewestChanges l Γ (rmD 6 0 0) (mQ Γ rF wF 0 0) 0 0 40 [none, none, none, none, none, some (.int a), none] [] (V S)) (Sum.elim (fun (a : Unit) => G mX10_fewestChanges l Γ (rmD 6 0 0) (mQ Γ rF wF 0 0) 0 0 50 [none, none, none, none, none, none, none] [] (V S)) (fun (a : Unit) => G mX10_fewestChanges l Γ (rmD 6 0 0) (mQ Γ rF wF 0 0) 0 0 62 [none, none, none, none, none, none, none] [] (V S)))) x
def Wy_fewestChanges_L15 (v2 : Int32) (v3 : Int32) (S : Sm) (q : Int32 × Int32) : Option ((Int32 × Int32) ⊕ ((Int32) ⊕ ((Unit) ⊕ (Unit)))) := (if (8 : Int32) < q.2 then (some (.inr (.inr (.inr ())))) else ((Wy_reachedByOneLamp q.1 v3 S).bind fun q1 => (if (Dk_holds q1 v2) = 0 then (if q1 = q.1 then (some (.inr (.inr (.inl ())))) else (some (.inl (q1, q.2 + 1)))) else (some (.inr (.inl q.2))))))
set_option maxRecDepth 4000 in
theorem t_Wy_fewestChanges_L15 {V : Sm → Wd} (hV : VwC V) {l : Launch} {Γ : Gm} {rF : Option Value} {wF : Wd} {v2 : Int32} {v3 : Int32} {S : Sm} {q : Int32 × Int32} {o : (Int32 × Int32) ⊕ ((Int32) ⊕ ((Unit) ⊕ (Unit)))} (h : Wy_fewestChanges_L15 v2 v3 S q = some o) (hK : Sum.elim (hd_Wy_fewestChanges_L15 V l Γ rF wF v2 v3 S) (ps_Wy_fewestChanges_L15 V l Γ rF wF v2 v3 S) o) : hd_Wy_fewestChanges_L15 V l Γ rF wF v2 v3 S q := by
  unfold Wy_fewestChanges_L15 at h
  unfold hd_Wy_fewestChanges_L15
  refine g_iload (pc := 15) dX10_fewestChanges_15 rfl ?_
  refine g_bipush (v := 8) (pc := 17) dX10_fewestChanges_17 (by decide) ?_
  refine g_icmp_gt (tgt := 62) (pc := 19) dX10_fewestChanges_19 (by decide) (fun c4 => ?_) (fun c4 => ?_)
  · rw [if_pos c4] at h
    refine g_wk [false, false, false, false, false, false, false] rfl ?_
    cases h
    exact hK
  · rw [if_neg c4] at h
    refine g_aload_n (pc := 22) dX10_fewestChanges_22 rfl ?_
    refine g_iload (pc := 23) dX10_fewestChanges_23 rfl ?_
    refine g_iload_n (pc := 25) dX10_fewestChanges_25 rfl ?_
    obtain ⟨q1, hq1, h⟩ := bnd h
    refine v_callVi hV (Mc := mX10_reachedByOneLamp) (v := q1) (S1 := S) (As := [.int q.1, .int v3]) (rest := []) (q := (RX10, TX10, 5)) (pc := 26) dX10_fewestChanges_26 mK_X10_73 mf_X10_reachedByOneLamp rfl k0_37 rfl rfl rfl (Nat.le_of_ble_eq_true rfl) ⟨Nat.le_of_ble_eq_true rfl, Nat.le_of_ble_eq_true rfl⟩ (r_Wy_reachedByOneLamp hV hq1) ?_
    refine g_istore (ls1 := [some (.ref 37), none, some (.int v2), some (.int v3), some (.int q.1), some (.int q.2), some (.int q1)]) (pc := 29) dX10_fewestChanges_29 (by decide) rfl ?_
    refine g_iload (pc := 31) dX10_fewestChanges_31 rfl ?_
    refine g_iload_n (pc := 33) dX10_fewestChanges_33 rfl ?_
    refine v_callNi (Mc := mX11_holds) (v := Dk_holds q1 v2) (S1 := S) (As := [.int q1, .int v2]) (rest := []) (pc := 34) dX10_fewestChanges_34 nl_X10_76 mf_X11_holds rfl rfl (Nat.le_of_ble_eq_true rfl) ⟨Nat.le_of_ble_eq_true rfl, Nat.le_of_ble_eq_true rfl⟩ (r_Dk_holds hV rfl) ?_
    refine g_if_eq (tgt := 43) (pc := 37) dX10_fewestChanges_37 (by decide) (fun c3 => ?_) (fun c3 => ?_)
    · rw [if_pos c3] at h
      refine g_iload (pc := 43) dX10_fewestChanges_43 rfl ?_
      refine g_iload (pc := 45) dX10_fewestChanges_45 rfl ?_
      refine g_icmp_ne (tgt := 52) (pc := 47) dX10_fewestChanges_47 (by decide) (fun c2 => ?_) (fun c2 => ?_)
      · rw [if_neg c2] at h
        refine g_iload (pc := 52) dX10_fewestChanges_52 rfl ?_
        refine g_istore (ls1 := [some (.ref 37), none, some (.int v2), some (.int v3), some (.int q1), some (.int q.2), some (.int q1)]) (pc := 54) dX10_fewestChanges_54 (by decide) rfl ?_
        refine g_iinc (v := q.2 + 1) (ls1 := [some (.ref 37), none, some (.int v2), some (.int v3), some (.int q1), some (.int (q.2 + 1)), some (.int q1)]) (pc := 56) dX10_fewestChanges_56 rfl rfl (by decide) rfl ?_
        refine g_goto (tgt := 15) (pc := 59) dX10_fewestChanges_59 (by decide) ?_
        refine g_wk [true, false, true, true, true, true, false] rfl ?_
        cases h
        exact hK
      · rw [if_pos c2] at h
        refine g_wk [false, false, false, false, false, false, false] rfl ?_
        cases h
        exact hK
    · rw [if_neg c3] at h
      refine g_wk [false, false, false, false, false, true, false] rfl ?_
      cases h
      exact hK
set_option maxRecDepth 4000 in
theorem w_Wy_fewestChanges_L15 {V : Sm → Wd} (hV : VwC V) {l : Launch} {Γ : Gm} {rF : Option Value} {wF : Wd} {v2 : Int32} {v3 : Int32} {S : Sm} {k : Nat} {q : Int32 × Int32} {o : (Int32) ⊕ ((Unit) ⊕ (Unit))} (h : lpN (Wy_fewestChanges_L15 v2 v3 S) k q = some o) (hP : ps_Wy_fewestChanges_L15 V l Γ rF wF v2 v3 S o) : hd_Wy_fewestChanges_L15 V l Γ rF wF v2 v3 S q := lpN_ind2 (hd_Wy_fewestChanges_L15 V l Γ rF wF v2 v3 S) (ps_Wy_fewestChanges_L15 V l Γ rF wF v2 v3 S) (fun s o h hK => t_Wy_fewestChanges_L15 hV h hK) k q o h hP
def Wy_fewestChanges (v1 : Int32) (v2 : Int32) (v3 : Int32) (S : Sm) : Option (Int32) := (if v1 = v2 then (some 0) else ((lpN (Wy_fewestChanges_L15 v2 v3 S) FU (iShl 1 v1, 0)).bind fun q5 => (Sum.elim (fun a6 => (some a6)) (fun a7 => (Sum.elim (fun a8 => (some ((-1)))) (fun a9 => (some ((-1)))) a7)) q5)))
set_option maxRecDepth 4000 in
theorem r_Wy_fewestChanges {V : Sm → Wd} (hV : VwC V) {v1 : Int32} {v2 : Int32} {v3 : Int32} {S : Sm} {q : Int32} (h : Wy_fewestChanges v1 v2 v3 S = some q) : Runs 6 mX10_fewestChanges [.ref 37, .int v1, .int v2, .int v3] (V S) (some (.int q)) (V S) 0 0 := by
  unfold Wy_fewestChanges at h
  refine Runs.of2 [some (.ref 37), some (.int v1), some (.int v2), some (.int v3), none, none, none] 3 rfl rfl (Nat.le_of_ble_eq_true rfl) (fun l Γ => ?_)
  refine g_iconst (v := 1) (pc := 0) dX10_fewestChanges_0 (by decide) ?_
  refine g_iload_n (pc := 1) dX10_fewestChanges_1 rfl ?_
  refine g_ishl (pc := 2) dX10_fewestChanges_2 ?_
  refine g_istore (ls1 := [some (.ref 37), some (.int v1), some (.int v2), some (.int v3), some (.int (iShl 1 v1)), none, none]) (pc := 3) dX10_fewestChanges_3 (by decide) rfl ?_
  refine g_iload_n (pc := 5) dX10_fewestChanges_5 rfl ?_
  refine g_iload_n (pc := 6) dX10_fewestChanges_6 rfl ?_
  refine g_icmp_ne (tgt := 12) (pc := 7) dX10_fewestChanges_7 (by decide) (fun c10 => ?_) (fun c10 => ?_)
  · rw [if_neg c10] at h
    refine g_iconst (v := 0) (pc := 12) dX10_fewestChanges_12 (by decide) ?_
    refine g_istore (ls1 := [some (.ref 37), some (.int v1), some (.int v2), some (.int v3), some (.int (iShl 1 v1)), some (.int 0), none]) (pc := 13) dX10_fewestChanges_13 (by decide) rfl ?_
    refine g_wk [true, false, true, true, true, true, false] rfl ?_
    obtain ⟨q5, hqq5, h⟩ := bnd h
    refine w_Wy_fewestChanges_L15 hV hqq5 ?_
    unfold ps_Wy_fewestChanges_L15
    cases q5 with
    | inl a6 =>
      simp only [Sum.elim_inl] at h
      show G _ _ _ _ _ _ _ _ _ _ _
      refine g_iload (pc := 40) dX10_fewestChanges_40 rfl ?_
      cases h
      exact g_iret (pc := 42) dX10_fewestChanges_42 rfl rfl (Nat.le_refl _) (Nat.le_refl _)
    | inr a7 =>
      simp only [Sum.elim_inr] at h
      cases a7 with
      | inl a8 =>
        simp only [Sum.elim_inl] at h
        show G _ _ _ _ _ _ _ _ _ _ _
        refine g_iconst (v := (-1)) (pc := 50) dX10_fewestChanges_50 (by decide) ?_
        cases h
        exact g_iret (pc := 51) dX10_fewestChanges_51 rfl rfl (Nat.le_refl _) (Nat.le_refl _)
      | inr a9 =>
        simp only [Sum.elim_inr] at h
        show G _ _ _ _ _ _ _ _ _ _ _
        refine g_iconst (v := (-1)) (pc := 62) dX10_fewestChanges_62 (by decide) ?_
        cases h
        exact g_iret (pc := 63) dX10_fewestChanges_63 rfl rfl (Nat.le_refl _) (Nat.le_refl _)
  · rw [if_pos c10] at h
    refine g_iconst (v := 0) (pc := 10) dX10_fewestChanges_10 (by decide) ?_
    cases h
    exact g_iret (pc := 11) dX10_fewestChanges_11 rfl rfl (Nat.le_refl _) (Nat.le_refl _)
def Dk_changes_24 (s0 : Int32) (S : Sm) : Option (Int32) := (some s0)
set_option maxRecDepth 4000 in
theorem t_Dk_changes_24 {V : Sm → Wd} (hV : VwC V) {l : Launch} {Γ : Gm} {s0 : Int32} {S : Sm} {q : Int32} (h : Dk_changes_24 s0 S = some q) : G mX11_changes l Γ (rmD 7 0 0) (mQ Γ (some (.int q)) (V S) 0 0) 0 0 24 [none, none, none, none] [.int s0] (V S) := by
  unfold Dk_changes_24 at h
  cases h
  exact g_iret (pc := 24) dX11_changes_24 rfl rfl (Nat.le_refl _) (Nat.le_refl _)
def Dk_changes (v1 : Int32) (v2 : Int32) (v3 : Int32) (S : Sm) : Option (Int32) := (if (Dk_areAsked v1 v2 v3 S) = 0 then (Dk_changes_24 ((-1)) S) else ((Wy_fewestChanges v1 v2 v3 S).bind fun q1 => (Dk_changes_24 q1 S)))
set_option maxRecDepth 4000 in
theorem r_Dk_changes {V : Sm → Wd} (hV : VwC V) {v1 : Int32} {v2 : Int32} {v3 : Int32} {S : Sm} {q : Int32} (h : Dk_changes v1 v2 v3 S = some q) : Runs 7 mX11_changes [.ref 7, .int v1, .int v2, .int v3] (V S) (some (.int q)) (V S) 0 0 := by
  unfold Dk_changes at h
  refine Runs.of2 [some (.ref 7), some (.int v1), some (.int v2), some (.int v3)] 0 rfl rfl (Nat.le_of_ble_eq_true rfl) (fun l Γ => ?_)
  refine g_aload_n (pc := 0) dX11_changes_0 rfl ?_
  refine g_iload_n (pc := 1) dX11_changes_1 rfl ?_
  refine g_iload_n (pc := 2) dX11_changes_2 rfl ?_
  refine g_iload_n (pc := 3) dX11_changes_3 rfl ?_
  refine v_callVi hV (Mc := mX11_areAsked) (v := Dk_areAsked v1 v2 v3 S) (S1 := S) (As := [.int v1, .int v2, .int v3]) (rest := []) (q := (RX11, TX11, 12)) (pc := 4) dX11_changes_4 mK_X11_239 mf_X11_areAsked rfl k0_7 rfl rfl rfl (Nat.le_of_ble_eq_true rfl) ⟨Nat.le_of_ble_eq_true rfl, Nat.le_of_ble_eq_true rfl⟩ (r_Dk_areAsked hV rfl) ?_
  refine g_if_eq (tgt := 23) (pc := 7) dX11_changes_7 (by decide) (fun c2 => ?_) (fun c2 => ?_)
  · rw [if_pos c2] at h
    refine g_iconst (v := (-1)) (pc := 23) dX11_changes_23 (by decide) ?_
    refine g_wk [false, false, false, false] rfl ?_
    exact t_Dk_changes_24 hV h
  · rw [if_neg c2] at h
    refine g_aload_n (pc := 10) dX11_changes_10 rfl ?_
    refine v_getR hV (pc := 11) dX11_changes_11 fo_11_8 rfl k0_7 r0_7_8 ?_
    refine g_iload_n (pc := 14) dX11_changes_14 rfl ?_
    refine g_iload_n (pc := 15) dX11_changes_15 rfl ?_
    refine g_iload_n (pc := 16) dX11_changes_16 rfl ?_
    obtain ⟨q1, hq1, h⟩ := bnd h
    refine v_callVi hV (Mc := mX10_fewestChanges) (v := q1) (S1 := S) (As := [.int v1, .int v2, .int v3]) (rest := []) (q := (RX10, TX10, 5)) (pc := 17) dX11_changes_17 mK_X11_243 mf_X10_fewestChanges rfl k0_37 rfl rfl rfl (Nat.le_of_ble_eq_true rfl) ⟨Nat.le_of_ble_eq_true rfl, Nat.le_of_ble_eq_true rfl⟩ (r_Wy_fewestChanges hV hq1) ?_
    refine g_goto (tgt := 24) (pc := 20) dX11_changes_20 (by decide) ?_
    refine g_wk [false, false, false, false] rfl ?_
    exact t_Dk_changes_24 hV h
def hd_Wy_leastBehind_L7 (V : Sm → Wd) (l : Launch) (Γ : Gm) (rF : Option Value) (wF : Wd) (v1 : Int32) (v2 : Int32) (v3 : Int32) (v4 : Int32) (q : Int32 × Int32 × Sm) : Prop := G mX10_leastBehind l Γ (rmD 5 0 0) (mQ Γ rF wF 0 0) 0 0 7 [some (.ref 37), some (.int v1), some (.int v2), some (.int v3), some (.int v4), some (.int q.1), some (.int q.2.1), none, none] [] (V q.2.2)
def ps_Wy_leastBehind_L7 (V : Sm → Wd) (l : Launch) (Γ : Gm) (rF : Option Value) (wF : Wd) (v1 : Int32) (v2 : Int32) (v3 : Int32) (v4 : Int32) (x : Int32 × Sm) : Prop := (fun (a : Int32 × Sm) => G mX10_leastBehind l Γ (rmD 5 0 0) (mQ Γ rF wF 0 0) 0 0 110 [none, none, none, none, none, some (.int a.1), none, none, none] [] (V a.2)) x
def Wy_leastBehind_104_L7 (v1 : Int32) (v2 : Int32) (v3 : Int32) (v4 : Int32) (v5 : Int32) (v6 : Int32) (S : Sm) : Option ((Int32 × Int32 × Sm) ⊕ (Int32 × Sm)) := (some (.inl (v5, v6 + 1, S)))
set_option maxRecDepth 4000 in
theorem t_Wy_leastBehind_104_L7 {V : Sm → Wd} (hV : VwC V) {l : Launch} {Γ : Gm} {v1 : Int32} {v2 : Int32} {v3 : Int32} {v4 : Int32} {v5 : Int32} {v6 : Int32} {rF : Option Value} {wF : Wd} {S : Sm} {o : (Int32 × Int32 × Sm) ⊕ (Int32 × Sm)} (h : Wy_leastBehind_104_L7 v1 v2 v3 v4 v5 v6 S = some o) (hK : Sum.elim (hd_Wy_leastBehind_L7 V l Γ rF wF v1 v2 v3 v4) (ps_Wy_leastBehind_L7 V l Γ rF wF v1 v2 v3 v4) o) : G mX10_leastBehind l Γ (rmD 5 0 0) (mQ Γ rF wF 0 0) 0 0 104 [some (.ref 37), some (.int v1), some (.int v2), some (.int v3), some (.int v4), some (.int v5), some (.int v6), none, none] [] (V S) := by
  unfold Wy_leastBehind_104_L7 at h
  refine g_iinc (v := v6 + 1) (ls1 := [some (.ref 37), some (.int v1), some (.int v2), some (.int v3), some (.int v4), some (.int v5), some (.int (v6 + 1)), none, none]) (pc := 104) dX10_leastBehind_104 rfl rfl (by decide) rfl ?_
  refine g_goto (tgt := 7) (pc := 107) dX10_leastBehind_107 (by decide) ?_
  cases h
  exact hK
def Wy_leastBehind_83_L7 (v1 : Int32) (v2 : Int32) (v3 : Int32) (v4 : Int32) (v5 : Int32) (v6 : Int32) (v7 : Int32) (s0 : Int32) (S : Sm) : Option ((Int32 × Int32 × Sm) ⊕ (Int32 × Sm)) := (Wy_leastBehind_104_L7 v1 v2 v3 v4 (iMin v5 (s0 + (atF (gi S 38) 8 v7))) v6 S)
set_option maxRecDepth 4000 in
theorem t_Wy_leastBehind_83_L7 {V : Sm → Wd} (hV : VwC V) {l : Launch} {Γ : Gm} {v1 : Int32} {v2 : Int32} {v3 : Int32} {v4 : Int32} {v5 : Int32} {v6 : Int32} {v7 : Int32} {s0 : Int32} {rF : Option Value} {wF : Wd} {S : Sm} {o : (Int32 × Int32 × Sm) ⊕ (Int32 × Sm)} (h : Wy_leastBehind_83_L7 v1 v2 v3 v4 v5 v6 v7 s0 S = some o) (hK : Sum.elim (hd_Wy_leastBehind_L7 V l Γ rF wF v1 v2 v3 v4) (ps_Wy_leastBehind_L7 V l Γ rF wF v1 v2 v3 v4) o) : G mX10_leastBehind l Γ (rmD 5 0 0) (mQ Γ rF wF 0 0) 0 0 83 [some (.ref 37), some (.int v1), some (.int v2), some (.int v3), some (.int v4), some (.int v5), some (.int v6), some (.int v7), none] [.int s0] (V S) := by
  unfold Wy_leastBehind_83_L7 at h
  refine g_istore (ls1 := [some (.ref 37), some (.int v1), some (.int v2), some (.int v3), some (.int v4), some (.int v5), some (.int v6), some (.int v7), some (.int s0)]) (pc := 83) dX10_leastBehind_83 (by decide) rfl ?_
  refine g_iload (pc := 85) dX10_leastBehind_85 rfl ?_
  refine g_iload (pc := 87) dX10_leastBehind_87 rfl ?_
  refine g_aload_n (pc := 89) dX10_leastBehind_89 rfl ?_
  refine v_getR hV (pc := 90) dX10_leastBehind_90 fo_10_3 rfl k0_37 r0_37_3 ?_
  refine g_iload (pc := 93) dX10_leastBehind_93 rfl ?_
  refine v_callNi (Mc := mX11_at) (v := atF (gi S 38) 8 v7) (S1 := S) (As := [.ref 38, .int v7]) (rest := [.int s0, .int v5]) (pc := 95) dX10_leastBehind_95 nl_X10_116 mf_X11_at rfl rfl (Nat.le_of_ble_eq_true rfl) ⟨Nat.le_of_ble_eq_true rfl, Nat.le_of_ble_eq_true rfl⟩ (r_at hV k0_38 own_38 (by decide)) ?_
  refine g_iadd (pc := 98) dX10_leastBehind_98 ?_
  refine g_iMin (pc := 99) dX10_leastBehind_99 mK_X10_61 ⟨Nat.le_of_ble_eq_true rfl, Nat.le_of_ble_eq_true rfl⟩ (Nat.zero_le _) (Nat.zero_le _) ?_
  refine g_istore (ls1 := [some (.ref 37), some (.int v1), some (.int v2), some (.int v3), some (.int v4), some (.int (iMin v5 (s0 + (atF (gi S 38) 8 v7)))), some (.int v6), some (.int v7), some (.int s0)]) (pc := 102) dX10_leastBehind_102 (by decide) rfl ?_
  refine g_wk [true, true, true, true, true, true, true, false, false] rfl ?_
  exact t_Wy_leastBehind_104_L7 hV h hK
def Wy_leastBehind_L7 (v1 : Int32) (v2 : Int32) (v3 : Int32) (v4 : Int32) (q : Int32 × Int32 × Sm) : Option ((Int32 × Int32 × Sm) ⊕ (Int32 × Sm)) := (if (Nt_colours q.2.2) ≤ q.2.1 then (some (.inr (q.1, q.2.2))) else (if (Dk_holds v2 q.2.1) = 0 then (Wy_leastBehind_104_L7 v1 v2 v3 v4 q.1 q.2.1 q.2.2) else (if (Dk_holds v4 (Wy_leadsTo v1 q.2.1 q.2.2)) = 0 then (if (1000000 : Int32) ≤ (atF (gi q.2.2 38) 8 (Wy_leadsTo v1 q.2.1 q.2.2)) then (Wy_leastBehind_104_L7 v1 v2 v3 v4 q.1 q.2.1 q.2.2) else (if v3 = 1 then ((Wy_priceOf v1 q.2.1 q.2.2).bind fun q1 => (Wy_leastBehind_83_L7 v1 v2 v3 v4 q.1 q.2.1 (Wy_leadsTo v1 q.2.1 q.2.2) q1.1 q1.2)) else (Wy_leastBehind_83_L7 v1 v2 v3 v4 q.1 q.2.1 (Wy_leadsTo v1 q.2.1 q.2.2) (Wy_takes v1 q.2.1 q.2.2) q.2.2))) else (Wy_leastBehind_104_L7 v1 v2 v3 v4 q.1 q.2.1 q.2.2))))
set_option maxRecDepth 4000 in
theorem t_Wy_leastBehind_L7 {V : Sm → Wd} (hV : VwC V) {l : Launch} {Γ : Gm} {rF : Option Value} {wF : Wd} {v1 : Int32} {v2 : Int32} {v3 : Int32} {v4 : Int32} {q : Int32 × Int32 × Sm} {o : (Int32 × Int32 × Sm) ⊕ (Int32 × Sm)} (h : Wy_leastBehind_L7 v1 v2 v3 v4 q = some o) (hK : Sum.elim (hd_Wy_leastBehind_L7 V l Γ rF wF v1 v2 v3 v4) (ps_Wy_leastBehind_L7 V l Γ rF wF v1 v2 v3 v4) o) : hd_Wy_leastBehind_L7 V l Γ rF wF v1 v2 v3 v4 q := by
  unfold Wy_leastBehind_L7 at h
  unfold hd_Wy_leastBehind_L7
  refine g_iload (pc := 7) dX10_leastBehind_7 rfl ?_
  refine g_aload_n (pc := 9) dX10_leastBehind_9 rfl ?_
  refine v_getR hV (pc := 10) dX10_leastBehind_10 fo_10_0 rfl k0_37 r0_37_0 ?_
  refine v_callVi hV (Mc := mX5_colours) (v := Nt_colours q.2.2) (S1 := q.2.2) (As := []) (rest := [.int q.2.1]) (q := (RX5, TX5, 3)) (pc := 13) dX10_leastBehind_13 mK_X10_80 mf_X5_colours rfl k0_10 rfl rfl rfl (Nat.le_of_ble_eq_true rfl) ⟨Nat.le_of_ble_eq_true rfl, Nat.le_of_ble_eq_true rfl⟩ (r_Nt_colours hV rfl) ?_
  refine g_icmp_ge (tgt := 110) (pc := 16) dX10_leastBehind_16 (by decide) (fun c6 => ?_) (fun c6 => ?_)
  · rw [if_pos c6] at h
    refine g_wk [false, false, false, false, false, true, false, false, false] rfl ?_
    cases h
    exact hK
  · rw [if_neg c6] at h
    refine g_aload_n (pc := 19) dX10_leastBehind_19 rfl ?_
    refine g_iload_n (pc := 20) dX10_leastBehind_20 rfl ?_
    refine g_iload (pc := 21) dX10_leastBehind_21 rfl ?_
    refine v_callVi hV (Mc := mX10_leadsTo) (v := Wy_leadsTo v1 q.2.1 q.2.2) (S1 := q.2.2) (As := [.int v1, .int q.2.1]) (rest := []) (q := (RX10, TX10, 5)) (pc := 23) dX10_leastBehind_23 mK_X10_50 mf_X10_leadsTo rfl k0_37 rfl rfl rfl (Nat.le_of_ble_eq_true rfl) ⟨Nat.le_of_ble_eq_true rfl, Nat.le_of_ble_eq_true rfl⟩ (r_Wy_leadsTo hV rfl) ?_
    refine g_istore (ls1 := [some (.ref 37), some (.int v1), some (.int v2), some (.int v3), some (.int v4), some (.int q.1), some (.int q.2.1), some (.int (Wy_leadsTo v1 q.2.1 q.2.2)), none]) (pc := 26) dX10_leastBehind_26 (by decide) rfl ?_
    refine g_iload_n (pc := 28) dX10_leastBehind_28 rfl ?_
    refine g_iload (pc := 29) dX10_leastBehind_29 rfl ?_
    refine v_callNi (Mc := mX11_holds) (v := Dk_holds v2 q.2.1) (S1 := q.2.2) (As := [.int v2, .int q.2.1]) (rest := []) (pc := 31) dX10_leastBehind_31 nl_X10_76 mf_X11_holds rfl rfl (Nat.le_of_ble_eq_true rfl) ⟨Nat.le_of_ble_eq_true rfl, Nat.le_of_ble_eq_true rfl⟩ (r_Dk_holds hV rfl) ?_
    refine g_if_eq (tgt := 104) (pc := 34) dX10_leastBehind_34 (by decide) (fun c5 => ?_) (fun c5 => ?_)
    · rw [if_pos c5] at h
      refine g_wk [true, true, true, true, true, true, true, false, false] rfl ?_
      exact t_Wy_leastBehind_104_L7 hV h hK
    · rw [if_neg c5] at h
      refine g_iload (pc := 37) dX10_leastBehind_37 rfl ?_
      refine g_iload (pc := 39) dX10_leastBehind_39 rfl ?_
      refine v_callNi (Mc := mX11_holds) (v := Dk_holds v4 (Wy_leadsTo v1 q.2.1 q.2.2)) (S1 := q.2.2) (As := [.int v4, .int (Wy_leadsTo v1 q.2.1 q.2.2)]) (rest := []) (pc := 41) dX10_leastBehind_41 nl_X10_76 mf_X11_holds rfl rfl (Nat.le_of_ble_eq_true rfl) ⟨Nat.le_of_ble_eq_true rfl, Nat.le_of_ble_eq_true rfl⟩ (r_Dk_holds hV rfl) ?_
      refine g_if_ne (tgt := 104) (pc := 44) dX10_leastBehind_44 (by decide) (fun c4 => ?_) (fun c4 => ?_)
      · rw [if_neg c4] at h
        refine g_wk [true, true, true, true, true, true, true, false, false] rfl ?_
        exact t_Wy_leastBehind_104_L7 hV h hK
      · rw [if_pos c4] at h
        refine g_aload_n (pc := 47) dX10_leastBehind_47 rfl ?_
        refine v_getR hV (pc := 48) dX10_leastBehind_48 fo_10_3 rfl k0_37 r0_37_3 ?_
        refine g_iload (pc := 51) dX10_leastBehind_51 rfl ?_
        refine v_callNi (Mc := mX11_at) (v := atF (gi q.2.2 38) 8 (Wy_leadsTo v1 q.2.1 q.2.2)) (S1 := q.2.2) (As := [.ref 38, .int (Wy_leadsTo v1 q.2.1 q.2.2)]) (rest := []) (pc := 53) dX10_leastBehind_53 nl_X10_116 mf_X11_at rfl rfl (Nat.le_of_ble_eq_true rfl) ⟨Nat.le_of_ble_eq_true rfl, Nat.le_of_ble_eq_true rfl⟩ (r_at hV k0_38 own_38 (by decide)) ?_
        refine g_ldc (v := 1000000) (pc := 56) dX10_leastBehind_56 kI_X10_107 ?_
        refine g_icmp_ge (tgt := 104) (pc := 58) dX10_leastBehind_58 (by decide) (fun c3 => ?_) (fun c3 => ?_)
        · rw [if_pos c3] at h
          refine g_wk [true, true, true, true, true, true, true, false, false] rfl ?_
          exact t_Wy_leastBehind_104_L7 hV h hK
        · rw [if_neg c3] at h
          refine g_iload_n (pc := 61) dX10_leastBehind_61 rfl ?_
          refine g_iconst (v := 1) (pc := 62) dX10_leastBehind_62 (by decide) ?_
          refine g_icmp_ne (tgt := 76) (pc := 63) dX10_leastBehind_63 (by decide) (fun c2 => ?_) (fun c2 => ?_)
          · rw [if_neg c2] at h
            refine g_aload_n (pc := 76) dX10_leastBehind_76 rfl ?_
            refine g_iload_n (pc := 77) dX10_leastBehind_77 rfl ?_
            refine g_iload (pc := 78) dX10_leastBehind_78 rfl ?_
            refine v_callVi hV (Mc := mX10_takes) (v := Wy_takes v1 q.2.1 q.2.2) (S1 := q.2.2) (As := [.int v1, .int q.2.1]) (rest := []) (q := (RX10, TX10, 5)) (pc := 80) dX10_leastBehind_80 mK_X10_41 mf_X10_takes rfl k0_37 rfl rfl rfl (Nat.le_of_ble_eq_true rfl) ⟨Nat.le_of_ble_eq_true rfl, Nat.le_of_ble_eq_true rfl⟩ (r_Wy_takes hV rfl) ?_
            exact t_Wy_leastBehind_83_L7 hV h hK
          · rw [if_pos c2] at h
            refine g_aload_n (pc := 66) dX10_leastBehind_66 rfl ?_
            refine g_iload_n (pc := 67) dX10_leastBehind_67 rfl ?_
            refine g_iload (pc := 68) dX10_leastBehind_68 rfl ?_
            obtain ⟨q1, hq1, h⟩ := bnd h
            refine v_callVi hV (Mc := mX10_priceOf) (v := q1.1) (S1 := q1.2) (As := [.int v1, .int q.2.1]) (rest := []) (q := (RX10, TX10, 5)) (pc := 70) dX10_leastBehind_70 mK_X10_120 mf_X10_priceOf rfl k0_37 rfl rfl rfl (Nat.le_of_ble_eq_true rfl) ⟨Nat.le_of_ble_eq_true rfl, Nat.le_of_ble_eq_true rfl⟩ (r_Wy_priceOf hV hq1) ?_
            refine g_goto (tgt := 83) (pc := 73) dX10_leastBehind_73 (by decide) ?_
            exact t_Wy_leastBehind_83_L7 hV h hK
set_option maxRecDepth 4000 in
theorem w_Wy_leastBehind_L7 {V : Sm → Wd} (hV : VwC V) {l : Launch} {Γ : Gm} {rF : Option Value} {wF : Wd} {v1 : Int32} {v2 : Int32} {v3 : Int32} {v4 : Int32} {k : Nat} {q : Int32 × Int32 × Sm} {o : Int32 × Sm} (h : lpN (Wy_leastBehind_L7 v1 v2 v3 v4) k q = some o) (hP : ps_Wy_leastBehind_L7 V l Γ rF wF v1 v2 v3 v4 o) : hd_Wy_leastBehind_L7 V l Γ rF wF v1 v2 v3 v4 q := lpN_ind2 (hd_Wy_leastBehind_L7 V l Γ rF wF v1 v2 v3 v4) (ps_Wy_leastBehind_L7 V l Γ rF wF v1 v2 v3 v4) (fun s o h hK => t_Wy_leastBehind_L7 hV h hK) k q o h hP
def Wy_leastBehind (v1 : Int32) (v2 : Int32) (v3 : Int32) (v4 : Int32) (S : Sm) : Option (Int32 × Sm) := ((lpN (Wy_leastBehind_L7 v1 v2 v3 v4) FU (1000000, 0, S)).bind fun q7 => (some ((q7.1, q7.2))))
set_option maxRecDepth 4000 in
theorem r_Wy_leastBehind {V : Sm → Wd} (hV : VwC V) {v1 : Int32} {v2 : Int32} {v3 : Int32} {v4 : Int32} {S : Sm} {q : Int32 × Sm} (h : Wy_leastBehind v1 v2 v3 v4 S = some q) : Runs 5 mX10_leastBehind [.ref 37, .int v1, .int v2, .int v3, .int v4] (V S) (some (.int q.1)) (V q.2) 0 0 := by
  unfold Wy_leastBehind at h
  refine Runs.of2 [some (.ref 37), some (.int v1), some (.int v2), some (.int v3), some (.int v4), none, none, none, none] 4 rfl rfl (Nat.le_of_ble_eq_true rfl) (fun l Γ => ?_)
  refine g_ldc (v := 1000000) (pc := 0) dX10_leastBehind_0 kI_X10_107 ?_
  refine g_istore (ls1 := [some (.ref 37), some (.int v1), some (.int v2), some (.int v3), some (.int v4), some (.int 1000000), none, none, none]) (pc := 2) dX10_leastBehind_2 (by decide) rfl ?_
  refine g_iconst (v := 0) (pc := 4) dX10_leastBehind_4 (by decide) ?_
  refine g_istore (ls1 := [some (.ref 37), some (.int v1), some (.int v2), some (.int v3), some (.int v4), some (.int 1000000), some (.int 0), none, none]) (pc := 5) dX10_leastBehind_5 (by decide) rfl ?_
  obtain ⟨q7, hqq7, h⟩ := bnd h
  refine w_Wy_leastBehind_L7 hV hqq7 ?_
  unfold ps_Wy_leastBehind_L7
  show G _ _ _ _ _ _ _ _ _ _ _
  refine g_iload (pc := 110) dX10_leastBehind_110 rfl ?_
  cases h
  exact g_iret (pc := 112) dX10_leastBehind_112 rfl rfl (Nat.le_refl _) (Nat.le_refl _)
def hd_Wy_measure_L3 (V : Sm → Wd) (l : Launch) (Γ : Gm) (rF : Option Value) (wF : Wd) (v1 : Int32) (v2 : Int32) (v3 : Int32) (v4 : Int32) (q : Int32 × Sm) : Prop := G mX10_measure l Γ (rmD 6 0 0) (mQ Γ rF wF 0 0) 0 0 3 [some (.ref 37), some (.int v1), some (.int v2), some (.int v3), some (.int v4), some (.int q.1), none, none, none, none] [] (V q.2)
def ps_Wy_measure_L3 (V : Sm → Wd) (l : Launch) (Γ : Gm) (rF : Option Value) (wF : Wd) (v1 : Int32) (v2 : Int32) (v3 : Int32) (v4 : Int32) (x : Sm) : Prop := (fun (a : Sm) => G mX10_measure l Γ (rmD 6 0 0) (mQ Γ rF wF 0 0) 0 0 37 [some (.ref 37), some (.int v1), some (.int v2), some (.int v3), some (.int v4), none, none, none, none, none] [] (V a)) x
def Wy_measure_28_L3 (v1 : Int32) (v2 : Int32) (v3 : Int32) (v4 : Int32) (v5 : Int32) (s1 : Int32) (s2 : Int32) (S : Sm) : Option ((Int32 × Sm) ⊕ (Sm)) := (app (puF S 38 8 s1 s2) fun S1 => (some (.inl (v5 + 1, S1))))
set_option maxRecDepth 4000 in
theorem t_Wy_measure_28_L3 {V : Sm → Wd} (hV : VwC V) {l : Launch} {Γ : Gm} {v1 : Int32} {v2 : Int32} {v3 : Int32} {v4 : Int32} {v5 : Int32} {s1 : Int32} {s2 : Int32} {rF : Option Value} {wF : Wd} {S : Sm} {o : (Int32 × Sm) ⊕ (Sm)} (h : Wy_measure_28_L3 v1 v2 v3 v4 v5 s1 s2 S = some o) (hK : Sum.elim (hd_Wy_measure_L3 V l Γ rF wF v1 v2 v3 v4) (ps_Wy_measure_L3 V l Γ rF wF v1 v2 v3 v4) o) : G mX10_measure l Γ (rmD 6 0 0) (mQ Γ rF wF 0 0) 0 0 28 [some (.ref 37), some (.int v1), some (.int v2), some (.int v3), some (.int v4), some (.int v5), none, none, none, none] [.int s2, .int s1, .ref 38] (V S) := by
  unfold Wy_measure_28_L3 at h
  obtain ⟨S1, hS1, h⟩ := app_of h
  refine v_callNv (Mc := mX11_put) (S1 := S1) (As := [.ref 38, .int s1, .int s2]) (rest := []) (pc := 28) dX10_measure_28 nl_X10_108 mf_X11_put rfl rfl (Nat.le_of_ble_eq_true rfl) ⟨Nat.le_of_ble_eq_true rfl, Nat.le_of_ble_eq_true rfl⟩ (r_put hV k0_38 own_38 (by decide) hS1) ?_
  refine g_iinc (v := v5 + 1) (ls1 := [some (.ref 37), some (.int v1), some (.int v2), some (.int v3), some (.int v4), some (.int (v5 + 1)), none, none, none, none]) (pc := 31) dX10_measure_31 rfl rfl (by decide) rfl ?_
  refine g_goto (tgt := 3) (pc := 34) dX10_measure_34 (by decide) ?_
  cases h
  exact hK
def Wy_measure_L3 (v1 : Int32) (v2 : Int32) (v3 : Int32) (v4 : Int32) (q : Int32 × Sm) : Option ((Int32 × Sm) ⊕ (Sm)) := (if (8 : Int32) ≤ q.1 then (some (.inr q.2)) else (if q.1 = v1 then (Wy_measure_28_L3 v1 v2 v3 v4 q.1 q.1 0 q.2) else (Wy_measure_28_L3 v1 v2 v3 v4 q.1 q.1 1000000 q.2)))
set_option maxRecDepth 4000 in
theorem t_Wy_measure_L3 {V : Sm → Wd} (hV : VwC V) {l : Launch} {Γ : Gm} {rF : Option Value} {wF : Wd} {v1 : Int32} {v2 : Int32} {v3 : Int32} {v4 : Int32} {q : Int32 × Sm} {o : (Int32 × Sm) ⊕ (Sm)} (h : Wy_measure_L3 v1 v2 v3 v4 q = some o) (hK : Sum.elim (hd_Wy_measure_L3 V l Γ rF wF v1 v2 v3 v4) (ps_Wy_measure_L3 V l Γ rF wF v1 v2 v3 v4) o) : hd_Wy_measure_L3 V l Γ rF wF v1 v2 v3 v4 q := by
  unfold Wy_measure_L3 at h
  unfold hd_Wy_measure_L3
  refine g_iload (pc := 3) dX10_measure_3 rfl ?_
  refine g_bipush (v := 8) (pc := 5) dX10_measure_5 (by decide) ?_
  refine g_icmp_ge (tgt := 37) (pc := 7) dX10_measure_7 (by decide) (fun c3 => ?_) (fun c3 => ?_)
  · rw [if_pos c3] at h
    refine g_wk [true, true, true, true, true, false, false, false, false, false] rfl ?_
    cases h
    exact hK
  · rw [if_neg c3] at h
    refine g_aload_n (pc := 10) dX10_measure_10 rfl ?_
    refine v_getR hV (pc := 11) dX10_measure_11 fo_10_3 rfl k0_37 r0_37_3 ?_
    refine g_iload (pc := 14) dX10_measure_14 rfl ?_
    refine g_iload (pc := 16) dX10_measure_16 rfl ?_
    refine g_iload_n (pc := 18) dX10_measure_18 rfl ?_
    refine g_icmp_ne (tgt := 26) (pc := 19) dX10_measure_19 (by decide) (fun c2 => ?_) (fun c2 => ?_)
    · rw [if_neg c2] at h
      refine g_ldc (v := 1000000) (pc := 26) dX10_measure_26 kI_X10_107 ?_
      exact t_Wy_measure_28_L3 hV h hK
    · rw [if_pos c2] at h
      refine g_iconst (v := 0) (pc := 22) dX10_measure_22 (by decide) ?_
      refine g_goto (tgt := 28) (pc := 23) dX10_measure_23 (by decide) ?_
      exact t_Wy_measure_28_L3 hV h hK
set_option maxRecDepth 4000 in
theorem w_Wy_measure_L3 {V : Sm → Wd} (hV : VwC V) {l : Launch} {Γ : Gm} {rF : Option Value} {wF : Wd} {v1 : Int32} {v2 : Int32} {v3 : Int32} {v4 : Int32} {k : Nat} {q : Int32 × Sm} {o : Sm} (h : lpN (Wy_measure_L3 v1 v2 v3 v4) k q = some o) (hP : ps_Wy_measure_L3 V l Γ rF wF v1 v2 v3 v4 o) : hd_Wy_measure_L3 V l Γ rF wF v1 v2 v3 v4 q := lpN_ind2 (hd_Wy_measure_L3 V l Γ rF wF v1 v2 v3 v4) (ps_Wy_measure_L3 V l Γ rF wF v1 v2 v3 v4) (fun s o h hK => t_Wy_measure_L3 hV h hK) k q o h hP
def hd_Wy_measure_L53 (V : Sm → Wd) (l : Launch) (Γ : Gm) (rF : Option Value) (wF : Wd) (v2 : Int32) (v3 : Int32) (v5 : Int32) (q : Int32 × Int32 × Sm) : Prop := G mX10_measure l Γ (rmD 6 0 0) (mQ Γ rF wF 0 0) 0 0 53 [some (.ref 37), none, some (.int v2), some (.int v3), none, some (.int v5), some (.int q.1), some (.int q.2.1), none, none] [] (V q.2.2)
def ps_Wy_measure_L53 (V : Sm → Wd) (l : Launch) (Γ : Gm) (rF : Option Value) (wF : Wd) (v2 : Int32) (v3 : Int32) (v5 : Int32) (x : Sm) : Prop := (fun (a : Sm) => G mX10_measure l Γ (rmD 6 0 0) (mQ Γ rF wF 0 0) 0 0 135 [none, none, none, none, none, none, none, none, none, none] [] (V a)) x
def hd_Wy_measure_L71 (V : Sm → Wd) (l : Launch) (Γ : Gm) (rF : Option Value) (wF : Wd) (v2 : Int32) (v3 : Int32) (v5 : Int32) (v7 : Int32) (q : Int32 × Int32 × Sm) : Prop := G mX10_measure l Γ (rmD 6 0 0) (mQ Γ rF wF 0 0) 0 0 71 [some (.ref 37), none, some (.int v2), some (.int v3), none, some (.int v5), some (.int q.1), some (.int v7), some (.int q.2.1), none] [] (V q.2.2)
def ps_Wy_measure_L71 (V : Sm → Wd) (l : Launch) (Γ : Gm) (rF : Option Value) (wF : Wd) (v2 : Int32) (v3 : Int32) (v5 : Int32) (v7 : Int32) (x : Int32 × Sm) : Prop := (fun (a : Int32 × Sm) => G mX10_measure l Γ (rmD 6 0 0) (mQ Γ rF wF 0 0) 0 0 129 [some (.ref 37), none, some (.int v2), some (.int v3), none, some (.int v5), some (.int a.1), some (.int v7), none, none] [] (V a.2)) x
def Wy_measure_123_L71 (v2 : Int32) (v3 : Int32) (v5 : Int32) (v6 : Int32) (v7 : Int32) (v8 : Int32) (S : Sm) : Option ((Int32 × Int32 × Sm) ⊕ (Int32 × Sm)) := (some (.inl (v6, v8 + 1, S)))
set_option maxRecDepth 4000 in
theorem t_Wy_measure_123_L71 {V : Sm → Wd} (hV : VwC V) {l : Launch} {Γ : Gm} {v2 : Int32} {v3 : Int32} {v5 : Int32} {v6 : Int32} {v7 : Int32} {v8 : Int32} {rF : Option Value} {wF : Wd} {S : Sm} {o : (Int32 × Int32 × Sm) ⊕ (Int32 × Sm)} (h : Wy_measure_123_L71 v2 v3 v5 v6 v7 v8 S = some o) (hK : Sum.elim (hd_Wy_measure_L71 V l Γ rF wF v2 v3 v5 v7) (ps_Wy_measure_L71 V l Γ rF wF v2 v3 v5 v7) o) : G mX10_measure l Γ (rmD 6 0 0) (mQ Γ rF wF 0 0) 0 0 123 [some (.ref 37), none, some (.int v2), some (.int v3), none, some (.int v5), some (.int v6), some (.int v7), some (.int v8), none] [] (V S) := by
  unfold Wy_measure_123_L71 at h
  refine g_iinc (v := v8 + 1) (ls1 := [some (.ref 37), none, some (.int v2), some (.int v3), none, some (.int v5), some (.int v6), some (.int v7), some (.int (v8 + 1)), none]) (pc := 123) dX10_measure_123 rfl rfl (by decide) rfl ?_
  refine g_goto (tgt := 71) (pc := 126) dX10_measure_126 (by decide) ?_
  cases h
  exact hK
def Wy_measure_L71 (v2 : Int32) (v3 : Int32) (v5 : Int32) (v7 : Int32) (q : Int32 × Int32 × Sm) : Option ((Int32 × Int32 × Sm) ⊕ (Int32 × Sm)) := (if (Nt_mouths q.2.2) ≤ q.2.1 then (some (.inr (q.1, q.2.2))) else ((Wy_leastBehind q.2.1 v2 v3 v5 q.2.2).bind fun q5 => (if (atF (gi q5.2 38) 8 q.2.1) ≤ q5.1 then (Wy_measure_123_L71 v2 v3 v5 q.1 v7 q.2.1 q5.2) else (app (puF q5.2 38 8 q.2.1 q5.1) fun S6 => (Wy_measure_123_L71 v2 v3 v5 1 v7 q.2.1 S6)))))
set_option maxRecDepth 4000 in
theorem t_Wy_measure_L71 {V : Sm → Wd} (hV : VwC V) {l : Launch} {Γ : Gm} {rF : Option Value} {wF : Wd} {v2 : Int32} {v3 : Int32} {v5 : Int32} {v7 : Int32} {q : Int32 × Int32 × Sm} {o : (Int32 × Int32 × Sm) ⊕ (Int32 × Sm)} (h : Wy_measure_L71 v2 v3 v5 v7 q = some o) (hK : Sum.elim (hd_Wy_measure_L71 V l Γ rF wF v2 v3 v5 v7) (ps_Wy_measure_L71 V l Γ rF wF v2 v3 v5 v7) o) : hd_Wy_measure_L71 V l Γ rF wF v2 v3 v5 v7 q := by
  unfold Wy_measure_L71 at h
  unfold hd_Wy_measure_L71
  refine g_iload (pc := 71) dX10_measure_71 rfl ?_
  refine g_aload_n (pc := 73) dX10_measure_73 rfl ?_
  refine v_getR hV (pc := 74) dX10_measure_74 fo_10_0 rfl k0_37 r0_37_0 ?_
  refine v_callVi hV (Mc := mX5_mouths) (v := Nt_mouths q.2.2) (S1 := q.2.2) (As := []) (rest := [.int q.2.1]) (q := (RX5, TX5, 3)) (pc := 77) dX10_measure_77 mK_X10_89 mf_X5_mouths rfl k0_10 rfl rfl rfl (Nat.le_of_ble_eq_true rfl) ⟨Nat.le_of_ble_eq_true rfl, Nat.le_of_ble_eq_true rfl⟩ (r_Nt_mouths hV rfl) ?_
  refine g_icmp_ge (tgt := 129) (pc := 80) dX10_measure_80 (by decide) (fun c8 => ?_) (fun c8 => ?_)
  · rw [if_pos c8] at h
    refine g_wk [true, false, true, true, false, true, true, true, false, false] rfl ?_
    cases h
    exact hK
  · rw [if_neg c8] at h
    refine g_aload_n (pc := 83) dX10_measure_83 rfl ?_
    refine g_iload (pc := 84) dX10_measure_84 rfl ?_
    refine g_iload_n (pc := 86) dX10_measure_86 rfl ?_
    refine g_iload_n (pc := 87) dX10_measure_87 rfl ?_
    refine g_iload (pc := 88) dX10_measure_88 rfl ?_
    obtain ⟨q5, hq5, h⟩ := bnd h
    refine v_callVi hV (Mc := mX10_leastBehind) (v := q5.1) (S1 := q5.2) (As := [.int q.2.1, .int v2, .int v3, .int v5]) (rest := []) (q := (RX10, TX10, 5)) (pc := 90) dX10_measure_90 mK_X10_112 mf_X10_leastBehind rfl k0_37 rfl rfl rfl (Nat.le_of_ble_eq_true rfl) ⟨Nat.le_of_ble_eq_true rfl, Nat.le_of_ble_eq_true rfl⟩ (r_Wy_leastBehind hV hq5) ?_
    refine g_istore (ls1 := [some (.ref 37), none, some (.int v2), some (.int v3), none, some (.int v5), some (.int q.1), some (.int v7), some (.int q.2.1), some (.int q5.1)]) (pc := 93) dX10_measure_93 (by decide) rfl ?_
    refine g_iload (pc := 95) dX10_measure_95 rfl ?_
    refine g_aload_n (pc := 97) dX10_measure_97 rfl ?_
    refine v_getR hV (pc := 98) dX10_measure_98 fo_10_3 rfl k0_37 r0_37_3 ?_
    refine g_iload (pc := 101) dX10_measure_101 rfl ?_
    refine v_callNi (Mc := mX11_at) (v := atF (gi q5.2 38) 8 q.2.1) (S1 := q5.2) (As := [.ref 38, .int q.2.1]) (rest := [.int q5.1]) (pc := 103) dX10_measure_103 nl_X10_116 mf_X11_at rfl rfl (Nat.le_of_ble_eq_true rfl) ⟨Nat.le_of_ble_eq_true rfl, Nat.le_of_ble_eq_true rfl⟩ (r_at hV k0_38 own_38 (by decide)) ?_
    refine g_icmp_ge (tgt := 123) (pc := 106) dX10_measure_106 (by decide) (fun c7 => ?_) (fun c7 => ?_)
    · rw [if_pos c7] at h
      refine g_wk [true, false, true, true, false, true, true, true, true, false] rfl ?_
      exact t_Wy_measure_123_L71 hV h hK
    · rw [if_neg c7] at h
      refine g_aload_n (pc := 109) dX10_measure_109 rfl ?_
      refine v_getR hV (pc := 110) dX10_measure_110 fo_10_3 rfl k0_37 r0_37_3 ?_
      refine g_iload (pc := 113) dX10_measure_113 rfl ?_
      refine g_iload (pc := 115) dX10_measure_115 rfl ?_
      obtain ⟨S6, hS6, h⟩ := app_of h
      refine v_callNv (Mc := mX11_put) (S1 := S6) (As := [.ref 38, .int q.2.1, .int q5.1]) (rest := []) (pc := 117) dX10_measure_117 nl_X10_108 mf_X11_put rfl rfl (Nat.le_of_ble_eq_true rfl) ⟨Nat.le_of_ble_eq_true rfl, Nat.le_of_ble_eq_true rfl⟩ (r_put hV k0_38 own_38 (by decide) hS6) ?_
      refine g_iconst (v := 1) (pc := 120) dX10_measure_120 (by decide) ?_
      refine g_istore (ls1 := [some (.ref 37), none, some (.int v2), some (.int v3), none, some (.int v5), some (.int 1), some (.int v7), some (.int q.2.1), some (.int q5.1)]) (pc := 121) dX10_measure_121 (by decide) rfl ?_
      refine g_wk [true, false, true, true, false, true, true, true, true, false] rfl ?_
      exact t_Wy_measure_123_L71 hV h hK
set_option maxRecDepth 4000 in
theorem w_Wy_measure_L71 {V : Sm → Wd} (hV : VwC V) {l : Launch} {Γ : Gm} {rF : Option Value} {wF : Wd} {v2 : Int32} {v3 : Int32} {v5 : Int32} {v7 : Int32} {k : Nat} {q : Int32 × Int32 × Sm} {o : Int32 × Sm} (h : lpN (Wy_measure_L71 v2 v3 v5 v7) k q = some o) (hP : ps_Wy_measure_L71 V l Γ rF wF v2 v3 v5 v7 o) : hd_Wy_measure_L71 V l Γ rF wF v2 v3 v5 v7 q := lpN_ind2 (hd_Wy_measure_L71 V l Γ rF wF v2 v3 v5 v7) (ps_Wy_measure_L71 V l Γ rF wF v2 v3 v5 v7) (fun s o h hK => t_Wy_measure_L71 hV h hK) k q o h hP
def Wy_measure_L53 (v2 : Int32) (v3 : Int32) (v5 : Int32) (q : Int32 × Int32 × Sm) : Option ((Int32 × Int32 × Sm) ⊕ (Sm)) := (if (8 : Int32) ≤ q.2.1 then (some (.inr q.2.2)) else (if q.1 = 0 then (some (.inr q.2.2)) else ((lpN (Wy_measure_L71 v2 v3 v5 q.2.1) FU (0, 0, q.2.2)).bind fun q9 => (some (.inl (q9.1, q.2.1 + 1, q9.2))))))
set_option maxRecDepth 4000 in
theorem t_Wy_measure_L53 {V : Sm → Wd} (hV : VwC V) {l : Launch} {Γ : Gm} {rF : Option Value} {wF : Wd} {v2 : Int32} {v3 : Int32} {v5 : Int32} {q : Int32 × Int32 × Sm} {o : (Int32 × Int32 × Sm) ⊕ (Sm)} (h : Wy_measure_L53 v2 v3 v5 q = some o) (hK : Sum.elim (hd_Wy_measure_L53 V l Γ rF wF v2 v3 v5) (ps_Wy_measure_L53 V l Γ rF wF v2 v3 v5) o) : hd_Wy_measure_L53 V l Γ rF wF v2 v3 v5 q := by
  unfold Wy_measure_L53 at h
  unfold hd_Wy_measure_L53
  refine g_iload (pc := 53) dX10_measure_53 rfl ?_
  refine g_bipush (v := 8) (pc := 55) dX10_measure_55 (by decide) ?_
  refine g_icmp_ge (tgt := 135) (pc := 57) dX10_measure_57 (by decide) (fun c11 => ?_) (fun c11 => ?_)
  · rw [if_pos c11] at h
    refine g_wk [false, false, false, false, false, false, false, false, false, false] rfl ?_
    cases h
    exact hK
  · rw [if_neg c11] at h
    refine g_iload (pc := 60) dX10_measure_60 rfl ?_
    refine g_if_eq (tgt := 135) (pc := 62) dX10_measure_62 (by decide) (fun c10 => ?_) (fun c10 => ?_)
    · rw [if_pos c10] at h
      refine g_wk [false, false, false, false, false, false, false, false, false, false] rfl ?_
      cases h
      exact hK
    · rw [if_neg c10] at h
      refine g_iconst (v := 0) (pc := 65) dX10_measure_65 (by decide) ?_
      refine g_istore (ls1 := [some (.ref 37), none, some (.int v2), some (.int v3), none, some (.int v5), some (.int 0), some (.int q.2.1), none, none]) (pc := 66) dX10_measure_66 (by decide) rfl ?_
      refine g_iconst (v := 0) (pc := 68) dX10_measure_68 (by decide) ?_
      refine g_istore (ls1 := [some (.ref 37), none, some (.int v2), some (.int v3), none, some (.int v5), some (.int 0), some (.int q.2.1), some (.int 0), none]) (pc := 69) dX10_measure_69 (by decide) rfl ?_
      obtain ⟨q9, hqq9, h⟩ := bnd h
      refine w_Wy_measure_L71 hV hqq9 ?_
      unfold ps_Wy_measure_L71
      show G _ _ _ _ _ _ _ _ _ _ _
      refine g_iinc (v := q.2.1 + 1) (ls1 := [some (.ref 37), none, some (.int v2), some (.int v3), none, some (.int v5), some (.int q9.1), some (.int (q.2.1 + 1)), none, none]) (pc := 129) dX10_measure_129 rfl rfl (by decide) rfl ?_
      refine g_goto (tgt := 53) (pc := 132) dX10_measure_132 (by decide) ?_
      cases h
      exact hK
set_option maxRecDepth 4000 in
theorem w_Wy_measure_L53 {V : Sm → Wd} (hV : VwC V) {l : Launch} {Γ : Gm} {rF : Option Value} {wF : Wd} {v2 : Int32} {v3 : Int32} {v5 : Int32} {k : Nat} {q : Int32 × Int32 × Sm} {o : Sm} (h : lpN (Wy_measure_L53 v2 v3 v5) k q = some o) (hP : ps_Wy_measure_L53 V l Γ rF wF v2 v3 v5 o) : hd_Wy_measure_L53 V l Γ rF wF v2 v3 v5 q := lpN_ind2 (hd_Wy_measure_L53 V l Γ rF wF v2 v3 v5) (ps_Wy_measure_L53 V l Γ rF wF v2 v3 v5) (fun s o h hK => t_Wy_measure_L53 hV h hK) k q o h hP
def Wy_measure (v1 : Int32) (v2 : Int32) (v3 : Int32) (v4 : Int32) (S : Sm) : Option (Sm) := ((lpN (Wy_measure_L3 v1 v2 v3 v4) FU (0, S)).bind fun q4 => ((lpN (Wy_measure_L53 v2 v3 (v4 &&& ((iShl 1 v1) ^^^ ((-1))))) FU (1, 0, q4)).bind fun q12 => (some q12)))
set_option maxRecDepth 4000 in
theorem r_Wy_measure {V : Sm → Wd} (hV : VwC V) {v1 : Int32} {v2 : Int32} {v3 : Int32} {v4 : Int32} {S : Sm} {q : Sm} (h : Wy_measure v1 v2 v3 v4 S = some q) : Runs 6 mX10_measure [.ref 37, .int v1, .int v2, .int v3, .int v4] (V S) none (V q) 0 0 := by
  unfold Wy_measure at h
  refine Runs.of2 [some (.ref 37), some (.int v1), some (.int v2), some (.int v3), some (.int v4), none, none, none, none, none] 5 rfl rfl (Nat.le_of_ble_eq_true rfl) (fun l Γ => ?_)
  refine g_iconst (v := 0) (pc := 0) dX10_measure_0 (by decide) ?_
  refine g_istore (ls1 := [some (.ref 37), some (.int v1), some (.int v2), some (.int v3), some (.int v4), some (.int 0), none, none, none, none]) (pc := 1) dX10_measure_1 (by decide) rfl ?_
  obtain ⟨q4, hqq4, h⟩ := bnd h
  refine w_Wy_measure_L3 hV hqq4 ?_
  unfold ps_Wy_measure_L3
  show G _ _ _ _ _ _ _ _ _ _ _
  refine g_iload (pc := 37) dX10_measure_37 rfl ?_
  refine g_iconst (v := 1) (pc := 39) dX10_measure_39 (by decide) ?_
  refine g_iload_n (pc := 40) dX10_measure_40 rfl ?_
  refine g_ishl (pc := 41) dX10_measure_41 ?_
  refine g_iconst (v := (-1)) (pc := 42) dX10_measure_42 (by decide) ?_
  refine g_ixor (pc := 43) dX10_measure_43 ?_
  refine g_iand (pc := 44) dX10_measure_44 ?_
  refine g_istore (ls1 := [some (.ref 37), some (.int v1), some (.int v2), some (.int v3), some (.int v4), some (.int (v4 &&& ((iShl 1 v1) ^^^ ((-1))))), none, none, none, none]) (pc := 45) dX10_measure_45 (by decide) rfl ?_
  refine g_iconst (v := 1) (pc := 47) dX10_measure_47 (by decide) ?_
  refine g_istore (ls1 := [some (.ref 37), some (.int v1), some (.int v2), some (.int v3), some (.int v4), some (.int (v4 &&& ((iShl 1 v1) ^^^ ((-1))))), some (.int 1), none, none, none]) (pc := 48) dX10_measure_48 (by decide) rfl ?_
  refine g_iconst (v := 0) (pc := 50) dX10_measure_50 (by decide) ?_
  refine g_istore (ls1 := [some (.ref 37), some (.int v1), some (.int v2), some (.int v3), some (.int v4), some (.int (v4 &&& ((iShl 1 v1) ^^^ ((-1))))), some (.int 1), some (.int 0), none, none]) (pc := 51) dX10_measure_51 (by decide) rfl ?_
  refine g_wk [true, false, true, true, false, true, true, true, false, false] rfl ?_
  obtain ⟨q12, hqq12, h⟩ := bnd h
  refine w_Wy_measure_L53 hV hqq12 ?_
  unfold ps_Wy_measure_L53
  show G _ _ _ _ _ _ _ _ _ _ _
  cases h
  exact g_vret (pc := 135) dX10_measure_135 rfl (Nat.le_refl _) (Nat.le_refl _)
def hd_Wy_firstOfSoonest_L11 (V : Sm → Wd) (l : Launch) (Γ : Gm) (rF : Option Value) (wF : Wd) (v1 : Int32) (v2 : Int32) (v3 : Int32) (S : Sm) (q : Int32) : Prop := G mX10_firstOfSoonest l Γ (rmD 7 0 0) (mQ Γ rF wF 0 0) 0 0 11 [some (.ref 37), some (.int v1), some (.int v2), some (.int v3), some (.int q), none] [] (V S)
def ps_Wy_firstOfSoonest_L11 (V : Sm → Wd) (l : Launch) (Γ : Gm) (rF : Option Value) (wF : Wd) (v1 : Int32) (v2 : Int32) (v3 : Int32) (S : Sm) (x : (Int32) ⊕ (Unit)) : Prop := (Sum.elim (fun (a : Int32) => G mX10_firstOfSoonest l Γ (rmD 7 0 0) (mQ Γ rF wF 0 0) 0 0 74 [none, none, none, none, some (.int a), none] [] (V S)) (fun (a : Unit) => G mX10_firstOfSoonest l Γ (rmD 7 0 0) (mQ Γ rF wF 0 0) 0 0 83 [none, none, none, none, none, none] [] (V S))) x
def Wy_firstOfSoonest_77_L11 (v1 : Int32) (v2 : Int32) (v3 : Int32) (v4 : Int32) (S : Sm) : Option ((Int32) ⊕ ((Int32) ⊕ (Unit))) := (some (.inl (v4 + 1)))
set_option maxRecDepth 4000 in
theorem t_Wy_firstOfSoonest_77_L11 {V : Sm → Wd} (hV : VwC V) {l : Launch} {Γ : Gm} {v1 : Int32} {v2 : Int32} {v3 : Int32} {v4 : Int32} {rF : Option Value} {wF : Wd} {S : Sm} {o : (Int32) ⊕ ((Int32) ⊕ (Unit))} (h : Wy_firstOfSoonest_77_L11 v1 v2 v3 v4 S = some o) (hK : Sum.elim (hd_Wy_firstOfSoonest_L11 V l Γ rF wF v1 v2 v3 S) (ps_Wy_firstOfSoonest_L11 V l Γ rF wF v1 v2 v3 S) o) : G mX10_firstOfSoonest l Γ (rmD 7 0 0) (mQ Γ rF wF 0 0) 0 0 77 [some (.ref 37), some (.int v1), some (.int v2), some (.int v3), some (.int v4), none] [] (V S) := by
  unfold Wy_firstOfSoonest_77_L11 at h
  refine g_iinc (v := v4 + 1) (ls1 := [some (.ref 37), some (.int v1), some (.int v2), some (.int v3), some (.int (v4 + 1)), none]) (pc := 77) dX10_firstOfSoonest_77 rfl rfl (by decide) rfl ?_
  refine g_goto (tgt := 11) (pc := 80) dX10_firstOfSoonest_80 (by decide) ?_
  cases h
  exact hK
def Wy_firstOfSoonest_L11 (v1 : Int32) (v2 : Int32) (v3 : Int32) (S : Sm) (q : Int32) : Option ((Int32) ⊕ ((Int32) ⊕ (Unit))) := (if (Nt_colours S) ≤ q then (some (.inr (.inr ()))) else (if v1 = v2 then (some (.inr (.inr ()))) else (if (Dk_holds v3 q) = 0 then (Wy_firstOfSoonest_77_L11 v1 v2 v3 q S) else (if ((Wy_takes v1 q S) + (atF (gi S 38) 8 (Wy_leadsTo v1 q S))) = (atF (gi S 38) 8 v1) then (some (.inr (.inl q))) else (Wy_firstOfSoonest_77_L11 v1 v2 v3 q S)))))
set_option maxRecDepth 4000 in
theorem t_Wy_firstOfSoonest_L11 {V : Sm → Wd} (hV : VwC V) {l : Launch} {Γ : Gm} {rF : Option Value} {wF : Wd} {v1 : Int32} {v2 : Int32} {v3 : Int32} {S : Sm} {q : Int32} {o : (Int32) ⊕ ((Int32) ⊕ (Unit))} (h : Wy_firstOfSoonest_L11 v1 v2 v3 S q = some o) (hK : Sum.elim (hd_Wy_firstOfSoonest_L11 V l Γ rF wF v1 v2 v3 S) (ps_Wy_firstOfSoonest_L11 V l Γ rF wF v1 v2 v3 S) o) : hd_Wy_firstOfSoonest_L11 V l Γ rF wF v1 v2 v3 S q := by
  unfold Wy_firstOfSoonest_L11 at h
  unfold hd_Wy_firstOfSoonest_L11
  refine g_iload (pc := 11) dX10_firstOfSoonest_11 rfl ?_
  refine g_aload_n (pc := 13) dX10_firstOfSoonest_13 rfl ?_
  refine v_getR hV (pc := 14) dX10_firstOfSoonest_14 fo_10_0 rfl k0_37 r0_37_0 ?_
  refine v_callVi hV (Mc := mX5_colours) (v := Nt_colours S) (S1 := S) (As := []) (rest := [.int q]) (q := (RX5, TX5, 3)) (pc := 17) dX10_firstOfSoonest_17 mK_X10_80 mf_X5_colours rfl k0_10 rfl rfl rfl (Nat.le_of_ble_eq_true rfl) ⟨Nat.le_of_ble_eq_true rfl, Nat.le_of_ble_eq_true rfl⟩ (r_Nt_colours hV rfl) ?_
  refine g_icmp_ge (tgt := 83) (pc := 20) dX10_firstOfSoonest_20 (by decide) (fun c5 => ?_) (fun c5 => ?_)
  · rw [if_pos c5] at h
    refine g_wk [false, false, false, false, false, false] rfl ?_
    cases h
    exact hK
  · rw [if_neg c5] at h
    refine g_iload_n (pc := 23) dX10_firstOfSoonest_23 rfl ?_
    refine g_iload_n (pc := 24) dX10_firstOfSoonest_24 rfl ?_
    refine g_icmp_eq (tgt := 83) (pc := 25) dX10_firstOfSoonest_25 (by decide) (fun c4 => ?_) (fun c4 => ?_)
    · rw [if_pos c4] at h
      refine g_wk [false, false, false, false, false, false] rfl ?_
      cases h
      exact hK
    · rw [if_neg c4] at h
      refine g_aload_n (pc := 28) dX10_firstOfSoonest_28 rfl ?_
      refine v_getR hV (pc := 29) dX10_firstOfSoonest_29 fo_10_3 rfl k0_37 r0_37_3 ?_
      refine g_aload_n (pc := 32) dX10_firstOfSoonest_32 rfl ?_
      refine g_iload_n (pc := 33) dX10_firstOfSoonest_33 rfl ?_
      refine g_iload (pc := 34) dX10_firstOfSoonest_34 rfl ?_
      refine v_callVi hV (Mc := mX10_leadsTo) (v := Wy_leadsTo v1 q S) (S1 := S) (As := [.int v1, .int q]) (rest := [.ref 38]) (q := (RX10, TX10, 5)) (pc := 36) dX10_firstOfSoonest_36 mK_X10_50 mf_X10_leadsTo rfl k0_37 rfl rfl rfl (Nat.le_of_ble_eq_true rfl) ⟨Nat.le_of_ble_eq_true rfl, Nat.le_of_ble_eq_true rfl⟩ (r_Wy_leadsTo hV rfl) ?_
      refine v_callNi (Mc := mX11_at) (v := atF (gi S 38) 8 (Wy_leadsTo v1 q S)) (S1 := S) (As := [.ref 38, .int (Wy_leadsTo v1 q S)]) (rest := []) (pc := 39) dX10_firstOfSoonest_39 nl_X10_116 mf_X11_at rfl rfl (Nat.le_of_ble_eq_true rfl) ⟨Nat.le_of_ble_eq_true rfl, Nat.le_of_ble_eq_true rfl⟩ (r_at hV k0_38 own_38 (by decide)) ?_
      refine g_istore (ls1 := [some (.ref 37), some (.int v1), some (.int v2), some (.int v3), some (.int q), some (.int (atF (gi S 38) 8 (Wy_leadsTo v1 q S)))]) (pc := 42) dX10_firstOfSoonest_42 (by decide) rfl ?_
      refine g_iload_n (pc := 44) dX10_firstOfSoonest_44 rfl ?_
      refine g_iload (pc := 45) dX10_firstOfSoonest_45 rfl ?_
      refine v_callNi (Mc := mX11_holds) (v := Dk_holds v3 q) (S1 := S) (As := [.int v3, .int q]) (rest := []) (pc := 47) dX10_firstOfSoonest_47 nl_X10_76 mf_X11_holds rfl rfl (Nat.le_of_ble_eq_true rfl) ⟨Nat.le_of_ble_eq_true rfl, Nat.le_of_ble_eq_true rfl⟩ (r_Dk_holds hV rfl) ?_
      refine g_if_eq (tgt := 77) (pc := 50) dX10_firstOfSoonest_50 (by decide) (fun c3 => ?_) (fun c3 => ?_)
      · rw [if_pos c3] at h
        refine g_wk [true, true, true, true, true, false] rfl ?_
        exact t_Wy_firstOfSoonest_77_L11 hV h hK
      · rw [if_neg c3] at h
        refine g_aload_n (pc := 53) dX10_firstOfSoonest_53 rfl ?_
        refine g_iload_n (pc := 54) dX10_firstOfSoonest_54 rfl ?_
        refine g_iload (pc := 55) dX10_firstOfSoonest_55 rfl ?_
        refine v_callVi hV (Mc := mX10_takes) (v := Wy_takes v1 q S) (S1 := S) (As := [.int v1, .int q]) (rest := []) (q := (RX10, TX10, 5)) (pc := 57) dX10_firstOfSoonest_57 mK_X10_41 mf_X10_takes rfl k0_37 rfl rfl rfl (Nat.le_of_ble_eq_true rfl) ⟨Nat.le_of_ble_eq_true rfl, Nat.le_of_ble_eq_true rfl⟩ (r_Wy_takes hV rfl) ?_
        refine g_iload (pc := 60) dX10_firstOfSoonest_60 rfl ?_
        refine g_iadd (pc := 62) dX10_firstOfSoonest_62 ?_
        refine g_aload_n (pc := 63) dX10_firstOfSoonest_63 rfl ?_
        refine v_getR hV (pc := 64) dX10_firstOfSoonest_64 fo_10_3 rfl k0_37 r0_37_3 ?_
        refine g_iload_n (pc := 67) dX10_firstOfSoonest_67 rfl ?_
        refine v_callNi (Mc := mX11_at) (v := atF (gi S 38) 8 v1) (S1 := S) (As := [.ref 38, .int v1]) (rest := [.int ((Wy_takes v1 q S) + (atF (gi S 38) 8 (Wy_leadsTo v1 q S)))]) (pc := 68) dX10_firstOfSoonest_68 nl_X10_116 mf_X11_at rfl rfl (Nat.le_of_ble_eq_true rfl) ⟨Nat.le_of_ble_eq_true rfl, Nat.le_of_ble_eq_true rfl⟩ (r_at hV k0_38 own_38 (by decide)) ?_
        refine g_icmp_ne (tgt := 77) (pc := 71) dX10_firstOfSoonest_71 (by decide) (fun c2 => ?_) (fun c2 => ?_)
        · rw [if_neg c2] at h
          refine g_wk [true, true, true, true, true, false] rfl ?_
          exact t_Wy_firstOfSoonest_77_L11 hV h hK
        · rw [if_pos c2] at h
          refine g_wk [false, false, false, false, true, false] rfl ?_
          cases h
          exact hK
set_option maxRecDepth 4000 in
theorem w_Wy_firstOfSoonest_L11 {V : Sm → Wd} (hV : VwC V) {l : Launch} {Γ : Gm} {rF : Option Value} {wF : Wd} {v1 : Int32} {v2 : Int32} {v3 : Int32} {S : Sm} {k : Nat} {q : Int32} {o : (Int32) ⊕ (Unit)} (h : lpN (Wy_firstOfSoonest_L11 v1 v2 v3 S) k q = some o) (hP : ps_Wy_firstOfSoonest_L11 V l Γ rF wF v1 v2 v3 S o) : hd_Wy_firstOfSoonest_L11 V l Γ rF wF v1 v2 v3 S q := lpN_ind2 (hd_Wy_firstOfSoonest_L11 V l Γ rF wF v1 v2 v3 S) (ps_Wy_firstOfSoonest_L11 V l Γ rF wF v1 v2 v3 S) (fun s o h hK => t_Wy_firstOfSoonest_L11 hV h hK) k q o h hP
def Wy_firstOfSoonest (v1 : Int32) (v2 : Int32) (v3 : Int32) (S : Sm) : Option (Int32 × Sm) := ((Wy_measure v2 v3 0 0 S).bind fun q1 => ((lpN (Wy_firstOfSoonest_L11 v1 v2 v3 q1) FU 0).bind fun q6 => (Sum.elim (fun a7 => (some ((a7, q1)))) (fun a8 => (some (((-1), q1)))) q6)))
set_option maxRecDepth 4000 in
theorem r_Wy_firstOfSoonest {V : Sm → Wd} (hV : VwC V) {v1 : Int32} {v2 : Int32} {v3 : Int32} {S : Sm} {q : Int32 × Sm} (h : Wy_firstOfSoonest v1 v2 v3 S = some q) : Runs 7 mX10_firstOfSoonest [.ref 37, .int v1, .int v2, .int v3] (V S) (some (.int q.1)) (V q.2) 0 0 := by
  unfold Wy_firstOfSoonest at h
  refine Runs.of2 [some (.ref 37), some (.int v1), some (.int v2), some (.int v3), none, none] 2 rfl rfl (Nat.le_of_ble_eq_true rfl) (fun l Γ => ?_)
  refine g_aload_n (pc := 0) dX10_firstOfSoonest_0 rfl ?_
  refine g_iload_n (pc := 1) dX10_firstOfSoonest_1 rfl ?_
  refine g_iload_n (pc := 2) dX10_firstOfSoonest_2 rfl ?_
  refine g_iconst (v := 0) (pc := 3) dX10_firstOfSoonest_3 (by decide) ?_
  refine g_iconst (v := 0) (pc := 4) dX10_firstOfSoonest_4 (by decide) ?_
  obtain ⟨q1, hq1, h⟩ := bnd h
  refine v_callVv hV (Mc := mX10_measure) (S1 := q1) (As := [.int v2, .int v3, .int 0, .int 0]) (rest := []) (q := (RX10, TX10, 5)) (pc := 5) dX10_firstOfSoonest_5 mK_X10_123 mf_X10_measure rfl k0_37 rfl rfl rfl (Nat.le_of_ble_eq_true rfl) ⟨Nat.le_of_ble_eq_true rfl, Nat.le_of_ble_eq_true rfl⟩ (r_Wy_measure hV hq1) ?_
  refine g_iconst (v := 0) (pc := 8) dX10_firstOfSoonest_8 (by decide) ?_
  refine g_istore (ls1 := [some (.ref 37), some (.int v1), some (.int v2), some (.int v3), some (.int 0), none]) (pc := 9) dX10_firstOfSoonest_9 (by decide) rfl ?_
  obtain ⟨q6, hqq6, h⟩ := bnd h
  refine w_Wy_firstOfSoonest_L11 hV hqq6 ?_
  unfold ps_Wy_firstOfSoonest_L11
  cases q6 with
  | inl a7 =>
    simp only [Sum.elim_inl] at h
    show G _ _ _ _ _ _ _ _ _ _ _
    refine g_iload (pc := 74) dX10_firstOfSoonest_74 rfl ?_
    cases h
    exact g_iret (pc := 76) dX10_firstOfSoonest_76 rfl rfl (Nat.le_refl _) (Nat.le_refl _)
  | inr a8 =>
    simp only [Sum.elim_inr] at h
    show G _ _ _ _ _ _ _ _ _ _ _
    refine g_iconst (v := (-1)) (pc := 83) dX10_firstOfSoonest_83 (by decide) ?_
    cases h
    exact g_iret (pc := 84) dX10_firstOfSoonest_84 rfl rfl (Nat.le_refl _) (Nat.le_refl _)
def Wy_farFrom_25 (s0 : Int32) (S : Sm) : Int32 := s0
set_option maxRecDepth 4000 in
theorem t_Wy_farFrom_25 {V : Sm → Wd} (hV : VwC V) {l : Launch} {Γ : Gm} {s0 : Int32} {S : Sm} {q : Int32} (h : Wy_farFrom_25 s0 S = q) : G mX10_farFrom l Γ (rmD 1 0 0) (mQ Γ (some (.int q)) (V S) 0 0) 0 0 25 [none, none] [.int s0] (V S) := by
  unfold Wy_farFrom_25 at h
  subst h
  exact g_iret (pc := 25) dX10_farFrom_25 rfl rfl (Nat.le_refl _) (Nat.le_refl _)
def Wy_farFrom (v1 : Int32) (S : Sm) : Int32 := (if (1000000 : Int32) ≤ (atF (gi S 38) 8 v1) then (Wy_farFrom_25 ((-1)) S) else (Wy_farFrom_25 (atF (gi S 38) 8 v1) S))
set_option maxRecDepth 4000 in
theorem r_Wy_farFrom {V : Sm → Wd} (hV : VwC V) {v1 : Int32} {S : Sm} {q : Int32} (h : Wy_farFrom v1 S = q) : Runs 1 mX10_farFrom [.ref 37, .int v1] (V S) (some (.int q)) (V S) 0 0 := by
  unfold Wy_farFrom at h
  refine Runs.of2 [some (.ref 37), some (.int v1)] 0 rfl rfl (Nat.le_of_ble_eq_true rfl) (fun l Γ => ?_)
  refine g_aload_n (pc := 0) dX10_farFrom_0 rfl ?_
  refine v_getR hV (pc := 1) dX10_farFrom_1 fo_10_3 rfl k0_37 r0_37_3 ?_
  refine g_iload_n (pc := 4) dX10_farFrom_4 rfl ?_
  refine v_callNi (Mc := mX11_at) (v := atF (gi S 38) 8 v1) (S1 := S) (As := [.ref 38, .int v1]) (rest := []) (pc := 5) dX10_farFrom_5 nl_X10_116 mf_X11_at rfl rfl (Nat.le_of_ble_eq_true rfl) ⟨Nat.le_of_ble_eq_true rfl, Nat.le_of_ble_eq_true rfl⟩ (r_at hV k0_38 own_38 (by decide)) ?_
  refine g_ldc (v := 1000000) (pc := 8) dX10_farFrom_8 kI_X10_107 ?_
  refine g_icmp_ge (tgt := 24) (pc := 10) dX10_farFrom_10 (by decide) (fun c1 => ?_) (fun c1 => ?_)
  · rw [if_pos c1] at h
    refine g_iconst (v := (-1)) (pc := 24) dX10_farFrom_24 (by decide) ?_
    refine g_wk [false, false] rfl ?_
    exact t_Wy_farFrom_25 hV h
  · rw [if_neg c1] at h
    refine g_aload_n (pc := 13) dX10_farFrom_13 rfl ?_
    refine v_getR hV (pc := 14) dX10_farFrom_14 fo_10_3 rfl k0_37 r0_37_3 ?_
    refine g_iload_n (pc := 17) dX10_farFrom_17 rfl ?_
    refine v_callNi (Mc := mX11_at) (v := atF (gi S 38) 8 v1) (S1 := S) (As := [.ref 38, .int v1]) (rest := []) (pc := 18) dX10_farFrom_18 nl_X10_116 mf_X11_at rfl rfl (Nat.le_of_ble_eq_true rfl) ⟨Nat.le_of_ble_eq_true rfl, Nat.le_of_ble_eq_true rfl⟩ (r_at hV k0_38 own_38 (by decide)) ?_
    refine g_goto (tgt := 25) (pc := 21) dX10_farFrom_21 (by decide) ?_
    refine g_wk [false, false] rfl ?_
    exact t_Wy_farFrom_25 hV h
def Wy_fewestHours (v1 : Int32) (v2 : Int32) (v3 : Int32) (S : Sm) : Option (Int32 × Sm) := ((Wy_measure v2 v3 0 0 S).bind fun q1 => (some ((Wy_farFrom v1 q1, q1))))
set_option maxRecDepth 4000 in
theorem r_Wy_fewestHours {V : Sm → Wd} (hV : VwC V) {v1 : Int32} {v2 : Int32} {v3 : Int32} {S : Sm} {q : Int32 × Sm} (h : Wy_fewestHours v1 v2 v3 S = some q) : Runs 7 mX10_fewestHours [.ref 37, .int v1, .int v2, .int v3] (V S) (some (.int q.1)) (V q.2) 0 0 := by
  unfold Wy_fewestHours at h
  refine Runs.of2 [some (.ref 37), some (.int v1), some (.int v2), some (.int v3)] 0 rfl rfl (Nat.le_of_ble_eq_true rfl) (fun l Γ => ?_)
  refine g_aload_n (pc := 0) dX10_fewestHours_0 rfl ?_
  refine g_iload_n (pc := 1) dX10_fewestHours_1 rfl ?_
  refine g_iload_n (pc := 2) dX10_fewestHours_2 rfl ?_
  refine g_iconst (v := 0) (pc := 3) dX10_fewestHours_3 (by decide) ?_
  refine g_iconst (v := 0) (pc := 4) dX10_fewestHours_4 (by decide) ?_
  obtain ⟨q1, hq1, h⟩ := bnd h
  refine v_callVv hV (Mc := mX10_measure) (S1 := q1) (As := [.int v2, .int v3, .int 0, .int 0]) (rest := []) (q := (RX10, TX10, 5)) (pc := 5) dX10_fewestHours_5 mK_X10_123 mf_X10_measure rfl k0_37 rfl rfl rfl (Nat.le_of_ble_eq_true rfl) ⟨Nat.le_of_ble_eq_true rfl, Nat.le_of_ble_eq_true rfl⟩ (r_Wy_measure hV hq1) ?_
  refine g_aload_n (pc := 8) dX10_fewestHours_8 rfl ?_
  refine g_iload_n (pc := 9) dX10_fewestHours_9 rfl ?_
  refine v_callVi hV (Mc := mX10_farFrom) (v := Wy_farFrom v1 q1) (S1 := q1) (As := [.int v1]) (rest := []) (q := (RX10, TX10, 5)) (pc := 10) dX10_fewestHours_10 mK_X10_127 mf_X10_farFrom rfl k0_37 rfl rfl rfl (Nat.le_of_ble_eq_true rfl) ⟨Nat.le_of_ble_eq_true rfl, Nat.le_of_ble_eq_true rfl⟩ (r_Wy_farFrom hV rfl) ?_
  cases h
  exact g_iret (pc := 13) dX10_fewestHours_13 rfl rfl (Nat.le_refl _) (Nat.le_refl _)
def Dk_soonest_21 (S : Sm) : Option (Int32 × Sm) := (some (((-1), S)))
set_option maxRecDepth 4000 in
theorem t_Dk_soonest_21 {V : Sm → Wd} (hV : VwC V) {l : Launch} {Γ : Gm}  {S : Sm} {q : Int32 × Sm} (h : Dk_soonest_21 S = some q) : G mX11_soonest l Γ (rmD 8 0 0) (mQ Γ (some (.int q.1)) (V q.2) 0 0) 0 0 21 [none, none, none, none, none] [] (V S) := by
  unfold Dk_soonest_21 at h
  refine g_iconst (v := (-1)) (pc := 21) dX11_soonest_21 (by decide) ?_
  cases h
  exact g_iret (pc := 22) dX11_soonest_22 rfl rfl (Nat.le_refl _) (Nat.le_refl _)
def Dk_soonest_51 (s0 : Int32) (S : Sm) : Option (Int32 × Sm) := (some ((s0, S)))
set_option maxRecDepth 4000 in
theorem t_Dk_soonest_51 {V : Sm → Wd} (hV : VwC V) {l : Launch} {Γ : Gm} {s0 : Int32} {S : Sm} {q : Int32 × Sm} (h : Dk_soonest_51 s0 S = some q) : G mX11_soonest l Γ (rmD 8 0 0) (mQ Γ (some (.int q.1)) (V q.2) 0 0) 0 0 51 [none, none, none, none, none] [.int s0] (V S) := by
  unfold Dk_soonest_51 at h
  cases h
  exact g_iret (pc := 51) dX11_soonest_51 rfl rfl (Nat.le_refl _) (Nat.le_refl _)
def Dk_soonest (v1 : Int32) (v2 : Int32) (v3 : Int32) (v4 : Int32) (S : Sm) : Option (Int32 × Sm) := (if (Dk_areAsked v1 v2 v3 S) = 0 then (Dk_soonest_21 S) else (if v4 < 0 then (Dk_soonest_21 S) else (if v4 ≤ 1 then (if v4 = 0 then ((Wy_fewestHours v1 v2 v3 S).bind fun q2 => (Dk_soonest_51 q2.1 q2.2)) else ((Wy_firstOfSoonest v1 v2 v3 S).bind fun q1 => (Dk_soonest_51 q1.1 q1.2))) else (Dk_soonest_21 S))))
set_option maxRecDepth 4000 in
theorem r_Dk_soonest {V : Sm → Wd} (hV : VwC V) {v1 : Int32} {v2 : Int32} {v3 : Int32} {v4 : Int32} {S : Sm} {q : Int32 × Sm} (h : Dk_soonest v1 v2 v3 v4 S = some q) : Runs 8 mX11_soonest [.ref 7, .int v1, .int v2, .int v3, .int v4] (V S) (some (.int q.1)) (V q.2) 0 0 := by
  unfold Dk_soonest at h
  refine Runs.of2 [some (.ref 7), some (.int v1), some (.int v2), some (.int v3), some (.int v4)] 0 rfl rfl (Nat.le_of_ble_eq_true rfl) (fun l Γ => ?_)
  refine g_aload_n (pc := 0) dX11_soonest_0 rfl ?_
  refine g_iload_n (pc := 1) dX11_soonest_1 rfl ?_
  refine g_iload_n (pc := 2) dX11_soonest_2 rfl ?_
  refine g_iload_n (pc := 3) dX11_soonest_3 rfl ?_
  refine v_callVi hV (Mc := mX11_areAsked) (v := Dk_areAsked v1 v2 v3 S) (S1 := S) (As := [.int v1, .int v2, .int v3]) (rest := []) (q := (RX11, TX11, 12)) (pc := 4) dX11_soonest_4 mK_X11_239 mf_X11_areAsked rfl k0_7 rfl rfl rfl (Nat.le_of_ble_eq_true rfl) ⟨Nat.le_of_ble_eq_true rfl, Nat.le_of_ble_eq_true rfl⟩ (r_Dk_areAsked hV rfl) ?_
  refine g_if_eq (tgt := 21) (pc := 7) dX11_soonest_7 (by decide) (fun c6 => ?_) (fun c6 => ?_)
  · rw [if_pos c6] at h
    refine g_wk [false, false, false, false, false] rfl ?_
    exact t_Dk_soonest_21 hV h
  · rw [if_neg c6] at h
    refine g_iload (pc := 10) dX11_soonest_10 rfl ?_
    refine g_if_lt (tgt := 21) (pc := 12) dX11_soonest_12 (by decide) (fun c5 => ?_) (fun c5 => ?_)
    · rw [if_pos c5] at h
      refine g_wk [false, false, false, false, false] rfl ?_
      exact t_Dk_soonest_21 hV h
    · rw [if_neg c5] at h
      refine g_iload (pc := 15) dX11_soonest_15 rfl ?_
      refine g_iconst (v := 1) (pc := 17) dX11_soonest_17 (by decide) ?_
      refine g_icmp_le (tgt := 23) (pc := 18) dX11_soonest_18 (by decide) (fun c4 => ?_) (fun c4 => ?_)
      · rw [if_pos c4] at h
        refine g_iload (pc := 23) dX11_soonest_23 rfl ?_
        refine g_if_ne (tgt := 41) (pc := 25) dX11_soonest_25 (by decide) (fun c3 => ?_) (fun c3 => ?_)
        · rw [if_neg c3] at h
          refine g_aload_n (pc := 41) dX11_soonest_41 rfl ?_
          refine v_getR hV (pc := 42) dX11_soonest_42 fo_11_8 rfl k0_7 r0_7_8 ?_
          refine g_iload_n (pc := 45) dX11_soonest_45 rfl ?_
          refine g_iload_n (pc := 46) dX11_soonest_46 rfl ?_
          refine g_iload_n (pc := 47) dX11_soonest_47 rfl ?_
          obtain ⟨q1, hq1, h⟩ := bnd h
          refine v_callVi hV (Mc := mX10_firstOfSoonest) (v := q1.1) (S1 := q1.2) (As := [.int v1, .int v2, .int v3]) (rest := []) (q := (RX10, TX10, 5)) (pc := 48) dX11_soonest_48 mK_X11_249 mf_X10_firstOfSoonest rfl k0_37 rfl rfl rfl (Nat.le_of_ble_eq_true rfl) ⟨Nat.le_of_ble_eq_true rfl, Nat.le_of_ble_eq_true rfl⟩ (r_Wy_firstOfSoonest hV hq1) ?_
          refine g_wk [false, false, false, false, false] rfl ?_
          exact t_Dk_soonest_51 hV h
        · rw [if_pos c3] at h
          refine g_aload_n (pc := 28) dX11_soonest_28 rfl ?_
          refine v_getR hV (pc := 29) dX11_soonest_29 fo_11_8 rfl k0_7 r0_7_8 ?_
          refine g_iload_n (pc := 32) dX11_soonest_32 rfl ?_
          refine g_iload_n (pc := 33) dX11_soonest_33 rfl ?_
          refine g_iload_n (pc := 34) dX11_soonest_34 rfl ?_
          obtain ⟨q2, hq2, h⟩ := bnd h
          refine v_callVi hV (Mc := mX10_fewestHours) (v := q2.1) (S1 := q2.2) (As := [.int v1, .int v2, .int v3]) (rest := []) (q := (RX10, TX10, 5)) (pc := 35) dX11_soonest_35 mK_X11_246 mf_X10_fewestHours rfl k0_37 rfl rfl rfl (Nat.le_of_ble_eq_true rfl) ⟨Nat.le_of_ble_eq_true rfl, Nat.le_of_ble_eq_true rfl⟩ (r_Wy_fewestHours hV hq2) ?_
          refine g_goto (tgt := 51) (pc := 38) dX11_soonest_38 (by decide) ?_
          refine g_wk [false, false, false, false, false] rfl ?_
          exact t_Dk_soonest_51 hV h
      · rw [if_neg c4] at h
        refine g_wk [false, false, false, false, false] rfl ?_
        exact t_Dk_soonest_21 hV h
def Wy_leastPrices (v1 : Int32) (v2 : Int32) (v3 : Int32) (S : Sm) : Option (Int32 × Sm) := ((Wy_measure v2 v3 1 0 S).bind fun q1 => (some ((Wy_farFrom v1 q1, q1))))
set_option maxRecDepth 4000 in
theorem r_Wy_leastPrices {V : Sm → Wd} (hV : VwC V) {v1 : Int32} {v2 : Int32} {v3 : Int32} {S : Sm} {q : Int32 × Sm} (h : Wy_leastPrices v1 v2 v3 S = some q) : Runs 7 mX10_leastPrices [.ref 37, .int v1, .int v2, .int v3] (V S) (some (.int q.1)) (V q.2) 0 0 := by
  unfold Wy_leastPrices at h
  refine Runs.of2 [some (.ref 37), some (.int v1), some (.int v2), some (.int v3)] 0 rfl rfl (Nat.le_of_ble_eq_true rfl) (fun l Γ => ?_)
  refine g_aload_n (pc := 0) dX10_leastPrices_0 rfl ?_
  refine g_iload_n (pc := 1) dX10_leastPrices_1 rfl ?_
  refine g_iload_n (pc := 2) dX10_leastPrices_2 rfl ?_
  refine g_iconst (v := 1) (pc := 3) dX10_leastPrices_3 (by decide) ?_
  refine g_iconst (v := 0) (pc := 4) dX10_leastPrices_4 (by decide) ?_
  obtain ⟨q1, hq1, h⟩ := bnd h
  refine v_callVv hV (Mc := mX10_measure) (S1 := q1) (As := [.int v2, .int v3, .int 1, .int 0]) (rest := []) (q := (RX10, TX10, 5)) (pc := 5) dX10_leastPrices_5 mK_X10_123 mf_X10_measure rfl k0_37 rfl rfl rfl (Nat.le_of_ble_eq_true rfl) ⟨Nat.le_of_ble_eq_true rfl, Nat.le_of_ble_eq_true rfl⟩ (r_Wy_measure hV hq1) ?_
  refine g_aload_n (pc := 8) dX10_leastPrices_8 rfl ?_
  refine g_iload_n (pc := 9) dX10_leastPrices_9 rfl ?_
  refine v_callVi hV (Mc := mX10_farFrom) (v := Wy_farFrom v1 q1) (S1 := q1) (As := [.int v1]) (rest := []) (q := (RX10, TX10, 5)) (pc := 10) dX10_leastPrices_10 mK_X10_127 mf_X10_farFrom rfl k0_37 rfl rfl rfl (Nat.le_of_ble_eq_true rfl) ⟨Nat.le_of_ble_eq_true rfl, Nat.le_of_ble_eq_true rfl⟩ (r_Wy_farFrom hV rfl) ?_
  cases h
  exact g_iret (pc := 13) dX10_leastPrices_13 rfl rfl (Nat.le_refl _) (Nat.le_refl _)
def Dk_cheapest_24 (s0 : Int32) (S : Sm) : Option (Int32 × Sm) := (some ((s0, S)))
set_option maxRecDepth 4000 in
theorem t_Dk_cheapest_24 {V : Sm → Wd} (hV : VwC V) {l : Launch} {Γ : Gm} {s0 : Int32} {S : Sm} {q : Int32 × Sm} (h : Dk_cheapest_24 s0 S = some q) : G mX11_cheapest l Γ (rmD 8 0 0) (mQ Γ (some (.int q.1)) (V q.2) 0 0) 0 0 24 [none, none, none, none] [.int s0] (V S) := by
  unfold Dk_cheapest_24 at h
  cases h
  exact g_iret (pc := 24) dX11_cheapest_24 rfl rfl (Nat.le_refl _) (Nat.le_refl _)
def Dk_cheapest (v1 : Int32) (v2 : Int32) (v3 : Int32) (S : Sm) : Option (Int32 × Sm) := (if (Dk_areAsked v1 v2 v3 S) = 0 then (Dk_cheapest_24 ((-1)) S) else ((Wy_leastPrices v1 v2 v3 S).bind fun q1 => (Dk_cheapest_24 q1.1 q1.2)))
set_option maxRecDepth 4000 in
theorem r_Dk_cheapest {V : Sm → Wd} (hV : VwC V) {v1 : Int32} {v2 : Int32} {v3 : Int32} {S : Sm} {q : Int32 × Sm} (h : Dk_cheapest v1 v2 v3 S = some q) : Runs 8 mX11_cheapest [.ref 7, .int v1, .int v2, .int v3] (V S) (some (.int q.1)) (V q.2) 0 0 := by
  unfold Dk_cheapest at h
  refine Runs.of2 [some (.ref 7), some (.int v1), some (.int v2), some (.int v3)] 0 rfl rfl (Nat.le_of_ble_eq_true rfl) (fun l Γ => ?_)
  refine g_aload_n (pc := 0) dX11_cheapest_0 rfl ?_
  refine g_iload_n (pc := 1) dX11_cheapest_1 rfl ?_
  refine g_iload_n (pc := 2) dX11_cheapest_2 rfl ?_
  refine g_iload_n (pc := 3) dX11_cheapest_3 rfl ?_
  refine v_callVi hV (Mc := mX11_areAsked) (v := Dk_areAsked v1 v2 v3 S) (S1 := S) (As := [.int v1, .int v2, .int v3]) (rest := []) (q := (RX11, TX11, 12)) (pc := 4) dX11_cheapest_4 mK_X11_239 mf_X11_areAsked rfl k0_7 rfl rfl rfl (Nat.le_of_ble_eq_true rfl) ⟨Nat.le_of_ble_eq_true rfl, Nat.le_of_ble_eq_true rfl⟩ (r_Dk_areAsked hV rfl) ?_
  refine g_if_eq (tgt := 23) (pc := 7) dX11_cheapest_7 (by decide) (fun c2 => ?_) (fun c2 => ?_)
  · rw [if_pos c2] at h
    refine g_iconst (v := (-1)) (pc := 23) dX11_cheapest_23 (by decide) ?_
    refine g_wk [false, false, false, false] rfl ?_
    exact t_Dk_cheapest_24 hV h
  · rw [if_neg c2] at h
    refine g_aload_n (pc := 10) dX11_cheapest_10 rfl ?_
    refine v_getR hV (pc := 11) dX11_cheapest_11 fo_11_8 rfl k0_7 r0_7_8 ?_
    refine g_iload_n (pc := 14) dX11_cheapest_14 rfl ?_
    refine g_iload_n (pc := 15) dX11_cheapest_15 rfl ?_
    refine g_iload_n (pc := 16) dX11_cheapest_16 rfl ?_
    obtain ⟨q1, hq1, h⟩ := bnd h
    refine v_callVi hV (Mc := mX10_leastPrices) (v := q1.1) (S1 := q1.2) (As := [.int v1, .int v2, .int v3]) (rest := []) (q := (RX10, TX10, 5)) (pc := 17) dX11_cheapest_17 mK_X11_252 mf_X10_leastPrices rfl k0_37 rfl rfl rfl (Nat.le_of_ble_eq_true rfl) ⟨Nat.le_of_ble_eq_true rfl, Nat.le_of_ble_eq_true rfl⟩ (r_Wy_leastPrices hV hq1) ?_
    refine g_goto (tgt := 24) (pc := 20) dX11_cheapest_20 (by decide) ?_
    refine g_wk [false, false, false, false] rfl ?_
    exact t_Dk_cheapest_24 hV h
def hd_Wy_reachedFrom_L7 (V : Sm → Wd) (l : Launch) (Γ : Gm) (rF : Option Value) (wF : Wd) (v2 : Int32) (S : Sm) (q : Int32 × Int32) : Prop := G mX10_reachedFrom l Γ (rmD 4 0 0) (mQ Γ rF wF 0 0) 0 0 7 [some (.ref 37), none, some (.int v2), some (.int q.1), some (.int q.2)] [] (V S)
def ps_Wy_reachedFrom_L7 (V : Sm → Wd) (l : Launch) (Γ : Gm) (rF : Option Value) (wF : Wd) (v2 : Int32) (S : Sm) (x : Int32) : Prop := (fun (a : Int32) => G mX10_reachedFrom l Γ (rmD 4 0 0) (mQ Γ rF wF 0 0) 0 0 29 [none, none, none, some (.int a), none] [] (V S)) x
def Wy_reachedFrom_L7 (v2 : Int32) (S : Sm) (q : Int32 × Int32) : Option ((Int32 × Int32) ⊕ (Int32)) := (if (8 : Int32) ≤ q.2 then (some (.inr q.1)) else ((Wy_behindOne q.1 v2 S).bind fun q1 => (some (.inl (q.1 ||| q1, q.2 + 1)))))
set_option maxRecDepth 4000 in
theorem t_Wy_reachedFrom_L7 {V : Sm → Wd} (hV : VwC V) {l : Launch} {Γ : Gm} {rF : Option Value} {wF : Wd} {v2 : Int32} {S : Sm} {q : Int32 × Int32} {o : (Int32 × Int32) ⊕ (Int32)} (h : Wy_reachedFrom_L7 v2 S q = some o) (hK : Sum.elim (hd_Wy_reachedFrom_L7 V l Γ rF wF v2 S) (ps_Wy_reachedFrom_L7 V l Γ rF wF v2 S) o) : hd_Wy_reachedFrom_L7 V l Γ rF wF v2 S q := by
  unfold Wy_reachedFrom_L7 at h
  unfold hd_Wy_reachedFrom_L7
  refine g_iload (pc := 7) dX10_reachedFrom_7 rfl ?_
  refine g_bipush (v := 8) (pc := 9) dX10_reachedFrom_9 (by decide) ?_
  refine g_icmp_ge (tgt := 29) (pc := 11) dX10_reachedFrom_11 (by decide) (fun c2 => ?_) (fun c2 => ?_)
  · rw [if_pos c2] at h
    refine g_wk [false, false, false, true, false] rfl ?_
    cases h
    exact hK
  · rw [if_neg c2] at h
    refine g_iload_n (pc := 14) dX10_reachedFrom_14 rfl ?_
    refine g_aload_n (pc := 15) dX10_reachedFrom_15 rfl ?_
    refine g_iload_n (pc := 16) dX10_reachedFrom_16 rfl ?_
    refine g_iload_n (pc := 17) dX10_reachedFrom_17 rfl ?_
    obtain ⟨q1, hq1, h⟩ := bnd h
    refine v_callVi hV (Mc := mX10_behindOne) (v := q1) (S1 := S) (As := [.int q.1, .int v2]) (rest := [.int q.1]) (q := (RX10, TX10, 5)) (pc := 18) dX10_reachedFrom_18 mK_X10_86 mf_X10_behindOne rfl k0_37 rfl rfl rfl (Nat.le_of_ble_eq_true rfl) ⟨Nat.le_of_ble_eq_true rfl, Nat.le_of_ble_eq_true rfl⟩ (r_Wy_behindOne hV hq1) ?_
    refine g_ior (pc := 21) dX10_reachedFrom_21 ?_
    refine g_istore_n (ls1 := [some (.ref 37), none, some (.int v2), some (.int (q.1 ||| q1)), some (.int q.2)]) (pc := 22) dX10_reachedFrom_22 (by decide) rfl ?_
    refine g_iinc (v := q.2 + 1) (ls1 := [some (.ref 37), none, some (.int v2), some (.int (q.1 ||| q1)), some (.int (q.2 + 1))]) (pc := 23) dX10_reachedFrom_23 rfl rfl (by decide) rfl ?_
    refine g_goto (tgt := 7) (pc := 26) dX10_reachedFrom_26 (by decide) ?_
    cases h
    exact hK
set_option maxRecDepth 4000 in
theorem w_Wy_reachedFrom_L7 {V : Sm → Wd} (hV : VwC V) {l : Launch} {Γ : Gm} {rF : Option Value} {wF : Wd} {v2 : Int32} {S : Sm} {k : Nat} {q : Int32 × Int32} {o : Int32} (h : lpN (Wy_reachedFrom_L7 v2 S) k q = some o) (hP : ps_Wy_reachedFrom_L7 V l Γ rF wF v2 S o) : hd_Wy_reachedFrom_L7 V l Γ rF wF v2 S q := lpN_ind2 (hd_Wy_reachedFrom_L7 V l Γ rF wF v2 S) (ps_Wy_reachedFrom_L7 V l Γ rF wF v2 S) (fun s o h hK => t_Wy_reachedFrom_L7 hV h hK) k q o h hP
def Wy_reachedFrom (v1 : Int32) (v2 : Int32) (S : Sm) : Option (Int32) := ((lpN (Wy_reachedFrom_L7 v2 S) FU (iShl 1 v1, 0)).bind fun q3 => (some q3))
set_option maxRecDepth 4000 in
theorem r_Wy_reachedFrom {V : Sm → Wd} (hV : VwC V) {v1 : Int32} {v2 : Int32} {S : Sm} {q : Int32} (h : Wy_reachedFrom v1 v2 S = some q) : Runs 4 mX10_reachedFrom [.ref 37, .int v1, .int v2] (V S) (some (.int q)) (V S) 0 0 := by
  unfold Wy_reachedFrom at h
  refine Runs.of2 [some (.ref 37), some (.int v1), some (.int v2), none, none] 2 rfl rfl (Nat.le_of_ble_eq_true rfl) (fun l Γ => ?_)
  refine g_iconst (v := 1) (pc := 0) dX10_reachedFrom_0 (by decide) ?_
  refine g_iload_n (pc := 1) dX10_reachedFrom_1 rfl ?_
  refine g_ishl (pc := 2) dX10_reachedFrom_2 ?_
  refine g_istore_n (ls1 := [some (.ref 37), some (.int v1), some (.int v2), some (.int (iShl 1 v1)), none]) (pc := 3) dX10_reachedFrom_3 (by decide) rfl ?_
  refine g_iconst (v := 0) (pc := 4) dX10_reachedFrom_4 (by decide) ?_
  refine g_istore (ls1 := [some (.ref 37), some (.int v1), some (.int v2), some (.int (iShl 1 v1)), some (.int 0)]) (pc := 5) dX10_reachedFrom_5 (by decide) rfl ?_
  refine g_wk [true, false, true, true, true] rfl ?_
  obtain ⟨q3, hqq3, h⟩ := bnd h
  refine w_Wy_reachedFrom_L7 hV hqq3 ?_
  unfold ps_Wy_reachedFrom_L7
  show G _ _ _ _ _ _ _ _ _ _ _
  refine g_iload_n (pc := 29) dX10_reachedFrom_29 rfl ?_
  cases h
  exact g_iret (pc := 30) dX10_reachedFrom_30 rfl rfl (Nat.le_refl _) (Nat.le_refl _)
def Dk_reached_35 (s0 : Int32) (S : Sm) : Option (Int32) := (some s0)
set_option maxRecDepth 4000 in
theorem t_Dk_reached_35 {V : Sm → Wd} (hV : VwC V) {l : Launch} {Γ : Gm} {s0 : Int32} {S : Sm} {q : Int32} (h : Dk_reached_35 s0 S = some q) : G mX11_reached l Γ (rmD 5 0 0) (mQ Γ (some (.int q)) (V S) 0 0) 0 0 35 [none, none, none] [.int s0] (V S) := by
  unfold Dk_reached_35 at h
  cases h
  exact g_iret (pc := 35) dX11_reached_35 rfl rfl (Nat.le_refl _) (Nat.le_refl _)
def Dk_reached_34 (S : Sm) : Option (Int32) := (Dk_reached_35 ((-1)) S)
set_option maxRecDepth 4000 in
theorem t_Dk_reached_34 {V : Sm → Wd} (hV : VwC V) {l : Launch} {Γ : Gm}  {S : Sm} {q : Int32} (h : Dk_reached_34 S = some q) : G mX11_reached l Γ (rmD 5 0 0) (mQ Γ (some (.int q)) (V S) 0 0) 0 0 34 [none, none, none] [] (V S) := by
  unfold Dk_reached_34 at h
  refine g_iconst (v := (-1)) (pc := 34) dX11_reached_34 (by decide) ?_
  exact t_Dk_reached_35 hV h
def Dk_reached (v1 : Int32) (v2 : Int32) (S : Sm) : Option (Int32) := (if (Nt_hasMouth v1 S) = 0 then (Dk_reached_34 S) else (if (Nt_hasSet v2 S) = 0 then (Dk_reached_34 S) else ((Wy_reachedFrom v1 v2 S).bind fun q1 => (Dk_reached_35 q1 S))))
set_option maxRecDepth 4000 in
theorem r_Dk_reached {V : Sm → Wd} (hV : VwC V) {v1 : Int32} {v2 : Int32} {S : Sm} {q : Int32} (h : Dk_reached v1 v2 S = some q) : Runs 5 mX11_reached [.ref 7, .int v1, .int v2] (V S) (some (.int q)) (V S) 0 0 := by
  unfold Dk_reached at h
  refine Runs.of2 [some (.ref 7), some (.int v1), some (.int v2)] 0 rfl rfl (Nat.le_of_ble_eq_true rfl) (fun l Γ => ?_)
  refine g_aload_n (pc := 0) dX11_reached_0 rfl ?_
  refine v_getR hV (pc := 1) dX11_reached_1 fo_11_1 rfl k0_7 r0_7_1 ?_
  refine g_iload_n (pc := 4) dX11_reached_4 rfl ?_
  refine v_callVi hV (Mc := mX5_hasMouth) (v := Nt_hasMouth v1 S) (S1 := S) (As := [.int v1]) (rest := []) (q := (RX5, TX5, 3)) (pc := 5) dX11_reached_5 mK_X11_140 mf_X5_hasMouth rfl k0_10 rfl rfl rfl (Nat.le_of_ble_eq_true rfl) ⟨Nat.le_of_ble_eq_true rfl, Nat.le_of_ble_eq_true rfl⟩ (r_Nt_hasMouth hV rfl) ?_
  refine g_if_eq (tgt := 34) (pc := 8) dX11_reached_8 (by decide) (fun c3 => ?_) (fun c3 => ?_)
  · rw [if_pos c3] at h
    refine g_wk [false, false, false] rfl ?_
    exact t_Dk_reached_34 hV h
  · rw [if_neg c3] at h
    refine g_aload_n (pc := 11) dX11_reached_11 rfl ?_
    refine v_getR hV (pc := 12) dX11_reached_12 fo_11_1 rfl k0_7 r0_7_1 ?_
    refine g_iload_n (pc := 15) dX11_reached_15 rfl ?_
    refine v_callVi hV (Mc := mX5_hasSet) (v := Nt_hasSet v2 S) (S1 := S) (As := [.int v2]) (rest := []) (q := (RX5, TX5, 3)) (pc := 16) dX11_reached_16 mK_X11_236 mf_X5_hasSet rfl k0_10 rfl rfl rfl (Nat.le_of_ble_eq_true rfl) ⟨Nat.le_of_ble_eq_true rfl, Nat.le_of_ble_eq_true rfl⟩ (r_Nt_hasSet hV rfl) ?_
    refine g_if_eq (tgt := 34) (pc := 19) dX11_reached_19 (by decide) (fun c2 => ?_) (fun c2 => ?_)
    · rw [if_pos c2] at h
      refine g_wk [false, false, false] rfl ?_
      exact t_Dk_reached_34 hV h
    · rw [if_neg c2] at h
      refine g_aload_n (pc := 22) dX11_reached_22 rfl ?_
      refine v_getR hV (pc := 23) dX11_reached_23 fo_11_8 rfl k0_7 r0_7_8 ?_
      refine g_iload_n (pc := 26) dX11_reached_26 rfl ?_
      refine g_iload_n (pc := 27) dX11_reached_27 rfl ?_
      obtain ⟨q1, hq1, h⟩ := bnd h
      refine v_callVi hV (Mc := mX10_reachedFrom) (v := q1) (S1 := S) (As := [.int v1, .int v2]) (rest := []) (q := (RX10, TX10, 5)) (pc := 28) dX11_reached_28 mK_X11_255 mf_X10_reachedFrom rfl k0_37 rfl rfl rfl (Nat.le_of_ble_eq_true rfl) ⟨Nat.le_of_ble_eq_true rfl, Nat.le_of_ble_eq_true rfl⟩ (r_Wy_reachedFrom hV hq1) ?_
      refine g_goto (tgt := 35) (pc := 31) dX11_reached_31 (by decide) ?_
      refine g_wk [false, false, false] rfl ?_
      exact t_Dk_reached_35 hV h
def Jm_bitCount_0f7a4 (v0 : Int32) : Int32 := ((((((((v0 - ((iUsh v0 1) &&& 1431655765)) &&& 858993459) + ((iUsh (v0 - ((iUsh v0 1) &&& 1431655765)) 2) &&& 858993459)) + (iUsh (((v0 - ((iUsh v0 1) &&& 1431655765)) &&& 858993459) + ((iUsh (v0 - ((iUsh v0 1) &&& 1431655765)) 2) &&& 858993459)) 4)) &&& 252645135) + (iUsh (((((v0 - ((iUsh v0 1) &&& 1431655765)) &&& 858993459) + ((iUsh (v0 - ((iUsh v0 1) &&& 1431655765)) 2) &&& 858993459)) + (iUsh (((v0 - ((iUsh v0 1) &&& 1431655765)) &&& 858993459) + ((iUsh (v0 - ((iUsh v0 1) &&& 1431655765)) 2) &&& 858993459)) 4)) &&& 252645135) 8)) + (iUsh ((((((v0 - ((iUsh v0 1) &&& 1431655765)) &&& 858993459) + ((iUsh (v0 - ((iUsh v0 1) &&& 1431655765)) 2) &&& 858993459)) + (iUsh (((v0 - ((iUsh v0 1) &&& 1431655765)) &&& 858993459) + ((iUsh (v0 - ((iUsh v0 1) &&& 1431655765)) 2) &&& 858993459)) 4)) &&& 252645135) + (iUsh (((((v0 - ((iUsh v0 1) &&& 1431655765)) &&& 858993459) + ((iUsh (v0 - ((iUsh v0 1) &&& 1431655765)) 2) &&& 858993459)) + (iUsh (((v0 - ((iUsh v0 1) &&& 1431655765)) &&& 858993459) + ((iUsh (v0 - ((iUsh v0 1) &&& 1431655765)) 2) &&& 858993459)) 4)) &&& 252645135) 8)) 16)) &&& 63)
set_option maxRecDepth 4000 in
theorem r_Jm_bitCount_0f7a4 {V : Sm → Wd} {v0 : Int32} {S : Sm} {q : Int32} (h : Jm_bitCount_0f7a4 v0 = q) : Runs 0 mJ6_bitCount_0f7a4 [.int v0] (V S) (some (.int q)) (V S) 0 0 := by
  unfold Jm_bitCount_0f7a4 at h
  refine Runs.of2 [some (.int v0)] 0 rfl rfl (Nat.le_of_ble_eq_true rfl) (fun l Γ => ?_)
  refine g_iload_n (pc := 0) dJ6_bitCount_0f7a4_0 rfl ?_
  refine g_iload_n (pc := 1) dJ6_bitCount_0f7a4_1 rfl ?_
  refine g_iconst (v := 1) (pc := 2) dJ6_bitCount_0f7a4_2 (by decide) ?_
  refine g_iushr (pc := 3) dJ6_bitCount_0f7a4_3 ?_
  refine g_ldcw (v := 1431655765) (pc := 4) dJ6_bitCount_0f7a4_4 kI_J6_265 ?_
  refine g_iand (pc := 7) dJ6_bitCount_0f7a4_7 ?_
  refine g_isub (pc := 8) dJ6_bitCount_0f7a4_8 ?_
  refine g_istore_n (ls1 := [some (.int (v0 - ((iUsh v0 1) &&& 1431655765)))]) (pc := 9) dJ6_bitCount_0f7a4_9 (by decide) rfl ?_
  refine g_iload_n (pc := 10) dJ6_bitCount_0f7a4_10 rfl ?_
  refine g_ldcw (v := 858993459) (pc := 11) dJ6_bitCount_0f7a4_11 kI_J6_266 ?_
  refine g_iand (pc := 14) dJ6_bitCount_0f7a4_14 ?_
  refine g_iload_n (pc := 15) dJ6_bitCount_0f7a4_15 rfl ?_
  refine g_iconst (v := 2) (pc := 16) dJ6_bitCount_0f7a4_16 (by decide) ?_
  refine g_iushr (pc := 17) dJ6_bitCount_0f7a4_17 ?_
  refine g_ldcw (v := 858993459) (pc := 18) dJ6_bitCount_0f7a4_18 kI_J6_266 ?_
  refine g_iand (pc := 21) dJ6_bitCount_0f7a4_21 ?_
  refine g_iadd (pc := 22) dJ6_bitCount_0f7a4_22 ?_
  refine g_istore_n (ls1 := [some (.int (((v0 - ((iUsh v0 1) &&& 1431655765)) &&& 858993459) + ((iUsh (v0 - ((iUsh v0 1) &&& 1431655765)) 2) &&& 858993459)))]) (pc := 23) dJ6_bitCount_0f7a4_23 (by decide) rfl ?_
  refine g_iload_n (pc := 24) dJ6_bitCount_0f7a4_24 rfl ?_
  refine g_iload_n (pc := 25) dJ6_bitCount_0f7a4_25 rfl ?_
  refine g_iconst (v := 4) (pc := 26) dJ6_bitCount_0f7a4_26 (by decide) ?_
  refine g_iushr (pc := 27) dJ6_bitCount_0f7a4_27 ?_
  refine g_iadd (pc := 28) dJ6_bitCount_0f7a4_28 ?_
  refine g_ldcw (v := 252645135) (pc := 29) dJ6_bitCount_0f7a4_29 kI_J6_267 ?_
  refine g_iand (pc := 32) dJ6_bitCount_0f7a4_32 ?_
  refine g_istore_n (ls1 := [some (.int (((((v0 - ((iUsh v0 1) &&& 1431655765)) &&& 858993459) + ((iUsh (v0 - ((iUsh v0 1) &&& 1431655765)) 2) &&& 858993459)) + (iUsh (((v0 - ((iUsh v0 1) &&& 1431655765)) &&& 858993459) + ((iUsh (v0 - ((iUsh v0 1) &&& 1431655765)) 2) &&& 858993459)) 4)) &&& 252645135))]) (pc := 33) dJ6_bitCount_0f7a4_33 (by decide) rfl ?_
  refine g_iload_n (pc := 34) dJ6_bitCount_0f7a4_34 rfl ?_
  refine g_iload_n (pc := 35) dJ6_bitCount_0f7a4_35 rfl ?_
  refine g_bipush (v := 8) (pc := 36) dJ6_bitCount_0f7a4_36 (by decide) ?_
  refine g_iushr (pc := 38) dJ6_bitCount_0f7a4_38 ?_
  refine g_iadd (pc := 39) dJ6_bitCount_0f7a4_39 ?_
  refine g_istore_n (ls1 := [some (.int ((((((v0 - ((iUsh v0 1) &&& 1431655765)) &&& 858993459) + ((iUsh (v0 - ((iUsh v0 1) &&& 1431655765)) 2) &&& 858993459)) + (iUsh (((v0 - ((iUsh v0 1) &&& 1431655765)) &&& 858993459) + ((iUsh (v0 - ((iUsh v0 1) &&& 1431655765)) 2) &&& 858993459)) 4)) &&& 252645135) + (iUsh (((((v0 - ((iUsh v0 1) &&& 1431655765)) &&& 858993459) + ((iUsh (v0 - ((iUsh v0 1) &&& 1431655765)) 2) &&& 858993459)) + (iUsh (((v0 - ((iUsh v0 1) &&& 1431655765)) &&& 858993459) + ((iUsh (v0 - ((iUsh v0 1) &&& 1431655765)) 2) &&& 858993459)) 4)) &&& 252645135) 8)))]) (pc := 40) dJ6_bitCount_0f7a4_40 (by decide) rfl ?_
  refine g_iload_n (pc := 41) dJ6_bitCount_0f7a4_41 rfl ?_
  refine g_iload_n (pc := 42) dJ6_bitCount_0f7a4_42 rfl ?_
  refine g_bipush (v := 16) (pc := 43) dJ6_bitCount_0f7a4_43 (by decide) ?_
  refine g_iushr (pc := 45) dJ6_bitCount_0f7a4_45 ?_
  refine g_iadd (pc := 46) dJ6_bitCount_0f7a4_46 ?_
  refine g_istore_n (ls1 := [some (.int (((((((v0 - ((iUsh v0 1) &&& 1431655765)) &&& 858993459) + ((iUsh (v0 - ((iUsh v0 1) &&& 1431655765)) 2) &&& 858993459)) + (iUsh (((v0 - ((iUsh v0 1) &&& 1431655765)) &&& 858993459) + ((iUsh (v0 - ((iUsh v0 1) &&& 1431655765)) 2) &&& 858993459)) 4)) &&& 252645135) + (iUsh (((((v0 - ((iUsh v0 1) &&& 1431655765)) &&& 858993459) + ((iUsh (v0 - ((iUsh v0 1) &&& 1431655765)) 2) &&& 858993459)) + (iUsh (((v0 - ((iUsh v0 1) &&& 1431655765)) &&& 858993459) + ((iUsh (v0 - ((iUsh v0 1) &&& 1431655765)) 2) &&& 858993459)) 4)) &&& 252645135) 8)) + (iUsh ((((((v0 - ((iUsh v0 1) &&& 1431655765)) &&& 858993459) + ((iUsh (v0 - ((iUsh v0 1) &&& 1431655765)) 2) &&& 858993459)) + (iUsh (((v0 - ((iUsh v0 1) &&& 1431655765)) &&& 858993459) + ((iUsh (v0 - ((iUsh v0 1) &&& 1431655765)) 2) &&& 858993459)) 4)) &&& 252645135) + (iUsh (((((v0 - ((iUsh v0 1) &&& 1431655765)) &&& 858993459) + ((iUsh (v0 - ((iUsh v0 1) &&& 1431655765)) 2) &&& 858993459)) + (iUsh (((v0 - ((iUsh v0 1) &&& 1431655765)) &&& 858993459) + ((iUsh (v0 - ((iUsh v0 1) &&& 1431655765)) 2) &&& 858993459)) 4)) &&& 252645135) 8)) 16)))]) (pc := 47) dJ6_bitCount_0f7a4_47 (by decide) rfl ?_
  refine g_iload_n (pc := 48) dJ6_bitCount_0f7a4_48 rfl ?_
  refine g_bipush (v := 63) (pc := 49) dJ6_bitCount_0f7a4_49 (by decide) ?_
  refine g_iand (pc := 51) dJ6_bitCount_0f7a4_51 ?_
  subst h
  exact g_iret (pc := 52) dJ6_bitCount_0f7a4_52 rfl rfl (Nat.le_refl _) (Nat.le_refl _)
def hd_Wy_joinsAll_L14 (V : Sm → Wd) (l : Launch) (Γ : Gm) (rF : Option Value) (wF : Wd) (v1 : Int32) (v2 : Int32) (S : Sm) (q : Int32) : Prop := G mX10_joinsAll l Γ (rmD 5 0 0) (mQ Γ rF wF 0 0) 0 0 14 [some (.ref 37), some (.int v1), some (.int v2), some (.int q)] [] (V S)
def ps_Wy_joinsAll_L14 (V : Sm → Wd) (l : Launch) (Γ : Gm) (rF : Option Value) (wF : Wd) (v1 : Int32) (v2 : Int32) (S : Sm) (x : (Unit) ⊕ (Unit)) : Prop := (Sum.elim (fun (a : Unit) => G mX10_joinsAll l Γ (rmD 5 0 0) (mQ Γ rF wF 0 0) 0 0 35 [none, none, none, none] [] (V S)) (fun (a : Unit) => G mX10_joinsAll l Γ (rmD 5 0 0) (mQ Γ rF wF 0 0) 0 0 43 [none, none, none, none] [] (V S))) x
def Wy_joinsAll_L14 (v1 : Int32) (v2 : Int32) (S : Sm) (q : Int32) : Option ((Int32) ⊕ ((Unit) ⊕ (Unit))) := (if (Nt_mouths S) ≤ q then (some (.inr (.inr ()))) else ((Wy_reachedFrom q v1 S).bind fun q1 => (if q1 = v2 then (some (.inl (q + 1))) else (some (.inr (.inl ()))))))
set_option maxRecDepth 4000 in
theorem t_Wy_joinsAll_L14 {V : Sm → Wd} (hV : VwC V) {l : Launch} {Γ : Gm} {rF : Option Value} {wF : Wd} {v1 : Int32} {v2 : Int32} {S : Sm} {q : Int32} {o : (Int32) ⊕ ((Unit) ⊕ (Unit))} (h : Wy_joinsAll_L14 v1 v2 S q = some o) (hK : Sum.elim (hd_Wy_joinsAll_L14 V l Γ rF wF v1 v2 S) (ps_Wy_joinsAll_L14 V l Γ rF wF v1 v2 S) o) : hd_Wy_joinsAll_L14 V l Γ rF wF v1 v2 S q := by
  unfold Wy_joinsAll_L14 at h
  unfold hd_Wy_joinsAll_L14
  refine g_iload_n (pc := 14) dX10_joinsAll_14 rfl ?_
  refine g_aload_n (pc := 15) dX10_joinsAll_15 rfl ?_
  refine v_getR hV (pc := 16) dX10_joinsAll_16 fo_10_0 rfl k0_37 r0_37_0 ?_
  refine v_callVi hV (Mc := mX5_mouths) (v := Nt_mouths S) (S1 := S) (As := []) (rest := [.int q]) (q := (RX5, TX5, 3)) (pc := 19) dX10_joinsAll_19 mK_X10_89 mf_X5_mouths rfl k0_10 rfl rfl rfl (Nat.le_of_ble_eq_true rfl) ⟨Nat.le_of_ble_eq_true rfl, Nat.le_of_ble_eq_true rfl⟩ (r_Nt_mouths hV rfl) ?_
  refine g_icmp_ge (tgt := 43) (pc := 22) dX10_joinsAll_22 (by decide) (fun c3 => ?_) (fun c3 => ?_)
  · rw [if_pos c3] at h
    refine g_wk [false, false, false, false] rfl ?_
    cases h
    exact hK
  · rw [if_neg c3] at h
    refine g_aload_n (pc := 25) dX10_joinsAll_25 rfl ?_
    refine g_iload_n (pc := 26) dX10_joinsAll_26 rfl ?_
    refine g_iload_n (pc := 27) dX10_joinsAll_27 rfl ?_
    obtain ⟨q1, hq1, h⟩ := bnd h
    refine v_callVi hV (Mc := mX10_reachedFrom) (v := q1) (S1 := S) (As := [.int q, .int v1]) (rest := []) (q := (RX10, TX10, 5)) (pc := 28) dX10_joinsAll_28 mK_X10_104 mf_X10_reachedFrom rfl k0_37 rfl rfl rfl (Nat.le_of_ble_eq_true rfl) ⟨Nat.le_of_ble_eq_true rfl, Nat.le_of_ble_eq_true rfl⟩ (r_Wy_reachedFrom hV hq1) ?_
    refine g_iload_n (pc := 31) dX10_joinsAll_31 rfl ?_
    refine g_icmp_eq (tgt := 37) (pc := 32) dX10_joinsAll_32 (by decide) (fun c2 => ?_) (fun c2 => ?_)
    · rw [if_pos c2] at h
      refine g_iinc (v := q + 1) (ls1 := [some (.ref 37), some (.int v1), some (.int v2), some (.int (q + 1))]) (pc := 37) dX10_joinsAll_37 rfl rfl (by decide) rfl ?_
      refine g_goto (tgt := 14) (pc := 40) dX10_joinsAll_40 (by decide) ?_
      cases h
      exact hK
    · rw [if_neg c2] at h
      refine g_wk [false, false, false, false] rfl ?_
      cases h
      exact hK
set_option maxRecDepth 4000 in
theorem w_Wy_joinsAll_L14 {V : Sm → Wd} (hV : VwC V) {l : Launch} {Γ : Gm} {rF : Option Value} {wF : Wd} {v1 : Int32} {v2 : Int32} {S : Sm} {k : Nat} {q : Int32} {o : (Unit) ⊕ (Unit)} (h : lpN (Wy_joinsAll_L14 v1 v2 S) k q = some o) (hP : ps_Wy_joinsAll_L14 V l Γ rF wF v1 v2 S o) : hd_Wy_joinsAll_L14 V l Γ rF wF v1 v2 S q := lpN_ind2 (hd_Wy_joinsAll_L14 V l Γ rF wF v1 v2 S) (ps_Wy_joinsAll_L14 V l Γ rF wF v1 v2 S) (fun s o h hK => t_Wy_joinsAll_L14 hV h hK) k q o h hP
def Wy_joinsAll (v1 : Int32) (S : Sm) : Option (Int32) := ((lpN (Wy_joinsAll_L14 v1 ((iShl 1 (Nt_mouths S)) - 1) S) FU 0).bind fun q4 => (Sum.elim (fun a5 => (some 0)) (fun a6 => (some 1)) q4))
set_option maxRecDepth 4000 in
theorem r_Wy_joinsAll {V : Sm → Wd} (hV : VwC V) {v1 : Int32} {S : Sm} {q : Int32} (h : Wy_joinsAll v1 S = some q) : Runs 5 mX10_joinsAll [.ref 37, .int v1] (V S) (some (.int q)) (V S) 0 0 := by
  unfold Wy_joinsAll at h
  refine Runs.of2 [some (.ref 37), some (.int v1), none, none] 2 rfl rfl (Nat.le_of_ble_eq_true rfl) (fun l Γ => ?_)
  refine g_iconst (v := 1) (pc := 0) dX10_joinsAll_0 (by decide) ?_
  refine g_aload_n (pc := 1) dX10_joinsAll_1 rfl ?_
  refine v_getR hV (pc := 2) dX10_joinsAll_2 fo_10_0 rfl k0_37 r0_37_0 ?_
  refine v_callVi hV (Mc := mX5_mouths) (v := Nt_mouths S) (S1 := S) (As := []) (rest := [.int 1]) (q := (RX5, TX5, 3)) (pc := 5) dX10_joinsAll_5 mK_X10_89 mf_X5_mouths rfl k0_10 rfl rfl rfl (Nat.le_of_ble_eq_true rfl) ⟨Nat.le_of_ble_eq_true rfl, Nat.le_of_ble_eq_true rfl⟩ (r_Nt_mouths hV rfl) ?_
  refine g_ishl (pc := 8) dX10_joinsAll_8 ?_
  refine g_iconst (v := 1) (pc := 9) dX10_joinsAll_9 (by decide) ?_
  refine g_isub (pc := 10) dX10_joinsAll_10 ?_
  refine g_istore_n (ls1 := [some (.ref 37), some (.int v1), some (.int ((iShl 1 (Nt_mouths S)) - 1)), none]) (pc := 11) dX10_joinsAll_11 (by decide) rfl ?_
  refine g_iconst (v := 0) (pc := 12) dX10_joinsAll_12 (by decide) ?_
  refine g_istore_n (ls1 := [some (.ref 37), some (.int v1), some (.int ((iShl 1 (Nt_mouths S)) - 1)), some (.int 0)]) (pc := 13) dX10_joinsAll_13 (by decide) rfl ?_
  obtain ⟨q4, hqq4, h⟩ := bnd h
  refine w_Wy_joinsAll_L14 hV hqq4 ?_
  unfold ps_Wy_joinsAll_L14
  cases q4 with
  | inl a5 =>
    simp only [Sum.elim_inl] at h
    show G _ _ _ _ _ _ _ _ _ _ _
    refine g_iconst (v := 0) (pc := 35) dX10_joinsAll_35 (by decide) ?_
    cases h
    exact g_iret (u := 0) (pc := 36) dX10_joinsAll_36 rfl (by decide) (Nat.le_refl _) (Nat.le_refl _)
  | inr a6 =>
    simp only [Sum.elim_inr] at h
    show G _ _ _ _ _ _ _ _ _ _ _
    refine g_iconst (v := 1) (pc := 43) dX10_joinsAll_43 (by decide) ?_
    cases h
    exact g_iret (u := 1) (pc := 44) dX10_joinsAll_44 rfl (by decide) (Nat.le_refl _) (Nat.le_refl _)
def hd_Wy_fewestLamps_L2 (V : Sm → Wd) (l : Launch) (Γ : Gm) (rF : Option Value) (wF : Wd) (S : Sm) (q : Int32) : Prop := G mX10_fewestLamps l Γ (rmD 6 0 0) (mQ Γ rF wF 0 0) 0 0 2 [some (.ref 37), some (.int q), none] [] (V S)
def ps_Wy_fewestLamps_L2 (V : Sm → Wd) (l : Launch) (Γ : Gm) (rF : Option Value) (wF : Wd) (S : Sm) (x : (Int32) ⊕ (Unit)) : Prop := (Sum.elim (fun (a : Int32) => G mX10_fewestLamps l Γ (rmD 6 0 0) (mQ Γ rF wF 0 0) 0 0 42 [none, none, some (.int a)] [] (V S)) (fun (a : Unit) => G mX10_fewestLamps l Γ (rmD 6 0 0) (mQ Γ rF wF 0 0) 0 0 56 [none, none, none] [] (V S))) x
def hd_Wy_fewestLamps_L15 (V : Sm → Wd) (l : Launch) (Γ : Gm) (rF : Option Value) (wF : Wd) (v1 : Int32) (S : Sm) (q : Int32) : Prop := G mX10_fewestLamps l Γ (rmD 6 0 0) (mQ Γ rF wF 0 0) 0 0 15 [some (.ref 37), some (.int v1), some (.int q)] [] (V S)
def ps_Wy_fewestLamps_L15 (V : Sm → Wd) (l : Launch) (Γ : Gm) (rF : Option Value) (wF : Wd) (v1 : Int32) (S : Sm) (x : (Int32) ⊕ (Unit)) : Prop := (Sum.elim (fun (a : Int32) => G mX10_fewestLamps l Γ (rmD 6 0 0) (mQ Γ rF wF 0 0) 0 0 42 [none, none, some (.int a)] [] (V S)) (fun (a : Unit) => G mX10_fewestLamps l Γ (rmD 6 0 0) (mQ Γ rF wF 0 0) 0 0 50 [some (.ref 37), some (.int v1), none] [] (V S))) x
def Wy_fewestLamps_44_L15 (v1 : Int32) (v2 : Int32) (S : Sm) : Option ((Int32) ⊕ ((Int32) ⊕ (Unit))) := (some (.inl (v2 + 1)))
set_option maxRecDepth 4000 in
theorem t_Wy_fewestLamps_44_L15 {V : Sm → Wd} (hV : VwC V) {l : Launch} {Γ : Gm} {v1 : Int32} {v2 : Int32} {rF : Option Value} {wF : Wd} {S : Sm} {o : (Int32) ⊕ ((Int32) ⊕ (Unit))} (h : Wy_fewestLamps_44_L15 v1 v2 S = some o) (hK : Sum.elim (hd_Wy_fewestLamps_L15 V l Γ rF wF v1 S) (ps_Wy_fewestLamps_L15 V l Γ rF wF v1 S) o) : G mX10_fewestLamps l Γ (rmD 6 0 0) (mQ Γ rF wF 0 0) 0 0 44 [some (.ref 37), some (.int v1), some (.int v2)] [] (V S) := by
  unfold Wy_fewestLamps_44_L15 at h
  refine g_iinc (v := v2 + 1) (ls1 := [some (.ref 37), some (.int v1), some (.int (v2 + 1))]) (pc := 44) dX10_fewestLamps_44 rfl rfl (by decide) rfl ?_
  refine g_goto (tgt := 15) (pc := 47) dX10_fewestLamps_47 (by decide) ?_
  cases h
  exact hK
def Wy_fewestLamps_L15 (v1 : Int32) (S : Sm) (q : Int32) : Option ((Int32) ⊕ ((Int32) ⊕ (Unit))) := (if (Nt_allColours S) < q then (some (.inr (.inr ()))) else (if (Jm_bitCount_0f7a4 q) = v1 then ((Wy_joinsAll q S).bind fun q1 => (if q1 = 0 then (Wy_fewestLamps_44_L15 v1 q S) else (some (.inr (.inl q))))) else (Wy_fewestLamps_44_L15 v1 q S)))
set_option maxRecDepth 4000 in
theorem t_Wy_fewestLamps_L15 {V : Sm → Wd} (hV : VwC V) {l : Launch} {Γ : Gm} {rF : Option Value} {wF : Wd} {v1 : Int32} {S : Sm} {q : Int32} {o : (Int32) ⊕ ((Int32) ⊕ (Unit))} (h : Wy_fewestLamps_L15 v1 S q = some o) (hK : Sum.elim (hd_Wy_fewestLamps_L15 V l Γ rF wF v1 S) (ps_Wy_fewestLamps_L15 V l Γ rF wF v1 S) o) : hd_Wy_fewestLamps_L15 V l Γ rF wF v1 S q := by
  unfold Wy_fewestLamps_L15 at h
  unfold hd_Wy_fewestLamps_L15
  refine g_iload_n (pc := 15) dX10_fewestLamps_15 rfl ?_
  refine g_aload_n (pc := 16) dX10_fewestLamps_16 rfl ?_
  refine v_getR hV (pc := 17) dX10_fewestLamps_17 fo_10_0 rfl k0_37 r0_37_0 ?_
  refine v_callVi hV (Mc := mX5_allColours) (v := Nt_allColours S) (S1 := S) (As := []) (rest := [.int q]) (q := (RX5, TX5, 3)) (pc := 20) dX10_fewestLamps_20 mK_X10_92 mf_X5_allColours rfl k0_10 rfl rfl rfl (Nat.le_of_ble_eq_true rfl) ⟨Nat.le_of_ble_eq_true rfl, Nat.le_of_ble_eq_true rfl⟩ (r_Nt_allColours hV rfl) ?_
  refine g_icmp_gt (tgt := 50) (pc := 23) dX10_fewestLamps_23 (by decide) (fun c4 => ?_) (fun c4 => ?_)
  · rw [if_pos c4] at h
    refine g_wk [true, true, false] rfl ?_
    cases h
    exact hK
  · rw [if_neg c4] at h
    refine g_iload_n (pc := 26) dX10_fewestLamps_26 rfl ?_
    refine v_callSi (Mc := mJ6_bitCount_0f7a4) (v := Jm_bitCount_0f7a4 q) (S1 := S) (As := [.int q]) (rest := []) (pc := 27) dX10_fewestLamps_27 mK_X10_95 mf_J6_bitCount_0f7a4 rfl rfl (Nat.le_of_ble_eq_true rfl) ⟨Nat.le_of_ble_eq_true rfl, Nat.le_of_ble_eq_true rfl⟩ (r_Jm_bitCount_0f7a4 rfl) ?_
    refine g_iload_n (pc := 30) dX10_fewestLamps_30 rfl ?_
    refine g_icmp_ne (tgt := 44) (pc := 31) dX10_fewestLamps_31 (by decide) (fun c3 => ?_) (fun c3 => ?_)
    · rw [if_neg c3] at h
      exact t_Wy_fewestLamps_44_L15 hV h hK
    · rw [if_pos c3] at h
      refine g_aload_n (pc := 34) dX10_fewestLamps_34 rfl ?_
      refine g_iload_n (pc := 35) dX10_fewestLamps_35 rfl ?_
      obtain ⟨q1, hq1, h⟩ := bnd h
      refine v_callVi hV (Mc := mX10_joinsAll) (v := q1) (S1 := S) (As := [.int q]) (rest := []) (q := (RX10, TX10, 5)) (pc := 36) dX10_fewestLamps_36 mK_X10_100 mf_X10_joinsAll rfl k0_37 rfl rfl rfl (Nat.le_of_ble_eq_true rfl) ⟨Nat.le_of_ble_eq_true rfl, Nat.le_of_ble_eq_true rfl⟩ (r_Wy_joinsAll hV hq1) ?_
      refine g_if_eq (tgt := 44) (pc := 39) dX10_fewestLamps_39 (by decide) (fun c2 => ?_) (fun c2 => ?_)
      · rw [if_pos c2] at h
        exact t_Wy_fewestLamps_44_L15 hV h hK
      · rw [if_neg c2] at h
        refine g_wk [false, false, true] rfl ?_
        cases h
        exact hK
set_option maxRecDepth 4000 in
theorem w_Wy_fewestLamps_L15 {V : Sm → Wd} (hV : VwC V) {l : Launch} {Γ : Gm} {rF : Option Value} {wF : Wd} {v1 : Int32} {S : Sm} {k : Nat} {q : Int32} {o : (Int32) ⊕ (Unit)} (h : lpN (Wy_fewestLamps_L15 v1 S) k q = some o) (hP : ps_Wy_fewestLamps_L15 V l Γ rF wF v1 S o) : hd_Wy_fewestLamps_L15 V l Γ rF wF v1 S q := lpN_ind2 (hd_Wy_fewestLamps_L15 V l Γ rF wF v1 S) (ps_Wy_fewestLamps_L15 V l Γ rF wF v1 S) (fun s o h hK => t_Wy_fewestLamps_L15 hV h hK) k q o h hP
def Wy_fewestLamps_L2 (S : Sm) (q : Int32) : Option ((Int32) ⊕ ((Int32) ⊕ (Unit))) := (if (Nt_colours S) < q then (some (.inr (.inr ()))) else ((lpN (Wy_fewestLamps_L15 q S) FU 0).bind fun q5 => (Sum.elim (fun a6 => (some (.inr (.inl a6)))) (fun a7 => (some (.inl (q + 1)))) q5)))
set_option maxRecDepth 4000 in
theorem t_Wy_fewestLamps_L2 {V : Sm → Wd} (hV : VwC V) {l : Launch} {Γ : Gm} {rF : Option Value} {wF : Wd} {S : Sm} {q : Int32} {o : (Int32) ⊕ ((Int32) ⊕ (Unit))} (h : Wy_fewestLamps_L2 S q = some o) (hK : Sum.elim (hd_Wy_fewestLamps_L2 V l Γ rF wF S) (ps_Wy_fewestLamps_L2 V l Γ rF wF S) o) : hd_Wy_fewestLamps_L2 V l Γ rF wF S q := by
  unfold Wy_fewestLamps_L2 at h
  unfold hd_Wy_fewestLamps_L2
  refine g_iload_n (pc := 2) dX10_fewestLamps_2 rfl ?_
  refine g_aload_n (pc := 3) dX10_fewestLamps_3 rfl ?_
  refine v_getR hV (pc := 4) dX10_fewestLamps_4 fo_10_0 rfl k0_37 r0_37_0 ?_
  refine v_callVi hV (Mc := mX5_colours) (v := Nt_colours S) (S1 := S) (As := []) (rest := [.int q]) (q := (RX5, TX5, 3)) (pc := 7) dX10_fewestLamps_7 mK_X10_80 mf_X5_colours rfl k0_10 rfl rfl rfl (Nat.le_of_ble_eq_true rfl) ⟨Nat.le_of_ble_eq_true rfl, Nat.le_of_ble_eq_true rfl⟩ (r_Nt_colours hV rfl) ?_
  refine g_icmp_gt (tgt := 56) (pc := 10) dX10_fewestLamps_10 (by decide) (fun c8 => ?_) (fun c8 => ?_)
  · rw [if_pos c8] at h
    refine g_wk [false, false, false] rfl ?_
    cases h
    exact hK
  · rw [if_neg c8] at h
    refine g_iconst (v := 0) (pc := 13) dX10_fewestLamps_13 (by decide) ?_
    refine g_istore_n (ls1 := [some (.ref 37), some (.int q), some (.int 0)]) (pc := 14) dX10_fewestLamps_14 (by decide) rfl ?_
    obtain ⟨q5, hqq5, h⟩ := bnd h
    refine w_Wy_fewestLamps_L15 hV hqq5 ?_
    unfold ps_Wy_fewestLamps_L15
    cases q5 with
    | inl a6 =>
      simp only [Sum.elim_inl] at h
      show G _ _ _ _ _ _ _ _ _ _ _
      cases h
      exact hK
    | inr a7 =>
      simp only [Sum.elim_inr] at h
      show G _ _ _ _ _ _ _ _ _ _ _
      refine g_iinc (v := q + 1) (ls1 := [some (.ref 37), some (.int (q + 1)), none]) (pc := 50) dX10_fewestLamps_50 rfl rfl (by decide) rfl ?_
      refine g_goto (tgt := 2) (pc := 53) dX10_fewestLamps_53 (by decide) ?_
      cases h
      exact hK
set_option maxRecDepth 4000 in
theorem w_Wy_fewestLamps_L2 {V : Sm → Wd} (hV : VwC V) {l : Launch} {Γ : Gm} {rF : Option Value} {wF : Wd} {S : Sm} {k : Nat} {q : Int32} {o : (Int32) ⊕ (Unit)} (h : lpN (Wy_fewestLamps_L2 S) k q = some o) (hP : ps_Wy_fewestLamps_L2 V l Γ rF wF S o) : hd_Wy_fewestLamps_L2 V l Γ rF wF S q := lpN_ind2 (hd_Wy_fewestLamps_L2 V l Γ rF wF S) (ps_Wy_fewestLamps_L2 V l Γ rF wF S) (fun s o h hK => t_Wy_fewestLamps_L2 hV h hK) k q o h hP
def Wy_fewestLamps (S : Sm) : Option (Int32) := ((lpN (Wy_fewestLamps_L2 S) FU 0).bind fun q9 => (Sum.elim (fun a10 => (some a10)) (fun a11 => (some ((-1)))) q9))
set_option maxRecDepth 4000 in
theorem r_Wy_fewestLamps {V : Sm → Wd} (hV : VwC V)  {S : Sm} {q : Int32} (h : Wy_fewestLamps S = some q) : Runs 6 mX10_fewestLamps [.ref 37] (V S) (some (.int q)) (V S) 0 0 := by
  unfold Wy_fewestLamps at h
  refine Runs.of2 [some (.ref 37), none, none] 2 rfl rfl (Nat.le_of_ble_eq_true rfl) (fun l Γ => ?_)
  refine g_iconst (v := 0) (pc := 0) dX10_fewestLamps_0 (by decide) ?_
  refine g_istore_n (ls1 := [some (.ref 37), some (.int 0), none]) (pc := 1) dX10_fewestLamps_1 (by decide) rfl ?_
  obtain ⟨q9, hqq9, h⟩ := bnd h
  refine w_Wy_fewestLamps_L2 hV hqq9 ?_
  unfold ps_Wy_fewestLamps_L2
  cases q9 with
  | inl a10 =>
    simp only [Sum.elim_inl] at h
    show G _ _ _ _ _ _ _ _ _ _ _
    refine g_iload_n (pc := 42) dX10_fewestLamps_42 rfl ?_
    cases h
    exact g_iret (pc := 43) dX10_fewestLamps_43 rfl rfl (Nat.le_refl _) (Nat.le_refl _)
  | inr a11 =>
    simp only [Sum.elim_inr] at h
    show G _ _ _ _ _ _ _ _ _ _ _
    refine g_iconst (v := (-1)) (pc := 56) dX10_fewestLamps_56 (by decide) ?_
    cases h
    exact g_iret (pc := 57) dX10_fewestLamps_57 rfl rfl (Nat.le_refl _) (Nat.le_refl _)
def Dk_lamps_21 (s0 : Int32) (S : Sm) : Option (Int32) := (some s0)
set_option maxRecDepth 4000 in
theorem t_Dk_lamps_21 {V : Sm → Wd} (hV : VwC V) {l : Launch} {Γ : Gm} {s0 : Int32} {S : Sm} {q : Int32} (h : Dk_lamps_21 s0 S = some q) : G mX11_lamps l Γ (rmD 7 0 0) (mQ Γ (some (.int q)) (V S) 0 0) 0 0 21 [none] [.int s0] (V S) := by
  unfold Dk_lamps_21 at h
  cases h
  exact g_iret (pc := 21) dX11_lamps_21 rfl rfl (Nat.le_refl _) (Nat.le_refl _)
def Dk_lamps (S : Sm) : Option (Int32) := (if (Nt_isTold S) = 0 then (Dk_lamps_21 ((-1)) S) else ((Wy_fewestLamps S).bind fun q1 => (Dk_lamps_21 q1 S)))
set_option maxRecDepth 4000 in
theorem r_Dk_lamps {V : Sm → Wd} (hV : VwC V)  {S : Sm} {q : Int32} (h : Dk_lamps S = some q) : Runs 7 mX11_lamps [.ref 7] (V S) (some (.int q)) (V S) 0 0 := by
  unfold Dk_lamps at h
  refine Runs.of2 [some (.ref 7)] 0 rfl rfl (Nat.le_of_ble_eq_true rfl) (fun l Γ => ?_)
  refine g_aload_n (pc := 0) dX11_lamps_0 rfl ?_
  refine v_getR hV (pc := 1) dX11_lamps_1 fo_11_1 rfl k0_7 r0_7_1 ?_
  refine v_callVi hV (Mc := mX5_isTold) (v := Nt_isTold S) (S1 := S) (As := []) (rest := []) (q := (RX5, TX5, 3)) (pc := 4) dX11_lamps_4 mK_X11_258 mf_X5_isTold rfl k0_10 rfl rfl rfl (Nat.le_of_ble_eq_true rfl) ⟨Nat.le_of_ble_eq_true rfl, Nat.le_of_ble_eq_true rfl⟩ (r_Nt_isTold hV rfl) ?_
  refine g_if_eq (tgt := 20) (pc := 7) dX11_lamps_7 (by decide) (fun c2 => ?_) (fun c2 => ?_)
  · rw [if_pos c2] at h
    refine g_iconst (v := (-1)) (pc := 20) dX11_lamps_20 (by decide) ?_
    refine g_wk [false] rfl ?_
    exact t_Dk_lamps_21 hV h
  · rw [if_neg c2] at h
    refine g_aload_n (pc := 10) dX11_lamps_10 rfl ?_
    refine v_getR hV (pc := 11) dX11_lamps_11 fo_11_8 rfl k0_7 r0_7_8 ?_
    obtain ⟨q1, hq1, h⟩ := bnd h
    refine v_callVi hV (Mc := mX10_fewestLamps) (v := q1) (S1 := S) (As := []) (rest := []) (q := (RX10, TX10, 5)) (pc := 14) dX11_lamps_14 mK_X11_261 mf_X10_fewestLamps rfl k0_37 rfl rfl rfl (Nat.le_of_ble_eq_true rfl) ⟨Nat.le_of_ble_eq_true rfl, Nat.le_of_ble_eq_true rfl⟩ (r_Wy_fewestLamps hV hq1) ?_
    refine g_goto (tgt := 21) (pc := 17) dX11_lamps_17 (by decide) ?_
    refine g_wk [false] rfl ?_
    exact t_Dk_lamps_21 hV h
def Pl_trains (S : Sm) : Int32 := (Nt_many 2 S)
set_option maxRecDepth 4000 in
theorem r_Pl_trains {V : Sm → Wd} (hV : VwC V)  {S : Sm} {q : Int32} (h : Pl_trains S = q) : Runs 2 mX7_trains [.ref 47] (V S) (some (.int q)) (V S) 0 0 := by
  unfold Pl_trains at h
  refine Runs.of2 [some (.ref 47)] 0 rfl rfl (Nat.le_of_ble_eq_true rfl) (fun l Γ => ?_)
  refine g_aload_n (pc := 0) dX7_trains_0 rfl ?_
  refine v_getR hV (pc := 1) dX7_trains_1 fo_7_0 rfl k0_47 r0_47_0 ?_
  refine g_iconst (v := 2) (pc := 4) dX7_trains_4 (by decide) ?_
  refine v_callVi hV (Mc := mX5_many) (v := Nt_many 2 S) (S1 := S) (As := [.int 2]) (rest := []) (q := (RX5, TX5, 3)) (pc := 5) dX7_trains_5 mK_X7_44 mf_X5_many rfl k0_10 rfl rfl rfl (Nat.le_of_ble_eq_true rfl) ⟨Nat.le_of_ble_eq_true rfl, Nat.le_of_ble_eq_true rfl⟩ (r_Nt_many hV rfl) ?_
  subst h
  exact g_iret (pc := 8) dX7_trains_8 rfl rfl (Nat.le_refl _) (Nat.le_refl _)
def hd_Pl_followTrain_L56 (V : Sm → Wd) (l : Launch) (Γ : Gm) (rF : Option Value) (wF : Wd) (v1 : Int32) (v3 : Int32) (v4 : Int32) (v5 : Int32) (q : Int32 × Int32 × Int32 × Sm) : Prop := G mX7_followTrain l Γ (rmD 3 0 0) (mQ Γ rF wF 0 0) 0 0 56 [some (.ref 47), some (.int v1), some (.int q.1), some (.int v3), some (.int v4), some (.int v5), some (.int q.2.1), some (.int q.2.2.1), none, none] [] (V q.2.2.2)
def ps_Pl_followTrain_L56 (V : Sm → Wd) (l : Launch) (Γ : Gm) (rF : Option Value) (wF : Wd) (v1 : Int32) (v3 : Int32) (v4 : Int32) (v5 : Int32) (x : Sm) : Prop := (fun (a : Sm) => G mX7_followTrain l Γ (rmD 3 0 0) (mQ Γ rF wF 0 0) 0 0 159 [some (.ref 47), some (.int v1), none, none, none, some (.int v5), none, none, none, none] [] (V a)) x
def Pl_followTrain_L56 (v1 : Int32) (v3 : Int32) (v4 : Int32) (v5 : Int32) (q : Int32 × Int32 × Int32 × Sm) : Option ((Int32 × Int32 × Int32 × Sm) ⊕ (Sm)) := (if v5 ≤ q.2.2.1 then (some (.inr q.2.2.2)) else ((Dk_faded v3 q.2.1 (Nt_fade q.2.2.2)).bind fun q1 => (app (puF q.2.2.2 49 18 ((v1 * 3) + q.2.2.1) (v4 + (q.2.1 + (Wy_takes q.1 q1 q.2.2.2)))) fun S2 => ((Dk_faded v3 (q.2.1 + (Wy_takes q.1 q1 q.2.2.2)) (Nt_fade S2)).bind fun q3 => (app (puF S2 50 18 ((v1 * 3) + q.2.2.1) (((Wy_leadsTo q.1 q1 q.2.2.2) * 6) + q3)) fun S4 => (some (.inl (Wy_leadsTo q.1 q1 q.2.2.2, q.2.1 + (Wy_takes q.1 q1 q.2.2.2), q.2.2.1 + 1, S4))))))))
set_option maxRecDepth 4000 in
theorem t_Pl_followTrain_L56 {V : Sm → Wd} (hV : VwC V) {l : Launch} {Γ : Gm} {rF : Option Value} {wF : Wd} {v1 : Int32} {v3 : Int32} {v4 : Int32} {v5 : Int32} {q : Int32 × Int32 × Int32 × Sm} {o : (Int32 × Int32 × Int32 × Sm) ⊕ (Sm)} (h : Pl_followTrain_L56 v1 v3 v4 v5 q = some o) (hK : Sum.elim (hd_Pl_followTrain_L56 V l Γ rF wF v1 v3 v4 v5) (ps_Pl_followTrain_L56 V l Γ rF wF v1 v3 v4 v5) o) : hd_Pl_followTrain_L56 V l Γ rF wF v1 v3 v4 v5 q := by
  unfold Pl_followTrain_L56 at h
  unfold hd_Pl_followTrain_L56
  refine g_iload (pc := 56) dX7_followTrain_56 rfl ?_
  refine g_iload (pc := 58) dX7_followTrain_58 rfl ?_
  refine g_icmp_ge (tgt := 159) (pc := 60) dX7_followTrain_60 (by decide) (fun c5 => ?_) (fun c5 => ?_)
  · rw [if_pos c5] at h
    refine g_wk [true, true, false, false, false, true, false, false, false, false] rfl ?_
    cases h
    exact hK
  · rw [if_neg c5] at h
    refine g_iload_n (pc := 63) dX7_followTrain_63 rfl ?_
    refine g_iload (pc := 64) dX7_followTrain_64 rfl ?_
    refine g_aload_n (pc := 66) dX7_followTrain_66 rfl ?_
    refine v_getR hV (pc := 67) dX7_followTrain_67 fo_7_0 rfl k0_47 r0_47_0 ?_
    refine v_callVi hV (Mc := mX5_fade) (v := Nt_fade q.2.2.2) (S1 := q.2.2.2) (As := []) (rest := [.int q.2.1, .int v3]) (q := (RX5, TX5, 3)) (pc := 70) dX7_followTrain_70 mK_X7_66 mf_X5_fade rfl k0_10 rfl rfl rfl (Nat.le_of_ble_eq_true rfl) ⟨Nat.le_of_ble_eq_true rfl, Nat.le_of_ble_eq_true rfl⟩ (r_Nt_fade hV rfl) ?_
    obtain ⟨q1, hq1, h⟩ := bnd h
    refine v_callNi (Mc := mX11_faded) (v := q1) (S1 := q.2.2.2) (As := [.int v3, .int q.2.1, .int (Nt_fade q.2.2.2)]) (rest := []) (pc := 73) dX7_followTrain_73 nl_X7_69 mf_X11_faded rfl rfl (Nat.le_of_ble_eq_true rfl) ⟨Nat.le_of_ble_eq_true rfl, Nat.le_of_ble_eq_true rfl⟩ (r_Dk_faded hV hq1) ?_
    refine g_istore (ls1 := [some (.ref 47), some (.int v1), some (.int q.1), some (.int v3), some (.int v4), some (.int v5), some (.int q.2.1), some (.int q.2.2.1), some (.int q1), none]) (pc := 76) dX7_followTrain_76 (by decide) rfl ?_
    refine g_iload (pc := 78) dX7_followTrain_78 rfl ?_
    refine g_aload_n (pc := 80) dX7_followTrain_80 rfl ?_
    refine v_getR hV (pc := 81) dX7_followTrain_81 fo_7_1 rfl k0_47 r0_47_1 ?_
    refine g_iload_n (pc := 84) dX7_followTrain_84 rfl ?_
    refine g_iload (pc := 85) dX7_followTrain_85 rfl ?_
    refine v_callVi hV (Mc := mX10_takes) (v := Wy_takes q.1 q1 q.2.2.2) (S1 := q.2.2.2) (As := [.int q.1, .int q1]) (rest := [.int q.2.1]) (q := (RX10, TX10, 5)) (pc := 87) dX7_followTrain_87 mK_X7_72 mf_X10_takes rfl k0_37 rfl rfl rfl (Nat.le_of_ble_eq_true rfl) ⟨Nat.le_of_ble_eq_true rfl, Nat.le_of_ble_eq_true rfl⟩ (r_Wy_takes hV rfl) ?_
    refine g_iadd (pc := 90) dX7_followTrain_90 ?_
    refine g_istore (ls1 := [some (.ref 47), some (.int v1), some (.int q.1), some (.int v3), some (.int v4), some (.int v5), some (.int (q.2.1 + (Wy_takes q.1 q1 q.2.2.2))), some (.int q.2.2.1), some (.int q1), none]) (pc := 91) dX7_followTrain_91 (by decide) rfl ?_
    refine g_aload_n (pc := 93) dX7_followTrain_93 rfl ?_
    refine v_getR hV (pc := 94) dX7_followTrain_94 fo_7_1 rfl k0_47 r0_47_1 ?_
    refine g_iload_n (pc := 97) dX7_followTrain_97 rfl ?_
    refine g_iload (pc := 98) dX7_followTrain_98 rfl ?_
    refine v_callVi hV (Mc := mX10_leadsTo) (v := Wy_leadsTo q.1 q1 q.2.2.2) (S1 := q.2.2.2) (As := [.int q.1, .int q1]) (rest := []) (q := (RX10, TX10, 5)) (pc := 100) dX7_followTrain_100 mK_X7_77 mf_X10_leadsTo rfl k0_37 rfl rfl rfl (Nat.le_of_ble_eq_true rfl) ⟨Nat.le_of_ble_eq_true rfl, Nat.le_of_ble_eq_true rfl⟩ (r_Wy_leadsTo hV rfl) ?_
    refine g_istore_n (ls1 := [some (.ref 47), some (.int v1), some (.int (Wy_leadsTo q.1 q1 q.2.2.2)), some (.int v3), some (.int v4), some (.int v5), some (.int (q.2.1 + (Wy_takes q.1 q1 q.2.2.2))), some (.int q.2.2.1), some (.int q1), none]) (pc := 103) dX7_followTrain_103 (by decide) rfl ?_
    refine g_iload_n (pc := 104) dX7_followTrain_104 rfl ?_
    refine g_iconst (v := 3) (pc := 105) dX7_followTrain_105 (by decide) ?_
    refine g_imul (pc := 106) dX7_followTrain_106 ?_
    refine g_iload (pc := 107) dX7_followTrain_107 rfl ?_
    refine g_iadd (pc := 109) dX7_followTrain_109 ?_
    refine g_istore (ls1 := [some (.ref 47), some (.int v1), some (.int (Wy_leadsTo q.1 q1 q.2.2.2)), some (.int v3), some (.int v4), some (.int v5), some (.int (q.2.1 + (Wy_takes q.1 q1 q.2.2.2))), some (.int q.2.2.1), some (.int q1), some (.int ((v1 * 3) + q.2.2.1))]) (pc := 110) dX7_followTrain_110 (by decide) rfl ?_
    refine g_aload_n (pc := 112) dX7_followTrain_112 rfl ?_
    refine v_getR hV (pc := 113) dX7_followTrain_113 fo_7_3 rfl k0_47 r0_47_3 ?_
    refine g_iload (pc := 116) dX7_followTrain_116 rfl ?_
    refine g_iload (pc := 118) dX7_followTrain_118 rfl ?_
    refine g_iload (pc := 120) dX7_followTrain_120 rfl ?_
    refine g_iadd (pc := 122) dX7_followTrain_122 ?_
    obtain ⟨S2, hS2, h⟩ := app_of h
    refine v_callNv (Mc := mX11_put) (S1 := S2) (As := [.ref 49, .int ((v1 * 3) + q.2.2.1), .int (v4 + (q.2.1 + (Wy_takes q.1 q1 q.2.2.2)))]) (rest := []) (pc := 123) dX7_followTrain_123 nl_X7_80 mf_X11_put rfl rfl (Nat.le_of_ble_eq_true rfl) ⟨Nat.le_of_ble_eq_true rfl, Nat.le_of_ble_eq_true rfl⟩ (r_put hV k0_49 own_49 (by decide) hS2) ?_
    refine g_aload_n (pc := 126) dX7_followTrain_126 rfl ?_
    refine v_getR hV (pc := 127) dX7_followTrain_127 fo_7_4 rfl k0_47 r0_47_4 ?_
    refine g_iload (pc := 130) dX7_followTrain_130 rfl ?_
    refine g_iload_n (pc := 132) dX7_followTrain_132 rfl ?_
    refine g_bipush (v := 6) (pc := 133) dX7_followTrain_133 (by decide) ?_
    refine g_imul (pc := 135) dX7_followTrain_135 ?_
    refine g_iload_n (pc := 136) dX7_followTrain_136 rfl ?_
    refine g_iload (pc := 137) dX7_followTrain_137 rfl ?_
    refine g_aload_n (pc := 139) dX7_followTrain_139 rfl ?_
    refine v_getR hV (pc := 140) dX7_followTrain_140 fo_7_0 rfl k0_47 r0_47_0 ?_
    refine v_callVi hV (Mc := mX5_fade) (v := Nt_fade S2) (S1 := S2) (As := []) (rest := [.int (q.2.1 + (Wy_takes q.1 q1 q.2.2.2)), .int v3, .int ((Wy_leadsTo q.1 q1 q.2.2.2) * 6), .int ((v1 * 3) + q.2.2.1), .ref 50]) (q := (RX5, TX5, 3)) (pc := 143) dX7_followTrain_143 mK_X7_66 mf_X5_fade rfl k0_10 rfl rfl rfl (Nat.le_of_ble_eq_true rfl) ⟨Nat.le_of_ble_eq_true rfl, Nat.le_of_ble_eq_true rfl⟩ (r_Nt_fade hV rfl) ?_
    obtain ⟨q3, hq3, h⟩ := bnd h
    refine v_callNi (Mc := mX11_faded) (v := q3) (S1 := S2) (As := [.int v3, .int (q.2.1 + (Wy_takes q.1 q1 q.2.2.2)), .int (Nt_fade S2)]) (rest := [.int ((Wy_leadsTo q.1 q1 q.2.2.2) * 6), .int ((v1 * 3) + q.2.2.1), .ref 50]) (pc := 146) dX7_followTrain_146 nl_X7_69 mf_X11_faded rfl rfl (Nat.le_of_ble_eq_true rfl) ⟨Nat.le_of_ble_eq_true rfl, Nat.le_of_ble_eq_true rfl⟩ (r_Dk_faded hV hq3) ?_
    refine g_iadd (pc := 149) dX7_followTrain_149 ?_
    obtain ⟨S4, hS4, h⟩ := app_of h
    refine v_callNv (Mc := mX11_put) (S1 := S4) (As := [.ref 50, .int ((v1 * 3) + q.2.2.1), .int (((Wy_leadsTo q.1 q1 q.2.2.2) * 6) + q3)]) (rest := []) (pc := 150) dX7_followTrain_150 nl_X7_80 mf_X11_put rfl rfl (Nat.le_of_ble_eq_true rfl) ⟨Nat.le_of_ble_eq_true rfl, Nat.le_of_ble_eq_true rfl⟩ (r_put hV k0_50 own_50 (by decide) hS4) ?_
    refine g_iinc (v := q.2.2.1 + 1) (ls1 := [some (.ref 47), some (.int v1), some (.int (Wy_leadsTo q.1 q1 q.2.2.2)), some (.int v3), some (.int v4), some (.int v5), some (.int (q.2.1 + (Wy_takes q.1 q1 q.2.2.2))), some (.int (q.2.2.1 + 1)), some (.int q1), some (.int ((v1 * 3) + q.2.2.1))]) (pc := 153) dX7_followTrain_153 rfl rfl (by decide) rfl ?_
    refine g_goto (tgt := 56) (pc := 156) dX7_followTrain_156 (by decide) ?_
    refine g_wk [true, true, true, true, true, true, true, true, false, false] rfl ?_
    cases h
    exact hK
set_option maxRecDepth 4000 in
theorem w_Pl_followTrain_L56 {V : Sm → Wd} (hV : VwC V) {l : Launch} {Γ : Gm} {rF : Option Value} {wF : Wd} {v1 : Int32} {v3 : Int32} {v4 : Int32} {v5 : Int32} {k : Nat} {q : Int32 × Int32 × Int32 × Sm} {o : Sm} (h : lpN (Pl_followTrain_L56 v1 v3 v4 v5) k q = some o) (hP : ps_Pl_followTrain_L56 V l Γ rF wF v1 v3 v4 v5 o) : hd_Pl_followTrain_L56 V l Γ rF wF v1 v3 v4 v5 q := lpN_ind2 (hd_Pl_followTrain_L56 V l Γ rF wF v1 v3 v4 v5) (ps_Pl_followTrain_L56 V l Γ rF wF v1 v3 v4 v5) (fun s o h hK => t_Pl_followTrain_L56 hV h hK) k q o h hP
def Pl_followTrain (v1 : Int32) (S : Sm) : Option (Sm) := ((lpN (Pl_followTrain_L56 v1 (Nt_item 2 v1 1 S) (Nt_item 2 v1 2 S) (iMin 3 (Nt_item 2 v1 3 S))) FU (Nt_item 2 v1 0 S, 0, 0, S)).bind fun q6 => (app (puF q6 48 6 v1 (iMin 3 (Nt_item 2 v1 3 S))) fun S7 => (some S7)))
set_option maxRecDepth 4000 in
theorem r_Pl_followTrain {V : Sm → Wd} (hV : VwC V) {v1 : Int32} {S : Sm} {q : Sm} (h : Pl_followTrain v1 S = some q) : Runs 3 mX7_followTrain [.ref 47, .int v1] (V S) none (V q) 0 0 := by
  unfold Pl_followTrain at h
  refine Runs.of2 [some (.ref 47), some (.int v1), none, none, none, none, none, none, none, none] 8 rfl rfl (Nat.le_of_ble_eq_true rfl) (fun l Γ => ?_)
  refine g_aload_n (pc := 0) dX7_followTrain_0 rfl ?_
  refine v_getR hV (pc := 1) dX7_followTrain_1 fo_7_0 rfl k0_47 r0_47_0 ?_
  refine g_iconst (v := 2) (pc := 4) dX7_followTrain_4 (by decide) ?_
  refine g_iload_n (pc := 5) dX7_followTrain_5 rfl ?_
  refine g_iconst (v := 0) (pc := 6) dX7_followTrain_6 (by decide) ?_
  refine v_callVi hV (Mc := mX5_item) (v := Nt_item 2 v1 0 S) (S1 := S) (As := [.int 2, .int v1, .int 0]) (rest := []) (q := (RX5, TX5, 3)) (pc := 7) dX7_followTrain_7 mK_X7_56 mf_X5_item rfl k0_10 rfl rfl rfl (Nat.le_of_ble_eq_true rfl) ⟨Nat.le_of_ble_eq_true rfl, Nat.le_of_ble_eq_true rfl⟩ (r_Nt_item hV rfl) ?_
  refine g_istore_n (ls1 := [some (.ref 47), some (.int v1), some (.int (Nt_item 2 v1 0 S)), none, none, none, none, none, none, none]) (pc := 10) dX7_followTrain_10 (by decide) rfl ?_
  refine g_aload_n (pc := 11) dX7_followTrain_11 rfl ?_
  refine v_getR hV (pc := 12) dX7_followTrain_12 fo_7_0 rfl k0_47 r0_47_0 ?_
  refine g_iconst (v := 2) (pc := 15) dX7_followTrain_15 (by decide) ?_
  refine g_iload_n (pc := 16) dX7_followTrain_16 rfl ?_
  refine g_iconst (v := 1) (pc := 17) dX7_followTrain_17 (by decide) ?_
  refine v_callVi hV (Mc := mX5_item) (v := Nt_item 2 v1 1 S) (S1 := S) (As := [.int 2, .int v1, .int 1]) (rest := []) (q := (RX5, TX5, 3)) (pc := 18) dX7_followTrain_18 mK_X7_56 mf_X5_item rfl k0_10 rfl rfl rfl (Nat.le_of_ble_eq_true rfl) ⟨Nat.le_of_ble_eq_true rfl, Nat.le_of_ble_eq_true rfl⟩ (r_Nt_item hV rfl) ?_
  refine g_istore_n (ls1 := [some (.ref 47), some (.int v1), some (.int (Nt_item 2 v1 0 S)), some (.int (Nt_item 2 v1 1 S)), none, none, none, none, none, none]) (pc := 21) dX7_followTrain_21 (by decide) rfl ?_
  refine g_aload_n (pc := 22) dX7_followTrain_22 rfl ?_
  refine v_getR hV (pc := 23) dX7_followTrain_23 fo_7_0 rfl k0_47 r0_47_0 ?_
  refine g_iconst (v := 2) (pc := 26) dX7_followTrain_26 (by decide) ?_
  refine g_iload_n (pc := 27) dX7_followTrain_27 rfl ?_
  refine g_iconst (v := 2) (pc := 28) dX7_followTrain_28 (by decide) ?_
  refine v_callVi hV (Mc := mX5_item) (v := Nt_item 2 v1 2 S) (S1 := S) (As := [.int 2, .int v1, .int 2]) (rest := []) (q := (RX5, TX5, 3)) (pc := 29) dX7_followTrain_29 mK_X7_56 mf_X5_item rfl k0_10 rfl rfl rfl (Nat.le_of_ble_eq_true rfl) ⟨Nat.le_of_ble_eq_true rfl, Nat.le_of_ble_eq_true rfl⟩ (r_Nt_item hV rfl) ?_
  refine g_istore (ls1 := [some (.ref 47), some (.int v1), some (.int (Nt_item 2 v1 0 S)), some (.int (Nt_item 2 v1 1 S)), some (.int (Nt_item 2 v1 2 S)), none, none, none, none, none]) (pc := 32) dX7_followTrain_32 (by decide) rfl ?_
  refine g_iconst (v := 3) (pc := 34) dX7_followTrain_34 (by decide) ?_
  refine g_aload_n (pc := 35) dX7_followTrain_35 rfl ?_
  refine v_getR hV (pc := 36) dX7_followTrain_36 fo_7_0 rfl k0_47 r0_47_0 ?_
  refine g_iconst (v := 2) (pc := 39) dX7_followTrain_39 (by decide) ?_
  refine g_iload_n (pc := 40) dX7_followTrain_40 rfl ?_
  refine g_iconst (v := 3) (pc := 41) dX7_followTrain_41 (by decide) ?_
  refine v_callVi hV (Mc := mX5_item) (v := Nt_item 2 v1 3 S) (S1 := S) (As := [.int 2, .int v1, .int 3]) (rest := [.int 3]) (q := (RX5, TX5, 3)) (pc := 42) dX7_followTrain_42 mK_X7_56 mf_X5_item rfl k0_10 rfl rfl rfl (Nat.le_of_ble_eq_true rfl) ⟨Nat.le_of_ble_eq_true rfl, Nat.le_of_ble_eq_true rfl⟩ (r_Nt_item hV rfl) ?_
  refine g_iMin (pc := 45) dX7_followTrain_45 mK_X7_60 ⟨Nat.le_of_ble_eq_true rfl, Nat.le_of_ble_eq_true rfl⟩ (Nat.zero_le _) (Nat.zero_le _) ?_
  refine g_istore (ls1 := [some (.ref 47), some (.int v1), some (.int (Nt_item 2 v1 0 S)), some (.int (Nt_item 2 v1 1 S)), some (.int (Nt_item 2 v1 2 S)), some (.int (iMin 3 (Nt_item 2 v1 3 S))), none, none, none, none]) (pc := 48) dX7_followTrain_48 (by decide) rfl ?_
  refine g_iconst (v := 0) (pc := 50) dX7_followTrain_50 (by decide) ?_
  refine g_istore (ls1 := [some (.ref 47), some (.int v1), some (.int (Nt_item 2 v1 0 S)), some (.int (Nt_item 2 v1 1 S)), some (.int (Nt_item 2 v1 2 S)), some (.int (iMin 3 (Nt_item 2 v1 3 S))), some (.int 0), none, none, none]) (pc := 51) dX7_followTrain_51 (by decide) rfl ?_
  refine g_iconst (v := 0) (pc := 53) dX7_followTrain_53 (by decide) ?_
  refine g_istore (ls1 := [some (.ref 47), some (.int v1), some (.int (Nt_item 2 v1 0 S)), some (.int (Nt_item 2 v1 1 S)), some (.int (Nt_item 2 v1 2 S)), some (.int (iMin 3 (Nt_item 2 v1 3 S))), some (.int 0), some (.int 0), none, none]) (pc := 54) dX7_followTrain_54 (by decide) rfl ?_
  obtain ⟨q6, hqq6, h⟩ := bnd h
  refine w_Pl_followTrain_L56 hV hqq6 ?_
  unfold ps_Pl_followTrain_L56
  show G _ _ _ _ _ _ _ _ _ _ _
  refine g_aload_n (pc := 159) dX7_followTrain_159 rfl ?_
  refine v_getR hV (pc := 160) dX7_followTrain_160 fo_7_2 rfl k0_47 r0_47_2 ?_
  refine g_iload_n (pc := 163) dX7_followTrain_163 rfl ?_
  refine g_iload (pc := 164) dX7_followTrain_164 rfl ?_
  obtain ⟨S7, hS7, h⟩ := app_of h
  refine v_callNv (Mc := mX11_put) (S1 := S7) (As := [.ref 48, .int v1, .int (iMin 3 (Nt_item 2 v1 3 S))]) (rest := []) (pc := 166) dX7_followTrain_166 nl_X7_80 mf_X11_put rfl rfl (Nat.le_of_ble_eq_true rfl) ⟨Nat.le_of_ble_eq_true rfl, Nat.le_of_ble_eq_true rfl⟩ (r_put hV k0_48 own_48 (by decide) hS7) ?_
  cases h
  exact g_vret (pc := 169) dX7_followTrain_169 rfl (Nat.le_refl _) (Nat.le_refl _)
def hd_Pl_followTrains_L2 (V : Sm → Wd) (l : Launch) (Γ : Gm) (rF : Option Value) (wF : Wd)  (q : Int32 × Sm) : Prop := G mX7_followTrains l Γ (rmD 4 0 0) (mQ Γ rF wF 0 0) 0 0 2 [some (.ref 47), some (.int q.1)] [] (V q.2)
def ps_Pl_followTrains_L2 (V : Sm → Wd) (l : Launch) (Γ : Gm) (rF : Option Value) (wF : Wd)  (x : Sm) : Prop := (fun (a : Sm) => G mX7_followTrains l Γ (rmD 4 0 0) (mQ Γ rF wF 0 0) 0 0 21 [none, none] [] (V a)) x
def Pl_followTrains_L2 (q : Int32 × Sm) : Option ((Int32 × Sm) ⊕ (Sm)) := (if (Pl_trains q.2) ≤ q.1 then (some (.inr q.2)) else ((Pl_followTrain q.1 q.2).bind fun q1 => (some (.inl (q.1 + 1, q1)))))
set_option maxRecDepth 4000 in
theorem t_Pl_followTrains_L2 {V : Sm → Wd} (hV : VwC V) {l : Launch} {Γ : Gm} {rF : Option Value} {wF : Wd}  {q : Int32 × Sm} {o : (Int32 × Sm) ⊕ (Sm)} (h : Pl_followTrains_L2 q = some o) (hK : Sum.elim (hd_Pl_followTrains_L2 V l Γ rF wF) (ps_Pl_followTrains_L2 V l Γ rF wF) o) : hd_Pl_followTrains_L2 V l Γ rF wF q := by
  unfold Pl_followTrains_L2 at h
  unfold hd_Pl_followTrains_L2
  refine g_iload_n (pc := 2) dX7_followTrains_2 rfl ?_
  refine g_aload_n (pc := 3) dX7_followTrains_3 rfl ?_
  refine v_callVi hV (Mc := mX7_trains) (v := Pl_trains q.2) (S1 := q.2) (As := []) (rest := [.int q.1]) (q := (RX7, TX7, 9)) (pc := 4) dX7_followTrains_4 mK_X7_48 mf_X7_trains rfl k0_47 rfl rfl rfl (Nat.le_of_ble_eq_true rfl) ⟨Nat.le_of_ble_eq_true rfl, Nat.le_of_ble_eq_true rfl⟩ (r_Pl_trains hV rfl) ?_
  refine g_icmp_ge (tgt := 21) (pc := 7) dX7_followTrains_7 (by decide) (fun c2 => ?_) (fun c2 => ?_)
  · rw [if_pos c2] at h
    refine g_wk [false, false] rfl ?_
    cases h
    exact hK
  · rw [if_neg c2] at h
    refine g_aload_n (pc := 10) dX7_followTrains_10 rfl ?_
    refine g_iload_n (pc := 11) dX7_followTrains_11 rfl ?_
    obtain ⟨q1, hq1, h⟩ := bnd h
    refine v_callVv hV (Mc := mX7_followTrain) (S1 := q1) (As := [.int q.1]) (rest := []) (q := (RX7, TX7, 9)) (pc := 12) dX7_followTrains_12 mK_X7_52 mf_X7_followTrain rfl k0_47 rfl rfl rfl (Nat.le_of_ble_eq_true rfl) ⟨Nat.le_of_ble_eq_true rfl, Nat.le_of_ble_eq_true rfl⟩ (r_Pl_followTrain hV hq1) ?_
    refine g_iinc (v := q.1 + 1) (ls1 := [some (.ref 47), some (.int (q.1 + 1))]) (pc := 15) dX7_followTrains_15 rfl rfl (by decide) rfl ?_
    refine g_goto (tgt := 2) (pc := 18) dX7_followTrains_18 (by decide) ?_
    cases h
    exact hK
set_option maxRecDepth 4000 in
theorem w_Pl_followTrains_L2 {V : Sm → Wd} (hV : VwC V) {l : Launch} {Γ : Gm} {rF : Option Value} {wF : Wd}  {k : Nat} {q : Int32 × Sm} {o : Sm} (h : lpN (Pl_followTrains_L2) k q = some o) (hP : ps_Pl_followTrains_L2 V l Γ rF wF o) : hd_Pl_followTrains_L2 V l Γ rF wF q := lpN_ind2 (hd_Pl_followTrains_L2 V l Γ rF wF) (ps_Pl_followTrains_L2 V l Γ rF wF) (fun s o h hK => t_Pl_followTrains_L2 hV h hK) k q o h hP
def Pl_followTrains (S : Sm) : Option (Sm) := ((lpN (Pl_followTrains_L2) FU (0, S)).bind fun q3 => (some q3))
set_option maxRecDepth 4000 in
theorem r_Pl_followTrains {V : Sm → Wd} (hV : VwC V)  {S : Sm} {q : Sm} (h : Pl_followTrains S = some q) : Runs 4 mX7_followTrains [.ref 47] (V S) none (V q) 0 0 := by
  unfold Pl_followTrains at h
  refine Runs.of2 [some (.ref 47), none] 1 rfl rfl (Nat.le_of_ble_eq_true rfl) (fun l Γ => ?_)
  refine g_iconst (v := 0) (pc := 0) dX7_followTrains_0 (by decide) ?_
  refine g_istore_n (ls1 := [some (.ref 47), some (.int 0)]) (pc := 1) dX7_followTrains_1 (by decide) rfl ?_
  obtain ⟨q3, hqq3, h⟩ := bnd h
  refine w_Pl_followTrains_L2 hV hqq3 ?_
  unfold ps_Pl_followTrains_L2
  show G _ _ _ _ _ _ _ _ _ _ _
  cases h
  exact g_vret (pc := 21) dX7_followTrains_21 rfl (Nat.le_refl _) (Nat.le_refl _)
def hd_Pl_clashesOf_L6 (V : Sm → Wd) (l : Launch) (Γ : Gm) (rF : Option Value) (wF : Wd) (v1 : Int32) (v2 : Int32) (v3 : Int32) (S : Sm) (q : Int32 × Int32) : Prop := G mX7_clashesOf l Γ (rmD 1 0 0) (mQ Γ rF wF 0 0) 0 0 6 [some (.ref 47), some (.int v1), some (.int v2), some (.int v3), some (.int q.1), some (.int q.2), none, none, none, none] [] (V S)
def ps_Pl_clashesOf_L6 (V : Sm → Wd) (l : Launch) (Γ : Gm) (rF : Option Value) (wF : Wd) (v1 : Int32) (v2 : Int32) (v3 : Int32) (S : Sm) (x : Int32) : Prop := (fun (a : Int32) => G mX7_clashesOf l Γ (rmD 1 0 0) (mQ Γ rF wF 0 0) 0 0 129 [none, none, none, none, some (.int a), none, none, none, none, none] [] (V S)) x
def hd_Pl_clashesOf_L22 (V : Sm → Wd) (l : Launch) (Γ : Gm) (rF : Option Value) (wF : Wd) (v1 : Int32) (v2 : Int32) (v3 : Int32) (v5 : Int32) (S : Sm) (q : Int32 × Int32) : Prop := G mX7_clashesOf l Γ (rmD 1 0 0) (mQ Γ rF wF 0 0) 0 0 22 [some (.ref 47), some (.int v1), some (.int v2), some (.int v3), some (.int q.1), some (.int v5), some (.int q.2), none, none, none] [] (V S)
def ps_Pl_clashesOf_L22 (V : Sm → Wd) (l : Launch) (Γ : Gm) (rF : Option Value) (wF : Wd) (v1 : Int32) (v2 : Int32) (v3 : Int32) (v5 : Int32) (S : Sm) (x : Int32) : Prop := (fun (a : Int32) => G mX7_clashesOf l Γ (rmD 1 0 0) (mQ Γ rF wF 0 0) 0 0 123 [some (.ref 47), some (.int v1), some (.int v2), some (.int v3), some (.int a), some (.int v5), none, none, none, none] [] (V S)) x
def Pl_clashesOf_114_L22 (v1 : Int32) (v2 : Int32) (v3 : Int32) (v5 : Int32) (v6 : Int32) (s0 : Int32) (s1 : Int32) (S : Sm) : Option ((Int32 × Int32) ⊕ (Int32)) := (some (.inl (s0 + s1, v6 + 1)))
set_option maxRecDepth 4000 in
theorem t_Pl_clashesOf_114_L22 {V : Sm → Wd} (hV : VwC V) {l : Launch} {Γ : Gm} {v1 : Int32} {v2 : Int32} {v3 : Int32} {v5 : Int32} {v6 : Int32} {s0 : Int32} {s1 : Int32} {rF : Option Value} {wF : Wd} {S : Sm} {o : (Int32 × Int32) ⊕ (Int32)} (h : Pl_clashesOf_114_L22 v1 v2 v3 v5 v6 s0 s1 S = some o) (hK : Sum.elim (hd_Pl_clashesOf_L22 V l Γ rF wF v1 v2 v3 v5 S) (ps_Pl_clashesOf_L22 V l Γ rF wF v1 v2 v3 v5 S) o) : G mX7_clashesOf l Γ (rmD 1 0 0) (mQ Γ rF wF 0 0) 0 0 114 [some (.ref 47), some (.int v1), some (.int v2), some (.int v3), none, some (.int v5), some (.int v6), none, none, none] [.int s1, .int s0] (V S) := by
  unfold Pl_clashesOf_114_L22 at h
  refine g_iadd (pc := 114) dX7_clashesOf_114 ?_
  refine g_istore (ls1 := [some (.ref 47), some (.int v1), some (.int v2), some (.int v3), some (.int (s0 + s1)), some (.int v5), some (.int v6), none, none, none]) (pc := 115) dX7_clashesOf_115 (by decide) rfl ?_
  refine g_iinc (v := v6 + 1) (ls1 := [some (.ref 47), some (.int v1), some (.int v2), some (.int v3), some (.int (s0 + s1)), some (.int v5), some (.int (v6 + 1)), none, none, none]) (pc := 117) dX7_clashesOf_117 rfl rfl (by decide) rfl ?_
  refine g_goto (tgt := 22) (pc := 120) dX7_clashesOf_120 (by decide) ?_
  cases h
  exact hK
def Pl_clashesOf_113_L22 (v1 : Int32) (v2 : Int32) (v3 : Int32) (v5 : Int32) (v6 : Int32) (s0 : Int32) (S : Sm) : Option ((Int32 × Int32) ⊕ (Int32)) := (Pl_clashesOf_114_L22 v1 v2 v3 v5 v6 s0 0 S)
set_option maxRecDepth 4000 in
theorem t_Pl_clashesOf_113_L22 {V : Sm → Wd} (hV : VwC V) {l : Launch} {Γ : Gm} {v1 : Int32} {v2 : Int32} {v3 : Int32} {v5 : Int32} {v6 : Int32} {s0 : Int32} {rF : Option Value} {wF : Wd} {S : Sm} {o : (Int32 × Int32) ⊕ (Int32)} (h : Pl_clashesOf_113_L22 v1 v2 v3 v5 v6 s0 S = some o) (hK : Sum.elim (hd_Pl_clashesOf_L22 V l Γ rF wF v1 v2 v3 v5 S) (ps_Pl_clashesOf_L22 V l Γ rF wF v1 v2 v3 v5 S) o) : G mX7_clashesOf l Γ (rmD 1 0 0) (mQ Γ rF wF 0 0) 0 0 113 [some (.ref 47), some (.int v1), some (.int v2), some (.int v3), none, some (.int v5), some (.int v6), none, none, none] [.int s0] (V S) := by
  unfold Pl_clashesOf_113_L22 at h
  refine g_iconst (v := 0) (pc := 113) dX7_clashesOf_113 (by decide) ?_
  exact t_Pl_clashesOf_114_L22 hV h hK
def Pl_clashesOf_77_L22 (v1 : Int32) (v2 : Int32) (v3 : Int32) (v4 : Int32) (v5 : Int32) (v6 : Int32) (v7 : Int32) (v8 : Int32) (s0 : Int32) (S : Sm) : Option ((Int32 × Int32) ⊕ (Int32)) := (if s0 = 0 then (Pl_clashesOf_113_L22 v1 v2 v3 v5 v6 v4 S) else (if ((atF (gi S 49) 18 v7) + v3) = (atF (gi S 49) 18 v8) then (Pl_clashesOf_114_L22 v1 v2 v3 v5 v6 v4 1 S) else (Pl_clashesOf_113_L22 v1 v2 v3 v5 v6 v4 S)))
set_option maxRecDepth 4000 in
theorem t_Pl_clashesOf_77_L22 {V : Sm → Wd} (hV : VwC V) {l : Launch} {Γ : Gm} {v1 : Int32} {v2 : Int32} {v3 : Int32} {v4 : Int32} {v5 : Int32} {v6 : Int32} {v7 : Int32} {v8 : Int32} {s0 : Int32} {rF : Option Value} {wF : Wd} {S : Sm} {o : (Int32 × Int32) ⊕ (Int32)} (h : Pl_clashesOf_77_L22 v1 v2 v3 v4 v5 v6 v7 v8 s0 S = some o) (hK : Sum.elim (hd_Pl_clashesOf_L22 V l Γ rF wF v1 v2 v3 v5 S) (ps_Pl_clashesOf_L22 V l Γ rF wF v1 v2 v3 v5 S) o) : G mX7_clashesOf l Γ (rmD 1 0 0) (mQ Γ rF wF 0 0) 0 0 77 [some (.ref 47), some (.int v1), some (.int v2), some (.int v3), some (.int v4), some (.int v5), some (.int v6), some (.int v7), some (.int v8), none] [.int s0] (V S) := by
  unfold Pl_clashesOf_77_L22 at h
  refine g_istore (ls1 := [some (.ref 47), some (.int v1), some (.int v2), some (.int v3), some (.int v4), some (.int v5), some (.int v6), some (.int v7), some (.int v8), some (.int s0)]) (pc := 77) dX7_clashesOf_77 (by decide) rfl ?_
  refine g_iload (pc := 79) dX7_clashesOf_79 rfl ?_
  refine g_iload (pc := 81) dX7_clashesOf_81 rfl ?_
  refine g_if_eq (tgt := 113) (pc := 83) dX7_clashesOf_83 (by decide) (fun c2 => ?_) (fun c2 => ?_)
  · rw [if_pos c2] at h
    refine g_wk [true, true, true, true, false, true, true, false, false, false] rfl ?_
    exact t_Pl_clashesOf_113_L22 hV h hK
  · rw [if_neg c2] at h
    refine g_aload_n (pc := 86) dX7_clashesOf_86 rfl ?_
    refine v_getR hV (pc := 87) dX7_clashesOf_87 fo_7_3 rfl k0_47 r0_47_3 ?_
    refine g_iload (pc := 90) dX7_clashesOf_90 rfl ?_
    refine v_callNi (Mc := mX11_at) (v := atF (gi S 49) 18 v7) (S1 := S) (As := [.ref 49, .int v7]) (rest := [.int v4]) (pc := 92) dX7_clashesOf_92 nl_X7_84 mf_X11_at rfl rfl (Nat.le_of_ble_eq_true rfl) ⟨Nat.le_of_ble_eq_true rfl, Nat.le_of_ble_eq_true rfl⟩ (r_at hV k0_49 own_49 (by decide)) ?_
    refine g_iload_n (pc := 95) dX7_clashesOf_95 rfl ?_
    refine g_iadd (pc := 96) dX7_clashesOf_96 ?_
    refine g_aload_n (pc := 97) dX7_clashesOf_97 rfl ?_
    refine v_getR hV (pc := 98) dX7_clashesOf_98 fo_7_3 rfl k0_47 r0_47_3 ?_
    refine g_iload (pc := 101) dX7_clashesOf_101 rfl ?_
    refine v_callNi (Mc := mX11_at) (v := atF (gi S 49) 18 v8) (S1 := S) (As := [.ref 49, .int v8]) (rest := [.int ((atF (gi S 49) 18 v7) + v3), .int v4]) (pc := 103) dX7_clashesOf_103 nl_X7_84 mf_X11_at rfl rfl (Nat.le_of_ble_eq_true rfl) ⟨Nat.le_of_ble_eq_true rfl, Nat.le_of_ble_eq_true rfl⟩ (r_at hV k0_49 own_49 (by decide)) ?_
    refine g_icmp_ne (tgt := 113) (pc := 106) dX7_clashesOf_106 (by decide) (fun c1 => ?_) (fun c1 => ?_)
    · rw [if_neg c1] at h
      refine g_wk [true, true, true, true, false, true, true, false, false, false] rfl ?_
      exact t_Pl_clashesOf_113_L22 hV h hK
    · rw [if_pos c1] at h
      refine g_iconst (v := 1) (pc := 109) dX7_clashesOf_109 (by decide) ?_
      refine g_goto (tgt := 114) (pc := 110) dX7_clashesOf_110 (by decide) ?_
      refine g_wk [true, true, true, true, false, true, true, false, false, false] rfl ?_
      exact t_Pl_clashesOf_114_L22 hV h hK
def Pl_clashesOf_L22 (v1 : Int32) (v2 : Int32) (v3 : Int32) (v5 : Int32) (S : Sm) (q : Int32 × Int32) : Option ((Int32 × Int32) ⊕ (Int32)) := (if (atF (gi S 48) 6 v2) ≤ q.2 then (some (.inr q.1)) else (if (atF (gi S 50) 18 ((v1 * 3) + v5)) = (atF (gi S 50) 18 ((v2 * 3) + q.2)) then (Pl_clashesOf_77_L22 v1 v2 v3 q.1 v5 q.2 ((v1 * 3) + v5) ((v2 * 3) + q.2) 1 S) else (Pl_clashesOf_77_L22 v1 v2 v3 q.1 v5 q.2 ((v1 * 3) + v5) ((v2 * 3) + q.2) 0 S)))
set_option maxRecDepth 4000 in
theorem t_Pl_clashesOf_L22 {V : Sm → Wd} (hV : VwC V) {l : Launch} {Γ : Gm} {rF : Option Value} {wF : Wd} {v1 : Int32} {v2 : Int32} {v3 : Int32} {v5 : Int32} {S : Sm} {q : Int32 × Int32} {o : (Int32 × Int32) ⊕ (Int32)} (h : Pl_clashesOf_L22 v1 v2 v3 v5 S q = some o) (hK : Sum.elim (hd_Pl_clashesOf_L22 V l Γ rF wF v1 v2 v3 v5 S) (ps_Pl_clashesOf_L22 V l Γ rF wF v1 v2 v3 v5 S) o) : hd_Pl_clashesOf_L22 V l Γ rF wF v1 v2 v3 v5 S q := by
  unfold Pl_clashesOf_L22 at h
  unfold hd_Pl_clashesOf_L22
  refine g_iload (pc := 22) dX7_clashesOf_22 rfl ?_
  refine g_aload_n (pc := 24) dX7_clashesOf_24 rfl ?_
  refine v_getR hV (pc := 25) dX7_clashesOf_25 fo_7_2 rfl k0_47 r0_47_2 ?_
  refine g_iload_n (pc := 28) dX7_clashesOf_28 rfl ?_
  refine v_callNi (Mc := mX11_at) (v := atF (gi S 48) 6 v2) (S1 := S) (As := [.ref 48, .int v2]) (rest := [.int q.2]) (pc := 29) dX7_clashesOf_29 nl_X7_84 mf_X11_at rfl rfl (Nat.le_of_ble_eq_true rfl) ⟨Nat.le_of_ble_eq_true rfl, Nat.le_of_ble_eq_true rfl⟩ (r_at hV k0_48 own_48 (by decide)) ?_
  refine g_icmp_ge (tgt := 123) (pc := 32) dX7_clashesOf_32 (by decide) (fun c4 => ?_) (fun c4 => ?_)
  · rw [if_pos c4] at h
    refine g_wk [true, true, true, true, true, true, false, false, false, false] rfl ?_
    cases h
    exact hK
  · rw [if_neg c4] at h
    refine g_iload_n (pc := 35) dX7_clashesOf_35 rfl ?_
    refine g_iconst (v := 3) (pc := 36) dX7_clashesOf_36 (by decide) ?_
    refine g_imul (pc := 37) dX7_clashesOf_37 ?_
    refine g_iload (pc := 38) dX7_clashesOf_38 rfl ?_
    refine g_iadd (pc := 40) dX7_clashesOf_40 ?_
    refine g_istore (ls1 := [some (.ref 47), some (.int v1), some (.int v2), some (.int v3), some (.int q.1), some (.int v5), some (.int q.2), some (.int ((v1 * 3) + v5)), none, none]) (pc := 41) dX7_clashesOf_41 (by decide) rfl ?_
    refine g_iload_n (pc := 43) dX7_clashesOf_43 rfl ?_
    refine g_iconst (v := 3) (pc := 44) dX7_clashesOf_44 (by decide) ?_
    refine g_imul (pc := 45) dX7_clashesOf_45 ?_
    refine g_iload (pc := 46) dX7_clashesOf_46 rfl ?_
    refine g_iadd (pc := 48) dX7_clashesOf_48 ?_
    refine g_istore (ls1 := [some (.ref 47), some (.int v1), some (.int v2), some (.int v3), some (.int q.1), some (.int v5), some (.int q.2), some (.int ((v1 * 3) + v5)), some (.int ((v2 * 3) + q.2)), none]) (pc := 49) dX7_clashesOf_49 (by decide) rfl ?_
    refine g_aload_n (pc := 51) dX7_clashesOf_51 rfl ?_
    refine v_getR hV (pc := 52) dX7_clashesOf_52 fo_7_4 rfl k0_47 r0_47_4 ?_
    refine g_iload (pc := 55) dX7_clashesOf_55 rfl ?_
    refine v_callNi (Mc := mX11_at) (v := atF (gi S 50) 18 ((v1 * 3) + v5)) (S1 := S) (As := [.ref 50, .int ((v1 * 3) + v5)]) (rest := []) (pc := 57) dX7_clashesOf_57 nl_X7_84 mf_X11_at rfl rfl (Nat.le_of_ble_eq_true rfl) ⟨Nat.le_of_ble_eq_true rfl, Nat.le_of_ble_eq_true rfl⟩ (r_at hV k0_50 own_50 (by decide)) ?_
    refine g_aload_n (pc := 60) dX7_clashesOf_60 rfl ?_
    refine v_getR hV (pc := 61) dX7_clashesOf_61 fo_7_4 rfl k0_47 r0_47_4 ?_
    refine g_iload (pc := 64) dX7_clashesOf_64 rfl ?_
    refine v_callNi (Mc := mX11_at) (v := atF (gi S 50) 18 ((v2 * 3) + q.2)) (S1 := S) (As := [.ref 50, .int ((v2 * 3) + q.2)]) (rest := [.int (atF (gi S 50) 18 ((v1 * 3) + v5))]) (pc := 66) dX7_clashesOf_66 nl_X7_84 mf_X11_at rfl rfl (Nat.le_of_ble_eq_true rfl) ⟨Nat.le_of_ble_eq_true rfl, Nat.le_of_ble_eq_true rfl⟩ (r_at hV k0_50 own_50 (by decide)) ?_
    refine g_icmp_ne (tgt := 76) (pc := 69) dX7_clashesOf_69 (by decide) (fun c3 => ?_) (fun c3 => ?_)
    · rw [if_neg c3] at h
      refine g_iconst (v := 0) (pc := 76) dX7_clashesOf_76 (by decide) ?_
      exact t_Pl_clashesOf_77_L22 hV h hK
    · rw [if_pos c3] at h
      refine g_iconst (v := 1) (pc := 72) dX7_clashesOf_72 (by decide) ?_
      refine g_goto (tgt := 77) (pc := 73) dX7_clashesOf_73 (by decide) ?_
      exact t_Pl_clashesOf_77_L22 hV h hK
set_option maxRecDepth 4000 in
theorem w_Pl_clashesOf_L22 {V : Sm → Wd} (hV : VwC V) {l : Launch} {Γ : Gm} {rF : Option Value} {wF : Wd} {v1 : Int32} {v2 : Int32} {v3 : Int32} {v5 : Int32} {S : Sm} {k : Nat} {q : Int32 × Int32} {o : Int32} (h : lpN (Pl_clashesOf_L22 v1 v2 v3 v5 S) k q = some o) (hP : ps_Pl_clashesOf_L22 V l Γ rF wF v1 v2 v3 v5 S o) : hd_Pl_clashesOf_L22 V l Γ rF wF v1 v2 v3 v5 S q := lpN_ind2 (hd_Pl_clashesOf_L22 V l Γ rF wF v1 v2 v3 v5 S) (ps_Pl_clashesOf_L22 V l Γ rF wF v1 v2 v3 v5 S) (fun s o h hK => t_Pl_clashesOf_L22 hV h hK) k q o h hP
def Pl_clashesOf_L6 (v1 : Int32) (v2 : Int32) (v3 : Int32) (S : Sm) (q : Int32 × Int32) : Option ((Int32 × Int32) ⊕ (Int32)) := (if (atF (gi S 48) 6 v1) ≤ q.2 then (some (.inr q.1)) else ((lpN (Pl_clashesOf_L22 v1 v2 v3 q.2 S) FU (q.1, 0)).bind fun q5 => (some (.inl (q5, q.2 + 1)))))
set_option maxRecDepth 4000 in
theorem t_Pl_clashesOf_L6 {V : Sm → Wd} (hV : VwC V) {l : Launch} {Γ : Gm} {rF : Option Value} {wF : Wd} {v1 : Int32} {v2 : Int32} {v3 : Int32} {S : Sm} {q : Int32 × Int32} {o : (Int32 × Int32) ⊕ (Int32)} (h : Pl_clashesOf_L6 v1 v2 v3 S q = some o) (hK : Sum.elim (hd_Pl_clashesOf_L6 V l Γ rF wF v1 v2 v3 S) (ps_Pl_clashesOf_L6 V l Γ rF wF v1 v2 v3 S) o) : hd_Pl_clashesOf_L6 V l Γ rF wF v1 v2 v3 S q := by
  unfold Pl_clashesOf_L6 at h
  unfold hd_Pl_clashesOf_L6
  refine g_iload (pc := 6) dX7_clashesOf_6 rfl ?_
  refine g_aload_n (pc := 8) dX7_clashesOf_8 rfl ?_
  refine v_getR hV (pc := 9) dX7_clashesOf_9 fo_7_2 rfl k0_47 r0_47_2 ?_
  refine g_iload_n (pc := 12) dX7_clashesOf_12 rfl ?_
  refine v_callNi (Mc := mX11_at) (v := atF (gi S 48) 6 v1) (S1 := S) (As := [.ref 48, .int v1]) (rest := [.int q.2]) (pc := 13) dX7_clashesOf_13 nl_X7_84 mf_X11_at rfl rfl (Nat.le_of_ble_eq_true rfl) ⟨Nat.le_of_ble_eq_true rfl, Nat.le_of_ble_eq_true rfl⟩ (r_at hV k0_48 own_48 (by decide)) ?_
  refine g_icmp_ge (tgt := 129) (pc := 16) dX7_clashesOf_16 (by decide) (fun c6 => ?_) (fun c6 => ?_)
  · rw [if_pos c6] at h
    refine g_wk [false, false, false, false, true, false, false, false, false, false] rfl ?_
    cases h
    exact hK
  · rw [if_neg c6] at h
    refine g_iconst (v := 0) (pc := 19) dX7_clashesOf_19 (by decide) ?_
    refine g_istore (ls1 := [some (.ref 47), some (.int v1), some (.int v2), some (.int v3), some (.int q.1), some (.int q.2), some (.int 0), none, none, none]) (pc := 20) dX7_clashesOf_20 (by decide) rfl ?_
    obtain ⟨q5, hqq5, h⟩ := bnd h
    refine w_Pl_clashesOf_L22 hV hqq5 ?_
    unfold ps_Pl_clashesOf_L22
    show G _ _ _ _ _ _ _ _ _ _ _
    refine g_iinc (v := q.2 + 1) (ls1 := [some (.ref 47), some (.int v1), some (.int v2), some (.int v3), some (.int q5), some (.int (q.2 + 1)), none, none, none, none]) (pc := 123) dX7_clashesOf_123 rfl rfl (by decide) rfl ?_
    refine g_goto (tgt := 6) (pc := 126) dX7_clashesOf_126 (by decide) ?_
    cases h
    exact hK
set_option maxRecDepth 4000 in
theorem w_Pl_clashesOf_L6 {V : Sm → Wd} (hV : VwC V) {l : Launch} {Γ : Gm} {rF : Option Value} {wF : Wd} {v1 : Int32} {v2 : Int32} {v3 : Int32} {S : Sm} {k : Nat} {q : Int32 × Int32} {o : Int32} (h : lpN (Pl_clashesOf_L6 v1 v2 v3 S) k q = some o) (hP : ps_Pl_clashesOf_L6 V l Γ rF wF v1 v2 v3 S o) : hd_Pl_clashesOf_L6 V l Γ rF wF v1 v2 v3 S q := lpN_ind2 (hd_Pl_clashesOf_L6 V l Γ rF wF v1 v2 v3 S) (ps_Pl_clashesOf_L6 V l Γ rF wF v1 v2 v3 S) (fun s o h hK => t_Pl_clashesOf_L6 hV h hK) k q o h hP
def Pl_clashesOf (v1 : Int32) (v2 : Int32) (v3 : Int32) (S : Sm) : Option (Int32) := ((lpN (Pl_clashesOf_L6 v1 v2 v3 S) FU (0, 0)).bind fun q7 => (some q7))
set_option maxRecDepth 4000 in
theorem r_Pl_clashesOf {V : Sm → Wd} (hV : VwC V) {v1 : Int32} {v2 : Int32} {v3 : Int32} {S : Sm} {q : Int32} (h : Pl_clashesOf v1 v2 v3 S = some q) : Runs 1 mX7_clashesOf [.ref 47, .int v1, .int v2, .int v3] (V S) (some (.int q)) (V S) 0 0 := by
  unfold Pl_clashesOf at h
  refine Runs.of2 [some (.ref 47), some (.int v1), some (.int v2), some (.int v3), none, none, none, none, none, none] 6 rfl rfl (Nat.le_of_ble_eq_true rfl) (fun l Γ => ?_)
  refine g_iconst (v := 0) (pc := 0) dX7_clashesOf_0 (by decide) ?_
  refine g_istore (ls1 := [some (.ref 47), some (.int v1), some (.int v2), some (.int v3), some (.int 0), none, none, none, none, none]) (pc := 1) dX7_clashesOf_1 (by decide) rfl ?_
  refine g_iconst (v := 0) (pc := 3) dX7_clashesOf_3 (by decide) ?_
  refine g_istore (ls1 := [some (.ref 47), some (.int v1), some (.int v2), some (.int v3), some (.int 0), some (.int 0), none, none, none, none]) (pc := 4) dX7_clashesOf_4 (by decide) rfl ?_
  obtain ⟨q7, hqq7, h⟩ := bnd h
  refine w_Pl_clashesOf_L6 hV hqq7 ?_
  unfold ps_Pl_clashesOf_L6
  show G _ _ _ _ _ _ _ _ _ _ _
  refine g_iload (pc := 129) dX7_clashesOf_129 rfl ?_
  cases h
  exact g_iret (pc := 131) dX7_clashesOf_131 rfl rfl (Nat.le_refl _) (Nat.le_refl _)
def hd_Pl_fillClashing_L2 (V : Sm → Wd) (l : Launch) (Γ : Gm) (rF : Option Value) (wF : Wd)  (q : Int32 × Sm) : Prop := G mX7_fillClashing l Γ (rmD 3 0 0) (mQ Γ rF wF 0 0) 0 0 2 [some (.ref 47), some (.int q.1), none, none, none] [] (V q.2)
def ps_Pl_fillClashing_L2 (V : Sm → Wd) (l : Launch) (Γ : Gm) (rF : Option Value) (wF : Wd)  (x : Sm) : Prop := (fun (a : Sm) => G mX7_fillClashing l Γ (rmD 3 0 0) (mQ Γ rF wF 0 0) 0 0 90 [none, none, none, none, none] [] (V a)) x
def hd_Pl_fillClashing_L14 (V : Sm → Wd) (l : Launch) (Γ : Gm) (rF : Option Value) (wF : Wd) (v1 : Int32) (q : Int32 × Sm) : Prop := G mX7_fillClashing l Γ (rmD 3 0 0) (mQ Γ rF wF 0 0) 0 0 14 [some (.ref 47), some (.int v1), some (.int q.1), none, none] [] (V q.2)
def ps_Pl_fillClashing_L14 (V : Sm → Wd) (l : Launch) (Γ : Gm) (rF : Option Value) (wF : Wd) (v1 : Int32) (x : Sm) : Prop := (fun (a : Sm) => G mX7_fillClashing l Γ (rmD 3 0 0) (mQ Γ rF wF 0 0) 0 0 84 [some (.ref 47), some (.int v1), none, none, none] [] (V a)) x
def hd_Pl_fillClashing_L28 (V : Sm → Wd) (l : Launch) (Γ : Gm) (rF : Option Value) (wF : Wd) (v1 : Int32) (v2 : Int32) (S : Sm) (q : Int32 × Int32) : Prop := G mX7_fillClashing l Γ (rmD 3 0 0) (mQ Γ rF wF 0 0) 0 0 28 [some (.ref 47), some (.int v1), some (.int v2), some (.int q.1), some (.int q.2)] [] (V S)
def ps_Pl_fillClashing_L28 (V : Sm → Wd) (l : Launch) (Γ : Gm) (rF : Option Value) (wF : Wd) (v1 : Int32) (v2 : Int32) (S : Sm) (x : Int32) : Prop := (fun (a : Int32) => G mX7_fillClashing l Γ (rmD 3 0 0) (mQ Γ rF wF 0 0) 0 0 64 [some (.ref 47), some (.int v1), some (.int v2), some (.int a), none] [] (V S)) x
def Pl_fillClashing_56_L28 (v1 : Int32) (v2 : Int32) (v4 : Int32) (s0 : Int32) (s1 : Int32) (S : Sm) : Option ((Int32 × Int32) ⊕ (Int32)) := (some (.inl (s0 ||| s1, v4 + 1)))
set_option maxRecDepth 4000 in
theorem t_Pl_fillClashing_56_L28 {V : Sm → Wd} (hV : VwC V) {l : Launch} {Γ : Gm} {v1 : Int32} {v2 : Int32} {v4 : Int32} {s0 : Int32} {s1 : Int32} {rF : Option Value} {wF : Wd} {S : Sm} {o : (Int32 × Int32) ⊕ (Int32)} (h : Pl_fillClashing_56_L28 v1 v2 v4 s0 s1 S = some o) (hK : Sum.elim (hd_Pl_fillClashing_L28 V l Γ rF wF v1 v2 S) (ps_Pl_fillClashing_L28 V l Γ rF wF v1 v2 S) o) : G mX7_fillClashing l Γ (rmD 3 0 0) (mQ Γ rF wF 0 0) 0 0 56 [some (.ref 47), some (.int v1), some (.int v2), none, some (.int v4)] [.int s1, .int s0] (V S) := by
  unfold Pl_fillClashing_56_L28 at h
  refine g_ior (pc := 56) dX7_fillClashing_56 ?_
  refine g_istore_n (ls1 := [some (.ref 47), some (.int v1), some (.int v2), some (.int (s0 ||| s1)), some (.int v4)]) (pc := 57) dX7_fillClashing_57 (by decide) rfl ?_
  refine g_iinc (v := v4 + 1) (ls1 := [some (.ref 47), some (.int v1), some (.int v2), some (.int (s0 ||| s1)), some (.int (v4 + 1))]) (pc := 58) dX7_fillClashing_58 rfl rfl (by decide) rfl ?_
  refine g_goto (tgt := 28) (pc := 61) dX7_fillClashing_61 (by decide) ?_
  cases h
  exact hK
def Pl_fillClashing_L28 (v1 : Int32) (v2 : Int32) (S : Sm) (q : Int32 × Int32) : Option ((Int32 × Int32) ⊕ (Int32)) := (if (4 : Int32) < q.2 then (some (.inr q.1)) else ((Pl_clashesOf v1 v2 q.2 S).bind fun q1 => (if q1 ≤ 0 then (Pl_fillClashing_56_L28 v1 v2 q.2 q.1 0 S) else (Pl_fillClashing_56_L28 v1 v2 q.2 q.1 (iShl 1 (q.2 + 4)) S))))
set_option maxRecDepth 4000 in
theorem t_Pl_fillClashing_L28 {V : Sm → Wd} (hV : VwC V) {l : Launch} {Γ : Gm} {rF : Option Value} {wF : Wd} {v1 : Int32} {v2 : Int32} {S : Sm} {q : Int32 × Int32} {o : (Int32 × Int32) ⊕ (Int32)} (h : Pl_fillClashing_L28 v1 v2 S q = some o) (hK : Sum.elim (hd_Pl_fillClashing_L28 V l Γ rF wF v1 v2 S) (ps_Pl_fillClashing_L28 V l Γ rF wF v1 v2 S) o) : hd_Pl_fillClashing_L28 V l Γ rF wF v1 v2 S q := by
  unfold Pl_fillClashing_L28 at h
  unfold hd_Pl_fillClashing_L28
  refine g_iload (pc := 28) dX7_fillClashing_28 rfl ?_
  refine g_iconst (v := 4) (pc := 30) dX7_fillClashing_30 (by decide) ?_
  refine g_icmp_gt (tgt := 64) (pc := 31) dX7_fillClashing_31 (by decide) (fun c3 => ?_) (fun c3 => ?_)
  · rw [if_pos c3] at h
    refine g_wk [true, true, true, true, false] rfl ?_
    cases h
    exact hK
  · rw [if_neg c3] at h
    refine g_iload_n (pc := 34) dX7_fillClashing_34 rfl ?_
    refine g_aload_n (pc := 35) dX7_fillClashing_35 rfl ?_
    refine g_iload_n (pc := 36) dX7_fillClashing_36 rfl ?_
    refine g_iload_n (pc := 37) dX7_fillClashing_37 rfl ?_
    refine g_iload (pc := 38) dX7_fillClashing_38 rfl ?_
    obtain ⟨q1, hq1, h⟩ := bnd h
    refine v_callVi hV (Mc := mX7_clashesOf) (v := q1) (S1 := S) (As := [.int v1, .int v2, .int q.2]) (rest := [.int q.1]) (q := (RX7, TX7, 9)) (pc := 40) dX7_fillClashing_40 mK_X7_91 mf_X7_clashesOf rfl k0_47 rfl rfl rfl (Nat.le_of_ble_eq_true rfl) ⟨Nat.le_of_ble_eq_true rfl, Nat.le_of_ble_eq_true rfl⟩ (r_Pl_clashesOf hV hq1) ?_
    refine g_if_le (tgt := 55) (pc := 43) dX7_fillClashing_43 (by decide) (fun c2 => ?_) (fun c2 => ?_)
    · rw [if_pos c2] at h
      refine g_iconst (v := 0) (pc := 55) dX7_fillClashing_55 (by decide) ?_
      refine g_wk [true, true, true, false, true] rfl ?_
      exact t_Pl_fillClashing_56_L28 hV h hK
    · rw [if_neg c2] at h
      refine g_iconst (v := 1) (pc := 46) dX7_fillClashing_46 (by decide) ?_
      refine g_iload (pc := 47) dX7_fillClashing_47 rfl ?_
      refine g_iconst (v := 4) (pc := 49) dX7_fillClashing_49 (by decide) ?_
      refine g_iadd (pc := 50) dX7_fillClashing_50 ?_
      refine g_ishl (pc := 51) dX7_fillClashing_51 ?_
      refine g_goto (tgt := 56) (pc := 52) dX7_fillClashing_52 (by decide) ?_
      refine g_wk [true, true, true, false, true] rfl ?_
      exact t_Pl_fillClashing_56_L28 hV h hK
set_option maxRecDepth 4000 in
theorem w_Pl_fillClashing_L28 {V : Sm → Wd} (hV : VwC V) {l : Launch} {Γ : Gm} {rF : Option Value} {wF : Wd} {v1 : Int32} {v2 : Int32} {S : Sm} {k : Nat} {q : Int32 × Int32} {o : Int32} (h : lpN (Pl_fillClashing_L28 v1 v2 S) k q = some o) (hP : ps_Pl_fillClashing_L28 V l Γ rF wF v1 v2 S o) : hd_Pl_fillClashing_L28 V l Γ rF wF v1 v2 S q := lpN_ind2 (hd_Pl_fillClashing_L28 V l Γ rF wF v1 v2 S) (ps_Pl_fillClashing_L28 V l Γ rF wF v1 v2 S) (fun s o h hK => t_Pl_fillClashing_L28 hV h hK) k q o h hP
def Pl_fillClashing_L14 (v1 : Int32) (q : Int32 × Sm) : Option ((Int32 × Sm) ⊕ (Sm)) := (if (Pl_trains q.2) ≤ q.1 then (some (.inr q.2)) else ((lpN (Pl_fillClashing_L28 v1 q.1 q.2) FU (0, (-4))).bind fun q4 => (app (puF q.2 51 36 ((v1 * 6) + q.1) q4) fun S5 => (some (.inl (q.1 + 1, S5))))))
set_option maxRecDepth 4000 in
theorem t_Pl_fillClashing_L14 {V : Sm → Wd} (hV : VwC V) {l : Launch} {Γ : Gm} {rF : Option Value} {wF : Wd} {v1 : Int32} {q : Int32 × Sm} {o : (Int32 × Sm) ⊕ (Sm)} (h : Pl_fillClashing_L14 v1 q = some o) (hK : Sum.elim (hd_Pl_fillClashing_L14 V l Γ rF wF v1) (ps_Pl_fillClashing_L14 V l Γ rF wF v1) o) : hd_Pl_fillClashing_L14 V l Γ rF wF v1 q := by
  unfold Pl_fillClashing_L14 at h
  unfold hd_Pl_fillClashing_L14
  refine g_iload_n (pc := 14) dX7_fillClashing_14 rfl ?_
  refine g_aload_n (pc := 15) dX7_fillClashing_15 rfl ?_
  refine v_callVi hV (Mc := mX7_trains) (v := Pl_trains q.2) (S1 := q.2) (As := []) (rest := [.int q.1]) (q := (RX7, TX7, 9)) (pc := 16) dX7_fillClashing_16 mK_X7_48 mf_X7_trains rfl k0_47 rfl rfl rfl (Nat.le_of_ble_eq_true rfl) ⟨Nat.le_of_ble_eq_true rfl, Nat.le_of_ble_eq_true rfl⟩ (r_Pl_trains hV rfl) ?_
  refine g_icmp_ge (tgt := 84) (pc := 19) dX7_fillClashing_19 (by decide) (fun c6 => ?_) (fun c6 => ?_)
  · rw [if_pos c6] at h
    refine g_wk [true, true, false, false, false] rfl ?_
    cases h
    exact hK
  · rw [if_neg c6] at h
    refine g_iconst (v := 0) (pc := 22) dX7_fillClashing_22 (by decide) ?_
    refine g_istore_n (ls1 := [some (.ref 47), some (.int v1), some (.int q.1), some (.int 0), none]) (pc := 23) dX7_fillClashing_23 (by decide) rfl ?_
    refine g_bipush (v := (-4)) (pc := 24) dX7_fillClashing_24 (by decide) ?_
    refine g_istore (ls1 := [some (.ref 47), some (.int v1), some (.int q.1), some (.int 0), some (.int ((-4)))]) (pc := 26) dX7_fillClashing_26 (by decide) rfl ?_
    obtain ⟨q4, hqq4, h⟩ := bnd h
    refine w_Pl_fillClashing_L28 hV hqq4 ?_
    unfold ps_Pl_fillClashing_L28
    show G _ _ _ _ _ _ _ _ _ _ _
    refine g_aload_n (pc := 64) dX7_fillClashing_64 rfl ?_
    refine v_getR hV (pc := 65) dX7_fillClashing_65 fo_7_5 rfl k0_47 r0_47_5 ?_
    refine g_iload_n (pc := 68) dX7_fillClashing_68 rfl ?_
    refine g_bipush (v := 6) (pc := 69) dX7_fillClashing_69 (by decide) ?_
    refine g_imul (pc := 71) dX7_fillClashing_71 ?_
    refine g_iload_n (pc := 72) dX7_fillClashing_72 rfl ?_
    refine g_iadd (pc := 73) dX7_fillClashing_73 ?_
    refine g_iload_n (pc := 74) dX7_fillClashing_74 rfl ?_
    obtain ⟨S5, hS5, h⟩ := app_of h
    refine v_callNv (Mc := mX11_put) (S1 := S5) (As := [.ref 51, .int ((v1 * 6) + q.1), .int q4]) (rest := []) (pc := 75) dX7_fillClashing_75 nl_X7_80 mf_X11_put rfl rfl (Nat.le_of_ble_eq_true rfl) ⟨Nat.le_of_ble_eq_true rfl, Nat.le_of_ble_eq_true rfl⟩ (r_put hV k0_51 own_51 (by decide) hS5) ?_
    refine g_iinc (v := q.1 + 1) (ls1 := [some (.ref 47), some (.int v1), some (.int (q.1 + 1)), some (.int q4), none]) (pc := 78) dX7_fillClashing_78 rfl rfl (by decide) rfl ?_
    refine g_goto (tgt := 14) (pc := 81) dX7_fillClashing_81 (by decide) ?_
    refine g_wk [true, true, true, false, false] rfl ?_
    cases h
    exact hK
set_option maxRecDepth 4000 in
theorem w_Pl_fillClashing_L14 {V : Sm → Wd} (hV : VwC V) {l : Launch} {Γ : Gm} {rF : Option Value} {wF : Wd} {v1 : Int32} {k : Nat} {q : Int32 × Sm} {o : Sm} (h : lpN (Pl_fillClashing_L14 v1) k q = some o) (hP : ps_Pl_fillClashing_L14 V l Γ rF wF v1 o) : hd_Pl_fillClashing_L14 V l Γ rF wF v1 q := lpN_ind2 (hd_Pl_fillClashing_L14 V l Γ rF wF v1) (ps_Pl_fillClashing_L14 V l Γ rF wF v1) (fun s o h hK => t_Pl_fillClashing_L14 hV h hK) k q o h hP
def Pl_fillClashing_L2 (q : Int32 × Sm) : Option ((Int32 × Sm) ⊕ (Sm)) := (if (Pl_trains q.2) ≤ q.1 then (some (.inr q.2)) else ((lpN (Pl_fillClashing_L14 q.1) FU (q.1 + 1, q.2)).bind fun q7 => (some (.inl (q.1 + 1, q7)))))
set_option maxRecDepth 4000 in
theorem t_Pl_fillClashing_L2 {V : Sm → Wd} (hV : VwC V) {l : Launch} {Γ : Gm} {rF : Option Value} {wF : Wd}  {q : Int32 × Sm} {o : (Int32 × Sm) ⊕ (Sm)} (h : Pl_fillClashing_L2 q = some o) (hK : Sum.elim (hd_Pl_fillClashing_L2 V l Γ rF wF) (ps_Pl_fillClashing_L2 V l Γ rF wF) o) : hd_Pl_fillClashing_L2 V l Γ rF wF q := by
  unfold Pl_fillClashing_L2 at h
  unfold hd_Pl_fillClashing_L2
  refine g_iload_n (pc := 2) dX7_fillClashing_2 rfl ?_
  refine g_aload_n (pc := 3) dX7_fillClashing_3 rfl ?_
  refine v_callVi hV (Mc := mX7_trains) (v := Pl_trains q.2) (S1 := q.2) (As := []) (rest := [.int q.1]) (q := (RX7, TX7, 9)) (pc := 4) dX7_fillClashing_4 mK_X7_48 mf_X7_trains rfl k0_47 rfl rfl rfl (Nat.le_of_ble_eq_true rfl) ⟨Nat.le_of_ble_eq_true rfl, Nat.le_of_ble_eq_true rfl⟩ (r_Pl_trains hV rfl) ?_
  refine g_icmp_ge (tgt := 90) (pc := 7) dX7_fillClashing_7 (by decide) (fun c8 => ?_) (fun c8 => ?_)
  · rw [if_pos c8] at h
    refine g_wk [false, false, false, false, false] rfl ?_
    cases h
    exact hK
  · rw [if_neg c8] at h
    refine g_iload_n (pc := 10) dX7_fillClashing_10 rfl ?_
    refine g_iconst (v := 1) (pc := 11) dX7_fillClashing_11 (by decide) ?_
    refine g_iadd (pc := 12) dX7_fillClashing_12 ?_
    refine g_istore_n (ls1 := [some (.ref 47), some (.int q.1), some (.int (q.1 + 1)), none, none]) (pc := 13) dX7_fillClashing_13 (by decide) rfl ?_
    obtain ⟨q7, hqq7, h⟩ := bnd h
    refine w_Pl_fillClashing_L14 hV hqq7 ?_
    unfold ps_Pl_fillClashing_L14
    show G _ _ _ _ _ _ _ _ _ _ _
    refine g_iinc (v := q.1 + 1) (ls1 := [some (.ref 47), some (.int (q.1 + 1)), none, none, none]) (pc := 84) dX7_fillClashing_84 rfl rfl (by decide) rfl ?_
    refine g_goto (tgt := 2) (pc := 87) dX7_fillClashing_87 (by decide) ?_
    cases h
    exact hK
set_option maxRecDepth 4000 in
theorem w_Pl_fillClashing_L2 {V : Sm → Wd} (hV : VwC V) {l : Launch} {Γ : Gm} {rF : Option Value} {wF : Wd}  {k : Nat} {q : Int32 × Sm} {o : Sm} (h : lpN (Pl_fillClashing_L2) k q = some o) (hP : ps_Pl_fillClashing_L2 V l Γ rF wF o) : hd_Pl_fillClashing_L2 V l Γ rF wF q := lpN_ind2 (hd_Pl_fillClashing_L2 V l Γ rF wF) (ps_Pl_fillClashing_L2 V l Γ rF wF) (fun s o h hK => t_Pl_fillClashing_L2 hV h hK) k q o h hP
def Pl_fillClashing (S : Sm) : Option (Sm) := ((lpN (Pl_fillClashing_L2) FU (0, S)).bind fun q9 => (some q9))
set_option maxRecDepth 4000 in
theorem r_Pl_fillClashing {V : Sm → Wd} (hV : VwC V)  {S : Sm} {q : Sm} (h : Pl_fillClashing S = some q) : Runs 3 mX7_fillClashing [.ref 47] (V S) none (V q) 0 0 := by
  unfold Pl_fillClashing at h
  refine Runs.of2 [some (.ref 47), none, none, none, none] 4 rfl rfl (Nat.le_of_ble_eq_true rfl) (fun l Γ => ?_)
  refine g_iconst (v := 0) (pc := 0) dX7_fillClashing_0 (by decide) ?_
  refine g_istore_n (ls1 := [some (.ref 47), some (.int 0), none, none, none]) (pc := 1) dX7_fillClashing_1 (by decide) rfl ?_
  obtain ⟨q9, hqq9, h⟩ := bnd h
  refine w_Pl_fillClashing_L2 hV hqq9 ?_
  unfold ps_Pl_fillClashing_L2
  show G _ _ _ _ _ _ _ _ _ _ _
  cases h
  exact g_vret (pc := 90) dX7_fillClashing_90 rfl (Nat.le_refl _) (Nat.le_refl _)
def hd_Pl_fits_L2 (V : Sm → Wd) (l : Launch) (Γ : Gm) (rF : Option Value) (wF : Wd) (v1 : Int32) (v2 : Int32) (S : Sm) (q : Int32) : Prop := G mX7_fits l Γ (rmD 1 0 0) (mQ Γ rF wF 0 0) 0 0 2 [some (.ref 47), some (.int v1), some (.int v2), some (.int q), none] [] (V S)
def ps_Pl_fits_L2 (V : Sm → Wd) (l : Launch) (Γ : Gm) (rF : Option Value) (wF : Wd) (v1 : Int32) (v2 : Int32) (S : Sm) (x : (Unit) ⊕ (Unit)) : Prop := (Sum.elim (fun (a : Unit) => G mX7_fits l Γ (rmD 1 0 0) (mQ Γ rF wF 0 0) 0 0 42 [none, none, none, none, none] [] (V S)) (fun (a : Unit) => G mX7_fits l Γ (rmD 1 0 0) (mQ Γ rF wF 0 0) 0 0 50 [none, none, none, none, none] [] (V S))) x
def Pl_fits_L2 (v1 : Int32) (v2 : Int32) (S : Sm) (q : Int32) : Option ((Int32) ⊕ ((Unit) ⊕ (Unit))) := (if v1 ≤ q then (some (.inr (.inr ()))) else (if (Dk_holds (atF (gi S 51) 36 ((q * 6) + v1)) (((atF (gi S 52) 6 q) - v2) + 4)) = 0 then (some (.inl (q + 1))) else (some (.inr (.inl ())))))
set_option maxRecDepth 4000 in
theorem t_Pl_fits_L2 {V : Sm → Wd} (hV : VwC V) {l : Launch} {Γ : Gm} {rF : Option Value} {wF : Wd} {v1 : Int32} {v2 : Int32} {S : Sm} {q : Int32} {o : (Int32) ⊕ ((Unit) ⊕ (Unit))} (h : Pl_fits_L2 v1 v2 S q = some o) (hK : Sum.elim (hd_Pl_fits_L2 V l Γ rF wF v1 v2 S) (ps_Pl_fits_L2 V l Γ rF wF v1 v2 S) o) : hd_Pl_fits_L2 V l Γ rF wF v1 v2 S q := by
  unfold Pl_fits_L2 at h
  unfold hd_Pl_fits_L2
  refine g_iload_n (pc := 2) dX7_fits_2 rfl ?_
  refine g_iload_n (pc := 3) dX7_fits_3 rfl ?_
  refine g_icmp_ge (tgt := 50) (pc := 4) dX7_fits_4 (by decide) (fun c2 => ?_) (fun c2 => ?_)
  · rw [if_pos c2] at h
    refine g_wk [false, false, false, false, false] rfl ?_
    cases h
    exact hK
  · rw [if_neg c2] at h
    refine g_aload_n (pc := 7) dX7_fits_7 rfl ?_
    refine v_getR hV (pc := 8) dX7_fits_8 fo_7_6 rfl k0_47 r0_47_6 ?_
    refine g_iload_n (pc := 11) dX7_fits_11 rfl ?_
    refine v_callNi (Mc := mX11_at) (v := atF (gi S 52) 6 q) (S1 := S) (As := [.ref 52, .int q]) (rest := []) (pc := 12) dX7_fits_12 nl_X7_84 mf_X11_at rfl rfl (Nat.le_of_ble_eq_true rfl) ⟨Nat.le_of_ble_eq_true rfl, Nat.le_of_ble_eq_true rfl⟩ (r_at hV k0_52 own_52 (by decide)) ?_
    refine g_iload_n (pc := 15) dX7_fits_15 rfl ?_
    refine g_isub (pc := 16) dX7_fits_16 ?_
    refine g_istore (ls1 := [some (.ref 47), some (.int v1), some (.int v2), some (.int q), some (.int ((atF (gi S 52) 6 q) - v2))]) (pc := 17) dX7_fits_17 (by decide) rfl ?_
    refine g_aload_n (pc := 19) dX7_fits_19 rfl ?_
    refine v_getR hV (pc := 20) dX7_fits_20 fo_7_5 rfl k0_47 r0_47_5 ?_
    refine g_iload_n (pc := 23) dX7_fits_23 rfl ?_
    refine g_bipush (v := 6) (pc := 24) dX7_fits_24 (by decide) ?_
    refine g_imul (pc := 26) dX7_fits_26 ?_
    refine g_iload_n (pc := 27) dX7_fits_27 rfl ?_
    refine g_iadd (pc := 28) dX7_fits_28 ?_
    refine v_callNi (Mc := mX11_at) (v := atF (gi S 51) 36 ((q * 6) + v1)) (S1 := S) (As := [.ref 51, .int ((q * 6) + v1)]) (rest := []) (pc := 29) dX7_fits_29 nl_X7_84 mf_X11_at rfl rfl (Nat.le_of_ble_eq_true rfl) ⟨Nat.le_of_ble_eq_true rfl, Nat.le_of_ble_eq_true rfl⟩ (r_at hV k0_51 own_51 (by decide)) ?_
    refine g_iload (pc := 32) dX7_fits_32 rfl ?_
    refine g_iconst (v := 4) (pc := 34) dX7_fits_34 (by decide) ?_
    refine g_iadd (pc := 35) dX7_fits_35 ?_
    refine v_callNi (Mc := mX11_holds) (v := Dk_holds (atF (gi S 51) 36 ((q * 6) + v1)) (((atF (gi S 52) 6 q) - v2) + 4)) (S1 := S) (As := [.int (atF (gi S 51) 36 ((q * 6) + v1)), .int (((atF (gi S 52) 6 q) - v2) + 4)]) (rest := []) (pc := 36) dX7_fits_36 nl_X7_108 mf_X11_holds rfl rfl (Nat.le_of_ble_eq_true rfl) ⟨Nat.le_of_ble_eq_true rfl, Nat.le_of_ble_eq_true rfl⟩ (r_Dk_holds hV rfl) ?_
    refine g_if_eq (tgt := 44) (pc := 39) dX7_fits_39 (by decide) (fun c1 => ?_) (fun c1 => ?_)
    · rw [if_pos c1] at h
      refine g_iinc (v := q + 1) (ls1 := [some (.ref 47), some (.int v1), some (.int v2), some (.int (q + 1)), some (.int ((atF (gi S 52) 6 q) - v2))]) (pc := 44) dX7_fits_44 rfl rfl (by decide) rfl ?_
      refine g_goto (tgt := 2) (pc := 47) dX7_fits_47 (by decide) ?_
      refine g_wk [true, true, true, true, false] rfl ?_
      cases h
      exact hK
    · rw [if_neg c1] at h
      refine g_wk [false, false, false, false, false] rfl ?_
      cases h
      exact hK
set_option maxRecDepth 4000 in
theorem w_Pl_fits_L2 {V : Sm → Wd} (hV : VwC V) {l : Launch} {Γ : Gm} {rF : Option Value} {wF : Wd} {v1 : Int32} {v2 : Int32} {S : Sm} {k : Nat} {q : Int32} {o : (Unit) ⊕ (Unit)} (h : lpN (Pl_fits_L2 v1 v2 S) k q = some o) (hP : ps_Pl_fits_L2 V l Γ rF wF v1 v2 S o) : hd_Pl_fits_L2 V l Γ rF wF v1 v2 S q := lpN_ind2 (hd_Pl_fits_L2 V l Γ rF wF v1 v2 S) (ps_Pl_fits_L2 V l Γ rF wF v1 v2 S) (fun s o h hK => t_Pl_fits_L2 hV h hK) k q o h hP
def Pl_fits (v1 : Int32) (v2 : Int32) (S : Sm) : Option (Int32) := ((lpN (Pl_fits_L2 v1 v2 S) FU 0).bind fun q3 => (Sum.elim (fun a4 => (some 0)) (fun a5 => (some 1)) q3))
set_option maxRecDepth 4000 in
theorem r_Pl_fits {V : Sm → Wd} (hV : VwC V) {v1 : Int32} {v2 : Int32} {S : Sm} {q : Int32} (h : Pl_fits v1 v2 S = some q) : Runs 1 mX7_fits [.ref 47, .int v1, .int v2] (V S) (some (.int q)) (V S) 0 0 := by
  unfold Pl_fits at h
  refine Runs.of2 [some (.ref 47), some (.int v1), some (.int v2), none, none] 2 rfl rfl (Nat.le_of_ble_eq_true rfl) (fun l Γ => ?_)
  refine g_iconst (v := 0) (pc := 0) dX7_fits_0 (by decide) ?_
  refine g_istore_n (ls1 := [some (.ref 47), some (.int v1), some (.int v2), some (.int 0), none]) (pc := 1) dX7_fits_1 (by decide) rfl ?_
  obtain ⟨q3, hqq3, h⟩ := bnd h
  refine w_Pl_fits_L2 hV hqq3 ?_
  unfold ps_Pl_fits_L2
  cases q3 with
  | inl a4 =>
    simp only [Sum.elim_inl] at h
    show G _ _ _ _ _ _ _ _ _ _ _
    refine g_iconst (v := 0) (pc := 42) dX7_fits_42 (by decide) ?_
    cases h
    exact g_iret (u := 0) (pc := 43) dX7_fits_43 rfl (by decide) (Nat.le_refl _) (Nat.le_refl _)
  | inr a5 =>
    simp only [Sum.elim_inr] at h
    show G _ _ _ _ _ _ _ _ _ _ _
    refine g_iconst (v := 1) (pc := 50) dX7_fits_50 (by decide) ?_
    cases h
    exact g_iret (u := 1) (pc := 51) dX7_fits_51 rfl (by decide) (Nat.le_refl _) (Nat.le_refl _)
def Pl_place_14 (rc : Nat → Int32 → Int32 → Int32 → Sm → Option Sm) (v2 : Int32) (v3 : Int32) (S : Sm) : Option (Sm) := (some (si (si S 47 7 v2) 47 8 v3))
set_option maxRecDepth 4000 in
theorem t_Pl_place_14 {V : Sm → Wd} (hV : VwC V) {D0 : Nat} (hD0 : 2 ≤ D0) {rc : Nat → Int32 → Int32 → Int32 → Sm → Option Sm} (hrc : (∀ (u0 u1 u2 : Int32) (S q : Sm), rc 0 u0 u1 u2 S = some q → Runs D0 mX7_place [.ref 47, .int u0, .int u1, .int u2] (V S) none (V q) 0 0)) {l : Launch} {Γ : Gm} {v2 : Int32} {v3 : Int32} {S : Sm} {q : Sm} (h : Pl_place_14 rc v2 v3 S = some q) : G mX7_place l Γ (rmD (D0 + 1) 0 0) (mQ Γ none (V q) 0 0) 0 0 14 [some (.ref 47), none, some (.int v2), some (.int v3), none] [] (V S) := by
  unfold Pl_place_14 at h
  refine g_aload_n (pc := 14) dX7_place_14 rfl ?_
  refine g_iload_n (pc := 15) dX7_place_15 rfl ?_
  refine v_putI hV (pc := 16) dX7_place_16 fo_7_7 rfl k0_47 own_47 rfl ?_
  refine g_aload_n (pc := 19) dX7_place_19 rfl ?_
  refine g_iload_n (pc := 20) dX7_place_20 rfl ?_
  refine v_putI hV (pc := 21) dX7_place_21 fo_7_8 rfl k0_47 own_47 rfl ?_
  cases h
  exact g_vret (pc := 24) dX7_place_24 rfl (Nat.le_refl _) (Nat.le_refl _)
def hd_Pl_place_L28 (V : Sm → Wd) (D0 : Nat) (l : Launch) (Γ : Gm) (rF : Option Value) (wF : Wd) (v1 : Int32) (v2 : Int32) (v3 : Int32) (q : Int32 × Sm) : Prop := G mX7_place l Γ (rmD (D0 + 1) 0 0) (mQ Γ rF wF 0 0) 0 0 28 [some (.ref 47), some (.int v1), some (.int v2), some (.int v3), some (.int q.1)] [] (V q.2)
def ps_Pl_place_L28 (V : Sm → Wd) (D0 : Nat) (l : Launch) (Γ : Gm) (rF : Option Value) (wF : Wd) (v1 : Int32) (v2 : Int32) (v3 : Int32) (x : Sm) : Prop := (fun (a : Sm) => G mX7_place l Γ (rmD (D0 + 1) 0 0) (mQ Γ rF wF 0 0) 0 0 89 [none, none, none, none, none] [] (V a)) x
def Pl_place_83_L28 (rc : Nat → Int32 → Int32 → Int32 → Sm → Option Sm) (v1 : Int32) (v2 : Int32) (v3 : Int32) (v4 : Int32) (S : Sm) : Option ((Int32 × Sm) ⊕ (Sm)) := (some (.inl (v4 + 1, S)))
set_option maxRecDepth 4000 in
theorem t_Pl_place_83_L28 {V : Sm → Wd} (hV : VwC V) {D0 : Nat} (hD0 : 2 ≤ D0) {rc : Nat → Int32 → Int32 → Int32 → Sm → Option Sm} (hrc : (∀ (u0 u1 u2 : Int32) (S q : Sm), rc 0 u0 u1 u2 S = some q → Runs D0 mX7_place [.ref 47, .int u0, .int u1, .int u2] (V S) none (V q) 0 0)) {l : Launch} {Γ : Gm} {v1 : Int32} {v2 : Int32} {v3 : Int32} {v4 : Int32} {rF : Option Value} {wF : Wd} {S : Sm} {o : (Int32 × Sm) ⊕ (Sm)} (h : Pl_place_83_L28 rc v1 v2 v3 v4 S = some o) (hK : Sum.elim (hd_Pl_place_L28 V D0 l Γ rF wF v1 v2 v3) (ps_Pl_place_L28 V D0 l Γ rF wF v1 v2 v3) o) : G mX7_place l Γ (rmD (D0 + 1) 0 0) (mQ Γ rF wF 0 0) 0 0 83 [some (.ref 47), some (.int v1), some (.int v2), some (.int v3), some (.int v4)] [] (V S) := by
  unfold Pl_place_83_L28 at h
  refine g_iinc (v := v4 + 1) (ls1 := [some (.ref 47), some (.int v1), some (.int v2), some (.int v3), some (.int (v4 + 1))]) (pc := 83) dX7_place_83 rfl rfl (by decide) rfl ?_
  refine g_goto (tgt := 28) (pc := 86) dX7_place_86 (by decide) ?_
  cases h
  exact hK
def Pl_place_L28 (rc : Nat → Int32 → Int32 → Int32 → Sm → Option Sm) (v1 : Int32) (v2 : Int32) (v3 : Int32) (q : Int32 × Sm) : Option ((Int32 × Sm) ⊕ (Sm)) := (if (4 : Int32) < q.1 then (some (.inr q.2)) else (if (gi q.2 47 7) ≤ (v2 + q.1) then (some (.inr q.2)) else ((Pl_fits v1 q.1 q.2).bind fun q1 => (if q1 = 0 then (Pl_place_83_L28 rc v1 v2 v3 q.1 q.2) else (app (puF q.2 52 6 v1 q.1) fun S2 => ((rc 0 (v1 + 1) (v2 + q.1) ((v3 * 10) + q.1) S2).bind fun q3 => (Pl_place_83_L28 rc v1 v2 v3 q.1 q3)))))))
set_option maxRecDepth 4000 in
theorem t_Pl_place_L28 {V : Sm → Wd} (hV : VwC V) {D0 : Nat} (hD0 : 2 ≤ D0) {rc : Nat → Int32 → Int32 → Int32 → Sm → Option Sm} (hrc : (∀ (u0 u1 u2 : Int32) (S q : Sm), rc 0 u0 u1 u2 S = some q → Runs D0 mX7_place [.ref 47, .int u0, .int u1, .int u2] (V S) none (V q) 0 0)) {l : Launch} {Γ : Gm} {rF : Option Value} {wF : Wd} {v1 : Int32} {v2 : Int32} {v3 : Int32} {q : Int32 × Sm} {o : (Int32 × Sm) ⊕ (Sm)} (h : Pl_place_L28 rc v1 v2 v3 q = some o) (hK : Sum.elim (hd_Pl_place_L28 V D0 l Γ rF wF v1 v2 v3) (ps_Pl_place_L28 V D0 l Γ rF wF v1 v2 v3) o) : hd_Pl_place_L28 V D0 l Γ rF wF v1 v2 v3 q := by
  unfold Pl_place_L28 at h
  unfold hd_Pl_place_L28
  refine g_iload (pc := 28) dX7_place_28 rfl ?_
  refine g_iconst (v := 4) (pc := 30) dX7_place_30 (by decide) ?_
  refine g_icmp_gt (tgt := 89) (pc := 31) dX7_place_31 (by decide) (fun c6 => ?_) (fun c6 => ?_)
  · rw [if_pos c6] at h
    refine g_wk [false, false, false, false, false] rfl ?_
    cases h
    exact hK
  · rw [if_neg c6] at h
    refine g_iload_n (pc := 34) dX7_place_34 rfl ?_
    refine g_iload (pc := 35) dX7_place_35 rfl ?_
    refine g_iadd (pc := 37) dX7_place_37 ?_
    refine g_aload_n (pc := 38) dX7_place_38 rfl ?_
    refine v_getI hV (pc := 39) dX7_place_39 fo_7_7 rfl k0_47 own_47 ?_
    refine g_icmp_ge (tgt := 89) (pc := 42) dX7_place_42 (by decide) (fun c5 => ?_) (fun c5 => ?_)
    · rw [if_pos c5] at h
      refine g_wk [false, false, false, false, false] rfl ?_
      cases h
      exact hK
    · rw [if_neg c5] at h
      refine g_aload_n (pc := 45) dX7_place_45 rfl ?_
      refine g_iload_n (pc := 46) dX7_place_46 rfl ?_
      refine g_iload (pc := 47) dX7_place_47 rfl ?_
      obtain ⟨q1, hq1, h⟩ := bnd h
      refine v_callVi hV (Mc := mX7_fits) (v := q1) (S1 := q.2) (As := [.int v1, .int q.1]) (rest := []) (q := (RX7, TX7, 9)) (pc := 49) dX7_place_49 mK_X7_104 mf_X7_fits rfl k0_47 rfl rfl rfl (Nat.le_of_ble_eq_true rfl) ⟨by show 1 + 1 ≤ D0 + 1; omega, by show 8 + (5 + 11) + 64 * 1 ≤ 64 * (D0 + 1); omega⟩ (r_Pl_fits hV hq1) ?_
      refine g_if_eq (tgt := 83) (pc := 52) dX7_place_52 (by decide) (fun c4 => ?_) (fun c4 => ?_)
      · rw [if_pos c4] at h
        exact t_Pl_place_83_L28 hV hD0 hrc h hK
      · rw [if_neg c4] at h
        refine g_aload_n (pc := 55) dX7_place_55 rfl ?_
        refine v_getR hV (pc := 56) dX7_place_56 fo_7_6 rfl k0_47 r0_47_6 ?_
        refine g_iload_n (pc := 59) dX7_place_59 rfl ?_
        refine g_iload (pc := 60) dX7_place_60 rfl ?_
        obtain ⟨S2, hS2, h⟩ := app_of h
        refine v_callNv (Mc := mX11_put) (S1 := S2) (As := [.ref 52, .int v1, .int q.1]) (rest := []) (pc := 62) dX7_place_62 nl_X7_80 mf_X11_put rfl rfl (Nat.le_of_ble_eq_true rfl) ⟨by show 0 + 1 ≤ D0 + 1; omega, by show 8 + (3 + 11) + 64 * 0 ≤ 64 * (D0 + 1); omega⟩ (r_put hV k0_52 own_52 (by decide) hS2) ?_
        refine g_aload_n (pc := 65) dX7_place_65 rfl ?_
        refine g_iload_n (pc := 66) dX7_place_66 rfl ?_
        refine g_iconst (v := 1) (pc := 67) dX7_place_67 (by decide) ?_
        refine g_iadd (pc := 68) dX7_place_68 ?_
        refine g_iload_n (pc := 69) dX7_place_69 rfl ?_
        refine g_iload (pc := 70) dX7_place_70 rfl ?_
        refine g_iadd (pc := 72) dX7_place_72 ?_
        refine g_iload_n (pc := 73) dX7_place_73 rfl ?_
        refine g_bipush (v := 10) (pc := 74) dX7_place_74 (by decide) ?_
        refine g_imul (pc := 76) dX7_place_76 ?_
        refine g_iload (pc := 77) dX7_place_77 rfl ?_
        refine g_iadd (pc := 79) dX7_place_79 ?_
        obtain ⟨q3, hq3, h⟩ := bnd h
        refine v_callVv hV (Mc := mX7_place) (S1 := q3) (As := [.int (v1 + 1), .int (v2 + q.1), .int ((v3 * 10) + q.1)]) (rest := []) (q := (RX7, TX7, 9)) (pc := 80) dX7_place_80 mK_X7_97 mf_X7_place rfl k0_47 rfl rfl rfl (Nat.le_of_ble_eq_true rfl) ⟨by show D0 + 1 ≤ D0 + 1; omega, by show 8 + (5 + 11) + 64 * D0 ≤ 64 * (D0 + 1); omega⟩ (hrc _ _ _ _ _ hq3) ?_
        exact t_Pl_place_83_L28 hV hD0 hrc h hK
set_option maxRecDepth 4000 in
theorem w_Pl_place_L28 {V : Sm → Wd} (hV : VwC V) {D0 : Nat} (hD0 : 2 ≤ D0) {rc : Nat → Int32 → Int32 → Int32 → Sm → Option Sm} (hrc : (∀ (u0 u1 u2 : Int32) (S q : Sm), rc 0 u0 u1 u2 S = some q → Runs D0 mX7_place [.ref 47, .int u0, .int u1, .int u2] (V S) none (V q) 0 0)) {l : Launch} {Γ : Gm} {rF : Option Value} {wF : Wd} {v1 : Int32} {v2 : Int32} {v3 : Int32} {k : Nat} {q : Int32 × Sm} {o : Sm} (h : lpN (Pl_place_L28 rc v1 v2 v3) k q = some o) (hP : ps_Pl_place_L28 V D0 l Γ rF wF v1 v2 v3 o) : hd_Pl_place_L28 V D0 l Γ rF wF v1 v2 v3 q := lpN_ind2 (hd_Pl_place_L28 V D0 l Γ rF wF v1 v2 v3) (ps_Pl_place_L28 V D0 l Γ rF wF v1 v2 v3) (fun s o h hK => t_Pl_place_L28 hV hD0 hrc h hK) k q o h hP
def Pl_place (rc : Nat → Int32 → Int32 → Int32 → Sm → Option Sm) (v1 : Int32) (v2 : Int32) (v3 : Int32) (S : Sm) : Option (Sm) := (if (6 : Int32) ≤ v1 then (Pl_place_14 rc v2 v3 S) else (if v1 < (Pl_trains S) then ((lpN (Pl_place_L28 rc v1 v2 v3) FU (0, S)).bind fun q7 => (some q7)) else (Pl_place_14 rc v2 v3 S)))
set_option maxRecDepth 4000 in
theorem rb_Pl_place {V : Sm → Wd} (hV : VwC V) {D0 : Nat} (hD0 : 2 ≤ D0) {rc : Nat → Int32 → Int32 → Int32 → Sm → Option Sm} (hrc : (∀ (u0 u1 u2 : Int32) (S q : Sm), rc 0 u0 u1 u2 S = some q → Runs D0 mX7_place [.ref 47, .int u0, .int u1, .int u2] (V S) none (V q) 0 0)) {v1 : Int32} {v2 : Int32} {v3 : Int32} {S : Sm} {q : Sm} (h : Pl_place rc v1 v2 v3 S = some q) : Runs (D0 + 1) mX7_place [.ref 47, .int v1, .int v2, .int v3] (V S) none (V q) 0 0 := by
  unfold Pl_place at h
  refine Runs.of2 [some (.ref 47), some (.int v1), some (.int v2), some (.int v3), none] 1 rfl rfl (Nat.le_of_ble_eq_true rfl) (fun l Γ => ?_)
  refine g_iload_n (pc := 0) dX7_place_0 rfl ?_
  refine g_bipush (v := 6) (pc := 1) dX7_place_1 (by decide) ?_
  refine g_icmp_ge (tgt := 14) (pc := 3) dX7_place_3 (by decide) (fun c9 => ?_) (fun c9 => ?_)
  · rw [if_pos c9] at h
    refine g_wk [true, false, true, true, false] rfl ?_
    exact t_Pl_place_14 hV hD0 hrc h
  · rw [if_neg c9] at h
    refine g_iload_n (pc := 6) dX7_place_6 rfl ?_
    refine g_aload_n (pc := 7) dX7_place_7 rfl ?_
    refine v_callVi hV (Mc := mX7_trains) (v := Pl_trains S) (S1 := S) (As := []) (rest := [.int v1]) (q := (RX7, TX7, 9)) (pc := 8) dX7_place_8 mK_X7_48 mf_X7_trains rfl k0_47 rfl rfl rfl (Nat.le_of_ble_eq_true rfl) ⟨by show 2 + 1 ≤ D0 + 1; omega, by show 8 + (1 + 11) + 64 * 2 ≤ 64 * (D0 + 1); omega⟩ (r_Pl_trains hV rfl) ?_
    refine g_icmp_lt (tgt := 25) (pc := 11) dX7_place_11 (by decide) (fun c8 => ?_) (fun c8 => ?_)
    · rw [if_pos c8] at h
      refine g_iconst (v := 0) (pc := 25) dX7_place_25 (by decide) ?_
      refine g_istore (ls1 := [some (.ref 47), some (.int v1), some (.int v2), some (.int v3), some (.int 0)]) (pc := 26) dX7_place_26 (by decide) rfl ?_
      obtain ⟨q7, hqq7, h⟩ := bnd h
      refine w_Pl_place_L28 hV hD0 hrc hqq7 ?_
      unfold ps_Pl_place_L28
      show G _ _ _ _ _ _ _ _ _ _ _
      cases h
      exact g_vret (pc := 89) dX7_place_89 rfl (Nat.le_refl _) (Nat.le_refl _)
    · rw [if_neg c8] at h
      refine g_wk [true, false, true, true, false] rfl ?_
      exact t_Pl_place_14 hV hD0 hrc h
def fPl : Nat → Nat → Int32 → Int32 → Int32 → Sm → Option Sm
  | 0, _, _, _, _, _ => none
  | D + 1, i, u0, u1, u2, S => Pl_place (fPl D) u0 u1 u2 S
set_option maxRecDepth 4000 in
theorem fPl_ok {V : Sm → Wd} (hV : VwC V) : ∀ D : Nat, (∀ (u0 u1 u2 : Int32) (S q : Sm), fPl D 0 u0 u1 u2 S = some q → Runs (2 + D) mX7_place [.ref 47, .int u0, .int u1, .int u2] (V S) none (V q) 0 0)
  | 0 => fun _ _ _ _ _ h => by cases h
  | D + 1 => fun u0 u1 u2 S q h => rb_Pl_place hV (D0 := 2 + D) (by omega) (fPl_ok hV D) h
def Pl_place_r (u0 : Int32) (u1 : Int32) (u2 : Int32) (S : Sm) : Option Sm := fPl 10 0 u0 u1 u2 S
set_option maxRecDepth 4000 in
theorem r_Pl_place_r {V : Sm → Wd} (hV : VwC V) {u0 : Int32} {u1 : Int32} {u2 : Int32} {S q : Sm} (h : Pl_place_r u0 u1 u2 S = some q) : Runs 12 mX7_place [.ref 47, .int u0, .int u1, .int u2] (V S) none (V q) 0 0 := (fPl_ok hV 10) _ _ _ _ _ h
def Pl_plan (S : Sm) : Option (Sm) := ((Pl_followTrains S).bind fun q1 => ((Pl_fillClashing q1).bind fun q2 => ((Pl_place_r 0 0 0 (si (si q2 47 7 1000) 47 8 ((-1)))).bind fun q3 => (some q3))))
set_option maxRecDepth 4000 in
theorem r_Pl_plan {V : Sm → Wd} (hV : VwC V)  {S : Sm} {q : Sm} (h : Pl_plan S = some q) : Runs 13 mX7_plan [.ref 47] (V S) none (V q) 0 0 := by
  unfold Pl_plan at h
  refine Runs.of2 [some (.ref 47)] 0 rfl rfl (Nat.le_of_ble_eq_true rfl) (fun l Γ => ?_)
  refine g_aload_n (pc := 0) dX7_plan_0 rfl ?_
  obtain ⟨q1, hq1, h⟩ := bnd h
  refine v_callVv hV (Mc := mX7_followTrains) (S1 := q1) (As := []) (rest := []) (q := (RX7, TX7, 9)) (pc := 1) dX7_plan_1 mK_X7_88 mf_X7_followTrains rfl k0_47 rfl rfl rfl (Nat.le_of_ble_eq_true rfl) ⟨Nat.le_of_ble_eq_true rfl, Nat.le_of_ble_eq_true rfl⟩ (r_Pl_followTrains hV hq1) ?_
  refine g_aload_n (pc := 4) dX7_plan_4 rfl ?_
  obtain ⟨q2, hq2, h⟩ := bnd h
  refine v_callVv hV (Mc := mX7_fillClashing) (S1 := q2) (As := []) (rest := []) (q := (RX7, TX7, 9)) (pc := 5) dX7_plan_5 mK_X7_94 mf_X7_fillClashing rfl k0_47 rfl rfl rfl (Nat.le_of_ble_eq_true rfl) ⟨Nat.le_of_ble_eq_true rfl, Nat.le_of_ble_eq_true rfl⟩ (r_Pl_fillClashing hV hq2) ?_
  refine g_aload_n (pc := 8) dX7_plan_8 rfl ?_
  refine g_sipush (v := 1000) (pc := 9) dX7_plan_9 (by decide) ?_
  refine v_putI hV (pc := 12) dX7_plan_12 fo_7_7 rfl k0_47 own_47 rfl ?_
  refine g_aload_n (pc := 15) dX7_plan_15 rfl ?_
  refine g_iconst (v := (-1)) (pc := 16) dX7_plan_16 (by decide) ?_
  refine v_putI hV (pc := 17) dX7_plan_17 fo_7_8 rfl k0_47 own_47 rfl ?_
  refine g_aload_n (pc := 20) dX7_plan_20 rfl ?_
  refine g_iconst (v := 0) (pc := 21) dX7_plan_21 (by decide) ?_
  refine g_iconst (v := 0) (pc := 22) dX7_plan_22 (by decide) ?_
  refine g_iconst (v := 0) (pc := 23) dX7_plan_23 (by decide) ?_
  obtain ⟨q3, hq3, h⟩ := bnd h
  refine v_callVv hV (Mc := mX7_place) (S1 := q3) (As := [.int 0, .int 0, .int 0]) (rest := []) (q := (RX7, TX7, 9)) (pc := 24) dX7_plan_24 mK_X7_97 mf_X7_place rfl k0_47 rfl rfl rfl (Nat.le_of_ble_eq_true rfl) ⟨Nat.le_of_ble_eq_true rfl, Nat.le_of_ble_eq_true rfl⟩ (r_Pl_place_r hV hq3) ?_
  cases h
  exact g_vret (pc := 27) dX7_plan_27 rfl (Nat.le_refl _) (Nat.le_refl _)
def Pl_delayDigits (S : Sm) : Option (Int32 × Sm) := ((Pl_plan S).bind fun q1 => (some ((gi q1 47 8, q1))))
set_option maxRecDepth 4000 in
theorem r_Pl_delayDigits {V : Sm → Wd} (hV : VwC V)  {S : Sm} {q : Int32 × Sm} (h : Pl_delayDigits S = some q) : Runs 14 mX7_delayDigits [.ref 47] (V S) (some (.int q.1)) (V q.2) 0 0 := by
  unfold Pl_delayDigits at h
  refine Runs.of2 [some (.ref 47)] 0 rfl rfl (Nat.le_of_ble_eq_true rfl) (fun l Γ => ?_)
  refine g_aload_n (pc := 0) dX7_delayDigits_0 rfl ?_
  obtain ⟨q1, hq1, h⟩ := bnd h
  refine v_callVv hV (Mc := mX7_plan) (S1 := q1) (As := []) (rest := []) (q := (RX7, TX7, 9)) (pc := 1) dX7_delayDigits_1 mK_X7_101 mf_X7_plan rfl k0_47 rfl rfl rfl (Nat.le_of_ble_eq_true rfl) ⟨Nat.le_of_ble_eq_true rfl, Nat.le_of_ble_eq_true rfl⟩ (r_Pl_plan hV hq1) ?_
  refine g_aload_n (pc := 4) dX7_delayDigits_4 rfl ?_
  refine v_getI hV (pc := 5) dX7_delayDigits_5 fo_7_8 rfl k0_47 own_47 ?_
  cases h
  exact g_iret (pc := 8) dX7_delayDigits_8 rfl rfl (Nat.le_refl _) (Nat.le_refl _)
def Pl_leastDelay_22 (s0 : Int32) (S : Sm) : Option (Int32 × Sm) := (some ((s0, S)))
set_option maxRecDepth 4000 in
theorem t_Pl_leastDelay_22 {V : Sm → Wd} (hV : VwC V) {l : Launch} {Γ : Gm} {s0 : Int32} {S : Sm} {q : Int32 × Sm} (h : Pl_leastDelay_22 s0 S = some q) : G mX7_leastDelay l Γ (rmD 14 0 0) (mQ Γ (some (.int q.1)) (V q.2) 0 0) 0 0 22 [none] [.int s0] (V S) := by
  unfold Pl_leastDelay_22 at h
  cases h
  exact g_iret (pc := 22) dX7_leastDelay_22 rfl rfl (Nat.le_refl _) (Nat.le_refl _)
def Pl_leastDelay (S : Sm) : Option (Int32 × Sm) := ((Pl_plan S).bind fun q1 => (if (1000 : Int32) ≤ (gi q1 47 7) then (Pl_leastDelay_22 ((-1)) q1) else (Pl_leastDelay_22 (gi q1 47 7) q1)))
set_option maxRecDepth 4000 in
theorem r_Pl_leastDelay {V : Sm → Wd} (hV : VwC V)  {S : Sm} {q : Int32 × Sm} (h : Pl_leastDelay S = some q) : Runs 14 mX7_leastDelay [.ref 47] (V S) (some (.int q.1)) (V q.2) 0 0 := by
  unfold Pl_leastDelay at h
  refine Runs.of2 [some (.ref 47)] 0 rfl rfl (Nat.le_of_ble_eq_true rfl) (fun l Γ => ?_)
  refine g_aload_n (pc := 0) dX7_leastDelay_0 rfl ?_
  obtain ⟨q1, hq1, h⟩ := bnd h
  refine v_callVv hV (Mc := mX7_plan) (S1 := q1) (As := []) (rest := []) (q := (RX7, TX7, 9)) (pc := 1) dX7_leastDelay_1 mK_X7_101 mf_X7_plan rfl k0_47 rfl rfl rfl (Nat.le_of_ble_eq_true rfl) ⟨Nat.le_of_ble_eq_true rfl, Nat.le_of_ble_eq_true rfl⟩ (r_Pl_plan hV hq1) ?_
  refine g_aload_n (pc := 4) dX7_leastDelay_4 rfl ?_
  refine v_getI hV (pc := 5) dX7_leastDelay_5 fo_7_7 rfl k0_47 own_47 ?_
  refine g_sipush (v := 1000) (pc := 8) dX7_leastDelay_8 (by decide) ?_
  refine g_icmp_ge (tgt := 21) (pc := 11) dX7_leastDelay_11 (by decide) (fun c2 => ?_) (fun c2 => ?_)
  · rw [if_pos c2] at h
    refine g_iconst (v := (-1)) (pc := 21) dX7_leastDelay_21 (by decide) ?_
    refine g_wk [false] rfl ?_
    exact t_Pl_leastDelay_22 hV h
  · rw [if_neg c2] at h
    refine g_aload_n (pc := 14) dX7_leastDelay_14 rfl ?_
    refine v_getI hV (pc := 15) dX7_leastDelay_15 fo_7_7 rfl k0_47 own_47 ?_
    refine g_goto (tgt := 22) (pc := 18) dX7_leastDelay_18 (by decide) ?_
    refine g_wk [false] rfl ?_
    exact t_Pl_leastDelay_22 hV h
def Dk_timetable_19 (S : Sm) : Option (Int32 × Sm) := (some (((-1), S)))
set_option maxRecDepth 4000 in
theorem t_Dk_timetable_19 {V : Sm → Wd} (hV : VwC V) {l : Launch} {Γ : Gm}  {S : Sm} {q : Int32 × Sm} (h : Dk_timetable_19 S = some q) : G mX11_timetable l Γ (rmD 15 0 0) (mQ Γ (some (.int q.1)) (V q.2) 0 0) 0 0 19 [none, none] [] (V S) := by
  unfold Dk_timetable_19 at h
  refine g_iconst (v := (-1)) (pc := 19) dX11_timetable_19 (by decide) ?_
  cases h
  exact g_iret (pc := 20) dX11_timetable_20 rfl rfl (Nat.le_refl _) (Nat.le_refl _)
def Dk_timetable_42 (s0 : Int32) (S : Sm) : Option (Int32 × Sm) := (some ((s0, S)))
set_option maxRecDepth 4000 in
theorem t_Dk_timetable_42 {V : Sm → Wd} (hV : VwC V) {l : Launch} {Γ : Gm} {s0 : Int32} {S : Sm} {q : Int32 × Sm} (h : Dk_timetable_42 s0 S = some q) : G mX11_timetable l Γ (rmD 15 0 0) (mQ Γ (some (.int q.1)) (V q.2) 0 0) 0 0 42 [none, none] [.int s0] (V S) := by
  unfold Dk_timetable_42 at h
  cases h
  exact g_iret (pc := 42) dX11_timetable_42 rfl rfl (Nat.le_refl _) (Nat.le_refl _)
def Dk_timetable (v1 : Int32) (S : Sm) : Option (Int32 × Sm) := (if (Nt_isTold S) = 0 then (Dk_timetable_19 S) else (if v1 < 0 then (Dk_timetable_19 S) else (if v1 ≤ 1 then (if v1 = 0 then ((Pl_leastDelay S).bind fun q2 => (Dk_timetable_42 q2.1 q2.2)) else ((Pl_delayDigits S).bind fun q1 => (Dk_timetable_42 q1.1 q1.2))) else (Dk_timetable_19 S))))
set_option maxRecDepth 4000 in
theorem r_Dk_timetable {V : Sm → Wd} (hV : VwC V) {v1 : Int32} {S : Sm} {q : Int32 × Sm} (h : Dk_timetable v1 S = some q) : Runs 15 mX11_timetable [.ref 7, .int v1] (V S) (some (.int q.1)) (V q.2) 0 0 := by
  unfold Dk_timetable at h
  refine Runs.of2 [some (.ref 7), some (.int v1)] 0 rfl rfl (Nat.le_of_ble_eq_true rfl) (fun l Γ => ?_)
  refine g_aload_n (pc := 0) dX11_timetable_0 rfl ?_
  refine v_getR hV (pc := 1) dX11_timetable_1 fo_11_1 rfl k0_7 r0_7_1 ?_
  refine v_callVi hV (Mc := mX5_isTold) (v := Nt_isTold S) (S1 := S) (As := []) (rest := []) (q := (RX5, TX5, 3)) (pc := 4) dX11_timetable_4 mK_X11_258 mf_X5_isTold rfl k0_10 rfl rfl rfl (Nat.le_of_ble_eq_true rfl) ⟨Nat.le_of_ble_eq_true rfl, Nat.le_of_ble_eq_true rfl⟩ (r_Nt_isTold hV rfl) ?_
  refine g_if_eq (tgt := 19) (pc := 7) dX11_timetable_7 (by decide) (fun c6 => ?_) (fun c6 => ?_)
  · rw [if_pos c6] at h
    refine g_wk [false, false] rfl ?_
    exact t_Dk_timetable_19 hV h
  · rw [if_neg c6] at h
    refine g_iload_n (pc := 10) dX11_timetable_10 rfl ?_
    refine g_if_lt (tgt := 19) (pc := 11) dX11_timetable_11 (by decide) (fun c5 => ?_) (fun c5 => ?_)
    · rw [if_pos c5] at h
      refine g_wk [false, false] rfl ?_
      exact t_Dk_timetable_19 hV h
    · rw [if_neg c5] at h
      refine g_iload_n (pc := 14) dX11_timetable_14 rfl ?_
      refine g_iconst (v := 1) (pc := 15) dX11_timetable_15 (by decide) ?_
      refine g_icmp_le (tgt := 21) (pc := 16) dX11_timetable_16 (by decide) (fun c4 => ?_) (fun c4 => ?_)
      · rw [if_pos c4] at h
        refine g_iload_n (pc := 21) dX11_timetable_21 rfl ?_
        refine g_if_ne (tgt := 35) (pc := 22) dX11_timetable_22 (by decide) (fun c3 => ?_) (fun c3 => ?_)
        · rw [if_neg c3] at h
          refine g_aload_n (pc := 35) dX11_timetable_35 rfl ?_
          refine v_getR hV (pc := 36) dX11_timetable_36 fo_11_11 rfl k0_7 r0_7_11 ?_
          obtain ⟨q1, hq1, h⟩ := bnd h
          refine v_callVi hV (Mc := mX7_delayDigits) (v := q1.1) (S1 := q1.2) (As := []) (rest := []) (q := (RX7, TX7, 9)) (pc := 39) dX11_timetable_39 mK_X11_267 mf_X7_delayDigits rfl k0_47 rfl rfl rfl (Nat.le_of_ble_eq_true rfl) ⟨Nat.le_of_ble_eq_true rfl, Nat.le_of_ble_eq_true rfl⟩ (r_Pl_delayDigits hV hq1) ?_
          refine g_wk [false, false] rfl ?_
          exact t_Dk_timetable_42 hV h
        · rw [if_pos c3] at h
          refine g_aload_n (pc := 25) dX11_timetable_25 rfl ?_
          refine v_getR hV (pc := 26) dX11_timetable_26 fo_11_11 rfl k0_7 r0_7_11 ?_
          obtain ⟨q2, hq2, h⟩ := bnd h
          refine v_callVi hV (Mc := mX7_leastDelay) (v := q2.1) (S1 := q2.2) (As := []) (rest := []) (q := (RX7, TX7, 9)) (pc := 29) dX11_timetable_29 mK_X11_264 mf_X7_leastDelay rfl k0_47 rfl rfl rfl (Nat.le_of_ble_eq_true rfl) ⟨Nat.le_of_ble_eq_true rfl, Nat.le_of_ble_eq_true rfl⟩ (r_Pl_leastDelay hV hq2) ?_
          refine g_goto (tgt := 42) (pc := 32) dX11_timetable_32 (by decide) ?_
          refine g_wk [false, false] rfl ?_
          exact t_Dk_timetable_42 hV h
      · rw [if_neg c4] at h
        refine g_wk [false, false] rfl ?_
        exact t_Dk_timetable_19 hV h
def hd_Pl_clashesAsTold_L8 (V : Sm → Wd) (l : Launch) (Γ : Gm) (rF : Option Value) (wF : Wd) (S : Sm) (q : Int32 × Int32) : Prop := G mX7_clashesAsTold l Γ (rmD 5 0 0) (mQ Γ rF wF 0 0) 0 0 8 [some (.ref 47), some (.int q.1), some (.int q.2), none] [] (V S)
def ps_Pl_clashesAsTold_L8 (V : Sm → Wd) (l : Launch) (Γ : Gm) (rF : Option Value) (wF : Wd) (S : Sm) (x : Int32) : Prop := (fun (a : Int32) => G mX7_clashesAsTold l Γ (rmD 5 0 0) (mQ Γ rF wF 0 0) 0 0 50 [none, some (.int a), none, none] [] (V S)) x
def hd_Pl_clashesAsTold_L20 (V : Sm → Wd) (l : Launch) (Γ : Gm) (rF : Option Value) (wF : Wd) (v2 : Int32) (S : Sm) (q : Int32 × Int32) : Prop := G mX7_clashesAsTold l Γ (rmD 5 0 0) (mQ Γ rF wF 0 0) 0 0 20 [some (.ref 47), some (.int q.1), some (.int v2), some (.int q.2)] [] (V S)
def ps_Pl_clashesAsTold_L20 (V : Sm → Wd) (l : Launch) (Γ : Gm) (rF : Option Value) (wF : Wd) (v2 : Int32) (S : Sm) (x : Int32) : Prop := (fun (a : Int32) => G mX7_clashesAsTold l Γ (rmD 5 0 0) (mQ Γ rF wF 0 0) 0 0 44 [some (.ref 47), some (.int a), some (.int v2), none] [] (V S)) x
def Pl_clashesAsTold_L20 (v2 : Int32) (S : Sm) (q : Int32 × Int32) : Option ((Int32 × Int32) ⊕ (Int32)) := (if (Pl_trains S) ≤ q.2 then (some (.inr q.1)) else ((Pl_clashesOf v2 q.2 0 S).bind fun q2 => (some (.inl (q.1 + q2, q.2 + 1)))))
set_option maxRecDepth 4000 in
theorem t_Pl_clashesAsTold_L20 {V : Sm → Wd} (hV : VwC V) {l : Launch} {Γ : Gm} {rF : Option Value} {wF : Wd} {v2 : Int32} {S : Sm} {q : Int32 × Int32} {o : (Int32 × Int32) ⊕ (Int32)} (h : Pl_clashesAsTold_L20 v2 S q = some o) (hK : Sum.elim (hd_Pl_clashesAsTold_L20 V l Γ rF wF v2 S) (ps_Pl_clashesAsTold_L20 V l Γ rF wF v2 S) o) : hd_Pl_clashesAsTold_L20 V l Γ rF wF v2 S q := by
  unfold Pl_clashesAsTold_L20 at h
  unfold hd_Pl_clashesAsTold_L20
  refine g_iload_n (pc := 20) dX7_clashesAsTold_20 rfl ?_
  refine g_aload_n (pc := 21) dX7_clashesAsTold_21 rfl ?_
  refine v_callVi hV (Mc := mX7_trains) (v := Pl_trains S) (S1 := S) (As := []) (rest := [.int q.2]) (q := (RX7, TX7, 9)) (pc := 22) dX7_clashesAsTold_22 mK_X7_48 mf_X7_trains rfl k0_47 rfl rfl rfl (Nat.le_of_ble_eq_true rfl) ⟨Nat.le_of_ble_eq_true rfl, Nat.le_of_ble_eq_true rfl⟩ (r_Pl_trains hV rfl) ?_
  refine g_icmp_ge (tgt := 44) (pc := 25) dX7_clashesAsTold_25 (by decide) (fun c3 => ?_) (fun c3 => ?_)
  · rw [if_pos c3] at h
    refine g_wk [true, true, true, false] rfl ?_
    cases h
    exact hK
  · rw [if_neg c3] at h
    refine g_iload_n (pc := 28) dX7_clashesAsTold_28 rfl ?_
    refine g_aload_n (pc := 29) dX7_clashesAsTold_29 rfl ?_
    refine g_iload_n (pc := 30) dX7_clashesAsTold_30 rfl ?_
    refine g_iload_n (pc := 31) dX7_clashesAsTold_31 rfl ?_
    refine g_iconst (v := 0) (pc := 32) dX7_clashesAsTold_32 (by decide) ?_
    obtain ⟨q2, hq2, h⟩ := bnd h
    refine v_callVi hV (Mc := mX7_clashesOf) (v := q2) (S1 := S) (As := [.int v2, .int q.2, .int 0]) (rest := [.int q.1]) (q := (RX7, TX7, 9)) (pc := 33) dX7_clashesAsTold_33 mK_X7_91 mf_X7_clashesOf rfl k0_47 rfl rfl rfl (Nat.le_of_ble_eq_true rfl) ⟨Nat.le_of_ble_eq_true rfl, Nat.le_of_ble_eq_true rfl⟩ (r_Pl_clashesOf hV hq2) ?_
    refine g_iadd (pc := 36) dX7_clashesAsTold_36 ?_
    refine g_istore_n (ls1 := [some (.ref 47), some (.int (q.1 + q2)), some (.int v2), some (.int q.2)]) (pc := 37) dX7_clashesAsTold_37 (by decide) rfl ?_
    refine g_iinc (v := q.2 + 1) (ls1 := [some (.ref 47), some (.int (q.1 + q2)), some (.int v2), some (.int (q.2 + 1))]) (pc := 38) dX7_clashesAsTold_38 rfl rfl (by decide) rfl ?_
    refine g_goto (tgt := 20) (pc := 41) dX7_clashesAsTold_41 (by decide) ?_
    cases h
    exact hK
set_option maxRecDepth 4000 in
theorem w_Pl_clashesAsTold_L20 {V : Sm → Wd} (hV : VwC V) {l : Launch} {Γ : Gm} {rF : Option Value} {wF : Wd} {v2 : Int32} {S : Sm} {k : Nat} {q : Int32 × Int32} {o : Int32} (h : lpN (Pl_clashesAsTold_L20 v2 S) k q = some o) (hP : ps_Pl_clashesAsTold_L20 V l Γ rF wF v2 S o) : hd_Pl_clashesAsTold_L20 V l Γ rF wF v2 S q := lpN_ind2 (hd_Pl_clashesAsTold_L20 V l Γ rF wF v2 S) (ps_Pl_clashesAsTold_L20 V l Γ rF wF v2 S) (fun s o h hK => t_Pl_clashesAsTold_L20 hV h hK) k q o h hP
def Pl_clashesAsTold_L8 (S : Sm) (q : Int32 × Int32) : Option ((Int32 × Int32) ⊕ (Int32)) := (if (Pl_trains S) ≤ q.2 then (some (.inr q.1)) else ((lpN (Pl_clashesAsTold_L20 q.2 S) FU (q.1, q.2 + 1)).bind fun q4 => (some (.inl (q4, q.2 + 1)))))
set_option maxRecDepth 4000 in
theorem t_Pl_clashesAsTold_L8 {V : Sm → Wd} (hV : VwC V) {l : Launch} {Γ : Gm} {rF : Option Value} {wF : Wd} {S : Sm} {q : Int32 × Int32} {o : (Int32 × Int32) ⊕ (Int32)} (h : Pl_clashesAsTold_L8 S q = some o) (hK : Sum.elim (hd_Pl_clashesAsTold_L8 V l Γ rF wF S) (ps_Pl_clashesAsTold_L8 V l Γ rF wF S) o) : hd_Pl_clashesAsTold_L8 V l Γ rF wF S q := by
  unfold Pl_clashesAsTold_L8 at h
  unfold hd_Pl_clashesAsTold_L8
  refine g_iload_n (pc := 8) dX7_clashesAsTold_8 rfl ?_
  refine g_aload_n (pc := 9) dX7_clashesAsTold_9 rfl ?_
  refine v_callVi hV (Mc := mX7_trains) (v := Pl_trains S) (S1 := S) (As := []) (rest := [.int q.2]) (q := (RX7, TX7, 9)) (pc := 10) dX7_clashesAsTold_10 mK_X7_48 mf_X7_trains rfl k0_47 rfl rfl rfl (Nat.le_of_ble_eq_true rfl) ⟨Nat.le_of_ble_eq_true rfl, Nat.le_of_ble_eq_true rfl⟩ (r_Pl_trains hV rfl) ?_
  refine g_icmp_ge (tgt := 50) (pc := 13) dX7_clashesAsTold_13 (by decide) (fun c5 => ?_) (fun c5 => ?_)
  · rw [if_pos c5] at h
    refine g_wk [false, true, false, false] rfl ?_
    cases h
    exact hK
  · rw [if_neg c5] at h
    refine g_iload_n (pc := 16) dX7_clashesAsTold_16 rfl ?_
    refine g_iconst (v := 1) (pc := 17) dX7_clashesAsTold_17 (by decide) ?_
    refine g_iadd (pc := 18) dX7_clashesAsTold_18 ?_
    refine g_istore_n (ls1 := [some (.ref 47), some (.int q.1), some (.int q.2), some (.int (q.2 + 1))]) (pc := 19) dX7_clashesAsTold_19 (by decide) rfl ?_
    obtain ⟨q4, hqq4, h⟩ := bnd h
    refine w_Pl_clashesAsTold_L20 hV hqq4 ?_
    unfold ps_Pl_clashesAsTold_L20
    show G _ _ _ _ _ _ _ _ _ _ _
    refine g_iinc (v := q.2 + 1) (ls1 := [some (.ref 47), some (.int q4), some (.int (q.2 + 1)), none]) (pc := 44) dX7_clashesAsTold_44 rfl rfl (by decide) rfl ?_
    refine g_goto (tgt := 8) (pc := 47) dX7_clashesAsTold_47 (by decide) ?_
    cases h
    exact hK
set_option maxRecDepth 4000 in
theorem w_Pl_clashesAsTold_L8 {V : Sm → Wd} (hV : VwC V) {l : Launch} {Γ : Gm} {rF : Option Value} {wF : Wd} {S : Sm} {k : Nat} {q : Int32 × Int32} {o : Int32} (h : lpN (Pl_clashesAsTold_L8 S) k q = some o) (hP : ps_Pl_clashesAsTold_L8 V l Γ rF wF S o) : hd_Pl_clashesAsTold_L8 V l Γ rF wF S q := lpN_ind2 (hd_Pl_clashesAsTold_L8 V l Γ rF wF S) (ps_Pl_clashesAsTold_L8 V l Γ rF wF S) (fun s o h hK => t_Pl_clashesAsTold_L8 hV h hK) k q o h hP
def Pl_clashesAsTold (S : Sm) : Option (Int32 × Sm) := ((Pl_followTrains S).bind fun q1 => ((lpN (Pl_clashesAsTold_L8 q1) FU (0, 0)).bind fun q6 => (some ((q6, q1)))))
set_option maxRecDepth 4000 in
theorem r_Pl_clashesAsTold {V : Sm → Wd} (hV : VwC V)  {S : Sm} {q : Int32 × Sm} (h : Pl_clashesAsTold S = some q) : Runs 5 mX7_clashesAsTold [.ref 47] (V S) (some (.int q.1)) (V q.2) 0 0 := by
  unfold Pl_clashesAsTold at h
  refine Runs.of2 [some (.ref 47), none, none, none] 3 rfl rfl (Nat.le_of_ble_eq_true rfl) (fun l Γ => ?_)
  refine g_aload_n (pc := 0) dX7_clashesAsTold_0 rfl ?_
  obtain ⟨q1, hq1, h⟩ := bnd h
  refine v_callVv hV (Mc := mX7_followTrains) (S1 := q1) (As := []) (rest := []) (q := (RX7, TX7, 9)) (pc := 1) dX7_clashesAsTold_1 mK_X7_88 mf_X7_followTrains rfl k0_47 rfl rfl rfl (Nat.le_of_ble_eq_true rfl) ⟨Nat.le_of_ble_eq_true rfl, Nat.le_of_ble_eq_true rfl⟩ (r_Pl_followTrains hV hq1) ?_
  refine g_iconst (v := 0) (pc := 4) dX7_clashesAsTold_4 (by decide) ?_
  refine g_istore_n (ls1 := [some (.ref 47), some (.int 0), none, none]) (pc := 5) dX7_clashesAsTold_5 (by decide) rfl ?_
  refine g_iconst (v := 0) (pc := 6) dX7_clashesAsTold_6 (by decide) ?_
  refine g_istore_n (ls1 := [some (.ref 47), some (.int 0), some (.int 0), none]) (pc := 7) dX7_clashesAsTold_7 (by decide) rfl ?_
  obtain ⟨q6, hqq6, h⟩ := bnd h
  refine w_Pl_clashesAsTold_L8 hV hqq6 ?_
  unfold ps_Pl_clashesAsTold_L8
  show G _ _ _ _ _ _ _ _ _ _ _
  refine g_iload_n (pc := 50) dX7_clashesAsTold_50 rfl ?_
  cases h
  exact g_iret (pc := 51) dX7_clashesAsTold_51 rfl rfl (Nat.le_refl _) (Nat.le_refl _)
def Dk_clashes_21 (s0 : Int32) (S : Sm) : Option (Int32 × Sm) := (some ((s0, S)))
set_option maxRecDepth 4000 in
theorem t_Dk_clashes_21 {V : Sm → Wd} (hV : VwC V) {l : Launch} {Γ : Gm} {s0 : Int32} {S : Sm} {q : Int32 × Sm} (h : Dk_clashes_21 s0 S = some q) : G mX11_clashes l Γ (rmD 6 0 0) (mQ Γ (some (.int q.1)) (V q.2) 0 0) 0 0 21 [none] [.int s0] (V S) := by
  unfold Dk_clashes_21 at h
  cases h
  exact g_iret (pc := 21) dX11_clashes_21 rfl rfl (Nat.le_refl _) (Nat.le_refl _)
def Dk_clashes (S : Sm) : Option (Int32 × Sm) := (if (Nt_isTold S) = 0 then (Dk_clashes_21 ((-1)) S) else ((Pl_clashesAsTold S).bind fun q1 => (Dk_clashes_21 q1.1 q1.2)))
set_option maxRecDepth 4000 in
theorem r_Dk_clashes {V : Sm → Wd} (hV : VwC V)  {S : Sm} {q : Int32 × Sm} (h : Dk_clashes S = some q) : Runs 6 mX11_clashes [.ref 7] (V S) (some (.int q.1)) (V q.2) 0 0 := by
  unfold Dk_clashes at h
  refine Runs.of2 [some (.ref 7)] 0 rfl rfl (Nat.le_of_ble_eq_true rfl) (fun l Γ => ?_)
  refine g_aload_n (pc := 0) dX11_clashes_0 rfl ?_
  refine v_getR hV (pc := 1) dX11_clashes_1 fo_11_1 rfl k0_7 r0_7_1 ?_
  refine v_callVi hV (Mc := mX5_isTold) (v := Nt_isTold S) (S1 := S) (As := []) (rest := []) (q := (RX5, TX5, 3)) (pc := 4) dX11_clashes_4 mK_X11_258 mf_X5_isTold rfl k0_10 rfl rfl rfl (Nat.le_of_ble_eq_true rfl) ⟨Nat.le_of_ble_eq_true rfl, Nat.le_of_ble_eq_true rfl⟩ (r_Nt_isTold hV rfl) ?_
  refine g_if_eq (tgt := 20) (pc := 7) dX11_clashes_7 (by decide) (fun c2 => ?_) (fun c2 => ?_)
  · rw [if_pos c2] at h
    refine g_iconst (v := (-1)) (pc := 20) dX11_clashes_20 (by decide) ?_
    refine g_wk [false] rfl ?_
    exact t_Dk_clashes_21 hV h
  · rw [if_neg c2] at h
    refine g_aload_n (pc := 10) dX11_clashes_10 rfl ?_
    refine v_getR hV (pc := 11) dX11_clashes_11 fo_11_11 rfl k0_7 r0_7_11 ?_
    obtain ⟨q1, hq1, h⟩ := bnd h
    refine v_callVi hV (Mc := mX7_clashesAsTold) (v := q1.1) (S1 := q1.2) (As := []) (rest := []) (q := (RX7, TX7, 9)) (pc := 14) dX11_clashes_14 mK_X11_270 mf_X7_clashesAsTold rfl k0_47 rfl rfl rfl (Nat.le_of_ble_eq_true rfl) ⟨Nat.le_of_ble_eq_true rfl, Nat.le_of_ble_eq_true rfl⟩ (r_Pl_clashesAsTold hV hq1) ?_
    refine g_goto (tgt := 21) (pc := 17) dX11_clashes_17 (by decide) ?_
    refine g_wk [false] rfl ?_
    exact t_Dk_clashes_21 hV h
def Sg_add (v1 : Int32) (v2 : Int32) (v3 : Int32) (v4 : Int32) (S : Sm) : Int32 × Sm := (if (gi S 42 6) < 10 then (app (puF S 43 40 ((gi S 42 6) * 4) v1) fun S1 => (app (puF S1 43 40 (((gi S 42 6) * 4) + 1) v2) fun S2 => (app (puF S2 43 40 (((gi S 42 6) * 4) + 2) v3) fun S3 => (app (puF S3 43 40 (((gi S 42 6) * 4) + 3) v4) fun S4 => ((gi (si S4 42 6 ((gi S4 42 6) + 1)) 42 6, si S4 42 6 ((gi S4 42 6) + 1))))))) else (((-1), S)))
set_option maxRecDepth 4000 in
theorem r_Sg_add {V : Sm → Wd} (hV : VwC V) {v1 : Int32} {v2 : Int32} {v3 : Int32} {v4 : Int32} {S : Sm} {q : Int32 × Sm} (h : Sg_add v1 v2 v3 v4 S = q) : Runs 1 mX8_add [.ref 42, .int v1, .int v2, .int v3, .int v4] (V S) (some (.int q.1)) (V q.2) 0 0 := by
  unfold Sg_add at h
  refine Runs.of2 [some (.ref 42), some (.int v1), some (.int v2), some (.int v3), some (.int v4), none] 1 rfl rfl (Nat.le_of_ble_eq_true rfl) (fun l Γ => ?_)
  refine g_aload_n (pc := 0) dX8_add_0 rfl ?_
  refine v_getI hV (pc := 1) dX8_add_1 fo_8_6 rfl k0_42 own_42 ?_
  refine g_bipush (v := 10) (pc := 4) dX8_add_4 (by decide) ?_
  refine g_icmp_lt (tgt := 11) (pc := 6) dX8_add_6 (by decide) (fun c5 => ?_) (fun c5 => ?_)
  · rw [if_pos c5] at h
    refine g_aload_n (pc := 11) dX8_add_11 rfl ?_
    refine v_getI hV (pc := 12) dX8_add_12 fo_8_6 rfl k0_42 own_42 ?_
    refine g_iconst (v := 4) (pc := 15) dX8_add_15 (by decide) ?_
    refine g_imul (pc := 16) dX8_add_16 ?_
    refine g_istore (ls1 := [some (.ref 42), some (.int v1), some (.int v2), some (.int v3), some (.int v4), some (.int ((gi S 42 6) * 4))]) (pc := 17) dX8_add_17 (by decide) rfl ?_
    refine g_aload_n (pc := 19) dX8_add_19 rfl ?_
    refine v_getR hV (pc := 20) dX8_add_20 fo_8_2 rfl k0_42 r0_42_2 ?_
    refine g_iload (pc := 23) dX8_add_23 rfl ?_
    refine g_iload_n (pc := 25) dX8_add_25 rfl ?_
    obtain ⟨S1, hS1, h⟩ := app_of h
    refine v_callNv (Mc := mX11_put) (S1 := S1) (As := [.ref 43, .int ((gi S 42 6) * 4), .int v1]) (rest := []) (pc := 26) dX8_add_26 nl_X8_39 mf_X11_put rfl rfl (Nat.le_of_ble_eq_true rfl) ⟨Nat.le_of_ble_eq_true rfl, Nat.le_of_ble_eq_true rfl⟩ (r_put hV k0_43 own_43 (by decide) hS1) ?_
    refine g_aload_n (pc := 29) dX8_add_29 rfl ?_
    refine v_getR hV (pc := 30) dX8_add_30 fo_8_2 rfl k0_42 r0_42_2 ?_
    refine g_iload (pc := 33) dX8_add_33 rfl ?_
    refine g_iconst (v := 1) (pc := 35) dX8_add_35 (by decide) ?_
    refine g_iadd (pc := 36) dX8_add_36 ?_
    refine g_iload_n (pc := 37) dX8_add_37 rfl ?_
    obtain ⟨S2, hS2, h⟩ := app_of h
    refine v_callNv (Mc := mX11_put) (S1 := S2) (As := [.ref 43, .int (((gi S 42 6) * 4) + 1), .int v2]) (rest := []) (pc := 38) dX8_add_38 nl_X8_39 mf_X11_put rfl rfl (Nat.le_of_ble_eq_true rfl) ⟨Nat.le_of_ble_eq_true rfl, Nat.le_of_ble_eq_true rfl⟩ (r_put hV k0_43 own_43 (by decide) hS2) ?_
    refine g_aload_n (pc := 41) dX8_add_41 rfl ?_
    refine v_getR hV (pc := 42) dX8_add_42 fo_8_2 rfl k0_42 r0_42_2 ?_
    refine g_iload (pc := 45) dX8_add_45 rfl ?_
    refine g_iconst (v := 2) (pc := 47) dX8_add_47 (by decide) ?_
    refine g_iadd (pc := 48) dX8_add_48 ?_
    refine g_iload_n (pc := 49) dX8_add_49 rfl ?_
    obtain ⟨S3, hS3, h⟩ := app_of h
    refine v_callNv (Mc := mX11_put) (S1 := S3) (As := [.ref 43, .int (((gi S 42 6) * 4) + 2), .int v3]) (rest := []) (pc := 50) dX8_add_50 nl_X8_39 mf_X11_put rfl rfl (Nat.le_of_ble_eq_true rfl) ⟨Nat.le_of_ble_eq_true rfl, Nat.le_of_ble_eq_true rfl⟩ (r_put hV k0_43 own_43 (by decide) hS3) ?_
    refine g_aload_n (pc := 53) dX8_add_53 rfl ?_
    refine v_getR hV (pc := 54) dX8_add_54 fo_8_2 rfl k0_42 r0_42_2 ?_
    refine g_iload (pc := 57) dX8_add_57 rfl ?_
    refine g_iconst (v := 3) (pc := 59) dX8_add_59 (by decide) ?_
    refine g_iadd (pc := 60) dX8_add_60 ?_
    refine g_iload (pc := 61) dX8_add_61 rfl ?_
    obtain ⟨S4, hS4, h⟩ := app_of h
    refine v_callNv (Mc := mX11_put) (S1 := S4) (As := [.ref 43, .int (((gi S 42 6) * 4) + 3), .int v4]) (rest := []) (pc := 63) dX8_add_63 nl_X8_39 mf_X11_put rfl rfl (Nat.le_of_ble_eq_true rfl) ⟨Nat.le_of_ble_eq_true rfl, Nat.le_of_ble_eq_true rfl⟩ (r_put hV k0_43 own_43 (by decide) hS4) ?_
    refine g_aload_n (pc := 66) dX8_add_66 rfl ?_
    refine g_dup (pc := 67) dX8_add_67 rfl ?_
    refine v_getI hV (pc := 68) dX8_add_68 fo_8_6 rfl k0_42 own_42 ?_
    refine g_iconst (v := 1) (pc := 71) dX8_add_71 (by decide) ?_
    refine g_iadd (pc := 72) dX8_add_72 ?_
    refine v_putI hV (pc := 73) dX8_add_73 fo_8_6 rfl k0_42 own_42 rfl ?_
    refine g_aload_n (pc := 76) dX8_add_76 rfl ?_
    refine v_getI hV (pc := 77) dX8_add_77 fo_8_6 rfl k0_42 own_42 ?_
    subst h
    exact g_iret (pc := 80) dX8_add_80 rfl rfl (Nat.le_refl _) (Nat.le_refl _)
  · rw [if_neg c5] at h
    refine g_iconst (v := (-1)) (pc := 9) dX8_add_9 (by decide) ?_
    subst h
    exact g_iret (pc := 10) dX8_add_10 rfl rfl (Nat.le_refl _) (Nat.le_refl _)
def Dk_lay_34 (S : Sm) : Int32 × Sm := (((-1), S))
set_option maxRecDepth 4000 in
theorem t_Dk_lay_34 {V : Sm → Wd} (hV : VwC V) {l : Launch} {Γ : Gm}  {S : Sm} {q : Int32 × Sm} (h : Dk_lay_34 S = q) : G mX11_lay l Γ (rmD 3 0 0) (mQ Γ (some (.int q.1)) (V q.2) 0 0) 0 0 34 [none, none, none, none, none] [] (V S) := by
  unfold Dk_lay_34 at h
  refine g_iconst (v := (-1)) (pc := 34) dX11_lay_34 (by decide) ?_
  subst h
  exact g_iret (pc := 35) dX11_lay_35 rfl rfl (Nat.le_refl _) (Nat.le_refl _)
def Dk_lay_62 (s0 : Int32) (S : Sm) : Int32 × Sm := ((s0, S))
set_option maxRecDepth 4000 in
theorem t_Dk_lay_62 {V : Sm → Wd} (hV : VwC V) {l : Launch} {Γ : Gm} {s0 : Int32} {S : Sm} {q : Int32 × Sm} (h : Dk_lay_62 s0 S = q) : G mX11_lay l Γ (rmD 3 0 0) (mQ Γ (some (.int q.1)) (V q.2) 0 0) 0 0 62 [none, none, none, none, none] [.int s0] (V S) := by
  unfold Dk_lay_62 at h
  subst h
  exact g_iret (pc := 62) dX11_lay_62 rfl rfl (Nat.le_refl _) (Nat.le_refl _)
def Dk_lay_61 (S : Sm) : Int32 × Sm := (Dk_lay_62 ((-1)) S)
set_option maxRecDepth 4000 in
theorem t_Dk_lay_61 {V : Sm → Wd} (hV : VwC V) {l : Launch} {Γ : Gm}  {S : Sm} {q : Int32 × Sm} (h : Dk_lay_61 S = q) : G mX11_lay l Γ (rmD 3 0 0) (mQ Γ (some (.int q.1)) (V q.2) 0 0) 0 0 61 [none, none, none, none, none] [] (V S) := by
  unfold Dk_lay_61 at h
  refine g_iconst (v := (-1)) (pc := 61) dX11_lay_61 (by decide) ?_
  exact t_Dk_lay_62 hV h
def Dk_lay (v1 : Int32) (v2 : Int32) (v3 : Int32) (v4 : Int32) (S : Sm) : Int32 × Sm := (if (Nt_hasMouth v1 S) = 0 then (Dk_lay_34 S) else (if (Nt_hasColour v2 S) = 0 then (Dk_lay_34 S) else (if (Nt_hasMouth v4 S) = 0 then (Dk_lay_34 S) else (if v3 < 1 then (Dk_lay_61 S) else (if (4 : Int32) < v3 then (Dk_lay_61 S) else (app (Sg_add v1 v2 v3 v4 S) fun q1 => (Dk_lay_62 q1.1 q1.2)))))))
set_option maxRecDepth 4000 in
theorem r_Dk_lay {V : Sm → Wd} (hV : VwC V) {v1 : Int32} {v2 : Int32} {v3 : Int32} {v4 : Int32} {S : Sm} {q : Int32 × Sm} (h : Dk_lay v1 v2 v3 v4 S = q) : Runs 3 mX11_lay [.ref 7, .int v1, .int v2, .int v3, .int v4] (V S) (some (.int q.1)) (V q.2) 0 0 := by
  unfold Dk_lay at h
  refine Runs.of2 [some (.ref 7), some (.int v1), some (.int v2), some (.int v3), some (.int v4)] 0 rfl rfl (Nat.le_of_ble_eq_true rfl) (fun l Γ => ?_)
  refine g_aload_n (pc := 0) dX11_lay_0 rfl ?_
  refine v_getR hV (pc := 1) dX11_lay_1 fo_11_1 rfl k0_7 r0_7_1 ?_
  refine g_iload_n (pc := 4) dX11_lay_4 rfl ?_
  refine v_callVi hV (Mc := mX5_hasMouth) (v := Nt_hasMouth v1 S) (S1 := S) (As := [.int v1]) (rest := []) (q := (RX5, TX5, 3)) (pc := 5) dX11_lay_5 mK_X11_140 mf_X5_hasMouth rfl k0_10 rfl rfl rfl (Nat.le_of_ble_eq_true rfl) ⟨Nat.le_of_ble_eq_true rfl, Nat.le_of_ble_eq_true rfl⟩ (r_Nt_hasMouth hV rfl) ?_
  refine g_if_eq (tgt := 34) (pc := 8) dX11_lay_8 (by decide) (fun c6 => ?_) (fun c6 => ?_)
  · rw [if_pos c6] at h
    refine g_wk [false, false, false, false, false] rfl ?_
    exact t_Dk_lay_34 hV h
  · rw [if_neg c6] at h
    refine g_aload_n (pc := 11) dX11_lay_11 rfl ?_
    refine v_getR hV (pc := 12) dX11_lay_12 fo_11_1 rfl k0_7 r0_7_1 ?_
    refine g_iload_n (pc := 15) dX11_lay_15 rfl ?_
    refine v_callVi hV (Mc := mX5_hasColour) (v := Nt_hasColour v2 S) (S1 := S) (As := [.int v2]) (rest := []) (q := (RX5, TX5, 3)) (pc := 16) dX11_lay_16 mK_X11_194 mf_X5_hasColour rfl k0_10 rfl rfl rfl (Nat.le_of_ble_eq_true rfl) ⟨Nat.le_of_ble_eq_true rfl, Nat.le_of_ble_eq_true rfl⟩ (r_Nt_hasColour hV rfl) ?_
    refine g_if_eq (tgt := 34) (pc := 19) dX11_lay_19 (by decide) (fun c5 => ?_) (fun c5 => ?_)
    · rw [if_pos c5] at h
      refine g_wk [false, false, false, false, false] rfl ?_
      exact t_Dk_lay_34 hV h
    · rw [if_neg c5] at h
      refine g_aload_n (pc := 22) dX11_lay_22 rfl ?_
      refine v_getR hV (pc := 23) dX11_lay_23 fo_11_1 rfl k0_7 r0_7_1 ?_
      refine g_iload (pc := 26) dX11_lay_26 rfl ?_
      refine v_callVi hV (Mc := mX5_hasMouth) (v := Nt_hasMouth v4 S) (S1 := S) (As := [.int v4]) (rest := []) (q := (RX5, TX5, 3)) (pc := 28) dX11_lay_28 mK_X11_140 mf_X5_hasMouth rfl k0_10 rfl rfl rfl (Nat.le_of_ble_eq_true rfl) ⟨Nat.le_of_ble_eq_true rfl, Nat.le_of_ble_eq_true rfl⟩ (r_Nt_hasMouth hV rfl) ?_
      refine g_if_ne (tgt := 36) (pc := 31) dX11_lay_31 (by decide) (fun c4 => ?_) (fun c4 => ?_)
      · rw [if_neg c4] at h
        refine g_iload_n (pc := 36) dX11_lay_36 rfl ?_
        refine g_iconst (v := 1) (pc := 37) dX11_lay_37 (by decide) ?_
        refine g_icmp_lt (tgt := 61) (pc := 38) dX11_lay_38 (by decide) (fun c3 => ?_) (fun c3 => ?_)
        · rw [if_pos c3] at h
          refine g_wk [false, false, false, false, false] rfl ?_
          exact t_Dk_lay_61 hV h
        · rw [if_neg c3] at h
          refine g_iload_n (pc := 41) dX11_lay_41 rfl ?_
          refine g_iconst (v := 4) (pc := 42) dX11_lay_42 (by decide) ?_
          refine g_icmp_gt (tgt := 61) (pc := 43) dX11_lay_43 (by decide) (fun c2 => ?_) (fun c2 => ?_)
          · rw [if_pos c2] at h
            refine g_wk [false, false, false, false, false] rfl ?_
            exact t_Dk_lay_61 hV h
          · rw [if_neg c2] at h
            refine g_aload_n (pc := 46) dX11_lay_46 rfl ?_
            refine v_getR hV (pc := 47) dX11_lay_47 fo_11_10 rfl k0_7 r0_7_10 ?_
            refine g_iload_n (pc := 50) dX11_lay_50 rfl ?_
            refine g_iload_n (pc := 51) dX11_lay_51 rfl ?_
            refine g_iload_n (pc := 52) dX11_lay_52 rfl ?_
            refine g_iload (pc := 53) dX11_lay_53 rfl ?_
            obtain ⟨q1, hq1, h⟩ := app_of h
            refine v_callVi hV (Mc := mX8_add) (v := q1.1) (S1 := q1.2) (As := [.int v1, .int v2, .int v3, .int v4]) (rest := []) (q := (RX8, TX8, 8)) (pc := 55) dX11_lay_55 mK_X11_273 mf_X8_add rfl k0_42 rfl rfl rfl (Nat.le_of_ble_eq_true rfl) ⟨Nat.le_of_ble_eq_true rfl, Nat.le_of_ble_eq_true rfl⟩ (r_Sg_add hV hq1) ?_
            refine g_goto (tgt := 62) (pc := 58) dX11_lay_58 (by decide) ?_
            refine g_wk [false, false, false, false, false] rfl ?_
            exact t_Dk_lay_62 hV h
      · rw [if_pos c4] at h
        refine g_wk [false, false, false, false, false] rfl ?_
        exact t_Dk_lay_34 hV h
def Mo_leadsOfDark (v1 : Int32) (S : Sm) : Int32 := (atF (gi S 27) 40 v1)
set_option maxRecDepth 4000 in
theorem r_Mo_leadsOfDark {V : Sm → Wd} (hV : VwC V) {v1 : Int32} {S : Sm} {q : Int32} (h : Mo_leadsOfDark v1 S = q) : Runs 1 mX4_leadsOfDark [.ref 25, .int v1] (V S) (some (.int q)) (V S) 0 0 := by
  unfold Mo_leadsOfDark at h
  refine Runs.of2 [some (.ref 25), some (.int v1)] 0 rfl rfl (Nat.le_of_ble_eq_true rfl) (fun l Γ => ?_)
  refine g_aload_n (pc := 0) dX4_leadsOfDark_0 rfl ?_
  refine v_getR hV (pc := 1) dX4_leadsOfDark_1 fo_4_1 rfl k0_25 r0_25_1 ?_
  refine g_iload_n (pc := 4) dX4_leadsOfDark_4 rfl ?_
  refine v_callNi (Mc := mX11_at) (v := atF (gi S 27) 40 v1) (S1 := S) (As := [.ref 27, .int v1]) (rest := []) (pc := 5) dX4_leadsOfDark_5 nl_X4_76 mf_X11_at rfl rfl (Nat.le_of_ble_eq_true rfl) ⟨Nat.le_of_ble_eq_true rfl, Nat.le_of_ble_eq_true rfl⟩ (r_at hV k0_27 own_27 (by decide)) ?_
  subst h
  exact g_iret (pc := 8) dX4_leadsOfDark_8 rfl rfl (Nat.le_refl _) (Nat.le_refl _)
def hd_Sg_unknownNow_L7 (V : Sm → Wd) (l : Launch) (Γ : Gm) (rF : Option Value) (wF : Wd)  (q : Int32 × Sm) : Prop := G mX8_unknownNow l Γ (rmD 3 0 0) (mQ Γ rF wF 0 0) 0 0 7 [some (.ref 42), some (.int q.1), none] [] (V q.2)
def ps_Sg_unknownNow_L7 (V : Sm → Wd) (l : Launch) (Γ : Gm) (rF : Option Value) (wF : Wd)  (x : Sm) : Prop := (fun (a : Sm) => G mX8_unknownNow l Γ (rmD 3 0 0) (mQ Γ rF wF 0 0) 0 0 76 [some (.ref 42), none, none] [] (V a)) x
def Sg_unknownNow_70_L7 (v1 : Int32) (S : Sm) : Option ((Int32 × Sm) ⊕ (Sm)) := (some (.inl (v1 + 1, S)))
set_option maxRecDepth 4000 in
theorem t_Sg_unknownNow_70_L7 {V : Sm → Wd} (hV : VwC V) {l : Launch} {Γ : Gm} {v1 : Int32} {rF : Option Value} {wF : Wd} {S : Sm} {o : (Int32 × Sm) ⊕ (Sm)} (h : Sg_unknownNow_70_L7 v1 S = some o) (hK : Sum.elim (hd_Sg_unknownNow_L7 V l Γ rF wF) (ps_Sg_unknownNow_L7 V l Γ rF wF) o) : G mX8_unknownNow l Γ (rmD 3 0 0) (mQ Γ rF wF 0 0) 0 0 70 [some (.ref 42), some (.int v1), none] [] (V S) := by
  unfold Sg_unknownNow_70_L7 at h
  refine g_iinc (v := v1 + 1) (ls1 := [some (.ref 42), some (.int (v1 + 1)), none]) (pc := 70) dX8_unknownNow_70 rfl rfl (by decide) rfl ?_
  refine g_goto (tgt := 7) (pc := 73) dX8_unknownNow_73 (by decide) ?_
  cases h
  exact hK
def Sg_unknownNow_L7 (q : Int32 × Sm) : Option ((Int32 × Sm) ⊕ (Sm)) := (if (Nt_many 1 q.2) ≤ q.1 then (some (.inr q.2)) else (if (4 : Int32) ≤ (gi q.2 42 7) then (some (.inr q.2)) else (if (Mo_leadsOfDark (Nt_darkOfTunnel q.1 q.2) q.2) = ((-1)) then (app (puF q.2 44 4 (gi q.2 42 7) (Nt_darkOfTunnel q.1 q.2)) fun S1 => (Sg_unknownNow_70_L7 q.1 (si S1 42 7 ((gi S1 42 7) + 1)))) else (Sg_unknownNow_70_L7 q.1 q.2))))
set_option maxRecDepth 4000 in
theorem t_Sg_unknownNow_L7 {V : Sm → Wd} (hV : VwC V) {l : Launch} {Γ : Gm} {rF : Option Value} {wF : Wd}  {q : Int32 × Sm} {o : (Int32 × Sm) ⊕ (Sm)} (h : Sg_unknownNow_L7 q = some o) (hK : Sum.elim (hd_Sg_unknownNow_L7 V l Γ rF wF) (ps_Sg_unknownNow_L7 V l Γ rF wF) o) : hd_Sg_unknownNow_L7 V l Γ rF wF q := by
  unfold Sg_unknownNow_L7 at h
  unfold hd_Sg_unknownNow_L7
  refine g_iload_n (pc := 7) dX8_unknownNow_7 rfl ?_
  refine g_aload_n (pc := 8) dX8_unknownNow_8 rfl ?_
  refine v_getR hV (pc := 9) dX8_unknownNow_9 fo_8_0 rfl k0_42 r0_42_0 ?_
  refine g_iconst (v := 1) (pc := 12) dX8_unknownNow_12 (by decide) ?_
  refine v_callVi hV (Mc := mX5_many) (v := Nt_many 1 q.2) (S1 := q.2) (As := [.int 1]) (rest := [.int q.1]) (q := (RX5, TX5, 3)) (pc := 13) dX8_unknownNow_13 mK_X8_45 mf_X5_many rfl k0_10 rfl rfl rfl (Nat.le_of_ble_eq_true rfl) ⟨Nat.le_of_ble_eq_true rfl, Nat.le_of_ble_eq_true rfl⟩ (r_Nt_many hV rfl) ?_
  refine g_icmp_ge (tgt := 76) (pc := 16) dX8_unknownNow_16 (by decide) (fun c4 => ?_) (fun c4 => ?_)
  · rw [if_pos c4] at h
    refine g_wk [true, false, false] rfl ?_
    cases h
    exact hK
  · rw [if_neg c4] at h
    refine g_aload_n (pc := 19) dX8_unknownNow_19 rfl ?_
    refine v_getI hV (pc := 20) dX8_unknownNow_20 fo_8_7 rfl k0_42 own_42 ?_
    refine g_iconst (v := 4) (pc := 23) dX8_unknownNow_23 (by decide) ?_
    refine g_icmp_ge (tgt := 76) (pc := 24) dX8_unknownNow_24 (by decide) (fun c3 => ?_) (fun c3 => ?_)
    · rw [if_pos c3] at h
      refine g_wk [true, false, false] rfl ?_
      cases h
      exact hK
    · rw [if_neg c3] at h
      refine g_aload_n (pc := 27) dX8_unknownNow_27 rfl ?_
      refine v_getR hV (pc := 28) dX8_unknownNow_28 fo_8_0 rfl k0_42 r0_42_0 ?_
      refine g_iload_n (pc := 31) dX8_unknownNow_31 rfl ?_
      refine v_callVi hV (Mc := mX5_darkOfTunnel) (v := Nt_darkOfTunnel q.1 q.2) (S1 := q.2) (As := [.int q.1]) (rest := []) (q := (RX5, TX5, 3)) (pc := 32) dX8_unknownNow_32 mK_X8_48 mf_X5_darkOfTunnel rfl k0_10 rfl rfl rfl (Nat.le_of_ble_eq_true rfl) ⟨Nat.le_of_ble_eq_true rfl, Nat.le_of_ble_eq_true rfl⟩ (r_Nt_darkOfTunnel hV rfl) ?_
      refine g_istore_n (ls1 := [some (.ref 42), some (.int q.1), some (.int (Nt_darkOfTunnel q.1 q.2))]) (pc := 35) dX8_unknownNow_35 (by decide) rfl ?_
      refine g_aload_n (pc := 36) dX8_unknownNow_36 rfl ?_
      refine v_getR hV (pc := 37) dX8_unknownNow_37 fo_8_1 rfl k0_42 r0_42_1 ?_
      refine g_iload_n (pc := 40) dX8_unknownNow_40 rfl ?_
      refine v_callVi hV (Mc := mX4_leadsOfDark) (v := Mo_leadsOfDark (Nt_darkOfTunnel q.1 q.2) q.2) (S1 := q.2) (As := [.int (Nt_darkOfTunnel q.1 q.2)]) (rest := []) (q := (RX4, TX4, 8)) (pc := 41) dX8_unknownNow_41 mK_X8_51 mf_X4_leadsOfDark rfl k0_25 rfl rfl rfl (Nat.le_of_ble_eq_true rfl) ⟨Nat.le_of_ble_eq_true rfl, Nat.le_of_ble_eq_true rfl⟩ (r_Mo_leadsOfDark hV rfl) ?_
      refine g_iconst (v := (-1)) (pc := 44) dX8_unknownNow_44 (by decide) ?_
      refine g_icmp_ne (tgt := 70) (pc := 45) dX8_unknownNow_45 (by decide) (fun c2 => ?_) (fun c2 => ?_)
      · rw [if_neg c2] at h
        refine g_wk [true, true, false] rfl ?_
        exact t_Sg_unknownNow_70_L7 hV h hK
      · rw [if_pos c2] at h
        refine g_aload_n (pc := 48) dX8_unknownNow_48 rfl ?_
        refine v_getR hV (pc := 49) dX8_unknownNow_49 fo_8_3 rfl k0_42 r0_42_3 ?_
        refine g_aload_n (pc := 52) dX8_unknownNow_52 rfl ?_
        refine v_getI hV (pc := 53) dX8_unknownNow_53 fo_8_7 rfl k0_42 own_42 ?_
        refine g_iload_n (pc := 56) dX8_unknownNow_56 rfl ?_
        obtain ⟨S1, hS1, h⟩ := app_of h
        refine v_callNv (Mc := mX11_put) (S1 := S1) (As := [.ref 44, .int (gi q.2 42 7), .int (Nt_darkOfTunnel q.1 q.2)]) (rest := []) (pc := 57) dX8_unknownNow_57 nl_X8_39 mf_X11_put rfl rfl (Nat.le_of_ble_eq_true rfl) ⟨Nat.le_of_ble_eq_true rfl, Nat.le_of_ble_eq_true rfl⟩ (r_put hV k0_44 own_44 (by decide) hS1) ?_
        refine g_aload_n (pc := 60) dX8_unknownNow_60 rfl ?_
        refine g_dup (pc := 61) dX8_unknownNow_61 rfl ?_
        refine v_getI hV (pc := 62) dX8_unknownNow_62 fo_8_7 rfl k0_42 own_42 ?_
        refine g_iconst (v := 1) (pc := 65) dX8_unknownNow_65 (by decide) ?_
        refine g_iadd (pc := 66) dX8_unknownNow_66 ?_
        refine v_putI hV (pc := 67) dX8_unknownNow_67 fo_8_7 rfl k0_42 own_42 rfl ?_
        refine g_wk [true, true, false] rfl ?_
        exact t_Sg_unknownNow_70_L7 hV h hK
set_option maxRecDepth 4000 in
theorem w_Sg_unknownNow_L7 {V : Sm → Wd} (hV : VwC V) {l : Launch} {Γ : Gm} {rF : Option Value} {wF : Wd}  {k : Nat} {q : Int32 × Sm} {o : Sm} (h : lpN (Sg_unknownNow_L7) k q = some o) (hP : ps_Sg_unknownNow_L7 V l Γ rF wF o) : hd_Sg_unknownNow_L7 V l Γ rF wF q := lpN_ind2 (hd_Sg_unknownNow_L7 V l Γ rF wF) (ps_Sg_unknownNow_L7 V l Γ rF wF) (fun s o h hK => t_Sg_unknownNow_L7 hV h hK) k q o h hP
def Sg_unknownNow (S : Sm) : Option (Int32 × Sm) := ((lpN (Sg_unknownNow_L7) FU (0, si S 42 7 0)).bind fun q5 => (some ((gi q5 42 7, q5))))
set_option maxRecDepth 4000 in
theorem r_Sg_unknownNow {V : Sm → Wd} (hV : VwC V)  {S : Sm} {q : Int32 × Sm} (h : Sg_unknownNow S = some q) : Runs 3 mX8_unknownNow [.ref 42] (V S) (some (.int q.1)) (V q.2) 0 0 := by
  unfold Sg_unknownNow at h
  refine Runs.of2 [some (.ref 42), none, none] 2 rfl rfl (Nat.le_of_ble_eq_true rfl) (fun l Γ => ?_)
  refine g_aload_n (pc := 0) dX8_unknownNow_0 rfl ?_
  refine g_iconst (v := 0) (pc := 1) dX8_unknownNow_1 (by decide) ?_
  refine v_putI hV (pc := 2) dX8_unknownNow_2 fo_8_7 rfl k0_42 own_42 rfl ?_
  refine g_iconst (v := 0) (pc := 5) dX8_unknownNow_5 (by decide) ?_
  refine g_istore_n (ls1 := [some (.ref 42), some (.int 0), none]) (pc := 6) dX8_unknownNow_6 (by decide) rfl ?_
  obtain ⟨q5, hqq5, h⟩ := bnd h
  refine w_Sg_unknownNow_L7 hV hqq5 ?_
  unfold ps_Sg_unknownNow_L7
  show G _ _ _ _ _ _ _ _ _ _ _
  refine g_aload_n (pc := 76) dX8_unknownNow_76 rfl ?_
  refine v_getI hV (pc := 77) dX8_unknownNow_77 fo_8_7 rfl k0_42 own_42 ?_
  cases h
  exact g_iret (pc := 80) dX8_unknownNow_80 rfl rfl (Nat.le_refl _) (Nat.le_refl _)
def hd_Sg_beginAssumptions_L2 (V : Sm → Wd) (l : Launch) (Γ : Gm) (rF : Option Value) (wF : Wd)  (q : Int32 × Sm) : Prop := G mX8_beginAssumptions l Γ (rmD 4 0 0) (mQ Γ rF wF 0 0) 0 0 2 [some (.ref 42), some (.int q.1), none, none] [] (V q.2)
def ps_Sg_beginAssumptions_L2 (V : Sm → Wd) (l : Launch) (Γ : Gm) (rF : Option Value) (wF : Wd)  (x : Sm) : Prop := (fun (a : Sm) => G mX8_beginAssumptions l Γ (rmD 4 0 0) (mQ Γ rF wF 0 0) 0 0 30 [some (.ref 42), none, none, none] [] (V a)) x
def Sg_beginAssumptions_L2 (q : Int32 × Sm) : Option ((Int32 × Sm) ⊕ (Sm)) := (if (40 : Int32) ≤ q.1 then (some (.inr q.2)) else (app (puF q.2 45 40 q.1 (Mo_leadsOfDark q.1 q.2)) fun S1 => (some (.inl (q.1 + 1, S1)))))
set_option maxRecDepth 4000 in
theorem t_Sg_beginAssumptions_L2 {V : Sm → Wd} (hV : VwC V) {l : Launch} {Γ : Gm} {rF : Option Value} {wF : Wd}  {q : Int32 × Sm} {o : (Int32 × Sm) ⊕ (Sm)} (h : Sg_beginAssumptions_L2 q = some o) (hK : Sum.elim (hd_Sg_beginAssumptions_L2 V l Γ rF wF) (ps_Sg_beginAssumptions_L2 V l Γ rF wF) o) : hd_Sg_beginAssumptions_L2 V l Γ rF wF q := by
  unfold Sg_beginAssumptions_L2 at h
  unfold hd_Sg_beginAssumptions_L2
  refine g_iload_n (pc := 2) dX8_beginAssumptions_2 rfl ?_
  refine g_bipush (v := 40) (pc := 3) dX8_beginAssumptions_3 (by decide) ?_
  refine g_icmp_ge (tgt := 30) (pc := 5) dX8_beginAssumptions_5 (by decide) (fun c2 => ?_) (fun c2 => ?_)
  · rw [if_pos c2] at h
    refine g_wk [true, false, false, false] rfl ?_
    cases h
    exact hK
  · rw [if_neg c2] at h
    refine g_aload_n (pc := 8) dX8_beginAssumptions_8 rfl ?_
    refine v_getR hV (pc := 9) dX8_beginAssumptions_9 fo_8_4 rfl k0_42 r0_42_4 ?_
    refine g_iload_n (pc := 12) dX8_beginAssumptions_12 rfl ?_
    refine g_aload_n (pc := 13) dX8_beginAssumptions_13 rfl ?_
    refine v_getR hV (pc := 14) dX8_beginAssumptions_14 fo_8_1 rfl k0_42 r0_42_1 ?_
    refine g_iload_n (pc := 17) dX8_beginAssumptions_17 rfl ?_
    refine v_callVi hV (Mc := mX4_leadsOfDark) (v := Mo_leadsOfDark q.1 q.2) (S1 := q.2) (As := [.int q.1]) (rest := [.int q.1, .ref 45]) (q := (RX4, TX4, 8)) (pc := 18) dX8_beginAssumptions_18 mK_X8_51 mf_X4_leadsOfDark rfl k0_25 rfl rfl rfl (Nat.le_of_ble_eq_true rfl) ⟨Nat.le_of_ble_eq_true rfl, Nat.le_of_ble_eq_true rfl⟩ (r_Mo_leadsOfDark hV rfl) ?_
    obtain ⟨S1, hS1, h⟩ := app_of h
    refine v_callNv (Mc := mX11_put) (S1 := S1) (As := [.ref 45, .int q.1, .int (Mo_leadsOfDark q.1 q.2)]) (rest := []) (pc := 21) dX8_beginAssumptions_21 nl_X8_39 mf_X11_put rfl rfl (Nat.le_of_ble_eq_true rfl) ⟨Nat.le_of_ble_eq_true rfl, Nat.le_of_ble_eq_true rfl⟩ (r_put hV k0_45 own_45 (by decide) hS1) ?_
    refine g_iinc (v := q.1 + 1) (ls1 := [some (.ref 42), some (.int (q.1 + 1)), none, none]) (pc := 24) dX8_beginAssumptions_24 rfl rfl (by decide) rfl ?_
    refine g_goto (tgt := 2) (pc := 27) dX8_beginAssumptions_27 (by decide) ?_
    cases h
    exact hK
set_option maxRecDepth 4000 in
theorem w_Sg_beginAssumptions_L2 {V : Sm → Wd} (hV : VwC V) {l : Launch} {Γ : Gm} {rF : Option Value} {wF : Wd}  {k : Nat} {q : Int32 × Sm} {o : Sm} (h : lpN (Sg_beginAssumptions_L2) k q = some o) (hP : ps_Sg_beginAssumptions_L2 V l Γ rF wF o) : hd_Sg_beginAssumptions_L2 V l Γ rF wF q := lpN_ind2 (hd_Sg_beginAssumptions_L2 V l Γ rF wF) (ps_Sg_beginAssumptions_L2 V l Γ rF wF) (fun s o h hK => t_Sg_beginAssumptions_L2 hV h hK) k q o h hP
def hd_Sg_beginAssumptions_L39 (V : Sm → Wd) (l : Launch) (Γ : Gm) (rF : Option Value) (wF : Wd) (v2 : Int32) (S : Sm) (q : Int32 × Int32) : Prop := G mX8_beginAssumptions l Γ (rmD 4 0 0) (mQ Γ rF wF 0 0) 0 0 39 [some (.ref 42), some (.int q.1), some (.int v2), some (.int q.2)] [] (V S)
def ps_Sg_beginAssumptions_L39 (V : Sm → Wd) (l : Launch) (Γ : Gm) (rF : Option Value) (wF : Wd) (v2 : Int32) (S : Sm) (x : Int32) : Prop := (fun (a : Int32) => G mX8_beginAssumptions l Γ (rmD 4 0 0) (mQ Γ rF wF 0 0) 0 0 60 [none, some (.int a), none, none] [] (V S)) x
def Sg_beginAssumptions_L39 (v2 : Int32) (S : Sm) (q : Int32 × Int32) : Option ((Int32 × Int32) ⊕ (Int32)) := (if v2 ≤ q.2 then (some (.inr q.1)) else (some (.inl (q.1 * (Nt_mouths S), q.2 + 1))))
set_option maxRecDepth 4000 in
theorem t_Sg_beginAssumptions_L39 {V : Sm → Wd} (hV : VwC V) {l : Launch} {Γ : Gm} {rF : Option Value} {wF : Wd} {v2 : Int32} {S : Sm} {q : Int32 × Int32} {o : (Int32 × Int32) ⊕ (Int32)} (h : Sg_beginAssumptions_L39 v2 S q = some o) (hK : Sum.elim (hd_Sg_beginAssumptions_L39 V l Γ rF wF v2 S) (ps_Sg_beginAssumptions_L39 V l Γ rF wF v2 S) o) : hd_Sg_beginAssumptions_L39 V l Γ rF wF v2 S q := by
  unfold Sg_beginAssumptions_L39 at h
  unfold hd_Sg_beginAssumptions_L39
  refine g_iload_n (pc := 39) dX8_beginAssumptions_39 rfl ?_
  refine g_iload_n (pc := 40) dX8_beginAssumptions_40 rfl ?_
  refine g_icmp_ge (tgt := 60) (pc := 41) dX8_beginAssumptions_41 (by decide) (fun c5 => ?_) (fun c5 => ?_)
  · rw [if_pos c5] at h
    refine g_wk [false, true, false, false] rfl ?_
    cases h
    exact hK
  · rw [if_neg c5] at h
    refine g_iload_n (pc := 44) dX8_beginAssumptions_44 rfl ?_
    refine g_aload_n (pc := 45) dX8_beginAssumptions_45 rfl ?_
    refine v_getR hV (pc := 46) dX8_beginAssumptions_46 fo_8_0 rfl k0_42 r0_42_0 ?_
    refine v_callVi hV (Mc := mX5_mouths) (v := Nt_mouths S) (S1 := S) (As := []) (rest := [.int q.1]) (q := (RX5, TX5, 3)) (pc := 49) dX8_beginAssumptions_49 mK_X8_60 mf_X5_mouths rfl k0_10 rfl rfl rfl (Nat.le_of_ble_eq_true rfl) ⟨Nat.le_of_ble_eq_true rfl, Nat.le_of_ble_eq_true rfl⟩ (r_Nt_mouths hV rfl) ?_
    refine g_imul (pc := 52) dX8_beginAssumptions_52 ?_
    refine g_istore_n (ls1 := [some (.ref 42), some (.int (q.1 * (Nt_mouths S))), some (.int v2), some (.int q.2)]) (pc := 53) dX8_beginAssumptions_53 (by decide) rfl ?_
    refine g_iinc (v := q.2 + 1) (ls1 := [some (.ref 42), some (.int (q.1 * (Nt_mouths S))), some (.int v2), some (.int (q.2 + 1))]) (pc := 54) dX8_beginAssumptions_54 rfl rfl (by decide) rfl ?_
    refine g_goto (tgt := 39) (pc := 57) dX8_beginAssumptions_57 (by decide) ?_
    cases h
    exact hK
set_option maxRecDepth 4000 in
theorem w_Sg_beginAssumptions_L39 {V : Sm → Wd} (hV : VwC V) {l : Launch} {Γ : Gm} {rF : Option Value} {wF : Wd} {v2 : Int32} {S : Sm} {k : Nat} {q : Int32 × Int32} {o : Int32} (h : lpN (Sg_beginAssumptions_L39 v2 S) k q = some o) (hP : ps_Sg_beginAssumptions_L39 V l Γ rF wF v2 S o) : hd_Sg_beginAssumptions_L39 V l Γ rF wF v2 S q := lpN_ind2 (hd_Sg_beginAssumptions_L39 V l Γ rF wF v2 S) (ps_Sg_beginAssumptions_L39 V l Γ rF wF v2 S) (fun s o h hK => t_Sg_beginAssumptions_L39 hV h hK) k q o h hP
def Sg_beginAssumptions (S : Sm) : Option (Int32 × Sm) := ((lpN (Sg_beginAssumptions_L2) FU (0, S)).bind fun q3 => ((Sg_unknownNow q3).bind fun q4 => ((lpN (Sg_beginAssumptions_L39 q4.1 q4.2) FU (1, 0)).bind fun q6 => (some ((q6, q4.2))))))
set_option maxRecDepth 4000 in
theorem r_Sg_beginAssumptions {V : Sm → Wd} (hV : VwC V)  {S : Sm} {q : Int32 × Sm} (h : Sg_beginAssumptions S = some q) : Runs 4 mX8_beginAssumptions [.ref 42] (V S) (some (.int q.1)) (V q.2) 0 0 := by
  unfold Sg_beginAssumptions at h
  refine Runs.of2 [some (.ref 42), none, none, none] 3 rfl rfl (Nat.le_of_ble_eq_true rfl) (fun l Γ => ?_)
  refine g_iconst (v := 0) (pc := 0) dX8_beginAssumptions_0 (by decide) ?_
  refine g_istore_n (ls1 := [some (.ref 42), some (.int 0), none, none]) (pc := 1) dX8_beginAssumptions_1 (by decide) rfl ?_
  obtain ⟨q3, hqq3, h⟩ := bnd h
  refine w_Sg_beginAssumptions_L2 hV hqq3 ?_
  unfold ps_Sg_beginAssumptions_L2
  show G _ _ _ _ _ _ _ _ _ _ _
  refine g_iconst (v := 1) (pc := 30) dX8_beginAssumptions_30 (by decide) ?_
  refine g_istore_n (ls1 := [some (.ref 42), some (.int 1), none, none]) (pc := 31) dX8_beginAssumptions_31 (by decide) rfl ?_
  refine g_aload_n (pc := 32) dX8_beginAssumptions_32 rfl ?_
  obtain ⟨q4, hq4, h⟩ := bnd h
  refine v_callVi hV (Mc := mX8_unknownNow) (v := q4.1) (S1 := q4.2) (As := []) (rest := []) (q := (RX8, TX8, 8)) (pc := 33) dX8_beginAssumptions_33 mK_X8_56 mf_X8_unknownNow rfl k0_42 rfl rfl rfl (Nat.le_of_ble_eq_true rfl) ⟨Nat.le_of_ble_eq_true rfl, Nat.le_of_ble_eq_true rfl⟩ (r_Sg_unknownNow hV hq4) ?_
  refine g_istore_n (ls1 := [some (.ref 42), some (.int 1), some (.int q4.1), none]) (pc := 36) dX8_beginAssumptions_36 (by decide) rfl ?_
  refine g_iconst (v := 0) (pc := 37) dX8_beginAssumptions_37 (by decide) ?_
  refine g_istore_n (ls1 := [some (.ref 42), some (.int 1), some (.int q4.1), some (.int 0)]) (pc := 38) dX8_beginAssumptions_38 (by decide) rfl ?_
  obtain ⟨q6, hqq6, h⟩ := bnd h
  refine w_Sg_beginAssumptions_L39 hV hqq6 ?_
  unfold ps_Sg_beginAssumptions_L39
  show G _ _ _ _ _ _ _ _ _ _ _
  refine g_iload_n (pc := 60) dX8_beginAssumptions_60 rfl ?_
  cases h
  exact g_iret (pc := 61) dX8_beginAssumptions_61 rfl rfl (Nat.le_refl _) (Nat.le_refl _)
def hd_Sg_fits_L11 (V : Sm → Wd) (l : Launch) (Γ : Gm) (rF : Option Value) (wF : Wd) (v1 : Int32) (S : Sm) (q : Int32 × Int32) : Prop := G mX8_fits l Γ (rmD 1 0 0) (mQ Γ rF wF 0 0) 0 0 11 [some (.ref 42), some (.int v1), some (.int q.1), some (.int q.2)] [] (V S)
def ps_Sg_fits_L11 (V : Sm → Wd) (l : Launch) (Γ : Gm) (rF : Option Value) (wF : Wd) (v1 : Int32) (S : Sm) (x : Int32) : Prop := (fun (a : Int32) => G mX8_fits l Γ (rmD 1 0 0) (mQ Γ rF wF 0 0) 0 0 53 [some (.ref 42), some (.int v1), some (.int a), none] [] (V S)) x
def Sg_fits_L11 (v1 : Int32) (S : Sm) (q : Int32 × Int32) : Option ((Int32 × Int32) ⊕ (Int32)) := (if (atF (gi S 43) 40 (v1 + 2)) ≤ q.2 then (some (.inr q.1)) else (some (.inl (atF (gi S 45) 40 (Dk_darkOf q.1 (atF (gi S 43) 40 (v1 + 1))), q.2 + 1))))
set_option maxRecDepth 4000 in
theorem t_Sg_fits_L11 {V : Sm → Wd} (hV : VwC V) {l : Launch} {Γ : Gm} {rF : Option Value} {wF : Wd} {v1 : Int32} {S : Sm} {q : Int32 × Int32} {o : (Int32 × Int32) ⊕ (Int32)} (h : Sg_fits_L11 v1 S q = some o) (hK : Sum.elim (hd_Sg_fits_L11 V l Γ rF wF v1 S) (ps_Sg_fits_L11 V l Γ rF wF v1 S) o) : hd_Sg_fits_L11 V l Γ rF wF v1 S q := by
  unfold Sg_fits_L11 at h
  unfold hd_Sg_fits_L11
  refine g_iload_n (pc := 11) dX8_fits_11 rfl ?_
  refine g_aload_n (pc := 12) dX8_fits_12 rfl ?_
  refine v_getR hV (pc := 13) dX8_fits_13 fo_8_2 rfl k0_42 r0_42_2 ?_
  refine g_iload_n (pc := 16) dX8_fits_16 rfl ?_
  refine g_iconst (v := 2) (pc := 17) dX8_fits_17 (by decide) ?_
  refine g_iadd (pc := 18) dX8_fits_18 ?_
  refine v_callNi (Mc := mX11_at) (v := atF (gi S 43) 40 (v1 + 2)) (S1 := S) (As := [.ref 43, .int (v1 + 2)]) (rest := [.int q.2]) (pc := 19) dX8_fits_19 nl_X8_69 mf_X11_at rfl rfl (Nat.le_of_ble_eq_true rfl) ⟨Nat.le_of_ble_eq_true rfl, Nat.le_of_ble_eq_true rfl⟩ (r_at hV k0_43 own_43 (by decide)) ?_
  refine g_icmp_ge (tgt := 53) (pc := 22) dX8_fits_22 (by decide) (fun c1 => ?_) (fun c1 => ?_)
  · rw [if_pos c1] at h
    refine g_wk [true, true, true, false] rfl ?_
    cases h
    exact hK
  · rw [if_neg c1] at h
    refine g_aload_n (pc := 25) dX8_fits_25 rfl ?_
    refine v_getR hV (pc := 26) dX8_fits_26 fo_8_4 rfl k0_42 r0_42_4 ?_
    refine g_iload_n (pc := 29) dX8_fits_29 rfl ?_
    refine g_aload_n (pc := 30) dX8_fits_30 rfl ?_
    refine v_getR hV (pc := 31) dX8_fits_31 fo_8_2 rfl k0_42 r0_42_2 ?_
    refine g_iload_n (pc := 34) dX8_fits_34 rfl ?_
    refine g_iconst (v := 1) (pc := 35) dX8_fits_35 (by decide) ?_
    refine g_iadd (pc := 36) dX8_fits_36 ?_
    refine v_callNi (Mc := mX11_at) (v := atF (gi S 43) 40 (v1 + 1)) (S1 := S) (As := [.ref 43, .int (v1 + 1)]) (rest := [.int q.1, .ref 45]) (pc := 37) dX8_fits_37 nl_X8_69 mf_X11_at rfl rfl (Nat.le_of_ble_eq_true rfl) ⟨Nat.le_of_ble_eq_true rfl, Nat.le_of_ble_eq_true rfl⟩ (r_at hV k0_43 own_43 (by decide)) ?_
    refine v_callNi (Mc := mX11_darkOf) (v := Dk_darkOf q.1 (atF (gi S 43) 40 (v1 + 1))) (S1 := S) (As := [.int q.1, .int (atF (gi S 43) 40 (v1 + 1))]) (rest := [.ref 45]) (pc := 40) dX8_fits_40 nl_X8_77 mf_X11_darkOf rfl rfl (Nat.le_of_ble_eq_true rfl) ⟨Nat.le_of_ble_eq_true rfl, Nat.le_of_ble_eq_true rfl⟩ (r_Dk_darkOf hV rfl) ?_
    refine v_callNi (Mc := mX11_at) (v := atF (gi S 45) 40 (Dk_darkOf q.1 (atF (gi S 43) 40 (v1 + 1)))) (S1 := S) (As := [.ref 45, .int (Dk_darkOf q.1 (atF (gi S 43) 40 (v1 + 1)))]) (rest := []) (pc := 43) dX8_fits_43 nl_X8_69 mf_X11_at rfl rfl (Nat.le_of_ble_eq_true rfl) ⟨Nat.le_of_ble_eq_true rfl, Nat.le_of_ble_eq_true rfl⟩ (r_at hV k0_45 own_45 (by decide)) ?_
    refine g_istore_n (ls1 := [some (.ref 42), some (.int v1), some (.int (atF (gi S 45) 40 (Dk_darkOf q.1 (atF (gi S 43) 40 (v1 + 1))))), some (.int q.2)]) (pc := 46) dX8_fits_46 (by decide) rfl ?_
    refine g_iinc (v := q.2 + 1) (ls1 := [some (.ref 42), some (.int v1), some (.int (atF (gi S 45) 40 (Dk_darkOf q.1 (atF (gi S 43) 40 (v1 + 1))))), some (.int (q.2 + 1))]) (pc := 47) dX8_fits_47 rfl rfl (by decide) rfl ?_
    refine g_goto (tgt := 11) (pc := 50) dX8_fits_50 (by decide) ?_
    cases h
    exact hK
set_option maxRecDepth 4000 in
theorem w_Sg_fits_L11 {V : Sm → Wd} (hV : VwC V) {l : Launch} {Γ : Gm} {rF : Option Value} {wF : Wd} {v1 : Int32} {S : Sm} {k : Nat} {q : Int32 × Int32} {o : Int32} (h : lpN (Sg_fits_L11 v1 S) k q = some o) (hP : ps_Sg_fits_L11 V l Γ rF wF v1 S o) : hd_Sg_fits_L11 V l Γ rF wF v1 S q := lpN_ind2 (hd_Sg_fits_L11 V l Γ rF wF v1 S) (ps_Sg_fits_L11 V l Γ rF wF v1 S) (fun s o h hK => t_Sg_fits_L11 hV h hK) k q o h hP
def Sg_fits_72 (s0 : Int32) (S : Sm) : Option (Int32) := (some (s0 &&& 1))
set_option maxRecDepth 4000 in
theorem t_Sg_fits_72 {V : Sm → Wd} (hV : VwC V) {l : Launch} {Γ : Gm} {s0 : Int32} {S : Sm} {q : Int32} (h : Sg_fits_72 s0 S = some q) : G mX8_fits l Γ (rmD 1 0 0) (mQ Γ (some (.int q)) (V S) 0 0) 0 0 72 [none, none, none, none] [.int s0] (V S) := by
  unfold Sg_fits_72 at h
  cases h
  exact g_iret (pc := 72) dX8_fits_72 rfl rfl (Nat.le_refl _) (Nat.le_refl _)
def Sg_fits (v1 : Int32) (S : Sm) : Option (Int32) := ((lpN (Sg_fits_L11 v1 S) FU (atF (gi S 43) 40 v1, 0)).bind fun q2 => (if q2 = (atF (gi S 43) 40 (v1 + 3)) then (Sg_fits_72 1 S) else (Sg_fits_72 0 S)))
set_option maxRecDepth 4000 in
theorem r_Sg_fits {V : Sm → Wd} (hV : VwC V) {v1 : Int32} {S : Sm} {q : Int32} (h : Sg_fits v1 S = some q) : Runs 1 mX8_fits [.ref 42, .int v1] (V S) (some (.int q)) (V S) 0 0 := by
  unfold Sg_fits at h
  refine Runs.of2 [some (.ref 42), some (.int v1), none, none] 2 rfl rfl (Nat.le_of_ble_eq_true rfl) (fun l Γ => ?_)
  refine g_aload_n (pc := 0) dX8_fits_0 rfl ?_
  refine v_getR hV (pc := 1) dX8_fits_1 fo_8_2 rfl k0_42 r0_42_2 ?_
  refine g_iload_n (pc := 4) dX8_fits_4 rfl ?_
  refine v_callNi (Mc := mX11_at) (v := atF (gi S 43) 40 v1) (S1 := S) (As := [.ref 43, .int v1]) (rest := []) (pc := 5) dX8_fits_5 nl_X8_69 mf_X11_at rfl rfl (Nat.le_of_ble_eq_true rfl) ⟨Nat.le_of_ble_eq_true rfl, Nat.le_of_ble_eq_true rfl⟩ (r_at hV k0_43 own_43 (by decide)) ?_
  refine g_istore_n (ls1 := [some (.ref 42), some (.int v1), some (.int (atF (gi S 43) 40 v1)), none]) (pc := 8) dX8_fits_8 (by decide) rfl ?_
  refine g_iconst (v := 0) (pc := 9) dX8_fits_9 (by decide) ?_
  refine g_istore_n (ls1 := [some (.ref 42), some (.int v1), some (.int (atF (gi S 43) 40 v1)), some (.int 0)]) (pc := 10) dX8_fits_10 (by decide) rfl ?_
  obtain ⟨q2, hqq2, h⟩ := bnd h
  refine w_Sg_fits_L11 hV hqq2 ?_
  unfold ps_Sg_fits_L11
  show G _ _ _ _ _ _ _ _ _ _ _
  refine g_iload_n (pc := 53) dX8_fits_53 rfl ?_
  refine g_aload_n (pc := 54) dX8_fits_54 rfl ?_
  refine v_getR hV (pc := 55) dX8_fits_55 fo_8_2 rfl k0_42 r0_42_2 ?_
  refine g_iload_n (pc := 58) dX8_fits_58 rfl ?_
  refine g_iconst (v := 3) (pc := 59) dX8_fits_59 (by decide) ?_
  refine g_iadd (pc := 60) dX8_fits_60 ?_
  refine v_callNi (Mc := mX11_at) (v := atF (gi S 43) 40 (v1 + 3)) (S1 := S) (As := [.ref 43, .int (v1 + 3)]) (rest := [.int q2]) (pc := 61) dX8_fits_61 nl_X8_69 mf_X11_at rfl rfl (Nat.le_of_ble_eq_true rfl) ⟨Nat.le_of_ble_eq_true rfl, Nat.le_of_ble_eq_true rfl⟩ (r_at hV k0_43 own_43 (by decide)) ?_
  refine g_icmp_ne (tgt := 71) (pc := 64) dX8_fits_64 (by decide) (fun c3 => ?_) (fun c3 => ?_)
  · rw [if_neg c3] at h
    refine g_iconst (v := 0) (pc := 71) dX8_fits_71 (by decide) ?_
    refine g_wk [false, false, false, false] rfl ?_
    exact t_Sg_fits_72 hV h
  · rw [if_pos c3] at h
    refine g_iconst (v := 1) (pc := 67) dX8_fits_67 (by decide) ?_
    refine g_goto (tgt := 72) (pc := 68) dX8_fits_68 (by decide) ?_
    refine g_wk [false, false, false, false] rfl ?_
    exact t_Sg_fits_72 hV h
def hd_Sg_isNet_L9 (V : Sm → Wd) (l : Launch) (Γ : Gm) (rF : Option Value) (wF : Wd)  (q : Int32 × Int32 × Sm) : Prop := G mX8_isNet l Γ (rmD 2 0 0) (mQ Γ rF wF 0 0) 0 0 9 [some (.ref 42), none, some (.int q.1), some (.int q.2.1), none] [] (V q.2.2)
def ps_Sg_isNet_L9 (V : Sm → Wd) (l : Launch) (Γ : Gm) (rF : Option Value) (wF : Wd)  (x : Sm) : Prop := (fun (a : Sm) => G mX8_isNet l Γ (rmD 2 0 0) (mQ Γ rF wF 0 0) 0 0 56 [some (.ref 42), none, none, none, none] [] (V a)) x
def Sg_isNet_L9 (q : Int32 × Int32 × Sm) : Option ((Int32 × Int32 × Sm) ⊕ (Sm)) := (if q.2.1 < 0 then (some (.inr q.2.2)) else (if (iMax 1 (Nt_mouths q.2.2)) = (0 : Int32) then none else (app (puF q.2.2 45 40 (atF (gi q.2.2 44) 4 q.2.1) (iRem q.1 (iMax 1 (Nt_mouths q.2.2)))) fun S1 => (if (iMax 1 (Nt_mouths q.2.2)) = (0 : Int32) then none else (some (.inl (q.1 / (iMax 1 (Nt_mouths q.2.2)), q.2.1 + (-1), S1)))))))
set_option maxRecDepth 4000 in
theorem t_Sg_isNet_L9 {V : Sm → Wd} (hV : VwC V) {l : Launch} {Γ : Gm} {rF : Option Value} {wF : Wd}  {q : Int32 × Int32 × Sm} {o : (Int32 × Int32 × Sm) ⊕ (Sm)} (h : Sg_isNet_L9 q = some o) (hK : Sum.elim (hd_Sg_isNet_L9 V l Γ rF wF) (ps_Sg_isNet_L9 V l Γ rF wF) o) : hd_Sg_isNet_L9 V l Γ rF wF q := by
  unfold Sg_isNet_L9 at h
  unfold hd_Sg_isNet_L9
  refine g_iload_n (pc := 9) dX8_isNet_9 rfl ?_
  refine g_if_lt (tgt := 56) (pc := 10) dX8_isNet_10 (by decide) (fun c4 => ?_) (fun c4 => ?_)
  · rw [if_pos c4] at h
    refine g_wk [true, false, false, false, false] rfl ?_
    cases h
    exact hK
  · rw [if_neg c4] at h
    refine g_iconst (v := 1) (pc := 13) dX8_isNet_13 (by decide) ?_
    refine g_aload_n (pc := 14) dX8_isNet_14 rfl ?_
    refine v_getR hV (pc := 15) dX8_isNet_15 fo_8_0 rfl k0_42 r0_42_0 ?_
    refine v_callVi hV (Mc := mX5_mouths) (v := Nt_mouths q.2.2) (S1 := q.2.2) (As := []) (rest := [.int 1]) (q := (RX5, TX5, 3)) (pc := 18) dX8_isNet_18 mK_X8_60 mf_X5_mouths rfl k0_10 rfl rfl rfl (Nat.le_of_ble_eq_true rfl) ⟨Nat.le_of_ble_eq_true rfl, Nat.le_of_ble_eq_true rfl⟩ (r_Nt_mouths hV rfl) ?_
    refine g_iMax (pc := 21) dX8_isNet_21 mK_X8_63 ⟨Nat.le_of_ble_eq_true rfl, Nat.le_of_ble_eq_true rfl⟩ (Nat.zero_le _) (Nat.zero_le _) ?_
    refine g_istore (ls1 := [some (.ref 42), none, some (.int q.1), some (.int q.2.1), some (.int (iMax 1 (Nt_mouths q.2.2)))]) (pc := 24) dX8_isNet_24 (by decide) rfl ?_
    refine g_aload_n (pc := 26) dX8_isNet_26 rfl ?_
    refine v_getR hV (pc := 27) dX8_isNet_27 fo_8_4 rfl k0_42 r0_42_4 ?_
    refine g_aload_n (pc := 30) dX8_isNet_30 rfl ?_
    refine v_getR hV (pc := 31) dX8_isNet_31 fo_8_3 rfl k0_42 r0_42_3 ?_
    refine g_iload_n (pc := 34) dX8_isNet_34 rfl ?_
    refine v_callNi (Mc := mX11_at) (v := atF (gi q.2.2 44) 4 q.2.1) (S1 := q.2.2) (As := [.ref 44, .int q.2.1]) (rest := [.ref 45]) (pc := 35) dX8_isNet_35 nl_X8_69 mf_X11_at rfl rfl (Nat.le_of_ble_eq_true rfl) ⟨Nat.le_of_ble_eq_true rfl, Nat.le_of_ble_eq_true rfl⟩ (r_at hV k0_44 own_44 (by decide)) ?_
    refine g_iload_n (pc := 38) dX8_isNet_38 rfl ?_
    refine g_iload (pc := 39) dX8_isNet_39 rfl ?_
    by_cases c3 : (iMax 1 (Nt_mouths q.2.2)) = (0 : Int32)
    · rw [if_pos c3] at h; cases h
    · rw [if_neg c3] at h
      refine g_irem (pc := 41) dX8_isNet_41 c3 ?_
      obtain ⟨S1, hS1, h⟩ := app_of h
      refine v_callNv (Mc := mX11_put) (S1 := S1) (As := [.ref 45, .int (atF (gi q.2.2 44) 4 q.2.1), .int (iRem q.1 (iMax 1 (Nt_mouths q.2.2)))]) (rest := []) (pc := 42) dX8_isNet_42 nl_X8_39 mf_X11_put rfl rfl (Nat.le_of_ble_eq_true rfl) ⟨Nat.le_of_ble_eq_true rfl, Nat.le_of_ble_eq_true rfl⟩ (r_put hV k0_45 own_45 (by decide) hS1) ?_
      refine g_iload_n (pc := 45) dX8_isNet_45 rfl ?_
      refine g_iload (pc := 46) dX8_isNet_46 rfl ?_
      by_cases c2 : (iMax 1 (Nt_mouths q.2.2)) = (0 : Int32)
      · rw [if_pos c2] at h; cases h
      · rw [if_neg c2] at h
        refine g_idiv (pc := 48) dX8_isNet_48 c2 ?_
        refine g_istore_n (ls1 := [some (.ref 42), none, some (.int (q.1 / (iMax 1 (Nt_mouths q.2.2)))), some (.int q.2.1), some (.int (iMax 1 (Nt_mouths q.2.2)))]) (pc := 49) dX8_isNet_49 (by decide) rfl ?_
        refine g_iinc (v := q.2.1 + (-1)) (ls1 := [some (.ref 42), none, some (.int (q.1 / (iMax 1 (Nt_mouths q.2.2)))), some (.int (q.2.1 + (-1))), some (.int (iMax 1 (Nt_mouths q.2.2)))]) (pc := 50) dX8_isNet_50 rfl rfl (by decide) rfl ?_
        refine g_goto (tgt := 9) (pc := 53) dX8_isNet_53 (by decide) ?_
        refine g_wk [true, false, true, true, false] rfl ?_
        cases h
        exact hK
set_option maxRecDepth 4000 in
theorem w_Sg_isNet_L9 {V : Sm → Wd} (hV : VwC V) {l : Launch} {Γ : Gm} {rF : Option Value} {wF : Wd}  {k : Nat} {q : Int32 × Int32 × Sm} {o : Sm} (h : lpN (Sg_isNet_L9) k q = some o) (hP : ps_Sg_isNet_L9 V l Γ rF wF o) : hd_Sg_isNet_L9 V l Γ rF wF q := lpN_ind2 (hd_Sg_isNet_L9 V l Γ rF wF) (ps_Sg_isNet_L9 V l Γ rF wF) (fun s o h hK => t_Sg_isNet_L9 hV h hK) k q o h hP
def hd_Sg_isNet_L58 (V : Sm → Wd) (l : Launch) (Γ : Gm) (rF : Option Value) (wF : Wd) (S : Sm) (q : Int32) : Prop := G mX8_isNet l Γ (rmD 2 0 0) (mQ Γ rF wF 0 0) 0 0 58 [some (.ref 42), none, none, some (.int q), none] [] (V S)
def ps_Sg_isNet_L58 (V : Sm → Wd) (l : Launch) (Γ : Gm) (rF : Option Value) (wF : Wd) (S : Sm) (x : (Unit) ⊕ (Unit)) : Prop := (Sum.elim (fun (a : Unit) => G mX8_isNet l Γ (rmD 2 0 0) (mQ Γ rF wF 0 0) 0 0 76 [none, none, none, none, none] [] (V S)) (fun (a : Unit) => G mX8_isNet l Γ (rmD 2 0 0) (mQ Γ rF wF 0 0) 0 0 84 [none, none, none, none, none] [] (V S))) x
def Sg_isNet_L58 (S : Sm) (q : Int32) : Option ((Int32) ⊕ ((Unit) ⊕ (Unit))) := (if (gi S 42 6) ≤ q then (some (.inr (.inr ()))) else ((Sg_fits (q * 4) S).bind fun q6 => (if q6 = 0 then (some (.inr (.inl ()))) else (some (.inl (q + 1))))))
set_option maxRecDepth 4000 in
theorem t_Sg_isNet_L58 {V : Sm → Wd} (hV : VwC V) {l : Launch} {Γ : Gm} {rF : Option Value} {wF : Wd} {S : Sm} {q : Int32} {o : (Int32) ⊕ ((Unit) ⊕ (Unit))} (h : Sg_isNet_L58 S q = some o) (hK : Sum.elim (hd_Sg_isNet_L58 V l Γ rF wF S) (ps_Sg_isNet_L58 V l Γ rF wF S) o) : hd_Sg_isNet_L58 V l Γ rF wF S q := by
  unfold Sg_isNet_L58 at h
  unfold hd_Sg_isNet_L58
  refine g_iload_n (pc := 58) dX8_isNet_58 rfl ?_
  refine g_aload_n (pc := 59) dX8_isNet_59 rfl ?_
  refine v_getI hV (pc := 60) dX8_isNet_60 fo_8_6 rfl k0_42 own_42 ?_
  refine g_icmp_ge (tgt := 84) (pc := 63) dX8_isNet_63 (by decide) (fun c8 => ?_) (fun c8 => ?_)
  · rw [if_pos c8] at h
    refine g_wk [false, false, false, false, false] rfl ?_
    cases h
    exact hK
  · rw [if_neg c8] at h
    refine g_aload_n (pc := 66) dX8_isNet_66 rfl ?_
    refine g_iload_n (pc := 67) dX8_isNet_67 rfl ?_
    refine g_iconst (v := 4) (pc := 68) dX8_isNet_68 (by decide) ?_
    refine g_imul (pc := 69) dX8_isNet_69 ?_
    obtain ⟨q6, hq6, h⟩ := bnd h
    refine v_callVi hV (Mc := mX8_fits) (v := q6) (S1 := S) (As := [.int (q * 4)]) (rest := []) (q := (RX8, TX8, 8)) (pc := 70) dX8_isNet_70 mK_X8_73 mf_X8_fits rfl k0_42 rfl rfl rfl (Nat.le_of_ble_eq_true rfl) ⟨Nat.le_of_ble_eq_true rfl, Nat.le_of_ble_eq_true rfl⟩ (r_Sg_fits hV hq6) ?_
    refine g_if_ne (tgt := 78) (pc := 73) dX8_isNet_73 (by decide) (fun c7 => ?_) (fun c7 => ?_)
    · rw [if_neg c7] at h
      refine g_iinc (v := q + 1) (ls1 := [some (.ref 42), none, none, some (.int (q + 1)), none]) (pc := 78) dX8_isNet_78 rfl rfl (by decide) rfl ?_
      refine g_goto (tgt := 58) (pc := 81) dX8_isNet_81 (by decide) ?_
      cases h
      exact hK
    · rw [if_pos c7] at h
      refine g_wk [false, false, false, false, false] rfl ?_
      cases h
      exact hK
set_option maxRecDepth 4000 in
theorem w_Sg_isNet_L58 {V : Sm → Wd} (hV : VwC V) {l : Launch} {Γ : Gm} {rF : Option Value} {wF : Wd} {S : Sm} {k : Nat} {q : Int32} {o : (Unit) ⊕ (Unit)} (h : lpN (Sg_isNet_L58 S) k q = some o) (hP : ps_Sg_isNet_L58 V l Γ rF wF S o) : hd_Sg_isNet_L58 V l Γ rF wF S q := lpN_ind2 (hd_Sg_isNet_L58 V l Γ rF wF S) (ps_Sg_isNet_L58 V l Γ rF wF S) (fun s o h hK => t_Sg_isNet_L58 hV h hK) k q o h hP
def Sg_isNet (v1 : Int32) (S : Sm) : Option (Int32 × Sm) := ((lpN (Sg_isNet_L9) FU (v1, (gi S 42 7) - 1, S)).bind fun q5 => ((lpN (Sg_isNet_L58 q5) FU 0).bind fun q9 => (Sum.elim (fun a10 => (some ((0, q5)))) (fun a11 => (some ((1, q5)))) q9)))
set_option maxRecDepth 4000 in
theorem r_Sg_isNet {V : Sm → Wd} (hV : VwC V) {v1 : Int32} {S : Sm} {q : Int32 × Sm} (h : Sg_isNet v1 S = some q) : Runs 2 mX8_isNet [.ref 42, .int v1] (V S) (some (.int q.1)) (V q.2) 0 0 := by
  unfold Sg_isNet at h
  refine Runs.of2 [some (.ref 42), some (.int v1), none, none, none] 3 rfl rfl (Nat.le_of_ble_eq_true rfl) (fun l Γ => ?_)
  refine g_iload_n (pc := 0) dX8_isNet_0 rfl ?_
  refine g_istore_n (ls1 := [some (.ref 42), some (.int v1), some (.int v1), none, none]) (pc := 1) dX8_isNet_1 (by decide) rfl ?_
  refine g_aload_n (pc := 2) dX8_isNet_2 rfl ?_
  refine v_getI hV (pc := 3) dX8_isNet_3 fo_8_7 rfl k0_42 own_42 ?_
  refine g_iconst (v := 1) (pc := 6) dX8_isNet_6 (by decide) ?_
  refine g_isub (pc := 7) dX8_isNet_7 ?_
  refine g_istore_n (ls1 := [some (.ref 42), some (.int v1), some (.int v1), some (.int ((gi S 42 7) - 1)), none]) (pc := 8) dX8_isNet_8 (by decide) rfl ?_
  refine g_wk [true, false, true, true, false] rfl ?_
  obtain ⟨q5, hqq5, h⟩ := bnd h
  refine w_Sg_isNet_L9 hV hqq5 ?_
  unfold ps_Sg_isNet_L9
  show G _ _ _ _ _ _ _ _ _ _ _
  refine g_iconst (v := 0) (pc := 56) dX8_isNet_56 (by decide) ?_
  refine g_istore_n (ls1 := [some (.ref 42), none, none, some (.int 0), none]) (pc := 57) dX8_isNet_57 (by decide) rfl ?_
  obtain ⟨q9, hqq9, h⟩ := bnd h
  refine w_Sg_isNet_L58 hV hqq9 ?_
  unfold ps_Sg_isNet_L58
  cases q9 with
  | inl a10 =>
    simp only [Sum.elim_inl] at h
    show G _ _ _ _ _ _ _ _ _ _ _
    refine g_iconst (v := 0) (pc := 76) dX8_isNet_76 (by decide) ?_
    cases h
    exact g_iret (u := 0) (pc := 77) dX8_isNet_77 rfl (by decide) (Nat.le_refl _) (Nat.le_refl _)
  | inr a11 =>
    simp only [Sum.elim_inr] at h
    show G _ _ _ _ _ _ _ _ _ _ _
    refine g_iconst (v := 1) (pc := 84) dX8_isNet_84 (by decide) ?_
    cases h
    exact g_iret (u := 1) (pc := 85) dX8_isNet_85 rfl (by decide) (Nat.le_refl _) (Nat.le_refl _)
def Sg_assumedMouth (v1 : Int32) (S : Sm) : Int32 := (atF (gi S 45) 40 (atF (gi S 44) 4 v1))
set_option maxRecDepth 4000 in
theorem r_Sg_assumedMouth {V : Sm → Wd} (hV : VwC V) {v1 : Int32} {S : Sm} {q : Int32} (h : Sg_assumedMouth v1 S = q) : Runs 1 mX8_assumedMouth [.ref 42, .int v1] (V S) (some (.int q)) (V S) 0 0 := by
  unfold Sg_assumedMouth at h
  refine Runs.of2 [some (.ref 42), some (.int v1)] 0 rfl rfl (Nat.le_of_ble_eq_true rfl) (fun l Γ => ?_)
  refine g_aload_n (pc := 0) dX8_assumedMouth_0 rfl ?_
  refine v_getR hV (pc := 1) dX8_assumedMouth_1 fo_8_4 rfl k0_42 r0_42_4 ?_
  refine g_aload_n (pc := 4) dX8_assumedMouth_4 rfl ?_
  refine v_getR hV (pc := 5) dX8_assumedMouth_5 fo_8_3 rfl k0_42 r0_42_3 ?_
  refine g_iload_n (pc := 8) dX8_assumedMouth_8 rfl ?_
  refine v_callNi (Mc := mX11_at) (v := atF (gi S 44) 4 v1) (S1 := S) (As := [.ref 44, .int v1]) (rest := [.ref 45]) (pc := 9) dX8_assumedMouth_9 nl_X8_69 mf_X11_at rfl rfl (Nat.le_of_ble_eq_true rfl) ⟨Nat.le_of_ble_eq_true rfl, Nat.le_of_ble_eq_true rfl⟩ (r_at hV k0_44 own_44 (by decide)) ?_
  refine v_callNi (Mc := mX11_at) (v := atF (gi S 45) 40 (atF (gi S 44) 4 v1)) (S1 := S) (As := [.ref 45, .int (atF (gi S 44) 4 v1)]) (rest := []) (pc := 12) dX8_assumedMouth_12 nl_X8_69 mf_X11_at rfl rfl (Nat.le_of_ble_eq_true rfl) ⟨Nat.le_of_ble_eq_true rfl, Nat.le_of_ble_eq_true rfl⟩ (r_at hV k0_45 own_45 (by decide)) ?_
  subst h
  exact g_iret (pc := 15) dX8_assumedMouth_15 rfl rfl (Nat.le_refl _) (Nat.le_refl _)
def hd_Sg_assumedDigits_L4 (V : Sm → Wd) (l : Launch) (Γ : Gm) (rF : Option Value) (wF : Wd) (S : Sm) (q : Int32 × Int32) : Prop := G mX8_assumedDigits l Γ (rmD 2 0 0) (mQ Γ rF wF 0 0) 0 0 4 [some (.ref 42), some (.int q.1), some (.int q.2)] [] (V S)
def ps_Sg_assumedDigits_L4 (V : Sm → Wd) (l : Launch) (Γ : Gm) (rF : Option Value) (wF : Wd) (S : Sm) (x : Int32) : Prop := (fun (a : Int32) => G mX8_assumedDigits l Γ (rmD 2 0 0) (mQ Γ rF wF 0 0) 0 0 29 [none, some (.int a), none] [] (V S)) x
def Sg_assumedDigits_L4 (S : Sm) (q : Int32 × Int32) : Option ((Int32 × Int32) ⊕ (Int32)) := (if (gi S 42 7) ≤ q.2 then (some (.inr q.1)) else (some (.inl ((q.1 * 10) + (Sg_assumedMouth q.2 S), q.2 + 1))))
set_option maxRecDepth 4000 in
theorem t_Sg_assumedDigits_L4 {V : Sm → Wd} (hV : VwC V) {l : Launch} {Γ : Gm} {rF : Option Value} {wF : Wd} {S : Sm} {q : Int32 × Int32} {o : (Int32 × Int32) ⊕ (Int32)} (h : Sg_assumedDigits_L4 S q = some o) (hK : Sum.elim (hd_Sg_assumedDigits_L4 V l Γ rF wF S) (ps_Sg_assumedDigits_L4 V l Γ rF wF S) o) : hd_Sg_assumedDigits_L4 V l Γ rF wF S q := by
  unfold Sg_assumedDigits_L4 at h
  unfold hd_Sg_assumedDigits_L4
  refine g_iload_n (pc := 4) dX8_assumedDigits_4 rfl ?_
  refine g_aload_n (pc := 5) dX8_assumedDigits_5 rfl ?_
  refine v_getI hV (pc := 6) dX8_assumedDigits_6 fo_8_7 rfl k0_42 own_42 ?_
  refine g_icmp_ge (tgt := 29) (pc := 9) dX8_assumedDigits_9 (by decide) (fun c1 => ?_) (fun c1 => ?_)
  · rw [if_pos c1] at h
    refine g_wk [false, true, false] rfl ?_
    cases h
    exact hK
  · rw [if_neg c1] at h
    refine g_iload_n (pc := 12) dX8_assumedDigits_12 rfl ?_
    refine g_bipush (v := 10) (pc := 13) dX8_assumedDigits_13 (by decide) ?_
    refine g_imul (pc := 15) dX8_assumedDigits_15 ?_
    refine g_aload_n (pc := 16) dX8_assumedDigits_16 rfl ?_
    refine g_iload_n (pc := 17) dX8_assumedDigits_17 rfl ?_
    refine v_callVi hV (Mc := mX8_assumedMouth) (v := Sg_assumedMouth q.2 S) (S1 := S) (As := [.int q.2]) (rest := [.int (q.1 * 10)]) (q := (RX8, TX8, 8)) (pc := 18) dX8_assumedDigits_18 mK_X8_89 mf_X8_assumedMouth rfl k0_42 rfl rfl rfl (Nat.le_of_ble_eq_true rfl) ⟨Nat.le_of_ble_eq_true rfl, Nat.le_of_ble_eq_true rfl⟩ (r_Sg_assumedMouth hV rfl) ?_
    refine g_iadd (pc := 21) dX8_assumedDigits_21 ?_
    refine g_istore_n (ls1 := [some (.ref 42), some (.int ((q.1 * 10) + (Sg_assumedMouth q.2 S))), some (.int q.2)]) (pc := 22) dX8_assumedDigits_22 (by decide) rfl ?_
    refine g_iinc (v := q.2 + 1) (ls1 := [some (.ref 42), some (.int ((q.1 * 10) + (Sg_assumedMouth q.2 S))), some (.int (q.2 + 1))]) (pc := 23) dX8_assumedDigits_23 rfl rfl (by decide) rfl ?_
    refine g_goto (tgt := 4) (pc := 26) dX8_assumedDigits_26 (by decide) ?_
    cases h
    exact hK
set_option maxRecDepth 4000 in
theorem w_Sg_assumedDigits_L4 {V : Sm → Wd} (hV : VwC V) {l : Launch} {Γ : Gm} {rF : Option Value} {wF : Wd} {S : Sm} {k : Nat} {q : Int32 × Int32} {o : Int32} (h : lpN (Sg_assumedDigits_L4 S) k q = some o) (hP : ps_Sg_assumedDigits_L4 V l Γ rF wF S o) : hd_Sg_assumedDigits_L4 V l Γ rF wF S q := lpN_ind2 (hd_Sg_assumedDigits_L4 V l Γ rF wF S) (ps_Sg_assumedDigits_L4 V l Γ rF wF S) (fun s o h hK => t_Sg_assumedDigits_L4 hV h hK) k q o h hP
def Sg_assumedDigits (S : Sm) : Option (Int32) := ((lpN (Sg_assumedDigits_L4 S) FU (0, 0)).bind fun q2 => (some q2))
set_option maxRecDepth 4000 in
theorem r_Sg_assumedDigits {V : Sm → Wd} (hV : VwC V)  {S : Sm} {q : Int32} (h : Sg_assumedDigits S = some q) : Runs 2 mX8_assumedDigits [.ref 42] (V S) (some (.int q)) (V S) 0 0 := by
  unfold Sg_assumedDigits at h
  refine Runs.of2 [some (.ref 42), none, none] 2 rfl rfl (Nat.le_of_ble_eq_true rfl) (fun l Γ => ?_)
  refine g_iconst (v := 0) (pc := 0) dX8_assumedDigits_0 (by decide) ?_
  refine g_istore_n (ls1 := [some (.ref 42), some (.int 0), none]) (pc := 1) dX8_assumedDigits_1 (by decide) rfl ?_
  refine g_iconst (v := 0) (pc := 2) dX8_assumedDigits_2 (by decide) ?_
  refine g_istore_n (ls1 := [some (.ref 42), some (.int 0), some (.int 0)]) (pc := 3) dX8_assumedDigits_3 (by decide) rfl ?_
  obtain ⟨q2, hqq2, h⟩ := bnd h
  refine w_Sg_assumedDigits_L4 hV hqq2 ?_
  unfold ps_Sg_assumedDigits_L4
  show G _ _ _ _ _ _ _ _ _ _ _
  refine g_iload_n (pc := 29) dX8_assumedDigits_29 rfl ?_
  cases h
  exact g_iret (pc := 30) dX8_assumedDigits_30 rfl rfl (Nat.le_refl _) (Nat.le_refl _)
def hd_Sg_netAt_L10 (V : Sm → Wd) (l : Launch) (Γ : Gm) (rF : Option Value) (wF : Wd) (v1 : Int32) (v2 : Int32) (q : Int32 × Int32 × Sm) : Prop := G mX8_netAt l Γ (rmD 5 0 0) (mQ Γ rF wF 0 0) 0 0 10 [some (.ref 42), some (.int v1), some (.int v2), some (.int q.1), some (.int q.2.1)] [] (V q.2.2)
def ps_Sg_netAt_L10 (V : Sm → Wd) (l : Launch) (Γ : Gm) (rF : Option Value) (wF : Wd) (v1 : Int32) (v2 : Int32) (x : (Sm) ⊕ (Sm)) : Prop := (Sum.elim (fun (a : Sm) => G mX8_netAt l Γ (rmD 5 0 0) (mQ Γ rF wF 0 0) 0 0 30 [some (.ref 42), none, none, none, none] [] (V a)) (fun (a : Sm) => G mX8_netAt l Γ (rmD 5 0 0) (mQ Γ rF wF 0 0) 0 0 44 [none, none, none, none, none] [] (V a))) x
def Sg_netAt_38_L10 (v1 : Int32) (v2 : Int32) (v3 : Int32) (v4 : Int32) (S : Sm) : Option ((Int32 × Int32 × Sm) ⊕ ((Sm) ⊕ (Sm))) := (some (.inl (v3, v4 + 1, S)))
set_option maxRecDepth 4000 in
theorem t_Sg_netAt_38_L10 {V : Sm → Wd} (hV : VwC V) {l : Launch} {Γ : Gm} {v1 : Int32} {v2 : Int32} {v3 : Int32} {v4 : Int32} {rF : Option Value} {wF : Wd} {S : Sm} {o : (Int32 × Int32 × Sm) ⊕ ((Sm) ⊕ (Sm))} (h : Sg_netAt_38_L10 v1 v2 v3 v4 S = some o) (hK : Sum.elim (hd_Sg_netAt_L10 V l Γ rF wF v1 v2) (ps_Sg_netAt_L10 V l Γ rF wF v1 v2) o) : G mX8_netAt l Γ (rmD 5 0 0) (mQ Γ rF wF 0 0) 0 0 38 [some (.ref 42), some (.int v1), some (.int v2), some (.int v3), some (.int v4)] [] (V S) := by
  unfold Sg_netAt_38_L10 at h
  refine g_iinc (v := v4 + 1) (ls1 := [some (.ref 42), some (.int v1), some (.int v2), some (.int v3), some (.int (v4 + 1))]) (pc := 38) dX8_netAt_38 rfl rfl (by decide) rfl ?_
  refine g_goto (tgt := 10) (pc := 41) dX8_netAt_41 (by decide) ?_
  cases h
  exact hK
def Sg_netAt_L10 (v1 : Int32) (v2 : Int32) (q : Int32 × Int32 × Sm) : Option ((Int32 × Int32 × Sm) ⊕ ((Sm) ⊕ (Sm))) := (if v2 ≤ q.2.1 then (some (.inr (.inr q.2.2))) else ((Sg_isNet q.2.1 q.2.2).bind fun q2 => (if q2.1 = 0 then (Sg_netAt_38_L10 v1 v2 q.1 q.2.1 q2.2) else (if q.1 = v1 then (some (.inr (.inl q2.2))) else (Sg_netAt_38_L10 v1 v2 (q.1 + 1) q.2.1 q2.2)))))
set_option maxRecDepth 4000 in
theorem t_Sg_netAt_L10 {V : Sm → Wd} (hV : VwC V) {l : Launch} {Γ : Gm} {rF : Option Value} {wF : Wd} {v1 : Int32} {v2 : Int32} {q : Int32 × Int32 × Sm} {o : (Int32 × Int32 × Sm) ⊕ ((Sm) ⊕ (Sm))} (h : Sg_netAt_L10 v1 v2 q = some o) (hK : Sum.elim (hd_Sg_netAt_L10 V l Γ rF wF v1 v2) (ps_Sg_netAt_L10 V l Γ rF wF v1 v2) o) : hd_Sg_netAt_L10 V l Γ rF wF v1 v2 q := by
  unfold Sg_netAt_L10 at h
  unfold hd_Sg_netAt_L10
  refine g_iload (pc := 10) dX8_netAt_10 rfl ?_
  refine g_iload_n (pc := 12) dX8_netAt_12 rfl ?_
  refine g_icmp_ge (tgt := 44) (pc := 13) dX8_netAt_13 (by decide) (fun c5 => ?_) (fun c5 => ?_)
  · rw [if_pos c5] at h
    refine g_wk [false, false, false, false, false] rfl ?_
    cases h
    exact hK
  · rw [if_neg c5] at h
    refine g_aload_n (pc := 16) dX8_netAt_16 rfl ?_
    refine g_iload (pc := 17) dX8_netAt_17 rfl ?_
    obtain ⟨q2, hq2, h⟩ := bnd h
    refine v_callVi hV (Mc := mX8_isNet) (v := q2.1) (S1 := q2.2) (As := [.int q.2.1]) (rest := []) (q := (RX8, TX8, 8)) (pc := 19) dX8_netAt_19 mK_X8_83 mf_X8_isNet rfl k0_42 rfl rfl rfl (Nat.le_of_ble_eq_true rfl) ⟨Nat.le_of_ble_eq_true rfl, Nat.le_of_ble_eq_true rfl⟩ (r_Sg_isNet hV hq2) ?_
    refine g_if_eq (tgt := 38) (pc := 22) dX8_netAt_22 (by decide) (fun c4 => ?_) (fun c4 => ?_)
    · rw [if_pos c4] at h
      exact t_Sg_netAt_38_L10 hV h hK
    · rw [if_neg c4] at h
      refine g_iload_n (pc := 25) dX8_netAt_25 rfl ?_
      refine g_iload_n (pc := 26) dX8_netAt_26 rfl ?_
      refine g_icmp_ne (tgt := 35) (pc := 27) dX8_netAt_27 (by decide) (fun c3 => ?_) (fun c3 => ?_)
      · rw [if_neg c3] at h
        refine g_iinc (v := q.1 + 1) (ls1 := [some (.ref 42), some (.int v1), some (.int v2), some (.int (q.1 + 1)), some (.int q.2.1)]) (pc := 35) dX8_netAt_35 rfl rfl (by decide) rfl ?_
        exact t_Sg_netAt_38_L10 hV h hK
      · rw [if_pos c3] at h
        refine g_wk [true, false, false, false, false] rfl ?_
        cases h
        exact hK
set_option maxRecDepth 4000 in
theorem w_Sg_netAt_L10 {V : Sm → Wd} (hV : VwC V) {l : Launch} {Γ : Gm} {rF : Option Value} {wF : Wd} {v1 : Int32} {v2 : Int32} {k : Nat} {q : Int32 × Int32 × Sm} {o : (Sm) ⊕ (Sm)} (h : lpN (Sg_netAt_L10 v1 v2) k q = some o) (hP : ps_Sg_netAt_L10 V l Γ rF wF v1 v2 o) : hd_Sg_netAt_L10 V l Γ rF wF v1 v2 q := lpN_ind2 (hd_Sg_netAt_L10 V l Γ rF wF v1 v2) (ps_Sg_netAt_L10 V l Γ rF wF v1 v2) (fun s o h hK => t_Sg_netAt_L10 hV h hK) k q o h hP
def Sg_netAt (v1 : Int32) (S : Sm) : Option (Int32 × Sm) := ((Sg_beginAssumptions S).bind fun q1 => ((lpN (Sg_netAt_L10 v1 q1.1) FU (0, 0, q1.2)).bind fun q6 => (Sum.elim (fun a7 => ((Sg_assumedDigits a7).bind fun q9 => (some ((q9, a7))))) (fun a8 => (some (((-1), a8)))) q6)))
set_option maxRecDepth 4000 in
theorem r_Sg_netAt {V : Sm → Wd} (hV : VwC V) {v1 : Int32} {S : Sm} {q : Int32 × Sm} (h : Sg_netAt v1 S = some q) : Runs 5 mX8_netAt [.ref 42, .int v1] (V S) (some (.int q.1)) (V q.2) 0 0 := by
  unfold Sg_netAt at h
  refine Runs.of2 [some (.ref 42), some (.int v1), none, none, none] 3 rfl rfl (Nat.le_of_ble_eq_true rfl) (fun l Γ => ?_)
  refine g_aload_n (pc := 0) dX8_netAt_0 rfl ?_
  obtain ⟨q1, hq1, h⟩ := bnd h
  refine v_callVi hV (Mc := mX8_beginAssumptions) (v := q1.1) (S1 := q1.2) (As := []) (rest := []) (q := (RX8, TX8, 8)) (pc := 1) dX8_netAt_1 mK_X8_80 mf_X8_beginAssumptions rfl k0_42 rfl rfl rfl (Nat.le_of_ble_eq_true rfl) ⟨Nat.le_of_ble_eq_true rfl, Nat.le_of_ble_eq_true rfl⟩ (r_Sg_beginAssumptions hV hq1) ?_
  refine g_istore_n (ls1 := [some (.ref 42), some (.int v1), some (.int q1.1), none, none]) (pc := 4) dX8_netAt_4 (by decide) rfl ?_
  refine g_iconst (v := 0) (pc := 5) dX8_netAt_5 (by decide) ?_
  refine g_istore_n (ls1 := [some (.ref 42), some (.int v1), some (.int q1.1), some (.int 0), none]) (pc := 6) dX8_netAt_6 (by decide) rfl ?_
  refine g_iconst (v := 0) (pc := 7) dX8_netAt_7 (by decide) ?_
  refine g_istore (ls1 := [some (.ref 42), some (.int v1), some (.int q1.1), some (.int 0), some (.int 0)]) (pc := 8) dX8_netAt_8 (by decide) rfl ?_
  obtain ⟨q6, hqq6, h⟩ := bnd h
  refine w_Sg_netAt_L10 hV hqq6 ?_
  unfold ps_Sg_netAt_L10
  cases q6 with
  | inl a7 =>
    simp only [Sum.elim_inl] at h
    show G _ _ _ _ _ _ _ _ _ _ _
    refine g_aload_n (pc := 30) dX8_netAt_30 rfl ?_
    obtain ⟨q9, hq9, h⟩ := bnd h
    refine v_callVi hV (Mc := mX8_assumedDigits) (v := q9) (S1 := a7) (As := []) (rest := []) (q := (RX8, TX8, 8)) (pc := 31) dX8_netAt_31 mK_X8_86 mf_X8_assumedDigits rfl k0_42 rfl rfl rfl (Nat.le_of_ble_eq_true rfl) ⟨Nat.le_of_ble_eq_true rfl, Nat.le_of_ble_eq_true rfl⟩ (r_Sg_assumedDigits hV hq9) ?_
    cases h
    exact g_iret (pc := 34) dX8_netAt_34 rfl rfl (Nat.le_refl _) (Nat.le_refl _)
  | inr a8 =>
    simp only [Sum.elim_inr] at h
    show G _ _ _ _ _ _ _ _ _ _ _
    refine g_iconst (v := (-1)) (pc := 44) dX8_netAt_44 (by decide) ?_
    cases h
    exact g_iret (pc := 45) dX8_netAt_45 rfl rfl (Nat.le_refl _) (Nat.le_refl _)
def hd_Sg_countNets_L9 (V : Sm → Wd) (l : Launch) (Γ : Gm) (rF : Option Value) (wF : Wd) (v1 : Int32) (q : Int32 × Int32 × Sm) : Prop := G mX8_countNets l Γ (rmD 5 0 0) (mQ Γ rF wF 0 0) 0 0 9 [some (.ref 42), some (.int v1), some (.int q.1), some (.int q.2.1)] [] (V q.2.2)
def ps_Sg_countNets_L9 (V : Sm → Wd) (l : Launch) (Γ : Gm) (rF : Option Value) (wF : Wd) (v1 : Int32) (x : Int32 × Sm) : Prop := (fun (a : Int32 × Sm) => G mX8_countNets l Γ (rmD 5 0 0) (mQ Γ rF wF 0 0) 0 0 36 [none, none, some (.int a.1), none] [] (V a.2)) x
def Sg_countNets_28_L9 (v1 : Int32) (v3 : Int32) (s0 : Int32) (s1 : Int32) (S : Sm) : Option ((Int32 × Int32 × Sm) ⊕ (Int32 × Sm)) := (some (.inl (s0 + s1, v3 + 1, S)))
set_option maxRecDepth 4000 in
theorem t_Sg_countNets_28_L9 {V : Sm → Wd} (hV : VwC V) {l : Launch} {Γ : Gm} {v1 : Int32} {v3 : Int32} {s0 : Int32} {s1 : Int32} {rF : Option Value} {wF : Wd} {S : Sm} {o : (Int32 × Int32 × Sm) ⊕ (Int32 × Sm)} (h : Sg_countNets_28_L9 v1 v3 s0 s1 S = some o) (hK : Sum.elim (hd_Sg_countNets_L9 V l Γ rF wF v1) (ps_Sg_countNets_L9 V l Γ rF wF v1) o) : G mX8_countNets l Γ (rmD 5 0 0) (mQ Γ rF wF 0 0) 0 0 28 [some (.ref 42), some (.int v1), none, some (.int v3)] [.int s1, .int s0] (V S) := by
  unfold Sg_countNets_28_L9 at h
  refine g_iadd (pc := 28) dX8_countNets_28 ?_
  refine g_istore_n (ls1 := [some (.ref 42), some (.int v1), some (.int (s0 + s1)), some (.int v3)]) (pc := 29) dX8_countNets_29 (by decide) rfl ?_
  refine g_iinc (v := v3 + 1) (ls1 := [some (.ref 42), some (.int v1), some (.int (s0 + s1)), some (.int (v3 + 1))]) (pc := 30) dX8_countNets_30 rfl rfl (by decide) rfl ?_
  refine g_goto (tgt := 9) (pc := 33) dX8_countNets_33 (by decide) ?_
  cases h
  exact hK
def Sg_countNets_L9 (v1 : Int32) (q : Int32 × Int32 × Sm) : Option ((Int32 × Int32 × Sm) ⊕ (Int32 × Sm)) := (if v1 ≤ q.2.1 then (some (.inr (q.1, q.2.2))) else ((Sg_isNet q.2.1 q.2.2).bind fun q2 => (if q2.1 = 0 then (Sg_countNets_28_L9 v1 q.2.1 q.1 0 q2.2) else (Sg_countNets_28_L9 v1 q.2.1 q.1 1 q2.2))))
set_option maxRecDepth 4000 in
theorem t_Sg_countNets_L9 {V : Sm → Wd} (hV : VwC V) {l : Launch} {Γ : Gm} {rF : Option Value} {wF : Wd} {v1 : Int32} {q : Int32 × Int32 × Sm} {o : (Int32 × Int32 × Sm) ⊕ (Int32 × Sm)} (h : Sg_countNets_L9 v1 q = some o) (hK : Sum.elim (hd_Sg_countNets_L9 V l Γ rF wF v1) (ps_Sg_countNets_L9 V l Γ rF wF v1) o) : hd_Sg_countNets_L9 V l Γ rF wF v1 q := by
  unfold Sg_countNets_L9 at h
  unfold hd_Sg_countNets_L9
  refine g_iload_n (pc := 9) dX8_countNets_9 rfl ?_
  refine g_iload_n (pc := 10) dX8_countNets_10 rfl ?_
  refine g_icmp_ge (tgt := 36) (pc := 11) dX8_countNets_11 (by decide) (fun c4 => ?_) (fun c4 => ?_)
  · rw [if_pos c4] at h
    refine g_wk [false, false, true, false] rfl ?_
    cases h
    exact hK
  · rw [if_neg c4] at h
    refine g_iload_n (pc := 14) dX8_countNets_14 rfl ?_
    refine g_aload_n (pc := 15) dX8_countNets_15 rfl ?_
    refine g_iload_n (pc := 16) dX8_countNets_16 rfl ?_
    obtain ⟨q2, hq2, h⟩ := bnd h
    refine v_callVi hV (Mc := mX8_isNet) (v := q2.1) (S1 := q2.2) (As := [.int q.2.1]) (rest := [.int q.1]) (q := (RX8, TX8, 8)) (pc := 17) dX8_countNets_17 mK_X8_83 mf_X8_isNet rfl k0_42 rfl rfl rfl (Nat.le_of_ble_eq_true rfl) ⟨Nat.le_of_ble_eq_true rfl, Nat.le_of_ble_eq_true rfl⟩ (r_Sg_isNet hV hq2) ?_
    refine g_if_eq (tgt := 27) (pc := 20) dX8_countNets_20 (by decide) (fun c3 => ?_) (fun c3 => ?_)
    · rw [if_pos c3] at h
      refine g_iconst (v := 0) (pc := 27) dX8_countNets_27 (by decide) ?_
      refine g_wk [true, true, false, true] rfl ?_
      exact t_Sg_countNets_28_L9 hV h hK
    · rw [if_neg c3] at h
      refine g_iconst (v := 1) (pc := 23) dX8_countNets_23 (by decide) ?_
      refine g_goto (tgt := 28) (pc := 24) dX8_countNets_24 (by decide) ?_
      refine g_wk [true, true, false, true] rfl ?_
      exact t_Sg_countNets_28_L9 hV h hK
set_option maxRecDepth 4000 in
theorem w_Sg_countNets_L9 {V : Sm → Wd} (hV : VwC V) {l : Launch} {Γ : Gm} {rF : Option Value} {wF : Wd} {v1 : Int32} {k : Nat} {q : Int32 × Int32 × Sm} {o : Int32 × Sm} (h : lpN (Sg_countNets_L9 v1) k q = some o) (hP : ps_Sg_countNets_L9 V l Γ rF wF v1 o) : hd_Sg_countNets_L9 V l Γ rF wF v1 q := lpN_ind2 (hd_Sg_countNets_L9 V l Γ rF wF v1) (ps_Sg_countNets_L9 V l Γ rF wF v1) (fun s o h hK => t_Sg_countNets_L9 hV h hK) k q o h hP
def Sg_countNets (S : Sm) : Option (Int32 × Sm) := ((Sg_beginAssumptions S).bind fun q1 => ((lpN (Sg_countNets_L9 q1.1) FU (0, 0, q1.2)).bind fun q5 => (some ((q5.1, q5.2)))))
set_option maxRecDepth 4000 in
theorem r_Sg_countNets {V : Sm → Wd} (hV : VwC V)  {S : Sm} {q : Int32 × Sm} (h : Sg_countNets S = some q) : Runs 5 mX8_countNets [.ref 42] (V S) (some (.int q.1)) (V q.2) 0 0 := by
  unfold Sg_countNets at h
  refine Runs.of2 [some (.ref 42), none, none, none] 3 rfl rfl (Nat.le_of_ble_eq_true rfl) (fun l Γ => ?_)
  refine g_aload_n (pc := 0) dX8_countNets_0 rfl ?_
  obtain ⟨q1, hq1, h⟩ := bnd h
  refine v_callVi hV (Mc := mX8_beginAssumptions) (v := q1.1) (S1 := q1.2) (As := []) (rest := []) (q := (RX8, TX8, 8)) (pc := 1) dX8_countNets_1 mK_X8_80 mf_X8_beginAssumptions rfl k0_42 rfl rfl rfl (Nat.le_of_ble_eq_true rfl) ⟨Nat.le_of_ble_eq_true rfl, Nat.le_of_ble_eq_true rfl⟩ (r_Sg_beginAssumptions hV hq1) ?_
  refine g_istore_n (ls1 := [some (.ref 42), some (.int q1.1), none, none]) (pc := 4) dX8_countNets_4 (by decide) rfl ?_
  refine g_iconst (v := 0) (pc := 5) dX8_countNets_5 (by decide) ?_
  refine g_istore_n (ls1 := [some (.ref 42), some (.int q1.1), some (.int 0), none]) (pc := 6) dX8_countNets_6 (by decide) rfl ?_
  refine g_iconst (v := 0) (pc := 7) dX8_countNets_7 (by decide) ?_
  refine g_istore_n (ls1 := [some (.ref 42), some (.int q1.1), some (.int 0), some (.int 0)]) (pc := 8) dX8_countNets_8 (by decide) rfl ?_
  obtain ⟨q5, hqq5, h⟩ := bnd h
  refine w_Sg_countNets_L9 hV hqq5 ?_
  unfold ps_Sg_countNets_L9
  show G _ _ _ _ _ _ _ _ _ _ _
  refine g_iload_n (pc := 36) dX8_countNets_36 rfl ?_
  cases h
  exact g_iret (pc := 37) dX8_countNets_37 rfl rfl (Nat.le_refl _) (Nat.le_refl _)
def Dk_nets_15 (S : Sm) : Option (Int32 × Sm) := (some (((-1), S)))
set_option maxRecDepth 4000 in
theorem t_Dk_nets_15 {V : Sm → Wd} (hV : VwC V) {l : Launch} {Γ : Gm}  {S : Sm} {q : Int32 × Sm} (h : Dk_nets_15 S = some q) : G mX11_nets l Γ (rmD 6 0 0) (mQ Γ (some (.int q.1)) (V q.2) 0 0) 0 0 15 [none, none] [] (V S) := by
  unfold Dk_nets_15 at h
  refine g_iconst (v := (-1)) (pc := 15) dX11_nets_15 (by decide) ?_
  cases h
  exact g_iret (pc := 16) dX11_nets_16 rfl rfl (Nat.le_refl _) (Nat.le_refl _)
def Dk_nets_40 (s0 : Int32) (S : Sm) : Option (Int32 × Sm) := (some ((s0, S)))
set_option maxRecDepth 4000 in
theorem t_Dk_nets_40 {V : Sm → Wd} (hV : VwC V) {l : Launch} {Γ : Gm} {s0 : Int32} {S : Sm} {q : Int32 × Sm} (h : Dk_nets_40 s0 S = some q) : G mX11_nets l Γ (rmD 6 0 0) (mQ Γ (some (.int q.1)) (V q.2) 0 0) 0 0 40 [none, none] [.int s0] (V S) := by
  unfold Dk_nets_40 at h
  cases h
  exact g_iret (pc := 40) dX11_nets_40 rfl rfl (Nat.le_refl _) (Nat.le_refl _)
def Dk_nets (v1 : Int32) (S : Sm) : Option (Int32 × Sm) := (if (Nt_isTold S) = 0 then (Dk_nets_15 S) else (if (-1 : Int32) ≤ v1 then (if v1 = ((-1)) then ((Sg_countNets S).bind fun q2 => (Dk_nets_40 q2.1 q2.2)) else ((Sg_netAt v1 S).bind fun q1 => (Dk_nets_40 q1.1 q1.2))) else (Dk_nets_15 S)))
set_option maxRecDepth 4000 in
theorem r_Dk_nets {V : Sm → Wd} (hV : VwC V) {v1 : Int32} {S : Sm} {q : Int32 × Sm} (h : Dk_nets v1 S = some q) : Runs 6 mX11_nets [.ref 7, .int v1] (V S) (some (.int q.1)) (V q.2) 0 0 := by
  unfold Dk_nets at h
  refine Runs.of2 [some (.ref 7), some (.int v1)] 0 rfl rfl (Nat.le_of_ble_eq_true rfl) (fun l Γ => ?_)
  refine g_aload_n (pc := 0) dX11_nets_0 rfl ?_
  refine v_getR hV (pc := 1) dX11_nets_1 fo_11_1 rfl k0_7 r0_7_1 ?_
  refine v_callVi hV (Mc := mX5_isTold) (v := Nt_isTold S) (S1 := S) (As := []) (rest := []) (q := (RX5, TX5, 3)) (pc := 4) dX11_nets_4 mK_X11_258 mf_X5_isTold rfl k0_10 rfl rfl rfl (Nat.le_of_ble_eq_true rfl) ⟨Nat.le_of_ble_eq_true rfl, Nat.le_of_ble_eq_true rfl⟩ (r_Nt_isTold hV rfl) ?_
  refine g_if_eq (tgt := 15) (pc := 7) dX11_nets_7 (by decide) (fun c5 => ?_) (fun c5 => ?_)
  · rw [if_pos c5] at h
    refine g_wk [false, false] rfl ?_
    exact t_Dk_nets_15 hV h
  · rw [if_neg c5] at h
    refine g_iload_n (pc := 10) dX11_nets_10 rfl ?_
    refine g_iconst (v := (-1)) (pc := 11) dX11_nets_11 (by decide) ?_
    refine g_icmp_ge (tgt := 17) (pc := 12) dX11_nets_12 (by decide) (fun c4 => ?_) (fun c4 => ?_)
    · rw [if_pos c4] at h
      refine g_iload_n (pc := 17) dX11_nets_17 rfl ?_
      refine g_iconst (v := (-1)) (pc := 18) dX11_nets_18 (by decide) ?_
      refine g_icmp_ne (tgt := 32) (pc := 19) dX11_nets_19 (by decide) (fun c3 => ?_) (fun c3 => ?_)
      · rw [if_neg c3] at h
        refine g_aload_n (pc := 32) dX11_nets_32 rfl ?_
        refine v_getR hV (pc := 33) dX11_nets_33 fo_11_10 rfl k0_7 r0_7_10 ?_
        refine g_iload_n (pc := 36) dX11_nets_36 rfl ?_
        obtain ⟨q1, hq1, h⟩ := bnd h
        refine v_callVi hV (Mc := mX8_netAt) (v := q1.1) (S1 := q1.2) (As := [.int v1]) (rest := []) (q := (RX8, TX8, 8)) (pc := 37) dX11_nets_37 mK_X11_278 mf_X8_netAt rfl k0_42 rfl rfl rfl (Nat.le_of_ble_eq_true rfl) ⟨Nat.le_of_ble_eq_true rfl, Nat.le_of_ble_eq_true rfl⟩ (r_Sg_netAt hV hq1) ?_
        refine g_wk [false, false] rfl ?_
        exact t_Dk_nets_40 hV h
      · rw [if_pos c3] at h
        refine g_aload_n (pc := 22) dX11_nets_22 rfl ?_
        refine v_getR hV (pc := 23) dX11_nets_23 fo_11_10 rfl k0_7 r0_7_10 ?_
        obtain ⟨q2, hq2, h⟩ := bnd h
        refine v_callVi hV (Mc := mX8_countNets) (v := q2.1) (S1 := q2.2) (As := []) (rest := []) (q := (RX8, TX8, 8)) (pc := 26) dX11_nets_26 mK_X11_275 mf_X8_countNets rfl k0_42 rfl rfl rfl (Nat.le_of_ble_eq_true rfl) ⟨Nat.le_of_ble_eq_true rfl, Nat.le_of_ble_eq_true rfl⟩ (r_Sg_countNets hV hq2) ?_
        refine g_goto (tgt := 40) (pc := 29) dX11_nets_29 (by decide) ?_
        refine g_wk [false, false] rfl ?_
        exact t_Dk_nets_40 hV h
    · rw [if_neg c4] at h
      refine g_wk [false, false] rfl ?_
      exact t_Dk_nets_15 hV h
def hd_Sg_couldLead_L10 (V : Sm → Wd) (l : Launch) (Γ : Gm) (rF : Option Value) (wF : Wd) (v1 : Int32) (v2 : Int32) (q : Int32 × Int32 × Sm) : Prop := G mX8_couldLead l Γ (rmD 5 0 0) (mQ Γ rF wF 0 0) 0 0 10 [some (.ref 42), some (.int v1), some (.int v2), some (.int q.1), some (.int q.2.1)] [] (V q.2.2)
def ps_Sg_couldLead_L10 (V : Sm → Wd) (l : Launch) (Γ : Gm) (rF : Option Value) (wF : Wd) (v1 : Int32) (v2 : Int32) (x : Int32 × Sm) : Prop := (fun (a : Int32 × Sm) => G mX8_couldLead l Γ (rmD 5 0 0) (mQ Γ rF wF 0 0) 0 0 45 [none, none, none, some (.int a.1), none] [] (V a.2)) x
def Sg_couldLead_37_L10 (v1 : Int32) (v2 : Int32) (v4 : Int32) (s0 : Int32) (s1 : Int32) (S : Sm) : Option ((Int32 × Int32 × Sm) ⊕ (Int32 × Sm)) := (some (.inl (s0 ||| s1, v4 + 1, S)))
set_option maxRecDepth 4000 in
theorem t_Sg_couldLead_37_L10 {V : Sm → Wd} (hV : VwC V) {l : Launch} {Γ : Gm} {v1 : Int32} {v2 : Int32} {v4 : Int32} {s0 : Int32} {s1 : Int32} {rF : Option Value} {wF : Wd} {S : Sm} {o : (Int32 × Int32 × Sm) ⊕ (Int32 × Sm)} (h : Sg_couldLead_37_L10 v1 v2 v4 s0 s1 S = some o) (hK : Sum.elim (hd_Sg_couldLead_L10 V l Γ rF wF v1 v2) (ps_Sg_couldLead_L10 V l Γ rF wF v1 v2) o) : G mX8_couldLead l Γ (rmD 5 0 0) (mQ Γ rF wF 0 0) 0 0 37 [some (.ref 42), some (.int v1), some (.int v2), none, some (.int v4)] [.int s1, .int s0] (V S) := by
  unfold Sg_couldLead_37_L10 at h
  refine g_ior (pc := 37) dX8_couldLead_37 ?_
  refine g_istore_n (ls1 := [some (.ref 42), some (.int v1), some (.int v2), some (.int (s0 ||| s1)), some (.int v4)]) (pc := 38) dX8_couldLead_38 (by decide) rfl ?_
  refine g_iinc (v := v4 + 1) (ls1 := [some (.ref 42), some (.int v1), some (.int v2), some (.int (s0 ||| s1)), some (.int (v4 + 1))]) (pc := 39) dX8_couldLead_39 rfl rfl (by decide) rfl ?_
  refine g_goto (tgt := 10) (pc := 42) dX8_couldLead_42 (by decide) ?_
  cases h
  exact hK
def Sg_couldLead_L10 (v1 : Int32) (v2 : Int32) (q : Int32 × Int32 × Sm) : Option ((Int32 × Int32 × Sm) ⊕ (Int32 × Sm)) := (if v2 ≤ q.2.1 then (some (.inr (q.1, q.2.2))) else ((Sg_isNet q.2.1 q.2.2).bind fun q2 => (if q2.1 = 0 then (Sg_couldLead_37_L10 v1 v2 q.2.1 q.1 0 q2.2) else (Sg_couldLead_37_L10 v1 v2 q.2.1 q.1 (iShl 1 (Sg_assumedMouth v1 q2.2)) q2.2))))
set_option maxRecDepth 4000 in
theorem t_Sg_couldLead_L10 {V : Sm → Wd} (hV : VwC V) {l : Launch} {Γ : Gm} {rF : Option Value} {wF : Wd} {v1 : Int32} {v2 : Int32} {q : Int32 × Int32 × Sm} {o : (Int32 × Int32 × Sm) ⊕ (Int32 × Sm)} (h : Sg_couldLead_L10 v1 v2 q = some o) (hK : Sum.elim (hd_Sg_couldLead_L10 V l Γ rF wF v1 v2) (ps_Sg_couldLead_L10 V l Γ rF wF v1 v2) o) : hd_Sg_couldLead_L10 V l Γ rF wF v1 v2 q := by
  unfold Sg_couldLead_L10 at h
  unfold hd_Sg_couldLead_L10
  refine g_iload (pc := 10) dX8_couldLead_10 rfl ?_
  refine g_iload_n (pc := 12) dX8_couldLead_12 rfl ?_
  refine g_icmp_ge (tgt := 45) (pc := 13) dX8_couldLead_13 (by decide) (fun c4 => ?_) (fun c4 => ?_)
  · rw [if_pos c4] at h
    refine g_wk [false, false, false, true, false] rfl ?_
    cases h
    exact hK
  · rw [if_neg c4] at h
    refine g_iload_n (pc := 16) dX8_couldLead_16 rfl ?_
    refine g_aload_n (pc := 17) dX8_couldLead_17 rfl ?_
    refine g_iload (pc := 18) dX8_couldLead_18 rfl ?_
    obtain ⟨q2, hq2, h⟩ := bnd h
    refine v_callVi hV (Mc := mX8_isNet) (v := q2.1) (S1 := q2.2) (As := [.int q.2.1]) (rest := [.int q.1]) (q := (RX8, TX8, 8)) (pc := 20) dX8_couldLead_20 mK_X8_83 mf_X8_isNet rfl k0_42 rfl rfl rfl (Nat.le_of_ble_eq_true rfl) ⟨Nat.le_of_ble_eq_true rfl, Nat.le_of_ble_eq_true rfl⟩ (r_Sg_isNet hV hq2) ?_
    refine g_if_eq (tgt := 36) (pc := 23) dX8_couldLead_23 (by decide) (fun c3 => ?_) (fun c3 => ?_)
    · rw [if_pos c3] at h
      refine g_iconst (v := 0) (pc := 36) dX8_couldLead_36 (by decide) ?_
      refine g_wk [true, true, true, false, true] rfl ?_
      exact t_Sg_couldLead_37_L10 hV h hK
    · rw [if_neg c3] at h
      refine g_iconst (v := 1) (pc := 26) dX8_couldLead_26 (by decide) ?_
      refine g_aload_n (pc := 27) dX8_couldLead_27 rfl ?_
      refine g_iload_n (pc := 28) dX8_couldLead_28 rfl ?_
      refine v_callVi hV (Mc := mX8_assumedMouth) (v := Sg_assumedMouth v1 q2.2) (S1 := q2.2) (As := [.int v1]) (rest := [.int 1, .int q.1]) (q := (RX8, TX8, 8)) (pc := 29) dX8_couldLead_29 mK_X8_89 mf_X8_assumedMouth rfl k0_42 rfl rfl rfl (Nat.le_of_ble_eq_true rfl) ⟨Nat.le_of_ble_eq_true rfl, Nat.le_of_ble_eq_true rfl⟩ (r_Sg_assumedMouth hV rfl) ?_
      refine g_ishl (pc := 32) dX8_couldLead_32 ?_
      refine g_goto (tgt := 37) (pc := 33) dX8_couldLead_33 (by decide) ?_
      refine g_wk [true, true, true, false, true] rfl ?_
      exact t_Sg_couldLead_37_L10 hV h hK
set_option maxRecDepth 4000 in
theorem w_Sg_couldLead_L10 {V : Sm → Wd} (hV : VwC V) {l : Launch} {Γ : Gm} {rF : Option Value} {wF : Wd} {v1 : Int32} {v2 : Int32} {k : Nat} {q : Int32 × Int32 × Sm} {o : Int32 × Sm} (h : lpN (Sg_couldLead_L10 v1 v2) k q = some o) (hP : ps_Sg_couldLead_L10 V l Γ rF wF v1 v2 o) : hd_Sg_couldLead_L10 V l Γ rF wF v1 v2 q := lpN_ind2 (hd_Sg_couldLead_L10 V l Γ rF wF v1 v2) (ps_Sg_couldLead_L10 V l Γ rF wF v1 v2) (fun s o h hK => t_Sg_couldLead_L10 hV h hK) k q o h hP
def Sg_couldLead (v1 : Int32) (S : Sm) : Option (Int32 × Sm) := ((Sg_beginAssumptions S).bind fun q1 => ((lpN (Sg_couldLead_L10 v1 q1.1) FU (0, 0, q1.2)).bind fun q5 => (some ((q5.1, q5.2)))))
set_option maxRecDepth 4000 in
theorem r_Sg_couldLead {V : Sm → Wd} (hV : VwC V) {v1 : Int32} {S : Sm} {q : Int32 × Sm} (h : Sg_couldLead v1 S = some q) : Runs 5 mX8_couldLead [.ref 42, .int v1] (V S) (some (.int q.1)) (V q.2) 0 0 := by
  unfold Sg_couldLead at h
  refine Runs.of2 [some (.ref 42), some (.int v1), none, none, none] 3 rfl rfl (Nat.le_of_ble_eq_true rfl) (fun l Γ => ?_)
  refine g_aload_n (pc := 0) dX8_couldLead_0 rfl ?_
  obtain ⟨q1, hq1, h⟩ := bnd h
  refine v_callVi hV (Mc := mX8_beginAssumptions) (v := q1.1) (S1 := q1.2) (As := []) (rest := []) (q := (RX8, TX8, 8)) (pc := 1) dX8_couldLead_1 mK_X8_80 mf_X8_beginAssumptions rfl k0_42 rfl rfl rfl (Nat.le_of_ble_eq_true rfl) ⟨Nat.le_of_ble_eq_true rfl, Nat.le_of_ble_eq_true rfl⟩ (r_Sg_beginAssumptions hV hq1) ?_
  refine g_istore_n (ls1 := [some (.ref 42), some (.int v1), some (.int q1.1), none, none]) (pc := 4) dX8_couldLead_4 (by decide) rfl ?_
  refine g_iconst (v := 0) (pc := 5) dX8_couldLead_5 (by decide) ?_
  refine g_istore_n (ls1 := [some (.ref 42), some (.int v1), some (.int q1.1), some (.int 0), none]) (pc := 6) dX8_couldLead_6 (by decide) rfl ?_
  refine g_iconst (v := 0) (pc := 7) dX8_couldLead_7 (by decide) ?_
  refine g_istore (ls1 := [some (.ref 42), some (.int v1), some (.int q1.1), some (.int 0), some (.int 0)]) (pc := 8) dX8_couldLead_8 (by decide) rfl ?_
  obtain ⟨q5, hqq5, h⟩ := bnd h
  refine w_Sg_couldLead_L10 hV hqq5 ?_
  unfold ps_Sg_couldLead_L10
  show G _ _ _ _ _ _ _ _ _ _ _
  refine g_iload_n (pc := 45) dX8_couldLead_45 rfl ?_
  cases h
  exact g_iret (pc := 46) dX8_couldLead_46 rfl rfl (Nat.le_refl _) (Nat.le_refl _)
def Dk_could_27 (s0 : Int32) (S : Sm) : Option (Int32 × Sm) := (some ((s0, S)))
set_option maxRecDepth 4000 in
theorem t_Dk_could_27 {V : Sm → Wd} (hV : VwC V) {l : Launch} {Γ : Gm} {s0 : Int32} {S : Sm} {q : Int32 × Sm} (h : Dk_could_27 s0 S = some q) : G mX11_could l Γ (rmD 6 0 0) (mQ Γ (some (.int q.1)) (V q.2) 0 0) 0 0 27 [none, none] [.int s0] (V S) := by
  unfold Dk_could_27 at h
  cases h
  exact g_iret (pc := 27) dX11_could_27 rfl rfl (Nat.le_refl _) (Nat.le_refl _)
def Dk_could_26 (S : Sm) : Option (Int32 × Sm) := (Dk_could_27 ((-1)) S)
set_option maxRecDepth 4000 in
theorem t_Dk_could_26 {V : Sm → Wd} (hV : VwC V) {l : Launch} {Γ : Gm}  {S : Sm} {q : Int32 × Sm} (h : Dk_could_26 S = some q) : G mX11_could l Γ (rmD 6 0 0) (mQ Γ (some (.int q.1)) (V q.2) 0 0) 0 0 26 [none, none] [] (V S) := by
  unfold Dk_could_26 at h
  refine g_iconst (v := (-1)) (pc := 26) dX11_could_26 (by decide) ?_
  exact t_Dk_could_27 hV h
def Dk_could (v1 : Int32) (S : Sm) : Option (Int32 × Sm) := (if v1 < 0 then (Dk_could_26 S) else ((Sg_unknownNow S).bind fun q1 => (if q1.1 ≤ v1 then (Dk_could_26 q1.2) else ((Sg_couldLead v1 q1.2).bind fun q2 => (Dk_could_27 q2.1 q2.2)))))
set_option maxRecDepth 4000 in
theorem r_Dk_could {V : Sm → Wd} (hV : VwC V) {v1 : Int32} {S : Sm} {q : Int32 × Sm} (h : Dk_could v1 S = some q) : Runs 6 mX11_could [.ref 7, .int v1] (V S) (some (.int q.1)) (V q.2) 0 0 := by
  unfold Dk_could at h
  refine Runs.of2 [some (.ref 7), some (.int v1)] 0 rfl rfl (Nat.le_of_ble_eq_true rfl) (fun l Γ => ?_)
  refine g_iload_n (pc := 0) dX11_could_0 rfl ?_
  refine g_if_lt (tgt := 26) (pc := 1) dX11_could_1 (by decide) (fun c4 => ?_) (fun c4 => ?_)
  · rw [if_pos c4] at h
    refine g_wk [false, false] rfl ?_
    exact t_Dk_could_26 hV h
  · rw [if_neg c4] at h
    refine g_iload_n (pc := 4) dX11_could_4 rfl ?_
    refine g_aload_n (pc := 5) dX11_could_5 rfl ?_
    refine v_getR hV (pc := 6) dX11_could_6 fo_11_10 rfl k0_7 r0_7_10 ?_
    obtain ⟨q1, hq1, h⟩ := bnd h
    refine v_callVi hV (Mc := mX8_unknownNow) (v := q1.1) (S1 := q1.2) (As := []) (rest := [.int v1]) (q := (RX8, TX8, 8)) (pc := 9) dX11_could_9 mK_X11_281 mf_X8_unknownNow rfl k0_42 rfl rfl rfl (Nat.le_of_ble_eq_true rfl) ⟨Nat.le_of_ble_eq_true rfl, Nat.le_of_ble_eq_true rfl⟩ (r_Sg_unknownNow hV hq1) ?_
    refine g_icmp_ge (tgt := 26) (pc := 12) dX11_could_12 (by decide) (fun c3 => ?_) (fun c3 => ?_)
    · rw [if_pos c3] at h
      refine g_wk [false, false] rfl ?_
      exact t_Dk_could_26 hV h
    · rw [if_neg c3] at h
      refine g_aload_n (pc := 15) dX11_could_15 rfl ?_
      refine v_getR hV (pc := 16) dX11_could_16 fo_11_10 rfl k0_7 r0_7_10 ?_
      refine g_iload_n (pc := 19) dX11_could_19 rfl ?_
      obtain ⟨q2, hq2, h⟩ := bnd h
      refine v_callVi hV (Mc := mX8_couldLead) (v := q2.1) (S1 := q2.2) (As := [.int v1]) (rest := []) (q := (RX8, TX8, 8)) (pc := 20) dX11_could_20 mK_X11_284 mf_X8_couldLead rfl k0_42 rfl rfl rfl (Nat.le_of_ble_eq_true rfl) ⟨Nat.le_of_ble_eq_true rfl, Nat.le_of_ble_eq_true rfl⟩ (r_Sg_couldLead hV hq2) ?_
      refine g_goto (tgt := 27) (pc := 23) dX11_could_23 (by decide) ?_
      refine g_wk [false, false] rfl ?_
      exact t_Dk_could_27 hV h
def hd_Sg_countAssumed_L2 (V : Sm → Wd) (l : Launch) (Γ : Gm) (rF : Option Value) (wF : Wd)  (q : Int32 × Sm) : Prop := G mX8_countAssumed l Γ (rmD 2 0 0) (mQ Γ rF wF 0 0) 0 0 2 [some (.ref 42), some (.int q.1), none] [] (V q.2)
def ps_Sg_countAssumed_L2 (V : Sm → Wd) (l : Launch) (Γ : Gm) (rF : Option Value) (wF : Wd)  (x : Sm) : Prop := (fun (a : Sm) => G mX8_countAssumed l Γ (rmD 2 0 0) (mQ Γ rF wF 0 0) 0 0 45 [none, none, none] [] (V a)) x
def Sg_countAssumed_L2 (q : Int32 × Sm) : Option ((Int32 × Sm) ⊕ (Sm)) := (if (gi q.2 42 7) ≤ q.1 then (some (.inr q.2)) else (app (puF q.2 46 32 ((q.1 * 8) + (Sg_assumedMouth q.1 q.2)) ((atF (gi q.2 46) 32 ((q.1 * 8) + (Sg_assumedMouth q.1 q.2))) + 1)) fun S1 => (some (.inl (q.1 + 1, S1)))))
set_option maxRecDepth 4000 in
theorem t_Sg_countAssumed_L2 {V : Sm → Wd} (hV : VwC V) {l : Launch} {Γ : Gm} {rF : Option Value} {wF : Wd}  {q : Int32 × Sm} {o : (Int32 × Sm) ⊕ (Sm)} (h : Sg_countAssumed_L2 q = some o) (hK : Sum.elim (hd_Sg_countAssumed_L2 V l Γ rF wF) (ps_Sg_countAssumed_L2 V l Γ rF wF) o) : hd_Sg_countAssumed_L2 V l Γ rF wF q := by
  unfold Sg_countAssumed_L2 at h
  unfold hd_Sg_countAssumed_L2
  refine g_iload_n (pc := 2) dX8_countAssumed_2 rfl ?_
  refine g_aload_n (pc := 3) dX8_countAssumed_3 rfl ?_
  refine v_getI hV (pc := 4) dX8_countAssumed_4 fo_8_7 rfl k0_42 own_42 ?_
  refine g_icmp_ge (tgt := 45) (pc := 7) dX8_countAssumed_7 (by decide) (fun c2 => ?_) (fun c2 => ?_)
  · rw [if_pos c2] at h
    refine g_wk [false, false, false] rfl ?_
    cases h
    exact hK
  · rw [if_neg c2] at h
    refine g_iload_n (pc := 10) dX8_countAssumed_10 rfl ?_
    refine g_bipush (v := 8) (pc := 11) dX8_countAssumed_11 (by decide) ?_
    refine g_imul (pc := 13) dX8_countAssumed_13 ?_
    refine g_aload_n (pc := 14) dX8_countAssumed_14 rfl ?_
    refine g_iload_n (pc := 15) dX8_countAssumed_15 rfl ?_
    refine v_callVi hV (Mc := mX8_assumedMouth) (v := Sg_assumedMouth q.1 q.2) (S1 := q.2) (As := [.int q.1]) (rest := [.int (q.1 * 8)]) (q := (RX8, TX8, 8)) (pc := 16) dX8_countAssumed_16 mK_X8_89 mf_X8_assumedMouth rfl k0_42 rfl rfl rfl (Nat.le_of_ble_eq_true rfl) ⟨Nat.le_of_ble_eq_true rfl, Nat.le_of_ble_eq_true rfl⟩ (r_Sg_assumedMouth hV rfl) ?_
    refine g_iadd (pc := 19) dX8_countAssumed_19 ?_
    refine g_istore_n (ls1 := [some (.ref 42), some (.int q.1), some (.int ((q.1 * 8) + (Sg_assumedMouth q.1 q.2)))]) (pc := 20) dX8_countAssumed_20 (by decide) rfl ?_
    refine g_aload_n (pc := 21) dX8_countAssumed_21 rfl ?_
    refine v_getR hV (pc := 22) dX8_countAssumed_22 fo_8_5 rfl k0_42 r0_42_5 ?_
    refine g_iload_n (pc := 25) dX8_countAssumed_25 rfl ?_
    refine g_aload_n (pc := 26) dX8_countAssumed_26 rfl ?_
    refine v_getR hV (pc := 27) dX8_countAssumed_27 fo_8_5 rfl k0_42 r0_42_5 ?_
    refine g_iload_n (pc := 30) dX8_countAssumed_30 rfl ?_
    refine v_callNi (Mc := mX11_at) (v := atF (gi q.2 46) 32 ((q.1 * 8) + (Sg_assumedMouth q.1 q.2))) (S1 := q.2) (As := [.ref 46, .int ((q.1 * 8) + (Sg_assumedMouth q.1 q.2))]) (rest := [.int ((q.1 * 8) + (Sg_assumedMouth q.1 q.2)), .ref 46]) (pc := 31) dX8_countAssumed_31 nl_X8_69 mf_X11_at rfl rfl (Nat.le_of_ble_eq_true rfl) ⟨Nat.le_of_ble_eq_true rfl, Nat.le_of_ble_eq_true rfl⟩ (r_at hV k0_46 own_46 (by decide)) ?_
    refine g_iconst (v := 1) (pc := 34) dX8_countAssumed_34 (by decide) ?_
    refine g_iadd (pc := 35) dX8_countAssumed_35 ?_
    obtain ⟨S1, hS1, h⟩ := app_of h
    refine v_callNv (Mc := mX11_put) (S1 := S1) (As := [.ref 46, .int ((q.1 * 8) + (Sg_assumedMouth q.1 q.2)), .int ((atF (gi q.2 46) 32 ((q.1 * 8) + (Sg_assumedMouth q.1 q.2))) + 1)]) (rest := []) (pc := 36) dX8_countAssumed_36 nl_X8_39 mf_X11_put rfl rfl (Nat.le_of_ble_eq_true rfl) ⟨Nat.le_of_ble_eq_true rfl, Nat.le_of_ble_eq_true rfl⟩ (r_put hV k0_46 own_46 (by decide) hS1) ?_
    refine g_iinc (v := q.1 + 1) (ls1 := [some (.ref 42), some (.int (q.1 + 1)), some (.int ((q.1 * 8) + (Sg_assumedMouth q.1 q.2)))]) (pc := 39) dX8_countAssumed_39 rfl rfl (by decide) rfl ?_
    refine g_goto (tgt := 2) (pc := 42) dX8_countAssumed_42 (by decide) ?_
    refine g_wk [true, true, false] rfl ?_
    cases h
    exact hK
set_option maxRecDepth 4000 in
theorem w_Sg_countAssumed_L2 {V : Sm → Wd} (hV : VwC V) {l : Launch} {Γ : Gm} {rF : Option Value} {wF : Wd}  {k : Nat} {q : Int32 × Sm} {o : Sm} (h : lpN (Sg_countAssumed_L2) k q = some o) (hP : ps_Sg_countAssumed_L2 V l Γ rF wF o) : hd_Sg_countAssumed_L2 V l Γ rF wF q := lpN_ind2 (hd_Sg_countAssumed_L2 V l Γ rF wF) (ps_Sg_countAssumed_L2 V l Γ rF wF) (fun s o h hK => t_Sg_countAssumed_L2 hV h hK) k q o h hP
def Sg_countAssumed (S : Sm) : Option (Sm) := ((lpN (Sg_countAssumed_L2) FU (0, S)).bind fun q3 => (some q3))
set_option maxRecDepth 4000 in
theorem r_Sg_countAssumed {V : Sm → Wd} (hV : VwC V)  {S : Sm} {q : Sm} (h : Sg_countAssumed S = some q) : Runs 2 mX8_countAssumed [.ref 42] (V S) none (V q) 0 0 := by
  unfold Sg_countAssumed at h
  refine Runs.of2 [some (.ref 42), none, none] 2 rfl rfl (Nat.le_of_ble_eq_true rfl) (fun l Γ => ?_)
  refine g_iconst (v := 0) (pc := 0) dX8_countAssumed_0 (by decide) ?_
  refine g_istore_n (ls1 := [some (.ref 42), some (.int 0), none]) (pc := 1) dX8_countAssumed_1 (by decide) rfl ?_
  obtain ⟨q3, hqq3, h⟩ := bnd h
  refine w_Sg_countAssumed_L2 hV hqq3 ?_
  unfold ps_Sg_countAssumed_L2
  show G _ _ _ _ _ _ _ _ _ _ _
  cases h
  exact g_vret (pc := 45) dX8_countAssumed_45 rfl (Nat.le_refl _) (Nat.le_refl _)
def hd_Sg_countOften_L2 (V : Sm → Wd) (l : Launch) (Γ : Gm) (rF : Option Value) (wF : Wd)  (q : Int32 × Sm) : Prop := G mX8_countOften l Γ (rmD 5 0 0) (mQ Γ rF wF 0 0) 0 0 2 [some (.ref 42), some (.int q.1), none] [] (V q.2)
def ps_Sg_countOften_L2 (V : Sm → Wd) (l : Launch) (Γ : Gm) (rF : Option Value) (wF : Wd)  (x : Sm) : Prop := (fun (a : Sm) => G mX8_countOften l Γ (rmD 5 0 0) (mQ Γ rF wF 0 0) 0 0 26 [some (.ref 42), none, none] [] (V a)) x
def Sg_countOften_L2 (q : Int32 × Sm) : Option ((Int32 × Sm) ⊕ (Sm)) := (if (32 : Int32) ≤ q.1 then (some (.inr q.2)) else (app (puF q.2 46 32 q.1 0) fun S1 => (some (.inl (q.1 + 1, S1)))))
set_option maxRecDepth 4000 in
theorem t_Sg_countOften_L2 {V : Sm → Wd} (hV : VwC V) {l : Launch} {Γ : Gm} {rF : Option Value} {wF : Wd}  {q : Int32 × Sm} {o : (Int32 × Sm) ⊕ (Sm)} (h : Sg_countOften_L2 q = some o) (hK : Sum.elim (hd_Sg_countOften_L2 V l Γ rF wF) (ps_Sg_countOften_L2 V l Γ rF wF) o) : hd_Sg_countOften_L2 V l Γ rF wF q := by
  unfold Sg_countOften_L2 at h
  unfold hd_Sg_countOften_L2
  refine g_iload_n (pc := 2) dX8_countOften_2 rfl ?_
  refine g_aload_n (pc := 3) dX8_countOften_3 rfl ?_
  refine v_getR hV (pc := 4) dX8_countOften_4 fo_8_5 rfl k0_42 r0_42_5 ?_
  refine v_alen hV (v := 32) (pc := 7) dX8_countOften_7 k0_46 0 (fun _ => rfl) (by decide) ?_
  refine g_icmp_ge (tgt := 26) (pc := 8) dX8_countOften_8 (by decide) (fun c2 => ?_) (fun c2 => ?_)
  · rw [if_pos c2] at h
    refine g_wk [true, false, false] rfl ?_
    cases h
    exact hK
  · rw [if_neg c2] at h
    refine g_aload_n (pc := 11) dX8_countOften_11 rfl ?_
    refine v_getR hV (pc := 12) dX8_countOften_12 fo_8_5 rfl k0_42 r0_42_5 ?_
    refine g_iload_n (pc := 15) dX8_countOften_15 rfl ?_
    refine g_iconst (v := 0) (pc := 16) dX8_countOften_16 (by decide) ?_
    obtain ⟨S1, hS1, h⟩ := app_of h
    refine v_callNv (Mc := mX11_put) (S1 := S1) (As := [.ref 46, .int q.1, .int 0]) (rest := []) (pc := 17) dX8_countOften_17 nl_X8_39 mf_X11_put rfl rfl (Nat.le_of_ble_eq_true rfl) ⟨Nat.le_of_ble_eq_true rfl, Nat.le_of_ble_eq_true rfl⟩ (r_put hV k0_46 own_46 (by decide) hS1) ?_
    refine g_iinc (v := q.1 + 1) (ls1 := [some (.ref 42), some (.int (q.1 + 1)), none]) (pc := 20) dX8_countOften_20 rfl rfl (by decide) rfl ?_
    refine g_goto (tgt := 2) (pc := 23) dX8_countOften_23 (by decide) ?_
    cases h
    exact hK
set_option maxRecDepth 4000 in
theorem w_Sg_countOften_L2 {V : Sm → Wd} (hV : VwC V) {l : Launch} {Γ : Gm} {rF : Option Value} {wF : Wd}  {k : Nat} {q : Int32 × Sm} {o : Sm} (h : lpN (Sg_countOften_L2) k q = some o) (hP : ps_Sg_countOften_L2 V l Γ rF wF o) : hd_Sg_countOften_L2 V l Γ rF wF q := lpN_ind2 (hd_Sg_countOften_L2 V l Γ rF wF) (ps_Sg_countOften_L2 V l Γ rF wF) (fun s o h hK => t_Sg_countOften_L2 hV h hK) k q o h hP
def hd_Sg_countOften_L33 (V : Sm → Wd) (l : Launch) (Γ : Gm) (rF : Option Value) (wF : Wd) (v1 : Int32) (q : Int32 × Sm) : Prop := G mX8_countOften l Γ (rmD 5 0 0) (mQ Γ rF wF 0 0) 0 0 33 [some (.ref 42), some (.int v1), some (.int q.1)] [] (V q.2)
def ps_Sg_countOften_L33 (V : Sm → Wd) (l : Launch) (Γ : Gm) (rF : Option Value) (wF : Wd) (v1 : Int32) (x : Sm) : Prop := (fun (a : Sm) => G mX8_countOften l Γ (rmD 5 0 0) (mQ Γ rF wF 0 0) 0 0 56 [none, none, none] [] (V a)) x
def Sg_countOften_50_L33 (v1 : Int32) (v2 : Int32) (S : Sm) : Option ((Int32 × Sm) ⊕ (Sm)) := (some (.inl (v2 + 1, S)))
set_option maxRecDepth 4000 in
theorem t_Sg_countOften_50_L33 {V : Sm → Wd} (hV : VwC V) {l : Launch} {Γ : Gm} {v1 : Int32} {v2 : Int32} {rF : Option Value} {wF : Wd} {S : Sm} {o : (Int32 × Sm) ⊕ (Sm)} (h : Sg_countOften_50_L33 v1 v2 S = some o) (hK : Sum.elim (hd_Sg_countOften_L33 V l Γ rF wF v1) (ps_Sg_countOften_L33 V l Γ rF wF v1) o) : G mX8_countOften l Γ (rmD 5 0 0) (mQ Γ rF wF 0 0) 0 0 50 [some (.ref 42), some (.int v1), some (.int v2)] [] (V S) := by
  unfold Sg_countOften_50_L33 at h
  refine g_iinc (v := v2 + 1) (ls1 := [some (.ref 42), some (.int v1), some (.int (v2 + 1))]) (pc := 50) dX8_countOften_50 rfl rfl (by decide) rfl ?_
  refine g_goto (tgt := 33) (pc := 53) dX8_countOften_53 (by decide) ?_
  cases h
  exact hK
def Sg_countOften_L33 (v1 : Int32) (q : Int32 × Sm) : Option ((Int32 × Sm) ⊕ (Sm)) := (if v1 ≤ q.1 then (some (.inr q.2)) else ((Sg_isNet q.1 q.2).bind fun q5 => (if q5.1 = 0 then (Sg_countOften_50_L33 v1 q.1 q5.2) else ((Sg_countAssumed q5.2).bind fun q6 => (Sg_countOften_50_L33 v1 q.1 q6)))))
set_option maxRecDepth 4000 in
theorem t_Sg_countOften_L33 {V : Sm → Wd} (hV : VwC V) {l : Launch} {Γ : Gm} {rF : Option Value} {wF : Wd} {v1 : Int32} {q : Int32 × Sm} {o : (Int32 × Sm) ⊕ (Sm)} (h : Sg_countOften_L33 v1 q = some o) (hK : Sum.elim (hd_Sg_countOften_L33 V l Γ rF wF v1) (ps_Sg_countOften_L33 V l Γ rF wF v1) o) : hd_Sg_countOften_L33 V l Γ rF wF v1 q := by
  unfold Sg_countOften_L33 at h
  unfold hd_Sg_countOften_L33
  refine g_iload_n (pc := 33) dX8_countOften_33 rfl ?_
  refine g_iload_n (pc := 34) dX8_countOften_34 rfl ?_
  refine g_icmp_ge (tgt := 56) (pc := 35) dX8_countOften_35 (by decide) (fun c8 => ?_) (fun c8 => ?_)
  · rw [if_pos c8] at h
    refine g_wk [false, false, false] rfl ?_
    cases h
    exact hK
  · rw [if_neg c8] at h
    refine g_aload_n (pc := 38) dX8_countOften_38 rfl ?_
    refine g_iload_n (pc := 39) dX8_countOften_39 rfl ?_
    obtain ⟨q5, hq5, h⟩ := bnd h
    refine v_callVi hV (Mc := mX8_isNet) (v := q5.1) (S1 := q5.2) (As := [.int q.1]) (rest := []) (q := (RX8, TX8, 8)) (pc := 40) dX8_countOften_40 mK_X8_83 mf_X8_isNet rfl k0_42 rfl rfl rfl (Nat.le_of_ble_eq_true rfl) ⟨Nat.le_of_ble_eq_true rfl, Nat.le_of_ble_eq_true rfl⟩ (r_Sg_isNet hV hq5) ?_
    refine g_if_eq (tgt := 50) (pc := 43) dX8_countOften_43 (by decide) (fun c7 => ?_) (fun c7 => ?_)
    · rw [if_pos c7] at h
      exact t_Sg_countOften_50_L33 hV h hK
    · rw [if_neg c7] at h
      refine g_aload_n (pc := 46) dX8_countOften_46 rfl ?_
      obtain ⟨q6, hq6, h⟩ := bnd h
      refine v_callVv hV (Mc := mX8_countAssumed) (S1 := q6) (As := []) (rest := []) (q := (RX8, TX8, 8)) (pc := 47) dX8_countOften_47 mK_X8_98 mf_X8_countAssumed rfl k0_42 rfl rfl rfl (Nat.le_of_ble_eq_true rfl) ⟨Nat.le_of_ble_eq_true rfl, Nat.le_of_ble_eq_true rfl⟩ (r_Sg_countAssumed hV hq6) ?_
      exact t_Sg_countOften_50_L33 hV h hK
set_option maxRecDepth 4000 in
theorem w_Sg_countOften_L33 {V : Sm → Wd} (hV : VwC V) {l : Launch} {Γ : Gm} {rF : Option Value} {wF : Wd} {v1 : Int32} {k : Nat} {q : Int32 × Sm} {o : Sm} (h : lpN (Sg_countOften_L33 v1) k q = some o) (hP : ps_Sg_countOften_L33 V l Γ rF wF v1 o) : hd_Sg_countOften_L33 V l Γ rF wF v1 q := lpN_ind2 (hd_Sg_countOften_L33 V l Γ rF wF v1) (ps_Sg_countOften_L33 V l Γ rF wF v1) (fun s o h hK => t_Sg_countOften_L33 hV h hK) k q o h hP
def Sg_countOften (S : Sm) : Option (Sm) := ((lpN (Sg_countOften_L2) FU (0, S)).bind fun q3 => ((Sg_beginAssumptions q3).bind fun q4 => ((lpN (Sg_countOften_L33 q4.1) FU (0, q4.2)).bind fun q9 => (some q9))))
set_option maxRecDepth 4000 in
theorem r_Sg_countOften {V : Sm → Wd} (hV : VwC V)  {S : Sm} {q : Sm} (h : Sg_countOften S = some q) : Runs 5 mX8_countOften [.ref 42] (V S) none (V q) 0 0 := by
  unfold Sg_countOften at h
  refine Runs.of2 [some (.ref 42), none, none] 2 rfl rfl (Nat.le_of_ble_eq_true rfl) (fun l Γ => ?_)
  refine g_iconst (v := 0) (pc := 0) dX8_countOften_0 (by decide) ?_
  refine g_istore_n (ls1 := [some (.ref 42), some (.int 0), none]) (pc := 1) dX8_countOften_1 (by decide) rfl ?_
  obtain ⟨q3, hqq3, h⟩ := bnd h
  refine w_Sg_countOften_L2 hV hqq3 ?_
  unfold ps_Sg_countOften_L2
  show G _ _ _ _ _ _ _ _ _ _ _
  refine g_aload_n (pc := 26) dX8_countOften_26 rfl ?_
  obtain ⟨q4, hq4, h⟩ := bnd h
  refine v_callVi hV (Mc := mX8_beginAssumptions) (v := q4.1) (S1 := q4.2) (As := []) (rest := []) (q := (RX8, TX8, 8)) (pc := 27) dX8_countOften_27 mK_X8_80 mf_X8_beginAssumptions rfl k0_42 rfl rfl rfl (Nat.le_of_ble_eq_true rfl) ⟨Nat.le_of_ble_eq_true rfl, Nat.le_of_ble_eq_true rfl⟩ (r_Sg_beginAssumptions hV hq4) ?_
  refine g_istore_n (ls1 := [some (.ref 42), some (.int q4.1), none]) (pc := 30) dX8_countOften_30 (by decide) rfl ?_
  refine g_iconst (v := 0) (pc := 31) dX8_countOften_31 (by decide) ?_
  refine g_istore_n (ls1 := [some (.ref 42), some (.int q4.1), some (.int 0)]) (pc := 32) dX8_countOften_32 (by decide) rfl ?_
  obtain ⟨q9, hqq9, h⟩ := bnd h
  refine w_Sg_countOften_L33 hV hqq9 ?_
  unfold ps_Sg_countOften_L33
  show G _ _ _ _ _ _ _ _ _ _ _
  cases h
  exact g_vret (pc := 56) dX8_countOften_56 rfl (Nat.le_refl _) (Nat.le_refl _)
def hd_Sg_mostOften_L4 (V : Sm → Wd) (l : Launch) (Γ : Gm) (rF : Option Value) (wF : Wd) (v1 : Int32) (S : Sm) (q : Int32 × Int32) : Prop := G mX8_mostOften l Γ (rmD 1 0 0) (mQ Γ rF wF 0 0) 0 0 4 [some (.ref 42), some (.int v1), some (.int q.1), some (.int q.2)] [] (V S)
def ps_Sg_mostOften_L4 (V : Sm → Wd) (l : Launch) (Γ : Gm) (rF : Option Value) (wF : Wd) (v1 : Int32) (S : Sm) (x : Int32) : Prop := (fun (a : Int32) => G mX8_mostOften l Γ (rmD 1 0 0) (mQ Γ rF wF 0 0) 0 0 34 [none, none, some (.int a), none] [] (V S)) x
def Sg_mostOften_L4 (v1 : Int32) (S : Sm) (q : Int32 × Int32) : Option ((Int32 × Int32) ⊕ (Int32)) := (if (8 : Int32) ≤ q.2 then (some (.inr q.1)) else (some (.inl (iMax q.1 (atF (gi S 46) 32 ((v1 * 8) + q.2)), q.2 + 1))))
set_option maxRecDepth 4000 in
theorem t_Sg_mostOften_L4 {V : Sm → Wd} (hV : VwC V) {l : Launch} {Γ : Gm} {rF : Option Value} {wF : Wd} {v1 : Int32} {S : Sm} {q : Int32 × Int32} {o : (Int32 × Int32) ⊕ (Int32)} (h : Sg_mostOften_L4 v1 S q = some o) (hK : Sum.elim (hd_Sg_mostOften_L4 V l Γ rF wF v1 S) (ps_Sg_mostOften_L4 V l Γ rF wF v1 S) o) : hd_Sg_mostOften_L4 V l Γ rF wF v1 S q := by
  unfold Sg_mostOften_L4 at h
  unfold hd_Sg_mostOften_L4
  refine g_iload_n (pc := 4) dX8_mostOften_4 rfl ?_
  refine g_bipush (v := 8) (pc := 5) dX8_mostOften_5 (by decide) ?_
  refine g_icmp_ge (tgt := 34) (pc := 7) dX8_mostOften_7 (by decide) (fun c1 => ?_) (fun c1 => ?_)
  · rw [if_pos c1] at h
    refine g_wk [false, false, true, false] rfl ?_
    cases h
    exact hK
  · rw [if_neg c1] at h
    refine g_iload_n (pc := 10) dX8_mostOften_10 rfl ?_
    refine g_aload_n (pc := 11) dX8_mostOften_11 rfl ?_
    refine v_getR hV (pc := 12) dX8_mostOften_12 fo_8_5 rfl k0_42 r0_42_5 ?_
    refine g_iload_n (pc := 15) dX8_mostOften_15 rfl ?_
    refine g_bipush (v := 8) (pc := 16) dX8_mostOften_16 (by decide) ?_
    refine g_imul (pc := 18) dX8_mostOften_18 ?_
    refine g_iload_n (pc := 19) dX8_mostOften_19 rfl ?_
    refine g_iadd (pc := 20) dX8_mostOften_20 ?_
    refine v_callNi (Mc := mX11_at) (v := atF (gi S 46) 32 ((v1 * 8) + q.2)) (S1 := S) (As := [.ref 46, .int ((v1 * 8) + q.2)]) (rest := [.int q.1]) (pc := 21) dX8_mostOften_21 nl_X8_69 mf_X11_at rfl rfl (Nat.le_of_ble_eq_true rfl) ⟨Nat.le_of_ble_eq_true rfl, Nat.le_of_ble_eq_true rfl⟩ (r_at hV k0_46 own_46 (by decide)) ?_
    refine g_iMax (pc := 24) dX8_mostOften_24 mK_X8_63 ⟨Nat.le_of_ble_eq_true rfl, Nat.le_of_ble_eq_true rfl⟩ (Nat.zero_le _) (Nat.zero_le _) ?_
    refine g_istore_n (ls1 := [some (.ref 42), some (.int v1), some (.int (iMax q.1 (atF (gi S 46) 32 ((v1 * 8) + q.2)))), some (.int q.2)]) (pc := 27) dX8_mostOften_27 (by decide) rfl ?_
    refine g_iinc (v := q.2 + 1) (ls1 := [some (.ref 42), some (.int v1), some (.int (iMax q.1 (atF (gi S 46) 32 ((v1 * 8) + q.2)))), some (.int (q.2 + 1))]) (pc := 28) dX8_mostOften_28 rfl rfl (by decide) rfl ?_
    refine g_goto (tgt := 4) (pc := 31) dX8_mostOften_31 (by decide) ?_
    cases h
    exact hK
set_option maxRecDepth 4000 in
theorem w_Sg_mostOften_L4 {V : Sm → Wd} (hV : VwC V) {l : Launch} {Γ : Gm} {rF : Option Value} {wF : Wd} {v1 : Int32} {S : Sm} {k : Nat} {q : Int32 × Int32} {o : Int32} (h : lpN (Sg_mostOften_L4 v1 S) k q = some o) (hP : ps_Sg_mostOften_L4 V l Γ rF wF v1 S o) : hd_Sg_mostOften_L4 V l Γ rF wF v1 S q := lpN_ind2 (hd_Sg_mostOften_L4 V l Γ rF wF v1 S) (ps_Sg_mostOften_L4 V l Γ rF wF v1 S) (fun s o h hK => t_Sg_mostOften_L4 hV h hK) k q o h hP
def Sg_mostOften (v1 : Int32) (S : Sm) : Option (Int32) := ((lpN (Sg_mostOften_L4 v1 S) FU (0, 0)).bind fun q2 => (some q2))
set_option maxRecDepth 4000 in
theorem r_Sg_mostOften {V : Sm → Wd} (hV : VwC V) {v1 : Int32} {S : Sm} {q : Int32} (h : Sg_mostOften v1 S = some q) : Runs 1 mX8_mostOften [.ref 42, .int v1] (V S) (some (.int q)) (V S) 0 0 := by
  unfold Sg_mostOften at h
  refine Runs.of2 [some (.ref 42), some (.int v1), none, none] 2 rfl rfl (Nat.le_of_ble_eq_true rfl) (fun l Γ => ?_)
  refine g_iconst (v := 0) (pc := 0) dX8_mostOften_0 (by decide) ?_
  refine g_istore_n (ls1 := [some (.ref 42), some (.int v1), some (.int 0), none]) (pc := 1) dX8_mostOften_1 (by decide) rfl ?_
  refine g_iconst (v := 0) (pc := 2) dX8_mostOften_2 (by decide) ?_
  refine g_istore_n (ls1 := [some (.ref 42), some (.int v1), some (.int 0), some (.int 0)]) (pc := 3) dX8_mostOften_3 (by decide) rfl ?_
  obtain ⟨q2, hqq2, h⟩ := bnd h
  refine w_Sg_mostOften_L4 hV hqq2 ?_
  unfold ps_Sg_mostOften_L4
  show G _ _ _ _ _ _ _ _ _ _ _
  refine g_iload_n (pc := 34) dX8_mostOften_34 rfl ?_
  cases h
  exact g_iret (pc := 35) dX8_mostOften_35 rfl rfl (Nat.le_refl _) (Nat.le_refl _)
def hd_Sg_mostTelling_L8 (V : Sm → Wd) (l : Launch) (Γ : Gm) (rF : Option Value) (wF : Wd) (S : Sm) (q : Int32 × Int32) : Prop := G mX8_mostTelling l Γ (rmD 6 0 0) (mQ Γ rF wF 0 0) 0 0 8 [some (.ref 42), some (.int q.1), some (.int q.2)] [] (V S)
def ps_Sg_mostTelling_L8 (V : Sm → Wd) (l : Launch) (Γ : Gm) (rF : Option Value) (wF : Wd) (S : Sm) (x : Int32) : Prop := (fun (a : Int32) => G mX8_mostTelling l Γ (rmD 6 0 0) (mQ Γ rF wF 0 0) 0 0 50 [none, some (.int a), none] [] (V S)) x
def Sg_mostTelling_44_L8 (v1 : Int32) (v2 : Int32) (S : Sm) : Option ((Int32 × Int32) ⊕ (Int32)) := (some (.inl (v1, v2 + 1)))
set_option maxRecDepth 4000 in
theorem t_Sg_mostTelling_44_L8 {V : Sm → Wd} (hV : VwC V) {l : Launch} {Γ : Gm} {v1 : Int32} {v2 : Int32} {rF : Option Value} {wF : Wd} {S : Sm} {o : (Int32 × Int32) ⊕ (Int32)} (h : Sg_mostTelling_44_L8 v1 v2 S = some o) (hK : Sum.elim (hd_Sg_mostTelling_L8 V l Γ rF wF S) (ps_Sg_mostTelling_L8 V l Γ rF wF S) o) : G mX8_mostTelling l Γ (rmD 6 0 0) (mQ Γ rF wF 0 0) 0 0 44 [some (.ref 42), some (.int v1), some (.int v2)] [] (V S) := by
  unfold Sg_mostTelling_44_L8 at h
  refine g_iinc (v := v2 + 1) (ls1 := [some (.ref 42), some (.int v1), some (.int (v2 + 1))]) (pc := 44) dX8_mostTelling_44 rfl rfl (by decide) rfl ?_
  refine g_goto (tgt := 8) (pc := 47) dX8_mostTelling_47 (by decide) ?_
  cases h
  exact hK
def Sg_mostTelling_42_L8 (v2 : Int32) (S : Sm) : Option ((Int32 × Int32) ⊕ (Int32)) := (Sg_mostTelling_44_L8 v2 v2 S)
set_option maxRecDepth 4000 in
theorem t_Sg_mostTelling_42_L8 {V : Sm → Wd} (hV : VwC V) {l : Launch} {Γ : Gm} {v2 : Int32} {rF : Option Value} {wF : Wd} {S : Sm} {o : (Int32 × Int32) ⊕ (Int32)} (h : Sg_mostTelling_42_L8 v2 S = some o) (hK : Sum.elim (hd_Sg_mostTelling_L8 V l Γ rF wF S) (ps_Sg_mostTelling_L8 V l Γ rF wF S) o) : G mX8_mostTelling l Γ (rmD 6 0 0) (mQ Γ rF wF 0 0) 0 0 42 [some (.ref 42), none, some (.int v2)] [] (V S) := by
  unfold Sg_mostTelling_42_L8 at h
  refine g_iload_n (pc := 42) dX8_mostTelling_42 rfl ?_
  refine g_istore_n (ls1 := [some (.ref 42), some (.int v2), some (.int v2)]) (pc := 43) dX8_mostTelling_43 (by decide) rfl ?_
  exact t_Sg_mostTelling_44_L8 hV h hK
def Sg_mostTelling_L8 (S : Sm) (q : Int32 × Int32) : Option ((Int32 × Int32) ⊕ (Int32)) := (if (gi S 42 7) ≤ q.2 then (some (.inr q.1)) else ((Sg_mostOften q.2 S).bind fun q2 => (if q2 ≤ 0 then (Sg_mostTelling_44_L8 q.1 q.2 S) else (if q.1 = ((-1)) then (Sg_mostTelling_42_L8 q.2 S) else ((Sg_mostOften q.2 S).bind fun q3 => ((Sg_mostOften q.1 S).bind fun q4 => (if q4 ≤ q3 then (Sg_mostTelling_44_L8 q.1 q.2 S) else (Sg_mostTelling_42_L8 q.2 S))))))))
set_option maxRecDepth 4000 in
theorem t_Sg_mostTelling_L8 {V : Sm → Wd} (hV : VwC V) {l : Launch} {Γ : Gm} {rF : Option Value} {wF : Wd} {S : Sm} {q : Int32 × Int32} {o : (Int32 × Int32) ⊕ (Int32)} (h : Sg_mostTelling_L8 S q = some o) (hK : Sum.elim (hd_Sg_mostTelling_L8 V l Γ rF wF S) (ps_Sg_mostTelling_L8 V l Γ rF wF S) o) : hd_Sg_mostTelling_L8 V l Γ rF wF S q := by
  unfold Sg_mostTelling_L8 at h
  unfold hd_Sg_mostTelling_L8
  refine g_iload_n (pc := 8) dX8_mostTelling_8 rfl ?_
  refine g_aload_n (pc := 9) dX8_mostTelling_9 rfl ?_
  refine v_getI hV (pc := 10) dX8_mostTelling_10 fo_8_7 rfl k0_42 own_42 ?_
  refine g_icmp_ge (tgt := 50) (pc := 13) dX8_mostTelling_13 (by decide) (fun c8 => ?_) (fun c8 => ?_)
  · rw [if_pos c8] at h
    refine g_wk [false, true, false] rfl ?_
    cases h
    exact hK
  · rw [if_neg c8] at h
    refine g_aload_n (pc := 16) dX8_mostTelling_16 rfl ?_
    refine g_iload_n (pc := 17) dX8_mostTelling_17 rfl ?_
    obtain ⟨q2, hq2, h⟩ := bnd h
    refine v_callVi hV (Mc := mX8_mostOften) (v := q2) (S1 := S) (As := [.int q.2]) (rest := []) (q := (RX8, TX8, 8)) (pc := 18) dX8_mostTelling_18 mK_X8_95 mf_X8_mostOften rfl k0_42 rfl rfl rfl (Nat.le_of_ble_eq_true rfl) ⟨Nat.le_of_ble_eq_true rfl, Nat.le_of_ble_eq_true rfl⟩ (r_Sg_mostOften hV hq2) ?_
    refine g_if_le (tgt := 44) (pc := 21) dX8_mostTelling_21 (by decide) (fun c7 => ?_) (fun c7 => ?_)
    · rw [if_pos c7] at h
      exact t_Sg_mostTelling_44_L8 hV h hK
    · rw [if_neg c7] at h
      refine g_iload_n (pc := 24) dX8_mostTelling_24 rfl ?_
      refine g_iconst (v := (-1)) (pc := 25) dX8_mostTelling_25 (by decide) ?_
      refine g_icmp_eq (tgt := 42) (pc := 26) dX8_mostTelling_26 (by decide) (fun c6 => ?_) (fun c6 => ?_)
      · rw [if_pos c6] at h
        refine g_wk [true, false, true] rfl ?_
        exact t_Sg_mostTelling_42_L8 hV h hK
      · rw [if_neg c6] at h
        refine g_aload_n (pc := 29) dX8_mostTelling_29 rfl ?_
        refine g_iload_n (pc := 30) dX8_mostTelling_30 rfl ?_
        obtain ⟨q3, hq3, h⟩ := bnd h
        refine v_callVi hV (Mc := mX8_mostOften) (v := q3) (S1 := S) (As := [.int q.2]) (rest := []) (q := (RX8, TX8, 8)) (pc := 31) dX8_mostTelling_31 mK_X8_95 mf_X8_mostOften rfl k0_42 rfl rfl rfl (Nat.le_of_ble_eq_true rfl) ⟨Nat.le_of_ble_eq_true rfl, Nat.le_of_ble_eq_true rfl⟩ (r_Sg_mostOften hV hq3) ?_
        refine g_aload_n (pc := 34) dX8_mostTelling_34 rfl ?_
        refine g_iload_n (pc := 35) dX8_mostTelling_35 rfl ?_
        obtain ⟨q4, hq4, h⟩ := bnd h
        refine v_callVi hV (Mc := mX8_mostOften) (v := q4) (S1 := S) (As := [.int q.1]) (rest := [.int q3]) (q := (RX8, TX8, 8)) (pc := 36) dX8_mostTelling_36 mK_X8_95 mf_X8_mostOften rfl k0_42 rfl rfl rfl (Nat.le_of_ble_eq_true rfl) ⟨Nat.le_of_ble_eq_true rfl, Nat.le_of_ble_eq_true rfl⟩ (r_Sg_mostOften hV hq4) ?_
        refine g_icmp_ge (tgt := 44) (pc := 39) dX8_mostTelling_39 (by decide) (fun c5 => ?_) (fun c5 => ?_)
        · rw [if_pos c5] at h
          exact t_Sg_mostTelling_44_L8 hV h hK
        · rw [if_neg c5] at h
          refine g_wk [true, false, true] rfl ?_
          exact t_Sg_mostTelling_42_L8 hV h hK
set_option maxRecDepth 4000 in
theorem w_Sg_mostTelling_L8 {V : Sm → Wd} (hV : VwC V) {l : Launch} {Γ : Gm} {rF : Option Value} {wF : Wd} {S : Sm} {k : Nat} {q : Int32 × Int32} {o : Int32} (h : lpN (Sg_mostTelling_L8 S) k q = some o) (hP : ps_Sg_mostTelling_L8 V l Γ rF wF S o) : hd_Sg_mostTelling_L8 V l Γ rF wF S q := lpN_ind2 (hd_Sg_mostTelling_L8 V l Γ rF wF S) (ps_Sg_mostTelling_L8 V l Γ rF wF S) (fun s o h hK => t_Sg_mostTelling_L8 hV h hK) k q o h hP
def Sg_mostTelling (S : Sm) : Option (Int32 × Sm) := ((Sg_countOften S).bind fun q1 => ((lpN (Sg_mostTelling_L8 q1) FU ((-1), 0)).bind fun q9 => (some ((q9, q1)))))
set_option maxRecDepth 4000 in
theorem r_Sg_mostTelling {V : Sm → Wd} (hV : VwC V)  {S : Sm} {q : Int32 × Sm} (h : Sg_mostTelling S = some q) : Runs 6 mX8_mostTelling [.ref 42] (V S) (some (.int q.1)) (V q.2) 0 0 := by
  unfold Sg_mostTelling at h
  refine Runs.of2 [some (.ref 42), none, none] 2 rfl rfl (Nat.le_of_ble_eq_true rfl) (fun l Γ => ?_)
  refine g_aload_n (pc := 0) dX8_mostTelling_0 rfl ?_
  obtain ⟨q1, hq1, h⟩ := bnd h
  refine v_callVv hV (Mc := mX8_countOften) (S1 := q1) (As := []) (rest := []) (q := (RX8, TX8, 8)) (pc := 1) dX8_mostTelling_1 mK_X8_92 mf_X8_countOften rfl k0_42 rfl rfl rfl (Nat.le_of_ble_eq_true rfl) ⟨Nat.le_of_ble_eq_true rfl, Nat.le_of_ble_eq_true rfl⟩ (r_Sg_countOften hV hq1) ?_
  refine g_iconst (v := (-1)) (pc := 4) dX8_mostTelling_4 (by decide) ?_
  refine g_istore_n (ls1 := [some (.ref 42), some (.int ((-1))), none]) (pc := 5) dX8_mostTelling_5 (by decide) rfl ?_
  refine g_iconst (v := 0) (pc := 6) dX8_mostTelling_6 (by decide) ?_
  refine g_istore_n (ls1 := [some (.ref 42), some (.int ((-1))), some (.int 0)]) (pc := 7) dX8_mostTelling_7 (by decide) rfl ?_
  obtain ⟨q9, hqq9, h⟩ := bnd h
  refine w_Sg_mostTelling_L8 hV hqq9 ?_
  unfold ps_Sg_mostTelling_L8
  show G _ _ _ _ _ _ _ _ _ _ _
  refine g_iload_n (pc := 50) dX8_mostTelling_50 rfl ?_
  cases h
  exact g_iret (pc := 51) dX8_mostTelling_51 rfl rfl (Nat.le_refl _) (Nat.le_refl _)
def Dk_tells_19 (S : Sm) : Option (Int32 × Sm) := (some (((-1), S)))
set_option maxRecDepth 4000 in
theorem t_Dk_tells_19 {V : Sm → Wd} (hV : VwC V) {l : Launch} {Γ : Gm}  {S : Sm} {q : Int32 × Sm} (h : Dk_tells_19 S = some q) : G mX11_tells l Γ (rmD 7 0 0) (mQ Γ (some (.int q.1)) (V q.2) 0 0) 0 0 19 [none, none, none] [] (V S) := by
  unfold Dk_tells_19 at h
  refine g_iconst (v := (-1)) (pc := 19) dX11_tells_19 (by decide) ?_
  cases h
  exact g_iret (pc := 20) dX11_tells_20 rfl rfl (Nat.le_refl _) (Nat.le_refl _)
def Dk_tells_50 (s0 : Int32) (S : Sm) : Option (Int32 × Sm) := (some ((s0, S)))
set_option maxRecDepth 4000 in
theorem t_Dk_tells_50 {V : Sm → Wd} (hV : VwC V) {l : Launch} {Γ : Gm} {s0 : Int32} {S : Sm} {q : Int32 × Sm} (h : Dk_tells_50 s0 S = some q) : G mX11_tells l Γ (rmD 7 0 0) (mQ Γ (some (.int q.1)) (V q.2) 0 0) 0 0 50 [none, none, none] [.int s0] (V S) := by
  unfold Dk_tells_50 at h
  cases h
  exact g_iret (pc := 50) dX11_tells_50 rfl rfl (Nat.le_refl _) (Nat.le_refl _)
def Dk_tells_38 (v2 : Int32) (S : Sm) : Option (Int32 × Sm) := (Dk_tells_50 v2 S)
set_option maxRecDepth 4000 in
theorem t_Dk_tells_38 {V : Sm → Wd} (hV : VwC V) {l : Launch} {Γ : Gm} {v2 : Int32} {S : Sm} {q : Int32 × Sm} (h : Dk_tells_38 v2 S = some q) : G mX11_tells l Γ (rmD 7 0 0) (mQ Γ (some (.int q.1)) (V q.2) 0 0) 0 0 38 [none, none, some (.int v2)] [] (V S) := by
  unfold Dk_tells_38 at h
  refine g_iload_n (pc := 38) dX11_tells_38 rfl ?_
  refine g_goto (tgt := 50) (pc := 39) dX11_tells_39 (by decide) ?_
  refine g_wk [false, false, false] rfl ?_
  exact t_Dk_tells_50 hV h
def Dk_tells (v1 : Int32) (S : Sm) : Option (Int32 × Sm) := (if v1 < 0 then (Dk_tells_19 S) else (if (1 : Int32) < v1 then (Dk_tells_19 S) else ((Sg_unknownNow S).bind fun q1 => (if q1.1 = 0 then (Dk_tells_19 q1.2) else ((Sg_mostTelling q1.2).bind fun q2 => (if v1 = 0 then (Dk_tells_38 q2.1 q2.2) else (if q2.1 = ((-1)) then (Dk_tells_38 q2.1 q2.2) else ((Sg_mostOften q2.1 q2.2).bind fun q3 => (Dk_tells_50 q3 q2.2)))))))))
set_option maxRecDepth 4000 in
theorem r_Dk_tells {V : Sm → Wd} (hV : VwC V) {v1 : Int32} {S : Sm} {q : Int32 × Sm} (h : Dk_tells v1 S = some q) : Runs 7 mX11_tells [.ref 7, .int v1] (V S) (some (.int q.1)) (V q.2) 0 0 := by
  unfold Dk_tells at h
  refine Runs.of2 [some (.ref 7), some (.int v1), none] 1 rfl rfl (Nat.le_of_ble_eq_true rfl) (fun l Γ => ?_)
  refine g_iload_n (pc := 0) dX11_tells_0 rfl ?_
  refine g_if_lt (tgt := 19) (pc := 1) dX11_tells_1 (by decide) (fun c8 => ?_) (fun c8 => ?_)
  · rw [if_pos c8] at h
    refine g_wk [false, false, false] rfl ?_
    exact t_Dk_tells_19 hV h
  · rw [if_neg c8] at h
    refine g_iload_n (pc := 4) dX11_tells_4 rfl ?_
    refine g_iconst (v := 1) (pc := 5) dX11_tells_5 (by decide) ?_
    refine g_icmp_gt (tgt := 19) (pc := 6) dX11_tells_6 (by decide) (fun c7 => ?_) (fun c7 => ?_)
    · rw [if_pos c7] at h
      refine g_wk [false, false, false] rfl ?_
      exact t_Dk_tells_19 hV h
    · rw [if_neg c7] at h
      refine g_aload_n (pc := 9) dX11_tells_9 rfl ?_
      refine v_getR hV (pc := 10) dX11_tells_10 fo_11_10 rfl k0_7 r0_7_10 ?_
      obtain ⟨q1, hq1, h⟩ := bnd h
      refine v_callVi hV (Mc := mX8_unknownNow) (v := q1.1) (S1 := q1.2) (As := []) (rest := []) (q := (RX8, TX8, 8)) (pc := 13) dX11_tells_13 mK_X11_281 mf_X8_unknownNow rfl k0_42 rfl rfl rfl (Nat.le_of_ble_eq_true rfl) ⟨Nat.le_of_ble_eq_true rfl, Nat.le_of_ble_eq_true rfl⟩ (r_Sg_unknownNow hV hq1) ?_
      refine g_if_ne (tgt := 21) (pc := 16) dX11_tells_16 (by decide) (fun c6 => ?_) (fun c6 => ?_)
      · rw [if_neg c6] at h
        refine g_aload_n (pc := 21) dX11_tells_21 rfl ?_
        refine v_getR hV (pc := 22) dX11_tells_22 fo_11_10 rfl k0_7 r0_7_10 ?_
        obtain ⟨q2, hq2, h⟩ := bnd h
        refine v_callVi hV (Mc := mX8_mostTelling) (v := q2.1) (S1 := q2.2) (As := []) (rest := []) (q := (RX8, TX8, 8)) (pc := 25) dX11_tells_25 mK_X11_287 mf_X8_mostTelling rfl k0_42 rfl rfl rfl (Nat.le_of_ble_eq_true rfl) ⟨Nat.le_of_ble_eq_true rfl, Nat.le_of_ble_eq_true rfl⟩ (r_Sg_mostTelling hV hq2) ?_
        refine g_istore_n (ls1 := [some (.ref 7), some (.int v1), some (.int q2.1)]) (pc := 28) dX11_tells_28 (by decide) rfl ?_
        refine g_iload_n (pc := 29) dX11_tells_29 rfl ?_
        refine g_if_eq (tgt := 38) (pc := 30) dX11_tells_30 (by decide) (fun c5 => ?_) (fun c5 => ?_)
        · rw [if_pos c5] at h
          refine g_wk [false, false, true] rfl ?_
          exact t_Dk_tells_38 hV h
        · rw [if_neg c5] at h
          refine g_iload_n (pc := 33) dX11_tells_33 rfl ?_
          refine g_iconst (v := (-1)) (pc := 34) dX11_tells_34 (by decide) ?_
          refine g_icmp_ne (tgt := 42) (pc := 35) dX11_tells_35 (by decide) (fun c4 => ?_) (fun c4 => ?_)
          · rw [if_neg c4] at h
            refine g_aload_n (pc := 42) dX11_tells_42 rfl ?_
            refine v_getR hV (pc := 43) dX11_tells_43 fo_11_10 rfl k0_7 r0_7_10 ?_
            refine g_iload_n (pc := 46) dX11_tells_46 rfl ?_
            obtain ⟨q3, hq3, h⟩ := bnd h
            refine v_callVi hV (Mc := mX8_mostOften) (v := q3) (S1 := q2.2) (As := [.int q2.1]) (rest := []) (q := (RX8, TX8, 8)) (pc := 47) dX11_tells_47 mK_X11_290 mf_X8_mostOften rfl k0_42 rfl rfl rfl (Nat.le_of_ble_eq_true rfl) ⟨Nat.le_of_ble_eq_true rfl, Nat.le_of_ble_eq_true rfl⟩ (r_Sg_mostOften hV hq3) ?_
            refine g_wk [false, false, false] rfl ?_
            exact t_Dk_tells_50 hV h
          · rw [if_pos c4] at h
            refine g_wk [false, false, true] rfl ?_
            exact t_Dk_tells_38 hV h
      · rw [if_pos c6] at h
        refine g_wk [false, false, false] rfl ?_
        exact t_Dk_tells_19 hV h
def hd_Hr_mouthOutAfter_L9 (V : Sm → Wd) (l : Launch) (Γ : Gm) (rF : Option Value) (wF : Wd) (v2 : Int32) (v3 : Int32) (S : Sm) (q : Int32 × Int32 × Int32) : Prop := G mX1_mouthOutAfter l Γ (rmD 3 0 0) (mQ Γ rF wF 0 0) 0 0 9 [some (.ref 40), none, some (.int v2), some (.int v3), some (.int q.1), some (.int q.2.1), some (.int q.2.2), none] [] (V S)
def ps_Hr_mouthOutAfter_L9 (V : Sm → Wd) (l : Launch) (Γ : Gm) (rF : Option Value) (wF : Wd) (v2 : Int32) (v3 : Int32) (S : Sm) (x : Int32 × Int32) : Prop := (fun (a : Int32 × Int32) => G mX1_mouthOutAfter l Γ (rmD 3 0 0) (mQ Γ rF wF 0 0) 0 0 71 [none, none, none, some (.int v3), some (.int a.1), some (.int a.2), none, none] [] (V S)) x
def Hr_mouthOutAfter_L9 (v2 : Int32) (v3 : Int32) (S : Sm) (q : Int32 × Int32 × Int32) : Option ((Int32 × Int32 × Int32) ⊕ (Int32 × Int32)) := (if v3 ≤ q.2.2 then (some (.inr (q.1, q.2.1))) else (if v3 ≤ q.2.1 then (some (.inr (q.1, q.2.1))) else ((Dk_faded v2 q.2.1 (Nt_fade S)).bind fun q1 => (some (.inl (Wy_leadsTo q.1 q1 S, q.2.1 + (Wy_takes q.1 q1 S), q.2.2 + 1))))))
set_option maxRecDepth 4000 in
theorem t_Hr_mouthOutAfter_L9 {V : Sm → Wd} (hV : VwC V) {l : Launch} {Γ : Gm} {rF : Option Value} {wF : Wd} {v2 : Int32} {v3 : Int32} {S : Sm} {q : Int32 × Int32 × Int32} {o : (Int32 × Int32 × Int32) ⊕ (Int32 × Int32)} (h : Hr_mouthOutAfter_L9 v2 v3 S q = some o) (hK : Sum.elim (hd_Hr_mouthOutAfter_L9 V l Γ rF wF v2 v3 S) (ps_Hr_mouthOutAfter_L9 V l Γ rF wF v2 v3 S) o) : hd_Hr_mouthOutAfter_L9 V l Γ rF wF v2 v3 S q := by
  unfold Hr_mouthOutAfter_L9 at h
  unfold hd_Hr_mouthOutAfter_L9
  refine g_iload (pc := 9) dX1_mouthOutAfter_9 rfl ?_
  refine g_iload_n (pc := 11) dX1_mouthOutAfter_11 rfl ?_
  refine g_icmp_ge (tgt := 71) (pc := 12) dX1_mouthOutAfter_12 (by decide) (fun c3 => ?_) (fun c3 => ?_)
  · rw [if_pos c3] at h
    refine g_wk [false, false, false, true, true, true, false, false] rfl ?_
    cases h
    exact hK
  · rw [if_neg c3] at h
    refine g_iload (pc := 15) dX1_mouthOutAfter_15 rfl ?_
    refine g_iload_n (pc := 17) dX1_mouthOutAfter_17 rfl ?_
    refine g_icmp_ge (tgt := 71) (pc := 18) dX1_mouthOutAfter_18 (by decide) (fun c2 => ?_) (fun c2 => ?_)
    · rw [if_pos c2] at h
      refine g_wk [false, false, false, true, true, true, false, false] rfl ?_
      cases h
      exact hK
    · rw [if_neg c2] at h
      refine g_iload_n (pc := 21) dX1_mouthOutAfter_21 rfl ?_
      refine g_iload (pc := 22) dX1_mouthOutAfter_22 rfl ?_
      refine g_aload_n (pc := 24) dX1_mouthOutAfter_24 rfl ?_
      refine v_getR hV (pc := 25) dX1_mouthOutAfter_25 fo_1_0 rfl k0_40 r0_40_0 ?_
      refine v_callVi hV (Mc := mX5_fade) (v := Nt_fade S) (S1 := S) (As := []) (rest := [.int q.2.1, .int v2]) (q := (RX5, TX5, 3)) (pc := 28) dX1_mouthOutAfter_28 mK_X1_49 mf_X5_fade rfl k0_10 rfl rfl rfl (Nat.le_of_ble_eq_true rfl) ⟨Nat.le_of_ble_eq_true rfl, Nat.le_of_ble_eq_true rfl⟩ (r_Nt_fade hV rfl) ?_
      obtain ⟨q1, hq1, h⟩ := bnd h
      refine v_callNi (Mc := mX11_faded) (v := q1) (S1 := S) (As := [.int v2, .int q.2.1, .int (Nt_fade S)]) (rest := []) (pc := 31) dX1_mouthOutAfter_31 nl_X1_54 mf_X11_faded rfl rfl (Nat.le_of_ble_eq_true rfl) ⟨Nat.le_of_ble_eq_true rfl, Nat.le_of_ble_eq_true rfl⟩ (r_Dk_faded hV hq1) ?_
      refine g_istore (ls1 := [some (.ref 40), none, some (.int v2), some (.int v3), some (.int q.1), some (.int q.2.1), some (.int q.2.2), some (.int q1)]) (pc := 34) dX1_mouthOutAfter_34 (by decide) rfl ?_
      refine g_iload (pc := 36) dX1_mouthOutAfter_36 rfl ?_
      refine g_aload_n (pc := 38) dX1_mouthOutAfter_38 rfl ?_
      refine v_getR hV (pc := 39) dX1_mouthOutAfter_39 fo_1_3 rfl k0_40 r0_40_3 ?_
      refine g_iload (pc := 42) dX1_mouthOutAfter_42 rfl ?_
      refine g_iload (pc := 44) dX1_mouthOutAfter_44 rfl ?_
      refine v_callVi hV (Mc := mX10_takes) (v := Wy_takes q.1 q1 S) (S1 := S) (As := [.int q.1, .int q1]) (rest := [.int q.2.1]) (q := (RX10, TX10, 5)) (pc := 46) dX1_mouthOutAfter_46 mK_X1_123 mf_X10_takes rfl k0_37 rfl rfl rfl (Nat.le_of_ble_eq_true rfl) ⟨Nat.le_of_ble_eq_true rfl, Nat.le_of_ble_eq_true rfl⟩ (r_Wy_takes hV rfl) ?_
      refine g_iadd (pc := 49) dX1_mouthOutAfter_49 ?_
      refine g_istore (ls1 := [some (.ref 40), none, some (.int v2), some (.int v3), some (.int q.1), some (.int (q.2.1 + (Wy_takes q.1 q1 S))), some (.int q.2.2), some (.int q1)]) (pc := 50) dX1_mouthOutAfter_50 (by decide) rfl ?_
      refine g_aload_n (pc := 52) dX1_mouthOutAfter_52 rfl ?_
      refine v_getR hV (pc := 53) dX1_mouthOutAfter_53 fo_1_3 rfl k0_40 r0_40_3 ?_
      refine g_iload (pc := 56) dX1_mouthOutAfter_56 rfl ?_
      refine g_iload (pc := 58) dX1_mouthOutAfter_58 rfl ?_
      refine v_callVi hV (Mc := mX10_leadsTo) (v := Wy_leadsTo q.1 q1 S) (S1 := S) (As := [.int q.1, .int q1]) (rest := []) (q := (RX10, TX10, 5)) (pc := 60) dX1_mouthOutAfter_60 mK_X1_118 mf_X10_leadsTo rfl k0_37 rfl rfl rfl (Nat.le_of_ble_eq_true rfl) ⟨Nat.le_of_ble_eq_true rfl, Nat.le_of_ble_eq_true rfl⟩ (r_Wy_leadsTo hV rfl) ?_
      refine g_istore (ls1 := [some (.ref 40), none, some (.int v2), some (.int v3), some (.int (Wy_leadsTo q.1 q1 S)), some (.int (q.2.1 + (Wy_takes q.1 q1 S))), some (.int q.2.2), some (.int q1)]) (pc := 63) dX1_mouthOutAfter_63 (by decide) rfl ?_
      refine g_iinc (v := q.2.2 + 1) (ls1 := [some (.ref 40), none, some (.int v2), some (.int v3), some (.int (Wy_leadsTo q.1 q1 S)), some (.int (q.2.1 + (Wy_takes q.1 q1 S))), some (.int (q.2.2 + 1)), some (.int q1)]) (pc := 65) dX1_mouthOutAfter_65 rfl rfl (by decide) rfl ?_
      refine g_goto (tgt := 9) (pc := 68) dX1_mouthOutAfter_68 (by decide) ?_
      refine g_wk [true, false, true, true, true, true, true, false] rfl ?_
      cases h
      exact hK
set_option maxRecDepth 4000 in
theorem w_Hr_mouthOutAfter_L9 {V : Sm → Wd} (hV : VwC V) {l : Launch} {Γ : Gm} {rF : Option Value} {wF : Wd} {v2 : Int32} {v3 : Int32} {S : Sm} {k : Nat} {q : Int32 × Int32 × Int32} {o : Int32 × Int32} (h : lpN (Hr_mouthOutAfter_L9 v2 v3 S) k q = some o) (hP : ps_Hr_mouthOutAfter_L9 V l Γ rF wF v2 v3 S o) : hd_Hr_mouthOutAfter_L9 V l Γ rF wF v2 v3 S q := lpN_ind2 (hd_Hr_mouthOutAfter_L9 V l Γ rF wF v2 v3 S) (ps_Hr_mouthOutAfter_L9 V l Γ rF wF v2 v3 S) (fun s o h hK => t_Hr_mouthOutAfter_L9 hV h hK) k q o h hP
def Hr_mouthOutAfter_83 (s0 : Int32) (S : Sm) : Option (Int32) := (some s0)
set_option maxRecDepth 4000 in
theorem t_Hr_mouthOutAfter_83 {V : Sm → Wd} (hV : VwC V) {l : Launch} {Γ : Gm} {s0 : Int32} {S : Sm} {q : Int32} (h : Hr_mouthOutAfter_83 s0 S = some q) : G mX1_mouthOutAfter l Γ (rmD 3 0 0) (mQ Γ (some (.int q)) (V S) 0 0) 0 0 83 [none, none, none, none, none, none, none, none] [.int s0] (V S) := by
  unfold Hr_mouthOutAfter_83 at h
  cases h
  exact g_iret (pc := 83) dX1_mouthOutAfter_83 rfl rfl (Nat.le_refl _) (Nat.le_refl _)
def Hr_mouthOutAfter (v1 : Int32) (v2 : Int32) (v3 : Int32) (S : Sm) : Option (Int32) := ((lpN (Hr_mouthOutAfter_L9 v2 v3 S) FU (v1, 0, 0)).bind fun q4 => (if q4.2 = v3 then (Hr_mouthOutAfter_83 q4.1 S) else (Hr_mouthOutAfter_83 ((-1)) S)))
set_option maxRecDepth 4000 in
theorem r_Hr_mouthOutAfter {V : Sm → Wd} (hV : VwC V) {v1 : Int32} {v2 : Int32} {v3 : Int32} {S : Sm} {q : Int32} (h : Hr_mouthOutAfter v1 v2 v3 S = some q) : Runs 3 mX1_mouthOutAfter [.ref 40, .int v1, .int v2, .int v3] (V S) (some (.int q)) (V S) 0 0 := by
  unfold Hr_mouthOutAfter at h
  refine Runs.of2 [some (.ref 40), some (.int v1), some (.int v2), some (.int v3), none, none, none, none] 4 rfl rfl (Nat.le_of_ble_eq_true rfl) (fun l Γ => ?_)
  refine g_iload_n (pc := 0) dX1_mouthOutAfter_0 rfl ?_
  refine g_istore (ls1 := [some (.ref 40), some (.int v1), some (.int v2), some (.int v3), some (.int v1), none, none, none]) (pc := 1) dX1_mouthOutAfter_1 (by decide) rfl ?_
  refine g_iconst (v := 0) (pc := 3) dX1_mouthOutAfter_3 (by decide) ?_
  refine g_istore (ls1 := [some (.ref 40), some (.int v1), some (.int v2), some (.int v3), some (.int v1), some (.int 0), none, none]) (pc := 4) dX1_mouthOutAfter_4 (by decide) rfl ?_
  refine g_iconst (v := 0) (pc := 6) dX1_mouthOutAfter_6 (by decide) ?_
  refine g_istore (ls1 := [some (.ref 40), some (.int v1), some (.int v2), some (.int v3), some (.int v1), some (.int 0), some (.int 0), none]) (pc := 7) dX1_mouthOutAfter_7 (by decide) rfl ?_
  refine g_wk [true, false, true, true, true, true, true, false] rfl ?_
  obtain ⟨q4, hqq4, h⟩ := bnd h
  refine w_Hr_mouthOutAfter_L9 hV hqq4 ?_
  unfold ps_Hr_mouthOutAfter_L9
  show G _ _ _ _ _ _ _ _ _ _ _
  refine g_iload (pc := 71) dX1_mouthOutAfter_71 rfl ?_
  refine g_iload_n (pc := 73) dX1_mouthOutAfter_73 rfl ?_
  refine g_icmp_ne (tgt := 82) (pc := 74) dX1_mouthOutAfter_74 (by decide) (fun c5 => ?_) (fun c5 => ?_)
  · rw [if_neg c5] at h
    refine g_iconst (v := (-1)) (pc := 82) dX1_mouthOutAfter_82 (by decide) ?_
    refine g_wk [false, false, false, false, false, false, false, false] rfl ?_
    exact t_Hr_mouthOutAfter_83 hV h
  · rw [if_pos c5] at h
    refine g_iload (pc := 77) dX1_mouthOutAfter_77 rfl ?_
    refine g_goto (tgt := 83) (pc := 79) dX1_mouthOutAfter_79 (by decide) ?_
    refine g_wk [false, false, false, false, false, false, false, false] rfl ?_
    exact t_Hr_mouthOutAfter_83 hV h
def hd_Hr_yardsOf_L6 (V : Sm → Wd) (l : Launch) (Γ : Gm) (rF : Option Value) (wF : Wd) (v1 : Int32) (v2 : Int32) (v3 : Int32) (S : Sm) (q : Int32 × Int32) : Prop := G mX1_yardsOf l Γ (rmD 4 0 0) (mQ Γ rF wF 0 0) 0 0 6 [some (.ref 40), some (.int v1), some (.int v2), some (.int v3), some (.int q.1), some (.int q.2)] [] (V S)
def ps_Hr_yardsOf_L6 (V : Sm → Wd) (l : Launch) (Γ : Gm) (rF : Option Value) (wF : Wd) (v1 : Int32) (v2 : Int32) (v3 : Int32) (S : Sm) (x : Int32) : Prop := (fun (a : Int32) => G mX1_yardsOf l Γ (rmD 4 0 0) (mQ Γ rF wF 0 0) 0 0 45 [none, none, none, none, some (.int a), none] [] (V S)) x
def Hr_yardsOf_39_L6 (v1 : Int32) (v2 : Int32) (v3 : Int32) (v4 : Int32) (v5 : Int32) (S : Sm) : Option ((Int32 × Int32) ⊕ (Int32)) := (some (.inl (v4, v5 + 1)))
set_option maxRecDepth 4000 in
theorem t_Hr_yardsOf_39_L6 {V : Sm → Wd} (hV : VwC V) {l : Launch} {Γ : Gm} {v1 : Int32} {v2 : Int32} {v3 : Int32} {v4 : Int32} {v5 : Int32} {rF : Option Value} {wF : Wd} {S : Sm} {o : (Int32 × Int32) ⊕ (Int32)} (h : Hr_yardsOf_39_L6 v1 v2 v3 v4 v5 S = some o) (hK : Sum.elim (hd_Hr_yardsOf_L6 V l Γ rF wF v1 v2 v3 S) (ps_Hr_yardsOf_L6 V l Γ rF wF v1 v2 v3 S) o) : G mX1_yardsOf l Γ (rmD 4 0 0) (mQ Γ rF wF 0 0) 0 0 39 [some (.ref 40), some (.int v1), some (.int v2), some (.int v3), some (.int v4), some (.int v5)] [] (V S) := by
  unfold Hr_yardsOf_39_L6 at h
  refine g_iinc (v := v5 + 1) (ls1 := [some (.ref 40), some (.int v1), some (.int v2), some (.int v3), some (.int v4), some (.int (v5 + 1))]) (pc := 39) dX1_yardsOf_39 rfl rfl (by decide) rfl ?_
  refine g_goto (tgt := 6) (pc := 42) dX1_yardsOf_42 (by decide) ?_
  cases h
  exact hK
def Hr_yardsOf_L6 (v1 : Int32) (v2 : Int32) (v3 : Int32) (S : Sm) (q : Int32 × Int32) : Option ((Int32 × Int32) ⊕ (Int32)) := (if (Nt_mouths S) ≤ q.2 then (some (.inr q.1)) else ((Hr_mouthOutAfter q.2 v2 v3 S).bind fun q1 => (if q1 = v1 then (Hr_yardsOf_39_L6 v1 v2 v3 (q.1 ||| (iShl 1 q.2)) q.2 S) else (Hr_yardsOf_39_L6 v1 v2 v3 q.1 q.2 S))))
set_option maxRecDepth 4000 in
theorem t_Hr_yardsOf_L6 {V : Sm → Wd} (hV : VwC V) {l : Launch} {Γ : Gm} {rF : Option Value} {wF : Wd} {v1 : Int32} {v2 : Int32} {v3 : Int32} {S : Sm} {q : Int32 × Int32} {o : (Int32 × Int32) ⊕ (Int32)} (h : Hr_yardsOf_L6 v1 v2 v3 S q = some o) (hK : Sum.elim (hd_Hr_yardsOf_L6 V l Γ rF wF v1 v2 v3 S) (ps_Hr_yardsOf_L6 V l Γ rF wF v1 v2 v3 S) o) : hd_Hr_yardsOf_L6 V l Γ rF wF v1 v2 v3 S q := by
  unfold Hr_yardsOf_L6 at h
  unfold hd_Hr_yardsOf_L6
  refine g_iload (pc := 6) dX1_yardsOf_6 rfl ?_
  refine g_aload_n (pc := 8) dX1_yardsOf_8 rfl ?_
  refine v_getR hV (pc := 9) dX1_yardsOf_9 fo_1_0 rfl k0_40 r0_40_0 ?_
  refine v_callVi hV (Mc := mX5_mouths) (v := Nt_mouths S) (S1 := S) (As := []) (rest := [.int q.2]) (q := (RX5, TX5, 3)) (pc := 12) dX1_yardsOf_12 mK_X1_102 mf_X5_mouths rfl k0_10 rfl rfl rfl (Nat.le_of_ble_eq_true rfl) ⟨Nat.le_of_ble_eq_true rfl, Nat.le_of_ble_eq_true rfl⟩ (r_Nt_mouths hV rfl) ?_
  refine g_icmp_ge (tgt := 45) (pc := 15) dX1_yardsOf_15 (by decide) (fun c3 => ?_) (fun c3 => ?_)
  · rw [if_pos c3] at h
    refine g_wk [false, false, false, false, true, false] rfl ?_
    cases h
    exact hK
  · rw [if_neg c3] at h
    refine g_aload_n (pc := 18) dX1_yardsOf_18 rfl ?_
    refine g_iload (pc := 19) dX1_yardsOf_19 rfl ?_
    refine g_iload_n (pc := 21) dX1_yardsOf_21 rfl ?_
    refine g_iload_n (pc := 22) dX1_yardsOf_22 rfl ?_
    obtain ⟨q1, hq1, h⟩ := bnd h
    refine v_callVi hV (Mc := mX1_mouthOutAfter) (v := q1) (S1 := S) (As := [.int q.2, .int v2, .int v3]) (rest := []) (q := (RX1, TX1, 7)) (pc := 23) dX1_yardsOf_23 mK_X1_134 mf_X1_mouthOutAfter rfl k0_40 rfl rfl rfl (Nat.le_of_ble_eq_true rfl) ⟨Nat.le_of_ble_eq_true rfl, Nat.le_of_ble_eq_true rfl⟩ (r_Hr_mouthOutAfter hV hq1) ?_
    refine g_iload_n (pc := 26) dX1_yardsOf_26 rfl ?_
    refine g_icmp_ne (tgt := 39) (pc := 27) dX1_yardsOf_27 (by decide) (fun c2 => ?_) (fun c2 => ?_)
    · rw [if_neg c2] at h
      exact t_Hr_yardsOf_39_L6 hV h hK
    · rw [if_pos c2] at h
      refine g_iload (pc := 30) dX1_yardsOf_30 rfl ?_
      refine g_iconst (v := 1) (pc := 32) dX1_yardsOf_32 (by decide) ?_
      refine g_iload (pc := 33) dX1_yardsOf_33 rfl ?_
      refine g_ishl (pc := 35) dX1_yardsOf_35 ?_
      refine g_ior (pc := 36) dX1_yardsOf_36 ?_
      refine g_istore (ls1 := [some (.ref 40), some (.int v1), some (.int v2), some (.int v3), some (.int (q.1 ||| (iShl 1 q.2))), some (.int q.2)]) (pc := 37) dX1_yardsOf_37 (by decide) rfl ?_
      exact t_Hr_yardsOf_39_L6 hV h hK
set_option maxRecDepth 4000 in
theorem w_Hr_yardsOf_L6 {V : Sm → Wd} (hV : VwC V) {l : Launch} {Γ : Gm} {rF : Option Value} {wF : Wd} {v1 : Int32} {v2 : Int32} {v3 : Int32} {S : Sm} {k : Nat} {q : Int32 × Int32} {o : Int32} (h : lpN (Hr_yardsOf_L6 v1 v2 v3 S) k q = some o) (hP : ps_Hr_yardsOf_L6 V l Γ rF wF v1 v2 v3 S o) : hd_Hr_yardsOf_L6 V l Γ rF wF v1 v2 v3 S q := lpN_ind2 (hd_Hr_yardsOf_L6 V l Γ rF wF v1 v2 v3 S) (ps_Hr_yardsOf_L6 V l Γ rF wF v1 v2 v3 S) (fun s o h hK => t_Hr_yardsOf_L6 hV h hK) k q o h hP
def Hr_yardsOf (v1 : Int32) (v2 : Int32) (v3 : Int32) (S : Sm) : Option (Int32) := ((lpN (Hr_yardsOf_L6 v1 v2 v3 S) FU (0, 0)).bind fun q4 => (some q4))
set_option maxRecDepth 4000 in
theorem r_Hr_yardsOf {V : Sm → Wd} (hV : VwC V) {v1 : Int32} {v2 : Int32} {v3 : Int32} {S : Sm} {q : Int32} (h : Hr_yardsOf v1 v2 v3 S = some q) : Runs 4 mX1_yardsOf [.ref 40, .int v1, .int v2, .int v3] (V S) (some (.int q)) (V S) 0 0 := by
  unfold Hr_yardsOf at h
  refine Runs.of2 [some (.ref 40), some (.int v1), some (.int v2), some (.int v3), none, none] 2 rfl rfl (Nat.le_of_ble_eq_true rfl) (fun l Γ => ?_)
  refine g_iconst (v := 0) (pc := 0) dX1_yardsOf_0 (by decide) ?_
  refine g_istore (ls1 := [some (.ref 40), some (.int v1), some (.int v2), some (.int v3), some (.int 0), none]) (pc := 1) dX1_yardsOf_1 (by decide) rfl ?_
  refine g_iconst (v := 0) (pc := 3) dX1_yardsOf_3 (by decide) ?_
  refine g_istore (ls1 := [some (.ref 40), some (.int v1), some (.int v2), some (.int v3), some (.int 0), some (.int 0)]) (pc := 4) dX1_yardsOf_4 (by decide) rfl ?_
  obtain ⟨q4, hqq4, h⟩ := bnd h
  refine w_Hr_yardsOf_L6 hV hqq4 ?_
  unfold ps_Hr_yardsOf_L6
  show G _ _ _ _ _ _ _ _ _ _ _
  refine g_iload (pc := 45) dX1_yardsOf_45 rfl ?_
  cases h
  exact g_iret (pc := 47) dX1_yardsOf_47 rfl rfl (Nat.le_refl _) (Nat.le_refl _)
def Dk_yards_32 (S : Sm) : Option (Int32) := (some ((-1)))
set_option maxRecDepth 4000 in
theorem t_Dk_yards_32 {V : Sm → Wd} (hV : VwC V) {l : Launch} {Γ : Gm}  {S : Sm} {q : Int32} (h : Dk_yards_32 S = some q) : G mX11_yards l Γ (rmD 5 0 0) (mQ Γ (some (.int q)) (V S) 0 0) 0 0 32 [none, none, none, none] [] (V S) := by
  unfold Dk_yards_32 at h
  refine g_iconst (v := (-1)) (pc := 32) dX11_yards_32 (by decide) ?_
  cases h
  exact g_iret (pc := 33) dX11_yards_33 rfl rfl (Nat.le_refl _) (Nat.le_refl _)
def Dk_yards (v1 : Int32) (v2 : Int32) (v3 : Int32) (S : Sm) : Option (Int32) := (if (Nt_hasMouth v1 S) = 0 then (Dk_yards_32 S) else (if (Nt_hasLamp v2 S) = 0 then (Dk_yards_32 S) else (if v3 < 0 then (Dk_yards_32 S) else (if v3 ≤ 60 then ((Hr_yardsOf v1 v2 v3 S).bind fun q1 => (some q1)) else (Dk_yards_32 S)))))
set_option maxRecDepth 4000 in
theorem r_Dk_yards {V : Sm → Wd} (hV : VwC V) {v1 : Int32} {v2 : Int32} {v3 : Int32} {S : Sm} {q : Int32} (h : Dk_yards v1 v2 v3 S = some q) : Runs 5 mX11_yards [.ref 7, .int v1, .int v2, .int v3] (V S) (some (.int q)) (V S) 0 0 := by
  unfold Dk_yards at h
  refine Runs.of2 [some (.ref 7), some (.int v1), some (.int v2), some (.int v3)] 0 rfl rfl (Nat.le_of_ble_eq_true rfl) (fun l Γ => ?_)
  refine g_aload_n (pc := 0) dX11_yards_0 rfl ?_
  refine v_getR hV (pc := 1) dX11_yards_1 fo_11_1 rfl k0_7 r0_7_1 ?_
  refine g_iload_n (pc := 4) dX11_yards_4 rfl ?_
  refine v_callVi hV (Mc := mX5_hasMouth) (v := Nt_hasMouth v1 S) (S1 := S) (As := [.int v1]) (rest := []) (q := (RX5, TX5, 3)) (pc := 5) dX11_yards_5 mK_X11_140 mf_X5_hasMouth rfl k0_10 rfl rfl rfl (Nat.le_of_ble_eq_true rfl) ⟨Nat.le_of_ble_eq_true rfl, Nat.le_of_ble_eq_true rfl⟩ (r_Nt_hasMouth hV rfl) ?_
  refine g_if_eq (tgt := 32) (pc := 8) dX11_yards_8 (by decide) (fun c5 => ?_) (fun c5 => ?_)
  · rw [if_pos c5] at h
    refine g_wk [false, false, false, false] rfl ?_
    exact t_Dk_yards_32 hV h
  · rw [if_neg c5] at h
    refine g_aload_n (pc := 11) dX11_yards_11 rfl ?_
    refine v_getR hV (pc := 12) dX11_yards_12 fo_11_1 rfl k0_7 r0_7_1 ?_
    refine g_iload_n (pc := 15) dX11_yards_15 rfl ?_
    refine v_callVi hV (Mc := mX5_hasLamp) (v := Nt_hasLamp v2 S) (S1 := S) (As := [.int v2]) (rest := []) (q := (RX5, TX5, 3)) (pc := 16) dX11_yards_16 mK_X11_143 mf_X5_hasLamp rfl k0_10 rfl rfl rfl (Nat.le_of_ble_eq_true rfl) ⟨Nat.le_of_ble_eq_true rfl, Nat.le_of_ble_eq_true rfl⟩ (r_Nt_hasLamp hV rfl) ?_
    refine g_if_eq (tgt := 32) (pc := 19) dX11_yards_19 (by decide) (fun c4 => ?_) (fun c4 => ?_)
    · rw [if_pos c4] at h
      refine g_wk [false, false, false, false] rfl ?_
      exact t_Dk_yards_32 hV h
    · rw [if_neg c4] at h
      refine g_iload_n (pc := 22) dX11_yards_22 rfl ?_
      refine g_if_lt (tgt := 32) (pc := 23) dX11_yards_23 (by decide) (fun c3 => ?_) (fun c3 => ?_)
      · rw [if_pos c3] at h
        refine g_wk [false, false, false, false] rfl ?_
        exact t_Dk_yards_32 hV h
      · rw [if_neg c3] at h
        refine g_iload_n (pc := 26) dX11_yards_26 rfl ?_
        refine g_bipush (v := 60) (pc := 27) dX11_yards_27 (by decide) ?_
        refine g_icmp_le (tgt := 34) (pc := 29) dX11_yards_29 (by decide) (fun c2 => ?_) (fun c2 => ?_)
        · rw [if_pos c2] at h
          refine g_aload_n (pc := 34) dX11_yards_34 rfl ?_
          refine v_getR hV (pc := 35) dX11_yards_35 fo_11_9 rfl k0_7 r0_7_9 ?_
          refine g_iload_n (pc := 38) dX11_yards_38 rfl ?_
          refine g_iload_n (pc := 39) dX11_yards_39 rfl ?_
          refine g_iload_n (pc := 40) dX11_yards_40 rfl ?_
          obtain ⟨q1, hq1, h⟩ := bnd h
          refine v_callVi hV (Mc := mX1_yardsOf) (v := q1) (S1 := S) (As := [.int v1, .int v2, .int v3]) (rest := []) (q := (RX1, TX1, 7)) (pc := 41) dX11_yards_41 mK_X11_293 mf_X1_yardsOf rfl k0_40 rfl rfl rfl (Nat.le_of_ble_eq_true rfl) ⟨Nat.le_of_ble_eq_true rfl, Nat.le_of_ble_eq_true rfl⟩ (r_Hr_yardsOf hV hq1) ?_
          cases h
          exact g_iret (pc := 44) dX11_yards_44 rfl rfl (Nat.le_refl _) (Nat.le_refl _)
        · rw [if_neg c2] at h
          refine g_wk [false, false, false, false] rfl ?_
          exact t_Dk_yards_32 hV h
def hd_Wy_guarded_L4 (V : Sm → Wd) (l : Launch) (Γ : Gm) (rF : Option Value) (wF : Wd) (S : Sm) (q : Int32 × Int32) : Prop := G mX10_guarded l Γ (rmD 2 0 0) (mQ Γ rF wF 0 0) 0 0 4 [some (.ref 37), some (.int q.1), some (.int q.2)] [] (V S)
def ps_Wy_guarded_L4 (V : Sm → Wd) (l : Launch) (Γ : Gm) (rF : Option Value) (wF : Wd) (S : Sm) (x : Int32) : Prop := (fun (a : Int32) => G mX10_guarded l Γ (rmD 2 0 0) (mQ Γ rF wF 0 0) 0 0 42 [none, some (.int a), none] [] (V S)) x
def Wy_guarded_34_L4 (v2 : Int32) (s0 : Int32) (s1 : Int32) (S : Sm) : Option ((Int32 × Int32) ⊕ (Int32)) := (some (.inl (s0 ||| s1, v2 + 1)))
set_option maxRecDepth 4000 in
theorem t_Wy_guarded_34_L4 {V : Sm → Wd} (hV : VwC V) {l : Launch} {Γ : Gm} {v2 : Int32} {s0 : Int32} {s1 : Int32} {rF : Option Value} {wF : Wd} {S : Sm} {o : (Int32 × Int32) ⊕ (Int32)} (h : Wy_guarded_34_L4 v2 s0 s1 S = some o) (hK : Sum.elim (hd_Wy_guarded_L4 V l Γ rF wF S) (ps_Wy_guarded_L4 V l Γ rF wF S) o) : G mX10_guarded l Γ (rmD 2 0 0) (mQ Γ rF wF 0 0) 0 0 34 [some (.ref 37), none, some (.int v2)] [.int s1, .int s0] (V S) := by
  unfold Wy_guarded_34_L4 at h
  refine g_ior (pc := 34) dX10_guarded_34 ?_
  refine g_istore_n (ls1 := [some (.ref 37), some (.int (s0 ||| s1)), some (.int v2)]) (pc := 35) dX10_guarded_35 (by decide) rfl ?_
  refine g_iinc (v := v2 + 1) (ls1 := [some (.ref 37), some (.int (s0 ||| s1)), some (.int (v2 + 1))]) (pc := 36) dX10_guarded_36 rfl rfl (by decide) rfl ?_
  refine g_goto (tgt := 4) (pc := 39) dX10_guarded_39 (by decide) ?_
  cases h
  exact hK
def Wy_guarded_L4 (S : Sm) (q : Int32 × Int32) : Option ((Int32 × Int32) ⊕ (Int32)) := (if (Nt_mouths S) ≤ q.2 then (some (.inr q.1)) else (if (Mo_guardsAt q.2 S) ≤ 0 then (Wy_guarded_34_L4 q.2 q.1 0 S) else (Wy_guarded_34_L4 q.2 q.1 (iShl 1 q.2) S)))
set_option maxRecDepth 4000 in
theorem t_Wy_guarded_L4 {V : Sm → Wd} (hV : VwC V) {l : Launch} {Γ : Gm} {rF : Option Value} {wF : Wd} {S : Sm} {q : Int32 × Int32} {o : (Int32 × Int32) ⊕ (Int32)} (h : Wy_guarded_L4 S q = some o) (hK : Sum.elim (hd_Wy_guarded_L4 V l Γ rF wF S) (ps_Wy_guarded_L4 V l Γ rF wF S) o) : hd_Wy_guarded_L4 V l Γ rF wF S q := by
  unfold Wy_guarded_L4 at h
  unfold hd_Wy_guarded_L4
  refine g_iload_n (pc := 4) dX10_guarded_4 rfl ?_
  refine g_aload_n (pc := 5) dX10_guarded_5 rfl ?_
  refine v_getR hV (pc := 6) dX10_guarded_6 fo_10_0 rfl k0_37 r0_37_0 ?_
  refine v_callVi hV (Mc := mX5_mouths) (v := Nt_mouths S) (S1 := S) (As := []) (rest := [.int q.2]) (q := (RX5, TX5, 3)) (pc := 9) dX10_guarded_9 mK_X10_89 mf_X5_mouths rfl k0_10 rfl rfl rfl (Nat.le_of_ble_eq_true rfl) ⟨Nat.le_of_ble_eq_true rfl, Nat.le_of_ble_eq_true rfl⟩ (r_Nt_mouths hV rfl) ?_
  refine g_icmp_ge (tgt := 42) (pc := 12) dX10_guarded_12 (by decide) (fun c2 => ?_) (fun c2 => ?_)
  · rw [if_pos c2] at h
    refine g_wk [false, true, false] rfl ?_
    cases h
    exact hK
  · rw [if_neg c2] at h
    refine g_iload_n (pc := 15) dX10_guarded_15 rfl ?_
    refine g_aload_n (pc := 16) dX10_guarded_16 rfl ?_
    refine v_getR hV (pc := 17) dX10_guarded_17 fo_10_2 rfl k0_37 r0_37_2 ?_
    refine g_iload_n (pc := 20) dX10_guarded_20 rfl ?_
    refine v_callVi hV (Mc := mX4_guardsAt) (v := Mo_guardsAt q.2 S) (S1 := S) (As := [.int q.2]) (rest := [.int q.1]) (q := (RX4, TX4, 8)) (pc := 21) dX10_guarded_21 mK_X10_53 mf_X4_guardsAt rfl k0_25 rfl rfl rfl (Nat.le_of_ble_eq_true rfl) ⟨Nat.le_of_ble_eq_true rfl, Nat.le_of_ble_eq_true rfl⟩ (r_Mo_guardsAt hV rfl) ?_
    refine g_if_le (tgt := 33) (pc := 24) dX10_guarded_24 (by decide) (fun c1 => ?_) (fun c1 => ?_)
    · rw [if_pos c1] at h
      refine g_iconst (v := 0) (pc := 33) dX10_guarded_33 (by decide) ?_
      refine g_wk [true, false, true] rfl ?_
      exact t_Wy_guarded_34_L4 hV h hK
    · rw [if_neg c1] at h
      refine g_iconst (v := 1) (pc := 27) dX10_guarded_27 (by decide) ?_
      refine g_iload_n (pc := 28) dX10_guarded_28 rfl ?_
      refine g_ishl (pc := 29) dX10_guarded_29 ?_
      refine g_goto (tgt := 34) (pc := 30) dX10_guarded_30 (by decide) ?_
      refine g_wk [true, false, true] rfl ?_
      exact t_Wy_guarded_34_L4 hV h hK
set_option maxRecDepth 4000 in
theorem w_Wy_guarded_L4 {V : Sm → Wd} (hV : VwC V) {l : Launch} {Γ : Gm} {rF : Option Value} {wF : Wd} {S : Sm} {k : Nat} {q : Int32 × Int32} {o : Int32} (h : lpN (Wy_guarded_L4 S) k q = some o) (hP : ps_Wy_guarded_L4 V l Γ rF wF S o) : hd_Wy_guarded_L4 V l Γ rF wF S q := lpN_ind2 (hd_Wy_guarded_L4 V l Γ rF wF S) (ps_Wy_guarded_L4 V l Γ rF wF S) (fun s o h hK => t_Wy_guarded_L4 hV h hK) k q o h hP
def Wy_guarded (S : Sm) : Option (Int32) := ((lpN (Wy_guarded_L4 S) FU (0, 0)).bind fun q3 => (some q3))
set_option maxRecDepth 4000 in
theorem r_Wy_guarded {V : Sm → Wd} (hV : VwC V)  {S : Sm} {q : Int32} (h : Wy_guarded S = some q) : Runs 2 mX10_guarded [.ref 37] (V S) (some (.int q)) (V S) 0 0 := by
  unfold Wy_guarded at h
  refine Runs.of2 [some (.ref 37), none, none] 2 rfl rfl (Nat.le_of_ble_eq_true rfl) (fun l Γ => ?_)
  refine g_iconst (v := 0) (pc := 0) dX10_guarded_0 (by decide) ?_
  refine g_istore_n (ls1 := [some (.ref 37), some (.int 0), none]) (pc := 1) dX10_guarded_1 (by decide) rfl ?_
  refine g_iconst (v := 0) (pc := 2) dX10_guarded_2 (by decide) ?_
  refine g_istore_n (ls1 := [some (.ref 37), some (.int 0), some (.int 0)]) (pc := 3) dX10_guarded_3 (by decide) rfl ?_
  obtain ⟨q3, hqq3, h⟩ := bnd h
  refine w_Wy_guarded_L4 hV hqq3 ?_
  unfold ps_Wy_guarded_L4
  show G _ _ _ _ _ _ _ _ _ _ _
  refine g_iload_n (pc := 42) dX10_guarded_42 rfl ?_
  cases h
  exact g_iret (pc := 43) dX10_guarded_43 rfl rfl (Nat.le_refl _) (Nat.le_refl _)
def Wy_fewestHoursUnseen (v1 : Int32) (v2 : Int32) (S : Sm) : Option (Int32 × Sm) := ((Wy_guarded S).bind fun q1 => ((Wy_measure v2 (Nt_allColours S) 0 q1 S).bind fun q2 => (some ((Wy_farFrom v1 q2, q2)))))
set_option maxRecDepth 4000 in
theorem r_Wy_fewestHoursUnseen {V : Sm → Wd} (hV : VwC V) {v1 : Int32} {v2 : Int32} {S : Sm} {q : Int32 × Sm} (h : Wy_fewestHoursUnseen v1 v2 S = some q) : Runs 7 mX10_fewestHoursUnseen [.ref 37, .int v1, .int v2] (V S) (some (.int q.1)) (V q.2) 0 0 := by
  unfold Wy_fewestHoursUnseen at h
  refine Runs.of2 [some (.ref 37), some (.int v1), some (.int v2)] 0 rfl rfl (Nat.le_of_ble_eq_true rfl) (fun l Γ => ?_)
  refine g_aload_n (pc := 0) dX10_fewestHoursUnseen_0 rfl ?_
  refine g_iload_n (pc := 1) dX10_fewestHoursUnseen_1 rfl ?_
  refine g_aload_n (pc := 2) dX10_fewestHoursUnseen_2 rfl ?_
  refine v_getR hV (pc := 3) dX10_fewestHoursUnseen_3 fo_10_0 rfl k0_37 r0_37_0 ?_
  refine v_callVi hV (Mc := mX5_allColours) (v := Nt_allColours S) (S1 := S) (As := []) (rest := [.int v2, .ref 37]) (q := (RX5, TX5, 3)) (pc := 6) dX10_fewestHoursUnseen_6 mK_X10_92 mf_X5_allColours rfl k0_10 rfl rfl rfl (Nat.le_of_ble_eq_true rfl) ⟨Nat.le_of_ble_eq_true rfl, Nat.le_of_ble_eq_true rfl⟩ (r_Nt_allColours hV rfl) ?_
  refine g_iconst (v := 0) (pc := 9) dX10_fewestHoursUnseen_9 (by decide) ?_
  refine g_aload_n (pc := 10) dX10_fewestHoursUnseen_10 rfl ?_
  obtain ⟨q1, hq1, h⟩ := bnd h
  refine v_callVi hV (Mc := mX10_guarded) (v := q1) (S1 := S) (As := []) (rest := [.int 0, .int (Nt_allColours S), .int v2, .ref 37]) (q := (RX10, TX10, 5)) (pc := 11) dX10_fewestHoursUnseen_11 mK_X10_130 mf_X10_guarded rfl k0_37 rfl rfl rfl (Nat.le_of_ble_eq_true rfl) ⟨Nat.le_of_ble_eq_true rfl, Nat.le_of_ble_eq_true rfl⟩ (r_Wy_guarded hV hq1) ?_
  obtain ⟨q2, hq2, h⟩ := bnd h
  refine v_callVv hV (Mc := mX10_measure) (S1 := q2) (As := [.int v2, .int (Nt_allColours S), .int 0, .int q1]) (rest := []) (q := (RX10, TX10, 5)) (pc := 14) dX10_fewestHoursUnseen_14 mK_X10_123 mf_X10_measure rfl k0_37 rfl rfl rfl (Nat.le_of_ble_eq_true rfl) ⟨Nat.le_of_ble_eq_true rfl, Nat.le_of_ble_eq_true rfl⟩ (r_Wy_measure hV hq2) ?_
  refine g_aload_n (pc := 17) dX10_fewestHoursUnseen_17 rfl ?_
  refine g_iload_n (pc := 18) dX10_fewestHoursUnseen_18 rfl ?_
  refine v_callVi hV (Mc := mX10_farFrom) (v := Wy_farFrom v1 q2) (S1 := q2) (As := [.int v1]) (rest := []) (q := (RX10, TX10, 5)) (pc := 19) dX10_fewestHoursUnseen_19 mK_X10_127 mf_X10_farFrom rfl k0_37 rfl rfl rfl (Nat.le_of_ble_eq_true rfl) ⟨Nat.le_of_ble_eq_true rfl, Nat.le_of_ble_eq_true rfl⟩ (r_Wy_farFrom hV rfl) ?_
  cases h
  exact g_iret (pc := 22) dX10_fewestHoursUnseen_22 rfl rfl (Nat.le_refl _) (Nat.le_refl _)
def Dk_unseen_35 (s0 : Int32) (S : Sm) : Option (Int32 × Sm) := (some ((s0, S)))
set_option maxRecDepth 4000 in
theorem t_Dk_unseen_35 {V : Sm → Wd} (hV : VwC V) {l : Launch} {Γ : Gm} {s0 : Int32} {S : Sm} {q : Int32 × Sm} (h : Dk_unseen_35 s0 S = some q) : G mX11_unseen l Γ (rmD 8 0 0) (mQ Γ (some (.int q.1)) (V q.2) 0 0) 0 0 35 [none, none, none] [.int s0] (V S) := by
  unfold Dk_unseen_35 at h
  cases h
  exact g_iret (pc := 35) dX11_unseen_35 rfl rfl (Nat.le_refl _) (Nat.le_refl _)
def Dk_unseen_34 (S : Sm) : Option (Int32 × Sm) := (Dk_unseen_35 ((-1)) S)
set_option maxRecDepth 4000 in
theorem t_Dk_unseen_34 {V : Sm → Wd} (hV : VwC V) {l : Launch} {Γ : Gm}  {S : Sm} {q : Int32 × Sm} (h : Dk_unseen_34 S = some q) : G mX11_unseen l Γ (rmD 8 0 0) (mQ Γ (some (.int q.1)) (V q.2) 0 0) 0 0 34 [none, none, none] [] (V S) := by
  unfold Dk_unseen_34 at h
  refine g_iconst (v := (-1)) (pc := 34) dX11_unseen_34 (by decide) ?_
  exact t_Dk_unseen_35 hV h
def Dk_unseen (v1 : Int32) (v2 : Int32) (S : Sm) : Option (Int32 × Sm) := (if (Nt_hasMouth v1 S) = 0 then (Dk_unseen_34 S) else (if (Nt_hasMouth v2 S) = 0 then (Dk_unseen_34 S) else ((Wy_fewestHoursUnseen v1 v2 S).bind fun q1 => (Dk_unseen_35 q1.1 q1.2))))
set_option maxRecDepth 4000 in
theorem r_Dk_unseen {V : Sm → Wd} (hV : VwC V) {v1 : Int32} {v2 : Int32} {S : Sm} {q : Int32 × Sm} (h : Dk_unseen v1 v2 S = some q) : Runs 8 mX11_unseen [.ref 7, .int v1, .int v2] (V S) (some (.int q.1)) (V q.2) 0 0 := by
  unfold Dk_unseen at h
  refine Runs.of2 [some (.ref 7), some (.int v1), some (.int v2)] 0 rfl rfl (Nat.le_of_ble_eq_true rfl) (fun l Γ => ?_)
  refine g_aload_n (pc := 0) dX11_unseen_0 rfl ?_
  refine v_getR hV (pc := 1) dX11_unseen_1 fo_11_1 rfl k0_7 r0_7_1 ?_
  refine g_iload_n (pc := 4) dX11_unseen_4 rfl ?_
  refine v_callVi hV (Mc := mX5_hasMouth) (v := Nt_hasMouth v1 S) (S1 := S) (As := [.int v1]) (rest := []) (q := (RX5, TX5, 3)) (pc := 5) dX11_unseen_5 mK_X11_140 mf_X5_hasMouth rfl k0_10 rfl rfl rfl (Nat.le_of_ble_eq_true rfl) ⟨Nat.le_of_ble_eq_true rfl, Nat.le_of_ble_eq_true rfl⟩ (r_Nt_hasMouth hV rfl) ?_
  refine g_if_eq (tgt := 34) (pc := 8) dX11_unseen_8 (by decide) (fun c3 => ?_) (fun c3 => ?_)
  · rw [if_pos c3] at h
    refine g_wk [false, false, false] rfl ?_
    exact t_Dk_unseen_34 hV h
  · rw [if_neg c3] at h
    refine g_aload_n (pc := 11) dX11_unseen_11 rfl ?_
    refine v_getR hV (pc := 12) dX11_unseen_12 fo_11_1 rfl k0_7 r0_7_1 ?_
    refine g_iload_n (pc := 15) dX11_unseen_15 rfl ?_
    refine v_callVi hV (Mc := mX5_hasMouth) (v := Nt_hasMouth v2 S) (S1 := S) (As := [.int v2]) (rest := []) (q := (RX5, TX5, 3)) (pc := 16) dX11_unseen_16 mK_X11_140 mf_X5_hasMouth rfl k0_10 rfl rfl rfl (Nat.le_of_ble_eq_true rfl) ⟨Nat.le_of_ble_eq_true rfl, Nat.le_of_ble_eq_true rfl⟩ (r_Nt_hasMouth hV rfl) ?_
    refine g_if_eq (tgt := 34) (pc := 19) dX11_unseen_19 (by decide) (fun c2 => ?_) (fun c2 => ?_)
    · rw [if_pos c2] at h
      refine g_wk [false, false, false] rfl ?_
      exact t_Dk_unseen_34 hV h
    · rw [if_neg c2] at h
      refine g_aload_n (pc := 22) dX11_unseen_22 rfl ?_
      refine v_getR hV (pc := 23) dX11_unseen_23 fo_11_8 rfl k0_7 r0_7_8 ?_
      refine g_iload_n (pc := 26) dX11_unseen_26 rfl ?_
      refine g_iload_n (pc := 27) dX11_unseen_27 rfl ?_
      obtain ⟨q1, hq1, h⟩ := bnd h
      refine v_callVi hV (Mc := mX10_fewestHoursUnseen) (v := q1.1) (S1 := q1.2) (As := [.int v1, .int v2]) (rest := []) (q := (RX10, TX10, 5)) (pc := 28) dX11_unseen_28 mK_X11_296 mf_X10_fewestHoursUnseen rfl k0_37 rfl rfl rfl (Nat.le_of_ble_eq_true rfl) ⟨Nat.le_of_ble_eq_true rfl, Nat.le_of_ble_eq_true rfl⟩ (r_Wy_fewestHoursUnseen hV hq1) ?_
      refine g_goto (tgt := 35) (pc := 31) dX11_unseen_31 (by decide) ?_
      refine g_wk [false, false, false] rfl ?_
      exact t_Dk_unseen_35 hV h
def hd_Wy_fillNexts_L2 (V : Sm → Wd) (l : Launch) (Γ : Gm) (rF : Option Value) (wF : Wd)  (q : Int32 × Sm) : Prop := G mX10_fillNexts l Γ (rmD 4 0 0) (mQ Γ rF wF 0 0) 0 0 2 [some (.ref 37), some (.int q.1)] [] (V q.2)
def ps_Wy_fillNexts_L2 (V : Sm → Wd) (l : Launch) (Γ : Gm) (rF : Option Value) (wF : Wd)  (x : Sm) : Prop := (fun (a : Sm) => G mX10_fillNexts l Γ (rmD 4 0 0) (mQ Γ rF wF 0 0) 0 0 41 [none, none] [] (V a)) x
def Wy_fillNexts_L2 (q : Int32 × Sm) : Option ((Int32 × Sm) ⊕ (Sm)) := (if (Nt_mouths q.2) ≤ q.1 then (some (.inr q.2)) else ((Wy_behindOne (iShl 1 q.1) (Nt_allColours q.2) q.2).bind fun q1 => (app (puF q.2 39 8 q.1 q1) fun S2 => (some (.inl (q.1 + 1, S2))))))
set_option maxRecDepth 4000 in
theorem t_Wy_fillNexts_L2 {V : Sm → Wd} (hV : VwC V) {l : Launch} {Γ : Gm} {rF : Option Value} {wF : Wd}  {q : Int32 × Sm} {o : (Int32 × Sm) ⊕ (Sm)} (h : Wy_fillNexts_L2 q = some o) (hK : Sum.elim (hd_Wy_fillNexts_L2 V l Γ rF wF) (ps_Wy_fillNexts_L2 V l Γ rF wF) o) : hd_Wy_fillNexts_L2 V l Γ rF wF q := by
  unfold Wy_fillNexts_L2 at h
  unfold hd_Wy_fillNexts_L2
  refine g_iload_n (pc := 2) dX10_fillNexts_2 rfl ?_
  refine g_aload_n (pc := 3) dX10_fillNexts_3 rfl ?_
  refine v_getR hV (pc := 4) dX10_fillNexts_4 fo_10_0 rfl k0_37 r0_37_0 ?_
  refine v_callVi hV (Mc := mX5_mouths) (v := Nt_mouths q.2) (S1 := q.2) (As := []) (rest := [.int q.1]) (q := (RX5, TX5, 3)) (pc := 7) dX10_fillNexts_7 mK_X10_89 mf_X5_mouths rfl k0_10 rfl rfl rfl (Nat.le_of_ble_eq_true rfl) ⟨Nat.le_of_ble_eq_true rfl, Nat.le_of_ble_eq_true rfl⟩ (r_Nt_mouths hV rfl) ?_
  refine g_icmp_ge (tgt := 41) (pc := 10) dX10_fillNexts_10 (by decide) (fun c3 => ?_) (fun c3 => ?_)
  · rw [if_pos c3] at h
    refine g_wk [false, false] rfl ?_
    cases h
    exact hK
  · rw [if_neg c3] at h
    refine g_aload_n (pc := 13) dX10_fillNexts_13 rfl ?_
    refine v_getR hV (pc := 14) dX10_fillNexts_14 fo_10_4 rfl k0_37 r0_37_4 ?_
    refine g_iload_n (pc := 17) dX10_fillNexts_17 rfl ?_
    refine g_aload_n (pc := 18) dX10_fillNexts_18 rfl ?_
    refine g_iconst (v := 1) (pc := 19) dX10_fillNexts_19 (by decide) ?_
    refine g_iload_n (pc := 20) dX10_fillNexts_20 rfl ?_
    refine g_ishl (pc := 21) dX10_fillNexts_21 ?_
    refine g_aload_n (pc := 22) dX10_fillNexts_22 rfl ?_
    refine v_getR hV (pc := 23) dX10_fillNexts_23 fo_10_0 rfl k0_37 r0_37_0 ?_
    refine v_callVi hV (Mc := mX5_allColours) (v := Nt_allColours q.2) (S1 := q.2) (As := []) (rest := [.int (iShl 1 q.1), .ref 37, .int q.1, .ref 39]) (q := (RX5, TX5, 3)) (pc := 26) dX10_fillNexts_26 mK_X10_92 mf_X5_allColours rfl k0_10 rfl rfl rfl (Nat.le_of_ble_eq_true rfl) ⟨Nat.le_of_ble_eq_true rfl, Nat.le_of_ble_eq_true rfl⟩ (r_Nt_allColours hV rfl) ?_
    obtain ⟨q1, hq1, h⟩ := bnd h
    refine v_callVi hV (Mc := mX10_behindOne) (v := q1) (S1 := q.2) (As := [.int (iShl 1 q.1), .int (Nt_allColours q.2)]) (rest := [.int q.1, .ref 39]) (q := (RX10, TX10, 5)) (pc := 29) dX10_fillNexts_29 mK_X10_86 mf_X10_behindOne rfl k0_37 rfl rfl rfl (Nat.le_of_ble_eq_true rfl) ⟨Nat.le_of_ble_eq_true rfl, Nat.le_of_ble_eq_true rfl⟩ (r_Wy_behindOne hV hq1) ?_
    obtain ⟨S2, hS2, h⟩ := app_of h
    refine v_callNv (Mc := mX11_put) (S1 := S2) (As := [.ref 39, .int q.1, .int q1]) (rest := []) (pc := 32) dX10_fillNexts_32 nl_X10_108 mf_X11_put rfl rfl (Nat.le_of_ble_eq_true rfl) ⟨Nat.le_of_ble_eq_true rfl, Nat.le_of_ble_eq_true rfl⟩ (r_put hV k0_39 own_39 (by decide) hS2) ?_
    refine g_iinc (v := q.1 + 1) (ls1 := [some (.ref 37), some (.int (q.1 + 1))]) (pc := 35) dX10_fillNexts_35 rfl rfl (by decide) rfl ?_
    refine g_goto (tgt := 2) (pc := 38) dX10_fillNexts_38 (by decide) ?_
    cases h
    exact hK
set_option maxRecDepth 4000 in
theorem w_Wy_fillNexts_L2 {V : Sm → Wd} (hV : VwC V) {l : Launch} {Γ : Gm} {rF : Option Value} {wF : Wd}  {k : Nat} {q : Int32 × Sm} {o : Sm} (h : lpN (Wy_fillNexts_L2) k q = some o) (hP : ps_Wy_fillNexts_L2 V l Γ rF wF o) : hd_Wy_fillNexts_L2 V l Γ rF wF q := lpN_ind2 (hd_Wy_fillNexts_L2 V l Γ rF wF) (ps_Wy_fillNexts_L2 V l Γ rF wF) (fun s o h hK => t_Wy_fillNexts_L2 hV h hK) k q o h hP
def Wy_fillNexts (S : Sm) : Option (Sm) := ((lpN (Wy_fillNexts_L2) FU (0, S)).bind fun q4 => (some q4))
set_option maxRecDepth 4000 in
theorem r_Wy_fillNexts {V : Sm → Wd} (hV : VwC V)  {S : Sm} {q : Sm} (h : Wy_fillNexts S = some q) : Runs 4 mX10_fillNexts [.ref 37] (V S) none (V q) 0 0 := by
  unfold Wy_fillNexts at h
  refine Runs.of2 [some (.ref 37), none] 1 rfl rfl (Nat.le_of_ble_eq_true rfl) (fun l Γ => ?_)
  refine g_iconst (v := 0) (pc := 0) dX10_fillNexts_0 (by decide) ?_
  refine g_istore_n (ls1 := [some (.ref 37), some (.int 0)]) (pc := 1) dX10_fillNexts_1 (by decide) rfl ?_
  obtain ⟨q4, hqq4, h⟩ := bnd h
  refine w_Wy_fillNexts_L2 hV hqq4 ?_
  unfold ps_Wy_fillNexts_L2
  show G _ _ _ _ _ _ _ _ _ _ _
  cases h
  exact g_vret (pc := 41) dX10_fillNexts_41 rfl (Nat.le_refl _) (Nat.le_refl _)
