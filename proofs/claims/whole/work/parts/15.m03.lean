/-! ===== printed by program: methods as functions over a state, and their walks ===== -/
def hd_Wy_sneaks_L13 (V : Sm → Wd) (l : Launch) (Γ : Gm) (rF : Option Value) (wF : Wd) (v2 : Int32) (v3 : Int32) (S : Sm) (q : Int32 × Int32) : Prop := G mX10_sneaks l Γ (rmD 2 0 0) (mQ Γ rF wF 0 0) 0 0 13 [some (.ref 37), none, some (.int v2), some (.int v3), some (.int q.1), some (.int q.2), none] [] (V S)
def ps_Wy_sneaks_L13 (V : Sm → Wd) (l : Launch) (Γ : Gm) (rF : Option Value) (wF : Wd) (v2 : Int32) (v3 : Int32) (S : Sm) (x : Int32) : Prop := (fun (a : Int32) => G mX10_sneaks l Γ (rmD 2 0 0) (mQ Γ rF wF 0 0) 0 0 88 [none, none, some (.int v2), none, some (.int a), none, none] [] (V S)) x
def hd_Wy_sneaks_L32 (V : Sm → Wd) (l : Launch) (Γ : Gm) (rF : Option Value) (wF : Wd) (v2 : Int32) (v3 : Int32) (v5 : Int32) (S : Sm) (q : Int32 × Int32) : Prop := G mX10_sneaks l Γ (rmD 2 0 0) (mQ Γ rF wF 0 0) 0 0 32 [some (.ref 37), none, some (.int v2), some (.int v3), some (.int q.1), some (.int v5), some (.int q.2)] [] (V S)
def ps_Wy_sneaks_L32 (V : Sm → Wd) (l : Launch) (Γ : Gm) (rF : Option Value) (wF : Wd) (v2 : Int32) (v3 : Int32) (v5 : Int32) (S : Sm) (x : Int32) : Prop := (fun (a : Int32) => G mX10_sneaks l Γ (rmD 2 0 0) (mQ Γ rF wF 0 0) 0 0 82 [some (.ref 37), none, some (.int v2), some (.int v3), some (.int a), some (.int v5), none] [] (V S)) x
def Wy_sneaks_73_L32 (v2 : Int32) (v3 : Int32) (v5 : Int32) (v6 : Int32) (s0 : Int32) (s1 : Int32) (S : Sm) : Option ((Int32 × Int32) ⊕ (Int32)) := (some (.inl (s0 ||| s1, v6 + 1)))
set_option maxRecDepth 4000 in
theorem t_Wy_sneaks_73_L32 {V : Sm → Wd} (hV : VwC V) {l : Launch} {Γ : Gm} {v2 : Int32} {v3 : Int32} {v5 : Int32} {v6 : Int32} {s0 : Int32} {s1 : Int32} {rF : Option Value} {wF : Wd} {S : Sm} {o : (Int32 × Int32) ⊕ (Int32)} (h : Wy_sneaks_73_L32 v2 v3 v5 v6 s0 s1 S = some o) (hK : Sum.elim (hd_Wy_sneaks_L32 V l Γ rF wF v2 v3 v5 S) (ps_Wy_sneaks_L32 V l Γ rF wF v2 v3 v5 S) o) : G mX10_sneaks l Γ (rmD 2 0 0) (mQ Γ rF wF 0 0) 0 0 73 [some (.ref 37), none, some (.int v2), some (.int v3), none, some (.int v5), some (.int v6)] [.int s1, .int s0] (V S) := by
  unfold Wy_sneaks_73_L32 at h
  refine g_ior (pc := 73) dX10_sneaks_73 ?_
  refine g_istore (ls1 := [some (.ref 37), none, some (.int v2), some (.int v3), some (.int (s0 ||| s1)), some (.int v5), some (.int v6)]) (pc := 74) dX10_sneaks_74 (by decide) rfl ?_
  refine g_iinc (v := v6 + 1) (ls1 := [some (.ref 37), none, some (.int v2), some (.int v3), some (.int (s0 ||| s1)), some (.int v5), some (.int (v6 + 1))]) (pc := 76) dX10_sneaks_76 rfl rfl (by decide) rfl ?_
  refine g_goto (tgt := 32) (pc := 79) dX10_sneaks_79 (by decide) ?_
  cases h
  exact hK
def Wy_sneaks_L32 (v2 : Int32) (v3 : Int32) (v5 : Int32) (S : Sm) (q : Int32 × Int32) : Option ((Int32 × Int32) ⊕ (Int32)) := (if (Nt_mouths S) ≤ q.2 then (some (.inr q.1)) else (if (Dk_holds (q.1 &&& (v3 ^^^ ((-1)))) q.2) = 0 then (Wy_sneaks_73_L32 v2 v3 v5 q.2 q.1 0 S) else (Wy_sneaks_73_L32 v2 v3 v5 q.2 q.1 (atF (gi S 39) 8 q.2) S)))
set_option maxRecDepth 4000 in
theorem t_Wy_sneaks_L32 {V : Sm → Wd} (hV : VwC V) {l : Launch} {Γ : Gm} {rF : Option Value} {wF : Wd} {v2 : Int32} {v3 : Int32} {v5 : Int32} {S : Sm} {q : Int32 × Int32} {o : (Int32 × Int32) ⊕ (Int32)} (h : Wy_sneaks_L32 v2 v3 v5 S q = some o) (hK : Sum.elim (hd_Wy_sneaks_L32 V l Γ rF wF v2 v3 v5 S) (ps_Wy_sneaks_L32 V l Γ rF wF v2 v3 v5 S) o) : hd_Wy_sneaks_L32 V l Γ rF wF v2 v3 v5 S q := by
  unfold Wy_sneaks_L32 at h
  unfold hd_Wy_sneaks_L32
  refine g_iload (pc := 32) dX10_sneaks_32 rfl ?_
  refine g_aload_n (pc := 34) dX10_sneaks_34 rfl ?_
  refine v_getR hV (pc := 35) dX10_sneaks_35 fo_10_0 rfl k0_37 r0_37_0 ?_
  refine v_callVi hV (Mc := mX5_mouths) (v := Nt_mouths S) (S1 := S) (As := []) (rest := [.int q.2]) (q := (RX5, TX5, 3)) (pc := 38) dX10_sneaks_38 mK_X10_89 mf_X5_mouths rfl k0_10 rfl rfl rfl (Nat.le_of_ble_eq_true rfl) ⟨Nat.le_of_ble_eq_true rfl, Nat.le_of_ble_eq_true rfl⟩ (r_Nt_mouths hV rfl) ?_
  refine g_icmp_ge (tgt := 82) (pc := 41) dX10_sneaks_41 (by decide) (fun c2 => ?_) (fun c2 => ?_)
  · rw [if_pos c2] at h
    refine g_wk [true, false, true, true, true, true, false] rfl ?_
    cases h
    exact hK
  · rw [if_neg c2] at h
    refine g_iload (pc := 44) dX10_sneaks_44 rfl ?_
    refine g_iload (pc := 46) dX10_sneaks_46 rfl ?_
    refine g_iload_n (pc := 48) dX10_sneaks_48 rfl ?_
    refine g_iconst (v := (-1)) (pc := 49) dX10_sneaks_49 (by decide) ?_
    refine g_ixor (pc := 50) dX10_sneaks_50 ?_
    refine g_iand (pc := 51) dX10_sneaks_51 ?_
    refine g_iload (pc := 52) dX10_sneaks_52 rfl ?_
    refine v_callNi (Mc := mX11_holds) (v := Dk_holds (q.1 &&& (v3 ^^^ ((-1)))) q.2) (S1 := S) (As := [.int (q.1 &&& (v3 ^^^ ((-1)))), .int q.2]) (rest := [.int q.1]) (pc := 54) dX10_sneaks_54 nl_X10_76 mf_X11_holds rfl rfl (Nat.le_of_ble_eq_true rfl) ⟨Nat.le_of_ble_eq_true rfl, Nat.le_of_ble_eq_true rfl⟩ (r_Dk_holds hV rfl) ?_
    refine g_if_eq (tgt := 72) (pc := 57) dX10_sneaks_57 (by decide) (fun c1 => ?_) (fun c1 => ?_)
    · rw [if_pos c1] at h
      refine g_iconst (v := 0) (pc := 72) dX10_sneaks_72 (by decide) ?_
      refine g_wk [true, false, true, true, false, true, true] rfl ?_
      exact t_Wy_sneaks_73_L32 hV h hK
    · rw [if_neg c1] at h
      refine g_aload_n (pc := 60) dX10_sneaks_60 rfl ?_
      refine v_getR hV (pc := 61) dX10_sneaks_61 fo_10_4 rfl k0_37 r0_37_4 ?_
      refine g_iload (pc := 64) dX10_sneaks_64 rfl ?_
      refine v_callNi (Mc := mX11_at) (v := atF (gi S 39) 8 q.2) (S1 := S) (As := [.ref 39, .int q.2]) (rest := [.int q.1]) (pc := 66) dX10_sneaks_66 nl_X10_116 mf_X11_at rfl rfl (Nat.le_of_ble_eq_true rfl) ⟨Nat.le_of_ble_eq_true rfl, Nat.le_of_ble_eq_true rfl⟩ (r_at hV k0_39 own_39 (by decide)) ?_
      refine g_goto (tgt := 73) (pc := 69) dX10_sneaks_69 (by decide) ?_
      refine g_wk [true, false, true, true, false, true, true] rfl ?_
      exact t_Wy_sneaks_73_L32 hV h hK
set_option maxRecDepth 4000 in
theorem w_Wy_sneaks_L32 {V : Sm → Wd} (hV : VwC V) {l : Launch} {Γ : Gm} {rF : Option Value} {wF : Wd} {v2 : Int32} {v3 : Int32} {v5 : Int32} {S : Sm} {k : Nat} {q : Int32 × Int32} {o : Int32} (h : lpN (Wy_sneaks_L32 v2 v3 v5 S) k q = some o) (hP : ps_Wy_sneaks_L32 V l Γ rF wF v2 v3 v5 S o) : hd_Wy_sneaks_L32 V l Γ rF wF v2 v3 v5 S q := lpN_ind2 (hd_Wy_sneaks_L32 V l Γ rF wF v2 v3 v5 S) (ps_Wy_sneaks_L32 V l Γ rF wF v2 v3 v5 S) (fun s o h hK => t_Wy_sneaks_L32 hV h hK) k q o h hP
def Wy_sneaks_L13 (v2 : Int32) (v3 : Int32) (S : Sm) (q : Int32 × Int32) : Option ((Int32 × Int32) ⊕ (Int32)) := (if (8 : Int32) ≤ q.2 then (some (.inr q.1)) else (if (Dk_holds q.1 v2) = 0 then ((lpN (Wy_sneaks_L32 v2 v3 q.2 S) FU (q.1, 0)).bind fun q3 => (some (.inl (q3, q.2 + 1)))) else (some (.inr q.1))))
set_option maxRecDepth 4000 in
theorem t_Wy_sneaks_L13 {V : Sm → Wd} (hV : VwC V) {l : Launch} {Γ : Gm} {rF : Option Value} {wF : Wd} {v2 : Int32} {v3 : Int32} {S : Sm} {q : Int32 × Int32} {o : (Int32 × Int32) ⊕ (Int32)} (h : Wy_sneaks_L13 v2 v3 S q = some o) (hK : Sum.elim (hd_Wy_sneaks_L13 V l Γ rF wF v2 v3 S) (ps_Wy_sneaks_L13 V l Γ rF wF v2 v3 S) o) : hd_Wy_sneaks_L13 V l Γ rF wF v2 v3 S q := by
  unfold Wy_sneaks_L13 at h
  unfold hd_Wy_sneaks_L13
  refine g_iload (pc := 13) dX10_sneaks_13 rfl ?_
  refine g_bipush (v := 8) (pc := 15) dX10_sneaks_15 (by decide) ?_
  refine g_icmp_ge (tgt := 88) (pc := 17) dX10_sneaks_17 (by decide) (fun c5 => ?_) (fun c5 => ?_)
  · rw [if_pos c5] at h
    refine g_wk [false, false, true, false, true, false, false] rfl ?_
    cases h
    exact hK
  · rw [if_neg c5] at h
    refine g_iload (pc := 20) dX10_sneaks_20 rfl ?_
    refine g_iload_n (pc := 22) dX10_sneaks_22 rfl ?_
    refine v_callNi (Mc := mX11_holds) (v := Dk_holds q.1 v2) (S1 := S) (As := [.int q.1, .int v2]) (rest := []) (pc := 23) dX10_sneaks_23 nl_X10_76 mf_X11_holds rfl rfl (Nat.le_of_ble_eq_true rfl) ⟨Nat.le_of_ble_eq_true rfl, Nat.le_of_ble_eq_true rfl⟩ (r_Dk_holds hV rfl) ?_
    refine g_if_ne (tgt := 88) (pc := 26) dX10_sneaks_26 (by decide) (fun c4 => ?_) (fun c4 => ?_)
    · rw [if_neg c4] at h
      refine g_wk [false, false, true, false, true, false, false] rfl ?_
      cases h
      exact hK
    · rw [if_pos c4] at h
      refine g_iconst (v := 0) (pc := 29) dX10_sneaks_29 (by decide) ?_
      refine g_istore (ls1 := [some (.ref 37), none, some (.int v2), some (.int v3), some (.int q.1), some (.int q.2), some (.int 0)]) (pc := 30) dX10_sneaks_30 (by decide) rfl ?_
      obtain ⟨q3, hqq3, h⟩ := bnd h
      refine w_Wy_sneaks_L32 hV hqq3 ?_
      unfold ps_Wy_sneaks_L32
      show G _ _ _ _ _ _ _ _ _ _ _
      refine g_iinc (v := q.2 + 1) (ls1 := [some (.ref 37), none, some (.int v2), some (.int v3), some (.int q3), some (.int (q.2 + 1)), none]) (pc := 82) dX10_sneaks_82 rfl rfl (by decide) rfl ?_
      refine g_goto (tgt := 13) (pc := 85) dX10_sneaks_85 (by decide) ?_
      cases h
      exact hK
set_option maxRecDepth 4000 in
theorem w_Wy_sneaks_L13 {V : Sm → Wd} (hV : VwC V) {l : Launch} {Γ : Gm} {rF : Option Value} {wF : Wd} {v2 : Int32} {v3 : Int32} {S : Sm} {k : Nat} {q : Int32 × Int32} {o : Int32} (h : lpN (Wy_sneaks_L13 v2 v3 S) k q = some o) (hP : ps_Wy_sneaks_L13 V l Γ rF wF v2 v3 S o) : hd_Wy_sneaks_L13 V l Γ rF wF v2 v3 S q := lpN_ind2 (hd_Wy_sneaks_L13 V l Γ rF wF v2 v3 S) (ps_Wy_sneaks_L13 V l Γ rF wF v2 v3 S) (fun s o h hK => t_Wy_sneaks_L13 hV h hK) k q o h hP
def Wy_sneaks (v1 : Int32) (v2 : Int32) (v3 : Int32) (S : Sm) : Option (Int32) := ((lpN (Wy_sneaks_L13 v2 v3 S) FU (atF (gi S 39) 8 v1, 0)).bind fun q6 => (some ((Dk_holds q6 v2) &&& 1)))
set_option maxRecDepth 4000 in
theorem r_Wy_sneaks {V : Sm → Wd} (hV : VwC V) {v1 : Int32} {v2 : Int32} {v3 : Int32} {S : Sm} {q : Int32} (h : Wy_sneaks v1 v2 v3 S = some q) : Runs 2 mX10_sneaks [.ref 37, .int v1, .int v2, .int v3] (V S) (some (.int q)) (V S) 0 0 := by
  unfold Wy_sneaks at h
  refine Runs.of2 [some (.ref 37), some (.int v1), some (.int v2), some (.int v3), none, none, none] 3 rfl rfl (Nat.le_of_ble_eq_true rfl) (fun l Γ => ?_)
  refine g_aload_n (pc := 0) dX10_sneaks_0 rfl ?_
  refine v_getR hV (pc := 1) dX10_sneaks_1 fo_10_4 rfl k0_37 r0_37_4 ?_
  refine g_iload_n (pc := 4) dX10_sneaks_4 rfl ?_
  refine v_callNi (Mc := mX11_at) (v := atF (gi S 39) 8 v1) (S1 := S) (As := [.ref 39, .int v1]) (rest := []) (pc := 5) dX10_sneaks_5 nl_X10_116 mf_X11_at rfl rfl (Nat.le_of_ble_eq_true rfl) ⟨Nat.le_of_ble_eq_true rfl, Nat.le_of_ble_eq_true rfl⟩ (r_at hV k0_39 own_39 (by decide)) ?_
  refine g_istore (ls1 := [some (.ref 37), some (.int v1), some (.int v2), some (.int v3), some (.int (atF (gi S 39) 8 v1)), none, none]) (pc := 8) dX10_sneaks_8 (by decide) rfl ?_
  refine g_iconst (v := 0) (pc := 10) dX10_sneaks_10 (by decide) ?_
  refine g_istore (ls1 := [some (.ref 37), some (.int v1), some (.int v2), some (.int v3), some (.int (atF (gi S 39) 8 v1)), some (.int 0), none]) (pc := 11) dX10_sneaks_11 (by decide) rfl ?_
  refine g_wk [true, false, true, true, true, true, false] rfl ?_
  obtain ⟨q6, hqq6, h⟩ := bnd h
  refine w_Wy_sneaks_L13 hV hqq6 ?_
  unfold ps_Wy_sneaks_L13
  show G _ _ _ _ _ _ _ _ _ _ _
  refine g_iload (pc := 88) dX10_sneaks_88 rfl ?_
  refine g_iload_n (pc := 90) dX10_sneaks_90 rfl ?_
  refine v_callNi (Mc := mX11_holds) (v := Dk_holds q6 v2) (S1 := S) (As := [.int q6, .int v2]) (rest := []) (pc := 91) dX10_sneaks_91 nl_X10_76 mf_X11_holds rfl rfl (Nat.le_of_ble_eq_true rfl) ⟨Nat.le_of_ble_eq_true rfl, Nat.le_of_ble_eq_true rfl⟩ (r_Dk_holds hV rfl) ?_
  cases h
  exact g_iret (pc := 94) dX10_sneaks_94 rfl rfl (Nat.le_refl _) (Nat.le_refl _)
def hd_Wy_fewestPosts_L21 (V : Sm → Wd) (l : Launch) (Γ : Gm) (rF : Option Value) (wF : Wd) (v1 : Int32) (v2 : Int32) (v3 : Int32) (v4 : Int32) (S : Sm) (q : Int32) : Prop := G mX10_fewestPosts l Γ (rmD 5 0 0) (mQ Γ rF wF 0 0) 0 0 21 [some (.ref 37), some (.int v1), some (.int v2), some (.int v3), some (.int v4), some (.int q), none] [] (V S)
def ps_Wy_fewestPosts_L21 (V : Sm → Wd) (l : Launch) (Γ : Gm) (rF : Option Value) (wF : Wd) (v1 : Int32) (v2 : Int32) (v3 : Int32) (v4 : Int32) (S : Sm) (x : (Int32) ⊕ (Unit)) : Prop := (Sum.elim (fun (a : Int32) => G mX10_fewestPosts l Γ (rmD 5 0 0) (mQ Γ rF wF 0 0) 0 0 81 [none, none, none, none, none, none, some (.int a)] [] (V S)) (fun (a : Unit) => G mX10_fewestPosts l Γ (rmD 5 0 0) (mQ Γ rF wF 0 0) 0 0 96 [none, none, none, none, none, none, none] [] (V S))) x
def hd_Wy_fewestPosts_L36 (V : Sm → Wd) (l : Launch) (Γ : Gm) (rF : Option Value) (wF : Wd) (v1 : Int32) (v2 : Int32) (v3 : Int32) (v4 : Int32) (v5 : Int32) (S : Sm) (q : Int32) : Prop := G mX10_fewestPosts l Γ (rmD 5 0 0) (mQ Γ rF wF 0 0) 0 0 36 [some (.ref 37), some (.int v1), some (.int v2), some (.int v3), some (.int v4), some (.int v5), some (.int q)] [] (V S)
def ps_Wy_fewestPosts_L36 (V : Sm → Wd) (l : Launch) (Γ : Gm) (rF : Option Value) (wF : Wd) (v1 : Int32) (v2 : Int32) (v3 : Int32) (v4 : Int32) (v5 : Int32) (S : Sm) (x : (Int32) ⊕ (Unit)) : Prop := (Sum.elim (fun (a : Int32) => G mX10_fewestPosts l Γ (rmD 5 0 0) (mQ Γ rF wF 0 0) 0 0 81 [none, none, none, none, none, none, some (.int a)] [] (V S)) (fun (a : Unit) => G mX10_fewestPosts l Γ (rmD 5 0 0) (mQ Γ rF wF 0 0) 0 0 90 [some (.ref 37), some (.int v1), some (.int v2), some (.int v3), some (.int v4), some (.int v5), none] [] (V S))) x
def Wy_fewestPosts_84_L36 (v1 : Int32) (v2 : Int32) (v3 : Int32) (v4 : Int32) (v5 : Int32) (v6 : Int32) (S : Sm) : Option ((Int32) ⊕ ((Int32) ⊕ (Unit))) := (some (.inl (v6 + 1)))
set_option maxRecDepth 4000 in
theorem t_Wy_fewestPosts_84_L36 {V : Sm → Wd} (hV : VwC V) {l : Launch} {Γ : Gm} {v1 : Int32} {v2 : Int32} {v3 : Int32} {v4 : Int32} {v5 : Int32} {v6 : Int32} {rF : Option Value} {wF : Wd} {S : Sm} {o : (Int32) ⊕ ((Int32) ⊕ (Unit))} (h : Wy_fewestPosts_84_L36 v1 v2 v3 v4 v5 v6 S = some o) (hK : Sum.elim (hd_Wy_fewestPosts_L36 V l Γ rF wF v1 v2 v3 v4 v5 S) (ps_Wy_fewestPosts_L36 V l Γ rF wF v1 v2 v3 v4 v5 S) o) : G mX10_fewestPosts l Γ (rmD 5 0 0) (mQ Γ rF wF 0 0) 0 0 84 [some (.ref 37), some (.int v1), some (.int v2), some (.int v3), some (.int v4), some (.int v5), some (.int v6)] [] (V S) := by
  unfold Wy_fewestPosts_84_L36 at h
  refine g_iinc (v := v6 + 1) (ls1 := [some (.ref 37), some (.int v1), some (.int v2), some (.int v3), some (.int v4), some (.int v5), some (.int (v6 + 1))]) (pc := 84) dX10_fewestPosts_84 rfl rfl (by decide) rfl ?_
  refine g_goto (tgt := 36) (pc := 87) dX10_fewestPosts_87 (by decide) ?_
  cases h
  exact hK
def Wy_fewestPosts_L36 (v1 : Int32) (v2 : Int32) (v3 : Int32) (v4 : Int32) (v5 : Int32) (S : Sm) (q : Int32) : Option ((Int32) ⊕ ((Int32) ⊕ (Unit))) := (if (iShl 1 (Nt_mouths S)) ≤ q then (some (.inr (.inr ()))) else (if (Jm_bitCount_0f7a4 q) = v5 then (if (q &&& v4) = 0 then ((Wy_sneaks v1 v2 (v3 ||| q) S).bind fun q3 => (if q3 = 0 then (some (.inr (.inl q))) else (Wy_fewestPosts_84_L36 v1 v2 v3 v4 v5 q S))) else (Wy_fewestPosts_84_L36 v1 v2 v3 v4 v5 q S)) else (Wy_fewestPosts_84_L36 v1 v2 v3 v4 v5 q S)))
set_option maxRecDepth 4000 in
theorem t_Wy_fewestPosts_L36 {V : Sm → Wd} (hV : VwC V) {l : Launch} {Γ : Gm} {rF : Option Value} {wF : Wd} {v1 : Int32} {v2 : Int32} {v3 : Int32} {v4 : Int32} {v5 : Int32} {S : Sm} {q : Int32} {o : (Int32) ⊕ ((Int32) ⊕ (Unit))} (h : Wy_fewestPosts_L36 v1 v2 v3 v4 v5 S q = some o) (hK : Sum.elim (hd_Wy_fewestPosts_L36 V l Γ rF wF v1 v2 v3 v4 v5 S) (ps_Wy_fewestPosts_L36 V l Γ rF wF v1 v2 v3 v4 v5 S) o) : hd_Wy_fewestPosts_L36 V l Γ rF wF v1 v2 v3 v4 v5 S q := by
  unfold Wy_fewestPosts_L36 at h
  unfold hd_Wy_fewestPosts_L36
  refine g_iload (pc := 36) dX10_fewestPosts_36 rfl ?_
  refine g_iconst (v := 1) (pc := 38) dX10_fewestPosts_38 (by decide) ?_
  refine g_aload_n (pc := 39) dX10_fewestPosts_39 rfl ?_
  refine v_getR hV (pc := 40) dX10_fewestPosts_40 fo_10_0 rfl k0_37 r0_37_0 ?_
  refine v_callVi hV (Mc := mX5_mouths) (v := Nt_mouths S) (S1 := S) (As := []) (rest := [.int 1, .int q]) (q := (RX5, TX5, 3)) (pc := 43) dX10_fewestPosts_43 mK_X10_89 mf_X5_mouths rfl k0_10 rfl rfl rfl (Nat.le_of_ble_eq_true rfl) ⟨Nat.le_of_ble_eq_true rfl, Nat.le_of_ble_eq_true rfl⟩ (r_Nt_mouths hV rfl) ?_
  refine g_ishl (pc := 46) dX10_fewestPosts_46 ?_
  refine g_icmp_ge (tgt := 90) (pc := 47) dX10_fewestPosts_47 (by decide) (fun c7 => ?_) (fun c7 => ?_)
  · rw [if_pos c7] at h
    refine g_wk [true, true, true, true, true, true, false] rfl ?_
    cases h
    exact hK
  · rw [if_neg c7] at h
    refine g_iload (pc := 50) dX10_fewestPosts_50 rfl ?_
    refine v_callSi (Mc := mJ6_bitCount_0f7a4) (v := Jm_bitCount_0f7a4 q) (S1 := S) (As := [.int q]) (rest := []) (pc := 52) dX10_fewestPosts_52 mK_X10_95 mf_J6_bitCount_0f7a4 rfl rfl (Nat.le_of_ble_eq_true rfl) ⟨Nat.le_of_ble_eq_true rfl, Nat.le_of_ble_eq_true rfl⟩ (r_Jm_bitCount_0f7a4 rfl) ?_
    refine g_iload (pc := 55) dX10_fewestPosts_55 rfl ?_
    refine g_icmp_ne (tgt := 84) (pc := 57) dX10_fewestPosts_57 (by decide) (fun c6 => ?_) (fun c6 => ?_)
    · rw [if_neg c6] at h
      exact t_Wy_fewestPosts_84_L36 hV h hK
    · rw [if_pos c6] at h
      refine g_iload (pc := 60) dX10_fewestPosts_60 rfl ?_
      refine g_iload (pc := 62) dX10_fewestPosts_62 rfl ?_
      refine g_iand (pc := 64) dX10_fewestPosts_64 ?_
      refine g_if_ne (tgt := 84) (pc := 65) dX10_fewestPosts_65 (by decide) (fun c5 => ?_) (fun c5 => ?_)
      · rw [if_neg c5] at h
        exact t_Wy_fewestPosts_84_L36 hV h hK
      · rw [if_pos c5] at h
        refine g_aload_n (pc := 68) dX10_fewestPosts_68 rfl ?_
        refine g_iload_n (pc := 69) dX10_fewestPosts_69 rfl ?_
        refine g_iload_n (pc := 70) dX10_fewestPosts_70 rfl ?_
        refine g_iload_n (pc := 71) dX10_fewestPosts_71 rfl ?_
        refine g_iload (pc := 72) dX10_fewestPosts_72 rfl ?_
        refine g_ior (pc := 74) dX10_fewestPosts_74 ?_
        obtain ⟨q3, hq3, h⟩ := bnd h
        refine v_callVi hV (Mc := mX10_sneaks) (v := q3) (S1 := S) (As := [.int v1, .int v2, .int (v3 ||| q)]) (rest := []) (q := (RX10, TX10, 5)) (pc := 75) dX10_fewestPosts_75 mK_X10_136 mf_X10_sneaks rfl k0_37 rfl rfl rfl (Nat.le_of_ble_eq_true rfl) ⟨Nat.le_of_ble_eq_true rfl, Nat.le_of_ble_eq_true rfl⟩ (r_Wy_sneaks hV hq3) ?_
        refine g_if_ne (tgt := 84) (pc := 78) dX10_fewestPosts_78 (by decide) (fun c4 => ?_) (fun c4 => ?_)
        · rw [if_neg c4] at h
          exact t_Wy_fewestPosts_84_L36 hV h hK
        · rw [if_pos c4] at h
          refine g_wk [false, false, false, false, false, false, true] rfl ?_
          cases h
          exact hK
set_option maxRecDepth 4000 in
theorem w_Wy_fewestPosts_L36 {V : Sm → Wd} (hV : VwC V) {l : Launch} {Γ : Gm} {rF : Option Value} {wF : Wd} {v1 : Int32} {v2 : Int32} {v3 : Int32} {v4 : Int32} {v5 : Int32} {S : Sm} {k : Nat} {q : Int32} {o : (Int32) ⊕ (Unit)} (h : lpN (Wy_fewestPosts_L36 v1 v2 v3 v4 v5 S) k q = some o) (hP : ps_Wy_fewestPosts_L36 V l Γ rF wF v1 v2 v3 v4 v5 S o) : hd_Wy_fewestPosts_L36 V l Γ rF wF v1 v2 v3 v4 v5 S q := lpN_ind2 (hd_Wy_fewestPosts_L36 V l Γ rF wF v1 v2 v3 v4 v5 S) (ps_Wy_fewestPosts_L36 V l Γ rF wF v1 v2 v3 v4 v5 S) (fun s o h hK => t_Wy_fewestPosts_L36 hV h hK) k q o h hP
def Wy_fewestPosts_L21 (v1 : Int32) (v2 : Int32) (v3 : Int32) (v4 : Int32) (S : Sm) (q : Int32) : Option ((Int32) ⊕ ((Int32) ⊕ (Unit))) := (if (Nt_mouths S) < q then (some (.inr (.inr ()))) else ((lpN (Wy_fewestPosts_L36 v1 v2 v3 v4 q S) FU 0).bind fun q8 => (Sum.elim (fun a9 => (some (.inr (.inl a9)))) (fun a10 => (some (.inl (q + 1)))) q8)))
set_option maxRecDepth 4000 in
theorem t_Wy_fewestPosts_L21 {V : Sm → Wd} (hV : VwC V) {l : Launch} {Γ : Gm} {rF : Option Value} {wF : Wd} {v1 : Int32} {v2 : Int32} {v3 : Int32} {v4 : Int32} {S : Sm} {q : Int32} {o : (Int32) ⊕ ((Int32) ⊕ (Unit))} (h : Wy_fewestPosts_L21 v1 v2 v3 v4 S q = some o) (hK : Sum.elim (hd_Wy_fewestPosts_L21 V l Γ rF wF v1 v2 v3 v4 S) (ps_Wy_fewestPosts_L21 V l Γ rF wF v1 v2 v3 v4 S) o) : hd_Wy_fewestPosts_L21 V l Γ rF wF v1 v2 v3 v4 S q := by
  unfold Wy_fewestPosts_L21 at h
  unfold hd_Wy_fewestPosts_L21
  refine g_iload (pc := 21) dX10_fewestPosts_21 rfl ?_
  refine g_aload_n (pc := 23) dX10_fewestPosts_23 rfl ?_
  refine v_getR hV (pc := 24) dX10_fewestPosts_24 fo_10_0 rfl k0_37 r0_37_0 ?_
  refine v_callVi hV (Mc := mX5_mouths) (v := Nt_mouths S) (S1 := S) (As := []) (rest := [.int q]) (q := (RX5, TX5, 3)) (pc := 27) dX10_fewestPosts_27 mK_X10_89 mf_X5_mouths rfl k0_10 rfl rfl rfl (Nat.le_of_ble_eq_true rfl) ⟨Nat.le_of_ble_eq_true rfl, Nat.le_of_ble_eq_true rfl⟩ (r_Nt_mouths hV rfl) ?_
  refine g_icmp_gt (tgt := 96) (pc := 30) dX10_fewestPosts_30 (by decide) (fun c11 => ?_) (fun c11 => ?_)
  · rw [if_pos c11] at h
    refine g_wk [false, false, false, false, false, false, false] rfl ?_
    cases h
    exact hK
  · rw [if_neg c11] at h
    refine g_iconst (v := 0) (pc := 33) dX10_fewestPosts_33 (by decide) ?_
    refine g_istore (ls1 := [some (.ref 37), some (.int v1), some (.int v2), some (.int v3), some (.int v4), some (.int q), some (.int 0)]) (pc := 34) dX10_fewestPosts_34 (by decide) rfl ?_
    obtain ⟨q8, hqq8, h⟩ := bnd h
    refine w_Wy_fewestPosts_L36 hV hqq8 ?_
    unfold ps_Wy_fewestPosts_L36
    cases q8 with
    | inl a9 =>
      simp only [Sum.elim_inl] at h
      show G _ _ _ _ _ _ _ _ _ _ _
      cases h
      exact hK
    | inr a10 =>
      simp only [Sum.elim_inr] at h
      show G _ _ _ _ _ _ _ _ _ _ _
      refine g_iinc (v := q + 1) (ls1 := [some (.ref 37), some (.int v1), some (.int v2), some (.int v3), some (.int v4), some (.int (q + 1)), none]) (pc := 90) dX10_fewestPosts_90 rfl rfl (by decide) rfl ?_
      refine g_goto (tgt := 21) (pc := 93) dX10_fewestPosts_93 (by decide) ?_
      cases h
      exact hK
set_option maxRecDepth 4000 in
theorem w_Wy_fewestPosts_L21 {V : Sm → Wd} (hV : VwC V) {l : Launch} {Γ : Gm} {rF : Option Value} {wF : Wd} {v1 : Int32} {v2 : Int32} {v3 : Int32} {v4 : Int32} {S : Sm} {k : Nat} {q : Int32} {o : (Int32) ⊕ (Unit)} (h : lpN (Wy_fewestPosts_L21 v1 v2 v3 v4 S) k q = some o) (hP : ps_Wy_fewestPosts_L21 V l Γ rF wF v1 v2 v3 v4 S o) : hd_Wy_fewestPosts_L21 V l Γ rF wF v1 v2 v3 v4 S q := lpN_ind2 (hd_Wy_fewestPosts_L21 V l Γ rF wF v1 v2 v3 v4 S) (ps_Wy_fewestPosts_L21 V l Γ rF wF v1 v2 v3 v4 S) (fun s o h hK => t_Wy_fewestPosts_L21 hV h hK) k q o h hP
def Wy_fewestPosts (v1 : Int32) (v2 : Int32) (S : Sm) : Option (Int32 × Sm) := ((Wy_guarded S).bind fun q1 => ((Wy_fillNexts S).bind fun q2 => ((lpN (Wy_fewestPosts_L21 v1 v2 q1 ((iShl 1 v1) ||| (iShl 1 v2)) q2) FU 0).bind fun q12 => (Sum.elim (fun a13 => (some ((a13, q2)))) (fun a14 => (some (((-1), q2)))) q12))))
set_option maxRecDepth 4000 in
theorem r_Wy_fewestPosts {V : Sm → Wd} (hV : VwC V) {v1 : Int32} {v2 : Int32} {S : Sm} {q : Int32 × Sm} (h : Wy_fewestPosts v1 v2 S = some q) : Runs 5 mX10_fewestPosts [.ref 37, .int v1, .int v2] (V S) (some (.int q.1)) (V q.2) 0 0 := by
  unfold Wy_fewestPosts at h
  refine Runs.of2 [some (.ref 37), some (.int v1), some (.int v2), none, none, none, none] 4 rfl rfl (Nat.le_of_ble_eq_true rfl) (fun l Γ => ?_)
  refine g_aload_n (pc := 0) dX10_fewestPosts_0 rfl ?_
  obtain ⟨q1, hq1, h⟩ := bnd h
  refine v_callVi hV (Mc := mX10_guarded) (v := q1) (S1 := S) (As := []) (rest := []) (q := (RX10, TX10, 5)) (pc := 1) dX10_fewestPosts_1 mK_X10_130 mf_X10_guarded rfl k0_37 rfl rfl rfl (Nat.le_of_ble_eq_true rfl) ⟨Nat.le_of_ble_eq_true rfl, Nat.le_of_ble_eq_true rfl⟩ (r_Wy_guarded hV hq1) ?_
  refine g_istore_n (ls1 := [some (.ref 37), some (.int v1), some (.int v2), some (.int q1), none, none, none]) (pc := 4) dX10_fewestPosts_4 (by decide) rfl ?_
  refine g_iconst (v := 1) (pc := 5) dX10_fewestPosts_5 (by decide) ?_
  refine g_iload_n (pc := 6) dX10_fewestPosts_6 rfl ?_
  refine g_ishl (pc := 7) dX10_fewestPosts_7 ?_
  refine g_iconst (v := 1) (pc := 8) dX10_fewestPosts_8 (by decide) ?_
  refine g_iload_n (pc := 9) dX10_fewestPosts_9 rfl ?_
  refine g_ishl (pc := 10) dX10_fewestPosts_10 ?_
  refine g_ior (pc := 11) dX10_fewestPosts_11 ?_
  refine g_istore (ls1 := [some (.ref 37), some (.int v1), some (.int v2), some (.int q1), some (.int ((iShl 1 v1) ||| (iShl 1 v2))), none, none]) (pc := 12) dX10_fewestPosts_12 (by decide) rfl ?_
  refine g_aload_n (pc := 14) dX10_fewestPosts_14 rfl ?_
  obtain ⟨q2, hq2, h⟩ := bnd h
  refine v_callVv hV (Mc := mX10_fillNexts) (S1 := q2) (As := []) (rest := []) (q := (RX10, TX10, 5)) (pc := 15) dX10_fewestPosts_15 mK_X10_133 mf_X10_fillNexts rfl k0_37 rfl rfl rfl (Nat.le_of_ble_eq_true rfl) ⟨Nat.le_of_ble_eq_true rfl, Nat.le_of_ble_eq_true rfl⟩ (r_Wy_fillNexts hV hq2) ?_
  refine g_iconst (v := 0) (pc := 18) dX10_fewestPosts_18 (by decide) ?_
  refine g_istore (ls1 := [some (.ref 37), some (.int v1), some (.int v2), some (.int q1), some (.int ((iShl 1 v1) ||| (iShl 1 v2))), some (.int 0), none]) (pc := 19) dX10_fewestPosts_19 (by decide) rfl ?_
  obtain ⟨q12, hqq12, h⟩ := bnd h
  refine w_Wy_fewestPosts_L21 hV hqq12 ?_
  unfold ps_Wy_fewestPosts_L21
  cases q12 with
  | inl a13 =>
    simp only [Sum.elim_inl] at h
    show G _ _ _ _ _ _ _ _ _ _ _
    refine g_iload (pc := 81) dX10_fewestPosts_81 rfl ?_
    cases h
    exact g_iret (pc := 83) dX10_fewestPosts_83 rfl rfl (Nat.le_refl _) (Nat.le_refl _)
  | inr a14 =>
    simp only [Sum.elim_inr] at h
    show G _ _ _ _ _ _ _ _ _ _ _
    refine g_iconst (v := (-1)) (pc := 96) dX10_fewestPosts_96 (by decide) ?_
    cases h
    exact g_iret (pc := 97) dX10_fewestPosts_97 rfl rfl (Nat.le_refl _) (Nat.le_refl _)
def Dk_posts_27 (S : Sm) : Option (Int32 × Sm) := (some (((-1), S)))
set_option maxRecDepth 4000 in
theorem t_Dk_posts_27 {V : Sm → Wd} (hV : VwC V) {l : Launch} {Γ : Gm}  {S : Sm} {q : Int32 × Sm} (h : Dk_posts_27 S = some q) : G mX11_posts l Γ (rmD 6 0 0) (mQ Γ (some (.int q.1)) (V q.2) 0 0) 0 0 27 [none, none, none] [] (V S) := by
  unfold Dk_posts_27 at h
  refine g_iconst (v := (-1)) (pc := 27) dX11_posts_27 (by decide) ?_
  cases h
  exact g_iret (pc := 28) dX11_posts_28 rfl rfl (Nat.le_refl _) (Nat.le_refl _)
def Dk_posts (v1 : Int32) (v2 : Int32) (S : Sm) : Option (Int32 × Sm) := (if (Nt_hasMouth v1 S) = 0 then (Dk_posts_27 S) else (if (Nt_hasMouth v2 S) = 0 then (Dk_posts_27 S) else (if v1 = v2 then (Dk_posts_27 S) else ((Wy_fewestPosts v1 v2 S).bind fun q1 => (some ((q1.1, q1.2)))))))
set_option maxRecDepth 4000 in
theorem r_Dk_posts {V : Sm → Wd} (hV : VwC V) {v1 : Int32} {v2 : Int32} {S : Sm} {q : Int32 × Sm} (h : Dk_posts v1 v2 S = some q) : Runs 6 mX11_posts [.ref 7, .int v1, .int v2] (V S) (some (.int q.1)) (V q.2) 0 0 := by
  unfold Dk_posts at h
  refine Runs.of2 [some (.ref 7), some (.int v1), some (.int v2)] 0 rfl rfl (Nat.le_of_ble_eq_true rfl) (fun l Γ => ?_)
  refine g_aload_n (pc := 0) dX11_posts_0 rfl ?_
  refine v_getR hV (pc := 1) dX11_posts_1 fo_11_1 rfl k0_7 r0_7_1 ?_
  refine g_iload_n (pc := 4) dX11_posts_4 rfl ?_
  refine v_callVi hV (Mc := mX5_hasMouth) (v := Nt_hasMouth v1 S) (S1 := S) (As := [.int v1]) (rest := []) (q := (RX5, TX5, 3)) (pc := 5) dX11_posts_5 mK_X11_140 mf_X5_hasMouth rfl k0_10 rfl rfl rfl (Nat.le_of_ble_eq_true rfl) ⟨Nat.le_of_ble_eq_true rfl, Nat.le_of_ble_eq_true rfl⟩ (r_Nt_hasMouth hV rfl) ?_
  refine g_if_eq (tgt := 27) (pc := 8) dX11_posts_8 (by decide) (fun c4 => ?_) (fun c4 => ?_)
  · rw [if_pos c4] at h
    refine g_wk [false, false, false] rfl ?_
    exact t_Dk_posts_27 hV h
  · rw [if_neg c4] at h
    refine g_aload_n (pc := 11) dX11_posts_11 rfl ?_
    refine v_getR hV (pc := 12) dX11_posts_12 fo_11_1 rfl k0_7 r0_7_1 ?_
    refine g_iload_n (pc := 15) dX11_posts_15 rfl ?_
    refine v_callVi hV (Mc := mX5_hasMouth) (v := Nt_hasMouth v2 S) (S1 := S) (As := [.int v2]) (rest := []) (q := (RX5, TX5, 3)) (pc := 16) dX11_posts_16 mK_X11_140 mf_X5_hasMouth rfl k0_10 rfl rfl rfl (Nat.le_of_ble_eq_true rfl) ⟨Nat.le_of_ble_eq_true rfl, Nat.le_of_ble_eq_true rfl⟩ (r_Nt_hasMouth hV rfl) ?_
    refine g_if_eq (tgt := 27) (pc := 19) dX11_posts_19 (by decide) (fun c3 => ?_) (fun c3 => ?_)
    · rw [if_pos c3] at h
      refine g_wk [false, false, false] rfl ?_
      exact t_Dk_posts_27 hV h
    · rw [if_neg c3] at h
      refine g_iload_n (pc := 22) dX11_posts_22 rfl ?_
      refine g_iload_n (pc := 23) dX11_posts_23 rfl ?_
      refine g_icmp_ne (tgt := 29) (pc := 24) dX11_posts_24 (by decide) (fun c2 => ?_) (fun c2 => ?_)
      · rw [if_neg c2] at h
        refine g_aload_n (pc := 29) dX11_posts_29 rfl ?_
        refine v_getR hV (pc := 30) dX11_posts_30 fo_11_8 rfl k0_7 r0_7_8 ?_
        refine g_iload_n (pc := 33) dX11_posts_33 rfl ?_
        refine g_iload_n (pc := 34) dX11_posts_34 rfl ?_
        obtain ⟨q1, hq1, h⟩ := bnd h
        refine v_callVi hV (Mc := mX10_fewestPosts) (v := q1.1) (S1 := q1.2) (As := [.int v1, .int v2]) (rest := []) (q := (RX10, TX10, 5)) (pc := 35) dX11_posts_35 mK_X11_299 mf_X10_fewestPosts rfl k0_37 rfl rfl rfl (Nat.le_of_ble_eq_true rfl) ⟨Nat.le_of_ble_eq_true rfl, Nat.le_of_ble_eq_true rfl⟩ (r_Wy_fewestPosts hV hq1) ?_
        cases h
        exact g_iret (pc := 38) dX11_posts_38 rfl rfl (Nat.le_refl _) (Nat.le_refl _)
      · rw [if_pos c2] at h
        refine g_wk [false, false, false] rfl ?_
        exact t_Dk_posts_27 hV h
def hd_Wy_pairsBehind_L6 (V : Sm → Wd) (l : Launch) (Γ : Gm) (rF : Option Value) (wF : Wd) (v1 : Int64) (v3 : Int32) (S : Sm) (q : Int64 × Int32) : Prop := G mX10_pairsBehind l Γ (rmD 3 0 0) (mQ Γ rF wF 0 0) 0 0 6 [some (.ref 37), some (.long v1), none, some (.int v3), some (.long q.1), none, some (.int q.2), none, none] [] (V S)
def ps_Wy_pairsBehind_L6 (V : Sm → Wd) (l : Launch) (Γ : Gm) (rF : Option Value) (wF : Wd) (v1 : Int64) (v3 : Int32) (S : Sm) (x : Int64) : Prop := (fun (a : Int64) => G mX10_pairsBehind l Γ (rmD 3 0 0) (mQ Γ rF wF 0 0) 0 0 97 [none, none, none, none, some (.long a), none, none, none, none] [] (V S)) x
def hd_Wy_pairsBehind_L16 (V : Sm → Wd) (l : Launch) (Γ : Gm) (rF : Option Value) (wF : Wd) (v1 : Int64) (v3 : Int32) (v6 : Int32) (S : Sm) (q : Int64 × Int32) : Prop := G mX10_pairsBehind l Γ (rmD 3 0 0) (mQ Γ rF wF 0 0) 0 0 16 [some (.ref 37), some (.long v1), none, some (.int v3), some (.long q.1), none, some (.int v6), some (.int q.2), none] [] (V S)
def ps_Wy_pairsBehind_L16 (V : Sm → Wd) (l : Launch) (Γ : Gm) (rF : Option Value) (wF : Wd) (v1 : Int64) (v3 : Int32) (v6 : Int32) (S : Sm) (x : Int64) : Prop := (fun (a : Int64) => G mX10_pairsBehind l Γ (rmD 3 0 0) (mQ Γ rF wF 0 0) 0 0 91 [some (.ref 37), some (.long v1), none, some (.int v3), some (.long a), none, some (.int v6), none, none] [] (V S)) x
def Wy_pairsBehind_85_L16 (v1 : Int64) (v3 : Int32) (v4 : Int64) (v6 : Int32) (v7 : Int32) (S : Sm) : Option ((Int64 × Int32) ⊕ (Int64)) := (some (.inl (v4, v7 + 1)))
set_option maxRecDepth 4000 in
theorem t_Wy_pairsBehind_85_L16 {V : Sm → Wd} (hV : VwC V) {l : Launch} {Γ : Gm} {v1 : Int64} {v3 : Int32} {v4 : Int64} {v6 : Int32} {v7 : Int32} {rF : Option Value} {wF : Wd} {S : Sm} {o : (Int64 × Int32) ⊕ (Int64)} (h : Wy_pairsBehind_85_L16 v1 v3 v4 v6 v7 S = some o) (hK : Sum.elim (hd_Wy_pairsBehind_L16 V l Γ rF wF v1 v3 v6 S) (ps_Wy_pairsBehind_L16 V l Γ rF wF v1 v3 v6 S) o) : G mX10_pairsBehind l Γ (rmD 3 0 0) (mQ Γ rF wF 0 0) 0 0 85 [some (.ref 37), some (.long v1), none, some (.int v3), some (.long v4), none, some (.int v6), some (.int v7), none] [] (V S) := by
  unfold Wy_pairsBehind_85_L16 at h
  refine g_iinc (v := v7 + 1) (ls1 := [some (.ref 37), some (.long v1), none, some (.int v3), some (.long v4), none, some (.int v6), some (.int (v7 + 1)), none]) (pc := 85) dX10_pairsBehind_85 rfl rfl (by decide) rfl ?_
  refine g_goto (tgt := 16) (pc := 88) dX10_pairsBehind_88 (by decide) ?_
  cases h
  exact hK
def Wy_pairsBehind_L16 (v1 : Int64) (v3 : Int32) (v6 : Int32) (S : Sm) (q : Int64 × Int32) : Option ((Int64 × Int32) ⊕ (Int64)) := (if (Nt_colours S) ≤ q.2 then (some (.inr q.1)) else (if (lg_cmp ((lUsh v1 v6) &&& 1) 1) = 0 then (if (Dk_holds v3 q.2) = 0 then (Wy_pairsBehind_85_L16 v1 v3 q.1 v6 q.2 S) else (Wy_pairsBehind_85_L16 v1 v3 (q.1 ||| (lShl 1 (((Wy_leadsTo (v6 / 8) q.2 S) * 8) + (Wy_leadsTo (iRem v6 8) q.2 S)))) v6 q.2 S)) else (some (.inr q.1))))
set_option maxRecDepth 4000 in
theorem t_Wy_pairsBehind_L16 {V : Sm → Wd} (hV : VwC V) {l : Launch} {Γ : Gm} {rF : Option Value} {wF : Wd} {v1 : Int64} {v3 : Int32} {v6 : Int32} {S : Sm} {q : Int64 × Int32} {o : (Int64 × Int32) ⊕ (Int64)} (h : Wy_pairsBehind_L16 v1 v3 v6 S q = some o) (hK : Sum.elim (hd_Wy_pairsBehind_L16 V l Γ rF wF v1 v3 v6 S) (ps_Wy_pairsBehind_L16 V l Γ rF wF v1 v3 v6 S) o) : hd_Wy_pairsBehind_L16 V l Γ rF wF v1 v3 v6 S q := by
  unfold Wy_pairsBehind_L16 at h
  unfold hd_Wy_pairsBehind_L16
  refine g_iload (pc := 16) dX10_pairsBehind_16 rfl ?_
  refine g_aload_n (pc := 18) dX10_pairsBehind_18 rfl ?_
  refine v_getR hV (pc := 19) dX10_pairsBehind_19 fo_10_0 rfl k0_37 r0_37_0 ?_
  refine v_callVi hV (Mc := mX5_colours) (v := Nt_colours S) (S1 := S) (As := []) (rest := [.int q.2]) (q := (RX5, TX5, 3)) (pc := 22) dX10_pairsBehind_22 mK_X10_80 mf_X5_colours rfl k0_10 rfl rfl rfl (Nat.le_of_ble_eq_true rfl) ⟨Nat.le_of_ble_eq_true rfl, Nat.le_of_ble_eq_true rfl⟩ (r_Nt_colours hV rfl) ?_
  refine g_icmp_ge (tgt := 91) (pc := 25) dX10_pairsBehind_25 (by decide) (fun c3 => ?_) (fun c3 => ?_)
  · rw [if_pos c3] at h
    refine g_wk [true, true, false, true, true, false, true, false, false] rfl ?_
    cases h
    exact hK
  · rw [if_neg c3] at h
    refine g_lload_n (pc := 28) dX10_pairsBehind_28 rfl ?_
    refine g_iload (pc := 29) dX10_pairsBehind_29 rfl ?_
    refine g_lushr (pc := 31) dX10_pairsBehind_31 ?_
    refine g_lconst (v := 1) (pc := 32) dX10_pairsBehind_32 (by decide) ?_
    refine g_land (pc := 33) dX10_pairsBehind_33 ?_
    refine g_lconst (v := 1) (pc := 34) dX10_pairsBehind_34 (by decide) ?_
    refine g_lcmp (pc := 35) dX10_pairsBehind_35 ?_
    refine g_if_ne (tgt := 91) (pc := 36) dX10_pairsBehind_36 (by decide) (fun c2 => ?_) (fun c2 => ?_)
    · rw [if_neg c2] at h
      refine g_wk [true, true, false, true, true, false, true, false, false] rfl ?_
      cases h
      exact hK
    · rw [if_pos c2] at h
      refine g_iload_n (pc := 39) dX10_pairsBehind_39 rfl ?_
      refine g_iload (pc := 40) dX10_pairsBehind_40 rfl ?_
      refine v_callNi (Mc := mX11_holds) (v := Dk_holds v3 q.2) (S1 := S) (As := [.int v3, .int q.2]) (rest := []) (pc := 42) dX10_pairsBehind_42 nl_X10_76 mf_X11_holds rfl rfl (Nat.le_of_ble_eq_true rfl) ⟨Nat.le_of_ble_eq_true rfl, Nat.le_of_ble_eq_true rfl⟩ (r_Dk_holds hV rfl) ?_
      refine g_if_eq (tgt := 85) (pc := 45) dX10_pairsBehind_45 (by decide) (fun c1 => ?_) (fun c1 => ?_)
      · rw [if_pos c1] at h
        exact t_Wy_pairsBehind_85_L16 hV h hK
      · rw [if_neg c1] at h
        refine g_aload_n (pc := 48) dX10_pairsBehind_48 rfl ?_
        refine g_iload (pc := 49) dX10_pairsBehind_49 rfl ?_
        refine g_bipush (v := 8) (pc := 51) dX10_pairsBehind_51 (by decide) ?_
        refine g_idiv (pc := 53) dX10_pairsBehind_53 (by decide) ?_
        refine g_iload (pc := 54) dX10_pairsBehind_54 rfl ?_
        refine v_callVi hV (Mc := mX10_leadsTo) (v := Wy_leadsTo (v6 / 8) q.2 S) (S1 := S) (As := [.int (v6 / 8), .int q.2]) (rest := []) (q := (RX10, TX10, 5)) (pc := 56) dX10_pairsBehind_56 mK_X10_50 mf_X10_leadsTo rfl k0_37 rfl rfl rfl (Nat.le_of_ble_eq_true rfl) ⟨Nat.le_of_ble_eq_true rfl, Nat.le_of_ble_eq_true rfl⟩ (r_Wy_leadsTo hV rfl) ?_
        refine g_istore (ls1 := [some (.ref 37), some (.long v1), none, some (.int v3), some (.long q.1), none, some (.int v6), some (.int q.2), some (.int (Wy_leadsTo (v6 / 8) q.2 S))]) (pc := 59) dX10_pairsBehind_59 (by decide) rfl ?_
        refine g_lload (pc := 61) dX10_pairsBehind_61 rfl ?_
        refine g_lconst (v := 1) (pc := 63) dX10_pairsBehind_63 (by decide) ?_
        refine g_iload (pc := 64) dX10_pairsBehind_64 rfl ?_
        refine g_bipush (v := 8) (pc := 66) dX10_pairsBehind_66 (by decide) ?_
        refine g_imul (pc := 68) dX10_pairsBehind_68 ?_
        refine g_aload_n (pc := 69) dX10_pairsBehind_69 rfl ?_
        refine g_iload (pc := 70) dX10_pairsBehind_70 rfl ?_
        refine g_bipush (v := 8) (pc := 72) dX10_pairsBehind_72 (by decide) ?_
        refine g_irem (pc := 74) dX10_pairsBehind_74 (by decide) ?_
        refine g_iload (pc := 75) dX10_pairsBehind_75 rfl ?_
        refine v_callVi hV (Mc := mX10_leadsTo) (v := Wy_leadsTo (iRem v6 8) q.2 S) (S1 := S) (As := [.int (iRem v6 8), .int q.2]) (rest := [.int ((Wy_leadsTo (v6 / 8) q.2 S) * 8), .long 1, .long q.1]) (q := (RX10, TX10, 5)) (pc := 77) dX10_pairsBehind_77 mK_X10_50 mf_X10_leadsTo rfl k0_37 rfl rfl rfl (Nat.le_of_ble_eq_true rfl) ⟨Nat.le_of_ble_eq_true rfl, Nat.le_of_ble_eq_true rfl⟩ (r_Wy_leadsTo hV rfl) ?_
        refine g_iadd (pc := 80) dX10_pairsBehind_80 ?_
        refine g_lshl (pc := 81) dX10_pairsBehind_81 ?_
        refine g_lor (pc := 82) dX10_pairsBehind_82 ?_
        refine g_lstore (ls1 := [some (.ref 37), some (.long v1), none, some (.int v3), some (.long (q.1 ||| (lShl 1 (((Wy_leadsTo (v6 / 8) q.2 S) * 8) + (Wy_leadsTo (iRem v6 8) q.2 S))))), none, some (.int v6), some (.int q.2), some (.int (Wy_leadsTo (v6 / 8) q.2 S))]) (pc := 83) dX10_pairsBehind_83 (by decide) rfl ?_
        refine g_wk [true, true, false, true, true, false, true, true, false] rfl ?_
        exact t_Wy_pairsBehind_85_L16 hV h hK
set_option maxRecDepth 4000 in
theorem w_Wy_pairsBehind_L16 {V : Sm → Wd} (hV : VwC V) {l : Launch} {Γ : Gm} {rF : Option Value} {wF : Wd} {v1 : Int64} {v3 : Int32} {v6 : Int32} {S : Sm} {k : Nat} {q : Int64 × Int32} {o : Int64} (h : lpN (Wy_pairsBehind_L16 v1 v3 v6 S) k q = some o) (hP : ps_Wy_pairsBehind_L16 V l Γ rF wF v1 v3 v6 S o) : hd_Wy_pairsBehind_L16 V l Γ rF wF v1 v3 v6 S q := lpN_ind2 (hd_Wy_pairsBehind_L16 V l Γ rF wF v1 v3 v6 S) (ps_Wy_pairsBehind_L16 V l Γ rF wF v1 v3 v6 S) (fun s o h hK => t_Wy_pairsBehind_L16 hV h hK) k q o h hP
def Wy_pairsBehind_L6 (v1 : Int64) (v3 : Int32) (S : Sm) (q : Int64 × Int32) : Option ((Int64 × Int32) ⊕ (Int64)) := (if (64 : Int32) ≤ q.2 then (some (.inr q.1)) else ((lpN (Wy_pairsBehind_L16 v1 v3 q.2 S) FU (q.1, 0)).bind fun q4 => (some (.inl (q4, q.2 + 1)))))
set_option maxRecDepth 4000 in
theorem t_Wy_pairsBehind_L6 {V : Sm → Wd} (hV : VwC V) {l : Launch} {Γ : Gm} {rF : Option Value} {wF : Wd} {v1 : Int64} {v3 : Int32} {S : Sm} {q : Int64 × Int32} {o : (Int64 × Int32) ⊕ (Int64)} (h : Wy_pairsBehind_L6 v1 v3 S q = some o) (hK : Sum.elim (hd_Wy_pairsBehind_L6 V l Γ rF wF v1 v3 S) (ps_Wy_pairsBehind_L6 V l Γ rF wF v1 v3 S) o) : hd_Wy_pairsBehind_L6 V l Γ rF wF v1 v3 S q := by
  unfold Wy_pairsBehind_L6 at h
  unfold hd_Wy_pairsBehind_L6
  refine g_iload (pc := 6) dX10_pairsBehind_6 rfl ?_
  refine g_bipush (v := 64) (pc := 8) dX10_pairsBehind_8 (by decide) ?_
  refine g_icmp_ge (tgt := 97) (pc := 10) dX10_pairsBehind_10 (by decide) (fun c5 => ?_) (fun c5 => ?_)
  · rw [if_pos c5] at h
    refine g_wk [false, false, false, false, true, false, false, false, false] rfl ?_
    cases h
    exact hK
  · rw [if_neg c5] at h
    refine g_iconst (v := 0) (pc := 13) dX10_pairsBehind_13 (by decide) ?_
    refine g_istore (ls1 := [some (.ref 37), some (.long v1), none, some (.int v3), some (.long q.1), none, some (.int q.2), some (.int 0), none]) (pc := 14) dX10_pairsBehind_14 (by decide) rfl ?_
    obtain ⟨q4, hqq4, h⟩ := bnd h
    refine w_Wy_pairsBehind_L16 hV hqq4 ?_
    unfold ps_Wy_pairsBehind_L16
    show G _ _ _ _ _ _ _ _ _ _ _
    refine g_iinc (v := q.2 + 1) (ls1 := [some (.ref 37), some (.long v1), none, some (.int v3), some (.long q4), none, some (.int (q.2 + 1)), none, none]) (pc := 91) dX10_pairsBehind_91 rfl rfl (by decide) rfl ?_
    refine g_goto (tgt := 6) (pc := 94) dX10_pairsBehind_94 (by decide) ?_
    cases h
    exact hK
set_option maxRecDepth 4000 in
theorem w_Wy_pairsBehind_L6 {V : Sm → Wd} (hV : VwC V) {l : Launch} {Γ : Gm} {rF : Option Value} {wF : Wd} {v1 : Int64} {v3 : Int32} {S : Sm} {k : Nat} {q : Int64 × Int32} {o : Int64} (h : lpN (Wy_pairsBehind_L6 v1 v3 S) k q = some o) (hP : ps_Wy_pairsBehind_L6 V l Γ rF wF v1 v3 S o) : hd_Wy_pairsBehind_L6 V l Γ rF wF v1 v3 S q := lpN_ind2 (hd_Wy_pairsBehind_L6 V l Γ rF wF v1 v3 S) (ps_Wy_pairsBehind_L6 V l Γ rF wF v1 v3 S) (fun s o h hK => t_Wy_pairsBehind_L6 hV h hK) k q o h hP
def Wy_pairsBehind (v1 : Int64) (v3 : Int32) (S : Sm) : Option (Int64) := ((lpN (Wy_pairsBehind_L6 v1 v3 S) FU (0, 0)).bind fun q6 => (some q6))
set_option maxRecDepth 4000 in
theorem r_Wy_pairsBehind {V : Sm → Wd} (hV : VwC V) {v1 : Int64} {v3 : Int32} {S : Sm} {q : Int64} (h : Wy_pairsBehind v1 v3 S = some q) : Runs 3 mX10_pairsBehind [.ref 37, .long v1, .int v3] (V S) (some (.long q)) (V S) 0 0 := by
  unfold Wy_pairsBehind at h
  refine Runs.of2 [some (.ref 37), some (.long v1), none, some (.int v3), none, none, none, none, none] 5 rfl rfl (Nat.le_of_ble_eq_true rfl) (fun l Γ => ?_)
  refine g_lconst (v := 0) (pc := 0) dX10_pairsBehind_0 (by decide) ?_
  refine g_lstore (ls1 := [some (.ref 37), some (.long v1), none, some (.int v3), some (.long 0), none, none, none, none]) (pc := 1) dX10_pairsBehind_1 (by decide) rfl ?_
  refine g_iconst (v := 0) (pc := 3) dX10_pairsBehind_3 (by decide) ?_
  refine g_istore (ls1 := [some (.ref 37), some (.long v1), none, some (.int v3), some (.long 0), none, some (.int 0), none, none]) (pc := 4) dX10_pairsBehind_4 (by decide) rfl ?_
  obtain ⟨q6, hqq6, h⟩ := bnd h
  refine w_Wy_pairsBehind_L6 hV hqq6 ?_
  unfold ps_Wy_pairsBehind_L6
  show G _ _ _ _ _ _ _ _ _ _ _
  refine g_lload (pc := 97) dX10_pairsBehind_97 rfl ?_
  cases h
  exact g_lret (pc := 99) dX10_pairsBehind_99 rfl (Nat.le_refl _) (Nat.le_refl _)
def hd_Wy_fewestTogether_L17 (V : Sm → Wd) (l : Launch) (Γ : Gm) (rF : Option Value) (wF : Wd) (v3 : Int32) (S : Sm) (q : Int64 × Int64 × Int32) : Prop := G mX10_fewestTogether l Γ (rmD 4 0 0) (mQ Γ rF wF 0 0) 0 0 17 [some (.ref 37), none, none, some (.int v3), some (.long q.1), none, some (.long q.2.1), none, some (.int q.2.2)] [] (V S)
def ps_Wy_fewestTogether_L17 (V : Sm → Wd) (l : Launch) (Γ : Gm) (rF : Option Value) (wF : Wd) (v3 : Int32) (S : Sm) (x : (Int32) ⊕ (Unit)) : Prop := (Sum.elim (fun (a : Int32) => G mX10_fewestTogether l Γ (rmD 4 0 0) (mQ Γ rF wF 0 0) 0 0 42 [none, none, none, none, none, none, none, none, some (.int a)] [] (V S)) (fun (a : Unit) => G mX10_fewestTogether l Γ (rmD 4 0 0) (mQ Γ rF wF 0 0) 0 0 74 [none, none, none, none, none, none, none, none, none] [] (V S))) x
def Wy_fewestTogether_L17 (v3 : Int32) (S : Sm) (q : Int64 × Int64 × Int32) : Option ((Int64 × Int64 × Int32) ⊕ ((Int32) ⊕ (Unit))) := (if (64 : Int32) < q.2.2 then (some (.inr (.inr ()))) else (if (lg_cmp q.1 0) = 0 then (some (.inr (.inr ()))) else (if (lg_cmp (q.1 &&& ((-9205322385119247871))) 0) = 0 then ((Wy_pairsBehind q.1 v3 S).bind fun q1 => (some (.inl (q1 &&& (q.2.1 ^^^ ((-1))), q.2.1 ||| (q1 &&& (q.2.1 ^^^ ((-1)))), q.2.2 + 1)))) else (some (.inr (.inl q.2.2))))))
set_option maxRecDepth 4000 in
theorem t_Wy_fewestTogether_L17 {V : Sm → Wd} (hV : VwC V) {l : Launch} {Γ : Gm} {rF : Option Value} {wF : Wd} {v3 : Int32} {S : Sm} {q : Int64 × Int64 × Int32} {o : (Int64 × Int64 × Int32) ⊕ ((Int32) ⊕ (Unit))} (h : Wy_fewestTogether_L17 v3 S q = some o) (hK : Sum.elim (hd_Wy_fewestTogether_L17 V l Γ rF wF v3 S) (ps_Wy_fewestTogether_L17 V l Γ rF wF v3 S) o) : hd_Wy_fewestTogether_L17 V l Γ rF wF v3 S q := by
  unfold Wy_fewestTogether_L17 at h
  unfold hd_Wy_fewestTogether_L17
  refine g_iload (pc := 17) dX10_fewestTogether_17 rfl ?_
  refine g_bipush (v := 64) (pc := 19) dX10_fewestTogether_19 (by decide) ?_
  refine g_icmp_gt (tgt := 74) (pc := 21) dX10_fewestTogether_21 (by decide) (fun c4 => ?_) (fun c4 => ?_)
  · rw [if_pos c4] at h
    refine g_wk [false, false, false, false, false, false, false, false, false] rfl ?_
    cases h
    exact hK
  · rw [if_neg c4] at h
    refine g_lload (pc := 24) dX10_fewestTogether_24 rfl ?_
    refine g_lconst (v := 0) (pc := 26) dX10_fewestTogether_26 (by decide) ?_
    refine g_lcmp (pc := 27) dX10_fewestTogether_27 ?_
    refine g_if_eq (tgt := 74) (pc := 28) dX10_fewestTogether_28 (by decide) (fun c3 => ?_) (fun c3 => ?_)
    · rw [if_pos c3] at h
      refine g_wk [false, false, false, false, false, false, false, false, false] rfl ?_
      cases h
      exact hK
    · rw [if_neg c3] at h
      refine g_lload (pc := 31) dX10_fewestTogether_31 rfl ?_
      refine g_ldc2 (v := (-9205322385119247871)) (pc := 33) dX10_fewestTogether_33 kL_X10_140 ?_
      refine g_land (pc := 36) dX10_fewestTogether_36 ?_
      refine g_lconst (v := 0) (pc := 37) dX10_fewestTogether_37 (by decide) ?_
      refine g_lcmp (pc := 38) dX10_fewestTogether_38 ?_
      refine g_if_eq (tgt := 45) (pc := 39) dX10_fewestTogether_39 (by decide) (fun c2 => ?_) (fun c2 => ?_)
      · rw [if_pos c2] at h
        refine g_aload_n (pc := 45) dX10_fewestTogether_45 rfl ?_
        refine g_lload (pc := 46) dX10_fewestTogether_46 rfl ?_
        refine g_iload_n (pc := 48) dX10_fewestTogether_48 rfl ?_
        obtain ⟨q1, hq1, h⟩ := bnd h
        refine v_callVl hV (Mc := mX10_pairsBehind) (v := q1) (S1 := S) (As := [.long q.1, .int v3]) (rest := []) (q := (RX10, TX10, 5)) (pc := 49) dX10_fewestTogether_49 mK_X10_142 mf_X10_pairsBehind rfl k0_37 rfl rfl rfl (Nat.le_of_ble_eq_true rfl) ⟨Nat.le_of_ble_eq_true rfl, Nat.le_of_ble_eq_true rfl⟩ (r_Wy_pairsBehind hV hq1) ?_
        refine g_lload (pc := 52) dX10_fewestTogether_52 rfl ?_
        refine g_ldc2 (v := (-1)) (pc := 54) dX10_fewestTogether_54 kL_X10_146 ?_
        refine g_lxor (pc := 57) dX10_fewestTogether_57 ?_
        refine g_land (pc := 58) dX10_fewestTogether_58 ?_
        refine g_lstore (ls1 := [some (.ref 37), none, none, some (.int v3), some (.long (q1 &&& (q.2.1 ^^^ ((-1))))), none, some (.long q.2.1), none, some (.int q.2.2)]) (pc := 59) dX10_fewestTogether_59 (by decide) rfl ?_
        refine g_lload (pc := 61) dX10_fewestTogether_61 rfl ?_
        refine g_lload (pc := 63) dX10_fewestTogether_63 rfl ?_
        refine g_lor (pc := 65) dX10_fewestTogether_65 ?_
        refine g_lstore (ls1 := [some (.ref 37), none, none, some (.int v3), some (.long (q1 &&& (q.2.1 ^^^ ((-1))))), none, some (.long (q.2.1 ||| (q1 &&& (q.2.1 ^^^ ((-1)))))), none, some (.int q.2.2)]) (pc := 66) dX10_fewestTogether_66 (by decide) rfl ?_
        refine g_iinc (v := q.2.2 + 1) (ls1 := [some (.ref 37), none, none, some (.int v3), some (.long (q1 &&& (q.2.1 ^^^ ((-1))))), none, some (.long (q.2.1 ||| (q1 &&& (q.2.1 ^^^ ((-1)))))), none, some (.int (q.2.2 + 1))]) (pc := 68) dX10_fewestTogether_68 rfl rfl (by decide) rfl ?_
        refine g_goto (tgt := 17) (pc := 71) dX10_fewestTogether_71 (by decide) ?_
        cases h
        exact hK
      · rw [if_neg c2] at h
        refine g_wk [false, false, false, false, false, false, false, false, true] rfl ?_
        cases h
        exact hK
set_option maxRecDepth 4000 in
theorem w_Wy_fewestTogether_L17 {V : Sm → Wd} (hV : VwC V) {l : Launch} {Γ : Gm} {rF : Option Value} {wF : Wd} {v3 : Int32} {S : Sm} {k : Nat} {q : Int64 × Int64 × Int32} {o : (Int32) ⊕ (Unit)} (h : lpN (Wy_fewestTogether_L17 v3 S) k q = some o) (hP : ps_Wy_fewestTogether_L17 V l Γ rF wF v3 S o) : hd_Wy_fewestTogether_L17 V l Γ rF wF v3 S q := lpN_ind2 (hd_Wy_fewestTogether_L17 V l Γ rF wF v3 S) (ps_Wy_fewestTogether_L17 V l Γ rF wF v3 S) (fun s o h hK => t_Wy_fewestTogether_L17 hV h hK) k q o h hP
def Wy_fewestTogether (v1 : Int32) (v2 : Int32) (v3 : Int32) (S : Sm) : Option (Int32) := ((lpN (Wy_fewestTogether_L17 v3 S) FU (lShl 1 ((v1 * 8) + v2), lShl 1 ((v1 * 8) + v2), 0)).bind fun q5 => (Sum.elim (fun a6 => (some a6)) (fun a7 => (some ((-1)))) q5))
set_option maxRecDepth 4000 in
theorem r_Wy_fewestTogether {V : Sm → Wd} (hV : VwC V) {v1 : Int32} {v2 : Int32} {v3 : Int32} {S : Sm} {q : Int32} (h : Wy_fewestTogether v1 v2 v3 S = some q) : Runs 4 mX10_fewestTogether [.ref 37, .int v1, .int v2, .int v3] (V S) (some (.int q)) (V S) 0 0 := by
  unfold Wy_fewestTogether at h
  refine Runs.of2 [some (.ref 37), some (.int v1), some (.int v2), some (.int v3), none, none, none, none, none] 5 rfl rfl (Nat.le_of_ble_eq_true rfl) (fun l Γ => ?_)
  refine g_lconst (v := 1) (pc := 0) dX10_fewestTogether_0 (by decide) ?_
  refine g_iload_n (pc := 1) dX10_fewestTogether_1 rfl ?_
  refine g_bipush (v := 8) (pc := 2) dX10_fewestTogether_2 (by decide) ?_
  refine g_imul (pc := 4) dX10_fewestTogether_4 ?_
  refine g_iload_n (pc := 5) dX10_fewestTogether_5 rfl ?_
  refine g_iadd (pc := 6) dX10_fewestTogether_6 ?_
  refine g_lshl (pc := 7) dX10_fewestTogether_7 ?_
  refine g_lstore (ls1 := [some (.ref 37), some (.int v1), some (.int v2), some (.int v3), some (.long (lShl 1 ((v1 * 8) + v2))), none, none, none, none]) (pc := 8) dX10_fewestTogether_8 (by decide) rfl ?_
  refine g_lload (pc := 10) dX10_fewestTogether_10 rfl ?_
  refine g_lstore (ls1 := [some (.ref 37), some (.int v1), some (.int v2), some (.int v3), some (.long (lShl 1 ((v1 * 8) + v2))), none, some (.long (lShl 1 ((v1 * 8) + v2))), none, none]) (pc := 12) dX10_fewestTogether_12 (by decide) rfl ?_
  refine g_iconst (v := 0) (pc := 14) dX10_fewestTogether_14 (by decide) ?_
  refine g_istore (ls1 := [some (.ref 37), some (.int v1), some (.int v2), some (.int v3), some (.long (lShl 1 ((v1 * 8) + v2))), none, some (.long (lShl 1 ((v1 * 8) + v2))), none, some (.int 0)]) (pc := 15) dX10_fewestTogether_15 (by decide) rfl ?_
  refine g_wk [true, false, false, true, true, false, true, false, true] rfl ?_
  obtain ⟨q5, hqq5, h⟩ := bnd h
  refine w_Wy_fewestTogether_L17 hV hqq5 ?_
  unfold ps_Wy_fewestTogether_L17
  cases q5 with
  | inl a6 =>
    simp only [Sum.elim_inl] at h
    show G _ _ _ _ _ _ _ _ _ _ _
    refine g_iload (pc := 42) dX10_fewestTogether_42 rfl ?_
    cases h
    exact g_iret (pc := 44) dX10_fewestTogether_44 rfl rfl (Nat.le_refl _) (Nat.le_refl _)
  | inr a7 =>
    simp only [Sum.elim_inr] at h
    show G _ _ _ _ _ _ _ _ _ _ _
    refine g_iconst (v := (-1)) (pc := 74) dX10_fewestTogether_74 (by decide) ?_
    cases h
    exact g_iret (pc := 75) dX10_fewestTogether_75 rfl rfl (Nat.le_refl _) (Nat.le_refl _)
def Dk_halves_24 (s0 : Int32) (S : Sm) : Option (Int32) := (some s0)
set_option maxRecDepth 4000 in
theorem t_Dk_halves_24 {V : Sm → Wd} (hV : VwC V) {l : Launch} {Γ : Gm} {s0 : Int32} {S : Sm} {q : Int32} (h : Dk_halves_24 s0 S = some q) : G mX11_halves l Γ (rmD 5 0 0) (mQ Γ (some (.int q)) (V S) 0 0) 0 0 24 [none, none, none, none] [.int s0] (V S) := by
  unfold Dk_halves_24 at h
  cases h
  exact g_iret (pc := 24) dX11_halves_24 rfl rfl (Nat.le_refl _) (Nat.le_refl _)
def Dk_halves (v1 : Int32) (v2 : Int32) (v3 : Int32) (S : Sm) : Option (Int32) := (if (Dk_areAsked v1 v2 v3 S) = 0 then (Dk_halves_24 ((-1)) S) else ((Wy_fewestTogether v1 v2 v3 S).bind fun q1 => (Dk_halves_24 q1 S)))
set_option maxRecDepth 4000 in
theorem r_Dk_halves {V : Sm → Wd} (hV : VwC V) {v1 : Int32} {v2 : Int32} {v3 : Int32} {S : Sm} {q : Int32} (h : Dk_halves v1 v2 v3 S = some q) : Runs 5 mX11_halves [.ref 7, .int v1, .int v2, .int v3] (V S) (some (.int q)) (V S) 0 0 := by
  unfold Dk_halves at h
  refine Runs.of2 [some (.ref 7), some (.int v1), some (.int v2), some (.int v3)] 0 rfl rfl (Nat.le_of_ble_eq_true rfl) (fun l Γ => ?_)
  refine g_aload_n (pc := 0) dX11_halves_0 rfl ?_
  refine g_iload_n (pc := 1) dX11_halves_1 rfl ?_
  refine g_iload_n (pc := 2) dX11_halves_2 rfl ?_
  refine g_iload_n (pc := 3) dX11_halves_3 rfl ?_
  refine v_callVi hV (Mc := mX11_areAsked) (v := Dk_areAsked v1 v2 v3 S) (S1 := S) (As := [.int v1, .int v2, .int v3]) (rest := []) (q := (RX11, TX11, 12)) (pc := 4) dX11_halves_4 mK_X11_239 mf_X11_areAsked rfl k0_7 rfl rfl rfl (Nat.le_of_ble_eq_true rfl) ⟨Nat.le_of_ble_eq_true rfl, Nat.le_of_ble_eq_true rfl⟩ (r_Dk_areAsked hV rfl) ?_
  refine g_if_eq (tgt := 23) (pc := 7) dX11_halves_7 (by decide) (fun c2 => ?_) (fun c2 => ?_)
  · rw [if_pos c2] at h
    refine g_iconst (v := (-1)) (pc := 23) dX11_halves_23 (by decide) ?_
    refine g_wk [false, false, false, false] rfl ?_
    exact t_Dk_halves_24 hV h
  · rw [if_neg c2] at h
    refine g_aload_n (pc := 10) dX11_halves_10 rfl ?_
    refine v_getR hV (pc := 11) dX11_halves_11 fo_11_8 rfl k0_7 r0_7_8 ?_
    refine g_iload_n (pc := 14) dX11_halves_14 rfl ?_
    refine g_iload_n (pc := 15) dX11_halves_15 rfl ?_
    refine g_iload_n (pc := 16) dX11_halves_16 rfl ?_
    obtain ⟨q1, hq1, h⟩ := bnd h
    refine v_callVi hV (Mc := mX10_fewestTogether) (v := q1) (S1 := S) (As := [.int v1, .int v2, .int v3]) (rest := []) (q := (RX10, TX10, 5)) (pc := 17) dX11_halves_17 mK_X11_302 mf_X10_fewestTogether rfl k0_37 rfl rfl rfl (Nat.le_of_ble_eq_true rfl) ⟨Nat.le_of_ble_eq_true rfl, Nat.le_of_ble_eq_true rfl⟩ (r_Wy_fewestTogether hV hq1) ?_
    refine g_goto (tgt := 24) (pc := 20) dX11_halves_20 (by decide) ?_
    refine g_wk [false, false, false, false] rfl ?_
    exact t_Dk_halves_24 hV h
def hd_Pl_notMet_L9 (V : Sm → Wd) (l : Launch) (Γ : Gm) (rF : Option Value) (wF : Wd) (v2 : Int32) (v3 : Int32) (v4 : Int32) (S : Sm) (q : Int32 × Int32 × Int32) : Prop := G mX7_notMet l Γ (rmD 3 0 0) (mQ Γ rF wF 0 0) 0 0 9 [some (.ref 47), none, some (.int v2), some (.int v3), some (.int v4), some (.int q.1), some (.int q.2.1), some (.int q.2.2)] [] (V S)
def ps_Pl_notMet_L9 (V : Sm → Wd) (l : Launch) (Γ : Gm) (rF : Option Value) (wF : Wd) (v2 : Int32) (v3 : Int32) (v4 : Int32) (S : Sm) (x : Int32) : Prop := (fun (a : Int32) => G mX7_notMet l Γ (rmD 3 0 0) (mQ Γ rF wF 0 0) 0 0 50 [none, none, none, none, none, none, some (.int a), none] [] (V S)) x
def Pl_notMet_41_L9 (v2 : Int32) (v3 : Int32) (v4 : Int32) (v5 : Int32) (v7 : Int32) (s0 : Int32) (s1 : Int32) (S : Sm) : Option ((Int32 × Int32 × Int32) ⊕ (Int32)) := (some (.inl (v5, s0 + s1, v7 + 1)))
set_option maxRecDepth 4000 in
theorem t_Pl_notMet_41_L9 {V : Sm → Wd} (hV : VwC V) {l : Launch} {Γ : Gm} {v2 : Int32} {v3 : Int32} {v4 : Int32} {v5 : Int32} {v7 : Int32} {s0 : Int32} {s1 : Int32} {rF : Option Value} {wF : Wd} {S : Sm} {o : (Int32 × Int32 × Int32) ⊕ (Int32)} (h : Pl_notMet_41_L9 v2 v3 v4 v5 v7 s0 s1 S = some o) (hK : Sum.elim (hd_Pl_notMet_L9 V l Γ rF wF v2 v3 v4 S) (ps_Pl_notMet_L9 V l Γ rF wF v2 v3 v4 S) o) : G mX7_notMet l Γ (rmD 3 0 0) (mQ Γ rF wF 0 0) 0 0 41 [some (.ref 47), none, some (.int v2), some (.int v3), some (.int v4), some (.int v5), none, some (.int v7)] [.int s1, .int s0] (V S) := by
  unfold Pl_notMet_41_L9 at h
  refine g_iadd (pc := 41) dX7_notMet_41 ?_
  refine g_istore (ls1 := [some (.ref 47), none, some (.int v2), some (.int v3), some (.int v4), some (.int v5), some (.int (s0 + s1)), some (.int v7)]) (pc := 42) dX7_notMet_42 (by decide) rfl ?_
  refine g_iinc (v := v7 + 1) (ls1 := [some (.ref 47), none, some (.int v2), some (.int v3), some (.int v4), some (.int v5), some (.int (s0 + s1)), some (.int (v7 + 1))]) (pc := 44) dX7_notMet_44 rfl rfl (by decide) rfl ?_
  refine g_goto (tgt := 9) (pc := 47) dX7_notMet_47 (by decide) ?_
  cases h
  exact hK
def Pl_notMet_L9 (v2 : Int32) (v3 : Int32) (v4 : Int32) (S : Sm) (q : Int32 × Int32 × Int32) : Option ((Int32 × Int32 × Int32) ⊕ (Int32)) := (if v2 ≤ q.2.2 then (some (.inr q.2.1)) else (if (Wy_leadsTo q.1 v3 S) = v4 then (Pl_notMet_41_L9 v2 v3 v4 (Wy_leadsTo q.1 v3 S) q.2.2 q.2.1 0 S) else (Pl_notMet_41_L9 v2 v3 v4 (Wy_leadsTo q.1 v3 S) q.2.2 q.2.1 1 S)))
set_option maxRecDepth 4000 in
theorem t_Pl_notMet_L9 {V : Sm → Wd} (hV : VwC V) {l : Launch} {Γ : Gm} {rF : Option Value} {wF : Wd} {v2 : Int32} {v3 : Int32} {v4 : Int32} {S : Sm} {q : Int32 × Int32 × Int32} {o : (Int32 × Int32 × Int32) ⊕ (Int32)} (h : Pl_notMet_L9 v2 v3 v4 S q = some o) (hK : Sum.elim (hd_Pl_notMet_L9 V l Γ rF wF v2 v3 v4 S) (ps_Pl_notMet_L9 V l Γ rF wF v2 v3 v4 S) o) : hd_Pl_notMet_L9 V l Γ rF wF v2 v3 v4 S q := by
  unfold Pl_notMet_L9 at h
  unfold hd_Pl_notMet_L9
  refine g_iload (pc := 9) dX7_notMet_9 rfl ?_
  refine g_iload_n (pc := 11) dX7_notMet_11 rfl ?_
  refine g_icmp_ge (tgt := 50) (pc := 12) dX7_notMet_12 (by decide) (fun c2 => ?_) (fun c2 => ?_)
  · rw [if_pos c2] at h
    refine g_wk [false, false, false, false, false, false, true, false] rfl ?_
    cases h
    exact hK
  · rw [if_neg c2] at h
    refine g_aload_n (pc := 15) dX7_notMet_15 rfl ?_
    refine v_getR hV (pc := 16) dX7_notMet_16 fo_7_1 rfl k0_47 r0_47_1 ?_
    refine g_iload (pc := 19) dX7_notMet_19 rfl ?_
    refine g_iload_n (pc := 21) dX7_notMet_21 rfl ?_
    refine v_callVi hV (Mc := mX10_leadsTo) (v := Wy_leadsTo q.1 v3 S) (S1 := S) (As := [.int q.1, .int v3]) (rest := []) (q := (RX10, TX10, 5)) (pc := 22) dX7_notMet_22 mK_X7_77 mf_X10_leadsTo rfl k0_37 rfl rfl rfl (Nat.le_of_ble_eq_true rfl) ⟨Nat.le_of_ble_eq_true rfl, Nat.le_of_ble_eq_true rfl⟩ (r_Wy_leadsTo hV rfl) ?_
    refine g_istore (ls1 := [some (.ref 47), none, some (.int v2), some (.int v3), some (.int v4), some (.int (Wy_leadsTo q.1 v3 S)), some (.int q.2.1), some (.int q.2.2)]) (pc := 25) dX7_notMet_25 (by decide) rfl ?_
    refine g_iload (pc := 27) dX7_notMet_27 rfl ?_
    refine g_iload (pc := 29) dX7_notMet_29 rfl ?_
    refine g_iload (pc := 31) dX7_notMet_31 rfl ?_
    refine g_icmp_eq (tgt := 40) (pc := 33) dX7_notMet_33 (by decide) (fun c1 => ?_) (fun c1 => ?_)
    · rw [if_pos c1] at h
      refine g_iconst (v := 0) (pc := 40) dX7_notMet_40 (by decide) ?_
      refine g_wk [true, false, true, true, true, true, false, true] rfl ?_
      exact t_Pl_notMet_41_L9 hV h hK
    · rw [if_neg c1] at h
      refine g_iconst (v := 1) (pc := 36) dX7_notMet_36 (by decide) ?_
      refine g_goto (tgt := 41) (pc := 37) dX7_notMet_37 (by decide) ?_
      refine g_wk [true, false, true, true, true, true, false, true] rfl ?_
      exact t_Pl_notMet_41_L9 hV h hK
set_option maxRecDepth 4000 in
theorem w_Pl_notMet_L9 {V : Sm → Wd} (hV : VwC V) {l : Launch} {Γ : Gm} {rF : Option Value} {wF : Wd} {v2 : Int32} {v3 : Int32} {v4 : Int32} {S : Sm} {k : Nat} {q : Int32 × Int32 × Int32} {o : Int32} (h : lpN (Pl_notMet_L9 v2 v3 v4 S) k q = some o) (hP : ps_Pl_notMet_L9 V l Γ rF wF v2 v3 v4 S o) : hd_Pl_notMet_L9 V l Γ rF wF v2 v3 v4 S q := lpN_ind2 (hd_Pl_notMet_L9 V l Γ rF wF v2 v3 v4 S) (ps_Pl_notMet_L9 V l Γ rF wF v2 v3 v4 S) (fun s o h hK => t_Pl_notMet_L9 hV h hK) k q o h hP
def Pl_notMet (v1 : Int32) (v2 : Int32) (v3 : Int32) (v4 : Int32) (S : Sm) : Option (Int32) := ((lpN (Pl_notMet_L9 v2 v3 v4 S) FU (v1, 0, 0)).bind fun q3 => (some q3))
set_option maxRecDepth 4000 in
theorem r_Pl_notMet {V : Sm → Wd} (hV : VwC V) {v1 : Int32} {v2 : Int32} {v3 : Int32} {v4 : Int32} {S : Sm} {q : Int32} (h : Pl_notMet v1 v2 v3 v4 S = some q) : Runs 3 mX7_notMet [.ref 47, .int v1, .int v2, .int v3, .int v4] (V S) (some (.int q)) (V S) 0 0 := by
  unfold Pl_notMet at h
  refine Runs.of2 [some (.ref 47), some (.int v1), some (.int v2), some (.int v3), some (.int v4), none, none, none] 3 rfl rfl (Nat.le_of_ble_eq_true rfl) (fun l Γ => ?_)
  refine g_iload_n (pc := 0) dX7_notMet_0 rfl ?_
  refine g_istore (ls1 := [some (.ref 47), some (.int v1), some (.int v2), some (.int v3), some (.int v4), some (.int v1), none, none]) (pc := 1) dX7_notMet_1 (by decide) rfl ?_
  refine g_iconst (v := 0) (pc := 3) dX7_notMet_3 (by decide) ?_
  refine g_istore (ls1 := [some (.ref 47), some (.int v1), some (.int v2), some (.int v3), some (.int v4), some (.int v1), some (.int 0), none]) (pc := 4) dX7_notMet_4 (by decide) rfl ?_
  refine g_iconst (v := 0) (pc := 6) dX7_notMet_6 (by decide) ?_
  refine g_istore (ls1 := [some (.ref 47), some (.int v1), some (.int v2), some (.int v3), some (.int v4), some (.int v1), some (.int 0), some (.int 0)]) (pc := 7) dX7_notMet_7 (by decide) rfl ?_
  refine g_wk [true, false, true, true, true, true, true, true] rfl ?_
  obtain ⟨q3, hqq3, h⟩ := bnd h
  refine w_Pl_notMet_L9 hV hqq3 ?_
  unfold ps_Pl_notMet_L9
  show G _ _ _ _ _ _ _ _ _ _ _
  refine g_iload (pc := 50) dX7_notMet_50 rfl ?_
  cases h
  exact g_iret (pc := 52) dX7_notMet_52 rfl rfl (Nat.le_refl _) (Nat.le_refl _)
def Dk_smuggles_45 (S : Sm) : Option (Int32) := (some ((-1000000)))
set_option maxRecDepth 4000 in
theorem t_Dk_smuggles_45 {V : Sm → Wd} (hV : VwC V) {l : Launch} {Γ : Gm}  {S : Sm} {q : Int32} (h : Dk_smuggles_45 S = some q) : G mX11_smuggles l Γ (rmD 4 0 0) (mQ Γ (some (.int q)) (V S) 0 0) 0 0 45 [none, none, none, none, none] [] (V S) := by
  unfold Dk_smuggles_45 at h
  refine g_ldc (v := (-1000000)) (pc := 45) dX11_smuggles_45 kI_X11_150 ?_
  cases h
  exact g_iret (pc := 47) dX11_smuggles_47 rfl rfl (Nat.le_refl _) (Nat.le_refl _)
def Dk_smuggles (v1 : Int32) (v2 : Int32) (v3 : Int32) (v4 : Int32) (S : Sm) : Option (Int32) := (if (Nt_hasMouth v1 S) = 0 then (Dk_smuggles_45 S) else (if (Nt_hasColour v3 S) = 0 then (Dk_smuggles_45 S) else (if (Nt_hasMouth v4 S) = 0 then (Dk_smuggles_45 S) else (if v2 < 1 then (Dk_smuggles_45 S) else (if v2 ≤ 9 then ((Pl_notMet v1 v2 v3 v4 S).bind fun q1 => (some q1)) else (Dk_smuggles_45 S))))))
set_option maxRecDepth 4000 in
theorem r_Dk_smuggles {V : Sm → Wd} (hV : VwC V) {v1 : Int32} {v2 : Int32} {v3 : Int32} {v4 : Int32} {S : Sm} {q : Int32} (h : Dk_smuggles v1 v2 v3 v4 S = some q) : Runs 4 mX11_smuggles [.ref 7, .int v1, .int v2, .int v3, .int v4] (V S) (some (.int q)) (V S) 0 0 := by
  unfold Dk_smuggles at h
  refine Runs.of2 [some (.ref 7), some (.int v1), some (.int v2), some (.int v3), some (.int v4)] 0 rfl rfl (Nat.le_of_ble_eq_true rfl) (fun l Γ => ?_)
  refine g_aload_n (pc := 0) dX11_smuggles_0 rfl ?_
  refine v_getR hV (pc := 1) dX11_smuggles_1 fo_11_1 rfl k0_7 r0_7_1 ?_
  refine g_iload_n (pc := 4) dX11_smuggles_4 rfl ?_
  refine v_callVi hV (Mc := mX5_hasMouth) (v := Nt_hasMouth v1 S) (S1 := S) (As := [.int v1]) (rest := []) (q := (RX5, TX5, 3)) (pc := 5) dX11_smuggles_5 mK_X11_140 mf_X5_hasMouth rfl k0_10 rfl rfl rfl (Nat.le_of_ble_eq_true rfl) ⟨Nat.le_of_ble_eq_true rfl, Nat.le_of_ble_eq_true rfl⟩ (r_Nt_hasMouth hV rfl) ?_
  refine g_if_eq (tgt := 45) (pc := 8) dX11_smuggles_8 (by decide) (fun c6 => ?_) (fun c6 => ?_)
  · rw [if_pos c6] at h
    refine g_wk [false, false, false, false, false] rfl ?_
    exact t_Dk_smuggles_45 hV h
  · rw [if_neg c6] at h
    refine g_aload_n (pc := 11) dX11_smuggles_11 rfl ?_
    refine v_getR hV (pc := 12) dX11_smuggles_12 fo_11_1 rfl k0_7 r0_7_1 ?_
    refine g_iload_n (pc := 15) dX11_smuggles_15 rfl ?_
    refine v_callVi hV (Mc := mX5_hasColour) (v := Nt_hasColour v3 S) (S1 := S) (As := [.int v3]) (rest := []) (q := (RX5, TX5, 3)) (pc := 16) dX11_smuggles_16 mK_X11_194 mf_X5_hasColour rfl k0_10 rfl rfl rfl (Nat.le_of_ble_eq_true rfl) ⟨Nat.le_of_ble_eq_true rfl, Nat.le_of_ble_eq_true rfl⟩ (r_Nt_hasColour hV rfl) ?_
    refine g_if_eq (tgt := 45) (pc := 19) dX11_smuggles_19 (by decide) (fun c5 => ?_) (fun c5 => ?_)
    · rw [if_pos c5] at h
      refine g_wk [false, false, false, false, false] rfl ?_
      exact t_Dk_smuggles_45 hV h
    · rw [if_neg c5] at h
      refine g_aload_n (pc := 22) dX11_smuggles_22 rfl ?_
      refine v_getR hV (pc := 23) dX11_smuggles_23 fo_11_1 rfl k0_7 r0_7_1 ?_
      refine g_iload (pc := 26) dX11_smuggles_26 rfl ?_
      refine v_callVi hV (Mc := mX5_hasMouth) (v := Nt_hasMouth v4 S) (S1 := S) (As := [.int v4]) (rest := []) (q := (RX5, TX5, 3)) (pc := 28) dX11_smuggles_28 mK_X11_140 mf_X5_hasMouth rfl k0_10 rfl rfl rfl (Nat.le_of_ble_eq_true rfl) ⟨Nat.le_of_ble_eq_true rfl, Nat.le_of_ble_eq_true rfl⟩ (r_Nt_hasMouth hV rfl) ?_
      refine g_if_eq (tgt := 45) (pc := 31) dX11_smuggles_31 (by decide) (fun c4 => ?_) (fun c4 => ?_)
      · rw [if_pos c4] at h
        refine g_wk [false, false, false, false, false] rfl ?_
        exact t_Dk_smuggles_45 hV h
      · rw [if_neg c4] at h
        refine g_iload_n (pc := 34) dX11_smuggles_34 rfl ?_
        refine g_iconst (v := 1) (pc := 35) dX11_smuggles_35 (by decide) ?_
        refine g_icmp_lt (tgt := 45) (pc := 36) dX11_smuggles_36 (by decide) (fun c3 => ?_) (fun c3 => ?_)
        · rw [if_pos c3] at h
          refine g_wk [false, false, false, false, false] rfl ?_
          exact t_Dk_smuggles_45 hV h
        · rw [if_neg c3] at h
          refine g_iload_n (pc := 39) dX11_smuggles_39 rfl ?_
          refine g_bipush (v := 9) (pc := 40) dX11_smuggles_40 (by decide) ?_
          refine g_icmp_le (tgt := 48) (pc := 42) dX11_smuggles_42 (by decide) (fun c2 => ?_) (fun c2 => ?_)
          · rw [if_pos c2] at h
            refine g_aload_n (pc := 48) dX11_smuggles_48 rfl ?_
            refine v_getR hV (pc := 49) dX11_smuggles_49 fo_11_11 rfl k0_7 r0_7_11 ?_
            refine g_iload_n (pc := 52) dX11_smuggles_52 rfl ?_
            refine g_iload_n (pc := 53) dX11_smuggles_53 rfl ?_
            refine g_iload_n (pc := 54) dX11_smuggles_54 rfl ?_
            refine g_iload (pc := 55) dX11_smuggles_55 rfl ?_
            obtain ⟨q1, hq1, h⟩ := bnd h
            refine v_callVi hV (Mc := mX7_notMet) (v := q1) (S1 := S) (As := [.int v1, .int v2, .int v3, .int v4]) (rest := []) (q := (RX7, TX7, 9)) (pc := 57) dX11_smuggles_57 mK_X11_305 mf_X7_notMet rfl k0_47 rfl rfl rfl (Nat.le_of_ble_eq_true rfl) ⟨Nat.le_of_ble_eq_true rfl, Nat.le_of_ble_eq_true rfl⟩ (r_Pl_notMet hV hq1) ?_
            cases h
            exact g_iret (pc := 60) dX11_smuggles_60 rfl rfl (Nat.le_refl _) (Nat.le_refl _)
          · rw [if_neg c2] at h
            refine g_wk [false, false, false, false, false] rfl ?_
            exact t_Dk_smuggles_45 hV h
def hd_Pl_isRest_L14 (V : Sm → Wd) (l : Launch) (Γ : Gm) (rF : Option Value) (wF : Wd) (v1 : Int32) (v2 : Int32) (v3 : Int32) (v4 : Int32) (v5 : Int32) (S : Sm) (q : Int32) : Prop := G mX7_isRest l Γ (rmD 4 0 0) (mQ Γ rF wF 0 0) 0 0 14 [some (.ref 47), some (.int v1), some (.int v2), some (.int v3), some (.int v4), some (.int v5), some (.int q)] [] (V S)
def ps_Pl_isRest_L14 (V : Sm → Wd) (l : Launch) (Γ : Gm) (rF : Option Value) (wF : Wd) (v1 : Int32) (v2 : Int32) (v3 : Int32) (v4 : Int32) (v5 : Int32) (S : Sm) (x : (Unit) ⊕ (Unit)) : Prop := (Sum.elim (fun (a : Unit) => G mX7_isRest l Γ (rmD 4 0 0) (mQ Γ rF wF 0 0) 0 0 41 [none, none, none, none, none, none, none] [] (V S)) (fun (a : Unit) => G mX7_isRest l Γ (rmD 4 0 0) (mQ Γ rF wF 0 0) 0 0 49 [some (.ref 47), some (.int v1), some (.int v2), some (.int v3), none, some (.int v5), none] [] (V S))) x
def Pl_isRest_L14 (v1 : Int32) (v2 : Int32) (v3 : Int32) (v4 : Int32) (v5 : Int32) (S : Sm) (q : Int32) : Option ((Int32) ⊕ ((Unit) ⊕ (Unit))) := (if (Nt_colours S) ≤ q then (some (.inr (.inr ()))) else ((Pl_notMet v1 v2 q v4 S).bind fun q2 => (if q2 ≤ v5 then (some (.inl (q + 1))) else (some (.inr (.inl ()))))))
set_option maxRecDepth 4000 in
theorem t_Pl_isRest_L14 {V : Sm → Wd} (hV : VwC V) {l : Launch} {Γ : Gm} {rF : Option Value} {wF : Wd} {v1 : Int32} {v2 : Int32} {v3 : Int32} {v4 : Int32} {v5 : Int32} {S : Sm} {q : Int32} {o : (Int32) ⊕ ((Unit) ⊕ (Unit))} (h : Pl_isRest_L14 v1 v2 v3 v4 v5 S q = some o) (hK : Sum.elim (hd_Pl_isRest_L14 V l Γ rF wF v1 v2 v3 v4 v5 S) (ps_Pl_isRest_L14 V l Γ rF wF v1 v2 v3 v4 v5 S) o) : hd_Pl_isRest_L14 V l Γ rF wF v1 v2 v3 v4 v5 S q := by
  unfold Pl_isRest_L14 at h
  unfold hd_Pl_isRest_L14
  refine g_iload (pc := 14) dX7_isRest_14 rfl ?_
  refine g_aload_n (pc := 16) dX7_isRest_16 rfl ?_
  refine v_getR hV (pc := 17) dX7_isRest_17 fo_7_0 rfl k0_47 r0_47_0 ?_
  refine v_callVi hV (Mc := mX5_colours) (v := Nt_colours S) (S1 := S) (As := []) (rest := [.int q]) (q := (RX5, TX5, 3)) (pc := 20) dX7_isRest_20 mK_X7_111 mf_X5_colours rfl k0_10 rfl rfl rfl (Nat.le_of_ble_eq_true rfl) ⟨Nat.le_of_ble_eq_true rfl, Nat.le_of_ble_eq_true rfl⟩ (r_Nt_colours hV rfl) ?_
  refine g_icmp_ge (tgt := 49) (pc := 23) dX7_isRest_23 (by decide) (fun c4 => ?_) (fun c4 => ?_)
  · rw [if_pos c4] at h
    refine g_wk [true, true, true, true, false, true, false] rfl ?_
    cases h
    exact hK
  · rw [if_neg c4] at h
    refine g_aload_n (pc := 26) dX7_isRest_26 rfl ?_
    refine g_iload_n (pc := 27) dX7_isRest_27 rfl ?_
    refine g_iload_n (pc := 28) dX7_isRest_28 rfl ?_
    refine g_iload (pc := 29) dX7_isRest_29 rfl ?_
    refine g_iload (pc := 31) dX7_isRest_31 rfl ?_
    obtain ⟨q2, hq2, h⟩ := bnd h
    refine v_callVi hV (Mc := mX7_notMet) (v := q2) (S1 := S) (As := [.int v1, .int v2, .int q, .int v4]) (rest := []) (q := (RX7, TX7, 9)) (pc := 33) dX7_isRest_33 mK_X7_121 mf_X7_notMet rfl k0_47 rfl rfl rfl (Nat.le_of_ble_eq_true rfl) ⟨Nat.le_of_ble_eq_true rfl, Nat.le_of_ble_eq_true rfl⟩ (r_Pl_notMet hV hq2) ?_
    refine g_iload (pc := 36) dX7_isRest_36 rfl ?_
    refine g_icmp_le (tgt := 43) (pc := 38) dX7_isRest_38 (by decide) (fun c3 => ?_) (fun c3 => ?_)
    · rw [if_pos c3] at h
      refine g_iinc (v := q + 1) (ls1 := [some (.ref 47), some (.int v1), some (.int v2), some (.int v3), some (.int v4), some (.int v5), some (.int (q + 1))]) (pc := 43) dX7_isRest_43 rfl rfl (by decide) rfl ?_
      refine g_goto (tgt := 14) (pc := 46) dX7_isRest_46 (by decide) ?_
      cases h
      exact hK
    · rw [if_neg c3] at h
      refine g_wk [false, false, false, false, false, false, false] rfl ?_
      cases h
      exact hK
set_option maxRecDepth 4000 in
theorem w_Pl_isRest_L14 {V : Sm → Wd} (hV : VwC V) {l : Launch} {Γ : Gm} {rF : Option Value} {wF : Wd} {v1 : Int32} {v2 : Int32} {v3 : Int32} {v4 : Int32} {v5 : Int32} {S : Sm} {k : Nat} {q : Int32} {o : (Unit) ⊕ (Unit)} (h : lpN (Pl_isRest_L14 v1 v2 v3 v4 v5 S) k q = some o) (hP : ps_Pl_isRest_L14 V l Γ rF wF v1 v2 v3 v4 v5 S o) : hd_Pl_isRest_L14 V l Γ rF wF v1 v2 v3 v4 v5 S q := lpN_ind2 (hd_Pl_isRest_L14 V l Γ rF wF v1 v2 v3 v4 v5 S) (ps_Pl_isRest_L14 V l Γ rF wF v1 v2 v3 v4 v5 S) (fun s o h hK => t_Pl_isRest_L14 hV h hK) k q o h hP
def hd_Pl_isRest_L52 (V : Sm → Wd) (l : Launch) (Γ : Gm) (rF : Option Value) (wF : Wd) (v1 : Int32) (v2 : Int32) (v3 : Int32) (v5 : Int32) (S : Sm) (q : Int32) : Prop := G mX7_isRest l Γ (rmD 4 0 0) (mQ Γ rF wF 0 0) 0 0 52 [some (.ref 47), some (.int v1), some (.int v2), some (.int v3), none, some (.int v5), some (.int q)] [] (V S)
def ps_Pl_isRest_L52 (V : Sm → Wd) (l : Launch) (Γ : Gm) (rF : Option Value) (wF : Wd) (v1 : Int32) (v2 : Int32) (v3 : Int32) (v5 : Int32) (S : Sm) (x : (Unit) ⊕ (Unit)) : Prop := (Sum.elim (fun (a : Unit) => G mX7_isRest l Γ (rmD 4 0 0) (mQ Γ rF wF 0 0) 0 0 78 [none, none, none, none, none, none, none] [] (V S)) (fun (a : Unit) => G mX7_isRest l Γ (rmD 4 0 0) (mQ Γ rF wF 0 0) 0 0 86 [none, none, none, none, none, none, none] [] (V S))) x
def Pl_isRest_L52 (v1 : Int32) (v2 : Int32) (v3 : Int32) (v5 : Int32) (S : Sm) (q : Int32) : Option ((Int32) ⊕ ((Unit) ⊕ (Unit))) := (if (Nt_mouths S) ≤ q then (some (.inr (.inr ()))) else ((Pl_notMet v1 v2 v3 q S).bind fun q8 => (if v5 ≤ q8 then (some (.inl (q + 1))) else (some (.inr (.inl ()))))))
set_option maxRecDepth 4000 in
theorem t_Pl_isRest_L52 {V : Sm → Wd} (hV : VwC V) {l : Launch} {Γ : Gm} {rF : Option Value} {wF : Wd} {v1 : Int32} {v2 : Int32} {v3 : Int32} {v5 : Int32} {S : Sm} {q : Int32} {o : (Int32) ⊕ ((Unit) ⊕ (Unit))} (h : Pl_isRest_L52 v1 v2 v3 v5 S q = some o) (hK : Sum.elim (hd_Pl_isRest_L52 V l Γ rF wF v1 v2 v3 v5 S) (ps_Pl_isRest_L52 V l Γ rF wF v1 v2 v3 v5 S) o) : hd_Pl_isRest_L52 V l Γ rF wF v1 v2 v3 v5 S q := by
  unfold Pl_isRest_L52 at h
  unfold hd_Pl_isRest_L52
  refine g_iload (pc := 52) dX7_isRest_52 rfl ?_
  refine g_aload_n (pc := 54) dX7_isRest_54 rfl ?_
  refine v_getR hV (pc := 55) dX7_isRest_55 fo_7_0 rfl k0_47 r0_47_0 ?_
  refine v_callVi hV (Mc := mX5_mouths) (v := Nt_mouths S) (S1 := S) (As := []) (rest := [.int q]) (q := (RX5, TX5, 3)) (pc := 58) dX7_isRest_58 mK_X7_114 mf_X5_mouths rfl k0_10 rfl rfl rfl (Nat.le_of_ble_eq_true rfl) ⟨Nat.le_of_ble_eq_true rfl, Nat.le_of_ble_eq_true rfl⟩ (r_Nt_mouths hV rfl) ?_
  refine g_icmp_ge (tgt := 86) (pc := 61) dX7_isRest_61 (by decide) (fun c10 => ?_) (fun c10 => ?_)
  · rw [if_pos c10] at h
    refine g_wk [false, false, false, false, false, false, false] rfl ?_
    cases h
    exact hK
  · rw [if_neg c10] at h
    refine g_aload_n (pc := 64) dX7_isRest_64 rfl ?_
    refine g_iload_n (pc := 65) dX7_isRest_65 rfl ?_
    refine g_iload_n (pc := 66) dX7_isRest_66 rfl ?_
    refine g_iload_n (pc := 67) dX7_isRest_67 rfl ?_
    refine g_iload (pc := 68) dX7_isRest_68 rfl ?_
    obtain ⟨q8, hq8, h⟩ := bnd h
    refine v_callVi hV (Mc := mX7_notMet) (v := q8) (S1 := S) (As := [.int v1, .int v2, .int v3, .int q]) (rest := []) (q := (RX7, TX7, 9)) (pc := 70) dX7_isRest_70 mK_X7_121 mf_X7_notMet rfl k0_47 rfl rfl rfl (Nat.le_of_ble_eq_true rfl) ⟨Nat.le_of_ble_eq_true rfl, Nat.le_of_ble_eq_true rfl⟩ (r_Pl_notMet hV hq8) ?_
    refine g_iload (pc := 73) dX7_isRest_73 rfl ?_
    refine g_icmp_ge (tgt := 80) (pc := 75) dX7_isRest_75 (by decide) (fun c9 => ?_) (fun c9 => ?_)
    · rw [if_pos c9] at h
      refine g_iinc (v := q + 1) (ls1 := [some (.ref 47), some (.int v1), some (.int v2), some (.int v3), none, some (.int v5), some (.int (q + 1))]) (pc := 80) dX7_isRest_80 rfl rfl (by decide) rfl ?_
      refine g_goto (tgt := 52) (pc := 83) dX7_isRest_83 (by decide) ?_
      cases h
      exact hK
    · rw [if_neg c9] at h
      refine g_wk [false, false, false, false, false, false, false] rfl ?_
      cases h
      exact hK
set_option maxRecDepth 4000 in
theorem w_Pl_isRest_L52 {V : Sm → Wd} (hV : VwC V) {l : Launch} {Γ : Gm} {rF : Option Value} {wF : Wd} {v1 : Int32} {v2 : Int32} {v3 : Int32} {v5 : Int32} {S : Sm} {k : Nat} {q : Int32} {o : (Unit) ⊕ (Unit)} (h : lpN (Pl_isRest_L52 v1 v2 v3 v5 S) k q = some o) (hP : ps_Pl_isRest_L52 V l Γ rF wF v1 v2 v3 v5 S o) : hd_Pl_isRest_L52 V l Γ rF wF v1 v2 v3 v5 S q := lpN_ind2 (hd_Pl_isRest_L52 V l Γ rF wF v1 v2 v3 v5 S) (ps_Pl_isRest_L52 V l Γ rF wF v1 v2 v3 v5 S) (fun s o h hK => t_Pl_isRest_L52 hV h hK) k q o h hP
def Pl_isRest (v1 : Int32) (v2 : Int32) (v3 : Int32) (v4 : Int32) (S : Sm) : Option (Int32) := ((Pl_notMet v1 v2 v3 v4 S).bind fun q1 => ((lpN (Pl_isRest_L14 v1 v2 v3 v4 q1 S) FU 0).bind fun q5 => (Sum.elim (fun a6 => (some 0)) (fun a7 => ((lpN (Pl_isRest_L52 v1 v2 v3 q1 S) FU 0).bind fun q11 => (Sum.elim (fun a12 => (some 0)) (fun a13 => (some 1)) q11))) q5)))
set_option maxRecDepth 4000 in
theorem r_Pl_isRest {V : Sm → Wd} (hV : VwC V) {v1 : Int32} {v2 : Int32} {v3 : Int32} {v4 : Int32} {S : Sm} {q : Int32} (h : Pl_isRest v1 v2 v3 v4 S = some q) : Runs 4 mX7_isRest [.ref 47, .int v1, .int v2, .int v3, .int v4] (V S) (some (.int q)) (V S) 0 0 := by
  unfold Pl_isRest at h
  refine Runs.of2 [some (.ref 47), some (.int v1), some (.int v2), some (.int v3), some (.int v4), none, none] 2 rfl rfl (Nat.le_of_ble_eq_true rfl) (fun l Γ => ?_)
  refine g_aload_n (pc := 0) dX7_isRest_0 rfl ?_
  refine g_iload_n (pc := 1) dX7_isRest_1 rfl ?_
  refine g_iload_n (pc := 2) dX7_isRest_2 rfl ?_
  refine g_iload_n (pc := 3) dX7_isRest_3 rfl ?_
  refine g_iload (pc := 4) dX7_isRest_4 rfl ?_
  obtain ⟨q1, hq1, h⟩ := bnd h
  refine v_callVi hV (Mc := mX7_notMet) (v := q1) (S1 := S) (As := [.int v1, .int v2, .int v3, .int v4]) (rest := []) (q := (RX7, TX7, 9)) (pc := 6) dX7_isRest_6 mK_X7_121 mf_X7_notMet rfl k0_47 rfl rfl rfl (Nat.le_of_ble_eq_true rfl) ⟨Nat.le_of_ble_eq_true rfl, Nat.le_of_ble_eq_true rfl⟩ (r_Pl_notMet hV hq1) ?_
  refine g_istore (ls1 := [some (.ref 47), some (.int v1), some (.int v2), some (.int v3), some (.int v4), some (.int q1), none]) (pc := 9) dX7_isRest_9 (by decide) rfl ?_
  refine g_iconst (v := 0) (pc := 11) dX7_isRest_11 (by decide) ?_
  refine g_istore (ls1 := [some (.ref 47), some (.int v1), some (.int v2), some (.int v3), some (.int v4), some (.int q1), some (.int 0)]) (pc := 12) dX7_isRest_12 (by decide) rfl ?_
  obtain ⟨q5, hqq5, h⟩ := bnd h
  refine w_Pl_isRest_L14 hV hqq5 ?_
  unfold ps_Pl_isRest_L14
  cases q5 with
  | inl a6 =>
    simp only [Sum.elim_inl] at h
    show G _ _ _ _ _ _ _ _ _ _ _
    refine g_iconst (v := 0) (pc := 41) dX7_isRest_41 (by decide) ?_
    cases h
    exact g_iret (u := 0) (pc := 42) dX7_isRest_42 rfl (by decide) (Nat.le_refl _) (Nat.le_refl _)
  | inr a7 =>
    simp only [Sum.elim_inr] at h
    show G _ _ _ _ _ _ _ _ _ _ _
    refine g_iconst (v := 0) (pc := 49) dX7_isRest_49 (by decide) ?_
    refine g_istore (ls1 := [some (.ref 47), some (.int v1), some (.int v2), some (.int v3), none, some (.int q1), some (.int 0)]) (pc := 50) dX7_isRest_50 (by decide) rfl ?_
    obtain ⟨q11, hqq11, h⟩ := bnd h
    refine w_Pl_isRest_L52 hV hqq11 ?_
    unfold ps_Pl_isRest_L52
    cases q11 with
    | inl a12 =>
      simp only [Sum.elim_inl] at h
      show G _ _ _ _ _ _ _ _ _ _ _
      refine g_iconst (v := 0) (pc := 78) dX7_isRest_78 (by decide) ?_
      cases h
      exact g_iret (u := 0) (pc := 79) dX7_isRest_79 rfl (by decide) (Nat.le_refl _) (Nat.le_refl _)
    | inr a13 =>
      simp only [Sum.elim_inr] at h
      show G _ _ _ _ _ _ _ _ _ _ _
      refine g_iconst (v := 1) (pc := 86) dX7_isRest_86 (by decide) ?_
      cases h
      exact g_iret (u := 1) (pc := 87) dX7_isRest_87 rfl (by decide) (Nat.le_refl _) (Nat.le_refl _)
def hd_Pl_restAt_L6 (V : Sm → Wd) (l : Launch) (Γ : Gm) (rF : Option Value) (wF : Wd) (v1 : Int32) (v2 : Int32) (v3 : Int32) (S : Sm) (q : Int32 × Int32) : Prop := G mX7_restAt l Γ (rmD 5 0 0) (mQ Γ rF wF 0 0) 0 0 6 [some (.ref 47), some (.int v1), some (.int v2), some (.int v3), some (.int q.1), some (.int q.2), none] [] (V S)
def ps_Pl_restAt_L6 (V : Sm → Wd) (l : Launch) (Γ : Gm) (rF : Option Value) (wF : Wd) (v1 : Int32) (v2 : Int32) (v3 : Int32) (S : Sm) (x : (Int32 × Int32) ⊕ (Unit)) : Prop := (Sum.elim (fun (a : Int32 × Int32) => G mX7_restAt l Γ (rmD 5 0 0) (mQ Γ rF wF 0 0) 0 0 52 [none, none, none, none, none, some (.int a.1), some (.int a.2)] [] (V S)) (fun (a : Unit) => G mX7_restAt l Γ (rmD 5 0 0) (mQ Γ rF wF 0 0) 0 0 76 [none, none, none, none, none, none, none] [] (V S))) x
def hd_Pl_restAt_L21 (V : Sm → Wd) (l : Launch) (Γ : Gm) (rF : Option Value) (wF : Wd) (v1 : Int32) (v2 : Int32) (v3 : Int32) (v5 : Int32) (S : Sm) (q : Int32 × Int32) : Prop := G mX7_restAt l Γ (rmD 5 0 0) (mQ Γ rF wF 0 0) 0 0 21 [some (.ref 47), some (.int v1), some (.int v2), some (.int v3), some (.int q.1), some (.int v5), some (.int q.2)] [] (V S)
def ps_Pl_restAt_L21 (V : Sm → Wd) (l : Launch) (Γ : Gm) (rF : Option Value) (wF : Wd) (v1 : Int32) (v2 : Int32) (v3 : Int32) (v5 : Int32) (S : Sm) (x : (Int32) ⊕ (Int32)) : Prop := (Sum.elim (fun (a : Int32) => G mX7_restAt l Γ (rmD 5 0 0) (mQ Γ rF wF 0 0) 0 0 52 [none, none, none, none, none, some (.int v5), some (.int a)] [] (V S)) (fun (a : Int32) => G mX7_restAt l Γ (rmD 5 0 0) (mQ Γ rF wF 0 0) 0 0 70 [some (.ref 47), some (.int v1), some (.int v2), some (.int v3), some (.int a), some (.int v5), none] [] (V S))) x
def Pl_restAt_64_L21 (v1 : Int32) (v2 : Int32) (v3 : Int32) (v4 : Int32) (v5 : Int32) (v6 : Int32) (S : Sm) : Option ((Int32 × Int32) ⊕ ((Int32) ⊕ (Int32))) := (some (.inl (v4, v6 + 1)))
set_option maxRecDepth 4000 in
theorem t_Pl_restAt_64_L21 {V : Sm → Wd} (hV : VwC V) {l : Launch} {Γ : Gm} {v1 : Int32} {v2 : Int32} {v3 : Int32} {v4 : Int32} {v5 : Int32} {v6 : Int32} {rF : Option Value} {wF : Wd} {S : Sm} {o : (Int32 × Int32) ⊕ ((Int32) ⊕ (Int32))} (h : Pl_restAt_64_L21 v1 v2 v3 v4 v5 v6 S = some o) (hK : Sum.elim (hd_Pl_restAt_L21 V l Γ rF wF v1 v2 v3 v5 S) (ps_Pl_restAt_L21 V l Γ rF wF v1 v2 v3 v5 S) o) : G mX7_restAt l Γ (rmD 5 0 0) (mQ Γ rF wF 0 0) 0 0 64 [some (.ref 47), some (.int v1), some (.int v2), some (.int v3), some (.int v4), some (.int v5), some (.int v6)] [] (V S) := by
  unfold Pl_restAt_64_L21 at h
  refine g_iinc (v := v6 + 1) (ls1 := [some (.ref 47), some (.int v1), some (.int v2), some (.int v3), some (.int v4), some (.int v5), some (.int (v6 + 1))]) (pc := 64) dX7_restAt_64 rfl rfl (by decide) rfl ?_
  refine g_goto (tgt := 21) (pc := 67) dX7_restAt_67 (by decide) ?_
  cases h
  exact hK
def Pl_restAt_L21 (v1 : Int32) (v2 : Int32) (v3 : Int32) (v5 : Int32) (S : Sm) (q : Int32 × Int32) : Option ((Int32 × Int32) ⊕ ((Int32) ⊕ (Int32))) := (if (Nt_mouths S) ≤ q.2 then (some (.inr (.inr q.1))) else ((Pl_isRest v1 v2 v5 q.2 S).bind fun q1 => (if q1 = 0 then (Pl_restAt_64_L21 v1 v2 v3 q.1 v5 q.2 S) else (if q.1 = v3 then (some (.inr (.inl q.2))) else (Pl_restAt_64_L21 v1 v2 v3 (q.1 + 1) v5 q.2 S)))))
set_option maxRecDepth 4000 in
theorem t_Pl_restAt_L21 {V : Sm → Wd} (hV : VwC V) {l : Launch} {Γ : Gm} {rF : Option Value} {wF : Wd} {v1 : Int32} {v2 : Int32} {v3 : Int32} {v5 : Int32} {S : Sm} {q : Int32 × Int32} {o : (Int32 × Int32) ⊕ ((Int32) ⊕ (Int32))} (h : Pl_restAt_L21 v1 v2 v3 v5 S q = some o) (hK : Sum.elim (hd_Pl_restAt_L21 V l Γ rF wF v1 v2 v3 v5 S) (ps_Pl_restAt_L21 V l Γ rF wF v1 v2 v3 v5 S) o) : hd_Pl_restAt_L21 V l Γ rF wF v1 v2 v3 v5 S q := by
  unfold Pl_restAt_L21 at h
  unfold hd_Pl_restAt_L21
  refine g_iload (pc := 21) dX7_restAt_21 rfl ?_
  refine g_aload_n (pc := 23) dX7_restAt_23 rfl ?_
  refine v_getR hV (pc := 24) dX7_restAt_24 fo_7_0 rfl k0_47 r0_47_0 ?_
  refine v_callVi hV (Mc := mX5_mouths) (v := Nt_mouths S) (S1 := S) (As := []) (rest := [.int q.2]) (q := (RX5, TX5, 3)) (pc := 27) dX7_restAt_27 mK_X7_114 mf_X5_mouths rfl k0_10 rfl rfl rfl (Nat.le_of_ble_eq_true rfl) ⟨Nat.le_of_ble_eq_true rfl, Nat.le_of_ble_eq_true rfl⟩ (r_Nt_mouths hV rfl) ?_
  refine g_icmp_ge (tgt := 70) (pc := 30) dX7_restAt_30 (by decide) (fun c4 => ?_) (fun c4 => ?_)
  · rw [if_pos c4] at h
    refine g_wk [true, true, true, true, true, true, false] rfl ?_
    cases h
    exact hK
  · rw [if_neg c4] at h
    refine g_aload_n (pc := 33) dX7_restAt_33 rfl ?_
    refine g_iload_n (pc := 34) dX7_restAt_34 rfl ?_
    refine g_iload_n (pc := 35) dX7_restAt_35 rfl ?_
    refine g_iload (pc := 36) dX7_restAt_36 rfl ?_
    refine g_iload (pc := 38) dX7_restAt_38 rfl ?_
    obtain ⟨q1, hq1, h⟩ := bnd h
    refine v_callVi hV (Mc := mX7_isRest) (v := q1) (S1 := S) (As := [.int v1, .int v2, .int v5, .int q.2]) (rest := []) (q := (RX7, TX7, 9)) (pc := 40) dX7_restAt_40 mK_X7_117 mf_X7_isRest rfl k0_47 rfl rfl rfl (Nat.le_of_ble_eq_true rfl) ⟨Nat.le_of_ble_eq_true rfl, Nat.le_of_ble_eq_true rfl⟩ (r_Pl_isRest hV hq1) ?_
    refine g_if_eq (tgt := 64) (pc := 43) dX7_restAt_43 (by decide) (fun c3 => ?_) (fun c3 => ?_)
    · rw [if_pos c3] at h
      exact t_Pl_restAt_64_L21 hV h hK
    · rw [if_neg c3] at h
      refine g_iload (pc := 46) dX7_restAt_46 rfl ?_
      refine g_iload_n (pc := 48) dX7_restAt_48 rfl ?_
      refine g_icmp_ne (tgt := 61) (pc := 49) dX7_restAt_49 (by decide) (fun c2 => ?_) (fun c2 => ?_)
      · rw [if_neg c2] at h
        refine g_iinc (v := q.1 + 1) (ls1 := [some (.ref 47), some (.int v1), some (.int v2), some (.int v3), some (.int (q.1 + 1)), some (.int v5), some (.int q.2)]) (pc := 61) dX7_restAt_61 rfl rfl (by decide) rfl ?_
        exact t_Pl_restAt_64_L21 hV h hK
      · rw [if_pos c2] at h
        refine g_wk [false, false, false, false, false, true, true] rfl ?_
        cases h
        exact hK
set_option maxRecDepth 4000 in
theorem w_Pl_restAt_L21 {V : Sm → Wd} (hV : VwC V) {l : Launch} {Γ : Gm} {rF : Option Value} {wF : Wd} {v1 : Int32} {v2 : Int32} {v3 : Int32} {v5 : Int32} {S : Sm} {k : Nat} {q : Int32 × Int32} {o : (Int32) ⊕ (Int32)} (h : lpN (Pl_restAt_L21 v1 v2 v3 v5 S) k q = some o) (hP : ps_Pl_restAt_L21 V l Γ rF wF v1 v2 v3 v5 S o) : hd_Pl_restAt_L21 V l Γ rF wF v1 v2 v3 v5 S q := lpN_ind2 (hd_Pl_restAt_L21 V l Γ rF wF v1 v2 v3 v5 S) (ps_Pl_restAt_L21 V l Γ rF wF v1 v2 v3 v5 S) (fun s o h hK => t_Pl_restAt_L21 hV h hK) k q o h hP
def Pl_restAt_L6 (v1 : Int32) (v2 : Int32) (v3 : Int32) (S : Sm) (q : Int32 × Int32) : Option ((Int32 × Int32) ⊕ ((Int32 × Int32) ⊕ (Unit))) := (if (Nt_colours S) ≤ q.2 then (some (.inr (.inr ()))) else ((lpN (Pl_restAt_L21 v1 v2 v3 q.2 S) FU (q.1, 0)).bind fun q5 => (Sum.elim (fun a6 => (some (.inr (.inl (q.2, a6))))) (fun a7 => (some (.inl (a7, q.2 + 1)))) q5)))
set_option maxRecDepth 4000 in
theorem t_Pl_restAt_L6 {V : Sm → Wd} (hV : VwC V) {l : Launch} {Γ : Gm} {rF : Option Value} {wF : Wd} {v1 : Int32} {v2 : Int32} {v3 : Int32} {S : Sm} {q : Int32 × Int32} {o : (Int32 × Int32) ⊕ ((Int32 × Int32) ⊕ (Unit))} (h : Pl_restAt_L6 v1 v2 v3 S q = some o) (hK : Sum.elim (hd_Pl_restAt_L6 V l Γ rF wF v1 v2 v3 S) (ps_Pl_restAt_L6 V l Γ rF wF v1 v2 v3 S) o) : hd_Pl_restAt_L6 V l Γ rF wF v1 v2 v3 S q := by
  unfold Pl_restAt_L6 at h
  unfold hd_Pl_restAt_L6
  refine g_iload (pc := 6) dX7_restAt_6 rfl ?_
  refine g_aload_n (pc := 8) dX7_restAt_8 rfl ?_
  refine v_getR hV (pc := 9) dX7_restAt_9 fo_7_0 rfl k0_47 r0_47_0 ?_
  refine v_callVi hV (Mc := mX5_colours) (v := Nt_colours S) (S1 := S) (As := []) (rest := [.int q.2]) (q := (RX5, TX5, 3)) (pc := 12) dX7_restAt_12 mK_X7_111 mf_X5_colours rfl k0_10 rfl rfl rfl (Nat.le_of_ble_eq_true rfl) ⟨Nat.le_of_ble_eq_true rfl, Nat.le_of_ble_eq_true rfl⟩ (r_Nt_colours hV rfl) ?_
  refine g_icmp_ge (tgt := 76) (pc := 15) dX7_restAt_15 (by decide) (fun c8 => ?_) (fun c8 => ?_)
  · rw [if_pos c8] at h
    refine g_wk [false, false, false, false, false, false, false] rfl ?_
    cases h
    exact hK
  · rw [if_neg c8] at h
    refine g_iconst (v := 0) (pc := 18) dX7_restAt_18 (by decide) ?_
    refine g_istore (ls1 := [some (.ref 47), some (.int v1), some (.int v2), some (.int v3), some (.int q.1), some (.int q.2), some (.int 0)]) (pc := 19) dX7_restAt_19 (by decide) rfl ?_
    obtain ⟨q5, hqq5, h⟩ := bnd h
    refine w_Pl_restAt_L21 hV hqq5 ?_
    unfold ps_Pl_restAt_L21
    cases q5 with
    | inl a6 =>
      simp only [Sum.elim_inl] at h
      show G _ _ _ _ _ _ _ _ _ _ _
      cases h
      exact hK
    | inr a7 =>
      simp only [Sum.elim_inr] at h
      show G _ _ _ _ _ _ _ _ _ _ _
      refine g_iinc (v := q.2 + 1) (ls1 := [some (.ref 47), some (.int v1), some (.int v2), some (.int v3), some (.int a7), some (.int (q.2 + 1)), none]) (pc := 70) dX7_restAt_70 rfl rfl (by decide) rfl ?_
      refine g_goto (tgt := 6) (pc := 73) dX7_restAt_73 (by decide) ?_
      cases h
      exact hK
set_option maxRecDepth 4000 in
theorem w_Pl_restAt_L6 {V : Sm → Wd} (hV : VwC V) {l : Launch} {Γ : Gm} {rF : Option Value} {wF : Wd} {v1 : Int32} {v2 : Int32} {v3 : Int32} {S : Sm} {k : Nat} {q : Int32 × Int32} {o : (Int32 × Int32) ⊕ (Unit)} (h : lpN (Pl_restAt_L6 v1 v2 v3 S) k q = some o) (hP : ps_Pl_restAt_L6 V l Γ rF wF v1 v2 v3 S o) : hd_Pl_restAt_L6 V l Γ rF wF v1 v2 v3 S q := lpN_ind2 (hd_Pl_restAt_L6 V l Γ rF wF v1 v2 v3 S) (ps_Pl_restAt_L6 V l Γ rF wF v1 v2 v3 S) (fun s o h hK => t_Pl_restAt_L6 hV h hK) k q o h hP
def Pl_restAt (v1 : Int32) (v2 : Int32) (v3 : Int32) (S : Sm) : Option (Int32) := ((lpN (Pl_restAt_L6 v1 v2 v3 S) FU (0, 0)).bind fun q9 => (Sum.elim (fun a10 => (some ((10 * a10.1) + a10.2))) (fun a11 => (some ((-1)))) q9))
set_option maxRecDepth 4000 in
theorem r_Pl_restAt {V : Sm → Wd} (hV : VwC V) {v1 : Int32} {v2 : Int32} {v3 : Int32} {S : Sm} {q : Int32} (h : Pl_restAt v1 v2 v3 S = some q) : Runs 5 mX7_restAt [.ref 47, .int v1, .int v2, .int v3] (V S) (some (.int q)) (V S) 0 0 := by
  unfold Pl_restAt at h
  refine Runs.of2 [some (.ref 47), some (.int v1), some (.int v2), some (.int v3), none, none, none] 3 rfl rfl (Nat.le_of_ble_eq_true rfl) (fun l Γ => ?_)
  refine g_iconst (v := 0) (pc := 0) dX7_restAt_0 (by decide) ?_
  refine g_istore (ls1 := [some (.ref 47), some (.int v1), some (.int v2), some (.int v3), some (.int 0), none, none]) (pc := 1) dX7_restAt_1 (by decide) rfl ?_
  refine g_iconst (v := 0) (pc := 3) dX7_restAt_3 (by decide) ?_
  refine g_istore (ls1 := [some (.ref 47), some (.int v1), some (.int v2), some (.int v3), some (.int 0), some (.int 0), none]) (pc := 4) dX7_restAt_4 (by decide) rfl ?_
  obtain ⟨q9, hqq9, h⟩ := bnd h
  refine w_Pl_restAt_L6 hV hqq9 ?_
  unfold ps_Pl_restAt_L6
  cases q9 with
  | inl a10 =>
    simp only [Sum.elim_inl] at h
    show G _ _ _ _ _ _ _ _ _ _ _
    refine g_bipush (v := 10) (pc := 52) dX7_restAt_52 (by decide) ?_
    refine g_iload (pc := 54) dX7_restAt_54 rfl ?_
    refine g_imul (pc := 56) dX7_restAt_56 ?_
    refine g_iload (pc := 57) dX7_restAt_57 rfl ?_
    refine g_iadd (pc := 59) dX7_restAt_59 ?_
    cases h
    exact g_iret (pc := 60) dX7_restAt_60 rfl rfl (Nat.le_refl _) (Nat.le_refl _)
  | inr a11 =>
    simp only [Sum.elim_inr] at h
    show G _ _ _ _ _ _ _ _ _ _ _
    refine g_iconst (v := (-1)) (pc := 76) dX7_restAt_76 (by decide) ?_
    cases h
    exact g_iret (pc := 77) dX7_restAt_77 rfl rfl (Nat.le_refl _) (Nat.le_refl _)
def hd_Pl_countRests_L5 (V : Sm → Wd) (l : Launch) (Γ : Gm) (rF : Option Value) (wF : Wd) (v1 : Int32) (v2 : Int32) (S : Sm) (q : Int32 × Int32) : Prop := G mX7_countRests l Γ (rmD 5 0 0) (mQ Γ rF wF 0 0) 0 0 5 [some (.ref 47), some (.int v1), some (.int v2), some (.int q.1), some (.int q.2), none] [] (V S)
def ps_Pl_countRests_L5 (V : Sm → Wd) (l : Launch) (Γ : Gm) (rF : Option Value) (wF : Wd) (v1 : Int32) (v2 : Int32) (S : Sm) (x : Int32) : Prop := (fun (a : Int32) => G mX7_countRests l Γ (rmD 5 0 0) (mQ Γ rF wF 0 0) 0 0 65 [none, none, none, some (.int a), none, none] [] (V S)) x
def hd_Pl_countRests_L20 (V : Sm → Wd) (l : Launch) (Γ : Gm) (rF : Option Value) (wF : Wd) (v1 : Int32) (v2 : Int32) (v4 : Int32) (S : Sm) (q : Int32 × Int32) : Prop := G mX7_countRests l Γ (rmD 5 0 0) (mQ Γ rF wF 0 0) 0 0 20 [some (.ref 47), some (.int v1), some (.int v2), some (.int q.1), some (.int v4), some (.int q.2)] [] (V S)
def ps_Pl_countRests_L20 (V : Sm → Wd) (l : Launch) (Γ : Gm) (rF : Option Value) (wF : Wd) (v1 : Int32) (v2 : Int32) (v4 : Int32) (S : Sm) (x : Int32) : Prop := (fun (a : Int32) => G mX7_countRests l Γ (rmD 5 0 0) (mQ Γ rF wF 0 0) 0 0 59 [some (.ref 47), some (.int v1), some (.int v2), some (.int a), some (.int v4), none] [] (V S)) x
def Pl_countRests_51_L20 (v1 : Int32) (v2 : Int32) (v4 : Int32) (v5 : Int32) (s0 : Int32) (s1 : Int32) (S : Sm) : Option ((Int32 × Int32) ⊕ (Int32)) := (some (.inl (s0 + s1, v5 + 1)))
set_option maxRecDepth 4000 in
theorem t_Pl_countRests_51_L20 {V : Sm → Wd} (hV : VwC V) {l : Launch} {Γ : Gm} {v1 : Int32} {v2 : Int32} {v4 : Int32} {v5 : Int32} {s0 : Int32} {s1 : Int32} {rF : Option Value} {wF : Wd} {S : Sm} {o : (Int32 × Int32) ⊕ (Int32)} (h : Pl_countRests_51_L20 v1 v2 v4 v5 s0 s1 S = some o) (hK : Sum.elim (hd_Pl_countRests_L20 V l Γ rF wF v1 v2 v4 S) (ps_Pl_countRests_L20 V l Γ rF wF v1 v2 v4 S) o) : G mX7_countRests l Γ (rmD 5 0 0) (mQ Γ rF wF 0 0) 0 0 51 [some (.ref 47), some (.int v1), some (.int v2), none, some (.int v4), some (.int v5)] [.int s1, .int s0] (V S) := by
  unfold Pl_countRests_51_L20 at h
  refine g_iadd (pc := 51) dX7_countRests_51 ?_
  refine g_istore_n (ls1 := [some (.ref 47), some (.int v1), some (.int v2), some (.int (s0 + s1)), some (.int v4), some (.int v5)]) (pc := 52) dX7_countRests_52 (by decide) rfl ?_
  refine g_iinc (v := v5 + 1) (ls1 := [some (.ref 47), some (.int v1), some (.int v2), some (.int (s0 + s1)), some (.int v4), some (.int (v5 + 1))]) (pc := 53) dX7_countRests_53 rfl rfl (by decide) rfl ?_
  refine g_goto (tgt := 20) (pc := 56) dX7_countRests_56 (by decide) ?_
  cases h
  exact hK
def Pl_countRests_L20 (v1 : Int32) (v2 : Int32) (v4 : Int32) (S : Sm) (q : Int32 × Int32) : Option ((Int32 × Int32) ⊕ (Int32)) := (if (Nt_mouths S) ≤ q.2 then (some (.inr q.1)) else ((Pl_isRest v1 v2 v4 q.2 S).bind fun q1 => (if q1 = 0 then (Pl_countRests_51_L20 v1 v2 v4 q.2 q.1 0 S) else (Pl_countRests_51_L20 v1 v2 v4 q.2 q.1 1 S))))
set_option maxRecDepth 4000 in
theorem t_Pl_countRests_L20 {V : Sm → Wd} (hV : VwC V) {l : Launch} {Γ : Gm} {rF : Option Value} {wF : Wd} {v1 : Int32} {v2 : Int32} {v4 : Int32} {S : Sm} {q : Int32 × Int32} {o : (Int32 × Int32) ⊕ (Int32)} (h : Pl_countRests_L20 v1 v2 v4 S q = some o) (hK : Sum.elim (hd_Pl_countRests_L20 V l Γ rF wF v1 v2 v4 S) (ps_Pl_countRests_L20 V l Γ rF wF v1 v2 v4 S) o) : hd_Pl_countRests_L20 V l Γ rF wF v1 v2 v4 S q := by
  unfold Pl_countRests_L20 at h
  unfold hd_Pl_countRests_L20
  refine g_iload (pc := 20) dX7_countRests_20 rfl ?_
  refine g_aload_n (pc := 22) dX7_countRests_22 rfl ?_
  refine v_getR hV (pc := 23) dX7_countRests_23 fo_7_0 rfl k0_47 r0_47_0 ?_
  refine v_callVi hV (Mc := mX5_mouths) (v := Nt_mouths S) (S1 := S) (As := []) (rest := [.int q.2]) (q := (RX5, TX5, 3)) (pc := 26) dX7_countRests_26 mK_X7_114 mf_X5_mouths rfl k0_10 rfl rfl rfl (Nat.le_of_ble_eq_true rfl) ⟨Nat.le_of_ble_eq_true rfl, Nat.le_of_ble_eq_true rfl⟩ (r_Nt_mouths hV rfl) ?_
  refine g_icmp_ge (tgt := 59) (pc := 29) dX7_countRests_29 (by decide) (fun c3 => ?_) (fun c3 => ?_)
  · rw [if_pos c3] at h
    refine g_wk [true, true, true, true, true, false] rfl ?_
    cases h
    exact hK
  · rw [if_neg c3] at h
    refine g_iload_n (pc := 32) dX7_countRests_32 rfl ?_
    refine g_aload_n (pc := 33) dX7_countRests_33 rfl ?_
    refine g_iload_n (pc := 34) dX7_countRests_34 rfl ?_
    refine g_iload_n (pc := 35) dX7_countRests_35 rfl ?_
    refine g_iload (pc := 36) dX7_countRests_36 rfl ?_
    refine g_iload (pc := 38) dX7_countRests_38 rfl ?_
    obtain ⟨q1, hq1, h⟩ := bnd h
    refine v_callVi hV (Mc := mX7_isRest) (v := q1) (S1 := S) (As := [.int v1, .int v2, .int v4, .int q.2]) (rest := [.int q.1]) (q := (RX7, TX7, 9)) (pc := 40) dX7_countRests_40 mK_X7_117 mf_X7_isRest rfl k0_47 rfl rfl rfl (Nat.le_of_ble_eq_true rfl) ⟨Nat.le_of_ble_eq_true rfl, Nat.le_of_ble_eq_true rfl⟩ (r_Pl_isRest hV hq1) ?_
    refine g_if_eq (tgt := 50) (pc := 43) dX7_countRests_43 (by decide) (fun c2 => ?_) (fun c2 => ?_)
    · rw [if_pos c2] at h
      refine g_iconst (v := 0) (pc := 50) dX7_countRests_50 (by decide) ?_
      refine g_wk [true, true, true, false, true, true] rfl ?_
      exact t_Pl_countRests_51_L20 hV h hK
    · rw [if_neg c2] at h
      refine g_iconst (v := 1) (pc := 46) dX7_countRests_46 (by decide) ?_
      refine g_goto (tgt := 51) (pc := 47) dX7_countRests_47 (by decide) ?_
      refine g_wk [true, true, true, false, true, true] rfl ?_
      exact t_Pl_countRests_51_L20 hV h hK
set_option maxRecDepth 4000 in
theorem w_Pl_countRests_L20 {V : Sm → Wd} (hV : VwC V) {l : Launch} {Γ : Gm} {rF : Option Value} {wF : Wd} {v1 : Int32} {v2 : Int32} {v4 : Int32} {S : Sm} {k : Nat} {q : Int32 × Int32} {o : Int32} (h : lpN (Pl_countRests_L20 v1 v2 v4 S) k q = some o) (hP : ps_Pl_countRests_L20 V l Γ rF wF v1 v2 v4 S o) : hd_Pl_countRests_L20 V l Γ rF wF v1 v2 v4 S q := lpN_ind2 (hd_Pl_countRests_L20 V l Γ rF wF v1 v2 v4 S) (ps_Pl_countRests_L20 V l Γ rF wF v1 v2 v4 S) (fun s o h hK => t_Pl_countRests_L20 hV h hK) k q o h hP
def Pl_countRests_L5 (v1 : Int32) (v2 : Int32) (S : Sm) (q : Int32 × Int32) : Option ((Int32 × Int32) ⊕ (Int32)) := (if (Nt_colours S) ≤ q.2 then (some (.inr q.1)) else ((lpN (Pl_countRests_L20 v1 v2 q.2 S) FU (q.1, 0)).bind fun q4 => (some (.inl (q4, q.2 + 1)))))
set_option maxRecDepth 4000 in
theorem t_Pl_countRests_L5 {V : Sm → Wd} (hV : VwC V) {l : Launch} {Γ : Gm} {rF : Option Value} {wF : Wd} {v1 : Int32} {v2 : Int32} {S : Sm} {q : Int32 × Int32} {o : (Int32 × Int32) ⊕ (Int32)} (h : Pl_countRests_L5 v1 v2 S q = some o) (hK : Sum.elim (hd_Pl_countRests_L5 V l Γ rF wF v1 v2 S) (ps_Pl_countRests_L5 V l Γ rF wF v1 v2 S) o) : hd_Pl_countRests_L5 V l Γ rF wF v1 v2 S q := by
  unfold Pl_countRests_L5 at h
  unfold hd_Pl_countRests_L5
  refine g_iload (pc := 5) dX7_countRests_5 rfl ?_
  refine g_aload_n (pc := 7) dX7_countRests_7 rfl ?_
  refine v_getR hV (pc := 8) dX7_countRests_8 fo_7_0 rfl k0_47 r0_47_0 ?_
  refine v_callVi hV (Mc := mX5_colours) (v := Nt_colours S) (S1 := S) (As := []) (rest := [.int q.2]) (q := (RX5, TX5, 3)) (pc := 11) dX7_countRests_11 mK_X7_111 mf_X5_colours rfl k0_10 rfl rfl rfl (Nat.le_of_ble_eq_true rfl) ⟨Nat.le_of_ble_eq_true rfl, Nat.le_of_ble_eq_true rfl⟩ (r_Nt_colours hV rfl) ?_
  refine g_icmp_ge (tgt := 65) (pc := 14) dX7_countRests_14 (by decide) (fun c5 => ?_) (fun c5 => ?_)
  · rw [if_pos c5] at h
    refine g_wk [false, false, false, true, false, false] rfl ?_
    cases h
    exact hK
  · rw [if_neg c5] at h
    refine g_iconst (v := 0) (pc := 17) dX7_countRests_17 (by decide) ?_
    refine g_istore (ls1 := [some (.ref 47), some (.int v1), some (.int v2), some (.int q.1), some (.int q.2), some (.int 0)]) (pc := 18) dX7_countRests_18 (by decide) rfl ?_
    obtain ⟨q4, hqq4, h⟩ := bnd h
    refine w_Pl_countRests_L20 hV hqq4 ?_
    unfold ps_Pl_countRests_L20
    show G _ _ _ _ _ _ _ _ _ _ _
    refine g_iinc (v := q.2 + 1) (ls1 := [some (.ref 47), some (.int v1), some (.int v2), some (.int q4), some (.int (q.2 + 1)), none]) (pc := 59) dX7_countRests_59 rfl rfl (by decide) rfl ?_
    refine g_goto (tgt := 5) (pc := 62) dX7_countRests_62 (by decide) ?_
    cases h
    exact hK
set_option maxRecDepth 4000 in
theorem w_Pl_countRests_L5 {V : Sm → Wd} (hV : VwC V) {l : Launch} {Γ : Gm} {rF : Option Value} {wF : Wd} {v1 : Int32} {v2 : Int32} {S : Sm} {k : Nat} {q : Int32 × Int32} {o : Int32} (h : lpN (Pl_countRests_L5 v1 v2 S) k q = some o) (hP : ps_Pl_countRests_L5 V l Γ rF wF v1 v2 S o) : hd_Pl_countRests_L5 V l Γ rF wF v1 v2 S q := lpN_ind2 (hd_Pl_countRests_L5 V l Γ rF wF v1 v2 S) (ps_Pl_countRests_L5 V l Γ rF wF v1 v2 S) (fun s o h hK => t_Pl_countRests_L5 hV h hK) k q o h hP
def Pl_countRests (v1 : Int32) (v2 : Int32) (S : Sm) : Option (Int32) := ((lpN (Pl_countRests_L5 v1 v2 S) FU (0, 0)).bind fun q6 => (some q6))
set_option maxRecDepth 4000 in
theorem r_Pl_countRests {V : Sm → Wd} (hV : VwC V) {v1 : Int32} {v2 : Int32} {S : Sm} {q : Int32} (h : Pl_countRests v1 v2 S = some q) : Runs 5 mX7_countRests [.ref 47, .int v1, .int v2] (V S) (some (.int q)) (V S) 0 0 := by
  unfold Pl_countRests at h
  refine Runs.of2 [some (.ref 47), some (.int v1), some (.int v2), none, none, none] 3 rfl rfl (Nat.le_of_ble_eq_true rfl) (fun l Γ => ?_)
  refine g_iconst (v := 0) (pc := 0) dX7_countRests_0 (by decide) ?_
  refine g_istore_n (ls1 := [some (.ref 47), some (.int v1), some (.int v2), some (.int 0), none, none]) (pc := 1) dX7_countRests_1 (by decide) rfl ?_
  refine g_iconst (v := 0) (pc := 2) dX7_countRests_2 (by decide) ?_
  refine g_istore (ls1 := [some (.ref 47), some (.int v1), some (.int v2), some (.int 0), some (.int 0), none]) (pc := 3) dX7_countRests_3 (by decide) rfl ?_
  obtain ⟨q6, hqq6, h⟩ := bnd h
  refine w_Pl_countRests_L5 hV hqq6 ?_
  unfold ps_Pl_countRests_L5
  show G _ _ _ _ _ _ _ _ _ _ _
  refine g_iload_n (pc := 65) dX7_countRests_65 rfl ?_
  cases h
  exact g_iret (pc := 66) dX7_countRests_66 rfl rfl (Nat.le_refl _) (Nat.le_refl _)
def Dk_rests_27 (S : Sm) : Option (Int32) := (some ((-1)))
set_option maxRecDepth 4000 in
theorem t_Dk_rests_27 {V : Sm → Wd} (hV : VwC V) {l : Launch} {Γ : Gm}  {S : Sm} {q : Int32} (h : Dk_rests_27 S = some q) : G mX11_rests l Γ (rmD 6 0 0) (mQ Γ (some (.int q)) (V S) 0 0) 0 0 27 [none, none, none, none] [] (V S) := by
  unfold Dk_rests_27 at h
  refine g_iconst (v := (-1)) (pc := 27) dX11_rests_27 (by decide) ?_
  cases h
  exact g_iret (pc := 28) dX11_rests_28 rfl rfl (Nat.le_refl _) (Nat.le_refl _)
def Dk_rests_56 (s0 : Int32) (S : Sm) : Option (Int32) := (some s0)
set_option maxRecDepth 4000 in
theorem t_Dk_rests_56 {V : Sm → Wd} (hV : VwC V) {l : Launch} {Γ : Gm} {s0 : Int32} {S : Sm} {q : Int32} (h : Dk_rests_56 s0 S = some q) : G mX11_rests l Γ (rmD 6 0 0) (mQ Γ (some (.int q)) (V S) 0 0) 0 0 56 [none, none, none, none] [.int s0] (V S) := by
  unfold Dk_rests_56 at h
  cases h
  exact g_iret (pc := 56) dX11_rests_56 rfl rfl (Nat.le_refl _) (Nat.le_refl _)
def Dk_rests (v1 : Int32) (v2 : Int32) (v3 : Int32) (S : Sm) : Option (Int32) := (if (Nt_hasMouth v1 S) = 0 then (Dk_rests_27 S) else (if v2 < 1 then (Dk_rests_27 S) else (if (9 : Int32) < v2 then (Dk_rests_27 S) else (if (-1 : Int32) ≤ v3 then (if v3 = ((-1)) then ((Pl_countRests v1 v2 S).bind fun q2 => (Dk_rests_56 q2 S)) else ((Pl_restAt v1 v2 v3 S).bind fun q1 => (Dk_rests_56 q1 S))) else (Dk_rests_27 S)))))
set_option maxRecDepth 4000 in
theorem r_Dk_rests {V : Sm → Wd} (hV : VwC V) {v1 : Int32} {v2 : Int32} {v3 : Int32} {S : Sm} {q : Int32} (h : Dk_rests v1 v2 v3 S = some q) : Runs 6 mX11_rests [.ref 7, .int v1, .int v2, .int v3] (V S) (some (.int q)) (V S) 0 0 := by
  unfold Dk_rests at h
  refine Runs.of2 [some (.ref 7), some (.int v1), some (.int v2), some (.int v3)] 0 rfl rfl (Nat.le_of_ble_eq_true rfl) (fun l Γ => ?_)
  refine g_aload_n (pc := 0) dX11_rests_0 rfl ?_
  refine v_getR hV (pc := 1) dX11_rests_1 fo_11_1 rfl k0_7 r0_7_1 ?_
  refine g_iload_n (pc := 4) dX11_rests_4 rfl ?_
  refine v_callVi hV (Mc := mX5_hasMouth) (v := Nt_hasMouth v1 S) (S1 := S) (As := [.int v1]) (rest := []) (q := (RX5, TX5, 3)) (pc := 5) dX11_rests_5 mK_X11_140 mf_X5_hasMouth rfl k0_10 rfl rfl rfl (Nat.le_of_ble_eq_true rfl) ⟨Nat.le_of_ble_eq_true rfl, Nat.le_of_ble_eq_true rfl⟩ (r_Nt_hasMouth hV rfl) ?_
  refine g_if_eq (tgt := 27) (pc := 8) dX11_rests_8 (by decide) (fun c7 => ?_) (fun c7 => ?_)
  · rw [if_pos c7] at h
    refine g_wk [false, false, false, false] rfl ?_
    exact t_Dk_rests_27 hV h
  · rw [if_neg c7] at h
    refine g_iload_n (pc := 11) dX11_rests_11 rfl ?_
    refine g_iconst (v := 1) (pc := 12) dX11_rests_12 (by decide) ?_
    refine g_icmp_lt (tgt := 27) (pc := 13) dX11_rests_13 (by decide) (fun c6 => ?_) (fun c6 => ?_)
    · rw [if_pos c6] at h
      refine g_wk [false, false, false, false] rfl ?_
      exact t_Dk_rests_27 hV h
    · rw [if_neg c6] at h
      refine g_iload_n (pc := 16) dX11_rests_16 rfl ?_
      refine g_bipush (v := 9) (pc := 17) dX11_rests_17 (by decide) ?_
      refine g_icmp_gt (tgt := 27) (pc := 19) dX11_rests_19 (by decide) (fun c5 => ?_) (fun c5 => ?_)
      · rw [if_pos c5] at h
        refine g_wk [false, false, false, false] rfl ?_
        exact t_Dk_rests_27 hV h
      · rw [if_neg c5] at h
        refine g_iload_n (pc := 22) dX11_rests_22 rfl ?_
        refine g_iconst (v := (-1)) (pc := 23) dX11_rests_23 (by decide) ?_
        refine g_icmp_ge (tgt := 29) (pc := 24) dX11_rests_24 (by decide) (fun c4 => ?_) (fun c4 => ?_)
        · rw [if_pos c4] at h
          refine g_iload_n (pc := 29) dX11_rests_29 rfl ?_
          refine g_iconst (v := (-1)) (pc := 30) dX11_rests_30 (by decide) ?_
          refine g_icmp_ne (tgt := 46) (pc := 31) dX11_rests_31 (by decide) (fun c3 => ?_) (fun c3 => ?_)
          · rw [if_neg c3] at h
            refine g_aload_n (pc := 46) dX11_rests_46 rfl ?_
            refine v_getR hV (pc := 47) dX11_rests_47 fo_11_11 rfl k0_7 r0_7_11 ?_
            refine g_iload_n (pc := 50) dX11_rests_50 rfl ?_
            refine g_iload_n (pc := 51) dX11_rests_51 rfl ?_
            refine g_iload_n (pc := 52) dX11_rests_52 rfl ?_
            obtain ⟨q1, hq1, h⟩ := bnd h
            refine v_callVi hV (Mc := mX7_restAt) (v := q1) (S1 := S) (As := [.int v1, .int v2, .int v3]) (rest := []) (q := (RX7, TX7, 9)) (pc := 53) dX11_rests_53 mK_X11_311 mf_X7_restAt rfl k0_47 rfl rfl rfl (Nat.le_of_ble_eq_true rfl) ⟨Nat.le_of_ble_eq_true rfl, Nat.le_of_ble_eq_true rfl⟩ (r_Pl_restAt hV hq1) ?_
            refine g_wk [false, false, false, false] rfl ?_
            exact t_Dk_rests_56 hV h
          · rw [if_pos c3] at h
            refine g_aload_n (pc := 34) dX11_rests_34 rfl ?_
            refine v_getR hV (pc := 35) dX11_rests_35 fo_11_11 rfl k0_7 r0_7_11 ?_
            refine g_iload_n (pc := 38) dX11_rests_38 rfl ?_
            refine g_iload_n (pc := 39) dX11_rests_39 rfl ?_
            obtain ⟨q2, hq2, h⟩ := bnd h
            refine v_callVi hV (Mc := mX7_countRests) (v := q2) (S1 := S) (As := [.int v1, .int v2]) (rest := []) (q := (RX7, TX7, 9)) (pc := 40) dX11_rests_40 mK_X11_308 mf_X7_countRests rfl k0_47 rfl rfl rfl (Nat.le_of_ble_eq_true rfl) ⟨Nat.le_of_ble_eq_true rfl, Nat.le_of_ble_eq_true rfl⟩ (r_Pl_countRests hV hq2) ?_
            refine g_goto (tgt := 56) (pc := 43) dX11_rests_43 (by decide) ?_
            refine g_wk [false, false, false, false] rfl ?_
            exact t_Dk_rests_56 hV h
        · rw [if_neg c4] at h
          refine g_wk [false, false, false, false] rfl ?_
          exact t_Dk_rests_27 hV h
def hd_Mo_trainsInside_L4 (V : Sm → Wd) (l : Launch) (Γ : Gm) (rF : Option Value) (wF : Wd) (S : Sm) (q : Int32 × Int32) : Prop := G mX4_trainsInside l Γ (rmD 2 0 0) (mQ Γ rF wF 0 0) 0 0 4 [some (.ref 25), some (.int q.1), some (.int q.2)] [] (V S)
def ps_Mo_trainsInside_L4 (V : Sm → Wd) (l : Launch) (Γ : Gm) (rF : Option Value) (wF : Wd) (S : Sm) (x : Int32) : Prop := (fun (a : Int32) => G mX4_trainsInside l Γ (rmD 2 0 0) (mQ Γ rF wF 0 0) 0 0 29 [none, some (.int a), none] [] (V S)) x
def Mo_trainsInside_L4 (S : Sm) (q : Int32 × Int32) : Option ((Int32 × Int32) ⊕ (Int32)) := (if (gi S 25 4) ≤ q.2 then (some (.inr q.1)) else (some (.inl (q.1 ||| (iShl (Mo_ofTrain q.2 5 S) q.2), q.2 + 1))))
set_option maxRecDepth 4000 in
theorem t_Mo_trainsInside_L4 {V : Sm → Wd} (hV : VwC V) {l : Launch} {Γ : Gm} {rF : Option Value} {wF : Wd} {S : Sm} {q : Int32 × Int32} {o : (Int32 × Int32) ⊕ (Int32)} (h : Mo_trainsInside_L4 S q = some o) (hK : Sum.elim (hd_Mo_trainsInside_L4 V l Γ rF wF S) (ps_Mo_trainsInside_L4 V l Γ rF wF S) o) : hd_Mo_trainsInside_L4 V l Γ rF wF S q := by
  unfold Mo_trainsInside_L4 at h
  unfold hd_Mo_trainsInside_L4
  refine g_iload_n (pc := 4) dX4_trainsInside_4 rfl ?_
  refine g_aload_n (pc := 5) dX4_trainsInside_5 rfl ?_
  refine v_getI hV (pc := 6) dX4_trainsInside_6 fo_4_4 rfl k0_25 own_25 ?_
  refine g_icmp_ge (tgt := 29) (pc := 9) dX4_trainsInside_9 (by decide) (fun c1 => ?_) (fun c1 => ?_)
  · rw [if_pos c1] at h
    refine g_wk [false, true, false] rfl ?_
    cases h
    exact hK
  · rw [if_neg c1] at h
    refine g_iload_n (pc := 12) dX4_trainsInside_12 rfl ?_
    refine g_aload_n (pc := 13) dX4_trainsInside_13 rfl ?_
    refine g_iload_n (pc := 14) dX4_trainsInside_14 rfl ?_
    refine g_iconst (v := 5) (pc := 15) dX4_trainsInside_15 (by decide) ?_
    refine v_callVi hV (Mc := mX4_ofTrain) (v := Mo_ofTrain q.2 5 S) (S1 := S) (As := [.int q.2, .int 5]) (rest := [.int q.1]) (q := (RX4, TX4, 8)) (pc := 16) dX4_trainsInside_16 mK_X4_83 mf_X4_ofTrain rfl k0_25 rfl rfl rfl (Nat.le_of_ble_eq_true rfl) ⟨Nat.le_of_ble_eq_true rfl, Nat.le_of_ble_eq_true rfl⟩ (r_Mo_ofTrain hV rfl) ?_
    refine g_iload_n (pc := 19) dX4_trainsInside_19 rfl ?_
    refine g_ishl (pc := 20) dX4_trainsInside_20 ?_
    refine g_ior (pc := 21) dX4_trainsInside_21 ?_
    refine g_istore_n (ls1 := [some (.ref 25), some (.int (q.1 ||| (iShl (Mo_ofTrain q.2 5 S) q.2))), some (.int q.2)]) (pc := 22) dX4_trainsInside_22 (by decide) rfl ?_
    refine g_iinc (v := q.2 + 1) (ls1 := [some (.ref 25), some (.int (q.1 ||| (iShl (Mo_ofTrain q.2 5 S) q.2))), some (.int (q.2 + 1))]) (pc := 23) dX4_trainsInside_23 rfl rfl (by decide) rfl ?_
    refine g_goto (tgt := 4) (pc := 26) dX4_trainsInside_26 (by decide) ?_
    cases h
    exact hK
set_option maxRecDepth 4000 in
theorem w_Mo_trainsInside_L4 {V : Sm → Wd} (hV : VwC V) {l : Launch} {Γ : Gm} {rF : Option Value} {wF : Wd} {S : Sm} {k : Nat} {q : Int32 × Int32} {o : Int32} (h : lpN (Mo_trainsInside_L4 S) k q = some o) (hP : ps_Mo_trainsInside_L4 V l Γ rF wF S o) : hd_Mo_trainsInside_L4 V l Γ rF wF S q := lpN_ind2 (hd_Mo_trainsInside_L4 V l Γ rF wF S) (ps_Mo_trainsInside_L4 V l Γ rF wF S) (fun s o h hK => t_Mo_trainsInside_L4 hV h hK) k q o h hP
def Mo_trainsInside (S : Sm) : Option (Int32) := ((lpN (Mo_trainsInside_L4 S) FU (0, 0)).bind fun q2 => (some q2))
set_option maxRecDepth 4000 in
theorem r_Mo_trainsInside {V : Sm → Wd} (hV : VwC V)  {S : Sm} {q : Int32} (h : Mo_trainsInside S = some q) : Runs 2 mX4_trainsInside [.ref 25] (V S) (some (.int q)) (V S) 0 0 := by
  unfold Mo_trainsInside at h
  refine Runs.of2 [some (.ref 25), none, none] 2 rfl rfl (Nat.le_of_ble_eq_true rfl) (fun l Γ => ?_)
  refine g_iconst (v := 0) (pc := 0) dX4_trainsInside_0 (by decide) ?_
  refine g_istore_n (ls1 := [some (.ref 25), some (.int 0), none]) (pc := 1) dX4_trainsInside_1 (by decide) rfl ?_
  refine g_iconst (v := 0) (pc := 2) dX4_trainsInside_2 (by decide) ?_
  refine g_istore_n (ls1 := [some (.ref 25), some (.int 0), some (.int 0)]) (pc := 3) dX4_trainsInside_3 (by decide) rfl ?_
  obtain ⟨q2, hqq2, h⟩ := bnd h
  refine w_Mo_trainsInside_L4 hV hqq2 ?_
  unfold ps_Mo_trainsInside_L4
  show G _ _ _ _ _ _ _ _ _ _ _
  refine g_iload_n (pc := 29) dX4_trainsInside_29 rfl ?_
  cases h
  exact g_iret (pc := 30) dX4_trainsInside_30 rfl rfl (Nat.le_refl _) (Nat.le_refl _)
def Dk_astray_21 (s0 : Int32) (S : Sm) : Option (Int32) := (some s0)
set_option maxRecDepth 4000 in
theorem t_Dk_astray_21 {V : Sm → Wd} (hV : VwC V) {l : Launch} {Γ : Gm} {s0 : Int32} {S : Sm} {q : Int32} (h : Dk_astray_21 s0 S = some q) : G mX11_astray l Γ (rmD 3 0 0) (mQ Γ (some (.int q)) (V S) 0 0) 0 0 21 [none] [.int s0] (V S) := by
  unfold Dk_astray_21 at h
  cases h
  exact g_iret (pc := 21) dX11_astray_21 rfl rfl (Nat.le_refl _) (Nat.le_refl _)
def Dk_astray (S : Sm) : Option (Int32) := (if (Nt_isTold S) = 0 then (Dk_astray_21 ((-1)) S) else ((Mo_trainsInside S).bind fun q1 => (Dk_astray_21 q1 S)))
set_option maxRecDepth 4000 in
theorem r_Dk_astray {V : Sm → Wd} (hV : VwC V)  {S : Sm} {q : Int32} (h : Dk_astray S = some q) : Runs 3 mX11_astray [.ref 7] (V S) (some (.int q)) (V S) 0 0 := by
  unfold Dk_astray at h
  refine Runs.of2 [some (.ref 7)] 0 rfl rfl (Nat.le_of_ble_eq_true rfl) (fun l Γ => ?_)
  refine g_aload_n (pc := 0) dX11_astray_0 rfl ?_
  refine v_getR hV (pc := 1) dX11_astray_1 fo_11_1 rfl k0_7 r0_7_1 ?_
  refine v_callVi hV (Mc := mX5_isTold) (v := Nt_isTold S) (S1 := S) (As := []) (rest := []) (q := (RX5, TX5, 3)) (pc := 4) dX11_astray_4 mK_X11_258 mf_X5_isTold rfl k0_10 rfl rfl rfl (Nat.le_of_ble_eq_true rfl) ⟨Nat.le_of_ble_eq_true rfl, Nat.le_of_ble_eq_true rfl⟩ (r_Nt_isTold hV rfl) ?_
  refine g_if_eq (tgt := 20) (pc := 7) dX11_astray_7 (by decide) (fun c2 => ?_) (fun c2 => ?_)
  · rw [if_pos c2] at h
    refine g_iconst (v := (-1)) (pc := 20) dX11_astray_20 (by decide) ?_
    refine g_wk [false] rfl ?_
    exact t_Dk_astray_21 hV h
  · rw [if_neg c2] at h
    refine g_aload_n (pc := 10) dX11_astray_10 rfl ?_
    refine v_getR hV (pc := 11) dX11_astray_11 fo_11_6 rfl k0_7 r0_7_6 ?_
    obtain ⟨q1, hq1, h⟩ := bnd h
    refine v_callVi hV (Mc := mX4_trainsInside) (v := q1) (S1 := S) (As := []) (rest := []) (q := (RX4, TX4, 8)) (pc := 14) dX11_astray_14 mK_X11_314 mf_X4_trainsInside rfl k0_25 rfl rfl rfl (Nat.le_of_ble_eq_true rfl) ⟨Nat.le_of_ble_eq_true rfl, Nat.le_of_ble_eq_true rfl⟩ (r_Mo_trainsInside hV hq1) ?_
    refine g_goto (tgt := 21) (pc := 17) dX11_astray_17 (by decide) ?_
    refine g_wk [false] rfl ?_
    exact t_Dk_astray_21 hV h
def Mo_hoursTillOut_26 (s0 : Int32) (S : Sm) : Int32 := s0
set_option maxRecDepth 4000 in
theorem t_Mo_hoursTillOut_26 {V : Sm → Wd} (hV : VwC V) {l : Launch} {Γ : Gm} {s0 : Int32} {S : Sm} {q : Int32} (h : Mo_hoursTillOut_26 s0 S = q) : G mX4_hoursTillOut l Γ (rmD 2 0 0) (mQ Γ (some (.int q)) (V S) 0 0) 0 0 26 [none, none] [.int s0] (V S) := by
  unfold Mo_hoursTillOut_26 at h
  subst h
  exact g_iret (pc := 26) dX4_hoursTillOut_26 rfl rfl (Nat.le_refl _) (Nat.le_refl _)
def Mo_hoursTillOut (v1 : Int32) (S : Sm) : Int32 := (if (Mo_ofTrain v1 5 S) = 1 then (Mo_hoursTillOut_26 ((Mo_ofTrain v1 6 S) - (gi S 25 5)) S) else (Mo_hoursTillOut_26 0 S))
set_option maxRecDepth 4000 in
theorem r_Mo_hoursTillOut {V : Sm → Wd} (hV : VwC V) {v1 : Int32} {S : Sm} {q : Int32} (h : Mo_hoursTillOut v1 S = q) : Runs 2 mX4_hoursTillOut [.ref 25, .int v1] (V S) (some (.int q)) (V S) 0 0 := by
  unfold Mo_hoursTillOut at h
  refine Runs.of2 [some (.ref 25), some (.int v1)] 0 rfl rfl (Nat.le_of_ble_eq_true rfl) (fun l Γ => ?_)
  refine g_aload_n (pc := 0) dX4_hoursTillOut_0 rfl ?_
  refine g_iload_n (pc := 1) dX4_hoursTillOut_1 rfl ?_
  refine g_iconst (v := 5) (pc := 2) dX4_hoursTillOut_2 (by decide) ?_
  refine v_callVi hV (Mc := mX4_ofTrain) (v := Mo_ofTrain v1 5 S) (S1 := S) (As := [.int v1, .int 5]) (rest := []) (q := (RX4, TX4, 8)) (pc := 3) dX4_hoursTillOut_3 mK_X4_83 mf_X4_ofTrain rfl k0_25 rfl rfl rfl (Nat.le_of_ble_eq_true rfl) ⟨Nat.le_of_ble_eq_true rfl, Nat.le_of_ble_eq_true rfl⟩ (r_Mo_ofTrain hV rfl) ?_
  refine g_iconst (v := 1) (pc := 6) dX4_hoursTillOut_6 (by decide) ?_
  refine g_icmp_ne (tgt := 25) (pc := 7) dX4_hoursTillOut_7 (by decide) (fun c1 => ?_) (fun c1 => ?_)
  · rw [if_neg c1] at h
    refine g_iconst (v := 0) (pc := 25) dX4_hoursTillOut_25 (by decide) ?_
    refine g_wk [false, false] rfl ?_
    exact t_Mo_hoursTillOut_26 hV h
  · rw [if_pos c1] at h
    refine g_aload_n (pc := 10) dX4_hoursTillOut_10 rfl ?_
    refine g_iload_n (pc := 11) dX4_hoursTillOut_11 rfl ?_
    refine g_bipush (v := 6) (pc := 12) dX4_hoursTillOut_12 (by decide) ?_
    refine v_callVi hV (Mc := mX4_ofTrain) (v := Mo_ofTrain v1 6 S) (S1 := S) (As := [.int v1, .int 6]) (rest := []) (q := (RX4, TX4, 8)) (pc := 14) dX4_hoursTillOut_14 mK_X4_83 mf_X4_ofTrain rfl k0_25 rfl rfl rfl (Nat.le_of_ble_eq_true rfl) ⟨Nat.le_of_ble_eq_true rfl, Nat.le_of_ble_eq_true rfl⟩ (r_Mo_ofTrain hV rfl) ?_
    refine g_aload_n (pc := 17) dX4_hoursTillOut_17 rfl ?_
    refine v_getI hV (pc := 18) dX4_hoursTillOut_18 fo_4_5 rfl k0_25 own_25 ?_
    refine g_isub (pc := 21) dX4_hoursTillOut_21 ?_
    refine g_goto (tgt := 26) (pc := 22) dX4_hoursTillOut_22 (by decide) ?_
    refine g_wk [false, false] rfl ?_
    exact t_Mo_hoursTillOut_26 hV h
def Dk_due_23 (s0 : Int32) (S : Sm) : Int32 := s0
set_option maxRecDepth 4000 in
theorem t_Dk_due_23 {V : Sm → Wd} (hV : VwC V) {l : Launch} {Γ : Gm} {s0 : Int32} {S : Sm} {q : Int32} (h : Dk_due_23 s0 S = q) : G mX11_due l Γ (rmD 3 0 0) (mQ Γ (some (.int q)) (V S) 0 0) 0 0 23 [none, none] [.int s0] (V S) := by
  unfold Dk_due_23 at h
  subst h
  exact g_iret (pc := 23) dX11_due_23 rfl rfl (Nat.le_refl _) (Nat.le_refl _)
def Dk_due (v1 : Int32) (S : Sm) : Int32 := (if (Mo_hasTrain v1 S) = 0 then (Dk_due_23 ((-1)) S) else (Dk_due_23 (Mo_hoursTillOut v1 S) S))
set_option maxRecDepth 4000 in
theorem r_Dk_due {V : Sm → Wd} (hV : VwC V) {v1 : Int32} {S : Sm} {q : Int32} (h : Dk_due v1 S = q) : Runs 3 mX11_due [.ref 7, .int v1] (V S) (some (.int q)) (V S) 0 0 := by
  unfold Dk_due at h
  refine Runs.of2 [some (.ref 7), some (.int v1)] 0 rfl rfl (Nat.le_of_ble_eq_true rfl) (fun l Γ => ?_)
  refine g_aload_n (pc := 0) dX11_due_0 rfl ?_
  refine v_getR hV (pc := 1) dX11_due_1 fo_11_6 rfl k0_7 r0_7_6 ?_
  refine g_iload_n (pc := 4) dX11_due_4 rfl ?_
  refine v_callVi hV (Mc := mX4_hasTrain) (v := Mo_hasTrain v1 S) (S1 := S) (As := [.int v1]) (rest := []) (q := (RX4, TX4, 8)) (pc := 5) dX11_due_5 mK_X11_161 mf_X4_hasTrain rfl k0_25 rfl rfl rfl (Nat.le_of_ble_eq_true rfl) ⟨Nat.le_of_ble_eq_true rfl, Nat.le_of_ble_eq_true rfl⟩ (r_Mo_hasTrain hV rfl) ?_
  refine g_if_eq (tgt := 22) (pc := 8) dX11_due_8 (by decide) (fun c1 => ?_) (fun c1 => ?_)
  · rw [if_pos c1] at h
    refine g_iconst (v := (-1)) (pc := 22) dX11_due_22 (by decide) ?_
    refine g_wk [false, false] rfl ?_
    exact t_Dk_due_23 hV h
  · rw [if_neg c1] at h
    refine g_aload_n (pc := 11) dX11_due_11 rfl ?_
    refine v_getR hV (pc := 12) dX11_due_12 fo_11_6 rfl k0_7 r0_7_6 ?_
    refine g_iload_n (pc := 15) dX11_due_15 rfl ?_
    refine v_callVi hV (Mc := mX4_hoursTillOut) (v := Mo_hoursTillOut v1 S) (S1 := S) (As := [.int v1]) (rest := []) (q := (RX4, TX4, 8)) (pc := 16) dX11_due_16 mK_X11_317 mf_X4_hoursTillOut rfl k0_25 rfl rfl rfl (Nat.le_of_ble_eq_true rfl) ⟨Nat.le_of_ble_eq_true rfl, Nat.le_of_ble_eq_true rfl⟩ (r_Mo_hoursTillOut hV rfl) ?_
    refine g_goto (tgt := 23) (pc := 19) dX11_due_19 (by decide) ?_
    refine g_wk [false, false] rfl ?_
    exact t_Dk_due_23 hV h
def hd_Wy_loopsAt_L4 (V : Sm → Wd) (l : Launch) (Γ : Gm) (rF : Option Value) (wF : Wd) (v1 : Int32) (S : Sm) (q : Int32 × Int32) : Prop := G mX10_loopsAt l Γ (rmD 3 0 0) (mQ Γ rF wF 0 0) 0 0 4 [some (.ref 37), some (.int v1), some (.int q.1), some (.int q.2)] [] (V S)
def ps_Wy_loopsAt_L4 (V : Sm → Wd) (l : Launch) (Γ : Gm) (rF : Option Value) (wF : Wd) (v1 : Int32) (S : Sm) (x : Int32) : Prop := (fun (a : Int32) => G mX10_loopsAt l Γ (rmD 3 0 0) (mQ Γ rF wF 0 0) 0 0 41 [none, none, some (.int a), none] [] (V S)) x
def Wy_loopsAt_33_L4 (v1 : Int32) (v3 : Int32) (s0 : Int32) (s1 : Int32) (S : Sm) : Option ((Int32 × Int32) ⊕ (Int32)) := (some (.inl (s0 ||| s1, v3 + 1)))
set_option maxRecDepth 4000 in
theorem t_Wy_loopsAt_33_L4 {V : Sm → Wd} (hV : VwC V) {l : Launch} {Γ : Gm} {v1 : Int32} {v3 : Int32} {s0 : Int32} {s1 : Int32} {rF : Option Value} {wF : Wd} {S : Sm} {o : (Int32 × Int32) ⊕ (Int32)} (h : Wy_loopsAt_33_L4 v1 v3 s0 s1 S = some o) (hK : Sum.elim (hd_Wy_loopsAt_L4 V l Γ rF wF v1 S) (ps_Wy_loopsAt_L4 V l Γ rF wF v1 S) o) : G mX10_loopsAt l Γ (rmD 3 0 0) (mQ Γ rF wF 0 0) 0 0 33 [some (.ref 37), some (.int v1), none, some (.int v3)] [.int s1, .int s0] (V S) := by
  unfold Wy_loopsAt_33_L4 at h
  refine g_ior (pc := 33) dX10_loopsAt_33 ?_
  refine g_istore_n (ls1 := [some (.ref 37), some (.int v1), some (.int (s0 ||| s1)), some (.int v3)]) (pc := 34) dX10_loopsAt_34 (by decide) rfl ?_
  refine g_iinc (v := v3 + 1) (ls1 := [some (.ref 37), some (.int v1), some (.int (s0 ||| s1)), some (.int (v3 + 1))]) (pc := 35) dX10_loopsAt_35 rfl rfl (by decide) rfl ?_
  refine g_goto (tgt := 4) (pc := 38) dX10_loopsAt_38 (by decide) ?_
  cases h
  exact hK
def Wy_loopsAt_L4 (v1 : Int32) (S : Sm) (q : Int32 × Int32) : Option ((Int32 × Int32) ⊕ (Int32)) := (if (Nt_colours S) ≤ q.2 then (some (.inr q.1)) else (if (Wy_leadsTo v1 q.2 S) = v1 then (Wy_loopsAt_33_L4 v1 q.2 q.1 (iShl 1 q.2) S) else (Wy_loopsAt_33_L4 v1 q.2 q.1 0 S)))
set_option maxRecDepth 4000 in
theorem t_Wy_loopsAt_L4 {V : Sm → Wd} (hV : VwC V) {l : Launch} {Γ : Gm} {rF : Option Value} {wF : Wd} {v1 : Int32} {S : Sm} {q : Int32 × Int32} {o : (Int32 × Int32) ⊕ (Int32)} (h : Wy_loopsAt_L4 v1 S q = some o) (hK : Sum.elim (hd_Wy_loopsAt_L4 V l Γ rF wF v1 S) (ps_Wy_loopsAt_L4 V l Γ rF wF v1 S) o) : hd_Wy_loopsAt_L4 V l Γ rF wF v1 S q := by
  unfold Wy_loopsAt_L4 at h
  unfold hd_Wy_loopsAt_L4
  refine g_iload_n (pc := 4) dX10_loopsAt_4 rfl ?_
  refine g_aload_n (pc := 5) dX10_loopsAt_5 rfl ?_
  refine v_getR hV (pc := 6) dX10_loopsAt_6 fo_10_0 rfl k0_37 r0_37_0 ?_
  refine v_callVi hV (Mc := mX5_colours) (v := Nt_colours S) (S1 := S) (As := []) (rest := [.int q.2]) (q := (RX5, TX5, 3)) (pc := 9) dX10_loopsAt_9 mK_X10_80 mf_X5_colours rfl k0_10 rfl rfl rfl (Nat.le_of_ble_eq_true rfl) ⟨Nat.le_of_ble_eq_true rfl, Nat.le_of_ble_eq_true rfl⟩ (r_Nt_colours hV rfl) ?_
  refine g_icmp_ge (tgt := 41) (pc := 12) dX10_loopsAt_12 (by decide) (fun c2 => ?_) (fun c2 => ?_)
  · rw [if_pos c2] at h
    refine g_wk [false, false, true, false] rfl ?_
    cases h
    exact hK
  · rw [if_neg c2] at h
    refine g_iload_n (pc := 15) dX10_loopsAt_15 rfl ?_
    refine g_aload_n (pc := 16) dX10_loopsAt_16 rfl ?_
    refine g_iload_n (pc := 17) dX10_loopsAt_17 rfl ?_
    refine g_iload_n (pc := 18) dX10_loopsAt_18 rfl ?_
    refine v_callVi hV (Mc := mX10_leadsTo) (v := Wy_leadsTo v1 q.2 S) (S1 := S) (As := [.int v1, .int q.2]) (rest := [.int q.1]) (q := (RX10, TX10, 5)) (pc := 19) dX10_loopsAt_19 mK_X10_50 mf_X10_leadsTo rfl k0_37 rfl rfl rfl (Nat.le_of_ble_eq_true rfl) ⟨Nat.le_of_ble_eq_true rfl, Nat.le_of_ble_eq_true rfl⟩ (r_Wy_leadsTo hV rfl) ?_
    refine g_iload_n (pc := 22) dX10_loopsAt_22 rfl ?_
    refine g_icmp_ne (tgt := 32) (pc := 23) dX10_loopsAt_23 (by decide) (fun c1 => ?_) (fun c1 => ?_)
    · rw [if_neg c1] at h
      refine g_iconst (v := 0) (pc := 32) dX10_loopsAt_32 (by decide) ?_
      refine g_wk [true, true, false, true] rfl ?_
      exact t_Wy_loopsAt_33_L4 hV h hK
    · rw [if_pos c1] at h
      refine g_iconst (v := 1) (pc := 26) dX10_loopsAt_26 (by decide) ?_
      refine g_iload_n (pc := 27) dX10_loopsAt_27 rfl ?_
      refine g_ishl (pc := 28) dX10_loopsAt_28 ?_
      refine g_goto (tgt := 33) (pc := 29) dX10_loopsAt_29 (by decide) ?_
      refine g_wk [true, true, false, true] rfl ?_
      exact t_Wy_loopsAt_33_L4 hV h hK
set_option maxRecDepth 4000 in
theorem w_Wy_loopsAt_L4 {V : Sm → Wd} (hV : VwC V) {l : Launch} {Γ : Gm} {rF : Option Value} {wF : Wd} {v1 : Int32} {S : Sm} {k : Nat} {q : Int32 × Int32} {o : Int32} (h : lpN (Wy_loopsAt_L4 v1 S) k q = some o) (hP : ps_Wy_loopsAt_L4 V l Γ rF wF v1 S o) : hd_Wy_loopsAt_L4 V l Γ rF wF v1 S q := lpN_ind2 (hd_Wy_loopsAt_L4 V l Γ rF wF v1 S) (ps_Wy_loopsAt_L4 V l Γ rF wF v1 S) (fun s o h hK => t_Wy_loopsAt_L4 hV h hK) k q o h hP
def Wy_loopsAt (v1 : Int32) (S : Sm) : Option (Int32) := ((lpN (Wy_loopsAt_L4 v1 S) FU (0, 0)).bind fun q3 => (some q3))
set_option maxRecDepth 4000 in
theorem r_Wy_loopsAt {V : Sm → Wd} (hV : VwC V) {v1 : Int32} {S : Sm} {q : Int32} (h : Wy_loopsAt v1 S = some q) : Runs 3 mX10_loopsAt [.ref 37, .int v1] (V S) (some (.int q)) (V S) 0 0 := by
  unfold Wy_loopsAt at h
  refine Runs.of2 [some (.ref 37), some (.int v1), none, none] 2 rfl rfl (Nat.le_of_ble_eq_true rfl) (fun l Γ => ?_)
  refine g_iconst (v := 0) (pc := 0) dX10_loopsAt_0 (by decide) ?_
  refine g_istore_n (ls1 := [some (.ref 37), some (.int v1), some (.int 0), none]) (pc := 1) dX10_loopsAt_1 (by decide) rfl ?_
  refine g_iconst (v := 0) (pc := 2) dX10_loopsAt_2 (by decide) ?_
  refine g_istore_n (ls1 := [some (.ref 37), some (.int v1), some (.int 0), some (.int 0)]) (pc := 3) dX10_loopsAt_3 (by decide) rfl ?_
  obtain ⟨q3, hqq3, h⟩ := bnd h
  refine w_Wy_loopsAt_L4 hV hqq3 ?_
  unfold ps_Wy_loopsAt_L4
  show G _ _ _ _ _ _ _ _ _ _ _
  refine g_iload_n (pc := 41) dX10_loopsAt_41 rfl ?_
  cases h
  exact g_iret (pc := 42) dX10_loopsAt_42 rfl rfl (Nat.le_refl _) (Nat.le_refl _)
def Dk_loops_23 (s0 : Int32) (S : Sm) : Option (Int32) := (some s0)
set_option maxRecDepth 4000 in
theorem t_Dk_loops_23 {V : Sm → Wd} (hV : VwC V) {l : Launch} {Γ : Gm} {s0 : Int32} {S : Sm} {q : Int32} (h : Dk_loops_23 s0 S = some q) : G mX11_loops l Γ (rmD 4 0 0) (mQ Γ (some (.int q)) (V S) 0 0) 0 0 23 [none, none] [.int s0] (V S) := by
  unfold Dk_loops_23 at h
  cases h
  exact g_iret (pc := 23) dX11_loops_23 rfl rfl (Nat.le_refl _) (Nat.le_refl _)
def Dk_loops (v1 : Int32) (S : Sm) : Option (Int32) := (if (Nt_hasMouth v1 S) = 0 then (Dk_loops_23 ((-1)) S) else ((Wy_loopsAt v1 S).bind fun q1 => (Dk_loops_23 q1 S)))
set_option maxRecDepth 4000 in
theorem r_Dk_loops {V : Sm → Wd} (hV : VwC V) {v1 : Int32} {S : Sm} {q : Int32} (h : Dk_loops v1 S = some q) : Runs 4 mX11_loops [.ref 7, .int v1] (V S) (some (.int q)) (V S) 0 0 := by
  unfold Dk_loops at h
  refine Runs.of2 [some (.ref 7), some (.int v1)] 0 rfl rfl (Nat.le_of_ble_eq_true rfl) (fun l Γ => ?_)
  refine g_aload_n (pc := 0) dX11_loops_0 rfl ?_
  refine v_getR hV (pc := 1) dX11_loops_1 fo_11_1 rfl k0_7 r0_7_1 ?_
  refine g_iload_n (pc := 4) dX11_loops_4 rfl ?_
  refine v_callVi hV (Mc := mX5_hasMouth) (v := Nt_hasMouth v1 S) (S1 := S) (As := [.int v1]) (rest := []) (q := (RX5, TX5, 3)) (pc := 5) dX11_loops_5 mK_X11_140 mf_X5_hasMouth rfl k0_10 rfl rfl rfl (Nat.le_of_ble_eq_true rfl) ⟨Nat.le_of_ble_eq_true rfl, Nat.le_of_ble_eq_true rfl⟩ (r_Nt_hasMouth hV rfl) ?_
  refine g_if_eq (tgt := 22) (pc := 8) dX11_loops_8 (by decide) (fun c2 => ?_) (fun c2 => ?_)
  · rw [if_pos c2] at h
    refine g_iconst (v := (-1)) (pc := 22) dX11_loops_22 (by decide) ?_
    refine g_wk [false, false] rfl ?_
    exact t_Dk_loops_23 hV h
  · rw [if_neg c2] at h
    refine g_aload_n (pc := 11) dX11_loops_11 rfl ?_
    refine v_getR hV (pc := 12) dX11_loops_12 fo_11_8 rfl k0_7 r0_7_8 ?_
    refine g_iload_n (pc := 15) dX11_loops_15 rfl ?_
    obtain ⟨q1, hq1, h⟩ := bnd h
    refine v_callVi hV (Mc := mX10_loopsAt) (v := q1) (S1 := S) (As := [.int v1]) (rest := []) (q := (RX10, TX10, 5)) (pc := 16) dX11_loops_16 mK_X11_320 mf_X10_loopsAt rfl k0_37 rfl rfl rfl (Nat.le_of_ble_eq_true rfl) ⟨Nat.le_of_ble_eq_true rfl, Nat.le_of_ble_eq_true rfl⟩ (r_Wy_loopsAt hV hq1) ?_
    refine g_goto (tgt := 23) (pc := 19) dX11_loops_19 (by decide) ?_
    refine g_wk [false, false] rfl ?_
    exact t_Dk_loops_23 hV h
def hd_Wy_sameByAll_L4 (V : Sm → Wd) (l : Launch) (Γ : Gm) (rF : Option Value) (wF : Wd) (S : Sm) (q : Int32 × Int32) : Prop := G mX10_sameByAll l Γ (rmD 4 0 0) (mQ Γ rF wF 0 0) 0 0 4 [some (.ref 37), some (.int q.1), some (.int q.2), none] [] (V S)
def ps_Wy_sameByAll_L4 (V : Sm → Wd) (l : Launch) (Γ : Gm) (rF : Option Value) (wF : Wd) (S : Sm) (x : Int32) : Prop := (fun (a : Int32) => G mX10_sameByAll l Γ (rmD 4 0 0) (mQ Γ rF wF 0 0) 0 0 54 [none, some (.int a), none, none] [] (V S)) x
def Wy_sameByAll_46_L4 (v2 : Int32) (s0 : Int32) (s1 : Int32) (S : Sm) : Option ((Int32 × Int32) ⊕ (Int32)) := (some (.inl (s0 ||| s1, v2 + 1)))
set_option maxRecDepth 4000 in
theorem t_Wy_sameByAll_46_L4 {V : Sm → Wd} (hV : VwC V) {l : Launch} {Γ : Gm} {v2 : Int32} {s0 : Int32} {s1 : Int32} {rF : Option Value} {wF : Wd} {S : Sm} {o : (Int32 × Int32) ⊕ (Int32)} (h : Wy_sameByAll_46_L4 v2 s0 s1 S = some o) (hK : Sum.elim (hd_Wy_sameByAll_L4 V l Γ rF wF S) (ps_Wy_sameByAll_L4 V l Γ rF wF S) o) : G mX10_sameByAll l Γ (rmD 4 0 0) (mQ Γ rF wF 0 0) 0 0 46 [some (.ref 37), none, some (.int v2), none] [.int s1, .int s0] (V S) := by
  unfold Wy_sameByAll_46_L4 at h
  refine g_ior (pc := 46) dX10_sameByAll_46 ?_
  refine g_istore_n (ls1 := [some (.ref 37), some (.int (s0 ||| s1)), some (.int v2), none]) (pc := 47) dX10_sameByAll_47 (by decide) rfl ?_
  refine g_iinc (v := v2 + 1) (ls1 := [some (.ref 37), some (.int (s0 ||| s1)), some (.int (v2 + 1)), none]) (pc := 48) dX10_sameByAll_48 rfl rfl (by decide) rfl ?_
  refine g_goto (tgt := 4) (pc := 51) dX10_sameByAll_51 (by decide) ?_
  cases h
  exact hK
def Wy_sameByAll_L4 (S : Sm) (q : Int32 × Int32) : Option ((Int32 × Int32) ⊕ (Int32)) := (if (Nt_mouths S) ≤ q.2 then (some (.inr q.1)) else ((Wy_behindOne (iShl 1 q.2) (Nt_allColours S) S).bind fun q1 => (if (Jm_bitCount_0f7a4 q1) = 1 then (Wy_sameByAll_46_L4 q.2 q.1 (iShl 1 q.2) S) else (Wy_sameByAll_46_L4 q.2 q.1 0 S))))
set_option maxRecDepth 4000 in
theorem t_Wy_sameByAll_L4 {V : Sm → Wd} (hV : VwC V) {l : Launch} {Γ : Gm} {rF : Option Value} {wF : Wd} {S : Sm} {q : Int32 × Int32} {o : (Int32 × Int32) ⊕ (Int32)} (h : Wy_sameByAll_L4 S q = some o) (hK : Sum.elim (hd_Wy_sameByAll_L4 V l Γ rF wF S) (ps_Wy_sameByAll_L4 V l Γ rF wF S) o) : hd_Wy_sameByAll_L4 V l Γ rF wF S q := by
  unfold Wy_sameByAll_L4 at h
  unfold hd_Wy_sameByAll_L4
  refine g_iload_n (pc := 4) dX10_sameByAll_4 rfl ?_
  refine g_aload_n (pc := 5) dX10_sameByAll_5 rfl ?_
  refine v_getR hV (pc := 6) dX10_sameByAll_6 fo_10_0 rfl k0_37 r0_37_0 ?_
  refine v_callVi hV (Mc := mX5_mouths) (v := Nt_mouths S) (S1 := S) (As := []) (rest := [.int q.2]) (q := (RX5, TX5, 3)) (pc := 9) dX10_sameByAll_9 mK_X10_89 mf_X5_mouths rfl k0_10 rfl rfl rfl (Nat.le_of_ble_eq_true rfl) ⟨Nat.le_of_ble_eq_true rfl, Nat.le_of_ble_eq_true rfl⟩ (r_Nt_mouths hV rfl) ?_
  refine g_icmp_ge (tgt := 54) (pc := 12) dX10_sameByAll_12 (by decide) (fun c3 => ?_) (fun c3 => ?_)
  · rw [if_pos c3] at h
    refine g_wk [false, true, false, false] rfl ?_
    cases h
    exact hK
  · rw [if_neg c3] at h
    refine g_aload_n (pc := 15) dX10_sameByAll_15 rfl ?_
    refine g_iconst (v := 1) (pc := 16) dX10_sameByAll_16 (by decide) ?_
    refine g_iload_n (pc := 17) dX10_sameByAll_17 rfl ?_
    refine g_ishl (pc := 18) dX10_sameByAll_18 ?_
    refine g_aload_n (pc := 19) dX10_sameByAll_19 rfl ?_
    refine v_getR hV (pc := 20) dX10_sameByAll_20 fo_10_0 rfl k0_37 r0_37_0 ?_
    refine v_callVi hV (Mc := mX5_allColours) (v := Nt_allColours S) (S1 := S) (As := []) (rest := [.int (iShl 1 q.2), .ref 37]) (q := (RX5, TX5, 3)) (pc := 23) dX10_sameByAll_23 mK_X10_92 mf_X5_allColours rfl k0_10 rfl rfl rfl (Nat.le_of_ble_eq_true rfl) ⟨Nat.le_of_ble_eq_true rfl, Nat.le_of_ble_eq_true rfl⟩ (r_Nt_allColours hV rfl) ?_
    obtain ⟨q1, hq1, h⟩ := bnd h
    refine v_callVi hV (Mc := mX10_behindOne) (v := q1) (S1 := S) (As := [.int (iShl 1 q.2), .int (Nt_allColours S)]) (rest := []) (q := (RX10, TX10, 5)) (pc := 26) dX10_sameByAll_26 mK_X10_86 mf_X10_behindOne rfl k0_37 rfl rfl rfl (Nat.le_of_ble_eq_true rfl) ⟨Nat.le_of_ble_eq_true rfl, Nat.le_of_ble_eq_true rfl⟩ (r_Wy_behindOne hV hq1) ?_
    refine g_istore_n (ls1 := [some (.ref 37), some (.int q.1), some (.int q.2), some (.int q1)]) (pc := 29) dX10_sameByAll_29 (by decide) rfl ?_
    refine g_iload_n (pc := 30) dX10_sameByAll_30 rfl ?_
    refine g_iload_n (pc := 31) dX10_sameByAll_31 rfl ?_
    refine v_callSi (Mc := mJ6_bitCount_0f7a4) (v := Jm_bitCount_0f7a4 q1) (S1 := S) (As := [.int q1]) (rest := [.int q.1]) (pc := 32) dX10_sameByAll_32 mK_X10_95 mf_J6_bitCount_0f7a4 rfl rfl (Nat.le_of_ble_eq_true rfl) ⟨Nat.le_of_ble_eq_true rfl, Nat.le_of_ble_eq_true rfl⟩ (r_Jm_bitCount_0f7a4 rfl) ?_
    refine g_iconst (v := 1) (pc := 35) dX10_sameByAll_35 (by decide) ?_
    refine g_icmp_ne (tgt := 45) (pc := 36) dX10_sameByAll_36 (by decide) (fun c2 => ?_) (fun c2 => ?_)
    · rw [if_neg c2] at h
      refine g_iconst (v := 0) (pc := 45) dX10_sameByAll_45 (by decide) ?_
      refine g_wk [true, false, true, false] rfl ?_
      exact t_Wy_sameByAll_46_L4 hV h hK
    · rw [if_pos c2] at h
      refine g_iconst (v := 1) (pc := 39) dX10_sameByAll_39 (by decide) ?_
      refine g_iload_n (pc := 40) dX10_sameByAll_40 rfl ?_
      refine g_ishl (pc := 41) dX10_sameByAll_41 ?_
      refine g_goto (tgt := 46) (pc := 42) dX10_sameByAll_42 (by decide) ?_
      refine g_wk [true, false, true, false] rfl ?_
      exact t_Wy_sameByAll_46_L4 hV h hK
set_option maxRecDepth 4000 in
theorem w_Wy_sameByAll_L4 {V : Sm → Wd} (hV : VwC V) {l : Launch} {Γ : Gm} {rF : Option Value} {wF : Wd} {S : Sm} {k : Nat} {q : Int32 × Int32} {o : Int32} (h : lpN (Wy_sameByAll_L4 S) k q = some o) (hP : ps_Wy_sameByAll_L4 V l Γ rF wF S o) : hd_Wy_sameByAll_L4 V l Γ rF wF S q := lpN_ind2 (hd_Wy_sameByAll_L4 V l Γ rF wF S) (ps_Wy_sameByAll_L4 V l Γ rF wF S) (fun s o h hK => t_Wy_sameByAll_L4 hV h hK) k q o h hP
def Wy_sameByAll (S : Sm) : Option (Int32) := ((lpN (Wy_sameByAll_L4 S) FU (0, 0)).bind fun q4 => (some q4))
set_option maxRecDepth 4000 in
theorem r_Wy_sameByAll {V : Sm → Wd} (hV : VwC V)  {S : Sm} {q : Int32} (h : Wy_sameByAll S = some q) : Runs 4 mX10_sameByAll [.ref 37] (V S) (some (.int q)) (V S) 0 0 := by
  unfold Wy_sameByAll at h
  refine Runs.of2 [some (.ref 37), none, none, none] 3 rfl rfl (Nat.le_of_ble_eq_true rfl) (fun l Γ => ?_)
  refine g_iconst (v := 0) (pc := 0) dX10_sameByAll_0 (by decide) ?_
  refine g_istore_n (ls1 := [some (.ref 37), some (.int 0), none, none]) (pc := 1) dX10_sameByAll_1 (by decide) rfl ?_
  refine g_iconst (v := 0) (pc := 2) dX10_sameByAll_2 (by decide) ?_
  refine g_istore_n (ls1 := [some (.ref 37), some (.int 0), some (.int 0), none]) (pc := 3) dX10_sameByAll_3 (by decide) rfl ?_
  obtain ⟨q4, hqq4, h⟩ := bnd h
  refine w_Wy_sameByAll_L4 hV hqq4 ?_
  unfold ps_Wy_sameByAll_L4
  show G _ _ _ _ _ _ _ _ _ _ _
  refine g_iload_n (pc := 54) dX10_sameByAll_54 rfl ?_
  cases h
  exact g_iret (pc := 55) dX10_sameByAll_55 rfl rfl (Nat.le_refl _) (Nat.le_refl _)
def Dk_safe_21 (s0 : Int32) (S : Sm) : Option (Int32) := (some s0)
set_option maxRecDepth 4000 in
theorem t_Dk_safe_21 {V : Sm → Wd} (hV : VwC V) {l : Launch} {Γ : Gm} {s0 : Int32} {S : Sm} {q : Int32} (h : Dk_safe_21 s0 S = some q) : G mX11_safe l Γ (rmD 5 0 0) (mQ Γ (some (.int q)) (V S) 0 0) 0 0 21 [none] [.int s0] (V S) := by
  unfold Dk_safe_21 at h
  cases h
  exact g_iret (pc := 21) dX11_safe_21 rfl rfl (Nat.le_refl _) (Nat.le_refl _)
def Dk_safe (S : Sm) : Option (Int32) := (if (Nt_isTold S) = 0 then (Dk_safe_21 ((-1)) S) else ((Wy_sameByAll S).bind fun q1 => (Dk_safe_21 q1 S)))
set_option maxRecDepth 4000 in
theorem r_Dk_safe {V : Sm → Wd} (hV : VwC V)  {S : Sm} {q : Int32} (h : Dk_safe S = some q) : Runs 5 mX11_safe [.ref 7] (V S) (some (.int q)) (V S) 0 0 := by
  unfold Dk_safe at h
  refine Runs.of2 [some (.ref 7)] 0 rfl rfl (Nat.le_of_ble_eq_true rfl) (fun l Γ => ?_)
  refine g_aload_n (pc := 0) dX11_safe_0 rfl ?_
  refine v_getR hV (pc := 1) dX11_safe_1 fo_11_1 rfl k0_7 r0_7_1 ?_
  refine v_callVi hV (Mc := mX5_isTold) (v := Nt_isTold S) (S1 := S) (As := []) (rest := []) (q := (RX5, TX5, 3)) (pc := 4) dX11_safe_4 mK_X11_258 mf_X5_isTold rfl k0_10 rfl rfl rfl (Nat.le_of_ble_eq_true rfl) ⟨Nat.le_of_ble_eq_true rfl, Nat.le_of_ble_eq_true rfl⟩ (r_Nt_isTold hV rfl) ?_
  refine g_if_eq (tgt := 20) (pc := 7) dX11_safe_7 (by decide) (fun c2 => ?_) (fun c2 => ?_)
  · rw [if_pos c2] at h
    refine g_iconst (v := (-1)) (pc := 20) dX11_safe_20 (by decide) ?_
    refine g_wk [false] rfl ?_
    exact t_Dk_safe_21 hV h
  · rw [if_neg c2] at h
    refine g_aload_n (pc := 10) dX11_safe_10 rfl ?_
    refine v_getR hV (pc := 11) dX11_safe_11 fo_11_8 rfl k0_7 r0_7_8 ?_
    obtain ⟨q1, hq1, h⟩ := bnd h
    refine v_callVi hV (Mc := mX10_sameByAll) (v := q1) (S1 := S) (As := []) (rest := []) (q := (RX10, TX10, 5)) (pc := 14) dX11_safe_14 mK_X11_323 mf_X10_sameByAll rfl k0_37 rfl rfl rfl (Nat.le_of_ble_eq_true rfl) ⟨Nat.le_of_ble_eq_true rfl, Nat.le_of_ble_eq_true rfl⟩ (r_Wy_sameByAll hV hq1) ?_
    refine g_goto (tgt := 21) (pc := 17) dX11_safe_17 (by decide) ?_
    refine g_wk [false] rfl ?_
    exact t_Dk_safe_21 hV h
def hd_Mo_timesOut_L4 (V : Sm → Wd) (l : Launch) (Γ : Gm) (rF : Option Value) (wF : Wd) (v1 : Int32) (S : Sm) (q : Int32 × Int32) : Prop := G mX4_timesOut l Γ (rmD 3 0 0) (mQ Γ rF wF 0 0) 0 0 4 [some (.ref 25), some (.int v1), some (.int q.1), some (.int q.2)] [] (V S)
def ps_Mo_timesOut_L4 (V : Sm → Wd) (l : Launch) (Γ : Gm) (rF : Option Value) (wF : Wd) (v1 : Int32) (S : Sm) (x : Int32) : Prop := (fun (a : Int32) => G mX4_timesOut l Γ (rmD 3 0 0) (mQ Γ rF wF 0 0) 0 0 36 [none, none, some (.int a), none] [] (V S)) x
def Mo_timesOut_28_L4 (v1 : Int32) (v3 : Int32) (s0 : Int32) (s1 : Int32) (S : Sm) : Option ((Int32 × Int32) ⊕ (Int32)) := (some (.inl (s0 + s1, v3 + 1)))
set_option maxRecDepth 4000 in
theorem t_Mo_timesOut_28_L4 {V : Sm → Wd} (hV : VwC V) {l : Launch} {Γ : Gm} {v1 : Int32} {v3 : Int32} {s0 : Int32} {s1 : Int32} {rF : Option Value} {wF : Wd} {S : Sm} {o : (Int32 × Int32) ⊕ (Int32)} (h : Mo_timesOut_28_L4 v1 v3 s0 s1 S = some o) (hK : Sum.elim (hd_Mo_timesOut_L4 V l Γ rF wF v1 S) (ps_Mo_timesOut_L4 V l Γ rF wF v1 S) o) : G mX4_timesOut l Γ (rmD 3 0 0) (mQ Γ rF wF 0 0) 0 0 28 [some (.ref 25), some (.int v1), none, some (.int v3)] [.int s1, .int s0] (V S) := by
  unfold Mo_timesOut_28_L4 at h
  refine g_iadd (pc := 28) dX4_timesOut_28 ?_
  refine g_istore_n (ls1 := [some (.ref 25), some (.int v1), some (.int (s0 + s1)), some (.int v3)]) (pc := 29) dX4_timesOut_29 (by decide) rfl ?_
  refine g_iinc (v := v3 + 1) (ls1 := [some (.ref 25), some (.int v1), some (.int (s0 + s1)), some (.int (v3 + 1))]) (pc := 30) dX4_timesOut_30 rfl rfl (by decide) rfl ?_
  refine g_goto (tgt := 4) (pc := 33) dX4_timesOut_33 (by decide) ?_
  cases h
  exact hK
def Mo_timesOut_L4 (v1 : Int32) (S : Sm) (q : Int32 × Int32) : Option ((Int32 × Int32) ⊕ (Int32)) := (if (Mo_logLength S) ≤ q.2 then (some (.inr q.1)) else (if (Mo_logged q.2 1 S) = v1 then (Mo_timesOut_28_L4 v1 q.2 q.1 1 S) else (Mo_timesOut_28_L4 v1 q.2 q.1 0 S)))
set_option maxRecDepth 4000 in
theorem t_Mo_timesOut_L4 {V : Sm → Wd} (hV : VwC V) {l : Launch} {Γ : Gm} {rF : Option Value} {wF : Wd} {v1 : Int32} {S : Sm} {q : Int32 × Int32} {o : (Int32 × Int32) ⊕ (Int32)} (h : Mo_timesOut_L4 v1 S q = some o) (hK : Sum.elim (hd_Mo_timesOut_L4 V l Γ rF wF v1 S) (ps_Mo_timesOut_L4 V l Γ rF wF v1 S) o) : hd_Mo_timesOut_L4 V l Γ rF wF v1 S q := by
  unfold Mo_timesOut_L4 at h
  unfold hd_Mo_timesOut_L4
  refine g_iload_n (pc := 4) dX4_timesOut_4 rfl ?_
  refine g_aload_n (pc := 5) dX4_timesOut_5 rfl ?_
  refine v_callVi hV (Mc := mX4_logLength) (v := Mo_logLength S) (S1 := S) (As := []) (rest := [.int q.2]) (q := (RX4, TX4, 8)) (pc := 6) dX4_timesOut_6 mK_X4_95 mf_X4_logLength rfl k0_25 rfl rfl rfl (Nat.le_of_ble_eq_true rfl) ⟨Nat.le_of_ble_eq_true rfl, Nat.le_of_ble_eq_true rfl⟩ (r_Mo_logLength hV rfl) ?_
  refine g_icmp_ge (tgt := 36) (pc := 9) dX4_timesOut_9 (by decide) (fun c2 => ?_) (fun c2 => ?_)
  · rw [if_pos c2] at h
    refine g_wk [false, false, true, false] rfl ?_
    cases h
    exact hK
  · rw [if_neg c2] at h
    refine g_iload_n (pc := 12) dX4_timesOut_12 rfl ?_
    refine g_aload_n (pc := 13) dX4_timesOut_13 rfl ?_
    refine g_iload_n (pc := 14) dX4_timesOut_14 rfl ?_
    refine g_iconst (v := 1) (pc := 15) dX4_timesOut_15 (by decide) ?_
    refine v_callVi hV (Mc := mX4_logged) (v := Mo_logged q.2 1 S) (S1 := S) (As := [.int q.2, .int 1]) (rest := [.int q.1]) (q := (RX4, TX4, 8)) (pc := 16) dX4_timesOut_16 mK_X4_98 mf_X4_logged rfl k0_25 rfl rfl rfl (Nat.le_of_ble_eq_true rfl) ⟨Nat.le_of_ble_eq_true rfl, Nat.le_of_ble_eq_true rfl⟩ (r_Mo_logged hV rfl) ?_
    refine g_iload_n (pc := 19) dX4_timesOut_19 rfl ?_
    refine g_icmp_ne (tgt := 27) (pc := 20) dX4_timesOut_20 (by decide) (fun c1 => ?_) (fun c1 => ?_)
    · rw [if_neg c1] at h
      refine g_iconst (v := 0) (pc := 27) dX4_timesOut_27 (by decide) ?_
      refine g_wk [true, true, false, true] rfl ?_
      exact t_Mo_timesOut_28_L4 hV h hK
    · rw [if_pos c1] at h
      refine g_iconst (v := 1) (pc := 23) dX4_timesOut_23 (by decide) ?_
      refine g_goto (tgt := 28) (pc := 24) dX4_timesOut_24 (by decide) ?_
      refine g_wk [true, true, false, true] rfl ?_
      exact t_Mo_timesOut_28_L4 hV h hK
set_option maxRecDepth 4000 in
theorem w_Mo_timesOut_L4 {V : Sm → Wd} (hV : VwC V) {l : Launch} {Γ : Gm} {rF : Option Value} {wF : Wd} {v1 : Int32} {S : Sm} {k : Nat} {q : Int32 × Int32} {o : Int32} (h : lpN (Mo_timesOut_L4 v1 S) k q = some o) (hP : ps_Mo_timesOut_L4 V l Γ rF wF v1 S o) : hd_Mo_timesOut_L4 V l Γ rF wF v1 S q := lpN_ind2 (hd_Mo_timesOut_L4 V l Γ rF wF v1 S) (ps_Mo_timesOut_L4 V l Γ rF wF v1 S) (fun s o h hK => t_Mo_timesOut_L4 hV h hK) k q o h hP
def Mo_timesOut (v1 : Int32) (S : Sm) : Option (Int32) := ((lpN (Mo_timesOut_L4 v1 S) FU (0, 0)).bind fun q3 => (some q3))
set_option maxRecDepth 4000 in
theorem r_Mo_timesOut {V : Sm → Wd} (hV : VwC V) {v1 : Int32} {S : Sm} {q : Int32} (h : Mo_timesOut v1 S = some q) : Runs 3 mX4_timesOut [.ref 25, .int v1] (V S) (some (.int q)) (V S) 0 0 := by
  unfold Mo_timesOut at h
  refine Runs.of2 [some (.ref 25), some (.int v1), none, none] 2 rfl rfl (Nat.le_of_ble_eq_true rfl) (fun l Γ => ?_)
  refine g_iconst (v := 0) (pc := 0) dX4_timesOut_0 (by decide) ?_
  refine g_istore_n (ls1 := [some (.ref 25), some (.int v1), some (.int 0), none]) (pc := 1) dX4_timesOut_1 (by decide) rfl ?_
  refine g_iconst (v := 0) (pc := 2) dX4_timesOut_2 (by decide) ?_
  refine g_istore_n (ls1 := [some (.ref 25), some (.int v1), some (.int 0), some (.int 0)]) (pc := 3) dX4_timesOut_3 (by decide) rfl ?_
  obtain ⟨q3, hqq3, h⟩ := bnd h
  refine w_Mo_timesOut_L4 hV hqq3 ?_
  unfold ps_Mo_timesOut_L4
  show G _ _ _ _ _ _ _ _ _ _ _
  refine g_iload_n (pc := 36) dX4_timesOut_36 rfl ?_
  cases h
  exact g_iret (pc := 37) dX4_timesOut_37 rfl rfl (Nat.le_refl _) (Nat.le_refl _)
def Dk_visits_23 (s0 : Int32) (S : Sm) : Option (Int32) := (some s0)
set_option maxRecDepth 4000 in
theorem t_Dk_visits_23 {V : Sm → Wd} (hV : VwC V) {l : Launch} {Γ : Gm} {s0 : Int32} {S : Sm} {q : Int32} (h : Dk_visits_23 s0 S = some q) : G mX11_visits l Γ (rmD 4 0 0) (mQ Γ (some (.int q)) (V S) 0 0) 0 0 23 [none, none] [.int s0] (V S) := by
  unfold Dk_visits_23 at h
  cases h
  exact g_iret (pc := 23) dX11_visits_23 rfl rfl (Nat.le_refl _) (Nat.le_refl _)
def Dk_visits (v1 : Int32) (S : Sm) : Option (Int32) := (if (Nt_hasMouth v1 S) = 0 then (Dk_visits_23 ((-1)) S) else ((Mo_timesOut v1 S).bind fun q1 => (Dk_visits_23 q1 S)))
set_option maxRecDepth 4000 in
theorem r_Dk_visits {V : Sm → Wd} (hV : VwC V) {v1 : Int32} {S : Sm} {q : Int32} (h : Dk_visits v1 S = some q) : Runs 4 mX11_visits [.ref 7, .int v1] (V S) (some (.int q)) (V S) 0 0 := by
  unfold Dk_visits at h
  refine Runs.of2 [some (.ref 7), some (.int v1)] 0 rfl rfl (Nat.le_of_ble_eq_true rfl) (fun l Γ => ?_)
  refine g_aload_n (pc := 0) dX11_visits_0 rfl ?_
  refine v_getR hV (pc := 1) dX11_visits_1 fo_11_1 rfl k0_7 r0_7_1 ?_
  refine g_iload_n (pc := 4) dX11_visits_4 rfl ?_
  refine v_callVi hV (Mc := mX5_hasMouth) (v := Nt_hasMouth v1 S) (S1 := S) (As := [.int v1]) (rest := []) (q := (RX5, TX5, 3)) (pc := 5) dX11_visits_5 mK_X11_140 mf_X5_hasMouth rfl k0_10 rfl rfl rfl (Nat.le_of_ble_eq_true rfl) ⟨Nat.le_of_ble_eq_true rfl, Nat.le_of_ble_eq_true rfl⟩ (r_Nt_hasMouth hV rfl) ?_
  refine g_if_eq (tgt := 22) (pc := 8) dX11_visits_8 (by decide) (fun c2 => ?_) (fun c2 => ?_)
  · rw [if_pos c2] at h
    refine g_iconst (v := (-1)) (pc := 22) dX11_visits_22 (by decide) ?_
    refine g_wk [false, false] rfl ?_
    exact t_Dk_visits_23 hV h
  · rw [if_neg c2] at h
    refine g_aload_n (pc := 11) dX11_visits_11 rfl ?_
    refine v_getR hV (pc := 12) dX11_visits_12 fo_11_6 rfl k0_7 r0_7_6 ?_
    refine g_iload_n (pc := 15) dX11_visits_15 rfl ?_
    obtain ⟨q1, hq1, h⟩ := bnd h
    refine v_callVi hV (Mc := mX4_timesOut) (v := q1) (S1 := S) (As := [.int v1]) (rest := []) (q := (RX4, TX4, 8)) (pc := 16) dX11_visits_16 mK_X11_326 mf_X4_timesOut rfl k0_25 rfl rfl rfl (Nat.le_of_ble_eq_true rfl) ⟨Nat.le_of_ble_eq_true rfl, Nat.le_of_ble_eq_true rfl⟩ (r_Mo_timesOut hV hq1) ?_
    refine g_goto (tgt := 23) (pc := 19) dX11_visits_19 (by decide) ?_
    refine g_wk [false, false] rfl ?_
    exact t_Dk_visits_23 hV h
def Mo32_become_25 (S : Sm) : Sm := (app (sc S 26 33 56) fun S1 => (app (sc S1 27 34 40) fun S2 => (app (sc S2 28 35 8) fun S3 => (app (sc S3 29 36 60) fun S4 => (si (si (si (si S4 32 4 (gi S4 25 4)) 32 5 (gi (si S4 32 4 (gi S4 25 4)) 25 5)) 32 6 (gi (si (si S4 32 4 (gi S4 25 4)) 32 5 (gi (si S4 32 4 (gi S4 25 4)) 25 5)) 25 6)) 32 7 (gi (si (si (si S4 32 4 (gi S4 25 4)) 32 5 (gi (si S4 32 4 (gi S4 25 4)) 25 5)) 32 6 (gi (si (si S4 32 4 (gi S4 25 4)) 32 5 (gi (si S4 32 4 (gi S4 25 4)) 25 5)) 25 6)) 25 7))))))
set_option maxRecDepth 4000 in
theorem r_Mo32_become_25 {V : Sm → Wd} (hV : VwC V)  {S : Sm} {q : Sm} (h : Mo32_become_25 S = q) : Runs 2 mX4_become [.ref 32, .ref 25] (V S) none (V q) 0 0 := by
  unfold Mo32_become_25 at h
  refine Runs.of2 [some (.ref 32), some (.ref 25)] 0 rfl rfl (Nat.le_of_ble_eq_true rfl) (fun l Γ => ?_)
  refine g_aload_n (pc := 0) dX4_become_0 rfl ?_
  refine v_getR hV (pc := 1) dX4_become_1 fo_4_0 rfl k0_25 r0_25_0 ?_
  refine g_aload_n (pc := 4) dX4_become_4 rfl ?_
  refine v_getR hV (pc := 5) dX4_become_5 fo_4_0 rfl k0_32 r0_32_0 ?_
  obtain ⟨S1, hS1, h⟩ := app_of h
  refine v_callNv (Mc := mX11_copy) (S1 := S1) (As := [.ref 26, .ref 33]) (rest := []) (pc := 8) dX4_become_8 nl_X4_37 mf_X11_copy rfl rfl (Nat.le_of_ble_eq_true rfl) ⟨Nat.le_of_ble_eq_true rfl, Nat.le_of_ble_eq_true rfl⟩ (r_copy hV k0_26 own_26 k0_33 own_33 (by decide) hS1) ?_
  refine g_aload_n (pc := 11) dX4_become_11 rfl ?_
  refine v_getR hV (pc := 12) dX4_become_12 fo_4_1 rfl k0_25 r0_25_1 ?_
  refine g_aload_n (pc := 15) dX4_become_15 rfl ?_
  refine v_getR hV (pc := 16) dX4_become_16 fo_4_1 rfl k0_32 r0_32_1 ?_
  obtain ⟨S2, hS2, h⟩ := app_of h
  refine v_callNv (Mc := mX11_copy) (S1 := S2) (As := [.ref 27, .ref 34]) (rest := []) (pc := 19) dX4_become_19 nl_X4_37 mf_X11_copy rfl rfl (Nat.le_of_ble_eq_true rfl) ⟨Nat.le_of_ble_eq_true rfl, Nat.le_of_ble_eq_true rfl⟩ (r_copy hV k0_27 own_27 k0_34 own_34 (by decide) hS2) ?_
  refine g_aload_n (pc := 22) dX4_become_22 rfl ?_
  refine v_getR hV (pc := 23) dX4_become_23 fo_4_2 rfl k0_25 r0_25_2 ?_
  refine g_aload_n (pc := 26) dX4_become_26 rfl ?_
  refine v_getR hV (pc := 27) dX4_become_27 fo_4_2 rfl k0_32 r0_32_2 ?_
  obtain ⟨S3, hS3, h⟩ := app_of h
  refine v_callNv (Mc := mX11_copy) (S1 := S3) (As := [.ref 28, .ref 35]) (rest := []) (pc := 30) dX4_become_30 nl_X4_37 mf_X11_copy rfl rfl (Nat.le_of_ble_eq_true rfl) ⟨Nat.le_of_ble_eq_true rfl, Nat.le_of_ble_eq_true rfl⟩ (r_copy hV k0_28 own_28 k0_35 own_35 (by decide) hS3) ?_
  refine g_aload_n (pc := 33) dX4_become_33 rfl ?_
  refine v_getR hV (pc := 34) dX4_become_34 fo_4_3 rfl k0_25 r0_25_3 ?_
  refine g_aload_n (pc := 37) dX4_become_37 rfl ?_
  refine v_getR hV (pc := 38) dX4_become_38 fo_4_3 rfl k0_32 r0_32_3 ?_
  obtain ⟨S4, hS4, h⟩ := app_of h
  refine v_callNv (Mc := mX11_copy) (S1 := S4) (As := [.ref 29, .ref 36]) (rest := []) (pc := 41) dX4_become_41 nl_X4_37 mf_X11_copy rfl rfl (Nat.le_of_ble_eq_true rfl) ⟨Nat.le_of_ble_eq_true rfl, Nat.le_of_ble_eq_true rfl⟩ (r_copy hV k0_29 own_29 k0_36 own_36 (by decide) hS4) ?_
  refine g_aload_n (pc := 44) dX4_become_44 rfl ?_
  refine g_aload_n (pc := 45) dX4_become_45 rfl ?_
  refine v_getI hV (pc := 46) dX4_become_46 fo_4_4 rfl k0_25 own_25 ?_
  refine v_putI hV (pc := 49) dX4_become_49 fo_4_4 rfl k0_32 own_32 rfl ?_
  refine g_aload_n (pc := 52) dX4_become_52 rfl ?_
  refine g_aload_n (pc := 53) dX4_become_53 rfl ?_
  refine v_getI hV (pc := 54) dX4_become_54 fo_4_5 rfl k0_25 own_25 ?_
  refine v_putI hV (pc := 57) dX4_become_57 fo_4_5 rfl k0_32 own_32 rfl ?_
  refine g_aload_n (pc := 60) dX4_become_60 rfl ?_
  refine g_aload_n (pc := 61) dX4_become_61 rfl ?_
  refine v_getI hV (pc := 62) dX4_become_62 fo_4_6 rfl k0_25 own_25 ?_
  refine v_putI hV (pc := 65) dX4_become_65 fo_4_6 rfl k0_32 own_32 rfl ?_
  refine g_aload_n (pc := 68) dX4_become_68 rfl ?_
  refine g_aload_n (pc := 69) dX4_become_69 rfl ?_
  refine v_getI hV (pc := 70) dX4_become_70 fo_4_7 rfl k0_25 own_25 ?_
  refine v_putI hV (pc := 73) dX4_become_73 fo_4_7 rfl k0_32 own_32 rfl ?_
  subst h
  exact g_vret (pc := 76) dX4_become_76 rfl (Nat.le_refl _) (Nat.le_refl _)
def Ac_keepImage (S : Sm) : Sm := (app (Mo32_become_25 S) fun q1 => (si q1 30 3 1))
set_option maxRecDepth 4000 in
theorem r_Ac_keepImage {V : Sm → Wd} (hV : VwC V)  {S : Sm} {q : Sm} (h : Ac_keepImage S = q) : Runs 3 mX0_keepImage [.ref 30] (V S) none (V q) 0 0 := by
  unfold Ac_keepImage at h
  refine Runs.of2 [some (.ref 30)] 0 rfl rfl (Nat.le_of_ble_eq_true rfl) (fun l Γ => ?_)
  refine g_aload_n (pc := 0) dX0_keepImage_0 rfl ?_
  refine v_getR hV (pc := 1) dX0_keepImage_1 fo_0_2 rfl k0_30 r0_30_2 ?_
  refine g_aload_n (pc := 4) dX0_keepImage_4 rfl ?_
  refine v_getR hV (pc := 5) dX0_keepImage_5 fo_0_0 rfl k0_30 r0_30_0 ?_
  obtain ⟨q1, hq1, h⟩ := app_of h
  refine v_callVv hV (Mc := mX4_become) (S1 := q1) (As := [.ref 25]) (rest := []) (q := (RX4, TX4, 8)) (pc := 8) dX0_keepImage_8 mK_X0_40 mf_X4_become rfl k0_32 rfl rfl rfl (Nat.le_of_ble_eq_true rfl) ⟨Nat.le_of_ble_eq_true rfl, Nat.le_of_ble_eq_true rfl⟩ (r_Mo32_become_25 hV hq1) ?_
  refine g_aload_n (pc := 11) dX0_keepImage_11 rfl ?_
  refine g_iconst (v := 1) (pc := 12) dX0_keepImage_12 (by decide) ?_
  refine v_putZ hV (pc := 13) dX0_keepImage_13 fo_0_3 rfl (by decide) k0_30 own_30 rfl ?_
  subst h
  exact g_vret (pc := 16) dX0_keepImage_16 rfl (Nat.le_refl _) (Nat.le_refl _)
def Dk_image (S : Sm) : Int32 × Sm := (if (Nt_isTold S) = 0 then (((-1), S)) else (app (Ac_keepImage S) fun q1 => ((Mo_hour q1, q1))))
set_option maxRecDepth 4000 in
theorem r_Dk_image {V : Sm → Wd} (hV : VwC V)  {S : Sm} {q : Int32 × Sm} (h : Dk_image S = q) : Runs 4 mX11_image [.ref 7] (V S) (some (.int q.1)) (V q.2) 0 0 := by
  unfold Dk_image at h
  refine Runs.of2 [some (.ref 7)] 0 rfl rfl (Nat.le_of_ble_eq_true rfl) (fun l Γ => ?_)
  refine g_aload_n (pc := 0) dX11_image_0 rfl ?_
  refine v_getR hV (pc := 1) dX11_image_1 fo_11_1 rfl k0_7 r0_7_1 ?_
  refine v_callVi hV (Mc := mX5_isTold) (v := Nt_isTold S) (S1 := S) (As := []) (rest := []) (q := (RX5, TX5, 3)) (pc := 4) dX11_image_4 mK_X11_258 mf_X5_isTold rfl k0_10 rfl rfl rfl (Nat.le_of_ble_eq_true rfl) ⟨Nat.le_of_ble_eq_true rfl, Nat.le_of_ble_eq_true rfl⟩ (r_Nt_isTold hV rfl) ?_
  refine g_if_ne (tgt := 12) (pc := 7) dX11_image_7 (by decide) (fun c2 => ?_) (fun c2 => ?_)
  · rw [if_neg c2] at h
    refine g_aload_n (pc := 12) dX11_image_12 rfl ?_
    refine v_getR hV (pc := 13) dX11_image_13 fo_11_7 rfl k0_7 r0_7_7 ?_
    obtain ⟨q1, hq1, h⟩ := app_of h
    refine v_callVv hV (Mc := mX0_keepImage) (S1 := q1) (As := []) (rest := []) (q := (RX0, TX0, 6)) (pc := 16) dX11_image_16 mK_X11_329 mf_X0_keepImage rfl k0_30 rfl rfl rfl (Nat.le_of_ble_eq_true rfl) ⟨Nat.le_of_ble_eq_true rfl, Nat.le_of_ble_eq_true rfl⟩ (r_Ac_keepImage hV hq1) ?_
    refine g_aload_n (pc := 19) dX11_image_19 rfl ?_
    refine v_getR hV (pc := 20) dX11_image_20 fo_11_6 rfl k0_7 r0_7_6 ?_
    refine v_callVi hV (Mc := mX4_hour) (v := Mo_hour q1) (S1 := q1) (As := []) (rest := []) (q := (RX4, TX4, 8)) (pc := 23) dX11_image_23 mK_X11_332 mf_X4_hour rfl k0_25 rfl rfl rfl (Nat.le_of_ble_eq_true rfl) ⟨Nat.le_of_ble_eq_true rfl, Nat.le_of_ble_eq_true rfl⟩ (r_Mo_hour hV rfl) ?_
    subst h
    exact g_iret (pc := 26) dX11_image_26 rfl rfl (Nat.le_refl _) (Nat.le_refl _)
  · rw [if_pos c2] at h
    refine g_iconst (v := (-1)) (pc := 10) dX11_image_10 (by decide) ?_
    subst h
    exact g_iret (pc := 11) dX11_image_11 rfl rfl (Nat.le_refl _) (Nat.le_refl _)
def Mo_become_32 (S : Sm) : Sm := (app (sc S 33 26 56) fun S1 => (app (sc S1 34 27 40) fun S2 => (app (sc S2 35 28 8) fun S3 => (app (sc S3 36 29 60) fun S4 => (si (si (si (si S4 25 4 (gi S4 32 4)) 25 5 (gi (si S4 25 4 (gi S4 32 4)) 32 5)) 25 6 (gi (si (si S4 25 4 (gi S4 32 4)) 25 5 (gi (si S4 25 4 (gi S4 32 4)) 32 5)) 32 6)) 25 7 (gi (si (si (si S4 25 4 (gi S4 32 4)) 25 5 (gi (si S4 25 4 (gi S4 32 4)) 32 5)) 25 6 (gi (si (si S4 25 4 (gi S4 32 4)) 25 5 (gi (si S4 25 4 (gi S4 32 4)) 32 5)) 32 6)) 32 7))))))
set_option maxRecDepth 4000 in
theorem r_Mo_become_32 {V : Sm → Wd} (hV : VwC V)  {S : Sm} {q : Sm} (h : Mo_become_32 S = q) : Runs 2 mX4_become [.ref 25, .ref 32] (V S) none (V q) 0 0 := by
  unfold Mo_become_32 at h
  refine Runs.of2 [some (.ref 25), some (.ref 32)] 0 rfl rfl (Nat.le_of_ble_eq_true rfl) (fun l Γ => ?_)
  refine g_aload_n (pc := 0) dX4_become_0 rfl ?_
  refine v_getR hV (pc := 1) dX4_become_1 fo_4_0 rfl k0_32 r0_32_0 ?_
  refine g_aload_n (pc := 4) dX4_become_4 rfl ?_
  refine v_getR hV (pc := 5) dX4_become_5 fo_4_0 rfl k0_25 r0_25_0 ?_
  obtain ⟨S1, hS1, h⟩ := app_of h
  refine v_callNv (Mc := mX11_copy) (S1 := S1) (As := [.ref 33, .ref 26]) (rest := []) (pc := 8) dX4_become_8 nl_X4_37 mf_X11_copy rfl rfl (Nat.le_of_ble_eq_true rfl) ⟨Nat.le_of_ble_eq_true rfl, Nat.le_of_ble_eq_true rfl⟩ (r_copy hV k0_33 own_33 k0_26 own_26 (by decide) hS1) ?_
  refine g_aload_n (pc := 11) dX4_become_11 rfl ?_
  refine v_getR hV (pc := 12) dX4_become_12 fo_4_1 rfl k0_32 r0_32_1 ?_
  refine g_aload_n (pc := 15) dX4_become_15 rfl ?_
  refine v_getR hV (pc := 16) dX4_become_16 fo_4_1 rfl k0_25 r0_25_1 ?_
  obtain ⟨S2, hS2, h⟩ := app_of h
  refine v_callNv (Mc := mX11_copy) (S1 := S2) (As := [.ref 34, .ref 27]) (rest := []) (pc := 19) dX4_become_19 nl_X4_37 mf_X11_copy rfl rfl (Nat.le_of_ble_eq_true rfl) ⟨Nat.le_of_ble_eq_true rfl, Nat.le_of_ble_eq_true rfl⟩ (r_copy hV k0_34 own_34 k0_27 own_27 (by decide) hS2) ?_
  refine g_aload_n (pc := 22) dX4_become_22 rfl ?_
  refine v_getR hV (pc := 23) dX4_become_23 fo_4_2 rfl k0_32 r0_32_2 ?_
  refine g_aload_n (pc := 26) dX4_become_26 rfl ?_
  refine v_getR hV (pc := 27) dX4_become_27 fo_4_2 rfl k0_25 r0_25_2 ?_
  obtain ⟨S3, hS3, h⟩ := app_of h
  refine v_callNv (Mc := mX11_copy) (S1 := S3) (As := [.ref 35, .ref 28]) (rest := []) (pc := 30) dX4_become_30 nl_X4_37 mf_X11_copy rfl rfl (Nat.le_of_ble_eq_true rfl) ⟨Nat.le_of_ble_eq_true rfl, Nat.le_of_ble_eq_true rfl⟩ (r_copy hV k0_35 own_35 k0_28 own_28 (by decide) hS3) ?_
  refine g_aload_n (pc := 33) dX4_become_33 rfl ?_
  refine v_getR hV (pc := 34) dX4_become_34 fo_4_3 rfl k0_32 r0_32_3 ?_
  refine g_aload_n (pc := 37) dX4_become_37 rfl ?_
  refine v_getR hV (pc := 38) dX4_become_38 fo_4_3 rfl k0_25 r0_25_3 ?_
  obtain ⟨S4, hS4, h⟩ := app_of h
  refine v_callNv (Mc := mX11_copy) (S1 := S4) (As := [.ref 36, .ref 29]) (rest := []) (pc := 41) dX4_become_41 nl_X4_37 mf_X11_copy rfl rfl (Nat.le_of_ble_eq_true rfl) ⟨Nat.le_of_ble_eq_true rfl, Nat.le_of_ble_eq_true rfl⟩ (r_copy hV k0_36 own_36 k0_29 own_29 (by decide) hS4) ?_
  refine g_aload_n (pc := 44) dX4_become_44 rfl ?_
  refine g_aload_n (pc := 45) dX4_become_45 rfl ?_
  refine v_getI hV (pc := 46) dX4_become_46 fo_4_4 rfl k0_32 own_32 ?_
  refine v_putI hV (pc := 49) dX4_become_49 fo_4_4 rfl k0_25 own_25 rfl ?_
  refine g_aload_n (pc := 52) dX4_become_52 rfl ?_
  refine g_aload_n (pc := 53) dX4_become_53 rfl ?_
  refine v_getI hV (pc := 54) dX4_become_54 fo_4_5 rfl k0_32 own_32 ?_
  refine v_putI hV (pc := 57) dX4_become_57 fo_4_5 rfl k0_25 own_25 rfl ?_
  refine g_aload_n (pc := 60) dX4_become_60 rfl ?_
  refine g_aload_n (pc := 61) dX4_become_61 rfl ?_
  refine v_getI hV (pc := 62) dX4_become_62 fo_4_6 rfl k0_32 own_32 ?_
  refine v_putI hV (pc := 65) dX4_become_65 fo_4_6 rfl k0_25 own_25 rfl ?_
  refine g_aload_n (pc := 68) dX4_become_68 rfl ?_
  refine g_aload_n (pc := 69) dX4_become_69 rfl ?_
  refine v_getI hV (pc := 70) dX4_become_70 fo_4_7 rfl k0_32 own_32 ?_
  refine v_putI hV (pc := 73) dX4_become_73 fo_4_7 rfl k0_25 own_25 rfl ?_
  subst h
  exact g_vret (pc := 76) dX4_become_76 rfl (Nat.le_refl _) (Nat.le_refl _)
def Ac_bringBack (S : Sm) : Int32 × Sm := (if (gi S 30 3) = 0 then ((0, S)) else (app (Mo_become_32 S) fun q1 => ((1, si q1 30 4 0))))
set_option maxRecDepth 4000 in
theorem r_Ac_bringBack {V : Sm → Wd} (hV : VwC V)  {S : Sm} {q : Int32 × Sm} (h : Ac_bringBack S = q) : Runs 3 mX0_bringBack [.ref 30] (V S) (some (.int q.1)) (V q.2) 0 0 := by
  unfold Ac_bringBack at h
  refine Runs.of2 [some (.ref 30)] 0 rfl rfl (Nat.le_of_ble_eq_true rfl) (fun l Γ => ?_)
  refine g_aload_n (pc := 0) dX0_bringBack_0 rfl ?_
  refine v_getI hV (pc := 1) dX0_bringBack_1 fo_0_3 rfl k0_30 own_30 ?_
  refine g_if_ne (tgt := 9) (pc := 4) dX0_bringBack_4 (by decide) (fun c2 => ?_) (fun c2 => ?_)
  · rw [if_neg c2] at h
    refine g_aload_n (pc := 9) dX0_bringBack_9 rfl ?_
    refine v_getR hV (pc := 10) dX0_bringBack_10 fo_0_0 rfl k0_30 r0_30_0 ?_
    refine g_aload_n (pc := 13) dX0_bringBack_13 rfl ?_
    refine v_getR hV (pc := 14) dX0_bringBack_14 fo_0_2 rfl k0_30 r0_30_2 ?_
    obtain ⟨q1, hq1, h⟩ := app_of h
    refine v_callVv hV (Mc := mX4_become) (S1 := q1) (As := [.ref 32]) (rest := []) (q := (RX4, TX4, 8)) (pc := 17) dX0_bringBack_17 mK_X0_40 mf_X4_become rfl k0_25 rfl rfl rfl (Nat.le_of_ble_eq_true rfl) ⟨Nat.le_of_ble_eq_true rfl, Nat.le_of_ble_eq_true rfl⟩ (r_Mo_become_32 hV hq1) ?_
    refine g_aload_n (pc := 20) dX0_bringBack_20 rfl ?_
    refine g_iconst (v := 0) (pc := 21) dX0_bringBack_21 (by decide) ?_
    refine v_putI hV (pc := 22) dX0_bringBack_22 fo_0_4 rfl k0_30 own_30 rfl ?_
    refine g_iconst (v := 1) (pc := 25) dX0_bringBack_25 (by decide) ?_
    subst h
    exact g_iret (u := 1) (pc := 26) dX0_bringBack_26 rfl (by decide) (Nat.le_refl _) (Nat.le_refl _)
  · rw [if_pos c2] at h
    refine g_iconst (v := 0) (pc := 7) dX0_bringBack_7 (by decide) ?_
    subst h
    exact g_iret (u := 0) (pc := 8) dX0_bringBack_8 rfl (by decide) (Nat.le_refl _) (Nat.le_refl _)
def Dk_back_21 (s0 : Int32) (S : Sm) : Int32 × Sm := ((s0, S))
set_option maxRecDepth 4000 in
theorem t_Dk_back_21 {V : Sm → Wd} (hV : VwC V) {l : Launch} {Γ : Gm} {s0 : Int32} {S : Sm} {q : Int32 × Sm} (h : Dk_back_21 s0 S = q) : G mX11_back l Γ (rmD 4 0 0) (mQ Γ (some (.int q.1)) (V q.2) 0 0) 0 0 21 [none] [.int s0] (V S) := by
  unfold Dk_back_21 at h
  subst h
  exact g_iret (pc := 21) dX11_back_21 rfl rfl (Nat.le_refl _) (Nat.le_refl _)
def Dk_back (S : Sm) : Int32 × Sm := (app (Ac_bringBack S) fun q1 => (if q1.1 = 0 then (Dk_back_21 ((-1)) q1.2) else (Dk_back_21 (Mo_hour q1.2) q1.2)))
set_option maxRecDepth 4000 in
theorem r_Dk_back {V : Sm → Wd} (hV : VwC V)  {S : Sm} {q : Int32 × Sm} (h : Dk_back S = q) : Runs 4 mX11_back [.ref 7] (V S) (some (.int q.1)) (V q.2) 0 0 := by
  unfold Dk_back at h
  refine Runs.of2 [some (.ref 7)] 0 rfl rfl (Nat.le_of_ble_eq_true rfl) (fun l Γ => ?_)
  refine g_aload_n (pc := 0) dX11_back_0 rfl ?_
  refine v_getR hV (pc := 1) dX11_back_1 fo_11_7 rfl k0_7 r0_7_7 ?_
  obtain ⟨q1, hq1, h⟩ := app_of h
  refine v_callVi hV (Mc := mX0_bringBack) (v := q1.1) (S1 := q1.2) (As := []) (rest := []) (q := (RX0, TX0, 6)) (pc := 4) dX11_back_4 mK_X11_335 mf_X0_bringBack rfl k0_30 rfl rfl rfl (Nat.le_of_ble_eq_true rfl) ⟨Nat.le_of_ble_eq_true rfl, Nat.le_of_ble_eq_true rfl⟩ (r_Ac_bringBack hV hq1) ?_
  refine g_if_eq (tgt := 20) (pc := 7) dX11_back_7 (by decide) (fun c2 => ?_) (fun c2 => ?_)
  · rw [if_pos c2] at h
    refine g_iconst (v := (-1)) (pc := 20) dX11_back_20 (by decide) ?_
    refine g_wk [false] rfl ?_
    exact t_Dk_back_21 hV h
  · rw [if_neg c2] at h
    refine g_aload_n (pc := 10) dX11_back_10 rfl ?_
    refine v_getR hV (pc := 11) dX11_back_11 fo_11_6 rfl k0_7 r0_7_6 ?_
    refine v_callVi hV (Mc := mX4_hour) (v := Mo_hour q1.2) (S1 := q1.2) (As := []) (rest := []) (q := (RX4, TX4, 8)) (pc := 14) dX11_back_14 mK_X11_332 mf_X4_hour rfl k0_25 rfl rfl rfl (Nat.le_of_ble_eq_true rfl) ⟨Nat.le_of_ble_eq_true rfl, Nat.le_of_ble_eq_true rfl⟩ (r_Mo_hour hV rfl) ?_
    refine g_goto (tgt := 21) (pc := 17) dX11_back_17 (by decide) ?_
    refine g_wk [false] rfl ?_
    exact t_Dk_back_21 hV h
def Mo_trains (S : Sm) : Int32 := (gi S 25 4)
set_option maxRecDepth 4000 in
theorem r_Mo_trains {V : Sm → Wd} (hV : VwC V)  {S : Sm} {q : Int32} (h : Mo_trains S = q) : Runs 0 mX4_trains [.ref 25] (V S) (some (.int q)) (V S) 0 0 := by
  unfold Mo_trains at h
  refine Runs.of2 [some (.ref 25)] 0 rfl rfl (Nat.le_of_ble_eq_true rfl) (fun l Γ => ?_)
  refine g_aload_n (pc := 0) dX4_trains_0 rfl ?_
  refine v_getI hV (pc := 1) dX4_trains_1 fo_4_4 rfl k0_25 own_25 ?_
  subst h
  exact g_iret (pc := 4) dX4_trains_4 rfl rfl (Nat.le_refl _) (Nat.le_refl _)
def hd_Mo_guardsInAll_L4 (V : Sm → Wd) (l : Launch) (Γ : Gm) (rF : Option Value) (wF : Wd) (S : Sm) (q : Int32 × Int32) : Prop := G mX4_guardsInAll l Γ (rmD 2 0 0) (mQ Γ rF wF 0 0) 0 0 4 [some (.ref 25), some (.int q.1), some (.int q.2)] [] (V S)
def ps_Mo_guardsInAll_L4 (V : Sm → Wd) (l : Launch) (Γ : Gm) (rF : Option Value) (wF : Wd) (S : Sm) (x : Int32) : Prop := (fun (a : Int32) => G mX4_guardsInAll l Γ (rmD 2 0 0) (mQ Γ rF wF 0 0) 0 0 24 [none, some (.int a), none] [] (V S)) x
def Mo_guardsInAll_L4 (S : Sm) (q : Int32 × Int32) : Option ((Int32 × Int32) ⊕ (Int32)) := (if (8 : Int32) ≤ q.2 then (some (.inr q.1)) else (some (.inl (q.1 + (Mo_guardsAt q.2 S), q.2 + 1))))
set_option maxRecDepth 4000 in
theorem t_Mo_guardsInAll_L4 {V : Sm → Wd} (hV : VwC V) {l : Launch} {Γ : Gm} {rF : Option Value} {wF : Wd} {S : Sm} {q : Int32 × Int32} {o : (Int32 × Int32) ⊕ (Int32)} (h : Mo_guardsInAll_L4 S q = some o) (hK : Sum.elim (hd_Mo_guardsInAll_L4 V l Γ rF wF S) (ps_Mo_guardsInAll_L4 V l Γ rF wF S) o) : hd_Mo_guardsInAll_L4 V l Γ rF wF S q := by
  unfold Mo_guardsInAll_L4 at h
  unfold hd_Mo_guardsInAll_L4
  refine g_iload_n (pc := 4) dX4_guardsInAll_4 rfl ?_
  refine g_bipush (v := 8) (pc := 5) dX4_guardsInAll_5 (by decide) ?_
  refine g_icmp_ge (tgt := 24) (pc := 7) dX4_guardsInAll_7 (by decide) (fun c1 => ?_) (fun c1 => ?_)
  · rw [if_pos c1] at h
    refine g_wk [false, true, false] rfl ?_
    cases h
    exact hK
  · rw [if_neg c1] at h
    refine g_iload_n (pc := 10) dX4_guardsInAll_10 rfl ?_
    refine g_aload_n (pc := 11) dX4_guardsInAll_11 rfl ?_
    refine g_iload_n (pc := 12) dX4_guardsInAll_12 rfl ?_
    refine v_callVi hV (Mc := mX4_guardsAt) (v := Mo_guardsAt q.2 S) (S1 := S) (As := [.int q.2]) (rest := [.int q.1]) (q := (RX4, TX4, 8)) (pc := 13) dX4_guardsInAll_13 mK_X4_66 mf_X4_guardsAt rfl k0_25 rfl rfl rfl (Nat.le_of_ble_eq_true rfl) ⟨Nat.le_of_ble_eq_true rfl, Nat.le_of_ble_eq_true rfl⟩ (r_Mo_guardsAt hV rfl) ?_
    refine g_iadd (pc := 16) dX4_guardsInAll_16 ?_
    refine g_istore_n (ls1 := [some (.ref 25), some (.int (q.1 + (Mo_guardsAt q.2 S))), some (.int q.2)]) (pc := 17) dX4_guardsInAll_17 (by decide) rfl ?_
    refine g_iinc (v := q.2 + 1) (ls1 := [some (.ref 25), some (.int (q.1 + (Mo_guardsAt q.2 S))), some (.int (q.2 + 1))]) (pc := 18) dX4_guardsInAll_18 rfl rfl (by decide) rfl ?_
    refine g_goto (tgt := 4) (pc := 21) dX4_guardsInAll_21 (by decide) ?_
    cases h
    exact hK
set_option maxRecDepth 4000 in
theorem w_Mo_guardsInAll_L4 {V : Sm → Wd} (hV : VwC V) {l : Launch} {Γ : Gm} {rF : Option Value} {wF : Wd} {S : Sm} {k : Nat} {q : Int32 × Int32} {o : Int32} (h : lpN (Mo_guardsInAll_L4 S) k q = some o) (hP : ps_Mo_guardsInAll_L4 V l Γ rF wF S o) : hd_Mo_guardsInAll_L4 V l Γ rF wF S q := lpN_ind2 (hd_Mo_guardsInAll_L4 V l Γ rF wF S) (ps_Mo_guardsInAll_L4 V l Γ rF wF S) (fun s o h hK => t_Mo_guardsInAll_L4 hV h hK) k q o h hP
def Mo_guardsInAll (S : Sm) : Option (Int32) := ((lpN (Mo_guardsInAll_L4 S) FU (0, 0)).bind fun q2 => (some q2))
set_option maxRecDepth 4000 in
theorem r_Mo_guardsInAll {V : Sm → Wd} (hV : VwC V)  {S : Sm} {q : Int32} (h : Mo_guardsInAll S = some q) : Runs 2 mX4_guardsInAll [.ref 25] (V S) (some (.int q)) (V S) 0 0 := by
  unfold Mo_guardsInAll at h
  refine Runs.of2 [some (.ref 25), none, none] 2 rfl rfl (Nat.le_of_ble_eq_true rfl) (fun l Γ => ?_)
  refine g_iconst (v := 0) (pc := 0) dX4_guardsInAll_0 (by decide) ?_
  refine g_istore_n (ls1 := [some (.ref 25), some (.int 0), none]) (pc := 1) dX4_guardsInAll_1 (by decide) rfl ?_
  refine g_iconst (v := 0) (pc := 2) dX4_guardsInAll_2 (by decide) ?_
  refine g_istore_n (ls1 := [some (.ref 25), some (.int 0), some (.int 0)]) (pc := 3) dX4_guardsInAll_3 (by decide) rfl ?_
  obtain ⟨q2, hqq2, h⟩ := bnd h
  refine w_Mo_guardsInAll_L4 hV hqq2 ?_
  unfold ps_Mo_guardsInAll_L4
  show G _ _ _ _ _ _ _ _ _ _ _
  refine g_iload_n (pc := 24) dX4_guardsInAll_24 rfl ?_
  cases h
  exact g_iret (pc := 25) dX4_guardsInAll_25 rfl rfl (Nat.le_refl _) (Nat.le_refl _)
def La_many (S : Sm) : Int32 := (gi S 20 4)
set_option maxRecDepth 4000 in
theorem r_La_many {V : Sm → Wd} (hV : VwC V)  {S : Sm} {q : Int32} (h : La_many S = q) : Runs 0 mX3_many [.ref 20] (V S) (some (.int q)) (V S) 0 0 := by
  unfold La_many at h
  refine Runs.of2 [some (.ref 20)] 0 rfl rfl (Nat.le_of_ble_eq_true rfl) (fun l Γ => ?_)
  refine g_aload_n (pc := 0) dX3_many_0 rfl ?_
  refine v_getI hV (pc := 1) dX3_many_1 fo_3_4 rfl k0_20 own_20 ?_
  subst h
  exact g_iret (pc := 4) dX3_many_4 rfl rfl (Nat.le_refl _) (Nat.le_refl _)
def Mo_meetings (S : Sm) : Int32 := (gi S 25 6)
set_option maxRecDepth 4000 in
theorem r_Mo_meetings {V : Sm → Wd} (hV : VwC V)  {S : Sm} {q : Int32} (h : Mo_meetings S = q) : Runs 0 mX4_meetings [.ref 25] (V S) (some (.int q)) (V S) 0 0 := by
  unfold Mo_meetings at h
  refine Runs.of2 [some (.ref 25)] 0 rfl rfl (Nat.le_of_ble_eq_true rfl) (fun l Γ => ?_)
  refine g_aload_n (pc := 0) dX4_meetings_0 rfl ?_
  refine v_getI hV (pc := 1) dX4_meetings_1 fo_4_6 rfl k0_25 own_25 ?_
  subst h
  exact g_iret (pc := 4) dX4_meetings_4 rfl rfl (Nat.le_refl _) (Nat.le_refl _)
def Hr_fogLevel (S : Sm) : Int32 := (gi S 40 5)
set_option maxRecDepth 4000 in
theorem r_Hr_fogLevel {V : Sm → Wd} (hV : VwC V)  {S : Sm} {q : Int32} (h : Hr_fogLevel S = q) : Runs 0 mX1_fogLevel [.ref 40] (V S) (some (.int q)) (V S) 0 0 := by
  unfold Hr_fogLevel at h
  refine Runs.of2 [some (.ref 40)] 0 rfl rfl (Nat.le_of_ble_eq_true rfl) (fun l Γ => ?_)
  refine g_aload_n (pc := 0) dX1_fogLevel_0 rfl ?_
  refine v_getI hV (pc := 1) dX1_fogLevel_1 fo_1_5 rfl k0_40 own_40 ?_
  subst h
  exact g_iret (pc := 4) dX1_fogLevel_4 rfl rfl (Nat.le_refl _) (Nat.le_refl _)
def Sg_many (S : Sm) : Int32 := (gi S 42 6)
set_option maxRecDepth 4000 in
theorem r_Sg_many {V : Sm → Wd} (hV : VwC V)  {S : Sm} {q : Int32} (h : Sg_many S = q) : Runs 0 mX8_many [.ref 42] (V S) (some (.int q)) (V S) 0 0 := by
  unfold Sg_many at h
  refine Runs.of2 [some (.ref 42)] 0 rfl rfl (Nat.le_of_ble_eq_true rfl) (fun l Γ => ?_)
  refine g_aload_n (pc := 0) dX8_many_0 rfl ?_
  refine v_getI hV (pc := 1) dX8_many_1 fo_8_6 rfl k0_42 own_42 ?_
  subst h
  exact g_iret (pc := 4) dX8_many_4 rfl rfl (Nat.le_refl _) (Nat.le_refl _)
def Ac_many (S : Sm) : Int32 := (gi S 30 4)
set_option maxRecDepth 4000 in
theorem r_Ac_many {V : Sm → Wd} (hV : VwC V)  {S : Sm} {q : Int32} (h : Ac_many S = q) : Runs 0 mX0_many [.ref 30] (V S) (some (.int q)) (V S) 0 0 := by
  unfold Ac_many at h
  refine Runs.of2 [some (.ref 30)] 0 rfl rfl (Nat.le_of_ble_eq_true rfl) (fun l Γ => ?_)
  refine g_aload_n (pc := 0) dX0_many_0 rfl ?_
  refine v_getI hV (pc := 1) dX0_many_1 fo_0_4 rfl k0_30 own_30 ?_
  subst h
  exact g_iret (pc := 4) dX0_many_4 rfl rfl (Nat.le_refl _) (Nat.le_refl _)
def Dk_countMore (v1 : Int32) (S : Sm) : Option (Int32 × Sm) := (if v1 = (8 : Int32) then (some ((Mo_meetings S, S))) else (if v1 = (9 : Int32) then (some ((Hr_fogLevel S, S))) else (if v1 = (10 : Int32) then ((Sg_unknownNow S).bind fun q4 => (some ((q4.1, q4.2)))) else (if v1 = (11 : Int32) then (some ((Sg_many S, S))) else (if v1 = (12 : Int32) then (some ((Mo_logLength S, S))) else (if v1 = (13 : Int32) then (some ((Ac_many S, S))) else (some (((-1000000), S)))))))))
set_option maxRecDepth 4000 in
theorem r_Dk_countMore {V : Sm → Wd} (hV : VwC V) {v1 : Int32} {S : Sm} {q : Int32 × Sm} (h : Dk_countMore v1 S = some q) : Runs 4 mX11_countMore [.ref 7, .int v1] (V S) (some (.int q.1)) (V q.2) 0 0 := by
  unfold Dk_countMore at h
  refine Runs.of2 [some (.ref 7), some (.int v1)] 0 rfl rfl (Nat.le_of_ble_eq_true rfl) (fun l Γ => ?_)
  refine g_iload_n (pc := 0) dX11_countMore_0 rfl ?_
  by_cases c1 : v1 = (8 : Int32)
  · rw [if_pos c1] at h
    refine g_tab (off := 39) (tgt := 40) (pc := 1) dX11_countMore_1 (by rw [c1]; decide +kernel) (by decide) (by decide +kernel) ?_
    refine g_aload_n (pc := 40) dX11_countMore_40 rfl ?_
    refine v_getR hV (pc := 41) dX11_countMore_41 fo_11_6 rfl k0_7 r0_7_6 ?_
    refine v_callVi hV (Mc := mX4_meetings) (v := Mo_meetings S) (S1 := S) (As := []) (rest := []) (q := (RX4, TX4, 8)) (pc := 44) dX11_countMore_44 mK_X11_356 mf_X4_meetings rfl k0_25 rfl rfl rfl (Nat.le_of_ble_eq_true rfl) ⟨Nat.le_of_ble_eq_true rfl, Nat.le_of_ble_eq_true rfl⟩ (r_Mo_meetings hV rfl) ?_
    cases h
    exact g_iret (pc := 47) dX11_countMore_47 rfl rfl (Nat.le_refl _) (Nat.le_refl _)
  · rw [if_neg c1] at h
    by_cases c2 : v1 = (9 : Int32)
    · rw [if_pos c2] at h
      refine g_tab (off := 47) (tgt := 48) (pc := 1) dX11_countMore_1 (by rw [c2]; decide +kernel) (by decide) (by decide +kernel) ?_
      refine g_aload_n (pc := 48) dX11_countMore_48 rfl ?_
      refine v_getR hV (pc := 49) dX11_countMore_49 fo_11_9 rfl k0_7 r0_7_9 ?_
      refine v_callVi hV (Mc := mX1_fogLevel) (v := Hr_fogLevel S) (S1 := S) (As := []) (rest := []) (q := (RX1, TX1, 7)) (pc := 52) dX11_countMore_52 mK_X11_359 mf_X1_fogLevel rfl k0_40 rfl rfl rfl (Nat.le_of_ble_eq_true rfl) ⟨Nat.le_of_ble_eq_true rfl, Nat.le_of_ble_eq_true rfl⟩ (r_Hr_fogLevel hV rfl) ?_
      cases h
      exact g_iret (pc := 55) dX11_countMore_55 rfl rfl (Nat.le_refl _) (Nat.le_refl _)
    · rw [if_neg c2] at h
      by_cases c3 : v1 = (10 : Int32)
      · rw [if_pos c3] at h
        refine g_tab (off := 55) (tgt := 56) (pc := 1) dX11_countMore_1 (by rw [c3]; decide +kernel) (by decide) (by decide +kernel) ?_
        refine g_aload_n (pc := 56) dX11_countMore_56 rfl ?_
        refine v_getR hV (pc := 57) dX11_countMore_57 fo_11_10 rfl k0_7 r0_7_10 ?_
        obtain ⟨q4, hq4, h⟩ := bnd h
        refine v_callVi hV (Mc := mX8_unknownNow) (v := q4.1) (S1 := q4.2) (As := []) (rest := []) (q := (RX8, TX8, 8)) (pc := 60) dX11_countMore_60 mK_X11_281 mf_X8_unknownNow rfl k0_42 rfl rfl rfl (Nat.le_of_ble_eq_true rfl) ⟨Nat.le_of_ble_eq_true rfl, Nat.le_of_ble_eq_true rfl⟩ (r_Sg_unknownNow hV hq4) ?_
        cases h
        exact g_iret (pc := 63) dX11_countMore_63 rfl rfl (Nat.le_refl _) (Nat.le_refl _)
      · rw [if_neg c3] at h
        by_cases c5 : v1 = (11 : Int32)
        · rw [if_pos c5] at h
          refine g_tab (off := 63) (tgt := 64) (pc := 1) dX11_countMore_1 (by rw [c5]; decide +kernel) (by decide) (by decide +kernel) ?_
          refine g_aload_n (pc := 64) dX11_countMore_64 rfl ?_
          refine v_getR hV (pc := 65) dX11_countMore_65 fo_11_10 rfl k0_7 r0_7_10 ?_
          refine v_callVi hV (Mc := mX8_many) (v := Sg_many S) (S1 := S) (As := []) (rest := []) (q := (RX8, TX8, 8)) (pc := 68) dX11_countMore_68 mK_X11_362 mf_X8_many rfl k0_42 rfl rfl rfl (Nat.le_of_ble_eq_true rfl) ⟨Nat.le_of_ble_eq_true rfl, Nat.le_of_ble_eq_true rfl⟩ (r_Sg_many hV rfl) ?_
          cases h
          exact g_iret (pc := 71) dX11_countMore_71 rfl rfl (Nat.le_refl _) (Nat.le_refl _)
        · rw [if_neg c5] at h
          by_cases c6 : v1 = (12 : Int32)
          · rw [if_pos c6] at h
            refine g_tab (off := 71) (tgt := 72) (pc := 1) dX11_countMore_1 (by rw [c6]; decide +kernel) (by decide) (by decide +kernel) ?_
            refine g_aload_n (pc := 72) dX11_countMore_72 rfl ?_
            refine v_getR hV (pc := 73) dX11_countMore_73 fo_11_6 rfl k0_7 r0_7_6 ?_
            refine v_callVi hV (Mc := mX4_logLength) (v := Mo_logLength S) (S1 := S) (As := []) (rest := []) (q := (RX4, TX4, 8)) (pc := 76) dX11_countMore_76 mK_X11_363 mf_X4_logLength rfl k0_25 rfl rfl rfl (Nat.le_of_ble_eq_true rfl) ⟨Nat.le_of_ble_eq_true rfl, Nat.le_of_ble_eq_true rfl⟩ (r_Mo_logLength hV rfl) ?_
            cases h
            exact g_iret (pc := 79) dX11_countMore_79 rfl rfl (Nat.le_refl _) (Nat.le_refl _)
          · rw [if_neg c6] at h
            by_cases c7 : v1 = (13 : Int32)
            · rw [if_pos c7] at h
              refine g_tab (off := 79) (tgt := 80) (pc := 1) dX11_countMore_1 (by rw [c7]; decide +kernel) (by decide) (by decide +kernel) ?_
              refine g_aload_n (pc := 80) dX11_countMore_80 rfl ?_
              refine v_getR hV (pc := 81) dX11_countMore_81 fo_11_7 rfl k0_7 r0_7_7 ?_
              refine v_callVi hV (Mc := mX0_many) (v := Ac_many S) (S1 := S) (As := []) (rest := []) (q := (RX0, TX0, 6)) (pc := 84) dX11_countMore_84 mK_X11_366 mf_X0_many rfl k0_30 rfl rfl rfl (Nat.le_of_ble_eq_true rfl) ⟨Nat.le_of_ble_eq_true rfl, Nat.le_of_ble_eq_true rfl⟩ (r_Ac_many hV rfl) ?_
              cases h
              exact g_iret (pc := 87) dX11_countMore_87 rfl rfl (Nat.le_refl _) (Nat.le_refl _)
            · rw [if_neg c7] at h
              refine g_tab (off := 87) (tgt := 88) (pc := 1) dX11_countMore_1 ?_ (by decide) (by decide +kernel) ?_
              ·
                refine tab_dflt (ok := [0, 1, 2, 3, 4, 5]) (fun k hk => ?_) (by decide +kernel)
                have e0 := lv_neT c1 (a := 8) rfl
                have e1 := lv_neT c2 (a := 9) rfl
                have e2 := lv_neT c3 (a := 10) rfl
                have e3 := lv_neT c5 (a := 11) rfl
                have e4 := lv_neT c6 (a := 12) rfl
                have e5 := lv_neT c7 (a := 13) rfl
                simp only [List.mem_cons, List.not_mem_nil, or_false] at hk
                omega
              ·
                refine g_ldc (v := (-1000000)) (pc := 88) dX11_countMore_88 kI_X11_150 ?_
                cases h
                exact g_iret (pc := 90) dX11_countMore_90 rfl rfl (Nat.le_refl _) (Nat.le_refl _)
def Dk_count (v1 : Int32) (S : Sm) : Option (Int32 × Sm) := (if v1 = (0 : Int32) then (some ((Nt_mouths S, S))) else (if v1 = (1 : Int32) then (some ((Nt_colours S, S))) else (if v1 = (2 : Int32) then (some ((Mo_trains S, S))) else (if v1 = (3 : Int32) then ((Mo_guardsInAll S).bind fun q5 => (some ((q5, S)))) else (if v1 = (4 : Int32) then (some ((La_many S, S))) else (if v1 = (5 : Int32) then (some ((Tp_size S, S))) else (if v1 = (6 : Int32) then (some ((La_holding S, S))) else (if v1 = (7 : Int32) then (some ((Mo_hour S, S))) else ((Dk_countMore v1 S).bind fun q10 => (some ((q10.1, q10.2))))))))))))
set_option maxRecDepth 4000 in
theorem r_Dk_count {V : Sm → Wd} (hV : VwC V) {v1 : Int32} {S : Sm} {q : Int32 × Sm} (h : Dk_count v1 S = some q) : Runs 5 mX11_count [.ref 7, .int v1] (V S) (some (.int q.1)) (V q.2) 0 0 := by
  unfold Dk_count at h
  refine Runs.of2 [some (.ref 7), some (.int v1)] 0 rfl rfl (Nat.le_of_ble_eq_true rfl) (fun l Γ => ?_)
  refine g_iload_n (pc := 0) dX11_count_0 rfl ?_
  by_cases c1 : v1 = (0 : Int32)
  · rw [if_pos c1] at h
    refine g_tab (off := 47) (tgt := 48) (pc := 1) dX11_count_1 (by rw [c1]; decide +kernel) (by decide) (by decide +kernel) ?_
    refine g_aload_n (pc := 48) dX11_count_48 rfl ?_
    refine v_getR hV (pc := 49) dX11_count_49 fo_11_1 rfl k0_7 r0_7_1 ?_
    refine v_callVi hV (Mc := mX5_mouths) (v := Nt_mouths S) (S1 := S) (As := []) (rest := []) (q := (RX5, TX5, 3)) (pc := 52) dX11_count_52 mK_X11_130 mf_X5_mouths rfl k0_10 rfl rfl rfl (Nat.le_of_ble_eq_true rfl) ⟨Nat.le_of_ble_eq_true rfl, Nat.le_of_ble_eq_true rfl⟩ (r_Nt_mouths hV rfl) ?_
    cases h
    exact g_iret (pc := 55) dX11_count_55 rfl rfl (Nat.le_refl _) (Nat.le_refl _)
  · rw [if_neg c1] at h
    by_cases c2 : v1 = (1 : Int32)
    · rw [if_pos c2] at h
      refine g_tab (off := 55) (tgt := 56) (pc := 1) dX11_count_1 (by rw [c2]; decide +kernel) (by decide) (by decide +kernel) ?_
      refine g_aload_n (pc := 56) dX11_count_56 rfl ?_
      refine v_getR hV (pc := 57) dX11_count_57 fo_11_1 rfl k0_7 r0_7_1 ?_
      refine v_callVi hV (Mc := mX5_colours) (v := Nt_colours S) (S1 := S) (As := []) (rest := []) (q := (RX5, TX5, 3)) (pc := 60) dX11_count_60 mK_X11_338 mf_X5_colours rfl k0_10 rfl rfl rfl (Nat.le_of_ble_eq_true rfl) ⟨Nat.le_of_ble_eq_true rfl, Nat.le_of_ble_eq_true rfl⟩ (r_Nt_colours hV rfl) ?_
      cases h
      exact g_iret (pc := 63) dX11_count_63 rfl rfl (Nat.le_refl _) (Nat.le_refl _)
    · rw [if_neg c2] at h
      by_cases c3 : v1 = (2 : Int32)
      · rw [if_pos c3] at h
        refine g_tab (off := 63) (tgt := 64) (pc := 1) dX11_count_1 (by rw [c3]; decide +kernel) (by decide) (by decide +kernel) ?_
        refine g_aload_n (pc := 64) dX11_count_64 rfl ?_
        refine v_getR hV (pc := 65) dX11_count_65 fo_11_6 rfl k0_7 r0_7_6 ?_
        refine v_callVi hV (Mc := mX4_trains) (v := Mo_trains S) (S1 := S) (As := []) (rest := []) (q := (RX4, TX4, 8)) (pc := 68) dX11_count_68 mK_X11_341 mf_X4_trains rfl k0_25 rfl rfl rfl (Nat.le_of_ble_eq_true rfl) ⟨Nat.le_of_ble_eq_true rfl, Nat.le_of_ble_eq_true rfl⟩ (r_Mo_trains hV rfl) ?_
        cases h
        exact g_iret (pc := 71) dX11_count_71 rfl rfl (Nat.le_refl _) (Nat.le_refl _)
      · rw [if_neg c3] at h
        by_cases c4 : v1 = (3 : Int32)
        · rw [if_pos c4] at h
          refine g_tab (off := 71) (tgt := 72) (pc := 1) dX11_count_1 (by rw [c4]; decide +kernel) (by decide) (by decide +kernel) ?_
          refine g_aload_n (pc := 72) dX11_count_72 rfl ?_
          refine v_getR hV (pc := 73) dX11_count_73 fo_11_6 rfl k0_7 r0_7_6 ?_
          obtain ⟨q5, hq5, h⟩ := bnd h
          refine v_callVi hV (Mc := mX4_guardsInAll) (v := q5) (S1 := S) (As := []) (rest := []) (q := (RX4, TX4, 8)) (pc := 76) dX11_count_76 mK_X11_344 mf_X4_guardsInAll rfl k0_25 rfl rfl rfl (Nat.le_of_ble_eq_true rfl) ⟨Nat.le_of_ble_eq_true rfl, Nat.le_of_ble_eq_true rfl⟩ (r_Mo_guardsInAll hV hq5) ?_
          cases h
          exact g_iret (pc := 79) dX11_count_79 rfl rfl (Nat.le_refl _) (Nat.le_refl _)
        · rw [if_neg c4] at h
          by_cases c6 : v1 = (4 : Int32)
          · rw [if_pos c6] at h
            refine g_tab (off := 79) (tgt := 80) (pc := 1) dX11_count_1 (by rw [c6]; decide +kernel) (by decide) (by decide +kernel) ?_
            refine g_aload_n (pc := 80) dX11_count_80 rfl ?_
            refine v_getR hV (pc := 81) dX11_count_81 fo_11_4 rfl k0_7 r0_7_4 ?_
            refine v_callVi hV (Mc := mX3_many) (v := La_many S) (S1 := S) (As := []) (rest := []) (q := (RX3, TX3, 6)) (pc := 84) dX11_count_84 mK_X11_347 mf_X3_many rfl k0_20 rfl rfl rfl (Nat.le_of_ble_eq_true rfl) ⟨Nat.le_of_ble_eq_true rfl, Nat.le_of_ble_eq_true rfl⟩ (r_La_many hV rfl) ?_
            cases h
            exact g_iret (pc := 87) dX11_count_87 rfl rfl (Nat.le_refl _) (Nat.le_refl _)
          · rw [if_neg c6] at h
            by_cases c7 : v1 = (5 : Int32)
            · rw [if_pos c7] at h
              refine g_tab (off := 87) (tgt := 88) (pc := 1) dX11_count_1 (by rw [c7]; decide +kernel) (by decide) (by decide +kernel) ?_
              refine g_aload_n (pc := 88) dX11_count_88 rfl ?_
              refine v_getR hV (pc := 89) dX11_count_89 fo_11_0 rfl k0_7 r0_7_0 ?_
              refine v_callVi hV (Mc := mX9_size) (v := Tp_size S) (S1 := S) (As := []) (rest := []) (q := (RX9, TX9, 4)) (pc := 92) dX11_count_92 mK_X11_107 mf_X9_size rfl k0_8 rfl rfl rfl (Nat.le_of_ble_eq_true rfl) ⟨Nat.le_of_ble_eq_true rfl, Nat.le_of_ble_eq_true rfl⟩ (r_Tp_size hV rfl) ?_
              cases h
              exact g_iret (pc := 95) dX11_count_95 rfl rfl (Nat.le_refl _) (Nat.le_refl _)
            · rw [if_neg c7] at h
              by_cases c8 : v1 = (6 : Int32)
              · rw [if_pos c8] at h
                refine g_tab (off := 95) (tgt := 96) (pc := 1) dX11_count_1 (by rw [c8]; decide +kernel) (by decide) (by decide +kernel) ?_
                refine g_aload_n (pc := 96) dX11_count_96 rfl ?_
                refine v_getR hV (pc := 97) dX11_count_97 fo_11_4 rfl k0_7 r0_7_4 ?_
                refine v_callVi hV (Mc := mX3_holding) (v := La_holding S) (S1 := S) (As := []) (rest := []) (q := (RX3, TX3, 6)) (pc := 100) dX11_count_100 mK_X11_350 mf_X3_holding rfl k0_20 rfl rfl rfl (Nat.le_of_ble_eq_true rfl) ⟨Nat.le_of_ble_eq_true rfl, Nat.le_of_ble_eq_true rfl⟩ (r_La_holding hV rfl) ?_
                cases h
                exact g_iret (pc := 103) dX11_count_103 rfl rfl (Nat.le_refl _) (Nat.le_refl _)
              · rw [if_neg c8] at h
                by_cases c9 : v1 = (7 : Int32)
                · rw [if_pos c9] at h
                  refine g_tab (off := 103) (tgt := 104) (pc := 1) dX11_count_1 (by rw [c9]; decide +kernel) (by decide) (by decide +kernel) ?_
                  refine g_aload_n (pc := 104) dX11_count_104 rfl ?_
                  refine v_getR hV (pc := 105) dX11_count_105 fo_11_6 rfl k0_7 r0_7_6 ?_
                  refine v_callVi hV (Mc := mX4_hour) (v := Mo_hour S) (S1 := S) (As := []) (rest := []) (q := (RX4, TX4, 8)) (pc := 108) dX11_count_108 mK_X11_332 mf_X4_hour rfl k0_25 rfl rfl rfl (Nat.le_of_ble_eq_true rfl) ⟨Nat.le_of_ble_eq_true rfl, Nat.le_of_ble_eq_true rfl⟩ (r_Mo_hour hV rfl) ?_
                  cases h
                  exact g_iret (pc := 111) dX11_count_111 rfl rfl (Nat.le_refl _) (Nat.le_refl _)
                · rw [if_neg c9] at h
                  refine g_tab (off := 111) (tgt := 112) (pc := 1) dX11_count_1 ?_ (by decide) (by decide +kernel) ?_
                  ·
                    refine tab_dflt (ok := [0, 1, 2, 3, 4, 5, 6, 7]) (fun k hk => ?_) (by decide +kernel)
                    have e0 := lv_neT c1 (a := 0) rfl
                    have e1 := lv_neT c2 (a := 1) rfl
                    have e2 := lv_neT c3 (a := 2) rfl
                    have e3 := lv_neT c4 (a := 3) rfl
                    have e4 := lv_neT c6 (a := 4) rfl
                    have e5 := lv_neT c7 (a := 5) rfl
                    have e6 := lv_neT c8 (a := 6) rfl
                    have e7 := lv_neT c9 (a := 7) rfl
                    simp only [List.mem_cons, List.not_mem_nil, or_false] at hk
                    omega
                  ·
                    refine g_aload_n (pc := 112) dX11_count_112 rfl ?_
                    refine g_iload_n (pc := 113) dX11_count_113 rfl ?_
                    obtain ⟨q10, hq10, h⟩ := bnd h
                    refine v_callVi hV (Mc := mX11_countMore) (v := q10.1) (S1 := q10.2) (As := [.int v1]) (rest := []) (q := (RX11, TX11, 12)) (pc := 114) dX11_count_114 mK_X11_353 mf_X11_countMore rfl k0_7 rfl rfl rfl (Nat.le_of_ble_eq_true rfl) ⟨Nat.le_of_ble_eq_true rfl, Nat.le_of_ble_eq_true rfl⟩ (r_Dk_countMore hV hq10) ?_
                    cases h
                    exact g_iret (pc := 117) dX11_count_117 rfl rfl (Nat.le_refl _) (Nat.le_refl _)
def Md_in_15 (s0 : Int32) : Int32 := (s0 &&& 1)
set_option maxRecDepth 4000 in
theorem t_Md_in_15 {V : Sm → Wd} (hV : VwT V) {l : Launch} {Γ : Gm} {s0 : Int32} {S : Sm} {q : Int32} (h : Md_in_15 s0 = q) : G mX12_in l Γ (rmD 0 0 0) (mQ Γ (some (.int q)) (V S) 0 0) 0 0 15 [none, none, none] [.int s0] (V S) := by
  unfold Md_in_15 at h
  subst h
  exact g_iret (pc := 15) dX12_in_15 rfl rfl (Nat.le_refl _) (Nat.le_refl _)
def Md_in_14  : Int32 := (Md_in_15 0)
set_option maxRecDepth 4000 in
theorem t_Md_in_14 {V : Sm → Wd} (hV : VwT V) {l : Launch} {Γ : Gm}  {S : Sm} {q : Int32} (h : Md_in_14 = q) : G mX12_in l Γ (rmD 0 0 0) (mQ Γ (some (.int q)) (V S) 0 0) 0 0 14 [none, none, none] [] (V S) := by
  unfold Md_in_14 at h
  refine g_iconst (v := 0) (pc := 14) dX12_in_14 (by decide) ?_
  exact t_Md_in_15 hV h
def Md_in (v0 : Int32) (v1 : Int32) (v2 : Int32) : Int32 := (if v0 < v1 then Md_in_14 else (if v2 < v0 then Md_in_14 else (Md_in_15 1)))
set_option maxRecDepth 4000 in
theorem r_Md_in {V : Sm → Wd} (hV : VwT V) {v0 : Int32} {v1 : Int32} {v2 : Int32} {S : Sm} {q : Int32} (h : Md_in v0 v1 v2 = q) : Runs 0 mX12_in [.int v0, .int v1, .int v2] (V S) (some (.int q)) (V S) 0 0 := by
  unfold Md_in at h
  refine Runs.of2 [some (.int v0), some (.int v1), some (.int v2)] 0 rfl rfl (Nat.le_of_ble_eq_true rfl) (fun l Γ => ?_)
  refine g_iload_n (pc := 0) dX12_in_0 rfl ?_
  refine g_iload_n (pc := 1) dX12_in_1 rfl ?_
  refine g_icmp_lt (tgt := 14) (pc := 2) dX12_in_2 (by decide) (fun c2 => ?_) (fun c2 => ?_)
  · rw [if_pos c2] at h
    refine g_wk [false, false, false] rfl ?_
    exact t_Md_in_14 hV h
  · rw [if_neg c2] at h
    refine g_iload_n (pc := 5) dX12_in_5 rfl ?_
    refine g_iload_n (pc := 6) dX12_in_6 rfl ?_
    refine g_icmp_gt (tgt := 14) (pc := 7) dX12_in_7 (by decide) (fun c1 => ?_) (fun c1 => ?_)
    · rw [if_pos c1] at h
      refine g_wk [false, false, false] rfl ?_
      exact t_Md_in_14 hV h
    · rw [if_neg c1] at h
      refine g_iconst (v := 1) (pc := 10) dX12_in_10 (by decide) ?_
      refine g_goto (tgt := 15) (pc := 11) dX12_in_11 (by decide) ?_
      refine g_wk [false, false, false] rfl ?_
      exact t_Md_in_15 hV h
def Md_has_14 (s0 : Int32) : Int32 := (s0 &&& 1)
set_option maxRecDepth 4000 in
theorem t_Md_has_14 {V : Sm → Wd} (hV : VwT V) {l : Launch} {Γ : Gm} {s0 : Int32} {S : Sm} {q : Int32} (h : Md_has_14 s0 = q) : G mX12_has l Γ (rmD 0 0 0) (mQ Γ (some (.int q)) (V S) 0 0) 0 0 14 [none, none] [.int s0] (V S) := by
  unfold Md_has_14 at h
  subst h
  exact g_iret (pc := 14) dX12_has_14 rfl rfl (Nat.le_refl _) (Nat.le_refl _)
def Md_has (v0 : Int32) (v1 : Int32) : Int32 := (if ((iShr v0 v1) &&& 1) = 1 then (Md_has_14 1) else (Md_has_14 0))
set_option maxRecDepth 4000 in
theorem r_Md_has {V : Sm → Wd} (hV : VwT V) {v0 : Int32} {v1 : Int32} {S : Sm} {q : Int32} (h : Md_has v0 v1 = q) : Runs 0 mX12_has [.int v0, .int v1] (V S) (some (.int q)) (V S) 0 0 := by
  unfold Md_has at h
  refine Runs.of2 [some (.int v0), some (.int v1)] 0 rfl rfl (Nat.le_of_ble_eq_true rfl) (fun l Γ => ?_)
  refine g_iload_n (pc := 0) dX12_has_0 rfl ?_
  refine g_iload_n (pc := 1) dX12_has_1 rfl ?_
  refine g_ishr (pc := 2) dX12_has_2 ?_
  refine g_iconst (v := 1) (pc := 3) dX12_has_3 (by decide) ?_
  refine g_iand (pc := 4) dX12_has_4 ?_
  refine g_iconst (v := 1) (pc := 5) dX12_has_5 (by decide) ?_
  refine g_icmp_ne (tgt := 13) (pc := 6) dX12_has_6 (by decide) (fun c1 => ?_) (fun c1 => ?_)
  · rw [if_neg c1] at h
    refine g_iconst (v := 0) (pc := 13) dX12_has_13 (by decide) ?_
    refine g_wk [false, false] rfl ?_
    exact t_Md_has_14 hV h
  · rw [if_pos c1] at h
    refine g_iconst (v := 1) (pc := 9) dX12_has_9 (by decide) ?_
    refine g_goto (tgt := 14) (pc := 10) dX12_has_10 (by decide) ?_
    refine g_wk [false, false] rfl ?_
    exact t_Md_has_14 hV h
def Md_thrown (S : Sm) : Int32 := (gi S 53 0)
set_option maxRecDepth 4000 in
theorem r_Md_thrown {V : Sm → Wd} (hV : VwT V)  {S : Sm} {q : Int32} (h : Md_thrown S = q) : Runs 0 mX12_thrown [.ref 53] (V S) (some (.int q)) (V S) 0 0 := by
  unfold Md_thrown at h
  refine Runs.of2 [some (.ref 53)] 0 rfl rfl (Nat.le_of_ble_eq_true rfl) (fun l Γ => ?_)
  refine g_aload_n (pc := 0) dX12_thrown_0 rfl ?_
  refine v_getI hV (pc := 1) dX12_thrown_1 fo_12_0 rfl k0_53 own_53 ?_
  subst h
  exact g_iret (pc := 4) dX12_thrown_4 rfl rfl (Nat.le_refl _) (Nat.le_refl _)
def Md_byteOf_45 (v5 : Int32) (s0 : Int32) : Int32 := ((iShr s0 (24 - (8 * (iRem v5 4)))) &&& 255)
set_option maxRecDepth 4000 in
theorem t_Md_byteOf_45 {V : Sm → Wd} (hV : VwT V) {l : Launch} {Γ : Gm} {v5 : Int32} {s0 : Int32} {S : Sm} {q : Int32} (h : Md_byteOf_45 v5 s0 = q) : G mX12_byteOf l Γ (rmD 0 0 0) (mQ Γ (some (.int q)) (V S) 0 0) 0 0 45 [none, none, none, none, none, some (.int v5), none] [.int s0] (V S) := by
  unfold Md_byteOf_45 at h
  refine g_istore (ls1 := [none, none, none, none, none, some (.int v5), some (.int s0)]) (pc := 45) dX12_byteOf_45 (by decide) rfl ?_
  refine g_iload (pc := 47) dX12_byteOf_47 rfl ?_
  refine g_bipush (v := 24) (pc := 49) dX12_byteOf_49 (by decide) ?_
  refine g_bipush (v := 8) (pc := 51) dX12_byteOf_51 (by decide) ?_
  refine g_iload (pc := 53) dX12_byteOf_53 rfl ?_
  refine g_iconst (v := 4) (pc := 55) dX12_byteOf_55 (by decide) ?_
  refine g_irem (pc := 56) dX12_byteOf_56 (by decide) ?_
  refine g_imul (pc := 57) dX12_byteOf_57 ?_
  refine g_isub (pc := 58) dX12_byteOf_58 ?_
  refine g_ishr (pc := 59) dX12_byteOf_59 ?_
  refine g_sipush (v := 255) (pc := 60) dX12_byteOf_60 (by decide) ?_
  refine g_iand (pc := 63) dX12_byteOf_63 ?_
  subst h
  exact g_iret (pc := 64) dX12_byteOf_64 rfl rfl (Nat.le_refl _) (Nat.le_refl _)
def Md_byteOf (v0 : Int32) (v1 : Int32) (v2 : Int32) (v3 : Int32) (v4 : Int32) (v5 : Int32) : Int32 := (if (4 : Int32) ≤ v5 then (if (8 : Int32) ≤ v5 then (if (12 : Int32) ≤ v5 then (if (16 : Int32) ≤ v5 then (Md_byteOf_45 v5 v4) else (Md_byteOf_45 v5 v3)) else (Md_byteOf_45 v5 v2)) else (Md_byteOf_45 v5 v1)) else (Md_byteOf_45 v5 v0))
set_option maxRecDepth 4000 in
theorem r_Md_byteOf {V : Sm → Wd} (hV : VwT V) {v0 : Int32} {v1 : Int32} {v2 : Int32} {v3 : Int32} {v4 : Int32} {v5 : Int32} {S : Sm} {q : Int32} (h : Md_byteOf v0 v1 v2 v3 v4 v5 = q) : Runs 0 mX12_byteOf [.int v0, .int v1, .int v2, .int v3, .int v4, .int v5] (V S) (some (.int q)) (V S) 0 0 := by
  unfold Md_byteOf at h
  refine Runs.of2 [some (.int v0), some (.int v1), some (.int v2), some (.int v3), some (.int v4), some (.int v5), none] 1 rfl rfl (Nat.le_of_ble_eq_true rfl) (fun l Γ => ?_)
  refine g_iload (pc := 0) dX12_byteOf_0 rfl ?_
  refine g_iconst (v := 4) (pc := 2) dX12_byteOf_2 (by decide) ?_
  refine g_icmp_ge (tgt := 10) (pc := 3) dX12_byteOf_3 (by decide) (fun c4 => ?_) (fun c4 => ?_)
  · rw [if_pos c4] at h
    refine g_iload (pc := 10) dX12_byteOf_10 rfl ?_
    refine g_bipush (v := 8) (pc := 12) dX12_byteOf_12 (by decide) ?_
    refine g_icmp_ge (tgt := 21) (pc := 14) dX12_byteOf_14 (by decide) (fun c3 => ?_) (fun c3 => ?_)
    · rw [if_pos c3] at h
      refine g_iload (pc := 21) dX12_byteOf_21 rfl ?_
      refine g_bipush (v := 12) (pc := 23) dX12_byteOf_23 (by decide) ?_
      refine g_icmp_ge (tgt := 32) (pc := 25) dX12_byteOf_25 (by decide) (fun c2 => ?_) (fun c2 => ?_)
      · rw [if_pos c2] at h
        refine g_iload (pc := 32) dX12_byteOf_32 rfl ?_
        refine g_bipush (v := 16) (pc := 34) dX12_byteOf_34 (by decide) ?_
        refine g_icmp_ge (tgt := 43) (pc := 36) dX12_byteOf_36 (by decide) (fun c1 => ?_) (fun c1 => ?_)
        · rw [if_pos c1] at h
          refine g_iload (pc := 43) dX12_byteOf_43 rfl ?_
          refine g_wk [false, false, false, false, false, true, false] rfl ?_
          exact t_Md_byteOf_45 hV h
        · rw [if_neg c1] at h
          refine g_iload_n (pc := 39) dX12_byteOf_39 rfl ?_
          refine g_goto (tgt := 45) (pc := 40) dX12_byteOf_40 (by decide) ?_
          refine g_wk [false, false, false, false, false, true, false] rfl ?_
          exact t_Md_byteOf_45 hV h
      · rw [if_neg c2] at h
        refine g_iload_n (pc := 28) dX12_byteOf_28 rfl ?_
        refine g_goto (tgt := 45) (pc := 29) dX12_byteOf_29 (by decide) ?_
        refine g_wk [false, false, false, false, false, true, false] rfl ?_
        exact t_Md_byteOf_45 hV h
    · rw [if_neg c3] at h
      refine g_iload_n (pc := 17) dX12_byteOf_17 rfl ?_
      refine g_goto (tgt := 45) (pc := 18) dX12_byteOf_18 (by decide) ?_
      refine g_wk [false, false, false, false, false, true, false] rfl ?_
      exact t_Md_byteOf_45 hV h
  · rw [if_neg c4] at h
    refine g_iload_n (pc := 6) dX12_byteOf_6 rfl ?_
    refine g_goto (tgt := 45) (pc := 7) dX12_byteOf_7 (by decide) ?_
    refine g_wk [false, false, false, false, false, true, false] rfl ?_
    exact t_Md_byteOf_45 hV h
def hd_Md_feed_L6 (V : Sm → Wd) (l : Launch) (Γ : Gm) (rF : Option Value) (wF : Wd) (v1 : Int32) (v2 : Int32) (v3 : Int32) (v4 : Int32) (v5 : Int32) (S : Sm) (q : Int32 × Int32) : Prop := G mX12_feed l Γ (rmD 1 0 0) (mQ Γ rF wF 0 0) 0 0 6 [some (.ref 53), some (.int v1), some (.int v2), some (.int v3), some (.int v4), some (.int v5), some (.int q.1), some (.int q.2), none] [] (V S)
def ps_Md_feed_L6 (V : Sm → Wd) (l : Launch) (Γ : Gm) (rF : Option Value) (wF : Wd) (v1 : Int32) (v2 : Int32) (v3 : Int32) (v4 : Int32) (v5 : Int32) (S : Sm) (x : Int32) : Prop := (fun (a : Int32) => G mX12_feed l Γ (rmD 1 0 0) (mQ Γ rF wF 0 0) 0 0 44 [some (.ref 53), some (.int v1), some (.int v2), some (.int v3), some (.int v4), some (.int v5), some (.int a), none, none] [] (V S)) x
def Md_feed_35_L6 (v1 : Int32) (v2 : Int32) (v3 : Int32) (v4 : Int32) (v5 : Int32) (v7 : Int32) (s0 : Int32) (s1 : Int32) (S : Sm) : Option ((Int32 × Int32) ⊕ (Int32)) := (some (.inl (s0 + s1, v7 + 1)))
set_option maxRecDepth 4000 in
theorem t_Md_feed_35_L6 {V : Sm → Wd} (hV : VwT V) {l : Launch} {Γ : Gm} {v1 : Int32} {v2 : Int32} {v3 : Int32} {v4 : Int32} {v5 : Int32} {v7 : Int32} {s0 : Int32} {s1 : Int32} {rF : Option Value} {wF : Wd} {S : Sm} {o : (Int32 × Int32) ⊕ (Int32)} (h : Md_feed_35_L6 v1 v2 v3 v4 v5 v7 s0 s1 S = some o) (hK : Sum.elim (hd_Md_feed_L6 V l Γ rF wF v1 v2 v3 v4 v5 S) (ps_Md_feed_L6 V l Γ rF wF v1 v2 v3 v4 v5 S) o) : G mX12_feed l Γ (rmD 1 0 0) (mQ Γ rF wF 0 0) 0 0 35 [some (.ref 53), some (.int v1), some (.int v2), some (.int v3), some (.int v4), some (.int v5), none, some (.int v7), none] [.int s1, .int s0] (V S) := by
  unfold Md_feed_35_L6 at h
  refine g_iadd (pc := 35) dX12_feed_35 ?_
  refine g_istore (ls1 := [some (.ref 53), some (.int v1), some (.int v2), some (.int v3), some (.int v4), some (.int v5), some (.int (s0 + s1)), some (.int v7), none]) (pc := 36) dX12_feed_36 (by decide) rfl ?_
  refine g_iinc (v := v7 + 1) (ls1 := [some (.ref 53), some (.int v1), some (.int v2), some (.int v3), some (.int v4), some (.int v5), some (.int (s0 + s1)), some (.int (v7 + 1)), none]) (pc := 38) dX12_feed_38 rfl rfl (by decide) rfl ?_
  refine g_goto (tgt := 6) (pc := 41) dX12_feed_41 (by decide) ?_
  cases h
  exact hK
def Md_feed_L6 (v1 : Int32) (v2 : Int32) (v3 : Int32) (v4 : Int32) (v5 : Int32) (S : Sm) (q : Int32 × Int32) : Option ((Int32 × Int32) ⊕ (Int32)) := (if (20 : Int32) ≤ q.2 then (some (.inr q.1)) else (if (Md_byteOf v1 v2 v3 v4 v5 q.2) = 0 then (Md_feed_35_L6 v1 v2 v3 v4 v5 q.2 q.1 0 S) else (Md_feed_35_L6 v1 v2 v3 v4 v5 q.2 q.1 1 S)))
set_option maxRecDepth 4000 in
theorem t_Md_feed_L6 {V : Sm → Wd} (hV : VwT V) {l : Launch} {Γ : Gm} {rF : Option Value} {wF : Wd} {v1 : Int32} {v2 : Int32} {v3 : Int32} {v4 : Int32} {v5 : Int32} {S : Sm} {q : Int32 × Int32} {o : (Int32 × Int32) ⊕ (Int32)} (h : Md_feed_L6 v1 v2 v3 v4 v5 S q = some o) (hK : Sum.elim (hd_Md_feed_L6 V l Γ rF wF v1 v2 v3 v4 v5 S) (ps_Md_feed_L6 V l Γ rF wF v1 v2 v3 v4 v5 S) o) : hd_Md_feed_L6 V l Γ rF wF v1 v2 v3 v4 v5 S q := by
  unfold Md_feed_L6 at h
  unfold hd_Md_feed_L6
  refine g_iload (pc := 6) dX12_feed_6 rfl ?_
  refine g_bipush (v := 20) (pc := 8) dX12_feed_8 (by decide) ?_
  refine g_icmp_ge (tgt := 44) (pc := 10) dX12_feed_10 (by decide) (fun c2 => ?_) (fun c2 => ?_)
  · rw [if_pos c2] at h
    refine g_wk [true, true, true, true, true, true, true, false, false] rfl ?_
    cases h
    exact hK
  · rw [if_neg c2] at h
    refine g_iload (pc := 13) dX12_feed_13 rfl ?_
    refine g_iload_n (pc := 15) dX12_feed_15 rfl ?_
    refine g_iload_n (pc := 16) dX12_feed_16 rfl ?_
    refine g_iload_n (pc := 17) dX12_feed_17 rfl ?_
    refine g_iload (pc := 18) dX12_feed_18 rfl ?_
    refine g_iload (pc := 20) dX12_feed_20 rfl ?_
    refine g_iload (pc := 22) dX12_feed_22 rfl ?_
    refine v_callSi (Mc := mX12_byteOf) (v := Md_byteOf v1 v2 v3 v4 v5 q.2) (S1 := S) (As := [.int v1, .int v2, .int v3, .int v4, .int v5, .int q.2]) (rest := [.int q.1]) (pc := 24) dX12_feed_24 mK_X12_126 mf_X12_byteOf rfl rfl (Nat.le_of_ble_eq_true rfl) ⟨Nat.le_of_ble_eq_true rfl, Nat.le_of_ble_eq_true rfl⟩ (r_Md_byteOf hV rfl) ?_
    refine g_if_eq (tgt := 34) (pc := 27) dX12_feed_27 (by decide) (fun c1 => ?_) (fun c1 => ?_)
    · rw [if_pos c1] at h
      refine g_iconst (v := 0) (pc := 34) dX12_feed_34 (by decide) ?_
      refine g_wk [true, true, true, true, true, true, false, true, false] rfl ?_
      exact t_Md_feed_35_L6 hV h hK
    · rw [if_neg c1] at h
      refine g_iconst (v := 1) (pc := 30) dX12_feed_30 (by decide) ?_
      refine g_goto (tgt := 35) (pc := 31) dX12_feed_31 (by decide) ?_
      refine g_wk [true, true, true, true, true, true, false, true, false] rfl ?_
      exact t_Md_feed_35_L6 hV h hK
set_option maxRecDepth 4000 in
theorem w_Md_feed_L6 {V : Sm → Wd} (hV : VwT V) {l : Launch} {Γ : Gm} {rF : Option Value} {wF : Wd} {v1 : Int32} {v2 : Int32} {v3 : Int32} {v4 : Int32} {v5 : Int32} {S : Sm} {k : Nat} {q : Int32 × Int32} {o : Int32} (h : lpN (Md_feed_L6 v1 v2 v3 v4 v5 S) k q = some o) (hP : ps_Md_feed_L6 V l Γ rF wF v1 v2 v3 v4 v5 S o) : hd_Md_feed_L6 V l Γ rF wF v1 v2 v3 v4 v5 S q := lpN_ind2 (hd_Md_feed_L6 V l Γ rF wF v1 v2 v3 v4 v5 S) (ps_Md_feed_L6 V l Γ rF wF v1 v2 v3 v4 v5 S) (fun s o h hK => t_Md_feed_L6 hV h hK) k q o h hP
def hd_Md_feed_L62 (V : Sm → Wd) (l : Launch) (Γ : Gm) (rF : Option Value) (wF : Wd) (v1 : Int32) (v2 : Int32) (v3 : Int32) (v4 : Int32) (v5 : Int32) (q : Int32 × Sm) : Prop := G mX12_feed l Γ (rmD 1 0 0) (mQ Γ rF wF 0 0) 0 0 62 [some (.ref 53), some (.int v1), some (.int v2), some (.int v3), some (.int v4), some (.int v5), none, some (.int q.1), none] [] (V q.2)
def ps_Md_feed_L62 (V : Sm → Wd) (l : Launch) (Γ : Gm) (rF : Option Value) (wF : Wd) (v1 : Int32) (v2 : Int32) (v3 : Int32) (v4 : Int32) (v5 : Int32) (x : Sm) : Prop := (fun (a : Sm) => G mX12_feed l Γ (rmD 1 0 0) (mQ Γ rF wF 0 0) 0 0 115 [some (.ref 53), none, none, none, none, none, none, none, none] [] (V a)) x
def Md_feed_109_L62 (v1 : Int32) (v2 : Int32) (v3 : Int32) (v4 : Int32) (v5 : Int32) (v7 : Int32) (S : Sm) : Option ((Int32 × Sm) ⊕ (Sm)) := (some (.inl (v7 + 1, S)))
set_option maxRecDepth 4000 in
theorem t_Md_feed_109_L62 {V : Sm → Wd} (hV : VwT V) {l : Launch} {Γ : Gm} {v1 : Int32} {v2 : Int32} {v3 : Int32} {v4 : Int32} {v5 : Int32} {v7 : Int32} {rF : Option Value} {wF : Wd} {S : Sm} {o : (Int32 × Sm) ⊕ (Sm)} (h : Md_feed_109_L62 v1 v2 v3 v4 v5 v7 S = some o) (hK : Sum.elim (hd_Md_feed_L62 V l Γ rF wF v1 v2 v3 v4 v5) (ps_Md_feed_L62 V l Γ rF wF v1 v2 v3 v4 v5) o) : G mX12_feed l Γ (rmD 1 0 0) (mQ Γ rF wF 0 0) 0 0 109 [some (.ref 53), some (.int v1), some (.int v2), some (.int v3), some (.int v4), some (.int v5), none, some (.int v7), none] [] (V S) := by
  unfold Md_feed_109_L62 at h
  refine g_iinc (v := v7 + 1) (ls1 := [some (.ref 53), some (.int v1), some (.int v2), some (.int v3), some (.int v4), some (.int v5), none, some (.int (v7 + 1)), none]) (pc := 109) dX12_feed_109 rfl rfl (by decide) rfl ?_
  refine g_goto (tgt := 62) (pc := 112) dX12_feed_112 (by decide) ?_
  cases h
  exact hK
def Md_feed_L62 (v1 : Int32) (v2 : Int32) (v3 : Int32) (v4 : Int32) (v5 : Int32) (q : Int32 × Sm) : Option ((Int32 × Sm) ⊕ (Sm)) := (if (20 : Int32) ≤ q.1 then (some (.inr q.2)) else (if (Md_byteOf v1 v2 v3 v4 v5 q.1) = 0 then (Md_feed_109_L62 v1 v2 v3 v4 v5 q.1 q.2) else (if inb (gi q.2 53 2) 240 then (Md_feed_109_L62 v1 v2 v3 v4 v5 q.1 (si (si q.2 54 (ix (gi q.2 53 2)) (Md_byteOf v1 v2 v3 v4 v5 q.1)) 53 2 ((gi (si q.2 54 (ix (gi q.2 53 2)) (Md_byteOf v1 v2 v3 v4 v5 q.1)) 53 2) + 1))) else none)))
set_option maxRecDepth 4000 in
theorem t_Md_feed_L62 {V : Sm → Wd} (hV : VwT V) {l : Launch} {Γ : Gm} {rF : Option Value} {wF : Wd} {v1 : Int32} {v2 : Int32} {v3 : Int32} {v4 : Int32} {v5 : Int32} {q : Int32 × Sm} {o : (Int32 × Sm) ⊕ (Sm)} (h : Md_feed_L62 v1 v2 v3 v4 v5 q = some o) (hK : Sum.elim (hd_Md_feed_L62 V l Γ rF wF v1 v2 v3 v4 v5) (ps_Md_feed_L62 V l Γ rF wF v1 v2 v3 v4 v5) o) : hd_Md_feed_L62 V l Γ rF wF v1 v2 v3 v4 v5 q := by
  unfold Md_feed_L62 at h
  unfold hd_Md_feed_L62
  refine g_iload (pc := 62) dX12_feed_62 rfl ?_
  refine g_bipush (v := 20) (pc := 64) dX12_feed_64 (by decide) ?_
  refine g_icmp_ge (tgt := 115) (pc := 66) dX12_feed_66 (by decide) (fun c6 => ?_) (fun c6 => ?_)
  · rw [if_pos c6] at h
    refine g_wk [true, false, false, false, false, false, false, false, false] rfl ?_
    cases h
    exact hK
  · rw [if_neg c6] at h
    refine g_iload_n (pc := 69) dX12_feed_69 rfl ?_
    refine g_iload_n (pc := 70) dX12_feed_70 rfl ?_
    refine g_iload_n (pc := 71) dX12_feed_71 rfl ?_
    refine g_iload (pc := 72) dX12_feed_72 rfl ?_
    refine g_iload (pc := 74) dX12_feed_74 rfl ?_
    refine g_iload (pc := 76) dX12_feed_76 rfl ?_
    refine v_callSi (Mc := mX12_byteOf) (v := Md_byteOf v1 v2 v3 v4 v5 q.1) (S1 := q.2) (As := [.int v1, .int v2, .int v3, .int v4, .int v5, .int q.1]) (rest := []) (pc := 78) dX12_feed_78 mK_X12_126 mf_X12_byteOf rfl rfl (Nat.le_of_ble_eq_true rfl) ⟨Nat.le_of_ble_eq_true rfl, Nat.le_of_ble_eq_true rfl⟩ (r_Md_byteOf hV rfl) ?_
    refine g_istore (ls1 := [some (.ref 53), some (.int v1), some (.int v2), some (.int v3), some (.int v4), some (.int v5), none, some (.int q.1), some (.int (Md_byteOf v1 v2 v3 v4 v5 q.1))]) (pc := 81) dX12_feed_81 (by decide) rfl ?_
    refine g_iload (pc := 83) dX12_feed_83 rfl ?_
    refine g_if_eq (tgt := 109) (pc := 85) dX12_feed_85 (by decide) (fun c5 => ?_) (fun c5 => ?_)
    · rw [if_pos c5] at h
      refine g_wk [true, true, true, true, true, true, false, true, false] rfl ?_
      exact t_Md_feed_109_L62 hV h hK
    · rw [if_neg c5] at h
      refine g_aload_n (pc := 88) dX12_feed_88 rfl ?_
      refine v_getR hV (pc := 89) dX12_feed_89 fo_12_1 rfl k0_53 r0_53_1 ?_
      refine g_aload_n (pc := 92) dX12_feed_92 rfl ?_
      refine v_getI hV (pc := 93) dX12_feed_93 fo_12_2 rfl k0_53 own_53 ?_
      refine g_iload (pc := 96) dX12_feed_96 rfl ?_
      by_cases c4 : inb (gi q.2 53 2) 240
      · rw [if_pos c4] at h
        refine v_iast hV (pc := 98) dX12_feed_98 k0_54 own_54 c4 ?_
        refine g_aload_n (pc := 99) dX12_feed_99 rfl ?_
        refine g_dup (pc := 100) dX12_feed_100 rfl ?_
        refine v_getI hV (pc := 101) dX12_feed_101 fo_12_2 rfl k0_53 own_53 ?_
        refine g_iconst (v := 1) (pc := 104) dX12_feed_104 (by decide) ?_
        refine g_iadd (pc := 105) dX12_feed_105 ?_
        refine v_putI hV (pc := 106) dX12_feed_106 fo_12_2 rfl k0_53 own_53 rfl ?_
        refine g_wk [true, true, true, true, true, true, false, true, false] rfl ?_
        exact t_Md_feed_109_L62 hV h hK
      · rw [if_neg c4] at h; cases h
set_option maxRecDepth 4000 in
theorem w_Md_feed_L62 {V : Sm → Wd} (hV : VwT V) {l : Launch} {Γ : Gm} {rF : Option Value} {wF : Wd} {v1 : Int32} {v2 : Int32} {v3 : Int32} {v4 : Int32} {v5 : Int32} {k : Nat} {q : Int32 × Sm} {o : Sm} (h : lpN (Md_feed_L62 v1 v2 v3 v4 v5) k q = some o) (hP : ps_Md_feed_L62 V l Γ rF wF v1 v2 v3 v4 v5 o) : hd_Md_feed_L62 V l Γ rF wF v1 v2 v3 v4 v5 q := lpN_ind2 (hd_Md_feed_L62 V l Γ rF wF v1 v2 v3 v4 v5) (ps_Md_feed_L62 V l Γ rF wF v1 v2 v3 v4 v5) (fun s o h hK => t_Md_feed_L62 hV h hK) k q o h hP
def Md_feed (v1 : Int32) (v2 : Int32) (v3 : Int32) (v4 : Int32) (v5 : Int32) (S : Sm) : Option (Int32 × Sm) := ((lpN (Md_feed_L6 v1 v2 v3 v4 v5 S) FU (0, 0)).bind fun q3 => (if ((gi S 53 2) + q3) ≤ 240 then ((lpN (Md_feed_L62 v1 v2 v3 v4 v5) FU (0, S)).bind fun q7 => (some ((gi q7 53 2, q7)))) else (some (((-1), S)))))
set_option maxRecDepth 4000 in
theorem r_Md_feed {V : Sm → Wd} (hV : VwT V) {v1 : Int32} {v2 : Int32} {v3 : Int32} {v4 : Int32} {v5 : Int32} {S : Sm} {q : Int32 × Sm} (h : Md_feed v1 v2 v3 v4 v5 S = some q) : Runs 1 mX12_feed [.ref 53, .int v1, .int v2, .int v3, .int v4, .int v5] (V S) (some (.int q.1)) (V q.2) 0 0 := by
  unfold Md_feed at h
  refine Runs.of2 [some (.ref 53), some (.int v1), some (.int v2), some (.int v3), some (.int v4), some (.int v5), none, none, none] 3 rfl rfl (Nat.le_of_ble_eq_true rfl) (fun l Γ => ?_)
  refine g_iconst (v := 0) (pc := 0) dX12_feed_0 (by decide) ?_
  refine g_istore (ls1 := [some (.ref 53), some (.int v1), some (.int v2), some (.int v3), some (.int v4), some (.int v5), some (.int 0), none, none]) (pc := 1) dX12_feed_1 (by decide) rfl ?_
  refine g_iconst (v := 0) (pc := 3) dX12_feed_3 (by decide) ?_
  refine g_istore (ls1 := [some (.ref 53), some (.int v1), some (.int v2), some (.int v3), some (.int v4), some (.int v5), some (.int 0), some (.int 0), none]) (pc := 4) dX12_feed_4 (by decide) rfl ?_
  obtain ⟨q3, hqq3, h⟩ := bnd h
  refine w_Md_feed_L6 hV hqq3 ?_
  unfold ps_Md_feed_L6
  show G _ _ _ _ _ _ _ _ _ _ _
  refine g_aload_n (pc := 44) dX12_feed_44 rfl ?_
  refine v_getI hV (pc := 45) dX12_feed_45 fo_12_2 rfl k0_53 own_53 ?_
  refine g_iload (pc := 48) dX12_feed_48 rfl ?_
  refine g_iadd (pc := 50) dX12_feed_50 ?_
  refine g_sipush (v := 240) (pc := 51) dX12_feed_51 (by decide) ?_
  refine g_icmp_le (tgt := 59) (pc := 54) dX12_feed_54 (by decide) (fun c8 => ?_) (fun c8 => ?_)
  · rw [if_pos c8] at h
    refine g_iconst (v := 0) (pc := 59) dX12_feed_59 (by decide) ?_
    refine g_istore (ls1 := [some (.ref 53), some (.int v1), some (.int v2), some (.int v3), some (.int v4), some (.int v5), some (.int q3), some (.int 0), none]) (pc := 60) dX12_feed_60 (by decide) rfl ?_
    refine g_wk [true, true, true, true, true, true, false, true, false] rfl ?_
    obtain ⟨q7, hqq7, h⟩ := bnd h
    refine w_Md_feed_L62 hV hqq7 ?_
    unfold ps_Md_feed_L62
    show G _ _ _ _ _ _ _ _ _ _ _
    refine g_aload_n (pc := 115) dX12_feed_115 rfl ?_
    refine v_getI hV (pc := 116) dX12_feed_116 fo_12_2 rfl k0_53 own_53 ?_
    cases h
    exact g_iret (pc := 119) dX12_feed_119 rfl rfl (Nat.le_refl _) (Nat.le_refl _)
  · rw [if_neg c8] at h
    refine g_iconst (v := (-1)) (pc := 57) dX12_feed_57 (by decide) ?_
    cases h
    exact g_iret (pc := 58) dX12_feed_58 rfl rfl (Nat.le_refl _) (Nat.le_refl _)
def Md_end_12 (S : Sm) : Int32 × Sm := ((0, S))
set_option maxRecDepth 4000 in
theorem t_Md_end_12 {V : Sm → Wd} (hV : VwT V) {l : Launch} {Γ : Gm}  {S : Sm} {q : Int32 × Sm} (h : Md_end_12 S = q) : G mX12_end l Γ (rmD 0 0 0) (mQ Γ (some (.int q.1)) (V q.2) 0 0) 0 0 12 [none, none] [] (V S) := by
  unfold Md_end_12 at h
  refine g_iconst (v := 0) (pc := 12) dX12_end_12 (by decide) ?_
  subst h
  exact g_iret (u := 0) (pc := 13) dX12_end_13 rfl (by decide) (Nat.le_refl _) (Nat.le_refl _)
def Md_end (v1 : Int32) (S : Sm) : Int32 × Sm := (if v1 < 0 then (Md_end_12 S) else (if v1 ≤ (gi S 53 2) then ((1, si S 53 2 v1)) else (Md_end_12 S)))
set_option maxRecDepth 4000 in
theorem r_Md_end {V : Sm → Wd} (hV : VwT V) {v1 : Int32} {S : Sm} {q : Int32 × Sm} (h : Md_end v1 S = q) : Runs 0 mX12_end [.ref 53, .int v1] (V S) (some (.int q.1)) (V q.2) 0 0 := by
  unfold Md_end at h
  refine Runs.of2 [some (.ref 53), some (.int v1)] 0 rfl rfl (Nat.le_of_ble_eq_true rfl) (fun l Γ => ?_)
  refine g_iload_n (pc := 0) dX12_end_0 rfl ?_
  refine g_if_lt (tgt := 12) (pc := 1) dX12_end_1 (by decide) (fun c2 => ?_) (fun c2 => ?_)
  · rw [if_pos c2] at h
    refine g_wk [false, false] rfl ?_
    exact t_Md_end_12 hV h
  · rw [if_neg c2] at h
    refine g_iload_n (pc := 4) dX12_end_4 rfl ?_
    refine g_aload_n (pc := 5) dX12_end_5 rfl ?_
    refine v_getI hV (pc := 6) dX12_end_6 fo_12_2 rfl k0_53 own_53 ?_
    refine g_icmp_le (tgt := 14) (pc := 9) dX12_end_9 (by decide) (fun c1 => ?_) (fun c1 => ?_)
    · rw [if_pos c1] at h
      refine g_aload_n (pc := 14) dX12_end_14 rfl ?_
      refine g_iload_n (pc := 15) dX12_end_15 rfl ?_
      refine v_putI hV (pc := 16) dX12_end_16 fo_12_2 rfl k0_53 own_53 rfl ?_
      refine g_iconst (v := 1) (pc := 19) dX12_end_19 (by decide) ?_
      subst h
      exact g_iret (u := 1) (pc := 20) dX12_end_20 rfl (by decide) (Nat.le_refl _) (Nat.le_refl _)
    · rw [if_neg c1] at h
      refine g_wk [false, false] rfl ?_
      exact t_Md_end_12 hV h
def Md_here_24 (s0 : Int32) (S : Sm) : Option (Int32) := (some s0)
set_option maxRecDepth 4000 in
theorem t_Md_here_24 {V : Sm → Wd} (hV : VwT V) {l : Launch} {Γ : Gm} {s0 : Int32} {S : Sm} {q : Int32} (h : Md_here_24 s0 S = some q) : G mX12_here l Γ (rmD 0 0 0) (mQ Γ (some (.int q)) (V S) 0 0) 0 0 24 [none] [.int s0] (V S) := by
  unfold Md_here_24 at h
  cases h
  exact g_iret (pc := 24) dX12_here_24 rfl rfl (Nat.le_refl _) (Nat.le_refl _)
def Md_here (S : Sm) : Option (Int32) := (if (gi S 53 2) ≤ (gi S 53 3) then (Md_here_24 ((-1)) S) else (if inb (gi S 53 3) 240 then (Md_here_24 (gi S 54 (ix (gi S 53 3))) S) else none))
set_option maxRecDepth 4000 in
theorem r_Md_here {V : Sm → Wd} (hV : VwT V)  {S : Sm} {q : Int32} (h : Md_here S = some q) : Runs 0 mX12_here [.ref 53] (V S) (some (.int q)) (V S) 0 0 := by
  unfold Md_here at h
  refine Runs.of2 [some (.ref 53)] 0 rfl rfl (Nat.le_of_ble_eq_true rfl) (fun l Γ => ?_)
  refine g_aload_n (pc := 0) dX12_here_0 rfl ?_
  refine v_getI hV (pc := 1) dX12_here_1 fo_12_3 rfl k0_53 own_53 ?_
  refine g_aload_n (pc := 4) dX12_here_4 rfl ?_
  refine v_getI hV (pc := 5) dX12_here_5 fo_12_2 rfl k0_53 own_53 ?_
  refine g_icmp_ge (tgt := 23) (pc := 8) dX12_here_8 (by decide) (fun c2 => ?_) (fun c2 => ?_)
  · rw [if_pos c2] at h
    refine g_iconst (v := (-1)) (pc := 23) dX12_here_23 (by decide) ?_
    refine g_wk [false] rfl ?_
    exact t_Md_here_24 hV h
  · rw [if_neg c2] at h
    refine g_aload_n (pc := 11) dX12_here_11 rfl ?_
    refine v_getR hV (pc := 12) dX12_here_12 fo_12_1 rfl k0_53 r0_53_1 ?_
    refine g_aload_n (pc := 15) dX12_here_15 rfl ?_
    refine v_getI hV (pc := 16) dX12_here_16 fo_12_3 rfl k0_53 own_53 ?_
    by_cases c1 : inb (gi S 53 3) 240
    · rw [if_pos c1] at h
      refine v_iald hV (pc := 19) dX12_here_19 k0_54 own_54 c1 ?_
      refine g_goto (tgt := 24) (pc := 20) dX12_here_20 (by decide) ?_
      refine g_wk [false] rfl ?_
      exact t_Md_here_24 hV h
    · rw [if_neg c1] at h; cases h
def hd_Md_look_L0 (V : Sm → Wd) (l : Launch) (Γ : Gm) (rF : Option Value) (wF : Wd)  (q : Sm) : Prop := G mX12_look l Γ (rmD 1 0 0) (mQ Γ rF wF 0 0) 0 0 0 [some (.ref 53)] [] (V q)
def ps_Md_look_L0 (V : Sm → Wd) (l : Launch) (Γ : Gm) (rF : Option Value) (wF : Wd)  (x : Sm) : Prop := (fun (a : Sm) => G mX12_look l Γ (rmD 1 0 0) (mQ Γ rF wF 0 0) 0 0 22 [some (.ref 53)] [] (V a)) x
def Md_look_L0 (q : Sm) : Option ((Sm) ⊕ (Sm)) := ((Md_here q).bind fun q1 => (if q1 = 32 then (some (.inl (si q 53 3 ((gi q 53 3) + 1)))) else (some (.inr q))))
set_option maxRecDepth 4000 in
theorem t_Md_look_L0 {V : Sm → Wd} (hV : VwT V) {l : Launch} {Γ : Gm} {rF : Option Value} {wF : Wd}  {q : Sm} {o : (Sm) ⊕ (Sm)} (h : Md_look_L0 q = some o) (hK : Sum.elim (hd_Md_look_L0 V l Γ rF wF) (ps_Md_look_L0 V l Γ rF wF) o) : hd_Md_look_L0 V l Γ rF wF q := by
  unfold Md_look_L0 at h
  unfold hd_Md_look_L0
  refine g_aload_n (pc := 0) dX12_look_0 rfl ?_
  obtain ⟨q1, hq1, h⟩ := bnd h
  refine v_callVi hV (Mc := mX12_here) (v := q1) (S1 := q) (As := []) (rest := []) (q := (RX12, TX12, 58)) (pc := 1) dX12_look_1 mK_X12_136 mf_X12_here rfl k0_53 rfl rfl rfl (Nat.le_of_ble_eq_true rfl) ⟨Nat.le_of_ble_eq_true rfl, Nat.le_of_ble_eq_true rfl⟩ (r_Md_here hV hq1) ?_
  refine g_bipush (v := 32) (pc := 4) dX12_look_4 (by decide) ?_
  refine g_icmp_ne (tgt := 22) (pc := 6) dX12_look_6 (by decide) (fun c2 => ?_) (fun c2 => ?_)
  · rw [if_neg c2] at h
    cases h
    exact hK
  · rw [if_pos c2] at h
    refine g_aload_n (pc := 9) dX12_look_9 rfl ?_
    refine g_dup (pc := 10) dX12_look_10 rfl ?_
    refine v_getI hV (pc := 11) dX12_look_11 fo_12_3 rfl k0_53 own_53 ?_
    refine g_iconst (v := 1) (pc := 14) dX12_look_14 (by decide) ?_
    refine g_iadd (pc := 15) dX12_look_15 ?_
    refine v_putI hV (pc := 16) dX12_look_16 fo_12_3 rfl k0_53 own_53 rfl ?_
    refine g_goto (tgt := 0) (pc := 19) dX12_look_19 (by decide) ?_
    cases h
    exact hK
set_option maxRecDepth 4000 in
theorem w_Md_look_L0 {V : Sm → Wd} (hV : VwT V) {l : Launch} {Γ : Gm} {rF : Option Value} {wF : Wd}  {k : Nat} {q : Sm} {o : Sm} (h : lpN (Md_look_L0) k q = some o) (hP : ps_Md_look_L0 V l Γ rF wF o) : hd_Md_look_L0 V l Γ rF wF q := lpN_ind2 (hd_Md_look_L0 V l Γ rF wF) (ps_Md_look_L0 V l Γ rF wF) (fun s o h hK => t_Md_look_L0 hV h hK) k q o h hP
def Md_look (S : Sm) : Option (Int32 × Sm) := ((lpN (Md_look_L0) FU S).bind fun q3 => ((Md_here q3).bind fun q4 => (some ((q4, q3)))))
set_option maxRecDepth 4000 in
theorem r_Md_look {V : Sm → Wd} (hV : VwT V)  {S : Sm} {q : Int32 × Sm} (h : Md_look S = some q) : Runs 1 mX12_look [.ref 53] (V S) (some (.int q.1)) (V q.2) 0 0 := by
  unfold Md_look at h
  refine Runs.of2 [some (.ref 53)] 0 rfl rfl (Nat.le_of_ble_eq_true rfl) (fun l Γ => ?_)
  obtain ⟨q3, hqq3, h⟩ := bnd h
  refine w_Md_look_L0 hV hqq3 ?_
  unfold ps_Md_look_L0
  show G _ _ _ _ _ _ _ _ _ _ _
  refine g_aload_n (pc := 22) dX12_look_22 rfl ?_
  obtain ⟨q4, hq4, h⟩ := bnd h
  refine v_callVi hV (Mc := mX12_here) (v := q4) (S1 := q3) (As := []) (rest := []) (q := (RX12, TX12, 58)) (pc := 23) dX12_look_23 mK_X12_136 mf_X12_here rfl k0_53 rfl rfl rfl (Nat.le_of_ble_eq_true rfl) ⟨Nat.le_of_ble_eq_true rfl, Nat.le_of_ble_eq_true rfl⟩ (r_Md_here hV hq4) ?_
  cases h
  exact g_iret (pc := 26) dX12_look_26 rfl rfl (Nat.le_refl _) (Nat.le_refl _)
def Md_bad_20 (s1 : Int32) (S : Sm) : Sm := (si S 53 4 s1)
set_option maxRecDepth 4000 in
theorem t_Md_bad_20 {V : Sm → Wd} (hV : VwT V) {l : Launch} {Γ : Gm} {s1 : Int32} {S : Sm} {q : Sm} (h : Md_bad_20 s1 S = q) : G mX12_bad l Γ (rmD 0 0 0) (mQ Γ none (V q) 0 0) 0 0 20 [none] [.int s1, .ref 53] (V S) := by
  unfold Md_bad_20 at h
  refine v_putI hV (pc := 20) dX12_bad_20 fo_12_4 rfl k0_53 own_53 rfl ?_
  subst h
  exact g_vret (pc := 23) dX12_bad_23 rfl (Nat.le_refl _) (Nat.le_refl _)
def Md_bad (S : Sm) : Sm := (if (gi S 53 4) = ((-1)) then (Md_bad_20 (gi S 53 3) S) else (Md_bad_20 (gi S 53 4) S))
set_option maxRecDepth 4000 in
theorem r_Md_bad {V : Sm → Wd} (hV : VwT V)  {S : Sm} {q : Sm} (h : Md_bad S = q) : Runs 0 mX12_bad [.ref 53] (V S) none (V q) 0 0 := by
  unfold Md_bad at h
  refine Runs.of2 [some (.ref 53)] 0 rfl rfl (Nat.le_of_ble_eq_true rfl) (fun l Γ => ?_)
  refine g_aload_n (pc := 0) dX12_bad_0 rfl ?_
  refine g_aload_n (pc := 1) dX12_bad_1 rfl ?_
  refine v_getI hV (pc := 2) dX12_bad_2 fo_12_4 rfl k0_53 own_53 ?_
  refine g_iconst (v := (-1)) (pc := 5) dX12_bad_5 (by decide) ?_
  refine g_icmp_ne (tgt := 16) (pc := 6) dX12_bad_6 (by decide) (fun c1 => ?_) (fun c1 => ?_)
  · rw [if_neg c1] at h
    refine g_aload_n (pc := 16) dX12_bad_16 rfl ?_
    refine v_getI hV (pc := 17) dX12_bad_17 fo_12_4 rfl k0_53 own_53 ?_
    refine g_wk [false] rfl ?_
    exact t_Md_bad_20 hV h
  · rw [if_pos c1] at h
    refine g_aload_n (pc := 9) dX12_bad_9 rfl ?_
    refine v_getI hV (pc := 10) dX12_bad_10 fo_12_3 rfl k0_53 own_53 ?_
    refine g_goto (tgt := 20) (pc := 13) dX12_bad_13 (by decide) ?_
    refine g_wk [false] rfl ?_
    exact t_Md_bad_20 hV h
def Md_isDigit_17 (s0 : Int32) : Int32 := (s0 &&& 1)
set_option maxRecDepth 4000 in
theorem t_Md_isDigit_17 {V : Sm → Wd} (hV : VwT V) {l : Launch} {Γ : Gm} {s0 : Int32} {S : Sm} {q : Int32} (h : Md_isDigit_17 s0 = q) : G mX12_isDigit l Γ (rmD 0 0 0) (mQ Γ (some (.int q)) (V S) 0 0) 0 0 17 [none] [.int s0] (V S) := by
  unfold Md_isDigit_17 at h
  subst h
  exact g_iret (pc := 17) dX12_isDigit_17 rfl rfl (Nat.le_refl _) (Nat.le_refl _)
def Md_isDigit_16  : Int32 := (Md_isDigit_17 0)
set_option maxRecDepth 4000 in
theorem t_Md_isDigit_16 {V : Sm → Wd} (hV : VwT V) {l : Launch} {Γ : Gm}  {S : Sm} {q : Int32} (h : Md_isDigit_16 = q) : G mX12_isDigit l Γ (rmD 0 0 0) (mQ Γ (some (.int q)) (V S) 0 0) 0 0 16 [none] [] (V S) := by
  unfold Md_isDigit_16 at h
  refine g_iconst (v := 0) (pc := 16) dX12_isDigit_16 (by decide) ?_
  exact t_Md_isDigit_17 hV h
def Md_isDigit (v0 : Int32) : Int32 := (if v0 < 48 then Md_isDigit_16 else (if (57 : Int32) < v0 then Md_isDigit_16 else (Md_isDigit_17 1)))
set_option maxRecDepth 4000 in
theorem r_Md_isDigit {V : Sm → Wd} (hV : VwT V) {v0 : Int32} {S : Sm} {q : Int32} (h : Md_isDigit v0 = q) : Runs 0 mX12_isDigit [.int v0] (V S) (some (.int q)) (V S) 0 0 := by
  unfold Md_isDigit at h
  refine Runs.of2 [some (.int v0)] 0 rfl rfl (Nat.le_of_ble_eq_true rfl) (fun l Γ => ?_)
  refine g_iload_n (pc := 0) dX12_isDigit_0 rfl ?_
  refine g_bipush (v := 48) (pc := 1) dX12_isDigit_1 (by decide) ?_
  refine g_icmp_lt (tgt := 16) (pc := 3) dX12_isDigit_3 (by decide) (fun c2 => ?_) (fun c2 => ?_)
  · rw [if_pos c2] at h
    refine g_wk [false] rfl ?_
    exact t_Md_isDigit_16 hV h
  · rw [if_neg c2] at h
    refine g_iload_n (pc := 6) dX12_isDigit_6 rfl ?_
    refine g_bipush (v := 57) (pc := 7) dX12_isDigit_7 (by decide) ?_
    refine g_icmp_gt (tgt := 16) (pc := 9) dX12_isDigit_9 (by decide) (fun c1 => ?_) (fun c1 => ?_)
    · rw [if_pos c1] at h
      refine g_wk [false] rfl ?_
      exact t_Md_isDigit_16 hV h
    · rw [if_neg c1] at h
      refine g_iconst (v := 1) (pc := 12) dX12_isDigit_12 (by decide) ?_
      refine g_goto (tgt := 17) (pc := 13) dX12_isDigit_13 (by decide) ?_
      refine g_wk [false] rfl ?_
      exact t_Md_isDigit_17 hV h
def Md_put (v1 : Int32) (v2 : Int32) (S : Sm) : Option (Sm) := (if inb (gi S 53 14) 5 then (if inb ((520 * (gi S 53 14)) + (gi S 57 (ix (gi S 53 14)))) 2600 then (if inb (gi (si S 55 (ix ((520 * (gi S 53 14)) + (gi S 57 (ix (gi S 53 14))))) v1) 53 14) 5 then (if inb ((520 * (gi (si S 55 (ix ((520 * (gi S 53 14)) + (gi S 57 (ix (gi S 53 14))))) v1) 53 14)) + (gi (si S 55 (ix ((520 * (gi S 53 14)) + (gi S 57 (ix (gi S 53 14))))) v1) 57 (ix (gi (si S 55 (ix ((520 * (gi S 53 14)) + (gi S 57 (ix (gi S 53 14))))) v1) 53 14)))) 2600 then (if inb (gi (si (si S 55 (ix ((520 * (gi S 53 14)) + (gi S 57 (ix (gi S 53 14))))) v1) 56 (ix ((520 * (gi (si S 55 (ix ((520 * (gi S 53 14)) + (gi S 57 (ix (gi S 53 14))))) v1) 53 14)) + (gi (si S 55 (ix ((520 * (gi S 53 14)) + (gi S 57 (ix (gi S 53 14))))) v1) 57 (ix (gi (si S 55 (ix ((520 * (gi S 53 14)) + (gi S 57 (ix (gi S 53 14))))) v1) 53 14))))) v2) 53 14) 5 then (if inb (gi (si (si S 55 (ix ((520 * (gi S 53 14)) + (gi S 57 (ix (gi S 53 14))))) v1) 56 (ix ((520 * (gi (si S 55 (ix ((520 * (gi S 53 14)) + (gi S 57 (ix (gi S 53 14))))) v1) 53 14)) + (gi (si S 55 (ix ((520 * (gi S 53 14)) + (gi S 57 (ix (gi S 53 14))))) v1) 57 (ix (gi (si S 55 (ix ((520 * (gi S 53 14)) + (gi S 57 (ix (gi S 53 14))))) v1) 53 14))))) v2) 53 14) 5 then (some (si (si (si S 55 (ix ((520 * (gi S 53 14)) + (gi S 57 (ix (gi S 53 14))))) v1) 56 (ix ((520 * (gi (si S 55 (ix ((520 * (gi S 53 14)) + (gi S 57 (ix (gi S 53 14))))) v1) 53 14)) + (gi (si S 55 (ix ((520 * (gi S 53 14)) + (gi S 57 (ix (gi S 53 14))))) v1) 57 (ix (gi (si S 55 (ix ((520 * (gi S 53 14)) + (gi S 57 (ix (gi S 53 14))))) v1) 53 14))))) v2) 57 (ix (gi (si (si S 55 (ix ((520 * (gi S 53 14)) + (gi S 57 (ix (gi S 53 14))))) v1) 56 (ix ((520 * (gi (si S 55 (ix ((520 * (gi S 53 14)) + (gi S 57 (ix (gi S 53 14))))) v1) 53 14)) + (gi (si S 55 (ix ((520 * (gi S 53 14)) + (gi S 57 (ix (gi S 53 14))))) v1) 57 (ix (gi (si S 55 (ix ((520 * (gi S 53 14)) + (gi S 57 (ix (gi S 53 14))))) v1) 53 14))))) v2) 53 14)) ((gi (si (si S 55 (ix ((520 * (gi S 53 14)) + (gi S 57 (ix (gi S 53 14))))) v1) 56 (ix ((520 * (gi (si S 55 (ix ((520 * (gi S 53 14)) + (gi S 57 (ix (gi S 53 14))))) v1) 53 14)) + (gi (si S 55 (ix ((520 * (gi S 53 14)) + (gi S 57 (ix (gi S 53 14))))) v1) 57 (ix (gi (si S 55 (ix ((520 * (gi S 53 14)) + (gi S 57 (ix (gi S 53 14))))) v1) 53 14))))) v2) 57 (ix (gi (si (si S 55 (ix ((520 * (gi S 53 14)) + (gi S 57 (ix (gi S 53 14))))) v1) 56 (ix ((520 * (gi (si S 55 (ix ((520 * (gi S 53 14)) + (gi S 57 (ix (gi S 53 14))))) v1) 53 14)) + (gi (si S 55 (ix ((520 * (gi S 53 14)) + (gi S 57 (ix (gi S 53 14))))) v1) 57 (ix (gi (si S 55 (ix ((520 * (gi S 53 14)) + (gi S 57 (ix (gi S 53 14))))) v1) 53 14))))) v2) 53 14))) + 1))) else none) else none) else none) else none) else none) else none)
set_option maxRecDepth 4000 in
theorem r_Md_put {V : Sm → Wd} (hV : VwT V) {v1 : Int32} {v2 : Int32} {S : Sm} {q : Sm} (h : Md_put v1 v2 S = some q) : Runs 0 mX12_put [.ref 53, .int v1, .int v2] (V S) none (V q) 0 0 := by
  unfold Md_put at h
  refine Runs.of2 [some (.ref 53), some (.int v1), some (.int v2)] 0 rfl rfl (Nat.le_of_ble_eq_true rfl) (fun l Γ => ?_)
  refine g_aload_n (pc := 0) dX12_put_0 rfl ?_
  refine v_getR hV (pc := 1) dX12_put_1 fo_12_6 rfl k0_53 r0_53_6 ?_
  refine g_sipush (v := 520) (pc := 4) dX12_put_4 (by decide) ?_
  refine g_aload_n (pc := 7) dX12_put_7 rfl ?_
  refine v_getI hV (pc := 8) dX12_put_8 fo_12_14 rfl k0_53 own_53 ?_
  refine g_imul (pc := 11) dX12_put_11 ?_
  refine g_aload_n (pc := 12) dX12_put_12 rfl ?_
  refine v_getR hV (pc := 13) dX12_put_13 fo_12_8 rfl k0_53 r0_53_8 ?_
  refine g_aload_n (pc := 16) dX12_put_16 rfl ?_
  refine v_getI hV (pc := 17) dX12_put_17 fo_12_14 rfl k0_53 own_53 ?_
  by_cases c1 : inb (gi S 53 14) 5
  · rw [if_pos c1] at h
    refine v_iald hV (pc := 20) dX12_put_20 k0_57 own_57 c1 ?_
    refine g_iadd (pc := 21) dX12_put_21 ?_
    refine g_iload_n (pc := 22) dX12_put_22 rfl ?_
    by_cases c2 : inb ((520 * (gi S 53 14)) + (gi S 57 (ix (gi S 53 14)))) 2600
    · rw [if_pos c2] at h
      refine v_iast hV (pc := 23) dX12_put_23 k0_55 own_55 c2 ?_
      refine g_aload_n (pc := 24) dX12_put_24 rfl ?_
      refine v_getR hV (pc := 25) dX12_put_25 fo_12_7 rfl k0_53 r0_53_7 ?_
      refine g_sipush (v := 520) (pc := 28) dX12_put_28 (by decide) ?_
      refine g_aload_n (pc := 31) dX12_put_31 rfl ?_
      refine v_getI hV (pc := 32) dX12_put_32 fo_12_14 rfl k0_53 own_53 ?_
      refine g_imul (pc := 35) dX12_put_35 ?_
      refine g_aload_n (pc := 36) dX12_put_36 rfl ?_
      refine v_getR hV (pc := 37) dX12_put_37 fo_12_8 rfl k0_53 r0_53_8 ?_
      refine g_aload_n (pc := 40) dX12_put_40 rfl ?_
      refine v_getI hV (pc := 41) dX12_put_41 fo_12_14 rfl k0_53 own_53 ?_
      by_cases c3 : inb (gi (si S 55 (ix ((520 * (gi S 53 14)) + (gi S 57 (ix (gi S 53 14))))) v1) 53 14) 5
      · rw [if_pos c3] at h
        refine v_iald hV (pc := 44) dX12_put_44 k0_57 own_57 c3 ?_
        refine g_iadd (pc := 45) dX12_put_45 ?_
        refine g_iload_n (pc := 46) dX12_put_46 rfl ?_
        by_cases c4 : inb ((520 * (gi (si S 55 (ix ((520 * (gi S 53 14)) + (gi S 57 (ix (gi S 53 14))))) v1) 53 14)) + (gi (si S 55 (ix ((520 * (gi S 53 14)) + (gi S 57 (ix (gi S 53 14))))) v1) 57 (ix (gi (si S 55 (ix ((520 * (gi S 53 14)) + (gi S 57 (ix (gi S 53 14))))) v1) 53 14)))) 2600
        · rw [if_pos c4] at h
          refine v_iast hV (pc := 47) dX12_put_47 k0_56 own_56 c4 ?_
          refine g_aload_n (pc := 48) dX12_put_48 rfl ?_
          refine v_getR hV (pc := 49) dX12_put_49 fo_12_8 rfl k0_53 r0_53_8 ?_
          refine g_aload_n (pc := 52) dX12_put_52 rfl ?_
          refine v_getI hV (pc := 53) dX12_put_53 fo_12_14 rfl k0_53 own_53 ?_
          refine g_dup2 (pc := 56) dX12_put_56 rfl rfl ?_
          by_cases c5 : inb (gi (si (si S 55 (ix ((520 * (gi S 53 14)) + (gi S 57 (ix (gi S 53 14))))) v1) 56 (ix ((520 * (gi (si S 55 (ix ((520 * (gi S 53 14)) + (gi S 57 (ix (gi S 53 14))))) v1) 53 14)) + (gi (si S 55 (ix ((520 * (gi S 53 14)) + (gi S 57 (ix (gi S 53 14))))) v1) 57 (ix (gi (si S 55 (ix ((520 * (gi S 53 14)) + (gi S 57 (ix (gi S 53 14))))) v1) 53 14))))) v2) 53 14) 5
          · rw [if_pos c5] at h
            refine v_iald hV (pc := 57) dX12_put_57 k0_57 own_57 c5 ?_
            refine g_iconst (v := 1) (pc := 58) dX12_put_58 (by decide) ?_
            refine g_iadd (pc := 59) dX12_put_59 ?_
            by_cases c6 : inb (gi (si (si S 55 (ix ((520 * (gi S 53 14)) + (gi S 57 (ix (gi S 53 14))))) v1) 56 (ix ((520 * (gi (si S 55 (ix ((520 * (gi S 53 14)) + (gi S 57 (ix (gi S 53 14))))) v1) 53 14)) + (gi (si S 55 (ix ((520 * (gi S 53 14)) + (gi S 57 (ix (gi S 53 14))))) v1) 57 (ix (gi (si S 55 (ix ((520 * (gi S 53 14)) + (gi S 57 (ix (gi S 53 14))))) v1) 53 14))))) v2) 53 14) 5
            · rw [if_pos c6] at h
              refine v_iast hV (pc := 60) dX12_put_60 k0_57 own_57 c6 ?_
              cases h
              exact g_vret (pc := 61) dX12_put_61 rfl (Nat.le_refl _) (Nat.le_refl _)
            · rw [if_neg c6] at h; cases h
          · rw [if_neg c5] at h; cases h
        · rw [if_neg c4] at h; cases h
      · rw [if_neg c3] at h; cases h
    · rw [if_neg c2] at h; cases h
  · rw [if_neg c1] at h; cases h
def Md_letterOf_51 (s0 : Int32) : Int32 := s0
set_option maxRecDepth 4000 in
theorem t_Md_letterOf_51 {V : Sm → Wd} (hV : VwT V) {l : Launch} {Γ : Gm} {s0 : Int32} {S : Sm} {q : Int32} (h : Md_letterOf_51 s0 = q) : G mX12_letterOf l Γ (rmD 0 0 0) (mQ Γ (some (.int q)) (V S) 0 0) 0 0 51 [none] [.int s0] (V S) := by
  unfold Md_letterOf_51 at h
  subst h
  exact g_iret (pc := 51) dX12_letterOf_51 rfl rfl (Nat.le_refl _) (Nat.le_refl _)
def Md_letterOf (v0 : Int32) : Int32 := (if v0 = 99 then (Md_letterOf_51 0) else (if v0 = 108 then (Md_letterOf_51 1) else (if v0 = 97 then (Md_letterOf_51 2) else (if v0 = 98 then (Md_letterOf_51 3) else (if v0 = 103 then (Md_letterOf_51 4) else (Md_letterOf_51 ((-1))))))))
set_option maxRecDepth 4000 in
theorem r_Md_letterOf {V : Sm → Wd} (hV : VwT V) {v0 : Int32} {S : Sm} {q : Int32} (h : Md_letterOf v0 = q) : Runs 0 mX12_letterOf [.int v0] (V S) (some (.int q)) (V S) 0 0 := by
  unfold Md_letterOf at h
  refine Runs.of2 [some (.int v0)] 0 rfl rfl (Nat.le_of_ble_eq_true rfl) (fun l Γ => ?_)
  refine g_iload_n (pc := 0) dX12_letterOf_0 rfl ?_
  refine g_bipush (v := 99) (pc := 1) dX12_letterOf_1 (by decide) ?_
  refine g_icmp_ne (tgt := 10) (pc := 3) dX12_letterOf_3 (by decide) (fun c5 => ?_) (fun c5 => ?_)
  · rw [if_neg c5] at h
    refine g_iload_n (pc := 10) dX12_letterOf_10 rfl ?_
    refine g_bipush (v := 108) (pc := 11) dX12_letterOf_11 (by decide) ?_
    refine g_icmp_ne (tgt := 20) (pc := 13) dX12_letterOf_13 (by decide) (fun c4 => ?_) (fun c4 => ?_)
    · rw [if_neg c4] at h
      refine g_iload_n (pc := 20) dX12_letterOf_20 rfl ?_
      refine g_bipush (v := 97) (pc := 21) dX12_letterOf_21 (by decide) ?_
      refine g_icmp_ne (tgt := 30) (pc := 23) dX12_letterOf_23 (by decide) (fun c3 => ?_) (fun c3 => ?_)
      · rw [if_neg c3] at h
        refine g_iload_n (pc := 30) dX12_letterOf_30 rfl ?_
        refine g_bipush (v := 98) (pc := 31) dX12_letterOf_31 (by decide) ?_
        refine g_icmp_ne (tgt := 40) (pc := 33) dX12_letterOf_33 (by decide) (fun c2 => ?_) (fun c2 => ?_)
        · rw [if_neg c2] at h
          refine g_iload_n (pc := 40) dX12_letterOf_40 rfl ?_
          refine g_bipush (v := 103) (pc := 41) dX12_letterOf_41 (by decide) ?_
          refine g_icmp_ne (tgt := 50) (pc := 43) dX12_letterOf_43 (by decide) (fun c1 => ?_) (fun c1 => ?_)
          · rw [if_neg c1] at h
            refine g_iconst (v := (-1)) (pc := 50) dX12_letterOf_50 (by decide) ?_
            refine g_wk [false] rfl ?_
            exact t_Md_letterOf_51 hV h
          · rw [if_pos c1] at h
            refine g_iconst (v := 4) (pc := 46) dX12_letterOf_46 (by decide) ?_
            refine g_goto (tgt := 51) (pc := 47) dX12_letterOf_47 (by decide) ?_
            refine g_wk [false] rfl ?_
            exact t_Md_letterOf_51 hV h
        · rw [if_pos c2] at h
          refine g_iconst (v := 3) (pc := 36) dX12_letterOf_36 (by decide) ?_
          refine g_goto (tgt := 51) (pc := 37) dX12_letterOf_37 (by decide) ?_
          refine g_wk [false] rfl ?_
          exact t_Md_letterOf_51 hV h
      · rw [if_pos c3] at h
        refine g_iconst (v := 2) (pc := 26) dX12_letterOf_26 (by decide) ?_
        refine g_goto (tgt := 51) (pc := 27) dX12_letterOf_27 (by decide) ?_
        refine g_wk [false] rfl ?_
        exact t_Md_letterOf_51 hV h
    · rw [if_pos c4] at h
      refine g_iconst (v := 1) (pc := 16) dX12_letterOf_16 (by decide) ?_
      refine g_goto (tgt := 51) (pc := 17) dX12_letterOf_17 (by decide) ?_
      refine g_wk [false] rfl ?_
      exact t_Md_letterOf_51 hV h
  · rw [if_pos c5] at h
    refine g_iconst (v := 0) (pc := 6) dX12_letterOf_6 (by decide) ?_
    refine g_goto (tgt := 51) (pc := 7) dX12_letterOf_7 (by decide) ?_
    refine g_wk [false] rfl ?_
    exact t_Md_letterOf_51 hV h
def Md_opens_13 (S : Sm) : Sm := (si (si S 53 5 ((gi S 53 5) + 1)) 53 3 ((gi (si S 53 5 ((gi S 53 5) + 1)) 53 3) + 1))
set_option maxRecDepth 4000 in
theorem t_Md_opens_13 {V : Sm → Wd} (hV : VwT V) {l : Launch} {Γ : Gm}  {S : Sm} {q : Sm} (h : Md_opens_13 S = q) : G mX12_opens l Γ (rmD 1 0 0) (mQ Γ none (V q) 0 0) 0 0 13 [some (.ref 53)] [] (V S) := by
  unfold Md_opens_13 at h
  refine g_aload_n (pc := 13) dX12_opens_13 rfl ?_
  refine g_dup (pc := 14) dX12_opens_14 rfl ?_
  refine v_getI hV (pc := 15) dX12_opens_15 fo_12_5 rfl k0_53 own_53 ?_
  refine g_iconst (v := 1) (pc := 18) dX12_opens_18 (by decide) ?_
  refine g_iadd (pc := 19) dX12_opens_19 ?_
  refine v_putI hV (pc := 20) dX12_opens_20 fo_12_5 rfl k0_53 own_53 rfl ?_
  refine g_aload_n (pc := 23) dX12_opens_23 rfl ?_
  refine g_dup (pc := 24) dX12_opens_24 rfl ?_
  refine v_getI hV (pc := 25) dX12_opens_25 fo_12_3 rfl k0_53 own_53 ?_
  refine g_iconst (v := 1) (pc := 28) dX12_opens_28 (by decide) ?_
  refine g_iadd (pc := 29) dX12_opens_29 ?_
  refine v_putI hV (pc := 30) dX12_opens_30 fo_12_3 rfl k0_53 own_53 rfl ?_
  subst h
  exact g_vret (pc := 33) dX12_opens_33 rfl (Nat.le_refl _) (Nat.le_refl _)
def Md_opens (S : Sm) : Sm := (if (gi S 53 5) = 6 then (app (Md_bad S) fun q1 => (Md_opens_13 q1)) else (Md_opens_13 S))
set_option maxRecDepth 4000 in
theorem r_Md_opens {V : Sm → Wd} (hV : VwT V)  {S : Sm} {q : Sm} (h : Md_opens S = q) : Runs 1 mX12_opens [.ref 53] (V S) none (V q) 0 0 := by
  unfold Md_opens at h
  refine Runs.of2 [some (.ref 53)] 0 rfl rfl (Nat.le_of_ble_eq_true rfl) (fun l Γ => ?_)
  refine g_aload_n (pc := 0) dX12_opens_0 rfl ?_
  refine v_getI hV (pc := 1) dX12_opens_1 fo_12_5 rfl k0_53 own_53 ?_
  refine g_bipush (v := 6) (pc := 4) dX12_opens_4 (by decide) ?_
  refine g_icmp_ne (tgt := 13) (pc := 6) dX12_opens_6 (by decide) (fun c2 => ?_) (fun c2 => ?_)
  · rw [if_neg c2] at h
    exact t_Md_opens_13 hV h
  · rw [if_pos c2] at h
    refine g_aload_n (pc := 9) dX12_opens_9 rfl ?_
    obtain ⟨q1, hq1, h⟩ := app_of h
    refine v_callVv hV (Mc := mX12_bad) (S1 := q1) (As := []) (rest := []) (q := (RX12, TX12, 58)) (pc := 10) dX12_opens_10 mK_X12_149 mf_X12_bad rfl k0_53 rfl rfl rfl (Nat.le_of_ble_eq_true rfl) ⟨Nat.le_of_ble_eq_true rfl, Nat.le_of_ble_eq_true rfl⟩ (r_Md_bad hV hq1) ?_
    exact t_Md_opens_13 hV h
def Md_closes_20 (S : Sm) : Option (Sm) := (some (si (si S 53 3 ((gi S 53 3) + 1)) 53 5 ((gi (si S 53 3 ((gi S 53 3) + 1)) 53 5) - 1)))
set_option maxRecDepth 4000 in
theorem t_Md_closes_20 {V : Sm → Wd} (hV : VwT V) {l : Launch} {Γ : Gm}  {S : Sm} {q : Sm} (h : Md_closes_20 S = some q) : G mX12_closes l Γ (rmD 2 0 0) (mQ Γ none (V q) 0 0) 0 0 20 [some (.ref 53), none] [] (V S) := by
  unfold Md_closes_20 at h
  refine g_aload_n (pc := 20) dX12_closes_20 rfl ?_
  refine g_dup (pc := 21) dX12_closes_21 rfl ?_
  refine v_getI hV (pc := 22) dX12_closes_22 fo_12_3 rfl k0_53 own_53 ?_
  refine g_iconst (v := 1) (pc := 25) dX12_closes_25 (by decide) ?_
  refine g_iadd (pc := 26) dX12_closes_26 ?_
  refine v_putI hV (pc := 27) dX12_closes_27 fo_12_3 rfl k0_53 own_53 rfl ?_
  refine g_aload_n (pc := 30) dX12_closes_30 rfl ?_
  refine g_dup (pc := 31) dX12_closes_31 rfl ?_
  refine v_getI hV (pc := 32) dX12_closes_32 fo_12_5 rfl k0_53 own_53 ?_
  refine g_iconst (v := 1) (pc := 35) dX12_closes_35 (by decide) ?_
  refine g_isub (pc := 36) dX12_closes_36 ?_
  refine v_putI hV (pc := 37) dX12_closes_37 fo_12_5 rfl k0_53 own_53 rfl ?_
  cases h
  exact g_vret (pc := 40) dX12_closes_40 rfl (Nat.le_refl _) (Nat.le_refl _)
def Md_closes (v1 : Int32) (S : Sm) : Option (Sm) := (if (gi S 53 4) = ((-1)) then ((Md_look S).bind fun q1 => (if q1.1 = v1 then (Md_closes_20 q1.2) else (app (Md_bad q1.2) fun q2 => (Md_closes_20 q2)))) else (Md_closes_20 S))
set_option maxRecDepth 4000 in
theorem r_Md_closes {V : Sm → Wd} (hV : VwT V) {v1 : Int32} {S : Sm} {q : Sm} (h : Md_closes v1 S = some q) : Runs 2 mX12_closes [.ref 53, .int v1] (V S) none (V q) 0 0 := by
  unfold Md_closes at h
  refine Runs.of2 [some (.ref 53), some (.int v1)] 0 rfl rfl (Nat.le_of_ble_eq_true rfl) (fun l Γ => ?_)
  refine g_aload_n (pc := 0) dX12_closes_0 rfl ?_
  refine v_getI hV (pc := 1) dX12_closes_1 fo_12_4 rfl k0_53 own_53 ?_
  refine g_iconst (v := (-1)) (pc := 4) dX12_closes_4 (by decide) ?_
  refine g_icmp_ne (tgt := 20) (pc := 5) dX12_closes_5 (by decide) (fun c4 => ?_) (fun c4 => ?_)
  · rw [if_neg c4] at h
    refine g_wk [true, false] rfl ?_
    exact t_Md_closes_20 hV h
  · rw [if_pos c4] at h
    refine g_aload_n (pc := 8) dX12_closes_8 rfl ?_
    obtain ⟨q1, hq1, h⟩ := bnd h
    refine v_callVi hV (Mc := mX12_look) (v := q1.1) (S1 := q1.2) (As := []) (rest := []) (q := (RX12, TX12, 58)) (pc := 9) dX12_closes_9 mK_X12_152 mf_X12_look rfl k0_53 rfl rfl rfl (Nat.le_of_ble_eq_true rfl) ⟨Nat.le_of_ble_eq_true rfl, Nat.le_of_ble_eq_true rfl⟩ (r_Md_look hV hq1) ?_
    refine g_iload_n (pc := 12) dX12_closes_12 rfl ?_
    refine g_icmp_eq (tgt := 20) (pc := 13) dX12_closes_13 (by decide) (fun c3 => ?_) (fun c3 => ?_)
    · rw [if_pos c3] at h
      refine g_wk [true, false] rfl ?_
      exact t_Md_closes_20 hV h
    · rw [if_neg c3] at h
      refine g_aload_n (pc := 16) dX12_closes_16 rfl ?_
      obtain ⟨q2, hq2, h⟩ := app_of h
      refine v_callVv hV (Mc := mX12_bad) (S1 := q2) (As := []) (rest := []) (q := (RX12, TX12, 58)) (pc := 17) dX12_closes_17 mK_X12_149 mf_X12_bad rfl k0_53 rfl rfl rfl (Nat.le_of_ble_eq_true rfl) ⟨Nat.le_of_ble_eq_true rfl, Nat.le_of_ble_eq_true rfl⟩ (r_Md_bad hV hq2) ?_
      refine g_wk [true, false] rfl ?_
      exact t_Md_closes_20 hV h
def hd_Md_plainNumber_L4 (V : Sm → Wd) (l : Launch) (Γ : Gm) (rF : Option Value) (wF : Wd)  (q : Int32 × Int32 × Sm) : Prop := G mX12_plainNumber l Γ (rmD 1 0 0) (mQ Γ rF wF 0 0) 0 0 4 [some (.ref 53), some (.int q.1), some (.int q.2.1)] [] (V q.2.2)
def ps_Md_plainNumber_L4 (V : Sm → Wd) (l : Launch) (Γ : Gm) (rF : Option Value) (wF : Wd)  (x : Int32 × Sm) : Prop := (fun (a : Int32 × Sm) => G mX12_plainNumber l Γ (rmD 1 0 0) (mQ Γ rF wF 0 0) 0 0 48 [some (.ref 53), some (.int a.1), none] [] (V a.2)) x
def Md_plainNumber_L4 (q : Int32 × Int32 × Sm) : Option ((Int32 × Int32 × Sm) ⊕ (Int32 × Sm)) := (if (4 : Int32) ≤ q.2.1 then (some (.inr (q.1, q.2.2))) else ((Md_here q.2.2).bind fun q1 => (if (Md_isDigit q1) = 0 then (some (.inr (q.1, q.2.2))) else ((Md_here q.2.2).bind fun q2 => (some (.inl (((10 * q.1) + q2) - 48, q.2.1 + 1, si q.2.2 53 3 ((gi q.2.2 53 3) + 1))))))))
set_option maxRecDepth 4000 in
theorem t_Md_plainNumber_L4 {V : Sm → Wd} (hV : VwT V) {l : Launch} {Γ : Gm} {rF : Option Value} {wF : Wd}  {q : Int32 × Int32 × Sm} {o : (Int32 × Int32 × Sm) ⊕ (Int32 × Sm)} (h : Md_plainNumber_L4 q = some o) (hK : Sum.elim (hd_Md_plainNumber_L4 V l Γ rF wF) (ps_Md_plainNumber_L4 V l Γ rF wF) o) : hd_Md_plainNumber_L4 V l Γ rF wF q := by
  unfold Md_plainNumber_L4 at h
  unfold hd_Md_plainNumber_L4
  refine g_iload_n (pc := 4) dX12_plainNumber_4 rfl ?_
  refine g_iconst (v := 4) (pc := 5) dX12_plainNumber_5 (by decide) ?_
  refine g_icmp_ge (tgt := 48) (pc := 6) dX12_plainNumber_6 (by decide) (fun c4 => ?_) (fun c4 => ?_)
  · rw [if_pos c4] at h
    refine g_wk [true, true, false] rfl ?_
    cases h
    exact hK
  · rw [if_neg c4] at h
    refine g_aload_n (pc := 9) dX12_plainNumber_9 rfl ?_
    obtain ⟨q1, hq1, h⟩ := bnd h
    refine v_callVi hV (Mc := mX12_here) (v := q1) (S1 := q.2.2) (As := []) (rest := []) (q := (RX12, TX12, 58)) (pc := 10) dX12_plainNumber_10 mK_X12_136 mf_X12_here rfl k0_53 rfl rfl rfl (Nat.le_of_ble_eq_true rfl) ⟨Nat.le_of_ble_eq_true rfl, Nat.le_of_ble_eq_true rfl⟩ (r_Md_here hV hq1) ?_
    refine v_callSi (Mc := mX12_isDigit) (v := Md_isDigit q1) (S1 := q.2.2) (As := [.int q1]) (rest := []) (pc := 13) dX12_plainNumber_13 mK_X12_155 mf_X12_isDigit rfl rfl (Nat.le_of_ble_eq_true rfl) ⟨Nat.le_of_ble_eq_true rfl, Nat.le_of_ble_eq_true rfl⟩ (r_Md_isDigit hV rfl) ?_
    refine g_if_eq (tgt := 48) (pc := 16) dX12_plainNumber_16 (by decide) (fun c3 => ?_) (fun c3 => ?_)
    · rw [if_pos c3] at h
      refine g_wk [true, true, false] rfl ?_
      cases h
      exact hK
    · rw [if_neg c3] at h
      refine g_bipush (v := 10) (pc := 19) dX12_plainNumber_19 (by decide) ?_
      refine g_iload_n (pc := 21) dX12_plainNumber_21 rfl ?_
      refine g_imul (pc := 22) dX12_plainNumber_22 ?_
      refine g_aload_n (pc := 23) dX12_plainNumber_23 rfl ?_
      obtain ⟨q2, hq2, h⟩ := bnd h
      refine v_callVi hV (Mc := mX12_here) (v := q2) (S1 := q.2.2) (As := []) (rest := [.int (10 * q.1)]) (q := (RX12, TX12, 58)) (pc := 24) dX12_plainNumber_24 mK_X12_136 mf_X12_here rfl k0_53 rfl rfl rfl (Nat.le_of_ble_eq_true rfl) ⟨Nat.le_of_ble_eq_true rfl, Nat.le_of_ble_eq_true rfl⟩ (r_Md_here hV hq2) ?_
      refine g_iadd (pc := 27) dX12_plainNumber_27 ?_
      refine g_bipush (v := 48) (pc := 28) dX12_plainNumber_28 (by decide) ?_
      refine g_isub (pc := 30) dX12_plainNumber_30 ?_
      refine g_istore_n (ls1 := [some (.ref 53), some (.int (((10 * q.1) + q2) - 48)), some (.int q.2.1)]) (pc := 31) dX12_plainNumber_31 (by decide) rfl ?_
      refine g_aload_n (pc := 32) dX12_plainNumber_32 rfl ?_
      refine g_dup (pc := 33) dX12_plainNumber_33 rfl ?_
      refine v_getI hV (pc := 34) dX12_plainNumber_34 fo_12_3 rfl k0_53 own_53 ?_
      refine g_iconst (v := 1) (pc := 37) dX12_plainNumber_37 (by decide) ?_
      refine g_iadd (pc := 38) dX12_plainNumber_38 ?_
      refine v_putI hV (pc := 39) dX12_plainNumber_39 fo_12_3 rfl k0_53 own_53 rfl ?_
      refine g_iinc (v := q.2.1 + 1) (ls1 := [some (.ref 53), some (.int (((10 * q.1) + q2) - 48)), some (.int (q.2.1 + 1))]) (pc := 42) dX12_plainNumber_42 rfl rfl (by decide) rfl ?_
      refine g_goto (tgt := 4) (pc := 45) dX12_plainNumber_45 (by decide) ?_
      cases h
      exact hK
set_option maxRecDepth 4000 in
theorem w_Md_plainNumber_L4 {V : Sm → Wd} (hV : VwT V) {l : Launch} {Γ : Gm} {rF : Option Value} {wF : Wd}  {k : Nat} {q : Int32 × Int32 × Sm} {o : Int32 × Sm} (h : lpN (Md_plainNumber_L4) k q = some o) (hP : ps_Md_plainNumber_L4 V l Γ rF wF o) : hd_Md_plainNumber_L4 V l Γ rF wF q := lpN_ind2 (hd_Md_plainNumber_L4 V l Γ rF wF) (ps_Md_plainNumber_L4 V l Γ rF wF) (fun s o h hK => t_Md_plainNumber_L4 hV h hK) k q o h hP
def Md_plainNumber_62 (v1 : Int32) (S : Sm) : Option (Int32 × Sm) := (some ((v1, S)))
set_option maxRecDepth 4000 in
theorem t_Md_plainNumber_62 {V : Sm → Wd} (hV : VwT V) {l : Launch} {Γ : Gm} {v1 : Int32} {S : Sm} {q : Int32 × Sm} (h : Md_plainNumber_62 v1 S = some q) : G mX12_plainNumber l Γ (rmD 1 0 0) (mQ Γ (some (.int q.1)) (V q.2) 0 0) 0 0 62 [none, some (.int v1), none] [] (V S) := by
  unfold Md_plainNumber_62 at h
  refine g_iload_n (pc := 62) dX12_plainNumber_62 rfl ?_
  cases h
  exact g_iret (pc := 63) dX12_plainNumber_63 rfl rfl (Nat.le_refl _) (Nat.le_refl _)
def Md_plainNumber (S : Sm) : Option (Int32 × Sm) := ((lpN (Md_plainNumber_L4) FU (0, 0, S)).bind fun q5 => ((Md_here q5.2).bind fun q6 => (if (Md_isDigit q6) = 0 then (Md_plainNumber_62 q5.1 q5.2) else (app (Md_bad q5.2) fun q7 => (Md_plainNumber_62 q5.1 q7)))))
set_option maxRecDepth 4000 in
theorem r_Md_plainNumber {V : Sm → Wd} (hV : VwT V)  {S : Sm} {q : Int32 × Sm} (h : Md_plainNumber S = some q) : Runs 1 mX12_plainNumber [.ref 53] (V S) (some (.int q.1)) (V q.2) 0 0 := by
  unfold Md_plainNumber at h
  refine Runs.of2 [some (.ref 53), none, none] 2 rfl rfl (Nat.le_of_ble_eq_true rfl) (fun l Γ => ?_)
  refine g_iconst (v := 0) (pc := 0) dX12_plainNumber_0 (by decide) ?_
  refine g_istore_n (ls1 := [some (.ref 53), some (.int 0), none]) (pc := 1) dX12_plainNumber_1 (by decide) rfl ?_
  refine g_iconst (v := 0) (pc := 2) dX12_plainNumber_2 (by decide) ?_
  refine g_istore_n (ls1 := [some (.ref 53), some (.int 0), some (.int 0)]) (pc := 3) dX12_plainNumber_3 (by decide) rfl ?_
  obtain ⟨q5, hqq5, h⟩ := bnd h
  refine w_Md_plainNumber_L4 hV hqq5 ?_
  unfold ps_Md_plainNumber_L4
  show G _ _ _ _ _ _ _ _ _ _ _
  refine g_aload_n (pc := 48) dX12_plainNumber_48 rfl ?_
  obtain ⟨q6, hq6, h⟩ := bnd h
  refine v_callVi hV (Mc := mX12_here) (v := q6) (S1 := q5.2) (As := []) (rest := []) (q := (RX12, TX12, 58)) (pc := 49) dX12_plainNumber_49 mK_X12_136 mf_X12_here rfl k0_53 rfl rfl rfl (Nat.le_of_ble_eq_true rfl) ⟨Nat.le_of_ble_eq_true rfl, Nat.le_of_ble_eq_true rfl⟩ (r_Md_here hV hq6) ?_
  refine v_callSi (Mc := mX12_isDigit) (v := Md_isDigit q6) (S1 := q5.2) (As := [.int q6]) (rest := []) (pc := 52) dX12_plainNumber_52 mK_X12_155 mf_X12_isDigit rfl rfl (Nat.le_of_ble_eq_true rfl) ⟨Nat.le_of_ble_eq_true rfl, Nat.le_of_ble_eq_true rfl⟩ (r_Md_isDigit hV rfl) ?_
  refine g_if_eq (tgt := 62) (pc := 55) dX12_plainNumber_55 (by decide) (fun c8 => ?_) (fun c8 => ?_)
  · rw [if_pos c8] at h
    refine g_wk [false, true, false] rfl ?_
    exact t_Md_plainNumber_62 hV h
  · rw [if_neg c8] at h
    refine g_aload_n (pc := 58) dX12_plainNumber_58 rfl ?_
    obtain ⟨q7, hq7, h⟩ := app_of h
    refine v_callVv hV (Mc := mX12_bad) (S1 := q7) (As := []) (rest := []) (q := (RX12, TX12, 58)) (pc := 59) dX12_plainNumber_59 mK_X12_149 mf_X12_bad rfl k0_53 rfl rfl rfl (Nat.le_of_ble_eq_true rfl) ⟨Nat.le_of_ble_eq_true rfl, Nat.le_of_ble_eq_true rfl⟩ (r_Md_bad hV hq7) ?_
    refine g_wk [false, true, false] rfl ?_
    exact t_Md_plainNumber_62 hV h
def hd_Md_sum_L21 (V : Sm → Wd) (D0 : Nat) (l : Launch) (Γ : Gm) (rF : Option Value) (wF : Wd)  (q : Int32 × Sm) : Prop := G mX12_sum l Γ (rmD (D0 + 1) 0 0) (mQ Γ rF wF 0 0) 0 0 21 [some (.ref 53), some (.int q.1)] [] (V q.2)
def ps_Md_sum_L21 (V : Sm → Wd) (D0 : Nat) (l : Launch) (Γ : Gm) (rF : Option Value) (wF : Wd)  (x : Sm) : Prop := (fun (a : Sm) => G mX12_sum l Γ (rmD (D0 + 1) 0 0) (mQ Γ rF wF 0 0) 0 0 83 [none, none] [] (V a)) x
def Md_sum_79_L21 (rc : Nat → Sm → Option Sm) (s0 : Int32) (S : Sm) : Option ((Int32 × Sm) ⊕ (Sm)) := (some (.inl (s0, S)))
set_option maxRecDepth 4000 in
theorem t_Md_sum_79_L21 {V : Sm → Wd} (hV : VwT V) {D0 : Nat} (hD0 : 2 ≤ D0) {rc : Nat → Sm → Option Sm} (hrc : (∀ (S q : Sm), rc 0 S = some q → Runs D0 mX12_sum [.ref 53] (V S) none (V q) 0 0) ∧ (∀ (S q : Sm), rc 1 S = some q → Runs D0 mX12_term [.ref 53] (V S) none (V q) 0 0) ∧ (∀ (S q : Sm), rc 2 S = some q → Runs D0 mX12_atom [.ref 53] (V S) none (V q) 0 0)) {l : Launch} {Γ : Gm} {s0 : Int32} {rF : Option Value} {wF : Wd} {S : Sm} {o : (Int32 × Sm) ⊕ (Sm)} (h : Md_sum_79_L21 rc s0 S = some o) (hK : Sum.elim (hd_Md_sum_L21 V D0 l Γ rF wF) (ps_Md_sum_L21 V D0 l Γ rF wF) o) : G mX12_sum l Γ (rmD (D0 + 1) 0 0) (mQ Γ rF wF 0 0) 0 0 79 [some (.ref 53), none] [.int s0] (V S) := by
  unfold Md_sum_79_L21 at h
  refine g_istore_n (ls1 := [some (.ref 53), some (.int s0)]) (pc := 79) dX12_sum_79 (by decide) rfl ?_
  refine g_goto (tgt := 21) (pc := 80) dX12_sum_80 (by decide) ?_
  cases h
  exact hK
def Md_sum_59_L21 (rc : Nat → Sm → Option Sm) (s1 : Int32) (S : Sm) : Option ((Int32 × Sm) ⊕ (Sm)) := ((Md_put s1 0 S).bind fun q3 => (if (gi q3 53 4) = ((-1)) then ((Md_look q3).bind fun q4 => (Md_sum_79_L21 rc q4.1 q4.2)) else (Md_sum_79_L21 rc ((-1)) q3)))
set_option maxRecDepth 4000 in
theorem t_Md_sum_59_L21 {V : Sm → Wd} (hV : VwT V) {D0 : Nat} (hD0 : 2 ≤ D0) {rc : Nat → Sm → Option Sm} (hrc : (∀ (S q : Sm), rc 0 S = some q → Runs D0 mX12_sum [.ref 53] (V S) none (V q) 0 0) ∧ (∀ (S q : Sm), rc 1 S = some q → Runs D0 mX12_term [.ref 53] (V S) none (V q) 0 0) ∧ (∀ (S q : Sm), rc 2 S = some q → Runs D0 mX12_atom [.ref 53] (V S) none (V q) 0 0)) {l : Launch} {Γ : Gm} {s1 : Int32} {rF : Option Value} {wF : Wd} {S : Sm} {o : (Int32 × Sm) ⊕ (Sm)} (h : Md_sum_59_L21 rc s1 S = some o) (hK : Sum.elim (hd_Md_sum_L21 V D0 l Γ rF wF) (ps_Md_sum_L21 V D0 l Γ rF wF) o) : G mX12_sum l Γ (rmD (D0 + 1) 0 0) (mQ Γ rF wF 0 0) 0 0 59 [some (.ref 53), none] [.int s1, .ref 53] (V S) := by
  unfold Md_sum_59_L21 at h
  refine g_iconst (v := 0) (pc := 59) dX12_sum_59 (by decide) ?_
  obtain ⟨q3, hq3, h⟩ := bnd h
  refine v_callVv hV (Mc := mX12_put) (S1 := q3) (As := [.int s1, .int 0]) (rest := []) (q := (RX12, TX12, 58)) (pc := 60) dX12_sum_60 mK_X12_162 mf_X12_put rfl k0_53 rfl rfl rfl (Nat.le_of_ble_eq_true rfl) ⟨by show 0 + 1 ≤ D0 + 1; omega, by show 8 + (3 + 11) + 64 * 0 ≤ 64 * (D0 + 1); omega⟩ (r_Md_put hV hq3) ?_
  refine g_aload_n (pc := 63) dX12_sum_63 rfl ?_
  refine v_getI hV (pc := 64) dX12_sum_64 fo_12_4 rfl k0_53 own_53 ?_
  refine g_iconst (v := (-1)) (pc := 67) dX12_sum_67 (by decide) ?_
  refine g_icmp_ne (tgt := 78) (pc := 68) dX12_sum_68 (by decide) (fun c5 => ?_) (fun c5 => ?_)
  · rw [if_neg c5] at h
    refine g_iconst (v := (-1)) (pc := 78) dX12_sum_78 (by decide) ?_
    exact t_Md_sum_79_L21 hV hD0 hrc h hK
  · rw [if_pos c5] at h
    refine g_aload_n (pc := 71) dX12_sum_71 rfl ?_
    obtain ⟨q4, hq4, h⟩ := bnd h
    refine v_callVi hV (Mc := mX12_look) (v := q4.1) (S1 := q4.2) (As := []) (rest := []) (q := (RX12, TX12, 58)) (pc := 72) dX12_sum_72 mK_X12_152 mf_X12_look rfl k0_53 rfl rfl rfl (Nat.le_of_ble_eq_true rfl) ⟨by show 1 + 1 ≤ D0 + 1; omega, by show 8 + (1 + 11) + 64 * 1 ≤ 64 * (D0 + 1); omega⟩ (r_Md_look hV hq4) ?_
    refine g_goto (tgt := 79) (pc := 75) dX12_sum_75 (by decide) ?_
    exact t_Md_sum_79_L21 hV hD0 hrc h hK
def Md_sum_33_L21 (rc : Nat → Sm → Option Sm) (v1 : Int32) (S : Sm) : Option ((Int32 × Sm) ⊕ (Sm)) := ((rc 1 (si S 53 3 ((gi S 53 3) + 1))).bind fun q2 => (if v1 = 43 then (Md_sum_59_L21 rc 2 q2) else (Md_sum_59_L21 rc 3 q2)))
set_option maxRecDepth 4000 in
theorem t_Md_sum_33_L21 {V : Sm → Wd} (hV : VwT V) {D0 : Nat} (hD0 : 2 ≤ D0) {rc : Nat → Sm → Option Sm} (hrc : (∀ (S q : Sm), rc 0 S = some q → Runs D0 mX12_sum [.ref 53] (V S) none (V q) 0 0) ∧ (∀ (S q : Sm), rc 1 S = some q → Runs D0 mX12_term [.ref 53] (V S) none (V q) 0 0) ∧ (∀ (S q : Sm), rc 2 S = some q → Runs D0 mX12_atom [.ref 53] (V S) none (V q) 0 0)) {l : Launch} {Γ : Gm} {v1 : Int32} {rF : Option Value} {wF : Wd} {S : Sm} {o : (Int32 × Sm) ⊕ (Sm)} (h : Md_sum_33_L21 rc v1 S = some o) (hK : Sum.elim (hd_Md_sum_L21 V D0 l Γ rF wF) (ps_Md_sum_L21 V D0 l Γ rF wF) o) : G mX12_sum l Γ (rmD (D0 + 1) 0 0) (mQ Γ rF wF 0 0) 0 0 33 [some (.ref 53), some (.int v1)] [] (V S) := by
  unfold Md_sum_33_L21 at h
  refine g_aload_n (pc := 33) dX12_sum_33 rfl ?_
  refine g_dup (pc := 34) dX12_sum_34 rfl ?_
  refine v_getI hV (pc := 35) dX12_sum_35 fo_12_3 rfl k0_53 own_53 ?_
  refine g_iconst (v := 1) (pc := 38) dX12_sum_38 (by decide) ?_
  refine g_iadd (pc := 39) dX12_sum_39 ?_
  refine v_putI hV (pc := 40) dX12_sum_40 fo_12_3 rfl k0_53 own_53 rfl ?_
  refine g_aload_n (pc := 43) dX12_sum_43 rfl ?_
  obtain ⟨q2, hq2, h⟩ := bnd h
  refine v_callVv hV (Mc := mX12_term) (S1 := q2) (As := []) (rest := []) (q := (RX12, TX12, 58)) (pc := 44) dX12_sum_44 mK_X12_183 mf_X12_term rfl k0_53 rfl rfl rfl (Nat.le_of_ble_eq_true rfl) ⟨by show D0 + 1 ≤ D0 + 1; omega, by show 8 + (2 + 11) + 64 * D0 ≤ 64 * (D0 + 1); omega⟩ (hrc.2.1 _ _ hq2) ?_
  refine g_aload_n (pc := 47) dX12_sum_47 rfl ?_
  refine g_iload_n (pc := 48) dX12_sum_48 rfl ?_
  refine g_bipush (v := 43) (pc := 49) dX12_sum_49 (by decide) ?_
  refine g_icmp_ne (tgt := 58) (pc := 51) dX12_sum_51 (by decide) (fun c6 => ?_) (fun c6 => ?_)
  · rw [if_neg c6] at h
    refine g_iconst (v := 3) (pc := 58) dX12_sum_58 (by decide) ?_
    refine g_wk [true, false] rfl ?_
    exact t_Md_sum_59_L21 hV hD0 hrc h hK
  · rw [if_pos c6] at h
    refine g_iconst (v := 2) (pc := 54) dX12_sum_54 (by decide) ?_
    refine g_goto (tgt := 59) (pc := 55) dX12_sum_55 (by decide) ?_
    refine g_wk [true, false] rfl ?_
    exact t_Md_sum_59_L21 hV hD0 hrc h hK
def Md_sum_L21 (rc : Nat → Sm → Option Sm) (q : Int32 × Sm) : Option ((Int32 × Sm) ⊕ (Sm)) := (if q.1 = 43 then (Md_sum_33_L21 rc q.1 q.2) else (if q.1 = 45 then (Md_sum_33_L21 rc q.1 q.2) else (some (.inr q.2))))
set_option maxRecDepth 4000 in
theorem t_Md_sum_L21 {V : Sm → Wd} (hV : VwT V) {D0 : Nat} (hD0 : 2 ≤ D0) {rc : Nat → Sm → Option Sm} (hrc : (∀ (S q : Sm), rc 0 S = some q → Runs D0 mX12_sum [.ref 53] (V S) none (V q) 0 0) ∧ (∀ (S q : Sm), rc 1 S = some q → Runs D0 mX12_term [.ref 53] (V S) none (V q) 0 0) ∧ (∀ (S q : Sm), rc 2 S = some q → Runs D0 mX12_atom [.ref 53] (V S) none (V q) 0 0)) {l : Launch} {Γ : Gm} {rF : Option Value} {wF : Wd}  {q : Int32 × Sm} {o : (Int32 × Sm) ⊕ (Sm)} (h : Md_sum_L21 rc q = some o) (hK : Sum.elim (hd_Md_sum_L21 V D0 l Γ rF wF) (ps_Md_sum_L21 V D0 l Γ rF wF) o) : hd_Md_sum_L21 V D0 l Γ rF wF q := by
  unfold Md_sum_L21 at h
  unfold hd_Md_sum_L21
  refine g_iload_n (pc := 21) dX12_sum_21 rfl ?_
  refine g_bipush (v := 43) (pc := 22) dX12_sum_22 (by decide) ?_
  refine g_icmp_eq (tgt := 33) (pc := 24) dX12_sum_24 (by decide) (fun c8 => ?_) (fun c8 => ?_)
  · rw [if_pos c8] at h
    exact t_Md_sum_33_L21 hV hD0 hrc h hK
  · rw [if_neg c8] at h
    refine g_iload_n (pc := 27) dX12_sum_27 rfl ?_
    refine g_bipush (v := 45) (pc := 28) dX12_sum_28 (by decide) ?_
    refine g_icmp_ne (tgt := 83) (pc := 30) dX12_sum_30 (by decide) (fun c7 => ?_) (fun c7 => ?_)
    · rw [if_neg c7] at h
      refine g_wk [false, false] rfl ?_
      cases h
      exact hK
    · rw [if_pos c7] at h
      exact t_Md_sum_33_L21 hV hD0 hrc h hK
set_option maxRecDepth 4000 in
theorem w_Md_sum_L21 {V : Sm → Wd} (hV : VwT V) {D0 : Nat} (hD0 : 2 ≤ D0) {rc : Nat → Sm → Option Sm} (hrc : (∀ (S q : Sm), rc 0 S = some q → Runs D0 mX12_sum [.ref 53] (V S) none (V q) 0 0) ∧ (∀ (S q : Sm), rc 1 S = some q → Runs D0 mX12_term [.ref 53] (V S) none (V q) 0 0) ∧ (∀ (S q : Sm), rc 2 S = some q → Runs D0 mX12_atom [.ref 53] (V S) none (V q) 0 0)) {l : Launch} {Γ : Gm} {rF : Option Value} {wF : Wd}  {k : Nat} {q : Int32 × Sm} {o : Sm} (h : lpN (Md_sum_L21 rc) k q = some o) (hP : ps_Md_sum_L21 V D0 l Γ rF wF o) : hd_Md_sum_L21 V D0 l Γ rF wF q := lpN_ind2 (hd_Md_sum_L21 V D0 l Γ rF wF) (ps_Md_sum_L21 V D0 l Γ rF wF) (fun s o h hK => t_Md_sum_L21 hV hD0 hrc h hK) k q o h hP
def Md_sum_20 (rc : Nat → Sm → Option Sm) (s0 : Int32) (S : Sm) : Option (Sm) := ((lpN (Md_sum_L21 rc) FU (s0, S)).bind fun q9 => (some q9))
set_option maxRecDepth 4000 in
theorem t_Md_sum_20 {V : Sm → Wd} (hV : VwT V) {D0 : Nat} (hD0 : 2 ≤ D0) {rc : Nat → Sm → Option Sm} (hrc : (∀ (S q : Sm), rc 0 S = some q → Runs D0 mX12_sum [.ref 53] (V S) none (V q) 0 0) ∧ (∀ (S q : Sm), rc 1 S = some q → Runs D0 mX12_term [.ref 53] (V S) none (V q) 0 0) ∧ (∀ (S q : Sm), rc 2 S = some q → Runs D0 mX12_atom [.ref 53] (V S) none (V q) 0 0)) {l : Launch} {Γ : Gm} {s0 : Int32} {S : Sm} {q : Sm} (h : Md_sum_20 rc s0 S = some q) : G mX12_sum l Γ (rmD (D0 + 1) 0 0) (mQ Γ none (V q) 0 0) 0 0 20 [some (.ref 53), none] [.int s0] (V S) := by
  unfold Md_sum_20 at h
  refine g_istore_n (ls1 := [some (.ref 53), some (.int s0)]) (pc := 20) dX12_sum_20 (by decide) rfl ?_
  obtain ⟨q9, hqq9, h⟩ := bnd h
  refine w_Md_sum_L21 hV hD0 hrc hqq9 ?_
  unfold ps_Md_sum_L21
  show G _ _ _ _ _ _ _ _ _ _ _
  cases h
  exact g_vret (pc := 83) dX12_sum_83 rfl (Nat.le_refl _) (Nat.le_refl _)
def Md_sum (rc : Nat → Sm → Option Sm) (S : Sm) : Option (Sm) := ((rc 1 S).bind fun q1 => (if (gi q1 53 4) = ((-1)) then ((Md_look q1).bind fun q10 => (Md_sum_20 rc q10.1 q10.2)) else (Md_sum_20 rc ((-1)) q1)))
set_option maxRecDepth 4000 in
theorem rb_Md_sum {V : Sm → Wd} (hV : VwT V) {D0 : Nat} (hD0 : 2 ≤ D0) {rc : Nat → Sm → Option Sm} (hrc : (∀ (S q : Sm), rc 0 S = some q → Runs D0 mX12_sum [.ref 53] (V S) none (V q) 0 0) ∧ (∀ (S q : Sm), rc 1 S = some q → Runs D0 mX12_term [.ref 53] (V S) none (V q) 0 0) ∧ (∀ (S q : Sm), rc 2 S = some q → Runs D0 mX12_atom [.ref 53] (V S) none (V q) 0 0))  {S : Sm} {q : Sm} (h : Md_sum rc S = some q) : Runs (D0 + 1) mX12_sum [.ref 53] (V S) none (V q) 0 0 := by
  unfold Md_sum at h
  refine Runs.of2 [some (.ref 53), none] 1 rfl rfl (Nat.le_of_ble_eq_true rfl) (fun l Γ => ?_)
  refine g_aload_n (pc := 0) dX12_sum_0 rfl ?_
  obtain ⟨q1, hq1, h⟩ := bnd h
  refine v_callVv hV (Mc := mX12_term) (S1 := q1) (As := []) (rest := []) (q := (RX12, TX12, 58)) (pc := 1) dX12_sum_1 mK_X12_183 mf_X12_term rfl k0_53 rfl rfl rfl (Nat.le_of_ble_eq_true rfl) ⟨by show D0 + 1 ≤ D0 + 1; omega, by show 8 + (2 + 11) + 64 * D0 ≤ 64 * (D0 + 1); omega⟩ (hrc.2.1 _ _ hq1) ?_
  refine g_aload_n (pc := 4) dX12_sum_4 rfl ?_
  refine v_getI hV (pc := 5) dX12_sum_5 fo_12_4 rfl k0_53 own_53 ?_
  refine g_iconst (v := (-1)) (pc := 8) dX12_sum_8 (by decide) ?_
  refine g_icmp_ne (tgt := 19) (pc := 9) dX12_sum_9 (by decide) (fun c11 => ?_) (fun c11 => ?_)
  · rw [if_neg c11] at h
    refine g_iconst (v := (-1)) (pc := 19) dX12_sum_19 (by decide) ?_
    exact t_Md_sum_20 hV hD0 hrc h
  · rw [if_pos c11] at h
    refine g_aload_n (pc := 12) dX12_sum_12 rfl ?_
    obtain ⟨q10, hq10, h⟩ := bnd h
    refine v_callVi hV (Mc := mX12_look) (v := q10.1) (S1 := q10.2) (As := []) (rest := []) (q := (RX12, TX12, 58)) (pc := 13) dX12_sum_13 mK_X12_152 mf_X12_look rfl k0_53 rfl rfl rfl (Nat.le_of_ble_eq_true rfl) ⟨by show 1 + 1 ≤ D0 + 1; omega, by show 8 + (1 + 11) + 64 * 1 ≤ 64 * (D0 + 1); omega⟩ (r_Md_look hV hq10) ?_
    refine g_goto (tgt := 20) (pc := 16) dX12_sum_16 (by decide) ?_
    exact t_Md_sum_20 hV hD0 hrc h
def hd_Md_term_L21 (V : Sm → Wd) (D0 : Nat) (l : Launch) (Γ : Gm) (rF : Option Value) (wF : Wd)  (q : Int32 × Sm) : Prop := G mX12_term l Γ (rmD (D0 + 1) 0 0) (mQ Γ rF wF 0 0) 0 0 21 [some (.ref 53), some (.int q.1)] [] (V q.2)
def ps_Md_term_L21 (V : Sm → Wd) (D0 : Nat) (l : Launch) (Γ : Gm) (rF : Option Value) (wF : Wd)  (x : Sm) : Prop := (fun (a : Sm) => G mX12_term l Γ (rmD (D0 + 1) 0 0) (mQ Γ rF wF 0 0) 0 0 83 [none, none] [] (V a)) x
def Md_term_79_L21 (rc : Nat → Sm → Option Sm) (s0 : Int32) (S : Sm) : Option ((Int32 × Sm) ⊕ (Sm)) := (some (.inl (s0, S)))
set_option maxRecDepth 4000 in
theorem t_Md_term_79_L21 {V : Sm → Wd} (hV : VwT V) {D0 : Nat} (hD0 : 2 ≤ D0) {rc : Nat → Sm → Option Sm} (hrc : (∀ (S q : Sm), rc 0 S = some q → Runs D0 mX12_sum [.ref 53] (V S) none (V q) 0 0) ∧ (∀ (S q : Sm), rc 1 S = some q → Runs D0 mX12_term [.ref 53] (V S) none (V q) 0 0) ∧ (∀ (S q : Sm), rc 2 S = some q → Runs D0 mX12_atom [.ref 53] (V S) none (V q) 0 0)) {l : Launch} {Γ : Gm} {s0 : Int32} {rF : Option Value} {wF : Wd} {S : Sm} {o : (Int32 × Sm) ⊕ (Sm)} (h : Md_term_79_L21 rc s0 S = some o) (hK : Sum.elim (hd_Md_term_L21 V D0 l Γ rF wF) (ps_Md_term_L21 V D0 l Γ rF wF) o) : G mX12_term l Γ (rmD (D0 + 1) 0 0) (mQ Γ rF wF 0 0) 0 0 79 [some (.ref 53), none] [.int s0] (V S) := by
  unfold Md_term_79_L21 at h
  refine g_istore_n (ls1 := [some (.ref 53), some (.int s0)]) (pc := 79) dX12_term_79 (by decide) rfl ?_
  refine g_goto (tgt := 21) (pc := 80) dX12_term_80 (by decide) ?_
  cases h
  exact hK
def Md_term_59_L21 (rc : Nat → Sm → Option Sm) (s1 : Int32) (S : Sm) : Option ((Int32 × Sm) ⊕ (Sm)) := ((Md_put s1 0 S).bind fun q3 => (if (gi q3 53 4) = ((-1)) then ((Md_look q3).bind fun q4 => (Md_term_79_L21 rc q4.1 q4.2)) else (Md_term_79_L21 rc ((-1)) q3)))
set_option maxRecDepth 4000 in
theorem t_Md_term_59_L21 {V : Sm → Wd} (hV : VwT V) {D0 : Nat} (hD0 : 2 ≤ D0) {rc : Nat → Sm → Option Sm} (hrc : (∀ (S q : Sm), rc 0 S = some q → Runs D0 mX12_sum [.ref 53] (V S) none (V q) 0 0) ∧ (∀ (S q : Sm), rc 1 S = some q → Runs D0 mX12_term [.ref 53] (V S) none (V q) 0 0) ∧ (∀ (S q : Sm), rc 2 S = some q → Runs D0 mX12_atom [.ref 53] (V S) none (V q) 0 0)) {l : Launch} {Γ : Gm} {s1 : Int32} {rF : Option Value} {wF : Wd} {S : Sm} {o : (Int32 × Sm) ⊕ (Sm)} (h : Md_term_59_L21 rc s1 S = some o) (hK : Sum.elim (hd_Md_term_L21 V D0 l Γ rF wF) (ps_Md_term_L21 V D0 l Γ rF wF) o) : G mX12_term l Γ (rmD (D0 + 1) 0 0) (mQ Γ rF wF 0 0) 0 0 59 [some (.ref 53), none] [.int s1, .ref 53] (V S) := by
  unfold Md_term_59_L21 at h
  refine g_iconst (v := 0) (pc := 59) dX12_term_59 (by decide) ?_
  obtain ⟨q3, hq3, h⟩ := bnd h
  refine v_callVv hV (Mc := mX12_put) (S1 := q3) (As := [.int s1, .int 0]) (rest := []) (q := (RX12, TX12, 58)) (pc := 60) dX12_term_60 mK_X12_162 mf_X12_put rfl k0_53 rfl rfl rfl (Nat.le_of_ble_eq_true rfl) ⟨by show 0 + 1 ≤ D0 + 1; omega, by show 8 + (3 + 11) + 64 * 0 ≤ 64 * (D0 + 1); omega⟩ (r_Md_put hV hq3) ?_
  refine g_aload_n (pc := 63) dX12_term_63 rfl ?_
  refine v_getI hV (pc := 64) dX12_term_64 fo_12_4 rfl k0_53 own_53 ?_
  refine g_iconst (v := (-1)) (pc := 67) dX12_term_67 (by decide) ?_
  refine g_icmp_ne (tgt := 78) (pc := 68) dX12_term_68 (by decide) (fun c5 => ?_) (fun c5 => ?_)
  · rw [if_neg c5] at h
    refine g_iconst (v := (-1)) (pc := 78) dX12_term_78 (by decide) ?_
    exact t_Md_term_79_L21 hV hD0 hrc h hK
  · rw [if_pos c5] at h
    refine g_aload_n (pc := 71) dX12_term_71 rfl ?_
    obtain ⟨q4, hq4, h⟩ := bnd h
    refine v_callVi hV (Mc := mX12_look) (v := q4.1) (S1 := q4.2) (As := []) (rest := []) (q := (RX12, TX12, 58)) (pc := 72) dX12_term_72 mK_X12_152 mf_X12_look rfl k0_53 rfl rfl rfl (Nat.le_of_ble_eq_true rfl) ⟨by show 1 + 1 ≤ D0 + 1; omega, by show 8 + (1 + 11) + 64 * 1 ≤ 64 * (D0 + 1); omega⟩ (r_Md_look hV hq4) ?_
    refine g_goto (tgt := 79) (pc := 75) dX12_term_75 (by decide) ?_
    exact t_Md_term_79_L21 hV hD0 hrc h hK
def Md_term_33_L21 (rc : Nat → Sm → Option Sm) (v1 : Int32) (S : Sm) : Option ((Int32 × Sm) ⊕ (Sm)) := ((rc 2 (si S 53 3 ((gi S 53 3) + 1))).bind fun q2 => (if v1 = 42 then (Md_term_59_L21 rc 4 q2) else (Md_term_59_L21 rc 5 q2)))
set_option maxRecDepth 4000 in
theorem t_Md_term_33_L21 {V : Sm → Wd} (hV : VwT V) {D0 : Nat} (hD0 : 2 ≤ D0) {rc : Nat → Sm → Option Sm} (hrc : (∀ (S q : Sm), rc 0 S = some q → Runs D0 mX12_sum [.ref 53] (V S) none (V q) 0 0) ∧ (∀ (S q : Sm), rc 1 S = some q → Runs D0 mX12_term [.ref 53] (V S) none (V q) 0 0) ∧ (∀ (S q : Sm), rc 2 S = some q → Runs D0 mX12_atom [.ref 53] (V S) none (V q) 0 0)) {l : Launch} {Γ : Gm} {v1 : Int32} {rF : Option Value} {wF : Wd} {S : Sm} {o : (Int32 × Sm) ⊕ (Sm)} (h : Md_term_33_L21 rc v1 S = some o) (hK : Sum.elim (hd_Md_term_L21 V D0 l Γ rF wF) (ps_Md_term_L21 V D0 l Γ rF wF) o) : G mX12_term l Γ (rmD (D0 + 1) 0 0) (mQ Γ rF wF 0 0) 0 0 33 [some (.ref 53), some (.int v1)] [] (V S) := by
  unfold Md_term_33_L21 at h
  refine g_aload_n (pc := 33) dX12_term_33 rfl ?_
  refine g_dup (pc := 34) dX12_term_34 rfl ?_
  refine v_getI hV (pc := 35) dX12_term_35 fo_12_3 rfl k0_53 own_53 ?_
  refine g_iconst (v := 1) (pc := 38) dX12_term_38 (by decide) ?_
  refine g_iadd (pc := 39) dX12_term_39 ?_
  refine v_putI hV (pc := 40) dX12_term_40 fo_12_3 rfl k0_53 own_53 rfl ?_
  refine g_aload_n (pc := 43) dX12_term_43 rfl ?_
  obtain ⟨q2, hq2, h⟩ := bnd h
  refine v_callVv hV (Mc := mX12_atom) (S1 := q2) (As := []) (rest := []) (q := (RX12, TX12, 58)) (pc := 44) dX12_term_44 mK_X12_180 mf_X12_atom rfl k0_53 rfl rfl rfl (Nat.le_of_ble_eq_true rfl) ⟨by show D0 + 1 ≤ D0 + 1; omega, by show 8 + (2 + 11) + 64 * D0 ≤ 64 * (D0 + 1); omega⟩ (hrc.2.2 _ _ hq2) ?_
  refine g_aload_n (pc := 47) dX12_term_47 rfl ?_
  refine g_iload_n (pc := 48) dX12_term_48 rfl ?_
  refine g_bipush (v := 42) (pc := 49) dX12_term_49 (by decide) ?_
  refine g_icmp_ne (tgt := 58) (pc := 51) dX12_term_51 (by decide) (fun c6 => ?_) (fun c6 => ?_)
  · rw [if_neg c6] at h
    refine g_iconst (v := 5) (pc := 58) dX12_term_58 (by decide) ?_
    refine g_wk [true, false] rfl ?_
    exact t_Md_term_59_L21 hV hD0 hrc h hK
  · rw [if_pos c6] at h
    refine g_iconst (v := 4) (pc := 54) dX12_term_54 (by decide) ?_
    refine g_goto (tgt := 59) (pc := 55) dX12_term_55 (by decide) ?_
    refine g_wk [true, false] rfl ?_
    exact t_Md_term_59_L21 hV hD0 hrc h hK
def Md_term_L21 (rc : Nat → Sm → Option Sm) (q : Int32 × Sm) : Option ((Int32 × Sm) ⊕ (Sm)) := (if q.1 = 42 then (Md_term_33_L21 rc q.1 q.2) else (if q.1 = 47 then (Md_term_33_L21 rc q.1 q.2) else (some (.inr q.2))))
set_option maxRecDepth 4000 in
theorem t_Md_term_L21 {V : Sm → Wd} (hV : VwT V) {D0 : Nat} (hD0 : 2 ≤ D0) {rc : Nat → Sm → Option Sm} (hrc : (∀ (S q : Sm), rc 0 S = some q → Runs D0 mX12_sum [.ref 53] (V S) none (V q) 0 0) ∧ (∀ (S q : Sm), rc 1 S = some q → Runs D0 mX12_term [.ref 53] (V S) none (V q) 0 0) ∧ (∀ (S q : Sm), rc 2 S = some q → Runs D0 mX12_atom [.ref 53] (V S) none (V q) 0 0)) {l : Launch} {Γ : Gm} {rF : Option Value} {wF : Wd}  {q : Int32 × Sm} {o : (Int32 × Sm) ⊕ (Sm)} (h : Md_term_L21 rc q = some o) (hK : Sum.elim (hd_Md_term_L21 V D0 l Γ rF wF) (ps_Md_term_L21 V D0 l Γ rF wF) o) : hd_Md_term_L21 V D0 l Γ rF wF q := by
  unfold Md_term_L21 at h
  unfold hd_Md_term_L21
  refine g_iload_n (pc := 21) dX12_term_21 rfl ?_
  refine g_bipush (v := 42) (pc := 22) dX12_term_22 (by decide) ?_
  refine g_icmp_eq (tgt := 33) (pc := 24) dX12_term_24 (by decide) (fun c8 => ?_) (fun c8 => ?_)
  · rw [if_pos c8] at h
    exact t_Md_term_33_L21 hV hD0 hrc h hK
  · rw [if_neg c8] at h
    refine g_iload_n (pc := 27) dX12_term_27 rfl ?_
    refine g_bipush (v := 47) (pc := 28) dX12_term_28 (by decide) ?_
    refine g_icmp_ne (tgt := 83) (pc := 30) dX12_term_30 (by decide) (fun c7 => ?_) (fun c7 => ?_)
    · rw [if_neg c7] at h
      refine g_wk [false, false] rfl ?_
      cases h
      exact hK
    · rw [if_pos c7] at h
      exact t_Md_term_33_L21 hV hD0 hrc h hK
set_option maxRecDepth 4000 in
theorem w_Md_term_L21 {V : Sm → Wd} (hV : VwT V) {D0 : Nat} (hD0 : 2 ≤ D0) {rc : Nat → Sm → Option Sm} (hrc : (∀ (S q : Sm), rc 0 S = some q → Runs D0 mX12_sum [.ref 53] (V S) none (V q) 0 0) ∧ (∀ (S q : Sm), rc 1 S = some q → Runs D0 mX12_term [.ref 53] (V S) none (V q) 0 0) ∧ (∀ (S q : Sm), rc 2 S = some q → Runs D0 mX12_atom [.ref 53] (V S) none (V q) 0 0)) {l : Launch} {Γ : Gm} {rF : Option Value} {wF : Wd}  {k : Nat} {q : Int32 × Sm} {o : Sm} (h : lpN (Md_term_L21 rc) k q = some o) (hP : ps_Md_term_L21 V D0 l Γ rF wF o) : hd_Md_term_L21 V D0 l Γ rF wF q := lpN_ind2 (hd_Md_term_L21 V D0 l Γ rF wF) (ps_Md_term_L21 V D0 l Γ rF wF) (fun s o h hK => t_Md_term_L21 hV hD0 hrc h hK) k q o h hP
def Md_term_20 (rc : Nat → Sm → Option Sm) (s0 : Int32) (S : Sm) : Option (Sm) := ((lpN (Md_term_L21 rc) FU (s0, S)).bind fun q9 => (some q9))
set_option maxRecDepth 4000 in
theorem t_Md_term_20 {V : Sm → Wd} (hV : VwT V) {D0 : Nat} (hD0 : 2 ≤ D0) {rc : Nat → Sm → Option Sm} (hrc : (∀ (S q : Sm), rc 0 S = some q → Runs D0 mX12_sum [.ref 53] (V S) none (V q) 0 0) ∧ (∀ (S q : Sm), rc 1 S = some q → Runs D0 mX12_term [.ref 53] (V S) none (V q) 0 0) ∧ (∀ (S q : Sm), rc 2 S = some q → Runs D0 mX12_atom [.ref 53] (V S) none (V q) 0 0)) {l : Launch} {Γ : Gm} {s0 : Int32} {S : Sm} {q : Sm} (h : Md_term_20 rc s0 S = some q) : G mX12_term l Γ (rmD (D0 + 1) 0 0) (mQ Γ none (V q) 0 0) 0 0 20 [some (.ref 53), none] [.int s0] (V S) := by
  unfold Md_term_20 at h
  refine g_istore_n (ls1 := [some (.ref 53), some (.int s0)]) (pc := 20) dX12_term_20 (by decide) rfl ?_
  obtain ⟨q9, hqq9, h⟩ := bnd h
  refine w_Md_term_L21 hV hD0 hrc hqq9 ?_
  unfold ps_Md_term_L21
  show G _ _ _ _ _ _ _ _ _ _ _
  cases h
  exact g_vret (pc := 83) dX12_term_83 rfl (Nat.le_refl _) (Nat.le_refl _)
def Md_term (rc : Nat → Sm → Option Sm) (S : Sm) : Option (Sm) := ((rc 2 S).bind fun q1 => (if (gi q1 53 4) = ((-1)) then ((Md_look q1).bind fun q10 => (Md_term_20 rc q10.1 q10.2)) else (Md_term_20 rc ((-1)) q1)))
set_option maxRecDepth 4000 in
theorem rb_Md_term {V : Sm → Wd} (hV : VwT V) {D0 : Nat} (hD0 : 2 ≤ D0) {rc : Nat → Sm → Option Sm} (hrc : (∀ (S q : Sm), rc 0 S = some q → Runs D0 mX12_sum [.ref 53] (V S) none (V q) 0 0) ∧ (∀ (S q : Sm), rc 1 S = some q → Runs D0 mX12_term [.ref 53] (V S) none (V q) 0 0) ∧ (∀ (S q : Sm), rc 2 S = some q → Runs D0 mX12_atom [.ref 53] (V S) none (V q) 0 0))  {S : Sm} {q : Sm} (h : Md_term rc S = some q) : Runs (D0 + 1) mX12_term [.ref 53] (V S) none (V q) 0 0 := by
  unfold Md_term at h
  refine Runs.of2 [some (.ref 53), none] 1 rfl rfl (Nat.le_of_ble_eq_true rfl) (fun l Γ => ?_)
  refine g_aload_n (pc := 0) dX12_term_0 rfl ?_
  obtain ⟨q1, hq1, h⟩ := bnd h
  refine v_callVv hV (Mc := mX12_atom) (S1 := q1) (As := []) (rest := []) (q := (RX12, TX12, 58)) (pc := 1) dX12_term_1 mK_X12_180 mf_X12_atom rfl k0_53 rfl rfl rfl (Nat.le_of_ble_eq_true rfl) ⟨by show D0 + 1 ≤ D0 + 1; omega, by show 8 + (2 + 11) + 64 * D0 ≤ 64 * (D0 + 1); omega⟩ (hrc.2.2 _ _ hq1) ?_
  refine g_aload_n (pc := 4) dX12_term_4 rfl ?_
  refine v_getI hV (pc := 5) dX12_term_5 fo_12_4 rfl k0_53 own_53 ?_
  refine g_iconst (v := (-1)) (pc := 8) dX12_term_8 (by decide) ?_
  refine g_icmp_ne (tgt := 19) (pc := 9) dX12_term_9 (by decide) (fun c11 => ?_) (fun c11 => ?_)
  · rw [if_neg c11] at h
    refine g_iconst (v := (-1)) (pc := 19) dX12_term_19 (by decide) ?_
    exact t_Md_term_20 hV hD0 hrc h
  · rw [if_pos c11] at h
    refine g_aload_n (pc := 12) dX12_term_12 rfl ?_
    obtain ⟨q10, hq10, h⟩ := bnd h
    refine v_callVi hV (Mc := mX12_look) (v := q10.1) (S1 := q10.2) (As := []) (rest := []) (q := (RX12, TX12, 58)) (pc := 13) dX12_term_13 mK_X12_152 mf_X12_look rfl k0_53 rfl rfl rfl (Nat.le_of_ble_eq_true rfl) ⟨by show 1 + 1 ≤ D0 + 1; omega, by show 8 + (1 + 11) + 64 * 1 ≤ 64 * (D0 + 1); omega⟩ (r_Md_look hV hq10) ?_
    refine g_goto (tgt := 20) (pc := 16) dX12_term_16 (by decide) ?_
    exact t_Md_term_20 hV hD0 hrc h
def Md_atom_89 (rc : Nat → Sm → Option Sm) (S : Sm) : Option (Sm) := (some S)
set_option maxRecDepth 4000 in
theorem t_Md_atom_89 {V : Sm → Wd} (hV : VwT V) {D0 : Nat} (hD0 : 2 ≤ D0) {rc : Nat → Sm → Option Sm} (hrc : (∀ (S q : Sm), rc 0 S = some q → Runs D0 mX12_sum [.ref 53] (V S) none (V q) 0 0) ∧ (∀ (S q : Sm), rc 1 S = some q → Runs D0 mX12_term [.ref 53] (V S) none (V q) 0 0) ∧ (∀ (S q : Sm), rc 2 S = some q → Runs D0 mX12_atom [.ref 53] (V S) none (V q) 0 0)) {l : Launch} {Γ : Gm}  {S : Sm} {q : Sm} (h : Md_atom_89 rc S = some q) : G mX12_atom l Γ (rmD (D0 + 1) 0 0) (mQ Γ none (V q) 0 0) 0 0 89 [none, none] [] (V S) := by
  unfold Md_atom_89 at h
  cases h
  exact g_vret (pc := 89) dX12_atom_89 rfl (Nat.le_refl _) (Nat.le_refl _)
def Md_atom (rc : Nat → Sm → Option Sm) (S : Sm) : Option (Sm) := ((Md_look S).bind fun q1 => (if (Md_isDigit q1.1) = 0 then (if (Md_letterOf q1.1) = ((-1)) then (if q1.1 = 91 then (app (Md_opens q1.2) fun q3 => (if (gi q3 53 4) = ((-1)) then ((rc 0 q3).bind fun q4 => ((Md_closes 93 q4).bind fun q5 => (Md_atom_89 rc q5))) else (Md_atom_89 rc q3))) else (app (Md_bad q1.2) fun q2 => (Md_atom_89 rc q2))) else ((Md_put 1 (Md_letterOf q1.1) (si q1.2 53 3 ((gi q1.2 53 3) + 1))).bind fun q8 => (Md_atom_89 rc q8))) else ((Md_plainNumber q1.2).bind fun q10 => ((Md_put 0 q10.1 q10.2).bind fun q11 => (Md_atom_89 rc q11)))))
set_option maxRecDepth 4000 in
theorem rb_Md_atom {V : Sm → Wd} (hV : VwT V) {D0 : Nat} (hD0 : 2 ≤ D0) {rc : Nat → Sm → Option Sm} (hrc : (∀ (S q : Sm), rc 0 S = some q → Runs D0 mX12_sum [.ref 53] (V S) none (V q) 0 0) ∧ (∀ (S q : Sm), rc 1 S = some q → Runs D0 mX12_term [.ref 53] (V S) none (V q) 0 0) ∧ (∀ (S q : Sm), rc 2 S = some q → Runs D0 mX12_atom [.ref 53] (V S) none (V q) 0 0))  {S : Sm} {q : Sm} (h : Md_atom rc S = some q) : Runs (D0 + 1) mX12_atom [.ref 53] (V S) none (V q) 0 0 := by
  unfold Md_atom at h
  refine Runs.of2 [some (.ref 53), none] 1 rfl rfl (Nat.le_of_ble_eq_true rfl) (fun l Γ => ?_)
  refine g_aload_n (pc := 0) dX12_atom_0 rfl ?_
  obtain ⟨q1, hq1, h⟩ := bnd h
  refine v_callVi hV (Mc := mX12_look) (v := q1.1) (S1 := q1.2) (As := []) (rest := []) (q := (RX12, TX12, 58)) (pc := 1) dX12_atom_1 mK_X12_152 mf_X12_look rfl k0_53 rfl rfl rfl (Nat.le_of_ble_eq_true rfl) ⟨by show 1 + 1 ≤ D0 + 1; omega, by show 8 + (1 + 11) + 64 * 1 ≤ 64 * (D0 + 1); omega⟩ (r_Md_look hV hq1) ?_
  refine g_istore_n (ls1 := [some (.ref 53), some (.int q1.1)]) (pc := 4) dX12_atom_4 (by decide) rfl ?_
  refine g_iload_n (pc := 5) dX12_atom_5 rfl ?_
  refine v_callSi (Mc := mX12_isDigit) (v := Md_isDigit q1.1) (S1 := q1.2) (As := [.int q1.1]) (rest := []) (pc := 6) dX12_atom_6 mK_X12_155 mf_X12_isDigit rfl rfl (Nat.le_of_ble_eq_true rfl) ⟨by show 0 + 1 ≤ D0 + 1; omega, by show 8 + (1 + 11) + 64 * 0 ≤ 64 * (D0 + 1); omega⟩ (r_Md_isDigit hV rfl) ?_
  refine g_if_eq (tgt := 24) (pc := 9) dX12_atom_9 (by decide) (fun c12 => ?_) (fun c12 => ?_)
  · rw [if_pos c12] at h
    refine g_iload_n (pc := 24) dX12_atom_24 rfl ?_
    refine v_callSi (Mc := mX12_letterOf) (v := Md_letterOf q1.1) (S1 := q1.2) (As := [.int q1.1]) (rest := []) (pc := 25) dX12_atom_25 mK_X12_166 mf_X12_letterOf rfl rfl (Nat.le_of_ble_eq_true rfl) ⟨by show 0 + 1 ≤ D0 + 1; omega, by show 8 + (1 + 11) + 64 * 0 ≤ 64 * (D0 + 1); omega⟩ (r_Md_letterOf hV rfl) ?_
    refine g_iconst (v := (-1)) (pc := 28) dX12_atom_28 (by decide) ?_
    refine g_icmp_eq (tgt := 54) (pc := 29) dX12_atom_29 (by decide) (fun c9 => ?_) (fun c9 => ?_)
    · rw [if_pos c9] at h
      refine g_iload_n (pc := 54) dX12_atom_54 rfl ?_
      refine g_bipush (v := 91) (pc := 55) dX12_atom_55 (by decide) ?_
      refine g_icmp_ne (tgt := 85) (pc := 57) dX12_atom_57 (by decide) (fun c7 => ?_) (fun c7 => ?_)
      · rw [if_neg c7] at h
        refine g_aload_n (pc := 85) dX12_atom_85 rfl ?_
        obtain ⟨q2, hq2, h⟩ := app_of h
        refine v_callVv hV (Mc := mX12_bad) (S1 := q2) (As := []) (rest := []) (q := (RX12, TX12, 58)) (pc := 86) dX12_atom_86 mK_X12_149 mf_X12_bad rfl k0_53 rfl rfl rfl (Nat.le_of_ble_eq_true rfl) ⟨by show 0 + 1 ≤ D0 + 1; omega, by show 8 + (1 + 11) + 64 * 0 ≤ 64 * (D0 + 1); omega⟩ (r_Md_bad hV hq2) ?_
        refine g_wk [false, false] rfl ?_
        exact t_Md_atom_89 hV hD0 hrc h
      · rw [if_pos c7] at h
        refine g_aload_n (pc := 60) dX12_atom_60 rfl ?_
        obtain ⟨q3, hq3, h⟩ := app_of h
        refine v_callVv hV (Mc := mX12_opens) (S1 := q3) (As := []) (rest := []) (q := (RX12, TX12, 58)) (pc := 61) dX12_atom_61 mK_X12_170 mf_X12_opens rfl k0_53 rfl rfl rfl (Nat.le_of_ble_eq_true rfl) ⟨by show 1 + 1 ≤ D0 + 1; omega, by show 8 + (1 + 11) + 64 * 1 ≤ 64 * (D0 + 1); omega⟩ (r_Md_opens hV hq3) ?_
        refine g_aload_n (pc := 64) dX12_atom_64 rfl ?_
        refine v_getI hV (pc := 65) dX12_atom_65 fo_12_4 rfl k0_53 own_53 ?_
        refine g_iconst (v := (-1)) (pc := 68) dX12_atom_68 (by decide) ?_
        refine g_icmp_ne (tgt := 89) (pc := 69) dX12_atom_69 (by decide) (fun c6 => ?_) (fun c6 => ?_)
        · rw [if_neg c6] at h
          refine g_wk [false, false] rfl ?_
          exact t_Md_atom_89 hV hD0 hrc h
        · rw [if_pos c6] at h
          refine g_aload_n (pc := 72) dX12_atom_72 rfl ?_
          obtain ⟨q4, hq4, h⟩ := bnd h
          refine v_callVv hV (Mc := mX12_sum) (S1 := q4) (As := []) (rest := []) (q := (RX12, TX12, 58)) (pc := 73) dX12_atom_73 mK_X12_173 mf_X12_sum rfl k0_53 rfl rfl rfl (Nat.le_of_ble_eq_true rfl) ⟨by show D0 + 1 ≤ D0 + 1; omega, by show 8 + (2 + 11) + 64 * D0 ≤ 64 * (D0 + 1); omega⟩ (hrc.1 _ _ hq4) ?_
          refine g_aload_n (pc := 76) dX12_atom_76 rfl ?_
          refine g_bipush (v := 93) (pc := 77) dX12_atom_77 (by decide) ?_
          obtain ⟨q5, hq5, h⟩ := bnd h
          refine v_callVv hV (Mc := mX12_closes) (S1 := q5) (As := [.int 93]) (rest := []) (q := (RX12, TX12, 58)) (pc := 79) dX12_atom_79 mK_X12_176 mf_X12_closes rfl k0_53 rfl rfl rfl (Nat.le_of_ble_eq_true rfl) ⟨by show 2 + 1 ≤ D0 + 1; omega, by show 8 + (2 + 11) + 64 * 2 ≤ 64 * (D0 + 1); omega⟩ (r_Md_closes hV hq5) ?_
          refine g_goto (tgt := 89) (pc := 82) dX12_atom_82 (by decide) ?_
          refine g_wk [false, false] rfl ?_
          exact t_Md_atom_89 hV hD0 hrc h
    · rw [if_neg c9] at h
      refine g_aload_n (pc := 32) dX12_atom_32 rfl ?_
      refine g_dup (pc := 33) dX12_atom_33 rfl ?_
      refine v_getI hV (pc := 34) dX12_atom_34 fo_12_3 rfl k0_53 own_53 ?_
      refine g_iconst (v := 1) (pc := 37) dX12_atom_37 (by decide) ?_
      refine g_iadd (pc := 38) dX12_atom_38 ?_
      refine v_putI hV (pc := 39) dX12_atom_39 fo_12_3 rfl k0_53 own_53 rfl ?_
      refine g_aload_n (pc := 42) dX12_atom_42 rfl ?_
      refine g_iconst (v := 1) (pc := 43) dX12_atom_43 (by decide) ?_
      refine g_iload_n (pc := 44) dX12_atom_44 rfl ?_
      refine v_callSi (Mc := mX12_letterOf) (v := Md_letterOf q1.1) (S1 := si q1.2 53 3 ((gi q1.2 53 3) + 1)) (As := [.int q1.1]) (rest := [.int 1, .ref 53]) (pc := 45) dX12_atom_45 mK_X12_166 mf_X12_letterOf rfl rfl (Nat.le_of_ble_eq_true rfl) ⟨by show 0 + 1 ≤ D0 + 1; omega, by show 8 + (1 + 11) + 64 * 0 ≤ 64 * (D0 + 1); omega⟩ (r_Md_letterOf hV rfl) ?_
      obtain ⟨q8, hq8, h⟩ := bnd h
      refine v_callVv hV (Mc := mX12_put) (S1 := q8) (As := [.int 1, .int (Md_letterOf q1.1)]) (rest := []) (q := (RX12, TX12, 58)) (pc := 48) dX12_atom_48 mK_X12_162 mf_X12_put rfl k0_53 rfl rfl rfl (Nat.le_of_ble_eq_true rfl) ⟨by show 0 + 1 ≤ D0 + 1; omega, by show 8 + (3 + 11) + 64 * 0 ≤ 64 * (D0 + 1); omega⟩ (r_Md_put hV hq8) ?_
      refine g_goto (tgt := 89) (pc := 51) dX12_atom_51 (by decide) ?_
      refine g_wk [false, false] rfl ?_
      exact t_Md_atom_89 hV hD0 hrc h
  · rw [if_neg c12] at h
    refine g_aload_n (pc := 12) dX12_atom_12 rfl ?_
    refine g_iconst (v := 0) (pc := 13) dX12_atom_13 (by decide) ?_
    refine g_aload_n (pc := 14) dX12_atom_14 rfl ?_
    obtain ⟨q10, hq10, h⟩ := bnd h
    refine v_callVi hV (Mc := mX12_plainNumber) (v := q10.1) (S1 := q10.2) (As := []) (rest := [.int 0, .ref 53]) (q := (RX12, TX12, 58)) (pc := 15) dX12_atom_15 mK_X12_159 mf_X12_plainNumber rfl k0_53 rfl rfl rfl (Nat.le_of_ble_eq_true rfl) ⟨by show 1 + 1 ≤ D0 + 1; omega, by show 8 + (3 + 11) + 64 * 1 ≤ 64 * (D0 + 1); omega⟩ (r_Md_plainNumber hV hq10) ?_
    obtain ⟨q11, hq11, h⟩ := bnd h
    refine v_callVv hV (Mc := mX12_put) (S1 := q11) (As := [.int 0, .int q10.1]) (rest := []) (q := (RX12, TX12, 58)) (pc := 18) dX12_atom_18 mK_X12_162 mf_X12_put rfl k0_53 rfl rfl rfl (Nat.le_of_ble_eq_true rfl) ⟨by show 0 + 1 ≤ D0 + 1; omega, by show 8 + (3 + 11) + 64 * 0 ≤ 64 * (D0 + 1); omega⟩ (r_Md_put hV hq11) ?_
    refine g_goto (tgt := 89) (pc := 21) dX12_atom_21 (by decide) ?_
    refine g_wk [false, false] rfl ?_
    exact t_Md_atom_89 hV hD0 hrc h
def fMs : Nat → Nat → Sm → Option Sm
  | 0, _, _ => none
  | D + 1, i, S => if i = 0 then Md_sum (fMs D) S else if i = 1 then Md_term (fMs D) S else Md_atom (fMs D) S
set_option maxRecDepth 4000 in
theorem fMs_ok {V : Sm → Wd} (hV : VwT V) : ∀ D : Nat, (∀ (S q : Sm), fMs D 0 S = some q → Runs (2 + D) mX12_sum [.ref 53] (V S) none (V q) 0 0) ∧ (∀ (S q : Sm), fMs D 1 S = some q → Runs (2 + D) mX12_term [.ref 53] (V S) none (V q) 0 0) ∧ (∀ (S q : Sm), fMs D 2 S = some q → Runs (2 + D) mX12_atom [.ref 53] (V S) none (V q) 0 0)
  | 0 => ⟨fun _ _ h => (by cases h), fun _ _ h => (by cases h), fun _ _ h => (by cases h)⟩
  | D + 1 => ⟨fun S q h => rb_Md_sum hV (D0 := 2 + D) (by omega) (fMs_ok hV D) h, fun S q h => rb_Md_term hV (D0 := 2 + D) (by omega) (fMs_ok hV D) h, fun S q h => rb_Md_atom hV (D0 := 2 + D) (by omega) (fMs_ok hV D) h⟩
def Md_sum_r  (S : Sm) : Option Sm := fMs 40 0 S
set_option maxRecDepth 4000 in
theorem r_Md_sum_r {V : Sm → Wd} (hV : VwT V)  {S q : Sm} (h : Md_sum_r S = some q) : Runs 42 mX12_sum [.ref 53] (V S) none (V q) 0 0 := (fMs_ok hV 40).1 _ _ h
def Md_term_r  (S : Sm) : Option Sm := fMs 40 1 S
set_option maxRecDepth 4000 in
theorem r_Md_term_r {V : Sm → Wd} (hV : VwT V)  {S q : Sm} (h : Md_term_r S = some q) : Runs 42 mX12_term [.ref 53] (V S) none (V q) 0 0 := (fMs_ok hV 40).2.1 _ _ h
def Md_atom_r  (S : Sm) : Option Sm := fMs 40 2 S
set_option maxRecDepth 4000 in
theorem r_Md_atom_r {V : Sm → Wd} (hV : VwT V)  {S q : Sm} (h : Md_atom_r S = some q) : Runs 42 mX12_atom [.ref 53] (V S) none (V q) 0 0 := (fMs_ok hV 40).2.2 _ _ h
def Md_isSign_23 (s0 : Int32) : Int32 := (s0 &&& 1)
set_option maxRecDepth 4000 in
theorem t_Md_isSign_23 {V : Sm → Wd} (hV : VwT V) {l : Launch} {Γ : Gm} {s0 : Int32} {S : Sm} {q : Int32} (h : Md_isSign_23 s0 = q) : G mX12_isSign l Γ (rmD 0 0 0) (mQ Γ (some (.int q)) (V S) 0 0) 0 0 23 [none] [.int s0] (V S) := by
  unfold Md_isSign_23 at h
  subst h
  exact g_iret (pc := 23) dX12_isSign_23 rfl rfl (Nat.le_refl _) (Nat.le_refl _)
def Md_isSign_18  : Int32 := (Md_isSign_23 1)
set_option maxRecDepth 4000 in
theorem t_Md_isSign_18 {V : Sm → Wd} (hV : VwT V) {l : Launch} {Γ : Gm}  {S : Sm} {q : Int32} (h : Md_isSign_18 = q) : G mX12_isSign l Γ (rmD 0 0 0) (mQ Γ (some (.int q)) (V S) 0 0) 0 0 18 [none] [] (V S) := by
  unfold Md_isSign_18 at h
  refine g_iconst (v := 1) (pc := 18) dX12_isSign_18 (by decide) ?_
  refine g_goto (tgt := 23) (pc := 19) dX12_isSign_19 (by decide) ?_
  exact t_Md_isSign_23 hV h
def Md_isSign (v0 : Int32) : Int32 := (if v0 = 61 then Md_isSign_18 else (if v0 = 60 then Md_isSign_18 else (if v0 = 62 then Md_isSign_18 else (Md_isSign_23 0))))
set_option maxRecDepth 4000 in
theorem r_Md_isSign {V : Sm → Wd} (hV : VwT V) {v0 : Int32} {S : Sm} {q : Int32} (h : Md_isSign v0 = q) : Runs 0 mX12_isSign [.int v0] (V S) (some (.int q)) (V S) 0 0 := by
  unfold Md_isSign at h
  refine Runs.of2 [some (.int v0)] 0 rfl rfl (Nat.le_of_ble_eq_true rfl) (fun l Γ => ?_)
  refine g_iload_n (pc := 0) dX12_isSign_0 rfl ?_
  refine g_bipush (v := 61) (pc := 1) dX12_isSign_1 (by decide) ?_
  refine g_icmp_eq (tgt := 18) (pc := 3) dX12_isSign_3 (by decide) (fun c3 => ?_) (fun c3 => ?_)
  · rw [if_pos c3] at h
    refine g_wk [false] rfl ?_
    exact t_Md_isSign_18 hV h
  · rw [if_neg c3] at h
    refine g_iload_n (pc := 6) dX12_isSign_6 rfl ?_
    refine g_bipush (v := 60) (pc := 7) dX12_isSign_7 (by decide) ?_
    refine g_icmp_eq (tgt := 18) (pc := 9) dX12_isSign_9 (by decide) (fun c2 => ?_) (fun c2 => ?_)
    · rw [if_pos c2] at h
      refine g_wk [false] rfl ?_
      exact t_Md_isSign_18 hV h
    · rw [if_neg c2] at h
      refine g_iload_n (pc := 12) dX12_isSign_12 rfl ?_
      refine g_bipush (v := 62) (pc := 13) dX12_isSign_13 (by decide) ?_
      refine g_icmp_ne (tgt := 22) (pc := 15) dX12_isSign_15 (by decide) (fun c1 => ?_) (fun c1 => ?_)
      · rw [if_neg c1] at h
        refine g_iconst (v := 0) (pc := 22) dX12_isSign_22 (by decide) ?_
        refine g_wk [false] rfl ?_
        exact t_Md_isSign_23 hV h
      · rw [if_pos c1] at h
        refine g_wk [false] rfl ?_
        exact t_Md_isSign_18 hV h
def Md_compare_68 (s1 : Int32) (S : Sm) : Option (Sm) := ((Md_put s1 0 S).bind fun q2 => (some q2))
set_option maxRecDepth 4000 in
theorem t_Md_compare_68 {V : Sm → Wd} (hV : VwT V) {l : Launch} {Γ : Gm} {s1 : Int32} {S : Sm} {q : Sm} (h : Md_compare_68 s1 S = some q) : G mX12_compare l Γ (rmD 43 0 0) (mQ Γ none (V q) 0 0) 0 0 68 [none, none] [.int s1, .ref 53] (V S) := by
  unfold Md_compare_68 at h
  refine g_iconst (v := 0) (pc := 68) dX12_compare_68 (by decide) ?_
  obtain ⟨q2, hq2, h⟩ := bnd h
  refine v_callVv hV (Mc := mX12_put) (S1 := q2) (As := [.int s1, .int 0]) (rest := []) (q := (RX12, TX12, 58)) (pc := 69) dX12_compare_69 mK_X12_162 mf_X12_put rfl k0_53 rfl rfl rfl (Nat.le_of_ble_eq_true rfl) ⟨Nat.le_of_ble_eq_true rfl, Nat.le_of_ble_eq_true rfl⟩ (r_Md_put hV hq2) ?_
  cases h
  exact g_vret (pc := 72) dX12_compare_72 rfl (Nat.le_refl _) (Nat.le_refl _)
def Md_compare_16 (s0 : Int32) (S : Sm) : Option (Sm) := (if (Md_isSign s0) = 0 then (app (Md_bad S) fun q5 => (some q5)) else ((Md_sum_r (si S 53 3 ((gi S 53 3) + 1))).bind fun q1 => (if s0 = 61 then (Md_compare_68 6 q1) else (if s0 = 60 then (Md_compare_68 7 q1) else (Md_compare_68 8 q1)))))
set_option maxRecDepth 4000 in
theorem t_Md_compare_16 {V : Sm → Wd} (hV : VwT V) {l : Launch} {Γ : Gm} {s0 : Int32} {S : Sm} {q : Sm} (h : Md_compare_16 s0 S = some q) : G mX12_compare l Γ (rmD 43 0 0) (mQ Γ none (V q) 0 0) 0 0 16 [some (.ref 53), none] [.int s0] (V S) := by
  unfold Md_compare_16 at h
  refine g_istore_n (ls1 := [some (.ref 53), some (.int s0)]) (pc := 16) dX12_compare_16 (by decide) rfl ?_
  refine g_iload_n (pc := 17) dX12_compare_17 rfl ?_
  refine v_callSi (Mc := mX12_isSign) (v := Md_isSign s0) (S1 := S) (As := [.int s0]) (rest := []) (pc := 18) dX12_compare_18 mK_X12_186 mf_X12_isSign rfl rfl (Nat.le_of_ble_eq_true rfl) ⟨Nat.le_of_ble_eq_true rfl, Nat.le_of_ble_eq_true rfl⟩ (r_Md_isSign hV rfl) ?_
  refine g_if_ne (tgt := 29) (pc := 21) dX12_compare_21 (by decide) (fun c6 => ?_) (fun c6 => ?_)
  · rw [if_neg c6] at h
    refine g_aload_n (pc := 29) dX12_compare_29 rfl ?_
    refine g_dup (pc := 30) dX12_compare_30 rfl ?_
    refine v_getI hV (pc := 31) dX12_compare_31 fo_12_3 rfl k0_53 own_53 ?_
    refine g_iconst (v := 1) (pc := 34) dX12_compare_34 (by decide) ?_
    refine g_iadd (pc := 35) dX12_compare_35 ?_
    refine v_putI hV (pc := 36) dX12_compare_36 fo_12_3 rfl k0_53 own_53 rfl ?_
    refine g_aload_n (pc := 39) dX12_compare_39 rfl ?_
    obtain ⟨q1, hq1, h⟩ := bnd h
    refine v_callVv hV (Mc := mX12_sum) (S1 := q1) (As := []) (rest := []) (q := (RX12, TX12, 58)) (pc := 40) dX12_compare_40 mK_X12_173 mf_X12_sum rfl k0_53 rfl rfl rfl (Nat.le_of_ble_eq_true rfl) ⟨Nat.le_of_ble_eq_true rfl, Nat.le_of_ble_eq_true rfl⟩ (r_Md_sum_r hV hq1) ?_
    refine g_aload_n (pc := 43) dX12_compare_43 rfl ?_
    refine g_iload_n (pc := 44) dX12_compare_44 rfl ?_
    refine g_bipush (v := 61) (pc := 45) dX12_compare_45 (by decide) ?_
    refine g_icmp_ne (tgt := 55) (pc := 47) dX12_compare_47 (by decide) (fun c4 => ?_) (fun c4 => ?_)
    · rw [if_neg c4] at h
      refine g_iload_n (pc := 55) dX12_compare_55 rfl ?_
      refine g_bipush (v := 60) (pc := 56) dX12_compare_56 (by decide) ?_
      refine g_icmp_ne (tgt := 66) (pc := 58) dX12_compare_58 (by decide) (fun c3 => ?_) (fun c3 => ?_)
      · rw [if_neg c3] at h
        refine g_bipush (v := 8) (pc := 66) dX12_compare_66 (by decide) ?_
        refine g_wk [false, false] rfl ?_
        exact t_Md_compare_68 hV h
      · rw [if_pos c3] at h
        refine g_bipush (v := 7) (pc := 61) dX12_compare_61 (by decide) ?_
        refine g_goto (tgt := 68) (pc := 63) dX12_compare_63 (by decide) ?_
        refine g_wk [false, false] rfl ?_
        exact t_Md_compare_68 hV h
    · rw [if_pos c4] at h
      refine g_bipush (v := 6) (pc := 50) dX12_compare_50 (by decide) ?_
      refine g_goto (tgt := 68) (pc := 52) dX12_compare_52 (by decide) ?_
      refine g_wk [false, false] rfl ?_
      exact t_Md_compare_68 hV h
  · rw [if_pos c6] at h
    refine g_aload_n (pc := 24) dX12_compare_24 rfl ?_
    obtain ⟨q5, hq5, h⟩ := app_of h
    refine v_callVv hV (Mc := mX12_bad) (S1 := q5) (As := []) (rest := []) (q := (RX12, TX12, 58)) (pc := 25) dX12_compare_25 mK_X12_149 mf_X12_bad rfl k0_53 rfl rfl rfl (Nat.le_of_ble_eq_true rfl) ⟨Nat.le_of_ble_eq_true rfl, Nat.le_of_ble_eq_true rfl⟩ (r_Md_bad hV hq5) ?_
    cases h
    exact g_vret (pc := 28) dX12_compare_28 rfl (Nat.le_refl _) (Nat.le_refl _)
def Md_compare (S : Sm) : Option (Sm) := (if (gi S 53 4) = ((-1)) then ((Md_look S).bind fun q7 => (Md_compare_16 q7.1 q7.2)) else (Md_compare_16 ((-1)) S))
set_option maxRecDepth 4000 in
theorem r_Md_compare {V : Sm → Wd} (hV : VwT V)  {S : Sm} {q : Sm} (h : Md_compare S = some q) : Runs 43 mX12_compare [.ref 53] (V S) none (V q) 0 0 := by
  unfold Md_compare at h
  refine Runs.of2 [some (.ref 53), none] 1 rfl rfl (Nat.le_of_ble_eq_true rfl) (fun l Γ => ?_)
  refine g_aload_n (pc := 0) dX12_compare_0 rfl ?_
  refine v_getI hV (pc := 1) dX12_compare_1 fo_12_4 rfl k0_53 own_53 ?_
  refine g_iconst (v := (-1)) (pc := 4) dX12_compare_4 (by decide) ?_
  refine g_icmp_ne (tgt := 15) (pc := 5) dX12_compare_5 (by decide) (fun c8 => ?_) (fun c8 => ?_)
  · rw [if_neg c8] at h
    refine g_iconst (v := (-1)) (pc := 15) dX12_compare_15 (by decide) ?_
    exact t_Md_compare_16 hV h
  · rw [if_pos c8] at h
    refine g_aload_n (pc := 8) dX12_compare_8 rfl ?_
    obtain ⟨q7, hq7, h⟩ := bnd h
    refine v_callVi hV (Mc := mX12_look) (v := q7.1) (S1 := q7.2) (As := []) (rest := []) (q := (RX12, TX12, 58)) (pc := 9) dX12_compare_9 mK_X12_152 mf_X12_look rfl k0_53 rfl rfl rfl (Nat.le_of_ble_eq_true rfl) ⟨Nat.le_of_ble_eq_true rfl, Nat.le_of_ble_eq_true rfl⟩ (r_Md_look hV hq7) ?_
    refine g_goto (tgt := 16) (pc := 12) dX12_compare_12 (by decide) ?_
    exact t_Md_compare_16 hV h
def Md_unit_94 (rc : Nat → Sm → Option Sm) (S : Sm) : Option (Sm) := (some S)
set_option maxRecDepth 4000 in
theorem t_Md_unit_94 {V : Sm → Wd} (hV : VwT V) {D0 : Nat} (hD0 : 43 ≤ D0) {rc : Nat → Sm → Option Sm} (hrc : (∀ (S q : Sm), rc 0 S = some q → Runs D0 mX12_unit [.ref 53] (V S) none (V q) 0 0) ∧ (∀ (S q : Sm), rc 1 S = some q → Runs D0 mX12_condition [.ref 53] (V S) none (V q) 0 0) ∧ (∀ (S q : Sm), rc 2 S = some q → Runs D0 mX12_goOnAnd [.ref 53] (V S) none (V q) 0 0) ∧ (∀ (S q : Sm), rc 3 S = some q → Runs D0 mX12_goOnOr [.ref 53] (V S) none (V q) 0 0)) {l : Launch} {Γ : Gm}  {S : Sm} {q : Sm} (h : Md_unit_94 rc S = some q) : G mX12_unit l Γ (rmD (D0 + 1) 0 0) (mQ Γ none (V q) 0 0) 0 0 94 [none, none] [] (V S) := by
  unfold Md_unit_94 at h
  cases h
  exact g_vret (pc := 94) dX12_unit_94 rfl (Nat.le_refl _) (Nat.le_refl _)
def Md_unit (rc : Nat → Sm → Option Sm) (S : Sm) : Option (Sm) := ((Md_look S).bind fun q1 => (if q1.1 = 33 then (app (Md_opens q1.2) fun q10 => (if (gi q10 53 4) = ((-1)) then ((rc 0 q10).bind fun q11 => ((Md_put 9 0 q11).bind fun q12 => (Md_unit_94 rc (si q12 53 5 ((gi q12 53 5) - 1))))) else (Md_unit_94 rc q10))) else (if q1.1 = 40 then (app (Md_opens q1.2) fun q5 => (if (gi q5 53 4) = ((-1)) then ((rc 1 q5).bind fun q6 => ((Md_closes 41 q6).bind fun q7 => (Md_unit_94 rc q7))) else (Md_unit_94 rc q5))) else ((Md_sum_r q1.2).bind fun q2 => (if (gi q2 53 4) = ((-1)) then ((Md_compare q2).bind fun q3 => (Md_unit_94 rc q3)) else (Md_unit_94 rc q2))))))
set_option maxRecDepth 4000 in
theorem rb_Md_unit {V : Sm → Wd} (hV : VwT V) {D0 : Nat} (hD0 : 43 ≤ D0) {rc : Nat → Sm → Option Sm} (hrc : (∀ (S q : Sm), rc 0 S = some q → Runs D0 mX12_unit [.ref 53] (V S) none (V q) 0 0) ∧ (∀ (S q : Sm), rc 1 S = some q → Runs D0 mX12_condition [.ref 53] (V S) none (V q) 0 0) ∧ (∀ (S q : Sm), rc 2 S = some q → Runs D0 mX12_goOnAnd [.ref 53] (V S) none (V q) 0 0) ∧ (∀ (S q : Sm), rc 3 S = some q → Runs D0 mX12_goOnOr [.ref 53] (V S) none (V q) 0 0))  {S : Sm} {q : Sm} (h : Md_unit rc S = some q) : Runs (D0 + 1) mX12_unit [.ref 53] (V S) none (V q) 0 0 := by
  unfold Md_unit at h
  refine Runs.of2 [some (.ref 53), none] 1 rfl rfl (Nat.le_of_ble_eq_true rfl) (fun l Γ => ?_)
  refine g_aload_n (pc := 0) dX12_unit_0 rfl ?_
  obtain ⟨q1, hq1, h⟩ := bnd h
  refine v_callVi hV (Mc := mX12_look) (v := q1.1) (S1 := q1.2) (As := []) (rest := []) (q := (RX12, TX12, 58)) (pc := 1) dX12_unit_1 mK_X12_152 mf_X12_look rfl k0_53 rfl rfl rfl (Nat.le_of_ble_eq_true rfl) ⟨by show 1 + 1 ≤ D0 + 1; omega, by show 8 + (1 + 11) + 64 * 1 ≤ 64 * (D0 + 1); omega⟩ (r_Md_look hV hq1) ?_
  refine g_istore_n (ls1 := [some (.ref 53), some (.int q1.1)]) (pc := 4) dX12_unit_4 (by decide) rfl ?_
  refine g_iload_n (pc := 5) dX12_unit_5 rfl ?_
  refine g_bipush (v := 33) (pc := 6) dX12_unit_6 (by decide) ?_
  refine g_icmp_ne (tgt := 47) (pc := 8) dX12_unit_8 (by decide) (fun c14 => ?_) (fun c14 => ?_)
  · rw [if_neg c14] at h
    refine g_iload_n (pc := 47) dX12_unit_47 rfl ?_
    refine g_bipush (v := 40) (pc := 48) dX12_unit_48 (by decide) ?_
    refine g_icmp_ne (tgt := 78) (pc := 50) dX12_unit_50 (by decide) (fun c9 => ?_) (fun c9 => ?_)
    · rw [if_neg c9] at h
      refine g_aload_n (pc := 78) dX12_unit_78 rfl ?_
      obtain ⟨q2, hq2, h⟩ := bnd h
      refine v_callVv hV (Mc := mX12_sum) (S1 := q2) (As := []) (rest := []) (q := (RX12, TX12, 58)) (pc := 79) dX12_unit_79 mK_X12_173 mf_X12_sum rfl k0_53 rfl rfl rfl (Nat.le_of_ble_eq_true rfl) ⟨by show 42 + 1 ≤ D0 + 1; omega, by show 8 + (2 + 11) + 64 * 42 ≤ 64 * (D0 + 1); omega⟩ (r_Md_sum_r hV hq2) ?_
      refine g_aload_n (pc := 82) dX12_unit_82 rfl ?_
      refine v_getI hV (pc := 83) dX12_unit_83 fo_12_4 rfl k0_53 own_53 ?_
      refine g_iconst (v := (-1)) (pc := 86) dX12_unit_86 (by decide) ?_
      refine g_icmp_ne (tgt := 94) (pc := 87) dX12_unit_87 (by decide) (fun c4 => ?_) (fun c4 => ?_)
      · rw [if_neg c4] at h
        refine g_wk [false, false] rfl ?_
        exact t_Md_unit_94 hV hD0 hrc h
      · rw [if_pos c4] at h
        refine g_aload_n (pc := 90) dX12_unit_90 rfl ?_
        obtain ⟨q3, hq3, h⟩ := bnd h
        refine v_callVv hV (Mc := mX12_compare) (S1 := q3) (As := []) (rest := []) (q := (RX12, TX12, 58)) (pc := 91) dX12_unit_91 mK_X12_195 mf_X12_compare rfl k0_53 rfl rfl rfl (Nat.le_of_ble_eq_true rfl) ⟨by show 43 + 1 ≤ D0 + 1; omega, by show 8 + (2 + 11) + 64 * 43 ≤ 64 * (D0 + 1); omega⟩ (r_Md_compare hV hq3) ?_
        refine g_wk [false, false] rfl ?_
        exact t_Md_unit_94 hV hD0 hrc h
    · rw [if_pos c9] at h
      refine g_aload_n (pc := 53) dX12_unit_53 rfl ?_
      obtain ⟨q5, hq5, h⟩ := app_of h
      refine v_callVv hV (Mc := mX12_opens) (S1 := q5) (As := []) (rest := []) (q := (RX12, TX12, 58)) (pc := 54) dX12_unit_54 mK_X12_170 mf_X12_opens rfl k0_53 rfl rfl rfl (Nat.le_of_ble_eq_true rfl) ⟨by show 1 + 1 ≤ D0 + 1; omega, by show 8 + (1 + 11) + 64 * 1 ≤ 64 * (D0 + 1); omega⟩ (r_Md_opens hV hq5) ?_
      refine g_aload_n (pc := 57) dX12_unit_57 rfl ?_
      refine v_getI hV (pc := 58) dX12_unit_58 fo_12_4 rfl k0_53 own_53 ?_
      refine g_iconst (v := (-1)) (pc := 61) dX12_unit_61 (by decide) ?_
      refine g_icmp_ne (tgt := 94) (pc := 62) dX12_unit_62 (by decide) (fun c8 => ?_) (fun c8 => ?_)
      · rw [if_neg c8] at h
        refine g_wk [false, false] rfl ?_
        exact t_Md_unit_94 hV hD0 hrc h
      · rw [if_pos c8] at h
        refine g_aload_n (pc := 65) dX12_unit_65 rfl ?_
        obtain ⟨q6, hq6, h⟩ := bnd h
        refine v_callVv hV (Mc := mX12_condition) (S1 := q6) (As := []) (rest := []) (q := (RX12, TX12, 58)) (pc := 66) dX12_unit_66 mK_X12_192 mf_X12_condition rfl k0_53 rfl rfl rfl (Nat.le_of_ble_eq_true rfl) ⟨by show D0 + 1 ≤ D0 + 1; omega, by show 8 + (1 + 11) + 64 * D0 ≤ 64 * (D0 + 1); omega⟩ (hrc.2.1 _ _ hq6) ?_
        refine g_aload_n (pc := 69) dX12_unit_69 rfl ?_
        refine g_bipush (v := 41) (pc := 70) dX12_unit_70 (by decide) ?_
        obtain ⟨q7, hq7, h⟩ := bnd h
        refine v_callVv hV (Mc := mX12_closes) (S1 := q7) (As := [.int 41]) (rest := []) (q := (RX12, TX12, 58)) (pc := 72) dX12_unit_72 mK_X12_176 mf_X12_closes rfl k0_53 rfl rfl rfl (Nat.le_of_ble_eq_true rfl) ⟨by show 2 + 1 ≤ D0 + 1; omega, by show 8 + (2 + 11) + 64 * 2 ≤ 64 * (D0 + 1); omega⟩ (r_Md_closes hV hq7) ?_
        refine g_goto (tgt := 94) (pc := 75) dX12_unit_75 (by decide) ?_
        refine g_wk [false, false] rfl ?_
        exact t_Md_unit_94 hV hD0 hrc h
  · rw [if_pos c14] at h
    refine g_aload_n (pc := 11) dX12_unit_11 rfl ?_
    obtain ⟨q10, hq10, h⟩ := app_of h
    refine v_callVv hV (Mc := mX12_opens) (S1 := q10) (As := []) (rest := []) (q := (RX12, TX12, 58)) (pc := 12) dX12_unit_12 mK_X12_170 mf_X12_opens rfl k0_53 rfl rfl rfl (Nat.le_of_ble_eq_true rfl) ⟨by show 1 + 1 ≤ D0 + 1; omega, by show 8 + (1 + 11) + 64 * 1 ≤ 64 * (D0 + 1); omega⟩ (r_Md_opens hV hq10) ?_
    refine g_aload_n (pc := 15) dX12_unit_15 rfl ?_
    refine v_getI hV (pc := 16) dX12_unit_16 fo_12_4 rfl k0_53 own_53 ?_
    refine g_iconst (v := (-1)) (pc := 19) dX12_unit_19 (by decide) ?_
    refine g_icmp_ne (tgt := 94) (pc := 20) dX12_unit_20 (by decide) (fun c13 => ?_) (fun c13 => ?_)
    · rw [if_neg c13] at h
      refine g_wk [false, false] rfl ?_
      exact t_Md_unit_94 hV hD0 hrc h
    · rw [if_pos c13] at h
      refine g_aload_n (pc := 23) dX12_unit_23 rfl ?_
      obtain ⟨q11, hq11, h⟩ := bnd h
      refine v_callVv hV (Mc := mX12_unit) (S1 := q11) (As := []) (rest := []) (q := (RX12, TX12, 58)) (pc := 24) dX12_unit_24 mK_X12_189 mf_X12_unit rfl k0_53 rfl rfl rfl (Nat.le_of_ble_eq_true rfl) ⟨by show D0 + 1 ≤ D0 + 1; omega, by show 8 + (2 + 11) + 64 * D0 ≤ 64 * (D0 + 1); omega⟩ (hrc.1 _ _ hq11) ?_
      refine g_aload_n (pc := 27) dX12_unit_27 rfl ?_
      refine g_bipush (v := 9) (pc := 28) dX12_unit_28 (by decide) ?_
      refine g_iconst (v := 0) (pc := 30) dX12_unit_30 (by decide) ?_
      obtain ⟨q12, hq12, h⟩ := bnd h
      refine v_callVv hV (Mc := mX12_put) (S1 := q12) (As := [.int 9, .int 0]) (rest := []) (q := (RX12, TX12, 58)) (pc := 31) dX12_unit_31 mK_X12_162 mf_X12_put rfl k0_53 rfl rfl rfl (Nat.le_of_ble_eq_true rfl) ⟨by show 0 + 1 ≤ D0 + 1; omega, by show 8 + (3 + 11) + 64 * 0 ≤ 64 * (D0 + 1); omega⟩ (r_Md_put hV hq12) ?_
      refine g_aload_n (pc := 34) dX12_unit_34 rfl ?_
      refine g_dup (pc := 35) dX12_unit_35 rfl ?_
      refine v_getI hV (pc := 36) dX12_unit_36 fo_12_5 rfl k0_53 own_53 ?_
      refine g_iconst (v := 1) (pc := 39) dX12_unit_39 (by decide) ?_
      refine g_isub (pc := 40) dX12_unit_40 ?_
      refine v_putI hV (pc := 41) dX12_unit_41 fo_12_5 rfl k0_53 own_53 rfl ?_
      refine g_goto (tgt := 94) (pc := 44) dX12_unit_44 (by decide) ?_
      refine g_wk [false, false] rfl ?_
      exact t_Md_unit_94 hV hD0 hrc h
def Md_condition (rc : Nat → Sm → Option Sm) (S : Sm) : Option (Sm) := ((rc 0 S).bind fun q1 => ((rc 2 q1).bind fun q2 => ((rc 3 q2).bind fun q3 => (some q3))))
set_option maxRecDepth 4000 in
theorem rb_Md_condition {V : Sm → Wd} (hV : VwT V) {D0 : Nat} (hD0 : 43 ≤ D0) {rc : Nat → Sm → Option Sm} (hrc : (∀ (S q : Sm), rc 0 S = some q → Runs D0 mX12_unit [.ref 53] (V S) none (V q) 0 0) ∧ (∀ (S q : Sm), rc 1 S = some q → Runs D0 mX12_condition [.ref 53] (V S) none (V q) 0 0) ∧ (∀ (S q : Sm), rc 2 S = some q → Runs D0 mX12_goOnAnd [.ref 53] (V S) none (V q) 0 0) ∧ (∀ (S q : Sm), rc 3 S = some q → Runs D0 mX12_goOnOr [.ref 53] (V S) none (V q) 0 0))  {S : Sm} {q : Sm} (h : Md_condition rc S = some q) : Runs (D0 + 1) mX12_condition [.ref 53] (V S) none (V q) 0 0 := by
  unfold Md_condition at h
  refine Runs.of2 [some (.ref 53)] 0 rfl rfl (Nat.le_of_ble_eq_true rfl) (fun l Γ => ?_)
  refine g_aload_n (pc := 0) dX12_condition_0 rfl ?_
  obtain ⟨q1, hq1, h⟩ := bnd h
  refine v_callVv hV (Mc := mX12_unit) (S1 := q1) (As := []) (rest := []) (q := (RX12, TX12, 58)) (pc := 1) dX12_condition_1 mK_X12_189 mf_X12_unit rfl k0_53 rfl rfl rfl (Nat.le_of_ble_eq_true rfl) ⟨by show D0 + 1 ≤ D0 + 1; omega, by show 8 + (2 + 11) + 64 * D0 ≤ 64 * (D0 + 1); omega⟩ (hrc.1 _ _ hq1) ?_
  refine g_aload_n (pc := 4) dX12_condition_4 rfl ?_
  obtain ⟨q2, hq2, h⟩ := bnd h
  refine v_callVv hV (Mc := mX12_goOnAnd) (S1 := q2) (As := []) (rest := []) (q := (RX12, TX12, 58)) (pc := 5) dX12_condition_5 mK_X12_198 mf_X12_goOnAnd rfl k0_53 rfl rfl rfl (Nat.le_of_ble_eq_true rfl) ⟨by show D0 + 1 ≤ D0 + 1; omega, by show 8 + (1 + 11) + 64 * D0 ≤ 64 * (D0 + 1); omega⟩ (hrc.2.2.1 _ _ hq2) ?_
  refine g_aload_n (pc := 8) dX12_condition_8 rfl ?_
  obtain ⟨q3, hq3, h⟩ := bnd h
  refine v_callVv hV (Mc := mX12_goOnOr) (S1 := q3) (As := []) (rest := []) (q := (RX12, TX12, 58)) (pc := 9) dX12_condition_9 mK_X12_201 mf_X12_goOnOr rfl k0_53 rfl rfl rfl (Nat.le_of_ble_eq_true rfl) ⟨by show D0 + 1 ≤ D0 + 1; omega, by show 8 + (1 + 11) + 64 * D0 ≤ 64 * (D0 + 1); omega⟩ (hrc.2.2.2 _ _ hq3) ?_
  cases h
  exact g_vret (pc := 12) dX12_condition_12 rfl (Nat.le_refl _) (Nat.le_refl _)
