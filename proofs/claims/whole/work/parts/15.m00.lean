/-! ===== printed by program: methods as functions over a state, and their walks ===== -/
def hd_Tp_bytesIn_L5 (V : Sm → Wd) (l : Launch) (Γ : Gm) (rF : Option Value) (wF : Wd) (v0 : Int32) (S : Sm) (q : Int32 × Int32) : Prop := G mX9_bytesIn l Γ (rmD 0 0 0) (mQ Γ rF wF 0 0) 0 0 5 [some (.int v0), some (.int q.1), some (.int q.2)] [] (V S)
def ps_Tp_bytesIn_L5 (V : Sm → Wd) (l : Launch) (Γ : Gm) (rF : Option Value) (wF : Wd) (v0 : Int32) (S : Sm) (x : Int32) : Prop := (fun (a : Int32) => G mX9_bytesIn l Γ (rmD 0 0 0) (mQ Γ rF wF 0 0) 0 0 33 [none, some (.int a), none] [] (V S)) x
def Tp_bytesIn_25_L5 (v0 : Int32) (v2 : Int32) (s0 : Int32) (s1 : Int32) : Option ((Int32 × Int32) ⊕ (Int32)) := (some (.inl (s0 + s1, v2 + (-8))))
set_option maxRecDepth 4000 in
theorem t_Tp_bytesIn_25_L5 {V : Sm → Wd} (hV : VwC V) {l : Launch} {Γ : Gm} {v0 : Int32} {v2 : Int32} {s0 : Int32} {s1 : Int32} {rF : Option Value} {wF : Wd} {S : Sm} {o : (Int32 × Int32) ⊕ (Int32)} (h : Tp_bytesIn_25_L5 v0 v2 s0 s1 = some o) (hK : Sum.elim (hd_Tp_bytesIn_L5 V l Γ rF wF v0 S) (ps_Tp_bytesIn_L5 V l Γ rF wF v0 S) o) : G mX9_bytesIn l Γ (rmD 0 0 0) (mQ Γ rF wF 0 0) 0 0 25 [some (.int v0), none, some (.int v2)] [.int s1, .int s0] (V S) := by
  unfold Tp_bytesIn_25_L5 at h
  refine g_iadd (pc := 25) dX9_bytesIn_25 ?_
  refine g_istore_n (ls1 := [some (.int v0), some (.int (s0 + s1)), some (.int v2)]) (pc := 26) dX9_bytesIn_26 (by decide) rfl ?_
  refine g_iinc (v := v2 + (-8)) (ls1 := [some (.int v0), some (.int (s0 + s1)), some (.int (v2 + (-8)))]) (pc := 27) dX9_bytesIn_27 rfl rfl (by decide) rfl ?_
  refine g_goto (tgt := 5) (pc := 30) dX9_bytesIn_30 (by decide) ?_
  cases h
  exact hK
def Tp_bytesIn_L5 (v0 : Int32) (q : Int32 × Int32) : Option ((Int32 × Int32) ⊕ (Int32)) := (if q.2 < 0 then (some (.inr q.1)) else (if ((iUsh v0 q.2) &&& 255) = 0 then (Tp_bytesIn_25_L5 v0 q.2 q.1 0) else (Tp_bytesIn_25_L5 v0 q.2 q.1 1)))
set_option maxRecDepth 4000 in
theorem t_Tp_bytesIn_L5 {V : Sm → Wd} (hV : VwC V) {l : Launch} {Γ : Gm} {rF : Option Value} {wF : Wd} {v0 : Int32} {S : Sm} {q : Int32 × Int32} {o : (Int32 × Int32) ⊕ (Int32)} (h : Tp_bytesIn_L5 v0 q = some o) (hK : Sum.elim (hd_Tp_bytesIn_L5 V l Γ rF wF v0 S) (ps_Tp_bytesIn_L5 V l Γ rF wF v0 S) o) : hd_Tp_bytesIn_L5 V l Γ rF wF v0 S q := by
  unfold Tp_bytesIn_L5 at h
  unfold hd_Tp_bytesIn_L5
  refine g_iload_n (pc := 5) dX9_bytesIn_5 rfl ?_
  refine g_if_lt (tgt := 33) (pc := 6) dX9_bytesIn_6 (by decide) (fun c2 => ?_) (fun c2 => ?_)
  · rw [if_pos c2] at h
    refine g_wk [false, true, false] rfl ?_
    cases h
    exact hK
  · rw [if_neg c2] at h
    refine g_iload_n (pc := 9) dX9_bytesIn_9 rfl ?_
    refine g_iload_n (pc := 10) dX9_bytesIn_10 rfl ?_
    refine g_iload_n (pc := 11) dX9_bytesIn_11 rfl ?_
    refine g_iushr (pc := 12) dX9_bytesIn_12 ?_
    refine g_sipush (v := 255) (pc := 13) dX9_bytesIn_13 (by decide) ?_
    refine g_iand (pc := 16) dX9_bytesIn_16 ?_
    refine g_if_eq (tgt := 24) (pc := 17) dX9_bytesIn_17 (by decide) (fun c1 => ?_) (fun c1 => ?_)
    · rw [if_pos c1] at h
      refine g_iconst (v := 0) (pc := 24) dX9_bytesIn_24 (by decide) ?_
      refine g_wk [true, false, true] rfl ?_
      exact t_Tp_bytesIn_25_L5 hV h hK
    · rw [if_neg c1] at h
      refine g_iconst (v := 1) (pc := 20) dX9_bytesIn_20 (by decide) ?_
      refine g_goto (tgt := 25) (pc := 21) dX9_bytesIn_21 (by decide) ?_
      refine g_wk [true, false, true] rfl ?_
      exact t_Tp_bytesIn_25_L5 hV h hK
set_option maxRecDepth 4000 in
theorem w_Tp_bytesIn_L5 {V : Sm → Wd} (hV : VwC V) {l : Launch} {Γ : Gm} {rF : Option Value} {wF : Wd} {v0 : Int32} {S : Sm} {k : Nat} {q : Int32 × Int32} {o : Int32} (h : lpN (Tp_bytesIn_L5 v0) k q = some o) (hP : ps_Tp_bytesIn_L5 V l Γ rF wF v0 S o) : hd_Tp_bytesIn_L5 V l Γ rF wF v0 S q := lpN_ind2 (hd_Tp_bytesIn_L5 V l Γ rF wF v0 S) (ps_Tp_bytesIn_L5 V l Γ rF wF v0 S) (fun s o h hK => t_Tp_bytesIn_L5 hV h hK) k q o h hP
def Tp_bytesIn (v0 : Int32) : Option (Int32) := ((lpN (Tp_bytesIn_L5 v0) FU (0, 24)).bind fun q3 => (some q3))
set_option maxRecDepth 4000 in
theorem r_Tp_bytesIn {V : Sm → Wd} (hV : VwC V) {v0 : Int32} {S : Sm} {q : Int32} (h : Tp_bytesIn v0 = some q) : Runs 0 mX9_bytesIn [.int v0] (V S) (some (.int q)) (V S) 0 0 := by
  unfold Tp_bytesIn at h
  refine Runs.of2 [some (.int v0), none, none] 2 rfl rfl (Nat.le_of_ble_eq_true rfl) (fun l Γ => ?_)
  refine g_iconst (v := 0) (pc := 0) dX9_bytesIn_0 (by decide) ?_
  refine g_istore_n (ls1 := [some (.int v0), some (.int 0), none]) (pc := 1) dX9_bytesIn_1 (by decide) rfl ?_
  refine g_bipush (v := 24) (pc := 2) dX9_bytesIn_2 (by decide) ?_
  refine g_istore_n (ls1 := [some (.int v0), some (.int 0), some (.int 24)]) (pc := 4) dX9_bytesIn_4 (by decide) rfl ?_
  obtain ⟨q3, hqq3, h⟩ := bnd h
  refine w_Tp_bytesIn_L5 hV hqq3 ?_
  unfold ps_Tp_bytesIn_L5
  show G _ _ _ _ _ _ _ _ _ _ _
  refine g_iload_n (pc := 33) dX9_bytesIn_33 rfl ?_
  cases h
  exact g_iret (pc := 34) dX9_bytesIn_34 rfl rfl (Nat.le_refl _) (Nat.le_refl _)
def hd_Tp_append_L3 (V : Sm → Wd) (l : Launch) (Γ : Gm) (rF : Option Value) (wF : Wd) (v1 : Int32) (q : Int32 × Sm) : Prop := G mX9_append l Γ (rmD 1 0 0) (mQ Γ rF wF 0 0) 0 0 3 [some (.ref 8), some (.int v1), some (.int q.1), none] [] (V q.2)
def ps_Tp_append_L3 (V : Sm → Wd) (l : Launch) (Γ : Gm) (rF : Option Value) (wF : Wd) (v1 : Int32) (x : Sm) : Prop := (fun (a : Sm) => G mX9_append l Γ (rmD 1 0 0) (mQ Γ rF wF 0 0) 0 0 47 [none, none, none, none] [] (V a)) x
def Tp_append_41_L3 (v1 : Int32) (v2 : Int32) (S : Sm) : Option ((Int32 × Sm) ⊕ (Sm)) := (some (.inl (v2 + (-8), S)))
set_option maxRecDepth 4000 in
theorem t_Tp_append_41_L3 {V : Sm → Wd} (hV : VwC V) {l : Launch} {Γ : Gm} {v1 : Int32} {v2 : Int32} {rF : Option Value} {wF : Wd} {S : Sm} {o : (Int32 × Sm) ⊕ (Sm)} (h : Tp_append_41_L3 v1 v2 S = some o) (hK : Sum.elim (hd_Tp_append_L3 V l Γ rF wF v1) (ps_Tp_append_L3 V l Γ rF wF v1) o) : G mX9_append l Γ (rmD 1 0 0) (mQ Γ rF wF 0 0) 0 0 41 [some (.ref 8), some (.int v1), some (.int v2), none] [] (V S) := by
  unfold Tp_append_41_L3 at h
  refine g_iinc (v := v2 + (-8)) (ls1 := [some (.ref 8), some (.int v1), some (.int (v2 + (-8))), none]) (pc := 41) dX9_append_41 rfl rfl (by decide) rfl ?_
  refine g_goto (tgt := 3) (pc := 44) dX9_append_44 (by decide) ?_
  cases h
  exact hK
def Tp_append_L3 (v1 : Int32) (q : Int32 × Sm) : Option ((Int32 × Sm) ⊕ (Sm)) := (if q.1 < 0 then (some (.inr q.2)) else (if ((iUsh v1 q.1) &&& 255) = 0 then (Tp_append_41_L3 v1 q.1 q.2) else (app (puF q.2 9 240 (gi q.2 8 1) ((iUsh v1 q.1) &&& 255)) fun S1 => (Tp_append_41_L3 v1 q.1 (si S1 8 1 ((gi S1 8 1) + 1))))))
set_option maxRecDepth 4000 in
theorem t_Tp_append_L3 {V : Sm → Wd} (hV : VwC V) {l : Launch} {Γ : Gm} {rF : Option Value} {wF : Wd} {v1 : Int32} {q : Int32 × Sm} {o : (Int32 × Sm) ⊕ (Sm)} (h : Tp_append_L3 v1 q = some o) (hK : Sum.elim (hd_Tp_append_L3 V l Γ rF wF v1) (ps_Tp_append_L3 V l Γ rF wF v1) o) : hd_Tp_append_L3 V l Γ rF wF v1 q := by
  unfold Tp_append_L3 at h
  unfold hd_Tp_append_L3
  refine g_iload_n (pc := 3) dX9_append_3 rfl ?_
  refine g_if_lt (tgt := 47) (pc := 4) dX9_append_4 (by decide) (fun c3 => ?_) (fun c3 => ?_)
  · rw [if_pos c3] at h
    refine g_wk [false, false, false, false] rfl ?_
    cases h
    exact hK
  · rw [if_neg c3] at h
    refine g_iload_n (pc := 7) dX9_append_7 rfl ?_
    refine g_iload_n (pc := 8) dX9_append_8 rfl ?_
    refine g_iushr (pc := 9) dX9_append_9 ?_
    refine g_sipush (v := 255) (pc := 10) dX9_append_10 (by decide) ?_
    refine g_iand (pc := 13) dX9_append_13 ?_
    refine g_istore_n (ls1 := [some (.ref 8), some (.int v1), some (.int q.1), some (.int ((iUsh v1 q.1) &&& 255))]) (pc := 14) dX9_append_14 (by decide) rfl ?_
    refine g_iload_n (pc := 15) dX9_append_15 rfl ?_
    refine g_if_eq (tgt := 41) (pc := 16) dX9_append_16 (by decide) (fun c2 => ?_) (fun c2 => ?_)
    · rw [if_pos c2] at h
      refine g_wk [true, true, true, false] rfl ?_
      exact t_Tp_append_41_L3 hV h hK
    · rw [if_neg c2] at h
      refine g_aload_n (pc := 19) dX9_append_19 rfl ?_
      refine v_getR hV (pc := 20) dX9_append_20 fo_9_0 rfl k0_8 r0_8_0 ?_
      refine g_aload_n (pc := 23) dX9_append_23 rfl ?_
      refine v_getI hV (pc := 24) dX9_append_24 fo_9_1 rfl k0_8 own_8 ?_
      refine g_iload_n (pc := 27) dX9_append_27 rfl ?_
      obtain ⟨S1, hS1, h⟩ := app_of h
      refine v_callNv (Mc := mX11_put) (S1 := S1) (As := [.ref 9, .int (gi q.2 8 1), .int ((iUsh v1 q.1) &&& 255)]) (rest := []) (pc := 28) dX9_append_28 nl_X9_33 mf_X11_put rfl rfl (Nat.le_of_ble_eq_true rfl) ⟨Nat.le_of_ble_eq_true rfl, Nat.le_of_ble_eq_true rfl⟩ (r_put hV k0_9 own_9 (by decide) hS1) ?_
      refine g_aload_n (pc := 31) dX9_append_31 rfl ?_
      refine g_dup (pc := 32) dX9_append_32 rfl ?_
      refine v_getI hV (pc := 33) dX9_append_33 fo_9_1 rfl k0_8 own_8 ?_
      refine g_iconst (v := 1) (pc := 36) dX9_append_36 (by decide) ?_
      refine g_iadd (pc := 37) dX9_append_37 ?_
      refine v_putI hV (pc := 38) dX9_append_38 fo_9_1 rfl k0_8 own_8 rfl ?_
      refine g_wk [true, true, true, false] rfl ?_
      exact t_Tp_append_41_L3 hV h hK
set_option maxRecDepth 4000 in
theorem w_Tp_append_L3 {V : Sm → Wd} (hV : VwC V) {l : Launch} {Γ : Gm} {rF : Option Value} {wF : Wd} {v1 : Int32} {k : Nat} {q : Int32 × Sm} {o : Sm} (h : lpN (Tp_append_L3 v1) k q = some o) (hP : ps_Tp_append_L3 V l Γ rF wF v1 o) : hd_Tp_append_L3 V l Γ rF wF v1 q := lpN_ind2 (hd_Tp_append_L3 V l Γ rF wF v1) (ps_Tp_append_L3 V l Γ rF wF v1) (fun s o h hK => t_Tp_append_L3 hV h hK) k q o h hP
def Tp_append (v1 : Int32) (S : Sm) : Option (Sm) := ((lpN (Tp_append_L3 v1) FU (24, S)).bind fun q4 => (some q4))
set_option maxRecDepth 4000 in
theorem r_Tp_append {V : Sm → Wd} (hV : VwC V) {v1 : Int32} {S : Sm} {q : Sm} (h : Tp_append v1 S = some q) : Runs 1 mX9_append [.ref 8, .int v1] (V S) none (V q) 0 0 := by
  unfold Tp_append at h
  refine Runs.of2 [some (.ref 8), some (.int v1), none, none] 2 rfl rfl (Nat.le_of_ble_eq_true rfl) (fun l Γ => ?_)
  refine g_bipush (v := 24) (pc := 0) dX9_append_0 (by decide) ?_
  refine g_istore_n (ls1 := [some (.ref 8), some (.int v1), some (.int 24), none]) (pc := 2) dX9_append_2 (by decide) rfl ?_
  obtain ⟨q4, hqq4, h⟩ := bnd h
  refine w_Tp_append_L3 hV hqq4 ?_
  unfold ps_Tp_append_L3
  show G _ _ _ _ _ _ _ _ _ _ _
  cases h
  exact g_vret (pc := 47) dX9_append_47 rfl (Nat.le_refl _) (Nat.le_refl _)
def Tp_add (v1 : Int32) (v2 : Int32) (v3 : Int32) (v4 : Int32) (v5 : Int32) (S : Sm) : Option (Int32 × Sm) := ((Tp_bytesIn v1).bind fun q1 => ((Tp_bytesIn v2).bind fun q2 => ((Tp_bytesIn v3).bind fun q3 => ((Tp_bytesIn v4).bind fun q4 => ((Tp_bytesIn v5).bind fun q5 => (if ((gi S 8 1) + ((((q1 + q2) + q3) + q4) + q5)) ≤ 240 then ((Tp_append v1 S).bind fun q6 => ((Tp_append v2 q6).bind fun q7 => ((Tp_append v3 q7).bind fun q8 => ((Tp_append v4 q8).bind fun q9 => ((Tp_append v5 q9).bind fun q10 => (some ((1, q10)))))))) else (some ((0, S)))))))))
set_option maxRecDepth 4000 in
theorem r_Tp_add {V : Sm → Wd} (hV : VwC V) {v1 : Int32} {v2 : Int32} {v3 : Int32} {v4 : Int32} {v5 : Int32} {S : Sm} {q : Int32 × Sm} (h : Tp_add v1 v2 v3 v4 v5 S = some q) : Runs 2 mX9_add [.ref 8, .int v1, .int v2, .int v3, .int v4, .int v5] (V S) (some (.int q.1)) (V q.2) 0 0 := by
  unfold Tp_add at h
  refine Runs.of2 [some (.ref 8), some (.int v1), some (.int v2), some (.int v3), some (.int v4), some (.int v5), none] 1 rfl rfl (Nat.le_of_ble_eq_true rfl) (fun l Γ => ?_)
  refine g_iload_n (pc := 0) dX9_add_0 rfl ?_
  obtain ⟨q1, hq1, h⟩ := bnd h
  refine v_callSi (Mc := mX9_bytesIn) (v := q1) (S1 := S) (As := [.int v1]) (rest := []) (pc := 1) dX9_add_1 mK_X9_25 mf_X9_bytesIn rfl rfl (Nat.le_of_ble_eq_true rfl) ⟨Nat.le_of_ble_eq_true rfl, Nat.le_of_ble_eq_true rfl⟩ (r_Tp_bytesIn hV hq1) ?_
  refine g_iload_n (pc := 4) dX9_add_4 rfl ?_
  obtain ⟨q2, hq2, h⟩ := bnd h
  refine v_callSi (Mc := mX9_bytesIn) (v := q2) (S1 := S) (As := [.int v2]) (rest := [.int q1]) (pc := 5) dX9_add_5 mK_X9_25 mf_X9_bytesIn rfl rfl (Nat.le_of_ble_eq_true rfl) ⟨Nat.le_of_ble_eq_true rfl, Nat.le_of_ble_eq_true rfl⟩ (r_Tp_bytesIn hV hq2) ?_
  refine g_iadd (pc := 8) dX9_add_8 ?_
  refine g_iload_n (pc := 9) dX9_add_9 rfl ?_
  obtain ⟨q3, hq3, h⟩ := bnd h
  refine v_callSi (Mc := mX9_bytesIn) (v := q3) (S1 := S) (As := [.int v3]) (rest := [.int (q1 + q2)]) (pc := 10) dX9_add_10 mK_X9_25 mf_X9_bytesIn rfl rfl (Nat.le_of_ble_eq_true rfl) ⟨Nat.le_of_ble_eq_true rfl, Nat.le_of_ble_eq_true rfl⟩ (r_Tp_bytesIn hV hq3) ?_
  refine g_iadd (pc := 13) dX9_add_13 ?_
  refine g_iload (pc := 14) dX9_add_14 rfl ?_
  obtain ⟨q4, hq4, h⟩ := bnd h
  refine v_callSi (Mc := mX9_bytesIn) (v := q4) (S1 := S) (As := [.int v4]) (rest := [.int ((q1 + q2) + q3)]) (pc := 16) dX9_add_16 mK_X9_25 mf_X9_bytesIn rfl rfl (Nat.le_of_ble_eq_true rfl) ⟨Nat.le_of_ble_eq_true rfl, Nat.le_of_ble_eq_true rfl⟩ (r_Tp_bytesIn hV hq4) ?_
  refine g_iadd (pc := 19) dX9_add_19 ?_
  refine g_iload (pc := 20) dX9_add_20 rfl ?_
  obtain ⟨q5, hq5, h⟩ := bnd h
  refine v_callSi (Mc := mX9_bytesIn) (v := q5) (S1 := S) (As := [.int v5]) (rest := [.int (((q1 + q2) + q3) + q4)]) (pc := 22) dX9_add_22 mK_X9_25 mf_X9_bytesIn rfl rfl (Nat.le_of_ble_eq_true rfl) ⟨Nat.le_of_ble_eq_true rfl, Nat.le_of_ble_eq_true rfl⟩ (r_Tp_bytesIn hV hq5) ?_
  refine g_iadd (pc := 25) dX9_add_25 ?_
  refine g_istore (ls1 := [some (.ref 8), some (.int v1), some (.int v2), some (.int v3), some (.int v4), some (.int v5), some (.int ((((q1 + q2) + q3) + q4) + q5))]) (pc := 26) dX9_add_26 (by decide) rfl ?_
  refine g_aload_n (pc := 28) dX9_add_28 rfl ?_
  refine v_getI hV (pc := 29) dX9_add_29 fo_9_1 rfl k0_8 own_8 ?_
  refine g_iload (pc := 32) dX9_add_32 rfl ?_
  refine g_iadd (pc := 34) dX9_add_34 ?_
  refine g_sipush (v := 240) (pc := 35) dX9_add_35 (by decide) ?_
  refine g_icmp_le (tgt := 43) (pc := 38) dX9_add_38 (by decide) (fun c11 => ?_) (fun c11 => ?_)
  · rw [if_pos c11] at h
    refine g_aload_n (pc := 43) dX9_add_43 rfl ?_
    refine g_iload_n (pc := 44) dX9_add_44 rfl ?_
    obtain ⟨q6, hq6, h⟩ := bnd h
    refine v_callVv hV (Mc := mX9_append) (S1 := q6) (As := [.int v1]) (rest := []) (q := (RX9, TX9, 4)) (pc := 45) dX9_add_45 mK_X9_29 mf_X9_append rfl k0_8 rfl rfl rfl (Nat.le_of_ble_eq_true rfl) ⟨Nat.le_of_ble_eq_true rfl, Nat.le_of_ble_eq_true rfl⟩ (r_Tp_append hV hq6) ?_
    refine g_aload_n (pc := 48) dX9_add_48 rfl ?_
    refine g_iload_n (pc := 49) dX9_add_49 rfl ?_
    obtain ⟨q7, hq7, h⟩ := bnd h
    refine v_callVv hV (Mc := mX9_append) (S1 := q7) (As := [.int v2]) (rest := []) (q := (RX9, TX9, 4)) (pc := 50) dX9_add_50 mK_X9_29 mf_X9_append rfl k0_8 rfl rfl rfl (Nat.le_of_ble_eq_true rfl) ⟨Nat.le_of_ble_eq_true rfl, Nat.le_of_ble_eq_true rfl⟩ (r_Tp_append hV hq7) ?_
    refine g_aload_n (pc := 53) dX9_add_53 rfl ?_
    refine g_iload_n (pc := 54) dX9_add_54 rfl ?_
    obtain ⟨q8, hq8, h⟩ := bnd h
    refine v_callVv hV (Mc := mX9_append) (S1 := q8) (As := [.int v3]) (rest := []) (q := (RX9, TX9, 4)) (pc := 55) dX9_add_55 mK_X9_29 mf_X9_append rfl k0_8 rfl rfl rfl (Nat.le_of_ble_eq_true rfl) ⟨Nat.le_of_ble_eq_true rfl, Nat.le_of_ble_eq_true rfl⟩ (r_Tp_append hV hq8) ?_
    refine g_aload_n (pc := 58) dX9_add_58 rfl ?_
    refine g_iload (pc := 59) dX9_add_59 rfl ?_
    obtain ⟨q9, hq9, h⟩ := bnd h
    refine v_callVv hV (Mc := mX9_append) (S1 := q9) (As := [.int v4]) (rest := []) (q := (RX9, TX9, 4)) (pc := 61) dX9_add_61 mK_X9_29 mf_X9_append rfl k0_8 rfl rfl rfl (Nat.le_of_ble_eq_true rfl) ⟨Nat.le_of_ble_eq_true rfl, Nat.le_of_ble_eq_true rfl⟩ (r_Tp_append hV hq9) ?_
    refine g_aload_n (pc := 64) dX9_add_64 rfl ?_
    refine g_iload (pc := 65) dX9_add_65 rfl ?_
    obtain ⟨q10, hq10, h⟩ := bnd h
    refine v_callVv hV (Mc := mX9_append) (S1 := q10) (As := [.int v5]) (rest := []) (q := (RX9, TX9, 4)) (pc := 67) dX9_add_67 mK_X9_29 mf_X9_append rfl k0_8 rfl rfl rfl (Nat.le_of_ble_eq_true rfl) ⟨Nat.le_of_ble_eq_true rfl, Nat.le_of_ble_eq_true rfl⟩ (r_Tp_append hV hq10) ?_
    refine g_iconst (v := 1) (pc := 70) dX9_add_70 (by decide) ?_
    cases h
    exact g_iret (u := 1) (pc := 71) dX9_add_71 rfl (by decide) (Nat.le_refl _) (Nat.le_refl _)
  · rw [if_neg c11] at h
    refine g_iconst (v := 0) (pc := 41) dX9_add_41 (by decide) ?_
    cases h
    exact g_iret (u := 0) (pc := 42) dX9_add_42 rfl (by decide) (Nat.le_refl _) (Nat.le_refl _)
def Tp_size (S : Sm) : Int32 := (gi S 8 1)
set_option maxRecDepth 4000 in
theorem r_Tp_size {V : Sm → Wd} (hV : VwC V)  {S : Sm} {q : Int32} (h : Tp_size S = q) : Runs 0 mX9_size [.ref 8] (V S) (some (.int q)) (V S) 0 0 := by
  unfold Tp_size at h
  refine Runs.of2 [some (.ref 8)] 0 rfl rfl (Nat.le_of_ble_eq_true rfl) (fun l Γ => ?_)
  refine g_aload_n (pc := 0) dX9_size_0 rfl ?_
  refine v_getI hV (pc := 1) dX9_size_1 fo_9_1 rfl k0_8 own_8 ?_
  subst h
  exact g_iret (pc := 4) dX9_size_4 rfl rfl (Nat.le_refl _) (Nat.le_refl _)
def Dk_feed_28 (s0 : Int32) (S : Sm) : Option (Int32 × Sm) := (some ((s0, S)))
set_option maxRecDepth 4000 in
theorem t_Dk_feed_28 {V : Sm → Wd} (hV : VwC V) {l : Launch} {Γ : Gm} {s0 : Int32} {S : Sm} {q : Int32 × Sm} (h : Dk_feed_28 s0 S = some q) : G mX11_feed l Γ (rmD 3 0 0) (mQ Γ (some (.int q.1)) (V q.2) 0 0) 0 0 28 [none, none, none, none, none, none] [.int s0] (V S) := by
  unfold Dk_feed_28 at h
  cases h
  exact g_iret (pc := 28) dX11_feed_28 rfl rfl (Nat.le_refl _) (Nat.le_refl _)
def Dk_feed (v1 : Int32) (v2 : Int32) (v3 : Int32) (v4 : Int32) (v5 : Int32) (S : Sm) : Option (Int32 × Sm) := ((Tp_add v1 v2 v3 v4 v5 S).bind fun q1 => (if q1.1 = 0 then (Dk_feed_28 ((-1)) q1.2) else (Dk_feed_28 (Tp_size q1.2) q1.2)))
set_option maxRecDepth 4000 in
theorem r_Dk_feed {V : Sm → Wd} (hV : VwC V) {v1 : Int32} {v2 : Int32} {v3 : Int32} {v4 : Int32} {v5 : Int32} {S : Sm} {q : Int32 × Sm} (h : Dk_feed v1 v2 v3 v4 v5 S = some q) : Runs 3 mX11_feed [.ref 7, .int v1, .int v2, .int v3, .int v4, .int v5] (V S) (some (.int q.1)) (V q.2) 0 0 := by
  unfold Dk_feed at h
  refine Runs.of2 [some (.ref 7), some (.int v1), some (.int v2), some (.int v3), some (.int v4), some (.int v5)] 0 rfl rfl (Nat.le_of_ble_eq_true rfl) (fun l Γ => ?_)
  refine g_aload_n (pc := 0) dX11_feed_0 rfl ?_
  refine v_getR hV (pc := 1) dX11_feed_1 fo_11_0 rfl k0_7 r0_7_0 ?_
  refine g_iload_n (pc := 4) dX11_feed_4 rfl ?_
  refine g_iload_n (pc := 5) dX11_feed_5 rfl ?_
  refine g_iload_n (pc := 6) dX11_feed_6 rfl ?_
  refine g_iload (pc := 7) dX11_feed_7 rfl ?_
  refine g_iload (pc := 9) dX11_feed_9 rfl ?_
  obtain ⟨q1, hq1, h⟩ := bnd h
  refine v_callVi hV (Mc := mX9_add) (v := q1.1) (S1 := q1.2) (As := [.int v1, .int v2, .int v3, .int v4, .int v5]) (rest := []) (q := (RX9, TX9, 4)) (pc := 11) dX11_feed_11 mK_X11_103 mf_X9_add rfl k0_8 rfl rfl rfl (Nat.le_of_ble_eq_true rfl) ⟨Nat.le_of_ble_eq_true rfl, Nat.le_of_ble_eq_true rfl⟩ (r_Tp_add hV hq1) ?_
  refine g_if_eq (tgt := 27) (pc := 14) dX11_feed_14 (by decide) (fun c2 => ?_) (fun c2 => ?_)
  · rw [if_pos c2] at h
    refine g_iconst (v := (-1)) (pc := 27) dX11_feed_27 (by decide) ?_
    refine g_wk [false, false, false, false, false, false] rfl ?_
    exact t_Dk_feed_28 hV h
  · rw [if_neg c2] at h
    refine g_aload_n (pc := 17) dX11_feed_17 rfl ?_
    refine v_getR hV (pc := 18) dX11_feed_18 fo_11_0 rfl k0_7 r0_7_0 ?_
    refine v_callVi hV (Mc := mX9_size) (v := Tp_size q1.2) (S1 := q1.2) (As := []) (rest := []) (q := (RX9, TX9, 4)) (pc := 21) dX11_feed_21 mK_X11_107 mf_X9_size rfl k0_8 rfl rfl rfl (Nat.le_of_ble_eq_true rfl) ⟨Nat.le_of_ble_eq_true rfl, Nat.le_of_ble_eq_true rfl⟩ (r_Tp_size hV rfl) ?_
    refine g_goto (tgt := 28) (pc := 24) dX11_feed_24 (by decide) ?_
    refine g_wk [false, false, false, false, false, false] rfl ?_
    exact t_Dk_feed_28 hV h
def Tp_cut_12 (S : Sm) : Int32 × Sm := ((0, S))
set_option maxRecDepth 4000 in
theorem t_Tp_cut_12 {V : Sm → Wd} (hV : VwC V) {l : Launch} {Γ : Gm}  {S : Sm} {q : Int32 × Sm} (h : Tp_cut_12 S = q) : G mX9_cut l Γ (rmD 0 0 0) (mQ Γ (some (.int q.1)) (V q.2) 0 0) 0 0 12 [none, none] [] (V S) := by
  unfold Tp_cut_12 at h
  refine g_iconst (v := 0) (pc := 12) dX9_cut_12 (by decide) ?_
  subst h
  exact g_iret (u := 0) (pc := 13) dX9_cut_13 rfl (by decide) (Nat.le_refl _) (Nat.le_refl _)
def Tp_cut (v1 : Int32) (S : Sm) : Int32 × Sm := (if v1 < 0 then (Tp_cut_12 S) else (if v1 ≤ (gi S 8 1) then ((1, si S 8 1 v1)) else (Tp_cut_12 S)))
set_option maxRecDepth 4000 in
theorem r_Tp_cut {V : Sm → Wd} (hV : VwC V) {v1 : Int32} {S : Sm} {q : Int32 × Sm} (h : Tp_cut v1 S = q) : Runs 0 mX9_cut [.ref 8, .int v1] (V S) (some (.int q.1)) (V q.2) 0 0 := by
  unfold Tp_cut at h
  refine Runs.of2 [some (.ref 8), some (.int v1)] 0 rfl rfl (Nat.le_of_ble_eq_true rfl) (fun l Γ => ?_)
  refine g_iload_n (pc := 0) dX9_cut_0 rfl ?_
  refine g_if_lt (tgt := 12) (pc := 1) dX9_cut_1 (by decide) (fun c2 => ?_) (fun c2 => ?_)
  · rw [if_pos c2] at h
    refine g_wk [false, false] rfl ?_
    exact t_Tp_cut_12 hV h
  · rw [if_neg c2] at h
    refine g_iload_n (pc := 4) dX9_cut_4 rfl ?_
    refine g_aload_n (pc := 5) dX9_cut_5 rfl ?_
    refine v_getI hV (pc := 6) dX9_cut_6 fo_9_1 rfl k0_8 own_8 ?_
    refine g_icmp_le (tgt := 14) (pc := 9) dX9_cut_9 (by decide) (fun c1 => ?_) (fun c1 => ?_)
    · rw [if_pos c1] at h
      refine g_aload_n (pc := 14) dX9_cut_14 rfl ?_
      refine g_iload_n (pc := 15) dX9_cut_15 rfl ?_
      refine v_putI hV (pc := 16) dX9_cut_16 fo_9_1 rfl k0_8 own_8 rfl ?_
      refine g_iconst (v := 1) (pc := 19) dX9_cut_19 (by decide) ?_
      subst h
      exact g_iret (u := 1) (pc := 20) dX9_cut_20 rfl (by decide) (Nat.le_refl _) (Nat.le_refl _)
    · rw [if_neg c1] at h
      refine g_wk [false, false] rfl ?_
      exact t_Tp_cut_12 hV h
def Dk_end (v1 : Int32) (S : Sm) : Int32 × Sm := (app (Tp_cut v1 S) fun q1 => ((q1.1 &&& 1, q1.2)))
set_option maxRecDepth 4000 in
theorem r_Dk_end {V : Sm → Wd} (hV : VwC V) {v1 : Int32} {S : Sm} {q : Int32 × Sm} (h : Dk_end v1 S = q) : Runs 1 mX11_end [.ref 7, .int v1] (V S) (some (.int q.1)) (V q.2) 0 0 := by
  unfold Dk_end at h
  refine Runs.of2 [some (.ref 7), some (.int v1)] 0 rfl rfl (Nat.le_of_ble_eq_true rfl) (fun l Γ => ?_)
  refine g_aload_n (pc := 0) dX11_end_0 rfl ?_
  refine v_getR hV (pc := 1) dX11_end_1 fo_11_0 rfl k0_7 r0_7_0 ?_
  refine g_iload_n (pc := 4) dX11_end_4 rfl ?_
  obtain ⟨q1, hq1, h⟩ := app_of h
  refine v_callVi hV (Mc := mX9_cut) (v := q1.1) (S1 := q1.2) (As := [.int v1]) (rest := []) (q := (RX9, TX9, 4)) (pc := 5) dX11_end_5 mK_X11_111 mf_X9_cut rfl k0_8 rfl rfl rfl (Nat.le_of_ble_eq_true rfl) ⟨Nat.le_of_ble_eq_true rfl, Nat.le_of_ble_eq_true rfl⟩ (r_Tp_cut hV hq1) ?_
  subst h
  exact g_iret (pc := 8) dX11_end_8 rfl rfl (Nat.le_refl _) (Nat.le_refl _)
def Tp_rewind (S : Sm) : Sm := (si (si S 8 2 0) 8 3 ((-1)))
set_option maxRecDepth 4000 in
theorem r_Tp_rewind {V : Sm → Wd} (hV : VwC V)  {S : Sm} {q : Sm} (h : Tp_rewind S = q) : Runs 0 mX9_rewind [.ref 8] (V S) none (V q) 0 0 := by
  unfold Tp_rewind at h
  refine Runs.of2 [some (.ref 8)] 0 rfl rfl (Nat.le_of_ble_eq_true rfl) (fun l Γ => ?_)
  refine g_aload_n (pc := 0) dX9_rewind_0 rfl ?_
  refine g_iconst (v := 0) (pc := 1) dX9_rewind_1 (by decide) ?_
  refine v_putI hV (pc := 2) dX9_rewind_2 fo_9_2 rfl k0_8 own_8 rfl ?_
  refine g_aload_n (pc := 5) dX9_rewind_5 rfl ?_
  refine g_iconst (v := (-1)) (pc := 6) dX9_rewind_6 (by decide) ?_
  refine v_putI hV (pc := 7) dX9_rewind_7 fo_9_3 rfl k0_8 own_8 rfl ?_
  subst h
  exact g_vret (pc := 10) dX9_rewind_10 rfl (Nat.le_refl _) (Nat.le_refl _)
def La_beginDraft (S : Sm) : Sm := (app (puF S 22 5 (gi S 20 4) 0) fun S1 => S1)
set_option maxRecDepth 4000 in
theorem r_La_beginDraft {V : Sm → Wd} (hV : VwC V)  {S : Sm} {q : Sm} (h : La_beginDraft S = q) : Runs 1 mX3_beginDraft [.ref 20] (V S) none (V q) 0 0 := by
  unfold La_beginDraft at h
  refine Runs.of2 [some (.ref 20)] 0 rfl rfl (Nat.le_of_ble_eq_true rfl) (fun l Γ => ?_)
  refine g_aload_n (pc := 0) dX3_beginDraft_0 rfl ?_
  refine v_getR hV (pc := 1) dX3_beginDraft_1 fo_3_1 rfl k0_20 r0_20_1 ?_
  refine g_aload_n (pc := 4) dX3_beginDraft_4 rfl ?_
  refine v_getI hV (pc := 5) dX3_beginDraft_5 fo_3_4 rfl k0_20 own_20 ?_
  refine g_iconst (v := 0) (pc := 8) dX3_beginDraft_8 (by decide) ?_
  obtain ⟨S1, hS1, h⟩ := app_of h
  refine v_callNv (Mc := mX11_put) (S1 := S1) (As := [.ref 22, .int (gi S 20 4), .int 0]) (rest := []) (pc := 9) dX3_beginDraft_9 nl_X3_33 mf_X11_put rfl rfl (Nat.le_of_ble_eq_true rfl) ⟨Nat.le_of_ble_eq_true rfl, Nat.le_of_ble_eq_true rfl⟩ (r_put hV k0_22 own_22 (by decide) hS1) ?_
  subst h
  exact g_vret (pc := 12) dX3_beginDraft_12 rfl (Nat.le_refl _) (Nat.le_refl _)
def hd_Tp_sign_L23 (V : Sm → Wd) (l : Launch) (Γ : Gm) (rF : Option Value) (wF : Wd) (v1 : Int32) (q : Sm) : Prop := G mX9_sign l Γ (rmD 1 0 0) (mQ Γ rF wF 0 0) 0 0 23 [some (.ref 8), some (.int v1)] [] (V q)
def ps_Tp_sign_L23 (V : Sm → Wd) (l : Launch) (Γ : Gm) (rF : Option Value) (wF : Wd) (v1 : Int32) (x : Sm) : Prop := (fun (a : Sm) => G mX9_sign l Γ (rmD 1 0 0) (mQ Γ rF wF 0 0) 0 0 65 [some (.ref 8), some (.int v1)] [] (V a)) x
def Tp_sign_L23 (v1 : Int32) (q : Sm) : Option ((Sm) ⊕ (Sm)) := (if (gi q 8 2) < 0 then (some (.inr q)) else (if v1 ≤ (gi q 8 2) then (some (.inr q)) else (if inb (gi q 8 2) 240 then (if (gi q 9 (ix (gi q 8 2))) = 32 then (some (.inl (si q 8 2 ((gi q 8 2) + 1)))) else (some (.inr q))) else none)))
set_option maxRecDepth 4000 in
theorem t_Tp_sign_L23 {V : Sm → Wd} (hV : VwC V) {l : Launch} {Γ : Gm} {rF : Option Value} {wF : Wd} {v1 : Int32} {q : Sm} {o : (Sm) ⊕ (Sm)} (h : Tp_sign_L23 v1 q = some o) (hK : Sum.elim (hd_Tp_sign_L23 V l Γ rF wF v1) (ps_Tp_sign_L23 V l Γ rF wF v1) o) : hd_Tp_sign_L23 V l Γ rF wF v1 q := by
  unfold Tp_sign_L23 at h
  unfold hd_Tp_sign_L23
  refine g_aload_n (pc := 23) dX9_sign_23 rfl ?_
  refine v_getI hV (pc := 24) dX9_sign_24 fo_9_2 rfl k0_8 own_8 ?_
  refine g_if_lt (tgt := 65) (pc := 27) dX9_sign_27 (by decide) (fun c4 => ?_) (fun c4 => ?_)
  · rw [if_pos c4] at h
    cases h
    exact hK
  · rw [if_neg c4] at h
    refine g_aload_n (pc := 30) dX9_sign_30 rfl ?_
    refine v_getI hV (pc := 31) dX9_sign_31 fo_9_2 rfl k0_8 own_8 ?_
    refine g_iload_n (pc := 34) dX9_sign_34 rfl ?_
    refine g_icmp_ge (tgt := 65) (pc := 35) dX9_sign_35 (by decide) (fun c3 => ?_) (fun c3 => ?_)
    · rw [if_pos c3] at h
      cases h
      exact hK
    · rw [if_neg c3] at h
      refine g_aload_n (pc := 38) dX9_sign_38 rfl ?_
      refine v_getR hV (pc := 39) dX9_sign_39 fo_9_0 rfl k0_8 r0_8_0 ?_
      refine g_aload_n (pc := 42) dX9_sign_42 rfl ?_
      refine v_getI hV (pc := 43) dX9_sign_43 fo_9_2 rfl k0_8 own_8 ?_
      by_cases c1 : inb (gi q 8 2) 240
      · rw [if_pos c1] at h
        refine v_iald hV (pc := 46) dX9_sign_46 k0_9 own_9 c1 ?_
        refine g_bipush (v := 32) (pc := 47) dX9_sign_47 (by decide) ?_
        refine g_icmp_ne (tgt := 65) (pc := 49) dX9_sign_49 (by decide) (fun c2 => ?_) (fun c2 => ?_)
        · rw [if_neg c2] at h
          cases h
          exact hK
        · rw [if_pos c2] at h
          refine g_aload_n (pc := 52) dX9_sign_52 rfl ?_
          refine g_dup (pc := 53) dX9_sign_53 rfl ?_
          refine v_getI hV (pc := 54) dX9_sign_54 fo_9_2 rfl k0_8 own_8 ?_
          refine g_iconst (v := 1) (pc := 57) dX9_sign_57 (by decide) ?_
          refine g_iadd (pc := 58) dX9_sign_58 ?_
          refine v_putI hV (pc := 59) dX9_sign_59 fo_9_2 rfl k0_8 own_8 rfl ?_
          refine g_goto (tgt := 23) (pc := 62) dX9_sign_62 (by decide) ?_
          cases h
          exact hK
      · rw [if_neg c1] at h; cases h
set_option maxRecDepth 4000 in
theorem w_Tp_sign_L23 {V : Sm → Wd} (hV : VwC V) {l : Launch} {Γ : Gm} {rF : Option Value} {wF : Wd} {v1 : Int32} {k : Nat} {q : Sm} {o : Sm} (h : lpN (Tp_sign_L23 v1) k q = some o) (hP : ps_Tp_sign_L23 V l Γ rF wF v1 o) : hd_Tp_sign_L23 V l Γ rF wF v1 q := lpN_ind2 (hd_Tp_sign_L23 V l Γ rF wF v1) (ps_Tp_sign_L23 V l Γ rF wF v1) (fun s o h hK => t_Tp_sign_L23 hV h hK) k q o h hP
def Tp_sign_93 (s0 : Int32) (S : Sm) : Option (Int32 × Sm) := (some ((s0, S)))
set_option maxRecDepth 4000 in
theorem t_Tp_sign_93 {V : Sm → Wd} (hV : VwC V) {l : Launch} {Γ : Gm} {s0 : Int32} {S : Sm} {q : Int32 × Sm} (h : Tp_sign_93 s0 S = some q) : G mX9_sign l Γ (rmD 1 0 0) (mQ Γ (some (.int q.1)) (V q.2) 0 0) 0 0 93 [none, none] [.int s0] (V S) := by
  unfold Tp_sign_93 at h
  cases h
  exact g_iret (pc := 93) dX9_sign_93 rfl rfl (Nat.le_refl _) (Nat.le_refl _)
def Tp_sign_92 (S : Sm) : Option (Int32 × Sm) := (Tp_sign_93 ((-1)) S)
set_option maxRecDepth 4000 in
theorem t_Tp_sign_92 {V : Sm → Wd} (hV : VwC V) {l : Launch} {Γ : Gm}  {S : Sm} {q : Int32 × Sm} (h : Tp_sign_92 S = some q) : G mX9_sign l Γ (rmD 1 0 0) (mQ Γ (some (.int q.1)) (V q.2) 0 0) 0 0 92 [none, none] [] (V S) := by
  unfold Tp_sign_92 at h
  refine g_iconst (v := (-1)) (pc := 92) dX9_sign_92 (by decide) ?_
  exact t_Tp_sign_93 hV h
def Tp_sign (S : Sm) : Option (Int32 × Sm) := (if (gi S 8 3) = ((-1)) then ((lpN (Tp_sign_L23 (iMin (gi S 8 1) 240)) FU S).bind fun q5 => (if (gi q5 8 2) < 0 then (Tp_sign_92 q5) else (if (iMin (gi S 8 1) 240) ≤ (gi q5 8 2) then (Tp_sign_92 q5) else (if inb (gi q5 8 2) 240 then (Tp_sign_93 (gi q5 9 (ix (gi q5 8 2))) q5) else none)))) else (some (((-1), S))))
set_option maxRecDepth 4000 in
theorem r_Tp_sign {V : Sm → Wd} (hV : VwC V)  {S : Sm} {q : Int32 × Sm} (h : Tp_sign S = some q) : Runs 1 mX9_sign [.ref 8] (V S) (some (.int q.1)) (V q.2) 0 0 := by
  unfold Tp_sign at h
  refine Runs.of2 [some (.ref 8), none] 1 rfl rfl (Nat.le_of_ble_eq_true rfl) (fun l Γ => ?_)
  refine g_aload_n (pc := 0) dX9_sign_0 rfl ?_
  refine v_getI hV (pc := 1) dX9_sign_1 fo_9_3 rfl k0_8 own_8 ?_
  refine g_iconst (v := (-1)) (pc := 4) dX9_sign_4 (by decide) ?_
  refine g_icmp_eq (tgt := 10) (pc := 5) dX9_sign_5 (by decide) (fun c9 => ?_) (fun c9 => ?_)
  · rw [if_pos c9] at h
    refine g_aload_n (pc := 10) dX9_sign_10 rfl ?_
    refine v_getI hV (pc := 11) dX9_sign_11 fo_9_1 rfl k0_8 own_8 ?_
    refine g_aload_n (pc := 14) dX9_sign_14 rfl ?_
    refine v_getR hV (pc := 15) dX9_sign_15 fo_9_0 rfl k0_8 r0_8_0 ?_
    refine v_alen hV (v := 240) (pc := 18) dX9_sign_18 k0_9 0 (fun _ => rfl) (by decide) ?_
    refine g_iMin (pc := 19) dX9_sign_19 mK_X9_37 ⟨Nat.le_of_ble_eq_true rfl, Nat.le_of_ble_eq_true rfl⟩ (Nat.zero_le _) (Nat.zero_le _) ?_
    refine g_istore_n (ls1 := [some (.ref 8), some (.int (iMin (gi S 8 1) 240))]) (pc := 22) dX9_sign_22 (by decide) rfl ?_
    obtain ⟨q5, hqq5, h⟩ := bnd h
    refine w_Tp_sign_L23 hV hqq5 ?_
    unfold ps_Tp_sign_L23
    show G _ _ _ _ _ _ _ _ _ _ _
    refine g_aload_n (pc := 65) dX9_sign_65 rfl ?_
    refine v_getI hV (pc := 66) dX9_sign_66 fo_9_2 rfl k0_8 own_8 ?_
    refine g_if_lt (tgt := 92) (pc := 69) dX9_sign_69 (by decide) (fun c8 => ?_) (fun c8 => ?_)
    · rw [if_pos c8] at h
      refine g_wk [false, false] rfl ?_
      exact t_Tp_sign_92 hV h
    · rw [if_neg c8] at h
      refine g_aload_n (pc := 72) dX9_sign_72 rfl ?_
      refine v_getI hV (pc := 73) dX9_sign_73 fo_9_2 rfl k0_8 own_8 ?_
      refine g_iload_n (pc := 76) dX9_sign_76 rfl ?_
      refine g_icmp_ge (tgt := 92) (pc := 77) dX9_sign_77 (by decide) (fun c7 => ?_) (fun c7 => ?_)
      · rw [if_pos c7] at h
        refine g_wk [false, false] rfl ?_
        exact t_Tp_sign_92 hV h
      · rw [if_neg c7] at h
        refine g_aload_n (pc := 80) dX9_sign_80 rfl ?_
        refine v_getR hV (pc := 81) dX9_sign_81 fo_9_0 rfl k0_8 r0_8_0 ?_
        refine g_aload_n (pc := 84) dX9_sign_84 rfl ?_
        refine v_getI hV (pc := 85) dX9_sign_85 fo_9_2 rfl k0_8 own_8 ?_
        by_cases c6 : inb (gi q5 8 2) 240
        · rw [if_pos c6] at h
          refine v_iald hV (pc := 88) dX9_sign_88 k0_9 own_9 c6 ?_
          refine g_goto (tgt := 93) (pc := 89) dX9_sign_89 (by decide) ?_
          refine g_wk [false, false] rfl ?_
          exact t_Tp_sign_93 hV h
        · rw [if_neg c6] at h; cases h
  · rw [if_neg c9] at h
    refine g_iconst (v := (-1)) (pc := 8) dX9_sign_8 (by decide) ?_
    cases h
    exact g_iret (pc := 9) dX9_sign_9 rfl rfl (Nat.le_refl _) (Nat.le_refl _)
def Tp_fail_16 (S : Sm) : Sm := S
set_option maxRecDepth 4000 in
theorem t_Tp_fail_16 {V : Sm → Wd} (hV : VwC V) {l : Launch} {Γ : Gm}  {S : Sm} {q : Sm} (h : Tp_fail_16 S = q) : G mX9_fail l Γ (rmD 0 0 0) (mQ Γ none (V q) 0 0) 0 0 16 [none] [] (V S) := by
  unfold Tp_fail_16 at h
  subst h
  exact g_vret (pc := 16) dX9_fail_16 rfl (Nat.le_refl _) (Nat.le_refl _)
def Tp_fail (S : Sm) : Sm := (if (gi S 8 3) = ((-1)) then (Tp_fail_16 (si S 8 3 (gi S 8 2))) else (Tp_fail_16 S))
set_option maxRecDepth 4000 in
theorem r_Tp_fail {V : Sm → Wd} (hV : VwC V)  {S : Sm} {q : Sm} (h : Tp_fail S = q) : Runs 0 mX9_fail [.ref 8] (V S) none (V q) 0 0 := by
  unfold Tp_fail at h
  refine Runs.of2 [some (.ref 8)] 0 rfl rfl (Nat.le_of_ble_eq_true rfl) (fun l Γ => ?_)
  refine g_aload_n (pc := 0) dX9_fail_0 rfl ?_
  refine v_getI hV (pc := 1) dX9_fail_1 fo_9_3 rfl k0_8 own_8 ?_
  refine g_iconst (v := (-1)) (pc := 4) dX9_fail_4 (by decide) ?_
  refine g_icmp_ne (tgt := 16) (pc := 5) dX9_fail_5 (by decide) (fun c1 => ?_) (fun c1 => ?_)
  · rw [if_neg c1] at h
    refine g_wk [false] rfl ?_
    exact t_Tp_fail_16 hV h
  · rw [if_pos c1] at h
    refine g_aload_n (pc := 8) dX9_fail_8 rfl ?_
    refine g_aload_n (pc := 9) dX9_fail_9 rfl ?_
    refine v_getI hV (pc := 10) dX9_fail_10 fo_9_2 rfl k0_8 own_8 ?_
    refine v_putI hV (pc := 13) dX9_fail_13 fo_9_3 rfl k0_8 own_8 rfl ?_
    refine g_wk [false] rfl ?_
    exact t_Tp_fail_16 hV h
def Tp_need_25 (S : Sm) : Option (Sm) := (some S)
set_option maxRecDepth 4000 in
theorem t_Tp_need_25 {V : Sm → Wd} (hV : VwC V) {l : Launch} {Γ : Gm}  {S : Sm} {q : Sm} (h : Tp_need_25 S = some q) : G mX9_need l Γ (rmD 2 0 0) (mQ Γ none (V q) 0 0) 0 0 25 [none, none] [] (V S) := by
  unfold Tp_need_25 at h
  cases h
  exact g_vret (pc := 25) dX9_need_25 rfl (Nat.le_refl _) (Nat.le_refl _)
def Tp_need (v1 : Int32) (S : Sm) : Option (Sm) := ((Tp_sign S).bind fun q1 => (if q1.1 = v1 then (Tp_need_25 (si q1.2 8 2 ((gi q1.2 8 2) + 1))) else (app (Tp_fail q1.2) fun q2 => (Tp_need_25 q2))))
set_option maxRecDepth 4000 in
theorem r_Tp_need {V : Sm → Wd} (hV : VwC V) {v1 : Int32} {S : Sm} {q : Sm} (h : Tp_need v1 S = some q) : Runs 2 mX9_need [.ref 8, .int v1] (V S) none (V q) 0 0 := by
  unfold Tp_need at h
  refine Runs.of2 [some (.ref 8), some (.int v1)] 0 rfl rfl (Nat.le_of_ble_eq_true rfl) (fun l Γ => ?_)
  refine g_aload_n (pc := 0) dX9_need_0 rfl ?_
  obtain ⟨q1, hq1, h⟩ := bnd h
  refine v_callVi hV (Mc := mX9_sign) (v := q1.1) (S1 := q1.2) (As := []) (rest := []) (q := (RX9, TX9, 4)) (pc := 1) dX9_need_1 mK_X9_43 mf_X9_sign rfl k0_8 rfl rfl rfl (Nat.le_of_ble_eq_true rfl) ⟨Nat.le_of_ble_eq_true rfl, Nat.le_of_ble_eq_true rfl⟩ (r_Tp_sign hV hq1) ?_
  refine g_iload_n (pc := 4) dX9_need_4 rfl ?_
  refine g_icmp_ne (tgt := 21) (pc := 5) dX9_need_5 (by decide) (fun c3 => ?_) (fun c3 => ?_)
  · rw [if_neg c3] at h
    refine g_aload_n (pc := 21) dX9_need_21 rfl ?_
    obtain ⟨q2, hq2, h⟩ := app_of h
    refine v_callVv hV (Mc := mX9_fail) (S1 := q2) (As := []) (rest := []) (q := (RX9, TX9, 4)) (pc := 22) dX9_need_22 mK_X9_47 mf_X9_fail rfl k0_8 rfl rfl rfl (Nat.le_of_ble_eq_true rfl) ⟨Nat.le_of_ble_eq_true rfl, Nat.le_of_ble_eq_true rfl⟩ (r_Tp_fail hV hq2) ?_
    refine g_wk [false, false] rfl ?_
    exact t_Tp_need_25 hV h
  · rw [if_pos c3] at h
    refine g_aload_n (pc := 8) dX9_need_8 rfl ?_
    refine g_dup (pc := 9) dX9_need_9 rfl ?_
    refine v_getI hV (pc := 10) dX9_need_10 fo_9_2 rfl k0_8 own_8 ?_
    refine g_iconst (v := 1) (pc := 13) dX9_need_13 (by decide) ?_
    refine g_iadd (pc := 14) dX9_need_14 ?_
    refine v_putI hV (pc := 15) dX9_need_15 fo_9_2 rfl k0_8 own_8 rfl ?_
    refine g_goto (tgt := 25) (pc := 18) dX9_need_18 (by decide) ?_
    refine g_wk [false, false] rfl ?_
    exact t_Tp_need_25 hV h
def Tp_take_28 (v2 : Int32) (s1 : Int32) (s2 : Int32) (S : Sm) : Option (Int32 × Sm) := (some ((v2 &&& 1, si S 8 2 (s1 + s2))))
set_option maxRecDepth 4000 in
theorem t_Tp_take_28 {V : Sm → Wd} (hV : VwC V) {l : Launch} {Γ : Gm} {v2 : Int32} {s1 : Int32} {s2 : Int32} {S : Sm} {q : Int32 × Sm} (h : Tp_take_28 v2 s1 s2 S = some q) : G mX9_take l Γ (rmD 2 0 0) (mQ Γ (some (.int q.1)) (V q.2) 0 0) 0 0 28 [none, none, some (.int v2)] [.int s2, .int s1, .ref 8] (V S) := by
  unfold Tp_take_28 at h
  refine g_iadd (pc := 28) dX9_take_28 ?_
  refine v_putI hV (pc := 29) dX9_take_29 fo_9_2 rfl k0_8 own_8 rfl ?_
  refine g_iload_n (pc := 32) dX9_take_32 rfl ?_
  cases h
  exact g_iret (pc := 33) dX9_take_33 rfl rfl (Nat.le_refl _) (Nat.le_refl _)
def Tp_take_13 (s0 : Int32) (S : Sm) : Option (Int32 × Sm) := (if s0 = 0 then (Tp_take_28 s0 (gi S 8 2) 0 S) else (Tp_take_28 s0 (gi S 8 2) 1 S))
set_option maxRecDepth 4000 in
theorem t_Tp_take_13 {V : Sm → Wd} (hV : VwC V) {l : Launch} {Γ : Gm} {s0 : Int32} {S : Sm} {q : Int32 × Sm} (h : Tp_take_13 s0 S = some q) : G mX9_take l Γ (rmD 2 0 0) (mQ Γ (some (.int q.1)) (V q.2) 0 0) 0 0 13 [some (.ref 8), none, none] [.int s0] (V S) := by
  unfold Tp_take_13 at h
  refine g_istore_n (ls1 := [some (.ref 8), none, some (.int s0)]) (pc := 13) dX9_take_13 (by decide) rfl ?_
  refine g_aload_n (pc := 14) dX9_take_14 rfl ?_
  refine g_dup (pc := 15) dX9_take_15 rfl ?_
  refine v_getI hV (pc := 16) dX9_take_16 fo_9_2 rfl k0_8 own_8 ?_
  refine g_iload_n (pc := 19) dX9_take_19 rfl ?_
  refine g_if_eq (tgt := 27) (pc := 20) dX9_take_20 (by decide) (fun c2 => ?_) (fun c2 => ?_)
  · rw [if_pos c2] at h
    refine g_iconst (v := 0) (pc := 27) dX9_take_27 (by decide) ?_
    refine g_wk [false, false, true] rfl ?_
    exact t_Tp_take_28 hV h
  · rw [if_neg c2] at h
    refine g_iconst (v := 1) (pc := 23) dX9_take_23 (by decide) ?_
    refine g_goto (tgt := 28) (pc := 24) dX9_take_24 (by decide) ?_
    refine g_wk [false, false, true] rfl ?_
    exact t_Tp_take_28 hV h
def Tp_take (v1 : Int32) (S : Sm) : Option (Int32 × Sm) := ((Tp_sign S).bind fun q1 => (if q1.1 = v1 then (Tp_take_13 1 q1.2) else (Tp_take_13 0 q1.2)))
set_option maxRecDepth 4000 in
theorem r_Tp_take {V : Sm → Wd} (hV : VwC V) {v1 : Int32} {S : Sm} {q : Int32 × Sm} (h : Tp_take v1 S = some q) : Runs 2 mX9_take [.ref 8, .int v1] (V S) (some (.int q.1)) (V q.2) 0 0 := by
  unfold Tp_take at h
  refine Runs.of2 [some (.ref 8), some (.int v1), none] 1 rfl rfl (Nat.le_of_ble_eq_true rfl) (fun l Γ => ?_)
  refine g_aload_n (pc := 0) dX9_take_0 rfl ?_
  obtain ⟨q1, hq1, h⟩ := bnd h
  refine v_callVi hV (Mc := mX9_sign) (v := q1.1) (S1 := q1.2) (As := []) (rest := []) (q := (RX9, TX9, 4)) (pc := 1) dX9_take_1 mK_X9_43 mf_X9_sign rfl k0_8 rfl rfl rfl (Nat.le_of_ble_eq_true rfl) ⟨Nat.le_of_ble_eq_true rfl, Nat.le_of_ble_eq_true rfl⟩ (r_Tp_sign hV hq1) ?_
  refine g_iload_n (pc := 4) dX9_take_4 rfl ?_
  refine g_icmp_ne (tgt := 12) (pc := 5) dX9_take_5 (by decide) (fun c3 => ?_) (fun c3 => ?_)
  · rw [if_neg c3] at h
    refine g_iconst (v := 0) (pc := 12) dX9_take_12 (by decide) ?_
    refine g_wk [true, false, false] rfl ?_
    exact t_Tp_take_13 hV h
  · rw [if_pos c3] at h
    refine g_iconst (v := 1) (pc := 8) dX9_take_8 (by decide) ?_
    refine g_goto (tgt := 13) (pc := 9) dX9_take_9 (by decide) ?_
    refine g_wk [true, false, false] rfl ?_
    exact t_Tp_take_13 hV h
def La_write_51 (S : Sm) : Sm := S
set_option maxRecDepth 4000 in
theorem t_La_write_51 {V : Sm → Wd} (hV : VwC V) {l : Launch} {Γ : Gm}  {S : Sm} {q : Sm} (h : La_write_51 S = q) : G mX3_write l Γ (rmD 1 0 0) (mQ Γ none (V q) 0 0) 0 0 51 [none, none, none] [] (V S) := by
  unfold La_write_51 at h
  subst h
  exact g_vret (pc := 51) dX3_write_51 rfl (Nat.le_refl _) (Nat.le_refl _)
def La_write (v1 : Int32) (S : Sm) : Sm := (if (240 : Int32) ≤ (atF (gi S 22) 5 (gi S 20 4)) then (La_write_51 S) else (app (puF S 21 1200 (((gi S 20 4) * 240) + (atF (gi S 22) 5 (gi S 20 4))) v1) fun S1 => (app (puF S1 22 5 (gi S1 20 4) ((atF (gi S 22) 5 (gi S 20 4)) + 1)) fun S2 => (La_write_51 S2))))
set_option maxRecDepth 4000 in
theorem r_La_write {V : Sm → Wd} (hV : VwC V) {v1 : Int32} {S : Sm} {q : Sm} (h : La_write v1 S = q) : Runs 1 mX3_write [.ref 20, .int v1] (V S) none (V q) 0 0 := by
  unfold La_write at h
  refine Runs.of2 [some (.ref 20), some (.int v1), none] 1 rfl rfl (Nat.le_of_ble_eq_true rfl) (fun l Γ => ?_)
  refine g_aload_n (pc := 0) dX3_write_0 rfl ?_
  refine v_getR hV (pc := 1) dX3_write_1 fo_3_1 rfl k0_20 r0_20_1 ?_
  refine g_aload_n (pc := 4) dX3_write_4 rfl ?_
  refine v_getI hV (pc := 5) dX3_write_5 fo_3_4 rfl k0_20 own_20 ?_
  refine v_callNi (Mc := mX11_at) (v := atF (gi S 22) 5 (gi S 20 4)) (S1 := S) (As := [.ref 22, .int (gi S 20 4)]) (rest := []) (pc := 8) dX3_write_8 nl_X3_37 mf_X11_at rfl rfl (Nat.le_of_ble_eq_true rfl) ⟨Nat.le_of_ble_eq_true rfl, Nat.le_of_ble_eq_true rfl⟩ (r_at hV k0_22 own_22 (by decide)) ?_
  refine g_istore_n (ls1 := [some (.ref 20), some (.int v1), some (.int (atF (gi S 22) 5 (gi S 20 4)))]) (pc := 11) dX3_write_11 (by decide) rfl ?_
  refine g_iload_n (pc := 12) dX3_write_12 rfl ?_
  refine g_sipush (v := 240) (pc := 13) dX3_write_13 (by decide) ?_
  refine g_icmp_ge (tgt := 51) (pc := 16) dX3_write_16 (by decide) (fun c3 => ?_) (fun c3 => ?_)
  · rw [if_pos c3] at h
    refine g_wk [false, false, false] rfl ?_
    exact t_La_write_51 hV h
  · rw [if_neg c3] at h
    refine g_aload_n (pc := 19) dX3_write_19 rfl ?_
    refine v_getR hV (pc := 20) dX3_write_20 fo_3_0 rfl k0_20 r0_20_0 ?_
    refine g_aload_n (pc := 23) dX3_write_23 rfl ?_
    refine v_getI hV (pc := 24) dX3_write_24 fo_3_4 rfl k0_20 own_20 ?_
    refine g_sipush (v := 240) (pc := 27) dX3_write_27 (by decide) ?_
    refine g_imul (pc := 30) dX3_write_30 ?_
    refine g_iload_n (pc := 31) dX3_write_31 rfl ?_
    refine g_iadd (pc := 32) dX3_write_32 ?_
    refine g_iload_n (pc := 33) dX3_write_33 rfl ?_
    obtain ⟨S1, hS1, h⟩ := app_of h
    refine v_callNv (Mc := mX11_put) (S1 := S1) (As := [.ref 21, .int (((gi S 20 4) * 240) + (atF (gi S 22) 5 (gi S 20 4))), .int v1]) (rest := []) (pc := 34) dX3_write_34 nl_X3_33 mf_X11_put rfl rfl (Nat.le_of_ble_eq_true rfl) ⟨Nat.le_of_ble_eq_true rfl, Nat.le_of_ble_eq_true rfl⟩ (r_put hV k0_21 own_21 (by decide) hS1) ?_
    refine g_aload_n (pc := 37) dX3_write_37 rfl ?_
    refine v_getR hV (pc := 38) dX3_write_38 fo_3_1 rfl k0_20 r0_20_1 ?_
    refine g_aload_n (pc := 41) dX3_write_41 rfl ?_
    refine v_getI hV (pc := 42) dX3_write_42 fo_3_4 rfl k0_20 own_20 ?_
    refine g_iload_n (pc := 45) dX3_write_45 rfl ?_
    refine g_iconst (v := 1) (pc := 46) dX3_write_46 (by decide) ?_
    refine g_iadd (pc := 47) dX3_write_47 ?_
    obtain ⟨S2, hS2, h⟩ := app_of h
    refine v_callNv (Mc := mX11_put) (S1 := S2) (As := [.ref 22, .int (gi S1 20 4), .int ((atF (gi S 22) 5 (gi S 20 4)) + 1)]) (rest := []) (pc := 48) dX3_write_48 nl_X3_33 mf_X11_put rfl rfl (Nat.le_of_ble_eq_true rfl) ⟨Nat.le_of_ble_eq_true rfl, Nat.le_of_ble_eq_true rfl⟩ (r_put hV k0_22 own_22 (by decide) hS2) ?_
    refine g_wk [false, false, false] rfl ?_
    exact t_La_write_51 hV h
def Lr_isLetter_35 (s0 : Int32) : Int32 := (s0 &&& 1)
set_option maxRecDepth 4000 in
theorem t_Lr_isLetter_35 {V : Sm → Wd} (hV : VwC V) {l : Launch} {Γ : Gm} {s0 : Int32} {S : Sm} {q : Int32} (h : Lr_isLetter_35 s0 = q) : G mX2_isLetter l Γ (rmD 0 0 0) (mQ Γ (some (.int q)) (V S) 0 0) 0 0 35 [none] [.int s0] (V S) := by
  unfold Lr_isLetter_35 at h
  subst h
  exact g_iret (pc := 35) dX2_isLetter_35 rfl rfl (Nat.le_refl _) (Nat.le_refl _)
def Lr_isLetter_30  : Int32 := (Lr_isLetter_35 1)
set_option maxRecDepth 4000 in
theorem t_Lr_isLetter_30 {V : Sm → Wd} (hV : VwC V) {l : Launch} {Γ : Gm}  {S : Sm} {q : Int32} (h : Lr_isLetter_30 = q) : G mX2_isLetter l Γ (rmD 0 0 0) (mQ Γ (some (.int q)) (V S) 0 0) 0 0 30 [none] [] (V S) := by
  unfold Lr_isLetter_30 at h
  refine g_iconst (v := 1) (pc := 30) dX2_isLetter_30 (by decide) ?_
  refine g_goto (tgt := 35) (pc := 31) dX2_isLetter_31 (by decide) ?_
  exact t_Lr_isLetter_35 hV h
def Lr_isLetter (v0 : Int32) : Int32 := (if v0 = 99 then Lr_isLetter_30 else (if v0 = 108 then Lr_isLetter_30 else (if v0 = 97 then Lr_isLetter_30 else (if v0 = 98 then Lr_isLetter_30 else (if v0 = 103 then Lr_isLetter_30 else (Lr_isLetter_35 0))))))
set_option maxRecDepth 4000 in
theorem r_Lr_isLetter {V : Sm → Wd} (hV : VwC V) {v0 : Int32} {S : Sm} {q : Int32} (h : Lr_isLetter v0 = q) : Runs 0 mX2_isLetter [.int v0] (V S) (some (.int q)) (V S) 0 0 := by
  unfold Lr_isLetter at h
  refine Runs.of2 [some (.int v0)] 0 rfl rfl (Nat.le_of_ble_eq_true rfl) (fun l Γ => ?_)
  refine g_iload_n (pc := 0) dX2_isLetter_0 rfl ?_
  refine g_bipush (v := 99) (pc := 1) dX2_isLetter_1 (by decide) ?_
  refine g_icmp_eq (tgt := 30) (pc := 3) dX2_isLetter_3 (by decide) (fun c5 => ?_) (fun c5 => ?_)
  · rw [if_pos c5] at h
    refine g_wk [false] rfl ?_
    exact t_Lr_isLetter_30 hV h
  · rw [if_neg c5] at h
    refine g_iload_n (pc := 6) dX2_isLetter_6 rfl ?_
    refine g_bipush (v := 108) (pc := 7) dX2_isLetter_7 (by decide) ?_
    refine g_icmp_eq (tgt := 30) (pc := 9) dX2_isLetter_9 (by decide) (fun c4 => ?_) (fun c4 => ?_)
    · rw [if_pos c4] at h
      refine g_wk [false] rfl ?_
      exact t_Lr_isLetter_30 hV h
    · rw [if_neg c4] at h
      refine g_iload_n (pc := 12) dX2_isLetter_12 rfl ?_
      refine g_bipush (v := 97) (pc := 13) dX2_isLetter_13 (by decide) ?_
      refine g_icmp_eq (tgt := 30) (pc := 15) dX2_isLetter_15 (by decide) (fun c3 => ?_) (fun c3 => ?_)
      · rw [if_pos c3] at h
        refine g_wk [false] rfl ?_
        exact t_Lr_isLetter_30 hV h
      · rw [if_neg c3] at h
        refine g_iload_n (pc := 18) dX2_isLetter_18 rfl ?_
        refine g_bipush (v := 98) (pc := 19) dX2_isLetter_19 (by decide) ?_
        refine g_icmp_eq (tgt := 30) (pc := 21) dX2_isLetter_21 (by decide) (fun c2 => ?_) (fun c2 => ?_)
        · rw [if_pos c2] at h
          refine g_wk [false] rfl ?_
          exact t_Lr_isLetter_30 hV h
        · rw [if_neg c2] at h
          refine g_iload_n (pc := 24) dX2_isLetter_24 rfl ?_
          refine g_bipush (v := 103) (pc := 25) dX2_isLetter_25 (by decide) ?_
          refine g_icmp_ne (tgt := 34) (pc := 27) dX2_isLetter_27 (by decide) (fun c1 => ?_) (fun c1 => ?_)
          · rw [if_neg c1] at h
            refine g_iconst (v := 0) (pc := 34) dX2_isLetter_34 (by decide) ?_
            refine g_wk [false] rfl ?_
            exact t_Lr_isLetter_35 hV h
          · rw [if_pos c1] at h
            refine g_wk [false] rfl ?_
            exact t_Lr_isLetter_30 hV h
def Tp_isFaulty_13 (s0 : Int32) (S : Sm) : Int32 := (s0 &&& 1)
set_option maxRecDepth 4000 in
theorem t_Tp_isFaulty_13 {V : Sm → Wd} (hV : VwC V) {l : Launch} {Γ : Gm} {s0 : Int32} {S : Sm} {q : Int32} (h : Tp_isFaulty_13 s0 S = q) : G mX9_isFaulty l Γ (rmD 0 0 0) (mQ Γ (some (.int q)) (V S) 0 0) 0 0 13 [none] [.int s0] (V S) := by
  unfold Tp_isFaulty_13 at h
  subst h
  exact g_iret (pc := 13) dX9_isFaulty_13 rfl rfl (Nat.le_refl _) (Nat.le_refl _)
def Tp_isFaulty (S : Sm) : Int32 := (if (gi S 8 3) = ((-1)) then (Tp_isFaulty_13 0 S) else (Tp_isFaulty_13 1 S))
set_option maxRecDepth 4000 in
theorem r_Tp_isFaulty {V : Sm → Wd} (hV : VwC V)  {S : Sm} {q : Int32} (h : Tp_isFaulty S = q) : Runs 0 mX9_isFaulty [.ref 8] (V S) (some (.int q)) (V S) 0 0 := by
  unfold Tp_isFaulty at h
  refine Runs.of2 [some (.ref 8)] 0 rfl rfl (Nat.le_of_ble_eq_true rfl) (fun l Γ => ?_)
  refine g_aload_n (pc := 0) dX9_isFaulty_0 rfl ?_
  refine v_getI hV (pc := 1) dX9_isFaulty_1 fo_9_3 rfl k0_8 own_8 ?_
  refine g_iconst (v := (-1)) (pc := 4) dX9_isFaulty_4 (by decide) ?_
  refine g_icmp_eq (tgt := 12) (pc := 5) dX9_isFaulty_5 (by decide) (fun c1 => ?_) (fun c1 => ?_)
  · rw [if_pos c1] at h
    refine g_iconst (v := 0) (pc := 12) dX9_isFaulty_12 (by decide) ?_
    refine g_wk [false] rfl ?_
    exact t_Tp_isFaulty_13 hV h
  · rw [if_neg c1] at h
    refine g_iconst (v := 1) (pc := 8) dX9_isFaulty_8 (by decide) ?_
    refine g_goto (tgt := 13) (pc := 9) dX9_isFaulty_9 (by decide) ?_
    refine g_wk [false] rfl ?_
    exact t_Tp_isFaulty_13 hV h
def Tp_isDigitHere_48 (s0 : Int32) (S : Sm) : Int32 := (s0 &&& 1)
set_option maxRecDepth 4000 in
theorem t_Tp_isDigitHere_48 {V : Sm → Wd} (hV : VwC V) {l : Launch} {Γ : Gm} {s0 : Int32} {S : Sm} {q : Int32} (h : Tp_isDigitHere_48 s0 S = q) : G mX9_isDigitHere l Γ (rmD 1 0 0) (mQ Γ (some (.int q)) (V S) 0 0) 0 0 48 [none] [.int s0] (V S) := by
  unfold Tp_isDigitHere_48 at h
  subst h
  exact g_iret (pc := 48) dX9_isDigitHere_48 rfl rfl (Nat.le_refl _) (Nat.le_refl _)
def Tp_isDigitHere_47 (S : Sm) : Int32 := (Tp_isDigitHere_48 0 S)
set_option maxRecDepth 4000 in
theorem t_Tp_isDigitHere_47 {V : Sm → Wd} (hV : VwC V) {l : Launch} {Γ : Gm}  {S : Sm} {q : Int32} (h : Tp_isDigitHere_47 S = q) : G mX9_isDigitHere l Γ (rmD 1 0 0) (mQ Γ (some (.int q)) (V S) 0 0) 0 0 47 [none] [] (V S) := by
  unfold Tp_isDigitHere_47 at h
  refine g_iconst (v := 0) (pc := 47) dX9_isDigitHere_47 (by decide) ?_
  exact t_Tp_isDigitHere_48 hV h
def Tp_isDigitHere (S : Sm) : Int32 := (if (gi S 8 1) ≤ (gi S 8 2) then (Tp_isDigitHere_47 S) else (if (atF (gi S 9) 240 (gi S 8 2)) < 48 then (Tp_isDigitHere_47 S) else (if (57 : Int32) < (atF (gi S 9) 240 (gi S 8 2)) then (Tp_isDigitHere_47 S) else (Tp_isDigitHere_48 1 S))))
set_option maxRecDepth 4000 in
theorem r_Tp_isDigitHere {V : Sm → Wd} (hV : VwC V)  {S : Sm} {q : Int32} (h : Tp_isDigitHere S = q) : Runs 1 mX9_isDigitHere [.ref 8] (V S) (some (.int q)) (V S) 0 0 := by
  unfold Tp_isDigitHere at h
  refine Runs.of2 [some (.ref 8)] 0 rfl rfl (Nat.le_of_ble_eq_true rfl) (fun l Γ => ?_)
  refine g_aload_n (pc := 0) dX9_isDigitHere_0 rfl ?_
  refine v_getI hV (pc := 1) dX9_isDigitHere_1 fo_9_2 rfl k0_8 own_8 ?_
  refine g_aload_n (pc := 4) dX9_isDigitHere_4 rfl ?_
  refine v_getI hV (pc := 5) dX9_isDigitHere_5 fo_9_1 rfl k0_8 own_8 ?_
  refine g_icmp_ge (tgt := 47) (pc := 8) dX9_isDigitHere_8 (by decide) (fun c3 => ?_) (fun c3 => ?_)
  · rw [if_pos c3] at h
    refine g_wk [false] rfl ?_
    exact t_Tp_isDigitHere_47 hV h
  · rw [if_neg c3] at h
    refine g_aload_n (pc := 11) dX9_isDigitHere_11 rfl ?_
    refine v_getR hV (pc := 12) dX9_isDigitHere_12 fo_9_0 rfl k0_8 r0_8_0 ?_
    refine g_aload_n (pc := 15) dX9_isDigitHere_15 rfl ?_
    refine v_getI hV (pc := 16) dX9_isDigitHere_16 fo_9_2 rfl k0_8 own_8 ?_
    refine v_callNi (Mc := mX11_at) (v := atF (gi S 9) 240 (gi S 8 2)) (S1 := S) (As := [.ref 9, .int (gi S 8 2)]) (rest := []) (pc := 19) dX9_isDigitHere_19 nl_X9_57 mf_X11_at rfl rfl (Nat.le_of_ble_eq_true rfl) ⟨Nat.le_of_ble_eq_true rfl, Nat.le_of_ble_eq_true rfl⟩ (r_at hV k0_9 own_9 (by decide)) ?_
    refine g_bipush (v := 48) (pc := 22) dX9_isDigitHere_22 (by decide) ?_
    refine g_icmp_lt (tgt := 47) (pc := 24) dX9_isDigitHere_24 (by decide) (fun c2 => ?_) (fun c2 => ?_)
    · rw [if_pos c2] at h
      refine g_wk [false] rfl ?_
      exact t_Tp_isDigitHere_47 hV h
    · rw [if_neg c2] at h
      refine g_aload_n (pc := 27) dX9_isDigitHere_27 rfl ?_
      refine v_getR hV (pc := 28) dX9_isDigitHere_28 fo_9_0 rfl k0_8 r0_8_0 ?_
      refine g_aload_n (pc := 31) dX9_isDigitHere_31 rfl ?_
      refine v_getI hV (pc := 32) dX9_isDigitHere_32 fo_9_2 rfl k0_8 own_8 ?_
      refine v_callNi (Mc := mX11_at) (v := atF (gi S 9) 240 (gi S 8 2)) (S1 := S) (As := [.ref 9, .int (gi S 8 2)]) (rest := []) (pc := 35) dX9_isDigitHere_35 nl_X9_57 mf_X11_at rfl rfl (Nat.le_of_ble_eq_true rfl) ⟨Nat.le_of_ble_eq_true rfl, Nat.le_of_ble_eq_true rfl⟩ (r_at hV k0_9 own_9 (by decide)) ?_
      refine g_bipush (v := 57) (pc := 38) dX9_isDigitHere_38 (by decide) ?_
      refine g_icmp_gt (tgt := 47) (pc := 40) dX9_isDigitHere_40 (by decide) (fun c1 => ?_) (fun c1 => ?_)
      · rw [if_pos c1] at h
        refine g_wk [false] rfl ?_
        exact t_Tp_isDigitHere_47 hV h
      · rw [if_neg c1] at h
        refine g_iconst (v := 1) (pc := 43) dX9_isDigitHere_43 (by decide) ?_
        refine g_goto (tgt := 48) (pc := 44) dX9_isDigitHere_44 (by decide) ?_
        refine g_wk [false] rfl ?_
        exact t_Tp_isDigitHere_48 hV h
def hd_Tp_number_L23 (V : Sm → Wd) (l : Launch) (Γ : Gm) (rF : Option Value) (wF : Wd) (v1 : Int32) (q : Int32 × Int32 × Sm) : Prop := G mX9_number l Γ (rmD 2 0 0) (mQ Γ rF wF 0 0) 0 0 23 [some (.ref 8), some (.int v1), some (.int q.1), some (.int q.2.1)] [] (V q.2.2)
def ps_Tp_number_L23 (V : Sm → Wd) (l : Launch) (Γ : Gm) (rF : Option Value) (wF : Wd) (v1 : Int32) (x : Int32 × Sm) : Prop := (fun (a : Int32 × Sm) => G mX9_number l Γ (rmD 2 0 0) (mQ Γ rF wF 0 0) 0 0 78 [some (.ref 8), none, some (.int a.1), none] [] (V a.2)) x
def Tp_number_L23 (v1 : Int32) (q : Int32 × Int32 × Sm) : Option ((Int32 × Int32 × Sm) ⊕ (Int32 × Sm)) := (if v1 ≤ q.2.1 then (some (.inr (q.1, q.2.2))) else (if (Tp_isFaulty q.2.2) = 0 then (if (Tp_isDigitHere q.2.2) = 0 then (some (.inr (q.1, q.2.2))) else (some (.inl (((q.1 * 10) + (atF (gi q.2.2 9) 240 (gi q.2.2 8 2))) - 48, q.2.1 + 1, si q.2.2 8 2 ((gi q.2.2 8 2) + 1))))) else (some (.inr (q.1, q.2.2)))))
set_option maxRecDepth 4000 in
theorem t_Tp_number_L23 {V : Sm → Wd} (hV : VwC V) {l : Launch} {Γ : Gm} {rF : Option Value} {wF : Wd} {v1 : Int32} {q : Int32 × Int32 × Sm} {o : (Int32 × Int32 × Sm) ⊕ (Int32 × Sm)} (h : Tp_number_L23 v1 q = some o) (hK : Sum.elim (hd_Tp_number_L23 V l Γ rF wF v1) (ps_Tp_number_L23 V l Γ rF wF v1) o) : hd_Tp_number_L23 V l Γ rF wF v1 q := by
  unfold Tp_number_L23 at h
  unfold hd_Tp_number_L23
  refine g_iload_n (pc := 23) dX9_number_23 rfl ?_
  refine g_iload_n (pc := 24) dX9_number_24 rfl ?_
  refine g_icmp_ge (tgt := 78) (pc := 25) dX9_number_25 (by decide) (fun c5 => ?_) (fun c5 => ?_)
  · rw [if_pos c5] at h
    refine g_wk [true, false, true, false] rfl ?_
    cases h
    exact hK
  · rw [if_neg c5] at h
    refine g_aload_n (pc := 28) dX9_number_28 rfl ?_
    refine v_callVi hV (Mc := mX9_isFaulty) (v := Tp_isFaulty q.2.2) (S1 := q.2.2) (As := []) (rest := []) (q := (RX9, TX9, 4)) (pc := 29) dX9_number_29 mK_X9_53 mf_X9_isFaulty rfl k0_8 rfl rfl rfl (Nat.le_of_ble_eq_true rfl) ⟨Nat.le_of_ble_eq_true rfl, Nat.le_of_ble_eq_true rfl⟩ (r_Tp_isFaulty hV rfl) ?_
    refine g_if_ne (tgt := 78) (pc := 32) dX9_number_32 (by decide) (fun c4 => ?_) (fun c4 => ?_)
    · rw [if_neg c4] at h
      refine g_wk [true, false, true, false] rfl ?_
      cases h
      exact hK
    · rw [if_pos c4] at h
      refine g_aload_n (pc := 35) dX9_number_35 rfl ?_
      refine v_callVi hV (Mc := mX9_isDigitHere) (v := Tp_isDigitHere q.2.2) (S1 := q.2.2) (As := []) (rest := []) (q := (RX9, TX9, 4)) (pc := 36) dX9_number_36 mK_X9_61 mf_X9_isDigitHere rfl k0_8 rfl rfl rfl (Nat.le_of_ble_eq_true rfl) ⟨Nat.le_of_ble_eq_true rfl, Nat.le_of_ble_eq_true rfl⟩ (r_Tp_isDigitHere hV rfl) ?_
      refine g_if_eq (tgt := 78) (pc := 39) dX9_number_39 (by decide) (fun c3 => ?_) (fun c3 => ?_)
      · rw [if_pos c3] at h
        refine g_wk [true, false, true, false] rfl ?_
        cases h
        exact hK
      · rw [if_neg c3] at h
        refine g_iload_n (pc := 42) dX9_number_42 rfl ?_
        refine g_bipush (v := 10) (pc := 43) dX9_number_43 (by decide) ?_
        refine g_imul (pc := 45) dX9_number_45 ?_
        refine g_aload_n (pc := 46) dX9_number_46 rfl ?_
        refine v_getR hV (pc := 47) dX9_number_47 fo_9_0 rfl k0_8 r0_8_0 ?_
        refine g_aload_n (pc := 50) dX9_number_50 rfl ?_
        refine v_getI hV (pc := 51) dX9_number_51 fo_9_2 rfl k0_8 own_8 ?_
        refine v_callNi (Mc := mX11_at) (v := atF (gi q.2.2 9) 240 (gi q.2.2 8 2)) (S1 := q.2.2) (As := [.ref 9, .int (gi q.2.2 8 2)]) (rest := [.int (q.1 * 10)]) (pc := 54) dX9_number_54 nl_X9_57 mf_X11_at rfl rfl (Nat.le_of_ble_eq_true rfl) ⟨Nat.le_of_ble_eq_true rfl, Nat.le_of_ble_eq_true rfl⟩ (r_at hV k0_9 own_9 (by decide)) ?_
        refine g_iadd (pc := 57) dX9_number_57 ?_
        refine g_bipush (v := 48) (pc := 58) dX9_number_58 (by decide) ?_
        refine g_isub (pc := 60) dX9_number_60 ?_
        refine g_istore_n (ls1 := [some (.ref 8), some (.int v1), some (.int (((q.1 * 10) + (atF (gi q.2.2 9) 240 (gi q.2.2 8 2))) - 48)), some (.int q.2.1)]) (pc := 61) dX9_number_61 (by decide) rfl ?_
        refine g_aload_n (pc := 62) dX9_number_62 rfl ?_
        refine g_dup (pc := 63) dX9_number_63 rfl ?_
        refine v_getI hV (pc := 64) dX9_number_64 fo_9_2 rfl k0_8 own_8 ?_
        refine g_iconst (v := 1) (pc := 67) dX9_number_67 (by decide) ?_
        refine g_iadd (pc := 68) dX9_number_68 ?_
        refine v_putI hV (pc := 69) dX9_number_69 fo_9_2 rfl k0_8 own_8 rfl ?_
        refine g_iinc (v := q.2.1 + 1) (ls1 := [some (.ref 8), some (.int v1), some (.int (((q.1 * 10) + (atF (gi q.2.2 9) 240 (gi q.2.2 8 2))) - 48)), some (.int (q.2.1 + 1))]) (pc := 72) dX9_number_72 rfl rfl (by decide) rfl ?_
        refine g_goto (tgt := 23) (pc := 75) dX9_number_75 (by decide) ?_
        cases h
        exact hK
set_option maxRecDepth 4000 in
theorem w_Tp_number_L23 {V : Sm → Wd} (hV : VwC V) {l : Launch} {Γ : Gm} {rF : Option Value} {wF : Wd} {v1 : Int32} {k : Nat} {q : Int32 × Int32 × Sm} {o : Int32 × Sm} (h : lpN (Tp_number_L23 v1) k q = some o) (hP : ps_Tp_number_L23 V l Γ rF wF v1 o) : hd_Tp_number_L23 V l Γ rF wF v1 q := lpN_ind2 (hd_Tp_number_L23 V l Γ rF wF v1) (ps_Tp_number_L23 V l Γ rF wF v1) (fun s o h hK => t_Tp_number_L23 hV h hK) k q o h hP
def Tp_number_89 (v2 : Int32) (S : Sm) : Option (Int32 × Sm) := (some ((v2, S)))
set_option maxRecDepth 4000 in
theorem t_Tp_number_89 {V : Sm → Wd} (hV : VwC V) {l : Launch} {Γ : Gm} {v2 : Int32} {S : Sm} {q : Int32 × Sm} (h : Tp_number_89 v2 S = some q) : G mX9_number l Γ (rmD 2 0 0) (mQ Γ (some (.int q.1)) (V q.2) 0 0) 0 0 89 [none, none, some (.int v2), none] [] (V S) := by
  unfold Tp_number_89 at h
  refine g_iload_n (pc := 89) dX9_number_89 rfl ?_
  cases h
  exact g_iret (pc := 90) dX9_number_90 rfl rfl (Nat.le_refl _) (Nat.le_refl _)
def Tp_number_21 (v1 : Int32) (v2 : Int32) (S : Sm) : Option (Int32 × Sm) := ((lpN (Tp_number_L23 v1) FU (v2, 0, S)).bind fun q6 => (if (Tp_isDigitHere q6.2) = 0 then (Tp_number_89 q6.1 q6.2) else (app (Tp_fail q6.2) fun q7 => (Tp_number_89 q6.1 q7))))
set_option maxRecDepth 4000 in
theorem t_Tp_number_21 {V : Sm → Wd} (hV : VwC V) {l : Launch} {Γ : Gm} {v1 : Int32} {v2 : Int32} {S : Sm} {q : Int32 × Sm} (h : Tp_number_21 v1 v2 S = some q) : G mX9_number l Γ (rmD 2 0 0) (mQ Γ (some (.int q.1)) (V q.2) 0 0) 0 0 21 [some (.ref 8), some (.int v1), some (.int v2), none] [] (V S) := by
  unfold Tp_number_21 at h
  refine g_iconst (v := 0) (pc := 21) dX9_number_21 (by decide) ?_
  refine g_istore_n (ls1 := [some (.ref 8), some (.int v1), some (.int v2), some (.int 0)]) (pc := 22) dX9_number_22 (by decide) rfl ?_
  obtain ⟨q6, hqq6, h⟩ := bnd h
  refine w_Tp_number_L23 hV hqq6 ?_
  unfold ps_Tp_number_L23
  show G _ _ _ _ _ _ _ _ _ _ _
  refine g_aload_n (pc := 78) dX9_number_78 rfl ?_
  refine v_callVi hV (Mc := mX9_isDigitHere) (v := Tp_isDigitHere q6.2) (S1 := q6.2) (As := []) (rest := []) (q := (RX9, TX9, 4)) (pc := 79) dX9_number_79 mK_X9_61 mf_X9_isDigitHere rfl k0_8 rfl rfl rfl (Nat.le_of_ble_eq_true rfl) ⟨Nat.le_of_ble_eq_true rfl, Nat.le_of_ble_eq_true rfl⟩ (r_Tp_isDigitHere hV rfl) ?_
  refine g_if_eq (tgt := 89) (pc := 82) dX9_number_82 (by decide) (fun c8 => ?_) (fun c8 => ?_)
  · rw [if_pos c8] at h
    refine g_wk [false, false, true, false] rfl ?_
    exact t_Tp_number_89 hV h
  · rw [if_neg c8] at h
    refine g_aload_n (pc := 85) dX9_number_85 rfl ?_
    obtain ⟨q7, hq7, h⟩ := app_of h
    refine v_callVv hV (Mc := mX9_fail) (S1 := q7) (As := []) (rest := []) (q := (RX9, TX9, 4)) (pc := 86) dX9_number_86 mK_X9_47 mf_X9_fail rfl k0_8 rfl rfl rfl (Nat.le_of_ble_eq_true rfl) ⟨Nat.le_of_ble_eq_true rfl, Nat.le_of_ble_eq_true rfl⟩ (r_Tp_fail hV hq7) ?_
    refine g_wk [false, false, true, false] rfl ?_
    exact t_Tp_number_89 hV h
def Tp_number_17 (v1 : Int32) (v2 : Int32) (S : Sm) : Option (Int32 × Sm) := (app (Tp_fail S) fun q2 => (Tp_number_21 v1 v2 q2))
set_option maxRecDepth 4000 in
theorem t_Tp_number_17 {V : Sm → Wd} (hV : VwC V) {l : Launch} {Γ : Gm} {v1 : Int32} {v2 : Int32} {S : Sm} {q : Int32 × Sm} (h : Tp_number_17 v1 v2 S = some q) : G mX9_number l Γ (rmD 2 0 0) (mQ Γ (some (.int q.1)) (V q.2) 0 0) 0 0 17 [some (.ref 8), some (.int v1), some (.int v2), none] [] (V S) := by
  unfold Tp_number_17 at h
  refine g_aload_n (pc := 17) dX9_number_17 rfl ?_
  obtain ⟨q2, hq2, h⟩ := app_of h
  refine v_callVv hV (Mc := mX9_fail) (S1 := q2) (As := []) (rest := []) (q := (RX9, TX9, 4)) (pc := 18) dX9_number_18 mK_X9_47 mf_X9_fail rfl k0_8 rfl rfl rfl (Nat.le_of_ble_eq_true rfl) ⟨Nat.le_of_ble_eq_true rfl, Nat.le_of_ble_eq_true rfl⟩ (r_Tp_fail hV hq2) ?_
  exact t_Tp_number_21 hV h
def Tp_number (v1 : Int32) (S : Sm) : Option (Int32 × Sm) := ((Tp_sign S).bind fun q1 => (if q1.1 = ((-1)) then (Tp_number_17 v1 0 q1.2) else (if (Tp_isDigitHere q1.2) = 0 then (Tp_number_17 v1 0 q1.2) else (Tp_number_21 v1 0 q1.2))))
set_option maxRecDepth 4000 in
theorem r_Tp_number {V : Sm → Wd} (hV : VwC V) {v1 : Int32} {S : Sm} {q : Int32 × Sm} (h : Tp_number v1 S = some q) : Runs 2 mX9_number [.ref 8, .int v1] (V S) (some (.int q.1)) (V q.2) 0 0 := by
  unfold Tp_number at h
  refine Runs.of2 [some (.ref 8), some (.int v1), none, none] 2 rfl rfl (Nat.le_of_ble_eq_true rfl) (fun l Γ => ?_)
  refine g_iconst (v := 0) (pc := 0) dX9_number_0 (by decide) ?_
  refine g_istore_n (ls1 := [some (.ref 8), some (.int v1), some (.int 0), none]) (pc := 1) dX9_number_1 (by decide) rfl ?_
  refine g_aload_n (pc := 2) dX9_number_2 rfl ?_
  obtain ⟨q1, hq1, h⟩ := bnd h
  refine v_callVi hV (Mc := mX9_sign) (v := q1.1) (S1 := q1.2) (As := []) (rest := []) (q := (RX9, TX9, 4)) (pc := 3) dX9_number_3 mK_X9_43 mf_X9_sign rfl k0_8 rfl rfl rfl (Nat.le_of_ble_eq_true rfl) ⟨Nat.le_of_ble_eq_true rfl, Nat.le_of_ble_eq_true rfl⟩ (r_Tp_sign hV hq1) ?_
  refine g_iconst (v := (-1)) (pc := 6) dX9_number_6 (by decide) ?_
  refine g_icmp_eq (tgt := 17) (pc := 7) dX9_number_7 (by decide) (fun c10 => ?_) (fun c10 => ?_)
  · rw [if_pos c10] at h
    exact t_Tp_number_17 hV h
  · rw [if_neg c10] at h
    refine g_aload_n (pc := 10) dX9_number_10 rfl ?_
    refine v_callVi hV (Mc := mX9_isDigitHere) (v := Tp_isDigitHere q1.2) (S1 := q1.2) (As := []) (rest := []) (q := (RX9, TX9, 4)) (pc := 11) dX9_number_11 mK_X9_61 mf_X9_isDigitHere rfl k0_8 rfl rfl rfl (Nat.le_of_ble_eq_true rfl) ⟨Nat.le_of_ble_eq_true rfl, Nat.le_of_ble_eq_true rfl⟩ (r_Tp_isDigitHere hV rfl) ?_
    refine g_if_ne (tgt := 21) (pc := 14) dX9_number_14 (by decide) (fun c9 => ?_) (fun c9 => ?_)
    · rw [if_neg c9] at h
      exact t_Tp_number_21 hV h
    · rw [if_pos c9] at h
      exact t_Tp_number_17 hV h
def Lr_opens (v1 : Int32) (v2 : Int32) (S : Sm) : Option (Int32 × Sm) := (if v2 < 6 then ((Tp_take v1 S).bind fun q1 => (some ((q1.1 &&& 1, q1.2)))) else (app (Tp_fail S) fun q2 => (some ((0, q2)))))
set_option maxRecDepth 4000 in
theorem r_Lr_opens {V : Sm → Wd} (hV : VwC V) {v1 : Int32} {v2 : Int32} {S : Sm} {q : Int32 × Sm} (h : Lr_opens v1 v2 S = some q) : Runs 3 mX2_opens [.ref 24, .int v1, .int v2] (V S) (some (.int q.1)) (V q.2) 0 0 := by
  unfold Lr_opens at h
  refine Runs.of2 [some (.ref 24), some (.int v1), some (.int v2)] 0 rfl rfl (Nat.le_of_ble_eq_true rfl) (fun l Γ => ?_)
  refine g_iload_n (pc := 0) dX2_opens_0 rfl ?_
  refine g_bipush (v := 6) (pc := 1) dX2_opens_1 (by decide) ?_
  refine g_icmp_lt (tgt := 15) (pc := 3) dX2_opens_3 (by decide) (fun c3 => ?_) (fun c3 => ?_)
  · rw [if_pos c3] at h
    refine g_aload_n (pc := 15) dX2_opens_15 rfl ?_
    refine v_getR hV (pc := 16) dX2_opens_16 fo_2_0 rfl k0_24 r0_24_0 ?_
    refine g_iload_n (pc := 19) dX2_opens_19 rfl ?_
    obtain ⟨q1, hq1, h⟩ := bnd h
    refine v_callVi hV (Mc := mX9_take) (v := q1.1) (S1 := q1.2) (As := [.int v1]) (rest := []) (q := (RX9, TX9, 4)) (pc := 20) dX2_opens_20 mK_X2_70 mf_X9_take rfl k0_8 rfl rfl rfl (Nat.le_of_ble_eq_true rfl) ⟨Nat.le_of_ble_eq_true rfl, Nat.le_of_ble_eq_true rfl⟩ (r_Tp_take hV hq1) ?_
    cases h
    exact g_iret (pc := 23) dX2_opens_23 rfl rfl (Nat.le_refl _) (Nat.le_refl _)
  · rw [if_neg c3] at h
    refine g_aload_n (pc := 6) dX2_opens_6 rfl ?_
    refine v_getR hV (pc := 7) dX2_opens_7 fo_2_0 rfl k0_24 r0_24_0 ?_
    obtain ⟨q2, hq2, h⟩ := app_of h
    refine v_callVv hV (Mc := mX9_fail) (S1 := q2) (As := []) (rest := []) (q := (RX9, TX9, 4)) (pc := 10) dX2_opens_10 mK_X2_67 mf_X9_fail rfl k0_8 rfl rfl rfl (Nat.le_of_ble_eq_true rfl) ⟨Nat.le_of_ble_eq_true rfl, Nat.le_of_ble_eq_true rfl⟩ (r_Tp_fail hV hq2) ?_
    refine g_iconst (v := 0) (pc := 13) dX2_opens_13 (by decide) ?_
    cases h
    exact g_iret (u := 0) (pc := 14) dX2_opens_14 rfl (by decide) (Nat.le_refl _) (Nat.le_refl _)
def hd_Lr_readSum_L7 (V : Sm → Wd) (D0 : Nat) (l : Launch) (Γ : Gm) (rF : Option Value) (wF : Wd) (v1 : Int32) (q : Int32 × Sm) : Prop := G mX2_readSum l Γ (rmD (D0 + 1) 0 0) (mQ Γ rF wF 0 0) 0 0 7 [some (.ref 24), some (.int v1), some (.int q.1), none] [] (V q.2)
def ps_Lr_readSum_L7 (V : Sm → Wd) (D0 : Nat) (l : Launch) (Γ : Gm) (rF : Option Value) (wF : Wd) (v1 : Int32) (x : (Sm) ⊕ (Sm)) : Prop := (Sum.elim (fun (a : Sm) => G mX2_readSum l Γ (rmD (D0 + 1) 0 0) (mQ Γ rF wF 0 0) 0 0 34 [none, none, none, none] [] (V a)) (fun (a : Sm) => G mX2_readSum l Γ (rmD (D0 + 1) 0 0) (mQ Γ rF wF 0 0) 0 0 64 [none, none, none, none] [] (V a))) x
def Lr_readSum_35_L7 (rc : Nat → Int32 → Sm → Option Sm) (v1 : Int32) (v2 : Int32) (v3 : Int32) (S : Sm) : Option ((Int32 × Sm) ⊕ ((Sm) ⊕ (Sm))) := ((Tp_take v3 S).bind fun q3 => ((rc 1 v1 q3.2).bind fun q4 => (app (La_write (-v3) q4) fun q5 => (some (.inl (v2 + 1, q5))))))
set_option maxRecDepth 4000 in
theorem t_Lr_readSum_35_L7 {V : Sm → Wd} (hV : VwC V) {D0 : Nat} (hD0 : 3 ≤ D0) {rc : Nat → Int32 → Sm → Option Sm} (hrc : (∀ (u0 : Int32) (S q : Sm), rc 0 u0 S = some q → Runs D0 mX2_readSum [.ref 24, .int u0] (V S) none (V q) 0 0) ∧ (∀ (u0 : Int32) (S q : Sm), rc 1 u0 S = some q → Runs D0 mX2_readTerm [.ref 24, .int u0] (V S) none (V q) 0 0) ∧ (∀ (u0 : Int32) (S q : Sm), rc 2 u0 S = some q → Runs D0 mX2_readAtom [.ref 24, .int u0] (V S) none (V q) 0 0)) {l : Launch} {Γ : Gm} {v1 : Int32} {v2 : Int32} {v3 : Int32} {rF : Option Value} {wF : Wd} {S : Sm} {o : (Int32 × Sm) ⊕ ((Sm) ⊕ (Sm))} (h : Lr_readSum_35_L7 rc v1 v2 v3 S = some o) (hK : Sum.elim (hd_Lr_readSum_L7 V D0 l Γ rF wF v1) (ps_Lr_readSum_L7 V D0 l Γ rF wF v1) o) : G mX2_readSum l Γ (rmD (D0 + 1) 0 0) (mQ Γ rF wF 0 0) 0 0 35 [some (.ref 24), some (.int v1), some (.int v2), some (.int v3)] [] (V S) := by
  unfold Lr_readSum_35_L7 at h
  refine g_aload_n (pc := 35) dX2_readSum_35 rfl ?_
  refine v_getR hV (pc := 36) dX2_readSum_36 fo_2_0 rfl k0_24 r0_24_0 ?_
  refine g_iload_n (pc := 39) dX2_readSum_39 rfl ?_
  obtain ⟨q3, hq3, h⟩ := bnd h
  refine v_callVi hV (Mc := mX9_take) (v := q3.1) (S1 := q3.2) (As := [.int v3]) (rest := []) (q := (RX9, TX9, 4)) (pc := 40) dX2_readSum_40 mK_X2_70 mf_X9_take rfl k0_8 rfl rfl rfl (Nat.le_of_ble_eq_true rfl) ⟨by show 2 + 1 ≤ D0 + 1; omega, by show 8 + (3 + 11) + 64 * 2 ≤ 64 * (D0 + 1); omega⟩ (r_Tp_take hV hq3) ?_
  refine g_pop (pc := 43) dX2_readSum_43 rfl ?_
  refine g_aload_n (pc := 44) dX2_readSum_44 rfl ?_
  refine g_iload_n (pc := 45) dX2_readSum_45 rfl ?_
  obtain ⟨q4, hq4, h⟩ := bnd h
  refine v_callVv hV (Mc := mX2_readTerm) (S1 := q4) (As := [.int v1]) (rest := []) (q := (RX2, TX2, 2)) (pc := 46) dX2_readSum_46 mK_X2_80 mf_X2_readTerm rfl k0_24 rfl rfl rfl (Nat.le_of_ble_eq_true rfl) ⟨by show D0 + 1 ≤ D0 + 1; omega, by show 8 + (4 + 11) + 64 * D0 ≤ 64 * (D0 + 1); omega⟩ (hrc.2.1 _ _ _ hq4) ?_
  refine g_aload_n (pc := 49) dX2_readSum_49 rfl ?_
  refine v_getR hV (pc := 50) dX2_readSum_50 fo_2_1 rfl k0_24 r0_24_1 ?_
  refine g_iload_n (pc := 53) dX2_readSum_53 rfl ?_
  refine g_ineg (pc := 54) dX2_readSum_54 ?_
  obtain ⟨q5, hq5, h⟩ := app_of h
  refine v_callVv hV (Mc := mX3_write) (S1 := q5) (As := [.int (-v3)]) (rest := []) (q := (RX3, TX3, 6)) (pc := 55) dX2_readSum_55 mK_X2_64 mf_X3_write rfl k0_20 rfl rfl rfl (Nat.le_of_ble_eq_true rfl) ⟨by show 1 + 1 ≤ D0 + 1; omega, by show 8 + (3 + 11) + 64 * 1 ≤ 64 * (D0 + 1); omega⟩ (r_La_write hV hq5) ?_
  refine g_iinc (v := v2 + 1) (ls1 := [some (.ref 24), some (.int v1), some (.int (v2 + 1)), some (.int v3)]) (pc := 58) dX2_readSum_58 rfl rfl (by decide) rfl ?_
  refine g_goto (tgt := 7) (pc := 61) dX2_readSum_61 (by decide) ?_
  refine g_wk [true, true, true, false] rfl ?_
  cases h
  exact hK
def Lr_readSum_L7 (rc : Nat → Int32 → Sm → Option Sm) (v1 : Int32) (q : Int32 × Sm) : Option ((Int32 × Sm) ⊕ ((Sm) ⊕ (Sm))) := (if (240 : Int32) ≤ q.1 then (some (.inr (.inr q.2))) else ((Tp_sign q.2).bind fun q2 => (if q2.1 = 43 then (Lr_readSum_35_L7 rc v1 q.1 q2.1 q2.2) else (if q2.1 = 45 then (Lr_readSum_35_L7 rc v1 q.1 q2.1 q2.2) else (some (.inr (.inl q2.2)))))))
set_option maxRecDepth 4000 in
theorem t_Lr_readSum_L7 {V : Sm → Wd} (hV : VwC V) {D0 : Nat} (hD0 : 3 ≤ D0) {rc : Nat → Int32 → Sm → Option Sm} (hrc : (∀ (u0 : Int32) (S q : Sm), rc 0 u0 S = some q → Runs D0 mX2_readSum [.ref 24, .int u0] (V S) none (V q) 0 0) ∧ (∀ (u0 : Int32) (S q : Sm), rc 1 u0 S = some q → Runs D0 mX2_readTerm [.ref 24, .int u0] (V S) none (V q) 0 0) ∧ (∀ (u0 : Int32) (S q : Sm), rc 2 u0 S = some q → Runs D0 mX2_readAtom [.ref 24, .int u0] (V S) none (V q) 0 0)) {l : Launch} {Γ : Gm} {rF : Option Value} {wF : Wd} {v1 : Int32} {q : Int32 × Sm} {o : (Int32 × Sm) ⊕ ((Sm) ⊕ (Sm))} (h : Lr_readSum_L7 rc v1 q = some o) (hK : Sum.elim (hd_Lr_readSum_L7 V D0 l Γ rF wF v1) (ps_Lr_readSum_L7 V D0 l Γ rF wF v1) o) : hd_Lr_readSum_L7 V D0 l Γ rF wF v1 q := by
  unfold Lr_readSum_L7 at h
  unfold hd_Lr_readSum_L7
  refine g_iload_n (pc := 7) dX2_readSum_7 rfl ?_
  refine g_sipush (v := 240) (pc := 8) dX2_readSum_8 (by decide) ?_
  refine g_icmp_ge (tgt := 64) (pc := 11) dX2_readSum_11 (by decide) (fun c8 => ?_) (fun c8 => ?_)
  · rw [if_pos c8] at h
    refine g_wk [false, false, false, false] rfl ?_
    cases h
    exact hK
  · rw [if_neg c8] at h
    refine g_aload_n (pc := 14) dX2_readSum_14 rfl ?_
    refine v_getR hV (pc := 15) dX2_readSum_15 fo_2_0 rfl k0_24 r0_24_0 ?_
    obtain ⟨q2, hq2, h⟩ := bnd h
    refine v_callVi hV (Mc := mX9_sign) (v := q2.1) (S1 := q2.2) (As := []) (rest := []) (q := (RX9, TX9, 4)) (pc := 18) dX2_readSum_18 mK_X2_42 mf_X9_sign rfl k0_8 rfl rfl rfl (Nat.le_of_ble_eq_true rfl) ⟨by show 1 + 1 ≤ D0 + 1; omega, by show 8 + (2 + 11) + 64 * 1 ≤ 64 * (D0 + 1); omega⟩ (r_Tp_sign hV hq2) ?_
    refine g_istore_n (ls1 := [some (.ref 24), some (.int v1), some (.int q.1), some (.int q2.1)]) (pc := 21) dX2_readSum_21 (by decide) rfl ?_
    refine g_iload_n (pc := 22) dX2_readSum_22 rfl ?_
    refine g_bipush (v := 43) (pc := 23) dX2_readSum_23 (by decide) ?_
    refine g_icmp_eq (tgt := 35) (pc := 25) dX2_readSum_25 (by decide) (fun c7 => ?_) (fun c7 => ?_)
    · rw [if_pos c7] at h
      exact t_Lr_readSum_35_L7 hV hD0 hrc h hK
    · rw [if_neg c7] at h
      refine g_iload_n (pc := 28) dX2_readSum_28 rfl ?_
      refine g_bipush (v := 45) (pc := 29) dX2_readSum_29 (by decide) ?_
      refine g_icmp_eq (tgt := 35) (pc := 31) dX2_readSum_31 (by decide) (fun c6 => ?_) (fun c6 => ?_)
      · rw [if_pos c6] at h
        exact t_Lr_readSum_35_L7 hV hD0 hrc h hK
      · rw [if_neg c6] at h
        refine g_wk [false, false, false, false] rfl ?_
        cases h
        exact hK
set_option maxRecDepth 4000 in
theorem w_Lr_readSum_L7 {V : Sm → Wd} (hV : VwC V) {D0 : Nat} (hD0 : 3 ≤ D0) {rc : Nat → Int32 → Sm → Option Sm} (hrc : (∀ (u0 : Int32) (S q : Sm), rc 0 u0 S = some q → Runs D0 mX2_readSum [.ref 24, .int u0] (V S) none (V q) 0 0) ∧ (∀ (u0 : Int32) (S q : Sm), rc 1 u0 S = some q → Runs D0 mX2_readTerm [.ref 24, .int u0] (V S) none (V q) 0 0) ∧ (∀ (u0 : Int32) (S q : Sm), rc 2 u0 S = some q → Runs D0 mX2_readAtom [.ref 24, .int u0] (V S) none (V q) 0 0)) {l : Launch} {Γ : Gm} {rF : Option Value} {wF : Wd} {v1 : Int32} {k : Nat} {q : Int32 × Sm} {o : (Sm) ⊕ (Sm)} (h : lpN (Lr_readSum_L7 rc v1) k q = some o) (hP : ps_Lr_readSum_L7 V D0 l Γ rF wF v1 o) : hd_Lr_readSum_L7 V D0 l Γ rF wF v1 q := lpN_ind2 (hd_Lr_readSum_L7 V D0 l Γ rF wF v1) (ps_Lr_readSum_L7 V D0 l Γ rF wF v1) (fun s o h hK => t_Lr_readSum_L7 hV hD0 hrc h hK) k q o h hP
def Lr_readSum (rc : Nat → Int32 → Sm → Option Sm) (v1 : Int32) (S : Sm) : Option (Sm) := ((rc 1 v1 S).bind fun q1 => ((lpN (Lr_readSum_L7 rc v1) FU (0, q1)).bind fun q9 => (Sum.elim (fun a10 => (some a10)) (fun a11 => (some a11)) q9)))
set_option maxRecDepth 4000 in
theorem rb_Lr_readSum {V : Sm → Wd} (hV : VwC V) {D0 : Nat} (hD0 : 3 ≤ D0) {rc : Nat → Int32 → Sm → Option Sm} (hrc : (∀ (u0 : Int32) (S q : Sm), rc 0 u0 S = some q → Runs D0 mX2_readSum [.ref 24, .int u0] (V S) none (V q) 0 0) ∧ (∀ (u0 : Int32) (S q : Sm), rc 1 u0 S = some q → Runs D0 mX2_readTerm [.ref 24, .int u0] (V S) none (V q) 0 0) ∧ (∀ (u0 : Int32) (S q : Sm), rc 2 u0 S = some q → Runs D0 mX2_readAtom [.ref 24, .int u0] (V S) none (V q) 0 0)) {v1 : Int32} {S : Sm} {q : Sm} (h : Lr_readSum rc v1 S = some q) : Runs (D0 + 1) mX2_readSum [.ref 24, .int v1] (V S) none (V q) 0 0 := by
  unfold Lr_readSum at h
  refine Runs.of2 [some (.ref 24), some (.int v1), none, none] 2 rfl rfl (Nat.le_of_ble_eq_true rfl) (fun l Γ => ?_)
  refine g_aload_n (pc := 0) dX2_readSum_0 rfl ?_
  refine g_iload_n (pc := 1) dX2_readSum_1 rfl ?_
  obtain ⟨q1, hq1, h⟩ := bnd h
  refine v_callVv hV (Mc := mX2_readTerm) (S1 := q1) (As := [.int v1]) (rest := []) (q := (RX2, TX2, 2)) (pc := 2) dX2_readSum_2 mK_X2_80 mf_X2_readTerm rfl k0_24 rfl rfl rfl (Nat.le_of_ble_eq_true rfl) ⟨by show D0 + 1 ≤ D0 + 1; omega, by show 8 + (4 + 11) + 64 * D0 ≤ 64 * (D0 + 1); omega⟩ (hrc.2.1 _ _ _ hq1) ?_
  refine g_iconst (v := 0) (pc := 5) dX2_readSum_5 (by decide) ?_
  refine g_istore_n (ls1 := [some (.ref 24), some (.int v1), some (.int 0), none]) (pc := 6) dX2_readSum_6 (by decide) rfl ?_
  obtain ⟨q9, hqq9, h⟩ := bnd h
  refine w_Lr_readSum_L7 hV hD0 hrc hqq9 ?_
  unfold ps_Lr_readSum_L7
  cases q9 with
  | inl a10 =>
    simp only [Sum.elim_inl] at h
    show G _ _ _ _ _ _ _ _ _ _ _
    cases h
    exact g_vret (pc := 34) dX2_readSum_34 rfl (Nat.le_refl _) (Nat.le_refl _)
  | inr a11 =>
    simp only [Sum.elim_inr] at h
    show G _ _ _ _ _ _ _ _ _ _ _
    cases h
    exact g_vret (pc := 64) dX2_readSum_64 rfl (Nat.le_refl _) (Nat.le_refl _)
def hd_Lr_readTerm_L7 (V : Sm → Wd) (D0 : Nat) (l : Launch) (Γ : Gm) (rF : Option Value) (wF : Wd) (v1 : Int32) (q : Int32 × Sm) : Prop := G mX2_readTerm l Γ (rmD (D0 + 1) 0 0) (mQ Γ rF wF 0 0) 0 0 7 [some (.ref 24), some (.int v1), some (.int q.1), none] [] (V q.2)
def ps_Lr_readTerm_L7 (V : Sm → Wd) (D0 : Nat) (l : Launch) (Γ : Gm) (rF : Option Value) (wF : Wd) (v1 : Int32) (x : (Sm) ⊕ (Sm)) : Prop := (Sum.elim (fun (a : Sm) => G mX2_readTerm l Γ (rmD (D0 + 1) 0 0) (mQ Γ rF wF 0 0) 0 0 34 [none, none, none, none] [] (V a)) (fun (a : Sm) => G mX2_readTerm l Γ (rmD (D0 + 1) 0 0) (mQ Γ rF wF 0 0) 0 0 64 [none, none, none, none] [] (V a))) x
def Lr_readTerm_35_L7 (rc : Nat → Int32 → Sm → Option Sm) (v1 : Int32) (v2 : Int32) (v3 : Int32) (S : Sm) : Option ((Int32 × Sm) ⊕ ((Sm) ⊕ (Sm))) := ((Tp_take v3 S).bind fun q3 => ((rc 2 v1 q3.2).bind fun q4 => (app (La_write (-v3) q4) fun q5 => (some (.inl (v2 + 1, q5))))))
set_option maxRecDepth 4000 in
theorem t_Lr_readTerm_35_L7 {V : Sm → Wd} (hV : VwC V) {D0 : Nat} (hD0 : 3 ≤ D0) {rc : Nat → Int32 → Sm → Option Sm} (hrc : (∀ (u0 : Int32) (S q : Sm), rc 0 u0 S = some q → Runs D0 mX2_readSum [.ref 24, .int u0] (V S) none (V q) 0 0) ∧ (∀ (u0 : Int32) (S q : Sm), rc 1 u0 S = some q → Runs D0 mX2_readTerm [.ref 24, .int u0] (V S) none (V q) 0 0) ∧ (∀ (u0 : Int32) (S q : Sm), rc 2 u0 S = some q → Runs D0 mX2_readAtom [.ref 24, .int u0] (V S) none (V q) 0 0)) {l : Launch} {Γ : Gm} {v1 : Int32} {v2 : Int32} {v3 : Int32} {rF : Option Value} {wF : Wd} {S : Sm} {o : (Int32 × Sm) ⊕ ((Sm) ⊕ (Sm))} (h : Lr_readTerm_35_L7 rc v1 v2 v3 S = some o) (hK : Sum.elim (hd_Lr_readTerm_L7 V D0 l Γ rF wF v1) (ps_Lr_readTerm_L7 V D0 l Γ rF wF v1) o) : G mX2_readTerm l Γ (rmD (D0 + 1) 0 0) (mQ Γ rF wF 0 0) 0 0 35 [some (.ref 24), some (.int v1), some (.int v2), some (.int v3)] [] (V S) := by
  unfold Lr_readTerm_35_L7 at h
  refine g_aload_n (pc := 35) dX2_readTerm_35 rfl ?_
  refine v_getR hV (pc := 36) dX2_readTerm_36 fo_2_0 rfl k0_24 r0_24_0 ?_
  refine g_iload_n (pc := 39) dX2_readTerm_39 rfl ?_
  obtain ⟨q3, hq3, h⟩ := bnd h
  refine v_callVi hV (Mc := mX9_take) (v := q3.1) (S1 := q3.2) (As := [.int v3]) (rest := []) (q := (RX9, TX9, 4)) (pc := 40) dX2_readTerm_40 mK_X2_70 mf_X9_take rfl k0_8 rfl rfl rfl (Nat.le_of_ble_eq_true rfl) ⟨by show 2 + 1 ≤ D0 + 1; omega, by show 8 + (3 + 11) + 64 * 2 ≤ 64 * (D0 + 1); omega⟩ (r_Tp_take hV hq3) ?_
  refine g_pop (pc := 43) dX2_readTerm_43 rfl ?_
  refine g_aload_n (pc := 44) dX2_readTerm_44 rfl ?_
  refine g_iload_n (pc := 45) dX2_readTerm_45 rfl ?_
  obtain ⟨q4, hq4, h⟩ := bnd h
  refine v_callVv hV (Mc := mX2_readAtom) (S1 := q4) (As := [.int v1]) (rest := []) (q := (RX2, TX2, 2)) (pc := 46) dX2_readTerm_46 mK_X2_83 mf_X2_readAtom rfl k0_24 rfl rfl rfl (Nat.le_of_ble_eq_true rfl) ⟨by show D0 + 1 ≤ D0 + 1; omega, by show 8 + (3 + 11) + 64 * D0 ≤ 64 * (D0 + 1); omega⟩ (hrc.2.2 _ _ _ hq4) ?_
  refine g_aload_n (pc := 49) dX2_readTerm_49 rfl ?_
  refine v_getR hV (pc := 50) dX2_readTerm_50 fo_2_1 rfl k0_24 r0_24_1 ?_
  refine g_iload_n (pc := 53) dX2_readTerm_53 rfl ?_
  refine g_ineg (pc := 54) dX2_readTerm_54 ?_
  obtain ⟨q5, hq5, h⟩ := app_of h
  refine v_callVv hV (Mc := mX3_write) (S1 := q5) (As := [.int (-v3)]) (rest := []) (q := (RX3, TX3, 6)) (pc := 55) dX2_readTerm_55 mK_X2_64 mf_X3_write rfl k0_20 rfl rfl rfl (Nat.le_of_ble_eq_true rfl) ⟨by show 1 + 1 ≤ D0 + 1; omega, by show 8 + (3 + 11) + 64 * 1 ≤ 64 * (D0 + 1); omega⟩ (r_La_write hV hq5) ?_
  refine g_iinc (v := v2 + 1) (ls1 := [some (.ref 24), some (.int v1), some (.int (v2 + 1)), some (.int v3)]) (pc := 58) dX2_readTerm_58 rfl rfl (by decide) rfl ?_
  refine g_goto (tgt := 7) (pc := 61) dX2_readTerm_61 (by decide) ?_
  refine g_wk [true, true, true, false] rfl ?_
  cases h
  exact hK
def Lr_readTerm_L7 (rc : Nat → Int32 → Sm → Option Sm) (v1 : Int32) (q : Int32 × Sm) : Option ((Int32 × Sm) ⊕ ((Sm) ⊕ (Sm))) := (if (240 : Int32) ≤ q.1 then (some (.inr (.inr q.2))) else ((Tp_sign q.2).bind fun q2 => (if q2.1 = 42 then (Lr_readTerm_35_L7 rc v1 q.1 q2.1 q2.2) else (if q2.1 = 47 then (Lr_readTerm_35_L7 rc v1 q.1 q2.1 q2.2) else (some (.inr (.inl q2.2)))))))
set_option maxRecDepth 4000 in
theorem t_Lr_readTerm_L7 {V : Sm → Wd} (hV : VwC V) {D0 : Nat} (hD0 : 3 ≤ D0) {rc : Nat → Int32 → Sm → Option Sm} (hrc : (∀ (u0 : Int32) (S q : Sm), rc 0 u0 S = some q → Runs D0 mX2_readSum [.ref 24, .int u0] (V S) none (V q) 0 0) ∧ (∀ (u0 : Int32) (S q : Sm), rc 1 u0 S = some q → Runs D0 mX2_readTerm [.ref 24, .int u0] (V S) none (V q) 0 0) ∧ (∀ (u0 : Int32) (S q : Sm), rc 2 u0 S = some q → Runs D0 mX2_readAtom [.ref 24, .int u0] (V S) none (V q) 0 0)) {l : Launch} {Γ : Gm} {rF : Option Value} {wF : Wd} {v1 : Int32} {q : Int32 × Sm} {o : (Int32 × Sm) ⊕ ((Sm) ⊕ (Sm))} (h : Lr_readTerm_L7 rc v1 q = some o) (hK : Sum.elim (hd_Lr_readTerm_L7 V D0 l Γ rF wF v1) (ps_Lr_readTerm_L7 V D0 l Γ rF wF v1) o) : hd_Lr_readTerm_L7 V D0 l Γ rF wF v1 q := by
  unfold Lr_readTerm_L7 at h
  unfold hd_Lr_readTerm_L7
  refine g_iload_n (pc := 7) dX2_readTerm_7 rfl ?_
  refine g_sipush (v := 240) (pc := 8) dX2_readTerm_8 (by decide) ?_
  refine g_icmp_ge (tgt := 64) (pc := 11) dX2_readTerm_11 (by decide) (fun c8 => ?_) (fun c8 => ?_)
  · rw [if_pos c8] at h
    refine g_wk [false, false, false, false] rfl ?_
    cases h
    exact hK
  · rw [if_neg c8] at h
    refine g_aload_n (pc := 14) dX2_readTerm_14 rfl ?_
    refine v_getR hV (pc := 15) dX2_readTerm_15 fo_2_0 rfl k0_24 r0_24_0 ?_
    obtain ⟨q2, hq2, h⟩ := bnd h
    refine v_callVi hV (Mc := mX9_sign) (v := q2.1) (S1 := q2.2) (As := []) (rest := []) (q := (RX9, TX9, 4)) (pc := 18) dX2_readTerm_18 mK_X2_42 mf_X9_sign rfl k0_8 rfl rfl rfl (Nat.le_of_ble_eq_true rfl) ⟨by show 1 + 1 ≤ D0 + 1; omega, by show 8 + (2 + 11) + 64 * 1 ≤ 64 * (D0 + 1); omega⟩ (r_Tp_sign hV hq2) ?_
    refine g_istore_n (ls1 := [some (.ref 24), some (.int v1), some (.int q.1), some (.int q2.1)]) (pc := 21) dX2_readTerm_21 (by decide) rfl ?_
    refine g_iload_n (pc := 22) dX2_readTerm_22 rfl ?_
    refine g_bipush (v := 42) (pc := 23) dX2_readTerm_23 (by decide) ?_
    refine g_icmp_eq (tgt := 35) (pc := 25) dX2_readTerm_25 (by decide) (fun c7 => ?_) (fun c7 => ?_)
    · rw [if_pos c7] at h
      exact t_Lr_readTerm_35_L7 hV hD0 hrc h hK
    · rw [if_neg c7] at h
      refine g_iload_n (pc := 28) dX2_readTerm_28 rfl ?_
      refine g_bipush (v := 47) (pc := 29) dX2_readTerm_29 (by decide) ?_
      refine g_icmp_eq (tgt := 35) (pc := 31) dX2_readTerm_31 (by decide) (fun c6 => ?_) (fun c6 => ?_)
      · rw [if_pos c6] at h
        exact t_Lr_readTerm_35_L7 hV hD0 hrc h hK
      · rw [if_neg c6] at h
        refine g_wk [false, false, false, false] rfl ?_
        cases h
        exact hK
set_option maxRecDepth 4000 in
theorem w_Lr_readTerm_L7 {V : Sm → Wd} (hV : VwC V) {D0 : Nat} (hD0 : 3 ≤ D0) {rc : Nat → Int32 → Sm → Option Sm} (hrc : (∀ (u0 : Int32) (S q : Sm), rc 0 u0 S = some q → Runs D0 mX2_readSum [.ref 24, .int u0] (V S) none (V q) 0 0) ∧ (∀ (u0 : Int32) (S q : Sm), rc 1 u0 S = some q → Runs D0 mX2_readTerm [.ref 24, .int u0] (V S) none (V q) 0 0) ∧ (∀ (u0 : Int32) (S q : Sm), rc 2 u0 S = some q → Runs D0 mX2_readAtom [.ref 24, .int u0] (V S) none (V q) 0 0)) {l : Launch} {Γ : Gm} {rF : Option Value} {wF : Wd} {v1 : Int32} {k : Nat} {q : Int32 × Sm} {o : (Sm) ⊕ (Sm)} (h : lpN (Lr_readTerm_L7 rc v1) k q = some o) (hP : ps_Lr_readTerm_L7 V D0 l Γ rF wF v1 o) : hd_Lr_readTerm_L7 V D0 l Γ rF wF v1 q := lpN_ind2 (hd_Lr_readTerm_L7 V D0 l Γ rF wF v1) (ps_Lr_readTerm_L7 V D0 l Γ rF wF v1) (fun s o h hK => t_Lr_readTerm_L7 hV hD0 hrc h hK) k q o h hP
def Lr_readTerm (rc : Nat → Int32 → Sm → Option Sm) (v1 : Int32) (S : Sm) : Option (Sm) := ((rc 2 v1 S).bind fun q1 => ((lpN (Lr_readTerm_L7 rc v1) FU (0, q1)).bind fun q9 => (Sum.elim (fun a10 => (some a10)) (fun a11 => (some a11)) q9)))
set_option maxRecDepth 4000 in
theorem rb_Lr_readTerm {V : Sm → Wd} (hV : VwC V) {D0 : Nat} (hD0 : 3 ≤ D0) {rc : Nat → Int32 → Sm → Option Sm} (hrc : (∀ (u0 : Int32) (S q : Sm), rc 0 u0 S = some q → Runs D0 mX2_readSum [.ref 24, .int u0] (V S) none (V q) 0 0) ∧ (∀ (u0 : Int32) (S q : Sm), rc 1 u0 S = some q → Runs D0 mX2_readTerm [.ref 24, .int u0] (V S) none (V q) 0 0) ∧ (∀ (u0 : Int32) (S q : Sm), rc 2 u0 S = some q → Runs D0 mX2_readAtom [.ref 24, .int u0] (V S) none (V q) 0 0)) {v1 : Int32} {S : Sm} {q : Sm} (h : Lr_readTerm rc v1 S = some q) : Runs (D0 + 1) mX2_readTerm [.ref 24, .int v1] (V S) none (V q) 0 0 := by
  unfold Lr_readTerm at h
  refine Runs.of2 [some (.ref 24), some (.int v1), none, none] 2 rfl rfl (Nat.le_of_ble_eq_true rfl) (fun l Γ => ?_)
  refine g_aload_n (pc := 0) dX2_readTerm_0 rfl ?_
  refine g_iload_n (pc := 1) dX2_readTerm_1 rfl ?_
  obtain ⟨q1, hq1, h⟩ := bnd h
  refine v_callVv hV (Mc := mX2_readAtom) (S1 := q1) (As := [.int v1]) (rest := []) (q := (RX2, TX2, 2)) (pc := 2) dX2_readTerm_2 mK_X2_83 mf_X2_readAtom rfl k0_24 rfl rfl rfl (Nat.le_of_ble_eq_true rfl) ⟨by show D0 + 1 ≤ D0 + 1; omega, by show 8 + (3 + 11) + 64 * D0 ≤ 64 * (D0 + 1); omega⟩ (hrc.2.2 _ _ _ hq1) ?_
  refine g_iconst (v := 0) (pc := 5) dX2_readTerm_5 (by decide) ?_
  refine g_istore_n (ls1 := [some (.ref 24), some (.int v1), some (.int 0), none]) (pc := 6) dX2_readTerm_6 (by decide) rfl ?_
  obtain ⟨q9, hqq9, h⟩ := bnd h
  refine w_Lr_readTerm_L7 hV hD0 hrc hqq9 ?_
  unfold ps_Lr_readTerm_L7
  cases q9 with
  | inl a10 =>
    simp only [Sum.elim_inl] at h
    show G _ _ _ _ _ _ _ _ _ _ _
    cases h
    exact g_vret (pc := 34) dX2_readTerm_34 rfl (Nat.le_refl _) (Nat.le_refl _)
  | inr a11 =>
    simp only [Sum.elim_inr] at h
    show G _ _ _ _ _ _ _ _ _ _ _
    cases h
    exact g_vret (pc := 64) dX2_readTerm_64 rfl (Nat.le_refl _) (Nat.le_refl _)
def Lr_readAtom_85 (rc : Nat → Int32 → Sm → Option Sm) (S : Sm) : Option (Sm) := (some S)
set_option maxRecDepth 4000 in
theorem t_Lr_readAtom_85 {V : Sm → Wd} (hV : VwC V) {D0 : Nat} (hD0 : 3 ≤ D0) {rc : Nat → Int32 → Sm → Option Sm} (hrc : (∀ (u0 : Int32) (S q : Sm), rc 0 u0 S = some q → Runs D0 mX2_readSum [.ref 24, .int u0] (V S) none (V q) 0 0) ∧ (∀ (u0 : Int32) (S q : Sm), rc 1 u0 S = some q → Runs D0 mX2_readTerm [.ref 24, .int u0] (V S) none (V q) 0 0) ∧ (∀ (u0 : Int32) (S q : Sm), rc 2 u0 S = some q → Runs D0 mX2_readAtom [.ref 24, .int u0] (V S) none (V q) 0 0)) {l : Launch} {Γ : Gm}  {S : Sm} {q : Sm} (h : Lr_readAtom_85 rc S = some q) : G mX2_readAtom l Γ (rmD (D0 + 1) 0 0) (mQ Γ none (V q) 0 0) 0 0 85 [none, none, none] [] (V S) := by
  unfold Lr_readAtom_85 at h
  cases h
  exact g_vret (pc := 85) dX2_readAtom_85 rfl (Nat.le_refl _) (Nat.le_refl _)
def Lr_readAtom (rc : Nat → Int32 → Sm → Option Sm) (v1 : Int32) (S : Sm) : Option (Sm) := ((Tp_sign S).bind fun q1 => (if q1.1 = 91 then ((Lr_opens q1.1 v1 q1.2).bind fun q7 => (if q7.1 = 0 then (Lr_readAtom_85 rc q7.2) else ((rc 0 (v1 + 1) q7.2).bind fun q8 => ((Tp_need 93 q8).bind fun q9 => (Lr_readAtom_85 rc q9))))) else (if (Lr_isLetter q1.1) = 0 then ((Tp_number 4 q1.2).bind fun q2 => (app (La_write q2.1 q2.2) fun q3 => (Lr_readAtom_85 rc q3))) else ((Tp_take q1.1 q1.2).bind fun q4 => (app (La_write (-q1.1) q4.2) fun q5 => (Lr_readAtom_85 rc q5))))))
set_option maxRecDepth 4000 in
theorem rb_Lr_readAtom {V : Sm → Wd} (hV : VwC V) {D0 : Nat} (hD0 : 3 ≤ D0) {rc : Nat → Int32 → Sm → Option Sm} (hrc : (∀ (u0 : Int32) (S q : Sm), rc 0 u0 S = some q → Runs D0 mX2_readSum [.ref 24, .int u0] (V S) none (V q) 0 0) ∧ (∀ (u0 : Int32) (S q : Sm), rc 1 u0 S = some q → Runs D0 mX2_readTerm [.ref 24, .int u0] (V S) none (V q) 0 0) ∧ (∀ (u0 : Int32) (S q : Sm), rc 2 u0 S = some q → Runs D0 mX2_readAtom [.ref 24, .int u0] (V S) none (V q) 0 0)) {v1 : Int32} {S : Sm} {q : Sm} (h : Lr_readAtom rc v1 S = some q) : Runs (D0 + 1) mX2_readAtom [.ref 24, .int v1] (V S) none (V q) 0 0 := by
  unfold Lr_readAtom at h
  refine Runs.of2 [some (.ref 24), some (.int v1), none] 1 rfl rfl (Nat.le_of_ble_eq_true rfl) (fun l Γ => ?_)
  refine g_aload_n (pc := 0) dX2_readAtom_0 rfl ?_
  refine v_getR hV (pc := 1) dX2_readAtom_1 fo_2_0 rfl k0_24 r0_24_0 ?_
  obtain ⟨q1, hq1, h⟩ := bnd h
  refine v_callVi hV (Mc := mX9_sign) (v := q1.1) (S1 := q1.2) (As := []) (rest := []) (q := (RX9, TX9, 4)) (pc := 4) dX2_readAtom_4 mK_X2_42 mf_X9_sign rfl k0_8 rfl rfl rfl (Nat.le_of_ble_eq_true rfl) ⟨by show 1 + 1 ≤ D0 + 1; omega, by show 8 + (2 + 11) + 64 * 1 ≤ 64 * (D0 + 1); omega⟩ (r_Tp_sign hV hq1) ?_
  refine g_istore_n (ls1 := [some (.ref 24), some (.int v1), some (.int q1.1)]) (pc := 7) dX2_readAtom_7 (by decide) rfl ?_
  refine g_iload_n (pc := 8) dX2_readAtom_8 rfl ?_
  refine g_bipush (v := 91) (pc := 9) dX2_readAtom_9 (by decide) ?_
  refine g_icmp_ne (tgt := 42) (pc := 11) dX2_readAtom_11 (by decide) (fun c11 => ?_) (fun c11 => ?_)
  · rw [if_neg c11] at h
    refine g_iload_n (pc := 42) dX2_readAtom_42 rfl ?_
    refine v_callSi (Mc := mX2_isLetter) (v := Lr_isLetter q1.1) (S1 := q1.2) (As := [.int q1.1]) (rest := []) (pc := 43) dX2_readAtom_43 mK_X2_86 mf_X2_isLetter rfl rfl (Nat.le_of_ble_eq_true rfl) ⟨by show 0 + 1 ≤ D0 + 1; omega, by show 8 + (1 + 11) + 64 * 0 ≤ 64 * (D0 + 1); omega⟩ (r_Lr_isLetter hV rfl) ?_
    refine g_if_eq (tgt := 70) (pc := 46) dX2_readAtom_46 (by decide) (fun c6 => ?_) (fun c6 => ?_)
    · rw [if_pos c6] at h
      refine g_aload_n (pc := 70) dX2_readAtom_70 rfl ?_
      refine v_getR hV (pc := 71) dX2_readAtom_71 fo_2_1 rfl k0_24 r0_24_1 ?_
      refine g_aload_n (pc := 74) dX2_readAtom_74 rfl ?_
      refine v_getR hV (pc := 75) dX2_readAtom_75 fo_2_0 rfl k0_24 r0_24_0 ?_
      refine g_iconst (v := 4) (pc := 78) dX2_readAtom_78 (by decide) ?_
      obtain ⟨q2, hq2, h⟩ := bnd h
      refine v_callVi hV (Mc := mX9_number) (v := q2.1) (S1 := q2.2) (As := [.int 4]) (rest := [.ref 20]) (q := (RX9, TX9, 4)) (pc := 79) dX2_readAtom_79 mK_X2_89 mf_X9_number rfl k0_8 rfl rfl rfl (Nat.le_of_ble_eq_true rfl) ⟨by show 2 + 1 ≤ D0 + 1; omega, by show 8 + (4 + 11) + 64 * 2 ≤ 64 * (D0 + 1); omega⟩ (r_Tp_number hV hq2) ?_
      obtain ⟨q3, hq3, h⟩ := app_of h
      refine v_callVv hV (Mc := mX3_write) (S1 := q3) (As := [.int q2.1]) (rest := []) (q := (RX3, TX3, 6)) (pc := 82) dX2_readAtom_82 mK_X2_64 mf_X3_write rfl k0_20 rfl rfl rfl (Nat.le_of_ble_eq_true rfl) ⟨by show 1 + 1 ≤ D0 + 1; omega, by show 8 + (3 + 11) + 64 * 1 ≤ 64 * (D0 + 1); omega⟩ (r_La_write hV hq3) ?_
      refine g_wk [false, false, false] rfl ?_
      exact t_Lr_readAtom_85 hV hD0 hrc h
    · rw [if_neg c6] at h
      refine g_aload_n (pc := 49) dX2_readAtom_49 rfl ?_
      refine v_getR hV (pc := 50) dX2_readAtom_50 fo_2_0 rfl k0_24 r0_24_0 ?_
      refine g_iload_n (pc := 53) dX2_readAtom_53 rfl ?_
      obtain ⟨q4, hq4, h⟩ := bnd h
      refine v_callVi hV (Mc := mX9_take) (v := q4.1) (S1 := q4.2) (As := [.int q1.1]) (rest := []) (q := (RX9, TX9, 4)) (pc := 54) dX2_readAtom_54 mK_X2_70 mf_X9_take rfl k0_8 rfl rfl rfl (Nat.le_of_ble_eq_true rfl) ⟨by show 2 + 1 ≤ D0 + 1; omega, by show 8 + (3 + 11) + 64 * 2 ≤ 64 * (D0 + 1); omega⟩ (r_Tp_take hV hq4) ?_
      refine g_pop (pc := 57) dX2_readAtom_57 rfl ?_
      refine g_aload_n (pc := 58) dX2_readAtom_58 rfl ?_
      refine v_getR hV (pc := 59) dX2_readAtom_59 fo_2_1 rfl k0_24 r0_24_1 ?_
      refine g_iload_n (pc := 62) dX2_readAtom_62 rfl ?_
      refine g_ineg (pc := 63) dX2_readAtom_63 ?_
      obtain ⟨q5, hq5, h⟩ := app_of h
      refine v_callVv hV (Mc := mX3_write) (S1 := q5) (As := [.int (-q1.1)]) (rest := []) (q := (RX3, TX3, 6)) (pc := 64) dX2_readAtom_64 mK_X2_64 mf_X3_write rfl k0_20 rfl rfl rfl (Nat.le_of_ble_eq_true rfl) ⟨by show 1 + 1 ≤ D0 + 1; omega, by show 8 + (3 + 11) + 64 * 1 ≤ 64 * (D0 + 1); omega⟩ (r_La_write hV hq5) ?_
      refine g_goto (tgt := 85) (pc := 67) dX2_readAtom_67 (by decide) ?_
      refine g_wk [false, false, false] rfl ?_
      exact t_Lr_readAtom_85 hV hD0 hrc h
  · rw [if_pos c11] at h
    refine g_aload_n (pc := 14) dX2_readAtom_14 rfl ?_
    refine g_iload_n (pc := 15) dX2_readAtom_15 rfl ?_
    refine g_iload_n (pc := 16) dX2_readAtom_16 rfl ?_
    obtain ⟨q7, hq7, h⟩ := bnd h
    refine v_callVi hV (Mc := mX2_opens) (v := q7.1) (S1 := q7.2) (As := [.int q1.1, .int v1]) (rest := []) (q := (RX2, TX2, 2)) (pc := 17) dX2_readAtom_17 mK_X2_76 mf_X2_opens rfl k0_24 rfl rfl rfl (Nat.le_of_ble_eq_true rfl) ⟨by show 3 + 1 ≤ D0 + 1; omega, by show 8 + (3 + 11) + 64 * 3 ≤ 64 * (D0 + 1); omega⟩ (r_Lr_opens hV hq7) ?_
    refine g_if_eq (tgt := 85) (pc := 20) dX2_readAtom_20 (by decide) (fun c10 => ?_) (fun c10 => ?_)
    · rw [if_pos c10] at h
      refine g_wk [false, false, false] rfl ?_
      exact t_Lr_readAtom_85 hV hD0 hrc h
    · rw [if_neg c10] at h
      refine g_aload_n (pc := 23) dX2_readAtom_23 rfl ?_
      refine g_iload_n (pc := 24) dX2_readAtom_24 rfl ?_
      refine g_iconst (v := 1) (pc := 25) dX2_readAtom_25 (by decide) ?_
      refine g_iadd (pc := 26) dX2_readAtom_26 ?_
      obtain ⟨q8, hq8, h⟩ := bnd h
      refine v_callVv hV (Mc := mX2_readSum) (S1 := q8) (As := [.int (v1 + 1)]) (rest := []) (q := (RX2, TX2, 2)) (pc := 27) dX2_readAtom_27 mK_X2_48 mf_X2_readSum rfl k0_24 rfl rfl rfl (Nat.le_of_ble_eq_true rfl) ⟨by show D0 + 1 ≤ D0 + 1; omega, by show 8 + (4 + 11) + 64 * D0 ≤ 64 * (D0 + 1); omega⟩ (hrc.1 _ _ _ hq8) ?_
      refine g_aload_n (pc := 30) dX2_readAtom_30 rfl ?_
      refine v_getR hV (pc := 31) dX2_readAtom_31 fo_2_0 rfl k0_24 r0_24_0 ?_
      refine g_bipush (v := 93) (pc := 34) dX2_readAtom_34 (by decide) ?_
      obtain ⟨q9, hq9, h⟩ := bnd h
      refine v_callVv hV (Mc := mX9_need) (S1 := q9) (As := [.int 93]) (rest := []) (q := (RX9, TX9, 4)) (pc := 36) dX2_readAtom_36 mK_X2_38 mf_X9_need rfl k0_8 rfl rfl rfl (Nat.le_of_ble_eq_true rfl) ⟨by show 2 + 1 ≤ D0 + 1; omega, by show 8 + (2 + 11) + 64 * 2 ≤ 64 * (D0 + 1); omega⟩ (r_Tp_need hV hq9) ?_
      refine g_goto (tgt := 85) (pc := 39) dX2_readAtom_39 (by decide) ?_
      refine g_wk [false, false, false] rfl ?_
      exact t_Lr_readAtom_85 hV hD0 hrc h
def fLs : Nat → Nat → Int32 → Sm → Option Sm
  | 0, _, _, _ => none
  | D + 1, i, u0, S => if i = 0 then Lr_readSum (fLs D) u0 S else if i = 1 then Lr_readTerm (fLs D) u0 S else Lr_readAtom (fLs D) u0 S
set_option maxRecDepth 4000 in
theorem fLs_ok {V : Sm → Wd} (hV : VwC V) : ∀ D : Nat, (∀ (u0 : Int32) (S q : Sm), fLs D 0 u0 S = some q → Runs (3 + D) mX2_readSum [.ref 24, .int u0] (V S) none (V q) 0 0) ∧ (∀ (u0 : Int32) (S q : Sm), fLs D 1 u0 S = some q → Runs (3 + D) mX2_readTerm [.ref 24, .int u0] (V S) none (V q) 0 0) ∧ (∀ (u0 : Int32) (S q : Sm), fLs D 2 u0 S = some q → Runs (3 + D) mX2_readAtom [.ref 24, .int u0] (V S) none (V q) 0 0)
  | 0 => ⟨fun _ _ _ h => (by cases h), fun _ _ _ h => (by cases h), fun _ _ _ h => (by cases h)⟩
  | D + 1 => ⟨fun u0 S q h => rb_Lr_readSum hV (D0 := 3 + D) (by omega) (fLs_ok hV D) h, fun u0 S q h => rb_Lr_readTerm hV (D0 := 3 + D) (by omega) (fLs_ok hV D) h, fun u0 S q h => rb_Lr_readAtom hV (D0 := 3 + D) (by omega) (fLs_ok hV D) h⟩
def Lr_readSum_r (u0 : Int32) (S : Sm) : Option Sm := fLs 40 0 u0 S
set_option maxRecDepth 4000 in
theorem r_Lr_readSum_r {V : Sm → Wd} (hV : VwC V) {u0 : Int32} {S q : Sm} (h : Lr_readSum_r u0 S = some q) : Runs 43 mX2_readSum [.ref 24, .int u0] (V S) none (V q) 0 0 := (fLs_ok hV 40).1 _ _ _ h
def Lr_readTerm_r (u0 : Int32) (S : Sm) : Option Sm := fLs 40 1 u0 S
set_option maxRecDepth 4000 in
theorem r_Lr_readTerm_r {V : Sm → Wd} (hV : VwC V) {u0 : Int32} {S q : Sm} (h : Lr_readTerm_r u0 S = some q) : Runs 43 mX2_readTerm [.ref 24, .int u0] (V S) none (V q) 0 0 := (fLs_ok hV 40).2.1 _ _ _ h
def Lr_readAtom_r (u0 : Int32) (S : Sm) : Option Sm := fLs 40 2 u0 S
set_option maxRecDepth 4000 in
theorem r_Lr_readAtom_r {V : Sm → Wd} (hV : VwC V) {u0 : Int32} {S q : Sm} (h : Lr_readAtom_r u0 S = some q) : Runs 43 mX2_readAtom [.ref 24, .int u0] (V S) none (V q) 0 0 := (fLs_ok hV 40).2.2 _ _ _ h
def Lr_isComparing_23 (s0 : Int32) : Int32 := (s0 &&& 1)
set_option maxRecDepth 4000 in
theorem t_Lr_isComparing_23 {V : Sm → Wd} (hV : VwC V) {l : Launch} {Γ : Gm} {s0 : Int32} {S : Sm} {q : Int32} (h : Lr_isComparing_23 s0 = q) : G mX2_isComparing l Γ (rmD 0 0 0) (mQ Γ (some (.int q)) (V S) 0 0) 0 0 23 [none] [.int s0] (V S) := by
  unfold Lr_isComparing_23 at h
  subst h
  exact g_iret (pc := 23) dX2_isComparing_23 rfl rfl (Nat.le_refl _) (Nat.le_refl _)
def Lr_isComparing_18  : Int32 := (Lr_isComparing_23 1)
set_option maxRecDepth 4000 in
theorem t_Lr_isComparing_18 {V : Sm → Wd} (hV : VwC V) {l : Launch} {Γ : Gm}  {S : Sm} {q : Int32} (h : Lr_isComparing_18 = q) : G mX2_isComparing l Γ (rmD 0 0 0) (mQ Γ (some (.int q)) (V S) 0 0) 0 0 18 [none] [] (V S) := by
  unfold Lr_isComparing_18 at h
  refine g_iconst (v := 1) (pc := 18) dX2_isComparing_18 (by decide) ?_
  refine g_goto (tgt := 23) (pc := 19) dX2_isComparing_19 (by decide) ?_
  exact t_Lr_isComparing_23 hV h
def Lr_isComparing (v0 : Int32) : Int32 := (if v0 = 61 then Lr_isComparing_18 else (if v0 = 60 then Lr_isComparing_18 else (if v0 = 62 then Lr_isComparing_18 else (Lr_isComparing_23 0))))
set_option maxRecDepth 4000 in
theorem r_Lr_isComparing {V : Sm → Wd} (hV : VwC V) {v0 : Int32} {S : Sm} {q : Int32} (h : Lr_isComparing v0 = q) : Runs 0 mX2_isComparing [.int v0] (V S) (some (.int q)) (V S) 0 0 := by
  unfold Lr_isComparing at h
  refine Runs.of2 [some (.int v0)] 0 rfl rfl (Nat.le_of_ble_eq_true rfl) (fun l Γ => ?_)
  refine g_iload_n (pc := 0) dX2_isComparing_0 rfl ?_
  refine g_bipush (v := 61) (pc := 1) dX2_isComparing_1 (by decide) ?_
  refine g_icmp_eq (tgt := 18) (pc := 3) dX2_isComparing_3 (by decide) (fun c3 => ?_) (fun c3 => ?_)
  · rw [if_pos c3] at h
    refine g_wk [false] rfl ?_
    exact t_Lr_isComparing_18 hV h
  · rw [if_neg c3] at h
    refine g_iload_n (pc := 6) dX2_isComparing_6 rfl ?_
    refine g_bipush (v := 60) (pc := 7) dX2_isComparing_7 (by decide) ?_
    refine g_icmp_eq (tgt := 18) (pc := 9) dX2_isComparing_9 (by decide) (fun c2 => ?_) (fun c2 => ?_)
    · rw [if_pos c2] at h
      refine g_wk [false] rfl ?_
      exact t_Lr_isComparing_18 hV h
    · rw [if_neg c2] at h
      refine g_iload_n (pc := 12) dX2_isComparing_12 rfl ?_
      refine g_bipush (v := 62) (pc := 13) dX2_isComparing_13 (by decide) ?_
      refine g_icmp_ne (tgt := 22) (pc := 15) dX2_isComparing_15 (by decide) (fun c1 => ?_) (fun c1 => ?_)
      · rw [if_neg c1] at h
        refine g_iconst (v := 0) (pc := 22) dX2_isComparing_22 (by decide) ?_
        refine g_wk [false] rfl ?_
        exact t_Lr_isComparing_23 hV h
      · rw [if_pos c1] at h
        refine g_wk [false] rfl ?_
        exact t_Lr_isComparing_18 hV h
def Lr_readComparison (v1 : Int32) (S : Sm) : Option (Sm) := ((Tp_sign S).bind fun q1 => (if (Lr_isComparing q1.1) = 0 then (app (Tp_fail q1.2) fun q5 => (some q5)) else ((Tp_take q1.1 q1.2).bind fun q2 => ((Lr_readSum_r v1 q2.2).bind fun q3 => (app (La_write (-q1.1) q3) fun q4 => (some q4))))))
set_option maxRecDepth 4000 in
theorem r_Lr_readComparison {V : Sm → Wd} (hV : VwC V) {v1 : Int32} {S : Sm} {q : Sm} (h : Lr_readComparison v1 S = some q) : Runs 44 mX2_readComparison [.ref 24, .int v1] (V S) none (V q) 0 0 := by
  unfold Lr_readComparison at h
  refine Runs.of2 [some (.ref 24), some (.int v1), none] 1 rfl rfl (Nat.le_of_ble_eq_true rfl) (fun l Γ => ?_)
  refine g_aload_n (pc := 0) dX2_readComparison_0 rfl ?_
  refine v_getR hV (pc := 1) dX2_readComparison_1 fo_2_0 rfl k0_24 r0_24_0 ?_
  obtain ⟨q1, hq1, h⟩ := bnd h
  refine v_callVi hV (Mc := mX9_sign) (v := q1.1) (S1 := q1.2) (As := []) (rest := []) (q := (RX9, TX9, 4)) (pc := 4) dX2_readComparison_4 mK_X2_42 mf_X9_sign rfl k0_8 rfl rfl rfl (Nat.le_of_ble_eq_true rfl) ⟨Nat.le_of_ble_eq_true rfl, Nat.le_of_ble_eq_true rfl⟩ (r_Tp_sign hV hq1) ?_
  refine g_istore_n (ls1 := [some (.ref 24), some (.int v1), some (.int q1.1)]) (pc := 7) dX2_readComparison_7 (by decide) rfl ?_
  refine g_iload_n (pc := 8) dX2_readComparison_8 rfl ?_
  refine v_callSi (Mc := mX2_isComparing) (v := Lr_isComparing q1.1) (S1 := q1.2) (As := [.int q1.1]) (rest := []) (pc := 9) dX2_readComparison_9 mK_X2_51 mf_X2_isComparing rfl rfl (Nat.le_of_ble_eq_true rfl) ⟨Nat.le_of_ble_eq_true rfl, Nat.le_of_ble_eq_true rfl⟩ (r_Lr_isComparing hV rfl) ?_
  refine g_if_ne (tgt := 23) (pc := 12) dX2_readComparison_12 (by decide) (fun c6 => ?_) (fun c6 => ?_)
  · rw [if_neg c6] at h
    refine g_aload_n (pc := 23) dX2_readComparison_23 rfl ?_
    refine v_getR hV (pc := 24) dX2_readComparison_24 fo_2_0 rfl k0_24 r0_24_0 ?_
    refine g_iload_n (pc := 27) dX2_readComparison_27 rfl ?_
    obtain ⟨q2, hq2, h⟩ := bnd h
    refine v_callVi hV (Mc := mX9_take) (v := q2.1) (S1 := q2.2) (As := [.int q1.1]) (rest := []) (q := (RX9, TX9, 4)) (pc := 28) dX2_readComparison_28 mK_X2_70 mf_X9_take rfl k0_8 rfl rfl rfl (Nat.le_of_ble_eq_true rfl) ⟨Nat.le_of_ble_eq_true rfl, Nat.le_of_ble_eq_true rfl⟩ (r_Tp_take hV hq2) ?_
    refine g_pop (pc := 31) dX2_readComparison_31 rfl ?_
    refine g_aload_n (pc := 32) dX2_readComparison_32 rfl ?_
    refine g_iload_n (pc := 33) dX2_readComparison_33 rfl ?_
    obtain ⟨q3, hq3, h⟩ := bnd h
    refine v_callVv hV (Mc := mX2_readSum) (S1 := q3) (As := [.int v1]) (rest := []) (q := (RX2, TX2, 2)) (pc := 34) dX2_readComparison_34 mK_X2_48 mf_X2_readSum rfl k0_24 rfl rfl rfl (Nat.le_of_ble_eq_true rfl) ⟨Nat.le_of_ble_eq_true rfl, Nat.le_of_ble_eq_true rfl⟩ (r_Lr_readSum_r hV hq3) ?_
    refine g_aload_n (pc := 37) dX2_readComparison_37 rfl ?_
    refine v_getR hV (pc := 38) dX2_readComparison_38 fo_2_1 rfl k0_24 r0_24_1 ?_
    refine g_iload_n (pc := 41) dX2_readComparison_41 rfl ?_
    refine g_ineg (pc := 42) dX2_readComparison_42 ?_
    obtain ⟨q4, hq4, h⟩ := app_of h
    refine v_callVv hV (Mc := mX3_write) (S1 := q4) (As := [.int (-q1.1)]) (rest := []) (q := (RX3, TX3, 6)) (pc := 43) dX2_readComparison_43 mK_X2_64 mf_X3_write rfl k0_20 rfl rfl rfl (Nat.le_of_ble_eq_true rfl) ⟨Nat.le_of_ble_eq_true rfl, Nat.le_of_ble_eq_true rfl⟩ (r_La_write hV hq4) ?_
    cases h
    exact g_vret (pc := 46) dX2_readComparison_46 rfl (Nat.le_refl _) (Nat.le_refl _)
  · rw [if_pos c6] at h
    refine g_aload_n (pc := 15) dX2_readComparison_15 rfl ?_
    refine v_getR hV (pc := 16) dX2_readComparison_16 fo_2_0 rfl k0_24 r0_24_0 ?_
    obtain ⟨q5, hq5, h⟩ := app_of h
    refine v_callVv hV (Mc := mX9_fail) (S1 := q5) (As := []) (rest := []) (q := (RX9, TX9, 4)) (pc := 19) dX2_readComparison_19 mK_X2_67 mf_X9_fail rfl k0_8 rfl rfl rfl (Nat.le_of_ble_eq_true rfl) ⟨Nat.le_of_ble_eq_true rfl, Nat.le_of_ble_eq_true rfl⟩ (r_Tp_fail hV hq5) ?_
    cases h
    exact g_vret (pc := 22) dX2_readComparison_22 rfl (Nat.le_refl _) (Nat.le_refl _)
def Lr_readUnit_86 (rc : Nat → Int32 → Sm → Option Sm) (S : Sm) : Option (Sm) := (some S)
set_option maxRecDepth 4000 in
theorem t_Lr_readUnit_86 {V : Sm → Wd} (hV : VwC V) {D0 : Nat} (hD0 : 44 ≤ D0) {rc : Nat → Int32 → Sm → Option Sm} (hrc : (∀ (u0 : Int32) (S q : Sm), rc 0 u0 S = some q → Runs D0 mX2_readUnit [.ref 24, .int u0] (V S) none (V q) 0 0) ∧ (∀ (u0 : Int32) (S q : Sm), rc 1 u0 S = some q → Runs D0 mX2_readCondition [.ref 24, .int u0] (V S) none (V q) 0 0) ∧ (∀ (u0 : Int32) (S q : Sm), rc 2 u0 S = some q → Runs D0 mX2_readMoreUnits [.ref 24, .int u0] (V S) none (V q) 0 0) ∧ (∀ (u0 : Int32) (S q : Sm), rc 3 u0 S = some q → Runs D0 mX2_readMoreTruths [.ref 24, .int u0] (V S) none (V q) 0 0)) {l : Launch} {Γ : Gm}  {S : Sm} {q : Sm} (h : Lr_readUnit_86 rc S = some q) : G mX2_readUnit l Γ (rmD (D0 + 1) 0 0) (mQ Γ none (V q) 0 0) 0 0 86 [none, none, none] [] (V S) := by
  unfold Lr_readUnit_86 at h
  cases h
  exact g_vret (pc := 86) dX2_readUnit_86 rfl (Nat.le_refl _) (Nat.le_refl _)
def Lr_readUnit (rc : Nat → Int32 → Sm → Option Sm) (v1 : Int32) (S : Sm) : Option (Sm) := ((Tp_sign S).bind fun q1 => (if q1.1 = 33 then ((Lr_opens q1.1 v1 q1.2).bind fun q9 => (if q9.1 = 0 then (Lr_readUnit_86 rc q9.2) else ((rc 0 (v1 + 1) q9.2).bind fun q10 => (app (La_write ((-33)) q10) fun q11 => (Lr_readUnit_86 rc q11))))) else (if q1.1 = 40 then ((Lr_opens q1.1 v1 q1.2).bind fun q4 => (if q4.1 = 0 then (Lr_readUnit_86 rc q4.2) else ((rc 1 (v1 + 1) q4.2).bind fun q5 => ((Tp_need 41 q5).bind fun q6 => (Lr_readUnit_86 rc q6))))) else ((Lr_readSum_r v1 q1.2).bind fun q2 => ((Lr_readComparison v1 q2).bind fun q3 => (Lr_readUnit_86 rc q3))))))
set_option maxRecDepth 4000 in
theorem rb_Lr_readUnit {V : Sm → Wd} (hV : VwC V) {D0 : Nat} (hD0 : 44 ≤ D0) {rc : Nat → Int32 → Sm → Option Sm} (hrc : (∀ (u0 : Int32) (S q : Sm), rc 0 u0 S = some q → Runs D0 mX2_readUnit [.ref 24, .int u0] (V S) none (V q) 0 0) ∧ (∀ (u0 : Int32) (S q : Sm), rc 1 u0 S = some q → Runs D0 mX2_readCondition [.ref 24, .int u0] (V S) none (V q) 0 0) ∧ (∀ (u0 : Int32) (S q : Sm), rc 2 u0 S = some q → Runs D0 mX2_readMoreUnits [.ref 24, .int u0] (V S) none (V q) 0 0) ∧ (∀ (u0 : Int32) (S q : Sm), rc 3 u0 S = some q → Runs D0 mX2_readMoreTruths [.ref 24, .int u0] (V S) none (V q) 0 0)) {v1 : Int32} {S : Sm} {q : Sm} (h : Lr_readUnit rc v1 S = some q) : Runs (D0 + 1) mX2_readUnit [.ref 24, .int v1] (V S) none (V q) 0 0 := by
  unfold Lr_readUnit at h
  refine Runs.of2 [some (.ref 24), some (.int v1), none] 1 rfl rfl (Nat.le_of_ble_eq_true rfl) (fun l Γ => ?_)
  refine g_aload_n (pc := 0) dX2_readUnit_0 rfl ?_
  refine v_getR hV (pc := 1) dX2_readUnit_1 fo_2_0 rfl k0_24 r0_24_0 ?_
  obtain ⟨q1, hq1, h⟩ := bnd h
  refine v_callVi hV (Mc := mX9_sign) (v := q1.1) (S1 := q1.2) (As := []) (rest := []) (q := (RX9, TX9, 4)) (pc := 4) dX2_readUnit_4 mK_X2_42 mf_X9_sign rfl k0_8 rfl rfl rfl (Nat.le_of_ble_eq_true rfl) ⟨by show 1 + 1 ≤ D0 + 1; omega, by show 8 + (2 + 11) + 64 * 1 ≤ 64 * (D0 + 1); omega⟩ (r_Tp_sign hV hq1) ?_
  refine g_istore_n (ls1 := [some (.ref 24), some (.int v1), some (.int q1.1)]) (pc := 7) dX2_readUnit_7 (by decide) rfl ?_
  refine g_iload_n (pc := 8) dX2_readUnit_8 rfl ?_
  refine g_bipush (v := 33) (pc := 9) dX2_readUnit_9 (by decide) ?_
  refine g_icmp_ne (tgt := 42) (pc := 11) dX2_readUnit_11 (by decide) (fun c13 => ?_) (fun c13 => ?_)
  · rw [if_neg c13] at h
    refine g_iload_n (pc := 42) dX2_readUnit_42 rfl ?_
    refine g_bipush (v := 40) (pc := 43) dX2_readUnit_43 (by decide) ?_
    refine g_icmp_ne (tgt := 76) (pc := 45) dX2_readUnit_45 (by decide) (fun c8 => ?_) (fun c8 => ?_)
    · rw [if_neg c8] at h
      refine g_aload_n (pc := 76) dX2_readUnit_76 rfl ?_
      refine g_iload_n (pc := 77) dX2_readUnit_77 rfl ?_
      obtain ⟨q2, hq2, h⟩ := bnd h
      refine v_callVv hV (Mc := mX2_readSum) (S1 := q2) (As := [.int v1]) (rest := []) (q := (RX2, TX2, 2)) (pc := 78) dX2_readUnit_78 mK_X2_48 mf_X2_readSum rfl k0_24 rfl rfl rfl (Nat.le_of_ble_eq_true rfl) ⟨by show 43 + 1 ≤ D0 + 1; omega, by show 8 + (4 + 11) + 64 * 43 ≤ 64 * (D0 + 1); omega⟩ (r_Lr_readSum_r hV hq2) ?_
      refine g_aload_n (pc := 81) dX2_readUnit_81 rfl ?_
      refine g_iload_n (pc := 82) dX2_readUnit_82 rfl ?_
      obtain ⟨q3, hq3, h⟩ := bnd h
      refine v_callVv hV (Mc := mX2_readComparison) (S1 := q3) (As := [.int v1]) (rest := []) (q := (RX2, TX2, 2)) (pc := 83) dX2_readUnit_83 mK_X2_55 mf_X2_readComparison rfl k0_24 rfl rfl rfl (Nat.le_of_ble_eq_true rfl) ⟨by show 44 + 1 ≤ D0 + 1; omega, by show 8 + (3 + 11) + 64 * 44 ≤ 64 * (D0 + 1); omega⟩ (r_Lr_readComparison hV hq3) ?_
      refine g_wk [false, false, false] rfl ?_
      exact t_Lr_readUnit_86 hV hD0 hrc h
    · rw [if_pos c8] at h
      refine g_aload_n (pc := 48) dX2_readUnit_48 rfl ?_
      refine g_iload_n (pc := 49) dX2_readUnit_49 rfl ?_
      refine g_iload_n (pc := 50) dX2_readUnit_50 rfl ?_
      obtain ⟨q4, hq4, h⟩ := bnd h
      refine v_callVi hV (Mc := mX2_opens) (v := q4.1) (S1 := q4.2) (As := [.int q1.1, .int v1]) (rest := []) (q := (RX2, TX2, 2)) (pc := 51) dX2_readUnit_51 mK_X2_76 mf_X2_opens rfl k0_24 rfl rfl rfl (Nat.le_of_ble_eq_true rfl) ⟨by show 3 + 1 ≤ D0 + 1; omega, by show 8 + (3 + 11) + 64 * 3 ≤ 64 * (D0 + 1); omega⟩ (r_Lr_opens hV hq4) ?_
      refine g_if_eq (tgt := 86) (pc := 54) dX2_readUnit_54 (by decide) (fun c7 => ?_) (fun c7 => ?_)
      · rw [if_pos c7] at h
        refine g_wk [false, false, false] rfl ?_
        exact t_Lr_readUnit_86 hV hD0 hrc h
      · rw [if_neg c7] at h
        refine g_aload_n (pc := 57) dX2_readUnit_57 rfl ?_
        refine g_iload_n (pc := 58) dX2_readUnit_58 rfl ?_
        refine g_iconst (v := 1) (pc := 59) dX2_readUnit_59 (by decide) ?_
        refine g_iadd (pc := 60) dX2_readUnit_60 ?_
        obtain ⟨q5, hq5, h⟩ := bnd h
        refine v_callVv hV (Mc := mX2_readCondition) (S1 := q5) (As := [.int (v1 + 1)]) (rest := []) (q := (RX2, TX2, 2)) (pc := 61) dX2_readUnit_61 mK_X2_45 mf_X2_readCondition rfl k0_24 rfl rfl rfl (Nat.le_of_ble_eq_true rfl) ⟨by show D0 + 1 ≤ D0 + 1; omega, by show 8 + (2 + 11) + 64 * D0 ≤ 64 * (D0 + 1); omega⟩ (hrc.2.1 _ _ _ hq5) ?_
        refine g_aload_n (pc := 64) dX2_readUnit_64 rfl ?_
        refine v_getR hV (pc := 65) dX2_readUnit_65 fo_2_0 rfl k0_24 r0_24_0 ?_
        refine g_bipush (v := 41) (pc := 68) dX2_readUnit_68 (by decide) ?_
        obtain ⟨q6, hq6, h⟩ := bnd h
        refine v_callVv hV (Mc := mX9_need) (S1 := q6) (As := [.int 41]) (rest := []) (q := (RX9, TX9, 4)) (pc := 70) dX2_readUnit_70 mK_X2_38 mf_X9_need rfl k0_8 rfl rfl rfl (Nat.le_of_ble_eq_true rfl) ⟨by show 2 + 1 ≤ D0 + 1; omega, by show 8 + (2 + 11) + 64 * 2 ≤ 64 * (D0 + 1); omega⟩ (r_Tp_need hV hq6) ?_
        refine g_goto (tgt := 86) (pc := 73) dX2_readUnit_73 (by decide) ?_
        refine g_wk [false, false, false] rfl ?_
        exact t_Lr_readUnit_86 hV hD0 hrc h
  · rw [if_pos c13] at h
    refine g_aload_n (pc := 14) dX2_readUnit_14 rfl ?_
    refine g_iload_n (pc := 15) dX2_readUnit_15 rfl ?_
    refine g_iload_n (pc := 16) dX2_readUnit_16 rfl ?_
    obtain ⟨q9, hq9, h⟩ := bnd h
    refine v_callVi hV (Mc := mX2_opens) (v := q9.1) (S1 := q9.2) (As := [.int q1.1, .int v1]) (rest := []) (q := (RX2, TX2, 2)) (pc := 17) dX2_readUnit_17 mK_X2_76 mf_X2_opens rfl k0_24 rfl rfl rfl (Nat.le_of_ble_eq_true rfl) ⟨by show 3 + 1 ≤ D0 + 1; omega, by show 8 + (3 + 11) + 64 * 3 ≤ 64 * (D0 + 1); omega⟩ (r_Lr_opens hV hq9) ?_
    refine g_if_eq (tgt := 86) (pc := 20) dX2_readUnit_20 (by decide) (fun c12 => ?_) (fun c12 => ?_)
    · rw [if_pos c12] at h
      refine g_wk [false, false, false] rfl ?_
      exact t_Lr_readUnit_86 hV hD0 hrc h
    · rw [if_neg c12] at h
      refine g_aload_n (pc := 23) dX2_readUnit_23 rfl ?_
      refine g_iload_n (pc := 24) dX2_readUnit_24 rfl ?_
      refine g_iconst (v := 1) (pc := 25) dX2_readUnit_25 (by decide) ?_
      refine g_iadd (pc := 26) dX2_readUnit_26 ?_
      obtain ⟨q10, hq10, h⟩ := bnd h
      refine v_callVv hV (Mc := mX2_readUnit) (S1 := q10) (As := [.int (v1 + 1)]) (rest := []) (q := (RX2, TX2, 2)) (pc := 27) dX2_readUnit_27 mK_X2_73 mf_X2_readUnit rfl k0_24 rfl rfl rfl (Nat.le_of_ble_eq_true rfl) ⟨by show D0 + 1 ≤ D0 + 1; omega, by show 8 + (3 + 11) + 64 * D0 ≤ 64 * (D0 + 1); omega⟩ (hrc.1 _ _ _ hq10) ?_
      refine g_aload_n (pc := 30) dX2_readUnit_30 rfl ?_
      refine v_getR hV (pc := 31) dX2_readUnit_31 fo_2_1 rfl k0_24 r0_24_1 ?_
      refine g_bipush (v := (-33)) (pc := 34) dX2_readUnit_34 (by decide) ?_
      obtain ⟨q11, hq11, h⟩ := app_of h
      refine v_callVv hV (Mc := mX3_write) (S1 := q11) (As := [.int ((-33))]) (rest := []) (q := (RX3, TX3, 6)) (pc := 36) dX2_readUnit_36 mK_X2_64 mf_X3_write rfl k0_20 rfl rfl rfl (Nat.le_of_ble_eq_true rfl) ⟨by show 1 + 1 ≤ D0 + 1; omega, by show 8 + (3 + 11) + 64 * 1 ≤ 64 * (D0 + 1); omega⟩ (r_La_write hV hq11) ?_
      refine g_goto (tgt := 86) (pc := 39) dX2_readUnit_39 (by decide) ?_
      refine g_wk [false, false, false] rfl ?_
      exact t_Lr_readUnit_86 hV hD0 hrc h
def Lr_readCondition (rc : Nat → Int32 → Sm → Option Sm) (v1 : Int32) (S : Sm) : Option (Sm) := ((rc 0 v1 S).bind fun q1 => ((rc 2 v1 q1).bind fun q2 => ((rc 3 v1 q2).bind fun q3 => (some q3))))
set_option maxRecDepth 4000 in
theorem rb_Lr_readCondition {V : Sm → Wd} (hV : VwC V) {D0 : Nat} (hD0 : 44 ≤ D0) {rc : Nat → Int32 → Sm → Option Sm} (hrc : (∀ (u0 : Int32) (S q : Sm), rc 0 u0 S = some q → Runs D0 mX2_readUnit [.ref 24, .int u0] (V S) none (V q) 0 0) ∧ (∀ (u0 : Int32) (S q : Sm), rc 1 u0 S = some q → Runs D0 mX2_readCondition [.ref 24, .int u0] (V S) none (V q) 0 0) ∧ (∀ (u0 : Int32) (S q : Sm), rc 2 u0 S = some q → Runs D0 mX2_readMoreUnits [.ref 24, .int u0] (V S) none (V q) 0 0) ∧ (∀ (u0 : Int32) (S q : Sm), rc 3 u0 S = some q → Runs D0 mX2_readMoreTruths [.ref 24, .int u0] (V S) none (V q) 0 0)) {v1 : Int32} {S : Sm} {q : Sm} (h : Lr_readCondition rc v1 S = some q) : Runs (D0 + 1) mX2_readCondition [.ref 24, .int v1] (V S) none (V q) 0 0 := by
  unfold Lr_readCondition at h
  refine Runs.of2 [some (.ref 24), some (.int v1)] 0 rfl rfl (Nat.le_of_ble_eq_true rfl) (fun l Γ => ?_)
  refine g_aload_n (pc := 0) dX2_readCondition_0 rfl ?_
  refine g_iload_n (pc := 1) dX2_readCondition_1 rfl ?_
  obtain ⟨q1, hq1, h⟩ := bnd h
  refine v_callVv hV (Mc := mX2_readUnit) (S1 := q1) (As := [.int v1]) (rest := []) (q := (RX2, TX2, 2)) (pc := 2) dX2_readCondition_2 mK_X2_73 mf_X2_readUnit rfl k0_24 rfl rfl rfl (Nat.le_of_ble_eq_true rfl) ⟨by show D0 + 1 ≤ D0 + 1; omega, by show 8 + (3 + 11) + 64 * D0 ≤ 64 * (D0 + 1); omega⟩ (hrc.1 _ _ _ hq1) ?_
  refine g_aload_n (pc := 5) dX2_readCondition_5 rfl ?_
  refine g_iload_n (pc := 6) dX2_readCondition_6 rfl ?_
  obtain ⟨q2, hq2, h⟩ := bnd h
  refine v_callVv hV (Mc := mX2_readMoreUnits) (S1 := q2) (As := [.int v1]) (rest := []) (q := (RX2, TX2, 2)) (pc := 7) dX2_readCondition_7 mK_X2_58 mf_X2_readMoreUnits rfl k0_24 rfl rfl rfl (Nat.le_of_ble_eq_true rfl) ⟨by show D0 + 1 ≤ D0 + 1; omega, by show 8 + (3 + 11) + 64 * D0 ≤ 64 * (D0 + 1); omega⟩ (hrc.2.2.1 _ _ _ hq2) ?_
  refine g_aload_n (pc := 10) dX2_readCondition_10 rfl ?_
  refine g_iload_n (pc := 11) dX2_readCondition_11 rfl ?_
  obtain ⟨q3, hq3, h⟩ := bnd h
  refine v_callVv hV (Mc := mX2_readMoreTruths) (S1 := q3) (As := [.int v1]) (rest := []) (q := (RX2, TX2, 2)) (pc := 12) dX2_readCondition_12 mK_X2_61 mf_X2_readMoreTruths rfl k0_24 rfl rfl rfl (Nat.le_of_ble_eq_true rfl) ⟨by show D0 + 1 ≤ D0 + 1; omega, by show 8 + (3 + 11) + 64 * D0 ≤ 64 * (D0 + 1); omega⟩ (hrc.2.2.2 _ _ _ hq3) ?_
  cases h
  exact g_vret (pc := 15) dX2_readCondition_15 rfl (Nat.le_refl _) (Nat.le_refl _)
def hd_Lr_readMoreUnits_L2 (V : Sm → Wd) (D0 : Nat) (l : Launch) (Γ : Gm) (rF : Option Value) (wF : Wd) (v1 : Int32) (q : Int32 × Sm) : Prop := G mX2_readMoreUnits l Γ (rmD (D0 + 1) 0 0) (mQ Γ rF wF 0 0) 0 0 2 [some (.ref 24), some (.int v1), some (.int q.1)] [] (V q.2)
def ps_Lr_readMoreUnits_L2 (V : Sm → Wd) (D0 : Nat) (l : Launch) (Γ : Gm) (rF : Option Value) (wF : Wd) (v1 : Int32) (x : Sm) : Prop := (fun (a : Sm) => G mX2_readMoreUnits l Γ (rmD (D0 + 1) 0 0) (mQ Γ rF wF 0 0) 0 0 41 [none, none, none] [] (V a)) x
def Lr_readMoreUnits_L2 (rc : Nat → Int32 → Sm → Option Sm) (v1 : Int32) (q : Int32 × Sm) : Option ((Int32 × Sm) ⊕ (Sm)) := (if (240 : Int32) ≤ q.1 then (some (.inr q.2)) else ((Tp_take 38 q.2).bind fun q1 => (if q1.1 = 0 then (some (.inr q1.2)) else ((rc 0 v1 q1.2).bind fun q2 => (app (La_write ((-38)) q2) fun q3 => (some (.inl (q.1 + 1, q3))))))))
set_option maxRecDepth 4000 in
theorem t_Lr_readMoreUnits_L2 {V : Sm → Wd} (hV : VwC V) {D0 : Nat} (hD0 : 44 ≤ D0) {rc : Nat → Int32 → Sm → Option Sm} (hrc : (∀ (u0 : Int32) (S q : Sm), rc 0 u0 S = some q → Runs D0 mX2_readUnit [.ref 24, .int u0] (V S) none (V q) 0 0) ∧ (∀ (u0 : Int32) (S q : Sm), rc 1 u0 S = some q → Runs D0 mX2_readCondition [.ref 24, .int u0] (V S) none (V q) 0 0) ∧ (∀ (u0 : Int32) (S q : Sm), rc 2 u0 S = some q → Runs D0 mX2_readMoreUnits [.ref 24, .int u0] (V S) none (V q) 0 0) ∧ (∀ (u0 : Int32) (S q : Sm), rc 3 u0 S = some q → Runs D0 mX2_readMoreTruths [.ref 24, .int u0] (V S) none (V q) 0 0)) {l : Launch} {Γ : Gm} {rF : Option Value} {wF : Wd} {v1 : Int32} {q : Int32 × Sm} {o : (Int32 × Sm) ⊕ (Sm)} (h : Lr_readMoreUnits_L2 rc v1 q = some o) (hK : Sum.elim (hd_Lr_readMoreUnits_L2 V D0 l Γ rF wF v1) (ps_Lr_readMoreUnits_L2 V D0 l Γ rF wF v1) o) : hd_Lr_readMoreUnits_L2 V D0 l Γ rF wF v1 q := by
  unfold Lr_readMoreUnits_L2 at h
  unfold hd_Lr_readMoreUnits_L2
  refine g_iload_n (pc := 2) dX2_readMoreUnits_2 rfl ?_
  refine g_sipush (v := 240) (pc := 3) dX2_readMoreUnits_3 (by decide) ?_
  refine g_icmp_ge (tgt := 41) (pc := 6) dX2_readMoreUnits_6 (by decide) (fun c5 => ?_) (fun c5 => ?_)
  · rw [if_pos c5] at h
    refine g_wk [false, false, false] rfl ?_
    cases h
    exact hK
  · rw [if_neg c5] at h
    refine g_aload_n (pc := 9) dX2_readMoreUnits_9 rfl ?_
    refine v_getR hV (pc := 10) dX2_readMoreUnits_10 fo_2_0 rfl k0_24 r0_24_0 ?_
    refine g_bipush (v := 38) (pc := 13) dX2_readMoreUnits_13 (by decide) ?_
    obtain ⟨q1, hq1, h⟩ := bnd h
    refine v_callVi hV (Mc := mX9_take) (v := q1.1) (S1 := q1.2) (As := [.int 38]) (rest := []) (q := (RX9, TX9, 4)) (pc := 15) dX2_readMoreUnits_15 mK_X2_70 mf_X9_take rfl k0_8 rfl rfl rfl (Nat.le_of_ble_eq_true rfl) ⟨by show 2 + 1 ≤ D0 + 1; omega, by show 8 + (3 + 11) + 64 * 2 ≤ 64 * (D0 + 1); omega⟩ (r_Tp_take hV hq1) ?_
    refine g_if_eq (tgt := 41) (pc := 18) dX2_readMoreUnits_18 (by decide) (fun c4 => ?_) (fun c4 => ?_)
    · rw [if_pos c4] at h
      refine g_wk [false, false, false] rfl ?_
      cases h
      exact hK
    · rw [if_neg c4] at h
      refine g_aload_n (pc := 21) dX2_readMoreUnits_21 rfl ?_
      refine g_iload_n (pc := 22) dX2_readMoreUnits_22 rfl ?_
      obtain ⟨q2, hq2, h⟩ := bnd h
      refine v_callVv hV (Mc := mX2_readUnit) (S1 := q2) (As := [.int v1]) (rest := []) (q := (RX2, TX2, 2)) (pc := 23) dX2_readMoreUnits_23 mK_X2_73 mf_X2_readUnit rfl k0_24 rfl rfl rfl (Nat.le_of_ble_eq_true rfl) ⟨by show D0 + 1 ≤ D0 + 1; omega, by show 8 + (3 + 11) + 64 * D0 ≤ 64 * (D0 + 1); omega⟩ (hrc.1 _ _ _ hq2) ?_
      refine g_aload_n (pc := 26) dX2_readMoreUnits_26 rfl ?_
      refine v_getR hV (pc := 27) dX2_readMoreUnits_27 fo_2_1 rfl k0_24 r0_24_1 ?_
      refine g_bipush (v := (-38)) (pc := 30) dX2_readMoreUnits_30 (by decide) ?_
      obtain ⟨q3, hq3, h⟩ := app_of h
      refine v_callVv hV (Mc := mX3_write) (S1 := q3) (As := [.int ((-38))]) (rest := []) (q := (RX3, TX3, 6)) (pc := 32) dX2_readMoreUnits_32 mK_X2_64 mf_X3_write rfl k0_20 rfl rfl rfl (Nat.le_of_ble_eq_true rfl) ⟨by show 1 + 1 ≤ D0 + 1; omega, by show 8 + (3 + 11) + 64 * 1 ≤ 64 * (D0 + 1); omega⟩ (r_La_write hV hq3) ?_
      refine g_iinc (v := q.1 + 1) (ls1 := [some (.ref 24), some (.int v1), some (.int (q.1 + 1))]) (pc := 35) dX2_readMoreUnits_35 rfl rfl (by decide) rfl ?_
      refine g_goto (tgt := 2) (pc := 38) dX2_readMoreUnits_38 (by decide) ?_
      cases h
      exact hK
set_option maxRecDepth 4000 in
theorem w_Lr_readMoreUnits_L2 {V : Sm → Wd} (hV : VwC V) {D0 : Nat} (hD0 : 44 ≤ D0) {rc : Nat → Int32 → Sm → Option Sm} (hrc : (∀ (u0 : Int32) (S q : Sm), rc 0 u0 S = some q → Runs D0 mX2_readUnit [.ref 24, .int u0] (V S) none (V q) 0 0) ∧ (∀ (u0 : Int32) (S q : Sm), rc 1 u0 S = some q → Runs D0 mX2_readCondition [.ref 24, .int u0] (V S) none (V q) 0 0) ∧ (∀ (u0 : Int32) (S q : Sm), rc 2 u0 S = some q → Runs D0 mX2_readMoreUnits [.ref 24, .int u0] (V S) none (V q) 0 0) ∧ (∀ (u0 : Int32) (S q : Sm), rc 3 u0 S = some q → Runs D0 mX2_readMoreTruths [.ref 24, .int u0] (V S) none (V q) 0 0)) {l : Launch} {Γ : Gm} {rF : Option Value} {wF : Wd} {v1 : Int32} {k : Nat} {q : Int32 × Sm} {o : Sm} (h : lpN (Lr_readMoreUnits_L2 rc v1) k q = some o) (hP : ps_Lr_readMoreUnits_L2 V D0 l Γ rF wF v1 o) : hd_Lr_readMoreUnits_L2 V D0 l Γ rF wF v1 q := lpN_ind2 (hd_Lr_readMoreUnits_L2 V D0 l Γ rF wF v1) (ps_Lr_readMoreUnits_L2 V D0 l Γ rF wF v1) (fun s o h hK => t_Lr_readMoreUnits_L2 hV hD0 hrc h hK) k q o h hP
def Lr_readMoreUnits (rc : Nat → Int32 → Sm → Option Sm) (v1 : Int32) (S : Sm) : Option (Sm) := ((lpN (Lr_readMoreUnits_L2 rc v1) FU (0, S)).bind fun q6 => (some q6))
set_option maxRecDepth 4000 in
theorem rb_Lr_readMoreUnits {V : Sm → Wd} (hV : VwC V) {D0 : Nat} (hD0 : 44 ≤ D0) {rc : Nat → Int32 → Sm → Option Sm} (hrc : (∀ (u0 : Int32) (S q : Sm), rc 0 u0 S = some q → Runs D0 mX2_readUnit [.ref 24, .int u0] (V S) none (V q) 0 0) ∧ (∀ (u0 : Int32) (S q : Sm), rc 1 u0 S = some q → Runs D0 mX2_readCondition [.ref 24, .int u0] (V S) none (V q) 0 0) ∧ (∀ (u0 : Int32) (S q : Sm), rc 2 u0 S = some q → Runs D0 mX2_readMoreUnits [.ref 24, .int u0] (V S) none (V q) 0 0) ∧ (∀ (u0 : Int32) (S q : Sm), rc 3 u0 S = some q → Runs D0 mX2_readMoreTruths [.ref 24, .int u0] (V S) none (V q) 0 0)) {v1 : Int32} {S : Sm} {q : Sm} (h : Lr_readMoreUnits rc v1 S = some q) : Runs (D0 + 1) mX2_readMoreUnits [.ref 24, .int v1] (V S) none (V q) 0 0 := by
  unfold Lr_readMoreUnits at h
  refine Runs.of2 [some (.ref 24), some (.int v1), none] 1 rfl rfl (Nat.le_of_ble_eq_true rfl) (fun l Γ => ?_)
  refine g_iconst (v := 0) (pc := 0) dX2_readMoreUnits_0 (by decide) ?_
  refine g_istore_n (ls1 := [some (.ref 24), some (.int v1), some (.int 0)]) (pc := 1) dX2_readMoreUnits_1 (by decide) rfl ?_
  obtain ⟨q6, hqq6, h⟩ := bnd h
  refine w_Lr_readMoreUnits_L2 hV hD0 hrc hqq6 ?_
  unfold ps_Lr_readMoreUnits_L2
  show G _ _ _ _ _ _ _ _ _ _ _
  cases h
  exact g_vret (pc := 41) dX2_readMoreUnits_41 rfl (Nat.le_refl _) (Nat.le_refl _)
def hd_Lr_readMoreTruths_L2 (V : Sm → Wd) (D0 : Nat) (l : Launch) (Γ : Gm) (rF : Option Value) (wF : Wd) (v1 : Int32) (q : Int32 × Sm) : Prop := G mX2_readMoreTruths l Γ (rmD (D0 + 1) 0 0) (mQ Γ rF wF 0 0) 0 0 2 [some (.ref 24), some (.int v1), some (.int q.1)] [] (V q.2)
def ps_Lr_readMoreTruths_L2 (V : Sm → Wd) (D0 : Nat) (l : Launch) (Γ : Gm) (rF : Option Value) (wF : Wd) (v1 : Int32) (x : Sm) : Prop := (fun (a : Sm) => G mX2_readMoreTruths l Γ (rmD (D0 + 1) 0 0) (mQ Γ rF wF 0 0) 0 0 46 [none, none, none] [] (V a)) x
def Lr_readMoreTruths_L2 (rc : Nat → Int32 → Sm → Option Sm) (v1 : Int32) (q : Int32 × Sm) : Option ((Int32 × Sm) ⊕ (Sm)) := (if (240 : Int32) ≤ q.1 then (some (.inr q.2)) else ((Tp_take 124 q.2).bind fun q1 => (if q1.1 = 0 then (some (.inr q1.2)) else ((rc 0 v1 q1.2).bind fun q2 => ((rc 2 v1 q2).bind fun q3 => (app (La_write ((-124)) q3) fun q4 => (some (.inl (q.1 + 1, q4)))))))))
set_option maxRecDepth 4000 in
theorem t_Lr_readMoreTruths_L2 {V : Sm → Wd} (hV : VwC V) {D0 : Nat} (hD0 : 44 ≤ D0) {rc : Nat → Int32 → Sm → Option Sm} (hrc : (∀ (u0 : Int32) (S q : Sm), rc 0 u0 S = some q → Runs D0 mX2_readUnit [.ref 24, .int u0] (V S) none (V q) 0 0) ∧ (∀ (u0 : Int32) (S q : Sm), rc 1 u0 S = some q → Runs D0 mX2_readCondition [.ref 24, .int u0] (V S) none (V q) 0 0) ∧ (∀ (u0 : Int32) (S q : Sm), rc 2 u0 S = some q → Runs D0 mX2_readMoreUnits [.ref 24, .int u0] (V S) none (V q) 0 0) ∧ (∀ (u0 : Int32) (S q : Sm), rc 3 u0 S = some q → Runs D0 mX2_readMoreTruths [.ref 24, .int u0] (V S) none (V q) 0 0)) {l : Launch} {Γ : Gm} {rF : Option Value} {wF : Wd} {v1 : Int32} {q : Int32 × Sm} {o : (Int32 × Sm) ⊕ (Sm)} (h : Lr_readMoreTruths_L2 rc v1 q = some o) (hK : Sum.elim (hd_Lr_readMoreTruths_L2 V D0 l Γ rF wF v1) (ps_Lr_readMoreTruths_L2 V D0 l Γ rF wF v1) o) : hd_Lr_readMoreTruths_L2 V D0 l Γ rF wF v1 q := by
  unfold Lr_readMoreTruths_L2 at h
  unfold hd_Lr_readMoreTruths_L2
  refine g_iload_n (pc := 2) dX2_readMoreTruths_2 rfl ?_
  refine g_sipush (v := 240) (pc := 3) dX2_readMoreTruths_3 (by decide) ?_
  refine g_icmp_ge (tgt := 46) (pc := 6) dX2_readMoreTruths_6 (by decide) (fun c6 => ?_) (fun c6 => ?_)
  · rw [if_pos c6] at h
    refine g_wk [false, false, false] rfl ?_
    cases h
    exact hK
  · rw [if_neg c6] at h
    refine g_aload_n (pc := 9) dX2_readMoreTruths_9 rfl ?_
    refine v_getR hV (pc := 10) dX2_readMoreTruths_10 fo_2_0 rfl k0_24 r0_24_0 ?_
    refine g_bipush (v := 124) (pc := 13) dX2_readMoreTruths_13 (by decide) ?_
    obtain ⟨q1, hq1, h⟩ := bnd h
    refine v_callVi hV (Mc := mX9_take) (v := q1.1) (S1 := q1.2) (As := [.int 124]) (rest := []) (q := (RX9, TX9, 4)) (pc := 15) dX2_readMoreTruths_15 mK_X2_70 mf_X9_take rfl k0_8 rfl rfl rfl (Nat.le_of_ble_eq_true rfl) ⟨by show 2 + 1 ≤ D0 + 1; omega, by show 8 + (3 + 11) + 64 * 2 ≤ 64 * (D0 + 1); omega⟩ (r_Tp_take hV hq1) ?_
    refine g_if_eq (tgt := 46) (pc := 18) dX2_readMoreTruths_18 (by decide) (fun c5 => ?_) (fun c5 => ?_)
    · rw [if_pos c5] at h
      refine g_wk [false, false, false] rfl ?_
      cases h
      exact hK
    · rw [if_neg c5] at h
      refine g_aload_n (pc := 21) dX2_readMoreTruths_21 rfl ?_
      refine g_iload_n (pc := 22) dX2_readMoreTruths_22 rfl ?_
      obtain ⟨q2, hq2, h⟩ := bnd h
      refine v_callVv hV (Mc := mX2_readUnit) (S1 := q2) (As := [.int v1]) (rest := []) (q := (RX2, TX2, 2)) (pc := 23) dX2_readMoreTruths_23 mK_X2_73 mf_X2_readUnit rfl k0_24 rfl rfl rfl (Nat.le_of_ble_eq_true rfl) ⟨by show D0 + 1 ≤ D0 + 1; omega, by show 8 + (3 + 11) + 64 * D0 ≤ 64 * (D0 + 1); omega⟩ (hrc.1 _ _ _ hq2) ?_
      refine g_aload_n (pc := 26) dX2_readMoreTruths_26 rfl ?_
      refine g_iload_n (pc := 27) dX2_readMoreTruths_27 rfl ?_
      obtain ⟨q3, hq3, h⟩ := bnd h
      refine v_callVv hV (Mc := mX2_readMoreUnits) (S1 := q3) (As := [.int v1]) (rest := []) (q := (RX2, TX2, 2)) (pc := 28) dX2_readMoreTruths_28 mK_X2_58 mf_X2_readMoreUnits rfl k0_24 rfl rfl rfl (Nat.le_of_ble_eq_true rfl) ⟨by show D0 + 1 ≤ D0 + 1; omega, by show 8 + (3 + 11) + 64 * D0 ≤ 64 * (D0 + 1); omega⟩ (hrc.2.2.1 _ _ _ hq3) ?_
      refine g_aload_n (pc := 31) dX2_readMoreTruths_31 rfl ?_
      refine v_getR hV (pc := 32) dX2_readMoreTruths_32 fo_2_1 rfl k0_24 r0_24_1 ?_
      refine g_bipush (v := (-124)) (pc := 35) dX2_readMoreTruths_35 (by decide) ?_
      obtain ⟨q4, hq4, h⟩ := app_of h
      refine v_callVv hV (Mc := mX3_write) (S1 := q4) (As := [.int ((-124))]) (rest := []) (q := (RX3, TX3, 6)) (pc := 37) dX2_readMoreTruths_37 mK_X2_64 mf_X3_write rfl k0_20 rfl rfl rfl (Nat.le_of_ble_eq_true rfl) ⟨by show 1 + 1 ≤ D0 + 1; omega, by show 8 + (3 + 11) + 64 * 1 ≤ 64 * (D0 + 1); omega⟩ (r_La_write hV hq4) ?_
      refine g_iinc (v := q.1 + 1) (ls1 := [some (.ref 24), some (.int v1), some (.int (q.1 + 1))]) (pc := 40) dX2_readMoreTruths_40 rfl rfl (by decide) rfl ?_
      refine g_goto (tgt := 2) (pc := 43) dX2_readMoreTruths_43 (by decide) ?_
      cases h
      exact hK
set_option maxRecDepth 4000 in
theorem w_Lr_readMoreTruths_L2 {V : Sm → Wd} (hV : VwC V) {D0 : Nat} (hD0 : 44 ≤ D0) {rc : Nat → Int32 → Sm → Option Sm} (hrc : (∀ (u0 : Int32) (S q : Sm), rc 0 u0 S = some q → Runs D0 mX2_readUnit [.ref 24, .int u0] (V S) none (V q) 0 0) ∧ (∀ (u0 : Int32) (S q : Sm), rc 1 u0 S = some q → Runs D0 mX2_readCondition [.ref 24, .int u0] (V S) none (V q) 0 0) ∧ (∀ (u0 : Int32) (S q : Sm), rc 2 u0 S = some q → Runs D0 mX2_readMoreUnits [.ref 24, .int u0] (V S) none (V q) 0 0) ∧ (∀ (u0 : Int32) (S q : Sm), rc 3 u0 S = some q → Runs D0 mX2_readMoreTruths [.ref 24, .int u0] (V S) none (V q) 0 0)) {l : Launch} {Γ : Gm} {rF : Option Value} {wF : Wd} {v1 : Int32} {k : Nat} {q : Int32 × Sm} {o : Sm} (h : lpN (Lr_readMoreTruths_L2 rc v1) k q = some o) (hP : ps_Lr_readMoreTruths_L2 V D0 l Γ rF wF v1 o) : hd_Lr_readMoreTruths_L2 V D0 l Γ rF wF v1 q := lpN_ind2 (hd_Lr_readMoreTruths_L2 V D0 l Γ rF wF v1) (ps_Lr_readMoreTruths_L2 V D0 l Γ rF wF v1) (fun s o h hK => t_Lr_readMoreTruths_L2 hV hD0 hrc h hK) k q o h hP
def Lr_readMoreTruths (rc : Nat → Int32 → Sm → Option Sm) (v1 : Int32) (S : Sm) : Option (Sm) := ((lpN (Lr_readMoreTruths_L2 rc v1) FU (0, S)).bind fun q7 => (some q7))
set_option maxRecDepth 4000 in
theorem rb_Lr_readMoreTruths {V : Sm → Wd} (hV : VwC V) {D0 : Nat} (hD0 : 44 ≤ D0) {rc : Nat → Int32 → Sm → Option Sm} (hrc : (∀ (u0 : Int32) (S q : Sm), rc 0 u0 S = some q → Runs D0 mX2_readUnit [.ref 24, .int u0] (V S) none (V q) 0 0) ∧ (∀ (u0 : Int32) (S q : Sm), rc 1 u0 S = some q → Runs D0 mX2_readCondition [.ref 24, .int u0] (V S) none (V q) 0 0) ∧ (∀ (u0 : Int32) (S q : Sm), rc 2 u0 S = some q → Runs D0 mX2_readMoreUnits [.ref 24, .int u0] (V S) none (V q) 0 0) ∧ (∀ (u0 : Int32) (S q : Sm), rc 3 u0 S = some q → Runs D0 mX2_readMoreTruths [.ref 24, .int u0] (V S) none (V q) 0 0)) {v1 : Int32} {S : Sm} {q : Sm} (h : Lr_readMoreTruths rc v1 S = some q) : Runs (D0 + 1) mX2_readMoreTruths [.ref 24, .int v1] (V S) none (V q) 0 0 := by
  unfold Lr_readMoreTruths at h
  refine Runs.of2 [some (.ref 24), some (.int v1), none] 1 rfl rfl (Nat.le_of_ble_eq_true rfl) (fun l Γ => ?_)
  refine g_iconst (v := 0) (pc := 0) dX2_readMoreTruths_0 (by decide) ?_
  refine g_istore_n (ls1 := [some (.ref 24), some (.int v1), some (.int 0)]) (pc := 1) dX2_readMoreTruths_1 (by decide) rfl ?_
  obtain ⟨q7, hqq7, h⟩ := bnd h
  refine w_Lr_readMoreTruths_L2 hV hD0 hrc hqq7 ?_
  unfold ps_Lr_readMoreTruths_L2
  show G _ _ _ _ _ _ _ _ _ _ _
  cases h
  exact g_vret (pc := 46) dX2_readMoreTruths_46 rfl (Nat.le_refl _) (Nat.le_refl _)
def fLu : Nat → Nat → Int32 → Sm → Option Sm
  | 0, _, _, _ => none
  | D + 1, i, u0, S => if i = 0 then Lr_readUnit (fLu D) u0 S else if i = 1 then Lr_readCondition (fLu D) u0 S else if i = 2 then Lr_readMoreUnits (fLu D) u0 S else Lr_readMoreTruths (fLu D) u0 S
set_option maxRecDepth 4000 in
theorem fLu_ok {V : Sm → Wd} (hV : VwC V) : ∀ D : Nat, (∀ (u0 : Int32) (S q : Sm), fLu D 0 u0 S = some q → Runs (44 + D) mX2_readUnit [.ref 24, .int u0] (V S) none (V q) 0 0) ∧ (∀ (u0 : Int32) (S q : Sm), fLu D 1 u0 S = some q → Runs (44 + D) mX2_readCondition [.ref 24, .int u0] (V S) none (V q) 0 0) ∧ (∀ (u0 : Int32) (S q : Sm), fLu D 2 u0 S = some q → Runs (44 + D) mX2_readMoreUnits [.ref 24, .int u0] (V S) none (V q) 0 0) ∧ (∀ (u0 : Int32) (S q : Sm), fLu D 3 u0 S = some q → Runs (44 + D) mX2_readMoreTruths [.ref 24, .int u0] (V S) none (V q) 0 0)
  | 0 => ⟨fun _ _ _ h => (by cases h), fun _ _ _ h => (by cases h), fun _ _ _ h => (by cases h), fun _ _ _ h => (by cases h)⟩
  | D + 1 => ⟨fun u0 S q h => rb_Lr_readUnit hV (D0 := 44 + D) (by omega) (fLu_ok hV D) h, fun u0 S q h => rb_Lr_readCondition hV (D0 := 44 + D) (by omega) (fLu_ok hV D) h, fun u0 S q h => rb_Lr_readMoreUnits hV (D0 := 44 + D) (by omega) (fLu_ok hV D) h, fun u0 S q h => rb_Lr_readMoreTruths hV (D0 := 44 + D) (by omega) (fLu_ok hV D) h⟩
def Lr_readUnit_r (u0 : Int32) (S : Sm) : Option Sm := fLu 40 0 u0 S
set_option maxRecDepth 4000 in
theorem r_Lr_readUnit_r {V : Sm → Wd} (hV : VwC V) {u0 : Int32} {S q : Sm} (h : Lr_readUnit_r u0 S = some q) : Runs 84 mX2_readUnit [.ref 24, .int u0] (V S) none (V q) 0 0 := (fLu_ok hV 40).1 _ _ _ h
def Lr_readCondition_r (u0 : Int32) (S : Sm) : Option Sm := fLu 40 1 u0 S
set_option maxRecDepth 4000 in
theorem r_Lr_readCondition_r {V : Sm → Wd} (hV : VwC V) {u0 : Int32} {S q : Sm} (h : Lr_readCondition_r u0 S = some q) : Runs 84 mX2_readCondition [.ref 24, .int u0] (V S) none (V q) 0 0 := (fLu_ok hV 40).2.1 _ _ _ h
def Lr_readMoreUnits_r (u0 : Int32) (S : Sm) : Option Sm := fLu 40 2 u0 S
set_option maxRecDepth 4000 in
theorem r_Lr_readMoreUnits_r {V : Sm → Wd} (hV : VwC V) {u0 : Int32} {S q : Sm} (h : Lr_readMoreUnits_r u0 S = some q) : Runs 84 mX2_readMoreUnits [.ref 24, .int u0] (V S) none (V q) 0 0 := (fLu_ok hV 40).2.2.1 _ _ _ h
def Lr_readMoreTruths_r (u0 : Int32) (S : Sm) : Option Sm := fLu 40 3 u0 S
set_option maxRecDepth 4000 in
theorem r_Lr_readMoreTruths_r {V : Sm → Wd} (hV : VwC V) {u0 : Int32} {S q : Sm} (h : Lr_readMoreTruths_r u0 S = some q) : Runs 84 mX2_readMoreTruths [.ref 24, .int u0] (V S) none (V q) 0 0 := (fLu_ok hV 40).2.2.2 _ _ _ h
def Lr_readClause_118 (S : Sm) : Option (Sm) := (app (La_write ((-59)) S) fun q6 => (some q6))
set_option maxRecDepth 4000 in
theorem t_Lr_readClause_118 {V : Sm → Wd} (hV : VwC V) {l : Launch} {Γ : Gm}  {S : Sm} {q : Sm} (h : Lr_readClause_118 S = some q) : G mX2_readClause l Γ (rmD 85 0 0) (mQ Γ none (V q) 0 0) 0 0 118 [some (.ref 24), none, none] [] (V S) := by
  unfold Lr_readClause_118 at h
  refine g_aload_n (pc := 118) dX2_readClause_118 rfl ?_
  refine v_getR hV (pc := 119) dX2_readClause_119 fo_2_1 rfl k0_24 r0_24_1 ?_
  refine g_bipush (v := (-59)) (pc := 122) dX2_readClause_122 (by decide) ?_
  obtain ⟨q6, hq6, h⟩ := app_of h
  refine v_callVv hV (Mc := mX3_write) (S1 := q6) (As := [.int ((-59))]) (rest := []) (q := (RX3, TX3, 6)) (pc := 124) dX2_readClause_124 mK_X2_64 mf_X3_write rfl k0_20 rfl rfl rfl (Nat.le_of_ble_eq_true rfl) ⟨Nat.le_of_ble_eq_true rfl, Nat.le_of_ble_eq_true rfl⟩ (r_La_write hV hq6) ?_
  cases h
  exact g_vret (pc := 127) dX2_readClause_127 rfl (Nat.le_refl _) (Nat.le_refl _)
def Lr_readClause_91 (v2 : Int32) (S : Sm) : Option (Sm) := (if v2 = 0 then (Lr_readClause_118 S) else ((Tp_need 63 S).bind fun q7 => (app (La_write ((-63)) q7) fun q8 => ((Lr_readSum_r 0 q8).bind fun q9 => (Lr_readClause_118 q9)))))
set_option maxRecDepth 4000 in
theorem t_Lr_readClause_91 {V : Sm → Wd} (hV : VwC V) {l : Launch} {Γ : Gm} {v2 : Int32} {S : Sm} {q : Sm} (h : Lr_readClause_91 v2 S = some q) : G mX2_readClause l Γ (rmD 85 0 0) (mQ Γ none (V q) 0 0) 0 0 91 [some (.ref 24), none, some (.int v2)] [] (V S) := by
  unfold Lr_readClause_91 at h
  refine g_iload_n (pc := 91) dX2_readClause_91 rfl ?_
  refine g_if_eq (tgt := 118) (pc := 92) dX2_readClause_92 (by decide) (fun c10 => ?_) (fun c10 => ?_)
  · rw [if_pos c10] at h
    refine g_wk [true, false, false] rfl ?_
    exact t_Lr_readClause_118 hV h
  · rw [if_neg c10] at h
    refine g_aload_n (pc := 95) dX2_readClause_95 rfl ?_
    refine v_getR hV (pc := 96) dX2_readClause_96 fo_2_0 rfl k0_24 r0_24_0 ?_
    refine g_bipush (v := 63) (pc := 99) dX2_readClause_99 (by decide) ?_
    obtain ⟨q7, hq7, h⟩ := bnd h
    refine v_callVv hV (Mc := mX9_need) (S1 := q7) (As := [.int 63]) (rest := []) (q := (RX9, TX9, 4)) (pc := 101) dX2_readClause_101 mK_X2_38 mf_X9_need rfl k0_8 rfl rfl rfl (Nat.le_of_ble_eq_true rfl) ⟨Nat.le_of_ble_eq_true rfl, Nat.le_of_ble_eq_true rfl⟩ (r_Tp_need hV hq7) ?_
    refine g_aload_n (pc := 104) dX2_readClause_104 rfl ?_
    refine v_getR hV (pc := 105) dX2_readClause_105 fo_2_1 rfl k0_24 r0_24_1 ?_
    refine g_bipush (v := (-63)) (pc := 108) dX2_readClause_108 (by decide) ?_
    obtain ⟨q8, hq8, h⟩ := app_of h
    refine v_callVv hV (Mc := mX3_write) (S1 := q8) (As := [.int ((-63))]) (rest := []) (q := (RX3, TX3, 6)) (pc := 110) dX2_readClause_110 mK_X2_64 mf_X3_write rfl k0_20 rfl rfl rfl (Nat.le_of_ble_eq_true rfl) ⟨Nat.le_of_ble_eq_true rfl, Nat.le_of_ble_eq_true rfl⟩ (r_La_write hV hq8) ?_
    refine g_aload_n (pc := 113) dX2_readClause_113 rfl ?_
    refine g_iconst (v := 0) (pc := 114) dX2_readClause_114 (by decide) ?_
    obtain ⟨q9, hq9, h⟩ := bnd h
    refine v_callVv hV (Mc := mX2_readSum) (S1 := q9) (As := [.int 0]) (rest := []) (q := (RX2, TX2, 2)) (pc := 115) dX2_readClause_115 mK_X2_48 mf_X2_readSum rfl k0_24 rfl rfl rfl (Nat.le_of_ble_eq_true rfl) ⟨Nat.le_of_ble_eq_true rfl, Nat.le_of_ble_eq_true rfl⟩ (r_Lr_readSum_r hV hq9) ?_
    refine g_wk [true, false, false] rfl ?_
    exact t_Lr_readClause_118 hV h
def Lr_readClause_43 (s0 : Int32) (S : Sm) : Option (Sm) := (if s0 = 0 then ((Lr_readSum_r 0 S).bind fun q4 => ((Tp_sign q4).bind fun q5 => (if (Lr_isComparing q5.1) = 0 then (Lr_readClause_91 (Lr_isComparing q5.1) q5.2) else ((Lr_readComparison 0 q5.2).bind fun q11 => ((Lr_readMoreUnits_r 0 q11).bind fun q12 => ((Lr_readMoreTruths_r 0 q12).bind fun q13 => (Lr_readClause_91 (Lr_isComparing q5.1) q13))))))) else ((Lr_readCondition_r 0 S).bind fun q15 => (Lr_readClause_91 s0 q15)))
set_option maxRecDepth 4000 in
theorem t_Lr_readClause_43 {V : Sm → Wd} (hV : VwC V) {l : Launch} {Γ : Gm} {s0 : Int32} {S : Sm} {q : Sm} (h : Lr_readClause_43 s0 S = some q) : G mX2_readClause l Γ (rmD 85 0 0) (mQ Γ none (V q) 0 0) 0 0 43 [some (.ref 24), none, none] [.int s0] (V S) := by
  unfold Lr_readClause_43 at h
  refine g_istore_n (ls1 := [some (.ref 24), none, some (.int s0)]) (pc := 43) dX2_readClause_43 (by decide) rfl ?_
  refine g_iload_n (pc := 44) dX2_readClause_44 rfl ?_
  refine g_if_eq (tgt := 56) (pc := 45) dX2_readClause_45 (by decide) (fun c16 => ?_) (fun c16 => ?_)
  · rw [if_pos c16] at h
    refine g_aload_n (pc := 56) dX2_readClause_56 rfl ?_
    refine g_iconst (v := 0) (pc := 57) dX2_readClause_57 (by decide) ?_
    obtain ⟨q4, hq4, h⟩ := bnd h
    refine v_callVv hV (Mc := mX2_readSum) (S1 := q4) (As := [.int 0]) (rest := []) (q := (RX2, TX2, 2)) (pc := 58) dX2_readClause_58 mK_X2_48 mf_X2_readSum rfl k0_24 rfl rfl rfl (Nat.le_of_ble_eq_true rfl) ⟨Nat.le_of_ble_eq_true rfl, Nat.le_of_ble_eq_true rfl⟩ (r_Lr_readSum_r hV hq4) ?_
    refine g_aload_n (pc := 61) dX2_readClause_61 rfl ?_
    refine v_getR hV (pc := 62) dX2_readClause_62 fo_2_0 rfl k0_24 r0_24_0 ?_
    obtain ⟨q5, hq5, h⟩ := bnd h
    refine v_callVi hV (Mc := mX9_sign) (v := q5.1) (S1 := q5.2) (As := []) (rest := []) (q := (RX9, TX9, 4)) (pc := 65) dX2_readClause_65 mK_X2_42 mf_X9_sign rfl k0_8 rfl rfl rfl (Nat.le_of_ble_eq_true rfl) ⟨Nat.le_of_ble_eq_true rfl, Nat.le_of_ble_eq_true rfl⟩ (r_Tp_sign hV hq5) ?_
    refine v_callSi (Mc := mX2_isComparing) (v := Lr_isComparing q5.1) (S1 := q5.2) (As := [.int q5.1]) (rest := []) (pc := 68) dX2_readClause_68 mK_X2_51 mf_X2_isComparing rfl rfl (Nat.le_of_ble_eq_true rfl) ⟨Nat.le_of_ble_eq_true rfl, Nat.le_of_ble_eq_true rfl⟩ (r_Lr_isComparing hV rfl) ?_
    refine g_istore_n (ls1 := [some (.ref 24), none, some (.int (Lr_isComparing q5.1))]) (pc := 71) dX2_readClause_71 (by decide) rfl ?_
    refine g_iload_n (pc := 72) dX2_readClause_72 rfl ?_
    refine g_if_eq (tgt := 91) (pc := 73) dX2_readClause_73 (by decide) (fun c14 => ?_) (fun c14 => ?_)
    · rw [if_pos c14] at h
      exact t_Lr_readClause_91 hV h
    · rw [if_neg c14] at h
      refine g_aload_n (pc := 76) dX2_readClause_76 rfl ?_
      refine g_iconst (v := 0) (pc := 77) dX2_readClause_77 (by decide) ?_
      obtain ⟨q11, hq11, h⟩ := bnd h
      refine v_callVv hV (Mc := mX2_readComparison) (S1 := q11) (As := [.int 0]) (rest := []) (q := (RX2, TX2, 2)) (pc := 78) dX2_readClause_78 mK_X2_55 mf_X2_readComparison rfl k0_24 rfl rfl rfl (Nat.le_of_ble_eq_true rfl) ⟨Nat.le_of_ble_eq_true rfl, Nat.le_of_ble_eq_true rfl⟩ (r_Lr_readComparison hV hq11) ?_
      refine g_aload_n (pc := 81) dX2_readClause_81 rfl ?_
      refine g_iconst (v := 0) (pc := 82) dX2_readClause_82 (by decide) ?_
      obtain ⟨q12, hq12, h⟩ := bnd h
      refine v_callVv hV (Mc := mX2_readMoreUnits) (S1 := q12) (As := [.int 0]) (rest := []) (q := (RX2, TX2, 2)) (pc := 83) dX2_readClause_83 mK_X2_58 mf_X2_readMoreUnits rfl k0_24 rfl rfl rfl (Nat.le_of_ble_eq_true rfl) ⟨Nat.le_of_ble_eq_true rfl, Nat.le_of_ble_eq_true rfl⟩ (r_Lr_readMoreUnits_r hV hq12) ?_
      refine g_aload_n (pc := 86) dX2_readClause_86 rfl ?_
      refine g_iconst (v := 0) (pc := 87) dX2_readClause_87 (by decide) ?_
      obtain ⟨q13, hq13, h⟩ := bnd h
      refine v_callVv hV (Mc := mX2_readMoreTruths) (S1 := q13) (As := [.int 0]) (rest := []) (q := (RX2, TX2, 2)) (pc := 88) dX2_readClause_88 mK_X2_61 mf_X2_readMoreTruths rfl k0_24 rfl rfl rfl (Nat.le_of_ble_eq_true rfl) ⟨Nat.le_of_ble_eq_true rfl, Nat.le_of_ble_eq_true rfl⟩ (r_Lr_readMoreTruths_r hV hq13) ?_
      exact t_Lr_readClause_91 hV h
  · rw [if_neg c16] at h
    refine g_aload_n (pc := 48) dX2_readClause_48 rfl ?_
    refine g_iconst (v := 0) (pc := 49) dX2_readClause_49 (by decide) ?_
    obtain ⟨q15, hq15, h⟩ := bnd h
    refine v_callVv hV (Mc := mX2_readCondition) (S1 := q15) (As := [.int 0]) (rest := []) (q := (RX2, TX2, 2)) (pc := 50) dX2_readClause_50 mK_X2_45 mf_X2_readCondition rfl k0_24 rfl rfl rfl (Nat.le_of_ble_eq_true rfl) ⟨Nat.le_of_ble_eq_true rfl, Nat.le_of_ble_eq_true rfl⟩ (r_Lr_readCondition_r hV hq15) ?_
    refine g_goto (tgt := 91) (pc := 53) dX2_readClause_53 (by decide) ?_
    exact t_Lr_readClause_91 hV h
def Lr_readClause_38 (S : Sm) : Option (Sm) := (Lr_readClause_43 1 S)
set_option maxRecDepth 4000 in
theorem t_Lr_readClause_38 {V : Sm → Wd} (hV : VwC V) {l : Launch} {Γ : Gm}  {S : Sm} {q : Sm} (h : Lr_readClause_38 S = some q) : G mX2_readClause l Γ (rmD 85 0 0) (mQ Γ none (V q) 0 0) 0 0 38 [some (.ref 24), none, none] [] (V S) := by
  unfold Lr_readClause_38 at h
  refine g_iconst (v := 1) (pc := 38) dX2_readClause_38 (by decide) ?_
  refine g_goto (tgt := 43) (pc := 39) dX2_readClause_39 (by decide) ?_
  exact t_Lr_readClause_43 hV h
def Lr_readClause (S : Sm) : Option (Sm) := ((Tp_need 121 S).bind fun q1 => ((Tp_need 58 q1).bind fun q2 => ((Tp_sign q2).bind fun q3 => (if q3.1 = 33 then (Lr_readClause_38 q3.2) else (if q3.1 = 40 then (Lr_readClause_38 q3.2) else (Lr_readClause_43 0 q3.2))))))
set_option maxRecDepth 4000 in
theorem r_Lr_readClause {V : Sm → Wd} (hV : VwC V)  {S : Sm} {q : Sm} (h : Lr_readClause S = some q) : Runs 85 mX2_readClause [.ref 24] (V S) none (V q) 0 0 := by
  unfold Lr_readClause at h
  refine Runs.of2 [some (.ref 24), none, none] 2 rfl rfl (Nat.le_of_ble_eq_true rfl) (fun l Γ => ?_)
  refine g_aload_n (pc := 0) dX2_readClause_0 rfl ?_
  refine v_getR hV (pc := 1) dX2_readClause_1 fo_2_0 rfl k0_24 r0_24_0 ?_
  refine g_bipush (v := 121) (pc := 4) dX2_readClause_4 (by decide) ?_
  obtain ⟨q1, hq1, h⟩ := bnd h
  refine v_callVv hV (Mc := mX9_need) (S1 := q1) (As := [.int 121]) (rest := []) (q := (RX9, TX9, 4)) (pc := 6) dX2_readClause_6 mK_X2_38 mf_X9_need rfl k0_8 rfl rfl rfl (Nat.le_of_ble_eq_true rfl) ⟨Nat.le_of_ble_eq_true rfl, Nat.le_of_ble_eq_true rfl⟩ (r_Tp_need hV hq1) ?_
  refine g_aload_n (pc := 9) dX2_readClause_9 rfl ?_
  refine v_getR hV (pc := 10) dX2_readClause_10 fo_2_0 rfl k0_24 r0_24_0 ?_
  refine g_bipush (v := 58) (pc := 13) dX2_readClause_13 (by decide) ?_
  obtain ⟨q2, hq2, h⟩ := bnd h
  refine v_callVv hV (Mc := mX9_need) (S1 := q2) (As := [.int 58]) (rest := []) (q := (RX9, TX9, 4)) (pc := 15) dX2_readClause_15 mK_X2_38 mf_X9_need rfl k0_8 rfl rfl rfl (Nat.le_of_ble_eq_true rfl) ⟨Nat.le_of_ble_eq_true rfl, Nat.le_of_ble_eq_true rfl⟩ (r_Tp_need hV hq2) ?_
  refine g_aload_n (pc := 18) dX2_readClause_18 rfl ?_
  refine v_getR hV (pc := 19) dX2_readClause_19 fo_2_0 rfl k0_24 r0_24_0 ?_
  obtain ⟨q3, hq3, h⟩ := bnd h
  refine v_callVi hV (Mc := mX9_sign) (v := q3.1) (S1 := q3.2) (As := []) (rest := []) (q := (RX9, TX9, 4)) (pc := 22) dX2_readClause_22 mK_X2_42 mf_X9_sign rfl k0_8 rfl rfl rfl (Nat.le_of_ble_eq_true rfl) ⟨Nat.le_of_ble_eq_true rfl, Nat.le_of_ble_eq_true rfl⟩ (r_Tp_sign hV hq3) ?_
  refine g_istore_n (ls1 := [some (.ref 24), some (.int q3.1), none]) (pc := 25) dX2_readClause_25 (by decide) rfl ?_
  refine g_iload_n (pc := 26) dX2_readClause_26 rfl ?_
  refine g_bipush (v := 33) (pc := 27) dX2_readClause_27 (by decide) ?_
  refine g_icmp_eq (tgt := 38) (pc := 29) dX2_readClause_29 (by decide) (fun c18 => ?_) (fun c18 => ?_)
  · rw [if_pos c18] at h
    refine g_wk [true, false, false] rfl ?_
    exact t_Lr_readClause_38 hV h
  · rw [if_neg c18] at h
    refine g_iload_n (pc := 32) dX2_readClause_32 rfl ?_
    refine g_bipush (v := 40) (pc := 33) dX2_readClause_33 (by decide) ?_
    refine g_icmp_ne (tgt := 42) (pc := 35) dX2_readClause_35 (by decide) (fun c17 => ?_) (fun c17 => ?_)
    · rw [if_neg c17] at h
      refine g_iconst (v := 0) (pc := 42) dX2_readClause_42 (by decide) ?_
      refine g_wk [true, false, false] rfl ?_
      exact t_Lr_readClause_43 hV h
    · rw [if_pos c17] at h
      refine g_wk [true, false, false] rfl ?_
      exact t_Lr_readClause_38 hV h
def Tp_goesOn_28 (s0 : Int32) (S : Sm) : Option (Int32 × Sm) := (some ((s0 &&& 1, S)))
set_option maxRecDepth 4000 in
theorem t_Tp_goesOn_28 {V : Sm → Wd} (hV : VwC V) {l : Launch} {Γ : Gm} {s0 : Int32} {S : Sm} {q : Int32 × Sm} (h : Tp_goesOn_28 s0 S = some q) : G mX9_goesOn l Γ (rmD 3 0 0) (mQ Γ (some (.int q.1)) (V q.2) 0 0) 0 0 28 [none] [.int s0] (V S) := by
  unfold Tp_goesOn_28 at h
  cases h
  exact g_iret (pc := 28) dX9_goesOn_28 rfl rfl (Nat.le_refl _) (Nat.le_refl _)
def Tp_goesOn (S : Sm) : Option (Int32 × Sm) := ((Tp_sign S).bind fun q1 => (if q1.1 = ((-1)) then (some ((0, q1.2))) else ((Tp_need 59 q1.2).bind fun q2 => (if (Tp_isFaulty q2) = 0 then (Tp_goesOn_28 1 q2) else (Tp_goesOn_28 0 q2)))))
set_option maxRecDepth 4000 in
theorem r_Tp_goesOn {V : Sm → Wd} (hV : VwC V)  {S : Sm} {q : Int32 × Sm} (h : Tp_goesOn S = some q) : Runs 3 mX9_goesOn [.ref 8] (V S) (some (.int q.1)) (V q.2) 0 0 := by
  unfold Tp_goesOn at h
  refine Runs.of2 [some (.ref 8)] 0 rfl rfl (Nat.le_of_ble_eq_true rfl) (fun l Γ => ?_)
  refine g_aload_n (pc := 0) dX9_goesOn_0 rfl ?_
  obtain ⟨q1, hq1, h⟩ := bnd h
  refine v_callVi hV (Mc := mX9_sign) (v := q1.1) (S1 := q1.2) (As := []) (rest := []) (q := (RX9, TX9, 4)) (pc := 1) dX9_goesOn_1 mK_X9_43 mf_X9_sign rfl k0_8 rfl rfl rfl (Nat.le_of_ble_eq_true rfl) ⟨Nat.le_of_ble_eq_true rfl, Nat.le_of_ble_eq_true rfl⟩ (r_Tp_sign hV hq1) ?_
  refine g_iconst (v := (-1)) (pc := 4) dX9_goesOn_4 (by decide) ?_
  refine g_icmp_ne (tgt := 10) (pc := 5) dX9_goesOn_5 (by decide) (fun c4 => ?_) (fun c4 => ?_)
  · rw [if_neg c4] at h
    refine g_aload_n (pc := 10) dX9_goesOn_10 rfl ?_
    refine g_bipush (v := 59) (pc := 11) dX9_goesOn_11 (by decide) ?_
    obtain ⟨q2, hq2, h⟩ := bnd h
    refine v_callVv hV (Mc := mX9_need) (S1 := q2) (As := [.int 59]) (rest := []) (q := (RX9, TX9, 4)) (pc := 13) dX9_goesOn_13 mK_X9_50 mf_X9_need rfl k0_8 rfl rfl rfl (Nat.le_of_ble_eq_true rfl) ⟨Nat.le_of_ble_eq_true rfl, Nat.le_of_ble_eq_true rfl⟩ (r_Tp_need hV hq2) ?_
    refine g_aload_n (pc := 16) dX9_goesOn_16 rfl ?_
    refine v_callVi hV (Mc := mX9_isFaulty) (v := Tp_isFaulty q2) (S1 := q2) (As := []) (rest := []) (q := (RX9, TX9, 4)) (pc := 17) dX9_goesOn_17 mK_X9_53 mf_X9_isFaulty rfl k0_8 rfl rfl rfl (Nat.le_of_ble_eq_true rfl) ⟨Nat.le_of_ble_eq_true rfl, Nat.le_of_ble_eq_true rfl⟩ (r_Tp_isFaulty hV rfl) ?_
    refine g_if_ne (tgt := 27) (pc := 20) dX9_goesOn_20 (by decide) (fun c3 => ?_) (fun c3 => ?_)
    · rw [if_neg c3] at h
      refine g_iconst (v := 0) (pc := 27) dX9_goesOn_27 (by decide) ?_
      refine g_wk [false] rfl ?_
      exact t_Tp_goesOn_28 hV h
    · rw [if_pos c3] at h
      refine g_iconst (v := 1) (pc := 23) dX9_goesOn_23 (by decide) ?_
      refine g_goto (tgt := 28) (pc := 24) dX9_goesOn_24 (by decide) ?_
      refine g_wk [false] rfl ?_
      exact t_Tp_goesOn_28 hV h
  · rw [if_pos c4] at h
    refine g_iconst (v := 0) (pc := 8) dX9_goesOn_8 (by decide) ?_
    cases h
    exact g_iret (u := 0) (pc := 9) dX9_goesOn_9 rfl (by decide) (Nat.le_refl _) (Nat.le_refl _)
def Tp_firstFault (S : Sm) : Int32 := (gi S 8 3)
set_option maxRecDepth 4000 in
theorem r_Tp_firstFault {V : Sm → Wd} (hV : VwC V)  {S : Sm} {q : Int32} (h : Tp_firstFault S = q) : Runs 0 mX9_firstFault [.ref 8] (V S) (some (.int q)) (V S) 0 0 := by
  unfold Tp_firstFault at h
  refine Runs.of2 [some (.ref 8)] 0 rfl rfl (Nat.le_of_ble_eq_true rfl) (fun l Γ => ?_)
  refine g_aload_n (pc := 0) dX9_firstFault_0 rfl ?_
  refine v_getI hV (pc := 1) dX9_firstFault_1 fo_9_3 rfl k0_8 own_8 ?_
  subst h
  exact g_iret (pc := 4) dX9_firstFault_4 rfl rfl (Nat.le_refl _) (Nat.le_refl _)
def hd_Lr_firstFault_L18 (V : Sm → Wd) (l : Launch) (Γ : Gm) (rF : Option Value) (wF : Wd)  (q : Int32 × Int32 × Sm) : Prop := G mX2_firstFault l Γ (rmD 86 0 0) (mQ Γ rF wF 0 0) 0 0 18 [some (.ref 24), some (.int q.1), some (.int q.2.1)] [] (V q.2.2)
def ps_Lr_firstFault_L18 (V : Sm → Wd) (l : Launch) (Γ : Gm) (rF : Option Value) (wF : Wd)  (x : Sm) : Prop := (fun (a : Sm) => G mX2_firstFault l Γ (rmD 86 0 0) (mQ Γ rF wF 0 0) 0 0 47 [some (.ref 24), none, none] [] (V a)) x
def Lr_firstFault_L18 (q : Int32 × Int32 × Sm) : Option ((Int32 × Int32 × Sm) ⊕ (Sm)) := (if (240 : Int32) < q.2.1 then (some (.inr q.2.2)) else (if q.1 = 0 then (some (.inr q.2.2)) else ((Lr_readClause q.2.2).bind fun q3 => ((Tp_goesOn q3).bind fun q4 => (some (.inl (q4.1, q.2.1 + 1, q4.2)))))))
set_option maxRecDepth 4000 in
theorem t_Lr_firstFault_L18 {V : Sm → Wd} (hV : VwC V) {l : Launch} {Γ : Gm} {rF : Option Value} {wF : Wd}  {q : Int32 × Int32 × Sm} {o : (Int32 × Int32 × Sm) ⊕ (Sm)} (h : Lr_firstFault_L18 q = some o) (hK : Sum.elim (hd_Lr_firstFault_L18 V l Γ rF wF) (ps_Lr_firstFault_L18 V l Γ rF wF) o) : hd_Lr_firstFault_L18 V l Γ rF wF q := by
  unfold Lr_firstFault_L18 at h
  unfold hd_Lr_firstFault_L18
  refine g_iload_n (pc := 18) dX2_firstFault_18 rfl ?_
  refine g_sipush (v := 240) (pc := 19) dX2_firstFault_19 (by decide) ?_
  refine g_icmp_gt (tgt := 47) (pc := 22) dX2_firstFault_22 (by decide) (fun c6 => ?_) (fun c6 => ?_)
  · rw [if_pos c6] at h
    refine g_wk [true, false, false] rfl ?_
    cases h
    exact hK
  · rw [if_neg c6] at h
    refine g_iload_n (pc := 25) dX2_firstFault_25 rfl ?_
    refine g_if_eq (tgt := 47) (pc := 26) dX2_firstFault_26 (by decide) (fun c5 => ?_) (fun c5 => ?_)
    · rw [if_pos c5] at h
      refine g_wk [true, false, false] rfl ?_
      cases h
      exact hK
    · rw [if_neg c5] at h
      refine g_aload_n (pc := 29) dX2_firstFault_29 rfl ?_
      obtain ⟨q3, hq3, h⟩ := bnd h
      refine v_callVv hV (Mc := mX2_readClause) (S1 := q3) (As := []) (rest := []) (q := (RX2, TX2, 2)) (pc := 30) dX2_firstFault_30 mK_X2_27 mf_X2_readClause rfl k0_24 rfl rfl rfl (Nat.le_of_ble_eq_true rfl) ⟨Nat.le_of_ble_eq_true rfl, Nat.le_of_ble_eq_true rfl⟩ (r_Lr_readClause hV hq3) ?_
      refine g_aload_n (pc := 33) dX2_firstFault_33 rfl ?_
      refine v_getR hV (pc := 34) dX2_firstFault_34 fo_2_0 rfl k0_24 r0_24_0 ?_
      obtain ⟨q4, hq4, h⟩ := bnd h
      refine v_callVi hV (Mc := mX9_goesOn) (v := q4.1) (S1 := q4.2) (As := []) (rest := []) (q := (RX9, TX9, 4)) (pc := 37) dX2_firstFault_37 mK_X2_30 mf_X9_goesOn rfl k0_8 rfl rfl rfl (Nat.le_of_ble_eq_true rfl) ⟨Nat.le_of_ble_eq_true rfl, Nat.le_of_ble_eq_true rfl⟩ (r_Tp_goesOn hV hq4) ?_
      refine g_istore_n (ls1 := [some (.ref 24), some (.int q4.1), some (.int q.2.1)]) (pc := 40) dX2_firstFault_40 (by decide) rfl ?_
      refine g_iinc (v := q.2.1 + 1) (ls1 := [some (.ref 24), some (.int q4.1), some (.int (q.2.1 + 1))]) (pc := 41) dX2_firstFault_41 rfl rfl (by decide) rfl ?_
      refine g_goto (tgt := 18) (pc := 44) dX2_firstFault_44 (by decide) ?_
      cases h
      exact hK
set_option maxRecDepth 4000 in
theorem w_Lr_firstFault_L18 {V : Sm → Wd} (hV : VwC V) {l : Launch} {Γ : Gm} {rF : Option Value} {wF : Wd}  {k : Nat} {q : Int32 × Int32 × Sm} {o : Sm} (h : lpN (Lr_firstFault_L18) k q = some o) (hP : ps_Lr_firstFault_L18 V l Γ rF wF o) : hd_Lr_firstFault_L18 V l Γ rF wF q := lpN_ind2 (hd_Lr_firstFault_L18 V l Γ rF wF) (ps_Lr_firstFault_L18 V l Γ rF wF) (fun s o h hK => t_Lr_firstFault_L18 hV h hK) k q o h hP
def Lr_firstFault (S : Sm) : Option (Int32 × Sm) := (app (Tp_rewind S) fun q1 => (app (La_beginDraft q1) fun q2 => ((lpN (Lr_firstFault_L18) FU (1, 0, q2)).bind fun q7 => (some ((Tp_firstFault q7, q7))))))
set_option maxRecDepth 4000 in
theorem r_Lr_firstFault {V : Sm → Wd} (hV : VwC V)  {S : Sm} {q : Int32 × Sm} (h : Lr_firstFault S = some q) : Runs 86 mX2_firstFault [.ref 24] (V S) (some (.int q.1)) (V q.2) 0 0 := by
  unfold Lr_firstFault at h
  refine Runs.of2 [some (.ref 24), none, none] 2 rfl rfl (Nat.le_of_ble_eq_true rfl) (fun l Γ => ?_)
  refine g_aload_n (pc := 0) dX2_firstFault_0 rfl ?_
  refine v_getR hV (pc := 1) dX2_firstFault_1 fo_2_0 rfl k0_24 r0_24_0 ?_
  obtain ⟨q1, hq1, h⟩ := app_of h
  refine v_callVv hV (Mc := mX9_rewind) (S1 := q1) (As := []) (rest := []) (q := (RX9, TX9, 4)) (pc := 4) dX2_firstFault_4 mK_X2_17 mf_X9_rewind rfl k0_8 rfl rfl rfl (Nat.le_of_ble_eq_true rfl) ⟨Nat.le_of_ble_eq_true rfl, Nat.le_of_ble_eq_true rfl⟩ (r_Tp_rewind hV hq1) ?_
  refine g_aload_n (pc := 7) dX2_firstFault_7 rfl ?_
  refine v_getR hV (pc := 8) dX2_firstFault_8 fo_2_1 rfl k0_24 r0_24_1 ?_
  obtain ⟨q2, hq2, h⟩ := app_of h
  refine v_callVv hV (Mc := mX3_beginDraft) (S1 := q2) (As := []) (rest := []) (q := (RX3, TX3, 6)) (pc := 11) dX2_firstFault_11 mK_X2_22 mf_X3_beginDraft rfl k0_20 rfl rfl rfl (Nat.le_of_ble_eq_true rfl) ⟨Nat.le_of_ble_eq_true rfl, Nat.le_of_ble_eq_true rfl⟩ (r_La_beginDraft hV hq2) ?_
  refine g_iconst (v := 1) (pc := 14) dX2_firstFault_14 (by decide) ?_
  refine g_istore_n (ls1 := [some (.ref 24), some (.int 1), none]) (pc := 15) dX2_firstFault_15 (by decide) rfl ?_
  refine g_iconst (v := 0) (pc := 16) dX2_firstFault_16 (by decide) ?_
  refine g_istore_n (ls1 := [some (.ref 24), some (.int 1), some (.int 0)]) (pc := 17) dX2_firstFault_17 (by decide) rfl ?_
  obtain ⟨q7, hqq7, h⟩ := bnd h
  refine w_Lr_firstFault_L18 hV hqq7 ?_
  unfold ps_Lr_firstFault_L18
  show G _ _ _ _ _ _ _ _ _ _ _
  refine g_aload_n (pc := 47) dX2_firstFault_47 rfl ?_
  refine v_getR hV (pc := 48) dX2_firstFault_48 fo_2_0 rfl k0_24 r0_24_0 ?_
  refine v_callVi hV (Mc := mX9_firstFault) (v := Tp_firstFault q7) (S1 := q7) (As := []) (rest := []) (q := (RX9, TX9, 4)) (pc := 51) dX2_firstFault_51 mK_X2_34 mf_X9_firstFault rfl k0_8 rfl rfl rfl (Nat.le_of_ble_eq_true rfl) ⟨Nat.le_of_ble_eq_true rfl, Nat.le_of_ble_eq_true rfl⟩ (r_Tp_firstFault hV rfl) ?_
  cases h
  exact g_iret (pc := 54) dX2_firstFault_54 rfl rfl (Nat.le_refl _) (Nat.le_refl _)
def hd_Dr_empty_L2 (V : Sm → Wd) (l : Launch) (Γ : Gm) (rF : Option Value) (wF : Wd)  (q : Int32 × Sm) : Prop := G mX5_empty l Γ (rmD 1 0 0) (mQ Γ rF wF 0 0) 0 0 2 [some (.ref 14), some (.int q.1)] [] (V q.2)
def ps_Dr_empty_L2 (V : Sm → Wd) (l : Launch) (Γ : Gm) (rF : Option Value) (wF : Wd)  (x : Sm) : Prop := (fun (a : Sm) => G mX5_empty l Γ (rmD 1 0 0) (mQ Γ rF wF 0 0) 0 0 26 [none, none] [] (V a)) x
def Dr_empty_L2 (q : Int32 × Sm) : Option ((Int32 × Sm) ⊕ (Sm)) := (if (4 : Int32) ≤ q.1 then (some (.inr q.2)) else (app (puF q.2 16 4 q.1 0) fun S1 => (some (.inl (q.1 + 1, S1)))))
set_option maxRecDepth 4000 in
theorem t_Dr_empty_L2 {V : Sm → Wd} (hV : VwC V) {l : Launch} {Γ : Gm} {rF : Option Value} {wF : Wd}  {q : Int32 × Sm} {o : (Int32 × Sm) ⊕ (Sm)} (h : Dr_empty_L2 q = some o) (hK : Sum.elim (hd_Dr_empty_L2 V l Γ rF wF) (ps_Dr_empty_L2 V l Γ rF wF) o) : hd_Dr_empty_L2 V l Γ rF wF q := by
  unfold Dr_empty_L2 at h
  unfold hd_Dr_empty_L2
  refine g_iload_n (pc := 2) dX5_empty_2 rfl ?_
  refine g_aload_n (pc := 3) dX5_empty_3 rfl ?_
  refine v_getR hV (pc := 4) dX5_empty_4 fo_5_1 rfl k0_14 r0_14_1 ?_
  refine v_alen hV (v := 4) (pc := 7) dX5_empty_7 k0_16 0 (fun _ => rfl) (by decide) ?_
  refine g_icmp_ge (tgt := 26) (pc := 8) dX5_empty_8 (by decide) (fun c2 => ?_) (fun c2 => ?_)
  · rw [if_pos c2] at h
    refine g_wk [false, false] rfl ?_
    cases h
    exact hK
  · rw [if_neg c2] at h
    refine g_aload_n (pc := 11) dX5_empty_11 rfl ?_
    refine v_getR hV (pc := 12) dX5_empty_12 fo_5_1 rfl k0_14 r0_14_1 ?_
    refine g_iload_n (pc := 15) dX5_empty_15 rfl ?_
    refine g_iconst (v := 0) (pc := 16) dX5_empty_16 (by decide) ?_
    obtain ⟨S1, hS1, h⟩ := app_of h
    refine v_callNv (Mc := mX11_put) (S1 := S1) (As := [.ref 16, .int q.1, .int 0]) (rest := []) (pc := 17) dX5_empty_17 nl_X5_31 mf_X11_put rfl rfl (Nat.le_of_ble_eq_true rfl) ⟨Nat.le_of_ble_eq_true rfl, Nat.le_of_ble_eq_true rfl⟩ (r_put hV k0_16 own_16 (by decide) hS1) ?_
    refine g_iinc (v := q.1 + 1) (ls1 := [some (.ref 14), some (.int (q.1 + 1))]) (pc := 20) dX5_empty_20 rfl rfl (by decide) rfl ?_
    refine g_goto (tgt := 2) (pc := 23) dX5_empty_23 (by decide) ?_
    cases h
    exact hK
set_option maxRecDepth 4000 in
theorem w_Dr_empty_L2 {V : Sm → Wd} (hV : VwC V) {l : Launch} {Γ : Gm} {rF : Option Value} {wF : Wd}  {k : Nat} {q : Int32 × Sm} {o : Sm} (h : lpN (Dr_empty_L2) k q = some o) (hP : ps_Dr_empty_L2 V l Γ rF wF o) : hd_Dr_empty_L2 V l Γ rF wF q := lpN_ind2 (hd_Dr_empty_L2 V l Γ rF wF) (ps_Dr_empty_L2 V l Γ rF wF) (fun s o h hK => t_Dr_empty_L2 hV h hK) k q o h hP
def Dr_empty (S : Sm) : Option (Sm) := ((lpN (Dr_empty_L2) FU (0, S)).bind fun q3 => (some q3))
set_option maxRecDepth 4000 in
theorem r_Dr_empty {V : Sm → Wd} (hV : VwC V)  {S : Sm} {q : Sm} (h : Dr_empty S = some q) : Runs 1 mX5_empty [.ref 14] (V S) none (V q) 0 0 := by
  unfold Dr_empty at h
  refine Runs.of2 [some (.ref 14), none] 1 rfl rfl (Nat.le_of_ble_eq_true rfl) (fun l Γ => ?_)
  refine g_iconst (v := 0) (pc := 0) dX5_empty_0 (by decide) ?_
  refine g_istore_n (ls1 := [some (.ref 14), some (.int 0)]) (pc := 1) dX5_empty_1 (by decide) rfl ?_
  obtain ⟨q3, hqq3, h⟩ := bnd h
  refine w_Dr_empty_L2 hV hqq3 ?_
  unfold ps_Dr_empty_L2
  show G _ _ _ _ _ _ _ _ _ _ _
  cases h
  exact g_vret (pc := 26) dX5_empty_26 rfl (Nat.le_refl _) (Nat.le_refl _)
def hd_Nr_kindOf_L2 (V : Sm → Wd) (l : Launch) (Γ : Gm) (rF : Option Value) (wF : Wd) (v0 : Int32) (S : Sm) (q : Int32) : Prop := G mX6_kindOf l Γ (rmD 0 0 0) (mQ Γ rF wF 0 0) 0 0 2 [some (.int v0), some (.int q)] [] (V S)
def ps_Nr_kindOf_L2 (V : Sm → Wd) (l : Launch) (Γ : Gm) (rF : Option Value) (wF : Wd) (v0 : Int32) (S : Sm) (x : (Int32) ⊕ (Unit)) : Prop := (Sum.elim (fun (a : Int32) => G mX6_kindOf l Γ (rmD 0 0 0) (mQ Γ rF wF 0 0) 0 0 19 [none, some (.int a)] [] (V S)) (fun (a : Unit) => G mX6_kindOf l Γ (rmD 0 0 0) (mQ Γ rF wF 0 0) 0 0 27 [none, none] [] (V S))) x
def Nr_kindOf_L2 (v0 : Int32) (S : Sm) (q : Int32) : Option ((Int32) ⊕ ((Int32) ⊕ (Unit))) := (if (4 : Int32) ≤ q then (some (.inr (.inr ()))) else (if inb q 4 then (if (cst 0 (ix q)) = v0 then (some (.inr (.inl q))) else (some (.inl (q + 1)))) else none))
set_option maxRecDepth 4000 in
theorem t_Nr_kindOf_L2 {V : Sm → Wd} (hV : VwC V) {l : Launch} {Γ : Gm} {rF : Option Value} {wF : Wd} {v0 : Int32} {S : Sm} {q : Int32} {o : (Int32) ⊕ ((Int32) ⊕ (Unit))} (h : Nr_kindOf_L2 v0 S q = some o) (hK : Sum.elim (hd_Nr_kindOf_L2 V l Γ rF wF v0 S) (ps_Nr_kindOf_L2 V l Γ rF wF v0 S) o) : hd_Nr_kindOf_L2 V l Γ rF wF v0 S q := by
  unfold Nr_kindOf_L2 at h
  unfold hd_Nr_kindOf_L2
  refine g_iload_n (pc := 2) dX6_kindOf_2 rfl ?_
  refine gs_get (i := 0) (pc := 3) dX6_kindOf_3 (List.mem_of_getElem? (i := 0) rfl) rfl fK_X6_98 ?_
  refine v_alen hV (v := 4) (pc := 6) dX6_kindOf_6 k0_0 2 (fun _ => rfl) (by decide) ?_
  refine g_icmp_ge (tgt := 27) (pc := 7) dX6_kindOf_7 (by decide) (fun c3 => ?_) (fun c3 => ?_)
  · rw [if_pos c3] at h
    refine g_wk [false, false] rfl ?_
    cases h
    exact hK
  · rw [if_neg c3] at h
    refine gs_get (i := 0) (pc := 10) dX6_kindOf_10 (List.mem_of_getElem? (i := 0) rfl) rfl fK_X6_98 ?_
    refine g_iload_n (pc := 13) dX6_kindOf_13 rfl ?_
    by_cases c1 : inb q 4
    · rw [if_pos c1] at h
      refine v_cald hV (pc := 14) dX6_kindOf_14 k0_0 (by decide) c1 ?_
      refine g_iload_n (pc := 15) dX6_kindOf_15 rfl ?_
      refine g_icmp_ne (tgt := 21) (pc := 16) dX6_kindOf_16 (by decide) (fun c2 => ?_) (fun c2 => ?_)
      · rw [if_neg c2] at h
        refine g_iinc (v := q + 1) (ls1 := [some (.int v0), some (.int (q + 1))]) (pc := 21) dX6_kindOf_21 rfl rfl (by decide) rfl ?_
        refine g_goto (tgt := 2) (pc := 24) dX6_kindOf_24 (by decide) ?_
        cases h
        exact hK
      · rw [if_pos c2] at h
        refine g_wk [false, true] rfl ?_
        cases h
        exact hK
    · rw [if_neg c1] at h; cases h
set_option maxRecDepth 4000 in
theorem w_Nr_kindOf_L2 {V : Sm → Wd} (hV : VwC V) {l : Launch} {Γ : Gm} {rF : Option Value} {wF : Wd} {v0 : Int32} {S : Sm} {k : Nat} {q : Int32} {o : (Int32) ⊕ (Unit)} (h : lpN (Nr_kindOf_L2 v0 S) k q = some o) (hP : ps_Nr_kindOf_L2 V l Γ rF wF v0 S o) : hd_Nr_kindOf_L2 V l Γ rF wF v0 S q := lpN_ind2 (hd_Nr_kindOf_L2 V l Γ rF wF v0 S) (ps_Nr_kindOf_L2 V l Γ rF wF v0 S) (fun s o h hK => t_Nr_kindOf_L2 hV h hK) k q o h hP
def Nr_kindOf (v0 : Int32) (S : Sm) : Option (Int32) := ((lpN (Nr_kindOf_L2 v0 S) FU 0).bind fun q4 => (Sum.elim (fun a5 => (some a5)) (fun a6 => (some ((-1)))) q4))
set_option maxRecDepth 4000 in
theorem r_Nr_kindOf {V : Sm → Wd} (hV : VwC V) {v0 : Int32} {S : Sm} {q : Int32} (h : Nr_kindOf v0 S = some q) : Runs 0 mX6_kindOf [.int v0] (V S) (some (.int q)) (V S) 0 0 := by
  unfold Nr_kindOf at h
  refine Runs.of2 [some (.int v0), none] 1 rfl rfl (Nat.le_of_ble_eq_true rfl) (fun l Γ => ?_)
  refine g_iconst (v := 0) (pc := 0) dX6_kindOf_0 (by decide) ?_
  refine g_istore_n (ls1 := [some (.int v0), some (.int 0)]) (pc := 1) dX6_kindOf_1 (by decide) rfl ?_
  obtain ⟨q4, hqq4, h⟩ := bnd h
  refine w_Nr_kindOf_L2 hV hqq4 ?_
  unfold ps_Nr_kindOf_L2
  cases q4 with
  | inl a5 =>
    simp only [Sum.elim_inl] at h
    show G _ _ _ _ _ _ _ _ _ _ _
    refine g_iload_n (pc := 19) dX6_kindOf_19 rfl ?_
    cases h
    exact g_iret (pc := 20) dX6_kindOf_20 rfl rfl (Nat.le_refl _) (Nat.le_refl _)
  | inr a6 =>
    simp only [Sum.elim_inr] at h
    show G _ _ _ _ _ _ _ _ _ _ _
    refine g_iconst (v := (-1)) (pc := 27) dX6_kindOf_27 (by decide) ?_
    cases h
    exact g_iret (pc := 28) dX6_kindOf_28 rfl rfl (Nat.le_refl _) (Nat.le_refl _)
def Dr_many (v1 : Int32) (S : Sm) : Int32 := (atF (gi S 16) 4 v1)
set_option maxRecDepth 4000 in
theorem r_Dr_many {V : Sm → Wd} (hV : VwC V) {v1 : Int32} {S : Sm} {q : Int32} (h : Dr_many v1 S = q) : Runs 1 mX5_many [.ref 14, .int v1] (V S) (some (.int q)) (V S) 0 0 := by
  unfold Dr_many at h
  refine Runs.of2 [some (.ref 14), some (.int v1)] 0 rfl rfl (Nat.le_of_ble_eq_true rfl) (fun l Γ => ?_)
  refine g_aload_n (pc := 0) dX5_many_0 rfl ?_
  refine v_getR hV (pc := 1) dX5_many_1 fo_5_1 rfl k0_14 r0_14_1 ?_
  refine g_iload_n (pc := 4) dX5_many_4 rfl ?_
  refine v_callNi (Mc := mX11_at) (v := atF (gi S 16) 4 v1) (S1 := S) (As := [.ref 16, .int v1]) (rest := []) (pc := 5) dX5_many_5 nl_X5_24 mf_X11_at rfl rfl (Nat.le_of_ble_eq_true rfl) ⟨Nat.le_of_ble_eq_true rfl, Nat.le_of_ble_eq_true rfl⟩ (r_at hV k0_16 own_16 (by decide)) ?_
  subst h
  exact g_iret (pc := 8) dX5_many_8 rfl rfl (Nat.le_refl _) (Nat.le_refl _)
def Dr_isFull_30 (s0 : Int32) (S : Sm) : Int32 := (s0 &&& 1)
set_option maxRecDepth 4000 in
theorem t_Dr_isFull_30 {V : Sm → Wd} (hV : VwC V) {l : Launch} {Γ : Gm} {s0 : Int32} {S : Sm} {q : Int32} (h : Dr_isFull_30 s0 S = q) : G mX5_isFull l Γ (rmD 2 0 0) (mQ Γ (some (.int q)) (V S) 0 0) 0 0 30 [none, none] [.int s0] (V S) := by
  unfold Dr_isFull_30 at h
  subst h
  exact g_iret (pc := 30) dX5_isFull_30 rfl rfl (Nat.le_refl _) (Nat.le_refl _)
def Dr_isFull (v1 : Int32) (S : Sm) : Int32 := (if (Dr_many v1 S) < ((atF (cst 1) 5 (v1 + 1)) - (atF (cst 1) 5 v1)) then (Dr_isFull_30 0 S) else (Dr_isFull_30 1 S))
set_option maxRecDepth 4000 in
theorem r_Dr_isFull {V : Sm → Wd} (hV : VwC V) {v1 : Int32} {S : Sm} {q : Int32} (h : Dr_isFull v1 S = q) : Runs 2 mX5_isFull [.ref 14, .int v1] (V S) (some (.int q)) (V S) 0 0 := by
  unfold Dr_isFull at h
  refine Runs.of2 [some (.ref 14), some (.int v1)] 0 rfl rfl (Nat.le_of_ble_eq_true rfl) (fun l Γ => ?_)
  refine g_aload_n (pc := 0) dX5_isFull_0 rfl ?_
  refine g_iload_n (pc := 1) dX5_isFull_1 rfl ?_
  refine v_callVi hV (Mc := mX5_many) (v := Dr_many v1 S) (S1 := S) (As := [.int v1]) (rest := []) (q := (RX5, TX5, 3)) (pc := 2) dX5_isFull_2 mK_X5_28 mf_X5_many rfl k0_14 rfl rfl rfl (Nat.le_of_ble_eq_true rfl) ⟨Nat.le_of_ble_eq_true rfl, Nat.le_of_ble_eq_true rfl⟩ (r_Dr_many hV rfl) ?_
  refine gs_get (i := 1) (pc := 5) dX5_isFull_5 (List.mem_of_getElem? (i := 1) rfl) rfl fK_X5_21 ?_
  refine g_iload_n (pc := 8) dX5_isFull_8 rfl ?_
  refine g_iconst (v := 1) (pc := 9) dX5_isFull_9 (by decide) ?_
  refine g_iadd (pc := 10) dX5_isFull_10 ?_
  refine v_callNi (Mc := mX11_at) (v := atF (cst 1) 5 (v1 + 1)) (S1 := S) (As := [.ref 1, .int (v1 + 1)]) (rest := [.int (Dr_many v1 S)]) (pc := 11) dX5_isFull_11 nl_X5_24 mf_X11_at rfl rfl (Nat.le_of_ble_eq_true rfl) ⟨Nat.le_of_ble_eq_true rfl, Nat.le_of_ble_eq_true rfl⟩ (r_at_c hV k0_1 (by decide) (by decide)) ?_
  refine gs_get (i := 1) (pc := 14) dX5_isFull_14 (List.mem_of_getElem? (i := 1) rfl) rfl fK_X5_21 ?_
  refine g_iload_n (pc := 17) dX5_isFull_17 rfl ?_
  refine v_callNi (Mc := mX11_at) (v := atF (cst 1) 5 v1) (S1 := S) (As := [.ref 1, .int v1]) (rest := [.int (atF (cst 1) 5 (v1 + 1)), .int (Dr_many v1 S)]) (pc := 18) dX5_isFull_18 nl_X5_24 mf_X11_at rfl rfl (Nat.le_of_ble_eq_true rfl) ⟨Nat.le_of_ble_eq_true rfl, Nat.le_of_ble_eq_true rfl⟩ (r_at_c hV k0_1 (by decide) (by decide)) ?_
  refine g_isub (pc := 21) dX5_isFull_21 ?_
  refine g_icmp_lt (tgt := 29) (pc := 22) dX5_isFull_22 (by decide) (fun c1 => ?_) (fun c1 => ?_)
  · rw [if_pos c1] at h
    refine g_iconst (v := 0) (pc := 29) dX5_isFull_29 (by decide) ?_
    refine g_wk [false, false] rfl ?_
    exact t_Dr_isFull_30 hV h
  · rw [if_neg c1] at h
    refine g_iconst (v := 1) (pc := 25) dX5_isFull_25 (by decide) ?_
    refine g_goto (tgt := 30) (pc := 26) dX5_isFull_26 (by decide) ?_
    refine g_wk [false, false] rfl ?_
    exact t_Dr_isFull_30 hV h
def hd_Nr_setUsual_L2 (V : Sm → Wd) (l : Launch) (Γ : Gm) (rF : Option Value) (wF : Wd) (v1 : Int32) (q : Int32 × Sm) : Prop := G mX6_setUsual l Γ (rmD 1 0 0) (mQ Γ rF wF 0 0) 0 0 2 [some (.ref 18), some (.int v1), some (.int q.1)] [] (V q.2)
def ps_Nr_setUsual_L2 (V : Sm → Wd) (l : Launch) (Γ : Gm) (rF : Option Value) (wF : Wd) (v1 : Int32) (x : Sm) : Prop := (fun (a : Sm) => G mX6_setUsual l Γ (rmD 1 0 0) (mQ Γ rF wF 0 0) 0 0 32 [none, none, none] [] (V a)) x
def Nr_setUsual_L2 (v1 : Int32) (q : Int32 × Sm) : Option ((Int32 × Sm) ⊕ (Sm)) := (if (4 : Int32) ≤ q.1 then (some (.inr q.2)) else (app (puF q.2 19 4 q.1 (atF (cst 2) 16 ((v1 * 4) + q.1))) fun S1 => (some (.inl (q.1 + 1, S1)))))
set_option maxRecDepth 4000 in
theorem t_Nr_setUsual_L2 {V : Sm → Wd} (hV : VwC V) {l : Launch} {Γ : Gm} {rF : Option Value} {wF : Wd} {v1 : Int32} {q : Int32 × Sm} {o : (Int32 × Sm) ⊕ (Sm)} (h : Nr_setUsual_L2 v1 q = some o) (hK : Sum.elim (hd_Nr_setUsual_L2 V l Γ rF wF v1) (ps_Nr_setUsual_L2 V l Γ rF wF v1) o) : hd_Nr_setUsual_L2 V l Γ rF wF v1 q := by
  unfold Nr_setUsual_L2 at h
  unfold hd_Nr_setUsual_L2
  refine g_iload_n (pc := 2) dX6_setUsual_2 rfl ?_
  refine g_iconst (v := 4) (pc := 3) dX6_setUsual_3 (by decide) ?_
  refine g_icmp_ge (tgt := 32) (pc := 4) dX6_setUsual_4 (by decide) (fun c2 => ?_) (fun c2 => ?_)
  · rw [if_pos c2] at h
    refine g_wk [false, false, false] rfl ?_
    cases h
    exact hK
  · rw [if_neg c2] at h
    refine g_aload_n (pc := 7) dX6_setUsual_7 rfl ?_
    refine v_getR hV (pc := 8) dX6_setUsual_8 fo_6_2 rfl k0_18 r0_18_2 ?_
    refine g_iload_n (pc := 11) dX6_setUsual_11 rfl ?_
    refine gs_get (i := 2) (pc := 12) dX6_setUsual_12 (List.mem_of_getElem? (i := 2) rfl) rfl fK_X6_65 ?_
    refine g_iload_n (pc := 15) dX6_setUsual_15 rfl ?_
    refine g_iconst (v := 4) (pc := 16) dX6_setUsual_16 (by decide) ?_
    refine g_imul (pc := 17) dX6_setUsual_17 ?_
    refine g_iload_n (pc := 18) dX6_setUsual_18 rfl ?_
    refine g_iadd (pc := 19) dX6_setUsual_19 ?_
    refine v_callNi (Mc := mX11_at) (v := atF (cst 2) 16 ((v1 * 4) + q.1)) (S1 := q.2) (As := [.ref 2, .int ((v1 * 4) + q.1)]) (rest := [.int q.1, .ref 19]) (pc := 20) dX6_setUsual_20 nl_X6_68 mf_X11_at rfl rfl (Nat.le_of_ble_eq_true rfl) ⟨Nat.le_of_ble_eq_true rfl, Nat.le_of_ble_eq_true rfl⟩ (r_at_c hV k0_2 (by decide) (by decide)) ?_
    obtain ⟨S1, hS1, h⟩ := app_of h
    refine v_callNv (Mc := mX11_put) (S1 := S1) (As := [.ref 19, .int q.1, .int (atF (cst 2) 16 ((v1 * 4) + q.1))]) (rest := []) (pc := 23) dX6_setUsual_23 nl_X6_72 mf_X11_put rfl rfl (Nat.le_of_ble_eq_true rfl) ⟨Nat.le_of_ble_eq_true rfl, Nat.le_of_ble_eq_true rfl⟩ (r_put hV k0_19 own_19 (by decide) hS1) ?_
    refine g_iinc (v := q.1 + 1) (ls1 := [some (.ref 18), some (.int v1), some (.int (q.1 + 1))]) (pc := 26) dX6_setUsual_26 rfl rfl (by decide) rfl ?_
    refine g_goto (tgt := 2) (pc := 29) dX6_setUsual_29 (by decide) ?_
    cases h
    exact hK
set_option maxRecDepth 4000 in
theorem w_Nr_setUsual_L2 {V : Sm → Wd} (hV : VwC V) {l : Launch} {Γ : Gm} {rF : Option Value} {wF : Wd} {v1 : Int32} {k : Nat} {q : Int32 × Sm} {o : Sm} (h : lpN (Nr_setUsual_L2 v1) k q = some o) (hP : ps_Nr_setUsual_L2 V l Γ rF wF v1 o) : hd_Nr_setUsual_L2 V l Γ rF wF v1 q := lpN_ind2 (hd_Nr_setUsual_L2 V l Γ rF wF v1) (ps_Nr_setUsual_L2 V l Γ rF wF v1) (fun s o h hK => t_Nr_setUsual_L2 hV h hK) k q o h hP
def Nr_setUsual (v1 : Int32) (S : Sm) : Option (Sm) := ((lpN (Nr_setUsual_L2 v1) FU (0, S)).bind fun q3 => (some q3))
set_option maxRecDepth 4000 in
theorem r_Nr_setUsual {V : Sm → Wd} (hV : VwC V) {v1 : Int32} {S : Sm} {q : Sm} (h : Nr_setUsual v1 S = some q) : Runs 1 mX6_setUsual [.ref 18, .int v1] (V S) none (V q) 0 0 := by
  unfold Nr_setUsual at h
  refine Runs.of2 [some (.ref 18), some (.int v1), none] 1 rfl rfl (Nat.le_of_ble_eq_true rfl) (fun l Γ => ?_)
  refine g_iconst (v := 0) (pc := 0) dX6_setUsual_0 (by decide) ?_
  refine g_istore_n (ls1 := [some (.ref 18), some (.int v1), some (.int 0)]) (pc := 1) dX6_setUsual_1 (by decide) rfl ?_
  obtain ⟨q3, hqq3, h⟩ := bnd h
  refine w_Nr_setUsual_L2 hV hqq3 ?_
  unfold ps_Nr_setUsual_L2
  show G _ _ _ _ _ _ _ _ _ _ _
  cases h
  exact g_vret (pc := 32) dX6_setUsual_32 rfl (Nat.le_refl _) (Nat.le_refl _)
def hd_Nr_slotOf_L2 (V : Sm → Wd) (l : Launch) (Γ : Gm) (rF : Option Value) (wF : Wd) (v0 : Int32) (v1 : Int32) (S : Sm) (q : Int32) : Prop := G mX6_slotOf l Γ (rmD 1 0 0) (mQ Γ rF wF 0 0) 0 0 2 [some (.int v0), some (.int v1), some (.int q), none] [] (V S)
def ps_Nr_slotOf_L2 (V : Sm → Wd) (l : Launch) (Γ : Gm) (rF : Option Value) (wF : Wd) (v0 : Int32) (v1 : Int32) (S : Sm) (x : (Int32) ⊕ (Unit)) : Prop := (Sum.elim (fun (a : Int32) => G mX6_slotOf l Γ (rmD 1 0 0) (mQ Γ rF wF 0 0) 0 0 28 [none, none, some (.int a), none] [] (V S)) (fun (a : Unit) => G mX6_slotOf l Γ (rmD 1 0 0) (mQ Γ rF wF 0 0) 0 0 36 [none, none, none, none] [] (V S))) x
def Nr_slotOf_30_L2 (v0 : Int32) (v1 : Int32) (v2 : Int32) (S : Sm) : Option ((Int32) ⊕ ((Int32) ⊕ (Unit))) := (some (.inl (v2 + 1)))
set_option maxRecDepth 4000 in
theorem t_Nr_slotOf_30_L2 {V : Sm → Wd} (hV : VwC V) {l : Launch} {Γ : Gm} {v0 : Int32} {v1 : Int32} {v2 : Int32} {rF : Option Value} {wF : Wd} {S : Sm} {o : (Int32) ⊕ ((Int32) ⊕ (Unit))} (h : Nr_slotOf_30_L2 v0 v1 v2 S = some o) (hK : Sum.elim (hd_Nr_slotOf_L2 V l Γ rF wF v0 v1 S) (ps_Nr_slotOf_L2 V l Γ rF wF v0 v1 S) o) : G mX6_slotOf l Γ (rmD 1 0 0) (mQ Γ rF wF 0 0) 0 0 30 [some (.int v0), some (.int v1), some (.int v2), none] [] (V S) := by
  unfold Nr_slotOf_30_L2 at h
  refine g_iinc (v := v2 + 1) (ls1 := [some (.int v0), some (.int v1), some (.int (v2 + 1)), none]) (pc := 30) dX6_slotOf_30 rfl rfl (by decide) rfl ?_
  refine g_goto (tgt := 2) (pc := 33) dX6_slotOf_33 (by decide) ?_
  cases h
  exact hK
def Nr_slotOf_L2 (v0 : Int32) (v1 : Int32) (S : Sm) (q : Int32) : Option ((Int32) ⊕ ((Int32) ⊕ (Unit))) := (if (4 : Int32) ≤ q then (some (.inr (.inr ()))) else (if (atF (cst 3) 16 ((v0 * 4) + q)) = 0 then (Nr_slotOf_30_L2 v0 v1 q S) else (if (atF (cst 3) 16 ((v0 * 4) + q)) = v1 then (some (.inr (.inl q))) else (Nr_slotOf_30_L2 v0 v1 q S))))
set_option maxRecDepth 4000 in
theorem t_Nr_slotOf_L2 {V : Sm → Wd} (hV : VwC V) {l : Launch} {Γ : Gm} {rF : Option Value} {wF : Wd} {v0 : Int32} {v1 : Int32} {S : Sm} {q : Int32} {o : (Int32) ⊕ ((Int32) ⊕ (Unit))} (h : Nr_slotOf_L2 v0 v1 S q = some o) (hK : Sum.elim (hd_Nr_slotOf_L2 V l Γ rF wF v0 v1 S) (ps_Nr_slotOf_L2 V l Γ rF wF v0 v1 S) o) : hd_Nr_slotOf_L2 V l Γ rF wF v0 v1 S q := by
  unfold Nr_slotOf_L2 at h
  unfold hd_Nr_slotOf_L2
  refine g_iload_n (pc := 2) dX6_slotOf_2 rfl ?_
  refine g_iconst (v := 4) (pc := 3) dX6_slotOf_3 (by decide) ?_
  refine g_icmp_ge (tgt := 36) (pc := 4) dX6_slotOf_4 (by decide) (fun c3 => ?_) (fun c3 => ?_)
  · rw [if_pos c3] at h
    refine g_wk [false, false, false, false] rfl ?_
    cases h
    exact hK
  · rw [if_neg c3] at h
    refine gs_get (i := 3) (pc := 7) dX6_slotOf_7 (List.mem_of_getElem? (i := 3) rfl) rfl fK_X6_120 ?_
    refine g_iload_n (pc := 10) dX6_slotOf_10 rfl ?_
    refine g_iconst (v := 4) (pc := 11) dX6_slotOf_11 (by decide) ?_
    refine g_imul (pc := 12) dX6_slotOf_12 ?_
    refine g_iload_n (pc := 13) dX6_slotOf_13 rfl ?_
    refine g_iadd (pc := 14) dX6_slotOf_14 ?_
    refine v_callNi (Mc := mX11_at) (v := atF (cst 3) 16 ((v0 * 4) + q)) (S1 := S) (As := [.ref 3, .int ((v0 * 4) + q)]) (rest := []) (pc := 15) dX6_slotOf_15 nl_X6_68 mf_X11_at rfl rfl (Nat.le_of_ble_eq_true rfl) ⟨Nat.le_of_ble_eq_true rfl, Nat.le_of_ble_eq_true rfl⟩ (r_at_c hV k0_3 (by decide) (by decide)) ?_
    refine g_istore_n (ls1 := [some (.int v0), some (.int v1), some (.int q), some (.int (atF (cst 3) 16 ((v0 * 4) + q)))]) (pc := 18) dX6_slotOf_18 (by decide) rfl ?_
    refine g_iload_n (pc := 19) dX6_slotOf_19 rfl ?_
    refine g_if_eq (tgt := 30) (pc := 20) dX6_slotOf_20 (by decide) (fun c2 => ?_) (fun c2 => ?_)
    · rw [if_pos c2] at h
      refine g_wk [true, true, true, false] rfl ?_
      exact t_Nr_slotOf_30_L2 hV h hK
    · rw [if_neg c2] at h
      refine g_iload_n (pc := 23) dX6_slotOf_23 rfl ?_
      refine g_iload_n (pc := 24) dX6_slotOf_24 rfl ?_
      refine g_icmp_ne (tgt := 30) (pc := 25) dX6_slotOf_25 (by decide) (fun c1 => ?_) (fun c1 => ?_)
      · rw [if_neg c1] at h
        refine g_wk [true, true, true, false] rfl ?_
        exact t_Nr_slotOf_30_L2 hV h hK
      · rw [if_pos c1] at h
        refine g_wk [false, false, true, false] rfl ?_
        cases h
        exact hK
set_option maxRecDepth 4000 in
theorem w_Nr_slotOf_L2 {V : Sm → Wd} (hV : VwC V) {l : Launch} {Γ : Gm} {rF : Option Value} {wF : Wd} {v0 : Int32} {v1 : Int32} {S : Sm} {k : Nat} {q : Int32} {o : (Int32) ⊕ (Unit)} (h : lpN (Nr_slotOf_L2 v0 v1 S) k q = some o) (hP : ps_Nr_slotOf_L2 V l Γ rF wF v0 v1 S o) : hd_Nr_slotOf_L2 V l Γ rF wF v0 v1 S q := lpN_ind2 (hd_Nr_slotOf_L2 V l Γ rF wF v0 v1 S) (ps_Nr_slotOf_L2 V l Γ rF wF v0 v1 S) (fun s o h hK => t_Nr_slotOf_L2 hV h hK) k q o h hP
def Nr_slotOf (v0 : Int32) (v1 : Int32) (S : Sm) : Option (Int32) := ((lpN (Nr_slotOf_L2 v0 v1 S) FU 0).bind fun q4 => (Sum.elim (fun a5 => (some a5)) (fun a6 => (some ((-1)))) q4))
set_option maxRecDepth 4000 in
theorem r_Nr_slotOf {V : Sm → Wd} (hV : VwC V) {v0 : Int32} {v1 : Int32} {S : Sm} {q : Int32} (h : Nr_slotOf v0 v1 S = some q) : Runs 1 mX6_slotOf [.int v0, .int v1] (V S) (some (.int q)) (V S) 0 0 := by
  unfold Nr_slotOf at h
  refine Runs.of2 [some (.int v0), some (.int v1), none, none] 2 rfl rfl (Nat.le_of_ble_eq_true rfl) (fun l Γ => ?_)
  refine g_iconst (v := 0) (pc := 0) dX6_slotOf_0 (by decide) ?_
  refine g_istore_n (ls1 := [some (.int v0), some (.int v1), some (.int 0), none]) (pc := 1) dX6_slotOf_1 (by decide) rfl ?_
  obtain ⟨q4, hqq4, h⟩ := bnd h
  refine w_Nr_slotOf_L2 hV hqq4 ?_
  unfold ps_Nr_slotOf_L2
  cases q4 with
  | inl a5 =>
    simp only [Sum.elim_inl] at h
    show G _ _ _ _ _ _ _ _ _ _ _
    refine g_iload_n (pc := 28) dX6_slotOf_28 rfl ?_
    cases h
    exact g_iret (pc := 29) dX6_slotOf_29 rfl rfl (Nat.le_refl _) (Nat.le_refl _)
  | inr a6 =>
    simp only [Sum.elim_inr] at h
    show G _ _ _ _ _ _ _ _ _ _ _
    refine g_iconst (v := (-1)) (pc := 36) dX6_slotOf_36 (by decide) ?_
    cases h
    exact g_iret (pc := 37) dX6_slotOf_37 rfl rfl (Nat.le_refl _) (Nat.le_refl _)
def Dk_holds_14 (s0 : Int32) : Int32 := (s0 &&& 1)
set_option maxRecDepth 4000 in
theorem t_Dk_holds_14 {V : Sm → Wd} (hV : VwC V) {l : Launch} {Γ : Gm} {s0 : Int32} {S : Sm} {q : Int32} (h : Dk_holds_14 s0 = q) : G mX11_holds l Γ (rmD 0 0 0) (mQ Γ (some (.int q)) (V S) 0 0) 0 0 14 [none, none] [.int s0] (V S) := by
  unfold Dk_holds_14 at h
  subst h
  exact g_iret (pc := 14) dX11_holds_14 rfl rfl (Nat.le_refl _) (Nat.le_refl _)
def Dk_holds (v0 : Int32) (v1 : Int32) : Int32 := (if ((iShr v0 v1) &&& 1) = 1 then (Dk_holds_14 1) else (Dk_holds_14 0))
set_option maxRecDepth 4000 in
theorem r_Dk_holds {V : Sm → Wd} (hV : VwC V) {v0 : Int32} {v1 : Int32} {S : Sm} {q : Int32} (h : Dk_holds v0 v1 = q) : Runs 0 mX11_holds [.int v0, .int v1] (V S) (some (.int q)) (V S) 0 0 := by
  unfold Dk_holds at h
  refine Runs.of2 [some (.int v0), some (.int v1)] 0 rfl rfl (Nat.le_of_ble_eq_true rfl) (fun l Γ => ?_)
  refine g_iload_n (pc := 0) dX11_holds_0 rfl ?_
  refine g_iload_n (pc := 1) dX11_holds_1 rfl ?_
  refine g_ishr (pc := 2) dX11_holds_2 ?_
  refine g_iconst (v := 1) (pc := 3) dX11_holds_3 (by decide) ?_
  refine g_iand (pc := 4) dX11_holds_4 ?_
  refine g_iconst (v := 1) (pc := 5) dX11_holds_5 (by decide) ?_
  refine g_icmp_ne (tgt := 13) (pc := 6) dX11_holds_6 (by decide) (fun c1 => ?_) (fun c1 => ?_)
  · rw [if_neg c1] at h
    refine g_iconst (v := 0) (pc := 13) dX11_holds_13 (by decide) ?_
    refine g_wk [false, false] rfl ?_
    exact t_Dk_holds_14 hV h
  · rw [if_pos c1] at h
    refine g_iconst (v := 1) (pc := 9) dX11_holds_9 (by decide) ?_
    refine g_goto (tgt := 14) (pc := 10) dX11_holds_10 (by decide) ?_
    refine g_wk [false, false] rfl ?_
    exact t_Dk_holds_14 hV h
def Tp_numberWithin_36 (v4 : Int32) (S : Sm) : Option (Int32 × Sm) := (some ((v4, S)))
set_option maxRecDepth 4000 in
theorem t_Tp_numberWithin_36 {V : Sm → Wd} (hV : VwC V) {l : Launch} {Γ : Gm} {v4 : Int32} {S : Sm} {q : Int32 × Sm} (h : Tp_numberWithin_36 v4 S = some q) : G mX9_numberWithin l Γ (rmD 3 0 0) (mQ Γ (some (.int q.1)) (V q.2) 0 0) 0 0 36 [none, none, none, none, some (.int v4)] [] (V S) := by
  unfold Tp_numberWithin_36 at h
  refine g_iload (pc := 36) dX9_numberWithin_36 rfl ?_
  cases h
  exact g_iret (pc := 38) dX9_numberWithin_38 rfl rfl (Nat.le_refl _) (Nat.le_refl _)
def Tp_numberWithin_26 (v4 : Int32) (S : Sm) : Option (Int32 × Sm) := (Tp_numberWithin_36 v4 (si S 8 3 ((gi S 8 2) - 1)))
set_option maxRecDepth 4000 in
theorem t_Tp_numberWithin_26 {V : Sm → Wd} (hV : VwC V) {l : Launch} {Γ : Gm} {v4 : Int32} {S : Sm} {q : Int32 × Sm} (h : Tp_numberWithin_26 v4 S = some q) : G mX9_numberWithin l Γ (rmD 3 0 0) (mQ Γ (some (.int q.1)) (V q.2) 0 0) 0 0 26 [some (.ref 8), none, none, none, some (.int v4)] [] (V S) := by
  unfold Tp_numberWithin_26 at h
  refine g_aload_n (pc := 26) dX9_numberWithin_26 rfl ?_
  refine g_aload_n (pc := 27) dX9_numberWithin_27 rfl ?_
  refine v_getI hV (pc := 28) dX9_numberWithin_28 fo_9_2 rfl k0_8 own_8 ?_
  refine g_iconst (v := 1) (pc := 31) dX9_numberWithin_31 (by decide) ?_
  refine g_isub (pc := 32) dX9_numberWithin_32 ?_
  refine v_putI hV (pc := 33) dX9_numberWithin_33 fo_9_3 rfl k0_8 own_8 rfl ?_
  refine g_wk [false, false, false, false, true] rfl ?_
  exact t_Tp_numberWithin_36 hV h
def Tp_numberWithin (v1 : Int32) (v2 : Int32) (v3 : Int32) (S : Sm) : Option (Int32 × Sm) := ((Tp_number v1 S).bind fun q1 => (if (Tp_isFaulty q1.2) = 0 then (if q1.1 < v2 then (Tp_numberWithin_26 q1.1 q1.2) else (if q1.1 ≤ v3 then (Tp_numberWithin_36 q1.1 q1.2) else (Tp_numberWithin_26 q1.1 q1.2))) else (Tp_numberWithin_36 q1.1 q1.2)))
set_option maxRecDepth 4000 in
theorem r_Tp_numberWithin {V : Sm → Wd} (hV : VwC V) {v1 : Int32} {v2 : Int32} {v3 : Int32} {S : Sm} {q : Int32 × Sm} (h : Tp_numberWithin v1 v2 v3 S = some q) : Runs 3 mX9_numberWithin [.ref 8, .int v1, .int v2, .int v3] (V S) (some (.int q.1)) (V q.2) 0 0 := by
  unfold Tp_numberWithin at h
  refine Runs.of2 [some (.ref 8), some (.int v1), some (.int v2), some (.int v3), none] 1 rfl rfl (Nat.le_of_ble_eq_true rfl) (fun l Γ => ?_)
  refine g_aload_n (pc := 0) dX9_numberWithin_0 rfl ?_
  refine g_iload_n (pc := 1) dX9_numberWithin_1 rfl ?_
  obtain ⟨q1, hq1, h⟩ := bnd h
  refine v_callVi hV (Mc := mX9_number) (v := q1.1) (S1 := q1.2) (As := [.int v1]) (rest := []) (q := (RX9, TX9, 4)) (pc := 2) dX9_numberWithin_2 mK_X9_64 mf_X9_number rfl k0_8 rfl rfl rfl (Nat.le_of_ble_eq_true rfl) ⟨Nat.le_of_ble_eq_true rfl, Nat.le_of_ble_eq_true rfl⟩ (r_Tp_number hV hq1) ?_
  refine g_istore (ls1 := [some (.ref 8), some (.int v1), some (.int v2), some (.int v3), some (.int q1.1)]) (pc := 5) dX9_numberWithin_5 (by decide) rfl ?_
  refine g_aload_n (pc := 7) dX9_numberWithin_7 rfl ?_
  refine v_callVi hV (Mc := mX9_isFaulty) (v := Tp_isFaulty q1.2) (S1 := q1.2) (As := []) (rest := []) (q := (RX9, TX9, 4)) (pc := 8) dX9_numberWithin_8 mK_X9_53 mf_X9_isFaulty rfl k0_8 rfl rfl rfl (Nat.le_of_ble_eq_true rfl) ⟨Nat.le_of_ble_eq_true rfl, Nat.le_of_ble_eq_true rfl⟩ (r_Tp_isFaulty hV rfl) ?_
  refine g_if_ne (tgt := 36) (pc := 11) dX9_numberWithin_11 (by decide) (fun c4 => ?_) (fun c4 => ?_)
  · rw [if_neg c4] at h
    refine g_wk [false, false, false, false, true] rfl ?_
    exact t_Tp_numberWithin_36 hV h
  · rw [if_pos c4] at h
    refine g_iload (pc := 14) dX9_numberWithin_14 rfl ?_
    refine g_iload_n (pc := 16) dX9_numberWithin_16 rfl ?_
    refine g_icmp_lt (tgt := 26) (pc := 17) dX9_numberWithin_17 (by decide) (fun c3 => ?_) (fun c3 => ?_)
    · rw [if_pos c3] at h
      refine g_wk [true, false, false, false, true] rfl ?_
      exact t_Tp_numberWithin_26 hV h
    · rw [if_neg c3] at h
      refine g_iload (pc := 20) dX9_numberWithin_20 rfl ?_
      refine g_iload_n (pc := 22) dX9_numberWithin_22 rfl ?_
      refine g_icmp_le (tgt := 36) (pc := 23) dX9_numberWithin_23 (by decide) (fun c2 => ?_) (fun c2 => ?_)
      · rw [if_pos c2] at h
        refine g_wk [false, false, false, false, true] rfl ?_
        exact t_Tp_numberWithin_36 hV h
      · rw [if_neg c2] at h
        refine g_wk [true, false, false, false, true] rfl ?_
        exact t_Tp_numberWithin_26 hV h
def hd_Nr_readItems_L4 (V : Sm → Wd) (l : Launch) (Γ : Gm) (rF : Option Value) (wF : Wd) (v1 : Int32) (q : Int32 × Int32 × Sm) : Prop := G mX6_readItems l Γ (rmD 4 0 0) (mQ Γ rF wF 0 0) 0 0 4 [some (.ref 18), some (.int v1), some (.int q.1), some (.int q.2.1), none, none, none] [] (V q.2.2)
def ps_Nr_readItems_L4 (V : Sm → Wd) (l : Launch) (Γ : Gm) (rF : Option Value) (wF : Wd) (v1 : Int32) (x : (Sm) ⊕ ((Sm) ⊕ (Sm))) : Prop := (Sum.elim (fun (a : Sm) => G mX6_readItems l Γ (rmD 4 0 0) (mQ Γ rF wF 0 0) 0 0 32 [none, none, none, none, none, none, none] [] (V a)) (Sum.elim (fun (a : Sm) => G mX6_readItems l Γ (rmD 4 0 0) (mQ Γ rF wF 0 0) 0 0 42 [some (.ref 18), none, none, none, none, none, none] [] (V a)) (fun (a : Sm) => G mX6_readItems l Γ (rmD 4 0 0) (mQ Γ rF wF 0 0) 0 0 114 [none, none, none, none, none, none, none] [] (V a)))) x
def Nr_readItems_L4 (v1 : Int32) (q : Int32 × Int32 × Sm) : Option ((Int32 × Int32 × Sm) ⊕ ((Sm) ⊕ ((Sm) ⊕ (Sm)))) := (if (4 : Int32) < q.2.1 then (some (.inr (.inr (.inr q.2.2)))) else ((Tp_sign q.2.2).bind fun q1 => ((Nr_slotOf v1 q1.1 q1.2).bind fun q2 => (if q2 = ((-1)) then (some (.inr (.inl q1.2))) else (if (Dk_holds q.1 q2) = 0 then ((Tp_take q1.1 q1.2).bind fun q3 => ((Tp_numberWithin 2 (atF (cst 4) 16 ((v1 * 4) + q2)) (atF (cst 5) 16 ((v1 * 4) + q2)) q3.2).bind fun q4 => (app (puF q4.2 19 4 q2 q4.1) fun S5 => (some (.inl (q.1 ||| (iShl 1 q2), q.2.1 + 1, S5)))))) else (some (.inr (.inr (.inl q1.2)))))))))
set_option maxRecDepth 4000 in
theorem t_Nr_readItems_L4 {V : Sm → Wd} (hV : VwC V) {l : Launch} {Γ : Gm} {rF : Option Value} {wF : Wd} {v1 : Int32} {q : Int32 × Int32 × Sm} {o : (Int32 × Int32 × Sm) ⊕ ((Sm) ⊕ ((Sm) ⊕ (Sm)))} (h : Nr_readItems_L4 v1 q = some o) (hK : Sum.elim (hd_Nr_readItems_L4 V l Γ rF wF v1) (ps_Nr_readItems_L4 V l Γ rF wF v1) o) : hd_Nr_readItems_L4 V l Γ rF wF v1 q := by
  unfold Nr_readItems_L4 at h
  unfold hd_Nr_readItems_L4
  refine g_iload_n (pc := 4) dX6_readItems_4 rfl ?_
  refine g_iconst (v := 4) (pc := 5) dX6_readItems_5 (by decide) ?_
  refine g_icmp_gt (tgt := 114) (pc := 6) dX6_readItems_6 (by decide) (fun c8 => ?_) (fun c8 => ?_)
  · rw [if_pos c8] at h
    refine g_wk [false, false, false, false, false, false, false] rfl ?_
    cases h
    exact hK
  · rw [if_neg c8] at h
    refine g_aload_n (pc := 9) dX6_readItems_9 rfl ?_
    refine v_getR hV (pc := 10) dX6_readItems_10 fo_6_0 rfl k0_18 r0_18_0 ?_
    obtain ⟨q1, hq1, h⟩ := bnd h
    refine v_callVi hV (Mc := mX9_sign) (v := q1.1) (S1 := q1.2) (As := []) (rest := []) (q := (RX9, TX9, 4)) (pc := 13) dX6_readItems_13 mK_X6_76 mf_X9_sign rfl k0_8 rfl rfl rfl (Nat.le_of_ble_eq_true rfl) ⟨Nat.le_of_ble_eq_true rfl, Nat.le_of_ble_eq_true rfl⟩ (r_Tp_sign hV hq1) ?_
    refine g_istore (ls1 := [some (.ref 18), some (.int v1), some (.int q.1), some (.int q.2.1), some (.int q1.1), none, none]) (pc := 16) dX6_readItems_16 (by decide) rfl ?_
    refine g_iload_n (pc := 18) dX6_readItems_18 rfl ?_
    refine g_iload (pc := 19) dX6_readItems_19 rfl ?_
    obtain ⟨q2, hq2, h⟩ := bnd h
    refine v_callSi (Mc := mX6_slotOf) (v := q2) (S1 := q1.2) (As := [.int v1, .int q1.1]) (rest := []) (pc := 21) dX6_readItems_21 mK_X6_102 mf_X6_slotOf rfl rfl (Nat.le_of_ble_eq_true rfl) ⟨Nat.le_of_ble_eq_true rfl, Nat.le_of_ble_eq_true rfl⟩ (r_Nr_slotOf hV hq2) ?_
    refine g_istore (ls1 := [some (.ref 18), some (.int v1), some (.int q.1), some (.int q.2.1), some (.int q1.1), some (.int q2), none]) (pc := 24) dX6_readItems_24 (by decide) rfl ?_
    refine g_iload (pc := 26) dX6_readItems_26 rfl ?_
    refine g_iconst (v := (-1)) (pc := 28) dX6_readItems_28 (by decide) ?_
    refine g_icmp_ne (tgt := 33) (pc := 29) dX6_readItems_29 (by decide) (fun c7 => ?_) (fun c7 => ?_)
    · rw [if_neg c7] at h
      refine g_iload_n (pc := 33) dX6_readItems_33 rfl ?_
      refine g_iload (pc := 34) dX6_readItems_34 rfl ?_
      refine v_callNi (Mc := mX11_holds) (v := Dk_holds q.1 q2) (S1 := q1.2) (As := [.int q.1, .int q2]) (rest := []) (pc := 36) dX6_readItems_36 nl_X6_106 mf_X11_holds rfl rfl (Nat.le_of_ble_eq_true rfl) ⟨Nat.le_of_ble_eq_true rfl, Nat.le_of_ble_eq_true rfl⟩ (r_Dk_holds hV rfl) ?_
      refine g_if_eq (tgt := 50) (pc := 39) dX6_readItems_39 (by decide) (fun c6 => ?_) (fun c6 => ?_)
      · rw [if_pos c6] at h
        refine g_iload_n (pc := 50) dX6_readItems_50 rfl ?_
        refine g_iconst (v := 1) (pc := 51) dX6_readItems_51 (by decide) ?_
        refine g_iload (pc := 52) dX6_readItems_52 rfl ?_
        refine g_ishl (pc := 54) dX6_readItems_54 ?_
        refine g_ior (pc := 55) dX6_readItems_55 ?_
        refine g_istore_n (ls1 := [some (.ref 18), some (.int v1), some (.int (q.1 ||| (iShl 1 q2))), some (.int q.2.1), some (.int q1.1), some (.int q2), none]) (pc := 56) dX6_readItems_56 (by decide) rfl ?_
        refine g_aload_n (pc := 57) dX6_readItems_57 rfl ?_
        refine v_getR hV (pc := 58) dX6_readItems_58 fo_6_0 rfl k0_18 r0_18_0 ?_
        refine g_iload (pc := 61) dX6_readItems_61 rfl ?_
        obtain ⟨q3, hq3, h⟩ := bnd h
        refine v_callVi hV (Mc := mX9_take) (v := q3.1) (S1 := q3.2) (As := [.int q1.1]) (rest := []) (q := (RX9, TX9, 4)) (pc := 63) dX6_readItems_63 mK_X6_89 mf_X9_take rfl k0_8 rfl rfl rfl (Nat.le_of_ble_eq_true rfl) ⟨Nat.le_of_ble_eq_true rfl, Nat.le_of_ble_eq_true rfl⟩ (r_Tp_take hV hq3) ?_
        refine g_pop (pc := 66) dX6_readItems_66 rfl ?_
        refine g_iload_n (pc := 67) dX6_readItems_67 rfl ?_
        refine g_iconst (v := 4) (pc := 68) dX6_readItems_68 (by decide) ?_
        refine g_imul (pc := 69) dX6_readItems_69 ?_
        refine g_iload (pc := 70) dX6_readItems_70 rfl ?_
        refine g_iadd (pc := 72) dX6_readItems_72 ?_
        refine g_istore (ls1 := [some (.ref 18), some (.int v1), some (.int (q.1 ||| (iShl 1 q2))), some (.int q.2.1), some (.int q1.1), some (.int q2), some (.int ((v1 * 4) + q2))]) (pc := 73) dX6_readItems_73 (by decide) rfl ?_
        refine g_aload_n (pc := 75) dX6_readItems_75 rfl ?_
        refine v_getR hV (pc := 76) dX6_readItems_76 fo_6_2 rfl k0_18 r0_18_2 ?_
        refine g_iload (pc := 79) dX6_readItems_79 rfl ?_
        refine g_aload_n (pc := 81) dX6_readItems_81 rfl ?_
        refine v_getR hV (pc := 82) dX6_readItems_82 fo_6_0 rfl k0_18 r0_18_0 ?_
        refine g_iconst (v := 2) (pc := 85) dX6_readItems_85 (by decide) ?_
        refine gs_get (i := 4) (pc := 86) dX6_readItems_86 (List.mem_of_getElem? (i := 4) rfl) rfl fK_X6_110 ?_
        refine g_iload (pc := 89) dX6_readItems_89 rfl ?_
        refine v_callNi (Mc := mX11_at) (v := atF (cst 4) 16 ((v1 * 4) + q2)) (S1 := q3.2) (As := [.ref 4, .int ((v1 * 4) + q2)]) (rest := [.int 2, .ref 8, .int q2, .ref 19]) (pc := 91) dX6_readItems_91 nl_X6_68 mf_X11_at rfl rfl (Nat.le_of_ble_eq_true rfl) ⟨Nat.le_of_ble_eq_true rfl, Nat.le_of_ble_eq_true rfl⟩ (r_at_c hV k0_4 (by decide) (by decide)) ?_
        refine gs_get (i := 5) (pc := 94) dX6_readItems_94 (List.mem_of_getElem? (i := 5) rfl) rfl fK_X6_113 ?_
        refine g_iload (pc := 97) dX6_readItems_97 rfl ?_
        refine v_callNi (Mc := mX11_at) (v := atF (cst 5) 16 ((v1 * 4) + q2)) (S1 := q3.2) (As := [.ref 5, .int ((v1 * 4) + q2)]) (rest := [.int (atF (cst 4) 16 ((v1 * 4) + q2)), .int 2, .ref 8, .int q2, .ref 19]) (pc := 99) dX6_readItems_99 nl_X6_68 mf_X11_at rfl rfl (Nat.le_of_ble_eq_true rfl) ⟨Nat.le_of_ble_eq_true rfl, Nat.le_of_ble_eq_true rfl⟩ (r_at_c hV k0_5 (by decide) (by decide)) ?_
        obtain ⟨q4, hq4, h⟩ := bnd h
        refine v_callVi hV (Mc := mX9_numberWithin) (v := q4.1) (S1 := q4.2) (As := [.int 2, .int (atF (cst 4) 16 ((v1 * 4) + q2)), .int (atF (cst 5) 16 ((v1 * 4) + q2))]) (rest := [.int q2, .ref 19]) (q := (RX9, TX9, 4)) (pc := 102) dX6_readItems_102 mK_X6_116 mf_X9_numberWithin rfl k0_8 rfl rfl rfl (Nat.le_of_ble_eq_true rfl) ⟨Nat.le_of_ble_eq_true rfl, Nat.le_of_ble_eq_true rfl⟩ (r_Tp_numberWithin hV hq4) ?_
        obtain ⟨S5, hS5, h⟩ := app_of h
        refine v_callNv (Mc := mX11_put) (S1 := S5) (As := [.ref 19, .int q2, .int q4.1]) (rest := []) (pc := 105) dX6_readItems_105 nl_X6_72 mf_X11_put rfl rfl (Nat.le_of_ble_eq_true rfl) ⟨Nat.le_of_ble_eq_true rfl, Nat.le_of_ble_eq_true rfl⟩ (r_put hV k0_19 own_19 (by decide) hS5) ?_
        refine g_iinc (v := q.2.1 + 1) (ls1 := [some (.ref 18), some (.int v1), some (.int (q.1 ||| (iShl 1 q2))), some (.int (q.2.1 + 1)), some (.int q1.1), some (.int q2), some (.int ((v1 * 4) + q2))]) (pc := 108) dX6_readItems_108 rfl rfl (by decide) rfl ?_
        refine g_goto (tgt := 4) (pc := 111) dX6_readItems_111 (by decide) ?_
        refine g_wk [true, true, true, true, false, false, false] rfl ?_
        cases h
        exact hK
      · rw [if_neg c6] at h
        refine g_wk [true, false, false, false, false, false, false] rfl ?_
        cases h
        exact hK
    · rw [if_pos c7] at h
      refine g_wk [false, false, false, false, false, false, false] rfl ?_
      cases h
      exact hK
set_option maxRecDepth 4000 in
theorem w_Nr_readItems_L4 {V : Sm → Wd} (hV : VwC V) {l : Launch} {Γ : Gm} {rF : Option Value} {wF : Wd} {v1 : Int32} {k : Nat} {q : Int32 × Int32 × Sm} {o : (Sm) ⊕ ((Sm) ⊕ (Sm))} (h : lpN (Nr_readItems_L4 v1) k q = some o) (hP : ps_Nr_readItems_L4 V l Γ rF wF v1 o) : hd_Nr_readItems_L4 V l Γ rF wF v1 q := lpN_ind2 (hd_Nr_readItems_L4 V l Γ rF wF v1) (ps_Nr_readItems_L4 V l Γ rF wF v1) (fun s o h hK => t_Nr_readItems_L4 hV h hK) k q o h hP
def Nr_readItems (v1 : Int32) (S : Sm) : Option (Sm) := ((lpN (Nr_readItems_L4 v1) FU (0, 0, S)).bind fun q9 => (Sum.elim (fun a10 => (some a10)) (fun a11 => (Sum.elim (fun a12 => (app (Tp_fail a12) fun q14 => (some q14))) (fun a13 => (some a13)) a11)) q9))
set_option maxRecDepth 4000 in
theorem r_Nr_readItems {V : Sm → Wd} (hV : VwC V) {v1 : Int32} {S : Sm} {q : Sm} (h : Nr_readItems v1 S = some q) : Runs 4 mX6_readItems [.ref 18, .int v1] (V S) none (V q) 0 0 := by
  unfold Nr_readItems at h
  refine Runs.of2 [some (.ref 18), some (.int v1), none, none, none, none, none] 5 rfl rfl (Nat.le_of_ble_eq_true rfl) (fun l Γ => ?_)
  refine g_iconst (v := 0) (pc := 0) dX6_readItems_0 (by decide) ?_
  refine g_istore_n (ls1 := [some (.ref 18), some (.int v1), some (.int 0), none, none, none, none]) (pc := 1) dX6_readItems_1 (by decide) rfl ?_
  refine g_iconst (v := 0) (pc := 2) dX6_readItems_2 (by decide) ?_
  refine g_istore_n (ls1 := [some (.ref 18), some (.int v1), some (.int 0), some (.int 0), none, none, none]) (pc := 3) dX6_readItems_3 (by decide) rfl ?_
  obtain ⟨q9, hqq9, h⟩ := bnd h
  refine w_Nr_readItems_L4 hV hqq9 ?_
  unfold ps_Nr_readItems_L4
  cases q9 with
  | inl a10 =>
    simp only [Sum.elim_inl] at h
    show G _ _ _ _ _ _ _ _ _ _ _
    cases h
    exact g_vret (pc := 32) dX6_readItems_32 rfl (Nat.le_refl _) (Nat.le_refl _)
  | inr a11 =>
    simp only [Sum.elim_inr] at h
    cases a11 with
    | inl a12 =>
      simp only [Sum.elim_inl] at h
      show G _ _ _ _ _ _ _ _ _ _ _
      refine g_aload_n (pc := 42) dX6_readItems_42 rfl ?_
      refine v_getR hV (pc := 43) dX6_readItems_43 fo_6_0 rfl k0_18 r0_18_0 ?_
      obtain ⟨q14, hq14, h⟩ := app_of h
      refine v_callVv hV (Mc := mX9_fail) (S1 := q14) (As := []) (rest := []) (q := (RX9, TX9, 4)) (pc := 46) dX6_readItems_46 mK_X6_86 mf_X9_fail rfl k0_8 rfl rfl rfl (Nat.le_of_ble_eq_true rfl) ⟨Nat.le_of_ble_eq_true rfl, Nat.le_of_ble_eq_true rfl⟩ (r_Tp_fail hV hq14) ?_
      cases h
      exact g_vret (pc := 49) dX6_readItems_49 rfl (Nat.le_refl _) (Nat.le_refl _)
    | inr a13 =>
      simp only [Sum.elim_inr] at h
      show G _ _ _ _ _ _ _ _ _ _ _
      cases h
      exact g_vret (pc := 114) dX6_readItems_114 rfl (Nat.le_refl _) (Nat.le_refl _)
def hd_Dr_store_19_L19 (V : Sm → Wd) (l : Launch) (Γ : Gm) (rF : Option Value) (wF : Wd) (v1 : Int32) (v3 : Int32) (q : Int32 × Sm) : Prop := G mX5_store l Γ (rmD 2 0 0) (mQ Γ rF wF 0 0) 0 0 19 [some (.ref 14), some (.int v1), some (.ref 19), some (.int v3), some (.int q.1)] [] (V q.2)
def ps_Dr_store_19_L19 (V : Sm → Wd) (l : Launch) (Γ : Gm) (rF : Option Value) (wF : Wd) (v1 : Int32) (v3 : Int32) (x : Sm) : Prop := (fun (a : Sm) => G mX5_store l Γ (rmD 2 0 0) (mQ Γ rF wF 0 0) 0 0 48 [some (.ref 14), some (.int v1), none, none, none] [] (V a)) x
def Dr_store_19_L19 (v1 : Int32) (v3 : Int32) (q : Int32 × Sm) : Option ((Int32 × Sm) ⊕ (Sm)) := (if (4 : Int32) ≤ q.1 then (some (.inr q.2)) else (app (puF q.2 15 116 (v3 + q.1) (atF (gi q.2 19) 4 q.1)) fun S1 => (some (.inl (q.1 + 1, S1)))))
set_option maxRecDepth 4000 in
theorem t_Dr_store_19_L19 {V : Sm → Wd} (hV : VwC V) {l : Launch} {Γ : Gm} {rF : Option Value} {wF : Wd} {v1 : Int32} {v3 : Int32} {q : Int32 × Sm} {o : (Int32 × Sm) ⊕ (Sm)} (h : Dr_store_19_L19 v1 v3 q = some o) (hK : Sum.elim (hd_Dr_store_19_L19 V l Γ rF wF v1 v3) (ps_Dr_store_19_L19 V l Γ rF wF v1 v3) o) : hd_Dr_store_19_L19 V l Γ rF wF v1 v3 q := by
  unfold Dr_store_19_L19 at h
  unfold hd_Dr_store_19_L19
  refine g_iload (pc := 19) dX5_store_19 rfl ?_
  refine g_iconst (v := 4) (pc := 21) dX5_store_21 (by decide) ?_
  refine g_icmp_ge (tgt := 48) (pc := 22) dX5_store_22 (by decide) (fun c2 => ?_) (fun c2 => ?_)
  · rw [if_pos c2] at h
    refine g_wk [true, true, false, false, false] rfl ?_
    cases h
    exact hK
  · rw [if_neg c2] at h
    refine g_aload_n (pc := 25) dX5_store_25 rfl ?_
    refine v_getR hV (pc := 26) dX5_store_26 fo_5_0 rfl k0_14 r0_14_0 ?_
    refine g_iload_n (pc := 29) dX5_store_29 rfl ?_
    refine g_iload (pc := 30) dX5_store_30 rfl ?_
    refine g_iadd (pc := 32) dX5_store_32 ?_
    refine g_aload_n (pc := 33) dX5_store_33 rfl ?_
    refine g_iload (pc := 34) dX5_store_34 rfl ?_
    refine v_callNi (Mc := mX11_at) (v := atF (gi q.2 19) 4 q.1) (S1 := q.2) (As := [.ref 19, .int q.1]) (rest := [.int (v3 + q.1), .ref 15]) (pc := 36) dX5_store_36 nl_X5_24 mf_X11_at rfl rfl (Nat.le_of_ble_eq_true rfl) ⟨Nat.le_of_ble_eq_true rfl, Nat.le_of_ble_eq_true rfl⟩ (r_at hV k0_19 own_19 (by decide)) ?_
    obtain ⟨S1, hS1, h⟩ := app_of h
    refine v_callNv (Mc := mX11_put) (S1 := S1) (As := [.ref 15, .int (v3 + q.1), .int (atF (gi q.2 19) 4 q.1)]) (rest := []) (pc := 39) dX5_store_39 nl_X5_31 mf_X11_put rfl rfl (Nat.le_of_ble_eq_true rfl) ⟨Nat.le_of_ble_eq_true rfl, Nat.le_of_ble_eq_true rfl⟩ (r_put hV k0_15 own_15 (by decide) hS1) ?_
    refine g_iinc (v := q.1 + 1) (ls1 := [some (.ref 14), some (.int v1), some (.ref 19), some (.int v3), some (.int (q.1 + 1))]) (pc := 42) dX5_store_42 rfl rfl (by decide) rfl ?_
    refine g_goto (tgt := 19) (pc := 45) dX5_store_45 (by decide) ?_
    cases h
    exact hK
set_option maxRecDepth 4000 in
theorem w_Dr_store_19_L19 {V : Sm → Wd} (hV : VwC V) {l : Launch} {Γ : Gm} {rF : Option Value} {wF : Wd} {v1 : Int32} {v3 : Int32} {k : Nat} {q : Int32 × Sm} {o : Sm} (h : lpN (Dr_store_19_L19 v1 v3) k q = some o) (hP : ps_Dr_store_19_L19 V l Γ rF wF v1 v3 o) : hd_Dr_store_19_L19 V l Γ rF wF v1 v3 q := lpN_ind2 (hd_Dr_store_19_L19 V l Γ rF wF v1 v3) (ps_Dr_store_19_L19 V l Γ rF wF v1 v3) (fun s o h hK => t_Dr_store_19_L19 hV h hK) k q o h hP
def Dr_store_19 (v1 : Int32) (S : Sm) : Option (Sm) := ((lpN (Dr_store_19_L19 v1 (((atF (cst 1) 5 v1) + (Dr_many v1 S)) * 4)) FU (0, S)).bind fun q3 => (app (puF q3 16 4 v1 ((Dr_many v1 q3) + 1)) fun S4 => (some S4)))
set_option maxRecDepth 4000 in
theorem r_Dr_store_19 {V : Sm → Wd} (hV : VwC V) {v1 : Int32} {S : Sm} {q : Sm} (h : Dr_store_19 v1 S = some q) : Runs 2 mX5_store [.ref 14, .int v1, .ref 19] (V S) none (V q) 0 0 := by
  unfold Dr_store_19 at h
  refine Runs.of2 [some (.ref 14), some (.int v1), some (.ref 19), none, none] 2 rfl rfl (Nat.le_of_ble_eq_true rfl) (fun l Γ => ?_)
  refine gs_get (i := 1) (pc := 0) dX5_store_0 (List.mem_of_getElem? (i := 1) rfl) rfl fK_X5_21 ?_
  refine g_iload_n (pc := 3) dX5_store_3 rfl ?_
  refine v_callNi (Mc := mX11_at) (v := atF (cst 1) 5 v1) (S1 := S) (As := [.ref 1, .int v1]) (rest := []) (pc := 4) dX5_store_4 nl_X5_24 mf_X11_at rfl rfl (Nat.le_of_ble_eq_true rfl) ⟨Nat.le_of_ble_eq_true rfl, Nat.le_of_ble_eq_true rfl⟩ (r_at_c hV k0_1 (by decide) (by decide)) ?_
  refine g_aload_n (pc := 7) dX5_store_7 rfl ?_
  refine g_iload_n (pc := 8) dX5_store_8 rfl ?_
  refine v_callVi hV (Mc := mX5_many) (v := Dr_many v1 S) (S1 := S) (As := [.int v1]) (rest := [.int (atF (cst 1) 5 v1)]) (q := (RX5, TX5, 3)) (pc := 9) dX5_store_9 mK_X5_28 mf_X5_many rfl k0_14 rfl rfl rfl (Nat.le_of_ble_eq_true rfl) ⟨Nat.le_of_ble_eq_true rfl, Nat.le_of_ble_eq_true rfl⟩ (r_Dr_many hV rfl) ?_
  refine g_iadd (pc := 12) dX5_store_12 ?_
  refine g_iconst (v := 4) (pc := 13) dX5_store_13 (by decide) ?_
  refine g_imul (pc := 14) dX5_store_14 ?_
  refine g_istore_n (ls1 := [some (.ref 14), some (.int v1), some (.ref 19), some (.int (((atF (cst 1) 5 v1) + (Dr_many v1 S)) * 4)), none]) (pc := 15) dX5_store_15 (by decide) rfl ?_
  refine g_iconst (v := 0) (pc := 16) dX5_store_16 (by decide) ?_
  refine g_istore (ls1 := [some (.ref 14), some (.int v1), some (.ref 19), some (.int (((atF (cst 1) 5 v1) + (Dr_many v1 S)) * 4)), some (.int 0)]) (pc := 17) dX5_store_17 (by decide) rfl ?_
  obtain ⟨q3, hqq3, h⟩ := bnd h
  refine w_Dr_store_19_L19 hV hqq3 ?_
  unfold ps_Dr_store_19_L19
  show G _ _ _ _ _ _ _ _ _ _ _
  refine g_aload_n (pc := 48) dX5_store_48 rfl ?_
  refine v_getR hV (pc := 49) dX5_store_49 fo_5_1 rfl k0_14 r0_14_1 ?_
  refine g_iload_n (pc := 52) dX5_store_52 rfl ?_
  refine g_aload_n (pc := 53) dX5_store_53 rfl ?_
  refine g_iload_n (pc := 54) dX5_store_54 rfl ?_
  refine v_callVi hV (Mc := mX5_many) (v := Dr_many v1 q3) (S1 := q3) (As := [.int v1]) (rest := [.int v1, .ref 16]) (q := (RX5, TX5, 3)) (pc := 55) dX5_store_55 mK_X5_28 mf_X5_many rfl k0_14 rfl rfl rfl (Nat.le_of_ble_eq_true rfl) ⟨Nat.le_of_ble_eq_true rfl, Nat.le_of_ble_eq_true rfl⟩ (r_Dr_many hV rfl) ?_
  refine g_iconst (v := 1) (pc := 58) dX5_store_58 (by decide) ?_
  refine g_iadd (pc := 59) dX5_store_59 ?_
  obtain ⟨S4, hS4, h⟩ := app_of h
  refine v_callNv (Mc := mX11_put) (S1 := S4) (As := [.ref 16, .int v1, .int ((Dr_many v1 q3) + 1)]) (rest := []) (pc := 60) dX5_store_60 nl_X5_31 mf_X11_put rfl rfl (Nat.le_of_ble_eq_true rfl) ⟨Nat.le_of_ble_eq_true rfl, Nat.le_of_ble_eq_true rfl⟩ (r_put hV k0_16 own_16 (by decide) hS4) ?_
  cases h
  exact g_vret (pc := 63) dX5_store_63 rfl (Nat.le_refl _) (Nat.le_refl _)
def Nr_readClause_29 (S : Sm) : Option (Sm) := (app (Tp_fail S) fun q3 => (some q3))
set_option maxRecDepth 4000 in
theorem t_Nr_readClause_29 {V : Sm → Wd} (hV : VwC V) {l : Launch} {Γ : Gm}  {S : Sm} {q : Sm} (h : Nr_readClause_29 S = some q) : G mX6_readClause l Γ (rmD 5 0 0) (mQ Γ none (V q) 0 0) 0 0 29 [some (.ref 18), none, none] [] (V S) := by
  unfold Nr_readClause_29 at h
  refine g_aload_n (pc := 29) dX6_readClause_29 rfl ?_
  refine v_getR hV (pc := 30) dX6_readClause_30 fo_6_0 rfl k0_18 r0_18_0 ?_
  obtain ⟨q3, hq3, h⟩ := app_of h
  refine v_callVv hV (Mc := mX9_fail) (S1 := q3) (As := []) (rest := []) (q := (RX9, TX9, 4)) (pc := 33) dX6_readClause_33 mK_X6_86 mf_X9_fail rfl k0_8 rfl rfl rfl (Nat.le_of_ble_eq_true rfl) ⟨Nat.le_of_ble_eq_true rfl, Nat.le_of_ble_eq_true rfl⟩ (r_Tp_fail hV hq3) ?_
  cases h
  exact g_vret (pc := 36) dX6_readClause_36 rfl (Nat.le_refl _) (Nat.le_refl _)
def Nr_readClause_78 (S : Sm) : Option (Sm) := (some S)
set_option maxRecDepth 4000 in
theorem t_Nr_readClause_78 {V : Sm → Wd} (hV : VwC V) {l : Launch} {Γ : Gm}  {S : Sm} {q : Sm} (h : Nr_readClause_78 S = some q) : G mX6_readClause l Γ (rmD 5 0 0) (mQ Γ none (V q) 0 0) 0 0 78 [none, none, none] [] (V S) := by
  unfold Nr_readClause_78 at h
  cases h
  exact g_vret (pc := 78) dX6_readClause_78 rfl (Nat.le_refl _) (Nat.le_refl _)
def Nr_readClause (S : Sm) : Option (Sm) := ((Tp_sign S).bind fun q1 => ((Nr_kindOf q1.1 q1.2).bind fun q2 => (if q2 = ((-1)) then (Nr_readClause_29 q1.2) else (if (Dr_isFull q2 q1.2) = 0 then ((Tp_take q1.1 q1.2).bind fun q4 => ((Nr_setUsual q2 q4.2).bind fun q5 => ((Nr_readItems q2 q5).bind fun q6 => (if (Tp_isFaulty q6) = 0 then ((Dr_store_19 q2 q6).bind fun q7 => (Nr_readClause_78 q7)) else (Nr_readClause_78 q6))))) else (Nr_readClause_29 q1.2)))))
set_option maxRecDepth 4000 in
theorem r_Nr_readClause {V : Sm → Wd} (hV : VwC V)  {S : Sm} {q : Sm} (h : Nr_readClause S = some q) : Runs 5 mX6_readClause [.ref 18] (V S) none (V q) 0 0 := by
  unfold Nr_readClause at h
  refine Runs.of2 [some (.ref 18), none, none] 2 rfl rfl (Nat.le_of_ble_eq_true rfl) (fun l Γ => ?_)
  refine g_aload_n (pc := 0) dX6_readClause_0 rfl ?_
  refine v_getR hV (pc := 1) dX6_readClause_1 fo_6_0 rfl k0_18 r0_18_0 ?_
  obtain ⟨q1, hq1, h⟩ := bnd h
  refine v_callVi hV (Mc := mX9_sign) (v := q1.1) (S1 := q1.2) (As := []) (rest := []) (q := (RX9, TX9, 4)) (pc := 4) dX6_readClause_4 mK_X6_76 mf_X9_sign rfl k0_8 rfl rfl rfl (Nat.le_of_ble_eq_true rfl) ⟨Nat.le_of_ble_eq_true rfl, Nat.le_of_ble_eq_true rfl⟩ (r_Tp_sign hV hq1) ?_
  refine g_istore_n (ls1 := [some (.ref 18), some (.int q1.1), none]) (pc := 7) dX6_readClause_7 (by decide) rfl ?_
  refine g_iload_n (pc := 8) dX6_readClause_8 rfl ?_
  obtain ⟨q2, hq2, h⟩ := bnd h
  refine v_callSi (Mc := mX6_kindOf) (v := q2) (S1 := q1.2) (As := [.int q1.1]) (rest := []) (pc := 9) dX6_readClause_9 mK_X6_79 mf_X6_kindOf rfl rfl (Nat.le_of_ble_eq_true rfl) ⟨Nat.le_of_ble_eq_true rfl, Nat.le_of_ble_eq_true rfl⟩ (r_Nr_kindOf hV hq2) ?_
  refine g_istore_n (ls1 := [some (.ref 18), some (.int q1.1), some (.int q2)]) (pc := 12) dX6_readClause_12 (by decide) rfl ?_
  refine g_iload_n (pc := 13) dX6_readClause_13 rfl ?_
  refine g_iconst (v := (-1)) (pc := 14) dX6_readClause_14 (by decide) ?_
  refine g_icmp_eq (tgt := 29) (pc := 15) dX6_readClause_15 (by decide) (fun c10 => ?_) (fun c10 => ?_)
  · rw [if_pos c10] at h
    refine g_wk [true, false, false] rfl ?_
    exact t_Nr_readClause_29 hV h
  · rw [if_neg c10] at h
    refine g_aload_n (pc := 18) dX6_readClause_18 rfl ?_
    refine v_getR hV (pc := 19) dX6_readClause_19 fo_6_1 rfl k0_18 r0_18_1 ?_
    refine g_iload_n (pc := 22) dX6_readClause_22 rfl ?_
    refine v_callVi hV (Mc := mX5_isFull) (v := Dr_isFull q2 q1.2) (S1 := q1.2) (As := [.int q2]) (rest := []) (q := (RX5, TX5, 3)) (pc := 23) dX6_readClause_23 mK_X6_82 mf_X5_isFull rfl k0_14 rfl rfl rfl (Nat.le_of_ble_eq_true rfl) ⟨Nat.le_of_ble_eq_true rfl, Nat.le_of_ble_eq_true rfl⟩ (r_Dr_isFull hV rfl) ?_
    refine g_if_eq (tgt := 37) (pc := 26) dX6_readClause_26 (by decide) (fun c9 => ?_) (fun c9 => ?_)
    · rw [if_pos c9] at h
      refine g_aload_n (pc := 37) dX6_readClause_37 rfl ?_
      refine v_getR hV (pc := 38) dX6_readClause_38 fo_6_0 rfl k0_18 r0_18_0 ?_
      refine g_iload_n (pc := 41) dX6_readClause_41 rfl ?_
      obtain ⟨q4, hq4, h⟩ := bnd h
      refine v_callVi hV (Mc := mX9_take) (v := q4.1) (S1 := q4.2) (As := [.int q1.1]) (rest := []) (q := (RX9, TX9, 4)) (pc := 42) dX6_readClause_42 mK_X6_89 mf_X9_take rfl k0_8 rfl rfl rfl (Nat.le_of_ble_eq_true rfl) ⟨Nat.le_of_ble_eq_true rfl, Nat.le_of_ble_eq_true rfl⟩ (r_Tp_take hV hq4) ?_
      refine g_pop (pc := 45) dX6_readClause_45 rfl ?_
      refine g_aload_n (pc := 46) dX6_readClause_46 rfl ?_
      refine g_iload_n (pc := 47) dX6_readClause_47 rfl ?_
      obtain ⟨q5, hq5, h⟩ := bnd h
      refine v_callVv hV (Mc := mX6_setUsual) (S1 := q5) (As := [.int q2]) (rest := []) (q := (RX6, TX6, 3)) (pc := 48) dX6_readClause_48 mK_X6_57 mf_X6_setUsual rfl k0_18 rfl rfl rfl (Nat.le_of_ble_eq_true rfl) ⟨Nat.le_of_ble_eq_true rfl, Nat.le_of_ble_eq_true rfl⟩ (r_Nr_setUsual hV hq5) ?_
      refine g_aload_n (pc := 51) dX6_readClause_51 rfl ?_
      refine g_iload_n (pc := 52) dX6_readClause_52 rfl ?_
      obtain ⟨q6, hq6, h⟩ := bnd h
      refine v_callVv hV (Mc := mX6_readItems) (S1 := q6) (As := [.int q2]) (rest := []) (q := (RX6, TX6, 3)) (pc := 53) dX6_readClause_53 mK_X6_92 mf_X6_readItems rfl k0_18 rfl rfl rfl (Nat.le_of_ble_eq_true rfl) ⟨Nat.le_of_ble_eq_true rfl, Nat.le_of_ble_eq_true rfl⟩ (r_Nr_readItems hV hq6) ?_
      refine g_aload_n (pc := 56) dX6_readClause_56 rfl ?_
      refine v_getR hV (pc := 57) dX6_readClause_57 fo_6_0 rfl k0_18 r0_18_0 ?_
      refine v_callVi hV (Mc := mX9_isFaulty) (v := Tp_isFaulty q6) (S1 := q6) (As := []) (rest := []) (q := (RX9, TX9, 4)) (pc := 60) dX6_readClause_60 mK_X6_95 mf_X9_isFaulty rfl k0_8 rfl rfl rfl (Nat.le_of_ble_eq_true rfl) ⟨Nat.le_of_ble_eq_true rfl, Nat.le_of_ble_eq_true rfl⟩ (r_Tp_isFaulty hV rfl) ?_
      refine g_if_ne (tgt := 78) (pc := 63) dX6_readClause_63 (by decide) (fun c8 => ?_) (fun c8 => ?_)
      · rw [if_neg c8] at h
        refine g_wk [false, false, false] rfl ?_
        exact t_Nr_readClause_78 hV h
      · rw [if_pos c8] at h
        refine g_aload_n (pc := 66) dX6_readClause_66 rfl ?_
        refine v_getR hV (pc := 67) dX6_readClause_67 fo_6_1 rfl k0_18 r0_18_1 ?_
        refine g_iload_n (pc := 70) dX6_readClause_70 rfl ?_
        refine g_aload_n (pc := 71) dX6_readClause_71 rfl ?_
        refine v_getR hV (pc := 72) dX6_readClause_72 fo_6_2 rfl k0_18 r0_18_2 ?_
        obtain ⟨q7, hq7, h⟩ := bnd h
        refine v_callVv hV (Mc := mX5_store) (S1 := q7) (As := [.int q2, .ref 19]) (rest := []) (q := (RX5, TX5, 3)) (pc := 75) dX6_readClause_75 mK_X6_61 mf_X5_store rfl k0_14 rfl rfl rfl (Nat.le_of_ble_eq_true rfl) ⟨Nat.le_of_ble_eq_true rfl, Nat.le_of_ble_eq_true rfl⟩ (r_Dr_store_19 hV hq7) ?_
        refine g_wk [false, false, false] rfl ?_
        exact t_Nr_readClause_78 hV h
    · rw [if_neg c9] at h
      refine g_wk [true, false, false] rfl ?_
      exact t_Nr_readClause_29 hV h
def Nr_sizeIfUntold_28 (S : Sm) : Option (Sm) := (some S)
set_option maxRecDepth 4000 in
theorem t_Nr_sizeIfUntold_28 {V : Sm → Wd} (hV : VwC V) {l : Launch} {Γ : Gm}  {S : Sm} {q : Sm} (h : Nr_sizeIfUntold_28 S = some q) : G mX6_sizeIfUntold l Γ (rmD 3 0 0) (mQ Γ none (V q) 0 0) 0 0 28 [none] [] (V S) := by
  unfold Nr_sizeIfUntold_28 at h
  cases h
  exact g_vret (pc := 28) dX6_sizeIfUntold_28 rfl (Nat.le_refl _) (Nat.le_refl _)
def Nr_sizeIfUntold (S : Sm) : Option (Sm) := (if (Dr_many 0 S) = 0 then ((Nr_setUsual 0 S).bind fun q1 => ((Dr_store_19 0 q1).bind fun q2 => (Nr_sizeIfUntold_28 q2))) else (Nr_sizeIfUntold_28 S))
set_option maxRecDepth 4000 in
theorem r_Nr_sizeIfUntold {V : Sm → Wd} (hV : VwC V)  {S : Sm} {q : Sm} (h : Nr_sizeIfUntold S = some q) : Runs 3 mX6_sizeIfUntold [.ref 18] (V S) none (V q) 0 0 := by
  unfold Nr_sizeIfUntold at h
  refine Runs.of2 [some (.ref 18)] 0 rfl rfl (Nat.le_of_ble_eq_true rfl) (fun l Γ => ?_)
  refine g_aload_n (pc := 0) dX6_sizeIfUntold_0 rfl ?_
  refine v_getR hV (pc := 1) dX6_sizeIfUntold_1 fo_6_1 rfl k0_18 r0_18_1 ?_
  refine g_iconst (v := 0) (pc := 4) dX6_sizeIfUntold_4 (by decide) ?_
  refine v_callVi hV (Mc := mX5_many) (v := Dr_many 0 S) (S1 := S) (As := [.int 0]) (rest := []) (q := (RX5, TX5, 3)) (pc := 5) dX6_sizeIfUntold_5 mK_X6_53 mf_X5_many rfl k0_14 rfl rfl rfl (Nat.le_of_ble_eq_true rfl) ⟨Nat.le_of_ble_eq_true rfl, Nat.le_of_ble_eq_true rfl⟩ (r_Dr_many hV rfl) ?_
  refine g_if_ne (tgt := 28) (pc := 8) dX6_sizeIfUntold_8 (by decide) (fun c3 => ?_) (fun c3 => ?_)
  · rw [if_neg c3] at h
    refine g_wk [false] rfl ?_
    exact t_Nr_sizeIfUntold_28 hV h
  · rw [if_pos c3] at h
    refine g_aload_n (pc := 11) dX6_sizeIfUntold_11 rfl ?_
    refine g_iconst (v := 0) (pc := 12) dX6_sizeIfUntold_12 (by decide) ?_
    obtain ⟨q1, hq1, h⟩ := bnd h
    refine v_callVv hV (Mc := mX6_setUsual) (S1 := q1) (As := [.int 0]) (rest := []) (q := (RX6, TX6, 3)) (pc := 13) dX6_sizeIfUntold_13 mK_X6_57 mf_X6_setUsual rfl k0_18 rfl rfl rfl (Nat.le_of_ble_eq_true rfl) ⟨Nat.le_of_ble_eq_true rfl, Nat.le_of_ble_eq_true rfl⟩ (r_Nr_setUsual hV hq1) ?_
    refine g_aload_n (pc := 16) dX6_sizeIfUntold_16 rfl ?_
    refine v_getR hV (pc := 17) dX6_sizeIfUntold_17 fo_6_1 rfl k0_18 r0_18_1 ?_
    refine g_iconst (v := 0) (pc := 20) dX6_sizeIfUntold_20 (by decide) ?_
    refine g_aload_n (pc := 21) dX6_sizeIfUntold_21 rfl ?_
    refine v_getR hV (pc := 22) dX6_sizeIfUntold_22 fo_6_2 rfl k0_18 r0_18_2 ?_
    obtain ⟨q2, hq2, h⟩ := bnd h
    refine v_callVv hV (Mc := mX5_store) (S1 := q2) (As := [.int 0, .ref 19]) (rest := []) (q := (RX5, TX5, 3)) (pc := 25) dX6_sizeIfUntold_25 mK_X6_61 mf_X5_store rfl k0_14 rfl rfl rfl (Nat.le_of_ble_eq_true rfl) ⟨Nat.le_of_ble_eq_true rfl, Nat.le_of_ble_eq_true rfl⟩ (r_Dr_store_19 hV hq2) ?_
    refine g_wk [false] rfl ?_
    exact t_Nr_sizeIfUntold_28 hV h
def Dr_item (v1 : Int32) (v2 : Int32) (v3 : Int32) (S : Sm) : Int32 := (atF (gi S 15) 116 ((((atF (cst 1) 5 v1) + v2) * 4) + v3))
set_option maxRecDepth 4000 in
theorem r_Dr_item {V : Sm → Wd} (hV : VwC V) {v1 : Int32} {v2 : Int32} {v3 : Int32} {S : Sm} {q : Int32} (h : Dr_item v1 v2 v3 S = q) : Runs 1 mX5_item [.ref 14, .int v1, .int v2, .int v3] (V S) (some (.int q)) (V S) 0 0 := by
  unfold Dr_item at h
  refine Runs.of2 [some (.ref 14), some (.int v1), some (.int v2), some (.int v3)] 0 rfl rfl (Nat.le_of_ble_eq_true rfl) (fun l Γ => ?_)
  refine g_aload_n (pc := 0) dX5_item_0 rfl ?_
  refine v_getR hV (pc := 1) dX5_item_1 fo_5_0 rfl k0_14 r0_14_0 ?_
  refine gs_get (i := 1) (pc := 4) dX5_item_4 (List.mem_of_getElem? (i := 1) rfl) rfl fK_X5_21 ?_
  refine g_iload_n (pc := 7) dX5_item_7 rfl ?_
  refine v_callNi (Mc := mX11_at) (v := atF (cst 1) 5 v1) (S1 := S) (As := [.ref 1, .int v1]) (rest := [.ref 15]) (pc := 8) dX5_item_8 nl_X5_24 mf_X11_at rfl rfl (Nat.le_of_ble_eq_true rfl) ⟨Nat.le_of_ble_eq_true rfl, Nat.le_of_ble_eq_true rfl⟩ (r_at_c hV k0_1 (by decide) (by decide)) ?_
  refine g_iload_n (pc := 11) dX5_item_11 rfl ?_
  refine g_iadd (pc := 12) dX5_item_12 ?_
  refine g_iconst (v := 4) (pc := 13) dX5_item_13 (by decide) ?_
  refine g_imul (pc := 14) dX5_item_14 ?_
  refine g_iload_n (pc := 15) dX5_item_15 rfl ?_
  refine g_iadd (pc := 16) dX5_item_16 ?_
  refine v_callNi (Mc := mX11_at) (v := atF (gi S 15) 116 ((((atF (cst 1) 5 v1) + v2) * 4) + v3)) (S1 := S) (As := [.ref 15, .int ((((atF (cst 1) 5 v1) + v2) * 4) + v3)]) (rest := []) (pc := 17) dX5_item_17 nl_X5_24 mf_X11_at rfl rfl (Nat.le_of_ble_eq_true rfl) ⟨Nat.le_of_ble_eq_true rfl, Nat.le_of_ble_eq_true rfl⟩ (r_at hV k0_15 own_15 (by decide)) ?_
  subst h
  exact g_iret (pc := 20) dX5_item_20 rfl rfl (Nat.le_refl _) (Nat.le_refl _)
def Dk_darkOf (v0 : Int32) (v1 : Int32) : Int32 := ((v0 * 5) + v1)
set_option maxRecDepth 4000 in
theorem r_Dk_darkOf {V : Sm → Wd} (hV : VwC V) {v0 : Int32} {v1 : Int32} {S : Sm} {q : Int32} (h : Dk_darkOf v0 v1 = q) : Runs 0 mX11_darkOf [.int v0, .int v1] (V S) (some (.int q)) (V S) 0 0 := by
  unfold Dk_darkOf at h
  refine Runs.of2 [some (.int v0), some (.int v1)] 0 rfl rfl (Nat.le_of_ble_eq_true rfl) (fun l Γ => ?_)
  refine g_iload_n (pc := 0) dX11_darkOf_0 rfl ?_
  refine g_iconst (v := 5) (pc := 1) dX11_darkOf_1 (by decide) ?_
  refine g_imul (pc := 2) dX11_darkOf_2 ?_
  refine g_iload_n (pc := 3) dX11_darkOf_3 rfl ?_
  refine g_iadd (pc := 4) dX11_darkOf_4 ?_
  subst h
  exact g_iret (pc := 5) dX11_darkOf_5 rfl rfl (Nat.le_refl _) (Nat.le_refl _)
def Dr_darkOfTunnel (v1 : Int32) (S : Sm) : Int32 := (Dk_darkOf (Dr_item 1 v1 0 S) (Dr_item 1 v1 1 S))
set_option maxRecDepth 4000 in
theorem r_Dr_darkOfTunnel {V : Sm → Wd} (hV : VwC V) {v1 : Int32} {S : Sm} {q : Int32} (h : Dr_darkOfTunnel v1 S = q) : Runs 2 mX5_darkOfTunnel [.ref 14, .int v1] (V S) (some (.int q)) (V S) 0 0 := by
  unfold Dr_darkOfTunnel at h
  refine Runs.of2 [some (.ref 14), some (.int v1)] 0 rfl rfl (Nat.le_of_ble_eq_true rfl) (fun l Γ => ?_)
  refine g_aload_n (pc := 0) dX5_darkOfTunnel_0 rfl ?_
  refine g_iconst (v := 1) (pc := 1) dX5_darkOfTunnel_1 (by decide) ?_
  refine g_iload_n (pc := 2) dX5_darkOfTunnel_2 rfl ?_
  refine g_iconst (v := 0) (pc := 3) dX5_darkOfTunnel_3 (by decide) ?_
  refine v_callVi hV (Mc := mX5_item) (v := Dr_item 1 v1 0 S) (S1 := S) (As := [.int 1, .int v1, .int 0]) (rest := []) (q := (RX5, TX5, 3)) (pc := 4) dX5_darkOfTunnel_4 mK_X5_42 mf_X5_item rfl k0_14 rfl rfl rfl (Nat.le_of_ble_eq_true rfl) ⟨Nat.le_of_ble_eq_true rfl, Nat.le_of_ble_eq_true rfl⟩ (r_Dr_item hV rfl) ?_
  refine g_aload_n (pc := 7) dX5_darkOfTunnel_7 rfl ?_
  refine g_iconst (v := 1) (pc := 8) dX5_darkOfTunnel_8 (by decide) ?_
  refine g_iload_n (pc := 9) dX5_darkOfTunnel_9 rfl ?_
  refine g_iconst (v := 1) (pc := 10) dX5_darkOfTunnel_10 (by decide) ?_
  refine v_callVi hV (Mc := mX5_item) (v := Dr_item 1 v1 1 S) (S1 := S) (As := [.int 1, .int v1, .int 1]) (rest := [.int (Dr_item 1 v1 0 S)]) (q := (RX5, TX5, 3)) (pc := 11) dX5_darkOfTunnel_11 mK_X5_42 mf_X5_item rfl k0_14 rfl rfl rfl (Nat.le_of_ble_eq_true rfl) ⟨Nat.le_of_ble_eq_true rfl, Nat.le_of_ble_eq_true rfl⟩ (r_Dr_item hV rfl) ?_
  refine v_callNi (Mc := mX11_darkOf) (v := Dk_darkOf (Dr_item 1 v1 0 S) (Dr_item 1 v1 1 S)) (S1 := S) (As := [.int (Dr_item 1 v1 0 S), .int (Dr_item 1 v1 1 S)]) (rest := []) (pc := 14) dX5_darkOfTunnel_14 nl_X5_60 mf_X11_darkOf rfl rfl (Nat.le_of_ble_eq_true rfl) ⟨Nat.le_of_ble_eq_true rfl, Nat.le_of_ble_eq_true rfl⟩ (r_Dk_darkOf hV rfl) ?_
  subst h
  exact g_iret (pc := 17) dX5_darkOfTunnel_17 rfl rfl (Nat.le_refl _) (Nat.le_refl _)
def Dr_mouths (S : Sm) : Int32 := (atF (gi S 15) 116 0)
set_option maxRecDepth 4000 in
theorem r_Dr_mouths {V : Sm → Wd} (hV : VwC V)  {S : Sm} {q : Int32} (h : Dr_mouths S = q) : Runs 1 mX5_mouths [.ref 14] (V S) (some (.int q)) (V S) 0 0 := by
  unfold Dr_mouths at h
  refine Runs.of2 [some (.ref 14)] 0 rfl rfl (Nat.le_of_ble_eq_true rfl) (fun l Γ => ?_)
  refine g_aload_n (pc := 0) dX5_mouths_0 rfl ?_
  refine v_getR hV (pc := 1) dX5_mouths_1 fo_5_0 rfl k0_14 r0_14_0 ?_
  refine g_iconst (v := 0) (pc := 4) dX5_mouths_4 (by decide) ?_
  refine v_callNi (Mc := mX11_at) (v := atF (gi S 15) 116 0) (S1 := S) (As := [.ref 15, .int 0]) (rest := []) (pc := 5) dX5_mouths_5 nl_X5_24 mf_X11_at rfl rfl (Nat.le_of_ble_eq_true rfl) ⟨Nat.le_of_ble_eq_true rfl, Nat.le_of_ble_eq_true rfl⟩ (r_at hV k0_15 own_15 (by decide)) ?_
  subst h
  exact g_iret (pc := 8) dX5_mouths_8 rfl rfl (Nat.le_refl _) (Nat.le_refl _)
def Dr_hasMouth_17 (s0 : Int32) (S : Sm) : Int32 := (s0 &&& 1)
set_option maxRecDepth 4000 in
theorem t_Dr_hasMouth_17 {V : Sm → Wd} (hV : VwC V) {l : Launch} {Γ : Gm} {s0 : Int32} {S : Sm} {q : Int32} (h : Dr_hasMouth_17 s0 S = q) : G mX5_hasMouth l Γ (rmD 2 0 0) (mQ Γ (some (.int q)) (V S) 0 0) 0 0 17 [none, none] [.int s0] (V S) := by
  unfold Dr_hasMouth_17 at h
  subst h
  exact g_iret (pc := 17) dX5_hasMouth_17 rfl rfl (Nat.le_refl _) (Nat.le_refl _)
def Dr_hasMouth_16 (S : Sm) : Int32 := (Dr_hasMouth_17 0 S)
set_option maxRecDepth 4000 in
theorem t_Dr_hasMouth_16 {V : Sm → Wd} (hV : VwC V) {l : Launch} {Γ : Gm}  {S : Sm} {q : Int32} (h : Dr_hasMouth_16 S = q) : G mX5_hasMouth l Γ (rmD 2 0 0) (mQ Γ (some (.int q)) (V S) 0 0) 0 0 16 [none, none] [] (V S) := by
  unfold Dr_hasMouth_16 at h
  refine g_iconst (v := 0) (pc := 16) dX5_hasMouth_16 (by decide) ?_
  exact t_Dr_hasMouth_17 hV h
def Dr_hasMouth (v1 : Int32) (S : Sm) : Int32 := (if v1 < 0 then (Dr_hasMouth_16 S) else (if (Dr_mouths S) ≤ v1 then (Dr_hasMouth_16 S) else (Dr_hasMouth_17 1 S)))
set_option maxRecDepth 4000 in
theorem r_Dr_hasMouth {V : Sm → Wd} (hV : VwC V) {v1 : Int32} {S : Sm} {q : Int32} (h : Dr_hasMouth v1 S = q) : Runs 2 mX5_hasMouth [.ref 14, .int v1] (V S) (some (.int q)) (V S) 0 0 := by
  unfold Dr_hasMouth at h
  refine Runs.of2 [some (.ref 14), some (.int v1)] 0 rfl rfl (Nat.le_of_ble_eq_true rfl) (fun l Γ => ?_)
  refine g_iload_n (pc := 0) dX5_hasMouth_0 rfl ?_
  refine g_if_lt (tgt := 16) (pc := 1) dX5_hasMouth_1 (by decide) (fun c2 => ?_) (fun c2 => ?_)
  · rw [if_pos c2] at h
    refine g_wk [false, false] rfl ?_
    exact t_Dr_hasMouth_16 hV h
  · rw [if_neg c2] at h
    refine g_iload_n (pc := 4) dX5_hasMouth_4 rfl ?_
    refine g_aload_n (pc := 5) dX5_hasMouth_5 rfl ?_
    refine v_callVi hV (Mc := mX5_mouths) (v := Dr_mouths S) (S1 := S) (As := []) (rest := [.int v1]) (q := (RX5, TX5, 3)) (pc := 6) dX5_hasMouth_6 mK_X5_46 mf_X5_mouths rfl k0_14 rfl rfl rfl (Nat.le_of_ble_eq_true rfl) ⟨Nat.le_of_ble_eq_true rfl, Nat.le_of_ble_eq_true rfl⟩ (r_Dr_mouths hV rfl) ?_
    refine g_icmp_ge (tgt := 16) (pc := 9) dX5_hasMouth_9 (by decide) (fun c1 => ?_) (fun c1 => ?_)
    · rw [if_pos c1] at h
      refine g_wk [false, false] rfl ?_
      exact t_Dr_hasMouth_16 hV h
    · rw [if_neg c1] at h
      refine g_iconst (v := 1) (pc := 12) dX5_hasMouth_12 (by decide) ?_
      refine g_goto (tgt := 17) (pc := 13) dX5_hasMouth_13 (by decide) ?_
      refine g_wk [false, false] rfl ?_
      exact t_Dr_hasMouth_17 hV h
def Dr_colours (S : Sm) : Int32 := (atF (gi S 15) 116 1)
set_option maxRecDepth 4000 in
theorem r_Dr_colours {V : Sm → Wd} (hV : VwC V)  {S : Sm} {q : Int32} (h : Dr_colours S = q) : Runs 1 mX5_colours [.ref 14] (V S) (some (.int q)) (V S) 0 0 := by
  unfold Dr_colours at h
  refine Runs.of2 [some (.ref 14)] 0 rfl rfl (Nat.le_of_ble_eq_true rfl) (fun l Γ => ?_)
  refine g_aload_n (pc := 0) dX5_colours_0 rfl ?_
  refine v_getR hV (pc := 1) dX5_colours_1 fo_5_0 rfl k0_14 r0_14_0 ?_
  refine g_iconst (v := 1) (pc := 4) dX5_colours_4 (by decide) ?_
  refine v_callNi (Mc := mX11_at) (v := atF (gi S 15) 116 1) (S1 := S) (As := [.ref 15, .int 1]) (rest := []) (pc := 5) dX5_colours_5 nl_X5_24 mf_X11_at rfl rfl (Nat.le_of_ble_eq_true rfl) ⟨Nat.le_of_ble_eq_true rfl, Nat.le_of_ble_eq_true rfl⟩ (r_at hV k0_15 own_15 (by decide)) ?_
  subst h
  exact g_iret (pc := 8) dX5_colours_8 rfl rfl (Nat.le_refl _) (Nat.le_refl _)
def Dr_hasColour_17 (s0 : Int32) (S : Sm) : Int32 := (s0 &&& 1)
set_option maxRecDepth 4000 in
theorem t_Dr_hasColour_17 {V : Sm → Wd} (hV : VwC V) {l : Launch} {Γ : Gm} {s0 : Int32} {S : Sm} {q : Int32} (h : Dr_hasColour_17 s0 S = q) : G mX5_hasColour l Γ (rmD 2 0 0) (mQ Γ (some (.int q)) (V S) 0 0) 0 0 17 [none, none] [.int s0] (V S) := by
  unfold Dr_hasColour_17 at h
  subst h
  exact g_iret (pc := 17) dX5_hasColour_17 rfl rfl (Nat.le_refl _) (Nat.le_refl _)
def Dr_hasColour_16 (S : Sm) : Int32 := (Dr_hasColour_17 0 S)
set_option maxRecDepth 4000 in
theorem t_Dr_hasColour_16 {V : Sm → Wd} (hV : VwC V) {l : Launch} {Γ : Gm}  {S : Sm} {q : Int32} (h : Dr_hasColour_16 S = q) : G mX5_hasColour l Γ (rmD 2 0 0) (mQ Γ (some (.int q)) (V S) 0 0) 0 0 16 [none, none] [] (V S) := by
  unfold Dr_hasColour_16 at h
  refine g_iconst (v := 0) (pc := 16) dX5_hasColour_16 (by decide) ?_
  exact t_Dr_hasColour_17 hV h
def Dr_hasColour (v1 : Int32) (S : Sm) : Int32 := (if v1 < 0 then (Dr_hasColour_16 S) else (if (Dr_colours S) ≤ v1 then (Dr_hasColour_16 S) else (Dr_hasColour_17 1 S)))
set_option maxRecDepth 4000 in
theorem r_Dr_hasColour {V : Sm → Wd} (hV : VwC V) {v1 : Int32} {S : Sm} {q : Int32} (h : Dr_hasColour v1 S = q) : Runs 2 mX5_hasColour [.ref 14, .int v1] (V S) (some (.int q)) (V S) 0 0 := by
  unfold Dr_hasColour at h
  refine Runs.of2 [some (.ref 14), some (.int v1)] 0 rfl rfl (Nat.le_of_ble_eq_true rfl) (fun l Γ => ?_)
  refine g_iload_n (pc := 0) dX5_hasColour_0 rfl ?_
  refine g_if_lt (tgt := 16) (pc := 1) dX5_hasColour_1 (by decide) (fun c2 => ?_) (fun c2 => ?_)
  · rw [if_pos c2] at h
    refine g_wk [false, false] rfl ?_
    exact t_Dr_hasColour_16 hV h
  · rw [if_neg c2] at h
    refine g_iload_n (pc := 4) dX5_hasColour_4 rfl ?_
    refine g_aload_n (pc := 5) dX5_hasColour_5 rfl ?_
    refine v_callVi hV (Mc := mX5_colours) (v := Dr_colours S) (S1 := S) (As := []) (rest := [.int v1]) (q := (RX5, TX5, 3)) (pc := 6) dX5_hasColour_6 mK_X5_50 mf_X5_colours rfl k0_14 rfl rfl rfl (Nat.le_of_ble_eq_true rfl) ⟨Nat.le_of_ble_eq_true rfl, Nat.le_of_ble_eq_true rfl⟩ (r_Dr_colours hV rfl) ?_
    refine g_icmp_ge (tgt := 16) (pc := 9) dX5_hasColour_9 (by decide) (fun c1 => ?_) (fun c1 => ?_)
    · rw [if_pos c1] at h
      refine g_wk [false, false] rfl ?_
      exact t_Dr_hasColour_16 hV h
    · rw [if_neg c1] at h
      refine g_iconst (v := 1) (pc := 12) dX5_hasColour_12 (by decide) ?_
      refine g_goto (tgt := 17) (pc := 13) dX5_hasColour_13 (by decide) ?_
      refine g_wk [false, false] rfl ?_
      exact t_Dr_hasColour_17 hV h
def hd_Dr_areTunnelsSound_L7 (V : Sm → Wd) (l : Launch) (Γ : Gm) (rF : Option Value) (wF : Wd) (S : Sm) (q : Int64 × Int32 × Int32) : Prop := G mX5_areTunnelsSound l Γ (rmD 3 0 0) (mQ Γ rF wF 0 0) 0 0 7 [some (.ref 14), some (.long q.1), none, some (.int q.2.1), some (.int q.2.2), none, none, none] [] (V S)
def ps_Dr_areTunnelsSound_L7 (V : Sm → Wd) (l : Launch) (Γ : Gm) (rF : Option Value) (wF : Wd) (S : Sm) (x : (Unit) ⊕ ((Unit) ⊕ (Int32))) : Prop := (Sum.elim (fun (a : Unit) => G mX5_areTunnelsSound l Γ (rmD 3 0 0) (mQ Γ rF wF 0 0) 0 0 76 [none, none, none, none, none, none, none, none] [] (V S)) (Sum.elim (fun (a : Unit) => G mX5_areTunnelsSound l Γ (rmD 3 0 0) (mQ Γ rF wF 0 0) 0 0 94 [none, none, none, none, none, none, none, none] [] (V S)) (fun (a : Int32) => G mX5_areTunnelsSound l Γ (rmD 3 0 0) (mQ Γ rF wF 0 0) 0 0 122 [none, none, none, some (.int a), none, none, none, none] [] (V S)))) x
def Dr_areTunnelsSound_114_L7 (v1 : Int64) (v4 : Int32) (s0 : Int32) (s1 : Int32) (S : Sm) : Option ((Int64 × Int32 × Int32) ⊕ ((Unit) ⊕ ((Unit) ⊕ (Int32)))) := (some (.inl (v1, s0 + s1, v4 + 1)))
set_option maxRecDepth 4000 in
theorem t_Dr_areTunnelsSound_114_L7 {V : Sm → Wd} (hV : VwC V) {l : Launch} {Γ : Gm} {v1 : Int64} {v4 : Int32} {s0 : Int32} {s1 : Int32} {rF : Option Value} {wF : Wd} {S : Sm} {o : (Int64 × Int32 × Int32) ⊕ ((Unit) ⊕ ((Unit) ⊕ (Int32)))} (h : Dr_areTunnelsSound_114_L7 v1 v4 s0 s1 S = some o) (hK : Sum.elim (hd_Dr_areTunnelsSound_L7 V l Γ rF wF S) (ps_Dr_areTunnelsSound_L7 V l Γ rF wF S) o) : G mX5_areTunnelsSound l Γ (rmD 3 0 0) (mQ Γ rF wF 0 0) 0 0 114 [some (.ref 14), some (.long v1), none, none, some (.int v4), none, none, none] [.int s1, .int s0] (V S) := by
  unfold Dr_areTunnelsSound_114_L7 at h
  refine g_iadd (pc := 114) dX5_areTunnelsSound_114 ?_
  refine g_istore_n (ls1 := [some (.ref 14), some (.long v1), none, some (.int (s0 + s1)), some (.int v4), none, none, none]) (pc := 115) dX5_areTunnelsSound_115 (by decide) rfl ?_
  refine g_iinc (v := v4 + 1) (ls1 := [some (.ref 14), some (.long v1), none, some (.int (s0 + s1)), some (.int (v4 + 1)), none, none, none]) (pc := 116) dX5_areTunnelsSound_116 rfl rfl (by decide) rfl ?_
  refine g_goto (tgt := 7) (pc := 119) dX5_areTunnelsSound_119 (by decide) ?_
  cases h
  exact hK
def Dr_areTunnelsSound_96_L7 (v1 : Int64) (v3 : Int32) (v4 : Int32) (v5 : Int32) (v6 : Int64) (S : Sm) : Option ((Int64 × Int32 × Int32) ⊕ ((Unit) ⊕ ((Unit) ⊕ (Int32)))) := (if v5 = 8 then (Dr_areTunnelsSound_114_L7 (v1 ||| v6) v4 v3 1 S) else (Dr_areTunnelsSound_114_L7 (v1 ||| v6) v4 v3 0 S))
set_option maxRecDepth 4000 in
theorem t_Dr_areTunnelsSound_96_L7 {V : Sm → Wd} (hV : VwC V) {l : Launch} {Γ : Gm} {v1 : Int64} {v3 : Int32} {v4 : Int32} {v5 : Int32} {v6 : Int64} {rF : Option Value} {wF : Wd} {S : Sm} {o : (Int64 × Int32 × Int32) ⊕ ((Unit) ⊕ ((Unit) ⊕ (Int32)))} (h : Dr_areTunnelsSound_96_L7 v1 v3 v4 v5 v6 S = some o) (hK : Sum.elim (hd_Dr_areTunnelsSound_L7 V l Γ rF wF S) (ps_Dr_areTunnelsSound_L7 V l Γ rF wF S) o) : G mX5_areTunnelsSound l Γ (rmD 3 0 0) (mQ Γ rF wF 0 0) 0 0 96 [some (.ref 14), some (.long v1), none, some (.int v3), some (.int v4), some (.int v5), some (.long v6), none] [] (V S) := by
  unfold Dr_areTunnelsSound_96_L7 at h
  refine g_lload_n (pc := 96) dX5_areTunnelsSound_96 rfl ?_
  refine g_lload (pc := 97) dX5_areTunnelsSound_97 rfl ?_
  refine g_lor (pc := 99) dX5_areTunnelsSound_99 ?_
  refine g_lstore_n (ls1 := [some (.ref 14), some (.long (v1 ||| v6)), none, some (.int v3), some (.int v4), some (.int v5), some (.long v6), none]) (pc := 100) dX5_areTunnelsSound_100 (by decide) rfl ?_
  refine g_iload_n (pc := 101) dX5_areTunnelsSound_101 rfl ?_
  refine g_iload (pc := 102) dX5_areTunnelsSound_102 rfl ?_
  refine g_bipush (v := 8) (pc := 104) dX5_areTunnelsSound_104 (by decide) ?_
  refine g_icmp_ne (tgt := 113) (pc := 106) dX5_areTunnelsSound_106 (by decide) (fun c1 => ?_) (fun c1 => ?_)
  · rw [if_neg c1] at h
    refine g_iconst (v := 0) (pc := 113) dX5_areTunnelsSound_113 (by decide) ?_
    refine g_wk [true, true, false, false, true, false, false, false] rfl ?_
    exact t_Dr_areTunnelsSound_114_L7 hV h hK
  · rw [if_pos c1] at h
    refine g_iconst (v := 1) (pc := 109) dX5_areTunnelsSound_109 (by decide) ?_
    refine g_goto (tgt := 114) (pc := 110) dX5_areTunnelsSound_110 (by decide) ?_
    refine g_wk [true, true, false, false, true, false, false, false] rfl ?_
    exact t_Dr_areTunnelsSound_114_L7 hV h hK
def Dr_areTunnelsSound_L7 (S : Sm) (q : Int64 × Int32 × Int32) : Option ((Int64 × Int32 × Int32) ⊕ ((Unit) ⊕ ((Unit) ⊕ (Int32)))) := (if (Dr_many 1 S) ≤ q.2.2 then (some (.inr (.inr (.inr q.2.1)))) else (if (Dr_hasMouth (Dr_item 1 q.2.2 0 S) S) = 0 then (some (.inr (.inl ()))) else (if (Dr_hasColour (Dr_item 1 q.2.2 1 S) S) = 0 then (some (.inr (.inl ()))) else (if (lg_cmp (q.1 &&& (lShl 1 (Dr_darkOfTunnel q.2.2 S))) 0) = 0 then (if (Dr_item 1 q.2.2 2 S) = 8 then (Dr_areTunnelsSound_96_L7 q.1 q.2.1 q.2.2 (Dr_item 1 q.2.2 2 S) (lShl 1 (Dr_darkOfTunnel q.2.2 S)) S) else (if (Dr_hasMouth (Dr_item 1 q.2.2 2 S) S) = 0 then (some (.inr (.inr (.inl ())))) else (Dr_areTunnelsSound_96_L7 q.1 q.2.1 q.2.2 (Dr_item 1 q.2.2 2 S) (lShl 1 (Dr_darkOfTunnel q.2.2 S)) S))) else (some (.inr (.inl ())))))))
set_option maxRecDepth 4000 in
theorem t_Dr_areTunnelsSound_L7 {V : Sm → Wd} (hV : VwC V) {l : Launch} {Γ : Gm} {rF : Option Value} {wF : Wd} {S : Sm} {q : Int64 × Int32 × Int32} {o : (Int64 × Int32 × Int32) ⊕ ((Unit) ⊕ ((Unit) ⊕ (Int32)))} (h : Dr_areTunnelsSound_L7 S q = some o) (hK : Sum.elim (hd_Dr_areTunnelsSound_L7 V l Γ rF wF S) (ps_Dr_areTunnelsSound_L7 V l Γ rF wF S) o) : hd_Dr_areTunnelsSound_L7 V l Γ rF wF S q := by
  unfold Dr_areTunnelsSound_L7 at h
  unfold hd_Dr_areTunnelsSound_L7
  refine g_iload (pc := 7) dX5_areTunnelsSound_7 rfl ?_
  refine g_aload_n (pc := 9) dX5_areTunnelsSound_9 rfl ?_
  refine g_iconst (v := 1) (pc := 10) dX5_areTunnelsSound_10 (by decide) ?_
  refine v_callVi hV (Mc := mX5_many) (v := Dr_many 1 S) (S1 := S) (As := [.int 1]) (rest := [.int q.2.2]) (q := (RX5, TX5, 3)) (pc := 11) dX5_areTunnelsSound_11 mK_X5_28 mf_X5_many rfl k0_14 rfl rfl rfl (Nat.le_of_ble_eq_true rfl) ⟨Nat.le_of_ble_eq_true rfl, Nat.le_of_ble_eq_true rfl⟩ (r_Dr_many hV rfl) ?_
  refine g_icmp_ge (tgt := 122) (pc := 14) dX5_areTunnelsSound_14 (by decide) (fun c7 => ?_) (fun c7 => ?_)
  · rw [if_pos c7] at h
    refine g_wk [false, false, false, true, false, false, false, false] rfl ?_
    cases h
    exact hK
  · rw [if_neg c7] at h
    refine g_aload_n (pc := 17) dX5_areTunnelsSound_17 rfl ?_
    refine g_iconst (v := 1) (pc := 18) dX5_areTunnelsSound_18 (by decide) ?_
    refine g_iload (pc := 19) dX5_areTunnelsSound_19 rfl ?_
    refine g_iconst (v := 2) (pc := 21) dX5_areTunnelsSound_21 (by decide) ?_
    refine v_callVi hV (Mc := mX5_item) (v := Dr_item 1 q.2.2 2 S) (S1 := S) (As := [.int 1, .int q.2.2, .int 2]) (rest := []) (q := (RX5, TX5, 3)) (pc := 22) dX5_areTunnelsSound_22 mK_X5_42 mf_X5_item rfl k0_14 rfl rfl rfl (Nat.le_of_ble_eq_true rfl) ⟨Nat.le_of_ble_eq_true rfl, Nat.le_of_ble_eq_true rfl⟩ (r_Dr_item hV rfl) ?_
    refine g_istore (ls1 := [some (.ref 14), some (.long q.1), none, some (.int q.2.1), some (.int q.2.2), some (.int (Dr_item 1 q.2.2 2 S)), none, none]) (pc := 25) dX5_areTunnelsSound_25 (by decide) rfl ?_
    refine g_lconst (v := 1) (pc := 27) dX5_areTunnelsSound_27 (by decide) ?_
    refine g_aload_n (pc := 28) dX5_areTunnelsSound_28 rfl ?_
    refine g_iload (pc := 29) dX5_areTunnelsSound_29 rfl ?_
    refine v_callVi hV (Mc := mX5_darkOfTunnel) (v := Dr_darkOfTunnel q.2.2 S) (S1 := S) (As := [.int q.2.2]) (rest := [.long 1]) (q := (RX5, TX5, 3)) (pc := 31) dX5_areTunnelsSound_31 mK_X5_39 mf_X5_darkOfTunnel rfl k0_14 rfl rfl rfl (Nat.le_of_ble_eq_true rfl) ⟨Nat.le_of_ble_eq_true rfl, Nat.le_of_ble_eq_true rfl⟩ (r_Dr_darkOfTunnel hV rfl) ?_
    refine g_lshl (pc := 34) dX5_areTunnelsSound_34 ?_
    refine g_lstore (ls1 := [some (.ref 14), some (.long q.1), none, some (.int q.2.1), some (.int q.2.2), some (.int (Dr_item 1 q.2.2 2 S)), some (.long (lShl 1 (Dr_darkOfTunnel q.2.2 S))), none]) (pc := 35) dX5_areTunnelsSound_35 (by decide) rfl ?_
    refine g_aload_n (pc := 37) dX5_areTunnelsSound_37 rfl ?_
    refine g_aload_n (pc := 38) dX5_areTunnelsSound_38 rfl ?_
    refine g_iconst (v := 1) (pc := 39) dX5_areTunnelsSound_39 (by decide) ?_
    refine g_iload (pc := 40) dX5_areTunnelsSound_40 rfl ?_
    refine g_iconst (v := 0) (pc := 42) dX5_areTunnelsSound_42 (by decide) ?_
    refine v_callVi hV (Mc := mX5_item) (v := Dr_item 1 q.2.2 0 S) (S1 := S) (As := [.int 1, .int q.2.2, .int 0]) (rest := [.ref 14]) (q := (RX5, TX5, 3)) (pc := 43) dX5_areTunnelsSound_43 mK_X5_42 mf_X5_item rfl k0_14 rfl rfl rfl (Nat.le_of_ble_eq_true rfl) ⟨Nat.le_of_ble_eq_true rfl, Nat.le_of_ble_eq_true rfl⟩ (r_Dr_item hV rfl) ?_
    refine v_callVi hV (Mc := mX5_hasMouth) (v := Dr_hasMouth (Dr_item 1 q.2.2 0 S) S) (S1 := S) (As := [.int (Dr_item 1 q.2.2 0 S)]) (rest := []) (q := (RX5, TX5, 3)) (pc := 46) dX5_areTunnelsSound_46 mK_X5_74 mf_X5_hasMouth rfl k0_14 rfl rfl rfl (Nat.le_of_ble_eq_true rfl) ⟨Nat.le_of_ble_eq_true rfl, Nat.le_of_ble_eq_true rfl⟩ (r_Dr_hasMouth hV rfl) ?_
    refine g_if_eq (tgt := 76) (pc := 49) dX5_areTunnelsSound_49 (by decide) (fun c6 => ?_) (fun c6 => ?_)
    · rw [if_pos c6] at h
      refine g_wk [false, false, false, false, false, false, false, false] rfl ?_
      cases h
      exact hK
    · rw [if_neg c6] at h
      refine g_aload_n (pc := 52) dX5_areTunnelsSound_52 rfl ?_
      refine g_aload_n (pc := 53) dX5_areTunnelsSound_53 rfl ?_
      refine g_iconst (v := 1) (pc := 54) dX5_areTunnelsSound_54 (by decide) ?_
      refine g_iload (pc := 55) dX5_areTunnelsSound_55 rfl ?_
      refine g_iconst (v := 1) (pc := 57) dX5_areTunnelsSound_57 (by decide) ?_
      refine v_callVi hV (Mc := mX5_item) (v := Dr_item 1 q.2.2 1 S) (S1 := S) (As := [.int 1, .int q.2.2, .int 1]) (rest := [.ref 14]) (q := (RX5, TX5, 3)) (pc := 58) dX5_areTunnelsSound_58 mK_X5_42 mf_X5_item rfl k0_14 rfl rfl rfl (Nat.le_of_ble_eq_true rfl) ⟨Nat.le_of_ble_eq_true rfl, Nat.le_of_ble_eq_true rfl⟩ (r_Dr_item hV rfl) ?_
      refine v_callVi hV (Mc := mX5_hasColour) (v := Dr_hasColour (Dr_item 1 q.2.2 1 S) S) (S1 := S) (As := [.int (Dr_item 1 q.2.2 1 S)]) (rest := []) (q := (RX5, TX5, 3)) (pc := 61) dX5_areTunnelsSound_61 mK_X5_53 mf_X5_hasColour rfl k0_14 rfl rfl rfl (Nat.le_of_ble_eq_true rfl) ⟨Nat.le_of_ble_eq_true rfl, Nat.le_of_ble_eq_true rfl⟩ (r_Dr_hasColour hV rfl) ?_
      refine g_if_eq (tgt := 76) (pc := 64) dX5_areTunnelsSound_64 (by decide) (fun c5 => ?_) (fun c5 => ?_)
      · rw [if_pos c5] at h
        refine g_wk [false, false, false, false, false, false, false, false] rfl ?_
        cases h
        exact hK
      · rw [if_neg c5] at h
        refine g_lload_n (pc := 67) dX5_areTunnelsSound_67 rfl ?_
        refine g_lload (pc := 68) dX5_areTunnelsSound_68 rfl ?_
        refine g_land (pc := 70) dX5_areTunnelsSound_70 ?_
        refine g_lconst (v := 0) (pc := 71) dX5_areTunnelsSound_71 (by decide) ?_
        refine g_lcmp (pc := 72) dX5_areTunnelsSound_72 ?_
        refine g_if_eq (tgt := 78) (pc := 73) dX5_areTunnelsSound_73 (by decide) (fun c4 => ?_) (fun c4 => ?_)
        · rw [if_pos c4] at h
          refine g_iload (pc := 78) dX5_areTunnelsSound_78 rfl ?_
          refine g_bipush (v := 8) (pc := 80) dX5_areTunnelsSound_80 (by decide) ?_
          refine g_icmp_eq (tgt := 96) (pc := 82) dX5_areTunnelsSound_82 (by decide) (fun c3 => ?_) (fun c3 => ?_)
          · rw [if_pos c3] at h
            exact t_Dr_areTunnelsSound_96_L7 hV h hK
          · rw [if_neg c3] at h
            refine g_aload_n (pc := 85) dX5_areTunnelsSound_85 rfl ?_
            refine g_iload (pc := 86) dX5_areTunnelsSound_86 rfl ?_
            refine v_callVi hV (Mc := mX5_hasMouth) (v := Dr_hasMouth (Dr_item 1 q.2.2 2 S) S) (S1 := S) (As := [.int (Dr_item 1 q.2.2 2 S)]) (rest := []) (q := (RX5, TX5, 3)) (pc := 88) dX5_areTunnelsSound_88 mK_X5_74 mf_X5_hasMouth rfl k0_14 rfl rfl rfl (Nat.le_of_ble_eq_true rfl) ⟨Nat.le_of_ble_eq_true rfl, Nat.le_of_ble_eq_true rfl⟩ (r_Dr_hasMouth hV rfl) ?_
            refine g_if_ne (tgt := 96) (pc := 91) dX5_areTunnelsSound_91 (by decide) (fun c2 => ?_) (fun c2 => ?_)
            · rw [if_neg c2] at h
              exact t_Dr_areTunnelsSound_96_L7 hV h hK
            · rw [if_pos c2] at h
              refine g_wk [false, false, false, false, false, false, false, false] rfl ?_
              cases h
              exact hK
        · rw [if_neg c4] at h
          refine g_wk [false, false, false, false, false, false, false, false] rfl ?_
          cases h
          exact hK
set_option maxRecDepth 4000 in
theorem w_Dr_areTunnelsSound_L7 {V : Sm → Wd} (hV : VwC V) {l : Launch} {Γ : Gm} {rF : Option Value} {wF : Wd} {S : Sm} {k : Nat} {q : Int64 × Int32 × Int32} {o : (Unit) ⊕ ((Unit) ⊕ (Int32))} (h : lpN (Dr_areTunnelsSound_L7 S) k q = some o) (hP : ps_Dr_areTunnelsSound_L7 V l Γ rF wF S o) : hd_Dr_areTunnelsSound_L7 V l Γ rF wF S q := lpN_ind2 (hd_Dr_areTunnelsSound_L7 V l Γ rF wF S) (ps_Dr_areTunnelsSound_L7 V l Γ rF wF S) (fun s o h hK => t_Dr_areTunnelsSound_L7 hV h hK) k q o h hP
def Dr_areTunnelsSound_132 (s0 : Int32) (S : Sm) : Option (Int32) := (some (s0 &&& 1))
set_option maxRecDepth 4000 in
theorem t_Dr_areTunnelsSound_132 {V : Sm → Wd} (hV : VwC V) {l : Launch} {Γ : Gm} {s0 : Int32} {S : Sm} {q : Int32} (h : Dr_areTunnelsSound_132 s0 S = some q) : G mX5_areTunnelsSound l Γ (rmD 3 0 0) (mQ Γ (some (.int q)) (V S) 0 0) 0 0 132 [none, none, none, none, none, none, none, none] [.int s0] (V S) := by
  unfold Dr_areTunnelsSound_132 at h
  cases h
  exact g_iret (pc := 132) dX5_areTunnelsSound_132 rfl rfl (Nat.le_refl _) (Nat.le_refl _)
def Dr_areTunnelsSound (S : Sm) : Option (Int32) := ((lpN (Dr_areTunnelsSound_L7 S) FU (0, 0, 0)).bind fun q8 => (Sum.elim (fun a9 => (some 0)) (fun a10 => (Sum.elim (fun a11 => (some 0)) (fun a12 => (if (4 : Int32) < a12 then (Dr_areTunnelsSound_132 0 S) else (Dr_areTunnelsSound_132 1 S))) a10)) q8))
set_option maxRecDepth 4000 in
theorem r_Dr_areTunnelsSound {V : Sm → Wd} (hV : VwC V)  {S : Sm} {q : Int32} (h : Dr_areTunnelsSound S = some q) : Runs 3 mX5_areTunnelsSound [.ref 14] (V S) (some (.int q)) (V S) 0 0 := by
  unfold Dr_areTunnelsSound at h
  refine Runs.of2 [some (.ref 14), none, none, none, none, none, none, none] 7 rfl rfl (Nat.le_of_ble_eq_true rfl) (fun l Γ => ?_)
  refine g_lconst (v := 0) (pc := 0) dX5_areTunnelsSound_0 (by decide) ?_
  refine g_lstore_n (ls1 := [some (.ref 14), some (.long 0), none, none, none, none, none, none]) (pc := 1) dX5_areTunnelsSound_1 (by decide) rfl ?_
  refine g_iconst (v := 0) (pc := 2) dX5_areTunnelsSound_2 (by decide) ?_
  refine g_istore_n (ls1 := [some (.ref 14), some (.long 0), none, some (.int 0), none, none, none, none]) (pc := 3) dX5_areTunnelsSound_3 (by decide) rfl ?_
  refine g_iconst (v := 0) (pc := 4) dX5_areTunnelsSound_4 (by decide) ?_
  refine g_istore (ls1 := [some (.ref 14), some (.long 0), none, some (.int 0), some (.int 0), none, none, none]) (pc := 5) dX5_areTunnelsSound_5 (by decide) rfl ?_
  obtain ⟨q8, hqq8, h⟩ := bnd h
  refine w_Dr_areTunnelsSound_L7 hV hqq8 ?_
  unfold ps_Dr_areTunnelsSound_L7
  cases q8 with
  | inl a9 =>
    simp only [Sum.elim_inl] at h
    show G _ _ _ _ _ _ _ _ _ _ _
    refine g_iconst (v := 0) (pc := 76) dX5_areTunnelsSound_76 (by decide) ?_
    cases h
    exact g_iret (u := 0) (pc := 77) dX5_areTunnelsSound_77 rfl (by decide) (Nat.le_refl _) (Nat.le_refl _)
  | inr a10 =>
    simp only [Sum.elim_inr] at h
    cases a10 with
    | inl a11 =>
      simp only [Sum.elim_inl] at h
      show G _ _ _ _ _ _ _ _ _ _ _
      refine g_iconst (v := 0) (pc := 94) dX5_areTunnelsSound_94 (by decide) ?_
      cases h
      exact g_iret (u := 0) (pc := 95) dX5_areTunnelsSound_95 rfl (by decide) (Nat.le_refl _) (Nat.le_refl _)
    | inr a12 =>
      simp only [Sum.elim_inr] at h
      show G _ _ _ _ _ _ _ _ _ _ _
      refine g_iload_n (pc := 122) dX5_areTunnelsSound_122 rfl ?_
      refine g_iconst (v := 4) (pc := 123) dX5_areTunnelsSound_123 (by decide) ?_
      refine g_icmp_gt (tgt := 131) (pc := 124) dX5_areTunnelsSound_124 (by decide) (fun c13 => ?_) (fun c13 => ?_)
      · rw [if_pos c13] at h
        refine g_iconst (v := 0) (pc := 131) dX5_areTunnelsSound_131 (by decide) ?_
        refine g_wk [false, false, false, false, false, false, false, false] rfl ?_
        exact t_Dr_areTunnelsSound_132 hV h
      · rw [if_neg c13] at h
        refine g_iconst (v := 1) (pc := 127) dX5_areTunnelsSound_127 (by decide) ?_
        refine g_goto (tgt := 132) (pc := 128) dX5_areTunnelsSound_128 (by decide) ?_
        refine g_wk [false, false, false, false, false, false, false, false] rfl ?_
        exact t_Dr_areTunnelsSound_132 hV h
def Dr_hasLamp_18 (s0 : Int32) (S : Sm) : Int32 := (s0 &&& 1)
set_option maxRecDepth 4000 in
theorem t_Dr_hasLamp_18 {V : Sm → Wd} (hV : VwC V) {l : Launch} {Γ : Gm} {s0 : Int32} {S : Sm} {q : Int32} (h : Dr_hasLamp_18 s0 S = q) : G mX5_hasLamp l Γ (rmD 3 0 0) (mQ Γ (some (.int q)) (V S) 0 0) 0 0 18 [none, none] [.int s0] (V S) := by
  unfold Dr_hasLamp_18 at h
  subst h
  exact g_iret (pc := 18) dX5_hasLamp_18 rfl rfl (Nat.le_refl _) (Nat.le_refl _)
def Dr_hasLamp_13 (S : Sm) : Int32 := (Dr_hasLamp_18 1 S)
set_option maxRecDepth 4000 in
theorem t_Dr_hasLamp_13 {V : Sm → Wd} (hV : VwC V) {l : Launch} {Γ : Gm}  {S : Sm} {q : Int32} (h : Dr_hasLamp_13 S = q) : G mX5_hasLamp l Γ (rmD 3 0 0) (mQ Γ (some (.int q)) (V S) 0 0) 0 0 13 [none, none] [] (V S) := by
  unfold Dr_hasLamp_13 at h
  refine g_iconst (v := 1) (pc := 13) dX5_hasLamp_13 (by decide) ?_
  refine g_goto (tgt := 18) (pc := 14) dX5_hasLamp_14 (by decide) ?_
  exact t_Dr_hasLamp_18 hV h
def Dr_hasLamp (v1 : Int32) (S : Sm) : Int32 := (if v1 = 5 then (Dr_hasLamp_13 S) else (if (Dr_hasColour v1 S) = 0 then (Dr_hasLamp_18 0 S) else (Dr_hasLamp_13 S)))
set_option maxRecDepth 4000 in
theorem r_Dr_hasLamp {V : Sm → Wd} (hV : VwC V) {v1 : Int32} {S : Sm} {q : Int32} (h : Dr_hasLamp v1 S = q) : Runs 3 mX5_hasLamp [.ref 14, .int v1] (V S) (some (.int q)) (V S) 0 0 := by
  unfold Dr_hasLamp at h
  refine Runs.of2 [some (.ref 14), some (.int v1)] 0 rfl rfl (Nat.le_of_ble_eq_true rfl) (fun l Γ => ?_)
  refine g_iload_n (pc := 0) dX5_hasLamp_0 rfl ?_
  refine g_iconst (v := 5) (pc := 1) dX5_hasLamp_1 (by decide) ?_
  refine g_icmp_eq (tgt := 13) (pc := 2) dX5_hasLamp_2 (by decide) (fun c2 => ?_) (fun c2 => ?_)
  · rw [if_pos c2] at h
    refine g_wk [false, false] rfl ?_
    exact t_Dr_hasLamp_13 hV h
  · rw [if_neg c2] at h
    refine g_aload_n (pc := 5) dX5_hasLamp_5 rfl ?_
    refine g_iload_n (pc := 6) dX5_hasLamp_6 rfl ?_
    refine v_callVi hV (Mc := mX5_hasColour) (v := Dr_hasColour v1 S) (S1 := S) (As := [.int v1]) (rest := []) (q := (RX5, TX5, 3)) (pc := 7) dX5_hasLamp_7 mK_X5_53 mf_X5_hasColour rfl k0_14 rfl rfl rfl (Nat.le_of_ble_eq_true rfl) ⟨Nat.le_of_ble_eq_true rfl, Nat.le_of_ble_eq_true rfl⟩ (r_Dr_hasColour hV rfl) ?_
    refine g_if_eq (tgt := 17) (pc := 10) dX5_hasLamp_10 (by decide) (fun c1 => ?_) (fun c1 => ?_)
    · rw [if_pos c1] at h
      refine g_iconst (v := 0) (pc := 17) dX5_hasLamp_17 (by decide) ?_
      refine g_wk [false, false] rfl ?_
      exact t_Dr_hasLamp_18 hV h
    · rw [if_neg c1] at h
      refine g_wk [false, false] rfl ?_
      exact t_Dr_hasLamp_13 hV h
def hd_Dr_areTrainsSound_L2 (V : Sm → Wd) (l : Launch) (Γ : Gm) (rF : Option Value) (wF : Wd) (S : Sm) (q : Int32) : Prop := G mX5_areTrainsSound l Γ (rmD 4 0 0) (mQ Γ rF wF 0 0) 0 0 2 [some (.ref 14), some (.int q)] [] (V S)
def ps_Dr_areTrainsSound_L2 (V : Sm → Wd) (l : Launch) (Γ : Gm) (rF : Option Value) (wF : Wd) (S : Sm) (x : (Unit) ⊕ (Unit)) : Prop := (Sum.elim (fun (a : Unit) => G mX5_areTrainsSound l Γ (rmD 4 0 0) (mQ Γ rF wF 0 0) 0 0 39 [none, none] [] (V S)) (fun (a : Unit) => G mX5_areTrainsSound l Γ (rmD 4 0 0) (mQ Γ rF wF 0 0) 0 0 47 [none, none] [] (V S))) x
def Dr_areTrainsSound_L2 (S : Sm) (q : Int32) : Option ((Int32) ⊕ ((Unit) ⊕ (Unit))) := (if (Dr_many 2 S) ≤ q then (some (.inr (.inr ()))) else (if (Dr_hasMouth (Dr_item 2 q 0 S) S) = 0 then (some (.inr (.inl ()))) else (if (Dr_hasLamp (Dr_item 2 q 1 S) S) = 0 then (some (.inr (.inl ()))) else (some (.inl (q + 1))))))
set_option maxRecDepth 4000 in
theorem t_Dr_areTrainsSound_L2 {V : Sm → Wd} (hV : VwC V) {l : Launch} {Γ : Gm} {rF : Option Value} {wF : Wd} {S : Sm} {q : Int32} {o : (Int32) ⊕ ((Unit) ⊕ (Unit))} (h : Dr_areTrainsSound_L2 S q = some o) (hK : Sum.elim (hd_Dr_areTrainsSound_L2 V l Γ rF wF S) (ps_Dr_areTrainsSound_L2 V l Γ rF wF S) o) : hd_Dr_areTrainsSound_L2 V l Γ rF wF S q := by
  unfold Dr_areTrainsSound_L2 at h
  unfold hd_Dr_areTrainsSound_L2
  refine g_iload_n (pc := 2) dX5_areTrainsSound_2 rfl ?_
  refine g_aload_n (pc := 3) dX5_areTrainsSound_3 rfl ?_
  refine g_iconst (v := 2) (pc := 4) dX5_areTrainsSound_4 (by decide) ?_
  refine v_callVi hV (Mc := mX5_many) (v := Dr_many 2 S) (S1 := S) (As := [.int 2]) (rest := [.int q]) (q := (RX5, TX5, 3)) (pc := 5) dX5_areTrainsSound_5 mK_X5_28 mf_X5_many rfl k0_14 rfl rfl rfl (Nat.le_of_ble_eq_true rfl) ⟨Nat.le_of_ble_eq_true rfl, Nat.le_of_ble_eq_true rfl⟩ (r_Dr_many hV rfl) ?_
  refine g_icmp_ge (tgt := 47) (pc := 8) dX5_areTrainsSound_8 (by decide) (fun c3 => ?_) (fun c3 => ?_)
  · rw [if_pos c3] at h
    refine g_wk [false, false] rfl ?_
    cases h
    exact hK
  · rw [if_neg c3] at h
    refine g_aload_n (pc := 11) dX5_areTrainsSound_11 rfl ?_
    refine g_aload_n (pc := 12) dX5_areTrainsSound_12 rfl ?_
    refine g_iconst (v := 2) (pc := 13) dX5_areTrainsSound_13 (by decide) ?_
    refine g_iload_n (pc := 14) dX5_areTrainsSound_14 rfl ?_
    refine g_iconst (v := 0) (pc := 15) dX5_areTrainsSound_15 (by decide) ?_
    refine v_callVi hV (Mc := mX5_item) (v := Dr_item 2 q 0 S) (S1 := S) (As := [.int 2, .int q, .int 0]) (rest := [.ref 14]) (q := (RX5, TX5, 3)) (pc := 16) dX5_areTrainsSound_16 mK_X5_42 mf_X5_item rfl k0_14 rfl rfl rfl (Nat.le_of_ble_eq_true rfl) ⟨Nat.le_of_ble_eq_true rfl, Nat.le_of_ble_eq_true rfl⟩ (r_Dr_item hV rfl) ?_
    refine v_callVi hV (Mc := mX5_hasMouth) (v := Dr_hasMouth (Dr_item 2 q 0 S) S) (S1 := S) (As := [.int (Dr_item 2 q 0 S)]) (rest := []) (q := (RX5, TX5, 3)) (pc := 19) dX5_areTrainsSound_19 mK_X5_74 mf_X5_hasMouth rfl k0_14 rfl rfl rfl (Nat.le_of_ble_eq_true rfl) ⟨Nat.le_of_ble_eq_true rfl, Nat.le_of_ble_eq_true rfl⟩ (r_Dr_hasMouth hV rfl) ?_
    refine g_if_eq (tgt := 39) (pc := 22) dX5_areTrainsSound_22 (by decide) (fun c2 => ?_) (fun c2 => ?_)
    · rw [if_pos c2] at h
      refine g_wk [false, false] rfl ?_
      cases h
      exact hK
    · rw [if_neg c2] at h
      refine g_aload_n (pc := 25) dX5_areTrainsSound_25 rfl ?_
      refine g_aload_n (pc := 26) dX5_areTrainsSound_26 rfl ?_
      refine g_iconst (v := 2) (pc := 27) dX5_areTrainsSound_27 (by decide) ?_
      refine g_iload_n (pc := 28) dX5_areTrainsSound_28 rfl ?_
      refine g_iconst (v := 1) (pc := 29) dX5_areTrainsSound_29 (by decide) ?_
      refine v_callVi hV (Mc := mX5_item) (v := Dr_item 2 q 1 S) (S1 := S) (As := [.int 2, .int q, .int 1]) (rest := [.ref 14]) (q := (RX5, TX5, 3)) (pc := 30) dX5_areTrainsSound_30 mK_X5_42 mf_X5_item rfl k0_14 rfl rfl rfl (Nat.le_of_ble_eq_true rfl) ⟨Nat.le_of_ble_eq_true rfl, Nat.le_of_ble_eq_true rfl⟩ (r_Dr_item hV rfl) ?_
      refine v_callVi hV (Mc := mX5_hasLamp) (v := Dr_hasLamp (Dr_item 2 q 1 S) S) (S1 := S) (As := [.int (Dr_item 2 q 1 S)]) (rest := []) (q := (RX5, TX5, 3)) (pc := 33) dX5_areTrainsSound_33 mK_X5_77 mf_X5_hasLamp rfl k0_14 rfl rfl rfl (Nat.le_of_ble_eq_true rfl) ⟨Nat.le_of_ble_eq_true rfl, Nat.le_of_ble_eq_true rfl⟩ (r_Dr_hasLamp hV rfl) ?_
      refine g_if_ne (tgt := 41) (pc := 36) dX5_areTrainsSound_36 (by decide) (fun c1 => ?_) (fun c1 => ?_)
      · rw [if_neg c1] at h
        refine g_iinc (v := q + 1) (ls1 := [some (.ref 14), some (.int (q + 1))]) (pc := 41) dX5_areTrainsSound_41 rfl rfl (by decide) rfl ?_
        refine g_goto (tgt := 2) (pc := 44) dX5_areTrainsSound_44 (by decide) ?_
        cases h
        exact hK
      · rw [if_pos c1] at h
        refine g_wk [false, false] rfl ?_
        cases h
        exact hK
set_option maxRecDepth 4000 in
theorem w_Dr_areTrainsSound_L2 {V : Sm → Wd} (hV : VwC V) {l : Launch} {Γ : Gm} {rF : Option Value} {wF : Wd} {S : Sm} {k : Nat} {q : Int32} {o : (Unit) ⊕ (Unit)} (h : lpN (Dr_areTrainsSound_L2 S) k q = some o) (hP : ps_Dr_areTrainsSound_L2 V l Γ rF wF S o) : hd_Dr_areTrainsSound_L2 V l Γ rF wF S q := lpN_ind2 (hd_Dr_areTrainsSound_L2 V l Γ rF wF S) (ps_Dr_areTrainsSound_L2 V l Γ rF wF S) (fun s o h hK => t_Dr_areTrainsSound_L2 hV h hK) k q o h hP
def Dr_areTrainsSound (S : Sm) : Option (Int32) := ((lpN (Dr_areTrainsSound_L2 S) FU 0).bind fun q4 => (Sum.elim (fun a5 => (some 0)) (fun a6 => (some 1)) q4))
set_option maxRecDepth 4000 in
theorem r_Dr_areTrainsSound {V : Sm → Wd} (hV : VwC V)  {S : Sm} {q : Int32} (h : Dr_areTrainsSound S = some q) : Runs 4 mX5_areTrainsSound [.ref 14] (V S) (some (.int q)) (V S) 0 0 := by
  unfold Dr_areTrainsSound at h
  refine Runs.of2 [some (.ref 14), none] 1 rfl rfl (Nat.le_of_ble_eq_true rfl) (fun l Γ => ?_)
  refine g_iconst (v := 0) (pc := 0) dX5_areTrainsSound_0 (by decide) ?_
  refine g_istore_n (ls1 := [some (.ref 14), some (.int 0)]) (pc := 1) dX5_areTrainsSound_1 (by decide) rfl ?_
  obtain ⟨q4, hqq4, h⟩ := bnd h
  refine w_Dr_areTrainsSound_L2 hV hqq4 ?_
  unfold ps_Dr_areTrainsSound_L2
  cases q4 with
  | inl a5 =>
    simp only [Sum.elim_inl] at h
    show G _ _ _ _ _ _ _ _ _ _ _
    refine g_iconst (v := 0) (pc := 39) dX5_areTrainsSound_39 (by decide) ?_
    cases h
    exact g_iret (u := 0) (pc := 40) dX5_areTrainsSound_40 rfl (by decide) (Nat.le_refl _) (Nat.le_refl _)
  | inr a6 =>
    simp only [Sum.elim_inr] at h
    show G _ _ _ _ _ _ _ _ _ _ _
    refine g_iconst (v := 1) (pc := 47) dX5_areTrainsSound_47 (by decide) ?_
    cases h
    exact g_iret (u := 1) (pc := 48) dX5_areTrainsSound_48 rfl (by decide) (Nat.le_refl _) (Nat.le_refl _)
def hd_Dr_areGuardsSound_L2 (V : Sm → Wd) (l : Launch) (Γ : Gm) (rF : Option Value) (wF : Wd) (S : Sm) (q : Int32) : Prop := G mX5_areGuardsSound l Γ (rmD 3 0 0) (mQ Γ rF wF 0 0) 0 0 2 [some (.ref 14), some (.int q)] [] (V S)
def ps_Dr_areGuardsSound_L2 (V : Sm → Wd) (l : Launch) (Γ : Gm) (rF : Option Value) (wF : Wd) (S : Sm) (x : (Unit) ⊕ (Unit)) : Prop := (Sum.elim (fun (a : Unit) => G mX5_areGuardsSound l Γ (rmD 3 0 0) (mQ Γ rF wF 0 0) 0 0 25 [none, none] [] (V S)) (fun (a : Unit) => G mX5_areGuardsSound l Γ (rmD 3 0 0) (mQ Γ rF wF 0 0) 0 0 33 [none, none] [] (V S))) x
def Dr_areGuardsSound_L2 (S : Sm) (q : Int32) : Option ((Int32) ⊕ ((Unit) ⊕ (Unit))) := (if (Dr_many 3 S) ≤ q then (some (.inr (.inr ()))) else (if (Dr_hasMouth (Dr_item 3 q 0 S) S) = 0 then (some (.inr (.inl ()))) else (some (.inl (q + 1)))))
set_option maxRecDepth 4000 in
theorem t_Dr_areGuardsSound_L2 {V : Sm → Wd} (hV : VwC V) {l : Launch} {Γ : Gm} {rF : Option Value} {wF : Wd} {S : Sm} {q : Int32} {o : (Int32) ⊕ ((Unit) ⊕ (Unit))} (h : Dr_areGuardsSound_L2 S q = some o) (hK : Sum.elim (hd_Dr_areGuardsSound_L2 V l Γ rF wF S) (ps_Dr_areGuardsSound_L2 V l Γ rF wF S) o) : hd_Dr_areGuardsSound_L2 V l Γ rF wF S q := by
  unfold Dr_areGuardsSound_L2 at h
  unfold hd_Dr_areGuardsSound_L2
  refine g_iload_n (pc := 2) dX5_areGuardsSound_2 rfl ?_
  refine g_aload_n (pc := 3) dX5_areGuardsSound_3 rfl ?_
  refine g_iconst (v := 3) (pc := 4) dX5_areGuardsSound_4 (by decide) ?_
  refine v_callVi hV (Mc := mX5_many) (v := Dr_many 3 S) (S1 := S) (As := [.int 3]) (rest := [.int q]) (q := (RX5, TX5, 3)) (pc := 5) dX5_areGuardsSound_5 mK_X5_28 mf_X5_many rfl k0_14 rfl rfl rfl (Nat.le_of_ble_eq_true rfl) ⟨Nat.le_of_ble_eq_true rfl, Nat.le_of_ble_eq_true rfl⟩ (r_Dr_many hV rfl) ?_
  refine g_icmp_ge (tgt := 33) (pc := 8) dX5_areGuardsSound_8 (by decide) (fun c2 => ?_) (fun c2 => ?_)
  · rw [if_pos c2] at h
    refine g_wk [false, false] rfl ?_
    cases h
    exact hK
  · rw [if_neg c2] at h
    refine g_aload_n (pc := 11) dX5_areGuardsSound_11 rfl ?_
    refine g_aload_n (pc := 12) dX5_areGuardsSound_12 rfl ?_
    refine g_iconst (v := 3) (pc := 13) dX5_areGuardsSound_13 (by decide) ?_
    refine g_iload_n (pc := 14) dX5_areGuardsSound_14 rfl ?_
    refine g_iconst (v := 0) (pc := 15) dX5_areGuardsSound_15 (by decide) ?_
    refine v_callVi hV (Mc := mX5_item) (v := Dr_item 3 q 0 S) (S1 := S) (As := [.int 3, .int q, .int 0]) (rest := [.ref 14]) (q := (RX5, TX5, 3)) (pc := 16) dX5_areGuardsSound_16 mK_X5_42 mf_X5_item rfl k0_14 rfl rfl rfl (Nat.le_of_ble_eq_true rfl) ⟨Nat.le_of_ble_eq_true rfl, Nat.le_of_ble_eq_true rfl⟩ (r_Dr_item hV rfl) ?_
    refine v_callVi hV (Mc := mX5_hasMouth) (v := Dr_hasMouth (Dr_item 3 q 0 S) S) (S1 := S) (As := [.int (Dr_item 3 q 0 S)]) (rest := []) (q := (RX5, TX5, 3)) (pc := 19) dX5_areGuardsSound_19 mK_X5_74 mf_X5_hasMouth rfl k0_14 rfl rfl rfl (Nat.le_of_ble_eq_true rfl) ⟨Nat.le_of_ble_eq_true rfl, Nat.le_of_ble_eq_true rfl⟩ (r_Dr_hasMouth hV rfl) ?_
    refine g_if_ne (tgt := 27) (pc := 22) dX5_areGuardsSound_22 (by decide) (fun c1 => ?_) (fun c1 => ?_)
    · rw [if_neg c1] at h
      refine g_iinc (v := q + 1) (ls1 := [some (.ref 14), some (.int (q + 1))]) (pc := 27) dX5_areGuardsSound_27 rfl rfl (by decide) rfl ?_
      refine g_goto (tgt := 2) (pc := 30) dX5_areGuardsSound_30 (by decide) ?_
      cases h
      exact hK
    · rw [if_pos c1] at h
      refine g_wk [false, false] rfl ?_
      cases h
      exact hK
set_option maxRecDepth 4000 in
theorem w_Dr_areGuardsSound_L2 {V : Sm → Wd} (hV : VwC V) {l : Launch} {Γ : Gm} {rF : Option Value} {wF : Wd} {S : Sm} {k : Nat} {q : Int32} {o : (Unit) ⊕ (Unit)} (h : lpN (Dr_areGuardsSound_L2 S) k q = some o) (hP : ps_Dr_areGuardsSound_L2 V l Γ rF wF S o) : hd_Dr_areGuardsSound_L2 V l Γ rF wF S q := lpN_ind2 (hd_Dr_areGuardsSound_L2 V l Γ rF wF S) (ps_Dr_areGuardsSound_L2 V l Γ rF wF S) (fun s o h hK => t_Dr_areGuardsSound_L2 hV h hK) k q o h hP
def Dr_areGuardsSound (S : Sm) : Option (Int32) := ((lpN (Dr_areGuardsSound_L2 S) FU 0).bind fun q3 => (Sum.elim (fun a4 => (some 0)) (fun a5 => (some 1)) q3))
set_option maxRecDepth 4000 in
theorem r_Dr_areGuardsSound {V : Sm → Wd} (hV : VwC V)  {S : Sm} {q : Int32} (h : Dr_areGuardsSound S = some q) : Runs 3 mX5_areGuardsSound [.ref 14] (V S) (some (.int q)) (V S) 0 0 := by
  unfold Dr_areGuardsSound at h
  refine Runs.of2 [some (.ref 14), none] 1 rfl rfl (Nat.le_of_ble_eq_true rfl) (fun l Γ => ?_)
  refine g_iconst (v := 0) (pc := 0) dX5_areGuardsSound_0 (by decide) ?_
  refine g_istore_n (ls1 := [some (.ref 14), some (.int 0)]) (pc := 1) dX5_areGuardsSound_1 (by decide) rfl ?_
  obtain ⟨q3, hqq3, h⟩ := bnd h
  refine w_Dr_areGuardsSound_L2 hV hqq3 ?_
  unfold ps_Dr_areGuardsSound_L2
  cases q3 with
  | inl a4 =>
    simp only [Sum.elim_inl] at h
    show G _ _ _ _ _ _ _ _ _ _ _
    refine g_iconst (v := 0) (pc := 25) dX5_areGuardsSound_25 (by decide) ?_
    cases h
    exact g_iret (u := 0) (pc := 26) dX5_areGuardsSound_26 rfl (by decide) (Nat.le_refl _) (Nat.le_refl _)
  | inr a5 =>
    simp only [Sum.elim_inr] at h
    show G _ _ _ _ _ _ _ _ _ _ _
    refine g_iconst (v := 1) (pc := 33) dX5_areGuardsSound_33 (by decide) ?_
    cases h
    exact g_iret (u := 1) (pc := 34) dX5_areGuardsSound_34 rfl (by decide) (Nat.le_refl _) (Nat.le_refl _)
def Dr_isSound_26 (s0 : Int32) (S : Sm) : Option (Int32) := (some (s0 &&& 1))
set_option maxRecDepth 4000 in
theorem t_Dr_isSound_26 {V : Sm → Wd} (hV : VwC V) {l : Launch} {Γ : Gm} {s0 : Int32} {S : Sm} {q : Int32} (h : Dr_isSound_26 s0 S = some q) : G mX5_isSound l Γ (rmD 5 0 0) (mQ Γ (some (.int q)) (V S) 0 0) 0 0 26 [none] [.int s0] (V S) := by
  unfold Dr_isSound_26 at h
  cases h
  exact g_iret (pc := 26) dX5_isSound_26 rfl rfl (Nat.le_refl _) (Nat.le_refl _)
def Dr_isSound_25 (S : Sm) : Option (Int32) := (Dr_isSound_26 0 S)
set_option maxRecDepth 4000 in
theorem t_Dr_isSound_25 {V : Sm → Wd} (hV : VwC V) {l : Launch} {Γ : Gm}  {S : Sm} {q : Int32} (h : Dr_isSound_25 S = some q) : G mX5_isSound l Γ (rmD 5 0 0) (mQ Γ (some (.int q)) (V S) 0 0) 0 0 25 [none] [] (V S) := by
  unfold Dr_isSound_25 at h
  refine g_iconst (v := 0) (pc := 25) dX5_isSound_25 (by decide) ?_
  exact t_Dr_isSound_26 hV h
def Dr_isSound (S : Sm) : Option (Int32) := ((Dr_areTunnelsSound S).bind fun q1 => (if q1 = 0 then (Dr_isSound_25 S) else ((Dr_areTrainsSound S).bind fun q2 => (if q2 = 0 then (Dr_isSound_25 S) else ((Dr_areGuardsSound S).bind fun q3 => (if q3 = 0 then (Dr_isSound_25 S) else (Dr_isSound_26 1 S)))))))
set_option maxRecDepth 4000 in
theorem r_Dr_isSound {V : Sm → Wd} (hV : VwC V)  {S : Sm} {q : Int32} (h : Dr_isSound S = some q) : Runs 5 mX5_isSound [.ref 14] (V S) (some (.int q)) (V S) 0 0 := by
  unfold Dr_isSound at h
  refine Runs.of2 [some (.ref 14)] 0 rfl rfl (Nat.le_of_ble_eq_true rfl) (fun l Γ => ?_)
  refine g_aload_n (pc := 0) dX5_isSound_0 rfl ?_
  obtain ⟨q1, hq1, h⟩ := bnd h
  refine v_callVi hV (Mc := mX5_areTunnelsSound) (v := q1) (S1 := S) (As := []) (rest := []) (q := (RX5, TX5, 3)) (pc := 1) dX5_isSound_1 mK_X5_64 mf_X5_areTunnelsSound rfl k0_14 rfl rfl rfl (Nat.le_of_ble_eq_true rfl) ⟨Nat.le_of_ble_eq_true rfl, Nat.le_of_ble_eq_true rfl⟩ (r_Dr_areTunnelsSound hV hq1) ?_
  refine g_if_eq (tgt := 25) (pc := 4) dX5_isSound_4 (by decide) (fun c6 => ?_) (fun c6 => ?_)
  · rw [if_pos c6] at h
    refine g_wk [false] rfl ?_
    exact t_Dr_isSound_25 hV h
  · rw [if_neg c6] at h
    refine g_aload_n (pc := 7) dX5_isSound_7 rfl ?_
    obtain ⟨q2, hq2, h⟩ := bnd h
    refine v_callVi hV (Mc := mX5_areTrainsSound) (v := q2) (S1 := S) (As := []) (rest := []) (q := (RX5, TX5, 3)) (pc := 8) dX5_isSound_8 mK_X5_68 mf_X5_areTrainsSound rfl k0_14 rfl rfl rfl (Nat.le_of_ble_eq_true rfl) ⟨Nat.le_of_ble_eq_true rfl, Nat.le_of_ble_eq_true rfl⟩ (r_Dr_areTrainsSound hV hq2) ?_
    refine g_if_eq (tgt := 25) (pc := 11) dX5_isSound_11 (by decide) (fun c5 => ?_) (fun c5 => ?_)
    · rw [if_pos c5] at h
      refine g_wk [false] rfl ?_
      exact t_Dr_isSound_25 hV h
    · rw [if_neg c5] at h
      refine g_aload_n (pc := 14) dX5_isSound_14 rfl ?_
      obtain ⟨q3, hq3, h⟩ := bnd h
      refine v_callVi hV (Mc := mX5_areGuardsSound) (v := q3) (S1 := S) (As := []) (rest := []) (q := (RX5, TX5, 3)) (pc := 15) dX5_isSound_15 mK_X5_71 mf_X5_areGuardsSound rfl k0_14 rfl rfl rfl (Nat.le_of_ble_eq_true rfl) ⟨Nat.le_of_ble_eq_true rfl, Nat.le_of_ble_eq_true rfl⟩ (r_Dr_areGuardsSound hV hq3) ?_
      refine g_if_eq (tgt := 25) (pc := 18) dX5_isSound_18 (by decide) (fun c4 => ?_) (fun c4 => ?_)
      · rw [if_pos c4] at h
        refine g_wk [false] rfl ?_
        exact t_Dr_isSound_25 hV h
      · rw [if_neg c4] at h
        refine g_iconst (v := 1) (pc := 21) dX5_isSound_21 (by decide) ?_
        refine g_goto (tgt := 26) (pc := 22) dX5_isSound_22 (by decide) ?_
        refine g_wk [false] rfl ?_
        exact t_Dr_isSound_26 hV h
def Tp_failAtEnd_16 (S : Sm) : Sm := S
set_option maxRecDepth 4000 in
theorem t_Tp_failAtEnd_16 {V : Sm → Wd} (hV : VwC V) {l : Launch} {Γ : Gm}  {S : Sm} {q : Sm} (h : Tp_failAtEnd_16 S = q) : G mX9_failAtEnd l Γ (rmD 0 0 0) (mQ Γ none (V q) 0 0) 0 0 16 [none] [] (V S) := by
  unfold Tp_failAtEnd_16 at h
  subst h
  exact g_vret (pc := 16) dX9_failAtEnd_16 rfl (Nat.le_refl _) (Nat.le_refl _)
def Tp_failAtEnd (S : Sm) : Sm := (if (gi S 8 3) = ((-1)) then (Tp_failAtEnd_16 (si S 8 3 (gi S 8 1))) else (Tp_failAtEnd_16 S))
set_option maxRecDepth 4000 in
theorem r_Tp_failAtEnd {V : Sm → Wd} (hV : VwC V)  {S : Sm} {q : Sm} (h : Tp_failAtEnd S = q) : Runs 0 mX9_failAtEnd [.ref 8] (V S) none (V q) 0 0 := by
  unfold Tp_failAtEnd at h
  refine Runs.of2 [some (.ref 8)] 0 rfl rfl (Nat.le_of_ble_eq_true rfl) (fun l Γ => ?_)
  refine g_aload_n (pc := 0) dX9_failAtEnd_0 rfl ?_
  refine v_getI hV (pc := 1) dX9_failAtEnd_1 fo_9_3 rfl k0_8 own_8 ?_
  refine g_iconst (v := (-1)) (pc := 4) dX9_failAtEnd_4 (by decide) ?_
  refine g_icmp_ne (tgt := 16) (pc := 5) dX9_failAtEnd_5 (by decide) (fun c1 => ?_) (fun c1 => ?_)
  · rw [if_neg c1] at h
    refine g_wk [false] rfl ?_
    exact t_Tp_failAtEnd_16 hV h
  · rw [if_pos c1] at h
    refine g_aload_n (pc := 8) dX9_failAtEnd_8 rfl ?_
    refine g_aload_n (pc := 9) dX9_failAtEnd_9 rfl ?_
    refine v_getI hV (pc := 10) dX9_failAtEnd_10 fo_9_1 rfl k0_8 own_8 ?_
    refine v_putI hV (pc := 13) dX9_failAtEnd_13 fo_9_3 rfl k0_8 own_8 rfl ?_
    refine g_wk [false] rfl ?_
    exact t_Tp_failAtEnd_16 hV h
def hd_Nr_firstFault_L18 (V : Sm → Wd) (l : Launch) (Γ : Gm) (rF : Option Value) (wF : Wd)  (q : Int32 × Int32 × Sm) : Prop := G mX6_firstFault l Γ (rmD 6 0 0) (mQ Γ rF wF 0 0) 0 0 18 [some (.ref 18), some (.int q.1), some (.int q.2.1)] [] (V q.2.2)
def ps_Nr_firstFault_L18 (V : Sm → Wd) (l : Launch) (Γ : Gm) (rF : Option Value) (wF : Wd)  (x : Sm) : Prop := (fun (a : Sm) => G mX6_firstFault l Γ (rmD 6 0 0) (mQ Γ rF wF 0 0) 0 0 47 [some (.ref 18), none, none] [] (V a)) x
def Nr_firstFault_L18 (q : Int32 × Int32 × Sm) : Option ((Int32 × Int32 × Sm) ⊕ (Sm)) := (if (240 : Int32) < q.2.1 then (some (.inr q.2.2)) else (if q.1 = 0 then (some (.inr q.2.2)) else ((Nr_readClause q.2.2).bind fun q3 => ((Tp_goesOn q3).bind fun q4 => (some (.inl (q4.1, q.2.1 + 1, q4.2)))))))
set_option maxRecDepth 4000 in
theorem t_Nr_firstFault_L18 {V : Sm → Wd} (hV : VwC V) {l : Launch} {Γ : Gm} {rF : Option Value} {wF : Wd}  {q : Int32 × Int32 × Sm} {o : (Int32 × Int32 × Sm) ⊕ (Sm)} (h : Nr_firstFault_L18 q = some o) (hK : Sum.elim (hd_Nr_firstFault_L18 V l Γ rF wF) (ps_Nr_firstFault_L18 V l Γ rF wF) o) : hd_Nr_firstFault_L18 V l Γ rF wF q := by
  unfold Nr_firstFault_L18 at h
  unfold hd_Nr_firstFault_L18
  refine g_iload_n (pc := 18) dX6_firstFault_18 rfl ?_
  refine g_sipush (v := 240) (pc := 19) dX6_firstFault_19 (by decide) ?_
  refine g_icmp_gt (tgt := 47) (pc := 22) dX6_firstFault_22 (by decide) (fun c6 => ?_) (fun c6 => ?_)
  · rw [if_pos c6] at h
    refine g_wk [true, false, false] rfl ?_
    cases h
    exact hK
  · rw [if_neg c6] at h
    refine g_iload_n (pc := 25) dX6_firstFault_25 rfl ?_
    refine g_if_eq (tgt := 47) (pc := 26) dX6_firstFault_26 (by decide) (fun c5 => ?_) (fun c5 => ?_)
    · rw [if_pos c5] at h
      refine g_wk [true, false, false] rfl ?_
      cases h
      exact hK
    · rw [if_neg c5] at h
      refine g_aload_n (pc := 29) dX6_firstFault_29 rfl ?_
      obtain ⟨q3, hq3, h⟩ := bnd h
      refine v_callVv hV (Mc := mX6_readClause) (S1 := q3) (As := []) (rest := []) (q := (RX6, TX6, 3)) (pc := 30) dX6_firstFault_30 mK_X6_33 mf_X6_readClause rfl k0_18 rfl rfl rfl (Nat.le_of_ble_eq_true rfl) ⟨Nat.le_of_ble_eq_true rfl, Nat.le_of_ble_eq_true rfl⟩ (r_Nr_readClause hV hq3) ?_
      refine g_aload_n (pc := 33) dX6_firstFault_33 rfl ?_
      refine v_getR hV (pc := 34) dX6_firstFault_34 fo_6_0 rfl k0_18 r0_18_0 ?_
      obtain ⟨q4, hq4, h⟩ := bnd h
      refine v_callVi hV (Mc := mX9_goesOn) (v := q4.1) (S1 := q4.2) (As := []) (rest := []) (q := (RX9, TX9, 4)) (pc := 37) dX6_firstFault_37 mK_X6_36 mf_X9_goesOn rfl k0_8 rfl rfl rfl (Nat.le_of_ble_eq_true rfl) ⟨Nat.le_of_ble_eq_true rfl, Nat.le_of_ble_eq_true rfl⟩ (r_Tp_goesOn hV hq4) ?_
      refine g_istore_n (ls1 := [some (.ref 18), some (.int q4.1), some (.int q.2.1)]) (pc := 40) dX6_firstFault_40 (by decide) rfl ?_
      refine g_iinc (v := q.2.1 + 1) (ls1 := [some (.ref 18), some (.int q4.1), some (.int (q.2.1 + 1))]) (pc := 41) dX6_firstFault_41 rfl rfl (by decide) rfl ?_
      refine g_goto (tgt := 18) (pc := 44) dX6_firstFault_44 (by decide) ?_
      cases h
      exact hK
set_option maxRecDepth 4000 in
theorem w_Nr_firstFault_L18 {V : Sm → Wd} (hV : VwC V) {l : Launch} {Γ : Gm} {rF : Option Value} {wF : Wd}  {k : Nat} {q : Int32 × Int32 × Sm} {o : Sm} (h : lpN (Nr_firstFault_L18) k q = some o) (hP : ps_Nr_firstFault_L18 V l Γ rF wF o) : hd_Nr_firstFault_L18 V l Γ rF wF q := lpN_ind2 (hd_Nr_firstFault_L18 V l Γ rF wF) (ps_Nr_firstFault_L18 V l Γ rF wF) (fun s o h hK => t_Nr_firstFault_L18 hV h hK) k q o h hP
def Nr_firstFault_68 (S : Sm) : Option (Int32 × Sm) := (some ((Tp_firstFault S, S)))
set_option maxRecDepth 4000 in
theorem t_Nr_firstFault_68 {V : Sm → Wd} (hV : VwC V) {l : Launch} {Γ : Gm}  {S : Sm} {q : Int32 × Sm} (h : Nr_firstFault_68 S = some q) : G mX6_firstFault l Γ (rmD 6 0 0) (mQ Γ (some (.int q.1)) (V q.2) 0 0) 0 0 68 [some (.ref 18), none, none] [] (V S) := by
  unfold Nr_firstFault_68 at h
  refine g_aload_n (pc := 68) dX6_firstFault_68 rfl ?_
  refine v_getR hV (pc := 69) dX6_firstFault_69 fo_6_0 rfl k0_18 r0_18_0 ?_
  refine v_callVi hV (Mc := mX9_firstFault) (v := Tp_firstFault S) (S1 := S) (As := []) (rest := []) (q := (RX9, TX9, 4)) (pc := 72) dX6_firstFault_72 mK_X6_49 mf_X9_firstFault rfl k0_8 rfl rfl rfl (Nat.le_of_ble_eq_true rfl) ⟨Nat.le_of_ble_eq_true rfl, Nat.le_of_ble_eq_true rfl⟩ (r_Tp_firstFault hV rfl) ?_
  cases h
  exact g_iret (pc := 75) dX6_firstFault_75 rfl rfl (Nat.le_refl _) (Nat.le_refl _)
def Nr_firstFault (S : Sm) : Option (Int32 × Sm) := (app (Tp_rewind S) fun q1 => ((Dr_empty q1).bind fun q2 => ((lpN (Nr_firstFault_L18) FU (1, 0, q2)).bind fun q7 => ((Nr_sizeIfUntold q7).bind fun q8 => ((Dr_isSound q8).bind fun q9 => (if q9 = 0 then (app (Tp_failAtEnd q8) fun q10 => (Nr_firstFault_68 q10)) else (Nr_firstFault_68 q8)))))))
set_option maxRecDepth 4000 in
theorem r_Nr_firstFault {V : Sm → Wd} (hV : VwC V)  {S : Sm} {q : Int32 × Sm} (h : Nr_firstFault S = some q) : Runs 6 mX6_firstFault [.ref 18] (V S) (some (.int q.1)) (V q.2) 0 0 := by
  unfold Nr_firstFault at h
  refine Runs.of2 [some (.ref 18), none, none] 2 rfl rfl (Nat.le_of_ble_eq_true rfl) (fun l Γ => ?_)
  refine g_aload_n (pc := 0) dX6_firstFault_0 rfl ?_
  refine v_getR hV (pc := 1) dX6_firstFault_1 fo_6_0 rfl k0_18 r0_18_0 ?_
  obtain ⟨q1, hq1, h⟩ := app_of h
  refine v_callVv hV (Mc := mX9_rewind) (S1 := q1) (As := []) (rest := []) (q := (RX9, TX9, 4)) (pc := 4) dX6_firstFault_4 mK_X6_25 mf_X9_rewind rfl k0_8 rfl rfl rfl (Nat.le_of_ble_eq_true rfl) ⟨Nat.le_of_ble_eq_true rfl, Nat.le_of_ble_eq_true rfl⟩ (r_Tp_rewind hV hq1) ?_
  refine g_aload_n (pc := 7) dX6_firstFault_7 rfl ?_
  refine v_getR hV (pc := 8) dX6_firstFault_8 fo_6_1 rfl k0_18 r0_18_1 ?_
  obtain ⟨q2, hq2, h⟩ := bnd h
  refine v_callVv hV (Mc := mX5_empty) (S1 := q2) (As := []) (rest := []) (q := (RX5, TX5, 3)) (pc := 11) dX6_firstFault_11 mK_X6_30 mf_X5_empty rfl k0_14 rfl rfl rfl (Nat.le_of_ble_eq_true rfl) ⟨Nat.le_of_ble_eq_true rfl, Nat.le_of_ble_eq_true rfl⟩ (r_Dr_empty hV hq2) ?_
  refine g_iconst (v := 1) (pc := 14) dX6_firstFault_14 (by decide) ?_
  refine g_istore_n (ls1 := [some (.ref 18), some (.int 1), none]) (pc := 15) dX6_firstFault_15 (by decide) rfl ?_
  refine g_iconst (v := 0) (pc := 16) dX6_firstFault_16 (by decide) ?_
  refine g_istore_n (ls1 := [some (.ref 18), some (.int 1), some (.int 0)]) (pc := 17) dX6_firstFault_17 (by decide) rfl ?_
  obtain ⟨q7, hqq7, h⟩ := bnd h
  refine w_Nr_firstFault_L18 hV hqq7 ?_
  unfold ps_Nr_firstFault_L18
  show G _ _ _ _ _ _ _ _ _ _ _
  refine g_aload_n (pc := 47) dX6_firstFault_47 rfl ?_
  obtain ⟨q8, hq8, h⟩ := bnd h
  refine v_callVv hV (Mc := mX6_sizeIfUntold) (S1 := q8) (As := []) (rest := []) (q := (RX6, TX6, 3)) (pc := 48) dX6_firstFault_48 mK_X6_40 mf_X6_sizeIfUntold rfl k0_18 rfl rfl rfl (Nat.le_of_ble_eq_true rfl) ⟨Nat.le_of_ble_eq_true rfl, Nat.le_of_ble_eq_true rfl⟩ (r_Nr_sizeIfUntold hV hq8) ?_
  refine g_aload_n (pc := 51) dX6_firstFault_51 rfl ?_
  refine v_getR hV (pc := 52) dX6_firstFault_52 fo_6_1 rfl k0_18 r0_18_1 ?_
  obtain ⟨q9, hq9, h⟩ := bnd h
  refine v_callVi hV (Mc := mX5_isSound) (v := q9) (S1 := q8) (As := []) (rest := []) (q := (RX5, TX5, 3)) (pc := 55) dX6_firstFault_55 mK_X6_43 mf_X5_isSound rfl k0_14 rfl rfl rfl (Nat.le_of_ble_eq_true rfl) ⟨Nat.le_of_ble_eq_true rfl, Nat.le_of_ble_eq_true rfl⟩ (r_Dr_isSound hV hq9) ?_
  refine g_if_ne (tgt := 68) (pc := 58) dX6_firstFault_58 (by decide) (fun c11 => ?_) (fun c11 => ?_)
  · rw [if_neg c11] at h
    exact t_Nr_firstFault_68 hV h
  · rw [if_pos c11] at h
    refine g_aload_n (pc := 61) dX6_firstFault_61 rfl ?_
    refine v_getR hV (pc := 62) dX6_firstFault_62 fo_6_0 rfl k0_18 r0_18_0 ?_
    obtain ⟨q10, hq10, h⟩ := app_of h
    refine v_callVv hV (Mc := mX9_failAtEnd) (S1 := q10) (As := []) (rest := []) (q := (RX9, TX9, 4)) (pc := 65) dX6_firstFault_65 mK_X6_46 mf_X9_failAtEnd rfl k0_8 rfl rfl rfl (Nat.le_of_ble_eq_true rfl) ⟨Nat.le_of_ble_eq_true rfl, Nat.le_of_ble_eq_true rfl⟩ (r_Tp_failAtEnd hV hq10) ?_
    exact t_Nr_firstFault_68 hV h
