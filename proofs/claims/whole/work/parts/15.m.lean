/-! ===== printed by program: methods as functions over a state, and their walks ===== -/
def hd_Tp_bytesIn_L5 (V : Sm → Wd) (l : Launch) (Γ : Gm) (rF : Option Value) (wF : Wd) (v0 : Int32) (S : Sm) (q : Int32 × Int32) : Prop := G mX9_bytesIn l Γ (rmD 0 0 0) (mQ Γ rF wF 0 0) 0 0 5 [some (.int v0), some (.int q.1), some (.int q.2)] [] (V S)
def ps_Tp_bytesIn_L5 (V : Sm → Wd) (l : Launch) (Γ : Gm) (rF : Option Value) (wF : Wd) (v0 : Int32) (S : Sm) (x : Int32) : Prop := (fun (a : Int32) => G mX9_bytesIn l Γ (rmD 0 0 0) (mQ Γ rF wF 0 0) 0 0 33 [none, some (.int a), none] [] (V S)) x
def Tp_bytesIn_25_L5 (v0 : Int32) (v2 : Int32) (s0 : Int32) (s1 : Int32) : Option ((Int32 × Int32) ⊕ (Int32)) := (some (.inl (s0 + s1, v2 + (-8))))
set_option maxRecDepth 4000 in
theorem t_Tp_bytesIn_25_L5 {V : Sm → Wd} (hV : VwC V) {l : Launch} {Γ : Gm} {v0 : Int32} {v2 : Int32} {s0 : Int32} {s1 : Int32} {rF : Option Value} {wF : Wd} {S : Sm} {o : (Int32 × Int32) ⊕ (Int32)} (h : Tp_bytesIn_25_L5 v0 v2 s0 s1 = some o) (hK : Sum.elim (hd_Tp_bytesIn_L5 V l Γ rF wF v0 S) (ps_Tp_bytesIn_L5 V l Γ rF wF v0 S) o) : G mX9_bytesIn l Γ (rmD 0 0 0) (mQ Γ rF wF 0 0) 0 0 25 [some (.int v0), none, some (.int v2)] [.int s1, .int s0] (V S) := by
  unfold Tp_bytesIn_25_L5 at h
  refine g_iadd (pc := 25) dX9_bytesIn_25 ?_
  refine g_istore_n (ls1 := [some (.int v0), some (.int (s0 + s1)), some (.int v2)]) (pc := 26) dX9_bytesIn_26 (by decide) rfl ?_
  refine g_iinc (v := v2 + (-8)) (ls1 := [some (.int v0), some (.int (s0 + s1)), some (.int (v2 + (-8)))]) (pc := 27) dX9_bytesIn_27 rfl rfl (by decide) rfl ?_
  refine g_goto (tgt := 5) (pc := 30) dX9_bytesIn_30 (by decide) ?_
  cases h
  exact hK
def Tp_bytesIn_L5 (v0 : Int32) (q : Int32 × Int32) : Option ((Int32 × Int32) ⊕ (Int32)) := (if q.2 < 0 then (some (.inr q.1)) else (if ((iUsh v0 q.2) &&& 255) = 0 then (Tp_bytesIn_25_L5 v0 q.2 q.1 0) else (Tp_bytesIn_25_L5 v0 q.2 q.1 1)))
set_option maxRecDepth 4000 in
theorem t_Tp_bytesIn_L5 {V : Sm → Wd} (hV : VwC V) {l : Launch} {Γ : Gm} {rF : Option Value} {wF : Wd} {v0 : Int32} {S : Sm} {q : Int32 × Int32} {o : (Int32 × Int32) ⊕ (Int32)} (h : Tp_bytesIn_L5 v0 q = some o) (hK : Sum.elim (hd_Tp_bytesIn_L5 V l Γ rF wF v0 S) (ps_Tp_bytesIn_L5 V l Γ rF wF v0 S) o) : hd_Tp_bytesIn_L5 V l Γ rF wF v0 S q := by
  unfold Tp_bytesIn_L5 at h
  unfold hd_Tp_bytesIn_L5
  refine g_iload_n (pc := 5) dX9_bytesIn_5 rfl ?_
  refine g_if_lt (tgt := 33) (pc := 6) dX9_bytesIn_6 (by decide) (fun c2 => ?_) (fun c2 => ?_)
  · rw [if_pos c2] at h
    refine g_wk [false, true, false] rfl ?_
    cases h
    exact hK
  · rw [if_neg c2] at h
    refine g_iload_n (pc := 9) dX9_bytesIn_9 rfl ?_
    refine g_iload_n (pc := 10) dX9_bytesIn_10 rfl ?_
    refine g_iload_n (pc := 11) dX9_bytesIn_11 rfl ?_
    refine g_iushr (pc := 12) dX9_bytesIn_12 ?_
    refine g_sipush (v := 255) (pc := 13) dX9_bytesIn_13 (by decide) ?_
    refine g_iand (pc := 16) dX9_bytesIn_16 ?_
    refine g_if_eq (tgt := 24) (pc := 17) dX9_bytesIn_17 (by decide) (fun c1 => ?_) (fun c1 => ?_)
    · rw [if_pos c1] at h
      refine g_iconst (v := 0) (pc := 24) dX9_bytesIn_24 (by decide) ?_
      refine g_wk [true, false, true] rfl ?_
      exact t_Tp_bytesIn_25_L5 hV h hK
    · rw [if_neg c1] at h
      refine g_iconst (v := 1) (pc := 20) dX9_bytesIn_20 (by decide) ?_
      refine g_goto (tgt := 25) (pc := 21) dX9_bytesIn_21 (by decide) ?_
      refine g_wk [true, false, true] rfl ?_
      exact t_Tp_bytesIn_25_L5 hV h hK
set_option maxRecDepth 4000 in
theorem w_Tp_bytesIn_L5 {V : Sm → Wd} (hV : VwC V) {l : Launch} {Γ : Gm} {rF : Option Value} {wF : Wd} {v0 : Int32} {S : Sm} {k : Nat} {q : Int32 × Int32} {o : Int32} (h : lpN (Tp_bytesIn_L5 v0) k q = some o) (hP : ps_Tp_bytesIn_L5 V l Γ rF wF v0 S o) : hd_Tp_bytesIn_L5 V l Γ rF wF v0 S q := lpN_ind2 (hd_Tp_bytesIn_L5 V l Γ rF wF v0 S) (ps_Tp_bytesIn_L5 V l Γ rF wF v0 S) (fun s o h hK => t_Tp_bytesIn_L5 hV h hK) k q o h hP
def Tp_bytesIn (v0 : Int32) : Option (Int32) := ((lpN (Tp_bytesIn_L5 v0) FU (0, 24)).bind fun q3 => (some q3))
set_option maxRecDepth 4000 in
theorem r_Tp_bytesIn {V : Sm → Wd} (hV : VwC V) {v0 : Int32} {S : Sm} {q : Int32} (h : Tp_bytesIn v0 = some q) : Runs 0 mX9_bytesIn [.int v0] (V S) (some (.int q)) (V S) 0 0 := by
  unfold Tp_bytesIn at h
  refine Runs.of2 [some (.int v0), none, none] 2 rfl rfl (Nat.le_of_ble_eq_true rfl) (fun l Γ => ?_)
  refine g_iconst (v := 0) (pc := 0) dX9_bytesIn_0 (by decide) ?_
  refine g_istore_n (ls1 := [some (.int v0), some (.int 0), none]) (pc := 1) dX9_bytesIn_1 (by decide) rfl ?_
  refine g_bipush (v := 24) (pc := 2) dX9_bytesIn_2 (by decide) ?_
  refine g_istore_n (ls1 := [some (.int v0), some (.int 0), some (.int 24)]) (pc := 4) dX9_bytesIn_4 (by decide) rfl ?_
  obtain ⟨q3, hqq3, h⟩ := bnd h
  refine w_Tp_bytesIn_L5 hV hqq3 ?_
  unfold ps_Tp_bytesIn_L5
  show G _ _ _ _ _ _ _ _ _ _ _
  refine g_iload_n (pc := 33) dX9_bytesIn_33 rfl ?_
  cases h
  exact g_iret (pc := 34) dX9_bytesIn_34 rfl rfl (Nat.le_refl _) (Nat.le_refl _)
def hd_Tp_append_L3 (V : Sm → Wd) (l : Launch) (Γ : Gm) (rF : Option Value) (wF : Wd) (v1 : Int32) (q : Int32 × Sm) : Prop := G mX9_append l Γ (rmD 1 0 0) (mQ Γ rF wF 0 0) 0 0 3 [some (.ref 8), some (.int v1), some (.int q.1), none] [] (V q.2)
def ps_Tp_append_L3 (V : Sm → Wd) (l : Launch) (Γ : Gm) (rF : Option Value) (wF : Wd) (v1 : Int32) (x : Sm) : Prop := (fun (a : Sm) => G mX9_append l Γ (rmD 1 0 0) (mQ Γ rF wF 0 0) 0 0 47 [none, none, none, none] [] (V a)) x
def Tp_append_41_L3 (v1 : Int32) (v2 : Int32) (S : Sm) : Option ((Int32 × Sm) ⊕ (Sm)) := (some (.inl (v2 + (-8), S)))
set_option maxRecDepth 4000 in
theorem t_Tp_append_41_L3 {V : Sm → Wd} (hV : VwC V) {l : Launch} {Γ : Gm} {v1 : Int32} {v2 : Int32} {rF : Option Value} {wF : Wd} {S : Sm} {o : (Int32 × Sm) ⊕ (Sm)} (h : Tp_append_41_L3 v1 v2 S = some o) (hK : Sum.elim (hd_Tp_append_L3 V l Γ rF wF v1) (ps_Tp_append_L3 V l Γ rF wF v1) o) : G mX9_append l Γ (rmD 1 0 0) (mQ Γ rF wF 0 0) 0 0 41 [some (.ref 8), some (.int v1), some (.int v2), none] [] (V S) := by
  unfold Tp_append_41_L3 at h
  refine g_iinc (v := v2 + (-8)) (ls1 := [some (.ref 8), some (.int v1), some (.int (v2 + (-8))), none]) (pc := 41) dX9_append_41 rfl rfl (by decide) rfl ?_
  refine g_goto (tgt := 3) (pc := 44) dX9_append_44 (by decide) ?_
  cases h
  exact hK
def Tp_append_L3 (v1 : Int32) (q : Int32 × Sm) : Option ((Int32 × Sm) ⊕ (Sm)) := (if q.1 < 0 then (some (.inr q.2)) else (if ((iUsh v1 q.1) &&& 255) = 0 then (Tp_append_41_L3 v1 q.1 q.2) else (app (puF q.2 9 240 (gi q.2 8 1) ((iUsh v1 q.1) &&& 255)) fun S1 => (Tp_append_41_L3 v1 q.1 (si S1 8 1 ((gi S1 8 1) + 1))))))
set_option maxRecDepth 4000 in
theorem t_Tp_append_L3 {V : Sm → Wd} (hV : VwC V) {l : Launch} {Γ : Gm} {rF : Option Value} {wF : Wd} {v1 : Int32} {q : Int32 × Sm} {o : (Int32 × Sm) ⊕ (Sm)} (h : Tp_append_L3 v1 q = some o) (hK : Sum.elim (hd_Tp_append_L3 V l Γ rF wF v1) (ps_Tp_append_L3 V l Γ rF wF v1) o) : hd_Tp_append_L3 V l Γ rF wF v1 q := by
  unfold Tp_append_L3 at h
  unfold hd_Tp_append_L3
  refine g_iload_n (pc := 3) dX9_append_3 rfl ?_
  refine g_if_lt (tgt := 47) (pc := 4) dX9_append_4 (by decide) (fun c3 => ?_) (fun c3 => ?_)
  · rw [if_pos c3] at h
    refine g_wk [false, false, false, false] rfl ?_
    cases h
    exact hK
  · rw [if_neg c3] at h
    refine g_iload_n (pc := 7) dX9_append_7 rfl ?_
    refine g_iload_n (pc := 8) dX9_append_8 rfl ?_
    refine g_iushr (pc := 9) dX9_append_9 ?_
    refine g_sipush (v := 255) (pc := 10) dX9_append_10 (by decide) ?_
    refine g_iand (pc := 13) dX9_append_13 ?_
    refine g_istore_n (ls1 := [some (.ref 8), some (.int v1), some (.int q.1), some (.int ((iUsh v1 q.1) &&& 255))]) (pc := 14) dX9_append_14 (by decide) rfl ?_
    refine g_iload_n (pc := 15) dX9_append_15 rfl ?_
    refine g_if_eq (tgt := 41) (pc := 16) dX9_append_16 (by decide) (fun c2 => ?_) (fun c2 => ?_)
    · rw [if_pos c2] at h
      refine g_wk [true, true, true, false] rfl ?_
      exact t_Tp_append_41_L3 hV h hK
    · rw [if_neg c2] at h
      refine g_aload_n (pc := 19) dX9_append_19 rfl ?_
      refine v_getR hV (pc := 20) dX9_append_20 fo_9_0 rfl k0_8 r0_8_0 ?_
      refine g_aload_n (pc := 23) dX9_append_23 rfl ?_
      refine v_getI hV (pc := 24) dX9_append_24 fo_9_1 rfl k0_8 own_8 ?_
      refine g_iload_n (pc := 27) dX9_append_27 rfl ?_
      obtain ⟨S1, hS1, h⟩ := app_of h
      refine v_callNv (S1 := S1) (As := [.ref 9, .int (gi q.2 8 1), .int ((iUsh v1 q.1) &&& 255)]) (rest := []) (pc := 28) dX9_append_28 nl_X9_33 mf_X11_put rfl rfl (Nat.le_of_ble_eq_true rfl) ⟨Nat.le_of_ble_eq_true rfl, Nat.le_of_ble_eq_true rfl⟩ (r_put hV k0_9 own_9 (by decide) hS1) ?_
      refine g_aload_n (pc := 31) dX9_append_31 rfl ?_
      refine g_dup (pc := 32) dX9_append_32 rfl ?_
      refine v_getI hV (pc := 33) dX9_append_33 fo_9_1 rfl k0_8 own_8 ?_
      refine g_iconst (v := 1) (pc := 36) dX9_append_36 (by decide) ?_
      refine g_iadd (pc := 37) dX9_append_37 ?_
      refine v_putI hV (pc := 38) dX9_append_38 fo_9_1 rfl k0_8 own_8 rfl ?_
      refine g_wk [true, true, true, false] rfl ?_
      exact t_Tp_append_41_L3 hV h hK
set_option maxRecDepth 4000 in
theorem w_Tp_append_L3 {V : Sm → Wd} (hV : VwC V) {l : Launch} {Γ : Gm} {rF : Option Value} {wF : Wd} {v1 : Int32} {k : Nat} {q : Int32 × Sm} {o : Sm} (h : lpN (Tp_append_L3 v1) k q = some o) (hP : ps_Tp_append_L3 V l Γ rF wF v1 o) : hd_Tp_append_L3 V l Γ rF wF v1 q := lpN_ind2 (hd_Tp_append_L3 V l Γ rF wF v1) (ps_Tp_append_L3 V l Γ rF wF v1) (fun s o h hK => t_Tp_append_L3 hV h hK) k q o h hP
def Tp_append (v1 : Int32) (S : Sm) : Option (Sm) := ((lpN (Tp_append_L3 v1) FU (24, S)).bind fun q4 => (some q4))
set_option maxRecDepth 4000 in
theorem r_Tp_append {V : Sm → Wd} (hV : VwC V) {v1 : Int32} {S : Sm} {q : Sm} (h : Tp_append v1 S = some q) : Runs 1 mX9_append [.ref 8, .int v1] (V S) none (V q) 0 0 := by
  unfold Tp_append at h
  refine Runs.of2 [some (.ref 8), some (.int v1), none, none] 2 rfl rfl (Nat.le_of_ble_eq_true rfl) (fun l Γ => ?_)
  refine g_bipush (v := 24) (pc := 0) dX9_append_0 (by decide) ?_
  refine g_istore_n (ls1 := [some (.ref 8), some (.int v1), some (.int 24), none]) (pc := 2) dX9_append_2 (by decide) rfl ?_
  obtain ⟨q4, hqq4, h⟩ := bnd h
  refine w_Tp_append_L3 hV hqq4 ?_
  unfold ps_Tp_append_L3
  show G _ _ _ _ _ _ _ _ _ _ _
  cases h
  exact g_vret (pc := 47) dX9_append_47 rfl (Nat.le_refl _) (Nat.le_refl _)
def Tp_add (v1 : Int32) (v2 : Int32) (v3 : Int32) (v4 : Int32) (v5 : Int32) (S : Sm) : Option (Int32 × Sm) := ((Tp_bytesIn v1).bind fun q1 => ((Tp_bytesIn v2).bind fun q2 => ((Tp_bytesIn v3).bind fun q3 => ((Tp_bytesIn v4).bind fun q4 => ((Tp_bytesIn v5).bind fun q5 => (if ((gi S 8 1) + ((((q1 + q2) + q3) + q4) + q5)) ≤ 240 then ((Tp_append v1 S).bind fun q6 => ((Tp_append v2 q6).bind fun q7 => ((Tp_append v3 q7).bind fun q8 => ((Tp_append v4 q8).bind fun q9 => ((Tp_append v5 q9).bind fun q10 => (some ((1, q10)))))))) else (some ((0, S)))))))))
set_option maxRecDepth 4000 in
theorem r_Tp_add {V : Sm → Wd} (hV : VwC V) {v1 : Int32} {v2 : Int32} {v3 : Int32} {v4 : Int32} {v5 : Int32} {S : Sm} {q : Int32 × Sm} (h : Tp_add v1 v2 v3 v4 v5 S = some q) : Runs 2 mX9_add [.ref 8, .int v1, .int v2, .int v3, .int v4, .int v5] (V S) (some (.int q.1)) (V q.2) 0 0 := by
  unfold Tp_add at h
  refine Runs.of2 [some (.ref 8), some (.int v1), some (.int v2), some (.int v3), some (.int v4), some (.int v5), none] 1 rfl rfl (Nat.le_of_ble_eq_true rfl) (fun l Γ => ?_)
  refine g_iload_n (pc := 0) dX9_add_0 rfl ?_
  obtain ⟨q1, hq1, h⟩ := bnd h
  refine v_callSi (v := q1) (S1 := S) (As := [.int v1]) (rest := []) (pc := 1) dX9_add_1 mK_X9_25 mf_X9_bytesIn rfl rfl (Nat.le_of_ble_eq_true rfl) ⟨Nat.le_of_ble_eq_true rfl, Nat.le_of_ble_eq_true rfl⟩ (r_Tp_bytesIn hV hq1) ?_
  refine g_iload_n (pc := 4) dX9_add_4 rfl ?_
  obtain ⟨q2, hq2, h⟩ := bnd h
  refine v_callSi (v := q2) (S1 := S) (As := [.int v2]) (rest := [.int q1]) (pc := 5) dX9_add_5 mK_X9_25 mf_X9_bytesIn rfl rfl (Nat.le_of_ble_eq_true rfl) ⟨Nat.le_of_ble_eq_true rfl, Nat.le_of_ble_eq_true rfl⟩ (r_Tp_bytesIn hV hq2) ?_
  refine g_iadd (pc := 8) dX9_add_8 ?_
  refine g_iload_n (pc := 9) dX9_add_9 rfl ?_
  obtain ⟨q3, hq3, h⟩ := bnd h
  refine v_callSi (v := q3) (S1 := S) (As := [.int v3]) (rest := [.int (q1 + q2)]) (pc := 10) dX9_add_10 mK_X9_25 mf_X9_bytesIn rfl rfl (Nat.le_of_ble_eq_true rfl) ⟨Nat.le_of_ble_eq_true rfl, Nat.le_of_ble_eq_true rfl⟩ (r_Tp_bytesIn hV hq3) ?_
  refine g_iadd (pc := 13) dX9_add_13 ?_
  refine g_iload (pc := 14) dX9_add_14 rfl ?_
  obtain ⟨q4, hq4, h⟩ := bnd h
  refine v_callSi (v := q4) (S1 := S) (As := [.int v4]) (rest := [.int ((q1 + q2) + q3)]) (pc := 16) dX9_add_16 mK_X9_25 mf_X9_bytesIn rfl rfl (Nat.le_of_ble_eq_true rfl) ⟨Nat.le_of_ble_eq_true rfl, Nat.le_of_ble_eq_true rfl⟩ (r_Tp_bytesIn hV hq4) ?_
  refine g_iadd (pc := 19) dX9_add_19 ?_
  refine g_iload (pc := 20) dX9_add_20 rfl ?_
  obtain ⟨q5, hq5, h⟩ := bnd h
  refine v_callSi (v := q5) (S1 := S) (As := [.int v5]) (rest := [.int (((q1 + q2) + q3) + q4)]) (pc := 22) dX9_add_22 mK_X9_25 mf_X9_bytesIn rfl rfl (Nat.le_of_ble_eq_true rfl) ⟨Nat.le_of_ble_eq_true rfl, Nat.le_of_ble_eq_true rfl⟩ (r_Tp_bytesIn hV hq5) ?_
  refine g_iadd (pc := 25) dX9_add_25 ?_
  refine g_istore (ls1 := [some (.ref 8), some (.int v1), some (.int v2), some (.int v3), some (.int v4), some (.int v5), some (.int ((((q1 + q2) + q3) + q4) + q5))]) (pc := 26) dX9_add_26 (by decide) rfl ?_
  refine g_aload_n (pc := 28) dX9_add_28 rfl ?_
  refine v_getI hV (pc := 29) dX9_add_29 fo_9_1 rfl k0_8 own_8 ?_
  refine g_iload (pc := 32) dX9_add_32 rfl ?_
  refine g_iadd (pc := 34) dX9_add_34 ?_
  refine g_sipush (v := 240) (pc := 35) dX9_add_35 (by decide) ?_
  refine g_icmp_le (tgt := 43) (pc := 38) dX9_add_38 (by decide) (fun c11 => ?_) (fun c11 => ?_)
  · rw [if_pos c11] at h
    refine g_aload_n (pc := 43) dX9_add_43 rfl ?_
    refine g_iload_n (pc := 44) dX9_add_44 rfl ?_
    obtain ⟨q6, hq6, h⟩ := bnd h
    refine v_callVv hV (S1 := q6) (As := [.int v1]) (rest := []) (q := (RX9, TX9, 4)) (pc := 45) dX9_add_45 mK_X9_29 mf_X9_append rfl k0_8 rfl rfl rfl (Nat.le_of_ble_eq_true rfl) ⟨Nat.le_of_ble_eq_true rfl, Nat.le_of_ble_eq_true rfl⟩ (r_Tp_append hV hq6) ?_
    refine g_aload_n (pc := 48) dX9_add_48 rfl ?_
    refine g_iload_n (pc := 49) dX9_add_49 rfl ?_
    obtain ⟨q7, hq7, h⟩ := bnd h
    refine v_callVv hV (S1 := q7) (As := [.int v2]) (rest := []) (q := (RX9, TX9, 4)) (pc := 50) dX9_add_50 mK_X9_29 mf_X9_append rfl k0_8 rfl rfl rfl (Nat.le_of_ble_eq_true rfl) ⟨Nat.le_of_ble_eq_true rfl, Nat.le_of_ble_eq_true rfl⟩ (r_Tp_append hV hq7) ?_
    refine g_aload_n (pc := 53) dX9_add_53 rfl ?_
    refine g_iload_n (pc := 54) dX9_add_54 rfl ?_
    obtain ⟨q8, hq8, h⟩ := bnd h
    refine v_callVv hV (S1 := q8) (As := [.int v3]) (rest := []) (q := (RX9, TX9, 4)) (pc := 55) dX9_add_55 mK_X9_29 mf_X9_append rfl k0_8 rfl rfl rfl (Nat.le_of_ble_eq_true rfl) ⟨Nat.le_of_ble_eq_true rfl, Nat.le_of_ble_eq_true rfl⟩ (r_Tp_append hV hq8) ?_
    refine g_aload_n (pc := 58) dX9_add_58 rfl ?_
    refine g_iload (pc := 59) dX9_add_59 rfl ?_
    obtain ⟨q9, hq9, h⟩ := bnd h
    refine v_callVv hV (S1 := q9) (As := [.int v4]) (rest := []) (q := (RX9, TX9, 4)) (pc := 61) dX9_add_61 mK_X9_29 mf_X9_append rfl k0_8 rfl rfl rfl (Nat.le_of_ble_eq_true rfl) ⟨Nat.le_of_ble_eq_true rfl, Nat.le_of_ble_eq_true rfl⟩ (r_Tp_append hV hq9) ?_
    refine g_aload_n (pc := 64) dX9_add_64 rfl ?_
    refine g_iload (pc := 65) dX9_add_65 rfl ?_
    obtain ⟨q10, hq10, h⟩ := bnd h
    refine v_callVv hV (S1 := q10) (As := [.int v5]) (rest := []) (q := (RX9, TX9, 4)) (pc := 67) dX9_add_67 mK_X9_29 mf_X9_append rfl k0_8 rfl rfl rfl (Nat.le_of_ble_eq_true rfl) ⟨Nat.le_of_ble_eq_true rfl, Nat.le_of_ble_eq_true rfl⟩ (r_Tp_append hV hq10) ?_
    refine g_iconst (v := 1) (pc := 70) dX9_add_70 (by decide) ?_
    cases h
    exact g_iret (pc := 71) dX9_add_71 rfl (by decide) (Nat.le_refl _) (Nat.le_refl _)
  · rw [if_neg c11] at h
    refine g_iconst (v := 0) (pc := 41) dX9_add_41 (by decide) ?_
    cases h
    exact g_iret (pc := 42) dX9_add_42 rfl (by decide) (Nat.le_refl _) (Nat.le_refl _)
def Tp_size (S : Sm) : Int32 := (gi S 8 1)
set_option maxRecDepth 4000 in
theorem r_Tp_size {V : Sm → Wd} (hV : VwC V)  {S : Sm} {q : Int32} (h : Tp_size S = q) : Runs 0 mX9_size [.ref 8] (V S) (some (.int q)) (V S) 0 0 := by
  unfold Tp_size at h
  refine Runs.of2 [some (.ref 8)] 0 rfl rfl (Nat.le_of_ble_eq_true rfl) (fun l Γ => ?_)
  refine g_aload_n (pc := 0) dX9_size_0 rfl ?_
  refine v_getI hV (pc := 1) dX9_size_1 fo_9_1 rfl k0_8 own_8 ?_
  subst h
  exact g_iret (pc := 4) dX9_size_4 rfl rfl (Nat.le_refl _) (Nat.le_refl _)
def Dk_feed_28 (s0 : Int32) (S : Sm) : Option (Int32 × Sm) := (some ((s0, S)))
set_option maxRecDepth 4000 in
theorem t_Dk_feed_28 {V : Sm → Wd} (hV : VwC V) {l : Launch} {Γ : Gm} {s0 : Int32} {S : Sm} {q : Int32 × Sm} (h : Dk_feed_28 s0 S = some q) : G mX11_feed l Γ (rmD 3 0 0) (mQ Γ (some (.int q.1)) (V q.2) 0 0) 0 0 28 [none, none, none, none, none, none] [.int s0] (V S) := by
  unfold Dk_feed_28 at h
  cases h
  exact g_iret (pc := 28) dX11_feed_28 rfl rfl (Nat.le_refl _) (Nat.le_refl _)
def Dk_feed (v1 : Int32) (v2 : Int32) (v3 : Int32) (v4 : Int32) (v5 : Int32) (S : Sm) : Option (Int32 × Sm) := ((Tp_add v1 v2 v3 v4 v5 S).bind fun q1 => (if q1.1 = 0 then (Dk_feed_28 ((-1)) q1.2) else (Dk_feed_28 (Tp_size q1.2) q1.2)))
set_option maxRecDepth 4000 in
theorem r_Dk_feed {V : Sm → Wd} (hV : VwC V) {v1 : Int32} {v2 : Int32} {v3 : Int32} {v4 : Int32} {v5 : Int32} {S : Sm} {q : Int32 × Sm} (h : Dk_feed v1 v2 v3 v4 v5 S = some q) : Runs 3 mX11_feed [.ref 7, .int v1, .int v2, .int v3, .int v4, .int v5] (V S) (some (.int q.1)) (V q.2) 0 0 := by
  unfold Dk_feed at h
  refine Runs.of2 [some (.ref 7), some (.int v1), some (.int v2), some (.int v3), some (.int v4), some (.int v5)] 0 rfl rfl (Nat.le_of_ble_eq_true rfl) (fun l Γ => ?_)
  refine g_aload_n (pc := 0) dX11_feed_0 rfl ?_
  refine v_getR hV (pc := 1) dX11_feed_1 fo_11_0 rfl k0_7 r0_7_0 ?_
  refine g_iload_n (pc := 4) dX11_feed_4 rfl ?_
  refine g_iload_n (pc := 5) dX11_feed_5 rfl ?_
  refine g_iload_n (pc := 6) dX11_feed_6 rfl ?_
  refine g_iload (pc := 7) dX11_feed_7 rfl ?_
  refine g_iload (pc := 9) dX11_feed_9 rfl ?_
  obtain ⟨q1, hq1, h⟩ := bnd h
  refine v_callVi hV (v := q1.1) (S1 := q1.2) (As := [.int v1, .int v2, .int v3, .int v4, .int v5]) (rest := []) (q := (RX9, TX9, 4)) (pc := 11) dX11_feed_11 mK_X11_103 mf_X9_add rfl k0_8 rfl rfl rfl (Nat.le_of_ble_eq_true rfl) ⟨Nat.le_of_ble_eq_true rfl, Nat.le_of_ble_eq_true rfl⟩ (r_Tp_add hV hq1) ?_
  refine g_if_eq (tgt := 27) (pc := 14) dX11_feed_14 (by decide) (fun c2 => ?_) (fun c2 => ?_)
  · rw [if_pos c2] at h
    refine g_iconst (v := (-1)) (pc := 27) dX11_feed_27 (by decide) ?_
    refine g_wk [false, false, false, false, false, false] rfl ?_
    exact t_Dk_feed_28 hV h
  · rw [if_neg c2] at h
    refine g_aload_n (pc := 17) dX11_feed_17 rfl ?_
    refine v_getR hV (pc := 18) dX11_feed_18 fo_11_0 rfl k0_7 r0_7_0 ?_
    refine v_callVi hV (v := Tp_size q1.2) (S1 := q1.2) (As := []) (rest := []) (q := (RX9, TX9, 4)) (pc := 21) dX11_feed_21 mK_X11_107 mf_X9_size rfl k0_8 rfl rfl rfl (Nat.le_of_ble_eq_true rfl) ⟨Nat.le_of_ble_eq_true rfl, Nat.le_of_ble_eq_true rfl⟩ (r_Tp_size hV rfl) ?_
    refine g_goto (tgt := 28) (pc := 24) dX11_feed_24 (by decide) ?_
    refine g_wk [false, false, false, false, false, false] rfl ?_
    exact t_Dk_feed_28 hV h
def Tp_cut_12 (S : Sm) : Int32 × Sm := ((0, S))
set_option maxRecDepth 4000 in
theorem t_Tp_cut_12 {V : Sm → Wd} (hV : VwC V) {l : Launch} {Γ : Gm}  {S : Sm} {q : Int32 × Sm} (h : Tp_cut_12 S = q) : G mX9_cut l Γ (rmD 0 0 0) (mQ Γ (some (.int q.1)) (V q.2) 0 0) 0 0 12 [none, none] [] (V S) := by
  unfold Tp_cut_12 at h
  refine g_iconst (v := 0) (pc := 12) dX9_cut_12 (by decide) ?_
  subst h
  exact g_iret (pc := 13) dX9_cut_13 rfl (by decide) (Nat.le_refl _) (Nat.le_refl _)
def Tp_cut (v1 : Int32) (S : Sm) : Int32 × Sm := (if v1 < 0 then (Tp_cut_12 S) else (if v1 ≤ (gi S 8 1) then ((1, si S 8 1 v1)) else (Tp_cut_12 S)))
set_option maxRecDepth 4000 in
theorem r_Tp_cut {V : Sm → Wd} (hV : VwC V) {v1 : Int32} {S : Sm} {q : Int32 × Sm} (h : Tp_cut v1 S = q) : Runs 0 mX9_cut [.ref 8, .int v1] (V S) (some (.int q.1)) (V q.2) 0 0 := by
  unfold Tp_cut at h
  refine Runs.of2 [some (.ref 8), some (.int v1)] 0 rfl rfl (Nat.le_of_ble_eq_true rfl) (fun l Γ => ?_)
  refine g_iload_n (pc := 0) dX9_cut_0 rfl ?_
  refine g_if_lt (tgt := 12) (pc := 1) dX9_cut_1 (by decide) (fun c2 => ?_) (fun c2 => ?_)
  · rw [if_pos c2] at h
    refine g_wk [false, false] rfl ?_
    exact t_Tp_cut_12 hV h
  · rw [if_neg c2] at h
    refine g_iload_n (pc := 4) dX9_cut_4 rfl ?_
    refine g_aload_n (pc := 5) dX9_cut_5 rfl ?_
    refine v_getI hV (pc := 6) dX9_cut_6 fo_9_1 rfl k0_8 own_8 ?_
    refine g_icmp_le (tgt := 14) (pc := 9) dX9_cut_9 (by decide) (fun c1 => ?_) (fun c1 => ?_)
    · rw [if_pos c1] at h
      refine g_aload_n (pc := 14) dX9_cut_14 rfl ?_
      refine g_iload_n (pc := 15) dX9_cut_15 rfl ?_
      refine v_putI hV (pc := 16) dX9_cut_16 fo_9_1 rfl k0_8 own_8 rfl ?_
      refine g_iconst (v := 1) (pc := 19) dX9_cut_19 (by decide) ?_
      subst h
      exact g_iret (pc := 20) dX9_cut_20 rfl (by decide) (Nat.le_refl _) (Nat.le_refl _)
    · rw [if_neg c1] at h
      refine g_wk [false, false] rfl ?_
      exact t_Tp_cut_12 hV h
def Dk_end (v1 : Int32) (S : Sm) : Int32 × Sm := (app (Tp_cut v1 S) fun q1 => ((q1.1 &&& 1, q1.2)))
set_option maxRecDepth 4000 in
theorem r_Dk_end {V : Sm → Wd} (hV : VwC V) {v1 : Int32} {S : Sm} {q : Int32 × Sm} (h : Dk_end v1 S = q) : Runs 1 mX11_end [.ref 7, .int v1] (V S) (some (.int q.1)) (V q.2) 0 0 := by
  unfold Dk_end at h
  refine Runs.of2 [some (.ref 7), some (.int v1)] 0 rfl rfl (Nat.le_of_ble_eq_true rfl) (fun l Γ => ?_)
  refine g_aload_n (pc := 0) dX11_end_0 rfl ?_
  refine v_getR hV (pc := 1) dX11_end_1 fo_11_0 rfl k0_7 r0_7_0 ?_
  refine g_iload_n (pc := 4) dX11_end_4 rfl ?_
  obtain ⟨q1, hq1, h⟩ := app_of h
  refine v_callVi hV (v := q1.1) (S1 := q1.2) (As := [.int v1]) (rest := []) (q := (RX9, TX9, 4)) (pc := 5) dX11_end_5 mK_X11_111 mf_X9_cut rfl k0_8 rfl rfl rfl (Nat.le_of_ble_eq_true rfl) ⟨Nat.le_of_ble_eq_true rfl, Nat.le_of_ble_eq_true rfl⟩ (r_Tp_cut hV hq1) ?_
  subst h
  exact g_iret (pc := 8) dX11_end_8 rfl rfl (Nat.le_refl _) (Nat.le_refl _)
def Tp_rewind (S : Sm) : Sm := (si (si S 8 2 0) 8 3 ((-1)))
set_option maxRecDepth 4000 in
theorem r_Tp_rewind {V : Sm → Wd} (hV : VwC V)  {S : Sm} {q : Sm} (h : Tp_rewind S = q) : Runs 0 mX9_rewind [.ref 8] (V S) none (V q) 0 0 := by
  unfold Tp_rewind at h
  refine Runs.of2 [some (.ref 8)] 0 rfl rfl (Nat.le_of_ble_eq_true rfl) (fun l Γ => ?_)
  refine g_aload_n (pc := 0) dX9_rewind_0 rfl ?_
  refine g_iconst (v := 0) (pc := 1) dX9_rewind_1 (by decide) ?_
  refine v_putI hV (pc := 2) dX9_rewind_2 fo_9_2 rfl k0_8 own_8 rfl ?_
  refine g_aload_n (pc := 5) dX9_rewind_5 rfl ?_
  refine g_iconst (v := (-1)) (pc := 6) dX9_rewind_6 (by decide) ?_
  refine v_putI hV (pc := 7) dX9_rewind_7 fo_9_3 rfl k0_8 own_8 rfl ?_
  subst h
  exact g_vret (pc := 10) dX9_rewind_10 rfl (Nat.le_refl _) (Nat.le_refl _)
def La_beginDraft (S : Sm) : Sm := (app (puF S 22 5 (gi S 20 4) 0) fun S1 => S1)
set_option maxRecDepth 4000 in
theorem r_La_beginDraft {V : Sm → Wd} (hV : VwC V)  {S : Sm} {q : Sm} (h : La_beginDraft S = q) : Runs 1 mX3_beginDraft [.ref 20] (V S) none (V q) 0 0 := by
  unfold La_beginDraft at h
  refine Runs.of2 [some (.ref 20)] 0 rfl rfl (Nat.le_of_ble_eq_true rfl) (fun l Γ => ?_)
  refine g_aload_n (pc := 0) dX3_beginDraft_0 rfl ?_
  refine v_getR hV (pc := 1) dX3_beginDraft_1 fo_3_1 rfl k0_20 r0_20_1 ?_
  refine g_aload_n (pc := 4) dX3_beginDraft_4 rfl ?_
  refine v_getI hV (pc := 5) dX3_beginDraft_5 fo_3_4 rfl k0_20 own_20 ?_
  refine g_iconst (v := 0) (pc := 8) dX3_beginDraft_8 (by decide) ?_
  obtain ⟨S1, hS1, h⟩ := app_of h
  refine v_callNv (S1 := S1) (As := [.ref 22, .int (gi S 20 4), .int 0]) (rest := []) (pc := 9) dX3_beginDraft_9 nl_X3_33 mf_X11_put rfl rfl (Nat.le_of_ble_eq_true rfl) ⟨Nat.le_of_ble_eq_true rfl, Nat.le_of_ble_eq_true rfl⟩ (r_put hV k0_22 own_22 (by decide) hS1) ?_
  subst h
  exact g_vret (pc := 12) dX3_beginDraft_12 rfl (Nat.le_refl _) (Nat.le_refl _)
def hd_Tp_sign_L23 (V : Sm → Wd) (l : Launch) (Γ : Gm) (rF : Option Value) (wF : Wd) (v1 : Int32) (q : Sm) : Prop := G mX9_sign l Γ (rmD 1 0 0) (mQ Γ rF wF 0 0) 0 0 23 [some (.ref 8), some (.int v1)] [] (V q)
def ps_Tp_sign_L23 (V : Sm → Wd) (l : Launch) (Γ : Gm) (rF : Option Value) (wF : Wd) (v1 : Int32) (x : Sm) : Prop := (fun (a : Sm) => G mX9_sign l Γ (rmD 1 0 0) (mQ Γ rF wF 0 0) 0 0 65 [some (.ref 8), some (.int v1)] [] (V a)) x
def Tp_sign_L23 (v1 : Int32) (q : Sm) : Option ((Sm) ⊕ (Sm)) := (if (gi q 8 2) < 0 then (some (.inr q)) else (if v1 ≤ (gi q 8 2) then (some (.inr q)) else (if inb (gi q 8 2) 240 then (if (gi q 9 (ix (gi q 8 2))) = 32 then (some (.inl (si q 8 2 ((gi q 8 2) + 1)))) else (some (.inr q))) else none)))
set_option maxRecDepth 4000 in
theorem t_Tp_sign_L23 {V : Sm → Wd} (hV : VwC V) {l : Launch} {Γ : Gm} {rF : Option Value} {wF : Wd} {v1 : Int32} {q : Sm} {o : (Sm) ⊕ (Sm)} (h : Tp_sign_L23 v1 q = some o) (hK : Sum.elim (hd_Tp_sign_L23 V l Γ rF wF v1) (ps_Tp_sign_L23 V l Γ rF wF v1) o) : hd_Tp_sign_L23 V l Γ rF wF v1 q := by
  unfold Tp_sign_L23 at h
  unfold hd_Tp_sign_L23
  refine g_aload_n (pc := 23) dX9_sign_23 rfl ?_
  refine v_getI hV (pc := 24) dX9_sign_24 fo_9_2 rfl k0_8 own_8 ?_
  refine g_if_lt (tgt := 65) (pc := 27) dX9_sign_27 (by decide) (fun c4 => ?_) (fun c4 => ?_)
  · rw [if_pos c4] at h
    cases h
    exact hK
  · rw [if_neg c4] at h
    refine g_aload_n (pc := 30) dX9_sign_30 rfl ?_
    refine v_getI hV (pc := 31) dX9_sign_31 fo_9_2 rfl k0_8 own_8 ?_
    refine g_iload_n (pc := 34) dX9_sign_34 rfl ?_
    refine g_icmp_ge (tgt := 65) (pc := 35) dX9_sign_35 (by decide) (fun c3 => ?_) (fun c3 => ?_)
    · rw [if_pos c3] at h
      cases h
      exact hK
    · rw [if_neg c3] at h
      refine g_aload_n (pc := 38) dX9_sign_38 rfl ?_
      refine v_getR hV (pc := 39) dX9_sign_39 fo_9_0 rfl k0_8 r0_8_0 ?_
      refine g_aload_n (pc := 42) dX9_sign_42 rfl ?_
      refine v_getI hV (pc := 43) dX9_sign_43 fo_9_2 rfl k0_8 own_8 ?_
      by_cases c1 : inb (gi q 8 2) 240
      · rw [if_pos c1] at h
        refine v_iald hV (pc := 46) dX9_sign_46 k0_9 own_9 c1 ?_
        refine g_bipush (v := 32) (pc := 47) dX9_sign_47 (by decide) ?_
        refine g_icmp_ne (tgt := 65) (pc := 49) dX9_sign_49 (by decide) (fun c2 => ?_) (fun c2 => ?_)
        · rw [if_neg c2] at h
          cases h
          exact hK
        · rw [if_pos c2] at h
          refine g_aload_n (pc := 52) dX9_sign_52 rfl ?_
          refine g_dup (pc := 53) dX9_sign_53 rfl ?_
          refine v_getI hV (pc := 54) dX9_sign_54 fo_9_2 rfl k0_8 own_8 ?_
          refine g_iconst (v := 1) (pc := 57) dX9_sign_57 (by decide) ?_
          refine g_iadd (pc := 58) dX9_sign_58 ?_
          refine v_putI hV (pc := 59) dX9_sign_59 fo_9_2 rfl k0_8 own_8 rfl ?_
          refine g_goto (tgt := 23) (pc := 62) dX9_sign_62 (by decide) ?_
          cases h
          exact hK
      · rw [if_neg c1] at h; cases h
set_option maxRecDepth 4000 in
theorem w_Tp_sign_L23 {V : Sm → Wd} (hV : VwC V) {l : Launch} {Γ : Gm} {rF : Option Value} {wF : Wd} {v1 : Int32} {k : Nat} {q : Sm} {o : Sm} (h : lpN (Tp_sign_L23 v1) k q = some o) (hP : ps_Tp_sign_L23 V l Γ rF wF v1 o) : hd_Tp_sign_L23 V l Γ rF wF v1 q := lpN_ind2 (hd_Tp_sign_L23 V l Γ rF wF v1) (ps_Tp_sign_L23 V l Γ rF wF v1) (fun s o h hK => t_Tp_sign_L23 hV h hK) k q o h hP
def Tp_sign_93 (s0 : Int32) (S : Sm) : Option (Int32 × Sm) := (some ((s0, S)))
set_option maxRecDepth 4000 in
theorem t_Tp_sign_93 {V : Sm → Wd} (hV : VwC V) {l : Launch} {Γ : Gm} {s0 : Int32} {S : Sm} {q : Int32 × Sm} (h : Tp_sign_93 s0 S = some q) : G mX9_sign l Γ (rmD 1 0 0) (mQ Γ (some (.int q.1)) (V q.2) 0 0) 0 0 93 [none, none] [.int s0] (V S) := by
  unfold Tp_sign_93 at h
  cases h
  exact g_iret (pc := 93) dX9_sign_93 rfl rfl (Nat.le_refl _) (Nat.le_refl _)
def Tp_sign_92 (S : Sm) : Option (Int32 × Sm) := (Tp_sign_93 ((-1)) S)
set_option maxRecDepth 4000 in
theorem t_Tp_sign_92 {V : Sm → Wd} (hV : VwC V) {l : Launch} {Γ : Gm}  {S : Sm} {q : Int32 × Sm} (h : Tp_sign_92 S = some q) : G mX9_sign l Γ (rmD 1 0 0) (mQ Γ (some (.int q.1)) (V q.2) 0 0) 0 0 92 [none, none] [] (V S) := by
  unfold Tp_sign_92 at h
  refine g_iconst (v := (-1)) (pc := 92) dX9_sign_92 (by decide) ?_
  exact t_Tp_sign_93 hV h
def Tp_sign (S : Sm) : Option (Int32 × Sm) := (if (gi S 8 3) = ((-1)) then ((lpN (Tp_sign_L23 (iMin (gi S 8 1) 240)) FU S).bind fun q5 => (if (gi q5 8 2) < 0 then (Tp_sign_92 q5) else (if (iMin (gi S 8 1) 240) ≤ (gi q5 8 2) then (Tp_sign_92 q5) else (if inb (gi q5 8 2) 240 then (Tp_sign_93 (gi q5 9 (ix (gi q5 8 2))) q5) else none)))) else (some (((-1), S))))
set_option maxRecDepth 4000 in
theorem r_Tp_sign {V : Sm → Wd} (hV : VwC V)  {S : Sm} {q : Int32 × Sm} (h : Tp_sign S = some q) : Runs 1 mX9_sign [.ref 8] (V S) (some (.int q.1)) (V q.2) 0 0 := by
  unfold Tp_sign at h
  refine Runs.of2 [some (.ref 8), none] 1 rfl rfl (Nat.le_of_ble_eq_true rfl) (fun l Γ => ?_)
  refine g_aload_n (pc := 0) dX9_sign_0 rfl ?_
  refine v_getI hV (pc := 1) dX9_sign_1 fo_9_3 rfl k0_8 own_8 ?_
  refine g_iconst (v := (-1)) (pc := 4) dX9_sign_4 (by decide) ?_
  refine g_icmp_eq (tgt := 10) (pc := 5) dX9_sign_5 (by decide) (fun c9 => ?_) (fun c9 => ?_)
  · rw [if_pos c9] at h
    refine g_aload_n (pc := 10) dX9_sign_10 rfl ?_
    refine v_getI hV (pc := 11) dX9_sign_11 fo_9_1 rfl k0_8 own_8 ?_
    refine g_aload_n (pc := 14) dX9_sign_14 rfl ?_
    refine v_getR hV (pc := 15) dX9_sign_15 fo_9_0 rfl k0_8 r0_8_0 ?_
    refine v_alen hV (v := 240) (pc := 18) dX9_sign_18 k0_9 0 (fun _ => rfl) (by decide) ?_
    refine g_iMin (pc := 19) dX9_sign_19 mK_X9_37 ⟨Nat.le_of_ble_eq_true rfl, Nat.le_of_ble_eq_true rfl⟩ (Nat.zero_le _) (Nat.zero_le _) ?_
    refine g_istore_n (ls1 := [some (.ref 8), some (.int (iMin (gi S 8 1) 240))]) (pc := 22) dX9_sign_22 (by decide) rfl ?_
    obtain ⟨q5, hqq5, h⟩ := bnd h
    refine w_Tp_sign_L23 hV hqq5 ?_
    unfold ps_Tp_sign_L23
    show G _ _ _ _ _ _ _ _ _ _ _
    refine g_aload_n (pc := 65) dX9_sign_65 rfl ?_
    refine v_getI hV (pc := 66) dX9_sign_66 fo_9_2 rfl k0_8 own_8 ?_
    refine g_if_lt (tgt := 92) (pc := 69) dX9_sign_69 (by decide) (fun c8 => ?_) (fun c8 => ?_)
    · rw [if_pos c8] at h
      refine g_wk [false, false] rfl ?_
      exact t_Tp_sign_92 hV h
    · rw [if_neg c8] at h
      refine g_aload_n (pc := 72) dX9_sign_72 rfl ?_
      refine v_getI hV (pc := 73) dX9_sign_73 fo_9_2 rfl k0_8 own_8 ?_
      refine g_iload_n (pc := 76) dX9_sign_76 rfl ?_
      refine g_icmp_ge (tgt := 92) (pc := 77) dX9_sign_77 (by decide) (fun c7 => ?_) (fun c7 => ?_)
      · rw [if_pos c7] at h
        refine g_wk [false, false] rfl ?_
        exact t_Tp_sign_92 hV h
      · rw [if_neg c7] at h
        refine g_aload_n (pc := 80) dX9_sign_80 rfl ?_
        refine v_getR hV (pc := 81) dX9_sign_81 fo_9_0 rfl k0_8 r0_8_0 ?_
        refine g_aload_n (pc := 84) dX9_sign_84 rfl ?_
        refine v_getI hV (pc := 85) dX9_sign_85 fo_9_2 rfl k0_8 own_8 ?_
        by_cases c6 : inb (gi q5 8 2) 240
        · rw [if_pos c6] at h
          refine v_iald hV (pc := 88) dX9_sign_88 k0_9 own_9 c6 ?_
          refine g_goto (tgt := 93) (pc := 89) dX9_sign_89 (by decide) ?_
          refine g_wk [false, false] rfl ?_
          exact t_Tp_sign_93 hV h
        · rw [if_neg c6] at h; cases h
  · rw [if_neg c9] at h
    refine g_iconst (v := (-1)) (pc := 8) dX9_sign_8 (by decide) ?_
    cases h
    exact g_iret (pc := 9) dX9_sign_9 rfl rfl (Nat.le_refl _) (Nat.le_refl _)
def Tp_fail_16 (S : Sm) : Sm := S
set_option maxRecDepth 4000 in
theorem t_Tp_fail_16 {V : Sm → Wd} (hV : VwC V) {l : Launch} {Γ : Gm}  {S : Sm} {q : Sm} (h : Tp_fail_16 S = q) : G mX9_fail l Γ (rmD 0 0 0) (mQ Γ none (V q) 0 0) 0 0 16 [none] [] (V S) := by
  unfold Tp_fail_16 at h
  subst h
  exact g_vret (pc := 16) dX9_fail_16 rfl (Nat.le_refl _) (Nat.le_refl _)
def Tp_fail (S : Sm) : Sm := (if (gi S 8 3) = ((-1)) then (Tp_fail_16 (si S 8 3 (gi S 8 2))) else (Tp_fail_16 S))
set_option maxRecDepth 4000 in
theorem r_Tp_fail {V : Sm → Wd} (hV : VwC V)  {S : Sm} {q : Sm} (h : Tp_fail S = q) : Runs 0 mX9_fail [.ref 8] (V S) none (V q) 0 0 := by
  unfold Tp_fail at h
  refine Runs.of2 [some (.ref 8)] 0 rfl rfl (Nat.le_of_ble_eq_true rfl) (fun l Γ => ?_)
  refine g_aload_n (pc := 0) dX9_fail_0 rfl ?_
  refine v_getI hV (pc := 1) dX9_fail_1 fo_9_3 rfl k0_8 own_8 ?_
  refine g_iconst (v := (-1)) (pc := 4) dX9_fail_4 (by decide) ?_
  refine g_icmp_ne (tgt := 16) (pc := 5) dX9_fail_5 (by decide) (fun c1 => ?_) (fun c1 => ?_)
  · rw [if_neg c1] at h
    refine g_wk [false] rfl ?_
    exact t_Tp_fail_16 hV h
  · rw [if_pos c1] at h
    refine g_aload_n (pc := 8) dX9_fail_8 rfl ?_
    refine g_aload_n (pc := 9) dX9_fail_9 rfl ?_
    refine v_getI hV (pc := 10) dX9_fail_10 fo_9_2 rfl k0_8 own_8 ?_
    refine v_putI hV (pc := 13) dX9_fail_13 fo_9_3 rfl k0_8 own_8 rfl ?_
    refine g_wk [false] rfl ?_
    exact t_Tp_fail_16 hV h
def Tp_need_25 (S : Sm) : Option (Sm) := (some S)
set_option maxRecDepth 4000 in
theorem t_Tp_need_25 {V : Sm → Wd} (hV : VwC V) {l : Launch} {Γ : Gm}  {S : Sm} {q : Sm} (h : Tp_need_25 S = some q) : G mX9_need l Γ (rmD 2 0 0) (mQ Γ none (V q) 0 0) 0 0 25 [none, none] [] (V S) := by
  unfold Tp_need_25 at h
  cases h
  exact g_vret (pc := 25) dX9_need_25 rfl (Nat.le_refl _) (Nat.le_refl _)
def Tp_need (v1 : Int32) (S : Sm) : Option (Sm) := ((Tp_sign S).bind fun q1 => (if q1.1 = v1 then (Tp_need_25 (si q1.2 8 2 ((gi q1.2 8 2) + 1))) else (app (Tp_fail q1.2) fun q2 => (Tp_need_25 q2))))
set_option maxRecDepth 4000 in
theorem r_Tp_need {V : Sm → Wd} (hV : VwC V) {v1 : Int32} {S : Sm} {q : Sm} (h : Tp_need v1 S = some q) : Runs 2 mX9_need [.ref 8, .int v1] (V S) none (V q) 0 0 := by
  unfold Tp_need at h
  refine Runs.of2 [some (.ref 8), some (.int v1)] 0 rfl rfl (Nat.le_of_ble_eq_true rfl) (fun l Γ => ?_)
  refine g_aload_n (pc := 0) dX9_need_0 rfl ?_
  obtain ⟨q1, hq1, h⟩ := bnd h
  refine v_callVi hV (v := q1.1) (S1 := q1.2) (As := []) (rest := []) (q := (RX9, TX9, 4)) (pc := 1) dX9_need_1 mK_X9_43 mf_X9_sign rfl k0_8 rfl rfl rfl (Nat.le_of_ble_eq_true rfl) ⟨Nat.le_of_ble_eq_true rfl, Nat.le_of_ble_eq_true rfl⟩ (r_Tp_sign hV hq1) ?_
  refine g_iload_n (pc := 4) dX9_need_4 rfl ?_
  refine g_icmp_ne (tgt := 21) (pc := 5) dX9_need_5 (by decide) (fun c3 => ?_) (fun c3 => ?_)
  · rw [if_neg c3] at h
    refine g_aload_n (pc := 21) dX9_need_21 rfl ?_
    obtain ⟨q2, hq2, h⟩ := app_of h
    refine v_callVv hV (S1 := q2) (As := []) (rest := []) (q := (RX9, TX9, 4)) (pc := 22) dX9_need_22 mK_X9_47 mf_X9_fail rfl k0_8 rfl rfl rfl (Nat.le_of_ble_eq_true rfl) ⟨Nat.le_of_ble_eq_true rfl, Nat.le_of_ble_eq_true rfl⟩ (r_Tp_fail hV hq2) ?_
    refine g_wk [false, false] rfl ?_
    exact t_Tp_need_25 hV h
  · rw [if_pos c3] at h
    refine g_aload_n (pc := 8) dX9_need_8 rfl ?_
    refine g_dup (pc := 9) dX9_need_9 rfl ?_
    refine v_getI hV (pc := 10) dX9_need_10 fo_9_2 rfl k0_8 own_8 ?_
    refine g_iconst (v := 1) (pc := 13) dX9_need_13 (by decide) ?_
    refine g_iadd (pc := 14) dX9_need_14 ?_
    refine v_putI hV (pc := 15) dX9_need_15 fo_9_2 rfl k0_8 own_8 rfl ?_
    refine g_goto (tgt := 25) (pc := 18) dX9_need_18 (by decide) ?_
    refine g_wk [false, false] rfl ?_
    exact t_Tp_need_25 hV h
