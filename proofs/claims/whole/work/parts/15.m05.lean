/-! ===== printed by program: methods as functions over a state, and their walks ===== -/
def Md_isSet_26 (s0 : Int32) (S : Sm) : Int32 := (s0 &&& 1)
set_option maxRecDepth 4000 in
theorem t_Md_isSet_26 {V : Sm → Wd} (hV : VwT V) {l : Launch} {Γ : Gm} {s0 : Int32} {S : Sm} {q : Int32} (h : Md_isSet_26 s0 S = q) : G mX12_isSet l Γ (rmD 1 0 0) (mQ Γ (some (.int q)) (V S) 0 0) 0 0 26 [none, none] [.int s0] (V S) := by
  unfold Md_isSet_26 at h
  subst h
  exact g_iret (pc := 26) dX12_isSet_26 rfl rfl (Nat.le_refl _) (Nat.le_refl _)
def Md_isSet_25 (S : Sm) : Int32 := (Md_isSet_26 0 S)
set_option maxRecDepth 4000 in
theorem t_Md_isSet_25 {V : Sm → Wd} (hV : VwT V) {l : Launch} {Γ : Gm}  {S : Sm} {q : Int32} (h : Md_isSet_25 S = q) : G mX12_isSet l Γ (rmD 1 0 0) (mQ Γ (some (.int q)) (V S) 0 0) 0 0 25 [none, none] [] (V S) := by
  unfold Md_isSet_25 at h
  refine g_iconst (v := 0) (pc := 25) dX12_isSet_25 (by decide) ?_
  exact t_Md_isSet_26 hV h
def Md_isSet (v1 : Int32) (S : Sm) : Int32 := (if (gi S 68 0) ≤ 0 then (Md_isSet_25 S) else (if (Md_in v1 1 (Md_everyColour S)) = 0 then (Md_isSet_25 S) else (Md_isSet_26 1 S)))
set_option maxRecDepth 4000 in
theorem r_Md_isSet {V : Sm → Wd} (hV : VwT V) {v1 : Int32} {S : Sm} {q : Int32} (h : Md_isSet v1 S = q) : Runs 1 mX12_isSet [.ref 53, .int v1] (V S) (some (.int q)) (V S) 0 0 := by
  unfold Md_isSet at h
  refine Runs.of2 [some (.ref 53), some (.int v1)] 0 rfl rfl (Nat.le_of_ble_eq_true rfl) (fun l Γ => ?_)
  refine g_aload_n (pc := 0) dX12_isSet_0 rfl ?_
  refine v_getR hV (pc := 1) dX12_isSet_1 fo_12_24 rfl k0_53 r0_53_24 ?_
  refine g_iconst (v := 0) (pc := 4) dX12_isSet_4 (by decide) ?_
  refine v_ialdK hV (k := 0) (pc := 5) dX12_isSet_5 k0_68 own_68 (by decide) (by decide) ?_
  refine g_if_le (tgt := 25) (pc := 6) dX12_isSet_6 (by decide) (fun c2 => ?_) (fun c2 => ?_)
  · rw [if_pos c2] at h
    refine g_wk [false, false] rfl ?_
    exact t_Md_isSet_25 hV h
  · rw [if_neg c2] at h
    refine g_iload_n (pc := 9) dX12_isSet_9 rfl ?_
    refine g_iconst (v := 1) (pc := 10) dX12_isSet_10 (by decide) ?_
    refine g_aload_n (pc := 11) dX12_isSet_11 rfl ?_
    refine v_callVi hV (Mc := mX12_everyColour) (v := Md_everyColour S) (S1 := S) (As := []) (rest := [.int 1, .int v1]) (q := (RX12, TX12, 58)) (pc := 12) dX12_isSet_12 mK_X12_385 mf_X12_everyColour rfl k0_53 rfl rfl rfl (Nat.le_of_ble_eq_true rfl) ⟨Nat.le_of_ble_eq_true rfl, Nat.le_of_ble_eq_true rfl⟩ (r_Md_everyColour hV rfl) ?_
    refine v_callSi (Mc := mX12_in) (v := Md_in v1 1 (Md_everyColour S)) (S1 := S) (As := [.int v1, .int 1, .int (Md_everyColour S)]) (rest := []) (pc := 15) dX12_isSet_15 mK_X12_238 mf_X12_in rfl rfl (Nat.le_of_ble_eq_true rfl) ⟨Nat.le_of_ble_eq_true rfl, Nat.le_of_ble_eq_true rfl⟩ (r_Md_in hV rfl) ?_
    refine g_if_eq (tgt := 25) (pc := 18) dX12_isSet_18 (by decide) (fun c1 => ?_) (fun c1 => ?_)
    · rw [if_pos c1] at h
      refine g_wk [false, false] rfl ?_
      exact t_Md_isSet_25 hV h
    · rw [if_neg c1] at h
      refine g_iconst (v := 1) (pc := 21) dX12_isSet_21 (by decide) ?_
      refine g_goto (tgt := 26) (pc := 22) dX12_isSet_22 (by decide) ?_
      refine g_wk [false, false] rfl ?_
      exact t_Md_isSet_26 hV h
def Md_areMouths_21 (s0 : Int32) (S : Sm) : Int32 := (s0 &&& 1)
set_option maxRecDepth 4000 in
theorem t_Md_areMouths_21 {V : Sm → Wd} (hV : VwT V) {l : Launch} {Γ : Gm} {s0 : Int32} {S : Sm} {q : Int32} (h : Md_areMouths_21 s0 S = q) : G mX12_areMouths l Γ (rmD 2 0 0) (mQ Γ (some (.int q)) (V S) 0 0) 0 0 21 [none, none, none] [.int s0] (V S) := by
  unfold Md_areMouths_21 at h
  subst h
  exact g_iret (pc := 21) dX12_areMouths_21 rfl rfl (Nat.le_refl _) (Nat.le_refl _)
def Md_areMouths_20 (S : Sm) : Int32 := (Md_areMouths_21 0 S)
set_option maxRecDepth 4000 in
theorem t_Md_areMouths_20 {V : Sm → Wd} (hV : VwT V) {l : Launch} {Γ : Gm}  {S : Sm} {q : Int32} (h : Md_areMouths_20 S = q) : G mX12_areMouths l Γ (rmD 2 0 0) (mQ Γ (some (.int q)) (V S) 0 0) 0 0 20 [none, none, none] [] (V S) := by
  unfold Md_areMouths_20 at h
  refine g_iconst (v := 0) (pc := 20) dX12_areMouths_20 (by decide) ?_
  exact t_Md_areMouths_21 hV h
def Md_areMouths (v1 : Int32) (v2 : Int32) (S : Sm) : Int32 := (if (Md_isMouth v1 S) = 0 then (Md_areMouths_20 S) else (if (Md_isMouth v2 S) = 0 then (Md_areMouths_20 S) else (Md_areMouths_21 1 S)))
set_option maxRecDepth 4000 in
theorem r_Md_areMouths {V : Sm → Wd} (hV : VwT V) {v1 : Int32} {v2 : Int32} {S : Sm} {q : Int32} (h : Md_areMouths v1 v2 S = q) : Runs 2 mX12_areMouths [.ref 53, .int v1, .int v2] (V S) (some (.int q)) (V S) 0 0 := by
  unfold Md_areMouths at h
  refine Runs.of2 [some (.ref 53), some (.int v1), some (.int v2)] 0 rfl rfl (Nat.le_of_ble_eq_true rfl) (fun l Γ => ?_)
  refine g_aload_n (pc := 0) dX12_areMouths_0 rfl ?_
  refine g_iload_n (pc := 1) dX12_areMouths_1 rfl ?_
  refine v_callVi hV (Mc := mX12_isMouth) (v := Md_isMouth v1 S) (S1 := S) (As := [.int v1]) (rest := []) (q := (RX12, TX12, 58)) (pc := 2) dX12_areMouths_2 mK_X12_333 mf_X12_isMouth rfl k0_53 rfl rfl rfl (Nat.le_of_ble_eq_true rfl) ⟨Nat.le_of_ble_eq_true rfl, Nat.le_of_ble_eq_true rfl⟩ (r_Md_isMouth hV rfl) ?_
  refine g_if_eq (tgt := 20) (pc := 5) dX12_areMouths_5 (by decide) (fun c2 => ?_) (fun c2 => ?_)
  · rw [if_pos c2] at h
    refine g_wk [false, false, false] rfl ?_
    exact t_Md_areMouths_20 hV h
  · rw [if_neg c2] at h
    refine g_aload_n (pc := 8) dX12_areMouths_8 rfl ?_
    refine g_iload_n (pc := 9) dX12_areMouths_9 rfl ?_
    refine v_callVi hV (Mc := mX12_isMouth) (v := Md_isMouth v2 S) (S1 := S) (As := [.int v2]) (rest := []) (q := (RX12, TX12, 58)) (pc := 10) dX12_areMouths_10 mK_X12_333 mf_X12_isMouth rfl k0_53 rfl rfl rfl (Nat.le_of_ble_eq_true rfl) ⟨Nat.le_of_ble_eq_true rfl, Nat.le_of_ble_eq_true rfl⟩ (r_Md_isMouth hV rfl) ?_
    refine g_if_eq (tgt := 20) (pc := 13) dX12_areMouths_13 (by decide) (fun c1 => ?_) (fun c1 => ?_)
    · rw [if_pos c1] at h
      refine g_wk [false, false, false] rfl ?_
      exact t_Md_areMouths_20 hV h
    · rw [if_neg c1] at h
      refine g_iconst (v := 1) (pc := 16) dX12_areMouths_16 (by decide) ?_
      refine g_goto (tgt := 21) (pc := 17) dX12_areMouths_17 (by decide) ?_
      refine g_wk [false, false, false] rfl ?_
      exact t_Md_areMouths_21 hV h
def hd_Md_spreadChanges_L75 (V : Sm → Wd) (l : Launch) (Γ : Gm) (rF : Option Value) (wF : Wd) (v1 : Int32) (v3 : Int32) (v4 : Int32) (q : Int32 × Int32 × Sm) : Prop := G mX12_spreadChanges l Γ (rmD 1 0 0) (mQ Γ rF wF 0 0) 0 0 75 [some (.ref 53), some (.int v1), none, some (.int v3), some (.int v4), none, some (.int q.1), some (.int q.2.1), none] [] (V q.2.2)
def ps_Md_spreadChanges_L75 (V : Sm → Wd) (l : Launch) (Γ : Gm) (rF : Option Value) (wF : Wd) (v1 : Int32) (v3 : Int32) (v4 : Int32) (x : Int32 × Sm) : Prop := (fun (a : Int32 × Sm) => G mX12_spreadChanges l Γ (rmD 1 0 0) (mQ Γ rF wF 0 0) 0 0 137 [none, none, none, none, none, none, some (.int a.1), none, none] [] (V a.2)) x
def Md_spreadChanges_131_L75 (v1 : Int32) (v3 : Int32) (v4 : Int32) (v6 : Int32) (v7 : Int32) (S : Sm) : Option ((Int32 × Int32 × Sm) ⊕ (Int32 × Sm)) := (some (.inl (v6, v7 + 1, S)))
set_option maxRecDepth 4000 in
theorem t_Md_spreadChanges_131_L75 {V : Sm → Wd} (hV : VwT V) {l : Launch} {Γ : Gm} {v1 : Int32} {v3 : Int32} {v4 : Int32} {v6 : Int32} {v7 : Int32} {rF : Option Value} {wF : Wd} {S : Sm} {o : (Int32 × Int32 × Sm) ⊕ (Int32 × Sm)} (h : Md_spreadChanges_131_L75 v1 v3 v4 v6 v7 S = some o) (hK : Sum.elim (hd_Md_spreadChanges_L75 V l Γ rF wF v1 v3 v4) (ps_Md_spreadChanges_L75 V l Γ rF wF v1 v3 v4) o) : G mX12_spreadChanges l Γ (rmD 1 0 0) (mQ Γ rF wF 0 0) 0 0 131 [some (.ref 53), some (.int v1), none, some (.int v3), some (.int v4), none, some (.int v6), some (.int v7), none] [] (V S) := by
  unfold Md_spreadChanges_131_L75 at h
  refine g_iinc (v := v7 + 1) (ls1 := [some (.ref 53), some (.int v1), none, some (.int v3), some (.int v4), none, some (.int v6), some (.int (v7 + 1)), none]) (pc := 131) dX12_spreadChanges_131 rfl rfl (by decide) rfl ?_
  refine g_goto (tgt := 75) (pc := 134) dX12_spreadChanges_134 (by decide) ?_
  cases h
  exact hK
def Md_spreadChanges_L75 (v1 : Int32) (v3 : Int32) (v4 : Int32) (q : Int32 × Int32 × Sm) : Option ((Int32 × Int32 × Sm) ⊕ (Int32 × Sm)) := (if (gi q.2.2 68 1) ≤ q.2.1 then (some (.inr (q.1, q.2.2))) else (if (Md_has v3 q.2.1) = 0 then (Md_spreadChanges_131_L75 v1 v3 v4 q.1 q.2.1 q.2.2) else (if inb ((5 * v1) + q.2.1) 40 then (if (gi q.2.2 75 (ix ((5 * v1) + q.2.1))) ≤ (v4 + 1) then (Md_spreadChanges_131_L75 v1 v3 v4 q.1 q.2.1 q.2.2) else (if inb ((5 * v1) + q.2.1) 40 then (Md_spreadChanges_131_L75 v1 v3 v4 1 q.2.1 (si q.2.2 75 (ix ((5 * v1) + q.2.1)) (v4 + 1))) else none)) else none)))
set_option maxRecDepth 4000 in
theorem t_Md_spreadChanges_L75 {V : Sm → Wd} (hV : VwT V) {l : Launch} {Γ : Gm} {rF : Option Value} {wF : Wd} {v1 : Int32} {v3 : Int32} {v4 : Int32} {q : Int32 × Int32 × Sm} {o : (Int32 × Int32 × Sm) ⊕ (Int32 × Sm)} (h : Md_spreadChanges_L75 v1 v3 v4 q = some o) (hK : Sum.elim (hd_Md_spreadChanges_L75 V l Γ rF wF v1 v3 v4) (ps_Md_spreadChanges_L75 V l Γ rF wF v1 v3 v4) o) : hd_Md_spreadChanges_L75 V l Γ rF wF v1 v3 v4 q := by
  unfold Md_spreadChanges_L75 at h
  unfold hd_Md_spreadChanges_L75
  refine g_iload (pc := 75) dX12_spreadChanges_75 rfl ?_
  refine g_aload_n (pc := 77) dX12_spreadChanges_77 rfl ?_
  refine v_getR hV (pc := 78) dX12_spreadChanges_78 fo_12_24 rfl k0_53 r0_53_24 ?_
  refine g_iconst (v := 1) (pc := 81) dX12_spreadChanges_81 (by decide) ?_
  refine v_ialdK hV (k := 1) (pc := 82) dX12_spreadChanges_82 k0_68 own_68 (by decide) (by decide) ?_
  refine g_icmp_ge (tgt := 137) (pc := 83) dX12_spreadChanges_83 (by decide) (fun c10 => ?_) (fun c10 => ?_)
  · rw [if_pos c10] at h
    refine g_wk [false, false, false, false, false, false, true, false, false] rfl ?_
    cases h
    exact hK
  · rw [if_neg c10] at h
    refine g_iconst (v := 5) (pc := 86) dX12_spreadChanges_86 (by decide) ?_
    refine g_iload_n (pc := 87) dX12_spreadChanges_87 rfl ?_
    refine g_imul (pc := 88) dX12_spreadChanges_88 ?_
    refine g_iload (pc := 89) dX12_spreadChanges_89 rfl ?_
    refine g_iadd (pc := 91) dX12_spreadChanges_91 ?_
    refine g_istore (ls1 := [some (.ref 53), some (.int v1), none, some (.int v3), some (.int v4), none, some (.int q.1), some (.int q.2.1), some (.int ((5 * v1) + q.2.1))]) (pc := 92) dX12_spreadChanges_92 (by decide) rfl ?_
    refine g_iload_n (pc := 94) dX12_spreadChanges_94 rfl ?_
    refine g_iload (pc := 95) dX12_spreadChanges_95 rfl ?_
    refine v_callSi (Mc := mX12_has) (v := Md_has v3 q.2.1) (S1 := q.2.2) (As := [.int v3, .int q.2.1]) (rest := []) (pc := 97) dX12_spreadChanges_97 mK_X12_249 mf_X12_has rfl rfl (Nat.le_of_ble_eq_true rfl) ⟨Nat.le_of_ble_eq_true rfl, Nat.le_of_ble_eq_true rfl⟩ (r_Md_has hV rfl) ?_
    refine g_if_eq (tgt := 131) (pc := 100) dX12_spreadChanges_100 (by decide) (fun c9 => ?_) (fun c9 => ?_)
    · rw [if_pos c9] at h
      refine g_wk [true, true, false, true, true, false, true, true, false] rfl ?_
      exact t_Md_spreadChanges_131_L75 hV h hK
    · rw [if_neg c9] at h
      refine g_iload (pc := 103) dX12_spreadChanges_103 rfl ?_
      refine g_iconst (v := 1) (pc := 105) dX12_spreadChanges_105 (by decide) ?_
      refine g_iadd (pc := 106) dX12_spreadChanges_106 ?_
      refine g_aload_n (pc := 107) dX12_spreadChanges_107 rfl ?_
      refine v_getR hV (pc := 108) dX12_spreadChanges_108 fo_12_37 rfl k0_53 r0_53_37 ?_
      refine g_iload (pc := 111) dX12_spreadChanges_111 rfl ?_
      by_cases c6 : inb ((5 * v1) + q.2.1) 40
      · rw [if_pos c6] at h
        refine v_iald hV (pc := 113) dX12_spreadChanges_113 k0_75 own_75 c6 ?_
        refine g_icmp_ge (tgt := 131) (pc := 114) dX12_spreadChanges_114 (by decide) (fun c8 => ?_) (fun c8 => ?_)
        · rw [if_pos c8] at h
          refine g_wk [true, true, false, true, true, false, true, true, false] rfl ?_
          exact t_Md_spreadChanges_131_L75 hV h hK
        · rw [if_neg c8] at h
          refine g_aload_n (pc := 117) dX12_spreadChanges_117 rfl ?_
          refine v_getR hV (pc := 118) dX12_spreadChanges_118 fo_12_37 rfl k0_53 r0_53_37 ?_
          refine g_iload (pc := 121) dX12_spreadChanges_121 rfl ?_
          refine g_iload (pc := 123) dX12_spreadChanges_123 rfl ?_
          refine g_iconst (v := 1) (pc := 125) dX12_spreadChanges_125 (by decide) ?_
          refine g_iadd (pc := 126) dX12_spreadChanges_126 ?_
          by_cases c7 : inb ((5 * v1) + q.2.1) 40
          · rw [if_pos c7] at h
            refine v_iast hV (pc := 127) dX12_spreadChanges_127 k0_75 own_75 c7 ?_
            refine g_iconst (v := 1) (pc := 128) dX12_spreadChanges_128 (by decide) ?_
            refine g_istore (ls1 := [some (.ref 53), some (.int v1), none, some (.int v3), some (.int v4), none, some (.int 1), some (.int q.2.1), some (.int ((5 * v1) + q.2.1))]) (pc := 129) dX12_spreadChanges_129 (by decide) rfl ?_
            refine g_wk [true, true, false, true, true, false, true, true, false] rfl ?_
            exact t_Md_spreadChanges_131_L75 hV h hK
          · rw [if_neg c7] at h; cases h
      · rw [if_neg c6] at h; cases h
set_option maxRecDepth 4000 in
theorem w_Md_spreadChanges_L75 {V : Sm → Wd} (hV : VwT V) {l : Launch} {Γ : Gm} {rF : Option Value} {wF : Wd} {v1 : Int32} {v3 : Int32} {v4 : Int32} {k : Nat} {q : Int32 × Int32 × Sm} {o : Int32 × Sm} (h : lpN (Md_spreadChanges_L75 v1 v3 v4) k q = some o) (hP : ps_Md_spreadChanges_L75 V l Γ rF wF v1 v3 v4 o) : hd_Md_spreadChanges_L75 V l Γ rF wF v1 v3 v4 q := lpN_ind2 (hd_Md_spreadChanges_L75 V l Γ rF wF v1 v3 v4) (ps_Md_spreadChanges_L75 V l Γ rF wF v1 v3 v4) (fun s o h hK => t_Md_spreadChanges_L75 hV h hK) k q o h hP
def Md_spreadChanges_51 (v1 : Int32) (v3 : Int32) (v4 : Int32) (v5 : Int32) (s0 : Int32) (S : Sm) : Option (Int32 × Sm) := (if inb v5 40 then (if inb v5 40 then ((lpN (Md_spreadChanges_L75 v1 v3 v4) FU (s0, 0, si S 75 (ix v5) (iMin (gi S 75 (ix v5)) v4))).bind fun q11 => (some ((q11.1 &&& 1, q11.2)))) else none) else none)
set_option maxRecDepth 4000 in
theorem t_Md_spreadChanges_51 {V : Sm → Wd} (hV : VwT V) {l : Launch} {Γ : Gm} {v1 : Int32} {v3 : Int32} {v4 : Int32} {v5 : Int32} {s0 : Int32} {S : Sm} {q : Int32 × Sm} (h : Md_spreadChanges_51 v1 v3 v4 v5 s0 S = some q) : G mX12_spreadChanges l Γ (rmD 1 0 0) (mQ Γ (some (.int q.1)) (V q.2) 0 0) 0 0 51 [some (.ref 53), some (.int v1), none, some (.int v3), some (.int v4), some (.int v5), none, none, none] [.int s0] (V S) := by
  unfold Md_spreadChanges_51 at h
  refine g_istore (ls1 := [some (.ref 53), some (.int v1), none, some (.int v3), some (.int v4), some (.int v5), some (.int s0), none, none]) (pc := 51) dX12_spreadChanges_51 (by decide) rfl ?_
  refine g_aload_n (pc := 53) dX12_spreadChanges_53 rfl ?_
  refine v_getR hV (pc := 54) dX12_spreadChanges_54 fo_12_37 rfl k0_53 r0_53_37 ?_
  refine g_iload (pc := 57) dX12_spreadChanges_57 rfl ?_
  refine g_aload_n (pc := 59) dX12_spreadChanges_59 rfl ?_
  refine v_getR hV (pc := 60) dX12_spreadChanges_60 fo_12_37 rfl k0_53 r0_53_37 ?_
  refine g_iload (pc := 63) dX12_spreadChanges_63 rfl ?_
  by_cases c4 : inb v5 40
  · rw [if_pos c4] at h
    refine v_iald hV (pc := 65) dX12_spreadChanges_65 k0_75 own_75 c4 ?_
    refine g_iload (pc := 66) dX12_spreadChanges_66 rfl ?_
    refine g_iMin (pc := 68) dX12_spreadChanges_68 mK_X12_329 ⟨Nat.le_of_ble_eq_true rfl, Nat.le_of_ble_eq_true rfl⟩ (Nat.zero_le _) (Nat.zero_le _) ?_
    by_cases c5 : inb v5 40
    · rw [if_pos c5] at h
      refine v_iast hV (pc := 71) dX12_spreadChanges_71 k0_75 own_75 c5 ?_
      refine g_iconst (v := 0) (pc := 72) dX12_spreadChanges_72 (by decide) ?_
      refine g_istore (ls1 := [some (.ref 53), some (.int v1), none, some (.int v3), some (.int v4), some (.int v5), some (.int s0), some (.int 0), none]) (pc := 73) dX12_spreadChanges_73 (by decide) rfl ?_
      refine g_wk [true, true, false, true, true, false, true, true, false] rfl ?_
      obtain ⟨q11, hqq11, h⟩ := bnd h
      refine w_Md_spreadChanges_L75 hV hqq11 ?_
      unfold ps_Md_spreadChanges_L75
      show G _ _ _ _ _ _ _ _ _ _ _
      refine g_iload (pc := 137) dX12_spreadChanges_137 rfl ?_
      cases h
      exact g_iret (pc := 139) dX12_spreadChanges_139 rfl rfl (Nat.le_refl _) (Nat.le_refl _)
    · rw [if_neg c5] at h; cases h
  · rw [if_neg c4] at h; cases h
def Md_spreadChanges (v1 : Int32) (v2 : Int32) (v3 : Int32) (S : Sm) : Option (Int32 × Sm) := (if inb ((5 * v1) + v2) 40 then (if (gi S 75 (ix ((5 * v1) + v2))) = 1000000 then (some ((0, S))) else ((Md_leads v1 v2 S).bind fun q2 => (if inb ((5 * q2) + v2) 40 then (if (gi S 75 (ix ((5 * q2) + v2))) ≤ (gi S 75 (ix ((5 * v1) + v2))) then (Md_spreadChanges_51 v1 v3 (gi S 75 (ix ((5 * v1) + v2))) ((5 * q2) + v2) 0 S) else (Md_spreadChanges_51 v1 v3 (gi S 75 (ix ((5 * v1) + v2))) ((5 * q2) + v2) 1 S)) else none))) else none)
set_option maxRecDepth 4000 in
theorem r_Md_spreadChanges {V : Sm → Wd} (hV : VwT V) {v1 : Int32} {v2 : Int32} {v3 : Int32} {S : Sm} {q : Int32 × Sm} (h : Md_spreadChanges v1 v2 v3 S = some q) : Runs 1 mX12_spreadChanges [.ref 53, .int v1, .int v2, .int v3] (V S) (some (.int q.1)) (V q.2) 0 0 := by
  unfold Md_spreadChanges at h
  refine Runs.of2 [some (.ref 53), some (.int v1), some (.int v2), some (.int v3), none, none, none, none, none] 5 rfl rfl (Nat.le_of_ble_eq_true rfl) (fun l Γ => ?_)
  refine g_aload_n (pc := 0) dX12_spreadChanges_0 rfl ?_
  refine v_getR hV (pc := 1) dX12_spreadChanges_1 fo_12_37 rfl k0_53 r0_53_37 ?_
  refine g_iconst (v := 5) (pc := 4) dX12_spreadChanges_4 (by decide) ?_
  refine g_iload_n (pc := 5) dX12_spreadChanges_5 rfl ?_
  refine g_imul (pc := 6) dX12_spreadChanges_6 ?_
  refine g_iload_n (pc := 7) dX12_spreadChanges_7 rfl ?_
  refine g_iadd (pc := 8) dX12_spreadChanges_8 ?_
  by_cases c1 : inb ((5 * v1) + v2) 40
  · rw [if_pos c1] at h
    refine v_iald hV (pc := 9) dX12_spreadChanges_9 k0_75 own_75 c1 ?_
    refine g_istore (ls1 := [some (.ref 53), some (.int v1), some (.int v2), some (.int v3), some (.int (gi S 75 (ix ((5 * v1) + v2)))), none, none, none, none]) (pc := 10) dX12_spreadChanges_10 (by decide) rfl ?_
    refine g_iload (pc := 12) dX12_spreadChanges_12 rfl ?_
    refine g_ldcw (v := 1000000) (pc := 14) dX12_spreadChanges_14 kI_X12_388 ?_
    refine g_icmp_ne (tgt := 22) (pc := 17) dX12_spreadChanges_17 (by decide) (fun c13 => ?_) (fun c13 => ?_)
    · rw [if_neg c13] at h
      refine g_iconst (v := 5) (pc := 22) dX12_spreadChanges_22 (by decide) ?_
      refine g_aload_n (pc := 23) dX12_spreadChanges_23 rfl ?_
      refine g_iload_n (pc := 24) dX12_spreadChanges_24 rfl ?_
      refine g_iload_n (pc := 25) dX12_spreadChanges_25 rfl ?_
      obtain ⟨q2, hq2, h⟩ := bnd h
      refine v_callVi hV (Mc := mX12_leads) (v := q2) (S1 := S) (As := [.int v1, .int v2]) (rest := [.int 5]) (q := (RX12, TX12, 58)) (pc := 26) dX12_spreadChanges_26 mK_X12_323 mf_X12_leads rfl k0_53 rfl rfl rfl (Nat.le_of_ble_eq_true rfl) ⟨Nat.le_of_ble_eq_true rfl, Nat.le_of_ble_eq_true rfl⟩ (r_Md_leads hV hq2) ?_
      refine g_imul (pc := 29) dX12_spreadChanges_29 ?_
      refine g_iload_n (pc := 30) dX12_spreadChanges_30 rfl ?_
      refine g_iadd (pc := 31) dX12_spreadChanges_31 ?_
      refine g_istore (ls1 := [some (.ref 53), some (.int v1), some (.int v2), some (.int v3), some (.int (gi S 75 (ix ((5 * v1) + v2)))), some (.int ((5 * q2) + v2)), none, none, none]) (pc := 32) dX12_spreadChanges_32 (by decide) rfl ?_
      refine g_iload (pc := 34) dX12_spreadChanges_34 rfl ?_
      refine g_aload_n (pc := 36) dX12_spreadChanges_36 rfl ?_
      refine v_getR hV (pc := 37) dX12_spreadChanges_37 fo_12_37 rfl k0_53 r0_53_37 ?_
      refine g_iload (pc := 40) dX12_spreadChanges_40 rfl ?_
      by_cases c3 : inb ((5 * q2) + v2) 40
      · rw [if_pos c3] at h
        refine v_iald hV (pc := 42) dX12_spreadChanges_42 k0_75 own_75 c3 ?_
        refine g_icmp_ge (tgt := 50) (pc := 43) dX12_spreadChanges_43 (by decide) (fun c12 => ?_) (fun c12 => ?_)
        · rw [if_pos c12] at h
          refine g_iconst (v := 0) (pc := 50) dX12_spreadChanges_50 (by decide) ?_
          refine g_wk [true, true, false, true, true, true, false, false, false] rfl ?_
          exact t_Md_spreadChanges_51 hV h
        · rw [if_neg c12] at h
          refine g_iconst (v := 1) (pc := 46) dX12_spreadChanges_46 (by decide) ?_
          refine g_goto (tgt := 51) (pc := 47) dX12_spreadChanges_47 (by decide) ?_
          refine g_wk [true, true, false, true, true, true, false, false, false] rfl ?_
          exact t_Md_spreadChanges_51 hV h
      · rw [if_neg c3] at h; cases h
    · rw [if_pos c13] at h
      refine g_iconst (v := 0) (pc := 20) dX12_spreadChanges_20 (by decide) ?_
      cases h
      exact g_iret (u := 0) (pc := 21) dX12_spreadChanges_21 rfl (by decide) (Nat.le_refl _) (Nat.le_refl _)
  · rw [if_neg c1] at h; cases h
def hd_Md_layChanges_L2 (V : Sm → Wd) (l : Launch) (Γ : Gm) (rF : Option Value) (wF : Wd) (v1 : Int32) (v2 : Int32) (q : Int32 × Sm) : Prop := G mX12_layChanges l Γ (rmD 2 0 0) (mQ Γ rF wF 0 0) 0 0 2 [some (.ref 53), some (.int v1), some (.int v2), some (.int q.1), none, none] [] (V q.2)
def ps_Md_layChanges_L2 (V : Sm → Wd) (l : Launch) (Γ : Gm) (rF : Option Value) (wF : Wd) (v1 : Int32) (v2 : Int32) (x : Sm) : Prop := (fun (a : Sm) => G mX12_layChanges l Γ (rmD 2 0 0) (mQ Γ rF wF 0 0) 0 0 23 [some (.ref 53), some (.int v1), some (.int v2), none, none, none] [] (V a)) x
def Md_layChanges_L2 (v1 : Int32) (v2 : Int32) (q : Int32 × Sm) : Option ((Int32 × Sm) ⊕ (Sm)) := (if (40 : Int32) ≤ q.1 then (some (.inr q.2)) else (if inb q.1 40 then (some (.inl (q.1 + 1, si q.2 75 (ix q.1) 1000000))) else none))
set_option maxRecDepth 4000 in
theorem t_Md_layChanges_L2 {V : Sm → Wd} (hV : VwT V) {l : Launch} {Γ : Gm} {rF : Option Value} {wF : Wd} {v1 : Int32} {v2 : Int32} {q : Int32 × Sm} {o : (Int32 × Sm) ⊕ (Sm)} (h : Md_layChanges_L2 v1 v2 q = some o) (hK : Sum.elim (hd_Md_layChanges_L2 V l Γ rF wF v1 v2) (ps_Md_layChanges_L2 V l Γ rF wF v1 v2) o) : hd_Md_layChanges_L2 V l Γ rF wF v1 v2 q := by
  unfold Md_layChanges_L2 at h
  unfold hd_Md_layChanges_L2
  refine g_iload_n (pc := 2) dX12_layChanges_2 rfl ?_
  refine g_bipush (v := 40) (pc := 3) dX12_layChanges_3 (by decide) ?_
  refine g_icmp_ge (tgt := 23) (pc := 5) dX12_layChanges_5 (by decide) (fun c2 => ?_) (fun c2 => ?_)
  · rw [if_pos c2] at h
    refine g_wk [true, true, true, false, false, false] rfl ?_
    cases h
    exact hK
  · rw [if_neg c2] at h
    refine g_aload_n (pc := 8) dX12_layChanges_8 rfl ?_
    refine v_getR hV (pc := 9) dX12_layChanges_9 fo_12_37 rfl k0_53 r0_53_37 ?_
    refine g_iload_n (pc := 12) dX12_layChanges_12 rfl ?_
    refine g_ldcw (v := 1000000) (pc := 13) dX12_layChanges_13 kI_X12_388 ?_
    by_cases c1 : inb q.1 40
    · rw [if_pos c1] at h
      refine v_iast hV (pc := 16) dX12_layChanges_16 k0_75 own_75 c1 ?_
      refine g_iinc (v := q.1 + 1) (ls1 := [some (.ref 53), some (.int v1), some (.int v2), some (.int (q.1 + 1)), none, none]) (pc := 17) dX12_layChanges_17 rfl rfl (by decide) rfl ?_
      refine g_goto (tgt := 2) (pc := 20) dX12_layChanges_20 (by decide) ?_
      cases h
      exact hK
    · rw [if_neg c1] at h; cases h
set_option maxRecDepth 4000 in
theorem w_Md_layChanges_L2 {V : Sm → Wd} (hV : VwT V) {l : Launch} {Γ : Gm} {rF : Option Value} {wF : Wd} {v1 : Int32} {v2 : Int32} {k : Nat} {q : Int32 × Sm} {o : Sm} (h : lpN (Md_layChanges_L2 v1 v2) k q = some o) (hP : ps_Md_layChanges_L2 V l Γ rF wF v1 v2 o) : hd_Md_layChanges_L2 V l Γ rF wF v1 v2 q := lpN_ind2 (hd_Md_layChanges_L2 V l Γ rF wF v1 v2) (ps_Md_layChanges_L2 V l Γ rF wF v1 v2) (fun s o h hK => t_Md_layChanges_L2 hV h hK) k q o h hP
def hd_Md_layChanges_L25 (V : Sm → Wd) (l : Launch) (Γ : Gm) (rF : Option Value) (wF : Wd) (v1 : Int32) (v2 : Int32) (q : Int32 × Sm) : Prop := G mX12_layChanges l Γ (rmD 2 0 0) (mQ Γ rF wF 0 0) 0 0 25 [some (.ref 53), some (.int v1), some (.int v2), some (.int q.1), none, none] [] (V q.2)
def ps_Md_layChanges_L25 (V : Sm → Wd) (l : Launch) (Γ : Gm) (rF : Option Value) (wF : Wd) (v1 : Int32) (v2 : Int32) (x : Sm) : Prop := (fun (a : Sm) => G mX12_layChanges l Γ (rmD 2 0 0) (mQ Γ rF wF 0 0) 0 0 66 [some (.ref 53), none, some (.int v2), none, none, none] [] (V a)) x
def Md_layChanges_59_L25 (v1 : Int32) (v2 : Int32) (v3 : Int32) (s1 : Int32) (s2 : Int32) (S : Sm) : Option ((Int32 × Sm) ⊕ (Sm)) := (if inb s1 40 then (some (.inl (v3 + 1, si S 75 (ix s1) s2))) else none)
set_option maxRecDepth 4000 in
theorem t_Md_layChanges_59_L25 {V : Sm → Wd} (hV : VwT V) {l : Launch} {Γ : Gm} {v1 : Int32} {v2 : Int32} {v3 : Int32} {s1 : Int32} {s2 : Int32} {rF : Option Value} {wF : Wd} {S : Sm} {o : (Int32 × Sm) ⊕ (Sm)} (h : Md_layChanges_59_L25 v1 v2 v3 s1 s2 S = some o) (hK : Sum.elim (hd_Md_layChanges_L25 V l Γ rF wF v1 v2) (ps_Md_layChanges_L25 V l Γ rF wF v1 v2) o) : G mX12_layChanges l Γ (rmD 2 0 0) (mQ Γ rF wF 0 0) 0 0 59 [some (.ref 53), some (.int v1), some (.int v2), some (.int v3), none, none] [.int s2, .int s1, .ref 75] (V S) := by
  unfold Md_layChanges_59_L25 at h
  by_cases c4 : inb s1 40
  · rw [if_pos c4] at h
    refine v_iast hV (pc := 59) dX12_layChanges_59 k0_75 own_75 c4 ?_
    refine g_iinc (v := v3 + 1) (ls1 := [some (.ref 53), some (.int v1), some (.int v2), some (.int (v3 + 1)), none, none]) (pc := 60) dX12_layChanges_60 rfl rfl (by decide) rfl ?_
    refine g_goto (tgt := 25) (pc := 63) dX12_layChanges_63 (by decide) ?_
    cases h
    exact hK
  · rw [if_neg c4] at h; cases h
def Md_layChanges_L25 (v1 : Int32) (v2 : Int32) (q : Int32 × Sm) : Option ((Int32 × Sm) ⊕ (Sm)) := (if (gi q.2 68 1) ≤ q.1 then (some (.inr q.2)) else (if (Md_has v2 q.1) = 0 then (Md_layChanges_59_L25 v1 v2 q.1 ((5 * v1) + q.1) 1000000 q.2) else (Md_layChanges_59_L25 v1 v2 q.1 ((5 * v1) + q.1) 0 q.2)))
set_option maxRecDepth 4000 in
theorem t_Md_layChanges_L25 {V : Sm → Wd} (hV : VwT V) {l : Launch} {Γ : Gm} {rF : Option Value} {wF : Wd} {v1 : Int32} {v2 : Int32} {q : Int32 × Sm} {o : (Int32 × Sm) ⊕ (Sm)} (h : Md_layChanges_L25 v1 v2 q = some o) (hK : Sum.elim (hd_Md_layChanges_L25 V l Γ rF wF v1 v2) (ps_Md_layChanges_L25 V l Γ rF wF v1 v2) o) : hd_Md_layChanges_L25 V l Γ rF wF v1 v2 q := by
  unfold Md_layChanges_L25 at h
  unfold hd_Md_layChanges_L25
  refine g_iload_n (pc := 25) dX12_layChanges_25 rfl ?_
  refine g_aload_n (pc := 26) dX12_layChanges_26 rfl ?_
  refine v_getR hV (pc := 27) dX12_layChanges_27 fo_12_24 rfl k0_53 r0_53_24 ?_
  refine g_iconst (v := 1) (pc := 30) dX12_layChanges_30 (by decide) ?_
  refine v_ialdK hV (k := 1) (pc := 31) dX12_layChanges_31 k0_68 own_68 (by decide) (by decide) ?_
  refine g_icmp_ge (tgt := 66) (pc := 32) dX12_layChanges_32 (by decide) (fun c6 => ?_) (fun c6 => ?_)
  · rw [if_pos c6] at h
    refine g_wk [true, false, true, false, false, false] rfl ?_
    cases h
    exact hK
  · rw [if_neg c6] at h
    refine g_aload_n (pc := 35) dX12_layChanges_35 rfl ?_
    refine v_getR hV (pc := 36) dX12_layChanges_36 fo_12_37 rfl k0_53 r0_53_37 ?_
    refine g_iconst (v := 5) (pc := 39) dX12_layChanges_39 (by decide) ?_
    refine g_iload_n (pc := 40) dX12_layChanges_40 rfl ?_
    refine g_imul (pc := 41) dX12_layChanges_41 ?_
    refine g_iload_n (pc := 42) dX12_layChanges_42 rfl ?_
    refine g_iadd (pc := 43) dX12_layChanges_43 ?_
    refine g_iload_n (pc := 44) dX12_layChanges_44 rfl ?_
    refine g_iload_n (pc := 45) dX12_layChanges_45 rfl ?_
    refine v_callSi (Mc := mX12_has) (v := Md_has v2 q.1) (S1 := q.2) (As := [.int v2, .int q.1]) (rest := [.int ((5 * v1) + q.1), .ref 75]) (pc := 46) dX12_layChanges_46 mK_X12_249 mf_X12_has rfl rfl (Nat.le_of_ble_eq_true rfl) ⟨Nat.le_of_ble_eq_true rfl, Nat.le_of_ble_eq_true rfl⟩ (r_Md_has hV rfl) ?_
    refine g_if_eq (tgt := 56) (pc := 49) dX12_layChanges_49 (by decide) (fun c5 => ?_) (fun c5 => ?_)
    · rw [if_pos c5] at h
      refine g_ldcw (v := 1000000) (pc := 56) dX12_layChanges_56 kI_X12_388 ?_
      exact t_Md_layChanges_59_L25 hV h hK
    · rw [if_neg c5] at h
      refine g_iconst (v := 0) (pc := 52) dX12_layChanges_52 (by decide) ?_
      refine g_goto (tgt := 59) (pc := 53) dX12_layChanges_53 (by decide) ?_
      exact t_Md_layChanges_59_L25 hV h hK
set_option maxRecDepth 4000 in
theorem w_Md_layChanges_L25 {V : Sm → Wd} (hV : VwT V) {l : Launch} {Γ : Gm} {rF : Option Value} {wF : Wd} {v1 : Int32} {v2 : Int32} {k : Nat} {q : Int32 × Sm} {o : Sm} (h : lpN (Md_layChanges_L25 v1 v2) k q = some o) (hP : ps_Md_layChanges_L25 V l Γ rF wF v1 v2 o) : hd_Md_layChanges_L25 V l Γ rF wF v1 v2 q := lpN_ind2 (hd_Md_layChanges_L25 V l Γ rF wF v1 v2) (ps_Md_layChanges_L25 V l Γ rF wF v1 v2) (fun s o h hK => t_Md_layChanges_L25 hV h hK) k q o h hP
def hd_Md_layChanges_L68 (V : Sm → Wd) (l : Launch) (Γ : Gm) (rF : Option Value) (wF : Wd) (v2 : Int32) (q : Int32 × Sm) : Prop := G mX12_layChanges l Γ (rmD 2 0 0) (mQ Γ rF wF 0 0) 0 0 68 [some (.ref 53), none, some (.int v2), some (.int q.1), none, none] [] (V q.2)
def ps_Md_layChanges_L68 (V : Sm → Wd) (l : Launch) (Γ : Gm) (rF : Option Value) (wF : Wd) (v2 : Int32) (x : Sm) : Prop := (fun (a : Sm) => G mX12_layChanges l Γ (rmD 2 0 0) (mQ Γ rF wF 0 0) 0 0 139 [none, none, none, none, none, none] [] (V a)) x
def hd_Md_layChanges_L77 (V : Sm → Wd) (l : Launch) (Γ : Gm) (rF : Option Value) (wF : Wd) (v2 : Int32) (q : Int32 × Int32 × Sm) : Prop := G mX12_layChanges l Γ (rmD 2 0 0) (mQ Γ rF wF 0 0) 0 0 77 [some (.ref 53), none, some (.int v2), some (.int q.1), some (.int q.2.1), none] [] (V q.2.2)
def ps_Md_layChanges_L77 (V : Sm → Wd) (l : Launch) (Γ : Gm) (rF : Option Value) (wF : Wd) (v2 : Int32) (x : Int32 × Sm) : Prop := (fun (a : Int32 × Sm) => G mX12_layChanges l Γ (rmD 2 0 0) (mQ Γ rF wF 0 0) 0 0 136 [some (.ref 53), none, some (.int v2), some (.int a.1), none, none] [] (V a.2)) x
def hd_Md_layChanges_L91 (V : Sm → Wd) (l : Launch) (Γ : Gm) (rF : Option Value) (wF : Wd) (v2 : Int32) (v4 : Int32) (q : Int32 × Int32 × Sm) : Prop := G mX12_layChanges l Γ (rmD 2 0 0) (mQ Γ rF wF 0 0) 0 0 91 [some (.ref 53), none, some (.int v2), some (.int q.1), some (.int v4), some (.int q.2.1)] [] (V q.2.2)
def ps_Md_layChanges_L91 (V : Sm → Wd) (l : Launch) (Γ : Gm) (rF : Option Value) (wF : Wd) (v2 : Int32) (v4 : Int32) (x : Int32 × Sm) : Prop := (fun (a : Int32 × Sm) => G mX12_layChanges l Γ (rmD 2 0 0) (mQ Γ rF wF 0 0) 0 0 130 [some (.ref 53), none, some (.int v2), some (.int a.1), some (.int v4), none] [] (V a.2)) x
def Md_layChanges_123_L91 (v2 : Int32) (v4 : Int32) (v5 : Int32) (s0 : Int32) (S : Sm) : Option ((Int32 × Int32 × Sm) ⊕ (Int32 × Sm)) := (some (.inl (s0, v5 + 1, S)))
set_option maxRecDepth 4000 in
theorem t_Md_layChanges_123_L91 {V : Sm → Wd} (hV : VwT V) {l : Launch} {Γ : Gm} {v2 : Int32} {v4 : Int32} {v5 : Int32} {s0 : Int32} {rF : Option Value} {wF : Wd} {S : Sm} {o : (Int32 × Int32 × Sm) ⊕ (Int32 × Sm)} (h : Md_layChanges_123_L91 v2 v4 v5 s0 S = some o) (hK : Sum.elim (hd_Md_layChanges_L91 V l Γ rF wF v2 v4) (ps_Md_layChanges_L91 V l Γ rF wF v2 v4) o) : G mX12_layChanges l Γ (rmD 2 0 0) (mQ Γ rF wF 0 0) 0 0 123 [some (.ref 53), none, some (.int v2), none, some (.int v4), some (.int v5)] [.int s0] (V S) := by
  unfold Md_layChanges_123_L91 at h
  refine g_istore_n (ls1 := [some (.ref 53), none, some (.int v2), some (.int s0), some (.int v4), some (.int v5)]) (pc := 123) dX12_layChanges_123 (by decide) rfl ?_
  refine g_iinc (v := v5 + 1) (ls1 := [some (.ref 53), none, some (.int v2), some (.int s0), some (.int v4), some (.int (v5 + 1))]) (pc := 124) dX12_layChanges_124 rfl rfl (by decide) rfl ?_
  refine g_goto (tgt := 91) (pc := 127) dX12_layChanges_127 (by decide) ?_
  cases h
  exact hK
def Md_layChanges_118_L91 (v2 : Int32) (v4 : Int32) (v5 : Int32) (S : Sm) : Option ((Int32 × Int32 × Sm) ⊕ (Int32 × Sm)) := (Md_layChanges_123_L91 v2 v4 v5 1 S)
set_option maxRecDepth 4000 in
theorem t_Md_layChanges_118_L91 {V : Sm → Wd} (hV : VwT V) {l : Launch} {Γ : Gm} {v2 : Int32} {v4 : Int32} {v5 : Int32} {rF : Option Value} {wF : Wd} {S : Sm} {o : (Int32 × Int32 × Sm) ⊕ (Int32 × Sm)} (h : Md_layChanges_118_L91 v2 v4 v5 S = some o) (hK : Sum.elim (hd_Md_layChanges_L91 V l Γ rF wF v2 v4) (ps_Md_layChanges_L91 V l Γ rF wF v2 v4) o) : G mX12_layChanges l Γ (rmD 2 0 0) (mQ Γ rF wF 0 0) 0 0 118 [some (.ref 53), none, some (.int v2), none, some (.int v4), some (.int v5)] [] (V S) := by
  unfold Md_layChanges_118_L91 at h
  refine g_iconst (v := 1) (pc := 118) dX12_layChanges_118 (by decide) ?_
  refine g_goto (tgt := 123) (pc := 119) dX12_layChanges_119 (by decide) ?_
  exact t_Md_layChanges_123_L91 hV h hK
def Md_layChanges_L91 (v2 : Int32) (v4 : Int32) (q : Int32 × Int32 × Sm) : Option ((Int32 × Int32 × Sm) ⊕ (Int32 × Sm)) := (if (gi q.2.2 68 1) ≤ q.2.1 then (some (.inr (q.1, q.2.2))) else ((Md_spreadChanges v4 q.2.1 v2 q.2.2).bind fun q8 => (if q8.1 = 0 then (if q.1 = 0 then (Md_layChanges_123_L91 v2 v4 q.2.1 0 q8.2) else (Md_layChanges_118_L91 v2 v4 q.2.1 q8.2)) else (Md_layChanges_118_L91 v2 v4 q.2.1 q8.2))))
set_option maxRecDepth 4000 in
theorem t_Md_layChanges_L91 {V : Sm → Wd} (hV : VwT V) {l : Launch} {Γ : Gm} {rF : Option Value} {wF : Wd} {v2 : Int32} {v4 : Int32} {q : Int32 × Int32 × Sm} {o : (Int32 × Int32 × Sm) ⊕ (Int32 × Sm)} (h : Md_layChanges_L91 v2 v4 q = some o) (hK : Sum.elim (hd_Md_layChanges_L91 V l Γ rF wF v2 v4) (ps_Md_layChanges_L91 V l Γ rF wF v2 v4) o) : hd_Md_layChanges_L91 V l Γ rF wF v2 v4 q := by
  unfold Md_layChanges_L91 at h
  unfold hd_Md_layChanges_L91
  refine g_iload (pc := 91) dX12_layChanges_91 rfl ?_
  refine g_aload_n (pc := 93) dX12_layChanges_93 rfl ?_
  refine v_getR hV (pc := 94) dX12_layChanges_94 fo_12_24 rfl k0_53 r0_53_24 ?_
  refine g_iconst (v := 1) (pc := 97) dX12_layChanges_97 (by decide) ?_
  refine v_ialdK hV (k := 1) (pc := 98) dX12_layChanges_98 k0_68 own_68 (by decide) (by decide) ?_
  refine g_icmp_ge (tgt := 130) (pc := 99) dX12_layChanges_99 (by decide) (fun c11 => ?_) (fun c11 => ?_)
  · rw [if_pos c11] at h
    refine g_wk [true, false, true, true, true, false] rfl ?_
    cases h
    exact hK
  · rw [if_neg c11] at h
    refine g_aload_n (pc := 102) dX12_layChanges_102 rfl ?_
    refine g_iload (pc := 103) dX12_layChanges_103 rfl ?_
    refine g_iload (pc := 105) dX12_layChanges_105 rfl ?_
    refine g_iload_n (pc := 107) dX12_layChanges_107 rfl ?_
    obtain ⟨q8, hq8, h⟩ := bnd h
    refine v_callVi hV (Mc := mX12_spreadChanges) (v := q8.1) (S1 := q8.2) (As := [.int v4, .int q.2.1, .int v2]) (rest := []) (q := (RX12, TX12, 58)) (pc := 108) dX12_layChanges_108 mK_X12_389 mf_X12_spreadChanges rfl k0_53 rfl rfl rfl (Nat.le_of_ble_eq_true rfl) ⟨Nat.le_of_ble_eq_true rfl, Nat.le_of_ble_eq_true rfl⟩ (r_Md_spreadChanges hV hq8) ?_
    refine g_if_ne (tgt := 118) (pc := 111) dX12_layChanges_111 (by decide) (fun c10 => ?_) (fun c10 => ?_)
    · rw [if_neg c10] at h
      refine g_wk [true, false, true, false, true, true] rfl ?_
      exact t_Md_layChanges_118_L91 hV h hK
    · rw [if_pos c10] at h
      refine g_iload_n (pc := 114) dX12_layChanges_114 rfl ?_
      refine g_if_eq (tgt := 122) (pc := 115) dX12_layChanges_115 (by decide) (fun c9 => ?_) (fun c9 => ?_)
      · rw [if_pos c9] at h
        refine g_iconst (v := 0) (pc := 122) dX12_layChanges_122 (by decide) ?_
        refine g_wk [true, false, true, false, true, true] rfl ?_
        exact t_Md_layChanges_123_L91 hV h hK
      · rw [if_neg c9] at h
        refine g_wk [true, false, true, false, true, true] rfl ?_
        exact t_Md_layChanges_118_L91 hV h hK
set_option maxRecDepth 4000 in
theorem w_Md_layChanges_L91 {V : Sm → Wd} (hV : VwT V) {l : Launch} {Γ : Gm} {rF : Option Value} {wF : Wd} {v2 : Int32} {v4 : Int32} {k : Nat} {q : Int32 × Int32 × Sm} {o : Int32 × Sm} (h : lpN (Md_layChanges_L91 v2 v4) k q = some o) (hP : ps_Md_layChanges_L91 V l Γ rF wF v2 v4 o) : hd_Md_layChanges_L91 V l Γ rF wF v2 v4 q := lpN_ind2 (hd_Md_layChanges_L91 V l Γ rF wF v2 v4) (ps_Md_layChanges_L91 V l Γ rF wF v2 v4) (fun s o h hK => t_Md_layChanges_L91 hV h hK) k q o h hP
def Md_layChanges_L77 (v2 : Int32) (q : Int32 × Int32 × Sm) : Option ((Int32 × Int32 × Sm) ⊕ (Int32 × Sm)) := (if (gi q.2.2 68 0) ≤ q.2.1 then (some (.inr (q.1, q.2.2))) else ((lpN (Md_layChanges_L91 v2 q.2.1) FU (q.1, 0, q.2.2)).bind fun q12 => (some (.inl (q12.1, q.2.1 + 1, q12.2)))))
set_option maxRecDepth 4000 in
theorem t_Md_layChanges_L77 {V : Sm → Wd} (hV : VwT V) {l : Launch} {Γ : Gm} {rF : Option Value} {wF : Wd} {v2 : Int32} {q : Int32 × Int32 × Sm} {o : (Int32 × Int32 × Sm) ⊕ (Int32 × Sm)} (h : Md_layChanges_L77 v2 q = some o) (hK : Sum.elim (hd_Md_layChanges_L77 V l Γ rF wF v2) (ps_Md_layChanges_L77 V l Γ rF wF v2) o) : hd_Md_layChanges_L77 V l Γ rF wF v2 q := by
  unfold Md_layChanges_L77 at h
  unfold hd_Md_layChanges_L77
  refine g_iload (pc := 77) dX12_layChanges_77 rfl ?_
  refine g_aload_n (pc := 79) dX12_layChanges_79 rfl ?_
  refine v_getR hV (pc := 80) dX12_layChanges_80 fo_12_24 rfl k0_53 r0_53_24 ?_
  refine g_iconst (v := 0) (pc := 83) dX12_layChanges_83 (by decide) ?_
  refine v_ialdK hV (k := 0) (pc := 84) dX12_layChanges_84 k0_68 own_68 (by decide) (by decide) ?_
  refine g_icmp_ge (tgt := 136) (pc := 85) dX12_layChanges_85 (by decide) (fun c13 => ?_) (fun c13 => ?_)
  · rw [if_pos c13] at h
    refine g_wk [true, false, true, true, false, false] rfl ?_
    cases h
    exact hK
  · rw [if_neg c13] at h
    refine g_iconst (v := 0) (pc := 88) dX12_layChanges_88 (by decide) ?_
    refine g_istore (ls1 := [some (.ref 53), none, some (.int v2), some (.int q.1), some (.int q.2.1), some (.int 0)]) (pc := 89) dX12_layChanges_89 (by decide) rfl ?_
    obtain ⟨q12, hqq12, h⟩ := bnd h
    refine w_Md_layChanges_L91 hV hqq12 ?_
    unfold ps_Md_layChanges_L91
    show G _ _ _ _ _ _ _ _ _ _ _
    refine g_iinc (v := q.2.1 + 1) (ls1 := [some (.ref 53), none, some (.int v2), some (.int q12.1), some (.int (q.2.1 + 1)), none]) (pc := 130) dX12_layChanges_130 rfl rfl (by decide) rfl ?_
    refine g_goto (tgt := 77) (pc := 133) dX12_layChanges_133 (by decide) ?_
    cases h
    exact hK
set_option maxRecDepth 4000 in
theorem w_Md_layChanges_L77 {V : Sm → Wd} (hV : VwT V) {l : Launch} {Γ : Gm} {rF : Option Value} {wF : Wd} {v2 : Int32} {k : Nat} {q : Int32 × Int32 × Sm} {o : Int32 × Sm} (h : lpN (Md_layChanges_L77 v2) k q = some o) (hP : ps_Md_layChanges_L77 V l Γ rF wF v2 o) : hd_Md_layChanges_L77 V l Γ rF wF v2 q := lpN_ind2 (hd_Md_layChanges_L77 V l Γ rF wF v2) (ps_Md_layChanges_L77 V l Γ rF wF v2) (fun s o h hK => t_Md_layChanges_L77 hV h hK) k q o h hP
def Md_layChanges_L68 (v2 : Int32) (q : Int32 × Sm) : Option ((Int32 × Sm) ⊕ (Sm)) := (if q.1 = 0 then (some (.inr q.2)) else ((lpN (Md_layChanges_L77 v2) FU (0, 0, q.2)).bind fun q14 => (some (.inl (q14.1, q14.2)))))
set_option maxRecDepth 4000 in
theorem t_Md_layChanges_L68 {V : Sm → Wd} (hV : VwT V) {l : Launch} {Γ : Gm} {rF : Option Value} {wF : Wd} {v2 : Int32} {q : Int32 × Sm} {o : (Int32 × Sm) ⊕ (Sm)} (h : Md_layChanges_L68 v2 q = some o) (hK : Sum.elim (hd_Md_layChanges_L68 V l Γ rF wF v2) (ps_Md_layChanges_L68 V l Γ rF wF v2) o) : hd_Md_layChanges_L68 V l Γ rF wF v2 q := by
  unfold Md_layChanges_L68 at h
  unfold hd_Md_layChanges_L68
  refine g_iload_n (pc := 68) dX12_layChanges_68 rfl ?_
  refine g_if_eq (tgt := 139) (pc := 69) dX12_layChanges_69 (by decide) (fun c15 => ?_) (fun c15 => ?_)
  · rw [if_pos c15] at h
    refine g_wk [false, false, false, false, false, false] rfl ?_
    cases h
    exact hK
  · rw [if_neg c15] at h
    refine g_iconst (v := 0) (pc := 72) dX12_layChanges_72 (by decide) ?_
    refine g_istore_n (ls1 := [some (.ref 53), none, some (.int v2), some (.int 0), none, none]) (pc := 73) dX12_layChanges_73 (by decide) rfl ?_
    refine g_iconst (v := 0) (pc := 74) dX12_layChanges_74 (by decide) ?_
    refine g_istore (ls1 := [some (.ref 53), none, some (.int v2), some (.int 0), some (.int 0), none]) (pc := 75) dX12_layChanges_75 (by decide) rfl ?_
    obtain ⟨q14, hqq14, h⟩ := bnd h
    refine w_Md_layChanges_L77 hV hqq14 ?_
    unfold ps_Md_layChanges_L77
    show G _ _ _ _ _ _ _ _ _ _ _
    refine g_goto (tgt := 68) (pc := 136) dX12_layChanges_136 (by decide) ?_
    cases h
    exact hK
set_option maxRecDepth 4000 in
theorem w_Md_layChanges_L68 {V : Sm → Wd} (hV : VwT V) {l : Launch} {Γ : Gm} {rF : Option Value} {wF : Wd} {v2 : Int32} {k : Nat} {q : Int32 × Sm} {o : Sm} (h : lpN (Md_layChanges_L68 v2) k q = some o) (hP : ps_Md_layChanges_L68 V l Γ rF wF v2 o) : hd_Md_layChanges_L68 V l Γ rF wF v2 q := lpN_ind2 (hd_Md_layChanges_L68 V l Γ rF wF v2) (ps_Md_layChanges_L68 V l Γ rF wF v2) (fun s o h hK => t_Md_layChanges_L68 hV h hK) k q o h hP
def Md_layChanges (v1 : Int32) (v2 : Int32) (S : Sm) : Option (Sm) := ((lpN (Md_layChanges_L2 v1 v2) FU (0, S)).bind fun q3 => ((lpN (Md_layChanges_L25 v1 v2) FU (0, q3)).bind fun q7 => ((lpN (Md_layChanges_L68 v2) FU (1, q7)).bind fun q16 => (some q16))))
set_option maxRecDepth 4000 in
theorem r_Md_layChanges {V : Sm → Wd} (hV : VwT V) {v1 : Int32} {v2 : Int32} {S : Sm} {q : Sm} (h : Md_layChanges v1 v2 S = some q) : Runs 2 mX12_layChanges [.ref 53, .int v1, .int v2] (V S) none (V q) 0 0 := by
  unfold Md_layChanges at h
  refine Runs.of2 [some (.ref 53), some (.int v1), some (.int v2), none, none, none] 3 rfl rfl (Nat.le_of_ble_eq_true rfl) (fun l Γ => ?_)
  refine g_iconst (v := 0) (pc := 0) dX12_layChanges_0 (by decide) ?_
  refine g_istore_n (ls1 := [some (.ref 53), some (.int v1), some (.int v2), some (.int 0), none, none]) (pc := 1) dX12_layChanges_1 (by decide) rfl ?_
  obtain ⟨q3, hqq3, h⟩ := bnd h
  refine w_Md_layChanges_L2 hV hqq3 ?_
  unfold ps_Md_layChanges_L2
  show G _ _ _ _ _ _ _ _ _ _ _
  refine g_iconst (v := 0) (pc := 23) dX12_layChanges_23 (by decide) ?_
  refine g_istore_n (ls1 := [some (.ref 53), some (.int v1), some (.int v2), some (.int 0), none, none]) (pc := 24) dX12_layChanges_24 (by decide) rfl ?_
  obtain ⟨q7, hqq7, h⟩ := bnd h
  refine w_Md_layChanges_L25 hV hqq7 ?_
  unfold ps_Md_layChanges_L25
  show G _ _ _ _ _ _ _ _ _ _ _
  refine g_iconst (v := 1) (pc := 66) dX12_layChanges_66 (by decide) ?_
  refine g_istore_n (ls1 := [some (.ref 53), none, some (.int v2), some (.int 1), none, none]) (pc := 67) dX12_layChanges_67 (by decide) rfl ?_
  obtain ⟨q16, hqq16, h⟩ := bnd h
  refine w_Md_layChanges_L68 hV hqq16 ?_
  unfold ps_Md_layChanges_L68
  show G _ _ _ _ _ _ _ _ _ _ _
  cases h
  exact g_vret (pc := 139) dX12_layChanges_139 rfl (Nat.le_refl _) (Nat.le_refl _)
def Md_changes_17 (S : Sm) : Option (Int32 × Sm) := (some (((-1), S)))
set_option maxRecDepth 4000 in
theorem t_Md_changes_17 {V : Sm → Wd} (hV : VwT V) {l : Launch} {Γ : Gm}  {S : Sm} {q : Int32 × Sm} (h : Md_changes_17 S = some q) : G mX12_changes l Γ (rmD 3 0 0) (mQ Γ (some (.int q.1)) (V q.2) 0 0) 0 0 17 [none, none, none, none, none, none] [] (V S) := by
  unfold Md_changes_17 at h
  refine g_iconst (v := (-1)) (pc := 17) dX12_changes_17 (by decide) ?_
  cases h
  exact g_iret (pc := 18) dX12_changes_18 rfl rfl (Nat.le_refl _) (Nat.le_refl _)
def hd_Md_changes_L40 (V : Sm → Wd) (l : Launch) (Γ : Gm) (rF : Option Value) (wF : Wd) (v2 : Int32) (S : Sm) (q : Int32 × Int32) : Prop := G mX12_changes l Γ (rmD 3 0 0) (mQ Γ rF wF 0 0) 0 0 40 [some (.ref 53), none, some (.int v2), none, some (.int q.1), some (.int q.2)] [] (V S)
def ps_Md_changes_L40 (V : Sm → Wd) (l : Launch) (Γ : Gm) (rF : Option Value) (wF : Wd) (v2 : Int32) (S : Sm) (x : Int32) : Prop := (fun (a : Int32) => G mX12_changes l Γ (rmD 3 0 0) (mQ Γ rF wF 0 0) 0 0 75 [none, none, none, none, some (.int a), none] [] (V S)) x
def Md_changes_L40 (v2 : Int32) (S : Sm) (q : Int32 × Int32) : Option ((Int32 × Int32) ⊕ (Int32)) := (if (gi S 68 1) ≤ q.2 then (some (.inr q.1)) else (if inb ((5 * v2) + q.2) 40 then (some (.inl (iMin q.1 (gi S 75 (ix ((5 * v2) + q.2))), q.2 + 1))) else none))
set_option maxRecDepth 4000 in
theorem t_Md_changes_L40 {V : Sm → Wd} (hV : VwT V) {l : Launch} {Γ : Gm} {rF : Option Value} {wF : Wd} {v2 : Int32} {S : Sm} {q : Int32 × Int32} {o : (Int32 × Int32) ⊕ (Int32)} (h : Md_changes_L40 v2 S q = some o) (hK : Sum.elim (hd_Md_changes_L40 V l Γ rF wF v2 S) (ps_Md_changes_L40 V l Γ rF wF v2 S) o) : hd_Md_changes_L40 V l Γ rF wF v2 S q := by
  unfold Md_changes_L40 at h
  unfold hd_Md_changes_L40
  refine g_iload (pc := 40) dX12_changes_40 rfl ?_
  refine g_aload_n (pc := 42) dX12_changes_42 rfl ?_
  refine v_getR hV (pc := 43) dX12_changes_43 fo_12_24 rfl k0_53 r0_53_24 ?_
  refine g_iconst (v := 1) (pc := 46) dX12_changes_46 (by decide) ?_
  refine v_ialdK hV (k := 1) (pc := 47) dX12_changes_47 k0_68 own_68 (by decide) (by decide) ?_
  refine g_icmp_ge (tgt := 75) (pc := 48) dX12_changes_48 (by decide) (fun c3 => ?_) (fun c3 => ?_)
  · rw [if_pos c3] at h
    refine g_wk [false, false, false, false, true, false] rfl ?_
    cases h
    exact hK
  · rw [if_neg c3] at h
    refine g_iload (pc := 51) dX12_changes_51 rfl ?_
    refine g_aload_n (pc := 53) dX12_changes_53 rfl ?_
    refine v_getR hV (pc := 54) dX12_changes_54 fo_12_37 rfl k0_53 r0_53_37 ?_
    refine g_iconst (v := 5) (pc := 57) dX12_changes_57 (by decide) ?_
    refine g_iload_n (pc := 58) dX12_changes_58 rfl ?_
    refine g_imul (pc := 59) dX12_changes_59 ?_
    refine g_iload (pc := 60) dX12_changes_60 rfl ?_
    refine g_iadd (pc := 62) dX12_changes_62 ?_
    by_cases c2 : inb ((5 * v2) + q.2) 40
    · rw [if_pos c2] at h
      refine v_iald hV (pc := 63) dX12_changes_63 k0_75 own_75 c2 ?_
      refine g_iMin (pc := 64) dX12_changes_64 mK_X12_329 ⟨Nat.le_of_ble_eq_true rfl, Nat.le_of_ble_eq_true rfl⟩ (Nat.zero_le _) (Nat.zero_le _) ?_
      refine g_istore (ls1 := [some (.ref 53), none, some (.int v2), none, some (.int (iMin q.1 (gi S 75 (ix ((5 * v2) + q.2))))), some (.int q.2)]) (pc := 67) dX12_changes_67 (by decide) rfl ?_
      refine g_iinc (v := q.2 + 1) (ls1 := [some (.ref 53), none, some (.int v2), none, some (.int (iMin q.1 (gi S 75 (ix ((5 * v2) + q.2))))), some (.int (q.2 + 1))]) (pc := 69) dX12_changes_69 rfl rfl (by decide) rfl ?_
      refine g_goto (tgt := 40) (pc := 72) dX12_changes_72 (by decide) ?_
      cases h
      exact hK
    · rw [if_neg c2] at h; cases h
set_option maxRecDepth 4000 in
theorem w_Md_changes_L40 {V : Sm → Wd} (hV : VwT V) {l : Launch} {Γ : Gm} {rF : Option Value} {wF : Wd} {v2 : Int32} {S : Sm} {k : Nat} {q : Int32 × Int32} {o : Int32} (h : lpN (Md_changes_L40 v2 S) k q = some o) (hP : ps_Md_changes_L40 V l Γ rF wF v2 S o) : hd_Md_changes_L40 V l Γ rF wF v2 S q := lpN_ind2 (hd_Md_changes_L40 V l Γ rF wF v2 S) (ps_Md_changes_L40 V l Γ rF wF v2 S) (fun s o h hK => t_Md_changes_L40 hV h hK) k q o h hP
def Md_changes_89 (s0 : Int32) (S : Sm) : Option (Int32 × Sm) := (some ((s0, S)))
set_option maxRecDepth 4000 in
theorem t_Md_changes_89 {V : Sm → Wd} (hV : VwT V) {l : Launch} {Γ : Gm} {s0 : Int32} {S : Sm} {q : Int32 × Sm} (h : Md_changes_89 s0 S = some q) : G mX12_changes l Γ (rmD 3 0 0) (mQ Γ (some (.int q.1)) (V q.2) 0 0) 0 0 89 [none, none, none, none, none, none] [.int s0] (V S) := by
  unfold Md_changes_89 at h
  cases h
  exact g_iret (pc := 89) dX12_changes_89 rfl rfl (Nat.le_refl _) (Nat.le_refl _)
def Md_changes (v1 : Int32) (v2 : Int32) (v3 : Int32) (S : Sm) : Option (Int32 × Sm) := (if (Md_areMouths v1 v2 S) = 0 then (Md_changes_17 S) else (if (Md_isSet v3 S) = 0 then (Md_changes_17 S) else (if v1 = v2 then (some ((0, S))) else ((Md_layChanges v1 v3 S).bind fun q1 => ((lpN (Md_changes_L40 v2 q1) FU (1000000, 0)).bind fun q4 => (if q4 = 1000000 then (Md_changes_89 ((-1)) q1) else (Md_changes_89 q4 q1)))))))
set_option maxRecDepth 4000 in
theorem r_Md_changes {V : Sm → Wd} (hV : VwT V) {v1 : Int32} {v2 : Int32} {v3 : Int32} {S : Sm} {q : Int32 × Sm} (h : Md_changes v1 v2 v3 S = some q) : Runs 3 mX12_changes [.ref 53, .int v1, .int v2, .int v3] (V S) (some (.int q.1)) (V q.2) 0 0 := by
  unfold Md_changes at h
  refine Runs.of2 [some (.ref 53), some (.int v1), some (.int v2), some (.int v3), none, none] 2 rfl rfl (Nat.le_of_ble_eq_true rfl) (fun l Γ => ?_)
  refine g_aload_n (pc := 0) dX12_changes_0 rfl ?_
  refine g_iload_n (pc := 1) dX12_changes_1 rfl ?_
  refine g_iload_n (pc := 2) dX12_changes_2 rfl ?_
  refine v_callVi hV (Mc := mX12_areMouths) (v := Md_areMouths v1 v2 S) (S1 := S) (As := [.int v1, .int v2]) (rest := []) (q := (RX12, TX12, 58)) (pc := 3) dX12_changes_3 mK_X12_392 mf_X12_areMouths rfl k0_53 rfl rfl rfl (Nat.le_of_ble_eq_true rfl) ⟨Nat.le_of_ble_eq_true rfl, Nat.le_of_ble_eq_true rfl⟩ (r_Md_areMouths hV rfl) ?_
  refine g_if_eq (tgt := 17) (pc := 6) dX12_changes_6 (by decide) (fun c8 => ?_) (fun c8 => ?_)
  · rw [if_pos c8] at h
    refine g_wk [false, false, false, false, false, false] rfl ?_
    exact t_Md_changes_17 hV h
  · rw [if_neg c8] at h
    refine g_aload_n (pc := 9) dX12_changes_9 rfl ?_
    refine g_iload_n (pc := 10) dX12_changes_10 rfl ?_
    refine v_callVi hV (Mc := mX12_isSet) (v := Md_isSet v3 S) (S1 := S) (As := [.int v3]) (rest := []) (q := (RX12, TX12, 58)) (pc := 11) dX12_changes_11 mK_X12_395 mf_X12_isSet rfl k0_53 rfl rfl rfl (Nat.le_of_ble_eq_true rfl) ⟨Nat.le_of_ble_eq_true rfl, Nat.le_of_ble_eq_true rfl⟩ (r_Md_isSet hV rfl) ?_
    refine g_if_ne (tgt := 19) (pc := 14) dX12_changes_14 (by decide) (fun c7 => ?_) (fun c7 => ?_)
    · rw [if_neg c7] at h
      refine g_iload_n (pc := 19) dX12_changes_19 rfl ?_
      refine g_iload_n (pc := 20) dX12_changes_20 rfl ?_
      refine g_icmp_ne (tgt := 26) (pc := 21) dX12_changes_21 (by decide) (fun c6 => ?_) (fun c6 => ?_)
      · rw [if_neg c6] at h
        refine g_aload_n (pc := 26) dX12_changes_26 rfl ?_
        refine g_iload_n (pc := 27) dX12_changes_27 rfl ?_
        refine g_iload_n (pc := 28) dX12_changes_28 rfl ?_
        obtain ⟨q1, hq1, h⟩ := bnd h
        refine v_callVv hV (Mc := mX12_layChanges) (S1 := q1) (As := [.int v1, .int v3]) (rest := []) (q := (RX12, TX12, 58)) (pc := 29) dX12_changes_29 mK_X12_398 mf_X12_layChanges rfl k0_53 rfl rfl rfl (Nat.le_of_ble_eq_true rfl) ⟨Nat.le_of_ble_eq_true rfl, Nat.le_of_ble_eq_true rfl⟩ (r_Md_layChanges hV hq1) ?_
        refine g_ldcw (v := 1000000) (pc := 32) dX12_changes_32 kI_X12_388 ?_
        refine g_istore (ls1 := [some (.ref 53), some (.int v1), some (.int v2), some (.int v3), some (.int 1000000), none]) (pc := 35) dX12_changes_35 (by decide) rfl ?_
        refine g_iconst (v := 0) (pc := 37) dX12_changes_37 (by decide) ?_
        refine g_istore (ls1 := [some (.ref 53), some (.int v1), some (.int v2), some (.int v3), some (.int 1000000), some (.int 0)]) (pc := 38) dX12_changes_38 (by decide) rfl ?_
        refine g_wk [true, false, true, false, true, true] rfl ?_
        obtain ⟨q4, hqq4, h⟩ := bnd h
        refine w_Md_changes_L40 hV hqq4 ?_
        unfold ps_Md_changes_L40
        show G _ _ _ _ _ _ _ _ _ _ _
        refine g_iload (pc := 75) dX12_changes_75 rfl ?_
        refine g_ldcw (v := 1000000) (pc := 77) dX12_changes_77 kI_X12_388 ?_
        refine g_icmp_ne (tgt := 87) (pc := 80) dX12_changes_80 (by decide) (fun c5 => ?_) (fun c5 => ?_)
        · rw [if_neg c5] at h
          refine g_iload (pc := 87) dX12_changes_87 rfl ?_
          refine g_wk [false, false, false, false, false, false] rfl ?_
          exact t_Md_changes_89 hV h
        · rw [if_pos c5] at h
          refine g_iconst (v := (-1)) (pc := 83) dX12_changes_83 (by decide) ?_
          refine g_goto (tgt := 89) (pc := 84) dX12_changes_84 (by decide) ?_
          refine g_wk [false, false, false, false, false, false] rfl ?_
          exact t_Md_changes_89 hV h
      · rw [if_pos c6] at h
        refine g_iconst (v := 0) (pc := 24) dX12_changes_24 (by decide) ?_
        cases h
        exact g_iret (pc := 25) dX12_changes_25 rfl rfl (Nat.le_refl _) (Nat.le_refl _)
    · rw [if_pos c7] at h
      refine g_wk [false, false, false, false, false, false] rfl ?_
      exact t_Md_changes_17 hV h
def Md_costOf_19 (s0 : Int32) (S : Sm) : Option (Int32 × Sm) := (some ((s0, S)))
set_option maxRecDepth 4000 in
theorem t_Md_costOf_19 {V : Sm → Wd} (hV : VwT V) {l : Launch} {Γ : Gm} {s0 : Int32} {S : Sm} {q : Int32 × Sm} (h : Md_costOf_19 s0 S = some q) : G mX12_costOf l Γ (rmD 6 0 0) (mQ Γ (some (.int q.1)) (V q.2) 0 0) 0 0 19 [none, none, none, none] [.int s0] (V S) := by
  unfold Md_costOf_19 at h
  cases h
  exact g_iret (pc := 19) dX12_costOf_19 rfl rfl (Nat.le_refl _) (Nat.le_refl _)
def Md_costOf (v1 : Int32) (v2 : Int32) (v3 : Int32) (S : Sm) : Option (Int32 × Sm) := (if v3 = 0 then ((Md_lasts v1 v2 S).bind fun q1 => (Md_costOf_19 q1 S)) else ((Md_price v1 v2 S).bind fun q2 => (Md_costOf_19 q2.1 q2.2)))
set_option maxRecDepth 4000 in
theorem r_Md_costOf {V : Sm → Wd} (hV : VwT V) {v1 : Int32} {v2 : Int32} {v3 : Int32} {S : Sm} {q : Int32 × Sm} (h : Md_costOf v1 v2 v3 S = some q) : Runs 6 mX12_costOf [.ref 53, .int v1, .int v2, .int v3] (V S) (some (.int q.1)) (V q.2) 0 0 := by
  unfold Md_costOf at h
  refine Runs.of2 [some (.ref 53), some (.int v1), some (.int v2), some (.int v3)] 0 rfl rfl (Nat.le_of_ble_eq_true rfl) (fun l Γ => ?_)
  refine g_iload_n (pc := 0) dX12_costOf_0 rfl ?_
  refine g_if_eq (tgt := 13) (pc := 1) dX12_costOf_1 (by decide) (fun c3 => ?_) (fun c3 => ?_)
  · rw [if_pos c3] at h
    refine g_aload_n (pc := 13) dX12_costOf_13 rfl ?_
    refine g_iload_n (pc := 14) dX12_costOf_14 rfl ?_
    refine g_iload_n (pc := 15) dX12_costOf_15 rfl ?_
    obtain ⟨q1, hq1, h⟩ := bnd h
    refine v_callVi hV (Mc := mX12_lasts) (v := q1) (S1 := S) (As := [.int v1, .int v2]) (rest := []) (q := (RX12, TX12, 58)) (pc := 16) dX12_costOf_16 mK_X12_320 mf_X12_lasts rfl k0_53 rfl rfl rfl (Nat.le_of_ble_eq_true rfl) ⟨Nat.le_of_ble_eq_true rfl, Nat.le_of_ble_eq_true rfl⟩ (r_Md_lasts hV hq1) ?_
    refine g_wk [false, false, false, false] rfl ?_
    exact t_Md_costOf_19 hV h
  · rw [if_neg c3] at h
    refine g_aload_n (pc := 4) dX12_costOf_4 rfl ?_
    refine g_iload_n (pc := 5) dX12_costOf_5 rfl ?_
    refine g_iload_n (pc := 6) dX12_costOf_6 rfl ?_
    obtain ⟨q2, hq2, h⟩ := bnd h
    refine v_callVi hV (Mc := mX12_price) (v := q2.1) (S1 := q2.2) (As := [.int v1, .int v2]) (rest := []) (q := (RX12, TX12, 58)) (pc := 7) dX12_costOf_7 mK_X12_340 mf_X12_price rfl k0_53 rfl rfl rfl (Nat.le_of_ble_eq_true rfl) ⟨Nat.le_of_ble_eq_true rfl, Nat.le_of_ble_eq_true rfl⟩ (r_Md_price hV hq2) ?_
    refine g_goto (tgt := 19) (pc := 10) dX12_costOf_10 (by decide) ?_
    refine g_wk [false, false, false, false] rfl ?_
    exact t_Md_costOf_19 hV h
def hd_Md_layAway_L3 (V : Sm → Wd) (l : Launch) (Γ : Gm) (rF : Option Value) (wF : Wd) (v1 : Int32) (v2 : Int32) (v3 : Int32) (v4 : Int32) (q : Int32 × Sm) : Prop := G mX12_layAway l Γ (rmD 7 0 0) (mQ Γ rF wF 0 0) 0 0 3 [some (.ref 53), some (.int v1), some (.int v2), some (.int v3), some (.int v4), some (.int q.1), none, none, none, none] [] (V q.2)
def ps_Md_layAway_L3 (V : Sm → Wd) (l : Launch) (Γ : Gm) (rF : Option Value) (wF : Wd) (v1 : Int32) (v2 : Int32) (v3 : Int32) (v4 : Int32) (x : Sm) : Prop := (fun (a : Sm) => G mX12_layAway l Γ (rmD 7 0 0) (mQ Γ rF wF 0 0) 0 0 36 [some (.ref 53), some (.int v1), some (.int v2), some (.int v3), some (.int v4), none, none, none, none, none] [] (V a)) x
def Md_layAway_29_L3 (v1 : Int32) (v2 : Int32) (v3 : Int32) (v4 : Int32) (v5 : Int32) (s1 : Int32) (s2 : Int32) (S : Sm) : Option ((Int32 × Sm) ⊕ (Sm)) := (if inb s1 8 then (some (.inl (v5 + 1, si S 76 (ix s1) s2))) else none)
set_option maxRecDepth 4000 in
theorem t_Md_layAway_29_L3 {V : Sm → Wd} (hV : VwT V) {l : Launch} {Γ : Gm} {v1 : Int32} {v2 : Int32} {v3 : Int32} {v4 : Int32} {v5 : Int32} {s1 : Int32} {s2 : Int32} {rF : Option Value} {wF : Wd} {S : Sm} {o : (Int32 × Sm) ⊕ (Sm)} (h : Md_layAway_29_L3 v1 v2 v3 v4 v5 s1 s2 S = some o) (hK : Sum.elim (hd_Md_layAway_L3 V l Γ rF wF v1 v2 v3 v4) (ps_Md_layAway_L3 V l Γ rF wF v1 v2 v3 v4) o) : G mX12_layAway l Γ (rmD 7 0 0) (mQ Γ rF wF 0 0) 0 0 29 [some (.ref 53), some (.int v1), some (.int v2), some (.int v3), some (.int v4), some (.int v5), none, none, none, none] [.int s2, .int s1, .ref 76] (V S) := by
  unfold Md_layAway_29_L3 at h
  by_cases c1 : inb s1 8
  · rw [if_pos c1] at h
    refine v_iast hV (pc := 29) dX12_layAway_29 k0_76 own_76 c1 ?_
    refine g_iinc (v := v5 + 1) (ls1 := [some (.ref 53), some (.int v1), some (.int v2), some (.int v3), some (.int v4), some (.int (v5 + 1)), none, none, none, none]) (pc := 30) dX12_layAway_30 rfl rfl (by decide) rfl ?_
    refine g_goto (tgt := 3) (pc := 33) dX12_layAway_33 (by decide) ?_
    cases h
    exact hK
  · rw [if_neg c1] at h; cases h
def Md_layAway_L3 (v1 : Int32) (v2 : Int32) (v3 : Int32) (v4 : Int32) (q : Int32 × Sm) : Option ((Int32 × Sm) ⊕ (Sm)) := (if (8 : Int32) ≤ q.1 then (some (.inr q.2)) else (if q.1 = v1 then (Md_layAway_29_L3 v1 v2 v3 v4 q.1 q.1 0 q.2) else (Md_layAway_29_L3 v1 v2 v3 v4 q.1 q.1 1000000 q.2)))
set_option maxRecDepth 4000 in
theorem t_Md_layAway_L3 {V : Sm → Wd} (hV : VwT V) {l : Launch} {Γ : Gm} {rF : Option Value} {wF : Wd} {v1 : Int32} {v2 : Int32} {v3 : Int32} {v4 : Int32} {q : Int32 × Sm} {o : (Int32 × Sm) ⊕ (Sm)} (h : Md_layAway_L3 v1 v2 v3 v4 q = some o) (hK : Sum.elim (hd_Md_layAway_L3 V l Γ rF wF v1 v2 v3 v4) (ps_Md_layAway_L3 V l Γ rF wF v1 v2 v3 v4) o) : hd_Md_layAway_L3 V l Γ rF wF v1 v2 v3 v4 q := by
  unfold Md_layAway_L3 at h
  unfold hd_Md_layAway_L3
  refine g_iload (pc := 3) dX12_layAway_3 rfl ?_
  refine g_bipush (v := 8) (pc := 5) dX12_layAway_5 (by decide) ?_
  refine g_icmp_ge (tgt := 36) (pc := 7) dX12_layAway_7 (by decide) (fun c3 => ?_) (fun c3 => ?_)
  · rw [if_pos c3] at h
    refine g_wk [true, true, true, true, true, false, false, false, false, false] rfl ?_
    cases h
    exact hK
  · rw [if_neg c3] at h
    refine g_aload_n (pc := 10) dX12_layAway_10 rfl ?_
    refine v_getR hV (pc := 11) dX12_layAway_11 fo_12_38 rfl k0_53 r0_53_38 ?_
    refine g_iload (pc := 14) dX12_layAway_14 rfl ?_
    refine g_iload (pc := 16) dX12_layAway_16 rfl ?_
    refine g_iload_n (pc := 18) dX12_layAway_18 rfl ?_
    refine g_icmp_ne (tgt := 26) (pc := 19) dX12_layAway_19 (by decide) (fun c2 => ?_) (fun c2 => ?_)
    · rw [if_neg c2] at h
      refine g_ldcw (v := 1000000) (pc := 26) dX12_layAway_26 kI_X12_388 ?_
      exact t_Md_layAway_29_L3 hV h hK
    · rw [if_pos c2] at h
      refine g_iconst (v := 0) (pc := 22) dX12_layAway_22 (by decide) ?_
      refine g_goto (tgt := 29) (pc := 23) dX12_layAway_23 (by decide) ?_
      exact t_Md_layAway_29_L3 hV h hK
set_option maxRecDepth 4000 in
theorem w_Md_layAway_L3 {V : Sm → Wd} (hV : VwT V) {l : Launch} {Γ : Gm} {rF : Option Value} {wF : Wd} {v1 : Int32} {v2 : Int32} {v3 : Int32} {v4 : Int32} {k : Nat} {q : Int32 × Sm} {o : Sm} (h : lpN (Md_layAway_L3 v1 v2 v3 v4) k q = some o) (hP : ps_Md_layAway_L3 V l Γ rF wF v1 v2 v3 v4 o) : hd_Md_layAway_L3 V l Γ rF wF v1 v2 v3 v4 q := lpN_ind2 (hd_Md_layAway_L3 V l Γ rF wF v1 v2 v3 v4) (ps_Md_layAway_L3 V l Γ rF wF v1 v2 v3 v4) (fun s o h hK => t_Md_layAway_L3 hV h hK) k q o h hP
def hd_Md_layAway_L39 (V : Sm → Wd) (l : Launch) (Γ : Gm) (rF : Option Value) (wF : Wd) (v1 : Int32) (v2 : Int32) (v3 : Int32) (v4 : Int32) (q : Int32 × Sm) : Prop := G mX12_layAway l Γ (rmD 7 0 0) (mQ Γ rF wF 0 0) 0 0 39 [some (.ref 53), some (.int v1), some (.int v2), some (.int v3), some (.int v4), some (.int q.1), none, none, none, none] [] (V q.2)
def ps_Md_layAway_L39 (V : Sm → Wd) (l : Launch) (Γ : Gm) (rF : Option Value) (wF : Wd) (v1 : Int32) (v2 : Int32) (v3 : Int32) (v4 : Int32) (x : Sm) : Prop := (fun (a : Sm) => G mX12_layAway l Γ (rmD 7 0 0) (mQ Γ rF wF 0 0) 0 0 196 [none, none, none, none, none, none, none, none, none, none] [] (V a)) x
def hd_Md_layAway_L49 (V : Sm → Wd) (l : Launch) (Γ : Gm) (rF : Option Value) (wF : Wd) (v1 : Int32) (v2 : Int32) (v3 : Int32) (v4 : Int32) (v5 : Int32) (q : Int32 × Sm) : Prop := G mX12_layAway l Γ (rmD 7 0 0) (mQ Γ rF wF 0 0) 0 0 49 [some (.ref 53), some (.int v1), some (.int v2), some (.int v3), some (.int v4), some (.int v5), some (.int q.1), none, none, none] [] (V q.2)
def ps_Md_layAway_L49 (V : Sm → Wd) (l : Launch) (Γ : Gm) (rF : Option Value) (wF : Wd) (v1 : Int32) (v2 : Int32) (v3 : Int32) (v4 : Int32) (v5 : Int32) (x : Sm) : Prop := (fun (a : Sm) => G mX12_layAway l Γ (rmD 7 0 0) (mQ Γ rF wF 0 0) 0 0 190 [some (.ref 53), some (.int v1), some (.int v2), some (.int v3), some (.int v4), some (.int v5), none, none, none, none] [] (V a)) x
def hd_Md_layAway_L63 (V : Sm → Wd) (l : Launch) (Γ : Gm) (rF : Option Value) (wF : Wd) (v1 : Int32) (v2 : Int32) (v3 : Int32) (v4 : Int32) (v5 : Int32) (v6 : Int32) (q : Int32 × Sm) : Prop := G mX12_layAway l Γ (rmD 7 0 0) (mQ Γ rF wF 0 0) 0 0 63 [some (.ref 53), some (.int v1), some (.int v2), some (.int v3), some (.int v4), some (.int v5), some (.int v6), some (.int q.1), none, none] [] (V q.2)
def ps_Md_layAway_L63 (V : Sm → Wd) (l : Launch) (Γ : Gm) (rF : Option Value) (wF : Wd) (v1 : Int32) (v2 : Int32) (v3 : Int32) (v4 : Int32) (v5 : Int32) (v6 : Int32) (x : Sm) : Prop := (fun (a : Sm) => G mX12_layAway l Γ (rmD 7 0 0) (mQ Γ rF wF 0 0) 0 0 184 [some (.ref 53), some (.int v1), some (.int v2), some (.int v3), some (.int v4), some (.int v5), some (.int v6), none, none, none] [] (V a)) x
def Md_layAway_177_L63 (v1 : Int32) (v2 : Int32) (v3 : Int32) (v4 : Int32) (v5 : Int32) (v6 : Int32) (v7 : Int32) (s1 : Int32) (s2 : Int32) (S : Sm) : Option ((Int32 × Sm) ⊕ (Sm)) := (if inb s1 8 then (some (.inl (v7 + 1, si S 76 (ix s1) s2))) else none)
set_option maxRecDepth 4000 in
theorem t_Md_layAway_177_L63 {V : Sm → Wd} (hV : VwT V) {l : Launch} {Γ : Gm} {v1 : Int32} {v2 : Int32} {v3 : Int32} {v4 : Int32} {v5 : Int32} {v6 : Int32} {v7 : Int32} {s1 : Int32} {s2 : Int32} {rF : Option Value} {wF : Wd} {S : Sm} {o : (Int32 × Sm) ⊕ (Sm)} (h : Md_layAway_177_L63 v1 v2 v3 v4 v5 v6 v7 s1 s2 S = some o) (hK : Sum.elim (hd_Md_layAway_L63 V l Γ rF wF v1 v2 v3 v4 v5 v6) (ps_Md_layAway_L63 V l Γ rF wF v1 v2 v3 v4 v5 v6) o) : G mX12_layAway l Γ (rmD 7 0 0) (mQ Γ rF wF 0 0) 0 0 177 [some (.ref 53), some (.int v1), some (.int v2), some (.int v3), some (.int v4), some (.int v5), some (.int v6), some (.int v7), none, none] [.int s2, .int s1, .ref 76] (V S) := by
  unfold Md_layAway_177_L63 at h
  by_cases c7 : inb s1 8
  · rw [if_pos c7] at h
    refine v_iast hV (pc := 177) dX12_layAway_177 k0_76 own_76 c7 ?_
    refine g_iinc (v := v7 + 1) (ls1 := [some (.ref 53), some (.int v1), some (.int v2), some (.int v3), some (.int v4), some (.int v5), some (.int v6), some (.int (v7 + 1)), none, none]) (pc := 178) dX12_layAway_178 rfl rfl (by decide) rfl ?_
    refine g_goto (tgt := 63) (pc := 181) dX12_layAway_181 (by decide) ?_
    cases h
    exact hK
  · rw [if_neg c7] at h; cases h
def Md_layAway_127_L63 (v1 : Int32) (v2 : Int32) (v3 : Int32) (v4 : Int32) (v5 : Int32) (v6 : Int32) (v7 : Int32) (v8 : Int32) (s0 : Int32) (S : Sm) : Option ((Int32 × Sm) ⊕ (Sm)) := (if s0 = 0 then (if inb v6 8 then (Md_layAway_177_L63 v1 v2 v3 v4 v5 v6 v7 v6 (gi S 76 (ix v6)) S) else none) else (if inb v6 8 then (if inb v8 8 then ((Md_costOf v6 v7 v3 S).bind fun q10 => (Md_layAway_177_L63 v1 v2 v3 v4 v5 v6 v7 v6 (iMin (gi S 76 (ix v6)) ((gi S 76 (ix v8)) + q10.1)) q10.2)) else none) else none))
set_option maxRecDepth 4000 in
theorem t_Md_layAway_127_L63 {V : Sm → Wd} (hV : VwT V) {l : Launch} {Γ : Gm} {v1 : Int32} {v2 : Int32} {v3 : Int32} {v4 : Int32} {v5 : Int32} {v6 : Int32} {v7 : Int32} {v8 : Int32} {s0 : Int32} {rF : Option Value} {wF : Wd} {S : Sm} {o : (Int32 × Sm) ⊕ (Sm)} (h : Md_layAway_127_L63 v1 v2 v3 v4 v5 v6 v7 v8 s0 S = some o) (hK : Sum.elim (hd_Md_layAway_L63 V l Γ rF wF v1 v2 v3 v4 v5 v6) (ps_Md_layAway_L63 V l Γ rF wF v1 v2 v3 v4 v5 v6) o) : G mX12_layAway l Γ (rmD 7 0 0) (mQ Γ rF wF 0 0) 0 0 127 [some (.ref 53), some (.int v1), some (.int v2), some (.int v3), some (.int v4), some (.int v5), some (.int v6), some (.int v7), some (.int v8), none] [.int s0] (V S) := by
  unfold Md_layAway_127_L63 at h
  refine g_istore (ls1 := [some (.ref 53), some (.int v1), some (.int v2), some (.int v3), some (.int v4), some (.int v5), some (.int v6), some (.int v7), some (.int v8), some (.int s0)]) (pc := 127) dX12_layAway_127 (by decide) rfl ?_
  refine g_aload_n (pc := 129) dX12_layAway_129 rfl ?_
  refine v_getR hV (pc := 130) dX12_layAway_130 fo_12_38 rfl k0_53 r0_53_38 ?_
  refine g_iload (pc := 133) dX12_layAway_133 rfl ?_
  refine g_iload (pc := 135) dX12_layAway_135 rfl ?_
  refine g_if_eq (tgt := 170) (pc := 137) dX12_layAway_137 (by decide) (fun c11 => ?_) (fun c11 => ?_)
  · rw [if_pos c11] at h
    refine g_aload_n (pc := 170) dX12_layAway_170 rfl ?_
    refine v_getR hV (pc := 171) dX12_layAway_171 fo_12_38 rfl k0_53 r0_53_38 ?_
    refine g_iload (pc := 174) dX12_layAway_174 rfl ?_
    by_cases c6 : inb v6 8
    · rw [if_pos c6] at h
      refine v_iald hV (pc := 176) dX12_layAway_176 k0_76 own_76 c6 ?_
      refine g_wk [true, true, true, true, true, true, true, true, false, false] rfl ?_
      exact t_Md_layAway_177_L63 hV h hK
    · rw [if_neg c6] at h; cases h
  · rw [if_neg c11] at h
    refine g_aload_n (pc := 140) dX12_layAway_140 rfl ?_
    refine v_getR hV (pc := 141) dX12_layAway_141 fo_12_38 rfl k0_53 r0_53_38 ?_
    refine g_iload (pc := 144) dX12_layAway_144 rfl ?_
    by_cases c8 : inb v6 8
    · rw [if_pos c8] at h
      refine v_iald hV (pc := 146) dX12_layAway_146 k0_76 own_76 c8 ?_
      refine g_aload_n (pc := 147) dX12_layAway_147 rfl ?_
      refine v_getR hV (pc := 148) dX12_layAway_148 fo_12_38 rfl k0_53 r0_53_38 ?_
      refine g_iload (pc := 151) dX12_layAway_151 rfl ?_
      by_cases c9 : inb v8 8
      · rw [if_pos c9] at h
        refine v_iald hV (pc := 153) dX12_layAway_153 k0_76 own_76 c9 ?_
        refine g_aload_n (pc := 154) dX12_layAway_154 rfl ?_
        refine g_iload (pc := 155) dX12_layAway_155 rfl ?_
        refine g_iload (pc := 157) dX12_layAway_157 rfl ?_
        refine g_iload_n (pc := 159) dX12_layAway_159 rfl ?_
        obtain ⟨q10, hq10, h⟩ := bnd h
        refine v_callVi hV (Mc := mX12_costOf) (v := q10.1) (S1 := q10.2) (As := [.int v6, .int v7, .int v3]) (rest := [.int (gi S 76 (ix v8)), .int (gi S 76 (ix v6)), .int v6, .ref 76]) (q := (RX12, TX12, 58)) (pc := 160) dX12_layAway_160 mK_X12_401 mf_X12_costOf rfl k0_53 rfl rfl rfl (Nat.le_of_ble_eq_true rfl) ⟨Nat.le_of_ble_eq_true rfl, Nat.le_of_ble_eq_true rfl⟩ (r_Md_costOf hV hq10) ?_
        refine g_iadd (pc := 163) dX12_layAway_163 ?_
        refine g_iMin (pc := 164) dX12_layAway_164 mK_X12_329 ⟨Nat.le_of_ble_eq_true rfl, Nat.le_of_ble_eq_true rfl⟩ (Nat.zero_le _) (Nat.zero_le _) ?_
        refine g_goto (tgt := 177) (pc := 167) dX12_layAway_167 (by decide) ?_
        refine g_wk [true, true, true, true, true, true, true, true, false, false] rfl ?_
        exact t_Md_layAway_177_L63 hV h hK
      · rw [if_neg c9] at h; cases h
    · rw [if_neg c8] at h; cases h
def Md_layAway_126_L63 (v1 : Int32) (v2 : Int32) (v3 : Int32) (v4 : Int32) (v5 : Int32) (v6 : Int32) (v7 : Int32) (v8 : Int32) (S : Sm) : Option ((Int32 × Sm) ⊕ (Sm)) := (Md_layAway_127_L63 v1 v2 v3 v4 v5 v6 v7 v8 0 S)
set_option maxRecDepth 4000 in
theorem t_Md_layAway_126_L63 {V : Sm → Wd} (hV : VwT V) {l : Launch} {Γ : Gm} {v1 : Int32} {v2 : Int32} {v3 : Int32} {v4 : Int32} {v5 : Int32} {v6 : Int32} {v7 : Int32} {v8 : Int32} {rF : Option Value} {wF : Wd} {S : Sm} {o : (Int32 × Sm) ⊕ (Sm)} (h : Md_layAway_126_L63 v1 v2 v3 v4 v5 v6 v7 v8 S = some o) (hK : Sum.elim (hd_Md_layAway_L63 V l Γ rF wF v1 v2 v3 v4 v5 v6) (ps_Md_layAway_L63 V l Γ rF wF v1 v2 v3 v4 v5 v6) o) : G mX12_layAway l Γ (rmD 7 0 0) (mQ Γ rF wF 0 0) 0 0 126 [some (.ref 53), some (.int v1), some (.int v2), some (.int v3), some (.int v4), some (.int v5), some (.int v6), some (.int v7), some (.int v8), none] [] (V S) := by
  unfold Md_layAway_126_L63 at h
  refine g_iconst (v := 0) (pc := 126) dX12_layAway_126 (by decide) ?_
  exact t_Md_layAway_127_L63 hV h hK
def Md_layAway_122_L63 (v1 : Int32) (v2 : Int32) (v3 : Int32) (v4 : Int32) (v5 : Int32) (v6 : Int32) (v7 : Int32) (v8 : Int32) (S : Sm) : Option ((Int32 × Sm) ⊕ (Sm)) := (Md_layAway_127_L63 v1 v2 v3 v4 v5 v6 v7 v8 1 S)
set_option maxRecDepth 4000 in
theorem t_Md_layAway_122_L63 {V : Sm → Wd} (hV : VwT V) {l : Launch} {Γ : Gm} {v1 : Int32} {v2 : Int32} {v3 : Int32} {v4 : Int32} {v5 : Int32} {v6 : Int32} {v7 : Int32} {v8 : Int32} {rF : Option Value} {wF : Wd} {S : Sm} {o : (Int32 × Sm) ⊕ (Sm)} (h : Md_layAway_122_L63 v1 v2 v3 v4 v5 v6 v7 v8 S = some o) (hK : Sum.elim (hd_Md_layAway_L63 V l Γ rF wF v1 v2 v3 v4 v5 v6) (ps_Md_layAway_L63 V l Γ rF wF v1 v2 v3 v4 v5 v6) o) : G mX12_layAway l Γ (rmD 7 0 0) (mQ Γ rF wF 0 0) 0 0 122 [some (.ref 53), some (.int v1), some (.int v2), some (.int v3), some (.int v4), some (.int v5), some (.int v6), some (.int v7), some (.int v8), none] [] (V S) := by
  unfold Md_layAway_122_L63 at h
  refine g_iconst (v := 1) (pc := 122) dX12_layAway_122 (by decide) ?_
  refine g_goto (tgt := 127) (pc := 123) dX12_layAway_123 (by decide) ?_
  exact t_Md_layAway_127_L63 hV h hK
def Md_layAway_L63 (v1 : Int32) (v2 : Int32) (v3 : Int32) (v4 : Int32) (v5 : Int32) (v6 : Int32) (q : Int32 × Sm) : Option ((Int32 × Sm) ⊕ (Sm)) := (if (gi q.2 68 1) ≤ q.1 then (some (.inr q.2)) else ((Md_leads v6 q.1 q.2).bind fun q5 => (if (Md_has v2 q.1) = 0 then (Md_layAway_126_L63 v1 v2 v3 v4 v5 v6 q.1 q5 q.2) else (if inb q5 8 then (if (1000000 : Int32) ≤ (gi q.2 76 (ix q5)) then (Md_layAway_126_L63 v1 v2 v3 v4 v5 v6 q.1 q5 q.2) else (if q5 = v1 then (Md_layAway_122_L63 v1 v2 v3 v4 v5 v6 q.1 q5 q.2) else (if (Md_has v4 q5) = 0 then (Md_layAway_122_L63 v1 v2 v3 v4 v5 v6 q.1 q5 q.2) else (Md_layAway_126_L63 v1 v2 v3 v4 v5 v6 q.1 q5 q.2)))) else none))))
set_option maxRecDepth 4000 in
theorem t_Md_layAway_L63 {V : Sm → Wd} (hV : VwT V) {l : Launch} {Γ : Gm} {rF : Option Value} {wF : Wd} {v1 : Int32} {v2 : Int32} {v3 : Int32} {v4 : Int32} {v5 : Int32} {v6 : Int32} {q : Int32 × Sm} {o : (Int32 × Sm) ⊕ (Sm)} (h : Md_layAway_L63 v1 v2 v3 v4 v5 v6 q = some o) (hK : Sum.elim (hd_Md_layAway_L63 V l Γ rF wF v1 v2 v3 v4 v5 v6) (ps_Md_layAway_L63 V l Γ rF wF v1 v2 v3 v4 v5 v6) o) : hd_Md_layAway_L63 V l Γ rF wF v1 v2 v3 v4 v5 v6 q := by
  unfold Md_layAway_L63 at h
  unfold hd_Md_layAway_L63
  refine g_iload (pc := 63) dX12_layAway_63 rfl ?_
  refine g_aload_n (pc := 65) dX12_layAway_65 rfl ?_
  refine v_getR hV (pc := 66) dX12_layAway_66 fo_12_24 rfl k0_53 r0_53_24 ?_
  refine g_iconst (v := 1) (pc := 69) dX12_layAway_69 (by decide) ?_
  refine v_ialdK hV (k := 1) (pc := 70) dX12_layAway_70 k0_68 own_68 (by decide) (by decide) ?_
  refine g_icmp_ge (tgt := 184) (pc := 71) dX12_layAway_71 (by decide) (fun c17 => ?_) (fun c17 => ?_)
  · rw [if_pos c17] at h
    refine g_wk [true, true, true, true, true, true, true, false, false, false] rfl ?_
    cases h
    exact hK
  · rw [if_neg c17] at h
    refine g_aload_n (pc := 74) dX12_layAway_74 rfl ?_
    refine g_iload (pc := 75) dX12_layAway_75 rfl ?_
    refine g_iload (pc := 77) dX12_layAway_77 rfl ?_
    obtain ⟨q5, hq5, h⟩ := bnd h
    refine v_callVi hV (Mc := mX12_leads) (v := q5) (S1 := q.2) (As := [.int v6, .int q.1]) (rest := []) (q := (RX12, TX12, 58)) (pc := 79) dX12_layAway_79 mK_X12_323 mf_X12_leads rfl k0_53 rfl rfl rfl (Nat.le_of_ble_eq_true rfl) ⟨Nat.le_of_ble_eq_true rfl, Nat.le_of_ble_eq_true rfl⟩ (r_Md_leads hV hq5) ?_
    refine g_istore (ls1 := [some (.ref 53), some (.int v1), some (.int v2), some (.int v3), some (.int v4), some (.int v5), some (.int v6), some (.int q.1), some (.int q5), none]) (pc := 82) dX12_layAway_82 (by decide) rfl ?_
    refine g_iload_n (pc := 84) dX12_layAway_84 rfl ?_
    refine g_iload (pc := 85) dX12_layAway_85 rfl ?_
    refine v_callSi (Mc := mX12_has) (v := Md_has v2 q.1) (S1 := q.2) (As := [.int v2, .int q.1]) (rest := []) (pc := 87) dX12_layAway_87 mK_X12_249 mf_X12_has rfl rfl (Nat.le_of_ble_eq_true rfl) ⟨Nat.le_of_ble_eq_true rfl, Nat.le_of_ble_eq_true rfl⟩ (r_Md_has hV rfl) ?_
    refine g_if_eq (tgt := 126) (pc := 90) dX12_layAway_90 (by decide) (fun c16 => ?_) (fun c16 => ?_)
    · rw [if_pos c16] at h
      exact t_Md_layAway_126_L63 hV h hK
    · rw [if_neg c16] at h
      refine g_aload_n (pc := 93) dX12_layAway_93 rfl ?_
      refine v_getR hV (pc := 94) dX12_layAway_94 fo_12_38 rfl k0_53 r0_53_38 ?_
      refine g_iload (pc := 97) dX12_layAway_97 rfl ?_
      by_cases c12 : inb q5 8
      · rw [if_pos c12] at h
        refine v_iald hV (pc := 99) dX12_layAway_99 k0_76 own_76 c12 ?_
        refine g_ldcw (v := 1000000) (pc := 100) dX12_layAway_100 kI_X12_388 ?_
        refine g_icmp_ge (tgt := 126) (pc := 103) dX12_layAway_103 (by decide) (fun c15 => ?_) (fun c15 => ?_)
        · rw [if_pos c15] at h
          exact t_Md_layAway_126_L63 hV h hK
        · rw [if_neg c15] at h
          refine g_iload (pc := 106) dX12_layAway_106 rfl ?_
          refine g_iload_n (pc := 108) dX12_layAway_108 rfl ?_
          refine g_icmp_eq (tgt := 122) (pc := 109) dX12_layAway_109 (by decide) (fun c14 => ?_) (fun c14 => ?_)
          · rw [if_pos c14] at h
            exact t_Md_layAway_122_L63 hV h hK
          · rw [if_neg c14] at h
            refine g_iload (pc := 112) dX12_layAway_112 rfl ?_
            refine g_iload (pc := 114) dX12_layAway_114 rfl ?_
            refine v_callSi (Mc := mX12_has) (v := Md_has v4 q5) (S1 := q.2) (As := [.int v4, .int q5]) (rest := []) (pc := 116) dX12_layAway_116 mK_X12_249 mf_X12_has rfl rfl (Nat.le_of_ble_eq_true rfl) ⟨Nat.le_of_ble_eq_true rfl, Nat.le_of_ble_eq_true rfl⟩ (r_Md_has hV rfl) ?_
            refine g_if_ne (tgt := 126) (pc := 119) dX12_layAway_119 (by decide) (fun c13 => ?_) (fun c13 => ?_)
            · rw [if_neg c13] at h
              exact t_Md_layAway_126_L63 hV h hK
            · rw [if_pos c13] at h
              exact t_Md_layAway_122_L63 hV h hK
      · rw [if_neg c12] at h; cases h
set_option maxRecDepth 4000 in
theorem w_Md_layAway_L63 {V : Sm → Wd} (hV : VwT V) {l : Launch} {Γ : Gm} {rF : Option Value} {wF : Wd} {v1 : Int32} {v2 : Int32} {v3 : Int32} {v4 : Int32} {v5 : Int32} {v6 : Int32} {k : Nat} {q : Int32 × Sm} {o : Sm} (h : lpN (Md_layAway_L63 v1 v2 v3 v4 v5 v6) k q = some o) (hP : ps_Md_layAway_L63 V l Γ rF wF v1 v2 v3 v4 v5 v6 o) : hd_Md_layAway_L63 V l Γ rF wF v1 v2 v3 v4 v5 v6 q := lpN_ind2 (hd_Md_layAway_L63 V l Γ rF wF v1 v2 v3 v4 v5 v6) (ps_Md_layAway_L63 V l Γ rF wF v1 v2 v3 v4 v5 v6) (fun s o h hK => t_Md_layAway_L63 hV h hK) k q o h hP
def Md_layAway_L49 (v1 : Int32) (v2 : Int32) (v3 : Int32) (v4 : Int32) (v5 : Int32) (q : Int32 × Sm) : Option ((Int32 × Sm) ⊕ (Sm)) := (if (gi q.2 68 0) ≤ q.1 then (some (.inr q.2)) else ((lpN (Md_layAway_L63 v1 v2 v3 v4 v5 q.1) FU (0, q.2)).bind fun q18 => (some (.inl (q.1 + 1, q18)))))
set_option maxRecDepth 4000 in
theorem t_Md_layAway_L49 {V : Sm → Wd} (hV : VwT V) {l : Launch} {Γ : Gm} {rF : Option Value} {wF : Wd} {v1 : Int32} {v2 : Int32} {v3 : Int32} {v4 : Int32} {v5 : Int32} {q : Int32 × Sm} {o : (Int32 × Sm) ⊕ (Sm)} (h : Md_layAway_L49 v1 v2 v3 v4 v5 q = some o) (hK : Sum.elim (hd_Md_layAway_L49 V l Γ rF wF v1 v2 v3 v4 v5) (ps_Md_layAway_L49 V l Γ rF wF v1 v2 v3 v4 v5) o) : hd_Md_layAway_L49 V l Γ rF wF v1 v2 v3 v4 v5 q := by
  unfold Md_layAway_L49 at h
  unfold hd_Md_layAway_L49
  refine g_iload (pc := 49) dX12_layAway_49 rfl ?_
  refine g_aload_n (pc := 51) dX12_layAway_51 rfl ?_
  refine v_getR hV (pc := 52) dX12_layAway_52 fo_12_24 rfl k0_53 r0_53_24 ?_
  refine g_iconst (v := 0) (pc := 55) dX12_layAway_55 (by decide) ?_
  refine v_ialdK hV (k := 0) (pc := 56) dX12_layAway_56 k0_68 own_68 (by decide) (by decide) ?_
  refine g_icmp_ge (tgt := 190) (pc := 57) dX12_layAway_57 (by decide) (fun c19 => ?_) (fun c19 => ?_)
  · rw [if_pos c19] at h
    refine g_wk [true, true, true, true, true, true, false, false, false, false] rfl ?_
    cases h
    exact hK
  · rw [if_neg c19] at h
    refine g_iconst (v := 0) (pc := 60) dX12_layAway_60 (by decide) ?_
    refine g_istore (ls1 := [some (.ref 53), some (.int v1), some (.int v2), some (.int v3), some (.int v4), some (.int v5), some (.int q.1), some (.int 0), none, none]) (pc := 61) dX12_layAway_61 (by decide) rfl ?_
    obtain ⟨q18, hqq18, h⟩ := bnd h
    refine w_Md_layAway_L63 hV hqq18 ?_
    unfold ps_Md_layAway_L63
    show G _ _ _ _ _ _ _ _ _ _ _
    refine g_iinc (v := q.1 + 1) (ls1 := [some (.ref 53), some (.int v1), some (.int v2), some (.int v3), some (.int v4), some (.int v5), some (.int (q.1 + 1)), none, none, none]) (pc := 184) dX12_layAway_184 rfl rfl (by decide) rfl ?_
    refine g_goto (tgt := 49) (pc := 187) dX12_layAway_187 (by decide) ?_
    cases h
    exact hK
set_option maxRecDepth 4000 in
theorem w_Md_layAway_L49 {V : Sm → Wd} (hV : VwT V) {l : Launch} {Γ : Gm} {rF : Option Value} {wF : Wd} {v1 : Int32} {v2 : Int32} {v3 : Int32} {v4 : Int32} {v5 : Int32} {k : Nat} {q : Int32 × Sm} {o : Sm} (h : lpN (Md_layAway_L49 v1 v2 v3 v4 v5) k q = some o) (hP : ps_Md_layAway_L49 V l Γ rF wF v1 v2 v3 v4 v5 o) : hd_Md_layAway_L49 V l Γ rF wF v1 v2 v3 v4 v5 q := lpN_ind2 (hd_Md_layAway_L49 V l Γ rF wF v1 v2 v3 v4 v5) (ps_Md_layAway_L49 V l Γ rF wF v1 v2 v3 v4 v5) (fun s o h hK => t_Md_layAway_L49 hV h hK) k q o h hP
def Md_layAway_L39 (v1 : Int32) (v2 : Int32) (v3 : Int32) (v4 : Int32) (q : Int32 × Sm) : Option ((Int32 × Sm) ⊕ (Sm)) := (if (8 : Int32) ≤ q.1 then (some (.inr q.2)) else ((lpN (Md_layAway_L49 v1 v2 v3 v4 q.1) FU (0, q.2)).bind fun q20 => (some (.inl (q.1 + 1, q20)))))
set_option maxRecDepth 4000 in
theorem t_Md_layAway_L39 {V : Sm → Wd} (hV : VwT V) {l : Launch} {Γ : Gm} {rF : Option Value} {wF : Wd} {v1 : Int32} {v2 : Int32} {v3 : Int32} {v4 : Int32} {q : Int32 × Sm} {o : (Int32 × Sm) ⊕ (Sm)} (h : Md_layAway_L39 v1 v2 v3 v4 q = some o) (hK : Sum.elim (hd_Md_layAway_L39 V l Γ rF wF v1 v2 v3 v4) (ps_Md_layAway_L39 V l Γ rF wF v1 v2 v3 v4) o) : hd_Md_layAway_L39 V l Γ rF wF v1 v2 v3 v4 q := by
  unfold Md_layAway_L39 at h
  unfold hd_Md_layAway_L39
  refine g_iload (pc := 39) dX12_layAway_39 rfl ?_
  refine g_bipush (v := 8) (pc := 41) dX12_layAway_41 (by decide) ?_
  refine g_icmp_ge (tgt := 196) (pc := 43) dX12_layAway_43 (by decide) (fun c21 => ?_) (fun c21 => ?_)
  · rw [if_pos c21] at h
    refine g_wk [false, false, false, false, false, false, false, false, false, false] rfl ?_
    cases h
    exact hK
  · rw [if_neg c21] at h
    refine g_iconst (v := 0) (pc := 46) dX12_layAway_46 (by decide) ?_
    refine g_istore (ls1 := [some (.ref 53), some (.int v1), some (.int v2), some (.int v3), some (.int v4), some (.int q.1), some (.int 0), none, none, none]) (pc := 47) dX12_layAway_47 (by decide) rfl ?_
    obtain ⟨q20, hqq20, h⟩ := bnd h
    refine w_Md_layAway_L49 hV hqq20 ?_
    unfold ps_Md_layAway_L49
    show G _ _ _ _ _ _ _ _ _ _ _
    refine g_iinc (v := q.1 + 1) (ls1 := [some (.ref 53), some (.int v1), some (.int v2), some (.int v3), some (.int v4), some (.int (q.1 + 1)), none, none, none, none]) (pc := 190) dX12_layAway_190 rfl rfl (by decide) rfl ?_
    refine g_goto (tgt := 39) (pc := 193) dX12_layAway_193 (by decide) ?_
    cases h
    exact hK
set_option maxRecDepth 4000 in
theorem w_Md_layAway_L39 {V : Sm → Wd} (hV : VwT V) {l : Launch} {Γ : Gm} {rF : Option Value} {wF : Wd} {v1 : Int32} {v2 : Int32} {v3 : Int32} {v4 : Int32} {k : Nat} {q : Int32 × Sm} {o : Sm} (h : lpN (Md_layAway_L39 v1 v2 v3 v4) k q = some o) (hP : ps_Md_layAway_L39 V l Γ rF wF v1 v2 v3 v4 o) : hd_Md_layAway_L39 V l Γ rF wF v1 v2 v3 v4 q := lpN_ind2 (hd_Md_layAway_L39 V l Γ rF wF v1 v2 v3 v4) (ps_Md_layAway_L39 V l Γ rF wF v1 v2 v3 v4) (fun s o h hK => t_Md_layAway_L39 hV h hK) k q o h hP
def Md_layAway (v1 : Int32) (v2 : Int32) (v3 : Int32) (v4 : Int32) (S : Sm) : Option (Sm) := ((lpN (Md_layAway_L3 v1 v2 v3 v4) FU (0, S)).bind fun q4 => ((lpN (Md_layAway_L39 v1 v2 v3 v4) FU (0, q4)).bind fun q22 => (some q22)))
set_option maxRecDepth 4000 in
theorem r_Md_layAway {V : Sm → Wd} (hV : VwT V) {v1 : Int32} {v2 : Int32} {v3 : Int32} {v4 : Int32} {S : Sm} {q : Sm} (h : Md_layAway v1 v2 v3 v4 S = some q) : Runs 7 mX12_layAway [.ref 53, .int v1, .int v2, .int v3, .int v4] (V S) none (V q) 0 0 := by
  unfold Md_layAway at h
  refine Runs.of2 [some (.ref 53), some (.int v1), some (.int v2), some (.int v3), some (.int v4), none, none, none, none, none] 5 rfl rfl (Nat.le_of_ble_eq_true rfl) (fun l Γ => ?_)
  refine g_iconst (v := 0) (pc := 0) dX12_layAway_0 (by decide) ?_
  refine g_istore (ls1 := [some (.ref 53), some (.int v1), some (.int v2), some (.int v3), some (.int v4), some (.int 0), none, none, none, none]) (pc := 1) dX12_layAway_1 (by decide) rfl ?_
  obtain ⟨q4, hqq4, h⟩ := bnd h
  refine w_Md_layAway_L3 hV hqq4 ?_
  unfold ps_Md_layAway_L3
  show G _ _ _ _ _ _ _ _ _ _ _
  refine g_iconst (v := 0) (pc := 36) dX12_layAway_36 (by decide) ?_
  refine g_istore (ls1 := [some (.ref 53), some (.int v1), some (.int v2), some (.int v3), some (.int v4), some (.int 0), none, none, none, none]) (pc := 37) dX12_layAway_37 (by decide) rfl ?_
  obtain ⟨q22, hqq22, h⟩ := bnd h
  refine w_Md_layAway_L39 hV hqq22 ?_
  unfold ps_Md_layAway_L39
  show G _ _ _ _ _ _ _ _ _ _ _
  cases h
  exact g_vret (pc := 196) dX12_layAway_196 rfl (Nat.le_refl _) (Nat.le_refl _)
def Md_soonest_27 (S : Sm) : Option (Int32 × Sm) := (some (((-1), S)))
set_option maxRecDepth 4000 in
theorem t_Md_soonest_27 {V : Sm → Wd} (hV : VwT V) {l : Launch} {Γ : Gm}  {S : Sm} {q : Int32 × Sm} (h : Md_soonest_27 S = some q) : G mX12_soonest l Γ (rmD 8 0 0) (mQ Γ (some (.int q.1)) (V q.2) 0 0) 0 0 27 [none, none, none, none, none, none] [] (V S) := by
  unfold Md_soonest_27 at h
  refine g_iconst (v := (-1)) (pc := 27) dX12_soonest_27 (by decide) ?_
  cases h
  exact g_iret (pc := 28) dX12_soonest_28 rfl rfl (Nat.le_refl _) (Nat.le_refl _)
def Md_soonest_76 (s0 : Int32) (S : Sm) : Option (Int32 × Sm) := (some ((s0, S)))
set_option maxRecDepth 4000 in
theorem t_Md_soonest_76 {V : Sm → Wd} (hV : VwT V) {l : Launch} {Γ : Gm} {s0 : Int32} {S : Sm} {q : Int32 × Sm} (h : Md_soonest_76 s0 S = some q) : G mX12_soonest l Γ (rmD 8 0 0) (mQ Γ (some (.int q.1)) (V q.2) 0 0) 0 0 76 [none, none, none, none, none, none] [.int s0] (V S) := by
  unfold Md_soonest_76 at h
  cases h
  exact g_iret (pc := 76) dX12_soonest_76 rfl rfl (Nat.le_refl _) (Nat.le_refl _)
def Md_soonest_54 (v1 : Int32) (S : Sm) : Option (Int32 × Sm) := (if inb v1 8 then (if (gi S 76 (ix v1)) = 1000000 then (Md_soonest_76 ((-1)) S) else (if inb v1 8 then (Md_soonest_76 (gi S 76 (ix v1)) S) else none)) else none)
set_option maxRecDepth 4000 in
theorem t_Md_soonest_54 {V : Sm → Wd} (hV : VwT V) {l : Launch} {Γ : Gm} {v1 : Int32} {S : Sm} {q : Int32 × Sm} (h : Md_soonest_54 v1 S = some q) : G mX12_soonest l Γ (rmD 8 0 0) (mQ Γ (some (.int q.1)) (V q.2) 0 0) 0 0 54 [some (.ref 53), some (.int v1), none, none, none, none] [] (V S) := by
  unfold Md_soonest_54 at h
  refine g_aload_n (pc := 54) dX12_soonest_54 rfl ?_
  refine v_getR hV (pc := 55) dX12_soonest_55 fo_12_38 rfl k0_53 r0_53_38 ?_
  refine g_iload_n (pc := 58) dX12_soonest_58 rfl ?_
  by_cases c3 : inb v1 8
  · rw [if_pos c3] at h
    refine v_iald hV (pc := 59) dX12_soonest_59 k0_76 own_76 c3 ?_
    refine g_ldcw (v := 1000000) (pc := 60) dX12_soonest_60 kI_X12_388 ?_
    refine g_icmp_ne (tgt := 70) (pc := 63) dX12_soonest_63 (by decide) (fun c5 => ?_) (fun c5 => ?_)
    · rw [if_neg c5] at h
      refine g_aload_n (pc := 70) dX12_soonest_70 rfl ?_
      refine v_getR hV (pc := 71) dX12_soonest_71 fo_12_38 rfl k0_53 r0_53_38 ?_
      refine g_iload_n (pc := 74) dX12_soonest_74 rfl ?_
      by_cases c4 : inb v1 8
      · rw [if_pos c4] at h
        refine v_iald hV (pc := 75) dX12_soonest_75 k0_76 own_76 c4 ?_
        refine g_wk [false, false, false, false, false, false] rfl ?_
        exact t_Md_soonest_76 hV h
      · rw [if_neg c4] at h; cases h
    · rw [if_pos c5] at h
      refine g_iconst (v := (-1)) (pc := 66) dX12_soonest_66 (by decide) ?_
      refine g_goto (tgt := 76) (pc := 67) dX12_soonest_67 (by decide) ?_
      refine g_wk [false, false, false, false, false, false] rfl ?_
      exact t_Md_soonest_76 hV h
  · rw [if_neg c3] at h; cases h
def hd_Md_soonest_L80 (V : Sm → Wd) (l : Launch) (Γ : Gm) (rF : Option Value) (wF : Wd) (v1 : Int32) (v2 : Int32) (v3 : Int32) (S : Sm) (q : Int32) : Prop := G mX12_soonest l Γ (rmD 8 0 0) (mQ Γ rF wF 0 0) 0 0 80 [some (.ref 53), some (.int v1), some (.int v2), some (.int v3), none, some (.int q)] [] (V S)
def ps_Md_soonest_L80 (V : Sm → Wd) (l : Launch) (Γ : Gm) (rF : Option Value) (wF : Wd) (v1 : Int32) (v2 : Int32) (v3 : Int32) (S : Sm) (x : (Int32) ⊕ (Unit)) : Prop := (Sum.elim (fun (a : Int32) => G mX12_soonest l Γ (rmD 8 0 0) (mQ Γ rF wF 0 0) 0 0 134 [none, none, none, none, none, some (.int a)] [] (V S)) (fun (a : Unit) => G mX12_soonest l Γ (rmD 8 0 0) (mQ Γ rF wF 0 0) 0 0 143 [none, none, none, none, none, none] [] (V S))) x
def Md_soonest_137_L80 (v1 : Int32) (v2 : Int32) (v3 : Int32) (v5 : Int32) (S : Sm) : Option ((Int32) ⊕ ((Int32) ⊕ (Unit))) := (some (.inl (v5 + 1)))
set_option maxRecDepth 4000 in
theorem t_Md_soonest_137_L80 {V : Sm → Wd} (hV : VwT V) {l : Launch} {Γ : Gm} {v1 : Int32} {v2 : Int32} {v3 : Int32} {v5 : Int32} {rF : Option Value} {wF : Wd} {S : Sm} {o : (Int32) ⊕ ((Int32) ⊕ (Unit))} (h : Md_soonest_137_L80 v1 v2 v3 v5 S = some o) (hK : Sum.elim (hd_Md_soonest_L80 V l Γ rF wF v1 v2 v3 S) (ps_Md_soonest_L80 V l Γ rF wF v1 v2 v3 S) o) : G mX12_soonest l Γ (rmD 8 0 0) (mQ Γ rF wF 0 0) 0 0 137 [some (.ref 53), some (.int v1), some (.int v2), some (.int v3), none, some (.int v5)] [] (V S) := by
  unfold Md_soonest_137_L80 at h
  refine g_iinc (v := v5 + 1) (ls1 := [some (.ref 53), some (.int v1), some (.int v2), some (.int v3), none, some (.int (v5 + 1))]) (pc := 137) dX12_soonest_137 rfl rfl (by decide) rfl ?_
  refine g_goto (tgt := 80) (pc := 140) dX12_soonest_140 (by decide) ?_
  cases h
  exact hK
def Md_soonest_L80 (v1 : Int32) (v2 : Int32) (v3 : Int32) (S : Sm) (q : Int32) : Option ((Int32) ⊕ ((Int32) ⊕ (Unit))) := (if v1 = v2 then (some (.inr (.inr ()))) else (if (gi S 68 1) ≤ q then (some (.inr (.inr ()))) else (if (Md_has v3 q) = 0 then (Md_soonest_137_L80 v1 v2 v3 q S) else ((Md_leads v1 q S).bind fun q6 => (if inb q6 8 then ((Md_lasts v1 q S).bind fun q8 => (if inb v1 8 then (if ((gi S 76 (ix q6)) + q8) = (gi S 76 (ix v1)) then (some (.inr (.inl q))) else (Md_soonest_137_L80 v1 v2 v3 q S)) else none)) else none)))))
set_option maxRecDepth 4000 in
theorem t_Md_soonest_L80 {V : Sm → Wd} (hV : VwT V) {l : Launch} {Γ : Gm} {rF : Option Value} {wF : Wd} {v1 : Int32} {v2 : Int32} {v3 : Int32} {S : Sm} {q : Int32} {o : (Int32) ⊕ ((Int32) ⊕ (Unit))} (h : Md_soonest_L80 v1 v2 v3 S q = some o) (hK : Sum.elim (hd_Md_soonest_L80 V l Γ rF wF v1 v2 v3 S) (ps_Md_soonest_L80 V l Γ rF wF v1 v2 v3 S) o) : hd_Md_soonest_L80 V l Γ rF wF v1 v2 v3 S q := by
  unfold Md_soonest_L80 at h
  unfold hd_Md_soonest_L80
  refine g_iload_n (pc := 80) dX12_soonest_80 rfl ?_
  refine g_iload_n (pc := 81) dX12_soonest_81 rfl ?_
  refine g_icmp_eq (tgt := 143) (pc := 82) dX12_soonest_82 (by decide) (fun c13 => ?_) (fun c13 => ?_)
  · rw [if_pos c13] at h
    refine g_wk [false, false, false, false, false, false] rfl ?_
    cases h
    exact hK
  · rw [if_neg c13] at h
    refine g_iload (pc := 85) dX12_soonest_85 rfl ?_
    refine g_aload_n (pc := 87) dX12_soonest_87 rfl ?_
    refine v_getR hV (pc := 88) dX12_soonest_88 fo_12_24 rfl k0_53 r0_53_24 ?_
    refine g_iconst (v := 1) (pc := 91) dX12_soonest_91 (by decide) ?_
    refine v_ialdK hV (k := 1) (pc := 92) dX12_soonest_92 k0_68 own_68 (by decide) (by decide) ?_
    refine g_icmp_ge (tgt := 143) (pc := 93) dX12_soonest_93 (by decide) (fun c12 => ?_) (fun c12 => ?_)
    · rw [if_pos c12] at h
      refine g_wk [false, false, false, false, false, false] rfl ?_
      cases h
      exact hK
    · rw [if_neg c12] at h
      refine g_iload_n (pc := 96) dX12_soonest_96 rfl ?_
      refine g_iload (pc := 97) dX12_soonest_97 rfl ?_
      refine v_callSi (Mc := mX12_has) (v := Md_has v3 q) (S1 := S) (As := [.int v3, .int q]) (rest := []) (pc := 99) dX12_soonest_99 mK_X12_249 mf_X12_has rfl rfl (Nat.le_of_ble_eq_true rfl) ⟨Nat.le_of_ble_eq_true rfl, Nat.le_of_ble_eq_true rfl⟩ (r_Md_has hV rfl) ?_
      refine g_if_eq (tgt := 137) (pc := 102) dX12_soonest_102 (by decide) (fun c11 => ?_) (fun c11 => ?_)
      · rw [if_pos c11] at h
        exact t_Md_soonest_137_L80 hV h hK
      · rw [if_neg c11] at h
        refine g_aload_n (pc := 105) dX12_soonest_105 rfl ?_
        refine v_getR hV (pc := 106) dX12_soonest_106 fo_12_38 rfl k0_53 r0_53_38 ?_
        refine g_aload_n (pc := 109) dX12_soonest_109 rfl ?_
        refine g_iload_n (pc := 110) dX12_soonest_110 rfl ?_
        refine g_iload (pc := 111) dX12_soonest_111 rfl ?_
        obtain ⟨q6, hq6, h⟩ := bnd h
        refine v_callVi hV (Mc := mX12_leads) (v := q6) (S1 := S) (As := [.int v1, .int q]) (rest := [.ref 76]) (q := (RX12, TX12, 58)) (pc := 113) dX12_soonest_113 mK_X12_323 mf_X12_leads rfl k0_53 rfl rfl rfl (Nat.le_of_ble_eq_true rfl) ⟨Nat.le_of_ble_eq_true rfl, Nat.le_of_ble_eq_true rfl⟩ (r_Md_leads hV hq6) ?_
        by_cases c7 : inb q6 8
        · rw [if_pos c7] at h
          refine v_iald hV (pc := 116) dX12_soonest_116 k0_76 own_76 c7 ?_
          refine g_aload_n (pc := 117) dX12_soonest_117 rfl ?_
          refine g_iload_n (pc := 118) dX12_soonest_118 rfl ?_
          refine g_iload (pc := 119) dX12_soonest_119 rfl ?_
          obtain ⟨q8, hq8, h⟩ := bnd h
          refine v_callVi hV (Mc := mX12_lasts) (v := q8) (S1 := S) (As := [.int v1, .int q]) (rest := [.int (gi S 76 (ix q6))]) (q := (RX12, TX12, 58)) (pc := 121) dX12_soonest_121 mK_X12_320 mf_X12_lasts rfl k0_53 rfl rfl rfl (Nat.le_of_ble_eq_true rfl) ⟨Nat.le_of_ble_eq_true rfl, Nat.le_of_ble_eq_true rfl⟩ (r_Md_lasts hV hq8) ?_
          refine g_iadd (pc := 124) dX12_soonest_124 ?_
          refine g_aload_n (pc := 125) dX12_soonest_125 rfl ?_
          refine v_getR hV (pc := 126) dX12_soonest_126 fo_12_38 rfl k0_53 r0_53_38 ?_
          refine g_iload_n (pc := 129) dX12_soonest_129 rfl ?_
          by_cases c9 : inb v1 8
          · rw [if_pos c9] at h
            refine v_iald hV (pc := 130) dX12_soonest_130 k0_76 own_76 c9 ?_
            refine g_icmp_ne (tgt := 137) (pc := 131) dX12_soonest_131 (by decide) (fun c10 => ?_) (fun c10 => ?_)
            · rw [if_neg c10] at h
              exact t_Md_soonest_137_L80 hV h hK
            · rw [if_pos c10] at h
              refine g_wk [false, false, false, false, false, true] rfl ?_
              cases h
              exact hK
          · rw [if_neg c9] at h; cases h
        · rw [if_neg c7] at h; cases h
set_option maxRecDepth 4000 in
theorem w_Md_soonest_L80 {V : Sm → Wd} (hV : VwT V) {l : Launch} {Γ : Gm} {rF : Option Value} {wF : Wd} {v1 : Int32} {v2 : Int32} {v3 : Int32} {S : Sm} {k : Nat} {q : Int32} {o : (Int32) ⊕ (Unit)} (h : lpN (Md_soonest_L80 v1 v2 v3 S) k q = some o) (hP : ps_Md_soonest_L80 V l Γ rF wF v1 v2 v3 S o) : hd_Md_soonest_L80 V l Γ rF wF v1 v2 v3 S q := lpN_ind2 (hd_Md_soonest_L80 V l Γ rF wF v1 v2 v3 S) (ps_Md_soonest_L80 V l Γ rF wF v1 v2 v3 S) (fun s o h hK => t_Md_soonest_L80 hV h hK) k q o h hP
def Md_soonest (v1 : Int32) (v2 : Int32) (v3 : Int32) (v4 : Int32) (S : Sm) : Option (Int32 × Sm) := (if (Md_areMouths v1 v2 S) = 0 then (Md_soonest_27 S) else (if (Md_isSet v3 S) = 0 then (Md_soonest_27 S) else (if (Md_in v4 0 1) = 0 then (Md_soonest_27 S) else ((Md_layAway v2 v3 0 0 S).bind fun q1 => (if inb v1 8 then (if (gi q1 76 (ix v1)) = 1000000 then (Md_soonest_54 v1 q1) else (if v4 = 0 then (Md_soonest_54 v1 q1) else ((lpN (Md_soonest_L80 v1 v2 v3 q1) FU 0).bind fun q14 => (Sum.elim (fun a15 => (some ((a15, q1)))) (fun a16 => (some (((-1), q1)))) q14)))) else none)))))
set_option maxRecDepth 4000 in
theorem r_Md_soonest {V : Sm → Wd} (hV : VwT V) {v1 : Int32} {v2 : Int32} {v3 : Int32} {v4 : Int32} {S : Sm} {q : Int32 × Sm} (h : Md_soonest v1 v2 v3 v4 S = some q) : Runs 8 mX12_soonest [.ref 53, .int v1, .int v2, .int v3, .int v4] (V S) (some (.int q.1)) (V q.2) 0 0 := by
  unfold Md_soonest at h
  refine Runs.of2 [some (.ref 53), some (.int v1), some (.int v2), some (.int v3), some (.int v4), none] 1 rfl rfl (Nat.le_of_ble_eq_true rfl) (fun l Γ => ?_)
  refine g_aload_n (pc := 0) dX12_soonest_0 rfl ?_
  refine g_iload_n (pc := 1) dX12_soonest_1 rfl ?_
  refine g_iload_n (pc := 2) dX12_soonest_2 rfl ?_
  refine v_callVi hV (Mc := mX12_areMouths) (v := Md_areMouths v1 v2 S) (S1 := S) (As := [.int v1, .int v2]) (rest := []) (q := (RX12, TX12, 58)) (pc := 3) dX12_soonest_3 mK_X12_392 mf_X12_areMouths rfl k0_53 rfl rfl rfl (Nat.le_of_ble_eq_true rfl) ⟨Nat.le_of_ble_eq_true rfl, Nat.le_of_ble_eq_true rfl⟩ (r_Md_areMouths hV rfl) ?_
  refine g_if_eq (tgt := 27) (pc := 6) dX12_soonest_6 (by decide) (fun c21 => ?_) (fun c21 => ?_)
  · rw [if_pos c21] at h
    refine g_wk [false, false, false, false, false, false] rfl ?_
    exact t_Md_soonest_27 hV h
  · rw [if_neg c21] at h
    refine g_aload_n (pc := 9) dX12_soonest_9 rfl ?_
    refine g_iload_n (pc := 10) dX12_soonest_10 rfl ?_
    refine v_callVi hV (Mc := mX12_isSet) (v := Md_isSet v3 S) (S1 := S) (As := [.int v3]) (rest := []) (q := (RX12, TX12, 58)) (pc := 11) dX12_soonest_11 mK_X12_395 mf_X12_isSet rfl k0_53 rfl rfl rfl (Nat.le_of_ble_eq_true rfl) ⟨Nat.le_of_ble_eq_true rfl, Nat.le_of_ble_eq_true rfl⟩ (r_Md_isSet hV rfl) ?_
    refine g_if_eq (tgt := 27) (pc := 14) dX12_soonest_14 (by decide) (fun c20 => ?_) (fun c20 => ?_)
    · rw [if_pos c20] at h
      refine g_wk [false, false, false, false, false, false] rfl ?_
      exact t_Md_soonest_27 hV h
    · rw [if_neg c20] at h
      refine g_iload (pc := 17) dX12_soonest_17 rfl ?_
      refine g_iconst (v := 0) (pc := 19) dX12_soonest_19 (by decide) ?_
      refine g_iconst (v := 1) (pc := 20) dX12_soonest_20 (by decide) ?_
      refine v_callSi (Mc := mX12_in) (v := Md_in v4 0 1) (S1 := S) (As := [.int v4, .int 0, .int 1]) (rest := []) (pc := 21) dX12_soonest_21 mK_X12_238 mf_X12_in rfl rfl (Nat.le_of_ble_eq_true rfl) ⟨Nat.le_of_ble_eq_true rfl, Nat.le_of_ble_eq_true rfl⟩ (r_Md_in hV rfl) ?_
      refine g_if_ne (tgt := 29) (pc := 24) dX12_soonest_24 (by decide) (fun c19 => ?_) (fun c19 => ?_)
      · rw [if_neg c19] at h
        refine g_aload_n (pc := 29) dX12_soonest_29 rfl ?_
        refine g_iload_n (pc := 30) dX12_soonest_30 rfl ?_
        refine g_iload_n (pc := 31) dX12_soonest_31 rfl ?_
        refine g_iconst (v := 0) (pc := 32) dX12_soonest_32 (by decide) ?_
        refine g_iconst (v := 0) (pc := 33) dX12_soonest_33 (by decide) ?_
        obtain ⟨q1, hq1, h⟩ := bnd h
        refine v_callVv hV (Mc := mX12_layAway) (S1 := q1) (As := [.int v2, .int v3, .int 0, .int 0]) (rest := []) (q := (RX12, TX12, 58)) (pc := 34) dX12_soonest_34 mK_X12_405 mf_X12_layAway rfl k0_53 rfl rfl rfl (Nat.le_of_ble_eq_true rfl) ⟨Nat.le_of_ble_eq_true rfl, Nat.le_of_ble_eq_true rfl⟩ (r_Md_layAway hV hq1) ?_
        refine g_aload_n (pc := 37) dX12_soonest_37 rfl ?_
        refine v_getR hV (pc := 38) dX12_soonest_38 fo_12_38 rfl k0_53 r0_53_38 ?_
        refine g_iload_n (pc := 41) dX12_soonest_41 rfl ?_
        by_cases c2 : inb v1 8
        · rw [if_pos c2] at h
          refine v_iald hV (pc := 42) dX12_soonest_42 k0_76 own_76 c2 ?_
          refine g_ldcw (v := 1000000) (pc := 43) dX12_soonest_43 kI_X12_388 ?_
          refine g_icmp_eq (tgt := 54) (pc := 46) dX12_soonest_46 (by decide) (fun c18 => ?_) (fun c18 => ?_)
          · rw [if_pos c18] at h
            refine g_wk [true, true, false, false, false, false] rfl ?_
            exact t_Md_soonest_54 hV h
          · rw [if_neg c18] at h
            refine g_iload (pc := 49) dX12_soonest_49 rfl ?_
            refine g_if_ne (tgt := 77) (pc := 51) dX12_soonest_51 (by decide) (fun c17 => ?_) (fun c17 => ?_)
            · rw [if_neg c17] at h
              refine g_iconst (v := 0) (pc := 77) dX12_soonest_77 (by decide) ?_
              refine g_istore (ls1 := [some (.ref 53), some (.int v1), some (.int v2), some (.int v3), some (.int v4), some (.int 0)]) (pc := 78) dX12_soonest_78 (by decide) rfl ?_
              refine g_wk [true, true, true, true, false, true] rfl ?_
              obtain ⟨q14, hqq14, h⟩ := bnd h
              refine w_Md_soonest_L80 hV hqq14 ?_
              unfold ps_Md_soonest_L80
              cases q14 with
              | inl a15 =>
                simp only [Sum.elim_inl] at h
                show G _ _ _ _ _ _ _ _ _ _ _
                refine g_iload (pc := 134) dX12_soonest_134 rfl ?_
                cases h
                exact g_iret (pc := 136) dX12_soonest_136 rfl rfl (Nat.le_refl _) (Nat.le_refl _)
              | inr a16 =>
                simp only [Sum.elim_inr] at h
                show G _ _ _ _ _ _ _ _ _ _ _
                refine g_iconst (v := (-1)) (pc := 143) dX12_soonest_143 (by decide) ?_
                cases h
                exact g_iret (pc := 144) dX12_soonest_144 rfl rfl (Nat.le_refl _) (Nat.le_refl _)
            · rw [if_pos c17] at h
              refine g_wk [true, true, false, false, false, false] rfl ?_
              exact t_Md_soonest_54 hV h
        · rw [if_neg c2] at h; cases h
      · rw [if_pos c19] at h
        refine g_wk [false, false, false, false, false, false] rfl ?_
        exact t_Md_soonest_27 hV h
def Md_cheapest_17 (S : Sm) : Option (Int32 × Sm) := (some (((-1), S)))
set_option maxRecDepth 4000 in
theorem t_Md_cheapest_17 {V : Sm → Wd} (hV : VwT V) {l : Launch} {Γ : Gm}  {S : Sm} {q : Int32 × Sm} (h : Md_cheapest_17 S = some q) : G mX12_cheapest l Γ (rmD 8 0 0) (mQ Γ (some (.int q.1)) (V q.2) 0 0) 0 0 17 [none, none, none, none] [] (V S) := by
  unfold Md_cheapest_17 at h
  refine g_iconst (v := (-1)) (pc := 17) dX12_cheapest_17 (by decide) ?_
  cases h
  exact g_iret (pc := 18) dX12_cheapest_18 rfl rfl (Nat.le_refl _) (Nat.le_refl _)
def Md_cheapest_49 (s0 : Int32) (S : Sm) : Option (Int32 × Sm) := (some ((s0, S)))
set_option maxRecDepth 4000 in
theorem t_Md_cheapest_49 {V : Sm → Wd} (hV : VwT V) {l : Launch} {Γ : Gm} {s0 : Int32} {S : Sm} {q : Int32 × Sm} (h : Md_cheapest_49 s0 S = some q) : G mX12_cheapest l Γ (rmD 8 0 0) (mQ Γ (some (.int q.1)) (V q.2) 0 0) 0 0 49 [none, none, none, none] [.int s0] (V S) := by
  unfold Md_cheapest_49 at h
  cases h
  exact g_iret (pc := 49) dX12_cheapest_49 rfl rfl (Nat.le_refl _) (Nat.le_refl _)
def Md_cheapest (v1 : Int32) (v2 : Int32) (v3 : Int32) (S : Sm) : Option (Int32 × Sm) := (if (Md_areMouths v1 v2 S) = 0 then (Md_cheapest_17 S) else (if (Md_isSet v3 S) = 0 then (Md_cheapest_17 S) else ((Md_layAway v2 v3 1 0 S).bind fun q1 => (if inb v1 8 then (if (gi q1 76 (ix v1)) = 1000000 then (Md_cheapest_49 ((-1)) q1) else (if inb v1 8 then (Md_cheapest_49 (gi q1 76 (ix v1)) q1) else none)) else none))))
set_option maxRecDepth 4000 in
theorem r_Md_cheapest {V : Sm → Wd} (hV : VwT V) {v1 : Int32} {v2 : Int32} {v3 : Int32} {S : Sm} {q : Int32 × Sm} (h : Md_cheapest v1 v2 v3 S = some q) : Runs 8 mX12_cheapest [.ref 53, .int v1, .int v2, .int v3] (V S) (some (.int q.1)) (V q.2) 0 0 := by
  unfold Md_cheapest at h
  refine Runs.of2 [some (.ref 53), some (.int v1), some (.int v2), some (.int v3)] 0 rfl rfl (Nat.le_of_ble_eq_true rfl) (fun l Γ => ?_)
  refine g_aload_n (pc := 0) dX12_cheapest_0 rfl ?_
  refine g_iload_n (pc := 1) dX12_cheapest_1 rfl ?_
  refine g_iload_n (pc := 2) dX12_cheapest_2 rfl ?_
  refine v_callVi hV (Mc := mX12_areMouths) (v := Md_areMouths v1 v2 S) (S1 := S) (As := [.int v1, .int v2]) (rest := []) (q := (RX12, TX12, 58)) (pc := 3) dX12_cheapest_3 mK_X12_392 mf_X12_areMouths rfl k0_53 rfl rfl rfl (Nat.le_of_ble_eq_true rfl) ⟨Nat.le_of_ble_eq_true rfl, Nat.le_of_ble_eq_true rfl⟩ (r_Md_areMouths hV rfl) ?_
  refine g_if_eq (tgt := 17) (pc := 6) dX12_cheapest_6 (by decide) (fun c6 => ?_) (fun c6 => ?_)
  · rw [if_pos c6] at h
    refine g_wk [false, false, false, false] rfl ?_
    exact t_Md_cheapest_17 hV h
  · rw [if_neg c6] at h
    refine g_aload_n (pc := 9) dX12_cheapest_9 rfl ?_
    refine g_iload_n (pc := 10) dX12_cheapest_10 rfl ?_
    refine v_callVi hV (Mc := mX12_isSet) (v := Md_isSet v3 S) (S1 := S) (As := [.int v3]) (rest := []) (q := (RX12, TX12, 58)) (pc := 11) dX12_cheapest_11 mK_X12_395 mf_X12_isSet rfl k0_53 rfl rfl rfl (Nat.le_of_ble_eq_true rfl) ⟨Nat.le_of_ble_eq_true rfl, Nat.le_of_ble_eq_true rfl⟩ (r_Md_isSet hV rfl) ?_
    refine g_if_ne (tgt := 19) (pc := 14) dX12_cheapest_14 (by decide) (fun c5 => ?_) (fun c5 => ?_)
    · rw [if_neg c5] at h
      refine g_aload_n (pc := 19) dX12_cheapest_19 rfl ?_
      refine g_iload_n (pc := 20) dX12_cheapest_20 rfl ?_
      refine g_iload_n (pc := 21) dX12_cheapest_21 rfl ?_
      refine g_iconst (v := 1) (pc := 22) dX12_cheapest_22 (by decide) ?_
      refine g_iconst (v := 0) (pc := 23) dX12_cheapest_23 (by decide) ?_
      obtain ⟨q1, hq1, h⟩ := bnd h
      refine v_callVv hV (Mc := mX12_layAway) (S1 := q1) (As := [.int v2, .int v3, .int 1, .int 0]) (rest := []) (q := (RX12, TX12, 58)) (pc := 24) dX12_cheapest_24 mK_X12_405 mf_X12_layAway rfl k0_53 rfl rfl rfl (Nat.le_of_ble_eq_true rfl) ⟨Nat.le_of_ble_eq_true rfl, Nat.le_of_ble_eq_true rfl⟩ (r_Md_layAway hV hq1) ?_
      refine g_aload_n (pc := 27) dX12_cheapest_27 rfl ?_
      refine v_getR hV (pc := 28) dX12_cheapest_28 fo_12_38 rfl k0_53 r0_53_38 ?_
      refine g_iload_n (pc := 31) dX12_cheapest_31 rfl ?_
      by_cases c2 : inb v1 8
      · rw [if_pos c2] at h
        refine v_iald hV (pc := 32) dX12_cheapest_32 k0_76 own_76 c2 ?_
        refine g_ldcw (v := 1000000) (pc := 33) dX12_cheapest_33 kI_X12_388 ?_
        refine g_icmp_ne (tgt := 43) (pc := 36) dX12_cheapest_36 (by decide) (fun c4 => ?_) (fun c4 => ?_)
        · rw [if_neg c4] at h
          refine g_aload_n (pc := 43) dX12_cheapest_43 rfl ?_
          refine v_getR hV (pc := 44) dX12_cheapest_44 fo_12_38 rfl k0_53 r0_53_38 ?_
          refine g_iload_n (pc := 47) dX12_cheapest_47 rfl ?_
          by_cases c3 : inb v1 8
          · rw [if_pos c3] at h
            refine v_iald hV (pc := 48) dX12_cheapest_48 k0_76 own_76 c3 ?_
            refine g_wk [false, false, false, false] rfl ?_
            exact t_Md_cheapest_49 hV h
          · rw [if_neg c3] at h; cases h
        · rw [if_pos c4] at h
          refine g_iconst (v := (-1)) (pc := 39) dX12_cheapest_39 (by decide) ?_
          refine g_goto (tgt := 49) (pc := 40) dX12_cheapest_40 (by decide) ?_
          refine g_wk [false, false, false, false] rfl ?_
          exact t_Md_cheapest_49 hV h
      · rw [if_neg c2] at h; cases h
    · rw [if_pos c5] at h
      refine g_wk [false, false, false, false] rfl ?_
      exact t_Md_cheapest_17 hV h
def hd_Md_reachedFrom_L7 (V : Sm → Wd) (l : Launch) (Γ : Gm) (rF : Option Value) (wF : Wd) (v2 : Int32) (S : Sm) (q : Int32 × Int32) : Prop := G mX12_reachedFrom l Γ (rmD 1 0 0) (mQ Γ rF wF 0 0) 0 0 7 [some (.ref 53), none, some (.int v2), some (.int q.1), some (.int q.2), none, none] [] (V S)
def ps_Md_reachedFrom_L7 (V : Sm → Wd) (l : Launch) (Γ : Gm) (rF : Option Value) (wF : Wd) (v2 : Int32) (S : Sm) (x : Int32) : Prop := (fun (a : Int32) => G mX12_reachedFrom l Γ (rmD 1 0 0) (mQ Γ rF wF 0 0) 0 0 95 [none, none, none, some (.int a), none, none, none] [] (V S)) x
def hd_Md_reachedFrom_L19 (V : Sm → Wd) (l : Launch) (Γ : Gm) (rF : Option Value) (wF : Wd) (v2 : Int32) (v4 : Int32) (S : Sm) (q : Int32 × Int32) : Prop := G mX12_reachedFrom l Γ (rmD 1 0 0) (mQ Γ rF wF 0 0) 0 0 19 [some (.ref 53), none, some (.int v2), some (.int q.1), some (.int v4), some (.int q.2), none] [] (V S)
def ps_Md_reachedFrom_L19 (V : Sm → Wd) (l : Launch) (Γ : Gm) (rF : Option Value) (wF : Wd) (v2 : Int32) (v4 : Int32) (S : Sm) (x : Int32) : Prop := (fun (a : Int32) => G mX12_reachedFrom l Γ (rmD 1 0 0) (mQ Γ rF wF 0 0) 0 0 92 [some (.ref 53), none, some (.int v2), some (.int a), some (.int v4), none, none] [] (V S)) x
def hd_Md_reachedFrom_L33 (V : Sm → Wd) (l : Launch) (Γ : Gm) (rF : Option Value) (wF : Wd) (v2 : Int32) (v4 : Int32) (v5 : Int32) (S : Sm) (q : Int32 × Int32) : Prop := G mX12_reachedFrom l Γ (rmD 1 0 0) (mQ Γ rF wF 0 0) 0 0 33 [some (.ref 53), none, some (.int v2), some (.int q.1), some (.int v4), some (.int v5), some (.int q.2)] [] (V S)
def ps_Md_reachedFrom_L33 (V : Sm → Wd) (l : Launch) (Γ : Gm) (rF : Option Value) (wF : Wd) (v2 : Int32) (v4 : Int32) (v5 : Int32) (S : Sm) (x : Int32) : Prop := (fun (a : Int32) => G mX12_reachedFrom l Γ (rmD 1 0 0) (mQ Γ rF wF 0 0) 0 0 86 [some (.ref 53), none, some (.int v2), some (.int a), some (.int v4), some (.int v5), none] [] (V S)) x
def Md_reachedFrom_78_L33 (v2 : Int32) (v4 : Int32) (v5 : Int32) (v6 : Int32) (s0 : Int32) (s1 : Int32) (S : Sm) : Option ((Int32 × Int32) ⊕ (Int32)) := (some (.inl (s0 ||| s1, v6 + 1)))
set_option maxRecDepth 4000 in
theorem t_Md_reachedFrom_78_L33 {V : Sm → Wd} (hV : VwT V) {l : Launch} {Γ : Gm} {v2 : Int32} {v4 : Int32} {v5 : Int32} {v6 : Int32} {s0 : Int32} {s1 : Int32} {rF : Option Value} {wF : Wd} {S : Sm} {o : (Int32 × Int32) ⊕ (Int32)} (h : Md_reachedFrom_78_L33 v2 v4 v5 v6 s0 s1 S = some o) (hK : Sum.elim (hd_Md_reachedFrom_L33 V l Γ rF wF v2 v4 v5 S) (ps_Md_reachedFrom_L33 V l Γ rF wF v2 v4 v5 S) o) : G mX12_reachedFrom l Γ (rmD 1 0 0) (mQ Γ rF wF 0 0) 0 0 78 [some (.ref 53), none, some (.int v2), none, some (.int v4), some (.int v5), some (.int v6)] [.int s1, .int s0] (V S) := by
  unfold Md_reachedFrom_78_L33 at h
  refine g_ior (pc := 78) dX12_reachedFrom_78 ?_
  refine g_istore_n (ls1 := [some (.ref 53), none, some (.int v2), some (.int (s0 ||| s1)), some (.int v4), some (.int v5), some (.int v6)]) (pc := 79) dX12_reachedFrom_79 (by decide) rfl ?_
  refine g_iinc (v := v6 + 1) (ls1 := [some (.ref 53), none, some (.int v2), some (.int (s0 ||| s1)), some (.int v4), some (.int v5), some (.int (v6 + 1))]) (pc := 80) dX12_reachedFrom_80 rfl rfl (by decide) rfl ?_
  refine g_goto (tgt := 33) (pc := 83) dX12_reachedFrom_83 (by decide) ?_
  cases h
  exact hK
def Md_reachedFrom_77_L33 (v2 : Int32) (v4 : Int32) (v5 : Int32) (v6 : Int32) (s0 : Int32) (S : Sm) : Option ((Int32 × Int32) ⊕ (Int32)) := (Md_reachedFrom_78_L33 v2 v4 v5 v6 s0 0 S)
set_option maxRecDepth 4000 in
theorem t_Md_reachedFrom_77_L33 {V : Sm → Wd} (hV : VwT V) {l : Launch} {Γ : Gm} {v2 : Int32} {v4 : Int32} {v5 : Int32} {v6 : Int32} {s0 : Int32} {rF : Option Value} {wF : Wd} {S : Sm} {o : (Int32 × Int32) ⊕ (Int32)} (h : Md_reachedFrom_77_L33 v2 v4 v5 v6 s0 S = some o) (hK : Sum.elim (hd_Md_reachedFrom_L33 V l Γ rF wF v2 v4 v5 S) (ps_Md_reachedFrom_L33 V l Γ rF wF v2 v4 v5 S) o) : G mX12_reachedFrom l Γ (rmD 1 0 0) (mQ Γ rF wF 0 0) 0 0 77 [some (.ref 53), none, some (.int v2), none, some (.int v4), some (.int v5), some (.int v6)] [.int s0] (V S) := by
  unfold Md_reachedFrom_77_L33 at h
  refine g_iconst (v := 0) (pc := 77) dX12_reachedFrom_77 (by decide) ?_
  exact t_Md_reachedFrom_78_L33 hV h hK
def Md_reachedFrom_L33 (v2 : Int32) (v4 : Int32) (v5 : Int32) (S : Sm) (q : Int32 × Int32) : Option ((Int32 × Int32) ⊕ (Int32)) := (if (gi S 68 1) ≤ q.2 then (some (.inr q.1)) else (if (Md_has v4 v5) = 0 then (Md_reachedFrom_77_L33 v2 v4 v5 q.2 q.1 S) else (if (Md_has v2 q.2) = 0 then (Md_reachedFrom_77_L33 v2 v4 v5 q.2 q.1 S) else ((Md_leads v5 q.2 S).bind fun q1 => (Md_reachedFrom_78_L33 v2 v4 v5 q.2 q.1 (iShl 1 q1) S)))))
set_option maxRecDepth 4000 in
theorem t_Md_reachedFrom_L33 {V : Sm → Wd} (hV : VwT V) {l : Launch} {Γ : Gm} {rF : Option Value} {wF : Wd} {v2 : Int32} {v4 : Int32} {v5 : Int32} {S : Sm} {q : Int32 × Int32} {o : (Int32 × Int32) ⊕ (Int32)} (h : Md_reachedFrom_L33 v2 v4 v5 S q = some o) (hK : Sum.elim (hd_Md_reachedFrom_L33 V l Γ rF wF v2 v4 v5 S) (ps_Md_reachedFrom_L33 V l Γ rF wF v2 v4 v5 S) o) : hd_Md_reachedFrom_L33 V l Γ rF wF v2 v4 v5 S q := by
  unfold Md_reachedFrom_L33 at h
  unfold hd_Md_reachedFrom_L33
  refine g_iload (pc := 33) dX12_reachedFrom_33 rfl ?_
  refine g_aload_n (pc := 35) dX12_reachedFrom_35 rfl ?_
  refine v_getR hV (pc := 36) dX12_reachedFrom_36 fo_12_24 rfl k0_53 r0_53_24 ?_
  refine g_iconst (v := 1) (pc := 39) dX12_reachedFrom_39 (by decide) ?_
  refine v_ialdK hV (k := 1) (pc := 40) dX12_reachedFrom_40 k0_68 own_68 (by decide) (by decide) ?_
  refine g_icmp_ge (tgt := 86) (pc := 41) dX12_reachedFrom_41 (by decide) (fun c4 => ?_) (fun c4 => ?_)
  · rw [if_pos c4] at h
    refine g_wk [true, false, true, true, true, true, false] rfl ?_
    cases h
    exact hK
  · rw [if_neg c4] at h
    refine g_iload_n (pc := 44) dX12_reachedFrom_44 rfl ?_
    refine g_iload (pc := 45) dX12_reachedFrom_45 rfl ?_
    refine g_iload (pc := 47) dX12_reachedFrom_47 rfl ?_
    refine v_callSi (Mc := mX12_has) (v := Md_has v4 v5) (S1 := S) (As := [.int v4, .int v5]) (rest := [.int q.1]) (pc := 49) dX12_reachedFrom_49 mK_X12_249 mf_X12_has rfl rfl (Nat.le_of_ble_eq_true rfl) ⟨Nat.le_of_ble_eq_true rfl, Nat.le_of_ble_eq_true rfl⟩ (r_Md_has hV rfl) ?_
    refine g_if_eq (tgt := 77) (pc := 52) dX12_reachedFrom_52 (by decide) (fun c3 => ?_) (fun c3 => ?_)
    · rw [if_pos c3] at h
      refine g_wk [true, false, true, false, true, true, true] rfl ?_
      exact t_Md_reachedFrom_77_L33 hV h hK
    · rw [if_neg c3] at h
      refine g_iload_n (pc := 55) dX12_reachedFrom_55 rfl ?_
      refine g_iload (pc := 56) dX12_reachedFrom_56 rfl ?_
      refine v_callSi (Mc := mX12_has) (v := Md_has v2 q.2) (S1 := S) (As := [.int v2, .int q.2]) (rest := [.int q.1]) (pc := 58) dX12_reachedFrom_58 mK_X12_249 mf_X12_has rfl rfl (Nat.le_of_ble_eq_true rfl) ⟨Nat.le_of_ble_eq_true rfl, Nat.le_of_ble_eq_true rfl⟩ (r_Md_has hV rfl) ?_
      refine g_if_eq (tgt := 77) (pc := 61) dX12_reachedFrom_61 (by decide) (fun c2 => ?_) (fun c2 => ?_)
      · rw [if_pos c2] at h
        refine g_wk [true, false, true, false, true, true, true] rfl ?_
        exact t_Md_reachedFrom_77_L33 hV h hK
      · rw [if_neg c2] at h
        refine g_iconst (v := 1) (pc := 64) dX12_reachedFrom_64 (by decide) ?_
        refine g_aload_n (pc := 65) dX12_reachedFrom_65 rfl ?_
        refine g_iload (pc := 66) dX12_reachedFrom_66 rfl ?_
        refine g_iload (pc := 68) dX12_reachedFrom_68 rfl ?_
        obtain ⟨q1, hq1, h⟩ := bnd h
        refine v_callVi hV (Mc := mX12_leads) (v := q1) (S1 := S) (As := [.int v5, .int q.2]) (rest := [.int 1, .int q.1]) (q := (RX12, TX12, 58)) (pc := 70) dX12_reachedFrom_70 mK_X12_323 mf_X12_leads rfl k0_53 rfl rfl rfl (Nat.le_of_ble_eq_true rfl) ⟨Nat.le_of_ble_eq_true rfl, Nat.le_of_ble_eq_true rfl⟩ (r_Md_leads hV hq1) ?_
        refine g_ishl (pc := 73) dX12_reachedFrom_73 ?_
        refine g_goto (tgt := 78) (pc := 74) dX12_reachedFrom_74 (by decide) ?_
        refine g_wk [true, false, true, false, true, true, true] rfl ?_
        exact t_Md_reachedFrom_78_L33 hV h hK
set_option maxRecDepth 4000 in
theorem w_Md_reachedFrom_L33 {V : Sm → Wd} (hV : VwT V) {l : Launch} {Γ : Gm} {rF : Option Value} {wF : Wd} {v2 : Int32} {v4 : Int32} {v5 : Int32} {S : Sm} {k : Nat} {q : Int32 × Int32} {o : Int32} (h : lpN (Md_reachedFrom_L33 v2 v4 v5 S) k q = some o) (hP : ps_Md_reachedFrom_L33 V l Γ rF wF v2 v4 v5 S o) : hd_Md_reachedFrom_L33 V l Γ rF wF v2 v4 v5 S q := lpN_ind2 (hd_Md_reachedFrom_L33 V l Γ rF wF v2 v4 v5 S) (ps_Md_reachedFrom_L33 V l Γ rF wF v2 v4 v5 S) (fun s o h hK => t_Md_reachedFrom_L33 hV h hK) k q o h hP
def Md_reachedFrom_L19 (v2 : Int32) (v4 : Int32) (S : Sm) (q : Int32 × Int32) : Option ((Int32 × Int32) ⊕ (Int32)) := (if (gi S 68 0) ≤ q.2 then (some (.inr q.1)) else ((lpN (Md_reachedFrom_L33 v2 v4 q.2 S) FU (q.1, 0)).bind fun q5 => (some (.inl (q5, q.2 + 1)))))
set_option maxRecDepth 4000 in
theorem t_Md_reachedFrom_L19 {V : Sm → Wd} (hV : VwT V) {l : Launch} {Γ : Gm} {rF : Option Value} {wF : Wd} {v2 : Int32} {v4 : Int32} {S : Sm} {q : Int32 × Int32} {o : (Int32 × Int32) ⊕ (Int32)} (h : Md_reachedFrom_L19 v2 v4 S q = some o) (hK : Sum.elim (hd_Md_reachedFrom_L19 V l Γ rF wF v2 v4 S) (ps_Md_reachedFrom_L19 V l Γ rF wF v2 v4 S) o) : hd_Md_reachedFrom_L19 V l Γ rF wF v2 v4 S q := by
  unfold Md_reachedFrom_L19 at h
  unfold hd_Md_reachedFrom_L19
  refine g_iload (pc := 19) dX12_reachedFrom_19 rfl ?_
  refine g_aload_n (pc := 21) dX12_reachedFrom_21 rfl ?_
  refine v_getR hV (pc := 22) dX12_reachedFrom_22 fo_12_24 rfl k0_53 r0_53_24 ?_
  refine g_iconst (v := 0) (pc := 25) dX12_reachedFrom_25 (by decide) ?_
  refine v_ialdK hV (k := 0) (pc := 26) dX12_reachedFrom_26 k0_68 own_68 (by decide) (by decide) ?_
  refine g_icmp_ge (tgt := 92) (pc := 27) dX12_reachedFrom_27 (by decide) (fun c6 => ?_) (fun c6 => ?_)
  · rw [if_pos c6] at h
    refine g_wk [true, false, true, true, true, false, false] rfl ?_
    cases h
    exact hK
  · rw [if_neg c6] at h
    refine g_iconst (v := 0) (pc := 30) dX12_reachedFrom_30 (by decide) ?_
    refine g_istore (ls1 := [some (.ref 53), none, some (.int v2), some (.int q.1), some (.int v4), some (.int q.2), some (.int 0)]) (pc := 31) dX12_reachedFrom_31 (by decide) rfl ?_
    obtain ⟨q5, hqq5, h⟩ := bnd h
    refine w_Md_reachedFrom_L33 hV hqq5 ?_
    unfold ps_Md_reachedFrom_L33
    show G _ _ _ _ _ _ _ _ _ _ _
    refine g_iinc (v := q.2 + 1) (ls1 := [some (.ref 53), none, some (.int v2), some (.int q5), some (.int v4), some (.int (q.2 + 1)), none]) (pc := 86) dX12_reachedFrom_86 rfl rfl (by decide) rfl ?_
    refine g_goto (tgt := 19) (pc := 89) dX12_reachedFrom_89 (by decide) ?_
    cases h
    exact hK
set_option maxRecDepth 4000 in
theorem w_Md_reachedFrom_L19 {V : Sm → Wd} (hV : VwT V) {l : Launch} {Γ : Gm} {rF : Option Value} {wF : Wd} {v2 : Int32} {v4 : Int32} {S : Sm} {k : Nat} {q : Int32 × Int32} {o : Int32} (h : lpN (Md_reachedFrom_L19 v2 v4 S) k q = some o) (hP : ps_Md_reachedFrom_L19 V l Γ rF wF v2 v4 S o) : hd_Md_reachedFrom_L19 V l Γ rF wF v2 v4 S q := lpN_ind2 (hd_Md_reachedFrom_L19 V l Γ rF wF v2 v4 S) (ps_Md_reachedFrom_L19 V l Γ rF wF v2 v4 S) (fun s o h hK => t_Md_reachedFrom_L19 hV h hK) k q o h hP
def Md_reachedFrom_L7 (v2 : Int32) (S : Sm) (q : Int32 × Int32) : Option ((Int32 × Int32) ⊕ (Int32)) := (if q.1 = q.2 then (some (.inr q.1)) else ((lpN (Md_reachedFrom_L19 v2 q.1 S) FU (q.1, 0)).bind fun q7 => (some (.inl (q7, q.1)))))
set_option maxRecDepth 4000 in
theorem t_Md_reachedFrom_L7 {V : Sm → Wd} (hV : VwT V) {l : Launch} {Γ : Gm} {rF : Option Value} {wF : Wd} {v2 : Int32} {S : Sm} {q : Int32 × Int32} {o : (Int32 × Int32) ⊕ (Int32)} (h : Md_reachedFrom_L7 v2 S q = some o) (hK : Sum.elim (hd_Md_reachedFrom_L7 V l Γ rF wF v2 S) (ps_Md_reachedFrom_L7 V l Γ rF wF v2 S) o) : hd_Md_reachedFrom_L7 V l Γ rF wF v2 S q := by
  unfold Md_reachedFrom_L7 at h
  unfold hd_Md_reachedFrom_L7
  refine g_iload_n (pc := 7) dX12_reachedFrom_7 rfl ?_
  refine g_iload (pc := 8) dX12_reachedFrom_8 rfl ?_
  refine g_icmp_eq (tgt := 95) (pc := 10) dX12_reachedFrom_10 (by decide) (fun c8 => ?_) (fun c8 => ?_)
  · rw [if_pos c8] at h
    refine g_wk [false, false, false, true, false, false, false] rfl ?_
    cases h
    exact hK
  · rw [if_neg c8] at h
    refine g_iload_n (pc := 13) dX12_reachedFrom_13 rfl ?_
    refine g_istore (ls1 := [some (.ref 53), none, some (.int v2), some (.int q.1), some (.int q.1), none, none]) (pc := 14) dX12_reachedFrom_14 (by decide) rfl ?_
    refine g_iconst (v := 0) (pc := 16) dX12_reachedFrom_16 (by decide) ?_
    refine g_istore (ls1 := [some (.ref 53), none, some (.int v2), some (.int q.1), some (.int q.1), some (.int 0), none]) (pc := 17) dX12_reachedFrom_17 (by decide) rfl ?_
    obtain ⟨q7, hqq7, h⟩ := bnd h
    refine w_Md_reachedFrom_L19 hV hqq7 ?_
    unfold ps_Md_reachedFrom_L19
    show G _ _ _ _ _ _ _ _ _ _ _
    refine g_goto (tgt := 7) (pc := 92) dX12_reachedFrom_92 (by decide) ?_
    cases h
    exact hK
set_option maxRecDepth 4000 in
theorem w_Md_reachedFrom_L7 {V : Sm → Wd} (hV : VwT V) {l : Launch} {Γ : Gm} {rF : Option Value} {wF : Wd} {v2 : Int32} {S : Sm} {k : Nat} {q : Int32 × Int32} {o : Int32} (h : lpN (Md_reachedFrom_L7 v2 S) k q = some o) (hP : ps_Md_reachedFrom_L7 V l Γ rF wF v2 S o) : hd_Md_reachedFrom_L7 V l Γ rF wF v2 S q := lpN_ind2 (hd_Md_reachedFrom_L7 V l Γ rF wF v2 S) (ps_Md_reachedFrom_L7 V l Γ rF wF v2 S) (fun s o h hK => t_Md_reachedFrom_L7 hV h hK) k q o h hP
def Md_reachedFrom (v1 : Int32) (v2 : Int32) (S : Sm) : Option (Int32) := ((lpN (Md_reachedFrom_L7 v2 S) FU (iShl 1 v1, 0)).bind fun q9 => (some q9))
set_option maxRecDepth 4000 in
theorem r_Md_reachedFrom {V : Sm → Wd} (hV : VwT V) {v1 : Int32} {v2 : Int32} {S : Sm} {q : Int32} (h : Md_reachedFrom v1 v2 S = some q) : Runs 1 mX12_reachedFrom [.ref 53, .int v1, .int v2] (V S) (some (.int q)) (V S) 0 0 := by
  unfold Md_reachedFrom at h
  refine Runs.of2 [some (.ref 53), some (.int v1), some (.int v2), none, none, none, none] 4 rfl rfl (Nat.le_of_ble_eq_true rfl) (fun l Γ => ?_)
  refine g_iconst (v := 1) (pc := 0) dX12_reachedFrom_0 (by decide) ?_
  refine g_iload_n (pc := 1) dX12_reachedFrom_1 rfl ?_
  refine g_ishl (pc := 2) dX12_reachedFrom_2 ?_
  refine g_istore_n (ls1 := [some (.ref 53), some (.int v1), some (.int v2), some (.int (iShl 1 v1)), none, none, none]) (pc := 3) dX12_reachedFrom_3 (by decide) rfl ?_
  refine g_iconst (v := 0) (pc := 4) dX12_reachedFrom_4 (by decide) ?_
  refine g_istore (ls1 := [some (.ref 53), some (.int v1), some (.int v2), some (.int (iShl 1 v1)), some (.int 0), none, none]) (pc := 5) dX12_reachedFrom_5 (by decide) rfl ?_
  refine g_wk [true, false, true, true, true, false, false] rfl ?_
  obtain ⟨q9, hqq9, h⟩ := bnd h
  refine w_Md_reachedFrom_L7 hV hqq9 ?_
  unfold ps_Md_reachedFrom_L7
  show G _ _ _ _ _ _ _ _ _ _ _
  refine g_iload_n (pc := 95) dX12_reachedFrom_95 rfl ?_
  cases h
  exact g_iret (pc := 96) dX12_reachedFrom_96 rfl rfl (Nat.le_refl _) (Nat.le_refl _)
def Md_reached_26 (s0 : Int32) (S : Sm) : Option (Int32) := (some s0)
set_option maxRecDepth 4000 in
theorem t_Md_reached_26 {V : Sm → Wd} (hV : VwT V) {l : Launch} {Γ : Gm} {s0 : Int32} {S : Sm} {q : Int32} (h : Md_reached_26 s0 S = some q) : G mX12_reached l Γ (rmD 2 0 0) (mQ Γ (some (.int q)) (V S) 0 0) 0 0 26 [none, none, none] [.int s0] (V S) := by
  unfold Md_reached_26 at h
  cases h
  exact g_iret (pc := 26) dX12_reached_26 rfl rfl (Nat.le_refl _) (Nat.le_refl _)
def Md_reached_25 (S : Sm) : Option (Int32) := (Md_reached_26 ((-1)) S)
set_option maxRecDepth 4000 in
theorem t_Md_reached_25 {V : Sm → Wd} (hV : VwT V) {l : Launch} {Γ : Gm}  {S : Sm} {q : Int32} (h : Md_reached_25 S = some q) : G mX12_reached l Γ (rmD 2 0 0) (mQ Γ (some (.int q)) (V S) 0 0) 0 0 25 [none, none, none] [] (V S) := by
  unfold Md_reached_25 at h
  refine g_iconst (v := (-1)) (pc := 25) dX12_reached_25 (by decide) ?_
  exact t_Md_reached_26 hV h
def Md_reached (v1 : Int32) (v2 : Int32) (S : Sm) : Option (Int32) := (if (Md_isMouth v1 S) = 0 then (Md_reached_25 S) else (if (Md_isSet v2 S) = 0 then (Md_reached_25 S) else ((Md_reachedFrom v1 v2 S).bind fun q1 => (Md_reached_26 q1 S))))
set_option maxRecDepth 4000 in
theorem r_Md_reached {V : Sm → Wd} (hV : VwT V) {v1 : Int32} {v2 : Int32} {S : Sm} {q : Int32} (h : Md_reached v1 v2 S = some q) : Runs 2 mX12_reached [.ref 53, .int v1, .int v2] (V S) (some (.int q)) (V S) 0 0 := by
  unfold Md_reached at h
  refine Runs.of2 [some (.ref 53), some (.int v1), some (.int v2)] 0 rfl rfl (Nat.le_of_ble_eq_true rfl) (fun l Γ => ?_)
  refine g_aload_n (pc := 0) dX12_reached_0 rfl ?_
  refine g_iload_n (pc := 1) dX12_reached_1 rfl ?_
  refine v_callVi hV (Mc := mX12_isMouth) (v := Md_isMouth v1 S) (S1 := S) (As := [.int v1]) (rest := []) (q := (RX12, TX12, 58)) (pc := 2) dX12_reached_2 mK_X12_333 mf_X12_isMouth rfl k0_53 rfl rfl rfl (Nat.le_of_ble_eq_true rfl) ⟨Nat.le_of_ble_eq_true rfl, Nat.le_of_ble_eq_true rfl⟩ (r_Md_isMouth hV rfl) ?_
  refine g_if_eq (tgt := 25) (pc := 5) dX12_reached_5 (by decide) (fun c3 => ?_) (fun c3 => ?_)
  · rw [if_pos c3] at h
    refine g_wk [false, false, false] rfl ?_
    exact t_Md_reached_25 hV h
  · rw [if_neg c3] at h
    refine g_aload_n (pc := 8) dX12_reached_8 rfl ?_
    refine g_iload_n (pc := 9) dX12_reached_9 rfl ?_
    refine v_callVi hV (Mc := mX12_isSet) (v := Md_isSet v2 S) (S1 := S) (As := [.int v2]) (rest := []) (q := (RX12, TX12, 58)) (pc := 10) dX12_reached_10 mK_X12_395 mf_X12_isSet rfl k0_53 rfl rfl rfl (Nat.le_of_ble_eq_true rfl) ⟨Nat.le_of_ble_eq_true rfl, Nat.le_of_ble_eq_true rfl⟩ (r_Md_isSet hV rfl) ?_
    refine g_if_eq (tgt := 25) (pc := 13) dX12_reached_13 (by decide) (fun c2 => ?_) (fun c2 => ?_)
    · rw [if_pos c2] at h
      refine g_wk [false, false, false] rfl ?_
      exact t_Md_reached_25 hV h
    · rw [if_neg c2] at h
      refine g_aload_n (pc := 16) dX12_reached_16 rfl ?_
      refine g_iload_n (pc := 17) dX12_reached_17 rfl ?_
      refine g_iload_n (pc := 18) dX12_reached_18 rfl ?_
      obtain ⟨q1, hq1, h⟩ := bnd h
      refine v_callVi hV (Mc := mX12_reachedFrom) (v := q1) (S1 := S) (As := [.int v1, .int v2]) (rest := []) (q := (RX12, TX12, 58)) (pc := 19) dX12_reached_19 mK_X12_409 mf_X12_reachedFrom rfl k0_53 rfl rfl rfl (Nat.le_of_ble_eq_true rfl) ⟨Nat.le_of_ble_eq_true rfl, Nat.le_of_ble_eq_true rfl⟩ (r_Md_reachedFrom hV hq1) ?_
      refine g_goto (tgt := 26) (pc := 22) dX12_reached_22 (by decide) ?_
      refine g_wk [false, false, false] rfl ?_
      exact t_Md_reached_26 hV h
def Md_isFewer_21 (s0 : Int32) : Int32 := (s0 &&& 1)
set_option maxRecDepth 4000 in
theorem t_Md_isFewer_21 {V : Sm → Wd} (hV : VwT V) {l : Launch} {Γ : Gm} {s0 : Int32} {S : Sm} {q : Int32} (h : Md_isFewer_21 s0 = q) : G mX12_isFewer l Γ (rmD 1 0 0) (mQ Γ (some (.int q)) (V S) 0 0) 0 0 21 [none, none] [.int s0] (V S) := by
  unfold Md_isFewer_21 at h
  subst h
  exact g_iret (pc := 21) dX12_isFewer_21 rfl rfl (Nat.le_refl _) (Nat.le_refl _)
def Md_isFewer_16  : Int32 := (Md_isFewer_21 1)
set_option maxRecDepth 4000 in
theorem t_Md_isFewer_16 {V : Sm → Wd} (hV : VwT V) {l : Launch} {Γ : Gm}  {S : Sm} {q : Int32} (h : Md_isFewer_16 = q) : G mX12_isFewer l Γ (rmD 1 0 0) (mQ Γ (some (.int q)) (V S) 0 0) 0 0 16 [none, none] [] (V S) := by
  unfold Md_isFewer_16 at h
  refine g_iconst (v := 1) (pc := 16) dX12_isFewer_16 (by decide) ?_
  refine g_goto (tgt := 21) (pc := 17) dX12_isFewer_17 (by decide) ?_
  exact t_Md_isFewer_21 hV h
def Md_isFewer (v0 : Int32) (v1 : Int32) : Int32 := (if v1 = ((-1)) then Md_isFewer_16 else (if (Jm_bitCount_0f7a4 v1) ≤ (Jm_bitCount_0f7a4 v0) then (Md_isFewer_21 0) else Md_isFewer_16))
set_option maxRecDepth 4000 in
theorem r_Md_isFewer {V : Sm → Wd} (hV : VwT V) {v0 : Int32} {v1 : Int32} {S : Sm} {q : Int32} (h : Md_isFewer v0 v1 = q) : Runs 1 mX12_isFewer [.int v0, .int v1] (V S) (some (.int q)) (V S) 0 0 := by
  unfold Md_isFewer at h
  refine Runs.of2 [some (.int v0), some (.int v1)] 0 rfl rfl (Nat.le_of_ble_eq_true rfl) (fun l Γ => ?_)
  refine g_iload_n (pc := 0) dX12_isFewer_0 rfl ?_
  refine g_iconst (v := (-1)) (pc := 1) dX12_isFewer_1 (by decide) ?_
  refine g_icmp_eq (tgt := 16) (pc := 2) dX12_isFewer_2 (by decide) (fun c2 => ?_) (fun c2 => ?_)
  · rw [if_pos c2] at h
    refine g_wk [false, false] rfl ?_
    exact t_Md_isFewer_16 hV h
  · rw [if_neg c2] at h
    refine g_iload_n (pc := 5) dX12_isFewer_5 rfl ?_
    refine v_callSi (Mc := mJ6_bitCount_0f7a4) (v := Jm_bitCount_0f7a4 v0) (S1 := S) (As := [.int v0]) (rest := []) (pc := 6) dX12_isFewer_6 mK_X12_412 mf_J6_bitCount_0f7a4 rfl rfl (Nat.le_of_ble_eq_true rfl) ⟨Nat.le_of_ble_eq_true rfl, Nat.le_of_ble_eq_true rfl⟩ (r_Jm_bitCount_0f7a4 rfl) ?_
    refine g_iload_n (pc := 9) dX12_isFewer_9 rfl ?_
    refine v_callSi (Mc := mJ6_bitCount_0f7a4) (v := Jm_bitCount_0f7a4 v1) (S1 := S) (As := [.int v1]) (rest := [.int (Jm_bitCount_0f7a4 v0)]) (pc := 10) dX12_isFewer_10 mK_X12_412 mf_J6_bitCount_0f7a4 rfl rfl (Nat.le_of_ble_eq_true rfl) ⟨Nat.le_of_ble_eq_true rfl, Nat.le_of_ble_eq_true rfl⟩ (r_Jm_bitCount_0f7a4 rfl) ?_
    refine g_icmp_ge (tgt := 20) (pc := 13) dX12_isFewer_13 (by decide) (fun c1 => ?_) (fun c1 => ?_)
    · rw [if_pos c1] at h
      refine g_iconst (v := 0) (pc := 20) dX12_isFewer_20 (by decide) ?_
      refine g_wk [false, false] rfl ?_
      exact t_Md_isFewer_21 hV h
    · rw [if_neg c1] at h
      refine g_wk [false, false] rfl ?_
      exact t_Md_isFewer_16 hV h
def hd_Md_lamps_L15 (V : Sm → Wd) (l : Launch) (Γ : Gm) (rF : Option Value) (wF : Wd) (S : Sm) (q : Int32 × Int32) : Prop := G mX12_lamps l Γ (rmD 2 0 0) (mQ Γ rF wF 0 0) 0 0 15 [some (.ref 53), some (.int q.1), some (.int q.2), none, none] [] (V S)
def ps_Md_lamps_L15 (V : Sm → Wd) (l : Launch) (Γ : Gm) (rF : Option Value) (wF : Wd) (S : Sm) (x : Int32) : Prop := (fun (a : Int32) => G mX12_lamps l Γ (rmD 2 0 0) (mQ Γ rF wF 0 0) 0 0 95 [none, some (.int a), none, none, none] [] (V S)) x
def hd_Md_lamps_L32 (V : Sm → Wd) (l : Launch) (Γ : Gm) (rF : Option Value) (wF : Wd) (v1 : Int32) (v2 : Int32) (S : Sm) (q : Int32 × Int32) : Prop := G mX12_lamps l Γ (rmD 2 0 0) (mQ Γ rF wF 0 0) 0 0 32 [some (.ref 53), some (.int v1), some (.int v2), some (.int q.1), some (.int q.2)] [] (V S)
def ps_Md_lamps_L32 (V : Sm → Wd) (l : Launch) (Γ : Gm) (rF : Option Value) (wF : Wd) (v1 : Int32) (v2 : Int32) (S : Sm) (x : Int32) : Prop := (fun (a : Int32) => G mX12_lamps l Γ (rmD 2 0 0) (mQ Γ rF wF 0 0) 0 0 79 [some (.ref 53), some (.int v1), some (.int v2), some (.int a), none] [] (V S)) x
def Md_lamps_72_L32 (v1 : Int32) (v2 : Int32) (v4 : Int32) (s0 : Int32) (S : Sm) : Option ((Int32 × Int32) ⊕ (Int32)) := (some (.inl (s0, v4 + 1)))
set_option maxRecDepth 4000 in
theorem t_Md_lamps_72_L32 {V : Sm → Wd} (hV : VwT V) {l : Launch} {Γ : Gm} {v1 : Int32} {v2 : Int32} {v4 : Int32} {s0 : Int32} {rF : Option Value} {wF : Wd} {S : Sm} {o : (Int32 × Int32) ⊕ (Int32)} (h : Md_lamps_72_L32 v1 v2 v4 s0 S = some o) (hK : Sum.elim (hd_Md_lamps_L32 V l Γ rF wF v1 v2 S) (ps_Md_lamps_L32 V l Γ rF wF v1 v2 S) o) : G mX12_lamps l Γ (rmD 2 0 0) (mQ Γ rF wF 0 0) 0 0 72 [some (.ref 53), some (.int v1), some (.int v2), none, some (.int v4)] [.int s0] (V S) := by
  unfold Md_lamps_72_L32 at h
  refine g_istore_n (ls1 := [some (.ref 53), some (.int v1), some (.int v2), some (.int s0), some (.int v4)]) (pc := 72) dX12_lamps_72 (by decide) rfl ?_
  refine g_iinc (v := v4 + 1) (ls1 := [some (.ref 53), some (.int v1), some (.int v2), some (.int s0), some (.int (v4 + 1))]) (pc := 73) dX12_lamps_73 rfl rfl (by decide) rfl ?_
  refine g_goto (tgt := 32) (pc := 76) dX12_lamps_76 (by decide) ?_
  cases h
  exact hK
def Md_lamps_L32 (v1 : Int32) (v2 : Int32) (S : Sm) (q : Int32 × Int32) : Option ((Int32 × Int32) ⊕ (Int32)) := (if (gi S 68 0) ≤ q.2 then (some (.inr q.1)) else (if q.1 = 0 then (some (.inr q.1)) else ((Md_reachedFrom q.2 v2 S).bind fun q1 => (if q1 = ((iShl 1 (gi S 68 0)) - 1) then (Md_lamps_72_L32 v1 v2 q.2 1 S) else (Md_lamps_72_L32 v1 v2 q.2 0 S)))))
set_option maxRecDepth 4000 in
theorem t_Md_lamps_L32 {V : Sm → Wd} (hV : VwT V) {l : Launch} {Γ : Gm} {rF : Option Value} {wF : Wd} {v1 : Int32} {v2 : Int32} {S : Sm} {q : Int32 × Int32} {o : (Int32 × Int32) ⊕ (Int32)} (h : Md_lamps_L32 v1 v2 S q = some o) (hK : Sum.elim (hd_Md_lamps_L32 V l Γ rF wF v1 v2 S) (ps_Md_lamps_L32 V l Γ rF wF v1 v2 S) o) : hd_Md_lamps_L32 V l Γ rF wF v1 v2 S q := by
  unfold Md_lamps_L32 at h
  unfold hd_Md_lamps_L32
  refine g_iload (pc := 32) dX12_lamps_32 rfl ?_
  refine g_aload_n (pc := 34) dX12_lamps_34 rfl ?_
  refine v_getR hV (pc := 35) dX12_lamps_35 fo_12_24 rfl k0_53 r0_53_24 ?_
  refine g_iconst (v := 0) (pc := 38) dX12_lamps_38 (by decide) ?_
  refine v_ialdK hV (k := 0) (pc := 39) dX12_lamps_39 k0_68 own_68 (by decide) (by decide) ?_
  refine g_icmp_ge (tgt := 79) (pc := 40) dX12_lamps_40 (by decide) (fun c4 => ?_) (fun c4 => ?_)
  · rw [if_pos c4] at h
    refine g_wk [true, true, true, true, false] rfl ?_
    cases h
    exact hK
  · rw [if_neg c4] at h
    refine g_iload_n (pc := 43) dX12_lamps_43 rfl ?_
    refine g_if_eq (tgt := 79) (pc := 44) dX12_lamps_44 (by decide) (fun c3 => ?_) (fun c3 => ?_)
    · rw [if_pos c3] at h
      refine g_wk [true, true, true, true, false] rfl ?_
      cases h
      exact hK
    · rw [if_neg c3] at h
      refine g_aload_n (pc := 47) dX12_lamps_47 rfl ?_
      refine g_iload (pc := 48) dX12_lamps_48 rfl ?_
      refine g_iload_n (pc := 50) dX12_lamps_50 rfl ?_
      obtain ⟨q1, hq1, h⟩ := bnd h
      refine v_callVi hV (Mc := mX12_reachedFrom) (v := q1) (S1 := S) (As := [.int q.2, .int v2]) (rest := []) (q := (RX12, TX12, 58)) (pc := 51) dX12_lamps_51 mK_X12_409 mf_X12_reachedFrom rfl k0_53 rfl rfl rfl (Nat.le_of_ble_eq_true rfl) ⟨Nat.le_of_ble_eq_true rfl, Nat.le_of_ble_eq_true rfl⟩ (r_Md_reachedFrom hV hq1) ?_
      refine g_iconst (v := 1) (pc := 54) dX12_lamps_54 (by decide) ?_
      refine g_aload_n (pc := 55) dX12_lamps_55 rfl ?_
      refine v_getR hV (pc := 56) dX12_lamps_56 fo_12_24 rfl k0_53 r0_53_24 ?_
      refine g_iconst (v := 0) (pc := 59) dX12_lamps_59 (by decide) ?_
      refine v_ialdK hV (k := 0) (pc := 60) dX12_lamps_60 k0_68 own_68 (by decide) (by decide) ?_
      refine g_ishl (pc := 61) dX12_lamps_61 ?_
      refine g_iconst (v := 1) (pc := 62) dX12_lamps_62 (by decide) ?_
      refine g_isub (pc := 63) dX12_lamps_63 ?_
      refine g_icmp_ne (tgt := 71) (pc := 64) dX12_lamps_64 (by decide) (fun c2 => ?_) (fun c2 => ?_)
      · rw [if_neg c2] at h
        refine g_iconst (v := 0) (pc := 71) dX12_lamps_71 (by decide) ?_
        refine g_wk [true, true, true, false, true] rfl ?_
        exact t_Md_lamps_72_L32 hV h hK
      · rw [if_pos c2] at h
        refine g_iconst (v := 1) (pc := 67) dX12_lamps_67 (by decide) ?_
        refine g_goto (tgt := 72) (pc := 68) dX12_lamps_68 (by decide) ?_
        refine g_wk [true, true, true, false, true] rfl ?_
        exact t_Md_lamps_72_L32 hV h hK
set_option maxRecDepth 4000 in
theorem w_Md_lamps_L32 {V : Sm → Wd} (hV : VwT V) {l : Launch} {Γ : Gm} {rF : Option Value} {wF : Wd} {v1 : Int32} {v2 : Int32} {S : Sm} {k : Nat} {q : Int32 × Int32} {o : Int32} (h : lpN (Md_lamps_L32 v1 v2 S) k q = some o) (hP : ps_Md_lamps_L32 V l Γ rF wF v1 v2 S o) : hd_Md_lamps_L32 V l Γ rF wF v1 v2 S q := lpN_ind2 (hd_Md_lamps_L32 V l Γ rF wF v1 v2 S) (ps_Md_lamps_L32 V l Γ rF wF v1 v2 S) (fun s o h hK => t_Md_lamps_L32 hV h hK) k q o h hP
def Md_lamps_88_L15 (v2 : Int32) (s0 : Int32) (S : Sm) : Option ((Int32 × Int32) ⊕ (Int32)) := (some (.inl (s0, v2 + 1)))
set_option maxRecDepth 4000 in
theorem t_Md_lamps_88_L15 {V : Sm → Wd} (hV : VwT V) {l : Launch} {Γ : Gm} {v2 : Int32} {s0 : Int32} {rF : Option Value} {wF : Wd} {S : Sm} {o : (Int32 × Int32) ⊕ (Int32)} (h : Md_lamps_88_L15 v2 s0 S = some o) (hK : Sum.elim (hd_Md_lamps_L15 V l Γ rF wF S) (ps_Md_lamps_L15 V l Γ rF wF S) o) : G mX12_lamps l Γ (rmD 2 0 0) (mQ Γ rF wF 0 0) 0 0 88 [some (.ref 53), none, some (.int v2), none, none] [.int s0] (V S) := by
  unfold Md_lamps_88_L15 at h
  refine g_istore_n (ls1 := [some (.ref 53), some (.int s0), some (.int v2), none, none]) (pc := 88) dX12_lamps_88 (by decide) rfl ?_
  refine g_iinc (v := v2 + 1) (ls1 := [some (.ref 53), some (.int s0), some (.int (v2 + 1)), none, none]) (pc := 89) dX12_lamps_89 rfl rfl (by decide) rfl ?_
  refine g_goto (tgt := 15) (pc := 92) dX12_lamps_92 (by decide) ?_
  cases h
  exact hK
def Md_lamps_L15 (S : Sm) (q : Int32 × Int32) : Option ((Int32 × Int32) ⊕ (Int32)) := (if (Md_everyColour S) < q.2 then (some (.inr q.1)) else ((lpN (Md_lamps_L32 q.1 q.2 S) FU (Md_isFewer q.2 q.1, 0)).bind fun q5 => (if q5 = 0 then (Md_lamps_88_L15 q.2 q.1 S) else (Md_lamps_88_L15 q.2 q.2 S))))
set_option maxRecDepth 4000 in
theorem t_Md_lamps_L15 {V : Sm → Wd} (hV : VwT V) {l : Launch} {Γ : Gm} {rF : Option Value} {wF : Wd} {S : Sm} {q : Int32 × Int32} {o : (Int32 × Int32) ⊕ (Int32)} (h : Md_lamps_L15 S q = some o) (hK : Sum.elim (hd_Md_lamps_L15 V l Γ rF wF S) (ps_Md_lamps_L15 V l Γ rF wF S) o) : hd_Md_lamps_L15 V l Γ rF wF S q := by
  unfold Md_lamps_L15 at h
  unfold hd_Md_lamps_L15
  refine g_iload_n (pc := 15) dX12_lamps_15 rfl ?_
  refine g_aload_n (pc := 16) dX12_lamps_16 rfl ?_
  refine v_callVi hV (Mc := mX12_everyColour) (v := Md_everyColour S) (S1 := S) (As := []) (rest := [.int q.2]) (q := (RX12, TX12, 58)) (pc := 17) dX12_lamps_17 mK_X12_385 mf_X12_everyColour rfl k0_53 rfl rfl rfl (Nat.le_of_ble_eq_true rfl) ⟨Nat.le_of_ble_eq_true rfl, Nat.le_of_ble_eq_true rfl⟩ (r_Md_everyColour hV rfl) ?_
  refine g_icmp_gt (tgt := 95) (pc := 20) dX12_lamps_20 (by decide) (fun c7 => ?_) (fun c7 => ?_)
  · rw [if_pos c7] at h
    refine g_wk [false, true, false, false, false] rfl ?_
    cases h
    exact hK
  · rw [if_neg c7] at h
    refine g_iload_n (pc := 23) dX12_lamps_23 rfl ?_
    refine g_iload_n (pc := 24) dX12_lamps_24 rfl ?_
    refine v_callSi (Mc := mX12_isFewer) (v := Md_isFewer q.2 q.1) (S1 := S) (As := [.int q.2, .int q.1]) (rest := []) (pc := 25) dX12_lamps_25 mK_X12_417 mf_X12_isFewer rfl rfl (Nat.le_of_ble_eq_true rfl) ⟨Nat.le_of_ble_eq_true rfl, Nat.le_of_ble_eq_true rfl⟩ (r_Md_isFewer hV rfl) ?_
    refine g_istore_n (ls1 := [some (.ref 53), some (.int q.1), some (.int q.2), some (.int (Md_isFewer q.2 q.1)), none]) (pc := 28) dX12_lamps_28 (by decide) rfl ?_
    refine g_iconst (v := 0) (pc := 29) dX12_lamps_29 (by decide) ?_
    refine g_istore (ls1 := [some (.ref 53), some (.int q.1), some (.int q.2), some (.int (Md_isFewer q.2 q.1)), some (.int 0)]) (pc := 30) dX12_lamps_30 (by decide) rfl ?_
    obtain ⟨q5, hqq5, h⟩ := bnd h
    refine w_Md_lamps_L32 hV hqq5 ?_
    unfold ps_Md_lamps_L32
    show G _ _ _ _ _ _ _ _ _ _ _
    refine g_iload_n (pc := 79) dX12_lamps_79 rfl ?_
    refine g_if_eq (tgt := 87) (pc := 80) dX12_lamps_80 (by decide) (fun c6 => ?_) (fun c6 => ?_)
    · rw [if_pos c6] at h
      refine g_iload_n (pc := 87) dX12_lamps_87 rfl ?_
      refine g_wk [true, false, true, false, false] rfl ?_
      exact t_Md_lamps_88_L15 hV h hK
    · rw [if_neg c6] at h
      refine g_iload_n (pc := 83) dX12_lamps_83 rfl ?_
      refine g_goto (tgt := 88) (pc := 84) dX12_lamps_84 (by decide) ?_
      refine g_wk [true, false, true, false, false] rfl ?_
      exact t_Md_lamps_88_L15 hV h hK
set_option maxRecDepth 4000 in
theorem w_Md_lamps_L15 {V : Sm → Wd} (hV : VwT V) {l : Launch} {Γ : Gm} {rF : Option Value} {wF : Wd} {S : Sm} {k : Nat} {q : Int32 × Int32} {o : Int32} (h : lpN (Md_lamps_L15 S) k q = some o) (hP : ps_Md_lamps_L15 V l Γ rF wF S o) : hd_Md_lamps_L15 V l Γ rF wF S q := lpN_ind2 (hd_Md_lamps_L15 V l Γ rF wF S) (ps_Md_lamps_L15 V l Γ rF wF S) (fun s o h hK => t_Md_lamps_L15 hV h hK) k q o h hP
def Md_lamps (S : Sm) : Option (Int32) := (if (gi S 68 0) = 0 then (some ((-1))) else ((lpN (Md_lamps_L15 S) FU ((-1), 0)).bind fun q8 => (some q8)))
set_option maxRecDepth 4000 in
theorem r_Md_lamps {V : Sm → Wd} (hV : VwT V)  {S : Sm} {q : Int32} (h : Md_lamps S = some q) : Runs 2 mX12_lamps [.ref 53] (V S) (some (.int q)) (V S) 0 0 := by
  unfold Md_lamps at h
  refine Runs.of2 [some (.ref 53), none, none, none, none] 4 rfl rfl (Nat.le_of_ble_eq_true rfl) (fun l Γ => ?_)
  refine g_aload_n (pc := 0) dX12_lamps_0 rfl ?_
  refine v_getR hV (pc := 1) dX12_lamps_1 fo_12_24 rfl k0_53 r0_53_24 ?_
  refine g_iconst (v := 0) (pc := 4) dX12_lamps_4 (by decide) ?_
  refine v_ialdK hV (k := 0) (pc := 5) dX12_lamps_5 k0_68 own_68 (by decide) (by decide) ?_
  refine g_if_ne (tgt := 11) (pc := 6) dX12_lamps_6 (by decide) (fun c9 => ?_) (fun c9 => ?_)
  · rw [if_neg c9] at h
    refine g_iconst (v := (-1)) (pc := 11) dX12_lamps_11 (by decide) ?_
    refine g_istore_n (ls1 := [some (.ref 53), some (.int ((-1))), none, none, none]) (pc := 12) dX12_lamps_12 (by decide) rfl ?_
    refine g_iconst (v := 0) (pc := 13) dX12_lamps_13 (by decide) ?_
    refine g_istore_n (ls1 := [some (.ref 53), some (.int ((-1))), some (.int 0), none, none]) (pc := 14) dX12_lamps_14 (by decide) rfl ?_
    obtain ⟨q8, hqq8, h⟩ := bnd h
    refine w_Md_lamps_L15 hV hqq8 ?_
    unfold ps_Md_lamps_L15
    show G _ _ _ _ _ _ _ _ _ _ _
    refine g_iload_n (pc := 95) dX12_lamps_95 rfl ?_
    cases h
    exact g_iret (pc := 96) dX12_lamps_96 rfl rfl (Nat.le_refl _) (Nat.le_refl _)
  · rw [if_pos c9] at h
    refine g_iconst (v := (-1)) (pc := 9) dX12_lamps_9 (by decide) ?_
    cases h
    exact g_iret (pc := 10) dX12_lamps_10 rfl rfl (Nat.le_refl _) (Nat.le_refl _)
def hd_Md_layOut_L29 (V : Sm → Wd) (l : Launch) (Γ : Gm) (rF : Option Value) (wF : Wd) (v1 : Int32) (v2 : Int32) (v3 : Int32) (q : Int32 × Int32 × Int32 × Sm) : Prop := G mX12_layOut l Γ (rmD 1 0 0) (mQ Γ rF wF 0 0) 0 0 29 [some (.ref 53), some (.int v1), some (.int v2), some (.int v3), some (.int q.1), some (.int q.2.1), some (.int q.2.2.1), none, none] [] (V q.2.2.2)
def ps_Md_layOut_L29 (V : Sm → Wd) (l : Launch) (Γ : Gm) (rF : Option Value) (wF : Wd) (v1 : Int32) (v2 : Int32) (v3 : Int32) (x : Sm) : Prop := (fun (a : Sm) => G mX12_layOut l Γ (rmD 1 0 0) (mQ Γ rF wF 0 0) 0 0 162 [none, none, none, none, none, none, none, none, none] [] (V a)) x
def Md_layOut_156_L29 (v1 : Int32) (v2 : Int32) (v3 : Int32) (v4 : Int32) (v5 : Int32) (v6 : Int32) (S : Sm) : Option ((Int32 × Int32 × Int32 × Sm) ⊕ (Sm)) := (some (.inl (v4, v5, v6 + 1, S)))
set_option maxRecDepth 4000 in
theorem t_Md_layOut_156_L29 {V : Sm → Wd} (hV : VwT V) {l : Launch} {Γ : Gm} {v1 : Int32} {v2 : Int32} {v3 : Int32} {v4 : Int32} {v5 : Int32} {v6 : Int32} {rF : Option Value} {wF : Wd} {S : Sm} {o : (Int32 × Int32 × Int32 × Sm) ⊕ (Sm)} (h : Md_layOut_156_L29 v1 v2 v3 v4 v5 v6 S = some o) (hK : Sum.elim (hd_Md_layOut_L29 V l Γ rF wF v1 v2 v3) (ps_Md_layOut_L29 V l Γ rF wF v1 v2 v3) o) : G mX12_layOut l Γ (rmD 1 0 0) (mQ Γ rF wF 0 0) 0 0 156 [some (.ref 53), some (.int v1), some (.int v2), some (.int v3), some (.int v4), some (.int v5), some (.int v6), none, none] [] (V S) := by
  unfold Md_layOut_156_L29 at h
  refine g_iinc (v := v6 + 1) (ls1 := [some (.ref 53), some (.int v1), some (.int v2), some (.int v3), some (.int v4), some (.int v5), some (.int (v6 + 1)), none, none]) (pc := 156) dX12_layOut_156 rfl rfl (by decide) rfl ?_
  refine g_goto (tgt := 29) (pc := 159) dX12_layOut_159 (by decide) ?_
  cases h
  exact hK
def Md_layOut_L29 (v1 : Int32) (v2 : Int32) (v3 : Int32) (q : Int32 × Int32 × Int32 × Sm) : Option ((Int32 × Int32 × Int32 × Sm) ⊕ (Sm)) := (if (3 : Int32) ≤ q.2.2.1 then (some (.inr q.2.2.2)) else (if inb ((3 * ((5 * v1) + v2)) + q.2.2.1) 90 then (if inb ((4 * v1) + 3) 24 then (if (gi (si q.2.2.2 77 (ix ((3 * ((5 * v1) + v2)) + q.2.2.1)) ((-1))) 69 (ix ((4 * v1) + 3))) ≤ q.2.2.1 then (Md_layOut_156_L29 v1 v2 v3 q.1 q.2.1 q.2.2.1 (si q.2.2.2 77 (ix ((3 * ((5 * v1) + v2)) + q.2.2.1)) ((-1)))) else (if inb ((4 * v1) + 1) 24 then ((Md_faded (gi (si q.2.2.2 77 (ix ((3 * ((5 * v1) + v2)) + q.2.2.1)) ((-1))) 69 (ix ((4 * v1) + 1))) (q.1 - v3) (si q.2.2.2 77 (ix ((3 * ((5 * v1) + v2)) + q.2.2.1)) ((-1)))).bind fun q6 => ((Md_lasts q.2.1 q6 (si q.2.2.2 77 (ix ((3 * ((5 * v1) + v2)) + q.2.2.1)) ((-1)))).bind fun q7 => ((Md_leads q.2.1 q6 (si q.2.2.2 77 (ix ((3 * ((5 * v1) + v2)) + q.2.2.1)) ((-1)))).bind fun q8 => (if inb ((3 * ((5 * v1) + v2)) + q.2.2.1) 90 then (if inb ((3 * ((5 * v1) + v2)) + q.2.2.1) 90 then (if inb ((4 * v1) + 1) 24 then ((Md_faded (gi (si (si (si q.2.2.2 77 (ix ((3 * ((5 * v1) + v2)) + q.2.2.1)) ((-1))) 77 (ix ((3 * ((5 * v1) + v2)) + q.2.2.1)) (q.1 + q7)) 78 (ix ((3 * ((5 * v1) + v2)) + q.2.2.1)) q8) 69 (ix ((4 * v1) + 1))) ((q.1 + q7) - v3) (si (si (si q.2.2.2 77 (ix ((3 * ((5 * v1) + v2)) + q.2.2.1)) ((-1))) 77 (ix ((3 * ((5 * v1) + v2)) + q.2.2.1)) (q.1 + q7)) 78 (ix ((3 * ((5 * v1) + v2)) + q.2.2.1)) q8)).bind fun q12 => (if inb ((3 * ((5 * v1) + v2)) + q.2.2.1) 90 then (Md_layOut_156_L29 v1 v2 v3 (q.1 + q7) q8 q.2.2.1 (si (si (si (si q.2.2.2 77 (ix ((3 * ((5 * v1) + v2)) + q.2.2.1)) ((-1))) 77 (ix ((3 * ((5 * v1) + v2)) + q.2.2.1)) (q.1 + q7)) 78 (ix ((3 * ((5 * v1) + v2)) + q.2.2.1)) q8) 79 (ix ((3 * ((5 * v1) + v2)) + q.2.2.1)) q12)) else none)) else none) else none) else none)))) else none)) else none) else none))
set_option maxRecDepth 4000 in
theorem t_Md_layOut_L29 {V : Sm → Wd} (hV : VwT V) {l : Launch} {Γ : Gm} {rF : Option Value} {wF : Wd} {v1 : Int32} {v2 : Int32} {v3 : Int32} {q : Int32 × Int32 × Int32 × Sm} {o : (Int32 × Int32 × Int32 × Sm) ⊕ (Sm)} (h : Md_layOut_L29 v1 v2 v3 q = some o) (hK : Sum.elim (hd_Md_layOut_L29 V l Γ rF wF v1 v2 v3) (ps_Md_layOut_L29 V l Γ rF wF v1 v2 v3) o) : hd_Md_layOut_L29 V l Γ rF wF v1 v2 v3 q := by
  unfold Md_layOut_L29 at h
  unfold hd_Md_layOut_L29
  refine g_iload (pc := 29) dX12_layOut_29 rfl ?_
  refine g_iconst (v := 3) (pc := 31) dX12_layOut_31 (by decide) ?_
  refine g_icmp_ge (tgt := 162) (pc := 32) dX12_layOut_32 (by decide) (fun c15 => ?_) (fun c15 => ?_)
  · rw [if_pos c15] at h
    refine g_wk [false, false, false, false, false, false, false, false, false] rfl ?_
    cases h
    exact hK
  · rw [if_neg c15] at h
    refine g_iconst (v := 3) (pc := 35) dX12_layOut_35 (by decide) ?_
    refine g_iconst (v := 5) (pc := 36) dX12_layOut_36 (by decide) ?_
    refine g_iload_n (pc := 37) dX12_layOut_37 rfl ?_
    refine g_imul (pc := 38) dX12_layOut_38 ?_
    refine g_iload_n (pc := 39) dX12_layOut_39 rfl ?_
    refine g_iadd (pc := 40) dX12_layOut_40 ?_
    refine g_imul (pc := 41) dX12_layOut_41 ?_
    refine g_iload (pc := 42) dX12_layOut_42 rfl ?_
    refine g_iadd (pc := 44) dX12_layOut_44 ?_
    refine g_istore (ls1 := [some (.ref 53), some (.int v1), some (.int v2), some (.int v3), some (.int q.1), some (.int q.2.1), some (.int q.2.2.1), some (.int ((3 * ((5 * v1) + v2)) + q.2.2.1)), none]) (pc := 45) dX12_layOut_45 (by decide) rfl ?_
    refine g_aload_n (pc := 47) dX12_layOut_47 rfl ?_
    refine v_getR hV (pc := 48) dX12_layOut_48 fo_12_39 rfl k0_53 r0_53_39 ?_
    refine g_iload (pc := 51) dX12_layOut_51 rfl ?_
    refine g_iconst (v := (-1)) (pc := 53) dX12_layOut_53 (by decide) ?_
    by_cases c3 : inb ((3 * ((5 * v1) + v2)) + q.2.2.1) 90
    · rw [if_pos c3] at h
      refine v_iast hV (pc := 54) dX12_layOut_54 k0_77 own_77 c3 ?_
      refine g_iload (pc := 55) dX12_layOut_55 rfl ?_
      refine g_aload_n (pc := 57) dX12_layOut_57 rfl ?_
      refine v_getR hV (pc := 58) dX12_layOut_58 fo_12_25 rfl k0_53 r0_53_25 ?_
      refine g_iconst (v := 4) (pc := 61) dX12_layOut_61 (by decide) ?_
      refine g_iload_n (pc := 62) dX12_layOut_62 rfl ?_
      refine g_imul (pc := 63) dX12_layOut_63 ?_
      refine g_iconst (v := 3) (pc := 64) dX12_layOut_64 (by decide) ?_
      refine g_iadd (pc := 65) dX12_layOut_65 ?_
      by_cases c4 : inb ((4 * v1) + 3) 24
      · rw [if_pos c4] at h
        refine v_iald hV (pc := 66) dX12_layOut_66 k0_69 own_69 c4 ?_
        refine g_icmp_ge (tgt := 156) (pc := 67) dX12_layOut_67 (by decide) (fun c14 => ?_) (fun c14 => ?_)
        · rw [if_pos c14] at h
          refine g_wk [true, true, true, true, true, true, true, false, false] rfl ?_
          exact t_Md_layOut_156_L29 hV h hK
        · rw [if_neg c14] at h
          refine g_aload_n (pc := 70) dX12_layOut_70 rfl ?_
          refine g_aload_n (pc := 71) dX12_layOut_71 rfl ?_
          refine v_getR hV (pc := 72) dX12_layOut_72 fo_12_25 rfl k0_53 r0_53_25 ?_
          refine g_iconst (v := 4) (pc := 75) dX12_layOut_75 (by decide) ?_
          refine g_iload_n (pc := 76) dX12_layOut_76 rfl ?_
          refine g_imul (pc := 77) dX12_layOut_77 ?_
          refine g_iconst (v := 1) (pc := 78) dX12_layOut_78 (by decide) ?_
          refine g_iadd (pc := 79) dX12_layOut_79 ?_
          by_cases c5 : inb ((4 * v1) + 1) 24
          · rw [if_pos c5] at h
            refine v_iald hV (pc := 80) dX12_layOut_80 k0_69 own_69 c5 ?_
            refine g_iload (pc := 81) dX12_layOut_81 rfl ?_
            refine g_iload_n (pc := 83) dX12_layOut_83 rfl ?_
            refine g_isub (pc := 84) dX12_layOut_84 ?_
            obtain ⟨q6, hq6, h⟩ := bnd h
            refine v_callVi hV (Mc := mX12_faded) (v := q6) (S1 := si q.2.2.2 77 (ix ((3 * ((5 * v1) + v2)) + q.2.2.1)) ((-1))) (As := [.int (gi (si q.2.2.2 77 (ix ((3 * ((5 * v1) + v2)) + q.2.2.1)) ((-1))) 69 (ix ((4 * v1) + 1))), .int (q.1 - v3)]) (rest := []) (q := (RX12, TX12, 58)) (pc := 85) dX12_layOut_85 mK_X12_346 mf_X12_faded rfl k0_53 rfl rfl rfl (Nat.le_of_ble_eq_true rfl) ⟨Nat.le_of_ble_eq_true rfl, Nat.le_of_ble_eq_true rfl⟩ (r_Md_faded hV hq6) ?_
            refine g_istore (ls1 := [some (.ref 53), some (.int v1), some (.int v2), some (.int v3), some (.int q.1), some (.int q.2.1), some (.int q.2.2.1), some (.int ((3 * ((5 * v1) + v2)) + q.2.2.1)), some (.int q6)]) (pc := 88) dX12_layOut_88 (by decide) rfl ?_
            refine g_iload (pc := 90) dX12_layOut_90 rfl ?_
            refine g_aload_n (pc := 92) dX12_layOut_92 rfl ?_
            refine g_iload (pc := 93) dX12_layOut_93 rfl ?_
            refine g_iload (pc := 95) dX12_layOut_95 rfl ?_
            obtain ⟨q7, hq7, h⟩ := bnd h
            refine v_callVi hV (Mc := mX12_lasts) (v := q7) (S1 := si q.2.2.2 77 (ix ((3 * ((5 * v1) + v2)) + q.2.2.1)) ((-1))) (As := [.int q.2.1, .int q6]) (rest := [.int q.1]) (q := (RX12, TX12, 58)) (pc := 97) dX12_layOut_97 mK_X12_320 mf_X12_lasts rfl k0_53 rfl rfl rfl (Nat.le_of_ble_eq_true rfl) ⟨Nat.le_of_ble_eq_true rfl, Nat.le_of_ble_eq_true rfl⟩ (r_Md_lasts hV hq7) ?_
            refine g_iadd (pc := 100) dX12_layOut_100 ?_
            refine g_istore (ls1 := [some (.ref 53), some (.int v1), some (.int v2), some (.int v3), some (.int (q.1 + q7)), some (.int q.2.1), some (.int q.2.2.1), some (.int ((3 * ((5 * v1) + v2)) + q.2.2.1)), some (.int q6)]) (pc := 101) dX12_layOut_101 (by decide) rfl ?_
            refine g_aload_n (pc := 103) dX12_layOut_103 rfl ?_
            refine g_iload (pc := 104) dX12_layOut_104 rfl ?_
            refine g_iload (pc := 106) dX12_layOut_106 rfl ?_
            obtain ⟨q8, hq8, h⟩ := bnd h
            refine v_callVi hV (Mc := mX12_leads) (v := q8) (S1 := si q.2.2.2 77 (ix ((3 * ((5 * v1) + v2)) + q.2.2.1)) ((-1))) (As := [.int q.2.1, .int q6]) (rest := []) (q := (RX12, TX12, 58)) (pc := 108) dX12_layOut_108 mK_X12_323 mf_X12_leads rfl k0_53 rfl rfl rfl (Nat.le_of_ble_eq_true rfl) ⟨Nat.le_of_ble_eq_true rfl, Nat.le_of_ble_eq_true rfl⟩ (r_Md_leads hV hq8) ?_
            refine g_istore (ls1 := [some (.ref 53), some (.int v1), some (.int v2), some (.int v3), some (.int (q.1 + q7)), some (.int q8), some (.int q.2.2.1), some (.int ((3 * ((5 * v1) + v2)) + q.2.2.1)), some (.int q6)]) (pc := 111) dX12_layOut_111 (by decide) rfl ?_
            refine g_aload_n (pc := 113) dX12_layOut_113 rfl ?_
            refine v_getR hV (pc := 114) dX12_layOut_114 fo_12_39 rfl k0_53 r0_53_39 ?_
            refine g_iload (pc := 117) dX12_layOut_117 rfl ?_
            refine g_iload (pc := 119) dX12_layOut_119 rfl ?_
            by_cases c9 : inb ((3 * ((5 * v1) + v2)) + q.2.2.1) 90
            · rw [if_pos c9] at h
              refine v_iast hV (pc := 121) dX12_layOut_121 k0_77 own_77 c9 ?_
              refine g_aload_n (pc := 122) dX12_layOut_122 rfl ?_
              refine v_getR hV (pc := 123) dX12_layOut_123 fo_12_40 rfl k0_53 r0_53_40 ?_
              refine g_iload (pc := 126) dX12_layOut_126 rfl ?_
              refine g_iload (pc := 128) dX12_layOut_128 rfl ?_
              by_cases c10 : inb ((3 * ((5 * v1) + v2)) + q.2.2.1) 90
              · rw [if_pos c10] at h
                refine v_iast hV (pc := 130) dX12_layOut_130 k0_78 own_78 c10 ?_
                refine g_aload_n (pc := 131) dX12_layOut_131 rfl ?_
                refine v_getR hV (pc := 132) dX12_layOut_132 fo_12_41 rfl k0_53 r0_53_41 ?_
                refine g_iload (pc := 135) dX12_layOut_135 rfl ?_
                refine g_aload_n (pc := 137) dX12_layOut_137 rfl ?_
                refine g_aload_n (pc := 138) dX12_layOut_138 rfl ?_
                refine v_getR hV (pc := 139) dX12_layOut_139 fo_12_25 rfl k0_53 r0_53_25 ?_
                refine g_iconst (v := 4) (pc := 142) dX12_layOut_142 (by decide) ?_
                refine g_iload_n (pc := 143) dX12_layOut_143 rfl ?_
                refine g_imul (pc := 144) dX12_layOut_144 ?_
                refine g_iconst (v := 1) (pc := 145) dX12_layOut_145 (by decide) ?_
                refine g_iadd (pc := 146) dX12_layOut_146 ?_
                by_cases c11 : inb ((4 * v1) + 1) 24
                · rw [if_pos c11] at h
                  refine v_iald hV (pc := 147) dX12_layOut_147 k0_69 own_69 c11 ?_
                  refine g_iload (pc := 148) dX12_layOut_148 rfl ?_
                  refine g_iload_n (pc := 150) dX12_layOut_150 rfl ?_
                  refine g_isub (pc := 151) dX12_layOut_151 ?_
                  obtain ⟨q12, hq12, h⟩ := bnd h
                  refine v_callVi hV (Mc := mX12_faded) (v := q12) (S1 := si (si (si q.2.2.2 77 (ix ((3 * ((5 * v1) + v2)) + q.2.2.1)) ((-1))) 77 (ix ((3 * ((5 * v1) + v2)) + q.2.2.1)) (q.1 + q7)) 78 (ix ((3 * ((5 * v1) + v2)) + q.2.2.1)) q8) (As := [.int (gi (si (si (si q.2.2.2 77 (ix ((3 * ((5 * v1) + v2)) + q.2.2.1)) ((-1))) 77 (ix ((3 * ((5 * v1) + v2)) + q.2.2.1)) (q.1 + q7)) 78 (ix ((3 * ((5 * v1) + v2)) + q.2.2.1)) q8) 69 (ix ((4 * v1) + 1))), .int ((q.1 + q7) - v3)]) (rest := [.int ((3 * ((5 * v1) + v2)) + q.2.2.1), .ref 79]) (q := (RX12, TX12, 58)) (pc := 152) dX12_layOut_152 mK_X12_346 mf_X12_faded rfl k0_53 rfl rfl rfl (Nat.le_of_ble_eq_true rfl) ⟨Nat.le_of_ble_eq_true rfl, Nat.le_of_ble_eq_true rfl⟩ (r_Md_faded hV hq12) ?_
                  by_cases c13 : inb ((3 * ((5 * v1) + v2)) + q.2.2.1) 90
                  · rw [if_pos c13] at h
                    refine v_iast hV (pc := 155) dX12_layOut_155 k0_79 own_79 c13 ?_
                    refine g_wk [true, true, true, true, true, true, true, false, false] rfl ?_
                    exact t_Md_layOut_156_L29 hV h hK
                  · rw [if_neg c13] at h; cases h
                · rw [if_neg c11] at h; cases h
              · rw [if_neg c10] at h; cases h
            · rw [if_neg c9] at h; cases h
          · rw [if_neg c5] at h; cases h
      · rw [if_neg c4] at h; cases h
    · rw [if_neg c3] at h; cases h
set_option maxRecDepth 4000 in
theorem w_Md_layOut_L29 {V : Sm → Wd} (hV : VwT V) {l : Launch} {Γ : Gm} {rF : Option Value} {wF : Wd} {v1 : Int32} {v2 : Int32} {v3 : Int32} {k : Nat} {q : Int32 × Int32 × Int32 × Sm} {o : Sm} (h : lpN (Md_layOut_L29 v1 v2 v3) k q = some o) (hP : ps_Md_layOut_L29 V l Γ rF wF v1 v2 v3 o) : hd_Md_layOut_L29 V l Γ rF wF v1 v2 v3 q := lpN_ind2 (hd_Md_layOut_L29 V l Γ rF wF v1 v2 v3) (ps_Md_layOut_L29 V l Γ rF wF v1 v2 v3) (fun s o h hK => t_Md_layOut_L29 hV h hK) k q o h hP
def Md_layOut (v1 : Int32) (v2 : Int32) (S : Sm) : Option (Sm) := (if inb ((4 * v1) + 2) 24 then (if inb (4 * v1) 24 then ((lpN (Md_layOut_L29 v1 v2 ((gi S 69 (ix ((4 * v1) + 2))) + v2)) FU ((gi S 69 (ix ((4 * v1) + 2))) + v2, gi S 69 (ix (4 * v1)), 0, S)).bind fun q16 => (some q16)) else none) else none)
set_option maxRecDepth 4000 in
theorem r_Md_layOut {V : Sm → Wd} (hV : VwT V) {v1 : Int32} {v2 : Int32} {S : Sm} {q : Sm} (h : Md_layOut v1 v2 S = some q) : Runs 1 mX12_layOut [.ref 53, .int v1, .int v2] (V S) none (V q) 0 0 := by
  unfold Md_layOut at h
  refine Runs.of2 [some (.ref 53), some (.int v1), some (.int v2), none, none, none, none, none, none] 6 rfl rfl (Nat.le_of_ble_eq_true rfl) (fun l Γ => ?_)
  refine g_aload_n (pc := 0) dX12_layOut_0 rfl ?_
  refine v_getR hV (pc := 1) dX12_layOut_1 fo_12_25 rfl k0_53 r0_53_25 ?_
  refine g_iconst (v := 4) (pc := 4) dX12_layOut_4 (by decide) ?_
  refine g_iload_n (pc := 5) dX12_layOut_5 rfl ?_
  refine g_imul (pc := 6) dX12_layOut_6 ?_
  refine g_iconst (v := 2) (pc := 7) dX12_layOut_7 (by decide) ?_
  refine g_iadd (pc := 8) dX12_layOut_8 ?_
  by_cases c1 : inb ((4 * v1) + 2) 24
  · rw [if_pos c1] at h
    refine v_iald hV (pc := 9) dX12_layOut_9 k0_69 own_69 c1 ?_
    refine g_iload_n (pc := 10) dX12_layOut_10 rfl ?_
    refine g_iadd (pc := 11) dX12_layOut_11 ?_
    refine g_istore_n (ls1 := [some (.ref 53), some (.int v1), some (.int v2), some (.int ((gi S 69 (ix ((4 * v1) + 2))) + v2)), none, none, none, none, none]) (pc := 12) dX12_layOut_12 (by decide) rfl ?_
    refine g_iload_n (pc := 13) dX12_layOut_13 rfl ?_
    refine g_istore (ls1 := [some (.ref 53), some (.int v1), some (.int v2), some (.int ((gi S 69 (ix ((4 * v1) + 2))) + v2)), some (.int ((gi S 69 (ix ((4 * v1) + 2))) + v2)), none, none, none, none]) (pc := 14) dX12_layOut_14 (by decide) rfl ?_
    refine g_aload_n (pc := 16) dX12_layOut_16 rfl ?_
    refine v_getR hV (pc := 17) dX12_layOut_17 fo_12_25 rfl k0_53 r0_53_25 ?_
    refine g_iconst (v := 4) (pc := 20) dX12_layOut_20 (by decide) ?_
    refine g_iload_n (pc := 21) dX12_layOut_21 rfl ?_
    refine g_imul (pc := 22) dX12_layOut_22 ?_
    by_cases c2 : inb (4 * v1) 24
    · rw [if_pos c2] at h
      refine v_iald hV (pc := 23) dX12_layOut_23 k0_69 own_69 c2 ?_
      refine g_istore (ls1 := [some (.ref 53), some (.int v1), some (.int v2), some (.int ((gi S 69 (ix ((4 * v1) + 2))) + v2)), some (.int ((gi S 69 (ix ((4 * v1) + 2))) + v2)), some (.int (gi S 69 (ix (4 * v1)))), none, none, none]) (pc := 24) dX12_layOut_24 (by decide) rfl ?_
      refine g_iconst (v := 0) (pc := 26) dX12_layOut_26 (by decide) ?_
      refine g_istore (ls1 := [some (.ref 53), some (.int v1), some (.int v2), some (.int ((gi S 69 (ix ((4 * v1) + 2))) + v2)), some (.int ((gi S 69 (ix ((4 * v1) + 2))) + v2)), some (.int (gi S 69 (ix (4 * v1)))), some (.int 0), none, none]) (pc := 27) dX12_layOut_27 (by decide) rfl ?_
      obtain ⟨q16, hqq16, h⟩ := bnd h
      refine w_Md_layOut_L29 hV hqq16 ?_
      unfold ps_Md_layOut_L29
      show G _ _ _ _ _ _ _ _ _ _ _
      cases h
      exact g_vret (pc := 162) dX12_layOut_162 rfl (Nat.le_refl _) (Nat.le_refl _)
    · rw [if_neg c2] at h; cases h
  · rw [if_neg c1] at h; cases h
def hd_Md_layOuts_L2 (V : Sm → Wd) (l : Launch) (Γ : Gm) (rF : Option Value) (wF : Wd)  (q : Int32 × Sm) : Prop := G mX12_layOuts l Γ (rmD 2 0 0) (mQ Γ rF wF 0 0) 0 0 2 [some (.ref 53), some (.int q.1), none] [] (V q.2)
def ps_Md_layOuts_L2 (V : Sm → Wd) (l : Launch) (Γ : Gm) (rF : Option Value) (wF : Wd)  (x : Sm) : Prop := (fun (a : Sm) => G mX12_layOuts l Γ (rmD 2 0 0) (mQ Γ rF wF 0 0) 0 0 35 [none, none, none] [] (V a)) x
def hd_Md_layOuts_L12 (V : Sm → Wd) (l : Launch) (Γ : Gm) (rF : Option Value) (wF : Wd) (v1 : Int32) (q : Int32 × Sm) : Prop := G mX12_layOuts l Γ (rmD 2 0 0) (mQ Γ rF wF 0 0) 0 0 12 [some (.ref 53), some (.int v1), some (.int q.1)] [] (V q.2)
def ps_Md_layOuts_L12 (V : Sm → Wd) (l : Launch) (Γ : Gm) (rF : Option Value) (wF : Wd) (v1 : Int32) (x : Sm) : Prop := (fun (a : Sm) => G mX12_layOuts l Γ (rmD 2 0 0) (mQ Γ rF wF 0 0) 0 0 29 [some (.ref 53), some (.int v1), none] [] (V a)) x
def Md_layOuts_L12 (v1 : Int32) (q : Int32 × Sm) : Option ((Int32 × Sm) ⊕ (Sm)) := (if (5 : Int32) ≤ q.1 then (some (.inr q.2)) else ((Md_layOut v1 q.1 q.2).bind fun q1 => (some (.inl (q.1 + 1, q1)))))
set_option maxRecDepth 4000 in
theorem t_Md_layOuts_L12 {V : Sm → Wd} (hV : VwT V) {l : Launch} {Γ : Gm} {rF : Option Value} {wF : Wd} {v1 : Int32} {q : Int32 × Sm} {o : (Int32 × Sm) ⊕ (Sm)} (h : Md_layOuts_L12 v1 q = some o) (hK : Sum.elim (hd_Md_layOuts_L12 V l Γ rF wF v1) (ps_Md_layOuts_L12 V l Γ rF wF v1) o) : hd_Md_layOuts_L12 V l Γ rF wF v1 q := by
  unfold Md_layOuts_L12 at h
  unfold hd_Md_layOuts_L12
  refine g_iload_n (pc := 12) dX12_layOuts_12 rfl ?_
  refine g_iconst (v := 5) (pc := 13) dX12_layOuts_13 (by decide) ?_
  refine g_icmp_ge (tgt := 29) (pc := 14) dX12_layOuts_14 (by decide) (fun c2 => ?_) (fun c2 => ?_)
  · rw [if_pos c2] at h
    refine g_wk [true, true, false] rfl ?_
    cases h
    exact hK
  · rw [if_neg c2] at h
    refine g_aload_n (pc := 17) dX12_layOuts_17 rfl ?_
    refine g_iload_n (pc := 18) dX12_layOuts_18 rfl ?_
    refine g_iload_n (pc := 19) dX12_layOuts_19 rfl ?_
    obtain ⟨q1, hq1, h⟩ := bnd h
    refine v_callVv hV (Mc := mX12_layOut) (S1 := q1) (As := [.int v1, .int q.1]) (rest := []) (q := (RX12, TX12, 58)) (pc := 20) dX12_layOuts_20 mK_X12_420 mf_X12_layOut rfl k0_53 rfl rfl rfl (Nat.le_of_ble_eq_true rfl) ⟨Nat.le_of_ble_eq_true rfl, Nat.le_of_ble_eq_true rfl⟩ (r_Md_layOut hV hq1) ?_
    refine g_iinc (v := q.1 + 1) (ls1 := [some (.ref 53), some (.int v1), some (.int (q.1 + 1))]) (pc := 23) dX12_layOuts_23 rfl rfl (by decide) rfl ?_
    refine g_goto (tgt := 12) (pc := 26) dX12_layOuts_26 (by decide) ?_
    cases h
    exact hK
set_option maxRecDepth 4000 in
theorem w_Md_layOuts_L12 {V : Sm → Wd} (hV : VwT V) {l : Launch} {Γ : Gm} {rF : Option Value} {wF : Wd} {v1 : Int32} {k : Nat} {q : Int32 × Sm} {o : Sm} (h : lpN (Md_layOuts_L12 v1) k q = some o) (hP : ps_Md_layOuts_L12 V l Γ rF wF v1 o) : hd_Md_layOuts_L12 V l Γ rF wF v1 q := lpN_ind2 (hd_Md_layOuts_L12 V l Γ rF wF v1) (ps_Md_layOuts_L12 V l Γ rF wF v1) (fun s o h hK => t_Md_layOuts_L12 hV h hK) k q o h hP
def Md_layOuts_L2 (q : Int32 × Sm) : Option ((Int32 × Sm) ⊕ (Sm)) := (if (gi q.2 53 26) ≤ q.1 then (some (.inr q.2)) else ((lpN (Md_layOuts_L12 q.1) FU (0, q.2)).bind fun q3 => (some (.inl (q.1 + 1, q3)))))
set_option maxRecDepth 4000 in
theorem t_Md_layOuts_L2 {V : Sm → Wd} (hV : VwT V) {l : Launch} {Γ : Gm} {rF : Option Value} {wF : Wd}  {q : Int32 × Sm} {o : (Int32 × Sm) ⊕ (Sm)} (h : Md_layOuts_L2 q = some o) (hK : Sum.elim (hd_Md_layOuts_L2 V l Γ rF wF) (ps_Md_layOuts_L2 V l Γ rF wF) o) : hd_Md_layOuts_L2 V l Γ rF wF q := by
  unfold Md_layOuts_L2 at h
  unfold hd_Md_layOuts_L2
  refine g_iload_n (pc := 2) dX12_layOuts_2 rfl ?_
  refine g_aload_n (pc := 3) dX12_layOuts_3 rfl ?_
  refine v_getI hV (pc := 4) dX12_layOuts_4 fo_12_26 rfl k0_53 own_53 ?_
  refine g_icmp_ge (tgt := 35) (pc := 7) dX12_layOuts_7 (by decide) (fun c4 => ?_) (fun c4 => ?_)
  · rw [if_pos c4] at h
    refine g_wk [false, false, false] rfl ?_
    cases h
    exact hK
  · rw [if_neg c4] at h
    refine g_iconst (v := 0) (pc := 10) dX12_layOuts_10 (by decide) ?_
    refine g_istore_n (ls1 := [some (.ref 53), some (.int q.1), some (.int 0)]) (pc := 11) dX12_layOuts_11 (by decide) rfl ?_
    obtain ⟨q3, hqq3, h⟩ := bnd h
    refine w_Md_layOuts_L12 hV hqq3 ?_
    unfold ps_Md_layOuts_L12
    show G _ _ _ _ _ _ _ _ _ _ _
    refine g_iinc (v := q.1 + 1) (ls1 := [some (.ref 53), some (.int (q.1 + 1)), none]) (pc := 29) dX12_layOuts_29 rfl rfl (by decide) rfl ?_
    refine g_goto (tgt := 2) (pc := 32) dX12_layOuts_32 (by decide) ?_
    cases h
    exact hK
set_option maxRecDepth 4000 in
theorem w_Md_layOuts_L2 {V : Sm → Wd} (hV : VwT V) {l : Launch} {Γ : Gm} {rF : Option Value} {wF : Wd}  {k : Nat} {q : Int32 × Sm} {o : Sm} (h : lpN (Md_layOuts_L2) k q = some o) (hP : ps_Md_layOuts_L2 V l Γ rF wF o) : hd_Md_layOuts_L2 V l Γ rF wF q := lpN_ind2 (hd_Md_layOuts_L2 V l Γ rF wF) (ps_Md_layOuts_L2 V l Γ rF wF) (fun s o h hK => t_Md_layOuts_L2 hV h hK) k q o h hP
def Md_layOuts (S : Sm) : Option (Sm) := ((lpN (Md_layOuts_L2) FU (0, S)).bind fun q5 => (some q5))
set_option maxRecDepth 4000 in
theorem r_Md_layOuts {V : Sm → Wd} (hV : VwT V)  {S : Sm} {q : Sm} (h : Md_layOuts S = some q) : Runs 2 mX12_layOuts [.ref 53] (V S) none (V q) 0 0 := by
  unfold Md_layOuts at h
  refine Runs.of2 [some (.ref 53), none, none] 2 rfl rfl (Nat.le_of_ble_eq_true rfl) (fun l Γ => ?_)
  refine g_iconst (v := 0) (pc := 0) dX12_layOuts_0 (by decide) ?_
  refine g_istore_n (ls1 := [some (.ref 53), some (.int 0), none]) (pc := 1) dX12_layOuts_1 (by decide) rfl ?_
  obtain ⟨q5, hqq5, h⟩ := bnd h
  refine w_Md_layOuts_L2 hV hqq5 ?_
  unfold ps_Md_layOuts_L2
  show G _ _ _ _ _ _ _ _ _ _ _
  cases h
  exact g_vret (pc := 35) dX12_layOuts_35 rfl (Nat.le_refl _) (Nat.le_refl _)
def hd_Md_clashesOf_L6 (V : Sm → Wd) (l : Launch) (Γ : Gm) (rF : Option Value) (wF : Wd) (v1 : Int32) (v2 : Int32) (v3 : Int32) (v4 : Int32) (S : Sm) (q : Int32 × Int32) : Prop := G mX12_clashesOf l Γ (rmD 0 0 0) (mQ Γ rF wF 0 0) 0 0 6 [some (.ref 53), some (.int v1), some (.int v2), some (.int v3), some (.int v4), some (.int q.1), some (.int q.2), none, none, none] [] (V S)
def ps_Md_clashesOf_L6 (V : Sm → Wd) (l : Launch) (Γ : Gm) (rF : Option Value) (wF : Wd) (v1 : Int32) (v2 : Int32) (v3 : Int32) (v4 : Int32) (S : Sm) (x : Int32) : Prop := (fun (a : Int32) => G mX12_clashesOf l Γ (rmD 0 0 0) (mQ Γ rF wF 0 0) 0 0 130 [none, none, none, none, none, some (.int a), none, none, none, none] [] (V S)) x
def hd_Md_clashesOf_L15 (V : Sm → Wd) (l : Launch) (Γ : Gm) (rF : Option Value) (wF : Wd) (v1 : Int32) (v2 : Int32) (v3 : Int32) (v4 : Int32) (v6 : Int32) (S : Sm) (q : Int32 × Int32) : Prop := G mX12_clashesOf l Γ (rmD 0 0 0) (mQ Γ rF wF 0 0) 0 0 15 [some (.ref 53), some (.int v1), some (.int v2), some (.int v3), some (.int v4), some (.int q.1), some (.int v6), some (.int q.2), none, none] [] (V S)
def ps_Md_clashesOf_L15 (V : Sm → Wd) (l : Launch) (Γ : Gm) (rF : Option Value) (wF : Wd) (v1 : Int32) (v2 : Int32) (v3 : Int32) (v4 : Int32) (v6 : Int32) (S : Sm) (x : Int32) : Prop := (fun (a : Int32) => G mX12_clashesOf l Γ (rmD 0 0 0) (mQ Γ rF wF 0 0) 0 0 124 [some (.ref 53), some (.int v1), some (.int v2), some (.int v3), some (.int v4), some (.int a), some (.int v6), none, none, none] [] (V S)) x
def Md_clashesOf_115_L15 (v1 : Int32) (v2 : Int32) (v3 : Int32) (v4 : Int32) (v6 : Int32) (v7 : Int32) (s0 : Int32) (s1 : Int32) (S : Sm) : Option ((Int32 × Int32) ⊕ (Int32)) := (some (.inl (s0 + s1, v7 + 1)))
set_option maxRecDepth 4000 in
theorem t_Md_clashesOf_115_L15 {V : Sm → Wd} (hV : VwT V) {l : Launch} {Γ : Gm} {v1 : Int32} {v2 : Int32} {v3 : Int32} {v4 : Int32} {v6 : Int32} {v7 : Int32} {s0 : Int32} {s1 : Int32} {rF : Option Value} {wF : Wd} {S : Sm} {o : (Int32 × Int32) ⊕ (Int32)} (h : Md_clashesOf_115_L15 v1 v2 v3 v4 v6 v7 s0 s1 S = some o) (hK : Sum.elim (hd_Md_clashesOf_L15 V l Γ rF wF v1 v2 v3 v4 v6 S) (ps_Md_clashesOf_L15 V l Γ rF wF v1 v2 v3 v4 v6 S) o) : G mX12_clashesOf l Γ (rmD 0 0 0) (mQ Γ rF wF 0 0) 0 0 115 [some (.ref 53), some (.int v1), some (.int v2), some (.int v3), some (.int v4), none, some (.int v6), some (.int v7), none, none] [.int s1, .int s0] (V S) := by
  unfold Md_clashesOf_115_L15 at h
  refine g_iadd (pc := 115) dX12_clashesOf_115 ?_
  refine g_istore (ls1 := [some (.ref 53), some (.int v1), some (.int v2), some (.int v3), some (.int v4), some (.int (s0 + s1)), some (.int v6), some (.int v7), none, none]) (pc := 116) dX12_clashesOf_116 (by decide) rfl ?_
  refine g_iinc (v := v7 + 1) (ls1 := [some (.ref 53), some (.int v1), some (.int v2), some (.int v3), some (.int v4), some (.int (s0 + s1)), some (.int v6), some (.int (v7 + 1)), none, none]) (pc := 118) dX12_clashesOf_118 rfl rfl (by decide) rfl ?_
  refine g_goto (tgt := 15) (pc := 121) dX12_clashesOf_121 (by decide) ?_
  cases h
  exact hK
def Md_clashesOf_114_L15 (v1 : Int32) (v2 : Int32) (v3 : Int32) (v4 : Int32) (v6 : Int32) (v7 : Int32) (s0 : Int32) (S : Sm) : Option ((Int32 × Int32) ⊕ (Int32)) := (Md_clashesOf_115_L15 v1 v2 v3 v4 v6 v7 s0 0 S)
set_option maxRecDepth 4000 in
theorem t_Md_clashesOf_114_L15 {V : Sm → Wd} (hV : VwT V) {l : Launch} {Γ : Gm} {v1 : Int32} {v2 : Int32} {v3 : Int32} {v4 : Int32} {v6 : Int32} {v7 : Int32} {s0 : Int32} {rF : Option Value} {wF : Wd} {S : Sm} {o : (Int32 × Int32) ⊕ (Int32)} (h : Md_clashesOf_114_L15 v1 v2 v3 v4 v6 v7 s0 S = some o) (hK : Sum.elim (hd_Md_clashesOf_L15 V l Γ rF wF v1 v2 v3 v4 v6 S) (ps_Md_clashesOf_L15 V l Γ rF wF v1 v2 v3 v4 v6 S) o) : G mX12_clashesOf l Γ (rmD 0 0 0) (mQ Γ rF wF 0 0) 0 0 114 [some (.ref 53), some (.int v1), some (.int v2), some (.int v3), some (.int v4), none, some (.int v6), some (.int v7), none, none] [.int s0] (V S) := by
  unfold Md_clashesOf_114_L15 at h
  refine g_iconst (v := 0) (pc := 114) dX12_clashesOf_114 (by decide) ?_
  exact t_Md_clashesOf_115_L15 hV h hK
def Md_clashesOf_L15 (v1 : Int32) (v2 : Int32) (v3 : Int32) (v4 : Int32) (v6 : Int32) (S : Sm) (q : Int32 × Int32) : Option ((Int32 × Int32) ⊕ (Int32)) := (if (3 : Int32) ≤ q.2 then (some (.inr q.1)) else (if inb ((3 * ((5 * v1) + v2)) + v6) 90 then (if (gi S 77 (ix ((3 * ((5 * v1) + v2)) + v6))) = ((-1)) then (Md_clashesOf_114_L15 v1 v2 v3 v4 v6 q.2 q.1 S) else (if inb ((3 * ((5 * v1) + v2)) + v6) 90 then (if inb ((3 * ((5 * v3) + v4)) + q.2) 90 then (if (gi S 77 (ix ((3 * ((5 * v1) + v2)) + v6))) = (gi S 77 (ix ((3 * ((5 * v3) + v4)) + q.2))) then (if inb ((3 * ((5 * v1) + v2)) + v6) 90 then (if inb ((3 * ((5 * v3) + v4)) + q.2) 90 then (if (gi S 78 (ix ((3 * ((5 * v1) + v2)) + v6))) = (gi S 78 (ix ((3 * ((5 * v3) + v4)) + q.2))) then (if inb ((3 * ((5 * v1) + v2)) + v6) 90 then (if inb ((3 * ((5 * v3) + v4)) + q.2) 90 then (if (gi S 79 (ix ((3 * ((5 * v1) + v2)) + v6))) = (gi S 79 (ix ((3 * ((5 * v3) + v4)) + q.2))) then (Md_clashesOf_115_L15 v1 v2 v3 v4 v6 q.2 q.1 1 S) else (Md_clashesOf_114_L15 v1 v2 v3 v4 v6 q.2 q.1 S)) else none) else none) else (Md_clashesOf_114_L15 v1 v2 v3 v4 v6 q.2 q.1 S)) else none) else none) else (Md_clashesOf_114_L15 v1 v2 v3 v4 v6 q.2 q.1 S)) else none) else none)) else none))
set_option maxRecDepth 4000 in
theorem t_Md_clashesOf_L15 {V : Sm → Wd} (hV : VwT V) {l : Launch} {Γ : Gm} {rF : Option Value} {wF : Wd} {v1 : Int32} {v2 : Int32} {v3 : Int32} {v4 : Int32} {v6 : Int32} {S : Sm} {q : Int32 × Int32} {o : (Int32 × Int32) ⊕ (Int32)} (h : Md_clashesOf_L15 v1 v2 v3 v4 v6 S q = some o) (hK : Sum.elim (hd_Md_clashesOf_L15 V l Γ rF wF v1 v2 v3 v4 v6 S) (ps_Md_clashesOf_L15 V l Γ rF wF v1 v2 v3 v4 v6 S) o) : hd_Md_clashesOf_L15 V l Γ rF wF v1 v2 v3 v4 v6 S q := by
  unfold Md_clashesOf_L15 at h
  unfold hd_Md_clashesOf_L15
  refine g_iload (pc := 15) dX12_clashesOf_15 rfl ?_
  refine g_iconst (v := 3) (pc := 17) dX12_clashesOf_17 (by decide) ?_
  refine g_icmp_ge (tgt := 124) (pc := 18) dX12_clashesOf_18 (by decide) (fun c12 => ?_) (fun c12 => ?_)
  · rw [if_pos c12] at h
    refine g_wk [true, true, true, true, true, true, true, false, false, false] rfl ?_
    cases h
    exact hK
  · rw [if_neg c12] at h
    refine g_iconst (v := 3) (pc := 21) dX12_clashesOf_21 (by decide) ?_
    refine g_iconst (v := 5) (pc := 22) dX12_clashesOf_22 (by decide) ?_
    refine g_iload_n (pc := 23) dX12_clashesOf_23 rfl ?_
    refine g_imul (pc := 24) dX12_clashesOf_24 ?_
    refine g_iload_n (pc := 25) dX12_clashesOf_25 rfl ?_
    refine g_iadd (pc := 26) dX12_clashesOf_26 ?_
    refine g_imul (pc := 27) dX12_clashesOf_27 ?_
    refine g_iload (pc := 28) dX12_clashesOf_28 rfl ?_
    refine g_iadd (pc := 30) dX12_clashesOf_30 ?_
    refine g_istore (ls1 := [some (.ref 53), some (.int v1), some (.int v2), some (.int v3), some (.int v4), some (.int q.1), some (.int v6), some (.int q.2), some (.int ((3 * ((5 * v1) + v2)) + v6)), none]) (pc := 31) dX12_clashesOf_31 (by decide) rfl ?_
    refine g_iconst (v := 3) (pc := 33) dX12_clashesOf_33 (by decide) ?_
    refine g_iconst (v := 5) (pc := 34) dX12_clashesOf_34 (by decide) ?_
    refine g_iload_n (pc := 35) dX12_clashesOf_35 rfl ?_
    refine g_imul (pc := 36) dX12_clashesOf_36 ?_
    refine g_iload (pc := 37) dX12_clashesOf_37 rfl ?_
    refine g_iadd (pc := 39) dX12_clashesOf_39 ?_
    refine g_imul (pc := 40) dX12_clashesOf_40 ?_
    refine g_iload (pc := 41) dX12_clashesOf_41 rfl ?_
    refine g_iadd (pc := 43) dX12_clashesOf_43 ?_
    refine g_istore (ls1 := [some (.ref 53), some (.int v1), some (.int v2), some (.int v3), some (.int v4), some (.int q.1), some (.int v6), some (.int q.2), some (.int ((3 * ((5 * v1) + v2)) + v6)), some (.int ((3 * ((5 * v3) + v4)) + q.2))]) (pc := 44) dX12_clashesOf_44 (by decide) rfl ?_
    refine g_iload (pc := 46) dX12_clashesOf_46 rfl ?_
    refine g_aload_n (pc := 48) dX12_clashesOf_48 rfl ?_
    refine v_getR hV (pc := 49) dX12_clashesOf_49 fo_12_39 rfl k0_53 r0_53_39 ?_
    refine g_iload (pc := 52) dX12_clashesOf_52 rfl ?_
    by_cases c1 : inb ((3 * ((5 * v1) + v2)) + v6) 90
    · rw [if_pos c1] at h
      refine v_iald hV (pc := 54) dX12_clashesOf_54 k0_77 own_77 c1 ?_
      refine g_iconst (v := (-1)) (pc := 55) dX12_clashesOf_55 (by decide) ?_
      refine g_icmp_eq (tgt := 114) (pc := 56) dX12_clashesOf_56 (by decide) (fun c11 => ?_) (fun c11 => ?_)
      · rw [if_pos c11] at h
        refine g_wk [true, true, true, true, true, false, true, true, false, false] rfl ?_
        exact t_Md_clashesOf_114_L15 hV h hK
      · rw [if_neg c11] at h
        refine g_aload_n (pc := 59) dX12_clashesOf_59 rfl ?_
        refine v_getR hV (pc := 60) dX12_clashesOf_60 fo_12_39 rfl k0_53 r0_53_39 ?_
        refine g_iload (pc := 63) dX12_clashesOf_63 rfl ?_
        by_cases c2 : inb ((3 * ((5 * v1) + v2)) + v6) 90
        · rw [if_pos c2] at h
          refine v_iald hV (pc := 65) dX12_clashesOf_65 k0_77 own_77 c2 ?_
          refine g_aload_n (pc := 66) dX12_clashesOf_66 rfl ?_
          refine v_getR hV (pc := 67) dX12_clashesOf_67 fo_12_39 rfl k0_53 r0_53_39 ?_
          refine g_iload (pc := 70) dX12_clashesOf_70 rfl ?_
          by_cases c3 : inb ((3 * ((5 * v3) + v4)) + q.2) 90
          · rw [if_pos c3] at h
            refine v_iald hV (pc := 72) dX12_clashesOf_72 k0_77 own_77 c3 ?_
            refine g_icmp_ne (tgt := 114) (pc := 73) dX12_clashesOf_73 (by decide) (fun c10 => ?_) (fun c10 => ?_)
            · rw [if_neg c10] at h
              refine g_wk [true, true, true, true, true, false, true, true, false, false] rfl ?_
              exact t_Md_clashesOf_114_L15 hV h hK
            · rw [if_pos c10] at h
              refine g_aload_n (pc := 76) dX12_clashesOf_76 rfl ?_
              refine v_getR hV (pc := 77) dX12_clashesOf_77 fo_12_40 rfl k0_53 r0_53_40 ?_
              refine g_iload (pc := 80) dX12_clashesOf_80 rfl ?_
              by_cases c4 : inb ((3 * ((5 * v1) + v2)) + v6) 90
              · rw [if_pos c4] at h
                refine v_iald hV (pc := 82) dX12_clashesOf_82 k0_78 own_78 c4 ?_
                refine g_aload_n (pc := 83) dX12_clashesOf_83 rfl ?_
                refine v_getR hV (pc := 84) dX12_clashesOf_84 fo_12_40 rfl k0_53 r0_53_40 ?_
                refine g_iload (pc := 87) dX12_clashesOf_87 rfl ?_
                by_cases c5 : inb ((3 * ((5 * v3) + v4)) + q.2) 90
                · rw [if_pos c5] at h
                  refine v_iald hV (pc := 89) dX12_clashesOf_89 k0_78 own_78 c5 ?_
                  refine g_icmp_ne (tgt := 114) (pc := 90) dX12_clashesOf_90 (by decide) (fun c9 => ?_) (fun c9 => ?_)
                  · rw [if_neg c9] at h
                    refine g_wk [true, true, true, true, true, false, true, true, false, false] rfl ?_
                    exact t_Md_clashesOf_114_L15 hV h hK
                  · rw [if_pos c9] at h
                    refine g_aload_n (pc := 93) dX12_clashesOf_93 rfl ?_
                    refine v_getR hV (pc := 94) dX12_clashesOf_94 fo_12_41 rfl k0_53 r0_53_41 ?_
                    refine g_iload (pc := 97) dX12_clashesOf_97 rfl ?_
                    by_cases c6 : inb ((3 * ((5 * v1) + v2)) + v6) 90
                    · rw [if_pos c6] at h
                      refine v_iald hV (pc := 99) dX12_clashesOf_99 k0_79 own_79 c6 ?_
                      refine g_aload_n (pc := 100) dX12_clashesOf_100 rfl ?_
                      refine v_getR hV (pc := 101) dX12_clashesOf_101 fo_12_41 rfl k0_53 r0_53_41 ?_
                      refine g_iload (pc := 104) dX12_clashesOf_104 rfl ?_
                      by_cases c7 : inb ((3 * ((5 * v3) + v4)) + q.2) 90
                      · rw [if_pos c7] at h
                        refine v_iald hV (pc := 106) dX12_clashesOf_106 k0_79 own_79 c7 ?_
                        refine g_icmp_ne (tgt := 114) (pc := 107) dX12_clashesOf_107 (by decide) (fun c8 => ?_) (fun c8 => ?_)
                        · rw [if_neg c8] at h
                          refine g_wk [true, true, true, true, true, false, true, true, false, false] rfl ?_
                          exact t_Md_clashesOf_114_L15 hV h hK
                        · rw [if_pos c8] at h
                          refine g_iconst (v := 1) (pc := 110) dX12_clashesOf_110 (by decide) ?_
                          refine g_goto (tgt := 115) (pc := 111) dX12_clashesOf_111 (by decide) ?_
                          refine g_wk [true, true, true, true, true, false, true, true, false, false] rfl ?_
                          exact t_Md_clashesOf_115_L15 hV h hK
                      · rw [if_neg c7] at h; cases h
                    · rw [if_neg c6] at h; cases h
                · rw [if_neg c5] at h; cases h
              · rw [if_neg c4] at h; cases h
          · rw [if_neg c3] at h; cases h
        · rw [if_neg c2] at h; cases h
    · rw [if_neg c1] at h; cases h
set_option maxRecDepth 4000 in
theorem w_Md_clashesOf_L15 {V : Sm → Wd} (hV : VwT V) {l : Launch} {Γ : Gm} {rF : Option Value} {wF : Wd} {v1 : Int32} {v2 : Int32} {v3 : Int32} {v4 : Int32} {v6 : Int32} {S : Sm} {k : Nat} {q : Int32 × Int32} {o : Int32} (h : lpN (Md_clashesOf_L15 v1 v2 v3 v4 v6 S) k q = some o) (hP : ps_Md_clashesOf_L15 V l Γ rF wF v1 v2 v3 v4 v6 S o) : hd_Md_clashesOf_L15 V l Γ rF wF v1 v2 v3 v4 v6 S q := lpN_ind2 (hd_Md_clashesOf_L15 V l Γ rF wF v1 v2 v3 v4 v6 S) (ps_Md_clashesOf_L15 V l Γ rF wF v1 v2 v3 v4 v6 S) (fun s o h hK => t_Md_clashesOf_L15 hV h hK) k q o h hP
def Md_clashesOf_L6 (v1 : Int32) (v2 : Int32) (v3 : Int32) (v4 : Int32) (S : Sm) (q : Int32 × Int32) : Option ((Int32 × Int32) ⊕ (Int32)) := (if (3 : Int32) ≤ q.2 then (some (.inr q.1)) else ((lpN (Md_clashesOf_L15 v1 v2 v3 v4 q.2 S) FU (q.1, 0)).bind fun q13 => (some (.inl (q13, q.2 + 1)))))
set_option maxRecDepth 4000 in
theorem t_Md_clashesOf_L6 {V : Sm → Wd} (hV : VwT V) {l : Launch} {Γ : Gm} {rF : Option Value} {wF : Wd} {v1 : Int32} {v2 : Int32} {v3 : Int32} {v4 : Int32} {S : Sm} {q : Int32 × Int32} {o : (Int32 × Int32) ⊕ (Int32)} (h : Md_clashesOf_L6 v1 v2 v3 v4 S q = some o) (hK : Sum.elim (hd_Md_clashesOf_L6 V l Γ rF wF v1 v2 v3 v4 S) (ps_Md_clashesOf_L6 V l Γ rF wF v1 v2 v3 v4 S) o) : hd_Md_clashesOf_L6 V l Γ rF wF v1 v2 v3 v4 S q := by
  unfold Md_clashesOf_L6 at h
  unfold hd_Md_clashesOf_L6
  refine g_iload (pc := 6) dX12_clashesOf_6 rfl ?_
  refine g_iconst (v := 3) (pc := 8) dX12_clashesOf_8 (by decide) ?_
  refine g_icmp_ge (tgt := 130) (pc := 9) dX12_clashesOf_9 (by decide) (fun c14 => ?_) (fun c14 => ?_)
  · rw [if_pos c14] at h
    refine g_wk [false, false, false, false, false, true, false, false, false, false] rfl ?_
    cases h
    exact hK
  · rw [if_neg c14] at h
    refine g_iconst (v := 0) (pc := 12) dX12_clashesOf_12 (by decide) ?_
    refine g_istore (ls1 := [some (.ref 53), some (.int v1), some (.int v2), some (.int v3), some (.int v4), some (.int q.1), some (.int q.2), some (.int 0), none, none]) (pc := 13) dX12_clashesOf_13 (by decide) rfl ?_
    obtain ⟨q13, hqq13, h⟩ := bnd h
    refine w_Md_clashesOf_L15 hV hqq13 ?_
    unfold ps_Md_clashesOf_L15
    show G _ _ _ _ _ _ _ _ _ _ _
    refine g_iinc (v := q.2 + 1) (ls1 := [some (.ref 53), some (.int v1), some (.int v2), some (.int v3), some (.int v4), some (.int q13), some (.int (q.2 + 1)), none, none, none]) (pc := 124) dX12_clashesOf_124 rfl rfl (by decide) rfl ?_
    refine g_goto (tgt := 6) (pc := 127) dX12_clashesOf_127 (by decide) ?_
    cases h
    exact hK
set_option maxRecDepth 4000 in
theorem w_Md_clashesOf_L6 {V : Sm → Wd} (hV : VwT V) {l : Launch} {Γ : Gm} {rF : Option Value} {wF : Wd} {v1 : Int32} {v2 : Int32} {v3 : Int32} {v4 : Int32} {S : Sm} {k : Nat} {q : Int32 × Int32} {o : Int32} (h : lpN (Md_clashesOf_L6 v1 v2 v3 v4 S) k q = some o) (hP : ps_Md_clashesOf_L6 V l Γ rF wF v1 v2 v3 v4 S o) : hd_Md_clashesOf_L6 V l Γ rF wF v1 v2 v3 v4 S q := lpN_ind2 (hd_Md_clashesOf_L6 V l Γ rF wF v1 v2 v3 v4 S) (ps_Md_clashesOf_L6 V l Γ rF wF v1 v2 v3 v4 S) (fun s o h hK => t_Md_clashesOf_L6 hV h hK) k q o h hP
def Md_clashesOf (v1 : Int32) (v2 : Int32) (v3 : Int32) (v4 : Int32) (S : Sm) : Option (Int32) := ((lpN (Md_clashesOf_L6 v1 v2 v3 v4 S) FU (0, 0)).bind fun q15 => (some q15))
set_option maxRecDepth 4000 in
theorem r_Md_clashesOf {V : Sm → Wd} (hV : VwT V) {v1 : Int32} {v2 : Int32} {v3 : Int32} {v4 : Int32} {S : Sm} {q : Int32} (h : Md_clashesOf v1 v2 v3 v4 S = some q) : Runs 0 mX12_clashesOf [.ref 53, .int v1, .int v2, .int v3, .int v4] (V S) (some (.int q)) (V S) 0 0 := by
  unfold Md_clashesOf at h
  refine Runs.of2 [some (.ref 53), some (.int v1), some (.int v2), some (.int v3), some (.int v4), none, none, none, none, none] 5 rfl rfl (Nat.le_of_ble_eq_true rfl) (fun l Γ => ?_)
  refine g_iconst (v := 0) (pc := 0) dX12_clashesOf_0 (by decide) ?_
  refine g_istore (ls1 := [some (.ref 53), some (.int v1), some (.int v2), some (.int v3), some (.int v4), some (.int 0), none, none, none, none]) (pc := 1) dX12_clashesOf_1 (by decide) rfl ?_
  refine g_iconst (v := 0) (pc := 3) dX12_clashesOf_3 (by decide) ?_
  refine g_istore (ls1 := [some (.ref 53), some (.int v1), some (.int v2), some (.int v3), some (.int v4), some (.int 0), some (.int 0), none, none, none]) (pc := 4) dX12_clashesOf_4 (by decide) rfl ?_
  obtain ⟨q15, hqq15, h⟩ := bnd h
  refine w_Md_clashesOf_L6 hV hqq15 ?_
  unfold ps_Md_clashesOf_L6
  show G _ _ _ _ _ _ _ _ _ _ _
  refine g_iload (pc := 130) dX12_clashesOf_130 rfl ?_
  cases h
  exact g_iret (pc := 132) dX12_clashesOf_132 rfl rfl (Nat.le_refl _) (Nat.le_refl _)
def hd_Md_tryTable_L39 (V : Sm → Wd) (D0 : Nat) (l : Launch) (Γ : Gm) (rF : Option Value) (wF : Wd) (v1 : Int32) (v2 : Int32) (v3 : Int32) (q : Int32 × Sm) : Prop := G mX12_tryTable l Γ (rmD (D0 + 1) 0 0) (mQ Γ rF wF 0 0) 0 0 39 [some (.ref 53), some (.int v1), some (.int v2), some (.int v3), some (.int q.1), none, none] [] (V q.2)
def ps_Md_tryTable_L39 (V : Sm → Wd) (D0 : Nat) (l : Launch) (Γ : Gm) (rF : Option Value) (wF : Wd) (v1 : Int32) (v2 : Int32) (v3 : Int32) (x : Sm) : Prop := (fun (a : Sm) => G mX12_tryTable l Γ (rmD (D0 + 1) 0 0) (mQ Γ rF wF 0 0) 0 0 131 [none, none, none, none, none, none, none] [] (V a)) x
def hd_Md_tryTable_L51 (V : Sm → Wd) (D0 : Nat) (l : Launch) (Γ : Gm) (rF : Option Value) (wF : Wd) (v1 : Int32) (v2 : Int32) (v3 : Int32) (v4 : Int32) (S : Sm) (q : Int32 × Int32) : Prop := G mX12_tryTable l Γ (rmD (D0 + 1) 0 0) (mQ Γ rF wF 0 0) 0 0 51 [some (.ref 53), some (.int v1), some (.int v2), some (.int v3), some (.int v4), some (.int q.1), some (.int q.2)] [] (V S)
def ps_Md_tryTable_L51 (V : Sm → Wd) (D0 : Nat) (l : Launch) (Γ : Gm) (rF : Option Value) (wF : Wd) (v1 : Int32) (v2 : Int32) (v3 : Int32) (v4 : Int32) (S : Sm) (x : Int32) : Prop := (fun (a : Int32) => G mX12_tryTable l Γ (rmD (D0 + 1) 0 0) (mQ Γ rF wF 0 0) 0 0 94 [some (.ref 53), some (.int v1), some (.int v2), some (.int v3), some (.int v4), some (.int a), none] [] (V S)) x
def Md_tryTable_86_L51 (rc : Nat → Int32 → Int32 → Int32 → Sm → Option Sm) (v1 : Int32) (v2 : Int32) (v3 : Int32) (v4 : Int32) (v6 : Int32) (s0 : Int32) (S : Sm) : Option ((Int32 × Int32) ⊕ (Int32)) := (some (.inl (s0, v6 + 1)))
set_option maxRecDepth 4000 in
theorem t_Md_tryTable_86_L51 {V : Sm → Wd} (hV : VwT V) {D0 : Nat} (hD0 : 0 ≤ D0) {rc : Nat → Int32 → Int32 → Int32 → Sm → Option Sm} (hrc : (∀ (u0 u1 u2 : Int32) (S q : Sm), rc 0 u0 u1 u2 S = some q → Runs D0 mX12_tryTable [.ref 53, .int u0, .int u1, .int u2] (V S) none (V q) 0 0)) {l : Launch} {Γ : Gm} {v1 : Int32} {v2 : Int32} {v3 : Int32} {v4 : Int32} {v6 : Int32} {s0 : Int32} {rF : Option Value} {wF : Wd} {S : Sm} {o : (Int32 × Int32) ⊕ (Int32)} (h : Md_tryTable_86_L51 rc v1 v2 v3 v4 v6 s0 S = some o) (hK : Sum.elim (hd_Md_tryTable_L51 V D0 l Γ rF wF v1 v2 v3 v4 S) (ps_Md_tryTable_L51 V D0 l Γ rF wF v1 v2 v3 v4 S) o) : G mX12_tryTable l Γ (rmD (D0 + 1) 0 0) (mQ Γ rF wF 0 0) 0 0 86 [some (.ref 53), some (.int v1), some (.int v2), some (.int v3), some (.int v4), none, some (.int v6)] [.int s0] (V S) := by
  unfold Md_tryTable_86_L51 at h
  refine g_istore (ls1 := [some (.ref 53), some (.int v1), some (.int v2), some (.int v3), some (.int v4), some (.int s0), some (.int v6)]) (pc := 86) dX12_tryTable_86 (by decide) rfl ?_
  refine g_iinc (v := v6 + 1) (ls1 := [some (.ref 53), some (.int v1), some (.int v2), some (.int v3), some (.int v4), some (.int s0), some (.int (v6 + 1))]) (pc := 88) dX12_tryTable_88 rfl rfl (by decide) rfl ?_
  refine g_goto (tgt := 51) (pc := 91) dX12_tryTable_91 (by decide) ?_
  cases h
  exact hK
def Md_tryTable_L51 (rc : Nat → Int32 → Int32 → Int32 → Sm → Option Sm) (v1 : Int32) (v2 : Int32) (v3 : Int32) (v4 : Int32) (S : Sm) (q : Int32 × Int32) : Option ((Int32 × Int32) ⊕ (Int32)) := (if v1 ≤ q.2 then (some (.inr q.1)) else (if q.1 = 0 then (some (.inr q.1)) else (if inb q.2 6 then ((Md_clashesOf q.2 (gi S 80 (ix q.2)) v1 v4 S).bind fun q2 => (if q2 = 0 then (Md_tryTable_86_L51 rc v1 v2 v3 v4 q.2 1 S) else (Md_tryTable_86_L51 rc v1 v2 v3 v4 q.2 0 S))) else none)))
set_option maxRecDepth 4000 in
theorem t_Md_tryTable_L51 {V : Sm → Wd} (hV : VwT V) {D0 : Nat} (hD0 : 0 ≤ D0) {rc : Nat → Int32 → Int32 → Int32 → Sm → Option Sm} (hrc : (∀ (u0 u1 u2 : Int32) (S q : Sm), rc 0 u0 u1 u2 S = some q → Runs D0 mX12_tryTable [.ref 53, .int u0, .int u1, .int u2] (V S) none (V q) 0 0)) {l : Launch} {Γ : Gm} {rF : Option Value} {wF : Wd} {v1 : Int32} {v2 : Int32} {v3 : Int32} {v4 : Int32} {S : Sm} {q : Int32 × Int32} {o : (Int32 × Int32) ⊕ (Int32)} (h : Md_tryTable_L51 rc v1 v2 v3 v4 S q = some o) (hK : Sum.elim (hd_Md_tryTable_L51 V D0 l Γ rF wF v1 v2 v3 v4 S) (ps_Md_tryTable_L51 V D0 l Γ rF wF v1 v2 v3 v4 S) o) : hd_Md_tryTable_L51 V D0 l Γ rF wF v1 v2 v3 v4 S q := by
  unfold Md_tryTable_L51 at h
  unfold hd_Md_tryTable_L51
  refine g_iload (pc := 51) dX12_tryTable_51 rfl ?_
  refine g_iload_n (pc := 53) dX12_tryTable_53 rfl ?_
  refine g_icmp_ge (tgt := 94) (pc := 54) dX12_tryTable_54 (by decide) (fun c5 => ?_) (fun c5 => ?_)
  · rw [if_pos c5] at h
    refine g_wk [true, true, true, true, true, true, false] rfl ?_
    cases h
    exact hK
  · rw [if_neg c5] at h
    refine g_iload (pc := 57) dX12_tryTable_57 rfl ?_
    refine g_if_eq (tgt := 94) (pc := 59) dX12_tryTable_59 (by decide) (fun c4 => ?_) (fun c4 => ?_)
    · rw [if_pos c4] at h
      refine g_wk [true, true, true, true, true, true, false] rfl ?_
      cases h
      exact hK
    · rw [if_neg c4] at h
      refine g_aload_n (pc := 62) dX12_tryTable_62 rfl ?_
      refine g_iload (pc := 63) dX12_tryTable_63 rfl ?_
      refine g_aload_n (pc := 65) dX12_tryTable_65 rfl ?_
      refine v_getR hV (pc := 66) dX12_tryTable_66 fo_12_42 rfl k0_53 r0_53_42 ?_
      refine g_iload (pc := 69) dX12_tryTable_69 rfl ?_
      by_cases c1 : inb q.2 6
      · rw [if_pos c1] at h
        refine v_iald hV (pc := 71) dX12_tryTable_71 k0_80 own_80 c1 ?_
        refine g_iload_n (pc := 72) dX12_tryTable_72 rfl ?_
        refine g_iload (pc := 73) dX12_tryTable_73 rfl ?_
        obtain ⟨q2, hq2, h⟩ := bnd h
        refine v_callVi hV (Mc := mX12_clashesOf) (v := q2) (S1 := S) (As := [.int q.2, .int (gi S 80 (ix q.2)), .int v1, .int v4]) (rest := []) (q := (RX12, TX12, 58)) (pc := 75) dX12_tryTable_75 mK_X12_429 mf_X12_clashesOf rfl k0_53 rfl rfl rfl (Nat.le_of_ble_eq_true rfl) ⟨by show 0 + 1 ≤ D0 + 1; omega, by show 8 + (10 + 11) + 64 * 0 ≤ 64 * (D0 + 1); omega⟩ (r_Md_clashesOf hV hq2) ?_
        refine g_if_ne (tgt := 85) (pc := 78) dX12_tryTable_78 (by decide) (fun c3 => ?_) (fun c3 => ?_)
        · rw [if_neg c3] at h
          refine g_iconst (v := 0) (pc := 85) dX12_tryTable_85 (by decide) ?_
          refine g_wk [true, true, true, true, true, false, true] rfl ?_
          exact t_Md_tryTable_86_L51 hV hD0 hrc h hK
        · rw [if_pos c3] at h
          refine g_iconst (v := 1) (pc := 81) dX12_tryTable_81 (by decide) ?_
          refine g_goto (tgt := 86) (pc := 82) dX12_tryTable_82 (by decide) ?_
          refine g_wk [true, true, true, true, true, false, true] rfl ?_
          exact t_Md_tryTable_86_L51 hV hD0 hrc h hK
      · rw [if_neg c1] at h; cases h
set_option maxRecDepth 4000 in
theorem w_Md_tryTable_L51 {V : Sm → Wd} (hV : VwT V) {D0 : Nat} (hD0 : 0 ≤ D0) {rc : Nat → Int32 → Int32 → Int32 → Sm → Option Sm} (hrc : (∀ (u0 u1 u2 : Int32) (S q : Sm), rc 0 u0 u1 u2 S = some q → Runs D0 mX12_tryTable [.ref 53, .int u0, .int u1, .int u2] (V S) none (V q) 0 0)) {l : Launch} {Γ : Gm} {rF : Option Value} {wF : Wd} {v1 : Int32} {v2 : Int32} {v3 : Int32} {v4 : Int32} {S : Sm} {k : Nat} {q : Int32 × Int32} {o : Int32} (h : lpN (Md_tryTable_L51 rc v1 v2 v3 v4 S) k q = some o) (hP : ps_Md_tryTable_L51 V D0 l Γ rF wF v1 v2 v3 v4 S o) : hd_Md_tryTable_L51 V D0 l Γ rF wF v1 v2 v3 v4 S q := lpN_ind2 (hd_Md_tryTable_L51 V D0 l Γ rF wF v1 v2 v3 v4 S) (ps_Md_tryTable_L51 V D0 l Γ rF wF v1 v2 v3 v4 S) (fun s o h hK => t_Md_tryTable_L51 hV hD0 hrc h hK) k q o h hP
def Md_tryTable_125_L39 (rc : Nat → Int32 → Int32 → Int32 → Sm → Option Sm) (v1 : Int32) (v2 : Int32) (v3 : Int32) (v4 : Int32) (S : Sm) : Option ((Int32 × Sm) ⊕ (Sm)) := (some (.inl (v4 + 1, S)))
set_option maxRecDepth 4000 in
theorem t_Md_tryTable_125_L39 {V : Sm → Wd} (hV : VwT V) {D0 : Nat} (hD0 : 0 ≤ D0) {rc : Nat → Int32 → Int32 → Int32 → Sm → Option Sm} (hrc : (∀ (u0 u1 u2 : Int32) (S q : Sm), rc 0 u0 u1 u2 S = some q → Runs D0 mX12_tryTable [.ref 53, .int u0, .int u1, .int u2] (V S) none (V q) 0 0)) {l : Launch} {Γ : Gm} {v1 : Int32} {v2 : Int32} {v3 : Int32} {v4 : Int32} {rF : Option Value} {wF : Wd} {S : Sm} {o : (Int32 × Sm) ⊕ (Sm)} (h : Md_tryTable_125_L39 rc v1 v2 v3 v4 S = some o) (hK : Sum.elim (hd_Md_tryTable_L39 V D0 l Γ rF wF v1 v2 v3) (ps_Md_tryTable_L39 V D0 l Γ rF wF v1 v2 v3) o) : G mX12_tryTable l Γ (rmD (D0 + 1) 0 0) (mQ Γ rF wF 0 0) 0 0 125 [some (.ref 53), some (.int v1), some (.int v2), some (.int v3), some (.int v4), none, none] [] (V S) := by
  unfold Md_tryTable_125_L39 at h
  refine g_iinc (v := v4 + 1) (ls1 := [some (.ref 53), some (.int v1), some (.int v2), some (.int v3), some (.int (v4 + 1)), none, none]) (pc := 125) dX12_tryTable_125 rfl rfl (by decide) rfl ?_
  refine g_goto (tgt := 39) (pc := 128) dX12_tryTable_128 (by decide) ?_
  cases h
  exact hK
def Md_tryTable_L39 (rc : Nat → Int32 → Int32 → Int32 → Sm → Option Sm) (v1 : Int32) (v2 : Int32) (v3 : Int32) (q : Int32 × Sm) : Option ((Int32 × Sm) ⊕ (Sm)) := (if (5 : Int32) ≤ q.1 then (some (.inr q.2)) else ((lpN (Md_tryTable_L51 rc v1 v2 v3 q.1 q.2) FU (1, 0)).bind fun q6 => (if q6 = 0 then (Md_tryTable_125_L39 rc v1 v2 v3 q.1 q.2) else (if inb v1 6 then ((rc 0 (v1 + 1) (v2 + q.1) ((10 * v3) + q.1) (si q.2 80 (ix v1) q.1)).bind fun q8 => (Md_tryTable_125_L39 rc v1 v2 v3 q.1 q8)) else none))))
set_option maxRecDepth 4000 in
theorem t_Md_tryTable_L39 {V : Sm → Wd} (hV : VwT V) {D0 : Nat} (hD0 : 0 ≤ D0) {rc : Nat → Int32 → Int32 → Int32 → Sm → Option Sm} (hrc : (∀ (u0 u1 u2 : Int32) (S q : Sm), rc 0 u0 u1 u2 S = some q → Runs D0 mX12_tryTable [.ref 53, .int u0, .int u1, .int u2] (V S) none (V q) 0 0)) {l : Launch} {Γ : Gm} {rF : Option Value} {wF : Wd} {v1 : Int32} {v2 : Int32} {v3 : Int32} {q : Int32 × Sm} {o : (Int32 × Sm) ⊕ (Sm)} (h : Md_tryTable_L39 rc v1 v2 v3 q = some o) (hK : Sum.elim (hd_Md_tryTable_L39 V D0 l Γ rF wF v1 v2 v3) (ps_Md_tryTable_L39 V D0 l Γ rF wF v1 v2 v3) o) : hd_Md_tryTable_L39 V D0 l Γ rF wF v1 v2 v3 q := by
  unfold Md_tryTable_L39 at h
  unfold hd_Md_tryTable_L39
  refine g_iload (pc := 39) dX12_tryTable_39 rfl ?_
  refine g_iconst (v := 5) (pc := 41) dX12_tryTable_41 (by decide) ?_
  refine g_icmp_ge (tgt := 131) (pc := 42) dX12_tryTable_42 (by decide) (fun c10 => ?_) (fun c10 => ?_)
  · rw [if_pos c10] at h
    refine g_wk [false, false, false, false, false, false, false] rfl ?_
    cases h
    exact hK
  · rw [if_neg c10] at h
    refine g_iconst (v := 1) (pc := 45) dX12_tryTable_45 (by decide) ?_
    refine g_istore (ls1 := [some (.ref 53), some (.int v1), some (.int v2), some (.int v3), some (.int q.1), some (.int 1), none]) (pc := 46) dX12_tryTable_46 (by decide) rfl ?_
    refine g_iconst (v := 0) (pc := 48) dX12_tryTable_48 (by decide) ?_
    refine g_istore (ls1 := [some (.ref 53), some (.int v1), some (.int v2), some (.int v3), some (.int q.1), some (.int 1), some (.int 0)]) (pc := 49) dX12_tryTable_49 (by decide) rfl ?_
    obtain ⟨q6, hqq6, h⟩ := bnd h
    refine w_Md_tryTable_L51 hV hD0 hrc hqq6 ?_
    unfold ps_Md_tryTable_L51
    show G _ _ _ _ _ _ _ _ _ _ _
    refine g_iload (pc := 94) dX12_tryTable_94 rfl ?_
    refine g_if_eq (tgt := 125) (pc := 96) dX12_tryTable_96 (by decide) (fun c9 => ?_) (fun c9 => ?_)
    · rw [if_pos c9] at h
      refine g_wk [true, true, true, true, true, false, false] rfl ?_
      exact t_Md_tryTable_125_L39 hV hD0 hrc h hK
    · rw [if_neg c9] at h
      refine g_aload_n (pc := 99) dX12_tryTable_99 rfl ?_
      refine v_getR hV (pc := 100) dX12_tryTable_100 fo_12_42 rfl k0_53 r0_53_42 ?_
      refine g_iload_n (pc := 103) dX12_tryTable_103 rfl ?_
      refine g_iload (pc := 104) dX12_tryTable_104 rfl ?_
      by_cases c7 : inb v1 6
      · rw [if_pos c7] at h
        refine v_iast hV (pc := 106) dX12_tryTable_106 k0_80 own_80 c7 ?_
        refine g_aload_n (pc := 107) dX12_tryTable_107 rfl ?_
        refine g_iload_n (pc := 108) dX12_tryTable_108 rfl ?_
        refine g_iconst (v := 1) (pc := 109) dX12_tryTable_109 (by decide) ?_
        refine g_iadd (pc := 110) dX12_tryTable_110 ?_
        refine g_iload_n (pc := 111) dX12_tryTable_111 rfl ?_
        refine g_iload (pc := 112) dX12_tryTable_112 rfl ?_
        refine g_iadd (pc := 114) dX12_tryTable_114 ?_
        refine g_bipush (v := 10) (pc := 115) dX12_tryTable_115 (by decide) ?_
        refine g_iload_n (pc := 117) dX12_tryTable_117 rfl ?_
        refine g_imul (pc := 118) dX12_tryTable_118 ?_
        refine g_iload (pc := 119) dX12_tryTable_119 rfl ?_
        refine g_iadd (pc := 121) dX12_tryTable_121 ?_
        obtain ⟨q8, hq8, h⟩ := bnd h
        refine v_callVv hV (Mc := mX12_tryTable) (S1 := q8) (As := [.int (v1 + 1), .int (v2 + q.1), .int ((10 * v3) + q.1)]) (rest := []) (q := (RX12, TX12, 58)) (pc := 122) dX12_tryTable_122 mK_X12_433 mf_X12_tryTable rfl k0_53 rfl rfl rfl (Nat.le_of_ble_eq_true rfl) ⟨by show D0 + 1 ≤ D0 + 1; omega, by show 8 + (7 + 11) + 64 * D0 ≤ 64 * (D0 + 1); omega⟩ (hrc _ _ _ _ _ hq8) ?_
        refine g_wk [true, true, true, true, true, false, false] rfl ?_
        exact t_Md_tryTable_125_L39 hV hD0 hrc h hK
      · rw [if_neg c7] at h; cases h
set_option maxRecDepth 4000 in
theorem w_Md_tryTable_L39 {V : Sm → Wd} (hV : VwT V) {D0 : Nat} (hD0 : 0 ≤ D0) {rc : Nat → Int32 → Int32 → Int32 → Sm → Option Sm} (hrc : (∀ (u0 u1 u2 : Int32) (S q : Sm), rc 0 u0 u1 u2 S = some q → Runs D0 mX12_tryTable [.ref 53, .int u0, .int u1, .int u2] (V S) none (V q) 0 0)) {l : Launch} {Γ : Gm} {rF : Option Value} {wF : Wd} {v1 : Int32} {v2 : Int32} {v3 : Int32} {k : Nat} {q : Int32 × Sm} {o : Sm} (h : lpN (Md_tryTable_L39 rc v1 v2 v3) k q = some o) (hP : ps_Md_tryTable_L39 V D0 l Γ rF wF v1 v2 v3 o) : hd_Md_tryTable_L39 V D0 l Γ rF wF v1 v2 v3 q := lpN_ind2 (hd_Md_tryTable_L39 V D0 l Γ rF wF v1 v2 v3) (ps_Md_tryTable_L39 V D0 l Γ rF wF v1 v2 v3) (fun s o h hK => t_Md_tryTable_L39 hV hD0 hrc h hK) k q o h hP
def Md_tryTable_17 (rc : Nat → Int32 → Int32 → Int32 → Sm → Option Sm) (v1 : Int32) (v2 : Int32) (v3 : Int32) (S : Sm) : Option (Sm) := (if v1 = (gi S 53 26) then (some (si (si S 53 43 v2) 53 44 v3)) else ((lpN (Md_tryTable_L39 rc v1 v2 v3) FU (0, S)).bind fun q11 => (some q11)))
set_option maxRecDepth 4000 in
theorem t_Md_tryTable_17 {V : Sm → Wd} (hV : VwT V) {D0 : Nat} (hD0 : 0 ≤ D0) {rc : Nat → Int32 → Int32 → Int32 → Sm → Option Sm} (hrc : (∀ (u0 u1 u2 : Int32) (S q : Sm), rc 0 u0 u1 u2 S = some q → Runs D0 mX12_tryTable [.ref 53, .int u0, .int u1, .int u2] (V S) none (V q) 0 0)) {l : Launch} {Γ : Gm} {v1 : Int32} {v2 : Int32} {v3 : Int32} {S : Sm} {q : Sm} (h : Md_tryTable_17 rc v1 v2 v3 S = some q) : G mX12_tryTable l Γ (rmD (D0 + 1) 0 0) (mQ Γ none (V q) 0 0) 0 0 17 [some (.ref 53), some (.int v1), some (.int v2), some (.int v3), none, none, none] [] (V S) := by
  unfold Md_tryTable_17 at h
  refine g_iload_n (pc := 17) dX12_tryTable_17 rfl ?_
  refine g_aload_n (pc := 18) dX12_tryTable_18 rfl ?_
  refine v_getI hV (pc := 19) dX12_tryTable_19 fo_12_26 rfl k0_53 own_53 ?_
  refine g_icmp_ne (tgt := 36) (pc := 22) dX12_tryTable_22 (by decide) (fun c12 => ?_) (fun c12 => ?_)
  · rw [if_neg c12] at h
    refine g_iconst (v := 0) (pc := 36) dX12_tryTable_36 (by decide) ?_
    refine g_istore (ls1 := [some (.ref 53), some (.int v1), some (.int v2), some (.int v3), some (.int 0), none, none]) (pc := 37) dX12_tryTable_37 (by decide) rfl ?_
    obtain ⟨q11, hqq11, h⟩ := bnd h
    refine w_Md_tryTable_L39 hV hD0 hrc hqq11 ?_
    unfold ps_Md_tryTable_L39
    show G _ _ _ _ _ _ _ _ _ _ _
    cases h
    exact g_vret (pc := 131) dX12_tryTable_131 rfl (Nat.le_refl _) (Nat.le_refl _)
  · rw [if_pos c12] at h
    refine g_aload_n (pc := 25) dX12_tryTable_25 rfl ?_
    refine g_iload_n (pc := 26) dX12_tryTable_26 rfl ?_
    refine v_putI hV (pc := 27) dX12_tryTable_27 fo_12_43 rfl k0_53 own_53 rfl ?_
    refine g_aload_n (pc := 30) dX12_tryTable_30 rfl ?_
    refine g_iload_n (pc := 31) dX12_tryTable_31 rfl ?_
    refine v_putI hV (pc := 32) dX12_tryTable_32 fo_12_44 rfl k0_53 own_53 rfl ?_
    cases h
    exact g_vret (pc := 35) dX12_tryTable_35 rfl (Nat.le_refl _) (Nat.le_refl _)
def Md_tryTable (rc : Nat → Int32 → Int32 → Int32 → Sm → Option Sm) (v1 : Int32) (v2 : Int32) (v3 : Int32) (S : Sm) : Option (Sm) := (if (gi S 53 43) = ((-1)) then (Md_tryTable_17 rc v1 v2 v3 S) else (if v2 < (gi S 53 43) then (Md_tryTable_17 rc v1 v2 v3 S) else (some S)))
set_option maxRecDepth 4000 in
theorem rb_Md_tryTable {V : Sm → Wd} (hV : VwT V) {D0 : Nat} (hD0 : 0 ≤ D0) {rc : Nat → Int32 → Int32 → Int32 → Sm → Option Sm} (hrc : (∀ (u0 u1 u2 : Int32) (S q : Sm), rc 0 u0 u1 u2 S = some q → Runs D0 mX12_tryTable [.ref 53, .int u0, .int u1, .int u2] (V S) none (V q) 0 0)) {v1 : Int32} {v2 : Int32} {v3 : Int32} {S : Sm} {q : Sm} (h : Md_tryTable rc v1 v2 v3 S = some q) : Runs (D0 + 1) mX12_tryTable [.ref 53, .int v1, .int v2, .int v3] (V S) none (V q) 0 0 := by
  unfold Md_tryTable at h
  refine Runs.of2 [some (.ref 53), some (.int v1), some (.int v2), some (.int v3), none, none, none] 3 rfl rfl (Nat.le_of_ble_eq_true rfl) (fun l Γ => ?_)
  refine g_aload_n (pc := 0) dX12_tryTable_0 rfl ?_
  refine v_getI hV (pc := 1) dX12_tryTable_1 fo_12_43 rfl k0_53 own_53 ?_
  refine g_iconst (v := (-1)) (pc := 4) dX12_tryTable_4 (by decide) ?_
  refine g_icmp_eq (tgt := 17) (pc := 5) dX12_tryTable_5 (by decide) (fun c14 => ?_) (fun c14 => ?_)
  · rw [if_pos c14] at h
    exact t_Md_tryTable_17 hV hD0 hrc h
  · rw [if_neg c14] at h
    refine g_iload_n (pc := 8) dX12_tryTable_8 rfl ?_
    refine g_aload_n (pc := 9) dX12_tryTable_9 rfl ?_
    refine v_getI hV (pc := 10) dX12_tryTable_10 fo_12_43 rfl k0_53 own_53 ?_
    refine g_icmp_lt (tgt := 17) (pc := 13) dX12_tryTable_13 (by decide) (fun c13 => ?_) (fun c13 => ?_)
    · rw [if_pos c13] at h
      exact t_Md_tryTable_17 hV hD0 hrc h
    · rw [if_neg c13] at h
      cases h
      exact g_vret (pc := 16) dX12_tryTable_16 rfl (Nat.le_refl _) (Nat.le_refl _)
def fTt : Nat → Nat → Int32 → Int32 → Int32 → Sm → Option Sm
  | 0, _, _, _, _, _ => none
  | D + 1, i, u0, u1, u2, S => Md_tryTable (fTt D) u0 u1 u2 S
set_option maxRecDepth 4000 in
theorem fTt_ok {V : Sm → Wd} (hV : VwT V) : ∀ D : Nat, (∀ (u0 u1 u2 : Int32) (S q : Sm), fTt D 0 u0 u1 u2 S = some q → Runs (0 + D) mX12_tryTable [.ref 53, .int u0, .int u1, .int u2] (V S) none (V q) 0 0)
  | 0 => fun _ _ _ _ _ h => by cases h
  | D + 1 => fun u0 u1 u2 S q h => rb_Md_tryTable hV (D0 := 0 + D) (by omega) (fTt_ok hV D) h
def Md_tryTable_r (u0 : Int32) (u1 : Int32) (u2 : Int32) (S : Sm) : Option Sm := fTt 10 0 u0 u1 u2 S
set_option maxRecDepth 4000 in
theorem r_Md_tryTable_r {V : Sm → Wd} (hV : VwT V) {u0 : Int32} {u1 : Int32} {u2 : Int32} {S q : Sm} (h : Md_tryTable_r u0 u1 u2 S = some q) : Runs 10 mX12_tryTable [.ref 53, .int u0, .int u1, .int u2] (V S) none (V q) 0 0 := (fTt_ok hV 10) _ _ _ _ _ h
def Md_timetable_18 (S : Sm) : Option (Int32 × Sm) := (some (((-1), S)))
set_option maxRecDepth 4000 in
theorem t_Md_timetable_18 {V : Sm → Wd} (hV : VwT V) {l : Launch} {Γ : Gm}  {S : Sm} {q : Int32 × Sm} (h : Md_timetable_18 S = some q) : G mX12_timetable l Γ (rmD 11 0 0) (mQ Γ (some (.int q.1)) (V q.2) 0 0) 0 0 18 [none, none] [] (V S) := by
  unfold Md_timetable_18 at h
  refine g_iconst (v := (-1)) (pc := 18) dX12_timetable_18 (by decide) ?_
  cases h
  exact g_iret (pc := 19) dX12_timetable_19 rfl rfl (Nat.le_refl _) (Nat.le_refl _)
def Md_timetable_63 (s0 : Int32) (S : Sm) : Option (Int32 × Sm) := (some ((s0, S)))
set_option maxRecDepth 4000 in
theorem t_Md_timetable_63 {V : Sm → Wd} (hV : VwT V) {l : Launch} {Γ : Gm} {s0 : Int32} {S : Sm} {q : Int32 × Sm} (h : Md_timetable_63 s0 S = some q) : G mX12_timetable l Γ (rmD 11 0 0) (mQ Γ (some (.int q.1)) (V q.2) 0 0) 0 0 63 [none, none] [.int s0] (V S) := by
  unfold Md_timetable_63 at h
  cases h
  exact g_iret (pc := 63) dX12_timetable_63 rfl rfl (Nat.le_refl _) (Nat.le_refl _)
def Md_timetable (v1 : Int32) (S : Sm) : Option (Int32 × Sm) := (if (gi S 68 0) = 0 then (Md_timetable_18 S) else (if (Md_in v1 0 1) = 0 then (Md_timetable_18 S) else ((Md_layOuts S).bind fun q1 => ((Md_tryTable_r 0 0 0 (si q1 53 43 ((-1)))).bind fun q2 => (if (gi q2 53 43) = ((-1)) then (Md_timetable_63 ((-1)) q2) else (if v1 = 0 then (Md_timetable_63 (gi q2 53 43) q2) else (Md_timetable_63 (gi q2 53 44) q2)))))))
set_option maxRecDepth 4000 in
theorem r_Md_timetable {V : Sm → Wd} (hV : VwT V) {v1 : Int32} {S : Sm} {q : Int32 × Sm} (h : Md_timetable v1 S = some q) : Runs 11 mX12_timetable [.ref 53, .int v1] (V S) (some (.int q.1)) (V q.2) 0 0 := by
  unfold Md_timetable at h
  refine Runs.of2 [some (.ref 53), some (.int v1)] 0 rfl rfl (Nat.le_of_ble_eq_true rfl) (fun l Γ => ?_)
  refine g_aload_n (pc := 0) dX12_timetable_0 rfl ?_
  refine v_getR hV (pc := 1) dX12_timetable_1 fo_12_24 rfl k0_53 r0_53_24 ?_
  refine g_iconst (v := 0) (pc := 4) dX12_timetable_4 (by decide) ?_
  refine v_ialdK hV (k := 0) (pc := 5) dX12_timetable_5 k0_68 own_68 (by decide) (by decide) ?_
  refine g_if_eq (tgt := 18) (pc := 6) dX12_timetable_6 (by decide) (fun c6 => ?_) (fun c6 => ?_)
  · rw [if_pos c6] at h
    refine g_wk [false, false] rfl ?_
    exact t_Md_timetable_18 hV h
  · rw [if_neg c6] at h
    refine g_iload_n (pc := 9) dX12_timetable_9 rfl ?_
    refine g_iconst (v := 0) (pc := 10) dX12_timetable_10 (by decide) ?_
    refine g_iconst (v := 1) (pc := 11) dX12_timetable_11 (by decide) ?_
    refine v_callSi (Mc := mX12_in) (v := Md_in v1 0 1) (S1 := S) (As := [.int v1, .int 0, .int 1]) (rest := []) (pc := 12) dX12_timetable_12 mK_X12_238 mf_X12_in rfl rfl (Nat.le_of_ble_eq_true rfl) ⟨Nat.le_of_ble_eq_true rfl, Nat.le_of_ble_eq_true rfl⟩ (r_Md_in hV rfl) ?_
    refine g_if_ne (tgt := 20) (pc := 15) dX12_timetable_15 (by decide) (fun c5 => ?_) (fun c5 => ?_)
    · rw [if_neg c5] at h
      refine g_aload_n (pc := 20) dX12_timetable_20 rfl ?_
      obtain ⟨q1, hq1, h⟩ := bnd h
      refine v_callVv hV (Mc := mX12_layOuts) (S1 := q1) (As := []) (rest := []) (q := (RX12, TX12, 58)) (pc := 21) dX12_timetable_21 mK_X12_436 mf_X12_layOuts rfl k0_53 rfl rfl rfl (Nat.le_of_ble_eq_true rfl) ⟨Nat.le_of_ble_eq_true rfl, Nat.le_of_ble_eq_true rfl⟩ (r_Md_layOuts hV hq1) ?_
      refine g_aload_n (pc := 24) dX12_timetable_24 rfl ?_
      refine g_iconst (v := (-1)) (pc := 25) dX12_timetable_25 (by decide) ?_
      refine v_putI hV (pc := 26) dX12_timetable_26 fo_12_43 rfl k0_53 own_53 rfl ?_
      refine g_aload_n (pc := 29) dX12_timetable_29 rfl ?_
      refine g_iconst (v := 0) (pc := 30) dX12_timetable_30 (by decide) ?_
      refine g_iconst (v := 0) (pc := 31) dX12_timetable_31 (by decide) ?_
      refine g_iconst (v := 0) (pc := 32) dX12_timetable_32 (by decide) ?_
      obtain ⟨q2, hq2, h⟩ := bnd h
      refine v_callVv hV (Mc := mX12_tryTable) (S1 := q2) (As := [.int 0, .int 0, .int 0]) (rest := []) (q := (RX12, TX12, 58)) (pc := 33) dX12_timetable_33 mK_X12_433 mf_X12_tryTable rfl k0_53 rfl rfl rfl (Nat.le_of_ble_eq_true rfl) ⟨Nat.le_of_ble_eq_true rfl, Nat.le_of_ble_eq_true rfl⟩ (r_Md_tryTable_r hV hq2) ?_
      refine g_aload_n (pc := 36) dX12_timetable_36 rfl ?_
      refine v_getI hV (pc := 37) dX12_timetable_37 fo_12_43 rfl k0_53 own_53 ?_
      refine g_iconst (v := (-1)) (pc := 40) dX12_timetable_40 (by decide) ?_
      refine g_icmp_ne (tgt := 48) (pc := 41) dX12_timetable_41 (by decide) (fun c4 => ?_) (fun c4 => ?_)
      · rw [if_neg c4] at h
        refine g_iload_n (pc := 48) dX12_timetable_48 rfl ?_
        refine g_if_ne (tgt := 59) (pc := 49) dX12_timetable_49 (by decide) (fun c3 => ?_) (fun c3 => ?_)
        · rw [if_neg c3] at h
          refine g_aload_n (pc := 59) dX12_timetable_59 rfl ?_
          refine v_getI hV (pc := 60) dX12_timetable_60 fo_12_44 rfl k0_53 own_53 ?_
          refine g_wk [false, false] rfl ?_
          exact t_Md_timetable_63 hV h
        · rw [if_pos c3] at h
          refine g_aload_n (pc := 52) dX12_timetable_52 rfl ?_
          refine v_getI hV (pc := 53) dX12_timetable_53 fo_12_43 rfl k0_53 own_53 ?_
          refine g_goto (tgt := 63) (pc := 56) dX12_timetable_56 (by decide) ?_
          refine g_wk [false, false] rfl ?_
          exact t_Md_timetable_63 hV h
      · rw [if_pos c4] at h
        refine g_iconst (v := (-1)) (pc := 44) dX12_timetable_44 (by decide) ?_
        refine g_goto (tgt := 63) (pc := 45) dX12_timetable_45 (by decide) ?_
        refine g_wk [false, false] rfl ?_
        exact t_Md_timetable_63 hV h
    · rw [if_pos c5] at h
      refine g_wk [false, false] rfl ?_
      exact t_Md_timetable_18 hV h
def hd_Md_clashes_L19 (V : Sm → Wd) (l : Launch) (Γ : Gm) (rF : Option Value) (wF : Wd) (S : Sm) (q : Int32 × Int32) : Prop := G mX12_clashes l Γ (rmD 3 0 0) (mQ Γ rF wF 0 0) 0 0 19 [some (.ref 53), some (.int q.1), some (.int q.2), none] [] (V S)
def ps_Md_clashes_L19 (V : Sm → Wd) (l : Launch) (Γ : Gm) (rF : Option Value) (wF : Wd) (S : Sm) (x : Int32) : Prop := (fun (a : Int32) => G mX12_clashes l Γ (rmD 3 0 0) (mQ Γ rF wF 0 0) 0 0 57 [none, some (.int a), none, none] [] (V S)) x
def hd_Md_clashes_L29 (V : Sm → Wd) (l : Launch) (Γ : Gm) (rF : Option Value) (wF : Wd) (v2 : Int32) (S : Sm) (q : Int32 × Int32) : Prop := G mX12_clashes l Γ (rmD 3 0 0) (mQ Γ rF wF 0 0) 0 0 29 [some (.ref 53), some (.int q.1), some (.int v2), some (.int q.2)] [] (V S)
def ps_Md_clashes_L29 (V : Sm → Wd) (l : Launch) (Γ : Gm) (rF : Option Value) (wF : Wd) (v2 : Int32) (S : Sm) (x : Int32) : Prop := (fun (a : Int32) => G mX12_clashes l Γ (rmD 3 0 0) (mQ Γ rF wF 0 0) 0 0 51 [some (.ref 53), some (.int a), some (.int v2), none] [] (V S)) x
def Md_clashes_L29 (v2 : Int32) (S : Sm) (q : Int32 × Int32) : Option ((Int32 × Int32) ⊕ (Int32)) := (if v2 ≤ q.2 then (some (.inr q.1)) else ((Md_clashesOf q.2 0 v2 0 S).bind fun q2 => (some (.inl (q.1 + q2, q.2 + 1)))))
set_option maxRecDepth 4000 in
theorem t_Md_clashes_L29 {V : Sm → Wd} (hV : VwT V) {l : Launch} {Γ : Gm} {rF : Option Value} {wF : Wd} {v2 : Int32} {S : Sm} {q : Int32 × Int32} {o : (Int32 × Int32) ⊕ (Int32)} (h : Md_clashes_L29 v2 S q = some o) (hK : Sum.elim (hd_Md_clashes_L29 V l Γ rF wF v2 S) (ps_Md_clashes_L29 V l Γ rF wF v2 S) o) : hd_Md_clashes_L29 V l Γ rF wF v2 S q := by
  unfold Md_clashes_L29 at h
  unfold hd_Md_clashes_L29
  refine g_iload_n (pc := 29) dX12_clashes_29 rfl ?_
  refine g_iload_n (pc := 30) dX12_clashes_30 rfl ?_
  refine g_icmp_ge (tgt := 51) (pc := 31) dX12_clashes_31 (by decide) (fun c3 => ?_) (fun c3 => ?_)
  · rw [if_pos c3] at h
    refine g_wk [true, true, true, false] rfl ?_
    cases h
    exact hK
  · rw [if_neg c3] at h
    refine g_iload_n (pc := 34) dX12_clashes_34 rfl ?_
    refine g_aload_n (pc := 35) dX12_clashes_35 rfl ?_
    refine g_iload_n (pc := 36) dX12_clashes_36 rfl ?_
    refine g_iconst (v := 0) (pc := 37) dX12_clashes_37 (by decide) ?_
    refine g_iload_n (pc := 38) dX12_clashes_38 rfl ?_
    refine g_iconst (v := 0) (pc := 39) dX12_clashes_39 (by decide) ?_
    obtain ⟨q2, hq2, h⟩ := bnd h
    refine v_callVi hV (Mc := mX12_clashesOf) (v := q2) (S1 := S) (As := [.int q.2, .int 0, .int v2, .int 0]) (rest := [.int q.1]) (q := (RX12, TX12, 58)) (pc := 40) dX12_clashes_40 mK_X12_429 mf_X12_clashesOf rfl k0_53 rfl rfl rfl (Nat.le_of_ble_eq_true rfl) ⟨Nat.le_of_ble_eq_true rfl, Nat.le_of_ble_eq_true rfl⟩ (r_Md_clashesOf hV hq2) ?_
    refine g_iadd (pc := 43) dX12_clashes_43 ?_
    refine g_istore_n (ls1 := [some (.ref 53), some (.int (q.1 + q2)), some (.int v2), some (.int q.2)]) (pc := 44) dX12_clashes_44 (by decide) rfl ?_
    refine g_iinc (v := q.2 + 1) (ls1 := [some (.ref 53), some (.int (q.1 + q2)), some (.int v2), some (.int (q.2 + 1))]) (pc := 45) dX12_clashes_45 rfl rfl (by decide) rfl ?_
    refine g_goto (tgt := 29) (pc := 48) dX12_clashes_48 (by decide) ?_
    cases h
    exact hK
set_option maxRecDepth 4000 in
theorem w_Md_clashes_L29 {V : Sm → Wd} (hV : VwT V) {l : Launch} {Γ : Gm} {rF : Option Value} {wF : Wd} {v2 : Int32} {S : Sm} {k : Nat} {q : Int32 × Int32} {o : Int32} (h : lpN (Md_clashes_L29 v2 S) k q = some o) (hP : ps_Md_clashes_L29 V l Γ rF wF v2 S o) : hd_Md_clashes_L29 V l Γ rF wF v2 S q := lpN_ind2 (hd_Md_clashes_L29 V l Γ rF wF v2 S) (ps_Md_clashes_L29 V l Γ rF wF v2 S) (fun s o h hK => t_Md_clashes_L29 hV h hK) k q o h hP
def Md_clashes_L19 (S : Sm) (q : Int32 × Int32) : Option ((Int32 × Int32) ⊕ (Int32)) := (if (gi S 53 26) ≤ q.2 then (some (.inr q.1)) else ((lpN (Md_clashes_L29 q.2 S) FU (q.1, 0)).bind fun q4 => (some (.inl (q4, q.2 + 1)))))
set_option maxRecDepth 4000 in
theorem t_Md_clashes_L19 {V : Sm → Wd} (hV : VwT V) {l : Launch} {Γ : Gm} {rF : Option Value} {wF : Wd} {S : Sm} {q : Int32 × Int32} {o : (Int32 × Int32) ⊕ (Int32)} (h : Md_clashes_L19 S q = some o) (hK : Sum.elim (hd_Md_clashes_L19 V l Γ rF wF S) (ps_Md_clashes_L19 V l Γ rF wF S) o) : hd_Md_clashes_L19 V l Γ rF wF S q := by
  unfold Md_clashes_L19 at h
  unfold hd_Md_clashes_L19
  refine g_iload_n (pc := 19) dX12_clashes_19 rfl ?_
  refine g_aload_n (pc := 20) dX12_clashes_20 rfl ?_
  refine v_getI hV (pc := 21) dX12_clashes_21 fo_12_26 rfl k0_53 own_53 ?_
  refine g_icmp_ge (tgt := 57) (pc := 24) dX12_clashes_24 (by decide) (fun c5 => ?_) (fun c5 => ?_)
  · rw [if_pos c5] at h
    refine g_wk [false, true, false, false] rfl ?_
    cases h
    exact hK
  · rw [if_neg c5] at h
    refine g_iconst (v := 0) (pc := 27) dX12_clashes_27 (by decide) ?_
    refine g_istore_n (ls1 := [some (.ref 53), some (.int q.1), some (.int q.2), some (.int 0)]) (pc := 28) dX12_clashes_28 (by decide) rfl ?_
    obtain ⟨q4, hqq4, h⟩ := bnd h
    refine w_Md_clashes_L29 hV hqq4 ?_
    unfold ps_Md_clashes_L29
    show G _ _ _ _ _ _ _ _ _ _ _
    refine g_iinc (v := q.2 + 1) (ls1 := [some (.ref 53), some (.int q4), some (.int (q.2 + 1)), none]) (pc := 51) dX12_clashes_51 rfl rfl (by decide) rfl ?_
    refine g_goto (tgt := 19) (pc := 54) dX12_clashes_54 (by decide) ?_
    cases h
    exact hK
set_option maxRecDepth 4000 in
theorem w_Md_clashes_L19 {V : Sm → Wd} (hV : VwT V) {l : Launch} {Γ : Gm} {rF : Option Value} {wF : Wd} {S : Sm} {k : Nat} {q : Int32 × Int32} {o : Int32} (h : lpN (Md_clashes_L19 S) k q = some o) (hP : ps_Md_clashes_L19 V l Γ rF wF S o) : hd_Md_clashes_L19 V l Γ rF wF S q := lpN_ind2 (hd_Md_clashes_L19 V l Γ rF wF S) (ps_Md_clashes_L19 V l Γ rF wF S) (fun s o h hK => t_Md_clashes_L19 hV h hK) k q o h hP
def Md_clashes (S : Sm) : Option (Int32 × Sm) := (if (gi S 68 0) = 0 then (some (((-1), S))) else ((Md_layOuts S).bind fun q1 => ((lpN (Md_clashes_L19 q1) FU (0, 0)).bind fun q6 => (some ((q6, q1))))))
set_option maxRecDepth 4000 in
theorem r_Md_clashes {V : Sm → Wd} (hV : VwT V)  {S : Sm} {q : Int32 × Sm} (h : Md_clashes S = some q) : Runs 3 mX12_clashes [.ref 53] (V S) (some (.int q.1)) (V q.2) 0 0 := by
  unfold Md_clashes at h
  refine Runs.of2 [some (.ref 53), none, none, none] 3 rfl rfl (Nat.le_of_ble_eq_true rfl) (fun l Γ => ?_)
  refine g_aload_n (pc := 0) dX12_clashes_0 rfl ?_
  refine v_getR hV (pc := 1) dX12_clashes_1 fo_12_24 rfl k0_53 r0_53_24 ?_
  refine g_iconst (v := 0) (pc := 4) dX12_clashes_4 (by decide) ?_
  refine v_ialdK hV (k := 0) (pc := 5) dX12_clashes_5 k0_68 own_68 (by decide) (by decide) ?_
  refine g_if_ne (tgt := 11) (pc := 6) dX12_clashes_6 (by decide) (fun c7 => ?_) (fun c7 => ?_)
  · rw [if_neg c7] at h
    refine g_aload_n (pc := 11) dX12_clashes_11 rfl ?_
    obtain ⟨q1, hq1, h⟩ := bnd h
    refine v_callVv hV (Mc := mX12_layOuts) (S1 := q1) (As := []) (rest := []) (q := (RX12, TX12, 58)) (pc := 12) dX12_clashes_12 mK_X12_436 mf_X12_layOuts rfl k0_53 rfl rfl rfl (Nat.le_of_ble_eq_true rfl) ⟨Nat.le_of_ble_eq_true rfl, Nat.le_of_ble_eq_true rfl⟩ (r_Md_layOuts hV hq1) ?_
    refine g_iconst (v := 0) (pc := 15) dX12_clashes_15 (by decide) ?_
    refine g_istore_n (ls1 := [some (.ref 53), some (.int 0), none, none]) (pc := 16) dX12_clashes_16 (by decide) rfl ?_
    refine g_iconst (v := 0) (pc := 17) dX12_clashes_17 (by decide) ?_
    refine g_istore_n (ls1 := [some (.ref 53), some (.int 0), some (.int 0), none]) (pc := 18) dX12_clashes_18 (by decide) rfl ?_
    obtain ⟨q6, hqq6, h⟩ := bnd h
    refine w_Md_clashes_L19 hV hqq6 ?_
    unfold ps_Md_clashes_L19
    show G _ _ _ _ _ _ _ _ _ _ _
    refine g_iload_n (pc := 57) dX12_clashes_57 rfl ?_
    cases h
    exact g_iret (pc := 58) dX12_clashes_58 rfl rfl (Nat.le_refl _) (Nat.le_refl _)
  · rw [if_pos c7] at h
    refine g_iconst (v := (-1)) (pc := 9) dX12_clashes_9 (by decide) ?_
    cases h
    exact g_iret (pc := 10) dX12_clashes_10 rfl rfl (Nat.le_refl _) (Nat.le_refl _)
def Md_lay_36 (S : Sm) : Option (Int32 × Sm) := (some (((-1), S)))
set_option maxRecDepth 4000 in
theorem t_Md_lay_36 {V : Sm → Wd} (hV : VwT V) {l : Launch} {Γ : Gm}  {S : Sm} {q : Int32 × Sm} (h : Md_lay_36 S = some q) : G mX12_lay l Γ (rmD 3 0 0) (mQ Γ (some (.int q.1)) (V q.2) 0 0) 0 0 36 [none, none, none, none, none] [] (V S) := by
  unfold Md_lay_36 at h
  refine g_iconst (v := (-1)) (pc := 36) dX12_lay_36 (by decide) ?_
  cases h
  exact g_iret (pc := 37) dX12_lay_37 rfl rfl (Nat.le_refl _) (Nat.le_refl _)
def Md_lay (v1 : Int32) (v2 : Int32) (v3 : Int32) (v4 : Int32) (S : Sm) : Option (Int32 × Sm) := (if (Md_areMouths v1 v4 S) = 0 then (Md_lay_36 S) else (if (Md_isColour v2 S) = 0 then (Md_lay_36 S) else (if (Md_in v3 1 4) = 0 then (Md_lay_36 S) else (if (gi S 53 49) = 10 then (Md_lay_36 S) else (if inb (gi S 53 49) 10 then (if inb (gi (si S 81 (ix (gi S 53 49)) v1) 53 49) 10 then (if inb (gi (si (si S 81 (ix (gi S 53 49)) v1) 82 (ix (gi (si S 81 (ix (gi S 53 49)) v1) 53 49)) v2) 53 49) 10 then (if inb (gi (si (si (si S 81 (ix (gi S 53 49)) v1) 82 (ix (gi (si S 81 (ix (gi S 53 49)) v1) 53 49)) v2) 83 (ix (gi (si (si S 81 (ix (gi S 53 49)) v1) 82 (ix (gi (si S 81 (ix (gi S 53 49)) v1) 53 49)) v2) 53 49)) v3) 53 49) 10 then (some ((gi (si (si (si (si (si S 81 (ix (gi S 53 49)) v1) 82 (ix (gi (si S 81 (ix (gi S 53 49)) v1) 53 49)) v2) 83 (ix (gi (si (si S 81 (ix (gi S 53 49)) v1) 82 (ix (gi (si S 81 (ix (gi S 53 49)) v1) 53 49)) v2) 53 49)) v3) 84 (ix (gi (si (si (si S 81 (ix (gi S 53 49)) v1) 82 (ix (gi (si S 81 (ix (gi S 53 49)) v1) 53 49)) v2) 83 (ix (gi (si (si S 81 (ix (gi S 53 49)) v1) 82 (ix (gi (si S 81 (ix (gi S 53 49)) v1) 53 49)) v2) 53 49)) v3) 53 49)) v4) 53 49 ((gi (si (si (si (si S 81 (ix (gi S 53 49)) v1) 82 (ix (gi (si S 81 (ix (gi S 53 49)) v1) 53 49)) v2) 83 (ix (gi (si (si S 81 (ix (gi S 53 49)) v1) 82 (ix (gi (si S 81 (ix (gi S 53 49)) v1) 53 49)) v2) 53 49)) v3) 84 (ix (gi (si (si (si S 81 (ix (gi S 53 49)) v1) 82 (ix (gi (si S 81 (ix (gi S 53 49)) v1) 53 49)) v2) 83 (ix (gi (si (si S 81 (ix (gi S 53 49)) v1) 82 (ix (gi (si S 81 (ix (gi S 53 49)) v1) 53 49)) v2) 53 49)) v3) 53 49)) v4) 53 49) + 1)) 53 49, si (si (si (si (si S 81 (ix (gi S 53 49)) v1) 82 (ix (gi (si S 81 (ix (gi S 53 49)) v1) 53 49)) v2) 83 (ix (gi (si (si S 81 (ix (gi S 53 49)) v1) 82 (ix (gi (si S 81 (ix (gi S 53 49)) v1) 53 49)) v2) 53 49)) v3) 84 (ix (gi (si (si (si S 81 (ix (gi S 53 49)) v1) 82 (ix (gi (si S 81 (ix (gi S 53 49)) v1) 53 49)) v2) 83 (ix (gi (si (si S 81 (ix (gi S 53 49)) v1) 82 (ix (gi (si S 81 (ix (gi S 53 49)) v1) 53 49)) v2) 53 49)) v3) 53 49)) v4) 53 49 ((gi (si (si (si (si S 81 (ix (gi S 53 49)) v1) 82 (ix (gi (si S 81 (ix (gi S 53 49)) v1) 53 49)) v2) 83 (ix (gi (si (si S 81 (ix (gi S 53 49)) v1) 82 (ix (gi (si S 81 (ix (gi S 53 49)) v1) 53 49)) v2) 53 49)) v3) 84 (ix (gi (si (si (si S 81 (ix (gi S 53 49)) v1) 82 (ix (gi (si S 81 (ix (gi S 53 49)) v1) 53 49)) v2) 83 (ix (gi (si (si S 81 (ix (gi S 53 49)) v1) 82 (ix (gi (si S 81 (ix (gi S 53 49)) v1) 53 49)) v2) 53 49)) v3) 53 49)) v4) 53 49) + 1)))) else none) else none) else none) else none)))))
set_option maxRecDepth 4000 in
theorem r_Md_lay {V : Sm → Wd} (hV : VwT V) {v1 : Int32} {v2 : Int32} {v3 : Int32} {v4 : Int32} {S : Sm} {q : Int32 × Sm} (h : Md_lay v1 v2 v3 v4 S = some q) : Runs 3 mX12_lay [.ref 53, .int v1, .int v2, .int v3, .int v4] (V S) (some (.int q.1)) (V q.2) 0 0 := by
  unfold Md_lay at h
  refine Runs.of2 [some (.ref 53), some (.int v1), some (.int v2), some (.int v3), some (.int v4)] 0 rfl rfl (Nat.le_of_ble_eq_true rfl) (fun l Γ => ?_)
  refine g_aload_n (pc := 0) dX12_lay_0 rfl ?_
  refine g_iload_n (pc := 1) dX12_lay_1 rfl ?_
  refine g_iload (pc := 2) dX12_lay_2 rfl ?_
  refine v_callVi hV (Mc := mX12_areMouths) (v := Md_areMouths v1 v4 S) (S1 := S) (As := [.int v1, .int v4]) (rest := []) (q := (RX12, TX12, 58)) (pc := 4) dX12_lay_4 mK_X12_392 mf_X12_areMouths rfl k0_53 rfl rfl rfl (Nat.le_of_ble_eq_true rfl) ⟨Nat.le_of_ble_eq_true rfl, Nat.le_of_ble_eq_true rfl⟩ (r_Md_areMouths hV rfl) ?_
  refine g_if_eq (tgt := 36) (pc := 7) dX12_lay_7 (by decide) (fun c8 => ?_) (fun c8 => ?_)
  · rw [if_pos c8] at h
    refine g_wk [false, false, false, false, false] rfl ?_
    exact t_Md_lay_36 hV h
  · rw [if_neg c8] at h
    refine g_aload_n (pc := 10) dX12_lay_10 rfl ?_
    refine g_iload_n (pc := 11) dX12_lay_11 rfl ?_
    refine v_callVi hV (Mc := mX12_isColour) (v := Md_isColour v2 S) (S1 := S) (As := [.int v2]) (rest := []) (q := (RX12, TX12, 58)) (pc := 12) dX12_lay_12 mK_X12_317 mf_X12_isColour rfl k0_53 rfl rfl rfl (Nat.le_of_ble_eq_true rfl) ⟨Nat.le_of_ble_eq_true rfl, Nat.le_of_ble_eq_true rfl⟩ (r_Md_isColour hV rfl) ?_
    refine g_if_eq (tgt := 36) (pc := 15) dX12_lay_15 (by decide) (fun c7 => ?_) (fun c7 => ?_)
    · rw [if_pos c7] at h
      refine g_wk [false, false, false, false, false] rfl ?_
      exact t_Md_lay_36 hV h
    · rw [if_neg c7] at h
      refine g_iload_n (pc := 18) dX12_lay_18 rfl ?_
      refine g_iconst (v := 1) (pc := 19) dX12_lay_19 (by decide) ?_
      refine g_iconst (v := 4) (pc := 20) dX12_lay_20 (by decide) ?_
      refine v_callSi (Mc := mX12_in) (v := Md_in v3 1 4) (S1 := S) (As := [.int v3, .int 1, .int 4]) (rest := []) (pc := 21) dX12_lay_21 mK_X12_238 mf_X12_in rfl rfl (Nat.le_of_ble_eq_true rfl) ⟨Nat.le_of_ble_eq_true rfl, Nat.le_of_ble_eq_true rfl⟩ (r_Md_in hV rfl) ?_
      refine g_if_eq (tgt := 36) (pc := 24) dX12_lay_24 (by decide) (fun c6 => ?_) (fun c6 => ?_)
      · rw [if_pos c6] at h
        refine g_wk [false, false, false, false, false] rfl ?_
        exact t_Md_lay_36 hV h
      · rw [if_neg c6] at h
        refine g_aload_n (pc := 27) dX12_lay_27 rfl ?_
        refine v_getI hV (pc := 28) dX12_lay_28 fo_12_49 rfl k0_53 own_53 ?_
        refine g_bipush (v := 10) (pc := 31) dX12_lay_31 (by decide) ?_
        refine g_icmp_ne (tgt := 38) (pc := 33) dX12_lay_33 (by decide) (fun c5 => ?_) (fun c5 => ?_)
        · rw [if_neg c5] at h
          refine g_aload_n (pc := 38) dX12_lay_38 rfl ?_
          refine v_getR hV (pc := 39) dX12_lay_39 fo_12_45 rfl k0_53 r0_53_45 ?_
          refine g_aload_n (pc := 42) dX12_lay_42 rfl ?_
          refine v_getI hV (pc := 43) dX12_lay_43 fo_12_49 rfl k0_53 own_53 ?_
          refine g_iload_n (pc := 46) dX12_lay_46 rfl ?_
          by_cases c1 : inb (gi S 53 49) 10
          · rw [if_pos c1] at h
            refine v_iast hV (pc := 47) dX12_lay_47 k0_81 own_81 c1 ?_
            refine g_aload_n (pc := 48) dX12_lay_48 rfl ?_
            refine v_getR hV (pc := 49) dX12_lay_49 fo_12_46 rfl k0_53 r0_53_46 ?_
            refine g_aload_n (pc := 52) dX12_lay_52 rfl ?_
            refine v_getI hV (pc := 53) dX12_lay_53 fo_12_49 rfl k0_53 own_53 ?_
            refine g_iload_n (pc := 56) dX12_lay_56 rfl ?_
            by_cases c2 : inb (gi (si S 81 (ix (gi S 53 49)) v1) 53 49) 10
            · rw [if_pos c2] at h
              refine v_iast hV (pc := 57) dX12_lay_57 k0_82 own_82 c2 ?_
              refine g_aload_n (pc := 58) dX12_lay_58 rfl ?_
              refine v_getR hV (pc := 59) dX12_lay_59 fo_12_47 rfl k0_53 r0_53_47 ?_
              refine g_aload_n (pc := 62) dX12_lay_62 rfl ?_
              refine v_getI hV (pc := 63) dX12_lay_63 fo_12_49 rfl k0_53 own_53 ?_
              refine g_iload_n (pc := 66) dX12_lay_66 rfl ?_
              by_cases c3 : inb (gi (si (si S 81 (ix (gi S 53 49)) v1) 82 (ix (gi (si S 81 (ix (gi S 53 49)) v1) 53 49)) v2) 53 49) 10
              · rw [if_pos c3] at h
                refine v_iast hV (pc := 67) dX12_lay_67 k0_83 own_83 c3 ?_
                refine g_aload_n (pc := 68) dX12_lay_68 rfl ?_
                refine v_getR hV (pc := 69) dX12_lay_69 fo_12_48 rfl k0_53 r0_53_48 ?_
                refine g_aload_n (pc := 72) dX12_lay_72 rfl ?_
                refine v_getI hV (pc := 73) dX12_lay_73 fo_12_49 rfl k0_53 own_53 ?_
                refine g_iload (pc := 76) dX12_lay_76 rfl ?_
                by_cases c4 : inb (gi (si (si (si S 81 (ix (gi S 53 49)) v1) 82 (ix (gi (si S 81 (ix (gi S 53 49)) v1) 53 49)) v2) 83 (ix (gi (si (si S 81 (ix (gi S 53 49)) v1) 82 (ix (gi (si S 81 (ix (gi S 53 49)) v1) 53 49)) v2) 53 49)) v3) 53 49) 10
                · rw [if_pos c4] at h
                  refine v_iast hV (pc := 78) dX12_lay_78 k0_84 own_84 c4 ?_
                  refine g_aload_n (pc := 79) dX12_lay_79 rfl ?_
                  refine g_dup (pc := 80) dX12_lay_80 rfl ?_
                  refine v_getI hV (pc := 81) dX12_lay_81 fo_12_49 rfl k0_53 own_53 ?_
                  refine g_iconst (v := 1) (pc := 84) dX12_lay_84 (by decide) ?_
                  refine g_iadd (pc := 85) dX12_lay_85 ?_
                  refine v_putI hV (pc := 86) dX12_lay_86 fo_12_49 rfl k0_53 own_53 rfl ?_
                  refine g_aload_n (pc := 89) dX12_lay_89 rfl ?_
                  refine v_getI hV (pc := 90) dX12_lay_90 fo_12_49 rfl k0_53 own_53 ?_
                  cases h
                  exact g_iret (pc := 93) dX12_lay_93 rfl rfl (Nat.le_refl _) (Nat.le_refl _)
                · rw [if_neg c4] at h; cases h
              · rw [if_neg c3] at h; cases h
            · rw [if_neg c2] at h; cases h
          · rw [if_neg c1] at h; cases h
        · rw [if_pos c5] at h
          refine g_wk [false, false, false, false, false] rfl ?_
          exact t_Md_lay_36 hV h
def hd_Md_unknownAt_L4 (V : Sm → Wd) (l : Launch) (Γ : Gm) (rF : Option Value) (wF : Wd) (v1 : Int32) (S : Sm) (q : Int32 × Int32) : Prop := G mX12_unknownAt l Γ (rmD 0 0 0) (mQ Γ rF wF 0 0) 0 0 4 [some (.ref 53), some (.int v1), some (.int q.1), some (.int q.2), none] [] (V S)
def ps_Md_unknownAt_L4 (V : Sm → Wd) (l : Launch) (Γ : Gm) (rF : Option Value) (wF : Wd) (v1 : Int32) (S : Sm) (x : (Int32) ⊕ (Unit)) : Prop := (Sum.elim (fun (a : Int32) => G mX12_unknownAt l Γ (rmD 0 0 0) (mQ Γ rF wF 0 0) 0 0 48 [none, none, none, none, some (.int a)] [] (V S)) (fun (a : Unit) => G mX12_unknownAt l Γ (rmD 0 0 0) (mQ Γ rF wF 0 0) 0 0 60 [none, none, none, none, none] [] (V S))) x
def Md_unknownAt_54_L4 (v1 : Int32) (v2 : Int32) (v3 : Int32) (S : Sm) : Option ((Int32 × Int32) ⊕ ((Int32) ⊕ (Unit))) := (some (.inl (v2, v3 + 1)))
set_option maxRecDepth 4000 in
theorem t_Md_unknownAt_54_L4 {V : Sm → Wd} (hV : VwT V) {l : Launch} {Γ : Gm} {v1 : Int32} {v2 : Int32} {v3 : Int32} {rF : Option Value} {wF : Wd} {S : Sm} {o : (Int32 × Int32) ⊕ ((Int32) ⊕ (Unit))} (h : Md_unknownAt_54_L4 v1 v2 v3 S = some o) (hK : Sum.elim (hd_Md_unknownAt_L4 V l Γ rF wF v1 S) (ps_Md_unknownAt_L4 V l Γ rF wF v1 S) o) : G mX12_unknownAt l Γ (rmD 0 0 0) (mQ Γ rF wF 0 0) 0 0 54 [some (.ref 53), some (.int v1), some (.int v2), some (.int v3), none] [] (V S) := by
  unfold Md_unknownAt_54_L4 at h
  refine g_iinc (v := v3 + 1) (ls1 := [some (.ref 53), some (.int v1), some (.int v2), some (.int (v3 + 1)), none]) (pc := 54) dX12_unknownAt_54 rfl rfl (by decide) rfl ?_
  refine g_goto (tgt := 4) (pc := 57) dX12_unknownAt_57 (by decide) ?_
  cases h
  exact hK
def Md_unknownAt_L4 (v1 : Int32) (S : Sm) (q : Int32 × Int32) : Option ((Int32 × Int32) ⊕ ((Int32) ⊕ (Unit))) := (if (gi S 53 30) ≤ q.2 then (some (.inr (.inr ()))) else (if inb q.2 4 then (if inb q.2 4 then (if inb ((0 + (5 * (gi S 71 (ix q.2)))) + (gi S 72 (ix q.2))) 320 then (if (gi S 70 (ix ((0 + (5 * (gi S 71 (ix q.2)))) + (gi S 72 (ix q.2))))) = ((-2)) then (if q.1 = v1 then (some (.inr (.inl ((0 + (5 * (gi S 71 (ix q.2)))) + (gi S 72 (ix q.2)))))) else (Md_unknownAt_54_L4 v1 (q.1 + 1) q.2 S)) else (Md_unknownAt_54_L4 v1 q.1 q.2 S)) else none) else none) else none))
set_option maxRecDepth 4000 in
theorem t_Md_unknownAt_L4 {V : Sm → Wd} (hV : VwT V) {l : Launch} {Γ : Gm} {rF : Option Value} {wF : Wd} {v1 : Int32} {S : Sm} {q : Int32 × Int32} {o : (Int32 × Int32) ⊕ ((Int32) ⊕ (Unit))} (h : Md_unknownAt_L4 v1 S q = some o) (hK : Sum.elim (hd_Md_unknownAt_L4 V l Γ rF wF v1 S) (ps_Md_unknownAt_L4 V l Γ rF wF v1 S) o) : hd_Md_unknownAt_L4 V l Γ rF wF v1 S q := by
  unfold Md_unknownAt_L4 at h
  unfold hd_Md_unknownAt_L4
  refine g_iload_n (pc := 4) dX12_unknownAt_4 rfl ?_
  refine g_aload_n (pc := 5) dX12_unknownAt_5 rfl ?_
  refine v_getI hV (pc := 6) dX12_unknownAt_6 fo_12_30 rfl k0_53 own_53 ?_
  refine g_icmp_ge (tgt := 60) (pc := 9) dX12_unknownAt_9 (by decide) (fun c6 => ?_) (fun c6 => ?_)
  · rw [if_pos c6] at h
    refine g_wk [false, false, false, false, false] rfl ?_
    cases h
    exact hK
  · rw [if_neg c6] at h
    refine g_iconst (v := 0) (pc := 12) dX12_unknownAt_12 (by decide) ?_
    refine g_iconst (v := 5) (pc := 13) dX12_unknownAt_13 (by decide) ?_
    refine g_aload_n (pc := 14) dX12_unknownAt_14 rfl ?_
    refine v_getR hV (pc := 15) dX12_unknownAt_15 fo_12_28 rfl k0_53 r0_53_28 ?_
    refine g_iload_n (pc := 18) dX12_unknownAt_18 rfl ?_
    by_cases c1 : inb q.2 4
    · rw [if_pos c1] at h
      refine v_iald hV (pc := 19) dX12_unknownAt_19 k0_71 own_71 c1 ?_
      refine g_imul (pc := 20) dX12_unknownAt_20 ?_
      refine g_iadd (pc := 21) dX12_unknownAt_21 ?_
      refine g_aload_n (pc := 22) dX12_unknownAt_22 rfl ?_
      refine v_getR hV (pc := 23) dX12_unknownAt_23 fo_12_29 rfl k0_53 r0_53_29 ?_
      refine g_iload_n (pc := 26) dX12_unknownAt_26 rfl ?_
      by_cases c2 : inb q.2 4
      · rw [if_pos c2] at h
        refine v_iald hV (pc := 27) dX12_unknownAt_27 k0_72 own_72 c2 ?_
        refine g_iadd (pc := 28) dX12_unknownAt_28 ?_
        refine g_istore (ls1 := [some (.ref 53), some (.int v1), some (.int q.1), some (.int q.2), some (.int ((0 + (5 * (gi S 71 (ix q.2)))) + (gi S 72 (ix q.2))))]) (pc := 29) dX12_unknownAt_29 (by decide) rfl ?_
        refine g_aload_n (pc := 31) dX12_unknownAt_31 rfl ?_
        refine v_getR hV (pc := 32) dX12_unknownAt_32 fo_12_27 rfl k0_53 r0_53_27 ?_
        refine g_iload (pc := 35) dX12_unknownAt_35 rfl ?_
        by_cases c3 : inb ((0 + (5 * (gi S 71 (ix q.2)))) + (gi S 72 (ix q.2))) 320
        · rw [if_pos c3] at h
          refine v_iald hV (pc := 37) dX12_unknownAt_37 k0_70 own_70 c3 ?_
          refine g_bipush (v := (-2)) (pc := 38) dX12_unknownAt_38 (by decide) ?_
          refine g_icmp_ne (tgt := 54) (pc := 40) dX12_unknownAt_40 (by decide) (fun c5 => ?_) (fun c5 => ?_)
          · rw [if_neg c5] at h
            refine g_wk [true, true, true, true, false] rfl ?_
            exact t_Md_unknownAt_54_L4 hV h hK
          · rw [if_pos c5] at h
            refine g_iload_n (pc := 43) dX12_unknownAt_43 rfl ?_
            refine g_iload_n (pc := 44) dX12_unknownAt_44 rfl ?_
            refine g_icmp_ne (tgt := 51) (pc := 45) dX12_unknownAt_45 (by decide) (fun c4 => ?_) (fun c4 => ?_)
            · rw [if_neg c4] at h
              refine g_iinc (v := q.1 + 1) (ls1 := [some (.ref 53), some (.int v1), some (.int (q.1 + 1)), some (.int q.2), some (.int ((0 + (5 * (gi S 71 (ix q.2)))) + (gi S 72 (ix q.2))))]) (pc := 51) dX12_unknownAt_51 rfl rfl (by decide) rfl ?_
              refine g_wk [true, true, true, true, false] rfl ?_
              exact t_Md_unknownAt_54_L4 hV h hK
            · rw [if_pos c4] at h
              refine g_wk [false, false, false, false, true] rfl ?_
              cases h
              exact hK
        · rw [if_neg c3] at h; cases h
      · rw [if_neg c2] at h; cases h
    · rw [if_neg c1] at h; cases h
set_option maxRecDepth 4000 in
theorem w_Md_unknownAt_L4 {V : Sm → Wd} (hV : VwT V) {l : Launch} {Γ : Gm} {rF : Option Value} {wF : Wd} {v1 : Int32} {S : Sm} {k : Nat} {q : Int32 × Int32} {o : (Int32) ⊕ (Unit)} (h : lpN (Md_unknownAt_L4 v1 S) k q = some o) (hP : ps_Md_unknownAt_L4 V l Γ rF wF v1 S o) : hd_Md_unknownAt_L4 V l Γ rF wF v1 S q := lpN_ind2 (hd_Md_unknownAt_L4 V l Γ rF wF v1 S) (ps_Md_unknownAt_L4 V l Γ rF wF v1 S) (fun s o h hK => t_Md_unknownAt_L4 hV h hK) k q o h hP
def Md_unknownAt (v1 : Int32) (S : Sm) : Option (Int32) := ((lpN (Md_unknownAt_L4 v1 S) FU (0, 0)).bind fun q7 => (Sum.elim (fun a8 => (some a8)) (fun a9 => (some ((-1)))) q7))
set_option maxRecDepth 4000 in
theorem r_Md_unknownAt {V : Sm → Wd} (hV : VwT V) {v1 : Int32} {S : Sm} {q : Int32} (h : Md_unknownAt v1 S = some q) : Runs 0 mX12_unknownAt [.ref 53, .int v1] (V S) (some (.int q)) (V S) 0 0 := by
  unfold Md_unknownAt at h
  refine Runs.of2 [some (.ref 53), some (.int v1), none, none, none] 3 rfl rfl (Nat.le_of_ble_eq_true rfl) (fun l Γ => ?_)
  refine g_iconst (v := 0) (pc := 0) dX12_unknownAt_0 (by decide) ?_
  refine g_istore_n (ls1 := [some (.ref 53), some (.int v1), some (.int 0), none, none]) (pc := 1) dX12_unknownAt_1 (by decide) rfl ?_
  refine g_iconst (v := 0) (pc := 2) dX12_unknownAt_2 (by decide) ?_
  refine g_istore_n (ls1 := [some (.ref 53), some (.int v1), some (.int 0), some (.int 0), none]) (pc := 3) dX12_unknownAt_3 (by decide) rfl ?_
  obtain ⟨q7, hqq7, h⟩ := bnd h
  refine w_Md_unknownAt_L4 hV hqq7 ?_
  unfold ps_Md_unknownAt_L4
  cases q7 with
  | inl a8 =>
    simp only [Sum.elim_inl] at h
    show G _ _ _ _ _ _ _ _ _ _ _
    refine g_iload (pc := 48) dX12_unknownAt_48 rfl ?_
    cases h
    exact g_iret (pc := 50) dX12_unknownAt_50 rfl rfl (Nat.le_refl _) (Nat.le_refl _)
  | inr a9 =>
    simp only [Sum.elim_inr] at h
    show G _ _ _ _ _ _ _ _ _ _ _
    refine g_iconst (v := (-1)) (pc := 60) dX12_unknownAt_60 (by decide) ?_
    cases h
    exact g_iret (pc := 61) dX12_unknownAt_61 rfl rfl (Nat.le_refl _) (Nat.le_refl _)
def hd_Md_unknownNow_L2 (V : Sm → Wd) (l : Launch) (Γ : Gm) (rF : Option Value) (wF : Wd) (S : Sm) (q : Int32) : Prop := G mX12_unknownNow l Γ (rmD 1 0 0) (mQ Γ rF wF 0 0) 0 0 2 [some (.ref 53), some (.int q)] [] (V S)
def ps_Md_unknownNow_L2 (V : Sm → Wd) (l : Launch) (Γ : Gm) (rF : Option Value) (wF : Wd) (S : Sm) (x : Int32) : Prop := (fun (a : Int32) => G mX12_unknownNow l Γ (rmD 1 0 0) (mQ Γ rF wF 0 0) 0 0 17 [none, some (.int a)] [] (V S)) x
def Md_unknownNow_L2 (S : Sm) (q : Int32) : Option ((Int32) ⊕ (Int32)) := ((Md_unknownAt q S).bind fun q1 => (if q1 = ((-1)) then (some (.inr q)) else (some (.inl (q + 1)))))
set_option maxRecDepth 4000 in
theorem t_Md_unknownNow_L2 {V : Sm → Wd} (hV : VwT V) {l : Launch} {Γ : Gm} {rF : Option Value} {wF : Wd} {S : Sm} {q : Int32} {o : (Int32) ⊕ (Int32)} (h : Md_unknownNow_L2 S q = some o) (hK : Sum.elim (hd_Md_unknownNow_L2 V l Γ rF wF S) (ps_Md_unknownNow_L2 V l Γ rF wF S) o) : hd_Md_unknownNow_L2 V l Γ rF wF S q := by
  unfold Md_unknownNow_L2 at h
  unfold hd_Md_unknownNow_L2
  refine g_aload_n (pc := 2) dX12_unknownNow_2 rfl ?_
  refine g_iload_n (pc := 3) dX12_unknownNow_3 rfl ?_
  obtain ⟨q1, hq1, h⟩ := bnd h
  refine v_callVi hV (Mc := mX12_unknownAt) (v := q1) (S1 := S) (As := [.int q]) (rest := []) (q := (RX12, TX12, 58)) (pc := 4) dX12_unknownNow_4 mK_X12_439 mf_X12_unknownAt rfl k0_53 rfl rfl rfl (Nat.le_of_ble_eq_true rfl) ⟨Nat.le_of_ble_eq_true rfl, Nat.le_of_ble_eq_true rfl⟩ (r_Md_unknownAt hV hq1) ?_
  refine g_iconst (v := (-1)) (pc := 7) dX12_unknownNow_7 (by decide) ?_
  refine g_icmp_eq (tgt := 17) (pc := 8) dX12_unknownNow_8 (by decide) (fun c2 => ?_) (fun c2 => ?_)
  · rw [if_pos c2] at h
    refine g_wk [false, true] rfl ?_
    cases h
    exact hK
  · rw [if_neg c2] at h
    refine g_iinc (v := q + 1) (ls1 := [some (.ref 53), some (.int (q + 1))]) (pc := 11) dX12_unknownNow_11 rfl rfl (by decide) rfl ?_
    refine g_goto (tgt := 2) (pc := 14) dX12_unknownNow_14 (by decide) ?_
    cases h
    exact hK
set_option maxRecDepth 4000 in
theorem w_Md_unknownNow_L2 {V : Sm → Wd} (hV : VwT V) {l : Launch} {Γ : Gm} {rF : Option Value} {wF : Wd} {S : Sm} {k : Nat} {q : Int32} {o : Int32} (h : lpN (Md_unknownNow_L2 S) k q = some o) (hP : ps_Md_unknownNow_L2 V l Γ rF wF S o) : hd_Md_unknownNow_L2 V l Γ rF wF S q := lpN_ind2 (hd_Md_unknownNow_L2 V l Γ rF wF S) (ps_Md_unknownNow_L2 V l Γ rF wF S) (fun s o h hK => t_Md_unknownNow_L2 hV h hK) k q o h hP
def Md_unknownNow (S : Sm) : Option (Int32) := ((lpN (Md_unknownNow_L2 S) FU 0).bind fun q3 => (some q3))
set_option maxRecDepth 4000 in
theorem r_Md_unknownNow {V : Sm → Wd} (hV : VwT V)  {S : Sm} {q : Int32} (h : Md_unknownNow S = some q) : Runs 1 mX12_unknownNow [.ref 53] (V S) (some (.int q)) (V S) 0 0 := by
  unfold Md_unknownNow at h
  refine Runs.of2 [some (.ref 53), none] 1 rfl rfl (Nat.le_of_ble_eq_true rfl) (fun l Γ => ?_)
  refine g_iconst (v := 0) (pc := 0) dX12_unknownNow_0 (by decide) ?_
  refine g_istore_n (ls1 := [some (.ref 53), some (.int 0)]) (pc := 1) dX12_unknownNow_1 (by decide) rfl ?_
  obtain ⟨q3, hqq3, h⟩ := bnd h
  refine w_Md_unknownNow_L2 hV hqq3 ?_
  unfold ps_Md_unknownNow_L2
  show G _ _ _ _ _ _ _ _ _ _ _
  refine g_iload_n (pc := 17) dX12_unknownNow_17 rfl ?_
  cases h
  exact g_iret (pc := 18) dX12_unknownNow_18 rfl rfl (Nat.le_refl _) (Nat.le_refl _)
def hd_Md_ten_L4 (V : Sm → Wd) (l : Launch) (Γ : Gm) (rF : Option Value) (wF : Wd) (v0 : Int32) (S : Sm) (q : Int32 × Int32) : Prop := G mX12_ten l Γ (rmD 0 0 0) (mQ Γ rF wF 0 0) 0 0 4 [some (.int v0), some (.int q.1), some (.int q.2)] [] (V S)
def ps_Md_ten_L4 (V : Sm → Wd) (l : Launch) (Γ : Gm) (rF : Option Value) (wF : Wd) (v0 : Int32) (S : Sm) (x : Int32) : Prop := (fun (a : Int32) => G mX12_ten l Γ (rmD 0 0 0) (mQ Γ rF wF 0 0) 0 0 20 [none, some (.int a), none] [] (V S)) x
def Md_ten_L4 (v0 : Int32) (q : Int32 × Int32) : Option ((Int32 × Int32) ⊕ (Int32)) := (if v0 ≤ q.2 then (some (.inr q.1)) else (some (.inl (q.1 * 10, q.2 + 1))))
set_option maxRecDepth 4000 in
theorem t_Md_ten_L4 {V : Sm → Wd} (hV : VwT V) {l : Launch} {Γ : Gm} {rF : Option Value} {wF : Wd} {v0 : Int32} {S : Sm} {q : Int32 × Int32} {o : (Int32 × Int32) ⊕ (Int32)} (h : Md_ten_L4 v0 q = some o) (hK : Sum.elim (hd_Md_ten_L4 V l Γ rF wF v0 S) (ps_Md_ten_L4 V l Γ rF wF v0 S) o) : hd_Md_ten_L4 V l Γ rF wF v0 S q := by
  unfold Md_ten_L4 at h
  unfold hd_Md_ten_L4
  refine g_iload_n (pc := 4) dX12_ten_4 rfl ?_
  refine g_iload_n (pc := 5) dX12_ten_5 rfl ?_
  refine g_icmp_ge (tgt := 20) (pc := 6) dX12_ten_6 (by decide) (fun c1 => ?_) (fun c1 => ?_)
  · rw [if_pos c1] at h
    refine g_wk [false, true, false] rfl ?_
    cases h
    exact hK
  · rw [if_neg c1] at h
    refine g_iload_n (pc := 9) dX12_ten_9 rfl ?_
    refine g_bipush (v := 10) (pc := 10) dX12_ten_10 (by decide) ?_
    refine g_imul (pc := 12) dX12_ten_12 ?_
    refine g_istore_n (ls1 := [some (.int v0), some (.int (q.1 * 10)), some (.int q.2)]) (pc := 13) dX12_ten_13 (by decide) rfl ?_
    refine g_iinc (v := q.2 + 1) (ls1 := [some (.int v0), some (.int (q.1 * 10)), some (.int (q.2 + 1))]) (pc := 14) dX12_ten_14 rfl rfl (by decide) rfl ?_
    refine g_goto (tgt := 4) (pc := 17) dX12_ten_17 (by decide) ?_
    cases h
    exact hK
set_option maxRecDepth 4000 in
theorem w_Md_ten_L4 {V : Sm → Wd} (hV : VwT V) {l : Launch} {Γ : Gm} {rF : Option Value} {wF : Wd} {v0 : Int32} {S : Sm} {k : Nat} {q : Int32 × Int32} {o : Int32} (h : lpN (Md_ten_L4 v0) k q = some o) (hP : ps_Md_ten_L4 V l Γ rF wF v0 S o) : hd_Md_ten_L4 V l Γ rF wF v0 S q := lpN_ind2 (hd_Md_ten_L4 V l Γ rF wF v0 S) (ps_Md_ten_L4 V l Γ rF wF v0 S) (fun s o h hK => t_Md_ten_L4 hV h hK) k q o h hP
def Md_ten (v0 : Int32) : Option (Int32) := ((lpN (Md_ten_L4 v0) FU (1, 0)).bind fun q2 => (some q2))
set_option maxRecDepth 4000 in
theorem r_Md_ten {V : Sm → Wd} (hV : VwT V) {v0 : Int32} {S : Sm} {q : Int32} (h : Md_ten v0 = some q) : Runs 0 mX12_ten [.int v0] (V S) (some (.int q)) (V S) 0 0 := by
  unfold Md_ten at h
  refine Runs.of2 [some (.int v0), none, none] 2 rfl rfl (Nat.le_of_ble_eq_true rfl) (fun l Γ => ?_)
  refine g_iconst (v := 1) (pc := 0) dX12_ten_0 (by decide) ?_
  refine g_istore_n (ls1 := [some (.int v0), some (.int 1), none]) (pc := 1) dX12_ten_1 (by decide) rfl ?_
  refine g_iconst (v := 0) (pc := 2) dX12_ten_2 (by decide) ?_
  refine g_istore_n (ls1 := [some (.int v0), some (.int 1), some (.int 0)]) (pc := 3) dX12_ten_3 (by decide) rfl ?_
  obtain ⟨q2, hqq2, h⟩ := bnd h
  refine w_Md_ten_L4 hV hqq2 ?_
  unfold ps_Md_ten_L4
  show G _ _ _ _ _ _ _ _ _ _ _
  refine g_iload_n (pc := 20) dX12_ten_20 rfl ?_
  cases h
  exact g_iret (pc := 21) dX12_ten_21 rfl rfl (Nat.le_refl _) (Nat.le_refl _)
def hd_Md_areLaidSo_L2 (V : Sm → Wd) (l : Launch) (Γ : Gm) (rF : Option Value) (wF : Wd) (S : Sm) (q : Int32) : Prop := G mX12_areLaidSo l Γ (rmD 2 0 0) (mQ Γ rF wF 0 0) 0 0 2 [some (.ref 53), some (.int q)] [] (V S)
def ps_Md_areLaidSo_L2 (V : Sm → Wd) (l : Launch) (Γ : Gm) (rF : Option Value) (wF : Wd) (S : Sm) (x : (Unit) ⊕ (Unit)) : Prop := (Sum.elim (fun (a : Unit) => G mX12_areLaidSo l Γ (rmD 2 0 0) (mQ Γ rF wF 0 0) 0 0 41 [none, none] [] (V S)) (fun (a : Unit) => G mX12_areLaidSo l Γ (rmD 2 0 0) (mQ Γ rF wF 0 0) 0 0 49 [none, none] [] (V S))) x
def Md_areLaidSo_L2 (S : Sm) (q : Int32) : Option ((Int32) ⊕ ((Unit) ⊕ (Unit))) := (if (gi S 53 49) ≤ q then (some (.inr (.inr ()))) else (if inb q 10 then (if inb q 10 then (if inb q 10 then ((Md_through (gi S 81 (ix q)) (gi S 82 (ix q)) (gi S 83 (ix q)) S).bind fun q4 => (if inb q 10 then (if q4 = (gi S 84 (ix q)) then (some (.inl (q + 1))) else (some (.inr (.inl ())))) else none)) else none) else none) else none))
set_option maxRecDepth 4000 in
theorem t_Md_areLaidSo_L2 {V : Sm → Wd} (hV : VwT V) {l : Launch} {Γ : Gm} {rF : Option Value} {wF : Wd} {S : Sm} {q : Int32} {o : (Int32) ⊕ ((Unit) ⊕ (Unit))} (h : Md_areLaidSo_L2 S q = some o) (hK : Sum.elim (hd_Md_areLaidSo_L2 V l Γ rF wF S) (ps_Md_areLaidSo_L2 V l Γ rF wF S) o) : hd_Md_areLaidSo_L2 V l Γ rF wF S q := by
  unfold Md_areLaidSo_L2 at h
  unfold hd_Md_areLaidSo_L2
  refine g_iload_n (pc := 2) dX12_areLaidSo_2 rfl ?_
  refine g_aload_n (pc := 3) dX12_areLaidSo_3 rfl ?_
  refine v_getI hV (pc := 4) dX12_areLaidSo_4 fo_12_49 rfl k0_53 own_53 ?_
  refine g_icmp_ge (tgt := 49) (pc := 7) dX12_areLaidSo_7 (by decide) (fun c7 => ?_) (fun c7 => ?_)
  · rw [if_pos c7] at h
    refine g_wk [false, false] rfl ?_
    cases h
    exact hK
  · rw [if_neg c7] at h
    refine g_aload_n (pc := 10) dX12_areLaidSo_10 rfl ?_
    refine g_aload_n (pc := 11) dX12_areLaidSo_11 rfl ?_
    refine v_getR hV (pc := 12) dX12_areLaidSo_12 fo_12_45 rfl k0_53 r0_53_45 ?_
    refine g_iload_n (pc := 15) dX12_areLaidSo_15 rfl ?_
    by_cases c1 : inb q 10
    · rw [if_pos c1] at h
      refine v_iald hV (pc := 16) dX12_areLaidSo_16 k0_81 own_81 c1 ?_
      refine g_aload_n (pc := 17) dX12_areLaidSo_17 rfl ?_
      refine v_getR hV (pc := 18) dX12_areLaidSo_18 fo_12_46 rfl k0_53 r0_53_46 ?_
      refine g_iload_n (pc := 21) dX12_areLaidSo_21 rfl ?_
      by_cases c2 : inb q 10
      · rw [if_pos c2] at h
        refine v_iald hV (pc := 22) dX12_areLaidSo_22 k0_82 own_82 c2 ?_
        refine g_aload_n (pc := 23) dX12_areLaidSo_23 rfl ?_
        refine v_getR hV (pc := 24) dX12_areLaidSo_24 fo_12_47 rfl k0_53 r0_53_47 ?_
        refine g_iload_n (pc := 27) dX12_areLaidSo_27 rfl ?_
        by_cases c3 : inb q 10
        · rw [if_pos c3] at h
          refine v_iald hV (pc := 28) dX12_areLaidSo_28 k0_83 own_83 c3 ?_
          obtain ⟨q4, hq4, h⟩ := bnd h
          refine v_callVi hV (Mc := mX12_through) (v := q4) (S1 := S) (As := [.int (gi S 81 (ix q)), .int (gi S 82 (ix q)), .int (gi S 83 (ix q))]) (rest := []) (q := (RX12, TX12, 58)) (pc := 29) dX12_areLaidSo_29 mK_X12_382 mf_X12_through rfl k0_53 rfl rfl rfl (Nat.le_of_ble_eq_true rfl) ⟨Nat.le_of_ble_eq_true rfl, Nat.le_of_ble_eq_true rfl⟩ (r_Md_through hV hq4) ?_
          refine g_aload_n (pc := 32) dX12_areLaidSo_32 rfl ?_
          refine v_getR hV (pc := 33) dX12_areLaidSo_33 fo_12_48 rfl k0_53 r0_53_48 ?_
          refine g_iload_n (pc := 36) dX12_areLaidSo_36 rfl ?_
          by_cases c5 : inb q 10
          · rw [if_pos c5] at h
            refine v_iald hV (pc := 37) dX12_areLaidSo_37 k0_84 own_84 c5 ?_
            refine g_icmp_eq (tgt := 43) (pc := 38) dX12_areLaidSo_38 (by decide) (fun c6 => ?_) (fun c6 => ?_)
            · rw [if_pos c6] at h
              refine g_iinc (v := q + 1) (ls1 := [some (.ref 53), some (.int (q + 1))]) (pc := 43) dX12_areLaidSo_43 rfl rfl (by decide) rfl ?_
              refine g_goto (tgt := 2) (pc := 46) dX12_areLaidSo_46 (by decide) ?_
              cases h
              exact hK
            · rw [if_neg c6] at h
              refine g_wk [false, false] rfl ?_
              cases h
              exact hK
          · rw [if_neg c5] at h; cases h
        · rw [if_neg c3] at h; cases h
      · rw [if_neg c2] at h; cases h
    · rw [if_neg c1] at h; cases h
set_option maxRecDepth 4000 in
theorem w_Md_areLaidSo_L2 {V : Sm → Wd} (hV : VwT V) {l : Launch} {Γ : Gm} {rF : Option Value} {wF : Wd} {S : Sm} {k : Nat} {q : Int32} {o : (Unit) ⊕ (Unit)} (h : lpN (Md_areLaidSo_L2 S) k q = some o) (hP : ps_Md_areLaidSo_L2 V l Γ rF wF S o) : hd_Md_areLaidSo_L2 V l Γ rF wF S q := lpN_ind2 (hd_Md_areLaidSo_L2 V l Γ rF wF S) (ps_Md_areLaidSo_L2 V l Γ rF wF S) (fun s o h hK => t_Md_areLaidSo_L2 hV h hK) k q o h hP
def Md_areLaidSo (S : Sm) : Option (Int32) := ((lpN (Md_areLaidSo_L2 S) FU 0).bind fun q8 => (Sum.elim (fun a9 => (some 0)) (fun a10 => (some 1)) q8))
set_option maxRecDepth 4000 in
theorem r_Md_areLaidSo {V : Sm → Wd} (hV : VwT V)  {S : Sm} {q : Int32} (h : Md_areLaidSo S = some q) : Runs 2 mX12_areLaidSo [.ref 53] (V S) (some (.int q)) (V S) 0 0 := by
  unfold Md_areLaidSo at h
  refine Runs.of2 [some (.ref 53), none] 1 rfl rfl (Nat.le_of_ble_eq_true rfl) (fun l Γ => ?_)
  refine g_iconst (v := 0) (pc := 0) dX12_areLaidSo_0 (by decide) ?_
  refine g_istore_n (ls1 := [some (.ref 53), some (.int 0)]) (pc := 1) dX12_areLaidSo_1 (by decide) rfl ?_
  obtain ⟨q8, hqq8, h⟩ := bnd h
  refine w_Md_areLaidSo_L2 hV hqq8 ?_
  unfold ps_Md_areLaidSo_L2
  cases q8 with
  | inl a9 =>
    simp only [Sum.elim_inl] at h
    show G _ _ _ _ _ _ _ _ _ _ _
    refine g_iconst (v := 0) (pc := 41) dX12_areLaidSo_41 (by decide) ?_
    cases h
    exact g_iret (u := 0) (pc := 42) dX12_areLaidSo_42 rfl (by decide) (Nat.le_refl _) (Nat.le_refl _)
  | inr a10 =>
    simp only [Sum.elim_inr] at h
    show G _ _ _ _ _ _ _ _ _ _ _
    refine g_iconst (v := 1) (pc := 49) dX12_areLaidSo_49 (by decide) ?_
    cases h
    exact g_iret (u := 1) (pc := 50) dX12_areLaidSo_50 rfl (by decide) (Nat.le_refl _) (Nat.le_refl _)
def hd_Md_tryNets_L91 (V : Sm → Wd) (D0 : Nat) (l : Launch) (Γ : Gm) (rF : Option Value) (wF : Wd) (v1 : Int32) (v2 : Int32) (v3 : Int32) (v4 : Int32) (q : Int32 × Sm) : Prop := G mX12_tryNets l Γ (rmD (D0 + 1) 0 0) (mQ Γ rF wF 0 0) 0 0 91 [some (.ref 53), some (.int v1), some (.int v2), some (.int v3), some (.int v4), some (.int q.1)] [] (V q.2)
def ps_Md_tryNets_L91 (V : Sm → Wd) (D0 : Nat) (l : Launch) (Γ : Gm) (rF : Option Value) (wF : Wd) (v1 : Int32) (v2 : Int32) (v3 : Int32) (v4 : Int32) (x : Sm) : Prop := (fun (a : Sm) => G mX12_tryNets l Γ (rmD (D0 + 1) 0 0) (mQ Γ rF wF 0 0) 0 0 138 [some (.ref 53), some (.int v1), none, none, none, none] [] (V a)) x
def Md_tryNets_L91 (rc : Nat → Int32 → Int32 → Int32 → Int32 → Sm → Option Sm) (v1 : Int32) (v2 : Int32) (v3 : Int32) (v4 : Int32) (q : Int32 × Sm) : Option ((Int32 × Sm) ⊕ (Sm)) := (if (gi q.2 68 0) ≤ q.1 then (some (.inr q.2)) else (if inb v1 4 then (if inb (gi q.2 85 (ix v1)) 320 then ((rc 0 (v1 + 1) v2 ((10 * v3) + q.1) v4 (si q.2 70 (ix (gi q.2 85 (ix v1))) q.1)).bind fun q3 => (some (.inl (q.1 + 1, q3)))) else none) else none))
set_option maxRecDepth 4000 in
theorem t_Md_tryNets_L91 {V : Sm → Wd} (hV : VwT V) {D0 : Nat} (hD0 : 2 ≤ D0) {rc : Nat → Int32 → Int32 → Int32 → Int32 → Sm → Option Sm} (hrc : (∀ (u0 u1 u2 u3 : Int32) (S q : Sm), rc 0 u0 u1 u2 u3 S = some q → Runs D0 mX12_tryNets [.ref 53, .int u0, .int u1, .int u2, .int u3] (V S) none (V q) 0 0)) {l : Launch} {Γ : Gm} {rF : Option Value} {wF : Wd} {v1 : Int32} {v2 : Int32} {v3 : Int32} {v4 : Int32} {q : Int32 × Sm} {o : (Int32 × Sm) ⊕ (Sm)} (h : Md_tryNets_L91 rc v1 v2 v3 v4 q = some o) (hK : Sum.elim (hd_Md_tryNets_L91 V D0 l Γ rF wF v1 v2 v3 v4) (ps_Md_tryNets_L91 V D0 l Γ rF wF v1 v2 v3 v4) o) : hd_Md_tryNets_L91 V D0 l Γ rF wF v1 v2 v3 v4 q := by
  unfold Md_tryNets_L91 at h
  unfold hd_Md_tryNets_L91
  refine g_iload (pc := 91) dX12_tryNets_91 rfl ?_
  refine g_aload_n (pc := 93) dX12_tryNets_93 rfl ?_
  refine v_getR hV (pc := 94) dX12_tryNets_94 fo_12_24 rfl k0_53 r0_53_24 ?_
  refine g_iconst (v := 0) (pc := 97) dX12_tryNets_97 (by decide) ?_
  refine v_ialdK hV (k := 0) (pc := 98) dX12_tryNets_98 k0_68 own_68 (by decide) (by decide) ?_
  refine g_icmp_ge (tgt := 138) (pc := 99) dX12_tryNets_99 (by decide) (fun c4 => ?_) (fun c4 => ?_)
  · rw [if_pos c4] at h
    refine g_wk [true, true, false, false, false, false] rfl ?_
    cases h
    exact hK
  · rw [if_neg c4] at h
    refine g_aload_n (pc := 102) dX12_tryNets_102 rfl ?_
    refine v_getR hV (pc := 103) dX12_tryNets_103 fo_12_27 rfl k0_53 r0_53_27 ?_
    refine g_aload_n (pc := 106) dX12_tryNets_106 rfl ?_
    refine v_getR hV (pc := 107) dX12_tryNets_107 fo_12_50 rfl k0_53 r0_53_50 ?_
    refine g_iload_n (pc := 110) dX12_tryNets_110 rfl ?_
    by_cases c1 : inb v1 4
    · rw [if_pos c1] at h
      refine v_iald hV (pc := 111) dX12_tryNets_111 k0_85 own_85 c1 ?_
      refine g_iload (pc := 112) dX12_tryNets_112 rfl ?_
      by_cases c2 : inb (gi q.2 85 (ix v1)) 320
      · rw [if_pos c2] at h
        refine v_iast hV (pc := 114) dX12_tryNets_114 k0_70 own_70 c2 ?_
        refine g_aload_n (pc := 115) dX12_tryNets_115 rfl ?_
        refine g_iload_n (pc := 116) dX12_tryNets_116 rfl ?_
        refine g_iconst (v := 1) (pc := 117) dX12_tryNets_117 (by decide) ?_
        refine g_iadd (pc := 118) dX12_tryNets_118 ?_
        refine g_iload_n (pc := 119) dX12_tryNets_119 rfl ?_
        refine g_bipush (v := 10) (pc := 120) dX12_tryNets_120 (by decide) ?_
        refine g_iload_n (pc := 122) dX12_tryNets_122 rfl ?_
        refine g_imul (pc := 123) dX12_tryNets_123 ?_
        refine g_iload (pc := 124) dX12_tryNets_124 rfl ?_
        refine g_iadd (pc := 126) dX12_tryNets_126 ?_
        refine g_iload (pc := 127) dX12_tryNets_127 rfl ?_
        obtain ⟨q3, hq3, h⟩ := bnd h
        refine v_callVv hV (Mc := mX12_tryNets) (S1 := q3) (As := [.int (v1 + 1), .int v2, .int ((10 * v3) + q.1), .int v4]) (rest := []) (q := (RX12, TX12, 58)) (pc := 129) dX12_tryNets_129 mK_X12_454 mf_X12_tryNets rfl k0_53 rfl rfl rfl (Nat.le_of_ble_eq_true rfl) ⟨by show D0 + 1 ≤ D0 + 1; omega, by show 8 + (6 + 11) + 64 * D0 ≤ 64 * (D0 + 1); omega⟩ (hrc _ _ _ _ _ _ hq3) ?_
        refine g_iinc (v := q.1 + 1) (ls1 := [some (.ref 53), some (.int v1), some (.int v2), some (.int v3), some (.int v4), some (.int (q.1 + 1))]) (pc := 132) dX12_tryNets_132 rfl rfl (by decide) rfl ?_
        refine g_goto (tgt := 91) (pc := 135) dX12_tryNets_135 (by decide) ?_
        cases h
        exact hK
      · rw [if_neg c2] at h; cases h
    · rw [if_neg c1] at h; cases h
set_option maxRecDepth 4000 in
theorem w_Md_tryNets_L91 {V : Sm → Wd} (hV : VwT V) {D0 : Nat} (hD0 : 2 ≤ D0) {rc : Nat → Int32 → Int32 → Int32 → Int32 → Sm → Option Sm} (hrc : (∀ (u0 u1 u2 u3 : Int32) (S q : Sm), rc 0 u0 u1 u2 u3 S = some q → Runs D0 mX12_tryNets [.ref 53, .int u0, .int u1, .int u2, .int u3] (V S) none (V q) 0 0)) {l : Launch} {Γ : Gm} {rF : Option Value} {wF : Wd} {v1 : Int32} {v2 : Int32} {v3 : Int32} {v4 : Int32} {k : Nat} {q : Int32 × Sm} {o : Sm} (h : lpN (Md_tryNets_L91 rc v1 v2 v3 v4) k q = some o) (hP : ps_Md_tryNets_L91 V D0 l Γ rF wF v1 v2 v3 v4 o) : hd_Md_tryNets_L91 V D0 l Γ rF wF v1 v2 v3 v4 q := lpN_ind2 (hd_Md_tryNets_L91 V D0 l Γ rF wF v1 v2 v3 v4) (ps_Md_tryNets_L91 V D0 l Γ rF wF v1 v2 v3 v4) (fun s o h hK => t_Md_tryNets_L91 hV hD0 hrc h hK) k q o h hP
def Md_tryNets_87 (rc : Nat → Int32 → Int32 → Int32 → Int32 → Sm → Option Sm) (S : Sm) : Option (Sm) := (some S)
set_option maxRecDepth 4000 in
theorem t_Md_tryNets_87 {V : Sm → Wd} (hV : VwT V) {D0 : Nat} (hD0 : 2 ≤ D0) {rc : Nat → Int32 → Int32 → Int32 → Int32 → Sm → Option Sm} (hrc : (∀ (u0 u1 u2 u3 : Int32) (S q : Sm), rc 0 u0 u1 u2 u3 S = some q → Runs D0 mX12_tryNets [.ref 53, .int u0, .int u1, .int u2, .int u3] (V S) none (V q) 0 0)) {l : Launch} {Γ : Gm}  {S : Sm} {q : Sm} (h : Md_tryNets_87 rc S = some q) : G mX12_tryNets l Γ (rmD (D0 + 1) 0 0) (mQ Γ none (V q) 0 0) 0 0 87 [none, none, none, none, none, none] [] (V S) := by
  unfold Md_tryNets_87 at h
  cases h
  exact g_vret (pc := 87) dX12_tryNets_87 rfl (Nat.le_refl _) (Nat.le_refl _)
def hd_Md_tryNets_L46 (V : Sm → Wd) (D0 : Nat) (l : Launch) (Γ : Gm) (rF : Option Value) (wF : Wd) (v2 : Int32) (v3 : Int32) (q : Int32 × Sm) : Prop := G mX12_tryNets l Γ (rmD (D0 + 1) 0 0) (mQ Γ rF wF 0 0) 0 0 46 [some (.ref 53), none, some (.int v2), some (.int v3), none, some (.int q.1)] [] (V q.2)
def ps_Md_tryNets_L46 (V : Sm → Wd) (D0 : Nat) (l : Launch) (Γ : Gm) (rF : Option Value) (wF : Wd) (v2 : Int32) (v3 : Int32) (x : Sm) : Prop := (fun (a : Sm) => G mX12_tryNets l Γ (rmD (D0 + 1) 0 0) (mQ Γ rF wF 0 0) 0 0 87 [none, none, none, none, none, none] [] (V a)) x
def Md_tryNets_L46 (rc : Nat → Int32 → Int32 → Int32 → Int32 → Sm → Option Sm) (v2 : Int32) (v3 : Int32) (q : Int32 × Sm) : Option ((Int32 × Sm) ⊕ (Sm)) := (if v2 ≤ q.1 then (some (.inr q.2)) else ((Md_ten ((v2 - 1) - q.1)).bind fun q9 => (if q9 = (0 : Int32) then none else (if inb ((8 * q.1) + (iRem (v3 / q9) 10)) 32 then (if inb ((8 * q.1) + (iRem (v3 / q9) 10)) 32 then (some (.inl (q.1 + 1, si q.2 86 (ix ((8 * q.1) + (iRem (v3 / q9) 10))) ((gi q.2 86 (ix ((8 * q.1) + (iRem (v3 / q9) 10)))) + 1)))) else none) else none))))
set_option maxRecDepth 4000 in
theorem t_Md_tryNets_L46 {V : Sm → Wd} (hV : VwT V) {D0 : Nat} (hD0 : 2 ≤ D0) {rc : Nat → Int32 → Int32 → Int32 → Int32 → Sm → Option Sm} (hrc : (∀ (u0 u1 u2 u3 : Int32) (S q : Sm), rc 0 u0 u1 u2 u3 S = some q → Runs D0 mX12_tryNets [.ref 53, .int u0, .int u1, .int u2, .int u3] (V S) none (V q) 0 0)) {l : Launch} {Γ : Gm} {rF : Option Value} {wF : Wd} {v2 : Int32} {v3 : Int32} {q : Int32 × Sm} {o : (Int32 × Sm) ⊕ (Sm)} (h : Md_tryNets_L46 rc v2 v3 q = some o) (hK : Sum.elim (hd_Md_tryNets_L46 V D0 l Γ rF wF v2 v3) (ps_Md_tryNets_L46 V D0 l Γ rF wF v2 v3) o) : hd_Md_tryNets_L46 V D0 l Γ rF wF v2 v3 q := by
  unfold Md_tryNets_L46 at h
  unfold hd_Md_tryNets_L46
  refine g_iload (pc := 46) dX12_tryNets_46 rfl ?_
  refine g_iload_n (pc := 48) dX12_tryNets_48 rfl ?_
  refine g_icmp_ge (tgt := 87) (pc := 49) dX12_tryNets_49 (by decide) (fun c13 => ?_) (fun c13 => ?_)
  · rw [if_pos c13] at h
    refine g_wk [false, false, false, false, false, false] rfl ?_
    cases h
    exact hK
  · rw [if_neg c13] at h
    refine g_aload_n (pc := 52) dX12_tryNets_52 rfl ?_
    refine v_getR hV (pc := 53) dX12_tryNets_53 fo_12_51 rfl k0_53 r0_53_51 ?_
    refine g_bipush (v := 8) (pc := 56) dX12_tryNets_56 (by decide) ?_
    refine g_iload (pc := 58) dX12_tryNets_58 rfl ?_
    refine g_imul (pc := 60) dX12_tryNets_60 ?_
    refine g_iload_n (pc := 61) dX12_tryNets_61 rfl ?_
    refine g_iload_n (pc := 62) dX12_tryNets_62 rfl ?_
    refine g_iconst (v := 1) (pc := 63) dX12_tryNets_63 (by decide) ?_
    refine g_isub (pc := 64) dX12_tryNets_64 ?_
    refine g_iload (pc := 65) dX12_tryNets_65 rfl ?_
    refine g_isub (pc := 67) dX12_tryNets_67 ?_
    obtain ⟨q9, hq9, h⟩ := bnd h
    refine v_callSi (Mc := mX12_ten) (v := q9) (S1 := q.2) (As := [.int ((v2 - 1) - q.1)]) (rest := [.int v3, .int (8 * q.1), .ref 86]) (pc := 68) dX12_tryNets_68 mK_X12_451 mf_X12_ten rfl rfl (Nat.le_of_ble_eq_true rfl) ⟨by show 0 + 1 ≤ D0 + 1; omega, by show 8 + (3 + 11) + 64 * 0 ≤ 64 * (D0 + 1); omega⟩ (r_Md_ten hV hq9) ?_
    by_cases c12 : q9 = (0 : Int32)
    · rw [if_pos c12] at h; cases h
    · rw [if_neg c12] at h
      refine g_idiv (pc := 71) dX12_tryNets_71 c12 ?_
      refine g_bipush (v := 10) (pc := 72) dX12_tryNets_72 (by decide) ?_
      refine g_irem (pc := 74) dX12_tryNets_74 (by decide) ?_
      refine g_iadd (pc := 75) dX12_tryNets_75 ?_
      refine g_dup2 (pc := 76) dX12_tryNets_76 rfl rfl ?_
      by_cases c10 : inb ((8 * q.1) + (iRem (v3 / q9) 10)) 32
      · rw [if_pos c10] at h
        refine v_iald hV (pc := 77) dX12_tryNets_77 k0_86 own_86 c10 ?_
        refine g_iconst (v := 1) (pc := 78) dX12_tryNets_78 (by decide) ?_
        refine g_iadd (pc := 79) dX12_tryNets_79 ?_
        by_cases c11 : inb ((8 * q.1) + (iRem (v3 / q9) 10)) 32
        · rw [if_pos c11] at h
          refine v_iast hV (pc := 80) dX12_tryNets_80 k0_86 own_86 c11 ?_
          refine g_iinc (v := q.1 + 1) (ls1 := [some (.ref 53), none, some (.int v2), some (.int v3), none, some (.int (q.1 + 1))]) (pc := 81) dX12_tryNets_81 rfl rfl (by decide) rfl ?_
          refine g_goto (tgt := 46) (pc := 84) dX12_tryNets_84 (by decide) ?_
          cases h
          exact hK
        · rw [if_neg c11] at h; cases h
      · rw [if_neg c10] at h; cases h
set_option maxRecDepth 4000 in
theorem w_Md_tryNets_L46 {V : Sm → Wd} (hV : VwT V) {D0 : Nat} (hD0 : 2 ≤ D0) {rc : Nat → Int32 → Int32 → Int32 → Int32 → Sm → Option Sm} (hrc : (∀ (u0 u1 u2 u3 : Int32) (S q : Sm), rc 0 u0 u1 u2 u3 S = some q → Runs D0 mX12_tryNets [.ref 53, .int u0, .int u1, .int u2, .int u3] (V S) none (V q) 0 0)) {l : Launch} {Γ : Gm} {rF : Option Value} {wF : Wd} {v2 : Int32} {v3 : Int32} {k : Nat} {q : Int32 × Sm} {o : Sm} (h : lpN (Md_tryNets_L46 rc v2 v3) k q = some o) (hP : ps_Md_tryNets_L46 V D0 l Γ rF wF v2 v3 o) : hd_Md_tryNets_L46 V D0 l Γ rF wF v2 v3 q := lpN_ind2 (hd_Md_tryNets_L46 V D0 l Γ rF wF v2 v3) (ps_Md_tryNets_L46 V D0 l Γ rF wF v2 v3) (fun s o h hK => t_Md_tryNets_L46 hV hD0 hrc h hK) k q o h hP
def Md_tryNets_30 (rc : Nat → Int32 → Int32 → Int32 → Int32 → Sm → Option Sm) (v2 : Int32) (v3 : Int32) (s1 : Int32) (S : Sm) : Option (Sm) := ((lpN (Md_tryNets_L46 rc v2 v3) FU (0, si (si S 53 53 s1) 53 52 ((gi (si S 53 53 s1) 53 52) + 1))).bind fun q14 => (Md_tryNets_87 rc q14))
set_option maxRecDepth 4000 in
theorem t_Md_tryNets_30 {V : Sm → Wd} (hV : VwT V) {D0 : Nat} (hD0 : 2 ≤ D0) {rc : Nat → Int32 → Int32 → Int32 → Int32 → Sm → Option Sm} (hrc : (∀ (u0 u1 u2 u3 : Int32) (S q : Sm), rc 0 u0 u1 u2 u3 S = some q → Runs D0 mX12_tryNets [.ref 53, .int u0, .int u1, .int u2, .int u3] (V S) none (V q) 0 0)) {l : Launch} {Γ : Gm} {v2 : Int32} {v3 : Int32} {s1 : Int32} {S : Sm} {q : Sm} (h : Md_tryNets_30 rc v2 v3 s1 S = some q) : G mX12_tryNets l Γ (rmD (D0 + 1) 0 0) (mQ Γ none (V q) 0 0) 0 0 30 [some (.ref 53), none, some (.int v2), some (.int v3), none, none] [.int s1, .ref 53] (V S) := by
  unfold Md_tryNets_30 at h
  refine v_putI hV (pc := 30) dX12_tryNets_30 fo_12_53 rfl k0_53 own_53 rfl ?_
  refine g_aload_n (pc := 33) dX12_tryNets_33 rfl ?_
  refine g_dup (pc := 34) dX12_tryNets_34 rfl ?_
  refine v_getI hV (pc := 35) dX12_tryNets_35 fo_12_52 rfl k0_53 own_53 ?_
  refine g_iconst (v := 1) (pc := 38) dX12_tryNets_38 (by decide) ?_
  refine g_iadd (pc := 39) dX12_tryNets_39 ?_
  refine v_putI hV (pc := 40) dX12_tryNets_40 fo_12_52 rfl k0_53 own_53 rfl ?_
  refine g_iconst (v := 0) (pc := 43) dX12_tryNets_43 (by decide) ?_
  refine g_istore (ls1 := [some (.ref 53), none, some (.int v2), some (.int v3), none, some (.int 0)]) (pc := 44) dX12_tryNets_44 (by decide) rfl ?_
  obtain ⟨q14, hqq14, h⟩ := bnd h
  refine w_Md_tryNets_L46 hV hD0 hrc hqq14 ?_
  unfold ps_Md_tryNets_L46
  show G _ _ _ _ _ _ _ _ _ _ _
  exact t_Md_tryNets_87 hV hD0 hrc h
def Md_tryNets (rc : Nat → Int32 → Int32 → Int32 → Int32 → Sm → Option Sm) (v1 : Int32) (v2 : Int32) (v3 : Int32) (v4 : Int32) (S : Sm) : Option (Sm) := (if v1 = v2 then ((Md_areLaidSo S).bind fun q8 => (if q8 = 0 then (Md_tryNets_87 rc S) else (if (gi S 53 52) = v4 then (Md_tryNets_30 rc v2 v3 v3 S) else (Md_tryNets_30 rc v2 v3 (gi S 53 53) S)))) else ((lpN (Md_tryNets_L91 rc v1 v2 v3 v4) FU (0, S)).bind fun q5 => (if inb v1 4 then (if inb (gi q5 85 (ix v1)) 320 then (some (si q5 70 (ix (gi q5 85 (ix v1))) ((-2)))) else none) else none)))
set_option maxRecDepth 4000 in
theorem rb_Md_tryNets {V : Sm → Wd} (hV : VwT V) {D0 : Nat} (hD0 : 2 ≤ D0) {rc : Nat → Int32 → Int32 → Int32 → Int32 → Sm → Option Sm} (hrc : (∀ (u0 u1 u2 u3 : Int32) (S q : Sm), rc 0 u0 u1 u2 u3 S = some q → Runs D0 mX12_tryNets [.ref 53, .int u0, .int u1, .int u2, .int u3] (V S) none (V q) 0 0)) {v1 : Int32} {v2 : Int32} {v3 : Int32} {v4 : Int32} {S : Sm} {q : Sm} (h : Md_tryNets rc v1 v2 v3 v4 S = some q) : Runs (D0 + 1) mX12_tryNets [.ref 53, .int v1, .int v2, .int v3, .int v4] (V S) none (V q) 0 0 := by
  unfold Md_tryNets at h
  refine Runs.of2 [some (.ref 53), some (.int v1), some (.int v2), some (.int v3), some (.int v4), none] 1 rfl rfl (Nat.le_of_ble_eq_true rfl) (fun l Γ => ?_)
  refine g_iload_n (pc := 0) dX12_tryNets_0 rfl ?_
  refine g_iload_n (pc := 1) dX12_tryNets_1 rfl ?_
  refine g_icmp_ne (tgt := 88) (pc := 2) dX12_tryNets_2 (by decide) (fun c17 => ?_) (fun c17 => ?_)
  · rw [if_neg c17] at h
    refine g_iconst (v := 0) (pc := 88) dX12_tryNets_88 (by decide) ?_
    refine g_istore (ls1 := [some (.ref 53), some (.int v1), some (.int v2), some (.int v3), some (.int v4), some (.int 0)]) (pc := 89) dX12_tryNets_89 (by decide) rfl ?_
    obtain ⟨q5, hqq5, h⟩ := bnd h
    refine w_Md_tryNets_L91 hV hD0 hrc hqq5 ?_
    unfold ps_Md_tryNets_L91
    show G _ _ _ _ _ _ _ _ _ _ _
    refine g_aload_n (pc := 138) dX12_tryNets_138 rfl ?_
    refine v_getR hV (pc := 139) dX12_tryNets_139 fo_12_27 rfl k0_53 r0_53_27 ?_
    refine g_aload_n (pc := 142) dX12_tryNets_142 rfl ?_
    refine v_getR hV (pc := 143) dX12_tryNets_143 fo_12_50 rfl k0_53 r0_53_50 ?_
    refine g_iload_n (pc := 146) dX12_tryNets_146 rfl ?_
    by_cases c6 : inb v1 4
    · rw [if_pos c6] at h
      refine v_iald hV (pc := 147) dX12_tryNets_147 k0_85 own_85 c6 ?_
      refine g_bipush (v := (-2)) (pc := 148) dX12_tryNets_148 (by decide) ?_
      by_cases c7 : inb (gi q5 85 (ix v1)) 320
      · rw [if_pos c7] at h
        refine v_iast hV (pc := 150) dX12_tryNets_150 k0_70 own_70 c7 ?_
        cases h
        exact g_vret (pc := 151) dX12_tryNets_151 rfl (Nat.le_refl _) (Nat.le_refl _)
      · rw [if_neg c7] at h; cases h
    · rw [if_neg c6] at h; cases h
  · rw [if_pos c17] at h
    refine g_aload_n (pc := 5) dX12_tryNets_5 rfl ?_
    obtain ⟨q8, hq8, h⟩ := bnd h
    refine v_callVi hV (Mc := mX12_areLaidSo) (v := q8) (S1 := S) (As := []) (rest := []) (q := (RX12, TX12, 58)) (pc := 6) dX12_tryNets_6 mK_X12_442 mf_X12_areLaidSo rfl k0_53 rfl rfl rfl (Nat.le_of_ble_eq_true rfl) ⟨by show 2 + 1 ≤ D0 + 1; omega, by show 8 + (2 + 11) + 64 * 2 ≤ 64 * (D0 + 1); omega⟩ (r_Md_areLaidSo hV hq8) ?_
    refine g_if_eq (tgt := 87) (pc := 9) dX12_tryNets_9 (by decide) (fun c16 => ?_) (fun c16 => ?_)
    · rw [if_pos c16] at h
      refine g_wk [false, false, false, false, false, false] rfl ?_
      exact t_Md_tryNets_87 hV hD0 hrc h
    · rw [if_neg c16] at h
      refine g_aload_n (pc := 12) dX12_tryNets_12 rfl ?_
      refine g_aload_n (pc := 13) dX12_tryNets_13 rfl ?_
      refine v_getI hV (pc := 14) dX12_tryNets_14 fo_12_52 rfl k0_53 own_53 ?_
      refine g_iload (pc := 17) dX12_tryNets_17 rfl ?_
      refine g_icmp_ne (tgt := 26) (pc := 19) dX12_tryNets_19 (by decide) (fun c15 => ?_) (fun c15 => ?_)
      · rw [if_neg c15] at h
        refine g_aload_n (pc := 26) dX12_tryNets_26 rfl ?_
        refine v_getI hV (pc := 27) dX12_tryNets_27 fo_12_53 rfl k0_53 own_53 ?_
        refine g_wk [true, false, true, true, false, false] rfl ?_
        exact t_Md_tryNets_30 hV hD0 hrc h
      · rw [if_pos c15] at h
        refine g_iload_n (pc := 22) dX12_tryNets_22 rfl ?_
        refine g_goto (tgt := 30) (pc := 23) dX12_tryNets_23 (by decide) ?_
        refine g_wk [true, false, true, true, false, false] rfl ?_
        exact t_Md_tryNets_30 hV hD0 hrc h
def fTn : Nat → Nat → Int32 → Int32 → Int32 → Int32 → Sm → Option Sm
  | 0, _, _, _, _, _, _ => none
  | D + 1, i, u0, u1, u2, u3, S => Md_tryNets (fTn D) u0 u1 u2 u3 S
set_option maxRecDepth 4000 in
theorem fTn_ok {V : Sm → Wd} (hV : VwT V) : ∀ D : Nat, (∀ (u0 u1 u2 u3 : Int32) (S q : Sm), fTn D 0 u0 u1 u2 u3 S = some q → Runs (2 + D) mX12_tryNets [.ref 53, .int u0, .int u1, .int u2, .int u3] (V S) none (V q) 0 0)
  | 0 => fun _ _ _ _ _ _ h => by cases h
  | D + 1 => fun u0 u1 u2 u3 S q h => rb_Md_tryNets hV (D0 := 2 + D) (by omega) (fTn_ok hV D) h
def Md_tryNets_r (u0 : Int32) (u1 : Int32) (u2 : Int32) (u3 : Int32) (S : Sm) : Option Sm := fTn 8 0 u0 u1 u2 u3 S
set_option maxRecDepth 4000 in
theorem r_Md_tryNets_r {V : Sm → Wd} (hV : VwT V) {u0 : Int32} {u1 : Int32} {u2 : Int32} {u3 : Int32} {S q : Sm} (h : Md_tryNets_r u0 u1 u2 u3 S = some q) : Runs 10 mX12_tryNets [.ref 53, .int u0, .int u1, .int u2, .int u3] (V S) none (V q) 0 0 := (fTn_ok hV 8) _ _ _ _ _ _ h
def hd_Md_layNets_L7 (V : Sm → Wd) (l : Launch) (Γ : Gm) (rF : Option Value) (wF : Wd) (v1 : Int32) (v2 : Int32) (q : Int32 × Sm) : Prop := G mX12_layNets l Γ (rmD 11 0 0) (mQ Γ rF wF 0 0) 0 0 7 [some (.ref 53), some (.int v1), some (.int v2), some (.int q.1)] [] (V q.2)
def ps_Md_layNets_L7 (V : Sm → Wd) (l : Launch) (Γ : Gm) (rF : Option Value) (wF : Wd) (v1 : Int32) (v2 : Int32) (x : Sm) : Prop := (fun (a : Sm) => G mX12_layNets l Γ (rmD 11 0 0) (mQ Γ rF wF 0 0) 0 0 29 [some (.ref 53), some (.int v1), some (.int v2), none] [] (V a)) x
def Md_layNets_L7 (v1 : Int32) (v2 : Int32) (q : Int32 × Sm) : Option ((Int32 × Sm) ⊕ (Sm)) := (if v2 ≤ q.1 then (some (.inr q.2)) else ((Md_unknownAt q.1 q.2).bind fun q2 => (if inb q.1 4 then (some (.inl (q.1 + 1, si q.2 85 (ix q.1) q2))) else none)))
set_option maxRecDepth 4000 in
theorem t_Md_layNets_L7 {V : Sm → Wd} (hV : VwT V) {l : Launch} {Γ : Gm} {rF : Option Value} {wF : Wd} {v1 : Int32} {v2 : Int32} {q : Int32 × Sm} {o : (Int32 × Sm) ⊕ (Sm)} (h : Md_layNets_L7 v1 v2 q = some o) (hK : Sum.elim (hd_Md_layNets_L7 V l Γ rF wF v1 v2) (ps_Md_layNets_L7 V l Γ rF wF v1 v2) o) : hd_Md_layNets_L7 V l Γ rF wF v1 v2 q := by
  unfold Md_layNets_L7 at h
  unfold hd_Md_layNets_L7
  refine g_iload_n (pc := 7) dX12_layNets_7 rfl ?_
  refine g_iload_n (pc := 8) dX12_layNets_8 rfl ?_
  refine g_icmp_ge (tgt := 29) (pc := 9) dX12_layNets_9 (by decide) (fun c4 => ?_) (fun c4 => ?_)
  · rw [if_pos c4] at h
    refine g_wk [true, true, true, false] rfl ?_
    cases h
    exact hK
  · rw [if_neg c4] at h
    refine g_aload_n (pc := 12) dX12_layNets_12 rfl ?_
    refine v_getR hV (pc := 13) dX12_layNets_13 fo_12_50 rfl k0_53 r0_53_50 ?_
    refine g_iload_n (pc := 16) dX12_layNets_16 rfl ?_
    refine g_aload_n (pc := 17) dX12_layNets_17 rfl ?_
    refine g_iload_n (pc := 18) dX12_layNets_18 rfl ?_
    obtain ⟨q2, hq2, h⟩ := bnd h
    refine v_callVi hV (Mc := mX12_unknownAt) (v := q2) (S1 := q.2) (As := [.int q.1]) (rest := [.int q.1, .ref 85]) (q := (RX12, TX12, 58)) (pc := 19) dX12_layNets_19 mK_X12_439 mf_X12_unknownAt rfl k0_53 rfl rfl rfl (Nat.le_of_ble_eq_true rfl) ⟨Nat.le_of_ble_eq_true rfl, Nat.le_of_ble_eq_true rfl⟩ (r_Md_unknownAt hV hq2) ?_
    by_cases c3 : inb q.1 4
    · rw [if_pos c3] at h
      refine v_iast hV (pc := 22) dX12_layNets_22 k0_85 own_85 c3 ?_
      refine g_iinc (v := q.1 + 1) (ls1 := [some (.ref 53), some (.int v1), some (.int v2), some (.int (q.1 + 1))]) (pc := 23) dX12_layNets_23 rfl rfl (by decide) rfl ?_
      refine g_goto (tgt := 7) (pc := 26) dX12_layNets_26 (by decide) ?_
      cases h
      exact hK
    · rw [if_neg c3] at h; cases h
set_option maxRecDepth 4000 in
theorem w_Md_layNets_L7 {V : Sm → Wd} (hV : VwT V) {l : Launch} {Γ : Gm} {rF : Option Value} {wF : Wd} {v1 : Int32} {v2 : Int32} {k : Nat} {q : Int32 × Sm} {o : Sm} (h : lpN (Md_layNets_L7 v1 v2) k q = some o) (hP : ps_Md_layNets_L7 V l Γ rF wF v1 v2 o) : hd_Md_layNets_L7 V l Γ rF wF v1 v2 q := lpN_ind2 (hd_Md_layNets_L7 V l Γ rF wF v1 v2) (ps_Md_layNets_L7 V l Γ rF wF v1 v2) (fun s o h hK => t_Md_layNets_L7 hV h hK) k q o h hP
def hd_Md_layNets_L31 (V : Sm → Wd) (l : Launch) (Γ : Gm) (rF : Option Value) (wF : Wd) (v1 : Int32) (v2 : Int32) (q : Int32 × Sm) : Prop := G mX12_layNets l Γ (rmD 11 0 0) (mQ Γ rF wF 0 0) 0 0 31 [some (.ref 53), some (.int v1), some (.int v2), some (.int q.1)] [] (V q.2)
def ps_Md_layNets_L31 (V : Sm → Wd) (l : Launch) (Γ : Gm) (rF : Option Value) (wF : Wd) (v1 : Int32) (v2 : Int32) (x : Sm) : Prop := (fun (a : Sm) => G mX12_layNets l Γ (rmD 11 0 0) (mQ Γ rF wF 0 0) 0 0 50 [some (.ref 53), some (.int v1), some (.int v2), none] [] (V a)) x
def Md_layNets_L31 (v1 : Int32) (v2 : Int32) (q : Int32 × Sm) : Option ((Int32 × Sm) ⊕ (Sm)) := (if (32 : Int32) ≤ q.1 then (some (.inr q.2)) else (if inb q.1 32 then (some (.inl (q.1 + 1, si q.2 86 (ix q.1) 0))) else none))
set_option maxRecDepth 4000 in
theorem t_Md_layNets_L31 {V : Sm → Wd} (hV : VwT V) {l : Launch} {Γ : Gm} {rF : Option Value} {wF : Wd} {v1 : Int32} {v2 : Int32} {q : Int32 × Sm} {o : (Int32 × Sm) ⊕ (Sm)} (h : Md_layNets_L31 v1 v2 q = some o) (hK : Sum.elim (hd_Md_layNets_L31 V l Γ rF wF v1 v2) (ps_Md_layNets_L31 V l Γ rF wF v1 v2) o) : hd_Md_layNets_L31 V l Γ rF wF v1 v2 q := by
  unfold Md_layNets_L31 at h
  unfold hd_Md_layNets_L31
  refine g_iload_n (pc := 31) dX12_layNets_31 rfl ?_
  refine g_bipush (v := 32) (pc := 32) dX12_layNets_32 (by decide) ?_
  refine g_icmp_ge (tgt := 50) (pc := 34) dX12_layNets_34 (by decide) (fun c7 => ?_) (fun c7 => ?_)
  · rw [if_pos c7] at h
    refine g_wk [true, true, true, false] rfl ?_
    cases h
    exact hK
  · rw [if_neg c7] at h
    refine g_aload_n (pc := 37) dX12_layNets_37 rfl ?_
    refine v_getR hV (pc := 38) dX12_layNets_38 fo_12_51 rfl k0_53 r0_53_51 ?_
    refine g_iload_n (pc := 41) dX12_layNets_41 rfl ?_
    refine g_iconst (v := 0) (pc := 42) dX12_layNets_42 (by decide) ?_
    by_cases c6 : inb q.1 32
    · rw [if_pos c6] at h
      refine v_iast hV (pc := 43) dX12_layNets_43 k0_86 own_86 c6 ?_
      refine g_iinc (v := q.1 + 1) (ls1 := [some (.ref 53), some (.int v1), some (.int v2), some (.int (q.1 + 1))]) (pc := 44) dX12_layNets_44 rfl rfl (by decide) rfl ?_
      refine g_goto (tgt := 31) (pc := 47) dX12_layNets_47 (by decide) ?_
      cases h
      exact hK
    · rw [if_neg c6] at h; cases h
set_option maxRecDepth 4000 in
theorem w_Md_layNets_L31 {V : Sm → Wd} (hV : VwT V) {l : Launch} {Γ : Gm} {rF : Option Value} {wF : Wd} {v1 : Int32} {v2 : Int32} {k : Nat} {q : Int32 × Sm} {o : Sm} (h : lpN (Md_layNets_L31 v1 v2) k q = some o) (hP : ps_Md_layNets_L31 V l Γ rF wF v1 v2 o) : hd_Md_layNets_L31 V l Γ rF wF v1 v2 q := lpN_ind2 (hd_Md_layNets_L31 V l Γ rF wF v1 v2) (ps_Md_layNets_L31 V l Γ rF wF v1 v2) (fun s o h hK => t_Md_layNets_L31 hV h hK) k q o h hP
def Md_layNets (v1 : Int32) (S : Sm) : Option (Int32 × Sm) := ((Md_unknownNow S).bind fun q1 => ((lpN (Md_layNets_L7 v1 q1) FU (0, S)).bind fun q5 => ((lpN (Md_layNets_L31 v1 q1) FU (0, q5)).bind fun q8 => ((Md_tryNets_r 0 q1 0 v1 (si (si q8 53 52 0) 53 53 ((-1)))).bind fun q9 => (some ((q1, q9)))))))
set_option maxRecDepth 4000 in
theorem r_Md_layNets {V : Sm → Wd} (hV : VwT V) {v1 : Int32} {S : Sm} {q : Int32 × Sm} (h : Md_layNets v1 S = some q) : Runs 11 mX12_layNets [.ref 53, .int v1] (V S) (some (.int q.1)) (V q.2) 0 0 := by
  unfold Md_layNets at h
  refine Runs.of2 [some (.ref 53), some (.int v1), none, none] 2 rfl rfl (Nat.le_of_ble_eq_true rfl) (fun l Γ => ?_)
  refine g_aload_n (pc := 0) dX12_layNets_0 rfl ?_
  obtain ⟨q1, hq1, h⟩ := bnd h
  refine v_callVi hV (Mc := mX12_unknownNow) (v := q1) (S1 := S) (As := []) (rest := []) (q := (RX12, TX12, 58)) (pc := 1) dX12_layNets_1 mK_X12_458 mf_X12_unknownNow rfl k0_53 rfl rfl rfl (Nat.le_of_ble_eq_true rfl) ⟨Nat.le_of_ble_eq_true rfl, Nat.le_of_ble_eq_true rfl⟩ (r_Md_unknownNow hV hq1) ?_
  refine g_istore_n (ls1 := [some (.ref 53), some (.int v1), some (.int q1), none]) (pc := 4) dX12_layNets_4 (by decide) rfl ?_
  refine g_iconst (v := 0) (pc := 5) dX12_layNets_5 (by decide) ?_
  refine g_istore_n (ls1 := [some (.ref 53), some (.int v1), some (.int q1), some (.int 0)]) (pc := 6) dX12_layNets_6 (by decide) rfl ?_
  obtain ⟨q5, hqq5, h⟩ := bnd h
  refine w_Md_layNets_L7 hV hqq5 ?_
  unfold ps_Md_layNets_L7
  show G _ _ _ _ _ _ _ _ _ _ _
  refine g_iconst (v := 0) (pc := 29) dX12_layNets_29 (by decide) ?_
  refine g_istore_n (ls1 := [some (.ref 53), some (.int v1), some (.int q1), some (.int 0)]) (pc := 30) dX12_layNets_30 (by decide) rfl ?_
  obtain ⟨q8, hqq8, h⟩ := bnd h
  refine w_Md_layNets_L31 hV hqq8 ?_
  unfold ps_Md_layNets_L31
  show G _ _ _ _ _ _ _ _ _ _ _
  refine g_aload_n (pc := 50) dX12_layNets_50 rfl ?_
  refine g_iconst (v := 0) (pc := 51) dX12_layNets_51 (by decide) ?_
  refine v_putI hV (pc := 52) dX12_layNets_52 fo_12_52 rfl k0_53 own_53 rfl ?_
  refine g_aload_n (pc := 55) dX12_layNets_55 rfl ?_
  refine g_iconst (v := (-1)) (pc := 56) dX12_layNets_56 (by decide) ?_
  refine v_putI hV (pc := 57) dX12_layNets_57 fo_12_53 rfl k0_53 own_53 rfl ?_
  refine g_aload_n (pc := 60) dX12_layNets_60 rfl ?_
  refine g_iconst (v := 0) (pc := 61) dX12_layNets_61 (by decide) ?_
  refine g_iload_n (pc := 62) dX12_layNets_62 rfl ?_
  refine g_iconst (v := 0) (pc := 63) dX12_layNets_63 (by decide) ?_
  refine g_iload_n (pc := 64) dX12_layNets_64 rfl ?_
  obtain ⟨q9, hq9, h⟩ := bnd h
  refine v_callVv hV (Mc := mX12_tryNets) (S1 := q9) (As := [.int 0, .int q1, .int 0, .int v1]) (rest := []) (q := (RX12, TX12, 58)) (pc := 65) dX12_layNets_65 mK_X12_454 mf_X12_tryNets rfl k0_53 rfl rfl rfl (Nat.le_of_ble_eq_true rfl) ⟨Nat.le_of_ble_eq_true rfl, Nat.le_of_ble_eq_true rfl⟩ (r_Md_tryNets_r hV hq9) ?_
  refine g_iload_n (pc := 68) dX12_layNets_68 rfl ?_
  cases h
  exact g_iret (pc := 69) dX12_layNets_69 rfl rfl (Nat.le_refl _) (Nat.le_refl _)
def Md_nets_14 (S : Sm) : Option (Int32 × Sm) := (some (((-1), S)))
set_option maxRecDepth 4000 in
theorem t_Md_nets_14 {V : Sm → Wd} (hV : VwT V) {l : Launch} {Γ : Gm}  {S : Sm} {q : Int32 × Sm} (h : Md_nets_14 S = some q) : G mX12_nets l Γ (rmD 12 0 0) (mQ Γ (some (.int q.1)) (V q.2) 0 0) 0 0 14 [none, none] [] (V S) := by
  unfold Md_nets_14 at h
  refine g_iconst (v := (-1)) (pc := 14) dX12_nets_14 (by decide) ?_
  cases h
  exact g_iret (pc := 15) dX12_nets_15 rfl rfl (Nat.le_refl _) (Nat.le_refl _)
def Md_nets_38 (s0 : Int32) (S : Sm) : Option (Int32 × Sm) := (some ((s0, S)))
set_option maxRecDepth 4000 in
theorem t_Md_nets_38 {V : Sm → Wd} (hV : VwT V) {l : Launch} {Γ : Gm} {s0 : Int32} {S : Sm} {q : Int32 × Sm} (h : Md_nets_38 s0 S = some q) : G mX12_nets l Γ (rmD 12 0 0) (mQ Γ (some (.int q.1)) (V q.2) 0 0) 0 0 38 [none, none] [.int s0] (V S) := by
  unfold Md_nets_38 at h
  cases h
  exact g_iret (pc := 38) dX12_nets_38 rfl rfl (Nat.le_refl _) (Nat.le_refl _)
def Md_nets (v1 : Int32) (S : Sm) : Option (Int32 × Sm) := (if (gi S 68 0) = 0 then (Md_nets_14 S) else (if (-1 : Int32) ≤ v1 then ((Md_layNets v1 S).bind fun q1 => (if v1 = ((-1)) then (Md_nets_38 (gi q1.2 53 52) q1.2) else (Md_nets_38 (gi q1.2 53 53) q1.2))) else (Md_nets_14 S)))
set_option maxRecDepth 4000 in
theorem r_Md_nets {V : Sm → Wd} (hV : VwT V) {v1 : Int32} {S : Sm} {q : Int32 × Sm} (h : Md_nets v1 S = some q) : Runs 12 mX12_nets [.ref 53, .int v1] (V S) (some (.int q.1)) (V q.2) 0 0 := by
  unfold Md_nets at h
  refine Runs.of2 [some (.ref 53), some (.int v1)] 0 rfl rfl (Nat.le_of_ble_eq_true rfl) (fun l Γ => ?_)
  refine g_aload_n (pc := 0) dX12_nets_0 rfl ?_
  refine v_getR hV (pc := 1) dX12_nets_1 fo_12_24 rfl k0_53 r0_53_24 ?_
  refine g_iconst (v := 0) (pc := 4) dX12_nets_4 (by decide) ?_
  refine v_ialdK hV (k := 0) (pc := 5) dX12_nets_5 k0_68 own_68 (by decide) (by decide) ?_
  refine g_if_eq (tgt := 14) (pc := 6) dX12_nets_6 (by decide) (fun c4 => ?_) (fun c4 => ?_)
  · rw [if_pos c4] at h
    refine g_wk [false, false] rfl ?_
    exact t_Md_nets_14 hV h
  · rw [if_neg c4] at h
    refine g_iload_n (pc := 9) dX12_nets_9 rfl ?_
    refine g_iconst (v := (-1)) (pc := 10) dX12_nets_10 (by decide) ?_
    refine g_icmp_ge (tgt := 16) (pc := 11) dX12_nets_11 (by decide) (fun c3 => ?_) (fun c3 => ?_)
    · rw [if_pos c3] at h
      refine g_aload_n (pc := 16) dX12_nets_16 rfl ?_
      refine g_iload_n (pc := 17) dX12_nets_17 rfl ?_
      obtain ⟨q1, hq1, h⟩ := bnd h
      refine v_callVi hV (Mc := mX12_layNets) (v := q1.1) (S1 := q1.2) (As := [.int v1]) (rest := []) (q := (RX12, TX12, 58)) (pc := 18) dX12_nets_18 mK_X12_461 mf_X12_layNets rfl k0_53 rfl rfl rfl (Nat.le_of_ble_eq_true rfl) ⟨Nat.le_of_ble_eq_true rfl, Nat.le_of_ble_eq_true rfl⟩ (r_Md_layNets hV hq1) ?_
      refine g_pop (pc := 21) dX12_nets_21 rfl ?_
      refine g_iload_n (pc := 22) dX12_nets_22 rfl ?_
      refine g_iconst (v := (-1)) (pc := 23) dX12_nets_23 (by decide) ?_
      refine g_icmp_ne (tgt := 34) (pc := 24) dX12_nets_24 (by decide) (fun c2 => ?_) (fun c2 => ?_)
      · rw [if_neg c2] at h
        refine g_aload_n (pc := 34) dX12_nets_34 rfl ?_
        refine v_getI hV (pc := 35) dX12_nets_35 fo_12_53 rfl k0_53 own_53 ?_
        refine g_wk [false, false] rfl ?_
        exact t_Md_nets_38 hV h
      · rw [if_pos c2] at h
        refine g_aload_n (pc := 27) dX12_nets_27 rfl ?_
        refine v_getI hV (pc := 28) dX12_nets_28 fo_12_52 rfl k0_53 own_53 ?_
        refine g_goto (tgt := 38) (pc := 31) dX12_nets_31 (by decide) ?_
        refine g_wk [false, false] rfl ?_
        exact t_Md_nets_38 hV h
    · rw [if_neg c3] at h
      refine g_wk [false, false] rfl ?_
      exact t_Md_nets_14 hV h
def Md_could_13 (S : Sm) : Option (Int32 × Sm) := (some (((-1), S)))
set_option maxRecDepth 4000 in
theorem t_Md_could_13 {V : Sm → Wd} (hV : VwT V) {l : Launch} {Γ : Gm}  {S : Sm} {q : Int32 × Sm} (h : Md_could_13 S = some q) : G mX12_could l Γ (rmD 12 0 0) (mQ Γ (some (.int q.1)) (V q.2) 0 0) 0 0 13 [none, none, none, none, none] [] (V S) := by
  unfold Md_could_13 at h
  refine g_iconst (v := (-1)) (pc := 13) dX12_could_13 (by decide) ?_
  cases h
  exact g_iret (pc := 14) dX12_could_14 rfl rfl (Nat.le_refl _) (Nat.le_refl _)
def hd_Md_could_L33 (V : Sm → Wd) (l : Launch) (Γ : Gm) (rF : Option Value) (wF : Wd) (v1 : Int32) (S : Sm) (q : Int32 × Int32) : Prop := G mX12_could l Γ (rmD 12 0 0) (mQ Γ rF wF 0 0) 0 0 33 [some (.ref 53), some (.int v1), none, some (.int q.1), some (.int q.2)] [] (V S)
def ps_Md_could_L33 (V : Sm → Wd) (l : Launch) (Γ : Gm) (rF : Option Value) (wF : Wd) (v1 : Int32) (S : Sm) (x : Int32) : Prop := (fun (a : Int32) => G mX12_could l Γ (rmD 12 0 0) (mQ Γ rF wF 0 0) 0 0 72 [none, none, none, some (.int a), none] [] (V S)) x
def Md_could_64_L33 (v1 : Int32) (v4 : Int32) (s0 : Int32) (s1 : Int32) (S : Sm) : Option ((Int32 × Int32) ⊕ (Int32)) := (some (.inl (s0 ||| s1, v4 + 1)))
set_option maxRecDepth 4000 in
theorem t_Md_could_64_L33 {V : Sm → Wd} (hV : VwT V) {l : Launch} {Γ : Gm} {v1 : Int32} {v4 : Int32} {s0 : Int32} {s1 : Int32} {rF : Option Value} {wF : Wd} {S : Sm} {o : (Int32 × Int32) ⊕ (Int32)} (h : Md_could_64_L33 v1 v4 s0 s1 S = some o) (hK : Sum.elim (hd_Md_could_L33 V l Γ rF wF v1 S) (ps_Md_could_L33 V l Γ rF wF v1 S) o) : G mX12_could l Γ (rmD 12 0 0) (mQ Γ rF wF 0 0) 0 0 64 [some (.ref 53), some (.int v1), none, none, some (.int v4)] [.int s1, .int s0] (V S) := by
  unfold Md_could_64_L33 at h
  refine g_ior (pc := 64) dX12_could_64 ?_
  refine g_istore_n (ls1 := [some (.ref 53), some (.int v1), none, some (.int (s0 ||| s1)), some (.int v4)]) (pc := 65) dX12_could_65 (by decide) rfl ?_
  refine g_iinc (v := v4 + 1) (ls1 := [some (.ref 53), some (.int v1), none, some (.int (s0 ||| s1)), some (.int (v4 + 1))]) (pc := 66) dX12_could_66 rfl rfl (by decide) rfl ?_
  refine g_goto (tgt := 33) (pc := 69) dX12_could_69 (by decide) ?_
  cases h
  exact hK
def Md_could_L33 (v1 : Int32) (S : Sm) (q : Int32 × Int32) : Option ((Int32 × Int32) ⊕ (Int32)) := (if (8 : Int32) ≤ q.2 then (some (.inr q.1)) else (if inb ((8 * v1) + q.2) 32 then (if (gi S 86 (ix ((8 * v1) + q.2))) ≤ 0 then (Md_could_64_L33 v1 q.2 q.1 0 S) else (Md_could_64_L33 v1 q.2 q.1 (iShl 1 q.2) S)) else none))
set_option maxRecDepth 4000 in
theorem t_Md_could_L33 {V : Sm → Wd} (hV : VwT V) {l : Launch} {Γ : Gm} {rF : Option Value} {wF : Wd} {v1 : Int32} {S : Sm} {q : Int32 × Int32} {o : (Int32 × Int32) ⊕ (Int32)} (h : Md_could_L33 v1 S q = some o) (hK : Sum.elim (hd_Md_could_L33 V l Γ rF wF v1 S) (ps_Md_could_L33 V l Γ rF wF v1 S) o) : hd_Md_could_L33 V l Γ rF wF v1 S q := by
  unfold Md_could_L33 at h
  unfold hd_Md_could_L33
  refine g_iload (pc := 33) dX12_could_33 rfl ?_
  refine g_bipush (v := 8) (pc := 35) dX12_could_35 (by decide) ?_
  refine g_icmp_ge (tgt := 72) (pc := 37) dX12_could_37 (by decide) (fun c4 => ?_) (fun c4 => ?_)
  · rw [if_pos c4] at h
    refine g_wk [false, false, false, true, false] rfl ?_
    cases h
    exact hK
  · rw [if_neg c4] at h
    refine g_iload_n (pc := 40) dX12_could_40 rfl ?_
    refine g_aload_n (pc := 41) dX12_could_41 rfl ?_
    refine v_getR hV (pc := 42) dX12_could_42 fo_12_51 rfl k0_53 r0_53_51 ?_
    refine g_bipush (v := 8) (pc := 45) dX12_could_45 (by decide) ?_
    refine g_iload_n (pc := 47) dX12_could_47 rfl ?_
    refine g_imul (pc := 48) dX12_could_48 ?_
    refine g_iload (pc := 49) dX12_could_49 rfl ?_
    refine g_iadd (pc := 51) dX12_could_51 ?_
    by_cases c2 : inb ((8 * v1) + q.2) 32
    · rw [if_pos c2] at h
      refine v_iald hV (pc := 52) dX12_could_52 k0_86 own_86 c2 ?_
      refine g_if_le (tgt := 63) (pc := 53) dX12_could_53 (by decide) (fun c3 => ?_) (fun c3 => ?_)
      · rw [if_pos c3] at h
        refine g_iconst (v := 0) (pc := 63) dX12_could_63 (by decide) ?_
        refine g_wk [true, true, false, false, true] rfl ?_
        exact t_Md_could_64_L33 hV h hK
      · rw [if_neg c3] at h
        refine g_iconst (v := 1) (pc := 56) dX12_could_56 (by decide) ?_
        refine g_iload (pc := 57) dX12_could_57 rfl ?_
        refine g_ishl (pc := 59) dX12_could_59 ?_
        refine g_goto (tgt := 64) (pc := 60) dX12_could_60 (by decide) ?_
        refine g_wk [true, true, false, false, true] rfl ?_
        exact t_Md_could_64_L33 hV h hK
    · rw [if_neg c2] at h; cases h
set_option maxRecDepth 4000 in
theorem w_Md_could_L33 {V : Sm → Wd} (hV : VwT V) {l : Launch} {Γ : Gm} {rF : Option Value} {wF : Wd} {v1 : Int32} {S : Sm} {k : Nat} {q : Int32 × Int32} {o : Int32} (h : lpN (Md_could_L33 v1 S) k q = some o) (hP : ps_Md_could_L33 V l Γ rF wF v1 S o) : hd_Md_could_L33 V l Γ rF wF v1 S q := lpN_ind2 (hd_Md_could_L33 V l Γ rF wF v1 S) (ps_Md_could_L33 V l Γ rF wF v1 S) (fun s o h hK => t_Md_could_L33 hV h hK) k q o h hP
def Md_could (v1 : Int32) (S : Sm) : Option (Int32 × Sm) := (if (gi S 68 0) = 0 then (Md_could_13 S) else (if (0 : Int32) ≤ v1 then ((Md_layNets ((-1)) S).bind fun q1 => (if v1 < q1.1 then ((lpN (Md_could_L33 v1 q1.2) FU (0, 0)).bind fun q5 => (some ((q5, q1.2)))) else (some (((-1), q1.2))))) else (Md_could_13 S)))
set_option maxRecDepth 4000 in
theorem r_Md_could {V : Sm → Wd} (hV : VwT V) {v1 : Int32} {S : Sm} {q : Int32 × Sm} (h : Md_could v1 S = some q) : Runs 12 mX12_could [.ref 53, .int v1] (V S) (some (.int q.1)) (V q.2) 0 0 := by
  unfold Md_could at h
  refine Runs.of2 [some (.ref 53), some (.int v1), none, none, none] 3 rfl rfl (Nat.le_of_ble_eq_true rfl) (fun l Γ => ?_)
  refine g_aload_n (pc := 0) dX12_could_0 rfl ?_
  refine v_getR hV (pc := 1) dX12_could_1 fo_12_24 rfl k0_53 r0_53_24 ?_
  refine g_iconst (v := 0) (pc := 4) dX12_could_4 (by decide) ?_
  refine v_ialdK hV (k := 0) (pc := 5) dX12_could_5 k0_68 own_68 (by decide) (by decide) ?_
  refine g_if_eq (tgt := 13) (pc := 6) dX12_could_6 (by decide) (fun c8 => ?_) (fun c8 => ?_)
  · rw [if_pos c8] at h
    refine g_wk [false, false, false, false, false] rfl ?_
    exact t_Md_could_13 hV h
  · rw [if_neg c8] at h
    refine g_iload_n (pc := 9) dX12_could_9 rfl ?_
    refine g_if_ge (tgt := 15) (pc := 10) dX12_could_10 (by decide) (fun c7 => ?_) (fun c7 => ?_)
    · rw [if_pos c7] at h
      refine g_aload_n (pc := 15) dX12_could_15 rfl ?_
      refine g_iconst (v := (-1)) (pc := 16) dX12_could_16 (by decide) ?_
      obtain ⟨q1, hq1, h⟩ := bnd h
      refine v_callVi hV (Mc := mX12_layNets) (v := q1.1) (S1 := q1.2) (As := [.int ((-1))]) (rest := []) (q := (RX12, TX12, 58)) (pc := 17) dX12_could_17 mK_X12_461 mf_X12_layNets rfl k0_53 rfl rfl rfl (Nat.le_of_ble_eq_true rfl) ⟨Nat.le_of_ble_eq_true rfl, Nat.le_of_ble_eq_true rfl⟩ (r_Md_layNets hV hq1) ?_
      refine g_istore_n (ls1 := [some (.ref 53), some (.int v1), some (.int q1.1), none, none]) (pc := 20) dX12_could_20 (by decide) rfl ?_
      refine g_iload_n (pc := 21) dX12_could_21 rfl ?_
      refine g_iload_n (pc := 22) dX12_could_22 rfl ?_
      refine g_icmp_lt (tgt := 28) (pc := 23) dX12_could_23 (by decide) (fun c6 => ?_) (fun c6 => ?_)
      · rw [if_pos c6] at h
        refine g_iconst (v := 0) (pc := 28) dX12_could_28 (by decide) ?_
        refine g_istore_n (ls1 := [some (.ref 53), some (.int v1), some (.int q1.1), some (.int 0), none]) (pc := 29) dX12_could_29 (by decide) rfl ?_
        refine g_iconst (v := 0) (pc := 30) dX12_could_30 (by decide) ?_
        refine g_istore (ls1 := [some (.ref 53), some (.int v1), some (.int q1.1), some (.int 0), some (.int 0)]) (pc := 31) dX12_could_31 (by decide) rfl ?_
        refine g_wk [true, true, false, true, true] rfl ?_
        obtain ⟨q5, hqq5, h⟩ := bnd h
        refine w_Md_could_L33 hV hqq5 ?_
        unfold ps_Md_could_L33
        show G _ _ _ _ _ _ _ _ _ _ _
        refine g_iload_n (pc := 72) dX12_could_72 rfl ?_
        cases h
        exact g_iret (pc := 73) dX12_could_73 rfl rfl (Nat.le_refl _) (Nat.le_refl _)
      · rw [if_neg c6] at h
        refine g_iconst (v := (-1)) (pc := 26) dX12_could_26 (by decide) ?_
        cases h
        exact g_iret (pc := 27) dX12_could_27 rfl rfl (Nat.le_refl _) (Nat.le_refl _)
    · rw [if_neg c7] at h
      refine g_wk [false, false, false, false, false] rfl ?_
      exact t_Md_could_13 hV h
def Md_tells_18 (S : Sm) : Option (Int32 × Sm) := (some (((-1), S)))
set_option maxRecDepth 4000 in
theorem t_Md_tells_18 {V : Sm → Wd} (hV : VwT V) {l : Launch} {Γ : Gm}  {S : Sm} {q : Int32 × Sm} (h : Md_tells_18 S = some q) : G mX12_tells l Γ (rmD 12 0 0) (mQ Γ (some (.int q.1)) (V q.2) 0 0) 0 0 18 [none, none, none, none, none, none, none, none] [] (V S) := by
  unfold Md_tells_18 at h
  refine g_iconst (v := (-1)) (pc := 18) dX12_tells_18 (by decide) ?_
  cases h
  exact g_iret (pc := 19) dX12_tells_19 rfl rfl (Nat.le_refl _) (Nat.le_refl _)
def hd_Md_tells_L34 (V : Sm → Wd) (l : Launch) (Γ : Gm) (rF : Option Value) (wF : Wd) (v1 : Int32) (v2 : Int32) (S : Sm) (q : Int32 × Int32 × Int32) : Prop := G mX12_tells l Γ (rmD 12 0 0) (mQ Γ rF wF 0 0) 0 0 34 [some (.ref 53), some (.int v1), some (.int v2), some (.int q.1), some (.int q.2.1), some (.int q.2.2), none, none] [] (V S)
def ps_Md_tells_L34 (V : Sm → Wd) (l : Launch) (Γ : Gm) (rF : Option Value) (wF : Wd) (v1 : Int32) (v2 : Int32) (S : Sm) (x : Int32 × Int32) : Prop := (fun (a : Int32 × Int32) => G mX12_tells l Γ (rmD 12 0 0) (mQ Γ rF wF 0 0) 0 0 111 [none, some (.int v1), none, some (.int a.1), some (.int a.2), none, none, none] [] (V S)) x
def hd_Md_tells_L53 (V : Sm → Wd) (l : Launch) (Γ : Gm) (rF : Option Value) (wF : Wd) (v1 : Int32) (v2 : Int32) (v3 : Int32) (v4 : Int32) (v5 : Int32) (S : Sm) (q : Int32 × Int32) : Prop := G mX12_tells l Γ (rmD 12 0 0) (mQ Γ rF wF 0 0) 0 0 53 [some (.ref 53), some (.int v1), some (.int v2), some (.int v3), some (.int v4), some (.int v5), some (.int q.1), some (.int q.2)] [] (V S)
def ps_Md_tells_L53 (V : Sm → Wd) (l : Launch) (Γ : Gm) (rF : Option Value) (wF : Wd) (v1 : Int32) (v2 : Int32) (v3 : Int32) (v4 : Int32) (v5 : Int32) (S : Sm) (x : Int32) : Prop := (fun (a : Int32) => G mX12_tells l Γ (rmD 12 0 0) (mQ Γ rF wF 0 0) 0 0 86 [some (.ref 53), some (.int v1), some (.int v2), some (.int v3), some (.int v4), some (.int v5), some (.int a), none] [] (V S)) x
def Md_tells_L53 (v1 : Int32) (v2 : Int32) (v3 : Int32) (v4 : Int32) (v5 : Int32) (S : Sm) (q : Int32 × Int32) : Option ((Int32 × Int32) ⊕ (Int32)) := (if (8 : Int32) ≤ q.2 then (some (.inr q.1)) else (if inb ((8 * v5) + q.2) 32 then (some (.inl (iMax q.1 (gi S 86 (ix ((8 * v5) + q.2))), q.2 + 1))) else none))
set_option maxRecDepth 4000 in
theorem t_Md_tells_L53 {V : Sm → Wd} (hV : VwT V) {l : Launch} {Γ : Gm} {rF : Option Value} {wF : Wd} {v1 : Int32} {v2 : Int32} {v3 : Int32} {v4 : Int32} {v5 : Int32} {S : Sm} {q : Int32 × Int32} {o : (Int32 × Int32) ⊕ (Int32)} (h : Md_tells_L53 v1 v2 v3 v4 v5 S q = some o) (hK : Sum.elim (hd_Md_tells_L53 V l Γ rF wF v1 v2 v3 v4 v5 S) (ps_Md_tells_L53 V l Γ rF wF v1 v2 v3 v4 v5 S) o) : hd_Md_tells_L53 V l Γ rF wF v1 v2 v3 v4 v5 S q := by
  unfold Md_tells_L53 at h
  unfold hd_Md_tells_L53
  refine g_iload (pc := 53) dX12_tells_53 rfl ?_
  refine g_bipush (v := 8) (pc := 55) dX12_tells_55 (by decide) ?_
  refine g_icmp_ge (tgt := 86) (pc := 57) dX12_tells_57 (by decide) (fun c3 => ?_) (fun c3 => ?_)
  · rw [if_pos c3] at h
    refine g_wk [true, true, true, true, true, true, true, false] rfl ?_
    cases h
    exact hK
  · rw [if_neg c3] at h
    refine g_iload (pc := 60) dX12_tells_60 rfl ?_
    refine g_aload_n (pc := 62) dX12_tells_62 rfl ?_
    refine v_getR hV (pc := 63) dX12_tells_63 fo_12_51 rfl k0_53 r0_53_51 ?_
    refine g_bipush (v := 8) (pc := 66) dX12_tells_66 (by decide) ?_
    refine g_iload (pc := 68) dX12_tells_68 rfl ?_
    refine g_imul (pc := 70) dX12_tells_70 ?_
    refine g_iload (pc := 71) dX12_tells_71 rfl ?_
    refine g_iadd (pc := 73) dX12_tells_73 ?_
    by_cases c2 : inb ((8 * v5) + q.2) 32
    · rw [if_pos c2] at h
      refine v_iald hV (pc := 74) dX12_tells_74 k0_86 own_86 c2 ?_
      refine g_iMax (pc := 75) dX12_tells_75 mK_X12_331 ⟨Nat.le_of_ble_eq_true rfl, Nat.le_of_ble_eq_true rfl⟩ (Nat.zero_le _) (Nat.zero_le _) ?_
      refine g_istore (ls1 := [some (.ref 53), some (.int v1), some (.int v2), some (.int v3), some (.int v4), some (.int v5), some (.int (iMax q.1 (gi S 86 (ix ((8 * v5) + q.2))))), some (.int q.2)]) (pc := 78) dX12_tells_78 (by decide) rfl ?_
      refine g_iinc (v := q.2 + 1) (ls1 := [some (.ref 53), some (.int v1), some (.int v2), some (.int v3), some (.int v4), some (.int v5), some (.int (iMax q.1 (gi S 86 (ix ((8 * v5) + q.2))))), some (.int (q.2 + 1))]) (pc := 80) dX12_tells_80 rfl rfl (by decide) rfl ?_
      refine g_goto (tgt := 53) (pc := 83) dX12_tells_83 (by decide) ?_
      cases h
      exact hK
    · rw [if_neg c2] at h; cases h
set_option maxRecDepth 4000 in
theorem w_Md_tells_L53 {V : Sm → Wd} (hV : VwT V) {l : Launch} {Γ : Gm} {rF : Option Value} {wF : Wd} {v1 : Int32} {v2 : Int32} {v3 : Int32} {v4 : Int32} {v5 : Int32} {S : Sm} {k : Nat} {q : Int32 × Int32} {o : Int32} (h : lpN (Md_tells_L53 v1 v2 v3 v4 v5 S) k q = some o) (hP : ps_Md_tells_L53 V l Γ rF wF v1 v2 v3 v4 v5 S o) : hd_Md_tells_L53 V l Γ rF wF v1 v2 v3 v4 v5 S q := lpN_ind2 (hd_Md_tells_L53 V l Γ rF wF v1 v2 v3 v4 v5 S) (ps_Md_tells_L53 V l Γ rF wF v1 v2 v3 v4 v5 S) (fun s o h hK => t_Md_tells_L53 hV h hK) k q o h hP
def Md_tells_105_L34 (v1 : Int32) (v2 : Int32) (v3 : Int32) (v4 : Int32) (v5 : Int32) (S : Sm) : Option ((Int32 × Int32 × Int32) ⊕ (Int32 × Int32)) := (some (.inl (v3, v4, v5 + 1)))
set_option maxRecDepth 4000 in
theorem t_Md_tells_105_L34 {V : Sm → Wd} (hV : VwT V) {l : Launch} {Γ : Gm} {v1 : Int32} {v2 : Int32} {v3 : Int32} {v4 : Int32} {v5 : Int32} {rF : Option Value} {wF : Wd} {S : Sm} {o : (Int32 × Int32 × Int32) ⊕ (Int32 × Int32)} (h : Md_tells_105_L34 v1 v2 v3 v4 v5 S = some o) (hK : Sum.elim (hd_Md_tells_L34 V l Γ rF wF v1 v2 S) (ps_Md_tells_L34 V l Γ rF wF v1 v2 S) o) : G mX12_tells l Γ (rmD 12 0 0) (mQ Γ rF wF 0 0) 0 0 105 [some (.ref 53), some (.int v1), some (.int v2), some (.int v3), some (.int v4), some (.int v5), none, none] [] (V S) := by
  unfold Md_tells_105_L34 at h
  refine g_iinc (v := v5 + 1) (ls1 := [some (.ref 53), some (.int v1), some (.int v2), some (.int v3), some (.int v4), some (.int (v5 + 1)), none, none]) (pc := 105) dX12_tells_105 rfl rfl (by decide) rfl ?_
  refine g_goto (tgt := 34) (pc := 108) dX12_tells_108 (by decide) ?_
  cases h
  exact hK
def Md_tells_98_L34 (v1 : Int32) (v2 : Int32) (v5 : Int32) (v6 : Int32) (S : Sm) : Option ((Int32 × Int32 × Int32) ⊕ (Int32 × Int32)) := (Md_tells_105_L34 v1 v2 v5 v6 v5 S)
set_option maxRecDepth 4000 in
theorem t_Md_tells_98_L34 {V : Sm → Wd} (hV : VwT V) {l : Launch} {Γ : Gm} {v1 : Int32} {v2 : Int32} {v5 : Int32} {v6 : Int32} {rF : Option Value} {wF : Wd} {S : Sm} {o : (Int32 × Int32 × Int32) ⊕ (Int32 × Int32)} (h : Md_tells_98_L34 v1 v2 v5 v6 S = some o) (hK : Sum.elim (hd_Md_tells_L34 V l Γ rF wF v1 v2 S) (ps_Md_tells_L34 V l Γ rF wF v1 v2 S) o) : G mX12_tells l Γ (rmD 12 0 0) (mQ Γ rF wF 0 0) 0 0 98 [some (.ref 53), some (.int v1), some (.int v2), none, none, some (.int v5), some (.int v6), none] [] (V S) := by
  unfold Md_tells_98_L34 at h
  refine g_iload (pc := 98) dX12_tells_98 rfl ?_
  refine g_istore_n (ls1 := [some (.ref 53), some (.int v1), some (.int v2), some (.int v5), none, some (.int v5), some (.int v6), none]) (pc := 100) dX12_tells_100 (by decide) rfl ?_
  refine g_iload (pc := 101) dX12_tells_101 rfl ?_
  refine g_istore (ls1 := [some (.ref 53), some (.int v1), some (.int v2), some (.int v5), some (.int v6), some (.int v5), some (.int v6), none]) (pc := 103) dX12_tells_103 (by decide) rfl ?_
  refine g_wk [true, true, true, true, true, true, false, false] rfl ?_
  exact t_Md_tells_105_L34 hV h hK
def Md_tells_L34 (v1 : Int32) (v2 : Int32) (S : Sm) (q : Int32 × Int32 × Int32) : Option ((Int32 × Int32 × Int32) ⊕ (Int32 × Int32)) := (if v2 ≤ q.2.2 then (some (.inr (q.1, q.2.1))) else (if (gi S 53 52) ≤ 0 then (some (.inr (q.1, q.2.1))) else ((lpN (Md_tells_L53 v1 v2 q.1 q.2.1 q.2.2 S) FU (0, 0)).bind fun q4 => (if q.1 = ((-1)) then (Md_tells_98_L34 v1 v2 q.2.2 q4 S) else (if q.2.1 ≤ q4 then (Md_tells_105_L34 v1 v2 q.1 q.2.1 q.2.2 S) else (Md_tells_98_L34 v1 v2 q.2.2 q4 S))))))
set_option maxRecDepth 4000 in
theorem t_Md_tells_L34 {V : Sm → Wd} (hV : VwT V) {l : Launch} {Γ : Gm} {rF : Option Value} {wF : Wd} {v1 : Int32} {v2 : Int32} {S : Sm} {q : Int32 × Int32 × Int32} {o : (Int32 × Int32 × Int32) ⊕ (Int32 × Int32)} (h : Md_tells_L34 v1 v2 S q = some o) (hK : Sum.elim (hd_Md_tells_L34 V l Γ rF wF v1 v2 S) (ps_Md_tells_L34 V l Γ rF wF v1 v2 S) o) : hd_Md_tells_L34 V l Γ rF wF v1 v2 S q := by
  unfold Md_tells_L34 at h
  unfold hd_Md_tells_L34
  refine g_iload (pc := 34) dX12_tells_34 rfl ?_
  refine g_iload_n (pc := 36) dX12_tells_36 rfl ?_
  refine g_icmp_ge (tgt := 111) (pc := 37) dX12_tells_37 (by decide) (fun c8 => ?_) (fun c8 => ?_)
  · rw [if_pos c8] at h
    refine g_wk [false, true, false, true, true, false, false, false] rfl ?_
    cases h
    exact hK
  · rw [if_neg c8] at h
    refine g_aload_n (pc := 40) dX12_tells_40 rfl ?_
    refine v_getI hV (pc := 41) dX12_tells_41 fo_12_52 rfl k0_53 own_53 ?_
    refine g_if_le (tgt := 111) (pc := 44) dX12_tells_44 (by decide) (fun c7 => ?_) (fun c7 => ?_)
    · rw [if_pos c7] at h
      refine g_wk [false, true, false, true, true, false, false, false] rfl ?_
      cases h
      exact hK
    · rw [if_neg c7] at h
      refine g_iconst (v := 0) (pc := 47) dX12_tells_47 (by decide) ?_
      refine g_istore (ls1 := [some (.ref 53), some (.int v1), some (.int v2), some (.int q.1), some (.int q.2.1), some (.int q.2.2), some (.int 0), none]) (pc := 48) dX12_tells_48 (by decide) rfl ?_
      refine g_iconst (v := 0) (pc := 50) dX12_tells_50 (by decide) ?_
      refine g_istore (ls1 := [some (.ref 53), some (.int v1), some (.int v2), some (.int q.1), some (.int q.2.1), some (.int q.2.2), some (.int 0), some (.int 0)]) (pc := 51) dX12_tells_51 (by decide) rfl ?_
      obtain ⟨q4, hqq4, h⟩ := bnd h
      refine w_Md_tells_L53 hV hqq4 ?_
      unfold ps_Md_tells_L53
      show G _ _ _ _ _ _ _ _ _ _ _
      refine g_iload_n (pc := 86) dX12_tells_86 rfl ?_
      refine g_iconst (v := (-1)) (pc := 87) dX12_tells_87 (by decide) ?_
      refine g_icmp_eq (tgt := 98) (pc := 88) dX12_tells_88 (by decide) (fun c6 => ?_) (fun c6 => ?_)
      · rw [if_pos c6] at h
        refine g_wk [true, true, true, false, false, true, true, false] rfl ?_
        exact t_Md_tells_98_L34 hV h hK
      · rw [if_neg c6] at h
        refine g_iload (pc := 91) dX12_tells_91 rfl ?_
        refine g_iload (pc := 93) dX12_tells_93 rfl ?_
        refine g_icmp_ge (tgt := 105) (pc := 95) dX12_tells_95 (by decide) (fun c5 => ?_) (fun c5 => ?_)
        · rw [if_pos c5] at h
          refine g_wk [true, true, true, true, true, true, false, false] rfl ?_
          exact t_Md_tells_105_L34 hV h hK
        · rw [if_neg c5] at h
          refine g_wk [true, true, true, false, false, true, true, false] rfl ?_
          exact t_Md_tells_98_L34 hV h hK
set_option maxRecDepth 4000 in
theorem w_Md_tells_L34 {V : Sm → Wd} (hV : VwT V) {l : Launch} {Γ : Gm} {rF : Option Value} {wF : Wd} {v1 : Int32} {v2 : Int32} {S : Sm} {k : Nat} {q : Int32 × Int32 × Int32} {o : Int32 × Int32} (h : lpN (Md_tells_L34 v1 v2 S) k q = some o) (hP : ps_Md_tells_L34 V l Γ rF wF v1 v2 S o) : hd_Md_tells_L34 V l Γ rF wF v1 v2 S q := lpN_ind2 (hd_Md_tells_L34 V l Γ rF wF v1 v2 S) (ps_Md_tells_L34 V l Γ rF wF v1 v2 S) (fun s o h hK => t_Md_tells_L34 hV h hK) k q o h hP
def Md_tells_130 (s0 : Int32) (S : Sm) : Option (Int32 × Sm) := (some ((s0, S)))
set_option maxRecDepth 4000 in
theorem t_Md_tells_130 {V : Sm → Wd} (hV : VwT V) {l : Launch} {Γ : Gm} {s0 : Int32} {S : Sm} {q : Int32 × Sm} (h : Md_tells_130 s0 S = some q) : G mX12_tells l Γ (rmD 12 0 0) (mQ Γ (some (.int q.1)) (V q.2) 0 0) 0 0 130 [none, none, none, none, none, none, none, none] [.int s0] (V S) := by
  unfold Md_tells_130 at h
  cases h
  exact g_iret (pc := 130) dX12_tells_130 rfl rfl (Nat.le_refl _) (Nat.le_refl _)
def Md_tells (v1 : Int32) (S : Sm) : Option (Int32 × Sm) := (if (gi S 68 0) = 0 then (Md_tells_18 S) else (if (Md_in v1 0 1) = 0 then (Md_tells_18 S) else ((Md_layNets ((-1)) S).bind fun q1 => ((lpN (Md_tells_L34 v1 q1.1 q1.2) FU ((-1), 0, 0)).bind fun q9 => (if q9.1 = ((-1)) then (Md_tells_130 ((-1)) q1.2) else (if v1 = 0 then (Md_tells_130 q9.1 q1.2) else (Md_tells_130 q9.2 q1.2)))))))
set_option maxRecDepth 4000 in
theorem r_Md_tells {V : Sm → Wd} (hV : VwT V) {v1 : Int32} {S : Sm} {q : Int32 × Sm} (h : Md_tells v1 S = some q) : Runs 12 mX12_tells [.ref 53, .int v1] (V S) (some (.int q.1)) (V q.2) 0 0 := by
  unfold Md_tells at h
  refine Runs.of2 [some (.ref 53), some (.int v1), none, none, none, none, none, none] 6 rfl rfl (Nat.le_of_ble_eq_true rfl) (fun l Γ => ?_)
  refine g_aload_n (pc := 0) dX12_tells_0 rfl ?_
  refine v_getR hV (pc := 1) dX12_tells_1 fo_12_24 rfl k0_53 r0_53_24 ?_
  refine g_iconst (v := 0) (pc := 4) dX12_tells_4 (by decide) ?_
  refine v_ialdK hV (k := 0) (pc := 5) dX12_tells_5 k0_68 own_68 (by decide) (by decide) ?_
  refine g_if_eq (tgt := 18) (pc := 6) dX12_tells_6 (by decide) (fun c13 => ?_) (fun c13 => ?_)
  · rw [if_pos c13] at h
    refine g_wk [false, false, false, false, false, false, false, false] rfl ?_
    exact t_Md_tells_18 hV h
  · rw [if_neg c13] at h
    refine g_iload_n (pc := 9) dX12_tells_9 rfl ?_
    refine g_iconst (v := 0) (pc := 10) dX12_tells_10 (by decide) ?_
    refine g_iconst (v := 1) (pc := 11) dX12_tells_11 (by decide) ?_
    refine v_callSi (Mc := mX12_in) (v := Md_in v1 0 1) (S1 := S) (As := [.int v1, .int 0, .int 1]) (rest := []) (pc := 12) dX12_tells_12 mK_X12_238 mf_X12_in rfl rfl (Nat.le_of_ble_eq_true rfl) ⟨Nat.le_of_ble_eq_true rfl, Nat.le_of_ble_eq_true rfl⟩ (r_Md_in hV rfl) ?_
    refine g_if_ne (tgt := 20) (pc := 15) dX12_tells_15 (by decide) (fun c12 => ?_) (fun c12 => ?_)
    · rw [if_neg c12] at h
      refine g_aload_n (pc := 20) dX12_tells_20 rfl ?_
      refine g_iconst (v := (-1)) (pc := 21) dX12_tells_21 (by decide) ?_
      obtain ⟨q1, hq1, h⟩ := bnd h
      refine v_callVi hV (Mc := mX12_layNets) (v := q1.1) (S1 := q1.2) (As := [.int ((-1))]) (rest := []) (q := (RX12, TX12, 58)) (pc := 22) dX12_tells_22 mK_X12_461 mf_X12_layNets rfl k0_53 rfl rfl rfl (Nat.le_of_ble_eq_true rfl) ⟨Nat.le_of_ble_eq_true rfl, Nat.le_of_ble_eq_true rfl⟩ (r_Md_layNets hV hq1) ?_
      refine g_istore_n (ls1 := [some (.ref 53), some (.int v1), some (.int q1.1), none, none, none, none, none]) (pc := 25) dX12_tells_25 (by decide) rfl ?_
      refine g_iconst (v := (-1)) (pc := 26) dX12_tells_26 (by decide) ?_
      refine g_istore_n (ls1 := [some (.ref 53), some (.int v1), some (.int q1.1), some (.int ((-1))), none, none, none, none]) (pc := 27) dX12_tells_27 (by decide) rfl ?_
      refine g_iconst (v := 0) (pc := 28) dX12_tells_28 (by decide) ?_
      refine g_istore (ls1 := [some (.ref 53), some (.int v1), some (.int q1.1), some (.int ((-1))), some (.int 0), none, none, none]) (pc := 29) dX12_tells_29 (by decide) rfl ?_
      refine g_iconst (v := 0) (pc := 31) dX12_tells_31 (by decide) ?_
      refine g_istore (ls1 := [some (.ref 53), some (.int v1), some (.int q1.1), some (.int ((-1))), some (.int 0), some (.int 0), none, none]) (pc := 32) dX12_tells_32 (by decide) rfl ?_
      obtain ⟨q9, hqq9, h⟩ := bnd h
      refine w_Md_tells_L34 hV hqq9 ?_
      unfold ps_Md_tells_L34
      show G _ _ _ _ _ _ _ _ _ _ _
      refine g_iload_n (pc := 111) dX12_tells_111 rfl ?_
      refine g_iconst (v := (-1)) (pc := 112) dX12_tells_112 (by decide) ?_
      refine g_icmp_ne (tgt := 120) (pc := 113) dX12_tells_113 (by decide) (fun c11 => ?_) (fun c11 => ?_)
      · rw [if_neg c11] at h
        refine g_iload_n (pc := 120) dX12_tells_120 rfl ?_
        refine g_if_ne (tgt := 128) (pc := 121) dX12_tells_121 (by decide) (fun c10 => ?_) (fun c10 => ?_)
        · rw [if_neg c10] at h
          refine g_iload (pc := 128) dX12_tells_128 rfl ?_
          refine g_wk [false, false, false, false, false, false, false, false] rfl ?_
          exact t_Md_tells_130 hV h
        · rw [if_pos c10] at h
          refine g_iload_n (pc := 124) dX12_tells_124 rfl ?_
          refine g_goto (tgt := 130) (pc := 125) dX12_tells_125 (by decide) ?_
          refine g_wk [false, false, false, false, false, false, false, false] rfl ?_
          exact t_Md_tells_130 hV h
      · rw [if_pos c11] at h
        refine g_iconst (v := (-1)) (pc := 116) dX12_tells_116 (by decide) ?_
        refine g_goto (tgt := 130) (pc := 117) dX12_tells_117 (by decide) ?_
        refine g_wk [false, false, false, false, false, false, false, false] rfl ?_
        exact t_Md_tells_130 hV h
    · rw [if_pos c12] at h
      refine g_wk [false, false, false, false, false, false, false, false] rfl ?_
      exact t_Md_tells_18 hV h
def hd_Md_comesOut_L6 (V : Sm → Wd) (l : Launch) (Γ : Gm) (rF : Option Value) (wF : Wd) (v2 : Int32) (v3 : Int32) (v4 : Int32) (S : Sm) (q : Int32 × Int32) : Prop := G mX12_comesOut l Γ (rmD 1 0 0) (mQ Γ rF wF 0 0) 0 0 6 [some (.ref 53), none, some (.int v2), some (.int v3), some (.int v4), some (.int q.1), some (.int q.2), none] [] (V S)
def ps_Md_comesOut_L6 (V : Sm → Wd) (l : Launch) (Γ : Gm) (rF : Option Value) (wF : Wd) (v2 : Int32) (v3 : Int32) (v4 : Int32) (S : Sm) (x : Int32 × Int32) : Prop := (fun (a : Int32 × Int32) => G mX12_comesOut l Γ (rmD 1 0 0) (mQ Γ rF wF 0 0) 0 0 47 [none, none, none, some (.int v3), some (.int v4), some (.int a.1), some (.int a.2), none] [] (V S)) x
def Md_comesOut_L6 (v2 : Int32) (v3 : Int32) (v4 : Int32) (S : Sm) (q : Int32 × Int32) : Option ((Int32 × Int32) ⊕ (Int32 × Int32)) := (if v3 ≤ q.1 then (some (.inr (q.1, q.2))) else ((Md_faded v2 q.1 S).bind fun q1 => ((Md_lasts q.2 q1 S).bind fun q2 => ((Md_leads q.2 q1 S).bind fun q3 => (some (.inl (q.1 + q2, q3)))))))
set_option maxRecDepth 4000 in
theorem t_Md_comesOut_L6 {V : Sm → Wd} (hV : VwT V) {l : Launch} {Γ : Gm} {rF : Option Value} {wF : Wd} {v2 : Int32} {v3 : Int32} {v4 : Int32} {S : Sm} {q : Int32 × Int32} {o : (Int32 × Int32) ⊕ (Int32 × Int32)} (h : Md_comesOut_L6 v2 v3 v4 S q = some o) (hK : Sum.elim (hd_Md_comesOut_L6 V l Γ rF wF v2 v3 v4 S) (ps_Md_comesOut_L6 V l Γ rF wF v2 v3 v4 S) o) : hd_Md_comesOut_L6 V l Γ rF wF v2 v3 v4 S q := by
  unfold Md_comesOut_L6 at h
  unfold hd_Md_comesOut_L6
  refine g_iload (pc := 6) dX12_comesOut_6 rfl ?_
  refine g_iload_n (pc := 8) dX12_comesOut_8 rfl ?_
  refine g_icmp_ge (tgt := 47) (pc := 9) dX12_comesOut_9 (by decide) (fun c4 => ?_) (fun c4 => ?_)
  · rw [if_pos c4] at h
    refine g_wk [false, false, false, true, true, true, true, false] rfl ?_
    cases h
    exact hK
  · rw [if_neg c4] at h
    refine g_aload_n (pc := 12) dX12_comesOut_12 rfl ?_
    refine g_iload_n (pc := 13) dX12_comesOut_13 rfl ?_
    refine g_iload (pc := 14) dX12_comesOut_14 rfl ?_
    obtain ⟨q1, hq1, h⟩ := bnd h
    refine v_callVi hV (Mc := mX12_faded) (v := q1) (S1 := S) (As := [.int v2, .int q.1]) (rest := []) (q := (RX12, TX12, 58)) (pc := 16) dX12_comesOut_16 mK_X12_346 mf_X12_faded rfl k0_53 rfl rfl rfl (Nat.le_of_ble_eq_true rfl) ⟨Nat.le_of_ble_eq_true rfl, Nat.le_of_ble_eq_true rfl⟩ (r_Md_faded hV hq1) ?_
    refine g_istore (ls1 := [some (.ref 53), none, some (.int v2), some (.int v3), some (.int v4), some (.int q.1), some (.int q.2), some (.int q1)]) (pc := 19) dX12_comesOut_19 (by decide) rfl ?_
    refine g_iload (pc := 21) dX12_comesOut_21 rfl ?_
    refine g_aload_n (pc := 23) dX12_comesOut_23 rfl ?_
    refine g_iload (pc := 24) dX12_comesOut_24 rfl ?_
    refine g_iload (pc := 26) dX12_comesOut_26 rfl ?_
    obtain ⟨q2, hq2, h⟩ := bnd h
    refine v_callVi hV (Mc := mX12_lasts) (v := q2) (S1 := S) (As := [.int q.2, .int q1]) (rest := [.int q.1]) (q := (RX12, TX12, 58)) (pc := 28) dX12_comesOut_28 mK_X12_320 mf_X12_lasts rfl k0_53 rfl rfl rfl (Nat.le_of_ble_eq_true rfl) ⟨Nat.le_of_ble_eq_true rfl, Nat.le_of_ble_eq_true rfl⟩ (r_Md_lasts hV hq2) ?_
    refine g_iadd (pc := 31) dX12_comesOut_31 ?_
    refine g_istore (ls1 := [some (.ref 53), none, some (.int v2), some (.int v3), some (.int v4), some (.int (q.1 + q2)), some (.int q.2), some (.int q1)]) (pc := 32) dX12_comesOut_32 (by decide) rfl ?_
    refine g_aload_n (pc := 34) dX12_comesOut_34 rfl ?_
    refine g_iload (pc := 35) dX12_comesOut_35 rfl ?_
    refine g_iload (pc := 37) dX12_comesOut_37 rfl ?_
    obtain ⟨q3, hq3, h⟩ := bnd h
    refine v_callVi hV (Mc := mX12_leads) (v := q3) (S1 := S) (As := [.int q.2, .int q1]) (rest := []) (q := (RX12, TX12, 58)) (pc := 39) dX12_comesOut_39 mK_X12_323 mf_X12_leads rfl k0_53 rfl rfl rfl (Nat.le_of_ble_eq_true rfl) ⟨Nat.le_of_ble_eq_true rfl, Nat.le_of_ble_eq_true rfl⟩ (r_Md_leads hV hq3) ?_
    refine g_istore (ls1 := [some (.ref 53), none, some (.int v2), some (.int v3), some (.int v4), some (.int (q.1 + q2)), some (.int q3), some (.int q1)]) (pc := 42) dX12_comesOut_42 (by decide) rfl ?_
    refine g_goto (tgt := 6) (pc := 44) dX12_comesOut_44 (by decide) ?_
    refine g_wk [true, false, true, true, true, true, true, false] rfl ?_
    cases h
    exact hK
set_option maxRecDepth 4000 in
theorem w_Md_comesOut_L6 {V : Sm → Wd} (hV : VwT V) {l : Launch} {Γ : Gm} {rF : Option Value} {wF : Wd} {v2 : Int32} {v3 : Int32} {v4 : Int32} {S : Sm} {k : Nat} {q : Int32 × Int32} {o : Int32 × Int32} (h : lpN (Md_comesOut_L6 v2 v3 v4 S) k q = some o) (hP : ps_Md_comesOut_L6 V l Γ rF wF v2 v3 v4 S o) : hd_Md_comesOut_L6 V l Γ rF wF v2 v3 v4 S q := lpN_ind2 (hd_Md_comesOut_L6 V l Γ rF wF v2 v3 v4 S) (ps_Md_comesOut_L6 V l Γ rF wF v2 v3 v4 S) (fun s o h hK => t_Md_comesOut_L6 hV h hK) k q o h hP
def Md_comesOut_65 (s0 : Int32) (S : Sm) : Option (Int32) := (some (s0 &&& 1))
set_option maxRecDepth 4000 in
theorem t_Md_comesOut_65 {V : Sm → Wd} (hV : VwT V) {l : Launch} {Γ : Gm} {s0 : Int32} {S : Sm} {q : Int32} (h : Md_comesOut_65 s0 S = some q) : G mX12_comesOut l Γ (rmD 1 0 0) (mQ Γ (some (.int q)) (V S) 0 0) 0 0 65 [none, none, none, none, none, none, none, none] [.int s0] (V S) := by
  unfold Md_comesOut_65 at h
  cases h
  exact g_iret (pc := 65) dX12_comesOut_65 rfl rfl (Nat.le_refl _) (Nat.le_refl _)
def Md_comesOut_64 (S : Sm) : Option (Int32) := (Md_comesOut_65 0 S)
set_option maxRecDepth 4000 in
theorem t_Md_comesOut_64 {V : Sm → Wd} (hV : VwT V) {l : Launch} {Γ : Gm}  {S : Sm} {q : Int32} (h : Md_comesOut_64 S = some q) : G mX12_comesOut l Γ (rmD 1 0 0) (mQ Γ (some (.int q)) (V S) 0 0) 0 0 64 [none, none, none, none, none, none, none, none] [] (V S) := by
  unfold Md_comesOut_64 at h
  refine g_iconst (v := 0) (pc := 64) dX12_comesOut_64 (by decide) ?_
  exact t_Md_comesOut_65 hV h
def Md_comesOut (v1 : Int32) (v2 : Int32) (v3 : Int32) (v4 : Int32) (S : Sm) : Option (Int32) := ((lpN (Md_comesOut_L6 v2 v3 v4 S) FU (0, v1)).bind fun q5 => (if q5.1 = v3 then (if q5.2 = v4 then (Md_comesOut_65 1 S) else (Md_comesOut_64 S)) else (Md_comesOut_64 S)))
set_option maxRecDepth 4000 in
theorem r_Md_comesOut {V : Sm → Wd} (hV : VwT V) {v1 : Int32} {v2 : Int32} {v3 : Int32} {v4 : Int32} {S : Sm} {q : Int32} (h : Md_comesOut v1 v2 v3 v4 S = some q) : Runs 1 mX12_comesOut [.ref 53, .int v1, .int v2, .int v3, .int v4] (V S) (some (.int q)) (V S) 0 0 := by
  unfold Md_comesOut at h
  refine Runs.of2 [some (.ref 53), some (.int v1), some (.int v2), some (.int v3), some (.int v4), none, none, none] 3 rfl rfl (Nat.le_of_ble_eq_true rfl) (fun l Γ => ?_)
  refine g_iconst (v := 0) (pc := 0) dX12_comesOut_0 (by decide) ?_
  refine g_istore (ls1 := [some (.ref 53), some (.int v1), some (.int v2), some (.int v3), some (.int v4), some (.int 0), none, none]) (pc := 1) dX12_comesOut_1 (by decide) rfl ?_
  refine g_iload_n (pc := 3) dX12_comesOut_3 rfl ?_
  refine g_istore (ls1 := [some (.ref 53), some (.int v1), some (.int v2), some (.int v3), some (.int v4), some (.int 0), some (.int v1), none]) (pc := 4) dX12_comesOut_4 (by decide) rfl ?_
  refine g_wk [true, false, true, true, true, true, true, false] rfl ?_
  obtain ⟨q5, hqq5, h⟩ := bnd h
  refine w_Md_comesOut_L6 hV hqq5 ?_
  unfold ps_Md_comesOut_L6
  show G _ _ _ _ _ _ _ _ _ _ _
  refine g_iload (pc := 47) dX12_comesOut_47 rfl ?_
  refine g_iload_n (pc := 49) dX12_comesOut_49 rfl ?_
  refine g_icmp_ne (tgt := 64) (pc := 50) dX12_comesOut_50 (by decide) (fun c7 => ?_) (fun c7 => ?_)
  · rw [if_neg c7] at h
    refine g_wk [false, false, false, false, false, false, false, false] rfl ?_
    exact t_Md_comesOut_64 hV h
  · rw [if_pos c7] at h
    refine g_iload (pc := 53) dX12_comesOut_53 rfl ?_
    refine g_iload (pc := 55) dX12_comesOut_55 rfl ?_
    refine g_icmp_ne (tgt := 64) (pc := 57) dX12_comesOut_57 (by decide) (fun c6 => ?_) (fun c6 => ?_)
    · rw [if_neg c6] at h
      refine g_wk [false, false, false, false, false, false, false, false] rfl ?_
      exact t_Md_comesOut_64 hV h
    · rw [if_pos c6] at h
      refine g_iconst (v := 1) (pc := 60) dX12_comesOut_60 (by decide) ?_
      refine g_goto (tgt := 65) (pc := 61) dX12_comesOut_61 (by decide) ?_
      refine g_wk [false, false, false, false, false, false, false, false] rfl ?_
      exact t_Md_comesOut_65 hV h
def Md_yards_26 (S : Sm) : Option (Int32) := (some ((-1)))
set_option maxRecDepth 4000 in
theorem t_Md_yards_26 {V : Sm → Wd} (hV : VwT V) {l : Launch} {Γ : Gm}  {S : Sm} {q : Int32} (h : Md_yards_26 S = some q) : G mX12_yards l Γ (rmD 3 0 0) (mQ Γ (some (.int q)) (V S) 0 0) 0 0 26 [none, none, none, none, none, none] [] (V S) := by
  unfold Md_yards_26 at h
  refine g_iconst (v := (-1)) (pc := 26) dX12_yards_26 (by decide) ?_
  cases h
  exact g_iret (pc := 27) dX12_yards_27 rfl rfl (Nat.le_refl _) (Nat.le_refl _)
def hd_Md_yards_L34 (V : Sm → Wd) (l : Launch) (Γ : Gm) (rF : Option Value) (wF : Wd) (v1 : Int32) (v2 : Int32) (v3 : Int32) (S : Sm) (q : Int32 × Int32) : Prop := G mX12_yards l Γ (rmD 3 0 0) (mQ Γ rF wF 0 0) 0 0 34 [some (.ref 53), some (.int v1), some (.int v2), some (.int v3), some (.int q.1), some (.int q.2)] [] (V S)
def ps_Md_yards_L34 (V : Sm → Wd) (l : Launch) (Γ : Gm) (rF : Option Value) (wF : Wd) (v1 : Int32) (v2 : Int32) (v3 : Int32) (S : Sm) (x : Int32) : Prop := (fun (a : Int32) => G mX12_yards l Γ (rmD 3 0 0) (mQ Γ rF wF 0 0) 0 0 76 [none, none, none, none, some (.int a), none] [] (V S)) x
def Md_yards_67_L34 (v1 : Int32) (v2 : Int32) (v3 : Int32) (v5 : Int32) (s0 : Int32) (s1 : Int32) (S : Sm) : Option ((Int32 × Int32) ⊕ (Int32)) := (some (.inl (s0 ||| s1, v5 + 1)))
set_option maxRecDepth 4000 in
theorem t_Md_yards_67_L34 {V : Sm → Wd} (hV : VwT V) {l : Launch} {Γ : Gm} {v1 : Int32} {v2 : Int32} {v3 : Int32} {v5 : Int32} {s0 : Int32} {s1 : Int32} {rF : Option Value} {wF : Wd} {S : Sm} {o : (Int32 × Int32) ⊕ (Int32)} (h : Md_yards_67_L34 v1 v2 v3 v5 s0 s1 S = some o) (hK : Sum.elim (hd_Md_yards_L34 V l Γ rF wF v1 v2 v3 S) (ps_Md_yards_L34 V l Γ rF wF v1 v2 v3 S) o) : G mX12_yards l Γ (rmD 3 0 0) (mQ Γ rF wF 0 0) 0 0 67 [some (.ref 53), some (.int v1), some (.int v2), some (.int v3), none, some (.int v5)] [.int s1, .int s0] (V S) := by
  unfold Md_yards_67_L34 at h
  refine g_ior (pc := 67) dX12_yards_67 ?_
  refine g_istore (ls1 := [some (.ref 53), some (.int v1), some (.int v2), some (.int v3), some (.int (s0 ||| s1)), some (.int v5)]) (pc := 68) dX12_yards_68 (by decide) rfl ?_
  refine g_iinc (v := v5 + 1) (ls1 := [some (.ref 53), some (.int v1), some (.int v2), some (.int v3), some (.int (s0 ||| s1)), some (.int (v5 + 1))]) (pc := 70) dX12_yards_70 rfl rfl (by decide) rfl ?_
  refine g_goto (tgt := 34) (pc := 73) dX12_yards_73 (by decide) ?_
  cases h
  exact hK
def Md_yards_L34 (v1 : Int32) (v2 : Int32) (v3 : Int32) (S : Sm) (q : Int32 × Int32) : Option ((Int32 × Int32) ⊕ (Int32)) := (if (gi S 68 0) ≤ q.2 then (some (.inr q.1)) else ((Md_comesOut q.2 v2 v3 v1 S).bind fun q1 => (if q1 = 0 then (Md_yards_67_L34 v1 v2 v3 q.2 q.1 0 S) else (Md_yards_67_L34 v1 v2 v3 q.2 q.1 (iShl 1 q.2) S))))
set_option maxRecDepth 4000 in
theorem t_Md_yards_L34 {V : Sm → Wd} (hV : VwT V) {l : Launch} {Γ : Gm} {rF : Option Value} {wF : Wd} {v1 : Int32} {v2 : Int32} {v3 : Int32} {S : Sm} {q : Int32 × Int32} {o : (Int32 × Int32) ⊕ (Int32)} (h : Md_yards_L34 v1 v2 v3 S q = some o) (hK : Sum.elim (hd_Md_yards_L34 V l Γ rF wF v1 v2 v3 S) (ps_Md_yards_L34 V l Γ rF wF v1 v2 v3 S) o) : hd_Md_yards_L34 V l Γ rF wF v1 v2 v3 S q := by
  unfold Md_yards_L34 at h
  unfold hd_Md_yards_L34
  refine g_iload (pc := 34) dX12_yards_34 rfl ?_
  refine g_aload_n (pc := 36) dX12_yards_36 rfl ?_
  refine v_getR hV (pc := 37) dX12_yards_37 fo_12_24 rfl k0_53 r0_53_24 ?_
  refine g_iconst (v := 0) (pc := 40) dX12_yards_40 (by decide) ?_
  refine v_ialdK hV (k := 0) (pc := 41) dX12_yards_41 k0_68 own_68 (by decide) (by decide) ?_
  refine g_icmp_ge (tgt := 76) (pc := 42) dX12_yards_42 (by decide) (fun c3 => ?_) (fun c3 => ?_)
  · rw [if_pos c3] at h
    refine g_wk [false, false, false, false, true, false] rfl ?_
    cases h
    exact hK
  · rw [if_neg c3] at h
    refine g_iload (pc := 45) dX12_yards_45 rfl ?_
    refine g_aload_n (pc := 47) dX12_yards_47 rfl ?_
    refine g_iload (pc := 48) dX12_yards_48 rfl ?_
    refine g_iload_n (pc := 50) dX12_yards_50 rfl ?_
    refine g_iload_n (pc := 51) dX12_yards_51 rfl ?_
    refine g_iload_n (pc := 52) dX12_yards_52 rfl ?_
    obtain ⟨q1, hq1, h⟩ := bnd h
    refine v_callVi hV (Mc := mX12_comesOut) (v := q1) (S1 := S) (As := [.int q.2, .int v2, .int v3, .int v1]) (rest := [.int q.1]) (q := (RX12, TX12, 58)) (pc := 53) dX12_yards_53 mK_X12_464 mf_X12_comesOut rfl k0_53 rfl rfl rfl (Nat.le_of_ble_eq_true rfl) ⟨Nat.le_of_ble_eq_true rfl, Nat.le_of_ble_eq_true rfl⟩ (r_Md_comesOut hV hq1) ?_
    refine g_if_eq (tgt := 66) (pc := 56) dX12_yards_56 (by decide) (fun c2 => ?_) (fun c2 => ?_)
    · rw [if_pos c2] at h
      refine g_iconst (v := 0) (pc := 66) dX12_yards_66 (by decide) ?_
      refine g_wk [true, true, true, true, false, true] rfl ?_
      exact t_Md_yards_67_L34 hV h hK
    · rw [if_neg c2] at h
      refine g_iconst (v := 1) (pc := 59) dX12_yards_59 (by decide) ?_
      refine g_iload (pc := 60) dX12_yards_60 rfl ?_
      refine g_ishl (pc := 62) dX12_yards_62 ?_
      refine g_goto (tgt := 67) (pc := 63) dX12_yards_63 (by decide) ?_
      refine g_wk [true, true, true, true, false, true] rfl ?_
      exact t_Md_yards_67_L34 hV h hK
set_option maxRecDepth 4000 in
theorem w_Md_yards_L34 {V : Sm → Wd} (hV : VwT V) {l : Launch} {Γ : Gm} {rF : Option Value} {wF : Wd} {v1 : Int32} {v2 : Int32} {v3 : Int32} {S : Sm} {k : Nat} {q : Int32 × Int32} {o : Int32} (h : lpN (Md_yards_L34 v1 v2 v3 S) k q = some o) (hP : ps_Md_yards_L34 V l Γ rF wF v1 v2 v3 S o) : hd_Md_yards_L34 V l Γ rF wF v1 v2 v3 S q := lpN_ind2 (hd_Md_yards_L34 V l Γ rF wF v1 v2 v3 S) (ps_Md_yards_L34 V l Γ rF wF v1 v2 v3 S) (fun s o h hK => t_Md_yards_L34 hV h hK) k q o h hP
def Md_yards (v1 : Int32) (v2 : Int32) (v3 : Int32) (S : Sm) : Option (Int32) := (if (Md_isMouth v1 S) = 0 then (Md_yards_26 S) else (if (Md_isLamp v2 S) = 0 then (Md_yards_26 S) else (if (Md_in v3 0 60) = 0 then (Md_yards_26 S) else ((lpN (Md_yards_L34 v1 v2 v3 S) FU (0, 0)).bind fun q4 => (some q4)))))
set_option maxRecDepth 4000 in
theorem r_Md_yards {V : Sm → Wd} (hV : VwT V) {v1 : Int32} {v2 : Int32} {v3 : Int32} {S : Sm} {q : Int32} (h : Md_yards v1 v2 v3 S = some q) : Runs 3 mX12_yards [.ref 53, .int v1, .int v2, .int v3] (V S) (some (.int q)) (V S) 0 0 := by
  unfold Md_yards at h
  refine Runs.of2 [some (.ref 53), some (.int v1), some (.int v2), some (.int v3), none, none] 2 rfl rfl (Nat.le_of_ble_eq_true rfl) (fun l Γ => ?_)
  refine g_aload_n (pc := 0) dX12_yards_0 rfl ?_
  refine g_iload_n (pc := 1) dX12_yards_1 rfl ?_
  refine v_callVi hV (Mc := mX12_isMouth) (v := Md_isMouth v1 S) (S1 := S) (As := [.int v1]) (rest := []) (q := (RX12, TX12, 58)) (pc := 2) dX12_yards_2 mK_X12_333 mf_X12_isMouth rfl k0_53 rfl rfl rfl (Nat.le_of_ble_eq_true rfl) ⟨Nat.le_of_ble_eq_true rfl, Nat.le_of_ble_eq_true rfl⟩ (r_Md_isMouth hV rfl) ?_
  refine g_if_eq (tgt := 26) (pc := 5) dX12_yards_5 (by decide) (fun c7 => ?_) (fun c7 => ?_)
  · rw [if_pos c7] at h
    refine g_wk [false, false, false, false, false, false] rfl ?_
    exact t_Md_yards_26 hV h
  · rw [if_neg c7] at h
    refine g_aload_n (pc := 8) dX12_yards_8 rfl ?_
    refine g_iload_n (pc := 9) dX12_yards_9 rfl ?_
    refine v_callVi hV (Mc := mX12_isLamp) (v := Md_isLamp v2 S) (S1 := S) (As := [.int v2]) (rest := []) (q := (RX12, TX12, 58)) (pc := 10) dX12_yards_10 mK_X12_336 mf_X12_isLamp rfl k0_53 rfl rfl rfl (Nat.le_of_ble_eq_true rfl) ⟨Nat.le_of_ble_eq_true rfl, Nat.le_of_ble_eq_true rfl⟩ (r_Md_isLamp hV rfl) ?_
    refine g_if_eq (tgt := 26) (pc := 13) dX12_yards_13 (by decide) (fun c6 => ?_) (fun c6 => ?_)
    · rw [if_pos c6] at h
      refine g_wk [false, false, false, false, false, false] rfl ?_
      exact t_Md_yards_26 hV h
    · rw [if_neg c6] at h
      refine g_iload_n (pc := 16) dX12_yards_16 rfl ?_
      refine g_iconst (v := 0) (pc := 17) dX12_yards_17 (by decide) ?_
      refine g_bipush (v := 60) (pc := 18) dX12_yards_18 (by decide) ?_
      refine v_callSi (Mc := mX12_in) (v := Md_in v3 0 60) (S1 := S) (As := [.int v3, .int 0, .int 60]) (rest := []) (pc := 20) dX12_yards_20 mK_X12_238 mf_X12_in rfl rfl (Nat.le_of_ble_eq_true rfl) ⟨Nat.le_of_ble_eq_true rfl, Nat.le_of_ble_eq_true rfl⟩ (r_Md_in hV rfl) ?_
      refine g_if_ne (tgt := 28) (pc := 23) dX12_yards_23 (by decide) (fun c5 => ?_) (fun c5 => ?_)
      · rw [if_neg c5] at h
        refine g_iconst (v := 0) (pc := 28) dX12_yards_28 (by decide) ?_
        refine g_istore (ls1 := [some (.ref 53), some (.int v1), some (.int v2), some (.int v3), some (.int 0), none]) (pc := 29) dX12_yards_29 (by decide) rfl ?_
        refine g_iconst (v := 0) (pc := 31) dX12_yards_31 (by decide) ?_
        refine g_istore (ls1 := [some (.ref 53), some (.int v1), some (.int v2), some (.int v3), some (.int 0), some (.int 0)]) (pc := 32) dX12_yards_32 (by decide) rfl ?_
        obtain ⟨q4, hqq4, h⟩ := bnd h
        refine w_Md_yards_L34 hV hqq4 ?_
        unfold ps_Md_yards_L34
        show G _ _ _ _ _ _ _ _ _ _ _
        refine g_iload (pc := 76) dX12_yards_76 rfl ?_
        cases h
        exact g_iret (pc := 78) dX12_yards_78 rfl rfl (Nat.le_refl _) (Nat.le_refl _)
      · rw [if_pos c5] at h
        refine g_wk [false, false, false, false, false, false] rfl ?_
        exact t_Md_yards_26 hV h
def hd_Md_guarded_L4 (V : Sm → Wd) (l : Launch) (Γ : Gm) (rF : Option Value) (wF : Wd) (S : Sm) (q : Int32 × Int32) : Prop := G mX12_guarded l Γ (rmD 0 0 0) (mQ Γ rF wF 0 0) 0 0 4 [some (.ref 53), some (.int q.1), some (.int q.2)] [] (V S)
def ps_Md_guarded_L4 (V : Sm → Wd) (l : Launch) (Γ : Gm) (rF : Option Value) (wF : Wd) (S : Sm) (x : Int32) : Prop := (fun (a : Int32) => G mX12_guarded l Γ (rmD 0 0 0) (mQ Γ rF wF 0 0) 0 0 42 [none, some (.int a), none] [] (V S)) x
def Md_guarded_34_L4 (v2 : Int32) (s0 : Int32) (s1 : Int32) (S : Sm) : Option ((Int32 × Int32) ⊕ (Int32)) := (some (.inl (s0 ||| s1, v2 + 1)))
set_option maxRecDepth 4000 in
theorem t_Md_guarded_34_L4 {V : Sm → Wd} (hV : VwT V) {l : Launch} {Γ : Gm} {v2 : Int32} {s0 : Int32} {s1 : Int32} {rF : Option Value} {wF : Wd} {S : Sm} {o : (Int32 × Int32) ⊕ (Int32)} (h : Md_guarded_34_L4 v2 s0 s1 S = some o) (hK : Sum.elim (hd_Md_guarded_L4 V l Γ rF wF S) (ps_Md_guarded_L4 V l Γ rF wF S) o) : G mX12_guarded l Γ (rmD 0 0 0) (mQ Γ rF wF 0 0) 0 0 34 [some (.ref 53), none, some (.int v2)] [.int s1, .int s0] (V S) := by
  unfold Md_guarded_34_L4 at h
  refine g_ior (pc := 34) dX12_guarded_34 ?_
  refine g_istore_n (ls1 := [some (.ref 53), some (.int (s0 ||| s1)), some (.int v2)]) (pc := 35) dX12_guarded_35 (by decide) rfl ?_
  refine g_iinc (v := v2 + 1) (ls1 := [some (.ref 53), some (.int (s0 ||| s1)), some (.int (v2 + 1))]) (pc := 36) dX12_guarded_36 rfl rfl (by decide) rfl ?_
  refine g_goto (tgt := 4) (pc := 39) dX12_guarded_39 (by decide) ?_
  cases h
  exact hK
def Md_guarded_L4 (S : Sm) (q : Int32 × Int32) : Option ((Int32 × Int32) ⊕ (Int32)) := (if (gi S 68 0) ≤ q.2 then (some (.inr q.1)) else (if inb (80 + q.2) 320 then (if (gi S 70 (ix (80 + q.2))) ≤ 0 then (Md_guarded_34_L4 q.2 q.1 0 S) else (Md_guarded_34_L4 q.2 q.1 (iShl 1 q.2) S)) else none))
set_option maxRecDepth 4000 in
theorem t_Md_guarded_L4 {V : Sm → Wd} (hV : VwT V) {l : Launch} {Γ : Gm} {rF : Option Value} {wF : Wd} {S : Sm} {q : Int32 × Int32} {o : (Int32 × Int32) ⊕ (Int32)} (h : Md_guarded_L4 S q = some o) (hK : Sum.elim (hd_Md_guarded_L4 V l Γ rF wF S) (ps_Md_guarded_L4 V l Γ rF wF S) o) : hd_Md_guarded_L4 V l Γ rF wF S q := by
  unfold Md_guarded_L4 at h
  unfold hd_Md_guarded_L4
  refine g_iload_n (pc := 4) dX12_guarded_4 rfl ?_
  refine g_aload_n (pc := 5) dX12_guarded_5 rfl ?_
  refine v_getR hV (pc := 6) dX12_guarded_6 fo_12_24 rfl k0_53 r0_53_24 ?_
  refine g_iconst (v := 0) (pc := 9) dX12_guarded_9 (by decide) ?_
  refine v_ialdK hV (k := 0) (pc := 10) dX12_guarded_10 k0_68 own_68 (by decide) (by decide) ?_
  refine g_icmp_ge (tgt := 42) (pc := 11) dX12_guarded_11 (by decide) (fun c3 => ?_) (fun c3 => ?_)
  · rw [if_pos c3] at h
    refine g_wk [false, true, false] rfl ?_
    cases h
    exact hK
  · rw [if_neg c3] at h
    refine g_iload_n (pc := 14) dX12_guarded_14 rfl ?_
    refine g_aload_n (pc := 15) dX12_guarded_15 rfl ?_
    refine v_getR hV (pc := 16) dX12_guarded_16 fo_12_27 rfl k0_53 r0_53_27 ?_
    refine g_bipush (v := 80) (pc := 19) dX12_guarded_19 (by decide) ?_
    refine g_iload_n (pc := 21) dX12_guarded_21 rfl ?_
    refine g_iadd (pc := 22) dX12_guarded_22 ?_
    by_cases c1 : inb (80 + q.2) 320
    · rw [if_pos c1] at h
      refine v_iald hV (pc := 23) dX12_guarded_23 k0_70 own_70 c1 ?_
      refine g_if_le (tgt := 33) (pc := 24) dX12_guarded_24 (by decide) (fun c2 => ?_) (fun c2 => ?_)
      · rw [if_pos c2] at h
        refine g_iconst (v := 0) (pc := 33) dX12_guarded_33 (by decide) ?_
        refine g_wk [true, false, true] rfl ?_
        exact t_Md_guarded_34_L4 hV h hK
      · rw [if_neg c2] at h
        refine g_iconst (v := 1) (pc := 27) dX12_guarded_27 (by decide) ?_
        refine g_iload_n (pc := 28) dX12_guarded_28 rfl ?_
        refine g_ishl (pc := 29) dX12_guarded_29 ?_
        refine g_goto (tgt := 34) (pc := 30) dX12_guarded_30 (by decide) ?_
        refine g_wk [true, false, true] rfl ?_
        exact t_Md_guarded_34_L4 hV h hK
    · rw [if_neg c1] at h; cases h
set_option maxRecDepth 4000 in
theorem w_Md_guarded_L4 {V : Sm → Wd} (hV : VwT V) {l : Launch} {Γ : Gm} {rF : Option Value} {wF : Wd} {S : Sm} {k : Nat} {q : Int32 × Int32} {o : Int32} (h : lpN (Md_guarded_L4 S) k q = some o) (hP : ps_Md_guarded_L4 V l Γ rF wF S o) : hd_Md_guarded_L4 V l Γ rF wF S q := lpN_ind2 (hd_Md_guarded_L4 V l Γ rF wF S) (ps_Md_guarded_L4 V l Γ rF wF S) (fun s o h hK => t_Md_guarded_L4 hV h hK) k q o h hP
def Md_guarded (S : Sm) : Option (Int32) := ((lpN (Md_guarded_L4 S) FU (0, 0)).bind fun q4 => (some q4))
set_option maxRecDepth 4000 in
theorem r_Md_guarded {V : Sm → Wd} (hV : VwT V)  {S : Sm} {q : Int32} (h : Md_guarded S = some q) : Runs 0 mX12_guarded [.ref 53] (V S) (some (.int q)) (V S) 0 0 := by
  unfold Md_guarded at h
  refine Runs.of2 [some (.ref 53), none, none] 2 rfl rfl (Nat.le_of_ble_eq_true rfl) (fun l Γ => ?_)
  refine g_iconst (v := 0) (pc := 0) dX12_guarded_0 (by decide) ?_
  refine g_istore_n (ls1 := [some (.ref 53), some (.int 0), none]) (pc := 1) dX12_guarded_1 (by decide) rfl ?_
  refine g_iconst (v := 0) (pc := 2) dX12_guarded_2 (by decide) ?_
  refine g_istore_n (ls1 := [some (.ref 53), some (.int 0), some (.int 0)]) (pc := 3) dX12_guarded_3 (by decide) rfl ?_
  obtain ⟨q4, hqq4, h⟩ := bnd h
  refine w_Md_guarded_L4 hV hqq4 ?_
  unfold ps_Md_guarded_L4
  show G _ _ _ _ _ _ _ _ _ _ _
  refine g_iload_n (pc := 42) dX12_guarded_42 rfl ?_
  cases h
  exact g_iret (pc := 43) dX12_guarded_43 rfl rfl (Nat.le_refl _) (Nat.le_refl _)
def Md_unseen_53 (s0 : Int32) (S : Sm) : Option (Int32 × Sm) := (some ((s0, S)))
set_option maxRecDepth 4000 in
theorem t_Md_unseen_53 {V : Sm → Wd} (hV : VwT V) {l : Launch} {Γ : Gm} {s0 : Int32} {S : Sm} {q : Int32 × Sm} (h : Md_unseen_53 s0 S = some q) : G mX12_unseen l Γ (rmD 8 0 0) (mQ Γ (some (.int q.1)) (V q.2) 0 0) 0 0 53 [none, none, none] [.int s0] (V S) := by
  unfold Md_unseen_53 at h
  cases h
  exact g_iret (pc := 53) dX12_unseen_53 rfl rfl (Nat.le_refl _) (Nat.le_refl _)
def Md_unseen (v1 : Int32) (v2 : Int32) (S : Sm) : Option (Int32 × Sm) := (if (Md_areMouths v1 v2 S) = 0 then (some (((-1), S))) else ((Md_guarded S).bind fun q1 => ((Md_layAway v2 (Md_everyColour S) 0 (q1 &&& ((iShl 1 v1) ^^^ ((-1)))) S).bind fun q2 => (if inb v1 8 then (if (gi q2 76 (ix v1)) = 1000000 then (Md_unseen_53 ((-1)) q2) else (if inb v1 8 then (Md_unseen_53 (gi q2 76 (ix v1)) q2) else none)) else none))))
set_option maxRecDepth 4000 in
theorem r_Md_unseen {V : Sm → Wd} (hV : VwT V) {v1 : Int32} {v2 : Int32} {S : Sm} {q : Int32 × Sm} (h : Md_unseen v1 v2 S = some q) : Runs 8 mX12_unseen [.ref 53, .int v1, .int v2] (V S) (some (.int q.1)) (V q.2) 0 0 := by
  unfold Md_unseen at h
  refine Runs.of2 [some (.ref 53), some (.int v1), some (.int v2)] 0 rfl rfl (Nat.le_of_ble_eq_true rfl) (fun l Γ => ?_)
  refine g_aload_n (pc := 0) dX12_unseen_0 rfl ?_
  refine g_iload_n (pc := 1) dX12_unseen_1 rfl ?_
  refine g_iload_n (pc := 2) dX12_unseen_2 rfl ?_
  refine v_callVi hV (Mc := mX12_areMouths) (v := Md_areMouths v1 v2 S) (S1 := S) (As := [.int v1, .int v2]) (rest := []) (q := (RX12, TX12, 58)) (pc := 3) dX12_unseen_3 mK_X12_392 mf_X12_areMouths rfl k0_53 rfl rfl rfl (Nat.le_of_ble_eq_true rfl) ⟨Nat.le_of_ble_eq_true rfl, Nat.le_of_ble_eq_true rfl⟩ (r_Md_areMouths hV rfl) ?_
  refine g_if_ne (tgt := 11) (pc := 6) dX12_unseen_6 (by decide) (fun c6 => ?_) (fun c6 => ?_)
  · rw [if_neg c6] at h
    refine g_aload_n (pc := 11) dX12_unseen_11 rfl ?_
    refine g_iload_n (pc := 12) dX12_unseen_12 rfl ?_
    refine g_aload_n (pc := 13) dX12_unseen_13 rfl ?_
    refine v_callVi hV (Mc := mX12_everyColour) (v := Md_everyColour S) (S1 := S) (As := []) (rest := [.int v2, .ref 53]) (q := (RX12, TX12, 58)) (pc := 14) dX12_unseen_14 mK_X12_385 mf_X12_everyColour rfl k0_53 rfl rfl rfl (Nat.le_of_ble_eq_true rfl) ⟨Nat.le_of_ble_eq_true rfl, Nat.le_of_ble_eq_true rfl⟩ (r_Md_everyColour hV rfl) ?_
    refine g_iconst (v := 0) (pc := 17) dX12_unseen_17 (by decide) ?_
    refine g_aload_n (pc := 18) dX12_unseen_18 rfl ?_
    obtain ⟨q1, hq1, h⟩ := bnd h
    refine v_callVi hV (Mc := mX12_guarded) (v := q1) (S1 := S) (As := []) (rest := [.int 0, .int (Md_everyColour S), .int v2, .ref 53]) (q := (RX12, TX12, 58)) (pc := 19) dX12_unseen_19 mK_X12_468 mf_X12_guarded rfl k0_53 rfl rfl rfl (Nat.le_of_ble_eq_true rfl) ⟨Nat.le_of_ble_eq_true rfl, Nat.le_of_ble_eq_true rfl⟩ (r_Md_guarded hV hq1) ?_
    refine g_iconst (v := 1) (pc := 22) dX12_unseen_22 (by decide) ?_
    refine g_iload_n (pc := 23) dX12_unseen_23 rfl ?_
    refine g_ishl (pc := 24) dX12_unseen_24 ?_
    refine g_iconst (v := (-1)) (pc := 25) dX12_unseen_25 (by decide) ?_
    refine g_ixor (pc := 26) dX12_unseen_26 ?_
    refine g_iand (pc := 27) dX12_unseen_27 ?_
    obtain ⟨q2, hq2, h⟩ := bnd h
    refine v_callVv hV (Mc := mX12_layAway) (S1 := q2) (As := [.int v2, .int (Md_everyColour S), .int 0, .int (q1 &&& ((iShl 1 v1) ^^^ ((-1))))]) (rest := []) (q := (RX12, TX12, 58)) (pc := 28) dX12_unseen_28 mK_X12_405 mf_X12_layAway rfl k0_53 rfl rfl rfl (Nat.le_of_ble_eq_true rfl) ⟨Nat.le_of_ble_eq_true rfl, Nat.le_of_ble_eq_true rfl⟩ (r_Md_layAway hV hq2) ?_
    refine g_aload_n (pc := 31) dX12_unseen_31 rfl ?_
    refine v_getR hV (pc := 32) dX12_unseen_32 fo_12_38 rfl k0_53 r0_53_38 ?_
    refine g_iload_n (pc := 35) dX12_unseen_35 rfl ?_
    by_cases c3 : inb v1 8
    · rw [if_pos c3] at h
      refine v_iald hV (pc := 36) dX12_unseen_36 k0_76 own_76 c3 ?_
      refine g_ldcw (v := 1000000) (pc := 37) dX12_unseen_37 kI_X12_388 ?_
      refine g_icmp_ne (tgt := 47) (pc := 40) dX12_unseen_40 (by decide) (fun c5 => ?_) (fun c5 => ?_)
      · rw [if_neg c5] at h
        refine g_aload_n (pc := 47) dX12_unseen_47 rfl ?_
        refine v_getR hV (pc := 48) dX12_unseen_48 fo_12_38 rfl k0_53 r0_53_38 ?_
        refine g_iload_n (pc := 51) dX12_unseen_51 rfl ?_
        by_cases c4 : inb v1 8
        · rw [if_pos c4] at h
          refine v_iald hV (pc := 52) dX12_unseen_52 k0_76 own_76 c4 ?_
          refine g_wk [false, false, false] rfl ?_
          exact t_Md_unseen_53 hV h
        · rw [if_neg c4] at h; cases h
      · rw [if_pos c5] at h
        refine g_iconst (v := (-1)) (pc := 43) dX12_unseen_43 (by decide) ?_
        refine g_goto (tgt := 53) (pc := 44) dX12_unseen_44 (by decide) ?_
        refine g_wk [false, false, false] rfl ?_
        exact t_Md_unseen_53 hV h
    · rw [if_neg c3] at h; cases h
  · rw [if_pos c6] at h
    refine g_iconst (v := (-1)) (pc := 9) dX12_unseen_9 (by decide) ?_
    cases h
    exact g_iret (pc := 10) dX12_unseen_10 rfl rfl (Nat.le_refl _) (Nat.le_refl _)
def Md_posts_14 (S : Sm) : Option (Int32 × Sm) := (some (((-1), S)))
set_option maxRecDepth 4000 in
theorem t_Md_posts_14 {V : Sm → Wd} (hV : VwT V) {l : Launch} {Γ : Gm}  {S : Sm} {q : Int32 × Sm} (h : Md_posts_14 S = some q) : G mX12_posts l Γ (rmD 8 0 0) (mQ Γ (some (.int q.1)) (V q.2) 0 0) 0 0 14 [none, none, none, none, none] [] (V S) := by
  unfold Md_posts_14 at h
  refine g_iconst (v := (-1)) (pc := 14) dX12_posts_14 (by decide) ?_
  cases h
  exact g_iret (pc := 15) dX12_posts_15 rfl rfl (Nat.le_refl _) (Nat.le_refl _)
def hd_Md_posts_L21 (V : Sm → Wd) (l : Launch) (Γ : Gm) (rF : Option Value) (wF : Wd) (v1 : Int32) (v2 : Int32) (q : Int32 × Int32 × Sm) : Prop := G mX12_posts l Γ (rmD 8 0 0) (mQ Γ rF wF 0 0) 0 0 21 [some (.ref 53), some (.int v1), some (.int v2), some (.int q.1), some (.int q.2.1)] [] (V q.2.2)
def ps_Md_posts_L21 (V : Sm → Wd) (l : Launch) (Γ : Gm) (rF : Option Value) (wF : Wd) (v1 : Int32) (v2 : Int32) (x : Int32 × Sm) : Prop := (fun (a : Int32 × Sm) => G mX12_posts l Γ (rmD 8 0 0) (mQ Γ rF wF 0 0) 0 0 109 [none, none, none, some (.int a.1), none] [] (V a.2)) x
def Md_posts_103_L21 (v1 : Int32) (v2 : Int32) (v3 : Int32) (v4 : Int32) (S : Sm) : Option ((Int32 × Int32 × Sm) ⊕ (Int32 × Sm)) := (some (.inl (v3, v4 + 1, S)))
set_option maxRecDepth 4000 in
theorem t_Md_posts_103_L21 {V : Sm → Wd} (hV : VwT V) {l : Launch} {Γ : Gm} {v1 : Int32} {v2 : Int32} {v3 : Int32} {v4 : Int32} {rF : Option Value} {wF : Wd} {S : Sm} {o : (Int32 × Int32 × Sm) ⊕ (Int32 × Sm)} (h : Md_posts_103_L21 v1 v2 v3 v4 S = some o) (hK : Sum.elim (hd_Md_posts_L21 V l Γ rF wF v1 v2) (ps_Md_posts_L21 V l Γ rF wF v1 v2) o) : G mX12_posts l Γ (rmD 8 0 0) (mQ Γ rF wF 0 0) 0 0 103 [some (.ref 53), some (.int v1), some (.int v2), some (.int v3), some (.int v4)] [] (V S) := by
  unfold Md_posts_103_L21 at h
  refine g_iinc (v := v4 + 1) (ls1 := [some (.ref 53), some (.int v1), some (.int v2), some (.int v3), some (.int (v4 + 1))]) (pc := 103) dX12_posts_103 rfl rfl (by decide) rfl ?_
  refine g_goto (tgt := 21) (pc := 106) dX12_posts_106 (by decide) ?_
  cases h
  exact hK
def Md_posts_102_L21 (v1 : Int32) (v2 : Int32) (v4 : Int32) (s0 : Int32) (S : Sm) : Option ((Int32 × Int32 × Sm) ⊕ (Int32 × Sm)) := (Md_posts_103_L21 v1 v2 s0 v4 S)
set_option maxRecDepth 4000 in
theorem t_Md_posts_102_L21 {V : Sm → Wd} (hV : VwT V) {l : Launch} {Γ : Gm} {v1 : Int32} {v2 : Int32} {v4 : Int32} {s0 : Int32} {rF : Option Value} {wF : Wd} {S : Sm} {o : (Int32 × Int32 × Sm) ⊕ (Int32 × Sm)} (h : Md_posts_102_L21 v1 v2 v4 s0 S = some o) (hK : Sum.elim (hd_Md_posts_L21 V l Γ rF wF v1 v2) (ps_Md_posts_L21 V l Γ rF wF v1 v2) o) : G mX12_posts l Γ (rmD 8 0 0) (mQ Γ rF wF 0 0) 0 0 102 [some (.ref 53), some (.int v1), some (.int v2), none, some (.int v4)] [.int s0] (V S) := by
  unfold Md_posts_102_L21 at h
  refine g_istore_n (ls1 := [some (.ref 53), some (.int v1), some (.int v2), some (.int s0), some (.int v4)]) (pc := 102) dX12_posts_102 (by decide) rfl ?_
  exact t_Md_posts_103_L21 hV h hK
def Md_posts_L21 (v1 : Int32) (v2 : Int32) (q : Int32 × Int32 × Sm) : Option ((Int32 × Int32 × Sm) ⊕ (Int32 × Sm)) := (if (iShl 1 (gi q.2.2 68 0)) ≤ q.2.1 then (some (.inr (q.1, q.2.2))) else (if (Md_has q.2.1 v1) = 0 then (if (Md_has q.2.1 v2) = 0 then (if (Md_isFewer q.2.1 q.1) = 0 then (Md_posts_103_L21 v1 v2 q.1 q.2.1 q.2.2) else ((Md_guarded q.2.2).bind fun q1 => ((Md_layAway v2 (Md_everyColour q.2.2) 0 ((q1 ||| q.2.1) &&& ((iShl 1 v1) ^^^ ((-1)))) q.2.2).bind fun q2 => (if inb v1 8 then (if (gi q2 76 (ix v1)) = 1000000 then (Md_posts_102_L21 v1 v2 q.2.1 q.2.1 q2) else (Md_posts_102_L21 v1 v2 q.2.1 q.1 q2)) else none)))) else (Md_posts_103_L21 v1 v2 q.1 q.2.1 q.2.2)) else (Md_posts_103_L21 v1 v2 q.1 q.2.1 q.2.2)))
set_option maxRecDepth 4000 in
theorem t_Md_posts_L21 {V : Sm → Wd} (hV : VwT V) {l : Launch} {Γ : Gm} {rF : Option Value} {wF : Wd} {v1 : Int32} {v2 : Int32} {q : Int32 × Int32 × Sm} {o : (Int32 × Int32 × Sm) ⊕ (Int32 × Sm)} (h : Md_posts_L21 v1 v2 q = some o) (hK : Sum.elim (hd_Md_posts_L21 V l Γ rF wF v1 v2) (ps_Md_posts_L21 V l Γ rF wF v1 v2) o) : hd_Md_posts_L21 V l Γ rF wF v1 v2 q := by
  unfold Md_posts_L21 at h
  unfold hd_Md_posts_L21
  refine g_iload (pc := 21) dX12_posts_21 rfl ?_
  refine g_iconst (v := 1) (pc := 23) dX12_posts_23 (by decide) ?_
  refine g_aload_n (pc := 24) dX12_posts_24 rfl ?_
  refine v_getR hV (pc := 25) dX12_posts_25 fo_12_24 rfl k0_53 r0_53_24 ?_
  refine g_iconst (v := 0) (pc := 28) dX12_posts_28 (by decide) ?_
  refine v_ialdK hV (k := 0) (pc := 29) dX12_posts_29 k0_68 own_68 (by decide) (by decide) ?_
  refine g_ishl (pc := 30) dX12_posts_30 ?_
  refine g_icmp_ge (tgt := 109) (pc := 31) dX12_posts_31 (by decide) (fun c8 => ?_) (fun c8 => ?_)
  · rw [if_pos c8] at h
    refine g_wk [false, false, false, true, false] rfl ?_
    cases h
    exact hK
  · rw [if_neg c8] at h
    refine g_iload (pc := 34) dX12_posts_34 rfl ?_
    refine g_iload_n (pc := 36) dX12_posts_36 rfl ?_
    refine v_callSi (Mc := mX12_has) (v := Md_has q.2.1 v1) (S1 := q.2.2) (As := [.int q.2.1, .int v1]) (rest := []) (pc := 37) dX12_posts_37 mK_X12_249 mf_X12_has rfl rfl (Nat.le_of_ble_eq_true rfl) ⟨Nat.le_of_ble_eq_true rfl, Nat.le_of_ble_eq_true rfl⟩ (r_Md_has hV rfl) ?_
    refine g_if_ne (tgt := 103) (pc := 40) dX12_posts_40 (by decide) (fun c7 => ?_) (fun c7 => ?_)
    · rw [if_neg c7] at h
      exact t_Md_posts_103_L21 hV h hK
    · rw [if_pos c7] at h
      refine g_iload (pc := 43) dX12_posts_43 rfl ?_
      refine g_iload_n (pc := 45) dX12_posts_45 rfl ?_
      refine v_callSi (Mc := mX12_has) (v := Md_has q.2.1 v2) (S1 := q.2.2) (As := [.int q.2.1, .int v2]) (rest := []) (pc := 46) dX12_posts_46 mK_X12_249 mf_X12_has rfl rfl (Nat.le_of_ble_eq_true rfl) ⟨Nat.le_of_ble_eq_true rfl, Nat.le_of_ble_eq_true rfl⟩ (r_Md_has hV rfl) ?_
      refine g_if_ne (tgt := 103) (pc := 49) dX12_posts_49 (by decide) (fun c6 => ?_) (fun c6 => ?_)
      · rw [if_neg c6] at h
        exact t_Md_posts_103_L21 hV h hK
      · rw [if_pos c6] at h
        refine g_iload (pc := 52) dX12_posts_52 rfl ?_
        refine g_iload_n (pc := 54) dX12_posts_54 rfl ?_
        refine v_callSi (Mc := mX12_isFewer) (v := Md_isFewer q.2.1 q.1) (S1 := q.2.2) (As := [.int q.2.1, .int q.1]) (rest := []) (pc := 55) dX12_posts_55 mK_X12_417 mf_X12_isFewer rfl rfl (Nat.le_of_ble_eq_true rfl) ⟨Nat.le_of_ble_eq_true rfl, Nat.le_of_ble_eq_true rfl⟩ (r_Md_isFewer hV rfl) ?_
        refine g_if_eq (tgt := 103) (pc := 58) dX12_posts_58 (by decide) (fun c5 => ?_) (fun c5 => ?_)
        · rw [if_pos c5] at h
          exact t_Md_posts_103_L21 hV h hK
        · rw [if_neg c5] at h
          refine g_aload_n (pc := 61) dX12_posts_61 rfl ?_
          refine g_iload_n (pc := 62) dX12_posts_62 rfl ?_
          refine g_aload_n (pc := 63) dX12_posts_63 rfl ?_
          refine v_callVi hV (Mc := mX12_everyColour) (v := Md_everyColour q.2.2) (S1 := q.2.2) (As := []) (rest := [.int v2, .ref 53]) (q := (RX12, TX12, 58)) (pc := 64) dX12_posts_64 mK_X12_385 mf_X12_everyColour rfl k0_53 rfl rfl rfl (Nat.le_of_ble_eq_true rfl) ⟨Nat.le_of_ble_eq_true rfl, Nat.le_of_ble_eq_true rfl⟩ (r_Md_everyColour hV rfl) ?_
          refine g_iconst (v := 0) (pc := 67) dX12_posts_67 (by decide) ?_
          refine g_aload_n (pc := 68) dX12_posts_68 rfl ?_
          obtain ⟨q1, hq1, h⟩ := bnd h
          refine v_callVi hV (Mc := mX12_guarded) (v := q1) (S1 := q.2.2) (As := []) (rest := [.int 0, .int (Md_everyColour q.2.2), .int v2, .ref 53]) (q := (RX12, TX12, 58)) (pc := 69) dX12_posts_69 mK_X12_468 mf_X12_guarded rfl k0_53 rfl rfl rfl (Nat.le_of_ble_eq_true rfl) ⟨Nat.le_of_ble_eq_true rfl, Nat.le_of_ble_eq_true rfl⟩ (r_Md_guarded hV hq1) ?_
          refine g_iload (pc := 72) dX12_posts_72 rfl ?_
          refine g_ior (pc := 74) dX12_posts_74 ?_
          refine g_iconst (v := 1) (pc := 75) dX12_posts_75 (by decide) ?_
          refine g_iload_n (pc := 76) dX12_posts_76 rfl ?_
          refine g_ishl (pc := 77) dX12_posts_77 ?_
          refine g_iconst (v := (-1)) (pc := 78) dX12_posts_78 (by decide) ?_
          refine g_ixor (pc := 79) dX12_posts_79 ?_
          refine g_iand (pc := 80) dX12_posts_80 ?_
          obtain ⟨q2, hq2, h⟩ := bnd h
          refine v_callVv hV (Mc := mX12_layAway) (S1 := q2) (As := [.int v2, .int (Md_everyColour q.2.2), .int 0, .int ((q1 ||| q.2.1) &&& ((iShl 1 v1) ^^^ ((-1))))]) (rest := []) (q := (RX12, TX12, 58)) (pc := 81) dX12_posts_81 mK_X12_405 mf_X12_layAway rfl k0_53 rfl rfl rfl (Nat.le_of_ble_eq_true rfl) ⟨Nat.le_of_ble_eq_true rfl, Nat.le_of_ble_eq_true rfl⟩ (r_Md_layAway hV hq2) ?_
          refine g_aload_n (pc := 84) dX12_posts_84 rfl ?_
          refine v_getR hV (pc := 85) dX12_posts_85 fo_12_38 rfl k0_53 r0_53_38 ?_
          refine g_iload_n (pc := 88) dX12_posts_88 rfl ?_
          by_cases c3 : inb v1 8
          · rw [if_pos c3] at h
            refine v_iald hV (pc := 89) dX12_posts_89 k0_76 own_76 c3 ?_
            refine g_ldcw (v := 1000000) (pc := 90) dX12_posts_90 kI_X12_388 ?_
            refine g_icmp_ne (tgt := 101) (pc := 93) dX12_posts_93 (by decide) (fun c4 => ?_) (fun c4 => ?_)
            · rw [if_neg c4] at h
              refine g_iload_n (pc := 101) dX12_posts_101 rfl ?_
              refine g_wk [true, true, true, false, true] rfl ?_
              exact t_Md_posts_102_L21 hV h hK
            · rw [if_pos c4] at h
              refine g_iload (pc := 96) dX12_posts_96 rfl ?_
              refine g_goto (tgt := 102) (pc := 98) dX12_posts_98 (by decide) ?_
              refine g_wk [true, true, true, false, true] rfl ?_
              exact t_Md_posts_102_L21 hV h hK
          · rw [if_neg c3] at h; cases h
set_option maxRecDepth 4000 in
theorem w_Md_posts_L21 {V : Sm → Wd} (hV : VwT V) {l : Launch} {Γ : Gm} {rF : Option Value} {wF : Wd} {v1 : Int32} {v2 : Int32} {k : Nat} {q : Int32 × Int32 × Sm} {o : Int32 × Sm} (h : lpN (Md_posts_L21 v1 v2) k q = some o) (hP : ps_Md_posts_L21 V l Γ rF wF v1 v2 o) : hd_Md_posts_L21 V l Γ rF wF v1 v2 q := lpN_ind2 (hd_Md_posts_L21 V l Γ rF wF v1 v2) (ps_Md_posts_L21 V l Γ rF wF v1 v2) (fun s o h hK => t_Md_posts_L21 hV h hK) k q o h hP
def Md_posts (v1 : Int32) (v2 : Int32) (S : Sm) : Option (Int32 × Sm) := (if (Md_areMouths v1 v2 S) = 0 then (Md_posts_14 S) else (if v1 = v2 then (Md_posts_14 S) else ((lpN (Md_posts_L21 v1 v2) FU ((-1), 0, S)).bind fun q9 => (some ((q9.1, q9.2))))))
set_option maxRecDepth 4000 in
theorem r_Md_posts {V : Sm → Wd} (hV : VwT V) {v1 : Int32} {v2 : Int32} {S : Sm} {q : Int32 × Sm} (h : Md_posts v1 v2 S = some q) : Runs 8 mX12_posts [.ref 53, .int v1, .int v2] (V S) (some (.int q.1)) (V q.2) 0 0 := by
  unfold Md_posts at h
  refine Runs.of2 [some (.ref 53), some (.int v1), some (.int v2), none, none] 2 rfl rfl (Nat.le_of_ble_eq_true rfl) (fun l Γ => ?_)
  refine g_aload_n (pc := 0) dX12_posts_0 rfl ?_
  refine g_iload_n (pc := 1) dX12_posts_1 rfl ?_
  refine g_iload_n (pc := 2) dX12_posts_2 rfl ?_
  refine v_callVi hV (Mc := mX12_areMouths) (v := Md_areMouths v1 v2 S) (S1 := S) (As := [.int v1, .int v2]) (rest := []) (q := (RX12, TX12, 58)) (pc := 3) dX12_posts_3 mK_X12_392 mf_X12_areMouths rfl k0_53 rfl rfl rfl (Nat.le_of_ble_eq_true rfl) ⟨Nat.le_of_ble_eq_true rfl, Nat.le_of_ble_eq_true rfl⟩ (r_Md_areMouths hV rfl) ?_
  refine g_if_eq (tgt := 14) (pc := 6) dX12_posts_6 (by decide) (fun c11 => ?_) (fun c11 => ?_)
  · rw [if_pos c11] at h
    refine g_wk [false, false, false, false, false] rfl ?_
    exact t_Md_posts_14 hV h
  · rw [if_neg c11] at h
    refine g_iload_n (pc := 9) dX12_posts_9 rfl ?_
    refine g_iload_n (pc := 10) dX12_posts_10 rfl ?_
    refine g_icmp_ne (tgt := 16) (pc := 11) dX12_posts_11 (by decide) (fun c10 => ?_) (fun c10 => ?_)
    · rw [if_neg c10] at h
      refine g_iconst (v := (-1)) (pc := 16) dX12_posts_16 (by decide) ?_
      refine g_istore_n (ls1 := [some (.ref 53), some (.int v1), some (.int v2), some (.int ((-1))), none]) (pc := 17) dX12_posts_17 (by decide) rfl ?_
      refine g_iconst (v := 0) (pc := 18) dX12_posts_18 (by decide) ?_
      refine g_istore (ls1 := [some (.ref 53), some (.int v1), some (.int v2), some (.int ((-1))), some (.int 0)]) (pc := 19) dX12_posts_19 (by decide) rfl ?_
      obtain ⟨q9, hqq9, h⟩ := bnd h
      refine w_Md_posts_L21 hV hqq9 ?_
      unfold ps_Md_posts_L21
      show G _ _ _ _ _ _ _ _ _ _ _
      refine g_iload_n (pc := 109) dX12_posts_109 rfl ?_
      cases h
      exact g_iret (pc := 110) dX12_posts_110 rfl rfl (Nat.le_refl _) (Nat.le_refl _)
    · rw [if_pos c10] at h
      refine g_wk [false, false, false, false, false] rfl ?_
      exact t_Md_posts_14 hV h
def hd_Md_areTogether_L2 (V : Sm → Wd) (l : Launch) (Γ : Gm) (rF : Option Value) (wF : Wd) (S : Sm) (q : Int32) : Prop := G mX12_areTogether l Γ (rmD 0 0 0) (mQ Γ rF wF 0 0) 0 0 2 [some (.ref 53), some (.int q)] [] (V S)
def ps_Md_areTogether_L2 (V : Sm → Wd) (l : Launch) (Γ : Gm) (rF : Option Value) (wF : Wd) (S : Sm) (x : (Unit) ⊕ (Unit)) : Prop := (Sum.elim (fun (a : Unit) => G mX12_areTogether l Γ (rmD 0 0 0) (mQ Γ rF wF 0 0) 0 0 22 [none, none] [] (V S)) (fun (a : Unit) => G mX12_areTogether l Γ (rmD 0 0 0) (mQ Γ rF wF 0 0) 0 0 30 [none, none] [] (V S))) x
def Md_areTogether_L2 (S : Sm) (q : Int32) : Option ((Int32) ⊕ ((Unit) ⊕ (Unit))) := (if (8 : Int32) ≤ q then (some (.inr (.inr ()))) else (if inb ((8 * q) + q) 64 then (if (gi S 87 (ix ((8 * q) + q))) = 0 then (some (.inl (q + 1))) else (some (.inr (.inl ())))) else none))
set_option maxRecDepth 4000 in
theorem t_Md_areTogether_L2 {V : Sm → Wd} (hV : VwT V) {l : Launch} {Γ : Gm} {rF : Option Value} {wF : Wd} {S : Sm} {q : Int32} {o : (Int32) ⊕ ((Unit) ⊕ (Unit))} (h : Md_areTogether_L2 S q = some o) (hK : Sum.elim (hd_Md_areTogether_L2 V l Γ rF wF S) (ps_Md_areTogether_L2 V l Γ rF wF S) o) : hd_Md_areTogether_L2 V l Γ rF wF S q := by
  unfold Md_areTogether_L2 at h
  unfold hd_Md_areTogether_L2
  refine g_iload_n (pc := 2) dX12_areTogether_2 rfl ?_
  refine g_bipush (v := 8) (pc := 3) dX12_areTogether_3 (by decide) ?_
  refine g_icmp_ge (tgt := 30) (pc := 5) dX12_areTogether_5 (by decide) (fun c3 => ?_) (fun c3 => ?_)
  · rw [if_pos c3] at h
    refine g_wk [false, false] rfl ?_
    cases h
    exact hK
  · rw [if_neg c3] at h
    refine g_aload_n (pc := 8) dX12_areTogether_8 rfl ?_
    refine v_getR hV (pc := 9) dX12_areTogether_9 fo_12_54 rfl k0_53 r0_53_54 ?_
    refine g_bipush (v := 8) (pc := 12) dX12_areTogether_12 (by decide) ?_
    refine g_iload_n (pc := 14) dX12_areTogether_14 rfl ?_
    refine g_imul (pc := 15) dX12_areTogether_15 ?_
    refine g_iload_n (pc := 16) dX12_areTogether_16 rfl ?_
    refine g_iadd (pc := 17) dX12_areTogether_17 ?_
    by_cases c1 : inb ((8 * q) + q) 64
    · rw [if_pos c1] at h
      refine v_zald hV (pc := 18) dX12_areTogether_18 k0_87 own_87 c1 ?_
      refine g_if_eq (tgt := 24) (pc := 19) dX12_areTogether_19 (by decide) (fun c2 => ?_) (fun c2 => ?_)
      · rw [if_pos c2] at h
        refine g_iinc (v := q + 1) (ls1 := [some (.ref 53), some (.int (q + 1))]) (pc := 24) dX12_areTogether_24 rfl rfl (by decide) rfl ?_
        refine g_goto (tgt := 2) (pc := 27) dX12_areTogether_27 (by decide) ?_
        cases h
        exact hK
      · rw [if_neg c2] at h
        refine g_wk [false, false] rfl ?_
        cases h
        exact hK
    · rw [if_neg c1] at h; cases h
set_option maxRecDepth 4000 in
theorem w_Md_areTogether_L2 {V : Sm → Wd} (hV : VwT V) {l : Launch} {Γ : Gm} {rF : Option Value} {wF : Wd} {S : Sm} {k : Nat} {q : Int32} {o : (Unit) ⊕ (Unit)} (h : lpN (Md_areTogether_L2 S) k q = some o) (hP : ps_Md_areTogether_L2 V l Γ rF wF S o) : hd_Md_areTogether_L2 V l Γ rF wF S q := lpN_ind2 (hd_Md_areTogether_L2 V l Γ rF wF S) (ps_Md_areTogether_L2 V l Γ rF wF S) (fun s o h hK => t_Md_areTogether_L2 hV h hK) k q o h hP
def Md_areTogether (S : Sm) : Option (Int32) := ((lpN (Md_areTogether_L2 S) FU 0).bind fun q4 => (Sum.elim (fun a5 => (some 1)) (fun a6 => (some 0)) q4))
set_option maxRecDepth 4000 in
theorem r_Md_areTogether {V : Sm → Wd} (hV : VwT V)  {S : Sm} {q : Int32} (h : Md_areTogether S = some q) : Runs 0 mX12_areTogether [.ref 53] (V S) (some (.int q)) (V S) 0 0 := by
  unfold Md_areTogether at h
  refine Runs.of2 [some (.ref 53), none] 1 rfl rfl (Nat.le_of_ble_eq_true rfl) (fun l Γ => ?_)
  refine g_iconst (v := 0) (pc := 0) dX12_areTogether_0 (by decide) ?_
  refine g_istore_n (ls1 := [some (.ref 53), some (.int 0)]) (pc := 1) dX12_areTogether_1 (by decide) rfl ?_
  obtain ⟨q4, hqq4, h⟩ := bnd h
  refine w_Md_areTogether_L2 hV hqq4 ?_
  unfold ps_Md_areTogether_L2
  cases q4 with
  | inl a5 =>
    simp only [Sum.elim_inl] at h
    show G _ _ _ _ _ _ _ _ _ _ _
    refine g_iconst (v := 1) (pc := 22) dX12_areTogether_22 (by decide) ?_
    cases h
    exact g_iret (u := 1) (pc := 23) dX12_areTogether_23 rfl (by decide) (Nat.le_refl _) (Nat.le_refl _)
  | inr a6 =>
    simp only [Sum.elim_inr] at h
    show G _ _ _ _ _ _ _ _ _ _ _
    refine g_iconst (v := 0) (pc := 30) dX12_areTogether_30 (by decide) ?_
    cases h
    exact g_iret (u := 0) (pc := 31) dX12_areTogether_31 rfl (by decide) (Nat.le_refl _) (Nat.le_refl _)
def hd_Md_goTogether_L2 (V : Sm → Wd) (l : Launch) (Γ : Gm) (rF : Option Value) (wF : Wd) (v1 : Int32) (q : Int32 × Sm) : Prop := G mX12_goTogether l Γ (rmD 1 0 0) (mQ Γ rF wF 0 0) 0 0 2 [some (.ref 53), some (.int v1), some (.int q.1), none] [] (V q.2)
def ps_Md_goTogether_L2 (V : Sm → Wd) (l : Launch) (Γ : Gm) (rF : Option Value) (wF : Wd) (v1 : Int32) (x : Sm) : Prop := (fun (a : Sm) => G mX12_goTogether l Γ (rmD 1 0 0) (mQ Γ rF wF 0 0) 0 0 26 [some (.ref 53), some (.int v1), none, none] [] (V a)) x
def Md_goTogether_L2 (v1 : Int32) (q : Int32 × Sm) : Option ((Int32 × Sm) ⊕ (Sm)) := (if (64 : Int32) ≤ q.1 then (some (.inr q.2)) else (if inb q.1 64 then (if inb q.1 64 then (some (.inl (q.1 + 1, si q.2 88 (ix q.1) ((gi q.2 87 (ix q.1)) &&& 1)))) else none) else none))
set_option maxRecDepth 4000 in
theorem t_Md_goTogether_L2 {V : Sm → Wd} (hV : VwT V) {l : Launch} {Γ : Gm} {rF : Option Value} {wF : Wd} {v1 : Int32} {q : Int32 × Sm} {o : (Int32 × Sm) ⊕ (Sm)} (h : Md_goTogether_L2 v1 q = some o) (hK : Sum.elim (hd_Md_goTogether_L2 V l Γ rF wF v1) (ps_Md_goTogether_L2 V l Γ rF wF v1) o) : hd_Md_goTogether_L2 V l Γ rF wF v1 q := by
  unfold Md_goTogether_L2 at h
  unfold hd_Md_goTogether_L2
  refine g_iload_n (pc := 2) dX12_goTogether_2 rfl ?_
  refine g_bipush (v := 64) (pc := 3) dX12_goTogether_3 (by decide) ?_
  refine g_icmp_ge (tgt := 26) (pc := 5) dX12_goTogether_5 (by decide) (fun c3 => ?_) (fun c3 => ?_)
  · rw [if_pos c3] at h
    refine g_wk [true, true, false, false] rfl ?_
    cases h
    exact hK
  · rw [if_neg c3] at h
    refine g_aload_n (pc := 8) dX12_goTogether_8 rfl ?_
    refine v_getR hV (pc := 9) dX12_goTogether_9 fo_12_55 rfl k0_53 r0_53_55 ?_
    refine g_iload_n (pc := 12) dX12_goTogether_12 rfl ?_
    refine g_aload_n (pc := 13) dX12_goTogether_13 rfl ?_
    refine v_getR hV (pc := 14) dX12_goTogether_14 fo_12_54 rfl k0_53 r0_53_54 ?_
    refine g_iload_n (pc := 17) dX12_goTogether_17 rfl ?_
    by_cases c1 : inb q.1 64
    · rw [if_pos c1] at h
      refine v_zald hV (pc := 18) dX12_goTogether_18 k0_87 own_87 c1 ?_
      by_cases c2 : inb q.1 64
      · rw [if_pos c2] at h
        refine v_zast hV (pc := 19) dX12_goTogether_19 k0_88 own_88 c2 ?_
        refine g_iinc (v := q.1 + 1) (ls1 := [some (.ref 53), some (.int v1), some (.int (q.1 + 1)), none]) (pc := 20) dX12_goTogether_20 rfl rfl (by decide) rfl ?_
        refine g_goto (tgt := 2) (pc := 23) dX12_goTogether_23 (by decide) ?_
        cases h
        exact hK
      · rw [if_neg c2] at h; cases h
    · rw [if_neg c1] at h; cases h
set_option maxRecDepth 4000 in
theorem w_Md_goTogether_L2 {V : Sm → Wd} (hV : VwT V) {l : Launch} {Γ : Gm} {rF : Option Value} {wF : Wd} {v1 : Int32} {k : Nat} {q : Int32 × Sm} {o : Sm} (h : lpN (Md_goTogether_L2 v1) k q = some o) (hP : ps_Md_goTogether_L2 V l Γ rF wF v1 o) : hd_Md_goTogether_L2 V l Γ rF wF v1 q := lpN_ind2 (hd_Md_goTogether_L2 V l Γ rF wF v1) (ps_Md_goTogether_L2 V l Γ rF wF v1) (fun s o h hK => t_Md_goTogether_L2 hV h hK) k q o h hP
def hd_Md_goTogether_L28 (V : Sm → Wd) (l : Launch) (Γ : Gm) (rF : Option Value) (wF : Wd) (v1 : Int32) (q : Int32 × Sm) : Prop := G mX12_goTogether l Γ (rmD 1 0 0) (mQ Γ rF wF 0 0) 0 0 28 [some (.ref 53), some (.int v1), some (.int q.1), none] [] (V q.2)
def ps_Md_goTogether_L28 (V : Sm → Wd) (l : Launch) (Γ : Gm) (rF : Option Value) (wF : Wd) (v1 : Int32) (x : Sm) : Prop := (fun (a : Sm) => G mX12_goTogether l Γ (rmD 1 0 0) (mQ Γ rF wF 0 0) 0 0 103 [some (.ref 53), none, none, none] [] (V a)) x
def hd_Md_goTogether_L36 (V : Sm → Wd) (l : Launch) (Γ : Gm) (rF : Option Value) (wF : Wd) (v1 : Int32) (v2 : Int32) (q : Int32 × Sm) : Prop := G mX12_goTogether l Γ (rmD 1 0 0) (mQ Γ rF wF 0 0) 0 0 36 [some (.ref 53), some (.int v1), some (.int v2), some (.int q.1)] [] (V q.2)
def ps_Md_goTogether_L36 (V : Sm → Wd) (l : Launch) (Γ : Gm) (rF : Option Value) (wF : Wd) (v1 : Int32) (v2 : Int32) (x : Sm) : Prop := (fun (a : Sm) => G mX12_goTogether l Γ (rmD 1 0 0) (mQ Γ rF wF 0 0) 0 0 97 [some (.ref 53), some (.int v1), some (.int v2), none] [] (V a)) x
def Md_goTogether_91_L36 (v1 : Int32) (v2 : Int32) (v3 : Int32) (S : Sm) : Option ((Int32 × Sm) ⊕ (Sm)) := (some (.inl (v3 + 1, S)))
set_option maxRecDepth 4000 in
theorem t_Md_goTogether_91_L36 {V : Sm → Wd} (hV : VwT V) {l : Launch} {Γ : Gm} {v1 : Int32} {v2 : Int32} {v3 : Int32} {rF : Option Value} {wF : Wd} {S : Sm} {o : (Int32 × Sm) ⊕ (Sm)} (h : Md_goTogether_91_L36 v1 v2 v3 S = some o) (hK : Sum.elim (hd_Md_goTogether_L36 V l Γ rF wF v1 v2) (ps_Md_goTogether_L36 V l Γ rF wF v1 v2) o) : G mX12_goTogether l Γ (rmD 1 0 0) (mQ Γ rF wF 0 0) 0 0 91 [some (.ref 53), some (.int v1), some (.int v2), some (.int v3)] [] (V S) := by
  unfold Md_goTogether_91_L36 at h
  refine g_iinc (v := v3 + 1) (ls1 := [some (.ref 53), some (.int v1), some (.int v2), some (.int (v3 + 1))]) (pc := 91) dX12_goTogether_91 rfl rfl (by decide) rfl ?_
  refine g_goto (tgt := 36) (pc := 94) dX12_goTogether_94 (by decide) ?_
  cases h
  exact hK
def Md_goTogether_L36 (v1 : Int32) (v2 : Int32) (q : Int32 × Sm) : Option ((Int32 × Sm) ⊕ (Sm)) := (if inb v2 64 then (if (gi q.2 87 (ix v2)) = 0 then (some (.inr q.2)) else (if (gi q.2 68 1) ≤ q.1 then (some (.inr q.2)) else (if (Md_has v1 q.1) = 0 then (Md_goTogether_91_L36 v1 v2 q.1 q.2) else ((Md_leads (v2 / 8) q.1 q.2).bind fun q6 => ((Md_leads (iRem v2 8) q.1 q.2).bind fun q7 => (if inb ((8 * q6) + q7) 64 then (Md_goTogether_91_L36 v1 v2 q.1 (si q.2 88 (ix ((8 * q6) + q7)) (1 &&& 1))) else none)))))) else none)
set_option maxRecDepth 4000 in
theorem t_Md_goTogether_L36 {V : Sm → Wd} (hV : VwT V) {l : Launch} {Γ : Gm} {rF : Option Value} {wF : Wd} {v1 : Int32} {v2 : Int32} {q : Int32 × Sm} {o : (Int32 × Sm) ⊕ (Sm)} (h : Md_goTogether_L36 v1 v2 q = some o) (hK : Sum.elim (hd_Md_goTogether_L36 V l Γ rF wF v1 v2) (ps_Md_goTogether_L36 V l Γ rF wF v1 v2) o) : hd_Md_goTogether_L36 V l Γ rF wF v1 v2 q := by
  unfold Md_goTogether_L36 at h
  unfold hd_Md_goTogether_L36
  refine g_aload_n (pc := 36) dX12_goTogether_36 rfl ?_
  refine v_getR hV (pc := 37) dX12_goTogether_37 fo_12_54 rfl k0_53 r0_53_54 ?_
  refine g_iload_n (pc := 40) dX12_goTogether_40 rfl ?_
  by_cases c5 : inb v2 64
  · rw [if_pos c5] at h
    refine v_zald hV (pc := 41) dX12_goTogether_41 k0_87 own_87 c5 ?_
    refine g_if_eq (tgt := 97) (pc := 42) dX12_goTogether_42 (by decide) (fun c11 => ?_) (fun c11 => ?_)
    · rw [if_pos c11] at h
      refine g_wk [true, true, true, false] rfl ?_
      cases h
      exact hK
    · rw [if_neg c11] at h
      refine g_iload_n (pc := 45) dX12_goTogether_45 rfl ?_
      refine g_aload_n (pc := 46) dX12_goTogether_46 rfl ?_
      refine v_getR hV (pc := 47) dX12_goTogether_47 fo_12_24 rfl k0_53 r0_53_24 ?_
      refine g_iconst (v := 1) (pc := 50) dX12_goTogether_50 (by decide) ?_
      refine v_ialdK hV (k := 1) (pc := 51) dX12_goTogether_51 k0_68 own_68 (by decide) (by decide) ?_
      refine g_icmp_ge (tgt := 97) (pc := 52) dX12_goTogether_52 (by decide) (fun c10 => ?_) (fun c10 => ?_)
      · rw [if_pos c10] at h
        refine g_wk [true, true, true, false] rfl ?_
        cases h
        exact hK
      · rw [if_neg c10] at h
        refine g_iload_n (pc := 55) dX12_goTogether_55 rfl ?_
        refine g_iload_n (pc := 56) dX12_goTogether_56 rfl ?_
        refine v_callSi (Mc := mX12_has) (v := Md_has v1 q.1) (S1 := q.2) (As := [.int v1, .int q.1]) (rest := []) (pc := 57) dX12_goTogether_57 mK_X12_249 mf_X12_has rfl rfl (Nat.le_of_ble_eq_true rfl) ⟨Nat.le_of_ble_eq_true rfl, Nat.le_of_ble_eq_true rfl⟩ (r_Md_has hV rfl) ?_
        refine g_if_eq (tgt := 91) (pc := 60) dX12_goTogether_60 (by decide) (fun c9 => ?_) (fun c9 => ?_)
        · rw [if_pos c9] at h
          exact t_Md_goTogether_91_L36 hV h hK
        · rw [if_neg c9] at h
          refine g_aload_n (pc := 63) dX12_goTogether_63 rfl ?_
          refine v_getR hV (pc := 64) dX12_goTogether_64 fo_12_55 rfl k0_53 r0_53_55 ?_
          refine g_bipush (v := 8) (pc := 67) dX12_goTogether_67 (by decide) ?_
          refine g_aload_n (pc := 69) dX12_goTogether_69 rfl ?_
          refine g_iload_n (pc := 70) dX12_goTogether_70 rfl ?_
          refine g_bipush (v := 8) (pc := 71) dX12_goTogether_71 (by decide) ?_
          refine g_idiv (pc := 73) dX12_goTogether_73 (by decide) ?_
          refine g_iload_n (pc := 74) dX12_goTogether_74 rfl ?_
          obtain ⟨q6, hq6, h⟩ := bnd h
          refine v_callVi hV (Mc := mX12_leads) (v := q6) (S1 := q.2) (As := [.int (v2 / 8), .int q.1]) (rest := [.int 8, .ref 88]) (q := (RX12, TX12, 58)) (pc := 75) dX12_goTogether_75 mK_X12_323 mf_X12_leads rfl k0_53 rfl rfl rfl (Nat.le_of_ble_eq_true rfl) ⟨Nat.le_of_ble_eq_true rfl, Nat.le_of_ble_eq_true rfl⟩ (r_Md_leads hV hq6) ?_
          refine g_imul (pc := 78) dX12_goTogether_78 ?_
          refine g_aload_n (pc := 79) dX12_goTogether_79 rfl ?_
          refine g_iload_n (pc := 80) dX12_goTogether_80 rfl ?_
          refine g_bipush (v := 8) (pc := 81) dX12_goTogether_81 (by decide) ?_
          refine g_irem (pc := 83) dX12_goTogether_83 (by decide) ?_
          refine g_iload_n (pc := 84) dX12_goTogether_84 rfl ?_
          obtain ⟨q7, hq7, h⟩ := bnd h
          refine v_callVi hV (Mc := mX12_leads) (v := q7) (S1 := q.2) (As := [.int (iRem v2 8), .int q.1]) (rest := [.int (8 * q6), .ref 88]) (q := (RX12, TX12, 58)) (pc := 85) dX12_goTogether_85 mK_X12_323 mf_X12_leads rfl k0_53 rfl rfl rfl (Nat.le_of_ble_eq_true rfl) ⟨Nat.le_of_ble_eq_true rfl, Nat.le_of_ble_eq_true rfl⟩ (r_Md_leads hV hq7) ?_
          refine g_iadd (pc := 88) dX12_goTogether_88 ?_
          refine g_iconst (v := 1) (pc := 89) dX12_goTogether_89 (by decide) ?_
          by_cases c8 : inb ((8 * q6) + q7) 64
          · rw [if_pos c8] at h
            refine v_zast hV (pc := 90) dX12_goTogether_90 k0_88 own_88 c8 ?_
            exact t_Md_goTogether_91_L36 hV h hK
          · rw [if_neg c8] at h; cases h
  · rw [if_neg c5] at h; cases h
set_option maxRecDepth 4000 in
theorem w_Md_goTogether_L36 {V : Sm → Wd} (hV : VwT V) {l : Launch} {Γ : Gm} {rF : Option Value} {wF : Wd} {v1 : Int32} {v2 : Int32} {k : Nat} {q : Int32 × Sm} {o : Sm} (h : lpN (Md_goTogether_L36 v1 v2) k q = some o) (hP : ps_Md_goTogether_L36 V l Γ rF wF v1 v2 o) : hd_Md_goTogether_L36 V l Γ rF wF v1 v2 q := lpN_ind2 (hd_Md_goTogether_L36 V l Γ rF wF v1 v2) (ps_Md_goTogether_L36 V l Γ rF wF v1 v2) (fun s o h hK => t_Md_goTogether_L36 hV h hK) k q o h hP
def Md_goTogether_L28 (v1 : Int32) (q : Int32 × Sm) : Option ((Int32 × Sm) ⊕ (Sm)) := (if (64 : Int32) ≤ q.1 then (some (.inr q.2)) else ((lpN (Md_goTogether_L36 v1 q.1) FU (0, q.2)).bind fun q12 => (some (.inl (q.1 + 1, q12)))))
set_option maxRecDepth 4000 in
theorem t_Md_goTogether_L28 {V : Sm → Wd} (hV : VwT V) {l : Launch} {Γ : Gm} {rF : Option Value} {wF : Wd} {v1 : Int32} {q : Int32 × Sm} {o : (Int32 × Sm) ⊕ (Sm)} (h : Md_goTogether_L28 v1 q = some o) (hK : Sum.elim (hd_Md_goTogether_L28 V l Γ rF wF v1) (ps_Md_goTogether_L28 V l Γ rF wF v1) o) : hd_Md_goTogether_L28 V l Γ rF wF v1 q := by
  unfold Md_goTogether_L28 at h
  unfold hd_Md_goTogether_L28
  refine g_iload_n (pc := 28) dX12_goTogether_28 rfl ?_
  refine g_bipush (v := 64) (pc := 29) dX12_goTogether_29 (by decide) ?_
  refine g_icmp_ge (tgt := 103) (pc := 31) dX12_goTogether_31 (by decide) (fun c13 => ?_) (fun c13 => ?_)
  · rw [if_pos c13] at h
    refine g_wk [true, false, false, false] rfl ?_
    cases h
    exact hK
  · rw [if_neg c13] at h
    refine g_iconst (v := 0) (pc := 34) dX12_goTogether_34 (by decide) ?_
    refine g_istore_n (ls1 := [some (.ref 53), some (.int v1), some (.int q.1), some (.int 0)]) (pc := 35) dX12_goTogether_35 (by decide) rfl ?_
    obtain ⟨q12, hqq12, h⟩ := bnd h
    refine w_Md_goTogether_L36 hV hqq12 ?_
    unfold ps_Md_goTogether_L36
    show G _ _ _ _ _ _ _ _ _ _ _
    refine g_iinc (v := q.1 + 1) (ls1 := [some (.ref 53), some (.int v1), some (.int (q.1 + 1)), none]) (pc := 97) dX12_goTogether_97 rfl rfl (by decide) rfl ?_
    refine g_goto (tgt := 28) (pc := 100) dX12_goTogether_100 (by decide) ?_
    cases h
    exact hK
set_option maxRecDepth 4000 in
theorem w_Md_goTogether_L28 {V : Sm → Wd} (hV : VwT V) {l : Launch} {Γ : Gm} {rF : Option Value} {wF : Wd} {v1 : Int32} {k : Nat} {q : Int32 × Sm} {o : Sm} (h : lpN (Md_goTogether_L28 v1) k q = some o) (hP : ps_Md_goTogether_L28 V l Γ rF wF v1 o) : hd_Md_goTogether_L28 V l Γ rF wF v1 q := lpN_ind2 (hd_Md_goTogether_L28 V l Γ rF wF v1) (ps_Md_goTogether_L28 V l Γ rF wF v1) (fun s o h hK => t_Md_goTogether_L28 hV h hK) k q o h hP
def hd_Md_goTogether_L105 (V : Sm → Wd) (l : Launch) (Γ : Gm) (rF : Option Value) (wF : Wd)  (q : Int32 × Sm) : Prop := G mX12_goTogether l Γ (rmD 1 0 0) (mQ Γ rF wF 0 0) 0 0 105 [some (.ref 53), none, some (.int q.1), none] [] (V q.2)
def ps_Md_goTogether_L105 (V : Sm → Wd) (l : Launch) (Γ : Gm) (rF : Option Value) (wF : Wd)  (x : Sm) : Prop := (fun (a : Sm) => G mX12_goTogether l Γ (rmD 1 0 0) (mQ Γ rF wF 0 0) 0 0 129 [none, none, none, none] [] (V a)) x
def Md_goTogether_L105 (q : Int32 × Sm) : Option ((Int32 × Sm) ⊕ (Sm)) := (if (64 : Int32) ≤ q.1 then (some (.inr q.2)) else (if inb q.1 64 then (if inb q.1 64 then (some (.inl (q.1 + 1, si q.2 87 (ix q.1) ((gi q.2 88 (ix q.1)) &&& 1)))) else none) else none))
set_option maxRecDepth 4000 in
theorem t_Md_goTogether_L105 {V : Sm → Wd} (hV : VwT V) {l : Launch} {Γ : Gm} {rF : Option Value} {wF : Wd}  {q : Int32 × Sm} {o : (Int32 × Sm) ⊕ (Sm)} (h : Md_goTogether_L105 q = some o) (hK : Sum.elim (hd_Md_goTogether_L105 V l Γ rF wF) (ps_Md_goTogether_L105 V l Γ rF wF) o) : hd_Md_goTogether_L105 V l Γ rF wF q := by
  unfold Md_goTogether_L105 at h
  unfold hd_Md_goTogether_L105
  refine g_iload_n (pc := 105) dX12_goTogether_105 rfl ?_
  refine g_bipush (v := 64) (pc := 106) dX12_goTogether_106 (by decide) ?_
  refine g_icmp_ge (tgt := 129) (pc := 108) dX12_goTogether_108 (by decide) (fun c17 => ?_) (fun c17 => ?_)
  · rw [if_pos c17] at h
    refine g_wk [false, false, false, false] rfl ?_
    cases h
    exact hK
  · rw [if_neg c17] at h
    refine g_aload_n (pc := 111) dX12_goTogether_111 rfl ?_
    refine v_getR hV (pc := 112) dX12_goTogether_112 fo_12_54 rfl k0_53 r0_53_54 ?_
    refine g_iload_n (pc := 115) dX12_goTogether_115 rfl ?_
    refine g_aload_n (pc := 116) dX12_goTogether_116 rfl ?_
    refine v_getR hV (pc := 117) dX12_goTogether_117 fo_12_55 rfl k0_53 r0_53_55 ?_
    refine g_iload_n (pc := 120) dX12_goTogether_120 rfl ?_
    by_cases c15 : inb q.1 64
    · rw [if_pos c15] at h
      refine v_zald hV (pc := 121) dX12_goTogether_121 k0_88 own_88 c15 ?_
      by_cases c16 : inb q.1 64
      · rw [if_pos c16] at h
        refine v_zast hV (pc := 122) dX12_goTogether_122 k0_87 own_87 c16 ?_
        refine g_iinc (v := q.1 + 1) (ls1 := [some (.ref 53), none, some (.int (q.1 + 1)), none]) (pc := 123) dX12_goTogether_123 rfl rfl (by decide) rfl ?_
        refine g_goto (tgt := 105) (pc := 126) dX12_goTogether_126 (by decide) ?_
        cases h
        exact hK
      · rw [if_neg c16] at h; cases h
    · rw [if_neg c15] at h; cases h
set_option maxRecDepth 4000 in
theorem w_Md_goTogether_L105 {V : Sm → Wd} (hV : VwT V) {l : Launch} {Γ : Gm} {rF : Option Value} {wF : Wd}  {k : Nat} {q : Int32 × Sm} {o : Sm} (h : lpN (Md_goTogether_L105) k q = some o) (hP : ps_Md_goTogether_L105 V l Γ rF wF o) : hd_Md_goTogether_L105 V l Γ rF wF q := lpN_ind2 (hd_Md_goTogether_L105 V l Γ rF wF) (ps_Md_goTogether_L105 V l Γ rF wF) (fun s o h hK => t_Md_goTogether_L105 hV h hK) k q o h hP
def Md_goTogether (v1 : Int32) (S : Sm) : Option (Sm) := ((lpN (Md_goTogether_L2 v1) FU (0, S)).bind fun q4 => ((lpN (Md_goTogether_L28 v1) FU (0, q4)).bind fun q14 => ((lpN (Md_goTogether_L105) FU (0, q14)).bind fun q18 => (some q18))))
set_option maxRecDepth 4000 in
theorem r_Md_goTogether {V : Sm → Wd} (hV : VwT V) {v1 : Int32} {S : Sm} {q : Sm} (h : Md_goTogether v1 S = some q) : Runs 1 mX12_goTogether [.ref 53, .int v1] (V S) none (V q) 0 0 := by
  unfold Md_goTogether at h
  refine Runs.of2 [some (.ref 53), some (.int v1), none, none] 2 rfl rfl (Nat.le_of_ble_eq_true rfl) (fun l Γ => ?_)
  refine g_iconst (v := 0) (pc := 0) dX12_goTogether_0 (by decide) ?_
  refine g_istore_n (ls1 := [some (.ref 53), some (.int v1), some (.int 0), none]) (pc := 1) dX12_goTogether_1 (by decide) rfl ?_
  obtain ⟨q4, hqq4, h⟩ := bnd h
  refine w_Md_goTogether_L2 hV hqq4 ?_
  unfold ps_Md_goTogether_L2
  show G _ _ _ _ _ _ _ _ _ _ _
  refine g_iconst (v := 0) (pc := 26) dX12_goTogether_26 (by decide) ?_
  refine g_istore_n (ls1 := [some (.ref 53), some (.int v1), some (.int 0), none]) (pc := 27) dX12_goTogether_27 (by decide) rfl ?_
  obtain ⟨q14, hqq14, h⟩ := bnd h
  refine w_Md_goTogether_L28 hV hqq14 ?_
  unfold ps_Md_goTogether_L28
  show G _ _ _ _ _ _ _ _ _ _ _
  refine g_iconst (v := 0) (pc := 103) dX12_goTogether_103 (by decide) ?_
  refine g_istore_n (ls1 := [some (.ref 53), none, some (.int 0), none]) (pc := 104) dX12_goTogether_104 (by decide) rfl ?_
  obtain ⟨q18, hqq18, h⟩ := bnd h
  refine w_Md_goTogether_L105 hV hqq18 ?_
  unfold ps_Md_goTogether_L105
  show G _ _ _ _ _ _ _ _ _ _ _
  cases h
  exact g_vret (pc := 129) dX12_goTogether_129 rfl (Nat.le_refl _) (Nat.le_refl _)
def Md_halves_17 (S : Sm) : Option (Int32 × Sm) := (some (((-1), S)))
set_option maxRecDepth 4000 in
theorem t_Md_halves_17 {V : Sm → Wd} (hV : VwT V) {l : Launch} {Γ : Gm}  {S : Sm} {q : Int32 × Sm} (h : Md_halves_17 S = some q) : G mX12_halves l Γ (rmD 3 0 0) (mQ Γ (some (.int q.1)) (V q.2) 0 0) 0 0 17 [none, none, none, none, none] [] (V S) := by
  unfold Md_halves_17 at h
  refine g_iconst (v := (-1)) (pc := 17) dX12_halves_17 (by decide) ?_
  cases h
  exact g_iret (pc := 18) dX12_halves_18 rfl rfl (Nat.le_refl _) (Nat.le_refl _)
def hd_Md_halves_L22 (V : Sm → Wd) (l : Launch) (Γ : Gm) (rF : Option Value) (wF : Wd) (v1 : Int32) (v2 : Int32) (v3 : Int32) (q : Int32 × Sm) : Prop := G mX12_halves l Γ (rmD 3 0 0) (mQ Γ rF wF 0 0) 0 0 22 [some (.ref 53), some (.int v1), some (.int v2), some (.int v3), some (.int q.1)] [] (V q.2)
def ps_Md_halves_L22 (V : Sm → Wd) (l : Launch) (Γ : Gm) (rF : Option Value) (wF : Wd) (v1 : Int32) (v2 : Int32) (v3 : Int32) (x : Sm) : Prop := (fun (a : Sm) => G mX12_halves l Γ (rmD 3 0 0) (mQ Γ rF wF 0 0) 0 0 58 [some (.ref 53), none, none, some (.int v3), none] [] (V a)) x
def Md_halves_51_L22 (v1 : Int32) (v2 : Int32) (v3 : Int32) (v4 : Int32) (s1 : Int32) (s2 : Int32) (S : Sm) : Option ((Int32 × Sm) ⊕ (Sm)) := (if inb s1 64 then (some (.inl (v4 + 1, si S 87 (ix s1) (s2 &&& 1)))) else none)
set_option maxRecDepth 4000 in
theorem t_Md_halves_51_L22 {V : Sm → Wd} (hV : VwT V) {l : Launch} {Γ : Gm} {v1 : Int32} {v2 : Int32} {v3 : Int32} {v4 : Int32} {s1 : Int32} {s2 : Int32} {rF : Option Value} {wF : Wd} {S : Sm} {o : (Int32 × Sm) ⊕ (Sm)} (h : Md_halves_51_L22 v1 v2 v3 v4 s1 s2 S = some o) (hK : Sum.elim (hd_Md_halves_L22 V l Γ rF wF v1 v2 v3) (ps_Md_halves_L22 V l Γ rF wF v1 v2 v3) o) : G mX12_halves l Γ (rmD 3 0 0) (mQ Γ rF wF 0 0) 0 0 51 [some (.ref 53), some (.int v1), some (.int v2), some (.int v3), some (.int v4)] [.int s2, .int s1, .ref 87] (V S) := by
  unfold Md_halves_51_L22 at h
  by_cases c1 : inb s1 64
  · rw [if_pos c1] at h
    refine v_zast hV (pc := 51) dX12_halves_51 k0_87 own_87 c1 ?_
    refine g_iinc (v := v4 + 1) (ls1 := [some (.ref 53), some (.int v1), some (.int v2), some (.int v3), some (.int (v4 + 1))]) (pc := 52) dX12_halves_52 rfl rfl (by decide) rfl ?_
    refine g_goto (tgt := 22) (pc := 55) dX12_halves_55 (by decide) ?_
    cases h
    exact hK
  · rw [if_neg c1] at h; cases h
def Md_halves_L22 (v1 : Int32) (v2 : Int32) (v3 : Int32) (q : Int32 × Sm) : Option ((Int32 × Sm) ⊕ (Sm)) := (if (64 : Int32) ≤ q.1 then (some (.inr q.2)) else (if q.1 = ((8 * v1) + v2) then (Md_halves_51_L22 v1 v2 v3 q.1 q.1 1 q.2) else (Md_halves_51_L22 v1 v2 v3 q.1 q.1 0 q.2)))
set_option maxRecDepth 4000 in
theorem t_Md_halves_L22 {V : Sm → Wd} (hV : VwT V) {l : Launch} {Γ : Gm} {rF : Option Value} {wF : Wd} {v1 : Int32} {v2 : Int32} {v3 : Int32} {q : Int32 × Sm} {o : (Int32 × Sm) ⊕ (Sm)} (h : Md_halves_L22 v1 v2 v3 q = some o) (hK : Sum.elim (hd_Md_halves_L22 V l Γ rF wF v1 v2 v3) (ps_Md_halves_L22 V l Γ rF wF v1 v2 v3) o) : hd_Md_halves_L22 V l Γ rF wF v1 v2 v3 q := by
  unfold Md_halves_L22 at h
  unfold hd_Md_halves_L22
  refine g_iload (pc := 22) dX12_halves_22 rfl ?_
  refine g_bipush (v := 64) (pc := 24) dX12_halves_24 (by decide) ?_
  refine g_icmp_ge (tgt := 58) (pc := 26) dX12_halves_26 (by decide) (fun c3 => ?_) (fun c3 => ?_)
  · rw [if_pos c3] at h
    refine g_wk [true, false, false, true, false] rfl ?_
    cases h
    exact hK
  · rw [if_neg c3] at h
    refine g_aload_n (pc := 29) dX12_halves_29 rfl ?_
    refine v_getR hV (pc := 30) dX12_halves_30 fo_12_54 rfl k0_53 r0_53_54 ?_
    refine g_iload (pc := 33) dX12_halves_33 rfl ?_
    refine g_iload (pc := 35) dX12_halves_35 rfl ?_
    refine g_bipush (v := 8) (pc := 37) dX12_halves_37 (by decide) ?_
    refine g_iload_n (pc := 39) dX12_halves_39 rfl ?_
    refine g_imul (pc := 40) dX12_halves_40 ?_
    refine g_iload_n (pc := 41) dX12_halves_41 rfl ?_
    refine g_iadd (pc := 42) dX12_halves_42 ?_
    refine g_icmp_ne (tgt := 50) (pc := 43) dX12_halves_43 (by decide) (fun c2 => ?_) (fun c2 => ?_)
    · rw [if_neg c2] at h
      refine g_iconst (v := 0) (pc := 50) dX12_halves_50 (by decide) ?_
      exact t_Md_halves_51_L22 hV h hK
    · rw [if_pos c2] at h
      refine g_iconst (v := 1) (pc := 46) dX12_halves_46 (by decide) ?_
      refine g_goto (tgt := 51) (pc := 47) dX12_halves_47 (by decide) ?_
      exact t_Md_halves_51_L22 hV h hK
set_option maxRecDepth 4000 in
theorem w_Md_halves_L22 {V : Sm → Wd} (hV : VwT V) {l : Launch} {Γ : Gm} {rF : Option Value} {wF : Wd} {v1 : Int32} {v2 : Int32} {v3 : Int32} {k : Nat} {q : Int32 × Sm} {o : Sm} (h : lpN (Md_halves_L22 v1 v2 v3) k q = some o) (hP : ps_Md_halves_L22 V l Γ rF wF v1 v2 v3 o) : hd_Md_halves_L22 V l Γ rF wF v1 v2 v3 q := lpN_ind2 (hd_Md_halves_L22 V l Γ rF wF v1 v2 v3) (ps_Md_halves_L22 V l Γ rF wF v1 v2 v3) (fun s o h hK => t_Md_halves_L22 hV h hK) k q o h hP
def hd_Md_halves_L61 (V : Sm → Wd) (l : Launch) (Γ : Gm) (rF : Option Value) (wF : Wd) (v3 : Int32) (q : Int32 × Sm) : Prop := G mX12_halves l Γ (rmD 3 0 0) (mQ Γ rF wF 0 0) 0 0 61 [some (.ref 53), none, none, some (.int v3), some (.int q.1)] [] (V q.2)
def ps_Md_halves_L61 (V : Sm → Wd) (l : Launch) (Γ : Gm) (rF : Option Value) (wF : Wd) (v3 : Int32) (x : Int32 × Sm) : Prop := (fun (a : Int32 × Sm) => G mX12_halves l Γ (rmD 3 0 0) (mQ Γ rF wF 0 0) 0 0 86 [some (.ref 53), none, none, none, some (.int a.1)] [] (V a.2)) x
def Md_halves_L61 (v3 : Int32) (q : Int32 × Sm) : Option ((Int32 × Sm) ⊕ (Int32 × Sm)) := (if (64 : Int32) ≤ q.1 then (some (.inr (q.1, q.2))) else ((Md_areTogether q.2).bind fun q5 => (if q5 = 0 then ((Md_goTogether v3 q.2).bind fun q6 => (some (.inl (q.1 + 1, q6)))) else (some (.inr (q.1, q.2))))))
set_option maxRecDepth 4000 in
theorem t_Md_halves_L61 {V : Sm → Wd} (hV : VwT V) {l : Launch} {Γ : Gm} {rF : Option Value} {wF : Wd} {v3 : Int32} {q : Int32 × Sm} {o : (Int32 × Sm) ⊕ (Int32 × Sm)} (h : Md_halves_L61 v3 q = some o) (hK : Sum.elim (hd_Md_halves_L61 V l Γ rF wF v3) (ps_Md_halves_L61 V l Γ rF wF v3) o) : hd_Md_halves_L61 V l Γ rF wF v3 q := by
  unfold Md_halves_L61 at h
  unfold hd_Md_halves_L61
  refine g_iload (pc := 61) dX12_halves_61 rfl ?_
  refine g_bipush (v := 64) (pc := 63) dX12_halves_63 (by decide) ?_
  refine g_icmp_ge (tgt := 86) (pc := 65) dX12_halves_65 (by decide) (fun c8 => ?_) (fun c8 => ?_)
  · rw [if_pos c8] at h
    refine g_wk [true, false, false, false, true] rfl ?_
    cases h
    exact hK
  · rw [if_neg c8] at h
    refine g_aload_n (pc := 68) dX12_halves_68 rfl ?_
    obtain ⟨q5, hq5, h⟩ := bnd h
    refine v_callVi hV (Mc := mX12_areTogether) (v := q5) (S1 := q.2) (As := []) (rest := []) (q := (RX12, TX12, 58)) (pc := 69) dX12_halves_69 mK_X12_471 mf_X12_areTogether rfl k0_53 rfl rfl rfl (Nat.le_of_ble_eq_true rfl) ⟨Nat.le_of_ble_eq_true rfl, Nat.le_of_ble_eq_true rfl⟩ (r_Md_areTogether hV hq5) ?_
    refine g_if_ne (tgt := 86) (pc := 72) dX12_halves_72 (by decide) (fun c7 => ?_) (fun c7 => ?_)
    · rw [if_neg c7] at h
      refine g_wk [true, false, false, false, true] rfl ?_
      cases h
      exact hK
    · rw [if_pos c7] at h
      refine g_aload_n (pc := 75) dX12_halves_75 rfl ?_
      refine g_iload_n (pc := 76) dX12_halves_76 rfl ?_
      obtain ⟨q6, hq6, h⟩ := bnd h
      refine v_callVv hV (Mc := mX12_goTogether) (S1 := q6) (As := [.int v3]) (rest := []) (q := (RX12, TX12, 58)) (pc := 77) dX12_halves_77 mK_X12_474 mf_X12_goTogether rfl k0_53 rfl rfl rfl (Nat.le_of_ble_eq_true rfl) ⟨Nat.le_of_ble_eq_true rfl, Nat.le_of_ble_eq_true rfl⟩ (r_Md_goTogether hV hq6) ?_
      refine g_iinc (v := q.1 + 1) (ls1 := [some (.ref 53), none, none, some (.int v3), some (.int (q.1 + 1))]) (pc := 80) dX12_halves_80 rfl rfl (by decide) rfl ?_
      refine g_goto (tgt := 61) (pc := 83) dX12_halves_83 (by decide) ?_
      cases h
      exact hK
set_option maxRecDepth 4000 in
theorem w_Md_halves_L61 {V : Sm → Wd} (hV : VwT V) {l : Launch} {Γ : Gm} {rF : Option Value} {wF : Wd} {v3 : Int32} {k : Nat} {q : Int32 × Sm} {o : Int32 × Sm} (h : lpN (Md_halves_L61 v3) k q = some o) (hP : ps_Md_halves_L61 V l Γ rF wF v3 o) : hd_Md_halves_L61 V l Γ rF wF v3 q := lpN_ind2 (hd_Md_halves_L61 V l Γ rF wF v3) (ps_Md_halves_L61 V l Γ rF wF v3) (fun s o h hK => t_Md_halves_L61 hV h hK) k q o h hP
def Md_halves_99 (s0 : Int32) (S : Sm) : Option (Int32 × Sm) := (some ((s0, S)))
set_option maxRecDepth 4000 in
theorem t_Md_halves_99 {V : Sm → Wd} (hV : VwT V) {l : Launch} {Γ : Gm} {s0 : Int32} {S : Sm} {q : Int32 × Sm} (h : Md_halves_99 s0 S = some q) : G mX12_halves l Γ (rmD 3 0 0) (mQ Γ (some (.int q.1)) (V q.2) 0 0) 0 0 99 [none, none, none, none, none] [.int s0] (V S) := by
  unfold Md_halves_99 at h
  cases h
  exact g_iret (pc := 99) dX12_halves_99 rfl rfl (Nat.le_refl _) (Nat.le_refl _)
def Md_halves (v1 : Int32) (v2 : Int32) (v3 : Int32) (S : Sm) : Option (Int32 × Sm) := (if (Md_areMouths v1 v2 S) = 0 then (Md_halves_17 S) else (if (Md_isSet v3 S) = 0 then (Md_halves_17 S) else ((lpN (Md_halves_L22 v1 v2 v3) FU (0, S)).bind fun q4 => ((lpN (Md_halves_L61 v3) FU (0, q4)).bind fun q9 => ((Md_areTogether q9.2).bind fun q10 => (if q10 = 0 then (Md_halves_99 ((-1)) q9.2) else (Md_halves_99 q9.1 q9.2)))))))
set_option maxRecDepth 4000 in
theorem r_Md_halves {V : Sm → Wd} (hV : VwT V) {v1 : Int32} {v2 : Int32} {v3 : Int32} {S : Sm} {q : Int32 × Sm} (h : Md_halves v1 v2 v3 S = some q) : Runs 3 mX12_halves [.ref 53, .int v1, .int v2, .int v3] (V S) (some (.int q.1)) (V q.2) 0 0 := by
  unfold Md_halves at h
  refine Runs.of2 [some (.ref 53), some (.int v1), some (.int v2), some (.int v3), none] 1 rfl rfl (Nat.le_of_ble_eq_true rfl) (fun l Γ => ?_)
  refine g_aload_n (pc := 0) dX12_halves_0 rfl ?_
  refine g_iload_n (pc := 1) dX12_halves_1 rfl ?_
  refine g_iload_n (pc := 2) dX12_halves_2 rfl ?_
  refine v_callVi hV (Mc := mX12_areMouths) (v := Md_areMouths v1 v2 S) (S1 := S) (As := [.int v1, .int v2]) (rest := []) (q := (RX12, TX12, 58)) (pc := 3) dX12_halves_3 mK_X12_392 mf_X12_areMouths rfl k0_53 rfl rfl rfl (Nat.le_of_ble_eq_true rfl) ⟨Nat.le_of_ble_eq_true rfl, Nat.le_of_ble_eq_true rfl⟩ (r_Md_areMouths hV rfl) ?_
  refine g_if_eq (tgt := 17) (pc := 6) dX12_halves_6 (by decide) (fun c13 => ?_) (fun c13 => ?_)
  · rw [if_pos c13] at h
    refine g_wk [false, false, false, false, false] rfl ?_
    exact t_Md_halves_17 hV h
  · rw [if_neg c13] at h
    refine g_aload_n (pc := 9) dX12_halves_9 rfl ?_
    refine g_iload_n (pc := 10) dX12_halves_10 rfl ?_
    refine v_callVi hV (Mc := mX12_isSet) (v := Md_isSet v3 S) (S1 := S) (As := [.int v3]) (rest := []) (q := (RX12, TX12, 58)) (pc := 11) dX12_halves_11 mK_X12_395 mf_X12_isSet rfl k0_53 rfl rfl rfl (Nat.le_of_ble_eq_true rfl) ⟨Nat.le_of_ble_eq_true rfl, Nat.le_of_ble_eq_true rfl⟩ (r_Md_isSet hV rfl) ?_
    refine g_if_ne (tgt := 19) (pc := 14) dX12_halves_14 (by decide) (fun c12 => ?_) (fun c12 => ?_)
    · rw [if_neg c12] at h
      refine g_iconst (v := 0) (pc := 19) dX12_halves_19 (by decide) ?_
      refine g_istore (ls1 := [some (.ref 53), some (.int v1), some (.int v2), some (.int v3), some (.int 0)]) (pc := 20) dX12_halves_20 (by decide) rfl ?_
      obtain ⟨q4, hqq4, h⟩ := bnd h
      refine w_Md_halves_L22 hV hqq4 ?_
      unfold ps_Md_halves_L22
      show G _ _ _ _ _ _ _ _ _ _ _
      refine g_iconst (v := 0) (pc := 58) dX12_halves_58 (by decide) ?_
      refine g_istore (ls1 := [some (.ref 53), none, none, some (.int v3), some (.int 0)]) (pc := 59) dX12_halves_59 (by decide) rfl ?_
      obtain ⟨q9, hqq9, h⟩ := bnd h
      refine w_Md_halves_L61 hV hqq9 ?_
      unfold ps_Md_halves_L61
      show G _ _ _ _ _ _ _ _ _ _ _
      refine g_aload_n (pc := 86) dX12_halves_86 rfl ?_
      obtain ⟨q10, hq10, h⟩ := bnd h
      refine v_callVi hV (Mc := mX12_areTogether) (v := q10) (S1 := q9.2) (As := []) (rest := []) (q := (RX12, TX12, 58)) (pc := 87) dX12_halves_87 mK_X12_471 mf_X12_areTogether rfl k0_53 rfl rfl rfl (Nat.le_of_ble_eq_true rfl) ⟨Nat.le_of_ble_eq_true rfl, Nat.le_of_ble_eq_true rfl⟩ (r_Md_areTogether hV hq10) ?_
      refine g_if_eq (tgt := 98) (pc := 90) dX12_halves_90 (by decide) (fun c11 => ?_) (fun c11 => ?_)
      · rw [if_pos c11] at h
        refine g_iconst (v := (-1)) (pc := 98) dX12_halves_98 (by decide) ?_
        refine g_wk [false, false, false, false, false] rfl ?_
        exact t_Md_halves_99 hV h
      · rw [if_neg c11] at h
        refine g_iload (pc := 93) dX12_halves_93 rfl ?_
        refine g_goto (tgt := 99) (pc := 95) dX12_halves_95 (by decide) ?_
        refine g_wk [false, false, false, false, false] rfl ?_
        exact t_Md_halves_99 hV h
    · rw [if_pos c12] at h
      refine g_wk [false, false, false, false, false] rfl ?_
      exact t_Md_halves_17 hV h
def hd_Md_smugglesOf_L6 (V : Sm → Wd) (l : Launch) (Γ : Gm) (rF : Option Value) (wF : Wd) (v1 : Int32) (v2 : Int32) (v3 : Int32) (v4 : Int32) (S : Sm) (q : Int32 × Int32) : Prop := G mX12_smugglesOf l Γ (rmD 2 0 0) (mQ Γ rF wF 0 0) 0 0 6 [some (.ref 53), some (.int v1), some (.int v2), some (.int v3), some (.int v4), some (.int q.1), some (.int q.2)] [] (V S)
def ps_Md_smugglesOf_L6 (V : Sm → Wd) (l : Launch) (Γ : Gm) (rF : Option Value) (wF : Wd) (v1 : Int32) (v2 : Int32) (v3 : Int32) (v4 : Int32) (S : Sm) (x : Int32) : Prop := (fun (a : Int32) => G mX12_smugglesOf l Γ (rmD 2 0 0) (mQ Γ rF wF 0 0) 0 0 41 [none, none, none, none, none, some (.int a), none] [] (V S)) x
def Md_smugglesOf_32_L6 (v1 : Int32) (v2 : Int32) (v3 : Int32) (v4 : Int32) (v6 : Int32) (s0 : Int32) (s1 : Int32) (S : Sm) : Option ((Int32 × Int32) ⊕ (Int32)) := (some (.inl (s0 + s1, v6 + 1)))
set_option maxRecDepth 4000 in
theorem t_Md_smugglesOf_32_L6 {V : Sm → Wd} (hV : VwT V) {l : Launch} {Γ : Gm} {v1 : Int32} {v2 : Int32} {v3 : Int32} {v4 : Int32} {v6 : Int32} {s0 : Int32} {s1 : Int32} {rF : Option Value} {wF : Wd} {S : Sm} {o : (Int32 × Int32) ⊕ (Int32)} (h : Md_smugglesOf_32_L6 v1 v2 v3 v4 v6 s0 s1 S = some o) (hK : Sum.elim (hd_Md_smugglesOf_L6 V l Γ rF wF v1 v2 v3 v4 S) (ps_Md_smugglesOf_L6 V l Γ rF wF v1 v2 v3 v4 S) o) : G mX12_smugglesOf l Γ (rmD 2 0 0) (mQ Γ rF wF 0 0) 0 0 32 [some (.ref 53), some (.int v1), some (.int v2), some (.int v3), some (.int v4), none, some (.int v6)] [.int s1, .int s0] (V S) := by
  unfold Md_smugglesOf_32_L6 at h
  refine g_iadd (pc := 32) dX12_smugglesOf_32 ?_
  refine g_istore (ls1 := [some (.ref 53), some (.int v1), some (.int v2), some (.int v3), some (.int v4), some (.int (s0 + s1)), some (.int v6)]) (pc := 33) dX12_smugglesOf_33 (by decide) rfl ?_
  refine g_iinc (v := v6 + 1) (ls1 := [some (.ref 53), some (.int v1), some (.int v2), some (.int v3), some (.int v4), some (.int (s0 + s1)), some (.int (v6 + 1))]) (pc := 35) dX12_smugglesOf_35 rfl rfl (by decide) rfl ?_
  refine g_goto (tgt := 6) (pc := 38) dX12_smugglesOf_38 (by decide) ?_
  cases h
  exact hK
def Md_smugglesOf_L6 (v1 : Int32) (v2 : Int32) (v3 : Int32) (v4 : Int32) (S : Sm) (q : Int32 × Int32) : Option ((Int32 × Int32) ⊕ (Int32)) := (if v2 < q.2 then (some (.inr q.1)) else ((Md_through v1 v3 q.2 S).bind fun q1 => (if q1 = v4 then (Md_smugglesOf_32_L6 v1 v2 v3 v4 q.2 q.1 0 S) else (Md_smugglesOf_32_L6 v1 v2 v3 v4 q.2 q.1 1 S))))
set_option maxRecDepth 4000 in
theorem t_Md_smugglesOf_L6 {V : Sm → Wd} (hV : VwT V) {l : Launch} {Γ : Gm} {rF : Option Value} {wF : Wd} {v1 : Int32} {v2 : Int32} {v3 : Int32} {v4 : Int32} {S : Sm} {q : Int32 × Int32} {o : (Int32 × Int32) ⊕ (Int32)} (h : Md_smugglesOf_L6 v1 v2 v3 v4 S q = some o) (hK : Sum.elim (hd_Md_smugglesOf_L6 V l Γ rF wF v1 v2 v3 v4 S) (ps_Md_smugglesOf_L6 V l Γ rF wF v1 v2 v3 v4 S) o) : hd_Md_smugglesOf_L6 V l Γ rF wF v1 v2 v3 v4 S q := by
  unfold Md_smugglesOf_L6 at h
  unfold hd_Md_smugglesOf_L6
  refine g_iload (pc := 6) dX12_smugglesOf_6 rfl ?_
  refine g_iload_n (pc := 8) dX12_smugglesOf_8 rfl ?_
  refine g_icmp_gt (tgt := 41) (pc := 9) dX12_smugglesOf_9 (by decide) (fun c3 => ?_) (fun c3 => ?_)
  · rw [if_pos c3] at h
    refine g_wk [false, false, false, false, false, true, false] rfl ?_
    cases h
    exact hK
  · rw [if_neg c3] at h
    refine g_iload (pc := 12) dX12_smugglesOf_12 rfl ?_
    refine g_aload_n (pc := 14) dX12_smugglesOf_14 rfl ?_
    refine g_iload_n (pc := 15) dX12_smugglesOf_15 rfl ?_
    refine g_iload_n (pc := 16) dX12_smugglesOf_16 rfl ?_
    refine g_iload (pc := 17) dX12_smugglesOf_17 rfl ?_
    obtain ⟨q1, hq1, h⟩ := bnd h
    refine v_callVi hV (Mc := mX12_through) (v := q1) (S1 := S) (As := [.int v1, .int v3, .int q.2]) (rest := [.int q.1]) (q := (RX12, TX12, 58)) (pc := 19) dX12_smugglesOf_19 mK_X12_382 mf_X12_through rfl k0_53 rfl rfl rfl (Nat.le_of_ble_eq_true rfl) ⟨Nat.le_of_ble_eq_true rfl, Nat.le_of_ble_eq_true rfl⟩ (r_Md_through hV hq1) ?_
    refine g_iload (pc := 22) dX12_smugglesOf_22 rfl ?_
    refine g_icmp_ne (tgt := 31) (pc := 24) dX12_smugglesOf_24 (by decide) (fun c2 => ?_) (fun c2 => ?_)
    · rw [if_neg c2] at h
      refine g_iconst (v := 1) (pc := 31) dX12_smugglesOf_31 (by decide) ?_
      refine g_wk [true, true, true, true, true, false, true] rfl ?_
      exact t_Md_smugglesOf_32_L6 hV h hK
    · rw [if_pos c2] at h
      refine g_iconst (v := 0) (pc := 27) dX12_smugglesOf_27 (by decide) ?_
      refine g_goto (tgt := 32) (pc := 28) dX12_smugglesOf_28 (by decide) ?_
      refine g_wk [true, true, true, true, true, false, true] rfl ?_
      exact t_Md_smugglesOf_32_L6 hV h hK
set_option maxRecDepth 4000 in
theorem w_Md_smugglesOf_L6 {V : Sm → Wd} (hV : VwT V) {l : Launch} {Γ : Gm} {rF : Option Value} {wF : Wd} {v1 : Int32} {v2 : Int32} {v3 : Int32} {v4 : Int32} {S : Sm} {k : Nat} {q : Int32 × Int32} {o : Int32} (h : lpN (Md_smugglesOf_L6 v1 v2 v3 v4 S) k q = some o) (hP : ps_Md_smugglesOf_L6 V l Γ rF wF v1 v2 v3 v4 S o) : hd_Md_smugglesOf_L6 V l Γ rF wF v1 v2 v3 v4 S q := lpN_ind2 (hd_Md_smugglesOf_L6 V l Γ rF wF v1 v2 v3 v4 S) (ps_Md_smugglesOf_L6 V l Γ rF wF v1 v2 v3 v4 S) (fun s o h hK => t_Md_smugglesOf_L6 hV h hK) k q o h hP
def Md_smugglesOf (v1 : Int32) (v2 : Int32) (v3 : Int32) (v4 : Int32) (S : Sm) : Option (Int32) := ((lpN (Md_smugglesOf_L6 v1 v2 v3 v4 S) FU (0, 1)).bind fun q4 => (some q4))
set_option maxRecDepth 4000 in
theorem r_Md_smugglesOf {V : Sm → Wd} (hV : VwT V) {v1 : Int32} {v2 : Int32} {v3 : Int32} {v4 : Int32} {S : Sm} {q : Int32} (h : Md_smugglesOf v1 v2 v3 v4 S = some q) : Runs 2 mX12_smugglesOf [.ref 53, .int v1, .int v2, .int v3, .int v4] (V S) (some (.int q)) (V S) 0 0 := by
  unfold Md_smugglesOf at h
  refine Runs.of2 [some (.ref 53), some (.int v1), some (.int v2), some (.int v3), some (.int v4), none, none] 2 rfl rfl (Nat.le_of_ble_eq_true rfl) (fun l Γ => ?_)
  refine g_iconst (v := 0) (pc := 0) dX12_smugglesOf_0 (by decide) ?_
  refine g_istore (ls1 := [some (.ref 53), some (.int v1), some (.int v2), some (.int v3), some (.int v4), some (.int 0), none]) (pc := 1) dX12_smugglesOf_1 (by decide) rfl ?_
  refine g_iconst (v := 1) (pc := 3) dX12_smugglesOf_3 (by decide) ?_
  refine g_istore (ls1 := [some (.ref 53), some (.int v1), some (.int v2), some (.int v3), some (.int v4), some (.int 0), some (.int 1)]) (pc := 4) dX12_smugglesOf_4 (by decide) rfl ?_
  obtain ⟨q4, hqq4, h⟩ := bnd h
  refine w_Md_smugglesOf_L6 hV hqq4 ?_
  unfold ps_Md_smugglesOf_L6
  show G _ _ _ _ _ _ _ _ _ _ _
  refine g_iload (pc := 41) dX12_smugglesOf_41 rfl ?_
  cases h
  exact g_iret (pc := 43) dX12_smugglesOf_43 rfl rfl (Nat.le_refl _) (Nat.le_refl _)
def Md_smuggles_43 (s0 : Int32) (S : Sm) : Option (Int32) := (some s0)
set_option maxRecDepth 4000 in
theorem t_Md_smuggles_43 {V : Sm → Wd} (hV : VwT V) {l : Launch} {Γ : Gm} {s0 : Int32} {S : Sm} {q : Int32} (h : Md_smuggles_43 s0 S = some q) : G mX12_smuggles l Γ (rmD 3 0 0) (mQ Γ (some (.int q)) (V S) 0 0) 0 0 43 [none, none, none, none, none] [.int s0] (V S) := by
  unfold Md_smuggles_43 at h
  cases h
  exact g_iret (pc := 43) dX12_smuggles_43 rfl rfl (Nat.le_refl _) (Nat.le_refl _)
def Md_smuggles_40 (S : Sm) : Option (Int32) := (Md_smuggles_43 ((-1000000)) S)
set_option maxRecDepth 4000 in
theorem t_Md_smuggles_40 {V : Sm → Wd} (hV : VwT V) {l : Launch} {Γ : Gm}  {S : Sm} {q : Int32} (h : Md_smuggles_40 S = some q) : G mX12_smuggles l Γ (rmD 3 0 0) (mQ Γ (some (.int q)) (V S) 0 0) 0 0 40 [none, none, none, none, none] [] (V S) := by
  unfold Md_smuggles_40 at h
  refine g_ldcw (v := (-1000000)) (pc := 40) dX12_smuggles_40 kI_X12_339 ?_
  exact t_Md_smuggles_43 hV h
def Md_smuggles (v1 : Int32) (v2 : Int32) (v3 : Int32) (v4 : Int32) (S : Sm) : Option (Int32) := (if (Md_areMouths v1 v4 S) = 0 then (Md_smuggles_40 S) else (if (Md_in v2 1 9) = 0 then (Md_smuggles_40 S) else (if (Md_isColour v3 S) = 0 then (Md_smuggles_40 S) else ((Md_smugglesOf v1 v2 v3 v4 S).bind fun q1 => (Md_smuggles_43 q1 S)))))
set_option maxRecDepth 4000 in
theorem r_Md_smuggles {V : Sm → Wd} (hV : VwT V) {v1 : Int32} {v2 : Int32} {v3 : Int32} {v4 : Int32} {S : Sm} {q : Int32} (h : Md_smuggles v1 v2 v3 v4 S = some q) : Runs 3 mX12_smuggles [.ref 53, .int v1, .int v2, .int v3, .int v4] (V S) (some (.int q)) (V S) 0 0 := by
  unfold Md_smuggles at h
  refine Runs.of2 [some (.ref 53), some (.int v1), some (.int v2), some (.int v3), some (.int v4)] 0 rfl rfl (Nat.le_of_ble_eq_true rfl) (fun l Γ => ?_)
  refine g_aload_n (pc := 0) dX12_smuggles_0 rfl ?_
  refine g_iload_n (pc := 1) dX12_smuggles_1 rfl ?_
  refine g_iload (pc := 2) dX12_smuggles_2 rfl ?_
  refine v_callVi hV (Mc := mX12_areMouths) (v := Md_areMouths v1 v4 S) (S1 := S) (As := [.int v1, .int v4]) (rest := []) (q := (RX12, TX12, 58)) (pc := 4) dX12_smuggles_4 mK_X12_392 mf_X12_areMouths rfl k0_53 rfl rfl rfl (Nat.le_of_ble_eq_true rfl) ⟨Nat.le_of_ble_eq_true rfl, Nat.le_of_ble_eq_true rfl⟩ (r_Md_areMouths hV rfl) ?_
  refine g_if_eq (tgt := 40) (pc := 7) dX12_smuggles_7 (by decide) (fun c4 => ?_) (fun c4 => ?_)
  · rw [if_pos c4] at h
    refine g_wk [false, false, false, false, false] rfl ?_
    exact t_Md_smuggles_40 hV h
  · rw [if_neg c4] at h
    refine g_iload_n (pc := 10) dX12_smuggles_10 rfl ?_
    refine g_iconst (v := 1) (pc := 11) dX12_smuggles_11 (by decide) ?_
    refine g_bipush (v := 9) (pc := 12) dX12_smuggles_12 (by decide) ?_
    refine v_callSi (Mc := mX12_in) (v := Md_in v2 1 9) (S1 := S) (As := [.int v2, .int 1, .int 9]) (rest := []) (pc := 14) dX12_smuggles_14 mK_X12_238 mf_X12_in rfl rfl (Nat.le_of_ble_eq_true rfl) ⟨Nat.le_of_ble_eq_true rfl, Nat.le_of_ble_eq_true rfl⟩ (r_Md_in hV rfl) ?_
    refine g_if_eq (tgt := 40) (pc := 17) dX12_smuggles_17 (by decide) (fun c3 => ?_) (fun c3 => ?_)
    · rw [if_pos c3] at h
      refine g_wk [false, false, false, false, false] rfl ?_
      exact t_Md_smuggles_40 hV h
    · rw [if_neg c3] at h
      refine g_aload_n (pc := 20) dX12_smuggles_20 rfl ?_
      refine g_iload_n (pc := 21) dX12_smuggles_21 rfl ?_
      refine v_callVi hV (Mc := mX12_isColour) (v := Md_isColour v3 S) (S1 := S) (As := [.int v3]) (rest := []) (q := (RX12, TX12, 58)) (pc := 22) dX12_smuggles_22 mK_X12_317 mf_X12_isColour rfl k0_53 rfl rfl rfl (Nat.le_of_ble_eq_true rfl) ⟨Nat.le_of_ble_eq_true rfl, Nat.le_of_ble_eq_true rfl⟩ (r_Md_isColour hV rfl) ?_
      refine g_if_eq (tgt := 40) (pc := 25) dX12_smuggles_25 (by decide) (fun c2 => ?_) (fun c2 => ?_)
      · rw [if_pos c2] at h
        refine g_wk [false, false, false, false, false] rfl ?_
        exact t_Md_smuggles_40 hV h
      · rw [if_neg c2] at h
        refine g_aload_n (pc := 28) dX12_smuggles_28 rfl ?_
        refine g_iload_n (pc := 29) dX12_smuggles_29 rfl ?_
        refine g_iload_n (pc := 30) dX12_smuggles_30 rfl ?_
        refine g_iload_n (pc := 31) dX12_smuggles_31 rfl ?_
        refine g_iload (pc := 32) dX12_smuggles_32 rfl ?_
        obtain ⟨q1, hq1, h⟩ := bnd h
        refine v_callVi hV (Mc := mX12_smugglesOf) (v := q1) (S1 := S) (As := [.int v1, .int v2, .int v3, .int v4]) (rest := []) (q := (RX12, TX12, 58)) (pc := 34) dX12_smuggles_34 mK_X12_477 mf_X12_smugglesOf rfl k0_53 rfl rfl rfl (Nat.le_of_ble_eq_true rfl) ⟨Nat.le_of_ble_eq_true rfl, Nat.le_of_ble_eq_true rfl⟩ (r_Md_smugglesOf hV hq1) ?_
        refine g_goto (tgt := 43) (pc := 37) dX12_smuggles_37 (by decide) ?_
        refine g_wk [false, false, false, false, false] rfl ?_
        exact t_Md_smuggles_43 hV h
def hd_Md_isRest_L14 (V : Sm → Wd) (l : Launch) (Γ : Gm) (rF : Option Value) (wF : Wd) (v1 : Int32) (v2 : Int32) (v3 : Int32) (v4 : Int32) (v5 : Int32) (S : Sm) (q : Int32) : Prop := G mX12_isRest l Γ (rmD 3 0 0) (mQ Γ rF wF 0 0) 0 0 14 [some (.ref 53), some (.int v1), some (.int v2), some (.int v3), some (.int v4), some (.int v5), some (.int q)] [] (V S)
def ps_Md_isRest_L14 (V : Sm → Wd) (l : Launch) (Γ : Gm) (rF : Option Value) (wF : Wd) (v1 : Int32) (v2 : Int32) (v3 : Int32) (v4 : Int32) (v5 : Int32) (S : Sm) (x : (Unit) ⊕ (Unit)) : Prop := (Sum.elim (fun (a : Unit) => G mX12_isRest l Γ (rmD 3 0 0) (mQ Γ rF wF 0 0) 0 0 40 [none, none, none, none, none, none, none] [] (V S)) (fun (a : Unit) => G mX12_isRest l Γ (rmD 3 0 0) (mQ Γ rF wF 0 0) 0 0 48 [some (.ref 53), some (.int v1), some (.int v2), some (.int v3), none, some (.int v5), none] [] (V S))) x
def Md_isRest_L14 (v1 : Int32) (v2 : Int32) (v3 : Int32) (v4 : Int32) (v5 : Int32) (S : Sm) (q : Int32) : Option ((Int32) ⊕ ((Unit) ⊕ (Unit))) := (if (gi S 68 1) ≤ q then (some (.inr (.inr ()))) else ((Md_smugglesOf v1 v2 q v4 S).bind fun q2 => (if q2 ≤ v5 then (some (.inl (q + 1))) else (some (.inr (.inl ()))))))
set_option maxRecDepth 4000 in
theorem t_Md_isRest_L14 {V : Sm → Wd} (hV : VwT V) {l : Launch} {Γ : Gm} {rF : Option Value} {wF : Wd} {v1 : Int32} {v2 : Int32} {v3 : Int32} {v4 : Int32} {v5 : Int32} {S : Sm} {q : Int32} {o : (Int32) ⊕ ((Unit) ⊕ (Unit))} (h : Md_isRest_L14 v1 v2 v3 v4 v5 S q = some o) (hK : Sum.elim (hd_Md_isRest_L14 V l Γ rF wF v1 v2 v3 v4 v5 S) (ps_Md_isRest_L14 V l Γ rF wF v1 v2 v3 v4 v5 S) o) : hd_Md_isRest_L14 V l Γ rF wF v1 v2 v3 v4 v5 S q := by
  unfold Md_isRest_L14 at h
  unfold hd_Md_isRest_L14
  refine g_iload (pc := 14) dX12_isRest_14 rfl ?_
  refine g_aload_n (pc := 16) dX12_isRest_16 rfl ?_
  refine v_getR hV (pc := 17) dX12_isRest_17 fo_12_24 rfl k0_53 r0_53_24 ?_
  refine g_iconst (v := 1) (pc := 20) dX12_isRest_20 (by decide) ?_
  refine v_ialdK hV (k := 1) (pc := 21) dX12_isRest_21 k0_68 own_68 (by decide) (by decide) ?_
  refine g_icmp_ge (tgt := 48) (pc := 22) dX12_isRest_22 (by decide) (fun c4 => ?_) (fun c4 => ?_)
  · rw [if_pos c4] at h
    refine g_wk [true, true, true, true, false, true, false] rfl ?_
    cases h
    exact hK
  · rw [if_neg c4] at h
    refine g_aload_n (pc := 25) dX12_isRest_25 rfl ?_
    refine g_iload_n (pc := 26) dX12_isRest_26 rfl ?_
    refine g_iload_n (pc := 27) dX12_isRest_27 rfl ?_
    refine g_iload (pc := 28) dX12_isRest_28 rfl ?_
    refine g_iload (pc := 30) dX12_isRest_30 rfl ?_
    obtain ⟨q2, hq2, h⟩ := bnd h
    refine v_callVi hV (Mc := mX12_smugglesOf) (v := q2) (S1 := S) (As := [.int v1, .int v2, .int q, .int v4]) (rest := []) (q := (RX12, TX12, 58)) (pc := 32) dX12_isRest_32 mK_X12_477 mf_X12_smugglesOf rfl k0_53 rfl rfl rfl (Nat.le_of_ble_eq_true rfl) ⟨Nat.le_of_ble_eq_true rfl, Nat.le_of_ble_eq_true rfl⟩ (r_Md_smugglesOf hV hq2) ?_
    refine g_iload (pc := 35) dX12_isRest_35 rfl ?_
    refine g_icmp_le (tgt := 42) (pc := 37) dX12_isRest_37 (by decide) (fun c3 => ?_) (fun c3 => ?_)
    · rw [if_pos c3] at h
      refine g_iinc (v := q + 1) (ls1 := [some (.ref 53), some (.int v1), some (.int v2), some (.int v3), some (.int v4), some (.int v5), some (.int (q + 1))]) (pc := 42) dX12_isRest_42 rfl rfl (by decide) rfl ?_
      refine g_goto (tgt := 14) (pc := 45) dX12_isRest_45 (by decide) ?_
      cases h
      exact hK
    · rw [if_neg c3] at h
      refine g_wk [false, false, false, false, false, false, false] rfl ?_
      cases h
      exact hK
set_option maxRecDepth 4000 in
theorem w_Md_isRest_L14 {V : Sm → Wd} (hV : VwT V) {l : Launch} {Γ : Gm} {rF : Option Value} {wF : Wd} {v1 : Int32} {v2 : Int32} {v3 : Int32} {v4 : Int32} {v5 : Int32} {S : Sm} {k : Nat} {q : Int32} {o : (Unit) ⊕ (Unit)} (h : lpN (Md_isRest_L14 v1 v2 v3 v4 v5 S) k q = some o) (hP : ps_Md_isRest_L14 V l Γ rF wF v1 v2 v3 v4 v5 S o) : hd_Md_isRest_L14 V l Γ rF wF v1 v2 v3 v4 v5 S q := lpN_ind2 (hd_Md_isRest_L14 V l Γ rF wF v1 v2 v3 v4 v5 S) (ps_Md_isRest_L14 V l Γ rF wF v1 v2 v3 v4 v5 S) (fun s o h hK => t_Md_isRest_L14 hV h hK) k q o h hP
def hd_Md_isRest_L51 (V : Sm → Wd) (l : Launch) (Γ : Gm) (rF : Option Value) (wF : Wd) (v1 : Int32) (v2 : Int32) (v3 : Int32) (v5 : Int32) (S : Sm) (q : Int32) : Prop := G mX12_isRest l Γ (rmD 3 0 0) (mQ Γ rF wF 0 0) 0 0 51 [some (.ref 53), some (.int v1), some (.int v2), some (.int v3), none, some (.int v5), some (.int q)] [] (V S)
def ps_Md_isRest_L51 (V : Sm → Wd) (l : Launch) (Γ : Gm) (rF : Option Value) (wF : Wd) (v1 : Int32) (v2 : Int32) (v3 : Int32) (v5 : Int32) (S : Sm) (x : (Unit) ⊕ (Unit)) : Prop := (Sum.elim (fun (a : Unit) => G mX12_isRest l Γ (rmD 3 0 0) (mQ Γ rF wF 0 0) 0 0 76 [none, none, none, none, none, none, none] [] (V S)) (fun (a : Unit) => G mX12_isRest l Γ (rmD 3 0 0) (mQ Γ rF wF 0 0) 0 0 84 [none, none, none, none, none, none, none] [] (V S))) x
def Md_isRest_L51 (v1 : Int32) (v2 : Int32) (v3 : Int32) (v5 : Int32) (S : Sm) (q : Int32) : Option ((Int32) ⊕ ((Unit) ⊕ (Unit))) := (if (gi S 68 0) ≤ q then (some (.inr (.inr ()))) else ((Md_smugglesOf v1 v2 v3 q S).bind fun q8 => (if v5 ≤ q8 then (some (.inl (q + 1))) else (some (.inr (.inl ()))))))
set_option maxRecDepth 4000 in
theorem t_Md_isRest_L51 {V : Sm → Wd} (hV : VwT V) {l : Launch} {Γ : Gm} {rF : Option Value} {wF : Wd} {v1 : Int32} {v2 : Int32} {v3 : Int32} {v5 : Int32} {S : Sm} {q : Int32} {o : (Int32) ⊕ ((Unit) ⊕ (Unit))} (h : Md_isRest_L51 v1 v2 v3 v5 S q = some o) (hK : Sum.elim (hd_Md_isRest_L51 V l Γ rF wF v1 v2 v3 v5 S) (ps_Md_isRest_L51 V l Γ rF wF v1 v2 v3 v5 S) o) : hd_Md_isRest_L51 V l Γ rF wF v1 v2 v3 v5 S q := by
  unfold Md_isRest_L51 at h
  unfold hd_Md_isRest_L51
  refine g_iload (pc := 51) dX12_isRest_51 rfl ?_
  refine g_aload_n (pc := 53) dX12_isRest_53 rfl ?_
  refine v_getR hV (pc := 54) dX12_isRest_54 fo_12_24 rfl k0_53 r0_53_24 ?_
  refine g_iconst (v := 0) (pc := 57) dX12_isRest_57 (by decide) ?_
  refine v_ialdK hV (k := 0) (pc := 58) dX12_isRest_58 k0_68 own_68 (by decide) (by decide) ?_
  refine g_icmp_ge (tgt := 84) (pc := 59) dX12_isRest_59 (by decide) (fun c10 => ?_) (fun c10 => ?_)
  · rw [if_pos c10] at h
    refine g_wk [false, false, false, false, false, false, false] rfl ?_
    cases h
    exact hK
  · rw [if_neg c10] at h
    refine g_aload_n (pc := 62) dX12_isRest_62 rfl ?_
    refine g_iload_n (pc := 63) dX12_isRest_63 rfl ?_
    refine g_iload_n (pc := 64) dX12_isRest_64 rfl ?_
    refine g_iload_n (pc := 65) dX12_isRest_65 rfl ?_
    refine g_iload (pc := 66) dX12_isRest_66 rfl ?_
    obtain ⟨q8, hq8, h⟩ := bnd h
    refine v_callVi hV (Mc := mX12_smugglesOf) (v := q8) (S1 := S) (As := [.int v1, .int v2, .int v3, .int q]) (rest := []) (q := (RX12, TX12, 58)) (pc := 68) dX12_isRest_68 mK_X12_477 mf_X12_smugglesOf rfl k0_53 rfl rfl rfl (Nat.le_of_ble_eq_true rfl) ⟨Nat.le_of_ble_eq_true rfl, Nat.le_of_ble_eq_true rfl⟩ (r_Md_smugglesOf hV hq8) ?_
    refine g_iload (pc := 71) dX12_isRest_71 rfl ?_
    refine g_icmp_ge (tgt := 78) (pc := 73) dX12_isRest_73 (by decide) (fun c9 => ?_) (fun c9 => ?_)
    · rw [if_pos c9] at h
      refine g_iinc (v := q + 1) (ls1 := [some (.ref 53), some (.int v1), some (.int v2), some (.int v3), none, some (.int v5), some (.int (q + 1))]) (pc := 78) dX12_isRest_78 rfl rfl (by decide) rfl ?_
      refine g_goto (tgt := 51) (pc := 81) dX12_isRest_81 (by decide) ?_
      cases h
      exact hK
    · rw [if_neg c9] at h
      refine g_wk [false, false, false, false, false, false, false] rfl ?_
      cases h
      exact hK
set_option maxRecDepth 4000 in
theorem w_Md_isRest_L51 {V : Sm → Wd} (hV : VwT V) {l : Launch} {Γ : Gm} {rF : Option Value} {wF : Wd} {v1 : Int32} {v2 : Int32} {v3 : Int32} {v5 : Int32} {S : Sm} {k : Nat} {q : Int32} {o : (Unit) ⊕ (Unit)} (h : lpN (Md_isRest_L51 v1 v2 v3 v5 S) k q = some o) (hP : ps_Md_isRest_L51 V l Γ rF wF v1 v2 v3 v5 S o) : hd_Md_isRest_L51 V l Γ rF wF v1 v2 v3 v5 S q := lpN_ind2 (hd_Md_isRest_L51 V l Γ rF wF v1 v2 v3 v5 S) (ps_Md_isRest_L51 V l Γ rF wF v1 v2 v3 v5 S) (fun s o h hK => t_Md_isRest_L51 hV h hK) k q o h hP
def Md_isRest (v1 : Int32) (v2 : Int32) (v3 : Int32) (v4 : Int32) (S : Sm) : Option (Int32) := ((Md_smugglesOf v1 v2 v3 v4 S).bind fun q1 => ((lpN (Md_isRest_L14 v1 v2 v3 v4 q1 S) FU 0).bind fun q5 => (Sum.elim (fun a6 => (some 0)) (fun a7 => ((lpN (Md_isRest_L51 v1 v2 v3 q1 S) FU 0).bind fun q11 => (Sum.elim (fun a12 => (some 0)) (fun a13 => (some 1)) q11))) q5)))
set_option maxRecDepth 4000 in
theorem r_Md_isRest {V : Sm → Wd} (hV : VwT V) {v1 : Int32} {v2 : Int32} {v3 : Int32} {v4 : Int32} {S : Sm} {q : Int32} (h : Md_isRest v1 v2 v3 v4 S = some q) : Runs 3 mX12_isRest [.ref 53, .int v1, .int v2, .int v3, .int v4] (V S) (some (.int q)) (V S) 0 0 := by
  unfold Md_isRest at h
  refine Runs.of2 [some (.ref 53), some (.int v1), some (.int v2), some (.int v3), some (.int v4), none, none] 2 rfl rfl (Nat.le_of_ble_eq_true rfl) (fun l Γ => ?_)
  refine g_aload_n (pc := 0) dX12_isRest_0 rfl ?_
  refine g_iload_n (pc := 1) dX12_isRest_1 rfl ?_
  refine g_iload_n (pc := 2) dX12_isRest_2 rfl ?_
  refine g_iload_n (pc := 3) dX12_isRest_3 rfl ?_
  refine g_iload (pc := 4) dX12_isRest_4 rfl ?_
  obtain ⟨q1, hq1, h⟩ := bnd h
  refine v_callVi hV (Mc := mX12_smugglesOf) (v := q1) (S1 := S) (As := [.int v1, .int v2, .int v3, .int v4]) (rest := []) (q := (RX12, TX12, 58)) (pc := 6) dX12_isRest_6 mK_X12_477 mf_X12_smugglesOf rfl k0_53 rfl rfl rfl (Nat.le_of_ble_eq_true rfl) ⟨Nat.le_of_ble_eq_true rfl, Nat.le_of_ble_eq_true rfl⟩ (r_Md_smugglesOf hV hq1) ?_
  refine g_istore (ls1 := [some (.ref 53), some (.int v1), some (.int v2), some (.int v3), some (.int v4), some (.int q1), none]) (pc := 9) dX12_isRest_9 (by decide) rfl ?_
  refine g_iconst (v := 0) (pc := 11) dX12_isRest_11 (by decide) ?_
  refine g_istore (ls1 := [some (.ref 53), some (.int v1), some (.int v2), some (.int v3), some (.int v4), some (.int q1), some (.int 0)]) (pc := 12) dX12_isRest_12 (by decide) rfl ?_
  obtain ⟨q5, hqq5, h⟩ := bnd h
  refine w_Md_isRest_L14 hV hqq5 ?_
  unfold ps_Md_isRest_L14
  cases q5 with
  | inl a6 =>
    simp only [Sum.elim_inl] at h
    show G _ _ _ _ _ _ _ _ _ _ _
    refine g_iconst (v := 0) (pc := 40) dX12_isRest_40 (by decide) ?_
    cases h
    exact g_iret (u := 0) (pc := 41) dX12_isRest_41 rfl (by decide) (Nat.le_refl _) (Nat.le_refl _)
  | inr a7 =>
    simp only [Sum.elim_inr] at h
    show G _ _ _ _ _ _ _ _ _ _ _
    refine g_iconst (v := 0) (pc := 48) dX12_isRest_48 (by decide) ?_
    refine g_istore (ls1 := [some (.ref 53), some (.int v1), some (.int v2), some (.int v3), none, some (.int q1), some (.int 0)]) (pc := 49) dX12_isRest_49 (by decide) rfl ?_
    obtain ⟨q11, hqq11, h⟩ := bnd h
    refine w_Md_isRest_L51 hV hqq11 ?_
    unfold ps_Md_isRest_L51
    cases q11 with
    | inl a12 =>
      simp only [Sum.elim_inl] at h
      show G _ _ _ _ _ _ _ _ _ _ _
      refine g_iconst (v := 0) (pc := 76) dX12_isRest_76 (by decide) ?_
      cases h
      exact g_iret (u := 0) (pc := 77) dX12_isRest_77 rfl (by decide) (Nat.le_refl _) (Nat.le_refl _)
    | inr a13 =>
      simp only [Sum.elim_inr] at h
      show G _ _ _ _ _ _ _ _ _ _ _
      refine g_iconst (v := 1) (pc := 84) dX12_isRest_84 (by decide) ?_
      cases h
      exact g_iret (u := 1) (pc := 85) dX12_isRest_85 rfl (by decide) (Nat.le_refl _) (Nat.le_refl _)
def Md_rests_23 (S : Sm) : Option (Int32) := (some ((-1)))
set_option maxRecDepth 4000 in
theorem t_Md_rests_23 {V : Sm → Wd} (hV : VwT V) {l : Launch} {Γ : Gm}  {S : Sm} {q : Int32} (h : Md_rests_23 S = some q) : G mX12_rests l Γ (rmD 4 0 0) (mQ Γ (some (.int q)) (V S) 0 0) 0 0 23 [none, none, none, none, none, none, none] [] (V S) := by
  unfold Md_rests_23 at h
  refine g_iconst (v := (-1)) (pc := 23) dX12_rests_23 (by decide) ?_
  cases h
  exact g_iret (pc := 24) dX12_rests_24 rfl rfl (Nat.le_refl _) (Nat.le_refl _)
def hd_Md_rests_L31 (V : Sm → Wd) (l : Launch) (Γ : Gm) (rF : Option Value) (wF : Wd) (v1 : Int32) (v2 : Int32) (v3 : Int32) (S : Sm) (q : Int32 × Int32) : Prop := G mX12_rests l Γ (rmD 4 0 0) (mQ Γ rF wF 0 0) 0 0 31 [some (.ref 53), some (.int v1), some (.int v2), some (.int v3), some (.int q.1), some (.int q.2), none] [] (V S)
def ps_Md_rests_L31 (V : Sm → Wd) (l : Launch) (Γ : Gm) (rF : Option Value) (wF : Wd) (v1 : Int32) (v2 : Int32) (v3 : Int32) (S : Sm) (x : (Int32 × Int32) ⊕ (Int32)) : Prop := (Sum.elim (fun (a : Int32 × Int32) => G mX12_rests l Γ (rmD 4 0 0) (mQ Γ rF wF 0 0) 0 0 75 [none, none, none, none, none, some (.int a.1), some (.int a.2)] [] (V S)) (fun (a : Int32) => G mX12_rests l Γ (rmD 4 0 0) (mQ Γ rF wF 0 0) 0 0 99 [none, none, none, some (.int v3), some (.int a), none, none] [] (V S))) x
def hd_Md_rests_L45 (V : Sm → Wd) (l : Launch) (Γ : Gm) (rF : Option Value) (wF : Wd) (v1 : Int32) (v2 : Int32) (v3 : Int32) (v5 : Int32) (S : Sm) (q : Int32 × Int32) : Prop := G mX12_rests l Γ (rmD 4 0 0) (mQ Γ rF wF 0 0) 0 0 45 [some (.ref 53), some (.int v1), some (.int v2), some (.int v3), some (.int q.1), some (.int v5), some (.int q.2)] [] (V S)
def ps_Md_rests_L45 (V : Sm → Wd) (l : Launch) (Γ : Gm) (rF : Option Value) (wF : Wd) (v1 : Int32) (v2 : Int32) (v3 : Int32) (v5 : Int32) (S : Sm) (x : (Int32) ⊕ (Int32)) : Prop := (Sum.elim (fun (a : Int32) => G mX12_rests l Γ (rmD 4 0 0) (mQ Γ rF wF 0 0) 0 0 75 [none, none, none, none, none, some (.int v5), some (.int a)] [] (V S)) (fun (a : Int32) => G mX12_rests l Γ (rmD 4 0 0) (mQ Γ rF wF 0 0) 0 0 93 [some (.ref 53), some (.int v1), some (.int v2), some (.int v3), some (.int a), some (.int v5), none] [] (V S))) x
def Md_rests_87_L45 (v1 : Int32) (v2 : Int32) (v3 : Int32) (v4 : Int32) (v5 : Int32) (v6 : Int32) (S : Sm) : Option ((Int32 × Int32) ⊕ ((Int32) ⊕ (Int32))) := (some (.inl (v4, v6 + 1)))
set_option maxRecDepth 4000 in
theorem t_Md_rests_87_L45 {V : Sm → Wd} (hV : VwT V) {l : Launch} {Γ : Gm} {v1 : Int32} {v2 : Int32} {v3 : Int32} {v4 : Int32} {v5 : Int32} {v6 : Int32} {rF : Option Value} {wF : Wd} {S : Sm} {o : (Int32 × Int32) ⊕ ((Int32) ⊕ (Int32))} (h : Md_rests_87_L45 v1 v2 v3 v4 v5 v6 S = some o) (hK : Sum.elim (hd_Md_rests_L45 V l Γ rF wF v1 v2 v3 v5 S) (ps_Md_rests_L45 V l Γ rF wF v1 v2 v3 v5 S) o) : G mX12_rests l Γ (rmD 4 0 0) (mQ Γ rF wF 0 0) 0 0 87 [some (.ref 53), some (.int v1), some (.int v2), some (.int v3), some (.int v4), some (.int v5), some (.int v6)] [] (V S) := by
  unfold Md_rests_87_L45 at h
  refine g_iinc (v := v6 + 1) (ls1 := [some (.ref 53), some (.int v1), some (.int v2), some (.int v3), some (.int v4), some (.int v5), some (.int (v6 + 1))]) (pc := 87) dX12_rests_87 rfl rfl (by decide) rfl ?_
  refine g_goto (tgt := 45) (pc := 90) dX12_rests_90 (by decide) ?_
  cases h
  exact hK
def Md_rests_L45 (v1 : Int32) (v2 : Int32) (v3 : Int32) (v5 : Int32) (S : Sm) (q : Int32 × Int32) : Option ((Int32 × Int32) ⊕ ((Int32) ⊕ (Int32))) := (if (gi S 68 0) ≤ q.2 then (some (.inr (.inr q.1))) else ((Md_isRest v1 v2 v5 q.2 S).bind fun q1 => (if q1 = 0 then (Md_rests_87_L45 v1 v2 v3 q.1 v5 q.2 S) else (if q.1 = v3 then (some (.inr (.inl q.2))) else (Md_rests_87_L45 v1 v2 v3 (q.1 + 1) v5 q.2 S)))))
set_option maxRecDepth 4000 in
theorem t_Md_rests_L45 {V : Sm → Wd} (hV : VwT V) {l : Launch} {Γ : Gm} {rF : Option Value} {wF : Wd} {v1 : Int32} {v2 : Int32} {v3 : Int32} {v5 : Int32} {S : Sm} {q : Int32 × Int32} {o : (Int32 × Int32) ⊕ ((Int32) ⊕ (Int32))} (h : Md_rests_L45 v1 v2 v3 v5 S q = some o) (hK : Sum.elim (hd_Md_rests_L45 V l Γ rF wF v1 v2 v3 v5 S) (ps_Md_rests_L45 V l Γ rF wF v1 v2 v3 v5 S) o) : hd_Md_rests_L45 V l Γ rF wF v1 v2 v3 v5 S q := by
  unfold Md_rests_L45 at h
  unfold hd_Md_rests_L45
  refine g_iload (pc := 45) dX12_rests_45 rfl ?_
  refine g_aload_n (pc := 47) dX12_rests_47 rfl ?_
  refine v_getR hV (pc := 48) dX12_rests_48 fo_12_24 rfl k0_53 r0_53_24 ?_
  refine g_iconst (v := 0) (pc := 51) dX12_rests_51 (by decide) ?_
  refine v_ialdK hV (k := 0) (pc := 52) dX12_rests_52 k0_68 own_68 (by decide) (by decide) ?_
  refine g_icmp_ge (tgt := 93) (pc := 53) dX12_rests_53 (by decide) (fun c4 => ?_) (fun c4 => ?_)
  · rw [if_pos c4] at h
    refine g_wk [true, true, true, true, true, true, false] rfl ?_
    cases h
    exact hK
  · rw [if_neg c4] at h
    refine g_aload_n (pc := 56) dX12_rests_56 rfl ?_
    refine g_iload_n (pc := 57) dX12_rests_57 rfl ?_
    refine g_iload_n (pc := 58) dX12_rests_58 rfl ?_
    refine g_iload (pc := 59) dX12_rests_59 rfl ?_
    refine g_iload (pc := 61) dX12_rests_61 rfl ?_
    obtain ⟨q1, hq1, h⟩ := bnd h
    refine v_callVi hV (Mc := mX12_isRest) (v := q1) (S1 := S) (As := [.int v1, .int v2, .int v5, .int q.2]) (rest := []) (q := (RX12, TX12, 58)) (pc := 63) dX12_rests_63 mK_X12_480 mf_X12_isRest rfl k0_53 rfl rfl rfl (Nat.le_of_ble_eq_true rfl) ⟨Nat.le_of_ble_eq_true rfl, Nat.le_of_ble_eq_true rfl⟩ (r_Md_isRest hV hq1) ?_
    refine g_if_eq (tgt := 87) (pc := 66) dX12_rests_66 (by decide) (fun c3 => ?_) (fun c3 => ?_)
    · rw [if_pos c3] at h
      exact t_Md_rests_87_L45 hV h hK
    · rw [if_neg c3] at h
      refine g_iload (pc := 69) dX12_rests_69 rfl ?_
      refine g_iload_n (pc := 71) dX12_rests_71 rfl ?_
      refine g_icmp_ne (tgt := 84) (pc := 72) dX12_rests_72 (by decide) (fun c2 => ?_) (fun c2 => ?_)
      · rw [if_neg c2] at h
        refine g_iinc (v := q.1 + 1) (ls1 := [some (.ref 53), some (.int v1), some (.int v2), some (.int v3), some (.int (q.1 + 1)), some (.int v5), some (.int q.2)]) (pc := 84) dX12_rests_84 rfl rfl (by decide) rfl ?_
        exact t_Md_rests_87_L45 hV h hK
      · rw [if_pos c2] at h
        refine g_wk [false, false, false, false, false, true, true] rfl ?_
        cases h
        exact hK
set_option maxRecDepth 4000 in
theorem w_Md_rests_L45 {V : Sm → Wd} (hV : VwT V) {l : Launch} {Γ : Gm} {rF : Option Value} {wF : Wd} {v1 : Int32} {v2 : Int32} {v3 : Int32} {v5 : Int32} {S : Sm} {k : Nat} {q : Int32 × Int32} {o : (Int32) ⊕ (Int32)} (h : lpN (Md_rests_L45 v1 v2 v3 v5 S) k q = some o) (hP : ps_Md_rests_L45 V l Γ rF wF v1 v2 v3 v5 S o) : hd_Md_rests_L45 V l Γ rF wF v1 v2 v3 v5 S q := lpN_ind2 (hd_Md_rests_L45 V l Γ rF wF v1 v2 v3 v5 S) (ps_Md_rests_L45 V l Γ rF wF v1 v2 v3 v5 S) (fun s o h hK => t_Md_rests_L45 hV h hK) k q o h hP
def Md_rests_L31 (v1 : Int32) (v2 : Int32) (v3 : Int32) (S : Sm) (q : Int32 × Int32) : Option ((Int32 × Int32) ⊕ ((Int32 × Int32) ⊕ (Int32))) := (if (gi S 68 1) ≤ q.2 then (some (.inr (.inr q.1))) else ((lpN (Md_rests_L45 v1 v2 v3 q.2 S) FU (q.1, 0)).bind fun q5 => (Sum.elim (fun a6 => (some (.inr (.inl (q.2, a6))))) (fun a7 => (some (.inl (a7, q.2 + 1)))) q5)))
set_option maxRecDepth 4000 in
theorem t_Md_rests_L31 {V : Sm → Wd} (hV : VwT V) {l : Launch} {Γ : Gm} {rF : Option Value} {wF : Wd} {v1 : Int32} {v2 : Int32} {v3 : Int32} {S : Sm} {q : Int32 × Int32} {o : (Int32 × Int32) ⊕ ((Int32 × Int32) ⊕ (Int32))} (h : Md_rests_L31 v1 v2 v3 S q = some o) (hK : Sum.elim (hd_Md_rests_L31 V l Γ rF wF v1 v2 v3 S) (ps_Md_rests_L31 V l Γ rF wF v1 v2 v3 S) o) : hd_Md_rests_L31 V l Γ rF wF v1 v2 v3 S q := by
  unfold Md_rests_L31 at h
  unfold hd_Md_rests_L31
  refine g_iload (pc := 31) dX12_rests_31 rfl ?_
  refine g_aload_n (pc := 33) dX12_rests_33 rfl ?_
  refine v_getR hV (pc := 34) dX12_rests_34 fo_12_24 rfl k0_53 r0_53_24 ?_
  refine g_iconst (v := 1) (pc := 37) dX12_rests_37 (by decide) ?_
  refine v_ialdK hV (k := 1) (pc := 38) dX12_rests_38 k0_68 own_68 (by decide) (by decide) ?_
  refine g_icmp_ge (tgt := 99) (pc := 39) dX12_rests_39 (by decide) (fun c8 => ?_) (fun c8 => ?_)
  · rw [if_pos c8] at h
    refine g_wk [false, false, false, true, true, false, false] rfl ?_
    cases h
    exact hK
  · rw [if_neg c8] at h
    refine g_iconst (v := 0) (pc := 42) dX12_rests_42 (by decide) ?_
    refine g_istore (ls1 := [some (.ref 53), some (.int v1), some (.int v2), some (.int v3), some (.int q.1), some (.int q.2), some (.int 0)]) (pc := 43) dX12_rests_43 (by decide) rfl ?_
    obtain ⟨q5, hqq5, h⟩ := bnd h
    refine w_Md_rests_L45 hV hqq5 ?_
    unfold ps_Md_rests_L45
    cases q5 with
    | inl a6 =>
      simp only [Sum.elim_inl] at h
      show G _ _ _ _ _ _ _ _ _ _ _
      cases h
      exact hK
    | inr a7 =>
      simp only [Sum.elim_inr] at h
      show G _ _ _ _ _ _ _ _ _ _ _
      refine g_iinc (v := q.2 + 1) (ls1 := [some (.ref 53), some (.int v1), some (.int v2), some (.int v3), some (.int a7), some (.int (q.2 + 1)), none]) (pc := 93) dX12_rests_93 rfl rfl (by decide) rfl ?_
      refine g_goto (tgt := 31) (pc := 96) dX12_rests_96 (by decide) ?_
      cases h
      exact hK
set_option maxRecDepth 4000 in
theorem w_Md_rests_L31 {V : Sm → Wd} (hV : VwT V) {l : Launch} {Γ : Gm} {rF : Option Value} {wF : Wd} {v1 : Int32} {v2 : Int32} {v3 : Int32} {S : Sm} {k : Nat} {q : Int32 × Int32} {o : (Int32 × Int32) ⊕ (Int32)} (h : lpN (Md_rests_L31 v1 v2 v3 S) k q = some o) (hP : ps_Md_rests_L31 V l Γ rF wF v1 v2 v3 S o) : hd_Md_rests_L31 V l Γ rF wF v1 v2 v3 S q := lpN_ind2 (hd_Md_rests_L31 V l Γ rF wF v1 v2 v3 S) (ps_Md_rests_L31 V l Γ rF wF v1 v2 v3 S) (fun s o h hK => t_Md_rests_L31 hV h hK) k q o h hP
def Md_rests_110 (s0 : Int32) (S : Sm) : Option (Int32) := (some s0)
set_option maxRecDepth 4000 in
theorem t_Md_rests_110 {V : Sm → Wd} (hV : VwT V) {l : Launch} {Γ : Gm} {s0 : Int32} {S : Sm} {q : Int32} (h : Md_rests_110 s0 S = some q) : G mX12_rests l Γ (rmD 4 0 0) (mQ Γ (some (.int q)) (V S) 0 0) 0 0 110 [none, none, none, none, none, none, none] [.int s0] (V S) := by
  unfold Md_rests_110 at h
  cases h
  exact g_iret (pc := 110) dX12_rests_110 rfl rfl (Nat.le_refl _) (Nat.le_refl _)
def Md_rests (v1 : Int32) (v2 : Int32) (v3 : Int32) (S : Sm) : Option (Int32) := (if (Md_isMouth v1 S) = 0 then (Md_rests_23 S) else (if (Md_in v2 1 9) = 0 then (Md_rests_23 S) else (if (-1 : Int32) ≤ v3 then ((lpN (Md_rests_L31 v1 v2 v3 S) FU (0, 0)).bind fun q9 => (Sum.elim (fun a10 => (some ((10 * a10.1) + a10.2))) (fun a11 => (if v3 = ((-1)) then (Md_rests_110 a11 S) else (Md_rests_110 ((-1)) S))) q9)) else (Md_rests_23 S))))
set_option maxRecDepth 4000 in
theorem r_Md_rests {V : Sm → Wd} (hV : VwT V) {v1 : Int32} {v2 : Int32} {v3 : Int32} {S : Sm} {q : Int32} (h : Md_rests v1 v2 v3 S = some q) : Runs 4 mX12_rests [.ref 53, .int v1, .int v2, .int v3] (V S) (some (.int q)) (V S) 0 0 := by
  unfold Md_rests at h
  refine Runs.of2 [some (.ref 53), some (.int v1), some (.int v2), some (.int v3), none, none, none] 3 rfl rfl (Nat.le_of_ble_eq_true rfl) (fun l Γ => ?_)
  refine g_aload_n (pc := 0) dX12_rests_0 rfl ?_
  refine g_iload_n (pc := 1) dX12_rests_1 rfl ?_
  refine v_callVi hV (Mc := mX12_isMouth) (v := Md_isMouth v1 S) (S1 := S) (As := [.int v1]) (rest := []) (q := (RX12, TX12, 58)) (pc := 2) dX12_rests_2 mK_X12_333 mf_X12_isMouth rfl k0_53 rfl rfl rfl (Nat.le_of_ble_eq_true rfl) ⟨Nat.le_of_ble_eq_true rfl, Nat.le_of_ble_eq_true rfl⟩ (r_Md_isMouth hV rfl) ?_
  refine g_if_eq (tgt := 23) (pc := 5) dX12_rests_5 (by decide) (fun c15 => ?_) (fun c15 => ?_)
  · rw [if_pos c15] at h
    refine g_wk [false, false, false, false, false, false, false] rfl ?_
    exact t_Md_rests_23 hV h
  · rw [if_neg c15] at h
    refine g_iload_n (pc := 8) dX12_rests_8 rfl ?_
    refine g_iconst (v := 1) (pc := 9) dX12_rests_9 (by decide) ?_
    refine g_bipush (v := 9) (pc := 10) dX12_rests_10 (by decide) ?_
    refine v_callSi (Mc := mX12_in) (v := Md_in v2 1 9) (S1 := S) (As := [.int v2, .int 1, .int 9]) (rest := []) (pc := 12) dX12_rests_12 mK_X12_238 mf_X12_in rfl rfl (Nat.le_of_ble_eq_true rfl) ⟨Nat.le_of_ble_eq_true rfl, Nat.le_of_ble_eq_true rfl⟩ (r_Md_in hV rfl) ?_
    refine g_if_eq (tgt := 23) (pc := 15) dX12_rests_15 (by decide) (fun c14 => ?_) (fun c14 => ?_)
    · rw [if_pos c14] at h
      refine g_wk [false, false, false, false, false, false, false] rfl ?_
      exact t_Md_rests_23 hV h
    · rw [if_neg c14] at h
      refine g_iload_n (pc := 18) dX12_rests_18 rfl ?_
      refine g_iconst (v := (-1)) (pc := 19) dX12_rests_19 (by decide) ?_
      refine g_icmp_ge (tgt := 25) (pc := 20) dX12_rests_20 (by decide) (fun c13 => ?_) (fun c13 => ?_)
      · rw [if_pos c13] at h
        refine g_iconst (v := 0) (pc := 25) dX12_rests_25 (by decide) ?_
        refine g_istore (ls1 := [some (.ref 53), some (.int v1), some (.int v2), some (.int v3), some (.int 0), none, none]) (pc := 26) dX12_rests_26 (by decide) rfl ?_
        refine g_iconst (v := 0) (pc := 28) dX12_rests_28 (by decide) ?_
        refine g_istore (ls1 := [some (.ref 53), some (.int v1), some (.int v2), some (.int v3), some (.int 0), some (.int 0), none]) (pc := 29) dX12_rests_29 (by decide) rfl ?_
        obtain ⟨q9, hqq9, h⟩ := bnd h
        refine w_Md_rests_L31 hV hqq9 ?_
        unfold ps_Md_rests_L31
        cases q9 with
        | inl a10 =>
          simp only [Sum.elim_inl] at h
          show G _ _ _ _ _ _ _ _ _ _ _
          refine g_bipush (v := 10) (pc := 75) dX12_rests_75 (by decide) ?_
          refine g_iload (pc := 77) dX12_rests_77 rfl ?_
          refine g_imul (pc := 79) dX12_rests_79 ?_
          refine g_iload (pc := 80) dX12_rests_80 rfl ?_
          refine g_iadd (pc := 82) dX12_rests_82 ?_
          cases h
          exact g_iret (pc := 83) dX12_rests_83 rfl rfl (Nat.le_refl _) (Nat.le_refl _)
        | inr a11 =>
          simp only [Sum.elim_inr] at h
          show G _ _ _ _ _ _ _ _ _ _ _
          refine g_iload_n (pc := 99) dX12_rests_99 rfl ?_
          refine g_iconst (v := (-1)) (pc := 100) dX12_rests_100 (by decide) ?_
          refine g_icmp_ne (tgt := 109) (pc := 101) dX12_rests_101 (by decide) (fun c12 => ?_) (fun c12 => ?_)
          · rw [if_neg c12] at h
            refine g_iconst (v := (-1)) (pc := 109) dX12_rests_109 (by decide) ?_
            refine g_wk [false, false, false, false, false, false, false] rfl ?_
            exact t_Md_rests_110 hV h
          · rw [if_pos c12] at h
            refine g_iload (pc := 104) dX12_rests_104 rfl ?_
            refine g_goto (tgt := 110) (pc := 106) dX12_rests_106 (by decide) ?_
            refine g_wk [false, false, false, false, false, false, false] rfl ?_
            exact t_Md_rests_110 hV h
      · rw [if_neg c13] at h
        refine g_wk [false, false, false, false, false, false, false] rfl ?_
        exact t_Md_rests_23 hV h
def hd_Md_astray_L15 (V : Sm → Wd) (l : Launch) (Γ : Gm) (rF : Option Value) (wF : Wd) (S : Sm) (q : Int32 × Int32) : Prop := G mX12_astray l Γ (rmD 1 0 0) (mQ Γ rF wF 0 0) 0 0 15 [some (.ref 53), some (.int q.1), some (.int q.2)] [] (V S)
def ps_Md_astray_L15 (V : Sm → Wd) (l : Launch) (Γ : Gm) (rF : Option Value) (wF : Wd) (S : Sm) (x : Int32) : Prop := (fun (a : Int32) => G mX12_astray l Γ (rmD 1 0 0) (mQ Γ rF wF 0 0) 0 0 53 [none, some (.int a), none] [] (V S)) x
def Md_astray_45_L15 (v2 : Int32) (s0 : Int32) (s1 : Int32) (S : Sm) : Option ((Int32 × Int32) ⊕ (Int32)) := (some (.inl (s0 ||| s1, v2 + 1)))
set_option maxRecDepth 4000 in
theorem t_Md_astray_45_L15 {V : Sm → Wd} (hV : VwT V) {l : Launch} {Γ : Gm} {v2 : Int32} {s0 : Int32} {s1 : Int32} {rF : Option Value} {wF : Wd} {S : Sm} {o : (Int32 × Int32) ⊕ (Int32)} (h : Md_astray_45_L15 v2 s0 s1 S = some o) (hK : Sum.elim (hd_Md_astray_L15 V l Γ rF wF S) (ps_Md_astray_L15 V l Γ rF wF S) o) : G mX12_astray l Γ (rmD 1 0 0) (mQ Γ rF wF 0 0) 0 0 45 [some (.ref 53), none, some (.int v2)] [.int s1, .int s0] (V S) := by
  unfold Md_astray_45_L15 at h
  refine g_ior (pc := 45) dX12_astray_45 ?_
  refine g_istore_n (ls1 := [some (.ref 53), some (.int (s0 ||| s1)), some (.int v2)]) (pc := 46) dX12_astray_46 (by decide) rfl ?_
  refine g_iinc (v := v2 + 1) (ls1 := [some (.ref 53), some (.int (s0 ||| s1)), some (.int (v2 + 1))]) (pc := 47) dX12_astray_47 rfl rfl (by decide) rfl ?_
  refine g_goto (tgt := 15) (pc := 50) dX12_astray_50 (by decide) ?_
  cases h
  exact hK
def Md_astray_L15 (S : Sm) (q : Int32 × Int32) : Option ((Int32 × Int32) ⊕ (Int32)) := (if (gi S 70 136) ≤ q.2 then (some (.inr q.1)) else ((Md_of q.2 5 S).bind fun q1 => (if q1 = ((-1)) then (Md_astray_45_L15 q.2 q.1 0 S) else (Md_astray_45_L15 q.2 q.1 (iShl 1 q.2) S))))
set_option maxRecDepth 4000 in
theorem t_Md_astray_L15 {V : Sm → Wd} (hV : VwT V) {l : Launch} {Γ : Gm} {rF : Option Value} {wF : Wd} {S : Sm} {q : Int32 × Int32} {o : (Int32 × Int32) ⊕ (Int32)} (h : Md_astray_L15 S q = some o) (hK : Sum.elim (hd_Md_astray_L15 V l Γ rF wF S) (ps_Md_astray_L15 V l Γ rF wF S) o) : hd_Md_astray_L15 V l Γ rF wF S q := by
  unfold Md_astray_L15 at h
  unfold hd_Md_astray_L15
  refine g_iload_n (pc := 15) dX12_astray_15 rfl ?_
  refine g_aload_n (pc := 16) dX12_astray_16 rfl ?_
  refine v_getR hV (pc := 17) dX12_astray_17 fo_12_27 rfl k0_53 r0_53_27 ?_
  refine g_sipush (v := 136) (pc := 20) dX12_astray_20 (by decide) ?_
  refine v_ialdK hV (k := 136) (pc := 23) dX12_astray_23 k0_70 own_70 (by decide) (by decide) ?_
  refine g_icmp_ge (tgt := 53) (pc := 24) dX12_astray_24 (by decide) (fun c3 => ?_) (fun c3 => ?_)
  · rw [if_pos c3] at h
    refine g_wk [false, true, false] rfl ?_
    cases h
    exact hK
  · rw [if_neg c3] at h
    refine g_iload_n (pc := 27) dX12_astray_27 rfl ?_
    refine g_aload_n (pc := 28) dX12_astray_28 rfl ?_
    refine g_iload_n (pc := 29) dX12_astray_29 rfl ?_
    refine g_iconst (v := 5) (pc := 30) dX12_astray_30 (by decide) ?_
    obtain ⟨q1, hq1, h⟩ := bnd h
    refine v_callVi hV (Mc := mX12_of) (v := q1) (S1 := S) (As := [.int q.2, .int 5]) (rest := [.int q.1]) (q := (RX12, TX12, 58)) (pc := 31) dX12_astray_31 mK_X12_343 mf_X12_of rfl k0_53 rfl rfl rfl (Nat.le_of_ble_eq_true rfl) ⟨Nat.le_of_ble_eq_true rfl, Nat.le_of_ble_eq_true rfl⟩ (r_Md_of hV hq1) ?_
    refine g_iconst (v := (-1)) (pc := 34) dX12_astray_34 (by decide) ?_
    refine g_icmp_ne (tgt := 42) (pc := 35) dX12_astray_35 (by decide) (fun c2 => ?_) (fun c2 => ?_)
    · rw [if_neg c2] at h
      refine g_iconst (v := 1) (pc := 42) dX12_astray_42 (by decide) ?_
      refine g_iload_n (pc := 43) dX12_astray_43 rfl ?_
      refine g_ishl (pc := 44) dX12_astray_44 ?_
      refine g_wk [true, false, true] rfl ?_
      exact t_Md_astray_45_L15 hV h hK
    · rw [if_pos c2] at h
      refine g_iconst (v := 0) (pc := 38) dX12_astray_38 (by decide) ?_
      refine g_goto (tgt := 45) (pc := 39) dX12_astray_39 (by decide) ?_
      refine g_wk [true, false, true] rfl ?_
      exact t_Md_astray_45_L15 hV h hK
set_option maxRecDepth 4000 in
theorem w_Md_astray_L15 {V : Sm → Wd} (hV : VwT V) {l : Launch} {Γ : Gm} {rF : Option Value} {wF : Wd} {S : Sm} {k : Nat} {q : Int32 × Int32} {o : Int32} (h : lpN (Md_astray_L15 S) k q = some o) (hP : ps_Md_astray_L15 V l Γ rF wF S o) : hd_Md_astray_L15 V l Γ rF wF S q := lpN_ind2 (hd_Md_astray_L15 V l Γ rF wF S) (ps_Md_astray_L15 V l Γ rF wF S) (fun s o h hK => t_Md_astray_L15 hV h hK) k q o h hP
def Md_astray (S : Sm) : Option (Int32) := (if (gi S 68 0) = 0 then (some ((-1))) else ((lpN (Md_astray_L15 S) FU (0, 0)).bind fun q4 => (some q4)))
set_option maxRecDepth 4000 in
theorem r_Md_astray {V : Sm → Wd} (hV : VwT V)  {S : Sm} {q : Int32} (h : Md_astray S = some q) : Runs 1 mX12_astray [.ref 53] (V S) (some (.int q)) (V S) 0 0 := by
  unfold Md_astray at h
  refine Runs.of2 [some (.ref 53), none, none] 2 rfl rfl (Nat.le_of_ble_eq_true rfl) (fun l Γ => ?_)
  refine g_aload_n (pc := 0) dX12_astray_0 rfl ?_
  refine v_getR hV (pc := 1) dX12_astray_1 fo_12_24 rfl k0_53 r0_53_24 ?_
  refine g_iconst (v := 0) (pc := 4) dX12_astray_4 (by decide) ?_
  refine v_ialdK hV (k := 0) (pc := 5) dX12_astray_5 k0_68 own_68 (by decide) (by decide) ?_
  refine g_if_ne (tgt := 11) (pc := 6) dX12_astray_6 (by decide) (fun c5 => ?_) (fun c5 => ?_)
  · rw [if_neg c5] at h
    refine g_iconst (v := 0) (pc := 11) dX12_astray_11 (by decide) ?_
    refine g_istore_n (ls1 := [some (.ref 53), some (.int 0), none]) (pc := 12) dX12_astray_12 (by decide) rfl ?_
    refine g_iconst (v := 0) (pc := 13) dX12_astray_13 (by decide) ?_
    refine g_istore_n (ls1 := [some (.ref 53), some (.int 0), some (.int 0)]) (pc := 14) dX12_astray_14 (by decide) rfl ?_
    obtain ⟨q4, hqq4, h⟩ := bnd h
    refine w_Md_astray_L15 hV hqq4 ?_
    unfold ps_Md_astray_L15
    show G _ _ _ _ _ _ _ _ _ _ _
    refine g_iload_n (pc := 53) dX12_astray_53 rfl ?_
    cases h
    exact g_iret (pc := 54) dX12_astray_54 rfl rfl (Nat.le_refl _) (Nat.le_refl _)
  · rw [if_pos c5] at h
    refine g_iconst (v := (-1)) (pc := 9) dX12_astray_9 (by decide) ?_
    cases h
    exact g_iret (pc := 10) dX12_astray_10 rfl rfl (Nat.le_refl _) (Nat.le_refl _)
def Md_due_41 (s0 : Int32) (S : Sm) : Option (Int32) := (some s0)
set_option maxRecDepth 4000 in
theorem t_Md_due_41 {V : Sm → Wd} (hV : VwT V) {l : Launch} {Γ : Gm} {s0 : Int32} {S : Sm} {q : Int32} (h : Md_due_41 s0 S = some q) : G mX12_due l Γ (rmD 2 0 0) (mQ Γ (some (.int q)) (V S) 0 0) 0 0 41 [none, none] [.int s0] (V S) := by
  unfold Md_due_41 at h
  cases h
  exact g_iret (pc := 41) dX12_due_41 rfl rfl (Nat.le_refl _) (Nat.le_refl _)
def Md_due (v1 : Int32) (S : Sm) : Option (Int32) := (if (Md_isTrain v1 S) = 0 then (Md_due_41 ((-1)) S) else ((Md_of v1 5 S).bind fun q1 => (if q1 = ((-1)) then (Md_due_41 0 S) else ((Md_of v1 5 S).bind fun q2 => (Md_due_41 (q2 - (gi S 70 137)) S)))))
set_option maxRecDepth 4000 in
theorem r_Md_due {V : Sm → Wd} (hV : VwT V) {v1 : Int32} {S : Sm} {q : Int32} (h : Md_due v1 S = some q) : Runs 2 mX12_due [.ref 53, .int v1] (V S) (some (.int q)) (V S) 0 0 := by
  unfold Md_due at h
  refine Runs.of2 [some (.ref 53), some (.int v1)] 0 rfl rfl (Nat.le_of_ble_eq_true rfl) (fun l Γ => ?_)
  refine g_aload_n (pc := 0) dX12_due_0 rfl ?_
  refine g_iload_n (pc := 1) dX12_due_1 rfl ?_
  refine v_callVi hV (Mc := mX12_isTrain) (v := Md_isTrain v1 S) (S1 := S) (As := [.int v1]) (rest := []) (q := (RX12, TX12, 58)) (pc := 2) dX12_due_2 mK_X12_349 mf_X12_isTrain rfl k0_53 rfl rfl rfl (Nat.le_of_ble_eq_true rfl) ⟨Nat.le_of_ble_eq_true rfl, Nat.le_of_ble_eq_true rfl⟩ (r_Md_isTrain hV rfl) ?_
  refine g_if_ne (tgt := 12) (pc := 5) dX12_due_5 (by decide) (fun c4 => ?_) (fun c4 => ?_)
  · rw [if_neg c4] at h
    refine g_aload_n (pc := 12) dX12_due_12 rfl ?_
    refine g_iload_n (pc := 13) dX12_due_13 rfl ?_
    refine g_iconst (v := 5) (pc := 14) dX12_due_14 (by decide) ?_
    obtain ⟨q1, hq1, h⟩ := bnd h
    refine v_callVi hV (Mc := mX12_of) (v := q1) (S1 := S) (As := [.int v1, .int 5]) (rest := []) (q := (RX12, TX12, 58)) (pc := 15) dX12_due_15 mK_X12_343 mf_X12_of rfl k0_53 rfl rfl rfl (Nat.le_of_ble_eq_true rfl) ⟨Nat.le_of_ble_eq_true rfl, Nat.le_of_ble_eq_true rfl⟩ (r_Md_of hV hq1) ?_
    refine g_iconst (v := (-1)) (pc := 18) dX12_due_18 (by decide) ?_
    refine g_icmp_ne (tgt := 26) (pc := 19) dX12_due_19 (by decide) (fun c3 => ?_) (fun c3 => ?_)
    · rw [if_neg c3] at h
      refine g_aload_n (pc := 26) dX12_due_26 rfl ?_
      refine g_iload_n (pc := 27) dX12_due_27 rfl ?_
      refine g_iconst (v := 5) (pc := 28) dX12_due_28 (by decide) ?_
      obtain ⟨q2, hq2, h⟩ := bnd h
      refine v_callVi hV (Mc := mX12_of) (v := q2) (S1 := S) (As := [.int v1, .int 5]) (rest := []) (q := (RX12, TX12, 58)) (pc := 29) dX12_due_29 mK_X12_343 mf_X12_of rfl k0_53 rfl rfl rfl (Nat.le_of_ble_eq_true rfl) ⟨Nat.le_of_ble_eq_true rfl, Nat.le_of_ble_eq_true rfl⟩ (r_Md_of hV hq2) ?_
      refine g_aload_n (pc := 32) dX12_due_32 rfl ?_
      refine v_getR hV (pc := 33) dX12_due_33 fo_12_27 rfl k0_53 r0_53_27 ?_
      refine g_sipush (v := 137) (pc := 36) dX12_due_36 (by decide) ?_
      refine v_ialdK hV (k := 137) (pc := 39) dX12_due_39 k0_70 own_70 (by decide) (by decide) ?_
      refine g_isub (pc := 40) dX12_due_40 ?_
      refine g_wk [false, false] rfl ?_
      exact t_Md_due_41 hV h
    · rw [if_pos c3] at h
      refine g_iconst (v := 0) (pc := 22) dX12_due_22 (by decide) ?_
      refine g_goto (tgt := 41) (pc := 23) dX12_due_23 (by decide) ?_
      refine g_wk [false, false] rfl ?_
      exact t_Md_due_41 hV h
  · rw [if_pos c4] at h
    refine g_iconst (v := (-1)) (pc := 8) dX12_due_8 (by decide) ?_
    refine g_goto (tgt := 41) (pc := 9) dX12_due_9 (by decide) ?_
    refine g_wk [false, false] rfl ?_
    exact t_Md_due_41 hV h
def hd_Md_loops_L14 (V : Sm → Wd) (l : Launch) (Γ : Gm) (rF : Option Value) (wF : Wd) (v1 : Int32) (S : Sm) (q : Int32 × Int32) : Prop := G mX12_loops l Γ (rmD 2 0 0) (mQ Γ rF wF 0 0) 0 0 14 [some (.ref 53), some (.int v1), some (.int q.1), some (.int q.2)] [] (V S)
def ps_Md_loops_L14 (V : Sm → Wd) (l : Launch) (Γ : Gm) (rF : Option Value) (wF : Wd) (v1 : Int32) (S : Sm) (x : Int32) : Prop := (fun (a : Int32) => G mX12_loops l Γ (rmD 2 0 0) (mQ Γ rF wF 0 0) 0 0 50 [none, none, some (.int a), none] [] (V S)) x
def Md_loops_42_L14 (v1 : Int32) (v3 : Int32) (s0 : Int32) (s1 : Int32) (S : Sm) : Option ((Int32 × Int32) ⊕ (Int32)) := (some (.inl (s0 ||| s1, v3 + 1)))
set_option maxRecDepth 4000 in
theorem t_Md_loops_42_L14 {V : Sm → Wd} (hV : VwT V) {l : Launch} {Γ : Gm} {v1 : Int32} {v3 : Int32} {s0 : Int32} {s1 : Int32} {rF : Option Value} {wF : Wd} {S : Sm} {o : (Int32 × Int32) ⊕ (Int32)} (h : Md_loops_42_L14 v1 v3 s0 s1 S = some o) (hK : Sum.elim (hd_Md_loops_L14 V l Γ rF wF v1 S) (ps_Md_loops_L14 V l Γ rF wF v1 S) o) : G mX12_loops l Γ (rmD 2 0 0) (mQ Γ rF wF 0 0) 0 0 42 [some (.ref 53), some (.int v1), none, some (.int v3)] [.int s1, .int s0] (V S) := by
  unfold Md_loops_42_L14 at h
  refine g_ior (pc := 42) dX12_loops_42 ?_
  refine g_istore_n (ls1 := [some (.ref 53), some (.int v1), some (.int (s0 ||| s1)), some (.int v3)]) (pc := 43) dX12_loops_43 (by decide) rfl ?_
  refine g_iinc (v := v3 + 1) (ls1 := [some (.ref 53), some (.int v1), some (.int (s0 ||| s1)), some (.int (v3 + 1))]) (pc := 44) dX12_loops_44 rfl rfl (by decide) rfl ?_
  refine g_goto (tgt := 14) (pc := 47) dX12_loops_47 (by decide) ?_
  cases h
  exact hK
def Md_loops_L14 (v1 : Int32) (S : Sm) (q : Int32 × Int32) : Option ((Int32 × Int32) ⊕ (Int32)) := (if (gi S 68 1) ≤ q.2 then (some (.inr q.1)) else ((Md_leads v1 q.2 S).bind fun q1 => (if q1 = v1 then (Md_loops_42_L14 v1 q.2 q.1 (iShl 1 q.2) S) else (Md_loops_42_L14 v1 q.2 q.1 0 S))))
set_option maxRecDepth 4000 in
theorem t_Md_loops_L14 {V : Sm → Wd} (hV : VwT V) {l : Launch} {Γ : Gm} {rF : Option Value} {wF : Wd} {v1 : Int32} {S : Sm} {q : Int32 × Int32} {o : (Int32 × Int32) ⊕ (Int32)} (h : Md_loops_L14 v1 S q = some o) (hK : Sum.elim (hd_Md_loops_L14 V l Γ rF wF v1 S) (ps_Md_loops_L14 V l Γ rF wF v1 S) o) : hd_Md_loops_L14 V l Γ rF wF v1 S q := by
  unfold Md_loops_L14 at h
  unfold hd_Md_loops_L14
  refine g_iload_n (pc := 14) dX12_loops_14 rfl ?_
  refine g_aload_n (pc := 15) dX12_loops_15 rfl ?_
  refine v_getR hV (pc := 16) dX12_loops_16 fo_12_24 rfl k0_53 r0_53_24 ?_
  refine g_iconst (v := 1) (pc := 19) dX12_loops_19 (by decide) ?_
  refine v_ialdK hV (k := 1) (pc := 20) dX12_loops_20 k0_68 own_68 (by decide) (by decide) ?_
  refine g_icmp_ge (tgt := 50) (pc := 21) dX12_loops_21 (by decide) (fun c3 => ?_) (fun c3 => ?_)
  · rw [if_pos c3] at h
    refine g_wk [false, false, true, false] rfl ?_
    cases h
    exact hK
  · rw [if_neg c3] at h
    refine g_iload_n (pc := 24) dX12_loops_24 rfl ?_
    refine g_aload_n (pc := 25) dX12_loops_25 rfl ?_
    refine g_iload_n (pc := 26) dX12_loops_26 rfl ?_
    refine g_iload_n (pc := 27) dX12_loops_27 rfl ?_
    obtain ⟨q1, hq1, h⟩ := bnd h
    refine v_callVi hV (Mc := mX12_leads) (v := q1) (S1 := S) (As := [.int v1, .int q.2]) (rest := [.int q.1]) (q := (RX12, TX12, 58)) (pc := 28) dX12_loops_28 mK_X12_323 mf_X12_leads rfl k0_53 rfl rfl rfl (Nat.le_of_ble_eq_true rfl) ⟨Nat.le_of_ble_eq_true rfl, Nat.le_of_ble_eq_true rfl⟩ (r_Md_leads hV hq1) ?_
    refine g_iload_n (pc := 31) dX12_loops_31 rfl ?_
    refine g_icmp_ne (tgt := 41) (pc := 32) dX12_loops_32 (by decide) (fun c2 => ?_) (fun c2 => ?_)
    · rw [if_neg c2] at h
      refine g_iconst (v := 0) (pc := 41) dX12_loops_41 (by decide) ?_
      refine g_wk [true, true, false, true] rfl ?_
      exact t_Md_loops_42_L14 hV h hK
    · rw [if_pos c2] at h
      refine g_iconst (v := 1) (pc := 35) dX12_loops_35 (by decide) ?_
      refine g_iload_n (pc := 36) dX12_loops_36 rfl ?_
      refine g_ishl (pc := 37) dX12_loops_37 ?_
      refine g_goto (tgt := 42) (pc := 38) dX12_loops_38 (by decide) ?_
      refine g_wk [true, true, false, true] rfl ?_
      exact t_Md_loops_42_L14 hV h hK
set_option maxRecDepth 4000 in
theorem w_Md_loops_L14 {V : Sm → Wd} (hV : VwT V) {l : Launch} {Γ : Gm} {rF : Option Value} {wF : Wd} {v1 : Int32} {S : Sm} {k : Nat} {q : Int32 × Int32} {o : Int32} (h : lpN (Md_loops_L14 v1 S) k q = some o) (hP : ps_Md_loops_L14 V l Γ rF wF v1 S o) : hd_Md_loops_L14 V l Γ rF wF v1 S q := lpN_ind2 (hd_Md_loops_L14 V l Γ rF wF v1 S) (ps_Md_loops_L14 V l Γ rF wF v1 S) (fun s o h hK => t_Md_loops_L14 hV h hK) k q o h hP
def Md_loops (v1 : Int32) (S : Sm) : Option (Int32) := (if (Md_isMouth v1 S) = 0 then (some ((-1))) else ((lpN (Md_loops_L14 v1 S) FU (0, 0)).bind fun q4 => (some q4)))
set_option maxRecDepth 4000 in
theorem r_Md_loops {V : Sm → Wd} (hV : VwT V) {v1 : Int32} {S : Sm} {q : Int32} (h : Md_loops v1 S = some q) : Runs 2 mX12_loops [.ref 53, .int v1] (V S) (some (.int q)) (V S) 0 0 := by
  unfold Md_loops at h
  refine Runs.of2 [some (.ref 53), some (.int v1), none, none] 2 rfl rfl (Nat.le_of_ble_eq_true rfl) (fun l Γ => ?_)
  refine g_aload_n (pc := 0) dX12_loops_0 rfl ?_
  refine g_iload_n (pc := 1) dX12_loops_1 rfl ?_
  refine v_callVi hV (Mc := mX12_isMouth) (v := Md_isMouth v1 S) (S1 := S) (As := [.int v1]) (rest := []) (q := (RX12, TX12, 58)) (pc := 2) dX12_loops_2 mK_X12_333 mf_X12_isMouth rfl k0_53 rfl rfl rfl (Nat.le_of_ble_eq_true rfl) ⟨Nat.le_of_ble_eq_true rfl, Nat.le_of_ble_eq_true rfl⟩ (r_Md_isMouth hV rfl) ?_
  refine g_if_ne (tgt := 10) (pc := 5) dX12_loops_5 (by decide) (fun c5 => ?_) (fun c5 => ?_)
  · rw [if_neg c5] at h
    refine g_iconst (v := 0) (pc := 10) dX12_loops_10 (by decide) ?_
    refine g_istore_n (ls1 := [some (.ref 53), some (.int v1), some (.int 0), none]) (pc := 11) dX12_loops_11 (by decide) rfl ?_
    refine g_iconst (v := 0) (pc := 12) dX12_loops_12 (by decide) ?_
    refine g_istore_n (ls1 := [some (.ref 53), some (.int v1), some (.int 0), some (.int 0)]) (pc := 13) dX12_loops_13 (by decide) rfl ?_
    obtain ⟨q4, hqq4, h⟩ := bnd h
    refine w_Md_loops_L14 hV hqq4 ?_
    unfold ps_Md_loops_L14
    show G _ _ _ _ _ _ _ _ _ _ _
    refine g_iload_n (pc := 50) dX12_loops_50 rfl ?_
    cases h
    exact g_iret (pc := 51) dX12_loops_51 rfl rfl (Nat.le_refl _) (Nat.le_refl _)
  · rw [if_pos c5] at h
    refine g_iconst (v := (-1)) (pc := 8) dX12_loops_8 (by decide) ?_
    cases h
    exact g_iret (pc := 9) dX12_loops_9 rfl rfl (Nat.le_refl _) (Nat.le_refl _)
def hd_Md_safe_L15 (V : Sm → Wd) (l : Launch) (Γ : Gm) (rF : Option Value) (wF : Wd) (S : Sm) (q : Int32 × Int32) : Prop := G mX12_safe l Γ (rmD 1 0 0) (mQ Γ rF wF 0 0) 0 0 15 [some (.ref 53), some (.int q.1), some (.int q.2), none, none] [] (V S)
def ps_Md_safe_L15 (V : Sm → Wd) (l : Launch) (Γ : Gm) (rF : Option Value) (wF : Wd) (S : Sm) (x : Int32) : Prop := (fun (a : Int32) => G mX12_safe l Γ (rmD 1 0 0) (mQ Γ rF wF 0 0) 0 0 93 [none, some (.int a), none, none, none] [] (V S)) x
def hd_Md_safe_L30 (V : Sm → Wd) (l : Launch) (Γ : Gm) (rF : Option Value) (wF : Wd) (v1 : Int32) (v2 : Int32) (S : Sm) (q : Int32 × Int32) : Prop := G mX12_safe l Γ (rmD 1 0 0) (mQ Γ rF wF 0 0) 0 0 30 [some (.ref 53), some (.int v1), some (.int v2), some (.int q.1), some (.int q.2)] [] (V S)
def ps_Md_safe_L30 (V : Sm → Wd) (l : Launch) (Γ : Gm) (rF : Option Value) (wF : Wd) (v1 : Int32) (v2 : Int32) (S : Sm) (x : Int32) : Prop := (fun (a : Int32) => G mX12_safe l Γ (rmD 1 0 0) (mQ Γ rF wF 0 0) 0 0 73 [some (.ref 53), some (.int v1), some (.int v2), some (.int a), none] [] (V S)) x
def Md_safe_66_L30 (v1 : Int32) (v2 : Int32) (v4 : Int32) (s0 : Int32) (S : Sm) : Option ((Int32 × Int32) ⊕ (Int32)) := (some (.inl (s0, v4 + 1)))
set_option maxRecDepth 4000 in
theorem t_Md_safe_66_L30 {V : Sm → Wd} (hV : VwT V) {l : Launch} {Γ : Gm} {v1 : Int32} {v2 : Int32} {v4 : Int32} {s0 : Int32} {rF : Option Value} {wF : Wd} {S : Sm} {o : (Int32 × Int32) ⊕ (Int32)} (h : Md_safe_66_L30 v1 v2 v4 s0 S = some o) (hK : Sum.elim (hd_Md_safe_L30 V l Γ rF wF v1 v2 S) (ps_Md_safe_L30 V l Γ rF wF v1 v2 S) o) : G mX12_safe l Γ (rmD 1 0 0) (mQ Γ rF wF 0 0) 0 0 66 [some (.ref 53), some (.int v1), some (.int v2), none, some (.int v4)] [.int s0] (V S) := by
  unfold Md_safe_66_L30 at h
  refine g_istore_n (ls1 := [some (.ref 53), some (.int v1), some (.int v2), some (.int s0), some (.int v4)]) (pc := 66) dX12_safe_66 (by decide) rfl ?_
  refine g_iinc (v := v4 + 1) (ls1 := [some (.ref 53), some (.int v1), some (.int v2), some (.int s0), some (.int (v4 + 1))]) (pc := 67) dX12_safe_67 rfl rfl (by decide) rfl ?_
  refine g_goto (tgt := 30) (pc := 70) dX12_safe_70 (by decide) ?_
  cases h
  exact hK
def Md_safe_65_L30 (v1 : Int32) (v2 : Int32) (v4 : Int32) (S : Sm) : Option ((Int32 × Int32) ⊕ (Int32)) := (Md_safe_66_L30 v1 v2 v4 0 S)
set_option maxRecDepth 4000 in
theorem t_Md_safe_65_L30 {V : Sm → Wd} (hV : VwT V) {l : Launch} {Γ : Gm} {v1 : Int32} {v2 : Int32} {v4 : Int32} {rF : Option Value} {wF : Wd} {S : Sm} {o : (Int32 × Int32) ⊕ (Int32)} (h : Md_safe_65_L30 v1 v2 v4 S = some o) (hK : Sum.elim (hd_Md_safe_L30 V l Γ rF wF v1 v2 S) (ps_Md_safe_L30 V l Γ rF wF v1 v2 S) o) : G mX12_safe l Γ (rmD 1 0 0) (mQ Γ rF wF 0 0) 0 0 65 [some (.ref 53), some (.int v1), some (.int v2), none, some (.int v4)] [] (V S) := by
  unfold Md_safe_65_L30 at h
  refine g_iconst (v := 0) (pc := 65) dX12_safe_65 (by decide) ?_
  exact t_Md_safe_66_L30 hV h hK
def Md_safe_L30 (v1 : Int32) (v2 : Int32) (S : Sm) (q : Int32 × Int32) : Option ((Int32 × Int32) ⊕ (Int32)) := (if (gi S 68 1) ≤ q.2 then (some (.inr q.1)) else (if q.1 = 0 then (Md_safe_65_L30 v1 v2 q.2 S) else ((Md_leads v2 q.2 S).bind fun q1 => ((Md_leads v2 0 S).bind fun q2 => (if q1 = q2 then (Md_safe_66_L30 v1 v2 q.2 1 S) else (Md_safe_65_L30 v1 v2 q.2 S))))))
set_option maxRecDepth 4000 in
theorem t_Md_safe_L30 {V : Sm → Wd} (hV : VwT V) {l : Launch} {Γ : Gm} {rF : Option Value} {wF : Wd} {v1 : Int32} {v2 : Int32} {S : Sm} {q : Int32 × Int32} {o : (Int32 × Int32) ⊕ (Int32)} (h : Md_safe_L30 v1 v2 S q = some o) (hK : Sum.elim (hd_Md_safe_L30 V l Γ rF wF v1 v2 S) (ps_Md_safe_L30 V l Γ rF wF v1 v2 S) o) : hd_Md_safe_L30 V l Γ rF wF v1 v2 S q := by
  unfold Md_safe_L30 at h
  unfold hd_Md_safe_L30
  refine g_iload (pc := 30) dX12_safe_30 rfl ?_
  refine g_aload_n (pc := 32) dX12_safe_32 rfl ?_
  refine v_getR hV (pc := 33) dX12_safe_33 fo_12_24 rfl k0_53 r0_53_24 ?_
  refine g_iconst (v := 1) (pc := 36) dX12_safe_36 (by decide) ?_
  refine v_ialdK hV (k := 1) (pc := 37) dX12_safe_37 k0_68 own_68 (by decide) (by decide) ?_
  refine g_icmp_ge (tgt := 73) (pc := 38) dX12_safe_38 (by decide) (fun c5 => ?_) (fun c5 => ?_)
  · rw [if_pos c5] at h
    refine g_wk [true, true, true, true, false] rfl ?_
    cases h
    exact hK
  · rw [if_neg c5] at h
    refine g_iload_n (pc := 41) dX12_safe_41 rfl ?_
    refine g_if_eq (tgt := 65) (pc := 42) dX12_safe_42 (by decide) (fun c4 => ?_) (fun c4 => ?_)
    · rw [if_pos c4] at h
      refine g_wk [true, true, true, false, true] rfl ?_
      exact t_Md_safe_65_L30 hV h hK
    · rw [if_neg c4] at h
      refine g_aload_n (pc := 45) dX12_safe_45 rfl ?_
      refine g_iload_n (pc := 46) dX12_safe_46 rfl ?_
      refine g_iload (pc := 47) dX12_safe_47 rfl ?_
      obtain ⟨q1, hq1, h⟩ := bnd h
      refine v_callVi hV (Mc := mX12_leads) (v := q1) (S1 := S) (As := [.int v2, .int q.2]) (rest := []) (q := (RX12, TX12, 58)) (pc := 49) dX12_safe_49 mK_X12_323 mf_X12_leads rfl k0_53 rfl rfl rfl (Nat.le_of_ble_eq_true rfl) ⟨Nat.le_of_ble_eq_true rfl, Nat.le_of_ble_eq_true rfl⟩ (r_Md_leads hV hq1) ?_
      refine g_aload_n (pc := 52) dX12_safe_52 rfl ?_
      refine g_iload_n (pc := 53) dX12_safe_53 rfl ?_
      refine g_iconst (v := 0) (pc := 54) dX12_safe_54 (by decide) ?_
      obtain ⟨q2, hq2, h⟩ := bnd h
      refine v_callVi hV (Mc := mX12_leads) (v := q2) (S1 := S) (As := [.int v2, .int 0]) (rest := [.int q1]) (q := (RX12, TX12, 58)) (pc := 55) dX12_safe_55 mK_X12_323 mf_X12_leads rfl k0_53 rfl rfl rfl (Nat.le_of_ble_eq_true rfl) ⟨Nat.le_of_ble_eq_true rfl, Nat.le_of_ble_eq_true rfl⟩ (r_Md_leads hV hq2) ?_
      refine g_icmp_ne (tgt := 65) (pc := 58) dX12_safe_58 (by decide) (fun c3 => ?_) (fun c3 => ?_)
      · rw [if_neg c3] at h
        refine g_wk [true, true, true, false, true] rfl ?_
        exact t_Md_safe_65_L30 hV h hK
      · rw [if_pos c3] at h
        refine g_iconst (v := 1) (pc := 61) dX12_safe_61 (by decide) ?_
        refine g_goto (tgt := 66) (pc := 62) dX12_safe_62 (by decide) ?_
        refine g_wk [true, true, true, false, true] rfl ?_
        exact t_Md_safe_66_L30 hV h hK
set_option maxRecDepth 4000 in
theorem w_Md_safe_L30 {V : Sm → Wd} (hV : VwT V) {l : Launch} {Γ : Gm} {rF : Option Value} {wF : Wd} {v1 : Int32} {v2 : Int32} {S : Sm} {k : Nat} {q : Int32 × Int32} {o : Int32} (h : lpN (Md_safe_L30 v1 v2 S) k q = some o) (hP : ps_Md_safe_L30 V l Γ rF wF v1 v2 S o) : hd_Md_safe_L30 V l Γ rF wF v1 v2 S q := lpN_ind2 (hd_Md_safe_L30 V l Γ rF wF v1 v2 S) (ps_Md_safe_L30 V l Γ rF wF v1 v2 S) (fun s o h hK => t_Md_safe_L30 hV h hK) k q o h hP
def Md_safe_85_L15 (v2 : Int32) (s0 : Int32) (s1 : Int32) (S : Sm) : Option ((Int32 × Int32) ⊕ (Int32)) := (some (.inl (s0 ||| s1, v2 + 1)))
set_option maxRecDepth 4000 in
theorem t_Md_safe_85_L15 {V : Sm → Wd} (hV : VwT V) {l : Launch} {Γ : Gm} {v2 : Int32} {s0 : Int32} {s1 : Int32} {rF : Option Value} {wF : Wd} {S : Sm} {o : (Int32 × Int32) ⊕ (Int32)} (h : Md_safe_85_L15 v2 s0 s1 S = some o) (hK : Sum.elim (hd_Md_safe_L15 V l Γ rF wF S) (ps_Md_safe_L15 V l Γ rF wF S) o) : G mX12_safe l Γ (rmD 1 0 0) (mQ Γ rF wF 0 0) 0 0 85 [some (.ref 53), none, some (.int v2), none, none] [.int s1, .int s0] (V S) := by
  unfold Md_safe_85_L15 at h
  refine g_ior (pc := 85) dX12_safe_85 ?_
  refine g_istore_n (ls1 := [some (.ref 53), some (.int (s0 ||| s1)), some (.int v2), none, none]) (pc := 86) dX12_safe_86 (by decide) rfl ?_
  refine g_iinc (v := v2 + 1) (ls1 := [some (.ref 53), some (.int (s0 ||| s1)), some (.int (v2 + 1)), none, none]) (pc := 87) dX12_safe_87 rfl rfl (by decide) rfl ?_
  refine g_goto (tgt := 15) (pc := 90) dX12_safe_90 (by decide) ?_
  cases h
  exact hK
def Md_safe_L15 (S : Sm) (q : Int32 × Int32) : Option ((Int32 × Int32) ⊕ (Int32)) := (if (gi S 68 0) ≤ q.2 then (some (.inr q.1)) else ((lpN (Md_safe_L30 q.1 q.2 S) FU (1, 1)).bind fun q6 => (if q6 = 0 then (Md_safe_85_L15 q.2 q.1 0 S) else (Md_safe_85_L15 q.2 q.1 (iShl 1 q.2) S))))
set_option maxRecDepth 4000 in
theorem t_Md_safe_L15 {V : Sm → Wd} (hV : VwT V) {l : Launch} {Γ : Gm} {rF : Option Value} {wF : Wd} {S : Sm} {q : Int32 × Int32} {o : (Int32 × Int32) ⊕ (Int32)} (h : Md_safe_L15 S q = some o) (hK : Sum.elim (hd_Md_safe_L15 V l Γ rF wF S) (ps_Md_safe_L15 V l Γ rF wF S) o) : hd_Md_safe_L15 V l Γ rF wF S q := by
  unfold Md_safe_L15 at h
  unfold hd_Md_safe_L15
  refine g_iload_n (pc := 15) dX12_safe_15 rfl ?_
  refine g_aload_n (pc := 16) dX12_safe_16 rfl ?_
  refine v_getR hV (pc := 17) dX12_safe_17 fo_12_24 rfl k0_53 r0_53_24 ?_
  refine g_iconst (v := 0) (pc := 20) dX12_safe_20 (by decide) ?_
  refine v_ialdK hV (k := 0) (pc := 21) dX12_safe_21 k0_68 own_68 (by decide) (by decide) ?_
  refine g_icmp_ge (tgt := 93) (pc := 22) dX12_safe_22 (by decide) (fun c8 => ?_) (fun c8 => ?_)
  · rw [if_pos c8] at h
    refine g_wk [false, true, false, false, false] rfl ?_
    cases h
    exact hK
  · rw [if_neg c8] at h
    refine g_iconst (v := 1) (pc := 25) dX12_safe_25 (by decide) ?_
    refine g_istore_n (ls1 := [some (.ref 53), some (.int q.1), some (.int q.2), some (.int 1), none]) (pc := 26) dX12_safe_26 (by decide) rfl ?_
    refine g_iconst (v := 1) (pc := 27) dX12_safe_27 (by decide) ?_
    refine g_istore (ls1 := [some (.ref 53), some (.int q.1), some (.int q.2), some (.int 1), some (.int 1)]) (pc := 28) dX12_safe_28 (by decide) rfl ?_
    obtain ⟨q6, hqq6, h⟩ := bnd h
    refine w_Md_safe_L30 hV hqq6 ?_
    unfold ps_Md_safe_L30
    show G _ _ _ _ _ _ _ _ _ _ _
    refine g_iload_n (pc := 73) dX12_safe_73 rfl ?_
    refine g_iload_n (pc := 74) dX12_safe_74 rfl ?_
    refine g_if_eq (tgt := 84) (pc := 75) dX12_safe_75 (by decide) (fun c7 => ?_) (fun c7 => ?_)
    · rw [if_pos c7] at h
      refine g_iconst (v := 0) (pc := 84) dX12_safe_84 (by decide) ?_
      refine g_wk [true, false, true, false, false] rfl ?_
      exact t_Md_safe_85_L15 hV h hK
    · rw [if_neg c7] at h
      refine g_iconst (v := 1) (pc := 78) dX12_safe_78 (by decide) ?_
      refine g_iload_n (pc := 79) dX12_safe_79 rfl ?_
      refine g_ishl (pc := 80) dX12_safe_80 ?_
      refine g_goto (tgt := 85) (pc := 81) dX12_safe_81 (by decide) ?_
      refine g_wk [true, false, true, false, false] rfl ?_
      exact t_Md_safe_85_L15 hV h hK
set_option maxRecDepth 4000 in
theorem w_Md_safe_L15 {V : Sm → Wd} (hV : VwT V) {l : Launch} {Γ : Gm} {rF : Option Value} {wF : Wd} {S : Sm} {k : Nat} {q : Int32 × Int32} {o : Int32} (h : lpN (Md_safe_L15 S) k q = some o) (hP : ps_Md_safe_L15 V l Γ rF wF S o) : hd_Md_safe_L15 V l Γ rF wF S q := lpN_ind2 (hd_Md_safe_L15 V l Γ rF wF S) (ps_Md_safe_L15 V l Γ rF wF S) (fun s o h hK => t_Md_safe_L15 hV h hK) k q o h hP
def Md_safe (S : Sm) : Option (Int32) := (if (gi S 68 0) = 0 then (some ((-1))) else ((lpN (Md_safe_L15 S) FU (0, 0)).bind fun q9 => (some q9)))
set_option maxRecDepth 4000 in
theorem r_Md_safe {V : Sm → Wd} (hV : VwT V)  {S : Sm} {q : Int32} (h : Md_safe S = some q) : Runs 1 mX12_safe [.ref 53] (V S) (some (.int q)) (V S) 0 0 := by
  unfold Md_safe at h
  refine Runs.of2 [some (.ref 53), none, none, none, none] 4 rfl rfl (Nat.le_of_ble_eq_true rfl) (fun l Γ => ?_)
  refine g_aload_n (pc := 0) dX12_safe_0 rfl ?_
  refine v_getR hV (pc := 1) dX12_safe_1 fo_12_24 rfl k0_53 r0_53_24 ?_
  refine g_iconst (v := 0) (pc := 4) dX12_safe_4 (by decide) ?_
  refine v_ialdK hV (k := 0) (pc := 5) dX12_safe_5 k0_68 own_68 (by decide) (by decide) ?_
  refine g_if_ne (tgt := 11) (pc := 6) dX12_safe_6 (by decide) (fun c10 => ?_) (fun c10 => ?_)
  · rw [if_neg c10] at h
    refine g_iconst (v := 0) (pc := 11) dX12_safe_11 (by decide) ?_
    refine g_istore_n (ls1 := [some (.ref 53), some (.int 0), none, none, none]) (pc := 12) dX12_safe_12 (by decide) rfl ?_
    refine g_iconst (v := 0) (pc := 13) dX12_safe_13 (by decide) ?_
    refine g_istore_n (ls1 := [some (.ref 53), some (.int 0), some (.int 0), none, none]) (pc := 14) dX12_safe_14 (by decide) rfl ?_
    obtain ⟨q9, hqq9, h⟩ := bnd h
    refine w_Md_safe_L15 hV hqq9 ?_
    unfold ps_Md_safe_L15
    show G _ _ _ _ _ _ _ _ _ _ _
    refine g_iload_n (pc := 93) dX12_safe_93 rfl ?_
    cases h
    exact g_iret (pc := 94) dX12_safe_94 rfl rfl (Nat.le_refl _) (Nat.le_refl _)
  · rw [if_pos c10] at h
    refine g_iconst (v := (-1)) (pc := 9) dX12_safe_9 (by decide) ?_
    cases h
    exact g_iret (pc := 10) dX12_safe_10 rfl rfl (Nat.le_refl _) (Nat.le_refl _)
def hd_Md_visits_L14 (V : Sm → Wd) (l : Launch) (Γ : Gm) (rF : Option Value) (wF : Wd) (v1 : Int32) (S : Sm) (q : Int32 × Int32) : Prop := G mX12_visits l Γ (rmD 2 0 0) (mQ Γ rF wF 0 0) 0 0 14 [some (.ref 53), some (.int v1), some (.int q.1), some (.int q.2)] [] (V S)
def ps_Md_visits_L14 (V : Sm → Wd) (l : Launch) (Γ : Gm) (rF : Option Value) (wF : Wd) (v1 : Int32) (S : Sm) (x : Int32) : Prop := (fun (a : Int32) => G mX12_visits l Γ (rmD 2 0 0) (mQ Γ rF wF 0 0) 0 0 58 [none, none, some (.int a), none] [] (V S)) x
def Md_visits_50_L14 (v1 : Int32) (v3 : Int32) (s0 : Int32) (s1 : Int32) (S : Sm) : Option ((Int32 × Int32) ⊕ (Int32)) := (some (.inl (s0 + s1, v3 + 1)))
set_option maxRecDepth 4000 in
theorem t_Md_visits_50_L14 {V : Sm → Wd} (hV : VwT V) {l : Launch} {Γ : Gm} {v1 : Int32} {v3 : Int32} {s0 : Int32} {s1 : Int32} {rF : Option Value} {wF : Wd} {S : Sm} {o : (Int32 × Int32) ⊕ (Int32)} (h : Md_visits_50_L14 v1 v3 s0 s1 S = some o) (hK : Sum.elim (hd_Md_visits_L14 V l Γ rF wF v1 S) (ps_Md_visits_L14 V l Γ rF wF v1 S) o) : G mX12_visits l Γ (rmD 2 0 0) (mQ Γ rF wF 0 0) 0 0 50 [some (.ref 53), some (.int v1), none, some (.int v3)] [.int s1, .int s0] (V S) := by
  unfold Md_visits_50_L14 at h
  refine g_iadd (pc := 50) dX12_visits_50 ?_
  refine g_istore_n (ls1 := [some (.ref 53), some (.int v1), some (.int (s0 + s1)), some (.int v3)]) (pc := 51) dX12_visits_51 (by decide) rfl ?_
  refine g_iinc (v := v3 + 1) (ls1 := [some (.ref 53), some (.int v1), some (.int (s0 + s1)), some (.int (v3 + 1))]) (pc := 52) dX12_visits_52 rfl rfl (by decide) rfl ?_
  refine g_goto (tgt := 14) (pc := 55) dX12_visits_55 (by decide) ?_
  cases h
  exact hK
def Md_visits_L14 (v1 : Int32) (S : Sm) (q : Int32 × Int32) : Option ((Int32 × Int32) ⊕ (Int32)) := (if (gi S 70 139) ≤ q.2 then (some (.inr q.1)) else (if inb ((140 + (3 * q.2)) + 1) 320 then (if (gi S 70 (ix ((140 + (3 * q.2)) + 1))) = v1 then (Md_visits_50_L14 v1 q.2 q.1 1 S) else (Md_visits_50_L14 v1 q.2 q.1 0 S)) else none))
set_option maxRecDepth 4000 in
theorem t_Md_visits_L14 {V : Sm → Wd} (hV : VwT V) {l : Launch} {Γ : Gm} {rF : Option Value} {wF : Wd} {v1 : Int32} {S : Sm} {q : Int32 × Int32} {o : (Int32 × Int32) ⊕ (Int32)} (h : Md_visits_L14 v1 S q = some o) (hK : Sum.elim (hd_Md_visits_L14 V l Γ rF wF v1 S) (ps_Md_visits_L14 V l Γ rF wF v1 S) o) : hd_Md_visits_L14 V l Γ rF wF v1 S q := by
  unfold Md_visits_L14 at h
  unfold hd_Md_visits_L14
  refine g_iload_n (pc := 14) dX12_visits_14 rfl ?_
  refine g_aload_n (pc := 15) dX12_visits_15 rfl ?_
  refine v_getR hV (pc := 16) dX12_visits_16 fo_12_27 rfl k0_53 r0_53_27 ?_
  refine g_sipush (v := 139) (pc := 19) dX12_visits_19 (by decide) ?_
  refine v_ialdK hV (k := 139) (pc := 22) dX12_visits_22 k0_70 own_70 (by decide) (by decide) ?_
  refine g_icmp_ge (tgt := 58) (pc := 23) dX12_visits_23 (by decide) (fun c3 => ?_) (fun c3 => ?_)
  · rw [if_pos c3] at h
    refine g_wk [false, false, true, false] rfl ?_
    cases h
    exact hK
  · rw [if_neg c3] at h
    refine g_iload_n (pc := 26) dX12_visits_26 rfl ?_
    refine g_aload_n (pc := 27) dX12_visits_27 rfl ?_
    refine v_getR hV (pc := 28) dX12_visits_28 fo_12_27 rfl k0_53 r0_53_27 ?_
    refine g_sipush (v := 140) (pc := 31) dX12_visits_31 (by decide) ?_
    refine g_iconst (v := 3) (pc := 34) dX12_visits_34 (by decide) ?_
    refine g_iload_n (pc := 35) dX12_visits_35 rfl ?_
    refine g_imul (pc := 36) dX12_visits_36 ?_
    refine g_iadd (pc := 37) dX12_visits_37 ?_
    refine g_iconst (v := 1) (pc := 38) dX12_visits_38 (by decide) ?_
    refine g_iadd (pc := 39) dX12_visits_39 ?_
    by_cases c1 : inb ((140 + (3 * q.2)) + 1) 320
    · rw [if_pos c1] at h
      refine v_iald hV (pc := 40) dX12_visits_40 k0_70 own_70 c1 ?_
      refine g_iload_n (pc := 41) dX12_visits_41 rfl ?_
      refine g_icmp_ne (tgt := 49) (pc := 42) dX12_visits_42 (by decide) (fun c2 => ?_) (fun c2 => ?_)
      · rw [if_neg c2] at h
        refine g_iconst (v := 0) (pc := 49) dX12_visits_49 (by decide) ?_
        refine g_wk [true, true, false, true] rfl ?_
        exact t_Md_visits_50_L14 hV h hK
      · rw [if_pos c2] at h
        refine g_iconst (v := 1) (pc := 45) dX12_visits_45 (by decide) ?_
        refine g_goto (tgt := 50) (pc := 46) dX12_visits_46 (by decide) ?_
        refine g_wk [true, true, false, true] rfl ?_
        exact t_Md_visits_50_L14 hV h hK
    · rw [if_neg c1] at h; cases h
set_option maxRecDepth 4000 in
theorem w_Md_visits_L14 {V : Sm → Wd} (hV : VwT V) {l : Launch} {Γ : Gm} {rF : Option Value} {wF : Wd} {v1 : Int32} {S : Sm} {k : Nat} {q : Int32 × Int32} {o : Int32} (h : lpN (Md_visits_L14 v1 S) k q = some o) (hP : ps_Md_visits_L14 V l Γ rF wF v1 S o) : hd_Md_visits_L14 V l Γ rF wF v1 S q := lpN_ind2 (hd_Md_visits_L14 V l Γ rF wF v1 S) (ps_Md_visits_L14 V l Γ rF wF v1 S) (fun s o h hK => t_Md_visits_L14 hV h hK) k q o h hP
def Md_visits (v1 : Int32) (S : Sm) : Option (Int32) := (if (Md_isMouth v1 S) = 0 then (some ((-1))) else ((lpN (Md_visits_L14 v1 S) FU (0, 0)).bind fun q4 => (some q4)))
set_option maxRecDepth 4000 in
theorem r_Md_visits {V : Sm → Wd} (hV : VwT V) {v1 : Int32} {S : Sm} {q : Int32} (h : Md_visits v1 S = some q) : Runs 2 mX12_visits [.ref 53, .int v1] (V S) (some (.int q)) (V S) 0 0 := by
  unfold Md_visits at h
  refine Runs.of2 [some (.ref 53), some (.int v1), none, none] 2 rfl rfl (Nat.le_of_ble_eq_true rfl) (fun l Γ => ?_)
  refine g_aload_n (pc := 0) dX12_visits_0 rfl ?_
  refine g_iload_n (pc := 1) dX12_visits_1 rfl ?_
  refine v_callVi hV (Mc := mX12_isMouth) (v := Md_isMouth v1 S) (S1 := S) (As := [.int v1]) (rest := []) (q := (RX12, TX12, 58)) (pc := 2) dX12_visits_2 mK_X12_333 mf_X12_isMouth rfl k0_53 rfl rfl rfl (Nat.le_of_ble_eq_true rfl) ⟨Nat.le_of_ble_eq_true rfl, Nat.le_of_ble_eq_true rfl⟩ (r_Md_isMouth hV rfl) ?_
  refine g_if_ne (tgt := 10) (pc := 5) dX12_visits_5 (by decide) (fun c5 => ?_) (fun c5 => ?_)
  · rw [if_neg c5] at h
    refine g_iconst (v := 0) (pc := 10) dX12_visits_10 (by decide) ?_
    refine g_istore_n (ls1 := [some (.ref 53), some (.int v1), some (.int 0), none]) (pc := 11) dX12_visits_11 (by decide) rfl ?_
    refine g_iconst (v := 0) (pc := 12) dX12_visits_12 (by decide) ?_
    refine g_istore_n (ls1 := [some (.ref 53), some (.int v1), some (.int 0), some (.int 0)]) (pc := 13) dX12_visits_13 (by decide) rfl ?_
    obtain ⟨q4, hqq4, h⟩ := bnd h
    refine w_Md_visits_L14 hV hqq4 ?_
    unfold ps_Md_visits_L14
    show G _ _ _ _ _ _ _ _ _ _ _
    refine g_iload_n (pc := 58) dX12_visits_58 rfl ?_
    cases h
    exact g_iret (pc := 59) dX12_visits_59 rfl rfl (Nat.le_refl _) (Nat.le_refl _)
  · rw [if_pos c5] at h
    refine g_iconst (v := (-1)) (pc := 8) dX12_visits_8 (by decide) ?_
    cases h
    exact g_iret (pc := 9) dX12_visits_9 rfl rfl (Nat.le_refl _) (Nat.le_refl _)
def hd_Md_image_L13 (V : Sm → Wd) (l : Launch) (Γ : Gm) (rF : Option Value) (wF : Wd)  (q : Int32 × Sm) : Prop := G mX12_image l Γ (rmD 0 0 0) (mQ Γ rF wF 0 0) 0 0 13 [some (.ref 53), some (.int q.1)] [] (V q.2)
def ps_Md_image_L13 (V : Sm → Wd) (l : Launch) (Γ : Gm) (rF : Option Value) (wF : Wd)  (x : Sm) : Prop := (fun (a : Sm) => G mX12_image l Γ (rmD 0 0 0) (mQ Γ rF wF 0 0) 0 0 38 [some (.ref 53), none] [] (V a)) x
def Md_image_L13 (q : Int32 × Sm) : Option ((Int32 × Sm) ⊕ (Sm)) := (if (320 : Int32) ≤ q.1 then (some (.inr q.2)) else (if inb q.1 320 then (if inb q.1 320 then (some (.inl (q.1 + 1, si q.2 89 (ix q.1) (gi q.2 70 (ix q.1))))) else none) else none))
set_option maxRecDepth 4000 in
theorem t_Md_image_L13 {V : Sm → Wd} (hV : VwT V) {l : Launch} {Γ : Gm} {rF : Option Value} {wF : Wd}  {q : Int32 × Sm} {o : (Int32 × Sm) ⊕ (Sm)} (h : Md_image_L13 q = some o) (hK : Sum.elim (hd_Md_image_L13 V l Γ rF wF) (ps_Md_image_L13 V l Γ rF wF) o) : hd_Md_image_L13 V l Γ rF wF q := by
  unfold Md_image_L13 at h
  unfold hd_Md_image_L13
  refine g_iload_n (pc := 13) dX12_image_13 rfl ?_
  refine g_sipush (v := 320) (pc := 14) dX12_image_14 (by decide) ?_
  refine g_icmp_ge (tgt := 38) (pc := 17) dX12_image_17 (by decide) (fun c3 => ?_) (fun c3 => ?_)
  · rw [if_pos c3] at h
    refine g_wk [true, false] rfl ?_
    cases h
    exact hK
  · rw [if_neg c3] at h
    refine g_aload_n (pc := 20) dX12_image_20 rfl ?_
    refine v_getR hV (pc := 21) dX12_image_21 fo_12_56 rfl k0_53 r0_53_56 ?_
    refine g_iload_n (pc := 24) dX12_image_24 rfl ?_
    refine g_aload_n (pc := 25) dX12_image_25 rfl ?_
    refine v_getR hV (pc := 26) dX12_image_26 fo_12_27 rfl k0_53 r0_53_27 ?_
    refine g_iload_n (pc := 29) dX12_image_29 rfl ?_
    by_cases c1 : inb q.1 320
    · rw [if_pos c1] at h
      refine v_iald hV (pc := 30) dX12_image_30 k0_70 own_70 c1 ?_
      by_cases c2 : inb q.1 320
      · rw [if_pos c2] at h
        refine v_iast hV (pc := 31) dX12_image_31 k0_89 own_89 c2 ?_
        refine g_iinc (v := q.1 + 1) (ls1 := [some (.ref 53), some (.int (q.1 + 1))]) (pc := 32) dX12_image_32 rfl rfl (by decide) rfl ?_
        refine g_goto (tgt := 13) (pc := 35) dX12_image_35 (by decide) ?_
        cases h
        exact hK
      · rw [if_neg c2] at h; cases h
    · rw [if_neg c1] at h; cases h
set_option maxRecDepth 4000 in
theorem w_Md_image_L13 {V : Sm → Wd} (hV : VwT V) {l : Launch} {Γ : Gm} {rF : Option Value} {wF : Wd}  {k : Nat} {q : Int32 × Sm} {o : Sm} (h : lpN (Md_image_L13) k q = some o) (hP : ps_Md_image_L13 V l Γ rF wF o) : hd_Md_image_L13 V l Γ rF wF q := lpN_ind2 (hd_Md_image_L13 V l Γ rF wF) (ps_Md_image_L13 V l Γ rF wF) (fun s o h hK => t_Md_image_L13 hV h hK) k q o h hP
def Md_image (S : Sm) : Option (Int32 × Sm) := (if (gi S 68 0) = 0 then (some (((-1), S))) else ((lpN (Md_image_L13) FU (0, S)).bind fun q4 => (some ((gi (si q4 53 57 1) 70 137, si q4 53 57 1)))))
set_option maxRecDepth 4000 in
theorem r_Md_image {V : Sm → Wd} (hV : VwT V)  {S : Sm} {q : Int32 × Sm} (h : Md_image S = some q) : Runs 0 mX12_image [.ref 53] (V S) (some (.int q.1)) (V q.2) 0 0 := by
  unfold Md_image at h
  refine Runs.of2 [some (.ref 53), none] 1 rfl rfl (Nat.le_of_ble_eq_true rfl) (fun l Γ => ?_)
  refine g_aload_n (pc := 0) dX12_image_0 rfl ?_
  refine v_getR hV (pc := 1) dX12_image_1 fo_12_24 rfl k0_53 r0_53_24 ?_
  refine g_iconst (v := 0) (pc := 4) dX12_image_4 (by decide) ?_
  refine v_ialdK hV (k := 0) (pc := 5) dX12_image_5 k0_68 own_68 (by decide) (by decide) ?_
  refine g_if_ne (tgt := 11) (pc := 6) dX12_image_6 (by decide) (fun c5 => ?_) (fun c5 => ?_)
  · rw [if_neg c5] at h
    refine g_iconst (v := 0) (pc := 11) dX12_image_11 (by decide) ?_
    refine g_istore_n (ls1 := [some (.ref 53), some (.int 0)]) (pc := 12) dX12_image_12 (by decide) rfl ?_
    obtain ⟨q4, hqq4, h⟩ := bnd h
    refine w_Md_image_L13 hV hqq4 ?_
    unfold ps_Md_image_L13
    show G _ _ _ _ _ _ _ _ _ _ _
    refine g_aload_n (pc := 38) dX12_image_38 rfl ?_
    refine g_iconst (v := 1) (pc := 39) dX12_image_39 (by decide) ?_
    refine v_putZ hV (pc := 40) dX12_image_40 fo_12_57 rfl (by decide) k0_53 own_53 rfl ?_
    refine g_aload_n (pc := 43) dX12_image_43 rfl ?_
    refine v_getR hV (pc := 44) dX12_image_44 fo_12_27 rfl k0_53 r0_53_27 ?_
    refine g_sipush (v := 137) (pc := 47) dX12_image_47 (by decide) ?_
    refine v_ialdK hV (k := 137) (pc := 50) dX12_image_50 k0_70 own_70 (by decide) (by decide) ?_
    cases h
    exact g_iret (pc := 51) dX12_image_51 rfl rfl (Nat.le_refl _) (Nat.le_refl _)
  · rw [if_pos c5] at h
    refine g_iconst (v := (-1)) (pc := 9) dX12_image_9 (by decide) ?_
    cases h
    exact g_iret (pc := 10) dX12_image_10 rfl rfl (Nat.le_refl _) (Nat.le_refl _)
def hd_Md_back_L11 (V : Sm → Wd) (l : Launch) (Γ : Gm) (rF : Option Value) (wF : Wd)  (q : Int32 × Sm) : Prop := G mX12_back l Γ (rmD 0 0 0) (mQ Γ rF wF 0 0) 0 0 11 [some (.ref 53), some (.int q.1)] [] (V q.2)
def ps_Md_back_L11 (V : Sm → Wd) (l : Launch) (Γ : Gm) (rF : Option Value) (wF : Wd)  (x : Sm) : Prop := (fun (a : Sm) => G mX12_back l Γ (rmD 0 0 0) (mQ Γ rF wF 0 0) 0 0 36 [some (.ref 53), none] [] (V a)) x
def Md_back_L11 (q : Int32 × Sm) : Option ((Int32 × Sm) ⊕ (Sm)) := (if (320 : Int32) ≤ q.1 then (some (.inr q.2)) else (if inb q.1 320 then (if inb q.1 320 then (some (.inl (q.1 + 1, si q.2 70 (ix q.1) (gi q.2 89 (ix q.1))))) else none) else none))
set_option maxRecDepth 4000 in
theorem t_Md_back_L11 {V : Sm → Wd} (hV : VwT V) {l : Launch} {Γ : Gm} {rF : Option Value} {wF : Wd}  {q : Int32 × Sm} {o : (Int32 × Sm) ⊕ (Sm)} (h : Md_back_L11 q = some o) (hK : Sum.elim (hd_Md_back_L11 V l Γ rF wF) (ps_Md_back_L11 V l Γ rF wF) o) : hd_Md_back_L11 V l Γ rF wF q := by
  unfold Md_back_L11 at h
  unfold hd_Md_back_L11
  refine g_iload_n (pc := 11) dX12_back_11 rfl ?_
  refine g_sipush (v := 320) (pc := 12) dX12_back_12 (by decide) ?_
  refine g_icmp_ge (tgt := 36) (pc := 15) dX12_back_15 (by decide) (fun c3 => ?_) (fun c3 => ?_)
  · rw [if_pos c3] at h
    refine g_wk [true, false] rfl ?_
    cases h
    exact hK
  · rw [if_neg c3] at h
    refine g_aload_n (pc := 18) dX12_back_18 rfl ?_
    refine v_getR hV (pc := 19) dX12_back_19 fo_12_27 rfl k0_53 r0_53_27 ?_
    refine g_iload_n (pc := 22) dX12_back_22 rfl ?_
    refine g_aload_n (pc := 23) dX12_back_23 rfl ?_
    refine v_getR hV (pc := 24) dX12_back_24 fo_12_56 rfl k0_53 r0_53_56 ?_
    refine g_iload_n (pc := 27) dX12_back_27 rfl ?_
    by_cases c1 : inb q.1 320
    · rw [if_pos c1] at h
      refine v_iald hV (pc := 28) dX12_back_28 k0_89 own_89 c1 ?_
      by_cases c2 : inb q.1 320
      · rw [if_pos c2] at h
        refine v_iast hV (pc := 29) dX12_back_29 k0_70 own_70 c2 ?_
        refine g_iinc (v := q.1 + 1) (ls1 := [some (.ref 53), some (.int (q.1 + 1))]) (pc := 30) dX12_back_30 rfl rfl (by decide) rfl ?_
        refine g_goto (tgt := 11) (pc := 33) dX12_back_33 (by decide) ?_
        cases h
        exact hK
      · rw [if_neg c2] at h; cases h
    · rw [if_neg c1] at h; cases h
set_option maxRecDepth 4000 in
theorem w_Md_back_L11 {V : Sm → Wd} (hV : VwT V) {l : Launch} {Γ : Gm} {rF : Option Value} {wF : Wd}  {k : Nat} {q : Int32 × Sm} {o : Sm} (h : lpN (Md_back_L11) k q = some o) (hP : ps_Md_back_L11 V l Γ rF wF o) : hd_Md_back_L11 V l Γ rF wF q := lpN_ind2 (hd_Md_back_L11 V l Γ rF wF) (ps_Md_back_L11 V l Γ rF wF) (fun s o h hK => t_Md_back_L11 hV h hK) k q o h hP
def Md_back (S : Sm) : Option (Int32 × Sm) := (if (gi S 53 57) = 0 then (some (((-1), S))) else ((lpN (Md_back_L11) FU (0, S)).bind fun q4 => (some ((gi (si q4 53 34 0) 70 137, si q4 53 34 0)))))
set_option maxRecDepth 4000 in
theorem r_Md_back {V : Sm → Wd} (hV : VwT V)  {S : Sm} {q : Int32 × Sm} (h : Md_back S = some q) : Runs 0 mX12_back [.ref 53] (V S) (some (.int q.1)) (V q.2) 0 0 := by
  unfold Md_back at h
  refine Runs.of2 [some (.ref 53), none] 1 rfl rfl (Nat.le_of_ble_eq_true rfl) (fun l Γ => ?_)
  refine g_aload_n (pc := 0) dX12_back_0 rfl ?_
  refine v_getI hV (pc := 1) dX12_back_1 fo_12_57 rfl k0_53 own_53 ?_
  refine g_if_ne (tgt := 9) (pc := 4) dX12_back_4 (by decide) (fun c5 => ?_) (fun c5 => ?_)
  · rw [if_neg c5] at h
    refine g_iconst (v := 0) (pc := 9) dX12_back_9 (by decide) ?_
    refine g_istore_n (ls1 := [some (.ref 53), some (.int 0)]) (pc := 10) dX12_back_10 (by decide) rfl ?_
    obtain ⟨q4, hqq4, h⟩ := bnd h
    refine w_Md_back_L11 hV hqq4 ?_
    unfold ps_Md_back_L11
    show G _ _ _ _ _ _ _ _ _ _ _
    refine g_aload_n (pc := 36) dX12_back_36 rfl ?_
    refine g_iconst (v := 0) (pc := 37) dX12_back_37 (by decide) ?_
    refine v_putI hV (pc := 38) dX12_back_38 fo_12_34 rfl k0_53 own_53 rfl ?_
    refine g_aload_n (pc := 41) dX12_back_41 rfl ?_
    refine v_getR hV (pc := 42) dX12_back_42 fo_12_27 rfl k0_53 r0_53_27 ?_
    refine g_sipush (v := 137) (pc := 45) dX12_back_45 (by decide) ?_
    refine v_ialdK hV (k := 137) (pc := 48) dX12_back_48 k0_70 own_70 (by decide) (by decide) ?_
    cases h
    exact g_iret (pc := 49) dX12_back_49 rfl rfl (Nat.le_refl _) (Nat.le_refl _)
  · rw [if_pos c5] at h
    refine g_iconst (v := (-1)) (pc := 7) dX12_back_7 (by decide) ?_
    cases h
    exact g_iret (pc := 8) dX12_back_8 rfl rfl (Nat.le_refl _) (Nat.le_refl _)
def hd_Md_guardsInAll_L4 (V : Sm → Wd) (l : Launch) (Γ : Gm) (rF : Option Value) (wF : Wd) (S : Sm) (q : Int32 × Int32) : Prop := G mX12_guardsInAll l Γ (rmD 0 0 0) (mQ Γ rF wF 0 0) 0 0 4 [some (.ref 53), some (.int q.1), some (.int q.2)] [] (V S)
def ps_Md_guardsInAll_L4 (V : Sm → Wd) (l : Launch) (Γ : Gm) (rF : Option Value) (wF : Wd) (S : Sm) (x : Int32) : Prop := (fun (a : Int32) => G mX12_guardsInAll l Γ (rmD 0 0 0) (mQ Γ rF wF 0 0) 0 0 28 [none, some (.int a), none] [] (V S)) x
def Md_guardsInAll_L4 (S : Sm) (q : Int32 × Int32) : Option ((Int32 × Int32) ⊕ (Int32)) := (if (8 : Int32) ≤ q.2 then (some (.inr q.1)) else (if inb (80 + q.2) 320 then (some (.inl (q.1 + (gi S 70 (ix (80 + q.2))), q.2 + 1))) else none))
set_option maxRecDepth 4000 in
theorem t_Md_guardsInAll_L4 {V : Sm → Wd} (hV : VwT V) {l : Launch} {Γ : Gm} {rF : Option Value} {wF : Wd} {S : Sm} {q : Int32 × Int32} {o : (Int32 × Int32) ⊕ (Int32)} (h : Md_guardsInAll_L4 S q = some o) (hK : Sum.elim (hd_Md_guardsInAll_L4 V l Γ rF wF S) (ps_Md_guardsInAll_L4 V l Γ rF wF S) o) : hd_Md_guardsInAll_L4 V l Γ rF wF S q := by
  unfold Md_guardsInAll_L4 at h
  unfold hd_Md_guardsInAll_L4
  refine g_iload_n (pc := 4) dX12_guardsInAll_4 rfl ?_
  refine g_bipush (v := 8) (pc := 5) dX12_guardsInAll_5 (by decide) ?_
  refine g_icmp_ge (tgt := 28) (pc := 7) dX12_guardsInAll_7 (by decide) (fun c2 => ?_) (fun c2 => ?_)
  · rw [if_pos c2] at h
    refine g_wk [false, true, false] rfl ?_
    cases h
    exact hK
  · rw [if_neg c2] at h
    refine g_iload_n (pc := 10) dX12_guardsInAll_10 rfl ?_
    refine g_aload_n (pc := 11) dX12_guardsInAll_11 rfl ?_
    refine v_getR hV (pc := 12) dX12_guardsInAll_12 fo_12_27 rfl k0_53 r0_53_27 ?_
    refine g_bipush (v := 80) (pc := 15) dX12_guardsInAll_15 (by decide) ?_
    refine g_iload_n (pc := 17) dX12_guardsInAll_17 rfl ?_
    refine g_iadd (pc := 18) dX12_guardsInAll_18 ?_
    by_cases c1 : inb (80 + q.2) 320
    · rw [if_pos c1] at h
      refine v_iald hV (pc := 19) dX12_guardsInAll_19 k0_70 own_70 c1 ?_
      refine g_iadd (pc := 20) dX12_guardsInAll_20 ?_
      refine g_istore_n (ls1 := [some (.ref 53), some (.int (q.1 + (gi S 70 (ix (80 + q.2))))), some (.int q.2)]) (pc := 21) dX12_guardsInAll_21 (by decide) rfl ?_
      refine g_iinc (v := q.2 + 1) (ls1 := [some (.ref 53), some (.int (q.1 + (gi S 70 (ix (80 + q.2))))), some (.int (q.2 + 1))]) (pc := 22) dX12_guardsInAll_22 rfl rfl (by decide) rfl ?_
      refine g_goto (tgt := 4) (pc := 25) dX12_guardsInAll_25 (by decide) ?_
      cases h
      exact hK
    · rw [if_neg c1] at h; cases h
set_option maxRecDepth 4000 in
theorem w_Md_guardsInAll_L4 {V : Sm → Wd} (hV : VwT V) {l : Launch} {Γ : Gm} {rF : Option Value} {wF : Wd} {S : Sm} {k : Nat} {q : Int32 × Int32} {o : Int32} (h : lpN (Md_guardsInAll_L4 S) k q = some o) (hP : ps_Md_guardsInAll_L4 V l Γ rF wF S o) : hd_Md_guardsInAll_L4 V l Γ rF wF S q := lpN_ind2 (hd_Md_guardsInAll_L4 V l Γ rF wF S) (ps_Md_guardsInAll_L4 V l Γ rF wF S) (fun s o h hK => t_Md_guardsInAll_L4 hV h hK) k q o h hP
def Md_guardsInAll (S : Sm) : Option (Int32) := ((lpN (Md_guardsInAll_L4 S) FU (0, 0)).bind fun q3 => (some q3))
set_option maxRecDepth 4000 in
theorem r_Md_guardsInAll {V : Sm → Wd} (hV : VwT V)  {S : Sm} {q : Int32} (h : Md_guardsInAll S = some q) : Runs 0 mX12_guardsInAll [.ref 53] (V S) (some (.int q)) (V S) 0 0 := by
  unfold Md_guardsInAll at h
  refine Runs.of2 [some (.ref 53), none, none] 2 rfl rfl (Nat.le_of_ble_eq_true rfl) (fun l Γ => ?_)
  refine g_iconst (v := 0) (pc := 0) dX12_guardsInAll_0 (by decide) ?_
  refine g_istore_n (ls1 := [some (.ref 53), some (.int 0), none]) (pc := 1) dX12_guardsInAll_1 (by decide) rfl ?_
  refine g_iconst (v := 0) (pc := 2) dX12_guardsInAll_2 (by decide) ?_
  refine g_istore_n (ls1 := [some (.ref 53), some (.int 0), some (.int 0)]) (pc := 3) dX12_guardsInAll_3 (by decide) rfl ?_
  obtain ⟨q3, hqq3, h⟩ := bnd h
  refine w_Md_guardsInAll_L4 hV hqq3 ?_
  unfold ps_Md_guardsInAll_L4
  show G _ _ _ _ _ _ _ _ _ _ _
  refine g_iload_n (pc := 28) dX12_guardsInAll_28 rfl ?_
  cases h
  exact g_iret (pc := 29) dX12_guardsInAll_29 rfl rfl (Nat.le_refl _) (Nat.le_refl _)
def Md_count (v1 : Int32) (S : Sm) : Option (Int32) := (if v1 = (0 : Int32) then (some (gi S 68 0)) else (if v1 = (1 : Int32) then (some (gi S 68 1)) else (if v1 = (2 : Int32) then (some (gi S 70 136)) else (if v1 = (3 : Int32) then ((Md_guardsInAll S).bind fun q5 => (some q5)) else (if v1 = (4 : Int32) then (some (gi S 53 13)) else (if v1 = (5 : Int32) then (some (gi S 53 2)) else (if v1 = (6 : Int32) then (some (gi S 53 31)) else (if v1 = (7 : Int32) then (some (gi S 70 137)) else (if v1 = (8 : Int32) then (some (gi S 70 138)) else (if v1 = (9 : Int32) then (some (gi S 53 32)) else (if v1 = (10 : Int32) then ((Md_unknownNow S).bind fun q13 => (some q13)) else (if v1 = (11 : Int32) then (some (gi S 53 49)) else (if v1 = (12 : Int32) then (some (gi S 70 139)) else (if v1 = (13 : Int32) then (some (gi S 53 34)) else (some ((-1000000)))))))))))))))))
set_option maxRecDepth 4000 in
theorem r_Md_count {V : Sm → Wd} (hV : VwT V) {v1 : Int32} {S : Sm} {q : Int32} (h : Md_count v1 S = some q) : Runs 2 mX12_count [.ref 53, .int v1] (V S) (some (.int q)) (V S) 0 0 := by
  unfold Md_count at h
  refine Runs.of2 [some (.ref 53), some (.int v1)] 0 rfl rfl (Nat.le_of_ble_eq_true rfl) (fun l Γ => ?_)
  refine g_iload_n (pc := 0) dX12_count_0 rfl ?_
  by_cases c1 : v1 = (0 : Int32)
  · rw [if_pos c1] at h
    refine g_tab (off := 71) (tgt := 72) (pc := 1) dX12_count_1 (by rw [c1]; decide +kernel) (by decide) (by decide +kernel) ?_
    refine g_aload_n (pc := 72) dX12_count_72 rfl ?_
    refine v_getR hV (pc := 73) dX12_count_73 fo_12_24 rfl k0_53 r0_53_24 ?_
    refine g_iconst (v := 0) (pc := 76) dX12_count_76 (by decide) ?_
    refine v_ialdK hV (k := 0) (pc := 77) dX12_count_77 k0_68 own_68 (by decide) (by decide) ?_
    cases h
    exact g_iret (pc := 78) dX12_count_78 rfl rfl (Nat.le_refl _) (Nat.le_refl _)
  · rw [if_neg c1] at h
    by_cases c2 : v1 = (1 : Int32)
    · rw [if_pos c2] at h
      refine g_tab (off := 78) (tgt := 79) (pc := 1) dX12_count_1 (by rw [c2]; decide +kernel) (by decide) (by decide +kernel) ?_
      refine g_aload_n (pc := 79) dX12_count_79 rfl ?_
      refine v_getR hV (pc := 80) dX12_count_80 fo_12_24 rfl k0_53 r0_53_24 ?_
      refine g_iconst (v := 1) (pc := 83) dX12_count_83 (by decide) ?_
      refine v_ialdK hV (k := 1) (pc := 84) dX12_count_84 k0_68 own_68 (by decide) (by decide) ?_
      cases h
      exact g_iret (pc := 85) dX12_count_85 rfl rfl (Nat.le_refl _) (Nat.le_refl _)
    · rw [if_neg c2] at h
      by_cases c3 : v1 = (2 : Int32)
      · rw [if_pos c3] at h
        refine g_tab (off := 85) (tgt := 86) (pc := 1) dX12_count_1 (by rw [c3]; decide +kernel) (by decide) (by decide +kernel) ?_
        refine g_aload_n (pc := 86) dX12_count_86 rfl ?_
        refine v_getR hV (pc := 87) dX12_count_87 fo_12_27 rfl k0_53 r0_53_27 ?_
        refine g_sipush (v := 136) (pc := 90) dX12_count_90 (by decide) ?_
        refine v_ialdK hV (k := 136) (pc := 93) dX12_count_93 k0_70 own_70 (by decide) (by decide) ?_
        cases h
        exact g_iret (pc := 94) dX12_count_94 rfl rfl (Nat.le_refl _) (Nat.le_refl _)
      · rw [if_neg c3] at h
        by_cases c4 : v1 = (3 : Int32)
        · rw [if_pos c4] at h
          refine g_tab (off := 94) (tgt := 95) (pc := 1) dX12_count_1 (by rw [c4]; decide +kernel) (by decide) (by decide +kernel) ?_
          refine g_aload_n (pc := 95) dX12_count_95 rfl ?_
          obtain ⟨q5, hq5, h⟩ := bnd h
          refine v_callVi hV (Mc := mX12_guardsInAll) (v := q5) (S1 := S) (As := []) (rest := []) (q := (RX12, TX12, 58)) (pc := 96) dX12_count_96 mK_X12_483 mf_X12_guardsInAll rfl k0_53 rfl rfl rfl (Nat.le_of_ble_eq_true rfl) ⟨Nat.le_of_ble_eq_true rfl, Nat.le_of_ble_eq_true rfl⟩ (r_Md_guardsInAll hV hq5) ?_
          cases h
          exact g_iret (pc := 99) dX12_count_99 rfl rfl (Nat.le_refl _) (Nat.le_refl _)
        · rw [if_neg c4] at h
          by_cases c6 : v1 = (4 : Int32)
          · rw [if_pos c6] at h
            refine g_tab (off := 99) (tgt := 100) (pc := 1) dX12_count_1 (by rw [c6]; decide +kernel) (by decide) (by decide +kernel) ?_
            refine g_aload_n (pc := 100) dX12_count_100 rfl ?_
            refine v_getI hV (pc := 101) dX12_count_101 fo_12_13 rfl k0_53 own_53 ?_
            cases h
            exact g_iret (pc := 104) dX12_count_104 rfl rfl (Nat.le_refl _) (Nat.le_refl _)
          · rw [if_neg c6] at h
            by_cases c7 : v1 = (5 : Int32)
            · rw [if_pos c7] at h
              refine g_tab (off := 104) (tgt := 105) (pc := 1) dX12_count_1 (by rw [c7]; decide +kernel) (by decide) (by decide +kernel) ?_
              refine g_aload_n (pc := 105) dX12_count_105 rfl ?_
              refine v_getI hV (pc := 106) dX12_count_106 fo_12_2 rfl k0_53 own_53 ?_
              cases h
              exact g_iret (pc := 109) dX12_count_109 rfl rfl (Nat.le_refl _) (Nat.le_refl _)
            · rw [if_neg c7] at h
              by_cases c8 : v1 = (6 : Int32)
              · rw [if_pos c8] at h
                refine g_tab (off := 109) (tgt := 110) (pc := 1) dX12_count_1 (by rw [c8]; decide +kernel) (by decide) (by decide +kernel) ?_
                refine g_aload_n (pc := 110) dX12_count_110 rfl ?_
                refine v_getI hV (pc := 111) dX12_count_111 fo_12_31 rfl k0_53 own_53 ?_
                cases h
                exact g_iret (pc := 114) dX12_count_114 rfl rfl (Nat.le_refl _) (Nat.le_refl _)
              · rw [if_neg c8] at h
                by_cases c9 : v1 = (7 : Int32)
                · rw [if_pos c9] at h
                  refine g_tab (off := 114) (tgt := 115) (pc := 1) dX12_count_1 (by rw [c9]; decide +kernel) (by decide) (by decide +kernel) ?_
                  refine g_aload_n (pc := 115) dX12_count_115 rfl ?_
                  refine v_getR hV (pc := 116) dX12_count_116 fo_12_27 rfl k0_53 r0_53_27 ?_
                  refine g_sipush (v := 137) (pc := 119) dX12_count_119 (by decide) ?_
                  refine v_ialdK hV (k := 137) (pc := 122) dX12_count_122 k0_70 own_70 (by decide) (by decide) ?_
                  cases h
                  exact g_iret (pc := 123) dX12_count_123 rfl rfl (Nat.le_refl _) (Nat.le_refl _)
                · rw [if_neg c9] at h
                  by_cases c10 : v1 = (8 : Int32)
                  · rw [if_pos c10] at h
                    refine g_tab (off := 123) (tgt := 124) (pc := 1) dX12_count_1 (by rw [c10]; decide +kernel) (by decide) (by decide +kernel) ?_
                    refine g_aload_n (pc := 124) dX12_count_124 rfl ?_
                    refine v_getR hV (pc := 125) dX12_count_125 fo_12_27 rfl k0_53 r0_53_27 ?_
                    refine g_sipush (v := 138) (pc := 128) dX12_count_128 (by decide) ?_
                    refine v_ialdK hV (k := 138) (pc := 131) dX12_count_131 k0_70 own_70 (by decide) (by decide) ?_
                    cases h
                    exact g_iret (pc := 132) dX12_count_132 rfl rfl (Nat.le_refl _) (Nat.le_refl _)
                  · rw [if_neg c10] at h
                    by_cases c11 : v1 = (9 : Int32)
                    · rw [if_pos c11] at h
                      refine g_tab (off := 132) (tgt := 133) (pc := 1) dX12_count_1 (by rw [c11]; decide +kernel) (by decide) (by decide +kernel) ?_
                      refine g_aload_n (pc := 133) dX12_count_133 rfl ?_
                      refine v_getI hV (pc := 134) dX12_count_134 fo_12_32 rfl k0_53 own_53 ?_
                      cases h
                      exact g_iret (pc := 137) dX12_count_137 rfl rfl (Nat.le_refl _) (Nat.le_refl _)
                    · rw [if_neg c11] at h
                      by_cases c12 : v1 = (10 : Int32)
                      · rw [if_pos c12] at h
                        refine g_tab (off := 137) (tgt := 138) (pc := 1) dX12_count_1 (by rw [c12]; decide +kernel) (by decide) (by decide +kernel) ?_
                        refine g_aload_n (pc := 138) dX12_count_138 rfl ?_
                        obtain ⟨q13, hq13, h⟩ := bnd h
                        refine v_callVi hV (Mc := mX12_unknownNow) (v := q13) (S1 := S) (As := []) (rest := []) (q := (RX12, TX12, 58)) (pc := 139) dX12_count_139 mK_X12_458 mf_X12_unknownNow rfl k0_53 rfl rfl rfl (Nat.le_of_ble_eq_true rfl) ⟨Nat.le_of_ble_eq_true rfl, Nat.le_of_ble_eq_true rfl⟩ (r_Md_unknownNow hV hq13) ?_
                        cases h
                        exact g_iret (pc := 142) dX12_count_142 rfl rfl (Nat.le_refl _) (Nat.le_refl _)
                      · rw [if_neg c12] at h
                        by_cases c14 : v1 = (11 : Int32)
                        · rw [if_pos c14] at h
                          refine g_tab (off := 142) (tgt := 143) (pc := 1) dX12_count_1 (by rw [c14]; decide +kernel) (by decide) (by decide +kernel) ?_
                          refine g_aload_n (pc := 143) dX12_count_143 rfl ?_
                          refine v_getI hV (pc := 144) dX12_count_144 fo_12_49 rfl k0_53 own_53 ?_
                          cases h
                          exact g_iret (pc := 147) dX12_count_147 rfl rfl (Nat.le_refl _) (Nat.le_refl _)
                        · rw [if_neg c14] at h
                          by_cases c15 : v1 = (12 : Int32)
                          · rw [if_pos c15] at h
                            refine g_tab (off := 147) (tgt := 148) (pc := 1) dX12_count_1 (by rw [c15]; decide +kernel) (by decide) (by decide +kernel) ?_
                            refine g_aload_n (pc := 148) dX12_count_148 rfl ?_
                            refine v_getR hV (pc := 149) dX12_count_149 fo_12_27 rfl k0_53 r0_53_27 ?_
                            refine g_sipush (v := 139) (pc := 152) dX12_count_152 (by decide) ?_
                            refine v_ialdK hV (k := 139) (pc := 155) dX12_count_155 k0_70 own_70 (by decide) (by decide) ?_
                            cases h
                            exact g_iret (pc := 156) dX12_count_156 rfl rfl (Nat.le_refl _) (Nat.le_refl _)
                          · rw [if_neg c15] at h
                            by_cases c16 : v1 = (13 : Int32)
                            · rw [if_pos c16] at h
                              refine g_tab (off := 156) (tgt := 157) (pc := 1) dX12_count_1 (by rw [c16]; decide +kernel) (by decide) (by decide +kernel) ?_
                              refine g_aload_n (pc := 157) dX12_count_157 rfl ?_
                              refine v_getI hV (pc := 158) dX12_count_158 fo_12_34 rfl k0_53 own_53 ?_
                              cases h
                              exact g_iret (pc := 161) dX12_count_161 rfl rfl (Nat.le_refl _) (Nat.le_refl _)
                            · rw [if_neg c16] at h
                              refine g_tab (off := 161) (tgt := 162) (pc := 1) dX12_count_1 ?_ (by decide) (by decide +kernel) ?_
                              ·
                                refine tab_dflt (ok := [0, 1, 2, 3, 4, 5, 6, 7, 8, 9, 10, 11, 12, 13]) (fun k hk => ?_) (by decide +kernel)
                                have e0 := lv_neT c1 (a := 0) rfl
                                have e1 := lv_neT c2 (a := 1) rfl
                                have e2 := lv_neT c3 (a := 2) rfl
                                have e3 := lv_neT c4 (a := 3) rfl
                                have e4 := lv_neT c6 (a := 4) rfl
                                have e5 := lv_neT c7 (a := 5) rfl
                                have e6 := lv_neT c8 (a := 6) rfl
                                have e7 := lv_neT c9 (a := 7) rfl
                                have e8 := lv_neT c10 (a := 8) rfl
                                have e9 := lv_neT c11 (a := 9) rfl
                                have e10 := lv_neT c12 (a := 10) rfl
                                have e11 := lv_neT c14 (a := 11) rfl
                                have e12 := lv_neT c15 (a := 12) rfl
                                have e13 := lv_neT c16 (a := 13) rfl
                                simp only [List.mem_cons, List.not_mem_nil, or_false] at hk
                                omega
                              ·
                                refine g_ldcw (v := (-1000000)) (pc := 162) dX12_count_162 kI_X12_339 ?_
                                cases h
                                exact g_iret (pc := 165) dX12_count_165 rfl rfl (Nat.le_refl _) (Nat.le_refl _)
def Mo_comesOutNow_29 (s0 : Int32) (S : Sm) : Int32 := (s0 &&& 1)
set_option maxRecDepth 4000 in
theorem t_Mo_comesOutNow_29 {V : Sm → Wd} (hV : VwC V) {l : Launch} {Γ : Gm} {s0 : Int32} {S : Sm} {q : Int32} (h : Mo_comesOutNow_29 s0 S = q) : G mX4_comesOutNow l Γ (rmD 2 0 0) (mQ Γ (some (.int q)) (V S) 0 0) 0 0 29 [none, none] [.int s0] (V S) := by
  unfold Mo_comesOutNow_29 at h
  subst h
  exact g_iret (pc := 29) dX4_comesOutNow_29 rfl rfl (Nat.le_refl _) (Nat.le_refl _)
def Mo_comesOutNow_28 (S : Sm) : Int32 := (Mo_comesOutNow_29 0 S)
set_option maxRecDepth 4000 in
theorem t_Mo_comesOutNow_28 {V : Sm → Wd} (hV : VwC V) {l : Launch} {Γ : Gm}  {S : Sm} {q : Int32} (h : Mo_comesOutNow_28 S = q) : G mX4_comesOutNow l Γ (rmD 2 0 0) (mQ Γ (some (.int q)) (V S) 0 0) 0 0 28 [none, none] [] (V S) := by
  unfold Mo_comesOutNow_28 at h
  refine g_iconst (v := 0) (pc := 28) dX4_comesOutNow_28 (by decide) ?_
  exact t_Mo_comesOutNow_29 hV h
def Mo_comesOutNow (v1 : Int32) (S : Sm) : Int32 := (if (Mo_ofTrain v1 5 S) = 1 then (if (Mo_ofTrain v1 6 S) = (gi S 25 5) then (Mo_comesOutNow_29 1 S) else (Mo_comesOutNow_28 S)) else (Mo_comesOutNow_28 S))
set_option maxRecDepth 4000 in
theorem r_Mo_comesOutNow {V : Sm → Wd} (hV : VwC V) {v1 : Int32} {S : Sm} {q : Int32} (h : Mo_comesOutNow v1 S = q) : Runs 2 mX4_comesOutNow [.ref 25, .int v1] (V S) (some (.int q)) (V S) 0 0 := by
  unfold Mo_comesOutNow at h
  refine Runs.of2 [some (.ref 25), some (.int v1)] 0 rfl rfl (Nat.le_of_ble_eq_true rfl) (fun l Γ => ?_)
  refine g_aload_n (pc := 0) dX4_comesOutNow_0 rfl ?_
  refine g_iload_n (pc := 1) dX4_comesOutNow_1 rfl ?_
  refine g_iconst (v := 5) (pc := 2) dX4_comesOutNow_2 (by decide) ?_
  refine v_callVi hV (Mc := mX4_ofTrain) (v := Mo_ofTrain v1 5 S) (S1 := S) (As := [.int v1, .int 5]) (rest := []) (q := (RX4, TX4, 8)) (pc := 3) dX4_comesOutNow_3 mK_X4_83 mf_X4_ofTrain rfl k0_25 rfl rfl rfl (Nat.le_of_ble_eq_true rfl) ⟨Nat.le_of_ble_eq_true rfl, Nat.le_of_ble_eq_true rfl⟩ (r_Mo_ofTrain hV rfl) ?_
  refine g_iconst (v := 1) (pc := 6) dX4_comesOutNow_6 (by decide) ?_
  refine g_icmp_ne (tgt := 28) (pc := 7) dX4_comesOutNow_7 (by decide) (fun c2 => ?_) (fun c2 => ?_)
  · rw [if_neg c2] at h
    refine g_wk [false, false] rfl ?_
    exact t_Mo_comesOutNow_28 hV h
  · rw [if_pos c2] at h
    refine g_aload_n (pc := 10) dX4_comesOutNow_10 rfl ?_
    refine g_iload_n (pc := 11) dX4_comesOutNow_11 rfl ?_
    refine g_bipush (v := 6) (pc := 12) dX4_comesOutNow_12 (by decide) ?_
    refine v_callVi hV (Mc := mX4_ofTrain) (v := Mo_ofTrain v1 6 S) (S1 := S) (As := [.int v1, .int 6]) (rest := []) (q := (RX4, TX4, 8)) (pc := 14) dX4_comesOutNow_14 mK_X4_83 mf_X4_ofTrain rfl k0_25 rfl rfl rfl (Nat.le_of_ble_eq_true rfl) ⟨Nat.le_of_ble_eq_true rfl, Nat.le_of_ble_eq_true rfl⟩ (r_Mo_ofTrain hV rfl) ?_
    refine g_aload_n (pc := 17) dX4_comesOutNow_17 rfl ?_
    refine v_getI hV (pc := 18) dX4_comesOutNow_18 fo_4_5 rfl k0_25 own_25 ?_
    refine g_icmp_ne (tgt := 28) (pc := 21) dX4_comesOutNow_21 (by decide) (fun c1 => ?_) (fun c1 => ?_)
    · rw [if_neg c1] at h
      refine g_wk [false, false] rfl ?_
      exact t_Mo_comesOutNow_28 hV h
    · rw [if_pos c1] at h
      refine g_iconst (v := 1) (pc := 24) dX4_comesOutNow_24 (by decide) ?_
      refine g_goto (tgt := 29) (pc := 25) dX4_comesOutNow_25 (by decide) ?_
      refine g_wk [false, false] rfl ?_
      exact t_Mo_comesOutNow_29 hV h
def Mo_comeOut (v1 : Int32) (v2 : Int32) (S : Sm) : Sm := (app (Mo_setTrain v1 0 v2 S) fun q1 => (app (Mo_setTrain v1 5 0 q1) fun q2 => (app (puF q2 29 60 (iRem (gi q2 25 7) 60) (((((gi q2 25 5) * 8) + v2) * 8) + v1)) fun S3 => (si S3 25 7 ((gi S3 25 7) + 1)))))
set_option maxRecDepth 4000 in
theorem r_Mo_comeOut {V : Sm → Wd} (hV : VwC V) {v1 : Int32} {v2 : Int32} {S : Sm} {q : Sm} (h : Mo_comeOut v1 v2 S = q) : Runs 2 mX4_comeOut [.ref 25, .int v1, .int v2] (V S) none (V q) 0 0 := by
  unfold Mo_comeOut at h
  refine Runs.of2 [some (.ref 25), some (.int v1), some (.int v2)] 0 rfl rfl (Nat.le_of_ble_eq_true rfl) (fun l Γ => ?_)
  refine g_aload_n (pc := 0) dX4_comeOut_0 rfl ?_
  refine g_iload_n (pc := 1) dX4_comeOut_1 rfl ?_
  refine g_iconst (v := 0) (pc := 2) dX4_comeOut_2 (by decide) ?_
  refine g_iload_n (pc := 3) dX4_comeOut_3 rfl ?_
  obtain ⟨q1, hq1, h⟩ := app_of h
  refine v_callVv hV (Mc := mX4_setTrain) (S1 := q1) (As := [.int v1, .int 0, .int v2]) (rest := []) (q := (RX4, TX4, 8)) (pc := 4) dX4_comeOut_4 mK_X4_80 mf_X4_setTrain rfl k0_25 rfl rfl rfl (Nat.le_of_ble_eq_true rfl) ⟨Nat.le_of_ble_eq_true rfl, Nat.le_of_ble_eq_true rfl⟩ (r_Mo_setTrain hV hq1) ?_
  refine g_aload_n (pc := 7) dX4_comeOut_7 rfl ?_
  refine g_iload_n (pc := 8) dX4_comeOut_8 rfl ?_
  refine g_iconst (v := 5) (pc := 9) dX4_comeOut_9 (by decide) ?_
  refine g_iconst (v := 0) (pc := 10) dX4_comeOut_10 (by decide) ?_
  obtain ⟨q2, hq2, h⟩ := app_of h
  refine v_callVv hV (Mc := mX4_setTrain) (S1 := q2) (As := [.int v1, .int 5, .int 0]) (rest := []) (q := (RX4, TX4, 8)) (pc := 11) dX4_comeOut_11 mK_X4_80 mf_X4_setTrain rfl k0_25 rfl rfl rfl (Nat.le_of_ble_eq_true rfl) ⟨Nat.le_of_ble_eq_true rfl, Nat.le_of_ble_eq_true rfl⟩ (r_Mo_setTrain hV hq2) ?_
  refine g_aload_n (pc := 14) dX4_comeOut_14 rfl ?_
  refine v_getR hV (pc := 15) dX4_comeOut_15 fo_4_3 rfl k0_25 r0_25_3 ?_
  refine g_aload_n (pc := 18) dX4_comeOut_18 rfl ?_
  refine v_getI hV (pc := 19) dX4_comeOut_19 fo_4_7 rfl k0_25 own_25 ?_
  refine g_bipush (v := 60) (pc := 22) dX4_comeOut_22 (by decide) ?_
  refine g_irem (pc := 24) dX4_comeOut_24 (by decide) ?_
  refine g_aload_n (pc := 25) dX4_comeOut_25 rfl ?_
  refine v_getI hV (pc := 26) dX4_comeOut_26 fo_4_5 rfl k0_25 own_25 ?_
  refine g_bipush (v := 8) (pc := 29) dX4_comeOut_29 (by decide) ?_
  refine g_imul (pc := 31) dX4_comeOut_31 ?_
  refine g_iload_n (pc := 32) dX4_comeOut_32 rfl ?_
  refine g_iadd (pc := 33) dX4_comeOut_33 ?_
  refine g_bipush (v := 8) (pc := 34) dX4_comeOut_34 (by decide) ?_
  refine g_imul (pc := 36) dX4_comeOut_36 ?_
  refine g_iload_n (pc := 37) dX4_comeOut_37 rfl ?_
  refine g_iadd (pc := 38) dX4_comeOut_38 ?_
  obtain ⟨S3, hS3, h⟩ := app_of h
  refine v_callNv (Mc := mX11_put) (S1 := S3) (As := [.ref 29, .int (iRem (gi q2 25 7) 60), .int (((((gi q2 25 5) * 8) + v2) * 8) + v1)]) (rest := []) (pc := 39) dX4_comeOut_39 nl_X4_62 mf_X11_put rfl rfl (Nat.le_of_ble_eq_true rfl) ⟨Nat.le_of_ble_eq_true rfl, Nat.le_of_ble_eq_true rfl⟩ (r_put hV k0_29 own_29 (by decide) hS3) ?_
  refine g_aload_n (pc := 42) dX4_comeOut_42 rfl ?_
  refine g_dup (pc := 43) dX4_comeOut_43 rfl ?_
  refine v_getI hV (pc := 44) dX4_comeOut_44 fo_4_7 rfl k0_25 own_25 ?_
  refine g_iconst (v := 1) (pc := 47) dX4_comeOut_47 (by decide) ?_
  refine g_iadd (pc := 48) dX4_comeOut_48 ?_
  refine v_putI hV (pc := 49) dX4_comeOut_49 fo_4_7 rfl k0_25 own_25 rfl ?_
  subst h
  exact g_vret (pc := 52) dX4_comeOut_52 rfl (Nat.le_refl _) (Nat.le_refl _)
def hd_Hr_comeOut_L2 (V : Sm → Wd) (l : Launch) (Γ : Gm) (rF : Option Value) (wF : Wd) (v1 : Int32) (q : Int32 × Sm) : Prop := G mX1_comeOut l Γ (rmD 3 0 0) (mQ Γ rF wF 0 0) 0 0 2 [some (.ref 40), some (.int v1), some (.int q.1), none] [] (V q.2)
def ps_Hr_comeOut_L2 (V : Sm → Wd) (l : Launch) (Γ : Gm) (rF : Option Value) (wF : Wd) (v1 : Int32) (x : Sm) : Prop := (fun (a : Sm) => G mX1_comeOut l Γ (rmD 3 0 0) (mQ Γ rF wF 0 0) 0 0 23 [some (.ref 40), some (.int v1), none, none] [] (V a)) x
def Hr_comeOut_L2 (v1 : Int32) (q : Int32 × Sm) : Option ((Int32 × Sm) ⊕ (Sm)) := (if (8 : Int32) ≤ q.1 then (some (.inr q.2)) else (app (puF q.2 41 8 q.1 0) fun S1 => (some (.inl (q.1 + 1, S1)))))
set_option maxRecDepth 4000 in
theorem t_Hr_comeOut_L2 {V : Sm → Wd} (hV : VwC V) {l : Launch} {Γ : Gm} {rF : Option Value} {wF : Wd} {v1 : Int32} {q : Int32 × Sm} {o : (Int32 × Sm) ⊕ (Sm)} (h : Hr_comeOut_L2 v1 q = some o) (hK : Sum.elim (hd_Hr_comeOut_L2 V l Γ rF wF v1) (ps_Hr_comeOut_L2 V l Γ rF wF v1) o) : hd_Hr_comeOut_L2 V l Γ rF wF v1 q := by
  unfold Hr_comeOut_L2 at h
  unfold hd_Hr_comeOut_L2
  refine g_iload_n (pc := 2) dX1_comeOut_2 rfl ?_
  refine g_bipush (v := 8) (pc := 3) dX1_comeOut_3 (by decide) ?_
  refine g_icmp_ge (tgt := 23) (pc := 5) dX1_comeOut_5 (by decide) (fun c2 => ?_) (fun c2 => ?_)
  · rw [if_pos c2] at h
    refine g_wk [true, true, false, false] rfl ?_
    cases h
    exact hK
  · rw [if_neg c2] at h
    refine g_aload_n (pc := 8) dX1_comeOut_8 rfl ?_
    refine v_getR hV (pc := 9) dX1_comeOut_9 fo_1_4 rfl k0_40 r0_40_4 ?_
    refine g_iload_n (pc := 12) dX1_comeOut_12 rfl ?_
    refine g_iconst (v := 0) (pc := 13) dX1_comeOut_13 (by decide) ?_
    obtain ⟨S1, hS1, h⟩ := app_of h
    refine v_callNv (Mc := mX11_put) (S1 := S1) (As := [.ref 41, .int q.1, .int 0]) (rest := []) (pc := 14) dX1_comeOut_14 nl_X1_91 mf_X11_put rfl rfl (Nat.le_of_ble_eq_true rfl) ⟨Nat.le_of_ble_eq_true rfl, Nat.le_of_ble_eq_true rfl⟩ (r_put hV k0_41 own_41 (by decide) hS1) ?_
    refine g_iinc (v := q.1 + 1) (ls1 := [some (.ref 40), some (.int v1), some (.int (q.1 + 1)), none]) (pc := 17) dX1_comeOut_17 rfl rfl (by decide) rfl ?_
    refine g_goto (tgt := 2) (pc := 20) dX1_comeOut_20 (by decide) ?_
    cases h
    exact hK
set_option maxRecDepth 4000 in
theorem w_Hr_comeOut_L2 {V : Sm → Wd} (hV : VwC V) {l : Launch} {Γ : Gm} {rF : Option Value} {wF : Wd} {v1 : Int32} {k : Nat} {q : Int32 × Sm} {o : Sm} (h : lpN (Hr_comeOut_L2 v1) k q = some o) (hP : ps_Hr_comeOut_L2 V l Γ rF wF v1 o) : hd_Hr_comeOut_L2 V l Γ rF wF v1 q := lpN_ind2 (hd_Hr_comeOut_L2 V l Γ rF wF v1) (ps_Hr_comeOut_L2 V l Γ rF wF v1) (fun s o h hK => t_Hr_comeOut_L2 hV h hK) k q o h hP
def hd_Hr_comeOut_L25 (V : Sm → Wd) (l : Launch) (Γ : Gm) (rF : Option Value) (wF : Wd) (v1 : Int32) (q : Int32 × Sm) : Prop := G mX1_comeOut l Γ (rmD 3 0 0) (mQ Γ rF wF 0 0) 0 0 25 [some (.ref 40), some (.int v1), some (.int q.1), none] [] (V q.2)
def ps_Hr_comeOut_L25 (V : Sm → Wd) (l : Launch) (Γ : Gm) (rF : Option Value) (wF : Wd) (v1 : Int32) (x : Sm) : Prop := (fun (a : Sm) => G mX1_comeOut l Γ (rmD 3 0 0) (mQ Γ rF wF 0 0) 0 0 108 [none, none, none, none] [] (V a)) x
def Hr_comeOut_102_L25 (v1 : Int32) (v2 : Int32) (S : Sm) : Option ((Int32 × Sm) ⊕ (Sm)) := (some (.inl (v2 + 1, S)))
set_option maxRecDepth 4000 in
theorem t_Hr_comeOut_102_L25 {V : Sm → Wd} (hV : VwC V) {l : Launch} {Γ : Gm} {v1 : Int32} {v2 : Int32} {rF : Option Value} {wF : Wd} {S : Sm} {o : (Int32 × Sm) ⊕ (Sm)} (h : Hr_comeOut_102_L25 v1 v2 S = some o) (hK : Sum.elim (hd_Hr_comeOut_L25 V l Γ rF wF v1) (ps_Hr_comeOut_L25 V l Γ rF wF v1) o) : G mX1_comeOut l Γ (rmD 3 0 0) (mQ Γ rF wF 0 0) 0 0 102 [some (.ref 40), some (.int v1), some (.int v2), none] [] (V S) := by
  unfold Hr_comeOut_102_L25 at h
  refine g_iinc (v := v2 + 1) (ls1 := [some (.ref 40), some (.int v1), some (.int (v2 + 1)), none]) (pc := 102) dX1_comeOut_102 rfl rfl (by decide) rfl ?_
  refine g_goto (tgt := 25) (pc := 105) dX1_comeOut_105 (by decide) ?_
  cases h
  exact hK
def Hr_comeOut_74_L25 (v1 : Int32) (v2 : Int32) (s0 : Int32) (S : Sm) : Option ((Int32 × Sm) ⊕ (Sm)) := (app (Mo_comeOut v2 s0 S) fun q4 => (app (puF q4 41 8 s0 ((atF (gi q4 41) 8 s0) + 1)) fun S5 => (Hr_comeOut_102_L25 v1 v2 S5)))
set_option maxRecDepth 4000 in
theorem t_Hr_comeOut_74_L25 {V : Sm → Wd} (hV : VwC V) {l : Launch} {Γ : Gm} {v1 : Int32} {v2 : Int32} {s0 : Int32} {rF : Option Value} {wF : Wd} {S : Sm} {o : (Int32 × Sm) ⊕ (Sm)} (h : Hr_comeOut_74_L25 v1 v2 s0 S = some o) (hK : Sum.elim (hd_Hr_comeOut_L25 V l Γ rF wF v1) (ps_Hr_comeOut_L25 V l Γ rF wF v1) o) : G mX1_comeOut l Γ (rmD 3 0 0) (mQ Γ rF wF 0 0) 0 0 74 [some (.ref 40), some (.int v1), some (.int v2), none] [.int s0] (V S) := by
  unfold Hr_comeOut_74_L25 at h
  refine g_istore_n (ls1 := [some (.ref 40), some (.int v1), some (.int v2), some (.int s0)]) (pc := 74) dX1_comeOut_74 (by decide) rfl ?_
  refine g_aload_n (pc := 75) dX1_comeOut_75 rfl ?_
  refine v_getR hV (pc := 76) dX1_comeOut_76 fo_1_1 rfl k0_40 r0_40_1 ?_
  refine g_iload_n (pc := 79) dX1_comeOut_79 rfl ?_
  refine g_iload_n (pc := 80) dX1_comeOut_80 rfl ?_
  obtain ⟨q4, hq4, h⟩ := app_of h
  refine v_callVv hV (Mc := mX4_comeOut) (S1 := q4) (As := [.int v2, .int s0]) (rest := []) (q := (RX4, TX4, 8)) (pc := 81) dX1_comeOut_81 mK_X1_105 mf_X4_comeOut rfl k0_25 rfl rfl rfl (Nat.le_of_ble_eq_true rfl) ⟨Nat.le_of_ble_eq_true rfl, Nat.le_of_ble_eq_true rfl⟩ (r_Mo_comeOut hV hq4) ?_
  refine g_aload_n (pc := 84) dX1_comeOut_84 rfl ?_
  refine v_getR hV (pc := 85) dX1_comeOut_85 fo_1_4 rfl k0_40 r0_40_4 ?_
  refine g_iload_n (pc := 88) dX1_comeOut_88 rfl ?_
  refine g_aload_n (pc := 89) dX1_comeOut_89 rfl ?_
  refine v_getR hV (pc := 90) dX1_comeOut_90 fo_1_4 rfl k0_40 r0_40_4 ?_
  refine g_iload_n (pc := 93) dX1_comeOut_93 rfl ?_
  refine v_callNi (Mc := mX11_at) (v := atF (gi q4 41) 8 s0) (S1 := q4) (As := [.ref 41, .int s0]) (rest := [.int s0, .ref 41]) (pc := 94) dX1_comeOut_94 nl_X1_108 mf_X11_at rfl rfl (Nat.le_of_ble_eq_true rfl) ⟨Nat.le_of_ble_eq_true rfl, Nat.le_of_ble_eq_true rfl⟩ (r_at hV k0_41 own_41 (by decide)) ?_
  refine g_iconst (v := 1) (pc := 97) dX1_comeOut_97 (by decide) ?_
  refine g_iadd (pc := 98) dX1_comeOut_98 ?_
  obtain ⟨S5, hS5, h⟩ := app_of h
  refine v_callNv (Mc := mX11_put) (S1 := S5) (As := [.ref 41, .int s0, .int ((atF (gi q4 41) 8 s0) + 1)]) (rest := []) (pc := 99) dX1_comeOut_99 nl_X1_91 mf_X11_put rfl rfl (Nat.le_of_ble_eq_true rfl) ⟨Nat.le_of_ble_eq_true rfl, Nat.le_of_ble_eq_true rfl⟩ (r_put hV k0_41 own_41 (by decide) hS5) ?_
  refine g_wk [true, true, true, false] rfl ?_
  exact t_Hr_comeOut_102_L25 hV h hK
def Hr_comeOut_L25 (v1 : Int32) (q : Int32 × Sm) : Option ((Int32 × Sm) ⊕ (Sm)) := (if (Mo_trains q.2) ≤ q.1 then (some (.inr q.2)) else (if (Mo_comesOutNow q.1 q.2) = 0 then (Hr_comeOut_102_L25 v1 q.1 q.2) else (if v1 = 0 then (Hr_comeOut_74_L25 v1 q.1 (Mo_ofTrain q.1 0 q.2) q.2) else ((Hr_draw (Nt_mouths q.2) q.2).bind fun q6 => (Hr_comeOut_74_L25 v1 q.1 q6.1 q6.2)))))
set_option maxRecDepth 4000 in
theorem t_Hr_comeOut_L25 {V : Sm → Wd} (hV : VwC V) {l : Launch} {Γ : Gm} {rF : Option Value} {wF : Wd} {v1 : Int32} {q : Int32 × Sm} {o : (Int32 × Sm) ⊕ (Sm)} (h : Hr_comeOut_L25 v1 q = some o) (hK : Sum.elim (hd_Hr_comeOut_L25 V l Γ rF wF v1) (ps_Hr_comeOut_L25 V l Γ rF wF v1) o) : hd_Hr_comeOut_L25 V l Γ rF wF v1 q := by
  unfold Hr_comeOut_L25 at h
  unfold hd_Hr_comeOut_L25
  refine g_iload_n (pc := 25) dX1_comeOut_25 rfl ?_
  refine g_aload_n (pc := 26) dX1_comeOut_26 rfl ?_
  refine v_getR hV (pc := 27) dX1_comeOut_27 fo_1_1 rfl k0_40 r0_40_1 ?_
  refine v_callVi hV (Mc := mX4_trains) (v := Mo_trains q.2) (S1 := q.2) (As := []) (rest := [.int q.1]) (q := (RX4, TX4, 8)) (pc := 30) dX1_comeOut_30 mK_X1_95 mf_X4_trains rfl k0_25 rfl rfl rfl (Nat.le_of_ble_eq_true rfl) ⟨Nat.le_of_ble_eq_true rfl, Nat.le_of_ble_eq_true rfl⟩ (r_Mo_trains hV rfl) ?_
  refine g_icmp_ge (tgt := 108) (pc := 33) dX1_comeOut_33 (by decide) (fun c9 => ?_) (fun c9 => ?_)
  · rw [if_pos c9] at h
    refine g_wk [false, false, false, false] rfl ?_
    cases h
    exact hK
  · rw [if_neg c9] at h
    refine g_aload_n (pc := 36) dX1_comeOut_36 rfl ?_
    refine v_getR hV (pc := 37) dX1_comeOut_37 fo_1_1 rfl k0_40 r0_40_1 ?_
    refine g_iload_n (pc := 40) dX1_comeOut_40 rfl ?_
    refine v_callVi hV (Mc := mX4_comesOutNow) (v := Mo_comesOutNow q.1 q.2) (S1 := q.2) (As := [.int q.1]) (rest := []) (q := (RX4, TX4, 8)) (pc := 41) dX1_comeOut_41 mK_X1_98 mf_X4_comesOutNow rfl k0_25 rfl rfl rfl (Nat.le_of_ble_eq_true rfl) ⟨Nat.le_of_ble_eq_true rfl, Nat.le_of_ble_eq_true rfl⟩ (r_Mo_comesOutNow hV rfl) ?_
    refine g_if_eq (tgt := 102) (pc := 44) dX1_comeOut_44 (by decide) (fun c8 => ?_) (fun c8 => ?_)
    · rw [if_pos c8] at h
      exact t_Hr_comeOut_102_L25 hV h hK
    · rw [if_neg c8] at h
      refine g_iload_n (pc := 47) dX1_comeOut_47 rfl ?_
      refine g_if_eq (tgt := 65) (pc := 48) dX1_comeOut_48 (by decide) (fun c7 => ?_) (fun c7 => ?_)
      · rw [if_pos c7] at h
        refine g_aload_n (pc := 65) dX1_comeOut_65 rfl ?_
        refine v_getR hV (pc := 66) dX1_comeOut_66 fo_1_1 rfl k0_40 r0_40_1 ?_
        refine g_iload_n (pc := 69) dX1_comeOut_69 rfl ?_
        refine g_iconst (v := 0) (pc := 70) dX1_comeOut_70 (by decide) ?_
        refine v_callVi hV (Mc := mX4_ofTrain) (v := Mo_ofTrain q.1 0 q.2) (S1 := q.2) (As := [.int q.1, .int 0]) (rest := []) (q := (RX4, TX4, 8)) (pc := 71) dX1_comeOut_71 mK_X1_45 mf_X4_ofTrain rfl k0_25 rfl rfl rfl (Nat.le_of_ble_eq_true rfl) ⟨Nat.le_of_ble_eq_true rfl, Nat.le_of_ble_eq_true rfl⟩ (r_Mo_ofTrain hV rfl) ?_
        exact t_Hr_comeOut_74_L25 hV h hK
      · rw [if_neg c7] at h
        refine g_aload_n (pc := 51) dX1_comeOut_51 rfl ?_
        refine g_aload_n (pc := 52) dX1_comeOut_52 rfl ?_
        refine v_getR hV (pc := 53) dX1_comeOut_53 fo_1_0 rfl k0_40 r0_40_0 ?_
        refine v_callVi hV (Mc := mX5_mouths) (v := Nt_mouths q.2) (S1 := q.2) (As := []) (rest := [.ref 40]) (q := (RX5, TX5, 3)) (pc := 56) dX1_comeOut_56 mK_X1_102 mf_X5_mouths rfl k0_10 rfl rfl rfl (Nat.le_of_ble_eq_true rfl) ⟨Nat.le_of_ble_eq_true rfl, Nat.le_of_ble_eq_true rfl⟩ (r_Nt_mouths hV rfl) ?_
        obtain ⟨q6, hq6, h⟩ := bnd h
        refine v_callVi hV (Mc := mX1_draw) (v := q6.1) (S1 := q6.2) (As := [.int (Nt_mouths q.2)]) (rest := []) (q := (RX1, TX1, 7)) (pc := 59) dX1_comeOut_59 mK_X1_66 mf_X1_draw rfl k0_40 rfl rfl rfl (Nat.le_of_ble_eq_true rfl) ⟨Nat.le_of_ble_eq_true rfl, Nat.le_of_ble_eq_true rfl⟩ (r_Hr_draw hV hq6) ?_
        refine g_goto (tgt := 74) (pc := 62) dX1_comeOut_62 (by decide) ?_
        exact t_Hr_comeOut_74_L25 hV h hK
set_option maxRecDepth 4000 in
theorem w_Hr_comeOut_L25 {V : Sm → Wd} (hV : VwC V) {l : Launch} {Γ : Gm} {rF : Option Value} {wF : Wd} {v1 : Int32} {k : Nat} {q : Int32 × Sm} {o : Sm} (h : lpN (Hr_comeOut_L25 v1) k q = some o) (hP : ps_Hr_comeOut_L25 V l Γ rF wF v1 o) : hd_Hr_comeOut_L25 V l Γ rF wF v1 q := lpN_ind2 (hd_Hr_comeOut_L25 V l Γ rF wF v1) (ps_Hr_comeOut_L25 V l Γ rF wF v1) (fun s o h hK => t_Hr_comeOut_L25 hV h hK) k q o h hP
def Hr_comeOut (v1 : Int32) (S : Sm) : Option (Sm) := ((lpN (Hr_comeOut_L2 v1) FU (0, S)).bind fun q3 => ((lpN (Hr_comeOut_L25 v1) FU (0, q3)).bind fun q10 => (some q10)))
set_option maxRecDepth 4000 in
theorem r_Hr_comeOut {V : Sm → Wd} (hV : VwC V) {v1 : Int32} {S : Sm} {q : Sm} (h : Hr_comeOut v1 S = some q) : Runs 3 mX1_comeOut [.ref 40, .int v1] (V S) none (V q) 0 0 := by
  unfold Hr_comeOut at h
  refine Runs.of2 [some (.ref 40), some (.int v1), none, none] 2 rfl rfl (Nat.le_of_ble_eq_true rfl) (fun l Γ => ?_)
  refine g_iconst (v := 0) (pc := 0) dX1_comeOut_0 (by decide) ?_
  refine g_istore_n (ls1 := [some (.ref 40), some (.int v1), some (.int 0), none]) (pc := 1) dX1_comeOut_1 (by decide) rfl ?_
  obtain ⟨q3, hqq3, h⟩ := bnd h
  refine w_Hr_comeOut_L2 hV hqq3 ?_
  unfold ps_Hr_comeOut_L2
  show G _ _ _ _ _ _ _ _ _ _ _
  refine g_iconst (v := 0) (pc := 23) dX1_comeOut_23 (by decide) ?_
  refine g_istore_n (ls1 := [some (.ref 40), some (.int v1), some (.int 0), none]) (pc := 24) dX1_comeOut_24 (by decide) rfl ?_
  obtain ⟨q10, hqq10, h⟩ := bnd h
  refine w_Hr_comeOut_L25 hV hqq10 ?_
  unfold ps_Hr_comeOut_L25
  show G _ _ _ _ _ _ _ _ _ _ _
  cases h
  exact g_vret (pc := 108) dX1_comeOut_108 rfl (Nat.le_refl _) (Nat.le_refl _)
def Mo_isReady_36 (s0 : Int32) (S : Sm) : Int32 := (s0 &&& 1)
set_option maxRecDepth 4000 in
theorem t_Mo_isReady_36 {V : Sm → Wd} (hV : VwC V) {l : Launch} {Γ : Gm} {s0 : Int32} {S : Sm} {q : Int32} (h : Mo_isReady_36 s0 S = q) : G mX4_isReady l Γ (rmD 2 0 0) (mQ Γ (some (.int q)) (V S) 0 0) 0 0 36 [none, none] [.int s0] (V S) := by
  unfold Mo_isReady_36 at h
  subst h
  exact g_iret (pc := 36) dX4_isReady_36 rfl rfl (Nat.le_refl _) (Nat.le_refl _)
def Mo_isReady_35 (S : Sm) : Int32 := (Mo_isReady_36 0 S)
set_option maxRecDepth 4000 in
theorem t_Mo_isReady_35 {V : Sm → Wd} (hV : VwC V) {l : Launch} {Γ : Gm}  {S : Sm} {q : Int32} (h : Mo_isReady_35 S = q) : G mX4_isReady l Γ (rmD 2 0 0) (mQ Γ (some (.int q)) (V S) 0 0) 0 0 35 [none, none] [] (V S) := by
  unfold Mo_isReady_35 at h
  refine g_iconst (v := 0) (pc := 35) dX4_isReady_35 (by decide) ?_
  exact t_Mo_isReady_36 hV h
def Mo_isReady (v1 : Int32) (S : Sm) : Int32 := (if (Mo_ofTrain v1 5 S) = 0 then (if (Mo_ofTrain v1 4 S) ≤ 0 then (Mo_isReady_35 S) else (if (gi S 25 5) < (Mo_ofTrain v1 2 S) then (Mo_isReady_35 S) else (Mo_isReady_36 1 S))) else (Mo_isReady_35 S))
set_option maxRecDepth 4000 in
theorem r_Mo_isReady {V : Sm → Wd} (hV : VwC V) {v1 : Int32} {S : Sm} {q : Int32} (h : Mo_isReady v1 S = q) : Runs 2 mX4_isReady [.ref 25, .int v1] (V S) (some (.int q)) (V S) 0 0 := by
  unfold Mo_isReady at h
  refine Runs.of2 [some (.ref 25), some (.int v1)] 0 rfl rfl (Nat.le_of_ble_eq_true rfl) (fun l Γ => ?_)
  refine g_aload_n (pc := 0) dX4_isReady_0 rfl ?_
  refine g_iload_n (pc := 1) dX4_isReady_1 rfl ?_
  refine g_iconst (v := 5) (pc := 2) dX4_isReady_2 (by decide) ?_
  refine v_callVi hV (Mc := mX4_ofTrain) (v := Mo_ofTrain v1 5 S) (S1 := S) (As := [.int v1, .int 5]) (rest := []) (q := (RX4, TX4, 8)) (pc := 3) dX4_isReady_3 mK_X4_83 mf_X4_ofTrain rfl k0_25 rfl rfl rfl (Nat.le_of_ble_eq_true rfl) ⟨Nat.le_of_ble_eq_true rfl, Nat.le_of_ble_eq_true rfl⟩ (r_Mo_ofTrain hV rfl) ?_
  refine g_if_ne (tgt := 35) (pc := 6) dX4_isReady_6 (by decide) (fun c3 => ?_) (fun c3 => ?_)
  · rw [if_neg c3] at h
    refine g_wk [false, false] rfl ?_
    exact t_Mo_isReady_35 hV h
  · rw [if_pos c3] at h
    refine g_aload_n (pc := 9) dX4_isReady_9 rfl ?_
    refine g_iload_n (pc := 10) dX4_isReady_10 rfl ?_
    refine g_iconst (v := 4) (pc := 11) dX4_isReady_11 (by decide) ?_
    refine v_callVi hV (Mc := mX4_ofTrain) (v := Mo_ofTrain v1 4 S) (S1 := S) (As := [.int v1, .int 4]) (rest := []) (q := (RX4, TX4, 8)) (pc := 12) dX4_isReady_12 mK_X4_83 mf_X4_ofTrain rfl k0_25 rfl rfl rfl (Nat.le_of_ble_eq_true rfl) ⟨Nat.le_of_ble_eq_true rfl, Nat.le_of_ble_eq_true rfl⟩ (r_Mo_ofTrain hV rfl) ?_
    refine g_if_le (tgt := 35) (pc := 15) dX4_isReady_15 (by decide) (fun c2 => ?_) (fun c2 => ?_)
    · rw [if_pos c2] at h
      refine g_wk [false, false] rfl ?_
      exact t_Mo_isReady_35 hV h
    · rw [if_neg c2] at h
      refine g_aload_n (pc := 18) dX4_isReady_18 rfl ?_
      refine g_iload_n (pc := 19) dX4_isReady_19 rfl ?_
      refine g_iconst (v := 2) (pc := 20) dX4_isReady_20 (by decide) ?_
      refine v_callVi hV (Mc := mX4_ofTrain) (v := Mo_ofTrain v1 2 S) (S1 := S) (As := [.int v1, .int 2]) (rest := []) (q := (RX4, TX4, 8)) (pc := 21) dX4_isReady_21 mK_X4_83 mf_X4_ofTrain rfl k0_25 rfl rfl rfl (Nat.le_of_ble_eq_true rfl) ⟨Nat.le_of_ble_eq_true rfl, Nat.le_of_ble_eq_true rfl⟩ (r_Mo_ofTrain hV rfl) ?_
      refine g_aload_n (pc := 24) dX4_isReady_24 rfl ?_
      refine v_getI hV (pc := 25) dX4_isReady_25 fo_4_5 rfl k0_25 own_25 ?_
      refine g_icmp_gt (tgt := 35) (pc := 28) dX4_isReady_28 (by decide) (fun c1 => ?_) (fun c1 => ?_)
      · rw [if_pos c1] at h
        refine g_wk [false, false] rfl ?_
        exact t_Mo_isReady_35 hV h
      · rw [if_neg c1] at h
        refine g_iconst (v := 1) (pc := 31) dX4_isReady_31 (by decide) ?_
        refine g_goto (tgt := 36) (pc := 32) dX4_isReady_32 (by decide) ?_
        refine g_wk [false, false] rfl ?_
        exact t_Mo_isReady_36 hV h
def Mo_enter (v1 : Int32) (v2 : Int32) (v3 : Int32) (S : Sm) : Sm := (app (Mo_setTrain v1 0 v2 S) fun q1 => (app (Mo_setTrain v1 6 ((gi q1 25 5) + v3) q1) fun q2 => (app (Mo_setTrain v1 5 1 q2) fun q3 => (app (Mo_setTrain v1 4 ((Mo_ofTrain v1 4 q3) - 1) q3) fun q4 => q4))))
set_option maxRecDepth 4000 in
theorem r_Mo_enter {V : Sm → Wd} (hV : VwC V) {v1 : Int32} {v2 : Int32} {v3 : Int32} {S : Sm} {q : Sm} (h : Mo_enter v1 v2 v3 S = q) : Runs 2 mX4_enter [.ref 25, .int v1, .int v2, .int v3] (V S) none (V q) 0 0 := by
  unfold Mo_enter at h
  refine Runs.of2 [some (.ref 25), some (.int v1), some (.int v2), some (.int v3)] 0 rfl rfl (Nat.le_of_ble_eq_true rfl) (fun l Γ => ?_)
  refine g_aload_n (pc := 0) dX4_enter_0 rfl ?_
  refine g_iload_n (pc := 1) dX4_enter_1 rfl ?_
  refine g_iconst (v := 0) (pc := 2) dX4_enter_2 (by decide) ?_
  refine g_iload_n (pc := 3) dX4_enter_3 rfl ?_
  obtain ⟨q1, hq1, h⟩ := app_of h
  refine v_callVv hV (Mc := mX4_setTrain) (S1 := q1) (As := [.int v1, .int 0, .int v2]) (rest := []) (q := (RX4, TX4, 8)) (pc := 4) dX4_enter_4 mK_X4_80 mf_X4_setTrain rfl k0_25 rfl rfl rfl (Nat.le_of_ble_eq_true rfl) ⟨Nat.le_of_ble_eq_true rfl, Nat.le_of_ble_eq_true rfl⟩ (r_Mo_setTrain hV hq1) ?_
  refine g_aload_n (pc := 7) dX4_enter_7 rfl ?_
  refine g_iload_n (pc := 8) dX4_enter_8 rfl ?_
  refine g_bipush (v := 6) (pc := 9) dX4_enter_9 (by decide) ?_
  refine g_aload_n (pc := 11) dX4_enter_11 rfl ?_
  refine v_getI hV (pc := 12) dX4_enter_12 fo_4_5 rfl k0_25 own_25 ?_
  refine g_iload_n (pc := 15) dX4_enter_15 rfl ?_
  refine g_iadd (pc := 16) dX4_enter_16 ?_
  obtain ⟨q2, hq2, h⟩ := app_of h
  refine v_callVv hV (Mc := mX4_setTrain) (S1 := q2) (As := [.int v1, .int 6, .int ((gi q1 25 5) + v3)]) (rest := []) (q := (RX4, TX4, 8)) (pc := 17) dX4_enter_17 mK_X4_80 mf_X4_setTrain rfl k0_25 rfl rfl rfl (Nat.le_of_ble_eq_true rfl) ⟨Nat.le_of_ble_eq_true rfl, Nat.le_of_ble_eq_true rfl⟩ (r_Mo_setTrain hV hq2) ?_
  refine g_aload_n (pc := 20) dX4_enter_20 rfl ?_
  refine g_iload_n (pc := 21) dX4_enter_21 rfl ?_
  refine g_iconst (v := 5) (pc := 22) dX4_enter_22 (by decide) ?_
  refine g_iconst (v := 1) (pc := 23) dX4_enter_23 (by decide) ?_
  obtain ⟨q3, hq3, h⟩ := app_of h
  refine v_callVv hV (Mc := mX4_setTrain) (S1 := q3) (As := [.int v1, .int 5, .int 1]) (rest := []) (q := (RX4, TX4, 8)) (pc := 24) dX4_enter_24 mK_X4_80 mf_X4_setTrain rfl k0_25 rfl rfl rfl (Nat.le_of_ble_eq_true rfl) ⟨Nat.le_of_ble_eq_true rfl, Nat.le_of_ble_eq_true rfl⟩ (r_Mo_setTrain hV hq3) ?_
  refine g_aload_n (pc := 27) dX4_enter_27 rfl ?_
  refine g_iload_n (pc := 28) dX4_enter_28 rfl ?_
  refine g_iconst (v := 4) (pc := 29) dX4_enter_29 (by decide) ?_
  refine g_aload_n (pc := 30) dX4_enter_30 rfl ?_
  refine g_iload_n (pc := 31) dX4_enter_31 rfl ?_
  refine g_iconst (v := 4) (pc := 32) dX4_enter_32 (by decide) ?_
  refine v_callVi hV (Mc := mX4_ofTrain) (v := Mo_ofTrain v1 4 q3) (S1 := q3) (As := [.int v1, .int 4]) (rest := [.int 4, .int v1, .ref 25]) (q := (RX4, TX4, 8)) (pc := 33) dX4_enter_33 mK_X4_83 mf_X4_ofTrain rfl k0_25 rfl rfl rfl (Nat.le_of_ble_eq_true rfl) ⟨Nat.le_of_ble_eq_true rfl, Nat.le_of_ble_eq_true rfl⟩ (r_Mo_ofTrain hV rfl) ?_
  refine g_iconst (v := 1) (pc := 36) dX4_enter_36 (by decide) ?_
  refine g_isub (pc := 37) dX4_enter_37 ?_
  obtain ⟨q4, hq4, h⟩ := app_of h
  refine v_callVv hV (Mc := mX4_setTrain) (S1 := q4) (As := [.int v1, .int 4, .int ((Mo_ofTrain v1 4 q3) - 1)]) (rest := []) (q := (RX4, TX4, 8)) (pc := 38) dX4_enter_38 mK_X4_80 mf_X4_setTrain rfl k0_25 rfl rfl rfl (Nat.le_of_ble_eq_true rfl) ⟨Nat.le_of_ble_eq_true rfl, Nat.le_of_ble_eq_true rfl⟩ (r_Mo_setTrain hV hq4) ?_
  subst h
  exact g_vret (pc := 41) dX4_enter_41 rfl (Nat.le_refl _) (Nat.le_refl _)
def hd_Hr_goIn_L2 (V : Sm → Wd) (l : Launch) (Γ : Gm) (rF : Option Value) (wF : Wd)  (q : Int32 × Sm) : Prop := G mX1_goIn l Γ (rmD 3 0 0) (mQ Γ rF wF 0 0) 0 0 2 [some (.ref 40), some (.int q.1), none, none] [] (V q.2)
def ps_Hr_goIn_L2 (V : Sm → Wd) (l : Launch) (Γ : Gm) (rF : Option Value) (wF : Wd)  (x : Sm) : Prop := (fun (a : Sm) => G mX1_goIn l Γ (rmD 3 0 0) (mQ Γ rF wF 0 0) 0 0 72 [none, none, none, none] [] (V a)) x
def Hr_goIn_66_L2 (v1 : Int32) (S : Sm) : Option ((Int32 × Sm) ⊕ (Sm)) := (some (.inl (v1 + 1, S)))
set_option maxRecDepth 4000 in
theorem t_Hr_goIn_66_L2 {V : Sm → Wd} (hV : VwC V) {l : Launch} {Γ : Gm} {v1 : Int32} {rF : Option Value} {wF : Wd} {S : Sm} {o : (Int32 × Sm) ⊕ (Sm)} (h : Hr_goIn_66_L2 v1 S = some o) (hK : Sum.elim (hd_Hr_goIn_L2 V l Γ rF wF) (ps_Hr_goIn_L2 V l Γ rF wF) o) : G mX1_goIn l Γ (rmD 3 0 0) (mQ Γ rF wF 0 0) 0 0 66 [some (.ref 40), some (.int v1), none, none] [] (V S) := by
  unfold Hr_goIn_66_L2 at h
  refine g_iinc (v := v1 + 1) (ls1 := [some (.ref 40), some (.int (v1 + 1)), none, none]) (pc := 66) dX1_goIn_66 rfl rfl (by decide) rfl ?_
  refine g_goto (tgt := 2) (pc := 69) dX1_goIn_69 (by decide) ?_
  cases h
  exact hK
def Hr_goIn_L2 (q : Int32 × Sm) : Option ((Int32 × Sm) ⊕ (Sm)) := (if (Mo_trains q.2) ≤ q.1 then (some (.inr q.2)) else (if (Mo_isReady q.1 q.2) = 0 then (Hr_goIn_66_L2 q.1 q.2) else ((Hr_lampOf q.1 q.2).bind fun q1 => (app (Mo_enter q.1 (Wy_leadsTo (Mo_ofTrain q.1 0 q.2) q1 q.2) (Wy_takes (Mo_ofTrain q.1 0 q.2) q1 q.2) q.2) fun q2 => (Hr_goIn_66_L2 q.1 q2)))))
set_option maxRecDepth 4000 in
theorem t_Hr_goIn_L2 {V : Sm → Wd} (hV : VwC V) {l : Launch} {Γ : Gm} {rF : Option Value} {wF : Wd}  {q : Int32 × Sm} {o : (Int32 × Sm) ⊕ (Sm)} (h : Hr_goIn_L2 q = some o) (hK : Sum.elim (hd_Hr_goIn_L2 V l Γ rF wF) (ps_Hr_goIn_L2 V l Γ rF wF) o) : hd_Hr_goIn_L2 V l Γ rF wF q := by
  unfold Hr_goIn_L2 at h
  unfold hd_Hr_goIn_L2
  refine g_iload_n (pc := 2) dX1_goIn_2 rfl ?_
  refine g_aload_n (pc := 3) dX1_goIn_3 rfl ?_
  refine v_getR hV (pc := 4) dX1_goIn_4 fo_1_1 rfl k0_40 r0_40_1 ?_
  refine v_callVi hV (Mc := mX4_trains) (v := Mo_trains q.2) (S1 := q.2) (As := []) (rest := [.int q.1]) (q := (RX4, TX4, 8)) (pc := 7) dX1_goIn_7 mK_X1_95 mf_X4_trains rfl k0_25 rfl rfl rfl (Nat.le_of_ble_eq_true rfl) ⟨Nat.le_of_ble_eq_true rfl, Nat.le_of_ble_eq_true rfl⟩ (r_Mo_trains hV rfl) ?_
  refine g_icmp_ge (tgt := 72) (pc := 10) dX1_goIn_10 (by decide) (fun c4 => ?_) (fun c4 => ?_)
  · rw [if_pos c4] at h
    refine g_wk [false, false, false, false] rfl ?_
    cases h
    exact hK
  · rw [if_neg c4] at h
    refine g_aload_n (pc := 13) dX1_goIn_13 rfl ?_
    refine v_getR hV (pc := 14) dX1_goIn_14 fo_1_1 rfl k0_40 r0_40_1 ?_
    refine g_iload_n (pc := 17) dX1_goIn_17 rfl ?_
    refine v_callVi hV (Mc := mX4_isReady) (v := Mo_isReady q.1 q.2) (S1 := q.2) (As := [.int q.1]) (rest := []) (q := (RX4, TX4, 8)) (pc := 18) dX1_goIn_18 mK_X1_112 mf_X4_isReady rfl k0_25 rfl rfl rfl (Nat.le_of_ble_eq_true rfl) ⟨Nat.le_of_ble_eq_true rfl, Nat.le_of_ble_eq_true rfl⟩ (r_Mo_isReady hV rfl) ?_
    refine g_if_eq (tgt := 66) (pc := 21) dX1_goIn_21 (by decide) (fun c3 => ?_) (fun c3 => ?_)
    · rw [if_pos c3] at h
      exact t_Hr_goIn_66_L2 hV h hK
    · rw [if_neg c3] at h
      refine g_aload_n (pc := 24) dX1_goIn_24 rfl ?_
      refine v_getR hV (pc := 25) dX1_goIn_25 fo_1_1 rfl k0_40 r0_40_1 ?_
      refine g_iload_n (pc := 28) dX1_goIn_28 rfl ?_
      refine g_iconst (v := 0) (pc := 29) dX1_goIn_29 (by decide) ?_
      refine v_callVi hV (Mc := mX4_ofTrain) (v := Mo_ofTrain q.1 0 q.2) (S1 := q.2) (As := [.int q.1, .int 0]) (rest := []) (q := (RX4, TX4, 8)) (pc := 30) dX1_goIn_30 mK_X1_45 mf_X4_ofTrain rfl k0_25 rfl rfl rfl (Nat.le_of_ble_eq_true rfl) ⟨Nat.le_of_ble_eq_true rfl, Nat.le_of_ble_eq_true rfl⟩ (r_Mo_ofTrain hV rfl) ?_
      refine g_istore_n (ls1 := [some (.ref 40), some (.int q.1), some (.int (Mo_ofTrain q.1 0 q.2)), none]) (pc := 33) dX1_goIn_33 (by decide) rfl ?_
      refine g_aload_n (pc := 34) dX1_goIn_34 rfl ?_
      refine g_iload_n (pc := 35) dX1_goIn_35 rfl ?_
      obtain ⟨q1, hq1, h⟩ := bnd h
      refine v_callVi hV (Mc := mX1_lampOf) (v := q1) (S1 := q.2) (As := [.int q.1]) (rest := []) (q := (RX1, TX1, 7)) (pc := 36) dX1_goIn_36 mK_X1_115 mf_X1_lampOf rfl k0_40 rfl rfl rfl (Nat.le_of_ble_eq_true rfl) ⟨Nat.le_of_ble_eq_true rfl, Nat.le_of_ble_eq_true rfl⟩ (r_Hr_lampOf hV hq1) ?_
      refine g_istore_n (ls1 := [some (.ref 40), some (.int q.1), some (.int (Mo_ofTrain q.1 0 q.2)), some (.int q1)]) (pc := 39) dX1_goIn_39 (by decide) rfl ?_
      refine g_aload_n (pc := 40) dX1_goIn_40 rfl ?_
      refine v_getR hV (pc := 41) dX1_goIn_41 fo_1_1 rfl k0_40 r0_40_1 ?_
      refine g_iload_n (pc := 44) dX1_goIn_44 rfl ?_
      refine g_aload_n (pc := 45) dX1_goIn_45 rfl ?_
      refine v_getR hV (pc := 46) dX1_goIn_46 fo_1_3 rfl k0_40 r0_40_3 ?_
      refine g_iload_n (pc := 49) dX1_goIn_49 rfl ?_
      refine g_iload_n (pc := 50) dX1_goIn_50 rfl ?_
      refine v_callVi hV (Mc := mX10_leadsTo) (v := Wy_leadsTo (Mo_ofTrain q.1 0 q.2) q1 q.2) (S1 := q.2) (As := [.int (Mo_ofTrain q.1 0 q.2), .int q1]) (rest := [.int q.1, .ref 25]) (q := (RX10, TX10, 5)) (pc := 51) dX1_goIn_51 mK_X1_118 mf_X10_leadsTo rfl k0_37 rfl rfl rfl (Nat.le_of_ble_eq_true rfl) ⟨Nat.le_of_ble_eq_true rfl, Nat.le_of_ble_eq_true rfl⟩ (r_Wy_leadsTo hV rfl) ?_
      refine g_aload_n (pc := 54) dX1_goIn_54 rfl ?_
      refine v_getR hV (pc := 55) dX1_goIn_55 fo_1_3 rfl k0_40 r0_40_3 ?_
      refine g_iload_n (pc := 58) dX1_goIn_58 rfl ?_
      refine g_iload_n (pc := 59) dX1_goIn_59 rfl ?_
      refine v_callVi hV (Mc := mX10_takes) (v := Wy_takes (Mo_ofTrain q.1 0 q.2) q1 q.2) (S1 := q.2) (As := [.int (Mo_ofTrain q.1 0 q.2), .int q1]) (rest := [.int (Wy_leadsTo (Mo_ofTrain q.1 0 q.2) q1 q.2), .int q.1, .ref 25]) (q := (RX10, TX10, 5)) (pc := 60) dX1_goIn_60 mK_X1_123 mf_X10_takes rfl k0_37 rfl rfl rfl (Nat.le_of_ble_eq_true rfl) ⟨Nat.le_of_ble_eq_true rfl, Nat.le_of_ble_eq_true rfl⟩ (r_Wy_takes hV rfl) ?_
      obtain ⟨q2, hq2, h⟩ := app_of h
      refine v_callVv hV (Mc := mX4_enter) (S1 := q2) (As := [.int q.1, .int (Wy_leadsTo (Mo_ofTrain q.1 0 q.2) q1 q.2), .int (Wy_takes (Mo_ofTrain q.1 0 q.2) q1 q.2)]) (rest := []) (q := (RX4, TX4, 8)) (pc := 63) dX1_goIn_63 mK_X1_126 mf_X4_enter rfl k0_25 rfl rfl rfl (Nat.le_of_ble_eq_true rfl) ⟨Nat.le_of_ble_eq_true rfl, Nat.le_of_ble_eq_true rfl⟩ (r_Mo_enter hV hq2) ?_
      refine g_wk [true, true, false, false] rfl ?_
      exact t_Hr_goIn_66_L2 hV h hK
set_option maxRecDepth 4000 in
theorem w_Hr_goIn_L2 {V : Sm → Wd} (hV : VwC V) {l : Launch} {Γ : Gm} {rF : Option Value} {wF : Wd}  {k : Nat} {q : Int32 × Sm} {o : Sm} (h : lpN (Hr_goIn_L2) k q = some o) (hP : ps_Hr_goIn_L2 V l Γ rF wF o) : hd_Hr_goIn_L2 V l Γ rF wF q := lpN_ind2 (hd_Hr_goIn_L2 V l Γ rF wF) (ps_Hr_goIn_L2 V l Γ rF wF) (fun s o h hK => t_Hr_goIn_L2 hV h hK) k q o h hP
def Hr_goIn (S : Sm) : Option (Sm) := ((lpN (Hr_goIn_L2) FU (0, S)).bind fun q5 => (some q5))
set_option maxRecDepth 4000 in
theorem r_Hr_goIn {V : Sm → Wd} (hV : VwC V)  {S : Sm} {q : Sm} (h : Hr_goIn S = some q) : Runs 3 mX1_goIn [.ref 40] (V S) none (V q) 0 0 := by
  unfold Hr_goIn at h
  refine Runs.of2 [some (.ref 40), none, none, none] 3 rfl rfl (Nat.le_of_ble_eq_true rfl) (fun l Γ => ?_)
  refine g_iconst (v := 0) (pc := 0) dX1_goIn_0 (by decide) ?_
  refine g_istore_n (ls1 := [some (.ref 40), some (.int 0), none, none]) (pc := 1) dX1_goIn_1 (by decide) rfl ?_
  obtain ⟨q5, hqq5, h⟩ := bnd h
  refine w_Hr_goIn_L2 hV hqq5 ?_
  unfold ps_Hr_goIn_L2
  show G _ _ _ _ _ _ _ _ _ _ _
  cases h
  exact g_vret (pc := 72) dX1_goIn_72 rfl (Nat.le_refl _) (Nat.le_refl _)
def Mo_addMeetings (v1 : Int32) (S : Sm) : Sm := (si S 25 6 ((gi S 25 6) + v1))
set_option maxRecDepth 4000 in
theorem r_Mo_addMeetings {V : Sm → Wd} (hV : VwC V) {v1 : Int32} {S : Sm} {q : Sm} (h : Mo_addMeetings v1 S = q) : Runs 0 mX4_addMeetings [.ref 25, .int v1] (V S) none (V q) 0 0 := by
  unfold Mo_addMeetings at h
  refine Runs.of2 [some (.ref 25), some (.int v1)] 0 rfl rfl (Nat.le_of_ble_eq_true rfl) (fun l Γ => ?_)
  refine g_aload_n (pc := 0) dX4_addMeetings_0 rfl ?_
  refine g_dup (pc := 1) dX4_addMeetings_1 rfl ?_
  refine v_getI hV (pc := 2) dX4_addMeetings_2 fo_4_6 rfl k0_25 own_25 ?_
  refine g_iload_n (pc := 5) dX4_addMeetings_5 rfl ?_
  refine g_iadd (pc := 6) dX4_addMeetings_6 ?_
  refine v_putI hV (pc := 7) dX4_addMeetings_7 fo_4_6 rfl k0_25 own_25 rfl ?_
  subst h
  exact g_vret (pc := 10) dX4_addMeetings_10 rfl (Nat.le_refl _) (Nat.le_refl _)
def hd_Hr_meet_L2 (V : Sm → Wd) (l : Launch) (Γ : Gm) (rF : Option Value) (wF : Wd)  (q : Int32 × Sm) : Prop := G mX1_meet l Γ (rmD 1 0 0) (mQ Γ rF wF 0 0) 0 0 2 [some (.ref 40), some (.int q.1), none] [] (V q.2)
def ps_Hr_meet_L2 (V : Sm → Wd) (l : Launch) (Γ : Gm) (rF : Option Value) (wF : Wd)  (x : Sm) : Prop := (fun (a : Sm) => G mX1_meet l Γ (rmD 1 0 0) (mQ Γ rF wF 0 0) 0 0 37 [none, none, none] [] (V a)) x
def Hr_meet_L2 (q : Int32 × Sm) : Option ((Int32 × Sm) ⊕ (Sm)) := (if (8 : Int32) ≤ q.1 then (some (.inr q.2)) else (app (Mo_addMeetings (((atF (gi q.2 41) 8 q.1) * ((atF (gi q.2 41) 8 q.1) - 1)) / 2) q.2) fun q1 => (some (.inl (q.1 + 1, q1)))))
set_option maxRecDepth 4000 in
theorem t_Hr_meet_L2 {V : Sm → Wd} (hV : VwC V) {l : Launch} {Γ : Gm} {rF : Option Value} {wF : Wd}  {q : Int32 × Sm} {o : (Int32 × Sm) ⊕ (Sm)} (h : Hr_meet_L2 q = some o) (hK : Sum.elim (hd_Hr_meet_L2 V l Γ rF wF) (ps_Hr_meet_L2 V l Γ rF wF) o) : hd_Hr_meet_L2 V l Γ rF wF q := by
  unfold Hr_meet_L2 at h
  unfold hd_Hr_meet_L2
  refine g_iload_n (pc := 2) dX1_meet_2 rfl ?_
  refine g_bipush (v := 8) (pc := 3) dX1_meet_3 (by decide) ?_
  refine g_icmp_ge (tgt := 37) (pc := 5) dX1_meet_5 (by decide) (fun c2 => ?_) (fun c2 => ?_)
  · rw [if_pos c2] at h
    refine g_wk [false, false, false] rfl ?_
    cases h
    exact hK
  · rw [if_neg c2] at h
    refine g_aload_n (pc := 8) dX1_meet_8 rfl ?_
    refine v_getR hV (pc := 9) dX1_meet_9 fo_1_4 rfl k0_40 r0_40_4 ?_
    refine g_iload_n (pc := 12) dX1_meet_12 rfl ?_
    refine v_callNi (Mc := mX11_at) (v := atF (gi q.2 41) 8 q.1) (S1 := q.2) (As := [.ref 41, .int q.1]) (rest := []) (pc := 13) dX1_meet_13 nl_X1_108 mf_X11_at rfl rfl (Nat.le_of_ble_eq_true rfl) ⟨Nat.le_of_ble_eq_true rfl, Nat.le_of_ble_eq_true rfl⟩ (r_at hV k0_41 own_41 (by decide)) ?_
    refine g_istore_n (ls1 := [some (.ref 40), some (.int q.1), some (.int (atF (gi q.2 41) 8 q.1))]) (pc := 16) dX1_meet_16 (by decide) rfl ?_
    refine g_aload_n (pc := 17) dX1_meet_17 rfl ?_
    refine v_getR hV (pc := 18) dX1_meet_18 fo_1_1 rfl k0_40 r0_40_1 ?_
    refine g_iload_n (pc := 21) dX1_meet_21 rfl ?_
    refine g_iload_n (pc := 22) dX1_meet_22 rfl ?_
    refine g_iconst (v := 1) (pc := 23) dX1_meet_23 (by decide) ?_
    refine g_isub (pc := 24) dX1_meet_24 ?_
    refine g_imul (pc := 25) dX1_meet_25 ?_
    refine g_iconst (v := 2) (pc := 26) dX1_meet_26 (by decide) ?_
    refine g_idiv (pc := 27) dX1_meet_27 (by decide) ?_
    obtain ⟨q1, hq1, h⟩ := app_of h
    refine v_callVv hV (Mc := mX4_addMeetings) (S1 := q1) (As := [.int (((atF (gi q.2 41) 8 q.1) * ((atF (gi q.2 41) 8 q.1) - 1)) / 2)]) (rest := []) (q := (RX4, TX4, 8)) (pc := 28) dX1_meet_28 mK_X1_130 mf_X4_addMeetings rfl k0_25 rfl rfl rfl (Nat.le_of_ble_eq_true rfl) ⟨Nat.le_of_ble_eq_true rfl, Nat.le_of_ble_eq_true rfl⟩ (r_Mo_addMeetings hV hq1) ?_
    refine g_iinc (v := q.1 + 1) (ls1 := [some (.ref 40), some (.int (q.1 + 1)), some (.int (atF (gi q.2 41) 8 q.1))]) (pc := 31) dX1_meet_31 rfl rfl (by decide) rfl ?_
    refine g_goto (tgt := 2) (pc := 34) dX1_meet_34 (by decide) ?_
    refine g_wk [true, true, false] rfl ?_
    cases h
    exact hK
set_option maxRecDepth 4000 in
theorem w_Hr_meet_L2 {V : Sm → Wd} (hV : VwC V) {l : Launch} {Γ : Gm} {rF : Option Value} {wF : Wd}  {k : Nat} {q : Int32 × Sm} {o : Sm} (h : lpN (Hr_meet_L2) k q = some o) (hP : ps_Hr_meet_L2 V l Γ rF wF o) : hd_Hr_meet_L2 V l Γ rF wF q := lpN_ind2 (hd_Hr_meet_L2 V l Γ rF wF) (ps_Hr_meet_L2 V l Γ rF wF) (fun s o h hK => t_Hr_meet_L2 hV h hK) k q o h hP
def Hr_meet (S : Sm) : Option (Sm) := ((lpN (Hr_meet_L2) FU (0, S)).bind fun q3 => (some q3))
set_option maxRecDepth 4000 in
theorem r_Hr_meet {V : Sm → Wd} (hV : VwC V)  {S : Sm} {q : Sm} (h : Hr_meet S = some q) : Runs 1 mX1_meet [.ref 40] (V S) none (V q) 0 0 := by
  unfold Hr_meet at h
  refine Runs.of2 [some (.ref 40), none, none] 2 rfl rfl (Nat.le_of_ble_eq_true rfl) (fun l Γ => ?_)
  refine g_iconst (v := 0) (pc := 0) dX1_meet_0 (by decide) ?_
  refine g_istore_n (ls1 := [some (.ref 40), some (.int 0), none]) (pc := 1) dX1_meet_1 (by decide) rfl ?_
  obtain ⟨q3, hqq3, h⟩ := bnd h
  refine w_Hr_meet_L2 hV hqq3 ?_
  unfold ps_Hr_meet_L2
  show G _ _ _ _ _ _ _ _ _ _ _
  cases h
  exact g_vret (pc := 37) dX1_meet_37 rfl (Nat.le_refl _) (Nat.le_refl _)
